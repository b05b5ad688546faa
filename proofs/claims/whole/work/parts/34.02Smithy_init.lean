set_option maxHeartbeats 4000000 in
set_option maxRecDepth 100000 in
theorem ct_Smithy_init {x : Nat → ZE} {h : ZH} {a n : Nat}  (cA : zz_c h a (.inr (6, [.int 0, .int 0, .int 0, .int 0, .int 0, .null, .null, .null, .null, .null]))) (hn : h.1 = n) (ha : a < n) (hl : n < 800000)  : zz_ct zt_ms zt_nm zt_df x 0 zt_m69 [.ref a] h (fun r h2 => r = none ∧ h2.1 = n + 5 ∧ h2.2.1 = h.2.1 + 51 ∧ zz_c h2 a (.inr (6, [.int 0, .int 0, .int 0, .int 0, .int 0, .ref n, .ref (n + 1), .ref (n + 2), .ref (n + 3), .ref (n + 4)])) ∧ zz_c h2 n (.inl (.int, 5, .inl (fun _ => 0))) ∧ zz_c h2 (n + 1) (.inl (.int, 5, .inl (fun _ => 0))) ∧ zz_c h2 (n + 2) (.inl (.int, 5, .inl (fun _ => 0))) ∧ zz_c h2 (n + 3) (.inl (.int, 6, .inl (fun _ => 0))) ∧ zz_c h2 (n + 4) (.inl (.int, 30, .inl (fun _ => 0))) ∧ zz_fo (fun k => k = a ∨ n ≤ k) h h2) := by
  change zz_wp zt_ms zt_nm zt_df x 0 zt_m69 0 [(0, .ref a)] [] h _
  have f0 : zz_fA a n h h := zz_fA.rf
  have t0 : h.2.1 = h.2.1 + 0 := rfl
  refine w_aload_n (pc2 := 1) rfl rfl rfl ?_
  refine w_objinit (pc2 := 4) rfl (Nat.le_of_ble_eq_true rfl) (by omega) rfl ?_
  refine w_aload_n (pc2 := 5) rfl rfl rfl ?_
  refine w_iconst (pc2 := 6) rfl rfl ?_
  refine w_newarray (pc2 := 8) (n := n) (N := 5) (en := .inl (.int, 5, .inl (fun _ => 0))) rfl hn (by omega) rfl rfl (fun h83 u84 => ?_)
  have c85 := u84.off cA hn (zz_neA (j := 0) ha)
  have c86 := u84.self hn (by omega)
  have f87 := f0.mk u84 hn (Nat.le_add_right _ 0)
  have t88 := zz_sl_mk (s2 := 5) t0 u84 rfl
  have n89 := u84.cnt hn
  refine w_putfield (pc2 := 11) (en := .inr (6, [.int 0, .int 0, .int 0, .int 0, .int 0, .ref n, .null, .null, .null, .null])) rfl c85 rfl (Nat.le_of_ble_eq_true rfl) rfl rfl rfl (fun h90 u91 => ?_)
  have c92 := u91.self c85
  have c93 := u91.off c86 (zz_neA (j := 0) ha).symm
  have n94 := u91.cnt n89
  have f95 := f87.up u91 (Or.inl rfl)
  have t96 := zz_sl_up t88 u91
  refine w_aload_n (pc2 := 12) rfl rfl rfl ?_
  refine w_iconst (pc2 := 13) rfl rfl ?_
  refine w_newarray (pc2 := 15) (n := n + 1) (N := 5) (en := .inl (.int, 5, .inl (fun _ => 0))) rfl n94 (by omega) rfl rfl (fun h97 u98 => ?_)
  have c99 := u98.off c92 n94 (zz_neA (j := 1) ha)
  have c100 := u98.off c93 n94 (zz_ne0 (n := n) (j := 1) (by decide))
  have c101 := u98.self n94 (by omega)
  have f102 := f95.mk u98 n94 (Nat.le_add_right _ 1)
  have t103 := zz_sl_mk (s2 := 10) t96 u98 rfl
  have n104 := u98.cnt n94
  refine w_putfield (pc2 := 18) (en := .inr (6, [.int 0, .int 0, .int 0, .int 0, .int 0, .ref n, .ref (n + 1), .null, .null, .null])) rfl c99 rfl (Nat.le_of_ble_eq_true rfl) rfl rfl rfl (fun h105 u106 => ?_)
  have c107 := u106.self c99
  have c108 := u106.off c100 (zz_neA (j := 0) ha).symm
  have c109 := u106.off c101 (zz_neA (j := 1) ha).symm
  have n110 := u106.cnt n104
  have f111 := f102.up u106 (Or.inl rfl)
  have t112 := zz_sl_up t103 u106
  refine w_aload_n (pc2 := 19) rfl rfl rfl ?_
  refine w_iconst (pc2 := 20) rfl rfl ?_
  refine w_newarray (pc2 := 22) (n := n + 2) (N := 5) (en := .inl (.int, 5, .inl (fun _ => 0))) rfl n110 (by omega) rfl rfl (fun h113 u114 => ?_)
  have c115 := u114.off c107 n110 (zz_neA (j := 2) ha)
  have c116 := u114.off c108 n110 (zz_ne0 (n := n) (j := 2) (by decide))
  have c117 := u114.off c109 n110 (zz_ne1 (n := n) (i := 1) (j := 2) (by decide))
  have c118 := u114.self n110 (by omega)
  have f119 := f111.mk u114 n110 (Nat.le_add_right _ 2)
  have t120 := zz_sl_mk (s2 := 15) t112 u114 rfl
  have n121 := u114.cnt n110
  refine w_putfield (pc2 := 25) (en := .inr (6, [.int 0, .int 0, .int 0, .int 0, .int 0, .ref n, .ref (n + 1), .ref (n + 2), .null, .null])) rfl c115 rfl (Nat.le_of_ble_eq_true rfl) rfl rfl rfl (fun h122 u123 => ?_)
  have c124 := u123.self c115
  have c125 := u123.off c116 (zz_neA (j := 0) ha).symm
  have c126 := u123.off c117 (zz_neA (j := 1) ha).symm
  have c127 := u123.off c118 (zz_neA (j := 2) ha).symm
  have n128 := u123.cnt n121
  have f129 := f119.up u123 (Or.inl rfl)
  have t130 := zz_sl_up t120 u123
  refine w_aload_n (pc2 := 26) rfl rfl rfl ?_
  refine w_bipush (pc2 := 28) rfl rfl ?_
  refine w_newarray (pc2 := 30) (n := n + 3) (N := 6) (en := .inl (.int, 6, .inl (fun _ => 0))) rfl n128 (by omega) rfl rfl (fun h131 u132 => ?_)
  have c133 := u132.off c124 n128 (zz_neA (j := 3) ha)
  have c134 := u132.off c125 n128 (zz_ne0 (n := n) (j := 3) (by decide))
  have c135 := u132.off c126 n128 (zz_ne1 (n := n) (i := 1) (j := 3) (by decide))
  have c136 := u132.off c127 n128 (zz_ne1 (n := n) (i := 2) (j := 3) (by decide))
  have c137 := u132.self n128 (by omega)
  have f138 := f129.mk u132 n128 (Nat.le_add_right _ 3)
  have t139 := zz_sl_mk (s2 := 21) t130 u132 rfl
  have n140 := u132.cnt n128
  refine w_putfield (pc2 := 33) (en := .inr (6, [.int 0, .int 0, .int 0, .int 0, .int 0, .ref n, .ref (n + 1), .ref (n + 2), .ref (n + 3), .null])) rfl c133 rfl (Nat.le_of_ble_eq_true rfl) rfl rfl rfl (fun h141 u142 => ?_)
  have c143 := u142.self c133
  have c144 := u142.off c134 (zz_neA (j := 0) ha).symm
  have c145 := u142.off c135 (zz_neA (j := 1) ha).symm
  have c146 := u142.off c136 (zz_neA (j := 2) ha).symm
  have c147 := u142.off c137 (zz_neA (j := 3) ha).symm
  have n148 := u142.cnt n140
  have f149 := f138.up u142 (Or.inl rfl)
  have t150 := zz_sl_up t139 u142
  refine w_aload_n (pc2 := 34) rfl rfl rfl ?_
  refine w_bipush (pc2 := 36) rfl rfl ?_
  refine w_newarray (pc2 := 38) (n := n + 4) (N := 30) (en := .inl (.int, 30, .inl (fun _ => 0))) rfl n148 (by omega) rfl rfl (fun h151 u152 => ?_)
  have c153 := u152.off c143 n148 (zz_neA (j := 4) ha)
  have c154 := u152.off c144 n148 (zz_ne0 (n := n) (j := 4) (by decide))
  have c155 := u152.off c145 n148 (zz_ne1 (n := n) (i := 1) (j := 4) (by decide))
  have c156 := u152.off c146 n148 (zz_ne1 (n := n) (i := 2) (j := 4) (by decide))
  have c157 := u152.off c147 n148 (zz_ne1 (n := n) (i := 3) (j := 4) (by decide))
  have c158 := u152.self n148 (by omega)
  have f159 := f149.mk u152 n148 (Nat.le_add_right _ 4)
  have t160 := zz_sl_mk (s2 := 51) t150 u152 rfl
  have n161 := u152.cnt n148
  refine w_putfield (pc2 := 41) (en := .inr (6, [.int 0, .int 0, .int 0, .int 0, .int 0, .ref n, .ref (n + 1), .ref (n + 2), .ref (n + 3), .ref (n + 4)])) rfl c153 rfl (Nat.le_of_ble_eq_true rfl) rfl rfl rfl (fun h162 u163 => ?_)
  have c164 := u163.self c153
  have c165 := u163.off c154 (zz_neA (j := 0) ha).symm
  have c166 := u163.off c155 (zz_neA (j := 1) ha).symm
  have c167 := u163.off c156 (zz_neA (j := 2) ha).symm
  have c168 := u163.off c157 (zz_neA (j := 3) ha).symm
  have c169 := u163.off c158 (zz_neA (j := 4) ha).symm
  have n170 := u163.cnt n161
  have f171 := f159.up u163 (Or.inl rfl)
  have t172 := zz_sl_up t160 u163
  exact w_vret rfl rfl ⟨rfl, n170, t172, c164, c165, c166, c167, c168, c169, f171⟩
