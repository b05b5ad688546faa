set_option maxHeartbeats 4000000 in
set_option maxRecDepth 100000 in
theorem ct_State_init {x : Nat → ZE} {h : ZH} {a n : Nat}  (cA : zz_c h a (.inr (7, [.int 0, .int 0, .null, .null, .null, .null]))) (hn : h.1 = n) (ha : a < n) (hl : n < 800000)  : zz_ct zt_ms zt_nm zt_df x 0 zt_m83 [.ref a] h (fun r h2 => r = none ∧ h2.1 = n + 4 ∧ h2.2.1 = h.2.1 + 45 ∧ zz_c h2 a (.inr (7, [.int 0, .int 0, .ref n, .ref (n + 1), .ref (n + 2), .ref (n + 3)])) ∧ zz_c h2 n (.inl (.int, 5, .inl (fun _ => 0))) ∧ zz_c h2 (n + 1) (.inl (.int, 5, .inl (fun _ => 0))) ∧ zz_c h2 (n + 2) (.inl (.int, 5, .inl (fun _ => 0))) ∧ zz_c h2 (n + 3) (.inl (.int, 30, .inl (fun _ => 0))) ∧ zz_fo (fun k => k = a ∨ n ≤ k) h h2) := by
  change zz_wp zt_ms zt_nm zt_df x 0 zt_m83 0 [(0, .ref a)] [] h _
  have f0 : zz_fA a n h h := zz_fA.rf
  have t0 : h.2.1 = h.2.1 + 0 := rfl
  refine w_aload_n (pc2 := 1) rfl rfl rfl ?_
  refine w_objinit (pc2 := 4) rfl (Nat.le_of_ble_eq_true rfl) (by omega) rfl ?_
  refine w_aload_n (pc2 := 5) rfl rfl rfl ?_
  refine w_iconst (pc2 := 6) rfl rfl ?_
  refine w_newarray (pc2 := 8) (n := n) (N := 5) (en := .inl (.int, 5, .inl (fun _ => 0))) rfl hn (by omega) rfl rfl (fun h15 u16 => ?_)
  have c17 := u16.off cA hn (zz_neA (j := 0) ha)
  have c18 := u16.self hn (by omega)
  have f19 := f0.mk u16 hn (Nat.le_add_right _ 0)
  have t20 := zz_sl_mk (s2 := 5) t0 u16 rfl
  have n21 := u16.cnt hn
  refine w_putfield (pc2 := 11) (en := .inr (7, [.int 0, .int 0, .ref n, .null, .null, .null])) rfl c17 rfl (Nat.le_of_ble_eq_true rfl) rfl rfl rfl (fun h22 u23 => ?_)
  have c24 := u23.self c17
  have c25 := u23.off c18 (zz_neA (j := 0) ha).symm
  have n26 := u23.cnt n21
  have f27 := f19.up u23 (Or.inl rfl)
  have t28 := zz_sl_up t20 u23
  refine w_aload_n (pc2 := 12) rfl rfl rfl ?_
  refine w_iconst (pc2 := 13) rfl rfl ?_
  refine w_newarray (pc2 := 15) (n := n + 1) (N := 5) (en := .inl (.int, 5, .inl (fun _ => 0))) rfl n26 (by omega) rfl rfl (fun h29 u30 => ?_)
  have c31 := u30.off c24 n26 (zz_neA (j := 1) ha)
  have c32 := u30.off c25 n26 (zz_ne0 (n := n) (j := 1) (by decide))
  have c33 := u30.self n26 (by omega)
  have f34 := f27.mk u30 n26 (Nat.le_add_right _ 1)
  have t35 := zz_sl_mk (s2 := 10) t28 u30 rfl
  have n36 := u30.cnt n26
  refine w_putfield (pc2 := 18) (en := .inr (7, [.int 0, .int 0, .ref n, .ref (n + 1), .null, .null])) rfl c31 rfl (Nat.le_of_ble_eq_true rfl) rfl rfl rfl (fun h37 u38 => ?_)
  have c39 := u38.self c31
  have c40 := u38.off c32 (zz_neA (j := 0) ha).symm
  have c41 := u38.off c33 (zz_neA (j := 1) ha).symm
  have n42 := u38.cnt n36
  have f43 := f34.up u38 (Or.inl rfl)
  have t44 := zz_sl_up t35 u38
  refine w_aload_n (pc2 := 19) rfl rfl rfl ?_
  refine w_iconst (pc2 := 20) rfl rfl ?_
  refine w_newarray (pc2 := 22) (n := n + 2) (N := 5) (en := .inl (.int, 5, .inl (fun _ => 0))) rfl n42 (by omega) rfl rfl (fun h45 u46 => ?_)
  have c47 := u46.off c39 n42 (zz_neA (j := 2) ha)
  have c48 := u46.off c40 n42 (zz_ne0 (n := n) (j := 2) (by decide))
  have c49 := u46.off c41 n42 (zz_ne1 (n := n) (i := 1) (j := 2) (by decide))
  have c50 := u46.self n42 (by omega)
  have f51 := f43.mk u46 n42 (Nat.le_add_right _ 2)
  have t52 := zz_sl_mk (s2 := 15) t44 u46 rfl
  have n53 := u46.cnt n42
  refine w_putfield (pc2 := 25) (en := .inr (7, [.int 0, .int 0, .ref n, .ref (n + 1), .ref (n + 2), .null])) rfl c47 rfl (Nat.le_of_ble_eq_true rfl) rfl rfl rfl (fun h54 u55 => ?_)
  have c56 := u55.self c47
  have c57 := u55.off c48 (zz_neA (j := 0) ha).symm
  have c58 := u55.off c49 (zz_neA (j := 1) ha).symm
  have c59 := u55.off c50 (zz_neA (j := 2) ha).symm
  have n60 := u55.cnt n53
  have f61 := f51.up u55 (Or.inl rfl)
  have t62 := zz_sl_up t52 u55
  refine w_aload_n (pc2 := 26) rfl rfl rfl ?_
  refine w_bipush (pc2 := 28) rfl rfl ?_
  refine w_newarray (pc2 := 30) (n := n + 3) (N := 30) (en := .inl (.int, 30, .inl (fun _ => 0))) rfl n60 (by omega) rfl rfl (fun h63 u64 => ?_)
  have c65 := u64.off c56 n60 (zz_neA (j := 3) ha)
  have c66 := u64.off c57 n60 (zz_ne0 (n := n) (j := 3) (by decide))
  have c67 := u64.off c58 n60 (zz_ne1 (n := n) (i := 1) (j := 3) (by decide))
  have c68 := u64.off c59 n60 (zz_ne1 (n := n) (i := 2) (j := 3) (by decide))
  have c69 := u64.self n60 (by omega)
  have f70 := f61.mk u64 n60 (Nat.le_add_right _ 3)
  have t71 := zz_sl_mk (s2 := 45) t62 u64 rfl
  have n72 := u64.cnt n60
  refine w_putfield (pc2 := 33) (en := .inr (7, [.int 0, .int 0, .ref n, .ref (n + 1), .ref (n + 2), .ref (n + 3)])) rfl c65 rfl (Nat.le_of_ble_eq_true rfl) rfl rfl rfl (fun h73 u74 => ?_)
  have c75 := u74.self c65
  have c76 := u74.off c66 (zz_neA (j := 0) ha).symm
  have c77 := u74.off c67 (zz_neA (j := 1) ha).symm
  have c78 := u74.off c68 (zz_neA (j := 2) ha).symm
  have c79 := u74.off c69 (zz_neA (j := 3) ha).symm
  have n80 := u74.cnt n72
  have f81 := f70.up u74 (Or.inl rfl)
  have t82 := zz_sl_up t71 u74
  exact w_vret rfl rfl ⟨rfl, n80, t82, c75, c76, c77, c78, c79, f81⟩
