set_option maxHeartbeats 4000000 in
set_option maxRecDepth 100000 in
theorem ct_Tape_init {x : Nat → ZE} {h : ZH} {a n : Nat}  (cA : zz_c h a (.inr (8, [.null, .int 0, .int 0, .int 0]))) (hn : h.1 = n) (ha : a < n) (hl : n < 800000)  : zz_ct zt_ms zt_nm zt_df x 0 zt_m89 [.ref a] h (fun r h2 => r = none ∧ h2.1 = n + 1 ∧ h2.2.1 = h.2.1 + 400 ∧ zz_c h2 a (.inr (8, [.ref n, .int 0, .int 0, .int 0])) ∧ zz_c h2 n (.inl (.byte, 400, .inl (fun _ => 0))) ∧ zz_fo (fun k => k = a ∨ n ≤ k) h h2) := by
  change zz_wp zt_ms zt_nm zt_df x 0 zt_m89 0 [(0, .ref a)] [] h _
  have f0 : zz_fA a n h h := zz_fA.rf
  have t0 : h.2.1 = h.2.1 + 0 := rfl
  refine w_aload_n (pc2 := 1) rfl rfl rfl ?_
  refine w_objinit (pc2 := 4) rfl (Nat.le_of_ble_eq_true rfl) (by omega) rfl ?_
  refine w_aload_n (pc2 := 5) rfl rfl rfl ?_
  refine w_sipush (pc2 := 8) rfl rfl ?_
  refine w_newarray (pc2 := 10) (n := n) (N := 400) (en := .inl (.byte, 400, .inl (fun _ => 0))) rfl hn (by omega) rfl rfl (fun h1 u2 => ?_)
  have c3 := u2.off cA hn (zz_neA (j := 0) ha)
  have c4 := u2.self hn (by omega)
  have f5 := f0.mk u2 hn (Nat.le_add_right _ 0)
  have t6 := zz_sl_mk (s2 := 400) t0 u2 rfl
  have n7 := u2.cnt hn
  refine w_putfield (pc2 := 13) (en := .inr (8, [.ref n, .int 0, .int 0, .int 0])) rfl c3 rfl (Nat.le_of_ble_eq_true rfl) rfl rfl rfl (fun h8 u9 => ?_)
  have c10 := u9.self c3
  have c11 := u9.off c4 (zz_neA (j := 0) ha).symm
  have n12 := u9.cnt n7
  have f13 := f5.up u9 (Or.inl rfl)
  have t14 := zz_sl_up t6 u9
  exact w_vret rfl rfl ⟨rfl, n12, t14, c10, c11, f13⟩
