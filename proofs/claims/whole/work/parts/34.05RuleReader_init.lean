set_option maxHeartbeats 4000000 in
set_option maxRecDepth 100000 in
theorem ct_RuleReader_init {x : Nat → ZE} {h : ZH} {a n : Nat} {tp : Nat} (cA : zz_c h a (.inr (5, [.null, .null, .int 0, .int 0, .int 0, .int 0, .int 0]))) (hn : h.1 = n) (ha : a < n) (hl : n < 800000)  : zz_ct zt_ms zt_nm zt_df x 0 zt_m54 [.ref a, .ref tp] h (fun r h2 => r = none ∧ h2.1 = n + 1 ∧ h2.2.1 = h.2.1 + 64 ∧ zz_c h2 a (.inr (5, [.ref tp, .ref n, .int 0, .int 0, .int 0, .int 0, .int 0])) ∧ zz_c h2 n (.inl (.int, 64, .inl (fun _ => 0))) ∧ zz_fo (fun k => k = a ∨ n ≤ k) h h2) := by
  change zz_wp zt_ms zt_nm zt_df x 0 zt_m54 0 [(0, .ref a), (1, .ref tp)] [] h _
  have f0 : zz_fA a n h h := zz_fA.rf
  have t0 : h.2.1 = h.2.1 + 0 := rfl
  refine w_aload_n (pc2 := 1) rfl rfl rfl ?_
  refine w_objinit (pc2 := 4) rfl (Nat.le_of_ble_eq_true rfl) (by omega) rfl ?_
  refine w_aload_n (pc2 := 5) rfl rfl rfl ?_
  refine w_bipush (pc2 := 7) rfl rfl ?_
  refine w_newarray (pc2 := 9) (n := n) (N := 64) (en := .inl (.int, 64, .inl (fun _ => 0))) rfl hn (by omega) rfl rfl (fun h405 u406 => ?_)
  have c407 := u406.off cA hn (zz_neA (j := 0) ha)
  have c408 := u406.self hn (by omega)
  have f409 := f0.mk u406 hn (Nat.le_add_right _ 0)
  have t410 := zz_sl_mk (s2 := 64) t0 u406 rfl
  have n411 := u406.cnt hn
  refine w_putfield (pc2 := 12) (en := .inr (5, [.null, .ref n, .int 0, .int 0, .int 0, .int 0, .int 0])) rfl c407 rfl (Nat.le_of_ble_eq_true rfl) rfl rfl rfl (fun h412 u413 => ?_)
  have c414 := u413.self c407
  have c415 := u413.off c408 (zz_neA (j := 0) ha).symm
  have n416 := u413.cnt n411
  have f417 := f409.up u413 (Or.inl rfl)
  have t418 := zz_sl_up t410 u413
  refine w_aload_n (pc2 := 13) rfl rfl rfl ?_
  refine w_aload_n (pc2 := 14) rfl rfl rfl ?_
  refine w_putfield (pc2 := 17) (en := .inr (5, [.ref tp, .ref n, .int 0, .int 0, .int 0, .int 0, .int 0])) rfl c414 rfl (Nat.le_of_ble_eq_true rfl) rfl rfl rfl (fun h419 u420 => ?_)
  have c421 := u420.self c414
  have c422 := u420.off c415 (zz_neA (j := 0) ha).symm
  have n423 := u420.cnt n416
  have f424 := f417.up u420 (Or.inl rfl)
  have t425 := zz_sl_up t418 u420
  exact w_vret rfl rfl ⟨rfl, n423, t425, c421, c422, f424⟩
