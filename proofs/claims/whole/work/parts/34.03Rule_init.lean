set_option maxHeartbeats 4000000 in
set_option maxRecDepth 100000 in
theorem ct_Rule_init {x : Nat → ZE} {h : ZH} {a n : Nat}  (cA : zz_c h a (.inr (4, [.null, .int 0]))) (hn : h.1 = n) (ha : a < n) (hl : n < 800000)  : zz_ct zt_ms zt_nm zt_df x 0 zt_m49 [.ref a] h (fun r h2 => r = none ∧ h2.1 = n + 1 ∧ h2.2.1 = h.2.1 + 400 ∧ zz_c h2 a (.inr (4, [.ref n, .int 0])) ∧ zz_c h2 n (.inl (.int, 400, .inl (fun _ => 0))) ∧ zz_fo (fun k => k = a ∨ n ≤ k) h h2) := by
  change zz_wp zt_ms zt_nm zt_df x 0 zt_m49 0 [(0, .ref a)] [] h _
  have f0 : zz_fA a n h h := zz_fA.rf
  have t0 : h.2.1 = h.2.1 + 0 := rfl
  refine w_aload_n (pc2 := 1) rfl rfl rfl ?_
  refine w_objinit (pc2 := 4) rfl (Nat.le_of_ble_eq_true rfl) (by omega) rfl ?_
  refine w_aload_n (pc2 := 5) rfl rfl rfl ?_
  refine w_sipush (pc2 := 8) rfl rfl ?_
  refine w_newarray (pc2 := 10) (n := n) (N := 400) (en := .inl (.int, 400, .inl (fun _ => 0))) rfl hn (by omega) rfl rfl (fun h173 u174 => ?_)
  have c175 := u174.off cA hn (zz_neA (j := 0) ha)
  have c176 := u174.self hn (by omega)
  have f177 := f0.mk u174 hn (Nat.le_add_right _ 0)
  have t178 := zz_sl_mk (s2 := 400) t0 u174 rfl
  have n179 := u174.cnt hn
  refine w_putfield (pc2 := 13) (en := .inr (4, [.ref n, .int 0])) rfl c175 rfl (Nat.le_of_ble_eq_true rfl) rfl rfl rfl (fun h180 u181 => ?_)
  have c182 := u181.self c175
  have c183 := u181.off c176 (zz_neA (j := 0) ha).symm
  have n184 := u181.cnt n179
  have f185 := f177.up u181 (Or.inl rfl)
  have t186 := zz_sl_up t178 u181
  exact w_vret rfl rfl ⟨rfl, n184, t186, c182, c183, f185⟩
