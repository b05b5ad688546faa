set_option maxHeartbeats 4000000 in
set_option maxRecDepth 100000 in
theorem ct_Handiwork_init {x : Nat → ZE} {h : ZH} {a n : Nat} {wo : Nat} (cA : zz_c h a (.inr (1, [.null, .null, .null]))) (hn : h.1 = n) (ha : a < n) (hl : n < 800000)  : zz_ct zt_ms zt_nm zt_df x 0 zt_m19 [.ref a, .ref wo] h (fun r h2 => r = none ∧ h2.1 = n + 2 ∧ h2.2.1 = h.2.1 + 126 ∧ zz_c h2 a (.inr (1, [.ref wo, .ref n, .ref (n + 1)])) ∧ zz_c h2 n (.inl (.int, 121, .inl (fun _ => 0))) ∧ zz_c h2 (n + 1) (.inl (.int, 5, .inl (fun _ => 0))) ∧ zz_fo (fun k => k = a ∨ n ≤ k) h h2) := by
  change zz_wp zt_ms zt_nm zt_df x 0 zt_m19 0 [(0, .ref a), (1, .ref wo)] [] h _
  have f0 : zz_fA a n h h := zz_fA.rf
  have t0 : h.2.1 = h.2.1 + 0 := rfl
  refine w_aload_n (pc2 := 1) rfl rfl rfl ?_
  refine w_objinit (pc2 := 4) rfl (Nat.le_of_ble_eq_true rfl) (by omega) rfl ?_
  refine w_aload_n (pc2 := 5) rfl rfl rfl ?_
  refine w_bipush (pc2 := 7) rfl rfl ?_
  refine w_newarray (pc2 := 9) (n := n) (N := 121) (en := .inl (.int, 121, .inl (fun _ => 0))) rfl hn (by omega) rfl rfl (fun h599 u600 => ?_)
  have c601 := u600.off cA hn (zz_neA (j := 0) ha)
  have c602 := u600.self hn (by omega)
  have f603 := f0.mk u600 hn (Nat.le_add_right _ 0)
  have t604 := zz_sl_mk (s2 := 121) t0 u600 rfl
  have n605 := u600.cnt hn
  refine w_putfield (pc2 := 12) (en := .inr (1, [.null, .ref n, .null])) rfl c601 rfl (Nat.le_of_ble_eq_true rfl) rfl rfl rfl (fun h606 u607 => ?_)
  have c608 := u607.self c601
  have c609 := u607.off c602 (zz_neA (j := 0) ha).symm
  have n610 := u607.cnt n605
  have f611 := f603.up u607 (Or.inl rfl)
  have t612 := zz_sl_up t604 u607
  refine w_aload_n (pc2 := 13) rfl rfl rfl ?_
  refine w_iconst (pc2 := 14) rfl rfl ?_
  refine w_newarray (pc2 := 16) (n := n + 1) (N := 5) (en := .inl (.int, 5, .inl (fun _ => 0))) rfl n610 (by omega) rfl rfl (fun h613 u614 => ?_)
  have c615 := u614.off c608 n610 (zz_neA (j := 1) ha)
  have c616 := u614.off c609 n610 (zz_ne0 (n := n) (j := 1) (by decide))
  have c617 := u614.self n610 (by omega)
  have f618 := f611.mk u614 n610 (Nat.le_add_right _ 1)
  have t619 := zz_sl_mk (s2 := 126) t612 u614 rfl
  have n620 := u614.cnt n610
  refine w_putfield (pc2 := 19) (en := .inr (1, [.null, .ref n, .ref (n + 1)])) rfl c615 rfl (Nat.le_of_ble_eq_true rfl) rfl rfl rfl (fun h621 u622 => ?_)
  have c623 := u622.self c615
  have c624 := u622.off c616 (zz_neA (j := 0) ha).symm
  have c625 := u622.off c617 (zz_neA (j := 1) ha).symm
  have n626 := u622.cnt n620
  have f627 := f618.up u622 (Or.inl rfl)
  have t628 := zz_sl_up t619 u622
  refine w_aload_n (pc2 := 20) rfl rfl rfl ?_
  refine w_aload_n (pc2 := 21) rfl rfl rfl ?_
  refine w_putfield (pc2 := 24) (en := .inr (1, [.ref wo, .ref n, .ref (n + 1)])) rfl c623 rfl (Nat.le_of_ble_eq_true rfl) rfl rfl rfl (fun h629 u630 => ?_)
  have c631 := u630.self c623
  have c632 := u630.off c624 (zz_neA (j := 0) ha).symm
  have c633 := u630.off c625 (zz_neA (j := 1) ha).symm
  have n634 := u630.cnt n626
  have f635 := f627.up u630 (Or.inl rfl)
  have t636 := zz_sl_up t628 u630
  exact w_vret rfl rfl ⟨rfl, n634, t636, c631, c632, c633, f635⟩
