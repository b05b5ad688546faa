set_option maxHeartbeats 4000000 in
set_option maxRecDepth 100000 in
theorem ct_Foresight_init {x : Nat → ZE} {h : ZH} {a n : Nat} {wo mi : Nat} (cA : zz_c h a (.inr (0, [.null, .null, .null, .null, .int 0, .int 0]))) (hn : h.1 = n) (ha : a < n) (hl : n < 790000)  : zz_ct zt_ms zt_nm zt_df x 1 zt_m0 [.ref a, .ref wo, .ref mi] h (fun r h2 => r = none ∧ h2.1 = n + 6 ∧ h2.2.1 = h.2.1 + 86 ∧ zz_c h2 a (.inr (0, [.ref wo, .ref mi, .ref n, .ref (n + 5), .int 0, .int 0])) ∧ zz_c h2 n (.inr (7, [.int 0, .int 0, .ref (n + 1), .ref (n + 2), .ref (n + 3), .ref (n + 4)])) ∧ zz_c h2 (n + 1) (.inl (.int, 5, .inl (fun _ => 0))) ∧ zz_c h2 (n + 2) (.inl (.int, 5, .inl (fun _ => 0))) ∧ zz_c h2 (n + 3) (.inl (.int, 5, .inl (fun _ => 0))) ∧ zz_c h2 (n + 4) (.inl (.int, 30, .inl (fun _ => 0))) ∧ zz_c h2 (n + 5) (.inl (.int, 35, .inl (fun _ => 0))) ∧ zz_fo (fun k => k = a ∨ n ≤ k) h h2) := by
  change zz_wp zt_ms zt_nm zt_df x 1 zt_m0 0 [(0, .ref a), (1, .ref wo), (2, .ref mi)] [] h _
  have f0 : zz_fA a n h h := zz_fA.rf
  have t0 : h.2.1 = h.2.1 + 0 := rfl
  refine w_aload_n (pc2 := 1) rfl rfl rfl ?_
  refine w_objinit (pc2 := 4) rfl (Nat.le_of_ble_eq_true rfl) (by omega) rfl ?_
  refine w_aload_n (pc2 := 5) rfl rfl rfl ?_
  refine w_new (pc2 := 8) (n := n) (sl := 6) (en := .inr (7, [.int 0, .int 0, .null, .null, .null, .null])) rfl hn (by omega) rfl rfl rfl (fun h519 u520 => ?_)
  have c521 := u520.off cA hn (zz_neA (j := 0) ha)
  have c522 := u520.self hn (by omega)
  have f523 := f0.mk u520 hn (Nat.le_add_right _ 0)
  have t524 := zz_sl_mk (s2 := 6) t0 u520 rfl
  have n525 := u520.cnt hn
  refine w_dup (pc2 := 9) rfl rfl rfl ?_
  refine w_calli (pc2 := 12) (c := zt_m83) (as := [.ref n]) (rest := [.ref n, .ref a]) rfl rfl rfl rfl rfl c522.look rfl (Nat.le_of_ble_eq_true rfl) (Nat.le_of_ble_eq_true rfl) (ct_State_init (x := x) (a := n) (n := n + 1) c522 n525 (Nat.lt_succ_self _) (by omega)) (by decide) rfl (fun r h536 q535 => ?_)
  obtain ⟨rfl, n527, s528, c530, c531, c532, c533, c534, f529⟩ := q535
  have c537 := f529.off c521 (fun q => q.elim (zz_neA (j := 0) ha) (fun z => absurd z (Nat.not_le.mpr (Nat.lt_of_lt_of_le ha (Nat.le_add_right _ _)))))
  have f538 := f523.call f529 (Nat.le_add_right _ 0) (Nat.le_add_right _ 1)
  have t539 := zz_sl_call (s2 := 51) t524 s528 rfl
  change zz_wp zt_ms zt_nm zt_df x 1 zt_m0 12 [(0, .ref a), (1, .ref wo), (2, .ref mi)] [.ref n, .ref a] h536 _
  refine w_putfield (pc2 := 15) (en := .inr (0, [.null, .null, .ref n, .null, .int 0, .int 0])) rfl c537 rfl (Nat.le_of_ble_eq_true rfl) rfl rfl rfl (fun h540 u541 => ?_)
  have c542 := u541.self c537
  have c543 := u541.off c530 (zz_neA (j := 0) ha).symm
  have c544 := u541.off c531 (zz_neA (j := 1) ha).symm
  have c545 := u541.off c532 (zz_neA (j := 2) ha).symm
  have c546 := u541.off c533 (zz_neA (j := 3) ha).symm
  have c547 := u541.off c534 (zz_neA (j := 4) ha).symm
  have n548 := u541.cnt n527
  have f549 := f538.up u541 (Or.inl rfl)
  have t550 := zz_sl_up t539 u541
  refine w_aload_n (pc2 := 16) rfl rfl rfl ?_
  refine w_bipush (pc2 := 18) rfl rfl ?_
  refine w_newarray (pc2 := 20) (n := n + 5) (N := 35) (en := .inl (.int, 35, .inl (fun _ => 0))) rfl n548 (by omega) rfl rfl (fun h551 u552 => ?_)
  have c553 := u552.off c542 n548 (zz_neA (j := 5) ha)
  have c554 := u552.off c543 n548 (zz_ne0 (n := n) (j := 5) (by decide))
  have c555 := u552.off c544 n548 (zz_ne1 (n := n) (i := 1) (j := 5) (by decide))
  have c556 := u552.off c545 n548 (zz_ne1 (n := n) (i := 2) (j := 5) (by decide))
  have c557 := u552.off c546 n548 (zz_ne1 (n := n) (i := 3) (j := 5) (by decide))
  have c558 := u552.off c547 n548 (zz_ne1 (n := n) (i := 4) (j := 5) (by decide))
  have c559 := u552.self n548 (by omega)
  have f560 := f549.mk u552 n548 (Nat.le_add_right _ 5)
  have t561 := zz_sl_mk (s2 := 86) t550 u552 rfl
  have n562 := u552.cnt n548
  refine w_putfield (pc2 := 23) (en := .inr (0, [.null, .null, .ref n, .ref (n + 5), .int 0, .int 0])) rfl c553 rfl (Nat.le_of_ble_eq_true rfl) rfl rfl rfl (fun h563 u564 => ?_)
  have c565 := u564.self c553
  have c566 := u564.off c554 (zz_neA (j := 0) ha).symm
  have c567 := u564.off c555 (zz_neA (j := 1) ha).symm
  have c568 := u564.off c556 (zz_neA (j := 2) ha).symm
  have c569 := u564.off c557 (zz_neA (j := 3) ha).symm
  have c570 := u564.off c558 (zz_neA (j := 4) ha).symm
  have c571 := u564.off c559 (zz_neA (j := 5) ha).symm
  have n572 := u564.cnt n562
  have f573 := f560.up u564 (Or.inl rfl)
  have t574 := zz_sl_up t561 u564
  refine w_aload_n (pc2 := 24) rfl rfl rfl ?_
  refine w_aload_n (pc2 := 25) rfl rfl rfl ?_
  refine w_putfield (pc2 := 28) (en := .inr (0, [.ref wo, .null, .ref n, .ref (n + 5), .int 0, .int 0])) rfl c565 rfl (Nat.le_of_ble_eq_true rfl) rfl rfl rfl (fun h575 u576 => ?_)
  have c577 := u576.self c565
  have c578 := u576.off c566 (zz_neA (j := 0) ha).symm
  have c579 := u576.off c567 (zz_neA (j := 1) ha).symm
  have c580 := u576.off c568 (zz_neA (j := 2) ha).symm
  have c581 := u576.off c569 (zz_neA (j := 3) ha).symm
  have c582 := u576.off c570 (zz_neA (j := 4) ha).symm
  have c583 := u576.off c571 (zz_neA (j := 5) ha).symm
  have n584 := u576.cnt n572
  have f585 := f573.up u576 (Or.inl rfl)
  have t586 := zz_sl_up t574 u576
  refine w_aload_n (pc2 := 29) rfl rfl rfl ?_
  refine w_aload_n (pc2 := 30) rfl rfl rfl ?_
  refine w_putfield (pc2 := 33) (en := .inr (0, [.ref wo, .ref mi, .ref n, .ref (n + 5), .int 0, .int 0])) rfl c577 rfl (Nat.le_of_ble_eq_true rfl) rfl rfl rfl (fun h587 u588 => ?_)
  have c589 := u588.self c577
  have c590 := u588.off c578 (zz_neA (j := 0) ha).symm
  have c591 := u588.off c579 (zz_neA (j := 1) ha).symm
  have c592 := u588.off c580 (zz_neA (j := 2) ha).symm
  have c593 := u588.off c581 (zz_neA (j := 3) ha).symm
  have c594 := u588.off c582 (zz_neA (j := 4) ha).symm
  have c595 := u588.off c583 (zz_neA (j := 5) ha).symm
  have n596 := u588.cnt n584
  have f597 := f585.up u588 (Or.inl rfl)
  have t598 := zz_sl_up t586 u588
  exact w_vret rfl rfl ⟨rfl, n596, t598, c589, c590, c591, c592, c593, c594, c595, f597⟩
