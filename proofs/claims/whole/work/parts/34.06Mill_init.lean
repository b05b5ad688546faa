set_option maxHeartbeats 4000000 in
set_option maxRecDepth 100000 in
theorem ct_Mill_init {x : Nat → ZE} {h : ZH} {a n : Nat} {sm ru : Nat} (cA : zz_c h a (.inr (3, [.null, .null, .null, .null, .null, .null, .int 0, .int 0]))) (hn : h.1 = n) (ha : a < n) (hl : n < 800000)  : zz_ct zt_ms zt_nm zt_df x 0 zt_m39 [.ref a, .ref sm, .ref ru] h (fun r h2 => r = none ∧ h2.1 = n + 3 ∧ h2.2.1 = h.2.1 + 80 ∧ zz_c h2 a (.inr (3, [.ref sm, .ref ru, .ref n, .ref (n + 1), .ref (n + 2), .null, .int 0, .int (-1)])) ∧ zz_c h2 n (.inl (.long, 11, .inr (.inl (fun _ => 0)))) ∧ zz_c h2 (n + 1) (.inl (.long, 64, .inr (.inl (fun _ => 0)))) ∧ zz_c h2 (n + 2) (.inl (.int, 5, .inl (fun _ => 0))) ∧ zz_fo (fun k => k = a ∨ n ≤ k) h h2) := by
  change zz_wp zt_ms zt_nm zt_df x 0 zt_m39 0 [(0, .ref a), (1, .ref sm), (2, .ref ru)] [] h _
  have f0 : zz_fA a n h h := zz_fA.rf
  have t0 : h.2.1 = h.2.1 + 0 := rfl
  refine w_aload_n (pc2 := 1) rfl rfl rfl ?_
  refine w_objinit (pc2 := 4) rfl (Nat.le_of_ble_eq_true rfl) (by omega) rfl ?_
  refine w_aload_n (pc2 := 5) rfl rfl rfl ?_
  refine w_bipush (pc2 := 7) rfl rfl ?_
  refine w_newarray (pc2 := 9) (n := n) (N := 11) (en := .inl (.long, 11, .inr (.inl (fun _ => 0)))) rfl hn (by omega) rfl rfl (fun h426 u427 => ?_)
  have c428 := u427.off cA hn (zz_neA (j := 0) ha)
  have c429 := u427.self hn (by omega)
  have f430 := f0.mk u427 hn (Nat.le_add_right _ 0)
  have t431 := zz_sl_mk (s2 := 11) t0 u427 rfl
  have n432 := u427.cnt hn
  refine w_putfield (pc2 := 12) (en := .inr (3, [.null, .null, .ref n, .null, .null, .null, .int 0, .int 0])) rfl c428 rfl (Nat.le_of_ble_eq_true rfl) rfl rfl rfl (fun h433 u434 => ?_)
  have c435 := u434.self c428
  have c436 := u434.off c429 (zz_neA (j := 0) ha).symm
  have n437 := u434.cnt n432
  have f438 := f430.up u434 (Or.inl rfl)
  have t439 := zz_sl_up t431 u434
  refine w_aload_n (pc2 := 13) rfl rfl rfl ?_
  refine w_bipush (pc2 := 15) rfl rfl ?_
  refine w_newarray (pc2 := 17) (n := n + 1) (N := 64) (en := .inl (.long, 64, .inr (.inl (fun _ => 0)))) rfl n437 (by omega) rfl rfl (fun h440 u441 => ?_)
  have c442 := u441.off c435 n437 (zz_neA (j := 1) ha)
  have c443 := u441.off c436 n437 (zz_ne0 (n := n) (j := 1) (by decide))
  have c444 := u441.self n437 (by omega)
  have f445 := f438.mk u441 n437 (Nat.le_add_right _ 1)
  have t446 := zz_sl_mk (s2 := 75) t439 u441 rfl
  have n447 := u441.cnt n437
  refine w_putfield (pc2 := 20) (en := .inr (3, [.null, .null, .ref n, .ref (n + 1), .null, .null, .int 0, .int 0])) rfl c442 rfl (Nat.le_of_ble_eq_true rfl) rfl rfl rfl (fun h448 u449 => ?_)
  have c450 := u449.self c442
  have c451 := u449.off c443 (zz_neA (j := 0) ha).symm
  have c452 := u449.off c444 (zz_neA (j := 1) ha).symm
  have n453 := u449.cnt n447
  have f454 := f445.up u449 (Or.inl rfl)
  have t455 := zz_sl_up t446 u449
  refine w_aload_n (pc2 := 21) rfl rfl rfl ?_
  refine w_iconst (pc2 := 22) rfl rfl ?_
  refine w_newarray (pc2 := 24) (n := n + 2) (N := 5) (en := .inl (.int, 5, .inl (fun _ => 0))) rfl n453 (by omega) rfl rfl (fun h456 u457 => ?_)
  have c458 := u457.off c450 n453 (zz_neA (j := 2) ha)
  have c459 := u457.off c451 n453 (zz_ne0 (n := n) (j := 2) (by decide))
  have c460 := u457.off c452 n453 (zz_ne1 (n := n) (i := 1) (j := 2) (by decide))
  have c461 := u457.self n453 (by omega)
  have f462 := f454.mk u457 n453 (Nat.le_add_right _ 2)
  have t463 := zz_sl_mk (s2 := 80) t455 u457 rfl
  have n464 := u457.cnt n453
  refine w_putfield (pc2 := 27) (en := .inr (3, [.null, .null, .ref n, .ref (n + 1), .ref (n + 2), .null, .int 0, .int 0])) rfl c458 rfl (Nat.le_of_ble_eq_true rfl) rfl rfl rfl (fun h465 u466 => ?_)
  have c467 := u466.self c458
  have c468 := u466.off c459 (zz_neA (j := 0) ha).symm
  have c469 := u466.off c460 (zz_neA (j := 1) ha).symm
  have c470 := u466.off c461 (zz_neA (j := 2) ha).symm
  have n471 := u466.cnt n464
  have f472 := f462.up u466 (Or.inl rfl)
  have t473 := zz_sl_up t463 u466
  refine w_aload_n (pc2 := 28) rfl rfl rfl ?_
  refine w_aload_n (pc2 := 29) rfl rfl rfl ?_
  refine w_putfield (pc2 := 32) (en := .inr (3, [.ref sm, .null, .ref n, .ref (n + 1), .ref (n + 2), .null, .int 0, .int 0])) rfl c467 rfl (Nat.le_of_ble_eq_true rfl) rfl rfl rfl (fun h474 u475 => ?_)
  have c476 := u475.self c467
  have c477 := u475.off c468 (zz_neA (j := 0) ha).symm
  have c478 := u475.off c469 (zz_neA (j := 1) ha).symm
  have c479 := u475.off c470 (zz_neA (j := 2) ha).symm
  have n480 := u475.cnt n471
  have f481 := f472.up u475 (Or.inl rfl)
  have t482 := zz_sl_up t473 u475
  refine w_aload_n (pc2 := 33) rfl rfl rfl ?_
  refine w_aload_n (pc2 := 34) rfl rfl rfl ?_
  refine w_putfield (pc2 := 37) (en := .inr (3, [.ref sm, .ref ru, .ref n, .ref (n + 1), .ref (n + 2), .null, .int 0, .int 0])) rfl c476 rfl (Nat.le_of_ble_eq_true rfl) rfl rfl rfl (fun h483 u484 => ?_)
  have c485 := u484.self c476
  have c486 := u484.off c477 (zz_neA (j := 0) ha).symm
  have c487 := u484.off c478 (zz_neA (j := 1) ha).symm
  have c488 := u484.off c479 (zz_neA (j := 2) ha).symm
  have n489 := u484.cnt n480
  have f490 := f481.up u484 (Or.inl rfl)
  have t491 := zz_sl_up t482 u484
  refine w_aload_n (pc2 := 38) rfl rfl rfl ?_
  refine w_aconst_null (pc2 := 39) rfl rfl ?_
  refine w_putfield (pc2 := 42) (en := .inr (3, [.ref sm, .ref ru, .ref n, .ref (n + 1), .ref (n + 2), .null, .int 0, .int 0])) rfl c485 rfl (Nat.le_of_ble_eq_true rfl) rfl rfl rfl (fun h492 u493 => ?_)
  have c494 := u493.self c485
  have c495 := u493.off c486 (zz_neA (j := 0) ha).symm
  have c496 := u493.off c487 (zz_neA (j := 1) ha).symm
  have c497 := u493.off c488 (zz_neA (j := 2) ha).symm
  have n498 := u493.cnt n489
  have f499 := f490.up u493 (Or.inl rfl)
  have t500 := zz_sl_up t491 u493
  refine w_aload_n (pc2 := 43) rfl rfl rfl ?_
  refine w_iconst (pc2 := 44) rfl rfl ?_
  refine w_putfield (pc2 := 47) (en := .inr (3, [.ref sm, .ref ru, .ref n, .ref (n + 1), .ref (n + 2), .null, .int 0, .int 0])) rfl c494 rfl (Nat.le_of_ble_eq_true rfl) rfl rfl rfl (fun h501 u502 => ?_)
  have c503 := u502.self c494
  have c504 := u502.off c495 (zz_neA (j := 0) ha).symm
  have c505 := u502.off c496 (zz_neA (j := 1) ha).symm
  have c506 := u502.off c497 (zz_neA (j := 2) ha).symm
  have n507 := u502.cnt n498
  have f508 := f499.up u502 (Or.inl rfl)
  have t509 := zz_sl_up t500 u502
  refine w_aload_n (pc2 := 48) rfl rfl rfl ?_
  refine w_iconst (pc2 := 49) rfl rfl ?_
  refine w_putfield (pc2 := 52) (en := .inr (3, [.ref sm, .ref ru, .ref n, .ref (n + 1), .ref (n + 2), .null, .int 0, .int (-1)])) rfl c503 rfl (Nat.le_of_ble_eq_true rfl) rfl rfl rfl (fun h510 u511 => ?_)
  have c512 := u511.self c503
  have c513 := u511.off c504 (zz_neA (j := 0) ha).symm
  have c514 := u511.off c505 (zz_neA (j := 1) ha).symm
  have c515 := u511.off c506 (zz_neA (j := 2) ha).symm
  have n516 := u511.cnt n507
  have f517 := f508.up u511 (Or.inl rfl)
  have t518 := zz_sl_up t509 u511
  exact w_vret rfl rfl ⟨rfl, n516, t518, c512, c513, c514, c515, f517⟩
