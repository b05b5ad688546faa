/-- a State as it is made: five cells from b on -/
def zs_S0 (h : ZH) (b : Nat) : Prop := zz_c h b (.inr (7, [.int 0, .int 0, .ref (b + 1), .ref (b + 2), .ref (b + 3), .ref (b + 4)])) ∧ zz_c h (b + 1) (.inl (.int, 5, .inl (fun _ => 0))) ∧ zz_c h (b + 2) (.inl (.int, 5, .inl (fun _ => 0))) ∧ zz_c h (b + 3) (.inl (.int, 5, .inl (fun _ => 0))) ∧ zz_c h (b + 4) (.inl (.int, 30, .inl (fun _ => 0)))
theorem zs_S0.off {P : Nat → Prop} {h h2 : ZH} {b : Nat} (f : zz_fo P h h2) (hs : zs_S0 h b) (hn : ∀ k, b ≤ k → k ≤ b + 4 → ¬ P k) : zs_S0 h2 b :=
  ⟨f.off hs.1 (hn _ (by omega) (by omega)), f.off hs.2.1 (hn _ (by omega) (by omega)), f.off hs.2.2.1 (hn _ (by omega) (by omega)), f.off hs.2.2.2.1 (hn _ (by omega) (by omega)), f.off hs.2.2.2.2 (hn _ (by omega) (by omega))⟩
set_option maxHeartbeats 4000000 in
set_option maxRecDepth 100000 in
theorem ct_History_loop {x : Nat → ZE} {h0 : ZH} {a n b0 : Nat} (ha : a < n) (hl : n < 790000) : ∀ (m j : Nat) (h : ZH) (g : Nat → Option Nat), j + m = 20 → zz_c h a (.inr (2, [.ref n, .int 0, .int 0])) → zz_c h n (.inl (.object "RowRing$State", 20, .inr (.inr (.inr (.inr g))))) → (∀ i, 20 ≤ i → g i = none) → (∀ i, i < j → g i = some (n + 1 + 5 * i) ∧ zs_S0 h (n + 1 + 5 * i)) → h.1 = n + 1 + 5 * j → h.2.1 = b0 + (20 + 51 * j) → zz_fA a n h0 h → zz_wp zt_ms zt_nm zt_df x 1 zt_m35 15 [(1, .int (nI j)), (0, .ref a)] [] h (fun r h2 => r = none ∧ h2.1 = n + 101 ∧ h2.2.1 = b0 + 1040 ∧ zz_c h2 a (.inr (2, [.ref n, .int 0, .int 0])) ∧ (∃ g : Nat → Option Nat, zz_c h2 n (.inl (.object "RowRing$State", 20, .inr (.inr (.inr (.inr g))))) ∧ (∀ i, 20 ≤ i → g i = none) ∧ ∀ i, i < 20 → g i = some (n + 1 + 5 * i) ∧ zs_S0 h2 (n + 1 + 5 * i)) ∧ zz_fA a n h0 h2) := by
  intro m
  induction m with
  | zero =>
    intro j h g hj cA cG gN hg hn t f
    have hj : j = 20 := by omega
    subst hj
    change zz_wp zt_ms zt_nm zt_df x 1 zt_m35 15 [(1, .int 20), (0, .ref a)] [] h _
    refine w_iload_n (pc2 := 16) rfl rfl rfl ?_
    refine w_bipush (pc2 := 18) rfl rfl ?_
    refine w_icmp_ge (pc2 := 21) rfl rfl (fun _ => ?_) (fun c => absurd c (by decide))
    exact w_vret rfl rfl ⟨rfl, hn, t, cA, ⟨g, cG, gN, hg⟩, f⟩
  | succ m ih =>
    intro j h g hj cA cG gN hg hn t f
    obtain ⟨b, hb⟩ : ∃ b, b = n + 1 + 5 * j := ⟨_, rfl⟩
    rw [← hb] at hn
    have f0 : zz_fA n b h h := zz_fA.rf
    have t0 : h.2.1 = h.2.1 + 0 := rfl
    refine w_iload_n (pc2 := 16) rfl rfl rfl ?_
    refine w_bipush (pc2 := 18) rfl rfl ?_
    refine w_icmp_ge (pc2 := 21) rfl rfl (fun k18 => ?_) (fun k18 => ?_)
    · rw [zz_leN (m := 20) (n := j) (show (20 : Int32) = nI 20 from rfl) (rfl : nI j = nI j) (by omega) (by omega)] at k18
      exfalso; omega
    · rw [zz_leN (m := 20) (n := j) (show (20 : Int32) = nI 20 from rfl) (rfl : nI j = nI j) (by omega) (by omega)] at k18
      refine w_aload_n (pc2 := 22) rfl rfl rfl ?_
      refine w_getfield (pc2 := 25) rfl cA rfl rfl rfl ?_
      refine w_iload_n (pc2 := 26) rfl rfl rfl ?_
      refine w_new (pc2 := 29) (n := b) (sl := 6) (en := .inr (7, [.int 0, .int 0, .null, .null, .null, .null])) rfl hn (by omega) rfl rfl rfl (fun h637 u638 => ?_)
      have c639 := u638.off cA hn (by omega)
      have c640 := u638.off cG hn (by omega)
      have c641 := u638.self hn (by omega)
      have f642 := f0.mk u638 hn (Nat.le_add_right _ 0)
      have t643 := zz_sl_mk (s2 := 6) t0 u638 rfl
      have n644 := u638.cnt hn
      refine w_dup (pc2 := 30) rfl rfl rfl ?_
      refine w_calli (pc2 := 33) (c := zt_m83) (as := [.ref b]) (rest := [.ref b, .int (nI j), .ref n]) rfl rfl rfl rfl rfl c641.look rfl (Nat.le_of_ble_eq_true rfl) (Nat.le_of_ble_eq_true rfl) (ct_State_init (x := x) (a := b) (n := b + 1) c641 n644 (Nat.lt_succ_self _) (by omega)) (by decide) rfl (fun r h655 q654 => ?_)
      obtain ⟨rfl, n646, s647, c649, c650, c651, c652, c653, f648⟩ := q654
      have c656 := f648.off c639 (by (try dsimp only); omega)
      have c657 := f648.off c640 (by (try dsimp only); omega)
      have f658 := f642.call f648 (Nat.le_add_right _ 0) (Nat.le_add_right _ 1)
      have t659 := zz_sl_call (s2 := 51) t643 s647 rfl
      change zz_wp zt_ms zt_nm zt_df x 1 zt_m35 33 [(1, .int (nI j)), (0, .ref a)] [.ref b, .int (nI j), .ref n] h655 _
      refine w_aastoreK (pc2 := 34) (j := j) (en := .inl (.object "RowRing$State", 20, .inr (.inr (.inr (.inr (va_up g j (some b))))))) rfl c657 c649 rfl (rfl : nI j = nI j) (by omega) (by decide) rfl rfl (fun h660 u661 => ?_)
      have c662 := u661.off c656 (by omega)
      have c663 := u661.self c657
      have c664 := u661.off c649 (by omega)
      have c665 := u661.off c650 (by omega)
      have c666 := u661.off c651 (by omega)
      have c667 := u661.off c652 (by omega)
      have c668 := u661.off c653 (by omega)
      have n669 := u661.cnt n646
      have f670 := f658.up u661 (Or.inl rfl)
      have t671 := zz_sl_up t659 u661
      refine w_iinc (pc2 := 37) (ls2 := [(1, .int (nI (j + 1))), (0, .ref a)]) rfl rfl (by rw [show (nI j) + 1 = nI (j + 1) from nI_addE rfl rfl]; rfl) rfl ?_
      refine w_goto rfl ?_
      have hS : zs_S0 h660 b := ⟨c664, c665, c666, c667, c668⟩
      have gg : zz_fo (fun k => k = n ∨ b ≤ k) h h660 := f670
      refine ih (j + 1) h660 _ (by omega) c662 c663 (fun i hi => by rw [va_up_ne _ _ (by omega)]; exact gN i hi) ?_ ?_ ?_ ?_
      · intro i hi
        by_cases hij : i = j
        · subst hij; exact ⟨by rw [va_up_self, hb], by rw [← hb]; exact hS⟩
        · obtain ⟨q1, q2⟩ := hg i (by omega)
          refine ⟨by rw [va_up_ne _ _ hij]; exact q1, ?_⟩
          exact zs_S0.off gg q2 (by intro k k1 k2 q; (try dsimp only at q); omega)
      · rw [n669]; omega
      · rw [t671]; omega
      · exact (f.tr gg).sub (by intro k q; (try dsimp only at q ⊢); omega)
set_option maxHeartbeats 4000000 in
set_option maxRecDepth 100000 in
theorem ct_History_init {x : Nat → ZE} {h : ZH} {a n : Nat} (cA : zz_c h a (.inr (2, [.null, .int 0, .int 0]))) (hn : h.1 = n) (ha : a < n) (hl : n < 790000) : zz_ct zt_ms zt_nm zt_df x 1 zt_m35 [.ref a] h (fun r h2 => r = none ∧ h2.1 = n + 101 ∧ h2.2.1 = h.2.1 + 1040 ∧ zz_c h2 a (.inr (2, [.ref n, .int 0, .int 0])) ∧ (∃ g : Nat → Option Nat, zz_c h2 n (.inl (.object "RowRing$State", 20, .inr (.inr (.inr (.inr g))))) ∧ (∀ i, 20 ≤ i → g i = none) ∧ ∀ i, i < 20 → g i = some (n + 1 + 5 * i) ∧ zs_S0 h2 (n + 1 + 5 * i)) ∧ zz_fA a n h h2) := by
  change zz_wp zt_ms zt_nm zt_df x 1 zt_m35 0 [(0, .ref a)] [] h _
  have f0 : zz_fA a n h h := zz_fA.rf
  have t0 : h.2.1 = h.2.1 + 0 := rfl
  refine w_aload_n (pc2 := 1) rfl rfl rfl ?_
  refine w_objinit (pc2 := 4) rfl (Nat.le_of_ble_eq_true rfl) (by omega) rfl ?_
  refine w_aload_n (pc2 := 5) rfl rfl rfl ?_
  refine w_bipush (pc2 := 7) rfl rfl ?_
  refine w_anewarray (pc2 := 10) (n := n) (N := 20) (en := .inl (.object "RowRing$State", 20, .inr (.inr (.inr (.inr (fun _ => none)))))) rfl hn (by omega) rfl rfl (fun h672 u673 => ?_)
  have c674 := u673.off cA hn (zz_neA (j := 0) ha)
  have c675 := u673.self hn (by omega)
  have f676 := f0.mk u673 hn (Nat.le_add_right _ 0)
  have t677 := zz_sl_mk (s2 := 20) t0 u673 rfl
  have n678 := u673.cnt hn
  refine w_putfield (pc2 := 13) (en := .inr (2, [.ref n, .int 0, .int 0])) rfl c674 rfl (Nat.le_of_ble_eq_true rfl) rfl rfl rfl (fun h679 u680 => ?_)
  have c681 := u680.self c674
  have c682 := u680.off c675 (zz_neA (j := 0) ha).symm
  have n683 := u680.cnt n678
  have f684 := f676.up u680 (Or.inl rfl)
  have t685 := zz_sl_up t677 u680
  refine w_iconst (pc2 := 14) rfl rfl ?_
  refine w_istore_n (pc2 := 15) (ls2 := [(1, .int 0), (0, .ref a)]) rfl rfl rfl ?_
  exact ct_History_loop ha hl 20 0 h679 _ rfl c681 c682 (fun _ _ => rfl) (fun i hi => absurd hi (Nat.not_lt_zero _)) n683 t685 f684
