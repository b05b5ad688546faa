/-! say, door, soothe. -/
theorem st_say (p q : Int32) : stp (f_Ring_say p q) (f_Model_say p q) := by
  intro s hR
  obtain ⟨R, P, Q, h1, h2, h3, h4, h5, h6, h7⟩ := id hR
  have hP := h3.1.1
  have hQ := h3.1.2.1
  have g := h3.g
  have e3 : s.1 4 3 = nI P := h3.cC.2.2.1
  have e4 : s.1 4 4 = nI Q := h3.cC.2.2.2.1
  have m3 : s.1 226 3 = nI P := h3.cM.2.2.1
  have m4 : s.1 226 4 = nI Q := h3.cM.2.2.2.1
  unfold f_Ring_say f_Model_say
  rcases pN p P (by omega) with ⟨k, hk, rfl⟩ | hn
  · by_cases hw : (gM (s.1 226)).2.1 k = 0
    · have hw' : (gS 10 s).2.1 k = 0 := by rw [g]; exact hw
      rcases pN q Q (by omega) with ⟨j, hj, rfl⟩ | hn
      · obtain ⟨u, f0, p1, p2, p3, p4, p5, p6⟩ := h5
        simp only [zgi, zgl, zwi, zwf, zjn, zj0, zcl_s, zcv_s, zrd_n, zrl_n, zix_n, zwa_n, zwl_n, zI1, zI2, zL1, zL2, zR1, zR2, updE, updLE, zbl_0, zbl_1, nI_1, nI_add, nI_mulR, nI_leI, nI_ltI, nI_0le, nI_lt0, bvE, ↓reduceIte, Nat.reduceEqDiff, Nat.reduceLT, Nat.reduceAdd, Nat.reduceMul, reduceCtorEq, i10, i01, eq_self, or_true, true_or, false_or, or_false, not_true_eq_false, not_false_eq_true, if_true, if_false, cFree e3 hP hk, hw', cHasS e4 hQ hj]
        refine rt_cv (c_keep p1 p2 p3 p4) ?_
        rintro s1 ⟨F1, f1, q1, q2, q3, q4⟩
        have e36 : s1.1 3 6 = s.1 216 21 := by rw [F1.1 3 (by omega)]; exact h3.2.2.2.2.2.1
        simp only [e36]
        refine rt_cv (c_under (f6 h2.1 h3.2.2.2.2.2.2.1)) ?_
        rintro s2 ⟨v1, v2, v3, F2⟩
        have E2 : ∀ b, ¬ (100 ≤ b ∧ b ≤ 202) → s2.1 b = s.1 b := fun b hb => by rw [F2.1 b (by omega), F1.1 b (by omega)]
        have g2 : gS 10 s2 = gM (s.1 226) := by rw [gS_f (s := s) (fun b _ _ => E2 b (by omega))]; exact g
        have c2 : cC P Q (s.1 226) s2 := (h3.cC.f F1 (fun b hb hb2 => by omega)).f F2 (fun b hb hb2 => by omega)
        refine rt_cl (cl_utter10 c2 (by rw [g2]; exact h3.2.2.2.1.1.zW) v3 (Or.inl rfl) hk hj) ?_
        rintro r s3 ⟨w1, F3⟩
        dsimp only at w1
        rw [g2] at w1
        have E3 : ∀ b, ¬ (10 ≤ b ∧ b ≤ 14 ∨ 100 ≤ b ∧ b ≤ 205) → s3.1 b = s.1 b := fun b hb => by rw [F3.1 b (by omega), E2 b (by omega)]
        refine rt_s ?_
        dsimp only
        have e226' : s3.1 226 = s.1 226 := E3 226 (by omega)
        have hc3 : cM P Q (s.1 226) s3 := by unfold cM; rw [e226']; exact h3.cM
        have m4' : s3.1 226 4 = nI Q := by rw [e226']; exact m4
        simp only [zgi, zgl, zwi, zwf, zjn, zj0, zcl_s, zcv_s, zrd_n, zrl_n, zix_n, zwa_n, zwl_n, zI1, zI2, zL1, zL2, zR1, zR2, updE, updLE, zbl_0, zbl_1, nI_1, nI_add, nI_mulR, nI_leI, nI_ltI, nI_0le, nI_lt0, bvE, ↓reduceIte, Nat.reduceEqDiff, Nat.reduceLT, Nat.reduceAdd, Nat.reduceMul, reduceCtorEq, i10, i01, eq_self, or_true, true_or, false_or, or_false, not_true_eq_false, not_false_eq_true, if_true, if_false, mBare hc3 hk, e226', hw, mSay m4' hQ hj]
        refine rt_cv (m_keepsAct p1 (by rw [E3 216 (by omega)]; exact p5)) ?_
        rintro s4 ⟨x1, x2, x3, x4⟩
        have e226 : s4.1 226 = s.1 226 := by rw [x1 226 (by omega) (by omega), E3 226 (by omega)]
        have hc4 : cM P Q (s.1 226) s4 := by unfold cM; rw [e226]; exact h3.cM
        have e216 : ∀ j, j ≠ 27 → s4.1 216 j = s.1 216 j := fun j hj => by rw [x2 j hj, E3 216 (by omega)]
        refine rt_cl (m_says hc4 ((e216 24 (by omega)).trans h7) hk hj) ?_
        rintro r' s5 ⟨y1, N5⟩
        dsimp only at y1
        rw [e226] at y1
        obtain ⟨k1, k2, k3⟩ := say_eX (C := s.1 226) (hm := -1) (z := gM (s.1 226)) (RS := s2.1 205) (RS' := s4.1 227) (p := k) (q := j) hP
        have gz : gS 10 s3 = gM (s5.1 226) := by
          rw [show gS 10 s3 = (gS 10 s3, r, s3.1 205).1 from rfl, w1, k1, ← y1]
        have er : r' = r := by
          rw [show r' = (gM (s5.1 226), r', s5.1 227).2.1 from rfl, y1, ← k2, ← w1]
        have E5 : ∀ b, ¬ (b = 216 ∨ 226 ≤ b ∧ b ≤ 228) → s5.1 b = s3.1 b := fun b hb => by rw [N5.1 b (by omega), x1 b (by omega) (by omega)]
        have gz5 : gS 10 s5 = gM (s5.1 226) := by rw [gS_f (s := s3) (fun b _ _ => E5 b (by omega))]; exact gz
        have zz : gM (s5.1 226) = (sSay P (s.1 226) (-1) (gM (s.1 226)) (s4.1 227) k j).1 := by rw [← y1]
        refine rt_s ⟨er, Rel.act h1 h2 h3 h4 h6 h7 (fun b hb => by dsimp only; rw [E5 b (by omega), E3 b (by omega)]) (fun j hj => by dsimp only; rw [N5.2.2.1 j (by omega), e216 j (by omega)]) (fun k hk => by dsimp only; rw [N5.2.2.2 k hk, e226]) gz5 ?_ ?_⟩
        · rw [sOK_z]
          refine ⟨?_, ?_⟩
          · dsimp only; rw [zz]; exact zOK_say hP h3.1.cK2 h3.2.2.2.1.1 (by omega) (by omega)
          · dsimp only; rw [zz, day_say]; exact h3.2.2.2.1.2
        · refine rHi_push p1 p6 h3.2.2.2.1 q1 ?_ ?_ ?_ (fun i hi => ?_) (fun i hi => ?_)
          · dsimp only; rw [E5 100 (by omega), F3.1 100 (by omega), F2.1 100 (by omega)]; exact q2
          · dsimp only; rw [E5 100 (by omega), F3.1 100 (by omega), F2.1 100 (by omega)]; exact q3
          · dsimp only; rw [N5.2.2.1 27 (by omega)]; exact x3
          · have hm := Nat.mod_lt (f1 + i) (show 0 < 20 by omega)
            rw [gS_f (s := s1) (fun b _ _ => by dsimp only; rw [E5 b (by omega), F3.1 b (by omega), F2.1 b (by omega)]), q4 i hi, g]
          · dsimp only
            rw [N5.1 228 (by omega), x4 i hi, E3 228 (by omega), E3 226 (by omega)]
      · simp only [zgi, zgl, zwi, zwf, zjn, zj0, zcl_s, zcv_s, zrd_n, zrl_n, zix_n, zwa_n, zwl_n, zI1, zI2, zL1, zL2, zR1, zR2, updE, updLE, zbl_0, zbl_1, nI_1, nI_add, nI_mulR, nI_leI, nI_ltI, nI_0le, nI_lt0, bvE, ↓reduceIte, Nat.reduceEqDiff, Nat.reduceLT, Nat.reduceAdd, Nat.reduceMul, reduceCtorEq, i10, i01, eq_self, or_true, true_or, false_or, or_false, not_true_eq_false, not_false_eq_true, if_true, if_false, cFree e3 hP hk, hw', cHasSN e4 hn]
        refine rt_s ?_
        simp only [zgi, zgl, zwi, zwf, zjn, zj0, zcl_s, zcv_s, zrd_n, zrl_n, zix_n, zwa_n, zwl_n, zI1, zI2, zL1, zL2, zR1, zR2, updE, updLE, zbl_0, zbl_1, nI_1, nI_add, nI_mulR, nI_leI, nI_ltI, nI_0le, nI_lt0, bvE, ↓reduceIte, Nat.reduceEqDiff, Nat.reduceLT, Nat.reduceAdd, Nat.reduceMul, reduceCtorEq, i10, i01, eq_self, or_true, true_or, false_or, or_false, not_true_eq_false, not_false_eq_true, if_true, if_false, mBare h3.cM hk, hw, mSayN m4 hn]
        exact rt_s ⟨rfl, hR⟩
    · have hw' : ¬ (gS 10 s).2.1 k = 0 := by rw [g]; exact hw
      simp only [zgi, zgl, zwi, zwf, zjn, zj0, zcl_s, zcv_s, zrd_n, zrl_n, zix_n, zwa_n, zwl_n, zI1, zI2, zL1, zL2, zR1, zR2, updE, updLE, zbl_0, zbl_1, nI_1, nI_add, nI_mulR, nI_leI, nI_ltI, nI_0le, nI_lt0, bvE, ↓reduceIte, Nat.reduceEqDiff, Nat.reduceLT, Nat.reduceAdd, Nat.reduceMul, reduceCtorEq, i10, i01, eq_self, or_true, true_or, false_or, or_false, not_true_eq_false, not_false_eq_true, if_true, if_false, cFree e3 hP hk, hw']
      refine rt_s ?_
      simp only [zgi, zgl, zwi, zwf, zjn, zj0, zcl_s, zcv_s, zrd_n, zrl_n, zix_n, zwa_n, zwl_n, zI1, zI2, zL1, zL2, zR1, zR2, updE, updLE, zbl_0, zbl_1, nI_1, nI_add, nI_mulR, nI_leI, nI_ltI, nI_0le, nI_lt0, bvE, ↓reduceIte, Nat.reduceEqDiff, Nat.reduceLT, Nat.reduceAdd, Nat.reduceMul, reduceCtorEq, i10, i01, eq_self, or_true, true_or, false_or, or_false, not_true_eq_false, not_false_eq_true, if_true, if_false, mBare h3.cM hk, hw]
      exact rt_s ⟨rfl, hR⟩
  · simp only [zgi, zgl, zwi, zwf, zjn, zj0, zcl_s, zcv_s, zrd_n, zrl_n, zix_n, zwa_n, zwl_n, zI1, zI2, zL1, zL2, zR1, zR2, updE, updLE, zbl_0, zbl_1, nI_1, nI_add, nI_mulR, nI_leI, nI_ltI, nI_0le, nI_lt0, bvE, ↓reduceIte, Nat.reduceEqDiff, Nat.reduceLT, Nat.reduceAdd, Nat.reduceMul, reduceCtorEq, i10, i01, eq_self, or_true, true_or, false_or, or_false, not_true_eq_false, not_false_eq_true, if_true, if_false, cFreeN e3 hn]
    refine rt_s ?_
    simp only [zgi, zgl, zwi, zwf, zjn, zj0, zcl_s, zcv_s, zrd_n, zrl_n, zix_n, zwa_n, zwl_n, zI1, zI2, zL1, zL2, zR1, zR2, updE, updLE, zbl_0, zbl_1, nI_1, nI_add, nI_mulR, nI_leI, nI_ltI, nI_0le, nI_lt0, bvE, ↓reduceIte, Nat.reduceEqDiff, Nat.reduceLT, Nat.reduceAdd, Nat.reduceMul, reduceCtorEq, i10, i01, eq_self, or_true, true_or, false_or, or_false, not_true_eq_false, not_false_eq_true, if_true, if_false, mBareN m3 hn]
    exact rt_s ⟨rfl, hR⟩
theorem sBnd_lt (W : Nat → Int32) : ∀ n, n ≤ 5 → ∃ k, k < 2 ^ n ∧ sBnd W n = nI k := by
  intro n
  induction n with
  | zero => intro _; exact ⟨0, by decide, rfl⟩
  | succ n ih =>
    intro hn
    obtain ⟨k, h1, h2⟩ := ih (by omega)
    have h3 : sBnd W (n + 1) = if W n = 0 then sBnd W n else sBnd W n ||| ((1 : Int32) <<< (nI n &&& 31)) := rfl
    rw [h3, h2]
    have h4 : 2 ^ (n + 1) = 2 ^ n + 2 ^ n := by rw [Nat.pow_succ]; omega
    split
    · exact ⟨k, by omega, rfl⟩
    · exact ⟨k + 2 ^ n, by omega, (show ∀ n, n < 5 → ∀ k, k < 2 ^ n → nI k ||| ((1 : Int32) <<< (nI n &&& 31)) = nI (k + 2 ^ n) by decide +kernel) n (by omega) k h1⟩
theorem all_bnd : ∀ P, P ≤ 5 → ∀ k, k < 2 ^ P → (((1 : Int32) <<< (nI P &&& 31)) - 1 = nI k ↔ pc (nI k) = nI P) := by decide +kernel
theorem st_door : stp f_Ring_door f_Model_door := by
  intro s hR
  obtain ⟨R, P, Q, h1, h2, h3, h4, h5, h6, h7⟩ := id hR
  have hP := h3.1.1
  have g := h3.g
  have e3 : s.1 4 3 = nI P := h3.cC.2.2.1
  have m3 : s.1 226 3 = nI P := h3.cM.2.2.1
  have hz : zW P (gS 10 s).2.1 := by rw [g]; exact h3.2.2.2.1.1.zW
  obtain ⟨kb, hkb, eb⟩ := sBnd_lt (gM (s.1 226)).2.1 P hP
  have h32 : kb < 64 := Nat.lt_of_lt_of_le hkb (Nat.le_trans (Nat.pow_le_pow_right (by omega) hP) (by decide))
  have eb' : sBnd (gS 10 s).2.1 5 = nI kb := by rw [sBnd_P hP hz, g]; exact eb
  have iff := all_bnd P hP kb hkb
  unfold f_Ring_door f_Model_door f_Smithy_everyPair
  by_cases hd : pc (nI kb) = nI P
  · simp only [zgi, zgl, zwi, zwf, zjn, zj0, zcl_s, zcv_s, zrd_n, zrl_n, zix_n, zwa_n, zwl_n, zI1, zI2, zL1, zL2, zR1, zR2, updE, updLE, zbl_0, zbl_1, nI_1, nI_add, nI_mulR, nI_leI, nI_ltI, nI_0le, nI_lt0, bvE, ↓reduceIte, Nat.reduceEqDiff, Nat.reduceLT, Nat.reduceAdd, Nat.reduceMul, reduceCtorEq, i10, i01, eq_self, or_true, true_or, false_or, or_false, not_true_eq_false, not_false_eq_true, if_true, if_false, e3, cl_banded10 hz, eb', iff.mpr hd]
    refine rt_s ?_
    simp only [zgi, zgl, zwi, zwf, zjn, zj0, zcl_s, zcv_s, zrd_n, zrl_n, zix_n, zwa_n, zwl_n, zI1, zI2, zL1, zL2, zR1, zR2, updE, updLE, zbl_0, zbl_1, nI_1, nI_add, nI_mulR, nI_leI, nI_ltI, nI_0le, nI_lt0, bvE, ↓reduceIte, Nat.reduceEqDiff, Nat.reduceLT, Nat.reduceAdd, Nat.reduceMul, reduceCtorEq, i10, i01, eq_self, or_true, true_or, false_or, or_false, not_true_eq_false, not_false_eq_true, if_true, if_false, m_banded h3.cM, eb, m_bits h32, m3, hd]
    exact rt_s ⟨rfl, hR⟩
  · have hd' : ¬ ((1 : Int32) <<< (nI P &&& 31)) - 1 = nI kb := fun e => hd (iff.mp e)
    obtain ⟨u, f0, p1, p2, p3, p4, p5, p6⟩ := h5
    simp only [zgi, zgl, zwi, zwf, zjn, zj0, zcl_s, zcv_s, zrd_n, zrl_n, zix_n, zwa_n, zwl_n, zI1, zI2, zL1, zL2, zR1, zR2, updE, updLE, zbl_0, zbl_1, nI_1, nI_add, nI_mulR, nI_leI, nI_ltI, nI_0le, nI_lt0, bvE, ↓reduceIte, Nat.reduceEqDiff, Nat.reduceLT, Nat.reduceAdd, Nat.reduceMul, reduceCtorEq, i10, i01, eq_self, or_true, true_or, false_or, or_false, not_true_eq_false, not_false_eq_true, if_true, if_false, e3, cl_banded10 hz, eb', hd']
    refine rt_cv (c_keep p1 p2 p3 p4) ?_
    rintro s2 ⟨F1, f1, q1, q2, q3, q4⟩
    have E2 : ∀ b, ¬ (100 ≤ b ∧ b ≤ 202) → s2.1 b = s.1 b := fun b hb => by rw [F1.1 b (by omega)]
    have g2 : gS 10 s2 = gM (s.1 226) := by rw [gS_f (s := s) (fun b _ _ => E2 b (by omega))]; exact g
    have c2 : cC P Q (s.1 226) s2 := (h3.cC.f F1 (fun b hb hb2 => by omega))
    refine rt_cl (cl_door10 c2 (by rw [g2]; exact h3.2.2.2.1.1.zW)) ?_
    rintro r s3 ⟨w1, F3⟩
    dsimp only at w1
    rw [g2] at w1
    have E3 : ∀ b, ¬ (10 ≤ b ∧ b ≤ 14 ∨ 100 ≤ b ∧ b ≤ 205) → s3.1 b = s.1 b := fun b hb => by rw [F3.1 b (by omega), E2 b (by omega)]
    refine rt_s ?_
    dsimp only
    have e226' : s3.1 226 = s.1 226 := E3 226 (by omega)
    have hc3 : cM P Q (s.1 226) s3 := by unfold cM; rw [e226']; exact h3.cM
    simp only [zgi, zgl, zwi, zwf, zjn, zj0, zcl_s, zcv_s, zrd_n, zrl_n, zix_n, zwa_n, zwl_n, zI1, zI2, zL1, zL2, zR1, zR2, updE, updLE, zbl_0, zbl_1, nI_1, nI_add, nI_mulR, nI_leI, nI_ltI, nI_0le, nI_lt0, bvE, ↓reduceIte, Nat.reduceEqDiff, Nat.reduceLT, Nat.reduceAdd, Nat.reduceMul, reduceCtorEq, i10, i01, eq_self, or_true, true_or, false_or, or_false, not_true_eq_false, not_false_eq_true, if_true, if_false, m_banded hc3, e226', eb, m_bits h32, m3, hd]
    refine rt_cv (m_keepsAct p1 (by rw [E3 216 (by omega)]; exact p5)) ?_
    rintro s4 ⟨x1, x2, x3, x4⟩
    have e226 : s4.1 226 = s.1 226 := by rw [x1 226 (by omega) (by omega), E3 226 (by omega)]
    have hc4 : cM P Q (s.1 226) s4 := by unfold cM; rw [e226]; exact h3.cM
    have e216 : ∀ j, j ≠ 27 → s4.1 216 j = s.1 216 j := fun j hj => by rw [x2 j hj, E3 216 (by omega)]
    refine rt_cl (m_opens hc4) ?_
    rintro r' s5 ⟨y1, N5⟩
    dsimp only at y1
    rw [e226] at y1
    obtain ⟨k1, k2, k3⟩ := door_eX (C := s.1 226) (z := gM (s.1 226)) (RS := s2.1 205) (RS' := s4.1 227) hP
    have gz : gS 10 s3 = gM (s5.1 226) := by
      rw [show gS 10 s3 = (gS 10 s3, r, s3.1 205).1 from rfl, w1, k1, ← y1]
    have er : r' = r := by
      rw [show r' = (gM (s5.1 226), r', s5.1 227).2.1 from rfl, y1, ← k2, ← w1]
    have E5 : ∀ b, ¬ (b = 216 ∨ 226 ≤ b ∧ b ≤ 228) → s5.1 b = s3.1 b := fun b hb => by rw [N5.1 b (by omega), x1 b (by omega) (by omega)]
    have gz5 : gS 10 s5 = gM (s5.1 226) := by rw [gS_f (s := s3) (fun b _ _ => E5 b (by omega))]; exact gz
    have zz : gM (s5.1 226) = (sDoor P (s.1 226) (gM (s.1 226)) (s4.1 227)).1 := by rw [← y1]
    refine rt_s ⟨er, Rel.act h1 h2 h3 h4 h6 h7 (fun b hb => by dsimp only; rw [E5 b (by omega), E3 b (by omega)]) (fun j hj => by dsimp only; rw [N5.2.2.1 j (by omega), e216 j (by omega)]) (fun k hk => by dsimp only; rw [N5.2.2.2 k hk, e226]) gz5 ?_ ?_⟩
    · rw [sOK_z]
      refine ⟨?_, ?_⟩
      · dsimp only; rw [zz]; exact zOK_door hP h3.1.cK2 h3.2.2.2.1.1
      · dsimp only; rw [zz, day_door]; exact h3.2.2.2.1.2
    · refine rHi_push p1 p6 h3.2.2.2.1 q1 ?_ ?_ ?_ (fun i hi => ?_) (fun i hi => ?_)
      · dsimp only; rw [E5 100 (by omega), F3.1 100 (by omega)]; exact q2
      · dsimp only; rw [E5 100 (by omega), F3.1 100 (by omega)]; exact q3
      · dsimp only; rw [N5.2.2.1 27 (by omega)]; exact x3
      · have hm := Nat.mod_lt (f1 + i) (show 0 < 20 by omega)
        rw [gS_f (s := s2) (fun b _ _ => by dsimp only; rw [E5 b (by omega), F3.1 b (by omega)]), q4 i hi, g]
      · dsimp only
        rw [N5.1 228 (by omega), x4 i hi, E3 228 (by omega), E3 226 (by omega)]
theorem st_soothe (p m : Int32) : stp (f_Ring_soothe p m) (f_Model_soothe p m) := by
  intro s hR
  obtain ⟨R, P, Q, h1, h2, h3, h4, h5, h6, h7⟩ := id hR
  have hP := h3.1.1
  have g := h3.g
  have e3 : s.1 4 3 = nI P := h3.cC.2.2.1
  have m3 : s.1 226 3 = nI P := h3.cM.2.2.1
  have hin : ∀ s' : ZS, f_Model_in m.toInt64 1 20 s' = some (if (1 : Int32) ≤ m ∧ m ≤ 20 then 1 else 0, s') := fun s' => mIn (by decide) (by decide)
  unfold f_Ring_soothe f_Model_soothe
  rcases pN p P (by omega) with ⟨k, hk, rfl⟩ | hn
  · have hT : (gS 10 s).1 k = (gM (s.1 226)).1 k := by rw [g]
    by_cases ha : m < 1
    · have ha' : ¬ (1 ≤ m ∧ m ≤ 20) := fun e => Int32.not_le.mpr ha e.1
      simp only [zgi, zgl, zwi, zwf, zjn, zj0, zcl_s, zcv_s, zrd_n, zrl_n, zix_n, zwa_n, zwl_n, zI1, zI2, zL1, zL2, zR1, zR2, updE, updLE, zbl_0, zbl_1, nI_1, nI_add, nI_mulR, nI_leI, nI_ltI, nI_0le, nI_lt0, bvE, ↓reduceIte, Nat.reduceEqDiff, Nat.reduceLT, Nat.reduceAdd, Nat.reduceMul, reduceCtorEq, i10, i01, eq_self, or_true, true_or, false_or, or_false, not_true_eq_false, not_false_eq_true, if_true, if_false, cHas e3 hP hk, ha]
      refine rt_s ?_
      simp only [zgi, zgl, zwi, zwf, zjn, zj0, zcl_s, zcv_s, zrd_n, zrl_n, zix_n, zwa_n, zwl_n, zI1, zI2, zL1, zL2, zR1, zR2, updE, updLE, zbl_0, zbl_1, nI_1, nI_add, nI_mulR, nI_leI, nI_ltI, nI_0le, nI_lt0, bvE, ↓reduceIte, Nat.reduceEqDiff, Nat.reduceLT, Nat.reduceAdd, Nat.reduceMul, reduceCtorEq, i10, i01, eq_self, or_true, true_or, false_or, or_false, not_true_eq_false, not_false_eq_true, if_true, if_false, mPair m3 hP hk, hin, ha']
      exact rt_s ⟨rfl, hR⟩
    · by_cases hb : (20 : Int32) < m
      · have hb' : ¬ (1 ≤ m ∧ m ≤ 20) := fun e => Int32.not_le.mpr hb e.2
        simp only [zgi, zgl, zwi, zwf, zjn, zj0, zcl_s, zcv_s, zrd_n, zrl_n, zix_n, zwa_n, zwl_n, zI1, zI2, zL1, zL2, zR1, zR2, updE, updLE, zbl_0, zbl_1, nI_1, nI_add, nI_mulR, nI_leI, nI_ltI, nI_0le, nI_lt0, bvE, ↓reduceIte, Nat.reduceEqDiff, Nat.reduceLT, Nat.reduceAdd, Nat.reduceMul, reduceCtorEq, i10, i01, eq_self, or_true, true_or, false_or, or_false, not_true_eq_false, not_false_eq_true, if_true, if_false, cHas e3 hP hk, ha, hb]
        refine rt_s ?_
        simp only [zgi, zgl, zwi, zwf, zjn, zj0, zcl_s, zcv_s, zrd_n, zrl_n, zix_n, zwa_n, zwl_n, zI1, zI2, zL1, zL2, zR1, zR2, updE, updLE, zbl_0, zbl_1, nI_1, nI_add, nI_mulR, nI_leI, nI_ltI, nI_0le, nI_lt0, bvE, ↓reduceIte, Nat.reduceEqDiff, Nat.reduceLT, Nat.reduceAdd, Nat.reduceMul, reduceCtorEq, i10, i01, eq_self, or_true, true_or, false_or, or_false, not_true_eq_false, not_false_eq_true, if_true, if_false, mPair m3 hP hk, hin, hb']
        exact rt_s ⟨rfl, hR⟩
      · have hab : 1 ≤ m ∧ m ≤ 20 := ⟨Int32.not_lt.mp ha, Int32.not_lt.mp hb⟩
        by_cases ht : m ≤ (gM (s.1 226)).1 k
        · obtain ⟨u, f0, p1, p2, p3, p4, p5, p6⟩ := h5
          simp (disch := omega) only [zgi, zgl, zwi, zwf, zjn, zj0, zcl_s, zcv_s, zrd_n, zrl_n, zix_n, zwa_n, zwl_n, zI1, zI2, zL1, zL2, zR1, zR2, updE, updLE, zbl_0, zbl_1, nI_1, nI_add, nI_mulR, nI_leI, nI_ltI, nI_0le, nI_lt0, bvE, ↓reduceIte, Nat.reduceEqDiff, Nat.reduceLT, Nat.reduceAdd, Nat.reduceMul, reduceCtorEq, i10, i01, eq_self, or_true, true_or, false_or, or_false, not_true_eq_false, not_false_eq_true, if_true, if_false, cHas e3 hP hk, ha, hb, rT10, hT, ht]
          refine rt_cv (c_keep p1 p2 p3 p4) ?_
          rintro s1 ⟨F1, f1, q1, q2, q3, q4⟩
          have E1 : ∀ b, ¬ (100 ≤ b ∧ b ≤ 201) → s1.1 b = s.1 b := fun b hb => F1.1 b (by omega)
          have g1 : gS 10 s1 = gM (s.1 226) := by rw [gS_f (s := s) (fun b _ _ => E1 b (by omega))]; exact g
          simp (disch := omega) only [zgi, zgl, zwi, zwf, zjn, zj0, zcl_s, zcv_s, zrd_n, zrl_n, zix_n, zwa_n, zwl_n, zI1, zI2, zL1, zL2, zR1, zR2, updE, updLE, zbl_0, zbl_1, nI_1, nI_add, nI_mulR, nI_leI, nI_ltI, nI_0le, nI_lt0, bvE, ↓reduceIte, Nat.reduceEqDiff, Nat.reduceLT, Nat.reduceAdd, Nat.reduceMul, reduceCtorEq, i10, i01, eq_self, or_true, true_or, false_or, or_false, not_true_eq_false, not_false_eq_true, if_true, if_false, rT10, g1, gS10_T, eq_self]
          refine rt_s ?_
          dsimp only
          have eA : ∀ b, b ≠ 11 → (zsI s1 11 k ((gM (s.1 226)).1 k - m)).1 b = s1.1 b := fun b hb => by rw [zI1, if_neg hb]
          generalize hs2 : zsI s1 11 k ((gM (s.1 226)).1 k - m) = s2
          have g2 : gS 10 s2 = (upd (gM (s.1 226)).1 k ((gM (s.1 226)).1 k - m), (gM (s.1 226)).2) := by rw [← hs2, gS10_T (by omega), g1]
          have E2 : ∀ b, ¬ (b = 11 ∨ 100 ≤ b ∧ b ≤ 201) → s2.1 b = s.1 b := fun b hb => by rw [← hs2, eA b (by omega), E1 b (by omega)]
          have E21 : ∀ b, b ≠ 11 → s2.1 b = s1.1 b := fun b hb => by rw [← hs2]; exact eA b hb
          have e226 : s2.1 226 = s.1 226 := E2 226 (by omega)
          have m3' : s2.1 226 3 = nI P := by rw [e226]; exact m3
          simp (disch := omega) only [zgi, zgl, zwi, zwf, zjn, zj0, zcl_s, zcv_s, zrd_n, zrl_n, zix_n, zwa_n, zwl_n, zI1, zI2, zL1, zL2, zR1, zR2, updE, updLE, zbl_0, zbl_1, nI_1, nI_add, nI_mulR, nI_leI, nI_ltI, nI_0le, nI_lt0, bvE, ↓reduceIte, Nat.reduceEqDiff, Nat.reduceLT, Nat.reduceAdd, Nat.reduceMul, reduceCtorEq, i10, i01, eq_self, or_true, true_or, false_or, or_false, not_true_eq_false, not_false_eq_true, if_true, if_false, mPair m3' hP hk, hin, hab, mTemper, e226, ht, and_self]
          refine rt_cv (m_keepsAct p1 (by rw [E2 216 (by omega)]; exact p5)) ?_
          rintro s3 ⟨x1, x2, x3, x4⟩
          have f226 : s3.1 226 = s.1 226 := by rw [x1 226 (by omega) (by omega), e226]
          simp (disch := omega) only [zgi, zgl, zwi, zwf, zjn, zj0, zcl_s, zcv_s, zrd_n, zrl_n, zix_n, zwa_n, zwl_n, zI1, zI2, zL1, zL2, zR1, zR2, updE, updLE, zbl_0, zbl_1, nI_1, nI_add, nI_mulR, nI_leI, nI_ltI, nI_0le, nI_lt0, bvE, ↓reduceIte, Nat.reduceEqDiff, Nat.reduceLT, Nat.reduceAdd, Nat.reduceMul, reduceCtorEq, i10, i01, eq_self, or_true, true_or, false_or, or_false, not_true_eq_false, not_false_eq_true, if_true, if_false, l2, l3, l6, l12, l27, l57, l67, l73, l103, qT, mTemper, f226, gM_T, eq_self]
          generalize hs4 : zsI s3 226 (12 + 3 * k) ((gM (s.1 226)).1 k - m) = s4
          have g4 : gM (s4.1 226) = (upd (gM (s.1 226)).1 k ((gM (s.1 226)).1 k - m), (gM (s.1 226)).2) := by
            rw [← hs4, zI1, if_pos rfl, gM_T (by omega), f226]
          have E4 : ∀ b, b ≠ 226 → s4.1 b = s3.1 b := fun b hb => by rw [← hs4, zI1, if_neg hb]
          have k4 : ∀ j, j < 10 ∨ 57 ≤ j → s4.1 226 j = s.1 226 j := fun j hj => by rw [← hs4, zI1, if_pos rfl, updE, if_neg (by omega), f226]
          have tz : iN 0 999 ((gM (s.1 226)).1 k - m) := by
            obtain ⟨n, n1, n2, n3⟩ := (h3.2.2.2.1.1 k (by omega)).2.2
            rw [n3] at ht ⊢
            obtain ⟨mm, mm1, rfl⟩ := nI_of (x := m) (fun e => Int32.not_le.mpr e (Int32.le_trans (by decide) hab.1))
            rw [nI_leI (by omega) (by omega)] at ht
            rw [nI_sub ht]; exact ⟨n - mm, by omega, by omega, rfl⟩
          refine rt_s ⟨rfl, Rel.act h1 h2 h3 h4 h6 h7 (fun b hb => ?_) (fun j hj => ?_) k4 ?_ ?_ ?_⟩
          · dsimp only; rw [E4 b (by omega), x1 b (by omega) (by omega), E2 b (by omega)]
          · dsimp only; rw [E4 216 (by omega), x2 j (by omega), E2 216 (by omega)]
          · dsimp only; rw [gS_f (s := s2) (fun b _ _ => by rw [E4 b (by omega), x1 b (by omega) (by omega)]), g2, g4]
          · rw [sOK_z]; dsimp only; rw [g4]
            exact ⟨zOK.T h3.2.2.2.1.1 tz, h3.2.2.2.1.2⟩
          · refine rHi_push p1 p6 h3.2.2.2.1 q1 ?_ ?_ ?_ (fun i hi => ?_) (fun i hi => ?_)
            · dsimp only; rw [E4 100 (by omega), x1 100 (by omega) (by omega), E21 100 (by omega)]; exact q2
            · dsimp only; rw [E4 100 (by omega), x1 100 (by omega) (by omega), E21 100 (by omega)]; exact q3
            · dsimp only; rw [E4 216 (by omega)]; exact x3
            · have hm := Nat.mod_lt (f1 + i) (show 0 < 20 by omega)
              rw [gS_f (s := s1) (fun b _ _ => by dsimp only; rw [E4 b (by omega), x1 b (by omega) (by omega), E21 b (by omega)]), q4 i hi, g]
            · dsimp only
              rw [E4 228 (by omega), x4 i hi, E2 228 (by omega), e226]
        · simp (disch := omega) only [zgi, zgl, zwi, zwf, zjn, zj0, zcl_s, zcv_s, zrd_n, zrl_n, zix_n, zwa_n, zwl_n, zI1, zI2, zL1, zL2, zR1, zR2, updE, updLE, zbl_0, zbl_1, nI_1, nI_add, nI_mulR, nI_leI, nI_ltI, nI_0le, nI_lt0, bvE, ↓reduceIte, Nat.reduceEqDiff, Nat.reduceLT, Nat.reduceAdd, Nat.reduceMul, reduceCtorEq, i10, i01, eq_self, or_true, true_or, false_or, or_false, not_true_eq_false, not_false_eq_true, if_true, if_false, cHas e3 hP hk, ha, hb, rT10, hT, ht]
          refine rt_s ?_
          simp (disch := omega) only [zgi, zgl, zwi, zwf, zjn, zj0, zcl_s, zcv_s, zrd_n, zrl_n, zix_n, zwa_n, zwl_n, zI1, zI2, zL1, zL2, zR1, zR2, updE, updLE, zbl_0, zbl_1, nI_1, nI_add, nI_mulR, nI_leI, nI_ltI, nI_0le, nI_lt0, bvE, ↓reduceIte, Nat.reduceEqDiff, Nat.reduceLT, Nat.reduceAdd, Nat.reduceMul, reduceCtorEq, i10, i01, eq_self, or_true, true_or, false_or, or_false, not_true_eq_false, not_false_eq_true, if_true, if_false, mPair m3 hP hk, hin, hab, mTemper, ht, and_self]
          exact rt_s ⟨rfl, hR⟩
  · simp only [zgi, zgl, zwi, zwf, zjn, zj0, zcl_s, zcv_s, zrd_n, zrl_n, zix_n, zwa_n, zwl_n, zI1, zI2, zL1, zL2, zR1, zR2, updE, updLE, zbl_0, zbl_1, nI_1, nI_add, nI_mulR, nI_leI, nI_ltI, nI_0le, nI_lt0, bvE, ↓reduceIte, Nat.reduceEqDiff, Nat.reduceLT, Nat.reduceAdd, Nat.reduceMul, reduceCtorEq, i10, i01, eq_self, or_true, true_or, false_or, or_false, not_true_eq_false, not_false_eq_true, if_true, if_false, cHasN e3 hn]
    refine rt_s ?_
    simp only [zgi, zgl, zwi, zwf, zjn, zj0, zcl_s, zcv_s, zrd_n, zrl_n, zix_n, zwa_n, zwl_n, zI1, zI2, zL1, zL2, zR1, zR2, updE, updLE, zbl_0, zbl_1, nI_1, nI_add, nI_mulR, nI_leI, nI_ltI, nI_0le, nI_lt0, bvE, ↓reduceIte, Nat.reduceEqDiff, Nat.reduceLT, Nat.reduceAdd, Nat.reduceMul, reduceCtorEq, i10, i01, eq_self, or_true, true_or, false_or, or_false, not_true_eq_false, not_false_eq_true, if_true, if_false, mPairN m3 hn]
    exact rt_s ⟨rfl, hR⟩
