/-! The steps that neither days nor texts are needed for. -/
theorem rWd.g {s : ZS} {M : Nat → Int32} {f x : Int32} {R P Q : Nat} (h : rWd 3 s M f x R P Q) : gS 10 s = gM M := h.2.2.1
theorem st_pair (p w : Int32) : stp (f_Ring_pair p w) (f_Model_pair p w) := by
  intro s hR
  obtain ⟨R, P, Q, h1, h2, h3, h4, h5, h6, h7⟩ := id hR
  have hP := h3.1.1
  have e3 : s.1 4 3 = nI P := h3.cC.2.2.1
  have m3 : s.1 226 3 = nI P := h3.cM.2.2.1
  unfold f_Ring_pair f_Model_pair
  rcases pN p P (by omega) with ⟨k, hk, rfl⟩ | hn
  · have e7 := h3.cC.2.2.2.2.2.2.1 k hk
    have e8 := h3.cC.2.2.2.2.2.2.2.1 k (by omega)
    rw [cHas e3 hP hk]
    simp (disch := omega) only [zgi, zgl, zwi, zwf, zjn, zj0, zcl_s, zcv_s, zrd_n, zrl_n, zix_n, zwa_n, zwl_n, zI1, zI2, zL1, zL2, zR1, zR2, updE, updLE, zbl_0, zbl_1, nI_1, nI_add, nI_mulR, nI_leI, nI_ltI, nI_0le, nI_lt0, bvE, ↓reduceIte, Nat.reduceEqDiff, Nat.reduceLT, Nat.reduceAdd, Nat.reduceMul, reduceCtorEq, i10, not_false_eq_true, rT10, rW10, rZ10, e7, e8, h3.g]
    by_cases w0 : w = 0
    · simp (disch := omega) only [w0, ↓reduceIte]
      refine rt_s ?_
      rw [mPair m3 hP hk]
      simp (disch := omega) only [zgi, zgl, zwi, zwf, zjn, zj0, zcl_s, zcv_s, zrd_n, zrl_n, zix_n, zwa_n, zwl_n, zI1, zI2, zL1, zL2, zR1, zR2, updE, updLE, zbl_0, zbl_1, nI_1, nI_add, nI_mulR, nI_leI, nI_ltI, nI_0le, nI_lt0, bvE, ↓reduceIte, Nat.reduceEqDiff, Nat.reduceLT, Nat.reduceAdd, Nat.reduceMul, reduceCtorEq, i10, not_false_eq_true, mTemper]
      exact rt_s ⟨rfl, hR⟩
    · by_cases w1 : w = 1
      · simp (disch := omega) only [w1, ↓reduceIte, i10]
        refine rt_s ?_
        rw [mPair m3 hP hk]
        simp (disch := omega) only [zgi, zgl, zwi, zwf, zjn, zj0, zcl_s, zcv_s, zrd_n, zrl_n, zix_n, zwa_n, zwl_n, zI1, zI2, zL1, zL2, zR1, zR2, updE, updLE, zbl_0, zbl_1, nI_1, nI_add, nI_mulR, nI_leI, nI_ltI, nI_0le, nI_lt0, bvE, ↓reduceIte, Nat.reduceEqDiff, Nat.reduceLT, Nat.reduceAdd, Nat.reduceMul, reduceCtorEq, l2, l3, l4, l5, l6, l12, l27, l57, l67, l73, l103, i10, not_false_eq_true]
        exact rt_s ⟨rfl, hR⟩
      · by_cases w2 : w = 2
        · simp (disch := omega) only [w0, w1, w2, ↓reduceIte]
          refine rt_s ?_
          rw [mPair m3 hP hk]
          simp (disch := omega) only [zgi, zgl, zwi, zwf, zjn, zj0, zcl_s, zcv_s, zrd_n, zrl_n, zix_n, zwa_n, zwl_n, zI1, zI2, zL1, zL2, zR1, zR2, updE, updLE, zbl_0, zbl_1, nI_1, nI_add, nI_mulR, nI_leI, nI_ltI, nI_0le, nI_lt0, bvE, ↓reduceIte, Nat.reduceEqDiff, Nat.reduceLT, Nat.reduceAdd, Nat.reduceMul, reduceCtorEq, i10, not_false_eq_true, mBand, ← w2, w0, w1]
          exact rt_s ⟨rfl, hR⟩
        · by_cases w3 : w = 3
          · simp (disch := omega) only [w0, w1, w2, w3, ↓reduceIte]
            refine rt_s ?_
            rw [mPair m3 hP hk]
            rw [w3] at w0 w1 w2
            simp (disch := omega) only [zgi, zgl, zwi, zwf, zjn, zj0, zcl_s, zcv_s, zrd_n, zrl_n, zix_n, zwa_n, zwl_n, zI1, zI2, zL1, zL2, zR1, zR2, updE, updLE, zbl_0, zbl_1, nI_1, nI_add, nI_mulR, nI_leI, nI_ltI, nI_0le, nI_lt0, bvE, ↓reduceIte, Nat.reduceEqDiff, Nat.reduceLT, Nat.reduceAdd, Nat.reduceMul, reduceCtorEq, i10, not_false_eq_true, zcl_s, w0, w1, w2, l12, l3, l2, nI_add, nI_mulR, qZ]
            exact rt_s ⟨rfl, hR⟩
          · by_cases w4 : w = 4
            · simp (disch := omega) only [w0, w1, w2, w3, w4, ↓reduceIte]
              refine rt_s ?_
              rw [mPair m3 hP hk]
              simp (disch := omega) only [zgi, zgl, zwi, zwf, zjn, zj0, zcl_s, zcv_s, zrd_n, zrl_n, zix_n, zwa_n, zwl_n, zI1, zI2, zL1, zL2, zR1, zR2, updE, updLE, zbl_0, zbl_1, nI_1, nI_add, nI_mulR, nI_leI, nI_ltI, nI_0le, nI_lt0, bvE, ↓reduceIte, Nat.reduceEqDiff, Nat.reduceLT, Nat.reduceAdd, Nat.reduceMul, reduceCtorEq, i10, not_false_eq_true, zcl_s, w0, w1, w2, w3, l103, nI_add]
              exact rt_s ⟨rfl, hR⟩
            · simp (disch := omega) only [w0, w1, w2, w3, w4, ↓reduceIte]
              refine rt_s ?_
              rw [mPair m3 hP hk]
              simp (disch := omega) only [zcl_s, ↓reduceIte, i10, not_false_eq_true, w0, w1, w2, w3, w4]
              exact rt_s ⟨rfl, hR⟩
  · rw [cHasN e3 hn]
    simp only [zcl_s, ↓reduceIte, not_true_eq_false]
    refine rt_s ?_
    rw [mPairN m3 hn]
    simp only [zcl_s, ↓reduceIte, not_true_eq_false]
    exact rt_s ⟨rfl, hR⟩
theorem st_saying (p q w : Int32) : stp (f_Ring_saying p q w) (f_Model_saying p q w) := by
  intro s hR
  obtain ⟨R, P, Q, h1, h2, h3, h4, h5, h6, h7⟩ := id hR
  have hP := h3.1.1
  have hQ := h3.1.2.1
  have e3 : s.1 4 3 = nI P := h3.cC.2.2.1
  have e4 : s.1 4 4 = nI Q := h3.cC.2.2.2.1
  have m3 : s.1 226 3 = nI P := h3.cM.2.2.1
  have m4 : s.1 226 4 = nI Q := h3.cM.2.2.2.1
  unfold f_Ring_saying f_Model_saying f_Smithy_hasBoth
  rcases pN p P (by omega) with ⟨k, hk, rfl⟩ | hn
  · rw [cHas e3 hP hk]
    simp only [zcl_s, i10, ↓reduceIte]
    rcases pN q Q (by omega) with ⟨j, hj, rfl⟩ | hn
    · rw [cHasS e4 hQ hj]
      simp only [zcl_s, i10, ↓reduceIte, zbl_1, cEi]
      by_cases hw : w = 0 ∨ w = 1
      · simp only [hw, ↓reduceIte, i10, not_false_eq_true]
        by_cases w0 : w = 0
        · have e9 := h3.cC.2.2.2.2.2.2.2.2.1 j hj
          have e10 := h3.cC.2.2.2.2.2.2.2.2.2 (k * 6 + j) (by omega)
          unfold f_Smithy_weight
          simp (disch := omega) only [zgi, zgl, zwi, zwf, zjn, zj0, zcl_s, zcv_s, zrd_n, zrl_n, zix_n, zwa_n, zwl_n, zI1, zI2, zL1, zL2, zR1, zR2, updE, updLE, zbl_0, zbl_1, nI_1, nI_add, nI_mulR, nI_leI, nI_ltI, nI_0le, nI_lt0, bvE, ↓reduceIte, Nat.reduceEqDiff, Nat.reduceLT, Nat.reduceAdd, Nat.reduceMul, reduceCtorEq, w0, not_true_eq_false, l6, e9, e10]
          refine rt_s ?_
          simp (disch := omega) only [mPair m3 hP hk, mSay m4 hQ hj, zcl_s, i10, ↓reduceIte, mIn01, true_or, not_true_eq_false, not_false_eq_true, mHurts (show k < 5 by omega) (show j < 6 by omega) h3.cM]
          refine rt_s ⟨?_, hR⟩
          rw [show 73 + (k * 6 + j) = 73 + 6 * k + j by omega]
        · obtain rfl := hw.resolve_left w0
          simp (disch := omega) only [zgi, zgl, zwi, zwf, zjn, zj0, zcl_s, zcv_s, zrd_n, zrl_n, zix_n, zwa_n, zwl_n, zI1, zI2, zL1, zL2, zR1, zR2, updE, updLE, zbl_0, zbl_1, nI_1, nI_add, nI_mulR, nI_leI, nI_ltI, nI_0le, nI_lt0, bvE, ↓reduceIte, Nat.reduceEqDiff, Nat.reduceLT, Nat.reduceAdd, Nat.reduceMul, reduceCtorEq, i10, i01, eq_self, or_true, true_or, false_or, or_false, not_true_eq_false, not_false_eq_true, if_true, if_false, l6, rS10, h3.g]
          refine rt_s ?_
          simp (disch := omega) only [mPair m3 hP hk, mSay m4 hQ hj, zgi, zgl, zwi, zwf, zjn, zj0, zcl_s, zcv_s, zrd_n, zrl_n, zix_n, zwa_n, zwl_n, zI1, zI2, zL1, zL2, zR1, zR2, updE, updLE, zbl_0, zbl_1, nI_1, nI_add, nI_mulR, nI_leI, nI_ltI, nI_0le, nI_lt0, bvE, ↓reduceIte, Nat.reduceEqDiff, Nat.reduceLT, Nat.reduceAdd, Nat.reduceMul, reduceCtorEq, i10, i01, eq_self, or_true, true_or, false_or, or_false, not_true_eq_false, not_false_eq_true, if_true, if_false, l27, l6, mIn01, qS]
          refine rt_s ⟨?_, hR⟩
          rw [show k * 6 + j = 6 * k + j by omega]
      · simp only [hw, ↓reduceIte, not_true_eq_false]
        refine rt_s ?_
        simp only [mPair m3 hP hk, mSay m4 hQ hj, zcl_s, i10, ↓reduceIte, mIn01, hw, not_true_eq_false]
        exact rt_s ⟨rfl, hR⟩
    · rw [cHasSN e4 hn]
      simp only [zcl_s, ↓reduceIte, zbl_0]
      refine rt_s ?_
      simp only [mPair m3 hP hk, mSayN m4 hn, zcl_s, i10, ↓reduceIte]
      exact rt_s ⟨rfl, hR⟩
  · rw [cHasN e3 hn]
    simp only [zcl_s, ↓reduceIte, zbl_0]
    refine rt_s ?_
    rw [mPairN m3 hn]
    simp only [zcl_s, ↓reduceIte]
    exact rt_s ⟨rfl, hR⟩
theorem Rel.w {s : ZS} {s' : ZS} {R P Q : Nat} (h1 : rTp s) (h2 : rRu s R) (h4 : rIm s R) (h5 : rHi s P) (hf : ∀ b, ¬ (3 ≤ b ∧ b ≤ 17 ∨ b = 216 ∨ b = 226) → s'.1 b = s.1 b) (hj : ∀ j, j = 1 ∨ j = 2 ∨ j = 27 → s'.1 216 j = s.1 216 j) (h6 : s'.1 216 23 = 0) (h7 : s'.1 216 24 = -1) (h3 : rWd 3 s' (s'.1 226) (s'.1 216 21) (s'.1 216 22) R P Q) : Rel s' :=
  ⟨R, P, Q, h1.f (by rw [hf 1 (by omega)]) (hj 1 (by omega)) (hf 2 (by omega)) (hf 217 (by omega)), h2.f (by rw [hf 0 (by omega)]) (hj 2 (by omega)) (fun b _ _ => hf b (by omega)) (fun b _ => hf b (by omega)), h3, h4.f (fun b _ _ => hf b (by omega)) (fun b _ _ => hf b (by omega)), h5.f (fun b _ _ => hf b (by omega)) (hj 27 (by omega)) (hf 228 (by omega)), h6, h7⟩
theorem st_seed (p : Int32) : stp (f_Ring_seed p) (f_Model_seed p) := by
  intro s hR
  obtain ⟨R, P, Q, h1, h2, h3, h4, h5, h6, h7⟩ := id hR
  unfold f_Ring_seed f_Model_seed
  by_cases hp : 0 ≤ p
  · simp only [hp, zgi, zgl, zwi, zwf, zjn, zj0, zcl_s, zcv_s, zrd_n, zrl_n, zix_n, zwa_n, zwl_n, zI1, zI2, zL1, zL2, zR1, zR2, updE, updLE, zbl_0, zbl_1, nI_1, nI_add, nI_mulR, nI_leI, nI_ltI, nI_0le, nI_lt0, bvE, ↓reduceIte, Nat.reduceEqDiff, Nat.reduceLT, Nat.reduceAdd, Nat.reduceMul, reduceCtorEq, i10, i01, eq_self, or_true, true_or, false_or, or_false, not_true_eq_false, not_false_eq_true, if_true, if_false]
    refine rt_s ?_
    simp only [zgi, zgl, zwi, zwf, zjn, zj0, zcl_s, zcv_s, zrd_n, zrl_n, zix_n, zwa_n, zwl_n, zI1, zI2, zL1, zL2, zR1, zR2, updE, updLE, zbl_0, zbl_1, nI_1, nI_add, nI_mulR, nI_leI, nI_ltI, nI_0le, nI_lt0, bvE, ↓reduceIte, Nat.reduceEqDiff, Nat.reduceLT, Nat.reduceAdd, Nat.reduceMul, reduceCtorEq, i10, i01, eq_self, or_true, true_or, false_or, or_false, not_true_eq_false, not_false_eq_true, if_true, if_false]
    refine rt_s ⟨?_, ?_⟩
    · exact h3.2.2.2.2.2.2.2.1.symm
    · obtain ⟨g1, g2, g3, g4, g5, g6, g7, g8, g9⟩ := h3
      refine Rel.w (Q := Q) h1 h2 h4 h5 (fun b hb => ?_) (fun j hj => ?_) h6 h7 ?_
      · dsimp only; rw [zI1, if_neg (by omega), zI1, if_neg (by omega)]
      · dsimp only; rw [zI1, if_pos rfl, updE, if_neg (by omega)]; rfl
      · refine ⟨g1, ?_, ?_, g4, ?_, g6, g7, rfl, ?_⟩
        · exact g2.f (fun b hb hb2 => by dsimp only; rw [zI1, if_neg (by omega), zI1, if_neg (by omega)])
        · rw [gS_f (s := s) (fun b hb hb2 => by dsimp only; rw [zI1, if_neg (by omega), zI1, if_neg (by omega)])]; exact g3
        · obtain ⟨m, k1, k2, k3, k4⟩ := g5
          exact ⟨m, k1, k2, k3, k4⟩
        · obtain ⟨n, hn, e⟩ := nI_of (Int32.not_lt.mpr hp)
          exact ⟨n, by omega, by omega, e⟩
  · simp only [hp, ↓reduceIte]
    exact rt_s (rt_s ⟨rfl, hR⟩)
theorem st_force (p : Int32) : stp (f_Ring_force p) (f_Model_force p) := by
  intro s hR
  obtain ⟨R, P, Q, h1, h2, h3, h4, h5, h6, h7⟩ := id hR
  have r1 : s.1 0 10 = nI R := h2.2.1
  have r2 : s.1 216 2 = nI R := h2.2.2.1
  have hR6 := h2.1
  unfold f_Ring_force f_Model_force f_Model_isRule
  have key : (p = -1 ∨ ∃ j, j < R ∧ p = nI j) → Rel (zsI (zsI s 3 6 p) 216 21 p) := by
    intro hp
    obtain ⟨g1, g2, g3, g4, g5, g6, g7, g8, g9⟩ := h3
    refine Rel.w (Q := Q) h1 h2 h4 h5 (fun b hb => ?_) (fun j hj => ?_) h6 h7 ?_
    · rw [zI1, if_neg (by omega), zI1, if_neg (by omega)]
    · rw [zI1, if_pos rfl, updE, if_neg (by omega)]; rfl
    · refine ⟨g1, ?_, ?_, g4, ?_, rfl, hp, g8, g9⟩
      · exact g2.f (fun b hb hb2 => by rw [zI1, if_neg (by omega), zI1, if_neg (by omega)])
      · rw [gS_f (s := s) (fun b hb hb2 => by rw [zI1, if_neg (by omega), zI1, if_neg (by omega)])]; exact g3
      · obtain ⟨m, k1, k2, k3, k4⟩ := g5
        exact ⟨m, k1, k2, k3, k4⟩
  have h36 : s.1 216 21 = s.1 3 6 := h3.2.2.2.2.2.1.symm
  by_cases hm : p = -1
  · have hlt : (-1 : Int32) < nI R := Int32.lt_of_lt_of_le (by decide) (nI_pos' (by omega))
    subst hm
    simp only [zgi, zgl, zwi, zwf, zjn, zj0, zcl_s, zcv_s, zrd_n, zrl_n, zix_n, zwa_n, zwl_n, zI1, zI2, zL1, zL2, zR1, zR2, updE, updLE, zbl_0, zbl_1, nI_1, nI_add, nI_mulR, nI_leI, nI_ltI, nI_0le, nI_lt0, bvE, ↓reduceIte, Nat.reduceEqDiff, Nat.reduceLT, Nat.reduceAdd, Nat.reduceMul, reduceCtorEq, i10, i01, eq_self, or_true, true_or, false_or, or_false, not_true_eq_false, not_false_eq_true, if_true, if_false, r1, hlt, Int32.lt_irrefl]
    refine rt_s ?_
    simp only [zgi, zgl, zwi, zwf, zjn, zj0, zcl_s, zcv_s, zrd_n, zrl_n, zix_n, zwa_n, zwl_n, zI1, zI2, zL1, zL2, zR1, zR2, updE, updLE, zbl_0, zbl_1, nI_1, nI_add, nI_mulR, nI_leI, nI_ltI, nI_0le, nI_lt0, bvE, ↓reduceIte, Nat.reduceEqDiff, Nat.reduceLT, Nat.reduceAdd, Nat.reduceMul, reduceCtorEq, i10, i01, eq_self, or_true, true_or, false_or, or_false, not_true_eq_false, not_false_eq_true, if_true, if_false]
    exact rt_s ⟨h36, key (Or.inl rfl)⟩
  · rcases pN p R (by omega) with ⟨k, hk, rfl⟩ | hn
    · have hge : ¬ nI k < -1 := fun e => nI_pos (show k < 2 ^ 31 by omega) (Int32.lt_trans e (by decide))
      have hn2 : ¬ R ≤ k := by omega
      simp (disch := omega) only [zgi, zgl, zwi, zwf, zjn, zj0, zcl_s, zcv_s, zrd_n, zrl_n, zix_n, zwa_n, zwl_n, zI1, zI2, zL1, zL2, zR1, zR2, updE, updLE, zbl_0, zbl_1, nI_1, nI_add, nI_mulR, nI_leI, nI_ltI, nI_0le, nI_lt0, bvE, ↓reduceIte, Nat.reduceEqDiff, Nat.reduceLT, Nat.reduceAdd, Nat.reduceMul, reduceCtorEq, i10, i01, eq_self, or_true, true_or, false_or, or_false, not_true_eq_false, not_false_eq_true, if_true, if_false, hge, r1, hk, hm]
      refine rt_s ?_
      simp (disch := omega) only [zgi, zgl, zwi, zwf, zjn, zj0, zcl_s, zcv_s, zrd_n, zrl_n, zix_n, zwa_n, zwl_n, zI1, zI2, zL1, zL2, zR1, zR2, updE, updLE, zbl_0, zbl_1, nI_1, nI_add, nI_mulR, nI_leI, nI_ltI, nI_0le, nI_lt0, bvE, ↓reduceIte, Nat.reduceEqDiff, Nat.reduceLT, Nat.reduceAdd, Nat.reduceMul, reduceCtorEq, i10, i01, eq_self, or_true, true_or, false_or, or_false, not_true_eq_false, not_false_eq_true, if_true, if_false, r2, hn2]
      exact rt_s ⟨h36, key (Or.inr ⟨k, hk, rfl⟩)⟩
    · have hne : ¬ p < 0 → nI R ≤ p := fun e => hn.resolve_left e
      by_cases hl : p < -1
      · have h0 : p < 0 := Int32.lt_trans hl (by decide)
        simp only [hl, ↓reduceIte]
        refine rt_s ?_
        simp only [zgi, zgl, zwi, zwf, zjn, zj0, zcl_s, zcv_s, zrd_n, zrl_n, zix_n, zwa_n, zwl_n, zI1, zI2, zL1, zL2, zR1, zR2, updE, updLE, zbl_0, zbl_1, nI_1, nI_add, nI_mulR, nI_leI, nI_ltI, nI_0le, nI_lt0, bvE, ↓reduceIte, Nat.reduceEqDiff, Nat.reduceLT, Nat.reduceAdd, Nat.reduceMul, reduceCtorEq, hm, h0, not_true_eq_false]
        exact rt_s ⟨rfl, hR⟩
      · have h0 : ¬ p < 0 := by
          intro e
          apply hm
          rw [Int32.lt_iff_toInt_lt] at e hl
          have e0 : (0 : Int32).toInt = 0 := by decide
          have e1 : (-1 : Int32).toInt = -1 := by decide
          rw [e0] at e; rw [e1] at hl
          apply Int32.toInt_inj.mp; rw [e1]; omega
        have h1' := hne h0
        simp only [zgi, zgl, zwi, zwf, zjn, zj0, zcl_s, zcv_s, zrd_n, zrl_n, zix_n, zwa_n, zwl_n, zI1, zI2, zL1, zL2, zR1, zR2, updE, updLE, zbl_0, zbl_1, nI_1, nI_add, nI_mulR, nI_leI, nI_ltI, nI_0le, nI_lt0, bvE, ↓reduceIte, Nat.reduceEqDiff, Nat.reduceLT, Nat.reduceAdd, Nat.reduceMul, reduceCtorEq, hl, r1, Int32.not_lt.mpr h1']
        refine rt_s ?_
        simp only [zgi, zgl, zwi, zwf, zjn, zj0, zcl_s, zcv_s, zrd_n, zrl_n, zix_n, zwa_n, zwl_n, zI1, zI2, zL1, zL2, zR1, zR2, updE, updLE, zbl_0, zbl_1, nI_1, nI_add, nI_mulR, nI_leI, nI_ltI, nI_0le, nI_lt0, bvE, ↓reduceIte, Nat.reduceEqDiff, Nat.reduceLT, Nat.reduceAdd, Nat.reduceMul, reduceCtorEq, hm, h0, r2, h1', not_true_eq_false]
        exact rt_s ⟨rfl, hR⟩
theorem st_end (p : Int32) : stp (f_Ring_end p) (f_Model_end p) := by
  intro s hR
  obtain ⟨R, P, Q, h1, h2, h3, h4, h5, h6, h7⟩ := id hR
  obtain ⟨n, t1, t2, t3, t4, t5⟩ := h1
  unfold f_Ring_end f_Model_end
  by_cases hp : p < 0
  · simp only [hp, ↓reduceIte]; exact rt_s (rt_s ⟨rfl, hR⟩)
  · obtain ⟨k, hk, rfl⟩ := nI_of hp
    by_cases hkn : k ≤ n
    · simp (disch := omega) only [zgi, zgl, zwi, zwf, zjn, zj0, zcl_s, zcv_s, zrd_n, zrl_n, zix_n, zwa_n, zwl_n, zI1, zI2, zL1, zL2, zR1, zR2, updE, updLE, zbl_0, zbl_1, nI_1, nI_add, nI_mulR, nI_leI, nI_ltI, nI_0le, nI_lt0, bvE, ↓reduceIte, Nat.reduceEqDiff, Nat.reduceLT, Nat.reduceAdd, Nat.reduceMul, reduceCtorEq, i10, i01, eq_self, or_true, true_or, false_or, or_false, not_true_eq_false, not_false_eq_true, if_true, if_false, t2, hkn]
      refine rt_s ?_
      simp (disch := omega) only [zgi, zgl, zwi, zwf, zjn, zj0, zcl_s, zcv_s, zrd_n, zrl_n, zix_n, zwa_n, zwl_n, zI1, zI2, zL1, zL2, zR1, zR2, updE, updLE, zbl_0, zbl_1, nI_1, nI_add, nI_mulR, nI_leI, nI_ltI, nI_0le, nI_lt0, bvE, ↓reduceIte, Nat.reduceEqDiff, Nat.reduceLT, Nat.reduceAdd, Nat.reduceMul, reduceCtorEq, i10, i01, eq_self, or_true, true_or, false_or, or_false, not_true_eq_false, not_false_eq_true, if_true, if_false, t3, hkn]
      refine rt_s ⟨rfl, hR.t ⟨k, by omega, rfl, rfl, t4, t5⟩ (fun b hb => ?_) (fun j hj => ?_)⟩
      · dsimp only; rw [zI1, if_neg (by omega), zI1, if_neg (by omega)]
      · dsimp only; rw [zI1, if_pos rfl, updE, if_neg (by omega)]; rfl
    · simp (disch := omega) only [zgi, zgl, zwi, zwf, zjn, zj0, zcl_s, zcv_s, zrd_n, zrl_n, zix_n, zwa_n, zwl_n, zI1, zI2, zL1, zL2, zR1, zR2, updE, updLE, zbl_0, zbl_1, nI_1, nI_add, nI_mulR, nI_leI, nI_ltI, nI_0le, nI_lt0, bvE, ↓reduceIte, Nat.reduceEqDiff, Nat.reduceLT, Nat.reduceAdd, Nat.reduceMul, reduceCtorEq, i10, i01, eq_self, or_true, true_or, false_or, or_false, not_true_eq_false, not_false_eq_true, if_true, if_false, t2, hkn]
      refine rt_s ?_
      simp (disch := omega) only [zgi, zgl, zwi, zwf, zjn, zj0, zcl_s, zcv_s, zrd_n, zrl_n, zix_n, zwa_n, zwl_n, zI1, zI2, zL1, zL2, zR1, zR2, updE, updLE, zbl_0, zbl_1, nI_1, nI_add, nI_mulR, nI_leI, nI_ltI, nI_0le, nI_lt0, bvE, ↓reduceIte, Nat.reduceEqDiff, Nat.reduceLT, Nat.reduceAdd, Nat.reduceMul, reduceCtorEq, i10, i01, eq_self, or_true, true_or, false_or, or_false, not_true_eq_false, not_false_eq_true, if_true, if_false, t3, hkn]
      exact rt_s ⟨rfl, hR⟩
