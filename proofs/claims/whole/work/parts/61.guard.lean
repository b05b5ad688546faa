/-! Guards. -/
theorem l0 : (0 : Int32) = nI 0 := rfl
theorem l1 : (1 : Int32) = nI 1 := rfl
theorem i01 : ((0 : Int32) = 1) = False := eq_false (by decide)
theorem pN (p : Int32) (P : Nat) (hP : P < 2147483648) : (∃ k, k < P ∧ p = nI k) ∨ (p < 0 ∨ nI P ≤ p) := by
  by_cases h : p < 0
  · exact Or.inr (Or.inl h)
  · obtain ⟨j, hj, rfl⟩ := nI_of h
    by_cases h2 : j < P
    · exact Or.inl ⟨j, h2, rfl⟩
    · exact Or.inr (Or.inr (nI_le (by omega) (by omega)))
theorem cHas {s : ZS} {P p : Nat} (e3 : s.1 4 3 = nI P) (hP : P ≤ 5) (h : p < P) : f_Smithy_hasPair 4 (nI p) s = some (1, s) := by
  have hn : ¬ P ≤ p := by omega
  unfold f_Smithy_hasPair; simp (disch := omega) only [zgi, zgl, zwi, zwf, zjn, zj0, zcl_s, zcv_s, zrd_n, zrl_n, zix_n, zwa_n, zwl_n, zI1, zI2, zL1, zL2, zR1, zR2, updE, updLE, zbl_0, zbl_1, nI_1, nI_add, nI_mulR, nI_leI, nI_ltI, nI_0le, nI_lt0, bvE, ↓reduceIte, Nat.reduceEqDiff, Nat.reduceLT, Nat.reduceAdd, Nat.reduceMul, reduceCtorEq, e3, hn]
theorem cHasN {s : ZS} {P : Nat} {p : Int32} (e3 : s.1 4 3 = nI P) (h : p < 0 ∨ nI P ≤ p) : f_Smithy_hasPair 4 p s = some (0, s) := by
  unfold f_Smithy_hasPair
  by_cases h1 : p < 0
  · rw [if_pos h1, zbl_0]
  · rw [if_neg h1]; simp only [zgi, e3]; rw [if_pos (h.resolve_left h1), zbl_0]
theorem cHasS {s : ZS} {Q q : Nat} (e4 : s.1 4 4 = nI Q) (hQ : Q ≤ 6) (h : q < Q) : f_Smithy_hasSaying 4 (nI q) s = some (1, s) := by
  have hn : ¬ Q ≤ q := by omega
  unfold f_Smithy_hasSaying; simp (disch := omega) only [zgi, zgl, zwi, zwf, zjn, zj0, zcl_s, zcv_s, zrd_n, zrl_n, zix_n, zwa_n, zwl_n, zI1, zI2, zL1, zL2, zR1, zR2, updE, updLE, zbl_0, zbl_1, nI_1, nI_add, nI_mulR, nI_leI, nI_ltI, nI_0le, nI_lt0, bvE, ↓reduceIte, Nat.reduceEqDiff, Nat.reduceLT, Nat.reduceAdd, Nat.reduceMul, reduceCtorEq, e4, hn]
theorem cHasSN {s : ZS} {Q : Nat} {p : Int32} (e4 : s.1 4 4 = nI Q) (h : p < 0 ∨ nI Q ≤ p) : f_Smithy_hasSaying 4 p s = some (0, s) := by
  unfold f_Smithy_hasSaying
  by_cases h1 : p < 0
  · rw [if_pos h1, zbl_0]
  · rw [if_neg h1]; simp only [zgi, e4]; rw [if_pos (h.resolve_left h1), zbl_0]
theorem mPair {s : ZS} {P p : Nat} (e3 : s.1 226 3 = nI P) (hP : P ≤ 5) (h : p < P) : f_Model_isPair (nI p) s = some (1, s) := by
  have hn : ¬ P ≤ p := by omega
  unfold f_Model_isPair; simp (disch := omega) only [zgi, zgl, zwi, zwf, zjn, zj0, zcl_s, zcv_s, zrd_n, zrl_n, zix_n, zwa_n, zwl_n, zI1, zI2, zL1, zL2, zR1, zR2, updE, updLE, zbl_0, zbl_1, nI_1, nI_add, nI_mulR, nI_leI, nI_ltI, nI_0le, nI_lt0, bvE, ↓reduceIte, Nat.reduceEqDiff, Nat.reduceLT, Nat.reduceAdd, Nat.reduceMul, reduceCtorEq, e3, hn]
theorem mPairN {s : ZS} {P : Nat} {p : Int32} (e3 : s.1 226 3 = nI P) (h : p < 0 ∨ nI P ≤ p) : f_Model_isPair p s = some (0, s) := by
  unfold f_Model_isPair
  by_cases h1 : p < 0
  · rw [if_pos h1, zbl_0]
  · rw [if_neg h1]; simp only [zgi, e3]; rw [if_pos (h.resolve_left h1), zbl_0]
theorem mSay {s : ZS} {Q q : Nat} (e4 : s.1 226 4 = nI Q) (hQ : Q ≤ 6) (h : q < Q) : f_Model_isSaying (nI q) s = some (1, s) := by
  have hn : ¬ Q ≤ q := by omega
  unfold f_Model_isSaying; simp (disch := omega) only [zgi, zgl, zwi, zwf, zjn, zj0, zcl_s, zcv_s, zrd_n, zrl_n, zix_n, zwa_n, zwl_n, zI1, zI2, zL1, zL2, zR1, zR2, updE, updLE, zbl_0, zbl_1, nI_1, nI_add, nI_mulR, nI_leI, nI_ltI, nI_0le, nI_lt0, bvE, ↓reduceIte, Nat.reduceEqDiff, Nat.reduceLT, Nat.reduceAdd, Nat.reduceMul, reduceCtorEq, e4, hn]
theorem mSayN {s : ZS} {Q : Nat} {p : Int32} (e4 : s.1 226 4 = nI Q) (h : p < 0 ∨ nI Q ≤ p) : f_Model_isSaying p s = some (0, s) := by
  unfold f_Model_isSaying
  by_cases h1 : p < 0
  · rw [if_pos h1, zbl_0]
  · rw [if_neg h1]; simp only [zgi, e4]; rw [if_pos (h.resolve_left h1), zbl_0]
theorem mBareN {s : ZS} {P : Nat} {p : Int32} (e3 : s.1 226 3 = nI P) (h : p < 0 ∨ nI P ≤ p) : f_Model_isBare p s = some (0, s) := by
  unfold f_Model_isBare
  rw [mPairN e3 h]
  simp only [zcl_s, ↓reduceIte, zbl_0]
theorem cFreeN {s : ZS} {P : Nat} {p : Int32} (e3 : s.1 4 3 = nI P) (h : p < 0 ∨ nI P ≤ p) : f_World_isFree 3 p s = some (0, s) := by
  unfold f_World_isFree
  rw [show 3 + 1 = 4 from rfl, cHasN e3 h]
  simp only [zcl_s, ↓reduceIte, zbl_0]
theorem cFree {s : ZS} {P p : Nat} (e3 : s.1 4 3 = nI P) (hP : P ≤ 5) (h : p < P) : f_World_isFree 3 (nI p) s = some (if (gS 10 s).2.1 p = 0 then 1 else 0, s) := by
  unfold f_World_isFree
  rw [show 3 + 1 = 4 from rfl, cHas e3 hP h]
  by_cases k : (gS 10 s).2.1 p = 0
  · simp (disch := omega) only [zgi, zgl, zwi, zwf, zjn, zj0, zcl_s, zcv_s, zrd_n, zrl_n, zix_n, zwa_n, zwl_n, zI1, zI2, zL1, zL2, zR1, zR2, updE, updLE, zbl_0, zbl_1, nI_1, nI_add, nI_mulR, nI_leI, nI_ltI, nI_0le, nI_lt0, bvE, ↓reduceIte, Nat.reduceEqDiff, Nat.reduceLT, Nat.reduceAdd, Nat.reduceMul, reduceCtorEq, i10, rW10, k, not_true_eq_false]
  · simp (disch := omega) only [zgi, zgl, zwi, zwf, zjn, zj0, zcl_s, zcv_s, zrd_n, zrl_n, zix_n, zwa_n, zwl_n, zI1, zI2, zL1, zL2, zR1, zR2, updE, updLE, zbl_0, zbl_1, nI_1, nI_add, nI_mulR, nI_leI, nI_ltI, nI_0le, nI_lt0, bvE, ↓reduceIte, Nat.reduceEqDiff, Nat.reduceLT, Nat.reduceAdd, Nat.reduceMul, reduceCtorEq, i10, rW10, k, not_false_eq_true]
theorem cEi {s : ZS} {p : Int32} : f_Ring_isEither p s = some (if p = 0 ∨ p = 1 then 1 else 0, s) := by
  unfold f_Ring_isEither
  by_cases h : p = 0
  · rw [if_pos h, zbl_1, if_pos (Or.inl h)]
  · rw [if_neg h]
    by_cases h2 : p = 1
    · rw [if_neg (fun e => e h2), zbl_1, if_pos (Or.inr h2)]
    · rw [if_pos h2, zbl_0, if_neg (fun e => e.elim h h2)]
theorem i64lt (x y : Int32) : (x.toInt64 < y.toInt64) = (x < y) := by
  apply propext; rw [Int64.lt_iff_toInt_lt, Int32.lt_iff_toInt_lt, Int32.toInt_toInt64, Int32.toInt_toInt64]
theorem mIn {s : ZS} {p lo hi : Int32} {L H : Int64} (hL : L = lo.toInt64) (hH : H = hi.toInt64) : f_Model_in p.toInt64 L H s = some (if lo ≤ p ∧ p ≤ hi then 1 else 0, s) := by
  subst hL; subst hH
  unfold f_Model_in
  simp only [lg_lt0, lg_0lt, i64lt]
  by_cases h : p < lo
  · rw [if_pos h, zbl_0, if_neg (fun e => Int32.not_le.mpr h e.1)]
  · rw [if_neg h]
    by_cases h2 : hi < p
    · rw [if_pos h2, zbl_0, if_neg (fun e => Int32.not_le.mpr h2 e.2)]
    · rw [if_neg h2, zbl_1, if_pos ⟨Int32.not_lt.mp h, Int32.not_lt.mp h2⟩]
theorem mIn01 {s : ZS} {p : Int32} : f_Model_in p.toInt64 0 1 s = some (if p = 0 ∨ p = 1 then 1 else 0, s) := by
  rw [mIn (lo := 0) (hi := 1) (by decide) (by decide)]
  congr 2
  have : (0 ≤ p ∧ p ≤ 1) = (p = 0 ∨ p = 1) := by
    apply propext
    simp only [Int32.le_iff_toInt_le, ← Int32.toInt_inj]
    have e0 : (0 : Int32).toInt = 0 := by decide
    have e1 : (1 : Int32).toInt = 1 := by decide
    rw [e0, e1]; omega
  simp only [this]
