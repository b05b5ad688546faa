theorem cl_breakOut10 {P Q : Nat} {C : Nat → Int32} {B : Nat → Bool} {who : Int32} {s : ZS} (hc : cC P Q C s) (hB : ∀ p, p < P → bt who p = B p) : rt (f_Mill_breakOut 10 who s) (fun w => (gS 10 w.2, w.1, w.2.1 205) = sBr P C B (gS 10 s) (s.1 205) ∧ frm (fun b => b = 205 ∨ 10 ≤ b ∧ b ≤ 14) s w.2) := by
  unfold f_Mill_breakOut sBr
  have hP := hc.1
  refine lp_rt P (fun i a s1 => a.2 = nI i ∧ (gS 10 s1, a.1, s1.1 205) = itr i (sBr1 C B) (gS 10 s, 0, s.1 205) ∧ frm (fun b => b = 205 ∨ 10 ≤ b ∧ b ≤ 14) s s1) (by omega) ⟨rfl, rfl, frm.rf⟩ ?_ ?_
  · rintro i ⟨r, c⟩ s1 g hi ⟨h0, h1, h3⟩
    left
    dsimp only at h0 h1
    subst h0
    obtain ⟨_, hQ, e3, e4, e5, e6, e7, e8, e9, e10⟩ := hc.f h3 (fun b hb hb2 => by omega)
    rw [itrS, ← h1]
    have hb := hB i hi
    have e7i := e7 i hi
    have hnP : ¬ P ≤ i := by omega
    unfold f_Mill_breakOut_B5 sBr1
    dsimp only
    by_cases c1 : B i = true
    · by_cases c2 : C (57 + i) ≤ (gS 10 s1).1 i
      · simp (disch := omega) only [zgi, zgl, zwi, zwf, zjn, zj0, zcl_s, zcv_s, zrd_n, zrl_n, zix_n, zwa_n, zwl_n, zI1, zI2, zL1, zL2, zR1, zR2, updE, updLE, zbl_0, zbl_1, nI_1, nI_add, nI_mulR, nI_leI, nI_ltI, nI_0le, nI_lt0, bvE, ↓reduceIte, Nat.reduceEqDiff, Nat.reduceLT, Nat.reduceAdd, Nat.reduceMul, reduceCtorEq, e3, e5, rT10, e7i, bv_0, hb, c1, c2, hnP, Int32.not_lt.mpr c2, minE, and_self]
        refine ⟨_, _, rfl, rfl, ?_, ?_⟩
        · simp (disch := omega) only [gS10_T, gS10_W, gS10_Z, gS10_N, gS10_o, zI1, ↓reduceIte, Nat.reduceEqDiff]
          rfl
        · exact ((((h3.I (by omega)).I (by omega)).I (by omega)).I (by omega)).I (by omega)
      · simp (disch := omega) only [zgi, zgl, zwi, zwf, zjn, zj0, zcl_s, zcv_s, zrd_n, zrl_n, zix_n, zwa_n, zwl_n, zI1, zI2, zL1, zL2, zR1, zR2, updE, updLE, zbl_0, zbl_1, nI_1, nI_add, nI_mulR, nI_leI, nI_ltI, nI_0le, nI_lt0, bvE, ↓reduceIte, Nat.reduceEqDiff, Nat.reduceLT, Nat.reduceAdd, Nat.reduceMul, reduceCtorEq, e3, e5, rT10, e7i, bv_0, hb, c1, c2, hnP, Int32.not_le.mp c2, and_false]
        exact ⟨_, _, rfl, rfl, rfl, h3⟩
    · simp (disch := omega) only [zgi, zgl, zwi, zwf, zjn, zj0, zcl_s, zcv_s, zrd_n, zrl_n, zix_n, zwa_n, zwl_n, zI1, zI2, zL1, zL2, zR1, zR2, updE, updLE, zbl_0, zbl_1, nI_1, nI_add, nI_mulR, nI_leI, nI_ltI, nI_0le, nI_lt0, bvE, ↓reduceIte, Nat.reduceEqDiff, Nat.reduceLT, Nat.reduceAdd, Nat.reduceMul, reduceCtorEq, e3, e5, rT10, e7i, bv_0, hb, c1, hnP, false_and, Bool.not_eq_true]
      exact ⟨_, _, rfl, rfl, rfl, h3⟩
  · rintro ⟨r, c⟩ s1 g ⟨h0, h1, h3⟩
    dsimp only at h0 h1
    subst h0
    obtain ⟨_, hQ, e3, e4, e5, e6, e7, e8, e9, e10⟩ := hc.f h3 (fun b hb hb2 => by omega)
    unfold f_Mill_breakOut_B5
    simp (disch := omega) only [zgi, zgl, zwi, zwf, zjn, zj0, zcl_s, zcv_s, zrd_n, zrl_n, zix_n, zwa_n, zwl_n, zI1, zI2, zL1, zL2, zR1, zR2, updE, updLE, zbl_0, zbl_1, nI_1, nI_add, nI_mulR, nI_leI, nI_ltI, nI_0le, nI_lt0, bvE, ↓reduceIte, Nat.reduceEqDiff, Nat.reduceLT, Nat.reduceAdd, Nat.reduceMul, reduceCtorEq, e3, Nat.le_refl]
    exact rt_s ⟨h1, h3⟩
theorem cl_breakOut207 {P Q : Nat} {C : Nat → Int32} {B : Nat → Bool} {who : Int32} {s : ZS} (hc : cC P Q C s) (hB : ∀ p, p < P → bt who p = B p) : rt (f_Mill_breakOut 207 who s) (fun w => (gS 207 w.2, w.1, w.2.1 205) = sBr P C B (gS 207 s) (s.1 205) ∧ frm (fun b => b = 205 ∨ 207 ≤ b ∧ b ≤ 211) s w.2) := by
  unfold f_Mill_breakOut sBr
  have hP := hc.1
  refine lp_rt P (fun i a s1 => a.2 = nI i ∧ (gS 207 s1, a.1, s1.1 205) = itr i (sBr1 C B) (gS 207 s, 0, s.1 205) ∧ frm (fun b => b = 205 ∨ 207 ≤ b ∧ b ≤ 211) s s1) (by omega) ⟨rfl, rfl, frm.rf⟩ ?_ ?_
  · rintro i ⟨r, c⟩ s1 g hi ⟨h0, h1, h3⟩
    left
    dsimp only at h0 h1
    subst h0
    obtain ⟨_, hQ, e3, e4, e5, e6, e7, e8, e9, e10⟩ := hc.f h3 (fun b hb hb2 => by omega)
    rw [itrS, ← h1]
    have hb := hB i hi
    have e7i := e7 i hi
    have hnP : ¬ P ≤ i := by omega
    unfold f_Mill_breakOut_B5 sBr1
    dsimp only
    by_cases c1 : B i = true
    · by_cases c2 : C (57 + i) ≤ (gS 207 s1).1 i
      · simp (disch := omega) only [zgi, zgl, zwi, zwf, zjn, zj0, zcl_s, zcv_s, zrd_n, zrl_n, zix_n, zwa_n, zwl_n, zI1, zI2, zL1, zL2, zR1, zR2, updE, updLE, zbl_0, zbl_1, nI_1, nI_add, nI_mulR, nI_leI, nI_ltI, nI_0le, nI_lt0, bvE, ↓reduceIte, Nat.reduceEqDiff, Nat.reduceLT, Nat.reduceAdd, Nat.reduceMul, reduceCtorEq, e3, e5, rT207, e7i, bv_0, hb, c1, c2, hnP, Int32.not_lt.mpr c2, minE, and_self]
        refine ⟨_, _, rfl, rfl, ?_, ?_⟩
        · simp (disch := omega) only [gS207_T, gS207_W, gS207_Z, gS207_N, gS207_o, zI1, ↓reduceIte, Nat.reduceEqDiff]
          rfl
        · exact ((((h3.I (by omega)).I (by omega)).I (by omega)).I (by omega)).I (by omega)
      · simp (disch := omega) only [zgi, zgl, zwi, zwf, zjn, zj0, zcl_s, zcv_s, zrd_n, zrl_n, zix_n, zwa_n, zwl_n, zI1, zI2, zL1, zL2, zR1, zR2, updE, updLE, zbl_0, zbl_1, nI_1, nI_add, nI_mulR, nI_leI, nI_ltI, nI_0le, nI_lt0, bvE, ↓reduceIte, Nat.reduceEqDiff, Nat.reduceLT, Nat.reduceAdd, Nat.reduceMul, reduceCtorEq, e3, e5, rT207, e7i, bv_0, hb, c1, c2, hnP, Int32.not_le.mp c2, and_false]
        exact ⟨_, _, rfl, rfl, rfl, h3⟩
    · simp (disch := omega) only [zgi, zgl, zwi, zwf, zjn, zj0, zcl_s, zcv_s, zrd_n, zrl_n, zix_n, zwa_n, zwl_n, zI1, zI2, zL1, zL2, zR1, zR2, updE, updLE, zbl_0, zbl_1, nI_1, nI_add, nI_mulR, nI_leI, nI_ltI, nI_0le, nI_lt0, bvE, ↓reduceIte, Nat.reduceEqDiff, Nat.reduceLT, Nat.reduceAdd, Nat.reduceMul, reduceCtorEq, e3, e5, rT207, e7i, bv_0, hb, c1, hnP, false_and, Bool.not_eq_true]
      exact ⟨_, _, rfl, rfl, rfl, h3⟩
  · rintro ⟨r, c⟩ s1 g ⟨h0, h1, h3⟩
    dsimp only at h0 h1
    subst h0
    obtain ⟨_, hQ, e3, e4, e5, e6, e7, e8, e9, e10⟩ := hc.f h3 (fun b hb hb2 => by omega)
    unfold f_Mill_breakOut_B5
    simp (disch := omega) only [zgi, zgl, zwi, zwf, zjn, zj0, zcl_s, zcv_s, zrd_n, zrl_n, zix_n, zwa_n, zwl_n, zI1, zI2, zL1, zL2, zR1, zR2, updE, updLE, zbl_0, zbl_1, nI_1, nI_add, nI_mulR, nI_leI, nI_ltI, nI_0le, nI_lt0, bvE, ↓reduceIte, Nat.reduceEqDiff, Nat.reduceLT, Nat.reduceAdd, Nat.reduceMul, reduceCtorEq, e3, Nat.le_refl]
    exact rt_s ⟨h1, h3⟩
