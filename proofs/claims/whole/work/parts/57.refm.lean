/-! The reference's mill. -/
theorem rW' {M : Nat → Int32} {p : Nat} (h : p < 5) : M (12 + 3 * p + 1) = (gM M).2.1 p := by rw [← rW h]; congr 1; omega
theorem rZ' {M : Nat → Int32} {p : Nat} (h : p < 5) : M (12 + 3 * p + 2) = (gM M).2.2.1 p := by rw [← rZ h]; congr 1; omega
theorem rS' {M : Nat → Int32} {p q : Nat} (h : 6 * p + q < 30) : M (27 + 6 * p + q) = (gM M).2.2.2.1 (6 * p + q) := by rw [← rS h]; congr 1; omega
theorem gM_W' {M : Nat → Int32} {p : Nat} {v : Int32} (h : p < 5) : gM (upd M (12 + 3 * p + 1) v) = ((gM M).1, upd (gM M).2.1 p v, (gM M).2.2) := by rw [← gM_W h]; congr 2; omega
theorem gM_Z' {M : Nat → Int32} {p : Nat} {v : Int32} (h : p < 5) : gM (upd M (12 + 3 * p + 2) v) = ((gM M).1, (gM M).2.1, upd (gM M).2.2.1 p v, (gM M).2.2.2) := by rw [← gM_Z h]; congr 2; omega
theorem gM_S' {M : Nat → Int32} {p q : Nat} {v : Int32} (h : 6 * p + q < 30) : gM (upd M (27 + 6 * p + q) v) = ((gM M).1, (gM M).2.1, (gM M).2.2.1, upd (gM M).2.2.2.1 (6 * p + q) v, (gM M).2.2.2.2) := by rw [← gM_S h]; congr 2; omega
theorem qT {s : ZS} {p : Nat} (h : p < 5) : s.1 226 (12 + 3 * p) = (gM (s.1 226)).1 p := rT h
theorem qW {s : ZS} {p : Nat} (h : p < 5) : s.1 226 (12 + 3 * p + 1) = (gM (s.1 226)).2.1 p := rW' h
theorem qZ {s : ZS} {p : Nat} (h : p < 5) : s.1 226 (12 + 3 * p + 2) = (gM (s.1 226)).2.2.1 p := rZ' h
theorem qS {s : ZS} {p q : Nat} (h : 6 * p + q < 30) : s.1 226 (27 + 6 * p + q) = (gM (s.1 226)).2.2.2.1 (6 * p + q) := rS' h
theorem qD {s : ZS} : s.1 226 10 = (gM (s.1 226)).2.2.2.2.1 := rfl
theorem qN {s : ZS} : s.1 226 11 = (gM (s.1 226)).2.2.2.2.2 := rfl
/-- what the reference's days leave as it was -/
def nM (s s' : ZS) : Prop := (∀ b, ¬ (b = 216 ∨ 226 ≤ b ∧ b ≤ 227) → s'.1 b = s.1 b) ∧ (∀ b, ¬ (224 ≤ b ∧ b ≤ 225) → s'.2 b = s.2 b) ∧ (∀ j, j ≠ 18 → s'.1 216 j = s.1 216 j) ∧ (∀ k, k < 10 ∨ 57 ≤ k → s'.1 226 k = s.1 226 k)
theorem nM.rf {s : ZS} : nM s s := ⟨fun _ _ => rfl, fun _ _ => rfl, fun _ _ => rfl, fun _ _ => rfl⟩
theorem nM.tr {s s1 s2 : ZS} (h : nM s s1) (h2 : nM s1 s2) : nM s s2 := ⟨fun b hb => (h2.1 b hb).trans (h.1 b hb), fun b hb => (h2.2.1 b hb).trans (h.2.1 b hb), fun b hb => (h2.2.2.1 b hb).trans (h.2.2.1 b hb), fun b hb => (h2.2.2.2 b hb).trans (h.2.2.2 b hb)⟩
theorem nM.I {s s1 : ZS} {j : Nat} {v : Int32} (h : nM s s1) (hj : 10 ≤ j ∧ j < 57) : nM s (zsI s1 226 j v) := h.tr ⟨fun b hb => by rw [zI1, if_neg (by omega)], fun _ _ => rfl, fun _ _ => rfl, fun k hk => by rw [zI1, if_pos rfl, updE, if_neg (by omega)]⟩
theorem nM.R {s s1 : ZS} {j : Nat} {v : Int32} (h : nM s s1) : nM s (zsI s1 227 j v) := h.tr ⟨fun b hb => by rw [zI1, if_neg (by omega)], fun _ _ => rfl, fun _ _ => rfl, fun k hk => rfl⟩
theorem nM.L {s s1 : ZS} {a j : Nat} {v : Int64} (h : nM s s1) (ha : a = 224 ∨ a = 225) : nM s (zsL s1 a j v) := h.tr ⟨fun _ _ => rfl, fun b hb => by rw [zL2, if_neg (by omega)], fun _ _ => rfl, fun _ _ => rfl⟩
theorem nM.t {s s1 : ZS} {v : Int32} (h : nM s s1) : nM s (zsI s1 216 18 v) := h.tr ⟨fun b hb => by rw [zI1, if_neg (by omega)], fun _ _ => rfl, fun j hj => by rw [zI1, if_pos rfl, updE, if_neg hj], fun k hk => rfl⟩
theorem cM.n {P Q : Nat} {C : Nat → Int32} {s s' : ZS} (h : cM P Q C s) (hk : nM s s') : cM P Q C s' := h.k hk.2.2.2
section MM
variable {P Q : Nat} {C : Nat → Int32} {s : ZS}
theorem mTemper {p : Nat} (hp : p < 5) : f_Model_temperOf (nI p) s = some ((gM (s.1 226)).1 p, s) := by
  unfold f_Model_temperOf; simp (disch := omega) only [zgi, zgl, zwi, zwf, zjn, zj0, zcl_s, zcv_s, zrd_n, zrl_n, zix_n, zwa_n, zwl_n, zI1, zI2, zL1, zL2, zR1, zR2, updE, updLE, zbl_0, zbl_1, nI_1, nI_add, nI_mulR, nI_leI, nI_ltI, nI_0le, nI_lt0, bvE, ↓reduceIte, Nat.reduceEqDiff, Nat.reduceLT, Nat.reduceAdd, Nat.reduceMul, reduceCtorEq, l2, l3, l6, l12, l27, l57, l67, l73, l103, qT]
theorem mBand {p : Nat} (hp : p < 5) : f_Model_bandOf (nI p) s = some ((gM (s.1 226)).2.1 p, s) := by
  unfold f_Model_bandOf; simp (disch := omega) only [zgi, zgl, zwi, zwf, zjn, zj0, zcl_s, zcv_s, zrd_n, zrl_n, zix_n, zwa_n, zwl_n, zI1, zI2, zL1, zL2, zR1, zR2, updE, updLE, zbl_0, zbl_1, nI_1, nI_add, nI_mulR, nI_leI, nI_ltI, nI_0le, nI_lt0, bvE, ↓reduceIte, Nat.reduceEqDiff, Nat.reduceLT, Nat.reduceAdd, Nat.reduceMul, reduceCtorEq, l2, l3, l6, l12, l27, l57, l67, l73, l103, qW]
theorem mBare {p : Nat} (hc : cM P Q C s) (hp : p < P) : f_Model_isBare (nI p) s = some (if (gM (s.1 226)).2.1 p = 0 then 1 else 0, s) := by
  have hP := hc.1
  have hn : ¬ P ≤ p := by omega
  unfold f_Model_isBare f_Model_isPair
  by_cases h : (gM (s.1 226)).2.1 p = 0
  · simp (disch := omega) only [zgi, zgl, zwi, zwf, zjn, zj0, zcl_s, zcv_s, zrd_n, zrl_n, zix_n, zwa_n, zwl_n, zI1, zI2, zL1, zL2, zR1, zR2, updE, updLE, zbl_0, zbl_1, nI_1, nI_add, nI_mulR, nI_leI, nI_ltI, nI_0le, nI_lt0, bvE, ↓reduceIte, Nat.reduceEqDiff, Nat.reduceLT, Nat.reduceAdd, Nat.reduceMul, reduceCtorEq, hc.2.2.1, hn, mBand, h, i10, not_true_eq_false]
  · simp (disch := omega) only [zgi, zgl, zwi, zwf, zjn, zj0, zcl_s, zcv_s, zrd_n, zrl_n, zix_n, zwa_n, zwl_n, zI1, zI2, zL1, zL2, zR1, zR2, updE, updLE, zbl_0, zbl_1, nI_1, nI_add, nI_mulR, nI_leI, nI_ltI, nI_0le, nI_lt0, bvE, ↓reduceIte, Nat.reduceEqDiff, Nat.reduceLT, Nat.reduceAdd, Nat.reduceMul, reduceCtorEq, hc.2.2.1, hn, mBand, h, i10, not_false_eq_true]
theorem mHurts {p q : Nat} (hp : p < 5) (hq : q < 6) (hc : cM P Q C s) : f_Model_hurts (nI p) (nI q) s = some (C (67 + q) + C (73 + 6 * p + q), s) := by
  have h5 := hc.2.2.2.2
  unfold f_Model_hurts; simp (disch := omega) only [zgi, zgl, zwi, zwf, zjn, zj0, zcl_s, zcv_s, zrd_n, zrl_n, zix_n, zwa_n, zwl_n, zI1, zI2, zL1, zL2, zR1, zR2, updE, updLE, zbl_0, zbl_1, nI_1, nI_add, nI_mulR, nI_leI, nI_ltI, nI_0le, nI_lt0, bvE, ↓reduceIte, Nat.reduceEqDiff, Nat.reduceLT, Nat.reduceAdd, Nat.reduceMul, reduceCtorEq, l2, l3, l6, l12, l27, l57, l67, l73, l103, h5]
theorem mRises {p : Nat} {m : Int32} (hp : p < 5) : f_Model_rises (nI p) m s = some (zsI s 226 (12 + 3 * p) (sAng ((gM (s.1 226)).1 p) m)) := by
  unfold f_Model_rises f_Model_held sAng
  simp (disch := omega) only [mTemper, zgi, zgl, zwi, zwf, zjn, zj0, zcl_s, zcv_s, zrd_n, zrl_n, zix_n, zwa_n, zwl_n, zI1, zI2, zL1, zL2, zR1, zR2, updE, updLE, zbl_0, zbl_1, nI_1, nI_add, nI_mulR, nI_leI, nI_ltI, nI_0le, nI_lt0, bvE, ↓reduceIte, Nat.reduceEqDiff, Nat.reduceLT, Nat.reduceAdd, Nat.reduceMul, reduceCtorEq, l2, l3, l6, l12, l27, l57, l67, l73, l103]
  split <;> simp (disch := omega) only [zgi, zgl, zwi, zwf, zjn, zj0, zcl_s, zcv_s, zrd_n, zrl_n, zix_n, zwa_n, zwl_n, zI1, zI2, zL1, zL2, zR1, zR2, updE, updLE, zbl_0, zbl_1, nI_1, nI_add, nI_mulR, nI_leI, nI_ltI, nI_0le, nI_lt0, bvE, ↓reduceIte, Nat.reduceEqDiff, Nat.reduceLT, Nat.reduceAdd, Nat.reduceMul, reduceCtorEq, l2, l3, l6, l12, l27, l57, l67, l73, l103]
theorem mIsOf {x : Int32} {k : Nat} : f_Model_isOf x (nI k) s = some (if bt x k = true then 1 else 0, s) := by
  unfold f_Model_isOf
  by_cases h : bt x k = true
  · simp only [zgi, zgl, zwi, zwf, zjn, zj0, zcl_s, zcv_s, zrd_n, zrl_n, zix_n, zwa_n, zwl_n, zI1, zI2, zL1, zL2, zR1, zR2, updE, updLE, zbl_0, zbl_1, nI_1, nI_add, nI_mulR, nI_leI, nI_ltI, nI_0le, nI_lt0, bvE, ↓reduceIte, Nat.reduceEqDiff, Nat.reduceLT, Nat.reduceAdd, Nat.reduceMul, reduceCtorEq, bv_1, h, not_true_eq_false]
  · simp only [zgi, zgl, zwi, zwf, zjn, zj0, zcl_s, zcv_s, zrd_n, zrl_n, zix_n, zwa_n, zwl_n, zI1, zI2, zL1, zL2, zR1, zR2, updE, updLE, zbl_0, zbl_1, nI_1, nI_add, nI_mulR, nI_leI, nI_ltI, nI_0le, nI_lt0, bvE, ↓reduceIte, Nat.reduceEqDiff, Nat.reduceLT, Nat.reduceAdd, Nat.reduceMul, reduceCtorEq, bv_1, h, not_false_eq_true]
theorem m_rowsOf {B : Nat → Bool} {who : Int32} (hc : cM P Q C s) (hB : ∀ p, p < P → bt who p = B p) : rt (f_Model_rowsOf who s) (fun w => (gM (w.2.1 226), w.1, w.2.1 227) = sBr P C B (gM (s.1 226)) (s.1 227) ∧ nM s w.2) := by
  unfold f_Model_rowsOf sBr
  have hP := hc.1
  refine lp_rt P (fun i a s1 => a.2 = nI i ∧ (gM (s1.1 226), a.1, s1.1 227) = itr i (sBr1 C B) (gM (s.1 226), 0, s.1 227) ∧ nM s s1) (by omega) ⟨rfl, rfl, nM.rf⟩ ?_ ?_
  · rintro i ⟨r, c⟩ s1 g hi ⟨h0, h1, h3⟩
    left
    dsimp only at h0 h1
    subst h0
    have c1' := hc.n h3
    obtain ⟨_, hQ, e3, e4, h5⟩ := id c1'
    rw [itrS, ← h1]
    have hb := hB i hi
    have hnP : ¬ P ≤ i := by omega
    unfold f_Model_rowsOf_B4 sBr1
    dsimp only
    have n1 : ¬ 1 = 12 + 3 * i := by omega
    have n2 : ¬ 11 = 12 + 3 * i := by omega
    have n3 : ¬ 11 = 12 + 3 * i + 1 := by omega
    have n4 : ¬ 11 = 12 + 3 * i + 2 := by omega
    by_cases c1 : B i = true
    · by_cases c2 : C (57 + i) ≤ (gM (s1.1 226)).1 i
      · by_cases c3' : C 1 ≤ (gM (s1.1 226)).1 i
        · simp (disch := omega) only [zgi, zgl, zwi, zwf, zjn, zj0, zcl_s, zcv_s, zrd_n, zrl_n, zix_n, zwa_n, zwl_n, zI1, zI2, zL1, zL2, zR1, zR2, updE, updLE, zbl_0, zbl_1, nI_1, nI_add, nI_mulR, nI_leI, nI_ltI, nI_0le, nI_lt0, bvE, ↓reduceIte, Nat.reduceEqDiff, Nat.reduceLT, Nat.reduceAdd, Nat.reduceMul, reduceCtorEq, l2, l3, l6, l12, l27, l57, l67, l73, l103, e3, h5, mIsOf, mTemper, hb, c1, c2, c3', hnP, i10, and_self, n1, n2, n3, n4, qN]
          refine ⟨_, _, rfl, rfl, ?_, ?_⟩
          · simp (disch := omega) only [gM_T, gM_W', gM_Z', gM_N, zI1, ↓reduceIte, Nat.reduceEqDiff]
          · exact ((((h3.R).I (by omega)).I (by omega)).I (by omega)).I (by omega)
        · simp (disch := omega) only [zgi, zgl, zwi, zwf, zjn, zj0, zcl_s, zcv_s, zrd_n, zrl_n, zix_n, zwa_n, zwl_n, zI1, zI2, zL1, zL2, zR1, zR2, updE, updLE, zbl_0, zbl_1, nI_1, nI_add, nI_mulR, nI_leI, nI_ltI, nI_0le, nI_lt0, bvE, ↓reduceIte, Nat.reduceEqDiff, Nat.reduceLT, Nat.reduceAdd, Nat.reduceMul, reduceCtorEq, l2, l3, l6, l12, l27, l57, l67, l73, l103, e3, h5, mIsOf, mTemper, hb, c1, c2, c3', hnP, i10, and_self, n1, n2, n3, n4, qN]
          refine ⟨_, _, rfl, rfl, ?_, ?_⟩
          · simp (disch := omega) only [gM_T, gM_W', gM_Z', gM_N, zI1, ↓reduceIte, Nat.reduceEqDiff]
          · exact ((((h3.R).I (by omega)).I (by omega)).I (by omega)).I (by omega)
      · simp (disch := omega) only [zgi, zgl, zwi, zwf, zjn, zj0, zcl_s, zcv_s, zrd_n, zrl_n, zix_n, zwa_n, zwl_n, zI1, zI2, zL1, zL2, zR1, zR2, updE, updLE, zbl_0, zbl_1, nI_1, nI_add, nI_mulR, nI_leI, nI_ltI, nI_0le, nI_lt0, bvE, ↓reduceIte, Nat.reduceEqDiff, Nat.reduceLT, Nat.reduceAdd, Nat.reduceMul, reduceCtorEq, l2, l3, l6, l12, l27, l57, l67, l73, l103, e3, h5, mIsOf, mTemper, hb, c1, c2, hnP, i10, and_false]
        exact ⟨_, _, rfl, rfl, rfl, h3⟩
    · simp (disch := omega) only [zgi, zgl, zwi, zwf, zjn, zj0, zcl_s, zcv_s, zrd_n, zrl_n, zix_n, zwa_n, zwl_n, zI1, zI2, zL1, zL2, zR1, zR2, updE, updLE, zbl_0, zbl_1, nI_1, nI_add, nI_mulR, nI_leI, nI_ltI, nI_0le, nI_lt0, bvE, ↓reduceIte, Nat.reduceEqDiff, Nat.reduceLT, Nat.reduceAdd, Nat.reduceMul, reduceCtorEq, l2, l3, l6, l12, l27, l57, l67, l73, l103, e3, mIsOf, hb, c1, hnP, false_and]
      exact ⟨_, _, rfl, rfl, rfl, h3⟩
  · rintro ⟨r, c⟩ s1 g ⟨h0, h1, h3⟩
    dsimp only at h0 h1
    subst h0
    unfold f_Model_rowsOf_B4
    simp (disch := omega) only [zgi, zgl, zwi, zwf, zjn, zj0, zcl_s, zcv_s, zrd_n, zrl_n, zix_n, zwa_n, zwl_n, zI1, zI2, zL1, zL2, zR1, zR2, updE, updLE, zbl_0, zbl_1, nI_1, nI_add, nI_mulR, nI_leI, nI_ltI, nI_0le, nI_lt0, bvE, ↓reduceIte, Nat.reduceEqDiff, Nat.reduceLT, Nat.reduceAdd, Nat.reduceMul, reduceCtorEq, (hc.n h3).2.2.1, Nat.le_refl]
    exact rt_s ⟨h1, h3⟩
theorem m_says {hm : Int32} {p q : Nat} (hc : cM P Q C s) (hh : s.1 216 24 = hm) (hp : p < P) (hq : q < Q) :
    rt (f_Model_says (nI p) (nI q) s) (fun w => (gM (w.2.1 226), w.1, w.2.1 227) = sSay P C hm (gM (s.1 226)) (s.1 227) p q ∧ nM s w.2) := by
  have hP := hc.1
  have hQ := hc.2.1
  obtain ⟨_, _, e3, e4, h5⟩ := id hc
  unfold f_Model_says
  simp (disch := omega) only [mHurts (s := s) (show p < 5 by omega) (show q < 6 by omega) hc, zgi, zgl, zwi, zwf, zjn, zj0, zcl_s, zcv_s, zrd_n, zrl_n, zix_n, zwa_n, zwl_n, zI1, zI2, zL1, zL2, zR1, zR2, updE, updLE, zbl_0, zbl_1, nI_1, nI_add, nI_mulR, nI_leI, nI_ltI, nI_0le, nI_lt0, bvE, ↓reduceIte, Nat.reduceEqDiff, Nat.reduceLT, Nat.reduceAdd, Nat.reduceMul, reduceCtorEq, l2, l3, l6, l12, l27, l57, l67, l73, l103, mRises]
  generalize hs1 : zsI (zsI s 226 (12 + 3 * p) (sAng ((gM (s.1 226)).1 p) (C (67 + q) + C (73 + 6 * p + q)))) 226 (27 + 6 * p + q) _ = s1
  have g1 : gM (s1.1 226) = sSay0 C (gM (s.1 226)) p q := by
    rw [← hs1]
    have hne : ¬ 27 + 6 * p + q = 12 + 3 * p := by omega
    simp (disch := omega) only [zI1, ↓reduceIte, gM_S', gM_T, updE, hne, qS]
    rfl
  have f1 : nM s s1 := by rw [← hs1]; exact (nM.rf.I (by omega)).I (by omega)
  have c1 := hc.n f1
  have r1 : s1.1 227 = s.1 227 := by rw [← hs1]; rfl
  have hh1 : s1.1 216 24 = hm := by rw [← hs1]; exact hh
  refine lp_rt P (fun i a s2 => a.2 = nI i ∧ (∀ o, o < P → bt a.1 o = (decide (o < i) && sH C hm p (gM (s.1 226)).2.1 o || decide (p = o))) ∧ gM (s2.1 226) = itr i (sHear (C (67 + q) / 2) (sH C hm p (gM (s.1 226)).2.1)) (sSay0 C (gM (s.1 226)) p q) ∧ nM s1 s2 ∧ s2.1 227 = s1.1 227) (by omega) ⟨rfl, ?_, g1, nM.rf, rfl⟩ ?_ ?_
  · intro o ho
    dsimp only
    rw [bt_one (by omega) (by omega)]
    simp
  · rintro i ⟨r, c⟩ s2 g hi ⟨h0, hb, h1, h3, h4⟩
    left
    dsimp only at h0 hb h1
    subst h0
    have c2 := c1.n h3
    obtain ⟨_, _, e3, e4, h5⟩ := id c2
    have hh2 : s2.1 216 24 = hm := by rw [h3.2.2.1 24 (by omega)]; exact hh1
    have hW : (gM (s2.1 226)).2.1 = (gM (s.1 226)).2.1 := by rw [h1, itr_sHear2]; rfl
    have hnP : ¬ P ≤ i := by omega
    rw [itrS, ← h1]
    unfold f_Model_says_B36 sHear
    have hno : ∀ x : Bool, sH C hm p (gM (s.1 226)).2.1 i = x → ∀ o, o < P → ¬ o = i → (decide (o < i + 1) && sH C hm p (gM (s.1 226)).2.1 o || decide (p = o)) = (decide (o < i) && sH C hm p (gM (s.1 226)).2.1 o || decide (p = o)) := by
      intro x _ o _ hne
      have : decide (o < i + 1) = decide (o < i) := by congr 1; apply propext; omega
      rw [this]
    have hnot : sH C hm p (gM (s.1 226)).2.1 i = false → ∀ o, o < P → bt r o = (decide (o < i + 1) && sH C hm p (gM (s.1 226)).2.1 o || decide (p = o)) := by
      intro hx o ho
      rw [hb o ho]
      by_cases e : o = i
      · subst e; rw [hx]; simp
      · exact (hno false hx o ho e).symm
    by_cases k1 : bt (C (103 + p)) i = true
    · by_cases k2 : (gM (s.1 226)).2.1 i = 0
      · by_cases k3 : nI i = hm
        · have hx : sH C hm p (gM (s.1 226)).2.1 i = false := by unfold sH; simp [k3]
          simp (disch := omega) only [zgi, zgl, zwi, zwf, zjn, zj0, zcl_s, zcv_s, zrd_n, zrl_n, zix_n, zwa_n, zwl_n, zI1, zI2, zL1, zL2, zR1, zR2, updE, updLE, zbl_0, zbl_1, nI_1, nI_add, nI_mulR, nI_leI, nI_ltI, nI_0le, nI_lt0, bvE, ↓reduceIte, Nat.reduceEqDiff, Nat.reduceLT, Nat.reduceAdd, Nat.reduceMul, reduceCtorEq, l2, l3, l6, l12, l27, l57, l67, l73, l103, e3, hnP, h5, mIsOf, k1, i10, mBare c2 hi, hW, k2, hh2, hx, Bool.false_eq_true]
          rw [if_neg (fun e => e k3)]
          exact ⟨_, _, rfl, rfl, hnot hx, rfl, h3, h4⟩
        · have hx : sH C hm p (gM (s.1 226)).2.1 i = true := by unfold sH; simp [k1, k2, k3]
          simp (disch := omega) only [zgi, zgl, zwi, zwf, zjn, zj0, zcl_s, zcv_s, zrd_n, zrl_n, zix_n, zwa_n, zwl_n, zI1, zI2, zL1, zL2, zR1, zR2, updE, updLE, zbl_0, zbl_1, nI_1, nI_add, nI_mulR, nI_leI, nI_ltI, nI_0le, nI_lt0, bvE, ↓reduceIte, Nat.reduceEqDiff, Nat.reduceLT, Nat.reduceAdd, Nat.reduceMul, reduceCtorEq, l2, l3, l6, l12, l27, l57, l67, l73, l103, e3, hnP, h5, mIsOf, k1, i10, mBare c2 hi, hW, k2, hh2, k3, hx, not_false_eq_true, mRises]
          refine ⟨_, _, rfl, rfl, ?_, ?_, h3.I (by omega), h4⟩
          · intro o ho
            dsimp only
            rw [bt_or, hb o ho, bt_one (by omega) (by omega)]
            by_cases e : o = i
            · subst e; rw [hx]; simp
            · rw [hno true hx o ho e]
              have : decide (i = o) = false := decide_eq_false (fun q => e q.symm)
              rw [this, Bool.or_false]
          · simp (disch := omega) only [zI1, ↓reduceIte, gM_T]
      · have hx : sH C hm p (gM (s.1 226)).2.1 i = false := by unfold sH; simp [k2]
        simp (disch := omega) only [zgi, zgl, zwi, zwf, zjn, zj0, zcl_s, zcv_s, zrd_n, zrl_n, zix_n, zwa_n, zwl_n, zI1, zI2, zL1, zL2, zR1, zR2, updE, updLE, zbl_0, zbl_1, nI_1, nI_add, nI_mulR, nI_leI, nI_ltI, nI_0le, nI_lt0, bvE, ↓reduceIte, Nat.reduceEqDiff, Nat.reduceLT, Nat.reduceAdd, Nat.reduceMul, reduceCtorEq, l2, l3, l6, l12, l27, l57, l67, l73, l103, e3, hnP, h5, mIsOf, k1, i10, mBare c2 hi, hW, k2, hx, Bool.false_eq_true]
        exact ⟨_, _, rfl, rfl, hnot hx, rfl, h3, h4⟩
    · have hx : sH C hm p (gM (s.1 226)).2.1 i = false := by unfold sH; simp [k1]
      simp (disch := omega) only [zgi, zgl, zwi, zwf, zjn, zj0, zcl_s, zcv_s, zrd_n, zrl_n, zix_n, zwa_n, zwl_n, zI1, zI2, zL1, zL2, zR1, zR2, updE, updLE, zbl_0, zbl_1, nI_1, nI_add, nI_mulR, nI_leI, nI_ltI, nI_0le, nI_lt0, bvE, ↓reduceIte, Nat.reduceEqDiff, Nat.reduceLT, Nat.reduceAdd, Nat.reduceMul, reduceCtorEq, l2, l3, l6, l12, l27, l57, l67, l73, l103, e3, hnP, h5, mIsOf, k1, hx, Bool.false_eq_true]
      exact ⟨_, _, rfl, rfl, hnot hx, rfl, h3, h4⟩
  · rintro ⟨r, c⟩ s2 g ⟨h0, hb, h1, h3, h4⟩
    dsimp only at h0 hb h1
    subst h0
    unfold f_Model_says_B36
    simp (disch := omega) only [zgi, zgl, zwi, zwf, zjn, zj0, zcl_s, zcv_s, zrd_n, zrl_n, zix_n, zwa_n, zwl_n, zI1, zI2, zL1, zL2, zR1, zR2, updE, updLE, zbl_0, zbl_1, nI_1, nI_add, nI_mulR, nI_leI, nI_ltI, nI_0le, nI_lt0, bvE, ↓reduceIte, Nat.reduceEqDiff, Nat.reduceLT, Nat.reduceAdd, Nat.reduceMul, reduceCtorEq, (c1.n h3).2.2.1, Nat.le_refl]
    refine rt_cl (m_rowsOf (B := fun o => sH C hm p (gM (s.1 226)).2.1 o || decide (p = o)) (c1.n h3) (fun o ho => by rw [hb o ho, decide_eq_true ho, Bool.true_and])) ?_
    rintro v s3 ⟨g3, f3⟩
    refine rt_s ⟨?_, f1.tr (h3.tr f3)⟩
    dsimp only at g3 ⊢
    rw [g3]
    unfold sSay
    rw [h1, h4, r1]
theorem m_banded (hc : cM P Q C s) : f_Model_banded s = some (sBnd (gM (s.1 226)).2.1 P, s) := by
  unfold f_Model_banded sBnd
  have hP := hc.1
  have : rt (zlp zN f_Model_banded_B4 ((0 : Int32), (0 : Int32)) s) (fun w => w = (itr P (fun p r => if (gM (s.1 226)).2.1 p = 0 then r else r ||| ((1 : Int32) <<< (nI p &&& 31))) 0, s)) := by
    refine lp_rt P (fun i a s1 => s1 = s ∧ a.2 = nI i ∧ a.1 = itr i (fun p r => if (gM (s.1 226)).2.1 p = 0 then r else r ||| ((1 : Int32) <<< (nI p &&& 31))) 0) (by omega) ⟨rfl, rfl, rfl⟩ ?_ ?_
    · rintro i ⟨r, c⟩ s1 g hi ⟨rfl, h0, h1⟩
      left
      dsimp only at h0 h1
      subst h0
      rw [itrS, ← h1]
      have hn : ¬ P ≤ i := by omega
      unfold f_Model_banded_B4
      by_cases c1 : (gM (s1.1 226)).2.1 i = 0
      · simp (disch := omega) only [zgi, zgl, zwi, zwf, zjn, zj0, zcl_s, zcv_s, zrd_n, zrl_n, zix_n, zwa_n, zwl_n, zI1, zI2, zL1, zL2, zR1, zR2, updE, updLE, zbl_0, zbl_1, nI_1, nI_add, nI_mulR, nI_leI, nI_ltI, nI_0le, nI_lt0, bvE, ↓reduceIte, Nat.reduceEqDiff, Nat.reduceLT, Nat.reduceAdd, Nat.reduceMul, reduceCtorEq, hc.2.2.1, hn, mBare hc hi, c1, i10, Int32.or_zero]
        exact ⟨_, _, rfl, rfl, rfl, rfl⟩
      · simp (disch := omega) only [zgi, zgl, zwi, zwf, zjn, zj0, zcl_s, zcv_s, zrd_n, zrl_n, zix_n, zwa_n, zwl_n, zI1, zI2, zL1, zL2, zR1, zR2, updE, updLE, zbl_0, zbl_1, nI_1, nI_add, nI_mulR, nI_leI, nI_ltI, nI_0le, nI_lt0, bvE, ↓reduceIte, Nat.reduceEqDiff, Nat.reduceLT, Nat.reduceAdd, Nat.reduceMul, reduceCtorEq, hc.2.2.1, hn, mBare hc hi, c1]
        exact ⟨_, _, rfl, rfl, rfl, rfl⟩
    · rintro ⟨r, c⟩ s1 g ⟨rfl, h0, h1⟩
      dsimp only at h0 h1
      subst h0
      unfold f_Model_banded_B4
      simp (disch := omega) only [zgi, zgl, zwi, zwf, zjn, zj0, zcl_s, zcv_s, zrd_n, zrl_n, zix_n, zwa_n, zwl_n, zI1, zI2, zL1, zL2, zR1, zR2, updE, updLE, zbl_0, zbl_1, nI_1, nI_add, nI_mulR, nI_leI, nI_ltI, nI_0le, nI_lt0, bvE, ↓reduceIte, Nat.reduceEqDiff, Nat.reduceLT, Nat.reduceAdd, Nat.reduceMul, reduceCtorEq, hc.2.2.1, Nat.le_refl]
      exact rt_s (by rw [h1])
  obtain ⟨w, h1, h2⟩ := this
  rw [h1, h2]
theorem m_opens (hc : cM P Q C s) :
    rt (f_Model_opens_216 s) (fun w => (gM (w.2.1 226), w.1, w.2.1 227) = sDoor P C (gM (s.1 226)) (s.1 227) ∧ nM s w.2) := by
  have hP := hc.1
  obtain ⟨_, _, e3, e4, h5⟩ := id hc
  have hbit : ∀ o, o < P → bt ((((1 : Int32) <<< (nI P &&& 31)) - 1) &&& (sBnd (gM (s.1 226)).2.1 P ^^^ (-1))) o = decide ((gM (s.1 226)).2.1 o = 0) := by
    intro o ho
    rw [bt_and, bt_all hP (by omega), bt_not _ (by omega), sBnd_bt _ _ _ (by omega) (by omega)]
    have h2 : decide (o < P) = true := decide_eq_true ho
    rw [h2]; simp
  unfold f_Model_opens_216
  simp (disch := omega) only [zgi, zgl, zwi, zwf, zjn, zj0, zcl_s, zcv_s, zrd_n, zrl_n, zix_n, zwa_n, zwl_n, zI1, zI2, zL1, zL2, zR1, zR2, updE, updLE, zbl_0, zbl_1, nI_1, nI_add, nI_mulR, nI_leI, nI_ltI, nI_0le, nI_lt0, bvE, ↓reduceIte, Nat.reduceEqDiff, Nat.reduceLT, Nat.reduceAdd, Nat.reduceMul, reduceCtorEq, e3, m_banded hc]
  refine lp_rt P (fun i a s1 => a = nI i ∧ gM (s1.1 226) = itr i (sHear 3 (fun o => decide ((gM (s.1 226)).2.1 o = 0))) (gM (s.1 226)) ∧ nM s s1 ∧ s1.1 227 = s.1 227) (by omega) ⟨rfl, rfl, nM.rf, rfl⟩ ?_ ?_
  · rintro i c s1 g hi ⟨rfl, h1, h3, h4⟩
    left
    have c1' := hc.n h3
    rw [itrS, ← h1]
    have hb := hbit i hi
    have hnP : ¬ P ≤ i := by omega
    unfold f_Model_opens_216_B20 sHear
    by_cases c1 : (gM (s.1 226)).2.1 i = 0
    · simp (disch := omega) only [zgi, zgl, zwi, zwf, zjn, zj0, zcl_s, zcv_s, zrd_n, zrl_n, zix_n, zwa_n, zwl_n, zI1, zI2, zL1, zL2, zR1, zR2, updE, updLE, zbl_0, zbl_1, nI_1, nI_add, nI_mulR, nI_leI, nI_ltI, nI_0le, nI_lt0, bvE, ↓reduceIte, Nat.reduceEqDiff, Nat.reduceLT, Nat.reduceAdd, Nat.reduceMul, reduceCtorEq, c1'.2.2.1, mIsOf, hb, c1, hnP, i10, mRises, decide_true]
      refine ⟨_, _, rfl, rfl, ?_, h3.I (by omega), h4⟩
      simp (disch := omega) only [zI1, ↓reduceIte, gM_T]
    · simp (disch := omega) only [zgi, zgl, zwi, zwf, zjn, zj0, zcl_s, zcv_s, zrd_n, zrl_n, zix_n, zwa_n, zwl_n, zI1, zI2, zL1, zL2, zR1, zR2, updE, updLE, zbl_0, zbl_1, nI_1, nI_add, nI_mulR, nI_leI, nI_ltI, nI_0le, nI_lt0, bvE, ↓reduceIte, Nat.reduceEqDiff, Nat.reduceLT, Nat.reduceAdd, Nat.reduceMul, reduceCtorEq, c1'.2.2.1, mIsOf, hb, c1, hnP, decide_false, Bool.false_eq_true]
      exact ⟨_, _, rfl, rfl, rfl, h3, h4⟩
  · rintro c s1 g ⟨rfl, h1, h3, h4⟩
    unfold f_Model_opens_216_B20
    simp (disch := omega) only [zgi, zgl, zwi, zwf, zjn, zj0, zcl_s, zcv_s, zrd_n, zrl_n, zix_n, zwa_n, zwl_n, zI1, zI2, zL1, zL2, zR1, zR2, updE, updLE, zbl_0, zbl_1, nI_1, nI_add, nI_mulR, nI_leI, nI_ltI, nI_0le, nI_lt0, bvE, ↓reduceIte, Nat.reduceEqDiff, Nat.reduceLT, Nat.reduceAdd, Nat.reduceMul, reduceCtorEq, (hc.n h3).2.2.1, Nat.le_refl]
    refine rt_cl (m_rowsOf (B := fun o => decide ((gM (s.1 226)).2.1 o = 0)) (hc.n h3) hbit) ?_
    rintro v s3 ⟨g3, f3⟩
    refine rt_s ⟨?_, h3.tr f3⟩
    dsimp only at g3 ⊢
    rw [g3]
    unfold sDoor
    rw [h1, h4]
end MM
