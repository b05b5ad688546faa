theorem cl_door10 {P Q : Nat} {C : Nat → Int32} {s : ZS} (hc : cC P Q C s) (hz : zW P (gS 10 s).2.1) :
    rt (f_Mill_openDoor 10 s) (fun w => (gS 10 w.2, w.1, w.2.1 205) = sDoor P C (gS 10 s) (s.1 205) ∧ frm (fun b => b = 205 ∨ 10 ≤ b ∧ b ≤ 14) s w.2) := by
  have hP := hc.1
  obtain ⟨_, _, e3, e4, e5, e6, e7, e8, e9, e10⟩ := id hc
  have hbit : ∀ o, o < P → bt ((((1 : Int32) <<< (nI P &&& 31)) - 1) &&& (sBnd (gS 10 s).2.1 5 ^^^ (-1))) o = decide ((gS 10 s).2.1 o = 0) := by
    intro o ho
    rw [bt_and, bt_all hP (by omega), bt_not _ (by omega), sBnd_bt _ _ _ (by omega) (by omega)]
    have h1 : decide (o < 5) = true := decide_eq_true (by omega)
    have h2 : decide (o < P) = true := decide_eq_true ho
    rw [h1, h2]; simp
  unfold f_Mill_openDoor f_Smithy_everyPair
  simp (disch := omega) only [zgi, zgl, zwi, zwf, zjn, zj0, zcl_s, zcv_s, zrd_n, zrl_n, zix_n, zwa_n, zwl_n, zI1, zI2, zL1, zL2, zR1, zR2, updE, updLE, zbl_0, zbl_1, nI_1, nI_add, nI_mulR, nI_leI, nI_ltI, nI_0le, nI_lt0, bvE, ↓reduceIte, Nat.reduceEqDiff, Nat.reduceLT, Nat.reduceAdd, Nat.reduceMul, reduceCtorEq, e3, cl_banded10 hz]
  refine lp_rt P (fun i a s1 => a = nI i ∧ gS 10 s1 = itr i (sHear 3 (fun o => decide ((gS 10 s).2.1 o = 0))) (gS 10 s) ∧ frm (fun b => b = 11) s s1) (by omega) ⟨rfl, rfl, frm.rf⟩ ?_ ?_
  · rintro i c s1 g hi ⟨rfl, h1, h3⟩
    left
    obtain ⟨_, _, e3, e4, e5, e6, e7, e8, e9, e10⟩ := hc.f h3 (fun b hb hb2 => by omega)
    rw [itrS, ← h1]
    have hb := hbit i hi
    have hnP : ¬ P ≤ i := by omega
    unfold f_Mill_openDoor_B17 sHear
    by_cases c1 : (gS 10 s).2.1 i = 0
    · simp (disch := omega) only [zgi, zgl, zwi, zwf, zjn, zj0, zcl_s, zcv_s, zrd_n, zrl_n, zix_n, zwa_n, zwl_n, zI1, zI2, zL1, zL2, zR1, zR2, updE, updLE, zbl_0, zbl_1, nI_1, nI_add, nI_mulR, nI_leI, nI_ltI, nI_0le, nI_lt0, bvE, ↓reduceIte, Nat.reduceEqDiff, Nat.reduceLT, Nat.reduceAdd, Nat.reduceMul, reduceCtorEq, e3, bv_0, hb, c1, hnP, cl_anger10, decide_true]
      refine ⟨_, _, rfl, rfl, ?_, h3.I rfl⟩
      simp (disch := omega) only [gS10_T]
    · simp (disch := omega) only [zgi, zgl, zwi, zwf, zjn, zj0, zcl_s, zcv_s, zrd_n, zrl_n, zix_n, zwa_n, zwl_n, zI1, zI2, zL1, zL2, zR1, zR2, updE, updLE, zbl_0, zbl_1, nI_1, nI_add, nI_mulR, nI_leI, nI_ltI, nI_0le, nI_lt0, bvE, ↓reduceIte, Nat.reduceEqDiff, Nat.reduceLT, Nat.reduceAdd, Nat.reduceMul, reduceCtorEq, e3, bv_0, hb, c1, hnP, decide_false, Bool.false_eq_true]
      exact ⟨_, _, rfl, rfl, rfl, h3⟩
  · rintro c s1 g ⟨rfl, h1, h3⟩
    obtain ⟨_, _, e3, e4, e5, e6, e7, e8, e9, e10⟩ := hc.f h3 (fun b hb hb2 => by omega)
    unfold f_Mill_openDoor_B17
    simp (disch := omega) only [zgi, zgl, zwi, zwf, zjn, zj0, zcl_s, zcv_s, zrd_n, zrl_n, zix_n, zwa_n, zwl_n, zI1, zI2, zL1, zL2, zR1, zR2, updE, updLE, zbl_0, zbl_1, nI_1, nI_add, nI_mulR, nI_leI, nI_ltI, nI_0le, nI_lt0, bvE, ↓reduceIte, Nat.reduceEqDiff, Nat.reduceLT, Nat.reduceAdd, Nat.reduceMul, reduceCtorEq, e3, Nat.le_refl]
    refine rt_cl (cl_breakOut10 (B := fun o => decide ((gS 10 s).2.1 o = 0)) (hc.f h3 (fun b hb hb2 => by omega)) hbit) ?_
    rintro v s3 ⟨g3, f3⟩
    refine rt_s ⟨?_, (h3.sub (fun b hb => by omega)).tr f3⟩
    dsimp only at g3 ⊢
    rw [g3]
    unfold sDoor
    rw [h1, h3.1 205 (by omega)]
theorem cl_tellPair10 {P Q : Nat} {C : Nat → Int32} {p : Nat} {s : ZS} (hc : cC P Q C s) (hz : zW P (gS 10 s).2.1) (hp : p < P) :
    rt (f_Mill_tellPair 10 (nI p) s) (fun w => frm (fun b => b = 203) s w ∧ ∀ q k, k = 0 ∨ k = 2 ∨ k = 3 ∨ k = 7 ∨ k = 8 ∨ k = 9 ∨ k = 10 → w.2 203 k = sWords C (gS 10 s) p q k) := by
  have hP := hc.1
  obtain ⟨_, _, e3, e4, e5, e6, e7, e8, e9, e10⟩ := id hc
  unfold f_Mill_tellPair
  simp (disch := omega) only [zgi, zgl, zwi, zwf, zjn, zj0, zcl_s, zcv_s, zrd_n, zrl_n, zix_n, zwa_n, zwl_n, zI1, zI2, zL1, zL2, zR1, zR2, updE, updLE, zbl_0, zbl_1, nI_1, nI_add, nI_mulR, nI_leI, nI_ltI, nI_0le, nI_lt0, bvE, ↓reduceIte, Nat.reduceEqDiff, Nat.reduceLT, Nat.reduceAdd, Nat.reduceMul, reduceCtorEq, cl_banded10 hz, gS10_l, rT10, rN10, rD10, e7 p hp, e8 p (by omega), pcE]
  refine rt_s ⟨((((((frm.rf.L (by omega)).L (by omega)).L (by omega)).L (by omega)).L (by omega)).L (by omega)).L (by omega), ?_⟩
  intro q k hk
  rcases hk with rfl | rfl | rfl | rfl | rfl | rfl | rfl <;> (unfold sWords; simp only [zL2, updLE, ↓reduceIte, Nat.reduceEqDiff])
theorem cl_tellSaying10 {P Q : Nat} {C : Nat → Int32} {p q : Nat} {s : ZS} (hc : cC P Q C s) (hp : p < P) (hq : q < Q) (hw : ∀ q k, k = 0 ∨ k = 2 ∨ k = 3 ∨ k = 7 ∨ k = 8 ∨ k = 9 ∨ k = 10 → s.2 203 k = sWords C (gS 10 s) p q k) :
    rt (f_Mill_tellSaying 10 (nI p) (nI q) s) (fun w => frm (fun b => b = 203) s w ∧ ∀ k, k < 11 → w.2 203 k = sWords C (gS 10 s) p q k) := by
  have hP := hc.1
  have hQ := hc.2.1
  obtain ⟨_, _, e3, e4, e5, e6, e7, e8, e9, e10⟩ := id hc
  have e10' : s.1 9 (p * 6 + q) = C (73 + 6 * p + q) := by rw [e10 _ (by omega)]; congr 1; omega
  have hpq : p * 6 + q < 30 := by omega
  have e11 : s.1 14 (p * 6 + q) = (gS 10 s).2.2.2.1 (6 * p + q) := by rw [rS10 hpq, show p * 6 + q = 6 * p + q by omega]
  unfold f_Mill_tellSaying
  simp (disch := omega) only [zgi, zgl, zwi, zwf, zjn, zj0, zcl_s, zcv_s, zrd_n, zrl_n, zix_n, zwa_n, zwl_n, zI1, zI2, zL1, zL2, zR1, zR2, updE, updLE, zbl_0, zbl_1, nI_1, nI_add, nI_mulR, nI_leI, nI_ltI, nI_0le, nI_lt0, bvE, ↓reduceIte, Nat.reduceEqDiff, Nat.reduceLT, Nat.reduceAdd, Nat.reduceMul, reduceCtorEq, l6, e9 q hq, e10', e11]
  refine rt_s ⟨(((frm.rf.L (by omega)).L (by omega)).L (by omega)).L (by omega), ?_⟩
  intro k hk
  have hcs : k = 1 ∨ k = 4 ∨ k = 5 ∨ k = 6 ∨ (k = 0 ∨ k = 2 ∨ k = 3 ∨ k = 7 ∨ k = 8 ∨ k = 9 ∨ k = 10) := by omega
  rcases hcs with rfl | rfl | rfl | rfl | hk2
  · unfold sWords; simp only [zL2, updLE, ↓reduceIte, Nat.reduceEqDiff]
  · unfold sWords; simp only [zL2, updLE, ↓reduceIte, Nat.reduceEqDiff]
  · unfold sWords; simp only [zL2, updLE, ↓reduceIte, Nat.reduceEqDiff]
  · unfold sWords; simp only [zL2, updLE, ↓reduceIte, Nat.reduceEqDiff]
  · simp only [zL2, updLE, ↓reduceIte]
    rw [if_neg (by omega), if_neg (by omega), if_neg (by omega), if_neg (by omega)]
    exact hw q k hk2
theorem cl_chosen10 {P Q : Nat} {C : Nat → Int32} {st : Int32} {rl : ZRl} {p : Nat} {s : ZS} (hc : cC P Q C s) (hz : zW P (gS 10 s).2.1) (hst : s.1 202 6 = st) (hr : hC rl s) (hp : p < P) :
    rt (f_Mill_chosen 10 (nI p) s) (fun w => w.1 = (sCh Q C st rl (gS 10 s) p).1 ∧ frm (fun b => b = 203 ∨ b = 204) s w.2) := by
  have hP := hc.1
  have hQ := hc.2.1
  unfold f_Mill_chosen sCh
  rcases hr with ⟨rfl, hn⟩ | ⟨j, f, rfl, hj, hn, hf⟩
  · simp only [zgi, zj0, hn, znr_n]
    refine lp_rt Q (fun i a s1 => s1 = s ∧ a.2.2 = nI i ∧ (a.1, a.2.1) = itr i (sCh1 C st none (gS 10 s) p) (-1, 0)) (by omega) ⟨rfl, rfl, rfl⟩ ?_ ?_
    · rintro i ⟨best, most, c⟩ s1 g hi ⟨rfl, h0, h1⟩
      left
      dsimp only at h0 h1
      subst h0
      rw [itrS, ← h1]
      obtain ⟨_, _, e3, e4, e5, e6, e7, e8, e9, e10⟩ := id hc
      have e10' : s1.1 9 (p * 6 + i) = C (73 + 6 * p + i) := by rw [e10 _ (by omega)]; congr 1; omega
      have hnQ : ¬ Q ≤ i := by omega
      unfold f_Mill_chosen_B21 sCh1 f_Smithy_weight sWorth
      by_cases c1 : bt st i = true
      · simp (disch := omega) only [zgi, zgl, zwi, zwf, zjn, zj0, zcl_s, zcv_s, zrd_n, zrl_n, zix_n, zwa_n, zwl_n, zI1, zI2, zL1, zL2, zR1, zR2, updE, updLE, zbl_0, zbl_1, nI_1, nI_add, nI_mulR, nI_leI, nI_ltI, nI_0le, nI_lt0, bvE, ↓reduceIte, Nat.reduceEqDiff, Nat.reduceLT, Nat.reduceAdd, Nat.reduceMul, reduceCtorEq, e4, hst, bv_0, c1, hnQ, not_false_eq_true, Bool.true_eq_false]
        exact ⟨_, _, rfl, rfl, rfl, rfl⟩
      · by_cases c2 : (C (67 + i) + C (73 + 6 * p + i)).toInt64 ≤ most
        · simp (disch := omega) only [zgi, zgl, zwi, zwf, zjn, zj0, zcl_s, zcv_s, zrd_n, zrl_n, zix_n, zwa_n, zwl_n, zI1, zI2, zL1, zL2, zR1, zR2, updE, updLE, zbl_0, zbl_1, nI_1, nI_add, nI_mulR, nI_leI, nI_ltI, nI_0le, nI_lt0, bvE, ↓reduceIte, Nat.reduceEqDiff, Nat.reduceLT, Nat.reduceAdd, Nat.reduceMul, reduceCtorEq, l6, e4, hst, bv_0, c1, hnQ, Bool.not_eq_true, not_true_eq_false, e9 i hi, e10', hn, znr_n, lg_le0, c2]
          exact ⟨_, _, rfl, rfl, rfl, rfl⟩
        · simp (disch := omega) only [zgi, zgl, zwi, zwf, zjn, zj0, zcl_s, zcv_s, zrd_n, zrl_n, zix_n, zwa_n, zwl_n, zI1, zI2, zL1, zL2, zR1, zR2, updE, updLE, zbl_0, zbl_1, nI_1, nI_add, nI_mulR, nI_leI, nI_ltI, nI_0le, nI_lt0, bvE, ↓reduceIte, Nat.reduceEqDiff, Nat.reduceLT, Nat.reduceAdd, Nat.reduceMul, reduceCtorEq, l6, e4, hst, bv_0, c1, hnQ, Bool.not_eq_true, not_true_eq_false, e9 i hi, e10', hn, znr_n, lg_le0, c2]
          exact ⟨_, _, rfl, rfl, rfl, rfl⟩
    · rintro ⟨best, most, c⟩ s1 g ⟨rfl, h0, h1⟩
      dsimp only at h0 h1
      subst h0
      unfold f_Mill_chosen_B21
      simp (disch := omega) only [zgi, zgl, zwi, zwf, zjn, zj0, zcl_s, zcv_s, zrd_n, zrl_n, zix_n, zwa_n, zwl_n, zI1, zI2, zL1, zL2, zR1, zR2, updE, updLE, zbl_0, zbl_1, nI_1, nI_add, nI_mulR, nI_leI, nI_ltI, nI_0le, nI_lt0, bvE, ↓reduceIte, Nat.reduceEqDiff, Nat.reduceLT, Nat.reduceAdd, Nat.reduceMul, reduceCtorEq, hc.2.2.2.1, Nat.le_refl]
      exact rt_s ⟨by rw [← h1], frm.rf⟩
  · simp only [zgi, zj0, hn, znr_j hj]
    refine rt_cv (cl_tellPair10 hc hz hp) ?_
    rintro s0 ⟨f0, w0⟩
    have g0 : gS 10 s0 = gS 10 s := gS10_f f0 (fun b hb hb2 => by omega)
    rw [← g0] at w0 ⊢
    refine lp_rt Q (fun i a s1 => frm (fun b => b = 203 ∨ b = 204) s s1 ∧ a.2.2 = nI i ∧ (a.1, a.2.1) = itr i (sCh1 C st (some f) (gS 10 s0) p) (-1, 0) ∧ ∀ q k, k = 0 ∨ k = 2 ∨ k = 3 ∨ k = 7 ∨ k = 8 ∨ k = 9 ∨ k = 10 → s1.2 203 k = sWords C (gS 10 s0) p q k) (by omega) ⟨f0.sub (fun b hb => Or.inl hb), rfl, rfl, w0⟩ ?_ ?_
    · rintro i ⟨best, most, c⟩ s1 g hi ⟨f1, h0, h1, w1⟩
      left
      dsimp only at h0 h1
      subst h0
      rw [itrS, ← h1]
      have g1 : gS 10 s1 = gS 10 s0 := (gS10_f f1 (fun b hb hb2 => by omega)).trans g0.symm
      have c1' := hc.f f1 (fun b hb hb2 => by omega)
      obtain ⟨_, _, e3, e4, e5, e6, e7, e8, e9, e10⟩ := id c1'
      have e10' : s1.1 9 (p * 6 + i) = C (73 + 6 * p + i) := by rw [e10 _ (by omega)]; congr 1; omega
      have hnQ : ¬ Q ≤ i := by omega
      have hst1 : s1.1 202 6 = st := by rw [f1.1 202 (by omega)]; exact hst
      have hn1 : s1.1 202 5 = nI j := by rw [f1.1 202 (by omega)]; exact hn
      unfold f_Mill_chosen_B21 sCh1 f_Smithy_weight
      by_cases c1 : bt st i = true
      · simp (disch := omega) only [zgi, zgl, zwi, zwf, zjn, zj0, zcl_s, zcv_s, zrd_n, zrl_n, zix_n, zwa_n, zwl_n, zI1, zI2, zL1, zL2, zR1, zR2, updE, updLE, zbl_0, zbl_1, nI_1, nI_add, nI_mulR, nI_leI, nI_ltI, nI_0le, nI_lt0, bvE, ↓reduceIte, Nat.reduceEqDiff, Nat.reduceLT, Nat.reduceAdd, Nat.reduceMul, reduceCtorEq, e4, hst1, bv_0, c1, hnQ, not_false_eq_true, Bool.true_eq_false]
        exact ⟨_, _, rfl, f1, rfl, rfl, w1⟩
      · rw [← g1] at w1
        obtain ⟨s2, r2, f2, w2⟩ := cl_tellSaying10 c1' hp hi w1
        have hn2 : s2.1 202 5 = nI j := by rw [f2.1 202 (by omega)]; exact hn1
        obtain ⟨⟨v3, s3⟩, r3, v3e, f3⟩ := hf s2 (sWords C (gS 10 s1) p i) ⟨by rw [f2.1 _ (by omega), f1.1 _ (by omega)], by rw [f2.1 _ (by omega), f1.1 _ (by omega)]⟩ w2
        dsimp only at v3e f3
        have f4 : frm (fun b => b = 203 ∨ b = 204) s s3 := f1.tr ((f2.sub (fun b hb => Or.inl hb)).tr (f3.sub (fun b hb => Or.inr hb)))
        have w3 : ∀ q k, k = 0 ∨ k = 2 ∨ k = 3 ∨ k = 7 ∨ k = 8 ∨ k = 9 ∨ k = 10 → s3.2 203 k = sWords C (gS 10 s0) p q k := by
          intro q k hk
          rw [f3.2 203 (by omega), w2 k (by omega), g1]
          exact sWords_q hk
        have sw : sWorth C (some f) (gS 10 s0) p i = v3 := by rw [v3e, g1]; rfl
        rw [sw]
        by_cases c2 : v3 ≤ most
        · simp (disch := omega) only [zgi, zgl, zwi, zwf, zjn, zj0, zcl_s, zcv_s, zrd_n, zrl_n, zix_n, zwa_n, zwl_n, zI1, zI2, zL1, zL2, zR1, zR2, updE, updLE, zbl_0, zbl_1, nI_1, nI_add, nI_mulR, nI_leI, nI_ltI, nI_0le, nI_lt0, bvE, ↓reduceIte, Nat.reduceEqDiff, Nat.reduceLT, Nat.reduceAdd, Nat.reduceMul, reduceCtorEq, l6, e4, hst1, bv_0, c1, hnQ, Bool.not_eq_true, not_true_eq_false, e9 i hi, e10', hn1, znr_j, hn2, r2, r3, lg_le0, c2]
          exact ⟨_, _, rfl, f4, rfl, rfl, w3⟩
        · simp (disch := omega) only [zgi, zgl, zwi, zwf, zjn, zj0, zcl_s, zcv_s, zrd_n, zrl_n, zix_n, zwa_n, zwl_n, zI1, zI2, zL1, zL2, zR1, zR2, updE, updLE, zbl_0, zbl_1, nI_1, nI_add, nI_mulR, nI_leI, nI_ltI, nI_0le, nI_lt0, bvE, ↓reduceIte, Nat.reduceEqDiff, Nat.reduceLT, Nat.reduceAdd, Nat.reduceMul, reduceCtorEq, l6, e4, hst1, bv_0, c1, hnQ, Bool.not_eq_true, not_true_eq_false, e9 i hi, e10', hn1, znr_j, hn2, r2, r3, lg_le0, c2]
          exact ⟨_, _, rfl, f4, rfl, rfl, w3⟩
    · rintro ⟨best, most, c⟩ s1 g ⟨f1, h0, h1, w1⟩
      dsimp only at h0 h1
      subst h0
      have c1' := hc.f f1 (fun b hb hb2 => by omega)
      unfold f_Mill_chosen_B21
      simp (disch := omega) only [zgi, zgl, zwi, zwf, zjn, zj0, zcl_s, zcv_s, zrd_n, zrl_n, zix_n, zwa_n, zwl_n, zI1, zI2, zL1, zL2, zR1, zR2, updE, updLE, zbl_0, zbl_1, nI_1, nI_add, nI_mulR, nI_leI, nI_ltI, nI_0le, nI_lt0, bvE, ↓reduceIte, Nat.reduceEqDiff, Nat.reduceLT, Nat.reduceAdd, Nat.reduceMul, reduceCtorEq, c1'.2.2.2.1, Nat.le_refl]
      exact rt_s ⟨by rw [← h1], f1⟩
theorem cl_passDay10 {P Q : Nat} {C : Nat → Int32} {st hm : Int32} {rl : ZRl} {s : ZS} (hc : cC P Q C s) (hK : cK P C) (hz : zW P (gS 10 s).2.1) (hst : s.1 202 6 = st) (hh : s.1 202 7 = hm) (hh2 : hm = -1 ∨ ∃ j, j < 5 ∧ hm = nI j) (hr : hC rl s) :
    rt (f_Mill_passDay 10 s) (fun w => (gS 10 w.2, w.1, w.2.1 205) = sDay P Q C st hm rl (gS 10 s) (s.1 205) ∧ frm (fun b => 203 ≤ b ∧ b ≤ 205 ∨ 10 ≤ b ∧ b ≤ 14) s w.2) := by
  have hP := hc.1
  have hQ := hc.2.1
  unfold f_Mill_passDay sDay
  simp only [zjn]
  refine lp_rt P (fun i a s1 => a.2 = nI i ∧ (gS 10 s1, a.1, s1.1 205) = itr i (sDay1 P Q C st hm rl) (gS 10 s, 0, s.1 205) ∧ frm (fun b => 203 ≤ b ∧ b ≤ 205 ∨ 10 ≤ b ∧ b ≤ 14) s s1) (by omega) ⟨rfl, rfl, frm.rf⟩ ?_ ?_
  · rintro i ⟨r, c⟩ s1 g hi ⟨h0, h1, h3⟩
    left
    dsimp only at h0 h1
    subst h0
    have hz1 : zW P (gS 10 s1).2.1 := by
      have := zW_day1 (Q := Q) (st := st) (hm := hm) (rl := rl) (RS := s.1 205) hK hz i (by omega)
      rw [← h1] at this; exact this
    rw [itrS, ← h1]
    have c1' := hc.f h3 (fun b hb hb2 => by omega)
    obtain ⟨_, _, e3, e4, e5, e6, e7, e8, e9, e10⟩ := id c1'
    have hst1 : s1.1 202 6 = st := by rw [h3.1 202 (by omega)]; exact hst
    have hh1 : s1.1 202 7 = hm := by rw [h3.1 202 (by omega)]; exact hh
    have hr1 : hC rl s1 := hr.f h3 (fun b hb => by omega)
    have hnP : ¬ P ≤ i := by omega
    unfold f_Mill_passDay_B4 sDay1
    dsimp only
    by_cases k1 : (gS 10 s1).2.1 i = 0
    · by_cases k2 : nI i = hm
      · subst k2
        simp (disch := omega) only [zgi, zgl, zwi, zwf, zjn, zj0, zcl_s, zcv_s, zrd_n, zrl_n, zix_n, zwa_n, zwl_n, zI1, zI2, zL1, zL2, zR1, zR2, updE, updLE, zbl_0, zbl_1, nI_1, nI_add, nI_mulR, nI_leI, nI_ltI, nI_0le, nI_lt0, bvE, ↓reduceIte, Nat.reduceEqDiff, Nat.reduceLT, Nat.reduceAdd, Nat.reduceMul, reduceCtorEq, e3, hnP, rW10, k1, not_true_eq_false, hh1, and_false]
        exact ⟨_, _, rfl, rfl, rfl, h3⟩
      · obtain ⟨⟨q, s2⟩, r2, q2, f2⟩ := cl_chosen10 c1' hz1 hst1 hr1 hi
        dsimp only at q2 f2
        have g2 : gS 10 s2 = gS 10 s1 := gS10_f f2 (fun b hb hb2 => by omega)
        have f2' : frm (fun b => 203 ≤ b ∧ b ≤ 205 ∨ 10 ≤ b ∧ b ≤ 14) s s2 := h3.tr (f2.sub (fun b hb => by omega))
        rw [← q2]
        rcases sCh_r (C := C) (st := st) (rl := rl) (z := gS 10 s1) (p := i) Q with hq | ⟨q', hq1, hq⟩
        · rw [← q2] at hq
          subst hq
          simp (disch := omega) only [zgi, zgl, zwi, zwf, zjn, zj0, zcl_s, zcv_s, zrd_n, zrl_n, zix_n, zwa_n, zwl_n, zI1, zI2, zL1, zL2, zR1, zR2, updE, updLE, zbl_0, zbl_1, nI_1, nI_add, nI_mulR, nI_leI, nI_ltI, nI_0le, nI_lt0, bvE, ↓reduceIte, Nat.reduceEqDiff, Nat.reduceLT, Nat.reduceAdd, Nat.reduceMul, reduceCtorEq, e3, hnP, rW10, k1, not_true_eq_false, hh1, k2, r2, not_false_eq_true, and_self]
          exact ⟨_, _, rfl, rfl, by rw [g2, f2.1 205 (by omega)], f2'⟩
        · rw [← q2] at hq
          subst hq
          have hz2 : zW P (gS 10 s2).2.1 := by rw [g2]; exact hz1
          have hh2' : s2.1 202 7 = hm := by rw [f2.1 202 (by omega)]; exact hh1
          obtain ⟨⟨v3, s3⟩, r3, g3, f3⟩ := cl_utter10 (c1'.f f2 (fun b hb hb2 => by omega)) hz2 hh2' hh2 hi hq1
          dsimp only at g3 f3
          rw [g2, f2.1 205 (by omega)] at g3
          simp (disch := omega) only [zgi, zgl, zwi, zwf, zjn, zj0, zcl_s, zcv_s, zrd_n, zrl_n, zix_n, zwa_n, zwl_n, zI1, zI2, zL1, zL2, zR1, zR2, updE, updLE, zbl_0, zbl_1, nI_1, nI_add, nI_mulR, nI_leI, nI_ltI, nI_0le, nI_lt0, bvE, ↓reduceIte, Nat.reduceEqDiff, Nat.reduceLT, Nat.reduceAdd, Nat.reduceMul, reduceCtorEq, e3, hnP, rW10, k1, not_true_eq_false, hh1, k2, r2, not_false_eq_true, and_self, nI_n1, r3]
          refine ⟨_, _, rfl, rfl, ?_, f2'.tr (f3.sub (fun b hb => by omega))⟩
          rw [nI_clamp (by omega), ← g3]
    · simp (disch := omega) only [zgi, zgl, zwi, zwf, zjn, zj0, zcl_s, zcv_s, zrd_n, zrl_n, zix_n, zwa_n, zwl_n, zI1, zI2, zL1, zL2, zR1, zR2, updE, updLE, zbl_0, zbl_1, nI_1, nI_add, nI_mulR, nI_leI, nI_ltI, nI_0le, nI_lt0, bvE, ↓reduceIte, Nat.reduceEqDiff, Nat.reduceLT, Nat.reduceAdd, Nat.reduceMul, reduceCtorEq, e3, hnP, rW10, k1, not_false_eq_true, false_and]
      exact ⟨_, _, rfl, rfl, rfl, h3⟩
  · rintro ⟨r, c⟩ s1 g ⟨h0, h1, h3⟩
    dsimp only at h0 h1
    subst h0
    have hz1 : zW P (gS 10 s1).2.1 := by
      have := zW_day1 (Q := Q) (st := st) (hm := hm) (rl := rl) (RS := s.1 205) hK hz P (Nat.le_refl _)
      rw [← h1] at this; exact this
    rw [← h1]
    have c1' := hc.f h3 (fun b hb hb2 => by omega)
    obtain ⟨_, _, e3, e4, e5, e6, e7, e8, e9, e10⟩ := id c1'
    unfold f_Mill_passDay_B4
    have key : ∀ wv : Int32, (wv = 0 ∧ s9 (gS 10 s1).2.2.2.2.1 = false ∨ wv = 1 ∧ s9 (gS 10 s1).2.2.2.2.1 = true) → rt (zlp zN (f_Mill_passDay_B84 10 wv (fun (s9 : ZS) => zgi (s9.1 10 0) (fun (v11 : Int32) => zwi s9 10 0 ((v11 + (1 : Int32))) (fun (s12 : ZS) => some (r, s12))))) (0 : Int32) s1) (fun w => (gS 10 w.2, w.1, w.2.1 205) = (sEnd P C (gS 10 s1), r, s1.1 205) ∧ frm (fun b => 203 ≤ b ∧ b ≤ 205 ∨ 10 ≤ b ∧ b ≤ 14) s w.2) := by
      intro wv hwv
      refine lp_rt P (fun i a s2 => a = nI i ∧ gS 10 s2 = (itr i sCool (gS 10 s1).1, itr i (sWear C (s9 (gS 10 s1).2.2.2.2.1)) (gS 10 s1).2) ∧ frm (fun b => 11 ≤ b ∧ b ≤ 13) s1 s2) (by omega) ⟨rfl, rfl, frm.rf⟩ ?_ ?_
      · rintro i c s2 g hi ⟨rfl, k1, k3⟩
        left
        have hz2 : zW P (gS 10 s2).2.1 := by
          rw [k1]; exact zW_wear hz1 i (by omega)
        rw [itrS, itrS]
        have hT : itr i sCool (gS 10 s1).1 = (gS 10 s2).1 := by rw [k1]
        have hU : itr i (sWear C (s9 (gS 10 s1).2.2.2.2.1)) (gS 10 s1).2 = (gS 10 s2).2 := by rw [k1]
        rw [hT, hU]
        obtain ⟨_, _, e3, e4, e5, e6, e7, e8, e9, e10⟩ := c1'.f k3 (fun b hb hb2 => by omega)
        have hnP : ¬ P ≤ i := by omega
        unfold f_Mill_passDay_B84 sCool sWear f_Mill_wearBand
        by_cases t1 : (gS 10 s2).1 i ≤ 0
        · rcases hwv with ⟨rfl, hw⟩ | ⟨rfl, hw⟩
          · simp (disch := omega) only [zgi, zgl, zwi, zwf, zjn, zj0, zcl_s, zcv_s, zrd_n, zrl_n, zix_n, zwa_n, zwl_n, zI1, zI2, zL1, zL2, zR1, zR2, updE, updLE, zbl_0, zbl_1, nI_1, nI_add, nI_mulR, nI_leI, nI_ltI, nI_0le, nI_lt0, bvE, ↓reduceIte, Nat.reduceEqDiff, Nat.reduceLT, Nat.reduceAdd, Nat.reduceMul, reduceCtorEq, e3, hnP, rT10, rW10, t1, hw, Bool.false_eq_true, false_and]
            exact ⟨_, _, rfl, rfl, rfl, k3⟩
          · by_cases w1 : (gS 10 s2).2.1 i = 0
            · simp (disch := omega) only [zgi, zgl, zwi, zwf, zjn, zj0, zcl_s, zcv_s, zrd_n, zrl_n, zix_n, zwa_n, zwl_n, zI1, zI2, zL1, zL2, zR1, zR2, updE, updLE, zbl_0, zbl_1, nI_1, nI_add, nI_mulR, nI_leI, nI_ltI, nI_0le, nI_lt0, bvE, ↓reduceIte, Nat.reduceEqDiff, Nat.reduceLT, Nat.reduceAdd, Nat.reduceMul, reduceCtorEq, e3, hnP, rT10, rW10, t1, hw, hz2.pos (show i < 5 by omega), w1, not_true_eq_false, and_false, i10]
              exact ⟨_, _, rfl, rfl, rfl, k3⟩
            · by_cases w2 : (gS 10 s2).2.1 i - C 2 ≤ 0
              · simp (disch := omega) only [zgi, zgl, zwi, zwf, zjn, zj0, zcl_s, zcv_s, zrd_n, zrl_n, zix_n, zwa_n, zwl_n, zI1, zI2, zL1, zL2, zR1, zR2, updE, updLE, zbl_0, zbl_1, nI_1, nI_add, nI_mulR, nI_leI, nI_ltI, nI_0le, nI_lt0, bvE, ↓reduceIte, Nat.reduceEqDiff, Nat.reduceLT, Nat.reduceAdd, Nat.reduceMul, reduceCtorEq, e3, e6, hnP, rT10, rW10, t1, hw, hz2.pos (show i < 5 by omega), w1, not_true_eq_false, not_false_eq_true, and_self, i10, Int32.not_lt.mpr w2, w2, gS10_W, gS10_Z, eq_self]
                refine ⟨_, _, rfl, rfl, ?_, (k3.I (by omega)).I (by omega)⟩
                simp (disch := omega) only [gS10_W, gS10_Z]
              · have w3 : ¬ (gS 10 s2).2.1 i - C 2 = 0 := fun e => w2 (by rw [e]; exact Int32.le_refl _)
                simp (disch := omega) only [zgi, zgl, zwi, zwf, zjn, zj0, zcl_s, zcv_s, zrd_n, zrl_n, zix_n, zwa_n, zwl_n, zI1, zI2, zL1, zL2, zR1, zR2, updE, updLE, zbl_0, zbl_1, nI_1, nI_add, nI_mulR, nI_leI, nI_ltI, nI_0le, nI_lt0, bvE, ↓reduceIte, Nat.reduceEqDiff, Nat.reduceLT, Nat.reduceAdd, Nat.reduceMul, reduceCtorEq, e3, e6, hnP, rT10, rW10, t1, hw, hz2.pos (show i < 5 by omega), w1, w3, not_true_eq_false, not_false_eq_true, and_self, i10, Int32.not_le.mp w2, w2, gS10_W, gS10_Z, eq_self]
                refine ⟨_, _, rfl, rfl, ?_, (k3.I (by omega))⟩
                simp (disch := omega) only [gS10_W, gS10_Z]
        · rcases hwv with ⟨rfl, hw⟩ | ⟨rfl, hw⟩
          · simp (disch := omega) only [zgi, zgl, zwi, zwf, zjn, zj0, zcl_s, zcv_s, zrd_n, zrl_n, zix_n, zwa_n, zwl_n, zI1, zI2, zL1, zL2, zR1, zR2, updE, updLE, zbl_0, zbl_1, nI_1, nI_add, nI_mulR, nI_leI, nI_ltI, nI_0le, nI_lt0, bvE, ↓reduceIte, Nat.reduceEqDiff, Nat.reduceLT, Nat.reduceAdd, Nat.reduceMul, reduceCtorEq, e3, hnP, rT10, rW10, t1, hw, Bool.false_eq_true, false_and]
            refine ⟨_, _, rfl, rfl, ?_, (k3.I (by omega))⟩
            simp (disch := omega) only [gS10_T]
          · by_cases w1 : (gS 10 s2).2.1 i = 0
            · simp (disch := omega) only [zgi, zgl, zwi, zwf, zjn, zj0, zcl_s, zcv_s, zrd_n, zrl_n, zix_n, zwa_n, zwl_n, zI1, zI2, zL1, zL2, zR1, zR2, updE, updLE, zbl_0, zbl_1, nI_1, nI_add, nI_mulR, nI_leI, nI_ltI, nI_0le, nI_lt0, bvE, ↓reduceIte, Nat.reduceEqDiff, Nat.reduceLT, Nat.reduceAdd, Nat.reduceMul, reduceCtorEq, e3, hnP, rT10, rW10, t1, hw, hz2.pos (show i < 5 by omega), w1, not_true_eq_false, and_false, i10]
              refine ⟨_, _, rfl, rfl, ?_, (k3.I (by omega))⟩
              simp (disch := omega) only [gS10_T]
            · by_cases w2 : (gS 10 s2).2.1 i - C 2 ≤ 0
              · simp (disch := omega) only [zgi, zgl, zwi, zwf, zjn, zj0, zcl_s, zcv_s, zrd_n, zrl_n, zix_n, zwa_n, zwl_n, zI1, zI2, zL1, zL2, zR1, zR2, updE, updLE, zbl_0, zbl_1, nI_1, nI_add, nI_mulR, nI_leI, nI_ltI, nI_0le, nI_lt0, bvE, ↓reduceIte, Nat.reduceEqDiff, Nat.reduceLT, Nat.reduceAdd, Nat.reduceMul, reduceCtorEq, e3, e6, hnP, rT10, rW10, t1, hw, hz2.pos (show i < 5 by omega), w1, not_true_eq_false, not_false_eq_true, and_self, i10, Int32.not_lt.mpr w2, w2, gS10_W, gS10_Z, eq_self]
                refine ⟨_, _, rfl, rfl, ?_, ((k3.I (by omega)).I (by omega)).I (by omega)⟩
                simp (disch := omega) only [gS10_T, gS10_W, gS10_Z]
              · have w3 : ¬ (gS 10 s2).2.1 i - C 2 = 0 := fun e => w2 (by rw [e]; exact Int32.le_refl _)
                simp (disch := omega) only [zgi, zgl, zwi, zwf, zjn, zj0, zcl_s, zcv_s, zrd_n, zrl_n, zix_n, zwa_n, zwl_n, zI1, zI2, zL1, zL2, zR1, zR2, updE, updLE, zbl_0, zbl_1, nI_1, nI_add, nI_mulR, nI_leI, nI_ltI, nI_0le, nI_lt0, bvE, ↓reduceIte, Nat.reduceEqDiff, Nat.reduceLT, Nat.reduceAdd, Nat.reduceMul, reduceCtorEq, e3, e6, hnP, rT10, rW10, t1, hw, hz2.pos (show i < 5 by omega), w1, w3, not_true_eq_false, not_false_eq_true, and_self, i10, Int32.not_le.mp w2, w2, gS10_W, gS10_Z, eq_self]
                refine ⟨_, _, rfl, rfl, ?_, (k3.I (by omega)).I (by omega)⟩
                simp (disch := omega) only [gS10_T, gS10_W, gS10_Z]
      · rintro c s2 g ⟨rfl, k1, k3⟩
        obtain ⟨_, _, e3, e4, e5, e6, e7, e8, e9, e10⟩ := c1'.f k3 (fun b hb hb2 => by omega)
        unfold f_Mill_passDay_B84
        simp (disch := omega) only [zgi, zgl, zwi, zwf, zjn, zj0, zcl_s, zcv_s, zrd_n, zrl_n, zix_n, zwa_n, zwl_n, zI1, zI2, zL1, zL2, zR1, zR2, updE, updLE, zbl_0, zbl_1, nI_1, nI_add, nI_mulR, nI_leI, nI_ltI, nI_0le, nI_lt0, bvE, ↓reduceIte, Nat.reduceEqDiff, Nat.reduceLT, Nat.reduceAdd, Nat.reduceMul, reduceCtorEq, e3, Nat.le_refl]
        refine rt_s ⟨?_, (h3.tr (k3.sub (fun b hb => by omega))).I (by omega)⟩
        simp (disch := omega) only [gS10_D, rD10, zI1, ↓reduceIte, Nat.reduceEqDiff]
        rw [k3.1 205 (by omega), k1]
        rfl
    by_cases k9 : (gS 10 s1).2.2.2.2.1 - (gS 10 s1).2.2.2.2.1 / 10 * 10 = 9
    · simp (disch := omega) only [zgi, zgl, zwi, zwf, zjn, zj0, zcl_s, zcv_s, zrd_n, zrl_n, zix_n, zwa_n, zwl_n, zI1, zI2, zL1, zL2, zR1, zR2, updE, updLE, zbl_0, zbl_1, nI_1, nI_add, nI_mulR, nI_leI, nI_ltI, nI_0le, nI_lt0, bvE, ↓reduceIte, Nat.reduceEqDiff, Nat.reduceLT, Nat.reduceAdd, Nat.reduceMul, reduceCtorEq, e3, Nat.le_refl, rD10, k9, not_true_eq_false]
      exact key 1 (Or.inr ⟨rfl, by unfold s9; simp [k9]⟩)
    · simp (disch := omega) only [zgi, zgl, zwi, zwf, zjn, zj0, zcl_s, zcv_s, zrd_n, zrl_n, zix_n, zwa_n, zwl_n, zI1, zI2, zL1, zL2, zR1, zR2, updE, updLE, zbl_0, zbl_1, nI_1, nI_add, nI_mulR, nI_leI, nI_ltI, nI_0le, nI_lt0, bvE, ↓reduceIte, Nat.reduceEqDiff, Nat.reduceLT, Nat.reduceAdd, Nat.reduceMul, reduceCtorEq, e3, Nat.le_refl, rD10, k9, not_false_eq_true]
      exact key 0 (Or.inl ⟨rfl, by unfold s9; simp [k9]⟩)
theorem cl_door207 {P Q : Nat} {C : Nat → Int32} {s : ZS} (hc : cC P Q C s) (hz : zW P (gS 207 s).2.1) :
    rt (f_Mill_openDoor 207 s) (fun w => (gS 207 w.2, w.1, w.2.1 205) = sDoor P C (gS 207 s) (s.1 205) ∧ frm (fun b => b = 205 ∨ 207 ≤ b ∧ b ≤ 211) s w.2) := by
  have hP := hc.1
  obtain ⟨_, _, e3, e4, e5, e6, e7, e8, e9, e10⟩ := id hc
  have hbit : ∀ o, o < P → bt ((((1 : Int32) <<< (nI P &&& 31)) - 1) &&& (sBnd (gS 207 s).2.1 5 ^^^ (-1))) o = decide ((gS 207 s).2.1 o = 0) := by
    intro o ho
    rw [bt_and, bt_all hP (by omega), bt_not _ (by omega), sBnd_bt _ _ _ (by omega) (by omega)]
    have h1 : decide (o < 5) = true := decide_eq_true (by omega)
    have h2 : decide (o < P) = true := decide_eq_true ho
    rw [h1, h2]; simp
  unfold f_Mill_openDoor f_Smithy_everyPair
  simp (disch := omega) only [zgi, zgl, zwi, zwf, zjn, zj0, zcl_s, zcv_s, zrd_n, zrl_n, zix_n, zwa_n, zwl_n, zI1, zI2, zL1, zL2, zR1, zR2, updE, updLE, zbl_0, zbl_1, nI_1, nI_add, nI_mulR, nI_leI, nI_ltI, nI_0le, nI_lt0, bvE, ↓reduceIte, Nat.reduceEqDiff, Nat.reduceLT, Nat.reduceAdd, Nat.reduceMul, reduceCtorEq, e3, cl_banded207 hz]
  refine lp_rt P (fun i a s1 => a = nI i ∧ gS 207 s1 = itr i (sHear 3 (fun o => decide ((gS 207 s).2.1 o = 0))) (gS 207 s) ∧ frm (fun b => b = 208) s s1) (by omega) ⟨rfl, rfl, frm.rf⟩ ?_ ?_
  · rintro i c s1 g hi ⟨rfl, h1, h3⟩
    left
    obtain ⟨_, _, e3, e4, e5, e6, e7, e8, e9, e10⟩ := hc.f h3 (fun b hb hb2 => by omega)
    rw [itrS, ← h1]
    have hb := hbit i hi
    have hnP : ¬ P ≤ i := by omega
    unfold f_Mill_openDoor_B17 sHear
    by_cases c1 : (gS 207 s).2.1 i = 0
    · simp (disch := omega) only [zgi, zgl, zwi, zwf, zjn, zj0, zcl_s, zcv_s, zrd_n, zrl_n, zix_n, zwa_n, zwl_n, zI1, zI2, zL1, zL2, zR1, zR2, updE, updLE, zbl_0, zbl_1, nI_1, nI_add, nI_mulR, nI_leI, nI_ltI, nI_0le, nI_lt0, bvE, ↓reduceIte, Nat.reduceEqDiff, Nat.reduceLT, Nat.reduceAdd, Nat.reduceMul, reduceCtorEq, e3, bv_0, hb, c1, hnP, cl_anger207, decide_true]
      refine ⟨_, _, rfl, rfl, ?_, h3.I rfl⟩
      simp (disch := omega) only [gS207_T]
    · simp (disch := omega) only [zgi, zgl, zwi, zwf, zjn, zj0, zcl_s, zcv_s, zrd_n, zrl_n, zix_n, zwa_n, zwl_n, zI1, zI2, zL1, zL2, zR1, zR2, updE, updLE, zbl_0, zbl_1, nI_1, nI_add, nI_mulR, nI_leI, nI_ltI, nI_0le, nI_lt0, bvE, ↓reduceIte, Nat.reduceEqDiff, Nat.reduceLT, Nat.reduceAdd, Nat.reduceMul, reduceCtorEq, e3, bv_0, hb, c1, hnP, decide_false, Bool.false_eq_true]
      exact ⟨_, _, rfl, rfl, rfl, h3⟩
  · rintro c s1 g ⟨rfl, h1, h3⟩
    obtain ⟨_, _, e3, e4, e5, e6, e7, e8, e9, e10⟩ := hc.f h3 (fun b hb hb2 => by omega)
    unfold f_Mill_openDoor_B17
    simp (disch := omega) only [zgi, zgl, zwi, zwf, zjn, zj0, zcl_s, zcv_s, zrd_n, zrl_n, zix_n, zwa_n, zwl_n, zI1, zI2, zL1, zL2, zR1, zR2, updE, updLE, zbl_0, zbl_1, nI_1, nI_add, nI_mulR, nI_leI, nI_ltI, nI_0le, nI_lt0, bvE, ↓reduceIte, Nat.reduceEqDiff, Nat.reduceLT, Nat.reduceAdd, Nat.reduceMul, reduceCtorEq, e3, Nat.le_refl]
    refine rt_cl (cl_breakOut207 (B := fun o => decide ((gS 207 s).2.1 o = 0)) (hc.f h3 (fun b hb hb2 => by omega)) hbit) ?_
    rintro v s3 ⟨g3, f3⟩
    refine rt_s ⟨?_, (h3.sub (fun b hb => by omega)).tr f3⟩
    dsimp only at g3 ⊢
    rw [g3]
    unfold sDoor
    rw [h1, h3.1 205 (by omega)]
theorem cl_tellPair207 {P Q : Nat} {C : Nat → Int32} {p : Nat} {s : ZS} (hc : cC P Q C s) (hz : zW P (gS 207 s).2.1) (hp : p < P) :
    rt (f_Mill_tellPair 207 (nI p) s) (fun w => frm (fun b => b = 203) s w ∧ ∀ q k, k = 0 ∨ k = 2 ∨ k = 3 ∨ k = 7 ∨ k = 8 ∨ k = 9 ∨ k = 10 → w.2 203 k = sWords C (gS 207 s) p q k) := by
  have hP := hc.1
  obtain ⟨_, _, e3, e4, e5, e6, e7, e8, e9, e10⟩ := id hc
  unfold f_Mill_tellPair
  simp (disch := omega) only [zgi, zgl, zwi, zwf, zjn, zj0, zcl_s, zcv_s, zrd_n, zrl_n, zix_n, zwa_n, zwl_n, zI1, zI2, zL1, zL2, zR1, zR2, updE, updLE, zbl_0, zbl_1, nI_1, nI_add, nI_mulR, nI_leI, nI_ltI, nI_0le, nI_lt0, bvE, ↓reduceIte, Nat.reduceEqDiff, Nat.reduceLT, Nat.reduceAdd, Nat.reduceMul, reduceCtorEq, cl_banded207 hz, gS207_l, rT207, rN207, rD207, e7 p hp, e8 p (by omega), pcE]
  refine rt_s ⟨((((((frm.rf.L (by omega)).L (by omega)).L (by omega)).L (by omega)).L (by omega)).L (by omega)).L (by omega), ?_⟩
  intro q k hk
  rcases hk with rfl | rfl | rfl | rfl | rfl | rfl | rfl <;> (unfold sWords; simp only [zL2, updLE, ↓reduceIte, Nat.reduceEqDiff])
theorem cl_tellSaying207 {P Q : Nat} {C : Nat → Int32} {p q : Nat} {s : ZS} (hc : cC P Q C s) (hp : p < P) (hq : q < Q) (hw : ∀ q k, k = 0 ∨ k = 2 ∨ k = 3 ∨ k = 7 ∨ k = 8 ∨ k = 9 ∨ k = 10 → s.2 203 k = sWords C (gS 207 s) p q k) :
    rt (f_Mill_tellSaying 207 (nI p) (nI q) s) (fun w => frm (fun b => b = 203) s w ∧ ∀ k, k < 11 → w.2 203 k = sWords C (gS 207 s) p q k) := by
  have hP := hc.1
  have hQ := hc.2.1
  obtain ⟨_, _, e3, e4, e5, e6, e7, e8, e9, e10⟩ := id hc
  have e10' : s.1 9 (p * 6 + q) = C (73 + 6 * p + q) := by rw [e10 _ (by omega)]; congr 1; omega
  have hpq : p * 6 + q < 30 := by omega
  have e11 : s.1 211 (p * 6 + q) = (gS 207 s).2.2.2.1 (6 * p + q) := by rw [rS207 hpq, show p * 6 + q = 6 * p + q by omega]
  unfold f_Mill_tellSaying
  simp (disch := omega) only [zgi, zgl, zwi, zwf, zjn, zj0, zcl_s, zcv_s, zrd_n, zrl_n, zix_n, zwa_n, zwl_n, zI1, zI2, zL1, zL2, zR1, zR2, updE, updLE, zbl_0, zbl_1, nI_1, nI_add, nI_mulR, nI_leI, nI_ltI, nI_0le, nI_lt0, bvE, ↓reduceIte, Nat.reduceEqDiff, Nat.reduceLT, Nat.reduceAdd, Nat.reduceMul, reduceCtorEq, l6, e9 q hq, e10', e11]
  refine rt_s ⟨(((frm.rf.L (by omega)).L (by omega)).L (by omega)).L (by omega), ?_⟩
  intro k hk
  have hcs : k = 1 ∨ k = 4 ∨ k = 5 ∨ k = 6 ∨ (k = 0 ∨ k = 2 ∨ k = 3 ∨ k = 7 ∨ k = 8 ∨ k = 9 ∨ k = 10) := by omega
  rcases hcs with rfl | rfl | rfl | rfl | hk2
  · unfold sWords; simp only [zL2, updLE, ↓reduceIte, Nat.reduceEqDiff]
  · unfold sWords; simp only [zL2, updLE, ↓reduceIte, Nat.reduceEqDiff]
  · unfold sWords; simp only [zL2, updLE, ↓reduceIte, Nat.reduceEqDiff]
  · unfold sWords; simp only [zL2, updLE, ↓reduceIte, Nat.reduceEqDiff]
  · simp only [zL2, updLE, ↓reduceIte]
    rw [if_neg (by omega), if_neg (by omega), if_neg (by omega), if_neg (by omega)]
    exact hw q k hk2
theorem cl_chosen207 {P Q : Nat} {C : Nat → Int32} {st : Int32} {rl : ZRl} {p : Nat} {s : ZS} (hc : cC P Q C s) (hz : zW P (gS 207 s).2.1) (hst : s.1 202 6 = st) (hr : hC rl s) (hp : p < P) :
    rt (f_Mill_chosen 207 (nI p) s) (fun w => w.1 = (sCh Q C st rl (gS 207 s) p).1 ∧ frm (fun b => b = 203 ∨ b = 204) s w.2) := by
  have hP := hc.1
  have hQ := hc.2.1
  unfold f_Mill_chosen sCh
  rcases hr with ⟨rfl, hn⟩ | ⟨j, f, rfl, hj, hn, hf⟩
  · simp only [zgi, zj0, hn, znr_n]
    refine lp_rt Q (fun i a s1 => s1 = s ∧ a.2.2 = nI i ∧ (a.1, a.2.1) = itr i (sCh1 C st none (gS 207 s) p) (-1, 0)) (by omega) ⟨rfl, rfl, rfl⟩ ?_ ?_
    · rintro i ⟨best, most, c⟩ s1 g hi ⟨rfl, h0, h1⟩
      left
      dsimp only at h0 h1
      subst h0
      rw [itrS, ← h1]
      obtain ⟨_, _, e3, e4, e5, e6, e7, e8, e9, e10⟩ := id hc
      have e10' : s1.1 9 (p * 6 + i) = C (73 + 6 * p + i) := by rw [e10 _ (by omega)]; congr 1; omega
      have hnQ : ¬ Q ≤ i := by omega
      unfold f_Mill_chosen_B21 sCh1 f_Smithy_weight sWorth
      by_cases c1 : bt st i = true
      · simp (disch := omega) only [zgi, zgl, zwi, zwf, zjn, zj0, zcl_s, zcv_s, zrd_n, zrl_n, zix_n, zwa_n, zwl_n, zI1, zI2, zL1, zL2, zR1, zR2, updE, updLE, zbl_0, zbl_1, nI_1, nI_add, nI_mulR, nI_leI, nI_ltI, nI_0le, nI_lt0, bvE, ↓reduceIte, Nat.reduceEqDiff, Nat.reduceLT, Nat.reduceAdd, Nat.reduceMul, reduceCtorEq, e4, hst, bv_0, c1, hnQ, not_false_eq_true, Bool.true_eq_false]
        exact ⟨_, _, rfl, rfl, rfl, rfl⟩
      · by_cases c2 : (C (67 + i) + C (73 + 6 * p + i)).toInt64 ≤ most
        · simp (disch := omega) only [zgi, zgl, zwi, zwf, zjn, zj0, zcl_s, zcv_s, zrd_n, zrl_n, zix_n, zwa_n, zwl_n, zI1, zI2, zL1, zL2, zR1, zR2, updE, updLE, zbl_0, zbl_1, nI_1, nI_add, nI_mulR, nI_leI, nI_ltI, nI_0le, nI_lt0, bvE, ↓reduceIte, Nat.reduceEqDiff, Nat.reduceLT, Nat.reduceAdd, Nat.reduceMul, reduceCtorEq, l6, e4, hst, bv_0, c1, hnQ, Bool.not_eq_true, not_true_eq_false, e9 i hi, e10', hn, znr_n, lg_le0, c2]
          exact ⟨_, _, rfl, rfl, rfl, rfl⟩
        · simp (disch := omega) only [zgi, zgl, zwi, zwf, zjn, zj0, zcl_s, zcv_s, zrd_n, zrl_n, zix_n, zwa_n, zwl_n, zI1, zI2, zL1, zL2, zR1, zR2, updE, updLE, zbl_0, zbl_1, nI_1, nI_add, nI_mulR, nI_leI, nI_ltI, nI_0le, nI_lt0, bvE, ↓reduceIte, Nat.reduceEqDiff, Nat.reduceLT, Nat.reduceAdd, Nat.reduceMul, reduceCtorEq, l6, e4, hst, bv_0, c1, hnQ, Bool.not_eq_true, not_true_eq_false, e9 i hi, e10', hn, znr_n, lg_le0, c2]
          exact ⟨_, _, rfl, rfl, rfl, rfl⟩
    · rintro ⟨best, most, c⟩ s1 g ⟨rfl, h0, h1⟩
      dsimp only at h0 h1
      subst h0
      unfold f_Mill_chosen_B21
      simp (disch := omega) only [zgi, zgl, zwi, zwf, zjn, zj0, zcl_s, zcv_s, zrd_n, zrl_n, zix_n, zwa_n, zwl_n, zI1, zI2, zL1, zL2, zR1, zR2, updE, updLE, zbl_0, zbl_1, nI_1, nI_add, nI_mulR, nI_leI, nI_ltI, nI_0le, nI_lt0, bvE, ↓reduceIte, Nat.reduceEqDiff, Nat.reduceLT, Nat.reduceAdd, Nat.reduceMul, reduceCtorEq, hc.2.2.2.1, Nat.le_refl]
      exact rt_s ⟨by rw [← h1], frm.rf⟩
  · simp only [zgi, zj0, hn, znr_j hj]
    refine rt_cv (cl_tellPair207 hc hz hp) ?_
    rintro s0 ⟨f0, w0⟩
    have g0 : gS 207 s0 = gS 207 s := gS207_f f0 (fun b hb hb2 => by omega)
    rw [← g0] at w0 ⊢
    refine lp_rt Q (fun i a s1 => frm (fun b => b = 203 ∨ b = 204) s s1 ∧ a.2.2 = nI i ∧ (a.1, a.2.1) = itr i (sCh1 C st (some f) (gS 207 s0) p) (-1, 0) ∧ ∀ q k, k = 0 ∨ k = 2 ∨ k = 3 ∨ k = 7 ∨ k = 8 ∨ k = 9 ∨ k = 10 → s1.2 203 k = sWords C (gS 207 s0) p q k) (by omega) ⟨f0.sub (fun b hb => Or.inl hb), rfl, rfl, w0⟩ ?_ ?_
    · rintro i ⟨best, most, c⟩ s1 g hi ⟨f1, h0, h1, w1⟩
      left
      dsimp only at h0 h1
      subst h0
      rw [itrS, ← h1]
      have g1 : gS 207 s1 = gS 207 s0 := (gS207_f f1 (fun b hb hb2 => by omega)).trans g0.symm
      have c1' := hc.f f1 (fun b hb hb2 => by omega)
      obtain ⟨_, _, e3, e4, e5, e6, e7, e8, e9, e10⟩ := id c1'
      have e10' : s1.1 9 (p * 6 + i) = C (73 + 6 * p + i) := by rw [e10 _ (by omega)]; congr 1; omega
      have hnQ : ¬ Q ≤ i := by omega
      have hst1 : s1.1 202 6 = st := by rw [f1.1 202 (by omega)]; exact hst
      have hn1 : s1.1 202 5 = nI j := by rw [f1.1 202 (by omega)]; exact hn
      unfold f_Mill_chosen_B21 sCh1 f_Smithy_weight
      by_cases c1 : bt st i = true
      · simp (disch := omega) only [zgi, zgl, zwi, zwf, zjn, zj0, zcl_s, zcv_s, zrd_n, zrl_n, zix_n, zwa_n, zwl_n, zI1, zI2, zL1, zL2, zR1, zR2, updE, updLE, zbl_0, zbl_1, nI_1, nI_add, nI_mulR, nI_leI, nI_ltI, nI_0le, nI_lt0, bvE, ↓reduceIte, Nat.reduceEqDiff, Nat.reduceLT, Nat.reduceAdd, Nat.reduceMul, reduceCtorEq, e4, hst1, bv_0, c1, hnQ, not_false_eq_true, Bool.true_eq_false]
        exact ⟨_, _, rfl, f1, rfl, rfl, w1⟩
      · rw [← g1] at w1
        obtain ⟨s2, r2, f2, w2⟩ := cl_tellSaying207 c1' hp hi w1
        have hn2 : s2.1 202 5 = nI j := by rw [f2.1 202 (by omega)]; exact hn1
        obtain ⟨⟨v3, s3⟩, r3, v3e, f3⟩ := hf s2 (sWords C (gS 207 s1) p i) ⟨by rw [f2.1 _ (by omega), f1.1 _ (by omega)], by rw [f2.1 _ (by omega), f1.1 _ (by omega)]⟩ w2
        dsimp only at v3e f3
        have f4 : frm (fun b => b = 203 ∨ b = 204) s s3 := f1.tr ((f2.sub (fun b hb => Or.inl hb)).tr (f3.sub (fun b hb => Or.inr hb)))
        have w3 : ∀ q k, k = 0 ∨ k = 2 ∨ k = 3 ∨ k = 7 ∨ k = 8 ∨ k = 9 ∨ k = 10 → s3.2 203 k = sWords C (gS 207 s0) p q k := by
          intro q k hk
          rw [f3.2 203 (by omega), w2 k (by omega), g1]
          exact sWords_q hk
        have sw : sWorth C (some f) (gS 207 s0) p i = v3 := by rw [v3e, g1]; rfl
        rw [sw]
        by_cases c2 : v3 ≤ most
        · simp (disch := omega) only [zgi, zgl, zwi, zwf, zjn, zj0, zcl_s, zcv_s, zrd_n, zrl_n, zix_n, zwa_n, zwl_n, zI1, zI2, zL1, zL2, zR1, zR2, updE, updLE, zbl_0, zbl_1, nI_1, nI_add, nI_mulR, nI_leI, nI_ltI, nI_0le, nI_lt0, bvE, ↓reduceIte, Nat.reduceEqDiff, Nat.reduceLT, Nat.reduceAdd, Nat.reduceMul, reduceCtorEq, l6, e4, hst1, bv_0, c1, hnQ, Bool.not_eq_true, not_true_eq_false, e9 i hi, e10', hn1, znr_j, hn2, r2, r3, lg_le0, c2]
          exact ⟨_, _, rfl, f4, rfl, rfl, w3⟩
        · simp (disch := omega) only [zgi, zgl, zwi, zwf, zjn, zj0, zcl_s, zcv_s, zrd_n, zrl_n, zix_n, zwa_n, zwl_n, zI1, zI2, zL1, zL2, zR1, zR2, updE, updLE, zbl_0, zbl_1, nI_1, nI_add, nI_mulR, nI_leI, nI_ltI, nI_0le, nI_lt0, bvE, ↓reduceIte, Nat.reduceEqDiff, Nat.reduceLT, Nat.reduceAdd, Nat.reduceMul, reduceCtorEq, l6, e4, hst1, bv_0, c1, hnQ, Bool.not_eq_true, not_true_eq_false, e9 i hi, e10', hn1, znr_j, hn2, r2, r3, lg_le0, c2]
          exact ⟨_, _, rfl, f4, rfl, rfl, w3⟩
    · rintro ⟨best, most, c⟩ s1 g ⟨f1, h0, h1, w1⟩
      dsimp only at h0 h1
      subst h0
      have c1' := hc.f f1 (fun b hb hb2 => by omega)
      unfold f_Mill_chosen_B21
      simp (disch := omega) only [zgi, zgl, zwi, zwf, zjn, zj0, zcl_s, zcv_s, zrd_n, zrl_n, zix_n, zwa_n, zwl_n, zI1, zI2, zL1, zL2, zR1, zR2, updE, updLE, zbl_0, zbl_1, nI_1, nI_add, nI_mulR, nI_leI, nI_ltI, nI_0le, nI_lt0, bvE, ↓reduceIte, Nat.reduceEqDiff, Nat.reduceLT, Nat.reduceAdd, Nat.reduceMul, reduceCtorEq, c1'.2.2.2.1, Nat.le_refl]
      exact rt_s ⟨by rw [← h1], f1⟩
theorem cl_passDay207 {P Q : Nat} {C : Nat → Int32} {st hm : Int32} {rl : ZRl} {s : ZS} (hc : cC P Q C s) (hK : cK P C) (hz : zW P (gS 207 s).2.1) (hst : s.1 202 6 = st) (hh : s.1 202 7 = hm) (hh2 : hm = -1 ∨ ∃ j, j < 5 ∧ hm = nI j) (hr : hC rl s) :
    rt (f_Mill_passDay 207 s) (fun w => (gS 207 w.2, w.1, w.2.1 205) = sDay P Q C st hm rl (gS 207 s) (s.1 205) ∧ frm (fun b => 203 ≤ b ∧ b ≤ 205 ∨ 207 ≤ b ∧ b ≤ 211) s w.2) := by
  have hP := hc.1
  have hQ := hc.2.1
  unfold f_Mill_passDay sDay
  simp only [zjn]
  refine lp_rt P (fun i a s1 => a.2 = nI i ∧ (gS 207 s1, a.1, s1.1 205) = itr i (sDay1 P Q C st hm rl) (gS 207 s, 0, s.1 205) ∧ frm (fun b => 203 ≤ b ∧ b ≤ 205 ∨ 207 ≤ b ∧ b ≤ 211) s s1) (by omega) ⟨rfl, rfl, frm.rf⟩ ?_ ?_
  · rintro i ⟨r, c⟩ s1 g hi ⟨h0, h1, h3⟩
    left
    dsimp only at h0 h1
    subst h0
    have hz1 : zW P (gS 207 s1).2.1 := by
      have := zW_day1 (Q := Q) (st := st) (hm := hm) (rl := rl) (RS := s.1 205) hK hz i (by omega)
      rw [← h1] at this; exact this
    rw [itrS, ← h1]
    have c1' := hc.f h3 (fun b hb hb2 => by omega)
    obtain ⟨_, _, e3, e4, e5, e6, e7, e8, e9, e10⟩ := id c1'
    have hst1 : s1.1 202 6 = st := by rw [h3.1 202 (by omega)]; exact hst
    have hh1 : s1.1 202 7 = hm := by rw [h3.1 202 (by omega)]; exact hh
    have hr1 : hC rl s1 := hr.f h3 (fun b hb => by omega)
    have hnP : ¬ P ≤ i := by omega
    unfold f_Mill_passDay_B4 sDay1
    dsimp only
    by_cases k1 : (gS 207 s1).2.1 i = 0
    · by_cases k2 : nI i = hm
      · subst k2
        simp (disch := omega) only [zgi, zgl, zwi, zwf, zjn, zj0, zcl_s, zcv_s, zrd_n, zrl_n, zix_n, zwa_n, zwl_n, zI1, zI2, zL1, zL2, zR1, zR2, updE, updLE, zbl_0, zbl_1, nI_1, nI_add, nI_mulR, nI_leI, nI_ltI, nI_0le, nI_lt0, bvE, ↓reduceIte, Nat.reduceEqDiff, Nat.reduceLT, Nat.reduceAdd, Nat.reduceMul, reduceCtorEq, e3, hnP, rW207, k1, not_true_eq_false, hh1, and_false]
        exact ⟨_, _, rfl, rfl, rfl, h3⟩
      · obtain ⟨⟨q, s2⟩, r2, q2, f2⟩ := cl_chosen207 c1' hz1 hst1 hr1 hi
        dsimp only at q2 f2
        have g2 : gS 207 s2 = gS 207 s1 := gS207_f f2 (fun b hb hb2 => by omega)
        have f2' : frm (fun b => 203 ≤ b ∧ b ≤ 205 ∨ 207 ≤ b ∧ b ≤ 211) s s2 := h3.tr (f2.sub (fun b hb => by omega))
        rw [← q2]
        rcases sCh_r (C := C) (st := st) (rl := rl) (z := gS 207 s1) (p := i) Q with hq | ⟨q', hq1, hq⟩
        · rw [← q2] at hq
          subst hq
          simp (disch := omega) only [zgi, zgl, zwi, zwf, zjn, zj0, zcl_s, zcv_s, zrd_n, zrl_n, zix_n, zwa_n, zwl_n, zI1, zI2, zL1, zL2, zR1, zR2, updE, updLE, zbl_0, zbl_1, nI_1, nI_add, nI_mulR, nI_leI, nI_ltI, nI_0le, nI_lt0, bvE, ↓reduceIte, Nat.reduceEqDiff, Nat.reduceLT, Nat.reduceAdd, Nat.reduceMul, reduceCtorEq, e3, hnP, rW207, k1, not_true_eq_false, hh1, k2, r2, not_false_eq_true, and_self]
          exact ⟨_, _, rfl, rfl, by rw [g2, f2.1 205 (by omega)], f2'⟩
        · rw [← q2] at hq
          subst hq
          have hz2 : zW P (gS 207 s2).2.1 := by rw [g2]; exact hz1
          have hh2' : s2.1 202 7 = hm := by rw [f2.1 202 (by omega)]; exact hh1
          obtain ⟨⟨v3, s3⟩, r3, g3, f3⟩ := cl_utter207 (c1'.f f2 (fun b hb hb2 => by omega)) hz2 hh2' hh2 hi hq1
          dsimp only at g3 f3
          rw [g2, f2.1 205 (by omega)] at g3
          simp (disch := omega) only [zgi, zgl, zwi, zwf, zjn, zj0, zcl_s, zcv_s, zrd_n, zrl_n, zix_n, zwa_n, zwl_n, zI1, zI2, zL1, zL2, zR1, zR2, updE, updLE, zbl_0, zbl_1, nI_1, nI_add, nI_mulR, nI_leI, nI_ltI, nI_0le, nI_lt0, bvE, ↓reduceIte, Nat.reduceEqDiff, Nat.reduceLT, Nat.reduceAdd, Nat.reduceMul, reduceCtorEq, e3, hnP, rW207, k1, not_true_eq_false, hh1, k2, r2, not_false_eq_true, and_self, nI_n1, r3]
          refine ⟨_, _, rfl, rfl, ?_, f2'.tr (f3.sub (fun b hb => by omega))⟩
          rw [nI_clamp (by omega), ← g3]
    · simp (disch := omega) only [zgi, zgl, zwi, zwf, zjn, zj0, zcl_s, zcv_s, zrd_n, zrl_n, zix_n, zwa_n, zwl_n, zI1, zI2, zL1, zL2, zR1, zR2, updE, updLE, zbl_0, zbl_1, nI_1, nI_add, nI_mulR, nI_leI, nI_ltI, nI_0le, nI_lt0, bvE, ↓reduceIte, Nat.reduceEqDiff, Nat.reduceLT, Nat.reduceAdd, Nat.reduceMul, reduceCtorEq, e3, hnP, rW207, k1, not_false_eq_true, false_and]
      exact ⟨_, _, rfl, rfl, rfl, h3⟩
  · rintro ⟨r, c⟩ s1 g ⟨h0, h1, h3⟩
    dsimp only at h0 h1
    subst h0
    have hz1 : zW P (gS 207 s1).2.1 := by
      have := zW_day1 (Q := Q) (st := st) (hm := hm) (rl := rl) (RS := s.1 205) hK hz P (Nat.le_refl _)
      rw [← h1] at this; exact this
    rw [← h1]
    have c1' := hc.f h3 (fun b hb hb2 => by omega)
    obtain ⟨_, _, e3, e4, e5, e6, e7, e8, e9, e10⟩ := id c1'
    unfold f_Mill_passDay_B4
    have key : ∀ wv : Int32, (wv = 0 ∧ s9 (gS 207 s1).2.2.2.2.1 = false ∨ wv = 1 ∧ s9 (gS 207 s1).2.2.2.2.1 = true) → rt (zlp zN (f_Mill_passDay_B84 207 wv (fun (s9 : ZS) => zgi (s9.1 207 0) (fun (v11 : Int32) => zwi s9 207 0 ((v11 + (1 : Int32))) (fun (s12 : ZS) => some (r, s12))))) (0 : Int32) s1) (fun w => (gS 207 w.2, w.1, w.2.1 205) = (sEnd P C (gS 207 s1), r, s1.1 205) ∧ frm (fun b => 203 ≤ b ∧ b ≤ 205 ∨ 207 ≤ b ∧ b ≤ 211) s w.2) := by
      intro wv hwv
      refine lp_rt P (fun i a s2 => a = nI i ∧ gS 207 s2 = (itr i sCool (gS 207 s1).1, itr i (sWear C (s9 (gS 207 s1).2.2.2.2.1)) (gS 207 s1).2) ∧ frm (fun b => 208 ≤ b ∧ b ≤ 210) s1 s2) (by omega) ⟨rfl, rfl, frm.rf⟩ ?_ ?_
      · rintro i c s2 g hi ⟨rfl, k1, k3⟩
        left
        have hz2 : zW P (gS 207 s2).2.1 := by
          rw [k1]; exact zW_wear hz1 i (by omega)
        rw [itrS, itrS]
        have hT : itr i sCool (gS 207 s1).1 = (gS 207 s2).1 := by rw [k1]
        have hU : itr i (sWear C (s9 (gS 207 s1).2.2.2.2.1)) (gS 207 s1).2 = (gS 207 s2).2 := by rw [k1]
        rw [hT, hU]
        obtain ⟨_, _, e3, e4, e5, e6, e7, e8, e9, e10⟩ := c1'.f k3 (fun b hb hb2 => by omega)
        have hnP : ¬ P ≤ i := by omega
        unfold f_Mill_passDay_B84 sCool sWear f_Mill_wearBand
        by_cases t1 : (gS 207 s2).1 i ≤ 0
        · rcases hwv with ⟨rfl, hw⟩ | ⟨rfl, hw⟩
          · simp (disch := omega) only [zgi, zgl, zwi, zwf, zjn, zj0, zcl_s, zcv_s, zrd_n, zrl_n, zix_n, zwa_n, zwl_n, zI1, zI2, zL1, zL2, zR1, zR2, updE, updLE, zbl_0, zbl_1, nI_1, nI_add, nI_mulR, nI_leI, nI_ltI, nI_0le, nI_lt0, bvE, ↓reduceIte, Nat.reduceEqDiff, Nat.reduceLT, Nat.reduceAdd, Nat.reduceMul, reduceCtorEq, e3, hnP, rT207, rW207, t1, hw, Bool.false_eq_true, false_and]
            exact ⟨_, _, rfl, rfl, rfl, k3⟩
          · by_cases w1 : (gS 207 s2).2.1 i = 0
            · simp (disch := omega) only [zgi, zgl, zwi, zwf, zjn, zj0, zcl_s, zcv_s, zrd_n, zrl_n, zix_n, zwa_n, zwl_n, zI1, zI2, zL1, zL2, zR1, zR2, updE, updLE, zbl_0, zbl_1, nI_1, nI_add, nI_mulR, nI_leI, nI_ltI, nI_0le, nI_lt0, bvE, ↓reduceIte, Nat.reduceEqDiff, Nat.reduceLT, Nat.reduceAdd, Nat.reduceMul, reduceCtorEq, e3, hnP, rT207, rW207, t1, hw, hz2.pos (show i < 5 by omega), w1, not_true_eq_false, and_false, i10]
              exact ⟨_, _, rfl, rfl, rfl, k3⟩
            · by_cases w2 : (gS 207 s2).2.1 i - C 2 ≤ 0
              · simp (disch := omega) only [zgi, zgl, zwi, zwf, zjn, zj0, zcl_s, zcv_s, zrd_n, zrl_n, zix_n, zwa_n, zwl_n, zI1, zI2, zL1, zL2, zR1, zR2, updE, updLE, zbl_0, zbl_1, nI_1, nI_add, nI_mulR, nI_leI, nI_ltI, nI_0le, nI_lt0, bvE, ↓reduceIte, Nat.reduceEqDiff, Nat.reduceLT, Nat.reduceAdd, Nat.reduceMul, reduceCtorEq, e3, e6, hnP, rT207, rW207, t1, hw, hz2.pos (show i < 5 by omega), w1, not_true_eq_false, not_false_eq_true, and_self, i10, Int32.not_lt.mpr w2, w2, gS207_W, gS207_Z, eq_self]
                refine ⟨_, _, rfl, rfl, ?_, (k3.I (by omega)).I (by omega)⟩
                simp (disch := omega) only [gS207_W, gS207_Z]
              · have w3 : ¬ (gS 207 s2).2.1 i - C 2 = 0 := fun e => w2 (by rw [e]; exact Int32.le_refl _)
                simp (disch := omega) only [zgi, zgl, zwi, zwf, zjn, zj0, zcl_s, zcv_s, zrd_n, zrl_n, zix_n, zwa_n, zwl_n, zI1, zI2, zL1, zL2, zR1, zR2, updE, updLE, zbl_0, zbl_1, nI_1, nI_add, nI_mulR, nI_leI, nI_ltI, nI_0le, nI_lt0, bvE, ↓reduceIte, Nat.reduceEqDiff, Nat.reduceLT, Nat.reduceAdd, Nat.reduceMul, reduceCtorEq, e3, e6, hnP, rT207, rW207, t1, hw, hz2.pos (show i < 5 by omega), w1, w3, not_true_eq_false, not_false_eq_true, and_self, i10, Int32.not_le.mp w2, w2, gS207_W, gS207_Z, eq_self]
                refine ⟨_, _, rfl, rfl, ?_, (k3.I (by omega))⟩
                simp (disch := omega) only [gS207_W, gS207_Z]
        · rcases hwv with ⟨rfl, hw⟩ | ⟨rfl, hw⟩
          · simp (disch := omega) only [zgi, zgl, zwi, zwf, zjn, zj0, zcl_s, zcv_s, zrd_n, zrl_n, zix_n, zwa_n, zwl_n, zI1, zI2, zL1, zL2, zR1, zR2, updE, updLE, zbl_0, zbl_1, nI_1, nI_add, nI_mulR, nI_leI, nI_ltI, nI_0le, nI_lt0, bvE, ↓reduceIte, Nat.reduceEqDiff, Nat.reduceLT, Nat.reduceAdd, Nat.reduceMul, reduceCtorEq, e3, hnP, rT207, rW207, t1, hw, Bool.false_eq_true, false_and]
            refine ⟨_, _, rfl, rfl, ?_, (k3.I (by omega))⟩
            simp (disch := omega) only [gS207_T]
          · by_cases w1 : (gS 207 s2).2.1 i = 0
            · simp (disch := omega) only [zgi, zgl, zwi, zwf, zjn, zj0, zcl_s, zcv_s, zrd_n, zrl_n, zix_n, zwa_n, zwl_n, zI1, zI2, zL1, zL2, zR1, zR2, updE, updLE, zbl_0, zbl_1, nI_1, nI_add, nI_mulR, nI_leI, nI_ltI, nI_0le, nI_lt0, bvE, ↓reduceIte, Nat.reduceEqDiff, Nat.reduceLT, Nat.reduceAdd, Nat.reduceMul, reduceCtorEq, e3, hnP, rT207, rW207, t1, hw, hz2.pos (show i < 5 by omega), w1, not_true_eq_false, and_false, i10]
              refine ⟨_, _, rfl, rfl, ?_, (k3.I (by omega))⟩
              simp (disch := omega) only [gS207_T]
            · by_cases w2 : (gS 207 s2).2.1 i - C 2 ≤ 0
              · simp (disch := omega) only [zgi, zgl, zwi, zwf, zjn, zj0, zcl_s, zcv_s, zrd_n, zrl_n, zix_n, zwa_n, zwl_n, zI1, zI2, zL1, zL2, zR1, zR2, updE, updLE, zbl_0, zbl_1, nI_1, nI_add, nI_mulR, nI_leI, nI_ltI, nI_0le, nI_lt0, bvE, ↓reduceIte, Nat.reduceEqDiff, Nat.reduceLT, Nat.reduceAdd, Nat.reduceMul, reduceCtorEq, e3, e6, hnP, rT207, rW207, t1, hw, hz2.pos (show i < 5 by omega), w1, not_true_eq_false, not_false_eq_true, and_self, i10, Int32.not_lt.mpr w2, w2, gS207_W, gS207_Z, eq_self]
                refine ⟨_, _, rfl, rfl, ?_, ((k3.I (by omega)).I (by omega)).I (by omega)⟩
                simp (disch := omega) only [gS207_T, gS207_W, gS207_Z]
              · have w3 : ¬ (gS 207 s2).2.1 i - C 2 = 0 := fun e => w2 (by rw [e]; exact Int32.le_refl _)
                simp (disch := omega) only [zgi, zgl, zwi, zwf, zjn, zj0, zcl_s, zcv_s, zrd_n, zrl_n, zix_n, zwa_n, zwl_n, zI1, zI2, zL1, zL2, zR1, zR2, updE, updLE, zbl_0, zbl_1, nI_1, nI_add, nI_mulR, nI_leI, nI_ltI, nI_0le, nI_lt0, bvE, ↓reduceIte, Nat.reduceEqDiff, Nat.reduceLT, Nat.reduceAdd, Nat.reduceMul, reduceCtorEq, e3, e6, hnP, rT207, rW207, t1, hw, hz2.pos (show i < 5 by omega), w1, w3, not_true_eq_false, not_false_eq_true, and_self, i10, Int32.not_le.mp w2, w2, gS207_W, gS207_Z, eq_self]
                refine ⟨_, _, rfl, rfl, ?_, (k3.I (by omega)).I (by omega)⟩
                simp (disch := omega) only [gS207_T, gS207_W, gS207_Z]
      · rintro c s2 g ⟨rfl, k1, k3⟩
        obtain ⟨_, _, e3, e4, e5, e6, e7, e8, e9, e10⟩ := c1'.f k3 (fun b hb hb2 => by omega)
        unfold f_Mill_passDay_B84
        simp (disch := omega) only [zgi, zgl, zwi, zwf, zjn, zj0, zcl_s, zcv_s, zrd_n, zrl_n, zix_n, zwa_n, zwl_n, zI1, zI2, zL1, zL2, zR1, zR2, updE, updLE, zbl_0, zbl_1, nI_1, nI_add, nI_mulR, nI_leI, nI_ltI, nI_0le, nI_lt0, bvE, ↓reduceIte, Nat.reduceEqDiff, Nat.reduceLT, Nat.reduceAdd, Nat.reduceMul, reduceCtorEq, e3, Nat.le_refl]
        refine rt_s ⟨?_, (h3.tr (k3.sub (fun b hb => by omega))).I (by omega)⟩
        simp (disch := omega) only [gS207_D, rD207, zI1, ↓reduceIte, Nat.reduceEqDiff]
        rw [k3.1 205 (by omega), k1]
        rfl
    by_cases k9 : (gS 207 s1).2.2.2.2.1 - (gS 207 s1).2.2.2.2.1 / 10 * 10 = 9
    · simp (disch := omega) only [zgi, zgl, zwi, zwf, zjn, zj0, zcl_s, zcv_s, zrd_n, zrl_n, zix_n, zwa_n, zwl_n, zI1, zI2, zL1, zL2, zR1, zR2, updE, updLE, zbl_0, zbl_1, nI_1, nI_add, nI_mulR, nI_leI, nI_ltI, nI_0le, nI_lt0, bvE, ↓reduceIte, Nat.reduceEqDiff, Nat.reduceLT, Nat.reduceAdd, Nat.reduceMul, reduceCtorEq, e3, Nat.le_refl, rD207, k9, not_true_eq_false]
      exact key 1 (Or.inr ⟨rfl, by unfold s9; simp [k9]⟩)
    · simp (disch := omega) only [zgi, zgl, zwi, zwf, zjn, zj0, zcl_s, zcv_s, zrd_n, zrl_n, zix_n, zwa_n, zwl_n, zI1, zI2, zL1, zL2, zR1, zR2, updE, updLE, zbl_0, zbl_1, nI_1, nI_add, nI_mulR, nI_leI, nI_ltI, nI_0le, nI_lt0, bvE, ↓reduceIte, Nat.reduceEqDiff, Nat.reduceLT, Nat.reduceAdd, Nat.reduceMul, reduceCtorEq, e3, Nat.le_refl, rD207, k9, not_false_eq_true]
      exact key 0 (Or.inl ⟨rfl, by unfold s9; simp [k9]⟩)
