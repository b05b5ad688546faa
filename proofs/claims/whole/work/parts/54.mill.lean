theorem cl_banded10 {P : Nat} {s : ZS} (hz : zW P (gS 10 s).2.1) : f_State_banded 10 s = some (sBnd (gS 10 s).2.1 5, s) := by
  unfold f_State_banded sBnd
  have : rt (zlp zN (f_State_banded_B4 10) ((0 : Int32), (0 : Int32)) s) (fun w => w = (itr 5 (fun p r => if (gS 10 s).2.1 p = 0 then r else r ||| ((1 : Int32) <<< (nI p &&& 31))) 0, s)) := by
    refine lp_rt 5 (fun i a s1 => s1 = s ∧ a.2 = nI i ∧ a.1 = itr i (fun p r => if (gS 10 s).2.1 p = 0 then r else r ||| ((1 : Int32) <<< (nI p &&& 31))) 0) (by omega) ⟨rfl, rfl, rfl⟩ ?_ ?_
    · rintro i ⟨r, c⟩ s1 g hi ⟨rfl, h0, h1⟩
      left
      dsimp only at h0 h1
      subst h0
      rw [itrS, ← h1]
      have hn : ¬ 5 ≤ i := by omega
      unfold f_State_banded_B4
      by_cases c1 : (gS 10 s1).2.1 i = 0
      · simp (disch := omega) only [zgi, zgl, zwi, zwf, zjn, zj0, zcl_s, zcv_s, zrd_n, zrl_n, zix_n, zwa_n, zwl_n, zI1, zI2, zL1, zL2, zR1, zR2, updE, updLE, zbl_0, zbl_1, nI_1, nI_add, nI_mulR, nI_leI, nI_ltI, nI_0le, nI_lt0, bvE, ↓reduceIte, Nat.reduceEqDiff, Nat.reduceLT, Nat.reduceAdd, Nat.reduceMul, reduceCtorEq, l2, l3, l4, l5, l6, l7, l8, l9, l10, l11, l12, l13, l14, l15, l16, l17, l18, l19, l20, l21, l22, l23, l24, l25, l26, l27, l28, l29, l30, l57, l62, l67, l73, l103, l108, l138, hn, rW10, hz.pos hi, c1]
        exact ⟨_, _, rfl, rfl, rfl, rfl⟩
      · simp (disch := omega) only [zgi, zgl, zwi, zwf, zjn, zj0, zcl_s, zcv_s, zrd_n, zrl_n, zix_n, zwa_n, zwl_n, zI1, zI2, zL1, zL2, zR1, zR2, updE, updLE, zbl_0, zbl_1, nI_1, nI_add, nI_mulR, nI_leI, nI_ltI, nI_0le, nI_lt0, bvE, ↓reduceIte, Nat.reduceEqDiff, Nat.reduceLT, Nat.reduceAdd, Nat.reduceMul, reduceCtorEq, l2, l3, l4, l5, l6, l7, l8, l9, l10, l11, l12, l13, l14, l15, l16, l17, l18, l19, l20, l21, l22, l23, l24, l25, l26, l27, l28, l29, l30, l57, l62, l67, l73, l103, l108, l138, hn, rW10, hz.pos hi, c1]
        exact ⟨_, _, rfl, rfl, rfl, rfl⟩
    · rintro ⟨r, c⟩ s1 g ⟨rfl, h0, h1⟩
      dsimp only at h0 h1
      subst h0
      unfold f_State_banded_B4
      simp (disch := omega) only [zgi, zgl, zwi, zwf, zjn, zj0, zcl_s, zcv_s, zrd_n, zrl_n, zix_n, zwa_n, zwl_n, zI1, zI2, zL1, zL2, zR1, zR2, updE, updLE, zbl_0, zbl_1, nI_1, nI_add, nI_mulR, nI_leI, nI_ltI, nI_0le, nI_lt0, bvE, ↓reduceIte, Nat.reduceEqDiff, Nat.reduceLT, Nat.reduceAdd, Nat.reduceMul, reduceCtorEq, l2, l3, l4, l5, l6, l7, l8, l9, l10, l11, l12, l13, l14, l15, l16, l17, l18, l19, l20, l21, l22, l23, l24, l25, l26, l27, l28, l29, l30, l57, l62, l67, l73, l103, l108, l138, Nat.le_refl]
      exact rt_s (by rw [h1])
  obtain ⟨w, h1, h2⟩ := this
  rw [h1, h2]
theorem cl_anger10 {s : ZS} {p : Nat} {m : Int32} (hp : p < 5) : f_State_anger 10 (nI p) m s = some (zsI s 11 p (sAng ((gS 10 s).1 p) m)) := by
  unfold f_State_anger sAng
  simp (disch := omega) only [zgi, zgl, zwi, zwf, zjn, zj0, zcl_s, zcv_s, zrd_n, zrl_n, zix_n, zwa_n, zwl_n, zI1, zI2, zL1, zL2, zR1, zR2, updE, updLE, zbl_0, zbl_1, nI_1, nI_add, nI_mulR, nI_leI, nI_ltI, nI_0le, nI_lt0, bvE, ↓reduceIte, Nat.reduceEqDiff, Nat.reduceLT, Nat.reduceAdd, Nat.reduceMul, reduceCtorEq, rT10, angE]
theorem cl_hear10 {P Q : Nat} {C : Nat → Int32} {H : Nat → Bool} {hr : Int32} {q : Nat} {s : ZS} {k : ZS → Option (Int32 × ZS)} {R : Int32 × ZS → Prop} (hc : cC P Q C s) (hq : q < Q) (hB : ∀ p, p < P → bt hr p = H p)
    (hk : ∀ s', gS 10 s' = itr P (sHear (C (67 + q) / 2) H) (gS 10 s) → frm (fun b => b = 11) s s' → rt (k s') R) : rt (zlp zN (f_Mill_utter_B71 10 (nI q) hr k) (0 : Int32) s) R := by
  have hP := hc.1
  have hQ := hc.2.1
  refine lp_rt P (fun i a s1 => a = nI i ∧ gS 10 s1 = itr i (sHear (C (67 + q) / 2) H) (gS 10 s) ∧ frm (fun b => b = 11) s s1) (by omega) ⟨rfl, rfl, frm.rf⟩ ?_ ?_
  · rintro i c s1 g hi ⟨rfl, h1, h3⟩
    left
    obtain ⟨_, _, e3, e4, e5, e6, e7, e8, e9, e10⟩ := hc.f h3 (fun b hb hb2 => by omega)
    rw [itrS, ← h1]
    have hb := hB i hi
    have hnP : ¬ P ≤ i := by omega
    unfold f_Mill_utter_B71 sHear
    by_cases c1 : H i = true
    · simp (disch := omega) only [zgi, zgl, zwi, zwf, zjn, zj0, zcl_s, zcv_s, zrd_n, zrl_n, zix_n, zwa_n, zwl_n, zI1, zI2, zL1, zL2, zR1, zR2, updE, updLE, zbl_0, zbl_1, nI_1, nI_add, nI_mulR, nI_leI, nI_ltI, nI_0le, nI_lt0, bvE, ↓reduceIte, Nat.reduceEqDiff, Nat.reduceLT, Nat.reduceAdd, Nat.reduceMul, reduceCtorEq, e3, bv_0, hb, c1, hnP, e9 q hq, cl_anger10]
      refine ⟨_, _, rfl, rfl, ?_, h3.I rfl⟩
      simp (disch := omega) only [gS10_T]
    · simp (disch := omega) only [zgi, zgl, zwi, zwf, zjn, zj0, zcl_s, zcv_s, zrd_n, zrl_n, zix_n, zwa_n, zwl_n, zI1, zI2, zL1, zL2, zR1, zR2, updE, updLE, zbl_0, zbl_1, nI_1, nI_add, nI_mulR, nI_leI, nI_ltI, nI_0le, nI_lt0, bvE, ↓reduceIte, Nat.reduceEqDiff, Nat.reduceLT, Nat.reduceAdd, Nat.reduceMul, reduceCtorEq, e3, bv_0, hb, c1, hnP]
      exact ⟨_, _, rfl, rfl, rfl, h3⟩
  · rintro c s1 g ⟨rfl, h1, h3⟩
    obtain ⟨_, _, e3, e4, e5, e6, e7, e8, e9, e10⟩ := hc.f h3 (fun b hb hb2 => by omega)
    unfold f_Mill_utter_B71
    simp (disch := omega) only [zgi, zgl, zwi, zwf, zjn, zj0, zcl_s, zcv_s, zrd_n, zrl_n, zix_n, zwa_n, zwl_n, zI1, zI2, zL1, zL2, zR1, zR2, updE, updLE, zbl_0, zbl_1, nI_1, nI_add, nI_mulR, nI_leI, nI_ltI, nI_0le, nI_lt0, bvE, ↓reduceIte, Nat.reduceEqDiff, Nat.reduceLT, Nat.reduceAdd, Nat.reduceMul, reduceCtorEq, e3, Nat.le_refl]
    exact hk s1 h1 h3
theorem cl_utter10 {P Q : Nat} {C : Nat → Int32} {hm : Int32} {p q : Nat} {s : ZS} (hc : cC P Q C s) (hz : zW P (gS 10 s).2.1) (hh : s.1 202 7 = hm) (hh2 : hm = -1 ∨ ∃ j, j < 5 ∧ hm = nI j) (hp : p < P) (hq : q < Q) :
    rt (f_Mill_utter 10 (nI p) (nI q) s) (fun w => (gS 10 w.2, w.1, w.2.1 205) = sSay P C hm (gS 10 s) (s.1 205) p q ∧ frm (fun b => b = 205 ∨ 10 ≤ b ∧ b ≤ 14) s w.2) := by
  have hP := hc.1
  have hQ := hc.2.1
  obtain ⟨_, _, e3, e4, e5, e6, e7, e8, e9, e10⟩ := id hc
  have e10' : s.1 9 (p * 6 + q) = C (73 + 6 * p + q) := by rw [e10 _ (by omega)]; congr 1; omega
  have hpq : p * 6 + q < 30 := by omega
  unfold f_Mill_utter f_Smithy_weight
  simp (disch := omega) only [zgi, zgl, zwi, zwf, zjn, zj0, zcl_s, zcv_s, zrd_n, zrl_n, zix_n, zwa_n, zwl_n, zI1, zI2, zL1, zL2, zR1, zR2, updE, updLE, zbl_0, zbl_1, nI_1, nI_add, nI_mulR, nI_leI, nI_ltI, nI_0le, nI_lt0, bvE, ↓reduceIte, Nat.reduceEqDiff, Nat.reduceLT, Nat.reduceAdd, Nat.reduceMul, reduceCtorEq, l6, e9 q hq, e10', cl_anger10, e8 p (by omega)]
  generalize hs1 : zsI (zsI s 11 p (sAng ((gS 10 s).1 p) (C (67 + q) + C (73 + 6 * p + q)))) 14 (p * 6 + q) (s.1 14 (p * 6 + q) + 1) = s1
  have g1 : gS 10 s1 = sSay0 C (gS 10 s) p q := by
    rw [← hs1]
    simp (disch := omega) only [gS10_S, gS10_T, rS10]
    unfold sSay0
    rw [show p * 6 + q = 6 * p + q by omega]
  have f1 : frm (fun b => b = 205 ∨ 10 ≤ b ∧ b ≤ 14) s s1 := by rw [← hs1]; exact (frm.rf.I (by omega)).I (by omega)
  have hz1 : zW P (gS 10 s1).2.1 := by rw [g1]; exact hz
  have c1 := hc.f f1 (fun b hb hb2 => by omega)
  have r1 : s1.1 205 = s.1 205 := by rw [← hs1]; rfl
  have h1 : s1.1 202 7 = hm := by rw [← hs1]; exact hh
  simp (disch := omega) only [cl_banded10 hz1, zgi, zgl, zwi, zwf, zjn, zj0, zcl_s, zcv_s, zrd_n, zrl_n, zix_n, zwa_n, zwl_n, zI1, zI2, zL1, zL2, zR1, zR2, updE, updLE, zbl_0, zbl_1, nI_1, nI_add, nI_mulR, nI_leI, nI_ltI, nI_0le, nI_lt0, bvE, ↓reduceIte, Nat.reduceEqDiff, Nat.reduceLT, Nat.reduceAdd, Nat.reduceMul, reduceCtorEq, h1]
  have key : ∀ hr : Int32, (∀ o, o < P → bt hr o = sH C hm p (gS 10 s).2.1 o) → rt (zlp zN (f_Mill_utter_B71 10 (nI q) hr (fun (s16 : ZS) => zcl (f_Mill_breakOut 10 ((hr ||| ((1 : Int32) <<< (nI p &&& (31 : Int32))))) s16) (fun (v19 : Int32) (s18 : ZS) => some (v19, s18)))) (0 : Int32) s1) (fun w => (gS 10 w.2, w.1, w.2.1 205) = sSay P C hm (gS 10 s) (s.1 205) p q ∧ frm (fun b => b = 205 ∨ 10 ≤ b ∧ b ≤ 14) s w.2) := by
    intro hr hB
    refine cl_hear10 c1 hq hB (fun s2 g2 f2 => ?_)
    refine rt_cl (cl_breakOut10 (B := fun o => sH C hm p (gS 10 s).2.1 o || decide (p = o)) (c1.f f2 (fun b hb hb2 => by omega)) (fun o ho => by rw [bt_or, hB o ho, bt_one (by omega) (by omega)])) ?_
    rintro v s3 ⟨g3, f3⟩
    refine rt_s ⟨?_, f1.tr ((f2.sub (fun b hb => by omega)).tr f3)⟩
    dsimp only at g3 ⊢
    rw [g3]
    unfold sSay
    rw [g2, g1, f2.1 205 (by omega), r1]
  have hbit : ∀ o, o < P → bt (C (103 + p) &&& (sBnd (gS 10 s1).2.1 5 ^^^ (-1))) o = (bt (C (103 + p)) o && decide ((gS 10 s).2.1 o = 0)) := by
    intro o ho
    rw [bt_and, bt_not _ (by omega), sBnd_bt _ _ _ (by omega) (by omega), g1]
    show (_ && !(_ && !decide ((gS 10 s).2.1 o = 0))) = _
    have : decide (o < 5) = true := decide_eq_true (by omega)
    rw [this]; simp
  rcases hh2 with rfl | ⟨j, hj, rfl⟩
  · simp only [↓reduceIte]
    refine key _ (fun o ho => ?_)
    rw [hbit o ho]
    unfold sH
    simp (disch := omega) only [nI_n1, decide_false, Bool.not_false, Bool.and_true]
  · simp (disch := omega) only [nI_n1, ↓reduceIte]
    refine key _ (fun o ho => ?_)
    rw [bt_and, hbit o ho, bt_not _ (by omega), bt_one (by omega) (by omega)]
    unfold sH
    simp (disch := omega) only [nI_inj]
    congr 2
    simp only [eq_comm]
theorem cl_banded207 {P : Nat} {s : ZS} (hz : zW P (gS 207 s).2.1) : f_State_banded 207 s = some (sBnd (gS 207 s).2.1 5, s) := by
  unfold f_State_banded sBnd
  have : rt (zlp zN (f_State_banded_B4 207) ((0 : Int32), (0 : Int32)) s) (fun w => w = (itr 5 (fun p r => if (gS 207 s).2.1 p = 0 then r else r ||| ((1 : Int32) <<< (nI p &&& 31))) 0, s)) := by
    refine lp_rt 5 (fun i a s1 => s1 = s ∧ a.2 = nI i ∧ a.1 = itr i (fun p r => if (gS 207 s).2.1 p = 0 then r else r ||| ((1 : Int32) <<< (nI p &&& 31))) 0) (by omega) ⟨rfl, rfl, rfl⟩ ?_ ?_
    · rintro i ⟨r, c⟩ s1 g hi ⟨rfl, h0, h1⟩
      left
      dsimp only at h0 h1
      subst h0
      rw [itrS, ← h1]
      have hn : ¬ 5 ≤ i := by omega
      unfold f_State_banded_B4
      by_cases c1 : (gS 207 s1).2.1 i = 0
      · simp (disch := omega) only [zgi, zgl, zwi, zwf, zjn, zj0, zcl_s, zcv_s, zrd_n, zrl_n, zix_n, zwa_n, zwl_n, zI1, zI2, zL1, zL2, zR1, zR2, updE, updLE, zbl_0, zbl_1, nI_1, nI_add, nI_mulR, nI_leI, nI_ltI, nI_0le, nI_lt0, bvE, ↓reduceIte, Nat.reduceEqDiff, Nat.reduceLT, Nat.reduceAdd, Nat.reduceMul, reduceCtorEq, l2, l3, l4, l5, l6, l7, l8, l9, l10, l11, l12, l13, l14, l15, l16, l17, l18, l19, l20, l21, l22, l23, l24, l25, l26, l27, l28, l29, l30, l57, l62, l67, l73, l103, l108, l138, hn, rW207, hz.pos hi, c1]
        exact ⟨_, _, rfl, rfl, rfl, rfl⟩
      · simp (disch := omega) only [zgi, zgl, zwi, zwf, zjn, zj0, zcl_s, zcv_s, zrd_n, zrl_n, zix_n, zwa_n, zwl_n, zI1, zI2, zL1, zL2, zR1, zR2, updE, updLE, zbl_0, zbl_1, nI_1, nI_add, nI_mulR, nI_leI, nI_ltI, nI_0le, nI_lt0, bvE, ↓reduceIte, Nat.reduceEqDiff, Nat.reduceLT, Nat.reduceAdd, Nat.reduceMul, reduceCtorEq, l2, l3, l4, l5, l6, l7, l8, l9, l10, l11, l12, l13, l14, l15, l16, l17, l18, l19, l20, l21, l22, l23, l24, l25, l26, l27, l28, l29, l30, l57, l62, l67, l73, l103, l108, l138, hn, rW207, hz.pos hi, c1]
        exact ⟨_, _, rfl, rfl, rfl, rfl⟩
    · rintro ⟨r, c⟩ s1 g ⟨rfl, h0, h1⟩
      dsimp only at h0 h1
      subst h0
      unfold f_State_banded_B4
      simp (disch := omega) only [zgi, zgl, zwi, zwf, zjn, zj0, zcl_s, zcv_s, zrd_n, zrl_n, zix_n, zwa_n, zwl_n, zI1, zI2, zL1, zL2, zR1, zR2, updE, updLE, zbl_0, zbl_1, nI_1, nI_add, nI_mulR, nI_leI, nI_ltI, nI_0le, nI_lt0, bvE, ↓reduceIte, Nat.reduceEqDiff, Nat.reduceLT, Nat.reduceAdd, Nat.reduceMul, reduceCtorEq, l2, l3, l4, l5, l6, l7, l8, l9, l10, l11, l12, l13, l14, l15, l16, l17, l18, l19, l20, l21, l22, l23, l24, l25, l26, l27, l28, l29, l30, l57, l62, l67, l73, l103, l108, l138, Nat.le_refl]
      exact rt_s (by rw [h1])
  obtain ⟨w, h1, h2⟩ := this
  rw [h1, h2]
theorem cl_anger207 {s : ZS} {p : Nat} {m : Int32} (hp : p < 5) : f_State_anger 207 (nI p) m s = some (zsI s 208 p (sAng ((gS 207 s).1 p) m)) := by
  unfold f_State_anger sAng
  simp (disch := omega) only [zgi, zgl, zwi, zwf, zjn, zj0, zcl_s, zcv_s, zrd_n, zrl_n, zix_n, zwa_n, zwl_n, zI1, zI2, zL1, zL2, zR1, zR2, updE, updLE, zbl_0, zbl_1, nI_1, nI_add, nI_mulR, nI_leI, nI_ltI, nI_0le, nI_lt0, bvE, ↓reduceIte, Nat.reduceEqDiff, Nat.reduceLT, Nat.reduceAdd, Nat.reduceMul, reduceCtorEq, rT207, angE]
theorem cl_hear207 {P Q : Nat} {C : Nat → Int32} {H : Nat → Bool} {hr : Int32} {q : Nat} {s : ZS} {k : ZS → Option (Int32 × ZS)} {R : Int32 × ZS → Prop} (hc : cC P Q C s) (hq : q < Q) (hB : ∀ p, p < P → bt hr p = H p)
    (hk : ∀ s', gS 207 s' = itr P (sHear (C (67 + q) / 2) H) (gS 207 s) → frm (fun b => b = 208) s s' → rt (k s') R) : rt (zlp zN (f_Mill_utter_B71 207 (nI q) hr k) (0 : Int32) s) R := by
  have hP := hc.1
  have hQ := hc.2.1
  refine lp_rt P (fun i a s1 => a = nI i ∧ gS 207 s1 = itr i (sHear (C (67 + q) / 2) H) (gS 207 s) ∧ frm (fun b => b = 208) s s1) (by omega) ⟨rfl, rfl, frm.rf⟩ ?_ ?_
  · rintro i c s1 g hi ⟨rfl, h1, h3⟩
    left
    obtain ⟨_, _, e3, e4, e5, e6, e7, e8, e9, e10⟩ := hc.f h3 (fun b hb hb2 => by omega)
    rw [itrS, ← h1]
    have hb := hB i hi
    have hnP : ¬ P ≤ i := by omega
    unfold f_Mill_utter_B71 sHear
    by_cases c1 : H i = true
    · simp (disch := omega) only [zgi, zgl, zwi, zwf, zjn, zj0, zcl_s, zcv_s, zrd_n, zrl_n, zix_n, zwa_n, zwl_n, zI1, zI2, zL1, zL2, zR1, zR2, updE, updLE, zbl_0, zbl_1, nI_1, nI_add, nI_mulR, nI_leI, nI_ltI, nI_0le, nI_lt0, bvE, ↓reduceIte, Nat.reduceEqDiff, Nat.reduceLT, Nat.reduceAdd, Nat.reduceMul, reduceCtorEq, e3, bv_0, hb, c1, hnP, e9 q hq, cl_anger207]
      refine ⟨_, _, rfl, rfl, ?_, h3.I rfl⟩
      simp (disch := omega) only [gS207_T]
    · simp (disch := omega) only [zgi, zgl, zwi, zwf, zjn, zj0, zcl_s, zcv_s, zrd_n, zrl_n, zix_n, zwa_n, zwl_n, zI1, zI2, zL1, zL2, zR1, zR2, updE, updLE, zbl_0, zbl_1, nI_1, nI_add, nI_mulR, nI_leI, nI_ltI, nI_0le, nI_lt0, bvE, ↓reduceIte, Nat.reduceEqDiff, Nat.reduceLT, Nat.reduceAdd, Nat.reduceMul, reduceCtorEq, e3, bv_0, hb, c1, hnP]
      exact ⟨_, _, rfl, rfl, rfl, h3⟩
  · rintro c s1 g ⟨rfl, h1, h3⟩
    obtain ⟨_, _, e3, e4, e5, e6, e7, e8, e9, e10⟩ := hc.f h3 (fun b hb hb2 => by omega)
    unfold f_Mill_utter_B71
    simp (disch := omega) only [zgi, zgl, zwi, zwf, zjn, zj0, zcl_s, zcv_s, zrd_n, zrl_n, zix_n, zwa_n, zwl_n, zI1, zI2, zL1, zL2, zR1, zR2, updE, updLE, zbl_0, zbl_1, nI_1, nI_add, nI_mulR, nI_leI, nI_ltI, nI_0le, nI_lt0, bvE, ↓reduceIte, Nat.reduceEqDiff, Nat.reduceLT, Nat.reduceAdd, Nat.reduceMul, reduceCtorEq, e3, Nat.le_refl]
    exact hk s1 h1 h3
theorem cl_utter207 {P Q : Nat} {C : Nat → Int32} {hm : Int32} {p q : Nat} {s : ZS} (hc : cC P Q C s) (hz : zW P (gS 207 s).2.1) (hh : s.1 202 7 = hm) (hh2 : hm = -1 ∨ ∃ j, j < 5 ∧ hm = nI j) (hp : p < P) (hq : q < Q) :
    rt (f_Mill_utter 207 (nI p) (nI q) s) (fun w => (gS 207 w.2, w.1, w.2.1 205) = sSay P C hm (gS 207 s) (s.1 205) p q ∧ frm (fun b => b = 205 ∨ 207 ≤ b ∧ b ≤ 211) s w.2) := by
  have hP := hc.1
  have hQ := hc.2.1
  obtain ⟨_, _, e3, e4, e5, e6, e7, e8, e9, e10⟩ := id hc
  have e10' : s.1 9 (p * 6 + q) = C (73 + 6 * p + q) := by rw [e10 _ (by omega)]; congr 1; omega
  have hpq : p * 6 + q < 30 := by omega
  unfold f_Mill_utter f_Smithy_weight
  simp (disch := omega) only [zgi, zgl, zwi, zwf, zjn, zj0, zcl_s, zcv_s, zrd_n, zrl_n, zix_n, zwa_n, zwl_n, zI1, zI2, zL1, zL2, zR1, zR2, updE, updLE, zbl_0, zbl_1, nI_1, nI_add, nI_mulR, nI_leI, nI_ltI, nI_0le, nI_lt0, bvE, ↓reduceIte, Nat.reduceEqDiff, Nat.reduceLT, Nat.reduceAdd, Nat.reduceMul, reduceCtorEq, l6, e9 q hq, e10', cl_anger207, e8 p (by omega)]
  generalize hs1 : zsI (zsI s 208 p (sAng ((gS 207 s).1 p) (C (67 + q) + C (73 + 6 * p + q)))) 211 (p * 6 + q) (s.1 211 (p * 6 + q) + 1) = s1
  have g1 : gS 207 s1 = sSay0 C (gS 207 s) p q := by
    rw [← hs1]
    simp (disch := omega) only [gS207_S, gS207_T, rS207]
    unfold sSay0
    rw [show p * 6 + q = 6 * p + q by omega]
  have f1 : frm (fun b => b = 205 ∨ 207 ≤ b ∧ b ≤ 211) s s1 := by rw [← hs1]; exact (frm.rf.I (by omega)).I (by omega)
  have hz1 : zW P (gS 207 s1).2.1 := by rw [g1]; exact hz
  have c1 := hc.f f1 (fun b hb hb2 => by omega)
  have r1 : s1.1 205 = s.1 205 := by rw [← hs1]; rfl
  have h1 : s1.1 202 7 = hm := by rw [← hs1]; exact hh
  simp (disch := omega) only [cl_banded207 hz1, zgi, zgl, zwi, zwf, zjn, zj0, zcl_s, zcv_s, zrd_n, zrl_n, zix_n, zwa_n, zwl_n, zI1, zI2, zL1, zL2, zR1, zR2, updE, updLE, zbl_0, zbl_1, nI_1, nI_add, nI_mulR, nI_leI, nI_ltI, nI_0le, nI_lt0, bvE, ↓reduceIte, Nat.reduceEqDiff, Nat.reduceLT, Nat.reduceAdd, Nat.reduceMul, reduceCtorEq, h1]
  have key : ∀ hr : Int32, (∀ o, o < P → bt hr o = sH C hm p (gS 207 s).2.1 o) → rt (zlp zN (f_Mill_utter_B71 207 (nI q) hr (fun (s16 : ZS) => zcl (f_Mill_breakOut 207 ((hr ||| ((1 : Int32) <<< (nI p &&& (31 : Int32))))) s16) (fun (v19 : Int32) (s18 : ZS) => some (v19, s18)))) (0 : Int32) s1) (fun w => (gS 207 w.2, w.1, w.2.1 205) = sSay P C hm (gS 207 s) (s.1 205) p q ∧ frm (fun b => b = 205 ∨ 207 ≤ b ∧ b ≤ 211) s w.2) := by
    intro hr hB
    refine cl_hear207 c1 hq hB (fun s2 g2 f2 => ?_)
    refine rt_cl (cl_breakOut207 (B := fun o => sH C hm p (gS 207 s).2.1 o || decide (p = o)) (c1.f f2 (fun b hb hb2 => by omega)) (fun o ho => by rw [bt_or, hB o ho, bt_one (by omega) (by omega)])) ?_
    rintro v s3 ⟨g3, f3⟩
    refine rt_s ⟨?_, f1.tr ((f2.sub (fun b hb => by omega)).tr f3)⟩
    dsimp only at g3 ⊢
    rw [g3]
    unfold sSay
    rw [g2, g1, f2.1 205 (by omega), r1]
  have hbit : ∀ o, o < P → bt (C (103 + p) &&& (sBnd (gS 207 s1).2.1 5 ^^^ (-1))) o = (bt (C (103 + p)) o && decide ((gS 207 s).2.1 o = 0)) := by
    intro o ho
    rw [bt_and, bt_not _ (by omega), sBnd_bt _ _ _ (by omega) (by omega), g1]
    show (_ && !(_ && !decide ((gS 207 s).2.1 o = 0))) = _
    have : decide (o < 5) = true := decide_eq_true (by omega)
    rw [this]; simp
  rcases hh2 with rfl | ⟨j, hj, rfl⟩
  · simp only [↓reduceIte]
    refine key _ (fun o ho => ?_)
    rw [hbit o ho]
    unfold sH
    simp (disch := omega) only [nI_n1, decide_false, Bool.not_false, Bool.and_true]
  · simp (disch := omega) only [nI_n1, ↓reduceIte]
    refine key _ (fun o ho => ?_)
    rw [bt_and, hbit o ho, bt_not _ (by omega), bt_one (by omega) (by omega)]
    unfold sH
    simp (disch := omega) only [nI_inj]
    congr 2
    simp only [eq_comm]
