/-! smooth, spark. -/
theorem told_P {s : ZS} {M : Nat → Int32} {f x : Int32} {R P Q : Nat} (h : rWd 3 s M f x R P Q) (hp : 0 < P) : iN 1 99 (M 1) ∧ iN 1 9 (M 2) := by
  rcases h.1.2.2.2.2.1 with ⟨_, e, _⟩ | ⟨_, e1, e2⟩
  · omega
  · exact ⟨e1, e2⟩
theorem sm_eq (a b c d : Int32) : a - b + c + d = a + c - b + d := by
  rw [Int32.sub_eq_add_neg, Int32.sub_eq_add_neg, Int32.add_assoc a, Int32.add_comm (-b), ← Int32.add_assoc a]
theorem st_smooth (p : Int32) : stp (f_Ring_smooth p) (f_Model_smooth p) := by
  refine stq (fun s hR => ?_)
  obtain ⟨R, P, Q, h1, h2, h3, h4, h5, h6, h7⟩ := id hR
  have hP := h3.1.1
  have g := h3.g
  have e3 : s.1 4 3 = nI P := h3.cC.2.2.1
  have mc : ∀ s' : ZS, (∀ b, ¬ (202 ≤ b ∧ b ≤ 215) → s'.1 b = s.1 b) → cM P Q (s.1 226) s' := fun s' hs' => by unfold cM; rw [hs' 226 (by omega)]; exact h3.cM
  unfold f_Ring_smooth f_Model_smooth f_Hand_smoothDay
  rcases pN p P (by omega) with ⟨k, hk, rfl⟩ | hn
  · by_cases hW : (gM (s.1 226)).2.1 k = 0
    · have hW' : (gS 10 s).2.1 k = 0 := by rw [g]; exact hW
      refine ⟨-1, ?_, fun s' hs' => ?_⟩
      · simp only [zgi, zgl, zwi, zwf, zjn, zj0, zcl_s, zcv_s, zrd_n, zrl_n, zix_n, zwa_n, zwl_n, zI1, zI2, zL1, zL2, zR1, zR2, updE, updLE, zbl_0, zbl_1, nI_1, nI_add, nI_mulR, nI_leI, nI_ltI, nI_0le, nI_lt0, bvE, ↓reduceIte, Nat.reduceEqDiff, Nat.reduceLT, Nat.reduceAdd, Nat.reduceMul, reduceCtorEq, i10, i01, eq_self, or_true, true_or, false_or, or_false, not_true_eq_false, not_false_eq_true, if_true, if_false, cHas e3 hP hk, cFree e3 hP hk, hW']; exact rt_s ⟨rfl, frm.rf⟩
      · simp only [zgi, zgl, zwi, zwf, zjn, zj0, zcl_s, zcv_s, zrd_n, zrl_n, zix_n, zwa_n, zwl_n, zI1, zI2, zL1, zL2, zR1, zR2, updE, updLE, zbl_0, zbl_1, nI_1, nI_add, nI_mulR, nI_leI, nI_ltI, nI_0le, nI_lt0, bvE, ↓reduceIte, Nat.reduceEqDiff, Nat.reduceLT, Nat.reduceAdd, Nat.reduceMul, reduceCtorEq, i10, i01, eq_self, or_true, true_or, false_or, or_false, not_true_eq_false, not_false_eq_true, if_true, if_false, mPair (mc s' hs').2.2.1 hP hk, mBare (mc s' hs') hk, hs' 226 (show ¬ (202 ≤ 226 ∧ 226 ≤ 215) by omega), hW]; exact rt_s ⟨rfl, qM.rf⟩
    · have hW' : ¬ (gS 10 s).2.1 k = 0 := by rw [g]; exact hW
      have e42 : s.1 4 2 = s.1 226 2 := h3.cC.2.2.2.2.2.1
      obtain ⟨r, r1, r2, r3⟩ := (told_P h3 (by omega)).2
      have eW : s.1 12 k = (gM (s.1 226)).2.1 k := by rw [rW10 (by omega), g]
      have eD : s.1 10 0 = s.1 226 10 := congrArg (fun z : ZT => z.2.2.2.2.1) g
      have hr0 : ¬ nI r = 0 := by rw [nI_eq0 (by omega)]; omega
      have hr1 : (1 : Int32) ≤ nI r := by rw [l1, nI_leI (by omega) (by omega)]; exact r1
      refine ⟨(s.1 226 10 + 9 - (s.1 226 10 - s.1 226 10 / 10 * 10)) + 10 * (((gM (s.1 226)).2.1 k + nI r - 1) / nI r - 1), ?_, fun s' hs' => ?_⟩
      · simp (disch := omega) only [zcl_s, cHas e3 hP hk, cFree e3 hP hk, hW', ↓reduceIte, i10, zgi, e42, r3, hr1, zrd_n, eW, zdv_n hr0, eD]
        exact rt_s ⟨sm_eq _ _ _ _, frm.rf⟩
      · have e226 : s'.1 226 = s.1 226 := hs' 226 (by omega)
        simp (disch := omega) only [zcl_s, mPair (mc s' hs').2.2.1 hP hk, mBare (mc s' hs') hk, e226, hW, ↓reduceIte, i10, mBand, zgi, r3, zdv_n hr0]
        exact rt_s ⟨rfl, qM.rf⟩
  · refine ⟨-1, ?_, fun s' hs' => ?_⟩
    · simp only [zgi, zgl, zwi, zwf, zjn, zj0, zcl_s, zcv_s, zrd_n, zrl_n, zix_n, zwa_n, zwl_n, zI1, zI2, zL1, zL2, zR1, zR2, updE, updLE, zbl_0, zbl_1, nI_1, nI_add, nI_mulR, nI_leI, nI_ltI, nI_0le, nI_lt0, bvE, ↓reduceIte, Nat.reduceEqDiff, Nat.reduceLT, Nat.reduceAdd, Nat.reduceMul, reduceCtorEq, i10, i01, eq_self, or_true, true_or, false_or, or_false, not_true_eq_false, not_false_eq_true, if_true, if_false, cHasN e3 hn]; exact rt_s ⟨rfl, frm.rf⟩
    · simp only [zgi, zgl, zwi, zwf, zjn, zj0, zcl_s, zcv_s, zrd_n, zrl_n, zix_n, zwa_n, zwl_n, zI1, zI2, zL1, zL2, zR1, zR2, updE, updLE, zbl_0, zbl_1, nI_1, nI_add, nI_mulR, nI_leI, nI_ltI, nI_0le, nI_lt0, bvE, ↓reduceIte, Nat.reduceEqDiff, Nat.reduceLT, Nat.reduceAdd, Nat.reduceMul, reduceCtorEq, i10, i01, eq_self, or_true, true_or, false_or, or_false, not_true_eq_false, not_false_eq_true, if_true, if_false, mPairN (mc s' hs').2.2.1 hn]; exact rt_s ⟨rfl, qM.rf⟩
def wgt (C : Nat → Int32) (p q : Nat) : Int32 := C (67 + q) + C (73 + 6 * p + q)
theorem wgt_iN {P Q : Nat} {C : Nat → Int32} (h : cB P Q C) {p q : Nat} (hp : p < 5) (hq : q < 6) : iN 0 29 (wgt C p q) := by
  unfold wgt
  have := (h.cK2.2.2.1 q hq).add (h.cK2.2.2.2 (6 * p + q) (by omega))
  rw [show 73 + 6 * p + q = 73 + (6 * p + q) by omega]
  exact this
theorem cWeight {P Q : Nat} {C : Nat → Int32} {s : ZS} (hc : cC P Q C s) {p q : Nat} (hp : p < 5) (hq : q < Q) : f_Smithy_weight 4 (nI p) (nI q) s = some (wgt C p q, s) := by
  obtain ⟨_, hQ, e3, e4, e5, e6, e7, e8, e9, e10⟩ := hc
  have e10' : s.1 9 (p * 6 + q) = C (73 + 6 * p + q) := by rw [e10 _ (by omega)]; congr 1; omega
  unfold f_Smithy_weight wgt
  simp (disch := omega) only [zgi, zgl, zwi, zwf, zjn, zj0, zcl_s, zcv_s, zrd_n, zrl_n, zix_n, zwa_n, zwl_n, zI1, zI2, zL1, zL2, zR1, zR2, updE, updLE, zbl_0, zbl_1, nI_1, nI_add, nI_mulR, nI_leI, nI_ltI, nI_0le, nI_lt0, bvE, ↓reduceIte, Nat.reduceEqDiff, Nat.reduceLT, Nat.reduceAdd, Nat.reduceMul, reduceCtorEq, l6, e9 q hq, e10']
/-- the most that a saying adds; -1 without sayings -/
def mxW (C : Nat → Int32) (p k : Nat) : Int32 := itr k (fun q x => if x < wgt C p q then wgt C p q else x) (-1)
theorem mxWS (C : Nat → Int32) (p k : Nat) : mxW C p (k + 1) = if mxW C p k < wgt C p k then wgt C p k else mxW C p k := rfl
theorem mxW0 (C : Nat → Int32) (p : Nat) : mxW C p 0 < 0 := by rw [show mxW C p 0 = -1 from rfl]; decide
theorem mxW_iN {P Q : Nat} {C : Nat → Int32} (h : cB P Q C) {p : Nat} (hp : p < 5) : ∀ k, 0 < k → k ≤ 6 → iN 0 29 (mxW C p k) := by
  intro k
  induction k with
  | zero => intro h; omega
  | succ k ih =>
    intro _ hk
    rw [mxWS]
    have hw := wgt_iN h hp (show k < 6 by omega)
    split
    · exact hw
    · next hl =>
      by_cases h0 : k = 0
      · subst h0
        exfalso; apply hl
        obtain ⟨n, n1, n2, n3⟩ := hw
        rw [n3]; exact Int32.lt_of_lt_of_le (mxW0 C p) (nI_pos' (by omega))
      · exact ih (by omega) (by omega)
theorem st_spark (p : Int32) : stp (f_Ring_spark p) (f_Model_spark p) := by
  refine stq (fun s hR => ?_)
  obtain ⟨R, P, Q, h1, h2, h3, h4, h5, h6, h7⟩ := id hR
  have hP := h3.1.1
  have hQ := h3.1.2.1
  have g := h3.g
  have e3 : s.1 4 3 = nI P := h3.cC.2.2.1
  have e4 : s.1 4 4 = nI Q := h3.cC.2.2.2.1
  have mc : ∀ s' : ZS, (∀ b, ¬ (202 ≤ b ∧ b ≤ 215) → s'.1 b = s.1 b) → cM P Q (s.1 226) s' := fun s' hs' => by unfold cM; rw [hs' 226 (by omega)]; exact h3.cM
  unfold f_Ring_spark f_Model_spark
  rcases pN p P (by omega) with ⟨k, hk, rfl⟩ | hn
  · by_cases hW : (gM (s.1 226)).2.1 k = 0
    · have hW' : (gS 10 s).2.1 k = 0 := by rw [g]; exact hW
      have eB : s.1 6 k = s.1 226 (57 + k) := h3.cC.2.2.2.2.2.2.1 k hk
      have eT : s.1 11 k = (gM (s.1 226)).1 k := by rw [rT10 (by omega), g]
      refine ⟨if Q = 0 then -2 else if 0 < s.1 226 (57 + k) - (gM (s.1 226)).1 k then (if mxW (s.1 226) k Q = 0 then -2 else (s.1 226 (57 + k) - (gM (s.1 226)).1 k + mxW (s.1 226) k Q - 1) / mxW (s.1 226) k Q) else 1, ?_, fun s' hs' => ?_⟩
      · simp only [zcl_s, cFree e3 hP hk, hW', ↓reduceIte, i10, not_false_eq_true]
        have key : rt (f_Hand_sparking (nI k) s) (fun w => w.1 = (if Q = 0 then -2 else if 0 < s.1 226 (57 + k) - (gM (s.1 226)).1 k then (if mxW (s.1 226) k Q = 0 then -2 else (s.1 226 (57 + k) - (gM (s.1 226)).1 k + mxW (s.1 226) k Q - 1) / mxW (s.1 226) k Q) else 1) ∧ frm (fun b => 202 ≤ b ∧ b ≤ 215) s w.2) := by
          unfold f_Hand_sparking
          simp only [zjn]
          refine lp_rt Q (fun i a s1 => s1 = s ∧ a.2 = nI i ∧ a.1 = mxW (s.1 226) k i) (by omega) ⟨rfl, rfl, rfl⟩ ?_ ?_
          · rintro i ⟨m, c⟩ s1 g hi ⟨rfl, j0, j1⟩
            left
            dsimp only at j0 j1
            subst j0
            have hni : ¬ Q ≤ i := by omega
            unfold f_Hand_sparking_B4
            simp (disch := omega) only [zgi, e4, nI_leI, hni, ↓reduceIte, cWeight h3.cC (show k < 5 by omega) hi, zcl_s, nI_1]
            exact ⟨_, _, rfl, rfl, rfl, by rw [mxWS, ← j1]⟩
          · rintro ⟨m, c⟩ s1 g ⟨rfl, j0, j1⟩
            dsimp only at j0 j1
            subst j0
            unfold f_Hand_sparking_B4
            simp (disch := omega) only [zgi, zj0, e4, nI_leI, Nat.le_refl, ↓reduceIte, zrd_n, eB, eT]
            rw [← j1]
            by_cases q0 : Q = 0
            · subst q0
              have : m = -1 := j1
              subst this
              simp only [↓reduceIte]; exact rt_s ⟨rfl, frm.rf⟩
            · obtain ⟨n, n1, n2, n3⟩ := mxW_iN h3.1 (show k < 5 by omega) Q (by omega) hQ
              rw [← j1] at n3
              have hm1 : ¬ m = -1 := by rw [n3, nI_n1 (by omega)]; exact not_false
              simp only [hm1, q0, ↓reduceIte]
              by_cases hl : 0 < s1.1 226 (57 + k) - (gM (s1.1 226)).1 k
              · by_cases hm0 : m = 0
                · simp only [hm0, hl, Int32.not_le.mpr hl, ↓reduceIte, not_true_eq_false]; exact rt_s ⟨rfl, frm.rf⟩
                · simp only [hm0, hl, ↓reduceIte, not_false_eq_true, zdv_n hm0]; exact rt_s ⟨rfl, frm.rf⟩
              · by_cases hm0 : m = 0
                · simp only [hm0, hl, Int32.not_lt.mp hl, ↓reduceIte, not_true_eq_false]; exact rt_s ⟨rfl, frm.rf⟩
                · simp only [hm0, hl, ↓reduceIte, not_false_eq_true]; exact rt_s ⟨rfl, frm.rf⟩
        exact rt_cl key (fun v s h => rt_s h)
      · have e226 : s'.1 226 = s.1 226 := hs' 226 (by omega)
        have m4 : s'.1 226 4 = nI Q := (mc s' hs').2.2.2.1
        by_cases q0 : Q = 0
        · subst q0
          have z : nI 0 = 0 := rfl
          simp only [zcl_s, mBare (mc s' hs') hk, e226, hW, ↓reduceIte, i10, not_false_eq_true, not_true_eq_false, zgi, (show s.1 226 4 = nI 0 from h3.cM.2.2.2.1), z]
          exact rt_s ⟨rfl, qM.rf⟩
        · have q0' : ¬ nI Q = 0 := by rw [nI_eq0 (by omega)]; exact q0
          simp only [zcl_s, zjn, mBare (mc s' hs') hk, e226, hW, ↓reduceIte, i10, not_false_eq_true, zgi, (show s.1 226 4 = nI Q from h3.cM.2.2.2.1), q0', q0]
          refine lp_rt Q (fun i a s1 => s1 = s' ∧ a.2 = nI i ∧ a.1 = (if i = 0 then 0 else mxW (s.1 226) k i)) (by omega) ⟨rfl, rfl, rfl⟩ ?_ ?_
          · rintro i ⟨m, c⟩ s1 g hi ⟨rfl, j0, j1⟩
            left
            dsimp only at j0 j1
            subst j0
            have hni : ¬ Q ≤ i := by omega
            have hh : f_Model_hurts (nI k) (nI i) s1 = some (wgt (s.1 226) k i, s1) := mHurts (by omega) (by omega) (mc s1 hs')
            unfold f_Model_spark_B26
            have hstep : (if i + 1 = 0 then 0 else mxW (s.1 226) k (i + 1)) = if wgt (s.1 226) k i ≤ m then m else wgt (s.1 226) k i := by
              rw [if_neg (by omega), mxWS, j1]
              obtain ⟨n, n1, n2, n3⟩ := wgt_iN h3.1 (show k < 5 by omega) (show i < 6 by omega)
              by_cases i0 : i = 0
              · subst i0
                rw [if_pos rfl, if_pos (show mxW (s.1 226) k 0 < _ by rw [n3]; exact Int32.lt_of_lt_of_le (mxW0 (s.1 226) k) (nI_pos' (by omega)))]
                rw [n3]
                by_cases n0 : n = 0
                · subst n0; rw [if_pos (by decide)]; rfl
                · rw [if_neg (by rw [nI_le0 (by omega)]; exact n0)]
              · rw [if_neg i0]
                by_cases hl : wgt (s.1 226) k i ≤ mxW (s.1 226) k i
                · rw [if_pos hl, if_neg (Int32.not_lt.mpr hl)]
                · rw [if_neg hl, if_pos (Int32.not_le.mp hl)]
            by_cases hl : wgt (s.1 226) k i ≤ m
            · simp (disch := omega) only [zgi, zjn, m4, nI_leI, hni, ↓reduceIte, hh, zcl_s, nI_1, hl]
              exact ⟨_, _, rfl, rfl, rfl, by rw [hstep, if_pos hl]⟩
            · simp (disch := omega) only [zgi, zjn, m4, nI_leI, hni, ↓reduceIte, hh, zcl_s, nI_1, hl]
              exact ⟨_, _, rfl, rfl, rfl, by rw [hstep, if_neg hl]⟩
          · rintro ⟨m, c⟩ s1 g ⟨rfl, j0, j1⟩
            dsimp only at j0 j1
            subst j0
            rw [if_neg q0] at j1
            unfold f_Model_spark_B26
            simp (disch := omega) only [zgi, zcl_s, m4, nI_leI, Nat.le_refl, ↓reduceIte, l57, nI_add, zrd_n, mTemper, e226]
            rw [← j1]
            by_cases hl : 0 < s.1 226 (57 + k) - (gM (s.1 226)).1 k
            · by_cases hm0 : m = 0
              · simp only [hm0, hl, ↓reduceIte, not_true_eq_false]; exact rt_s ⟨rfl, qM.rf⟩
              · simp only [hm0, hl, ↓reduceIte, not_false_eq_true, zdv_n hm0]; exact rt_s ⟨rfl, qM.rf⟩
            · simp only [hl, ↓reduceIte]; exact rt_s ⟨rfl, qM.rf⟩
    · have hW' : ¬ (gS 10 s).2.1 k = 0 := by rw [g]; exact hW
      refine ⟨-1, ?_, fun s' hs' => ?_⟩
      · simp only [zgi, zgl, zwi, zwf, zjn, zj0, zcl_s, zcv_s, zrd_n, zrl_n, zix_n, zwa_n, zwl_n, zI1, zI2, zL1, zL2, zR1, zR2, updE, updLE, zbl_0, zbl_1, nI_1, nI_add, nI_mulR, nI_leI, nI_ltI, nI_0le, nI_lt0, bvE, ↓reduceIte, Nat.reduceEqDiff, Nat.reduceLT, Nat.reduceAdd, Nat.reduceMul, reduceCtorEq, i10, i01, eq_self, or_true, true_or, false_or, or_false, not_true_eq_false, not_false_eq_true, if_true, if_false, cFree e3 hP hk, hW']; exact rt_s ⟨rfl, frm.rf⟩
      · simp only [zgi, zgl, zwi, zwf, zjn, zj0, zcl_s, zcv_s, zrd_n, zrl_n, zix_n, zwa_n, zwl_n, zI1, zI2, zL1, zL2, zR1, zR2, updE, updLE, zbl_0, zbl_1, nI_1, nI_add, nI_mulR, nI_leI, nI_ltI, nI_0le, nI_lt0, bvE, ↓reduceIte, Nat.reduceEqDiff, Nat.reduceLT, Nat.reduceAdd, Nat.reduceMul, reduceCtorEq, i10, i01, eq_self, or_true, true_or, false_or, or_false, not_true_eq_false, not_false_eq_true, if_true, if_false, mBare (mc s' hs') hk, hs' 226 (show ¬ (202 ≤ 226 ∧ 226 ≤ 215) by omega), hW]; exact rt_s ⟨rfl, qM.rf⟩
  · refine ⟨-1, ?_, fun s' hs' => ?_⟩
    · simp only [zgi, zgl, zwi, zwf, zjn, zj0, zcl_s, zcv_s, zrd_n, zrl_n, zix_n, zwa_n, zwl_n, zI1, zI2, zL1, zL2, zR1, zR2, updE, updLE, zbl_0, zbl_1, nI_1, nI_add, nI_mulR, nI_leI, nI_ltI, nI_0le, nI_lt0, bvE, ↓reduceIte, Nat.reduceEqDiff, Nat.reduceLT, Nat.reduceAdd, Nat.reduceMul, reduceCtorEq, i10, i01, eq_self, or_true, true_or, false_or, or_false, not_true_eq_false, not_false_eq_true, if_true, if_false, cFreeN e3 hn]; exact rt_s ⟨rfl, frm.rf⟩
    · simp only [zgi, zgl, zwi, zwf, zjn, zj0, zcl_s, zcv_s, zrd_n, zrl_n, zix_n, zwa_n, zwl_n, zI1, zI2, zL1, zL2, zR1, zR2, updE, updLE, zbl_0, zbl_1, nI_1, nI_add, nI_mulR, nI_leI, nI_ltI, nI_0le, nI_lt0, bvE, ↓reduceIte, Nat.reduceEqDiff, Nat.reduceLT, Nat.reduceAdd, Nat.reduceMul, reduceCtorEq, i10, i01, eq_self, or_true, true_or, false_or, or_false, not_true_eq_false, not_false_eq_true, if_true, if_false, mBareN (mc s' hs').2.2.1 hn]; exact rt_s ⟨rfl, qM.rf⟩
