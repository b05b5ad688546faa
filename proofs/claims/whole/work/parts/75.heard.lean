/-! heard. -/
def lo (r : Int32) (rs : Nat → Int32) (k : Nat) : Int32 × Int32 := itr k (fun p x => if bt r p = true then (if rs p ≤ x.2 then x else (nI p, rs p)) else x) (-2, 0)
theorem loS (r : Int32) (rs : Nat → Int32) (k : Nat) : lo r rs (k + 1) = if bt r k = true then (if rs k ≤ (lo r rs k).2 then lo r rs k else (nI k, rs k)) else lo r rs k := rfl
theorem lo0 (r : Int32) (rs : Nat → Int32) : lo r rs 0 = (-2, 0) := rfl
theorem lo_congr {r : Int32} {rs rs' : Nat → Int32} (h : ∀ p, p < 5 → bt r p = true → rs p = rs' p) : ∀ k, k ≤ 5 → lo r rs k = lo r rs' k := by
  intro k
  induction k with
  | zero => intro _; rw [lo0, lo0]
  | succ k ih =>
    intro hk
    rw [loS, loS, ih (by omega)]
    by_cases hb : bt r k = true
    · rw [if_pos hb, if_pos hb, h k (by omega) hb]
    · rw [if_neg hb, if_neg hb]
theorem lo_P {P : Nat} {r : Int32} {rs : Nat → Int32} (hP : P ≤ 5) (h : ∀ p, p < 5 → bt r p = true → p < P) : lo r rs 5 = lo r rs P := by
  have : ∀ k, P + k ≤ 5 → lo r rs (P + k) = lo r rs P := by
    intro k
    induction k with
    | zero => intro _; rfl
    | succ k ih =>
      intro hk
      rw [← ih (by omega)]
      show lo r rs (P + k + 1) = _
      rw [loS, if_neg]
      intro hb
      have := h (P + k) (by omega) hb
      omega
  have h5 := this (5 - P) (by omega)
  rw [show P + (5 - P) = 5 by omega] at h5
  exact h5
theorem lo_inv {r : Int32} {rs : Nat → Int32} (h : ∀ p, p < 5 → bt r p = true → iN 1 999 (rs p)) : ∀ k, k ≤ 5 → lo r rs k = (-2, 0) ∨ ∃ b, b < k ∧ bt r b = true ∧ lo r rs k = (nI b, rs b) := by
  intro k
  induction k with
  | zero => intro _; exact Or.inl rfl
  | succ k ih =>
    intro hk
    rw [loS]
    by_cases hb : bt r k = true
    · rw [if_pos hb]
      by_cases hl : rs k ≤ (lo r rs k).2
      · rw [if_pos hl]
        rcases ih (by omega) with e | ⟨b, b1, b2, b3⟩
        · exact Or.inl e
        · exact Or.inr ⟨b, by omega, b2, b3⟩
      · rw [if_neg hl]; exact Or.inr ⟨k, by omega, hb, rfl⟩
    · rw [if_neg hb]
      rcases ih (by omega) with e | ⟨b, b1, b2, b3⟩
      · exact Or.inl e
      · exact Or.inr ⟨b, by omega, b2, b3⟩
theorem c_largestOf {r : Int32} {s : ZS} : f_Fore_largestOf r s = some ((lo r (s.1 205) 5).1, s) := by
  unfold f_Fore_largestOf
  have : rt (zlp zN (f_Fore_largestOf_B8 r) ((-2 : Int32), (0 : Int32), (0 : Int32)) s) (fun w => w = ((lo r (s.1 205) 5).1, s)) := by
    refine lp_rt 5 (fun i a s1 => s1 = s ∧ a.2.2 = nI i ∧ (a.1, a.2.1) = lo r (s.1 205) i) (by omega) ⟨rfl, rfl, rfl⟩ ?_ ?_
    · rintro i ⟨best, size, c⟩ s1 g hi ⟨rfl, h0, h1⟩
      left
      dsimp only at h0 h1
      subst h0
      have hn : ¬ 5 ≤ i := by omega
      unfold f_Fore_largestOf_B8
      rw [loS, ← h1]
      by_cases hb : bt r i = true
      · by_cases hl : s1.1 205 i ≤ size
        · simp (disch := omega) only [zgi, zgl, zwi, zwf, zjn, zj0, zcl_s, zcv_s, zrd_n, zrl_n, zix_n, zwa_n, zwl_n, zI1, zI2, zL1, zL2, zR1, zR2, updE, updLE, zbl_0, zbl_1, nI_1, nI_add, nI_mulR, nI_leI, nI_ltI, nI_0le, nI_lt0, bvE, ↓reduceIte, Nat.reduceEqDiff, Nat.reduceLT, Nat.reduceAdd, Nat.reduceMul, reduceCtorEq, i10, i01, eq_self, or_true, true_or, false_or, or_false, not_true_eq_false, not_false_eq_true, if_true, if_false, l5, hn, bv_0, hb, reduceCtorEq, hl]
          exact ⟨_, _, rfl, rfl, rfl, rfl⟩
        · simp (disch := omega) only [zgi, zgl, zwi, zwf, zjn, zj0, zcl_s, zcv_s, zrd_n, zrl_n, zix_n, zwa_n, zwl_n, zI1, zI2, zL1, zL2, zR1, zR2, updE, updLE, zbl_0, zbl_1, nI_1, nI_add, nI_mulR, nI_leI, nI_ltI, nI_0le, nI_lt0, bvE, ↓reduceIte, Nat.reduceEqDiff, Nat.reduceLT, Nat.reduceAdd, Nat.reduceMul, reduceCtorEq, i10, i01, eq_self, or_true, true_or, false_or, or_false, not_true_eq_false, not_false_eq_true, if_true, if_false, l5, hn, bv_0, hb, reduceCtorEq, hl]
          exact ⟨_, _, rfl, rfl, rfl, rfl⟩
      · have hbf : bt r i = false := by simpa using hb
        simp (disch := omega) only [zgi, zgl, zwi, zwf, zjn, zj0, zcl_s, zcv_s, zrd_n, zrl_n, zix_n, zwa_n, zwl_n, zI1, zI2, zL1, zL2, zR1, zR2, updE, updLE, zbl_0, zbl_1, nI_1, nI_add, nI_mulR, nI_leI, nI_ltI, nI_0le, nI_lt0, bvE, ↓reduceIte, Nat.reduceEqDiff, Nat.reduceLT, Nat.reduceAdd, Nat.reduceMul, reduceCtorEq, i10, i01, eq_self, or_true, true_or, false_or, or_false, not_true_eq_false, not_false_eq_true, if_true, if_false, l5, hn, bv_0, hbf, reduceCtorEq]
        exact ⟨_, _, rfl, rfl, rfl, rfl⟩
    · rintro ⟨best, size, c⟩ s1 g ⟨rfl, h0, h1⟩
      dsimp only at h0 h1
      subst h0
      unfold f_Fore_largestOf_B8
      simp (disch := omega) only [zgi, zgl, zwi, zwf, zjn, zj0, zcl_s, zcv_s, zrd_n, zrl_n, zix_n, zwa_n, zwl_n, zI1, zI2, zL1, zL2, zR1, zR2, updE, updLE, zbl_0, zbl_1, nI_1, nI_add, nI_mulR, nI_leI, nI_ltI, nI_0le, nI_lt0, bvE, ↓reduceIte, Nat.reduceEqDiff, Nat.reduceLT, Nat.reduceAdd, Nat.reduceMul, reduceCtorEq, i10, i01, eq_self, or_true, true_or, false_or, or_false, not_true_eq_false, not_false_eq_true, if_true, if_false, l5, Nat.le_refl]
      exact rt_s (by rw [← h1])
  obtain ⟨w, h1, h2⟩ := this
  rw [h1, h2]
theorem n2lt : ((-2 : Int32) < 0) = True := eq_true (by decide)
theorem st_heard (p q w : Int32) : stp (f_Ring_heard p q w) (f_Model_heard p q w) := by
  refine stq (fun s hR => ?_)
  obtain ⟨R, P, Q, h1, h2, h3, h4, h5, h6, h7⟩ := id hR
  have hP := h3.1.1
  have hQ := h3.1.2.1
  have hzo := h3.2.2.2.1.1
  have hzw := hzo.zW
  have g := h3.g
  obtain ⟨rl, hA, hB⟩ := ctx h2 h3
  have e3 : s.1 4 3 = nI P := h3.cC.2.2.1
  have e4 : s.1 4 4 = nI Q := h3.cC.2.2.2.1
  have mc : ∀ s' : ZS, (∀ b, ¬ (202 ≤ b ∧ b ≤ 215) → s'.1 b = s.1 b) → cM P Q (s.1 226) s' := fun s' hs' => by unfold cM; rw [hs' 226 (by omega)]; exact h3.cM
  unfold f_Ring_heard f_Model_heard
  rcases pN p P (by omega) with ⟨k, hk, rfl⟩ | hn
  · by_cases hW : (gM (s.1 226)).2.1 k = 0
    · have hW' : (gS 10 s).2.1 k = 0 := by rw [g]; exact hW
      rcases pN q Q (by omega) with ⟨j, hj, rfl⟩ | hn
      · by_cases hw : w = 0 ∨ w = 1
        · obtain ⟨sp, kr, kr1, kr2⟩ := say_pos (C := s.1 226) (hm := -1) (z := gM (s.1 226)) (RS := fun _ => 0) (p := k) (q := j) hP h3.1.2.2.2.2.2.1 h3.1.cK2 hzo (by omega) (by omega)
          generalize hX : sSay P (s.1 226) (-1) (gM (s.1 226)) (fun _ => 0) k j = X at sp kr2
          refine ⟨if w = 0 then pc X.2.1 else (lo X.2.1 X.2.2 P).1, ?_, fun s' hs' => ?_⟩
          · simp only [zcl_s, cFree e3 hP hk, hW', ↓reduceIte, i10, cHasS e4 hQ hj, cEi, hw, not_false_eq_true]
            have key : rt (f_Fore_hearing (nI k) (nI j) w s) (fun w_1 => w_1.1 = (if w = 0 then pc X.2.1 else (lo X.2.1 X.2.2 P).1) ∧ frm (fun b => 202 ≤ b ∧ b ≤ 215) s w_1.2) := by
              unfold f_Fore_hearing
              refine rt_cv (c_res h2 h3 hA frm.rf) ?_
              rintro s1 ⟨g1, dd1, _, F1⟩
              refine rt_cl (cl_utter207 dd1.1 (by rw [g1]; exact hzw) dd1.2.2.2.1 (Or.inl rfl) hk hj) ?_
              rintro r s2 ⟨w1, F2⟩
              dsimp only at w1
              rw [g1] at w1
              obtain ⟨k1, k2, k3⟩ := say_eX (C := s.1 226) (hm := -1) (z := gM (s.1 226)) (RS := s1.1 205) (RS' := fun _ => 0) (p := k) (q := j) hP
              rw [← w1, hX] at k1 k2 k3
              dsimp only at k2 k3
              have F3 : frm (fun b => 202 ≤ b ∧ b ≤ 215) s s2 := F1.tr (F2.sub (fun b hb => by omega))
              rcases hw with rfl | rfl
              · simp only [zgi, zgl, zwi, zwf, zjn, zj0, zcl_s, zcv_s, zrd_n, zrl_n, zix_n, zwa_n, zwl_n, zI1, zI2, zL1, zL2, zR1, zR2, updE, updLE, zbl_0, zbl_1, nI_1, nI_add, nI_mulR, nI_leI, nI_ltI, nI_0le, nI_lt0, bvE, ↓reduceIte, Nat.reduceEqDiff, Nat.reduceLT, Nat.reduceAdd, Nat.reduceMul, reduceCtorEq, i10, i01, eq_self, or_true, true_or, false_or, or_false, not_true_eq_false, not_false_eq_true, if_true, if_false, pcE]
                exact rt_s ⟨by dsimp only; rw [k2], F3⟩
              · simp only [zgi, zgl, zwi, zwf, zjn, zj0, zcl_s, zcv_s, zrd_n, zrl_n, zix_n, zwa_n, zwl_n, zI1, zI2, zL1, zL2, zR1, zR2, updE, updLE, zbl_0, zbl_1, nI_1, nI_add, nI_mulR, nI_leI, nI_ltI, nI_0le, nI_lt0, bvE, ↓reduceIte, Nat.reduceEqDiff, Nat.reduceLT, Nat.reduceAdd, Nat.reduceMul, reduceCtorEq, i10, i01, eq_self, or_true, true_or, false_or, or_false, not_true_eq_false, not_false_eq_true, if_true, if_false, c_largestOf]
                refine rt_s ⟨?_, F3⟩
                dsimp only
                rw [lo_congr k3 5 (by omega), k2, lo_P hP (fun p hp hb => (sp p hp hb).1)]
            exact rt_cl key (fun v s h => rt_s h)
          · have e226 : s'.1 226 = s.1 226 := hs' 226 (by omega)
            simp only [zcl_s, mBare (mc s' hs') hk, e226, hW, ↓reduceIte, i10, mSay (mc s' hs').2.2.2.1 hQ hj, mIn01, hw, not_false_eq_true]
            refine rt_cv m_keeps ?_
            rintro s1 rfl
            have hB0 : dM P Q (s.1 226) 0 (-1) rl (zsR s' 229 (fun k => if k < 47 then s'.1 226 (10 + k) else s'.1 229 k)) := hB _ 0 (-1) (fun k hk => by rw [zR1, if_neg (by omega), e226]) (fun b hb => by rw [zR1, if_neg (by omega)]; exact hs' b (by omega)) (by rw [zR1, if_neg (by omega), hs' 216 (by omega)]) (by rw [zR1, if_neg (by omega), hs' 216 (by omega)]; exact h6) (by rw [zR1, if_neg (by omega), hs' 216 (by omega)]; exact h7)
            generalize hs1 : zsR s' 229 (fun k => if k < 47 then s'.1 226 (10 + k) else s'.1 229 k) = s1 at hB0 ⊢
            have k1 : ∀ j, j < 47 → s1.1 229 j = s.1 226 (10 + j) := fun j hj => by rw [← hs1, kept j hj, e226]
            have e1 : s1.1 226 = s.1 226 := by rw [← hs1, zR1, if_neg (by omega), e226]
            have E1 : ∀ b, b ≠ 229 → s1.1 b = s'.1 b := fun b hb => by rw [← hs1, zR1, if_neg hb]
            refine rt_cl (m_says hB0.1 hB0.2.2.2.2.1 hk hj) ?_
            rintro r s2 ⟨w1, N2⟩
            dsimp only at w1
            rw [e1] at w1
            obtain ⟨x1, x2, x3⟩ := say_eX (C := s.1 226) (hm := -1) (z := gM (s.1 226)) (RS := s1.1 227) (RS' := fun _ => 0) (p := k) (q := j) hP
            rw [← w1, hX] at x1 x2 x3
            dsimp only at x2 x3
            refine rt_cv (m_laysBack (M0 := s.1 226) (fun j hj => by rw [N2.1 229 (by omega)]; exact k1 j hj) (fun j hj => by rw [N2.2.2.2 j hj, e1])) ?_
            rintro s3 rfl
            have qq : qM s' (zsR s2 226 (s.1 226)) := ⟨fun b hb => by
              rw [zR1]
              by_cases hb2 : b = 226
              · rw [if_pos hb2, hb2, e226]
              · rw [if_neg hb2, N2.1 b (by omega), E1 b (by omega)], fun j hj => by rw [zR1, if_neg (by omega), N2.2.2.1 j (by omega), E1 216 (by omega)]⟩
            have u227 : (zsR s2 226 (s.1 226)).1 227 = s2.1 227 := rfl
            have u3 : (zsR s2 226 (s.1 226)).1 226 3 = nI P := h3.cM.2.2.1
            generalize zsR s2 226 (s.1 226) = s3 at qq u227 u3 ⊢
            have pz : ∀ p, p < 5 → bt r p = true → p < P ∧ iN 1 999 (s3.1 227 p) := fun p hp hb => by rw [u227, x3 p hp hb]; exact sp p hp (by rw [← x2]; exact hb)
            have lz : ∀ i, i ≤ 5 → lo r (s3.1 227) i = lo X.2.1 X.2.2 i := fun i hi => by rw [u227, lo_congr x3 i hi, x2]
            simp only [zjn]
            refine lp_rt P (fun i a s4 => s4 = s3 ∧ a.2 = nI i ∧ a.1 = (lo r (s3.1 227) i).1) (by omega) ⟨rfl, rfl, rfl⟩ ?_ ?_
            · rintro i ⟨best, c⟩ s4 g hi ⟨rfl, j0, j1⟩
              left
              dsimp only at j0 j1
              subst j0
              have hni : ¬ P ≤ i := by omega
              unfold f_Model_heard_B51
              rw [loS]
              by_cases hb : bt r i = true
              · obtain ⟨n, n1, n2, n3⟩ := (pz i (by omega) hb).2
                rcases lo_inv (rs := s4.1 227) (fun p hp hb => (pz p hp hb).2) i (by omega) with e | ⟨b, b1, b2, b3⟩
                · have hnl : ¬ s4.1 227 i ≤ 0 := by rw [n3, nI_le0 (by omega)]; omega
                  rw [e] at j1 ⊢
                  dsimp only at j1 ⊢
                  simp (disch := omega) only [zgi, zgl, zwi, zwf, zjn, zj0, zcl_s, zcv_s, zrd_n, zrl_n, zix_n, zwa_n, zwl_n, zI1, zI2, zL1, zL2, zR1, zR2, updE, updLE, zbl_0, zbl_1, nI_1, nI_add, nI_mulR, nI_leI, nI_ltI, nI_0le, nI_lt0, bvE, ↓reduceIte, Nat.reduceEqDiff, Nat.reduceLT, Nat.reduceAdd, Nat.reduceMul, reduceCtorEq, i10, i01, eq_self, or_true, true_or, false_or, or_false, not_true_eq_false, not_false_eq_true, if_true, if_false, u3, hni, mIsOf, hb, j1, n2lt, hnl]
                  exact ⟨_, _, rfl, rfl, rfl, rfl⟩
                · rw [b3] at j1 ⊢
                  dsimp only at j1 ⊢
                  by_cases hl : s4.1 227 i ≤ s4.1 227 b
                  · simp (disch := omega) only [zgi, zgl, zwi, zwf, zjn, zj0, zcl_s, zcv_s, zrd_n, zrl_n, zix_n, zwa_n, zwl_n, zI1, zI2, zL1, zL2, zR1, zR2, updE, updLE, zbl_0, zbl_1, nI_1, nI_add, nI_mulR, nI_leI, nI_ltI, nI_0le, nI_lt0, bvE, ↓reduceIte, Nat.reduceEqDiff, Nat.reduceLT, Nat.reduceAdd, Nat.reduceMul, reduceCtorEq, i10, i01, eq_self, or_true, true_or, false_or, or_false, not_true_eq_false, not_false_eq_true, if_true, if_false, u3, hni, mIsOf, hb, j1, hl]
                    exact ⟨_, _, rfl, rfl, rfl, rfl⟩
                  · simp (disch := omega) only [zgi, zgl, zwi, zwf, zjn, zj0, zcl_s, zcv_s, zrd_n, zrl_n, zix_n, zwa_n, zwl_n, zI1, zI2, zL1, zL2, zR1, zR2, updE, updLE, zbl_0, zbl_1, nI_1, nI_add, nI_mulR, nI_leI, nI_ltI, nI_0le, nI_lt0, bvE, ↓reduceIte, Nat.reduceEqDiff, Nat.reduceLT, Nat.reduceAdd, Nat.reduceMul, reduceCtorEq, i10, i01, eq_self, or_true, true_or, false_or, or_false, not_true_eq_false, not_false_eq_true, if_true, if_false, u3, hni, mIsOf, hb, j1, hl]
                    exact ⟨_, _, rfl, rfl, rfl, rfl⟩
              · simp (disch := omega) only [zgi, zgl, zwi, zwf, zjn, zj0, zcl_s, zcv_s, zrd_n, zrl_n, zix_n, zwa_n, zwl_n, zI1, zI2, zL1, zL2, zR1, zR2, updE, updLE, zbl_0, zbl_1, nI_1, nI_add, nI_mulR, nI_leI, nI_ltI, nI_0le, nI_lt0, bvE, ↓reduceIte, Nat.reduceEqDiff, Nat.reduceLT, Nat.reduceAdd, Nat.reduceMul, reduceCtorEq, i10, i01, eq_self, or_true, true_or, false_or, or_false, not_true_eq_false, not_false_eq_true, if_true, if_false, u3, hni, mIsOf, hb]
                exact ⟨_, _, rfl, rfl, rfl, j1⟩
            · rintro ⟨best, c⟩ s4 g ⟨rfl, j0, j1⟩
              dsimp only at j0 j1
              subst j0
              unfold f_Model_heard_B51
              simp (disch := omega) only [zgi, zgl, zwi, zwf, zjn, zj0, zcl_s, zcv_s, zrd_n, zrl_n, zix_n, zwa_n, zwl_n, zI1, zI2, zL1, zL2, zR1, zR2, updE, updLE, zbl_0, zbl_1, nI_1, nI_add, nI_mulR, nI_leI, nI_ltI, nI_0le, nI_lt0, bvE, ↓reduceIte, Nat.reduceEqDiff, Nat.reduceLT, Nat.reduceAdd, Nat.reduceMul, reduceCtorEq, i10, i01, eq_self, or_true, true_or, false_or, or_false, not_true_eq_false, not_false_eq_true, if_true, if_false, u3, Nat.le_refl]
              rcases hw with rfl | rfl
              · have eb : r = nI kr := x2.trans kr2
                simp only [zgi, zgl, zwi, zwf, zjn, zj0, zcl_s, zcv_s, zrd_n, zrl_n, zix_n, zwa_n, zwl_n, zI1, zI2, zL1, zL2, zR1, zR2, updE, updLE, zbl_0, zbl_1, nI_1, nI_add, nI_mulR, nI_leI, nI_ltI, nI_0le, nI_lt0, bvE, ↓reduceIte, Nat.reduceEqDiff, Nat.reduceLT, Nat.reduceAdd, Nat.reduceMul, reduceCtorEq, i10, i01, eq_self, or_true, true_or, false_or, or_false, not_true_eq_false, not_false_eq_true, if_true, if_false, eb, m_bits (show kr < 64 by omega)]
                exact rt_s ⟨by rw [kr2], qq⟩
              · simp only [zgi, zgl, zwi, zwf, zjn, zj0, zcl_s, zcv_s, zrd_n, zrl_n, zix_n, zwa_n, zwl_n, zI1, zI2, zL1, zL2, zR1, zR2, updE, updLE, zbl_0, zbl_1, nI_1, nI_add, nI_mulR, nI_leI, nI_ltI, nI_0le, nI_lt0, bvE, ↓reduceIte, Nat.reduceEqDiff, Nat.reduceLT, Nat.reduceAdd, Nat.reduceMul, reduceCtorEq, i10, i01, eq_self, or_true, true_or, false_or, or_false, not_true_eq_false, not_false_eq_true, if_true, if_false]
                exact rt_s ⟨by dsimp only; rw [j1, lz P hP], qq⟩
        · refine ⟨-1, ?_, fun s' hs' => ?_⟩
          · simp only [zgi, zgl, zwi, zwf, zjn, zj0, zcl_s, zcv_s, zrd_n, zrl_n, zix_n, zwa_n, zwl_n, zI1, zI2, zL1, zL2, zR1, zR2, updE, updLE, zbl_0, zbl_1, nI_1, nI_add, nI_mulR, nI_leI, nI_ltI, nI_0le, nI_lt0, bvE, ↓reduceIte, Nat.reduceEqDiff, Nat.reduceLT, Nat.reduceAdd, Nat.reduceMul, reduceCtorEq, i10, i01, eq_self, or_true, true_or, false_or, or_false, not_true_eq_false, not_false_eq_true, if_true, if_false, cFree e3 hP hk, hW', cHasS e4 hQ hj, cEi, hw]; exact rt_s ⟨rfl, frm.rf⟩
          · simp only [zgi, zgl, zwi, zwf, zjn, zj0, zcl_s, zcv_s, zrd_n, zrl_n, zix_n, zwa_n, zwl_n, zI1, zI2, zL1, zL2, zR1, zR2, updE, updLE, zbl_0, zbl_1, nI_1, nI_add, nI_mulR, nI_leI, nI_ltI, nI_0le, nI_lt0, bvE, ↓reduceIte, Nat.reduceEqDiff, Nat.reduceLT, Nat.reduceAdd, Nat.reduceMul, reduceCtorEq, i10, i01, eq_self, or_true, true_or, false_or, or_false, not_true_eq_false, not_false_eq_true, if_true, if_false, mBare (mc s' hs') hk, hs' 226 (show ¬ (202 ≤ 226 ∧ 226 ≤ 215) by omega), hW, mSay (mc s' hs').2.2.2.1 hQ hj, mIn01, hw]; exact rt_s ⟨rfl, qM.rf⟩
      · refine ⟨-1, ?_, fun s' hs' => ?_⟩
        · simp only [zgi, zgl, zwi, zwf, zjn, zj0, zcl_s, zcv_s, zrd_n, zrl_n, zix_n, zwa_n, zwl_n, zI1, zI2, zL1, zL2, zR1, zR2, updE, updLE, zbl_0, zbl_1, nI_1, nI_add, nI_mulR, nI_leI, nI_ltI, nI_0le, nI_lt0, bvE, ↓reduceIte, Nat.reduceEqDiff, Nat.reduceLT, Nat.reduceAdd, Nat.reduceMul, reduceCtorEq, i10, i01, eq_self, or_true, true_or, false_or, or_false, not_true_eq_false, not_false_eq_true, if_true, if_false, cFree e3 hP hk, hW', cHasSN e4 hn]; exact rt_s ⟨rfl, frm.rf⟩
        · simp only [zgi, zgl, zwi, zwf, zjn, zj0, zcl_s, zcv_s, zrd_n, zrl_n, zix_n, zwa_n, zwl_n, zI1, zI2, zL1, zL2, zR1, zR2, updE, updLE, zbl_0, zbl_1, nI_1, nI_add, nI_mulR, nI_leI, nI_ltI, nI_0le, nI_lt0, bvE, ↓reduceIte, Nat.reduceEqDiff, Nat.reduceLT, Nat.reduceAdd, Nat.reduceMul, reduceCtorEq, i10, i01, eq_self, or_true, true_or, false_or, or_false, not_true_eq_false, not_false_eq_true, if_true, if_false, mBare (mc s' hs') hk, hs' 226 (show ¬ (202 ≤ 226 ∧ 226 ≤ 215) by omega), hW, mSayN (mc s' hs').2.2.2.1 hn]; exact rt_s ⟨rfl, qM.rf⟩
    · have hW' : ¬ (gS 10 s).2.1 k = 0 := by rw [g]; exact hW
      refine ⟨-1, ?_, fun s' hs' => ?_⟩
      · simp only [zgi, zgl, zwi, zwf, zjn, zj0, zcl_s, zcv_s, zrd_n, zrl_n, zix_n, zwa_n, zwl_n, zI1, zI2, zL1, zL2, zR1, zR2, updE, updLE, zbl_0, zbl_1, nI_1, nI_add, nI_mulR, nI_leI, nI_ltI, nI_0le, nI_lt0, bvE, ↓reduceIte, Nat.reduceEqDiff, Nat.reduceLT, Nat.reduceAdd, Nat.reduceMul, reduceCtorEq, i10, i01, eq_self, or_true, true_or, false_or, or_false, not_true_eq_false, not_false_eq_true, if_true, if_false, cFree e3 hP hk, hW']; exact rt_s ⟨rfl, frm.rf⟩
      · simp only [zgi, zgl, zwi, zwf, zjn, zj0, zcl_s, zcv_s, zrd_n, zrl_n, zix_n, zwa_n, zwl_n, zI1, zI2, zL1, zL2, zR1, zR2, updE, updLE, zbl_0, zbl_1, nI_1, nI_add, nI_mulR, nI_leI, nI_ltI, nI_0le, nI_lt0, bvE, ↓reduceIte, Nat.reduceEqDiff, Nat.reduceLT, Nat.reduceAdd, Nat.reduceMul, reduceCtorEq, i10, i01, eq_self, or_true, true_or, false_or, or_false, not_true_eq_false, not_false_eq_true, if_true, if_false, mBare (mc s' hs') hk, hs' 226 (show ¬ (202 ≤ 226 ∧ 226 ≤ 215) by omega), hW]; exact rt_s ⟨rfl, qM.rf⟩
  · refine ⟨-1, ?_, fun s' hs' => ?_⟩
    · simp only [zgi, zgl, zwi, zwf, zjn, zj0, zcl_s, zcv_s, zrd_n, zrl_n, zix_n, zwa_n, zwl_n, zI1, zI2, zL1, zL2, zR1, zR2, updE, updLE, zbl_0, zbl_1, nI_1, nI_add, nI_mulR, nI_leI, nI_ltI, nI_0le, nI_lt0, bvE, ↓reduceIte, Nat.reduceEqDiff, Nat.reduceLT, Nat.reduceAdd, Nat.reduceMul, reduceCtorEq, i10, i01, eq_self, or_true, true_or, false_or, or_false, not_true_eq_false, not_false_eq_true, if_true, if_false, cFreeN e3 hn]; exact rt_s ⟨rfl, frm.rf⟩
    · simp only [zgi, zgl, zwi, zwf, zjn, zj0, zcl_s, zcv_s, zrd_n, zrl_n, zix_n, zwa_n, zwl_n, zI1, zI2, zL1, zL2, zR1, zR2, updE, updLE, zbl_0, zbl_1, nI_1, nI_add, nI_mulR, nI_leI, nI_ltI, nI_0le, nI_lt0, bvE, ↓reduceIte, Nat.reduceEqDiff, Nat.reduceLT, Nat.reduceAdd, Nat.reduceMul, reduceCtorEq, i10, i01, eq_self, or_true, true_or, false_or, or_false, not_true_eq_false, not_false_eq_true, if_true, if_false, mBareN (mc s' hs').2.2.1 hn]; exact rt_s ⟨rfl, qM.rf⟩
