/-! smith: the reference's clauses. -/
section MS
variable {t : Nat → Nat} {n q : Nat} {s : ZS}
theorem m_isSmithWord (h : tpM t n s) (hq : q ≤ n) (e : s.1 216 8 = nI q) (hqq : sk t n q = q) : f_Model_isSmithWord s = some (if wixF t q (we t n q) 0 ws10 = -1 then 0 else 1, s) := by
  unfold f_Model_isSmithWord
  rw [wix10]
  have a0 : ¬ (0 : Int32) = -1 := by decide
  have a1 : ¬ (1 : Int32) = -1 := by decide
  have a2 : ¬ (2 : Int32) = -1 := by decide
  have a3 : ¬ (3 : Int32) = -1 := by decide
  have a4 : ¬ (4 : Int32) = -1 := by decide
  rw [m_isWord lt_smith h hq e hqq, zcl_s]
  split
  · simp only [i10, not_false_eq_true, ↓reduceIte, a0, zbl_1]
  · simp only [not_true_eq_false, ↓reduceIte]
    rw [m_isWord lt_pair h hq e hqq, zcl_s]
    split
    · simp only [i10, not_false_eq_true, ↓reduceIte, a1, zbl_1]
    · simp only [not_true_eq_false, ↓reduceIte]
      rw [m_isWord lt_saying h hq e hqq, zcl_s]
      split
      · simp only [i10, not_false_eq_true, ↓reduceIte, a2, zbl_1]
      · simp only [not_true_eq_false, ↓reduceIte]
        rw [m_isWord lt_minds h hq e hqq, zcl_s]
        split
        · simp only [i10, not_false_eq_true, ↓reduceIte, a3, zbl_1]
        · simp only [not_true_eq_false, ↓reduceIte]
          rw [m_isWord lt_near h hq e hqq, zcl_s]
          split
          · simp only [i10, ↓reduceIte, a4, zbl_1]
          · simp only [↓reduceIte, zbl_0]
theorem m_line {c P Q : Nat} {M : Nat → Int32} (h : tpM t n s) (hq : q ≤ n) (e : s.1 216 8 = nI q) (hqq : sk t n q = q) (e9 : s.1 216 9 = 0) (hM : s.1 222 = M) (hI : smI c (P, Q, M)) (hw : ¬ wixF t q (we t n q) 0 ws10 = -1) : rt (f_Model_smithLineHere (nI q) s) (fun w => dW n (if ¬ (wixF t q (we t n q) 0 ws10 = 0 ↔ c = 0) ∨ (wixF t q (we t n q) 0 ws10 = 1 ∧ 5 ≤ P) ∨ (wixF t q (we t n q) 0 ws10 = 2 ∧ 6 ≤ Q) then .inl (1 + 8 * q + 4) else smW t n (we t n q) (wixF t q (we t n q) 0 ws10) (P, Q, M)) s w) := by
  have hn4 := h.1
  obtain ⟨a1, a2, a3, a4, a5, a6, _⟩ := hI
  dsimp only at a1 a2 a3 a4 a5 a6
  have r0 : s.1 222 0 = M 0 := by rw [hM]
  have d01 : ¬ (0 : Int32) = 1 := by decide
  have d02 : ¬ (0 : Int32) = 2 := by decide
  have d10 : ¬ (1 : Int32) = 0 := by decide
  have d12 : ¬ (1 : Int32) = 2 := by decide
  have d20 : ¬ (2 : Int32) = 0 := by decide
  have d21 : ¬ (2 : Int32) = 1 := by decide
  have d30 : ¬ (3 : Int32) = 0 := by decide
  have d31 : ¬ (3 : Int32) = 1 := by decide
  have d32 : ¬ (3 : Int32) = 2 := by decide
  have d40 : ¬ (4 : Int32) = 0 := by decide
  have d41 : ¬ (4 : Int32) = 1 := by decide
  have d42 : ¬ (4 : Int32) = 2 := by decide
  have d43 : ¬ (4 : Int32) = 3 := by decide
  have b4 : ∀ r : Sum Nat (Nat × ZA), r = .inl (1 + 8 * q + 4) → rt (zcl (f_Model_fails (4 : Int32) (nI q) s) (fun v s => zbl v s)) (fun w => dW n r s w) := fun r hr => m_bad (k := 4) hn4 hq (by omega) e9 hr
  unfold f_Model_smithLineHere
  rw [m_isWord lt_smith h hq e hqq, zcl_s]
  rw [wix10] at hw ⊢
  by_cases w0 : isW t q (we t n q) [115, 109, 105, 116, 104]
  · simp only [if_pos w0, ↓reduceIte, i10, true_iff, d01, d02, false_and, or_false, smW]
    by_cases c0 : c = 0
    · simp only [c0, not_true_eq_false, ↓reduceIte]
      exact dW_bl (m_w0 h hq e e9 hM (a5 c0))
    · simp only [c0, not_false_eq_true, ↓reduceIte]
      refine dW_bl ?_
      unfold f_Model_isSmithHere
      have hM1 : ¬ (1 : Int32) ≤ 0 := by decide
      simp only [zgi, r0, (a6 (by omega)).1, hM1, ↓reduceIte]
      exact b4 _ rfl
  · simp only [if_neg w0, ↓reduceIte, zgi, r0] at hw ⊢
    by_cases c0 : c = 0
    · simp only [a5 c0, not_true_eq_false, ↓reduceIte]
      have hz : ¬ ((if isW t q (we t n q) [112, 97, 105, 114] then (1 : Int32) else if isW t q (we t n q) [115, 97, 121, 105, 110, 103] then 2 else if isW t q (we t n q) [109, 105, 110, 100, 115] then 3 else if isW t q (we t n q) [110, 101, 97, 114] then 4 else -1) = 0 ↔ c = 0) := by
        intro z
        have := z.mpr c0
        split at this
        · exact d10 this
        · split at this
          · exact d20 this
          · split at this
            · exact d30 this
            · split at this
              · exact d40 this
              · exact absurd this (by decide)
      rw [if_pos (Or.inl hz)]
      exact b4 _ rfl
    · simp only [(a6 (by omega)).1, i10, not_false_eq_true, ↓reduceIte]
      rw [m_isWord lt_pair h hq e hqq, zcl_s]
      by_cases w1 : isW t q (we t n q) [112, 97, 105, 114]
      · simp only [if_pos w1, ↓reduceIte, i10, d10, c0, d12, false_and, or_false, not_true_eq_false, false_or, true_and, smW]
        by_cases h5 : 5 ≤ P
        · have e5 : P = 5 := by omega
          simp only [h5, ↓reduceIte]
          refine dW_bl ?_
          unfold f_Model_isPairHere
          have r3 : s.1 222 3 = 5 := by rw [hM, a3, e5]; rfl
          simp only [zgi, r3, not_true_eq_false, ↓reduceIte]
          exact b4 _ rfl
        · simp only [h5, ↓reduceIte]
          exact dW_bl (m_w1 (by omega) h hq e e9 hM a3)
      · simp only [if_neg w1, ↓reduceIte] at hw ⊢
        rw [m_isWord lt_saying h hq e hqq, zcl_s]
        by_cases w2 : isW t q (we t n q) [115, 97, 121, 105, 110, 103]
        · simp only [if_pos w2, ↓reduceIte, i10, d20, d21, c0, false_and, not_true_eq_false, false_or, true_and, smW]
          by_cases h6 : 6 ≤ Q
          · have e6 : Q = 6 := by omega
            simp only [h6, ↓reduceIte]
            refine dW_bl ?_
            unfold f_Model_isSayingHere
            have r4 : s.1 222 4 = 6 := by rw [hM, a4, e6]; rfl
            simp only [zgi, r4, not_true_eq_false, ↓reduceIte]
            exact b4 _ rfl
          · simp only [h6, ↓reduceIte]
            exact dW_bl (m_w2 (by omega) h hq e e9 hM a4)
        · simp only [if_neg w2, ↓reduceIte] at hw ⊢
          rw [m_isWord lt_minds h hq e hqq, zcl_s]
          by_cases w3 : isW t q (we t n q) [109, 105, 110, 100, 115]
          · simp only [if_pos w3, ↓reduceIte, i10, d30, d31, d32, c0, false_and, not_true_eq_false, or_false, smW]
            exact dW_bl (m_w3 a1 a2 h hq e e9 hM a3 a4)
          · simp only [if_neg w3, ↓reduceIte] at hw ⊢
            have w4 : isW t q (we t n q) [110, 101, 97, 114] := Classical.byContradiction (fun z => hw (if_neg z))
            simp only [if_pos w4, ↓reduceIte, d40, d41, d42, d43, c0, false_and, not_true_eq_false, or_false, smW]
            exact dW_bl (m_w4 a1 h hq e e9 hM a3)
theorem m_smC {p c P Q : Nat} {M : Nat → Int32} (hc : c ≤ 40) (h : tpM t n s) (hp : p ≤ n) (e : s.1 216 8 = nI p) (e9 : s.1 216 9 = 0) (e11 : s.1 216 11 = nI 6) (e14 : s.1 216 14 = nI c) (hM : s.1 222 = M) (hI : smI c (P, Q, M)) :
    rt (f_Model_clauseHere s) (fun w => (∀ b, b ≠ 216 → b ≠ 222 → w.2.1 b = s.1 b) ∧ (∀ j, ¬ (8 ≤ j ∧ j ≤ 10 ∨ j = 14) → w.2.1 216 j = s.1 216 j) ∧ w.2.2 = s.2 ∧ ((∃ f, smC t n c p (P, Q, M) = .inl f ∧ w.1 = 0 ∧ 0 < f ∧ f < 100000 ∧ w.2.1 216 9 = nI f) ∨ ∃ y, smC t n c p (P, Q, M) = .inr y ∧ w.1 = 1 ∧ y.1 ≤ n ∧ w.2.1 216 8 = nI y.1 ∧ w.2.1 216 9 = 0 ∧ w.2.1 222 = y.2.2.2 ∧ w.2.1 216 14 = nI (c + 1))) := by
  have hn4 := h.1
  obtain ⟨_, hq, _, _⟩ := sk_s (t := t) hp
  have hqq := sk_sk (t := t) hp
  unfold f_Model_clauseHere smC
  rw [m_next h hp e, zcl_s]
  dsimp only
  generalize sk t n p = q at hq hqq
  have k1 : mK s (zsI s 216 8 (nI q)) := mK.rf.I (by omega)
  have e1 : (zsI s 216 8 (nI q)).1 216 8 = nI q := by rw [zI1, if_pos rfl, updE, if_pos rfl]
  have f1 : (zsI s 216 8 (nI q)).1 216 9 = 0 := by rw [zI1, if_pos rfl, updE, if_neg (by omega)]; exact e9
  have g11 : (zsI s 216 8 (nI q)).1 216 11 = 6 := by rw [zI1, if_pos rfl, updE, if_neg (by omega)]; exact e11
  have g14 : (zsI s 216 8 (nI q)).1 216 14 = nI c := by rw [zI1, if_pos rfl, updE, if_neg (by omega)]; exact e14
  generalize zsI s 216 8 (nI q) = s1 at k1 e1 f1 g11 g14
  have h1 := h.k k1
  have fin : ∀ w : Int32 × ZS, ∀ r : Sum Nat (Nat × ZA), (∃ f, r = .inl f) → dW n r s1 w → (∀ b, b ≠ 216 → b ≠ 222 → w.2.1 b = s.1 b) ∧ (∀ j, ¬ (8 ≤ j ∧ j ≤ 10 ∨ j = 14) → w.2.1 216 j = s.1 216 j) ∧ w.2.2 = s.2 ∧ ((∃ f, r = .inl f ∧ w.1 = 0 ∧ 0 < f ∧ f < 100000 ∧ w.2.1 216 9 = nI f) ∨ ∃ y, r = .inr y ∧ w.1 = 1 ∧ y.1 ≤ n ∧ w.2.1 216 8 = nI y.1 ∧ w.2.1 216 9 = 0 ∧ w.2.1 222 = y.2.2.2 ∧ w.2.1 216 14 = nI (c + 1)) := by
    rintro w r ⟨f, hr⟩ ⟨d1, d2⟩
    refine ⟨fun b x y => by rw [d1.1 b x y, k1.1 b x], fun j x => by rw [d1.2.1 j (by omega), k1.2.1 j (by omega)], by rw [d1.2.2, k1.2.2], ?_⟩
    rcases d2 with d2 | ⟨y, d2, _⟩
    · exact Or.inl d2
    · rw [hr] at d2; cases d2
  simp only [zgi, g11, not_true_eq_false, ↓reduceIte, zjn, zj0, i10, e1]
  rw [m_isSmithWord h1 hq e1 hqq, zcl_s]
  by_cases hw : wixF t q (we t n q) 0 ws10 = -1
  · simp only [hw, ↓reduceIte, not_true_eq_false]
    exact (m_bad (k := 0) hn4 hq (by omega) f1 rfl).mono (fun w hh => fin w _ ⟨_, rfl⟩ hh)
  · simp only [hw, ↓reduceIte, i10, not_false_eq_true, g14]
    by_cases h40 : 40 ≤ c
    · have e40 : nI c = 40 := by rw [show c = 40 by omega]; rfl
      rw [if_neg (fun z => z e40), if_pos (Or.inl h40)]
      exact (m_bad (k := 4) hn4 hq (by omega) f1 rfl).mono (fun w hh => fin w _ ⟨_, rfl⟩ hh)
    · have e40 : ¬ nI c = 40 := by rw [show (40 : Int32) = nI 40 from rfl, nI_inj (by omega) (by omega)]; omega
      rw [if_pos e40]
      simp only [zwi, nI_1, h40, false_or]
      have k2 : ∀ j, j ≠ 14 → (zsI s1 216 14 (nI (c + 1))).1 216 j = s1.1 216 j := fun j hj => by rw [zI1, if_pos rfl, updE, if_neg hj]
      have k3 : ∀ b, b ≠ 216 → (zsI s1 216 14 (nI (c + 1))).1 b = s1.1 b := fun b hb => by rw [zI1, if_neg hb]
      have k4 : (zsI s1 216 14 (nI (c + 1))).1 216 14 = nI (c + 1) := by rw [zI1, if_pos rfl, updE, if_pos rfl]
      have k5 : (zsI s1 216 14 (nI (c + 1))).2 = s1.2 := rfl
      generalize zsI s1 216 14 (nI (c + 1)) = s2 at k2 k3 k4 k5
      have h2 : tpM t n s2 := ⟨h1.1, h1.2.1, by rw [k2 1 (by omega)]; exact h1.2.2.1, fun k => by rw [k3 217 (by omega)]; exact h1.2.2.2 k⟩
      refine (dW_bl (m_line (c := c) (P := P) (Q := Q) (M := M) h2 hq (by rw [k2 8 (by omega)]; exact e1) hqq (by rw [k2 9 (by omega)]; exact f1) (by rw [k3 222 (by omega), k1.1 222 (by omega)]; exact hM) hI hw)).mono ?_
      rintro w ⟨d1, d2⟩
      refine ⟨fun b x y => by rw [d1.1 b x y, k3 b x, k1.1 b x], fun j x => by rw [d1.2.1 j (by omega), k2 j (by omega), k1.2.1 j (by omega)], by rw [d1.2.2, k5, k1.2.2], ?_⟩
      rcases d2 with d2 | ⟨y, y1, y2, y3, y4, y5, y6⟩
      · exact Or.inl d2
      · exact Or.inr ⟨y, y1, y2, y3, y4, y5, y6, by rw [d1.2.1 14 (by omega)]; exact k4⟩
end MS
