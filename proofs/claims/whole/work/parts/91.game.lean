/-! game. -/
theorem st_game (p y0 w0 : Int32) : stp (f_Ring_game p y0 w0) (f_Model_game p y0 w0) := by
  refine stq (fun s hR => ?_)
  obtain ⟨R, P, Q, h1, h2, h3, h4, h5, h6, h7⟩ := id hR
  have hP := h3.1.1
  have hQ := h3.1.2.1
  have g := h3.g
  have e3 : s.1 4 3 = nI P := h3.cC.2.2.1
  have hok := h3.2.2.2.1.1
  have mc : ∀ s' : ZS, (∀ b, ¬ (202 ≤ b ∧ b ≤ 215) → s'.1 b = s.1 b) → cM P Q (s.1 226) s' := fun s' hs' => by unfold cM; rw [hs' 226 (by omega)]; exact h3.cM
  have hin : ∀ s' : ZS, f_Model_in y0.toInt64 1 4 s' = some (if (1 : Int32) ≤ y0 ∧ y0 ≤ 4 then 1 else 0, s') := fun s' => mIn (by decide) (by decide)
  unfold f_Ring_game f_Model_game
  rcases pN p P (by omega) with ⟨k, hk, rfl⟩ | hn
  · have hk5 : k < 5 := by omega
    by_cases hW : (gM (s.1 226)).2.1 k = 0
    · have hW' : (gS 10 s).2.1 k = 0 := by rw [g]; exact hW
      rcases nIn y0 1 4 (by omega) (by omega) with ⟨y, y1, y2, rfl⟩ | hno
      · have hy : (1 : Int32) ≤ nI y ∧ nI y ≤ 4 := ⟨by rw [l1, nI_leI (by omega) (by omega)]; omega, by rw [show (4 : Int32) = nI 4 from rfl, nI_leI (by omega) (by omega)]; exact y2⟩
        have a1 : ¬ nI y < 1 := Int32.not_lt.mpr hy.1
        have a2 : ¬ (4 : Int32) < nI y := Int32.not_lt.mpr hy.2
        by_cases hw : w0 = 0 ∨ w0 = 1
        · obtain ⟨pat, _, hp9, hpt⟩ := h3.1.2.2.2.2.2.1 k hk
          obtain ⟨t0, _, ht, hT⟩ := (hok k hk5).2.2
          have hT1 : s.1 11 k = nI t0 := by rw [rT10 hk5, g]; exact hT
          have hu0 : ∀ j, ∃ n, (j < Q → wgt (s.1 226) k j = nI n ∧ n ≤ 29) ∧ (j = Q → n = 3) := fun j => by
            by_cases hj : j < Q
            · obtain ⟨n, _, n2, n3⟩ := wgt_iN h3.1 (p := k) (q := j) hk5 (by omega)
              exact ⟨n, fun _ => ⟨n3, n2⟩, fun e => by omega⟩
            · exact ⟨3, fun e => absurd e hj, fun _ => rfl⟩
          obtain ⟨u, hu2⟩ := Classical.skolem.mp hu0
          have hu : ∀ j, j < Q → wgt (s.1 226) k j = nI (u j) ∧ u j ≤ 29 := fun j => (hu2 j).1
          have hQ3 : u Q = 3 := (hu2 Q).2 rfl
          have hpc : s.1 6 k = nI pat := (h3.cC.2.2.2.2.2.2.1 k hk).trans hpt
          obtain ⟨n, rfl⟩ : ∃ n, y = n + 1 := ⟨y - 1, by omega⟩
          refine ⟨if w0 = 0 then oI (gP u Q pat n true t0 (Q + 1)) else nI (gFi u Q pat n t0 (Q + 1)), ?_, fun s' hs' => ?_⟩
          · obtain ⟨_, r1, rfl⟩ := c_game w0 h3.cC hk hk5 hu hQ3 hpc hp9 (show n < 4 by omega) ht hT1
            simp (disch := omega) only [cFree e3 hP hk, hW', zcl_s, ↓reduceIte, i10, a1, a2, cEi, hw, not_false_eq_true, r1]
            exact rt_s ⟨rfl, frm.rf⟩
          · have e226 : s'.1 226 = s.1 226 := hs' 226 (by omega)
            simp (disch := omega) only [mBare (mc s' hs') hk, e226, hW, ↓reduceIte, zcl_s, i10, hin, hy, and_self, mIn01, hw, not_false_eq_true]
            refine rt_cv (m_plays (n := n + 1) (mc s' hs') hk5 hu hQ3 (by rw [e226]; exact hpt) hp9 (by omega) (by omega) ht (by rw [e226]; exact hT)) ?_
            rintro s2 ⟨F2, v1, v2⟩
            have q2 : qM s' s2 := ⟨fun b hb => F2.1 b (by omega), fun j hj => F2.2 j (by omega)⟩
            rw [show n + 1 - 1 = n from rfl] at v1 v2
            by_cases hw0 : w0 = 0
            · simp only [hw0, not_true_eq_false, ↓reduceIte, zgi]
              exact rt_s ⟨v1, q2⟩
            · simp only [hw0, not_false_eq_true, ↓reduceIte, zgi]
              exact rt_s ⟨v2, q2⟩
        · refine ⟨-1, ?_, fun s' hs' => ?_⟩
          · simp only [zgi, zgl, zwi, zwf, zjn, zj0, zcl_s, zcv_s, zrd_n, zrl_n, zix_n, zwa_n, zwl_n, zI1, zI2, zL1, zL2, zR1, zR2, updE, updLE, zbl_0, zbl_1, nI_1, nI_add, nI_mulR, nI_leI, nI_ltI, nI_0le, nI_lt0, bvE, ↓reduceIte, Nat.reduceEqDiff, Nat.reduceLT, Nat.reduceAdd, Nat.reduceMul, reduceCtorEq, i10, i01, eq_self, or_true, true_or, false_or, or_false, not_true_eq_false, not_false_eq_true, if_true, if_false, cFree e3 hP hk, hW', a1, a2, cEi, hw]; exact rt_s ⟨rfl, frm.rf⟩
          · have e226 : s'.1 226 = s.1 226 := hs' 226 (by omega)
            simp only [zgi, zgl, zwi, zwf, zjn, zj0, zcl_s, zcv_s, zrd_n, zrl_n, zix_n, zwa_n, zwl_n, zI1, zI2, zL1, zL2, zR1, zR2, updE, updLE, zbl_0, zbl_1, nI_1, nI_add, nI_mulR, nI_leI, nI_ltI, nI_0le, nI_lt0, bvE, ↓reduceIte, Nat.reduceEqDiff, Nat.reduceLT, Nat.reduceAdd, Nat.reduceMul, reduceCtorEq, i10, i01, eq_self, or_true, true_or, false_or, or_false, not_true_eq_false, not_false_eq_true, if_true, if_false, mBare (mc s' hs') hk, e226, hW, hin, hy, and_self, mIn01, hw]; exact rt_s ⟨rfl, qM.rf⟩
      · have hno' : ¬ ((1 : Int32) ≤ y0 ∧ y0 ≤ 4) := hno
        refine ⟨-1, ?_, fun s' hs' => ?_⟩
        · by_cases a1 : y0 < 1
          · simp only [zgi, zgl, zwi, zwf, zjn, zj0, zcl_s, zcv_s, zrd_n, zrl_n, zix_n, zwa_n, zwl_n, zI1, zI2, zL1, zL2, zR1, zR2, updE, updLE, zbl_0, zbl_1, nI_1, nI_add, nI_mulR, nI_leI, nI_ltI, nI_0le, nI_lt0, bvE, ↓reduceIte, Nat.reduceEqDiff, Nat.reduceLT, Nat.reduceAdd, Nat.reduceMul, reduceCtorEq, i10, i01, eq_self, or_true, true_or, false_or, or_false, not_true_eq_false, not_false_eq_true, if_true, if_false, cFree e3 hP hk, hW', a1]; exact rt_s ⟨rfl, frm.rf⟩
          · have a2 : (4 : Int32) < y0 := Int32.not_le.mp (fun e => hno' ⟨Int32.not_lt.mp a1, e⟩)
            simp only [zgi, zgl, zwi, zwf, zjn, zj0, zcl_s, zcv_s, zrd_n, zrl_n, zix_n, zwa_n, zwl_n, zI1, zI2, zL1, zL2, zR1, zR2, updE, updLE, zbl_0, zbl_1, nI_1, nI_add, nI_mulR, nI_leI, nI_ltI, nI_0le, nI_lt0, bvE, ↓reduceIte, Nat.reduceEqDiff, Nat.reduceLT, Nat.reduceAdd, Nat.reduceMul, reduceCtorEq, i10, i01, eq_self, or_true, true_or, false_or, or_false, not_true_eq_false, not_false_eq_true, if_true, if_false, cFree e3 hP hk, hW', a1, a2]; exact rt_s ⟨rfl, frm.rf⟩
        · have e226 : s'.1 226 = s.1 226 := hs' 226 (by omega)
          simp only [zgi, zgl, zwi, zwf, zjn, zj0, zcl_s, zcv_s, zrd_n, zrl_n, zix_n, zwa_n, zwl_n, zI1, zI2, zL1, zL2, zR1, zR2, updE, updLE, zbl_0, zbl_1, nI_1, nI_add, nI_mulR, nI_leI, nI_ltI, nI_0le, nI_lt0, bvE, ↓reduceIte, Nat.reduceEqDiff, Nat.reduceLT, Nat.reduceAdd, Nat.reduceMul, reduceCtorEq, i10, i01, eq_self, or_true, true_or, false_or, or_false, not_true_eq_false, not_false_eq_true, if_true, if_false, mBare (mc s' hs') hk, e226, hW, hin, hno']; exact rt_s ⟨rfl, qM.rf⟩
    · have hW' : ¬ (gS 10 s).2.1 k = 0 := by rw [g]; exact hW
      refine ⟨-1, ?_, fun s' hs' => ?_⟩
      · simp only [zgi, zgl, zwi, zwf, zjn, zj0, zcl_s, zcv_s, zrd_n, zrl_n, zix_n, zwa_n, zwl_n, zI1, zI2, zL1, zL2, zR1, zR2, updE, updLE, zbl_0, zbl_1, nI_1, nI_add, nI_mulR, nI_leI, nI_ltI, nI_0le, nI_lt0, bvE, ↓reduceIte, Nat.reduceEqDiff, Nat.reduceLT, Nat.reduceAdd, Nat.reduceMul, reduceCtorEq, i10, i01, eq_self, or_true, true_or, false_or, or_false, not_true_eq_false, not_false_eq_true, if_true, if_false, cFree e3 hP hk, hW']; exact rt_s ⟨rfl, frm.rf⟩
      · have e226 : s'.1 226 = s.1 226 := hs' 226 (by omega)
        simp only [zgi, zgl, zwi, zwf, zjn, zj0, zcl_s, zcv_s, zrd_n, zrl_n, zix_n, zwa_n, zwl_n, zI1, zI2, zL1, zL2, zR1, zR2, updE, updLE, zbl_0, zbl_1, nI_1, nI_add, nI_mulR, nI_leI, nI_ltI, nI_0le, nI_lt0, bvE, ↓reduceIte, Nat.reduceEqDiff, Nat.reduceLT, Nat.reduceAdd, Nat.reduceMul, reduceCtorEq, i10, i01, eq_self, or_true, true_or, false_or, or_false, not_true_eq_false, not_false_eq_true, if_true, if_false, mBare (mc s' hs') hk, e226, hW]; exact rt_s ⟨rfl, qM.rf⟩
  · refine ⟨-1, ?_, fun s' hs' => ?_⟩
    · simp only [zgi, zgl, zwi, zwf, zjn, zj0, zcl_s, zcv_s, zrd_n, zrl_n, zix_n, zwa_n, zwl_n, zI1, zI2, zL1, zL2, zR1, zR2, updE, updLE, zbl_0, zbl_1, nI_1, nI_add, nI_mulR, nI_leI, nI_ltI, nI_0le, nI_lt0, bvE, ↓reduceIte, Nat.reduceEqDiff, Nat.reduceLT, Nat.reduceAdd, Nat.reduceMul, reduceCtorEq, i10, i01, eq_self, or_true, true_or, false_or, or_false, not_true_eq_false, not_false_eq_true, if_true, if_false, cFreeN e3 hn]; exact rt_s ⟨rfl, frm.rf⟩
    · simp only [zgi, zgl, zwi, zwf, zjn, zj0, zcl_s, zcv_s, zrd_n, zrl_n, zix_n, zwa_n, zwl_n, zI1, zI2, zL1, zL2, zR1, zR2, updE, updLE, zbl_0, zbl_1, nI_1, nI_add, nI_mulR, nI_leI, nI_ltI, nI_0le, nI_lt0, bvE, ↓reduceIte, Nat.reduceEqDiff, Nat.reduceLT, Nat.reduceAdd, Nat.reduceMul, reduceCtorEq, i10, i01, eq_self, or_true, true_or, false_or, or_false, not_true_eq_false, not_false_eq_true, if_true, if_false, mBareN (mc s' hs').2.2.1 hn]; exact rt_s ⟨rfl, qM.rf⟩
