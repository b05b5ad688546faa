/-! bring, the step. -/
theorem st_bring (p y0 w0 : Int32) : stp (f_Ring_bring p y0 w0) (f_Model_bring p y0 w0) := by
  refine stq (fun s hR => ?_)
  obtain ⟨R, P, Q, h1, h2, h3, h4, h5, h6, h7⟩ := id hR
  have hP := h3.1.1
  have hQ := h3.1.2.1
  have g := h3.g
  have e3 : s.1 4 3 = nI P := h3.cC.2.2.1
  have e4 : s.1 4 4 = nI Q := h3.cC.2.2.2.1
  have hok := h3.2.2.2.1.1
  have mc : ∀ s' : ZS, (∀ b, ¬ (202 ≤ b ∧ b ≤ 215) → s'.1 b = s.1 b) → cM P Q (s.1 226) s' := fun s' hs' => by unfold cM; rw [hs' 226 (by omega)]; exact h3.cM
  have hin : ∀ s' : ZS, f_Model_in y0.toInt64 1 120 s' = some (if (1 : Int32) ≤ y0 ∧ y0 ≤ 120 then 1 else 0, s') := fun s' => mIn (by decide) (by decide)
  unfold f_Ring_bring f_Model_bring
  rcases pN p P (by omega) with ⟨k, hk, rfl⟩ | hn
  · have hk5 : k < 5 := by omega
    by_cases hW : (gM (s.1 226)).2.1 k = 0
    · have hW' : (gS 10 s).2.1 k = 0 := by rw [g]; exact hW
      rcases nIn y0 1 120 (by omega) (by omega) with ⟨y, y1, y2, rfl⟩ | hno
      · have hy : (1 : Int32) ≤ nI y ∧ nI y ≤ 120 := ⟨by rw [l1, nI_leI (by omega) (by omega)]; omega, by rw [show (120 : Int32) = nI 120 from rfl, nI_leI (by omega) (by omega)]; exact y2⟩
        have a1 : ¬ nI y < 1 := Int32.not_lt.mpr hy.1
        have a2 : ¬ (120 : Int32) < nI y := Int32.not_lt.mpr hy.2
        by_cases hw : w0 = 0 ∨ w0 = 1
        · obtain ⟨pat, _, hp9, hpt⟩ := h3.1.2.2.2.2.2.1 k hk
          obtain ⟨t0, _, ht, hT⟩ := (hok k hk5).2.2
          have hT1 : s.1 11 k = nI t0 := by rw [rT10 hk5, g]; exact hT
          have hu0 : ∀ j, ∃ n, j < Q → wgt (s.1 226) k j = nI n ∧ n ≤ 29 := fun j => by
            by_cases hj : j < Q
            · obtain ⟨n, _, n2, n3⟩ := wgt_iN h3.1 (p := k) (q := j) hk5 (by omega)
              exact ⟨n, fun _ => ⟨n3, n2⟩⟩
            · exact ⟨0, fun e => absurd e hj⟩
          obtain ⟨u, hu⟩ := Classical.skolem.mp hu0
          have hpc : s.1 6 k = nI pat := (h3.cC.2.2.2.2.2.2.1 k hk).trans hpt
          have t00 : ¬ nI t0 < 0 := Int32.not_lt.mpr (nI_pos' (by omega))
          -- the reference up to the table
          have mS : ∀ s' : ZS, (∀ b, ¬ (202 ≤ b ∧ b ≤ 215) → s'.1 b = s.1 b) → ∀ K : ZS → Option (Int32 × ZS), ∃ s2, zlp zN (f_Model_bring_B36 (nI k) (nI y) K) (120 : Int32) s' = K s2 ∧ f_Model_leastNeeded (nI k) (nI t0) (nI y) s2 = some (nI ((bT u Q pat y t0).getD 9999), s2) ∧ f_Model_temperOf (nI k) s2 = some (nI t0, s2) ∧ (∀ q, q < Q → ∃ v, f_Model_neededBy (nI k) (nI t0) (nI q) (nI y) s2 = some (v, s2) ∧ nV 9999 (bN u pat y (bT u Q pat y) t0 q) v) ∧ qM s' s2 := by
            intro s' hs' K
            have e226 : s'.1 226 = s.1 226 := hs' 226 (by omega)
            obtain ⟨s2, r2, tb, F2⟩ := m_tab (y := y) (pat := pat) (u := u) (mc s' hs') hQ hk5 hu (by rw [e226]; exact hpt) hp9 y2 K
            have e2 : s2.1 226 = s.1 226 := (F2 226 (by omega)).trans e226
            have hc2 : cM P Q (s.1 226) s2 := by unfold cM; rw [e2]; exact h3.cM
            have hp2 : s2.1 226 (57 + k) = nI pat := by rw [e2]; exact hpt
            refine ⟨s2, r2, m_least hc2 hQ hk5 hu hp2 hp9 y2 ht (fun r _ h => tb r h), ?_, fun q hq => m_need hc2 hQ hk5 hq hu hp2 hp9 y2 ht (fun r _ h => tb r h), ⟨fun b hb => F2 b (by omega), fun j _ => by rw [F2 216 (by omega)]⟩⟩
            rw [mTemper hk5, e2, hT]
          cases eT : bT u Q pat y t0 with
          | none =>
            refine ⟨-2, ?_, fun s' hs' => ?_⟩
            · unfold f_Hand_bringing
              simp (disch := omega) only [cFree e3 hP hk, hW', zcl_s, ↓reduceIte, i10, a1, a2, cEi, hw, not_false_eq_true, zrd_n, hT1, t00, zj0]
              by_cases hty : t0 ≤ y
              · have hle : nI t0 ≤ nI y := by rw [nI_leI (by omega) (by omega)]; exact hty
                obtain ⟨s2, r2, tb, F2⟩ := c_tab (t0 := t0) (y := y) (pat := pat) (u := u) h3.cC hQ hk hk5 hu hpc hp9 y2 hty (fun (s5 : ZS) => zrd 121 (nI t0) (s5.1 214) (fun (v7 : Int32) => (if v7 < (1000000 : Int32) then (if ¬ w0 = 0 then zcl (f_Hand_firstBringing (nI k) (nI y) (nI t0) s5) (fun (v9 : Int32) (s8 : ZS) => some (v9, s8)) else zrd 121 (nI t0) (s5.1 214) (fun (v10 : Int32) => some (v10, s5))) else some ((-2 : Int32), s5))))
                rw [if_pos hle]
                have key : rt (zlp zN (f_Hand_bringing_B31 (nI k) (nI y) (nI t0) (fun (s5 : ZS) => zrd 121 (nI t0) (s5.1 214) (fun (v7 : Int32) => (if v7 < (1000000 : Int32) then (if ¬ w0 = 0 then zcl (f_Hand_firstBringing (nI k) (nI y) (nI t0) s5) (fun (v9 : Int32) (s8 : ZS) => some (v9, s8)) else zrd 121 (nI t0) (s5.1 214) (fun (v10 : Int32) => some (v10, s5))) else some ((-2 : Int32), s5))))) (nI y) s) (fun w_1 => w_1.1 = -2 ∧ frm (fun b => 202 ≤ b ∧ b ≤ 215) s w_1.2) := by
                  rw [r2]
                  have nl : ¬ nI 1000000 < (1000000 : Int32) := by decide
                  simp (disch := omega) only [zrd_n, tb t0 (Nat.le_refl _) hty, eT, Option.getD_none, nl, ↓reduceIte]
                  exact rt_s ⟨rfl, F2.sub (fun b hb => by omega)⟩
                exact rt_cl key (fun v s h => rt_s h)
              · have hle : ¬ nI t0 ≤ nI y := by rw [nI_leI (by omega) (by omega)]; exact hty
                simp only [hle, ↓reduceIte, zcl_s]; exact rt_s ⟨rfl, frm.rf⟩
            · have e226 : s'.1 226 = s.1 226 := hs' 226 (by omega)
              simp (disch := omega) only [mBare (mc s' hs') hk, e226, hW, ↓reduceIte, zcl_s, i10, hin, hy, and_self, mIn01, hw, not_false_eq_true, zj0]
              obtain ⟨s2, r2, l2', t2, _, q2⟩ := mS s' hs' (fun (s10 : ZS) => zcl (f_Model_temperOf (nI k) s10) (fun (v13 : Int32) (s12 : ZS) => zcl (f_Model_leastNeeded (nI k) v13 (nI y) s12) (fun (v15 : Int32) (s14 : ZS) => (if v15 < (9999 : Int32) then (if ¬ w0 = 0 then zlp zN (f_Model_bring_B116 (nI k) (nI y) v15) (0 : Int32) s14 else some (v15, s14)) else some ((-2 : Int32), s14)))))
              have nl : ¬ nI 9999 < (9999 : Int32) := by decide
              rw [r2, t2, zcl_s, l2', zcl_s, eT]
              simp only [Option.getD_none, nl, ↓reduceIte]
              exact rt_s ⟨rfl, q2⟩
          | some n =>
            have hn9 := bT_b t0 n eT
            have hty : t0 ≤ y := Nat.le_of_not_lt (fun e => by
              have := bG_y u Q pat y 121 t0 ht e
              rw [show bT u Q pat y t0 = bG u Q pat y 121 t0 from rfl, this] at eT; cases eT)
            have hle : nI t0 ≤ nI y := by rw [nI_leI (by omega) (by omega)]; exact hty
            have fx := bT_fix u Q pat y hp9 y2 ht
            rw [eT] at fx
            obtain ⟨q0, q1, q2, q3⟩ := least_q Q (bL_first u pat y Q fx.symm)
            refine ⟨if w0 = 0 then nI n else nI q0, ?_, fun s' hs' => ?_⟩
            · unfold f_Hand_bringing
              simp (disch := omega) only [cFree e3 hP hk, hW', zcl_s, ↓reduceIte, i10, a1, a2, cEi, hw, not_false_eq_true, zrd_n, hT1, t00, zj0]
              rw [if_pos hle]
              have key : rt (zlp zN (f_Hand_bringing_B31 (nI k) (nI y) (nI t0) (fun (s5 : ZS) => zrd 121 (nI t0) (s5.1 214) (fun (v7 : Int32) => (if v7 < (1000000 : Int32) then (if ¬ w0 = 0 then zcl (f_Hand_firstBringing (nI k) (nI y) (nI t0) s5) (fun (v9 : Int32) (s8 : ZS) => some (v9, s8)) else zrd 121 (nI t0) (s5.1 214) (fun (v10 : Int32) => some (v10, s5))) else some ((-2 : Int32), s5))))) (nI y) s) (fun w_1 => w_1.1 = (if w0 = 0 then nI n else nI q0) ∧ frm (fun b => 202 ≤ b ∧ b ≤ 215) s w_1.2) := by
                obtain ⟨s2, r2, tb, F2⟩ := c_tab (t0 := t0) (y := y) (pat := pat) (u := u) h3.cC hQ hk hk5 hu hpc hp9 y2 hty (fun (s5 : ZS) => zrd 121 (nI t0) (s5.1 214) (fun (v7 : Int32) => (if v7 < (1000000 : Int32) then (if ¬ w0 = 0 then zcl (f_Hand_firstBringing (nI k) (nI y) (nI t0) s5) (fun (v9 : Int32) (s8 : ZS) => some (v9, s8)) else zrd 121 (nI t0) (s5.1 214) (fun (v10 : Int32) => some (v10, s5))) else some ((-2 : Int32), s5))))
                rw [r2]
                have F3 : frm (fun b => 202 ≤ b ∧ b ≤ 215) s s2 := F2.sub (fun b hb => by omega)
                have tt : s2.1 214 t0 = nI n := by rw [tb t0 (Nat.le_refl _) hty, eT]; rfl
                have nl : nI n < (1000000 : Int32) := by rw [show (1000000 : Int32) = nI 1000000 from rfl, nI_ltI (by omega) (by omega)]; omega
                by_cases hw0 : w0 = 0
                · simp (disch := omega) only [zrd_n, tt, nl, ↓reduceIte, hw0, not_true_eq_false]
                  exact rt_s ⟨rfl, F3⟩
                · simp (disch := omega) only [zrd_n, tt, nl, ↓reduceIte, hw0, not_false_eq_true]
                  have hc2 : cC P Q (s.1 226) s2 := h3.cC.f F2 (fun b hb hb2 => by omega)
                  have e42 : s2.1 4 4 = nI Q := hc2.2.2.2.1
                  have nd : ∀ q, q < Q → ∃ v, f_Hand_needed (nI k) (nI y) (nI t0) (nI q) s2 = some (v, s2) ∧ nV 1000000 (bN u pat y (bT u Q pat y) t0 q) v := fun q hq => c_need hc2 hk hk5 hq hu (by rw [F2.1 6 (by omega)]; exact hpc) hp9 y2 ht (fun r h1 h2 => tb r (by omega) h2)
                  have k2 : rt (f_Hand_firstBringing (nI k) (nI y) (nI t0) s2) (fun w_1 => w_1 = (nI q0, s2)) := by
                    unfold f_Hand_firstBringing
                    refine lp_rt q0 (fun i a s1 => s1 = s2 ∧ a = nI i) (by omega) ⟨rfl, rfl⟩ ?_ ?_
                    · rintro i a s1 g hi ⟨rfl, rfl⟩
                      left
                      obtain ⟨v, v1, v2⟩ := nd i (by omega)
                      have ne : ¬ v = nI n := by rw [nV_eq (by omega) (by omega) (by omega) (bNT_b t0 i) v2]; exact q3 i hi
                      have hni : ¬ Q ≤ i := by omega
                      unfold f_Hand_firstBringing_B3
                      simp (disch := omega) only [zgi, e42, nI_leI, hni, ↓reduceIte, v1, zcl_s, zrd_n, tt, ne, not_false_eq_true, nI_1]
                      exact ⟨_, _, rfl, rfl, rfl⟩
                    · rintro a s1 g ⟨rfl, rfl⟩
                      obtain ⟨v, v1, v2⟩ := nd q0 q1
                      have ne : v = nI n := by rw [nV_eq (by omega) (by omega) (by omega) (bNT_b t0 q0) v2]; exact q2
                      have hni : ¬ Q ≤ q0 := by omega
                      unfold f_Hand_firstBringing_B3
                      simp (disch := omega) only [zgi, e42, nI_leI, hni, ↓reduceIte, v1, zcl_s, zrd_n, tt, ne, not_true_eq_false]
                      exact rt_s rfl
                  obtain ⟨v, v1, rfl⟩ := k2
                  rw [v1, zcl_s]
                  exact rt_s ⟨rfl, F3⟩
              simp (disch := omega) only [zrd_n] at key
              exact rt_cl key (fun v s h => rt_s h)
            · have e226 : s'.1 226 = s.1 226 := hs' 226 (by omega)
              simp (disch := omega) only [mBare (mc s' hs') hk, e226, hW, ↓reduceIte, zcl_s, i10, hin, hy, and_self, mIn01, hw, not_false_eq_true, zj0]
              obtain ⟨s2, r2, l2', t2, nd, qq⟩ := mS s' hs' (fun (s10 : ZS) => zcl (f_Model_temperOf (nI k) s10) (fun (v13 : Int32) (s12 : ZS) => zcl (f_Model_leastNeeded (nI k) v13 (nI y) s12) (fun (v15 : Int32) (s14 : ZS) => (if v15 < (9999 : Int32) then (if ¬ w0 = 0 then zlp zN (f_Model_bring_B116 (nI k) (nI y) v15) (0 : Int32) s14 else some (v15, s14)) else some ((-2 : Int32), s14)))))
              have nl : nI n < (9999 : Int32) := by rw [show (9999 : Int32) = nI 9999 from rfl, nI_ltI (by omega) (by omega)]; omega
              rw [r2, t2, zcl_s, l2', zcl_s, eT]
              by_cases hw0 : w0 = 0
              · simp only [Option.getD_some, nl, ↓reduceIte, hw0, not_true_eq_false]
                exact rt_s ⟨rfl, qq⟩
              · simp only [Option.getD_some, nl, ↓reduceIte, hw0, not_false_eq_true]
                refine lp_rt q0 (fun i a s1 => s1 = s2 ∧ a = nI i) (by omega) ⟨rfl, rfl⟩ ?_ ?_
                · rintro i a s1 g hi ⟨rfl, rfl⟩
                  left
                  obtain ⟨v, v1, v2⟩ := nd i (by omega)
                  have ne : ¬ v = nI n := by rw [nV_eq (by omega) (by omega) (by omega) (bNT_b t0 i) v2]; exact q3 i hi
                  unfold f_Model_bring_B116
                  simp only [t2, zcl_s, v1, ne, ↓reduceIte, nI_1]
                  exact ⟨_, _, rfl, rfl, rfl⟩
                · rintro a s1 g ⟨rfl, rfl⟩
                  obtain ⟨v, v1, v2⟩ := nd q0 q1
                  have ne : v = nI n := by rw [nV_eq (by omega) (by omega) (by omega) (bNT_b t0 q0) v2]; exact q2
                  unfold f_Model_bring_B116
                  simp only [t2, zcl_s, v1, ne, ↓reduceIte]
                  exact rt_s ⟨rfl, qq⟩
        · refine ⟨-1, ?_, fun s' hs' => ?_⟩
          · simp only [zgi, zgl, zwi, zwf, zjn, zj0, zcl_s, zcv_s, zrd_n, zrl_n, zix_n, zwa_n, zwl_n, zI1, zI2, zL1, zL2, zR1, zR2, updE, updLE, zbl_0, zbl_1, nI_1, nI_add, nI_mulR, nI_leI, nI_ltI, nI_0le, nI_lt0, bvE, ↓reduceIte, Nat.reduceEqDiff, Nat.reduceLT, Nat.reduceAdd, Nat.reduceMul, reduceCtorEq, i10, i01, eq_self, or_true, true_or, false_or, or_false, not_true_eq_false, not_false_eq_true, if_true, if_false, cFree e3 hP hk, hW', a1, a2, cEi, hw]; exact rt_s ⟨rfl, frm.rf⟩
          · simp only [zgi, zgl, zwi, zwf, zjn, zj0, zcl_s, zcv_s, zrd_n, zrl_n, zix_n, zwa_n, zwl_n, zI1, zI2, zL1, zL2, zR1, zR2, updE, updLE, zbl_0, zbl_1, nI_1, nI_add, nI_mulR, nI_leI, nI_ltI, nI_0le, nI_lt0, bvE, ↓reduceIte, Nat.reduceEqDiff, Nat.reduceLT, Nat.reduceAdd, Nat.reduceMul, reduceCtorEq, i10, i01, eq_self, or_true, true_or, false_or, or_false, not_true_eq_false, not_false_eq_true, if_true, if_false, mBare (mc s' hs') hk, hs' 226 (show ¬ (202 ≤ 226 ∧ 226 ≤ 215) by omega), hW, hin, hy, and_self, mIn01, hw]; exact rt_s ⟨rfl, qM.rf⟩
      · have hno' : ¬ ((1 : Int32) ≤ y0 ∧ y0 ≤ 120) := hno
        refine ⟨-1, ?_, fun s' hs' => ?_⟩
        · by_cases a1 : y0 < 1
          · simp only [zgi, zgl, zwi, zwf, zjn, zj0, zcl_s, zcv_s, zrd_n, zrl_n, zix_n, zwa_n, zwl_n, zI1, zI2, zL1, zL2, zR1, zR2, updE, updLE, zbl_0, zbl_1, nI_1, nI_add, nI_mulR, nI_leI, nI_ltI, nI_0le, nI_lt0, bvE, ↓reduceIte, Nat.reduceEqDiff, Nat.reduceLT, Nat.reduceAdd, Nat.reduceMul, reduceCtorEq, i10, i01, eq_self, or_true, true_or, false_or, or_false, not_true_eq_false, not_false_eq_true, if_true, if_false, cFree e3 hP hk, hW', a1]; exact rt_s ⟨rfl, frm.rf⟩
          · have a2 : (120 : Int32) < y0 := Int32.not_le.mp (fun e => hno' ⟨Int32.not_lt.mp a1, e⟩)
            simp only [zgi, zgl, zwi, zwf, zjn, zj0, zcl_s, zcv_s, zrd_n, zrl_n, zix_n, zwa_n, zwl_n, zI1, zI2, zL1, zL2, zR1, zR2, updE, updLE, zbl_0, zbl_1, nI_1, nI_add, nI_mulR, nI_leI, nI_ltI, nI_0le, nI_lt0, bvE, ↓reduceIte, Nat.reduceEqDiff, Nat.reduceLT, Nat.reduceAdd, Nat.reduceMul, reduceCtorEq, i10, i01, eq_self, or_true, true_or, false_or, or_false, not_true_eq_false, not_false_eq_true, if_true, if_false, cFree e3 hP hk, hW', a1, a2]; exact rt_s ⟨rfl, frm.rf⟩
        · simp only [zgi, zgl, zwi, zwf, zjn, zj0, zcl_s, zcv_s, zrd_n, zrl_n, zix_n, zwa_n, zwl_n, zI1, zI2, zL1, zL2, zR1, zR2, updE, updLE, zbl_0, zbl_1, nI_1, nI_add, nI_mulR, nI_leI, nI_ltI, nI_0le, nI_lt0, bvE, ↓reduceIte, Nat.reduceEqDiff, Nat.reduceLT, Nat.reduceAdd, Nat.reduceMul, reduceCtorEq, i10, i01, eq_self, or_true, true_or, false_or, or_false, not_true_eq_false, not_false_eq_true, if_true, if_false, mBare (mc s' hs') hk, hs' 226 (show ¬ (202 ≤ 226 ∧ 226 ≤ 215) by omega), hW, hin, hno']; exact rt_s ⟨rfl, qM.rf⟩
    · have hW' : ¬ (gS 10 s).2.1 k = 0 := by rw [g]; exact hW
      refine ⟨-1, ?_, fun s' hs' => ?_⟩
      · simp only [zgi, zgl, zwi, zwf, zjn, zj0, zcl_s, zcv_s, zrd_n, zrl_n, zix_n, zwa_n, zwl_n, zI1, zI2, zL1, zL2, zR1, zR2, updE, updLE, zbl_0, zbl_1, nI_1, nI_add, nI_mulR, nI_leI, nI_ltI, nI_0le, nI_lt0, bvE, ↓reduceIte, Nat.reduceEqDiff, Nat.reduceLT, Nat.reduceAdd, Nat.reduceMul, reduceCtorEq, i10, i01, eq_self, or_true, true_or, false_or, or_false, not_true_eq_false, not_false_eq_true, if_true, if_false, cFree e3 hP hk, hW']; exact rt_s ⟨rfl, frm.rf⟩
      · simp only [zgi, zgl, zwi, zwf, zjn, zj0, zcl_s, zcv_s, zrd_n, zrl_n, zix_n, zwa_n, zwl_n, zI1, zI2, zL1, zL2, zR1, zR2, updE, updLE, zbl_0, zbl_1, nI_1, nI_add, nI_mulR, nI_leI, nI_ltI, nI_0le, nI_lt0, bvE, ↓reduceIte, Nat.reduceEqDiff, Nat.reduceLT, Nat.reduceAdd, Nat.reduceMul, reduceCtorEq, i10, i01, eq_self, or_true, true_or, false_or, or_false, not_true_eq_false, not_false_eq_true, if_true, if_false, mBare (mc s' hs') hk, hs' 226 (show ¬ (202 ≤ 226 ∧ 226 ≤ 215) by omega), hW]; exact rt_s ⟨rfl, qM.rf⟩
  · refine ⟨-1, ?_, fun s' hs' => ?_⟩
    · simp only [zgi, zgl, zwi, zwf, zjn, zj0, zcl_s, zcv_s, zrd_n, zrl_n, zix_n, zwa_n, zwl_n, zI1, zI2, zL1, zL2, zR1, zR2, updE, updLE, zbl_0, zbl_1, nI_1, nI_add, nI_mulR, nI_leI, nI_ltI, nI_0le, nI_lt0, bvE, ↓reduceIte, Nat.reduceEqDiff, Nat.reduceLT, Nat.reduceAdd, Nat.reduceMul, reduceCtorEq, i10, i01, eq_self, or_true, true_or, false_or, or_false, not_true_eq_false, not_false_eq_true, if_true, if_false, cFreeN e3 hn]; exact rt_s ⟨rfl, frm.rf⟩
    · simp only [zgi, zgl, zwi, zwf, zjn, zj0, zcl_s, zcv_s, zrd_n, zrl_n, zix_n, zwa_n, zwl_n, zI1, zI2, zL1, zL2, zR1, zR2, updE, updLE, zbl_0, zbl_1, nI_1, nI_add, nI_mulR, nI_leI, nI_ltI, nI_0le, nI_lt0, bvE, ↓reduceIte, Nat.reduceEqDiff, Nat.reduceLT, Nat.reduceAdd, Nat.reduceMul, reduceCtorEq, i10, i01, eq_self, or_true, true_or, false_or, or_false, not_true_eq_false, not_false_eq_true, if_true, if_false, mBareN (mc s' hs').2.2.1 hn]; exact rt_s ⟨rfl, qM.rf⟩
