/-! benches. -/
theorem bn_id (C : Nat → Int32) (P : Nat) : bnR C P P (fun q => q) := fun p hp => ⟨hp, fun o ho e => by have h : o = p := e.1; omega⟩
theorem bn_u {C : Nat → Int32} {P m m' : Nat} {x x' : Nat → Nat} (h : bnF C P m x) (hn : ∀ k, k < m → ∀ x, ¬ bnR C P k x) (h' : bnF C P m' x') (hn' : ∀ k, k < m' → ∀ x, ¬ bnR C P k x) : m = m' ∧ ∀ p, p < P → x p = x' p := by
  have e : m = m' := by
    by_cases h1 : m < m'
    · exact absurd h.1 (hn' m h1 x)
    · by_cases h2 : m' < m
      · exact absurd h'.1 (hn m' h2 x')
      · omega
  subst e
  exact ⟨rfl, bnF_u h h'⟩
theorem m1lt (P : Nat) (h : P < 1000) : (-1 : Int32) < nI P := Int32.lt_of_lt_of_le (show (-1 : Int32) < 0 by decide) (nI_pos' (by omega))
theorem c_bench {P Q : Nat} {C : Nat → Int32} {s : ZS} {p : Int32} (hc : cC P Q C s) (hp : p = -1 ∨ ∃ k, k < P ∧ p = nI k) : rt (f_Hand_benching p s) (fun w => frm (fun b => b = 215) s w.2 ∧ ∃ m x, m ≤ P ∧ bnF C P m x ∧ (∀ k, k < m → ∀ x, ¬ bnR C P k x) ∧ (p = -1 → w.1 = nI m) ∧ ∀ k, k < P → p = nI k → w.1 = nI (x k)) := by
  have hP := hc.1
  have e3 : s.1 4 3 = nI P := hc.2.2.1
  have hlt : p < nI P := by
    rcases hp with rfl | ⟨k, hk, rfl⟩
    · exact m1lt P (by omega)
    · exact nI_lt hk (by omega)
  unfold f_Hand_benching
  simp only [zgi, e3, hlt, ↓reduceIte]
  have st : ∀ (m : Nat) (s1 : ZS) (g : Int32 → ZS → Option (Int32 × ZS)), m ≤ P → frm (fun b => b = 215) s s1 → (∀ k, k < m → ∀ x, ¬ bnR C P k x) → (∃ s', f_Hand_benching_B21 p (nI P) (nI m) s1 g = g (nI (m + 1)) s' ∧ frm (fun b => b = 215) s s' ∧ ∀ x, ¬ bnR C P m x) ∨ rt (f_Hand_benching_B21 p (nI P) (nI m) s1 g) (fun w => frm (fun b => b = 215) s w.2 ∧ ∃ m x, m ≤ P ∧ bnF C P m x ∧ (∀ k, k < m → ∀ x, ¬ bnR C P k x) ∧ (p = -1 → w.1 = nI m) ∧ ∀ k, k < P → p = nI k → w.1 = nI (x k)) := by
    intro m s1 g hm F hno
    have hn : ¬ P < m := by omega
    obtain ⟨⟨v, s2⟩, r2, F2, hv⟩ := c_seat (m := m) (hc.f F (fun b h1 h2 => by omega)) (by omega)
    dsimp only at F2 hv
    unfold f_Hand_benching_B21
    simp (disch := omega) only [nI_ltI, hn, ↓reduceIte, r2, zcl_s]
    rcases hv with ⟨rfl, x, hF, hcell⟩ | ⟨rfl, hv⟩
    · right
      simp only [i10, ↓reduceIte]
      rcases hp with rfl | ⟨k, hk, rfl⟩
      · have h0 : ¬ (0 : Int32) ≤ -1 := by decide
        simp only [h0, ↓reduceIte]
        refine rt_s ⟨F.tr F2, m, x, hm, hF, hno, fun _ => rfl, fun k hk e => ?_⟩
        rw [nI_n1' (by omega)] at e; cases e
      · simp (disch := omega) only [nI_0le, ↓reduceIte, zrd_n]
        refine rt_s ⟨F.tr F2, m, x, hm, hF, hno, fun e => ?_, fun k2 hk2 e => ?_⟩
        · rw [nI_n1 (by omega)] at e; cases e
        · rw [nI_inj (by omega) (by omega)] at e
          subst e
          exact hcell k hk
    · left
      simp only [↓reduceIte, nI_1]
      exact ⟨s2, rfl, F.tr F2, hv⟩
  refine lp_rt P (fun m a s1 => a = nI m ∧ frm (fun b => b = 215) s s1 ∧ ∀ k, k < m → ∀ x, ¬ bnR C P k x) (by omega) ⟨rfl, frm.rf, fun k h => by omega⟩ ?_ ?_
  · rintro m a s1 g hm ⟨rfl, F, hno⟩
    rcases st m s1 g (by omega) F hno with ⟨s', e, F', hv⟩ | h
    · left
      refine ⟨_, _, e, rfl, F', fun k hk => ?_⟩
      by_cases e2 : k = m
      · rw [e2]; exact hv
      · exact hno k (by omega)
    · exact Or.inr h
  · rintro a s1 g ⟨rfl, F, hno⟩
    rcases st P s1 g (by omega) F hno with ⟨s', e, F', hv⟩ | h
    · exact absurd (bn_id C P) (hv _)
    · exact h
theorem m_bench {P Q : Nat} {C : Nat → Int32} {s : ZS} {k8 : Int32 → ZS → Option (Int32 × ZS)} {Q1 : Int32 × ZS → Prop} (hc : cM P Q C s) (hk : ∀ m x s1, m ≤ P → frm (fun b => b = 231) s s1 → bnF C P m x → (∀ k, k < m → ∀ x, ¬ bnR C P k x) → (∀ q, q < P → s1.1 231 q = nI (x q)) → rt (k8 (nI m) s1) Q1) : rt (zlp zN (f_Model_benches_B26 k8) (0 : Int32) s) Q1 := by
  have hP := hc.1
  have ce : ∀ s1, frm (fun b => b = 231) s s1 → cM P Q C s1 := fun s1 F => by
    unfold cM; rw [F.1 226 (by omega)]; exact hc
  have st : ∀ (m : Nat) (s1 : ZS) (g : Int32 → ZS → Option (Int32 × ZS)), m ≤ P → frm (fun b => b = 231) s s1 → (∀ k, k < m → ∀ x, ¬ bnR C P k x) → (∃ s', f_Model_benches_B26 k8 (nI m) s1 g = g (nI (m + 1)) s' ∧ frm (fun b => b = 231) s s' ∧ ∀ x, ¬ bnR C P m x) ∨ rt (f_Model_benches_B26 k8 (nI m) s1 g) Q1 := by
    intro m s1 g hm F hno
    have hc1 := ce s1 F
    have e3 := hc1.2.2.1
    unfold f_Model_benches_B26
    by_cases hP0 : P = 0
    · right
      have hm0 : m = 0 := by omega
      subst hm0
      have h0 : nI P ≤ 0 := by rw [nI_le0 (by omega)]; exact hP0
      simp only [zgi, e3, h0, ↓reduceIte]
      refine hk 0 (fun q => q) s1 hm F ⟨?_, ?_⟩ hno (fun q hq => by omega)
      · have := bn_id C P; rw [hP0] at this ⊢; exact this
      · rintro z hz ⟨i, hi, _⟩; omega
    · have h0 : ¬ nI P ≤ 0 := by rw [nI_le0 (by omega)]; exact hP0
      obtain ⟨⟨v, s2⟩, r2, F2, hv⟩ := m_enough (m := m) hc1 (by omega) (by omega)
      dsimp only at F2 hv
      simp only [zgi, e3, h0, ↓reduceIte, r2, zcl_s]
      rcases hv with ⟨rfl, x, hF, hcell⟩ | ⟨rfl, hv⟩
      · right
        simp only [i10, not_false_eq_true, ↓reduceIte]
        exact hk m x s2 hm (F.tr F2) hF hno hcell
      · left
        simp only [not_true_eq_false, ↓reduceIte, nI_1]
        exact ⟨s2, rfl, F.tr F2, hv⟩
  refine lp_rt P (fun m a s1 => a = nI m ∧ frm (fun b => b = 231) s s1 ∧ ∀ k, k < m → ∀ x, ¬ bnR C P k x) (by omega) ⟨rfl, frm.rf, fun k h => by omega⟩ ?_ ?_
  · rintro m a s1 g hm ⟨rfl, F, hno⟩
    rcases st m s1 g (by omega) F hno with ⟨s', e, F', hv⟩ | h
    · left
      refine ⟨_, _, e, rfl, F', fun k hk => ?_⟩
      by_cases e2 : k = m
      · rw [e2]; exact hv
      · exact hno k (by omega)
    · exact Or.inr h
  · rintro a s1 g ⟨rfl, F, hno⟩
    rcases st P s1 g (by omega) F hno with ⟨s', e, F', hv⟩ | h
    · exact absurd (bn_id C P) (hv _)
    · exact h
theorem st_benches (p : Int32) : stp (f_Ring_benches p) (f_Model_benches p) := by
  refine stq (fun s hR => ?_)
  obtain ⟨R, P, Q, h1, h2, h3, h4, h5, h6, h7⟩ := id hR
  have hP := h3.1.1
  have hin : ∀ s' : ZS, f_Model_in p.toInt64 (-1) 4 s' = some (if (-1 : Int32) ≤ p ∧ p ≤ 4 then 1 else 0, s') := fun s' => mIn (by decide) (by decide)
  have mc : ∀ s' : ZS, (∀ b, ¬ (202 ≤ b ∧ b ≤ 215) → s'.1 b = s.1 b) → cM P Q (s.1 226) s' := fun s' hs' => by unfold cM; rw [hs' 226 (by omega)]; exact h3.cM
  have f231 : ∀ {s' s1 : ZS}, frm (fun b => b = 231) s' s1 → qM s' s1 := fun F => ⟨fun b hb => F.1 b (by omega), fun j _ => by rw [F.1 216 (by omega)]⟩
  unfold f_Ring_benches f_Model_benches
  rcases told_c h3 with ⟨c0, m0⟩ | ⟨c0, m0⟩
  · refine ⟨-3, ?_, fun s' hs' => ?_⟩
    · simp only [zgi, zgl, zwi, zwf, zjn, zj0, zcl_s, zcv_s, zrd_n, zrl_n, zix_n, zwa_n, zwl_n, zI1, zI2, zL1, zL2, zR1, zR2, updE, updLE, zbl_0, zbl_1, nI_1, nI_add, nI_mulR, nI_leI, nI_ltI, nI_0le, nI_lt0, bvE, ↓reduceIte, Nat.reduceEqDiff, Nat.reduceLT, Nat.reduceAdd, Nat.reduceMul, reduceCtorEq, i10, i01, eq_self, or_true, true_or, false_or, or_false, not_true_eq_false, not_false_eq_true, if_true, if_false, c0]; exact rt_s ⟨rfl, frm.rf⟩
    · have m0' : s'.1 226 0 = 0 := by rw [hs' 226 (by omega)]; exact m0
      simp only [zgi, zgl, zwi, zwf, zjn, zj0, zcl_s, zcv_s, zrd_n, zrl_n, zix_n, zwa_n, zwl_n, zI1, zI2, zL1, zL2, zR1, zR2, updE, updLE, zbl_0, zbl_1, nI_1, nI_add, nI_mulR, nI_leI, nI_ltI, nI_0le, nI_lt0, bvE, ↓reduceIte, Nat.reduceEqDiff, Nat.reduceLT, Nat.reduceAdd, Nat.reduceMul, reduceCtorEq, i10, i01, eq_self, or_true, true_or, false_or, or_false, not_true_eq_false, not_false_eq_true, if_true, if_false, m_isSmithy, m0']; exact rt_s ⟨rfl, qM.rf⟩
  · by_cases hp : (-1 : Int32) ≤ p ∧ p ≤ 4
    · have a1 : ¬ p < -1 := Int32.not_lt.mpr hp.1
      have a2 : p < 5 := by
        have h1 := hp.2
        rw [Int32.le_iff_toInt_le] at h1
        rw [Int32.lt_iff_toInt_lt]
        have e4 : (4 : Int32).toInt = 4 := by decide
        have e5 : (5 : Int32).toInt = 5 := by decide
        omega
      by_cases hq : p = -1 ∨ ∃ k, k < P ∧ p = nI k
      · obtain ⟨⟨v, s1⟩, r1, F1, m, x, hm, hF, hno, hv1, hv2⟩ := c_bench h3.cC hq
        dsimp only at F1 hv1 hv2
        refine ⟨v, ?_, fun s' hs' => ?_⟩
        · simp only [zgi, zgl, zwi, zwf, zjn, zj0, zcl_s, zcv_s, zrd_n, zrl_n, zix_n, zwa_n, zwl_n, zI1, zI2, zL1, zL2, zR1, zR2, updE, updLE, zbl_0, zbl_1, nI_1, nI_add, nI_mulR, nI_leI, nI_ltI, nI_0le, nI_lt0, bvE, ↓reduceIte, Nat.reduceEqDiff, Nat.reduceLT, Nat.reduceAdd, Nat.reduceMul, reduceCtorEq, i10, i01, eq_self, or_true, true_or, false_or, or_false, not_true_eq_false, not_false_eq_true, if_true, if_false, c0, a1, a2, r1]
          exact rt_s ⟨rfl, F1.sub (fun b hb => by omega)⟩
        · have m0' : s'.1 226 0 = 1 := by rw [hs' 226 (by omega)]; exact m0
          simp only [zcl_s, m_isSmithy, m0', i10, ↓reduceIte, hin, hp, and_self, not_false_eq_true, zjn]
          refine m_bench (mc s' hs') (fun m' x' s2 hm' F2 hF' hno' hcell => ?_)
          obtain ⟨rfl, hx⟩ := bn_u hF hno hF' hno'
          rcases hq with rfl | ⟨k, hk, rfl⟩
          · simp only [not_true_eq_false, ↓reduceIte]
            exact rt_s ⟨(hv1 rfl).symm, f231 F2⟩
          · have e3 : s2.1 226 3 = nI P := by rw [F2.1 226 (by omega)]; exact (mc s' hs').2.2.1
            simp (disch := omega) only [nI_n1, not_false_eq_true, ↓reduceIte, mPair e3 hP hk, zcl_s, i10, zrd_n]
            exact rt_s ⟨by dsimp only; rw [hcell k hk, hv2 k hk rfl, hx k hk], f231 F2⟩
      · have hn : p < 0 ∨ nI P ≤ p := by
          rcases pN p P (by omega) with h | h
          · exact absurd (Or.inr h) hq
          · exact h
        have hn1 : ¬ p = -1 := fun e => hq (Or.inl e)
        have hlt : ¬ p < nI P := by
          rcases hn with h | h
          · exfalso
            apply hn1
            have h1 := hp.1
            rw [Int32.le_iff_toInt_le] at h1
            rw [Int32.lt_iff_toInt_lt] at h
            rw [← Int32.toInt_inj]
            have e4 : (-1 : Int32).toInt = -1 := by decide
            have e5 : (0 : Int32).toInt = 0 := by decide
            omega
          · exact Int32.not_lt.mpr h
        refine ⟨-2, ?_, fun s' hs' => ?_⟩
        · unfold f_Hand_benching
          simp only [zgi, zgl, zwi, zwf, zjn, zj0, zcl_s, zcv_s, zrd_n, zrl_n, zix_n, zwa_n, zwl_n, zI1, zI2, zL1, zL2, zR1, zR2, updE, updLE, zbl_0, zbl_1, nI_1, nI_add, nI_mulR, nI_leI, nI_ltI, nI_0le, nI_lt0, bvE, ↓reduceIte, Nat.reduceEqDiff, Nat.reduceLT, Nat.reduceAdd, Nat.reduceMul, reduceCtorEq, i10, i01, eq_self, or_true, true_or, false_or, or_false, not_true_eq_false, not_false_eq_true, if_true, if_false, c0, a1, a2, h3.cC.2.2.1, hlt]
          exact rt_s ⟨rfl, frm.rf⟩
        · have m0' : s'.1 226 0 = 1 := by rw [hs' 226 (by omega)]; exact m0
          simp only [zcl_s, m_isSmithy, m0', i10, ↓reduceIte, hin, hp, and_self, not_false_eq_true, zjn]
          refine m_bench (mc s' hs') (fun m' x' s2 hm' F2 hF' hno' hcell => ?_)
          have e3 : s2.1 226 3 = nI P := by rw [F2.1 226 (by omega)]; exact (mc s' hs').2.2.1
          simp only [hn1, not_false_eq_true, ↓reduceIte, mPairN e3 hn, zcl_s]
          exact rt_s ⟨rfl, f231 F2⟩
    · refine ⟨-3, ?_, fun s' hs' => ?_⟩
      · by_cases a1 : p < -1
        · simp only [zgi, zgl, zwi, zwf, zjn, zj0, zcl_s, zcv_s, zrd_n, zrl_n, zix_n, zwa_n, zwl_n, zI1, zI2, zL1, zL2, zR1, zR2, updE, updLE, zbl_0, zbl_1, nI_1, nI_add, nI_mulR, nI_leI, nI_ltI, nI_0le, nI_lt0, bvE, ↓reduceIte, Nat.reduceEqDiff, Nat.reduceLT, Nat.reduceAdd, Nat.reduceMul, reduceCtorEq, i10, i01, eq_self, or_true, true_or, false_or, or_false, not_true_eq_false, not_false_eq_true, if_true, if_false, c0, a1]; exact rt_s ⟨rfl, frm.rf⟩
        · have a2 : ¬ p < 5 := by
            intro h
            refine hp ⟨Int32.not_lt.mp a1, ?_⟩
            rw [Int32.lt_iff_toInt_lt] at h
            rw [Int32.le_iff_toInt_le]
            have e4 : (4 : Int32).toInt = 4 := by decide
            have e5 : (5 : Int32).toInt = 5 := by decide
            omega
          simp only [zgi, zgl, zwi, zwf, zjn, zj0, zcl_s, zcv_s, zrd_n, zrl_n, zix_n, zwa_n, zwl_n, zI1, zI2, zL1, zL2, zR1, zR2, updE, updLE, zbl_0, zbl_1, nI_1, nI_add, nI_mulR, nI_leI, nI_ltI, nI_0le, nI_lt0, bvE, ↓reduceIte, Nat.reduceEqDiff, Nat.reduceLT, Nat.reduceAdd, Nat.reduceMul, reduceCtorEq, i10, i01, eq_self, or_true, true_or, false_or, or_false, not_true_eq_false, not_false_eq_true, if_true, if_false, c0, a1, a2]; exact rt_s ⟨rfl, frm.rf⟩
      · have m0' : s'.1 226 0 = 1 := by rw [hs' 226 (by omega)]; exact m0
        simp only [zgi, zgl, zwi, zwf, zjn, zj0, zcl_s, zcv_s, zrd_n, zrl_n, zix_n, zwa_n, zwl_n, zI1, zI2, zL1, zL2, zR1, zR2, updE, updLE, zbl_0, zbl_1, nI_1, nI_add, nI_mulR, nI_leI, nI_ltI, nI_0le, nI_lt0, bvE, ↓reduceIte, Nat.reduceEqDiff, Nat.reduceLT, Nat.reduceAdd, Nat.reduceMul, reduceCtorEq, i10, i01, eq_self, or_true, true_or, false_or, or_false, not_true_eq_false, not_false_eq_true, if_true, if_false, m_isSmithy, m0', hin, hp]; exact rt_s ⟨rfl, qM.rf⟩
