/-! benches: who may sit. -/
def sits (C x : Nat → Int32) (p n : Nat) : Prop := ∀ o, o < n → ¬ (x o = x p ∧ bt (C (103 + p)) o = true)
theorem sitsS (C x : Nat → Int32) (p n : Nat) : sits C x p (n + 1) ↔ sits C x p n ∧ ¬ (x n = x p ∧ bt (C (103 + p)) n = true) := by
  constructor
  · intro h; exact ⟨fun o ho => h o (by omega), h n (by omega)⟩
  · rintro ⟨h1, h2⟩ o ho
    by_cases e : o = n
    · rw [e]; exact h2
    · exact h1 o (by omega)
theorem m_sit {P Q p : Nat} {C : Nat → Int32} {s : ZS} (hc : cM P Q C s) (hp : p < P) : rt (f_Model_canSit (nI p) s) (fun w => w.2 = s ∧ (w.1 = 1 ∧ sits C (s.1 231) p p ∨ w.1 = 0 ∧ ¬ sits C (s.1 231) p p)) := by
  have hP := hc.1
  have hC : s.1 226 (103 + p) = C (103 + p) := hc.2.2.2.2 (103 + p) (by omega)
  unfold f_Model_canSit
  refine lp_rt p (fun i a s1 => s1 = s ∧ a = nI i ∧ sits C (s.1 231) p i) (by omega) ⟨rfl, rfl, fun o h => by omega⟩ ?_ ?_
  · rintro i a s1 g hi ⟨rfl, rfl, j⟩
    have hni : ¬ p ≤ i := by omega
    unfold f_Model_canSit_B2
    by_cases e : s1.1 231 i = s1.1 231 p
    · by_cases hb : bt (C (103 + p)) i = true
      · right
        have hns : ¬ sits C (s1.1 231) p p := fun h => h i hi ⟨e, hb⟩
        simp (disch := omega) only [nI_leI, hni, ↓reduceIte, zrd_n, zj0, e, not_true_eq_false, l103, nI_add, hC, mIsOf, hb, zcl_s, i10, zbl_0]
        exact rt_s ⟨rfl, Or.inr ⟨rfl, hns⟩⟩
      · left
        simp (disch := omega) only [nI_leI, hni, ↓reduceIte, zrd_n, zj0, e, not_true_eq_false, l103, nI_add, hC, mIsOf, hb, zcl_s, nI_1]
        exact ⟨_, _, rfl, rfl, rfl, (sitsS _ _ _ _).mpr ⟨j, fun h => hb h.2⟩⟩
    · left
      simp (disch := omega) only [nI_leI, hni, ↓reduceIte, zrd_n, zj0, e, not_false_eq_true, nI_1]
      exact ⟨_, _, rfl, rfl, rfl, (sitsS _ _ _ _).mpr ⟨j, fun h => e h.1⟩⟩
  · rintro a s1 g ⟨rfl, rfl, j⟩
    unfold f_Model_canSit_B2
    simp (disch := omega) only [nI_leI, Nat.le_refl, ↓reduceIte, zbl_1]
    exact rt_s ⟨rfl, Or.inl ⟨rfl, j⟩⟩
theorem c_hears {P Q : Nat} {C : Nat → Int32} {s : ZS} (hc : cC P Q C s) : rt (f_Hand_nobodyHears s) (fun w => w.2 = s ∧ (w.1 = 1 ∧ (∀ p, p < P → sits C (s.1 215) p p) ∨ w.1 = 0 ∧ ¬ ∀ p, p < P → sits C (s.1 215) p p)) := by
  have hP := hc.1
  have e3 : s.1 4 3 = nI P := hc.2.2.1
  have e8 := hc.2.2.2.2.2.2.2.1
  unfold f_Hand_nobodyHears
  refine lp_rt P (fun i a s1 => s1 = s ∧ a = nI i ∧ ∀ p, p < i → sits C (s.1 215) p p) (by omega) ⟨rfl, rfl, fun p h => by omega⟩ ?_ ?_
  · rintro p a s1 g hp ⟨rfl, rfl, j⟩
    have hnp : ¬ P ≤ p := by omega
    have hC : s1.1 7 p = C (103 + p) := e8 p (by omega)
    unfold f_Hand_nobodyHears_B2
    simp (disch := omega) only [zgi, e3, nI_leI, hnp, ↓reduceIte, zj0, nI_1]
    refine lp_go (n := p) (fun i a s2 => s2 = s1 ∧ a = nI i ∧ sits C (s1.1 215) p i) (fun o => (∃ a' s', o = g a' s' ∧ s' = s1 ∧ a' = nI (p + 1) ∧ ∀ q, q < p + 1 → sits C (s1.1 215) q q) ∨ rt o (fun w => w.2 = s1 ∧ (w.1 = 1 ∧ (∀ p, p < P → sits C (s1.1 215) p p) ∨ w.1 = 0 ∧ ¬ ∀ p, p < P → sits C (s1.1 215) p p))) (by omega) ⟨rfl, rfl, fun o h => by omega⟩ ?_ ?_
    · rintro i a s2 g2 hi ⟨rfl, rfl, j2⟩
      have hni : ¬ p ≤ i := by omega
      unfold f_Hand_nobodyHears_B18
      by_cases e : s2.1 215 p = s2.1 215 i
      · by_cases hb : bt (C (103 + p)) i = true
        · right
          have h0 : ¬ bv (C (103 + p)) i = 0 := by rw [bv_0, hb]; decide
          simp (disch := omega) only [nI_leI, hni, ↓reduceIte, zrd_n, zj0, e, not_true_eq_false, hC, bvE, h0, zbl_0]
          right
          exact rt_s ⟨rfl, Or.inr ⟨rfl, fun h => h p hp i hi ⟨e.symm, hb⟩⟩⟩
        · left
          have h0 : bv (C (103 + p)) i = 0 := by rw [bv_0]; simpa using hb
          simp (disch := omega) only [nI_leI, hni, ↓reduceIte, zrd_n, zj0, e, not_true_eq_false, hC, bvE, h0, nI_1]
          exact ⟨_, _, rfl, rfl, rfl, (sitsS _ _ _ _).mpr ⟨j2, fun h => hb h.2⟩⟩
      · left
        simp (disch := omega) only [nI_leI, hni, ↓reduceIte, zrd_n, zj0, e, not_false_eq_true, nI_1]
        exact ⟨_, _, rfl, rfl, rfl, (sitsS _ _ _ _).mpr ⟨j2, fun h => e h.1.symm⟩⟩
    · rintro a s2 g2 ⟨rfl, rfl, j2⟩
      unfold f_Hand_nobodyHears_B18
      simp (disch := omega) only [nI_leI, Nat.le_refl, ↓reduceIte]
      left
      refine ⟨_, _, rfl, rfl, rfl, fun q hq => ?_⟩
      by_cases e : q = p
      · rw [e]; exact j2
      · exact j q (by omega)
  · rintro a s1 g ⟨rfl, rfl, j⟩
    unfold f_Hand_nobodyHears_B2
    simp (disch := omega) only [zgi, e3, nI_leI, Nat.le_refl, ↓reduceIte, zbl_1]
    exact rt_s ⟨rfl, Or.inl ⟨rfl, j⟩⟩
