/-! benches: who may sit. -/
def sits (C x : Nat → Int32) (p n : Nat) : Prop := ∀ o, o < n → ¬ (x o = x p ∧ bt (C (103 + p)) o = true)
theorem sitsS (C x : Nat → Int32) (p n : Nat) : sits C x p (n + 1) ↔ sits C x p n ∧ ¬ (x n = x p ∧ bt (C (103 + p)) n = true) := by
  constructor
  · intro h; exact ⟨fun o ho => h o (by omega), h n (by omega)⟩
  · rintro ⟨h1, h2⟩ o ho
    by_cases e : o = n
    · rw [e]; exact h2
    · exact h1 o (by omega)
theorem m_sit {P Q p : Nat} {C : Nat → Int32} {s : ZS} (hc : cM P Q C s) (hp : p < P) : rt (f_Model_canSit (nI p) s) (fun w => w.2 = s ∧ (w.1 = 1 ∧ sits C (s.1 231) p p ∨ w.1 = 0 ∧ ¬ sits C (s.1 231) p p)) := by
  have hP := hc.1
  have hC : s.1 226 (103 + p) = C (103 + p) := hc.2.2.2.2 (103 + p) (by omega)
  unfold f_Model_canSit
  refine lp_rt p (fun i a s1 => s1 = s ∧ a = nI i ∧ sits C (s.1 231) p i) (by omega) ⟨rfl, rfl, fun o h => by omega⟩ ?_ ?_
  · rintro i a s1 g hi ⟨rfl, rfl, j⟩
    have hni : ¬ p ≤ i := by omega
    unfold f_Model_canSit_B2
    by_cases e : s1.1 231 i = s1.1 231 p
    · by_cases hb : bt (C (103 + p)) i = true
      · right
        have hns : ¬ sits C (s1.1 231) p p := fun h => h i hi ⟨e, hb⟩
        simp (disch := omega) only [nI_leI, hni, ↓reduceIte, zrd_n, zj0, e, not_true_eq_false, l103, nI_add, hC, mIsOf, hb, zcl_s, i10, zbl_0]
        exact rt_s ⟨rfl, Or.inr ⟨rfl, hns⟩⟩
      · left
        simp (disch := omega) only [nI_leI, hni, ↓reduceIte, zrd_n, zj0, e, not_true_eq_false, l103, nI_add, hC, mIsOf, hb, zcl_s, nI_1]
        exact ⟨_, _, rfl, rfl, rfl, (sitsS _ _ _ _).mpr ⟨j, fun h => hb h.2⟩⟩
    · left
      simp (disch := omega) only [nI_leI, hni, ↓reduceIte, zrd_n, zj0, e, not_false_eq_true, nI_1]
      exact ⟨_, _, rfl, rfl, rfl, (sitsS _ _ _ _).mpr ⟨j, fun h => e h.1⟩⟩
  · rintro a s1 g ⟨rfl, rfl, j⟩
    unfold f_Model_canSit_B2
    simp (disch := omega) only [nI_leI, Nat.le_refl, ↓reduceIte, zbl_1]
    exact rt_s ⟨rfl, Or.inl ⟨rfl, j⟩⟩
