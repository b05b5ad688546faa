/-! bring: the tables, the step. -/
theorem nI_m1 {t : Nat} (h : 0 < t) : nI t + (-1 : Int32) = nI (t - 1) := by rw [← Int32.sub_eq_add_neg, nI_sub1 t h]
theorem nI_m1lt {t : Nat} (h : t < 1000) : nI t + (-1 : Int32) < nI t := by
  by_cases h0 : t = 0
  · subst h0; decide
  · rw [nI_m1 (by omega), nI_ltI (by omega) (by omega)]; omega
section BR
variable {P Q k pat y : Nat} {C : Nat → Int32} {u : Nat → Nat} {s : ZS}
theorem c_tab {t0 : Nat} (hc : cC P Q C s) (hQ : Q ≤ 6) (hk : k < P) (hk5 : k < 5) (hu : ∀ j, j < Q → wgt C k j = nI (u j) ∧ u j ≤ 29) (hpt : s.1 6 k = nI pat) (hp9 : pat ≤ 99) (hy : y ≤ 120) (ht : t0 ≤ y) (K : ZS → Option (Int32 × ZS)) :
    ∃ s2, zlp zN (f_Hand_bringing_B31 (nI k) (nI y) (nI t0) K) (nI y) s = K s2 ∧ (∀ r, t0 ≤ r → r ≤ y → s2.1 214 r = nI ((bT u Q pat y r).getD 1000000)) ∧ frm (fun b => b = 214) s s2 := by
  refine lp_go (n := y - t0 + 1) (fun i a s1 => (i < y - t0 + 1 → a = nI (y - i)) ∧ (i = y - t0 + 1 → a < nI t0) ∧ (∀ r, y < r + i → r ≤ y → s1.1 214 r = nI ((bT u Q pat y r).getD 1000000)) ∧ frm (fun b => b = 214) s s1) (fun o => ∃ s2, o = K s2 ∧ (∀ r, t0 ≤ r → r ≤ y → s2.1 214 r = nI ((bT u Q pat y r).getD 1000000)) ∧ frm (fun b => b = 214) s s2) (by omega) ⟨fun _ => rfl, fun h => by omega, fun r h1 h2 => by omega, frm.rf⟩ ?_ ?_
  · rintro i a s1 g hi ⟨j0, _, j2, F⟩
    left
    have j0 := j0 hi
    subst j0
    generalize ht1 : y - i = t
    have hn : ¬ t < t0 := by omega
    have hc1 : cC P Q C s1 := hc.f F (fun b hb hb2 => by omega)
    have ls := c_least hc1 hQ hk hk5 hu (by rw [F.1 6 (by omega)]; exact hpt) hp9 hy (show t ≤ 999 by omega) (fun r h1 h2 => j2 r (by omega) h2)
    unfold f_Hand_bringing_B31
    simp (disch := omega) only [nI_ltI, hn, ↓reduceIte, zjn, ls, zwa_n]
    refine ⟨_, _, rfl, fun h => ?_, fun h => ?_, fun r h1 h2 => ?_, F.I rfl⟩
    · rw [nI_m1 (by omega)]; congr 1; omega
    · rw [show t0 = t by omega]; exact nI_m1lt (by omega)
    · rw [zI1, if_pos rfl, updE]
      by_cases e : r = t
      · rw [if_pos e, e]
      · rw [if_neg e]; exact j2 r (by omega) h2
  · rintro a s1 g ⟨_, j1, j2, F⟩
    unfold f_Hand_bringing_B31
    rw [if_pos (j1 rfl)]
    exact ⟨s1, rfl, fun r h1 h2 => j2 r (by omega) h2, F⟩
theorem m_tab (hc : cM P Q C s) (hQ : Q ≤ 6) (hk5 : k < 5) (hu : ∀ j, j < Q → wgt C k j = nI (u j) ∧ u j ≤ 29) (hpt : s.1 226 (57 + k) = nI pat) (hp9 : pat ≤ 99) (hy : y ≤ 120) (K : ZS → Option (Int32 × ZS)) :
    ∃ s2, zlp zN (f_Model_bring_B36 (nI k) (nI y) K) (120 : Int32) s = K s2 ∧ (∀ r, r < pat → s2.1 230 r = nI ((bT u Q pat y r).getD 9999)) ∧ (∀ b, b ≠ 230 → s2.1 b = s.1 b) := by
  refine lp_go (n := 121) (fun i a s1 => (i < 121 → a = nI (120 - i)) ∧ (i = 121 → a < 0) ∧ (∀ r, 120 < r + i → r < pat → s1.1 230 r = nI ((bT u Q pat y r).getD 9999)) ∧ (∀ b, b ≠ 230 → s1.1 b = s.1 b)) (fun o => ∃ s2, o = K s2 ∧ (∀ r, r < pat → s2.1 230 r = nI ((bT u Q pat y r).getD 9999)) ∧ (∀ b, b ≠ 230 → s2.1 b = s.1 b)) (by omega) ⟨fun _ => rfl, fun h => by omega, fun r h1 h2 => by omega, fun _ _ => rfl⟩ ?_ ?_
  · rintro i a s1 g hi ⟨j0, _, j2, F⟩
    left
    have j0 := j0 hi
    subst j0
    generalize ht1 : 120 - i = t
    have e226 := F 226 (by omega)
    have hc1 : cM P Q C s1 := by unfold cM; rw [e226]; exact hc
    have hpt1 : s1.1 226 (57 + k) = nI pat := by rw [e226]; exact hpt
    have n0 : ¬ nI t < 0 := Int32.not_lt.mpr (nI_pos' (by omega))
    have fin : ∀ v : Int32, (t < pat → v = nI ((bT u Q pat y t).getD 9999)) → (i + 1 < 121 → nI t + (-1 : Int32) = nI (120 - (i + 1))) ∧ (i + 1 = 121 → nI t + (-1 : Int32) < 0) ∧ (∀ r, 120 < r + (i + 1) → r < pat → (zsI s1 230 t v).1 230 r = nI ((bT u Q pat y r).getD 9999)) ∧ (∀ b, b ≠ 230 → (zsI s1 230 t v).1 b = s.1 b) := by
      intro v hv
      refine ⟨fun h => ?_, fun h => ?_, fun r h1 h2 => ?_, fun b hb => ?_⟩
      · rw [nI_m1 (by omega)]; congr 1; omega
      · rw [show t = 0 by omega]; decide
      · rw [zI1, if_pos rfl, updE]
        by_cases e : r = t
        · rw [if_pos e, e]; exact hv (by omega)
        · rw [if_neg e]; exact j2 r (by omega) h2
      · rw [zI1, if_neg hb]; exact F b hb
    unfold f_Model_bring_B36
    by_cases hp : pat ≤ t
    · simp (disch := omega) only [n0, ↓reduceIte, l57, nI_add, zrd_n, hpt1, nI_leI, hp, zjn, zwa_n]
      exact ⟨_, _, rfl, fin _ (fun h => by omega)⟩
    · have ls := m_least hc1 hQ hk5 hu hpt1 hp9 hy (show t ≤ 999 by omega) (fun r h1 h2 => j2 r (by omega) h2)
      simp (disch := omega) only [n0, ↓reduceIte, l57, nI_add, zrd_n, hpt1, nI_leI, hp, zjn, zwa_n, ls, zcl_s]
      exact ⟨_, _, rfl, fin _ (fun h => rfl)⟩
  · rintro a s1 g ⟨_, j1, j2, F⟩
    unfold f_Model_bring_B36
    rw [if_pos (j1 rfl)]
    exact ⟨s1, rfl, fun r h2 => j2 r (by omega) h2, F⟩
end BR
