/-! bring, the two programs. -/
theorem bz_lt {u : Nat → Nat} {t q : Nat} (ht : t ≤ 999) (hu : u q ≤ 29) : (if nI t + nI (u q) < 999 then nI t + nI (u q) else 999) = nI (bz u t q) := by
  unfold bz
  rw [nI_add, l999]
  by_cases h : t + u q < 999
  · rw [if_pos (by rw [nI_ltI (by omega) (by omega)]; exact h), if_pos (by omega)]
  · rw [if_neg (by rw [nI_ltI (by omega) (by omega)]; exact h)]
    by_cases h2 : t + u q ≤ 999
    · rw [if_pos h2, show t + u q = 999 by omega]
    · rw [if_neg h2]
theorem m_bz {u : Nat → Nat} {t q : Nat} {s : ZS} (ht : t ≤ 999) (hu : u q ≤ 29) : f_Model_held (nI t + nI (u q)) s = some (nI (bz u t q), s) := by
  unfold f_Model_held bz
  rw [nI_add, l999]
  by_cases h2 : t + u q ≤ 999
  · rw [if_pos h2, if_pos (by rw [nI_leI (by omega) (by omega)]; exact h2)]
  · rw [if_neg h2, if_neg (by rw [nI_leI (by omega) (by omega)]; exact h2)]
section BR
variable {P Q k pat y : Nat} {C : Nat → Int32} {u : Nat → Nat} {s : ZS}
theorem bT_b (t n : Nat) (h : bT u Q pat y t = some n) : n ≤ 121 := bG_b u Q pat y 121 t n h
theorem bNT_b (t q n : Nat) (h : bN u pat y (bT u Q pat y) t q = some n) : n ≤ 122 := bN_b u pat y (f := 121) (fun r n => bT_b r n) n h
theorem bLT_b (t i n : Nat) (h : bL u pat y (bT u Q pat y) t i = some n) : n ≤ 122 := bL_b u pat y (f := 121) (fun r n => bT_b r n) i n h
theorem c_need {t q : Nat} (hc : cC P Q C s) (hk : k < P) (hk5 : k < 5) (hq : q < Q) (hu : ∀ j, j < Q → wgt C k j = nI (u j) ∧ u j ≤ 29) (hpt : s.1 6 k = nI pat) (hp9 : pat ≤ 99) (hy : y ≤ 120) (ht : t ≤ 999)
    (tb : ∀ r, t < r → r ≤ y → s.1 214 r = nI ((bT u Q pat y r).getD 1000000)) :
    ∃ v, f_Hand_needed (nI k) (nI y) (nI t) (nI q) s = some (v, s) ∧ nV 1000000 (bN u pat y (bT u Q pat y) t q) v := by
  have hz := bz_le u (t := t) (q := q)
  have hzg := bz_ge u (q := q) ht
  have rs : f_Hand_raised (nI k) (nI t) (nI q) s = some (nI (bz u t q), s) := by
    unfold f_Hand_raised
    rw [cWeight hc hk5 hq, zcl_s, (hu q hq).1, bz_lt ht (hu q hq).2]
  unfold f_Hand_needed bN
  simp (disch := omega) only [rs, zcl_s, zrd_n, hpt, nI_ltI, nI_leI, nI_inj]
  generalize bz u t q = r at hz hzg
  by_cases h1 : r < pat
  · by_cases h2 : r ≤ t
    · simp only [h1, h2, ↓reduceIte]; exact ⟨_, rfl, Or.inl rfl⟩
    · by_cases h3 : y < r
      · have e : bT u Q pat y r = none := bG_y u Q pat y 121 r hz h3
        simp only [h1, h2, h3, ↓reduceIte, e]; exact ⟨_, rfl, Or.inl rfl⟩
      · simp (disch := omega) only [h1, h2, h3, ↓reduceIte, zrd_n, tb r (by omega) (by omega)]
        refine ⟨_, rfl, ?_⟩
        cases e : bT u Q pat y r with
        | none => exact Or.inr (by rw [l1, nI_add, Nat.add_comm]; rfl)
        | some n => show (1 : Int32) + nI n = nI (n + 1); rw [l1, nI_add, Nat.add_comm]
  · by_cases h2 : r = y
    · rw [h2] at h1
      simp only [h1, h2, ↓reduceIte, not_true_eq_false]; exact ⟨_, rfl, rfl⟩
    · simp only [h1, h2, ↓reduceIte, not_false_eq_true]; exact ⟨_, rfl, Or.inl rfl⟩
theorem m_need {t q : Nat} (hc : cM P Q C s) (hQ : Q ≤ 6) (hk5 : k < 5) (hq : q < Q) (hu : ∀ j, j < Q → wgt C k j = nI (u j) ∧ u j ≤ 29) (hpt : s.1 226 (57 + k) = nI pat) (hp9 : pat ≤ 99) (hy : y ≤ 120) (ht : t ≤ 999)
    (tb : ∀ r, t < r → r < pat → s.1 230 r = nI ((bT u Q pat y r).getD 9999)) :
    ∃ v, f_Model_neededBy (nI k) (nI t) (nI q) (nI y) s = some (v, s) ∧ nV 9999 (bN u pat y (bT u Q pat y) t q) v := by
  have hz := bz_le u (t := t) (q := q)
  have hzg := bz_ge u (q := q) ht
  have hw : C (67 + q) + C (73 + 6 * k + q) = nI (u q) := (hu q hq).1
  unfold f_Model_neededBy bN
  rw [mHurts hk5 (by omega) hc, zcl_s, hw, m_bz ht (hu q hq).2, zcl_s]
  simp (disch := omega) only [l57, nI_add, zrd_n, hpt, nI_ltI, nI_inj]
  generalize bz u t q = r at hz hzg
  by_cases h1 : r < pat
  · by_cases h2 : r = t
    · have h3 : r ≤ t := by omega
      simp only [h1, h2, ↓reduceIte, not_true_eq_false, Nat.le_refl]
      rw [← h2]; simp only [h1, ↓reduceIte]; exact ⟨_, rfl, Or.inl rfl⟩
    · have h3 : ¬ r ≤ t := by omega
      simp (disch := omega) only [h1, h2, h3, ↓reduceIte, not_false_eq_true, zrd_n, tb r (by omega) h1]
      refine ⟨_, rfl, ?_⟩
      cases e : bT u Q pat y r with
      | none => exact Or.inr (by rw [l1, nI_add, Nat.add_comm]; rfl)
      | some n => show (1 : Int32) + nI n = nI (n + 1); rw [l1, nI_add, Nat.add_comm]
  · by_cases h2 : r = y
    · rw [h2] at h1
      simp only [h1, h2, ↓reduceIte, not_true_eq_false]; exact ⟨_, rfl, rfl⟩
    · simp only [h1, h2, ↓reduceIte, not_false_eq_true]; exact ⟨_, rfl, Or.inl rfl⟩
theorem c_least {t : Nat} (hc : cC P Q C s) (hQ : Q ≤ 6) (hk : k < P) (hk5 : k < 5) (hu : ∀ j, j < Q → wgt C k j = nI (u j) ∧ u j ≤ 29) (hpt : s.1 6 k = nI pat) (hp9 : pat ≤ 99) (hy : y ≤ 120) (ht : t ≤ 999)
    (tb : ∀ r, t < r → r ≤ y → s.1 214 r = nI ((bT u Q pat y r).getD 1000000)) (K : Int32 → ZS → Option (Int32 × ZS)) :
    zlp zN (f_Hand_bringing_B45 (nI k) (nI y) (nI t) K) ((1000000 : Int32), (0 : Int32)) s = K (nI ((bT u Q pat y t).getD 1000000)) s := by
  rw [bT_fix u Q pat y hp9 hy ht]
  have e4 : s.1 4 4 = nI Q := hc.2.2.2.1
  refine lp_go (n := Q) (fun i a s1 => s1 = s ∧ a.2 = nI i ∧ a.1 = nI ((bL u pat y (bT u Q pat y) t i).getD 1000000)) (fun o => o = K (nI ((bL u pat y (bT u Q pat y) t Q).getD 1000000)) s) (by omega) ⟨rfl, rfl, rfl⟩ ?_ ?_
  · rintro i ⟨a, c⟩ s1 g hi ⟨rfl, j0, j1⟩
    left
    dsimp only at j0 j1
    subst j0 j1
    obtain ⟨v, v1, v2⟩ := c_need hc hk hk5 hi hu hpt hp9 hy ht tb
    have hni : ¬ Q ≤ i := by omega
    unfold f_Hand_bringing_B45
    simp (disch := omega) only [zgi, e4, nI_leI, hni, ↓reduceIte, v1, zcl_s, nI_1]
    exact ⟨_, _, rfl, rfl, rfl, nV_min (by omega) (bLT_b t i) (bNT_b t i) (by omega) v2⟩
  · rintro ⟨a, c⟩ s1 g ⟨rfl, j0, j1⟩
    dsimp only at j0 j1
    subst j0 j1
    unfold f_Hand_bringing_B45
    simp (disch := omega) only [zgi, e4, nI_leI, Nat.le_refl, ↓reduceIte]
theorem m_least {t : Nat} (hc : cM P Q C s) (hQ : Q ≤ 6) (hk5 : k < 5) (hu : ∀ j, j < Q → wgt C k j = nI (u j) ∧ u j ≤ 29) (hpt : s.1 226 (57 + k) = nI pat) (hp9 : pat ≤ 99) (hy : y ≤ 120) (ht : t ≤ 999)
    (tb : ∀ r, t < r → r < pat → s.1 230 r = nI ((bT u Q pat y r).getD 9999)) :
    f_Model_leastNeeded (nI k) (nI t) (nI y) s = some (nI ((bT u Q pat y t).getD 9999), s) := by
  rw [bT_fix u Q pat y hp9 hy ht]
  have e4 : s.1 226 4 = nI Q := hc.2.2.2.1
  unfold f_Model_leastNeeded
  refine lp_go (n := Q) (fun i a s1 => s1 = s ∧ a.2 = nI i ∧ a.1 = nI ((bL u pat y (bT u Q pat y) t i).getD 9999)) (fun o => o = some (nI ((bL u pat y (bT u Q pat y) t Q).getD 9999), s)) (by omega) ⟨rfl, rfl, rfl⟩ ?_ ?_
  · rintro i ⟨a, c⟩ s1 g hi ⟨rfl, j0, j1⟩
    left
    dsimp only at j0 j1
    subst j0 j1
    obtain ⟨v, v1, v2⟩ := m_need hc hQ hk5 hi hu hpt hp9 hy ht tb
    have hni : ¬ Q ≤ i := by omega
    have mn := nV_min (N := 9999) (by omega) (bLT_b (u := u) (Q := Q) (pat := pat) (y := y) t i) (bNT_b t i) (by omega) v2
    unfold f_Model_leastNeeded_B8
    simp (disch := omega) only [zgi, e4, nI_leI, hni, ↓reduceIte, v1, zcl_s, zjn, nI_1]
    by_cases hv : v < nI ((bL u pat y (bT u Q pat y) t i).getD 9999)
    · rw [if_pos hv] at mn
      rw [if_neg (Int32.not_le.mpr hv)]
      exact ⟨_, _, rfl, rfl, rfl, mn⟩
    · rw [if_neg hv] at mn
      rw [if_pos (Int32.not_lt.mp hv)]
      exact ⟨_, _, rfl, rfl, rfl, mn⟩
  · rintro ⟨a, c⟩ s1 g ⟨rfl, j0, j1⟩
    dsimp only at j0 j1
    subst j0 j1
    unfold f_Model_leastNeeded_B8
    simp (disch := omega) only [zgi, e4, nI_leI, Nat.le_refl, ↓reduceIte]
end BR
