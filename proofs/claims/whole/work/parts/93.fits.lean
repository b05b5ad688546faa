/-! Which rules fit the notes. -/
theorem narZ0 : vp_nar .boolean 0 = 0 := by decide
noncomputable def dS (P Q : Nat) (C : Nat → Int32) (rlF : Nat → ZRl) (r n : Nat) : ZT := dn P Q C 0 (-1) (rlF r) n (zBg C)
theorem dSS (P Q : Nat) (C : Nat → Int32) (rlF : Nat → ZRl) (r n : Nat) : dS P Q C rlF r (n + 1) = dz P Q C 0 (-1) (rlF r) (dS P Q C rlF r n) := rfl
def fitP (P Q : Nat) (C : Nat → Int32) (rlF : Nat → ZRl) (m : Nat) (nd np : Nat → Nat) (nw : Nat → Int32) (r : Nat) : Prop := ∀ n, n ≤ 60 → ntS m nd np nw (dS P Q C rlF r (n + 1)) n m
noncomputable def ftB (P Q : Nat) (C : Nat → Int32) (rlF : Nat → ZRl) (m : Nat) (nd np : Nat → Nat) (nw : Nat → Int32) (r : Nat) : Bool := @decide (fitP P Q C rlF m nd np nw r) (Classical.propDecidable _)
theorem ftB_t {P Q : Nat} {C : Nat → Int32} {rlF : Nat → ZRl} {m : Nat} {nd np : Nat → Nat} {nw : Nat → Int32} {r : Nat} : ftB P Q C rlF m nd np nw r = true ↔ fitP P Q C rlF m nd np nw r := @decide_eq_true_iff _ (Classical.propDecidable _)
def nF (ft : Nat → Bool) (r : Nat) : Nat := itr r (fun i c => if ft i = true then c + 1 else c) 0
theorem nFS (ft : Nat → Bool) (r : Nat) : nF ft (r + 1) = if ft r = true then nF ft r + 1 else nF ft r := rfl
theorem nF_le (ft : Nat → Bool) (r : Nat) : nF ft r ≤ r := by
  induction r with
  | zero => exact Nat.le_refl _
  | succ r ih => rw [nFS]; split <;> omega
theorem nF_mono (ft : Nat → Bool) (r : Nat) : ∀ k, nF ft r ≤ nF ft (r + k) := by
  intro k
  induction k with
  | zero => exact Nat.le_refl _
  | succ k ih => rw [← Nat.add_assoc, nFS]; split <;> omega
theorem nF_lt {ft : Nat → Bool} {r r' : Nat} (h : r' < r) (hf : ft r' = true) : nF ft r' < nF ft r := by
  have h1 := nF_mono ft (r' + 1) (r - (r' + 1))
  rw [show r' + 1 + (r - (r' + 1)) = r by omega, nFS, if_pos hf] at h1
  omega
theorem nF_0 {ft : Nat → Bool} {r : Nat} : nF ft r = 0 ↔ ∀ i, i < r → ft i = false := by
  induction r with
  | zero => exact ⟨fun _ i hi => by omega, fun _ => rfl⟩
  | succ r ih =>
    rw [nFS]
    by_cases h : ft r = true
    · rw [if_pos h]
      constructor
      · intro e; omega
      · intro e; rw [e r (by omega)] at h; cases h
    · rw [if_neg h, ih]
      constructor
      · intro e i hi
        by_cases e2 : i = r
        · rw [e2]; simpa using h
        · exact e i (by omega)
      · intro e i hi; exact e i (by omega)
def isF (ft : Nat → Bool) (r : Nat) (v : Int32) : Prop := (∀ i, i < r → ft i = false) ∧ v = -2 ∨ ∃ i, i < r ∧ ft i = true ∧ (∀ j, j < i → ft j = false) ∧ v = nI i - 1
section FT
variable {s : ZS} {R P Q m : Nat} {rlF : Nat → ZRl} {nd np : Nat → Nat} {nw : Nat → Int32}
theorem r_of {r : Nat} (hR : R ≤ 6) (hr : r ≤ R) : nI r - 1 = -1 ∨ ∃ j, j < R ∧ nI r - 1 = nI j := by
  cases r with
  | zero => exact Or.inl (by decide)
  | succ r => exact Or.inr ⟨r, by omega, nI_pred r⟩
theorem c_fits {r D c : Nat} {s1 : ZS} (h2 : rRu s R) (h3 : rWd 3 s (s.1 226) (s.1 216 21) (s.1 216 22) R P Q) (hrl : ∀ r, r ≤ R → ∀ w : ZS, w.1 202 5 = nI r - 1 → (∀ b, 86 ≤ b → b ≤ 97 → w.1 b = s.1 b) → hC (rlF r) w) (hno : noC P m nd np nw s)
    (hr : r ≤ R) (hD : D ≤ 61) (hc : c ≤ 6) (F : frm (fun b => 202 ≤ b ∧ b ≤ 215) s s1) (e206 : s1.1 206 4 = nI c) :
    rt (f_Fore_fitsNotes (nI r - 1) (nI D - 1) s1) (fun w => frm (fun b => 202 ≤ b ∧ b ≤ 215) s w.2 ∧ w.2.1 206 = s1.1 206 ∧ (∀ k, k < 5 * c → w.2.1 212 k = s1.1 212 k) ∧ (w.1 = 1 ∧ fitP P Q (s.1 226) rlF m nd np nw r ∧ (0 < D → ∀ p, p < 5 → w.2.1 212 (5 * c + p) = (dS P Q (s.1 226) rlF r D).2.1 p) ∨ w.1 = 0 ∧ ¬ fitP P Q (s.1 226) rlF m nd np nw r)) := by
  have hP := h3.1.1
  have hR := h2.1
  have hcC := h3.cC
  unfold f_Fore_fitsNotes
  refine rt_cv (c_begin (o := 207) (P := P) (M := s.1 226) (by omega) hP (by rw [F.1 4 (by omega)]; exact hcC.2.2.1) (fun p hp => by rw [F.1 5 (by omega)]; exact h3.2.1.2.2.2.2.2.1 p hp) (fun p hp hp2 => (h3.1.2.2.2.2.2.2.1 p hp).2 hp2)) ?_
  rintro s2 ⟨g2, F2⟩
  refine rt_cv (c_under (f6 hR (r_of hR hr))) ?_
  rintro s3 ⟨u1, u2, u3, F3⟩
  have F3' : frm (fun b => 202 ≤ b ∧ b ≤ 215) s s3 := (F.tr (F2.sub (fun b hb => by omega))).tr (F3.sub (fun b hb => by omega))
  have g3 : gS 207 s3 = zBg (s.1 226) := by rw [gS_f (fun b _ _ => F3.1 b (by omega))]; exact g2
  have d3 : dC P Q (s.1 226) 0 (-1) (rlF r) s3 := ⟨hcC.f F3' (fun b h1 h2 => by omega), h3.1.cK, u2, u3, Or.inl rfl, hrl r hr s3 u1 (fun b _ _ => F3'.1 b (by omega))⟩
  have n3 : noC P m nd np nw s3 := hno.f (fun b hb => F3'.1 b (by omega))
  refine rt_cl (c_last n3) ?_
  rintro v6 s4 ⟨rfl, L, hL, rfl, hlast⟩
  have h206 : s4.1 206 = s1.1 206 := by rw [F3.1 206 (by omega), F2.1 206 (by omega)]
  have h212 : s4.1 212 = s1.1 212 := by rw [F3.1 212 (by omega), F2.1 212 (by omega)]
  have hE : (if nI D - 1 < nI L - 1 then nI L - 1 else nI D - 1) = nI (if D < L then L else D) - 1 := by
    have := nI_ss (a := D) (r := L) (by omega) (by omega)
    by_cases h : D < L
    · rw [if_pos (by rw [this]; exact h), if_pos h]
    · rw [if_neg (by rw [this]; exact h), if_neg h]
  generalize hEd : (if D < L then L else D) = E at hE
  have hE61 : E ≤ 61 ∧ D ≤ E ∧ L ≤ E := by
    rw [← hEd]; split <;> omega
  refine lp_rt E (fun n a s5 => a = nI n ∧ gS 207 s5 = dS P Q (s.1 226) rlF r n ∧ frm (fun b => 202 ≤ b ∧ b ≤ 215) s s5 ∧ dC P Q (s.1 226) 0 (-1) (rlF r) s5 ∧ s5.1 206 = s1.1 206 ∧ (∀ k, k < 5 * c → s5.1 212 k = s1.1 212 k) ∧ (∀ n', n' < n → ntS m nd np nw (dS P Q (s.1 226) rlF r (n' + 1)) n' m) ∧ (0 < D → D ≤ n → ∀ p, p < 5 → s5.1 212 (5 * c + p) = (dS P Q (s.1 226) rlF r D).2.1 p) ∧ s5.1 202 5 = nI r - 1) (by omega) ⟨rfl, g3, F3', d3, h206, fun k _ => by rw [h212], fun n' h => by omega, fun h1 h2 => by omega, u1⟩ ?_ ?_
  · rintro n a s5 g hn ⟨rfl, k1, k2, k3, k4, k5, k6, k7, k8⟩
    have hlt : ¬ (nI E - 1 < nI n) := by rw [nI_s1lt (by omega) (by omega)]; omega
    obtain ⟨⟨v, s6⟩, r6, g6, _, _, F6⟩ := c_day k3 (by rw [k1]; exact zW_dn h3.1.cK zBg_zW n)
    dsimp only at g6 F6
    rw [k1, ← dSS] at g6
    have F6' : frm (fun b => 202 ≤ b ∧ b ≤ 215) s s6 := k2.tr (F6.sub (fun b hb => by unfold tF at hb; omega))
    have n6 : noC P m nd np nw s6 := hno.f (fun b hb => F6'.1 b (by omega))
    obtain ⟨⟨v7, s7⟩, r7, e7, hv7⟩ := c_notes (n := n) n6 hP (by omega)
    dsimp only at e7 hv7
    subst e7
    have e6 : s7.1 206 = s1.1 206 := by rw [F6.1 206 (by unfold tF; omega)]; exact k4
    have e12 : s7.1 212 = s5.1 212 := F6.1 212 (by unfold tF; omega)
    have d6 := k3.f F6
    rw [g6] at hv7
    have hpd : (nI n = nI D - 1) = (n + 1 = D) := nI_s1eq (by omega) (by omega)
    unfold f_Fore_fitsNotes_B34
    simp only [hE, hlt, ↓reduceIte, r6, zcl_s, r7]
    rcases hv7 with ⟨rfl, hv⟩ | ⟨rfl, hv⟩
    · left
      simp only [i10, not_false_eq_true, ↓reduceIte, zj0, hpd, zgi]
      have k6' : ∀ n', n' < n + 1 → ntS m nd np nw (dS P Q (s.1 226) rlF r (n' + 1)) n' m := fun n' h => by
        by_cases e : n' = n
        · rw [e]; exact hv
        · exact k6 n' (by omega)
      by_cases hd : n + 1 = D
      · have ec : s7.1 206 4 = nI c := by rw [e6]; exact e206
        simp (disch := omega) only [eq_true hd, not_true_eq_false, ↓reduceIte, ec, show (5 : Int32) = nI 5 from rfl, show (0 : Int32) = nI 0 from rfl, nI_mulR, zcp_n]
        refine ⟨_, _, rfl, by rw [nI_1], ?_, F6'.R (by omega), ?_, ?_, ?_, k6', ?_, by rw [zR1, if_neg (by omega), F6.1 202 (by unfold tF; omega)]; exact k8⟩
        · rw [← g6]; exact gS_f (fun b _ _ => by rw [zR1, if_neg (by omega)])
        · obtain ⟨q1, q2, q3, q4, q5, q6⟩ := d6
          exact ⟨hcC.f (F6'.R (a := 212) (by omega)) (fun b h1 h2 => by omega), q2, q3, q4, q5, hrl r hr _ (by rw [zR1, if_neg (by omega), F6.1 202 (by unfold tF; omega)]; exact k8) (fun b _ _ => by rw [zR1, if_neg (by omega)]; exact F6'.1 b (by omega))⟩
        · rw [zR1, if_neg (by omega)]; exact e6
        · intro k hk
          rw [zR1, if_pos rfl]
          unfold va_cpy
          rw [if_neg (by omega), e12]; exact k5 k hk
        · intro _ _ p hp
          rw [zR1, if_pos rfl]
          unfold va_cpy
          rw [if_pos (by omega), show 0 + (5 * c + p - c * 5) = p by omega, rW207 hp, g6, hd]
      · simp only [hd, not_false_eq_true, ↓reduceIte]
        refine ⟨_, _, rfl, by rw [nI_1], g6, F6', d6, e6, fun k hk => by rw [e12]; exact k5 k hk, k6', fun h1 h2 p hp => by rw [e12]; exact k7 h1 (by omega) p hp, by rw [F6.1 202 (by unfold tF; omega)]; exact k8⟩
    · right
      simp only [not_true_eq_false, ↓reduceIte, zbl_0]
      refine rt_s ⟨F6', e6, fun k hk => by dsimp only; rw [e12]; exact k5 k hk, Or.inr ⟨rfl, fun h => hv (h n (by omega))⟩⟩
  · rintro a s5 g ⟨rfl, k1, k2, k3, k4, k5, k6, k7, k8⟩
    have hlt : (nI E - 1 < nI E) := by rw [nI_s1lt (by omega) (by omega)]; omega
    unfold f_Fore_fitsNotes_B34
    simp only [hE, hlt, ↓reduceIte, zbl_1]
    refine rt_s ⟨k2, k4, k5, Or.inl ⟨rfl, fun n hn => ?_, fun h => k7 h hE61.2.1⟩⟩
    by_cases h : n < E
    · exact k6 n h
    · intro j hj e
      have := hlast j hj
      omega
theorem c_find {D : Nat} (h2 : rRu s R) (h3 : rWd 3 s (s.1 226) (s.1 216 21) (s.1 216 22) R P Q) (hrl : ∀ r, r ≤ R → ∀ w : ZS, w.1 202 5 = nI r - 1 → (∀ b, 86 ≤ b → b ≤ 97 → w.1 b = s.1 b) → hC (rlF r) w) (hno : noC P m nd np nw s) (hD : D ≤ 61) {ft : Nat → Bool} (hft : ∀ r, ft r = true ↔ fitP P Q (s.1 226) rlF m nd np nw r) :
    rt (f_Fore_findFits (nI R) (nI D - 1) s) (fun w => frm (fun b => 202 ≤ b ∧ b ≤ 215) s w ∧ w.1 206 4 = nI (nF ft (R + 1)) ∧ isF ft (R + 1) (w.1 206 5) ∧ (0 < D → ∀ r, r ≤ R → ft r = true → ∀ p, p < 5 → w.1 212 (5 * nF ft r + p) = (dS P Q (s.1 226) rlF r D).2.1 p)) := by
  have hR := h2.1
  unfold f_Fore_findFits
  simp only [zwi]
  refine lp_rt (R + 1) (fun r a s1 => a = nI r - 1 ∧ frm (fun b => 202 ≤ b ∧ b ≤ 215) s s1 ∧ s1.1 206 4 = nI (nF ft r) ∧ isF ft r (s1.1 206 5) ∧ (0 < D → ∀ r', r' < r → ft r' = true → ∀ p, p < 5 → s1.1 212 (5 * nF ft r' + p) = (dS P Q (s.1 226) rlF r' D).2.1 p)) (by omega) ⟨by decide, (frm.rf.I (by omega)).I (by omega), ?_, ?_, fun _ r' h => by omega⟩ ?_ ?_
  · rw [zI1, if_pos rfl, updE, if_neg (by omega), zI1, if_pos rfl, updE, if_pos rfl]; rfl
  · rw [zI1, if_pos rfl, updE, if_pos rfl]; exact Or.inl ⟨fun i hi => by omega, rfl⟩
  · rintro r a s1 g hr ⟨rfl, F, k1, k2, k3⟩
    left
    have a1 : ¬ (nI R ≤ nI r - 1) := by rw [nI_s1le (by omega) (by omega)]; omega
    have a2 : ¬ (nI 6 ≤ nI r - 1) := by rw [nI_s1le (by omega) (by omega)]; omega
    have hnr := nF_le ft r
    obtain ⟨⟨v, s2⟩, r2, F2, e2, l2', hv⟩ := c_fits (r := r) (D := D) (c := nF ft r) h2 h3 hrl hno (by omega) hD (by omega) F k1
    dsimp only at F2 e2 l2' hv
    have low : 0 < D → ∀ r', r' < r → ft r' = true → ∀ p, p < 5 → s2.1 212 (5 * nF ft r' + p) = (dS P Q (s.1 226) rlF r' D).2.1 p := fun h r' hr' hf p hp => by
      have := nF_lt hr' hf
      rw [l2' _ (by omega)]; exact k3 h r' hr' hf p hp
    unfold f_Fore_findFits_B13
    simp only [a1, l6, a2, ↓reduceIte, r2, zcl_s, zj0]
    have er : nI r - 1 + 1 = nI (r + 1) - 1 := by rw [nI_pred, Int32.sub_add_cancel]
    rcases hv with ⟨rfl, hf, hs⟩ | ⟨rfl, hf⟩
    · have hfr : ft r = true := (hft r).mpr hf
      have e4 : s2.1 206 4 = nI (nF ft r) := by rw [e2]; exact k1
      have low2 : ∀ s3 : ZS, s3.1 212 = s2.1 212 → 0 < D → ∀ r', r' < r + 1 → ft r' = true → ∀ p, p < 5 → s3.1 212 (5 * nF ft r' + p) = (dS P Q (s.1 226) rlF r' D).2.1 p := fun s3 h3 h r' hr' hf p hp => by
        rw [h3]
        by_cases e : r' = r
        · rw [e]; exact hs h p hp
        · exact low h r' (by omega) hf p hp
      have hnS : nF ft (r + 1) = nF ft r + 1 := by rw [nFS, if_pos hfr]
      simp (disch := omega) only [i10, ↓reduceIte, zgi, e4, nI_eq0]
      by_cases h0 : nF ft r = 0
      · simp (disch := omega) only [h0, not_true_eq_false, ↓reduceIte, zwi, zI1, updE, Nat.reduceEqDiff, e4]
        refine ⟨_, _, rfl, er, (F2.I (by omega)).I (by omega), ?_, ?_, low2 _ (by rw [zI1, if_neg (by omega), zI1, if_neg (by omega)])⟩
        · rw [zI1, if_pos rfl, updE, if_pos rfl, hnS, h0, nI_1]
        · rw [zI1, if_pos rfl, updE, if_neg (by omega), zI1, if_pos rfl, updE, if_pos rfl]
          exact Or.inr ⟨r, by omega, hfr, nF_0.mp h0, rfl⟩
      · simp (disch := omega) only [h0, not_false_eq_true, ↓reduceIte, zwi, e4]
        refine ⟨_, _, rfl, er, F2.I (by omega), ?_, ?_, low2 _ (by rw [zI1, if_neg (by omega)])⟩
        · rw [zI1, if_pos rfl, updE, if_pos rfl, hnS, nI_1]
        · rw [zI1, if_pos rfl, updE, if_neg (by omega), e2]
          rcases k2 with ⟨z, _⟩ | ⟨i, hi, z1, z2, z3⟩
          · exact absurd (nF_0.mpr z) h0
          · exact Or.inr ⟨i, by omega, z1, z2, z3⟩
    · have hfr : ft r = false := by
        cases h : ft r
        · rfl
        · exact absurd ((hft r).mp h) hf
      simp only [↓reduceIte]
      refine ⟨_, _, rfl, er, F2, ?_, ?_, fun h r' hr' hf' p hp => ?_⟩
      · rw [e2, k1, nFS, if_neg (by rw [hfr]; decide)]
      · rw [e2]
        rcases k2 with ⟨z, z2⟩ | ⟨i, hi, z1, z2, z3⟩
        · refine Or.inl ⟨fun i hi => ?_, z2⟩
          by_cases e : i = r
          · rw [e]; exact hfr
          · exact z i (by omega)
        · exact Or.inr ⟨i, by omega, z1, z2, z3⟩
      · by_cases e : r' = r
        · rw [e, hfr] at hf'; cases hf'
        · exact low h r' (by omega) hf' p hp
  · rintro a s1 g ⟨rfl, F, k1, k2, k3⟩
    have a1 : (nI R ≤ nI (R + 1) - 1) := by rw [nI_s1le (by omega) (by omega)]; omega
    unfold f_Fore_findFits_B13
    simp only [a1, ↓reduceIte]
    exact rt_s ⟨F, k1, k2, fun h r hr => k3 h r (by omega)⟩
end FT
