/-! Beginnings. -/
def zBg (M : Nat → Int32) : ZT := (tr 5 (fun p => M (62 + p)), tr 5 (fun _ => 0), tr 5 (fun _ => 0), tr 30 (fun _ => 0), 0, 0)
theorem zBg_f {M M' : Nat → Int32} (h : ∀ p, p < 5 → M' (62 + p) = M (62 + p)) : zBg M' = zBg M := by
  unfold zBg; rw [tr_ext h]
theorem zBg_W {M : Nat → Int32} (p : Nat) : (zBg M).2.1 p = 0 := by
  show tr 5 (fun _ => 0) p = 0
  unfold tr; split <;> rfl
theorem zBg_zW {P : Nat} {M : Nat → Int32} : zW P (zBg M).2.1 := fun p hp => ⟨by rw [zBg_W]; exact Int32.le_refl _, fun _ => zBg_W p⟩
theorem c_begin {P o : Nat} {M : Nat → Int32} {s : ZS} (ho : 5 < o) (hP : P ≤ 5) (e3 : s.1 4 3 = nI P) (e5 : ∀ p, p < P → s.1 5 p = M (62 + p)) (e0 : ∀ p, p < 5 → P ≤ p → M (62 + p) = 0) : rt (f_State_begin o 4 s) (fun w => gS o w = zBg M ∧ frm (fun b => o ≤ b ∧ b ≤ o + 4) s w) := by
  unfold f_State_begin
  simp only [zwi, zj0]
  refine lp_rt 5 (fun i a s1 => a = nI i ∧ frm (fun b => o ≤ b ∧ b ≤ o + 4) s s1 ∧ s1.1 o 0 = 0 ∧ s1.1 o 1 = 0 ∧ ∀ q, q < i → s1.1 (o + 1) q = M (62 + q) ∧ s1.1 (o + 2) q = 0 ∧ s1.1 (o + 3) q = 0) (by omega) ⟨rfl, (frm.rf.I (by omega)).I (by omega), ?_, ?_, fun q hq => by omega⟩ ?_ ?_
  · rw [zI1, if_pos rfl, updE, if_neg (by omega), zI1, if_pos rfl, updE, if_pos rfl]
  · rw [zI1, if_pos rfl, updE, if_pos rfl]
  · rintro i a s1 g hi ⟨rfl, F, h0, h1, hq⟩
    left
    have hni : ¬ 5 ≤ i := by omega
    have e3' : s1.1 4 3 = nI P := by rw [F.1 4 (by omega)]; exact e3
    refine ⟨nI (i + 1), zsI (zsI (zsI s1 (o + 1) i (M (62 + i))) (o + 2) i 0) (o + 3) i 0, ?_, rfl, ((F.I (by omega)).I (by omega)).I (by omega), ?_, ?_, ?_⟩
    · unfold f_State_begin_B12
      simp (disch := omega) only [l5, nI_leI, hni, ↓reduceIte, zgi, e3', zjn, zwa_n, nI_1]
      by_cases hip : P ≤ i
      · simp only [hip, ↓reduceIte, e0 i (by omega) hip]
      · have e5' : s1.1 5 i = M (62 + i) := by rw [F.1 5 (by omega)]; exact e5 i (by omega)
        simp (disch := omega) only [hip, ↓reduceIte, show 4 + 1 = 5 from rfl, zrd_n, e5']
    · rw [zI1, if_neg (by omega), zI1, if_neg (by omega), zI1, if_neg (by omega)]; exact h0
    · rw [zI1, if_neg (by omega), zI1, if_neg (by omega), zI1, if_neg (by omega)]; exact h1
    · intro q hq2
      by_cases e : q = i
      · subst e
        refine ⟨?_, ?_, ?_⟩
        · rw [zI1, if_neg (by omega), zI1, if_neg (by omega), zI1, if_pos rfl, updE, if_pos rfl]
        · rw [zI1, if_neg (by omega), zI1, if_pos rfl, updE, if_pos rfl]
        · rw [zI1, if_pos rfl, updE, if_pos rfl]
      · obtain ⟨k1, k2, k3⟩ := hq q (by omega)
        refine ⟨?_, ?_, ?_⟩
        · rw [zI1, if_neg (by omega), zI1, if_neg (by omega), zI1, if_pos rfl, updE, if_neg e]; exact k1
        · rw [zI1, if_neg (by omega), zI1, if_pos rfl, updE, if_neg e, zI1, if_neg (by omega)]; exact k2
        · rw [zI1, if_pos rfl, updE, if_neg e, zI1, if_neg (by omega), zI1, if_neg (by omega)]; exact k3
  · rintro a s1 g ⟨rfl, F, h0, h1, hq⟩
    unfold f_State_begin_B12
    simp (disch := omega) only [l5, nI_leI, Nat.le_refl, ↓reduceIte]
    refine lp_rt 30 (fun i a s2 => a = nI i ∧ frm (fun b => b = o + 4) s1 s2 ∧ ∀ q, q < i → s2.1 (o + 4) q = 0) (by omega) ⟨rfl, frm.rf, fun q hq => by omega⟩ ?_ ?_
    · rintro i a s2 g2 hi ⟨rfl, F2, hq2⟩
      left
      have hni : ¬ 30 ≤ i := by omega
      refine ⟨nI (i + 1), zsI s2 (o + 4) i 0, ?_, rfl, F2.I rfl, ?_⟩
      · unfold f_State_begin_B63
        simp (disch := omega) only [l30, nI_leI, hni, ↓reduceIte, zwa_n, nI_1]
      · intro q hq3
        rw [zI1, if_pos rfl, updE]
        by_cases e : q = i
        · rw [if_pos e]
        · rw [if_neg e]; exact hq2 q (by omega)
    · rintro a s2 g2 ⟨rfl, F2, hq2⟩
      unfold f_State_begin_B63
      simp (disch := omega) only [l30, nI_leI, Nat.le_refl, ↓reduceIte]
      refine rt_s ⟨?_, F.tr (F2.sub (fun b hb => by omega))⟩
      unfold gS zBg
      rw [F2.1 (o + 1) (by omega), F2.1 (o + 2) (by omega), F2.1 (o + 3) (by omega), F2.1 o (by omega), h0, h1]
      rw [tr_ext (fun k hk => (hq k hk).1), tr_ext (fun k hk => (hq k hk).2.1), tr_ext (fun k hk => (hq k hk).2.2), tr_ext hq2]
theorem m_begins {s : ZS} : rt (f_Model_begins s) (fun w => gM (w.1 226) = zBg (s.1 226) ∧ (∀ k, k < 10 ∨ 57 ≤ k → w.1 226 k = s.1 226 k) ∧ (∀ b, b ≠ 226 → w.1 b = s.1 b) ∧ w.2 = s.2) := by
  unfold f_Model_begins
  simp only [zwi, zj0]
  refine lp_rt 5 (fun i a s1 => a = nI i ∧ (∀ b, b ≠ 226 → s1.1 b = s.1 b) ∧ s1.2 = s.2 ∧ (∀ k, k < 10 ∨ 57 ≤ k → s1.1 226 k = s.1 226 k) ∧ s1.1 226 10 = 0 ∧ s1.1 226 11 = 0 ∧ ∀ q, q < i → s1.1 226 (12 + 3 * q) = s.1 226 (62 + q) ∧ s1.1 226 (13 + 3 * q) = 0 ∧ s1.1 226 (14 + 3 * q) = 0) (by omega) ⟨rfl, fun b hb => ?_, rfl, fun k hk => ?_, ?_, ?_, fun q hq => by omega⟩ ?_ ?_
  · rw [zI1, if_neg hb, zI1, if_neg hb]
  · rw [zI1, if_pos rfl, updE, if_neg (by omega), zI1, if_pos rfl, updE, if_neg (by omega)]
  · rw [zI1, if_pos rfl, updE, if_neg (by omega), zI1, if_pos rfl, updE, if_pos rfl]
  · rw [zI1, if_pos rfl, updE, if_pos rfl]
  · rintro i a s1 g hi ⟨rfl, F, F2, hk, h0, h1, hq⟩
    left
    have hni : ¬ 5 ≤ i := by omega
    have e62 : s1.1 226 (62 + i) = s.1 226 (62 + i) := hk _ (by omega)
    refine ⟨nI (i + 1), zsI (zsI (zsI s1 226 (12 + 3 * i) (s.1 226 (62 + i))) 226 (12 + 3 * i + 1) 0) 226 (12 + 3 * i + 2) 0, ?_, rfl, fun b hb => ?_, F2, fun k hk2 => ?_, ?_, ?_, ?_⟩
    · unfold f_Model_begins_B18
      simp (disch := omega) only [l5, nI_leI, hni, ↓reduceIte, l62, l12, l3, l2, nI_add, nI_mulR, zrd_n, zwa_n, nI_1, e62]
    · rw [zI1, if_neg hb, zI1, if_neg hb, zI1, if_neg hb]; exact F b hb
    · rw [zI1, if_pos rfl, updE, if_neg (by omega), zI1, if_pos rfl, updE, if_neg (by omega), zI1, if_pos rfl, updE, if_neg (by omega)]; exact hk k hk2
    · rw [zI1, if_pos rfl, updE, if_neg (by omega), zI1, if_pos rfl, updE, if_neg (by omega), zI1, if_pos rfl, updE, if_neg (by omega)]; exact h0
    · rw [zI1, if_pos rfl, updE, if_neg (by omega), zI1, if_pos rfl, updE, if_neg (by omega), zI1, if_pos rfl, updE, if_neg (by omega)]; exact h1
    · intro q hq2
      by_cases e : q = i
      · subst e
        refine ⟨?_, ?_, ?_⟩
        · rw [zI1, if_pos rfl, updE, if_neg (by omega), zI1, if_pos rfl, updE, if_neg (by omega), zI1, if_pos rfl, updE, if_pos rfl]
        · rw [zI1, if_pos rfl, updE, if_neg (by omega), zI1, if_pos rfl, updE, if_pos (by omega)]
        · rw [zI1, if_pos rfl, updE, if_pos (by omega)]
      · obtain ⟨k1, k2, k3⟩ := hq q (by omega)
        refine ⟨?_, ?_, ?_⟩
        · rw [zI1, if_pos rfl, updE, if_neg (by omega), zI1, if_pos rfl, updE, if_neg (by omega), zI1, if_pos rfl, updE, if_neg (by omega)]; exact k1
        · rw [zI1, if_pos rfl, updE, if_neg (by omega), zI1, if_pos rfl, updE, if_neg (by omega), zI1, if_pos rfl, updE, if_neg (by omega)]; exact k2
        · rw [zI1, if_pos rfl, updE, if_neg (by omega), zI1, if_pos rfl, updE, if_neg (by omega), zI1, if_pos rfl, updE, if_neg (by omega)]; exact k3
  · rintro a s1 g ⟨rfl, F, F2, hk, h0, h1, hq⟩
    unfold f_Model_begins_B18
    simp (disch := omega) only [l5, nI_leI, Nat.le_refl, ↓reduceIte]
    refine lp_rt 30 (fun i a s2 => a = nI (27 + i) ∧ (∀ b, b ≠ 226 → s2.1 b = s.1 b) ∧ s2.2 = s.2 ∧ (∀ k, k < 27 ∨ 57 ≤ k → s2.1 226 k = s1.1 226 k) ∧ ∀ q, q < i → s2.1 226 (27 + q) = 0) (by omega) ⟨rfl, F, F2, fun _ _ => rfl, fun q hq => by omega⟩ ?_ ?_
    · rintro i a s2 g2 hi ⟨rfl, G, G2, hk2, hq2⟩
      left
      have hni : ¬ 57 ≤ 27 + i := by omega
      refine ⟨nI (27 + (i + 1)), zsI s2 226 (27 + i) 0, ?_, rfl, fun b hb => ?_, G2, fun k hk3 => ?_, fun q hq3 => ?_⟩
      · unfold f_Model_begins_B80
        simp (disch := omega) only [l57, nI_leI, hni, ↓reduceIte, zwa_n, nI_1]
        rw [show 27 + i + 1 = 27 + (i + 1) from rfl]
      · rw [zI1, if_neg hb]; exact G b hb
      · rw [zI1, if_pos rfl, updE, if_neg (by omega)]; exact hk2 k hk3
      · rw [zI1, if_pos rfl, updE]
        by_cases e : q = i
        · rw [if_pos (by omega)]
        · rw [if_neg (by omega)]; exact hq2 q (by omega)
    · rintro a s2 g2 ⟨rfl, G, G2, hk2, hq2⟩
      unfold f_Model_begins_B80
      simp (disch := omega) only [l57, nI_leI, Nat.reduceAdd, Nat.le_refl, ↓reduceIte]
      refine rt_s ⟨?_, fun k hk3 => ?_, G, G2⟩
      · unfold gM zBg
        rw [hk2 10 (by omega), hk2 11 (by omega), h0, h1]
        have t1 : tr 5 (fun p => s2.1 226 (12 + 3 * p)) = tr 5 (fun p => s.1 226 (62 + p)) := tr_ext (fun k hk4 => by rw [hk2 _ (by omega)]; exact (hq k hk4).1)
        have t2 : tr 5 (fun p => s2.1 226 (13 + 3 * p)) = tr 5 (fun _ => 0) := tr_ext (fun k hk4 => by rw [hk2 _ (by omega)]; exact (hq k hk4).2.1)
        have t3 : tr 5 (fun p => s2.1 226 (14 + 3 * p)) = tr 5 (fun _ => 0) := tr_ext (fun k hk4 => by rw [hk2 _ (by omega)]; exact (hq k hk4).2.2)
        have t4 : tr 30 (fun k => s2.1 226 (27 + k)) = tr 30 (fun _ => 0) := tr_ext (fun k hk4 => hq2 k hk4)
        rw [t1, t2, t3, t4]
      · rw [hk2 k (by omega)]; exact hk k hk3
/-! Notes. -/
theorem nI_s1le {a r : Nat} (ha : a < 1000) (hr : r < 1000) : (nI a ≤ nI r - 1) = (a + 1 ≤ r) := by
  cases r with
  | zero => exact propext ⟨fun h => absurd (Int32.le_trans (nI_pos' (n := a) (by omega)) h) (by decide), fun h => by omega⟩
  | succ r => rw [nI_pred]; exact propext ((nI_leI (by omega) (by omega)).trans ⟨fun h => by omega, fun h => by omega⟩)
theorem nI_s1lt {a r : Nat} (ha : a < 1000) (hr : r < 1000) : (nI r - 1 < nI a) = (r ≤ a) := by
  apply propext
  rw [← Int32.not_le, nI_s1le ha hr]; omega
theorem nI_ss {a r : Nat} (ha : a < 1000) (hr : r < 1000) : (nI a - 1 < nI r - 1) = (a < r) := by
  cases r with
  | zero =>
    have : ¬ (nI a - 1 < nI 0 - 1) := by
      cases a with
      | zero => exact Int32.lt_irrefl
      | succ a => rw [nI_pred]; exact Int32.not_lt.mpr (Int32.le_trans (show nI 0 - 1 ≤ 0 by decide) (nI_pos' (by omega)))
    exact propext ⟨fun h => absurd h this, fun h => by omega⟩
  | succ r => rw [nI_pred, nI_s1lt (by omega) ha]; exact propext ⟨fun h => by omega, fun h => by omega⟩
theorem nI_s1eq {a r : Nat} (ha : a < 1000) (hr : r < 1000) : (nI a = nI r - 1) = (a + 1 = r) := by
  cases r with
  | zero =>
    apply propext
    constructor
    · intro h
      rw [show nI 0 - 1 = (-1 : Int32) by decide, nI_n1 (by omega)] at h; cases h
    · intro h; omega
  | succ r => rw [nI_pred, nI_inj (by omega) (by omega)]; exact propext ⟨fun h => by omega, fun h => by omega⟩
/-- m notes: day, pair, width -/
def noC (P m : Nat) (nd np : Nat → Nat) (nw : Nat → Int32) (s : ZS) : Prop := m ≤ 10 ∧ s.1 3 5 = nI m ∧ ∀ i, i < m → s.1 15 i = nI (nd i) ∧ s.1 16 i = nI (np i) ∧ s.1 17 i = nw i ∧ nd i ≤ 60 ∧ np i < P
def noM (P m : Nat) (nd np : Nat → Nat) (nw : Nat → Int32) (s : ZS) : Prop := m ≤ 10 ∧ s.1 226 138 = nI m ∧ ∀ i, i < m → s.1 226 (108 + 3 * i) = nI (nd i) ∧ s.1 226 (108 + 3 * i + 1) = nI (np i) ∧ s.1 226 (108 + 3 * i + 2) = nw i ∧ nd i ≤ 60 ∧ np i < P
def ntS (m : Nat) (nd np : Nat → Nat) (nw : Nat → Int32) (z : ZT) (n i : Nat) : Prop := ∀ j, j < i → nd j = n → z.2.1 (np j) = nw j
theorem ntSS {m : Nat} {nd np : Nat → Nat} {nw : Nat → Int32} {z : ZT} {n i : Nat} : ntS m nd np nw z n (i + 1) ↔ ntS m nd np nw z n i ∧ (nd i = n → z.2.1 (np i) = nw i) := by
  constructor
  · intro h; exact ⟨fun j hj => h j (by omega), h i (by omega)⟩
  · rintro ⟨h1, h2⟩ j hj
    by_cases e : j = i
    · rw [e]; exact h2
    · exact h1 j (by omega)
theorem no_of {s : ZS} {M : Nat → Int32} {P : Nat} (h : rNo 3 s M P) : ∃ m nd np nw, noC P m nd np nw s ∧ m ≤ 10 ∧ M 138 = nI m ∧ ∀ i, i < m → M (108 + 3 * i) = nI (nd i) ∧ M (108 + 3 * i + 1) = nI (np i) ∧ M (108 + 3 * i + 2) = nw i ∧ nd i ≤ 60 ∧ np i < P := by
  obtain ⟨m, h1, h2, h3, h4⟩ := h
  have a1 : ∀ i, ∃ d, i < m → M (108 + 3 * i) = nI d ∧ d ≤ 60 := fun i => by
    by_cases hi : i < m
    · obtain ⟨d, _, d2, d3⟩ := (h4 i hi).2.2.2.1
      exact ⟨d, fun _ => ⟨d3, d2⟩⟩
    · exact ⟨0, fun e => absurd e hi⟩
  have a2 : ∀ i, ∃ p, i < m → M (108 + 3 * i + 1) = nI p ∧ p < P := fun i => by
    by_cases hi : i < m
    · obtain ⟨p, p1, p2⟩ := (h4 i hi).2.2.2.2.1
      exact ⟨p, fun _ => ⟨p2, p1⟩⟩
    · exact ⟨0, fun e => absurd e hi⟩
  obtain ⟨nd, b1⟩ := Classical.skolem.mp a1
  obtain ⟨np, b2⟩ := Classical.skolem.mp a2
  refine ⟨m, nd, np, fun i => M (108 + 3 * i + 2), ⟨h1, h2, fun i hi => ?_⟩, h1, h3, fun i hi => ⟨(b1 i hi).1, (b2 i hi).1, rfl, (b1 i hi).2, (b2 i hi).2⟩⟩
  obtain ⟨k1, k2, k3, _⟩ := h4 i hi
  exact ⟨k1.trans (b1 i hi).1, k2.trans (b2 i hi).1, k3, (b1 i hi).2, (b2 i hi).2⟩
section NO
variable {P m : Nat} {nd np : Nat → Nat} {nw : Nat → Int32} {s : ZS}
theorem noC.f {s' : ZS} (h : noC P m nd np nw s) (hf : ∀ b, b = 3 ∨ 15 ≤ b ∧ b ≤ 17 → s'.1 b = s.1 b) : noC P m nd np nw s' := by
  unfold noC at h ⊢
  rw [hf 3 (by omega), hf 15 (by omega), hf 16 (by omega), hf 17 (by omega)]
  exact h
theorem noM.f {s' : ZS} (h : noM P m nd np nw s) (hf : ∀ k, k < 10 ∨ 57 ≤ k → s'.1 226 k = s.1 226 k) : noM P m nd np nw s' := by
  obtain ⟨h1, h2, h3⟩ := h
  refine ⟨h1, (hf 138 (by omega)).trans h2, fun i hi => ?_⟩
  rw [hf (108 + 3 * i) (by omega), hf (108 + 3 * i + 1) (by omega), hf (108 + 3 * i + 2) (by omega)]
  exact h3 i hi
theorem c_notes {n : Nat} (h : noC P m nd np nw s) (hP : P ≤ 5) (hn : n ≤ 100) : rt (f_Fore_notesHold (nI n) s) (fun w => w.2 = s ∧ (w.1 = 1 ∧ ntS m nd np nw (gS 207 s) n m ∨ w.1 = 0 ∧ ¬ ntS m nd np nw (gS 207 s) n m)) := by
  obtain ⟨h1, h2, h3⟩ := h
  unfold f_Fore_notesHold
  refine lp_rt m (fun i a s1 => s1 = s ∧ a = nI i ∧ ntS m nd np nw (gS 207 s) n i) (by omega) ⟨rfl, rfl, fun j hj => by omega⟩ ?_ ?_
  · rintro i a s1 g hi ⟨rfl, rfl, hh⟩
    obtain ⟨k1, k2, k3, k4, k5⟩ := h3 i hi
    have hni : ¬ m ≤ i := by omega
    unfold f_Fore_notesHold_B2
    simp (disch := omega) only [zgi, h2, nI_leI, hni, ↓reduceIte, zrd_n, k1, k2, k3, zj0, nI_inj, nI_1]
    by_cases e : nd i = n
    · rw [rW207 (by omega)]
      by_cases e2 : (gS 207 s1).2.1 (np i) = nw i
      · left
        simp only [e, e2, not_true_eq_false, ↓reduceIte]
        exact ⟨_, _, rfl, rfl, rfl, ntSS.mpr ⟨hh, fun _ => e2⟩⟩
      · right
        simp only [e, e2, not_true_eq_false, ↓reduceIte, zbl_0]
        exact rt_s ⟨rfl, Or.inr ⟨rfl, fun h => e2 (h i hi e)⟩⟩
    · left
      simp only [e, not_false_eq_true, ↓reduceIte]
      exact ⟨_, _, rfl, rfl, rfl, ntSS.mpr ⟨hh, fun h => absurd h e⟩⟩
  · rintro a s1 g ⟨rfl, rfl, hh⟩
    unfold f_Fore_notesHold_B2
    simp (disch := omega) only [zgi, h2, nI_leI, Nat.le_refl, ↓reduceIte, zbl_1]
    exact rt_s ⟨rfl, Or.inl ⟨rfl, hh⟩⟩
theorem m_notes {n : Nat} (h : noM P m nd np nw s) (hP : P ≤ 5) (hn : n ≤ 100) : rt (f_Model_areNotesSo (nI n) s) (fun w => w.2 = s ∧ (w.1 = 1 ∧ ntS m nd np nw (gM (s.1 226)) n m ∨ w.1 = 0 ∧ ¬ ntS m nd np nw (gM (s.1 226)) n m)) := by
  obtain ⟨h1, h2, h3⟩ := h
  unfold f_Model_areNotesSo
  refine lp_rt m (fun i a s1 => s1 = s ∧ a = nI (3 * i) ∧ ntS m nd np nw (gM (s.1 226)) n i) (by omega) ⟨rfl, rfl, fun j hj => by omega⟩ ?_ ?_
  · rintro i a s1 g hi ⟨rfl, rfl, hh⟩
    obtain ⟨k1, k2, k3, k4, k5⟩ := h3 i hi
    have hni : ¬ 3 * m ≤ 3 * i := by omega
    have e3 : 3 * i + 3 = 3 * (i + 1) := by omega
    unfold f_Model_areNotesSo_B2
    simp (disch := omega) only [zgi, h2, l3, nI_mulR, nI_leI, hni, ↓reduceIte, l108, l2, nI_add, nI_1, zrd_n, k1, k2, k3, zj0, nI_inj, mBand, zcl_s, e3]
    by_cases e : nd i = n
    · by_cases e2 : (gM (s1.1 226)).2.1 (np i) = nw i
      · left
        simp only [e, e2, not_true_eq_false, ↓reduceIte]
        exact ⟨_, _, rfl, rfl, rfl, ntSS.mpr ⟨hh, fun _ => e2⟩⟩
      · right
        simp only [e, e2, not_true_eq_false, ↓reduceIte, zbl_0]
        exact rt_s ⟨rfl, Or.inr ⟨rfl, fun h => e2 (h i hi e)⟩⟩
    · left
      simp only [e, not_false_eq_true, ↓reduceIte]
      exact ⟨_, _, rfl, rfl, rfl, ntSS.mpr ⟨hh, fun h => absurd h e⟩⟩
  · rintro a s1 g ⟨rfl, rfl, hh⟩
    unfold f_Model_areNotesSo_B2
    simp (disch := omega) only [zgi, h2, l3, nI_mulR, nI_leI, Nat.le_refl, ↓reduceIte, zbl_1]
    exact rt_s ⟨rfl, Or.inl ⟨rfl, hh⟩⟩
theorem c_last (h : noC P m nd np nw s) : rt (f_Fore_lastNoted s) (fun w => w.2 = s ∧ ∃ L, L ≤ 61 ∧ w.1 = nI L - 1 ∧ ∀ i, i < m → nd i < L) := by
  obtain ⟨h1, h2, h3⟩ := h
  unfold f_Fore_lastNoted
  refine lp_rt m (fun i a s1 => s1 = s ∧ a.2 = nI i ∧ ∃ L, L ≤ 61 ∧ a.1 = nI L - 1 ∧ ∀ j, j < i → nd j < L) (by omega) ⟨rfl, rfl, 0, by omega, by decide, fun j hj => by omega⟩ ?_ ?_
  · rintro i ⟨x1, x2⟩ s1 g hi ⟨rfl, e2, L, hL, e1, hh⟩
    left
    dsimp only at e1 e2
    subst e1 e2
    obtain ⟨k1, k2, k3, k4, k5⟩ := h3 i hi
    have hni : ¬ m ≤ i := by omega
    have hlt := nI_s1lt (a := nd i) (r := L) (by omega) (by omega)
    refine ⟨(if L ≤ nd i then nI (nd i) else nI L - 1, nI (i + 1)), s1, ?_, rfl, rfl, ?_⟩
    · unfold f_Fore_lastNoted_B4
      simp (disch := omega) only [zgi, h2, nI_leI, hni, ↓reduceIte, zrd_n, k1, nI_1]
      rw [show (if nI L - 1 < nI (nd i) then nI (nd i) else nI L - 1) = if L ≤ nd i then nI (nd i) else nI L - 1 by simp only [hlt]]
    · by_cases hc : L ≤ nd i
      · refine ⟨nd i + 1, by omega, ?_, fun j hj => ?_⟩
        · dsimp only; rw [if_pos hc, nI_pred]
        · by_cases e : j = i
          · rw [e]; omega
          · have := hh j (by omega); omega
      · refine ⟨L, hL, ?_, fun j hj => ?_⟩
        · dsimp only; rw [if_neg hc]
        · by_cases e : j = i
          · rw [e]; omega
          · exact hh j (by omega)
  · rintro ⟨x1, x2⟩ s1 g ⟨rfl, e2, L, hL, e1, hh⟩
    dsimp only at e1 e2
    subst e1 e2
    unfold f_Fore_lastNoted_B4
    simp (disch := omega) only [zgi, h2, nI_leI, Nat.le_refl, ↓reduceIte]
    exact rt_s ⟨rfl, L, hL, rfl, hh⟩
end NO
