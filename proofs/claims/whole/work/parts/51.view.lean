/-! What goes on with the days: the state that the class and the reference keep, seen alike. T, W, Z, said, day, rows. -/
abbrev ZT : Type := (Nat → Int32) × (Nat → Int32) × (Nat → Int32) × (Nat → Int32) × Int32 × Int32
def tr (n : Nat) (f : Nat → Int32) : Nat → Int32 := fun k => if k < n then f k else 0
theorem tr_at {n k : Nat} {f : Nat → Int32} (h : k < n) : tr n f k = f k := if_pos h
theorem tr_upd {n p : Nat} {f : Nat → Int32} {v : Int32} (h : p < n) : tr n (upd f p v) = upd (tr n f) p v := by
  funext k
  unfold tr upd
  by_cases h1 : k = p
  · subst h1; simp [h]
  · simp [h1]
theorem tr_ext {n : Nat} {f g : Nat → Int32} (h : ∀ k, k < n → f k = g k) : tr n f = tr n g := by
  funext k
  unfold tr
  split
  · next hk => exact h k hk
  · rfl
def gS (a : Nat) (s : ZS) : ZT := (tr 5 (s.1 (a + 1)), tr 5 (s.1 (a + 2)), tr 5 (s.1 (a + 3)), tr 30 (s.1 (a + 4)), s.1 a 0, s.1 a 1)
def gM (M : Nat → Int32) : ZT := (tr 5 (fun p => M (12 + 3 * p)), tr 5 (fun p => M (13 + 3 * p)), tr 5 (fun p => M (14 + 3 * p)), tr 30 (fun k => M (27 + k)), M 10, M 11)
theorem bvE (x : Int32) (k : Nat) : (x >>> (nI k &&& 31)) &&& 1 = bv x k := rfl
theorem itrS {α : Type} (n : Nat) (f : Nat → α → α) (a : α) : itr (n + 1) f a = f n (itr n f a) := rfl
theorem gS10_T {s : ZS} {p : Nat} {v : Int32} (h : p < 5) : gS 10 (zsI s 11 p v) = (upd (gS 10 s).1 p v, (gS 10 s).2) := by
  unfold gS; simp only [zI1]; simp [tr_upd h]
theorem gS10_W {s : ZS} {p : Nat} {v : Int32} (h : p < 5) : gS 10 (zsI s 12 p v) = ((gS 10 s).1, upd (gS 10 s).2.1 p v, (gS 10 s).2.2) := by
  unfold gS; simp only [zI1]; simp [tr_upd h]
theorem gS10_Z {s : ZS} {p : Nat} {v : Int32} (h : p < 5) : gS 10 (zsI s 13 p v) = ((gS 10 s).1, (gS 10 s).2.1, upd (gS 10 s).2.2.1 p v, (gS 10 s).2.2.2) := by
  unfold gS; simp only [zI1]; simp [tr_upd h]
theorem gS10_S {s : ZS} {p : Nat} {v : Int32} (h : p < 30) : gS 10 (zsI s 14 p v) = ((gS 10 s).1, (gS 10 s).2.1, (gS 10 s).2.2.1, upd (gS 10 s).2.2.2.1 p v, (gS 10 s).2.2.2.2) := by
  unfold gS; simp only [zI1]; simp [tr_upd h]
theorem gS10_D {s : ZS} {v : Int32} : gS 10 (zsI s 10 0 v) = ((gS 10 s).1, (gS 10 s).2.1, (gS 10 s).2.2.1, (gS 10 s).2.2.2.1, v, (gS 10 s).2.2.2.2.2) := by
  unfold gS; simp only [zI1]; simp [updE]
theorem gS10_N {s : ZS} {v : Int32} : gS 10 (zsI s 10 1 v) = ((gS 10 s).1, (gS 10 s).2.1, (gS 10 s).2.2.1, (gS 10 s).2.2.2.1, (gS 10 s).2.2.2.2.1, v) := by
  unfold gS; simp only [zI1]; simp [updE]
theorem gS10_o {s : ZS} {b j : Nat} {v : Int32} (h : b < 10 ∨ 14 < b) : gS 10 (zsI s b j v) = gS 10 s := by
  unfold gS; simp only [zI1]; rw [if_neg (by omega), if_neg (by omega), if_neg (by omega), if_neg (by omega), if_neg (by omega)]
theorem gS10_f {C : Nat → Prop} {s s' : ZS} (h : frm C s s') (hc : ∀ b, 10 ≤ b → b ≤ 14 → ¬ C b) : gS 10 s' = gS 10 s := by
  unfold gS; rw [h.1 _ (hc 10 (by omega) (by omega)), h.1 _ (hc 11 (by omega) (by omega)), h.1 _ (hc 12 (by omega) (by omega)), h.1 _ (hc 13 (by omega) (by omega)), h.1 _ (hc 14 (by omega) (by omega))]
theorem rT10 {s : ZS} {p : Nat} (h : p < 5) : s.1 11 p = (gS 10 s).1 p := (tr_at (f := s.1 11) h).symm
theorem rW10 {s : ZS} {p : Nat} (h : p < 5) : s.1 12 p = (gS 10 s).2.1 p := (tr_at (f := s.1 12) h).symm
theorem rZ10 {s : ZS} {p : Nat} (h : p < 5) : s.1 13 p = (gS 10 s).2.2.1 p := (tr_at (f := s.1 13) h).symm
theorem rS10 {s : ZS} {p : Nat} (h : p < 30) : s.1 14 p = (gS 10 s).2.2.2.1 p := (tr_at (f := s.1 14) h).symm
theorem rD10 {s : ZS} : s.1 10 0 = (gS 10 s).2.2.2.2.1 := rfl
theorem rN10 {s : ZS} : s.1 10 1 = (gS 10 s).2.2.2.2.2 := rfl
theorem gS207_T {s : ZS} {p : Nat} {v : Int32} (h : p < 5) : gS 207 (zsI s 208 p v) = (upd (gS 207 s).1 p v, (gS 207 s).2) := by
  unfold gS; simp only [zI1]; simp [tr_upd h]
theorem gS207_W {s : ZS} {p : Nat} {v : Int32} (h : p < 5) : gS 207 (zsI s 209 p v) = ((gS 207 s).1, upd (gS 207 s).2.1 p v, (gS 207 s).2.2) := by
  unfold gS; simp only [zI1]; simp [tr_upd h]
theorem gS207_Z {s : ZS} {p : Nat} {v : Int32} (h : p < 5) : gS 207 (zsI s 210 p v) = ((gS 207 s).1, (gS 207 s).2.1, upd (gS 207 s).2.2.1 p v, (gS 207 s).2.2.2) := by
  unfold gS; simp only [zI1]; simp [tr_upd h]
theorem gS207_S {s : ZS} {p : Nat} {v : Int32} (h : p < 30) : gS 207 (zsI s 211 p v) = ((gS 207 s).1, (gS 207 s).2.1, (gS 207 s).2.2.1, upd (gS 207 s).2.2.2.1 p v, (gS 207 s).2.2.2.2) := by
  unfold gS; simp only [zI1]; simp [tr_upd h]
theorem gS207_D {s : ZS} {v : Int32} : gS 207 (zsI s 207 0 v) = ((gS 207 s).1, (gS 207 s).2.1, (gS 207 s).2.2.1, (gS 207 s).2.2.2.1, v, (gS 207 s).2.2.2.2.2) := by
  unfold gS; simp only [zI1]; simp [updE]
theorem gS207_N {s : ZS} {v : Int32} : gS 207 (zsI s 207 1 v) = ((gS 207 s).1, (gS 207 s).2.1, (gS 207 s).2.2.1, (gS 207 s).2.2.2.1, (gS 207 s).2.2.2.2.1, v) := by
  unfold gS; simp only [zI1]; simp [updE]
theorem gS207_o {s : ZS} {b j : Nat} {v : Int32} (h : b < 207 ∨ 211 < b) : gS 207 (zsI s b j v) = gS 207 s := by
  unfold gS; simp only [zI1]; rw [if_neg (by omega), if_neg (by omega), if_neg (by omega), if_neg (by omega), if_neg (by omega)]
theorem gS207_f {C : Nat → Prop} {s s' : ZS} (h : frm C s s') (hc : ∀ b, 207 ≤ b → b ≤ 211 → ¬ C b) : gS 207 s' = gS 207 s := by
  unfold gS; rw [h.1 _ (hc 207 (by omega) (by omega)), h.1 _ (hc 208 (by omega) (by omega)), h.1 _ (hc 209 (by omega) (by omega)), h.1 _ (hc 210 (by omega) (by omega)), h.1 _ (hc 211 (by omega) (by omega))]
theorem rT207 {s : ZS} {p : Nat} (h : p < 5) : s.1 208 p = (gS 207 s).1 p := (tr_at (f := s.1 208) h).symm
theorem rW207 {s : ZS} {p : Nat} (h : p < 5) : s.1 209 p = (gS 207 s).2.1 p := (tr_at (f := s.1 209) h).symm
theorem rZ207 {s : ZS} {p : Nat} (h : p < 5) : s.1 210 p = (gS 207 s).2.2.1 p := (tr_at (f := s.1 210) h).symm
theorem rS207 {s : ZS} {p : Nat} (h : p < 30) : s.1 211 p = (gS 207 s).2.2.2.1 p := (tr_at (f := s.1 211) h).symm
theorem rD207 {s : ZS} : s.1 207 0 = (gS 207 s).2.2.2.2.1 := rfl
theorem rN207 {s : ZS} : s.1 207 1 = (gS 207 s).2.2.2.2.2 := rfl
theorem gM_T {M : Nat → Int32} {p : Nat} {v : Int32} (h : p < 5) : gM (upd M (12 + 3 * p) v) = (upd (gM M).1 p v, (gM M).2) := by
  unfold gM
  refine Prod.ext ?_ (Prod.ext ?_ (Prod.ext ?_ (Prod.ext ?_ (Prod.ext ?_ ?_))))
  · show tr 5 (fun q => upd M (12 + 3 * p) v (12 + 3 * q)) = upd (tr 5 (fun q => M (12 + 3 * q))) p v
    rw [← tr_upd h]; congr 1; funext q; unfold upd; by_cases e : q = p
    · subst e; simp
    · rw [if_neg (by omega), if_neg e]
  · show tr 5 (fun q => upd M (12 + 3 * p) v (13 + 3 * q)) = tr 5 (fun q => M (13 + 3 * q))
    congr 1; funext q; unfold upd; rw [if_neg (by omega)]
  · show tr 5 (fun q => upd M (12 + 3 * p) v (14 + 3 * q)) = tr 5 (fun q => M (14 + 3 * q))
    congr 1; funext q; unfold upd; rw [if_neg (by omega)]
  · show tr 30 (fun k => upd M (12 + 3 * p) v (27 + k)) = tr 30 (fun k => M (27 + k))
    refine tr_ext (fun k hk => ?_); unfold upd; rw [if_neg (by omega)]
  · show upd M (12 + 3 * p) v 10 = M 10
    unfold upd; rw [if_neg (by omega)]
  · show upd M (12 + 3 * p) v 11 = M 11
    unfold upd; rw [if_neg (by omega)]
theorem gM_W {M : Nat → Int32} {p : Nat} {v : Int32} (h : p < 5) : gM (upd M (13 + 3 * p) v) = ((gM M).1, upd (gM M).2.1 p v, (gM M).2.2) := by
  unfold gM
  refine Prod.ext ?_ (Prod.ext ?_ (Prod.ext ?_ (Prod.ext ?_ (Prod.ext ?_ ?_))))
  · show tr 5 (fun q => upd M (13 + 3 * p) v (12 + 3 * q)) = tr 5 (fun q => M (12 + 3 * q))
    congr 1; funext q; unfold upd; rw [if_neg (by omega)]
  · show tr 5 (fun q => upd M (13 + 3 * p) v (13 + 3 * q)) = upd (tr 5 (fun q => M (13 + 3 * q))) p v
    rw [← tr_upd h]; congr 1; funext q; unfold upd; by_cases e : q = p
    · subst e; simp
    · rw [if_neg (by omega), if_neg e]
  · show tr 5 (fun q => upd M (13 + 3 * p) v (14 + 3 * q)) = tr 5 (fun q => M (14 + 3 * q))
    congr 1; funext q; unfold upd; rw [if_neg (by omega)]
  · show tr 30 (fun k => upd M (13 + 3 * p) v (27 + k)) = tr 30 (fun k => M (27 + k))
    refine tr_ext (fun k hk => ?_); unfold upd; rw [if_neg (by omega)]
  · show upd M (13 + 3 * p) v 10 = M 10
    unfold upd; rw [if_neg (by omega)]
  · show upd M (13 + 3 * p) v 11 = M 11
    unfold upd; rw [if_neg (by omega)]
theorem gM_Z {M : Nat → Int32} {p : Nat} {v : Int32} (h : p < 5) : gM (upd M (14 + 3 * p) v) = ((gM M).1, (gM M).2.1, upd (gM M).2.2.1 p v, (gM M).2.2.2) := by
  unfold gM
  refine Prod.ext ?_ (Prod.ext ?_ (Prod.ext ?_ (Prod.ext ?_ (Prod.ext ?_ ?_))))
  · show tr 5 (fun q => upd M (14 + 3 * p) v (12 + 3 * q)) = tr 5 (fun q => M (12 + 3 * q))
    congr 1; funext q; unfold upd; rw [if_neg (by omega)]
  · show tr 5 (fun q => upd M (14 + 3 * p) v (13 + 3 * q)) = tr 5 (fun q => M (13 + 3 * q))
    congr 1; funext q; unfold upd; rw [if_neg (by omega)]
  · show tr 5 (fun q => upd M (14 + 3 * p) v (14 + 3 * q)) = upd (tr 5 (fun q => M (14 + 3 * q))) p v
    rw [← tr_upd h]; congr 1; funext q; unfold upd; by_cases e : q = p
    · subst e; simp
    · rw [if_neg (by omega), if_neg e]
  · show tr 30 (fun k => upd M (14 + 3 * p) v (27 + k)) = tr 30 (fun k => M (27 + k))
    refine tr_ext (fun k hk => ?_); unfold upd; rw [if_neg (by omega)]
  · show upd M (14 + 3 * p) v 10 = M 10
    unfold upd; rw [if_neg (by omega)]
  · show upd M (14 + 3 * p) v 11 = M 11
    unfold upd; rw [if_neg (by omega)]
theorem gM_S {M : Nat → Int32} {k : Nat} {v : Int32} (h : k < 30) : gM (upd M (27 + k) v) = ((gM M).1, (gM M).2.1, (gM M).2.2.1, upd (gM M).2.2.2.1 k v, (gM M).2.2.2.2) := by
  unfold gM
  refine Prod.ext ?_ (Prod.ext ?_ (Prod.ext ?_ (Prod.ext ?_ (Prod.ext ?_ ?_))))
  · refine tr_ext (fun q hq => ?_); unfold upd; rw [if_neg (by omega)]
  · refine tr_ext (fun q hq => ?_); unfold upd; rw [if_neg (by omega)]
  · refine tr_ext (fun q hq => ?_); unfold upd; rw [if_neg (by omega)]
  · show tr 30 (fun q => upd M (27 + k) v (27 + q)) = upd (tr 30 (fun q => M (27 + q))) k v
    rw [← tr_upd h]; congr 1; funext q; unfold upd; by_cases e : q = k
    · subst e; simp
    · rw [if_neg (by omega), if_neg e]
  · show upd M (27 + k) v 10 = M 10
    unfold upd; rw [if_neg (by omega)]
  · show upd M (27 + k) v 11 = M 11
    unfold upd; rw [if_neg (by omega)]
theorem gM_D {M : Nat → Int32} {v : Int32} : gM (upd M 10 v) = ((gM M).1, (gM M).2.1, (gM M).2.2.1, (gM M).2.2.2.1, v, (gM M).2.2.2.2.2) := by
  unfold gM
  refine Prod.ext ?_ (Prod.ext ?_ (Prod.ext ?_ (Prod.ext ?_ (Prod.ext ?_ ?_))))
  · refine tr_ext (fun q hq => ?_); unfold upd; rw [if_neg (by omega)]
  · refine tr_ext (fun q hq => ?_); unfold upd; rw [if_neg (by omega)]
  · refine tr_ext (fun q hq => ?_); unfold upd; rw [if_neg (by omega)]
  · refine tr_ext (fun q hq => ?_); unfold upd; rw [if_neg (by omega)]
  · rfl
  · rfl
theorem gM_N {M : Nat → Int32} {v : Int32} : gM (upd M 11 v) = ((gM M).1, (gM M).2.1, (gM M).2.2.1, (gM M).2.2.2.1, (gM M).2.2.2.2.1, v) := by
  unfold gM
  refine Prod.ext ?_ (Prod.ext ?_ (Prod.ext ?_ (Prod.ext ?_ (Prod.ext ?_ ?_))))
  · refine tr_ext (fun q hq => ?_); unfold upd; rw [if_neg (by omega)]
  · refine tr_ext (fun q hq => ?_); unfold upd; rw [if_neg (by omega)]
  · refine tr_ext (fun q hq => ?_); unfold upd; rw [if_neg (by omega)]
  · refine tr_ext (fun q hq => ?_); unfold upd; rw [if_neg (by omega)]
  · rfl
  · rfl
theorem rT {M : Nat → Int32} {p : Nat} (h : p < 5) : M (12 + 3 * p) = (gM M).1 p := (tr_at (f := fun p => M (12 + 3 * p)) h).symm
theorem rW {M : Nat → Int32} {p : Nat} (h : p < 5) : M (13 + 3 * p) = (gM M).2.1 p := (tr_at (f := fun p => M (13 + 3 * p)) h).symm
theorem rZ {M : Nat → Int32} {p : Nat} (h : p < 5) : M (14 + 3 * p) = (gM M).2.2.1 p := (tr_at (f := fun p => M (14 + 3 * p)) h).symm
theorem rS {M : Nat → Int32} {k : Nat} (h : k < 30) : M (27 + k) = (gM M).2.2.2.1 k := (tr_at (f := fun k => M (27 + k)) h).symm
theorem rD {M : Nat → Int32} : M 10 = (gM M).2.2.2.2.1 := rfl
theorem rN {M : Nat → Int32} : M 11 = (gM M).2.2.2.2.2 := rfl
/-- the smithy of the class, of the reference: P pairs, Q sayings, C its numbers, by the places of the reference -/
def cC (P Q : Nat) (C : Nat → Int32) (s : ZS) : Prop := P ≤ 5 ∧ Q ≤ 6 ∧ s.1 4 3 = nI P ∧ s.1 4 4 = nI Q ∧ s.1 4 1 = C 1 ∧ s.1 4 2 = C 2 ∧ (∀ p, p < P → s.1 6 p = C (57 + p)) ∧ (∀ p, p < 5 → s.1 7 p = C (103 + p)) ∧ (∀ q, q < Q → s.1 8 q = C (67 + q)) ∧ (∀ k, k < 30 → s.1 9 k = C (73 + k))
def cM (P Q : Nat) (C : Nat → Int32) (s : ZS) : Prop := P ≤ 5 ∧ Q ≤ 6 ∧ s.1 226 3 = nI P ∧ s.1 226 4 = nI Q ∧ ∀ k, k < 10 ∨ 57 ≤ k → s.1 226 k = C k
theorem cC.f {P Q : Nat} {C : Nat → Int32} {s s' : ZS} {X : Nat → Prop} (h : cC P Q C s) (hf : frm X s s') (hX : ∀ b, 4 ≤ b → b ≤ 9 → ¬ X b) : cC P Q C s' := by
  obtain ⟨h1, h2, h3, h4, h5, h6, h7, h8, h9, h10⟩ := h
  refine ⟨h1, h2, ?_, ?_, ?_, ?_, ?_, ?_, ?_, ?_⟩
  · rw [hf.1 4 (hX 4 (by omega) (by omega))]; exact h3
  · rw [hf.1 4 (hX 4 (by omega) (by omega))]; exact h4
  · rw [hf.1 4 (hX 4 (by omega) (by omega))]; exact h5
  · rw [hf.1 4 (hX 4 (by omega) (by omega))]; exact h6
  · rw [hf.1 6 (hX 6 (by omega) (by omega))]; exact h7
  · rw [hf.1 7 (hX 7 (by omega) (by omega))]; exact h8
  · rw [hf.1 8 (hX 8 (by omega) (by omega))]; exact h9
  · rw [hf.1 9 (hX 9 (by omega) (by omega))]; exact h10
/-- the reference: said but for what goes on stays -/
def kM (s s' : ZS) : Prop := ∀ k, k < 10 ∨ 57 ≤ k → s'.1 226 k = s.1 226 k
theorem kM.rf {s : ZS} : kM s s := fun _ _ => rfl
theorem kM.tr {s s1 s2 : ZS} (h : kM s s1) (h2 : kM s1 s2) : kM s s2 := fun k hk => (h2 k hk).trans (h k hk)
theorem cM.k {P Q : Nat} {C : Nat → Int32} {s s' : ZS} (h : cM P Q C s) (hk : kM s s') : cM P Q C s' := by
  obtain ⟨h1, h2, h3, h4, h5⟩ := h
  exact ⟨h1, h2, (hk 3 (by omega)).trans h3, (hk 4 (by omega)).trans h4, fun k hk2 => (hk k hk2).trans (h5 k hk2)⟩
theorem kM.I {s s1 : ZS} {j : Nat} {v : Int32} (h : kM s s1) (hj : 10 ≤ j ∧ j < 57) : kM s (zsI s1 226 j v) := fun k hk => by
  rw [zI1, if_pos rfl, updE, if_neg (by omega)]; exact h k hk
theorem kM.o {s s1 : ZS} {b j : Nat} {v : Int32} (h : kM s s1) (hb : b ≠ 226) : kM s (zsI s1 b j v) := fun k hk => by
  rw [zI1, if_neg (Ne.symm hb)]; exact h k hk
theorem kM.f {s s1 s2 : ZS} {X : Nat → Prop} (h : kM s s1) (hf : frm X s1 s2) (hX : ¬ X 226) : kM s s2 := fun k hk => by rw [hf.1 226 hX]; exact h k hk
theorem minE (a b : Int32) : (if b < a then b else a) = if b ≤ a then b else a := by
  by_cases h : b < a
  · rw [if_pos h, if_pos (Int32.le_of_lt h)]
  · rw [if_neg h]
    by_cases h2 : b ≤ a
    · rw [if_pos h2]; exact Int32.le_antisymm (Int32.not_lt.mp h) h2
    · rw [if_neg h2]
/-- who has a row of a set -/
def sBr1 (C : Nat → Int32) (B : Nat → Bool) (p : Nat) (x : ZT × Int32 × (Nat → Int32)) : ZT × Int32 × (Nat → Int32) :=
  if B p = true ∧ C (57 + p) ≤ x.1.1 p then
    ((upd x.1.1 p 0, upd x.1.2.1 p (if C 1 ≤ x.1.1 p then C 1 else x.1.1 p), upd x.1.2.2.1 p (x.1.1 p), x.1.2.2.2.1, x.1.2.2.2.2.1, x.1.2.2.2.2.2 + 1), x.2.1 ||| ((1 : Int32) <<< (nI p &&& 31)), upd x.2.2 p (x.1.1 p))
  else x
def sBr (P : Nat) (C : Nat → Int32) (B : Nat → Bool) (z : ZT) (RS : Nat → Int32) : ZT × Int32 × (Nat → Int32) := itr P (sBr1 C B) (z, 0, RS)
