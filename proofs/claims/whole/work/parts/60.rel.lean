/-! How the class's cells and the reference's belong together between calls. -/
def iN (lo hi : Nat) (v : Int32) : Prop := ∃ n, lo ≤ n ∧ n ≤ hi ∧ v = nI n
def cB (P Q : Nat) (M : Nat → Int32) : Prop :=
  P ≤ 5 ∧ Q ≤ 6 ∧ M 3 = nI P ∧ M 4 = nI Q ∧ (M 0 = 0 ∧ P = 0 ∧ Q = 0 ∧ M 1 = 0 ∧ M 2 = 0 ∨ M 0 = 1 ∧ iN 1 99 (M 1) ∧ iN 1 9 (M 2)) ∧
  (∀ p, p < P → iN 1 99 (M (57 + p))) ∧ (∀ p, p < 5 → iN 0 99 (M (62 + p)) ∧ (P ≤ p → M (62 + p) = 0)) ∧ (∀ q, q < 6 → iN 0 9 (M (67 + q))) ∧ (∀ k, k < 30 → iN 0 20 (M (73 + k))) ∧ (∀ p, p < 5 → iN 0 31 (M (103 + p)))
def zOK (P : Nat) (z : ZT) : Prop := ∀ p, p < 5 → iN 0 99 (z.2.1 p) ∧ (P ≤ p → z.2.1 p = 0) ∧ iN 0 999 (z.1 p)
def sOK (P : Nat) (M : Nat → Int32) : Prop := zOK P (gM M) ∧ iN 0 999 (M 10)
def rSm (a : Nat) (s : ZS) (M : Nat → Int32) (P Q : Nat) : Prop :=
  s.1 a 0 = M 0 ∧ s.1 a 1 = M 1 ∧ s.1 a 2 = M 2 ∧ s.1 a 3 = nI P ∧ s.1 a 4 = nI Q ∧ (∀ p, p < P → s.1 (a + 1) p = M (62 + p)) ∧ (∀ p, p < P → s.1 (a + 2) p = M (57 + p)) ∧ (∀ p, p < 5 → s.1 (a + 3) p = M (103 + p)) ∧ (∀ q, q < Q → s.1 (a + 4) q = M (67 + q)) ∧ (∀ k, k < 30 → s.1 (a + 5) k = M (73 + k))
def rNo (a : Nat) (s : ZS) (M : Nat → Int32) (P : Nat) : Prop :=
  ∃ m, m ≤ 10 ∧ s.1 a 5 = nI m ∧ M 138 = nI m ∧ ∀ i, i < m → s.1 (a + 12) i = M (108 + 3 * i) ∧ s.1 (a + 13) i = M (108 + 3 * i + 1) ∧ s.1 (a + 14) i = M (108 + 3 * i + 2) ∧ iN 0 60 (M (108 + 3 * i)) ∧ (∃ p, p < P ∧ M (108 + 3 * i + 1) = nI p) ∧ iN 0 99 (M (108 + 3 * i + 2))
def rWd (a : Nat) (s : ZS) (M : Nat → Int32) (f x : Int32) (R P Q : Nat) : Prop :=
  cB P Q M ∧ rSm (a + 1) s M P Q ∧ gS (a + 7) s = gM M ∧ sOK P M ∧ rNo a s M P ∧ s.1 a 6 = f ∧ (f = -1 ∨ ∃ j, j < R ∧ f = nI j) ∧ s.1 a 7 = x ∧ iN 0 2147483647 x
def rTp (s : ZS) : Prop := ∃ n, n ≤ 400 ∧ s.1 1 1 = nI n ∧ s.1 216 1 = nI n ∧ s.1 2 = s.1 217 ∧ ∀ k, (s.1 217 k).toInt8.toInt32 = s.1 217 k
def rRu (s : ZS) (R : Nat) : Prop := R ≤ 6 ∧ s.1 0 10 = nI R ∧ s.1 216 2 = nI R ∧ ∀ j, j < R → ∃ f, ruleC j f s ∧ ruleM j f s
def rIm (s : ZS) (R : Nat) : Prop := ∀ k, k < 4 → s.1 (19 + 15 * k) 8 = s.1 240 k ∧ (s.1 240 k = 0 ∨ s.1 240 k = 1 ∧ ∃ P Q, rWd (19 + 15 * k) s (fun i => s.1 237 (139 * k + i)) (s.1 238 k) (s.1 239 k) R P Q)
def rHi (s : ZS) (P : Nat) : Prop := ∃ u f0, u ≤ 20 ∧ f0 < 20 ∧ s.1 100 1 = nI f0 ∧ s.1 100 2 = nI u ∧ s.1 216 27 = nI u ∧ ∀ i, i < u → gS (102 + 5 * ((f0 + i) % 20)) s = gM (fun k => s.1 228 (47 * i + k - 10)) ∧ sOK P (fun k => s.1 228 (47 * i + k - 10))
def Rel (s : ZS) : Prop := ∃ R P Q, rTp s ∧ rRu s R ∧ rWd 3 s (s.1 226) (s.1 216 21) (s.1 216 22) R P Q ∧ rIm s R ∧ rHi s P ∧ s.1 216 23 = 0 ∧ s.1 216 24 = -1
theorem gS_f {a : Nat} {s s' : ZS} (h : ∀ b, a ≤ b → b ≤ a + 4 → s'.1 b = s.1 b) : gS a s' = gS a s := by
  unfold gS
  rw [h a (by omega) (by omega), h (a + 1) (by omega) (by omega), h (a + 2) (by omega) (by omega), h (a + 3) (by omega) (by omega), h (a + 4) (by omega) (by omega)]
theorem rSm.f {a : Nat} {s s' : ZS} {M : Nat → Int32} {P Q : Nat} (hr : rSm a s M P Q) (h : ∀ b, a ≤ b → b ≤ a + 5 → s'.1 b = s.1 b) : rSm a s' M P Q := by
  unfold rSm at hr ⊢
  rw [h a (by omega) (by omega), h (a + 1) (by omega) (by omega), h (a + 2) (by omega) (by omega), h (a + 3) (by omega) (by omega), h (a + 4) (by omega) (by omega), h (a + 5) (by omega) (by omega)]
  exact hr
theorem rNo.f {a : Nat} {s s' : ZS} {M : Nat → Int32} {P : Nat} (hr : rNo a s M P) (h : ∀ b, a = b ∨ a + 12 ≤ b ∧ b ≤ a + 14 → s'.1 b = s.1 b) : rNo a s' M P := by
  unfold rNo at hr ⊢
  rw [h a (by omega), h (a + 12) (by omega), h (a + 13) (by omega), h (a + 14) (by omega)]
  exact hr
theorem rWd.f {a : Nat} {s s' : ZS} {M : Nat → Int32} {f x : Int32} {R P Q : Nat} (hr : rWd a s M f x R P Q) (h : ∀ b, a ≤ b → b ≤ a + 14 → s'.1 b = s.1 b) : rWd a s' M f x R P Q := by
  obtain ⟨h1, h2, h3, h4, h5, h6, h7, h8, h9⟩ := hr
  refine ⟨h1, h2.f (fun b hb hb2 => h b (by omega) (by omega)), ?_, h4, h5.f (fun b hb => h b (by omega) (by omega)), ?_, h7, ?_, h9⟩
  · rw [gS_f (fun b hb hb2 => h b (by omega) (by omega))]; exact h3
  · rw [h a (by omega) (by omega)]; exact h6
  · rw [h a (by omega) (by omega)]; exact h8
theorem rWd.up {a : Nat} {s : ZS} {M : Nat → Int32} {f x : Int32} {R R' P Q : Nat} (hr : rWd a s M f x R P Q) (h : R ≤ R') : rWd a s M f x R' P Q := by
  obtain ⟨h1, h2, h3, h4, h5, h6, h7, h8, h9⟩ := hr
  refine ⟨h1, h2, h3, h4, h5, h6, ?_, h8, h9⟩
  rcases h7 with h7 | ⟨j, hj, e⟩
  · exact Or.inl h7
  · exact Or.inr ⟨j, by omega, e⟩
theorem ruleC.f {j : Nat} {f : (Nat → Int64) → Int64} {s s' : ZS} (h : ruleC j f s) (hf : agC j s' s) : ruleC j f s' := fun s2 ws g1 g2 => h s2 ws ⟨g1.1.trans hf.1, g1.2.trans hf.2⟩ g2
theorem ruleM.f {j : Nat} {f : (Nat → Int64) → Int64} {s s' : ZS} (h : ruleM j f s) (hf : agM j s' s) : ruleM j f s' := fun s2 ws g1 g2 => h s2 ws ⟨fun k hk hk2 => (g1.1 k hk hk2).trans (hf.1 k hk hk2), fun k hk hk2 => (g1.2.1 k hk hk2).trans (hf.2.1 k hk hk2), g1.2.2.trans hf.2.2⟩ g2
theorem rTp.f {s s' : ZS} (h : rTp s) (h1 : s'.1 1 1 = s.1 1 1) (h2 : s'.1 216 1 = s.1 216 1) (h3 : s'.1 2 = s.1 2) (h4 : s'.1 217 = s.1 217) : rTp s' := by
  unfold rTp at h ⊢; rw [h1, h2, h3, h4]; exact h
theorem rRu.f {s s' : ZS} {R : Nat} (h : rRu s R) (h0 : s'.1 0 10 = s.1 0 10) (h2 : s'.1 216 2 = s.1 216 2) (hc : ∀ b, 86 ≤ b → b ≤ 97 → s'.1 b = s.1 b) (hm : ∀ b, b = 218 ∨ b = 220 ∨ b = 221 → s'.1 b = s.1 b) : rRu s' R := by
  obtain ⟨g1, g2, g3, g4⟩ := h
  refine ⟨g1, h0.trans g2, h2.trans g3, fun j hj => ?_⟩
  obtain ⟨f, k1, k2⟩ := g4 j hj
  exact ⟨f, k1.f ⟨hc _ (by omega) (by omega), hc _ (by omega) (by omega)⟩, k2.f ⟨fun k _ _ => by rw [hm 218 (by omega)], fun k _ _ => by rw [hm 220 (by omega)], by rw [hm 221 (by omega)]⟩⟩
theorem rIm.f {s s' : ZS} {R : Nat} (h : rIm s R) (hc : ∀ b, 19 ≤ b → b ≤ 78 → s'.1 b = s.1 b) (hm : ∀ b, 237 ≤ b → b ≤ 240 → s'.1 b = s.1 b) : rIm s' R := by
  intro k hk
  obtain ⟨g1, g2⟩ := h k hk
  rw [hc (19 + 15 * k) (by omega) (by omega), hm 240 (by omega) (by omega), hm 237 (by omega) (by omega), hm 238 (by omega) (by omega), hm 239 (by omega) (by omega)]
  refine ⟨g1, ?_⟩
  rcases g2 with g2 | ⟨g2, P, Q, g3⟩
  · exact Or.inl g2
  · exact Or.inr ⟨g2, P, Q, g3.f (fun b hb hb2 => hc b (by omega) (by omega))⟩
theorem rHi.f {s s' : ZS} {P : Nat} (h : rHi s P) (hc : ∀ b, 100 ≤ b → b ≤ 201 → s'.1 b = s.1 b) (hu : s'.1 216 27 = s.1 216 27) (hm : s'.1 228 = s.1 228) : rHi s' P := by
  obtain ⟨u, f0, g1, g2, g3, g4, g5, g6⟩ := h
  refine ⟨u, f0, g1, g2, ?_, ?_, hu.trans g5, fun i hi => ?_⟩
  · rw [hc 100 (by omega) (by omega)]; exact g3
  · rw [hc 100 (by omega) (by omega)]; exact g4
  · have := Nat.mod_lt (f0 + i) (show 0 < 20 by omega)
    rw [hm, gS_f (s' := s') (s := s) (fun b hb hb2 => hc b (by omega) (by omega))]
    exact g6 i hi
/-- what asks only, in the class -/
theorem Rel.qC {s s' : ZS} (h : Rel s) (hf : frm (fun b => 202 ≤ b ∧ b ≤ 215) s s') : Rel s' := by
  obtain ⟨R, P, Q, h1, h2, h3, h4, h5, h6, h7⟩ := h
  have e : ∀ b, b < 202 ∨ 215 < b → s'.1 b = s.1 b := fun b hb => hf.1 b (by omega)
  refine ⟨R, P, Q, h1.f ?_ ?_ (e 2 (by omega)) (e 217 (by omega)), h2.f ?_ ?_ (fun b _ _ => e b (by omega)) (fun b _ => e b (by omega)), ?_, h4.f (fun b _ _ => e b (by omega)) (fun b _ _ => e b (by omega)), h5.f (fun b _ _ => e b (by omega)) ?_ (e 228 (by omega)), ?_, ?_⟩
  · rw [e 1 (by omega)]
  · rw [e 216 (by omega)]
  · rw [e 0 (by omega)]
  · rw [e 216 (by omega)]
  · rw [e 226 (by omega), e 216 (by omega)]; exact h3.f (fun b _ _ => e b (by omega))
  · rw [e 216 (by omega)]
  · rw [e 216 (by omega)]; exact h6
  · rw [e 216 (by omega)]; exact h7
/-- what asks only, in the reference -/
def qM (s s' : ZS) : Prop := (∀ b, ¬ (b = 216 ∨ b = 227 ∨ 229 ≤ b ∧ b ≤ 236) → s'.1 b = s.1 b) ∧ ∀ j, j = 1 ∨ j = 2 ∨ 21 ≤ j ∧ j ≤ 24 ∨ j = 27 → s'.1 216 j = s.1 216 j
theorem qM.rf {s : ZS} : qM s s := ⟨fun _ _ => rfl, fun _ _ => rfl⟩
theorem qM.tr {s s1 s2 : ZS} (h : qM s s1) (h2 : qM s1 s2) : qM s s2 := ⟨fun b hb => (h2.1 b hb).trans (h.1 b hb), fun b hb => (h2.2 b hb).trans (h.2 b hb)⟩
theorem Rel.qM {s s' : ZS} (h : Rel s) (hf : qM s s') : Rel s' := by
  obtain ⟨R, P, Q, h1, h2, h3, h4, h5, h6, h7⟩ := h
  have e : ∀ b, ¬ (b = 216 ∨ b = 227 ∨ 229 ≤ b ∧ b ≤ 236) → s'.1 b = s.1 b := hf.1
  refine ⟨R, P, Q, h1.f ?_ (hf.2 1 (by omega)) (e 2 (by omega)) (e 217 (by omega)), h2.f ?_ (hf.2 2 (by omega)) (fun b _ _ => e b (by omega)) (fun b _ => e b (by omega)), ?_, h4.f (fun b _ _ => e b (by omega)) (fun b _ _ => e b (by omega)), h5.f (fun b _ _ => e b (by omega)) (hf.2 27 (by omega)) (e 228 (by omega)), ?_, ?_⟩
  · rw [e 1 (by omega)]
  · rw [e 0 (by omega)]
  · rw [e 226 (by omega), hf.2 21 (by omega), hf.2 22 (by omega)]; exact h3.f (fun b _ _ => e b (by omega))
  · rw [hf.2 23 (by omega)]; exact h6
  · rw [hf.2 24 (by omega)]; exact h7
/-- the tape, what texts are read with, and nothing else -/
theorem Rel.t {s s' : ZS} (h : Rel s) (ht : rTp s') (hf : ∀ b, b = 0 ∨ 3 ≤ b ∧ b ≤ 17 ∨ 19 ≤ b ∧ b ≤ 78 ∨ 86 ≤ b ∧ b ≤ 97 ∨ 100 ≤ b ∧ b ≤ 201 ∨ b = 218 ∨ b = 220 ∨ b = 221 ∨ b = 226 ∨ b = 228 ∨ 237 ≤ b ∧ b ≤ 240 → s'.1 b = s.1 b) (hj : ∀ j, j = 2 ∨ 21 ≤ j ∧ j ≤ 24 ∨ j = 27 → s'.1 216 j = s.1 216 j) : Rel s' := by
  obtain ⟨R, P, Q, h1, h2, h3, h4, h5, h6, h7⟩ := h
  refine ⟨R, P, Q, ht, h2.f ?_ (hj 2 (by omega)) (fun b _ _ => hf b (by omega)) (fun b _ => hf b (by omega)), ?_, h4.f (fun b _ _ => hf b (by omega)) (fun b _ _ => hf b (by omega)), h5.f (fun b _ _ => hf b (by omega)) (hj 27 (by omega)) (hf 228 (by omega)), ?_, ?_⟩
  · rw [hf 0 (by omega)]
  · rw [hf 226 (by omega), hj 21 (by omega), hj 22 (by omega)]; exact h3.f (fun b _ _ => hf b (by omega))
  · rw [hj 23 (by omega)]; exact h6
  · rw [hj 24 (by omega)]; exact h7
/-- a step: both answer, alike, and go on belonging together -/
def stp (fR fM : ZS → Option (Int32 × ZS)) : Prop := ∀ s, Rel s → rt (fR s) (fun w => rt (fM w.2) (fun w2 => w2.1 = w.1 ∧ Rel w2.2))
/-- what the class's smithy is for the days -/
theorem rWd.cC {s : ZS} {M : Nat → Int32} {f x : Int32} {R P Q : Nat} (h : rWd 3 s M f x R P Q) : cC P Q M s := by
  obtain ⟨⟨k1, k2, k3, k4, k5⟩, ⟨g1, g2, g3, g4, g5, g6, g7, g8, g9, g10⟩, _⟩ := h
  exact ⟨k1, k2, g4, g5, g2, g3, g7, g8, g9, g10⟩
theorem rWd.cM {s : ZS} {f x : Int32} {R P Q : Nat} (h : rWd 3 s (s.1 226) f x R P Q) : cM P Q (s.1 226) s := ⟨h.1.1, h.1.2.1, h.1.2.2.1, h.1.2.2.2.1, fun _ _ => rfl⟩
theorem iN.ge {lo hi : Nat} {v : Int32} (h : iN lo hi v) (hh : hi < 2147483648) : 0 ≤ v := by
  obtain ⟨n, h1, h2, rfl⟩ := h; exact nI_pos' (by omega)
theorem cB.cK {P Q : Nat} {M : Nat → Int32} (h : cB P Q M) : cK P M := by
  obtain ⟨h1, h2, h3, h4, h5, h6, _⟩ := h
  refine ⟨?_, fun p hp => ?_⟩
  · rcases h5 with ⟨_, _, _, e, _⟩ | ⟨_, e, _⟩
    · rw [e]; exact Int32.le_refl _
    · exact e.ge (by omega)
  · obtain ⟨n, k1, k2, e⟩ := h6 p hp
    rw [e, nI_0lt (by omega)]; omega
theorem cB.cN {P Q : Nat} {M : Nat → Int32} (h : cB P Q M) : cN M := by
  intro p hp
  obtain ⟨n, k1, k2, e⟩ := h.2.2.2.2.2.2.2.2.2 p hp
  exact ⟨n, by omega, e⟩
theorem zOK.zW {P : Nat} {z : ZT} (h : zOK P z) : zW P z.2.1 := fun p hp => ⟨(h p hp).1.ge (by omega), (h p hp).2.1⟩
