/-! smith: what the text says. -/
def sBd {α β : Type} (r : Sum Nat α) (k : α → Sum Nat β) : Sum Nat β := match r with
  | .inl f => .inl f
  | .inr x => k x
abbrev ZA : Type := Nat × Nat × (Nat → Int32)
section SM
variable (t : Nat → Nat) (n : Nat)
def smW0 (p : Nat) (a : ZA) : Sum Nat (Nat × ZA) := sBd (nm t n p 1 100) (fun x => sBd (nm t n x.2 1 10) (fun y => .inr (y.2, a.1, a.2.1, upd (upd (upd a.2.2 1 (nI x.1)) 2 (nI y.1)) 0 1)))
def smW1 (p : Nat) (a : ZA) : Sum Nat (Nat × ZA) := sBd (nm t n p 0 100) (fun x => sBd (nm t n x.2 1 100) (fun y => .inr (y.2, a.1 + 1, a.2.1, upd (upd (upd a.2.2 (62 + a.1) (nI x.1)) (57 + a.1) (nI y.1)) 3 (nI (a.1 + 1)))))
def smW2 (p : Nat) (a : ZA) : Sum Nat (Nat × ZA) := sBd (nm t n p 0 10) (fun x => .inr (x.2, a.1, a.2.1 + 1, upd (upd a.2.2 (67 + a.2.1) (nI x.1)) 4 (nI (a.2.1 + 1))))
def smW3 (p : Nat) (a : ZA) : Sum Nat (Nat × ZA) := sBd (nm t n p 0 a.1) (fun x => sBd (nm t n x.2 0 a.2.1) (fun y => sBd (nm t n y.2 0 21) (fun z => .inr (z.2, a.1, a.2.1, upd a.2.2 (73 + 6 * x.1 + y.1) (nI z.1)))))
def smN (M : Nat → Int32) (x y : Nat) : Nat → Int32 := upd (upd M (103 + x) (M (103 + x) ||| ((1 : Int32) <<< (nI y &&& 31)))) (103 + y) (upd M (103 + x) (M (103 + x) ||| ((1 : Int32) <<< (nI y &&& 31))) (103 + y) ||| ((1 : Int32) <<< (nI x &&& 31)))
def smW4 (p : Nat) (a : ZA) : Sum Nat (Nat × ZA) := sBd (nm t n p 0 a.1) (fun x => sBd (nm t n x.2 0 a.1) (fun y => if x.1 = y.1 then .inl (1 + 8 * sk t n x.2 + 1) else .inr (y.2, a.1, a.2.1, smN a.2.2 x.1 y.1)))
def smW (p : Nat) (w : Int32) (a : ZA) : Sum Nat (Nat × ZA) := if w = 0 then smW0 t n p a else if w = 1 then smW1 t n p a else if w = 2 then smW2 t n p a else if w = 3 then smW3 t n p a else smW4 t n p a
def smC (c p : Nat) (a : ZA) : Sum Nat (Nat × ZA) :=
  if wixF t (sk t n p) (we t n (sk t n p)) 0 ws10 = -1 then .inl (1 + 8 * sk t n p)
  else if 40 ≤ c ∨ ¬ (wixF t (sk t n p) (we t n (sk t n p)) 0 ws10 = 0 ↔ c = 0) ∨ (wixF t (sk t n p) (we t n (sk t n p)) 0 ws10 = 1 ∧ 5 ≤ a.1) ∨ (wixF t (sk t n p) (we t n (sk t n p)) 0 ws10 = 2 ∧ 6 ≤ a.2.1) then .inl (1 + 8 * sk t n p + 4)
  else smW t n (we t n (sk t n p)) (wixF t (sk t n p) (we t n (sk t n p)) 0 ws10) a
theorem smC_cap (p : Nat) (a : ZA) : ∃ f, smC t n 40 p a = .inl f := by
  unfold smC
  split
  · exact ⟨_, rfl⟩
  · rw [if_pos (Or.inl (Nat.le_refl _))]; exact ⟨_, rfl⟩
end SM
def smR (P Q : Nat) (M : Nat → Int32) (s : ZS) : Prop := s.1 79 1 = M 1 ∧ s.1 79 2 = M 2 ∧ s.1 79 3 = nI P ∧ s.1 79 4 = nI Q ∧ (∀ p, p < P → s.1 80 p = M (62 + p)) ∧ (∀ p, p < P → s.1 81 p = M (57 + p)) ∧ (∀ p, p < 5 → s.1 82 p = M (103 + p)) ∧ (∀ q, q < Q → s.1 83 q = M (67 + q)) ∧ (∀ k, k < 30 → s.1 84 k = M (73 + k))
theorem smR.f {P Q : Nat} {M : Nat → Int32} {s s' : ZS} (h : smR P Q M s) (hf : ∀ b, 79 ≤ b → b ≤ 84 → s'.1 b = s.1 b) : smR P Q M s' := by
  unfold smR at h ⊢
  rw [hf 79 (by omega) (by omega), hf 80 (by omega) (by omega), hf 81 (by omega) (by omega), hf 82 (by omega) (by omega), hf 83 (by omega) (by omega), hf 84 (by omega) (by omega)]
  exact h
def kS (s s' : ZS) : Prop := (∀ b, b ≠ 1 → ¬ (79 ≤ b ∧ b ≤ 84) → s'.1 b = s.1 b) ∧ (∀ j, j ≠ 2 → j ≠ 3 → s'.1 1 j = s.1 1 j) ∧ s'.2 = s.2
theorem kS.rf {s : ZS} : kS s s := ⟨fun _ _ _ => rfl, fun _ _ _ => rfl, rfl⟩
theorem kS.tr {s s1 s2 : ZS} (h : kS s s1) (h2 : kS s1 s2) : kS s s2 := ⟨fun b a c => (h2.1 b a c).trans (h.1 b a c), fun j a c => (h2.2.1 j a c).trans (h.2.1 j a c), h2.2.2.trans h.2.2⟩
theorem tK.s {s s1 : ZS} (h : tK s s1) : kS s s1 := ⟨fun b a _ => h.1 b a, h.2.1, h.2.2⟩
theorem kS.I {s s1 : ZS} {a j : Nat} {v : Int32} (h : kS s s1) (ha : 79 ≤ a ∧ a ≤ 84) : kS s (zsI s1 a j v) := ⟨fun b x y => by rw [zI1, if_neg (by omega)]; exact h.1 b x y, fun i x y => by rw [zI1, if_neg (by omega)]; exact h.2.1 i x y, h.2.2⟩
theorem tpC.s {t : Nat → Nat} {n : Nat} {s s' : ZS} (h : tpC t n s) (hk : kS s s') : tpC t n s' := ⟨h.1, h.2.1, by rw [hk.2.1 1 (by omega) (by omega)]; exact h.2.2.1, fun k => by rw [hk.1 2 (by omega) (by omega)]; exact h.2.2.2 k⟩
section SC
variable {t : Nat → Nat} {n p : Nat} {s : ZS}
theorem c_numX {lo hi : Nat} (h : tpC t n s) (hp : p ≤ n) (e : s.1 1 2 = nI p) (hlo : lo ≤ 1) (hhi : hi ≤ 100000) : rt (f_Tape_takeNumber (nI lo) (nI hi - 1) s) (fun w => tK s w.2 ∧ ∃ v p', v ≤ 99999 ∧ p' ≤ n ∧ w.1 = nI v ∧ w.2.1 1 2 = nI p' ∧ (s.1 1 3 = 0 ∧ (∃ x, nm t n p lo hi = .inr x ∧ w.2.1 1 3 = 0 ∧ v = x.1 ∧ p' = x.2) ∨ (s.1 1 3 = 0 ∧ ∃ f, nm t n p lo hi = .inl f ∧ 0 < f ∧ f < 100000 ∧ w.2.1 1 3 = nI f) ∨ (¬ s.1 1 3 = 0 ∧ w.2.1 1 3 = s.1 1 3))) := by
  have hn4 := h.1
  refine (c_num h hp e hlo hhi).mono ?_
  rintro w ⟨k, v, p', a1, a2, a3, a4, a5, a6⟩
  refine ⟨k, v, p', a1, a2, a3, a4, ?_⟩
  by_cases hf : s.1 1 3 = 0
  · cases hm : nm t n p lo hi with
    | inl f =>
      right; left
      have := nm_f hp hm
      rw [hm] at a5
      exact ⟨hf, f, rfl, this.1, by omega, by rw [a5]; show (if s.1 1 3 = 0 then _ else _) = _; rw [if_pos hf]⟩
    | inr x =>
      left
      rw [hm] at a5
      obtain ⟨b1, b2⟩ := a6 x hm
      exact ⟨hf, x, rfl, a5.trans hf, b1, b2⟩
  · right; right
    refine ⟨hf, ?_⟩
    rw [a5]
    cases nm t n p lo hi with
    | inl f => show (if s.1 1 3 = 0 then _ else _) = _; rw [if_neg hf]
    | inr x => rfl
/-- what reading the numbers of a clause comes to -/
def cW (t : Nat → Nat) (n : Nat) (r : Sum Nat (Nat × ZA)) (s x : ZS) : Prop := kS s x ∧ (∃ p', p' ≤ n ∧ x.1 1 2 = nI p') ∧ ((∃ f, r = .inl f ∧ 0 < f ∧ f < 100000 ∧ x.1 1 3 = nI f) ∨ ∃ y, r = .inr y ∧ y.1 ≤ n ∧ x.1 1 2 = nI y.1 ∧ x.1 1 3 = 0 ∧ smR y.2.1 y.2.2.1 y.2.2.2 x)
theorem fnz {f : Nat} (h : 0 < f) (h2 : f < 100000) : ¬ nI f = 0 := by rw [nI_eq0 (by omega)]; omega
theorem c_w0 {P Q : Nat} {M : Nat → Int32} (h : tpC t n s) (hp : p ≤ n) (e : s.1 1 2 = nI p) (e3 : s.1 1 3 = 0) (hR : smR P Q M s) : rt (f_Smithy_readNumbers 79 0 s) (fun x => cW t n (smW0 t n p (P, Q, M)) s x) := by
  unfold f_Smithy_readNumbers
  rw [if_neg (by decide)]
  refine rt_cl (c_numX (lo := 1) (hi := 100) h hp e (by omega) (by omega)) ?_
  rintro v1 s1 ⟨k1, v, p1, a1, a2, rfl, a4, D1⟩
  dsimp only at k1 a4 D1
  simp only [zwi]
  have f1 : (zsI s1 79 1 (nI v)).1 1 3 = s1.1 1 3 := by rw [zI1, if_neg (by omega)]
  have kk1 : kS s (zsI s1 79 1 (nI v)) := k1.s.I (by omega)
  refine rt_cl (c_numX (p := p1) (lo := 1) (hi := 10) (h.s kk1) a2 (by rw [zI1, if_neg (by omega)]; exact a4) (by omega) (by omega)) ?_
  rintro v2 s2 ⟨k2, u, p2, b1, b2, rfl, b4, D2⟩
  dsimp only at k2 b4 D2
  rw [f1] at D2
  refine rt_s ⟨(kk1.tr k2.s).I (by omega), ⟨p2, b2, by rw [zI1, if_neg (by omega)]; exact b4⟩, ?_⟩
  have f2 : (zsI s2 79 2 (nI u)).1 1 3 = s2.1 1 3 := by rw [zI1, if_neg (by omega)]
  rw [f2]
  rcases D1 with ⟨_, x, m1, g1, rfl, rfl⟩ | ⟨_, f, m1, g0, g1, g2⟩ | ⟨g, _⟩
  · rcases D2 with ⟨_, y, m2, g2, rfl, rfl⟩ | ⟨_, f, m2, g0, g3, g4⟩ | ⟨g, _⟩
    · right
      refine ⟨(y.2, P, Q, upd (upd (upd M 1 (nI x.1)) 2 (nI y.1)) 0 1), by simp only [smW0, sBd, m1, m2], b2, by rw [zI1, if_neg (by omega)]; exact b4, g2, ?_⟩
      obtain ⟨c1, c2, c3, c4, c5, c6, c7, c8, c9⟩ := hR
      have q79 : ∀ j, j ≠ 1 → j ≠ 2 → (zsI s2 79 2 (nI y.1)).1 79 j = s.1 79 j := fun j h1 h2 => by rw [zI1, if_pos rfl, updE, if_neg h2, k2.1 79 (by omega), zI1, if_pos rfl, updE, if_neg h1, k1.1 79 (by omega)]
      have qb : ∀ b, 80 ≤ b → b ≤ 84 → (zsI s2 79 2 (nI y.1)).1 b = s.1 b := fun b h1 h2 => by rw [zI1, if_neg (by omega), k2.1 b (by omega), zI1, if_neg (by omega), k1.1 b (by omega)]
      refine ⟨?_, ?_, by rw [q79 3 (by omega) (by omega)]; exact c3, by rw [q79 4 (by omega) (by omega)]; exact c4, ?_, ?_, ?_, ?_, ?_⟩
      · rw [zI1, if_pos rfl, updE, if_neg (by omega), k2.1 79 (by omega), zI1, if_pos rfl, updE, if_pos rfl]
        simp only [updE, Nat.reduceEqDiff, ↓reduceIte]
      · rw [zI1, if_pos rfl, updE, if_pos rfl]
        simp only [updE, Nat.reduceEqDiff, ↓reduceIte]
      · intro k hk
        rw [qb 80 (by omega) (by omega), c5 k hk]
        show _ = upd (upd (upd M 1 _) 2 _) 0 1 (62 + k)
        rw [updE, if_neg (by omega), updE, if_neg (by omega), updE, if_neg (by omega)]
      · intro k hk
        rw [qb 81 (by omega) (by omega), c6 k hk]
        show _ = upd (upd (upd M 1 _) 2 _) 0 1 (57 + k)
        rw [updE, if_neg (by omega), updE, if_neg (by omega), updE, if_neg (by omega)]
      · intro k hk
        rw [qb 82 (by omega) (by omega), c7 k hk]
        show _ = upd (upd (upd M 1 _) 2 _) 0 1 (103 + k)
        rw [updE, if_neg (by omega), updE, if_neg (by omega), updE, if_neg (by omega)]
      · intro k hk
        rw [qb 83 (by omega) (by omega), c8 k hk]
        show _ = upd (upd (upd M 1 _) 2 _) 0 1 (67 + k)
        rw [updE, if_neg (by omega), updE, if_neg (by omega), updE, if_neg (by omega)]
      · intro k hk
        rw [qb 84 (by omega) (by omega), c9 k hk]
        show _ = upd (upd (upd M 1 _) 2 _) 0 1 (73 + k)
        rw [updE, if_neg (by omega), updE, if_neg (by omega), updE, if_neg (by omega)]
    · left
      exact ⟨f, by simp only [smW0, sBd, m1, m2], g0, g3, g4⟩
    · exact absurd g1 g
  · left
    rcases D2 with ⟨g, _⟩ | ⟨g, _⟩ | ⟨_, g⟩
    · exact absurd (g2.symm.trans g) (fnz g0 g1)
    · exact absurd (g2.symm.trans g) (fnz g0 g1)
    · exact ⟨f, by simp only [smW0, sBd, m1], g0, g1, by rw [g]; exact g2⟩
  · exact absurd e3 g
theorem c_w1 {P Q : Nat} {M : Nat → Int32} (hP : P < 5) (h : tpC t n s) (hp : p ≤ n) (e : s.1 1 2 = nI p) (e3 : s.1 1 3 = 0) (hR : smR P Q M s) : rt (f_Smithy_readNumbers 79 1 s) (fun x => cW t n (smW1 t n p (P, Q, M)) s x) := by
  unfold f_Smithy_readNumbers
  rw [if_pos (by decide), if_neg (by decide)]
  have eP : s.1 79 3 = nI P := hR.2.2.1
  simp only [zgi, eP]
  refine rt_cl (c_numX (lo := 0) (hi := 100) h hp e (by omega) (by omega)) ?_
  rintro v1 s1 ⟨k1, v, p1, a1, a2, rfl, a4, D1⟩
  dsimp only at k1 a4 D1
  simp (disch := omega) only [zwa_n, show 79 + 1 = 80 from rfl]
  have f1 : (zsI s1 80 P (nI v)).1 1 3 = s1.1 1 3 := by rw [zI1, if_neg (by omega)]
  have kk1 : kS s (zsI s1 80 P (nI v)) := k1.s.I (by omega)
  have eP1 : (zsI s1 80 P (nI v)).1 79 3 = nI P := by rw [zI1, if_neg (by omega), k1.1 79 (by omega)]; exact eP
  rw [eP1]
  refine rt_cl (c_numX (p := p1) (lo := 1) (hi := 100) (h.s kk1) a2 (by rw [zI1, if_neg (by omega)]; exact a4) (by omega) (by omega)) ?_
  rintro v2 s2 ⟨k2, u, p2, b1, b2, rfl, b4, D2⟩
  dsimp only at k2 b4 D2
  rw [f1] at D2
  have eP2 : (zsI s2 81 P (nI u)).1 79 3 = nI P := by rw [zI1, if_neg (by omega), k2.1 79 (by omega)]; exact eP1
  simp (disch := omega) only [zwa_n, show 79 + 2 = 81 from rfl, eP2, nI_1, zwi]
  refine rt_s ⟨((kk1.tr k2.s).I (by omega)).I (by omega), ⟨p2, b2, by rw [zI1, if_neg (by omega), zI1, if_neg (by omega)]; exact b4⟩, ?_⟩
  have f2 : (zsI (zsI s2 81 P (nI u)) 79 3 (nI (P + 1))).1 1 3 = s2.1 1 3 := by rw [zI1, if_neg (by omega), zI1, if_neg (by omega)]
  rw [f2]
  rcases D1 with ⟨_, x, m1, g1, rfl, rfl⟩ | ⟨_, f, m1, g0, g1, g2⟩ | ⟨g, _⟩
  · rcases D2 with ⟨_, y, m2, g2, rfl, rfl⟩ | ⟨_, f, m2, g0, g3, g4⟩ | ⟨g, _⟩
    · right
      refine ⟨(y.2, P + 1, Q, upd (upd (upd M (62 + P) (nI x.1)) (57 + P) (nI y.1)) 3 (nI (P + 1))), by simp only [smW1, sBd, m1, m2], b2, by rw [zI1, if_neg (by omega), zI1, if_neg (by omega)]; exact b4, g2, ?_⟩
      obtain ⟨c1, c2, c3, c4, c5, c6, c7, c8, c9⟩ := hR
      have q79 : ∀ j, j ≠ 3 → (zsI (zsI s2 81 P (nI y.1)) 79 3 (nI (P + 1))).1 79 j = s.1 79 j := fun j h1 => by rw [zI1, if_pos rfl, updE, if_neg h1, zI1, if_neg (by omega), k2.1 79 (by omega), zI1, if_neg (by omega), k1.1 79 (by omega)]
      have qb : ∀ b, 82 ≤ b → b ≤ 84 → (zsI (zsI s2 81 P (nI y.1)) 79 3 (nI (P + 1))).1 b = s.1 b := fun b h1 h2 => by rw [zI1, if_neg (by omega), zI1, if_neg (by omega), k2.1 b (by omega), zI1, if_neg (by omega), k1.1 b (by omega)]
      have oM : ∀ k, k ≠ 3 → k ≠ 57 + P → k ≠ 62 + P → upd (upd (upd M (62 + P) (nI x.1)) (57 + P) (nI y.1)) 3 (nI (P + 1)) k = M k := fun k h1 h2 h3 => by rw [updE, if_neg h1, updE, if_neg h2, updE, if_neg h3]
      refine ⟨?_, ?_, ?_, ?_, ?_, ?_, ?_, ?_, ?_⟩
      · rw [q79 1 (by omega), c1]
        exact (oM _ (by omega) (by omega) (by omega)).symm
      · rw [q79 2 (by omega), c2]
        exact (oM _ (by omega) (by omega) (by omega)).symm
      · rw [zI1, if_pos rfl, updE, if_pos rfl]
      · rw [q79 4 (by omega)]; exact c4
      · intro k hk
        have hk' : k < P + 1 := hk
        by_cases ek : k = P
        · have l1 : (zsI (zsI s2 81 P (nI y.1)) 79 3 (nI (P + 1))).1 80 k = nI x.1 := by rw [zI1, if_neg (by omega), zI1, if_neg (by omega), k2.1 80 (by omega), zI1, if_pos rfl, updE, if_pos ek]
          have l2' : upd (upd (upd M (62 + P) (nI x.1)) (57 + P) (nI y.1)) 3 (nI (P + 1)) (62 + k) = nI x.1 := by rw [updE, if_neg (by omega), updE, if_neg (by omega), updE, if_pos (by omega)]
          exact l1.trans l2'.symm
        · have l1 : (zsI (zsI s2 81 P (nI y.1)) 79 3 (nI (P + 1))).1 80 k = M (62 + k) := by rw [zI1, if_neg (by omega), zI1, if_neg (by omega), k2.1 80 (by omega), zI1, if_pos rfl, updE, if_neg ek, k1.1 80 (by omega)]; exact c5 k (by omega)
          have l2' : upd (upd (upd M (62 + P) (nI x.1)) (57 + P) (nI y.1)) 3 (nI (P + 1)) (62 + k) = M (62 + k) := by rw [updE, if_neg (by omega), updE, if_neg (by omega), updE, if_neg (by omega)]
          exact l1.trans l2'.symm
      · intro k hk
        have hk' : k < P + 1 := hk
        by_cases ek : k = P
        · have l1 : (zsI (zsI s2 81 P (nI y.1)) 79 3 (nI (P + 1))).1 81 k = nI y.1 := by rw [zI1, if_neg (by omega), zI1, if_pos rfl, updE, if_pos ek]
          have l2' : upd (upd (upd M (62 + P) (nI x.1)) (57 + P) (nI y.1)) 3 (nI (P + 1)) (57 + k) = nI y.1 := by rw [updE, if_neg (by omega), updE, if_pos (by omega)]
          exact l1.trans l2'.symm
        · have l1 : (zsI (zsI s2 81 P (nI y.1)) 79 3 (nI (P + 1))).1 81 k = M (57 + k) := by rw [zI1, if_neg (by omega), zI1, if_pos rfl, updE, if_neg ek, k2.1 81 (by omega), zI1, if_neg (by omega), k1.1 81 (by omega)]; exact c6 k (by omega)
          have l2' : upd (upd (upd M (62 + P) (nI x.1)) (57 + P) (nI y.1)) 3 (nI (P + 1)) (57 + k) = M (57 + k) := by rw [updE, if_neg (by omega), updE, if_neg (by omega), updE, if_neg (by omega)]
          exact l1.trans l2'.symm
      · intro k hk
        rw [qb 82 (by omega) (by omega), c7 k hk]
        exact (oM _ (by omega) (by omega) (by omega)).symm
      · intro k hk
        rw [qb 83 (by omega) (by omega), c8 k hk]
        exact (oM _ (by omega) (by omega) (by omega)).symm
      · intro k hk
        rw [qb 84 (by omega) (by omega), c9 k hk]
        exact (oM _ (by omega) (by omega) (by omega)).symm
    · left
      exact ⟨f, by simp only [smW1, sBd, m1, m2], g0, g3, g4⟩
    · exact absurd g1 g
  · left
    rcases D2 with ⟨g, _⟩ | ⟨g, _⟩ | ⟨_, g⟩
    · exact absurd (g2.symm.trans g) (fnz g0 g1)
    · exact absurd (g2.symm.trans g) (fnz g0 g1)
    · exact ⟨f, by simp only [smW1, sBd, m1], g0, g1, by rw [g]; exact g2⟩
  · exact absurd e3 g
theorem c_w2 {P Q : Nat} {M : Nat → Int32} (hQ : Q < 6) (hP : P ≤ 5) (h : tpC t n s) (hp : p ≤ n) (e : s.1 1 2 = nI p) (e3 : s.1 1 3 = 0) (hR : smR P Q M s) : rt (f_Smithy_readNumbers 79 2 s) (fun x => cW t n (smW2 t n p (P, Q, M)) s x) := by
  unfold f_Smithy_readNumbers
  rw [if_pos (by decide), if_pos (by decide), if_neg (by decide)]
  have eQ : s.1 79 4 = nI Q := hR.2.2.2.1
  simp only [zgi, eQ]
  refine rt_cl (c_numX (lo := 0) (hi := 10) h hp e (by omega) (by omega)) ?_
  rintro v1 s1 ⟨k1, v, p1, a1, a2, rfl, a4, D1⟩
  dsimp only at k1 a4 D1
  have eQ2 : (zsI s1 83 Q (nI v)).1 79 4 = nI Q := by rw [zI1, if_neg (by omega), k1.1 79 (by omega)]; exact eQ
  simp (disch := omega) only [zwa_n, show 79 + 4 = 83 from rfl, eQ2, nI_1, zwi]
  refine rt_s ⟨(k1.s.I (by omega)).I (by omega), ⟨p1, a2, by rw [zI1, if_neg (by omega), zI1, if_neg (by omega)]; exact a4⟩, ?_⟩
  have f2 : (zsI (zsI s1 83 Q (nI v)) 79 4 (nI (Q + 1))).1 1 3 = s1.1 1 3 := by rw [zI1, if_neg (by omega), zI1, if_neg (by omega)]
  rw [f2]
  rcases D1 with ⟨_, x, m1, g1, rfl, rfl⟩ | ⟨_, f, m1, g0, g1, g2⟩ | ⟨g, _⟩
  · right
    refine ⟨(x.2, P, Q + 1, upd (upd M (67 + Q) (nI x.1)) 4 (nI (Q + 1))), by simp only [smW2, sBd, m1], a2, by rw [zI1, if_neg (by omega), zI1, if_neg (by omega)]; exact a4, g1, ?_⟩
    obtain ⟨c1, c2, c3, c4, c5, c6, c7, c8, c9⟩ := hR
    have q79 : ∀ j, j ≠ 4 → (zsI (zsI s1 83 Q (nI x.1)) 79 4 (nI (Q + 1))).1 79 j = s.1 79 j := fun j h1 => by rw [zI1, if_pos rfl, updE, if_neg h1, zI1, if_neg (by omega), k1.1 79 (by omega)]
    have qb : ∀ b, 80 ≤ b → b ≤ 84 → b ≠ 83 → (zsI (zsI s1 83 Q (nI x.1)) 79 4 (nI (Q + 1))).1 b = s.1 b := fun b h1 h2 h3 => by rw [zI1, if_neg (by omega), zI1, if_neg h3, k1.1 b (by omega)]
    have oM : ∀ k, k ≠ 4 → k ≠ 67 + Q → upd (upd M (67 + Q) (nI x.1)) 4 (nI (Q + 1)) k = M k := fun k h1 h2 => by rw [updE, if_neg h1, updE, if_neg h2]
    refine ⟨?_, ?_, ?_, ?_, ?_, ?_, ?_, ?_, ?_⟩
    · rw [q79 1 (by omega), c1]; exact (oM 1 (by omega) (by omega)).symm
    · rw [q79 2 (by omega), c2]; exact (oM 2 (by omega) (by omega)).symm
    · rw [q79 3 (by omega)]; exact c3
    · rw [zI1, if_pos rfl, updE, if_pos rfl]
    · intro k hk
      have hk' : k < P := hk
      rw [qb 80 (by omega) (by omega) (by omega), c5 k hk]; exact (oM _ (by omega) (by omega)).symm
    · intro k hk
      have hk' : k < P := hk
      rw [qb 81 (by omega) (by omega) (by omega), c6 k hk]; exact (oM _ (by omega) (by omega)).symm
    · intro k hk
      rw [qb 82 (by omega) (by omega) (by omega), c7 k hk]; exact (oM _ (by omega) (by omega)).symm
    · intro k hk
      have hk' : k < Q + 1 := hk
      by_cases ek : k = Q
      · have l1 : (zsI (zsI s1 83 Q (nI x.1)) 79 4 (nI (Q + 1))).1 83 k = nI x.1 := by rw [zI1, if_neg (by omega), zI1, if_pos rfl, updE, if_pos ek]
        have l2' : upd (upd M (67 + Q) (nI x.1)) 4 (nI (Q + 1)) (67 + k) = nI x.1 := by rw [updE, if_neg (by omega), updE, if_pos (by omega)]
        exact l1.trans l2'.symm
      · have l1 : (zsI (zsI s1 83 Q (nI x.1)) 79 4 (nI (Q + 1))).1 83 k = M (67 + k) := by rw [zI1, if_neg (by omega), zI1, if_pos rfl, updE, if_neg ek, k1.1 83 (by omega)]; exact c8 k (by omega)
        exact l1.trans (oM _ (by omega) (by omega)).symm
    · intro k hk
      rw [qb 84 (by omega) (by omega) (by omega), c9 k hk]; exact (oM _ (by omega) (by omega)).symm
  · left
    exact ⟨f, by simp only [smW2, sBd, m1], g0, g1, g2⟩
  · exact absurd e3 g
theorem hasP79 {P : Nat} {s : ZS} {v : Nat} (eP : s.1 79 3 = nI P) (hP : P ≤ 5) (hv : v ≤ 99999) : f_Smithy_hasPair 79 (nI v) s = some (if v < P then 1 else 0, s) := by
  unfold f_Smithy_hasPair
  simp (disch := omega) only [nI_lt0, ↓reduceIte, zgi, eP, nI_leI]
  by_cases h : v < P
  · rw [if_neg (by omega), if_pos h, zbl_1]
  · rw [if_pos (by omega), if_neg h, zbl_0]
theorem hasS79 {Q : Nat} {s : ZS} {v : Nat} (eQ : s.1 79 4 = nI Q) (hQ : Q ≤ 6) (hv : v ≤ 99999) : f_Smithy_hasSaying 79 (nI v) s = some (if v < Q then 1 else 0, s) := by
  unfold f_Smithy_hasSaying
  simp (disch := omega) only [nI_lt0, ↓reduceIte, zgi, eQ, nI_leI]
  by_cases h : v < Q
  · rw [if_neg (by omega), if_pos h, zbl_1]
  · rw [if_pos (by omega), if_neg h, zbl_0]
theorem hasB79 {P Q : Nat} {s : ZS} {v u : Nat} (eP : s.1 79 3 = nI P) (eQ : s.1 79 4 = nI Q) (hP : P ≤ 5) (hQ : Q ≤ 6) (hv : v ≤ 99999) (hu : u ≤ 99999) : f_Smithy_hasBoth 79 (nI v) (nI u) s = some (if v < P ∧ u < Q then 1 else 0, s) := by
  unfold f_Smithy_hasBoth
  rw [hasP79 eP hP hv, zcl_s]
  by_cases h : v < P
  · simp only [h, ↓reduceIte, i10, hasS79 eQ hQ hu, zcl_s, true_and]
    by_cases h2 : u < Q
    · simp only [h2, ↓reduceIte, i10, zbl_1]
    · simp only [h2, ↓reduceIte, zbl_0]
  · simp only [h, ↓reduceIte, false_and, zbl_0]
theorem c_w3 {P Q : Nat} {M : Nat → Int32} (hQ : Q ≤ 6) (hP : P ≤ 5) (h : tpC t n s) (hp : p ≤ n) (e : s.1 1 2 = nI p) (e3 : s.1 1 3 = 0) (hR : smR P Q M s) : rt (f_Smithy_readNumbers 79 3 s) (fun x => cW t n (smW3 t n p (P, Q, M)) s x) := by
  unfold f_Smithy_readNumbers
  rw [if_pos (by decide), if_pos (by decide), if_pos (by decide), if_neg (by decide)]
  unfold f_Smithy_readMinds
  have eP : s.1 79 3 = nI P := hR.2.2.1
  have eQ : s.1 79 4 = nI Q := hR.2.2.2.1
  simp only [zgi, eP]
  have key : rt (zcl (f_Tape_takeNumber (0 : Int32) ((nI P - (1 : Int32))) s) (fun (v4 : Int32) (s3 : ZS) => zcl (f_Tape_takeNumber (0 : Int32) ((s3.1 79 4 - (1 : Int32))) s3) (fun (v7 : Int32) (s6 : ZS) => zcl (f_Tape_takeNumber (0 : Int32) (20 : Int32) s6) (fun (v9 : Int32) (s8 : ZS) => zcl (f_Smithy_hasBoth 79 v4 v7 s8) (fun (v11 : Int32) (s10 : ZS) => (if v11 = 0 then some s10 else zwa s10 (79 + 5) 30 (((v4 * (6 : Int32)) + v7)) v9 (fun (s12 : ZS) => some s12))))))) (fun x => cW t n (smW3 t n p (P, Q, M)) s x) := by
    refine rt_cl (c_numX (lo := 0) (hi := P) h hp e (by omega) (by omega)) ?_
    rintro v1 s1 ⟨k1, v, p1, a1, a2, rfl, a4, D1⟩
    dsimp only at k1 a4 D1
    rw [show s1.1 79 4 = nI Q by rw [k1.1 79 (by omega)]; exact eQ]
    refine rt_cl (c_numX (p := p1) (lo := 0) (hi := Q) (h.k k1) a2 a4 (by omega) (by omega)) ?_
    rintro v2 s2 ⟨k2, u, p2, b1, b2, rfl, b4, D2⟩
    dsimp only at k2 b4 D2
    have k12 := k1.tr k2
    refine rt_cl (c_numX (p := p2) (lo := 0) (hi := 21) (h.k k12) b2 b4 (by omega) (by omega)) ?_
    rintro v3 s3 ⟨k3, z, p3, d1, d2, rfl, d4, D3⟩
    dsimp only at k3 d4 D3
    have k13 := k12.tr k3
    have eP3 : s3.1 79 3 = nI P := by rw [k13.1 79 (by omega)]; exact eP
    have eQ3 : s3.1 79 4 = nI Q := by rw [k13.1 79 (by omega)]; exact eQ
    rw [hasB79 eP3 eQ3 hP hQ a1 b1, zcl_s]
    by_cases hb : v < P ∧ u < Q
    · simp (disch := omega) only [hb, and_self, ↓reduceIte, i10, show (6 : Int32) = nI 6 from rfl, nI_mulR, nI_add, zwa_n, show 79 + 5 = 84 from rfl]
      refine rt_s ⟨k13.s.I (by omega), ⟨p3, d2, by rw [zI1, if_neg (by omega)]; exact d4⟩, ?_⟩
      have f2 : (zsI s3 84 (v * 6 + u) (nI z)).1 1 3 = s3.1 1 3 := by rw [zI1, if_neg (by omega)]
      rw [f2]
      rcases D1 with ⟨_, x, m1, g1, rfl, rfl⟩ | ⟨_, f, m1, g0, g1, g2⟩ | ⟨g, _⟩
      · rcases D2 with ⟨_, y, m2, g2, rfl, rfl⟩ | ⟨_, f, m2, g0, g3, g4⟩ | ⟨g, _⟩
        · rcases D3 with ⟨_, w, m3, g3, rfl, rfl⟩ | ⟨_, f, m3, g0, g4, g5⟩ | ⟨g, _⟩
          · right
            refine ⟨(w.2, P, Q, upd M (73 + 6 * x.1 + y.1) (nI w.1)), by simp only [smW3, sBd, m1, m2, m3], d2, by rw [zI1, if_neg (by omega)]; exact d4, g3, ?_⟩
            obtain ⟨c1, c2, c3, c4, c5, c6, c7, c8, c9⟩ := hR
            have qb : ∀ b, 79 ≤ b → b ≤ 83 → (zsI s3 84 (x.1 * 6 + y.1) (nI w.1)).1 b = s.1 b := fun b h1 h2 => by rw [zI1, if_neg (by omega), k13.1 b (by omega)]
            have oM : ∀ k, k ≠ 73 + 6 * x.1 + y.1 → upd M (73 + 6 * x.1 + y.1) (nI w.1) k = M k := fun k h1 => by rw [updE, if_neg h1]
            refine ⟨?_, ?_, ?_, ?_, ?_, ?_, ?_, ?_, ?_⟩
            · rw [qb 79 (by omega) (by omega), c1]; exact (oM 1 (by omega)).symm
            · rw [qb 79 (by omega) (by omega), c2]; exact (oM 2 (by omega)).symm
            · rw [qb 79 (by omega) (by omega)]; exact c3
            · rw [qb 79 (by omega) (by omega)]; exact c4
            · intro k hk
              have hk' : k < P := hk
              rw [qb 80 (by omega) (by omega), c5 k hk]; exact (oM _ (by omega)).symm
            · intro k hk
              have hk' : k < P := hk
              rw [qb 81 (by omega) (by omega), c6 k hk]; exact (oM _ (by omega)).symm
            · intro k hk
              rw [qb 82 (by omega) (by omega), c7 k hk]; exact (oM _ (by omega)).symm
            · intro k hk
              have hk' : k < Q := hk
              rw [qb 83 (by omega) (by omega), c8 k hk]; exact (oM _ (by omega)).symm
            · intro k hk
              by_cases ek : k = x.1 * 6 + y.1
              · have l1 : (zsI s3 84 (x.1 * 6 + y.1) (nI w.1)).1 84 k = nI w.1 := by rw [zI1, if_pos rfl, updE, if_pos ek]
                have l2' : upd M (73 + 6 * x.1 + y.1) (nI w.1) (73 + k) = nI w.1 := by rw [updE, if_pos (by omega)]
                exact l1.trans l2'.symm
              · have l1 : (zsI s3 84 (x.1 * 6 + y.1) (nI w.1)).1 84 k = M (73 + k) := by rw [zI1, if_pos rfl, updE, if_neg ek, k13.1 84 (by omega)]; exact c9 k hk
                exact l1.trans (oM _ (by omega)).symm
          · left
            exact ⟨f, by simp only [smW3, sBd, m1, m2, m3], g0, g4, g5⟩
          · exact absurd g2 g
        · left
          rcases D3 with ⟨g, _⟩ | ⟨g, _⟩ | ⟨_, g⟩
          · exact absurd (g4.symm.trans g) (fnz g0 g3)
          · exact absurd (g4.symm.trans g) (fnz g0 g3)
          · exact ⟨f, by simp only [smW3, sBd, m1, m2], g0, g3, by rw [g]; exact g4⟩
        · exact absurd g1 g
      · left
        have q2 : s2.1 1 3 = nI f := by
          rcases D2 with ⟨g, _⟩ | ⟨g, _⟩ | ⟨_, g⟩
          · exact absurd (g2.symm.trans g) (fnz g0 g1)
          · exact absurd (g2.symm.trans g) (fnz g0 g1)
          · rw [g]; exact g2
        rcases D3 with ⟨g, _⟩ | ⟨g, _⟩ | ⟨_, g⟩
        · exact absurd (q2.symm.trans g) (fnz g0 g1)
        · exact absurd (q2.symm.trans g) (fnz g0 g1)
        · exact ⟨f, by simp only [smW3, sBd, m1], g0, g1, by rw [g]; exact q2⟩
      · exact absurd e3 g
    · simp only [hb, ↓reduceIte]
      refine rt_s ⟨k13.s, ⟨p3, d2, d4⟩, Or.inl ?_⟩
      rcases D1 with ⟨_, x, m1, g1, rfl, rfl⟩ | ⟨_, f, m1, g0, g1, g2⟩ | ⟨g, _⟩
      · rcases D2 with ⟨_, y, m2, g2, rfl, rfl⟩ | ⟨_, f, m2, g0, g3, g4⟩ | ⟨g, _⟩
        · exact absurd ⟨(nm_b hp m1).2.1, (nm_b a2 m2).2.1⟩ hb
        · rcases D3 with ⟨g, _⟩ | ⟨g, _⟩ | ⟨_, g⟩
          · exact absurd (g4.symm.trans g) (fnz g0 g3)
          · exact absurd (g4.symm.trans g) (fnz g0 g3)
          · exact ⟨f, by simp only [smW3, sBd, m1, m2], g0, g3, by rw [g]; exact g4⟩
        · exact absurd g1 g
      · have q2 : s2.1 1 3 = nI f := by
          rcases D2 with ⟨g, _⟩ | ⟨g, _⟩ | ⟨_, g⟩
          · exact absurd (g2.symm.trans g) (fnz g0 g1)
          · exact absurd (g2.symm.trans g) (fnz g0 g1)
          · rw [g]; exact g2
        rcases D3 with ⟨g, _⟩ | ⟨g, _⟩ | ⟨_, g⟩
        · exact absurd (q2.symm.trans g) (fnz g0 g1)
        · exact absurd (q2.symm.trans g) (fnz g0 g1)
        · exact ⟨f, by simp only [smW3, sBd, m1], g0, g1, by rw [g]; exact q2⟩
      · exact absurd e3 g
  exact rt_cv key (fun s h => rt_s h)
end SC
