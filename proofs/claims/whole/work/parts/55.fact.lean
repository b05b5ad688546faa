/-! Facts of the specification. -/
theorem bt_all {P k : Nat} (hP : P ≤ 5) (h : k < 8) : bt (((1 : Int32) <<< (nI P &&& 31)) - 1) k = decide (k < P) := (show ∀ P, P ≤ 5 → ∀ k, k < 8 → bt (((1 : Int32) <<< (nI P &&& 31)) - 1) k = decide (k < P) by decide) P hP k h
/-- what the numbers of a smithy keep to -/
def cK (P : Nat) (C : Nat → Int32) : Prop := 0 ≤ C 1 ∧ ∀ p, p < P → 0 < C (57 + p)
theorem zW.upd {P p : Nat} {W : Nat → Int32} {v : Int32} (h : zW P W) (hp : p < P) (hv : 0 ≤ v) : zW P (upd W p v) := by
  intro k hk
  rw [updE]
  by_cases e : k = p
  · rw [if_pos e]; exact ⟨hv, fun q => by omega⟩
  · rw [if_neg e]; exact h k hk
theorem zW_br {P : Nat} {C : Nat → Int32} {B : Nat → Bool} {z : ZT} {RS : Nat → Int32} (hK : cK P C) (h : zW P z.2.1) : ∀ n, n ≤ P → zW P (itr n (sBr1 C B) (z, 0, RS)).1.2.1 := by
  intro n
  induction n with
  | zero => intro _; exact h
  | succ n ih =>
    intro hn
    have := ih (by omega)
    rw [itrS]
    generalize itr n (sBr1 C B) (z, 0, RS) = x at this ⊢
    unfold sBr1
    split
    · next hc =>
      refine this.upd (by omega) ?_
      have h1 := Int32.le_trans (Int32.le_of_lt (hK.2 n (by omega))) hc.2
      split
      · exact hK.1
      · exact h1
    · exact this
theorem zW_say {P : Nat} {C : Nat → Int32} {hm : Int32} {z : ZT} {RS : Nat → Int32} {p q : Nat} (hK : cK P C) (h : zW P z.2.1) : zW P (sSay P C hm z RS p q).1.2.1 := by
  unfold sSay sBr
  refine zW_br hK ?_ P (Nat.le_refl _)
  rw [itr_sHear2]
  exact h
theorem zW_door {P : Nat} {C : Nat → Int32} {z : ZT} {RS : Nat → Int32} (hK : cK P C) (h : zW P z.2.1) : zW P (sDoor P C z RS).1.2.1 := by
  unfold sDoor sBr
  refine zW_br hK ?_ P (Nat.le_refl _)
  rw [itr_sHear2]
  exact h
theorem zW_day1 {P Q : Nat} {C : Nat → Int32} {st hm : Int32} {rl : ZRl} {z : ZT} {RS : Nat → Int32} (hK : cK P C) (h : zW P z.2.1) : ∀ n, n ≤ P → zW P (itr n (sDay1 P Q C st hm rl) (z, 0, RS)).1.2.1 := by
  intro n
  induction n with
  | zero => intro _; exact h
  | succ n ih =>
    intro hn
    have := ih (by omega)
    rw [itrS]
    generalize itr n (sDay1 P Q C st hm rl) (z, 0, RS) = x at this ⊢
    unfold sDay1
    split
    · split
      · exact this
      · exact zW_say hK this
    · exact this
theorem sCh_r {C : Nat → Int32} {st : Int32} {rl : ZRl} {z : ZT} {p : Nat} : ∀ Q, (sCh Q C st rl z p).1 = -1 ∨ ∃ q, q < Q ∧ (sCh Q C st rl z p).1 = nI q := by
  intro Q
  unfold sCh
  induction Q with
  | zero => exact Or.inl rfl
  | succ n ih =>
    rw [itrS]
    generalize itr n (sCh1 C st rl z p) (-1, 0) = x at ih ⊢
    have ih' : x.1 = -1 ∨ ∃ q, q < n + 1 ∧ x.1 = nI q := by
      rcases ih with h | ⟨q, h1, h2⟩
      · exact Or.inl h
      · exact Or.inr ⟨q, by omega, h2⟩
    unfold sCh1
    split
    · exact ih'
    · split
      · exact ih'
      · exact Or.inr ⟨n, by omega, rfl⟩
theorem zW_wear {P : Nat} {C : Nat → Int32} {wv : Bool} {u : ZU} (h : zW P u.1) : ∀ n, n ≤ P → zW P (itr n (sWear C wv) u).1 := by
  intro n
  induction n with
  | zero => intro _; exact h
  | succ n ih =>
    intro hn
    have := ih (by omega)
    rw [itrS]
    generalize itr n (sWear C wv) u = x at this ⊢
    unfold sWear
    split
    · split
      · exact this.upd (by omega) (Int32.le_refl _)
      · next hc => exact this.upd (by omega) (Int32.le_of_lt (Int32.not_le.mp hc))
    · exact this
theorem zW_end {P : Nat} {C : Nat → Int32} {z : ZT} (h : zW P z.2.1) : zW P (sEnd P C z).2.1 := zW_wear h P (Nat.le_refl _)
theorem zW_day {P Q : Nat} {C : Nat → Int32} {st hm : Int32} {rl : ZRl} {z : ZT} {RS : Nat → Int32} (hK : cK P C) (h : zW P z.2.1) : zW P (sDay P Q C st hm rl z RS).1.2.1 := zW_end (zW_day1 hK h P (Nat.le_refl _))
/-- a rule of the class does what f does -/
def agC (j : Nat) (s' s : ZS) : Prop := s'.1 (86 + 2 * j) = s.1 (86 + 2 * j) ∧ s'.1 (87 + 2 * j) = s.1 (87 + 2 * j)
def ruleC (j : Nat) (f : (Nat → Int64) → Int64) (s : ZS) : Prop := ∀ (s' : ZS) (ws : Nat → Int64), agC j s' s → (∀ k, k < 11 → s'.2 203 k = ws k) → rt (f_Rule_worth (86 + 2 * j) s') (fun w => w.1 = f ws ∧ frm (fun b => b = 204) s' w.2)
def hC (rl : ZRl) (s : ZS) : Prop := rl = none ∧ s.1 202 5 = -1 ∨ ∃ j f, rl = some f ∧ j < 6 ∧ s.1 202 5 = nI j ∧ ruleC j f s
theorem hC.f {rl : ZRl} {s s' : ZS} {X : Nat → Prop} (h : hC rl s) (hf : frm X s s') (hX : ∀ b, b = 202 ∨ 86 ≤ b ∧ b ≤ 97 → ¬ X b) : hC rl s' := by
  rcases h with ⟨h1, h2⟩ | ⟨j, f, h1, h2, h3, h4⟩
  · exact Or.inl ⟨h1, by rw [hf.1 202 (hX 202 (by omega))]; exact h2⟩
  · refine Or.inr ⟨j, f, h1, h2, by rw [hf.1 202 (hX 202 (by omega))]; exact h3, fun s2 ws g1 g2 => h4 s2 ws ⟨?_, ?_⟩ g2⟩
    · rw [g1.1, hf.1 _ (hX _ (by omega))]
    · rw [g1.2, hf.1 _ (hX _ (by omega))]
theorem i10 : ((1 : Int32) = 0) = False := eq_false (by decide)
theorem sWords_q {C : Nat → Int32} {z : ZT} {p q q' k : Nat} (hk : k = 0 ∨ k = 2 ∨ k = 3 ∨ k = 7 ∨ k = 8 ∨ k = 9 ∨ k = 10) : sWords C z p q k = sWords C z p q' k := by
  rcases hk with rfl | rfl | rfl | rfl | rfl | rfl | rfl <;> (unfold sWords; simp only [↓reduceIte, Nat.reduceEqDiff])
theorem gS10_l {s : ZS} {b j : Nat} {v : Int64} : gS 10 (zsL s b j v) = gS 10 s := rfl
theorem gS207_l {s : ZS} {b j : Nat} {v : Int64} : gS 207 (zsL s b j v) = gS 207 s := rfl
theorem znr_n {R : Type} {X Y : Option R} : znr (-1) X Y = X := by unfold znr; rw [if_pos (by decide)]
theorem znr_j {R : Type} {j : Nat} {X Y : Option R} (h : j < 6) : znr (nI j) X Y = Y := by
  unfold znr; rw [if_neg (nI_pos (by omega)), nI_clamp (by omega), if_pos h]
