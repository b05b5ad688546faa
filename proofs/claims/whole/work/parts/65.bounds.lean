/-! What goes on keeps its bounds. -/
def sOKz (P : Nat) (z : ZT) : Prop := zOK P z ∧ iN 0 999 z.2.2.2.2.1
theorem sOK_z {P : Nat} {M : Nat → Int32} : sOK P M ↔ sOKz P (gM M) := Iff.rfl
def cK2 (C : Nat → Int32) : Prop := iN 0 99 (C 1) ∧ iN 0 9 (C 2) ∧ (∀ q, q < 6 → iN 0 9 (C (67 + q))) ∧ (∀ k, k < 30 → iN 0 20 (C (73 + k)))
theorem iN.up {lo hi lo' hi' : Nat} {v : Int32} (h : iN lo hi v) (h1 : lo' ≤ lo) (h2 : hi ≤ hi') : iN lo' hi' v := by
  obtain ⟨n, a, b, e⟩ := h; exact ⟨n, by omega, by omega, e⟩
theorem cB.cK2 {P Q : Nat} {M : Nat → Int32} (h : cB P Q M) : cK2 M := by
  obtain ⟨h1, h2, h3, h4, h5, h6, h7, h8, h9, h10⟩ := h
  refine ⟨?_, ?_, h8, h9⟩
  · rcases h5 with ⟨_, _, _, e, _⟩ | ⟨_, e, _⟩
    · rw [e]; exact ⟨0, by omega, by omega, rfl⟩
    · exact e.up (by omega) (by omega)
  · rcases h5 with ⟨_, _, _, _, e⟩ | ⟨_, _, e⟩
    · rw [e]; exact ⟨0, by omega, by omega, rfl⟩
    · exact e.up (by omega) (by omega)
theorem iN.add {a b c d : Nat} {v w : Int32} (h : iN a b v) (h2 : iN c d w) : iN (a + c) (b + d) (v + w) := by
  obtain ⟨n, k1, k2, rfl⟩ := h; obtain ⟨m, k3, k4, rfl⟩ := h2
  exact ⟨n + m, by omega, by omega, nI_add n m⟩
theorem iN_ang {t m : Int32} {d : Nat} (h : iN 0 999 t) (h2 : iN 0 d m) (hd : d < 1000000) : iN 0 999 (sAng t m) := by
  obtain ⟨n, h1, h2', rfl⟩ := h; obtain ⟨k, h3, h4, rfl⟩ := h2
  unfold sAng
  rw [nI_add, l999]
  by_cases h : n + k ≤ 999
  · rw [if_pos ((nI_leI (by omega) (by omega)).mpr h)]; exact ⟨n + k, by omega, h, rfl⟩
  · rw [if_neg (fun e => h ((nI_leI (by omega) (by omega)).mp e))]; exact ⟨999, by omega, by omega, rfl⟩
theorem zOK.T {P p : Nat} {z : ZT} {v : Int32} (h : zOK P z) (hv : iN 0 999 v) : zOK P (upd z.1 p v, z.2) := by
  intro k hk
  refine ⟨(h k hk).1, (h k hk).2.1, ?_⟩
  show iN 0 999 (upd z.1 p v k)
  rw [updE]; split
  · exact hv
  · exact (h k hk).2.2
theorem zOK_hear {P : Nat} {m : Int32} {H : Nat → Bool} {z : ZT} {d : Nat} (hm : iN 0 d m) (hd : d < 1000000) (h : zOK P z) : ∀ n, zOK P (itr n (sHear m H) z) := by
  intro n
  induction n with
  | zero => exact h
  | succ n ih =>
    rw [itrS]; unfold sHear; split
    · intro k hk
      have ih2 := ih k hk
      refine ⟨ih2.1, ih2.2.1, ?_⟩
      show iN 0 999 (upd _ n _ k)
      rw [updE]; split
      · next e =>
        subst e; exact iN_ang ih2.2.2 hm hd
      · exact ih2.2.2
    · exact ih
theorem iN_le {a b : Nat} {v w : Int32} (h : iN 0 a v) (h2 : iN 0 b w) (ha : a < 1000000) (hb : b < 1000000) (hl : ¬ w ≤ v) : iN 0 b v := by
  obtain ⟨n, h1, h2', rfl⟩ := h; obtain ⟨k, h3, h4, rfl⟩ := h2
  rw [nI_leI (by omega) (by omega)] at hl
  exact ⟨n, by omega, by omega, rfl⟩
theorem zOK_br {P : Nat} {C : Nat → Int32} {B : Nat → Bool} {z : ZT} {RS : Nat → Int32} (hP : P ≤ 5) (hK : cK2 C) (h : zOK P z) : ∀ n, n ≤ P → zOK P (itr n (sBr1 C B) (z, 0, RS)).1 := by
  intro n
  induction n with
  | zero => intro _; exact h
  | succ n ih =>
    intro hn
    have := ih (by omega)
    rw [itrS]
    generalize itr n (sBr1 C B) (z, 0, RS) = x at this ⊢
    unfold sBr1
    split
    · next hc =>
      intro k hk
      obtain ⟨k1, k2, k3⟩ := this k hk
      refine ⟨?_, fun hp => ?_, ?_⟩
      · show iN 0 99 (upd x.1.2.1 n _ k)
        rw [updE]; split
        · next e =>
          subst e
          split
          · exact hK.1
          · next hl => exact iN_le k3 hK.1 (by omega) (by omega) hl
        · exact k1
      · show upd x.1.2.1 n _ k = 0
        rw [updE, if_neg (by omega)]; exact k2 hp
      · show iN 0 999 (upd x.1.1 n 0 k)
        rw [updE]; split
        · exact ⟨0, by omega, by omega, rfl⟩
        · exact k3
    · exact this
theorem iN_half {v : Int32} (h : iN 0 9 v) : iN 0 9 (v / 2) := by
  obtain ⟨n, h1, h2, rfl⟩ := h
  exact (show ∀ n, n ≤ 9 → iN 0 9 (nI n / 2) from fun n hn => ⟨n / 2, by omega, by omega, (show ∀ n, n ≤ 9 → nI n / 2 = nI (n / 2) by decide) n hn⟩) n h2
theorem zOK_say {P : Nat} {C : Nat → Int32} {hm : Int32} {z : ZT} {RS : Nat → Int32} {p q : Nat} (hP : P ≤ 5) (hK : cK2 C) (h : zOK P z) (hp : p < 5) (hq : q < 6) : zOK P (sSay P C hm z RS p q).1 := by
  unfold sSay sBr
  refine zOK_br hP hK (zOK_hear (iN_half (hK.2.2.1 q hq)) (by omega) ?_ P) P (Nat.le_refl _)
  intro k hk
  obtain ⟨k1, k2, k3⟩ := h k hk
  refine ⟨k1, k2, ?_⟩
  show iN 0 999 (upd z.1 p _ k)
  rw [updE]; split
  · next e =>
    subst e
    have := (hK.2.2.1 q hq).add (hK.2.2.2 (6 * k + q) (by omega))
    rw [show 73 + 6 * k + q = 73 + (6 * k + q) by omega]
    exact iN_ang k3 this (by omega)
  · exact k3
theorem zOK_door {P : Nat} {C : Nat → Int32} {z : ZT} {RS : Nat → Int32} (hP : P ≤ 5) (hK : cK2 C) (h : zOK P z) : zOK P (sDoor P C z RS).1 := by
  unfold sDoor sBr
  exact zOK_br hP hK (zOK_hear (d := 3) ⟨3, by omega, by omega, rfl⟩ (by omega) h P) P (Nat.le_refl _)
theorem zOK_day1 {P Q : Nat} {C : Nat → Int32} {st hm : Int32} {rl : ZRl} {z : ZT} {RS : Nat → Int32} (hP : P ≤ 5) (hQ : Q ≤ 6) (hK : cK2 C) (h : zOK P z) : ∀ n, n ≤ P → zOK P (itr n (sDay1 P Q C st hm rl) (z, 0, RS)).1 := by
  intro n
  induction n with
  | zero => intro _; exact h
  | succ n ih =>
    intro hn
    have := ih (by omega)
    rw [itrS]
    generalize itr n (sDay1 P Q C st hm rl) (z, 0, RS) = x at this ⊢
    unfold sDay1
    split
    · split
      · exact this
      · next hne =>
        rcases sCh_r (C := C) (st := st) (rl := rl) (z := x.1) (p := n) Q with hq | ⟨q', hq1, hq⟩
        · exact absurd hq hne
        · rw [hq, nI_clamp (by omega)]
          exact zOK_say hP hK this (by omega) (by omega)
    · exact this
theorem iN_pred {a : Nat} {v : Int32} (ha : a < 1000000) (h : iN 0 a v) (hv : ¬ v ≤ 0) : iN 0 a (v - 1) := by
  obtain ⟨n, h1, h2, rfl⟩ := h
  rw [nI_le0 (by omega)] at hv
  rw [nI_sub1 n (by omega)]
  exact ⟨n - 1, by omega, by omega, rfl⟩
theorem iN_sub {a b : Nat} {v w : Int32} (ha : a < 1000000) (hb : b < 1000000) (h : iN 0 a v) (h2 : iN 0 b w) (hv : ¬ v - w ≤ 0) : iN 0 a (v - w) := by
  obtain ⟨n, h1, h2', rfl⟩ := h; obtain ⟨k, h3, h4, rfl⟩ := h2
  by_cases hl : k ≤ n
  · rw [nI_sub hl]; exact ⟨n - k, by omega, by omega, rfl⟩
  · exfalso; apply hv
    have e : nI n - nI k = - nI (k - n) := by
      rw [← nI_sub (show n ≤ k by omega), Int32.neg_sub]
    rw [e, Int32.le_iff_toInt_le]
    have e2 : (- nI (k - n)).toInt = - ((k - n : Nat) : Int) := by
      rw [Int32.toInt_neg, nI_toInt (by omega)]
      exact Int.bmod_eq_of_le_mul_two (by omega) (by omega)
    rw [e2]
    have e0 : (0 : Int32).toInt = 0 := by decide
    rw [e0]; omega
theorem zOK_end {P : Nat} {C : Nat → Int32} {z : ZT} (hP : P ≤ 5) (hK : cK2 C) (h : zOK P z) : zOK P (sEnd P C z) := by
  have hT : ∀ n k, k < 5 → iN 0 999 (itr n sCool z.1 k) := by
    intro n
    induction n with
    | zero => intro k hk; exact (h k hk).2.2
    | succ n ih =>
      intro k hk
      rw [itrS]; unfold sCool; split
      · exact ih k hk
      · next hc =>
        rw [updE]; split
        · next e => subst e; exact iN_pred (by omega) (ih k hk) hc
        · exact ih k hk
  have hW : ∀ n, n ≤ P → ∀ k, k < 5 → iN 0 99 ((itr n (sWear C (s9 z.2.2.2.2.1)) z.2).1 k) ∧ (P ≤ k → (itr n (sWear C (s9 z.2.2.2.2.1)) z.2).1 k = 0) := by
    intro n
    induction n with
    | zero => intro _ k hk; exact ⟨(h k hk).1, (h k hk).2.1⟩
    | succ n ih =>
      intro hn k hk
      have := ih (by omega) k hk
      rw [itrS]
      generalize itr n (sWear C (s9 z.2.2.2.2.1)) z.2 = u at this ⊢
      unfold sWear; split
      · split
        · show iN 0 99 (upd u.1 n 0 k) ∧ (P ≤ k → upd u.1 n 0 k = 0)
          rw [updE]; split
          · exact ⟨⟨0, by omega, by omega, rfl⟩, fun _ => rfl⟩
          · exact this
        · next hc =>
          show iN 0 99 (upd u.1 n _ k) ∧ (P ≤ k → upd u.1 n _ k = 0)
          rw [updE]; split
          · next e => subst e; exact ⟨iN_sub (by omega) (by omega) this.1 hK.2.1 hc, fun _ => by omega⟩
          · exact this
      · exact this
  intro k hk
  exact ⟨(hW P (Nat.le_refl _) k hk).1, (hW P (Nat.le_refl _) k hk).2, hT P k hk⟩
theorem zOK_day {P Q : Nat} {C : Nat → Int32} {st hm : Int32} {rl : ZRl} {z : ZT} {RS : Nat → Int32} (hP : P ≤ 5) (hQ : Q ≤ 6) (hK : cK2 C) (h : zOK P z) : zOK P (sDay P Q C st hm rl z RS).1 := zOK_end hP hK (zOK_day1 hP hQ hK h P (Nat.le_refl _))
/-! days: only the end of a day changes DAY -/
theorem day_hear {m : Int32} {H : Nat → Bool} {z : ZT} : ∀ n, (itr n (sHear m H) z).2.2.2.2.1 = z.2.2.2.2.1 := fun n => by rw [itr_sHear2]
theorem day_br {C : Nat → Int32} {B : Nat → Bool} {z : ZT} {RS : Nat → Int32} : ∀ n, (itr n (sBr1 C B) (z, 0, RS)).1.2.2.2.2.1 = z.2.2.2.2.1 := by
  intro n
  induction n with
  | zero => rfl
  | succ n ih => rw [itrS]; unfold sBr1; split <;> exact ih
theorem day_say {P : Nat} {C : Nat → Int32} {hm : Int32} {z : ZT} {RS : Nat → Int32} {p q : Nat} : (sSay P C hm z RS p q).1.2.2.2.2.1 = z.2.2.2.2.1 := by
  unfold sSay sBr; rw [day_br, day_hear]; rfl
theorem day_door {P : Nat} {C : Nat → Int32} {z : ZT} {RS : Nat → Int32} : (sDoor P C z RS).1.2.2.2.2.1 = z.2.2.2.2.1 := by
  unfold sDoor sBr; rw [day_br, day_hear]
theorem day_day1 {P Q : Nat} {C : Nat → Int32} {st hm : Int32} {rl : ZRl} {z : ZT} {RS : Nat → Int32} : ∀ n, (itr n (sDay1 P Q C st hm rl) (z, 0, RS)).1.2.2.2.2.1 = z.2.2.2.2.1 := by
  intro n
  induction n with
  | zero => rfl
  | succ n ih =>
    rw [itrS]; unfold sDay1; split
    · split
      · exact ih
      · dsimp only; rw [day_say]; exact ih
    · exact ih
theorem day_day {P Q : Nat} {C : Nat → Int32} {st hm : Int32} {rl : ZRl} {z : ZT} {RS : Nat → Int32} : (sDay P Q C st hm rl z RS).1.2.2.2.2.1 = z.2.2.2.2.1 + 1 := by
  show (itr P (sWear C _) (itr P (sDay1 P Q C st hm rl) (z, 0, RS)).1.2).2.2.2.1 + 1 = _
  rw [sWear_day]
  exact congrArg (· + 1) (day_day1 P)
