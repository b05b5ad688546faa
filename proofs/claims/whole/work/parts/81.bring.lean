/-! bring. -/
def oMn (x v : Option Nat) : Option Nat := match x, v with
  | none, v => v
  | some a, none => some a
  | some a, some b => if b < a then some b else some a
section BR
variable (u : Nat → Nat) (Q pat y : Nat)
def bz (t q : Nat) : Nat := if t + u q ≤ 999 then t + u q else 999
def bN (F : Nat → Option Nat) (t q : Nat) : Option Nat := if bz u t q < pat then (if bz u t q ≤ t then none else (F (bz u t q)).map (· + 1)) else if bz u t q = y then some 1 else none
def bL (F : Nat → Option Nat) (t n : Nat) : Option Nat := itr n (fun q x => oMn x (bN u pat y F t q)) none
def bG : Nat → Nat → Option Nat
  | 0, _ => none
  | f + 1, t => bL u pat y (bG f) t Q
theorem bLS (F : Nat → Option Nat) (t n : Nat) : bL u pat y F t (n + 1) = oMn (bL u pat y F t n) (bN u pat y F t n) := rfl
theorem bGS (f t : Nat) : bG u Q pat y (f + 1) t = bL u pat y (bG u Q pat y f) t Q := rfl
theorem bz_ge {t q : Nat} (ht : t ≤ 999) : t ≤ bz u t q := by unfold bz; split <;> omega
theorem bz_le {t q : Nat} : bz u t q ≤ 999 := by unfold bz; split <;> omega
theorem bL_congr {F F' : Nat → Option Nat} {t : Nat} (h : ∀ q, bN u pat y F t q = bN u pat y F' t q) : ∀ n, bL u pat y F t n = bL u pat y F' t n := by
  intro n
  induction n with
  | zero => rfl
  | succ n ih => rw [bLS, bLS, ih, h]
theorem bL_none {F : Nat → Option Nat} {t : Nat} (h : ∀ q, bN u pat y F t q = none) : ∀ n, bL u pat y F t n = none := by
  intro n
  induction n with
  | zero => rfl
  | succ n ih => rw [bLS, ih, h]; rfl
theorem bG_y : ∀ f t, t ≤ 999 → y < t → bG u Q pat y f t = none := by
  intro f
  induction f with
  | zero => intro t _ _; rfl
  | succ f ih =>
    intro t ht hy
    rw [bGS]
    refine bL_none u pat y (fun q => ?_) Q
    have h1 := bz_ge u (q := q) ht
    have h2 := bz_le u (t := t) (q := q)
    unfold bN
    rw [ih (bz u t q) h2 (by omega)]
    split
    · split <;> rfl
    · rw [if_neg (by omega)]
theorem bG_fuel (hp : pat ≤ 99) (hy : y ≤ 120) : ∀ f t, t ≤ 999 → 121 ≤ f + t → bG u Q pat y (f + 1) t = bG u Q pat y f t := by
  intro f
  induction f with
  | zero => intro t h1 h2; rw [bG_y u Q pat y 1 t h1 (by omega)]; rfl
  | succ f ih =>
    intro t h1 h2
    rw [bGS, bGS u Q pat y f]
    refine bL_congr u pat y (fun q => ?_) Q
    have h3 := bz_le u (t := t) (q := q)
    unfold bN
    by_cases h4 : bz u t q ≤ t
    · rw [if_pos h4, if_pos h4]
    · rw [if_neg h4, if_neg h4, ih (bz u t q) h3 (by omega)]
def bT (t : Nat) : Option Nat := bG u Q pat y 121 t
theorem bT_fix (hp : pat ≤ 99) (hy : y ≤ 120) {t : Nat} (ht : t ≤ 999) : bT u Q pat y t = bL u pat y (bT u Q pat y) t Q := by
  have h := bG_fuel u Q pat y hp hy 121 t ht (by omega)
  unfold bT
  rw [← h]; rfl
theorem oMn_b {x v : Option Nat} {B : Nat} (h1 : ∀ n, x = some n → n ≤ B) (h2 : ∀ n, v = some n → n ≤ B) : ∀ n, oMn x v = some n → n ≤ B := by
  intro n h
  unfold oMn at h
  split at h
  · exact h2 n h
  · exact h1 n h
  · split at h
    · exact h2 n h
    · exact h1 n h
theorem bN_b {F : Nat → Option Nat} {f t q : Nat} (hF : ∀ r n, F r = some n → n ≤ f) : ∀ n, bN u pat y F t q = some n → n ≤ f + 1 := by
  intro n h
  unfold bN at h
  split at h
  · split at h
    · cases h
    · cases e : F (bz u t q) with
      | none => rw [e] at h; cases h
      | some k => rw [e] at h; have := hF _ _ e; have h' : some (k + 1) = some n := h; injection h' with h'; omega
  · split at h
    · injection h with h; omega
    · cases h
theorem bL_b {F : Nat → Option Nat} {f t : Nat} (hF : ∀ r n, F r = some n → n ≤ f) : ∀ n k, bL u pat y F t n = some k → k ≤ f + 1 := by
  intro n
  induction n with
  | zero => intro k h; cases h
  | succ n ih => rw [bLS]; exact oMn_b ih (bN_b u pat y hF)
theorem bG_b : ∀ f t n, bG u Q pat y f t = some n → n ≤ f := by
  intro f
  induction f with
  | zero => intro t n h; cases h
  | succ f ih => intro t n h; rw [bGS] at h; exact bL_b u pat y ih Q n h
theorem bL_first {F : Nat → Option Nat} {t m : Nat} : ∀ n, bL u pat y F t n = some m → ∃ q, q < n ∧ bN u pat y F t q = some m := by
  intro n
  induction n with
  | zero => intro h; cases h
  | succ n ih =>
    intro h
    rw [bLS] at h
    cases e1 : bL u pat y F t n with
    | none => rw [e1] at h; exact ⟨n, by omega, h⟩
    | some a =>
      cases e2 : bN u pat y F t n with
      | none => rw [e1, e2] at h; obtain ⟨q, q1, q2⟩ := ih (e1.trans h); exact ⟨q, by omega, q2⟩
      | some b =>
        rw [e1, e2] at h
        unfold oMn at h
        dsimp only at h
        split at h
        · exact ⟨n, by omega, e2.trans h⟩
        · obtain ⟨q, q1, q2⟩ := ih (e1.trans h); exact ⟨q, by omega, q2⟩
end BR
theorem least_q {p : Nat → Prop} : ∀ n, (∃ q, q < n ∧ p q) → ∃ q, q < n ∧ p q ∧ ∀ j, j < q → ¬ p j := by
  intro n
  induction n with
  | zero => rintro ⟨q, h, _⟩; omega
  | succ n ih =>
    intro h
    by_cases h2 : ∃ q, q < n ∧ p q
    · obtain ⟨q, a, b, c⟩ := ih h2; exact ⟨q, by omega, b, c⟩
    · obtain ⟨q, a, b⟩ := h
      refine ⟨q, a, b, fun j hj e => h2 ⟨j, by omega, e⟩⟩
/-- a number that says so much -/
def nV (N : Nat) (o : Option Nat) (v : Int32) : Prop := match o with
  | some n => v = nI n
  | none => v = nI N ∨ v = nI (N + 1)
theorem nV_min {N : Nat} {x o : Option Nat} {v : Int32} (hN : N < 2000000) (hx : ∀ n, x = some n → n ≤ 122) (ho : ∀ n, o = some n → n ≤ 122) (hN2 : 122 < N) (h : nV N o v) : (if v < nI (x.getD N) then v else nI (x.getD N)) = nI ((oMn x o).getD N) := by
  cases x with
  | none =>
    cases o with
    | none =>
      show (if v < nI N then v else nI N) = nI N
      rw [if_neg]
      rcases h with h | h <;> rw [h, nI_ltI (by omega) (by omega)] <;> omega
    | some b =>
      have := ho b rfl
      have e : v = nI b := h
      show (if v < nI N then v else nI N) = nI b
      rw [e, if_pos (by rw [nI_ltI (by omega) (by omega)]; omega)]
  | some a =>
    have := hx a rfl
    cases o with
    | none =>
      show (if v < nI a then v else nI a) = nI a
      rw [if_neg]
      rcases h with h | h <;> rw [h, nI_ltI (by omega) (by omega)] <;> omega
    | some b =>
      have := ho b rfl
      have e : v = nI b := h
      show (if v < nI a then v else nI a) = nI ((if b < a then some b else some a : Option Nat).getD N)
      rw [e]
      by_cases hb : b < a
      · rw [if_pos hb, if_pos (by rw [nI_ltI (by omega) (by omega)]; exact hb)]; rfl
      · rw [if_neg hb, if_neg (by rw [nI_ltI (by omega) (by omega)]; exact hb)]; rfl
theorem nV_eq {N : Nat} {o : Option Nat} {v : Int32} {n : Nat} (hN : N < 2000000) (hN2 : 122 < N) (hn : n ≤ 122) (ho : ∀ n, o = some n → n ≤ 122) (h : nV N o v) : (v = nI n) = (o = some n) := by
  cases o with
  | none =>
    have h' : v = nI N ∨ v = nI (N + 1) := h
    rcases h' with h' | h' <;> rw [h', nI_inj (by omega) (by omega)] <;> exact propext ⟨fun e => by omega, fun e => by cases e⟩
  | some b =>
    have := ho b rfl
    have e : v = nI b := h
    rw [e, nI_inj (by omega) (by omega)]
    exact propext ⟨fun e => by rw [e], fun e => by injection e⟩
