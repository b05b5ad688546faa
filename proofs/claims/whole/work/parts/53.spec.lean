/-! What goes on: anger, sayings, doors, choice, days. -/
def sAng (t m : Int32) : Int32 := if t + m ≤ 999 then t + m else 999
theorem angE (x : Int32) : (if x < 999 then x else 999) = if x ≤ 999 then x else 999 := by
  by_cases h : x < 999
  · rw [if_pos h, if_pos (Int32.le_of_lt h)]
  · rw [if_neg h]
    by_cases h2 : x ≤ 999
    · rw [if_pos h2]; exact (Int32.le_antisymm h2 (Int32.not_lt.mp h)).symm
    · rw [if_neg h2]
def sBnd (W : Nat → Int32) (n : Nat) : Int32 := itr n (fun p r => if W p = 0 then r else r ||| ((1 : Int32) <<< (nI p &&& 31))) 0
def sHear (m : Int32) (H : Nat → Bool) (o : Nat) (z : ZT) : ZT := if H o = true then (upd z.1 o (sAng (z.1 o) m), z.2) else z
/-- who hears a saying of p -/
def sH (C : Nat → Int32) (hm : Int32) (p : Nat) (W : Nat → Int32) (o : Nat) : Bool := bt (C (103 + p)) o && decide (W o = 0) && !decide (nI o = hm)
def sSay0 (C : Nat → Int32) (z : ZT) (p q : Nat) : ZT := (upd z.1 p (sAng (z.1 p) (C (67 + q) + C (73 + 6 * p + q))), z.2.1, z.2.2.1, upd z.2.2.2.1 (6 * p + q) (z.2.2.2.1 (6 * p + q) + 1), z.2.2.2.2)
def sSay (P : Nat) (C : Nat → Int32) (hm : Int32) (z : ZT) (RS : Nat → Int32) (p q : Nat) : ZT × Int32 × (Nat → Int32) :=
  sBr P C (fun o => sH C hm p z.2.1 o || decide (p = o)) (itr P (sHear (C (67 + q) / 2) (sH C hm p z.2.1)) (sSay0 C z p q)) RS
def sDoor (P : Nat) (C : Nat → Int32) (z : ZT) (RS : Nat → Int32) : ZT × Int32 × (Nat → Int32) :=
  sBr P C (fun o => decide (z.2.1 o = 0)) (itr P (sHear 3 (fun o => decide (z.2.1 o = 0))) z) RS
noncomputable def pc (x : Int32) : Int32 := match f_Int_bitCount x (fun _ _ => 0, fun _ _ => 0) with
  | some w => w.1
  | none => 0
theorem pcE (x : Int32) (s : ZS) : f_Int_bitCount x s = some (pc x, s) := rfl
noncomputable def sWords (C : Nat → Int32) (z : ZT) (p q k : Nat) : Int64 :=
  if k = 0 then (nI p).toInt64 else if k = 1 then (nI q).toInt64 else if k = 2 then (z.1 p).toInt64 else if k = 3 then (C (57 + p)).toInt64 else if k = 4 then (C (67 + q)).toInt64
  else if k = 5 then (C (73 + 6 * p + q)).toInt64 else if k = 6 then (z.2.2.2.1 (6 * p + q)).toInt64 else if k = 7 then (pc (C (103 + p) &&& (sBnd z.2.1 5 ^^^ (-1)))).toInt64
  else if k = 8 then (pc (sBnd z.2.1 5)).toInt64 else if k = 9 then z.2.2.2.2.2.toInt64 else z.2.2.2.2.1.toInt64
abbrev ZRl : Type := Option ((Nat → Int64) → Int64)
noncomputable def sWorth (C : Nat → Int32) (rl : ZRl) (z : ZT) (p q : Nat) : Int64 := match rl with
  | none => (C (67 + q) + C (73 + 6 * p + q)).toInt64
  | some f => f (sWords C z p q)
noncomputable def sCh1 (C : Nat → Int32) (st : Int32) (rl : ZRl) (z : ZT) (p q : Nat) (x : Int32 × Int64) : Int32 × Int64 :=
  if bt st q = true then x else if sWorth C rl z p q ≤ x.2 then x else (nI q, sWorth C rl z p q)
noncomputable def sCh (Q : Nat) (C : Nat → Int32) (st : Int32) (rl : ZRl) (z : ZT) (p : Nat) : Int32 × Int64 := itr Q (sCh1 C st rl z p) (-1, 0)
noncomputable def sDay1 (P Q : Nat) (C : Nat → Int32) (st hm : Int32) (rl : ZRl) (p : Nat) (x : ZT × Int32 × (Nat → Int32)) : ZT × Int32 × (Nat → Int32) :=
  if x.1.2.1 p = 0 ∧ ¬ nI p = hm then
    if (sCh Q C st rl x.1 p).1 = -1 then x
    else ((sSay P C hm x.1 x.2.2 p (sCh Q C st rl x.1 p).1.toNatClampNeg).1, x.2.1 ||| (sSay P C hm x.1 x.2.2 p (sCh Q C st rl x.1 p).1.toNatClampNeg).2.1, (sSay P C hm x.1 x.2.2 p (sCh Q C st rl x.1 p).1.toNatClampNeg).2.2)
  else x
def sCool (p : Nat) (T : Nat → Int32) : Nat → Int32 := if T p ≤ 0 then T else upd T p (T p - 1)
abbrev ZU : Type := (Nat → Int32) × (Nat → Int32) × (Nat → Int32) × Int32 × Int32
def sWear (C : Nat → Int32) (wv : Bool) (p : Nat) (u : ZU) : ZU :=
  if wv = true ∧ ¬ u.1 p = 0 then (if u.1 p - C 2 ≤ 0 then (upd u.1 p 0, upd u.2.1 p 0, u.2.2) else (upd u.1 p (u.1 p - C 2), u.2)) else u
def s9 (d : Int32) : Bool := decide (d - d / 10 * 10 = 9)
def sEnd (P : Nat) (C : Nat → Int32) (z : ZT) : ZT := (fun y : ZT => (y.1, y.2.1, y.2.2.1, y.2.2.2.1, y.2.2.2.2.1 + 1, y.2.2.2.2.2)) (itr P sCool z.1, itr P (sWear C (s9 z.2.2.2.2.1)) z.2)
noncomputable def sDay (P Q : Nat) (C : Nat → Int32) (st hm : Int32) (rl : ZRl) (z : ZT) (RS : Nat → Int32) : ZT × Int32 × (Nat → Int32) :=
  (fun y : ZT × Int32 × (Nat → Int32) => (sEnd P C y.1, y.2.1, y.2.2)) (itr P (sDay1 P Q C st hm rl) (z, 0, RS))
theorem upd_upd (f : Nat → Int32) (p : Nat) (a b : Int32) : upd (upd f p a) p b = upd f p b := by
  funext k; unfold upd; split <;> rfl
theorem lg_le0 (x y : Int64) : (lg_cmp x y ≤ 0) = (x ≤ y) := by
  apply propext
  unfold lg_cmp
  by_cases h : x > y
  · rw [if_pos h]; constructor
    · intro e; exact absurd e (by decide)
    · intro e; exact absurd e (Int64.not_le.mpr h)
  · rw [if_neg h]
    have h2 := Int64.not_lt.mp h
    constructor
    · intro _; exact h2
    · intro _
      by_cases h3 : x = y
      · rw [if_pos h3]; decide
      · rw [if_neg h3]; decide
theorem lg_0lt (x y : Int64) : (0 < lg_cmp x y) = (y < x) := by
  apply propext
  have := lg_le0 x y
  constructor
  · intro e; refine Int64.not_le.mp (fun q => ?_); rw [← this] at q; exact Int32.not_le.mpr e q
  · intro e; refine Int32.not_le.mp (fun q => ?_); rw [this] at q; exact Int64.not_le.mpr e q
theorem lg_lt0 (x y : Int64) : (lg_cmp x y < 0) = (x < y) := by
  apply propext
  unfold lg_cmp
  by_cases h : x > y
  · rw [if_pos h]; constructor
    · intro e; exact absurd e (by decide)
    · intro e; exact (Int64.lt_irrefl (Int64.lt_trans e h)).elim
  · rw [if_neg h]
    by_cases h3 : x = y
    · rw [if_pos h3]; subst h3; constructor
      · intro e; exact absurd e (by decide)
      · intro e; exact (Int64.lt_irrefl e).elim
    · rw [if_neg h3]; constructor
      · intro _; exact Int64.lt_of_le_of_ne (Int64.not_lt.mp h) h3
      · intro _; decide
theorem itr_pair {α β : Type} (n : Nat) (f : Nat → α → α) (g : Nat → β → β) (a : α) (b : β) : itr n (fun p (x : α × β) => (f p x.1, g p x.2)) (a, b) = (itr n f a, itr n g b) := by
  induction n with
  | zero => rfl
  | succ n ih => rw [itrS, ih]; rfl
theorem itr_sHear2 (n : Nat) (m : Int32) (H : Nat → Bool) (z : ZT) : (itr n (sHear m H) z).2 = z.2 := by
  induction n with
  | zero => rfl
  | succ n ih => rw [itrS]; unfold sHear; split <;> exact ih
/-- bands are not below 0; there is none beyond the pairs -/
def zW (P : Nat) (W : Nat → Int32) : Prop := ∀ p, p < 5 → 0 ≤ W p ∧ (P ≤ p → W p = 0)
theorem zW.pos {P : Nat} {W : Nat → Int32} (h : zW P W) {p : Nat} (hp : p < 5) : (W p ≤ 0) = (W p = 0) := by
  apply propext
  constructor
  · intro e; exact Int32.le_antisymm e (h p hp).1
  · intro e; rw [e]; exact Int32.le_refl _
theorem sBnd_bt (W : Nat → Int32) : ∀ (n k : Nat), n ≤ 5 → k < 8 → bt (sBnd W n) k = (decide (k < n) && !decide (W k = 0)) := by
  intro n
  induction n with
  | zero => intro k _ hk; rw [show sBnd W 0 = 0 from rfl, bt_zero hk]; simp
  | succ n ih =>
    intro k hn hk
    have h1 := ih k (by omega) hk
    have h2 : sBnd W (n + 1) = if W n = 0 then sBnd W n else sBnd W n ||| ((1 : Int32) <<< (nI n &&& 31)) := rfl
    rw [h2]
    by_cases hw : W n = 0
    · rw [if_pos hw, h1]
      by_cases e : k = n
      · subst e; simp [hw]
      · have : (decide (k < n + 1)) = decide (k < n) := by congr 1; apply propext; omega
        rw [this]
    · rw [if_neg hw, bt_or, h1, bt_one (by omega) hk]
      by_cases e : k = n
      · subst e; simp [hw]
      · have : (decide (k < n + 1)) = decide (k < n) := by congr 1; apply propext; omega
        rw [this]
        have e2 : ¬ n = k := fun q => e q.symm
        simp [e2]
theorem sBnd_P {P : Nat} {W : Nat → Int32} (hP : P ≤ 5) (h : zW P W) : sBnd W 5 = sBnd W P := by
  have : ∀ k, P + k ≤ 5 → sBnd W (P + k) = sBnd W P := by
    intro k
    induction k with
    | zero => intro _; rfl
    | succ k ih =>
      intro hk
      rw [← ih (by omega)]
      show (if W (P + k) = 0 then sBnd W (P + k) else _) = _
      rw [if_pos ((h (P + k) (by omega)).2 (by omega))]
  have h5 := this (5 - P) (by omega)
  rw [show P + (5 - P) = 5 by omega] at h5
  exact h5
theorem nI_inj {a b : Nat} (ha : a < 2147483648) (hb : b < 2147483648) : (nI a = nI b) = (a = b) := propext (nI_eq ha hb)
