/-! rule: a machine. What waits, top first; what is said, last first. -/
abbrev ZQo : Type := Nat × Nat
abbrev ZG : Type := Nat × List Nat × Nat × Nat × Nat × List ZQo
def bnd (k : Nat) : Nat := [0, 0, 5, 5, 6, 6, 6, 4, 4, 4, 4, 4, 3, 2, 1, 0].getD k 0
def rls (b : Nat) : List Nat → List ZQo → List Nat × List ZQo
  | [], o => ([], o)
  | k :: W, o => if b ≤ bnd k then rls b W ((k, 0) :: o) else (k :: W, o)
def dpW : List Nat → Nat
  | [] => 0
  | k :: W => dpW W + (if k = 0 ∨ k = 12 then 1 else 0)
def opK (g : Int32) : Nat := if g = 37 then 6 else if g = 42 then 4 else if g = 43 then 2 else if g = 45 then 3 else if g = 47 then 5 else 0
section MA
variable (t : Nat → Nat) (n : Nat)
def cmK (q : Nat) : Nat := if sgn t n q = 60 then (if q + 1 < n ∧ t (q + 1) = 61 then 8 else 7) else if sgn t n q = 61 then 9 else if sgn t n q = 62 then (if q + 1 < n ∧ t (q + 1) = 61 then 10 else 11) else 0
def tvF (q : Nat) (W : List Nat) (parts sm : Nat) (o : List ZQo) : Sum Nat ZG :=
  if q < n ∧ isDg t q = true then sBd (nm t n q 0 100000) (fun x => if 60 ≤ parts then .inl (1 + 8 * q + 3) else .inr (x.2, W, parts + 1, sm, 2, (0, x.1) :: o))
  else if wixF t q (we t n q) 0 ws12 = -1 then .inl (1 + 8 * q) else if 60 ≤ parts then .inl (1 + 8 * q + 3) else .inr (we t n q, W, parts + 1, sm, 2, (1, (wixF t q (we t n q) 0 ws12).toNatClampNeg) :: o)
def bfF (q : Nat) (W : List Nat) (parts sm : Nat) (o : List ZQo) : Sum Nat ZG :=
  if wixF t q (we t n q) 0 ws15 = -1 then
    (if (rls 1 W o).1 = [] then .inr (q, [], parts, sm, 4, (rls 1 W o).2) else if sgn t n q = 93 then .inr (q + 1, (rls 1 W o).1.tail, parts, sm, 3, (rls 1 W o).2) else .inl (1 + 8 * q))
  else if wixF t q (we t n q) 0 ws15 = 0 then .inr (we t n q, 14 :: (rls 1 W o).1, parts, sm, 1, (rls 1 W o).2) else .inr (we t n q, 13 :: (rls 2 W o).1, parts, sm, 1, (rls 2 W o).2)
def bvF (q : Nat) (W : List Nat) (parts sm : Nat) (o : List ZQo) : Sum Nat ZG :=
  if ¬ opK (sgn t n q) = 0 then .inr (q + 1, opK (sgn t n q) :: (rls (bnd (opK (sgn t n q))) W o).1, parts, sm, 0, (rls (bnd (opK (sgn t n q))) W o).2)
  else if sm = 0 then (if isW t q (we t n q) [105, 102] then .inr (we t n q, (rls 1 W o).1, parts, sm, 1, (rls 1 W o).2) else .inr (q, (rls 1 W o).1, parts, sm, 4, (rls 1 W o).2))
  else if sm = 1 then (if cmK t n q = 0 then .inl (1 + 8 * q) else if 60 ≤ parts then .inl (1 + 8 * q + 3) else .inr (q + (if cmK t n q = 8 ∨ cmK t n q = 10 then 2 else 1), cmK t n q :: (rls 4 W o).1, parts + 1, 2, 0, (rls 4 W o).2))
  else bfF t n q W parts sm o
def fbF (q : Nat) (W : List Nat) (parts sm : Nat) (o : List ZQo) : Sum Nat ZG :=
  if sgn t n q = 91 then (if 10 ≤ dpW W then .inl (1 + 8 * q + 2) else .inr (q + 1, 0 :: W, parts, sm, 1, o))
  else if isW t q (we t n q) [110, 111, 116] then (if 10 ≤ dpW W then .inl (1 + 8 * q + 2) else .inr (we t n q, 12 :: W, parts, sm, 1, o))
  else tvF t n q W parts 1 o
def stpF (c : ZG) : Sum Nat ZG :=
  if c.2.2.2.2.1 = 0 then tvF t n (sk t n c.1) c.2.1 c.2.2.1 c.2.2.2.1 c.2.2.2.2.2
  else if c.2.2.2.2.1 = 1 then fbF t n (sk t n c.1) c.2.1 c.2.2.1 c.2.2.2.1 c.2.2.2.2.2
  else if c.2.2.2.2.1 = 2 then bvF t n (sk t n c.1) c.2.1 c.2.2.1 c.2.2.2.1 c.2.2.2.2.2
  else if c.2.2.2.2.1 = 3 then bfF t n (sk t n c.1) c.2.1 c.2.2.1 c.2.2.2.1 c.2.2.2.2.2
  else .inr c
def stpS (x : Sum Nat ZG) : Sum Nat ZG := sBd x (stpF t n)
def mrun (k : Nat) (x : Sum Nat ZG) : Sum Nat ZG := itr k (fun _ y => stpS t n y) x
end MA
/-! what it keeps -/
def hK (k : Nat) : Nat := if k = 0 ∨ k = 12 then 0 else bnd k
def wOK : List Nat → Prop
  | [] => True
  | k :: W => k < 16 ∧ (W.length + 1 ≤ 3 * dpW (k :: W) + hK k ∧ k ≠ 1 ∧ k ≠ 15) ∧ wOK W
def tpH : List Nat → Nat
  | [] => 0
  | k :: _ => hK k
theorem wOK.b {W : List Nat} (h : wOK W) : W.length ≤ 3 * dpW W + tpH W := by
  cases W with
  | nil => exact Nat.zero_le _
  | cons k W => exact h.2.1.1
theorem hK_b {k : Nat} (h : k < 16) : hK k ≤ 6 := (show ∀ k, k < 16 → hK k ≤ 6 by decide) k h
theorem rls_i {b : Nat} (hb : 0 < b) : ∀ (W : List Nat) (o : List ZQo), wOK W → wOK (rls b W o).1 ∧ (rls b W o).1.length + (rls b W o).2.length = W.length + o.length ∧ dpW (rls b W o).1 ≤ dpW W ∧ (b ≤ 3 ∨ dpW (rls b W o).1 = dpW W) ∧ tpH (rls b W o).1 < b ∧ (∀ P : ZQo → Prop, (∀ x, x ∈ o → P x) → (∀ k, k < 16 → P (k, 0)) → ∀ x, x ∈ (rls b W o).2 → P x) := by
  intro W
  induction W with
  | nil => intro o _; exact ⟨trivial, rfl, Nat.le_refl _, Or.inr rfl, hb, fun P h _ => h⟩
  | cons k W ih =>
    intro o h
    show _ ∧ _
    by_cases hk : b ≤ bnd k
    · have e : rls b (k :: W) o = rls b W ((k, 0) :: o) := if_pos hk
      rw [e]
      obtain ⟨i1, i2, i3, i4, i5, i6⟩ := ih ((k, 0) :: o) h.2.2
      refine ⟨i1, ?_, ?_, ?_, i5, fun P h1 h2 => i6 P (fun x hx => ?_) h2⟩
      · rw [i2]; show W.length + (o.length + 1) = W.length + 1 + o.length; omega
      · exact Nat.le_trans i3 (Nat.le_add_right _ _)
      · rcases i4 with i4 | i4
        · exact Or.inl i4
        · by_cases hd : k = 0 ∨ k = 12
          · left
            rcases hd with rfl | rfl
            · have : bnd 0 = 0 := rfl
              omega
            · have : bnd 12 = 3 := rfl
              omega
          · right
            rw [i4]
            show dpW W = dpW W + (if k = 0 ∨ k = 12 then 1 else 0)
            rw [if_neg hd]; rfl
      · cases hx with
        | head => exact h2 k h.1
        | tail _ hx => exact h1 x hx
    · have e : rls b (k :: W) o = (k :: W, o) := if_neg hk
      rw [e]
      refine ⟨h, rfl, Nat.le_refl _, Or.inr rfl, ?_, fun P h1 _ => h1⟩
      show hK k < b
      unfold hK
      split <;> omega
theorem rls_t {b : Nat} : ∀ (W : List Nat) (o : List ZQo) (k : Nat) (W' : List Nat), (rls b W o).1 = k :: W' → bnd k < b := by
  intro W
  induction W with
  | nil => intro o k W' h; cases h
  | cons j W ih =>
    intro o k W' h
    by_cases hk : b ≤ bnd j
    · rw [show rls b (j :: W) o = rls b W ((j, 0) :: o) from if_pos hk] at h
      exact ih _ k W' h
    · rw [show rls b (j :: W) o = (j :: W, o) from if_neg hk] at h
      injection h with h1 _
      rw [← h1]; omega
/-- all that holds between steps -/
def mI (n : Nat) (c : ZG) : Prop := c.1 ≤ n ∧ wOK c.2.1 ∧ dpW c.2.1 ≤ 10 ∧ c.2.2.1 ≤ 60 ∧ c.2.2.2.1 ≤ 2 ∧ c.2.2.2.2.1 ≤ 4 ∧ c.2.2.2.2.2.length + c.2.1.length + 1 ≤ c.1 ∧ (c.2.2.2.2.1 = 1 → tpH c.2.1 ≤ 2) ∧ ∀ x, x ∈ c.2.2.2.2.2 → x.1 < 16 ∧ x.2 < 100000
theorem mI.w {n : Nat} {c : ZG} (h : mI n c) : c.2.1.length ≤ 36 := by
  have h1 := h.2.1.b
  have h2 : tpH c.2.1 ≤ 6 := by
    have hw := h.2.1
    revert hw
    cases c.2.1 with
    | nil => intro _; exact Nat.zero_le _
    | cons k W => intro hw; exact hK_b hw.1
  have h3 := h.2.2.1
  omega
section MI
variable {t : Nat → Nat} {n : Nat}
theorem sgn_lt {q : Nat} {g : Int32} (h : sgn t n q = g) (hg : ¬ g = -1) : q < n := by
  refine Nat.lt_of_not_le (fun hle => hg ?_)
  rw [← h]; exact if_neg (by omega)
theorem opK_lt {q : Nat} (h : ¬ opK (sgn t n q) = 0) : q < n := by
  refine Nat.lt_of_not_le (fun hle => h ?_)
  rw [show sgn t n q = -1 from if_neg (by omega)]; decide
theorem opK_b {q : Nat} (h : ¬ opK (sgn t n q) = 0) : (2 ≤ opK (sgn t n q) ∧ opK (sgn t n q) < 7) ∧ (bnd (opK (sgn t n q)) = 5 ∨ bnd (opK (sgn t n q)) = 6) ∧ hK (opK (sgn t n q)) = bnd (opK (sgn t n q)) ∧ ¬ (opK (sgn t n q) = 0 ∨ opK (sgn t n q) = 12) := by
  revert h
  unfold opK
  split
  · intro _; decide
  · split
    · intro _; decide
    · split
      · intro _; decide
      · split
        · intro _; decide
        · split
          · intro _; decide
          · intro h; exact absurd rfl h
theorem cmK_b {q : Nat} (h : ¬ cmK t n q = 0) : q < n ∧ (7 ≤ cmK t n q ∧ cmK t n q < 12) ∧ bnd (cmK t n q) = 4 ∧ hK (cmK t n q) = 4 ∧ ¬ (cmK t n q = 0 ∨ cmK t n q = 12) ∧ q + (if cmK t n q = 8 ∨ cmK t n q = 10 then 2 else 1) ≤ n := by
  have hq : q < n := by
    refine Nat.lt_of_not_le (fun hle => h ?_)
    unfold cmK
    rw [show sgn t n q = -1 from if_neg (by omega), if_neg (by decide), if_neg (by decide), if_neg (by decide)]
  refine ⟨hq, ?_⟩
  revert h
  unfold cmK
  split
  · split
    · next h2 => intro _; exact ⟨by decide, by decide, by decide, by decide, by show q + 2 ≤ n; omega⟩
    · intro _; exact ⟨by decide, by decide, by decide, by decide, by show q + 1 ≤ n; omega⟩
  · split
    · intro _; exact ⟨by decide, by decide, by decide, by decide, by show q + 1 ≤ n; omega⟩
    · split
      · split
        · next h2 => intro _; exact ⟨by decide, by decide, by decide, by decide, by show q + 2 ≤ n; omega⟩
        · intro _; exact ⟨by decide, by decide, by decide, by decide, by show q + 1 ≤ n; omega⟩
      · intro h; exact absurd rfl h
theorem wix_lt {p e : Nat} : ∀ (ws : List (List Nat)) (k : Nat), wixF t p e k ws = -1 ∨ ∃ j, j < ws.length ∧ wixF t p e k ws = nI (k + j) ∧ isW t p e (ws.getD j []) := by
  intro ws
  induction ws with
  | nil => intro k; exact Or.inl rfl
  | cons l ls ih =>
    intro k
    show (if isW t p e l then nI k else wixF t p e (k + 1) ls) = -1 ∨ ∃ j, _ ∧ (if isW t p e l then nI k else wixF t p e (k + 1) ls) = _ ∧ _
    by_cases h : isW t p e l
    · right
      exact ⟨0, Nat.succ_pos _, by rw [if_pos h]; rfl, h⟩
    · rw [if_neg h]
      rcases ih (k + 1) with h2 | ⟨j, j1, j2, j3⟩
      · exact Or.inl h2
      · exact Or.inr ⟨j + 1, Nat.succ_lt_succ j1, by rw [j2]; congr 1; omega, j3⟩
/-- where a word stands, something is passed -/
theorem wix_pos {q : Nat} {ws : List (List Nat)} (hl : ∀ j, j < ws.length → 0 < (ws.getD j []).length) (h : ¬ wixF t q (we t n q) 0 ws = -1) : q < we t n q := by
  rcases wix_lt (t := t) (p := q) (e := we t n q) ws 0 with h2 | ⟨j, j1, j2, j3⟩
  · exact absurd h2 h
  · have := j3.1
    have := hl j j1
    omega
theorem lw12 : ∀ j, j < ws12.length → 0 < (ws12.getD j []).length := by decide
theorem lw15 : ∀ j, j < ws15.length → 0 < (ws15.getD j []).length := by decide
theorem tv_mI {q parts sm : Nat} {W : List Nat} {o : List ZQo} {c : ZG} (hq : q ≤ n) (hw : wOK W) (hd : dpW W ≤ 10) (hp : parts ≤ 60) (hs : sm ≤ 2) (hl : o.length + W.length + 1 ≤ q) (ho : ∀ x, x ∈ o → x.1 < 16 ∧ x.2 < 100000) (h : tvF t n q W parts sm o = .inr c) : mI n c ∧ q < c.1 ∧ c.2.2.2.2.1 = 2 ∧ c.2.1 = W ∧ c.2.2.2.1 = sm := by
  unfold tvF at h
  split at h
  · obtain ⟨x, m1, h⟩ := sBd_r h
    have b := nm_b hq m1
    split at h
    · cases h
    · injection h with h
      subst h
      refine ⟨⟨b.2.2.2, hw, hd, by show parts + 1 ≤ 60; omega, hs, by show 2 ≤ 4; omega, by show o.length + 1 + W.length + 1 ≤ x.2; omega, (fun e => by cases e), fun y hy => ?_⟩, b.2.2.1, rfl, rfl, rfl⟩
      cases hy with
      | head => exact ⟨by show 0 < 16; omega, b.2.1⟩
      | tail _ hy => exact ho y hy
  · split at h
    · cases h
    · next hwi =>
      split at h
      · cases h
      · injection h with h
        subst h
        have w1 := wix_pos lw12 hwi
        obtain ⟨_, w2, _, _⟩ := we_s (t := t) hq
        refine ⟨⟨w2, hw, hd, by show parts + 1 ≤ 60; omega, hs, by show 2 ≤ 4; omega, by show o.length + 1 + W.length + 1 ≤ we t n q; omega, (fun e => by cases e), fun y hy => ?_⟩, w1, rfl, rfl, rfl⟩
        cases hy with
        | head =>
          refine ⟨by show 1 < 16; omega, ?_⟩
          show (wixF t q (we t n q) 0 ws12).toNatClampNeg < 100000
          rcases wix_lt (t := t) (p := q) (e := we t n q) ws12 0 with h2 | ⟨j, j1, j2, _⟩
          · exact absurd h2 hwi
          · have : ws12.length = 11 := rfl
            rw [j2, nI_clamp (by omega)]; omega
        | tail _ hy => exact ho y hy
theorem bf_mI {q parts sm : Nat} {W : List Nat} {o : List ZQo} {c : ZG} (hq : q ≤ n) (hw : wOK W) (hd : dpW W ≤ 10) (hp : parts ≤ 60) (hs : sm ≤ 2) (hl : o.length + W.length + 1 ≤ q) (ho : ∀ x, x ∈ o → x.1 < 16 ∧ x.2 < 100000) (h : bfF t n q W parts sm o = .inr c) : mI n c ∧ (c.2.2.2.2.1 = 4 ∨ q < c.1) := by
  obtain ⟨i1, i2, i3, i4, i5, i6⟩ := rls_i (b := 1) (by omega) W o hw
  obtain ⟨j1, j2, j3, j4, j5, j6⟩ := rls_i (b := 2) (by omega) W o hw
  have k6 := i6 (fun x => x.1 < 16 ∧ x.2 < 100000) ho (fun k hk => ⟨hk, by show 0 < 100000; omega⟩)
  have m6 := j6 (fun x => x.1 < 16 ∧ x.2 < 100000) ho (fun k hk => ⟨hk, by show 0 < 100000; omega⟩)
  obtain ⟨_, w2, _, _⟩ := we_s (t := t) hq
  unfold bfF at h
  split at h
  · split at h
    · next he =>
      injection h with h
      subst h
      refine ⟨⟨hq, trivial, Nat.zero_le _, hp, hs, by show 4 ≤ 4; omega, ?_, (fun e => by cases e), k6⟩, Or.inl rfl⟩
      show (rls 1 W o).2.length + 0 + 1 ≤ q
      rw [he] at i2
      have : ([] : List Nat).length = 0 := rfl
      omega
    · next he =>
      split at h
      · next h93 =>
        have hqn : q < n := sgn_lt h93 (by decide)
        injection h with h
        subst h
        have tl : wOK (rls 1 W o).1.tail ∧ (rls 1 W o).1.tail.length ≤ (rls 1 W o).1.length ∧ dpW (rls 1 W o).1.tail ≤ dpW (rls 1 W o).1 := by
          revert i1
          cases (rls 1 W o).1 with
          | nil => intro _; exact ⟨trivial, Nat.le_refl _, Nat.le_refl _⟩
          | cons k W' => intro hh; exact ⟨hh.2.2, Nat.le_succ _, Nat.le_add_right _ _⟩
        refine ⟨⟨hqn, tl.1, Nat.le_trans tl.2.2 (Nat.le_trans i3 hd), hp, hs, by show 3 ≤ 4; omega, ?_, (fun e => by cases e), k6⟩, Or.inr (Nat.lt_succ_self _)⟩
        show (rls 1 W o).2.length + (rls 1 W o).1.tail.length + 1 ≤ q + 1
        have := tl.2.1
        omega
      · cases h
  · next hwi =>
    have w1 := wix_pos lw15 hwi
    split at h
    · injection h with h
      subst h
      have hb := i1.b
      refine ⟨⟨w2, ⟨by omega, ⟨?_, by omega, by omega⟩, i1⟩, ?_, hp, hs, by show 1 ≤ 4; omega, ?_, fun _ => ?_, k6⟩, Or.inr w1⟩
      · show (rls 1 W o).1.length + 1 ≤ 3 * (dpW (rls 1 W o).1 + 0) + 1; omega
      · show dpW (rls 1 W o).1 + 0 ≤ 10; omega
      · show (rls 1 W o).2.length + ((rls 1 W o).1.length + 1) + 1 ≤ we t n q; omega
      · show hK 14 ≤ 2; decide
    · injection h with h
      subst h
      have hb := j1.b
      refine ⟨⟨w2, ⟨by omega, ⟨?_, by omega, by omega⟩, j1⟩, ?_, hp, hs, by show 1 ≤ 4; omega, ?_, fun _ => ?_, m6⟩, Or.inr w1⟩
      · show (rls 2 W o).1.length + 1 ≤ 3 * (dpW (rls 2 W o).1 + 0) + 2; omega
      · show dpW (rls 2 W o).1 + 0 ≤ 10; omega
      · show (rls 2 W o).2.length + ((rls 2 W o).1.length + 1) + 1 ≤ we t n q; omega
      · show hK 13 ≤ 2; decide
theorem bv_mI {q parts sm : Nat} {W : List Nat} {o : List ZQo} {c : ZG} (hq : q ≤ n) (hw : wOK W) (hd : dpW W ≤ 10) (hp : parts ≤ 60) (hs : sm ≤ 2) (hl : o.length + W.length + 1 ≤ q) (ho : ∀ x, x ∈ o → x.1 < 16 ∧ x.2 < 100000) (h : bvF t n q W parts sm o = .inr c) : mI n c ∧ (c.2.2.2.2.1 = 4 ∨ q < c.1) := by
  obtain ⟨_, w2, _, _⟩ := we_s (t := t) hq
  unfold bvF at h
  split at h
  · next hop =>
    have hqn := opK_lt hop
    obtain ⟨o1, o2, o3, o4⟩ := opK_b hop
    obtain ⟨i1, i2, i3, i4, i5, i6⟩ := rls_i (b := bnd (opK (sgn t n q))) (by omega) W o hw
    have k6 := i6 (fun x => x.1 < 16 ∧ x.2 < 100000) ho (fun k hk => ⟨hk, by show 0 < 100000; omega⟩)
    injection h with h
    subst h
    have hb := i1.b
    have hdd : dpW (opK (sgn t n q) :: (rls (bnd (opK (sgn t n q))) W o).1) = dpW (rls (bnd (opK (sgn t n q))) W o).1 := by
      show _ + (if _ then 1 else 0) = _
      rw [if_neg o4]; rfl
    refine ⟨⟨hqn, ⟨by omega, ⟨?_, by omega, by omega⟩, i1⟩, ?_, hp, hs, by show 0 ≤ 4; omega, ?_, (fun e => by cases e), k6⟩, Or.inr (Nat.lt_succ_self _)⟩
    · rw [hdd, o3]; omega
    · show dpW (opK (sgn t n q) :: (rls (bnd (opK (sgn t n q))) W o).1) ≤ 10
      rw [hdd]; omega
    · show (rls (bnd (opK (sgn t n q))) W o).2.length + ((rls (bnd (opK (sgn t n q))) W o).1.length + 1) + 1 ≤ q + 1; omega
  · split at h
    · obtain ⟨i1, i2, i3, i4, i5, i6⟩ := rls_i (b := 1) (by omega) W o hw
      have k6 := i6 (fun x => x.1 < 16 ∧ x.2 < 100000) ho (fun k hk => ⟨hk, by show 0 < 100000; omega⟩)
      split at h
      · next hif =>
        injection h with h
        subst h
        have w1 : q < we t n q := by
          have h2 : we t n q - q = 2 := hif.1
          omega
        refine ⟨⟨w2, i1, Nat.le_trans i3 hd, hp, hs, by show 1 ≤ 4; omega, ?_, fun _ => by show tpH (rls 1 W o).1 ≤ 2; omega, k6⟩, Or.inr w1⟩
        show (rls 1 W o).2.length + (rls 1 W o).1.length + 1 ≤ we t n q; omega
      · injection h with h
        subst h
        refine ⟨⟨hq, i1, Nat.le_trans i3 hd, hp, hs, by show 4 ≤ 4; omega, ?_, (fun e => by cases e), k6⟩, Or.inl rfl⟩
        show (rls 1 W o).2.length + (rls 1 W o).1.length + 1 ≤ q; omega
    · split at h
      · split at h
        · cases h
        · next hcm =>
          split at h
          · cases h
          · obtain ⟨c1, c2, c3, c4, c5, c6⟩ := cmK_b hcm
            obtain ⟨i1, i2, i3, i4, i5, i6⟩ := rls_i (b := 4) (by omega) W o hw
            have k6 := i6 (fun x => x.1 < 16 ∧ x.2 < 100000) ho (fun k hk => ⟨hk, by show 0 < 100000; omega⟩)
            injection h with h
            subst h
            have hb := i1.b
            have hdd : dpW (cmK t n q :: (rls 4 W o).1) = dpW (rls 4 W o).1 := by
              show _ + (if _ then 1 else 0) = _
              rw [if_neg c5]; rfl
            have hge : 1 ≤ (if cmK t n q = 8 ∨ cmK t n q = 10 then 2 else 1) := by split <;> omega
            refine ⟨⟨c6, ⟨by omega, ⟨?_, by omega, by omega⟩, i1⟩, ?_, by show parts + 1 ≤ 60; omega, by show 2 ≤ 2; omega, by show 0 ≤ 4; omega, ?_, (fun e => by cases e), k6⟩, Or.inr ?_⟩
            · rw [hdd, c4]; omega
            · show dpW (cmK t n q :: (rls 4 W o).1) ≤ 10
              rw [hdd]; omega
            · show (rls 4 W o).2.length + ((rls 4 W o).1.length + 1) + 1 ≤ q + _; omega
            · show q < q + _; omega
      · exact bf_mI hq hw hd hp hs hl ho h
theorem fb_mI {q parts sm : Nat} {W : List Nat} {o : List ZQo} {c : ZG} (hq : q ≤ n) (hw : wOK W) (hd : dpW W ≤ 10) (hp : parts ≤ 60) (hs : sm ≤ 2) (hl : o.length + W.length + 1 ≤ q) (ho : ∀ x, x ∈ o → x.1 < 16 ∧ x.2 < 100000) (ht : tpH W ≤ 2) (h : fbF t n q W parts sm o = .inr c) : mI n c ∧ q < c.1 := by
  obtain ⟨_, w2, _, _⟩ := we_s (t := t) hq
  have hb := hw.b
  unfold fbF at h
  split at h
  · next h91 =>
    have hqn : q < n := sgn_lt h91 (by decide)
    split at h
    · cases h
    · injection h with h
      subst h
      refine ⟨⟨hqn, ⟨by omega, ⟨?_, by omega, by omega⟩, hw⟩, ?_, hp, hs, by show 1 ≤ 4; omega, ?_, fun _ => by show 0 ≤ 2; omega, ho⟩, Nat.lt_succ_self _⟩
      · show W.length + 1 ≤ 3 * (dpW W + 1) + 0; omega
      · show dpW W + 1 ≤ 10; omega
      · show o.length + (W.length + 1) + 1 ≤ q + 1; omega
  · split at h
    · next hno =>
      have w1 : q < we t n q := by
        have h2 : we t n q - q = 3 := hno.1
        omega
      split at h
      · cases h
      · injection h with h
        subst h
        refine ⟨⟨w2, ⟨by omega, ⟨?_, by omega, by omega⟩, hw⟩, ?_, hp, hs, by show 1 ≤ 4; omega, ?_, fun _ => by show 0 ≤ 2; omega, ho⟩, w1⟩
        · show W.length + 1 ≤ 3 * (dpW W + 1) + 0; omega
        · show dpW W + 1 ≤ 10; omega
        · show o.length + (W.length + 1) + 1 ≤ we t n q; omega
    · obtain ⟨k1, k2, _⟩ := tv_mI hq hw hd hp (by omega) hl ho h
      exact ⟨k1, k2⟩
/-- a step goes on, or ends it -/
theorem stp_mI {c c' : ZG} (h : mI n c) (h4 : ¬ c.2.2.2.2.1 = 4) (hs : stpF t n c = .inr c') : mI n c' ∧ (c'.2.2.2.2.1 = 4 ∨ c.1 < c'.1) := by
  obtain ⟨a1, a2, a3, a4, a5, a6, a7, a8, a9⟩ := h
  obtain ⟨s1, s2, _, _⟩ := sk_s (t := t) a1
  unfold stpF at hs
  split at hs
  · obtain ⟨k1, k2, _⟩ := tv_mI s2 a2 a3 a4 a5 (by omega) a9 hs
    exact ⟨k1, Or.inr (by omega)⟩
  · split at hs
    · next h1 =>
      obtain ⟨k1, k2⟩ := fb_mI s2 a2 a3 a4 a5 (by omega) a9 (a8 h1) hs
      exact ⟨k1, Or.inr (by omega)⟩
    · split at hs
      · obtain ⟨k1, k2⟩ := bv_mI s2 a2 a3 a4 a5 (by omega) a9 hs
        exact ⟨k1, k2.imp (fun x => x) (fun x => by omega)⟩
      · split at hs
        · obtain ⟨k1, k2⟩ := bf_mI s2 a2 a3 a4 a5 (by omega) a9 hs
          exact ⟨k1, k2.imp (fun x => x) (fun x => by omega)⟩
        · omega
end MI
