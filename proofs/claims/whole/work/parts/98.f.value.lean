/-! rule: the reference's signs. -/
theorem rls_rls {b b' : Nat} (hb : b ≤ b') : ∀ (W : List Nat) (o : List ZQo), rls b (rls b' W o).1 (rls b' W o).2 = rls b W o := by
  intro W
  induction W with
  | nil => intro o; rfl
  | cons k W ih =>
    intro o
    by_cases hk : b' ≤ bnd k
    · rw [show rls b' (k :: W) o = rls b' W ((k, 0) :: o) from if_pos hk, show rls b (k :: W) o = rls b W ((k, 0) :: o) from if_pos (by omega)]
      exact ih _
    · rw [show rls b' (k :: W) o = (k :: W, o) from if_neg hk]
theorem rls_eq {b b' : Nat} {W W' : List Nat} {o o' : List ZQo} (hb : b ≤ b') (h : rls b' W o = (W', o')) : rls b W o = rls b W' o' := by
  have := rls_rls hb W o
  rw [h] at this
  exact this.symm
def tpB (b : Nat) (W : List Nat) : Prop := ∀ k W', W = k :: W' → bnd k < b
theorem tpB.r {b : Nat} {W : List Nat} (h : tpB b W) (o : List ZQo) : rls b W o = (W, o) := by
  cases W with
  | nil => rfl
  | cons k W => exact if_neg (by have := h k W rfl; omega)
theorem tpB.m {b b' : Nat} {W : List Nat} (h : tpB b W) (hb : b ≤ b') : tpB b' W := fun k W' e => by have := h k W' e; omega
theorem tpB.c {b k : Nat} {W : List Nat} (h : bnd k < b) : tpB b (k :: W) := fun k' W' e => by injection e with e1 _; rw [← e1]; exact h
/-! types -/
def tyO (x : ZQo) (τ : List Bool) : Option (List Bool) :=
  if x.1 = 0 ∨ (x.1 = 1 ∧ x.2 < 11) then some (false :: τ)
  else match τ with
    | false :: false :: r => if 2 ≤ x.1 ∧ x.1 ≤ 6 then some (false :: r) else if 7 ≤ x.1 ∧ x.1 ≤ 11 then some (true :: r) else none
    | true :: r => if x.1 = 12 then some (true :: r) else match r with
      | true :: r' => if x.1 = 13 ∨ x.1 = 14 then some (true :: r') else none
      | _ => none
    | _ => none
def ty : List ZQo → List Bool → Option (List Bool)
  | [], τ => some τ
  | x :: l, τ => (ty l τ).bind (tyO x)
theorem ty_app : ∀ (l l2 : List ZQo) (τ : List Bool), ty (l ++ l2) τ = (ty l2 τ).bind (ty l) := by
  intro l
  induction l with
  | nil => intro l2 τ; show ty l2 τ = _; cases ty l2 τ <;> rfl
  | cons x l ih =>
    intro l2 τ
    show (ty (l ++ l2) τ).bind (tyO x) = _
    rw [ih]
    cases ty l2 τ <;> rfl
def sumT (l : List ZQo) : Prop := ∀ τ, ty l τ = some (false :: τ)
def facT (l : List ZQo) : Prop := ∀ τ, ty l τ = some (true :: τ)
theorem sumT_1 {x : ZQo} (h : x.1 = 0 ∨ (x.1 = 1 ∧ x.2 < 11)) : sumT [x] := fun τ => by
  show tyO x τ = _
  unfold tyO
  rw [if_pos h]
theorem sumT_o {l l2 : List ZQo} {k : Nat} (h : sumT l) (h2 : sumT l2) (hk : 2 ≤ k ∧ k ≤ 6) : sumT ((k, 0) :: (l2 ++ l)) := fun τ => by
  show (ty (l2 ++ l) τ).bind (tyO (k, 0)) = _
  rw [ty_app, h τ]
  show (ty l2 (false :: τ)).bind _ = _
  rw [h2 (false :: τ)]
  show tyO (k, 0) (false :: false :: τ) = _
  unfold tyO
  rw [if_neg (by show ¬ (k = 0 ∨ (k = 1 ∧ _)); omega)]
  show (if 2 ≤ k ∧ k ≤ 6 then _ else _) = _
  rw [if_pos hk]
theorem facT_o {l l2 : List ZQo} {k : Nat} (h : sumT l) (h2 : sumT l2) (hk : 7 ≤ k ∧ k ≤ 11) : facT ((k, 0) :: (l2 ++ l)) := fun τ => by
  show (ty (l2 ++ l) τ).bind (tyO (k, 0)) = _
  rw [ty_app, h τ]
  show (ty l2 (false :: τ)).bind _ = _
  rw [h2 (false :: τ)]
  show tyO (k, 0) (false :: false :: τ) = _
  unfold tyO
  rw [if_neg (by show ¬ (k = 0 ∨ (k = 1 ∧ _)); omega)]
  show (if 2 ≤ k ∧ k ≤ 6 then _ else if 7 ≤ k ∧ k ≤ 11 then _ else _) = _
  rw [if_neg (by omega), if_pos hk]
def np : List ZQo → Nat
  | [] => 0
  | x :: l => np l + (if x.1 ≤ 1 then 1 else 0)
/-! runs of the machine -/
section RV
variable {t : Nat → Nat} {n : Nat}
theorem mrun_add (a : Nat) (x : Sum Nat ZG) : ∀ b, mrun t n (a + b) x = mrun t n b (mrun t n a x) := by
  intro b
  induction b with
  | zero => rfl
  | succ b ih => rw [← Nat.add_assoc, mrunS, mrunS, ih]
def rch (t : Nat → Nat) (n : Nat) (x y : Sum Nat ZG) : Prop := ∃ k, mrun t n k x = y
theorem rch.rf {x : Sum Nat ZG} : rch t n x x := ⟨0, rfl⟩
theorem rch.tr {x y z : Sum Nat ZG} (h : rch t n x y) (h2 : rch t n y z) : rch t n x z := by
  obtain ⟨a, h⟩ := h
  obtain ⟨b, h2⟩ := h2
  exact ⟨a + b, by rw [mrun_add, h, h2]⟩
theorem rch.s {c : ZG} {z : Sum Nat ZG} (h : rch t n (stpF t n c) z) : rch t n (.inr c) z := by
  obtain ⟨b, h⟩ := h
  refine ⟨1 + b, ?_⟩
  rw [mrun_add]
  exact h
/-! the reference's state -/
def sM (k : Nat) : Nat := [0, 1, 2, 3, 4, 5, 14, 6, 7, 8, 9, 10, 11, 12, 13].getD k 0
def mC (R : Nat) : List ZQo → (Nat → Int32) → Prop
  | [], _ => True
  | x :: l, f => f (400 * R + l.length) = nI (sM x.1 + 16 * x.2) ∧ mC R l f
theorem mC_u {R j : Nat} {v : Int32} : ∀ {l : List ZQo} {f : Nat → Int32}, mC R l f → 400 * R + l.length ≤ j → mC R l (upd f j v) := by
  intro l
  induction l with
  | nil => intro f _ _; trivial
  | cons k l ih =>
    intro f h hj
    have hj' : 400 * R + (l.length + 1) ≤ j := hj
    exact ⟨by rw [updE, if_neg (by omega)]; exact h.1, ih h.2 (by omega)⟩
def MS (R parts : Nat) (ro : List ZQo) (s : ZS) : Prop := s.1 216 11 = nI R ∧ s.1 216 12 = nI parts ∧ s.1 219 R = nI ro.length ∧ mC R ro (s.1 218)
def kV (R : Nat) (s s' : ZS) : Prop := (∀ b, ¬ (b = 216 ∨ b = 218 ∨ b = 219) → s'.1 b = s.1 b) ∧ (∀ k, ¬ (400 * R ≤ k ∧ k < 400 * R + 400) → s'.1 218 k = s.1 218 k) ∧ (∀ j, ¬ (8 ≤ j ∧ j ≤ 10 ∨ j = 12) → s'.1 216 j = s.1 216 j) ∧ s'.2 = s.2
theorem kV.rf {R : Nat} {s : ZS} : kV R s s := ⟨fun _ _ => rfl, fun _ _ => rfl, fun _ _ => rfl, rfl⟩
theorem kV.tr {R : Nat} {s s1 s2 : ZS} (h : kV R s s1) (h2 : kV R s1 s2) : kV R s s2 := ⟨fun b hb => (h2.1 b hb).trans (h.1 b hb), fun b hb => (h2.2.1 b hb).trans (h.2.1 b hb), fun b hb => (h2.2.2.1 b hb).trans (h.2.2.1 b hb), h2.2.2.2.trans h.2.2.2⟩
theorem mK.v {R : Nat} {s s1 : ZS} (h : mK s s1) : kV R s s1 := ⟨fun b hb => h.1 b (by omega), fun k _ => by rw [h.1 218 (by omega)], fun j hj => h.2.1 j (by omega), h.2.2⟩
theorem tpM.v {R : Nat} {s s' : ZS} (h : tpM t n s) (hk : kV R s s') : tpM t n s' := ⟨h.1, h.2.1, by rw [hk.2.2.1 1 (by omega)]; exact h.2.2.1, fun k => by rw [hk.1 217 (by omega)]; exact h.2.2.2 k⟩
theorem MS.k {R parts : Nat} {ro : List ZQo} {s s' : ZS} (h : MS R parts ro s) (hk : mK s s') : MS R parts ro s' := by
  obtain ⟨h1, h2, h3, h4⟩ := h
  exact ⟨by rw [hk.2.1 11 (by omega)]; exact h1, by rw [hk.2.1 12 (by omega)]; exact h2, by rw [hk.1 219 (by omega)]; exact h3, by rw [hk.1 218 (by omega)]; exact h4⟩
variable {R parts : Nat} {ro : List ZQo} {s : ZS}
theorem m_puts {k v : Nat} (hR : R < 6) (hk : k < 15) (hv : v < 100000) (hl : ro.length < 400) (h : MS R parts ro s) : rt (f_Model_puts (nI (sM k)) (nI v) s) (fun w => kV R s w ∧ MS R parts ((k, v) :: ro) w ∧ w.1 216 = s.1 216) := by
  obtain ⟨h1, h2, h3, h4⟩ := h
  unfold f_Model_puts
  have b1 : (zsI s 218 (400 * R + ro.length) (nI (sM k + 16 * v))).1 216 11 = nI R := by rw [zI1, if_neg (by omega)]; exact h1
  have b2 : (zsI s 218 (400 * R + ro.length) (nI (sM k + 16 * v))).1 219 R = nI ro.length := by rw [zI1, if_neg (by omega)]; exact h3
  simp (disch := omega) only [zgi, h1, zrd_n, h3, show (400 : Int32) = nI 400 from rfl, show (16 : Int32) = nI 16 from rfl, nI_mulR, nI_add, zwa_n, b1, b2, nI_1]
  refine rt_s ⟨⟨fun b hb => by rw [zI1, if_neg (by omega), zI1, if_neg (by omega)], fun k hk => by rw [zI1, if_neg (by omega), zI1, if_pos rfl, updE, if_neg (by omega)], fun j _ => by rw [zI1, if_neg (by omega), zI1, if_neg (by omega)], rfl⟩, ⟨?_, ?_, ?_, ?_, ?_⟩, ?_⟩
  · rw [zI1, if_neg (by omega)]; exact b1
  · rw [zI1, if_neg (by omega), zI1, if_neg (by omega)]; exact h2
  · rw [zI1, if_pos rfl, updE, if_pos rfl]; rfl
  · rw [zI1, if_neg (by omega), zI1, if_pos rfl, updE, if_pos rfl]
  · rw [zI1, if_neg (by omega), zI1, if_pos rfl]; exact mC_u h4 (Nat.le_refl _)
  · rw [zI1, if_neg (by omega), zI1, if_neg (by omega)]
theorem m_makes {q : Nat} (hn : n ≤ 400) (hq : q ≤ n) (hp : parts ≤ 60) (h : MS R parts ro s) (e9 : s.1 216 9 = 0) : rt (f_Model_makes (nI q) s) (fun w => kV R s w.2 ∧ (∀ j, j ≠ 9 → j ≠ 12 → w.2.1 216 j = s.1 216 j) ∧ (60 ≤ parts ∧ w.1 = 0 ∧ w.2.1 216 9 = nI (1 + 8 * q + 3) ∨ ¬ 60 ≤ parts ∧ w.1 = 1 ∧ w.2.1 216 9 = 0 ∧ MS R (parts + 1) ro w.2)) := by
  obtain ⟨h1, h2, h3, h4⟩ := h
  unfold f_Model_makes
  simp only [zgi, h2]
  by_cases h60 : 60 ≤ parts
  · have e60 : nI parts = 60 := by rw [show parts = 60 by omega]; rfl
    rw [if_neg (fun x => x e60), show (3 : Int32) = nI 3 from rfl, m_fails e9, zcl_s]
    refine rt_bl ⟨(mK.rf.I (by omega)).v, fun j j1 j2 => by rw [zI1, if_pos rfl, updE, if_neg j1], Or.inl ⟨h60, rfl, by rw [zI1, if_pos rfl, updE, if_pos rfl]⟩⟩ (Or.inl rfl)
  · have e60 : ¬ nI parts = 60 := by rw [show (60 : Int32) = nI 60 from rfl, nI_inj (by omega) (by omega)]; omega
    rw [if_pos e60]
    simp only [zwi, nI_1, zbl_1]
    refine rt_s ⟨⟨fun b hb => by rw [zI1, if_neg (by omega)], fun k _ => by rw [zI1, if_neg (by omega)], fun j hj => by rw [zI1, if_pos rfl, updE, if_neg (by omega)], rfl⟩, fun j j1 j2 => by rw [zI1, if_pos rfl, updE, if_neg j2], Or.inr ⟨h60, rfl, by rw [zI1, if_pos rfl, updE, if_neg (by omega)]; exact e9, ?_, ?_, ?_, ?_⟩⟩
    · rw [zI1, if_pos rfl, updE, if_neg (by omega)]; exact h1
    · rw [zI1, if_pos rfl, updE, if_pos rfl]
    · rw [zI1, if_neg (by omega)]; exact h3
    · rw [zI1, if_neg (by omega)]; exact h4
theorem hWd {q : Nat} {l : List Nat} {w : Int64} (hl : litOK l w) (h : tpM t n s) (hq : q ≤ n) (e : s.1 216 8 = nI q) (hqq : sk t n q = q) {A B : ZS → Option (Int32 × ZS)} : zcl (f_Model_isWord w s) (fun v s1 => if v = 0 then A s1 else B s1) = if isW t q (we t n q) l then B s else A s := by
  rw [m_isWord hl h hq e hqq, zcl_s]
  by_cases hw : isW t q (we t n q) l
  · simp only [if_pos hw, i10, ↓reduceIte]
  · simp only [if_neg hw, ↓reduceIte]
theorem m_wordHere {q : Nat} (h : tpM t n s) (hq : q ≤ n) (e : s.1 216 8 = nI q) (hqq : sk t n q = q) : f_Model_wordHere s = some (wixF t q (we t n q) 0 ws12, s) := by
  have e12 : wixF t q (we t n q) 0 ws12 = (if isW t q (we t n q) [112, 97, 105, 114] then 0 else if isW t q (we t n q) [115, 97, 121, 105, 110, 103] then 1 else if isW t q (we t n q) [116, 101, 109, 112, 101, 114] then 2 else if isW t q (we t n q) [98, 114, 101, 97, 107, 115] then 3 else if isW t q (we t n q) [104, 117, 114, 116] then 4 else if isW t q (we t n q) [109, 105, 110, 100, 115] then 5 else if isW t q (we t n q) [115, 97, 105, 100] then 6 else if isW t q (we t n q) [110, 101, 97, 114] then 7 else if isW t q (we t n q) [98, 97, 110, 100, 115] then 8 else if isW t q (we t n q) [114, 111, 119, 115] then 9 else if isW t q (we t n q) [100, 97, 121] then 10 else -1) := rfl
  rw [e12]
  unfold f_Model_wordHere
  rw [hWd lt_pair h hq e hqq]
  by_cases w0 : isW t q (we t n q) [112, 97, 105, 114]
  · rw [if_pos w0, if_pos w0]
  · rw [if_neg w0, if_neg w0]
    rw [hWd lt_saying h hq e hqq]
    by_cases w1 : isW t q (we t n q) [115, 97, 121, 105, 110, 103]
    · rw [if_pos w1, if_pos w1]
    · rw [if_neg w1, if_neg w1]
      rw [hWd lt_temper h hq e hqq]
      by_cases w2 : isW t q (we t n q) [116, 101, 109, 112, 101, 114]
      · rw [if_pos w2, if_pos w2]
      · rw [if_neg w2, if_neg w2]
        rw [hWd lt_breaks h hq e hqq]
        by_cases w3 : isW t q (we t n q) [98, 114, 101, 97, 107, 115]
        · rw [if_pos w3, if_pos w3]
        · rw [if_neg w3, if_neg w3]
          rw [hWd lt_hurt h hq e hqq]
          by_cases w4 : isW t q (we t n q) [104, 117, 114, 116]
          · rw [if_pos w4, if_pos w4]
          · rw [if_neg w4, if_neg w4]
            rw [hWd lt_minds h hq e hqq]
            by_cases w5 : isW t q (we t n q) [109, 105, 110, 100, 115]
            · rw [if_pos w5, if_pos w5]
            · rw [if_neg w5, if_neg w5]
              rw [hWd lt_said h hq e hqq]
              by_cases w6 : isW t q (we t n q) [115, 97, 105, 100]
              · rw [if_pos w6, if_pos w6]
              · rw [if_neg w6, if_neg w6]
                rw [hWd lt_near h hq e hqq]
                by_cases w7 : isW t q (we t n q) [110, 101, 97, 114]
                · rw [if_pos w7, if_pos w7]
                · rw [if_neg w7, if_neg w7]
                  rw [hWd lt_bands h hq e hqq]
                  by_cases w8 : isW t q (we t n q) [98, 97, 110, 100, 115]
                  · rw [if_pos w8, if_pos w8]
                  · rw [if_neg w8, if_neg w8]
                    rw [hWd lt_rows h hq e hqq]
                    by_cases w9 : isW t q (we t n q) [114, 111, 119, 115]
                    · rw [if_pos w9, if_pos w9]
                    · rw [if_neg w9, if_neg w9]
                      rw [hWd lt_day h hq e hqq]
                      by_cases w10 : isW t q (we t n q) [100, 97, 121]
                      · rw [if_pos w10, if_pos w10]
                      · rw [if_neg w10, if_neg w10]
/-- a value: where it ends, and what it is -/
def tvR (t : Nat → Nat) (n q parts : Nat) : Sum Nat (Nat × ZQo) :=
  if q < n ∧ isDg t q = true then sBd (nm t n q 0 100000) (fun x => if 60 ≤ parts then .inl (1 + 8 * q + 3) else .inr (x.2, (0, x.1)))
  else if wixF t q (we t n q) 0 ws12 = -1 then .inl (1 + 8 * q) else if 60 ≤ parts then .inl (1 + 8 * q + 3) else .inr (we t n q, (1, (wixF t q (we t n q) 0 ws12).toNatClampNeg))
theorem tvF_R {q sm : Nat} {W : List Nat} : tvF t n q W parts sm ro = sBd (tvR t n q parts) (fun x => .inr (x.1, W, parts + 1, sm, 2, x.2 :: ro)) := by
  unfold tvF tvR
  split
  · cases nm t n q 0 100000 with
    | inl f => rfl
    | inr x =>
      show (if 60 ≤ parts then _ else _) = sBd (if 60 ≤ parts then _ else _) _
      split <;> rfl
  · split
    · rfl
    · split <;> rfl
/-- what a part of the reading comes to: fault f, or what Q says -/
def mO (R : Nat) (s : ZS) (X : Sum Nat ZG) (Q : ZS → Prop) (w : Int32 × ZS) : Prop := kV R s w.2 ∧ ((∃ f, rch t n X (.inl f) ∧ w.1 = 0 ∧ 0 < f ∧ f < 100000 ∧ w.2.1 216 9 = nI f) ∨ w.1 = 1 ∧ w.2.1 216 9 = 0 ∧ Q w.2)
theorem m_value {p : Nat} (hR : R < 6) (h : tpM t n s) (hp : p ≤ n) (e : s.1 216 8 = nI p) (e9 : s.1 216 9 = 0) (hM : MS R parts ro s) (hpt : parts ≤ 60) (hl : ro.length < 400) : rt (f_Model_value s) (fun w => kV R s w.2 ∧ ((∃ f, tvR t n (sk t n p) parts = .inl f ∧ w.1 = 0 ∧ 0 < f ∧ f < 100000 ∧ w.2.1 216 9 = nI f) ∨ ∃ x, tvR t n (sk t n p) parts = .inr x ∧ (x.2.1 = 0 ∧ x.2.2 < 100000 ∨ x.2.1 = 1 ∧ x.2.2 < 11) ∧ x.1 ≤ n ∧ w.1 = 1 ∧ w.2.1 216 9 = 0 ∧ w.2.1 216 8 = nI x.1 ∧ MS R (parts + 1) (x.2 :: ro) w.2)) := by
  have hn4 := h.1
  obtain ⟨_, hq, _, _⟩ := sk_s (t := t) hp
  have hqq := sk_sk (t := t) hp
  unfold f_Model_value tvR
  rw [m_next h hp e, zcl_s]
  dsimp only
  generalize sk t n p = q at hq hqq
  have k1 : mK s (zsI s 216 8 (nI q)) := mK.rf.I (by omega)
  have e1 : (zsI s 216 8 (nI q)).1 216 8 = nI q := by rw [zI1, if_pos rfl, updE, if_pos rfl]
  have f1 : (zsI s 216 8 (nI q)).1 216 9 = 0 := by rw [zI1, if_pos rfl, updE, if_neg (by omega)]; exact e9
  generalize zsI s 216 8 (nI q) = s1 at k1 e1 f1
  have h1 := h.k k1
  have M1 := hM.k k1
  simp only [zgi, e1]
  rw [m_digit h1 hq, zcl_s]
  by_cases hd : q < n ∧ isDg t q = true
  · rw [if_pos hd]
    simp only [if_pos hd, i10, ↓reduceIte]
    refine rt_cl (m_num (lo := 0) (hi := 100000) h1 hq e1 f1 (by omega) (by omega)) ?_
    rintro v s2 ⟨k2, ⟨rfl, x, m1, g1, g2, g3⟩ | ⟨rfl, f, m1, g1⟩⟩
    · dsimp only at k2 g1 g2 g3
      have b1 := nm_b hq m1
      simp only [i10, ↓reduceIte]
      refine rt_cl (m_makes (q := q) hn4 hq hpt (M1.k k2) g3) ?_
      rintro v s3 ⟨k3, j3, ⟨h60, rfl, g4⟩ | ⟨h60, rfl, g4, M3⟩⟩
      · dsimp only at k3 g4
        simp only [not_true_eq_false, ↓reduceIte, zbl_0]
        exact rt_s ⟨((k1.v.tr k2.v).tr k3), Or.inl ⟨_, by rw [m1]; show (if 60 ≤ parts then _ else _) = _; rw [if_pos h60], rfl, by omega, by omega, g4⟩⟩
      · dsimp only at k3 g4 M3 j3
        have g10 : s3.1 216 10 = nI x.1 := by rw [j3 10 (by omega) (by omega)]; exact g2
        simp only [i10, not_false_eq_true, ↓reduceIte, g10]
        refine rt_cv (m_puts (k := 0) (v := x.1) hR (by omega) b1.2.1 hl M3) ?_
        rintro s4 ⟨k4, M4, j4⟩
        rw [zbl_1]
        refine rt_s ⟨((k1.v.tr k2.v).tr k3).tr k4, Or.inr ⟨(x.2, (0, x.1)), by rw [m1]; show (if 60 ≤ parts then _ else _) = _; rw [if_neg h60], Or.inl ⟨rfl, b1.2.1⟩, b1.2.2.2, rfl, by show s4.1 216 9 = 0; rw [j4]; exact g4, by show s4.1 216 8 = _; rw [j4, j3 8 (by omega) (by omega)]; exact g1, M4⟩⟩
    · dsimp only at k2 g1
      have := nm_f hq m1
      simp only [↓reduceIte, zbl_0]
      exact rt_s ⟨k1.v.tr k2.v, Or.inl ⟨f, by rw [m1]; rfl, rfl, this.1, by omega, g1⟩⟩
  · rw [if_neg hd]
    simp only [if_neg hd, ↓reduceIte]
    rw [m_wordHere h1 hq e1 hqq, zcl_s]
    dsimp only
    by_cases hw : wixF t q (we t n q) 0 ws12 = -1
    · rw [if_pos hw, hw, if_neg (show ¬ (0 : Int32) ≤ -1 by decide), show (0 : Int32) = nI 0 from rfl, m_fails f1, zcl_s]
      exact rt_bl ⟨(k1.I (by omega)).v, Or.inl ⟨_, rfl, rfl, by omega, by omega, by rw [zI1, if_pos rfl, updE, if_pos rfl]; rfl⟩⟩ (Or.inl rfl)
    · rw [if_neg hw]
      obtain ⟨j, j1, j2, _⟩ := (wix_lt (t := t) (p := q) (e := we t n q) ws12 0).resolve_left hw
      have hj11 : ws12.length = 11 := rfl
      rw [Nat.zero_add] at j2
      have hcl : (wixF t q (we t n q) 0 ws12).toNatClampNeg = j := by rw [j2, nI_clamp (by omega)]
      rw [hcl, j2, if_pos (nI_pos' (by omega))]
      obtain ⟨_, hw2, _, _⟩ := we_s (t := t) hq
      refine rt_cl (m_makes (q := q) hn4 hq hpt M1 f1) ?_
      rintro v s3 ⟨k3, j3, ⟨h60, rfl, g4⟩ | ⟨h60, rfl, g4, M3⟩⟩
      · dsimp only at k3 g4
        simp only [not_true_eq_false, ↓reduceIte, zbl_0]
        exact rt_s ⟨k1.v.tr k3, Or.inl ⟨_, by rw [if_pos h60], rfl, by omega, by omega, g4⟩⟩
      · dsimp only at k3 g4 M3 j3
        simp only [i10, not_false_eq_true, ↓reduceIte]
        rw [m_passWord (h1.v k3) hq (by rw [j3 8 (by omega) (by omega)]; exact e1), zcv_s]
        have k4 : mK s3 (zsI s3 216 8 (nI (we t n q))) := mK.rf.I (by omega)
        refine rt_cv (m_puts (k := 1) (v := j) hR (by omega) (by omega) hl (M3.k k4)) ?_
        rintro s5 ⟨k5, M5, j5⟩
        rw [zbl_1]
        refine rt_s ⟨((k1.v.tr k3).tr k4.v).tr k5, Or.inr ⟨(we t n q, (1, j)), by rw [if_neg h60], Or.inr ⟨rfl, by show j < 11; omega⟩, hw2, rfl, ?_, ?_, M5⟩⟩
        · show s5.1 216 9 = 0
          rw [j5, zI1, if_pos rfl, updE, if_neg (by omega)]; exact g4
        · show s5.1 216 8 = _
          rw [j5, zI1, if_pos rfl, updE, if_pos rfl]
end RV
