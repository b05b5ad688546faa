/-! rule: what a rule is worth. -/
def opV (k : Nat) (a b : Int64) : Int64 :=
  if k = 2 then a + b else if k = 3 then a - b else if k = 4 then a * b
  else if k = 5 then (if ¬ lg_cmp b 0 = 0 then a / b else 0)
  else if k = 6 then (if ¬ lg_cmp b 0 = 0 then a - a / b * b else 0)
  else if k = 7 then (if 0 ≤ lg_cmp a b then 0 else 1)
  else if k = 8 then (if 0 < lg_cmp a b then 0 else 1)
  else if k = 9 then (if ¬ lg_cmp a b = 0 then 0 else 1)
  else if k = 10 then (if lg_cmp a b < 0 then 0 else 1)
  else if k = 11 then (if lg_cmp a b ≤ 0 then 0 else 1)
  else if k = 13 then a &&& b else a ||| b
theorem op_c {k : Nat} (h : (2 ≤ k ∧ k ≤ 14) ∧ ¬ k = 12) : k = 2 ∨ k = 3 ∨ k = 4 ∨ k = 5 ∨ k = 6 ∨ k = 7 ∨ k = 8 ∨ k = 9 ∨ k = 10 ∨ k = 11 ∨ k = 13 ∨ k = 14 := by omega
theorem zdl_s {R : Type} {b : Int64} {K : Option R} (h : ¬ lg_cmp b 0 = 0) : zdl b K = K := by
  unfold zdl
  rw [lg_eq0] at h
  rw [if_neg h]
theorem ite_s {c : Prop} [Decidable c] {x y : Int64} {s : ZS} : (if c then some (x, s) else some (y, s)) = some (if c then x else y, s) := by split <;> rfl
theorem c_joined {k : Nat} {a b : Int64} {s : ZS} (h : (2 ≤ k ∧ k ≤ 14) ∧ ¬ k = 12) : f_Rule_joined (nI k) a b s = some (opV k a b, s) := by
  rcases op_c h with rfl | rfl | rfl | rfl | rfl | rfl | rfl | rfl | rfl | rfl | rfl | rfl
  · rfl
  · rfl
  · rfl
  · show (if ¬ lg_cmp b 0 = 0 then zdl b (some (a / b, s)) else some (0, s)) = some ((if ¬ lg_cmp b 0 = 0 then a / b else 0), s)
    by_cases h0 : lg_cmp b 0 = 0
    · rw [if_neg (fun x => x h0), if_neg (fun x => x h0)]
    · rw [if_pos h0, if_pos h0, zdl_s h0]
  · show (if ¬ lg_cmp b 0 = 0 then zdl b (some (a - a / b * b, s)) else some (0, s)) = some ((if ¬ lg_cmp b 0 = 0 then a - a / b * b else 0), s)
    by_cases h0 : lg_cmp b 0 = 0
    · rw [if_neg (fun x => x h0), if_neg (fun x => x h0)]
    · rw [if_pos h0, if_pos h0, zdl_s h0]
  · exact ite_s (c := 0 ≤ lg_cmp a b)
  · exact ite_s (c := 0 < lg_cmp a b)
  · exact ite_s (c := ¬ lg_cmp a b = 0)
  · exact ite_s (c := lg_cmp a b < 0)
  · exact ite_s (c := lg_cmp a b ≤ 0)
  · rfl
  · rfl
theorem m_one {k : Nat} {a b : Int64} {s : ZS} (h : (2 ≤ k ∧ k ≤ 14) ∧ ¬ k = 12) : f_Model_one (nI (sM k)) a b s = some (opV k a b, s) := by
  rcases op_c h with rfl | rfl | rfl | rfl | rfl | rfl | rfl | rfl | rfl | rfl | rfl | rfl
  · rfl
  · rfl
  · rfl
  · show (if ¬ lg_cmp b 0 = 0 then zdl b (some (a / b, s)) else some (0, s)) = some ((if ¬ lg_cmp b 0 = 0 then a / b else 0), s)
    by_cases h0 : lg_cmp b 0 = 0
    · rw [if_neg (fun x => x h0), if_neg (fun x => x h0)]
    · rw [if_pos h0, if_pos h0, zdl_s h0]
  · show (if ¬ lg_cmp b 0 = 0 then zdl b (some (a - a / b * b, s)) else some (0, s)) = some ((if ¬ lg_cmp b 0 = 0 then a - a / b * b else 0), s)
    by_cases h0 : lg_cmp b 0 = 0
    · rw [if_neg (fun x => x h0), if_neg (fun x => x h0)]
    · rw [if_pos h0, if_pos h0, zdl_s h0]
  · exact ite_s (c := 0 ≤ lg_cmp a b)
  · exact ite_s (c := 0 < lg_cmp a b)
  · exact ite_s (c := ¬ lg_cmp a b = 0)
  · exact ite_s (c := lg_cmp a b < 0)
  · exact ite_s (c := lg_cmp a b ≤ 0)
  · rfl
  · rfl
def cV (v : Nat) : Int64 := (nI v).toInt64
section SE
variable (ws : Nat → Int64)
def evO (x : ZQo) (σ : List Int64) : List Int64 :=
  if x.1 = 0 then cV x.2 :: σ else if x.1 = 1 then ws x.2 :: σ
  else if x.1 = 12 then (match σ with | a :: r => (1 - a) :: r | [] => [])
  else (match σ with | b :: a :: r => opV x.1 a b :: r | σ => σ)
def evS : List ZQo → List Int64 → List Int64
  | [], σ => σ
  | x :: l, σ => evO ws x (evS l σ)
def enE : List Int64 → Sum Int64 (List Int64)
  | [] => .inr []
  | [v] => .inl v
  | a :: b :: r => if a = 0 then .inr [] else .inl ((b :: r).getLast (List.cons_ne_nil _ _))
def cvR : List ZQo → Sum Int64 (List Int64)
  | [] => .inr []
  | x :: l => match cvR l with
    | .inl v => .inl v
    | .inr σ => if x.1 = 15 then enE σ else .inr (evO ws x σ)
def fR (T : List ZQo) : Int64 := match cvR ws T with
  | .inl v => v
  | .inr _ => 0
def okX (x : ZQo) (σ : List Int64) : Prop := (x.1 = 0 ∧ x.2 < 100000 ∧ σ.length < 64) ∨ (x.1 = 1 ∧ x.2 < 11 ∧ σ.length < 64) ∨ (x.1 = 12 ∧ 1 ≤ σ.length ∧ x.2 < 100000) ∨ (((2 ≤ x.1 ∧ x.1 ≤ 14) ∧ ¬ x.1 = 12) ∧ 2 ≤ σ.length ∧ x.2 < 100000)
def okE : List ZQo → List Int64 → Prop
  | [], _ => True
  | x :: l, σ => okE l σ ∧ okX x (evS ws l σ)
def okS : List ZQo → Prop
  | [] => True
  | x :: l => okS l ∧ ∀ σ, cvR ws l = .inr σ → σ.length ≤ 64 ∧ ((x.1 = 15 ∧ x.2 < 100000) ∨ okX x σ)
def TS : List Bool → List Int64 → Prop
  | [], [] => True
  | b :: τ, v :: σ => (b = true → v = 0 ∨ v = 1) ∧ TS τ σ
  | _, _ => False
variable {ws}
theorem TS.l : ∀ {τ : List Bool} {σ : List Int64}, TS τ σ → σ.length = τ.length := by
  intro τ
  induction τ with
  | nil => intro σ h; cases σ with
    | nil => rfl
    | cons v σ => cases h
  | cons b τ ih => intro σ h; cases σ with
    | nil => cases h
    | cons v σ => show σ.length + 1 = τ.length + 1; rw [ih h.2]
theorem opV_01 {k : Nat} {a b : Int64} (hk : 7 ≤ k ∧ k ≤ 11) : opV k a b = 0 ∨ opV k a b = 1 := by
  have : k = 7 ∨ k = 8 ∨ k = 9 ∨ k = 10 ∨ k = 11 := by omega
  rcases this with rfl | rfl | rfl | rfl | rfl
  · show (if 0 ≤ lg_cmp a b then (0 : Int64) else 1) = 0 ∨ (if 0 ≤ lg_cmp a b then (0 : Int64) else 1) = 1
    split
    · exact Or.inl rfl
    · exact Or.inr rfl
  · show (if 0 < lg_cmp a b then (0 : Int64) else 1) = 0 ∨ (if 0 < lg_cmp a b then (0 : Int64) else 1) = 1
    split
    · exact Or.inl rfl
    · exact Or.inr rfl
  · show (if ¬ lg_cmp a b = 0 then (0 : Int64) else 1) = 0 ∨ (if ¬ lg_cmp a b = 0 then (0 : Int64) else 1) = 1
    split
    · exact Or.inl rfl
    · exact Or.inr rfl
  · show (if lg_cmp a b < 0 then (0 : Int64) else 1) = 0 ∨ (if lg_cmp a b < 0 then (0 : Int64) else 1) = 1
    split
    · exact Or.inl rfl
    · exact Or.inr rfl
  · show (if lg_cmp a b ≤ 0 then (0 : Int64) else 1) = 0 ∨ (if lg_cmp a b ≤ 0 then (0 : Int64) else 1) = 1
    split
    · exact Or.inl rfl
    · exact Or.inr rfl
/-- a step on what it is typed for -/
theorem tyO_s {x : ZQo} {τ τ' : List Bool} {σ : List Int64} (h : tyO x τ = some τ') (hT : TS τ σ) (hl : σ.length < 64) (hx : x.2 < 100000) : okX x σ ∧ TS τ' (evO ws x σ) ∧ ∀ σ0, evO ws x (σ ++ σ0) = evO ws x σ ++ σ0 := by
  unfold tyO at h
  by_cases h0 : x.1 = 0 ∨ (x.1 = 1 ∧ x.2 < 11)
  · rw [if_pos h0] at h
    injection h with h
    subst h
    rcases h0 with h0 | ⟨h0, h1⟩
    · refine ⟨Or.inl ⟨h0, hx, hl⟩, ?_, fun σ0 => ?_⟩
      · unfold evO; rw [if_pos h0]; exact ⟨(fun e => by cases e), hT⟩
      · unfold evO; rw [if_pos h0, if_pos h0]; rfl
    · refine ⟨Or.inr (Or.inl ⟨h0, h1, hl⟩), ?_, fun σ0 => ?_⟩
      · unfold evO; rw [if_neg (by omega), if_pos h0]; exact ⟨(fun e => by cases e), hT⟩
      · unfold evO; rw [if_neg (by omega), if_pos h0, if_neg (by omega), if_pos h0]; rfl
  · rw [if_neg h0] at h
    match τ, σ, hT, h with
    | false :: false :: r, b :: a :: σ, hT, h =>
      dsimp only at h
      have hk : (2 ≤ x.1 ∧ x.1 ≤ 6) ∨ (7 ≤ x.1 ∧ x.1 ≤ 11) := by
        split at h
        · next h1 => exact Or.inl h1
        · split at h
          · next h2 => exact Or.inr h2
          · cases h
      have e : ∀ σ : List Int64, evO ws x (b :: a :: σ) = opV x.1 a b :: σ := fun σ => by
        unfold evO
        rw [if_neg (by omega), if_neg (by omega), if_neg (by omega)]
      refine ⟨Or.inr (Or.inr (Or.inr ⟨by omega, by show 2 ≤ σ.length + 1 + 1; omega, hx⟩)), ?_, fun σ0 => ?_⟩
      · rw [e]
        split at h
        · injection h with h
          subst h
          exact ⟨(fun e => by cases e), hT.2.2⟩
        · split at h
          · next h2 =>
            injection h with h
            subst h
            exact ⟨fun _ => opV_01 h2, hT.2.2⟩
          · cases h
      · rw [e, show b :: a :: σ ++ σ0 = b :: a :: (σ ++ σ0) from rfl, e]; rfl
    | true :: r, a :: σ, hT, h =>
      dsimp only at h
      by_cases h12 : x.1 = 12
      · rw [if_pos h12] at h
        injection h with h
        subst h
        have e : ∀ σ : List Int64, evO ws x (a :: σ) = (1 - a) :: σ := fun σ => by
          unfold evO
          rw [if_neg (by omega), if_neg (by omega), if_pos h12]
        refine ⟨Or.inr (Or.inr (Or.inl ⟨h12, by show 1 ≤ σ.length + 1; omega, hx⟩)), ?_, fun σ0 => ?_⟩
        · rw [e]
          refine ⟨fun _ => ?_, hT.2⟩
          rcases hT.1 rfl with rfl | rfl
          · exact Or.inr rfl
          · exact Or.inl rfl
        · rw [e, show a :: σ ++ σ0 = a :: (σ ++ σ0) from rfl, e]; rfl
      · rw [if_neg h12] at h
        match r, σ, hT, h with
        | true :: r', b :: σ, hT, h =>
          dsimp only at h
          have hk : x.1 = 13 ∨ x.1 = 14 := by
            split at h
            · next h1 => exact h1
            · cases h
          rw [if_pos hk] at h
          injection h with h
          subst h
          have e : ∀ σ : List Int64, evO ws x (a :: b :: σ) = opV x.1 b a :: σ := fun σ => by
            unfold evO
            rw [if_neg (by omega), if_neg (by omega), if_neg (by omega)]
          refine ⟨Or.inr (Or.inr (Or.inr ⟨by omega, by show 2 ≤ σ.length + 1 + 1; omega, hx⟩)), ?_, fun σ0 => ?_⟩
          · rw [e]
            refine ⟨fun _ => ?_, hT.2.2⟩
            rcases hk with hk | hk
            · rw [hk]
              rcases hT.1 rfl with rfl | rfl <;> rcases hT.2.1 rfl with rfl | rfl
              · exact Or.inl (by decide)
              · exact Or.inl (by decide)
              · exact Or.inl (by decide)
              · exact Or.inr (by decide)
            · rw [hk]
              rcases hT.1 rfl with rfl | rfl <;> rcases hT.2.1 rfl with rfl | rfl
              · exact Or.inl (by decide)
              · exact Or.inr (by decide)
              · exact Or.inr (by decide)
              · exact Or.inr (by decide)
          · rw [e, show a :: b :: σ ++ σ0 = a :: b :: (σ ++ σ0) from rfl, e]; rfl
        | true :: r', [], hT, h => exact absurd hT.2 (fun x => x)
        | false :: r', _, _, h => cases h
        | [], _, _, h => cases h
    | false :: false :: r, [], hT, h => exact absurd hT (fun x => x)
    | false :: false :: r, [b], hT, h => exact absurd hT.2 (fun x => x)
    | true :: r, [], hT, h => exact absurd hT (fun x => x)
    | false :: true :: r, _, _, h => cases h
    | [false], _, _, h => cases h
    | [], _, _, h => cases h
theorem evO_l {x : ZQo} {σ : List Int64} : (evO ws x σ).length ≤ σ.length + (if x.1 ≤ 1 then 1 else 0) := by
  unfold evO
  split
  · rw [if_pos (by omega)]; exact Nat.le_refl _
  · split
    · rw [if_pos (by omega)]; exact Nat.le_refl _
    · split
      · rw [if_neg (by omega)]; cases σ <;> exact Nat.le_refl _
      · rw [if_neg (by omega)]
        match σ with
        | [] => exact Nat.le_refl _
        | [a] => exact Nat.le_refl _
        | b :: a :: r => show r.length + 1 ≤ r.length + 1 + 1 + 0; omega
theorem evS_l {l : List ZQo} {σ : List Int64} : (evS ws l σ).length ≤ σ.length + np l := by
  induction l with
  | nil => exact Nat.le_refl _
  | cons x l ih =>
    show (evO ws x (evS ws l σ)).length ≤ σ.length + (np l + (if x.1 ≤ 1 then 1 else 0))
    have := evO_l (ws := ws) (x := x) (σ := evS ws l σ)
    omega
/-- typed lists run well -/
theorem ty_s : ∀ {l : List ZQo} {τ τ' : List Bool} {σ : List Int64}, ty l τ = some τ' → TS τ σ → σ.length + np l < 64 → (∀ x, x ∈ l → x.2 < 100000) → okE ws l σ ∧ TS τ' (evS ws l σ) ∧ ∀ σ0, evS ws l (σ ++ σ0) = evS ws l σ ++ σ0 := by
  intro l
  induction l with
  | nil => intro τ τ' σ h hT _ _; injection h with h; rw [← h]; exact ⟨trivial, hT, fun _ => rfl⟩
  | cons x l ih =>
    intro τ τ' σ h hT hl hb
    have h' : (ty l τ).bind (tyO x) = some τ' := h
    have hl' : σ.length + (np l + (if x.1 ≤ 1 then 1 else 0)) < 64 := hl
    cases h1 : ty l τ with
    | none => rw [h1] at h'; cases h'
    | some τ1 =>
      rw [h1] at h'
      obtain ⟨i1, i2, i3⟩ := ih (σ := σ) h1 hT (by omega) (fun y hy => hb y (List.mem_cons_of_mem _ hy))
      have le := evS_l (ws := ws) (l := l) (σ := σ)
      obtain ⟨j1, j2, j3⟩ := tyO_s (ws := ws) h' i2 (by omega) (hb x (List.mem_cons_self ..))
      refine ⟨⟨i1, j1⟩, j2, fun σ0 => ?_⟩
      show evO ws x (evS ws l (σ ++ σ0)) = evO ws x (evS ws l σ) ++ σ0
      rw [i3, j3]
theorem evS_app {l l2 : List ZQo} {σ : List Int64} : evS ws (l ++ l2) σ = evS ws l (evS ws l2 σ) := by
  induction l with
  | nil => rfl
  | cons x l ih => show evO ws x (evS ws (l ++ l2) σ) = evO ws x (evS ws l (evS ws l2 σ)); rw [ih]
theorem okE_app {l l2 : List ZQo} {σ : List Int64} (h : okE ws l2 σ) (h2 : okE ws l (evS ws l2 σ)) : okE ws (l ++ l2) σ := by
  induction l with
  | nil => exact h
  | cons x l ih => exact ⟨ih h2.1, by show okX x (evS ws (l ++ l2) σ); rw [evS_app]; exact h2.2⟩
theorem okX_15 {x : ZQo} {σ : List Int64} (h : okX x σ) : ¬ x.1 = 15 := by
  rcases h with h | h | h | h <;> omega
theorem okX_l {x : ZQo} {σ : List Int64} (h : okX x σ) : x.2 < 100000 := by
  rcases h with h | h | h | h
  · exact h.2.1
  · have := h.2.1; omega
  · exact h.2.2
  · exact h.2.2
theorem cvR_r {x : ZQo} {l : List ZQo} {σ : List Int64} (h : cvR ws l = .inr σ) : cvR ws (x :: l) = if x.1 = 15 then enE σ else .inr (evO ws x σ) := by simp only [cvR, h]
theorem cvR_l {x : ZQo} {l : List ZQo} {v : Int64} (h : cvR ws l = .inl v) : cvR ws (x :: l) = .inl v := by simp only [cvR, h]
/-- a clause behind others, on an empty heap -/
theorem cv_r {T : List ZQo} (hT : cvR ws T = .inr []) (hS : okS ws T) : ∀ {l : List ZQo}, okE ws l [] → np l ≤ 60 → cvR ws (l ++ T) = .inr (evS ws l []) ∧ okS ws (l ++ T) := by
  intro l
  induction l with
  | nil => intro _ _; exact ⟨hT, hS⟩
  | cons x l ih =>
    intro h hn
    have hn' : np l + (if x.1 ≤ 1 then 1 else 0) ≤ 60 := hn
    obtain ⟨i1, i2⟩ := ih h.1 (by omega)
    have le := evS_l (ws := ws) (l := l) (σ := [])
    have e0 : ([] : List Int64).length = 0 := rfl
    refine ⟨?_, i2, fun σ hσ => ?_⟩
    · rw [show x :: l ++ T = x :: (l ++ T) from rfl, cvR_r i1, if_neg (okX_15 h.2)]; rfl
    · have hσ' : cvR ws (l ++ T) = .inr σ := hσ
      rw [i1] at hσ'
      clear hσ
      have hσ := hσ'
      injection hσ with hσ
      rw [← hσ]
      exact ⟨by omega, Or.inr h.2⟩
theorem cv_l {T : List ZQo} {v : Int64} (hT : cvR ws T = .inl v) (hS : okS ws T) : ∀ (l : List ZQo), cvR ws (l ++ T) = .inl v ∧ okS ws (l ++ T) := by
  intro l
  induction l with
  | nil => exact ⟨hT, hS⟩
  | cons x l ih =>
    refine ⟨?_, ih.2, fun σ hσ => ?_⟩
    · exact cvR_l ih.1
    · have hσ' : cvR ws (l ++ T) = .inr σ := hσ
      rw [ih.1] at hσ'; cases hσ'
end SE
