/-! game. -/
def oI : Option Nat → Int32
  | none => -1
  | some a => nI a
def chg (e : Bool) (m : Option Nat) (v : Nat) : Bool := match m with
  | none => true
  | some a => bif e then decide (a < v) else decide (v < a)
def gB (e : Bool) (m : Option Nat) (v : Nat) : Option Nat := if chg e m v = true then some v else m
section GA
variable (u : Nat → Nat) (Q b : Nat)
def gCnt (e : Bool) : Nat := bif e then Q else 1
def gOp (e : Bool) (t d : Nat) : Nat := bif e then bz u t d else if d = 1 then t else t - 5
def gmN : Nat → Bool → Nat → Nat
  | 0, _, t => t
  | l + 1, e, t => if b ≤ t then t else (itr (gCnt Q e + 1) (fun d m => gB e m (gmN l (!e) (gOp u e t d))) none).getD 0
def gP (l : Nat) (e : Bool) (t d : Nat) : Option Nat := itr d (fun i m => gB e m (gmN u Q b l (!e) (gOp u e t i))) none
def gFi (l t d : Nat) : Nat := itr d (fun i f => if chg true (gP u Q b l true t i) (gmN u Q b l false (gOp u true t i)) = true then i else f) 0
theorem gPS (l : Nat) (e : Bool) (t d : Nat) : gP u Q b l e t (d + 1) = gB e (gP u Q b l e t d) (gmN u Q b l (!e) (gOp u e t d)) := rfl
theorem gFS (l t d : Nat) : gFi u Q b l t (d + 1) = if chg true (gP u Q b l true t d) (gmN u Q b l false (gOp u true t d)) = true then d else gFi u Q b l t d := rfl
theorem gmS (l : Nat) (e : Bool) (t : Nat) : gmN u Q b (l + 1) e t = if b ≤ t then t else (gP u Q b l e t (gCnt Q e + 1)).getD 0 := rfl
theorem gOp_b {e : Bool} {t d : Nat} (ht : t ≤ 999) : gOp u e t d ≤ 999 := by
  unfold gOp
  cases e
  · show (if d = 1 then t else t - 5) ≤ 999; split <;> omega
  · exact bz_le u
theorem gP_b0 {l : Nat} {e : Bool} {t : Nat} (h : ∀ d, gmN u Q b l (!e) (gOp u e t d) ≤ 999) : ∀ d v, gP u Q b l e t d = some v → v ≤ 999 := by
  intro d
  induction d with
  | zero => intro v h; cases h
  | succ d ih =>
    intro v hv
    rw [gPS] at hv
    unfold gB at hv
    split at hv
    · injection hv with hv; rw [← hv]; exact h d
    · exact ih v hv
theorem gmN_b : ∀ (l : Nat) (e : Bool) (t : Nat), t ≤ 999 → gmN u Q b l e t ≤ 999 := by
  intro l
  induction l with
  | zero => intro e t h; exact h
  | succ l ih =>
    intro e t h
    rw [gmS]
    split
    · exact h
    · cases hp : gP u Q b l e t (gCnt Q e + 1) with
      | none => exact Nat.zero_le _
      | some v => exact gP_b0 u Q b (fun d => ih _ _ (gOp_b u h)) _ v hp
theorem gP_b {l : Nat} {e : Bool} {t : Nat} (ht : t ≤ 999) : ∀ d v, gP u Q b l e t d = some v → v ≤ 999 := gP_b0 u Q b (fun d => gmN_b u Q b l _ _ (gOp_b u ht))
theorem gP_s (l : Nat) (e : Bool) (t d : Nat) : ∃ v, gP u Q b l e t (d + 1) = some v := by
  rw [gPS]
  unfold gB
  split
  · exact ⟨_, rfl⟩
  · next h =>
    cases hp : gP u Q b l e t d with
    | none => rw [hp] at h; exact absurd rfl h
    | some v => exact ⟨v, rfl⟩
end GA
theorem oI_lt {m : Option Nat} {v : Nat} (hm : ∀ a, m = some a → a ≤ 999) (hv : v ≤ 999) : (oI m < nI v) = (chg true m v = true) := by
  cases m with
  | none => exact propext ⟨fun _ => rfl, fun _ => m1lt v (by omega)⟩
  | some a =>
    have := hm a rfl
    show (nI a < nI v) = (decide (a < v) = true)
    rw [decide_eq_true_eq]
    exact propext (nI_ltI (by omega) (by omega))
theorem oI_gB {m : Option Nat} {v : Nat} (hm : ∀ a, m = some a → a ≤ 999) (hv : v ≤ 999) : (if oI m < nI v then nI v else oI m) = oI (gB true m v) := by
  unfold gB
  by_cases h : chg true m v = true
  · rw [if_pos h, if_pos (by rw [oI_lt hm hv]; exact h)]; rfl
  · rw [if_neg h, if_neg (by rw [oI_lt hm hv]; exact h)]
section GC
variable {P Q k pat : Nat} {C : Nat → Int32} {u : Nat → Nat} {s : ZS}
theorem c_aft {t d : Nat} (hc : cC P Q C s) (hk5 : k < 5) (hd : d ≤ Q) (hu : ∀ j, j < Q → wgt C k j = nI (u j) ∧ u j ≤ 29) (hQ3 : u Q = 3) (ht : t ≤ 999) : f_Hand_afterDeed (nI k) (nI t) (nI d) s = some (nI (bz u t d), s) := by
  have hQ := hc.2.1
  have e4 : s.1 4 4 = nI Q := hc.2.2.2.1
  unfold f_Hand_afterDeed
  simp only [zgi, e4]
  by_cases h : Q ≤ d
  · have e : d = Q := by omega
    subst e
    rw [if_pos (by rw [nI_leI (by omega) (by omega)]; exact h), show (3 : Int32) = nI (u d) by rw [hQ3]; rfl, bz_lt ht (by omega)]
  · rw [if_neg (by rw [nI_leI (by omega) (by omega)]; exact h)]
    unfold f_Hand_raised
    rw [cWeight hc hk5 (by omega), zcl_s, (hu d (by omega)).1, bz_lt ht (hu d (by omega)).2, zcl_s]
theorem t5 {t : Nat} (ht : t ≤ 999) : (if (0 : Int32) < nI t - 5 then nI t - 5 else 0) = nI (t - 5) := by
  by_cases h : 5 < t
  · rw [show (5 : Int32) = nI 5 from rfl, nI_sub (by omega), if_pos (by rw [nI_0lt (by omega)]; omega)]
  · rw [if_neg ((show ∀ t, t < 6 → ¬ (0 : Int32) < nI t - 5 by decide) t (by omega)), show t - 5 = 0 by omega]; rfl
theorem c_bb (hc : cC P Q C s) (hk : k < P) (hk5 : k < 5) (hu : ∀ j, j < Q → wgt C k j = nI (u j) ∧ u j ≤ 29) (hQ3 : u Q = 3) (hpt : s.1 6 k = nI pat) (hp9 : pat ≤ 99) : ∀ (l f : Nat) (c : Bool) (t : Nat), l ≤ 3 → l < f → t ≤ 999 → f_bb f c (nI k) (nI t) (nI l) s = some (nI (gmN u Q pat l (!c) t), s) := by
  have hQ := hc.2.1
  have e4 : s.1 4 4 = nI Q := hc.2.2.2.1
  have over : ∀ l t : Nat, l + 1 ≤ 3 → t ≤ 999 → f_Hand_isOver (nI k) (nI t) (nI (l + 1)) s = some (if pat ≤ t then 1 else 0, s) := by
    intro l t hl ht
    have a1 : ¬ nI (l + 1) ≤ 0 := by rw [nI_le0 (by omega)]; omega
    have a2 : ¬ (4 : Int32) ≤ nI (l + 1) := by rw [show (4 : Int32) = nI 4 from rfl, nI_leI (by omega) (by omega)]; omega
    unfold f_Hand_isOver
    simp (disch := omega) only [a1, a2, ↓reduceIte, zrd_n, hpt, nI_ltI, zbl_0, zbl_1]
    by_cases h : t < pat
    · rw [if_pos h, if_neg (by omega)]
    · rw [if_neg h, if_pos (by omega)]
  have over0 : ∀ t : Nat, f_Hand_isOver (nI k) (nI t) (nI 0) s = some (1, s) := by
    intro t
    unfold f_Hand_isOver
    rw [if_pos (by decide), zbl_1]
  intro l
  induction l with
  | zero =>
    intro f c t _ hf ht
    obtain ⟨f, rfl⟩ : ∃ g, f = g + 1 := ⟨f - 1, by omega⟩
    cases c
    · show f_Hand_behindPairS _ _ _ _ _ = _
      unfold f_Hand_behindPairS
      rw [over0, zcl_s, if_neg (show ¬ (1 : Int32) = 0 by decide)]; rfl
    · show f_Hand_behindSmithS _ _ _ _ _ = _
      unfold f_Hand_behindSmithS
      rw [over0, zcl_s, if_neg (show ¬ (1 : Int32) = 0 by decide)]; rfl
  | succ l ih =>
    intro f c t hl hf ht
    obtain ⟨f, rfl⟩ : ∃ g, f = g + 1 := ⟨f - 1, by omega⟩
    rw [gmS]
    cases c
    · show f_Hand_behindPairS (f_bb f true) _ _ _ _ = _
      unfold f_Hand_behindPairS
      rw [over l t hl ht, zcl_s]
      by_cases hp : pat ≤ t
      · simp only [hp, ↓reduceIte, i10]
      · simp only [hp, ↓reduceIte]
        have key : rt (zlp zN (f_Hand_behindPairS_B18 (f_bb f true) (nI k) (nI t) (nI (l + 1))) (-1, 0) s) (fun w => w = (oI (gP u Q pat l true t (Q + 1)), s)) := by
          refine lp_rt (Q + 1) (fun d a s1 => s1 = s ∧ a = (oI (gP u Q pat l true t d), nI d)) (by omega) ⟨rfl, rfl⟩ ?_ ?_
          · rintro d a s1 g hd ⟨rfl, rfl⟩
            left
            have hnd : ¬ Q < d := by omega
            refine ⟨(oI (gP u Q pat l true t (d + 1)), nI (d + 1)), s1, ?_, rfl, rfl⟩
            unfold f_Hand_behindPairS_B18
            simp (disch := omega) only [zgi, e4, nI_ltI, hnd, ↓reduceIte, c_aft hc hk5 (show d ≤ Q by omega) hu hQ3 ht, zcl_s, nI_pred, ih f true (bz u t d) (by omega) (by omega) (bz_le u), nI_1]
            rw [gPS, ← oI_gB (gP_b u Q pat ht d) (gmN_b u Q pat l _ _ (gOp_b u ht))]
            rfl
          · rintro a s1 g ⟨rfl, rfl⟩
            have hnd : Q < Q + 1 := by omega
            unfold f_Hand_behindPairS_B18
            simp (disch := omega) only [zgi, e4, nI_ltI, hnd, ↓reduceIte]
            exact rt_s rfl
        obtain ⟨w, k1, rfl⟩ := key
        obtain ⟨v, hv⟩ := gP_s u Q pat l true t Q
        rw [k1, hv]
        show _ = some (nI ((gP u Q pat l true t (Q + 1)).getD 0), s)
        rw [hv]; rfl
    · show f_Hand_behindSmithS (f_bb f false) _ _ _ _ = _
      unfold f_Hand_behindSmithS
      rw [over l t hl ht, zcl_s]
      by_cases hp : pat ≤ t
      · simp only [hp, ↓reduceIte, i10]
      · simp only [hp, ↓reduceIte, t5 ht, nI_pred]
        rw [ih f false (t - 5) (by omega) (by omega) (by omega), zcl_s]
        dsimp only
        rw [ih f false t (by omega) (by omega) ht, zcl_s]
        dsimp only
        have b1 := gmN_b u Q pat l true (t - 5) (by omega)
        have b2 := gmN_b u Q pat l true t ht
        show some ((if nI (gmN u Q pat l true t) < nI (gmN u Q pat l true (t - 5)) then nI (gmN u Q pat l true t) else nI (gmN u Q pat l true (t - 5))), s) = some (nI ((gB false (some (gmN u Q pat l true (t - 5))) (gmN u Q pat l true t)).getD 0), s)
        unfold gB
        show _ = some (nI ((if decide (gmN u Q pat l true t < gmN u Q pat l true (t - 5)) = true then some (gmN u Q pat l true t) else some (gmN u Q pat l true (t - 5))).getD 0), s)
        by_cases hlt : gmN u Q pat l true t < gmN u Q pat l true (t - 5)
        · rw [if_pos (by rw [nI_ltI (by omega) (by omega)]; exact hlt), if_pos (by rw [decide_eq_true_eq]; exact hlt)]; rfl
        · rw [if_neg (by rw [nI_ltI (by omega) (by omega)]; exact hlt), if_neg (by rw [decide_eq_true_eq]; exact hlt)]; rfl
theorem c_game {n t0 : Nat} (w0 : Int32) (hc : cC P Q C s) (hk : k < P) (hk5 : k < 5) (hu : ∀ j, j < Q → wgt C k j = nI (u j) ∧ u j ≤ 29) (hQ3 : u Q = 3) (hpt : s.1 6 k = nI pat) (hp9 : pat ≤ 99) (hn : n < 4) (ht : t0 ≤ 999) (hT : s.1 11 k = nI t0) : rt (f_Hand_gaming (nI k) (nI (n + 1)) w0 s) (fun w => w = (if w0 = 0 then oI (gP u Q pat n true t0 (Q + 1)) else nI (gFi u Q pat n t0 (Q + 1)), s)) := by
  have hQ := hc.2.1
  have e4 : s.1 4 4 = nI Q := hc.2.2.2.1
  unfold f_Hand_gaming
  simp only [zjn]
  refine lp_rt (Q + 1) (fun d a s1 => s1 = s ∧ a.1 = oI (gP u Q pat n true t0 d) ∧ (0 < d → a.2.1 = nI (gFi u Q pat n t0 d)) ∧ a.2.2 = nI d) (by omega) ⟨rfl, rfl, fun h => by omega, rfl⟩ ?_ ?_
  · rintro d ⟨x1, x2, x3⟩ s1 g hd ⟨rfl, e1, e2, e3⟩
    left
    dsimp only at e1 e2 e3
    subst e1 e3
    have hnd : ¬ Q < d := by omega
    have r := c_bb hc hk hk5 hu hQ3 hpt hp9 n 8 true (bz u t0 d) (by omega) (by omega) (bz_le u)
    have b1 := gP_b u Q pat (l := n) (e := true) ht d
    have b2 : gmN u Q pat n false (bz u t0 d) ≤ 999 := gmN_b u Q pat n false (bz u t0 d) (bz_le u)
    have lt := oI_lt b1 b2
    unfold f_Hand_gaming_B9 f_Hand_behindSmith
    simp (disch := omega) only [zgi, e4, nI_ltI, hnd, ↓reduceIte, zrd_n, hT, c_aft hc hk5 (show d ≤ Q by omega) hu hQ3 ht, zcl_s, nI_pred, r, Bool.not_true, zjn, nI_1]
    by_cases h : chg true (gP u Q pat n true t0 d) (gmN u Q pat n false (bz u t0 d)) = true
    · have h1 : ¬ nI (gmN u Q pat n false (bz u t0 d)) ≤ oI (gP u Q pat n true t0 d) := Int32.not_le.mpr (by rw [lt]; exact h)
      simp only [h1, ↓reduceIte]
      refine ⟨_, _, rfl, rfl, ?_, fun _ => ?_, rfl⟩
      · rw [gPS]; unfold gB
        show _ = oI (if chg true (gP u Q pat n true t0 d) (gmN u Q pat n false (bz u t0 d)) = true then _ else _)
        rw [if_pos h]; rfl
      · rw [gFS]
        show _ = nI (if chg true (gP u Q pat n true t0 d) (gmN u Q pat n false (bz u t0 d)) = true then _ else _)
        rw [if_pos h]
    · have h1 : nI (gmN u Q pat n false (bz u t0 d)) ≤ oI (gP u Q pat n true t0 d) := Int32.not_lt.mp (by rw [lt]; exact h)
      simp only [h1, ↓reduceIte]
      refine ⟨_, _, rfl, rfl, ?_, fun _ => ?_, rfl⟩
      · rw [gPS]; unfold gB
        show _ = oI (if chg true (gP u Q pat n true t0 d) (gmN u Q pat n false (bz u t0 d)) = true then _ else _)
        rw [if_neg h]
      · rw [gFS]
        show _ = nI (if chg true (gP u Q pat n true t0 d) (gmN u Q pat n false (bz u t0 d)) = true then _ else _)
        rw [if_neg h]
        refine e2 ?_
        rcases Nat.eq_zero_or_pos d with h0 | h0
        · rw [h0] at h; exact absurd rfl h
        · exact h0
  · rintro ⟨x1, x2, x3⟩ s1 g ⟨rfl, e1, e2, e3⟩
    dsimp only at e1 e2 e3
    subst e1 e3
    have hnd : Q < Q + 1 := by omega
    have e2' := e2 (by omega)
    subst e2'
    unfold f_Hand_gaming_B9
    simp (disch := omega) only [zgi, e4, nI_ltI, hnd, ↓reduceIte]
    by_cases h : w0 = 0
    · simp only [h, not_true_eq_false, ↓reduceIte]; exact rt_s rfl
    · simp only [h, not_false_eq_true, ↓reduceIte]; exact rt_s rfl
end GC
