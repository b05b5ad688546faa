/-! game, the reference. -/
def evn (k : Nat) : Bool := decide (k % 2 = 0)
theorem evnS (k : Nat) : evn (k + 1) = !evn k := by
  unfold evn
  by_cases h : k % 2 = 0
  · rw [decide_eq_true h, decide_eq_false (by omega)]; rfl
  · rw [decide_eq_false h, decide_eq_true (by omega)]; rfl
theorem par2 {k : Nat} (h : k < 5) : nI k - nI k / 2 * 2 = bif evn k then 0 else 1 := (show ∀ k, k < 5 → nI k - nI k / 2 * 2 = bif evn k then 0 else 1 by decide) k h
def wS (k v : Nat) (c : Bool) (s : ZS) : ZS := if c = true then (if k = 0 then zsI (zsI s 234 k (nI v)) 216 34 (s.1 233 0) else zsI s 234 k (nI v)) else s
theorem m_worth {k v : Nat} {m : Option Nat} {s : ZS} (hk : k < 5) (he : s.1 234 k = oI m) (hm : ∀ a, m = some a → a ≤ 999) (hv : v ≤ 999) : f_Model_isWorth (nI k) (nI v) s = some (wS k v (chg (evn k) m v) s) := by
  have tail : ∀ c : Bool, (if ¬ (if c = true then (1 : Int32) else 0) = 0 then zwa s 234 5 (nI k) (nI v) (fun s7 => if ¬ nI k = 0 then some s7 else zgi (s7.1 233 0) (fun v8 => zwi s7 216 34 v8 (fun s9 => some s9))) else some s) = some (wS k v c s) := by
    intro c
    unfold wS
    cases c
    · rfl
    · simp (disch := omega) only [↓reduceIte, i10, not_false_eq_true, zwa_n, nI_eq0]
      by_cases hk0 : k = 0
      · simp only [hk0, ↓reduceIte, not_true_eq_false, zgi, zwi]
        rfl
      · simp only [hk0, ↓reduceIte, not_false_eq_true]
  unfold f_Model_isWorth
  simp (disch := omega) only [zrd_n, zjn, zj0, he, par2 hk]
  cases m with
  | none =>
    have h0 : oI none < 0 := by decide
    rw [if_pos h0]
    exact tail true
  | some a =>
    have ha := hm a rfl
    have h0 : ¬ oI (some a) < 0 := nI_pos (by omega)
    rw [if_neg h0]
    cases hev : evn k
    · have e1 : ¬ ((bif false then (0 : Int32) else 1) = 0) := by decide
      rw [if_pos e1]
      by_cases h : v < a
      · rw [if_neg (show ¬ oI (some a) ≤ nI v from nI_ge h (by omega))]
        rw [show chg false (some a) v = true from decide_eq_true h]
        exact tail true
      · rw [if_pos (show oI (some a) ≤ nI v from nI_le (by omega) (by omega))]
        rw [show chg false (some a) v = false from decide_eq_false h]
        exact tail false
    · have e1 : ¬ ¬ ((bif true then (0 : Int32) else 1) = 0) := by decide
      rw [if_neg e1]
      by_cases h : a < v
      · rw [if_neg (show ¬ nI v ≤ oI (some a) from nI_ge h (by omega))]
        rw [show chg true (some a) v = true from decide_eq_true h]
        exact tail true
      · rw [if_pos (show nI v ≤ oI (some a) from nI_le (by omega) (by omega))]
        rw [show chg true (some a) v = false from decide_eq_false h]
        exact tail false
theorem wS_b {k v : Nat} {c : Bool} {s : ZS} {b : Nat} (hb : b ≠ 216) (hb2 : b ≠ 234) : (wS k v c s).1 b = s.1 b := by
  unfold wS
  split
  · split
    · rw [zI1, if_neg hb, zI1, if_neg hb2]
    · rw [zI1, if_neg hb2]
  · rfl
theorem wS_j {k v : Nat} {c : Bool} {s : ZS} {j : Nat} (hj : j ≠ 34) : (wS k v c s).1 216 j = s.1 216 j := by
  unfold wS
  split
  · split
    · rw [zI1, if_pos rfl, updE, if_neg hj, zI1, if_neg (by omega)]
    · rw [zI1, if_neg (by omega)]
  · rfl
theorem wS_i {k v : Nat} {c : Bool} {s : ZS} {i : Nat} (hi : i ≠ k) : (wS k v c s).1 234 i = s.1 234 i := by
  unfold wS
  split
  · split
    · rw [zI1, if_neg (by omega), zI1, if_pos rfl, updE, if_neg hi]
    · rw [zI1, if_pos rfl, updE, if_neg hi]
  · rfl
theorem wS_k {k v : Nat} {e : Bool} {m : Option Nat} {s : ZS} (he : s.1 234 k = oI m) : (wS k v (chg e m v) s).1 234 k = oI (gB e m v) := by
  unfold wS gB
  split
  · split
    · rw [zI1, if_neg (by omega), zI1, if_pos rfl, updE, if_pos rfl]; rfl
    · rw [zI1, if_pos rfl, updE, if_pos rfl]; rfl
  · exact he
theorem wS_f {k v : Nat} {c : Bool} {s : ZS} : (wS k v c s).1 216 34 = if c = true ∧ k = 0 then s.1 233 0 else s.1 216 34 := by
  unfold wS
  by_cases h1 : c = true
  · by_cases h2 : k = 0
    · rw [if_pos h1, if_pos h2, if_pos ⟨h1, h2⟩, zI1, if_pos rfl, updE, if_pos rfl]
    · rw [if_pos h1, if_neg h2, if_neg (fun e => h2 e.2), zI1, if_neg (by omega)]
  · rw [if_neg h1, if_neg (fun e => h1 e.1)]
theorem bnU7 {k : Nat} (hk : k < 4) : bnU 7 k ≤ 457 := (show ∀ k, k < 4 → bnU 7 k ≤ 457 by decide) k hk
theorem bnT7 {n : Nat} {x : Nat → Nat} (hn : n ≤ 4) : ∀ p, p ≤ n → (∀ j, j < p → x j ≤ 7) → bnT n 7 x p ≤ 3200 * p := by
  intro p
  induction p with
  | zero => intro _ _; exact Nat.le_refl _
  | succ p ih =>
    intro hp h
    have h1 := ih (by omega) (fun j hj => h j (by omega))
    have h2 : x p * bnU 7 (n - 1 - p) ≤ 7 * 457 := Nat.mul_le_mul (by have := h p (by omega); omega) (bnU7 (by omega))
    show bnT n 7 x p + (x p * bnU 7 (n - 1 - p) + 1) ≤ _
    omega
def gF (s s1 : ZS) : Prop := (∀ b, ¬ (b = 216 ∨ 232 ≤ b ∧ b ≤ 234) → s1.1 b = s.1 b) ∧ ∀ j, j ≠ 34 → s1.1 216 j = s.1 216 j
theorem gF.rf {s : ZS} : gF s s := ⟨fun _ _ => rfl, fun _ _ => rfl⟩
theorem gF.I {s s1 : ZS} {a j : Nat} {v : Int32} (h : gF s s1) (ha : 232 ≤ a ∧ a ≤ 234) : gF s (zsI s1 a j v) := ⟨fun b hb => by rw [zI1, if_neg (by omega)]; exact h.1 b hb, fun i hi => by rw [zI1, if_neg (by omega)]; exact h.2 i hi⟩
theorem gF.w {s s1 : ZS} {k v : Nat} {c : Bool} (h : gF s s1) : gF s (wS k v c s1) := ⟨fun b hb => by rw [wS_b (by omega) (by omega)]; exact h.1 b hb, fun i hi => by rw [wS_j hi]; exact h.2 i hi⟩
section GM
variable {P Q k pat n t0 : Nat} {C : Nat → Int32} {u : Nat → Nat} {s : ZS}
theorem m_then {t d i : Nat} (hc : cM P Q C s) (hk5 : k < 5) (hi : i < 5) (hd : d ≤ gCnt Q (evn i)) (hu : ∀ j, j < Q → wgt C k j = nI (u j) ∧ u j ≤ 29) (hQ3 : u Q = 3) (ht : t ≤ 999) (h2 : s.1 232 i = nI t) (h3 : s.1 233 i = nI d) : f_Model_temperThen (nI k) (nI i) s = some (nI (gOp u (evn i) t d), s) := by
  have hQ := hc.2.1
  have e4 : s.1 226 4 = nI Q := hc.2.2.2.1
  unfold f_Model_temperThen
  simp (disch := omega) only [zrd_n, h2, h3, par2 hi]
  cases he : evn i
  · rw [he] at hd
    have hd1 : d ≤ 1 := hd
    have e1 : ¬ ((bif false then (0 : Int32) else 1) = 0) := by decide
    rw [if_pos e1]
    show _ = some (nI (if d = 1 then t else t - 5), s)
    by_cases h : d = 1
    · subst h
      rw [if_neg (by decide), if_pos rfl]
    · rw [if_neg h, if_pos (by rw [show (1 : Int32) = nI 1 from rfl, nI_inj (by omega) (by omega)]; exact h)]
      by_cases h5 : t ≤ 5
      · rw [if_pos (by rw [show (5 : Int32) = nI 5 from rfl, nI_leI (by omega) (by omega)]; exact h5), show t - 5 = 0 by omega]; rfl
      · rw [if_neg (by rw [show (5 : Int32) = nI 5 from rfl, nI_leI (by omega) (by omega)]; exact h5), show (5 : Int32) = nI 5 from rfl, nI_sub (by omega)]
  · rw [he] at hd
    have hd1 : d ≤ Q := hd
    have e1 : ¬ ¬ ((bif true then (0 : Int32) else 1) = 0) := by decide
    rw [if_neg e1]
    simp only [zgi, e4, zjn]
    show _ = some (nI (bz u t d), s)
    by_cases h : Q ≤ d
    · have e : d = Q := by omega
      subst e
      rw [if_pos (by rw [nI_leI (by omega) (by omega)]; exact h), show (3 : Int32) = nI (u d) by rw [hQ3]; rfl, m_bz ht (by omega), zcl_s]
    · rw [if_neg (by rw [nI_leI (by omega) (by omega)]; exact h), mHurts hk5 (by omega) hc, zcl_s]
      have := (hu d (by omega)).1
      unfold wgt at this
      dsimp only
      rw [this, m_bz ht (hu d (by omega)).2, zcl_s]
def gaJ (u : Nat → Nat) (Q pat n t0 : Nat) (s : ZS) (r : Nat) (a : Int32) (s1 : ZS) : Prop := gF s s1 ∧
  ((∃ (i : Nat) (τ d : Nat → Nat), i < n ∧ a = nI i ∧ τ 0 = t0 ∧ (∀ j, j ≤ i → τ j ≤ 999 ∧ s1.1 232 j = nI (τ j) ∧ d j ≤ gCnt Q (evn j) + 1 ∧ s1.1 234 j = oI (gP u Q pat (n - 1 - j) (evn j) (τ j) (d j)))
    ∧ (∀ j, j < i → s1.1 233 j = nI (d j) ∧ d j ≤ gCnt Q (evn j) ∧ τ (j + 1) = gOp u (evn j) (τ j) (d j) ∧ τ (j + 1) < pat) ∧ s1.1 233 i = nI (d i) - 1 ∧ (0 < d 0 → s1.1 216 34 = nI (gFi u Q pat (n - 1) t0 (d 0))) ∧ r = bnT n 7 d i + d i * bnU 7 (n - 1 - i))
  ∨ (a = -1 ∧ r = 20000 ∧ s1.1 234 0 = oI (gP u Q pat (n - 1) true t0 (Q + 1)) ∧ s1.1 216 34 = nI (gFi u Q pat (n - 1) t0 (Q + 1))))
theorem gCnt_b (hQ : Q ≤ 6) (e : Bool) : gCnt Q e ≤ 6 := by
  cases e
  · show 1 ≤ 6; omega
  · exact hQ
theorem m_plays (hc : cM P Q C s) (hk5 : k < 5) (hu : ∀ j, j < Q → wgt C k j = nI (u j) ∧ u j ≤ 29) (hQ3 : u Q = 3) (hpt : s.1 226 (57 + k) = nI pat) (hp9 : pat ≤ 99) (hn0 : 0 < n) (hn : n ≤ 4) (ht : t0 ≤ 999) (hT : (gM (s.1 226)).1 k = nI t0) : rt (f_Model_plays (nI k) (nI n) s) (fun w => gF s w ∧ w.1 234 0 = oI (gP u Q pat (n - 1) true t0 (Q + 1)) ∧ w.1 216 34 = nI (gFi u Q pat (n - 1) t0 (Q + 1))) := by
  have hQ := hc.2.1
  have bnd : ∀ (d : Nat → Nat) (i : Nat), i < n → (∀ j, j ≤ i → d j ≤ 7) → bnT n 7 d i + d i * bnU 7 (n - 1 - i) < 20000 := by
    intro d i hi h
    have h1 := bnT7 (x := d) hn i (by omega) (fun j hj => h j (by omega))
    have h2 : d i * bnU 7 (n - 1 - i) ≤ 7 * 457 := Nat.mul_le_mul (h i (by omega)) (bnU7 (by omega))
    omega
  have cnt7 : ∀ e, gCnt Q e + 1 ≤ 7 := fun e => by have := gCnt_b hQ e; omega
  unfold f_Model_plays
  rw [mTemper hk5, hT, zcl_s]
  dsimp only
  unfold f_Model_beginsTurn
  simp (disch := omega) only [show (0 : Int32) = nI 0 from rfl, zwa_n, zcv_s]
  rw [show nI 0 = (0 : Int32) from rfl]
  refine lp_rank (n := 20000) (r0 := 0) (gaJ u Q pat n t0 s) (fun o => rt o (fun (w : ZS) => gF s w ∧ w.1 234 0 = oI (gP u Q pat (n - 1) true t0 (Q + 1)) ∧ w.1 216 34 = nI (gFi u Q pat (n - 1) t0 (Q + 1)))) (by omega) ?_ ?_ ?_
  · refine ⟨((gF.rf.I (by omega)).I (by omega)).I (by omega), Or.inl ⟨0, fun _ => t0, fun _ => 0, hn0, rfl, rfl, fun j hj => ?_, fun j hj => by omega, ?_, fun h => absurd h (Nat.lt_irrefl 0), ?_⟩⟩
    · have hj0 : j = 0 := by omega
      subst hj0
      refine ⟨ht, ?_, Nat.zero_le _, ?_⟩
      · rw [zI1, if_neg (by omega), zI1, if_neg (by omega), zI1, if_pos rfl, updE, if_pos rfl]
      · rw [zI1, if_pos rfl, updE, if_pos rfl]; rfl
    · rw [zI1, if_neg (by omega), zI1, if_pos rfl, updE, if_pos rfl]; rfl
    · show 0 = 0 + 0 * _; omega
  · rintro r a s1 ⟨F, ⟨i, τ, d, hi, _, _, h4, h5, _, _, rfl⟩ | ⟨_, rfl, _⟩⟩
    · exact Nat.le_of_lt (bnd d i hi (fun j hj => Nat.le_trans (h4 j hj).2.2.1 (cnt7 _)))
    · exact Nat.le_refl _
  · rintro r a s1 g ⟨F, ⟨i, τ, d, hi, rfl, hτ, h4, h5, h6, h7, rfl⟩ | ⟨rfl, rfl, e1, e2⟩⟩
    · left
      have e226 : s1.1 226 = s.1 226 := F.1 226 (by omega)
      obtain ⟨t1, t2, t3, t4⟩ := h4 i (Nat.le_refl _)
      have hb := bnd d i hi (fun j hj => Nat.le_trans (h4 j hj).2.2.1 (cnt7 _))
      have hd7 : d i ≤ 7 := Nat.le_trans t3 (cnt7 _)
      have hcn := gCnt_b hQ (evn i)
      generalize hs2 : zsI s1 233 i (nI (d i)) = s2
      have F2 : gF s s2 := by rw [← hs2]; exact F.I (by omega)
      have c2 : s2.1 226 = s.1 226 := F2.1 226 (by omega)
      have hc2 : cM P Q C s2 := by unfold cM; rw [c2]; exact hc
      have r233 : s2.1 233 i = nI (d i) := by rw [← hs2, zI1, if_pos rfl, updE, if_pos rfl]
      have o233 : ∀ j, j ≠ i → s2.1 233 j = s1.1 233 j := fun j hj => by rw [← hs2, zI1, if_pos rfl, updE, if_neg hj]
      have o2 : ∀ b, b ≠ 233 → s2.1 b = s1.1 b := fun b hb => by rw [← hs2, zI1, if_neg hb]
      have e4 : s2.1 226 4 = nI Q := hc2.2.2.2.1
      have hcnt : ∀ K : Int32 → ZS → Option ZS, zjn K (fun k14 => if ¬ (bif evn i then (0 : Int32) else 1) = 0 then k14 1 s2 else zgi (s2.1 226 4) (fun v29 => k14 v29 s2)) = K (nI (gCnt Q (evn i))) s2 := by
        intro K
        unfold zjn
        dsimp only
        cases evn i
        · rw [if_pos (by decide)]; rfl
        · rw [if_neg (by decide), e4]; rfl
      unfold f_Model_plays_B12
      simp (disch := omega) only [nI_lt0, ↓reduceIte, zrd_n, h6, Int32.sub_add_cancel, zwa_n, hs2, r233, par2 (show i < 5 by omega)]
      rw [hcnt]
      by_cases hle : d i ≤ gCnt Q (evn i)
      · rw [if_pos (show nI (d i) ≤ nI (gCnt Q (evn i)) from nI_le hle (by omega))]
        rw [m_then hc2 hk5 (by omega) hle hu hQ3 t1 (by rw [o2 232 (by omega)]; exact t2) r233, zcl_s]
        dsimp only
        have tb := gOp_b u (e := evn i) (d := d i) t1
        generalize hth : gOp u (evn i) (τ i) (d i) = th at tb
        have hwr := m_worth (k := i) (v := th) (s := s2) (by omega) (by rw [o2 234 (by omega)]; exact t4) (gP_b u Q pat t1 (d i)) tb
        -- it is over there, or the last turn
        have over : (n - 1 - i = 0 ∨ pat ≤ th) → ∃ a' s' r', zcv (f_Model_isWorth (nI i) (nI th) s2) (fun s22 => g (nI i) s22) = g a' s' ∧ bnT n 7 d i + d i * bnU 7 (n - 1 - i) < r' ∧ gaJ u Q pat n t0 s r' a' s' := by
          intro ho
          have hv : gmN u Q pat (n - 1 - i) (!evn i) th = th := by
            rcases ho with ho | ho
            · rw [ho]; rfl
            · cases hl : n - 1 - i with
              | zero => rfl
              | succ l => rw [gmS, if_pos ho]
          rw [hwr, zcv_s]
          have hps : gP u Q pat (n - 1 - i) (evn i) (τ i) (d i + 1) = gB (evn i) (gP u Q pat (n - 1 - i) (evn i) (τ i) (d i)) th := by rw [gPS, hth, hv]
          refine ⟨_, _, bnT n 7 (upN d i (d i + 1)) i + (d i + 1) * bnU 7 (n - 1 - i), rfl, ?_, F2.w, Or.inl ⟨i, τ, upN d i (d i + 1), hi, rfl, hτ, fun j hj => ?_, fun j hj => ?_, ?_, ?_, ?_⟩⟩
          · rw [bnT_c (y := d) i (fun j hj => upN_o (by omega)), Nat.add_mul]
            have := bnU_p 7 (n - 1 - i); omega
          · by_cases ej : j = i
            · subst ej
              refine ⟨t1, ?_, by rw [upN_s]; omega, ?_⟩
              · rw [wS_b (by omega) (by omega), o2 232 (by omega)]; exact t2
              · rw [upN_s, hps]; exact wS_k (by rw [o2 234 (by omega)]; exact t4)
            · obtain ⟨q1, q2, q3, q4⟩ := h4 j hj
              refine ⟨q1, ?_, by rw [upN_o ej]; exact q3, ?_⟩
              · rw [wS_b (by omega) (by omega), o2 232 (by omega)]; exact q2
              · rw [upN_o ej, wS_i ej, o2 234 (by omega)]; exact q4
          · obtain ⟨q1, q2, q3, q4⟩ := h5 j hj
            rw [upN_o (by omega)]
            exact ⟨by rw [wS_b (by omega) (by omega), o233 j (by omega)]; exact q1, q2, q3, q4⟩
          · rw [upN_s, wS_b (by omega) (by omega), r233, nI_sub1 _ (by omega)]; rfl
          · intro h0
            rw [wS_f]
            by_cases hi0 : i = 0
            · subst hi0
              rw [upN_s, gFS, r233]
              have hev : evn 0 = true := rfl
              rw [hev] at hth hv
              have hcc : chg true (gP u Q pat (n - 1) true t0 (d 0)) (gmN u Q pat (n - 1) false (gOp u true t0 (d 0))) = chg (evn 0) (gP u Q pat (n - 1 - 0) (evn 0) (τ 0) (d 0)) th := by
                rw [← hτ, hth]
                rw [show gmN u Q pat (n - 1) false th = th from hv]; rfl
              rw [hcc]
              by_cases hch : chg (evn 0) (gP u Q pat (n - 1 - 0) (evn 0) (τ 0) (d 0)) th = true
              · rw [if_pos ⟨hch, rfl⟩, if_pos hch]
              · rw [if_neg (fun e => hch e.1), if_neg hch, o2 216 (by omega)]
                refine h7 ?_
                rcases Nat.eq_zero_or_pos (d 0) with hd0 | hd0
                · rw [hd0] at hch; exact absurd rfl hch
                · exact hd0
            · rw [if_neg (fun e => hi0 e.2), o2 216 (by omega), upN_o (by omega)]
              rw [upN_o (by omega)] at h0
              exact h7 h0
          · rw [upN_s]
        by_cases hl : i + 1 = n
        · have e1 : nI i + 1 = nI n := by rw [nI_1, hl]
          simp only [zjn, zj0, e1, ↓reduceIte]
          exact over (Or.inl (by omega))
        · have e1 : ¬ nI i + 1 = nI n := by rw [nI_1, nI_inj (by omega) (by omega)]; exact hl
          have ep : s2.1 226 (57 + k) = nI pat := by rw [c2]; exact hpt
          simp (disch := omega) only [zjn, zj0, e1, ↓reduceIte, show (57 : Int32) = nI 57 from rfl, nI_add, zrd_n, ep, nI_ltI]
          by_cases hpl : th < pat
          · simp (disch := omega) only [hpl, ↓reduceIte, f_Model_beginsTurn, nI_1, zwa_n, zcv_s]
            refine ⟨_, _, bnT n 7 (upN d (i + 1) 0) (i + 1) + 0 * bnU 7 (n - 1 - (i + 1)), rfl, ?_, ((F2.I (by omega)).I (by omega)).I (by omega), Or.inl ⟨i + 1, upN τ (i + 1) th, upN d (i + 1) 0, by omega, rfl, by rw [upN_o (by omega)]; exact hτ, fun j hj => ?_, fun j hj => ?_, ?_, ?_, by rw [upN_s]⟩⟩
            · rw [bnT_c (y := d) (i + 1) (fun j hj => upN_o (by omega))]
              show _ < bnT n 7 d i + (d i * bnU 7 (n - 1 - i) + 1) + _
              omega
            · by_cases ej : j = i + 1
              · subst ej
                refine ⟨by rw [upN_s]; exact tb, ?_, by rw [upN_s]; omega, ?_⟩
                · rw [upN_s, zI1, if_neg (by omega), zI1, if_neg (by omega), zI1, if_pos rfl, updE, if_pos rfl]
                · rw [upN_s, upN_s, zI1, if_pos rfl, updE, if_pos rfl]; rfl
              · obtain ⟨q1, q2, q3, q4⟩ := h4 j (by omega)
                rw [upN_o ej, upN_o ej]
                refine ⟨q1, ?_, q3, ?_⟩
                · rw [zI1, if_neg (by omega), zI1, if_neg (by omega), zI1, if_pos rfl, updE, if_neg ej, o2 232 (by omega)]; exact q2
                · rw [zI1, if_pos rfl, updE, if_neg ej, zI1, if_neg (by omega), zI1, if_neg (by omega), o2 234 (by omega)]; exact q4
            · by_cases ej : j = i
              · subst ej
                rw [upN_o (by omega), upN_s, upN_o (by omega)]
                refine ⟨?_, hle, hth.symm, hpl⟩
                rw [zI1, if_neg (by omega), zI1, if_pos rfl, updE, if_neg (by omega), zI1, if_neg (by omega)]; exact r233
              · obtain ⟨q1, q2, q3, q4⟩ := h5 j (by omega)
                rw [upN_o (by omega), upN_o (by omega), upN_o (by omega)]
                refine ⟨?_, q2, q3, q4⟩
                rw [zI1, if_neg (by omega), zI1, if_pos rfl, updE, if_neg (by omega), zI1, if_neg (by omega), o233 j ej]; exact q1
            · rw [upN_s, zI1, if_neg (by omega), zI1, if_pos rfl, updE, if_pos rfl]; rfl
            · intro h0
              rw [upN_o (by omega)] at h0 ⊢
              rw [zI1, if_neg (by omega), zI1, if_neg (by omega), zI1, if_neg (by omega), o2 216 (by omega)]
              exact h7 h0
          · simp only [hpl, ↓reduceIte]
            exact over (Or.inr (by omega))
      · rw [if_neg (show ¬ nI (d i) ≤ nI (gCnt Q (evn i)) from nI_ge (by omega) (by omega))]
        have hde : d i = gCnt Q (evn i) + 1 := by omega
        by_cases hi0 : i = 0
        · subst hi0
          simp (disch := omega) only [zj0, nI_le0, ↓reduceIte]
          refine ⟨-1, s2, 20000, ?_, hb, F2, Or.inr ⟨rfl, rfl, ?_, ?_⟩⟩
          · rw [show nI 0 + (-1 : Int32) = -1 by decide]
          · have hev : evn 0 = true := rfl
            rw [hev] at t4 hde
            rw [o2 234 (by omega), t4, hde, hτ]; rfl
          · have hev : evn 0 = true := rfl
            rw [hev] at hde
            rw [o2 216 (by omega), h7 (by omega), hde]; rfl
        · obtain ⟨j, rfl⟩ : ∃ j, i = j + 1 := ⟨i - 1, by omega⟩
          obtain ⟨q1, q2, q3, q4⟩ := h5 j (by omega)
          obtain ⟨p1, p2, p3, p4⟩ := h4 j (by omega)
          have hl0 : ¬ nI (j + 1) ≤ 0 := by rw [nI_le0 (by omega)]; omega
          obtain ⟨v, hv⟩ := gP_s u Q pat (n - 1 - (j + 1)) (evn (j + 1)) (τ (j + 1)) (gCnt Q (evn (j + 1)))
          have hv9 := gP_b u Q pat t1 _ v hv
          have hval : gmN u Q pat (n - 1 - j) (!evn j) (gOp u (evn j) (τ j) (d j)) = v := by
            rw [← q3, show n - 1 - j = (n - 1 - (j + 1)) + 1 by omega, gmS, if_neg (by omega), ← evnS, hv]; rfl
          have r234 : s2.1 234 (j + 1) = nI v := by rw [o2 234 (by omega), t4, hde, hv]; rfl
          have hwr := m_worth (k := j) (v := v) (s := s2) (by omega) (by rw [o2 234 (by omega)]; exact p4) (gP_b u Q pat p1 (d j)) hv9
          have em : nI (j + 1) + (-1 : Int32) = nI j := nI_m1 (by omega)
          simp (disch := omega) only [zj0, hl0, ↓reduceIte, zrd_n, r234, nI_pred, hwr, zcv_s, em]
          have hps : gP u Q pat (n - 1 - j) (evn j) (τ j) (d j + 1) = gB (evn j) (gP u Q pat (n - 1 - j) (evn j) (τ j) (d j)) v := by rw [gPS, hval]
          refine ⟨_, _, bnT n 7 (upN d j (d j + 1)) j + (d j + 1) * bnU 7 (n - 1 - j), rfl, ?_, F2.w, Or.inl ⟨j, τ, upN d j (d j + 1), by omega, rfl, hτ, fun i hi => ?_, fun i hi => ?_, ?_, ?_, by rw [upN_s]⟩⟩
          · rw [bnT_c (y := d) j (fun i hi => upN_o (by omega))]
            have e1 : n - 1 - j = (n - 1 - (j + 1)) + 1 := by omega
            show bnT n 7 d j + (d j * bnU 7 (n - 1 - j) + 1) + d (j + 1) * bnU 7 (n - 1 - (j + 1)) < _
            have e2 : bnU 7 (n - 1 - j) = 7 * bnU 7 (n - 1 - (j + 1)) + 2 := by rw [e1]; rfl
            have e3 : d (j + 1) * bnU 7 (n - 1 - (j + 1)) ≤ 7 * bnU 7 (n - 1 - (j + 1)) := Nat.mul_le_mul_right _ hd7
            rw [Nat.add_mul, Nat.one_mul]
            omega
          · by_cases ei : i = j
            · subst ei
              refine ⟨p1, ?_, by rw [upN_s]; omega, ?_⟩
              · rw [wS_b (by omega) (by omega), o2 232 (by omega)]; exact p2
              · rw [upN_s, hps]; exact wS_k (by rw [o2 234 (by omega)]; exact p4)
            · obtain ⟨z1, z2, z3, z4⟩ := h4 i (by omega)
              refine ⟨z1, ?_, by rw [upN_o ei]; exact z3, ?_⟩
              · rw [wS_b (by omega) (by omega), o2 232 (by omega)]; exact z2
              · rw [upN_o ei, wS_i ei, o2 234 (by omega)]; exact z4
          · obtain ⟨z1, z2, z3, z4⟩ := h5 i (by omega)
            rw [upN_o (by omega)]
            exact ⟨by rw [wS_b (by omega) (by omega), o233 i (by omega)]; exact z1, z2, z3, z4⟩
          · rw [upN_s, wS_b (by omega) (by omega), o233 j (by omega), q1, nI_sub1 _ (by omega)]; rfl
          · intro h0
            rw [wS_f]
            by_cases hj0 : j = 0
            · subst hj0
              rw [upN_s, gFS, o233 0 (by omega), q1]
              have hev : evn 0 = true := rfl
              have hcc : chg true (gP u Q pat (n - 1) true t0 (d 0)) (gmN u Q pat (n - 1) false (gOp u true t0 (d 0))) = chg (evn 0) (gP u Q pat (n - 1 - 0) (evn 0) (τ 0) (d 0)) v := by
                rw [← hτ, ← hval]; rfl
              rw [hcc]
              by_cases hch : chg (evn 0) (gP u Q pat (n - 1 - 0) (evn 0) (τ 0) (d 0)) v = true
              · rw [if_pos ⟨hch, rfl⟩, if_pos hch]
              · rw [if_neg (fun e => hch e.1), if_neg hch, o2 216 (by omega)]
                refine h7 ?_
                rcases Nat.eq_zero_or_pos (d 0) with hd0 | hd0
                · rw [hd0] at hch; exact absurd rfl hch
                · exact hd0
            · rw [if_neg (fun e => hj0 e.2), o2 216 (by omega), upN_o (by omega)]
              rw [upN_o (by omega)] at h0
              exact h7 h0
    · right
      unfold f_Model_plays_B12
      rw [if_pos (by decide)]
      exact rt_s ⟨F, e1, e2⟩
end GM
