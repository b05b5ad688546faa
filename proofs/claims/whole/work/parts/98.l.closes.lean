/-! rule: tests. -/
section SB
variable {t : Nat → Nat} {n R : Nat} {s : ZS}
theorem in0 {W : List Nat} (hf : fW W) (h0 : 0 ∈ W) : ∀ o, ∃ W2, (rls 1 W o).1 = 0 :: W2 := by
  induction W with
  | nil => cases h0
  | cons k W ih =>
    intro o
    by_cases hk : 1 ≤ bnd k
    · rw [show rls 1 (k :: W) o = rls 1 W ((k, 0) :: o) from if_pos hk]
      refine ih hf.tl ?_ _
      cases h0 with
      | head => exact absurd hk (by decide)
      | tail _ h0 => exact h0
    · rw [show rls 1 (k :: W) o = (k :: W, o) from if_neg hk]
      rcases hf.h with rfl | rfl | rfl | rfl
      · exact ⟨W, rfl⟩
      · exact absurd (show 1 ≤ bnd 12 by decide) hk
      · exact absurd (show 1 ≤ bnd 13 by decide) hk
      · exact absurd (show 1 ≤ bnd 14 by decide) hk
theorem nin0 {W : List Nat} (hf : fW W) (h0 : ¬ 0 ∈ W) : ∀ o, (rls 1 W o).1 = [] := by
  induction W with
  | nil => intro o; rfl
  | cons k W ih =>
    intro o
    have hk : 1 ≤ bnd k := by
      rcases hf.h with rfl | rfl | rfl | rfl
      · exact absurd (List.mem_cons_self ..) h0
      · decide
      · decide
      · decide
    rw [show rls 1 (k :: W) o = rls 1 W ((k, 0) :: o) from if_pos hk]
    exact ih hf.tl (fun x => h0 (List.mem_cons_of_mem _ x)) _
/-- behind a fact: the machine lags by what binds tighter than `and` -/
def aQ (t : Nat → Nat) (n R : Nat) (X : Sum Nat ZG) (ro0 : List ZQo) (r : Nat) (Wr : List Nat) (w : ZS) : Prop :=
  ∃ parts Wm rom st l, ¬ st = 4 ∧ rch t n X (.inr (r, Wm, parts, 2, st, rom)) ∧ mI n (r, Wm, parts, 2, st, rom) ∧ stpF t n (r, Wm, parts, 2, st, rom) = bfF t n (sk t n r) Wm parts 2 rom ∧ rls 3 Wm rom = (Wr, l ++ ro0) ∧ tB (aW Wr + 1) l ∧ np (l ++ ro0) ≤ parts ∧ MS R parts (l ++ ro0) w ∧ WS Wr w ∧ w.1 216 9 = 0
theorem aQ.k {X : Sum Nat ZG} {ro0 : List ZQo} {r : Nat} {Wr : List Nat} {s' : ZS} (h : aQ t n R X ro0 r Wr s) (hk : mK s s') (h9 : s'.1 216 9 = 0) : aQ t n R X ro0 r Wr s' := by
  obtain ⟨a1, a2, a3, a4, a5, b1, b2, b3, b4, b5, b6, b7, b8, b9, _⟩ := h
  exact ⟨a1, a2, a3, a4, a5, b1, b2, b3, b4, b5, b6, b7, b8.k hk, b9.k hk, h9⟩
theorem aQ.l {X : Sum Nat ZG} {ro0 : List ZQo} {r : Nat} {Wr : List Nat} (h : aQ t n R X ro0 r Wr s) (hn : n ≤ 400) : Wr.length ≤ 399 ∧ r ≤ n := by
  obtain ⟨a1, a2, a3, a4, a5, b1, b2, b3, b4, b5, b6, b7, b8, b9, _⟩ := h
  have ln := (rls_i (b := 3) (by omega) a2 a3 b3.2.1).2.1
  rw [b5] at ln
  have lm : a3.length + a2.length + 1 ≤ r := b3.2.2.2.2.2.2.1
  have lr : r ≤ n := b3.1
  dsimp only at ln
  exact ⟨by omega, lr⟩
theorem m_closes {X : Sum Nat ZG} {ro0 : List ZQo} {W' : List Nat} {r parts : Nat} {W1 : List Nat} {ro1 l : List ZQo} (hR : R < 6) (h : tpM t n s) (z1 : rch t n X (.inr (r, W1, parts, 2, 2, ro1))) (z2 : mI n (r, W1, parts, 2, 2, ro1)) (z3 : rls 4 W1 ro1 = (W', l ++ ro0)) (z4 : tB (aW W' + 1) l) (z5 : np (l ++ ro0) ≤ parts) (e : s.1 216 8 = nI (sk t n r)) (hM : MS R parts (l ++ ro0) s) (hop : opK (sgn t n (sk t n r)) = 0) (hW : WS W' s) (e9 : s.1 216 9 = 0) : rt (f_Model_closes s) (fun w => kT R s w ∧ ∃ r' Wr, r ≤ r' ∧ aQ t n R X ro0 r' Wr w ∧ w.1 216 8 = nI (sk t n r') ∧ (¬ sgn t n (sk t n r') = 93 ∨ ¬ 0 ∈ Wr)) := by
  have hn4 := h.1
  have ln := (rls_i (b := 4) (by omega) W1 ro1 z2.2.1).2.1
  rw [z3] at ln
  have ln' : W'.length + (l ++ ro0).length = W1.length + ro1.length := ln
  have lm : ro1.length + W1.length + 1 ≤ r := z2.2.2.2.2.2.2.1
  have lr : r ≤ n := z2.1
  unfold f_Model_closes
  rw [show (3 : Int32) = nI 3 from rfl]
  refine rt_cv (m_lay (b := 3) hR (by omega) hW hM (by omega)) ?_
  rintro s1 ⟨k1, w1, M1, j1⟩
  obtain ⟨l', a1, a2, a3⟩ := tyR (b := 3) (by omega) (ro0 := ro0) hW.1 z4
  have r3 : rls 3 W1 ro1 = ((rls 3 W' (l ++ ro0)).1, l' ++ ro0) := by rw [rls_eq (b := 3) (by omega) z3, ← a1]
  have q1 : s1.1 216 9 = 0 := by rw [j1 9 (by omega) (by omega)]; exact e9
  refine lp_rank (n := 400) (r0 := r) (fun r' _ s2 => r ≤ r' ∧ kT R s s2 ∧ ∃ Wr, aQ t n R X ro0 r' Wr s2 ∧ (s2.1 216 8 = nI r' ∨ s2.1 216 8 = nI (sk t n r'))) (fun o => rt o (fun w => kT R s w ∧ ∃ r' Wr, r ≤ r' ∧ aQ t n R X ro0 r' Wr w ∧ w.1 216 8 = nI (sk t n r') ∧ (¬ sgn t n (sk t n r') = 93 ∨ ¬ 0 ∈ Wr))) (by omega) ⟨Nat.le_refl _, k1, (rls 3 W' (l ++ ro0)).1, ⟨parts, W1, ro1, 2, l', by omega, z1, z2, ?_, r3, a2, by omega, by rw [← a1]; exact M1, w1, q1⟩, Or.inr (by rw [j1 8 (by omega) (by omega)]; exact e)⟩ (fun r' _ s2 hh => by obtain ⟨_, _, Wr, ha, _⟩ := hh; have := (ha.l hn4).2; omega) ?_
  · rw [stp2]
    unfold bvF
    rw [if_neg (fun x => x hop), if_neg (show ¬ (2 : Nat) = 0 by omega), if_neg (show ¬ (2 : Nat) = 1 by omega)]
  clear z1 z2 z3 z4 z5 e hM hop hW e9 ln ln' lm lr k1 w1 M1 j1 a1 a2 a3 r3 q1
  rintro r' ⟨⟩ s2 g ⟨hr', k2, Wr, ha, e2⟩
  have hl := ha.l hn4
  have h2 := h.kt k2
  obtain ⟨skr, hq, _, _⟩ := sk_s (t := t) hl.2
  unfold f_Model_closes_B5
  rw [m_nx h2 hl.2 e2, zcl_s]
  dsimp only
  have q2 : s2.1 216 9 = 0 := by obtain ⟨_, _, _, _, _, _, _, _, _, _, _, _, _, _, hh⟩ := ha; exact hh
  have k3 : mK s2 (zsI s2 216 8 (nI (sk t n r'))) := mK.rf.I (by omega)
  have p3 : (zsI s2 216 8 (nI (sk t n r'))).1 216 8 = nI (sk t n r') := by rw [zI1, if_pos rfl, updE, if_pos rfl]
  have q3 : (zsI s2 216 8 (nI (sk t n r'))).1 216 9 = 0 := by rw [zI1, if_pos rfl, updE, if_neg (by omega)]; exact q2
  generalize hs3 : zsI s2 216 8 (nI (sk t n r')) = s3 at k3 p3 q3
  have h3 := h2.k k3
  have ha3 := ha.k k3 q3
  have kk3 : kT R s s3 := k2.tr k3.v.t
  by_cases h93 : sgn t n (sk t n r') = 93
  · rw [if_neg (fun x => x h93)]
    obtain ⟨parts, Wm, rom, st, l, b1, b2, b3, b4, b5, b6, b7, b8, b9, _⟩ := id ha3
    obtain ⟨⟨v, s4⟩, r4, he4, hh⟩ := m_inside b9 (by omega)
    have he4' : s4 = s3 := he4
    subst he4'
    rw [r4, zcl_s]
    dsimp only
    rcases hh with ⟨h0, hv⟩ | ⟨h0, hv⟩
    · left
      have hv' : v = 1 := hv
      subst hv'
      rw [if_neg (show ¬ (1 : Int32) = 0 by decide), show (1 : Int32) = nI 1 from rfl, show (3 : Int32) = nI 3 from rfl]
      have lnm := (rls_i (b := 3) (by omega) Wm rom b3.2.1).2.1
      rw [b5] at lnm
      have lnm' : Wr.length + (l ++ ro0).length = Wm.length + rom.length := lnm
      have lm : rom.length + Wm.length + 1 ≤ r' := b3.2.2.2.2.2.2.1
      obtain ⟨s5, r5, k5, w5, M5, j5⟩ := m_lay (b := 1) hR (by omega) b9 b8 (by omega)
      rw [r5, zcv_s]
      obtain ⟨W2, e5⟩ := in0 b9.1 h0 (l ++ ro0)
      obtain ⟨l5, a1, a2, a3⟩ := tyR (b := 1) (by omega) (ro0 := ro0) b9.1 b6
      have ln5 : (rls 1 Wr (l ++ ro0)).1.length + (rls 1 Wr (l ++ ro0)).2.length = Wr.length + (l ++ ro0).length := by
        have := (rls_i (b := 1) (by omega) Wm rom b3.2.1).2.1
        rw [rls_eq (b := 1) (by omega) b5] at this
        omega
      rw [e5] at w5 a2 ln5
      rw [a1] at M5 ln5
      have ln5' : W2.length + 1 + (l5 ++ ro0).length = Wr.length + (l ++ ro0).length := ln5
      have a2' : tB (aW W2 + 1) l5 := a2
      have hqn := (sgn_t h.2.1 (c := 93) h93 (by omega))
      have nw : wixF t (sk t n r') (we t n (sk t n r')) 0 ws15 = -1 := by
        rw [wix15, if_neg, if_neg]
        · intro x
          have := x.2 0 (by decide)
          rw [Nat.add_zero, hqn.2] at this
          exact absurd this (by decide)
        · intro x
          have := x.2 0 (by decide)
          rw [Nat.add_zero, hqn.2] at this
          exact absurd this (by decide)
      have stp : stpF t n (r', Wm, parts, 2, st, rom) = .inr (sk t n r' + 1, W2, parts, 2, 3, l5 ++ ro0) := by
        rw [b4]
        unfold bfF
        rw [if_pos nw, rls_eq (b := 1) (by omega) b5, e5, if_neg (by intro x; cases x), if_pos h93, a1]
        rfl
      have mI2 := (stp_mI b3 b1 stp).1
      simp only [zgi, zwi]
      have v1 : s5.1 216 16 = nI (W2.length + 1) := w5.2.1
      have v2 : s5.1 216 13 = nI (dpW W2 + 1) := w5.2.2.2
      have v8 : s5.1 216 8 = nI (sk t n r') := by rw [j5 8 (by omega) (by omega)]; exact p3
      have v9 : s5.1 216 9 = 0 := by rw [j5 9 (by omega) (by omega)]; exact q3
      rw [v1, nI_sub (by omega), Nat.add_sub_cancel]
      have y2 : (zsI s5 216 16 (nI W2.length)).1 216 13 = nI (dpW W2 + 1) := by rw [zI1, if_pos rfl, updE, if_neg (by omega)]; exact v2
      rw [y2, nI_sub (by omega), Nat.add_sub_cancel]
      have y3 : (zsI (zsI s5 216 16 (nI W2.length)) 216 13 (nI (dpW W2))).1 216 8 = nI (sk t n r') := by rw [zI1, if_pos rfl, updE, if_neg (by omega), zI1, if_pos rfl, updE, if_neg (by omega)]; exact v8
      rw [y3, nI_add]
      have k6 : kT R s5 (zsI (zsI (zsI s5 216 16 (nI W2.length)) 216 13 (nI (dpW W2))) 216 8 (nI (sk t n r' + 1))) := ((kT.rf.I (by omega)).I (by omega)).I (by omega)
      have o6 : ∀ j, j ≠ 8 → j ≠ 13 → j ≠ 16 → (zsI (zsI (zsI s5 216 16 (nI W2.length)) 216 13 (nI (dpW W2))) 216 8 (nI (sk t n r' + 1))).1 216 j = s5.1 216 j := fun j c1 c2 c3 => by rw [zI1, if_pos rfl, updE, if_neg c1, zI1, if_pos rfl, updE, if_neg c2, zI1, if_pos rfl, updE, if_neg c3]
      have c6 : ∀ b, b ≠ 216 → (zsI (zsI (zsI s5 216 16 (nI W2.length)) 216 13 (nI (dpW W2))) 216 8 (nI (sk t n r' + 1))).1 b = s5.1 b := fun b hb => by rw [zI1, if_neg hb, zI1, if_neg hb, zI1, if_neg hb]
      have t8 : (zsI (zsI (zsI s5 216 16 (nI W2.length)) 216 13 (nI (dpW W2))) 216 8 (nI (sk t n r' + 1))).1 216 8 = nI (sk t n r' + 1) := by rw [zI1, if_pos rfl, updE, if_pos rfl]
      have t13 : (zsI (zsI (zsI s5 216 16 (nI W2.length)) 216 13 (nI (dpW W2))) 216 8 (nI (sk t n r' + 1))).1 216 13 = nI (dpW W2) := by rw [zI1, if_pos rfl, updE, if_neg (by omega), zI1, if_pos rfl, updE, if_pos rfl]
      have t16 : (zsI (zsI (zsI s5 216 16 (nI W2.length)) 216 13 (nI (dpW W2))) 216 8 (nI (sk t n r' + 1))).1 216 16 = nI W2.length := by rw [zI1, if_pos rfl, updE, if_neg (by omega), zI1, if_pos rfl, updE, if_neg (by omega), zI1, if_pos rfl, updE, if_pos rfl]
      generalize zsI (zsI (zsI s5 216 16 (nI W2.length)) 216 13 (nI (dpW W2))) 216 8 (nI (sk t n r' + 1)) = s6 at k6 o6 c6 t8 t13 t16
      have w6 : WS W2 s6 := ⟨w5.1.tl, t16, by rw [c6 223 (by omega)]; exact w5.2.2.1.2, t13⟩
      have M6 : MS R parts (l5 ++ ro0) s6 := M5.kt (o6 11 (by omega) (by omega) (by omega)) (o6 12 (by omega) (by omega) (by omega)) (c6 219 (by omega)) (c6 218 (by omega))
      obtain ⟨s7, r7, k7, w7, M7, j7⟩ := m_lay (b := 3) hR (by omega) w6 M6 (by omega)
      rw [r7, zcv_s]
      obtain ⟨l7, d1, d2, d3⟩ := tyR (b := 3) (by omega) (ro0 := ro0) w6.1 a2'
      refine ⟨(), s7, sk t n r' + 1, rfl, by omega, by omega, ((kk3.tr k5).tr k6).tr k7, (rls 3 W2 (l5 ++ ro0)).1, ⟨parts, W2, l5 ++ ro0, 3, l7, by omega, b2.tr (rch.s (by rw [stp]; exact rch.rf)), mI2, rfl, by rw [← d1], d2, by omega, by rw [← d1]; exact M7, w7, ?_⟩, Or.inl ?_⟩
      · rw [j7 9 (by omega) (by omega), o6 9 (by omega) (by omega) (by omega)]; exact v9
      · rw [j7 8 (by omega) (by omega)]; exact t8
    · right
      have hv' : v = 0 := hv
      subst hv'
      rw [if_pos rfl]
      exact rt_s ⟨kk3, r', Wr, hr', ha3, p3, Or.inr h0⟩
  · right
    rw [if_pos h93]
    exact rt_s ⟨kk3, r', Wr, hr', ha3, p3, Or.inl h93⟩
end SB
