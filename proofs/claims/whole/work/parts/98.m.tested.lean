/-! rule: tests. -/
section SC
variable {t : Nat → Nat} {n R : Nat} {s : ZS}
def tQ (t : Nat → Nat) (n R : Nat) (X : Sum Nat ZG) (ro0 : List ZQo) (w : ZS) : Prop :=
  ∃ r parts l, rch t n X (.inr (r, [], parts, 2, 4, l ++ ro0)) ∧ mI n (r, [], parts, 2, 4, l ++ ro0) ∧ facT l ∧ np (l ++ ro0) ≤ parts ∧ w.1 216 8 = nI r ∧ MS R parts (l ++ ro0) w
theorem m_tested {p parts sm : Nat} {ro0 : List ZQo} (hR : R < 6) (h : tpM t n s) (hI : mI n (p, [], parts, sm, 1, ro0)) (hnp : np ro0 ≤ parts) (e : s.1 216 8 = nI p) (e9 : s.1 216 9 = 0) (hM : MS R parts ro0 s) : rt (f_Model_tested s) (mT t n R s (.inr (p, [], parts, sm, 1, ro0)) (tQ t n R (.inr (p, [], parts, sm, 1, ro0)) ro0)) := by
  have hn4 := h.1
  have hp : p ≤ n := hI.1
  generalize hX : (.inr (p, [], parts, sm, 1, ro0) : Sum Nat ZG) = X
  unfold f_Model_tested
  simp only [zj0, zwi]
  have k1 : kT R s (zsI (zsI s 216 16 0) 216 13 0) := (kT.rf.I (by omega)).I (by omega)
  have o1 : ∀ j, j ≠ 13 → j ≠ 16 → (zsI (zsI s 216 16 0) 216 13 0).1 216 j = s.1 216 j := fun j c1 c2 => by rw [zI1, if_pos rfl, updE, if_neg c1, zI1, if_pos rfl, updE, if_neg c2]
  have c1 : ∀ b, b ≠ 216 → (zsI (zsI s 216 16 0) 216 13 0).1 b = s.1 b := fun b hb => by rw [zI1, if_neg hb, zI1, if_neg hb]
  have t13 : (zsI (zsI s 216 16 0) 216 13 0).1 216 13 = nI 0 := by rw [zI1, if_pos rfl, updE, if_pos rfl]; rfl
  have t16 : (zsI (zsI s 216 16 0) 216 13 0).1 216 16 = nI 0 := by rw [zI1, if_pos rfl, updE, if_neg (by omega), zI1, if_pos rfl, updE, if_pos rfl]; rfl
  generalize zsI (zsI s 216 16 0) 216 13 0 = s1 at k1 o1 c1 t13 t16
  have w1 : WS [] s1 := ⟨(fun k hk => by cases hk), t16, trivial, t13⟩
  have M1 : MS R parts ro0 s1 := hM.kt (o1 11 (by omega) (by omega)) (o1 12 (by omega) (by omega)) (c1 219 (by omega)) (c1 218 (by omega))
  refine lp_rank (n := 801) (r0 := 2 * p) (fun r a s2 => kT R s s2 ∧ s2.1 216 9 = 0 ∧ ((a = 1 ∧ ∃ p W parts sm l, r = 2 * p ∧ rch t n X (.inr (p, W, parts, sm, 1, l ++ ro0)) ∧ mI n (p, W, parts, sm, 1, l ++ ro0) ∧ tB (aW W) l ∧ np (l ++ ro0) ≤ parts ∧ WS W s2 ∧ MS R parts (l ++ ro0) s2 ∧ s2.1 216 8 = nI p) ∨ (a = 0 ∧ ∃ r' Wr, r = 2 * r' + 1 ∧ aQ t n R X ro0 r' Wr s2 ∧ s2.1 216 8 = nI (sk t n r') ∧ (¬ sgn t n (sk t n r') = 93 ∨ ¬ 0 ∈ Wr) ∧ wixF t (sk t n r') (we t n (sk t n r')) 0 ws15 = -1))) (fun o => rt o (mT t n R s X (tQ t n R X ro0))) (by omega) ⟨k1, by rw [o1 9 (by omega) (by omega)]; exact e9, Or.inl ⟨rfl, p, [], parts, sm, [], rfl, by rw [← hX]; exact rch.rf, hI, tB_0, hnp, w1, M1, by rw [o1 8 (by omega) (by omega)]; exact e⟩⟩ (fun r _ s2 hh => by
    obtain ⟨_, _, hh | hh⟩ := hh
    · obtain ⟨_, p, _, _, _, _, hr, _, hm, _⟩ := hh
      have : p ≤ n := hm.1
      omega
    · obtain ⟨_, r', _, hr, ha, _⟩ := hh
      have := (ha.l hn4).2
      omega) ?_
  clear w1 M1 t16 t13 c1 o1 k1 hX hM e9 e hnp hI hp
  clear p parts sm
  rintro r a s2 g ⟨k2, q2, ⟨rfl, p, W, parts, sm, l, rfl, z1, z2, z3, z4, w2, M2, y8⟩ | ⟨rfl, r', Wr, rfl, ha, y8, hx, nw⟩⟩
  · have h2 := h.kt k2
    have hp : p ≤ n := z2.1
    unfold f_Model_tested_B12
    rw [if_neg (show ¬ (1 : Int32) = 0 by decide)]
    obtain ⟨⟨v, s3⟩, r3, k3, hh⟩ := m_fact hR h2 z2 w2 z4 y8 q2 M2
    dsimp only at k3 hh
    rw [r3, zcl_s]
    dsimp only
    rcases hh with ⟨f, m1, rfl, f0, f1, f2⟩ | ⟨rfl, q3, W', rr, parts', W1, ro1, l1, u1, u2, u3, u4, u5, u6, u7, u8, u9, uw⟩
    · right
      rw [if_neg (fun x => x rfl), zbl_0]
      exact rt_s ⟨k2.tr k3, Or.inl ⟨f, z1.tr m1, rfl, f0, f1, f2⟩⟩
    · rw [if_pos (show ¬ (1 : Int32) = 0 by decide)]
      have asc : l1 ++ (l ++ ro0) = (l1 ++ l) ++ ro0 := (List.append_assoc _ _ _).symm
      rw [asc] at u3 u6 u8
      obtain ⟨kk, hkk⟩ := id u1
      have grow : p ≤ rr := (orb z2 kk _ hkk).2.resolve_left (show ¬ (2 : Nat) = 4 by omega)
      have h3 := h2.kt k3
      obtain ⟨s4, r4, k4, r', Wr, hr', ha, y4, hx⟩ := m_closes (X := X) hR h3 (z1.tr u1) u2 u3 (by rw [u5]; exact u4.b z3) u6 u7 u8 u9 uw q3
      rw [r4, zcv_s]
      have h4 := h3.kt k4
      have hl := ha.l hn4
      obtain ⟨skr, hq, _, _⟩ := sk_s (t := t) hl.2
      have hqq := sk_sk (t := t) hl.2
      have kk4 := (k2.tr k3).tr k4
      have push : ∀ k, k = 13 ∨ k = 14 → (∀ Wm parts rom, bfF t n (sk t n r') Wm parts 2 rom = .inr (we t n (sk t n r'), k :: (rls (bnd k) Wm rom).1, parts, 2, 1, (rls (bnd k) Wm rom).2)) → ∃ a' s' rk, zcv (f_Model_passWord s4) (fun (s29 : ZS) => zcl (f_Model_strength (nI (wM k)) s29) (fun (v31 : Int32) (s30 : ZS) => zcv (f_Model_layDown v31 s30) (fun (s32 : ZS) => zwa s32 223 400 (s32.1 216 16) (nI (wM k)) (fun (s34 : ZS) => g 1 (zsI s34 216 16 (s34.1 216 16 + (1 : Int32))))))) = g a' s' ∧ 2 * p < rk ∧ kT R s s' ∧ s'.1 216 9 = 0 ∧ ((a' = 1 ∧ ∃ p W parts sm l, rk = 2 * p ∧ rch t n X (.inr (p, W, parts, sm, 1, l ++ ro0)) ∧ mI n (p, W, parts, sm, 1, l ++ ro0) ∧ tB (aW W) l ∧ np (l ++ ro0) ≤ parts ∧ WS W s' ∧ MS R parts (l ++ ro0) s' ∧ s'.1 216 8 = nI p) ∨ (a' = 0 ∧ ∃ r' Wr, rk = 2 * r' + 1 ∧ aQ t n R X ro0 r' Wr s' ∧ s'.1 216 8 = nI (sk t n r') ∧ (¬ sgn t n (sk t n r') = 93 ∨ ¬ 0 ∈ Wr) ∧ wixF t (sk t n r') (we t n (sk t n r')) 0 ws15 = -1)) := by
        intro k hk hbf
        obtain ⟨parts2, Wm, rom, st, l2, b1, b2, b3, b4, b5, b6, b7, b8, b9, b10⟩ := ha
        have stp := b4.trans (hbf Wm parts2 rom)
        have hbk : 1 ≤ bnd k ∧ bnd k ≤ 3 := by rcases hk with rfl | rfl <;> decide
        rw [rls_eq (b := bnd k) hbk.2 b5] at stp
        have mI2 := stp_mI b3 b1 stp
        have hlt : r' < we t n (sk t n r') := mI2.2.resolve_left (show ¬ (1 : Nat) = 4 by omega)
        have lnm := (rls_i (b := 3) (by omega) Wm rom b3.2.1).2.1
        rw [b5] at lnm
        have lnm' : Wr.length + (l2 ++ ro0).length = Wm.length + rom.length := lnm
        have lm : rom.length + Wm.length + 1 ≤ r' := b3.2.2.2.2.2.2.1
        have ln5 : (rls (bnd k) Wr (l2 ++ ro0)).1.length + (rls (bnd k) Wr (l2 ++ ro0)).2.length = Wr.length + (l2 ++ ro0).length := by
          have := (rls_i (b := bnd k) (by omega) Wm rom b3.2.1).2.1
          rw [rls_eq (b := bnd k) hbk.2 b5] at this
          omega
        rw [m_passWord h4 hq y4, zcv_s, m_strength (by omega), zcl_s]
        dsimp only
        have k5 : mK s4 (zsI s4 216 8 (nI (we t n (sk t n r')))) := mK.rf.I (by omega)
        have p5 : (zsI s4 216 8 (nI (we t n (sk t n r')))).1 216 8 = nI (we t n (sk t n r')) := by rw [zI1, if_pos rfl, updE, if_pos rfl]
        have q5 : (zsI s4 216 8 (nI (we t n (sk t n r')))).1 216 9 = 0 := by rw [zI1, if_pos rfl, updE, if_neg (by omega)]; exact b10
        generalize zsI s4 216 8 (nI (we t n (sk t n r'))) = s5 at k5 p5 q5
        obtain ⟨s6, r6, k6, w6, M6, j6⟩ := m_lay (b := bnd k) hR hbk (b9.k k5) (b8.k k5) (by omega)
        rw [r6, zcv_s]
        obtain ⟨l6, d1, d2, d3⟩ := tyR (b := bnd k) hbk.1 (ro0 := ro0) b9.1 b6
        rw [d1] at M6 stp mI2
        rw [d1] at ln5
        generalize hW3 : (rls (bnd k) Wr (l2 ++ ro0)).1 = W3 at w6 stp mI2 d2 ln5
        rw [w6.2.1, zwa_n (by omega) (by omega)]
        have y16 : (zsI s6 223 W3.length (nI (wM k))).1 216 16 = nI W3.length := by rw [zI1, if_neg (by omega)]; exact w6.2.1
        rw [y16, nI_1]
        have hdk : dpW (k :: W3) = dpW W3 := by
          show dpW W3 + (if k = 0 ∨ k = 12 then 1 else 0) = _
          rw [if_neg (by omega)]; rfl
        have hak : aW (k :: W3) = aW W3 + 1 := by
          show aW W3 + (if k = 13 ∨ k = 14 then 1 else 0) = _
          rw [if_pos hk]
        have oj : ∀ j, j ≠ 16 → (zsI (zsI s6 223 W3.length (nI (wM k))) 216 16 (nI (W3.length + 1))).1 216 j = s6.1 216 j := fun j c => by rw [zI1, if_pos rfl, updE, if_neg c, zI1, if_neg (by omega)]
        refine ⟨1, _, 2 * we t n (sk t n r'), rfl, by omega, ((kk4.tr k5.v.t).tr k6).tr ((kT.rf.W).I (by omega)), by rw [oj 9 (by omega), j6 9 (by omega) (by omega)]; exact q5, Or.inl ⟨rfl, we t n (sk t n r'), k :: W3, parts2, 2, l6, rfl, b2.tr (rch.s (by rw [stp]; exact rch.rf)), mI2.1, by rw [hak]; exact d2, by omega, ⟨w6.1.c (by omega), ?_, ⟨?_, ?_⟩, ?_⟩, M6.kt (oj 11 (by omega)) (oj 12 (by omega)) ?_ ?_, by rw [oj 8 (by omega), j6 8 (by omega) (by omega)]; exact p5⟩⟩
        · rw [zI1, if_pos rfl, updE, if_pos rfl]; rfl
        · rw [zI1, if_neg (by omega), zI1, if_pos rfl, updE, if_pos rfl]
        · rw [zI1, if_neg (by omega), zI1, if_pos rfl]; exact OW_u w6.2.2.1 (Nat.le_refl _)
        · rw [oj 13 (by omega), hdk]; exact w6.2.2.2
        · rw [zI1, if_neg (by omega), zI1, if_neg (by omega)]
        · rw [zI1, if_neg (by omega), zI1, if_neg (by omega)]
      have isA := m_isWord lt_and h4 hq y4 hqq
      have isO := m_isWord lt_or h4 hq y4 hqq
      rw [isA, zcl_s]
      simp only [zjn, zj0]
      by_cases hand : isW t (sk t n r') (we t n (sk t n r')) [97, 110, 100]
      · left
        have hnor : ¬ isW t (sk t n r') (we t n (sk t n r')) [111, 114] := fun x => by
          have a1 := x.2 0 (by decide)
          have a2 := hand.2 0 (by decide)
          rw [a1] at a2
          exact absurd a2 (by decide)
        simp only [if_pos hand, i10, ↓reduceIte, not_false_eq_true, isA, zcl_s]
        refine push 13 (Or.inl rfl) (fun Wm parts rom => ?_)
        unfold bfF
        rw [wix15, if_neg hnor, if_pos hand, if_neg (show ¬ (1 : Int32) = -1 by decide), if_neg (show ¬ (1 : Int32) = 0 by decide)]
        rfl
      · by_cases hor : isW t (sk t n r') (we t n (sk t n r')) [111, 114]
        · left
          simp only [if_neg hand, ↓reduceIte, not_true_eq_false, isO, if_pos hor, zcl_s, i10, isA]
          refine push 14 (Or.inr rfl) (fun Wm parts rom => ?_)
          unfold bfF
          rw [wix15, if_pos hor, if_neg (show ¬ (0 : Int32) = -1 by decide), if_pos rfl]
          rfl
        · left
          simp only [if_neg hand, ↓reduceIte, not_true_eq_false, isO, if_neg hor, zcl_s]
          have q4 : s4.1 216 9 = 0 := by obtain ⟨_, _, _, _, _, _, _, _, _, _, _, _, _, _, hh⟩ := ha; exact hh
          exact ⟨0, s4, 2 * r' + 1, rfl, by omega, kk4, q4, Or.inr ⟨rfl, r', Wr, rfl, ha, y4, hx, by rw [wix15, if_neg hor, if_neg hand]⟩⟩
  · right
    have h2 := h.kt k2
    have hl := ha.l hn4
    obtain ⟨skr, hq, _, _⟩ := sk_s (t := t) hl.2
    have hqq := sk_sk (t := t) hl.2
    obtain ⟨parts2, Wm, rom, st, l2, b1, b2, b3, b4, b5, b6, b7, b8, b9, b10⟩ := ha
    have lnm := (rls_i (b := 3) (by omega) Wm rom b3.2.1).2.1
    rw [b5] at lnm
    have lnm' : Wr.length + (l2 ++ ro0).length = Wm.length + rom.length := lnm
    have lm : rom.length + Wm.length + 1 ≤ r' := b3.2.2.2.2.2.2.1
    unfold f_Model_tested_B12
    rw [if_pos rfl]
    obtain ⟨⟨v, s4⟩, r4, he4, hh⟩ := m_inside b9 (by omega)
    have he4' : s4 = s2 := he4
    subst he4'
    dsimp only
    rw [r4, zcl_s]
    dsimp only
    have r1 := rls_eq (b := 1) (by omega) b5
    rcases hh with ⟨h0, hv⟩ | ⟨h0, hv⟩
    · have hv' : v = 1 := hv
      subst hv'
      rw [if_neg (show ¬ (1 : Int32) = 0 by decide), m_nx h2 hl.2 (Or.inr y8), zcl_s]
      simp only [zgi]
      obtain ⟨W2, e5⟩ := in0 b9.1 h0 (l2 ++ ro0)
      simp only [zsI_self y8, y8]
      rw [show f_Model_fails 0 (nI (sk t n r')) s4 = _ from m_fails (k := 0) b10, zcl_s]
      refine rt_bl ⟨k2.tr (kT.rf.I (by omega)), Or.inl ⟨1 + 8 * sk t n r', b2.tr (rch.s ?_), rfl, by omega, by omega, by rw [zI1, if_pos rfl, updE, if_pos rfl]; rfl⟩⟩ (Or.inl rfl)
      rw [b4]
      unfold bfF
      rw [if_pos nw, r1, e5, if_neg (by intro x; cases x), if_neg (hx.resolve_right (fun x => x h0))]
      exact rch.rf
    · have hv' : v = 0 := hv
      subst hv'
      rw [if_pos rfl, show (1 : Int32) = nI 1 from rfl]
      refine rt_cv (m_lay (b := 1) hR (by omega) b9 b8 (by omega)) ?_
      rintro s5 ⟨k5, w5, M5, j5⟩
      rw [show nI 1 = 1 from rfl, zbl_1]
      obtain ⟨l5, a1, a2, a3⟩ := tyR (b := 1) (by omega) (ro0 := ro0) b9.1 b6
      have e5 := nin0 b9.1 h0 (l2 ++ ro0)
      rw [e5] at a2
      rw [a1] at M5
      have stp : stpF t n (r', Wm, parts2, 2, st, rom) = .inr (sk t n r', [], parts2, 2, 4, l5 ++ ro0) := by
        rw [b4]
        unfold bfF
        rw [if_pos nw, r1, e5, if_pos rfl, a1]
      refine rt_s ⟨k2.tr k5, Or.inr ⟨rfl, by show s5.1 216 9 = 0; rw [j5 9 (by omega) (by omega)]; exact b10, sk t n r', parts2, l5, b2.tr (rch.s (by rw [stp]; exact rch.rf)), (stp_mI b3 b1 stp).1, a2, by omega, by show s5.1 216 8 = _; rw [j5 8 (by omega) (by omega)]; exact y8, M5⟩⟩
end SC
