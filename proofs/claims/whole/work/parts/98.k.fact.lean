/-! rule: facts. -/
def aW : List Nat → Nat
  | [] => 0
  | k :: W => aW W + (if k = 13 ∨ k = 14 then 1 else 0)
def tB (m : Nat) (l : List ZQo) : Prop := ∀ τ, ty l τ = some (List.replicate m true ++ τ)
theorem tB_0 : tB 0 [] := fun _ => rfl
theorem facT.b {l l2 : List ZQo} {m : Nat} (h : facT l) (h2 : tB m l2) : tB (m + 1) (l ++ l2) := fun τ => by
  rw [ty_app, h2 τ]
  show ty l (List.replicate m true ++ τ) = _
  rw [h]; rfl
theorem tB_12 {m : Nat} {l : List ZQo} (h : tB (m + 1) l) : tB (m + 1) ((12, 0) :: l) := fun τ => by
  show (ty l τ).bind (tyO (12, 0)) = _
  rw [h τ]; rfl
theorem tB_13 {m k : Nat} {l : List ZQo} (hk : k = 13 ∨ k = 14) (h : tB (m + 1 + 1) l) : tB (m + 1) ((k, 0) :: l) := fun τ => by
  show (ty l τ).bind (tyO (k, 0)) = _
  rw [h τ]
  rcases hk with rfl | rfl <;> rfl
theorem tyR {b : Nat} (hb : 1 ≤ b) {ro0 : List ZQo} : ∀ {W : List Nat} {l : List ZQo}, fW W → tB (aW W + 1) l → ∃ l', (rls b W (l ++ ro0)).2 = l' ++ ro0 ∧ tB (aW (rls b W (l ++ ro0)).1 + 1) l' ∧ np (l' ++ ro0) = np (l ++ ro0) := by
  intro W
  induction W with
  | nil => intro l _ h; exact ⟨l, rfl, h, rfl⟩
  | cons k W ih =>
    intro l hf h
    by_cases hk : b ≤ bnd k
    · rw [show rls b (k :: W) (l ++ ro0) = rls b W (((k, 0) :: l) ++ ro0) from if_pos hk]
      have h2 : tB (aW W + 1) ((k, 0) :: l) ∧ 2 ≤ k := by
        rcases hf.h with rfl | rfl | rfl | rfl
        · exact absurd hk (by show ¬ b ≤ 0; omega)
        · exact ⟨tB_12 h, by omega⟩
        · exact ⟨tB_13 (Or.inl rfl) h, by omega⟩
        · exact ⟨tB_13 (Or.inr rfl) h, by omega⟩
      obtain ⟨l', a1, a2, a3⟩ := ih (l := (k, 0) :: l) hf.tl h2.1
      exact ⟨l', a1, a2, a3.trans (np_k h2.2)⟩
    · rw [show rls b (k :: W) (l ++ ro0) = (k :: W, l ++ ro0) from if_neg hk]
      exact ⟨l, rfl, h, rfl⟩
section SA
variable {t : Nat → Nat} {n R : Nat} {s : ZS}
def mT (t : Nat → Nat) (n R : Nat) (s : ZS) (X : Sum Nat ZG) (Q : ZS → Prop) (w : Int32 × ZS) : Prop := kT R s w.2 ∧ ((∃ f, rch t n X (.inl f) ∧ w.1 = 0 ∧ 0 < f ∧ f < 100000 ∧ w.2.1 216 9 = nI f) ∨ w.1 = 1 ∧ w.2.1 216 9 = 0 ∧ Q w.2)
theorem sgn_t {q c : Nat} (hb : ∀ k, t k < 256) (hc : sgn t n q = nI c) (hc2 : c < 128) : q < n ∧ t q = c := by
  have hqn : q < n := sgn_lt hc (by rw [nI_n1 (by omega)]; exact fun x => x)
  refine ⟨hqn, ?_⟩
  have := hb q
  rw [show sgn t n q = nI (t q) from if_pos hqn, nI_inj (by omega) (by omega)] at hc
  exact hc
/-- looking, blanks passed or not -/
theorem m_nx {p : Nat} (h : tpM t n s) (hp : p ≤ n) (e : s.1 216 8 = nI p ∨ s.1 216 8 = nI (sk t n p)) : f_Model_see s = some (sgn t n (sk t n p), zsI s 216 8 (nI (sk t n p))) := by
  rcases e with e | e
  · exact m_next h hp e
  · have := m_next h (sk_s hp).2.1 e
    rw [sk_sk hp] at this
    exact this
theorem WS.k {W : List Nat} {s' : ZS} (h : WS W s) (hk : mK s s') : WS W s' := h.v (R := 0) hk.v
def fQ (t : Nat → Nat) (n R : Nat) (X : Sum Nat ZG) (m : Nat) (ro : List ZQo) (w : ZS) : Prop :=
  ∃ W' r parts W1 ro1 l, rch t n X (.inr (r, W1, parts, 2, 2, ro1)) ∧ mI n (r, W1, parts, 2, 2, ro1) ∧ rls 4 W1 ro1 = (W', l ++ ro) ∧ facT l ∧ aW W' = m ∧ np (l ++ ro) ≤ parts ∧ w.1 216 8 = nI (sk t n r) ∧ MS R parts (l ++ ro) w ∧ opK (sgn t n (sk t n r)) = 0 ∧ WS W' w
theorem m_fact {p parts sm : Nat} {W : List Nat} {ro : List ZQo} (hR : R < 6) (h : tpM t n s) (hI : mI n (p, W, parts, sm, 1, ro)) (hW : WS W s) (hnp : np ro ≤ parts) (e : s.1 216 8 = nI p) (e9 : s.1 216 9 = 0) (hM : MS R parts ro s) : rt (f_Model_fact s) (mT t n R s (.inr (p, W, parts, sm, 1, ro)) (fQ t n R (.inr (p, W, parts, sm, 1, ro)) (aW W) ro)) := by
  have hn4 := h.1
  have hp : p ≤ n := hI.1
  generalize hX : (.inr (p, W, parts, sm, 1, ro) : Sum Nat ZG) = X
  unfold f_Model_fact
  simp only [zj0]
  refine lp_rank (n := 801) (r0 := 2 * p) (fun r a s2 => kT R s s2 ∧ s2.1 216 9 = 0 ∧ ∃ p' W', rch t n X (.inr (p', W', parts, sm, 1, ro)) ∧ mI n (p', W', parts, sm, 1, ro) ∧ aW W' = aW W ∧ WS W' s2 ∧ MS R parts ro s2 ∧ (a = 1 ∧ r = 2 * p' ∧ s2.1 216 8 = nI p' ∨ a = 0 ∧ r = 2 * p' + 1 ∧ s2.1 216 8 = nI (sk t n p') ∧ ¬ sgn t n (sk t n p') = 91 ∧ ¬ isW t (sk t n p') (we t n (sk t n p')) [110, 111, 116])) (fun o => rt o (mT t n R s X (fQ t n R X (aW W) ro))) (by omega) ⟨kT.rf, e9, p, W, by rw [← hX]; exact rch.rf, hI, rfl, hW, hM, Or.inl ⟨rfl, rfl, e⟩⟩ (fun r _ s2 hh => by
    obtain ⟨_, _, p', _, _, hm, _, _, _, hh⟩ := hh
    have : p' ≤ n := hm.1
    rcases hh with hh | hh
    · have := hh.2.1; omega
    · have := hh.2.1; omega) ?_
  rintro r a s2 g ⟨k2, q2, p', W', z1, z2, z3, w2, M2, hh⟩
  have hp' : p' ≤ n := z2.1
  have h2 := h.kt k2
  obtain ⟨skr, hq, _, _⟩ := sk_s (t := t) hp'
  have hqq := sk_sk (t := t) hp'
  have hwl := z2.w
  have hdp : dpW W' ≤ 10 := z2.2.2.1
  have hwl' : W'.length ≤ 36 := hwl
  unfold f_Model_fact_B2
  rcases hh with ⟨rfl, rfl, y8⟩ | ⟨rfl, rfl, y8, n91, nno⟩
  · rw [if_neg (show ¬ (1 : Int32) = 0 by decide), m_next h2 hp' y8, zcl_s]
    dsimp only
    have k3 : mK s2 (zsI s2 216 8 (nI (sk t n p'))) := mK.rf.I (by omega)
    have p3 : (zsI s2 216 8 (nI (sk t n p'))).1 216 8 = nI (sk t n p') := by rw [zI1, if_pos rfl, updE, if_pos rfl]
    have q3 : (zsI s2 216 8 (nI (sk t n p'))).1 216 9 = 0 := by rw [zI1, if_pos rfl, updE, if_neg (by omega)]; exact q2
    generalize hs3 : zsI s2 216 8 (nI (sk t n p')) = s3 at k3 p3 q3
    have h3 := h2.k k3
    have M3 := M2.k k3
    have w3 := w2.k k3
    have kk3 : kT R s s3 := k2.tr k3.v.t
    rw [m_isWord lt_not h3 hq p3 hqq, zcl_s]
    simp only [zjn, zgi]
    have stq : stpF t n (p', W', parts, sm, 1, ro) = fbF t n (sk t n p') W' parts sm ro := rfl
    by_cases hno : isW t (sk t n p') (we t n (sk t n p')) [110, 111, 116]
    · have hn91 : ¬ sgn t n (sk t n p') = 91 := fun x => by
        have a1 := (sgn_t h.2.1 (c := 91) x (by omega)).2
        have a2 : t (sk t n p' + 0) = 110 := hno.2 0 (by decide)
        rw [Nat.add_zero] at a2
        omega
      rw [if_pos hno, if_neg (show ¬ (1 : Int32) = 0 by decide), show (11 : Int32) = nI (wM 12) from rfl]
      obtain ⟨⟨v, s4⟩, r4, k4, hh⟩ := m_opn (k := 12) hn4 hq (Or.inr rfl) w3 hdp (by omega) p3 q3 M3
      dsimp only at k4 hh
      rw [r4, zcl_s]
      dsimp only
      rcases hh with ⟨h10, rfl, g4⟩ | ⟨h10, rfl, g4, g8, w4, M4⟩
      · right
        rw [if_neg (fun x => x rfl), zbl_0]
        refine rt_s ⟨kk3.tr k4, Or.inl ⟨1 + 8 * sk t n p' + 2, z1.tr (rch.s ?_), rfl, by omega, by omega, g4⟩⟩
        rw [stq]
        unfold fbF
        rw [if_neg hn91, if_pos hno, if_pos h10]
        exact rch.rf
      · left
        have stp : stpF t n (p', W', parts, sm, 1, ro) = .inr (we t n (sk t n p'), 12 :: W', parts, sm, 1, ro) := by
          rw [stq]
          unfold fbF
          rw [if_neg hn91, if_pos hno, if_neg h10]
        have mI2 := stp_mI z2 (show ¬ (1 : Nat) = 4 by omega) stp
        rw [if_pos (show ¬ (1 : Int32) = 0 by decide), m_passWord (h3.kt k4) hq g8, zcv_s]
        have k5 : mK s4 (zsI s4 216 8 (nI (we t n (sk t n p')))) := mK.rf.I (by omega)
        have hlt : p' < we t n (sk t n p') := mI2.2.resolve_left (show ¬ (1 : Nat) = 4 by omega)
        refine ⟨1, _, 2 * we t n (sk t n p'), rfl, by omega, (kk3.tr k4).tr k5.v.t, by rw [zI1, if_pos rfl, updE, if_neg (by omega)]; exact g4, _, _, z1.tr (rch.s (by rw [stp]; exact rch.rf)), mI2.1, z3, w4.k k5, M4.k k5, Or.inl ⟨rfl, rfl, by rw [zI1, if_pos rfl, updE, if_pos rfl]⟩⟩
    · rw [if_neg hno, if_pos rfl]
      by_cases h91 : sgn t n (sk t n p') = 91
      · have hqn := (sgn_t h.2.1 (c := 91) h91 (by omega)).1
        rw [if_neg (fun x => x h91), show (91 : Int32) = nI (wM 0) from rfl]
        obtain ⟨⟨v, s4⟩, r4, k4, hh⟩ := m_opn (k := 0) hn4 hq (Or.inl rfl) w3 hdp (by omega) p3 q3 M3
        dsimp only at k4 hh
        rw [r4, zcl_s]
        dsimp only
        rcases hh with ⟨h10, rfl, g4⟩ | ⟨h10, rfl, g4, g8, w4, M4⟩
        · right
          rw [if_neg (fun x => x rfl), zbl_0]
          refine rt_s ⟨kk3.tr k4, Or.inl ⟨1 + 8 * sk t n p' + 2, z1.tr (rch.s ?_), rfl, by omega, by omega, g4⟩⟩
          rw [stq]
          unfold fbF
          rw [if_pos h91, if_pos h10]
          exact rch.rf
        · left
          have stp : stpF t n (p', W', parts, sm, 1, ro) = .inr (sk t n p' + 1, 0 :: W', parts, sm, 1, ro) := by
            rw [stq]
            unfold fbF
            rw [if_pos h91, if_neg h10]
          have mI2 := stp_mI z2 (show ¬ (1 : Nat) = 4 by omega) stp
          rw [if_pos (show ¬ (1 : Int32) = 0 by decide)]
          simp only [zwi, g8, nI_1]
          have k5 : mK s4 (zsI s4 216 8 (nI (sk t n p' + 1))) := mK.rf.I (by omega)
          refine ⟨1, _, 2 * (sk t n p' + 1), rfl, by omega, (kk3.tr k4).tr k5.v.t, by rw [zI1, if_pos rfl, updE, if_neg (by omega)]; exact g4, _, _, z1.tr (rch.s (by rw [stp]; exact rch.rf)), mI2.1, z3, w4.k k5, M4.k k5, Or.inl ⟨rfl, rfl, by rw [zI1, if_pos rfl, updE, if_pos rfl]⟩⟩
      · left
        rw [if_pos h91]
        exact ⟨0, s3, 2 * p' + 1, rfl, by omega, kk3, q3, p', W', z1, z2, z3, w3, M3, Or.inr ⟨rfl, rfl, p3, h91, hno⟩⟩
  · right
    rw [if_pos rfl]
    have stp : stpF t n (p', W', parts, sm, 1, ro) = stpF t n (p', W', parts, 1, 0, ro) := by
      show fbF t n (sk t n p') W' parts sm ro = tvF t n (sk t n p') W' parts 1 ro
      unfold fbF
      rw [if_neg n91, if_neg nno]
    have mI0 : mI n (p', W', parts, 1, 0, ro) := by
      obtain ⟨i1, i2, i3, i4, i5, i6, i7, i8, i9⟩ := z2
      exact ⟨i1, i2, i3, i4, by show 1 ≤ 2; omega, by show 0 ≤ 4; omega, i7, (fun e => by cases e), i9⟩
    refine rt_cl (m_compare hR h2 mI0 w2.1.b hnp (Or.inr y8) q2 M2) ?_
    rintro v s3 ⟨k3, ⟨f, m1, rfl, f0, f1, f2⟩ | ⟨rfl, q3, r, parts', W1, ro1, l, u1, u2, u3, u4, u5, u6, u7, u8⟩⟩
    · exact rt_bl ⟨k2.tr k3.t, Or.inl ⟨f, z1.tr (rch.s (by rw [stp]; exact m1)), rfl, f0, f1, f2⟩⟩ (Or.inl rfl)
    · exact rt_bl ⟨k2.tr k3.t, Or.inr ⟨rfl, q3, W', r, parts', W1, ro1, l, z1.tr (rch.s (by rw [stp]; exact u1)), u2, u3, u4, z3, u5, u6, u7, u8, w2.v k3⟩⟩ (Or.inr rfl)
end SA
