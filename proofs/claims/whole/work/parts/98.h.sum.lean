/-! rule: sums, comparisons. -/
section RX
variable {t : Nat → Nat} {n R : Nat} {s : ZS}
theorem np_app {l l2 : List ZQo} : np (l ++ l2) = np l + np l2 := by
  induction l with
  | nil => show np l2 = 0 + np l2; omega
  | cons x l ih => show np (l ++ l2) + _ = np l + _ + np l2; rw [ih]; omega
/-- on the way the place only grows -/
theorem orb {c : ZG} (h : mI n c) : ∀ (k : Nat) (c' : ZG), mrun t n k (.inr c) = .inr c' → mI n c' ∧ (c'.2.2.2.2.1 = 4 ∨ c.1 ≤ c'.1) := by
  intro k
  induction k with
  | zero => intro c' e; injection e with e; rw [← e]; exact ⟨h, Or.inr (Nat.le_refl _)⟩
  | succ k ih =>
    intro c' e
    rw [mrunS] at e
    cases hd : mrun t n k (.inr c) with
    | inl f => rw [hd] at e; cases e
    | inr d =>
      rw [hd] at e
      obtain ⟨i1, i2⟩ := ih d hd
      have e' : stpF t n d = .inr c' := e
      by_cases h4 : d.2.2.2.2.1 = 4
      · rw [show stpF t n d = .inr d by unfold stpF; rw [h4]; rfl] at e'
        injection e' with e'
        rw [← e']
        exact ⟨i1, Or.inl h4⟩
      · obtain ⟨j1, j2⟩ := stp_mI i1 h4 e'
        refine ⟨j1, j2.imp (fun x => x) (fun x => ?_)⟩
        have := i2.resolve_left h4
        omega
theorem rch.g {c : ZG} {r parts sm : Nat} {W : List Nat} {ro : List ZQo} (h : mI n c) (hr : rch t n (stpF t n c) (.inr (r, W, parts, sm, 2, ro))) : c.1 ≤ r := by
  obtain ⟨k, hk⟩ := hr.s
  exact (orb h k _ hk).2.resolve_left (show ¬ (2 : Nat) = 4 by omega)
theorem m_sum {p parts sm : Nat} {W0 : List Nat} {ro0 : List ZQo} (hR : R < 6) (h : tpM t n s) (hI : mI n (p, W0, parts, sm, 0, ro0)) (hW : tpB 5 W0) (hnp : np ro0 ≤ parts) (e : s.1 216 8 = nI p ∨ s.1 216 8 = nI (sk t n p)) (e9 : s.1 216 9 = 0) (hM : MS R parts ro0 s) : rt (f_Model_sum s) (fun w => mO (t := t) (n := n) R s (stpF t n (p, W0, parts, sm, 0, ro0)) (fun x => sQ t n R 5 (stpF t n (p, W0, parts, sm, 0, ro0)) W0 sm ro0 (fun r => opK (sgn t n (sk t n r)) = 0) x) w) := by
  have hn4 := h.1
  unfold f_Model_sum
  refine rt_cl (m_term hR h hI (hW.m (by omega)) hnp e e9 hM) ?_
  generalize stpF t n (p, W0, parts, sm, 0, ro0) = X
  rintro v s1 ⟨k1, ⟨f, m1, rfl, f0, f1, f2⟩ | ⟨rfl, x3, r0, parts0, W1, ro1, l, z1, z2, z3, z4, z5, z6, z7, z8⟩⟩
  · dsimp only at k1 f2
    simp only [not_true_eq_false, ↓reduceIte, zbl_0]
    exact rt_s ⟨k1, Or.inl ⟨f, m1, rfl, f0, f1, f2⟩⟩
  · dsimp only at k1 x3 z6 z7
    simp only [i10, not_false_eq_true, ↓reduceIte]
    refine lp_rank (n := 400) (r0 := r0) (fun r _ s2 => kV R s s2 ∧ s2.1 216 9 = 0 ∧ s2.1 216 8 = nI (sk t n r) ∧ ∃ parts' W1 ro1 l, rch t n X (.inr (r, W1, parts', sm, 2, ro1)) ∧ mI n (r, W1, parts', sm, 2, ro1) ∧ rls 5 W1 ro1 = (W0, l ++ ro0) ∧ sumT l ∧ np (l ++ ro0) ≤ parts' ∧ MS R parts' (l ++ ro0) s2 ∧ ¬ sgn t n (sk t n r) = 42 ∧ ¬ sgn t n (sk t n r) = 47 ∧ ¬ sgn t n (sk t n r) = 37) (fun o => rt o (fun w => mO (t := t) (n := n) R s X (fun x => sQ t n R 5 X W0 sm ro0 (fun r => opK (sgn t n (sk t n r)) = 0) x) w)) (by omega) ⟨k1, x3, z6, parts0, W1, ro1, l, z1, z2, by rw [rls_eq (b := 5) (by omega) z3, hW.r], z4, z5, z7, z8⟩ (fun r _ s2 hh => by obtain ⟨_, _, _, _, _, _, _, _, hm, _⟩ := hh; have := hm.1; dsimp only at this; omega) ?_
    clear z1 z2 z3 z4 z5 z6 z7 z8 x3 k1
    rintro r ⟨⟩ s3 g ⟨k2, q3, p3, parts', W1, ro1, l, z1, z2, z3, z4, z5, M3, n42, n47, n37⟩
    have hr : r ≤ n := z2.1
    have h3 := h.v k2
    obtain ⟨skr, hqr, _, _⟩ := sk_s (t := t) hr
    have hqqr := sk_sk (t := t) hr
    have nx3 : f_Model_see s3 = some (sgn t n (sk t n r), s3) := by
      have := m_next h3 hqr p3
      rw [hqqr, zsI_self p3] at this
      exact this
    have go : ∀ k : Nat, opK (sgn t n (sk t n r)) = k → bnd k = 5 → 2 ≤ k ∧ k ≤ 6 → sk t n r < n → (∃ a' s' r', (zwi s3 216 8 (nI (sk t n r) + (1 : Int32)) (fun (s16 : ZS) => zcl (f_Model_term s16) (fun (v18 : Int32) (s17 : ZS) => (if ¬ v18 = 0 then zcv (f_Model_puts (nI (sM k)) (0 : Int32) s17) (fun (s19 : ZS) => g () s19) else zbl (0 : Int32) s17)))) = g a' s' ∧ r < r' ∧ (kV R s s' ∧ s'.1 216 9 = 0 ∧ s'.1 216 8 = nI (sk t n r') ∧ ∃ parts' W1 ro1 l, rch t n X (.inr (r', W1, parts', sm, 2, ro1)) ∧ mI n (r', W1, parts', sm, 2, ro1) ∧ rls 5 W1 ro1 = (W0, l ++ ro0) ∧ sumT l ∧ np (l ++ ro0) ≤ parts' ∧ MS R parts' (l ++ ro0) s' ∧ ¬ sgn t n (sk t n r') = 42 ∧ ¬ sgn t n (sk t n r') = 47 ∧ ¬ sgn t n (sk t n r') = 37)) ∨ rt (zwi s3 216 8 (nI (sk t n r) + (1 : Int32)) (fun (s16 : ZS) => zcl (f_Model_term s16) (fun (v18 : Int32) (s17 : ZS) => (if ¬ v18 = 0 then zcv (f_Model_puts (nI (sM k)) (0 : Int32) s17) (fun (s19 : ZS) => g () s19) else zbl (0 : Int32) s17)))) (fun w => mO (t := t) (n := n) R s X (fun x => sQ t n R 5 X W0 sm ro0 (fun r => opK (sgn t n (sk t n r)) = 0) x) w) := by
      intro k hk hb hk2 hqn
      have st1 := mop (parts := parts') (sm := sm) hk (by omega) hb z3
      have mIa := (stp_mI z2 (show ¬ (2 : Nat) = 4 by omega) st1).1
      simp only [zwi, nI_1]
      have k4 : mK s3 (zsI s3 216 8 (nI (sk t n r + 1))) := mK.rf.I (by omega)
      obtain ⟨⟨v, s5⟩, r5, k5, hh⟩ := m_term (p := sk t n r + 1) hR (h3.k k4) mIa (tpB.c (by omega)) z5 (Or.inl (by rw [zI1, if_pos rfl, updE, if_pos rfl])) (by rw [zI1, if_pos rfl, updE, if_neg (by omega)]; exact q3) (M3.k k4)
      dsimp only at k5 hh
      rw [r5, zcl_s]
      have kk5 := (k2.tr k4.v).tr k5
      have rX : ∀ y, rch t n (stpF t n (sk t n r + 1, k :: W0, parts', sm, 0, l ++ ro0)) y → rch t n X y := fun y hy => by
        refine z1.tr (rch.s ?_)
        rw [st1]
        exact rch.s hy
      rcases hh with ⟨f, m2, rfl, f0, f1, f2⟩ | ⟨rfl, y3, r2, parts2, W2, ro2, l2, u1, u2, u3, u4, u5, u6, u7, u8⟩
      · right
        simp only [not_true_eq_false, ↓reduceIte, zbl_0]
        exact rt_s ⟨kk5, Or.inl ⟨f, rX _ m2, rfl, f0, f1, f2⟩⟩
      · left
        have ln := (rls_i (b := 6) (by omega) W2 ro2 u2.2.1).2.1
        rw [u3] at ln
        have ln' : (W0.length + 1) + (l2 ++ (l ++ ro0)).length = W2.length + ro2.length := ln
        have lm : ro2.length + W2.length + 1 ≤ r2 := u2.2.2.2.2.2.2.1
        have lr : r2 ≤ n := u2.1
        obtain ⟨s6, r6, k6, M6, j6⟩ := m_puts (k := k) (v := 0) hR (by omega) (by omega) (show (l2 ++ (l ++ ro0)).length < 400 by omega) u7
        simp only [i10, not_false_eq_true, ↓reduceIte]
        rw [show (0 : Int32) = nI 0 from rfl, r6, zcv_s]
        have asc : (k, 0) :: (l2 ++ (l ++ ro0)) = ((k, 0) :: (l2 ++ l)) ++ ro0 := by
          show (k, 0) :: (l2 ++ (l ++ ro0)) = (k, 0) :: ((l2 ++ l) ++ ro0)
          rw [List.append_assoc]
        have hlt : r < r2 := by
          refine Nat.lt_of_le_of_lt skr ?_
          have : (sk t n r + 1) ≤ r2 := u1.g mIa
          omega
        refine ⟨(), s6, r2, rfl, hlt, kk5.tr k6, by rw [j6]; exact y3, by rw [j6]; exact u6, parts2, W2, ro2, (k, 0) :: (l2 ++ l), rX _ u1, u2, ?_, sumT_o z4 u4 hk2, ?_, ?_, u8⟩
        · rw [rls_eq (b := 5) (by omega) u3, show rls 5 (k :: W0) (l2 ++ (l ++ ro0)) = rls 5 W0 ((k, 0) :: (l2 ++ (l ++ ro0))) from if_pos (by omega), hW.r, asc]
        · rw [← asc, np_k hk2.1]; exact u5
        · rw [← asc]; exact M6
    have rdT : ∀ c : Nat, sgn t n (sk t n r) = nI c → c < 128 → sk t n r < n ∧ s3.1 217 (sk t n r) = nI c := fun c hc hc2 => by
      have hqn : sk t n r < n := sgn_lt hc (by rw [nI_n1 (by omega)]; exact fun x => x)
      have hb := h.2.1 (sk t n r)
      have ht : t (sk t n r) = c := by
        rw [show sgn t n (sk t n r) = nI (t (sk t n r)) from if_pos hqn, nI_inj (by omega) (by omega)] at hc
        exact hc
      exact ⟨hqn, by rw [h3.2.2.2, ht, tI_n hc2]⟩
    unfold f_Model_sum_B9
    rw [nx3, zcl_s]
    simp only [zj0, zgi, p3, zjn]
    by_cases h43 : sgn t n (sk t n r) = 43
    · obtain ⟨hqn, hT⟩ := rdT 43 h43 (by omega)
      rw [if_pos h43, zrd_n (by omega) (by omega), hT, if_neg (show ¬ ¬ nI 43 = 43 from fun x => x rfl)]
      exact go 2 (by rw [h43]; rfl) rfl (by omega) hqn
    · rw [if_neg h43, nx3, zcl_s]
      dsimp only
      by_cases h45 : sgn t n (sk t n r) = 45
      · obtain ⟨hqn, hT⟩ := rdT 45 h45 (by omega)
        rw [if_neg (show ¬ ¬ sgn t n (sk t n r) = 45 from fun x => x h45), p3, zrd_n (by omega) (by omega), hT, if_pos (show ¬ nI 45 = 43 by decide)]
        exact go 3 (by rw [h45]; rfl) rfl (by omega) hqn
      · right
        rw [if_pos h45, zbl_1]
        refine rt_s ⟨k2, Or.inr ⟨rfl, q3, r, parts', W1, ro1, l, z1, z2, z3, z4, z5, p3, M3, ?_⟩⟩
        show opK (sgn t n (sk t n r)) = 0
        unfold opK
        rw [if_neg n37, if_neg n42, if_neg h43, if_neg h45, if_neg n47]
end RX
