/-! rule: comparisons. -/
section RY
variable {t : Nat → Nat} {n R : Nat} {s : ZS}
/-- behind a comparison -/
def sF (t : Nat → Nat) (n R : Nat) (X : Sum Nat ZG) (W0 : List Nat) (ro0 : List ZQo) (w : ZS) : Prop :=
  ∃ r parts W1 ro1 l, rch t n X (.inr (r, W1, parts, 2, 2, ro1)) ∧ mI n (r, W1, parts, 2, 2, ro1) ∧ rls 4 W1 ro1 = (W0, l ++ ro0) ∧ facT l ∧ np (l ++ ro0) ≤ parts ∧ w.1 216 8 = nI (sk t n r) ∧ MS R parts (l ++ ro0) w ∧ opK (sgn t n (sk t n r)) = 0
theorem cmK_s {q k : Nat} (h : cmK t n q = k) (hk : ¬ k = 0) : k = 7 ∨ k = 8 ∨ k = 9 ∨ k = 10 ∨ k = 11 := by
  have := (cmK_b (by rw [h]; exact hk)).2.1
  rw [h] at this
  omega
theorem m_compare {p parts : Nat} {W0 : List Nat} {ro0 : List ZQo} (hR : R < 6) (h : tpM t n s) (hI : mI n (p, W0, parts, 1, 0, ro0)) (hW : tpB 4 W0) (hnp : np ro0 ≤ parts) (e : s.1 216 8 = nI p ∨ s.1 216 8 = nI (sk t n p)) (e9 : s.1 216 9 = 0) (hM : MS R parts ro0 s) : rt (f_Model_compare s) (fun w => mO (t := t) (n := n) R s (stpF t n (p, W0, parts, 1, 0, ro0)) (fun x => sF t n R (stpF t n (p, W0, parts, 1, 0, ro0)) W0 ro0 x) w) := by
  have hn4 := h.1
  unfold f_Model_compare
  refine rt_cl (m_sum hR h hI (hW.m (by omega)) hnp e e9 hM) ?_
  generalize stpF t n (p, W0, parts, 1, 0, ro0) = X
  rintro v s1 ⟨k1, ⟨f, m1, rfl, f0, f1, f2⟩ | ⟨rfl, q3, r, parts', W1, ro1, l, z1, z2, z3, z4, z5, p3, M3, z8⟩⟩
  · dsimp only at k1 f2
    simp only [not_true_eq_false, ↓reduceIte, zbl_0]
    exact rt_s ⟨k1, Or.inl ⟨f, m1, rfl, f0, f1, f2⟩⟩
  · dsimp only at k1 q3 p3 M3
    simp only [i10, not_false_eq_true, ↓reduceIte]
    have hr : r ≤ n := z2.1
    have h3 := h.v k1
    obtain ⟨skr, hqr, _, _⟩ := sk_s (t := t) hr
    have hqqr := sk_sk (t := t) hr
    have nx3 : f_Model_see s1 = some (sgn t n (sk t n r), s1) := by
      have := m_next h3 hqr p3
      rw [hqqr, zsI_self p3] at this
      exact this
    have r4 : rls 4 W1 ro1 = (W0, l ++ ro0) := by rw [rls_eq (b := 4) (by omega) z3, hW.r]
    have stq : stpF t n (r, W1, parts', 1, 2, ro1) = (if cmK t n (sk t n r) = 0 then .inl (1 + 8 * sk t n r) else if 60 ≤ parts' then .inl (1 + 8 * sk t n r + 3) else .inr (sk t n r + (if cmK t n (sk t n r) = 8 ∨ cmK t n (sk t n r) = 10 then 2 else 1), cmK t n (sk t n r) :: W0, parts' + 1, 2, 0, l ++ ro0)) := by
      rw [stp2]
      unfold bvF
      rw [if_neg (fun x => x z8), if_neg (show ¬ (1 : Nat) = 0 by omega), if_pos rfl, r4]
    have go : ∀ (k d : Nat) (A : Int32) (sx : ZS), cmK t n (sk t n r) = k → ¬ k = 0 → (if k = 8 ∨ k = 10 then 2 else 1) = d → (6 : Int32) + A = nI (sM k) → mK s1 sx → sx.1 216 8 = nI (sk t n r + d) → sx.1 216 9 = 0 → rt (zcl (f_Model_makes (nI (sk t n r)) sx) (fun v16 s15 => if ¬ v16 = 0 then zcl (f_Model_sum s15) (fun v21 s20 => if ¬ v21 = 0 then zcv (f_Model_puts ((6 : Int32) + A) (0 : Int32) s20) (fun s22 => zbl (1 : Int32) s22) else zbl (0 : Int32) s20) else zbl (0 : Int32) s15)) (fun w => mO (t := t) (n := n) R s X (fun x => sF t n R X W0 ro0 x) w) := by
      intro k d A sx hk hk0 hd hA kx p4 q4
      rw [hk, if_neg hk0, hd] at stq
      refine rt_cl (m_makes (q := sk t n r) hn4 hqr z2.2.2.2.1 (M3.k kx) q4) ?_
      rintro v s5 ⟨k5, j5, ⟨h60, rfl, g4⟩ | ⟨h60, rfl, g4, M5⟩⟩
      · dsimp only at k5 g4
        simp only [not_true_eq_false, ↓reduceIte, zbl_0]
        refine rt_s ⟨(k1.tr kx.v).tr k5, Or.inl ⟨_, z1.tr (rch.s ?_), rfl, by omega, by omega, g4⟩⟩
        rw [stq, if_pos h60]; exact rch.rf
      · dsimp only at k5 g4 M5 j5
        rw [if_neg h60] at stq
        simp only [i10, not_false_eq_true, ↓reduceIte]
        have mIa := (stp_mI z2 (show ¬ (2 : Nat) = 4 by omega) stq).1
        have hks := cmK_s hk hk0
        have hbk : bnd k = 4 := by
          have := (cmK_b (t := t) (n := n) (q := sk t n r) (by rw [hk]; exact hk0)).2.2.1
          rw [hk] at this
          exact this
        refine rt_cl (m_sum (p := sk t n r + d) hR (h3.v (kx.v.tr k5 (R := R))) mIa (tpB.c (by omega)) (by omega) (Or.inl (by rw [j5 8 (by omega) (by omega)]; exact p4)) g4 M5) ?_
        have rX : ∀ y, rch t n (stpF t n (sk t n r + d, k :: W0, parts' + 1, 2, 0, l ++ ro0)) y → rch t n X y := fun y hy => by
          refine z1.tr (rch.s ?_)
          rw [stq]
          exact rch.s hy
        rintro v s6 ⟨k6, ⟨f, m2, rfl, f0, f1, f2⟩ | ⟨rfl, y3, r2, parts2, W2, ro2, l2, u1, u2, u3, u4, u5, u6, u7, u8⟩⟩
        · dsimp only at k6 f2
          simp only [not_true_eq_false, ↓reduceIte, zbl_0]
          exact rt_s ⟨((k1.tr kx.v).tr k5).tr k6, Or.inl ⟨f, rX _ m2, rfl, f0, f1, f2⟩⟩
        · dsimp only at k6 y3 u6 u7
          have ln := (rls_i (b := 5) (by omega) W2 ro2 u2.2.1).2.1
          rw [u3] at ln
          have ln' : (W0.length + 1) + (l2 ++ (l ++ ro0)).length = W2.length + ro2.length := ln
          have lm : ro2.length + W2.length + 1 ≤ r2 := u2.2.2.2.2.2.2.1
          have lr : r2 ≤ n := u2.1
          obtain ⟨s7, r7, k7, M7, j7⟩ := m_puts (k := k) (v := 0) hR (by omega) (by omega) (show (l2 ++ (l ++ ro0)).length < 400 by omega) u7
          simp only [i10, not_false_eq_true, ↓reduceIte]
          rw [hA, show (0 : Int32) = nI 0 from rfl, r7, zcv_s, zbl_1]
          have asc : (k, 0) :: (l2 ++ (l ++ ro0)) = ((k, 0) :: (l2 ++ l)) ++ ro0 := by
            show (k, 0) :: (l2 ++ (l ++ ro0)) = (k, 0) :: ((l2 ++ l) ++ ro0)
            rw [List.append_assoc]
          refine rt_s ⟨(((k1.tr kx.v).tr k5).tr k6).tr k7, Or.inr ⟨rfl, by show s7.1 216 9 = 0; rw [j7]; exact y3, r2, parts2, W2, ro2, (k, 0) :: (l2 ++ l), rX _ u1, u2, ?_, facT_o z4 u4 (by omega), ?_, by show s7.1 216 8 = _; rw [j7]; exact u6, ?_, u8⟩⟩
          · rw [rls_eq (b := 4) (by omega) u3, show rls 4 (k :: W0) (l2 ++ (l ++ ro0)) = rls 4 W0 ((k, 0) :: (l2 ++ (l ++ ro0))) from if_pos (by omega), hW.r, asc]
          · rw [← asc, np_k (by omega)]; exact u5
          · rw [← asc]; exact M7
    rw [nx3, zcl_s]
    simp only [zj0, zgi, p3, zjn]
    have kA : mK s1 (zsI s1 216 8 (nI (sk t n r + 1))) := mK.rf.I (by omega)
    have pA : (zsI s1 216 8 (nI (sk t n r + 1))).1 216 8 = nI (sk t n r + 1) := by rw [zI1, if_pos rfl, updE, if_pos rfl]
    have qA : (zsI s1 216 8 (nI (sk t n r + 1))).1 216 9 = 0 := by rw [zI1, if_pos rfl, updE, if_neg (by omega)]; exact q3
    have hA := h3.k kA
    have tw : ∀ (sx : ZS) (A B : Option (Int32 × ZS)), mK s1 sx → sx.1 216 8 = nI (sk t n r + 1) → sk t n r < n → (if sx.1 216 1 ≤ sx.1 216 8 then A else zrd 400 (sx.1 216 8) (sx.1 217) (fun v30 => if ¬ v30 = (61 : Int32) then A else B)) = (if sk t n r + 1 < n ∧ t (sk t n r + 1) = 61 then B else A) := by
      intro sx A B kx px hqn
      have hx := h3.k kx
      simp only [hx.2.2.1, px, nI_leI (show n < 2147483648 by omega) (show sk t n r + 1 < 2147483648 by omega)]
      by_cases hh : sk t n r + 1 < n
      · rw [if_neg (by omega), zrd_n (by omega) (by omega), hx.2.2.2]
        simp only [show (61 : Int32) = nI 61 from rfl, tI_eq (h.2.1 _) (show 61 < 128 by omega)]
        by_cases h61 : t (sk t n r + 1) = 61
        · rw [if_neg (fun x => x h61), if_pos ⟨hh, h61⟩]
        · rw [if_pos h61, if_neg (fun x => h61 x.2)]
      · rw [if_pos (by omega), if_neg (fun x => hh x.1)]
    have kB : ∀ sx, mK s1 sx → mK s1 (zsI sx 216 8 (nI (sk t n r + 1 + 1))) := fun sx kx => kx.I (by omega)
    by_cases h60 : sgn t n (sk t n r) = 60
    · clear hI
      have hqn : sk t n r < n := sgn_lt h60 (by decide)
      simp only [h60, ↓reduceIte, zwi, nI_1, show ¬ ((60 : Int32) = 61) by decide, not_true_eq_false, i10, not_false_eq_true]
      rw [tw _ _ _ kA pA hqn]
      by_cases h2 : sk t n r + 1 < n ∧ t (sk t n r + 1) = 61
      · rw [if_pos h2, pA, nI_1]
        exact go 8 2 1 _ (by unfold cmK; simp only [h60, show ¬ ((60 : Int32) = 61) by decide, ↓reduceIte]; exact if_pos h2) (by omega) rfl rfl (kB _ kA) (by rw [zI1, if_pos rfl, updE, if_pos rfl]) (by rw [zI1, if_pos rfl, updE, if_neg (by omega)]; exact qA)
      · rw [if_neg h2]
        exact go 7 1 0 _ (by unfold cmK; simp only [h60, show ¬ ((60 : Int32) = 61) by decide, ↓reduceIte]; exact if_neg h2) (by omega) rfl rfl kA pA qA
    · by_cases h61 : sgn t n (sk t n r) = 61
      · have hqn : sk t n r < n := sgn_lt h61 (by decide)
        simp only [h61, ↓reduceIte, zwi, nI_1, show ¬ ((61 : Int32) = 60) by decide, not_true_eq_false, i10, not_false_eq_true]
        exact go 9 1 2 _ (by unfold cmK; simp only [h61, show ¬ ((61 : Int32) = 60) by decide, ↓reduceIte]) (by omega) rfl rfl kA pA qA
      · by_cases h62 : sgn t n (sk t n r) = 62
        · clear hI
          have hqn : sk t n r < n := sgn_lt h62 (by decide)
          simp only [h62, ↓reduceIte, zwi, nI_1, show ¬ ((62 : Int32) = 61) by decide, show ¬ ((62 : Int32) = 60) by decide, not_true_eq_false, i10, not_false_eq_true]
          rw [tw _ _ _ kA pA hqn]
          by_cases h2 : sk t n r + 1 < n ∧ t (sk t n r + 1) = 61
          · rw [if_pos h2, pA, nI_1]
            exact go 10 2 3 _ (by unfold cmK; simp only [h62, show ¬ ((62 : Int32) = 61) by decide, show ¬ ((62 : Int32) = 60) by decide, ↓reduceIte]; exact if_pos h2) (by omega) rfl rfl (kB _ kA) (by rw [zI1, if_pos rfl, updE, if_pos rfl]) (by rw [zI1, if_pos rfl, updE, if_neg (by omega)]; exact qA)
          · rw [if_neg h2]
            exact go 11 1 4 _ (by unfold cmK; simp only [h62, show ¬ ((62 : Int32) = 61) by decide, show ¬ ((62 : Int32) = 60) by decide, ↓reduceIte]; exact if_neg h2) (by omega) rfl rfl kA pA qA
        · rw [if_neg h60, if_neg h61, if_neg h62, show (0 : Int32) = nI 0 from rfl, m_fails q3, zcl_s]
          refine rt_bl ⟨k1.tr (mK.rf.I (by omega)).v, Or.inl ⟨1 + 8 * sk t n r, z1.tr (rch.s ?_), rfl, by omega, by omega, by rw [zI1, if_pos rfl, updE, if_pos rfl]; rfl⟩⟩ (Or.inl rfl)
          rw [stq, if_pos (show cmK t n (sk t n r) = 0 by unfold cmK; rw [if_neg h60, if_neg h61, if_neg h62])]
          exact rch.rf
end RY
