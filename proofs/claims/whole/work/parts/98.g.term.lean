/-! rule: terms, sums. -/
section RW
variable {t : Nat → Nat} {n R : Nat} {s : ZS}
/-- behind a sum: the machine lags by what binds so tightly -/
def sQ (t : Nat → Nat) (n R b : Nat) (X : Sum Nat ZG) (W0 : List Nat) (sm : Nat) (ro0 : List ZQo) (C : Nat → Prop) (w : ZS) : Prop :=
  ∃ r parts W1 ro1 l, rch t n X (.inr (r, W1, parts, sm, 2, ro1)) ∧ mI n (r, W1, parts, sm, 2, ro1) ∧ rls b W1 ro1 = (W0, l ++ ro0) ∧ sumT l ∧ np (l ++ ro0) ≤ parts ∧ w.1 216 8 = nI (sk t n r) ∧ MS R parts (l ++ ro0) w ∧ C r
theorem stp2 {r parts sm : Nat} {W : List Nat} {ro : List ZQo} : stpF t n (r, W, parts, sm, 2, ro) = bvF t n (sk t n r) W parts sm ro := rfl
theorem stp0 {r parts sm : Nat} {W : List Nat} {ro : List ZQo} : stpF t n (r, W, parts, sm, 0, ro) = tvF t n (sk t n r) W parts sm ro := rfl
/-- an operator, as the machine takes it -/
theorem mop {r parts sm k b : Nat} {W1 W0 : List Nat} {ro1 ro' : List ZQo} (hk : opK (sgn t n (sk t n r)) = k) (hk0 : ¬ k = 0) (hb : bnd k = b) (hr : rls b W1 ro1 = (W0, ro')) : stpF t n (r, W1, parts, sm, 2, ro1) = .inr (sk t n r + 1, k :: W0, parts, sm, 0, ro') := by
  rw [stp2]
  unfold bvF
  rw [hk, if_pos hk0, hb, hr]
theorem tv_x {q parts : Nat} {x : Nat × ZQo} (hx : x.2.1 = 0 ∧ x.2.2 < 100000 ∨ x.2.1 = 1 ∧ x.2.2 < 11) : sumT [x.2] := sumT_1 (hx.imp (fun h => h.1) (fun h => h))
theorem np_x {x : ZQo} {l : List ZQo} {parts : Nat} (hl : np l ≤ parts) : np (x :: l) ≤ parts + 1 := by
  show np l + (if x.1 ≤ 1 then 1 else 0) ≤ parts + 1
  split <;> omega
theorem np_k {k : Nat} {l : List ZQo} (hk : 2 ≤ k) : np ((k, 0) :: l) = np l := by
  show np l + (if k ≤ 1 then 1 else 0) = np l
  rw [if_neg (by omega)]; rfl
theorem m_term {p parts sm : Nat} {W0 : List Nat} {ro0 : List ZQo} (hR : R < 6) (h : tpM t n s) (hI : mI n (p, W0, parts, sm, 0, ro0)) (hW : tpB 6 W0) (hnp : np ro0 ≤ parts) (e : s.1 216 8 = nI p ∨ s.1 216 8 = nI (sk t n p)) (e9 : s.1 216 9 = 0) (hM : MS R parts ro0 s) : rt (f_Model_term s) (fun w => mO (t := t) (n := n) R s (stpF t n (p, W0, parts, sm, 0, ro0)) (fun x => sQ t n R 6 (stpF t n (p, W0, parts, sm, 0, ro0)) W0 sm ro0 (fun r => ¬ sgn t n (sk t n r) = 42 ∧ ¬ sgn t n (sk t n r) = 47 ∧ ¬ sgn t n (sk t n r) = 37) x) w) := by
  have hn4 := h.1
  have hI0 := hI
  obtain ⟨i1, i2, i3, i4, i5, i6, i7, i8, i9⟩ := hI
  dsimp only at i1 i2 i3 i4 i5 i7 i9
  obtain ⟨sk1, hq, _, _⟩ := sk_s (t := t) i1
  have hqq := sk_sk (t := t) i1
  have val : rt (f_Model_value s) (fun w => kV R s w.2 ∧ ((∃ f, tvR t n (sk t n p) parts = .inl f ∧ w.1 = 0 ∧ 0 < f ∧ f < 100000 ∧ w.2.1 216 9 = nI f) ∨ ∃ x, tvR t n (sk t n p) parts = .inr x ∧ (x.2.1 = 0 ∧ x.2.2 < 100000 ∨ x.2.1 = 1 ∧ x.2.2 < 11) ∧ x.1 ≤ n ∧ w.1 = 1 ∧ w.2.1 216 9 = 0 ∧ w.2.1 216 8 = nI x.1 ∧ MS R (parts + 1) (x.2 :: ro0) w.2)) := by
    rcases e with e | e
    · exact m_value hR h i1 e e9 hM i4 (by omega)
    · have := m_value hR h hq e e9 hM i4 (by omega)
      rw [hqq] at this
      exact this
  unfold f_Model_term
  refine rt_cl val ?_
  rintro v s1 ⟨k1, ⟨f, m1, rfl, f0, f1, f2⟩ | ⟨x, m1, hx, x1, rfl, x3, x4, x5⟩⟩
  · dsimp only at k1 f2
    simp only [not_true_eq_false, ↓reduceIte, zbl_0]
    refine rt_s ⟨k1, Or.inl ⟨f, ?_, rfl, f0, f1, f2⟩⟩
    rw [stp0, tvF_R, m1]; exact rch.rf
  · dsimp only at k1 x3 x4 x5
    have X1 : stpF t n (p, W0, parts, sm, 0, ro0) = .inr (x.1, W0, parts + 1, sm, 2, x.2 :: ro0) := by rw [stp0, tvF_R, m1]; rfl
    have mI1 := (stp_mI hI0 (show ¬ (0 : Nat) = 4 by omega) X1).1
    simp only [i10, not_false_eq_true, ↓reduceIte]
    generalize hX : stpF t n (p, W0, parts, sm, 0, ro0) = X at X1
    refine lp_rank (n := 400) (r0 := x.1) (fun r _ s2 => kV R s s2 ∧ s2.1 216 9 = 0 ∧ s2.1 216 8 = nI r ∧ ∃ parts' W1 ro1 l, rch t n X (.inr (r, W1, parts', sm, 2, ro1)) ∧ mI n (r, W1, parts', sm, 2, ro1) ∧ rls 6 W1 ro1 = (W0, l ++ ro0) ∧ sumT l ∧ np (l ++ ro0) ≤ parts' ∧ MS R parts' (l ++ ro0) s2) (fun o => rt o (fun w => mO (t := t) (n := n) R s X (fun x => sQ t n R 6 X W0 sm ro0 (fun r => ¬ sgn t n (sk t n r) = 42 ∧ ¬ sgn t n (sk t n r) = 47 ∧ ¬ sgn t n (sk t n r) = 37) x) w)) (by omega) ⟨k1, x3, x4, parts + 1, W0, x.2 :: ro0, [x.2], by rw [X1]; exact rch.rf, mI1, hW.r _, tv_x (q := 0) (parts := 0) hx, np_x hnp, x5⟩ (fun r _ s2 hh => by obtain ⟨_, _, _, _, _, _, _, _, hm, _⟩ := hh; have := hm.1; dsimp only at this; omega) ?_
    rintro r ⟨⟩ s2 g ⟨k2, y9, y8, parts', W1, ro1, l, z1, z2, z3, z4, z5, z6⟩
    have hr : r ≤ n := z2.1
    have h2 := h.v k2
    obtain ⟨skr, hqr, _, _⟩ := sk_s (t := t) hr
    have hqqr := sk_sk (t := t) hr
    have nx := m_next h2 hr y8
    unfold f_Model_term_B9
    rw [nx, zcl_s]
    dsimp only
    -- the state behind the blanks
    have k3 : mK s2 (zsI s2 216 8 (nI (sk t n r))) := mK.rf.I (by omega)
    have p3 : (zsI s2 216 8 (nI (sk t n r))).1 216 8 = nI (sk t n r) := by rw [zI1, if_pos rfl, updE, if_pos rfl]
    have q3 : (zsI s2 216 8 (nI (sk t n r))).1 216 9 = 0 := by rw [zI1, if_pos rfl, updE, if_neg (by omega)]; exact y9
    generalize hs3 : zsI s2 216 8 (nI (sk t n r)) = s3 at k3 p3 q3
    have h3 := h2.k k3
    have M3 := z6.k k3
    have nx3 : f_Model_see s3 = some (sgn t n (sk t n r), s3) := by
      have := m_next h3 hqr p3
      rw [hqqr, zsI_self p3] at this
      exact this
    have kk3 := k2.tr k3.v (R := R)
    -- an operator
    have go : ∀ k : Nat, opK (sgn t n (sk t n r)) = k → bnd k = 6 → 2 ≤ k ∧ k ≤ 6 → sk t n r < n → (∃ a' s' r', (zwi s3 216 8 (nI (sk t n r) + (1 : Int32)) (fun (s16 : ZS) => zcl (f_Model_value s16) (fun (v18 : Int32) (s17 : ZS) => (if ¬ v18 = 0 then zcv (f_Model_puts (nI (sM k)) (0 : Int32) s17) (fun (s19 : ZS) => g () s19) else zbl (0 : Int32) s17)))) = g a' s' ∧ r < r' ∧ (kV R s s' ∧ s'.1 216 9 = 0 ∧ s'.1 216 8 = nI r' ∧ ∃ parts' W1 ro1 l, rch t n X (.inr (r', W1, parts', sm, 2, ro1)) ∧ mI n (r', W1, parts', sm, 2, ro1) ∧ rls 6 W1 ro1 = (W0, l ++ ro0) ∧ sumT l ∧ np (l ++ ro0) ≤ parts' ∧ MS R parts' (l ++ ro0) s')) ∨ rt (zwi s3 216 8 (nI (sk t n r) + (1 : Int32)) (fun (s16 : ZS) => zcl (f_Model_value s16) (fun (v18 : Int32) (s17 : ZS) => (if ¬ v18 = 0 then zcv (f_Model_puts (nI (sM k)) (0 : Int32) s17) (fun (s19 : ZS) => g () s19) else zbl (0 : Int32) s17)))) (fun w => mO (t := t) (n := n) R s X (fun x => sQ t n R 6 X W0 sm ro0 (fun r => ¬ sgn t n (sk t n r) = 42 ∧ ¬ sgn t n (sk t n r) = 47 ∧ ¬ sgn t n (sk t n r) = 37) x) w) := by
      intro k hk hb hk2 hqn
      have st1 := mop (parts := parts') (sm := sm) hk (by omega) hb z3
      have mIa := (stp_mI z2 (show ¬ (2 : Nat) = 4 by omega) st1).1
      have la : (l ++ ro0).length + (W0.length + 1) + 1 ≤ sk t n r + 1 := mIa.2.2.2.2.2.2.1
      simp only [zwi, nI_1]
      have k4 : mK s3 (zsI s3 216 8 (nI (sk t n r + 1))) := mK.rf.I (by omega)
      obtain ⟨⟨v, s5⟩, r5, k5, hh⟩ := m_value (p := sk t n r + 1) hR (h3.k k4) (by omega) (by rw [zI1, if_pos rfl, updE, if_pos rfl]) (by rw [zI1, if_pos rfl, updE, if_neg (by omega)]; exact q3) (M3.k k4) z2.2.2.2.1 (by omega)
      dsimp only at k5 hh
      rw [r5, zcl_s]
      have kk5 := (kk3.tr k4.v).tr k5
      rcases hh with ⟨f, m2, rfl, f0, f1, f2⟩ | ⟨y, m2, hy, y1, rfl, y3, y4, y5⟩
      · right
        simp only [not_true_eq_false, ↓reduceIte, zbl_0]
        refine rt_s ⟨kk5, Or.inl ⟨f, z1.tr (rch.s ?_), rfl, f0, f1, f2⟩⟩
        rw [st1]
        refine rch.s ?_
        rw [stp0, tvF_R, m2]; exact rch.rf
      · left
        have st2 : stpF t n (sk t n r + 1, k :: W0, parts', sm, 0, l ++ ro0) = .inr (y.1, k :: W0, parts' + 1, sm, 2, y.2 :: (l ++ ro0)) := by rw [stp0, tvF_R, m2]; rfl
        have mIb := stp_mI mIa (show ¬ (0 : Nat) = 4 by omega) st2
        have lb : (l ++ ro0).length + 1 + (W0.length + 1) + 1 ≤ y.1 := mIb.1.2.2.2.2.2.2.1
        have hlt : sk t n r + 1 < y.1 := mIb.2.resolve_left (show ¬ (2 : Nat) = 4 by omega)
        obtain ⟨s6, r6, k6, M6, j6⟩ := m_puts (k := k) (v := 0) hR (by omega) (by omega) (show (y.2 :: (l ++ ro0)).length < 400 by show (l ++ ro0).length + 1 < 400; omega) y5
        simp only [i10, not_false_eq_true, ↓reduceIte]
        rw [show (0 : Int32) = nI 0 from rfl, r6, zcv_s]
        refine ⟨(), s6, y.1, rfl, by omega, kk5.tr k6, by rw [j6]; exact y3, by rw [j6]; exact y4, parts' + 1, k :: W0, y.2 :: (l ++ ro0), (k, 0) :: ([y.2] ++ l), ?_, mIb.1, ?_, sumT_o z4 (tv_x (q := 0) (parts := 0) hy) hk2, ?_, M6⟩
        · refine z1.tr (rch.s ?_)
          rw [st1]
          refine rch.s ?_
          rw [st2]; exact rch.rf
        · rw [show rls 6 (k :: W0) (y.2 :: (l ++ ro0)) = rls 6 W0 ((k, 0) :: y.2 :: (l ++ ro0)) from if_pos (by omega), hW.r]; rfl
        · show np ((k, 0) :: y.2 :: (l ++ ro0)) ≤ _
          rw [np_k hk2.1]; exact np_x z5
    have rdT : ∀ c : Nat, sgn t n (sk t n r) = nI c → c < 128 → sk t n r < n ∧ s3.1 217 (sk t n r) = nI c := fun c hc hc2 => by
      have hqn : sk t n r < n := sgn_lt hc (by rw [nI_n1 (by omega)]; exact fun x => x)
      have hb := h.2.1 (sk t n r)
      have ht : t (sk t n r) = c := by
        rw [show sgn t n (sk t n r) = nI (t (sk t n r)) from if_pos hqn, nI_inj (by omega) (by omega)] at hc
        exact hc
      exact ⟨hqn, by rw [h3.2.2.2, ht, tI_n hc2]⟩
    simp only [zj0, zgi, p3, zjn]
    by_cases h42 : sgn t n (sk t n r) = 42
    · obtain ⟨hqn, hT⟩ := rdT 42 h42 (by omega)
      rw [if_pos h42, zrd_n (by omega) (by omega), hT, if_neg (show ¬ ¬ nI 42 = 42 from fun x => x rfl)]
      exact go 4 (by rw [h42]; rfl) rfl (by omega) hqn
    · rw [if_neg h42, nx3, zcl_s]
      dsimp only
      by_cases h47 : sgn t n (sk t n r) = 47
      · obtain ⟨hqn, hT⟩ := rdT 47 h47 (by omega)
        rw [if_pos h47, p3, zrd_n (by omega) (by omega), hT, if_pos (show ¬ nI 47 = 42 by decide), zrd_n (by omega) (by omega), hT, if_neg (show ¬ ¬ nI 47 = 47 from fun x => x rfl)]
        exact go 5 (by rw [h47]; rfl) rfl (by omega) hqn
      · rw [if_neg h47, nx3, zcl_s]
        dsimp only
        by_cases h37 : sgn t n (sk t n r) = 37
        · obtain ⟨hqn, hT⟩ := rdT 37 h37 (by omega)
          rw [if_neg (show ¬ ¬ sgn t n (sk t n r) = 37 from fun x => x h37), p3, zrd_n (by omega) (by omega), hT, if_pos (show ¬ nI 37 = 42 by decide), zrd_n (by omega) (by omega), hT, if_pos (show ¬ nI 37 = 47 by decide)]
          exact go 6 (by rw [h37]; rfl) rfl (by omega) hqn
        · right
          rw [if_pos h37, zbl_1]
          exact rt_s ⟨kk3, Or.inr ⟨rfl, q3, r, parts', W1, ro1, l, z1, z2, z3, z4, z5, p3, M3, h42, h47, h37⟩⟩
end RW
