/-! largest. -/
noncomputable def lg1 (P Q : Nat) (C : Nat → Int32) (rl : ZRl) (z : ZT) (j : Nat) : Int32 × Int32 := lo (dr P Q C 0 (-1) rl (dn P Q C 0 (-1) rl j z)) (ds P Q C 0 (-1) rl (dn P Q C 0 (-1) rl j z)) P
noncomputable def lgF (P Q : Nat) (C : Nat → Int32) (rl : ZRl) (z : ZT) (k : Nat) : Int32 × Int32 × Int32 := itr k (fun j x => if (lg1 P Q C rl z j).1 = -2 then x else if (lg1 P Q C rl z j).2 ≤ x.2.1 then x else ((lg1 P Q C rl z j).1, (lg1 P Q C rl z j).2, (dn P Q C 0 (-1) rl j z).2.2.2.2.1)) (-2, 0, -2)
theorem lgFS (P Q : Nat) (C : Nat → Int32) (rl : ZRl) (z : ZT) (k : Nat) : lgF P Q C rl z (k + 1) = if (lg1 P Q C rl z k).1 = -2 then lgF P Q C rl z k else if (lg1 P Q C rl z k).2 ≤ (lgF P Q C rl z k).2.1 then lgF P Q C rl z k else ((lg1 P Q C rl z k).1, (lg1 P Q C rl z k).2, (dn P Q C 0 (-1) rl k z).2.2.2.2.1) := rfl
/-- the reference's way: a running size -/
def mR (x m : Int32 × Int32 × Int32) : Prop := x = (-2, 0, -2) ∧ m = (-2, -2, -2) ∨ x = m ∧ ¬ x.1 = -2 ∧ ∃ n, 1 ≤ n ∧ n ≤ 999 ∧ x.2.1 = nI n
def lgI (r : Int32) (rs : Nat → Int32) (dy : Int32) (m : Int32 × Int32 × Int32) (k : Nat) : Int32 × Int32 × Int32 := itr k (fun p x => if bt r p = true then (if x.2.1 < rs p then (nI p, rs p, dy) else x) else x) m
theorem lgIS (r : Int32) (rs : Nat → Int32) (dy : Int32) (m : Int32 × Int32 × Int32) (k : Nat) : lgI r rs dy m (k + 1) = if bt r k = true then (if (lgI r rs dy m k).2.1 < rs k then (nI k, rs k, dy) else lgI r rs dy m k) else lgI r rs dy m k := rfl
theorem lgI0 (r : Int32) (rs : Nat → Int32) (dy : Int32) (m : Int32 × Int32 × Int32) : lgI r rs dy m 0 = m := rfl
theorem n2n {b : Nat} (h : b < 2147483648) : ¬ nI b = -2 := by
  intro e
  have := congrArg Int32.toInt e
  rw [nI_toInt h] at this
  have h2 : (-2 : Int32).toInt = -2 := by decide
  rw [h2] at this; omega
/-- a day by a running size, by the day's largest -/
theorem lgI_lo {r : Int32} {rs : Nat → Int32} {dy : Int32} {m : Int32 × Int32 × Int32} (hr : ∀ p, p < 5 → bt r p = true → iN 1 999 (rs p)) (hm : m.2.1 = -2 ∨ ∃ n, 1 ≤ n ∧ n ≤ 999 ∧ m.2.1 = nI n) : ∀ k, k ≤ 5 → lgI r rs dy m k = if (lo r rs k).1 = -2 then m else if m.2.1 < (lo r rs k).2 then ((lo r rs k).1, (lo r rs k).2, dy) else m := by
  intro k
  induction k with
  | zero => intro _; rw [lgI0, lo0]; rfl
  | succ k ih =>
    intro hk
    have ih2 := ih (by omega)
    rw [lgIS, loS, ih2]
    by_cases hb : bt r k = true
    · rw [if_pos hb, if_pos hb]
      obtain ⟨n, n1, n2, n3⟩ := hr k (by omega) hb
      rcases lo_inv hr k (by omega) with e | ⟨b, b1, b2, b3⟩
      · rw [e]
        dsimp only
        have hnl : ¬ rs k ≤ 0 := by rw [n3, nI_le0 (by omega)]; omega
        rw [if_pos rfl, if_neg hnl]
        dsimp only
        rw [if_neg (n2n (by omega))]
      · obtain ⟨q, q1, q2, q3⟩ := hr b (by omega) b2
        rw [b3]
        dsimp only
        rw [if_neg (n2n (by omega))]
        by_cases hl : rs k ≤ rs b
        · rw [if_pos hl]
          dsimp only
          rw [if_neg (n2n (by omega))]
          by_cases hx : m.2.1 < rs b
          · rw [if_pos hx]
            dsimp only
            rw [if_neg (Int32.not_lt.mpr hl)]
          · rw [if_neg hx, if_neg (fun e => hx (Int32.lt_of_lt_of_le e hl))]
        · rw [if_neg hl]
          dsimp only
          rw [if_neg (n2n (by omega))]
          have hl2 := Int32.not_le.mp hl
          by_cases hx : m.2.1 < rs b
          · rw [if_pos hx]
            dsimp only
            rw [if_pos hl2, if_pos (Int32.lt_trans hx hl2)]
          · rw [if_neg hx]
    · rw [if_neg hb, if_neg hb]
theorem st_largest (p w : Int32) : stp (f_Ring_largest p w) (f_Model_largest p w) := by
  refine stq (fun s hR => ?_)
  obtain ⟨R, P, Q, h1, h2, h3, h4, h5, h6, h7⟩ := id hR
  have hP := h3.1.1
  have hQ := h3.1.2.1
  have hzo := h3.2.2.2.1.1
  have hzw := hzo.zW
  obtain ⟨rl, hA, hB⟩ := ctx h2 h3
  have hin : ∀ s' : ZS, f_Model_in p.toInt64 1 60 s' = some (if (1 : Int32) ≤ p ∧ p ≤ 60 then 1 else 0, s') := fun s' => mIn (by decide) (by decide)
  have hin2 : ∀ s' : ZS, f_Model_in w.toInt64 0 2 s' = some (if (0 : Int32) ≤ w ∧ w ≤ 2 then 1 else 0, s') := fun s' => mIn (by decide) (by decide)
  unfold f_Ring_largest f_Model_largest
  rcases told_c h3 with ⟨c0, m0⟩ | ⟨c0, m0⟩
  · refine ⟨-1, ?_, fun s' hs' => ?_⟩
    · simp only [zgi, zgl, zwi, zwf, zjn, zj0, zcl_s, zcv_s, zrd_n, zrl_n, zix_n, zwa_n, zwl_n, zI1, zI2, zL1, zL2, zR1, zR2, updE, updLE, zbl_0, zbl_1, nI_1, nI_add, nI_mulR, nI_leI, nI_ltI, nI_0le, nI_lt0, bvE, ↓reduceIte, Nat.reduceEqDiff, Nat.reduceLT, Nat.reduceAdd, Nat.reduceMul, reduceCtorEq, i10, i01, eq_self, or_true, true_or, false_or, or_false, not_true_eq_false, not_false_eq_true, if_true, if_false, c0]; exact rt_s ⟨rfl, frm.rf⟩
    · have m0' : s'.1 226 0 = 0 := by rw [hs' 226 (by omega)]; exact m0
      simp only [zgi, zgl, zwi, zwf, zjn, zj0, zcl_s, zcv_s, zrd_n, zrl_n, zix_n, zwa_n, zwl_n, zI1, zI2, zL1, zL2, zR1, zR2, updE, updLE, zbl_0, zbl_1, nI_1, nI_add, nI_mulR, nI_leI, nI_ltI, nI_0le, nI_lt0, bvE, ↓reduceIte, Nat.reduceEqDiff, Nat.reduceLT, Nat.reduceAdd, Nat.reduceMul, reduceCtorEq, i10, i01, eq_self, or_true, true_or, false_or, or_false, not_true_eq_false, not_false_eq_true, if_true, if_false, m_isSmithy, m0']; exact rt_s ⟨rfl, qM.rf⟩
  · have mm : ∀ s' : ZS, (∀ b, ¬ (202 ≤ b ∧ b ≤ 215) → s'.1 b = s.1 b) → s'.1 226 0 = 1 := fun s' hs' => by rw [hs' 226 (by omega)]; exact m0
    rcases nIn p 1 60 (by omega) (by omega) with ⟨n, n1, n2, rfl⟩ | hno
    · have hp : (1 : Int32) ≤ nI n ∧ nI n ≤ 60 := ⟨by rw [l1, nI_leI (by omega) (by omega)]; omega, by rw [show (60 : Int32) = nI 60 from rfl, nI_leI (by omega) (by omega)]; omega⟩
      have a1 : ¬ nI n < 1 := Int32.not_lt.mpr hp.1
      have a2 : ¬ (60 : Int32) < nI n := Int32.not_lt.mpr hp.2
      by_cases hw : 0 ≤ w ∧ w ≤ 2
      · have b1 : ¬ w < 0 := Int32.not_lt.mpr hw.1
        -- the day's largest
        have pz : ∀ j, (∀ k, k < 5 → bt (dr P Q (s.1 226) 0 (-1) rl (dn P Q (s.1 226) 0 (-1) rl j (gM (s.1 226)))) k = true → k < P ∧ iN 1 999 (ds P Q (s.1 226) 0 (-1) rl (dn P Q (s.1 226) 0 (-1) rl j (gM (s.1 226))) k)) := fun j => (ds_pos h3.1 (zOK_dn hP hQ h3.1.cK2 hzo j)).1
        refine ⟨if w = 0 then (lgF P Q (s.1 226) rl (gM (s.1 226)) n).1 else if (lgF P Q (s.1 226) rl (gM (s.1 226)) n).1 = -2 then -2 else if w = 1 then (lgF P Q (s.1 226) rl (gM (s.1 226)) n).2.1 else (lgF P Q (s.1 226) rl (gM (s.1 226)) n).2.2, ?_, fun s' hs' => ?_⟩
        · simp only [zgi, c0, i10, ↓reduceIte, a1, a2, b1, hw.2]
          have key : rt (f_Fore_largestRow (nI n) w s) (fun w_1 => w_1.1 = (if w = 0 then (lgF P Q (s.1 226) rl (gM (s.1 226)) n).1 else if (lgF P Q (s.1 226) rl (gM (s.1 226)) n).1 = -2 then -2 else if w = 1 then (lgF P Q (s.1 226) rl (gM (s.1 226)) n).2.1 else (lgF P Q (s.1 226) rl (gM (s.1 226)) n).2.2) ∧ frm (fun b => 202 ≤ b ∧ b ≤ 215) s w_1.2) := by
            unfold f_Fore_largestRow
            refine rt_cv (c_res h2 h3 hA frm.rf) ?_
            rintro s1 ⟨g1, dd1, _, F1⟩
            simp only [zjn]
            refine lp_rt n (fun i a s2 => a.2.2.2 = nI i ∧ (a.1, a.2.1, a.2.2.1) = lgF P Q (s.1 226) rl (gM (s.1 226)) i ∧ gS 207 s2 = dn P Q (s.1 226) 0 (-1) rl i (gM (s.1 226)) ∧ frm tF s1 s2) (by omega) ⟨rfl, rfl, g1, frm.rf⟩ ?_ ?_
            · rintro i ⟨who, size, when_, c⟩ s2 g hi ⟨j0, j1, j2, j3⟩
              left
              dsimp only at j0 j1
              subst j0
              have hni : ¬ n ≤ i := by omega
              obtain ⟨⟨r, s3⟩, r3, q1, q2, q3, F⟩ := c_day (dd1.f j3) (by rw [j2]; exact zW_dn h3.1.cK hzw i)
              dsimp only at q1 q2 q3 F
              rw [j2] at q1 q2 q3
              have jd : s2.1 207 0 = (dn P Q (s.1 226) 0 (-1) rl i (gM (s.1 226))).2.2.2.2.1 := by rw [rD207, j2]
              have el : lo r (s3.1 205) 5 = lg1 P Q (s.1 226) rl (gM (s.1 226)) i := by
                unfold lg1
                rw [lo_congr q3 5 (by omega), q2, lo_P hP (fun p hp hb => (pz i p hp hb).1)]
              unfold f_Fore_largestRow_B17
              rw [lgFS, ← j1]
              simp (disch := omega) only [zjn, zgi, nI_leI, hni, ↓reduceIte, r3, zcl_s, c_largestOf, el, jd, nI_1]
              rcases lo_inv (r := r) (rs := s3.1 205) (fun p hp hb => by rw [q3 p hp hb]; exact (pz i p hp (by rw [← q2]; exact hb)).2) 5 (by omega) with e | ⟨b, b1, b2, b3⟩
              · rw [el] at e
                rw [e]
                simp only [↓reduceIte]
                exact ⟨_, _, rfl, rfl, rfl, q1, j3.tr F⟩
              · rw [el] at b3
                rw [b3]
                by_cases hl : s3.1 205 b ≤ size
                · simp (disch := omega) only [n2n (show b < 2147483648 by omega), ↓reduceIte, zrd_n, hl]
                  exact ⟨_, _, rfl, rfl, rfl, q1, j3.tr F⟩
                · simp (disch := omega) only [n2n (show b < 2147483648 by omega), ↓reduceIte, zrd_n, hl]
                  exact ⟨_, _, rfl, rfl, rfl, q1, j3.tr F⟩
            · rintro ⟨who, size, when_, c⟩ s2 g ⟨j0, j1, j2, j3⟩
              dsimp only at j0 j1
              subst j0
              unfold f_Fore_largestRow_B17
              simp (disch := omega) only [nI_leI, Nat.le_refl, ↓reduceIte]
              rw [← j1]
              dsimp only
              have FF : frm (fun b => 202 ≤ b ∧ b ≤ 215) s s2 := F1.tr (j3.sub (fun b hb => by unfold tF at hb; omega))
              by_cases hwho : who = -2
              · simp only [hwho, ↓reduceIte, ite_self]; exact rt_s ⟨rfl, FF⟩
              · by_cases w0 : w = 0
                · simp only [hwho, w0, ↓reduceIte, not_true_eq_false]; exact rt_s ⟨rfl, FF⟩
                · by_cases w1 : w = 1
                  · simp only [hwho, w0, w1, ↓reduceIte, not_true_eq_false, not_false_eq_true, i10]; exact rt_s ⟨rfl, FF⟩
                  · simp only [hwho, w0, w1, ↓reduceIte, not_false_eq_true]; exact rt_s ⟨rfl, FF⟩
          exact rt_cl key (fun v s h => rt_s h)
        · have e226 : s'.1 226 = s.1 226 := hs' 226 (by omega)
          simp only [zcl_s, m_isSmithy, mm s' hs', i10, ↓reduceIte, hin, hp, and_self, hin2, hw, not_false_eq_true]
          refine rt_cv m_keeps ?_
          rintro s1 rfl
          have hB0 : dM P Q (s.1 226) 0 (-1) rl (zsR s' 229 (fun k => if k < 47 then s'.1 226 (10 + k) else s'.1 229 k)) := hB _ 0 (-1) (fun k hk => by rw [zR1, if_neg (by omega), e226]) (fun b hb => by rw [zR1, if_neg (by omega)]; exact hs' b (by omega)) (by rw [zR1, if_neg (by omega), hs' 216 (by omega)]) (by rw [zR1, if_neg (by omega), hs' 216 (by omega)]; exact h6) (by rw [zR1, if_neg (by omega), hs' 216 (by omega)]; exact h7)
          generalize hs1 : zsR s' 229 (fun k => if k < 47 then s'.1 226 (10 + k) else s'.1 229 k) = s1 at hB0 ⊢
          have k1 : ∀ j, j < 47 → s1.1 229 j = s.1 226 (10 + j) := fun j hj => by rw [← hs1, kept j hj, e226]
          have e1 : s1.1 226 = s.1 226 := by rw [← hs1, zR1, if_neg (by omega), e226]
          have E1 : ∀ b, b ≠ 229 → s1.1 b = s'.1 b := fun b hb => by rw [← hs1, zR1, if_neg hb]
          simp only [zjn]
          refine lp_rt n (fun i a s2 => a.2.2.2 = nI i ∧ mR (lgF P Q (s.1 226) rl (gM (s.1 226)) i) (a.1, a.2.1, a.2.2.1) ∧ gM (s2.1 226) = dn P Q (s.1 226) 0 (-1) rl i (gM (s.1 226)) ∧ nM s1 s2) (by omega) ⟨rfl, Or.inl ⟨rfl, rfl⟩, by rw [e1]; rfl, nM.rf⟩ ?_ ?_
          · rintro i ⟨who, size, when_, c⟩ s2 g hi ⟨j0, j1, j2, j3⟩
            left
            dsimp only at j0 j1
            subst j0
            have hni : ¬ n ≤ i := by omega
            obtain ⟨⟨r, s3⟩, r3, q1, q2, q3, F⟩ := m_day (hB0.n j3) (by rw [j2]; exact zW_dn h3.1.cK hzw i)
            dsimp only at q1 q2 q3 F
            rw [j2] at q1 q2 q3
            have jd : s2.1 226 10 = (dn P Q (s.1 226) 0 (-1) rl i (gM (s.1 226))).2.2.2.2.1 := by rw [qD, j2]
            have rp : ∀ p, p < 5 → bt r p = true → p < P ∧ iN 1 999 (s3.1 227 p) := fun p hp hb => by rw [q3 p hp hb]; exact pz i p hp (by rw [← q2]; exact hb)
            have el : lo r (s3.1 227) P = lg1 P Q (s.1 226) rl (gM (s.1 226)) i := by
              unfold lg1
              rw [lo_congr q3 P hP, q2]
            have m3 : s3.1 226 3 = nI P := ((hB0.n j3).n F).1.2.2.1
            unfold f_Model_largest_B51
            simp (disch := omega) only [zjn, zgi, nI_leI, hni, ↓reduceIte, r3, zcl_s, jd, nI_1]
            generalize hdy : (dn P Q (s.1 226) 0 (-1) rl i (gM (s.1 226))).2.2.2.2.1 = dy
            -- the inner loop
            have inn : ∀ K : (Int32 × Int32 × Int32) → ZS → Option (Int32 × ZS), zlp zN (f_Model_largest_B75 dy r K) (who, size, when_, (0 : Int32)) s3 = K (lgI r (s3.1 227) dy (who, size, when_) P) s3 := by
              intro K
              have : ∀ (k i' : Nat) (x : Int32 × Int32 × Int32), i' ≤ P → P - i' < k → x = lgI r (s3.1 227) dy (who, size, when_) i' → zlp k (f_Model_largest_B75 dy r K) (x.1, x.2.1, x.2.2, nI i') s3 = K (lgI r (s3.1 227) dy (who, size, when_) P) s3 := by
                intro k
                induction k with
                | zero => intro i' x _ h; omega
                | succ k ih =>
                  intro i' x hi' hk hx
                  rw [zlpS]
                  by_cases hP' : i' = P
                  · subst hP'
                    unfold f_Model_largest_B75
                    simp (disch := omega) only [zgi, zgl, zwi, zwf, zjn, zj0, zcl_s, zcv_s, zrd_n, zrl_n, zix_n, zwa_n, zwl_n, zI1, zI2, zL1, zL2, zR1, zR2, updE, updLE, zbl_0, zbl_1, nI_1, nI_add, nI_mulR, nI_leI, nI_ltI, nI_0le, nI_lt0, bvE, ↓reduceIte, Nat.reduceEqDiff, Nat.reduceLT, Nat.reduceAdd, Nat.reduceMul, reduceCtorEq, i10, i01, eq_self, or_true, true_or, false_or, or_false, not_true_eq_false, not_false_eq_true, if_true, if_false, m3, Nat.le_refl]
                    rw [← hx]
                  · have hni' : ¬ P ≤ i' := by omega
                    have nx := lgIS r (s3.1 227) dy (who, size, when_) i'
                    rw [← hx] at nx
                    have ih2 := ih (i' + 1) _ (by omega) (by omega) rfl
                    rw [nx] at ih2
                    by_cases hb : bt r i' = true
                    · by_cases hl : x.2.1 < s3.1 227 i'
                      · rw [if_pos hb, if_pos hl] at ih2
                        rw [← ih2]
                        unfold f_Model_largest_B75
                        simp (disch := omega) only [zgi, zgl, zwi, zwf, zjn, zj0, zcl_s, zcv_s, zrd_n, zrl_n, zix_n, zwa_n, zwl_n, zI1, zI2, zL1, zL2, zR1, zR2, updE, updLE, zbl_0, zbl_1, nI_1, nI_add, nI_mulR, nI_leI, nI_ltI, nI_0le, nI_lt0, bvE, ↓reduceIte, Nat.reduceEqDiff, Nat.reduceLT, Nat.reduceAdd, Nat.reduceMul, reduceCtorEq, i10, i01, eq_self, or_true, true_or, false_or, or_false, not_true_eq_false, not_false_eq_true, if_true, if_false, m3, hni', mIsOf, hb, hl]
                      · rw [if_pos hb, if_neg hl] at ih2
                        rw [← ih2]
                        unfold f_Model_largest_B75
                        simp (disch := omega) only [zgi, zgl, zwi, zwf, zjn, zj0, zcl_s, zcv_s, zrd_n, zrl_n, zix_n, zwa_n, zwl_n, zI1, zI2, zL1, zL2, zR1, zR2, updE, updLE, zbl_0, zbl_1, nI_1, nI_add, nI_mulR, nI_leI, nI_ltI, nI_0le, nI_lt0, bvE, ↓reduceIte, Nat.reduceEqDiff, Nat.reduceLT, Nat.reduceAdd, Nat.reduceMul, reduceCtorEq, i10, i01, eq_self, or_true, true_or, false_or, or_false, not_true_eq_false, not_false_eq_true, if_true, if_false, m3, hni', mIsOf, hb, hl]
                    · rw [if_neg hb] at ih2
                      rw [← ih2]
                      unfold f_Model_largest_B75
                      simp (disch := omega) only [zgi, zgl, zwi, zwf, zjn, zj0, zcl_s, zcv_s, zrd_n, zrl_n, zix_n, zwa_n, zwl_n, zI1, zI2, zL1, zL2, zR1, zR2, updE, updLE, zbl_0, zbl_1, nI_1, nI_add, nI_mulR, nI_leI, nI_ltI, nI_0le, nI_lt0, bvE, ↓reduceIte, Nat.reduceEqDiff, Nat.reduceLT, Nat.reduceAdd, Nat.reduceMul, reduceCtorEq, i10, i01, eq_self, or_true, true_or, false_or, or_false, not_true_eq_false, not_false_eq_true, if_true, if_false, m3, hni', mIsOf, hb]
              exact this zN 0 (who, size, when_) (Nat.zero_le _) (by have := zN_big; omega) (lgI0 _ _ _ _).symm
            rw [inn]
            refine ⟨_, _, rfl, rfl, ?_, q1, j3.tr F⟩
            have hm : size = -2 ∨ ∃ n, 1 ≤ n ∧ n ≤ 999 ∧ size = nI n := by
              rcases j1 with ⟨_, e⟩ | ⟨e, _, e2⟩
              · exact Or.inl (congrArg (fun y : Int32 × Int32 × Int32 => y.2.1) e)
              · rw [e] at e2; exact Or.inr e2
            have lz := lgI_lo (dy := dy) (m := (who, size, when_)) (fun p hp hb => (rp p hp hb).2) hm P hP
            dsimp only at lz ⊢
            rw [lz, el, lgFS, hdy]
            rcases lo_inv (r := r) (rs := s3.1 227) (fun p hp hb => (rp p hp hb).2) P hP with e | ⟨b, b1, b2, b3⟩
            · rw [el] at e
              rw [e]
              dsimp only
              rw [if_pos rfl, if_pos rfl]
              exact j1
            · obtain ⟨y, y1, y2, y3⟩ := (rp b (by omega) b2).2
              rw [el] at b3
              rw [b3]
              dsimp only
              rw [if_neg (n2n (by omega)), if_neg (n2n (by omega))]
              rcases j1 with ⟨x1, x2⟩ | ⟨x1, x2, y', z1, z2, z3⟩
              · rw [x1]
                have hs : size = -2 := congrArg (fun y : Int32 × Int32 × Int32 => y.2.1) x2
                dsimp only
                have hnl : ¬ s3.1 227 b ≤ 0 := by rw [y3, nI_le0 (by omega)]; omega
                have hlt : size < s3.1 227 b := by rw [hs]; exact Int32.lt_trans (by decide) (Int32.not_le.mp hnl)
                rw [if_neg hnl, if_pos hlt]
                exact Or.inr ⟨rfl, n2n (by omega), y, y1, y2, y3⟩
              · rw [x1] at x2 z3 ⊢
                dsimp only at x2 z3 ⊢
                by_cases hl : s3.1 227 b ≤ size
                · rw [if_pos hl, if_neg (Int32.not_lt.mpr hl)]
                  exact Or.inr ⟨rfl, x2, y', z1, z2, z3⟩
                · rw [if_neg hl, if_pos (Int32.not_le.mp hl)]
                  exact Or.inr ⟨rfl, n2n (by omega), y, y1, y2, y3⟩
          · rintro ⟨who, size, when_, c⟩ s2 g ⟨j0, j1, j2, j3⟩
            dsimp only at j0 j1
            subst j0
            unfold f_Model_largest_B51
            simp (disch := omega) only [nI_leI, Nat.le_refl, ↓reduceIte]
            refine rt_cv (m_laysBack (M0 := s.1 226) (fun j hj => by rw [j3.1 229 (by omega)]; exact k1 j hj) (fun j hj => by rw [j3.2.2.2 j hj, e1])) ?_
            rintro s3 rfl
            have qq : qM s' (zsR s2 226 (s.1 226)) := ⟨fun b hb => by
              rw [zR1]
              by_cases hb2 : b = 226
              · rw [if_pos hb2, hb2, e226]
              · rw [if_neg hb2, j3.1 b (by omega), E1 b (by omega)], fun j hj => by rw [zR1, if_neg (by omega), j3.2.2.1 j (by omega), E1 216 (by omega)]⟩
            rcases j1 with ⟨x1, x2⟩ | ⟨x1, x2, _⟩
            · rw [x1]
              obtain ⟨rfl, rfl, rfl⟩ : who = -2 ∧ size = -2 ∧ when_ = -2 := ⟨congrArg (fun y : Int32 × Int32 × Int32 => y.1) x2, congrArg (fun y : Int32 × Int32 × Int32 => y.2.1) x2, congrArg (fun y : Int32 × Int32 × Int32 => y.2.2) x2⟩
              simp only [↓reduceIte, ite_self]
              exact rt_s ⟨rfl, qq⟩
            · rw [x1] at x2 ⊢
              dsimp only at x2 ⊢
              rw [if_neg x2]
              by_cases w0 : w = 0
              · simp only [w0, ↓reduceIte, not_true_eq_false]; exact rt_s ⟨rfl, qq⟩
              · by_cases w1 : w = 1
                · simp only [w0, w1, ↓reduceIte, not_true_eq_false, not_false_eq_true, i10]; exact rt_s ⟨rfl, qq⟩
                · simp only [w0, w1, ↓reduceIte, not_false_eq_true]; exact rt_s ⟨rfl, qq⟩
      · refine ⟨-1, ?_, fun s' hs' => ?_⟩
        · by_cases b1 : w < 0
          · simp only [zgi, zgl, zwi, zwf, zjn, zj0, zcl_s, zcv_s, zrd_n, zrl_n, zix_n, zwa_n, zwl_n, zI1, zI2, zL1, zL2, zR1, zR2, updE, updLE, zbl_0, zbl_1, nI_1, nI_add, nI_mulR, nI_leI, nI_ltI, nI_0le, nI_lt0, bvE, ↓reduceIte, Nat.reduceEqDiff, Nat.reduceLT, Nat.reduceAdd, Nat.reduceMul, reduceCtorEq, i10, i01, eq_self, or_true, true_or, false_or, or_false, not_true_eq_false, not_false_eq_true, if_true, if_false, c0, a1, a2, b1]; exact rt_s ⟨rfl, frm.rf⟩
          · have b2 : ¬ w ≤ 2 := fun e => hw ⟨Int32.not_lt.mp b1, e⟩
            simp only [zgi, zgl, zwi, zwf, zjn, zj0, zcl_s, zcv_s, zrd_n, zrl_n, zix_n, zwa_n, zwl_n, zI1, zI2, zL1, zL2, zR1, zR2, updE, updLE, zbl_0, zbl_1, nI_1, nI_add, nI_mulR, nI_leI, nI_ltI, nI_0le, nI_lt0, bvE, ↓reduceIte, Nat.reduceEqDiff, Nat.reduceLT, Nat.reduceAdd, Nat.reduceMul, reduceCtorEq, i10, i01, eq_self, or_true, true_or, false_or, or_false, not_true_eq_false, not_false_eq_true, if_true, if_false, c0, a1, a2, b1, b2]; exact rt_s ⟨rfl, frm.rf⟩
        · simp only [zgi, zgl, zwi, zwf, zjn, zj0, zcl_s, zcv_s, zrd_n, zrl_n, zix_n, zwa_n, zwl_n, zI1, zI2, zL1, zL2, zR1, zR2, updE, updLE, zbl_0, zbl_1, nI_1, nI_add, nI_mulR, nI_leI, nI_ltI, nI_0le, nI_lt0, bvE, ↓reduceIte, Nat.reduceEqDiff, Nat.reduceLT, Nat.reduceAdd, Nat.reduceMul, reduceCtorEq, i10, i01, eq_self, or_true, true_or, false_or, or_false, not_true_eq_false, not_false_eq_true, if_true, if_false, m_isSmithy, mm s' hs', hin, hp, and_self, hin2, hw]; exact rt_s ⟨rfl, qM.rf⟩
    · have hno' : ¬ ((1 : Int32) ≤ p ∧ p ≤ 60) := hno
      refine ⟨-1, ?_, fun s' hs' => ?_⟩
      · by_cases a1 : p < 1
        · simp only [zgi, zgl, zwi, zwf, zjn, zj0, zcl_s, zcv_s, zrd_n, zrl_n, zix_n, zwa_n, zwl_n, zI1, zI2, zL1, zL2, zR1, zR2, updE, updLE, zbl_0, zbl_1, nI_1, nI_add, nI_mulR, nI_leI, nI_ltI, nI_0le, nI_lt0, bvE, ↓reduceIte, Nat.reduceEqDiff, Nat.reduceLT, Nat.reduceAdd, Nat.reduceMul, reduceCtorEq, i10, i01, eq_self, or_true, true_or, false_or, or_false, not_true_eq_false, not_false_eq_true, if_true, if_false, c0, a1]; exact rt_s ⟨rfl, frm.rf⟩
        · have a2 : (60 : Int32) < p := Int32.not_le.mp (fun e => hno' ⟨Int32.not_lt.mp a1, e⟩)
          simp only [zgi, zgl, zwi, zwf, zjn, zj0, zcl_s, zcv_s, zrd_n, zrl_n, zix_n, zwa_n, zwl_n, zI1, zI2, zL1, zL2, zR1, zR2, updE, updLE, zbl_0, zbl_1, nI_1, nI_add, nI_mulR, nI_leI, nI_ltI, nI_0le, nI_lt0, bvE, ↓reduceIte, Nat.reduceEqDiff, Nat.reduceLT, Nat.reduceAdd, Nat.reduceMul, reduceCtorEq, i10, i01, eq_self, or_true, true_or, false_or, or_false, not_true_eq_false, not_false_eq_true, if_true, if_false, c0, a1, a2]; exact rt_s ⟨rfl, frm.rf⟩
      · simp only [zgi, zgl, zwi, zwf, zjn, zj0, zcl_s, zcv_s, zrd_n, zrl_n, zix_n, zwa_n, zwl_n, zI1, zI2, zL1, zL2, zR1, zR2, updE, updLE, zbl_0, zbl_1, nI_1, nI_add, nI_mulR, nI_leI, nI_ltI, nI_0le, nI_lt0, bvE, ↓reduceIte, Nat.reduceEqDiff, Nat.reduceLT, Nat.reduceAdd, Nat.reduceMul, reduceCtorEq, i10, i01, eq_self, or_true, true_or, false_or, or_false, not_true_eq_false, not_false_eq_true, if_true, if_false, m_isSmithy, mm s' hs', hin, hno']; exact rt_s ⟨rfl, qM.rf⟩
