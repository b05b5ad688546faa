/-! calm, ahead, quarrel. -/
noncomputable def cRow (P Q : Nat) (C : Nat → Int32) (rl : ZRl) (n : Nat) (z : ZT) : Int32 := (dn P Q C 0 (-1) rl n z).2.2.2.2.2 - z.2.2.2.2.2
noncomputable def cBest (P Q : Nat) (C : Nat → Int32) (rl : ZRl) (n : Nat) (z : ZT) (k : Nat) : Int32 × Int32 := itr k (fun p x => if x.1 ≤ cRow P Q C rl n (upd z.1 p 0, z.2) then x else (cRow P Q C rl n (upd z.1 p 0, z.2), nI p)) (cRow P Q C rl n z, -1)
theorem st_calm (p w : Int32) : stp (f_Ring_calm p w) (f_Model_calm p w) := by
  refine stq (fun s hR => ?_)
  obtain ⟨R, P, Q, h1, h2, h3, h4, h5, h6, h7⟩ := id hR
  have hP := h3.1.1
  have hQ := h3.1.2.1
  have hzw := h3.2.2.2.1.1.zW
  obtain ⟨rl, hA, hB⟩ := ctx h2 h3
  have hin : ∀ s' : ZS, f_Model_in p.toInt64 1 30 s' = some (if (1 : Int32) ≤ p ∧ p ≤ 30 then 1 else 0, s') := fun s' => mIn (by decide) (by decide)
  unfold f_Ring_calm f_Model_calm
  rcases told_c h3 with ⟨c0, m0⟩ | ⟨c0, m0⟩
  · refine ⟨-2, ?_, fun s' hs' => ?_⟩
    · simp only [zgi, zgl, zwi, zwf, zjn, zj0, zcl_s, zcv_s, zrd_n, zrl_n, zix_n, zwa_n, zwl_n, zI1, zI2, zL1, zL2, zR1, zR2, updE, updLE, zbl_0, zbl_1, nI_1, nI_add, nI_mulR, nI_leI, nI_ltI, nI_0le, nI_lt0, bvE, ↓reduceIte, Nat.reduceEqDiff, Nat.reduceLT, Nat.reduceAdd, Nat.reduceMul, reduceCtorEq, i10, i01, eq_self, or_true, true_or, false_or, or_false, not_true_eq_false, not_false_eq_true, if_true, if_false, c0]; exact rt_s ⟨rfl, frm.rf⟩
    · have m0' : s'.1 226 0 = 0 := by rw [hs' 226 (by omega)]; exact m0
      simp only [zgi, zgl, zwi, zwf, zjn, zj0, zcl_s, zcv_s, zrd_n, zrl_n, zix_n, zwa_n, zwl_n, zI1, zI2, zL1, zL2, zR1, zR2, updE, updLE, zbl_0, zbl_1, nI_1, nI_add, nI_mulR, nI_leI, nI_ltI, nI_0le, nI_lt0, bvE, ↓reduceIte, Nat.reduceEqDiff, Nat.reduceLT, Nat.reduceAdd, Nat.reduceMul, reduceCtorEq, i10, i01, eq_self, or_true, true_or, false_or, or_false, not_true_eq_false, not_false_eq_true, if_true, if_false, m_isSmithy, m0']; exact rt_s ⟨rfl, qM.rf⟩
  · rcases nIn p 1 30 (by omega) (by omega) with ⟨n, n1, n2, rfl⟩ | hno
    · have hp := i01le ⟨n1, n2⟩
      have a1 : ¬ nI n < 1 := Int32.not_lt.mpr hp.1
      have a2 : ¬ (30 : Int32) < nI n := Int32.not_lt.mpr hp.2
      by_cases hw : w = 0 ∨ w = 1
      · refine ⟨if w = 0 then (cBest P Q (s.1 226) rl n (gM (s.1 226)) P).2 else (cBest P Q (s.1 226) rl n (gM (s.1 226)) P).1, ?_, fun s' hs' => ?_⟩
        · simp only [zgi, zcl_s, c0, i10, ↓reduceIte, a1, a2, cEi, hw, not_false_eq_true]
          unfold f_Fore_bestCalm
          have key : rt (zcv (f_Fore_restart s) (fun (s3 : ZS) => zcl (f_Fore_rowsIn (nI n) s3) (fun (v5 : Int32) (s4 : ZS) => zjn (A := Int32 × Int32) (fun (a7 : Int32 × Int32) (s6 : ZS) => (if ¬ w = 0 then some (a7.1, s6) else some (a7.2, s6))) (fun (k8 : (Int32 × Int32) → ZS → Option (Int32 × ZS)) => zlp zN (f_Fore_bestCalm_B16 (nI n) k8) (v5, (-1 : Int32), (0 : Int32)) s4)))) (fun w_1 => w_1.1 = (if w = 0 then (cBest P Q (s.1 226) rl n (gM (s.1 226)) P).2 else (cBest P Q (s.1 226) rl n (gM (s.1 226)) P).1) ∧ frm (fun b => 202 ≤ b ∧ b ≤ 215) s w_1.2) := by
            refine rt_cv (c_res h2 h3 hA frm.rf) ?_
            rintro s1 ⟨g1, d1, _, F1⟩
            refine rt_cl (c_rowsIn (by omega) d1 (by rw [g1]; exact hzw)) ?_
            rintro v s2 ⟨v1, g2, F2⟩
            dsimp only at v1 F2
            rw [g1] at v1
            simp only [zjn]
            refine lp_rt P (fun i a s3 => a.2.2 = nI i ∧ (a.1, a.2.1) = cBest P Q (s.1 226) rl n (gM (s.1 226)) i ∧ frm (fun b => 202 ≤ b ∧ b ≤ 215) s s3) (by omega) ⟨rfl, by rw [v1]; rfl, F1.tr (F2.sub (fun b hb => by unfold tF at hb; omega))⟩ ?_ ?_
            · rintro i ⟨most, best, c⟩ s3 g hi ⟨k0, k1, k2⟩
              left
              dsimp only at k0 k1
              subst k0
              have e43 : s3.1 4 3 = nI P := by rw [k2.1 4 (by omega)]; exact h3.cC.2.2.1
              have hni : ¬ P ≤ i := by omega
              obtain ⟨s4, r4, g4, d4, e4, F4⟩ := c_res h2 h3 hA k2
              have d5 : dC P Q (s.1 226) 0 (-1) rl (zsI s4 208 i 0) := d4.f (frm.rf.I (by unfold tF; omega))
              have g5 : gS 207 (zsI s4 208 i 0) = (upd (gM (s.1 226)).1 i 0, (gM (s.1 226)).2) := by rw [gS207_T (by omega), g4]
              obtain ⟨⟨v6, s6⟩, r6, v6e, g6, F6⟩ := c_rowsIn (n := n) (by omega) d5 (by rw [g5]; exact hzw)
              dsimp only at v6e F6
              rw [g5] at v6e
              have F7 : frm (fun b => 202 ≤ b ∧ b ≤ 215) s s6 := (F4.I (by omega)).tr (F6.sub (fun b hb => by unfold tF at hb; omega))
              have hb : cBest P Q (s.1 226) rl n (gM (s.1 226)) (i + 1) = if most ≤ v6 then (most, best) else (v6, nI i) := by
                unfold cBest at k1 ⊢
                rw [itrS, ← k1, v6e]; rfl
              unfold f_Fore_bestCalm_B16
              by_cases hv : most ≤ v6
              · simp (disch := omega) only [zgi, zgl, zwi, zwf, zjn, zj0, zcl_s, zcv_s, zrd_n, zrl_n, zix_n, zwa_n, zwl_n, zI1, zI2, zL1, zL2, zR1, zR2, updE, updLE, zbl_0, zbl_1, nI_1, nI_add, nI_mulR, nI_leI, nI_ltI, nI_0le, nI_lt0, bvE, ↓reduceIte, Nat.reduceEqDiff, Nat.reduceLT, Nat.reduceAdd, Nat.reduceMul, reduceCtorEq, i10, i01, eq_self, or_true, true_or, false_or, or_false, not_true_eq_false, not_false_eq_true, if_true, if_false, e43, hni, r4, r6, hv]
                refine ⟨_, _, rfl, rfl, ?_, F7⟩
                rw [hb, if_pos hv]
              · simp (disch := omega) only [zgi, zgl, zwi, zwf, zjn, zj0, zcl_s, zcv_s, zrd_n, zrl_n, zix_n, zwa_n, zwl_n, zI1, zI2, zL1, zL2, zR1, zR2, updE, updLE, zbl_0, zbl_1, nI_1, nI_add, nI_mulR, nI_leI, nI_ltI, nI_0le, nI_lt0, bvE, ↓reduceIte, Nat.reduceEqDiff, Nat.reduceLT, Nat.reduceAdd, Nat.reduceMul, reduceCtorEq, i10, i01, eq_self, or_true, true_or, false_or, or_false, not_true_eq_false, not_false_eq_true, if_true, if_false, e43, hni, r4, r6, hv]
                refine ⟨_, _, rfl, rfl, ?_, F7⟩
                rw [hb, if_neg hv]
            · rintro ⟨most, best, c⟩ s3 g ⟨k0, k1, k2⟩
              dsimp only at k0 k1
              subst k0
              have e43 : s3.1 4 3 = nI P := by rw [k2.1 4 (by omega)]; exact h3.cC.2.2.1
              unfold f_Fore_bestCalm_B16
              simp (disch := omega) only [zgi, zgl, zwi, zwf, zjn, zj0, zcl_s, zcv_s, zrd_n, zrl_n, zix_n, zwa_n, zwl_n, zI1, zI2, zL1, zL2, zR1, zR2, updE, updLE, zbl_0, zbl_1, nI_1, nI_add, nI_mulR, nI_leI, nI_ltI, nI_0le, nI_lt0, bvE, ↓reduceIte, Nat.reduceEqDiff, Nat.reduceLT, Nat.reduceAdd, Nat.reduceMul, reduceCtorEq, i10, i01, eq_self, or_true, true_or, false_or, or_false, not_true_eq_false, not_false_eq_true, if_true, if_false, e43, Nat.le_refl]
              rw [← k1]
              by_cases w0 : w = 0
              · simp only [w0, not_true_eq_false, ↓reduceIte]; exact rt_s ⟨rfl, k2⟩
              · simp only [w0, not_false_eq_true, ↓reduceIte]; exact rt_s ⟨rfl, k2⟩
          exact rt_cl key (fun v s h => rt_s h)
        · have e226 : s'.1 226 = s.1 226 := hs' 226 (by omega)
          have m0' : s'.1 226 0 = 1 := by rw [e226]; exact m0
          have hB0 : dM P Q (s.1 226) 0 (-1) rl (zsR s' 229 (fun k => if k < 47 then s'.1 226 (10 + k) else s'.1 229 k)) := hB _ 0 (-1) (fun k hk => by rw [zR1, if_neg (by omega), e226]) (fun b hb => by rw [zR1, if_neg (by omega)]; exact hs' b (by omega)) (by rw [zR1, if_neg (by omega), hs' 216 (by omega)]) (by rw [zR1, if_neg (by omega), hs' 216 (by omega)]; exact h6) (by rw [zR1, if_neg (by omega), hs' 216 (by omega)]; exact h7)
          simp only [zcl_s, m_isSmithy, m0', i10, ↓reduceIte, hin, hp, and_self, mIn01, hw, not_false_eq_true]
          refine rt_cv m_keeps ?_
          rintro s1 rfl
          generalize hs1 : zsR s' 229 (fun k => if k < 47 then s'.1 226 (10 + k) else s'.1 229 k) = s1 at hB0 ⊢
          have k1 : ∀ k, k < 47 → s1.1 229 k = s.1 226 (10 + k) := fun k hk => by rw [← hs1, kept k hk, e226]
          have q1 : qM s' s1 := by rw [← hs1]; exact ⟨fun b hb => by rw [zR1, if_neg (by omega)], fun j hj => rfl⟩
          have e1 : s1.1 226 = s.1 226 := by rw [← hs1, zR1, if_neg (by omega), e226]
          have E1 : ∀ b, b ≠ 229 → s1.1 b = s'.1 b := fun b hb => by rw [← hs1, zR1, if_neg hb]
          refine rt_cl (m_rowsIn (M0 := s.1 226) (by omega) hB0 (by rw [e1]; exact hzw) k1 (fun k hk => by rw [e1])) ?_
          rintro v s2 ⟨v1, e2, o2⟩
          dsimp only at v1 e2 o2
          rw [e1] at v1
          simp only [zjn]
          refine lp_rt P (fun i a s3 => a.2.2 = nI i ∧ (a.2.1, a.1) = cBest P Q (s.1 226) rl n (gM (s.1 226)) i ∧ s3.1 226 = s.1 226 ∧ (∀ b, ¬ (b = 216 ∨ 226 ≤ b ∧ b ≤ 227) → s3.1 b = s1.1 b) ∧ (∀ j, j ≠ 18 → j ≠ 24 → s3.1 216 j = s1.1 216 j) ∧ s3.1 216 24 = s1.1 216 24) (by omega) ⟨rfl, by rw [v1]; rfl, e2, o2.1, fun j hj _ => o2.2.1 j hj, o2.2.1 24 (by omega)⟩ ?_ ?_
          · rintro i ⟨best, most, c⟩ s3 g hi ⟨j0, j1, j2, j3, j4, j5⟩
            left
            dsimp only at j0 j1
            subst j0
            have m3 : s3.1 226 3 = nI P := by rw [j2]; exact h3.cM.2.2.1
            have hni : ¬ P ≤ i := by omega
            have g3 : gM ((zsI s3 226 (12 + 3 * i) 0).1 226) = (upd (gM (s.1 226)).1 i 0, (gM (s.1 226)).2) := by rw [zI1, if_pos rfl, gM_T (by omega), j2]
            have dB : dM P Q (s.1 226) 0 (-1) rl (zsI s3 226 (12 + 3 * i) 0) := hB _ 0 (-1) (fun k hk => by rw [zI1, if_pos rfl, updE, if_neg (by omega), j2]) (fun b hb => by rw [zI1, if_neg (by omega), j3 b (by omega), E1 b (by omega)]; exact hs' b (by omega)) (by rw [zI1, if_neg (by omega), j4 21 (by omega) (by omega), E1 216 (by omega), hs' 216 (by omega)]) (by rw [zI1, if_neg (by omega), j4 23 (by omega) (by omega), E1 216 (by omega), hs' 216 (by omega)]; exact h6) (by rw [zI1, if_neg (by omega), j5, E1 216 (by omega), hs' 216 (by omega)]; exact h7)
            obtain ⟨⟨v6, s6⟩, r6, v6e, e6, o6⟩ := m_rowsIn (n := n) (M0 := s.1 226) (by omega) dB (by rw [g3]; exact hzw) (fun k hk => by rw [zI1, if_neg (by omega), j3 229 (by omega)]; exact k1 k hk) (fun k hk => by rw [zI1, if_pos rfl, updE, if_neg (by omega), j2])
            dsimp only at v6e e6 o6
            rw [g3] at v6e
            have j3' : ∀ b, ¬ (b = 216 ∨ 226 ≤ b ∧ b ≤ 227) → s6.1 b = s1.1 b := fun b hb => by rw [o6.1 b hb, zI1, if_neg (by omega), j3 b hb]
            have j4' : ∀ j, j ≠ 18 → j ≠ 24 → s6.1 216 j = s1.1 216 j := fun j x1 x2 => by rw [o6.2.1 j x1, zI1, if_neg (by omega), j4 j x1 x2]
            have hb : cBest P Q (s.1 226) rl n (gM (s.1 226)) (i + 1) = if most ≤ v6 then (most, best) else (v6, nI i) := by
              unfold cBest at j1 ⊢
              rw [itrS, ← j1, v6e]; rfl
            have j5' : s6.1 216 24 = s1.1 216 24 := by rw [o6.2.1 24 (by omega), zI1, if_neg (by omega), j5]
            unfold f_Model_calm_B48
            by_cases hv : most ≤ v6
            · simp (disch := omega) only [zgi, zgl, zwi, zwf, zjn, zj0, zcl_s, zcv_s, zrd_n, zrl_n, zix_n, zwa_n, zwl_n, zI1, zI2, zL1, zL2, zR1, zR2, updE, updLE, zbl_0, zbl_1, nI_1, nI_add, nI_mulR, nI_leI, nI_ltI, nI_0le, nI_lt0, bvE, ↓reduceIte, Nat.reduceEqDiff, Nat.reduceLT, Nat.reduceAdd, Nat.reduceMul, reduceCtorEq, i10, i01, eq_self, or_true, true_or, false_or, or_false, not_true_eq_false, not_false_eq_true, if_true, if_false, m3, hni, l12, l3, r6, Int32.not_lt.mpr hv]
              refine ⟨_, _, rfl, rfl, ?_, e6, j3', j4', j5'⟩
              rw [hb, if_pos hv]
            · simp (disch := omega) only [zgi, zgl, zwi, zwf, zjn, zj0, zcl_s, zcv_s, zrd_n, zrl_n, zix_n, zwa_n, zwl_n, zI1, zI2, zL1, zL2, zR1, zR2, updE, updLE, zbl_0, zbl_1, nI_1, nI_add, nI_mulR, nI_leI, nI_ltI, nI_0le, nI_lt0, bvE, ↓reduceIte, Nat.reduceEqDiff, Nat.reduceLT, Nat.reduceAdd, Nat.reduceMul, reduceCtorEq, i10, i01, eq_self, or_true, true_or, false_or, or_false, not_true_eq_false, not_false_eq_true, if_true, if_false, m3, hni, l12, l3, r6, Int32.not_le.mp hv]
              refine ⟨_, _, rfl, rfl, ?_, e6, j3', j4', j5'⟩
              rw [hb, if_neg hv]
          · rintro ⟨best, most, c⟩ s3 g ⟨j0, j1, j2, j3, j4, j5⟩
            dsimp only at j0 j1
            subst j0
            have m3 : s3.1 226 3 = nI P := by rw [j2]; exact h3.cM.2.2.1
            unfold f_Model_calm_B48
            simp (disch := omega) only [zgi, zgl, zwi, zwf, zjn, zj0, zcl_s, zcv_s, zrd_n, zrl_n, zix_n, zwa_n, zwl_n, zI1, zI2, zL1, zL2, zR1, zR2, updE, updLE, zbl_0, zbl_1, nI_1, nI_add, nI_mulR, nI_leI, nI_ltI, nI_0le, nI_lt0, bvE, ↓reduceIte, Nat.reduceEqDiff, Nat.reduceLT, Nat.reduceAdd, Nat.reduceMul, reduceCtorEq, i10, i01, eq_self, or_true, true_or, false_or, or_false, not_true_eq_false, not_false_eq_true, if_true, if_false, m3, Nat.le_refl]
            rw [← j1]
            have qq : qM s' s3 := ⟨fun b hb => by
              by_cases hb2 : b = 226
              · rw [hb2, j2, e226]
              · rw [j3 b (by omega), E1 b (by omega)], fun j hj => by
              by_cases hj2 : j = 24
              · rw [hj2, j5, E1 216 (by omega)]
              · rw [j4 j (by omega) hj2, E1 216 (by omega)]⟩
            by_cases w0 : w = 0
            · simp only [w0, not_true_eq_false, ↓reduceIte]; exact rt_s ⟨rfl, qq⟩
            · simp only [w0, not_false_eq_true, ↓reduceIte]; exact rt_s ⟨rfl, qq⟩
      · refine ⟨-2, ?_, fun s' hs' => ?_⟩
        · simp only [zgi, zgl, zwi, zwf, zjn, zj0, zcl_s, zcv_s, zrd_n, zrl_n, zix_n, zwa_n, zwl_n, zI1, zI2, zL1, zL2, zR1, zR2, updE, updLE, zbl_0, zbl_1, nI_1, nI_add, nI_mulR, nI_leI, nI_ltI, nI_0le, nI_lt0, bvE, ↓reduceIte, Nat.reduceEqDiff, Nat.reduceLT, Nat.reduceAdd, Nat.reduceMul, reduceCtorEq, i10, i01, eq_self, or_true, true_or, false_or, or_false, not_true_eq_false, not_false_eq_true, if_true, if_false, c0, a1, a2, cEi, hw]; exact rt_s ⟨rfl, frm.rf⟩
        · have m0' : s'.1 226 0 = 1 := by rw [hs' 226 (by omega)]; exact m0
          simp only [zgi, zgl, zwi, zwf, zjn, zj0, zcl_s, zcv_s, zrd_n, zrl_n, zix_n, zwa_n, zwl_n, zI1, zI2, zL1, zL2, zR1, zR2, updE, updLE, zbl_0, zbl_1, nI_1, nI_add, nI_mulR, nI_leI, nI_ltI, nI_0le, nI_lt0, bvE, ↓reduceIte, Nat.reduceEqDiff, Nat.reduceLT, Nat.reduceAdd, Nat.reduceMul, reduceCtorEq, i10, i01, eq_self, or_true, true_or, false_or, or_false, not_true_eq_false, not_false_eq_true, if_true, if_false, m_isSmithy, m0', hin, hp, and_self, mIn01, hw]; exact rt_s ⟨rfl, qM.rf⟩
    · have hno' : ¬ ((1 : Int32) ≤ p ∧ p ≤ 30) := hno
      refine ⟨-2, ?_, fun s' hs' => ?_⟩
      · by_cases a1 : p < 1
        · simp only [zgi, zgl, zwi, zwf, zjn, zj0, zcl_s, zcv_s, zrd_n, zrl_n, zix_n, zwa_n, zwl_n, zI1, zI2, zL1, zL2, zR1, zR2, updE, updLE, zbl_0, zbl_1, nI_1, nI_add, nI_mulR, nI_leI, nI_ltI, nI_0le, nI_lt0, bvE, ↓reduceIte, Nat.reduceEqDiff, Nat.reduceLT, Nat.reduceAdd, Nat.reduceMul, reduceCtorEq, i10, i01, eq_self, or_true, true_or, false_or, or_false, not_true_eq_false, not_false_eq_true, if_true, if_false, c0, a1]; exact rt_s ⟨rfl, frm.rf⟩
        · have a2 : (30 : Int32) < p := Int32.not_le.mp (fun e => hno' ⟨Int32.not_lt.mp a1, e⟩)
          simp only [zgi, zgl, zwi, zwf, zjn, zj0, zcl_s, zcv_s, zrd_n, zrl_n, zix_n, zwa_n, zwl_n, zI1, zI2, zL1, zL2, zR1, zR2, updE, updLE, zbl_0, zbl_1, nI_1, nI_add, nI_mulR, nI_leI, nI_ltI, nI_0le, nI_lt0, bvE, ↓reduceIte, Nat.reduceEqDiff, Nat.reduceLT, Nat.reduceAdd, Nat.reduceMul, reduceCtorEq, i10, i01, eq_self, or_true, true_or, false_or, or_false, not_true_eq_false, not_false_eq_true, if_true, if_false, c0, a1, a2]; exact rt_s ⟨rfl, frm.rf⟩
      · have m0' : s'.1 226 0 = 1 := by rw [hs' 226 (by omega)]; exact m0
        simp only [zgi, zgl, zwi, zwf, zjn, zj0, zcl_s, zcv_s, zrd_n, zrl_n, zix_n, zwa_n, zwl_n, zI1, zI2, zL1, zL2, zR1, zR2, updE, updLE, zbl_0, zbl_1, nI_1, nI_add, nI_mulR, nI_leI, nI_ltI, nI_0le, nI_lt0, bvE, ↓reduceIte, Nat.reduceEqDiff, Nat.reduceLT, Nat.reduceAdd, Nat.reduceMul, reduceCtorEq, i10, i01, eq_self, or_true, true_or, false_or, or_false, not_true_eq_false, not_false_eq_true, if_true, if_false, m_isSmithy, m0', hin, hno']; exact rt_s ⟨rfl, qM.rf⟩
theorem st_ahead (p n w : Int32) : stp (f_Ring_ahead p n w) (f_Model_ahead p n w) := by
  refine stq (fun s hR => ?_)
  obtain ⟨R, P, Q, h1, h2, h3, h4, h5, h6, h7⟩ := id hR
  have hP := h3.1.1
  have hQ := h3.1.2.1
  have hzw := h3.2.2.2.1.1.zW
  obtain ⟨rl, hA, hB⟩ := ctx h2 h3
  have hin : ∀ s' : ZS, f_Model_in n.toInt64 0 100 s' = some (if (0 : Int32) ≤ n ∧ n ≤ 100 then 1 else 0, s') := fun s' => mIn (by decide) (by decide)
  have hin2 : ∀ s' : ZS, f_Model_in w.toInt64 0 2 s' = some (if (0 : Int32) ≤ w ∧ w ≤ 2 then 1 else 0, s') := fun s' => mIn (by decide) (by decide)
  have e3 : s.1 4 3 = nI P := h3.cC.2.2.1
  unfold f_Ring_ahead f_Model_ahead
  rcases told_c h3 with ⟨c0, m0⟩ | ⟨c0, m0⟩
  · refine ⟨-1, ?_, fun s' hs' => ?_⟩
    · simp only [zgi, zgl, zwi, zwf, zjn, zj0, zcl_s, zcv_s, zrd_n, zrl_n, zix_n, zwa_n, zwl_n, zI1, zI2, zL1, zL2, zR1, zR2, updE, updLE, zbl_0, zbl_1, nI_1, nI_add, nI_mulR, nI_leI, nI_ltI, nI_0le, nI_lt0, bvE, ↓reduceIte, Nat.reduceEqDiff, Nat.reduceLT, Nat.reduceAdd, Nat.reduceMul, reduceCtorEq, i10, i01, eq_self, or_true, true_or, false_or, or_false, not_true_eq_false, not_false_eq_true, if_true, if_false, c0]; exact rt_s ⟨rfl, frm.rf⟩
    · have m0' : s'.1 226 0 = 0 := by rw [hs' 226 (by omega)]; exact m0
      simp only [zgi, zgl, zwi, zwf, zjn, zj0, zcl_s, zcv_s, zrd_n, zrl_n, zix_n, zwa_n, zwl_n, zI1, zI2, zL1, zL2, zR1, zR2, updE, updLE, zbl_0, zbl_1, nI_1, nI_add, nI_mulR, nI_leI, nI_ltI, nI_0le, nI_lt0, bvE, ↓reduceIte, Nat.reduceEqDiff, Nat.reduceLT, Nat.reduceAdd, Nat.reduceMul, reduceCtorEq, i10, i01, eq_self, or_true, true_or, false_or, or_false, not_true_eq_false, not_false_eq_true, if_true, if_false, m_isSmithy, m0']; exact rt_s ⟨rfl, qM.rf⟩
  · have mm : ∀ s' : ZS, (∀ b, ¬ (202 ≤ b ∧ b ≤ 215) → s'.1 b = s.1 b) → s'.1 226 0 = 1 := fun s' hs' => by rw [hs' 226 (by omega)]; exact m0
    rcases nIn n 0 100 (by omega) (by omega) with ⟨k, n1, n2, rfl⟩ | hno
    · have hp : (0 : Int32) ≤ nI k ∧ nI k ≤ 100 := ⟨nI_pos' (by omega), by rw [show (100 : Int32) = nI 100 from rfl, nI_leI (by omega) (by omega)]; exact n2⟩
      have a1 : ¬ nI k < 0 := Int32.not_lt.mpr hp.1
      have a2 : ¬ (100 : Int32) < nI k := Int32.not_lt.mpr hp.2
      have cl : rt (f_Fore_later (nI k) s) (fun w => gS 207 w = dn P Q (s.1 226) 0 (-1) rl k (gM (s.1 226)) ∧ frm (fun b => 202 ≤ b ∧ b ≤ 215) s w) := by
        unfold f_Fore_later
        refine rt_cv (c_res h2 h3 hA frm.rf) ?_
        rintro s1 ⟨g1, d1, _, F1⟩
        refine rt_cl (c_rowsIn (by omega) d1 (by rw [g1]; exact hzw)) ?_
        rintro v s2 ⟨v1, g2, F2⟩
        dsimp only at g2 F2
        rw [g1] at g2
        exact rt_s ⟨g2, F1.tr (F2.sub (fun b hb => by unfold tF at hb; omega))⟩
      -- the reference: days, then what is read of them
      have ml : ∀ (s' : ZS) (K : ZS → Option (Int32 × ZS)) (V : Int32), (∀ b, ¬ (202 ≤ b ∧ b ≤ 215) → s'.1 b = s.1 b) → (∀ s2 : ZS, gM (s2.1 226) = dn P Q (s.1 226) 0 (-1) rl k (gM (s.1 226)) → (∀ j, j < 47 → s2.1 229 j = s.1 226 (10 + j)) → (∀ j, j < 10 ∨ 57 ≤ j → s2.1 226 j = s.1 226 j) → (∀ b, ¬ (b = 216 ∨ 226 ≤ b ∧ b ≤ 227 ∨ b = 229) → s2.1 b = s'.1 b) → (∀ j, j ≠ 18 → s2.1 216 j = s'.1 216 j) → rt (K s2) (fun w => w.1 = V ∧ qM s' w.2)) → rt (zcv (f_Model_keeps s') (fun (s12 : ZS) => zlp zN (f_Model_ahead_B53 (nI k) K) (0 : Int32) s12)) (fun w => w.1 = V ∧ qM s' w.2) := by
        intro s' K V hs' hK
        have e226 : s'.1 226 = s.1 226 := hs' 226 (by omega)
        refine rt_cv m_keeps ?_
        rintro s1 rfl
        have hB0 : dM P Q (s.1 226) 0 (-1) rl (zsR s' 229 (fun k => if k < 47 then s'.1 226 (10 + k) else s'.1 229 k)) := hB _ 0 (-1) (fun k hk => by rw [zR1, if_neg (by omega), e226]) (fun b hb => by rw [zR1, if_neg (by omega)]; exact hs' b (by omega)) (by rw [zR1, if_neg (by omega), hs' 216 (by omega)]) (by rw [zR1, if_neg (by omega), hs' 216 (by omega)]; exact h6) (by rw [zR1, if_neg (by omega), hs' 216 (by omega)]; exact h7)
        generalize hs1 : zsR s' 229 (fun k => if k < 47 then s'.1 226 (10 + k) else s'.1 229 k) = s1 at hB0 ⊢
        have k1 : ∀ j, j < 47 → s1.1 229 j = s.1 226 (10 + j) := fun j hj => by rw [← hs1, kept j hj, e226]
        have e1 : s1.1 226 = s.1 226 := by rw [← hs1, zR1, if_neg (by omega), e226]
        have E1 : ∀ b, b ≠ 229 → s1.1 b = s'.1 b := fun b hb => by rw [← hs1, zR1, if_neg hb]
        refine lp_rt k (fun i a s2 => a = nI i ∧ gM (s2.1 226) = dn P Q (s.1 226) 0 (-1) rl i (gM (s.1 226)) ∧ nM s1 s2) (by omega) ⟨rfl, by rw [e1]; rfl, nM.rf⟩ ?_ ?_
        · rintro i c s2 g hi ⟨rfl, j1, j3⟩
          left
          have hni : ¬ k ≤ i := by omega
          obtain ⟨⟨r, s3⟩, r2, q1, q2, q3, F⟩ := m_day (hB0.n j3) (by rw [j1]; exact zW_dn h3.1.cK hzw i)
          dsimp only at q1 F
          unfold f_Model_ahead_B53
          simp (disch := omega) only [nI_leI, hni, ↓reduceIte, r2, zcl_s, nI_1]
          exact ⟨_, _, rfl, rfl, by rw [q1, j1]; rfl, j3.tr F⟩
        · rintro c s2 g ⟨rfl, j1, j3⟩
          unfold f_Model_ahead_B53
          simp (disch := omega) only [nI_leI, Nat.le_refl, ↓reduceIte]
          exact hK s2 j1 (fun j hj => by rw [j3.1 229 (by omega)]; exact k1 j hj) (fun j hj => by rw [j3.2.2.2 j hj, e1]) (fun b hb => by rw [j3.1 b (by omega), E1 b (by omega)]) (fun j hj => by rw [j3.2.2.1 j hj, E1 216 (by omega)])
      have lay : ∀ (s' s2 : ZS) (V : Int32), (∀ b, ¬ (202 ≤ b ∧ b ≤ 215) → s'.1 b = s.1 b) → (∀ j, j < 47 → s2.1 229 j = s.1 226 (10 + j)) → (∀ j, j < 10 ∨ 57 ≤ j → s2.1 226 j = s.1 226 j) → (∀ b, ¬ (b = 216 ∨ 226 ≤ b ∧ b ≤ 227 ∨ b = 229) → s2.1 b = s'.1 b) → (∀ j, j ≠ 18 → s2.1 216 j = s'.1 216 j) → rt (zcv (f_Model_laysBack s2) (fun (s18 : ZS) => some (V, s18))) (fun w => w.1 = V ∧ qM s' w.2) := by
        intro s' s2 V hs' x1 x2 x3 x4
        refine rt_cv (m_laysBack (M0 := s.1 226) x1 x2) ?_
        rintro s3 rfl
        refine rt_s ⟨rfl, fun b hb => ?_, fun j hj => ?_⟩
        · dsimp only; rw [zR1]
          by_cases hb2 : b = 226
          · rw [if_pos hb2, hb2, hs' 226 (by omega)]
          · rw [if_neg hb2]; exact x3 b (by omega)
        · dsimp only; rw [zR1, if_neg (by omega)]; exact x4 j (by omega)
      by_cases b1 : w = 2
      · subst b1
        refine ⟨(dn P Q (s.1 226) 0 (-1) rl k (gM (s.1 226))).2.2.2.2.2, ?_, fun s' hs' => ?_⟩
        · simp only [zgi, c0, i10, ↓reduceIte, a1, a2, show ¬ (2 : Int32) < 0 by decide, Int32.le_refl, not_true_eq_false]
          refine rt_cv cl ?_
          rintro s1 ⟨g1, F1⟩
          exact rt_s ⟨by dsimp only; rw [rN207, g1], F1⟩
        · simp only [zcl_s, zj0, zjn, m_isSmithy, mm s' hs', i10, ↓reduceIte, hin, hp, and_self, hin2, show (0 : Int32) ≤ 2 ∧ (2 : Int32) ≤ 2 by decide, Int32.le_refl]
          refine ml s' _ _ hs' (fun s2 x0 x1 x2 x3 x4 => ?_)
          simp only [show ¬ (2 : Int32) = 0 by decide, show ¬ (2 : Int32) = 1 by decide, not_false_eq_true, ↓reduceIte, zgi, qN, x0]
          exact lay s' s2 _ hs' x1 x2 x3 x4
      · by_cases b2 : w = 0 ∨ w = 1
        · have b3 : ¬ w < 0 := by rcases b2 with rfl | rfl <;> decide
          have b4 : w ≤ 2 := by rcases b2 with rfl | rfl <;> decide
          have b5 : (0 : Int32) ≤ w ∧ w ≤ 2 := ⟨Int32.not_lt.mp b3, b4⟩
          have b6 : ¬ (2 : Int32) ≤ w := by rcases b2 with rfl | rfl <;> decide
          rcases pN p P (by omega) with ⟨q, hq, rfl⟩ | hn
          · refine ⟨if w = 0 then (dn P Q (s.1 226) 0 (-1) rl k (gM (s.1 226))).1 q else (dn P Q (s.1 226) 0 (-1) rl k (gM (s.1 226))).2.1 q, ?_, fun s' hs' => ?_⟩
            · simp only [zgi, c0, i10, ↓reduceIte, a1, a2, b3, b4, b1, not_false_eq_true, cHas e3 hP hq, zcl_s]
              refine rt_cv cl ?_
              rintro s1 ⟨g1, F1⟩
              rcases b2 with rfl | rfl
              · simp (disch := omega) only [zgi, zgl, zwi, zwf, zjn, zj0, zcl_s, zcv_s, zrd_n, zrl_n, zix_n, zwa_n, zwl_n, zI1, zI2, zL1, zL2, zR1, zR2, updE, updLE, zbl_0, zbl_1, nI_1, nI_add, nI_mulR, nI_leI, nI_ltI, nI_0le, nI_lt0, bvE, ↓reduceIte, Nat.reduceEqDiff, Nat.reduceLT, Nat.reduceAdd, Nat.reduceMul, reduceCtorEq, i10, i01, eq_self, or_true, true_or, false_or, or_false, not_true_eq_false, not_false_eq_true, if_true, if_false, rT207, g1]; exact rt_s ⟨rfl, F1⟩
              · simp (disch := omega) only [zgi, zgl, zwi, zwf, zjn, zj0, zcl_s, zcv_s, zrd_n, zrl_n, zix_n, zwa_n, zwl_n, zI1, zI2, zL1, zL2, zR1, zR2, updE, updLE, zbl_0, zbl_1, nI_1, nI_add, nI_mulR, nI_leI, nI_ltI, nI_0le, nI_lt0, bvE, ↓reduceIte, Nat.reduceEqDiff, Nat.reduceLT, Nat.reduceAdd, Nat.reduceMul, reduceCtorEq, i10, i01, eq_self, or_true, true_or, false_or, or_false, not_true_eq_false, not_false_eq_true, if_true, if_false, rW207, g1]; exact rt_s ⟨rfl, F1⟩
            · have m3 : s'.1 226 3 = nI P := by rw [hs' 226 (by omega)]; exact h3.cM.2.2.1
              simp only [zcl_s, zj0, zjn, m_isSmithy, mm s' hs', i10, ↓reduceIte, hin, hp, and_self, hin2, b5, b6, mPair m3 hP hq, not_false_eq_true]
              refine ml s' _ _ hs' (fun s2 x0 x1 x2 x3 x4 => ?_)
              rcases b2 with rfl | rfl
              · simp (disch := omega) only [zcl_s, not_true_eq_false, ↓reduceIte, mTemper, x0]
                exact lay s' s2 _ hs' x1 x2 x3 x4
              · simp (disch := omega) only [zcl_s, i10, not_false_eq_true, not_true_eq_false, ↓reduceIte, mBand, x0]
                exact lay s' s2 _ hs' x1 x2 x3 x4
          · refine ⟨-1, ?_, fun s' hs' => ?_⟩
            · simp only [zgi, zgl, zwi, zwf, zjn, zj0, zcl_s, zcv_s, zrd_n, zrl_n, zix_n, zwa_n, zwl_n, zI1, zI2, zL1, zL2, zR1, zR2, updE, updLE, zbl_0, zbl_1, nI_1, nI_add, nI_mulR, nI_leI, nI_ltI, nI_0le, nI_lt0, bvE, ↓reduceIte, Nat.reduceEqDiff, Nat.reduceLT, Nat.reduceAdd, Nat.reduceMul, reduceCtorEq, i10, i01, eq_self, or_true, true_or, false_or, or_false, not_true_eq_false, not_false_eq_true, if_true, if_false, c0, a1, a2, b3, b4, b1, cHasN e3 hn]; exact rt_s ⟨rfl, frm.rf⟩
            · have m3 : s'.1 226 3 = nI P := by rw [hs' 226 (by omega)]; exact h3.cM.2.2.1
              simp only [zgi, zgl, zwi, zwf, zjn, zj0, zcl_s, zcv_s, zrd_n, zrl_n, zix_n, zwa_n, zwl_n, zI1, zI2, zL1, zL2, zR1, zR2, updE, updLE, zbl_0, zbl_1, nI_1, nI_add, nI_mulR, nI_leI, nI_ltI, nI_0le, nI_lt0, bvE, ↓reduceIte, Nat.reduceEqDiff, Nat.reduceLT, Nat.reduceAdd, Nat.reduceMul, reduceCtorEq, i10, i01, eq_self, or_true, true_or, false_or, or_false, not_true_eq_false, not_false_eq_true, if_true, if_false, m_isSmithy, mm s' hs', hin, hp, and_self, hin2, b5, b6, mPairN m3 hn]; exact rt_s ⟨rfl, qM.rf⟩
        · have b7 : ¬ ((0 : Int32) ≤ w ∧ w ≤ 2) := by
            intro e
            obtain ⟨j, j1, rfl⟩ := nI_of (Int32.not_lt.mpr e.1)
            have := e.2
            rw [l2, nI_leI (by omega) (by omega)] at this
            have : j = 0 ∨ j = 1 ∨ j = 2 := by omega
            rcases this with rfl | rfl | rfl
            · exact b2 (Or.inl rfl)
            · exact b2 (Or.inr rfl)
            · exact b1 rfl
          refine ⟨-1, ?_, fun s' hs' => ?_⟩
          · by_cases b3 : w < 0
            · simp only [zgi, zgl, zwi, zwf, zjn, zj0, zcl_s, zcv_s, zrd_n, zrl_n, zix_n, zwa_n, zwl_n, zI1, zI2, zL1, zL2, zR1, zR2, updE, updLE, zbl_0, zbl_1, nI_1, nI_add, nI_mulR, nI_leI, nI_ltI, nI_0le, nI_lt0, bvE, ↓reduceIte, Nat.reduceEqDiff, Nat.reduceLT, Nat.reduceAdd, Nat.reduceMul, reduceCtorEq, i10, i01, eq_self, or_true, true_or, false_or, or_false, not_true_eq_false, not_false_eq_true, if_true, if_false, c0, a1, a2, b3]; exact rt_s ⟨rfl, frm.rf⟩
            · have b4 : ¬ w ≤ 2 := fun e => b7 ⟨Int32.not_lt.mp b3, e⟩
              simp only [zgi, zgl, zwi, zwf, zjn, zj0, zcl_s, zcv_s, zrd_n, zrl_n, zix_n, zwa_n, zwl_n, zI1, zI2, zL1, zL2, zR1, zR2, updE, updLE, zbl_0, zbl_1, nI_1, nI_add, nI_mulR, nI_leI, nI_ltI, nI_0le, nI_lt0, bvE, ↓reduceIte, Nat.reduceEqDiff, Nat.reduceLT, Nat.reduceAdd, Nat.reduceMul, reduceCtorEq, i10, i01, eq_self, or_true, true_or, false_or, or_false, not_true_eq_false, not_false_eq_true, if_true, if_false, c0, a1, a2, b3, b4]; exact rt_s ⟨rfl, frm.rf⟩
          · simp only [zgi, zgl, zwi, zwf, zjn, zj0, zcl_s, zcv_s, zrd_n, zrl_n, zix_n, zwa_n, zwl_n, zI1, zI2, zL1, zL2, zR1, zR2, updE, updLE, zbl_0, zbl_1, nI_1, nI_add, nI_mulR, nI_leI, nI_ltI, nI_0le, nI_lt0, bvE, ↓reduceIte, Nat.reduceEqDiff, Nat.reduceLT, Nat.reduceAdd, Nat.reduceMul, reduceCtorEq, i10, i01, eq_self, or_true, true_or, false_or, or_false, not_true_eq_false, not_false_eq_true, if_true, if_false, m_isSmithy, mm s' hs', hin, hp, and_self, hin2, b7]; exact rt_s ⟨rfl, qM.rf⟩
    · have hno' : ¬ ((0 : Int32) ≤ n ∧ n ≤ 100) := hno
      refine ⟨-1, ?_, fun s' hs' => ?_⟩
      · by_cases a1 : n < 0
        · simp only [zgi, zgl, zwi, zwf, zjn, zj0, zcl_s, zcv_s, zrd_n, zrl_n, zix_n, zwa_n, zwl_n, zI1, zI2, zL1, zL2, zR1, zR2, updE, updLE, zbl_0, zbl_1, nI_1, nI_add, nI_mulR, nI_leI, nI_ltI, nI_0le, nI_lt0, bvE, ↓reduceIte, Nat.reduceEqDiff, Nat.reduceLT, Nat.reduceAdd, Nat.reduceMul, reduceCtorEq, i10, i01, eq_self, or_true, true_or, false_or, or_false, not_true_eq_false, not_false_eq_true, if_true, if_false, c0, a1]; exact rt_s ⟨rfl, frm.rf⟩
        · have a2 : (100 : Int32) < n := Int32.not_le.mp (fun e => hno' ⟨Int32.not_lt.mp a1, e⟩)
          simp only [zgi, zgl, zwi, zwf, zjn, zj0, zcl_s, zcv_s, zrd_n, zrl_n, zix_n, zwa_n, zwl_n, zI1, zI2, zL1, zL2, zR1, zR2, updE, updLE, zbl_0, zbl_1, nI_1, nI_add, nI_mulR, nI_leI, nI_ltI, nI_0le, nI_lt0, bvE, ↓reduceIte, Nat.reduceEqDiff, Nat.reduceLT, Nat.reduceAdd, Nat.reduceMul, reduceCtorEq, i10, i01, eq_self, or_true, true_or, false_or, or_false, not_true_eq_false, not_false_eq_true, if_true, if_false, c0, a1, a2]; exact rt_s ⟨rfl, frm.rf⟩
      · simp only [zgi, zgl, zwi, zwf, zjn, zj0, zcl_s, zcv_s, zrd_n, zrl_n, zix_n, zwa_n, zwl_n, zI1, zI2, zL1, zL2, zR1, zR2, updE, updLE, zbl_0, zbl_1, nI_1, nI_add, nI_mulR, nI_leI, nI_ltI, nI_0le, nI_lt0, bvE, ↓reduceIte, Nat.reduceEqDiff, Nat.reduceLT, Nat.reduceAdd, Nat.reduceMul, reduceCtorEq, i10, i01, eq_self, or_true, true_or, false_or, or_false, not_true_eq_false, not_false_eq_true, if_true, if_false, m_isSmithy, mm s' hs', hin, hno']; exact rt_s ⟨rfl, qM.rf⟩
