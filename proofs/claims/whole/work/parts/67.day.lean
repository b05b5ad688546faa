/-! The acts. -/
theorem told_c {s : ZS} {M : Nat → Int32} {f x : Int32} {R P Q : Nat} (h : rWd 3 s M f x R P Q) : s.1 4 0 = 0 ∧ M 0 = 0 ∨ s.1 4 0 = 1 ∧ M 0 = 1 := by
  have e : s.1 4 0 = M 0 := h.2.1.1
  rcases h.1.2.2.2.2.1 with ⟨h0, _⟩ | ⟨h0, _⟩
  · exact Or.inl ⟨e.trans h0, h0⟩
  · exact Or.inr ⟨e.trans h0, h0⟩
theorem m_isSmithy {s : ZS} : f_Model_isSmithy s = some (if s.1 226 0 = 1 then 1 else 0, s) := by
  unfold f_Model_isSmithy
  by_cases h : s.1 226 0 = 1
  · simp only [zgi, zgl, zwi, zwf, zjn, zj0, zcl_s, zcv_s, zrd_n, zrl_n, zix_n, zwa_n, zwl_n, zI1, zI2, zL1, zL2, zR1, zR2, updE, updLE, zbl_0, zbl_1, nI_1, nI_add, nI_mulR, nI_leI, nI_ltI, nI_0le, nI_lt0, bvE, ↓reduceIte, Nat.reduceEqDiff, Nat.reduceLT, Nat.reduceAdd, Nat.reduceMul, reduceCtorEq, i10, i01, eq_self, or_true, true_or, false_or, or_false, not_true_eq_false, not_false_eq_true, if_true, if_false, h]
  · simp only [zgi, zgl, zwi, zwf, zjn, zj0, zcl_s, zcv_s, zrd_n, zrl_n, zix_n, zwa_n, zwl_n, zI1, zI2, zL1, zL2, zR1, zR2, updE, updLE, zbl_0, zbl_1, nI_1, nI_add, nI_mulR, nI_leI, nI_ltI, nI_0le, nI_lt0, bvE, ↓reduceIte, Nat.reduceEqDiff, Nat.reduceLT, Nat.reduceAdd, Nat.reduceMul, reduceCtorEq, i10, i01, eq_self, or_true, true_or, false_or, or_false, not_true_eq_false, not_false_eq_true, if_true, if_false, h]
theorem f6 {R : Nat} {f : Int32} (hR : R ≤ 6) (hf : f = -1 ∨ ∃ j, j < R ∧ f = nI j) : f = -1 ∨ ∃ j, j < 6 ∧ f = nI j := by
  rcases hf with h | ⟨j, hj, h⟩
  · exact Or.inl h
  · exact Or.inr ⟨j, by omega, h⟩
theorem st_day : stp f_Ring_day f_Model_day := by
  intro s hR
  obtain ⟨R, P, Q, h1, h2, h3, h4, h5, h6, h7⟩ := id hR
  have hP := h3.1.1
  have hQ := h3.1.2.1
  have g := h3.g
  obtain ⟨d, d1, d2, d3⟩ := h3.2.2.2.1.2
  have eD : s.1 10 0 = nI d := (congrArg (fun z : ZT => z.2.2.2.2.1) g).trans d3
  unfold f_Ring_day f_Model_day
  rcases told_c h3 with ⟨c0, m0⟩ | ⟨c0, m0⟩
  · simp only [zgi, zgl, zwi, zwf, zjn, zj0, zcl_s, zcv_s, zrd_n, zrl_n, zix_n, zwa_n, zwl_n, zI1, zI2, zL1, zL2, zR1, zR2, updE, updLE, zbl_0, zbl_1, nI_1, nI_add, nI_mulR, nI_leI, nI_ltI, nI_0le, nI_lt0, bvE, ↓reduceIte, Nat.reduceEqDiff, Nat.reduceLT, Nat.reduceAdd, Nat.reduceMul, reduceCtorEq, i10, i01, eq_self, or_true, true_or, false_or, or_false, not_true_eq_false, not_false_eq_true, if_true, if_false, c0]
    refine rt_s ?_
    simp only [zgi, zgl, zwi, zwf, zjn, zj0, zcl_s, zcv_s, zrd_n, zrl_n, zix_n, zwa_n, zwl_n, zI1, zI2, zL1, zL2, zR1, zR2, updE, updLE, zbl_0, zbl_1, nI_1, nI_add, nI_mulR, nI_leI, nI_ltI, nI_0le, nI_lt0, bvE, ↓reduceIte, Nat.reduceEqDiff, Nat.reduceLT, Nat.reduceAdd, Nat.reduceMul, reduceCtorEq, i10, i01, eq_self, or_true, true_or, false_or, or_false, not_true_eq_false, not_false_eq_true, if_true, if_false, m_isSmithy, m0]
    exact rt_s ⟨rfl, hR⟩
  · by_cases hd : d < 999
    · obtain ⟨u, f0, p1, p2, p3, p4, p5, p6⟩ := h5
      simp (disch := omega) only [zgi, zgl, zwi, zwf, zjn, zj0, zcl_s, zcv_s, zrd_n, zrl_n, zix_n, zwa_n, zwl_n, zI1, zI2, zL1, zL2, zR1, zR2, updE, updLE, zbl_0, zbl_1, nI_1, nI_add, nI_mulR, nI_leI, nI_ltI, nI_0le, nI_lt0, bvE, ↓reduceIte, Nat.reduceEqDiff, Nat.reduceLT, Nat.reduceAdd, Nat.reduceMul, reduceCtorEq, i10, i01, eq_self, or_true, true_or, false_or, or_false, not_true_eq_false, not_false_eq_true, if_true, if_false, c0, eD, l999, hd]
      refine rt_cv (c_keep p1 p2 p3 p4) ?_
      rintro s1 ⟨F1, f1, q1, q2, q3, q4⟩
      have e36 : s1.1 3 6 = s.1 216 21 := by rw [F1.1 3 (by omega)]; exact h3.2.2.2.2.2.1
      simp only [zgi, e36]
      refine rt_cv (c_under (f6 h2.1 h3.2.2.2.2.2.2.1)) ?_
      rintro s2 ⟨v1, v2, v3, F2⟩
      obtain ⟨rl, r1, r2⟩ := rl_of h2 h3.2.2.2.2.2.2.1
      have E2 : ∀ b, ¬ (100 ≤ b ∧ b ≤ 202) → s2.1 b = s.1 b := fun b hb => by rw [F2.1 b (by omega), F1.1 b (by omega)]
      have g2 : gS 10 s2 = gM (s.1 226) := by rw [gS_f (s := s) (fun b _ _ => E2 b (by omega))]; exact g
      have c2 : cC P Q (s.1 226) s2 := (h3.cC.f F1 (fun b hb hb2 => by omega)).f F2 (fun b hb hb2 => by omega)
      refine rt_cl (cl_passDay10 c2 h3.1.cK (by rw [g2]; exact h3.2.2.2.1.1.zW) v2 v3 (Or.inl rfl) (r1 s2 v1 (fun b _ _ => E2 b (by omega)))) ?_
      rintro r s3 ⟨w1, F3⟩
      dsimp only at w1
      rw [g2] at w1
      have E3 : ∀ b, ¬ (10 ≤ b ∧ b ≤ 14 ∨ 100 ≤ b ∧ b ≤ 205) → s3.1 b = s.1 b := fun b hb => by rw [F3.1 b (by omega), E2 b (by omega)]
      refine rt_s ?_
      dsimp only
      have m0' : s3.1 226 0 = 1 := by rw [E3 226 (by omega)]; exact m0
      have d3' : s3.1 226 10 = nI d := by rw [E3 226 (by omega)]; exact d3
      have dne : (nI d = nI 999) = False := eq_false (fun e => by rw [nI_eq (by omega) (by omega)] at e; omega)
      simp only [zgi, zgl, zwi, zwf, zjn, zj0, zcl_s, zcv_s, zrd_n, zrl_n, zix_n, zwa_n, zwl_n, zI1, zI2, zL1, zL2, zR1, zR2, updE, updLE, zbl_0, zbl_1, nI_1, nI_add, nI_mulR, nI_leI, nI_ltI, nI_0le, nI_lt0, bvE, ↓reduceIte, Nat.reduceEqDiff, Nat.reduceLT, Nat.reduceAdd, Nat.reduceMul, reduceCtorEq, i10, i01, eq_self, or_true, true_or, false_or, or_false, not_true_eq_false, not_false_eq_true, if_true, if_false, m_isSmithy, m0', d3', l999, dne]
      refine rt_cv (m_keepsAct p1 (by rw [E3 216 (by omega)]; exact p5)) ?_
      rintro s4 ⟨x1, x2, x3, x4⟩
      have e226 : s4.1 226 = s.1 226 := by rw [x1 226 (by omega) (by omega), E3 226 (by omega)]
      have hc4 : cM P Q (s.1 226) s4 := by unfold cM; rw [e226]; exact h3.cM
      have e216 : ∀ j, j ≠ 27 → s4.1 216 j = s.1 216 j := fun j hj => by rw [x2 j hj, E3 216 (by omega)]
      refine rt_cl (m_passes hc4 h3.1.cK h3.1.cN (by rw [e226]; exact h3.2.2.2.1.1.zW) ((e216 23 (by omega)).trans h6) ((e216 24 (by omega)).trans h7) (r2 s4 (e216 21 (by omega)) (fun b hb => by rw [x1 b (by omega) (by omega), E3 b (by omega)]))) ?_
      rintro r' s5 ⟨y1, N5⟩
      dsimp only at y1
      rw [e226] at y1
      obtain ⟨k1, k2, k3⟩ := day_eX (Q := Q) (C := s.1 226) (st := 0) (hm := -1) (rl := rl) (z := gM (s.1 226)) (RS := s2.1 205) (RS' := s4.1 227) hP
      have gz : gS 10 s3 = gM (s5.1 226) := by
        rw [show gS 10 s3 = (gS 10 s3, r, s3.1 205).1 from rfl, w1, k1, ← y1]
      have er : r' = r := by
        rw [show r' = (gM (s5.1 226), r', s5.1 227).2.1 from rfl, y1, ← k2, ← w1]
      have E5 : ∀ b, ¬ (b = 216 ∨ 226 ≤ b ∧ b ≤ 228) → s5.1 b = s3.1 b := fun b hb => by rw [N5.1 b (by omega), x1 b (by omega) (by omega)]
      have gz5 : gS 10 s5 = gM (s5.1 226) := by rw [gS_f (s := s3) (fun b _ _ => E5 b (by omega))]; exact gz
      have zz : gM (s5.1 226) = (sDay P Q (s.1 226) 0 (-1) rl (gM (s.1 226)) (s4.1 227)).1 := by rw [← y1]
      refine rt_s ⟨er, Rel.act h1 h2 h3 h4 h6 h7 (fun b hb => by dsimp only; rw [E5 b (by omega), E3 b (by omega)]) (fun j hj => by dsimp only; rw [N5.2.2.1 j (by omega), e216 j (by omega)]) (fun k hk => by dsimp only; rw [N5.2.2.2 k hk, e226]) gz5 ?_ ?_⟩
      · rw [sOK_z]
        refine ⟨?_, ?_⟩
        · dsimp only; rw [zz]; exact zOK_day hP hQ h3.1.cK2 h3.2.2.2.1.1
        · dsimp only; rw [zz, day_day]
          show iN 0 999 (s.1 226 10 + 1)
          rw [d3, nI_1]; exact ⟨d + 1, by omega, by omega, rfl⟩
      · refine rHi_push p1 p6 h3.2.2.2.1 q1 ?_ ?_ ?_ (fun i hi => ?_) (fun i hi => ?_)
        · dsimp only; rw [E5 100 (by omega), F3.1 100 (by omega), F2.1 100 (by omega)]; exact q2
        · dsimp only; rw [E5 100 (by omega), F3.1 100 (by omega), F2.1 100 (by omega)]; exact q3
        · dsimp only; rw [N5.2.2.1 27 (by omega)]; exact x3
        · have hm := Nat.mod_lt (f1 + i) (show 0 < 20 by omega)
          rw [gS_f (s := s1) (fun b _ _ => by dsimp only; rw [E5 b (by omega), F3.1 b (by omega), F2.1 b (by omega)]), q4 i hi, g]
        · dsimp only
          rw [N5.1 228 (by omega), x4 i hi, E3 228 (by omega), E3 226 (by omega)]
    · have hd2 : d = 999 := by omega
      subst hd2
      simp (disch := omega) only [zgi, zgl, zwi, zwf, zjn, zj0, zcl_s, zcv_s, zrd_n, zrl_n, zix_n, zwa_n, zwl_n, zI1, zI2, zL1, zL2, zR1, zR2, updE, updLE, zbl_0, zbl_1, nI_1, nI_add, nI_mulR, nI_leI, nI_ltI, nI_0le, nI_lt0, bvE, ↓reduceIte, Nat.reduceEqDiff, Nat.reduceLT, Nat.reduceAdd, Nat.reduceMul, reduceCtorEq, i10, i01, eq_self, or_true, true_or, false_or, or_false, not_true_eq_false, not_false_eq_true, if_true, if_false, c0, eD, l999, Nat.lt_irrefl]
      refine rt_s ?_
      simp only [zgi, zgl, zwi, zwf, zjn, zj0, zcl_s, zcv_s, zrd_n, zrl_n, zix_n, zwa_n, zwl_n, zI1, zI2, zL1, zL2, zR1, zR2, updE, updLE, zbl_0, zbl_1, nI_1, nI_add, nI_mulR, nI_leI, nI_ltI, nI_0le, nI_lt0, bvE, ↓reduceIte, Nat.reduceEqDiff, Nat.reduceLT, Nat.reduceAdd, Nat.reduceMul, reduceCtorEq, i10, i01, eq_self, or_true, true_or, false_or, or_false, not_true_eq_false, not_false_eq_true, if_true, if_false, m_isSmithy, m0, d3, l999]
      exact rt_s ⟨rfl, hR⟩
