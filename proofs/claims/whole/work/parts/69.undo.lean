/-! undo, image, back, note. -/
theorem Rel.ac2 {s s' : ZS} {R P Q : Nat} (h1 : rTp s) (h2 : rRu s R) (h4 : rIm s R) (h6 : s.1 216 23 = 0) (h7 : s.1 216 24 = -1)
    (hb : ∀ b, ¬ (3 ≤ b ∧ b ≤ 17 ∨ 100 ≤ b ∧ b ≤ 216 ∨ 226 ≤ b ∧ b ≤ 228) → s'.1 b = s.1 b) (hj : ∀ j, j = 1 ∨ j = 2 ∨ 23 ≤ j ∧ j ≤ 24 → s'.1 216 j = s.1 216 j) (hw : rWd 3 s' (s'.1 226) (s'.1 216 21) (s'.1 216 22) R P Q) (hh : rHi s' P) : Rel s' :=
  ⟨R, P, Q, h1.f (by rw [hb 1 (by omega)]) (hj 1 (by omega)) (hb 2 (by omega)) (hb 217 (by omega)), h2.f (by rw [hb 0 (by omega)]) (hj 2 (by omega)) (fun b _ _ => hb b (by omega)) (fun b _ => hb b (by omega)), hw, h4.f (fun b _ _ => hb b (by omega)) (fun b _ _ => hb b (by omega)), hh, (hj 23 (by omega)).trans h6, (hj 24 (by omega)).trans h7⟩
theorem st_undo : stp f_Ring_undo f_Model_undo := by
  intro s hR
  obtain ⟨R, P, Q, h1, h2, h3, h4, h5, h6, h7⟩ := id hR
  obtain ⟨u, f0, p1, p2, p3, p4, p5, p6⟩ := h5
  unfold f_Ring_undo f_Model_undo
  by_cases hu : u = 0
  · subst hu
    have z : nI 0 = 0 := rfl
    simp only [zgi, zgl, zwi, zwf, zjn, zj0, zcl_s, zcv_s, zrd_n, zrl_n, zix_n, zwa_n, zwl_n, zI1, zI2, zL1, zL2, zR1, zR2, updE, updLE, zbl_0, zbl_1, nI_1, nI_add, nI_mulR, nI_leI, nI_ltI, nI_0le, nI_lt0, bvE, ↓reduceIte, Nat.reduceEqDiff, Nat.reduceLT, Nat.reduceAdd, Nat.reduceMul, reduceCtorEq, i10, i01, eq_self, or_true, true_or, false_or, or_false, not_true_eq_false, not_false_eq_true, if_true, if_false, p4, z]
    refine rt_s ?_
    simp only [zgi, zgl, zwi, zwf, zjn, zj0, zcl_s, zcv_s, zrd_n, zrl_n, zix_n, zwa_n, zwl_n, zI1, zI2, zL1, zL2, zR1, zR2, updE, updLE, zbl_0, zbl_1, nI_1, nI_add, nI_mulR, nI_leI, nI_ltI, nI_0le, nI_lt0, bvE, ↓reduceIte, Nat.reduceEqDiff, Nat.reduceLT, Nat.reduceAdd, Nat.reduceMul, reduceCtorEq, i10, i01, eq_self, or_true, true_or, false_or, or_false, not_true_eq_false, not_false_eq_true, if_true, if_false, p5, z]
    exact rt_s ⟨rfl, hR⟩
  · have hn0 : (nI u = 0) = False := eq_false (fun e => by rw [nI_eq0 (by omega)] at e; exact hu e)
    have hnl : ¬ nI u ≤ 0 := by rw [nI_le0 (by omega)]; exact hu
    have hm := Nat.mod_lt (f0 + (u - 1)) (show 0 < 20 by omega)
    unfold f_Hist_takeBack
    simp (disch := omega) only [zgi, zgl, zwi, zwf, zjn, zj0, zcl_s, zcv_s, zrd_n, zrl_n, zix_n, zwa_n, zwl_n, zI1, zI2, zL1, zL2, zR1, zR2, updE, updLE, zbl_0, zbl_1, nI_1, nI_add, nI_mulR, nI_leI, nI_ltI, nI_0le, nI_lt0, bvE, ↓reduceIte, Nat.reduceEqDiff, Nat.reduceLT, Nat.reduceAdd, Nat.reduceMul, reduceCtorEq, i10, i01, eq_self, or_true, true_or, false_or, or_false, not_true_eq_false, not_false_eq_true, if_true, if_false, p4, hn0, hnl, nI_sub1, p3, mod20]
    refine rt_cv (rt_cv (c_copyS (by omega)) (fun s1 hs1 => rt_s hs1)) ?_
    rintro s1 ⟨g1, F1⟩
    have a1 : s1.1 100 1 = nI f0 := by rw [F1.1 100 (by omega), zI1, if_pos rfl, updE, if_neg (by omega)]; exact p3
    have a2 : s1.1 100 2 = nI (u - 1) := by rw [F1.1 100 (by omega), zI1, if_pos rfl, updE, if_pos rfl]
    have E1 : ∀ b, ¬ (10 ≤ b ∧ b ≤ 14 ∨ b = 100) → s1.1 b = s.1 b := fun b hb => by rw [F1.1 b (by omega), zI1, if_neg (by omega)]
    have g1' : gS 10 s1 = gS (102 + 5 * ((f0 + (u - 1)) % 20)) s := by
      rw [g1]; exact gS_f (fun b hb hb2 => by rw [zI1, if_neg (by omega)])
    simp only [a2]
    refine rt_s ?_
    dsimp only
    have b5 : s1.1 216 27 = nI u := by rw [E1 216 (by omega)]; exact p5
    have e226 : s1.1 226 = s.1 226 := E1 226 (by omega)
    have e228 : s1.1 228 = s.1 228 := E1 228 (by omega)
    simp (disch := omega) only [zgi, zgl, zwi, zwf, zjn, zj0, zcl_s, zcv_s, zrd_n, zrl_n, zix_n, zwa_n, zwl_n, zI1, zI2, zL1, zL2, zR1, zR2, updE, updLE, zbl_0, zbl_1, nI_1, nI_add, nI_mulR, nI_leI, nI_ltI, nI_0le, nI_lt0, bvE, ↓reduceIte, Nat.reduceEqDiff, Nat.reduceLT, Nat.reduceAdd, Nat.reduceMul, reduceCtorEq, i10, i01, eq_self, or_true, true_or, false_or, or_false, not_true_eq_false, not_false_eq_true, if_true, if_false, b5, hn0, nI_sub1]
    generalize hs2 : zsI s1 216 27 (nI (u - 1)) = s2
    have c27 : s2.1 216 27 = nI (u - 1) := by rw [← hs2, zI1, if_pos rfl, updE, if_pos rfl]
    have cj : ∀ j, j ≠ 27 → s2.1 216 j = s1.1 216 j := fun j hj => by rw [← hs2, zI1, if_pos rfl, updE, if_neg hj]
    have E2 : ∀ b, b ≠ 216 → s2.1 b = s1.1 b := fun b hb => by rw [← hs2, zI1, if_neg hb]
    refine lp_rt 47 (fun i a s3 => a = nI i ∧ s3 = zsR s2 226 (fun k => if 10 ≤ k ∧ k < 10 + i then s2.1 228 (47 * (u - 1) + k - 10) else s2.1 226 k)) (by omega) ⟨rfl, ?_⟩ ?_ ?_
    · have : (fun k => if 10 ≤ k ∧ k < 10 + 0 then s2.1 228 (47 * (u - 1) + k - 10) else s2.1 226 k) = s2.1 226 := by
        funext k; rw [if_neg (by omega)]
      rw [this, zsR_id]
    · rintro i c s3 g hi ⟨rfl, rfl⟩
      left
      have hn : ¬ 47 ≤ i := by omega
      unfold f_Model_undo_B21
      have r1 : ∀ r, (zsR s2 226 r).1 216 = s2.1 216 := fun r => rfl
      have r2 : ∀ r, (zsR s2 226 r).1 228 = s2.1 228 := fun r => rfl
      simp (disch := omega) only [zgi, r1, r2, c27, l47, l10, nI_leI, hn, ↓reduceIte, nI_mulR, nI_add, zrd_n, zwa_n, nI_1, zsR_I]
      refine ⟨_, _, rfl, rfl, ?_⟩
      congr 1
      funext k
      rw [updE]
      by_cases hk : k = 10 + i
      · rw [if_pos hk, if_pos (by omega)]; exact congrArg (s2.1 228) (by omega)
      · rw [if_neg hk]
        by_cases hk2 : 10 ≤ k ∧ k < 10 + i
        · rw [if_pos hk2, if_pos (by omega)]
        · rw [if_neg hk2, if_neg (by omega)]
    · rintro c s3 g ⟨rfl, rfl⟩
      unfold f_Model_undo_B21
      have r1 : ∀ r, (zsR s2 226 r).1 216 = s2.1 216 := fun r => rfl
      simp (disch := omega) only [zgi, r1, c27, l47, nI_leI, Nat.le_refl, ↓reduceIte]
      generalize hs3 : zsR s2 226 _ = s3
      have m226 : s3.1 226 = (fun k => if 10 ≤ k ∧ k < 10 + 47 then s2.1 228 (47 * (u - 1) + k - 10) else s2.1 226 k) := by rw [← hs3]; rfl
      have E3 : ∀ b, b ≠ 226 → s3.1 b = s2.1 b := fun b hb => by rw [← hs3, zR1, if_neg hb]
      have h228 : s3.1 228 = s.1 228 := by rw [E3 228 (by omega), E2 228 (by omega), e228]
      have gm : gM (s3.1 226) = gM (fun k => s.1 228 (47 * (u - 1) + k - 10)) := by
        refine gM_ext (fun k hk hk2 => ?_)
        rw [m226]; dsimp only
        rw [if_pos (by omega), E2 228 (by omega), e228]
      have EA : ∀ b, ¬ (10 ≤ b ∧ b ≤ 14 ∨ b = 100 ∨ b = 216 ∨ b = 226) → s3.1 b = s.1 b := fun b hb => by rw [E3 b (by omega), E2 b (by omega), E1 b (by omega)]
      have kk : ∀ k, k < 10 ∨ 57 ≤ k → s3.1 226 k = s.1 226 k := fun k hk => by rw [m226]; dsimp only; rw [if_neg (by omega), E2 226 (by omega), e226]
      refine rt_s ⟨rfl, Rel.act h1 h2 h3 h4 h6 h7 (fun b hb => EA b (by omega)) (fun j hj => ?_) kk ?_ ?_ ?_⟩
      · dsimp only; rw [E3 216 (by omega), cj j (by omega), E1 216 (by omega)]
      · dsimp only; rw [gS_f (s := s1) (fun b _ _ => by rw [E3 b (by omega), E2 b (by omega)]), g1', gm]; exact (p6 (u - 1) (by omega)).1
      · rw [sOK_z]; dsimp only; rw [gm]; exact (p6 (u - 1) (by omega)).2
      · refine ⟨u - 1, f0, by omega, p2, ?_, ?_, ?_, fun i hi => ?_⟩
        · dsimp only; rw [E3 100 (by omega), E2 100 (by omega)]; exact a1
        · dsimp only; rw [E3 100 (by omega), E2 100 (by omega)]; exact a2
        · dsimp only; rw [E3 216 (by omega)]; exact c27
        · have hm2 := Nat.mod_lt (f0 + i) (show 0 < 20 by omega)
          dsimp only
          rw [h228, gS_f (s := s) (fun b _ _ => EA b (by omega))]
          exact p6 i (by omega)
theorem st_note (n p w : Int32) : stp (f_Ring_note n p w) (f_Model_note n p w) := by
  intro s hR
  obtain ⟨R, P, Q, h1, h2, h3, h4, h5, h6, h7⟩ := id hR
  have hP := h3.1.1
  have e3 : s.1 4 3 = nI P := h3.cC.2.2.1
  have m3 : s.1 226 3 = nI P := h3.cM.2.2.1
  have hin1 : ∀ s' : ZS, f_Model_in n.toInt64 0 60 s' = some (if (0 : Int32) ≤ n ∧ n ≤ 60 then 1 else 0, s') := fun s' => mIn (by decide) (by decide)
  have hin2 : ∀ s' : ZS, f_Model_in w.toInt64 0 99 s' = some (if (0 : Int32) ≤ w ∧ w ≤ 99 then 1 else 0, s') := fun s' => mIn (by decide) (by decide)
  obtain ⟨g1, g2, g3, g4, ⟨m, o1, o2, o3, o4⟩, g6, g7, g8, g9⟩ := id h3
  unfold f_Ring_note f_Model_note f_World_addNote
  by_cases hm1 : n = -1
  · subst hm1
    simp only [zgi, zgl, zwi, zwf, zjn, zj0, zcl_s, zcv_s, zrd_n, zrl_n, zix_n, zwa_n, zwl_n, zI1, zI2, zL1, zL2, zR1, zR2, updE, updLE, zbl_0, zbl_1, nI_1, nI_add, nI_mulR, nI_leI, nI_ltI, nI_0le, nI_lt0, bvE, ↓reduceIte, Nat.reduceEqDiff, Nat.reduceLT, Nat.reduceAdd, Nat.reduceMul, reduceCtorEq, i10, i01, eq_self, or_true, true_or, false_or, or_false, not_true_eq_false, not_false_eq_true, if_true, if_false]
    refine rt_s ?_
    dsimp only
    refine rt_s ⟨rfl, Rel.w (Q := Q) h1 h2 h4 h5 (fun b hb => ?_) (fun j hj => rfl) h6 h7 ?_⟩
    · dsimp only; rw [zI1, if_neg (by omega), zI1, if_neg (by omega)]
    · have k : ∀ k, k ≠ 138 → (zsI (zsI s 3 5 0) 226 138 0).1 226 k = s.1 226 k := fun k hk => by rw [zI1, if_pos rfl, updE, if_neg hk]; rfl
      have kb : ∀ b, b ≠ 3 → b ≠ 226 → (zsI (zsI s 3 5 0) 226 138 0).1 b = s.1 b := fun b h1 h2 => by rw [zI1, if_neg h2, zI1, if_neg h1]
      refine ⟨g1.f (fun q hq => k q (by omega)), (g2.f (fun b _ _ => kb b (by omega) (by omega))).m hP g1.2.1 (fun q hq => k q (by omega)), ?_, ?_, ?_, g6, g7, g8, g9⟩
      · rw [gS_f (s := s) (fun b _ _ => kb b (by omega) (by omega)), g3]
        exact gM_ext (fun q hq hq2 => (k q (by omega)).symm)
      · rw [sOK_z, gM_ext (M' := s.1 226) (fun q hq hq2 => k q (by omega))]; exact g4
      · exact ⟨0, by omega, rfl, rfl, fun i hi => absurd hi (by omega)⟩
  · by_cases a1 : n < 0
    · have a1' : ¬ (0 ≤ n ∧ n ≤ 60) := fun e => Int32.not_le.mpr a1 e.1
      simp only [zgi, zgl, zwi, zwf, zjn, zj0, zcl_s, zcv_s, zrd_n, zrl_n, zix_n, zwa_n, zwl_n, zI1, zI2, zL1, zL2, zR1, zR2, updE, updLE, zbl_0, zbl_1, nI_1, nI_add, nI_mulR, nI_leI, nI_ltI, nI_0le, nI_lt0, bvE, ↓reduceIte, Nat.reduceEqDiff, Nat.reduceLT, Nat.reduceAdd, Nat.reduceMul, reduceCtorEq, i10, i01, eq_self, or_true, true_or, false_or, or_false, not_true_eq_false, not_false_eq_true, if_true, if_false, hm1, a1]
      refine rt_s ?_
      simp only [zgi, zgl, zwi, zwf, zjn, zj0, zcl_s, zcv_s, zrd_n, zrl_n, zix_n, zwa_n, zwl_n, zI1, zI2, zL1, zL2, zR1, zR2, updE, updLE, zbl_0, zbl_1, nI_1, nI_add, nI_mulR, nI_leI, nI_ltI, nI_0le, nI_lt0, bvE, ↓reduceIte, Nat.reduceEqDiff, Nat.reduceLT, Nat.reduceAdd, Nat.reduceMul, reduceCtorEq, i10, i01, eq_self, or_true, true_or, false_or, or_false, not_true_eq_false, not_false_eq_true, if_true, if_false, hm1, hin1, a1']
      exact rt_s ⟨rfl, hR⟩
    · by_cases a2 : (60 : Int32) < n
      · have a2' : ¬ (0 ≤ n ∧ n ≤ 60) := fun e => Int32.not_le.mpr a2 e.2
        simp only [zgi, zgl, zwi, zwf, zjn, zj0, zcl_s, zcv_s, zrd_n, zrl_n, zix_n, zwa_n, zwl_n, zI1, zI2, zL1, zL2, zR1, zR2, updE, updLE, zbl_0, zbl_1, nI_1, nI_add, nI_mulR, nI_leI, nI_ltI, nI_0le, nI_lt0, bvE, ↓reduceIte, Nat.reduceEqDiff, Nat.reduceLT, Nat.reduceAdd, Nat.reduceMul, reduceCtorEq, i10, i01, eq_self, or_true, true_or, false_or, or_false, not_true_eq_false, not_false_eq_true, if_true, if_false, hm1, a1, a2]
        refine rt_s ?_
        simp only [zgi, zgl, zwi, zwf, zjn, zj0, zcl_s, zcv_s, zrd_n, zrl_n, zix_n, zwa_n, zwl_n, zI1, zI2, zL1, zL2, zR1, zR2, updE, updLE, zbl_0, zbl_1, nI_1, nI_add, nI_mulR, nI_leI, nI_ltI, nI_0le, nI_lt0, bvE, ↓reduceIte, Nat.reduceEqDiff, Nat.reduceLT, Nat.reduceAdd, Nat.reduceMul, reduceCtorEq, i10, i01, eq_self, or_true, true_or, false_or, or_false, not_true_eq_false, not_false_eq_true, if_true, if_false, hm1, hin1, a2']
        exact rt_s ⟨rfl, hR⟩
      · have a12 : 0 ≤ n ∧ n ≤ 60 := ⟨Int32.not_lt.mp a1, Int32.not_lt.mp a2⟩
        rcases pN p P (by omega) with ⟨k, hk, rfl⟩ | hn
        · by_cases b1 : w < 0
          · have b1' : ¬ (0 ≤ w ∧ w ≤ 99) := fun e => Int32.not_le.mpr b1 e.1
            simp only [zgi, zgl, zwi, zwf, zjn, zj0, zcl_s, zcv_s, zrd_n, zrl_n, zix_n, zwa_n, zwl_n, zI1, zI2, zL1, zL2, zR1, zR2, updE, updLE, zbl_0, zbl_1, nI_1, nI_add, nI_mulR, nI_leI, nI_ltI, nI_0le, nI_lt0, bvE, ↓reduceIte, Nat.reduceEqDiff, Nat.reduceLT, Nat.reduceAdd, Nat.reduceMul, reduceCtorEq, i10, i01, eq_self, or_true, true_or, false_or, or_false, not_true_eq_false, not_false_eq_true, if_true, if_false, hm1, a1, a2, cHas e3 hP hk, b1]
            refine rt_s ?_
            simp only [zgi, zgl, zwi, zwf, zjn, zj0, zcl_s, zcv_s, zrd_n, zrl_n, zix_n, zwa_n, zwl_n, zI1, zI2, zL1, zL2, zR1, zR2, updE, updLE, zbl_0, zbl_1, nI_1, nI_add, nI_mulR, nI_leI, nI_ltI, nI_0le, nI_lt0, bvE, ↓reduceIte, Nat.reduceEqDiff, Nat.reduceLT, Nat.reduceAdd, Nat.reduceMul, reduceCtorEq, i10, i01, eq_self, or_true, true_or, false_or, or_false, not_true_eq_false, not_false_eq_true, if_true, if_false, hm1, hin1, a12, and_self, mPair m3 hP hk, hin2, b1']
            exact rt_s ⟨rfl, hR⟩
          · by_cases b2 : w ≤ (99 : Int32)
            · have b12 : 0 ≤ w ∧ w ≤ 99 := ⟨Int32.not_lt.mp b1, b2⟩
              have o2' : s.1 3 5 = nI m := o2
              by_cases c10 : m < 10
              · have c10' : (nI m = nI 10) = False := eq_false (fun e => by rw [nI_eq (by omega) (by omega)] at e; omega)
                have nc : ¬ 10 ≤ m := by omega
                simp (disch := omega) only [zgi, zgl, zwi, zwf, zjn, zj0, zcl_s, zcv_s, zrd_n, zrl_n, zix_n, zwa_n, zwl_n, zI1, zI2, zL1, zL2, zR1, zR2, updE, updLE, zbl_0, zbl_1, nI_1, nI_add, nI_mulR, nI_leI, nI_ltI, nI_0le, nI_lt0, bvE, ↓reduceIte, Nat.reduceEqDiff, Nat.reduceLT, Nat.reduceAdd, Nat.reduceMul, reduceCtorEq, i10, i01, eq_self, or_true, true_or, false_or, or_false, not_true_eq_false, not_false_eq_true, if_true, if_false, hm1, a1, a2, cHas e3 hP hk, b1, b2, o2', l10, c10, nc]
                refine rt_s ?_
                dsimp only
                generalize hs1 : zsI _ 3 5 (nI (m + 1)) = s1
                have E1 : ∀ b, ¬ (b = 3 ∨ 15 ≤ b ∧ b ≤ 17) → s1.1 b = s.1 b := fun b hb => by rw [← hs1, zI1, if_neg (by omega), zI1, if_neg (by omega), zI1, if_neg (by omega), zI1, if_neg (by omega)]
                have n15 : s1.1 15 = upd (s.1 15) m n := by rw [← hs1]; rfl
                have n16 : s1.1 16 = upd (s.1 16) m (nI k) := by rw [← hs1]; rfl
                have n17 : s1.1 17 = upd (s.1 17) m w := by rw [← hs1]; rfl
                have n35 : s1.1 3 5 = nI (m + 1) := by rw [← hs1, zI1, if_pos rfl, updE, if_pos rfl]
                have n3j : ∀ j, j ≠ 5 → s1.1 3 j = s.1 3 j := fun j hj => by rw [← hs1, zI1, if_pos rfl, updE, if_neg hj]; rfl
                have e226 : s1.1 226 = s.1 226 := E1 226 (by omega)
                have m3' : s1.1 226 3 = nI P := by rw [e226]; exact m3
                have u1 : ¬ 138 = 108 + 3 * m := by omega
                have u2 : ¬ 138 = 108 + 3 * m + 1 := by omega
                have u3 : ¬ 138 = 108 + 3 * m + 2 := by omega
                simp (disch := omega) only [zgi, zgl, zwi, zwf, zjn, zj0, zcl_s, zcv_s, zrd_n, zrl_n, zix_n, zwa_n, zwl_n, zI1, zI2, zL1, zL2, zR1, zR2, updE, updLE, zbl_0, zbl_1, nI_1, nI_add, nI_mulR, nI_leI, nI_ltI, nI_0le, nI_lt0, bvE, ↓reduceIte, Nat.reduceEqDiff, Nat.reduceLT, Nat.reduceAdd, Nat.reduceMul, reduceCtorEq, i10, i01, eq_self, or_true, true_or, false_or, or_false, not_true_eq_false, not_false_eq_true, if_true, if_false, hm1, hin1, a12, and_self, mPair m3' hP hk, hin2, b12, e226, o3, l10, c10', l108, l3, l2, u1, u2, u3]
                generalize hs2 : zsI _ 226 138 (nI (m + 1)) = s2
                have E2 : ∀ b, b ≠ 226 → s2.1 b = s1.1 b := fun b hb => by rw [← hs2, zI1, if_neg hb, zI1, if_neg hb, zI1, if_neg hb, zI1, if_neg hb]
                have M2 : s2.1 226 = upd (upd (upd (upd (s.1 226) (108 + 3 * m) n) (108 + 3 * m + 1) (nI k)) (108 + 3 * m + 2) w) 138 (nI (m + 1)) := by
                  rw [← hs2]; simp only [zI1, ↓reduceIte, e226]
                have K2 : ∀ q, q < 108 → s2.1 226 q = s.1 226 q := fun q hq => by rw [M2, updE, if_neg (by omega), updE, if_neg (by omega), updE, if_neg (by omega), updE, if_neg (by omega)]
                have EA : ∀ b, ¬ (b = 3 ∨ 15 ≤ b ∧ b ≤ 17 ∨ b = 226) → s2.1 b = s.1 b := fun b hb => by rw [E2 b (by omega), E1 b (by omega)]
                refine rt_s ⟨rfl, Rel.w (Q := Q) h1 h2 h4 h5 (fun b hb => EA b (by omega)) (fun j hj => by dsimp only; rw [EA 216 (by omega)]) (by dsimp only; rw [EA 216 (by omega)]; exact h6) (by dsimp only; rw [EA 216 (by omega)]; exact h7) ?_⟩
                dsimp only
                rw [EA 216 (by omega)]
                refine ⟨g1.f (fun q hq => K2 q (by omega)), (g2.f (fun b _ _ => EA b (by omega))).m hP g1.2.1 (fun q hq => K2 q (by omega)), ?_, ?_, ?_, ?_, g7, ?_, g9⟩
                · rw [gS_f (s := s) (fun b _ _ => EA b (by omega)), g3]
                  exact gM_ext (fun q hq hq2 => (K2 q (by omega)).symm)
                · rw [sOK_z, gM_ext (M' := s.1 226) (fun q hq hq2 => K2 q (by omega))]; exact g4
                · refine ⟨m + 1, by omega, ?_, ?_, fun i hi => ?_⟩
                  · rw [E2 3 (by omega)]; exact n35
                  · rw [M2, updE, if_pos rfl]
                  · show s2.1 15 i = _ ∧ s2.1 16 i = _ ∧ s2.1 17 i = _ ∧ _
                    rw [E2 15 (by omega), E2 16 (by omega), E2 17 (by omega), n15, n16, n17]
                    by_cases hi2 : i = m
                    · subst hi2
                      have r0 : s2.1 226 (108 + 3 * i) = n := by rw [M2, updE, if_neg (by omega), updE, if_neg (by omega), updE, if_neg (by omega), updE, if_pos rfl]
                      have r1 : s2.1 226 (108 + 3 * i + 1) = nI k := by rw [M2, updE, if_neg (by omega), updE, if_neg (by omega), updE, if_pos rfl]
                      have r2 : s2.1 226 (108 + 3 * i + 2) = w := by rw [M2, updE, if_neg (by omega), updE, if_pos rfl]
                      rw [r0, r1, r2, updE, if_pos rfl, updE, if_pos rfl, updE, if_pos rfl]
                      refine ⟨rfl, rfl, rfl, ?_, ⟨k, hk, rfl⟩, ?_⟩
                      · obtain ⟨nn, hnn, rfl⟩ := nI_of a1
                        have := a12.2
                        rw [show (60 : Int32) = nI 60 from rfl, nI_leI (by omega) (by omega)] at this
                        exact ⟨nn, by omega, this, rfl⟩
                      · obtain ⟨nn, hnn, rfl⟩ := nI_of b1
                        have := b12.2
                        rw [show (99 : Int32) = nI 99 from rfl, nI_leI (by omega) (by omega)] at this
                        exact ⟨nn, by omega, this, rfl⟩
                    · have rr : ∀ q, q < 108 + 3 * m → s2.1 226 q = s.1 226 q := fun q hq => by rw [M2, updE, if_neg (by omega), updE, if_neg (by omega), updE, if_neg (by omega), updE, if_neg (by omega)]
                      rw [rr _ (by omega), rr _ (by omega), rr _ (by omega), updE, if_neg hi2, updE, if_neg hi2, updE, if_neg hi2]
                      exact o4 i (by omega)
                · rw [E2 3 (by omega), n3j 6 (by omega)]; exact g6
                · rw [E2 3 (by omega), n3j 7 (by omega)]; exact g8
              · have hm10 : m = 10 := by omega
                subst hm10
                simp (disch := omega) only [zgi, zgl, zwi, zwf, zjn, zj0, zcl_s, zcv_s, zrd_n, zrl_n, zix_n, zwa_n, zwl_n, zI1, zI2, zL1, zL2, zR1, zR2, updE, updLE, zbl_0, zbl_1, nI_1, nI_add, nI_mulR, nI_leI, nI_ltI, nI_0le, nI_lt0, bvE, ↓reduceIte, Nat.reduceEqDiff, Nat.reduceLT, Nat.reduceAdd, Nat.reduceMul, reduceCtorEq, i10, i01, eq_self, or_true, true_or, false_or, or_false, not_true_eq_false, not_false_eq_true, if_true, if_false, hm1, a1, a2, cHas e3 hP hk, b1, b2, o2', l10, Nat.lt_irrefl]
                refine rt_s ?_
                simp only [zgi, zgl, zwi, zwf, zjn, zj0, zcl_s, zcv_s, zrd_n, zrl_n, zix_n, zwa_n, zwl_n, zI1, zI2, zL1, zL2, zR1, zR2, updE, updLE, zbl_0, zbl_1, nI_1, nI_add, nI_mulR, nI_leI, nI_ltI, nI_0le, nI_lt0, bvE, ↓reduceIte, Nat.reduceEqDiff, Nat.reduceLT, Nat.reduceAdd, Nat.reduceMul, reduceCtorEq, i10, i01, eq_self, or_true, true_or, false_or, or_false, not_true_eq_false, not_false_eq_true, if_true, if_false, hm1, hin1, a12, and_self, mPair m3 hP hk, hin2, b12, o3, l10]
                exact rt_s ⟨rfl, hR⟩
            · have b2' : ¬ (0 ≤ w ∧ w ≤ 99) := fun e => b2 e.2
              simp only [zgi, zgl, zwi, zwf, zjn, zj0, zcl_s, zcv_s, zrd_n, zrl_n, zix_n, zwa_n, zwl_n, zI1, zI2, zL1, zL2, zR1, zR2, updE, updLE, zbl_0, zbl_1, nI_1, nI_add, nI_mulR, nI_leI, nI_ltI, nI_0le, nI_lt0, bvE, ↓reduceIte, Nat.reduceEqDiff, Nat.reduceLT, Nat.reduceAdd, Nat.reduceMul, reduceCtorEq, i10, i01, eq_self, or_true, true_or, false_or, or_false, not_true_eq_false, not_false_eq_true, if_true, if_false, hm1, a1, a2, cHas e3 hP hk, b1, b2]
              refine rt_s ?_
              simp only [zgi, zgl, zwi, zwf, zjn, zj0, zcl_s, zcv_s, zrd_n, zrl_n, zix_n, zwa_n, zwl_n, zI1, zI2, zL1, zL2, zR1, zR2, updE, updLE, zbl_0, zbl_1, nI_1, nI_add, nI_mulR, nI_leI, nI_ltI, nI_0le, nI_lt0, bvE, ↓reduceIte, Nat.reduceEqDiff, Nat.reduceLT, Nat.reduceAdd, Nat.reduceMul, reduceCtorEq, i10, i01, eq_self, or_true, true_or, false_or, or_false, not_true_eq_false, not_false_eq_true, if_true, if_false, hm1, hin1, a12, and_self, mPair m3 hP hk, hin2, b2']
              exact rt_s ⟨rfl, hR⟩
        · simp only [zgi, zgl, zwi, zwf, zjn, zj0, zcl_s, zcv_s, zrd_n, zrl_n, zix_n, zwa_n, zwl_n, zI1, zI2, zL1, zL2, zR1, zR2, updE, updLE, zbl_0, zbl_1, nI_1, nI_add, nI_mulR, nI_leI, nI_ltI, nI_0le, nI_lt0, bvE, ↓reduceIte, Nat.reduceEqDiff, Nat.reduceLT, Nat.reduceAdd, Nat.reduceMul, reduceCtorEq, i10, i01, eq_self, or_true, true_or, false_or, or_false, not_true_eq_false, not_false_eq_true, if_true, if_false, hm1, a1, a2, cHasN e3 hn]
          refine rt_s ?_
          simp only [zgi, zgl, zwi, zwf, zjn, zj0, zcl_s, zcv_s, zrd_n, zrl_n, zix_n, zwa_n, zwl_n, zI1, zI2, zL1, zL2, zR1, zR2, updE, updLE, zbl_0, zbl_1, nI_1, nI_add, nI_mulR, nI_leI, nI_ltI, nI_0le, nI_lt0, bvE, ↓reduceIte, Nat.reduceEqDiff, Nat.reduceLT, Nat.reduceAdd, Nat.reduceMul, reduceCtorEq, i10, i01, eq_self, or_true, true_or, false_or, or_false, not_true_eq_false, not_false_eq_true, if_true, if_false, hm1, hin1, a12, and_self, mPairN m3 hn]
          exact rt_s ⟨rfl, hR⟩
