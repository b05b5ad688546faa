/-! image, back. -/
theorem rWd.m {a : Nat} {s : ZS} {M M' : Nat → Int32} {f x : Int32} {R P Q : Nat} (h : rWd a s M f x R P Q) (hf : ∀ k, k < 139 → M' k = M k) : rWd a s M' f x R P Q := by
  obtain ⟨g1, g2, g3, g4, ⟨m, o1, o2, o3, o4⟩, g6⟩ := h
  have e : gM M' = gM M := gM_ext (fun k h1 h2 => hf k (by omega))
  refine ⟨g1.f (fun k hk => hf k (by omega)), g2.m g1.1 g1.2.1 (fun k hk => hf k (by omega)), g3.trans e.symm, ?_, ⟨m, o1, o2, (hf 138 (by omega)).trans o3, fun i hi => ?_⟩, g6⟩
  · rw [sOK_z, e]; exact g4
  · rw [hf (108 + 3 * i) (by omega), hf (108 + 3 * i + 1) (by omega), hf (108 + 3 * i + 2) (by omega)]; exact o4 i hi
theorem cB01 {P Q : Nat} {M : Nat → Int32} (h : cB P Q M) : M 0 = 0 ∨ M 0 = 1 := by
  rcases h.2.2.2.2.1 with ⟨h0, _⟩ | ⟨h0, _⟩
  · exact Or.inl h0
  · exact Or.inr h0
theorem narZ1 : vp_nar .boolean 1 = 1 := by decide
theorem st_image (p : Int32) : stp (f_Ring_image p) (f_Model_image p) := by
  intro s hR
  obtain ⟨R, P, Q, h1, h2, h3, h4, h5, h6, h7⟩ := id hR
  have hin : ∀ s' : ZS, f_Model_in p.toInt64 0 3 s' = some (if (0 : Int32) ≤ p ∧ p ≤ 3 then 1 else 0, s') := fun s' => mIn (by decide) (by decide)
  unfold f_Ring_image f_Model_image
  rcases pN p 4 (by omega) with ⟨k, hk, rfl⟩ | hn
  · have h03 : 0 ≤ nI k ∧ nI k ≤ 3 := ⟨nI_pos' (by omega), by rw [l3, nI_leI (by omega) (by omega)]; omega⟩
    simp (disch := omega) only [zgi, zgl, zwi, zwf, zjn, zj0, zcl_s, zcv_s, zrd_n, zrl_n, zix_n, zwa_n, zwl_n, zI1, zI2, zL1, zL2, zR1, zR2, updE, updLE, zbl_0, zbl_1, nI_1, nI_add, nI_mulR, nI_leI, nI_ltI, nI_0le, nI_lt0, bvE, ↓reduceIte, Nat.reduceEqDiff, Nat.reduceLT, Nat.reduceAdd, Nat.reduceMul, reduceCtorEq, i10, i01, eq_self, or_true, true_or, false_or, or_false, not_true_eq_false, not_false_eq_true, if_true, if_false, l4, hk]
    have e0 : s.1 (3 + 1) 0 = 0 ∨ s.1 (3 + 1) 0 = 1 := by rw [h3.2.1.1]; exact cB01 h3.1
    refine rt_cv (c_copyW (a := 19 + 15 * k) (b := 3) (by omega) e0 h3) ?_
    rintro s1 ⟨w1, F1, e8⟩
    simp (disch := omega) only [zgi, zgl, zwi, zwf, zjn, zj0, zcl_s, zcv_s, zrd_n, zrl_n, zix_n, zwa_n, zwl_n, zI1, zI2, zL1, zL2, zR1, zR2, updE, updLE, zbl_0, zbl_1, nI_1, nI_add, nI_mulR, nI_leI, nI_ltI, nI_0le, nI_lt0, bvE, ↓reduceIte, Nat.reduceEqDiff, Nat.reduceLT, Nat.reduceAdd, Nat.reduceMul, reduceCtorEq, i10, i01, eq_self, or_true, true_or, false_or, or_false, not_true_eq_false, not_false_eq_true, if_true, if_false, zwb_1]
    refine rt_s ?_
    dsimp only
    have hne : ∀ b, b < 19 ∨ 78 < b → ¬ b = 19 + 15 * k := fun b hb => by omega
    have E1 : ∀ b, ¬ (19 + 15 * k ≤ b ∧ b ≤ 19 + 15 * k + 14) → (zsI s1 (19 + 15 * k) 8 1).1 b = s.1 b := fun b hb => by rw [zI1, if_neg (by omega), F1.1 b (by omega)]
    have W1 : rWd (19 + 15 * k) (zsI s1 (19 + 15 * k) 8 1) (s.1 226) (s.1 216 21) (s.1 216 22) R P Q := by
      obtain ⟨g1, g2, g3, g4, ⟨m, o1, o2, o3, o4⟩, g6, g7, g8, g9⟩ := w1
      have en : ∀ b, b ≠ 19 + 15 * k → (zsI s1 (19 + 15 * k) 8 1).1 b = s1.1 b := fun b hb => by rw [zI1, if_neg hb]
      have ea : ∀ j, j ≠ 8 → (zsI s1 (19 + 15 * k) 8 1).1 (19 + 15 * k) j = s1.1 (19 + 15 * k) j := fun j hj => by rw [zI1, if_pos rfl, updE, if_neg hj]
      refine ⟨g1, g2.f (fun b _ _ => en b (by omega)), ?_, g4, ⟨m, o1, (ea 5 (by omega)).trans o2, o3, fun i hi => ?_⟩, (ea 6 (by omega)).trans g6, g7, (ea 7 (by omega)).trans g8, g9⟩
      · rw [gS_f (s := s1) (fun b _ _ => en b (by omega))]; exact g3
      · rw [en (19 + 15 * k + 12) (by omega), en (19 + 15 * k + 13) (by omega), en (19 + 15 * k + 14) (by omega)]; exact o4 i hi
    have e8' : (zsI s1 (19 + 15 * k) 8 1).1 (19 + 15 * k) 8 = 1 := by rw [zI1, if_pos rfl, updE, if_pos rfl]
    have eD : (zsI s1 (19 + 15 * k) 8 1).1 10 0 = s.1 226 10 := by rw [E1 10 (by omega)]; exact congrArg (fun z : ZT => z.2.2.2.2.1) h3.g
    rw [← zI1 s1 (19 + 15 * k) 8 1 10] at *
    generalize zsI s1 (19 + 15 * k) 8 1 = s2 at *
    have q216 : s2.1 216 = s.1 216 := E1 216 (by omega)
    simp (disch := omega) only [zgi, zgl, zwi, zwf, zjn, zj0, zcl_s, zcv_s, zrd_n, zrl_n, zix_n, zwa_n, zwl_n, zI1, zI2, zL1, zL2, zR1, zR2, updE, updLE, zbl_0, zbl_1, nI_1, nI_add, nI_mulR, nI_leI, nI_ltI, nI_0le, nI_lt0, bvE, ↓reduceIte, Nat.reduceEqDiff, Nat.reduceLT, Nat.reduceAdd, Nat.reduceMul, reduceCtorEq, i10, i01, eq_self, or_true, true_or, false_or, or_false, not_true_eq_false, not_false_eq_true, if_true, if_false, hin, h03, and_self, narZ1]
    generalize hs3 : zsI (zsI (zsI s2 240 k 1) 238 k (s2.1 216 21)) 239 k (s2.1 216 22) = s3
    have E3 : ∀ b, ¬ (238 ≤ b ∧ b ≤ 240) → s3.1 b = s2.1 b := fun b hb => by rw [← hs3, zI1, if_neg (by omega), zI1, if_neg (by omega), zI1, if_neg (by omega)]
    have v240 : s3.1 240 = upd (s.1 240) k 1 := by rw [← hs3]; simp only [zI1, ↓reduceIte, Nat.reduceEqDiff]; rw [E1 240 (by omega)]
    have v238 : s3.1 238 = upd (s.1 238) k (s.1 216 21) := by rw [← hs3]; simp only [zI1, ↓reduceIte, Nat.reduceEqDiff]; rw [E1 238 (by omega), q216]
    have v239 : s3.1 239 = upd (s.1 239) k (s.1 216 22) := by rw [← hs3]; simp only [zI1, ↓reduceIte, Nat.reduceEqDiff]; rw [E1 239 (by omega), q216]
    have v226 : s3.1 226 = s.1 226 := by rw [E3 226 (by omega), E1 226 (by omega)]
    have v237 : s3.1 237 = s.1 237 := by rw [E3 237 (by omega), E1 237 (by omega)]
    refine lp_rt 139 (fun i a s4 => a = nI i ∧ s4 = zsR s3 237 (fun q => if 139 * k ≤ q ∧ q < 139 * k + i then s3.1 226 (q - 139 * k) else s3.1 237 q)) (by omega) ⟨rfl, ?_⟩ ?_ ?_
    · have : (fun q => if 139 * k ≤ q ∧ q < 139 * k + 0 then s3.1 226 (q - 139 * k) else s3.1 237 q) = s3.1 237 := by
        funext q; rw [if_neg (by omega)]
      rw [this, zsR_id]
    · rintro i c s4 g hi ⟨rfl, rfl⟩
      left
      have hn : ¬ 139 ≤ i := by omega
      unfold f_Model_image_B43
      have r1 : ∀ r, (zsR s3 237 r).1 226 = s3.1 226 := fun r => rfl
      simp (disch := omega) only [r1, l139, nI_leI, hn, ↓reduceIte, nI_mulR, nI_add, zrd_n, zwa_n, nI_1, zsR_I]
      refine ⟨_, _, rfl, rfl, ?_⟩
      congr 1
      funext q
      rw [updE]
      by_cases hq : q = 139 * k + i
      · rw [if_pos hq, if_pos (by omega)]; exact congrArg (s3.1 226) (by omega)
      · rw [if_neg hq]
        by_cases hq2 : 139 * k ≤ q ∧ q < 139 * k + i
        · rw [if_pos hq2, if_pos (by omega)]
        · rw [if_neg hq2, if_neg (by omega)]
    · rintro c s4 g ⟨rfl, rfl⟩
      unfold f_Model_image_B43
      simp (disch := omega) only [zgi, l139, nI_leI, Nat.le_refl, ↓reduceIte]
      generalize hs4 : zsR s3 237 _ = s4
      have m237 : s4.1 237 = (fun q => if 139 * k ≤ q ∧ q < 139 * k + 139 then s3.1 226 (q - 139 * k) else s3.1 237 q) := by rw [← hs4]; rfl
      have E4 : ∀ b, b ≠ 237 → s4.1 b = s3.1 b := fun b hb => by rw [← hs4, zR1, if_neg hb]
      have EA : ∀ b, ¬ (19 + 15 * k ≤ b ∧ b ≤ 19 + 15 * k + 14 ∨ 237 ≤ b ∧ b ≤ 240) → s4.1 b = s.1 b := fun b hb => by rw [E4 b (by omega), E3 b (by omega), E1 b (by omega)]
      refine rt_s ⟨?_, R, P, Q, h1.f (by dsimp only; rw [EA 1 (by omega)]) (by dsimp only; rw [EA 216 (by omega)]) (EA 2 (by omega)) (EA 217 (by omega)), h2.f (by dsimp only; rw [EA 0 (by omega)]) (by dsimp only; rw [EA 216 (by omega)]) (fun b _ _ => EA b (by omega)) (fun b _ => EA b (by omega)), ?_, ?_, h5.f (fun b _ _ => EA b (by omega)) (by dsimp only; rw [EA 216 (by omega)]) (EA 228 (by omega)), ?_, ?_⟩
      · dsimp only; rw [eD, E4 226 (by omega), v226]
      · dsimp only; rw [EA 226 (by omega), EA 216 (by omega)]; exact h3.f (fun b _ _ => EA b (by omega))
      · intro j hj
        dsimp only
        by_cases ej : j = k
        · subst ej
          rw [E4 (19 + 15 * j) (by omega), E3 (19 + 15 * j) (by omega), e8', E4 240 (by omega), v240, updE, if_pos rfl, E4 238 (by omega), v238, updE, if_pos rfl, E4 239 (by omega), v239, updE, if_pos rfl]
          refine ⟨rfl, Or.inr ⟨rfl, P, Q, ?_⟩⟩
          refine (W1.f (s' := s4) (fun b _ _ => by rw [E4 b (by omega), E3 b (by omega)])).m (fun i hi => ?_)
          rw [m237]; dsimp only
          rw [if_pos (by omega), v226]; exact congrArg (s.1 226) (by omega)
        · obtain ⟨a1, a2⟩ := h4 j hj
          rw [EA (19 + 15 * j) (by omega), E4 240 (by omega), v240, updE, if_neg ej, E4 238 (by omega), v238, updE, if_neg ej, E4 239 (by omega), v239, updE, if_neg ej]
          refine ⟨a1, ?_⟩
          rcases a2 with a2 | ⟨a2, P', Q', a3⟩
          · exact Or.inl a2
          · refine Or.inr ⟨a2, P', Q', (a3.f (fun b _ _ => EA b (by omega))).m (fun i hi => ?_)⟩
            rw [m237]; dsimp only
            rw [if_neg (by omega), v237]
      · dsimp only; rw [EA 216 (by omega)]; exact h6
      · dsimp only; rw [EA 216 (by omega)]; exact h7
  · have hno : ¬ (0 ≤ p ∧ p ≤ 3) := by
      intro e
      rcases hn with h | h
      · exact Int32.not_le.mpr h e.1
      · exact absurd (Int32.le_trans h e.2) (by decide)
    by_cases a : p < 0
    · simp only [zgi, zgl, zwi, zwf, zjn, zj0, zcl_s, zcv_s, zrd_n, zrl_n, zix_n, zwa_n, zwl_n, zI1, zI2, zL1, zL2, zR1, zR2, updE, updLE, zbl_0, zbl_1, nI_1, nI_add, nI_mulR, nI_leI, nI_ltI, nI_0le, nI_lt0, bvE, ↓reduceIte, Nat.reduceEqDiff, Nat.reduceLT, Nat.reduceAdd, Nat.reduceMul, reduceCtorEq, i10, i01, eq_self, or_true, true_or, false_or, or_false, not_true_eq_false, not_false_eq_true, if_true, if_false, a]
      refine rt_s ?_
      simp only [zgi, zgl, zwi, zwf, zjn, zj0, zcl_s, zcv_s, zrd_n, zrl_n, zix_n, zwa_n, zwl_n, zI1, zI2, zL1, zL2, zR1, zR2, updE, updLE, zbl_0, zbl_1, nI_1, nI_add, nI_mulR, nI_leI, nI_ltI, nI_0le, nI_lt0, bvE, ↓reduceIte, Nat.reduceEqDiff, Nat.reduceLT, Nat.reduceAdd, Nat.reduceMul, reduceCtorEq, i10, i01, eq_self, or_true, true_or, false_or, or_false, not_true_eq_false, not_false_eq_true, if_true, if_false, hin, hno]
      exact rt_s ⟨rfl, hR⟩
    · have b : ¬ p < nI 4 := Int32.not_lt.mpr (hn.resolve_left a)
      simp only [zgi, zgl, zwi, zwf, zjn, zj0, zcl_s, zcv_s, zrd_n, zrl_n, zix_n, zwa_n, zwl_n, zI1, zI2, zL1, zL2, zR1, zR2, updE, updLE, zbl_0, zbl_1, nI_1, nI_add, nI_mulR, nI_leI, nI_ltI, nI_0le, nI_lt0, bvE, ↓reduceIte, Nat.reduceEqDiff, Nat.reduceLT, Nat.reduceAdd, Nat.reduceMul, reduceCtorEq, i10, i01, eq_self, or_true, true_or, false_or, or_false, not_true_eq_false, not_false_eq_true, if_true, if_false, a, l4, b]
      refine rt_s ?_
      simp only [zgi, zgl, zwi, zwf, zjn, zj0, zcl_s, zcv_s, zrd_n, zrl_n, zix_n, zwa_n, zwl_n, zI1, zI2, zL1, zL2, zR1, zR2, updE, updLE, zbl_0, zbl_1, nI_1, nI_add, nI_mulR, nI_leI, nI_ltI, nI_0le, nI_lt0, bvE, ↓reduceIte, Nat.reduceEqDiff, Nat.reduceLT, Nat.reduceAdd, Nat.reduceMul, reduceCtorEq, i10, i01, eq_self, or_true, true_or, false_or, or_false, not_true_eq_false, not_false_eq_true, if_true, if_false, hin, hno]
      exact rt_s ⟨rfl, hR⟩
theorem st_back (p : Int32) : stp (f_Ring_back p) (f_Model_back p) := by
  intro s hR
  obtain ⟨R, P, Q, h1, h2, h3, h4, h5, h6, h7⟩ := id hR
  have hin : ∀ s' : ZS, f_Model_in p.toInt64 0 3 s' = some (if (0 : Int32) ≤ p ∧ p ≤ 3 then 1 else 0, s') := fun s' => mIn (by decide) (by decide)
  unfold f_Ring_back f_Model_back f_Hist_forget
  rcases pN p 4 (by omega) with ⟨k, hk, rfl⟩ | hn
  · have h03 : 0 ≤ nI k ∧ nI k ≤ 3 := ⟨nI_pos' (by omega), by rw [l3, nI_leI (by omega) (by omega)]; omega⟩
    have hnk : ¬ 4 ≤ k := by omega
    obtain ⟨a1, a2⟩ := h4 k hk
    rcases a2 with a2 | ⟨a2, P', Q', a3⟩
    · simp (disch := omega) only [zgi, zgl, zwi, zwf, zjn, zj0, zcl_s, zcv_s, zrd_n, zrl_n, zix_n, zwa_n, zwl_n, zI1, zI2, zL1, zL2, zR1, zR2, updE, updLE, zbl_0, zbl_1, nI_1, nI_add, nI_mulR, nI_leI, nI_ltI, nI_0le, nI_lt0, bvE, ↓reduceIte, Nat.reduceEqDiff, Nat.reduceLT, Nat.reduceAdd, Nat.reduceMul, reduceCtorEq, i10, i01, eq_self, or_true, true_or, false_or, or_false, not_true_eq_false, not_false_eq_true, if_true, if_false, l4, hnk, a1, a2]
      refine rt_s ?_
      simp (disch := omega) only [zgi, zgl, zwi, zwf, zjn, zj0, zcl_s, zcv_s, zrd_n, zrl_n, zix_n, zwa_n, zwl_n, zI1, zI2, zL1, zL2, zR1, zR2, updE, updLE, zbl_0, zbl_1, nI_1, nI_add, nI_mulR, nI_leI, nI_ltI, nI_0le, nI_lt0, bvE, ↓reduceIte, Nat.reduceEqDiff, Nat.reduceLT, Nat.reduceAdd, Nat.reduceMul, reduceCtorEq, i10, i01, eq_self, or_true, true_or, false_or, or_false, not_true_eq_false, not_false_eq_true, if_true, if_false, hin, h03, and_self, a2]
      exact rt_s ⟨rfl, hR⟩
    · simp (disch := omega) only [zgi, zgl, zwi, zwf, zjn, zj0, zcl_s, zcv_s, zrd_n, zrl_n, zix_n, zwa_n, zwl_n, zI1, zI2, zL1, zL2, zR1, zR2, updE, updLE, zbl_0, zbl_1, nI_1, nI_add, nI_mulR, nI_leI, nI_ltI, nI_0le, nI_lt0, bvE, ↓reduceIte, Nat.reduceEqDiff, Nat.reduceLT, Nat.reduceAdd, Nat.reduceMul, reduceCtorEq, i10, i01, eq_self, or_true, true_or, false_or, or_false, not_true_eq_false, not_false_eq_true, if_true, if_false, l4, hnk, a1, a2]
      have e0 : s.1 (19 + 15 * k + 1) 0 = 0 ∨ s.1 (19 + 15 * k + 1) 0 = 1 := by rw [a3.2.1.1]; exact cB01 a3.1
      refine rt_cv (c_copyW (a := 3) (b := 19 + 15 * k) (by omega) e0 a3) ?_
      rintro s1 ⟨w1, F1, e8⟩
      refine rt_s ?_
      dsimp only
      generalize hs2 : zsI (zsI s1 100 1 0) 100 2 0 = s2
      have E2 : ∀ b, b ≠ 100 → s2.1 b = s1.1 b := fun b hb => by rw [← hs2, zI1, if_neg hb, zI1, if_neg hb]
      have u1 : s2.1 100 1 = 0 := by rw [← hs2]; rfl
      have u2 : s2.1 100 2 = 0 := by rw [← hs2]; rfl
      have W2 : rWd 3 s2 (fun i => s.1 237 (139 * k + i)) (s.1 238 k) (s.1 239 k) R P' Q' := w1.f (fun b _ _ => E2 b (by omega))
      have E12 : ∀ b, ¬ (3 ≤ b ∧ b ≤ 17 ∨ b = 100) → s2.1 b = s.1 b := fun b hb => by rw [E2 b (by omega), F1.1 b (by omega)]
      have q240 : s2.1 240 = s.1 240 := E12 240 (by omega)
      have q238 : s2.1 238 = s.1 238 := E12 238 (by omega)
      have q239 : s2.1 239 = s.1 239 := E12 239 (by omega)
      simp (disch := omega) only [zgi, zgl, zwi, zwf, zjn, zj0, zcl_s, zcv_s, zrd_n, zrl_n, zix_n, zwa_n, zwl_n, zI1, zI2, zL1, zL2, zR1, zR2, updE, updLE, zbl_0, zbl_1, nI_1, nI_add, nI_mulR, nI_leI, nI_ltI, nI_0le, nI_lt0, bvE, ↓reduceIte, Nat.reduceEqDiff, Nat.reduceLT, Nat.reduceAdd, Nat.reduceMul, reduceCtorEq, i10, i01, eq_self, or_true, true_or, false_or, or_false, not_true_eq_false, not_false_eq_true, if_true, if_false, hin, h03, and_self, q240, a2, q238, q239]
      generalize hs3 : zsI (zsI (zsI s2 216 21 (s.1 238 k)) 216 22 (s.1 239 k)) 216 27 0 = s3
      have E3 : ∀ b, b ≠ 216 → s3.1 b = s2.1 b := fun b hb => by rw [← hs3, zI1, if_neg hb, zI1, if_neg hb, zI1, if_neg hb]
      have t21 : s3.1 216 21 = s.1 238 k := by rw [← hs3]; simp only [zI1, updE, ↓reduceIte, Nat.reduceEqDiff]
      have t22 : s3.1 216 22 = s.1 239 k := by rw [← hs3]; simp only [zI1, updE, ↓reduceIte, Nat.reduceEqDiff]
      have t27 : s3.1 216 27 = 0 := by rw [← hs3]; simp only [zI1, updE, ↓reduceIte, Nat.reduceEqDiff]
      have tj : ∀ j, j ≠ 21 → j ≠ 22 → j ≠ 27 → s3.1 216 j = s.1 216 j := fun j x1 x2 x3 => by
        rw [← hs3]; simp only [zI1, updE, ↓reduceIte, x1, x2, x3]; rw [E12 216 (by omega)]
      refine lp_rt 139 (fun i a s4 => a = nI i ∧ s4 = zsR s3 226 (fun q => if q < i then s3.1 237 (139 * k + q) else s3.1 226 q)) (by omega) ⟨rfl, ?_⟩ ?_ ?_
      · have : (fun q => if q < 0 then s3.1 237 (139 * k + q) else s3.1 226 q) = s3.1 226 := by
          funext q; rw [if_neg (by omega)]
        rw [this, zsR_id]
      · rintro i c s4 g hi ⟨rfl, rfl⟩
        left
        have hn : ¬ 139 ≤ i := by omega
        unfold f_Model_back_B50
        have r1 : ∀ r, (zsR s3 226 r).1 237 = s3.1 237 := fun r => rfl
        simp (disch := omega) only [r1, l139, nI_leI, hn, ↓reduceIte, nI_mulR, nI_add, zrd_n, zwa_n, nI_1, zsR_I]
        refine ⟨_, _, rfl, rfl, ?_⟩
        congr 1
        funext q
        rw [updE]
        by_cases hq : q = i
        · rw [if_pos hq, if_pos (by omega)]; exact congrArg (s3.1 237) (by omega)
        · rw [if_neg hq]
          by_cases hq2 : q < i
          · rw [if_pos hq2, if_pos (by omega)]
          · rw [if_neg hq2, if_neg (by omega)]
      · rintro c s4 g ⟨rfl, rfl⟩
        unfold f_Model_back_B50
        simp (disch := omega) only [zgi, l139, nI_leI, Nat.le_refl, ↓reduceIte]
        generalize hs4 : zsR s3 226 _ = s4
        have m226 : s4.1 226 = (fun q => if q < 139 then s3.1 237 (139 * k + q) else s3.1 226 q) := by rw [← hs4]; rfl
        have E4 : ∀ b, b ≠ 226 → s4.1 b = s3.1 b := fun b hb => by rw [← hs4, zR1, if_neg hb]
        have EA : ∀ b, ¬ (3 ≤ b ∧ b ≤ 17 ∨ b = 100 ∨ b = 216 ∨ b = 226) → s4.1 b = s.1 b := fun b hb => by rw [E4 b (by omega), E3 b (by omega), E12 b (by omega)]
        have W4 : rWd 3 s4 (s4.1 226) (s4.1 216 21) (s4.1 216 22) R P' Q' := by
          rw [E4 216 (by omega), t21, t22]
          refine (W2.f (s' := s4) (fun b _ _ => by rw [E4 b (by omega), E3 b (by omega)])).m (fun i hi => ?_)
          rw [m226]; dsimp only
          rw [if_pos hi, E3 237 (by omega), E12 237 (by omega)]
        refine rt_s ⟨?_, Rel.ac2 h1 h2 h4 h6 h7 (fun b hb => EA b (by omega)) (fun j hj => ?_) W4 ?_⟩
        · dsimp only
          have e : gS 10 s4 = gM (s4.1 226) := W4.g
          have e2 : s4.1 10 0 = s4.1 226 10 := congrArg (fun z : ZT => z.2.2.2.2.1) e
          rw [← e2, E4 10 (by omega), E3 10 (by omega), E2 10 (by omega)]
        · dsimp only; rw [E4 216 (by omega), tj j (by omega) (by omega) (by omega)]
        · refine ⟨0, 0, by omega, by omega, ?_, ?_, ?_, fun i hi => absurd hi (by omega)⟩
          · dsimp only; rw [E4 100 (by omega), E3 100 (by omega)]; exact u1
          · dsimp only; rw [E4 100 (by omega), E3 100 (by omega)]; exact u2
          · dsimp only; rw [E4 216 (by omega)]; exact t27
  · have hno : ¬ (0 ≤ p ∧ p ≤ 3) := by
      intro e
      rcases hn with h | h
      · exact Int32.not_le.mpr h e.1
      · exact absurd (Int32.le_trans h e.2) (by decide)
    by_cases a : p < 0
    · simp only [zgi, zgl, zwi, zwf, zjn, zj0, zcl_s, zcv_s, zrd_n, zrl_n, zix_n, zwa_n, zwl_n, zI1, zI2, zL1, zL2, zR1, zR2, updE, updLE, zbl_0, zbl_1, nI_1, nI_add, nI_mulR, nI_leI, nI_ltI, nI_0le, nI_lt0, bvE, ↓reduceIte, Nat.reduceEqDiff, Nat.reduceLT, Nat.reduceAdd, Nat.reduceMul, reduceCtorEq, i10, i01, eq_self, or_true, true_or, false_or, or_false, not_true_eq_false, not_false_eq_true, if_true, if_false, a]
      refine rt_s ?_
      simp only [zgi, zgl, zwi, zwf, zjn, zj0, zcl_s, zcv_s, zrd_n, zrl_n, zix_n, zwa_n, zwl_n, zI1, zI2, zL1, zL2, zR1, zR2, updE, updLE, zbl_0, zbl_1, nI_1, nI_add, nI_mulR, nI_leI, nI_ltI, nI_0le, nI_lt0, bvE, ↓reduceIte, Nat.reduceEqDiff, Nat.reduceLT, Nat.reduceAdd, Nat.reduceMul, reduceCtorEq, i10, i01, eq_self, or_true, true_or, false_or, or_false, not_true_eq_false, not_false_eq_true, if_true, if_false, hin, hno]
      exact rt_s ⟨rfl, hR⟩
    · have b := hn.resolve_left a
      simp only [zgi, zgl, zwi, zwf, zjn, zj0, zcl_s, zcv_s, zrd_n, zrl_n, zix_n, zwa_n, zwl_n, zI1, zI2, zL1, zL2, zR1, zR2, updE, updLE, zbl_0, zbl_1, nI_1, nI_add, nI_mulR, nI_leI, nI_ltI, nI_0le, nI_lt0, bvE, ↓reduceIte, Nat.reduceEqDiff, Nat.reduceLT, Nat.reduceAdd, Nat.reduceMul, reduceCtorEq, i10, i01, eq_self, or_true, true_or, false_or, or_false, not_true_eq_false, not_false_eq_true, if_true, if_false, a, l4, b]
      refine rt_s ?_
      simp only [zgi, zgl, zwi, zwf, zjn, zj0, zcl_s, zcv_s, zrd_n, zrl_n, zix_n, zwa_n, zwl_n, zI1, zI2, zL1, zL2, zR1, zR2, updE, updLE, zbl_0, zbl_1, nI_1, nI_add, nI_mulR, nI_leI, nI_ltI, nI_0le, nI_lt0, bvE, ↓reduceIte, Nat.reduceEqDiff, Nat.reduceLT, Nat.reduceAdd, Nat.reduceMul, reduceCtorEq, i10, i01, eq_self, or_true, true_or, false_or, or_false, not_true_eq_false, not_false_eq_true, if_true, if_false, hin, hno]
      exact rt_s ⟨rfl, hR⟩
