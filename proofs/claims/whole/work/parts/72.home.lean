/-! Asking. -/
theorem stq {fR fM : ZS → Option (Int32 × ZS)} (h : ∀ s, Rel s → ∃ V, rt (fR s) (fun w => w.1 = V ∧ frm (fun b => 202 ≤ b ∧ b ≤ 215) s w.2) ∧ ∀ s' : ZS, (∀ b, ¬ (202 ≤ b ∧ b ≤ 215) → s'.1 b = s.1 b) → rt (fM s') (fun w => w.1 = V ∧ qM s' w.2)) : stp fR fM := by
  intro s hR
  obtain ⟨V, h1, h2⟩ := h s hR
  obtain ⟨⟨v, s1⟩, e1, e2, F1⟩ := h1
  dsimp only at e2 F1
  subst e2
  rw [e1]
  refine rt_s ?_
  dsimp only
  refine (h2 s1 (fun b hb => F1.1 b hb)).mono ?_
  rintro ⟨v', s2⟩ ⟨e3, q⟩
  exact ⟨e3, (hR.qC F1).qM q⟩
theorem oM.q {s s' : ZS} (h : oM s s') (e : s'.1 226 = s.1 226) : qM s s' := ⟨fun b hb => by
  by_cases hb2 : b = 226
  · rw [hb2]; exact e
  · exact h.1 b (by omega), fun j hj => h.2.1 j (by omega)⟩
theorem ctx {s : ZS} {R P Q : Nat} (h2 : rRu s R) (h3 : rWd 3 s (s.1 226) (s.1 216 21) (s.1 216 22) R P Q) : ∃ rl : ZRl, (∀ (s1 : ZS) (st hm : Int32), (∀ b, 4 ≤ b ∧ b ≤ 9 ∨ 86 ≤ b ∧ b ≤ 97 → s1.1 b = s.1 b) → s1.1 202 5 = s.1 216 21 → s1.1 202 6 = st → s1.1 202 7 = hm → (hm = -1 ∨ ∃ j, j < 5 ∧ hm = nI j) → dC P Q (s.1 226) st hm rl s1) ∧ (∀ (s1 : ZS) (st hm : Int32), (∀ k, k < 10 ∨ 57 ≤ k → s1.1 226 k = s.1 226 k) → (∀ b, b = 218 ∨ b = 220 ∨ b = 221 → s1.1 b = s.1 b) → s1.1 216 21 = s.1 216 21 → s1.1 216 23 = st → s1.1 216 24 = hm → dM P Q (s.1 226) st hm rl s1) := by
  obtain ⟨rl, r1, r2⟩ := rl_of h2 h3.2.2.2.2.2.2.1
  refine ⟨rl, fun s1 st hm a1 a2 a3 a4 a5 => ⟨?_, h3.1.cK, a3, a4, a5, r1 s1 a2 (fun b _ _ => a1 b (by omega))⟩, fun s1 st hm a1 a2 a3 a4 a5 => ⟨?_, h3.1.cK, h3.1.cN, a4, a5, r2 s1 a3 a2⟩⟩
  · refine h3.cC.f (X := fun b => ¬ (4 ≤ b ∧ b ≤ 9)) (s' := (s1.1, s.2)) ⟨fun b hb => a1 b (by omega), fun b hb => rfl⟩ (fun b hb hb2 => by omega)
  · obtain ⟨k1, k2, k3, k4, k5⟩ := h3.cM
    exact ⟨k1, k2, (a1 3 (by omega)).trans k3, (a1 4 (by omega)).trans k4, a1⟩
theorem c_res {s s1 : ZS} {R P Q : Nat} {rl : ZRl} (h2 : rRu s R) (h3 : rWd 3 s (s.1 226) (s.1 216 21) (s.1 216 22) R P Q) (hA : ∀ (s1 : ZS) (st hm : Int32), (∀ b, 4 ≤ b ∧ b ≤ 9 ∨ 86 ≤ b ∧ b ≤ 97 → s1.1 b = s.1 b) → s1.1 202 5 = s.1 216 21 → s1.1 202 6 = st → s1.1 202 7 = hm → (hm = -1 ∨ ∃ j, j < 5 ∧ hm = nI j) → dC P Q (s.1 226) st hm rl s1) (F : frm (fun b => 202 ≤ b ∧ b ≤ 215) s s1) :
    rt (f_Fore_restart s1) (fun w => gS 207 w = gM (s.1 226) ∧ dC P Q (s.1 226) 0 (-1) rl w ∧ w.1 202 5 = s.1 216 21 ∧ frm (fun b => 202 ≤ b ∧ b ≤ 215) s w) := by
  have e36 : s1.1 3 6 = s.1 216 21 := by rw [F.1 3 (by omega)]; exact h3.2.2.2.2.2.1
  refine (c_restart (by rw [e36]; exact f6 h2.1 h3.2.2.2.2.2.2.1)).mono ?_
  rintro w ⟨k1, k2, k3, k4, k5⟩
  have F2 := F.tr (k5.sub (C' := fun b => 202 ≤ b ∧ b ≤ 215) (fun b hb => by omega))
  refine ⟨?_, hA w 0 (-1) (fun b hb => F2.1 b (by omega)) (k2.trans e36) k3 k4 (Or.inl rfl), k2.trans e36, F2⟩
  rw [k1, gS_f (s := s) (fun b _ _ => F.1 b (by omega))]; exact h3.g
theorem kept {s : ZS} : ∀ k, k < 47 → (zsR s 229 (fun k => if k < 47 then s.1 226 (10 + k) else s.1 229 k)).1 229 k = s.1 226 (10 + k) := by
  intro k hk
  rw [zR1, if_pos rfl, if_pos hk]
theorem i01le {n : Nat} (h : 1 ≤ n ∧ n ≤ 30) : ((1 : Int32) ≤ nI n ∧ nI n ≤ 30) := ⟨by rw [l1, nI_leI (by omega) (by omega)]; omega, by rw [show (30 : Int32) = nI 30 from rfl, nI_leI (by omega) (by omega)]; omega⟩
/-- n days are asked for: between lo and hi, or not -/
theorem nIn (p : Int32) (lo hi : Nat) (h1 : lo < 2147483648) (h2 : hi < 2147483648) : (∃ n, lo ≤ n ∧ n ≤ hi ∧ p = nI n) ∨ ¬ (nI lo ≤ p ∧ p ≤ nI hi) := by
  by_cases h : nI lo ≤ p ∧ p ≤ nI hi
  · left
    have h0 : ¬ p < 0 := Int32.not_lt.mpr (Int32.le_trans (nI_pos' (by omega)) h.1)
    obtain ⟨n, hn, rfl⟩ := nI_of h0
    rw [nI_leI (by omega) (by omega), nI_leI (by omega) (by omega)] at h
    exact ⟨n, h.1, h.2, rfl⟩
  · exact Or.inr h
noncomputable def hRow (P Q : Nat) (C : Nat → Int32) (rl : ZRl) (n : Nat) (z : ZT) (hm : Int32) : Int32 := (dn P Q C 0 hm rl n z).2.2.2.2.2 - z.2.2.2.2.2
noncomputable def hBest (P Q : Nat) (C : Nat → Int32) (rl : ZRl) (n : Nat) (z : ZT) (k : Nat) : Int32 × Int32 := itr k (fun p x => if hRow P Q C rl n z (nI p) ≤ x.1 then x else (hRow P Q C rl n z (nI p), nI p)) (hRow P Q C rl n z (-1), -1)
theorem st_home (p w : Int32) : stp (f_Ring_home p w) (f_Model_home p w) := by
  refine stq (fun s hR => ?_)
  obtain ⟨R, P, Q, h1, h2, h3, h4, h5, h6, h7⟩ := id hR
  have hP := h3.1.1
  have hQ := h3.1.2.1
  have hzw := h3.2.2.2.1.1.zW
  obtain ⟨rl, hA, hB⟩ := ctx h2 h3
  have hin : ∀ s' : ZS, f_Model_in p.toInt64 1 30 s' = some (if (1 : Int32) ≤ p ∧ p ≤ 30 then 1 else 0, s') := fun s' => mIn (by decide) (by decide)
  unfold f_Ring_home f_Model_home
  rcases told_c h3 with ⟨c0, m0⟩ | ⟨c0, m0⟩
  · refine ⟨-2, ?_, fun s' hs' => ?_⟩
    · simp only [zgi, zgl, zwi, zwf, zjn, zj0, zcl_s, zcv_s, zrd_n, zrl_n, zix_n, zwa_n, zwl_n, zI1, zI2, zL1, zL2, zR1, zR2, updE, updLE, zbl_0, zbl_1, nI_1, nI_add, nI_mulR, nI_leI, nI_ltI, nI_0le, nI_lt0, bvE, ↓reduceIte, Nat.reduceEqDiff, Nat.reduceLT, Nat.reduceAdd, Nat.reduceMul, reduceCtorEq, i10, i01, eq_self, or_true, true_or, false_or, or_false, not_true_eq_false, not_false_eq_true, if_true, if_false, c0]; exact rt_s ⟨rfl, frm.rf⟩
    · have m0' : s'.1 226 0 = 0 := by rw [hs' 226 (by omega)]; exact m0
      simp only [zgi, zgl, zwi, zwf, zjn, zj0, zcl_s, zcv_s, zrd_n, zrl_n, zix_n, zwa_n, zwl_n, zI1, zI2, zL1, zL2, zR1, zR2, updE, updLE, zbl_0, zbl_1, nI_1, nI_add, nI_mulR, nI_leI, nI_ltI, nI_0le, nI_lt0, bvE, ↓reduceIte, Nat.reduceEqDiff, Nat.reduceLT, Nat.reduceAdd, Nat.reduceMul, reduceCtorEq, i10, i01, eq_self, or_true, true_or, false_or, or_false, not_true_eq_false, not_false_eq_true, if_true, if_false, m_isSmithy, m0']; exact rt_s ⟨rfl, qM.rf⟩
  · rcases nIn p 1 30 (by omega) (by omega) with ⟨n, n1, n2, rfl⟩ | hno
    · have hp := i01le ⟨n1, n2⟩
      have a1 : ¬ nI n < 1 := Int32.not_lt.mpr hp.1
      have a2 : ¬ (30 : Int32) < nI n := Int32.not_lt.mpr hp.2
      by_cases hw : w = 0 ∨ w = 1
      · refine ⟨if w = 0 then (hBest P Q (s.1 226) rl n (gM (s.1 226)) P).2 else (hBest P Q (s.1 226) rl n (gM (s.1 226)) P).1, ?_, fun s' hs' => ?_⟩
        · simp only [zgi, zcl_s, c0, i10, ↓reduceIte, a1, a2, cEi, hw, not_false_eq_true]
          unfold f_Fore_bestHome
          have key : rt (zcv (f_Fore_restart s) (fun (s3 : ZS) => zcl (f_Fore_rowsIn (nI n) s3) (fun (v5 : Int32) (s4 : ZS) => zjn (A := Int32 × Int32) (fun (a7 : Int32 × Int32) (s6 : ZS) => (if ¬ w = 0 then some (a7.1, s6) else some (a7.2, s6))) (fun (k8 : (Int32 × Int32) → ZS → Option (Int32 × ZS)) => zlp zN (f_Fore_bestHome_B16 (nI n) k8) (v5, (-1 : Int32), (0 : Int32)) s4)))) (fun w_1 => w_1.1 = (if w = 0 then (hBest P Q (s.1 226) rl n (gM (s.1 226)) P).2 else (hBest P Q (s.1 226) rl n (gM (s.1 226)) P).1) ∧ frm (fun b => 202 ≤ b ∧ b ≤ 215) s w_1.2) := by
            refine rt_cv (c_res h2 h3 hA frm.rf) ?_
            rintro s1 ⟨g1, d1, _, F1⟩
            refine rt_cl (c_rowsIn (by omega) d1 (by rw [g1]; exact hzw)) ?_
            rintro v s2 ⟨v1, g2, F2⟩
            dsimp only at v1 F2
            rw [g1] at v1
            simp only [zjn]
            refine lp_rt P (fun i a s3 => a.2.2 = nI i ∧ (a.1, a.2.1) = hBest P Q (s.1 226) rl n (gM (s.1 226)) i ∧ frm (fun b => 202 ≤ b ∧ b ≤ 215) s s3) (by omega) ⟨rfl, by rw [v1]; rfl, F1.tr (F2.sub (fun b hb => by unfold tF at hb; omega))⟩ ?_ ?_
            · rintro i ⟨most, best, c⟩ s3 g hi ⟨k0, k1, k2⟩
              left
              dsimp only at k0 k1
              subst k0
              have e43 : s3.1 4 3 = nI P := by rw [k2.1 4 (by omega)]; exact h3.cC.2.2.1
              have hni : ¬ P ≤ i := by omega
              obtain ⟨s4, r4, g4, d4, e4, F4⟩ := c_res h2 h3 hA k2
              have d5 : dC P Q (s.1 226) 0 (nI i) rl (zsI s4 202 7 (nI i)) := hA _ 0 (nI i) (fun b hb => by rw [zI1, if_neg (by omega)]; exact F4.1 b (by omega)) (by rw [zI1, if_pos rfl, updE, if_neg (by omega)]; exact e4) (by rw [zI1, if_pos rfl, updE, if_neg (by omega)]; exact d4.2.2.1) (by rw [zI1, if_pos rfl, updE, if_pos rfl]) (Or.inr ⟨i, by omega, rfl⟩)
              have g5 : gS 207 (zsI s4 202 7 (nI i)) = gM (s.1 226) := by rw [gS207_o (by omega)]; exact g4
              obtain ⟨⟨v6, s6⟩, r6, v6e, g6, F6⟩ := c_rowsIn (n := n) (by omega) d5 (by rw [g5]; exact hzw)
              dsimp only at v6e F6
              rw [g5] at v6e
              have F7 : frm (fun b => 202 ≤ b ∧ b ≤ 215) s s6 := (F4.I (by omega)).tr (F6.sub (fun b hb => by unfold tF at hb; omega))
              have hb : hBest P Q (s.1 226) rl n (gM (s.1 226)) (i + 1) = if v6 ≤ most then (most, best) else (v6, nI i) := by
                unfold hBest at k1 ⊢
                rw [itrS, ← k1, v6e]; rfl
              unfold f_Fore_bestHome_B16
              by_cases hv : v6 ≤ most
              · simp (disch := omega) only [zgi, zgl, zwi, zwf, zjn, zj0, zcl_s, zcv_s, zrd_n, zrl_n, zix_n, zwa_n, zwl_n, zI1, zI2, zL1, zL2, zR1, zR2, updE, updLE, zbl_0, zbl_1, nI_1, nI_add, nI_mulR, nI_leI, nI_ltI, nI_0le, nI_lt0, bvE, ↓reduceIte, Nat.reduceEqDiff, Nat.reduceLT, Nat.reduceAdd, Nat.reduceMul, reduceCtorEq, i10, i01, eq_self, or_true, true_or, false_or, or_false, not_true_eq_false, not_false_eq_true, if_true, if_false, e43, hni, r4, r6, hv]
                refine ⟨_, _, rfl, rfl, ?_, F7⟩
                rw [hb, if_pos hv]
              · simp (disch := omega) only [zgi, zgl, zwi, zwf, zjn, zj0, zcl_s, zcv_s, zrd_n, zrl_n, zix_n, zwa_n, zwl_n, zI1, zI2, zL1, zL2, zR1, zR2, updE, updLE, zbl_0, zbl_1, nI_1, nI_add, nI_mulR, nI_leI, nI_ltI, nI_0le, nI_lt0, bvE, ↓reduceIte, Nat.reduceEqDiff, Nat.reduceLT, Nat.reduceAdd, Nat.reduceMul, reduceCtorEq, i10, i01, eq_self, or_true, true_or, false_or, or_false, not_true_eq_false, not_false_eq_true, if_true, if_false, e43, hni, r4, r6, hv]
                refine ⟨_, _, rfl, rfl, ?_, F7⟩
                rw [hb, if_neg hv]
            · rintro ⟨most, best, c⟩ s3 g ⟨k0, k1, k2⟩
              dsimp only at k0 k1
              subst k0
              have e43 : s3.1 4 3 = nI P := by rw [k2.1 4 (by omega)]; exact h3.cC.2.2.1
              unfold f_Fore_bestHome_B16
              simp (disch := omega) only [zgi, zgl, zwi, zwf, zjn, zj0, zcl_s, zcv_s, zrd_n, zrl_n, zix_n, zwa_n, zwl_n, zI1, zI2, zL1, zL2, zR1, zR2, updE, updLE, zbl_0, zbl_1, nI_1, nI_add, nI_mulR, nI_leI, nI_ltI, nI_0le, nI_lt0, bvE, ↓reduceIte, Nat.reduceEqDiff, Nat.reduceLT, Nat.reduceAdd, Nat.reduceMul, reduceCtorEq, i10, i01, eq_self, or_true, true_or, false_or, or_false, not_true_eq_false, not_false_eq_true, if_true, if_false, e43, Nat.le_refl]
              rw [← k1]
              by_cases w0 : w = 0
              · simp only [w0, not_true_eq_false, ↓reduceIte]; exact rt_s ⟨rfl, k2⟩
              · simp only [w0, not_false_eq_true, ↓reduceIte]; exact rt_s ⟨rfl, k2⟩
          exact rt_cl key (fun v s h => rt_s h)
        · have e226 : s'.1 226 = s.1 226 := hs' 226 (by omega)
          have m0' : s'.1 226 0 = 1 := by rw [e226]; exact m0
          have hB0 : dM P Q (s.1 226) 0 (-1) rl (zsR s' 229 (fun k => if k < 47 then s'.1 226 (10 + k) else s'.1 229 k)) := hB _ 0 (-1) (fun k hk => by rw [zR1, if_neg (by omega), e226]) (fun b hb => by rw [zR1, if_neg (by omega)]; exact hs' b (by omega)) (by rw [zR1, if_neg (by omega), hs' 216 (by omega)]) (by rw [zR1, if_neg (by omega), hs' 216 (by omega)]; exact h6) (by rw [zR1, if_neg (by omega), hs' 216 (by omega)]; exact h7)
          simp only [zcl_s, m_isSmithy, m0', i10, ↓reduceIte, hin, hp, and_self, mIn01, hw, not_false_eq_true]
          refine rt_cv m_keeps ?_
          rintro s1 rfl
          generalize hs1 : zsR s' 229 (fun k => if k < 47 then s'.1 226 (10 + k) else s'.1 229 k) = s1 at hB0 ⊢
          have k1 : ∀ k, k < 47 → s1.1 229 k = s.1 226 (10 + k) := fun k hk => by rw [← hs1, kept k hk, e226]
          have q1 : qM s' s1 := by rw [← hs1]; exact ⟨fun b hb => by rw [zR1, if_neg (by omega)], fun j hj => rfl⟩
          have e1 : s1.1 226 = s.1 226 := by rw [← hs1, zR1, if_neg (by omega), e226]
          have E1 : ∀ b, b ≠ 229 → s1.1 b = s'.1 b := fun b hb => by rw [← hs1, zR1, if_neg hb]
          refine rt_cl (m_rowsIn (M0 := s.1 226) (by omega) hB0 (by rw [e1]; exact hzw) k1 (fun k hk => by rw [e1])) ?_
          rintro v s2 ⟨v1, e2, o2⟩
          dsimp only at v1 e2 o2
          rw [e1] at v1
          simp only [zjn]
          refine lp_rt P (fun i a s3 => a.2.2 = nI i ∧ (a.2.1, a.1) = hBest P Q (s.1 226) rl n (gM (s.1 226)) i ∧ s3.1 226 = s.1 226 ∧ (∀ b, ¬ (b = 216 ∨ 226 ≤ b ∧ b ≤ 227) → s3.1 b = s1.1 b) ∧ (∀ j, j ≠ 18 → j ≠ 24 → s3.1 216 j = s1.1 216 j)) (by omega) ⟨rfl, by rw [v1]; rfl, e2, o2.1, fun j hj _ => o2.2.1 j hj⟩ ?_ ?_
          · rintro i ⟨best, most, c⟩ s3 g hi ⟨j0, j1, j2, j3, j4⟩
            left
            dsimp only at j0 j1
            subst j0
            have m3 : s3.1 226 3 = nI P := by rw [j2]; exact h3.cM.2.2.1
            have hni : ¬ P ≤ i := by omega
            have dB : dM P Q (s.1 226) 0 (nI i) rl (zsI s3 216 24 (nI i)) := hB _ 0 (nI i) (fun k hk => by rw [zI1, if_neg (by omega), j2]) (fun b hb => by rw [zI1, if_neg (by omega), j3 b (by omega), E1 b (by omega)]; exact hs' b (by omega)) (by rw [zI1, if_pos rfl, updE, if_neg (by omega), j4 21 (by omega) (by omega), E1 216 (by omega), hs' 216 (by omega)]) (by rw [zI1, if_pos rfl, updE, if_neg (by omega), j4 23 (by omega) (by omega), E1 216 (by omega), hs' 216 (by omega)]; exact h6) (by rw [zI1, if_pos rfl, updE, if_pos rfl])
            obtain ⟨⟨v6, s6⟩, r6, v6e, e6, o6⟩ := m_rowsIn (n := n) (M0 := s.1 226) (by omega) dB (by rw [zI1, if_neg (by omega), j2]; exact hzw) (fun k hk => by rw [zI1, if_neg (by omega), j3 229 (by omega)]; exact k1 k hk) (fun k hk => by rw [zI1, if_neg (by omega), j2])
            dsimp only at v6e e6 o6
            rw [show (zsI s3 216 24 (nI i)).1 226 = s3.1 226 from rfl, j2] at v6e
            have j3' : ∀ b, ¬ (b = 216 ∨ 226 ≤ b ∧ b ≤ 227) → s6.1 b = s1.1 b := fun b hb => by rw [o6.1 b hb, zI1, if_neg (by omega), j3 b hb]
            have j4' : ∀ j, j ≠ 18 → j ≠ 24 → s6.1 216 j = s1.1 216 j := fun j x1 x2 => by rw [o6.2.1 j x1, zI1, if_pos rfl, updE, if_neg x2, j4 j x1 x2]
            have hb : hBest P Q (s.1 226) rl n (gM (s.1 226)) (i + 1) = if v6 ≤ most then (most, best) else (v6, nI i) := by
              unfold hBest at j1 ⊢
              rw [itrS, ← j1, v6e]; rfl
            unfold f_Model_home_B48
            by_cases hv : v6 ≤ most
            · simp (disch := omega) only [zgi, zgl, zwi, zwf, zjn, zj0, zcl_s, zcv_s, zrd_n, zrl_n, zix_n, zwa_n, zwl_n, zI1, zI2, zL1, zL2, zR1, zR2, updE, updLE, zbl_0, zbl_1, nI_1, nI_add, nI_mulR, nI_leI, nI_ltI, nI_0le, nI_lt0, bvE, ↓reduceIte, Nat.reduceEqDiff, Nat.reduceLT, Nat.reduceAdd, Nat.reduceMul, reduceCtorEq, i10, i01, eq_self, or_true, true_or, false_or, or_false, not_true_eq_false, not_false_eq_true, if_true, if_false, m3, hni, r6, Int32.not_lt.mpr hv]
              refine ⟨_, _, rfl, rfl, ?_, e6, j3', j4'⟩
              rw [hb, if_pos hv]
            · simp (disch := omega) only [zgi, zgl, zwi, zwf, zjn, zj0, zcl_s, zcv_s, zrd_n, zrl_n, zix_n, zwa_n, zwl_n, zI1, zI2, zL1, zL2, zR1, zR2, updE, updLE, zbl_0, zbl_1, nI_1, nI_add, nI_mulR, nI_leI, nI_ltI, nI_0le, nI_lt0, bvE, ↓reduceIte, Nat.reduceEqDiff, Nat.reduceLT, Nat.reduceAdd, Nat.reduceMul, reduceCtorEq, i10, i01, eq_self, or_true, true_or, false_or, or_false, not_true_eq_false, not_false_eq_true, if_true, if_false, m3, hni, r6, Int32.not_le.mp hv]
              refine ⟨_, _, rfl, rfl, ?_, e6, j3', j4'⟩
              rw [hb, if_neg hv]
          · rintro ⟨best, most, c⟩ s3 g ⟨j0, j1, j2, j3, j4⟩
            dsimp only at j0 j1
            subst j0
            have m3 : s3.1 226 3 = nI P := by rw [j2]; exact h3.cM.2.2.1
            unfold f_Model_home_B48
            simp (disch := omega) only [zgi, zgl, zwi, zwf, zjn, zj0, zcl_s, zcv_s, zrd_n, zrl_n, zix_n, zwa_n, zwl_n, zI1, zI2, zL1, zL2, zR1, zR2, updE, updLE, zbl_0, zbl_1, nI_1, nI_add, nI_mulR, nI_leI, nI_ltI, nI_0le, nI_lt0, bvE, ↓reduceIte, Nat.reduceEqDiff, Nat.reduceLT, Nat.reduceAdd, Nat.reduceMul, reduceCtorEq, i10, i01, eq_self, or_true, true_or, false_or, or_false, not_true_eq_false, not_false_eq_true, if_true, if_false, m3, Nat.le_refl]
            rw [← j1]
            have qq : qM s' (zsI s3 216 24 (-1)) := ⟨fun b hb => by
              by_cases hb2 : b = 226
              · rw [hb2, zI1, if_neg (by omega), j2, e226]
              · rw [zI1, if_neg (by omega), j3 b (by omega), E1 b (by omega)], fun j hj => by
              rw [zI1, if_pos rfl, updE]
              by_cases hj2 : j = 24
              · rw [if_pos hj2, hj2, hs' 216 (by omega), h7]
              · rw [if_neg hj2, j4 j (by omega) hj2, E1 216 (by omega)]⟩
            by_cases w0 : w = 0
            · simp only [w0, not_true_eq_false, ↓reduceIte]; exact rt_s ⟨rfl, qq⟩
            · simp only [w0, not_false_eq_true, ↓reduceIte]; exact rt_s ⟨rfl, qq⟩
      · refine ⟨-2, ?_, fun s' hs' => ?_⟩
        · simp only [zgi, zgl, zwi, zwf, zjn, zj0, zcl_s, zcv_s, zrd_n, zrl_n, zix_n, zwa_n, zwl_n, zI1, zI2, zL1, zL2, zR1, zR2, updE, updLE, zbl_0, zbl_1, nI_1, nI_add, nI_mulR, nI_leI, nI_ltI, nI_0le, nI_lt0, bvE, ↓reduceIte, Nat.reduceEqDiff, Nat.reduceLT, Nat.reduceAdd, Nat.reduceMul, reduceCtorEq, i10, i01, eq_self, or_true, true_or, false_or, or_false, not_true_eq_false, not_false_eq_true, if_true, if_false, c0, a1, a2, cEi, hw]; exact rt_s ⟨rfl, frm.rf⟩
        · have m0' : s'.1 226 0 = 1 := by rw [hs' 226 (by omega)]; exact m0
          simp only [zgi, zgl, zwi, zwf, zjn, zj0, zcl_s, zcv_s, zrd_n, zrl_n, zix_n, zwa_n, zwl_n, zI1, zI2, zL1, zL2, zR1, zR2, updE, updLE, zbl_0, zbl_1, nI_1, nI_add, nI_mulR, nI_leI, nI_ltI, nI_0le, nI_lt0, bvE, ↓reduceIte, Nat.reduceEqDiff, Nat.reduceLT, Nat.reduceAdd, Nat.reduceMul, reduceCtorEq, i10, i01, eq_self, or_true, true_or, false_or, or_false, not_true_eq_false, not_false_eq_true, if_true, if_false, m_isSmithy, m0', hin, hp, and_self, mIn01, hw]; exact rt_s ⟨rfl, qM.rf⟩
    · have hno' : ¬ ((1 : Int32) ≤ p ∧ p ≤ 30) := hno
      refine ⟨-2, ?_, fun s' hs' => ?_⟩
      · by_cases a1 : p < 1
        · simp only [zgi, zgl, zwi, zwf, zjn, zj0, zcl_s, zcv_s, zrd_n, zrl_n, zix_n, zwa_n, zwl_n, zI1, zI2, zL1, zL2, zR1, zR2, updE, updLE, zbl_0, zbl_1, nI_1, nI_add, nI_mulR, nI_leI, nI_ltI, nI_0le, nI_lt0, bvE, ↓reduceIte, Nat.reduceEqDiff, Nat.reduceLT, Nat.reduceAdd, Nat.reduceMul, reduceCtorEq, i10, i01, eq_self, or_true, true_or, false_or, or_false, not_true_eq_false, not_false_eq_true, if_true, if_false, c0, a1]; exact rt_s ⟨rfl, frm.rf⟩
        · have a2 : (30 : Int32) < p := Int32.not_le.mp (fun e => hno' ⟨Int32.not_lt.mp a1, e⟩)
          simp only [zgi, zgl, zwi, zwf, zjn, zj0, zcl_s, zcv_s, zrd_n, zrl_n, zix_n, zwa_n, zwl_n, zI1, zI2, zL1, zL2, zR1, zR2, updE, updLE, zbl_0, zbl_1, nI_1, nI_add, nI_mulR, nI_leI, nI_ltI, nI_0le, nI_lt0, bvE, ↓reduceIte, Nat.reduceEqDiff, Nat.reduceLT, Nat.reduceAdd, Nat.reduceMul, reduceCtorEq, i10, i01, eq_self, or_true, true_or, false_or, or_false, not_true_eq_false, not_false_eq_true, if_true, if_false, c0, a1, a2]; exact rt_s ⟨rfl, frm.rf⟩
      · have m0' : s'.1 226 0 = 1 := by rw [hs' 226 (by omega)]; exact m0
        simp only [zgi, zgl, zwi, zwf, zjn, zj0, zcl_s, zcv_s, zrd_n, zrl_n, zix_n, zwa_n, zwl_n, zI1, zI2, zL1, zL2, zR1, zR2, updE, updLE, zbl_0, zbl_1, nI_1, nI_add, nI_mulR, nI_leI, nI_ltI, nI_0le, nI_lt0, bvE, ↓reduceIte, Nat.reduceEqDiff, Nat.reduceLT, Nat.reduceAdd, Nat.reduceMul, reduceCtorEq, i10, i01, eq_self, or_true, true_or, false_or, or_false, not_true_eq_false, not_false_eq_true, if_true, if_false, m_isSmithy, m0', hin, hno']; exact rt_s ⟨rfl, qM.rf⟩
