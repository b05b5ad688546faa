/-! Sizes of rows; quarrel, heard. -/
theorem br_pos {P : Nat} {C : Nat → Int32} {B : Nat → Bool} {z : ZT} {RS : Nat → Int32} (hP : P ≤ 5) (hK : ∀ p, p < P → iN 1 99 (C (57 + p))) (hz : ∀ p, p < 5 → iN 0 999 (z.1 p)) : ∀ n, n ≤ P → (∀ p, p < 5 → iN 0 999 ((itr n (sBr1 C B) (z, 0, RS)).1.1 p)) ∧ (∀ p, p < 5 → bt (itr n (sBr1 C B) (z, 0, RS)).2.1 p = true → p < n ∧ iN 1 999 ((itr n (sBr1 C B) (z, 0, RS)).2.2 p)) ∧ ∃ k, k < 32 ∧ (itr n (sBr1 C B) (z, 0, RS)).2.1 = nI k := by
  intro n
  induction n with
  | zero => intro _; exact ⟨hz, ⟨fun p hp hb => (by rw [show (itr 0 (sBr1 C B) (z, 0, RS)).2.1 = 0 from rfl, bt_zero (by omega)] at hb; cases hb), 0, by omega, rfl⟩⟩
  | succ n ih =>
    intro hn
    obtain ⟨h1, h2, k, hk1, hk2⟩ := ih (by omega)
    rw [itrS]
    generalize itr n (sBr1 C B) (z, 0, RS) = x at h1 h2 hk2 ⊢
    unfold sBr1
    split
    · next hc =>
      refine ⟨fun p hp => ?_, fun p hp hb => ?_, ?_⟩
      · show iN 0 999 (upd x.1.1 n 0 p)
        rw [updE]; split
        · exact ⟨0, by omega, by omega, rfl⟩
        · exact h1 p hp
      · dsimp only at hb ⊢
        rw [updE]
        by_cases e : p = n
        · rw [if_pos e]
          refine ⟨by omega, ?_⟩
          obtain ⟨b, b1, b2, b3⟩ := hK n (by omega)
          obtain ⟨t, t1, t2, t3⟩ := h1 n (by omega)
          have := hc.2
          rw [b3, t3, nI_leI (by omega) (by omega)] at this
          rw [t3]; exact ⟨t, by omega, t2, rfl⟩
        · rw [if_neg e]
          rw [bt_or, bt_one (by omega) (by omega), decide_eq_false (fun q => e q.symm), Bool.or_false] at hb
          exact ⟨by have := (h2 p hp hb).1; omega, (h2 p hp hb).2⟩
      · dsimp only
        rw [hk2]
        exact (show ∀ k, k < 32 → ∀ n, n < 5 → ∃ k', k' < 32 ∧ nI k ||| ((1 : Int32) <<< (nI n &&& 31)) = nI k' by decide +kernel) k hk1 n (by omega)
    · exact ⟨h1, fun p hp hb => ⟨by have := (h2 p hp hb).1; omega, (h2 p hp hb).2⟩, k, hk1, hk2⟩
theorem say_pos {P : Nat} {C : Nat → Int32} {hm : Int32} {z : ZT} {RS : Nat → Int32} {p q : Nat} (hP : P ≤ 5) (hK : ∀ p, p < P → iN 1 99 (C (57 + p))) (hK2 : cK2 C) (hz : zOK P z) (hp : p < 5) (hq : q < 6) : (∀ k, k < 5 → bt (sSay P C hm z RS p q).2.1 k = true → k < P ∧ iN 1 999 ((sSay P C hm z RS p q).2.2 k)) ∧ ∃ k, k < 32 ∧ (sSay P C hm z RS p q).2.1 = nI k := by
  unfold sSay sBr
  refine (br_pos hP hK (fun k hk => ?_) P (Nat.le_refl _)).2
  have h0 : zOK P (sSay0 C z p q) := by
    intro k hk
    obtain ⟨k1, k2, k3⟩ := hz k hk
    refine ⟨k1, k2, ?_⟩
    show iN 0 999 (upd z.1 p _ k)
    rw [updE]; split
    · next e =>
      subst e
      have := (hK2.2.2.1 q hq).add (hK2.2.2.2 (6 * k + q) (by omega))
      rw [show 73 + 6 * k + q = 73 + (6 * k + q) by omega]
      exact iN_ang k3 this (by omega)
    · exact k3
  exact (zOK_hear (iN_half (hK2.2.2.1 q hq)) (by omega) h0 P k hk).2.2
theorem day1_pos {P Q : Nat} {C : Nat → Int32} {st hm : Int32} {rl : ZRl} {z : ZT} {RS : Nat → Int32} (hP : P ≤ 5) (hQ : Q ≤ 6) (hK : ∀ p, p < P → iN 1 99 (C (57 + p))) (hK2 : cK2 C) (hz : zOK P z) : ∀ n, n ≤ P → (∀ k, k < 5 → bt (itr n (sDay1 P Q C st hm rl) (z, 0, RS)).2.1 k = true → k < P ∧ iN 1 999 ((itr n (sDay1 P Q C st hm rl) (z, 0, RS)).2.2 k)) ∧ ∃ k, k < 32 ∧ (itr n (sDay1 P Q C st hm rl) (z, 0, RS)).2.1 = nI k := by
  intro n
  induction n with
  | zero => intro _; exact ⟨fun p hp hb => (by rw [show (itr 0 (sDay1 P Q C st hm rl) (z, 0, RS)).2.1 = 0 from rfl, bt_zero (by omega)] at hb; cases hb), 0, by omega, rfl⟩
  | succ n ih =>
    intro hn
    obtain ⟨h1, k, hk1, hk2⟩ := ih (by omega)
    have hz2 := zOK_day1 (st := st) (hm := hm) (rl := rl) (RS := RS) hP hQ hK2 hz n (by omega)
    rw [itrS]
    generalize itr n (sDay1 P Q C st hm rl) (z, 0, RS) = x at h1 hk2 hz2 ⊢
    unfold sDay1
    split
    · split
      · exact ⟨h1, k, hk1, hk2⟩
      · next hne =>
        rcases sCh_r (C := C) (st := st) (rl := rl) (z := x.1) (p := n) Q with hq | ⟨q', hq1, hq⟩
        · exact absurd hq hne
        · rw [hq, nI_clamp (by omega)]
          obtain ⟨s1, k2, s2, s3⟩ := say_pos (hm := hm) (RS := x.2.2) (p := n) (q := q') hP hK hK2 hz2 (by omega) (by omega)
          refine ⟨fun p hp hb => ?_, ?_⟩
          · dsimp only at hb ⊢
            by_cases e : bt (sSay P C hm x.1 x.2.2 n q').2.1 p = true
            · exact s1 p hp e
            · have e1 : bt (sSay P C hm x.1 x.2.2 n q').2.1 p = false := by simpa using e
              rw [say_keep hP hp e1]
              rw [bt_or, e1, Bool.or_false] at hb
              exact h1 p hp hb
          · dsimp only
            rw [hk2, s3]
            exact (show ∀ k, k < 32 → ∀ n, n < 32 → ∃ k', k' < 32 ∧ nI k ||| nI n = nI k' by decide +kernel) k hk1 k2 s2
    · exact ⟨h1, k, hk1, hk2⟩
theorem ds_pos {P Q : Nat} {C : Nat → Int32} {st hm : Int32} {rl : ZRl} {z : ZT} (hB : cB P Q C) (hz : zOK P z) : (∀ k, k < 5 → bt (dr P Q C st hm rl z) k = true → k < P ∧ iN 1 999 (ds P Q C st hm rl z k)) ∧ ∃ k, k < 32 ∧ dr P Q C st hm rl z = nI k := day1_pos hB.1 hB.2.1 hB.2.2.2.2.2.1 hB.cK2 hz P (Nat.le_refl _)
/-! quarrel -/
noncomputable def qV1 (P Q : Nat) (C : Nat → Int32) (rl : ZRl) (z : ZT) (p : Nat) (w : Int32) (j : Nat) : Int32 := if w = 0 then (dn P Q C 0 (-1) rl j z).2.2.2.2.1 else ds P Q C 0 (-1) rl (dn P Q C 0 (-1) rl j z) p
noncomputable def qF (P Q : Nat) (C : Nat → Int32) (rl : ZRl) (z : ZT) (p : Nat) (w : Int32) (k : Nat) : Int32 := itr k (fun j x => if 0 ≤ x then x else if bt (dr P Q C 0 (-1) rl (dn P Q C 0 (-1) rl j z)) p = true then qV1 P Q C rl z p w j else x) (-2)
theorem qF_stay {P Q : Nat} {C : Nat → Int32} {rl : ZRl} {z : ZT} {p : Nat} {w : Int32} {j : Nat} (h : 0 ≤ qF P Q C rl z p w j) : ∀ k, qF P Q C rl z p w (j + k) = qF P Q C rl z p w j := by
  intro k
  induction k with
  | zero => rfl
  | succ k ih =>
    show (if 0 ≤ qF P Q C rl z p w (j + k) then qF P Q C rl z p w (j + k) else _) = _
    rw [ih, if_pos h]
theorem st_quarrel (p w : Int32) : stp (f_Ring_quarrel p w) (f_Model_quarrel p w) := by
  refine stq (fun s hR => ?_)
  obtain ⟨R, P, Q, h1, h2, h3, h4, h5, h6, h7⟩ := id hR
  have hP := h3.1.1
  have hQ := h3.1.2.1
  have hzo := h3.2.2.2.1.1
  have hzw := hzo.zW
  have g := h3.g
  obtain ⟨d, d1, d2, d3⟩ := h3.2.2.2.1.2
  obtain ⟨rl, hA, hB⟩ := ctx h2 h3
  have e3 : s.1 4 3 = nI P := h3.cC.2.2.1
  have mc : ∀ s' : ZS, (∀ b, ¬ (202 ≤ b ∧ b ≤ 215) → s'.1 b = s.1 b) → cM P Q (s.1 226) s' := fun s' hs' => by unfold cM; rw [hs' 226 (by omega)]; exact h3.cM
  unfold f_Ring_quarrel f_Model_quarrel
  rcases pN p P (by omega) with ⟨q, hq, rfl⟩ | hn
  · by_cases hW : (gM (s.1 226)).2.1 q = 0
    · have hW' : (gS 10 s).2.1 q = 0 := by rw [g]; exact hW
      by_cases hw : w = 0 ∨ w = 1
      · -- what a found row answers is not below 0
        have pos : ∀ j, j < 200 → bt (dr P Q (s.1 226) 0 (-1) rl (dn P Q (s.1 226) 0 (-1) rl j (gM (s.1 226)))) q = true → 0 ≤ qV1 P Q (s.1 226) rl (gM (s.1 226)) q w j := by
          intro j hj hb
          unfold qV1
          split
          · rw [day_dn (d := d) d3]; exact nI_pos' (by omega)
          · exact ((ds_pos h3.1 (zOK_dn hP hQ h3.1.cK2 hzo j)).1 q (by omega) hb).2.ge (by omega)
        have fnd : ∀ j, j < 200 → qF P Q (s.1 226) rl (gM (s.1 226)) q w j = -2 → bt (dr P Q (s.1 226) 0 (-1) rl (dn P Q (s.1 226) 0 (-1) rl j (gM (s.1 226)))) q = true → qF P Q (s.1 226) rl (gM (s.1 226)) q w 200 = qV1 P Q (s.1 226) rl (gM (s.1 226)) q w j := by
          intro j hj hm2 hb
          have e1 : qF P Q (s.1 226) rl (gM (s.1 226)) q w (j + 1) = qV1 P Q (s.1 226) rl (gM (s.1 226)) q w j := by
            show (if 0 ≤ qF P Q (s.1 226) rl (gM (s.1 226)) q w j then _ else _) = _
            rw [hm2, if_neg (by decide), if_pos hb]
          rw [← e1, ← qF_stay (j := j + 1) (by rw [e1]; exact pos j hj hb) (200 - (j + 1)), show j + 1 + (200 - (j + 1)) = 200 by omega]
        have nfd : ∀ j, qF P Q (s.1 226) rl (gM (s.1 226)) q w j = -2 → bt (dr P Q (s.1 226) 0 (-1) rl (dn P Q (s.1 226) 0 (-1) rl j (gM (s.1 226)))) q = false → qF P Q (s.1 226) rl (gM (s.1 226)) q w (j + 1) = -2 := by
          intro j hm2 hb
          show (if 0 ≤ qF P Q (s.1 226) rl (gM (s.1 226)) q w j then _ else _) = _
          rw [hm2, if_neg (by decide), if_neg (by rw [hb]; simp)]
          exact hm2
        refine ⟨qF P Q (s.1 226) rl (gM (s.1 226)) q w 200, ?_, fun s' hs' => ?_⟩
        · simp only [zcl_s, cFree e3 hP hq, hW', ↓reduceIte, i10, cEi, hw, not_false_eq_true]
          have key : rt (f_Fore_nextRow (nI q) w s) (fun w_1 => w_1.1 = qF P Q (s.1 226) rl (gM (s.1 226)) q w 200 ∧ frm (fun b => 202 ≤ b ∧ b ≤ 215) s w_1.2) := by
            unfold f_Fore_nextRow
            refine rt_cv (c_res h2 h3 hA frm.rf) ?_
            rintro s1 ⟨g1, dd1, _, F1⟩
            refine lp_rt 200 (fun i a s2 => a = nI i ∧ gS 207 s2 = dn P Q (s.1 226) 0 (-1) rl i (gM (s.1 226)) ∧ frm tF s1 s2 ∧ qF P Q (s.1 226) rl (gM (s.1 226)) q w i = -2) (by omega) ⟨rfl, g1, frm.rf, rfl⟩ ?_ ?_
            · rintro i c s2 g hi ⟨rfl, j1, j2, j3⟩
              have hni : ¬ 200 ≤ i := by omega
              obtain ⟨⟨r, s3⟩, r3, q1, q2, q3, F⟩ := c_day (dd1.f j2) (by rw [j1]; exact zW_dn h3.1.cK hzw i)
              dsimp only at q1 q2 q3 F
              rw [j1] at q1 q2 q3
              unfold f_Fore_nextRow_B6
              by_cases hb : bt r q = true
              · right
                have hb' : bt (dr P Q (s.1 226) 0 (-1) rl (dn P Q (s.1 226) 0 (-1) rl i (gM (s.1 226)))) q = true := by rw [← q2]; exact hb
                have FF : frm (fun b => 202 ≤ b ∧ b ≤ 215) s s3 := F1.tr ((j2.tr F).sub (fun b hb => by unfold tF at hb; omega))
                rw [fnd i hi j3 hb']
                unfold qV1
                rcases hw with rfl | rfl
                · simp (disch := omega) only [zgi, zgl, zwi, zwf, zjn, zj0, zcl_s, zcv_s, zrd_n, zrl_n, zix_n, zwa_n, zwl_n, zI1, zI2, zL1, zL2, zR1, zR2, updE, updLE, zbl_0, zbl_1, nI_1, nI_add, nI_mulR, nI_leI, nI_ltI, nI_0le, nI_lt0, bvE, ↓reduceIte, Nat.reduceEqDiff, Nat.reduceLT, Nat.reduceAdd, Nat.reduceMul, reduceCtorEq, i10, i01, eq_self, or_true, true_or, false_or, or_false, not_true_eq_false, not_false_eq_true, if_true, if_false, l200, hni, r3, bv_0, hb, reduceCtorEq]
                  exact rt_s ⟨by dsimp only; rw [rD207, j1], FF⟩
                · simp (disch := omega) only [zgi, zgl, zwi, zwf, zjn, zj0, zcl_s, zcv_s, zrd_n, zrl_n, zix_n, zwa_n, zwl_n, zI1, zI2, zL1, zL2, zR1, zR2, updE, updLE, zbl_0, zbl_1, nI_1, nI_add, nI_mulR, nI_leI, nI_ltI, nI_0le, nI_lt0, bvE, ↓reduceIte, Nat.reduceEqDiff, Nat.reduceLT, Nat.reduceAdd, Nat.reduceMul, reduceCtorEq, i10, i01, eq_self, or_true, true_or, false_or, or_false, not_true_eq_false, not_false_eq_true, if_true, if_false, l200, hni, r3, bv_0, hb, reduceCtorEq]
                  exact rt_s ⟨q3 q (by omega) hb, FF⟩
              · left
                have hbf : bt r q = false := by simpa using hb
                simp (disch := omega) only [zgi, zgl, zwi, zwf, zjn, zj0, zcl_s, zcv_s, zrd_n, zrl_n, zix_n, zwa_n, zwl_n, zI1, zI2, zL1, zL2, zR1, zR2, updE, updLE, zbl_0, zbl_1, nI_1, nI_add, nI_mulR, nI_leI, nI_ltI, nI_0le, nI_lt0, bvE, ↓reduceIte, Nat.reduceEqDiff, Nat.reduceLT, Nat.reduceAdd, Nat.reduceMul, reduceCtorEq, i10, i01, eq_self, or_true, true_or, false_or, or_false, not_true_eq_false, not_false_eq_true, if_true, if_false, l200, hni, r3, bv_0, hbf]
                exact ⟨_, _, rfl, rfl, q1, j2.tr F, nfd i j3 (by rw [← q2]; exact hbf)⟩
            · rintro c s2 g ⟨rfl, j1, j2, j3⟩
              unfold f_Fore_nextRow_B6
              simp (disch := omega) only [zgi, zgl, zwi, zwf, zjn, zj0, zcl_s, zcv_s, zrd_n, zrl_n, zix_n, zwa_n, zwl_n, zI1, zI2, zL1, zL2, zR1, zR2, updE, updLE, zbl_0, zbl_1, nI_1, nI_add, nI_mulR, nI_leI, nI_ltI, nI_0le, nI_lt0, bvE, ↓reduceIte, Nat.reduceEqDiff, Nat.reduceLT, Nat.reduceAdd, Nat.reduceMul, reduceCtorEq, i10, i01, eq_self, or_true, true_or, false_or, or_false, not_true_eq_false, not_false_eq_true, if_true, if_false, l200, Nat.le_refl]
              exact rt_s ⟨j3.symm, F1.tr (j2.sub (fun b hb => by unfold tF at hb; omega))⟩
          exact rt_cl key (fun v s h => rt_s h)
        · have e226 : s'.1 226 = s.1 226 := hs' 226 (by omega)
          simp only [zcl_s, mBare (mc s' hs') hq, e226, hW, ↓reduceIte, i10, mIn01, hw, not_false_eq_true]
          refine rt_cv m_keeps ?_
          rintro s1 rfl
          have hB0 : dM P Q (s.1 226) 0 (-1) rl (zsR s' 229 (fun k => if k < 47 then s'.1 226 (10 + k) else s'.1 229 k)) := hB _ 0 (-1) (fun k hk => by rw [zR1, if_neg (by omega), e226]) (fun b hb => by rw [zR1, if_neg (by omega)]; exact hs' b (by omega)) (by rw [zR1, if_neg (by omega), hs' 216 (by omega)]) (by rw [zR1, if_neg (by omega), hs' 216 (by omega)]; exact h6) (by rw [zR1, if_neg (by omega), hs' 216 (by omega)]; exact h7)
          generalize hs1 : zsR s' 229 (fun k => if k < 47 then s'.1 226 (10 + k) else s'.1 229 k) = s1 at hB0 ⊢
          have k1 : ∀ j, j < 47 → s1.1 229 j = s.1 226 (10 + j) := fun j hj => by rw [← hs1, kept j hj, e226]
          have e1 : s1.1 226 = s.1 226 := by rw [← hs1, zR1, if_neg (by omega), e226]
          have E1 : ∀ b, b ≠ 229 → s1.1 b = s'.1 b := fun b hb => by rw [← hs1, zR1, if_neg hb]
          have lay : ∀ (s2 : ZS) (V : Int32), nM s1 s2 → rt (zcv (f_Model_laysBack s2) (fun (s18 : ZS) => some (V, s18))) (fun w => w.1 = V ∧ qM s' w.2) := by
            intro s2 V j3
            refine rt_cv (m_laysBack (M0 := s.1 226) (fun j hj => by rw [j3.1 229 (by omega)]; exact k1 j hj) (fun j hj => by rw [j3.2.2.2 j hj, e1])) ?_
            rintro s3 rfl
            refine rt_s ⟨rfl, fun b hb => ?_, fun j hj => ?_⟩
            · dsimp only; rw [zR1]
              by_cases hb2 : b = 226
              · rw [if_pos hb2, hb2, e226]
              · rw [if_neg hb2, j3.1 b (by omega), E1 b (by omega)]
            · dsimp only; rw [zR1, if_neg (by omega), j3.2.2.1 j (by omega), E1 216 (by omega)]
          simp only [zjn]
          refine lp_rt 200 (fun i a s2 => a.2 = nI i ∧ a.1 = qF P Q (s.1 226) rl (gM (s.1 226)) q w i ∧ (a.1 = -2 ∨ 0 ≤ a.1) ∧ (a.1 = -2 → gM (s2.1 226) = dn P Q (s.1 226) 0 (-1) rl i (gM (s.1 226))) ∧ nM s1 s2) (by omega) ⟨rfl, rfl, Or.inl rfl, fun _ => by rw [e1]; rfl, nM.rf⟩ ?_ ?_
          · rintro i ⟨ans, c⟩ s2 g hi ⟨j0, j1, j2, j3, j4⟩
            dsimp only at j0 j1 j2 j3
            subst j0
            have hni : ¬ 200 ≤ i := by omega
            unfold f_Model_quarrel_B30
            rcases j2 with j2 | j2
            · left
              obtain ⟨⟨r, s3⟩, r3, q1, q2, q3, F⟩ := m_day (hB0.n j4) (by rw [j3 j2]; exact zW_dn h3.1.cK hzw i)
              dsimp only at q1 q2 q3 F
              rw [j3 j2] at q1 q2 q3
              have jd : s2.1 226 10 = (dn P Q (s.1 226) 0 (-1) rl i (gM (s.1 226))).2.2.2.2.1 := by rw [qD, j3 j2]
              rw [j2] at j1
              by_cases hb : bt r q = true
              · have hb' : bt (dr P Q (s.1 226) 0 (-1) rl (dn P Q (s.1 226) 0 (-1) rl i (gM (s.1 226)))) q = true := by rw [← q2]; exact hb
                have e2 : qF P Q (s.1 226) rl (gM (s.1 226)) q w (i + 1) = qV1 P Q (s.1 226) rl (gM (s.1 226)) q w i := by
                  show (if 0 ≤ qF P Q (s.1 226) rl (gM (s.1 226)) q w i then _ else _) = _
                  rw [← j1, if_neg (by decide), if_pos hb']
                have ps := pos i hi hb'
                rcases hw with rfl | rfl
                · simp (disch := omega) only [zgi, zgl, zwi, zwf, zjn, zj0, zcl_s, zcv_s, zrd_n, zrl_n, zix_n, zwa_n, zwl_n, zI1, zI2, zL1, zL2, zR1, zR2, updE, updLE, zbl_0, zbl_1, nI_1, nI_add, nI_mulR, nI_leI, nI_ltI, nI_0le, nI_lt0, bvE, ↓reduceIte, Nat.reduceEqDiff, Nat.reduceLT, Nat.reduceAdd, Nat.reduceMul, reduceCtorEq, i10, i01, eq_self, or_true, true_or, false_or, or_false, not_true_eq_false, not_false_eq_true, if_true, if_false, l200, hni, j2, show ¬ (0 : Int32) ≤ -2 by decide, r3, mIsOf, hb, jd]
                  refine ⟨_, _, rfl, rfl, ?_, Or.inr ?_, fun e => ?_, j4.tr F⟩
                  · rw [e2]; unfold qV1; rw [if_pos rfl]
                  · unfold qV1 at ps; rw [if_pos rfl] at ps; exact ps
                  · exfalso; unfold qV1 at ps; rw [if_pos rfl] at ps; dsimp only at e; rw [e] at ps; exact absurd ps (by decide)
                · have rs : s3.1 227 q = ds P Q (s.1 226) 0 (-1) rl (dn P Q (s.1 226) 0 (-1) rl i (gM (s.1 226))) q := q3 q (by omega) hb
                  simp (disch := omega) only [zgi, zgl, zwi, zwf, zjn, zj0, zcl_s, zcv_s, zrd_n, zrl_n, zix_n, zwa_n, zwl_n, zI1, zI2, zL1, zL2, zR1, zR2, updE, updLE, zbl_0, zbl_1, nI_1, nI_add, nI_mulR, nI_leI, nI_ltI, nI_0le, nI_lt0, bvE, ↓reduceIte, Nat.reduceEqDiff, Nat.reduceLT, Nat.reduceAdd, Nat.reduceMul, reduceCtorEq, i10, i01, eq_self, or_true, true_or, false_or, or_false, not_true_eq_false, not_false_eq_true, if_true, if_false, l200, hni, j2, show ¬ (0 : Int32) ≤ -2 by decide, r3, mIsOf, hb, rs]
                  refine ⟨_, _, rfl, rfl, ?_, Or.inr ?_, fun e => ?_, j4.tr F⟩
                  · rw [e2]; unfold qV1; rw [if_neg (by decide)]
                  · unfold qV1 at ps; rw [if_neg (by decide)] at ps; exact ps
                  · exfalso; unfold qV1 at ps; rw [if_neg (by decide)] at ps; dsimp only at e; rw [e] at ps; exact absurd ps (by decide)
              · have hbf : bt r q = false := by simpa using hb
                simp (disch := omega) only [zgi, zgl, zwi, zwf, zjn, zj0, zcl_s, zcv_s, zrd_n, zrl_n, zix_n, zwa_n, zwl_n, zI1, zI2, zL1, zL2, zR1, zR2, updE, updLE, zbl_0, zbl_1, nI_1, nI_add, nI_mulR, nI_leI, nI_ltI, nI_0le, nI_lt0, bvE, ↓reduceIte, Nat.reduceEqDiff, Nat.reduceLT, Nat.reduceAdd, Nat.reduceMul, reduceCtorEq, i10, i01, eq_self, or_true, true_or, false_or, or_false, not_true_eq_false, not_false_eq_true, if_true, if_false, l200, hni, j2, show ¬ (0 : Int32) ≤ -2 by decide, r3, mIsOf, hb]
                exact ⟨_, _, rfl, rfl, (nfd i j1.symm (by rw [← q2]; exact hbf)).symm, Or.inl rfl, fun _ => q1, j4.tr F⟩
            · right
              simp (disch := omega) only [zgi, zgl, zwi, zwf, zjn, zj0, zcl_s, zcv_s, zrd_n, zrl_n, zix_n, zwa_n, zwl_n, zI1, zI2, zL1, zL2, zR1, zR2, updE, updLE, zbl_0, zbl_1, nI_1, nI_add, nI_mulR, nI_leI, nI_ltI, nI_0le, nI_lt0, bvE, ↓reduceIte, Nat.reduceEqDiff, Nat.reduceLT, Nat.reduceAdd, Nat.reduceMul, reduceCtorEq, i10, i01, eq_self, or_true, true_or, false_or, or_false, not_true_eq_false, not_false_eq_true, if_true, if_false, l200, hni, j2]
              have e2 : qF P Q (s.1 226) rl (gM (s.1 226)) q w 200 = ans := by
                rw [j1, ← qF_stay (j := i) (by rw [← j1]; exact j2) (200 - i), show i + (200 - i) = 200 by omega]
              rw [e2]
              exact lay s2 ans j4
          · rintro ⟨ans, c⟩ s2 g ⟨j0, j1, j2, j3, j4⟩
            dsimp only at j0 j1
            subst j0
            unfold f_Model_quarrel_B30
            simp (disch := omega) only [zgi, zgl, zwi, zwf, zjn, zj0, zcl_s, zcv_s, zrd_n, zrl_n, zix_n, zwa_n, zwl_n, zI1, zI2, zL1, zL2, zR1, zR2, updE, updLE, zbl_0, zbl_1, nI_1, nI_add, nI_mulR, nI_leI, nI_ltI, nI_0le, nI_lt0, bvE, ↓reduceIte, Nat.reduceEqDiff, Nat.reduceLT, Nat.reduceAdd, Nat.reduceMul, reduceCtorEq, i10, i01, eq_self, or_true, true_or, false_or, or_false, not_true_eq_false, not_false_eq_true, if_true, if_false, l200, Nat.le_refl]
            rw [← j1]
            exact lay s2 ans j4
      · refine ⟨-1, ?_, fun s' hs' => ?_⟩
        · simp only [zgi, zgl, zwi, zwf, zjn, zj0, zcl_s, zcv_s, zrd_n, zrl_n, zix_n, zwa_n, zwl_n, zI1, zI2, zL1, zL2, zR1, zR2, updE, updLE, zbl_0, zbl_1, nI_1, nI_add, nI_mulR, nI_leI, nI_ltI, nI_0le, nI_lt0, bvE, ↓reduceIte, Nat.reduceEqDiff, Nat.reduceLT, Nat.reduceAdd, Nat.reduceMul, reduceCtorEq, i10, i01, eq_self, or_true, true_or, false_or, or_false, not_true_eq_false, not_false_eq_true, if_true, if_false, cFree e3 hP hq, hW', cEi, hw]; exact rt_s ⟨rfl, frm.rf⟩
        · simp only [zgi, zgl, zwi, zwf, zjn, zj0, zcl_s, zcv_s, zrd_n, zrl_n, zix_n, zwa_n, zwl_n, zI1, zI2, zL1, zL2, zR1, zR2, updE, updLE, zbl_0, zbl_1, nI_1, nI_add, nI_mulR, nI_leI, nI_ltI, nI_0le, nI_lt0, bvE, ↓reduceIte, Nat.reduceEqDiff, Nat.reduceLT, Nat.reduceAdd, Nat.reduceMul, reduceCtorEq, i10, i01, eq_self, or_true, true_or, false_or, or_false, not_true_eq_false, not_false_eq_true, if_true, if_false, mBare (mc s' hs') hq, hs' 226 (show ¬ (202 ≤ 226 ∧ 226 ≤ 215) by omega), hW, mIn01, hw]; exact rt_s ⟨rfl, qM.rf⟩
    · have hW' : ¬ (gS 10 s).2.1 q = 0 := by rw [g]; exact hW
      refine ⟨-1, ?_, fun s' hs' => ?_⟩
      · simp only [zgi, zgl, zwi, zwf, zjn, zj0, zcl_s, zcv_s, zrd_n, zrl_n, zix_n, zwa_n, zwl_n, zI1, zI2, zL1, zL2, zR1, zR2, updE, updLE, zbl_0, zbl_1, nI_1, nI_add, nI_mulR, nI_leI, nI_ltI, nI_0le, nI_lt0, bvE, ↓reduceIte, Nat.reduceEqDiff, Nat.reduceLT, Nat.reduceAdd, Nat.reduceMul, reduceCtorEq, i10, i01, eq_self, or_true, true_or, false_or, or_false, not_true_eq_false, not_false_eq_true, if_true, if_false, cFree e3 hP hq, hW']; exact rt_s ⟨rfl, frm.rf⟩
      · simp only [zgi, zgl, zwi, zwf, zjn, zj0, zcl_s, zcv_s, zrd_n, zrl_n, zix_n, zwa_n, zwl_n, zI1, zI2, zL1, zL2, zR1, zR2, updE, updLE, zbl_0, zbl_1, nI_1, nI_add, nI_mulR, nI_leI, nI_ltI, nI_0le, nI_lt0, bvE, ↓reduceIte, Nat.reduceEqDiff, Nat.reduceLT, Nat.reduceAdd, Nat.reduceMul, reduceCtorEq, i10, i01, eq_self, or_true, true_or, false_or, or_false, not_true_eq_false, not_false_eq_true, if_true, if_false, mBare (mc s' hs') hq, hs' 226 (show ¬ (202 ≤ 226 ∧ 226 ≤ 215) by omega), hW]; exact rt_s ⟨rfl, qM.rf⟩
  · refine ⟨-1, ?_, fun s' hs' => ?_⟩
    · simp only [zgi, zgl, zwi, zwf, zjn, zj0, zcl_s, zcv_s, zrd_n, zrl_n, zix_n, zwa_n, zwl_n, zI1, zI2, zL1, zL2, zR1, zR2, updE, updLE, zbl_0, zbl_1, nI_1, nI_add, nI_mulR, nI_leI, nI_ltI, nI_0le, nI_lt0, bvE, ↓reduceIte, Nat.reduceEqDiff, Nat.reduceLT, Nat.reduceAdd, Nat.reduceMul, reduceCtorEq, i10, i01, eq_self, or_true, true_or, false_or, or_false, not_true_eq_false, not_false_eq_true, if_true, if_false, cFreeN e3 hn]; exact rt_s ⟨rfl, frm.rf⟩
    · simp only [zgi, zgl, zwi, zwf, zjn, zj0, zcl_s, zcv_s, zrd_n, zrl_n, zix_n, zwa_n, zwl_n, zI1, zI2, zL1, zL2, zR1, zR2, updE, updLE, zbl_0, zbl_1, nI_1, nI_add, nI_mulR, nI_leI, nI_ltI, nI_0le, nI_lt0, bvE, ↓reduceIte, Nat.reduceEqDiff, Nat.reduceLT, Nat.reduceAdd, Nat.reduceMul, reduceCtorEq, i10, i01, eq_self, or_true, true_or, false_or, or_false, not_true_eq_false, not_false_eq_true, if_true, if_false, mBareN (mc s' hs').2.2.1 hn]; exact rt_s ⟨rfl, qM.rf⟩
