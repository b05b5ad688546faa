/-! strike. -/
theorem br_cnt {C : Nat → Int32} {B : Nat → Bool} {z : ZT} {RS : Nat → Int32} : ∀ n, n ≤ 5 → ∃ c, c ≤ n ∧ (itr n (sBr1 C B) (z, 0, RS)).1.2.2.2.2.2 = z.2.2.2.2.2 + nI c ∧ (c = 0 ↔ (itr n (sBr1 C B) (z, 0, RS)).2.1 = 0) := by
  intro n
  induction n with
  | zero => intro _; exact ⟨0, by omega, (Int32.add_zero _).symm, fun _ => rfl, fun _ => rfl⟩
  | succ n ih =>
    intro hn
    obtain ⟨c, h1, h2, h3⟩ := ih (by omega)
    rw [itrS]
    generalize itr n (sBr1 C B) (z, 0, RS) = x at h2 h3 ⊢
    unfold sBr1
    split
    · refine ⟨c + 1, by omega, ?_, fun e => absurd e (by omega), fun e => ?_⟩
      · show x.1.2.2.2.2.2 + 1 = _
        rw [h2, Int32.add_assoc, nI_1]
      · exfalso
        have e2 : bt (x.2.1 ||| ((1 : Int32) <<< (nI n &&& 31))) n = true := by rw [bt_or, bt_one (by omega) (by omega)]; simp
        dsimp only at e
        rw [e, bt_zero (by omega)] at e2
        cases e2
    · exact ⟨c, by omega, h2, h3⟩
theorem say_cnt {P : Nat} {C : Nat → Int32} {hm : Int32} {z : ZT} {RS : Nat → Int32} {p q : Nat} (hP : P ≤ 5) : ∃ c, c ≤ 5 ∧ (sSay P C hm z RS p q).1.2.2.2.2.2 = z.2.2.2.2.2 + nI c ∧ (c = 0 ↔ (sSay P C hm z RS p q).2.1 = 0) := by
  unfold sSay sBr
  obtain ⟨c, h1, h2, h3⟩ := br_cnt (C := C) (B := fun o => sH C hm p z.2.1 o || decide (p = o)) (z := itr P (sHear (C (67 + q) / 2) (sH C hm p z.2.1)) (sSay0 C z p q)) (RS := RS) P hP
  refine ⟨c, by omega, ?_, h3⟩
  rw [h2, itr_sHear2]; rfl
theorem or0 {a b : Int32} (h : a ||| b = 0) : a = 0 := by
  have e : (a ||| b).toBitVec = 0#32 := by rw [h]; rfl
  apply Int32.toBitVec_inj.mp
  show a.toBitVec = 0#32
  have e2 : (a ||| b).toBitVec = a.toBitVec ||| b.toBitVec := rfl
  rw [e2] at e
  apply BitVec.eq_of_getLsbD_eq
  intro i hi
  have e3 := congrArg (fun v => BitVec.getLsbD v i) e
  simp only [BitVec.getLsbD_or] at e3
  cases ha : a.toBitVec.getLsbD i with
  | false => simp
  | true => rw [ha] at e3; simp at e3
theorem day1_cnt {P Q : Nat} {C : Nat → Int32} {st hm : Int32} {rl : ZRl} {z : ZT} {RS : Nat → Int32} (hP : P ≤ 5) : ∀ n, n ≤ 5 → ∃ c, c ≤ 5 * n ∧ (itr n (sDay1 P Q C st hm rl) (z, 0, RS)).1.2.2.2.2.2 = z.2.2.2.2.2 + nI c ∧ (c = 0 ↔ (itr n (sDay1 P Q C st hm rl) (z, 0, RS)).2.1 = 0) := by
  intro n
  induction n with
  | zero => intro _; exact ⟨0, by omega, (Int32.add_zero _).symm, fun _ => rfl, fun _ => rfl⟩
  | succ n ih =>
    intro hn
    obtain ⟨c, h1, h2, h3⟩ := ih (by omega)
    rw [itrS]
    generalize itr n (sDay1 P Q C st hm rl) (z, 0, RS) = x at h2 h3 ⊢
    unfold sDay1
    split
    · split
      · exact ⟨c, by omega, h2, h3⟩
      · generalize (sCh Q C st rl x.1 n).1.toNatClampNeg = q
        obtain ⟨c2, k1, k2, k3⟩ := say_cnt (C := C) (hm := hm) (z := x.1) (RS := x.2.2) (p := n) (q := q) hP
        refine ⟨c + c2, by omega, ?_, fun e => ?_, fun e => ?_⟩
        · dsimp only; rw [k2, h2, Int32.add_assoc, nI_add]
        · dsimp only; rw [h3.mp (by omega), k3.mp (by omega)]; decide
        · dsimp only at e
          have e1 := or0 e
          rw [e1, Int32.zero_or] at e
          have := h3.mpr e1; have := k3.mpr e; omega
    · exact ⟨c, by omega, h2, h3⟩
theorem dz_cnt {P Q : Nat} {C : Nat → Int32} {st hm : Int32} {rl : ZRl} {z : ZT} (hP : P ≤ 5) : ∃ c, c ≤ 25 ∧ (dz P Q C st hm rl z).2.2.2.2.2 = z.2.2.2.2.2 + nI c ∧ (c = 0 ↔ dr P Q C st hm rl z = 0) := by
  obtain ⟨c, h1, h2, h3⟩ := day1_cnt (Q := Q) (C := C) (st := st) (hm := hm) (rl := rl) (z := z) (RS := fun _ => 0) hP P hP
  refine ⟨c, by omega, ?_, h3⟩
  show (itr P (sWear C _) (itr P (sDay1 P Q C st hm rl) (z, 0, fun _ => 0)).1.2).2.2.2.2 = _
  rw [sWear_day]; exact h2
/-- n quiet days -/
def quiet (P Q : Nat) (C : Nat → Int32) (rl : ZRl) (z : ZT) (n set : Nat) : Prop := ∀ i, i < n → dr P Q C (nI set) (-1) rl (dn P Q C (nI set) (-1) rl i z) = 0
theorem dn_cnt {P Q : Nat} {C : Nat → Int32} {rl : ZRl} {z : ZT} {set : Nat} (hP : P ≤ 5) : ∀ n, ∃ c, c ≤ 25 * n ∧ (dn P Q C (nI set) (-1) rl n z).2.2.2.2.2 = z.2.2.2.2.2 + nI c ∧ (c = 0 ↔ quiet P Q C rl z n set) := by
  intro n
  induction n with
  | zero => exact ⟨0, by omega, (Int32.add_zero _).symm, fun _ i hi => absurd hi (by omega), fun _ => rfl⟩
  | succ n ih =>
    obtain ⟨c, h1, h2, h3⟩ := ih
    obtain ⟨c2, k1, k2, k3⟩ := dz_cnt (Q := Q) (C := C) (st := nI set) (hm := -1) (rl := rl) (z := dn P Q C (nI set) (-1) rl n z) hP
    refine ⟨c + c2, by omega, ?_, fun e => ?_, fun e => ?_⟩
    · show (dz P Q C (nI set) (-1) rl (dn P Q C (nI set) (-1) rl n z)).2.2.2.2.2 = _
      rw [k2, h2, Int32.add_assoc, nI_add]
    · intro i hi
      by_cases e2 : i = n
      · rw [e2]; exact k3.mp (by omega)
      · exact h3.mp (by omega) i (by omega)
    · have e1 := h3.mpr (fun i hi => e i (by omega))
      have e2 := k3.mpr (e n (by omega))
      omega
theorem rows0 {P Q : Nat} {C : Nat → Int32} {rl : ZRl} {z : ZT} {set n : Nat} (hP : P ≤ 5) (hn : n ≤ 1000) : (dn P Q C (nI set) (-1) rl n z).2.2.2.2.2 - z.2.2.2.2.2 = 0 ↔ quiet P Q C rl z n set := by
  obtain ⟨c, h1, h2, h3⟩ := dn_cnt (Q := Q) (C := C) (rl := rl) (z := z) (set := set) hP n
  rw [h2, Int32.add_comm, Int32.add_sub_cancel, nI_eq0 (by omega)]
  exact h3
/-- all struck: quiet -/
theorem quiet_all {P Q : Nat} {C : Nat → Int32} {rl : ZRl} {z : ZT} {n : Nat} (hQ : Q ≤ 6) : quiet P Q C rl z n (2 ^ Q - 1) := by
  have hb : ∀ q, q < Q → bt (nI (2 ^ Q - 1)) q = true := (show ∀ Q, Q ≤ 6 → ∀ q, q < Q → bt (nI (2 ^ Q - 1)) q = true by decide) Q hQ
  have hch : ∀ (z : ZT) (p : Nat), (sCh Q C (nI (2 ^ Q - 1)) rl z p).1 = -1 := by
    intro z p
    unfold sCh
    have : ∀ k, k ≤ Q → itr k (sCh1 C (nI (2 ^ Q - 1)) rl z p) (-1, 0) = (-1, 0) := by
      intro k
      induction k with
      | zero => intro _; rfl
      | succ k ih => intro hk; rw [itrS, ih (by omega)]; unfold sCh1; rw [if_pos (hb k (by omega))]
    rw [this Q (Nat.le_refl _)]
  intro i _
  generalize dn P Q C (nI (2 ^ Q - 1)) (-1) rl i z = y
  show (itr P (sDay1 P Q C (nI (2 ^ Q - 1)) (-1) rl) (y, 0, fun _ => 0)).2.1 = 0
  have : ∀ k, itr k (sDay1 P Q C (nI (2 ^ Q - 1)) (-1) rl) (y, 0, fun _ => 0) = (y, 0, fun _ => 0) := by
    intro k
    induction k with
    | zero => rfl
    | succ k ih =>
      rw [itrS, ih]; unfold sDay1
      split
      · rw [if_pos (hch _ _)]
      · rfl
  rw [this P]
def pcn (k : Nat) : Nat := (if k % 2 = 1 then 1 else 0) + (if k / 2 % 2 = 1 then 1 else 0) + (if k / 4 % 2 = 1 then 1 else 0) + (if k / 8 % 2 = 1 then 1 else 0) + (if k / 16 % 2 = 1 then 1 else 0) + (if k / 32 % 2 = 1 then 1 else 0)
theorem pc_n : ∀ k, k < 64 → pc (nI k) = nI (pcn k) := by decide +kernel
theorem pcn_all : ∀ Q, Q ≤ 6 → ∀ k, k < 2 ^ Q → pcn k ≤ Q ∧ (Q ≤ pcn k → k = 2 ^ Q - 1) := by decide +kernel
theorem pcn6 (k : Nat) : pcn k ≤ 6 := by
  unfold pcn
  repeat' split
  all_goals omega
theorem shl_n : ∀ Q, Q ≤ 6 → (1 : Int32) <<< (nI Q &&& 31) = nI (2 ^ Q) := by decide +kernel
/-- of the quiet sets the one of the fewest, of several the least -/
def isB (P Q : Nat) (C : Nat → Int32) (rl : ZRl) (z : ZT) (n b : Nat) : Prop := b < 2 ^ Q ∧ quiet P Q C rl z n b ∧ ∀ s, s < 2 ^ Q → quiet P Q C rl z n s → pcn b < pcn s ∨ pcn b = pcn s ∧ b ≤ s
theorem isB_u {P Q : Nat} {C : Nat → Int32} {rl : ZRl} {z : ZT} {n b b' : Nat} (h : isB P Q C rl z n b) (h' : isB P Q C rl z n b') : b = b' := by
  have h1 := h.2.2 b' h'.1 h'.2.1
  have h2 := h'.2.2 b h.1 h.2.1
  omega
theorem st_strike (p w : Int32) : stp (f_Ring_strike p w) (f_Model_strike p w) := by
  refine stq (fun s hR => ?_)
  obtain ⟨R, P, Q, h1, h2, h3, h4, h5, h6, h7⟩ := id hR
  have hP := h3.1.1
  have hQ := h3.1.2.1
  have hzw := h3.2.2.2.1.1.zW
  obtain ⟨rl, hA, hB⟩ := ctx h2 h3
  have hin : ∀ s' : ZS, f_Model_in p.toInt64 1 30 s' = some (if (1 : Int32) ≤ p ∧ p ≤ 30 then 1 else 0, s') := fun s' => mIn (by decide) (by decide)
  have h64 : 2 ^ Q ≤ 64 := (show ∀ Q, Q ≤ 6 → 2 ^ Q ≤ 64 by decide) Q hQ
  have h2p : 0 < 2 ^ Q := Nat.pos_of_ne_zero (by simp)
  unfold f_Ring_strike f_Model_strike
  rcases told_c h3 with ⟨c0, m0⟩ | ⟨c0, m0⟩
  · refine ⟨-1, ?_, fun s' hs' => ?_⟩
    · simp only [zgi, zgl, zwi, zwf, zjn, zj0, zcl_s, zcv_s, zrd_n, zrl_n, zix_n, zwa_n, zwl_n, zI1, zI2, zL1, zL2, zR1, zR2, updE, updLE, zbl_0, zbl_1, nI_1, nI_add, nI_mulR, nI_leI, nI_ltI, nI_0le, nI_lt0, bvE, ↓reduceIte, Nat.reduceEqDiff, Nat.reduceLT, Nat.reduceAdd, Nat.reduceMul, reduceCtorEq, i10, i01, eq_self, or_true, true_or, false_or, or_false, not_true_eq_false, not_false_eq_true, if_true, if_false, c0]; exact rt_s ⟨rfl, frm.rf⟩
    · have m0' : s'.1 226 0 = 0 := by rw [hs' 226 (by omega)]; exact m0
      simp only [zgi, zgl, zwi, zwf, zjn, zj0, zcl_s, zcv_s, zrd_n, zrl_n, zix_n, zwa_n, zwl_n, zI1, zI2, zL1, zL2, zR1, zR2, updE, updLE, zbl_0, zbl_1, nI_1, nI_add, nI_mulR, nI_leI, nI_ltI, nI_0le, nI_lt0, bvE, ↓reduceIte, Nat.reduceEqDiff, Nat.reduceLT, Nat.reduceAdd, Nat.reduceMul, reduceCtorEq, i10, i01, eq_self, or_true, true_or, false_or, or_false, not_true_eq_false, not_false_eq_true, if_true, if_false, m_isSmithy, m0']; exact rt_s ⟨rfl, qM.rf⟩
  · rcases nIn p 1 30 (by omega) (by omega) with ⟨n, n1, n2, rfl⟩ | hno
    · have hp := i01le ⟨n1, n2⟩
      have a1 : ¬ nI n < 1 := Int32.not_lt.mpr hp.1
      have a2 : ¬ (30 : Int32) < nI n := Int32.not_lt.mpr hp.2
      by_cases hw : w = 0 ∨ w = 1
      · -- the class finds such a set
        have cq : ∀ (s1 : ZS) (set : Nat), frm (fun b => 202 ≤ b ∧ b ≤ 215) s s1 → rt (f_Fore_staysQuiet (nI set) (nI n) s1) (fun w => (w.1 = 1 ∧ quiet P Q (s.1 226) rl (gM (s.1 226)) n set ∨ w.1 = 0 ∧ ¬ quiet P Q (s.1 226) rl (gM (s.1 226)) n set) ∧ frm (fun b => 202 ≤ b ∧ b ≤ 215) s w.2) := by
          intro s1 set F
          unfold f_Fore_staysQuiet
          refine rt_cv (c_res h2 h3 hA F) ?_
          rintro s2 ⟨g2, d2, e2, F2⟩
          simp only [zwi]
          have d3 : dC P Q (s.1 226) (nI set) (-1) rl (zsI s2 202 6 (nI set)) := hA _ (nI set) (-1) (fun b hb => by rw [zI1, if_neg (by omega)]; exact F2.1 b (by omega)) (by rw [zI1, if_pos rfl, updE, if_neg (by omega)]; exact e2) (by rw [zI1, if_pos rfl, updE, if_pos rfl]) (by rw [zI1, if_pos rfl, updE, if_neg (by omega)]; exact d2.2.2.2.1) (Or.inl rfl)
          have g3 : gS 207 (zsI s2 202 6 (nI set)) = gM (s.1 226) := by rw [gS207_o (by omega)]; exact g2
          have F3 : frm (fun b => 202 ≤ b ∧ b ≤ 215) s (zsI s2 202 6 (nI set)) := F2.I (by omega)
          generalize zsI s2 202 6 (nI set) = s3 at d3 g3 F3 ⊢
          refine lp_rt n (fun i a s4 => a = nI i ∧ gS 207 s4 = dn P Q (s.1 226) (nI set) (-1) rl i (gM (s.1 226)) ∧ frm tF s3 s4 ∧ quiet P Q (s.1 226) rl (gM (s.1 226)) i set) (by omega) ⟨rfl, g3, frm.rf, fun i hi => absurd hi (by omega)⟩ ?_ ?_
          · rintro i c s4 g hi ⟨rfl, j1, j2, j3⟩
            have hni : ¬ n ≤ i := by omega
            obtain ⟨⟨r, s5⟩, r5, q1, q2, q3, F5⟩ := c_day (d3.f j2) (by rw [j1]; exact zW_dn h3.1.cK hzw i)
            dsimp only at q1 q2 F5
            rw [j1] at q1 q2
            unfold f_Fore_staysQuiet_B14
            by_cases hr : r = 0
            · left
              simp (disch := omega) only [zgi, zgl, zwi, zwf, zjn, zj0, zcl_s, zcv_s, zrd_n, zrl_n, zix_n, zwa_n, zwl_n, zI1, zI2, zL1, zL2, zR1, zR2, updE, updLE, zbl_0, zbl_1, nI_1, nI_add, nI_mulR, nI_leI, nI_ltI, nI_0le, nI_lt0, bvE, ↓reduceIte, Nat.reduceEqDiff, Nat.reduceLT, Nat.reduceAdd, Nat.reduceMul, reduceCtorEq, i10, i01, eq_self, or_true, true_or, false_or, or_false, not_true_eq_false, not_false_eq_true, if_true, if_false, hni, r5, hr]
              refine ⟨_, _, rfl, rfl, q1, j2.tr F5, fun k hk => ?_⟩
              by_cases e : k = i
              · rw [e, ← q2]; exact hr
              · exact j3 k (by omega)
            · right
              simp (disch := omega) only [zgi, zgl, zwi, zwf, zjn, zj0, zcl_s, zcv_s, zrd_n, zrl_n, zix_n, zwa_n, zwl_n, zI1, zI2, zL1, zL2, zR1, zR2, updE, updLE, zbl_0, zbl_1, nI_1, nI_add, nI_mulR, nI_leI, nI_ltI, nI_0le, nI_lt0, bvE, ↓reduceIte, Nat.reduceEqDiff, Nat.reduceLT, Nat.reduceAdd, Nat.reduceMul, reduceCtorEq, i10, i01, eq_self, or_true, true_or, false_or, or_false, not_true_eq_false, not_false_eq_true, if_true, if_false, hni, r5, hr]
              exact rt_s ⟨Or.inr ⟨rfl, fun e => hr (by rw [q2]; exact e i hi)⟩, F3.tr ((j2.tr F5).sub (fun b hb => by unfold tF at hb; omega))⟩
          · rintro c s4 g ⟨rfl, j1, j2, j3⟩
            unfold f_Fore_staysQuiet_B14
            simp (disch := omega) only [zgi, zgl, zwi, zwf, zjn, zj0, zcl_s, zcv_s, zrd_n, zrl_n, zix_n, zwa_n, zwl_n, zI1, zI2, zL1, zL2, zR1, zR2, updE, updLE, zbl_0, zbl_1, nI_1, nI_add, nI_mulR, nI_leI, nI_ltI, nI_0le, nI_lt0, bvE, ↓reduceIte, Nat.reduceEqDiff, Nat.reduceLT, Nat.reduceAdd, Nat.reduceMul, reduceCtorEq, i10, i01, eq_self, or_true, true_or, false_or, or_false, not_true_eq_false, not_false_eq_true, if_true, if_false, Nat.le_refl]
            exact rt_s ⟨Or.inl ⟨rfl, j3⟩, F3.tr (j2.sub (fun b hb => by unfold tF at hb; omega))⟩
        have cl : rt (f_Fore_leastStruck (nI n) s) (fun w => ∃ b, w.1 = nI b ∧ isB P Q (s.1 226) rl (gM (s.1 226)) n b ∧ frm (fun b => 202 ≤ b ∧ b ≤ 215) s w.2) := by
          have e4 : s.1 4 4 = nI Q := h3.cC.2.2.2.1
          unfold f_Fore_leastStruck
          simp only [zgi, e4]
          refine lp_rt Q (fun m a s1 => a = nI m ∧ frm (fun b => 202 ≤ b ∧ b ≤ 215) s s1 ∧ ∀ t, t < 2 ^ Q → pcn t < m → ¬ quiet P Q (s.1 226) rl (gM (s.1 226)) n t) (by omega) ⟨rfl, frm.rf, fun t _ h => absurd h (by omega)⟩ ?_ ?_
          · rintro m c s1 g hm ⟨rfl, F1, j1⟩
            have hni : ¬ Q ≤ m := by omega
            have e4' : s1.1 4 4 = nI Q := by rw [F1.1 4 (by omega)]; exact e4
            have inn : (∃ s2, f_Fore_leastStruck_B17 (nI n) (nI Q) (nI m) s1 g = g (nI (m + 1)) s2 ∧ frm (fun b => 202 ≤ b ∧ b ≤ 215) s s2 ∧ ∀ t, t < 2 ^ Q → pcn t = m → ¬ quiet P Q (s.1 226) rl (gM (s.1 226)) n t) ∨ rt (f_Fore_leastStruck_B17 (nI n) (nI Q) (nI m) s1 g) (fun w => ∃ b, w.1 = nI b ∧ isB P Q (s.1 226) rl (gM (s.1 226)) n b ∧ frm (fun b => 202 ≤ b ∧ b ≤ 215) s w.2) := by
              unfold f_Fore_leastStruck_B17
              simp (disch := omega) only [zgi, zj0, e4', nI_leI, hni, ↓reduceIte, nI_1]
              refine lp_go (n := 2 ^ Q) (fun t a s2 => a = nI t ∧ frm (fun b => 202 ≤ b ∧ b ≤ 215) s s2 ∧ ∀ t', t' < t → pcn t' = m → ¬ quiet P Q (s.1 226) rl (gM (s.1 226)) n t') (fun o => (∃ s2, o = g (nI (m + 1)) s2 ∧ frm (fun b => 202 ≤ b ∧ b ≤ 215) s s2 ∧ ∀ t, t < 2 ^ Q → pcn t = m → ¬ quiet P Q (s.1 226) rl (gM (s.1 226)) n t) ∨ rt o (fun w => ∃ b, w.1 = nI b ∧ isB P Q (s.1 226) rl (gM (s.1 226)) n b ∧ frm (fun b => 202 ≤ b ∧ b ≤ 215) s w.2)) (by omega) ⟨rfl, F1, fun t' h => absurd h (by omega)⟩ ?_ ?_
              · rintro t c s2 g2 ht ⟨rfl, F2, j2⟩
                have hlt : ¬ nI (2 ^ Q) - 1 < nI t := by rw [nI_sub1 _ h2p, nI_ltI (by omega) (by omega)]; omega
                unfold f_Fore_leastStruck_B34
                by_cases hpc : pcn t = m
                · obtain ⟨⟨v, s3⟩, r3, q3, F3⟩ := cq s2 t F2
                  dsimp only at q3 F3
                  rcases q3 with ⟨rfl, q3⟩ | ⟨rfl, q3⟩
                  · right; right
                    simp (disch := omega) only [zgi, zgl, zwi, zwf, zjn, zj0, zcl_s, zcv_s, zrd_n, zrl_n, zix_n, zwa_n, zwl_n, zI1, zI2, zL1, zL2, zR1, zR2, updE, updLE, zbl_0, zbl_1, nI_1, nI_add, nI_mulR, nI_leI, nI_ltI, nI_0le, nI_lt0, bvE, ↓reduceIte, Nat.reduceEqDiff, Nat.reduceLT, Nat.reduceAdd, Nat.reduceMul, reduceCtorEq, i10, i01, eq_self, or_true, true_or, false_or, or_false, not_true_eq_false, not_false_eq_true, if_true, if_false, shl_n Q hQ, hlt, pcE, pc_n t (by omega), nI_inj, hpc, r3]
                    refine rt_s ⟨t, rfl, ⟨ht, q3, fun u hu hq => ?_⟩, F3⟩
                    have c1 : ¬ pcn u < m := fun e => j1 u hu e hq
                    by_cases c2 : pcn u = m
                    · right; refine ⟨by omega, ?_⟩
                      have c3 : ¬ u < t := fun e => j2 u e c2 hq
                      omega
                    · left; omega
                  · left
                    simp (disch := omega) only [zgi, zgl, zwi, zwf, zjn, zj0, zcl_s, zcv_s, zrd_n, zrl_n, zix_n, zwa_n, zwl_n, zI1, zI2, zL1, zL2, zR1, zR2, updE, updLE, zbl_0, zbl_1, nI_1, nI_add, nI_mulR, nI_leI, nI_ltI, nI_0le, nI_lt0, bvE, ↓reduceIte, Nat.reduceEqDiff, Nat.reduceLT, Nat.reduceAdd, Nat.reduceMul, reduceCtorEq, i10, i01, eq_self, or_true, true_or, false_or, or_false, not_true_eq_false, not_false_eq_true, if_true, if_false, shl_n Q hQ, hlt, pcE, pc_n t (by omega), nI_inj, hpc, r3]
                    refine ⟨_, _, rfl, rfl, F3, fun t' ht' hp' => ?_⟩
                    by_cases e : t' = t
                    · rw [e]; exact q3
                    · exact j2 t' (by omega) hp'
                · left
                  have p6 := pcn6 t
                  simp (disch := omega) only [zgi, zgl, zwi, zwf, zjn, zj0, zcl_s, zcv_s, zrd_n, zrl_n, zix_n, zwa_n, zwl_n, zI1, zI2, zL1, zL2, zR1, zR2, updE, updLE, zbl_0, zbl_1, nI_1, nI_add, nI_mulR, nI_leI, nI_ltI, nI_0le, nI_lt0, bvE, ↓reduceIte, Nat.reduceEqDiff, Nat.reduceLT, Nat.reduceAdd, Nat.reduceMul, reduceCtorEq, i10, i01, eq_self, or_true, true_or, false_or, or_false, not_true_eq_false, not_false_eq_true, if_true, if_false, shl_n Q hQ, hlt, pcE, pc_n t (by omega), nI_inj, hpc]
                  refine ⟨_, _, rfl, rfl, F2, fun t' ht' hp' => ?_⟩
                  by_cases e : t' = t
                  · rw [e] at hp'; exact absurd hp' hpc
                  · exact j2 t' (by omega) hp'
              · rintro c s2 g2 ⟨rfl, F2, j2⟩
                left
                have hlt : nI (2 ^ Q) - 1 < nI (2 ^ Q) := by rw [nI_sub1 _ h2p, nI_ltI (by omega) (by omega)]; omega
                unfold f_Fore_leastStruck_B34
                simp (disch := omega) only [shl_n Q hQ, hlt, ↓reduceIte]
                exact ⟨s2, rfl, F2, j2⟩
            rcases inn with ⟨s2, e, F2, j2⟩ | h
            · left
              refine ⟨_, s2, e, rfl, F2, fun t ht hp hq => ?_⟩
              by_cases e2 : pcn t = m
              · exact j2 t ht e2 hq
              · exact j1 t ht (by omega) hq
            · exact Or.inr h
          · rintro c s1 g ⟨rfl, F1, j1⟩
            have e4' : s1.1 4 4 = nI Q := by rw [F1.1 4 (by omega)]; exact e4
            unfold f_Fore_leastStruck_B17
            simp (disch := omega) only [zgi, zj0, e4', nI_leI, Nat.le_refl, ↓reduceIte, shl_n Q hQ]
            refine rt_s ⟨2 ^ Q - 1, nI_sub1 _ h2p, ⟨by omega, quiet_all hQ, fun t ht hq => ?_⟩, F1⟩
            obtain ⟨x1, x2⟩ := pcn_all Q hQ t ht
            obtain ⟨y1, y2⟩ := pcn_all Q hQ (2 ^ Q - 1) (by omega)
            have c1 : ¬ pcn t < Q := fun e => j1 t ht e hq
            have := x2 (by omega)
            omega
        obtain ⟨⟨v, sC⟩, rC, b, vb, hb, FC⟩ := cl
        dsimp only at vb FC
        have hb64 : b < 64 := by have := hb.1; omega
        refine ⟨if w = 0 then pc (nI b) else nI b, ?_, fun s' hs' => ?_⟩
        · simp only [zgi, zcl_s, c0, i10, ↓reduceIte, a1, a2, cEi, hw, not_false_eq_true, rC]
          rw [vb]
          by_cases w0 : w = 0
          · simp only [w0, not_true_eq_false, ↓reduceIte, pcE, zcl_s]; exact rt_s ⟨rfl, FC⟩
          · simp only [w0, not_false_eq_true, ↓reduceIte]; exact rt_s ⟨rfl, FC⟩
        · have e226 : s'.1 226 = s.1 226 := hs' 226 (by omega)
          have m0' : s'.1 226 0 = 1 := by rw [e226]; exact m0
          simp only [zcl_s, m_isSmithy, m0', i10, ↓reduceIte, hin, hp, and_self, mIn01, hw, not_false_eq_true]
          refine rt_cv m_keeps ?_
          rintro s1 rfl
          generalize hs1 : zsR s' 229 (fun k => if k < 47 then s'.1 226 (10 + k) else s'.1 229 k) = s1
          have k1 : ∀ k, k < 47 → s1.1 229 k = s.1 226 (10 + k) := fun k hk => by rw [← hs1, kept k hk, e226]
          have e1 : s1.1 226 = s.1 226 := by rw [← hs1, zR1, if_neg (by omega), e226]
          have E1 : ∀ b, b ≠ 229 → s1.1 b = s'.1 b := fun b hb => by rw [← hs1, zR1, if_neg hb]
          simp only [zjn]
          refine lp_rt (2 ^ Q) (fun i a s3 => a.2 = nI i ∧ (a.1 = -1 ∧ (∀ t, t < i → ¬ quiet P Q (s.1 226) rl (gM (s.1 226)) n t) ∨ ∃ b', a.1 = nI b' ∧ b' < i ∧ quiet P Q (s.1 226) rl (gM (s.1 226)) n b' ∧ ∀ t, t < i → quiet P Q (s.1 226) rl (gM (s.1 226)) n t → pcn b' < pcn t ∨ pcn b' = pcn t ∧ b' ≤ t) ∧ s3.1 226 = s.1 226 ∧ (∀ b, ¬ (b = 216 ∨ 226 ≤ b ∧ b ≤ 227) → s3.1 b = s1.1 b) ∧ (∀ j, j ≠ 18 → j ≠ 23 → s3.1 216 j = s1.1 216 j)) (by omega) ⟨rfl, Or.inl ⟨rfl, fun t h => absurd h (by omega)⟩, e1, fun _ _ => rfl, fun _ _ _ => rfl⟩ ?_ ?_
          · rintro i ⟨best, c⟩ s3 g hi ⟨j0, j1, j2, j3, j4⟩
            left
            dsimp only at j0 j1
            subst j0
            have m4 : s3.1 226 4 = nI Q := by rw [j2]; exact h3.cM.2.2.2.1
            have hle : ¬ nI (2 ^ Q) ≤ nI i := by rw [nI_leI (by omega) (by omega)]; omega
            have dB : dM P Q (s.1 226) (nI i) (-1) rl (zsI s3 216 23 (nI i)) := hB _ (nI i) (-1) (fun k hk => by rw [zI1, if_neg (by omega), j2]) (fun b hb => by rw [zI1, if_neg (by omega), j3 b (by omega), E1 b (by omega)]; exact hs' b (by omega)) (by rw [zI1, if_pos rfl, updE, if_neg (by omega), j4 21 (by omega) (by omega), E1 216 (by omega), hs' 216 (by omega)]) (by rw [zI1, if_pos rfl, updE, if_pos rfl]) (by rw [zI1, if_pos rfl, updE, if_neg (by omega), j4 24 (by omega) (by omega), E1 216 (by omega), hs' 216 (by omega)]; exact h7)
            obtain ⟨⟨v6, s6⟩, r6, v6e, e6, o6⟩ := m_rowsIn (n := n) (M0 := s.1 226) (by omega) dB (by rw [zI1, if_neg (by omega), j2]; exact hzw) (fun k hk => by rw [zI1, if_neg (by omega), j3 229 (by omega)]; exact k1 k hk) (fun k hk => by rw [zI1, if_neg (by omega), j2])
            dsimp only at v6e e6 o6
            rw [show (zsI s3 216 23 (nI i)).1 226 = s3.1 226 from rfl, j2] at v6e
            have hq : v6 = 0 ↔ quiet P Q (s.1 226) rl (gM (s.1 226)) n i := by rw [v6e]; exact rows0 hP (by omega)
            have j3' : ∀ b, ¬ (b = 216 ∨ 226 ≤ b ∧ b ≤ 227) → s6.1 b = s1.1 b := fun b hb => by rw [o6.1 b hb, zI1, if_neg (by omega), j3 b hb]
            have j4' : ∀ j, j ≠ 18 → j ≠ 23 → s6.1 216 j = s1.1 216 j := fun j x1 x2 => by rw [o6.2.1 j x1, zI1, if_pos rfl, updE, if_neg x2, j4 j x1 x2]
            unfold f_Model_strike_B40
            rcases j1 with ⟨rfl, j1⟩ | ⟨b', rfl, b1, b2, b3⟩
            · by_cases hv : v6 = 0
              · simp (disch := omega) only [zgi, zgl, zwi, zwf, zjn, zj0, zcl_s, zcv_s, zrd_n, zrl_n, zix_n, zwa_n, zwl_n, zI1, zI2, zL1, zL2, zR1, zR2, updE, updLE, zbl_0, zbl_1, nI_1, nI_add, nI_mulR, nI_leI, nI_ltI, nI_0le, nI_lt0, bvE, ↓reduceIte, Nat.reduceEqDiff, Nat.reduceLT, Nat.reduceAdd, Nat.reduceMul, reduceCtorEq, i10, i01, eq_self, or_true, true_or, false_or, or_false, not_true_eq_false, not_false_eq_true, if_true, if_false, m4, shl_n Q hQ, hle, n1lt, r6, hv]
                refine ⟨_, _, rfl, rfl, Or.inr ⟨i, rfl, by omega, hq.mp hv, fun t ht hqt => ?_⟩, e6, j3', j4'⟩
                by_cases e : t = i
                · right; rw [e]; exact ⟨rfl, Nat.le_refl _⟩
                · exact absurd hqt (j1 t (by omega))
              · simp (disch := omega) only [zgi, zgl, zwi, zwf, zjn, zj0, zcl_s, zcv_s, zrd_n, zrl_n, zix_n, zwa_n, zwl_n, zI1, zI2, zL1, zL2, zR1, zR2, updE, updLE, zbl_0, zbl_1, nI_1, nI_add, nI_mulR, nI_leI, nI_ltI, nI_0le, nI_lt0, bvE, ↓reduceIte, Nat.reduceEqDiff, Nat.reduceLT, Nat.reduceAdd, Nat.reduceMul, reduceCtorEq, i10, i01, eq_self, or_true, true_or, false_or, or_false, not_true_eq_false, not_false_eq_true, if_true, if_false, m4, shl_n Q hQ, hle, n1lt, r6, hv]
                refine ⟨_, _, rfl, rfl, Or.inl ⟨rfl, fun t ht hqt => ?_⟩, e6, j3', j4'⟩
                by_cases e : t = i
                · exact hv (hq.mpr (by rw [← e]; exact hqt))
                · exact j1 t (by omega) hqt
            · have p1 := pcn6 i
              have p2 := pcn6 b'
              by_cases hlt : pcn i < pcn b'
              · by_cases hv : v6 = 0
                · simp (disch := omega) only [zgi, zgl, zwi, zwf, zjn, zj0, zcl_s, zcv_s, zrd_n, zrl_n, zix_n, zwa_n, zwl_n, zI1, zI2, zL1, zL2, zR1, zR2, updE, updLE, zbl_0, zbl_1, nI_1, nI_add, nI_mulR, nI_leI, nI_ltI, nI_0le, nI_lt0, bvE, ↓reduceIte, Nat.reduceEqDiff, Nat.reduceLT, Nat.reduceAdd, Nat.reduceMul, reduceCtorEq, i10, i01, eq_self, or_true, true_or, false_or, or_false, not_true_eq_false, not_false_eq_true, if_true, if_false, m4, shl_n Q hQ, hle, m_bits (show i < 64 by omega), m_bits (show b' < 64 by omega), pc_n i (by omega), pc_n b' (by omega), hlt, r6, hv]
                  refine ⟨_, _, rfl, rfl, Or.inr ⟨i, rfl, by omega, hq.mp hv, fun t ht hqt => ?_⟩, e6, j3', j4'⟩
                  by_cases e : t = i
                  · right; rw [e]; exact ⟨rfl, Nat.le_refl _⟩
                  · have := b3 t (by omega) hqt; omega
                · simp (disch := omega) only [zgi, zgl, zwi, zwf, zjn, zj0, zcl_s, zcv_s, zrd_n, zrl_n, zix_n, zwa_n, zwl_n, zI1, zI2, zL1, zL2, zR1, zR2, updE, updLE, zbl_0, zbl_1, nI_1, nI_add, nI_mulR, nI_leI, nI_ltI, nI_0le, nI_lt0, bvE, ↓reduceIte, Nat.reduceEqDiff, Nat.reduceLT, Nat.reduceAdd, Nat.reduceMul, reduceCtorEq, i10, i01, eq_self, or_true, true_or, false_or, or_false, not_true_eq_false, not_false_eq_true, if_true, if_false, m4, shl_n Q hQ, hle, m_bits (show i < 64 by omega), m_bits (show b' < 64 by omega), pc_n i (by omega), pc_n b' (by omega), hlt, r6, hv]
                  refine ⟨_, _, rfl, rfl, Or.inr ⟨b', rfl, by omega, b2, fun t ht hqt => ?_⟩, e6, j3', j4'⟩
                  by_cases e : t = i
                  · exact absurd (hq.mpr (by rw [← e]; exact hqt)) hv
                  · exact b3 t (by omega) hqt
              · simp (disch := omega) only [zgi, zgl, zwi, zwf, zjn, zj0, zcl_s, zcv_s, zrd_n, zrl_n, zix_n, zwa_n, zwl_n, zI1, zI2, zL1, zL2, zR1, zR2, updE, updLE, zbl_0, zbl_1, nI_1, nI_add, nI_mulR, nI_leI, nI_ltI, nI_0le, nI_lt0, bvE, ↓reduceIte, Nat.reduceEqDiff, Nat.reduceLT, Nat.reduceAdd, Nat.reduceMul, reduceCtorEq, i10, i01, eq_self, or_true, true_or, false_or, or_false, not_true_eq_false, not_false_eq_true, if_true, if_false, m4, shl_n Q hQ, hle, m_bits (show i < 64 by omega), m_bits (show b' < 64 by omega), pc_n i (by omega), pc_n b' (by omega), hlt]
                refine ⟨_, _, rfl, rfl, Or.inr ⟨b', rfl, by omega, b2, fun t ht hqt => ?_⟩, j2, j3, j4⟩
                by_cases e : t = i
                · rw [e]; omega
                · exact b3 t (by omega) hqt
          · rintro ⟨best, c⟩ s3 g ⟨j0, j1, j2, j3, j4⟩
            dsimp only at j0 j1
            subst j0
            have m4 : s3.1 226 4 = nI Q := by rw [j2]; exact h3.cM.2.2.2.1
            have eb : best = nI b := by
              rcases j1 with ⟨_, j1⟩ | ⟨b', e, b1, b2, b3⟩
              · exact absurd hb.2.1 (j1 b hb.1)
              · rw [e, isB_u hb ⟨b1, b2, b3⟩]
            subst eb
            unfold f_Model_strike_B40
            have qq : qM s' (zsI s3 216 23 0) := ⟨fun b hb => by
              by_cases hb2 : b = 226
              · rw [hb2, zI1, if_neg (by omega), j2, e226]
              · rw [zI1, if_neg (by omega), j3 b (by omega), E1 b (by omega)], fun j hj => by
              rw [zI1, if_pos rfl, updE]
              by_cases hj2 : j = 23
              · rw [if_pos hj2, hj2, hs' 216 (by omega), h6]
              · rw [if_neg hj2, j4 j (by omega) hj2, E1 216 (by omega)]⟩
            simp (disch := omega) only [zgi, zgl, zwi, zwf, zjn, zj0, zcl_s, zcv_s, zrd_n, zrl_n, zix_n, zwa_n, zwl_n, zI1, zI2, zL1, zL2, zR1, zR2, updE, updLE, zbl_0, zbl_1, nI_1, nI_add, nI_mulR, nI_leI, nI_ltI, nI_0le, nI_lt0, bvE, ↓reduceIte, Nat.reduceEqDiff, Nat.reduceLT, Nat.reduceAdd, Nat.reduceMul, reduceCtorEq, i10, i01, eq_self, or_true, true_or, false_or, or_false, not_true_eq_false, not_false_eq_true, if_true, if_false, m4, shl_n Q hQ, Nat.le_refl]
            by_cases w0 : w = 0
            · simp only [w0, not_true_eq_false, ↓reduceIte, m_bits hb64, zcl_s]; exact rt_s ⟨rfl, qq⟩
            · simp only [w0, not_false_eq_true, ↓reduceIte]; exact rt_s ⟨rfl, qq⟩
      · refine ⟨-1, ?_, fun s' hs' => ?_⟩
        · simp only [zgi, zgl, zwi, zwf, zjn, zj0, zcl_s, zcv_s, zrd_n, zrl_n, zix_n, zwa_n, zwl_n, zI1, zI2, zL1, zL2, zR1, zR2, updE, updLE, zbl_0, zbl_1, nI_1, nI_add, nI_mulR, nI_leI, nI_ltI, nI_0le, nI_lt0, bvE, ↓reduceIte, Nat.reduceEqDiff, Nat.reduceLT, Nat.reduceAdd, Nat.reduceMul, reduceCtorEq, i10, i01, eq_self, or_true, true_or, false_or, or_false, not_true_eq_false, not_false_eq_true, if_true, if_false, c0, a1, a2, cEi, hw]; exact rt_s ⟨rfl, frm.rf⟩
        · have m0' : s'.1 226 0 = 1 := by rw [hs' 226 (by omega)]; exact m0
          simp only [zgi, zgl, zwi, zwf, zjn, zj0, zcl_s, zcv_s, zrd_n, zrl_n, zix_n, zwa_n, zwl_n, zI1, zI2, zL1, zL2, zR1, zR2, updE, updLE, zbl_0, zbl_1, nI_1, nI_add, nI_mulR, nI_leI, nI_ltI, nI_0le, nI_lt0, bvE, ↓reduceIte, Nat.reduceEqDiff, Nat.reduceLT, Nat.reduceAdd, Nat.reduceMul, reduceCtorEq, i10, i01, eq_self, or_true, true_or, false_or, or_false, not_true_eq_false, not_false_eq_true, if_true, if_false, m_isSmithy, m0', hin, hp, and_self, mIn01, hw]; exact rt_s ⟨rfl, qM.rf⟩
    · have hno' : ¬ ((1 : Int32) ≤ p ∧ p ≤ 30) := hno
      refine ⟨-1, ?_, fun s' hs' => ?_⟩
      · by_cases a1 : p < 1
        · simp only [zgi, zgl, zwi, zwf, zjn, zj0, zcl_s, zcv_s, zrd_n, zrl_n, zix_n, zwa_n, zwl_n, zI1, zI2, zL1, zL2, zR1, zR2, updE, updLE, zbl_0, zbl_1, nI_1, nI_add, nI_mulR, nI_leI, nI_ltI, nI_0le, nI_lt0, bvE, ↓reduceIte, Nat.reduceEqDiff, Nat.reduceLT, Nat.reduceAdd, Nat.reduceMul, reduceCtorEq, i10, i01, eq_self, or_true, true_or, false_or, or_false, not_true_eq_false, not_false_eq_true, if_true, if_false, c0, a1]; exact rt_s ⟨rfl, frm.rf⟩
        · have a2 : (30 : Int32) < p := Int32.not_le.mp (fun e => hno' ⟨Int32.not_lt.mp a1, e⟩)
          simp only [zgi, zgl, zwi, zwf, zjn, zj0, zcl_s, zcv_s, zrd_n, zrl_n, zix_n, zwa_n, zwl_n, zI1, zI2, zL1, zL2, zR1, zR2, updE, updLE, zbl_0, zbl_1, nI_1, nI_add, nI_mulR, nI_leI, nI_ltI, nI_0le, nI_lt0, bvE, ↓reduceIte, Nat.reduceEqDiff, Nat.reduceLT, Nat.reduceAdd, Nat.reduceMul, reduceCtorEq, i10, i01, eq_self, or_true, true_or, false_or, or_false, not_true_eq_false, not_false_eq_true, if_true, if_false, c0, a1, a2]; exact rt_s ⟨rfl, frm.rf⟩
      · have m0' : s'.1 226 0 = 1 := by rw [hs' 226 (by omega)]; exact m0
        simp only [zgi, zgl, zwi, zwf, zjn, zj0, zcl_s, zcv_s, zrd_n, zrl_n, zix_n, zwa_n, zwl_n, zI1, zI2, zL1, zL2, zR1, zR2, updE, updLE, zbl_0, zbl_1, nI_1, nI_add, nI_mulR, nI_leI, nI_ltI, nI_0le, nI_lt0, bvE, ↓reduceIte, Nat.reduceEqDiff, Nat.reduceLT, Nat.reduceAdd, Nat.reduceMul, reduceCtorEq, i10, i01, eq_self, or_true, true_or, false_or, or_false, not_true_eq_false, not_false_eq_true, if_true, if_false, m_isSmithy, m0', hin, hno']; exact rt_s ⟨rfl, qM.rf⟩
