/-! The reference's choice and days. -/
theorem bits_fact : ∀ k, k < 64 → k = 0 ∧ pc (nI k) = 0 ∨ ∃ k', k' < k ∧ nI k &&& (nI k - 1) = nI k' ∧ pc (nI k) = pc (nI k') + 1 := by decide +kernel
theorem bits_B (acc x : Int32) (s : ZS) (g : Int32 × Int32 → ZS → Option (Int32 × ZS)) : f_Model_bits_B4 (acc, x) s g = if x = 0 then some (acc, s) else g (acc + 1, x &&& (x - 1)) s := rfl
theorem bits_go : ∀ (k : Nat), k < 64 → ∀ (n : Nat) (acc : Int32) (s : ZS), k < n → zlp n f_Model_bits_B4 (acc, nI k) s = some (acc + pc (nI k), s) := by
  intro k
  induction k using Nat.strongRecOn with
  | _ k ih =>
    intro hk n acc s hn
    obtain ⟨n, rfl⟩ : ∃ m, n = m + 1 := ⟨n - 1, by omega⟩
    show f_Model_bits_B4 (acc, nI k) s (zlp n f_Model_bits_B4) = _
    rw [bits_B]
    rcases bits_fact k hk with ⟨rfl, h2⟩ | ⟨k', h1, h2, h3⟩
    · rw [if_pos (show nI 0 = 0 from rfl), h2, Int32.add_zero]
    · rw [if_neg (by rw [show (0 : Int32) = nI 0 from rfl, nI_eq (by omega) (by omega)]; omega), h2, ih k' h1 (by omega) n _ s (by omega), h3]
      rw [Int32.add_assoc, Int32.add_comm 1]
theorem m_bits {k : Nat} {s : ZS} (hk : k < 64) : f_Model_bits (nI k) s = some (pc (nI k), s) := by
  unfold f_Model_bits
  rw [bits_go k hk _ _ _ (by have := zN_big; omega), Int32.zero_add]
theorem sBnd_s (W : Nat → Int32) : ∀ n, n ≤ 5 → ∃ k, k < 32 ∧ sBnd W n = nI k := by
  intro n
  induction n with
  | zero => intro _; exact ⟨0, by omega, rfl⟩
  | succ n ih =>
    intro hn
    obtain ⟨k, h1, h2⟩ := ih (by omega)
    have h3 : sBnd W (n + 1) = if W n = 0 then sBnd W n else sBnd W n ||| ((1 : Int32) <<< (nI n &&& 31)) := rfl
    rw [h3, h2]
    split
    · exact ⟨k, h1, rfl⟩
    · exact (show ∀ k, k < 32 → ∀ n, n < 5 → ∃ k', k' < 32 ∧ nI k ||| ((1 : Int32) <<< (nI n &&& 31)) = nI k' by decide +kernel) k h1 n (by omega)
theorem and_s {a : Nat} (ha : a < 32) (y : Int32) : ∃ k, k < 32 ∧ nI a &&& y = nI k := by
  have h1 : (nI a &&& y).toBitVec.toNat ≤ a := by
    have e : (nI a &&& y).toBitVec = (nI a).toBitVec &&& y.toBitVec := rfl
    rw [e, BitVec.toNat_and]
    have e2 : (nI a).toBitVec.toNat = a := by
      show (Int32.ofNat a).toBitVec.toNat = a
      have : (Int32.ofNat a).toBitVec = BitVec.ofNat 32 a := rfl
      rw [this, BitVec.toNat_ofNat]
      omega
    rw [e2]
    exact Nat.and_le_left
  refine ⟨(nI a &&& y).toBitVec.toNat, by omega, ?_⟩
  apply Int32.toBitVec_inj.mp
  show _ = (Int32.ofNat _).toBitVec
  have : ∀ n, (Int32.ofNat n).toBitVec = BitVec.ofNat 32 n := fun _ => rfl
  rw [this, BitVec.ofNat_toNat, BitVec.setWidth_eq]
/-- a rule of the reference does what f does -/
def agM (j : Nat) (s' s : ZS) : Prop := (∀ k, 400 * j ≤ k → k < 400 * j + 400 → s'.1 218 k = s.1 218 k) ∧ (∀ k, 48 * j ≤ k → k < 48 * j + 48 → s'.1 220 k = s.1 220 k) ∧ s'.1 221 j = s.1 221 j
def ruleM (j : Nat) (f : (Nat → Int64) → Int64) (s : ZS) : Prop := ∀ (s' : ZS) (ws : Nat → Int64), agM j s' s → (∀ k, k < 11 → s'.2 225 k = ws k) → rt (f_Model_summedBy (nI j) s') (fun w => w.1 = f ws ∧ nM s' w.2 ∧ w.2.1 226 = s'.1 226 ∧ w.2.1 227 = s'.1 227)
def hM (rl : ZRl) (s : ZS) : Prop := rl = none ∧ s.1 216 21 = -1 ∨ ∃ j f, rl = some f ∧ j < 6 ∧ s.1 216 21 = nI j ∧ ruleM j f s
theorem hM.n {rl : ZRl} {s s' : ZS} (h : hM rl s) (hn : nM s s') : hM rl s' := by
  rcases h with ⟨h1, h2⟩ | ⟨j, f, h1, h2, h3, h4⟩
  · exact Or.inl ⟨h1, by rw [hn.2.2.1 21 (by omega)]; exact h2⟩
  · refine Or.inr ⟨j, f, h1, h2, by rw [hn.2.2.1 21 (by omega)]; exact h3, fun s2 ws g1 g2 => h4 s2 ws ⟨fun k hk hk2 => ?_, fun k hk hk2 => ?_, ?_⟩ g2⟩
    · rw [g1.1 k hk hk2, hn.1 218 (by omega)]
    · rw [g1.2.1 k hk hk2, hn.1 220 (by omega)]
    · rw [g1.2.2, hn.1 221 (by omega)]
/-- near rows are small -/
def cN (C : Nat → Int32) : Prop := ∀ p, p < 5 → ∃ a, a < 32 ∧ C (103 + p) = nI a
theorem n1lt : ((-1 : Int32) < 0) = True := eq_true (by decide)
theorem upd_same (f : Nat → Int32) (p : Nat) : upd f p (f p) = f := by
  funext k; unfold upd; split
  · next h => rw [h]
  · rfl
section MM
variable {P Q : Nat} {C : Nat → Int32} {s : ZS}
theorem m_sumOf {rl : ZRl} {p q : Nat} (hc : cM P Q C s) (hN : cN C) (hz : zW P (gM (s.1 226)).2.1) (hr : hM rl s) (hp : p < P) (hq : q < Q) :
    rt (f_Model_sumOf (nI p) (nI q) s) (fun w => w.1 = sWorth C rl (gM (s.1 226)) p q ∧ nM s w.2 ∧ w.2.1 226 = s.1 226 ∧ w.2.1 227 = s.1 227) := by
  have hP := hc.1
  have hQ := hc.2.1
  obtain ⟨_, _, e3, e4, h5⟩ := id hc
  unfold f_Model_sumOf
  rcases hr with ⟨rfl, hn⟩ | ⟨j, f, rfl, hj, hn, hf⟩
  · simp only [zgi, hn]
    rw [if_neg (by decide), mHurts (by omega) (by omega) hc]
    exact rt_s ⟨rfl, nM.rf, rfl, rfl⟩
  · have cL : ∀ (s' : ZS), s'.1 = s.1 → cM P Q C s' := fun s' h => by unfold cM at hc ⊢; rw [h]; exact hc
    obtain ⟨kb, hkb, eb⟩ := sBnd_s (gM (s.1 226)).2.1 P hP
    obtain ⟨ka, hka, ea⟩ := hN p (by omega)
    obtain ⟨kc, hkc, ec⟩ := and_s hka (nI kb ^^^ (-1))
    have tS : ∀ (s' : ZS), f_Model_temperOf (nI p) s' = some ((gM (s'.1 226)).1 p, s') := fun s' => mTemper (by omega)
    simp (disch := omega) only [zgi, zgl, zwi, zwf, zjn, zj0, zcl_s, zcv_s, zrd_n, zrl_n, zix_n, zwa_n, zwl_n, zI1, zI2, zL1, zL2, zR1, zR2, updE, updLE, zbl_0, zbl_1, nI_1, nI_add, nI_mulR, nI_leI, nI_ltI, nI_0le, nI_lt0, bvE, ↓reduceIte, Nat.reduceEqDiff, Nat.reduceLT, Nat.reduceAdd, Nat.reduceMul, reduceCtorEq, l2, l3, l6, l12, l27, l57, l67, l73, l103, hn, tS, h5, qS, qN, qD]
    have hban : ∀ (s' : ZS), s'.1 = s.1 → f_Model_banded s' = some (nI kb, s') := fun s' h => by rw [m_banded (cL s' h), h, eb]
    generalize hs6 : zsL _ 225 6 _ = s6
    have g6 : s6.1 = s.1 := by rw [← hs6]; rfl
    have n6 : nM s s6 := by rw [← hs6]; exact ((((((nM.rf.L (by omega)).L (by omega)).L (by omega)).L (by omega)).L (by omega)).L (by omega)).L (by omega)
    rw [hban s6 g6]
    simp (disch := omega) only [zgi, zgl, zwi, zwf, zjn, zj0, zcl_s, zcv_s, zrd_n, zrl_n, zix_n, zwa_n, zwl_n, zI1, zI2, zL1, zL2, zR1, zR2, updE, updLE, zbl_0, zbl_1, nI_1, nI_add, nI_mulR, nI_leI, nI_ltI, nI_0le, nI_lt0, bvE, ↓reduceIte, Nat.reduceEqDiff, Nat.reduceLT, Nat.reduceAdd, Nat.reduceMul, reduceCtorEq, ea, ec, m_bits (show kc < 64 by omega)]
    rw [hban (zsL s6 225 7 _) g6]
    simp (disch := omega) only [zgi, zgl, zwi, zwf, zjn, zj0, zcl_s, zcv_s, zrd_n, zrl_n, zix_n, zwa_n, zwl_n, zI1, zI2, zL1, zL2, zR1, zR2, updE, updLE, zbl_0, zbl_1, nI_1, nI_add, nI_mulR, nI_leI, nI_ltI, nI_0le, nI_lt0, bvE, ↓reduceIte, Nat.reduceEqDiff, Nat.reduceLT, Nat.reduceAdd, Nat.reduceMul, reduceCtorEq, m_bits (show kb < 64 by omega), g6, hn]
    generalize hs1 : zsL _ 225 10 _ = s1
    have g1 : s1.1 = s.1 := by rw [← hs1]; exact g6
    have n1 : nM s s1 := by rw [← hs1]; exact (((n6.L (by omega)).L (by omega)).L (by omega)).L (by omega)
    have w1 : ∀ k, k < 11 → s1.2 225 k = sWords C (gM (s.1 226)) p q k := by
      intro k hk
      have hcs : k = 0 ∨ k = 1 ∨ k = 2 ∨ k = 3 ∨ k = 4 ∨ k = 5 ∨ k = 6 ∨ k = 7 ∨ k = 8 ∨ k = 9 ∨ k = 10 := by omega
      rw [← hs1, ← hs6]
      unfold sWords
      rcases hcs with rfl | rfl | rfl | rfl | rfl | rfl | rfl | rfl | rfl | rfl | rfl <;> simp only [zL2, zL1, updLE, ↓reduceIte, Nat.reduceEqDiff, sBnd_P hP hz, eb, ea, ec]
    obtain ⟨⟨v, s2⟩, r2, v2, n2, n3, n4⟩ := hf s1 _ ⟨fun k _ _ => by rw [g1], fun k _ _ => by rw [g1], by rw [g1]⟩ w1
    rw [r2]
    dsimp only at v2 n2 n3 n4
    refine rt_s ⟨v2, n1.tr n2, ?_, ?_⟩
    · rw [← g1]; exact n3
    · rw [← g1]; exact n4
theorem m_choice {st : Int32} {rl : ZRl} {p : Nat} (hc : cM P Q C s) (hN : cN C) (hz : zW P (gM (s.1 226)).2.1) (hst : s.1 216 23 = st) (hr : hM rl s) (hp : p < P) :
    rt (f_Model_choice (nI p) s) (fun w => w.1 = (sCh Q C st rl (gM (s.1 226)) p).1 ∧ nM s w.2 ∧ w.2.1 226 = s.1 226 ∧ w.2.1 227 = s.1 227) := by
  have hP := hc.1
  have hQ := hc.2.1
  unfold f_Model_choice sCh
  refine lp_rt Q (fun i a s1 => a.2.2 = nI i ∧ (a.1, a.2.1) = itr i (sCh1 C st rl (gM (s.1 226)) p) (-1, 0) ∧ nM s s1 ∧ s1.1 226 = s.1 226 ∧ s1.1 227 = s.1 227) (by omega) ⟨rfl, rfl, nM.rf, rfl, rfl⟩ ?_ ?_
  · rintro i ⟨best, most, c⟩ s1 g hi ⟨h0, h1, n1, u1, u2⟩
    left
    dsimp only at h0 h1
    subst h0
    rw [itrS, ← h1]
    have c1 := hc.n n1
    have hst1 : s1.1 216 23 = st := by rw [n1.2.2.1 23 (by omega)]; exact hst
    have hnQ : ¬ Q ≤ i := by omega
    unfold f_Model_choice_B7 sCh1
    by_cases k1 : bt st i = true
    · simp (disch := omega) only [zgi, zgl, zwi, zwf, zjn, zj0, zcl_s, zcv_s, zrd_n, zrl_n, zix_n, zwa_n, zwl_n, zI1, zI2, zL1, zL2, zR1, zR2, updE, updLE, zbl_0, zbl_1, nI_1, nI_add, nI_mulR, nI_leI, nI_ltI, nI_0le, nI_lt0, bvE, ↓reduceIte, Nat.reduceEqDiff, Nat.reduceLT, Nat.reduceAdd, Nat.reduceMul, reduceCtorEq, c1.2.2.2.1, hnQ, hst1, mIsOf, k1, i10]
      exact ⟨_, _, rfl, rfl, rfl, n1, u1, u2⟩
    · obtain ⟨⟨v, s2⟩, r2, v2, n2, n3, n4⟩ := m_sumOf c1 hN (by rw [u1]; exact hz) (hr.n n1) hp hi
      dsimp only at v2 n2 n3 n4
      rw [u1] at v2
      rw [← v2]
      by_cases k2 : v ≤ most
      · simp (disch := omega) only [zgi, zgl, zwi, zwf, zjn, zj0, zcl_s, zcv_s, zrd_n, zrl_n, zix_n, zwa_n, zwl_n, zI1, zI2, zL1, zL2, zR1, zR2, updE, updLE, zbl_0, zbl_1, nI_1, nI_add, nI_mulR, nI_leI, nI_ltI, nI_0le, nI_lt0, bvE, ↓reduceIte, Nat.reduceEqDiff, Nat.reduceLT, Nat.reduceAdd, Nat.reduceMul, reduceCtorEq, c1.2.2.2.1, hnQ, hst1, mIsOf, k1, r2, lg_0lt, Int64.not_lt.mpr k2, k2]
        exact ⟨_, _, rfl, rfl, rfl, n1.tr n2, n3.trans u1, n4.trans u2⟩
      · simp (disch := omega) only [zgi, zgl, zwi, zwf, zjn, zj0, zcl_s, zcv_s, zrd_n, zrl_n, zix_n, zwa_n, zwl_n, zI1, zI2, zL1, zL2, zR1, zR2, updE, updLE, zbl_0, zbl_1, nI_1, nI_add, nI_mulR, nI_leI, nI_ltI, nI_0le, nI_lt0, bvE, ↓reduceIte, Nat.reduceEqDiff, Nat.reduceLT, Nat.reduceAdd, Nat.reduceMul, reduceCtorEq, c1.2.2.2.1, hnQ, hst1, mIsOf, k1, r2, lg_0lt, Int64.not_le.mp k2, k2]
        exact ⟨_, _, rfl, rfl, rfl, n1.tr n2, n3.trans u1, n4.trans u2⟩
  · rintro ⟨best, most, c⟩ s1 g ⟨h0, h1, n1, u1, u2⟩
    dsimp only at h0 h1
    subst h0
    unfold f_Model_choice_B7
    simp (disch := omega) only [zgi, zgl, zwi, zwf, zjn, zj0, zcl_s, zcv_s, zrd_n, zrl_n, zix_n, zwa_n, zwl_n, zI1, zI2, zL1, zL2, zR1, zR2, updE, updLE, zbl_0, zbl_1, nI_1, nI_add, nI_mulR, nI_leI, nI_ltI, nI_0le, nI_lt0, bvE, ↓reduceIte, Nat.reduceEqDiff, Nat.reduceLT, Nat.reduceAdd, Nat.reduceMul, reduceCtorEq, (hc.n n1).2.2.2.1, Nat.le_refl]
    exact rt_s ⟨by rw [← h1], n1, u1, u2⟩
theorem sWear_day {wv : Bool} {u : ZU} : ∀ n, (itr n (sWear C wv) u).2.2 = u.2.2 := by
  intro n
  induction n with
  | zero => rfl
  | succ n ih =>
    rw [itrS]
    unfold sWear
    split
    · split <;> exact ih
    · exact ih
theorem sWear_false {u : ZU} : ∀ n, itr n (sWear C false) u = u := by
  intro n
  induction n with
  | zero => rfl
  | succ n ih => rw [itrS, ih]; unfold sWear; rw [if_neg (by simp)]
theorem m_wears (hc : cM P Q C s) : rt (f_Model_wears s) (fun w => gM (w.1 226) = ((gM (s.1 226)).1, itr P (sWear C (s9 (gM (s.1 226)).2.2.2.2.1)) (gM (s.1 226)).2) ∧ nM s w ∧ w.1 227 = s.1 227) := by
  have hP := hc.1
  unfold f_Model_wears
  refine lp_rt P (fun i a s1 => a = nI i ∧ gM (s1.1 226) = ((gM (s.1 226)).1, itr i (sWear C (s9 (gM (s.1 226)).2.2.2.2.1)) (gM (s.1 226)).2) ∧ nM s s1 ∧ s1.1 227 = s.1 227) (by omega) ⟨rfl, rfl, nM.rf, rfl⟩ ?_ ?_
  · rintro i c s1 g hi ⟨rfl, h1, n1, u1⟩
    have c1 := hc.n n1
    obtain ⟨_, _, e3, e4, h5⟩ := id c1
    have hnP : ¬ P ≤ i := by omega
    have hd : (gM (s1.1 226)).2.2.2.2.1 = (gM (s.1 226)).2.2.2.2.1 := by
      rw [h1]; show (itr i (sWear C _) (gM (s.1 226)).2).2.2.2.1 = _; rw [sWear_day]
    by_cases k9 : (gM (s.1 226)).2.2.2.2.1 - (gM (s.1 226)).2.2.2.2.1 / 10 * 10 = 9
    · left
      have hs9 : s9 (gM (s.1 226)).2.2.2.2.1 = true := by unfold s9; simp [k9]
      have hU : itr i (sWear C (s9 (gM (s.1 226)).2.2.2.2.1)) (gM (s.1 226)).2 = (gM (s1.1 226)).2 := by rw [h1]
      have hT : (gM (s.1 226)).1 = (gM (s1.1 226)).1 := by rw [h1]
      rw [itrS, hU, hT, hs9]
      unfold f_Model_wears_B2 sWear
      by_cases w1 : (gM (s1.1 226)).2.1 i = 0
      · simp (disch := omega) only [zgi, zgl, zwi, zwf, zjn, zj0, zcl_s, zcv_s, zrd_n, zrl_n, zix_n, zwa_n, zwl_n, zI1, zI2, zL1, zL2, zR1, zR2, updE, updLE, zbl_0, zbl_1, nI_1, nI_add, nI_mulR, nI_leI, nI_ltI, nI_0le, nI_lt0, bvE, ↓reduceIte, Nat.reduceEqDiff, Nat.reduceLT, Nat.reduceAdd, Nat.reduceMul, reduceCtorEq, l2, l3, l6, l12, l27, l57, l67, l73, l103, e3, hnP, qD, hd, k9, not_true_eq_false, mBare c1 hi, w1, i10, and_false]
        exact ⟨_, _, rfl, rfl, rfl, n1, u1⟩
      · by_cases w2 : (gM (s1.1 226)).2.1 i - C 2 ≤ 0
        · simp (disch := omega) only [zgi, zgl, zwi, zwf, zjn, zj0, zcl_s, zcv_s, zrd_n, zrl_n, zix_n, zwa_n, zwl_n, zI1, zI2, zL1, zL2, zR1, zR2, updE, updLE, zbl_0, zbl_1, nI_1, nI_add, nI_mulR, nI_leI, nI_ltI, nI_0le, nI_lt0, bvE, ↓reduceIte, Nat.reduceEqDiff, Nat.reduceLT, Nat.reduceAdd, Nat.reduceMul, reduceCtorEq, l2, l3, l6, l12, l27, l57, l67, l73, l103, e3, hnP, h5, qD, hd, k9, not_true_eq_false, mBare c1 hi, w1, qW, mBand, gM_W', w2, eq_self, not_false_eq_true, and_self]
          refine ⟨_, _, rfl, rfl, ?_, ((n1.I (by omega)).I (by omega)).I (by omega), u1⟩
          simp (disch := omega) only [zI1, ↓reduceIte, gM_W', gM_Z', upd_upd]
        · simp (disch := omega) only [zgi, zgl, zwi, zwf, zjn, zj0, zcl_s, zcv_s, zrd_n, zrl_n, zix_n, zwa_n, zwl_n, zI1, zI2, zL1, zL2, zR1, zR2, updE, updLE, zbl_0, zbl_1, nI_1, nI_add, nI_mulR, nI_leI, nI_ltI, nI_0le, nI_lt0, bvE, ↓reduceIte, Nat.reduceEqDiff, Nat.reduceLT, Nat.reduceAdd, Nat.reduceMul, reduceCtorEq, l2, l3, l6, l12, l27, l57, l67, l73, l103, e3, hnP, h5, qD, hd, k9, not_true_eq_false, mBare c1 hi, w1, qW, mBand, gM_W', w2, eq_self, not_false_eq_true, and_self]
          refine ⟨_, _, rfl, rfl, ?_, n1.I (by omega), u1⟩
          simp (disch := omega) only [zI1, ↓reduceIte, gM_W']
    · right
      have hs9 : s9 (gM (s.1 226)).2.2.2.2.1 = false := by unfold s9; simp [k9]
      rw [hs9, sWear_false] at h1
      rw [hs9, sWear_false]
      unfold f_Model_wears_B2
      simp (disch := omega) only [zgi, zgl, zwi, zwf, zjn, zj0, zcl_s, zcv_s, zrd_n, zrl_n, zix_n, zwa_n, zwl_n, zI1, zI2, zL1, zL2, zR1, zR2, updE, updLE, zbl_0, zbl_1, nI_1, nI_add, nI_mulR, nI_leI, nI_ltI, nI_0le, nI_lt0, bvE, ↓reduceIte, Nat.reduceEqDiff, Nat.reduceLT, Nat.reduceAdd, Nat.reduceMul, reduceCtorEq, e3, hnP, qD, hd, k9, not_false_eq_true]
      exact rt_s ⟨h1, n1, u1⟩
  · rintro c s1 g ⟨rfl, h1, n1, u1⟩
    unfold f_Model_wears_B2
    simp (disch := omega) only [zgi, zgl, zwi, zwf, zjn, zj0, zcl_s, zcv_s, zrd_n, zrl_n, zix_n, zwa_n, zwl_n, zI1, zI2, zL1, zL2, zR1, zR2, updE, updLE, zbl_0, zbl_1, nI_1, nI_add, nI_mulR, nI_leI, nI_ltI, nI_0le, nI_lt0, bvE, ↓reduceIte, Nat.reduceEqDiff, Nat.reduceLT, Nat.reduceAdd, Nat.reduceMul, reduceCtorEq, (hc.n n1).2.2.1, Nat.le_refl]
    exact rt_s ⟨h1, n1, u1⟩
theorem m_passes {st hm : Int32} {rl : ZRl} (hc : cM P Q C s) (hK : cK P C) (hN : cN C) (hz : zW P (gM (s.1 226)).2.1) (hst : s.1 216 23 = st) (hh : s.1 216 24 = hm) (hr : hM rl s) :
    rt (f_Model_passes s) (fun w => (gM (w.2.1 226), w.1, w.2.1 227) = sDay P Q C st hm rl (gM (s.1 226)) (s.1 227) ∧ nM s w.2) := by
  have hP := hc.1
  have hQ := hc.2.1
  unfold f_Model_passes sDay
  simp only [zjn]
  refine lp_rt P (fun i a s1 => a.2 = nI i ∧ (gM (s1.1 226), a.1, s1.1 227) = itr i (sDay1 P Q C st hm rl) (gM (s.1 226), 0, s.1 227) ∧ nM s s1) (by omega) ⟨rfl, rfl, nM.rf⟩ ?_ ?_
  · rintro i ⟨r, c⟩ s1 g hi ⟨h0, h1, h3⟩
    left
    dsimp only at h0 h1
    subst h0
    have hz1 : zW P (gM (s1.1 226)).2.1 := by
      have := zW_day1 (Q := Q) (st := st) (hm := hm) (rl := rl) (RS := s.1 227) hK hz i (by omega)
      rw [← h1] at this; exact this
    rw [itrS, ← h1]
    have c1 := hc.n h3
    obtain ⟨_, _, e3, e4, h5⟩ := id c1
    have hst1 : s1.1 216 23 = st := by rw [h3.2.2.1 23 (by omega)]; exact hst
    have hh1 : s1.1 216 24 = hm := by rw [h3.2.2.1 24 (by omega)]; exact hh
    have hr1 : hM rl s1 := hr.n h3
    have hnP : ¬ P ≤ i := by omega
    unfold f_Model_passes_B4 sDay1
    dsimp only
    by_cases k1 : (gM (s1.1 226)).2.1 i = 0
    · by_cases k2 : nI i = hm
      · subst k2
        simp (disch := omega) only [zgi, zgl, zwi, zwf, zjn, zj0, zcl_s, zcv_s, zrd_n, zrl_n, zix_n, zwa_n, zwl_n, zI1, zI2, zL1, zL2, zR1, zR2, updE, updLE, zbl_0, zbl_1, nI_1, nI_add, nI_mulR, nI_leI, nI_ltI, nI_0le, nI_lt0, bvE, ↓reduceIte, Nat.reduceEqDiff, Nat.reduceLT, Nat.reduceAdd, Nat.reduceMul, reduceCtorEq, e3, hnP, mBare c1 hi, k1, i10, not_true_eq_false, hh1, and_false]
        exact ⟨_, _, rfl, rfl, rfl, h3⟩
      · obtain ⟨⟨q, s2⟩, r2, q2, n2, u2, u3⟩ := m_choice c1 hN hz1 hst1 hr1 hi
        dsimp only at q2 n2 u2 u3
        rw [← q2]
        rcases sCh_r (C := C) (st := st) (rl := rl) (z := gM (s1.1 226)) (p := i) Q with hq | ⟨q', hq1, hq⟩
        · rw [← q2] at hq
          subst hq
          simp (disch := omega) only [zgi, zgl, zwi, zwf, zjn, zj0, zcl_s, zcv_s, zrd_n, zrl_n, zix_n, zwa_n, zwl_n, zI1, zI2, zL1, zL2, zR1, zR2, updE, updLE, zbl_0, zbl_1, nI_1, nI_add, nI_mulR, nI_leI, nI_ltI, nI_0le, nI_lt0, bvE, ↓reduceIte, Nat.reduceEqDiff, Nat.reduceLT, Nat.reduceAdd, Nat.reduceMul, reduceCtorEq, e3, hnP, mBare c1 hi, k1, i10, hh1, k2, r2, not_false_eq_true, and_self, n1lt]
          exact ⟨_, _, rfl, rfl, by rw [u2, u3], h3.tr n2⟩
        · rw [← q2] at hq
          subst hq
          have hh2' : s2.1 216 24 = hm := by rw [n2.2.2.1 24 (by omega)]; exact hh1
          obtain ⟨⟨v3, s3⟩, r3, g3, f3⟩ := m_says (c1.n n2) hh2' hi hq1
          dsimp only at g3 f3
          rw [u2, u3] at g3
          simp (disch := omega) only [zgi, zgl, zwi, zwf, zjn, zj0, zcl_s, zcv_s, zrd_n, zrl_n, zix_n, zwa_n, zwl_n, zI1, zI2, zL1, zL2, zR1, zR2, updE, updLE, zbl_0, zbl_1, nI_1, nI_add, nI_mulR, nI_leI, nI_ltI, nI_0le, nI_lt0, bvE, ↓reduceIte, Nat.reduceEqDiff, Nat.reduceLT, Nat.reduceAdd, Nat.reduceMul, reduceCtorEq, e3, hnP, mBare c1 hi, k1, i10, hh1, k2, r2, not_false_eq_true, and_self, nI_n1, r3]
          refine ⟨_, _, rfl, rfl, ?_, h3.tr (n2.tr f3)⟩
          rw [nI_clamp (by omega), ← g3]
    · simp (disch := omega) only [zgi, zgl, zwi, zwf, zjn, zj0, zcl_s, zcv_s, zrd_n, zrl_n, zix_n, zwa_n, zwl_n, zI1, zI2, zL1, zL2, zR1, zR2, updE, updLE, zbl_0, zbl_1, nI_1, nI_add, nI_mulR, nI_leI, nI_ltI, nI_0le, nI_lt0, bvE, ↓reduceIte, Nat.reduceEqDiff, Nat.reduceLT, Nat.reduceAdd, Nat.reduceMul, reduceCtorEq, e3, hnP, mBare c1 hi, k1, false_and]
      exact ⟨_, _, rfl, rfl, rfl, h3⟩
  · rintro ⟨r, c⟩ s1 g ⟨h0, h1, h3⟩
    dsimp only at h0 h1
    subst h0
    rw [← h1]
    have c1 := hc.n h3
    unfold f_Model_passes_B4
    simp (disch := omega) only [zgi, zgl, zwi, zwf, zjn, zj0, zcl_s, zcv_s, zrd_n, zrl_n, zix_n, zwa_n, zwl_n, zI1, zI2, zL1, zL2, zR1, zR2, updE, updLE, zbl_0, zbl_1, nI_1, nI_add, nI_mulR, nI_leI, nI_ltI, nI_0le, nI_lt0, bvE, ↓reduceIte, Nat.reduceEqDiff, Nat.reduceLT, Nat.reduceAdd, Nat.reduceMul, reduceCtorEq, c1.2.2.1, Nat.le_refl]
    refine rt_cv (m_wears c1) ?_
    rintro s2 ⟨g2, n2, u2⟩
    have c2 := c1.n n2
    refine lp_rt P (fun i a s3 => a = nI i ∧ gM (s3.1 226) = (itr i sCool (gM (s1.1 226)).1, itr P (sWear C (s9 (gM (s1.1 226)).2.2.2.2.1)) (gM (s1.1 226)).2) ∧ nM s2 s3 ∧ s3.1 227 = s2.1 227) (by omega) ⟨rfl, g2, nM.rf, rfl⟩ ?_ ?_
    · rintro i c s3 g hi ⟨rfl, k1, n3, u3⟩
      left
      have c3 := c2.n n3
      obtain ⟨_, _, e3, e4, h5⟩ := id c3
      have hnP : ¬ P ≤ i := by omega
      have hT : itr i sCool (gM (s1.1 226)).1 = (gM (s3.1 226)).1 := by rw [k1]
      have hU : itr P (sWear C (s9 (gM (s1.1 226)).2.2.2.2.1)) (gM (s1.1 226)).2 = (gM (s3.1 226)).2 := by rw [k1]
      rw [itrS, hT, hU]
      unfold f_Model_passes_B64 sCool
      by_cases t1 : (gM (s3.1 226)).1 i ≤ 0
      · simp (disch := omega) only [zgi, zgl, zwi, zwf, zjn, zj0, zcl_s, zcv_s, zrd_n, zrl_n, zix_n, zwa_n, zwl_n, zI1, zI2, zL1, zL2, zR1, zR2, updE, updLE, zbl_0, zbl_1, nI_1, nI_add, nI_mulR, nI_leI, nI_ltI, nI_0le, nI_lt0, bvE, ↓reduceIte, Nat.reduceEqDiff, Nat.reduceLT, Nat.reduceAdd, Nat.reduceMul, reduceCtorEq, l2, l3, l6, l12, l27, l57, l67, l73, l103, e3, hnP, qT, mTemper, t1, Int32.sub_zero]
        refine ⟨_, _, rfl, rfl, ?_, n3.I (by omega), u3⟩
        simp (disch := omega) only [zI1, ↓reduceIte, gM_T, upd_same]
      · simp (disch := omega) only [zgi, zgl, zwi, zwf, zjn, zj0, zcl_s, zcv_s, zrd_n, zrl_n, zix_n, zwa_n, zwl_n, zI1, zI2, zL1, zL2, zR1, zR2, updE, updLE, zbl_0, zbl_1, nI_1, nI_add, nI_mulR, nI_leI, nI_ltI, nI_0le, nI_lt0, bvE, ↓reduceIte, Nat.reduceEqDiff, Nat.reduceLT, Nat.reduceAdd, Nat.reduceMul, reduceCtorEq, l2, l3, l6, l12, l27, l57, l67, l73, l103, e3, hnP, qT, mTemper, t1]
        refine ⟨_, _, rfl, rfl, ?_, n3.I (by omega), u3⟩
        simp (disch := omega) only [zI1, ↓reduceIte, gM_T]
    · rintro c s3 g ⟨rfl, k1, n3, u3⟩
      unfold f_Model_passes_B64
      simp (disch := omega) only [zgi, zgl, zwi, zwf, zjn, zj0, zcl_s, zcv_s, zrd_n, zrl_n, zix_n, zwa_n, zwl_n, zI1, zI2, zL1, zL2, zR1, zR2, updE, updLE, zbl_0, zbl_1, nI_1, nI_add, nI_mulR, nI_leI, nI_ltI, nI_0le, nI_lt0, bvE, ↓reduceIte, Nat.reduceEqDiff, Nat.reduceLT, Nat.reduceAdd, Nat.reduceMul, reduceCtorEq, (c2.n n3).2.2.1, Nat.le_refl]
      refine rt_s ⟨?_, (h3.tr (n2.tr n3)).I (by omega)⟩
      simp (disch := omega) only [zI1, ↓reduceIte, Nat.reduceEqDiff, gM_D, qD, u3, u2]
      rw [k1]
      rfl
end MM
