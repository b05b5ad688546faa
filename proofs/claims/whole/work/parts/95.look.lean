/-! ruled, look. -/
theorem isF_u {ft : Nat → Bool} {r : Nat} {v v' : Int32} (h : isF ft r v) (h' : isF ft r v') : v = v' := by
  rcases h with ⟨a1, a2⟩ | ⟨i, a1, a2, a3, a4⟩
  · rcases h' with ⟨b1, b2⟩ | ⟨j, b1, b2, b3, b4⟩
    · rw [a2, b2]
    · rw [a1 j b1] at b2; cases b2
  · rcases h' with ⟨b1, b2⟩ | ⟨j, b1, b2, b3, b4⟩
    · rw [b1 i a1] at a2; cases a2
    · have e : i = j := by
        by_cases h1 : i < j
        · rw [b3 i h1] at a2; cases a2
        · by_cases h2 : j < i
          · rw [a3 j h2] at b2; cases b2
          · omega
      rw [a4, b4, e]
theorem rl_all {s : ZS} {R : Nat} (h : rRu s R) : ∃ rlF : Nat → ZRl, (∀ r, r ≤ R → ∀ w : ZS, w.1 202 5 = nI r - 1 → (∀ b, 86 ≤ b → b ≤ 97 → w.1 b = s.1 b) → hC (rlF r) w) ∧ (∀ r, r ≤ R → ∀ w : ZS, w.1 216 21 = nI r - 1 → (∀ b, b = 218 ∨ b = 220 ∨ b = 221 → w.1 b = s.1 b) → hM (rlF r) w) := by
  have a : ∀ r, ∃ rl : ZRl, r ≤ R → (∀ w : ZS, w.1 202 5 = nI r - 1 → (∀ b, 86 ≤ b → b ≤ 97 → w.1 b = s.1 b) → hC rl w) ∧ (∀ w : ZS, w.1 216 21 = nI r - 1 → (∀ b, b = 218 ∨ b = 220 ∨ b = 221 → w.1 b = s.1 b) → hM rl w) := fun r => by
    by_cases hr : r ≤ R
    · obtain ⟨rl, k1, k2⟩ := rl_of h (r_of h.1 hr)
      exact ⟨rl, fun _ => ⟨k1, k2⟩⟩
    · exact ⟨none, fun e => absurd e hr⟩
  obtain ⟨rlF, b⟩ := Classical.skolem.mp a
  exact ⟨rlF, fun r hr => (b r hr).1, fun r hr => (b r hr).2⟩
theorem m_ruled {R : Nat} {ft : Nat → Bool} {s : ZS} {K : Int32 × Int32 → ZS → Option (Int32 × ZS)} {Q : Int32 × ZS → Prop} (hR : R ≤ 6) (hc : ∀ r, r ≤ R → s.1 235 r = if ft r = true then 1 else 0) (hk : ∀ v, isF ft (R + 1) v → rt (K (nI (nF ft (R + 1)), v) s) Q) : rt (zlp zN (f_Model_ruled_B36 K) ((0 : Int32), (-2 : Int32), nI R) s) Q := by
  refine lp_rt (R + 1) (fun i a s1 => s1 = s ∧ a.2.2 = nI (R + 1 - i) - 1 ∧ a.1 = nI (nF ft (R + 1) - nF ft (R + 1 - i)) ∧ ((∀ r, R + 1 - i ≤ r → r ≤ R → ft r = false) ∧ a.2.1 = -2 ∨ ∃ r, R + 1 - i ≤ r ∧ r ≤ R ∧ ft r = true ∧ (∀ j, R + 1 - i ≤ j → j < r → ft j = false) ∧ a.2.1 = nI r - 1)) (by omega) ⟨rfl, by rw [Nat.sub_zero, nI_pred], by rw [Nat.sub_zero, Nat.sub_self]; rfl, Or.inl ⟨fun r h1 h2 => by omega, rfl⟩⟩ ?_ ?_
  · rintro i ⟨x1, x2, x3⟩ s1 g hi ⟨rfl, e3, e1, hh⟩
    left
    dsimp only at e1 e3 hh
    obtain ⟨k, hk2⟩ : ∃ k, R + 1 - i = k + 1 := ⟨R - i, by omega⟩
    have hk3 : R + 1 - (i + 1) = k := by omega
    rw [hk2] at e1 e3 hh
    rw [nI_pred] at e3
    subst e1 e3
    have hm := nF_mono ft (k + 1) (R + 1 - (k + 1))
    rw [show k + 1 + (R + 1 - (k + 1)) = R + 1 by omega] at hm
    have ek : nI k + (-1 : Int32) = nI k - 1 := (Int32.sub_eq_add_neg _ _).symm
    unfold f_Model_ruled_B36
    simp (disch := omega) only [nI_lt0, ↓reduceIte, zrd_n, hc k (by omega), zjn, ek]
    cases hf : ft k
    · simp only [Bool.false_eq_true, ↓reduceIte, not_true_eq_false]
      refine ⟨_, _, rfl, rfl, by rw [hk3], by rw [hk3, nFS ft k, if_neg (by rw [hf]; decide)], ?_⟩
      rw [hk3]
      rcases hh with ⟨z1, z2⟩ | ⟨r, z1, z2, z3, z4, z5⟩
      · refine Or.inl ⟨fun r h1 h2 => ?_, z2⟩
        by_cases e : r = k
        · rw [e]; exact hf
        · exact z1 r (by omega) h2
      · refine Or.inr ⟨r, by omega, z2, z3, fun j h1 h2 => ?_, z5⟩
        by_cases e : j = k
        · rw [e]; exact hf
        · exact z4 j (by omega) h2
    · simp only [↓reduceIte, i10, not_false_eq_true]
      rw [nFS, if_pos hf] at hm
      refine ⟨_, _, rfl, rfl, by rw [hk3], ?_, ?_⟩
      · dsimp only
        rw [hk3, nFS ft k, if_pos hf, nI_1]
        congr 1; omega
      · rw [hk3]
        exact Or.inr ⟨k, by omega, by omega, hf, fun j h1 h2 => by omega, rfl⟩
  · rintro ⟨x1, x2, x3⟩ s1 g ⟨rfl, e3, e1, hh⟩
    dsimp only at e1 e3 hh
    rw [Nat.sub_self] at e1 e3 hh
    subst e1 e3
    have h0 : nI 0 - 1 < (0 : Int32) := by decide
    unfold f_Model_ruled_B36
    simp only [h0, ↓reduceIte]
    refine hk x2 ?_
    rcases hh with ⟨z1, z2⟩ | ⟨r, z1, z2, z3, z4, z5⟩
    · exact Or.inl ⟨fun i hi => z1 i (by omega) (by omega), z2⟩
    · exact Or.inr ⟨r, by omega, z3, fun j hj => z4 j (by omega) hj, z5⟩
theorem st_ruled (w : Int32) : stp (f_Ring_ruled w) (f_Model_ruled w) := by
  refine stq (fun s hR => ?_)
  obtain ⟨R, P, Q, h1, h2, h3, h4, h5, h6, h7⟩ := id hR
  obtain ⟨rlF, A, B⟩ := rl_all h2
  obtain ⟨m, nd, np, nw, n1, n2, n3, n4⟩ := no_of h3.2.2.2.2.1
  have nM1 : noM P m nd np nw s := ⟨n2, n3, n4⟩
  have hft : ∀ r, ftB P Q (s.1 226) rlF m nd np nw r = true ↔ fitP P Q (s.1 226) rlF m nd np nw r := fun r => ftB_t
  unfold f_Ring_ruled f_Model_ruled
  rcases told_c h3 with ⟨c0, m0⟩ | ⟨c0, m0⟩
  · refine ⟨-3, ?_, fun s' hs' => ?_⟩
    · simp only [zgi, zgl, zwi, zwf, zjn, zj0, zcl_s, zcv_s, zrd_n, zrl_n, zix_n, zwa_n, zwl_n, zI1, zI2, zL1, zL2, zR1, zR2, updE, updLE, zbl_0, zbl_1, nI_1, nI_add, nI_mulR, nI_leI, nI_ltI, nI_0le, nI_lt0, bvE, ↓reduceIte, Nat.reduceEqDiff, Nat.reduceLT, Nat.reduceAdd, Nat.reduceMul, reduceCtorEq, i10, i01, eq_self, or_true, true_or, false_or, or_false, not_true_eq_false, not_false_eq_true, if_true, if_false, c0]; exact rt_s ⟨rfl, frm.rf⟩
    · have m0' : s'.1 226 0 = 0 := by rw [hs' 226 (by omega)]; exact m0
      simp only [zgi, zgl, zwi, zwf, zjn, zj0, zcl_s, zcv_s, zrd_n, zrl_n, zix_n, zwa_n, zwl_n, zI1, zI2, zL1, zL2, zR1, zR2, updE, updLE, zbl_0, zbl_1, nI_1, nI_add, nI_mulR, nI_leI, nI_ltI, nI_0le, nI_lt0, bvE, ↓reduceIte, Nat.reduceEqDiff, Nat.reduceLT, Nat.reduceAdd, Nat.reduceMul, reduceCtorEq, i10, i01, eq_self, or_true, true_or, false_or, or_false, not_true_eq_false, not_false_eq_true, if_true, if_false, m_isSmithy, m0']; exact rt_s ⟨rfl, qM.rf⟩
  · by_cases hw : w = 0 ∨ w = 1
    · obtain ⟨s1, r1, F1, v1, v2, _⟩ := c_find (D := 0) h2 h3 A n1 (by omega) hft
      refine ⟨if w = 0 then s1.1 206 4 else s1.1 206 5, ?_, fun s' hs' => ?_⟩
      · have r1' : f_Fore_findFits (nI R) (-1) s = some s1 := r1
        simp only [zgi, c0, i10, ↓reduceIte, cEi, hw, zcl_s, not_false_eq_true, h2.2.1, r1', zcv_s]
        by_cases w0 : w = 0
        · simp only [w0, not_true_eq_false, ↓reduceIte]; exact rt_s ⟨rfl, F1⟩
        · simp only [w0, not_false_eq_true, ↓reduceIte]; exact rt_s ⟨rfl, F1⟩
      · have m0' : s'.1 226 0 = 1 := by rw [hs' 226 (by omega)]; exact m0
        simp only [zcl_s, m_isSmithy, m0', i10, ↓reduceIte, mIn01, hw, not_false_eq_true]
        refine rt_cv (m_fill (n0 := 0) h2 h3 h6 h7 B nM1 (by omega) hft hs') ?_
        rintro s2 ⟨q2, f2, _⟩
        have e2 : s2.1 216 2 = nI R := by rw [q2.2 2 (by omega), hs' 216 (by omega)]; exact h2.2.2.1
        simp only [zgi, e2, zjn]
        refine m_ruled h2.1 f2 (fun v hv => ?_)
        by_cases w0 : w = 0
        · simp only [w0, not_true_eq_false, ↓reduceIte]; exact rt_s ⟨v1.symm, q2⟩
        · simp only [w0, not_false_eq_true, ↓reduceIte]; exact rt_s ⟨isF_u hv v2, q2⟩
    · refine ⟨-3, ?_, fun s' hs' => ?_⟩
      · simp only [zgi, zgl, zwi, zwf, zjn, zj0, zcl_s, zcv_s, zrd_n, zrl_n, zix_n, zwa_n, zwl_n, zI1, zI2, zL1, zL2, zR1, zR2, updE, updLE, zbl_0, zbl_1, nI_1, nI_add, nI_mulR, nI_leI, nI_ltI, nI_0le, nI_lt0, bvE, ↓reduceIte, Nat.reduceEqDiff, Nat.reduceLT, Nat.reduceAdd, Nat.reduceMul, reduceCtorEq, i10, i01, eq_self, or_true, true_or, false_or, or_false, not_true_eq_false, not_false_eq_true, if_true, if_false, c0, cEi, hw]; exact rt_s ⟨rfl, frm.rf⟩
      · have m0' : s'.1 226 0 = 1 := by rw [hs' 226 (by omega)]; exact m0
        simp only [zgi, zgl, zwi, zwf, zjn, zj0, zcl_s, zcv_s, zrd_n, zrl_n, zix_n, zwa_n, zwl_n, zI1, zI2, zL1, zL2, zR1, zR2, updE, updLE, zbl_0, zbl_1, nI_1, nI_add, nI_mulR, nI_leI, nI_ltI, nI_0le, nI_lt0, bvE, ↓reduceIte, Nat.reduceEqDiff, Nat.reduceLT, Nat.reduceAdd, Nat.reduceMul, reduceCtorEq, i10, i01, eq_self, or_true, true_or, false_or, or_false, not_true_eq_false, not_false_eq_true, if_true, if_false, m_isSmithy, m0', mIn01, hw]; exact rt_s ⟨rfl, qM.rf⟩
/-! how many are alike -/
def cA (G : Nat → Int32) (v : Int32) (i : Nat) : Nat := itr i (fun j c => if v = G j then c + 1 else c) 0
def mA (N : Nat) (G : Nat → Int32) (i : Nat) : Nat := itr i (fun o x => if x < cA G (G o) N then cA G (G o) N else x) 0
def lkC (ft : Nat → Bool) (W : Nat → Int32) (v : Int32) (i : Nat) : Nat := itr i (fun j c => if ft j = true ∧ v = W j then c + 1 else c) 0
def lkM (R : Nat) (ft : Nat → Bool) (W : Nat → Int32) (i : Nat) : Nat := itr i (fun o x => if x < (if ft o = true then lkC ft W (W o) (R + 1) else 0) then (if ft o = true then lkC ft W (W o) (R + 1) else 0) else x) 0
theorem cAS (G : Nat → Int32) (v : Int32) (i : Nat) : cA G v (i + 1) = if v = G i then cA G v i + 1 else cA G v i := rfl
theorem mAS (N : Nat) (G : Nat → Int32) (i : Nat) : mA N G (i + 1) = if mA N G i < cA G (G i) N then cA G (G i) N else mA N G i := rfl
theorem lkCS (ft : Nat → Bool) (W : Nat → Int32) (v : Int32) (i : Nat) : lkC ft W v (i + 1) = if ft i = true ∧ v = W i then lkC ft W v i + 1 else lkC ft W v i := rfl
theorem lkMS (R : Nat) (ft : Nat → Bool) (W : Nat → Int32) (i : Nat) : lkM R ft W (i + 1) = if lkM R ft W i < (if ft i = true then lkC ft W (W i) (R + 1) else 0) then (if ft i = true then lkC ft W (W i) (R + 1) else 0) else lkM R ft W i := rfl
theorem cA_le (G : Nat → Int32) (v : Int32) (i : Nat) : cA G v i ≤ i := by
  induction i with
  | zero => exact Nat.le_refl _
  | succ i ih => rw [cAS]; split <;> omega
theorem cR_le (ft : Nat → Bool) (W : Nat → Int32) (v : Int32) (i : Nat) : lkC ft W v i ≤ i := by
  induction i with
  | zero => exact Nat.le_refl _
  | succ i ih => rw [lkCS]; split <;> omega
theorem mA_le (N : Nat) (G : Nat → Int32) (i : Nat) : mA N G i ≤ N := by
  induction i with
  | zero => exact Nat.zero_le _
  | succ i ih => rw [mAS]; have := cA_le G (G i) N; split <;> omega
theorem mR_le (R : Nat) (ft : Nat → Bool) (W : Nat → Int32) (i : Nat) : lkM R ft W i ≤ R + 1 := by
  induction i with
  | zero => exact Nat.zero_le _
  | succ i ih => rw [lkMS]; have := cR_le ft W (W i) (R + 1); split <;> (try split) <;> omega
theorem cA_pos {G : Nat → Int32} {v : Int32} {j : Nat} (hv : v = G j) : ∀ k, 0 < cA G v (j + 1 + k) := by
  intro k
  induction k with
  | zero => rw [Nat.add_zero, cAS, if_pos hv]; omega
  | succ k ih => rw [← Nat.add_assoc, cAS]; split <;> omega
theorem mA_pos {N : Nat} {G : Nat → Int32} (hN : 0 < N) : 0 < mA N G N := by
  have h1 : ∀ k, 0 < mA N G (0 + 1 + k) := by
    intro k
    induction k with
    | zero =>
      rw [Nat.add_zero, mAS]
      have := cA_pos (G := G) (v := G 0) (j := 0) rfl (N - 1)
      rw [show 0 + 1 + (N - 1) = N by omega] at this
      rw [if_pos (show mA N G 0 < _ from this)]; exact this
    | succ k ih => rw [← Nat.add_assoc, mAS]; split <;> omega
  have := h1 (N - 1)
  rw [show 0 + 1 + (N - 1) = N by omega] at this
  exact this
section AL
variable {R : Nat} {ft : Nat → Bool} {W G : Nat → Int32}
theorem cR_A (h : ∀ r, r ≤ R → ft r = true → G (nF ft r) = W r) (v : Int32) : ∀ i, i ≤ R + 1 → lkC ft W v i = cA G v (nF ft i) := by
  intro i
  induction i with
  | zero => intro _; rfl
  | succ i ih =>
    intro hi
    rw [lkCS, nFS, ih (by omega)]
    by_cases hf : ft i = true
    · rw [if_pos hf, cAS, h i (by omega) hf]
      by_cases e : v = W i
      · rw [if_pos ⟨hf, e⟩, if_pos e]
      · rw [if_neg (fun z => e z.2), if_neg e]
    · rw [if_neg (fun z => hf z.1), if_neg hf]
theorem mR_A (h : ∀ r, r ≤ R → ft r = true → G (nF ft r) = W r) : ∀ i, i ≤ R + 1 → lkM R ft W i = mA (nF ft (R + 1)) G (nF ft i) := by
  intro i
  induction i with
  | zero => intro _; rfl
  | succ i ih =>
    intro hi
    rw [lkMS, nFS ft i, ih (by omega)]
    by_cases hf : ft i = true
    · simp only [hf, ↓reduceIte]
      rw [mAS, h i (by omega) hf, cR_A h _ (R + 1) (Nat.le_refl _)]
    · simp only [hf, ↓reduceIte, Nat.not_lt_zero, Bool.false_eq_true]
end AL
theorem c_alike {N p : Nat} {s : ZS} (hN : s.1 206 4 = nI N) (hN7 : N ≤ 7) (hp : p < 5) : rt (f_Fore_mostAlike (nI p) s) (fun w => w = (nI (mA N (fun i => s.1 212 (5 * i + p)) N), s)) := by
  generalize hG : (fun i => s.1 212 (5 * i + p)) = G
  have rd : ∀ i, s.1 212 (i * 5 + p) = G i := fun i => by rw [← hG, Nat.mul_comm]
  unfold f_Fore_mostAlike
  refine lp_rt N (fun i a s1 => s1 = s ∧ a = (nI (mA N G i), nI i)) (by omega) ⟨rfl, rfl⟩ ?_ ?_
  · rintro i a s1 g hi ⟨rfl, rfl⟩
    have hni : ¬ N ≤ i := by omega
    unfold f_Fore_mostAlike_B4
    simp (disch := omega) only [zgi, hN, nI_leI, hni, ↓reduceIte, zjn, nI_1]
    refine lp_go (n := N) (fun j a s2 => s2 = s1 ∧ a = (nI (cA G (G i) j), nI j)) (fun o => (∃ a' s', o = g a' s' ∧ s' = s1 ∧ a' = (nI (mA N G (i + 1)), nI (i + 1))) ∨ _) (by omega) ⟨rfl, rfl⟩ ?_ ?_
    · rintro j a s2 g2 hj ⟨rfl, rfl⟩
      left
      have hnj : ¬ N ≤ j := by omega
      refine ⟨(nI (cA G (G i) (j + 1)), nI (j + 1)), s2, ?_, rfl, rfl⟩
      unfold f_Fore_mostAlike_B18
      simp (disch := omega) only [zgi, hN, nI_leI, hnj, ↓reduceIte, l5, nI_mulR, nI_add, zrd_n, rd, zjn, nI_1, cAS]
      by_cases e : G i = G j
      · simp only [e, not_true_eq_false, ↓reduceIte]
      · simp only [e, not_false_eq_true, ↓reduceIte]
    · rintro a s2 g2 ⟨rfl, rfl⟩
      unfold f_Fore_mostAlike_B18
      simp (disch := omega) only [zgi, hN, nI_leI, Nat.le_refl, ↓reduceIte]
      left
      refine ⟨_, _, rfl, rfl, ?_⟩
      have h1 := cA_le G (G i) N
      have h2 := mA_le N G i
      rw [mAS]
      by_cases e : mA N G i < cA G (G i) N
      · rw [if_pos e, if_pos (by rw [nI_ltI (by omega) (by omega)]; exact e)]
      · rw [if_neg e, if_neg (by rw [nI_ltI (by omega) (by omega)]; exact e)]
  · rintro a s1 g ⟨rfl, rfl⟩
    unfold f_Fore_mostAlike_B4
    simp (disch := omega) only [zgi, hN, nI_leI, Nat.le_refl, ↓reduceIte]
    exact rt_s rfl
theorem m_alike {R p : Nat} {ft : Nat → Bool} {s : ZS} (hR : s.1 216 2 = nI R) (hR6 : R ≤ 6) (hp : p < 5) (hf : ∀ r, r ≤ R → s.1 235 r = if ft r = true then 1 else 0) : rt (f_Model_alikeAt (nI p) s) (fun w => w = (nI (lkM R ft (fun i => s.1 236 (5 * i + p)) (R + 1)), s)) := by
  generalize hG : (fun i => s.1 236 (5 * i + p)) = W
  have rd : ∀ i, s.1 236 (5 * i + p) = W i := fun i => by rw [← hG]
  unfold f_Model_alikeAt
  refine lp_rt (R + 1) (fun i a s1 => s1 = s ∧ a = (nI (lkM R ft W i), nI i)) (by omega) ⟨rfl, rfl⟩ ?_ ?_
  · rintro i a s1 g hi ⟨rfl, rfl⟩
    left
    have hni : ¬ R < i := by omega
    refine ⟨(nI (lkM R ft W (i + 1)), nI (i + 1)), s1, ?_, rfl, rfl⟩
    have tail : ∀ c : Nat, c ≤ R + 1 → c = (if ft i = true then lkC ft W (W i) (R + 1) else 0) → (if nI c ≤ nI (lkM R ft W i) then g (nI (lkM R ft W i), nI (i + 1)) s1 else g (nI c, nI (i + 1)) s1) = g (nI (lkM R ft W (i + 1)), nI (i + 1)) s1 := by
      intro c hc e
      have h2 := mR_le R ft W i
      rw [lkMS, ← e]
      by_cases h : lkM R ft W i < c
      · rw [if_pos h, if_neg (nI_ge h (by omega))]
      · rw [if_neg h, if_pos (nI_le (by omega) (by omega))]
    unfold f_Model_alikeAt_B4
    simp (disch := omega) only [zgi, hR, nI_ltI, hni, ↓reduceIte, zjn, nI_1]
    refine lp_go (n := R + 1) (fun j a s2 => s2 = s1 ∧ ft i = true ∧ a = (nI (lkC ft W (W i) j), nI j) ∨ s2 = s1 ∧ ft i = false ∧ a = (nI 0, nI 0)) (fun o => o = g (nI (lkM R ft W (i + 1)), nI (i + 1)) s1) (by omega) ?_ ?_ ?_
    · cases hfi : ft i
      · exact Or.inr ⟨rfl, rfl, rfl⟩
      · exact Or.inl ⟨rfl, rfl, rfl⟩
    · rintro j a s2 g2 hj (⟨rfl, hfi, rfl⟩ | ⟨rfl, hfi, rfl⟩)
      · left
        have hnj : ¬ R < j := by omega
        refine ⟨(nI (lkC ft W (W i) (j + 1)), nI (j + 1)), s2, ?_, Or.inl ⟨rfl, hfi, rfl⟩⟩
        unfold f_Model_alikeAt_B18
        simp (disch := omega) only [zgi, hR, nI_ltI, hnj, ↓reduceIte, zrd_n, hf i (by omega), hfi, i10, hf j (by omega), zjn, zj0, l5, nI_mulR, nI_add, rd, nI_1, lkCS]
        cases hfj : ft j
        · simp only [Bool.false_eq_true, ↓reduceIte, false_and, Int32.add_zero]
        · by_cases e : W i = W j
          · simp only [e, ↓reduceIte, i10, not_true_eq_false, and_self, nI_1]
          · simp only [e, ↓reduceIte, i10, not_false_eq_true, and_false, Int32.add_zero]
      · right
        have hnj : ¬ R < 0 := by omega
        unfold f_Model_alikeAt_B18
        simp (disch := omega) only [zgi, hR, nI_ltI, hnj, ↓reduceIte, zrd_n, hf i (by omega), hfi, Bool.false_eq_true]
        exact tail 0 (by omega) (by rw [hfi]; rfl)
    · rintro a s2 g2 (⟨rfl, hfi, rfl⟩ | ⟨rfl, hfi, rfl⟩)
      · have hnj : R < R + 1 := by omega
        unfold f_Model_alikeAt_B18
        simp (disch := omega) only [zgi, hR, nI_ltI, hnj, ↓reduceIte]
        exact tail _ (cR_le _ _ _ _) (by rw [if_pos hfi])
      · have hnj : ¬ R < 0 := by omega
        unfold f_Model_alikeAt_B18
        simp (disch := omega) only [zgi, hR, nI_ltI, hnj, ↓reduceIte, zrd_n, hf i (by omega), hfi, Bool.false_eq_true]
        exact tail 0 (by omega) (by rw [hfi]; rfl)
  · rintro a s1 g ⟨rfl, rfl⟩
    have hnj : R < R + 1 := by omega
    unfold f_Model_alikeAt_B4
    simp (disch := omega) only [zgi, hR, nI_ltI, hnj, ↓reduceIte]
    exact rt_s rfl
def ptS (al : Nat → Nat) (i : Nat) : Option (Nat × Nat) := itr i (fun p x => match x with
  | none => some (p, al p)
  | some y => if y.2 ≤ al p then some y else some (p, al p)) none
def ptI : Option (Nat × Nat) → Int32 × Int32
  | none => (-2, -2)
  | some y => (nI y.1, nI y.2)
theorem ptSS (al : Nat → Nat) (i : Nat) : ptS al (i + 1) = match ptS al i with
  | none => some (i, al i)
  | some y => if y.2 ≤ al i then some y else some (i, al i) := rfl
theorem ptS_b {al : Nat → Nat} (h : ∀ p, al p ≤ 7) : ∀ i y, ptS al i = some y → y.1 < i ∧ y.2 ≤ 7 := by
  intro i
  induction i with
  | zero => intro y e; cases e
  | succ i ih =>
    intro y e
    rw [ptSS] at e
    cases hp : ptS al i with
    | none => rw [hp] at e; injection e with e; rw [← e]; exact ⟨by show i < i + 1; omega, h i⟩
    | some z =>
      rw [hp] at e
      have := ih z hp
      dsimp only at e
      split at e
      · injection e with e; rw [← e]; exact ⟨by omega, this.2⟩
      · injection e with e; rw [← e]; exact ⟨by show i < i + 1; omega, h i⟩
theorem st_look (y0 w : Int32) : stp (f_Ring_look y0 w) (f_Model_look y0 w) := by
  refine stq (fun s hR => ?_)
  obtain ⟨R, P, Q, h1, h2, h3, h4, h5, h6, h7⟩ := id hR
  have hP := h3.1.1
  have hR6 := h2.1
  obtain ⟨rlF, A, B⟩ := rl_all h2
  obtain ⟨m, nd, np, nw, n1, n2, n3, n4⟩ := no_of h3.2.2.2.2.1
  have nM1 : noM P m nd np nw s := ⟨n2, n3, n4⟩
  have hft : ∀ r, ftB P Q (s.1 226) rlF m nd np nw r = true ↔ fitP P Q (s.1 226) rlF m nd np nw r := fun r => ftB_t
  have hin : ∀ s' : ZS, f_Model_in y0.toInt64 0 60 s' = some (if (0 : Int32) ≤ y0 ∧ y0 ≤ 60 then 1 else 0, s') := fun s' => mIn (by decide) (by decide)
  unfold f_Ring_look f_Model_look
  rcases told_c h3 with ⟨c0, m0⟩ | ⟨c0, m0⟩
  · refine ⟨-1, ?_, fun s' hs' => ?_⟩
    · simp only [zgi, zgl, zwi, zwf, zjn, zj0, zcl_s, zcv_s, zrd_n, zrl_n, zix_n, zwa_n, zwl_n, zI1, zI2, zL1, zL2, zR1, zR2, updE, updLE, zbl_0, zbl_1, nI_1, nI_add, nI_mulR, nI_leI, nI_ltI, nI_0le, nI_lt0, bvE, ↓reduceIte, Nat.reduceEqDiff, Nat.reduceLT, Nat.reduceAdd, Nat.reduceMul, reduceCtorEq, i10, i01, eq_self, or_true, true_or, false_or, or_false, not_true_eq_false, not_false_eq_true, if_true, if_false, c0]; exact rt_s ⟨rfl, frm.rf⟩
    · have m0' : s'.1 226 0 = 0 := by rw [hs' 226 (by omega)]; exact m0
      simp only [zgi, zgl, zwi, zwf, zjn, zj0, zcl_s, zcv_s, zrd_n, zrl_n, zix_n, zwa_n, zwl_n, zI1, zI2, zL1, zL2, zR1, zR2, updE, updLE, zbl_0, zbl_1, nI_1, nI_add, nI_mulR, nI_leI, nI_ltI, nI_0le, nI_lt0, bvE, ↓reduceIte, Nat.reduceEqDiff, Nat.reduceLT, Nat.reduceAdd, Nat.reduceMul, reduceCtorEq, i10, i01, eq_self, or_true, true_or, false_or, or_false, not_true_eq_false, not_false_eq_true, if_true, if_false, m_isSmithy, m0']; exact rt_s ⟨rfl, qM.rf⟩
  · rcases nIn y0 0 60 (by omega) (by omega) with ⟨n0, _, y2, rfl⟩ | hno
    · have hy : (0 : Int32) ≤ nI n0 ∧ nI n0 ≤ 60 := ⟨nI_pos' (by omega), by rw [show (60 : Int32) = nI 60 from rfl, nI_leI (by omega) (by omega)]; exact y2⟩
      have a1 : ¬ nI n0 < 0 := Int32.not_lt.mpr hy.1
      have a2 : ¬ (60 : Int32) < nI n0 := Int32.not_lt.mpr hy.2
      by_cases hw : w = 0 ∨ w = 1
      · generalize hfe : ftB P Q (s.1 226) rlF m nd np nw = ft at hft
        obtain ⟨s1, r1, F1, v1, _, v3⟩ := c_find (D := n0 + 1) h2 h3 A n1 (by omega) hft
        rw [nI_pred] at r1
        have hN7 := nF_le ft (R + 1)
        generalize hNe : nF ft (R + 1) = N at v1 hN7
        have hal : ∀ p, p < 5 → lkM R ft (fun i => (dS P Q (s.1 226) rlF i (n0 + 1)).2.1 p) (R + 1) = mA N (fun i => s1.1 212 (5 * i + p)) N := fun p hp => by
          rw [← hNe]
          exact mR_A (fun r hr hf => v3 (by omega) r hr hf p hp) (R + 1) (Nat.le_refl _)
        generalize hald : (fun p => mA N (fun i => s1.1 212 (5 * i + p)) N) = al
        have hal7 : ∀ p, al p ≤ 7 := fun p => by rw [← hald]; have := mA_le N (fun i => s1.1 212 (5 * i + p)) N; dsimp only; omega
        have hpt := ptS_b hal7
        generalize hV : (if N = 0 then ((-2 : Int32), (-2 : Int32)) else ptI (ptS al P)) = V
        refine ⟨if w = 0 then V.1 else V.2, ?_, fun s' hs' => ?_⟩
        · have e43 : s1.1 4 3 = nI P := by rw [F1.1 4 (by omega)]; exact h3.cC.2.2.1
          have key : rt (f_Fore_parting w s1) (fun w_1 => w_1 = (if w = 0 then V.1 else V.2, s1)) := by
            unfold f_Fore_parting
            simp (disch := omega) only [zgi, v1, zjn, nI_le0]
            by_cases hN0 : N = 0
            · rw [if_pos hN0, ← hV, if_pos hN0]
              by_cases w0 : w = 0
              · simp only [w0, not_true_eq_false, ↓reduceIte]; exact rt_s rfl
              · simp only [w0, not_false_eq_true, ↓reduceIte]; exact rt_s rfl
            · rw [if_neg hN0]
              rw [if_neg hN0] at hV
              refine lp_rt P (fun i a s2 => s2 = s1 ∧ a = ((ptI (ptS al i)).1, (ptI (ptS al i)).2, nI i)) (by omega) ⟨rfl, rfl⟩ ?_ ?_
              · rintro i a s2 g hi ⟨rfl, rfl⟩
                left
                have hni : ¬ P ≤ i := by omega
                obtain ⟨_, ra, rfl⟩ := c_alike (p := i) v1 (by omega) (by omega)
                have hali : mA N (fun j => s2.1 212 (5 * j + i)) N = al i := by rw [← hald]
                rw [hali] at ra
                refine ⟨((ptI (ptS al (i + 1))).1, (ptI (ptS al (i + 1))).2, nI (i + 1)), s2, ?_, rfl, rfl⟩
                unfold f_Fore_parting_B16
                simp (disch := omega) only [zgi, e43, nI_leI, hni, ↓reduceIte, ra, zcl_s, zjn, zj0, nI_1]
                rw [ptSS]
                cases hp : ptS al i with
                | none => rw [if_pos (show (ptI none).1 = -2 from rfl)]; rfl
                | some y =>
                  have hb := hpt i y hp
                  have h8 := hal7 i
                  have hne : ¬ (ptI (some y)).1 = -2 := by
                    show ¬ nI y.1 = -2
                    intro e
                    have := nI_pos' (n := y.1) (by omega)
                    rw [e] at this
                    exact absurd this (by decide)
                  rw [if_neg hne]
                  dsimp only
                  by_cases h : y.2 ≤ al i
                  · rw [if_pos h, if_pos (show (ptI (some y)).2 ≤ nI (al i) from nI_le h (by omega))]
                  · rw [if_neg h, if_neg (show ¬ (ptI (some y)).2 ≤ nI (al i) from nI_ge (by omega) (by omega))]; rfl
              · rintro a s2 g ⟨rfl, rfl⟩
                unfold f_Fore_parting_B16
                simp (disch := omega) only [zgi, e43, nI_leI, Nat.le_refl, ↓reduceIte]
                rw [← hV]
                by_cases w0 : w = 0
                · simp only [w0, not_true_eq_false, ↓reduceIte]; exact rt_s rfl
                · simp only [w0, not_false_eq_true, ↓reduceIte]; exact rt_s rfl
          obtain ⟨_, r3, rfl⟩ := key
          simp only [zgi, c0, i10, ↓reduceIte, a1, a2, cEi, hw, zcl_s, not_false_eq_true, h2.2.1, r1, zcv_s, r3]
          exact rt_s ⟨rfl, F1⟩
        · have m0' : s'.1 226 0 = 1 := by rw [hs' 226 (by omega)]; exact m0
          simp only [zcl_s, m_isSmithy, m0', i10, ↓reduceIte, hin, hy, and_self, mIn01, hw, not_false_eq_true]
          refine rt_cv (m_fill (n0 := n0) h2 h3 h6 h7 B nM1 y2 hft hs') ?_
          rintro s2 ⟨q2, f2, w2⟩
          have e2 : s2.1 216 2 = nI R := by rw [q2.2 2 (by omega), hs' 216 (by omega)]; exact h2.2.2.1
          have e3 : s2.1 226 3 = nI P := by rw [q2.1 226 (by omega), hs' 226 (by omega)]; exact h3.cM.2.2.1
          have mal : ∀ p, p < 5 → lkM R ft (fun i => s2.1 236 (5 * i + p)) (R + 1) = al p := fun p hp => by
            rw [← hald]
            dsimp only
            rw [← hal p hp]
            rw [mR_A (G := fun i => s1.1 212 (5 * i + p)) (fun r hr hf => ?_) (R + 1) (Nat.le_refl _), mR_A (G := fun i => s1.1 212 (5 * i + p)) (fun r hr hf => v3 (by omega) r hr hf p hp) (R + 1) (Nat.le_refl _)]
            show s1.1 212 (5 * nF ft r + p) = s2.1 236 (5 * r + p)
            rw [w2 r hr p hp]
            exact v3 (by omega) r hr hf p hp
          simp only [zjn]
          refine lp_rt P (fun i a s3 => s3 = s2 ∧ a = ((if N = 0 then ((-2 : Int32), (-2 : Int32)) else ptI (ptS al i)).1, (if N = 0 then ((-2 : Int32), (-2 : Int32)) else ptI (ptS al i)).2, nI i)) (by omega) ⟨rfl, by split <;> rfl⟩ ?_ ?_
          · rintro i a s3 g hi ⟨rfl, rfl⟩
            left
            have hni : ¬ P ≤ i := by omega
            obtain ⟨_, ra, rfl⟩ := m_alike (p := i) e2 hR6 (by omega) f2
            rw [mal i (by omega)] at ra
            have h8 := hal7 i
            refine ⟨((if N = 0 then ((-2 : Int32), (-2 : Int32)) else ptI (ptS al (i + 1))).1, (if N = 0 then ((-2 : Int32), (-2 : Int32)) else ptI (ptS al (i + 1))).2, nI (i + 1)), s3, ?_, rfl, rfl⟩
            unfold f_Model_look_B46
            simp (disch := omega) only [zgi, e3, nI_leI, hni, ↓reduceIte, ra, zcl_s, zjn, zj0, nI_1, nI_eq0]
            by_cases hN0 : N = 0
            · have h0 : al i = 0 := by rw [← hald]; dsimp only; have := mA_le N (fun j => s1.1 212 (5 * j + i)) N; omega
              rw [if_pos h0]
              simp only [hN0, ↓reduceIte]
            · have h0 : ¬ al i = 0 := by rw [← hald]; dsimp only; have := mA_pos (G := fun j => s1.1 212 (5 * j + i)) (show 0 < N by omega); omega
              rw [if_neg h0]
              simp only [hN0, ↓reduceIte]
              rw [ptSS]
              cases hp : ptS al i with
              | none => rw [if_pos (show (ptI none).1 < 0 by decide)]; rfl
              | some y =>
                have hb := hpt i y hp
                have hne : ¬ (ptI (some y)).1 < 0 := nI_pos (by omega)
                rw [if_neg hne]
                dsimp only
                by_cases h : y.2 ≤ al i
                · rw [if_pos h, if_neg (show ¬ nI (al i) < (ptI (some y)).2 from nI_nlt h (by omega))]
                · rw [if_neg h, if_pos (show nI (al i) < (ptI (some y)).2 from nI_lt (by omega) (by omega))]; rfl
          · rintro a s3 g ⟨rfl, rfl⟩
            unfold f_Model_look_B46
            simp (disch := omega) only [zgi, e3, nI_leI, Nat.le_refl, ↓reduceIte]
            simp only [hV]
            by_cases w0 : w = 0
            · simp only [w0, not_true_eq_false, ↓reduceIte]; exact rt_s ⟨rfl, q2⟩
            · simp only [w0, not_false_eq_true, ↓reduceIte]; exact rt_s ⟨rfl, q2⟩
      · refine ⟨-1, ?_, fun s' hs' => ?_⟩
        · simp only [zgi, zgl, zwi, zwf, zjn, zj0, zcl_s, zcv_s, zrd_n, zrl_n, zix_n, zwa_n, zwl_n, zI1, zI2, zL1, zL2, zR1, zR2, updE, updLE, zbl_0, zbl_1, nI_1, nI_add, nI_mulR, nI_leI, nI_ltI, nI_0le, nI_lt0, bvE, ↓reduceIte, Nat.reduceEqDiff, Nat.reduceLT, Nat.reduceAdd, Nat.reduceMul, reduceCtorEq, i10, i01, eq_self, or_true, true_or, false_or, or_false, not_true_eq_false, not_false_eq_true, if_true, if_false, c0, a1, a2, cEi, hw]; exact rt_s ⟨rfl, frm.rf⟩
        · have m0' : s'.1 226 0 = 1 := by rw [hs' 226 (by omega)]; exact m0
          simp only [zgi, zgl, zwi, zwf, zjn, zj0, zcl_s, zcv_s, zrd_n, zrl_n, zix_n, zwa_n, zwl_n, zI1, zI2, zL1, zL2, zR1, zR2, updE, updLE, zbl_0, zbl_1, nI_1, nI_add, nI_mulR, nI_leI, nI_ltI, nI_0le, nI_lt0, bvE, ↓reduceIte, Nat.reduceEqDiff, Nat.reduceLT, Nat.reduceAdd, Nat.reduceMul, reduceCtorEq, i10, i01, eq_self, or_true, true_or, false_or, or_false, not_true_eq_false, not_false_eq_true, if_true, if_false, m_isSmithy, m0', hin, hy, and_self, mIn01, hw]; exact rt_s ⟨rfl, qM.rf⟩
    · have hno' : ¬ ((0 : Int32) ≤ y0 ∧ y0 ≤ 60) := hno
      refine ⟨-1, ?_, fun s' hs' => ?_⟩
      · by_cases a1 : y0 < 0
        · simp only [zgi, zgl, zwi, zwf, zjn, zj0, zcl_s, zcv_s, zrd_n, zrl_n, zix_n, zwa_n, zwl_n, zI1, zI2, zL1, zL2, zR1, zR2, updE, updLE, zbl_0, zbl_1, nI_1, nI_add, nI_mulR, nI_leI, nI_ltI, nI_0le, nI_lt0, bvE, ↓reduceIte, Nat.reduceEqDiff, Nat.reduceLT, Nat.reduceAdd, Nat.reduceMul, reduceCtorEq, i10, i01, eq_self, or_true, true_or, false_or, or_false, not_true_eq_false, not_false_eq_true, if_true, if_false, c0, a1]; exact rt_s ⟨rfl, frm.rf⟩
        · have a2 : (60 : Int32) < y0 := Int32.not_le.mp (fun e => hno' ⟨Int32.not_lt.mp a1, e⟩)
          simp only [zgi, zgl, zwi, zwf, zjn, zj0, zcl_s, zcv_s, zrd_n, zrl_n, zix_n, zwa_n, zwl_n, zI1, zI2, zL1, zL2, zR1, zR2, updE, updLE, zbl_0, zbl_1, nI_1, nI_add, nI_mulR, nI_leI, nI_ltI, nI_0le, nI_lt0, bvE, ↓reduceIte, Nat.reduceEqDiff, Nat.reduceLT, Nat.reduceAdd, Nat.reduceMul, reduceCtorEq, i10, i01, eq_self, or_true, true_or, false_or, or_false, not_true_eq_false, not_false_eq_true, if_true, if_false, c0, a1, a2]; exact rt_s ⟨rfl, frm.rf⟩
      · have m0' : s'.1 226 0 = 1 := by rw [hs' 226 (by omega)]; exact m0
        simp only [zgi, zgl, zwi, zwf, zjn, zj0, zcl_s, zcv_s, zrd_n, zrl_n, zix_n, zwa_n, zwl_n, zI1, zI2, zL1, zL2, zR1, zR2, updE, updLE, zbl_0, zbl_1, nI_1, nI_add, nI_mulR, nI_leI, nI_ltI, nI_0le, nI_lt0, bvE, ↓reduceIte, Nat.reduceEqDiff, Nat.reduceLT, Nat.reduceAdd, Nat.reduceMul, reduceCtorEq, i10, i01, eq_self, or_true, true_or, false_or, or_false, not_true_eq_false, not_false_eq_true, if_true, if_false, m_isSmithy, m0', hin, hno']; exact rt_s ⟨rfl, qM.rf⟩
