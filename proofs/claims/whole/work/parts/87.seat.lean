/-! benches: rows by their number. -/
def vN (m : Nat) (x : Nat → Nat) : Nat → Nat
  | 0 => 0
  | i + 1 => vN m x i * m + x i
theorem vNS (m : Nat) (x : Nat → Nat) (i : Nat) : vN m x (i + 1) = vN m x i * m + x i := rfl
theorem vN_b {m : Nat} {x : Nat → Nat} : ∀ i, (∀ j, j < i → x j < m) → vN m x i < m ^ i := by
  intro i
  induction i with
  | zero => intro _; exact Nat.one_pos
  | succ i ih =>
    intro h
    have h1 := ih (fun j hj => h j (by omega))
    have h2 := h i (by omega)
    have h3 : (vN m x i + 1) * m ≤ m ^ i * m := Nat.mul_le_mul_right m h1
    rw [vNS, Nat.pow_succ]
    rw [Nat.add_mul] at h3
    omega
theorem vN_c {m : Nat} {x y : Nat → Nat} : ∀ i, (∀ j, j < i → x j = y j) → vN m x i = vN m y i := by
  intro i
  induction i with
  | zero => intro _; rfl
  | succ i ih => intro h; rw [vNS, vNS, ih (fun j hj => h j (by omega)), h i (by omega)]
theorem vN_l {m P : Nat} {z x : Nat → Nat} (hz : ∀ j, j < P → z j < m) (h : bnL P z x) : vN m z P < vN m x P := by
  obtain ⟨i, hi, h1, h2⟩ := h
  have key : ∀ k, i + 1 + k ≤ P → vN m z (i + 1 + k) < vN m x (i + 1 + k) := by
    intro k
    induction k with
    | zero =>
      intro _
      show vN m z (i + 1) < vN m x (i + 1)
      rw [vNS, vNS, vN_c i h1]; omega
    | succ k ih =>
      intro hk
      have h3 := ih (by omega)
      have h4 : (vN m z (i + 1 + k) + 1) * m ≤ vN m x (i + 1 + k) * m := Nat.mul_le_mul_right m h3
      have h5 := hz (i + 1 + k) (by omega)
      rw [← Nat.add_assoc, vNS, vNS]
      rw [Nat.add_mul] at h4
      omega
  have := key (P - (i + 1)) (by omega)
  rw [show i + 1 + (P - (i + 1)) = P by omega] at this
  exact this
theorem vN_u {m : Nat} {x y : Nat → Nat} : ∀ i, (∀ j, j < i → x j < m) → (∀ j, j < i → y j < m) → vN m x i = vN m y i → ∀ j, j < i → x j = y j := by
  intro i
  induction i with
  | zero => intro _ _ _ j hj; omega
  | succ i ih =>
    intro hx hy h j hj
    rw [vNS, vNS] at h
    have h1 := hx i (by omega)
    have h2 := hy i (by omega)
    have e1 : x i = y i := by
      have := congrArg (· % m) h
      simp only [Nat.mul_add_mod_self_right, Nat.mod_eq_of_lt h1, Nat.mod_eq_of_lt h2] at this
      exact this
    have e2 : vN m x i = vN m y i := by
      rw [e1] at h
      exact Nat.eq_of_mul_eq_mul_right (show 0 < m by omega) (Nat.add_right_cancel h)
    by_cases e : j = i
    · rw [e]; exact e1
    · exact ih (fun j hj => hx j (by omega)) (fun j hj => hy j (by omega)) e2 j (by omega)
/-- the p-th number of the row with the number N -/
def dg (m P N p : Nat) : Nat := N / m ^ (P - 1 - p) % m
theorem dg_v {m P N : Nat} (h : N < m ^ P) : ∀ i, i ≤ P → vN m (dg m P N) i = N / m ^ (P - i) := by
  intro i
  induction i with
  | zero => intro _; exact (Nat.div_eq_of_lt h).symm
  | succ i ih =>
    intro hi
    rw [vNS, ih (by omega)]
    have e1 : P - i = (P - 1 - i) + 1 := by omega
    have e2 : P - (i + 1) = P - 1 - i := by omega
    unfold dg
    rw [e1, e2, Nat.pow_succ, ← Nat.div_div_eq_div_mul, Nat.mul_comm]
    exact Nat.div_add_mod _ _
theorem dg_P {m P N : Nat} (h : N < m ^ P) : vN m (dg m P N) P = N := by
  rw [dg_v h P (Nat.le_refl _), Nat.sub_self, Nat.pow_zero, Nat.div_one]
theorem c_dig {P m N : Nat} {s : ZS} {k10 : ZS → Option (Int32 × ZS)} {Z : Option (Int32 × ZS) → Prop} (hP : P ≤ 5) (hm : m ≤ 5) (hN : N < m ^ P)
    (hk : ∀ s1, frm (fun b => b = 215) s s1 → (∀ q, q < P → s1.1 215 q = nI (dg m P N q)) → Z (k10 s1)) : Z (zlp zN (f_Hand_seat_B50 (nI m) k10) (nI N, nI P - 1) s) := by
  have hN2 : N < 3126 := by
    have h1 : m ^ P ≤ 5 ^ P := Nat.pow_le_pow_left hm P
    have h2 : 5 ^ P ≤ 5 ^ 5 := Nat.pow_le_pow_right (by omega) hP
    have h3 : (5 : Nat) ^ 5 = 3125 := by decide
    omega
  refine lp_go (n := P) (fun k a s1 => a.1 = nI (N / m ^ k) ∧ a.2 = nI (P - k) - 1 ∧ frm (fun b => b = 215) s s1 ∧ ∀ q, q < P → P - k ≤ q → s1.1 215 q = nI (dg m P N q)) Z (by omega) ⟨by rw [Nat.pow_zero, Nat.div_one], rfl, frm.rf, fun q h1 h2 => by omega⟩ ?_ ?_
  · rintro k ⟨x1, x2⟩ s1 g hk2 ⟨e1, e2, F, hc⟩
    left
    dsimp only at e1 e2
    subst e1 e2
    have hm0 : 0 < m := by
      rcases Nat.eq_zero_or_pos m with h | h
      · rw [h, Nat.zero_pow (by omega)] at hN; omega
      · exact h
    have hd : N / m ^ k ≤ N := Nat.div_le_self _ _
    have hmI : ¬ nI m = 0 := by rw [nI_eq0 (by omega)]; omega
    have hmL : ¬ nI m ≤ 0 := by rw [nI_le0 (by omega)]; omega
    have hrem : nI (N / m ^ k) - nI (N / m ^ k) / nI m * nI m = nI (N / m ^ k % m) := by
      rw [nI_divN (by omega) (by omega), nI_mulR, nI_sub (Nat.div_mul_le_self _ _)]
      congr 1
      have := Nat.div_add_mod (N / m ^ k) m
      rw [Nat.mul_comm m] at this
      omega
    have hq : nI (N / m ^ k) / nI m = nI (N / m ^ (k + 1)) := by
      rw [nI_divN (by omega) (by omega), Nat.pow_succ, Nat.div_div_eq_div_mul]
    have ep : nI (P - k) - 1 = nI (P - 1 - k) := by rw [nI_sub1 _ (by omega)]; congr 1; omega
    have ep2 : nI (P - 1 - k) + (-1 : Int32) = nI (P - (k + 1)) - 1 := by
      rw [← Int32.sub_eq_add_neg]; congr 2; omega
    refine ⟨(nI (N / m ^ (k + 1)), nI (P - (k + 1)) - 1), zsI s1 215 (P - 1 - k) (nI (N / m ^ k % m)), ?_, rfl, rfl, F.I rfl, ?_⟩
    · unfold f_Hand_seat_B50
      simp (disch := omega) only [ep, hrem]
      simp (disch := omega) only [nI_lt0, ↓reduceIte, hmL, zdv_n hmI, zwa_n, hq, ep2]
    · intro q h1 h2
      rw [zI1, if_pos rfl, updE]
      by_cases e : q = P - 1 - k
      · rw [if_pos e, e]; unfold dg; rw [show P - 1 - (P - 1 - k) = k by omega]
      · rw [if_neg e]; exact hc q h1 (by omega)
  · rintro ⟨x1, x2⟩ s1 g ⟨e1, e2, F, hc⟩
    dsimp only at e1 e2
    subst e1 e2
    have hl : (nI (P - P) - 1 < 0) = True := by rw [Nat.sub_self]; exact eq_true (by decide)
    unfold f_Hand_seat_B50
    simp only [hl, ↓reduceIte]
    exact hk s1 F (fun q hq => hc q hq (by omega))
theorem c_seat {P Q m : Nat} {C : Nat → Int32} {s : ZS} (hc : cC P Q C s) (hm : m ≤ 5) : rt (f_Hand_seat (nI m) s) (fun w => frm (fun b => b = 215) s w.2 ∧ (w.1 = 1 ∧ (∃ x, bnF C P m x ∧ ∀ q, q < P → w.2.1 215 q = nI (x q)) ∨ w.1 = 0 ∧ ∀ x, ¬ bnR C P m x)) := by
  have hP := hc.1
  have e3 : s.1 4 3 = nI P := hc.2.2.1
  have hpb : ∀ i, i ≤ P → m ^ i < 3126 := by
    intro i hi
    have h1 : m ^ i ≤ 5 ^ i := Nat.pow_le_pow_left hm i
    have h2 : 5 ^ i ≤ 5 ^ 5 := Nat.pow_le_pow_right (by omega) (by omega)
    have h3 : (5 : Nat) ^ 5 = 3125 := by decide
    omega
  have hpP := hpb P (Nat.le_refl _)
  unfold f_Hand_seat
  simp only [zgi, e3, zjn]
  refine lp_rt P (fun i a s1 => s1 = s ∧ a = (nI (m ^ i), nI i)) (by omega) ⟨rfl, by rw [Nat.pow_zero]; rfl⟩ ?_ ?_
  · rintro i a s1 g hi ⟨rfl, rfl⟩
    left
    have hni : ¬ P ≤ i := by omega
    refine ⟨(nI (m ^ (i + 1)), nI (i + 1)), s1, ?_, rfl, rfl⟩
    unfold f_Hand_seat_B16
    simp (disch := omega) only [nI_leI, hni, ↓reduceIte, nI_mulR, nI_1, Nat.pow_succ]
  · rintro a s1 g ⟨rfl, rfl⟩
    unfold f_Hand_seat_B16
    simp (disch := omega) only [nI_leI, Nat.le_refl, ↓reduceIte]
    refine lp_rt (m ^ P) (fun N a s2 => a = nI N ∧ frm (fun b => b = 215) s1 s2 ∧ ∀ N', N' < N → ¬ bnR C P m (dg m P N')) (by omega) ⟨rfl, frm.rf, fun N' h => by omega⟩ ?_ ?_
    · rintro N a s2 g2 hN ⟨rfl, F, hno⟩
      have hni : ¬ m ^ P ≤ N := by omega
      unfold f_Hand_seat_B35
      simp (disch := omega) only [nI_leI, hni, ↓reduceIte, zj0]
      refine c_dig (Z := fun o => (∃ a' s', o = g2 a' s' ∧ a' = nI (N + 1) ∧ frm (fun b => b = 215) s1 s' ∧ ∀ N', N' < N + 1 → ¬ bnR C P m (dg m P N')) ∨ rt o (fun w => frm (fun b => b = 215) s1 w.2 ∧ (w.1 = 1 ∧ (∃ x, bnF C P m x ∧ ∀ q, q < P → w.2.1 215 q = nI (x q)) ∨ w.1 = 0 ∧ ∀ x, ¬ bnR C P m x))) hP hm hN ?_
      intro s3 F3 hcell
      have F4 := F.tr F3
      have hc3 : cC P Q C s3 := hc.f F4 (fun b h1 h2 => by omega)
      obtain ⟨⟨v, s4⟩, r4, e4, hv⟩ := c_hears hc3
      dsimp only at e4 hv
      subst e4
      have hdm : ∀ q, q < P → dg m P N q < m := by
        intro q hq
        refine Nat.mod_lt _ ?_
        rcases Nat.eq_zero_or_pos m with h | h
        · rw [h, Nat.zero_pow (by omega)] at hN; omega
        · exact h
      have hsg : ∀ p, p < P → (sits C (s4.1 215) p p ↔ bnG C (dg m P N) p) := fun p hp => sits_G (fun q hq => hcell q (by omega)) (fun q hq => by have := hdm q (by omega); omega)
      rcases hv with ⟨rfl, hv⟩ | ⟨rfl, hv⟩
      · right
        have hR : bnR C P m (dg m P N) := fun p hp => ⟨hdm p hp, (hsg p hp).mp (hv p hp)⟩
        simp only [r4, zcl_s, i10, ↓reduceIte, zbl_1]
        refine rt_s ⟨F4, Or.inl ⟨rfl, dg m P N, ⟨hR, ?_⟩, hcell⟩⟩
        intro z hz hl
        have h1 := vN_l (fun j hj => (hz j hj).1) hl
        rw [dg_P hN] at h1
        have h2 : vN m z P < m ^ P := by omega
        refine hno _ h1 (bnR_c (vN_u P (fun j hj => (hz j hj).1) ?_ (dg_P h2).symm) hz)
        intro j hj
        refine Nat.mod_lt _ ?_
        have := (hz j hj).1
        omega
      · left
        simp only [r4, zcl_s, ↓reduceIte, nI_1]
        refine ⟨_, _, rfl, rfl, F4, fun N' h => ?_⟩
        by_cases e : N' = N
        · rw [e]
          exact fun hR => hv (fun p hp => (hsg p hp).mpr (hR p hp).2)
        · exact hno N' (by omega)
    · rintro a s2 g2 ⟨rfl, F, hno⟩
      unfold f_Hand_seat_B35
      simp (disch := omega) only [nI_leI, Nat.le_refl, ↓reduceIte, zbl_0]
      refine rt_s ⟨F, Or.inr ⟨rfl, fun x hx => ?_⟩⟩
      have h2 : vN m x P < m ^ P := vN_b P (fun j hj => (hx j hj).1)
      refine hno _ h2 (bnR_c (vN_u P (fun j hj => (hx j hj).1) ?_ (dg_P h2).symm) hx)
      intro j hj
      refine Nat.mod_lt _ ?_
      have := (hx j hj).1
      omega
