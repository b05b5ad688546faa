/-! gold. -/
theorem nI_tI {a : Nat} (h : a < 2147483648) : (nI a).toInt = (a : Int) := Int32.toInt_ofNat_of_lt (by omega)
theorem nI_divN {a b : Nat} (ha : a < 2147483648) (hb : b < 2147483648) : nI a / nI b = nI (a / b) := by
  have hq : a / b ≤ a := Nat.div_le_self _ _
  apply Int32.toInt_inj.mp
  rw [Int32.toInt_div, nI_tI ha, nI_tI hb, nI_tI (show a / b < 2147483648 by omega), ← Int.ofNat_tdiv]
  have : ∀ q : Nat, q ≤ a → ((q : Nat) : Int).bmod (2 ^ 32) = (q : Int) := fun q hq => Int.bmod_eq_of_le_mul_two (by omega) (by omega)
  exact this _ hq
section GD
variable (w : Nat → Nat) (m a p : Nat)
def gQ (n : Nat) : Nat := itr n (fun k x => x + m * w k / a) 0
def gR (n : Nat) : Nat := itr n (fun k x => x + m * w k % a) 0
def gW (n : Nat) : Nat := itr n (fun k x => x + w k) 0
abbrev gAh (k : Nat) : Prop := m * w p % a < m * w k % a ∨ (m * w k % a = m * w p % a ∧ k < p)
def gC (n : Nat) : Nat := itr n (fun k x => if gAh w m a p k then x + 1 else x) 0
def gD (n : Nat) : Nat := itr n (fun k x => if w k = 0 then x else if gAh w m a p k then x + 1 else x) 0
def gZ (n : Nat) : Nat := itr n (fun k x => if m * w k % a = 0 then x else x + 1) 0
theorem gQS (n : Nat) : gQ w m a (n + 1) = gQ w m a n + m * w n / a := rfl
theorem gRS (n : Nat) : gR w m a (n + 1) = gR w m a n + m * w n % a := rfl
theorem gWS (n : Nat) : gW w (n + 1) = gW w n + w n := rfl
theorem gCS (n : Nat) : gC w m a p (n + 1) = if gAh w m a p n then gC w m a p n + 1 else gC w m a p n := rfl
theorem gDS (n : Nat) : gD w m a p (n + 1) = if w n = 0 then gD w m a p n else if gAh w m a p n then gD w m a p n + 1 else gD w m a p n := rfl
theorem gZS (n : Nat) : gZ w m a (n + 1) = if m * w n % a = 0 then gZ w m a n else gZ w m a n + 1 := rfl
theorem gQR (n : Nat) : gQ w m a n * a + gR w m a n = m * gW w n := by
  induction n with
  | zero => show 0 * a + 0 = m * 0; omega
  | succ n ih =>
    rw [gQS, gRS, gWS, Nat.add_mul, Nat.mul_add, ← ih]
    have := Nat.div_add_mod (m * w n) a
    rw [Nat.mul_comm a] at this
    omega
theorem gWm (i : Nat) : ∀ n, gW w i ≤ gW w (i + n) := by
  intro n
  induction n with
  | zero => exact Nat.le_refl _
  | succ n ih => rw [← Nat.add_assoc, gWS]; omega
theorem gQ_le {n P : Nat} (ha : 0 < a) (h : gW w P = a) (hn : n ≤ P) : gQ w m a n ≤ m := by
  have h1 := gQR w m a n
  have h2 := gWm w n (P - n)
  rw [show n + (P - n) = P by omega, h] at h2
  have h3 := Nat.mul_le_mul_left m h2
  exact Nat.le_of_mul_le_mul_right (c := a) (by omega) ha
theorem gRZ (ha : 0 < a) (n : Nat) : gR w m a n + gZ w m a n ≤ gZ w m a n * a := by
  induction n with
  | zero => show 0 + 0 ≤ 0 * a; omega
  | succ n ih =>
    rw [gRS, gZS]
    have := Nat.mod_lt (m * w n) ha
    split
    · omega
    · rw [Nat.add_mul]; omega
theorem gCle (n : Nat) : gC w m a p n ≤ n := by
  induction n with
  | zero => exact Nat.le_refl _
  | succ n ih => rw [gCS]; split <;> omega
theorem gDC (n : Nat) : gD w m a p n ≤ gC w m a p n := by
  induction n with
  | zero => exact Nat.le_refl _
  | succ n ih => rw [gDS, gCS]; split <;> split <;> omega
theorem gZD (h : m * w p % a = 0) (n : Nat) : gZ w m a n ≤ gD w m a p n := by
  induction n with
  | zero => exact Nat.le_refl _
  | succ n ih =>
    rw [gDS, gZS]
    by_cases h0 : m * w n % a = 0
    · rw [if_pos h0]; split
      · exact ih
      · split <;> omega
    · have hw : ¬ w n = 0 := fun e => h0 (by rw [e, Nat.mul_zero, Nat.zero_mod])
      have hg : gAh w m a p n := by unfold gAh; omega
      rw [if_neg h0, if_neg hw, if_pos hg]; omega
theorem gCD (h : ¬ m * w p % a = 0) (n : Nat) : gC w m a p n = gD w m a p n := by
  induction n with
  | zero => rfl
  | succ n ih =>
    rw [gDS, gCS, ih]
    by_cases hw : w n = 0
    · have h0 : m * w n % a = 0 := by rw [hw, Nat.mul_zero, Nat.zero_mod]
      have hg : ¬ gAh w m a p n := by unfold gAh; omega
      rw [if_neg hg, if_pos hw]
    · rw [if_neg hw]
theorem g_main {P : Nat} (ha : 0 < a) (h : gW w P = a) : (m - gQ w m a P ≤ gC w m a p P) = (m - gQ w m a P ≤ gD w m a p P) := by
  by_cases h0 : m * w p % a = 0
  · have e1 := gQR w m a P
    have e2 := gRZ w m a ha P
    have e3 := gQ_le w m a ha h (Nat.le_refl P)
    rw [h] at e1
    have e4 : (m - gQ w m a P) * a ≤ gZ w m a P * a := by rw [Nat.sub_mul]; omega
    have e5 := Nat.le_of_mul_le_mul_right e4 ha
    have e6 := gZD w m a p h0 P
    have e7 := gDC w m a p P
    exact propext ⟨fun _ => by omega, fun _ => by omega⟩
  · rw [gCD w m a p h0]
end GD
theorem sSum_gW {W : Nat → Int32} {w : Nat → Nat} {n : Nat} (h : ∀ k, k < n → W k = nI (w k)) : ∀ i, i ≤ n → sSum W i = nI (gW w i) := by
  intro i
  induction i with
  | zero => intro _; rfl
  | succ i ih =>
    intro hi
    rw [gWS]
    show sSum W i + W i = _
    rw [ih (by omega), h i (by omega), nI_add]
theorem g_mul {m x : Nat} (hm : m ≤ 9999) (hx : x ≤ 99) : m * x ≤ 989901 := Nat.le_trans (Nat.mul_le_mul hm hx) (by omega)
theorem g_div {m x a : Nat} (hm : m ≤ 9999) (hx : x ≤ 99) (ha : a < 2147483648) : nI m * nI x / nI a = nI (m * x / a) := by
  rw [nI_mulR, nI_divN (by have := g_mul hm hx; omega) ha]
theorem g_rem {m x a : Nat} (hm : m ≤ 9999) (hx : x ≤ 99) (ha : a < 2147483648) : nI m * nI x - nI m * nI x / nI a * nI a = nI (m * x % a) := by
  rw [g_div hm hx ha, nI_mulR, nI_mulR, nI_sub (Nat.div_mul_le_self _ _)]
  congr 1
  have := Nat.div_add_mod (m * x) a
  rw [Nat.mul_comm a] at this
  omega
theorem g_leaf {w : Nat → Nat} {m a p P : Nat} (hm : m ≤ 9999) (hP : P ≤ 5) : (nI (m - gQ w m a P) ≤ nI (gC w m a p P)) = (m - gQ w m a P ≤ gC w m a p P) := by
  have := gCle w m a p P
  exact propext (nI_leI (by omega) (by omega))
theorem st_gold (y p : Int32) : stp (f_Ring_gold y p) (f_Model_gold y p) := by
  refine stq (fun s hR => ?_)
  obtain ⟨R, P, Q, h1, h2, h3, h4, h5, h6, h7⟩ := id hR
  have hP := h3.1.1
  have g := h3.g
  have e3 : s.1 4 3 = nI P := h3.cC.2.2.1
  have hok := h3.2.2.2.1.1
  have mc : ∀ s' : ZS, (∀ b, ¬ (202 ≤ b ∧ b ≤ 215) → s'.1 b = s.1 b) → cM P Q (s.1 226) s' := fun s' hs' => by unfold cM; rw [hs' 226 (by omega)]; exact h3.cM
  have hin : ∀ s' : ZS, f_Model_in y.toInt64 0 9999 s' = some (if (0 : Int32) ≤ y ∧ y ≤ 9999 then 1 else 0, s') := fun s' => mIn (by decide) (by decide)
  unfold f_Ring_gold f_Model_gold
  rcases nIn y 0 9999 (by omega) (by omega) with ⟨m, _, hm, rfl⟩ | hno
  · have hy : (0 : Int32) ≤ nI m ∧ nI m ≤ 9999 := ⟨nI_pos' (by omega), by rw [show (9999 : Int32) = nI 9999 from rfl, nI_leI (by omega) (by omega)]; exact hm⟩
    have y1 : ¬ nI m < 0 := Int32.not_lt.mpr hy.1
    have y2 : ¬ (9999 : Int32) < nI m := Int32.not_lt.mpr hy.2
    rcases pN p P (by omega) with ⟨k, hk, rfl⟩ | hn
    · have hw0 : ∀ j, ∃ n, n ≤ 99 ∧ (j < 5 → (gM (s.1 226)).2.1 j = nI n) := fun j => by
        by_cases hj : j < 5
        · obtain ⟨n, _, n2, n3⟩ := (hok j hj).1
          exact ⟨n, n2, fun _ => n3⟩
        · exact ⟨0, by omega, fun e => absurd e hj⟩
      obtain ⟨w, hw⟩ := Classical.skolem.mp hw0
      have hwW : ∀ j, j < 5 → (gM (s.1 226)).2.1 j = nI (w j) := fun j hj => (hw j).2 hj
      have hw9 : ∀ j, w j ≤ 99 := fun j => (hw j).1
      have hW1 : ∀ j, j < 5 → s.1 12 j = nI (w j) := fun j hj => by rw [rW10 hj, g]; exact hwW j hj
      have hgw : ∀ n, n ≤ 5 → gW w n ≤ 99 * n := by
        intro n
        induction n with
        | zero => intro _; exact Nat.le_refl _
        | succ n ih => intro hn; rw [gWS]; have := hw9 n; have := ih (by omega); omega
      have hS : sSum (gM (s.1 226)).2.1 P = nI (gW w P) := sSum_gW (n := P) (fun j hj => hwW j (by omega)) P (Nat.le_refl _)
      have hS5 : sSum (gS 10 s).2.1 5 = nI (gW w P) := by rw [g, sSum_P hP hok.zW, hS]
      have hga := hgw P hP
      have hkw : w k ≤ gW w P := by
        have h1 := gWm w (k + 1) (P - (k + 1))
        rw [show k + 1 + (P - (k + 1)) = P by omega, gWS] at h1; omega
      by_cases hW : w k = 0
      · refine ⟨0, ?_, fun s' hs' => ?_⟩
        · have hz : (nI (w k) = 0) = True := by rw [nI_eq0 (by omega)]; exact eq_true hW
          unfold f_Hand_goldPart
          simp (disch := omega) only [y1, y2, ↓reduceIte, cHas e3 hP hk, zcl_s, i10, cl_allWide10, hS5, zrd_n, hW1, hz, not_true_eq_false, not_false_eq_true]
          split <;> exact rt_s ⟨rfl, frm.rf⟩
        · have e226 : s'.1 226 = s.1 226 := hs' 226 (by omega)
          have hz : (nI (w k) = 0) = True := by rw [nI_eq0 (by omega)]; exact eq_true hW
          simp (disch := omega) only [mPair (mc s' hs').2.2.1 hP hk, zcl_s, i10, ↓reduceIte, hin, hy, and_self, not_false_eq_true, mBare (mc s' hs') hk, e226, hwW, hz]
          exact rt_s ⟨rfl, qM.rf⟩
      · generalize ha : gW w P = a at hS hS5 hga hkw
        have a0 : 0 < a := by omega
        have aI : ¬ nI a = 0 := by rw [nI_eq0 (by omega)]; omega
        have aI2 : (nI a ≤ 0) = False := by rw [show (0 : Int32) = nI 0 from rfl, nI_leI (by omega) (by omega)]; exact eq_false (by omega)
        have hz : (nI (w k) = 0) = False := by rw [nI_eq0 (by have := hw9 k; omega)]; exact eq_false hW
        have rem : ∀ j, nI m * nI (w j) - nI m * nI (w j) / nI a * nI a = nI (m * w j % a) := fun j => g_rem hm (hw9 j) (by omega)
        have dvd : ∀ j, nI m * nI (w j) / nI a = nI (m * w j / a) := fun j => g_div hm (hw9 j) (by omega)
        have rem2 : ∀ j, nI m * nI (w j) - nI (m * w j / a) * nI a = nI (m * w j % a) := fun j => by rw [← dvd j]; exact rem j
        have rl : ∀ j, m * w j % a < 495 := fun j => by have := Nat.mod_lt (m * w j) a0; omega
        have lt : ∀ i j, (nI (m * w i % a) < nI (m * w j % a)) = (m * w i % a < m * w j % a) := fun i j => propext (nI_ltI (by have := rl i; omega) (by have := rl j; omega))
        have eq : ∀ i j, (nI (m * w i % a) = nI (m * w j % a)) = (m * w i % a = m * w j % a) := fun i j => nI_inj (by have := rl i; omega) (by have := rl j; omega)
        have qs : ∀ i, i < P → nI (m - gQ w m a i) - nI (m * w i / a) = nI (m - gQ w m a (i + 1)) := fun i hi => by
          have := gQ_le w m a a0 ha (show i + 1 ≤ P by omega)
          rw [gQS] at this ⊢
          rw [nI_sub (by omega)]; congr 1; omega
        refine ⟨nI (m * w k / a) + (if m - gQ w m a P ≤ gC w m a k P then 0 else 1), ?_, fun s' hs' => ?_⟩
        · unfold f_Hand_goldPart
          simp (disch := omega) only [y1, y2, ↓reduceIte, cHas e3 hP hk, zcl_s, i10, cl_allWide10, hS5, zrd_n, hW1, hz, not_false_eq_true, aI2, zdv_n aI, zjn]
          have key : rt (zlp zN (f_Hand_goldPart_B59 (nI m) (nI k) (nI a) (nI (w k)) (fun (a8 : Int32 × Int32) (s7 : ZS) => (if a8.1 ≤ a8.2 then some ((((nI m * s7.1 12 k) / nI a) + (0 : Int32)), s7) else some ((((nI m * s7.1 12 k) / nI a) + (1 : Int32)), s7)))) (nI m, (0 : Int32), (0 : Int32)) s) (fun w_1 => w_1 = (nI (m * w k / a) + (if m - gQ w m a P ≤ gC w m a k P then 0 else 1), s)) := by
            refine lp_rt P (fun i a1 s1 => s1 = s ∧ a1.2.2 = nI i ∧ a1.1 = nI (m - gQ w m a i) ∧ a1.2.1 = nI (gC w m a k i)) (by omega) ⟨rfl, rfl, rfl, rfl⟩ ?_ ?_
            · rintro i ⟨x1, x2, x3⟩ s1 g1 hi ⟨rfl, j0, j1, j2⟩
              left
              dsimp only at j0 j1 j2
              subst j0 j1 j2
              have hni : ¬ P ≤ i := by omega
              refine ⟨(nI (m - gQ w m a (i + 1)), nI (gC w m a k (i + 1)), nI (i + 1)), s1, ?_, rfl, rfl, rfl, rfl⟩
              unfold f_Hand_goldPart_B59
              simp (disch := omega) only [zgi, e3, nI_leI, hni, ↓reduceIte, zrd_n, hW1, zdv_n aI, zjn, zj0, dvd, rem2, lt, eq, qs i hi, nI_1, gCS]
              by_cases t1 : m * w k % a < m * w i % a
              · have tg : gAh w m a k i := Or.inl t1
                simp only [t1, ↓reduceIte, tg]
              · by_cases t2 : m * w i % a = m * w k % a
                · by_cases t3 : k ≤ i
                  · have tg : ¬ gAh w m a k i := by unfold gAh; omega
                    simp only [tg, t1, t2, t3, ↓reduceIte, not_true_eq_false, Nat.lt_irrefl]
                  · have tg : gAh w m a k i := Or.inr ⟨t2, by omega⟩
                    simp only [tg, t1, t2, t3, ↓reduceIte, not_true_eq_false, Nat.lt_irrefl]
                · have tg : ¬ gAh w m a k i := by unfold gAh; omega
                  simp only [tg, t1, t2, ↓reduceIte, not_false_eq_true]
            · rintro ⟨x1, x2, x3⟩ s1 g1 ⟨rfl, j0, j1, j2⟩
              dsimp only at j0 j1 j2
              subst j0 j1 j2
              unfold f_Hand_goldPart_B59
              simp (disch := omega) only [zgi, e3, nI_leI, Nat.le_refl, ↓reduceIte, zrd_n, hW1, dvd]
              simp only [g_leaf hm hP]
              by_cases t : m - gQ w m a P ≤ gC w m a k P
              · simp only [t, ↓reduceIte]; exact rt_s rfl
              · simp only [t, ↓reduceIte]; exact rt_s rfl
          obtain ⟨v, v1, rfl⟩ := key
          rw [v1]
          exact rt_s ⟨rfl, frm.rf⟩
        · have e226 : s'.1 226 = s.1 226 := hs' 226 (by omega)
          have e3' := (mc s' hs').2.2.1
          simp (disch := omega) only [mPair e3' hP hk, zcl_s, i10, ↓reduceIte, hin, hy, and_self, not_false_eq_true, mBare (mc s' hs') hk, e226, hwW, hz, m_wideAll (mc s' hs'), hS, mBand, zjn]
          refine lp_rt P (fun i a1 s1 => s1 = s' ∧ a1.2.2 = nI i ∧ a1.1 = nI (m - gQ w m a i) ∧ a1.2.1 = nI (gD w m a k i)) (by omega) ⟨rfl, rfl, rfl, rfl⟩ ?_ ?_
          · rintro i ⟨x1, x2, x3⟩ s1 g1 hi ⟨rfl, j0, j1, j2⟩
            left
            dsimp only at j0 j1 j2
            subst j0 j1 j2
            have hni : ¬ P ≤ i := by omega
            refine ⟨(nI (m - gQ w m a (i + 1)), nI (gD w m a k (i + 1)), nI (i + 1)), s1, ?_, rfl, rfl, rfl, rfl⟩
            unfold f_Model_gold_B55
            by_cases wi : w i = 0
            · have hzi : (nI (w i) = 0) = True := by rw [nI_eq0 (by have := hw9 i; omega)]; exact eq_true wi
              have hq : gQ w m a (i + 1) = gQ w m a i := by rw [gQS, wi, Nat.mul_zero, Nat.zero_div, Nat.add_zero]
              simp (disch := omega) only [zgi, e3', nI_leI, hni, ↓reduceIte, mBare (mc s1 hs') hi, zcl_s, e226, hwW, hzi, i10, zjn, nI_1, hq]
              rw [gDS, if_pos wi]
            · have hzi : (nI (w i) = 0) = False := by rw [nI_eq0 (by have := hw9 i; omega)]; exact eq_false wi
              simp (disch := omega) only [zgi, e3', nI_leI, hni, ↓reduceIte, mBare (mc s1 hs') hi, zcl_s, e226, hwW, hzi, i10, mBand, zdv_n aI, zjn, zj0, dvd, rem2, lt, eq, qs i hi, nI_1, gDS, wi]
              by_cases t1 : m * w k % a < m * w i % a
              · have tg : gAh w m a k i := Or.inl t1
                simp only [t1, ↓reduceIte, tg, nI_1]
              · by_cases t2 : m * w i % a = m * w k % a
                · by_cases t3 : k ≤ i
                  · have tg : ¬ gAh w m a k i := by unfold gAh; omega
                    simp only [tg, t1, t2, t3, ↓reduceIte, not_true_eq_false, Nat.lt_irrefl, Int32.add_zero]
                  · have tg : gAh w m a k i := Or.inr ⟨t2, by omega⟩
                    simp only [tg, t1, t2, t3, ↓reduceIte, not_true_eq_false, Nat.lt_irrefl, nI_1]
                · have tg : ¬ gAh w m a k i := by unfold gAh; omega
                  simp only [tg, t1, t2, ↓reduceIte, not_false_eq_true, Int32.add_zero]
          · rintro ⟨x1, x2, x3⟩ s1 g1 ⟨rfl, j0, j1, j2⟩
            dsimp only at j0 j1 j2
            subst j0 j1 j2
            have hD := gDC w m a k P
            have hC := gCle w m a k P
            unfold f_Model_gold_B55
            simp (disch := omega) only [zgi, e3', nI_leI, Nat.le_refl, ↓reduceIte, dvd, zdv_n aI]
            simp only [g_main w m a k a0 ha]
            by_cases t : m - gQ w m a P ≤ gD w m a k P
            · simp only [t, ↓reduceIte]; exact rt_s ⟨rfl, qM.rf⟩
            · simp only [t, ↓reduceIte]; exact rt_s ⟨rfl, qM.rf⟩
    · refine ⟨-1, ?_, fun s' hs' => ?_⟩
      · simp only [zgi, zgl, zwi, zwf, zjn, zj0, zcl_s, zcv_s, zrd_n, zrl_n, zix_n, zwa_n, zwl_n, zI1, zI2, zL1, zL2, zR1, zR2, updE, updLE, zbl_0, zbl_1, nI_1, nI_add, nI_mulR, nI_leI, nI_ltI, nI_0le, nI_lt0, bvE, ↓reduceIte, Nat.reduceEqDiff, Nat.reduceLT, Nat.reduceAdd, Nat.reduceMul, reduceCtorEq, i10, i01, eq_self, or_true, true_or, false_or, or_false, not_true_eq_false, not_false_eq_true, if_true, if_false, y1, y2, cHasN e3 hn]; exact rt_s ⟨rfl, frm.rf⟩
      · simp only [zgi, zgl, zwi, zwf, zjn, zj0, zcl_s, zcv_s, zrd_n, zrl_n, zix_n, zwa_n, zwl_n, zI1, zI2, zL1, zL2, zR1, zR2, updE, updLE, zbl_0, zbl_1, nI_1, nI_add, nI_mulR, nI_leI, nI_ltI, nI_0le, nI_lt0, bvE, ↓reduceIte, Nat.reduceEqDiff, Nat.reduceLT, Nat.reduceAdd, Nat.reduceMul, reduceCtorEq, i10, i01, eq_self, or_true, true_or, false_or, or_false, not_true_eq_false, not_false_eq_true, if_true, if_false, mPairN (mc s' hs').2.2.1 hn]; exact rt_s ⟨rfl, qM.rf⟩
  · have hno' : ¬ ((0 : Int32) ≤ y ∧ y ≤ 9999) := hno
    refine ⟨-1, ?_, fun s' hs' => ?_⟩
    · by_cases y1 : y < 0
      · simp only [zgi, zgl, zwi, zwf, zjn, zj0, zcl_s, zcv_s, zrd_n, zrl_n, zix_n, zwa_n, zwl_n, zI1, zI2, zL1, zL2, zR1, zR2, updE, updLE, zbl_0, zbl_1, nI_1, nI_add, nI_mulR, nI_leI, nI_ltI, nI_0le, nI_lt0, bvE, ↓reduceIte, Nat.reduceEqDiff, Nat.reduceLT, Nat.reduceAdd, Nat.reduceMul, reduceCtorEq, i10, i01, eq_self, or_true, true_or, false_or, or_false, not_true_eq_false, not_false_eq_true, if_true, if_false, y1]; exact rt_s ⟨rfl, frm.rf⟩
      · have y2 : (9999 : Int32) < y := Int32.not_le.mp (fun e => hno' ⟨Int32.not_lt.mp y1, e⟩)
        simp only [zgi, zgl, zwi, zwf, zjn, zj0, zcl_s, zcv_s, zrd_n, zrl_n, zix_n, zwa_n, zwl_n, zI1, zI2, zL1, zL2, zR1, zR2, updE, updLE, zbl_0, zbl_1, nI_1, nI_add, nI_mulR, nI_leI, nI_ltI, nI_0le, nI_lt0, bvE, ↓reduceIte, Nat.reduceEqDiff, Nat.reduceLT, Nat.reduceAdd, Nat.reduceMul, reduceCtorEq, i10, i01, eq_self, or_true, true_or, false_or, or_false, not_true_eq_false, not_false_eq_true, if_true, if_false, y1, y2]; exact rt_s ⟨rfl, frm.rf⟩
    · rcases pN p P (by omega) with ⟨k, hk, rfl⟩ | hn
      · simp only [zgi, zgl, zwi, zwf, zjn, zj0, zcl_s, zcv_s, zrd_n, zrl_n, zix_n, zwa_n, zwl_n, zI1, zI2, zL1, zL2, zR1, zR2, updE, updLE, zbl_0, zbl_1, nI_1, nI_add, nI_mulR, nI_leI, nI_ltI, nI_0le, nI_lt0, bvE, ↓reduceIte, Nat.reduceEqDiff, Nat.reduceLT, Nat.reduceAdd, Nat.reduceMul, reduceCtorEq, i10, i01, eq_self, or_true, true_or, false_or, or_false, not_true_eq_false, not_false_eq_true, if_true, if_false, mPair (mc s' hs').2.2.1 hP hk, hin, hno']; exact rt_s ⟨rfl, qM.rf⟩
      · simp only [zgi, zgl, zwi, zwf, zjn, zj0, zcl_s, zcv_s, zrd_n, zrl_n, zix_n, zwa_n, zwl_n, zI1, zI2, zL1, zL2, zR1, zR2, updE, updLE, zbl_0, zbl_1, nI_1, nI_add, nI_mulR, nI_leI, nI_ltI, nI_0le, nI_lt0, bvE, ↓reduceIte, Nat.reduceEqDiff, Nat.reduceLT, Nat.reduceAdd, Nat.reduceMul, reduceCtorEq, i10, i01, eq_self, or_true, true_or, false_or, or_false, not_true_eq_false, not_false_eq_true, if_true, if_false, mPairN (mc s' hs').2.2.1 hn]; exact rt_s ⟨rfl, qM.rf⟩
