/-! benches: the first row. -/
theorem lp_rank {A R : Type} {B : A → ZS → (A → ZS → Option R) → Option R} {n : Nat} (J : Nat → A → ZS → Prop) (Z : Option R → Prop) {r0 : Nat} {a : A} {s : ZS} (hn : n < 900000) (h0 : J r0 a s)
    (hb : ∀ r a s, J r a s → r ≤ n)
    (hs : ∀ r a s g, J r a s → (∃ a' s' r', B a s g = g a' s' ∧ r < r' ∧ J r' a' s') ∨ Z (B a s g)) : Z (zlp zN B a s) := by
  refine lp_go (n := n) (fun i a s => ∃ r, i ≤ r ∧ J r a s) Z hn ⟨r0, Nat.zero_le _, h0⟩ ?_ ?_
  · rintro i a s g hi ⟨r, h1, h2⟩
    rcases hs r a s g h2 with ⟨a', s', r', e, h3, h4⟩ | h
    · exact Or.inl ⟨a', s', e, r', by omega, h4⟩
    · exact Or.inr h
  · rintro a s g ⟨r, h1, h2⟩
    rcases hs r a s g h2 with ⟨a', s', r', e, h3, h4⟩ | h
    · have := hb _ _ _ h4; omega
    · exact h
def bnG (C : Nat → Int32) (x : Nat → Nat) (p : Nat) : Prop := ∀ o, o < p → ¬ (x o = x p ∧ bt (C (103 + p)) o = true)
def bnR (C : Nat → Int32) (P m : Nat) (x : Nat → Nat) : Prop := ∀ p, p < P → x p < m ∧ bnG C x p
def bnL (P : Nat) (z x : Nat → Nat) : Prop := ∃ i, i < P ∧ (∀ j, j < i → z j = x j) ∧ z i < x i
def bnF (C : Nat → Int32) (P m : Nat) (x : Nat → Nat) : Prop := bnR C P m x ∧ ∀ z, bnR C P m z → ¬ bnL P z x
theorem bnG_c {C : Nat → Int32} {x y : Nat → Nat} {p : Nat} (h : ∀ j, j ≤ p → x j = y j) (hg : bnG C x p) : bnG C y p := by
  intro o ho e
  rw [← h o (by omega), ← h p (by omega)] at e
  exact hg o ho e
theorem bnR_c {C : Nat → Int32} {P m : Nat} {x y : Nat → Nat} (h : ∀ j, j < P → x j = y j) (hg : bnR C P m x) : bnR C P m y := fun p hp => ⟨by rw [← h p hp]; exact (hg p hp).1, bnG_c (fun j hj => h j (by omega)) (hg p hp).2⟩
theorem bnF_u {C : Nat → Int32} {P m : Nat} {x y : Nat → Nat} (hx : bnF C P m x) (hy : bnF C P m y) : ∀ p, p < P → x p = y p := by
  intro p
  induction p using Nat.strongRecOn with
  | _ p ih =>
    intro hp
    by_cases h1 : x p < y p
    · exact absurd ⟨p, hp, fun j hj => ih j hj (by omega), h1⟩ (hy.2 x hx.1)
    · by_cases h2 : y p < x p
      · exact absurd ⟨p, hp, fun j hj => (ih j hj (by omega)).symm, h2⟩ (hx.2 y hy.1)
      · omega
theorem sits_G {C x : Nat → Int32} {y : Nat → Nat} {p : Nat} (h : ∀ q, q ≤ p → x q = nI (y q)) (hb : ∀ q, q ≤ p → y q < 1000) : sits C x p p ↔ bnG C y p := by
  unfold sits bnG
  constructor
  · intro hs o ho e
    refine hs o ho ⟨?_, e.2⟩
    rw [h o (by omega), h p (by omega), e.1]
  · intro hs o ho e
    refine hs o ho ⟨?_, e.2⟩
    have e1 := e.1
    rw [h o (by omega), h p (by omega), nI_inj (by have := hb o (by omega); omega) (by have := hb p (by omega); omega)] at e1
    exact e1
def upN (x : Nat → Nat) (p v : Nat) : Nat → Nat := fun k => if k = p then v else x k
theorem upN_s (x : Nat → Nat) (p v : Nat) : upN x p v p = v := if_pos rfl
theorem upN_o {x : Nat → Nat} {p v k : Nat} (h : k ≠ p) : upN x p v k = x k := if_neg h
def bnU (m : Nat) : Nat → Nat
  | 0 => 1
  | k + 1 => m * bnU m k + 2
def bnT (P m : Nat) (x : Nat → Nat) : Nat → Nat
  | 0 => 0
  | p + 1 => bnT P m x p + (x p * bnU m (P - 1 - p) + 1)
theorem bnU_p (m k : Nat) : 0 < bnU m k := by
  cases k with
  | zero => exact Nat.one_pos
  | succ k => show 0 < m * bnU m k + 2; omega
theorem bnU_l {m : Nat} (hm : m ≤ 5) : ∀ k, bnU m k ≤ bnU 5 k := by
  intro k
  induction k with
  | zero => exact Nat.le_refl _
  | succ k ih => show m * bnU m k + 2 ≤ 5 * bnU 5 k + 2; have := Nat.mul_le_mul hm ih; omega
theorem bnU_b {m k : Nat} (hm : m ≤ 5) (hk : k < 5) : bnU m k ≤ 937 := Nat.le_trans (bnU_l hm k) ((show ∀ k, k < 5 → bnU 5 k ≤ 937 by decide) k hk)
theorem bnT_c {P m : Nat} {x y : Nat → Nat} : ∀ p, (∀ j, j < p → x j = y j) → bnT P m x p = bnT P m y p := by
  intro p
  induction p with
  | zero => intro _; rfl
  | succ p ih => intro h; show bnT P m x p + _ = bnT P m y p + _; rw [ih (fun j hj => h j (by omega)), h p (by omega)]
theorem bnT_b {P m : Nat} {x : Nat → Nat} (hP : P ≤ 5) (hm : m ≤ 5) : ∀ p, p ≤ P → (∀ j, j < p → x j < m) → bnT P m x p ≤ 4686 * p := by
  intro p
  induction p with
  | zero => intro _ _; exact Nat.le_refl _
  | succ p ih =>
    intro hp h
    have h1 := ih (by omega) (fun j hj => h j (by omega))
    have h2 : x p * bnU m (P - 1 - p) ≤ 5 * 937 := Nat.mul_le_mul (by have := h p (by omega); omega) (bnU_b hm (by omega))
    show bnT P m x p + (x p * bnU m (P - 1 - p) + 1) ≤ _
    omega
/-- who is known not to do -/
def bnK (C : Nat → Int32) (P m : Nat) (x : Nat → Nat) (p y : Nat) : Prop := ∀ z, bnR C P m z → ¬ ((∃ i, i < p ∧ (∀ j, j < i → z j = x j) ∧ z i < x i) ∨ ((∀ j, j < p → z j = x j) ∧ z p < y))
def bnJ (C : Nat → Int32) (P m : Nat) (s : ZS) (r : Nat) (a : Int32) (s1 : ZS) : Prop := frm (fun b => b = 231) s s1 ∧
  ((∃ p x y, p < P ∧ a = nI p ∧ y ≤ m ∧ (∀ q, q < p → x q < m ∧ bnG C x q) ∧ (∀ q, q < p → s1.1 231 q = nI (x q)) ∧ s1.1 231 p = nI y - 1 ∧ bnK C P m x p y ∧ r = bnT P m x p + y * bnU m (P - 1 - p))
  ∨ (a = nI P ∧ r = 40000 ∧ ∃ x, bnF C P m x ∧ ∀ q, q < P → s1.1 231 q = nI (x q))
  ∨ (a = -1 ∧ r = 40000 ∧ ∀ x, ¬ bnR C P m x))
theorem m_enough {P Q m : Nat} {C : Nat → Int32} {s : ZS} (hc : cM P Q C s) (hP0 : 0 < P) (hm : m ≤ 5) : rt (f_Model_areEnough (nI m) s) (fun w => frm (fun b => b = 231) s w.2 ∧ (w.1 = 1 ∧ (∃ x, bnF C P m x ∧ ∀ q, q < P → w.2.1 231 q = nI (x q)) ∨ w.1 = 0 ∧ ∀ x, ¬ bnR C P m x)) := by
  have hP := hc.1
  have bnd : ∀ (x : Nat → Nat) (p y : Nat), p < P → y ≤ m → (∀ q, q < p → x q < m) → bnT P m x p + y * bnU m (P - 1 - p) < 40000 := by
    intro x p y hp hy hx
    have h1 := bnT_b (x := x) hP hm p (by omega) hx
    have h2 : y * bnU m (P - 1 - p) ≤ 5 * 937 := Nat.mul_le_mul (by omega) (bnU_b hm (by omega))
    omega
  unfold f_Model_areEnough
  simp only [zwi]
  refine lp_rank (n := 40000) (r0 := 0) (bnJ C P m s) (fun o => rt o (fun (w : Int32 × ZS) => frm (fun b => b = 231) s w.2 ∧ (w.1 = 1 ∧ (∃ x, bnF C P m x ∧ ∀ q, q < P → w.2.1 231 q = nI (x q)) ∨ w.1 = 0 ∧ ∀ x, ¬ bnR C P m x))) (by omega) ?_ ?_ ?_
  · refine ⟨frm.rf.I rfl, Or.inl ⟨0, fun _ => 0, 0, hP0, rfl, by omega, fun q hq => by omega, fun q hq => by omega, ?_, ?_, ?_⟩⟩
    · rw [zI1, if_pos rfl, updE, if_pos rfl]; rfl
    · rintro z hz (⟨i, hi, _⟩ | ⟨_, h⟩)
      · omega
      · omega
    · show 0 = 0 + 0 * _; omega
  · rintro r a s1 ⟨F, ⟨p, x, y, hp, _, hy, hx, _, _, _, rfl⟩ | ⟨_, rfl, _⟩ | ⟨_, rfl, _⟩⟩
    · exact Nat.le_of_lt (bnd x p y hp hy (fun q hq => (hx q hq).1))
    · exact Nat.le_refl _
    · exact Nat.le_refl _
  · rintro r a s1 g ⟨F, ⟨p, x, y, hp, rfl, hy, hx, hcell, hcp, hK, rfl⟩ | ⟨rfl, rfl, x, hF, hcell⟩ | ⟨rfl, rfl, hno⟩⟩
    · left
      have e226 : s1.1 226 = s.1 226 := F.1 226 (by omega)
      have e3 : s1.1 226 3 = nI P := by rw [e226]; exact hc.2.2.1
      have hne : ¬ nI p = nI P := by rw [nI_inj (by omega) (by omega)]; omega
      have hc2 : cM P Q C (zsI s1 231 p (nI y)) := by
        obtain ⟨k1, k2, k3, k4, k5⟩ := hc
        refine ⟨k1, k2, ?_, ?_, fun k hk => ?_⟩
        · rw [zI1, if_neg (by omega), e226]; exact k3
        · rw [zI1, if_neg (by omega), e226]; exact k4
        · rw [zI1, if_neg (by omega), e226]; exact k5 k hk
      have hrd : (zsI s1 231 p (nI y)).1 231 p = nI y := by rw [zI1, if_pos rfl, updE, if_pos rfl]
      have hrq : ∀ q, q ≠ p → (zsI s1 231 p (nI y)).1 231 q = s1.1 231 q := fun q hq => by rw [zI1, if_pos rfl, updE, if_neg hq]
      have hr3 : (zsI s1 231 p (nI y)).1 226 3 = nI P := hc2.2.2.1
      have hb := bnd x p y hp hy (fun q hq => (hx q hq).1)
      unfold f_Model_areEnough_B9
      by_cases hym : y < m
      · obtain ⟨⟨v, s2⟩, r2, e2, hv⟩ := m_sit hc2 hp
        dsimp only at e2 hv
        subst e2
        have hsg : sits C ((zsI s1 231 p (nI y)).1 231) p p ↔ bnG C (upN x p y) p := by
          refine sits_G (fun q hq => ?_) (fun q hq => ?_)
          · by_cases e : q = p
            · rw [e, hrd, upN_s]
            · rw [hrq q e, upN_o e]; exact hcell q (by omega)
          · by_cases e : q = p
            · rw [e, upN_s]; omega
            · rw [upN_o e]; have := (hx q (by omega)).1; omega
        have hx' : ∀ q, q < p → upN x p y q < m ∧ bnG C (upN x p y) q := fun q hq => ⟨by rw [upN_o (by omega)]; exact (hx q hq).1, bnG_c (fun j hj => (upN_o (by omega)).symm) (hx q hq).2⟩
        rcases hv with ⟨rfl, hv⟩ | ⟨rfl, hv⟩
        · have hG : bnG C (upN x p y) p := hsg.mp hv
          have hx2 : ∀ q, q < p + 1 → upN x p y q < m ∧ bnG C (upN x p y) q := fun q hq => by
            by_cases e : q = p
            · rw [e]; exact ⟨by rw [upN_s]; exact hym, hG⟩
            · exact hx' q (by omega)
          have hTe : bnT P m (upN x p y) (p + 1) = bnT P m x p + (y * bnU m (P - 1 - p) + 1) := by
            show bnT P m (upN x p y) p + (upN x p y p * bnU m (P - 1 - p) + 1) = _
            rw [upN_s, bnT_c (y := x) p (fun j hj => upN_o (by omega))]
          have hcell2 : ∀ q, q < p + 1 → (zsI s1 231 p (nI y)).1 231 q = nI (upN x p y q) := fun q hq => by
            by_cases e : q = p
            · rw [e, hrd, upN_s]
            · rw [hrq q e, upN_o e]; exact hcell q (by omega)
          by_cases hl : p + 1 = P
          · refine ⟨nI P, zsI s1 231 p (nI y), 40000, ?_, hb, F.I rfl, Or.inr (Or.inl ⟨rfl, rfl, upN x p y, ⟨?_, ?_⟩, ?_⟩)⟩
            · have hle : P ≤ p + 1 := by omega
              simp (disch := omega) only [nI_lt0, ↓reduceIte, zgi, e3, hne, not_false_eq_true, zrd_n, hcp, Int32.sub_add_cancel, zwa_n, hrd, nI_ltI, hym, r2, zcl_s, i10, hr3, nI_1, nI_leI, hl, Nat.le_refl]
            · intro q hq; exact hx2 q (by omega)
            · rintro z hz ⟨i, hi, h1, h2⟩
              by_cases e : i = p
              · subst e
                rw [upN_s] at h2
                exact hK z hz (Or.inr ⟨fun j hj => by rw [h1 j hj, upN_o (by omega)], h2⟩)
              · rw [upN_o e] at h2
                exact hK z hz (Or.inl ⟨i, by omega, fun j hj => by rw [h1 j hj, upN_o (by omega)], h2⟩)
            · intro q hq; exact hcell2 q (by omega)
          · have hle : ¬ P ≤ p + 1 := by omega
            refine ⟨nI (p + 1), zsI (zsI s1 231 p (nI y)) 231 (p + 1) (-1), bnT P m (upN x p y) (p + 1) + 0 * bnU m (P - 1 - (p + 1)), ?_, ?_, (F.I rfl).I rfl, Or.inl ⟨p + 1, upN x p y, 0, by omega, rfl, by omega, hx2, ?_, ?_, ?_, rfl⟩⟩
            · simp (disch := omega) only [nI_lt0, ↓reduceIte, zgi, e3, hne, not_false_eq_true, zrd_n, hcp, Int32.sub_add_cancel, zwa_n, hrd, nI_ltI, hym, r2, zcl_s, i10, hr3, nI_1, nI_leI, hle]
            · rw [hTe]; omega
            · intro q hq
              rw [zI1, if_pos rfl, updE, if_neg (by omega)]; exact hcell2 q hq
            · rw [zI1, if_pos rfl, updE, if_pos rfl]; rfl
            · rintro z hz (⟨i, hi, h1, h2⟩ | ⟨h1, h2⟩)
              · by_cases e : i = p
                · subst e
                  rw [upN_s] at h2
                  exact hK z hz (Or.inr ⟨fun j hj => by rw [h1 j hj, upN_o (by omega)], h2⟩)
                · rw [upN_o e] at h2
                  exact hK z hz (Or.inl ⟨i, by omega, fun j hj => by rw [h1 j hj, upN_o (by omega)], h2⟩)
              · omega
        · have hG : ¬ bnG C (upN x p y) p := fun h => hv (hsg.mpr h)
          refine ⟨nI p, zsI s1 231 p (nI y), bnT P m x p + (y + 1) * bnU m (P - 1 - p), ?_, ?_, F.I rfl, Or.inl ⟨p, x, y + 1, hp, rfl, by omega, hx, ?_, ?_, ?_, rfl⟩⟩
          · simp (disch := omega) only [nI_lt0, ↓reduceIte, zgi, e3, hne, not_false_eq_true, zrd_n, hcp, Int32.sub_add_cancel, zwa_n, hrd, nI_ltI, hym, r2, zcl_s, i10, hr3, nI_1]
          · have := bnU_p m (P - 1 - p); rw [Nat.add_mul]; omega
          · intro q hq; rw [hrq q (by omega)]; exact hcell q hq
          · rw [hrd, nI_sub1 _ (by omega)]; rfl
          · rintro z hz (⟨i, hi, h1, h2⟩ | ⟨h1, h2⟩)
            · exact hK z hz (Or.inl ⟨i, hi, h1, h2⟩)
            · by_cases e : z p = y
              · refine hG (bnG_c (fun j hj => ?_) (hz p hp).2)
                by_cases e2 : j = p
                · rw [e2, upN_s, e]
                · rw [upN_o e2]; exact h1 j (by omega)
              · exact hK z hz (Or.inr ⟨h1, by omega⟩)
      · have hyE : y = m := by omega
        subst hyE
        by_cases hp0 : p = 0
        · subst hp0
          refine ⟨-1, zsI s1 231 0 (nI y), 40000, ?_, hb, F.I rfl, Or.inr (Or.inr ⟨rfl, rfl, fun z hz => ?_⟩)⟩
          · simp (disch := omega) only [nI_lt0, ↓reduceIte, zgi, e3, hne, not_false_eq_true, zrd_n, hcp, Int32.sub_add_cancel, zwa_n, hrd, nI_ltI, hym, show nI 0 + (-1 : Int32) = -1 by decide]
          · exact hK z hz (Or.inr ⟨fun j hj => by omega, (hz 0 hP0).1⟩)
        · obtain ⟨k, rfl⟩ : ∃ k, p = k + 1 := ⟨p - 1, by omega⟩
          refine ⟨nI k, zsI s1 231 (k + 1) (nI y), bnT P y x k + (x k + 1) * bnU y (P - 1 - k), ?_, ?_, F.I rfl, Or.inl ⟨k, x, x k + 1, by omega, rfl, ?_, fun q hq => hx q (by omega), ?_, ?_, ?_, rfl⟩⟩
          · have em : nI (k + 1) + (-1 : Int32) = nI k := nI_m1 (by omega)
            simp (disch := omega) only [nI_lt0, ↓reduceIte, zgi, e3, hne, not_false_eq_true, zrd_n, hcp, Int32.sub_add_cancel, zwa_n, hrd, nI_ltI, hym, em]
          · have e1 : P - 1 - k = (P - 1 - (k + 1)) + 1 := by omega
            show bnT P y x k + (x k * bnU y (P - 1 - k) + 1) + y * bnU y (P - 1 - (k + 1)) < _
            rw [e1]
            show bnT P y x k + (x k * bnU y (P - 1 - (k + 1) + 1) + 1) + y * bnU y (P - 1 - (k + 1)) < bnT P y x k + (x k + 1) * bnU y (P - 1 - (k + 1) + 1)
            have e2 : bnU y (P - 1 - (k + 1) + 1) = y * bnU y (P - 1 - (k + 1)) + 2 := rfl
            rw [Nat.add_mul, Nat.one_mul]
            omega
          · have := (hx k (by omega)).1; omega
          · intro q hq; rw [hrq q (by omega)]; exact hcell q (by omega)
          · rw [hrq k (by omega), hcell k (by omega), nI_sub1 _ (by omega)]; rfl
          · rintro z hz (⟨i, hi, h1, h2⟩ | ⟨h1, h2⟩)
            · exact hK z hz (Or.inl ⟨i, by omega, h1, h2⟩)
            · by_cases e : z k = x k
              · refine hK z hz (Or.inr ⟨fun j hj => ?_, (hz (k + 1) hp).1⟩)
                by_cases e2 : j = k
                · rw [e2, e]
                · exact h1 j (by omega)
              · exact hK z hz (Or.inl ⟨k, by omega, h1, by omega⟩)
    · right
      have e226 : s1.1 226 = s.1 226 := F.1 226 (by omega)
      have e3 : s1.1 226 3 = nI P := by rw [e226]; exact hc.2.2.1
      unfold f_Model_areEnough_B9
      simp (disch := omega) only [nI_lt0, ↓reduceIte, zgi, e3, not_true_eq_false, zbl_1]
      exact rt_s ⟨F, Or.inl ⟨rfl, x, hF, hcell⟩⟩
    · right
      have hl : ((-1 : Int32) < 0) = True := eq_true (by decide)
      unfold f_Model_areEnough_B9
      simp only [hl, ↓reduceIte, zbl_0]
      exact rt_s ⟨F, Or.inr ⟨rfl, hno⟩⟩
