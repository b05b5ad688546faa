/-! Words of the reference; numbers. (u_tn, g_or, g_shl: out of the kit's BITS rows for pasting.) -/
theorem uu_tn {n : Nat} (h : n < 2 ^ 64) : (UInt64.ofNat n).toNat = n := Nat.mod_eq_of_lt h
theorem uu_or {k p a b : Nat} (hp : 2 ^ k = p) (ha : a < p) (h : b * p + a < 2 ^ 64) : lN (b * p) ||| lN a = lN (b * p + a) := by
  subst hp
  have h1 : b * 2 ^ k ||| a = b * 2 ^ k + a := by rw [← Nat.shiftLeft_eq, Nat.shiftLeft_add_eq_or_of_lt ha]
  have h3 : UInt64.ofNat (b * 2 ^ k) ||| UInt64.ofNat a = UInt64.ofNat (b * 2 ^ k + a) := UInt64.toNat_inj.mp (by rw [UInt64.toNat_or, uu_tn (by omega), uu_tn (by omega), uu_tn h, h1])
  have h2 := congrArg UInt64.toInt64 h3
  exact h2
theorem uu_shl {a k p : Nat} {y : Int64} (hy : y.toBitVec.smod 64 = BitVec.ofNat 64 k) (hk : k < 64) (hp : 2 ^ k = p) (ha : a < 2 ^ 64) : lN a <<< y = lN (a * p) := by
  subst hp
  apply Int64.toBitVec_inj.mp
  rw [Int64.toBitVec_shiftLeft, hy]
  apply BitVec.eq_of_toNat_eq
  have hb : (lN a).toBitVec.toNat = a := Nat.mod_eq_of_lt ha
  have hk' : (BitVec.ofNat 64 k).toNat = k := Nat.mod_eq_of_lt (by omega)
  have h : ((lN a).toBitVec <<< BitVec.ofNat 64 k).toNat = (a * 2 ^ k) % 2 ^ 64 := by simp only [BitVec.shiftLeft_eq', BitVec.toNat_shiftLeft, hb, hk', Nat.shiftLeft_eq]
  exact h
theorem lg_eq0 (x y : Int64) : (lg_cmp x y = 0) = (x = y) := by
  apply propext
  unfold lg_cmp
  by_cases h : x > y
  · rw [if_pos h]
    exact ⟨fun e => absurd e (by decide), fun e => by rw [e] at h; exact absurd h Int64.lt_irrefl⟩
  · rw [if_neg h]
    by_cases h2 : x = y
    · rw [if_pos h2]; exact ⟨fun _ => h2, fun _ => rfl⟩
    · rw [if_neg h2]; exact ⟨fun e => absurd e (by decide), fun e => absurd e h2⟩
theorem lN_inj {a b : Nat} (ha : a < 2 ^ 62) (hb : b < 2 ^ 62) : (lN a = lN b) = (a = b) := by
  apply propext
  constructor
  · intro h
    have := congrArg Int64.toInt h
    rw [show (lN a).toInt = (a : Int) from lg_ofNat_toInt (by omega), show (lN b).toInt = (b : Int) from lg_ofNat_toInt (by omega)] at this
    omega
  · intro h; rw [h]
def cdt (f : Nat → Nat) (p k : Nat) : Nat := itr k (fun i v => v * 256 + f (p + i)) 0
theorem cdtS (f : Nat → Nat) (p k : Nat) : cdt f p (k + 1) = cdt f p k * 256 + f (p + k) := rfl
theorem cdt_b {f : Nat → Nat} {p : Nat} : ∀ k, (∀ i, i < k → f (p + i) < 256) → cdt f p k < 256 ^ k := by
  intro k
  induction k with
  | zero => intro _; exact Nat.one_pos
  | succ k ih =>
    intro h
    have h1 := ih (fun i hi => h i (by omega))
    have h2 := h k (by omega)
    rw [cdtS, Nat.pow_succ]
    omega
theorem cdt_i {f g : Nat → Nat} {p q : Nat} : ∀ k k', (∀ i, i < k → 0 < f (p + i) ∧ f (p + i) < 256) → (∀ i, i < k' → 0 < g (q + i) ∧ g (q + i) < 256) → cdt f p k = cdt g q k' → k = k' ∧ ∀ i, i < k → f (p + i) = g (q + i) := by
  intro k
  induction k with
  | zero =>
    intro k' _ hg e
    cases k' with
    | zero => exact ⟨rfl, fun i hi => by omega⟩
    | succ k' =>
      rw [cdtS] at e
      have := (hg k' (by omega)).1
      have e0 : cdt f p 0 = 0 := rfl
      omega
  | succ k ih =>
    intro k' hf hg e
    cases k' with
    | zero =>
      rw [cdtS] at e
      have := (hf k (by omega)).1
      have e0 : cdt g q 0 = 0 := rfl
      omega
    | succ k' =>
      rw [cdtS, cdtS] at e
      have f1 := hf k (by omega)
      have g1 := hg k' (by omega)
      obtain ⟨i1, i2⟩ := ih k' (fun i hi => hf i (by omega)) (fun i hi => hg i (by omega)) (by omega)
      refine ⟨by omega, fun i hi => ?_⟩
      by_cases ei : i = k
      · rw [ei]
        subst i1
        omega
      · exact i2 i (by omega)
def litOK (l : List Nat) (w : Int64) : Prop := 0 < l.length ∧ l.length < 8 ∧ (∀ i, i < l.length → 97 ≤ l.getD i 0 ∧ l.getD i 0 ≤ 122) ∧ w = lN (cdt (fun i => l.getD i 0) 0 l.length)
theorem m_isWord {t : Nat → Nat} {n p : Nat} {s : ZS} {l : List Nat} {w : Int64} (hl : litOK l w) (h : tpM t n s) (hp : p ≤ n) (e : s.1 216 8 = nI p) (hq : sk t n p = p) : f_Model_isWord w s = some (if isW t p (we t n p) l then 1 else 0, s) := by
  obtain ⟨l1, l2', l3', l4'⟩ := hl
  have h0 := h
  obtain ⟨h1, h2, h3, h4⟩ := h
  have nx := m_next h0 hp e
  rw [hq, zsI_self e] at nx
  obtain ⟨w1, w2, w3, w4⟩ := we_s (t := t) hp
  have hlet : ∀ i, i < we t n p - p → 97 ≤ t (p + i) ∧ t (p + i) ≤ 122 := fun i hi => by
    have := w3 (p + i) (by omega) (by omega)
    unfold isLt at this
    rw [decide_eq_true_eq] at this
    exact this
  generalize hee : we t n p = ee at w1 w2 w3 w4 hlet
  have p256 : ∀ k, k < 8 → (256 : Nat) ^ k ≤ 2 ^ 56 := (show ∀ k, k < 8 → (256 : Nat) ^ k ≤ 2 ^ 56 by decide)
  have cb : ∀ i, i < 8 → i ≤ ee - p → cdt t p i < 2 ^ 56 := fun i hi hi2 => Nat.lt_of_lt_of_le (cdt_b i (fun j hj => h2 _)) (p256 i hi)
  have key : rt (f_Model_isWord w s) (fun x => x = (if isW t p ee l then 1 else 0, s)) := by
    unfold f_Model_isWord
    rw [nx, zcl_s]
    simp only [zjn]
    refine lp_rt (ee - p) (fun i a s1 => s1 = s ∧ a.2 = nI i ∧ (i < 8 → a.1 = lN (cdt t p i))) (by omega) ⟨rfl, rfl, fun _ => rfl⟩ ?_ ?_
    · rintro i ⟨x1, x2⟩ s1 g hi ⟨rfl, e2, e1⟩
      left
      dsimp only at e1 e2
      subst e2
      have hb := hlet i hi
      have hlt : p + i < n ∧ isLt t (p + i) = true := ⟨by omega, w3 (p + i) (by omega) (by omega)⟩
      unfold f_Model_isWord_B10
      simp (disch := omega) only [zgi, e, nI_add, m_letter h0 (show p + i ≤ n by omega), hlt, and_self, zcl_s, ↓reduceIte, i10, zjn, show (8 : Int32) = nI 8 from rfl, nI_leI, zrd_n, h4, nI_1]
      by_cases h8 : 8 ≤ i
      · simp only [h8, ↓reduceIte]
        exact ⟨_, _, rfl, rfl, rfl, fun h => by omega⟩
      · simp only [h8, ↓reduceIte]
        refine ⟨_, _, rfl, rfl, rfl, fun h => ?_⟩
        dsimp only
        have cbi := cb i (by omega) (by omega)
        rw [e1 (by omega), tI_n (by omega), nI_l (n := t (p + i)) (by omega), uu_shl (k := 8) (p := 256) (by decide) (by omega) (by decide) (by omega), uu_or (k := 8) (p := 256) (a := t (p + i)) (b := cdt t p i) (by decide) (by omega) (by omega), cdtS]
    · rintro ⟨x1, x2⟩ s1 g ⟨rfl, e2, e1⟩
      dsimp only at e1 e2
      subst e2
      have hlt : ¬ (p + (ee - p) < n ∧ isLt t (p + (ee - p)) = true) := by
        rw [show p + (ee - p) = ee by omega]
        rintro ⟨a, b⟩
        rw [w4 a] at b; cases b
      unfold f_Model_isWord_B10
      simp (disch := omega) only [zgi, e, nI_add, m_letter h0 (show p + (ee - p) ≤ n by omega), hlt, zcl_s, ↓reduceIte]
      by_cases z0 : ee - p = 0
      · rw [if_pos (by rw [nI_le0 (by omega)]; exact z0), if_neg (fun q : isW t p ee l => by have := q.1; omega), zbl_0]
        exact rt_s rfl
      · rw [if_neg (by rw [nI_le0 (by omega)]; exact z0)]
        by_cases z8 : 8 ≤ ee - p
        · rw [if_pos (show (8 : Int32) ≤ nI (ee - p) from nI_le (a := 8) z8 (by omega)), if_neg (fun q : isW t p ee l => by have := q.1; omega), zbl_0]
          exact rt_s rfl
        · rw [if_neg (show ¬ (8 : Int32) ≤ nI (ee - p) from nI_ge (b := 8) (by omega) (by omega)), e1 (by omega), l4']
          have c1 := cb (ee - p) (by omega) (by omega)
          have c2 : cdt (fun i => l.getD i 0) 0 l.length < 2 ^ 56 := Nat.lt_of_lt_of_le (cdt_b _ (fun i hi => by have := l3' i hi; rw [Nat.zero_add]; omega)) (p256 _ l2')
          simp only [lg_eq0, lN_inj (show cdt t p (ee - p) < 2 ^ 62 by omega) (show cdt (fun i => l.getD i 0) 0 l.length < 2 ^ 62 by omega)]
          have hiff : (cdt t p (ee - p) = cdt (fun i => l.getD i 0) 0 l.length) ↔ isW t p ee l := by
            constructor
            · intro q
              obtain ⟨q1, q2⟩ := cdt_i (ee - p) l.length (fun i hi => by have := hlet i hi; omega) (fun i hi => by have := l3' i hi; rw [Nat.zero_add]; omega) q
              refine ⟨q1, fun i hi => ?_⟩
              have := q2 i (by omega)
              rw [Nat.zero_add] at this
              exact this
            · intro q
              rw [q.1]
              have : ∀ k, k ≤ l.length → cdt t p k = cdt (fun i => l.getD i 0) 0 k := by
                intro k
                induction k with
                | zero => intro _; rfl
                | succ k ih => intro hk; rw [cdtS, cdtS, ih (by omega), q.2 k (by omega), Nat.zero_add]
              exact this _ (Nat.le_refl _)
          by_cases hw : isW t p ee l
          · rw [if_pos hw, if_neg (fun q => q (hiff.mpr hw)), zbl_1]; exact rt_s rfl
          · rw [if_neg hw, if_pos (fun q => hw (hiff.mp q)), zbl_0]; exact rt_s rfl
  obtain ⟨_, k1, rfl⟩ := key
  exact k1
/-! numbers -/
def nmV (t : Nat → Nat) (q k : Nat) : Nat := itr k (fun i v => v * 10 + (t (q + i) - 48)) 0
theorem nmVS (t : Nat → Nat) (q k : Nat) : nmV t q (k + 1) = nmV t q k * 10 + (t (q + k) - 48) := rfl
theorem nmV_b {t : Nat → Nat} {q : Nat} : ∀ k, (∀ i, i < k → t (q + i) ≤ 57) → nmV t q k < 10 ^ k := by
  intro k
  induction k with
  | zero => intro _; exact Nat.one_pos
  | succ k ih =>
    intro h
    have h1 := ih (fun i hi => h i (by omega))
    have h2 := h k (by omega)
    rw [nmVS, Nat.pow_succ]
    omega
def nm (t : Nat → Nat) (n p lo hi : Nat) : Sum Nat (Nat × Nat) :=
  if sk t n p < n ∧ isDg t (sk t n p) = true then
    (if de t n (sk t n p) - sk t n p ≤ 5 ∧ lo ≤ nmV t (sk t n p) (min 5 (de t n (sk t n p) - sk t n p)) ∧ nmV t (sk t n p) (min 5 (de t n (sk t n p) - sk t n p)) < hi then .inr (nmV t (sk t n p) (min 5 (de t n (sk t n p) - sk t n p)), de t n (sk t n p)) else .inl (1 + 8 * sk t n p + 1))
  else .inl (1 + 8 * sk t n p)
theorem nm_b {t : Nat → Nat} {n p lo hi : Nat} {x : Nat × Nat} (hp : p ≤ n) (h : nm t n p lo hi = .inr x) : lo ≤ x.1 ∧ x.1 < hi ∧ p < x.2 ∧ x.2 ≤ n := by
  obtain ⟨h1, h2, h3, h4⟩ := sk_s (t := t) hp
  unfold nm at h
  split at h
  · next hc =>
    obtain ⟨d1, d2, d3, d4⟩ := de_s (t := t) (p := sk t n p) h2
    split at h
    · next hd =>
      injection h with h
      rw [← h]
      refine ⟨hd.2.1, hd.2.2, ?_, d2⟩
      show p < de t n (sk t n p)
      refine Nat.lt_of_le_of_lt h1 (Nat.lt_of_not_le (fun hle => ?_))
      have e1 : de t n (sk t n p) = sk t n p := by omega
      rw [e1] at d4
      rw [d4 hc.1] at hc
      cases hc.2
    · cases h
  · cases h
theorem nm_f {t : Nat → Nat} {n p lo hi f : Nat} (hp : p ≤ n) (h : nm t n p lo hi = .inl f) : 0 < f ∧ f ≤ 8 * n + 8 := by
  obtain ⟨h1, h2, h3, h4⟩ := sk_s (t := t) hp
  unfold nm at h
  split at h
  · split at h
    · cases h
    · injection h with h; omega
  · injection h with h; omega
theorem nI_sB {a r : Nat} (ha : a < 1000000) (hr : r < 1000000) : (nI a ≤ nI r - 1) = (a < r) := by
  cases r with
  | zero => exact propext ⟨fun h => absurd (Int32.le_trans (nI_pos' (n := a) (by omega)) h) (by decide), fun h => by omega⟩
  | succ r => rw [nI_pred]; exact propext ((nI_leI (by omega) (by omega)).trans ⟨fun h => by omega, fun h => by omega⟩)
def tK (s s' : ZS) : Prop := (∀ b, b ≠ 1 → s'.1 b = s.1 b) ∧ (∀ j, j ≠ 2 → j ≠ 3 → s'.1 1 j = s.1 1 j) ∧ s'.2 = s.2
theorem tK.rf {s : ZS} : tK s s := ⟨fun _ _ => rfl, fun _ _ _ => rfl, rfl⟩
theorem tK.tr {s s1 s2 : ZS} (h : tK s s1) (h2 : tK s1 s2) : tK s s2 := ⟨fun b hb => (h2.1 b hb).trans (h.1 b hb), fun j a b => (h2.2.1 j a b).trans (h.2.1 j a b), h2.2.2.trans h.2.2⟩
theorem tK.I {s s1 : ZS} {j : Nat} {v : Int32} (h : tK s s1) (hj : j = 2 ∨ j = 3) : tK s (zsI s1 1 j v) := ⟨fun b hb => by rw [zI1, if_neg hb]; exact h.1 b hb, fun i a b => by rw [zI1, if_pos rfl, updE, if_neg (by omega)]; exact h.2.1 i a b, h.2.2⟩
theorem tpC.k {t : Nat → Nat} {n : Nat} {s s' : ZS} (h : tpC t n s) (hk : tK s s') : tpC t n s' := ⟨h.1, h.2.1, by rw [hk.2.1 1 (by omega) (by omega)]; exact h.2.2.1, fun k => by rw [hk.1 2 (by omega)]; exact h.2.2.2 k⟩
def mK (s s' : ZS) : Prop := (∀ b, b ≠ 216 → s'.1 b = s.1 b) ∧ (∀ j, ¬ (8 ≤ j ∧ j ≤ 10) → s'.1 216 j = s.1 216 j) ∧ s'.2 = s.2
theorem mK.rf {s : ZS} : mK s s := ⟨fun _ _ => rfl, fun _ _ => rfl, rfl⟩
theorem mK.tr {s s1 s2 : ZS} (h : mK s s1) (h2 : mK s1 s2) : mK s s2 := ⟨fun b hb => (h2.1 b hb).trans (h.1 b hb), fun j a => (h2.2.1 j a).trans (h.2.1 j a), h2.2.2.trans h.2.2⟩
theorem mK.I {s s1 : ZS} {j : Nat} {v : Int32} (h : mK s s1) (hj : 8 ≤ j ∧ j ≤ 10) : mK s (zsI s1 216 j v) := ⟨fun b hb => by rw [zI1, if_neg hb]; exact h.1 b hb, fun i a => by rw [zI1, if_pos rfl, updE, if_neg (by omega)]; exact h.2.1 i a, h.2.2⟩
theorem tpM.k {t : Nat → Nat} {n : Nat} {s s' : ZS} (h : tpM t n s) (hk : mK s s') : tpM t n s' := ⟨h.1, h.2.1, by rw [hk.2.1 1 (by omega)]; exact h.2.2.1, fun k => by rw [hk.1 217 (by omega)]; exact h.2.2.2 k⟩
theorem c_refuse {s : ZS} {a k : Nat} : f_Tape_refuse (nI a) (nI k) s = some (if s.1 1 3 = 0 then zsI s 1 3 (nI (1 + 8 * a + k)) else s) := by
  unfold f_Tape_refuse
  simp only [zgi, zwi, l1, l8, nI_mulR, nI_add]
  by_cases h : s.1 1 3 = 0
  · rw [if_neg (fun q => q h), if_pos h]
  · rw [if_pos h, if_neg h]
theorem m_fails {s : ZS} {a k : Nat} (h : s.1 216 9 = 0) : f_Model_fails (nI k) (nI a) s = some (0, zsI s 216 9 (nI (1 + 8 * a + k))) := by
  unfold f_Model_fails
  simp only [zgi, h, not_true_eq_false, ↓reduceIte, zwi, l1, l8, nI_mulR, nI_add, zbl_0]
def fo {α : Type} (f0 : Int32) (r : Sum Nat α) : Int32 := match r with
  | .inl f => if f0 = 0 then nI f else f0
  | .inr _ => f0
theorem min_lt5 (i : Nat) (h : ¬ 5 ≤ i) : min 5 (i + 1) = min 5 i + 1 := by omega
theorem min_ge5 (i : Nat) (h : 5 ≤ i) : min 5 (i + 1) = min 5 i := by omega
section NU
variable {t : Nat → Nat} {n p lo hi : Nat} {s : ZS}
theorem dig_b {q : Nat} (hq : q ≤ n) : ∀ i, i < de t n q - q → 48 ≤ t (q + i) ∧ t (q + i) ≤ 57 := fun i hi => by
  obtain ⟨d1, d2, d3, d4⟩ := de_s (t := t) hq
  have := d3 (q + i) (by omega) (by omega)
  unfold isDg at this
  rw [decide_eq_true_eq] at this
  exact this
theorem nmV_5 {q : Nat} (hq : q ≤ n) : ∀ i, i ≤ de t n q - q → nmV t q (min 5 i) < 100000 := fun i hi => by
  have h1 := nmV_b (t := t) (q := q) (min 5 i) (fun j hj => (dig_b hq j (by omega)).2)
  have h2 : (10 : Nat) ^ (min 5 i) ≤ 10 ^ 5 := Nat.pow_le_pow_right (by omega) (by omega)
  have h3 : (10 : Nat) ^ 5 = 100000 := by decide
  omega
theorem c_num (h : tpC t n s) (hp : p ≤ n) (e : s.1 1 2 = nI p) (hlo : lo ≤ 1) (hhi : hi ≤ 100000) : rt (f_Tape_takeNumber (nI lo) (nI hi - 1) s) (fun w => tK s w.2 ∧ ∃ v p', v ≤ 99999 ∧ p' ≤ n ∧ w.1 = nI v ∧ w.2.1 1 2 = nI p' ∧ w.2.1 1 3 = fo (s.1 1 3) (nm t n p lo hi) ∧ ∀ x, nm t n p lo hi = .inr x → v = x.1 ∧ p' = x.2) := by
  have nx := c_next h hp e
  obtain ⟨_, hq, _, _⟩ := sk_s (t := t) hp
  have hnm : nm t n p lo hi = if sk t n p < n ∧ isDg t (sk t n p) = true then (if de t n (sk t n p) - sk t n p ≤ 5 ∧ lo ≤ nmV t (sk t n p) (min 5 (de t n (sk t n p) - sk t n p)) ∧ nmV t (sk t n p) (min 5 (de t n (sk t n p) - sk t n p)) < hi then .inr (nmV t (sk t n p) (min 5 (de t n (sk t n p) - sk t n p)), de t n (sk t n p)) else .inl (1 + 8 * sk t n p + 1)) else .inl (1 + 8 * sk t n p) := rfl
  rw [hnm]
  generalize sk t n p = q at nx hq
  have hn4 := h.1
  have h2 := h.2.1
  have k1 : tK s (zsI s 1 2 (nI q)) := tK.rf.I (Or.inl rfl)
  have h' := h.k k1
  have e' : (zsI s 1 2 (nI q)).1 1 2 = nI q := by rw [zI1, if_pos rfl, updE, if_pos rfl]
  have e3 : (zsI s 1 2 (nI q)).1 1 3 = s.1 1 3 := by rw [zI1, if_pos rfl, updE, if_neg (by omega)]
  generalize zsI s 1 2 (nI q) = s1 at nx k1 h' e' e3
  unfold f_Tape_takeNumber
  rw [nx, zcl_s]
  simp only [zgi, e', c_digN h2, zcl_s]
  by_cases hd : q < n ∧ isDg t q = true
  · simp only [hd, and_self, ↓reduceIte, i10, not_false_eq_true, zjn]
    obtain ⟨d1, d2, d3, d4⟩ := de_s (t := t) hq
    have db := dig_b (t := t) hq
    have v5 := nmV_5 (t := t) hq
    generalize de t n q = ee at d1 d2 d3 d4 db v5
    refine lp_rt (ee - q) (fun i a s2 => s2 = zsI s1 1 2 (nI (q + i)) ∧ a = nI (nmV t q (min 5 i))) (by omega) ⟨(zsI_self e').symm, rfl⟩ ?_ ?_
    · rintro i a s2 g hi ⟨rfl, rfl⟩
      left
      have r1 : (zsI s1 1 2 (nI (q + i))).1 1 2 = nI (q + i) := by rw [zI1, if_pos rfl, updE, if_pos rfl]
      have r2 : (zsI s1 1 2 (nI (q + i))).1 1 1 = nI n := by rw [zI1, if_pos rfl, updE, if_neg (by omega)]; exact h'.2.2.1
      have r3 : (zsI s1 1 2 (nI (q + i))).1 2 (q + i) = tI (t (q + i)) := by rw [zI1, if_neg (by omega)]; exact h'.2.2.2 _
      have hb := db i hi
      have hni : ¬ n ≤ q + i := by omega
      have vi := v5 i (by omega)
      have hsb : nI (q + i) - nI q = nI i := by rw [nI_sub (by omega)]; congr 1; omega
      unfold f_Tape_takeNumber_B30
      simp (disch := omega) only [zgi, r1, r2, nI_leI, hni, ↓reduceIte, zrd_n, r3, c_digI (h2 _), hb, and_self, zcl_s, i10, hsb, zjn, show (5 : Int32) = nI 5 from rfl, nI_1, zwi, zsI_2]
      by_cases h5 : 5 ≤ i
      · simp only [h5, ↓reduceIte, r1, nI_1, zsI_2]
        exact ⟨_, _, rfl, rfl, by rw [min_ge5 i h5]⟩
      · simp only [h5, ↓reduceIte, r1, nI_1, zsI_2]
        refine ⟨_, _, rfl, rfl, ?_⟩
        rw [min_lt5 i h5, nmVS, show min 5 i = i by omega, tI_n (by omega), show (10 : Int32) = nI 10 from rfl, show (48 : Int32) = nI 48 from rfl, nI_mulR, nI_add, nI_sub (by omega)]
        congr 1; omega
    · rintro a s2 g ⟨rfl, rfl⟩
      have r1 : (zsI s1 1 2 (nI (q + (ee - q)))).1 1 2 = nI (q + (ee - q)) := by rw [zI1, if_pos rfl, updE, if_pos rfl]
      have r2 : (zsI s1 1 2 (nI (q + (ee - q)))).1 1 1 = nI n := by rw [zI1, if_pos rfl, updE, if_neg (by omega)]; exact h'.2.2.1
      have r3 : (zsI s1 1 2 (nI (q + (ee - q)))).1 2 (q + (ee - q)) = tI (t (q + (ee - q))) := by rw [zI1, if_neg (by omega)]; exact h'.2.2.2 _
      have r4 : (zsI s1 1 2 (nI (q + (ee - q)))).1 1 3 = s.1 1 3 := by rw [zI1, if_pos rfl, updE, if_neg (by omega)]; exact e3
      have hsb : nI (q + (ee - q)) - nI q = nI (ee - q) := by rw [nI_sub (by omega)]; congr 1; omega
      have vi := v5 (ee - q) (Nat.le_refl _)
      have kk : tK s (zsI s1 1 2 (nI (q + (ee - q)))) := k1.I (Or.inl rfl)
      have eq2 : q + (ee - q) = ee := by omega
      generalize hs3 : zsI s1 1 2 (nI (q + (ee - q))) = s3 at r1 r2 r3 r4 kk
      generalize hV : nmV t q (min 5 (ee - q)) = V at vi
      rw [eq2] at r1 r3 hsb
      have bad : ¬ (ee - q ≤ 5 ∧ lo ≤ V ∧ V < hi) → rt (zcv (f_Tape_refuse (nI q) (1 : Int32) s3) (fun s14 => some (nI V, s14))) (fun w => tK s w.2 ∧ ∃ v p', v ≤ 99999 ∧ p' ≤ n ∧ w.1 = nI v ∧ w.2.1 1 2 = nI p' ∧ w.2.1 1 3 = fo (s.1 1 3) (if ee - q ≤ 5 ∧ lo ≤ V ∧ V < hi then (Sum.inr (V, ee) : Sum Nat (Nat × Nat)) else .inl (1 + 8 * q + 1)) ∧ ∀ x, (if ee - q ≤ 5 ∧ lo ≤ V ∧ V < hi then (Sum.inr (V, ee) : Sum Nat (Nat × Nat)) else .inl (1 + 8 * q + 1)) = .inr x → v = x.1 ∧ p' = x.2) := by
        intro hbad
        rw [show (1 : Int32) = nI 1 from rfl, c_refuse, zcv_s]
        refine rt_s ?_
        dsimp only
        simp only [hbad, ↓reduceIte]
        by_cases hf : s.1 1 3 = 0
        · rw [if_pos (by rw [r4]; exact hf)]
          exact ⟨kk.I (Or.inr rfl), V, ee, by omega, d2, rfl, by rw [zI1, if_pos rfl, updE, if_neg (by omega)]; exact r1, by rw [zI1, if_pos rfl, updE, if_pos rfl]; show _ = (if s.1 1 3 = 0 then _ else _); rw [if_pos hf], fun x hx => by cases hx⟩
        · rw [if_neg (by rw [r4]; exact hf)]
          exact ⟨kk, V, ee, by omega, d2, rfl, r1, by show _ = (if s.1 1 3 = 0 then _ else _); rw [if_neg hf]; exact r4, fun x hx => by cases hx⟩
      have fin : rt (zj0 (fun (s12 : ZS) => zcv (f_Tape_refuse (nI q) (1 : Int32) s12) (fun (s14 : ZS) => some (nI V, s14))) (fun (k13 : ZS → Option (Int32 × ZS)) => (if (5 : Int32) < (nI ee - nI q) then k13 s3 else (if nI V < nI lo then k13 s3 else (if nI V ≤ nI hi - 1 then some (nI V, s3) else k13 s3))))) (fun w => tK s w.2 ∧ ∃ v p', v ≤ 99999 ∧ p' ≤ n ∧ w.1 = nI v ∧ w.2.1 1 2 = nI p' ∧ w.2.1 1 3 = fo (s.1 1 3) (if ee - q ≤ 5 ∧ lo ≤ V ∧ V < hi then (Sum.inr (V, ee) : Sum Nat (Nat × Nat)) else .inl (1 + 8 * q + 1)) ∧ ∀ x, (if ee - q ≤ 5 ∧ lo ≤ V ∧ V < hi then (Sum.inr (V, ee) : Sum Nat (Nat × Nat)) else .inl (1 + 8 * q + 1)) = .inr x → v = x.1 ∧ p' = x.2) := by
        simp (disch := omega) only [zj0, hsb, show (5 : Int32) = nI 5 from rfl, nI_ltI, nI_sB]
        by_cases g1 : 5 < ee - q
        · rw [if_pos g1]; exact bad (by omega)
        · rw [if_neg g1]
          by_cases g2 : V < lo
          · rw [if_pos g2]; exact bad (by omega)
          · rw [if_neg g2]
            by_cases g3 : V < hi
            · rw [if_pos g3]
              have hgood : ee - q ≤ 5 ∧ lo ≤ V ∧ V < hi := ⟨by omega, by omega, g3⟩
              rw [if_pos hgood]
              exact rt_s ⟨kk, V, ee, by omega, d2, rfl, r1, r4, fun x hx => by injection hx with hx; rw [← hx]; exact ⟨rfl, rfl⟩⟩
            · rw [if_neg g3]; exact bad (by omega)
      unfold f_Tape_takeNumber_B30
      simp only [zgi, r1, r2]
      by_cases hne : n ≤ ee
      · rw [if_pos (nI_le hne (by omega))]
        exact fin
      · rw [if_neg (nI_ge (by omega) (by omega)), zrd_n (by omega) (by omega), r3, c_digI (h2 _), zcl_s]
        have hnd := d4 (by omega)
        unfold isDg at hnd
        rw [decide_eq_false_iff_not] at hnd
        simp only [hnd, ↓reduceIte, r1]
        exact fin
  · simp only [hd, ↓reduceIte, not_true_eq_false]
    rw [show (0 : Int32) = nI 0 from rfl, c_refuse, zcv_s]
    refine rt_s ?_
    dsimp only
    by_cases hf : s.1 1 3 = 0
    · rw [if_pos (by rw [e3]; exact hf)]
      exact ⟨k1.I (Or.inr rfl), lo, q, by omega, hq, rfl, by rw [zI1, if_pos rfl, updE, if_neg (by omega)]; exact e', by rw [zI1, if_pos rfl, updE, if_pos rfl]; show _ = (if s.1 1 3 = 0 then _ else _); rw [if_pos hf]; rfl, fun x hx => by cases hx⟩
    · rw [if_neg (by rw [e3]; exact hf)]
      exact ⟨k1, lo, q, by omega, hq, rfl, e', by show _ = (if s.1 1 3 = 0 then _ else _); rw [if_neg hf]; exact e3, fun x hx => by cases hx⟩
theorem m_num (h : tpM t n s) (hp : p ≤ n) (e : s.1 216 8 = nI p) (e9 : s.1 216 9 = 0) (hlo : lo ≤ 1) (hhi : hi ≤ 100000) : rt (f_Model_numberHere (nI lo) (nI hi - 1) s) (fun w => mK s w.2 ∧ (w.1 = 1 ∧ (∃ x, nm t n p lo hi = .inr x ∧ w.2.1 216 8 = nI x.2 ∧ w.2.1 216 10 = nI x.1 ∧ w.2.1 216 9 = 0) ∨ w.1 = 0 ∧ ∃ f, nm t n p lo hi = .inl f ∧ w.2.1 216 9 = nI f)) := by
  have nx := m_next h hp e
  obtain ⟨_, hq, _, _⟩ := sk_s (t := t) hp
  have hnm : nm t n p lo hi = if sk t n p < n ∧ isDg t (sk t n p) = true then (if de t n (sk t n p) - sk t n p ≤ 5 ∧ lo ≤ nmV t (sk t n p) (min 5 (de t n (sk t n p) - sk t n p)) ∧ nmV t (sk t n p) (min 5 (de t n (sk t n p) - sk t n p)) < hi then .inr (nmV t (sk t n p) (min 5 (de t n (sk t n p) - sk t n p)), de t n (sk t n p)) else .inl (1 + 8 * sk t n p + 1)) else .inl (1 + 8 * sk t n p) := rfl
  rw [hnm]
  generalize sk t n p = q at nx hq
  have hn4 := h.1
  have h2 := h.2.1
  have k1 : mK s (zsI s 216 8 (nI q)) := mK.rf.I (by omega)
  have h' := h.k k1
  have e' : (zsI s 216 8 (nI q)).1 216 8 = nI q := by rw [zI1, if_pos rfl, updE, if_pos rfl]
  have e3 : (zsI s 216 8 (nI q)).1 216 9 = 0 := by rw [zI1, if_pos rfl, updE, if_neg (by omega)]; exact e9
  generalize zsI s 216 8 (nI q) = s1 at nx k1 h' e' e3
  unfold f_Model_numberHere
  rw [nx, zcl_s]
  simp only [zgi, e', m_digit h' hq, zcl_s]
  by_cases hd : q < n ∧ isDg t q = true
  · simp only [hd, and_self, ↓reduceIte, i10, not_false_eq_true, zjn]
    obtain ⟨d1, d2, d3, d4⟩ := de_s (t := t) hq
    have db := dig_b (t := t) hq
    have v5 := nmV_5 (t := t) hq
    generalize de t n q = ee at d1 d2 d3 d4 db v5
    have fr : ∀ i, tpM t n (zsI s1 216 8 (nI (q + i))) := fun i => h'.k (mK.rf.I (by omega))
    refine lp_rt (ee - q) (fun i a s2 => s2 = zsI s1 216 8 (nI (q + i)) ∧ a = nI (nmV t q (min 5 i))) (by omega) ⟨(zsI_self e').symm, rfl⟩ ?_ ?_
    · rintro i a s2 g hi ⟨rfl, rfl⟩
      left
      have r1 : (zsI s1 216 8 (nI (q + i))).1 216 8 = nI (q + i) := by rw [zI1, if_pos rfl, updE, if_pos rfl]
      have r3 : (zsI s1 216 8 (nI (q + i))).1 217 (q + i) = tI (t (q + i)) := by rw [zI1, if_neg (by omega)]; exact h'.2.2.2 _
      have hb := db i hi
      have hdd : q + i < n ∧ isDg t (q + i) = true := ⟨by omega, d3 _ (by omega) (by omega)⟩
      have vi := v5 i (by omega)
      have hsb : nI (q + i) - nI q = nI i := by rw [nI_sub (by omega)]; congr 1; omega
      unfold f_Model_numberHere_B34
      simp (disch := omega) only [zgi, r1, m_digit (fr i) (show q + i ≤ n by omega), hdd, and_self, zcl_s, ↓reduceIte, i10, hsb, zjn, show (5 : Int32) = nI 5 from rfl, nI_leI, zrd_n, r3, nI_1, zwi, zsI_2]
      by_cases h5 : 5 ≤ i
      · simp only [h5, ↓reduceIte, r1, nI_1, zsI_2]
        exact ⟨_, _, rfl, rfl, by rw [min_ge5 i h5]⟩
      · simp only [h5, ↓reduceIte, r1, nI_1, zsI_2]
        refine ⟨_, _, rfl, rfl, ?_⟩
        rw [min_lt5 i h5, nmVS, show min 5 i = i by omega, tI_n (by omega), show (10 : Int32) = nI 10 from rfl, show (48 : Int32) = nI 48 from rfl, nI_mulR, nI_add, nI_sub (by omega)]
        congr 1; omega
    · rintro a s2 g ⟨rfl, rfl⟩
      have r1 : (zsI s1 216 8 (nI (q + (ee - q)))).1 216 8 = nI (q + (ee - q)) := by rw [zI1, if_pos rfl, updE, if_pos rfl]
      have r4 : (zsI s1 216 8 (nI (q + (ee - q)))).1 216 9 = 0 := by rw [zI1, if_pos rfl, updE, if_neg (by omega)]; exact e3
      have hsb : nI (q + (ee - q)) - nI q = nI (ee - q) := by rw [nI_sub (by omega)]; congr 1; omega
      have vi := v5 (ee - q) (Nat.le_refl _)
      have kk : mK s (zsI s1 216 8 (nI (q + (ee - q)))) := k1.I (by omega)
      have eq2 : q + (ee - q) = ee := by omega
      have hdd : ¬ (ee < n ∧ isDg t ee = true) := by
        rintro ⟨a, b⟩
        rw [d4 a] at b; cases b
      have ft := fr (ee - q)
      generalize hs3 : zsI s1 216 8 (nI (q + (ee - q))) = s3 at r1 r4 kk ft
      generalize hV : nmV t q (min 5 (ee - q)) = V at vi
      rw [eq2] at r1 hsb
      have r5 : (zsI s3 216 10 (nI V)).1 216 8 = nI ee := by rw [zI1, if_pos rfl, updE, if_neg (by omega)]; exact r1
      have r6 : (zsI s3 216 10 (nI V)).1 216 9 = 0 := by rw [zI1, if_pos rfl, updE, if_neg (by omega)]; exact r4
      have r7 : (zsI s3 216 10 (nI V)).1 216 10 = nI V := by rw [zI1, if_pos rfl, updE, if_pos rfl]
      have k4 : mK s (zsI s3 216 10 (nI V)) := kk.I (by omega)
      unfold f_Model_numberHere_B34
      simp only [zgi, r1, m_digit ft d2, hdd, zcl_s, ↓reduceIte, zwi, r5, hsb, zj0]
      generalize zsI s3 216 10 (nI V) = s4 at r5 r6 r7 k4
      have bad : ¬ (ee - q ≤ 5 ∧ lo ≤ V ∧ V < hi) → rt (zcl (f_Model_fails (1 : Int32) (nI q) s4) (fun v17 s16 => if v17 = 0 then zbl 0 s16 else zbl 1 s16)) (fun w => mK s w.2 ∧ (w.1 = 1 ∧ (∃ x, (if ee - q ≤ 5 ∧ lo ≤ V ∧ V < hi then (Sum.inr (V, ee) : Sum Nat (Nat × Nat)) else .inl (1 + 8 * q + 1)) = .inr x ∧ w.2.1 216 8 = nI x.2 ∧ w.2.1 216 10 = nI x.1 ∧ w.2.1 216 9 = 0) ∨ w.1 = 0 ∧ ∃ f, (if ee - q ≤ 5 ∧ lo ≤ V ∧ V < hi then (Sum.inr (V, ee) : Sum Nat (Nat × Nat)) else .inl (1 + 8 * q + 1)) = .inl f ∧ w.2.1 216 9 = nI f)) := by
        intro hbad
        rw [show (1 : Int32) = nI 1 from rfl, m_fails r6, zcl_s]
        simp only [↓reduceIte, zbl_0, hbad]
        exact rt_s ⟨k4.I (by omega), Or.inr ⟨rfl, _, rfl, by rw [zI1, if_pos rfl, updE, if_pos rfl]⟩⟩
      rw [mIn rfl rfl, zcl_s]
      simp (disch := omega) only [show (5 : Int32) = nI 5 from rfl, nI_ltI, nI_leI, nI_sB]
      by_cases g1 : 5 < ee - q
      · rw [if_pos g1]; exact bad (by omega)
      · rw [if_neg g1]
        by_cases g2 : lo ≤ V ∧ V < hi
        · have hgood : ee - q ≤ 5 ∧ lo ≤ V ∧ V < hi := ⟨by omega, g2⟩
          simp only [g2, and_self, ↓reduceIte, i10, not_false_eq_true, zbl_1]
          rw [if_pos ⟨by omega, trivial⟩]
          exact rt_s ⟨k4, Or.inl ⟨rfl, _, rfl, r5, r7, r6⟩⟩
        · simp only [g2, ↓reduceIte, not_true_eq_false]
          have := bad (fun q => g2 q.2)
          simp only [g2] at this
          exact this
  · simp only [hd, ↓reduceIte, not_true_eq_false]
    rw [show (0 : Int32) = nI 0 from rfl, m_fails e3, zcl_s]
    simp only [show nI 0 = (0 : Int32) from rfl, zbl_0]
    exact rt_s ⟨k1.I (by omega), Or.inr ⟨rfl, _, rfl, by rw [zI1, if_pos rfl, updE, if_pos rfl]; rfl⟩⟩
end NU
