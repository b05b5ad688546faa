/-! The tape. -/
theorem zsI_self {s : ZS} {a j : Nat} {v : Int32} (h : s.1 a j = v) : zsI s a j v = s := by
  refine Prod.ext ?_ rfl
  funext b
  rw [zI1]
  by_cases e : b = a
  · rw [if_pos e]
    funext k
    rw [updE, e]
    by_cases e2 : k = j
    · rw [if_pos e2, e2, h]
    · rw [if_neg e2]
  · rw [if_neg e]
theorem zsI_2 {s : ZS} {a j : Nat} {v w : Int32} : zsI (zsI s a j v) a j w = zsI s a j w := by
  refine Prod.ext ?_ rfl
  funext b
  show (if b = a then upd ((zsI s a j v).1 a) j w else (zsI s a j v).1 b) = if b = a then upd (s.1 a) j w else s.1 b
  by_cases e : b = a
  · rw [if_pos e, if_pos e, zI1, if_pos rfl]
    funext k
    rw [updE, updE, updE]
    by_cases e2 : k = j
    · rw [if_pos e2, if_pos e2]
    · rw [if_neg e2, if_neg e2, if_neg e2]
  · rw [if_neg e, if_neg e, zI1, if_neg e]
/-- a byte as the tape has it -/
def tI (b : Nat) : Int32 := if b < 128 then nI b else -(nI (256 - b))
set_option maxRecDepth 100000 in
theorem tI_tI {b : Nat} (h : b < 256) : (tI b).toInt = if b < 128 then (b : Int) else (b : Int) - 256 := (show ∀ b, b < 256 → (tI b).toInt = if b < 128 then (b : Int) else (b : Int) - 256 by decide +kernel) b h
set_option maxRecDepth 100000 in
theorem tI_and {b : Nat} (h : b < 256) : tI b &&& 255 = nI b := (show ∀ b, b < 256 → tI b &&& 255 = nI b by decide +kernel) b h
theorem tI_ex {x : Int32} (h : x.toInt8.toInt32 = x) : ∃ b, b < 256 ∧ x = tI b := by
  have h1 := x.toInt8.le_toInt
  have h2 := x.toInt8.toInt_lt
  have h3 : x.toInt = x.toInt8.toInt := by
    have := congrArg Int32.toInt h
    rw [Int8.toInt_toInt32] at this
    exact this.symm
  by_cases h0 : 0 ≤ x.toInt
  · refine ⟨x.toInt.toNat, by omega, ?_⟩
    apply Int32.toInt_inj.mp
    rw [tI_tI (by omega), if_pos (by omega)]
    omega
  · refine ⟨(x.toInt + 256).toNat, by omega, ?_⟩
    apply Int32.toInt_inj.mp
    rw [tI_tI (by omega), if_neg (by omega)]
    omega
theorem tI_eq {b c : Nat} (hb : b < 256) (hc : c < 128) : (tI b = nI c) = (b = c) := by
  apply propext
  rw [← Int32.toInt_inj, tI_tI hb, nI_toInt (by omega)]
  split <;> omega
theorem tI_lt {b c : Nat} (hb : b < 256) (hc : c < 128) : (tI b < nI c) = (b < c ∨ 128 ≤ b) := by
  apply propext
  rw [Int32.lt_iff_toInt_lt, tI_tI hb, nI_toInt (by omega)]
  split <;> omega
theorem tI_gt {b c : Nat} (hb : b < 256) (hc : c < 128) : (nI c < tI b) = (c < b ∧ b < 128) := by
  apply propext
  rw [Int32.lt_iff_toInt_lt, tI_tI hb, nI_toInt (by omega)]
  split <;> omega
theorem tI_n {b : Nat} (h : b < 128) : tI b = nI b := if_pos h
/-! spans -/
def spF (B : Nat → Bool) : Nat → Nat → Nat
  | 0, p => p
  | f + 1, p => if B p = true then spF B f (p + 1) else p
def spn (B : Nat → Bool) (n p : Nat) : Nat := spF B (n - p) p
theorem spF_u {B : Nat → Bool} : ∀ (f p q : Nat), p ≤ q → q ≤ p + f → (∀ k, p ≤ k → k < q → B k = true) → (q < p + f → B q = false) → spF B f p = q := by
  intro f
  induction f with
  | zero => intro p q h1 h2 _ _; show p = q; omega
  | succ f ih =>
    intro p q h1 h2 h3 h4
    show (if B p = true then spF B f (p + 1) else p) = q
    by_cases e : p = q
    · subst e
      rw [h4 (by omega), if_neg (by decide)]
    · rw [if_pos (h3 p (Nat.le_refl _) (by omega))]
      exact ih (p + 1) q (by omega) (by omega) (fun k hk hk2 => h3 k (by omega) hk2) (fun h => h4 (by omega))
theorem spn_u {B : Nat → Bool} {n p q : Nat} (h1 : p ≤ q) (h2 : q ≤ n) (h3 : ∀ k, p ≤ k → k < q → B k = true) (h4 : q < n → B q = false) : spn B n p = q := spF_u _ _ _ h1 (by omega) h3 (fun h => h4 (by omega))
theorem spn_s {B : Nat → Bool} {n p : Nat} (hp : p ≤ n) : p ≤ spn B n p ∧ spn B n p ≤ n ∧ (∀ k, p ≤ k → k < spn B n p → B k = true) ∧ (spn B n p < n → B (spn B n p) = false) := by
  have key : ∀ (f p : Nat), p ≤ spF B f p ∧ spF B f p ≤ p + f ∧ (∀ k, p ≤ k → k < spF B f p → B k = true) ∧ (spF B f p < p + f → B (spF B f p) = false) := by
    intro f
    induction f with
    | zero => intro p; exact ⟨Nat.le_refl _, Nat.le_refl _, fun k h1 h2 => by have h3 : k < p := h2; omega, fun h => by have h3 : p < p + 0 := h; omega⟩
    | succ f ih =>
      intro p
      have e : spF B (f + 1) p = if B p = true then spF B f (p + 1) else p := rfl
      rw [e]
      by_cases hb : B p = true
      · rw [if_pos hb]
        obtain ⟨k1, k2, k3, k4⟩ := ih (p + 1)
        refine ⟨by omega, by omega, fun k h1 h2 => ?_, fun h => k4 (by omega)⟩
        by_cases ek : k = p
        · rw [ek]; exact hb
        · exact k3 k (by omega) h2
      · rw [if_neg hb]
        exact ⟨Nat.le_refl _, by omega, fun k h1 h2 => by omega, fun _ => by simpa using hb⟩
  obtain ⟨k1, k2, k3, k4⟩ := key (n - p) p
  exact ⟨k1, by unfold spn; omega, k3, fun h => k4 (by unfold spn at h; omega)⟩
def isBl (t : Nat → Nat) (k : Nat) : Bool := decide (t k = 32)
def isLt (t : Nat → Nat) (k : Nat) : Bool := decide (97 ≤ t k ∧ t k ≤ 122)
def isDg (t : Nat → Nat) (k : Nat) : Bool := decide (48 ≤ t k ∧ t k ≤ 57)
def sk (t : Nat → Nat) (n p : Nat) : Nat := spn (isBl t) n p
def we (t : Nat → Nat) (n p : Nat) : Nat := spn (isLt t) n p
def de (t : Nat → Nat) (n p : Nat) : Nat := spn (isDg t) n p
theorem sk_s {t : Nat → Nat} {n p : Nat} (hp : p ≤ n) : p ≤ sk t n p ∧ sk t n p ≤ n ∧ (∀ k, p ≤ k → k < sk t n p → isBl t k = true) ∧ (sk t n p < n → isBl t (sk t n p) = false) := spn_s hp
theorem we_s {t : Nat → Nat} {n p : Nat} (hp : p ≤ n) : p ≤ we t n p ∧ we t n p ≤ n ∧ (∀ k, p ≤ k → k < we t n p → isLt t k = true) ∧ (we t n p < n → isLt t (we t n p) = false) := spn_s hp
theorem de_s {t : Nat → Nat} {n p : Nat} (hp : p ≤ n) : p ≤ de t n p ∧ de t n p ≤ n ∧ (∀ k, p ≤ k → k < de t n p → isDg t k = true) ∧ (de t n p < n → isDg t (de t n p) = false) := spn_s hp
theorem sk_sk {t : Nat → Nat} {n p : Nat} (hp : p ≤ n) : sk t n (sk t n p) = sk t n p := by
  obtain ⟨h1, h2, h3, h4⟩ := sk_s (t := t) hp
  exact spn_u (Nat.le_refl _) h2 (fun k a b => by omega) h4
def sgn (t : Nat → Nat) (n p : Nat) : Int32 := if p < n then nI (t p) else -1
def tpC (t : Nat → Nat) (n : Nat) (s : ZS) : Prop := n ≤ 400 ∧ (∀ k, t k < 256) ∧ s.1 1 1 = nI n ∧ ∀ k, s.1 2 k = tI (t k)
def tpM (t : Nat → Nat) (n : Nat) (s : ZS) : Prop := n ≤ 400 ∧ (∀ k, t k < 256) ∧ s.1 216 1 = nI n ∧ ∀ k, s.1 217 k = tI (t k)
theorem tp_of {s : ZS} (h : rTp s) : ∃ t n, tpC t n s ∧ tpM t n s := by
  obtain ⟨n, h1, h2, h3, h4, h5⟩ := h
  obtain ⟨t, ht⟩ := Classical.skolem.mp (fun k => tI_ex (h5 k))
  exact ⟨t, n, ⟨h1, fun k => (ht k).1, h2, fun k => by rw [h4]; exact (ht k).2⟩, ⟨h1, fun k => (ht k).1, h3, fun k => (ht k).2⟩⟩
theorem c_next {t : Nat → Nat} {n p : Nat} {s : ZS} (h : tpC t n s) (hp : p ≤ n) (e : s.1 1 2 = nI p) : f_Tape_next s = some (sgn t n (sk t n p), zsI s 1 2 (nI (sk t n p))) := by
  obtain ⟨h1, h2, h3, h4⟩ := h
  have key : rt (f_Tape_next s) (fun w => w = (sgn t n (sk t n p), zsI s 1 2 (nI (sk t n p)))) := by
    unfold f_Tape_next
    simp only [zj0]
    have fin : ∀ i s1, s1 = zsI s 1 2 (nI (p + i)) → p + i ≤ n → (∀ k, p ≤ k → k < p + i → isBl t k = true) → (p + i < n → isBl t (p + i) = false) → rt (zgi (s1.1 1 2) (fun (v3 : Int32) => zgi (s1.1 1 1) (fun (v4 : Int32) => (if v4 ≤ v3 then some ((-1 : Int32), s1) else zgi (s1.1 1 2) (fun (v5 : Int32) => zrd 400 v5 (s1.1 2) (fun (v6 : Int32) => some ((v6 &&& (255 : Int32)), s1))))))) (fun w => w = (sgn t n (sk t n p), zsI s 1 2 (nI (sk t n p)))) := by
      intro i s1 hs hi ha hb
      have e1 : sk t n p = p + i := spn_u (by omega) hi ha hb
      subst hs
      rw [e1]
      unfold sgn
      simp (disch := omega) only [zgi, zI1, updE, ↓reduceIte, Nat.reduceEqDiff, h3, nI_leI]
      by_cases hn : n ≤ p + i
      · rw [if_pos hn, if_neg (by omega)]; exact rt_s rfl
      · rw [if_neg hn, if_pos (by omega), zrd_n (by omega) (by omega), h4, tI_and (h2 _)]; exact rt_s rfl
    refine lp_go (n := n - p) (fun i _ s1 => s1 = zsI s 1 2 (nI (p + i)) ∧ ∀ k, p ≤ k → k < p + i → isBl t k = true) (fun o => rt o (fun w => w = (sgn t n (sk t n p), zsI s 1 2 (nI (sk t n p))))) (by omega) ⟨(zsI_self e).symm, fun k a b => by omega⟩ ?_ ?_
    · rintro i ⟨⟩ s1 g hi ⟨hs, ha⟩
      have r1 : s1.1 1 2 = nI (p + i) := by rw [hs, zI1, if_pos rfl, updE, if_pos rfl]
      have r2 : s1.1 1 1 = nI n := by rw [hs, zI1, if_pos rfl, updE, if_neg (by omega)]; exact h3
      have r3 : s1.1 2 (p + i) = tI (t (p + i)) := by rw [hs, zI1, if_neg (by omega)]; exact h4 _
      have hn : ¬ n ≤ p + i := by omega
      have f1 := fin i s1 hs (by omega) ha
      simp only [zgi] at f1
      unfold f_Tape_next_B0
      rw [r1, r2]
      simp (disch := omega) only [zgi, nI_leI, hn, ↓reduceIte, zrd_n, r3, show (32 : Int32) = nI 32 from rfl, tI_eq (h2 _)]
      by_cases hb : t (p + i) = 32
      · left
        simp only [hb, not_true_eq_false, ↓reduceIte, zwi, nI_1]
        refine ⟨(), _, rfl, by rw [hs, zsI_2]; rfl, fun k a b => ?_⟩
        by_cases ek : k = p + i
        · rw [ek]; exact decide_eq_true hb
        · exact ha k a (by omega)
      · right
        simp only [hb, not_false_eq_true, ↓reduceIte]
        exact f1 (fun _ => decide_eq_false hb)
    · rintro ⟨⟩ s1 g ⟨hs, ha⟩
      have r1 : s1.1 1 2 = nI (p + (n - p)) := by rw [hs, zI1, if_pos rfl, updE, if_pos rfl]
      have r2 : s1.1 1 1 = nI n := by rw [hs, zI1, if_pos rfl, updE, if_neg (by omega)]; exact h3
      have f1 := fin (n - p) s1 hs (by omega) ha (fun h => by omega)
      simp only [zgi] at f1
      have hn : n ≤ p + (n - p) := by omega
      unfold f_Tape_next_B0
      rw [r1, r2]
      simp (disch := omega) only [zgi, nI_leI, hn, ↓reduceIte]
      exact f1
  obtain ⟨_, k1, rfl⟩ := key
  exact k1
theorem m_next {t : Nat → Nat} {n p : Nat} {s : ZS} (h : tpM t n s) (hp : p ≤ n) (e : s.1 216 8 = nI p) : f_Model_see s = some (sgn t n (sk t n p), zsI s 216 8 (nI (sk t n p))) := by
  obtain ⟨h1, h2, h3, h4⟩ := h
  have key : rt (f_Model_see s) (fun w => w = (sgn t n (sk t n p), zsI s 216 8 (nI (sk t n p)))) := by
    unfold f_Model_see
    simp only [zj0]
    have fin : ∀ i s1, s1 = zsI s 216 8 (nI (p + i)) → p + i ≤ n → (∀ k, p ≤ k → k < p + i → isBl t k = true) → (p + i < n → isBl t (p + i) = false) → rt (zgi (s1.1 216 8) (fun (v3 : Int32) => zgi (s1.1 216 1) (fun (v4 : Int32) => (if v4 ≤ v3 then some ((-1 : Int32), s1) else zgi (s1.1 216 8) (fun (v5 : Int32) => zrd 400 v5 (s1.1 217) (fun (v6 : Int32) => some ((v6 &&& (255 : Int32)), s1))))))) (fun w => w = (sgn t n (sk t n p), zsI s 216 8 (nI (sk t n p)))) := by
      intro i s1 hs hi ha hb
      have e1 : sk t n p = p + i := spn_u (by omega) hi ha hb
      subst hs
      rw [e1]
      unfold sgn
      simp (disch := omega) only [zgi, zI1, updE, ↓reduceIte, Nat.reduceEqDiff, h3, nI_leI]
      by_cases hn : n ≤ p + i
      · rw [if_pos hn, if_neg (by omega)]; exact rt_s rfl
      · rw [if_neg hn, if_pos (by omega), zrd_n (by omega) (by omega), h4, tI_and (h2 _)]; exact rt_s rfl
    refine lp_go (n := n - p) (fun i _ s1 => s1 = zsI s 216 8 (nI (p + i)) ∧ ∀ k, p ≤ k → k < p + i → isBl t k = true) (fun o => rt o (fun w => w = (sgn t n (sk t n p), zsI s 216 8 (nI (sk t n p))))) (by omega) ⟨(zsI_self e).symm, fun k a b => by omega⟩ ?_ ?_
    · rintro i ⟨⟩ s1 g hi ⟨hs, ha⟩
      have r1 : s1.1 216 8 = nI (p + i) := by rw [hs, zI1, if_pos rfl, updE, if_pos rfl]
      have r2 : s1.1 216 1 = nI n := by rw [hs, zI1, if_pos rfl, updE, if_neg (by omega)]; exact h3
      have r3 : s1.1 217 (p + i) = tI (t (p + i)) := by rw [hs, zI1, if_neg (by omega)]; exact h4 _
      have hn : ¬ n ≤ p + i := by omega
      have f1 := fin i s1 hs (by omega) ha
      simp only [zgi] at f1
      unfold f_Model_see_B0
      rw [r1, r2]
      simp (disch := omega) only [zgi, nI_leI, hn, ↓reduceIte, zrd_n, r3, show (32 : Int32) = nI 32 from rfl, tI_eq (h2 _)]
      by_cases hb : t (p + i) = 32
      · left
        simp only [hb, not_true_eq_false, ↓reduceIte, zwi, nI_1]
        refine ⟨(), _, rfl, by rw [hs, zsI_2]; rfl, fun k a b => ?_⟩
        by_cases ek : k = p + i
        · rw [ek]; exact decide_eq_true hb
        · exact ha k a (by omega)
      · right
        simp only [hb, not_false_eq_true, ↓reduceIte]
        exact f1 (fun _ => decide_eq_false hb)
    · rintro ⟨⟩ s1 g ⟨hs, ha⟩
      have r1 : s1.1 216 8 = nI (p + (n - p)) := by rw [hs, zI1, if_pos rfl, updE, if_pos rfl]
      have r2 : s1.1 216 1 = nI n := by rw [hs, zI1, if_pos rfl, updE, if_neg (by omega)]; exact h3
      have f1 := fin (n - p) s1 hs (by omega) ha (fun h => by omega)
      simp only [zgi] at f1
      have hn : n ≤ p + (n - p) := by omega
      unfold f_Model_see_B0
      rw [r1, r2]
      simp (disch := omega) only [zgi, nI_leI, hn, ↓reduceIte]
      exact f1
  obtain ⟨_, k1, rfl⟩ := key
  exact k1
theorem c_wsize {t : Nat → Nat} {n p : Nat} {s : ZS} (h : tpC t n s) (hp : p ≤ n) (e : s.1 1 2 = nI p) : f_Tape_wordSize s = some (nI (we t n p - p), s) := by
  obtain ⟨h1, h2, h3, h4⟩ := h
  have key : rt (f_Tape_wordSize s) (fun w => w = (nI (we t n p - p), s)) := by
    unfold f_Tape_wordSize
    simp only [zgi, e]
    refine lp_rt (n - p) (fun i a s1 => s1 = s ∧ a = nI (p + i) ∧ ∀ k, p ≤ k → k < p + i → isLt t k = true) (by omega) ⟨rfl, rfl, fun k a b => by omega⟩ ?_ ?_
    · rintro i a s1 g hi ⟨rfl, rfl, ha⟩
      have hn : ¬ n ≤ p + i := by omega
      unfold f_Tape_wordSize_B5
      simp (disch := omega) only [zgi, e, h3, nI_leI, hn, ↓reduceIte, zrd_n, h4, show (97 : Int32) = nI 97 from rfl, show (122 : Int32) = nI 122 from rfl, tI_lt (h2 _), tI_gt (h2 _), nI_sub, nI_1]
      by_cases hb : 97 ≤ t (p + i) ∧ t (p + i) ≤ 122
      · left
        rw [if_neg (by omega), if_neg (by omega)]
        refine ⟨_, _, rfl, rfl, rfl, fun k a b => ?_⟩
        by_cases ek : k = p + i
        · rw [ek]; exact decide_eq_true hb
        · exact ha k a (by omega)
      · right
        have e1 : we t n p = p + i := spn_u (by omega) (by omega) ha (fun _ => decide_eq_false hb)
        rw [e1, Nat.add_sub_cancel_left]
        by_cases hc : t (p + i) < 97 ∨ 128 ≤ t (p + i)
        · rw [if_pos hc]; exact rt_s rfl
        · rw [if_neg hc, if_pos (by omega)]; exact rt_s rfl
    · rintro a s1 g ⟨rfl, rfl, ha⟩
      have hn : n ≤ p + (n - p) := by omega
      have e1 : we t n p = p + (n - p) := spn_u (by omega) (by omega) ha (fun h => by omega)
      rw [e1, Nat.add_sub_cancel_left]
      unfold f_Tape_wordSize_B5
      simp (disch := omega) only [zgi, e, h3, nI_leI, hn, ↓reduceIte, nI_sub, Nat.add_sub_cancel_left]
      exact rt_s rfl
  obtain ⟨_, k1, rfl⟩ := key
  exact k1
theorem m_letter {t : Nat → Nat} {n k : Nat} {s : ZS} (h : tpM t n s) (hk : k ≤ n) : f_Model_isLetter (nI k) s = some (if k < n ∧ isLt t k = true then 1 else 0, s) := by
  obtain ⟨h1, h2, h3, h4⟩ := h
  unfold f_Model_isLetter isLt
  simp (disch := omega) only [zgi, h3, nI_leI, decide_eq_true_eq]
  by_cases hn : n ≤ k
  · rw [if_pos hn, if_neg (by omega), zbl_0]
  · simp (disch := omega) only [hn, ↓reduceIte, zrd_n, h4, show (97 : Int32) = nI 97 from rfl, show (122 : Int32) = nI 122 from rfl, tI_lt (h2 _), tI_gt (h2 _)]
    by_cases hc : t k < 97 ∨ 128 ≤ t k
    · rw [if_pos hc, if_neg (by omega), zbl_0]
    · rw [if_neg hc]
      by_cases hd : 122 < t k ∧ t k < 128
      · rw [if_pos hd, if_neg (by omega), zbl_0]
      · rw [if_neg hd, if_pos (by omega), zbl_1]
theorem m_digit {t : Nat → Nat} {n k : Nat} {s : ZS} (h : tpM t n s) (hk : k ≤ n) : f_Model_isDigit (nI k) s = some (if k < n ∧ isDg t k = true then 1 else 0, s) := by
  obtain ⟨h1, h2, h3, h4⟩ := h
  unfold f_Model_isDigit isDg
  simp (disch := omega) only [zgi, h3, nI_leI, decide_eq_true_eq]
  by_cases hn : n ≤ k
  · rw [if_pos hn, if_neg (by omega), zbl_0]
  · simp (disch := omega) only [hn, ↓reduceIte, zrd_n, h4, show (48 : Int32) = nI 48 from rfl, show (57 : Int32) = nI 57 from rfl, tI_lt (h2 _), tI_gt (h2 _)]
    by_cases hc : t k < 48 ∨ 128 ≤ t k
    · rw [if_pos hc, if_neg (by omega), zbl_0]
    · rw [if_neg hc]
      by_cases hd : 57 < t k ∧ t k < 128
      · rw [if_pos hd, if_neg (by omega), zbl_0]
      · rw [if_neg hd, if_pos (by omega), zbl_1]
theorem c_digI {b : Nat} {s : ZS} (hb : b < 256) : f_Tape_isDigit (tI b) s = some (if 48 ≤ b ∧ b ≤ 57 then 1 else 0, s) := by
  unfold f_Tape_isDigit
  simp only [show (48 : Int32) = nI 48 from rfl, show (57 : Int32) = nI 57 from rfl, tI_lt hb (show 48 < 128 by omega), tI_gt hb (show 57 < 128 by omega)]
  by_cases hc : b < 48 ∨ 128 ≤ b
  · rw [if_pos hc, if_neg (by omega), zbl_0]
  · rw [if_neg hc]
    by_cases hd : 57 < b ∧ b < 128
    · rw [if_pos hd, if_neg (by omega), zbl_0]
    · rw [if_neg hd, if_pos (by omega), zbl_1]
theorem c_digN {t : Nat → Nat} {n k : Nat} {s : ZS} (h : ∀ k, t k < 256) : f_Tape_isDigit (sgn t n k) s = some (if k < n ∧ isDg t k = true then 1 else 0, s) := by
  unfold f_Tape_isDigit sgn isDg
  have hb := h k
  simp only [decide_eq_true_eq]
  by_cases hn : k < n
  · rw [if_pos hn]
    simp (disch := omega) only [show (48 : Int32) = nI 48 from rfl, show (57 : Int32) = nI 57 from rfl, nI_ltI]
    by_cases hc : t k < 48
    · rw [if_pos hc, if_neg (by omega), zbl_0]
    · rw [if_neg hc]
      by_cases hd : 57 < t k
      · rw [if_pos hd, if_neg (by omega), zbl_0]
      · rw [if_neg hd, if_pos (by omega), zbl_1]
  · rw [if_neg hn, if_pos (by decide), if_neg (by omega), zbl_0]
theorem m_passWord {t : Nat → Nat} {n p : Nat} {s : ZS} (h : tpM t n s) (hp : p ≤ n) (e : s.1 216 8 = nI p) : f_Model_passWord s = some (zsI s 216 8 (nI (we t n p))) := by
  have h0 := h
  obtain ⟨h1, h2, h3, h4⟩ := h
  have key : rt (f_Model_passWord s) (fun w => w = zsI s 216 8 (nI (we t n p))) := by
    unfold f_Model_passWord
    have fr : ∀ i, tpM t n (zsI s 216 8 (nI (p + i))) := fun i => ⟨h1, h2, by rw [zI1, if_pos rfl, updE, if_neg (by omega)]; exact h3, fun k => by rw [zI1, if_neg (by omega)]; exact h4 k⟩
    refine lp_rt (n - p) (fun i _ s1 => s1 = zsI s 216 8 (nI (p + i)) ∧ ∀ k, p ≤ k → k < p + i → isLt t k = true) (by omega) ⟨(zsI_self e).symm, fun k a b => by omega⟩ ?_ ?_
    · rintro i ⟨⟩ s1 g hi ⟨rfl, ha⟩
      have r1 : (zsI s 216 8 (nI (p + i))).1 216 8 = nI (p + i) := by rw [zI1, if_pos rfl, updE, if_pos rfl]
      unfold f_Model_passWord_B0
      simp only [zgi, r1, m_letter (fr i) (show p + i ≤ n by omega), zcl_s]
      cases hb : isLt t (p + i)
      · right
        have e1 : we t n p = p + i := spn_u (by omega) (by omega) ha (fun _ => hb)
        simp only [Bool.false_eq_true, and_false, ↓reduceIte]
        rw [e1]; exact rt_s rfl
      · left
        simp only [show p + i < n by omega, and_self, ↓reduceIte, i10, zwi, nI_1]
        refine ⟨(), _, rfl, by rw [zsI_2]; rfl, fun k a b => ?_⟩
        by_cases ek : k = p + i
        · rw [ek]; exact hb
        · exact ha k a (by omega)
    · rintro ⟨⟩ s1 g ⟨rfl, ha⟩
      have r1 : (zsI s 216 8 (nI (p + (n - p)))).1 216 8 = nI (p + (n - p)) := by rw [zI1, if_pos rfl, updE, if_pos rfl]
      have e1 : we t n p = p + (n - p) := spn_u (by omega) (by omega) ha (fun h => by omega)
      have hn : ¬ p + (n - p) < n := by omega
      unfold f_Model_passWord_B0
      simp only [zgi, r1, m_letter (fr (n - p)) (show p + (n - p) ≤ n by omega), zcl_s, hn, false_and, ↓reduceIte]
      rw [e1]; exact rt_s rfl
  obtain ⟨_, k1, rfl⟩ := key
  exact k1
