/-! Reading and writing states; what the combinators come to; bits; loops. -/
theorem zI1 (s : ZS) (a j : Nat) (v : Int32) (b : Nat) : (zsI s a j v).1 b = if b = a then upd (s.1 a) j v else s.1 b := rfl
theorem zI2 (s : ZS) (a j : Nat) (v : Int32) : (zsI s a j v).2 = s.2 := rfl
theorem zL1 (s : ZS) (a j : Nat) (v : Int64) : (zsL s a j v).1 = s.1 := rfl
theorem zL2 (s : ZS) (a j : Nat) (v : Int64) (b : Nat) : (zsL s a j v).2 b = if b = a then vp_updL (s.2 a) j v else s.2 b := rfl
theorem zR1 (s : ZS) (a : Nat) (r : Nat → Int32) (b : Nat) : (zsR s a r).1 b = if b = a then r else s.1 b := rfl
theorem zR2 (s : ZS) (a : Nat) (r : Nat → Int32) : (zsR s a r).2 = s.2 := rfl
theorem updE (f : Nat → Int32) (j : Nat) (v : Int32) (k : Nat) : upd f j v k = if k = j then v else f k := rfl
theorem updLE (f : Nat → Int64) (j : Nat) (v : Int64) (k : Nat) : vp_updL f j v k = if k = j then v else f k := rfl
theorem ix_n {j n : Nat} (h : j < n) (h2 : n < 2147483648) : 0 ≤ nI j ∧ (nI j).toNatClampNeg < n := by
  rw [nI_clamp (by omega)]
  exact ⟨nI_pos' (by omega), h⟩
section ZB
variable {R : Type}
theorem zrd_n {n j : Nat} {f : Nat → Int32} {K : Int32 → Option R} (h : j < n) (h2 : n < 2147483648) : zrd n (nI j) f K = K (f j) := by
  unfold zrd; rw [if_pos (ix_n h h2), nI_clamp (by omega)]
theorem zrl_n {n j : Nat} {f : Nat → Int64} {K : Int64 → Option R} (h : j < n) (h2 : n < 2147483648) : zrl n (nI j) f K = K (f j) := by
  unfold zrl; rw [if_pos (ix_n h h2), nI_clamp (by omega)]
theorem zix_n {n j : Nat} {K : Nat → Option R} (h : j < n) (h2 : n < 2147483648) : zix n (nI j) K = K j := by
  unfold zix; rw [if_pos (ix_n h h2), nI_clamp (by omega)]
theorem zwa_n {s : ZS} {a n j : Nat} {v : Int32} {K : ZS → Option R} (h : j < n) (h2 : n < 2147483648) : zwa s a n (nI j) v K = K (zsI s a j v) := by
  unfold zwa; rw [if_pos (ix_n h h2), nI_clamp (by omega)]
theorem zwl_n {s : ZS} {a n j : Nat} {v : Int64} {K : ZS → Option R} (h : j < n) (h2 : n < 2147483648) : zwl s a n (nI j) v K = K (zsL s a j v) := by
  unfold zwl; rw [if_pos (ix_n h h2), nI_clamp (by omega)]
theorem zcp_n {s : ZS} {a0 n0 a n i0 i m : Nat} {K : ZS → Option R} (h : i0 + m ≤ n0) (h1 : i + m ≤ n) (h2 : n0 < 2147483648) (h3 : n < 2147483648) : zcp s a0 n0 a n (nI i0) (nI i) (nI m) K = K (zsR s a (va_cpy (s.1 a0) (s.1 a) i0 i m)) := by
  unfold zcp; rw [nI_clamp (by omega), nI_clamp (by omega), nI_clamp (by omega), if_pos ⟨nI_pos (by omega), nI_pos (by omega), nI_pos (by omega), h, h1⟩]
theorem zcl_s {A : Type} {w : A × ZS} {K : A → ZS → Option R} : zcl (some w) K = K w.1 w.2 := rfl
theorem zcv_s {w : ZS} {K : ZS → Option R} : zcv (some w) K = K w := rfl
theorem zdv_n {w : Int32} {K : Option R} (h : ¬ w = 0) : zdv w K = K := by unfold zdv; rw [if_neg h]
theorem zdl_n {w : Int64} {K : Option R} (h : ¬ w = 0) : zdl w K = K := by unfold zdl; rw [if_neg h]
theorem zwb_0 {s : ZS} {a j : Nat} {K : ZS → Option R} : zwb s a j 0 K = K (zsI s a j 0) := by unfold zwb; rw [if_pos (Or.inl rfl)]
theorem zwb_1 {s : ZS} {a j : Nat} {K : ZS → Option R} : zwb s a j 1 K = K (zsI s a j 1) := by unfold zwb; rw [if_pos (Or.inr rfl)]
end ZB
theorem zbl_0 {s : ZS} : zbl 0 s = some (0, s) := by unfold zbl; rw [if_pos (Or.inl rfl)]
theorem zbl_1 {s : ZS} : zbl 1 s = some (1, s) := by unfold zbl; rw [if_pos (Or.inr rfl)]
theorem nI_mulR (a b : Nat) : nI a * nI b = nI (a * b) := (Int32.ofNat_mul a b).symm
theorem nI_sub1 (a : Nat) (h : 0 < a) : nI a - 1 = nI (a - 1) := by
  obtain ⟨k, rfl⟩ : ∃ k, a = k + 1 := ⟨a - 1, by omega⟩
  rw [nI_pred]; rfl
theorem nI_sub {a b : Nat} (h : b ≤ a) : nI a - nI b = nI (a - b) := nI_subE rfl rfl h
theorem nI_n1 {a : Nat} (h : a < 2147483648) : (nI a = -1) = False := by
  apply propext; constructor
  · intro e
    have := congrArg Int32.toInt e
    rw [nI_toInt h] at this
    have h2 : (-1 : Int32).toInt = -1 := by decide
    rw [h2] at this; omega
  · intro e; cases e
theorem nI_n1' {a : Nat} (h : a < 2147483648) : (-1 = nI a) = False := by
  rw [eq_comm (a := (-1 : Int32))]; exact nI_n1 h
theorem nI_0le {a : Nat} (h : a < 2147483648) : (0 ≤ nI a) = True := propext ⟨fun _ => trivial, fun _ => nI_pos' h⟩
theorem nI_lt0 {a : Nat} (h : a < 2147483648) : (nI a < 0) = False := propext ⟨fun e => nI_pos h e, fun e => by cases e⟩
theorem nI_eq0 {a : Nat} (h : a < 2147483648) : (nI a = 0) = (a = 0) := by
  apply propext
  rw [show (0 : Int32) = nI 0 from rfl, nI_eq h (by decide)]
theorem nI_le0 {a : Nat} (h : a < 2147483648) : (nI a ≤ 0) = (a = 0) := by
  apply propext
  rw [show (0 : Int32) = nI 0 from rfl, nI_leI h (by decide)]
  omega
theorem nI_0lt {a : Nat} (h : a < 2147483648) : (0 < nI a) = (0 < a) := by
  apply propext
  rw [show (0 : Int32) = nI 0 from rfl, nI_ltI (by decide) h]
/-! bits -/
def bv (x : Int32) (k : Nat) : Int32 := (x >>> (nI k &&& 31)) &&& 1
def bt (x : Int32) (k : Nat) : Bool := decide (bv x k = 1)
theorem and1 (x : Int32) : x &&& 1 = 0 ∨ x &&& 1 = 1 := by
  have h : (x &&& 1).toBitVec = x.toBitVec &&& 1#32 := rfl
  have h2 := BitVec.and_one_eq_setWidth_ofBool_getLsbD (x := x.toBitVec)
  cases hb : x.toBitVec.getLsbD 0 with
  | false => left; apply Int32.toBitVec_inj.mp; rw [h, h2, hb]; rfl
  | true => right; apply Int32.toBitVec_inj.mp; rw [h, h2, hb]; rfl
theorem bv_01 (x : Int32) (k : Nat) : bv x k = 0 ∨ bv x k = 1 := and1 _
theorem bv_0 (x : Int32) (k : Nat) : (bv x k = 0) = (bt x k = false) := by
  unfold bt
  rcases bv_01 x k with h | h
  · rw [h]; decide
  · rw [h]; decide
theorem bv_1 (x : Int32) (k : Nat) : (bv x k = 1) = (bt x k = true) := by
  unfold bt
  simp
theorem bv_and (x y : Int32) (k : Nat) : bv (x &&& y) k = bv x k &&& bv y k := by
  unfold bv
  rw [Int32.shiftRight_and]
  apply Int32.toBitVec_inj.mp
  simp only [Int32.toBitVec_and]
  apply BitVec.eq_of_getLsbD_eq
  intro i hi
  simp only [BitVec.getLsbD_and]
  generalize BitVec.getLsbD _ i = a; generalize BitVec.getLsbD _ i = b; generalize BitVec.getLsbD _ i = c
  cases a <;> cases b <;> cases c <;> rfl
theorem bv_or (x y : Int32) (k : Nat) : bv (x ||| y) k = bv x k ||| bv y k := by
  unfold bv
  rw [Int32.shiftRight_or]
  apply Int32.toBitVec_inj.mp
  simp only [Int32.toBitVec_and, Int32.toBitVec_or]
  apply BitVec.eq_of_getLsbD_eq
  intro i hi
  simp only [BitVec.getLsbD_and, BitVec.getLsbD_or]
  generalize BitVec.getLsbD _ i = a; generalize BitVec.getLsbD _ i = b; generalize BitVec.getLsbD _ i = c
  cases a <;> cases b <;> cases c <;> rfl
theorem bv_xor (x y : Int32) (k : Nat) : bv (x ^^^ y) k = bv x k ^^^ bv y k := by
  unfold bv
  rw [Int32.shiftRight_xor]
  apply Int32.toBitVec_inj.mp
  simp only [Int32.toBitVec_and, Int32.toBitVec_xor]
  apply BitVec.eq_of_getLsbD_eq
  intro i hi
  simp only [BitVec.getLsbD_and, BitVec.getLsbD_xor]
  generalize BitVec.getLsbD _ i = a; generalize BitVec.getLsbD _ i = b; generalize BitVec.getLsbD _ i = c
  cases a <;> cases b <;> cases c <;> rfl
theorem bt_and (x y : Int32) (k : Nat) : bt (x &&& y) k = (bt x k && bt y k) := by
  unfold bt
  rw [bv_and]
  rcases bv_01 x k with h | h <;> rcases bv_01 y k with h2 | h2 <;> rw [h, h2] <;> decide
theorem bt_or (x y : Int32) (k : Nat) : bt (x ||| y) k = (bt x k || bt y k) := by
  unfold bt
  rw [bv_or]
  rcases bv_01 x k with h | h <;> rcases bv_01 y k with h2 | h2 <;> rw [h, h2] <;> decide
theorem bt_m1 {k : Nat} (h : k < 8) : bt (-1) k = true := (show ∀ k, k < 8 → bt (-1) k = true by decide) k h
theorem bt_not (x : Int32) {k : Nat} (h : k < 8) : bt (x ^^^ (-1)) k = !bt x k := by
  have h1 := bt_m1 h
  unfold bt at h1 ⊢
  rw [decide_eq_true_eq] at h1
  rw [bv_xor, h1]
  rcases bv_01 x k with h | h <;> rw [h] <;> decide
theorem bt_one {p k : Nat} (hp : p < 8) (h : k < 8) : bt ((1 : Int32) <<< (nI p &&& 31)) k = decide (p = k) := (show ∀ p, p < 8 → ∀ k, k < 8 → bt ((1 : Int32) <<< (nI p &&& 31)) k = decide (p = k) by decide) p hp k h
theorem bt_zero {k : Nat} (h : k < 8) : bt 0 k = false := (show ∀ k, k < 8 → bt 0 k = false by decide) k h
/-! loops -/
theorem lp_inv {A R : Type} {B : A → ZS → (A → ZS → Option R) → Option R} {n : Nat} (I : Nat → A → ZS → Prop) (Z : Option R → Prop)
    (hs : ∀ i a s g, i < n → I i a s → (∃ a' s', B a s g = g a' s' ∧ I (i + 1) a' s') ∨ Z (B a s g))
    (he : ∀ a s g, I n a s → Z (B a s g)) : ∀ (k i : Nat) (a : A) (s : ZS), i ≤ n → n - i < k → I i a s → Z (zlp k B a s) := by
  intro k
  induction k with
  | zero => intro i a s _ h; omega
  | succ k ih =>
    intro i a s hi hk hI
    show Z (B a s (zlp k B))
    by_cases hn : i = n
    · subst hn; exact he a s _ hI
    · rcases hs i a s (zlp k B) (by omega) hI with ⟨a', s', h1, h2⟩ | h
      · rw [h1]; exact ih (i + 1) a' s' (by omega) (by omega) h2
      · exact h
/-- from the loop's begin on -/
theorem lp_go {A R : Type} {B : A → ZS → (A → ZS → Option R) → Option R} {n : Nat} (I : Nat → A → ZS → Prop) (Z : Option R → Prop) {a : A} {s : ZS} (hn : n < 900000) (h0 : I 0 a s)
    (hs : ∀ i a s g, i < n → I i a s → (∃ a' s', B a s g = g a' s' ∧ I (i + 1) a' s') ∨ Z (B a s g))
    (he : ∀ a s g, I n a s → Z (B a s g)) : Z (zlp zN B a s) := lp_inv I Z hs he zN 0 a s (Nat.zero_le _) (by have := zN_big; omega) h0
/-- it answers, and so -/
def rt {R : Type} (o : Option R) (Q : R → Prop) : Prop := ∃ w, o = some w ∧ Q w
theorem rt_s {R : Type} {w : R} {Q : R → Prop} (h : Q w) : rt (some w) Q := ⟨w, rfl, h⟩
theorem rt.mono {R : Type} {o : Option R} {Q Q' : R → Prop} (h : rt o Q) (hq : ∀ w, Q w → Q' w) : rt o Q' := by
  obtain ⟨w, h1, h2⟩ := h; exact ⟨w, h1, hq w h2⟩
theorem rt_cl {A R : Type} {o : Option (A × ZS)} {K : A → ZS → Option R} {Q1 : A × ZS → Prop} {Q : R → Prop} (h : rt o Q1) (k : ∀ v s, Q1 (v, s) → rt (K v s) Q) : rt (zcl o K) Q := by
  obtain ⟨w, h1, h2⟩ := h; rw [h1]; exact k w.1 w.2 h2
theorem rt_cv {R : Type} {o : Option ZS} {K : ZS → Option R} {Q1 : ZS → Prop} {Q : R → Prop} (h : rt o Q1) (k : ∀ s, Q1 s → rt (K s) Q) : rt (zcv o K) Q := by
  obtain ⟨w, h1, h2⟩ := h; rw [h1]; exact k w h2
theorem lp_rt {A R : Type} {B : A → ZS → (A → ZS → Option R) → Option R} {Q : R → Prop} {a : A} {s : ZS} (n : Nat) (I : Nat → A → ZS → Prop) (hn : n < 900000) (h0 : I 0 a s)
    (hs : ∀ i a s g, i < n → I i a s → (∃ a' s', B a s g = g a' s' ∧ I (i + 1) a' s') ∨ rt (B a s g) Q)
    (he : ∀ a s g, I n a s → rt (B a s g) Q) : rt (zlp zN B a s) Q := lp_go I (fun o => rt o Q) hn h0 hs he
/-- n times -/
def itr {α : Type} : Nat → (Nat → α → α) → α → α
  | 0, _, a => a
  | n + 1, f, a => f n (itr n f a)
/-- all but these cells stay -/
def frm (C : Nat → Prop) (s s' : ZS) : Prop := (∀ b, ¬ C b → s'.1 b = s.1 b) ∧ (∀ b, ¬ C b → s'.2 b = s.2 b)
theorem frm.rf {C : Nat → Prop} {s : ZS} : frm C s s := ⟨fun _ _ => rfl, fun _ _ => rfl⟩
theorem frm.tr {C : Nat → Prop} {s s1 s2 : ZS} (h : frm C s s1) (h2 : frm C s1 s2) : frm C s s2 := ⟨fun b hb => (h2.1 b hb).trans (h.1 b hb), fun b hb => (h2.2 b hb).trans (h.2 b hb)⟩
theorem frm.sub {C C' : Nat → Prop} {s s1 : ZS} (h : frm C s s1) (hc : ∀ b, C b → C' b) : frm C' s s1 := ⟨fun b hb => h.1 b (fun q => hb (hc b q)), fun b hb => h.2 b (fun q => hb (hc b q))⟩
theorem frm.I {C : Nat → Prop} {s s1 : ZS} {a j : Nat} {v : Int32} (h : frm C s s1) (ha : C a) : frm C s (zsI s1 a j v) := h.tr ⟨fun b hb => by rw [zI1, if_neg (fun e => hb (by rw [e]; exact ha))], fun b hb => rfl⟩
theorem frm.L {C : Nat → Prop} {s s1 : ZS} {a j : Nat} {v : Int64} (h : frm C s s1) (ha : C a) : frm C s (zsL s1 a j v) := h.tr ⟨fun b hb => rfl, fun b hb => by rw [zL2, if_neg (fun e => hb (by rw [e]; exact ha))]⟩
theorem frm.R {C : Nat → Prop} {s s1 : ZS} {a : Nat} {r : Nat → Int32} (h : frm C s s1) (ha : C a) : frm C s (zsR s1 a r) := h.tr ⟨fun b hb => by rw [zR1, if_neg (fun e => hb (by rw [e]; exact ha))], fun b hb => rfl⟩
theorem l2 : (2 : Int32) = nI 2 := rfl
theorem l3 : (3 : Int32) = nI 3 := rfl
theorem l4 : (4 : Int32) = nI 4 := rfl
theorem l5 : (5 : Int32) = nI 5 := rfl
theorem l6 : (6 : Int32) = nI 6 := rfl
theorem l7 : (7 : Int32) = nI 7 := rfl
theorem l8 : (8 : Int32) = nI 8 := rfl
theorem l9 : (9 : Int32) = nI 9 := rfl
theorem l10 : (10 : Int32) = nI 10 := rfl
theorem l11 : (11 : Int32) = nI 11 := rfl
theorem l12 : (12 : Int32) = nI 12 := rfl
theorem l13 : (13 : Int32) = nI 13 := rfl
theorem l14 : (14 : Int32) = nI 14 := rfl
theorem l15 : (15 : Int32) = nI 15 := rfl
theorem l16 : (16 : Int32) = nI 16 := rfl
theorem l17 : (17 : Int32) = nI 17 := rfl
theorem l18 : (18 : Int32) = nI 18 := rfl
theorem l19 : (19 : Int32) = nI 19 := rfl
theorem l20 : (20 : Int32) = nI 20 := rfl
theorem l21 : (21 : Int32) = nI 21 := rfl
theorem l22 : (22 : Int32) = nI 22 := rfl
theorem l23 : (23 : Int32) = nI 23 := rfl
theorem l24 : (24 : Int32) = nI 24 := rfl
theorem l25 : (25 : Int32) = nI 25 := rfl
theorem l26 : (26 : Int32) = nI 26 := rfl
theorem l27 : (27 : Int32) = nI 27 := rfl
theorem l28 : (28 : Int32) = nI 28 := rfl
theorem l29 : (29 : Int32) = nI 29 := rfl
theorem l30 : (30 : Int32) = nI 30 := rfl
theorem l31 : (31 : Int32) = nI 31 := rfl
theorem l32 : (32 : Int32) = nI 32 := rfl
theorem l33 : (33 : Int32) = nI 33 := rfl
theorem l34 : (34 : Int32) = nI 34 := rfl
theorem l35 : (35 : Int32) = nI 35 := rfl
theorem l36 : (36 : Int32) = nI 36 := rfl
theorem l37 : (37 : Int32) = nI 37 := rfl
theorem l38 : (38 : Int32) = nI 38 := rfl
theorem l39 : (39 : Int32) = nI 39 := rfl
theorem l40 : (40 : Int32) = nI 40 := rfl
theorem l41 : (41 : Int32) = nI 41 := rfl
theorem l42 : (42 : Int32) = nI 42 := rfl
theorem l43 : (43 : Int32) = nI 43 := rfl
theorem l44 : (44 : Int32) = nI 44 := rfl
theorem l45 : (45 : Int32) = nI 45 := rfl
theorem l46 : (46 : Int32) = nI 46 := rfl
theorem l47 : (47 : Int32) = nI 47 := rfl
theorem l48 : (48 : Int32) = nI 48 := rfl
theorem l49 : (49 : Int32) = nI 49 := rfl
theorem l50 : (50 : Int32) = nI 50 := rfl
theorem l51 : (51 : Int32) = nI 51 := rfl
theorem l52 : (52 : Int32) = nI 52 := rfl
theorem l53 : (53 : Int32) = nI 53 := rfl
theorem l54 : (54 : Int32) = nI 54 := rfl
theorem l55 : (55 : Int32) = nI 55 := rfl
theorem l56 : (56 : Int32) = nI 56 := rfl
theorem l57 : (57 : Int32) = nI 57 := rfl
theorem l58 : (58 : Int32) = nI 58 := rfl
theorem l59 : (59 : Int32) = nI 59 := rfl
theorem l60 : (60 : Int32) = nI 60 := rfl
theorem l61 : (61 : Int32) = nI 61 := rfl
theorem l62 : (62 : Int32) = nI 62 := rfl
theorem l63 : (63 : Int32) = nI 63 := rfl
theorem l64 : (64 : Int32) = nI 64 := rfl
theorem l65 : (65 : Int32) = nI 65 := rfl
theorem l66 : (66 : Int32) = nI 66 := rfl
theorem l67 : (67 : Int32) = nI 67 := rfl
theorem l68 : (68 : Int32) = nI 68 := rfl
theorem l69 : (69 : Int32) = nI 69 := rfl
theorem l70 : (70 : Int32) = nI 70 := rfl
theorem l71 : (71 : Int32) = nI 71 := rfl
theorem l72 : (72 : Int32) = nI 72 := rfl
theorem l73 : (73 : Int32) = nI 73 := rfl
theorem l74 : (74 : Int32) = nI 74 := rfl
theorem l75 : (75 : Int32) = nI 75 := rfl
theorem l76 : (76 : Int32) = nI 76 := rfl
theorem l77 : (77 : Int32) = nI 77 := rfl
theorem l78 : (78 : Int32) = nI 78 := rfl
theorem l79 : (79 : Int32) = nI 79 := rfl
theorem l80 : (80 : Int32) = nI 80 := rfl
theorem l81 : (81 : Int32) = nI 81 := rfl
theorem l82 : (82 : Int32) = nI 82 := rfl
theorem l83 : (83 : Int32) = nI 83 := rfl
theorem l84 : (84 : Int32) = nI 84 := rfl
theorem l85 : (85 : Int32) = nI 85 := rfl
theorem l86 : (86 : Int32) = nI 86 := rfl
theorem l87 : (87 : Int32) = nI 87 := rfl
theorem l88 : (88 : Int32) = nI 88 := rfl
theorem l89 : (89 : Int32) = nI 89 := rfl
theorem l90 : (90 : Int32) = nI 90 := rfl
theorem l91 : (91 : Int32) = nI 91 := rfl
theorem l92 : (92 : Int32) = nI 92 := rfl
theorem l93 : (93 : Int32) = nI 93 := rfl
theorem l94 : (94 : Int32) = nI 94 := rfl
theorem l95 : (95 : Int32) = nI 95 := rfl
theorem l96 : (96 : Int32) = nI 96 := rfl
theorem l97 : (97 : Int32) = nI 97 := rfl
theorem l98 : (98 : Int32) = nI 98 := rfl
theorem l99 : (99 : Int32) = nI 99 := rfl
theorem l100 : (100 : Int32) = nI 100 := rfl
theorem l101 : (101 : Int32) = nI 101 := rfl
theorem l102 : (102 : Int32) = nI 102 := rfl
theorem l103 : (103 : Int32) = nI 103 := rfl
theorem l104 : (104 : Int32) = nI 104 := rfl
theorem l105 : (105 : Int32) = nI 105 := rfl
theorem l106 : (106 : Int32) = nI 106 := rfl
theorem l107 : (107 : Int32) = nI 107 := rfl
theorem l108 : (108 : Int32) = nI 108 := rfl
theorem l109 : (109 : Int32) = nI 109 := rfl
theorem l110 : (110 : Int32) = nI 110 := rfl
theorem l111 : (111 : Int32) = nI 111 := rfl
theorem l112 : (112 : Int32) = nI 112 := rfl
theorem l113 : (113 : Int32) = nI 113 := rfl
theorem l114 : (114 : Int32) = nI 114 := rfl
theorem l115 : (115 : Int32) = nI 115 := rfl
theorem l116 : (116 : Int32) = nI 116 := rfl
theorem l117 : (117 : Int32) = nI 117 := rfl
theorem l118 : (118 : Int32) = nI 118 := rfl
theorem l119 : (119 : Int32) = nI 119 := rfl
theorem l120 : (120 : Int32) = nI 120 := rfl
theorem l121 : (121 : Int32) = nI 121 := rfl
theorem l122 : (122 : Int32) = nI 122 := rfl
theorem l123 : (123 : Int32) = nI 123 := rfl
theorem l124 : (124 : Int32) = nI 124 := rfl
theorem l125 : (125 : Int32) = nI 125 := rfl
theorem l126 : (126 : Int32) = nI 126 := rfl
theorem l127 : (127 : Int32) = nI 127 := rfl
theorem l128 : (128 : Int32) = nI 128 := rfl
theorem l129 : (129 : Int32) = nI 129 := rfl
theorem l130 : (130 : Int32) = nI 130 := rfl
theorem l131 : (131 : Int32) = nI 131 := rfl
theorem l132 : (132 : Int32) = nI 132 := rfl
theorem l133 : (133 : Int32) = nI 133 := rfl
theorem l134 : (134 : Int32) = nI 134 := rfl
theorem l135 : (135 : Int32) = nI 135 := rfl
theorem l136 : (136 : Int32) = nI 136 := rfl
theorem l137 : (137 : Int32) = nI 137 := rfl
theorem l138 : (138 : Int32) = nI 138 := rfl
theorem l139 : (139 : Int32) = nI 139 := rfl
theorem l140 : (140 : Int32) = nI 140 := rfl
theorem l200 : (200 : Int32) = nI 200 := rfl
theorem l255 : (255 : Int32) = nI 255 := rfl
theorem l400 : (400 : Int32) = nI 400 := rfl
theorem l940 : (940 : Int32) = nI 940 := rfl
theorem l999 : (999 : Int32) = nI 999 := rfl
theorem l9999 : (9999 : Int32) = nI 9999 := rfl
theorem l99999 : (99999 : Int32) = nI 99999 := rfl
theorem l999999 : (999999 : Int32) = nI 999999 := rfl
theorem l1000000 : (1000000 : Int32) = nI 1000000 := rfl
