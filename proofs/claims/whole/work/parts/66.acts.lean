/-! The sizes of rows matter only where a row was. -/
abbrev ZX : Type := ZT × Int32 × (Nat → Int32)
def eX (x y : ZX) : Prop := x.1 = y.1 ∧ x.2.1 = y.2.1 ∧ ∀ p, p < 5 → bt x.2.1 p = true → x.2.2 p = y.2.2 p
theorem br_keep {C : Nat → Int32} {B : Nat → Bool} {z : ZT} {RS : Nat → Int32} : ∀ n, n ≤ 5 → ∀ p, p < 5 → bt (itr n (sBr1 C B) (z, 0, RS)).2.1 p = false → (itr n (sBr1 C B) (z, 0, RS)).2.2 p = RS p := by
  intro n
  induction n with
  | zero => intro _ p _ _; rfl
  | succ n ih =>
    intro hn p hp hb
    have ih2 := ih (by omega) p hp
    rw [itrS] at hb ⊢
    generalize itr n (sBr1 C B) (z, 0, RS) = x at ih2 hb ⊢
    unfold sBr1 at hb ⊢
    split at hb
    · next hc =>
      rw [if_pos hc]
      dsimp only at hb ⊢
      rw [bt_or, Bool.or_eq_false_iff, bt_one (by omega) (by omega), decide_eq_false_iff_not] at hb
      rw [updE, if_neg (fun e => hb.2 e.symm)]
      exact ih2 hb.1
    · next hc => rw [if_neg hc]; exact ih2 hb
theorem br_eX {C : Nat → Int32} {B : Nat → Bool} {z : ZT} {RS RS' : Nat → Int32} : ∀ n, n ≤ 5 → eX (itr n (sBr1 C B) (z, 0, RS)) (itr n (sBr1 C B) (z, 0, RS')) := by
  intro n
  induction n with
  | zero => intro _; exact ⟨rfl, rfl, fun p hp hb => by rw [show (itr 0 (sBr1 C B) (z, 0, RS)).2.1 = 0 from rfl, bt_zero (by omega)] at hb; cases hb⟩
  | succ n ih =>
    intro hn
    obtain ⟨h1, h2, h3⟩ := ih (by omega)
    rw [itrS, itrS]
    generalize itr n (sBr1 C B) (z, 0, RS) = x at h1 h2 h3 ⊢
    generalize itr n (sBr1 C B) (z, 0, RS') = y at h1 h2 h3 ⊢
    unfold sBr1
    rw [← h1, ← h2]
    split
    · refine ⟨rfl, rfl, fun p hp hb => ?_⟩
      dsimp only at hb ⊢
      rw [updE, updE]
      by_cases e : p = n
      · rw [if_pos e, if_pos e]
      · rw [if_neg e, if_neg e]
        rw [bt_or, bt_one (by omega) (by omega), decide_eq_false (fun q => e q.symm), Bool.or_false] at hb
        exact h3 p hp hb
    · exact ⟨h1, h2, h3⟩
theorem say_eX {P : Nat} {C : Nat → Int32} {hm : Int32} {z : ZT} {RS RS' : Nat → Int32} {p q : Nat} (hP : P ≤ 5) : eX (sSay P C hm z RS p q) (sSay P C hm z RS' p q) := br_eX P hP
theorem door_eX {P : Nat} {C : Nat → Int32} {z : ZT} {RS RS' : Nat → Int32} (hP : P ≤ 5) : eX (sDoor P C z RS) (sDoor P C z RS') := br_eX P hP
theorem say_keep {P : Nat} {C : Nat → Int32} {hm : Int32} {z : ZT} {RS : Nat → Int32} {p q k : Nat} (hP : P ≤ 5) (hk : k < 5) (hb : bt (sSay P C hm z RS p q).2.1 k = false) : (sSay P C hm z RS p q).2.2 k = RS k := br_keep P hP k hk hb
theorem day1_eX {P Q : Nat} {C : Nat → Int32} {st hm : Int32} {rl : ZRl} {z : ZT} {RS RS' : Nat → Int32} (hP : P ≤ 5) : ∀ n, eX (itr n (sDay1 P Q C st hm rl) (z, 0, RS)) (itr n (sDay1 P Q C st hm rl) (z, 0, RS')) := by
  intro n
  induction n with
  | zero => exact ⟨rfl, rfl, fun p hp hb => by rw [show (itr 0 (sDay1 P Q C st hm rl) (z, 0, RS)).2.1 = 0 from rfl, bt_zero (by omega)] at hb; cases hb⟩
  | succ n ih =>
    obtain ⟨h1, h2, h3⟩ := ih
    rw [itrS, itrS]
    generalize itr n (sDay1 P Q C st hm rl) (z, 0, RS) = x at h1 h2 h3 ⊢
    generalize itr n (sDay1 P Q C st hm rl) (z, 0, RS') = y at h1 h2 h3 ⊢
    unfold sDay1
    rw [← h1, ← h2]
    split
    · split
      · exact ⟨h1, h2, h3⟩
      · generalize (sCh Q C st rl x.1 n).1.toNatClampNeg = q
        obtain ⟨k1, k2, k3⟩ := say_eX (C := C) (hm := hm) (z := x.1) (RS := x.2.2) (RS' := y.2.2) (p := n) (q := q) hP
        refine ⟨k1, by dsimp only; rw [k2], fun p hp hb => ?_⟩
        dsimp only at hb ⊢
        by_cases e : bt (sSay P C hm x.1 x.2.2 n q).2.1 p = true
        · exact k3 p hp e
        · have e1 : bt (sSay P C hm x.1 x.2.2 n q).2.1 p = false := by simpa using e
          have e2 : bt (sSay P C hm x.1 y.2.2 n q).2.1 p = false := by rw [← k2]; exact e1
          rw [say_keep hP hp e1, say_keep hP hp e2]
          rw [bt_or, e1, Bool.or_false] at hb
          exact h3 p hp hb
    · exact ⟨h1, h2, h3⟩
theorem day_eX {P Q : Nat} {C : Nat → Int32} {st hm : Int32} {rl : ZRl} {z : ZT} {RS RS' : Nat → Int32} (hP : P ≤ 5) : eX (sDay P Q C st hm rl z RS) (sDay P Q C st hm rl z RS') := by
  obtain ⟨h1, h2, h3⟩ := day1_eX (Q := Q) (C := C) (st := st) (hm := hm) (rl := rl) (z := z) (RS := RS) (RS' := RS') hP P
  exact ⟨congrArg (sEnd P C) h1, h2, h3⟩
/-! the rule in force -/
theorem c_under {f : Int32} {s : ZS} (hf : f = -1 ∨ ∃ j, j < 6 ∧ f = nI j) : rt (f_Mill_under f s) (fun w => w.1 202 5 = f ∧ w.1 202 6 = 0 ∧ w.1 202 7 = -1 ∧ frm (fun b => b = 202) s w) := by
  unfold f_Mill_under
  rcases hf with rfl | ⟨j, hj, rfl⟩
  · rw [if_pos (by decide)]
    simp only [zwi]
    refine rt_s ⟨?_, ?_, ?_, ?_⟩
    · simp only [zI1, updE, ↓reduceIte, Nat.reduceEqDiff]
    · simp only [zI1, updE, ↓reduceIte, Nat.reduceEqDiff]
    · simp only [zI1, updE, ↓reduceIte, Nat.reduceEqDiff]
    · exact ((frm.rf.I (by omega)).I (by omega)).I (by omega)
  · have hn : ¬ 6 ≤ j := by omega
    simp (disch := omega) only [zgi, zgl, zwi, zwf, zjn, zj0, zcl_s, zcv_s, zrd_n, zrl_n, zix_n, zwa_n, zwl_n, zI1, zI2, zL1, zL2, zR1, zR2, updE, updLE, zbl_0, zbl_1, nI_1, nI_add, nI_mulR, nI_leI, nI_ltI, nI_0le, nI_lt0, bvE, ↓reduceIte, Nat.reduceEqDiff, Nat.reduceLT, Nat.reduceAdd, Nat.reduceMul, reduceCtorEq, i10, i01, eq_self, or_true, true_or, false_or, or_false, not_true_eq_false, not_false_eq_true, if_true, if_false, hn]
    refine rt_s ⟨?_, ?_, ?_, ?_⟩
    · simp only [zI1, updE, ↓reduceIte, Nat.reduceEqDiff]
    · simp only [zI1, updE, ↓reduceIte, Nat.reduceEqDiff]
    · simp only [zI1, updE, ↓reduceIte, Nat.reduceEqDiff]
    · exact ((frm.rf.I (by omega)).I (by omega)).I (by omega)
theorem rl_of {s : ZS} {R : Nat} {f : Int32} (h : rRu s R) (hf : f = -1 ∨ ∃ j, j < R ∧ f = nI j) : ∃ rl : ZRl, (∀ w : ZS, w.1 202 5 = f → (∀ b, 86 ≤ b → b ≤ 97 → w.1 b = s.1 b) → hC rl w) ∧ (∀ w : ZS, w.1 216 21 = f → (∀ b, b = 218 ∨ b = 220 ∨ b = 221 → w.1 b = s.1 b) → hM rl w) := by
  rcases hf with rfl | ⟨j, hj, rfl⟩
  · exact ⟨none, fun w h _ => Or.inl ⟨rfl, h⟩, fun w h _ => Or.inl ⟨rfl, h⟩⟩
  · obtain ⟨f, k1, k2⟩ := h.2.2.2 j hj
    have := h.1
    exact ⟨some f, fun w h1 h2 => Or.inr ⟨j, f, rfl, by omega, h1, k1.f ⟨h2 _ (by omega) (by omega), h2 _ (by omega) (by omega)⟩⟩, fun w h1 h2 => Or.inr ⟨j, f, rfl, by omega, h1, k2.f ⟨fun k _ _ => by rw [h2 218 (by omega)], fun k _ _ => by rw [h2 220 (by omega)], by rw [h2 221 (by omega)]⟩⟩⟩
/-! acts -/
theorem cB.f {P Q : Nat} {M M' : Nat → Int32} (h : cB P Q M) (hf : ∀ k, k < 10 ∨ 57 ≤ k ∧ k < 108 → M' k = M k) : cB P Q M' := by
  obtain ⟨h1, h2, h3, h4, h5, h6, h7, h8, h9, h10⟩ := h
  refine ⟨h1, h2, (hf 3 (by omega)).trans h3, (hf 4 (by omega)).trans h4, ?_, fun p hp => ?_, fun p hp => ?_, fun p hp => ?_, fun p hp => ?_, fun p hp => ?_⟩
  · rw [hf 0 (by omega), hf 1 (by omega), hf 2 (by omega)]; exact h5
  · rw [hf _ (by omega)]; exact h6 p hp
  · rw [hf _ (by omega)]; exact h7 p hp
  · rw [hf _ (by omega)]; exact h8 p hp
  · rw [hf _ (by omega)]; exact h9 p hp
  · rw [hf _ (by omega)]; exact h10 p hp
theorem rSm.m {a : Nat} {s : ZS} {M M' : Nat → Int32} {P Q : Nat} (hr : rSm a s M P Q) (hP : P ≤ 5) (hQ : Q ≤ 6) (hf : ∀ k, k < 10 ∨ 57 ≤ k ∧ k < 108 → M' k = M k) : rSm a s M' P Q := by
  obtain ⟨q1, q2, q3, q4, q5, q6, q7, q8, q9, q10⟩ := hr
  refine ⟨q1.trans (hf 0 (by omega)).symm, q2.trans (hf 1 (by omega)).symm, q3.trans (hf 2 (by omega)).symm, q4, q5, fun p hp => ?_, fun p hp => ?_, fun p hp => ?_, fun p hp => ?_, fun p hp => ?_⟩
  · rw [hf _ (by omega)]; exact q6 p hp
  · rw [hf _ (by omega)]; exact q7 p hp
  · rw [hf _ (by omega)]; exact q8 p hp
  · rw [hf _ (by omega)]; exact q9 p hp
  · rw [hf _ (by omega)]; exact q10 p hp
theorem rNo.m {a : Nat} {s : ZS} {M M' : Nat → Int32} {P : Nat} (hr : rNo a s M P) (hf : ∀ k, 108 ≤ k → M' k = M k) : rNo a s M' P := by
  obtain ⟨m, k1, k2, k3, k4⟩ := hr
  refine ⟨m, k1, k2, (hf 138 (by omega)).trans k3, fun i hi => ?_⟩
  rw [hf (108 + 3 * i) (by omega), hf (108 + 3 * i + 1) (by omega), hf (108 + 3 * i + 2) (by omega)]
  exact k4 i hi
/-- what an act leaves -/
theorem Rel.act {s s' : ZS} {R P Q : Nat} (h1 : rTp s) (h2 : rRu s R) (h3 : rWd 3 s (s.1 226) (s.1 216 21) (s.1 216 22) R P Q) (h4 : rIm s R) (h6 : s.1 216 23 = 0) (h7 : s.1 216 24 = -1)
    (hb : ∀ b, ¬ (10 ≤ b ∧ b ≤ 14 ∨ 100 ≤ b ∧ b ≤ 216 ∨ 226 ≤ b ∧ b ≤ 228) → s'.1 b = s.1 b) (hj : ∀ j, j = 1 ∨ j = 2 ∨ 21 ≤ j ∧ j ≤ 24 → s'.1 216 j = s.1 216 j) (hk : ∀ k, k < 10 ∨ 57 ≤ k → s'.1 226 k = s.1 226 k) (hg : gS 10 s' = gM (s'.1 226)) (hs : sOK P (s'.1 226)) (hh : rHi s' P) : Rel s' := by
  obtain ⟨g1, g2, g3, g4, g5, g6, g7, g8, g9⟩ := h3
  refine ⟨R, P, Q, h1.f (by rw [hb 1 (by omega)]) (hj 1 (by omega)) (hb 2 (by omega)) (hb 217 (by omega)), h2.f (by rw [hb 0 (by omega)]) (hj 2 (by omega)) (fun b _ _ => hb b (by omega)) (fun b _ => hb b (by omega)), ?_, h4.f (fun b _ _ => hb b (by omega)) (fun b _ _ => hb b (by omega)), hh, (hj 23 (by omega)).trans h6, (hj 24 (by omega)).trans h7⟩
  refine ⟨g1.f (fun k h => hk k (by omega)), (g2.f (fun b _ _ => hb b (by omega))).m g1.1 g1.2.1 (fun k h => hk k (by omega)), hg, hs, (g5.f (fun b _ => hb b (by omega))).m (fun k h => hk k (by omega)), ?_, ?_, ?_, ?_⟩
  · rw [hb 3 (by omega), hj 21 (by omega)]; exact g6
  · rw [hj 21 (by omega)]; exact g7
  · rw [hb 3 (by omega), hj 22 (by omega)]; exact g8
  · rw [hj 22 (by omega)]; exact g9
/-- history behind an act -/
theorem rHi_push {s s' : ZS} {P u f0 f1 : Nat} {z : ZT} (hu : u ≤ 20) (hh : ∀ i, i < u → gS (102 + 5 * ((f0 + i) % 20)) s = gM (fun k => s.1 228 (47 * i + k - 10)) ∧ sOK P (fun k => s.1 228 (47 * i + k - 10))) (hz : sOKz P z) (hf : f1 < 20) (e1 : s'.1 100 1 = nI f1) (e2 : s'.1 100 2 = nI (if u < 20 then u + 1 else 20)) (e3 : s'.1 216 27 = nI (if u < 20 then u + 1 else 20))
    (hc : ∀ i, i < (if u < 20 then u + 1 else 20) → gS (102 + 5 * ((f1 + i) % 20)) s' = push u (fun i => gS (102 + 5 * ((f0 + i) % 20)) s) z i) (hm : ∀ i, i < (if u < 20 then u + 1 else 20) → gM (fun k => s'.1 228 (47 * i + k - 10)) = push u (fun i => gM (fun k => s.1 228 (47 * i + k - 10))) z i) : rHi s' P := by
  refine ⟨if u < 20 then u + 1 else 20, f1, by split <;> omega, hf, e1, e2, e3, fun i hi => ?_⟩
  have key : push u (fun i => gS (102 + 5 * ((f0 + i) % 20)) s) z i = push u (fun i => gM (fun k => s.1 228 (47 * i + k - 10))) z i ∧ sOKz P (push u (fun i => gM (fun k => s.1 228 (47 * i + k - 10))) z i) := by
    unfold push
    by_cases h20 : u < 20
    · rw [if_pos h20, if_pos h20]
      by_cases hi2 : i < u
      · rw [if_pos hi2, if_pos hi2]; exact ⟨(hh i hi2).1, (hh i hi2).2⟩
      · rw [if_neg hi2, if_neg hi2]; exact ⟨rfl, hz⟩
    · rw [if_neg h20, if_neg h20]
      by_cases hi2 : i < 19
      · rw [if_pos hi2, if_pos hi2]; exact ⟨(hh (i + 1) (by omega)).1, (hh (i + 1) (by omega)).2⟩
      · rw [if_neg hi2, if_neg hi2]; exact ⟨rfl, hz⟩
  refine ⟨?_, ?_⟩
  · rw [hc i hi, hm i hi]; exact key.1
  · rw [sOK_z, hm i hi]; exact key.2
