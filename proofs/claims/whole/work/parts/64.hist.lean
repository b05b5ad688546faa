/-! Copies of states, history. -/
theorem tr_cpy {n : Nat} {f g : Nat → Int32} : tr n (va_cpy f g 0 0 n) = tr n f := by
  refine tr_ext (fun k hk => ?_)
  unfold va_cpy
  rw [if_pos (by omega)]
  congr 1; omega
theorem cpy_at {n k : Nat} {f g : Nat → Int32} (h : k < n) : va_cpy f g 0 0 n k = f k := by
  unfold va_cpy
  rw [if_pos (by omega)]
  congr 1; omega
theorem c_copyS {a b : Nat} {s : ZS} (h : a + 4 < b ∨ b + 4 < a) : rt (f_State_copy a b s) (fun w => gS a w = gS b s ∧ frm (fun c => a ≤ c ∧ c ≤ a + 4) s w) := by
  have x00 : (b = a) = False := eq_false (by omega)
  have x01 : (b = a + 1) = False := eq_false (by omega)
  have x02 : (b = a + 2) = False := eq_false (by omega)
  have x03 : (b = a + 3) = False := eq_false (by omega)
  have x04 : (b = a + 4) = False := eq_false (by omega)
  have x10 : (b + 1 = a) = False := eq_false (by omega)
  have x11 : (b + 1 = a + 1) = False := eq_false (by omega)
  have x12 : (b + 1 = a + 2) = False := eq_false (by omega)
  have x13 : (b + 1 = a + 3) = False := eq_false (by omega)
  have x14 : (b + 1 = a + 4) = False := eq_false (by omega)
  have x20 : (b + 2 = a) = False := eq_false (by omega)
  have x21 : (b + 2 = a + 1) = False := eq_false (by omega)
  have x22 : (b + 2 = a + 2) = False := eq_false (by omega)
  have x23 : (b + 2 = a + 3) = False := eq_false (by omega)
  have x24 : (b + 2 = a + 4) = False := eq_false (by omega)
  have x30 : (b + 3 = a) = False := eq_false (by omega)
  have x31 : (b + 3 = a + 1) = False := eq_false (by omega)
  have x32 : (b + 3 = a + 2) = False := eq_false (by omega)
  have x33 : (b + 3 = a + 3) = False := eq_false (by omega)
  have x34 : (b + 3 = a + 4) = False := eq_false (by omega)
  have x40 : (b + 4 = a) = False := eq_false (by omega)
  have x41 : (b + 4 = a + 1) = False := eq_false (by omega)
  have x42 : (b + 4 = a + 2) = False := eq_false (by omega)
  have x43 : (b + 4 = a + 3) = False := eq_false (by omega)
  have x44 : (b + 4 = a + 4) = False := eq_false (by omega)
  have y01 : (a = a + 1) = False := eq_false (by omega)
  have y02 : (a = a + 2) = False := eq_false (by omega)
  have y03 : (a = a + 3) = False := eq_false (by omega)
  have y04 : (a = a + 4) = False := eq_false (by omega)
  have y10 : (a + 1 = a) = False := eq_false (by omega)
  have y12 : (a + 1 = a + 2) = False := eq_false (by omega)
  have y13 : (a + 1 = a + 3) = False := eq_false (by omega)
  have y14 : (a + 1 = a + 4) = False := eq_false (by omega)
  have y20 : (a + 2 = a) = False := eq_false (by omega)
  have y21 : (a + 2 = a + 1) = False := eq_false (by omega)
  have y23 : (a + 2 = a + 3) = False := eq_false (by omega)
  have y24 : (a + 2 = a + 4) = False := eq_false (by omega)
  have y30 : (a + 3 = a) = False := eq_false (by omega)
  have y31 : (a + 3 = a + 1) = False := eq_false (by omega)
  have y32 : (a + 3 = a + 2) = False := eq_false (by omega)
  have y34 : (a + 3 = a + 4) = False := eq_false (by omega)
  have y40 : (a + 4 = a) = False := eq_false (by omega)
  have y41 : (a + 4 = a + 1) = False := eq_false (by omega)
  have y42 : (a + 4 = a + 2) = False := eq_false (by omega)
  have y43 : (a + 4 = a + 3) = False := eq_false (by omega)
  unfold f_State_copy
  simp (disch := omega) only [zgi, zwi, l0, l5, l30, zcp_n]
  refine rt_s ⟨?_, ?_⟩
  · unfold gS
    simp only [zR1, zI1, x00, x01, x02, x03, x04, x10, x11, x12, x13, x14, x20, x21, x22, x23, x24, x30, x31, x32, x33, x34, x40, x41, x42, x43, x44, y01, y02, y03, y04, y10, y12, y13, y14, y20, y21, y23, y24, y30, y31, y32, y34, y40, y41, y42, y43, ↓reduceIte, tr_cpy, updE, Nat.reduceEqDiff]
  · exact (((((frm.rf.I (by omega)).I (by omega)).R (by omega)).R (by omega)).R (by omega)).R (by omega)
theorem zwb_ok {R : Type} {s : ZS} {a j : Nat} {v : Int32} {K : ZS → Option R} (h : v = 0 ∨ v = 1) : zwb s a j v K = K (zsI s a j v) := by unfold zwb; rw [if_pos h]
theorem c_copySm {a b : Nat} {s : ZS} (h : a + 5 < b ∨ b + 5 < a) (h0 : s.1 b 0 = 0 ∨ s.1 b 0 = 1) : rt (f_Smithy_copy a b s) (fun w => (w.1 a 0 = s.1 b 0 ∧ w.1 a 1 = s.1 b 1 ∧ w.1 a 2 = s.1 b 2 ∧ w.1 a 3 = s.1 b 3 ∧ w.1 a 4 = s.1 b 4) ∧ (∀ k, k < 5 → w.1 (a + 1) k = s.1 (b + 1) k ∧ w.1 (a + 2) k = s.1 (b + 2) k ∧ w.1 (a + 3) k = s.1 (b + 3) k) ∧ (∀ k, k < 6 → w.1 (a + 4) k = s.1 (b + 4) k) ∧ (∀ k, k < 30 → w.1 (a + 5) k = s.1 (b + 5) k) ∧ frm (fun c => a ≤ c ∧ c ≤ a + 5) s w) := by
  have x00 : (b = a) = False := eq_false (by omega)
  have x01 : (b = a + 1) = False := eq_false (by omega)
  have x02 : (b = a + 2) = False := eq_false (by omega)
  have x03 : (b = a + 3) = False := eq_false (by omega)
  have x04 : (b = a + 4) = False := eq_false (by omega)
  have x05 : (b = a + 5) = False := eq_false (by omega)
  have x10 : (b + 1 = a) = False := eq_false (by omega)
  have x11 : (b + 1 = a + 1) = False := eq_false (by omega)
  have x12 : (b + 1 = a + 2) = False := eq_false (by omega)
  have x13 : (b + 1 = a + 3) = False := eq_false (by omega)
  have x14 : (b + 1 = a + 4) = False := eq_false (by omega)
  have x15 : (b + 1 = a + 5) = False := eq_false (by omega)
  have x20 : (b + 2 = a) = False := eq_false (by omega)
  have x21 : (b + 2 = a + 1) = False := eq_false (by omega)
  have x22 : (b + 2 = a + 2) = False := eq_false (by omega)
  have x23 : (b + 2 = a + 3) = False := eq_false (by omega)
  have x24 : (b + 2 = a + 4) = False := eq_false (by omega)
  have x25 : (b + 2 = a + 5) = False := eq_false (by omega)
  have x30 : (b + 3 = a) = False := eq_false (by omega)
  have x31 : (b + 3 = a + 1) = False := eq_false (by omega)
  have x32 : (b + 3 = a + 2) = False := eq_false (by omega)
  have x33 : (b + 3 = a + 3) = False := eq_false (by omega)
  have x34 : (b + 3 = a + 4) = False := eq_false (by omega)
  have x35 : (b + 3 = a + 5) = False := eq_false (by omega)
  have x40 : (b + 4 = a) = False := eq_false (by omega)
  have x41 : (b + 4 = a + 1) = False := eq_false (by omega)
  have x42 : (b + 4 = a + 2) = False := eq_false (by omega)
  have x43 : (b + 4 = a + 3) = False := eq_false (by omega)
  have x44 : (b + 4 = a + 4) = False := eq_false (by omega)
  have x45 : (b + 4 = a + 5) = False := eq_false (by omega)
  have x50 : (b + 5 = a) = False := eq_false (by omega)
  have x51 : (b + 5 = a + 1) = False := eq_false (by omega)
  have x52 : (b + 5 = a + 2) = False := eq_false (by omega)
  have x53 : (b + 5 = a + 3) = False := eq_false (by omega)
  have x54 : (b + 5 = a + 4) = False := eq_false (by omega)
  have x55 : (b + 5 = a + 5) = False := eq_false (by omega)
  have y01 : (a = a + 1) = False := eq_false (by omega)
  have y02 : (a = a + 2) = False := eq_false (by omega)
  have y03 : (a = a + 3) = False := eq_false (by omega)
  have y04 : (a = a + 4) = False := eq_false (by omega)
  have y05 : (a = a + 5) = False := eq_false (by omega)
  have y10 : (a + 1 = a) = False := eq_false (by omega)
  have y12 : (a + 1 = a + 2) = False := eq_false (by omega)
  have y13 : (a + 1 = a + 3) = False := eq_false (by omega)
  have y14 : (a + 1 = a + 4) = False := eq_false (by omega)
  have y15 : (a + 1 = a + 5) = False := eq_false (by omega)
  have y20 : (a + 2 = a) = False := eq_false (by omega)
  have y21 : (a + 2 = a + 1) = False := eq_false (by omega)
  have y23 : (a + 2 = a + 3) = False := eq_false (by omega)
  have y24 : (a + 2 = a + 4) = False := eq_false (by omega)
  have y25 : (a + 2 = a + 5) = False := eq_false (by omega)
  have y30 : (a + 3 = a) = False := eq_false (by omega)
  have y31 : (a + 3 = a + 1) = False := eq_false (by omega)
  have y32 : (a + 3 = a + 2) = False := eq_false (by omega)
  have y34 : (a + 3 = a + 4) = False := eq_false (by omega)
  have y35 : (a + 3 = a + 5) = False := eq_false (by omega)
  have y40 : (a + 4 = a) = False := eq_false (by omega)
  have y41 : (a + 4 = a + 1) = False := eq_false (by omega)
  have y42 : (a + 4 = a + 2) = False := eq_false (by omega)
  have y43 : (a + 4 = a + 3) = False := eq_false (by omega)
  have y45 : (a + 4 = a + 5) = False := eq_false (by omega)
  have y50 : (a + 5 = a) = False := eq_false (by omega)
  have y51 : (a + 5 = a + 1) = False := eq_false (by omega)
  have y52 : (a + 5 = a + 2) = False := eq_false (by omega)
  have y53 : (a + 5 = a + 3) = False := eq_false (by omega)
  have y54 : (a + 5 = a + 4) = False := eq_false (by omega)
  unfold f_Smithy_copy
  simp (disch := omega) only [zgi, zwi, zwb_ok h0, l0, l5, l6, l30, zcp_n]
  refine rt_s ⟨?_, ?_, ?_, ?_, ?_⟩
  · simp only [zR1, zI1, x00, x01, x02, x03, x04, x05, x10, x11, x12, x13, x14, x15, x20, x21, x22, x23, x24, x25, x30, x31, x32, x33, x34, x35, x40, x41, x42, x43, x44, x45, x50, x51, x52, x53, x54, x55, y01, y02, y03, y04, y05, y10, y12, y13, y14, y15, y20, y21, y23, y24, y25, y30, y31, y32, y34, y35, y40, y41, y42, y43, y45, y50, y51, y52, y53, y54, ↓reduceIte, updE, Nat.reduceEqDiff, and_self]
  · intro k hk
    simp only [zR1, zI1, x00, x01, x02, x03, x04, x05, x10, x11, x12, x13, x14, x15, x20, x21, x22, x23, x24, x25, x30, x31, x32, x33, x34, x35, x40, x41, x42, x43, x44, x45, x50, x51, x52, x53, x54, x55, y01, y02, y03, y04, y05, y10, y12, y13, y14, y15, y20, y21, y23, y24, y25, y30, y31, y32, y34, y35, y40, y41, y42, y43, y45, y50, y51, y52, y53, y54, ↓reduceIte, cpy_at hk, and_self]
  · intro k hk
    simp only [zR1, zI1, x00, x01, x02, x03, x04, x05, x10, x11, x12, x13, x14, x15, x20, x21, x22, x23, x24, x25, x30, x31, x32, x33, x34, x35, x40, x41, x42, x43, x44, x45, x50, x51, x52, x53, x54, x55, y01, y02, y03, y04, y05, y10, y12, y13, y14, y15, y20, y21, y23, y24, y25, y30, y31, y32, y34, y35, y40, y41, y42, y43, y45, y50, y51, y52, y53, y54, ↓reduceIte, cpy_at hk]
  · intro k hk
    simp only [zR1, zI1, x00, x01, x02, x03, x04, x05, x10, x11, x12, x13, x14, x15, x20, x21, x22, x23, x24, x25, x30, x31, x32, x33, x34, x35, x40, x41, x42, x43, x44, x45, x50, x51, x52, x53, x54, x55, y01, y02, y03, y04, y05, y10, y12, y13, y14, y15, y20, y21, y23, y24, y25, y30, y31, y32, y34, y35, y40, y41, y42, y43, y45, y50, y51, y52, y53, y54, ↓reduceIte, cpy_at hk]
  · exact (((((((((frm.rf.I (by omega)).I (by omega)).I (by omega)).I (by omega)).I (by omega)).R (by omega)).R (by omega)).R (by omega)).R (by omega)).R (by omega)
theorem c_copyW {a b : Nat} {s : ZS} (h : a + 14 < b ∨ b + 14 < a) (h0 : s.1 (b + 1) 0 = 0 ∨ s.1 (b + 1) 0 = 1) {M : Nat → Int32} {f x : Int32} {R P Q : Nat} (hr : rWd b s M f x R P Q) : rt (f_World_copy a b s) (fun w => rWd a w M f x R P Q ∧ frm (fun c => a ≤ c ∧ c ≤ a + 14) s w ∧ w.1 a 8 = s.1 a 8) := by
  obtain ⟨g1, g2, g3, g4, g5, g6, g7, g8, g9⟩ := hr
  unfold f_World_copy
  refine rt_cv (c_copySm (by omega) h0) ?_
  rintro s1 ⟨⟨u0, u1, u2, u3, u4⟩, u5, u6, u7, f1⟩
  refine rt_cv (c_copyS (by omega)) ?_
  rintro s2 ⟨v1, f2⟩
  have F2 : ∀ c, ¬ (a + 1 ≤ c ∧ c ≤ a + 11) → s2.1 c = s.1 c := fun c hc => by rw [f2.1 c (by omega), f1.1 c (by omega)]
  simp (disch := omega) only [zgi, zwi, l0, l10, zcp_n]
  have z0 : ∀ i j, i ≤ 14 → j ≤ 14 → (b + i = a + j) = False := fun i j _ _ => eq_false (by omega)
  have zb : ∀ j, j ≤ 14 → (b = a + j) = False := fun j _ => eq_false (by omega)
  have zd : (b = a) = False := eq_false (by omega)
  have y1 : ∀ i, 0 < i → (a = a + i) = False := fun i _ => eq_false (by omega)
  have y2 : ∀ i, 0 < i → (a + i = a) = False := fun i _ => eq_false (by omega)
  have y3 : ∀ i j, i ≠ j → (a + i = a + j) = False := fun i j _ => eq_false (by omega)
  generalize ht : zsI _ a 7 _ = t
  have T1 : ∀ d, ¬ (d = a ∨ a + 12 ≤ d ∧ d ≤ a + 14) → t.1 d = s2.1 d := fun d hd => by
    rw [← ht, zI1, if_neg (by omega), zI1, if_neg (by omega), zI1, if_neg (by omega), zR1, if_neg (by omega), zR1, if_neg (by omega), zR1, if_neg (by omega)]
  have T5 : t.1 a 5 = s.1 b 5 := by
    rw [← ht]; simp (disch := omega) only [zR1, zI1, zd, zb, updE, ↓reduceIte, Nat.reduceEqDiff, F2]
  have T6 : t.1 a 6 = s.1 b 6 := by
    rw [← ht]; simp (disch := omega) only [zR1, zI1, zd, zb, updE, ↓reduceIte, Nat.reduceEqDiff, F2]
  have T7 : t.1 a 7 = s.1 b 7 := by
    rw [← ht]; simp (disch := omega) only [zR1, zI1, zd, zb, updE, ↓reduceIte, Nat.reduceEqDiff, F2]
  have T8 : t.1 a 8 = s.1 a 8 := by
    rw [← ht]; simp (disch := omega) only [zR1, zI1, y1, updE, ↓reduceIte, Nat.reduceEqDiff, F2]
  have T12 : ∀ i, i < 10 → t.1 (a + 12) i = s.1 (b + 12) i := fun i hi => by
    rw [← ht]; simp (disch := omega) only [zR1, zI1, y2, y3, z0, ↓reduceIte, cpy_at hi, F2]
  have T13 : ∀ i, i < 10 → t.1 (a + 13) i = s.1 (b + 13) i := fun i hi => by
    rw [← ht]; simp (disch := omega) only [zR1, zI1, y2, y3, z0, ↓reduceIte, cpy_at hi, F2]
  have T14 : ∀ i, i < 10 → t.1 (a + 14) i = s.1 (b + 14) i := fun i hi => by
    rw [← ht]; simp (disch := omega) only [zR1, zI1, y2, y3, z0, ↓reduceIte, cpy_at hi, F2]
  have TF : frm (fun c => a ≤ c ∧ c ≤ a + 14) s t := by
    rw [← ht]; exact ((((((((f1.sub (fun c hc => by omega)).tr (f2.sub (fun c hc => by omega))).R (by omega)).R (by omega)).R (by omega)).I (by omega)).I (by omega)).I (by omega))
  clear ht
  refine rt_s ⟨⟨g1, ?_, ?_, g4, ?_, T6.trans g6, g7, T7.trans g8, g9⟩, TF, T8⟩
  · have e : ∀ c, a + 1 ≤ c → c ≤ a + 6 → t.1 c = s1.1 c := fun c hc hc2 => by rw [T1 c (by omega), f2.1 c (by omega)]
    unfold rSm at g2 ⊢
    obtain ⟨q1, q2, q3, q4, q5, q6, q7, q8, q9, q10⟩ := g2
    rw [e (a + 1) (by omega) (by omega), e (a + 1 + 1) (by omega) (by omega), e (a + 1 + 2) (by omega) (by omega), e (a + 1 + 3) (by omega) (by omega), e (a + 1 + 4) (by omega) (by omega), e (a + 1 + 5) (by omega) (by omega)]
    have hP := g1.1
    have hQ := g1.2.1
    refine ⟨u0.trans q1, u1.trans q2, u2.trans q3, u3.trans q4, u4.trans q5, fun p hp => ?_, fun p hp => ?_, fun p hp => ?_, fun q hq => ?_, fun k hk => ?_⟩
    · rw [(u5 p (by omega)).1]; exact q6 p hp
    · rw [(u5 p (by omega)).2.1]; exact q7 p hp
    · rw [(u5 p (by omega)).2.2]; exact q8 p hp
    · rw [u6 q (by omega)]; exact q9 q hq
    · rw [u7 k hk]; exact q10 k hk
  · rw [gS_f (s := s2) (fun c hc hc2 => T1 c (by omega)), v1, gS_f (s := s) (fun c hc hc2 => f1.1 c (by omega))]
    exact g3
  · obtain ⟨m, k1, k2, k3, k4⟩ := g5
    refine ⟨m, k1, T5.trans k2, k3, fun i hi => ?_⟩
    rw [T12 i (by omega), T13 i (by omega), T14 i (by omega)]
    exact k4 i hi
theorem mod20 : ∀ n, n < 41 → nI n - nI n / 20 * 20 = nI (n % 20) := by decide
theorem gM_ext {M M' : Nat → Int32} (h : ∀ k, 10 ≤ k → k < 57 → M k = M' k) : gM M = gM M' := by
  unfold gM
  rw [h 10 (by omega) (by omega), h 11 (by omega) (by omega), tr_ext (fun k hk => h (12 + 3 * k) (by omega) (by omega)), tr_ext (fun k hk => h (13 + 3 * k) (by omega) (by omega)), tr_ext (fun k hk => h (14 + 3 * k) (by omega) (by omega)), tr_ext (fun k hk => h (27 + k) (by omega) (by omega))]
/-- one act more; twenty are kept -/
def push (u : Nat) (h : Nat → ZT) (z : ZT) (i : Nat) : ZT := if u < 20 then (if i < u then h i else z) else (if i < 19 then h (i + 1) else z)
theorem c_keep {s : ZS} {u f0 : Nat} (hu : u ≤ 20) (hf : f0 < 20) (e1 : s.1 100 1 = nI f0) (e2 : s.1 100 2 = nI u) : rt (f_Hist_keep 10 s) (fun w => frm (fun c => 100 ≤ c ∧ c ≤ 201) s w ∧ ∃ f1, f1 < 20 ∧ w.1 100 1 = nI f1 ∧ w.1 100 2 = nI (if u < 20 then u + 1 else 20) ∧ ∀ i, i < (if u < 20 then u + 1 else 20) → gS (102 + 5 * ((f1 + i) % 20)) w = push u (fun i => gS (102 + 5 * ((f0 + i) % 20)) s) (gS 10 s) i) := by
  have hm := Nat.mod_lt (f0 + u) (show 0 < 20 by omega)
  unfold f_Hist_keep
  simp (disch := omega) only [zgi, e1, e2, nI_add, mod20, zix_n]
  refine rt_cv (c_copyS (by omega)) ?_
  rintro s1 ⟨g1, F1⟩
  have a1 : s1.1 100 1 = nI f0 := by rw [F1.1 100 (by omega)]; exact e1
  have a2 : s1.1 100 2 = nI u := by rw [F1.1 100 (by omega)]; exact e2
  have oth : ∀ j, j < 20 → j ≠ (f0 + u) % 20 → gS (102 + 5 * j) s1 = gS (102 + 5 * j) s := fun j hj hne => gS_f (fun c hc hc2 => F1.1 c (by omega))
  by_cases hu2 : u < 20
  · have hn : ¬ 20 ≤ u := by omega
    simp (disch := omega) only [zgi, zgl, zwi, zwf, zjn, zj0, zcl_s, zcv_s, zrd_n, zrl_n, zix_n, zwa_n, zwl_n, zI1, zI2, zL1, zL2, zR1, zR2, updE, updLE, zbl_0, zbl_1, nI_1, nI_add, nI_mulR, nI_leI, nI_ltI, nI_0le, nI_lt0, bvE, ↓reduceIte, Nat.reduceEqDiff, Nat.reduceLT, Nat.reduceAdd, Nat.reduceMul, reduceCtorEq, i10, i01, eq_self, or_true, true_or, false_or, or_false, not_true_eq_false, not_false_eq_true, if_true, if_false, a2, l20, hn, hu2]
    refine rt_s ⟨(F1.sub (fun c hc => by omega)).I (by omega), f0, hf, ?_, ?_, fun i hi => ?_⟩
    · rw [zI1, if_pos rfl, updE, if_neg (by omega)]; exact a1
    · rw [zI1, if_pos rfl, updE, if_pos rfl]
    · have hmi := Nat.mod_lt (f0 + i) (show 0 < 20 by omega)
      rw [gS_f (s := s1) (fun c hc hc2 => by rw [zI1, if_neg (by omega)])]
      unfold push
      rw [if_pos hu2]
      by_cases hi2 : i < u
      · rw [if_pos hi2, oth _ hmi (by omega)]
      · rw [if_neg hi2, show i = u by omega, g1]
  · have hn : 20 ≤ u := by omega
    have e20 : u = 20 := by omega
    subst e20
    simp (disch := omega) only [zgi, zgl, zwi, zwf, zjn, zj0, zcl_s, zcv_s, zrd_n, zrl_n, zix_n, zwa_n, zwl_n, zI1, zI2, zL1, zL2, zR1, zR2, updE, updLE, zbl_0, zbl_1, nI_1, nI_add, nI_mulR, nI_leI, nI_ltI, nI_0le, nI_lt0, bvE, ↓reduceIte, Nat.reduceEqDiff, Nat.reduceLT, Nat.reduceAdd, Nat.reduceMul, reduceCtorEq, i10, i01, eq_self, or_true, true_or, false_or, or_false, not_true_eq_false, not_false_eq_true, if_true, if_false, a1, a2, l20, hn, hu2]
    rw [← l20]
    simp (disch := omega) only [mod20]
    refine rt_s ⟨(F1.sub (fun c hc => by omega)).I (by omega), (f0 + 1) % 20, Nat.mod_lt _ (by omega), ?_, ?_, fun i hi => ?_⟩
    · rw [zI1, if_pos rfl, updE, if_pos rfl]
    · rw [zI1, if_pos rfl, updE, if_neg (by omega)]; exact a2
    · have hmi := Nat.mod_lt ((f0 + 1) % 20 + i) (show 0 < 20 by omega)
      rw [gS_f (s := s1) (fun c hc hc2 => by rw [zI1, if_neg (by omega)])]
      unfold push
      rw [if_neg hu2]
      by_cases hi2 : i < 19
      · rw [if_pos hi2, oth _ hmi (by omega)]
        congr 3; omega
      · rw [if_neg hi2, show ((f0 + 1) % 20 + i) % 20 = (f0 + 20) % 20 by omega, g1]
theorem zsR_I {s : ZS} {a j : Nat} {r : Nat → Int32} {v : Int32} : zsI (zsR s a r) a j v = zsR s a (upd r j v) := by
  unfold zsI zsR
  dsimp only
  rw [va_up_self]
  refine Prod.ext ?_ rfl
  funext c
  dsimp only
  by_cases h : c = a
  · subst h; rw [va_up_self, va_up_self]
  · rw [va_up_ne _ _ h, va_up_ne _ _ h, va_up_ne _ _ h]
theorem zsR_id {s : ZS} {a : Nat} : zsR s a (s.1 a) = s := by
  unfold zsR
  refine Prod.ext ?_ rfl
  funext c
  dsimp only
  by_cases h : c = a
  · subst h; rw [va_up_self]
  · rw [va_up_ne _ _ h]
theorem m_keepsAct {s : ZS} {u : Nat} (hu : u ≤ 20) (e2 : s.1 216 27 = nI u) : rt (f_Model_keepsAct s) (fun w => (∀ c, c ≠ 216 → c ≠ 228 → w.1 c = s.1 c) ∧ (∀ j, j ≠ 27 → w.1 216 j = s.1 216 j) ∧ w.1 216 27 = nI (if u < 20 then u + 1 else 20) ∧ ∀ i, i < (if u < 20 then u + 1 else 20) → gM (fun k => w.1 228 (47 * i + k - 10)) = push u (fun i => gM (fun k => s.1 228 (47 * i + k - 10))) (gM (s.1 226)) i) := by
  unfold f_Model_keepsAct
  -- the second loop, from any state that has room
  have key : ∀ (s1 : ZS) (v : Nat), v < 20 → s1.1 216 27 = nI v → (∀ c, c ≠ 216 → c ≠ 228 → s1.1 c = s.1 c) → (∀ j, j ≠ 27 → s1.1 216 j = s.1 216 j) → (if u < 20 then u + 1 else 20) = v + 1 → (∀ i, i < v → gM (fun k => s1.1 228 (47 * i + k - 10)) = push u (fun i => gM (fun k => s.1 228 (47 * i + k - 10))) (gM (s.1 226)) i) → push u (fun i => gM (fun k => s.1 228 (47 * i + k - 10))) (gM (s.1 226)) v = gM (s.1 226) →
      rt (zlp zN (f_Model_keepsAct_B52 (fun (s4 : ZS) => zgi (s4.1 216 27) (fun (v6 : Int32) => zwi s4 216 27 ((v6 + (1 : Int32))) (fun (s7 : ZS) => some s7)))) (0 : Int32) s1) (fun w => (∀ c, c ≠ 216 → c ≠ 228 → w.1 c = s.1 c) ∧ (∀ j, j ≠ 27 → w.1 216 j = s.1 216 j) ∧ w.1 216 27 = nI (if u < 20 then u + 1 else 20) ∧ ∀ i, i < (if u < 20 then u + 1 else 20) → gM (fun k => w.1 228 (47 * i + k - 10)) = push u (fun i => gM (fun k => s.1 228 (47 * i + k - 10))) (gM (s.1 226)) i) := by
    intro s1 v hv b1 b2 b3 b4 b5 b6
    refine lp_rt 47 (fun i a s2 => a = nI i ∧ s2 = zsR s1 228 (fun k => if 47 * v ≤ k ∧ k < 47 * v + i then s1.1 226 (10 + (k - 47 * v)) else s1.1 228 k)) (by omega) ⟨rfl, ?_⟩ ?_ ?_
    · have : (fun k => if 47 * v ≤ k ∧ k < 47 * v + 0 then s1.1 226 (10 + (k - 47 * v)) else s1.1 228 k) = s1.1 228 := by
        funext k; rw [if_neg (by omega)]
      rw [this, zsR_id]
    · rintro i c s2 g hi ⟨rfl, rfl⟩
      left
      have hn : ¬ 47 ≤ i := by omega
      unfold f_Model_keepsAct_B52
      have r1 : ∀ r, (zsR s1 228 r).1 216 = s1.1 216 := fun r => rfl
      have r2 : ∀ r, (zsR s1 228 r).1 226 = s1.1 226 := fun r => rfl
      simp (disch := omega) only [zgi, r1, r2, b1, l47, l10, nI_leI, hn, ↓reduceIte, nI_mulR, nI_add, zrd_n, zwa_n, nI_1, zsR_I]
      refine ⟨_, _, rfl, rfl, ?_⟩
      congr 1
      funext k
      rw [updE]
      by_cases hk : k = 47 * v + i
      · rw [if_pos hk, if_pos (by omega)]; exact congrArg (s1.1 226) (by omega)
      · rw [if_neg hk]
        by_cases hk2 : 47 * v ≤ k ∧ k < 47 * v + i
        · rw [if_pos hk2, if_pos (by omega)]
        · rw [if_neg hk2, if_neg (by omega)]
    · rintro c s2 g ⟨rfl, rfl⟩
      unfold f_Model_keepsAct_B52
      have r1 : ∀ r, (zsR s1 228 r).1 216 = s1.1 216 := fun r => rfl
      simp (disch := omega) only [zgi, zwi, r1, b1, l47, nI_leI, Nat.le_refl, ↓reduceIte, nI_1]
      refine rt_s ⟨fun c h1 h2 => ?_, fun j hj => ?_, ?_, fun i hi => ?_⟩
      · rw [zI1, if_neg h1, zR1, if_neg h2]; exact b2 c h1 h2
      · rw [zI1, if_pos rfl, updE, if_neg hj]; exact b3 j hj
      · rw [zI1, if_pos rfl, updE, if_pos rfl, b4]
      · rw [b4] at hi
        have e : (zsI (zsR s1 228 (fun k => if 47 * v ≤ k ∧ k < 47 * v + 47 then s1.1 226 (10 + (k - 47 * v)) else s1.1 228 k)) 216 27 (nI (v + 1))).1 228 = (fun k => if 47 * v ≤ k ∧ k < 47 * v + 47 then s1.1 226 (10 + (k - 47 * v)) else s1.1 228 k) := rfl
        rw [e]
        by_cases hv2 : i < v
        · rw [← b5 i hv2]
          refine gM_ext (fun k hk hk2 => ?_)
          dsimp only
          rw [if_neg (by omega)]
        · have : i = v := by omega
          subst this
          rw [b6, b2 226 (by omega) (by omega)]
          refine gM_ext (fun k hk hk2 => ?_)
          dsimp only
          rw [if_pos (by omega)]
          exact congrArg (s.1 226) (by omega)
  by_cases hu2 : u < 20
  · have hne : (nI u = nI 20) = False := eq_false (fun e => by rw [nI_eq (by omega) (by omega)] at e; omega)
    simp (disch := omega) only [zgi, zj0, e2, l20, hne, not_false_eq_true, ↓reduceIte]
    refine key s u hu2 e2 (fun _ _ _ => rfl) (fun _ _ => rfl) (by rw [if_pos hu2]) (fun i hi => ?_) ?_
    · unfold push; rw [if_pos hu2, if_pos hi]
    · unfold push; rw [if_pos hu2, if_neg (by omega)]
  · have e20 : u = 20 := by omega
    subst e20
    simp (disch := omega) only [zgi, zj0, e2, l20, not_true_eq_false, ↓reduceIte]
    refine lp_rt 893 (fun i a s2 => a = nI (47 + i) ∧ s2 = zsR s 228 (fun k => if k < i then s.1 228 (k + 47) else s.1 228 k)) (by omega) ⟨rfl, ?_⟩ ?_ ?_
    · have : (fun k => if k < 0 then s.1 228 (k + 47) else s.1 228 k) = s.1 228 := by
        funext k; rw [if_neg (by omega)]
      rw [this, zsR_id]
    · rintro i c s2 g hi ⟨rfl, rfl⟩
      left
      have hn : ¬ 940 ≤ 47 + i := by omega
      unfold f_Model_keepsAct_B12
      have r1 : ∀ r, (zsR s 228 r).1 228 = r := fun r => rfl
      simp (disch := omega) only [l47, l940, nI_leI, hn, ↓reduceIte, zrd_n, r1, nI_sub, zwa_n, nI_1, zsR_I]
      refine ⟨_, _, rfl, by rw [Nat.add_assoc], ?_⟩
      congr 1
      funext k
      rw [updE, if_neg (show ¬ 47 + i < i by omega)]
      by_cases hk : k = 47 + i - 47
      · rw [if_pos hk, if_pos (by omega)]; exact congrArg (s.1 228) (by omega)
      · rw [if_neg hk]
        by_cases hk2 : k < i
        · rw [if_pos hk2, if_pos (by omega)]
        · rw [if_neg hk2, if_neg (by omega)]
    · rintro c s2 g ⟨rfl, rfl⟩
      unfold f_Model_keepsAct_B12
      have r1 : ∀ r, (zsR s 228 r).1 216 = s.1 216 := fun r => rfl
      have h19 : nI 20 - 1 = nI 19 := by decide
      simp (disch := omega) only [zgi, zwi, r1, e2, l940, nI_leI, show 940 ≤ 47 + 893 by omega, ↓reduceIte, h19]
      refine key _ 19 (by omega) (by rw [zI1, if_pos rfl, updE, if_pos rfl]) (fun c h1 h2 => by rw [zI1, if_neg h1, zR1, if_neg h2]) (fun j hj => by rw [zI1, if_pos rfl, updE, if_neg hj]; rfl) (by rw [if_neg (by omega)]) (fun i hi => ?_) ?_
      · have e : (zsI (zsR s 228 (fun k => if k < 893 then s.1 228 (k + 47) else s.1 228 k)) 216 27 (nI 19)).1 228 = (fun k => if k < 893 then s.1 228 (k + 47) else s.1 228 k) := rfl
        rw [e]
        unfold push
        rw [if_neg (by omega), if_pos (by omega)]
        refine gM_ext (fun k hk hk2 => ?_)
        dsimp only
        rw [if_pos (by omega)]
        exact congrArg (s.1 228) (by omega)
      · unfold push; rw [if_neg (by omega), if_neg (by omega)]
