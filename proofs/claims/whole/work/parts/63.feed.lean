/-! feed, note, count. -/
theorem zlpS {A R : Type} {n : Nat} {B : A → ZS → (A → ZS → Option R) → Option R} {a : A} {s : ZS} : zlp (n + 1) B a s = B a s (zlp n B) := rfl
theorem zN5 : ∃ m, zN = m + 5 := ⟨zN - 5, by have := zN_big; omega⟩
def ap (f : Nat → Int32) (n : Nat) (p : Int32) : Nat → Int32 := upd (upd (upd (upd f n (vp_nar .byte ((p >>> (((24 : Int32)) &&& 31)).toInt8.toInt32))) (n + 1) (vp_nar .byte ((p >>> (((16 : Int32)) &&& 31)).toInt8.toInt32))) (n + 2) (vp_nar .byte ((p >>> (((8 : Int32)) &&& 31)).toInt8.toInt32))) (n + 3) (vp_nar .byte ((p >>> (((0 : Int32)) &&& 31)).toInt8.toInt32))
theorem a24 : ((24 : Int32) < 0) = False := eq_false (by decide)
theorem a16 : ((24 : Int32) + (-8)) = 16 := by decide
theorem a8 : ((16 : Int32) + (-8)) = 8 := by decide
theorem a0 : ((8 : Int32) + (-8)) = 0 := by decide
theorem am : ((0 : Int32) + (-8)) = -8 := by decide
theorem a16' : ((16 : Int32) < 0) = False := eq_false (by decide)
theorem a8' : ((8 : Int32) < 0) = False := eq_false (by decide)
theorem a0' : ((0 : Int32) < 0) = False := eq_false (by decide)
theorem am' : ((-8 : Int32) < 0) = True := eq_true (by decide)
theorem ap_C {s : ZS} {n : Nat} {p x : Int32} {g : Int32 → ZS → Option ZS} (hx : ¬ x < 0) (h : s.1 1 1 = nI n) (hn : n < 400) : f_Tape_append_B3 p x s g = g (x + (-8)) (zsI (zsI s 2 n (vp_nar .byte ((p >>> (x &&& 31)).toInt8.toInt32))) 1 1 (nI (n + 1))) := by
  have n0 : ¬ 400 ≤ n := by omega
  unfold f_Tape_append_B3
  simp (disch := omega) only [zgi, zgl, zwi, zwf, zjn, zj0, zcl_s, zcv_s, zrd_n, zrl_n, zix_n, zwa_n, zwl_n, zI1, zI2, zL1, zL2, zR1, zR2, updE, updLE, zbl_0, zbl_1, nI_1, nI_add, nI_mulR, nI_leI, nI_ltI, nI_0le, nI_lt0, bvE, ↓reduceIte, Nat.reduceEqDiff, Nat.reduceLT, Nat.reduceAdd, Nat.reduceMul, reduceCtorEq, i10, i01, eq_self, or_true, true_or, false_or, or_false, not_true_eq_false, not_false_eq_true, if_true, if_false, hx, h, l400, n0]
theorem ap_M {s : ZS} {n : Nat} {p x : Int32} {g : Int32 → ZS → Option ZS} (hx : ¬ x < 0) (h : s.1 216 1 = nI n) (hn : n < 400) : f_Model_four_B3 p x s g = g (x + (-8)) (zsI (zsI s 217 n (vp_nar .byte ((p >>> (x &&& 31)).toInt8.toInt32))) 216 1 (nI (n + 1))) := by
  unfold f_Model_four_B3
  simp (disch := omega) only [zgi, zgl, zwi, zwf, zjn, zj0, zcl_s, zcv_s, zrd_n, zrl_n, zix_n, zwa_n, zwl_n, zI1, zI2, zL1, zL2, zR1, zR2, updE, updLE, zbl_0, zbl_1, nI_1, nI_add, nI_mulR, nI_leI, nI_ltI, nI_0le, nI_lt0, bvE, ↓reduceIte, Nat.reduceEqDiff, Nat.reduceLT, Nat.reduceAdd, Nat.reduceMul, reduceCtorEq, i10, i01, eq_self, or_true, true_or, false_or, or_false, not_true_eq_false, not_false_eq_true, if_true, if_false, hx, h]
theorem rd11 {s : ZS} {a k : Nat} {v w : Int32} : (zsI (zsI s a k v) 1 1 w).1 1 1 = w := by rw [zI1, if_pos rfl, updE, if_pos rfl]
theorem rd21 {s : ZS} {a k : Nat} {v w : Int32} : (zsI (zsI s a k v) 216 1 w).1 216 1 = w := by rw [zI1, if_pos rfl, updE, if_pos rfl]
theorem n24 : ¬ (24 : Int32) < 0 := by decide
theorem n16 : ¬ (16 : Int32) < 0 := by decide
theorem n8' : ¬ (8 : Int32) < 0 := by decide
theorem n0' : ¬ (0 : Int32) < 0 := by decide
theorem nm8 : (-8 : Int32) < 0 := by decide
theorem c_append {s : ZS} {n : Nat} {p : Int32} (h : s.1 1 1 = nI n) (hn : n + 4 ≤ 400) : rt (f_Tape_append p s) (fun w => w.1 1 1 = nI (n + 4) ∧ w.1 2 = ap (s.1 2) n p ∧ frm (fun b => b = 1 ∨ b = 2) s w) := by
  obtain ⟨m, hm⟩ := zN5
  unfold f_Tape_append
  rw [hm, show m + 5 = (m + 4) + 1 from rfl, zlpS, ap_C n24 h (by omega), a16, show m + 4 = (m + 3) + 1 from rfl, zlpS, ap_C n16 rd11 (by omega), a8, show m + 3 = (m + 2) + 1 from rfl, zlpS, ap_C n8' rd11 (by omega), a0, show m + 2 = (m + 1) + 1 from rfl, zlpS, ap_C n0' rd11 (by omega), am, zlpS]
  unfold f_Tape_append_B3
  rw [if_pos nm8]
  refine rt_s ⟨rd11, ?_, ?_⟩
  · simp only [zI1, ↓reduceIte, Nat.reduceEqDiff]; rfl
  · exact (((((((frm.rf.I (by omega)).I (by omega)).I (by omega)).I (by omega)).I (by omega)).I (by omega)).I (by omega)).I (by omega)
theorem m_four {s : ZS} {n : Nat} {p : Int32} (h : s.1 216 1 = nI n) (hn : n + 4 ≤ 400) : rt (f_Model_four p s) (fun w => w.1 216 1 = nI (n + 4) ∧ w.1 217 = ap (s.1 217) n p ∧ frm (fun b => b = 216 ∨ b = 217) s w ∧ ∀ j, j ≠ 1 → w.1 216 j = s.1 216 j) := by
  obtain ⟨m, hm⟩ := zN5
  unfold f_Model_four
  rw [hm, show m + 5 = (m + 4) + 1 from rfl, zlpS, ap_M n24 h (by omega), a16, show m + 4 = (m + 3) + 1 from rfl, zlpS, ap_M n16 rd21 (by omega), a8, show m + 3 = (m + 2) + 1 from rfl, zlpS, ap_M n8' rd21 (by omega), a0, show m + 2 = (m + 1) + 1 from rfl, zlpS, ap_M n0' rd21 (by omega), am, zlpS]
  unfold f_Model_four_B3
  rw [if_pos nm8]
  refine rt_s ⟨rd21, ?_, ?_, ?_⟩
  · simp only [zI1, ↓reduceIte, Nat.reduceEqDiff]; rfl
  · exact (((((((frm.rf.I (by omega)).I (by omega)).I (by omega)).I (by omega)).I (by omega)).I (by omega)).I (by omega)).I (by omega)
  · intro j hj
    simp only [zI1, updE, ↓reduceIte, Nat.reduceEqDiff, hj]
theorem nar8 (x : Int32) : (vp_nar .byte x).toInt8.toInt32 = vp_nar .byte x := by
  show (x.toInt8.toInt32).toInt8.toInt32 = x.toInt8.toInt32
  rw [Int8.toInt8_toInt32]
theorem ap8 {f : Nat → Int32} {n : Nat} {p : Int32} (h : ∀ k, (f k).toInt8.toInt32 = f k) : ∀ k, (ap f n p k).toInt8.toInt32 = ap f n p k := by
  intro k
  unfold ap upd
  split
  · exact nar8 _
  · split
    · exact nar8 _
    · split
      · exact nar8 _
      · split
        · exact nar8 _
        · exact h k
theorem st_feed (a b c d e : Int32) : stp (f_Ring_feed a b c d e) (f_Model_feed a b c d e) := by
  intro s hR
  obtain ⟨R, P, Q, ⟨n, t1, t2, t3, t4, t5⟩, h2, h3, h4, h5, h6, h7⟩ := id hR
  unfold f_Ring_feed f_Model_feed
  by_cases hn : n + 20 ≤ 400
  · simp (disch := omega) only [zgi, zgl, zwi, zwf, zjn, zj0, zcl_s, zcv_s, zrd_n, zrl_n, zix_n, zwa_n, zwl_n, zI1, zI2, zL1, zL2, zR1, zR2, updE, updLE, zbl_0, zbl_1, nI_1, nI_add, nI_mulR, nI_leI, nI_ltI, nI_0le, nI_lt0, bvE, ↓reduceIte, Nat.reduceEqDiff, Nat.reduceLT, Nat.reduceAdd, Nat.reduceMul, reduceCtorEq, i10, i01, eq_self, or_true, true_or, false_or, or_false, not_true_eq_false, not_false_eq_true, if_true, if_false, t2, l20, l400, hn]
    refine rt_cv (c_append t2 (by omega)) ?_
    rintro s1 ⟨u1, v1, f1⟩
    refine rt_cv (c_append u1 (by omega)) ?_
    rintro s2 ⟨u2, v2, f2⟩
    refine rt_cv (c_append u2 (by omega)) ?_
    rintro s3 ⟨u3, v3, f3⟩
    refine rt_cv (c_append u3 (by omega)) ?_
    rintro s4 ⟨u4, v4, f4⟩
    refine rt_cv (c_append u4 (by omega)) ?_
    rintro s5 ⟨u5, v5, f5⟩
    have F := f1.tr (f2.tr (f3.tr (f4.tr f5)))
    simp only [u5]
    refine rt_s ?_
    dsimp only
    have w0 : s5.1 216 1 = nI n := by rw [F.1 216 (by omega)]; exact t3
    simp (disch := omega) only [zgi, zgl, zwi, zwf, zjn, zj0, zcl_s, zcv_s, zrd_n, zrl_n, zix_n, zwa_n, zwl_n, zI1, zI2, zL1, zL2, zR1, zR2, updE, updLE, zbl_0, zbl_1, nI_1, nI_add, nI_mulR, nI_leI, nI_ltI, nI_0le, nI_lt0, bvE, ↓reduceIte, Nat.reduceEqDiff, Nat.reduceLT, Nat.reduceAdd, Nat.reduceMul, reduceCtorEq, i10, i01, eq_self, or_true, true_or, false_or, or_false, not_true_eq_false, not_false_eq_true, if_true, if_false, w0, l20, l400, hn]
    refine rt_cv (m_four w0 (by omega)) ?_
    rintro s6 ⟨w1, x1, g1, y1⟩
    refine rt_cv (m_four w1 (by omega)) ?_
    rintro s7 ⟨w2, x2, g2, y2⟩
    refine rt_cv (m_four w2 (by omega)) ?_
    rintro s8 ⟨w3, x3, g3, y3⟩
    refine rt_cv (m_four w3 (by omega)) ?_
    rintro s9 ⟨w4, x4, g4, y4⟩
    refine rt_cv (m_four w4 (by omega)) ?_
    rintro s10 ⟨w5, x5, g5, y5⟩
    have G := g1.tr (g2.tr (g3.tr (g4.tr g5)))
    simp only [w5]
    refine rt_s ⟨rfl, hR.t ?_ (fun b hb => ?_) (fun j hj => ?_)⟩
    · refine ⟨n + 4 + 4 + 4 + 4 + 4, by omega, ?_, w5, ?_, ?_⟩
      · show s10.1 1 1 = _
        rw [G.1 1 (by omega)]; exact u5
      · show s10.1 2 = s10.1 217
        rw [G.1 2 (by omega), v5, v4, v3, v2, v1, x5, x4, x3, x2, x1, F.1 217 (by omega), t4]
      · show ∀ k, (s10.1 217 k).toInt8.toInt32 = s10.1 217 k
        rw [x5, x4, x3, x2, x1, F.1 217 (by omega)]
        exact ap8 (ap8 (ap8 (ap8 (ap8 t5))))
    · show s10.1 b = s.1 b
      rw [G.1 b (by omega), F.1 b (by omega)]
    · show s10.1 216 j = s.1 216 j
      rw [y5 j (by omega), y4 j (by omega), y3 j (by omega), y2 j (by omega), y1 j (by omega), F.1 216 (by omega)]
  · simp (disch := omega) only [zgi, zgl, zwi, zwf, zjn, zj0, zcl_s, zcv_s, zrd_n, zrl_n, zix_n, zwa_n, zwl_n, zI1, zI2, zL1, zL2, zR1, zR2, updE, updLE, zbl_0, zbl_1, nI_1, nI_add, nI_mulR, nI_leI, nI_ltI, nI_0le, nI_lt0, bvE, ↓reduceIte, Nat.reduceEqDiff, Nat.reduceLT, Nat.reduceAdd, Nat.reduceMul, reduceCtorEq, i10, i01, eq_self, or_true, true_or, false_or, or_false, not_true_eq_false, not_false_eq_true, if_true, if_false, t2, l20, l400, hn]
    refine rt_s ?_
    simp (disch := omega) only [zgi, zgl, zwi, zwf, zjn, zj0, zcl_s, zcv_s, zrd_n, zrl_n, zix_n, zwa_n, zwl_n, zI1, zI2, zL1, zL2, zR1, zR2, updE, updLE, zbl_0, zbl_1, nI_1, nI_add, nI_mulR, nI_leI, nI_ltI, nI_0le, nI_lt0, bvE, ↓reduceIte, Nat.reduceEqDiff, Nat.reduceLT, Nat.reduceAdd, Nat.reduceMul, reduceCtorEq, i10, i01, eq_self, or_true, true_or, false_or, or_false, not_true_eq_false, not_false_eq_true, if_true, if_false, t3, l20, l400, hn]
    exact rt_s ⟨rfl, hR⟩
/-! count -/
def sSum (W : Nat → Int32) (n : Nat) : Int32 := itr n (fun p r => r + W p) 0
theorem sSum_P {P : Nat} {W : Nat → Int32} (hP : P ≤ 5) (h : zW P W) : sSum W 5 = sSum W P := by
  have : ∀ k, P + k ≤ 5 → sSum W (P + k) = sSum W P := by
    intro k
    induction k with
    | zero => intro _; rfl
    | succ k ih =>
      intro hk
      rw [← ih (by omega)]
      show sSum W (P + k) + W (P + k) = _
      rw [(h (P + k) (by omega)).2 (by omega), Int32.add_zero]
  have h5 := this (5 - P) (by omega)
  rw [show P + (5 - P) = 5 by omega] at h5
  exact h5
theorem cl_allWide10 {s : ZS} : f_State_allWide 10 s = some (sSum (gS 10 s).2.1 5, s) := by
  unfold f_State_allWide sSum
  have : rt (zlp zN (f_State_allWide_B4 10) ((0 : Int32), (0 : Int32)) s) (fun w => w = (itr 5 (fun p r => r + (gS 10 s).2.1 p) 0, s)) := by
    refine lp_rt 5 (fun i a s1 => s1 = s ∧ a.2 = nI i ∧ a.1 = itr i (fun p r => r + (gS 10 s).2.1 p) 0) (by omega) ⟨rfl, rfl, rfl⟩ ?_ ?_
    · rintro i ⟨r, c⟩ s1 g hi ⟨rfl, h0, h1⟩
      left
      dsimp only at h0 h1
      subst h0
      rw [itrS, ← h1]
      have hn : ¬ 5 ≤ i := by omega
      unfold f_State_allWide_B4
      simp (disch := omega) only [zgi, zgl, zwi, zwf, zjn, zj0, zcl_s, zcv_s, zrd_n, zrl_n, zix_n, zwa_n, zwl_n, zI1, zI2, zL1, zL2, zR1, zR2, updE, updLE, zbl_0, zbl_1, nI_1, nI_add, nI_mulR, nI_leI, nI_ltI, nI_0le, nI_lt0, bvE, ↓reduceIte, Nat.reduceEqDiff, Nat.reduceLT, Nat.reduceAdd, Nat.reduceMul, reduceCtorEq, l5, hn, rW10]
      exact ⟨_, _, rfl, rfl, rfl, rfl⟩
    · rintro ⟨r, c⟩ s1 g ⟨rfl, h0, h1⟩
      dsimp only at h0 h1
      subst h0
      unfold f_State_allWide_B4
      simp (disch := omega) only [zgi, zgl, zwi, zwf, zjn, zj0, zcl_s, zcv_s, zrd_n, zrl_n, zix_n, zwa_n, zwl_n, zI1, zI2, zL1, zL2, zR1, zR2, updE, updLE, zbl_0, zbl_1, nI_1, nI_add, nI_mulR, nI_leI, nI_ltI, nI_0le, nI_lt0, bvE, ↓reduceIte, Nat.reduceEqDiff, Nat.reduceLT, Nat.reduceAdd, Nat.reduceMul, reduceCtorEq, l5, Nat.le_refl]
      exact rt_s (by rw [h1])
  obtain ⟨w, h1, h2⟩ := this
  rw [h1, h2]
theorem cl_allWide207 {s : ZS} : f_State_allWide 207 s = some (sSum (gS 207 s).2.1 5, s) := by
  unfold f_State_allWide sSum
  have : rt (zlp zN (f_State_allWide_B4 207) ((0 : Int32), (0 : Int32)) s) (fun w => w = (itr 5 (fun p r => r + (gS 207 s).2.1 p) 0, s)) := by
    refine lp_rt 5 (fun i a s1 => s1 = s ∧ a.2 = nI i ∧ a.1 = itr i (fun p r => r + (gS 207 s).2.1 p) 0) (by omega) ⟨rfl, rfl, rfl⟩ ?_ ?_
    · rintro i ⟨r, c⟩ s1 g hi ⟨rfl, h0, h1⟩
      left
      dsimp only at h0 h1
      subst h0
      rw [itrS, ← h1]
      have hn : ¬ 5 ≤ i := by omega
      unfold f_State_allWide_B4
      simp (disch := omega) only [zgi, zgl, zwi, zwf, zjn, zj0, zcl_s, zcv_s, zrd_n, zrl_n, zix_n, zwa_n, zwl_n, zI1, zI2, zL1, zL2, zR1, zR2, updE, updLE, zbl_0, zbl_1, nI_1, nI_add, nI_mulR, nI_leI, nI_ltI, nI_0le, nI_lt0, bvE, ↓reduceIte, Nat.reduceEqDiff, Nat.reduceLT, Nat.reduceAdd, Nat.reduceMul, reduceCtorEq, l5, hn, rW207]
      exact ⟨_, _, rfl, rfl, rfl, rfl⟩
    · rintro ⟨r, c⟩ s1 g ⟨rfl, h0, h1⟩
      dsimp only at h0 h1
      subst h0
      unfold f_State_allWide_B4
      simp (disch := omega) only [zgi, zgl, zwi, zwf, zjn, zj0, zcl_s, zcv_s, zrd_n, zrl_n, zix_n, zwa_n, zwl_n, zI1, zI2, zL1, zL2, zR1, zR2, updE, updLE, zbl_0, zbl_1, nI_1, nI_add, nI_mulR, nI_leI, nI_ltI, nI_0le, nI_lt0, bvE, ↓reduceIte, Nat.reduceEqDiff, Nat.reduceLT, Nat.reduceAdd, Nat.reduceMul, reduceCtorEq, l5, Nat.le_refl]
      exact rt_s (by rw [h1])
  obtain ⟨w, h1, h2⟩ := this
  rw [h1, h2]
theorem m_wideAll {P Q : Nat} {C : Nat → Int32} {s : ZS} (hc : cM P Q C s) : f_Model_wideAll s = some (sSum (gM (s.1 226)).2.1 P, s) := by
  unfold f_Model_wideAll sSum
  have hP := hc.1
  have : rt (zlp zN f_Model_wideAll_B4 ((0 : Int32), (0 : Int32)) s) (fun w => w = (itr P (fun p r => r + (gM (s.1 226)).2.1 p) 0, s)) := by
    refine lp_rt P (fun i a s1 => s1 = s ∧ a.2 = nI i ∧ a.1 = itr i (fun p r => r + (gM (s.1 226)).2.1 p) 0) (by omega) ⟨rfl, rfl, rfl⟩ ?_ ?_
    · rintro i ⟨r, c⟩ s1 g hi ⟨rfl, h0, h1⟩
      left
      dsimp only at h0 h1
      subst h0
      rw [itrS, ← h1]
      have hn : ¬ P ≤ i := by omega
      unfold f_Model_wideAll_B4
      simp (disch := omega) only [zgi, zgl, zwi, zwf, zjn, zj0, zcl_s, zcv_s, zrd_n, zrl_n, zix_n, zwa_n, zwl_n, zI1, zI2, zL1, zL2, zR1, zR2, updE, updLE, zbl_0, zbl_1, nI_1, nI_add, nI_mulR, nI_leI, nI_ltI, nI_0le, nI_lt0, bvE, ↓reduceIte, Nat.reduceEqDiff, Nat.reduceLT, Nat.reduceAdd, Nat.reduceMul, reduceCtorEq, hc.2.2.1, hn, mBand]
      exact ⟨_, _, rfl, rfl, rfl, rfl⟩
    · rintro ⟨r, c⟩ s1 g ⟨rfl, h0, h1⟩
      dsimp only at h0 h1
      subst h0
      unfold f_Model_wideAll_B4
      simp (disch := omega) only [zgi, zgl, zwi, zwf, zjn, zj0, zcl_s, zcv_s, zrd_n, zrl_n, zix_n, zwa_n, zwl_n, zI1, zI2, zL1, zL2, zR1, zR2, updE, updLE, zbl_0, zbl_1, nI_1, nI_add, nI_mulR, nI_leI, nI_ltI, nI_0le, nI_lt0, bvE, ↓reduceIte, Nat.reduceEqDiff, Nat.reduceLT, Nat.reduceAdd, Nat.reduceMul, reduceCtorEq, hc.2.2.1, Nat.le_refl]
      exact rt_s (by rw [h1])
  obtain ⟨w, h1, h2⟩ := this
  rw [h1, h2]
theorem st_count (w : Int32) : stp (f_Ring_count w) (f_Model_count w) := by
  intro s hR
  obtain ⟨R, P, Q, ⟨n, t1, t2, t3, t4, t5⟩, h2, h3, h4, h5, h6, h7⟩ := id hR
  have hP := h3.1.1
  have hz : zW P (gS 10 s).2.1 := by rw [h3.g]; exact h3.2.2.2.1.1.zW
  have fin : ∀ v : Int32, f_Ring_count w s = some (v, s) → f_Model_count w s = some (v, s) → rt (f_Ring_count w s) (fun w_1 => rt (f_Model_count w w_1.2) (fun w2 => w2.1 = w_1.1 ∧ Rel w2.2)) := by
    intro v e1 e2
    rw [e1]
    refine rt_s ?_
    dsimp only
    rw [e2]
    exact rt_s ⟨rfl, hR⟩
  rcases pN w 14 (by omega) with ⟨k, hk, rfl⟩ | hn
  · have hcs : k = 0 ∨ k = 1 ∨ k = 2 ∨ k = 3 ∨ k = 4 ∨ k = 5 ∨ k = 6 ∨ k = 7 ∨ k = 8 ∨ k = 9 ∨ k = 10 ∨ k = 11 ∨ k = 12 ∨ k = 13 := by omega
    have sm := h3.2.1
    have e43 : s.1 4 3 = s.1 226 3 := by rw [h3.cC.2.2.1, h3.cM.2.2.1]
    have e44 : s.1 4 4 = s.1 226 4 := by rw [h3.cC.2.2.2.1, h3.cM.2.2.2.1]
    have e41 : s.1 4 1 = s.1 226 1 := sm.2.1
    have e42 : s.1 4 2 = s.1 226 2 := sm.2.2.1
    obtain ⟨u, f0, p1, p2, p3, p4, p5, p6⟩ := h5
    obtain ⟨m, o1, o2, o3, o4⟩ := h3.2.2.2.2.1
    have g := h3.g
    have eD : s.1 10 0 = s.1 226 10 := congrArg (fun z : ZT => z.2.2.2.2.1) g
    have eN : s.1 10 1 = s.1 226 11 := congrArg (fun z : ZT => z.2.2.2.2.2) g
    rcases hcs with rfl | rfl | rfl | rfl | rfl | rfl | rfl | rfl | rfl | rfl | rfl | rfl | rfl | rfl
    · refine fin (s.1 226 1) ?_ ?_
      · unfold f_Ring_count; simp (disch := omega) only [zgi, zgl, zwi, zwf, zjn, zj0, zcl_s, zcv_s, zrd_n, zrl_n, zix_n, zwa_n, zwl_n, zI1, zI2, zL1, zL2, zR1, zR2, updE, updLE, zbl_0, zbl_1, nI_1, nI_add, nI_mulR, nI_leI, nI_ltI, nI_0le, nI_lt0, bvE, ↓reduceIte, Nat.reduceEqDiff, Nat.reduceLT, Nat.reduceAdd, Nat.reduceMul, reduceCtorEq, i10, i01, eq_self, or_true, true_or, false_or, or_false, not_true_eq_false, not_false_eq_true, if_true, if_false, l0, l1, l2, l3, l4, l5, l6, l7, l8, l9, l10, l11, l12, l13, l14, l15, l16, l17, l18, l19, l20, l21, l22, l23, l24, l25, l26, l27, l28, l29, l30, l57, l62, l67, l73, l103, l108, l138, nI_inj, e41]
      · unfold f_Model_count; simp (disch := omega) only [zgi, zgl, zwi, zwf, zjn, zj0, zcl_s, zcv_s, zrd_n, zrl_n, zix_n, zwa_n, zwl_n, zI1, zI2, zL1, zL2, zR1, zR2, updE, updLE, zbl_0, zbl_1, nI_1, nI_add, nI_mulR, nI_leI, nI_ltI, nI_0le, nI_lt0, bvE, ↓reduceIte, Nat.reduceEqDiff, Nat.reduceLT, Nat.reduceAdd, Nat.reduceMul, reduceCtorEq, i10, i01, eq_self, or_true, true_or, false_or, or_false, not_true_eq_false, not_false_eq_true, if_true, if_false, l0, l1, l2, l3, l4, l5, l6, l7, l8, l9, l10, l11, l12, l13, l14, l15, l16, l17, l18, l19, l20, l21, l22, l23, l24, l25, l26, l27, l28, l29, l30, l57, l62, l67, l73, l103, l108, l138, nI_inj]
    · refine fin (s.1 226 2) ?_ ?_
      · unfold f_Ring_count; simp (disch := omega) only [zgi, zgl, zwi, zwf, zjn, zj0, zcl_s, zcv_s, zrd_n, zrl_n, zix_n, zwa_n, zwl_n, zI1, zI2, zL1, zL2, zR1, zR2, updE, updLE, zbl_0, zbl_1, nI_1, nI_add, nI_mulR, nI_leI, nI_ltI, nI_0le, nI_lt0, bvE, ↓reduceIte, Nat.reduceEqDiff, Nat.reduceLT, Nat.reduceAdd, Nat.reduceMul, reduceCtorEq, i10, i01, eq_self, or_true, true_or, false_or, or_false, not_true_eq_false, not_false_eq_true, if_true, if_false, l0, l1, l2, l3, l4, l5, l6, l7, l8, l9, l10, l11, l12, l13, l14, l15, l16, l17, l18, l19, l20, l21, l22, l23, l24, l25, l26, l27, l28, l29, l30, l57, l62, l67, l73, l103, l108, l138, nI_inj, e42]
      · unfold f_Model_count; simp (disch := omega) only [zgi, zgl, zwi, zwf, zjn, zj0, zcl_s, zcv_s, zrd_n, zrl_n, zix_n, zwa_n, zwl_n, zI1, zI2, zL1, zL2, zR1, zR2, updE, updLE, zbl_0, zbl_1, nI_1, nI_add, nI_mulR, nI_leI, nI_ltI, nI_0le, nI_lt0, bvE, ↓reduceIte, Nat.reduceEqDiff, Nat.reduceLT, Nat.reduceAdd, Nat.reduceMul, reduceCtorEq, i10, i01, eq_self, or_true, true_or, false_or, or_false, not_true_eq_false, not_false_eq_true, if_true, if_false, l0, l1, l2, l3, l4, l5, l6, l7, l8, l9, l10, l11, l12, l13, l14, l15, l16, l17, l18, l19, l20, l21, l22, l23, l24, l25, l26, l27, l28, l29, l30, l57, l62, l67, l73, l103, l108, l138, nI_inj]
    · refine fin (s.1 226 3) ?_ ?_
      · unfold f_Ring_count; simp (disch := omega) only [zgi, zgl, zwi, zwf, zjn, zj0, zcl_s, zcv_s, zrd_n, zrl_n, zix_n, zwa_n, zwl_n, zI1, zI2, zL1, zL2, zR1, zR2, updE, updLE, zbl_0, zbl_1, nI_1, nI_add, nI_mulR, nI_leI, nI_ltI, nI_0le, nI_lt0, bvE, ↓reduceIte, Nat.reduceEqDiff, Nat.reduceLT, Nat.reduceAdd, Nat.reduceMul, reduceCtorEq, i10, i01, eq_self, or_true, true_or, false_or, or_false, not_true_eq_false, not_false_eq_true, if_true, if_false, l0, l1, l2, l3, l4, l5, l6, l7, l8, l9, l10, l11, l12, l13, l14, l15, l16, l17, l18, l19, l20, l21, l22, l23, l24, l25, l26, l27, l28, l29, l30, l57, l62, l67, l73, l103, l108, l138, nI_inj, e43]
      · unfold f_Model_count; simp (disch := omega) only [zgi, zgl, zwi, zwf, zjn, zj0, zcl_s, zcv_s, zrd_n, zrl_n, zix_n, zwa_n, zwl_n, zI1, zI2, zL1, zL2, zR1, zR2, updE, updLE, zbl_0, zbl_1, nI_1, nI_add, nI_mulR, nI_leI, nI_ltI, nI_0le, nI_lt0, bvE, ↓reduceIte, Nat.reduceEqDiff, Nat.reduceLT, Nat.reduceAdd, Nat.reduceMul, reduceCtorEq, i10, i01, eq_self, or_true, true_or, false_or, or_false, not_true_eq_false, not_false_eq_true, if_true, if_false, l0, l1, l2, l3, l4, l5, l6, l7, l8, l9, l10, l11, l12, l13, l14, l15, l16, l17, l18, l19, l20, l21, l22, l23, l24, l25, l26, l27, l28, l29, l30, l57, l62, l67, l73, l103, l108, l138, nI_inj]
    · refine fin (s.1 226 4) ?_ ?_
      · unfold f_Ring_count; simp (disch := omega) only [zgi, zgl, zwi, zwf, zjn, zj0, zcl_s, zcv_s, zrd_n, zrl_n, zix_n, zwa_n, zwl_n, zI1, zI2, zL1, zL2, zR1, zR2, updE, updLE, zbl_0, zbl_1, nI_1, nI_add, nI_mulR, nI_leI, nI_ltI, nI_0le, nI_lt0, bvE, ↓reduceIte, Nat.reduceEqDiff, Nat.reduceLT, Nat.reduceAdd, Nat.reduceMul, reduceCtorEq, i10, i01, eq_self, or_true, true_or, false_or, or_false, not_true_eq_false, not_false_eq_true, if_true, if_false, l0, l1, l2, l3, l4, l5, l6, l7, l8, l9, l10, l11, l12, l13, l14, l15, l16, l17, l18, l19, l20, l21, l22, l23, l24, l25, l26, l27, l28, l29, l30, l57, l62, l67, l73, l103, l108, l138, nI_inj, e44]
      · unfold f_Model_count; simp (disch := omega) only [zgi, zgl, zwi, zwf, zjn, zj0, zcl_s, zcv_s, zrd_n, zrl_n, zix_n, zwa_n, zwl_n, zI1, zI2, zL1, zL2, zR1, zR2, updE, updLE, zbl_0, zbl_1, nI_1, nI_add, nI_mulR, nI_leI, nI_ltI, nI_0le, nI_lt0, bvE, ↓reduceIte, Nat.reduceEqDiff, Nat.reduceLT, Nat.reduceAdd, Nat.reduceMul, reduceCtorEq, i10, i01, eq_self, or_true, true_or, false_or, or_false, not_true_eq_false, not_false_eq_true, if_true, if_false, l0, l1, l2, l3, l4, l5, l6, l7, l8, l9, l10, l11, l12, l13, l14, l15, l16, l17, l18, l19, l20, l21, l22, l23, l24, l25, l26, l27, l28, l29, l30, l57, l62, l67, l73, l103, l108, l138, nI_inj]
    · refine fin (nI R) ?_ ?_
      · unfold f_Ring_count; simp (disch := omega) only [zgi, zgl, zwi, zwf, zjn, zj0, zcl_s, zcv_s, zrd_n, zrl_n, zix_n, zwa_n, zwl_n, zI1, zI2, zL1, zL2, zR1, zR2, updE, updLE, zbl_0, zbl_1, nI_1, nI_add, nI_mulR, nI_leI, nI_ltI, nI_0le, nI_lt0, bvE, ↓reduceIte, Nat.reduceEqDiff, Nat.reduceLT, Nat.reduceAdd, Nat.reduceMul, reduceCtorEq, i10, i01, eq_self, or_true, true_or, false_or, or_false, not_true_eq_false, not_false_eq_true, if_true, if_false, l0, l1, l2, l3, l4, l5, l6, l7, l8, l9, l10, l11, l12, l13, l14, l15, l16, l17, l18, l19, l20, l21, l22, l23, l24, l25, l26, l27, l28, l29, l30, l57, l62, l67, l73, l103, l108, l138, nI_inj, h2.2.1]
      · unfold f_Model_count; simp (disch := omega) only [zgi, zgl, zwi, zwf, zjn, zj0, zcl_s, zcv_s, zrd_n, zrl_n, zix_n, zwa_n, zwl_n, zI1, zI2, zL1, zL2, zR1, zR2, updE, updLE, zbl_0, zbl_1, nI_1, nI_add, nI_mulR, nI_leI, nI_ltI, nI_0le, nI_lt0, bvE, ↓reduceIte, Nat.reduceEqDiff, Nat.reduceLT, Nat.reduceAdd, Nat.reduceMul, reduceCtorEq, i10, i01, eq_self, or_true, true_or, false_or, or_false, not_true_eq_false, not_false_eq_true, if_true, if_false, l0, l1, l2, l3, l4, l5, l6, l7, l8, l9, l10, l11, l12, l13, l14, l15, l16, l17, l18, l19, l20, l21, l22, l23, l24, l25, l26, l27, l28, l29, l30, l57, l62, l67, l73, l103, l108, l138, nI_inj, h2.2.2.1]
    · refine fin (s.1 216 21) ?_ ?_
      · unfold f_Ring_count; simp (disch := omega) only [zgi, zgl, zwi, zwf, zjn, zj0, zcl_s, zcv_s, zrd_n, zrl_n, zix_n, zwa_n, zwl_n, zI1, zI2, zL1, zL2, zR1, zR2, updE, updLE, zbl_0, zbl_1, nI_1, nI_add, nI_mulR, nI_leI, nI_ltI, nI_0le, nI_lt0, bvE, ↓reduceIte, Nat.reduceEqDiff, Nat.reduceLT, Nat.reduceAdd, Nat.reduceMul, reduceCtorEq, i10, i01, eq_self, or_true, true_or, false_or, or_false, not_true_eq_false, not_false_eq_true, if_true, if_false, l0, l1, l2, l3, l4, l5, l6, l7, l8, l9, l10, l11, l12, l13, l14, l15, l16, l17, l18, l19, l20, l21, l22, l23, l24, l25, l26, l27, l28, l29, l30, l57, l62, l67, l73, l103, l108, l138, nI_inj, h3.2.2.2.2.2.1]
      · unfold f_Model_count; simp (disch := omega) only [zgi, zgl, zwi, zwf, zjn, zj0, zcl_s, zcv_s, zrd_n, zrl_n, zix_n, zwa_n, zwl_n, zI1, zI2, zL1, zL2, zR1, zR2, updE, updLE, zbl_0, zbl_1, nI_1, nI_add, nI_mulR, nI_leI, nI_ltI, nI_0le, nI_lt0, bvE, ↓reduceIte, Nat.reduceEqDiff, Nat.reduceLT, Nat.reduceAdd, Nat.reduceMul, reduceCtorEq, i10, i01, eq_self, or_true, true_or, false_or, or_false, not_true_eq_false, not_false_eq_true, if_true, if_false, l0, l1, l2, l3, l4, l5, l6, l7, l8, l9, l10, l11, l12, l13, l14, l15, l16, l17, l18, l19, l20, l21, l22, l23, l24, l25, l26, l27, l28, l29, l30, l57, l62, l67, l73, l103, l108, l138, nI_inj]
    · refine fin (s.1 226 10) ?_ ?_
      · unfold f_Ring_count; simp (disch := omega) only [zgi, zgl, zwi, zwf, zjn, zj0, zcl_s, zcv_s, zrd_n, zrl_n, zix_n, zwa_n, zwl_n, zI1, zI2, zL1, zL2, zR1, zR2, updE, updLE, zbl_0, zbl_1, nI_1, nI_add, nI_mulR, nI_leI, nI_ltI, nI_0le, nI_lt0, bvE, ↓reduceIte, Nat.reduceEqDiff, Nat.reduceLT, Nat.reduceAdd, Nat.reduceMul, reduceCtorEq, i10, i01, eq_self, or_true, true_or, false_or, or_false, not_true_eq_false, not_false_eq_true, if_true, if_false, l0, l1, l2, l3, l4, l5, l6, l7, l8, l9, l10, l11, l12, l13, l14, l15, l16, l17, l18, l19, l20, l21, l22, l23, l24, l25, l26, l27, l28, l29, l30, l57, l62, l67, l73, l103, l108, l138, nI_inj, eD]
      · unfold f_Model_count; simp (disch := omega) only [zgi, zgl, zwi, zwf, zjn, zj0, zcl_s, zcv_s, zrd_n, zrl_n, zix_n, zwa_n, zwl_n, zI1, zI2, zL1, zL2, zR1, zR2, updE, updLE, zbl_0, zbl_1, nI_1, nI_add, nI_mulR, nI_leI, nI_ltI, nI_0le, nI_lt0, bvE, ↓reduceIte, Nat.reduceEqDiff, Nat.reduceLT, Nat.reduceAdd, Nat.reduceMul, reduceCtorEq, i10, i01, eq_self, or_true, true_or, false_or, or_false, not_true_eq_false, not_false_eq_true, if_true, if_false, l0, l1, l2, l3, l4, l5, l6, l7, l8, l9, l10, l11, l12, l13, l14, l15, l16, l17, l18, l19, l20, l21, l22, l23, l24, l25, l26, l27, l28, l29, l30, l57, l62, l67, l73, l103, l108, l138, nI_inj]
    · refine fin (sBnd (gS 10 s).2.1 5) ?_ ?_
      · unfold f_Ring_count; simp (disch := omega) only [zgi, zgl, zwi, zwf, zjn, zj0, zcl_s, zcv_s, zrd_n, zrl_n, zix_n, zwa_n, zwl_n, zI1, zI2, zL1, zL2, zR1, zR2, updE, updLE, zbl_0, zbl_1, nI_1, nI_add, nI_mulR, nI_leI, nI_ltI, nI_0le, nI_lt0, bvE, ↓reduceIte, Nat.reduceEqDiff, Nat.reduceLT, Nat.reduceAdd, Nat.reduceMul, reduceCtorEq, i10, i01, eq_self, or_true, true_or, false_or, or_false, not_true_eq_false, not_false_eq_true, if_true, if_false, l0, l1, l2, l3, l4, l5, l6, l7, l8, l9, l10, l11, l12, l13, l14, l15, l16, l17, l18, l19, l20, l21, l22, l23, l24, l25, l26, l27, l28, l29, l30, l57, l62, l67, l73, l103, l108, l138, nI_inj, cl_banded10 hz]
      · unfold f_Model_count; simp (disch := omega) only [zgi, zgl, zwi, zwf, zjn, zj0, zcl_s, zcv_s, zrd_n, zrl_n, zix_n, zwa_n, zwl_n, zI1, zI2, zL1, zL2, zR1, zR2, updE, updLE, zbl_0, zbl_1, nI_1, nI_add, nI_mulR, nI_leI, nI_ltI, nI_0le, nI_lt0, bvE, ↓reduceIte, Nat.reduceEqDiff, Nat.reduceLT, Nat.reduceAdd, Nat.reduceMul, reduceCtorEq, i10, i01, eq_self, or_true, true_or, false_or, or_false, not_true_eq_false, not_false_eq_true, if_true, if_false, l0, l1, l2, l3, l4, l5, l6, l7, l8, l9, l10, l11, l12, l13, l14, l15, l16, l17, l18, l19, l20, l21, l22, l23, l24, l25, l26, l27, l28, l29, l30, l57, l62, l67, l73, l103, l108, l138, nI_inj, m_banded h3.cM]; rw [sBnd_P hP hz, g]
    · refine fin (s.1 226 11) ?_ ?_
      · unfold f_Ring_count; simp (disch := omega) only [zgi, zgl, zwi, zwf, zjn, zj0, zcl_s, zcv_s, zrd_n, zrl_n, zix_n, zwa_n, zwl_n, zI1, zI2, zL1, zL2, zR1, zR2, updE, updLE, zbl_0, zbl_1, nI_1, nI_add, nI_mulR, nI_leI, nI_ltI, nI_0le, nI_lt0, bvE, ↓reduceIte, Nat.reduceEqDiff, Nat.reduceLT, Nat.reduceAdd, Nat.reduceMul, reduceCtorEq, i10, i01, eq_self, or_true, true_or, false_or, or_false, not_true_eq_false, not_false_eq_true, if_true, if_false, l0, l1, l2, l3, l4, l5, l6, l7, l8, l9, l10, l11, l12, l13, l14, l15, l16, l17, l18, l19, l20, l21, l22, l23, l24, l25, l26, l27, l28, l29, l30, l57, l62, l67, l73, l103, l108, l138, nI_inj, eN]
      · unfold f_Model_count; simp (disch := omega) only [zgi, zgl, zwi, zwf, zjn, zj0, zcl_s, zcv_s, zrd_n, zrl_n, zix_n, zwa_n, zwl_n, zI1, zI2, zL1, zL2, zR1, zR2, updE, updLE, zbl_0, zbl_1, nI_1, nI_add, nI_mulR, nI_leI, nI_ltI, nI_0le, nI_lt0, bvE, ↓reduceIte, Nat.reduceEqDiff, Nat.reduceLT, Nat.reduceAdd, Nat.reduceMul, reduceCtorEq, i10, i01, eq_self, or_true, true_or, false_or, or_false, not_true_eq_false, not_false_eq_true, if_true, if_false, l0, l1, l2, l3, l4, l5, l6, l7, l8, l9, l10, l11, l12, l13, l14, l15, l16, l17, l18, l19, l20, l21, l22, l23, l24, l25, l26, l27, l28, l29, l30, l57, l62, l67, l73, l103, l108, l138, nI_inj]
    · refine fin (sSum (gS 10 s).2.1 5) ?_ ?_
      · unfold f_Ring_count; simp (disch := omega) only [zgi, zgl, zwi, zwf, zjn, zj0, zcl_s, zcv_s, zrd_n, zrl_n, zix_n, zwa_n, zwl_n, zI1, zI2, zL1, zL2, zR1, zR2, updE, updLE, zbl_0, zbl_1, nI_1, nI_add, nI_mulR, nI_leI, nI_ltI, nI_0le, nI_lt0, bvE, ↓reduceIte, Nat.reduceEqDiff, Nat.reduceLT, Nat.reduceAdd, Nat.reduceMul, reduceCtorEq, i10, i01, eq_self, or_true, true_or, false_or, or_false, not_true_eq_false, not_false_eq_true, if_true, if_false, l0, l1, l2, l3, l4, l5, l6, l7, l8, l9, l10, l11, l12, l13, l14, l15, l16, l17, l18, l19, l20, l21, l22, l23, l24, l25, l26, l27, l28, l29, l30, l57, l62, l67, l73, l103, l108, l138, nI_inj, cl_allWide10]
      · unfold f_Model_count; simp (disch := omega) only [zgi, zgl, zwi, zwf, zjn, zj0, zcl_s, zcv_s, zrd_n, zrl_n, zix_n, zwa_n, zwl_n, zI1, zI2, zL1, zL2, zR1, zR2, updE, updLE, zbl_0, zbl_1, nI_1, nI_add, nI_mulR, nI_leI, nI_ltI, nI_0le, nI_lt0, bvE, ↓reduceIte, Nat.reduceEqDiff, Nat.reduceLT, Nat.reduceAdd, Nat.reduceMul, reduceCtorEq, i10, i01, eq_self, or_true, true_or, false_or, or_false, not_true_eq_false, not_false_eq_true, if_true, if_false, l0, l1, l2, l3, l4, l5, l6, l7, l8, l9, l10, l11, l12, l13, l14, l15, l16, l17, l18, l19, l20, l21, l22, l23, l24, l25, l26, l27, l28, l29, l30, l57, l62, l67, l73, l103, l108, l138, nI_inj, m_wideAll h3.cM]; rw [sSum_P hP hz, g]
    · refine fin (nI m) ?_ ?_
      · unfold f_Ring_count; simp (disch := omega) only [zgi, zgl, zwi, zwf, zjn, zj0, zcl_s, zcv_s, zrd_n, zrl_n, zix_n, zwa_n, zwl_n, zI1, zI2, zL1, zL2, zR1, zR2, updE, updLE, zbl_0, zbl_1, nI_1, nI_add, nI_mulR, nI_leI, nI_ltI, nI_0le, nI_lt0, bvE, ↓reduceIte, Nat.reduceEqDiff, Nat.reduceLT, Nat.reduceAdd, Nat.reduceMul, reduceCtorEq, i10, i01, eq_self, or_true, true_or, false_or, or_false, not_true_eq_false, not_false_eq_true, if_true, if_false, l0, l1, l2, l3, l4, l5, l6, l7, l8, l9, l10, l11, l12, l13, l14, l15, l16, l17, l18, l19, l20, l21, l22, l23, l24, l25, l26, l27, l28, l29, l30, l57, l62, l67, l73, l103, l108, l138, nI_inj, o2]
      · unfold f_Model_count; simp (disch := omega) only [zgi, zgl, zwi, zwf, zjn, zj0, zcl_s, zcv_s, zrd_n, zrl_n, zix_n, zwa_n, zwl_n, zI1, zI2, zL1, zL2, zR1, zR2, updE, updLE, zbl_0, zbl_1, nI_1, nI_add, nI_mulR, nI_leI, nI_ltI, nI_0le, nI_lt0, bvE, ↓reduceIte, Nat.reduceEqDiff, Nat.reduceLT, Nat.reduceAdd, Nat.reduceMul, reduceCtorEq, i10, i01, eq_self, or_true, true_or, false_or, or_false, not_true_eq_false, not_false_eq_true, if_true, if_false, l0, l1, l2, l3, l4, l5, l6, l7, l8, l9, l10, l11, l12, l13, l14, l15, l16, l17, l18, l19, l20, l21, l22, l23, l24, l25, l26, l27, l28, l29, l30, l57, l62, l67, l73, l103, l108, l138, nI_inj, o3]
    · refine fin (nI u) ?_ ?_
      · unfold f_Ring_count; simp (disch := omega) only [zgi, zgl, zwi, zwf, zjn, zj0, zcl_s, zcv_s, zrd_n, zrl_n, zix_n, zwa_n, zwl_n, zI1, zI2, zL1, zL2, zR1, zR2, updE, updLE, zbl_0, zbl_1, nI_1, nI_add, nI_mulR, nI_leI, nI_ltI, nI_0le, nI_lt0, bvE, ↓reduceIte, Nat.reduceEqDiff, Nat.reduceLT, Nat.reduceAdd, Nat.reduceMul, reduceCtorEq, i10, i01, eq_self, or_true, true_or, false_or, or_false, not_true_eq_false, not_false_eq_true, if_true, if_false, l0, l1, l2, l3, l4, l5, l6, l7, l8, l9, l10, l11, l12, l13, l14, l15, l16, l17, l18, l19, l20, l21, l22, l23, l24, l25, l26, l27, l28, l29, l30, l57, l62, l67, l73, l103, l108, l138, nI_inj, p4]
      · unfold f_Model_count; simp (disch := omega) only [zgi, zgl, zwi, zwf, zjn, zj0, zcl_s, zcv_s, zrd_n, zrl_n, zix_n, zwa_n, zwl_n, zI1, zI2, zL1, zL2, zR1, zR2, updE, updLE, zbl_0, zbl_1, nI_1, nI_add, nI_mulR, nI_leI, nI_ltI, nI_0le, nI_lt0, bvE, ↓reduceIte, Nat.reduceEqDiff, Nat.reduceLT, Nat.reduceAdd, Nat.reduceMul, reduceCtorEq, i10, i01, eq_self, or_true, true_or, false_or, or_false, not_true_eq_false, not_false_eq_true, if_true, if_false, l0, l1, l2, l3, l4, l5, l6, l7, l8, l9, l10, l11, l12, l13, l14, l15, l16, l17, l18, l19, l20, l21, l22, l23, l24, l25, l26, l27, l28, l29, l30, l57, l62, l67, l73, l103, l108, l138, nI_inj, p5]
    · refine fin (s.1 216 22) ?_ ?_
      · unfold f_Ring_count; simp (disch := omega) only [zgi, zgl, zwi, zwf, zjn, zj0, zcl_s, zcv_s, zrd_n, zrl_n, zix_n, zwa_n, zwl_n, zI1, zI2, zL1, zL2, zR1, zR2, updE, updLE, zbl_0, zbl_1, nI_1, nI_add, nI_mulR, nI_leI, nI_ltI, nI_0le, nI_lt0, bvE, ↓reduceIte, Nat.reduceEqDiff, Nat.reduceLT, Nat.reduceAdd, Nat.reduceMul, reduceCtorEq, i10, i01, eq_self, or_true, true_or, false_or, or_false, not_true_eq_false, not_false_eq_true, if_true, if_false, l0, l1, l2, l3, l4, l5, l6, l7, l8, l9, l10, l11, l12, l13, l14, l15, l16, l17, l18, l19, l20, l21, l22, l23, l24, l25, l26, l27, l28, l29, l30, l57, l62, l67, l73, l103, l108, l138, nI_inj, h3.2.2.2.2.2.2.2.1]
      · unfold f_Model_count; simp (disch := omega) only [zgi, zgl, zwi, zwf, zjn, zj0, zcl_s, zcv_s, zrd_n, zrl_n, zix_n, zwa_n, zwl_n, zI1, zI2, zL1, zL2, zR1, zR2, updE, updLE, zbl_0, zbl_1, nI_1, nI_add, nI_mulR, nI_leI, nI_ltI, nI_0le, nI_lt0, bvE, ↓reduceIte, Nat.reduceEqDiff, Nat.reduceLT, Nat.reduceAdd, Nat.reduceMul, reduceCtorEq, i10, i01, eq_self, or_true, true_or, false_or, or_false, not_true_eq_false, not_false_eq_true, if_true, if_false, l0, l1, l2, l3, l4, l5, l6, l7, l8, l9, l10, l11, l12, l13, l14, l15, l16, l17, l18, l19, l20, l21, l22, l23, l24, l25, l26, l27, l28, l29, l30, l57, l62, l67, l73, l103, l108, l138, nI_inj]
    · refine fin (nI n) ?_ ?_
      · unfold f_Ring_count; simp (disch := omega) only [zgi, zgl, zwi, zwf, zjn, zj0, zcl_s, zcv_s, zrd_n, zrl_n, zix_n, zwa_n, zwl_n, zI1, zI2, zL1, zL2, zR1, zR2, updE, updLE, zbl_0, zbl_1, nI_1, nI_add, nI_mulR, nI_leI, nI_ltI, nI_0le, nI_lt0, bvE, ↓reduceIte, Nat.reduceEqDiff, Nat.reduceLT, Nat.reduceAdd, Nat.reduceMul, reduceCtorEq, i10, i01, eq_self, or_true, true_or, false_or, or_false, not_true_eq_false, not_false_eq_true, if_true, if_false, l0, l1, l2, l3, l4, l5, l6, l7, l8, l9, l10, l11, l12, l13, l14, l15, l16, l17, l18, l19, l20, l21, l22, l23, l24, l25, l26, l27, l28, l29, l30, l57, l62, l67, l73, l103, l108, l138, nI_inj, t2]
      · unfold f_Model_count; simp (disch := omega) only [zgi, zgl, zwi, zwf, zjn, zj0, zcl_s, zcv_s, zrd_n, zrl_n, zix_n, zwa_n, zwl_n, zI1, zI2, zL1, zL2, zR1, zR2, updE, updLE, zbl_0, zbl_1, nI_1, nI_add, nI_mulR, nI_leI, nI_ltI, nI_0le, nI_lt0, bvE, ↓reduceIte, Nat.reduceEqDiff, Nat.reduceLT, Nat.reduceAdd, Nat.reduceMul, reduceCtorEq, i10, i01, eq_self, or_true, true_or, false_or, or_false, not_true_eq_false, not_false_eq_true, if_true, if_false, l0, l1, l2, l3, l4, l5, l6, l7, l8, l9, l10, l11, l12, l13, l14, l15, l16, l17, l18, l19, l20, l21, l22, l23, l24, l25, l26, l27, l28, l29, l30, l57, l62, l67, l73, l103, l108, l138, nI_inj, t3]
  · have hne : ∀ k, k < 14 → (w = nI k) = False := by
      intro k hk
      refine eq_false (fun e => ?_)
      subst e
      rcases hn with h | h
      · exact nI_pos (show k < 2 ^ 31 by omega) h
      · rw [nI_leI (by omega) (by omega)] at h; omega
    refine fin (-1) ?_ ?_
    · unfold f_Ring_count; simp (disch := omega) only [zgi, zgl, zwi, zwf, zjn, zj0, zcl_s, zcv_s, zrd_n, zrl_n, zix_n, zwa_n, zwl_n, zI1, zI2, zL1, zL2, zR1, zR2, updE, updLE, zbl_0, zbl_1, nI_1, nI_add, nI_mulR, nI_leI, nI_ltI, nI_0le, nI_lt0, bvE, ↓reduceIte, Nat.reduceEqDiff, Nat.reduceLT, Nat.reduceAdd, Nat.reduceMul, reduceCtorEq, i10, i01, eq_self, or_true, true_or, false_or, or_false, not_true_eq_false, not_false_eq_true, if_true, if_false, l0, l1, l2, l3, l4, l5, l6, l7, l8, l9, l10, l11, l12, l13, l14, l15, l16, l17, l18, l19, l20, l21, l22, l23, l24, l25, l26, l27, l28, l29, l30, l57, l62, l67, l73, l103, l108, l138, hne]
    · unfold f_Model_count; simp (disch := omega) only [zgi, zgl, zwi, zwf, zjn, zj0, zcl_s, zcv_s, zrd_n, zrl_n, zix_n, zwa_n, zwl_n, zI1, zI2, zL1, zL2, zR1, zR2, updE, updLE, zbl_0, zbl_1, nI_1, nI_add, nI_mulR, nI_leI, nI_ltI, nI_0le, nI_lt0, bvE, ↓reduceIte, Nat.reduceEqDiff, Nat.reduceLT, Nat.reduceAdd, Nat.reduceMul, reduceCtorEq, i10, i01, eq_self, or_true, true_or, false_or, or_false, not_true_eq_false, not_false_eq_true, if_true, if_false, l0, l1, l2, l3, l4, l5, l6, l7, l8, l9, l10, l11, l12, l13, l14, l15, l16, l17, l18, l19, l20, l21, l22, l23, l24, l25, l26, l27, l28, l29, l30, l57, l62, l67, l73, l103, l108, l138, hne]
