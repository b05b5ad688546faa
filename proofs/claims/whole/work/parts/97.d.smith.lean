/-! smith: the reference. -/
set_option maxRecDepth 100000 in
theorem lt_smith : litOK [115, 109, 105, 116, 104] 495756866664 := by unfold litOK; decide +kernel
set_option maxRecDepth 100000 in
theorem lt_pair : litOK [112, 97, 105, 114] 1885432178 := by unfold litOK; decide +kernel
set_option maxRecDepth 100000 in
theorem lt_saying : litOK [115, 97, 121, 105, 110, 103] 126862485974631 := by unfold litOK; decide +kernel
set_option maxRecDepth 100000 in
theorem lt_minds : litOK [109, 105, 110, 100, 115] 469920277619 := by unfold litOK; decide +kernel
set_option maxRecDepth 100000 in
theorem lt_near : litOK [110, 101, 97, 114] 1852137842 := by unfold litOK; decide +kernel
set_option maxRecDepth 100000 in
theorem lt_say : litOK [115, 97, 121] 7561593 := by unfold litOK; decide +kernel
set_option maxRecDepth 100000 in
theorem lt_if : litOK [105, 102] 26982 := by unfold litOK; decide +kernel
set_option maxRecDepth 100000 in
theorem lt_not : litOK [110, 111, 116] 7237492 := by unfold litOK; decide +kernel
set_option maxRecDepth 100000 in
theorem lt_and : litOK [97, 110, 100] 6385252 := by unfold litOK; decide +kernel
set_option maxRecDepth 100000 in
theorem lt_or : litOK [111, 114] 28530 := by unfold litOK; decide +kernel
set_option maxRecDepth 100000 in
theorem lt_temper : litOK [116, 101, 109, 112, 101, 114] 127978976601458 := by unfold litOK; decide +kernel
set_option maxRecDepth 100000 in
theorem lt_breaks : litOK [98, 114, 101, 97, 107, 115] 108243466677107 := by unfold litOK; decide +kernel
set_option maxRecDepth 100000 in
theorem lt_hurt : litOK [104, 117, 114, 116] 1752527476 := by unfold litOK; decide +kernel
set_option maxRecDepth 100000 in
theorem lt_said : litOK [115, 97, 105, 100] 1935763812 := by unfold litOK; decide +kernel
set_option maxRecDepth 100000 in
theorem lt_bands : litOK [98, 97, 110, 100, 115] 422541419635 := by unfold litOK; decide +kernel
set_option maxRecDepth 100000 in
theorem lt_rows : litOK [114, 111, 119, 115] 1919907699 := by unfold litOK; decide +kernel
set_option maxRecDepth 100000 in
theorem lt_day : litOK [100, 97, 121] 6578553 := by unfold litOK; decide +kernel
theorem wix10 (t : Nat → Nat) (q e : Nat) : wixF t q e 0 ws10 = if isW t q e [115, 109, 105, 116, 104] then 0 else if isW t q e [112, 97, 105, 114] then 1 else if isW t q e [115, 97, 121, 105, 110, 103] then 2 else if isW t q e [109, 105, 110, 100, 115] then 3 else if isW t q e [110, 101, 97, 114] then 4 else -1 := rfl
def mF (s s' : ZS) : Prop := (∀ b, b ≠ 216 → b ≠ 222 → s'.1 b = s.1 b) ∧ (∀ j, ¬ (8 ≤ j ∧ j ≤ 10) → s'.1 216 j = s.1 216 j) ∧ s'.2 = s.2
theorem mF.rf {s : ZS} : mF s s := ⟨fun _ _ _ => rfl, fun _ _ => rfl, rfl⟩
theorem mF.tr {s s1 s2 : ZS} (h : mF s s1) (h2 : mF s1 s2) : mF s s2 := ⟨fun b a c => (h2.1 b a c).trans (h.1 b a c), fun j a => (h2.2.1 j a).trans (h.2.1 j a), h2.2.2.trans h.2.2⟩
theorem mK.f {s s1 : ZS} (h : mK s s1) : mF s s1 := ⟨fun b a _ => h.1 b a, h.2.1, h.2.2⟩
theorem mF.I {s s1 : ZS} {j : Nat} {v : Int32} (h : mF s s1) : mF s (zsI s1 222 j v) := ⟨fun b x y => by rw [zI1, if_neg y]; exact h.1 b x y, fun i x => by rw [zI1, if_neg (by omega)]; exact h.2.1 i x, h.2.2⟩
theorem mF.J {s s1 : ZS} {j : Nat} {v : Int32} (h : mF s s1) (hj : 8 ≤ j ∧ j ≤ 10) : mF s (zsI s1 216 j v) := ⟨fun b x y => by rw [zI1, if_neg x]; exact h.1 b x y, fun i x => by rw [zI1, if_pos rfl, updE, if_neg (by omega)]; exact h.2.1 i x, h.2.2⟩
theorem tpM.f {t : Nat → Nat} {n : Nat} {s s' : ZS} (h : tpM t n s) (hk : mF s s') : tpM t n s' := ⟨h.1, h.2.1, by rw [hk.2.1 1 (by omega)]; exact h.2.2.1, fun k => by rw [hk.1 217 (by omega) (by omega)]; exact h.2.2.2 k⟩
theorem zs222 {s : ZS} {k : Nat} {v : Int32} : (zsI s 222 k v).1 222 = upd (s.1 222) k v := by rw [zI1, if_pos rfl]
section ME
variable {t : Nat → Nat} {n p : Nat} {s : ZS} {M : Nat → Int32}
theorem m_cell {cell lo hi : Nat} (hc : cell < 108) (h : tpM t n s) (hp : p ≤ n) (e : s.1 216 8 = nI p) (e9 : s.1 216 9 = 0) (hM : s.1 222 = M) (hlo : lo ≤ 1) (hhi : hi ≤ 100000) : rt (f_Model_cellHere (nI cell) (nI lo) (nI hi - 1) s) (fun w => mF s w.2 ∧ (w.1 = 1 ∧ (∃ x, nm t n p lo hi = .inr x ∧ w.2.1 216 8 = nI x.2 ∧ w.2.1 216 9 = 0 ∧ w.2.1 222 = upd M cell (nI x.1)) ∨ w.1 = 0 ∧ ∃ f, nm t n p lo hi = .inl f ∧ w.2.1 216 9 = nI f)) := by
  unfold f_Model_cellHere
  refine rt_cl (m_num h hp e e9 hlo hhi) ?_
  rintro v s1 ⟨k1, ⟨rfl, x, m1, g1, g2, g3⟩ | ⟨rfl, f, m1, g1⟩⟩
  · dsimp only at k1 g1 g2 g3
    simp (disch := omega) only [i10, not_false_eq_true, ↓reduceIte, zgi, g2, zwa_n, zbl_1]
    refine rt_s ⟨k1.f.I, Or.inl ⟨rfl, x, m1, by rw [zI1, if_neg (by omega)]; exact g1, by rw [zI1, if_neg (by omega)]; exact g3, ?_⟩⟩
    rw [zs222, k1.1 222 (by omega), hM]
  · dsimp only at k1 g1
    simp only [not_true_eq_false, ↓reduceIte, zbl_0]
    exact rt_s ⟨k1.f, Or.inr ⟨rfl, f, m1, g1⟩⟩
def dW (n : Nat) (r : Sum Nat (Nat × ZA)) (s : ZS) (w : Int32 × ZS) : Prop := mF s w.2 ∧ ((∃ f, r = .inl f ∧ w.1 = 0 ∧ 0 < f ∧ f < 100000 ∧ w.2.1 216 9 = nI f) ∨ ∃ y, r = .inr y ∧ w.1 = 1 ∧ y.1 ≤ n ∧ w.2.1 216 8 = nI y.1 ∧ w.2.1 216 9 = 0 ∧ w.2.1 222 = y.2.2.2)
theorem rt_bl {v : Int32} {s : ZS} {Q : Int32 × ZS → Prop} (h : Q (v, s)) (hv : v = 0 ∨ v = 1) : rt (zbl v s) Q := by
  unfold zbl; rw [if_pos hv]; exact rt_s h
theorem dW_bl {n : Nat} {r : Sum Nat (Nat × ZA)} {s : ZS} {o : Option (Int32 × ZS)} (h : rt o (fun w => dW n r s w)) : rt (zcl o (fun v s => zbl v s)) (fun w => dW n r s w) := by
  refine rt_cl h (fun v s1 hw => rt_bl hw ?_)
  rcases hw.2 with ⟨f, _, h, _⟩ | ⟨y, _, h, _⟩
  · exact Or.inl h
  · exact Or.inr h
variable {P Q q : Nat}
theorem m_bad {k : Nat} (hn4 : n ≤ 400) (hq : q ≤ n) (hk : k ≤ 4) (e9 : s.1 216 9 = 0) {r : Sum Nat (Nat × ZA)} (hr : r = .inl (1 + 8 * q + k)) : rt (zcl (f_Model_fails (nI k) (nI q) s) (fun v s => zbl v s)) (fun w => dW n r s w) := by
  rw [m_fails e9, zcl_s]
  exact rt_bl ⟨mF.rf.J (by omega), Or.inl ⟨_, hr, rfl, by omega, by omega, by rw [zI1, if_pos rfl, updE, if_pos rfl]⟩⟩ (Or.inl rfl)
theorem m_w0 (h : tpM t n s) (hq : q ≤ n) (e : s.1 216 8 = nI q) (e9 : s.1 216 9 = 0) (hM : s.1 222 = M) (h0 : M 0 = 0) : rt (f_Model_isSmithHere (nI q) s) (fun w => dW n (smW0 t n (we t n q) (P, Q, M)) s w) := by
  have hn4 := h.1
  obtain ⟨hw1, hw2, _, _⟩ := we_s (t := t) hq
  unfold f_Model_isSmithHere
  have r0 : s.1 222 0 = 0 := by rw [hM]; exact h0
  have l0' : (0 : Int32) ≤ 0 := Int32.le_refl _
  simp only [zgi, r0, l0', ↓reduceIte]
  rw [m_passWord h hq e, zcv_s]
  have k1 : mK s (zsI s 216 8 (nI (we t n q))) := mK.rf.I (by omega)
  refine rt_cl (m_cell (cell := 1) (lo := 1) (hi := 100) (M := M) (by omega) (h.k k1) hw2 (by rw [zI1, if_pos rfl, updE, if_pos rfl]) (by rw [zI1, if_pos rfl, updE, if_neg (by omega)]; exact e9) (by rw [zI1, if_neg (by omega)]; exact hM) (by omega) (by omega)) ?_
  rintro v s2 ⟨k2, ⟨rfl, x, m1, g1, g2, g3⟩ | ⟨rfl, f, m1, g1⟩⟩
  · dsimp only at k2 g1 g2 g3
    have b1 := nm_b hw2 m1
    simp only [i10, ↓reduceIte]
    refine rt_cl (m_cell (cell := 2) (lo := 1) (hi := 10) (by omega) ((h.k k1).f k2) b1.2.2.2 g1 g2 g3 (by omega) (by omega)) ?_
    rintro v s3 ⟨k3, ⟨rfl, y, m2, j1, j2, j3⟩ | ⟨rfl, f, m2, j1⟩⟩
    · dsimp only at k3 j1 j2 j3
      simp only [i10, not_false_eq_true, ↓reduceIte, zwi, zbl_1]
      refine rt_s ⟨((k1.f.tr k2).tr k3).I, Or.inr ⟨(y.2, P, Q, upd (upd (upd M 1 (nI x.1)) 2 (nI y.1)) 0 1), by simp only [smW0, sBd, m1, m2], rfl, (nm_b b1.2.2.2 m2).2.2.2, by rw [zI1, if_neg (by omega)]; exact j1, by rw [zI1, if_neg (by omega)]; exact j2, by rw [zs222, j3]⟩⟩
    · dsimp only at k3 j1
      have := nm_f b1.2.2.2 m2
      simp only [not_true_eq_false, ↓reduceIte, zbl_0]
      exact rt_s ⟨(k1.f.tr k2).tr k3, Or.inl ⟨f, by simp only [smW0, sBd, m1, m2], rfl, this.1, by omega, j1⟩⟩
  · dsimp only at k2 g1
    have := nm_f hw2 m1
    simp only [↓reduceIte, zbl_0]
    exact rt_s ⟨k1.f.tr k2, Or.inl ⟨f, by simp only [smW0, sBd, m1], rfl, this.1, by omega, g1⟩⟩
theorem m_w1 (hP : P < 5) (h : tpM t n s) (hq : q ≤ n) (e : s.1 216 8 = nI q) (e9 : s.1 216 9 = 0) (hM : s.1 222 = M) (hM3 : M 3 = nI P) : rt (f_Model_isPairHere (nI q) s) (fun w => dW n (smW1 t n (we t n q) (P, Q, M)) s w) := by
  have hn4 := h.1
  obtain ⟨hw1, hw2, _, _⟩ := we_s (t := t) hq
  unfold f_Model_isPairHere
  have r0 : s.1 222 3 = nI P := by rw [hM]; exact hM3
  have hne : ¬ nI P = 5 := by rw [show (5 : Int32) = nI 5 from rfl, nI_inj (by omega) (by omega)]; omega
  simp only [zgi, r0, hne, not_false_eq_true, ↓reduceIte]
  rw [m_passWord h hq e, zcv_s]
  have k1 : mK s (zsI s 216 8 (nI (we t n q))) := mK.rf.I (by omega)
  have r1 : (zsI s 216 8 (nI (we t n q))).1 222 3 = nI P := by rw [zI1, if_neg (by omega)]; exact r0
  rw [r1, show (62 : Int32) = nI 62 from rfl, nI_add]
  refine rt_cl (m_cell (cell := 62 + P) (lo := 0) (hi := 100) (M := M) (by omega) (h.k k1) hw2 (by rw [zI1, if_pos rfl, updE, if_pos rfl]) (by rw [zI1, if_pos rfl, updE, if_neg (by omega)]; exact e9) (by rw [zI1, if_neg (by omega)]; exact hM) (by omega) (by omega)) ?_
  rintro v s2 ⟨k2, ⟨rfl, x, m1, g1, g2, g3⟩ | ⟨rfl, f, m1, g1⟩⟩
  · dsimp only at k2 g1 g2 g3
    have b1 := nm_b hw2 m1
    have r2 : s2.1 222 3 = nI P := by rw [g3, updE, if_neg (by omega)]; exact hM3
    simp only [i10, ↓reduceIte, r2, show (57 : Int32) = nI 57 from rfl, nI_add]
    refine rt_cl (m_cell (cell := 57 + P) (lo := 1) (hi := 100) (by omega) ((h.k k1).f k2) b1.2.2.2 g1 g2 g3 (by omega) (by omega)) ?_
    rintro v s3 ⟨k3, ⟨rfl, y, m2, j1, j2, j3⟩ | ⟨rfl, f, m2, j1⟩⟩
    · dsimp only at k3 j1 j2 j3
      have r3 : s3.1 222 3 = nI P := by rw [j3, updE, if_neg (by omega), updE, if_neg (by omega)]; exact hM3
      simp only [i10, not_false_eq_true, ↓reduceIte, r3, nI_1, zwi, zbl_1]
      refine rt_s ⟨((k1.f.tr k2).tr k3).I, Or.inr ⟨(y.2, P + 1, Q, upd (upd (upd M (62 + P) (nI x.1)) (57 + P) (nI y.1)) 3 (nI (P + 1))), by simp only [smW1, sBd, m1, m2], rfl, (nm_b b1.2.2.2 m2).2.2.2, by rw [zI1, if_neg (by omega)]; exact j1, by rw [zI1, if_neg (by omega)]; exact j2, by rw [zs222, j3]⟩⟩
    · dsimp only at k3 j1
      have := nm_f b1.2.2.2 m2
      simp only [not_true_eq_false, ↓reduceIte, zbl_0]
      exact rt_s ⟨(k1.f.tr k2).tr k3, Or.inl ⟨f, by simp only [smW1, sBd, m1, m2], rfl, this.1, by omega, j1⟩⟩
  · dsimp only at k2 g1
    have := nm_f hw2 m1
    simp only [↓reduceIte, zbl_0]
    exact rt_s ⟨k1.f.tr k2, Or.inl ⟨f, by simp only [smW1, sBd, m1], rfl, this.1, by omega, g1⟩⟩
theorem m_w2 (hQ : Q < 6) (h : tpM t n s) (hq : q ≤ n) (e : s.1 216 8 = nI q) (e9 : s.1 216 9 = 0) (hM : s.1 222 = M) (hM4 : M 4 = nI Q) : rt (f_Model_isSayingHere (nI q) s) (fun w => dW n (smW2 t n (we t n q) (P, Q, M)) s w) := by
  have hn4 := h.1
  obtain ⟨hw1, hw2, _, _⟩ := we_s (t := t) hq
  unfold f_Model_isSayingHere
  have r0 : s.1 222 4 = nI Q := by rw [hM]; exact hM4
  have hne : ¬ nI Q = 6 := by rw [show (6 : Int32) = nI 6 from rfl, nI_inj (by omega) (by omega)]; omega
  simp only [zgi, r0, hne, not_false_eq_true, ↓reduceIte]
  rw [m_passWord h hq e, zcv_s]
  have k1 : mK s (zsI s 216 8 (nI (we t n q))) := mK.rf.I (by omega)
  have r1 : (zsI s 216 8 (nI (we t n q))).1 222 4 = nI Q := by rw [zI1, if_neg (by omega)]; exact r0
  rw [r1, show (67 : Int32) = nI 67 from rfl, nI_add]
  refine rt_cl (m_cell (cell := 67 + Q) (lo := 0) (hi := 10) (M := M) (by omega) (h.k k1) hw2 (by rw [zI1, if_pos rfl, updE, if_pos rfl]) (by rw [zI1, if_pos rfl, updE, if_neg (by omega)]; exact e9) (by rw [zI1, if_neg (by omega)]; exact hM) (by omega) (by omega)) ?_
  rintro v s2 ⟨k2, ⟨rfl, x, m1, g1, g2, g3⟩ | ⟨rfl, f, m1, g1⟩⟩
  · dsimp only at k2 g1 g2 g3
    have r3 : s2.1 222 4 = nI Q := by rw [g3, updE, if_neg (by omega)]; exact hM4
    simp only [i10, not_false_eq_true, ↓reduceIte, r3, nI_1, zwi, zbl_1]
    refine rt_s ⟨(k1.f.tr k2).I, Or.inr ⟨(x.2, P, Q + 1, upd (upd M (67 + Q) (nI x.1)) 4 (nI (Q + 1))), by simp only [smW2, sBd, m1], rfl, (nm_b hw2 m1).2.2.2, by rw [zI1, if_neg (by omega)]; exact g1, by rw [zI1, if_neg (by omega)]; exact g2, by rw [zs222, g3]⟩⟩
  · dsimp only at k2 g1
    have := nm_f hw2 m1
    simp only [not_true_eq_false, ↓reduceIte, zbl_0]
    exact rt_s ⟨k1.f.tr k2, Or.inl ⟨f, by simp only [smW2, sBd, m1], rfl, this.1, by omega, g1⟩⟩
theorem m_w3 (hP : P ≤ 5) (hQ : Q ≤ 6) (h : tpM t n s) (hq : q ≤ n) (e : s.1 216 8 = nI q) (e9 : s.1 216 9 = 0) (hM : s.1 222 = M) (hM3 : M 3 = nI P) (hM4 : M 4 = nI Q) : rt (f_Model_isMindsHere s) (fun w => dW n (smW3 t n (we t n q) (P, Q, M)) s w) := by
  have hn4 := h.1
  obtain ⟨hw1, hw2, _, _⟩ := we_s (t := t) hq
  unfold f_Model_isMindsHere
  rw [m_passWord h hq e, zcv_s]
  have k1 : mK s (zsI s 216 8 (nI (we t n q))) := mK.rf.I (by omega)
  have r1 : (zsI s 216 8 (nI (we t n q))).1 222 3 = nI P := by rw [zI1, if_neg (by omega), hM]; exact hM3
  simp only [zgi, r1]
  refine rt_cl (m_num (lo := 0) (hi := P) (h.k k1) hw2 (by rw [zI1, if_pos rfl, updE, if_pos rfl]) (by rw [zI1, if_pos rfl, updE, if_neg (by omega)]; exact e9) (by omega) (by omega)) ?_
  rintro v s2 ⟨k2, ⟨rfl, x, m1, g1, g2, g3⟩ | ⟨rfl, f, m1, g1⟩⟩
  · dsimp only at k2 g1 g2 g3
    have b1 := nm_b hw2 m1
    have hM2 : s2.1 222 = M := by rw [k2.1 222 (by omega), k1.1 222 (by omega)]; exact hM
    have r2 : s2.1 222 4 = nI Q := by rw [hM2]; exact hM4
    simp only [i10, not_false_eq_true, ↓reduceIte, g2, r2]
    have k12 := k1.tr k2
    refine rt_cl (m_num (lo := 0) (hi := Q) (h.k k12) b1.2.2.2 g1 g3 (by omega) (by omega)) ?_
    rintro v s3 ⟨k3, ⟨rfl, y, m2, j1, j2, j3⟩ | ⟨rfl, f, m2, j1⟩⟩
    · dsimp only at k3 j1 j2 j3
      have b2 := nm_b b1.2.2.2 m2
      have hM3' : s3.1 222 = M := by rw [k3.1 222 (by omega)]; exact hM2
      simp only [i10, not_false_eq_true, ↓reduceIte, j2, show (73 : Int32) = nI 73 from rfl, show (6 : Int32) = nI 6 from rfl, nI_mulR, nI_add]
      refine dW_bl ?_
      refine (m_cell (cell := 73 + 6 * x.1 + y.1) (lo := 0) (hi := 21) (by omega) ((h.k k12).k k3) b2.2.2.2 j1 j3 hM3' (by omega) (by omega)).mono ?_
      rintro w ⟨k4, ⟨d1, z, m3, d2, d3, d4⟩ | ⟨d1, f, m3, d2⟩⟩
      · exact ⟨(k12.tr k3).f.tr k4, Or.inr ⟨(z.2, P, Q, upd M (73 + 6 * x.1 + y.1) (nI z.1)), by simp only [smW3, sBd, m1, m2, m3], d1, (nm_b b2.2.2.2 m3).2.2.2, d2, d3, d4⟩⟩
      · have := nm_f b2.2.2.2 m3
        exact ⟨(k12.tr k3).f.tr k4, Or.inl ⟨f, by simp only [smW3, sBd, m1, m2, m3], d1, this.1, by omega, d2⟩⟩
    · dsimp only at k3 j1
      have := nm_f b1.2.2.2 m2
      simp only [not_true_eq_false, ↓reduceIte, zbl_0]
      exact rt_s ⟨(k12.tr k3).f, Or.inl ⟨f, by simp only [smW3, sBd, m1, m2], rfl, this.1, by omega, j1⟩⟩
  · dsimp only at k2 g1
    have := nm_f hw2 m1
    simp only [not_true_eq_false, ↓reduceIte, zbl_0]
    exact rt_s ⟨(k1.tr k2).f, Or.inl ⟨f, by simp only [smW3, sBd, m1], rfl, this.1, by omega, g1⟩⟩
theorem m_w4 (hP : P ≤ 5) (h : tpM t n s) (hq : q ≤ n) (e : s.1 216 8 = nI q) (e9 : s.1 216 9 = 0) (hM : s.1 222 = M) (hM3 : M 3 = nI P) : rt (f_Model_isNearHere s) (fun w => dW n (smW4 t n (we t n q) (P, Q, M)) s w) := by
  have hn4 := h.1
  obtain ⟨hw1, hw2, _, _⟩ := we_s (t := t) hq
  unfold f_Model_isNearHere
  rw [m_passWord h hq e, zcv_s]
  have k1 : mK s (zsI s 216 8 (nI (we t n q))) := mK.rf.I (by omega)
  have r1 : (zsI s 216 8 (nI (we t n q))).1 222 3 = nI P := by rw [zI1, if_neg (by omega), hM]; exact hM3
  simp only [zgi, r1]
  refine rt_cl (m_num (lo := 0) (hi := P) (h.k k1) hw2 (by rw [zI1, if_pos rfl, updE, if_pos rfl]) (by rw [zI1, if_pos rfl, updE, if_neg (by omega)]; exact e9) (by omega) (by omega)) ?_
  rintro v s2 ⟨k2, ⟨rfl, x, m1, g1, g2, g3⟩ | ⟨rfl, f, m1, g1⟩⟩
  · dsimp only at k2 g1 g2 g3
    have b1 := nm_b hw2 m1
    have k12 := k1.tr k2
    have h2 := h.k k12
    simp only [i10, not_false_eq_true, ↓reduceIte, g2]
    rw [m_next h2 b1.2.2.2 g1, zcl_s]
    obtain ⟨_, hqq, _, _⟩ := sk_s (t := t) b1.2.2.2
    have nms := nm_sk (t := t) (n := n) (p := x.2) (lo := 0) (hi := P) b1.2.2.2
    dsimp only
    generalize hqe : sk t n x.2 = q2 at hqq nms
    have e2 : (zsI s2 216 8 (nI q2)).1 216 8 = nI q2 := by rw [zI1, if_pos rfl, updE, if_pos rfl]
    have k22 : mK s (zsI s2 216 8 (nI q2)) := k12.I (by omega)
    have f22 : (zsI s2 216 8 (nI q2)).1 216 9 = 0 := by rw [zI1, if_pos rfl, updE, if_neg (by omega)]; exact g3
    generalize zsI s2 216 8 (nI q2) = s3 at e2 k22 f22
    have hM3' : s3.1 222 = M := by rw [k22.1 222 (by omega)]; exact hM
    have r3 : s3.1 222 3 = nI P := by rw [hM3']; exact hM3
    rw [e2, r3]
    refine rt_cl (m_num (lo := 0) (hi := P) (h.k k22) hqq e2 f22 (by omega) (by omega)) ?_
    rw [nms]
    rintro v s4 ⟨k4, ⟨rfl, y, m2, j1, j2, j3⟩ | ⟨rfl, f, m2, j1⟩⟩
    · dsimp only at k4 j1 j2 j3
      have b2 := nm_b b1.2.2.2 m2
      have k14 := k22.tr k4
      have hM4' : s4.1 222 = M := by rw [k14.1 222 (by omega)]; exact hM
      simp (disch := omega) only [i10, not_false_eq_true, ↓reduceIte, j2, nI_inj, show (103 : Int32) = nI 103 from rfl, nI_add, zrd_n, zwa_n]
      by_cases hxy : x.1 = y.1
      · rw [if_neg (fun z => z hxy)]
        rw [show (1 : Int32) = nI 1 from rfl, m_fails j3, zcl_s]
        refine rt_bl ⟨k14.f.J (by omega), Or.inl ⟨1 + 8 * q2 + 1, by simp only [smW4, sBd, m1, m2, hxy, ↓reduceIte, hqe], rfl, by omega, by omega, by rw [zI1, if_pos rfl, updE, if_pos rfl]⟩⟩ (Or.inl rfl)
      · rw [if_pos hxy]
        have j2' : (zsI s4 222 (103 + x.1) (s4.1 222 (103 + x.1) ||| ((1 : Int32) <<< (nI y.1 &&& 31)))).1 216 10 = nI y.1 := by rw [zI1, if_neg (by omega)]; exact j2
        rw [j2']
        simp (disch := omega) only [nI_add, zrd_n, zwa_n, zbl_1]
        refine rt_s ⟨k14.f.I.I, Or.inr ⟨(y.2, P, Q, smN M x.1 y.1), by simp only [smW4, sBd, m1, m2, hxy, ↓reduceIte], rfl, b2.2.2.2, by rw [zI1, if_neg (by omega), zI1, if_neg (by omega)]; exact j1, by rw [zI1, if_neg (by omega), zI1, if_neg (by omega)]; exact j3, ?_⟩⟩
        unfold smN
        rw [zs222, zs222, hM4']
    · dsimp only at k4 j1
      have := nm_f b1.2.2.2 m2
      simp only [not_true_eq_false, ↓reduceIte, zbl_0]
      exact rt_s ⟨(k22.tr k4).f, Or.inl ⟨f, by simp only [smW4, sBd, m1, m2], rfl, this.1, by omega, j1⟩⟩
  · dsimp only at k2 g1
    have := nm_f hw2 m1
    simp only [not_true_eq_false, ↓reduceIte, zbl_0]
    exact rt_s ⟨(k1.tr k2).f, Or.inl ⟨f, by simp only [smW4, sBd, m1], rfl, this.1, by omega, g1⟩⟩
end ME
