/-! rule, the step. -/
def kW (R : Nat) (s s' : ZS) : Prop := (∀ b, ¬ (b = 216 ∨ 218 ≤ b ∧ b ≤ 221 ∨ b = 223) → s'.1 b = s.1 b) ∧ (∀ k, ¬ (400 * R ≤ k ∧ k < 400 * R + 400) → s'.1 218 k = s.1 218 k) ∧ (∀ k, ¬ (48 * R ≤ k ∧ k < 48 * R + 48) → s'.1 220 k = s.1 220 k) ∧ (∀ k, ¬ k = R → s'.1 221 k = s.1 221 k) ∧ (∀ j, ¬ (j = 1 ∨ 8 ≤ j ∧ j ≤ 14 ∨ j = 16) → s'.1 216 j = s.1 216 j)
theorem kU.w {R : Nat} {s s' : ZS} (h : kU R s s') : kW R s s' := ⟨h.1, h.2.1, h.2.2.1, h.2.2.2.1, fun j hj => h.2.2.2.2.1 j (by omega)⟩
theorem kW.I {R : Nat} {s s1 : ZS} {j : Nat} {v : Int32} (h : kW R s s1) (hj : j = 1 ∨ 8 ≤ j ∧ j ≤ 14 ∨ j = 16) : kW R s (zsI s1 216 j v) := ⟨fun b hb => by rw [zI1, if_neg (by omega)]; exact h.1 b hb, fun k hk => by rw [zI1, if_neg (by omega)]; exact h.2.1 k hk, fun k hk => by rw [zI1, if_neg (by omega)]; exact h.2.2.1 k hk, fun k hk => by rw [zI1, if_neg (by omega)]; exact h.2.2.2.1 k hk, fun i a => by rw [zI1, if_pos rfl, updE, if_neg (by omega)]; exact h.2.2.2.2 i a⟩
theorem m_readR {t : Nat → Nat} {n R : Nat} {s : ZS} (hR : R < 6) (h : tpM t n s) (e11 : s.1 216 11 = nI R) (e221 : s.1 221 R = 0) : rt (f_Model_readsAll s) (fun w => ∃ s1, w.2 = zsI s1 216 1 0 ∧ ((∃ f, lsF t n (rlS t n) 13 0 0 (0, []) = .inl f ∧ w.1 = 0 ∧ 0 < f ∧ f < 100000 ∧ s1.1 216 9 = nI f ∧ kW R s s1) ∨ ∃ c p a, lsF t n (rlS t n) 13 0 0 (0, []) = .inr a ∧ w.1 = 1 ∧ rM R s (c + 1) p a s1 ∧ c + 1 ≤ 12)) := by
  refine (m_loop (t := t) (n := n) (CS := rlS t n) (LIM := 12) (RM := fun c p a x => rM R s c p a x ∧ c ≤ 12) (RF := fun x => kW R s x) (st0 := (0, [])) (T := R) (by omega) ?_ (fun x j v hj hk => hk.I (by omega)) (fun c p a x hr => hr.1.1.w) ?_ (fun p a => rlS_cap p a) h.1 (by omega) e11 h ?_).mono ?_
  · rintro c p p' a x v ⟨⟨g1, g2, g3, g4, g5, g6, g7, g8, g9⟩, g10⟩ hp
    refine ⟨⟨g1.I (by omega), ?_, g3, ?_, g5.kt ?_ ?_ ?_ ?_, ?_, g7, ⟨g8.1, Nat.le_trans g8.2.1 hp, g8.2.2⟩, g9⟩, g10⟩
    · rw [zI1, if_pos rfl, updE, if_neg (by omega)]; exact g2
    · rw [zI1, if_neg (by omega)]; exact g4
    · rw [zI1, if_pos rfl, updE, if_neg (by omega)]
    · rw [zI1, if_pos rfl, updE, if_neg (by omega)]
    · rw [zI1, if_neg (by omega)]
    · rw [zI1, if_neg (by omega)]
    · rw [zI1, if_neg (by omega)]; exact g6
  · rintro c p a x hc hx hp e8 e9 ⟨g1, g2⟩
    refine (m_rclause hR hc hx hp e8 e9 g1).mono ?_
    rintro w ⟨w1, w2⟩
    refine ⟨w1, ?_⟩
    rcases w2 with ⟨f, f1, f2, f3, f4, f5, f6⟩ | ⟨y, y1, y2, y3, y4, y5, y6⟩
    · exact Or.inl ⟨f, f1, f2, f3, f4, f5, f6.w⟩
    · refine Or.inr ⟨y, y1, y2, y3, y4, y5, y6, ?_⟩
      by_cases h12 : c = 12
      · obtain ⟨f, hf⟩ := rlS_cap (t := t) (n := n) p a
        rw [h12, hf] at y1; cases y1
      · omega
  · have k0 : kU R s (zsI s 219 R 0) := ⟨fun b hb => by rw [zI1, if_neg (by omega)], fun k hk => by rw [zI1, if_neg (by omega)], fun k hk => by rw [zI1, if_neg (by omega)], fun k hk => by rw [zI1, if_neg (by omega)], fun j hj => by rw [zI1, if_neg (by omega)], rfl⟩
    refine ⟨⟨(((k0.I (by omega)).I (by omega)).I (by omega)).I (by omega), ?_, rfl, ?_, ⟨?_, ?_, ?_, trivial⟩, trivial, Nat.le_refl _, ⟨Nat.zero_le _, Nat.le_refl _, (fun x hx => by cases hx)⟩, (fun x hx => by cases hx)⟩, by omega⟩
    · rw [zI1, if_pos rfl, updE, if_neg (by omega), zI1, if_pos rfl, updE, if_neg (by omega), zI1, if_pos rfl, updE, if_neg (by omega), zI1, if_pos rfl, updE, if_pos rfl]; rfl
    · rw [zI1, if_neg (by omega), zI1, if_neg (by omega), zI1, if_neg (by omega), zI1, if_neg (by omega), zI1, if_neg (by omega)]; exact e221
    · rw [zI1, if_pos rfl, updE, if_neg (by omega), zI1, if_pos rfl, updE, if_neg (by omega), zI1, if_pos rfl, updE, if_neg (by omega), zI1, if_pos rfl, updE, if_neg (by omega), zI1, if_neg (by omega)]; exact e11
    · rw [zI1, if_pos rfl, updE, if_pos rfl]; rfl
    · rw [zI1, if_neg (by omega), zI1, if_neg (by omega), zI1, if_neg (by omega), zI1, if_neg (by omega), zI1, if_pos rfl, updE, if_pos rfl]; rfl
  · rintro w ⟨s1, w1, w2, w3⟩
    rcases w3 with ⟨f, f1, f2, f3, f4, f5, f6⟩ | ⟨c, p0, a, a1, a2, a3, a4, a5⟩
    · exact ⟨s1, w1, Or.inl ⟨f, f1, f2, f3, f4, f5, f6⟩⟩
    · exact ⟨s1, w1, Or.inr ⟨c, p0, a, a1, a2, a4, a5⟩⟩
theorem CT_cl {R : Nat} {f : Nat → Int32} : ∀ {cl : List (List ZQo)}, CT R cl f → np (totM cl) ≤ 60 → (∀ x, x ∈ totM cl → x.2 < 100000) → ∀ L, L ∈ cl → ∃ l l2, CL L l l2 := by
  intro cl
  induction cl with
  | nil => intro _ _ _ L hL; cases hL
  | cons L cl ih =>
    intro h hn hb L' hL'
    obtain ⟨⟨l, l2, t1, t2, t3, _⟩, h2⟩ := h
    have hn' : np (L ++ totM cl) ≤ 60 := hn
    rw [np_app] at hn'
    cases hL' with
    | head => exact ⟨l, l2, t1, t2, t3.imp (fun x => x.1) (fun x => x.1), by omega, fun x hx => hb x (List.mem_append.mpr (Or.inl hx))⟩
    | tail _ hL' => exact ih h2 (by omega) (fun x hx => hb x (List.mem_append.mpr (Or.inr hx))) L' hL'
theorem CT_k2 {R : Nat} : ∀ {cl : List (List ZQo)} {f g : Nat → Int32}, CT R cl f → (∀ k, 48 * R ≤ k → k < 48 * R + 4 * cl.length → g k = f k) → CT R cl g := by
  intro cl
  induction cl with
  | nil => intro f g _ _; trivial
  | cons L cl ih =>
    intro f g h hg
    have hg' : ∀ k, 48 * R ≤ k → k < 48 * R + 4 * (cl.length + 1) → g k = f k := hg
    obtain ⟨⟨l, l2, h1, h2, h3, h4, h5, h6⟩, h7⟩ := h
    refine ⟨⟨l, l2, h1, h2, ?_, ?_, ?_, ?_⟩, ih h7 (fun k hk hk2 => hg' k hk (by omega))⟩
    · rw [hg' _ (by omega) (by omega)]; exact h3
    · rw [hg' _ (by omega) (by omega)]; exact h4
    · rw [hg' _ (by omega) (by omega)]; exact h5
    · rw [hg' _ (by omega) (by omega)]; exact h6
theorem mC_k {R : Nat} : ∀ {l : List ZQo} {f g : Nat → Int32}, mC R l f → (∀ k, 400 * R ≤ k → k < 400 * R + l.length → g k = f k) → mC R l g := by
  intro l
  induction l with
  | nil => intro f g _ _; trivial
  | cons x l ih =>
    intro f g h hg
    have hg' : ∀ k, 400 * R ≤ k → k < 400 * R + (l.length + 1) → g k = f k := hg
    exact ⟨by rw [hg' _ (by omega) (by omega)]; exact h.1, ih h.2 (fun k hk hk2 => hg' k hk (by omega))⟩
theorem Rel.ru {s s' : ZS} {R R' P Q : Nat} (ht : rTp s') (hR : R ≤ R') (hR' : R' ≤ 6) (h3 : rWd 3 s (s.1 226) (s.1 216 21) (s.1 216 22) R P Q) (h4 : rIm s R) (h5 : rHi s P) (h6 : s.1 216 23 = 0) (h7 : s.1 216 24 = -1) (h0 : s'.1 0 10 = nI R') (h2 : s'.1 216 2 = nI R') (hr : ∀ j, j < R' → ∃ f, ruleC j f s' ∧ ruleM j f s') (hf : ∀ b, 3 ≤ b ∧ b ≤ 17 ∨ 19 ≤ b ∧ b ≤ 78 ∨ 100 ≤ b ∧ b ≤ 201 ∨ b = 226 ∨ b = 228 ∨ 237 ≤ b ∧ b ≤ 240 → s'.1 b = s.1 b) (hj : ∀ j, 21 ≤ j ∧ j ≤ 24 ∨ j = 27 → s'.1 216 j = s.1 216 j) : Rel s' := by
  have i4 : rIm s' R := h4.f (fun b _ _ => hf b (by omega)) (fun b _ _ => hf b (by omega))
  refine ⟨R', P, Q, ht, ⟨hR', h0, h2, hr⟩, ?_, fun k hk => ?_, h5.f (fun b _ _ => hf b (by omega)) (hj 27 (by omega)) (hf 228 (by omega)), ?_, ?_⟩
  · rw [hf 226 (by omega), hj 21 (by omega), hj 22 (by omega)]; exact (h3.f (fun b _ _ => hf b (by omega))).up hR
  · obtain ⟨a1, a2⟩ := i4 k hk
    refine ⟨a1, ?_⟩
    rcases a2 with a2 | ⟨a2, P', Q', a3⟩
    · exact Or.inl a2
    · exact Or.inr ⟨a2, P', Q', a3.up hR⟩
  · rw [hj 23 (by omega)]; exact h6
  · rw [hj 24 (by omega)]; exact h7
theorem st_rule : stp f_Ring_rule f_Model_rule := by
  intro s hRel
  obtain ⟨R, P, Q, h1, h2, h3, h4, h5, h6, h7⟩ := id hRel
  obtain ⟨t, n, tC, tM⟩ := tp_of h1
  obtain ⟨n0, z1, z2, z3, z4, z5⟩ := id h1
  obtain ⟨r1, r2, r3, r4⟩ := id h2
  unfold f_Ring_rule
  simp only [zgi, r2]
  rw [if_neg (by rw [show (0 : Int32) = nI 0 from rfl, nI_ltI (by omega) (by omega)]; omega)]
  by_cases h6' : R = 6
  · rw [if_neg (by rw [nI_ltI (by omega) (by omega)]; omega)]
    refine rt_s ?_
    unfold f_Model_rule
    simp only [zgi, r3]
    rw [if_neg (fun x => x (by rw [h6']; rfl))]
    exact rt_s ⟨rfl, hRel⟩
  have hR : R < 6 := by omega
  rw [if_pos (by rw [nI_ltI (by omega) (by omega)]; omega), zix_n (by omega) (by omega)]
  refine rt_cv (c_rule (o := 86 + 2 * R) (by omega) (by omega) tC) ?_
  rintro s1 ⟨k1, hc⟩
  unfold f_Tape_clear
  simp only [zwi, zcv_s]
  have e13 : (zsI s1 1 1 0).1 1 3 = s1.1 1 3 := by rw [zI1, if_pos rfl, updE, if_neg (by omega)]
  have kk : ∀ b, b ≠ 1 → b ≠ 98 → b ≠ 99 → b ≠ 86 + 2 * R → b ≠ 86 + 2 * R + 1 → (zsI s1 1 1 0).1 b = s.1 b := fun b b1 b2 b3 b4 b5 => by rw [zI1, if_neg b1]; exact k1.1 b b1 b2 b3 b4 b5
  have e11 : (zsI s1 1 1 0).1 1 1 = nI 0 := by rw [zI1, if_pos rfl, updE, if_pos rfl]; rfl
  have eo : ∀ b, b ≠ 1 → (zsI s1 1 1 0).1 b = s1.1 b := fun b hb => by rw [zI1, if_neg hb]
  -- the reference, in any state that the class leaves
  have ref : ∀ x : ZS, (∀ b, 216 ≤ b → x.1 b = s.1 b) → rt (f_Model_rule x) (fun w => ∃ s9, kW R x s9 ∧ ((∃ f, lsF t n (rlS t n) 13 0 0 (0, []) = .inl f ∧ w.1 = -2 - nI f ∧ w.2 = zsI s9 216 1 0) ∨ ∃ c p a, lsF t n (rlS t n) 13 0 0 (0, []) = .inr a ∧ w.1 = nI (R + 1) - 1 ∧ c + 1 ≤ 12 ∧ rM R (zsI (zsI x 216 11 (nI R)) 221 R 0) (c + 1) p a s9 ∧ w.2 = zsI (zsI s9 216 1 0) 216 2 (nI (R + 1)))) := by
    intro x hx
    unfold f_Model_rule
    have x2 : x.1 216 2 = nI R := by rw [hx 216 (by omega)]; exact r3
    simp only [zgi, x2, zwi]
    rw [if_pos (show ¬ nI R = 6 by rw [show (6 : Int32) = nI 6 from rfl, nI_inj (by omega) (by omega)]; omega), show (zsI x 216 11 (nI R)).1 216 11 = nI R by rw [zI1, if_pos rfl, updE, if_pos rfl], zwa_n (by omega) (by omega)]
    have f3 : ∀ j, j ≠ 11 → (zsI (zsI x 216 11 (nI R)) 221 R 0).1 216 j = x.1 216 j := fun j hj => by rw [zI1, if_neg (by omega), zI1, if_pos rfl, updE, if_neg hj]
    have f11 : (zsI (zsI x 216 11 (nI R)) 221 R 0).1 216 11 = nI R := by rw [zI1, if_neg (by omega), zI1, if_pos rfl, updE, if_pos rfl]
    have f221 : ∀ k, (zsI (zsI x 216 11 (nI R)) 221 R 0).1 221 k = if k = R then 0 else x.1 221 k := fun k => by rw [zI1, if_pos rfl, updE]; rfl
    have fb : ∀ b, b ≠ 216 → b ≠ 221 → (zsI (zsI x 216 11 (nI R)) 221 R 0).1 b = x.1 b := fun b b1 b2 => by rw [zI1, if_neg b2, zI1, if_neg b1]
    generalize zsI (zsI x 216 11 (nI R)) 221 R 0 = s5 at f3 f11 f221 fb
    have t5 : tpM t n s5 := ⟨tM.1, tM.2.1, by rw [f3 1 (by omega), hx 216 (by omega)]; exact tM.2.2.1, fun k => by rw [fb 217 (by omega) (by omega), hx 217 (by omega)]; exact tM.2.2.2 k⟩
    have kx : ∀ s9, kW R s5 s9 → kW R x s9 := fun s9 hk => ⟨fun b hb => by rw [hk.1 b hb, fb b (by omega) (by omega)], fun k hk2 => by rw [hk.2.1 k hk2, fb 218 (by omega) (by omega)], fun k hk2 => by rw [hk.2.2.1 k hk2, fb 220 (by omega) (by omega)], fun k hk2 => by rw [hk.2.2.2.1 k hk2, f221, if_neg hk2], fun j hj => by rw [hk.2.2.2.2 j hj, f3 j (by omega)]⟩
    refine rt_cl (m_readR hR t5 f11 (by rw [f221, if_pos rfl])) ?_
    rintro v s6 ⟨s9, rfl, ⟨f, f1, rfl, f2, f3', f4, f5⟩ | ⟨c, p, a, a1, rfl, a2, a3⟩⟩
    · have e9 : (zsI s9 216 1 0).1 216 9 = nI f := by rw [zI1, if_pos rfl, updE, if_neg (by omega)]; exact f4
      simp only [not_true_eq_false, ↓reduceIte, e9]
      exact rt_s ⟨s9, kx _ f5, Or.inl ⟨f, f1, rfl, rfl⟩⟩
    · have k9 := kx _ a2.1.w
      have e2 : (zsI s9 216 1 0).1 216 2 = nI R := by rw [zI1, if_pos rfl, updE, if_neg (by omega), k9.2.2.2.2 2 (by omega)]; exact x2
      simp only [i10, not_false_eq_true, ↓reduceIte, e2, nI_1]
      refine rt_s ⟨s9, k9, Or.inr ⟨c, p, a, a1, ?_, a3, a2, rfl⟩⟩
      show (zsI (zsI s9 216 1 0) 216 2 (nI (R + 1))).1 216 2 - 1 = _
      rw [zI1, if_pos rfl, updE, if_pos rfl]
  -- what stays
  have old : ∀ (x w : ZS) (s9 : ZS), (∀ b, b ≠ 1 → b ≠ 0 → b ≠ 98 → b ≠ 99 → b ≠ 86 + 2 * R → b ≠ 86 + 2 * R + 1 → x.1 b = s.1 b) → kW R x s9 → (∀ b, b ≠ 216 → w.1 b = s9.1 b) → ∀ j, j < R → ∃ f, ruleC j f w ∧ ruleM j f w := by
    intro x w s9 hx hk hw j hj
    obtain ⟨f, c1, c2⟩ := r4 j hj
    refine ⟨f, c1.f ⟨?_, ?_⟩, c2.f ⟨fun k q1 q2 => ?_, fun k q1 q2 => ?_, ?_⟩⟩
    · rw [hw _ (by omega), hk.1 _ (by omega), hx _ (by omega) (by omega) (by omega) (by omega) (by omega) (by omega)]
    · rw [hw _ (by omega), hk.1 _ (by omega), hx _ (by omega) (by omega) (by omega) (by omega) (by omega) (by omega)]
    · rw [hw 218 (by omega), hk.2.1 k (by omega), hx 218 (by omega) (by omega) (by omega) (by omega) (by omega) (by omega)]
    · rw [hw 220 (by omega), hk.2.2.1 k (by omega), hx 220 (by omega) (by omega) (by omega) (by omega) (by omega) (by omega)]
    · rw [hw 221 (by omega), hk.2.2.2.1 j (by omega), hx 221 (by omega) (by omega) (by omega) (by omega) (by omega) (by omega)]
  rcases hc with ⟨f, f1, f2, f3, f4⟩ | ⟨a, a1, a2, a3, a4, a5, a6⟩
  · -- a fault
    have hnz : ¬ (zsI s1 1 1 0).1 1 3 = 0 := by rw [e13, f4]; exact fnz f2 f3
    rw [if_neg hnz]
    refine rt_s ?_
    dsimp only
    rw [e13, f4]
    generalize zsI s1 1 1 0 = x at e13 kk e11 eo hnz
    refine (ref x (fun b hb => kk b (by omega) (by omega) (by omega) (by omega) (by omega))).mono ?_
    rintro w ⟨s9, k9, ⟨f', g1, g2, g3⟩ | ⟨c, p, a, g1, _⟩⟩
    · rw [f1] at g1
      injection g1 with g1
      subst g1
      refine ⟨g2, ?_⟩
      have wb : ∀ b, b ≠ 216 → w.2.1 b = s9.1 b := fun b hb => by rw [g3, zI1, if_neg hb]
      have wj : ∀ j, j ≠ 1 → w.2.1 216 j = s9.1 216 j := fun j hj => by rw [g3, zI1, if_pos rfl, updE, if_neg hj]
      have wk : ∀ b, b ≠ 216 → ¬ (218 ≤ b ∧ b ≤ 221 ∨ b = 223) → w.2.1 b = x.1 b := fun b h1 h2 => by rw [wb b h1, k9.1 b (by omega)]
      refine Rel.ru (R := R) (R' := R) ⟨0, by omega, ?_, ?_, ?_, fun k => ?_⟩ (Nat.le_refl _) r1 h3 h4 h5 h6 h7 ?_ ?_ (old x w.2 s9 (fun b b1 _ b2 b3 b4 b5 => kk b b1 b2 b3 b4 b5) k9 wb) (fun b hb => ?_) (fun j hj => ?_)
      · rw [wk 1 (by omega) (by omega)]; exact e11
      · rw [g3, zI1, if_pos rfl, updE, if_pos rfl]; rfl
      · rw [wk 2 (by omega) (by omega), wk 217 (by omega) (by omega), kk 2 (by omega) (by omega) (by omega) (by omega) (by omega), kk 217 (by omega) (by omega) (by omega) (by omega) (by omega)]; exact z4
      · rw [wk 217 (by omega) (by omega), kk 217 (by omega) (by omega) (by omega) (by omega) (by omega)]; exact z5 k
      · rw [wk 0 (by omega) (by omega), kk 0 (by omega) (by omega) (by omega) (by omega) (by omega)]; exact r2
      · rw [wj 2 (by omega), k9.2.2.2.2 2 (by omega), kk 216 (by omega) (by omega) (by omega) (by omega) (by omega)]; exact r3
      · rw [wk b (by omega) (by omega), kk b (by omega) (by omega) (by omega) (by omega) (by omega)]
      · rw [wj j (by omega), k9.2.2.2.2 j (by omega), kk 216 (by omega) (by omega) (by omega) (by omega) (by omega)]
    · rw [f1] at g1; cases g1
  · -- it is read
    have hz : (zsI s1 1 1 0).1 1 3 = 0 := e13.trans a2
    rw [if_pos hz]
    have eR : (zsI s1 1 1 0).1 0 10 = nI R := by rw [kk 0 (by omega) (by omega) (by omega) (by omega) (by omega)]; exact r2
    have b3 : (zsI s1 1 1 0).1 (86 + 2 * R) 1 = nI (tot a.2).length := by rw [eo _ (by omega)]; exact a3
    have b4 : oC (tot a.2) ((zsI s1 1 1 0).1 (86 + 2 * R + 1)) := by rw [eo _ (by omega)]; exact a4
    generalize zsI s1 1 1 0 = y at e13 kk e11 eo hz eR b3 b4
    rw [eR, nI_1, show (zsI y 0 10 (nI (R + 1))).1 0 10 = nI (R + 1) by rw [zI1, if_pos rfl, updE, if_pos rfl]]
    refine rt_s ?_
    dsimp only
    have x10 : (zsI y 0 10 (nI (R + 1))).1 0 10 = nI (R + 1) := by rw [zI1, if_pos rfl, updE, if_pos rfl]
    have xb : ∀ b, b ≠ 0 → (zsI y 0 10 (nI (R + 1))).1 b = y.1 b := fun b hb => by rw [zI1, if_neg hb]
    generalize zsI y 0 10 (nI (R + 1)) = x at x10 xb
    have kx : ∀ b, b ≠ 1 → b ≠ 0 → b ≠ 98 → b ≠ 99 → b ≠ 86 + 2 * R → b ≠ 86 + 2 * R + 1 → x.1 b = s.1 b := fun b c1 c2 c3 c4 c5 c6 => by rw [xb b c2]; exact kk b c1 c3 c4 c5 c6
    refine (ref x (fun b hb => kx b (by omega) (by omega) (by omega) (by omega) (by omega) (by omega))).mono ?_
    rintro w ⟨s9, k9, ⟨f', g1, _⟩ | ⟨c, p, a', g1, g2, g4, g5, g3⟩⟩
    · rw [a1] at g1; cases g1
    · rw [a1] at g1
      injection g1 with g1
      subst g1
      refine ⟨g2, ?_⟩
      have wb : ∀ b, b ≠ 216 → w.2.1 b = s9.1 b := fun b hb => by rw [g3, zI1, if_neg hb, zI1, if_neg hb]
      have wj : ∀ j, j ≠ 1 → j ≠ 2 → w.2.1 216 j = s9.1 216 j := fun j hj hj2 => by rw [g3, zI1, if_pos rfl, updE, if_neg hj2, zI1, if_pos rfl, updE, if_neg hj]
      have wk : ∀ b, b ≠ 216 → ¬ (218 ≤ b ∧ b ≤ 221 ∨ b = 223) → w.2.1 b = x.1 b := fun b h1 h2 => by rw [wb b h1, k9.1 b (by omega)]
      have od := old x w.2 s9 kx k9 wb
      obtain ⟨q1, q2, q3, q4, q5, q6, q7, q8, q9⟩ := g5
      have tl := tot_len a.2
      have q8' : a.1 ≤ 60 := q8.1
      have np60 : np (totM a.2) ≤ 60 := by omega
      have bnd : ∀ x, x ∈ totM a.2 → x.2 < 100000 := fun x hx => (q9 x hx).2
      have hcl := CT_cl q6 np60 bnd
      have nc : ∀ j, j < R + 1 → ∃ f, ruleC j f w.2 ∧ ruleM j f w.2 := by
        intro j hj
        by_cases hjR : j < R
        · exact od j hjR
        · have : j = R := by omega
          subst this
          refine ⟨fun ws => fR ws (tot a.2), fun s' ws ag hw => ?_, fun s' ws ag hw => ?_⟩
          · refine c_worth (by omega) ?_ ?_ a5 (cl_s hcl).1 hw
            · rw [ag.1, wk _ (by omega) (by omega), xb _ (by omega)]; exact b3
            · have e : 86 + 2 * j + 1 = 87 + 2 * j := by omega
              rw [e] at b4 ⊢
              rw [ag.2, wk _ (by omega) (by omega), xb _ (by omega)]; exact b4
          · refine (m_wrth (R := j) (cl := a.2) (ws := ws) hR ?_ (by omega) ?_ ?_ (by omega) np60 bnd hw).mono ?_
            · rw [ag.2.2, wb 221 (by omega), q4, q3]
            · exact mC_k q5.2.2.2 (fun k c1 c2 => by rw [ag.1 k c1 (by omega), wb 218 (by omega)])
            · exact CT_k2 q6 (fun k c1 c2 => by rw [ag.2.1 k c1 (by omega), wb 220 (by omega)])
            · rintro u ⟨u1, u2⟩
              exact ⟨u1, ⟨fun b hb => u2.1 b (by omega), fun b hb => u2.2.2 b (by omega), fun j hj => u2.2.1 j hj, fun k _ => by rw [u2.1 226 (by omega)]⟩, u2.1 226 (by omega), u2.1 227 (by omega)⟩
      refine Rel.ru (R := R) (R' := R + 1) ⟨0, by omega, ?_, ?_, ?_, fun k => ?_⟩ (Nat.le_succ _) hR h3 h4 h5 h6 h7 ?_ ?_ nc (fun b hb => ?_) (fun j hj => ?_)
      · rw [wk 1 (by omega) (by omega), xb 1 (by omega)]; exact e11
      · rw [g3, zI1, if_pos rfl, updE, if_neg (by omega), zI1, if_pos rfl, updE, if_pos rfl]; rfl
      · rw [wk 2 (by omega) (by omega), wk 217 (by omega) (by omega), kx 2 (by omega) (by omega) (by omega) (by omega) (by omega) (by omega), kx 217 (by omega) (by omega) (by omega) (by omega) (by omega) (by omega)]; exact z4
      · rw [wk 217 (by omega) (by omega), kx 217 (by omega) (by omega) (by omega) (by omega) (by omega) (by omega)]; exact z5 k
      · rw [wk 0 (by omega) (by omega)]; exact x10
      · rw [g3, zI1, if_pos rfl, updE, if_pos rfl]
      · rw [wk b (by omega) (by omega), kx b (by omega) (by omega) (by omega) (by omega) (by omega) (by omega)]
      · rw [wj j (by omega) (by omega), k9.2.2.2.2 j (by omega), kx 216 (by omega) (by omega) (by omega) (by omega) (by omega) (by omega)]
