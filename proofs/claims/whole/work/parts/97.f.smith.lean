/-! smith, the step. -/
def row0 (r : Nat → Int32) : Nat → Int32 := fun k => if k < 108 then 0 else r k
theorem row0_a {r : Nat → Int32} {k : Nat} (h : k < 108) : row0 r k = 0 := if_pos h
theorem smI0 {r : Nat → Int32} : smI 0 (0, 0, row0 r) := by
  refine ⟨by show 0 ≤ 5; omega, by show 0 ≤ 6; omega, row0_a (r := r) (k := 3) (by omega), row0_a (r := r) (k := 4) (by omega), fun _ => row0_a (r := r) (k := 0) (by omega), fun h => by omega, fun p hp => absurd hp (Nat.not_lt_zero _), fun p hp => ?_, fun k hk => ?_, fun k hk => ?_, fun k hk => ?_⟩
  · show iN 0 99 (row0 r (62 + p)) ∧ (_ → row0 r (62 + p) = 0)
    rw [row0_a (by omega)]; exact ⟨⟨0, by omega, by omega, rfl⟩, fun _ => rfl⟩
  · show iN 0 9 (row0 r (67 + k))
    rw [row0_a (by omega)]; exact ⟨0, by omega, by omega, rfl⟩
  · show iN 0 20 (row0 r (73 + k))
    rw [row0_a (by omega)]; exact ⟨0, by omega, by omega, rfl⟩
  · show iN 0 31 (row0 r (103 + k))
    rw [row0_a (by omega)]; exact ⟨0, by omega, by omega, rfl⟩
theorem smI.cB {c : Nat} {P Q : Nat} {M : Nat → Int32} (h : smI (c + 1) (P, Q, M)) : cB P Q M := by
  obtain ⟨a1, a2, a3, a4, a5, a6, a7, a8, a9, a10, a11⟩ := h
  exact ⟨a1, a2, a3, a4, Or.inr (a6 (by omega)), a7, a8, a9, a10, a11⟩
theorem c_clr {s : ZS} {r : Nat → Int32} : rt (f_Smithy_clear 79 s) (fun w => frm (fun b => 79 ≤ b ∧ b ≤ 84) s w ∧ smR 0 0 (row0 r) w ∧ w.2 = s.2) := by
  unfold f_Smithy_clear
  simp only [zwb_0, zwi, zj0]
  generalize hs1 : zsI (zsI (zsI (zsI (zsI s 79 0 0) 79 1 0) 79 2 0) 79 3 0) 79 4 0 = s1
  have F1 : frm (fun b => 79 ≤ b ∧ b ≤ 84) s s1 := by rw [← hs1]; exact ((((frm.rf.I (by omega)).I (by omega)).I (by omega)).I (by omega)).I (by omega)
  have z1 : s1.1 79 1 = 0 ∧ s1.1 79 2 = 0 ∧ s1.1 79 3 = 0 ∧ s1.1 79 4 = 0 := by
    rw [← hs1]
    simp only [zI1, updE, ↓reduceIte, Nat.reduceEqDiff, and_self]
  refine lp_rt 5 (fun i a s2 => a = nI i ∧ frm (fun b => b = 82) s1 s2 ∧ s2.2 = s.2 ∧ ∀ k, k < i → s2.1 82 k = 0) (by omega) ⟨rfl, frm.rf, by rw [← hs1]; rfl, fun k hk => by omega⟩ ?_ ?_
  · rintro i a s2 g hi ⟨rfl, F, G, hz⟩
    left
    have hni : ¬ 5 ≤ i := by omega
    refine ⟨nI (i + 1), zsI s2 82 i 0, ?_, rfl, F.I rfl, G, fun k hk => ?_⟩
    · unfold f_Smithy_clear_B27
      simp (disch := omega) only [l5, nI_leI, hni, ↓reduceIte, show 79 + 3 = 82 from rfl, zwa_n, nI_1]
    · rw [zI1, if_pos rfl, updE]
      by_cases e : k = i
      · rw [if_pos e]
      · rw [if_neg e]; exact hz k (by omega)
  · rintro a s2 g ⟨rfl, F, G, hz⟩
    unfold f_Smithy_clear_B27
    simp (disch := omega) only [l5, nI_leI, Nat.le_refl, ↓reduceIte]
    refine lp_rt 30 (fun i a s3 => a = nI i ∧ frm (fun b => b = 84) s2 s3 ∧ s3.2 = s.2 ∧ ∀ k, k < i → s3.1 84 k = 0) (by omega) ⟨rfl, frm.rf, G, fun k hk => by omega⟩ ?_ ?_
    · rintro i a s3 g2 hi ⟨rfl, F2, G2, hz2⟩
      left
      have hni : ¬ 30 ≤ i := by omega
      refine ⟨nI (i + 1), zsI s3 84 i 0, ?_, rfl, F2.I rfl, G2, fun k hk => ?_⟩
      · unfold f_Smithy_clear_B47
        simp (disch := omega) only [l30, nI_leI, hni, ↓reduceIte, show 79 + 5 = 84 from rfl, zwa_n, nI_1]
      · rw [zI1, if_pos rfl, updE]
        by_cases e : k = i
        · rw [if_pos e]
        · rw [if_neg e]; exact hz2 k (by omega)
    · rintro a s3 g2 ⟨rfl, F2, G2, hz2⟩
      unfold f_Smithy_clear_B47
      simp (disch := omega) only [l30, nI_leI, Nat.le_refl, ↓reduceIte]
      have e79 : s3.1 79 = s1.1 79 := by rw [F2.1 79 (by omega), F.1 79 (by omega)]
      refine rt_s ⟨(F1.tr (F.sub (fun b hb => by omega))).tr (F2.sub (fun b hb => by omega)), ⟨?_, ?_, ?_, ?_, fun k hk => absurd hk (Nat.not_lt_zero _), fun k hk => absurd hk (Nat.not_lt_zero _), fun k hk => ?_, fun k hk => absurd hk (Nat.not_lt_zero _), fun k hk => ?_⟩, G2⟩
      · rw [e79, row0_a (by omega)]; exact z1.1
      · rw [e79, row0_a (by omega)]; exact z1.2.1
      · rw [e79]; exact z1.2.2.1
      · rw [e79]; exact z1.2.2.2
      · rw [F2.1 82 (by omega), row0_a (by omega)]; exact hz k hk
      · rw [row0_a (by omega)]; exact hz2 k hk
theorem c_read {t : Nat → Nat} {n : Nat} {s : ZS} {r : Nat → Int32} (h : tpC t n s) : rt (f_Smithy_readFrom 79 s) (fun x => kS s x ∧ ((∃ f, lsF t n (smC t n) 41 0 0 (0, 0, row0 r) = .inl f ∧ 0 < f ∧ f < 100000 ∧ x.1 1 3 = nI f) ∨ ∃ c a, lsF t n (smC t n) 41 0 0 (0, 0, row0 r) = .inr a ∧ x.1 1 3 = 0 ∧ smI (c + 1) a ∧ smR a.1 a.2.1 a.2.2 x ∧ x.1 79 0 = 1)) := by
  unfold f_Smithy_readFrom
  refine rt_cv (c_clr (r := r)) ?_
  rintro s1 ⟨F1, R1, S1⟩
  unfold f_Tape_rewind
  simp only [zwi, zcv_s, zj0]
  have k1 : kS s s1 := ⟨fun b a c => F1.1 b c, fun j _ _ => by rw [F1.1 1 (by omega)], S1⟩
  have k2 : tK s1 (zsI (zsI s1 1 2 0) 1 3 0) := (tK.rf.I (Or.inl rfl)).I (Or.inr rfl)
  refine c_loop (t := t) (n := n) (CS := smC t n) (F := fun c s => f_Smithy_readClause 79 c s) (LIM := 40) (k := (fun (s4 : ZS) => zgi (s4.1 1 3) (fun (v6 : Int32) => zjn (A := Int32) (fun (a8 : Int32) (s7 : ZS) => zwb s7 79 0 a8 (fun (s10 : ZS) => some s10)) (fun (k9 : Int32 → ZS → Option (ZS)) => (if ¬ v6 = 0 then k9 (0 : Int32) s4 else k9 (1 : Int32) s4))))) (B := f_Smithy_readFrom_B12 79 (fun (s4 : ZS) => zgi (s4.1 1 3) (fun (v6 : Int32) => zjn (A := Int32) (fun (a8 : Int32) (s7 : ZS) => zwb s7 79 0 a8 (fun (s10 : ZS) => some s10)) (fun (k9 : Int32 → ZS → Option (ZS)) => (if ¬ v6 = 0 then k9 (0 : Int32) s4 else k9 (1 : Int32) s4))))) (Z := (fun o => rt o (fun (x : ZS) => kS s x ∧ ((∃ f, lsF t n (smC t n) 41 0 0 (0, 0, row0 r) = .inl f ∧ 0 < f ∧ f < 100000 ∧ x.1 1 3 = nI f) ∨ ∃ c a, lsF t n (smC t n) 41 0 0 (0, 0, row0 r) = .inr a ∧ x.1 1 3 = 0 ∧ smI (c + 1) a ∧ smR a.1 a.2.1 a.2.2 x ∧ x.1 79 0 = 1)))) (OK := fun c _ a => smI c a) (Rl := fun a x => kS s x ∧ smR a.1 a.2.1 a.2.2 x) (RF := fun x => kS s x) (st0 := (0, 0, row0 r)) (fun a s g => rfl) (by omega) (fun c p p' a h _ => h) (fun a x y hk hr => ⟨hr.1.tr hk.s, hr.2.f (fun b _ _ => hk.1 b (by omega))⟩) (fun x y hk hr => hr.tr hk.s) (fun a x hr => hr.1) ?_ (fun p a => smC_cap t n p a) h.1 ((h.s k1).k k2) (by rw [zI1, if_pos rfl, updE, if_neg (by omega), zI1, if_pos rfl, updE, if_pos rfl]; rfl) (by rw [zI1, if_pos rfl, updE, if_pos rfl]) smI0 ⟨k1.tr k2.s, R1.f (fun b _ _ => k2.1 b (by omega))⟩ ?_
  · rintro c p ⟨P, Q, M⟩ x hc hx hp e2 e3 hok ⟨hk, hr⟩
    refine (c_smC hc hok.2.1 hok.1 hx hp e2 e3 hr).mono ?_
    rintro w ⟨w1, w2, w3⟩
    refine ⟨hx.s w1, w2, ?_⟩
    rcases w3 with ⟨f, f1, f2, f3, f4⟩ | ⟨y, y1, y2, y3, y4, y5⟩
    · exact Or.inl ⟨f, f1, f2, f3, f4, hk.tr w1⟩
    · exact Or.inr ⟨y, y1, y2, y3, y4, smC_ok hp hok y1, hk.tr w1, y5⟩
  · rintro x hx (⟨f, f1, f2, f3, f4, f5⟩ | ⟨c, p0, a, a1, a2, a3, a4, a5⟩)
    · have hnz := fnz f2 f3
      simp only [zgi, zjn, f4, hnz, not_false_eq_true, ↓reduceIte, zwb_0]
      exact rt_s ⟨f5.I (by omega), Or.inl ⟨f, f1, f2, f3, by rw [zI1, if_neg (by omega)]; exact f4⟩⟩
    · simp only [zgi, zjn, a2, not_true_eq_false, ↓reduceIte, zwb_1]
      refine rt_s ⟨a4.I (by omega), Or.inr ⟨c, a, a1, by rw [zI1, if_neg (by omega)]; exact a2, a3, ?_, by rw [zI1, if_pos rfl, updE, if_pos rfl]⟩⟩
      obtain ⟨c1, c2, c3, c4, c5, c6, c7, c8, c9⟩ := a5
      have q79 : ∀ j, j ≠ 0 → (zsI x 79 0 1).1 79 j = x.1 79 j := fun j hj => by rw [zI1, if_pos rfl, updE, if_neg hj]
      have qb : ∀ b, b ≠ 79 → (zsI x 79 0 1).1 b = x.1 b := fun b hb => by rw [zI1, if_neg hb]
      refine ⟨by rw [q79 1 (by omega)]; exact c1, by rw [q79 2 (by omega)]; exact c2, by rw [q79 3 (by omega)]; exact c3, by rw [q79 4 (by omega)]; exact c4, ?_, ?_, ?_, ?_, ?_⟩
      · rw [qb 80 (by omega)]; exact c5
      · rw [qb 81 (by omega)]; exact c6
      · rw [qb 82 (by omega)]; exact c7
      · rw [qb 83 (by omega)]; exact c8
      · rw [qb 84 (by omega)]; exact c9
def kQ (s s' : ZS) : Prop := (∀ b, b ≠ 216 → b ≠ 219 → b ≠ 222 → s'.1 b = s.1 b) ∧ ∀ j, ¬ (j = 1 ∨ 8 ≤ j ∧ j ≤ 14) → s'.1 216 j = s.1 216 j
theorem m_read {t : Nat → Nat} {n : Nat} {s : ZS} {r : Nat → Int32} (h : tpM t n s) (e11 : s.1 216 11 = nI 6) (hM : s.1 222 = row0 r) : rt (f_Model_readsAll s) (fun w => ∃ s1, w.2 = zsI s1 216 1 0 ∧ kQ s s1 ∧ ((∃ f, lsF t n (smC t n) 41 0 0 (0, 0, row0 r) = .inl f ∧ w.1 = 0 ∧ 0 < f ∧ f < 100000 ∧ s1.1 216 9 = nI f) ∨ ∃ c a, lsF t n (smC t n) 41 0 0 (0, 0, row0 r) = .inr a ∧ w.1 = 1 ∧ s1.1 222 = a.2.2 ∧ smI (c + 1) a)) := by
  have kI : ∀ x j v, kQ s x → (j = 1 ∨ 8 ≤ j ∧ j ≤ 14) → kQ s (zsI x 216 j v) := fun x j v hk hj => ⟨fun b b1 b2 b3 => by rw [zI1, if_neg b1]; exact hk.1 b b1 b2 b3, fun i hi => by rw [zI1, if_pos rfl, updE, if_neg (by omega)]; exact hk.2 i hi⟩
  refine (m_loop (t := t) (n := n) (CS := smC t n) (LIM := 40) (RM := fun c _ a x => kQ s x ∧ x.1 216 11 = nI 6 ∧ x.1 216 14 = nI c ∧ x.1 222 = a.2.2 ∧ smI c a) (RF := fun x => kQ s x) (st0 := (0, 0, row0 r)) (T := 6) (by omega) ?_ (fun x j v hj hk => kI x j v hk (by omega)) (fun c p a x hr => hr.1) ?_ (fun p a => smC_cap t n p a) h.1 (by omega) e11 h ?_).mono ?_
  · rintro c p p' a x v ⟨g1, g2, g3, g4, g5⟩ _
    refine ⟨kI x 8 v g1 (by omega), ?_, ?_, ?_, g5⟩
    · rw [zI1, if_pos rfl, updE, if_neg (by omega)]; exact g2
    · rw [zI1, if_pos rfl, updE, if_neg (by omega)]; exact g3
    · rw [zI1, if_neg (by omega)]; exact g4
  · rintro c p ⟨P, Q, M⟩ x hc hx hp e8 e9 ⟨g1, g2, g3, g4, g5⟩
    refine (m_smC hc hx hp e8 e9 g2 g3 g4 g5).mono ?_
    rintro w ⟨w1, w2, w3, w4⟩
    have kw : kQ s w.2 := ⟨fun b b1 b2 b3 => by rw [w1 b b1 b3]; exact g1.1 b b1 b2 b3, fun j hj => by rw [w2 j (by omega)]; exact g1.2 j hj⟩
    refine ⟨⟨hx.1, hx.2.1, by rw [w2 1 (by omega)]; exact hx.2.2.1, fun k => by rw [w1 217 (by omega) (by omega)]; exact hx.2.2.2 k⟩, ?_⟩
    rcases w4 with ⟨f, f1, f2, f3, f4, f5⟩ | ⟨y, y1, y2, y3, y4, y5, y6, y7⟩
    · exact Or.inl ⟨f, f1, f2, f3, f4, f5, kw⟩
    · exact Or.inr ⟨y, y1, y2, y3, y4, y5, kw, by rw [w2 11 (by omega)]; exact g2, y7, y6, smC_ok hp g5 y1⟩
  · have k0 : kQ s (zsI s 219 6 0) := ⟨fun b b1 b2 b3 => by rw [zI1, if_neg b2], fun j hj => by rw [zI1, if_neg (by omega)]⟩
    refine ⟨kI _ 12 _ (kI _ 9 _ (kI _ 8 _ (kI _ 14 _ k0 (by omega)) (by omega)) (by omega)) (by omega), ?_, ?_, ?_, smI0⟩
    · rw [zI1, if_pos rfl, updE, if_neg (by omega), zI1, if_pos rfl, updE, if_neg (by omega), zI1, if_pos rfl, updE, if_neg (by omega), zI1, if_pos rfl, updE, if_neg (by omega), zI1, if_neg (by omega)]; exact e11
    · rw [zI1, if_pos rfl, updE, if_neg (by omega), zI1, if_pos rfl, updE, if_neg (by omega), zI1, if_pos rfl, updE, if_neg (by omega), zI1, if_pos rfl, updE, if_pos rfl]; rfl
    · rw [zI1, if_neg (by omega), zI1, if_neg (by omega), zI1, if_neg (by omega), zI1, if_neg (by omega), zI1, if_neg (by omega)]; exact hM
  · rintro w ⟨s1, w1, w2, w3⟩
    rcases w3 with ⟨f, f1, f2, f3, f4, f5, f6⟩ | ⟨c, p0, a, a1, a2, a3, a4, a5, a6, a7, a8⟩
    · exact ⟨s1, w1, f6, Or.inl ⟨f, f1, f2, f3, f4, f5⟩⟩
    · exact ⟨s1, w1, a4, Or.inr ⟨c, a, a1, a2, a7, a8⟩⟩
theorem st_smith : stp f_Ring_smith f_Model_smith := by
  intro s hR
  obtain ⟨R, P, Q, h1, h2, h3, h4, h5, h6, h7⟩ := id hR
  obtain ⟨t, n, tC, tM⟩ := tp_of h1
  obtain ⟨n0, z1, z2, z3, z4, z5⟩ := id h1
  unfold f_Ring_smith
  refine rt_cv (c_read (r := s.1 222) tC) ?_
  rintro s1 ⟨k1, hc⟩
  unfold f_Tape_clear
  simp only [zwi, zcv_s, zgi]
  -- the reference, in any state that the class leaves
  have ref : ∀ x : ZS, (∀ b, 216 ≤ b → x.1 b = s.1 b) → x.1 2 = s.1 2 → ∀ K : ZS → Option (Int32 × ZS), ∀ Z : Option (Int32 × ZS) → Prop, (∀ y, kQ x (zsI y 216 11 (x.1 216 11)) → y.1 216 11 = 6 → y.1 222 = row0 (s.1 222) → y.1 219 = x.1 219 → tpM t n y → Z (K y)) → Z (zlp zN (f_Model_smith_B8 K) (0 : Int32) (zsI x 216 11 6)) := by
    intro x hx hx2 K Z hK
    refine lp_go (n := 108) (fun i a y => a = nI i ∧ (∀ b, b ≠ 222 → y.1 b = (zsI x 216 11 6).1 b) ∧ ∀ k, y.1 222 k = if k < i then 0 else s.1 222 k) Z (by omega) ⟨rfl, fun _ _ => rfl, fun k => by rw [if_neg (by omega), zI1, if_neg (by omega), hx 222 (by omega)]⟩ ?_ ?_
    · rintro i a y g hi ⟨rfl, y1, y2⟩
      left
      have hni : ¬ 108 ≤ i := by omega
      refine ⟨nI (i + 1), zsI y 222 i 0, ?_, rfl, fun b hb => by rw [zI1, if_neg hb]; exact y1 b hb, fun k => ?_⟩
      · unfold f_Model_smith_B8
        simp (disch := omega) only [l108, nI_leI, hni, ↓reduceIte, zwa_n, nI_1]
      · rw [zI1, if_pos rfl, updE]
        by_cases e : k = i
        · rw [if_pos e, if_pos (by omega)]
        · rw [if_neg e, y2 k]
          by_cases e2 : k < i
          · rw [if_pos e2, if_pos (by omega)]
          · rw [if_neg e2, if_neg (by omega)]
    · rintro a y g ⟨rfl, y1, y2⟩
      unfold f_Model_smith_B8
      simp (disch := omega) only [l108, nI_leI, Nat.le_refl, ↓reduceIte]
      have e216 : ∀ j, j ≠ 11 → y.1 216 j = x.1 216 j := fun j hj => by rw [y1 216 (by omega), zI1, if_pos rfl, updE, if_neg hj]
      have eb : ∀ b, b ≠ 216 → b ≠ 222 → y.1 b = x.1 b := fun b hb hb2 => by rw [y1 b hb2, zI1, if_neg hb]
      refine hK y ⟨fun b b1 b2 b3 => by rw [zI1, if_neg b1]; exact eb b b1 b3, fun j hj => by rw [zI1, if_pos rfl, updE, if_neg (by omega)]; exact e216 j (by omega)⟩ (by rw [y1 216 (by omega), zI1, if_pos rfl, updE, if_pos rfl]) (funext y2) (eb 219 (by omega) (by omega)) ⟨tM.1, tM.2.1, ?_, fun k => ?_⟩
      · rw [e216 1 (by omega), hx 216 (by omega)]; exact tM.2.2.1
      · rw [eb 217 (by omega) (by omega), hx 217 (by omega)]; exact tM.2.2.2 k
  have e13 : (zsI s1 1 1 0).1 1 3 = s1.1 1 3 := by rw [zI1, if_pos rfl, updE, if_neg (by omega)]
  have kk : ∀ b, b ≠ 1 → ¬ (79 ≤ b ∧ b ≤ 84) → (zsI s1 1 1 0).1 b = s.1 b := fun b b1 b2 => by rw [zI1, if_neg b1]; exact k1.1 b b1 b2
  have e11 : (zsI s1 1 1 0).1 1 1 = nI 0 := by rw [zI1, if_pos rfl, updE, if_pos rfl]; rfl
  rcases hc with ⟨f, f1, f2, f3, f4⟩ | ⟨c, ⟨P', Q', M'⟩, a1, a2, a3, a4, a5⟩
  · -- a fault
    have hnz : ¬ (zsI s1 1 1 0).1 1 3 = 0 := by rw [e13, f4]; exact fnz f2 f3
    rw [if_neg hnz]
    refine rt_s ?_
    dsimp only
    rw [e13, f4]
    generalize zsI s1 1 1 0 = x at e13 kk e11 hnz
    unfold f_Model_smith
    simp only [zwi, zj0]
    refine ref x (fun b hb => kk b (by omega) (by omega)) (kk 2 (by omega) (by omega)) _ (fun o => rt o (fun w2 => w2.1 = -2 - nI f ∧ Rel w2.2)) (fun y y1 y2 y3 y4 y5 => ?_)
    refine rt_cl (m_read (r := s.1 222) y5 y2 y3) ?_
    rintro v s2 ⟨s3, w1, w2, w3⟩
    dsimp only at w1 w3
    rcases w3 with ⟨f', g1, rfl, g3, g4, g5⟩ | ⟨c, a, g1, _⟩
    · rw [f1] at g1
      injection g1 with g1
      subst g1
      have e9 : s2.1 216 9 = nI f := by rw [w1, zI1, if_pos rfl, updE, if_neg (by omega)]; exact g5
      simp only [not_true_eq_false, ↓reduceIte, zgi, e9]
      refine rt_s ⟨rfl, ?_⟩
      have eb : ∀ b, b ≠ 216 → b ≠ 219 → b ≠ 222 → s2.1 b = x.1 b := fun b b1 b2 b3 => by
        rw [w1, zI1, if_neg b1, w2.1 b b1 b2 b3]
        have := y1.1 b b1 b2 b3
        rw [zI1, if_neg b1] at this
        exact this
      have ej : ∀ j, ¬ (j = 1 ∨ 8 ≤ j ∧ j ≤ 14) → s2.1 216 j = x.1 216 j := fun j hj => by
        rw [w1, zI1, if_pos rfl, updE, if_neg (by omega), w2.2 j hj]
        have := y1.2 j hj
        rw [zI1, if_pos rfl, updE, if_neg (by omega)] at this
        exact this
      refine hR.t ⟨0, by omega, ?_, ?_, ?_, fun k => ?_⟩ (fun b hb => ?_) (fun j hj => ?_)
      · rw [eb 1 (by omega) (by omega) (by omega)]; exact e11
      · rw [w1, zI1, if_pos rfl, updE, if_pos rfl]; rfl
      · rw [eb 2 (by omega) (by omega) (by omega), eb 217 (by omega) (by omega) (by omega), kk 2 (by omega) (by omega), kk 217 (by omega) (by omega)]; exact z4
      · rw [eb 217 (by omega) (by omega) (by omega), kk 217 (by omega) (by omega)]; exact z5 k
      · rw [eb b (by omega) (by omega) (by omega)]; exact kk b (by omega) (by omega)
      · rw [ej j (by omega), kk 216 (by omega) (by omega)]
    · rw [f1] at g1; cases g1
  · -- it is read
    have hz : (zsI s1 1 1 0).1 1 3 = 0 := e13.trans a2
    rw [if_pos hz]
    have sm : smR P' Q' M' (zsI s1 1 1 0) := a4.f (fun b _ _ => by rw [zI1, if_neg (by omega)])
    have told : (zsI s1 1 1 0).1 79 0 = 1 := by rw [zI1, if_neg (by omega)]; exact a5
    generalize zsI s1 1 1 0 = x at e13 kk e11 hz sm told
    have cb : cB P' Q' M' := a3.cB
    have hP' := cb.1
    have hQ' := cb.2.1
    refine rt_cv (c_copySm (a := 4) (b := 79) (by omega) (Or.inr told)) ?_
    rintro s2 ⟨⟨q0, q1, q2, q3, q4⟩, q5, q6, q7, F2⟩
    obtain ⟨c1, c2, c3, c4, c5, c6, c7, c8, c9⟩ := sm
    have rs : ∀ y : ZS, (∀ b, 4 ≤ b → b ≤ 9 → y.1 b = s2.1 b) → rSm 4 y M' P' Q' := fun y hy => by
      refine ⟨?_, ?_, ?_, ?_, ?_, fun p hp => ?_, fun p hp => ?_, fun p hp => ?_, fun p hp => ?_, fun p hp => ?_⟩
      · rw [hy 4 (by omega) (by omega), q0, told]; exact (a3.2.2.2.2.2.1 (by omega)).1.symm
      · rw [hy 4 (by omega) (by omega), q1]; exact c1
      · rw [hy 4 (by omega) (by omega), q2]; exact c2
      · rw [hy 4 (by omega) (by omega), q3]; exact c3
      · rw [hy 4 (by omega) (by omega), q4]; exact c4
      · rw [hy 5 (by omega) (by omega)]; exact ((q5 p (by omega)).1).trans (c5 p hp)
      · rw [hy 6 (by omega) (by omega)]; exact ((q5 p (by omega)).2.1).trans (c6 p hp)
      · rw [hy 7 (by omega) (by omega)]; exact ((q5 p (by omega)).2.2).trans (c7 p hp)
      · rw [hy 8 (by omega) (by omega)]; exact (q6 p (by omega)).trans (c8 p hp)
      · rw [hy 9 (by omega) (by omega)]; exact (q7 p (by omega)).trans (c9 p hp)
    have r2 := rs s2 (fun _ _ _ => rfl)
    refine rt_cv (c_begin (o := 10) (P := P') (M := M') (by omega) hP' r2.2.2.2.1 r2.2.2.2.2.2.1 (fun p hp hp2 => (cb.2.2.2.2.2.2.1 p hp).2 hp2)) ?_
    rintro s3 ⟨g3, F3⟩
    unfold f_Hist_forget
    simp only [zwi, zcv_s]
    have e43 : (zsI (zsI (zsI s3 3 5 0) 100 1 0) 100 2 0).1 4 3 = nI P' := by
      rw [zI1, if_neg (by omega), zI1, if_neg (by omega), zI1, if_neg (by omega), F3.1 4 (by omega)]; exact r2.2.2.2.1
    have c35 : (zsI (zsI (zsI s3 3 5 0) 100 1 0) 100 2 0).1 3 5 = 0 := by
      rw [zI1, if_neg (by omega), zI1, if_neg (by omega), zI1, if_pos rfl, updE, if_pos rfl]
    have c3j : ∀ j, j ≠ 5 → (zsI (zsI (zsI s3 3 5 0) 100 1 0) 100 2 0).1 3 j = x.1 3 j := fun j hj => by
      rw [zI1, if_neg (by omega), zI1, if_neg (by omega), zI1, if_pos rfl, updE, if_neg hj, F3.1 3 (by omega), F2.1 3 (by omega)]
    have c100 : (zsI (zsI (zsI s3 3 5 0) 100 1 0) 100 2 0).1 100 1 = nI 0 ∧ (zsI (zsI (zsI s3 3 5 0) 100 1 0) 100 2 0).1 100 2 = nI 0 := by
      constructor
      · rw [zI1, if_pos rfl, updE, if_neg (by omega), zI1, if_pos rfl, updE, if_pos rfl]; rfl
      · rw [zI1, if_pos rfl, updE, if_pos rfl]; rfl
    have cg : gS 10 (zsI (zsI (zsI s3 3 5 0) 100 1 0) 100 2 0) = zBg M' := by
      rw [gS10_o (by omega), gS10_o (by omega), gS10_o (by omega)]; exact g3
    have crs : rSm 4 (zsI (zsI (zsI s3 3 5 0) 100 1 0) 100 2 0) M' P' Q' := rs _ (fun b hb hb2 => by
      rw [zI1, if_neg (by omega), zI1, if_neg (by omega), zI1, if_neg (by omega), F3.1 b (by omega)])
    have cb2 : ∀ b, ¬ (3 ≤ b ∧ b ≤ 14) → b ≠ 100 → (zsI (zsI (zsI s3 3 5 0) 100 1 0) 100 2 0).1 b = x.1 b := fun b hb hb2 => by
      rw [zI1, if_neg hb2, zI1, if_neg hb2, zI1, if_neg (by omega), F3.1 b (by omega), F2.1 b (by omega)]
    rw [e43]
    refine rt_s ?_
    dsimp only
    generalize zsI (zsI (zsI s3 3 5 0) 100 1 0) 100 2 0 = u at c35 c3j c100 cg crs cb2
    unfold f_Model_smith
    simp only [zwi, zj0]
    refine ref u (fun b hb => by rw [cb2 b (by omega) (by omega)]; exact kk b (by omega) (by omega)) (by rw [cb2 2 (by omega) (by omega)]; exact kk 2 (by omega) (by omega)) _ (fun o => rt o (fun w2 => w2.1 = nI P' ∧ Rel w2.2)) (fun y y1 y2 y3 y4 y5 => ?_)
    refine rt_cl (m_read (r := s.1 222) y5 y2 y3) ?_
    rintro v s4 ⟨s5, w1, w2, w3⟩
    dsimp only at w1 w3
    rcases w3 with ⟨f', g1, _⟩ | ⟨c', ⟨P2, Q2, M2⟩, g1, rfl, g4, g5⟩
    · rw [a1] at g1; cases g1
    · rw [a1] at g1
      injection g1 with g1
      injection g1 with g1 g2
      injection g2 with g2 g3'
      subst g1 g2 g3'
      dsimp only at g4
      have eb : ∀ b, b ≠ 216 → b ≠ 219 → b ≠ 222 → s4.1 b = u.1 b := fun b b1 b2 b3 => by
        rw [w1, zI1, if_neg b1, w2.1 b b1 b2 b3]
        have := y1.1 b b1 b2 b3
        rw [zI1, if_neg b1] at this
        exact this
      have ej : ∀ j, ¬ (j = 1 ∨ 8 ≤ j ∧ j ≤ 14) → s4.1 216 j = u.1 216 j := fun j hj => by
        rw [w1, zI1, if_pos rfl, updE, if_neg (by omega), w2.2 j hj]
        have := y1.2 j hj
        rw [zI1, if_pos rfl, updE, if_neg (by omega)] at this
        exact this
      have e1 : s4.1 216 1 = nI 0 := by rw [w1, zI1, if_pos rfl, updE, if_pos rfl]; rfl
      have e222 : s4.1 222 = M' := by rw [w1, zI1, if_neg (by omega)]; exact g4
      simp only [i10, not_false_eq_true, ↓reduceIte]
      refine lp_rt 139 (fun i a z => a = nI i ∧ (∀ b, b ≠ 226 → z.1 b = s4.1 b) ∧ ∀ k, k < i → z.1 226 k = if k < 108 then M' k else 0) (by omega) ⟨rfl, fun _ _ => rfl, fun k hk => by omega⟩ ?_ ?_
      · rintro i a z g hi ⟨rfl, x1, x2⟩
        left
        have hni : ¬ 139 ≤ i := by omega
        refine ⟨nI (i + 1), zsI z 226 i (if i < 108 then M' i else 0), ?_, rfl, fun b hb => by rw [zI1, if_neg hb]; exact x1 b hb, fun k hk => ?_⟩
        · unfold f_Model_smith_B44
          simp (disch := omega) only [show (139 : Int32) = nI 139 from rfl, l108, nI_leI, hni, ↓reduceIte, zjn, zwa_n, nI_1]
          by_cases h108 : 108 ≤ i
          · have hl : ¬ i < 108 := by omega
            simp only [h108, hl, ↓reduceIte]
          · have hl : i < 108 := by omega
            have e222' : z.1 222 i = M' i := by rw [x1 222 (by omega), e222]
            simp (disch := omega) only [h108, hl, ↓reduceIte, zrd_n, e222']
        · rw [zI1, if_pos rfl, updE]
          by_cases e : k = i
          · rw [if_pos e, e]
          · rw [if_neg e]; exact x2 k (by omega)
      · rintro a z g ⟨rfl, x1, x2⟩
        unfold f_Model_smith_B44
        simp (disch := omega) only [show (139 : Int32) = nI 139 from rfl, nI_leI, Nat.le_refl, ↓reduceIte]
        refine rt_cv m_begins ?_
        rintro z2 ⟨b1, b2, b3, b4⟩
        simp only [zgi]
        have m226 : ∀ k, k < 10 ∨ 57 ≤ k ∧ k < 108 → z2.1 226 k = M' k := fun k hk => by rw [b2 k (by omega), x2 k (by omega), if_pos (by omega)]
        have e3 : (zsI z2 216 27 0).1 226 3 = nI P' := by rw [zI1, if_neg (by omega), m226 3 (by omega)]; exact cb.2.2.1
        rw [e3]
        refine rt_s ⟨rfl, ?_⟩
        have v226 : (zsI z2 216 27 0).1 226 = z2.1 226 := by rw [zI1, if_neg (by omega)]
        have vb : ∀ b, b ≠ 216 → b ≠ 219 → b ≠ 222 → b ≠ 226 → (zsI z2 216 27 0).1 b = u.1 b := fun b h1 h2 h3 h4 => by rw [zI1, if_neg h1, b3 b h4, x1 b h4]; exact eb b h1 h2 h3
        have vj : ∀ j, ¬ (j = 1 ∨ 8 ≤ j ∧ j ≤ 14 ∨ j = 27) → (zsI z2 216 27 0).1 216 j = u.1 216 j := fun j hj => by rw [zI1, if_pos rfl, updE, if_neg (by omega), b3 216 (by omega), x1 216 (by omega)]; exact ej j (by omega)
        have v27 : (zsI z2 216 27 0).1 216 27 = nI 0 := by rw [zI1, if_pos rfl, updE, if_pos rfl]; rfl
        have v1 : (zsI z2 216 27 0).1 216 1 = nI 0 := by rw [zI1, if_pos rfl, updE, if_neg (by omega), b3 216 (by omega), x1 216 (by omega)]; exact e1
        generalize zsI z2 216 27 0 = fz at v226 vb vj v27 v1
        -- all other cells are as they were
        have old : ∀ b, b = 0 ∨ b = 2 ∨ 15 ≤ b ∧ b ≤ 78 ∨ 86 ≤ b ∧ b ≤ 97 ∨ 101 ≤ b ∧ b ≤ 201 ∨ b = 217 ∨ b = 218 ∨ b = 220 ∨ b = 221 ∨ b = 228 ∨ 237 ≤ b ∧ b ≤ 240 → fz.1 b = s.1 b := fun b hb => by rw [vb b (by omega) (by omega) (by omega) (by omega), cb2 b (by omega) (by omega)]; exact kk b (by omega) (by omega)
        have oj : ∀ j, j = 2 ∨ 21 ≤ j ∧ j ≤ 24 → fz.1 216 j = s.1 216 j := fun j hj => by rw [vj j (by omega), cb2 216 (by omega) (by omega), kk 216 (by omega) (by omega)]
        have f3 : ∀ b, 3 ≤ b → b ≤ 14 → fz.1 b = u.1 b := fun b hb hb2 => vb b (by omega) (by omega) (by omega) (by omega)
        have gm : gM (fz.1 226) = zBg M' := by
          rw [v226, b1]
          refine zBg_f (fun p hp => ?_)
          rw [x2 _ (by omega), if_pos (by omega)]
        have zok : zOK P' (zBg M') := fun p hp => by
          refine ⟨by rw [zBg_W]; exact ⟨0, by omega, by omega, rfl⟩, fun _ => zBg_W p, ?_⟩
          show iN 0 999 (tr 5 (fun p => M' (62 + p)) p)
          rw [tr_at hp]
          exact ((cb.2.2.2.2.2.2.1 p hp).1).up (by omega) (by omega)
        refine ⟨R, P', Q', ⟨0, by omega, ?_, v1, ?_, fun k => ?_⟩, h2.f (by rw [old 0 (by omega)]) (oj 2 (by omega)) (fun b hb hb2 => old b (by omega)) (fun b hb => old b (by omega)), ⟨?_, ?_, ?_, ?_, ?_, ?_, ?_, ?_, ?_⟩, h4.f (fun b hb hb2 => old b (by omega)) (fun b hb hb2 => old b (by omega)), ⟨0, 0, by omega, by omega, ?_, ?_, v27, fun i hi => by omega⟩, ?_, ?_⟩
        · rw [vb 1 (by omega) (by omega) (by omega) (by omega), cb2 1 (by omega) (by omega)]; exact e11
        · rw [old 2 (by omega), old 217 (by omega)]; exact z4
        · rw [old 217 (by omega)]; exact z5 k
        · refine cb.f (fun k hk => ?_)
          rw [v226]; exact m226 k hk
        · have rr : rSm 4 fz M' P' Q' := crs.f (fun b hb hb2 => f3 b (by omega) (by omega))
          obtain ⟨p0, p1, p2, p3, p4, p5, p6, p7, p8, p9⟩ := rr
          rw [v226]
          refine ⟨p0.trans (m226 0 (by omega)).symm, p1.trans (m226 1 (by omega)).symm, p2.trans (m226 2 (by omega)).symm, p3, p4, fun k hk => (p5 k hk).trans (m226 _ (by omega)).symm, fun k hk => (p6 k hk).trans (m226 _ (by omega)).symm, fun k hk => (p7 k hk).trans (m226 _ (by omega)).symm, fun k hk => (p8 k hk).trans (m226 _ (by omega)).symm, fun k hk => (p9 k hk).trans (m226 _ (by omega)).symm⟩
        · rw [gm]
          have : gS 10 fz = gS 10 u := gS_f (fun b hb hb2 => f3 b (by omega) (by omega))
          exact this.trans cg
        · refine ⟨by rw [gm]; exact zok, ?_⟩
          have : (gM (fz.1 226)).2.2.2.2.1 = 0 := by rw [gm]; rfl
          show iN 0 999 ((gM (fz.1 226)).2.2.2.2.1)
          rw [this]; exact ⟨0, by omega, by omega, rfl⟩
        · refine ⟨0, by omega, ?_, ?_, fun i hi => by omega⟩
          · rw [f3 3 (by omega) (by omega)]; exact c35
          · rw [v226, b2 138 (by omega), x2 138 (by omega), if_neg (by omega)]; rfl
        · rw [f3 3 (by omega) (by omega), c3j 6 (by omega), kk 3 (by omega) (by omega), oj 21 (by omega)]; exact h3.2.2.2.2.2.1
        · rw [oj 21 (by omega)]; exact h3.2.2.2.2.2.2.1
        · rw [f3 3 (by omega) (by omega), c3j 7 (by omega), kk 3 (by omega) (by omega), oj 22 (by omega)]; exact h3.2.2.2.2.2.2.2.1
        · rw [oj 22 (by omega)]; exact h3.2.2.2.2.2.2.2.2
        · rw [vb 100 (by omega) (by omega) (by omega) (by omega)]; exact c100.1
        · rw [vb 100 (by omega) (by omega) (by omega) (by omega)]; exact c100.2
        · rw [oj 23 (by omega)]; exact h6
        · rw [oj 24 (by omega)]; exact h7
