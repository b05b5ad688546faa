/-! smith: the class's clauses. -/
section SD
variable {t : Nat → Nat} {n p : Nat} {s : ZS}
theorem nm_sk {lo hi : Nat} (hp : p ≤ n) : nm t n (sk t n p) lo hi = nm t n p lo hi := by
  unfold nm
  rw [sk_sk hp]
theorem c_w4 {P Q : Nat} {M : Nat → Int32} {w : Int32} (w0 : ¬ w = 0) (w1 : ¬ w = 1) (w2 : ¬ w = 2) (w3 : ¬ w = 3) (hQ : Q ≤ 6) (hP : P ≤ 5) (h : tpC t n s) (hp : p ≤ n) (e : s.1 1 2 = nI p) (e3 : s.1 1 3 = 0) (hR : smR P Q M s) : rt (f_Smithy_readNumbers 79 w s) (fun x => cW t n (smW4 t n p (P, Q, M)) s x) := by
  unfold f_Smithy_readNumbers
  rw [if_pos w0, if_pos w1, if_pos w2, if_pos w3]
  unfold f_Smithy_readNear
  have eP : s.1 79 3 = nI P := hR.2.2.1
  have hn4 := h.1
  simp only [zgi, eP]
  refine rt_cv (Q1 := fun x => cW t n (smW4 t n p (P, Q, M)) s x) ?_ (fun s h => rt_s h)
  refine rt_cl (c_numX (lo := 0) (hi := P) h hp e (by omega) (by omega)) ?_
  rintro v1 s1 ⟨k1, v, p1, a1, a2, rfl, a4, D1⟩
  dsimp only at k1 a4 D1
  have h1 := h.k k1
  rw [c_next h1 a2 a4, zcl_s]
  obtain ⟨_, hq, _, _⟩ := sk_s (t := t) a2
  have nms := nm_sk (t := t) (n := n) (p := p1) (lo := 0) (hi := P) a2
  dsimp only
  have hq2 : sk t n p1 = sk t n p1 := rfl
  generalize hqe : sk t n p1 = q at hq nms
  have e2 : (zsI s1 1 2 (nI q)).1 1 2 = nI q := by rw [zI1, if_pos rfl, updE, if_pos rfl]
  have k2 : tK s (zsI s1 1 2 (nI q)) := k1.I (Or.inl rfl)
  have f2 : (zsI s1 1 2 (nI q)).1 1 3 = s1.1 1 3 := by rw [zI1, if_pos rfl, updE, if_neg (by omega)]
  generalize zsI s1 1 2 (nI q) = s2 at e2 k2 f2
  have eP2 : s2.1 79 3 = nI P := by rw [k2.1 79 (by omega)]; exact eP
  rw [e2, eP2]
  refine rt_cl (c_numX (p := q) (lo := 0) (hi := P) (h.k k2) hq e2 (by omega) (by omega)) ?_
  rintro v2 s3 ⟨k3, u, p3, b1, b2, rfl, b4, D2⟩
  dsimp only at k3 b4 D2
  rw [f2, nms] at D2
  have k13 := k2.tr k3
  -- behind the numbers
  have tail : ∀ s9, tK s s9 → s9.1 1 2 = nI p3 → ((∃ f, smW4 t n p (P, Q, M) = .inl f ∧ 0 < f ∧ f < 100000 ∧ s9.1 1 3 = nI f) ∨ v < P ∧ u < P ∧ s9.1 1 3 = 0 ∧ smW4 t n p (P, Q, M) = .inr (p3, P, Q, smN M v u)) → rt (zcl (f_Smithy_hasPair 79 (nI v) s9) (fun (v14 : Int32) (s13 : ZS) => (if v14 = 0 then some s13 else zcl (f_Smithy_hasPair 79 (nI u) s13) (fun (v16 : Int32) (s15 : ZS) => (if v16 = 0 then some s15 else zrd 5 (nI v) (s15.1 (79 + 3)) (fun (v17 : Int32) => zwa s15 (79 + 3) 5 (nI v) ((v17 ||| ((1 : Int32) <<< (nI u &&& (31 : Int32))))) (fun (s18 : ZS) => zrd 5 (nI u) (s18.1 (79 + 3)) (fun (v19 : Int32) => zwa s18 (79 + 3) 5 (nI u) ((v19 ||| ((1 : Int32) <<< (nI v &&& (31 : Int32))))) (fun (s20 : ZS) => some s20))))))))) (fun x => cW t n (smW4 t n p (P, Q, M)) s x) := by
    intro s9 k9 e9 hh
    have eP9 : s9.1 79 3 = nI P := by rw [k9.1 79 (by omega)]; exact eP
    rw [hasP79 eP9 hP a1, zcl_s]
    by_cases hv : v < P
    · simp only [hv, ↓reduceIte, i10]
      rw [hasP79 eP9 hP b1, zcl_s]
      by_cases hu : u < P
      · simp (disch := omega) only [hu, ↓reduceIte, i10, zrd_n, zwa_n, show 79 + 3 = 82 from rfl]
        refine rt_s ⟨(k9.s.I (by omega)).I (by omega), ⟨p3, b2, by rw [zI1, if_neg (by omega), zI1, if_neg (by omega)]; exact e9⟩, ?_⟩
        rcases hh with ⟨f, g1, g2, g3, g4⟩ | ⟨_, _, g3, g4⟩
        · exact Or.inl ⟨f, g1, g2, g3, by rw [zI1, if_neg (by omega), zI1, if_neg (by omega)]; exact g4⟩
        · right
          refine ⟨_, g4, b2, by rw [zI1, if_neg (by omega), zI1, if_neg (by omega)]; exact e9, by rw [zI1, if_neg (by omega), zI1, if_neg (by omega)]; exact g3, ?_⟩
          obtain ⟨c1, c2, c3, c4, c5, c6, c7, c8, c9⟩ := hR
          have l82 : ∀ k, k < 5 → s9.1 82 k = M (103 + k) := fun k hk => by rw [k9.1 82 (by omega)]; exact c7 k hk
          generalize hA : (s9.1 82 v ||| ((1 : Int32) <<< (nI u &&& 31))) = A
          generalize hB : ((zsI s9 82 v A).1 82 u ||| ((1 : Int32) <<< (nI v &&& 31))) = B
          have qb : ∀ b, 79 ≤ b → b ≤ 84 → b ≠ 82 → (zsI (zsI s9 82 v A) 82 u B).1 b = s.1 b := fun b h1 h2 h3 => by rw [zI1, if_neg h3, zI1, if_neg h3, k9.1 b (by omega)]
          have oM : ∀ k, k < 103 → smN M v u k = M k := fun k h1 => by unfold smN; rw [updE, if_neg (by omega), updE, if_neg (by omega)]
          have hA2 : A = M (103 + v) ||| ((1 : Int32) <<< (nI u &&& 31)) := by rw [← hA, l82 v (by omega)]
          have hB2 : B = upd M (103 + v) A (103 + u) ||| ((1 : Int32) <<< (nI v &&& 31)) := by
            rw [← hB, zI1, if_pos rfl, updE, updE]
            by_cases euv : u = v
            · rw [if_pos euv, if_pos (by omega)]
            · rw [if_neg euv, if_neg (by omega), l82 u (by omega)]
          refine ⟨?_, ?_, ?_, ?_, ?_, ?_, ?_, ?_, ?_⟩
          · rw [qb 79 (by omega) (by omega) (by omega), c1]; exact (oM 1 (by omega)).symm
          · rw [qb 79 (by omega) (by omega) (by omega), c2]; exact (oM 2 (by omega)).symm
          · rw [qb 79 (by omega) (by omega) (by omega)]; exact c3
          · rw [qb 79 (by omega) (by omega) (by omega)]; exact c4
          · intro k hk
            have hk' : k < P := hk
            rw [qb 80 (by omega) (by omega) (by omega), c5 k hk]; exact (oM _ (by omega)).symm
          · intro k hk
            have hk' : k < P := hk
            rw [qb 81 (by omega) (by omega) (by omega), c6 k hk]; exact (oM _ (by omega)).symm
          · intro k hk
            have r1 : smN M v u (103 + k) = if k = u then B else if k = v then A else M (103 + k) := by
              unfold smN
              rw [← hA2, ← hB2, updE, updE]
              by_cases e1 : k = u
              · rw [if_pos e1, if_pos (by omega)]
              · rw [if_neg e1, if_neg (by omega)]
                by_cases e2 : k = v
                · rw [if_pos e2, if_pos (by omega)]
                · rw [if_neg e2, if_neg (by omega)]
            have r2 : (zsI (zsI s9 82 v A) 82 u B).1 82 k = if k = u then B else if k = v then A else M (103 + k) := by
              rw [zI1, if_pos rfl, updE]
              by_cases e1 : k = u
              · rw [if_pos e1, if_pos e1]
              · rw [if_neg e1, if_neg e1, zI1, if_pos rfl, updE]
                by_cases e2 : k = v
                · rw [if_pos e2, if_pos e2]
                · rw [if_neg e2, if_neg e2]; exact l82 k hk
            exact r2.trans r1.symm
          · intro k hk
            have hk' : k < Q := hk
            rw [qb 83 (by omega) (by omega) (by omega), c8 k hk]; exact (oM _ (by omega)).symm
          · intro k hk
            rw [qb 84 (by omega) (by omega) (by omega), c9 k hk]; exact (oM _ (by omega)).symm
      · simp only [hu, ↓reduceIte]
        refine rt_s ⟨k9.s, ⟨p3, b2, e9⟩, ?_⟩
        rcases hh with hh | ⟨_, g, _⟩
        · exact Or.inl hh
        · exact absurd g hu
    · simp only [hv, ↓reduceIte]
      refine rt_s ⟨k9.s, ⟨p3, b2, e9⟩, ?_⟩
      rcases hh with hh | ⟨g, _⟩
      · exact Or.inl hh
      · exact absurd g hv
  simp (disch := omega) only [zj0, nI_inj]
  by_cases huv : v = u
  · simp only [eq_true huv, not_true_eq_false, ↓reduceIte]
    rw [show (1 : Int32) = nI 1 from rfl, c_refuse, zcv_s, show nI 1 = (1 : Int32) from rfl]
    refine tail _ ?_ ?_ (Or.inl ?_)
    · split
      · exact k13.I (Or.inr rfl)
      · exact k13
    · split
      · rw [zI1, if_pos rfl, updE, if_neg (by omega)]; exact b4
      · exact b4
    · rcases D1 with ⟨_, x, m1, g1, rfl, rfl⟩ | ⟨_, f, m1, g0, g1, g2⟩ | ⟨g, _⟩
      · rcases D2 with ⟨_, y, m2, g2, rfl, rfl⟩ | ⟨_, f, m2, g0, g3, g4⟩ | ⟨g, _⟩
        · refine ⟨1 + 8 * q + 1, by simp only [smW4, sBd, m1, m2, huv, ↓reduceIte, hqe], by omega, by omega, ?_⟩
          rw [if_pos g2, zI1, if_pos rfl, updE, if_pos rfl]
        · refine ⟨f, by simp only [smW4, sBd, m1, m2], g0, g3, ?_⟩
          rw [if_neg (by rw [g4]; exact fnz g0 g3)]; exact g4
        · exact absurd g1 g
      · refine ⟨f, by simp only [smW4, sBd, m1], g0, g1, ?_⟩
        have q2 : s3.1 1 3 = nI f := by
          rcases D2 with ⟨g, _⟩ | ⟨g, _⟩ | ⟨_, g⟩
          · exact absurd (g2.symm.trans g) (fnz g0 g1)
          · exact absurd (g2.symm.trans g) (fnz g0 g1)
          · rw [g]; exact g2
        rw [if_neg (by rw [q2]; exact fnz g0 g1)]; exact q2
      · exact absurd e3 g
  · simp only [huv, not_false_eq_true, ↓reduceIte]
    refine tail s3 k13 b4 ?_
    rcases D1 with ⟨_, x, m1, g1, rfl, rfl⟩ | ⟨_, f, m1, g0, g1, g2⟩ | ⟨g, _⟩
    · rcases D2 with ⟨_, y, m2, g2, rfl, rfl⟩ | ⟨_, f, m2, g0, g3, g4⟩ | ⟨g, _⟩
      · exact Or.inr ⟨(nm_b hp m1).2.1, (nm_b a2 m2).2.1, g2, by simp only [smW4, sBd, m1, m2, huv, ↓reduceIte]⟩
      · exact Or.inl ⟨f, by simp only [smW4, sBd, m1, m2], g0, g3, g4⟩
      · exact absurd g1 g
    · left
      refine ⟨f, by simp only [smW4, sBd, m1], g0, g1, ?_⟩
      rcases D2 with ⟨g, _⟩ | ⟨g, _⟩ | ⟨_, g⟩
      · exact absurd (g2.symm.trans g) (fnz g0 g1)
      · exact absurd (g2.symm.trans g) (fnz g0 g1)
      · rw [g]; exact g2
    · exact absurd e3 g
theorem c_smW {P Q : Nat} {M : Nat → Int32} {w : Int32} (hQ : Q ≤ 6) (hP : P ≤ 5) (hf1 : ¬ (w = 1 ∧ 5 ≤ P)) (hf2 : ¬ (w = 2 ∧ 6 ≤ Q)) (h : tpC t n s) (hp : p ≤ n) (e : s.1 1 2 = nI p) (e3 : s.1 1 3 = 0) (hR : smR P Q M s) : rt (f_Smithy_readNumbers 79 w s) (fun x => cW t n (smW t n p w (P, Q, M)) s x) := by
  unfold smW
  by_cases w0 : w = 0
  · rw [if_pos w0, w0]; exact c_w0 h hp e e3 hR
  · rw [if_neg w0]
    by_cases w1 : w = 1
    · rw [if_pos w1, w1]; exact c_w1 (Nat.lt_of_not_le (fun q => hf1 ⟨w1, q⟩)) h hp e e3 hR
    · rw [if_neg w1]
      by_cases w2 : w = 2
      · rw [if_pos w2, w2]; exact c_w2 (Nat.lt_of_not_le (fun q => hf2 ⟨w2, q⟩)) hP h hp e e3 hR
      · rw [if_neg w2]
        by_cases w3 : w = 3
        · rw [if_pos w3, w3]; exact c_w3 hQ hP h hp e e3 hR
        · rw [if_neg w3]; exact c_w4 w0 w1 w2 w3 hQ hP h hp e e3 hR
theorem c_full {P Q : Nat} {w : Int32} (eP : s.1 79 3 = nI P) (eQ : s.1 79 4 = nI Q) (hP : P ≤ 5) (hQ : Q ≤ 6) : f_Smithy_isFull 79 w s = some (if (w = 1 ∧ 5 ≤ P) ∨ (w = 2 ∧ 6 ≤ Q) then 1 else 0, s) := by
  unfold f_Smithy_isFull
  simp (disch := omega) only [zj0, zgi, eP, eQ, show (5 : Int32) = nI 5 from rfl, show (6 : Int32) = nI 6 from rfl, nI_leI, nI_ltI]
  by_cases w1 : w = 1
  · have w2 : ¬ w = 2 := by rw [w1]; decide
    by_cases h5 : 5 ≤ P
    · rw [if_neg (fun q => q w1), if_pos h5, if_pos (Or.inl ⟨w1, h5⟩), zbl_1]
    · rw [if_neg (fun q => q w1), if_neg h5, if_pos w2, if_neg (fun q => q.elim (fun q => h5 q.2) (fun q => w2 q.1)), zbl_0]
  · rw [if_pos w1]
    by_cases w2 : w = 2
    · by_cases h6 : Q < 6
      · rw [if_neg (fun q => q w2), if_pos h6, if_neg (fun q => q.elim (fun q => w1 q.1) (fun q => absurd q.2 (by omega))), zbl_0]
      · rw [if_neg (fun q => q w2), if_neg h6, if_pos (Or.inr ⟨w2, by omega⟩), zbl_1]
    · rw [if_pos w2, if_neg (fun q => q.elim (fun q => w1 q.1) (fun q => w2 q.1)), zbl_0]
theorem c_smC {P Q c : Nat} {M : Nat → Int32} (hc : c ≤ 40) (hQ : Q ≤ 6) (hP : P ≤ 5) (h : tpC t n s) (hp : p ≤ n) (e : s.1 1 2 = nI p) (e3 : s.1 1 3 = 0) (hR : smR P Q M s) : rt (f_Smithy_readClause 79 (nI c) s) (fun x => cW t n (smC t n c p (P, Q, M)) s x) := by
  have hn4 := h.1
  obtain ⟨_, hq, _, _⟩ := sk_s (t := t) hp
  unfold f_Smithy_readClause smC
  rw [c_among h ok10 hp e, zcl_s]
  dsimp only
  generalize sk t n p = q at hq
  obtain ⟨hw1, hw2, _, _⟩ := we_s (t := t) hq
  have k1 : tK s (zsI s 1 2 (nI q)) := tK.rf.I (Or.inl rfl)
  have e1 : (zsI s 1 2 (nI q)).1 1 2 = nI q := by rw [zI1, if_pos rfl, updE, if_pos rfl]
  have f1 : (zsI s 1 2 (nI q)).1 1 3 = 0 := by rw [zI1, if_pos rfl, updE, if_neg (by omega)]; exact e3
  have h1 := h.k k1
  have wz := c_wsize h1 hq e1
  generalize zsI s 1 2 (nI q) = s1 at k1 e1 f1 h1 wz
  have hR1 : smR P Q M s1 := hR.f (fun b _ _ => k1.1 b (by omega))
  generalize wixF t q (we t n q) 0 ws10 = w
  have bad : ∀ k : Nat, k ≤ 4 → ∀ r : Sum Nat (Nat × ZA), r = .inl (1 + 8 * q + k) → rt (zgi (s1.1 1 2) (fun (v7 : Int32) => zcv (f_Tape_refuse v7 (nI k) s1) (fun (s8 : ZS) => some s8))) (fun x => cW t n r s x) := by
    intro k hk r hr
    simp only [zgi, e1]
    rw [c_refuse, if_pos f1, zcv_s]
    refine rt_s ⟨(k1.I (Or.inr rfl)).s, ⟨q, hq, by rw [zI1, if_pos rfl, updE, if_neg (by omega)]; exact e1⟩, Or.inl ⟨_, hr, by omega, by omega, by rw [zI1, if_pos rfl, updE, if_pos rfl]⟩⟩
  by_cases hwn : w = -1
  · rw [if_pos hwn, if_neg (fun x => x hwn)]
    exact bad 0 (by omega) _ rfl
  · rw [if_neg hwn, if_pos hwn]
    simp (disch := omega) only [zj0, show (40 : Int32) = nI 40 from rfl, nI_leI]
    by_cases h40 : 40 ≤ c
    · rw [if_pos h40, if_pos (Or.inl h40)]
      exact bad 4 (by omega) _ rfl
    · rw [if_neg h40]
      have good : ¬ (¬ (w = 0 ↔ c = 0)) → rt (zcl (f_Smithy_isFull 79 w s1) (fun (v16 : Int32) (s15 : ZS) => (if v16 = 0 then zcl (f_Tape_wordSize s15) (fun (v18 : Int32) (s17 : ZS) => zcv (f_Tape_pass v18 s17) (fun (s19 : ZS) => zcv (f_Smithy_readNumbers 79 w s19) (fun (s20 : ZS) => some s20))) else zgi (s15.1 1 2) (fun (v7 : Int32) => zcv (f_Tape_refuse v7 (4 : Int32) s15) (fun (s8 : ZS) => some s8))))) (fun x => cW t n (if 40 ≤ c ∨ ¬ (w = 0 ↔ c = 0) ∨ (w = 1 ∧ 5 ≤ P) ∨ (w = 2 ∧ 6 ≤ Q) then .inl (1 + 8 * q + 4) else smW t n (we t n q) w (P, Q, M)) s x) := by
        intro hwc
        rw [c_full hR1.2.2.1 hR1.2.2.2.1 hP hQ, zcl_s]
        by_cases hfu : (w = 1 ∧ 5 ≤ P) ∨ (w = 2 ∧ 6 ≤ Q)
        · simp only [hfu, ↓reduceIte, i10, or_true]
          exact bad 4 (by omega) _ rfl
        · have hnot : ¬ (40 ≤ c ∨ ¬ (w = 0 ↔ c = 0) ∨ (w = 1 ∧ 5 ≤ P) ∨ (w = 2 ∧ 6 ≤ Q)) := fun x => x.elim h40 (fun x => x.elim hwc hfu)
          rw [if_neg hnot]
          simp only [hfu, ↓reduceIte, wz, zcl_s]
          have hpz : q + (we t n q - q) = we t n q := by omega
          rw [c_pass e1 h1.2.2.1 hn4 (show q + (we t n q - q) ≤ n by omega), hpz, zcv_s]
          have k2 : tK s (zsI s1 1 2 (nI (we t n q))) := k1.I (Or.inl rfl)
          refine rt_cv (c_smW (M := M) hQ hP (fun x => hfu (Or.inl x)) (fun x => hfu (Or.inr x)) (h.k k2) hw2 (by rw [zI1, if_pos rfl, updE, if_pos rfl]) (by rw [zI1, if_pos rfl, updE, if_neg (by omega)]; exact f1) (hR.f (fun b _ _ => k2.1 b (by omega)))) ?_
          rintro s3 ⟨g1, g2, g3⟩
          exact rt_s ⟨k2.s.tr g1, g2, g3⟩
      have bad4 : ¬ (w = 0 ↔ c = 0) → rt (zgi (s1.1 1 2) (fun (v7 : Int32) => zcv (f_Tape_refuse v7 (4 : Int32) s1) (fun (s8 : ZS) => some s8))) (fun x => cW t n (if 40 ≤ c ∨ ¬ (w = 0 ↔ c = 0) ∨ (w = 1 ∧ 5 ≤ P) ∨ (w = 2 ∧ 6 ≤ Q) then .inl (1 + 8 * q + 4) else smW t n (we t n q) w (P, Q, M)) s x) := by
        intro hwc
        exact bad 4 (by omega) _ (by rw [if_pos (Or.inr (Or.inl hwc))])
      simp only [zjn]
      by_cases w0 : w = 0
      · by_cases c0 : c = 0
        · have nc : ¬ ¬ nI c = 0 := by rw [nI_eq0 (by omega)]; exact fun x => x c0
          rw [if_neg (fun x => x w0), if_neg nc, if_neg (fun x => x trivial)]
          exact good (fun x => x ⟨fun _ => c0, fun _ => w0⟩)
        · have nc : ¬ nI c = 0 := by rw [nI_eq0 (by omega)]; exact c0
          rw [if_neg (fun x => x w0), if_pos nc, if_pos (by decide)]
          exact bad4 (fun x => c0 (x.mp w0))
      · by_cases c0 : c = 0
        · have nc : ¬ ¬ nI c = 0 := by rw [nI_eq0 (by omega)]; exact fun x => x c0
          rw [if_pos w0, if_neg nc, if_pos (by decide)]
          exact bad4 (fun x => w0 (x.mpr c0))
        · have nc : ¬ nI c = 0 := by rw [nI_eq0 (by omega)]; exact c0
          rw [if_pos w0, if_pos nc, if_neg (fun x => x trivial)]
          exact good (fun x => x ⟨fun y => absurd y w0, fun y => absurd y c0⟩)
end SD
/-! what holds of what was read -/
def smI (c : Nat) (a : ZA) : Prop := a.1 ≤ 5 ∧ a.2.1 ≤ 6 ∧ a.2.2 3 = nI a.1 ∧ a.2.2 4 = nI a.2.1 ∧ (c = 0 → a.2.2 0 = 0) ∧ (0 < c → a.2.2 0 = 1 ∧ iN 1 99 (a.2.2 1) ∧ iN 1 9 (a.2.2 2))
  ∧ (∀ p, p < a.1 → iN 1 99 (a.2.2 (57 + p))) ∧ (∀ p, p < 5 → iN 0 99 (a.2.2 (62 + p)) ∧ (a.1 ≤ p → a.2.2 (62 + p) = 0)) ∧ (∀ q, q < 6 → iN 0 9 (a.2.2 (67 + q))) ∧ (∀ k, k < 30 → iN 0 20 (a.2.2 (73 + k))) ∧ (∀ p, p < 5 → iN 0 31 (a.2.2 (103 + p)))
theorem sBd_r {α β : Type} {r : Sum Nat α} {k : α → Sum Nat β} {y : β} (h : sBd r k = .inr y) : ∃ x, r = .inr x ∧ k x = .inr y := by
  cases r with
  | inl f => cases h
  | inr x => exact ⟨x, rfl, h⟩
set_option maxRecDepth 100000 in
theorem or31 {a b : Int32} (ha : iN 0 31 a) {y : Nat} (hy : y < 5) (hb : b = (1 : Int32) <<< (nI y &&& 31)) : iN 0 31 (a ||| b) := by
  obtain ⟨m, _, m2, rfl⟩ := ha
  subst hb
  have := (show ∀ m, m < 32 → ∀ y, y < 5 → ∃ k, k < 32 ∧ nI m ||| ((1 : Int32) <<< (nI y &&& 31)) = nI k by decide +kernel) m (by omega) y hy
  obtain ⟨k, k1, k2⟩ := this
  exact ⟨k, by omega, by omega, k2⟩
theorem smC_ok {t : Nat → Nat} {n c p : Nat} {a : ZA} {x : Nat × ZA} (hp : p ≤ n) (ha : smI c a) (h : smC t n c p a = .inr x) : smI (c + 1) x.2 := by
  obtain ⟨P, Q, M⟩ := a
  obtain ⟨_, hq, _, _⟩ := sk_s (t := t) hp
  obtain ⟨_, hw2, _, _⟩ := we_s (t := t) hq
  unfold smC at h
  generalize wixF t (sk t n p) (we t n (sk t n p)) 0 ws10 = w at h
  generalize we t n (sk t n p) = pw at h hw2
  split at h
  · cases h
  · split at h
    · cases h
    · next hno =>
      have hc : w = 0 ↔ c = 0 := Classical.byContradiction (fun q => hno (Or.inr (Or.inl q)))
      have hf1 : ¬ (w = 1 ∧ 5 ≤ P) := fun q => hno (Or.inr (Or.inr (Or.inl q)))
      have hf2 : ¬ (w = 2 ∧ 6 ≤ Q) := fun q => hno (Or.inr (Or.inr (Or.inr q)))
      obtain ⟨a1, a2, a3, a4, a5, a6, a7, a8, a9, a10, a11⟩ := ha
      dsimp only at a1 a2 a3 a4 a5 a6 a7 a8 a9 a10 a11
      unfold smW at h
      split at h
      · unfold smW0 at h
        obtain ⟨x1, m1, h⟩ := sBd_r h
        obtain ⟨x2, m2, h⟩ := sBd_r h
        injection h with h
        subst h
        have b1 := nm_b hw2 m1
        have b2 := nm_b b1.2.2.2 m2
        have oM : ∀ k, 3 ≤ k → upd (upd (upd M 1 (nI x1.1)) 2 (nI x2.1)) 0 1 k = M k := fun k hk => by rw [updE, if_neg (by omega), updE, if_neg (by omega), updE, if_neg (by omega)]
        refine ⟨a1, a2, (oM 3 (by omega)).trans a3, (oM 4 (by omega)).trans a4, fun q => by omega, fun _ => ⟨?_, ⟨x1.1, b1.1, by omega, ?_⟩, ⟨x2.1, b2.1, by omega, ?_⟩⟩, fun k hk => ?_, fun k hk => ?_, fun k hk => ?_, fun k hk => ?_, fun k hk => ?_⟩
        · show upd (upd (upd M 1 (nI x1.1)) 2 (nI x2.1)) 0 1 0 = 1; rw [updE, if_pos rfl]
        · show upd (upd (upd M 1 (nI x1.1)) 2 (nI x2.1)) 0 1 1 = _; rw [updE, if_neg (by omega), updE, if_neg (by omega), updE, if_pos rfl]
        · show upd (upd (upd M 1 (nI x1.1)) 2 (nI x2.1)) 0 1 2 = _; rw [updE, if_neg (by omega), updE, if_pos rfl]
        · show iN 1 99 (upd (upd (upd M 1 (nI x1.1)) 2 (nI x2.1)) 0 1 (57 + k)); rw [oM _ (by omega)]; exact a7 k hk
        · show iN 0 99 (upd (upd (upd M 1 (nI x1.1)) 2 (nI x2.1)) 0 1 (62 + k)) ∧ (_ → upd (upd (upd M 1 (nI x1.1)) 2 (nI x2.1)) 0 1 (62 + k) = 0); rw [oM _ (by omega)]; exact a8 k hk
        · show iN 0 9 (upd (upd (upd M 1 (nI x1.1)) 2 (nI x2.1)) 0 1 (67 + k)); rw [oM _ (by omega)]; exact a9 k hk
        · show iN 0 20 (upd (upd (upd M 1 (nI x1.1)) 2 (nI x2.1)) 0 1 (73 + k)); rw [oM _ (by omega)]; exact a10 k hk
        · show iN 0 31 (upd (upd (upd M 1 (nI x1.1)) 2 (nI x2.1)) 0 1 (103 + k)); rw [oM _ (by omega)]; exact a11 k hk
      · next w0 =>
        have c0 : 0 < c := Nat.pos_of_ne_zero (fun q => w0 (hc.mpr q))
        obtain ⟨d1, d2, d3⟩ := a6 c0
        split at h
        · next w1 =>
          have hP5 : P < 5 := Nat.lt_of_not_le (fun q => hf1 ⟨w1, q⟩)
          unfold smW1 at h
          obtain ⟨x1, m1, h⟩ := sBd_r h
          obtain ⟨x2, m2, h⟩ := sBd_r h
          injection h with h
          subst h
          have b1 := nm_b hw2 m1
          have b2 := nm_b b1.2.2.2 m2
          generalize hM' : upd (upd (upd M (62 + P) (nI x1.1)) (57 + P) (nI x2.1)) 3 (nI (P + 1)) = M'
          have oM : ∀ k, k ≠ 3 → k ≠ 57 + P → k ≠ 62 + P → M' k = M k := fun k h1 h2 h3 => by rw [← hM', updE, if_neg h1, updE, if_neg h2, updE, if_neg h3]
          have e62 : M' (62 + P) = nI x1.1 := by rw [← hM', updE, if_neg (by omega), updE, if_neg (by omega), updE, if_pos rfl]
          have e57 : M' (57 + P) = nI x2.1 := by rw [← hM', updE, if_neg (by omega), updE, if_pos rfl]
          have e3 : M' 3 = nI (P + 1) := by rw [← hM', updE, if_pos rfl]
          refine ⟨hP5, a2, e3, (oM 4 (by omega) (by omega) (by omega)).trans a4, fun q => by omega, fun _ => ⟨(oM 0 (by omega) (by omega) (by omega)).trans d1, by show iN 1 99 (M' 1); rw [oM 1 (by omega) (by omega) (by omega)]; exact d2, by show iN 1 9 (M' 2); rw [oM 2 (by omega) (by omega) (by omega)]; exact d3⟩, fun k hk => ?_, fun k hk => ?_, fun k hk => ?_, fun k hk => ?_, fun k hk => ?_⟩
          · have hk' : k < P + 1 := hk
            show iN 1 99 (M' (57 + k))
            by_cases ek : k = P
            · rw [ek, e57]; exact ⟨x2.1, b2.1, by omega, rfl⟩
            · rw [oM _ (by omega) (by omega) (by omega)]; exact a7 k (by omega)
          · show iN 0 99 (M' (62 + k)) ∧ (P + 1 ≤ k → M' (62 + k) = 0)
            by_cases ek : k = P
            · rw [ek, e62]; exact ⟨⟨x1.1, b1.1, by omega, rfl⟩, fun q => by omega⟩
            · rw [oM _ (by omega) (by omega) (by omega)]; exact ⟨(a8 k hk).1, fun q => (a8 k hk).2 (by omega)⟩
          · show iN 0 9 (M' (67 + k)); rw [oM _ (by omega) (by omega) (by omega)]; exact a9 k hk
          · show iN 0 20 (M' (73 + k)); rw [oM _ (by omega) (by omega) (by omega)]; exact a10 k hk
          · show iN 0 31 (M' (103 + k)); rw [oM _ (by omega) (by omega) (by omega)]; exact a11 k hk
        · split at h
          · next w2 =>
            have hQ6 : Q < 6 := Nat.lt_of_not_le (fun q => hf2 ⟨w2, q⟩)
            unfold smW2 at h
            obtain ⟨x1, m1, h⟩ := sBd_r h
            injection h with h
            subst h
            have b1 := nm_b hw2 m1
            generalize hM' : upd (upd M (67 + Q) (nI x1.1)) 4 (nI (Q + 1)) = M'
            have oM : ∀ k, k ≠ 4 → k ≠ 67 + Q → M' k = M k := fun k h1 h2 => by rw [← hM', updE, if_neg h1, updE, if_neg h2]
            have e67 : M' (67 + Q) = nI x1.1 := by rw [← hM', updE, if_neg (by omega), updE, if_pos rfl]
            have e4 : M' 4 = nI (Q + 1) := by rw [← hM', updE, if_pos rfl]
            refine ⟨a1, hQ6, (oM 3 (by omega) (by omega)).trans a3, e4, fun q => by omega, fun _ => ⟨(oM 0 (by omega) (by omega)).trans d1, by show iN 1 99 (M' 1); rw [oM 1 (by omega) (by omega)]; exact d2, by show iN 1 9 (M' 2); rw [oM 2 (by omega) (by omega)]; exact d3⟩, fun k hk => ?_, fun k hk => ?_, fun k hk => ?_, fun k hk => ?_, fun k hk => ?_⟩
            · have hk' : k < P := hk
              show iN 1 99 (M' (57 + k)); rw [oM _ (by omega) (by omega)]; exact a7 k hk
            · show iN 0 99 (M' (62 + k)) ∧ (P ≤ k → M' (62 + k) = 0); rw [oM _ (by omega) (by omega)]; exact a8 k hk
            · show iN 0 9 (M' (67 + k))
              by_cases ek : k = Q
              · rw [ek, e67]; exact ⟨x1.1, b1.1, by omega, rfl⟩
              · rw [oM _ (by omega) (by omega)]; exact a9 k hk
            · show iN 0 20 (M' (73 + k)); rw [oM _ (by omega) (by omega)]; exact a10 k hk
            · show iN 0 31 (M' (103 + k)); rw [oM _ (by omega) (by omega)]; exact a11 k hk
          · split at h
            · unfold smW3 at h
              obtain ⟨x1, m1, h⟩ := sBd_r h
              obtain ⟨x2, m2, h⟩ := sBd_r h
              obtain ⟨x3, m3, h⟩ := sBd_r h
              injection h with h
              subst h
              have b1 := nm_b hw2 m1
              have b2 := nm_b b1.2.2.2 m2
              have b3 := nm_b b2.2.2.2 m3
              dsimp only at b1 b2 b3
              generalize hM' : upd M (73 + 6 * x1.1 + x2.1) (nI x3.1) = M'
              have oM : ∀ k, k ≠ 73 + 6 * x1.1 + x2.1 → M' k = M k := fun k h1 => by rw [← hM', updE, if_neg h1]
              have e73 : M' (73 + 6 * x1.1 + x2.1) = nI x3.1 := by rw [← hM', updE, if_pos rfl]
              refine ⟨a1, a2, (oM 3 (by omega)).trans a3, (oM 4 (by omega)).trans a4, fun q => by omega, fun _ => ⟨(oM 0 (by omega)).trans d1, by show iN 1 99 (M' 1); rw [oM 1 (by omega)]; exact d2, by show iN 1 9 (M' 2); rw [oM 2 (by omega)]; exact d3⟩, fun k hk => ?_, fun k hk => ?_, fun k hk => ?_, fun k hk => ?_, fun k hk => ?_⟩
              · have hk' : k < P := hk
                show iN 1 99 (M' (57 + k)); rw [oM _ (by omega)]; exact a7 k hk
              · show iN 0 99 (M' (62 + k)) ∧ (P ≤ k → M' (62 + k) = 0); rw [oM _ (by omega)]; exact a8 k hk
              · show iN 0 9 (M' (67 + k)); rw [oM _ (by omega)]; exact a9 k hk
              · show iN 0 20 (M' (73 + k))
                by_cases ek : 73 + k = 73 + 6 * x1.1 + x2.1
                · rw [ek, e73]; exact ⟨x3.1, b3.1, by omega, rfl⟩
                · rw [oM _ ek]; exact a10 k hk
              · show iN 0 31 (M' (103 + k)); rw [oM _ (by omega)]; exact a11 k hk
            · unfold smW4 at h
              obtain ⟨x1, m1, h⟩ := sBd_r h
              obtain ⟨x2, m2, h⟩ := sBd_r h
              split at h
              · cases h
              · injection h with h
                subst h
                have b1 := nm_b hw2 m1
                have b2 := nm_b b1.2.2.2 m2
                dsimp only at b1 b2
                have oM : ∀ k, k < 103 → smN M x1.1 x2.1 k = M k := fun k h1 => by unfold smN; rw [updE, if_neg (by omega), updE, if_neg (by omega)]
                refine ⟨a1, a2, (oM 3 (by omega)).trans a3, (oM 4 (by omega)).trans a4, fun q => by omega, fun _ => ⟨(oM 0 (by omega)).trans d1, by show iN 1 99 (smN M x1.1 x2.1 1); rw [oM 1 (by omega)]; exact d2, by show iN 1 9 (smN M x1.1 x2.1 2); rw [oM 2 (by omega)]; exact d3⟩, fun k hk => ?_, fun k hk => ?_, fun k hk => ?_, fun k hk => ?_, fun k hk => ?_⟩
                · have hk' : k < P := hk
                  show iN 1 99 (smN M x1.1 x2.1 (57 + k)); rw [oM _ (by omega)]; exact a7 k hk
                · show iN 0 99 (smN M x1.1 x2.1 (62 + k)) ∧ (P ≤ k → smN M x1.1 x2.1 (62 + k) = 0); rw [oM _ (by omega)]; exact a8 k hk
                · show iN 0 9 (smN M x1.1 x2.1 (67 + k)); rw [oM _ (by omega)]; exact a9 k hk
                · show iN 0 20 (smN M x1.1 x2.1 (73 + k)); rw [oM _ (by omega)]; exact a10 k hk
                · show iN 0 31 (smN M x1.1 x2.1 (103 + k))
                  have hA : iN 0 31 (M (103 + x1.1) ||| ((1 : Int32) <<< (nI x2.1 &&& 31))) := or31 (a11 x1.1 (by omega)) (y := x2.1) (by omega) rfl
                  have hU : ∀ j, j < 5 → iN 0 31 (upd M (103 + x1.1) (M (103 + x1.1) ||| ((1 : Int32) <<< (nI x2.1 &&& 31))) (103 + j)) := fun j hj => by
                    rw [updE]
                    split
                    · exact hA
                    · exact a11 j hj
                  unfold smN
                  rw [updE]
                  split
                  · exact or31 (hU x2.1 (by omega)) (y := x1.1) (by omega) rfl
                  · exact hU k hk
