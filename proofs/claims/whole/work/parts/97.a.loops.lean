/-! Clause by clause. -/
def lsF {α : Type} (t : Nat → Nat) (n : Nat) (CS : Nat → Nat → α → Sum Nat (Nat × α)) : Nat → Nat → Nat → α → Sum Nat α
  | 0, _, _, _ => .inl 0
  | f + 1, c, p, st => match CS c p st with
    | .inl e => .inl e
    | .inr x => if sk t n x.1 < n then (if t (sk t n x.1) = 59 then lsF t n CS f (c + 1) (sk t n x.1 + 1) x.2 else .inl (1 + 8 * sk t n x.1)) else .inr x.2
theorem lsF_l {α : Type} {t : Nat → Nat} {n : Nat} {CS : Nat → Nat → α → Sum Nat (Nat × α)} {f c p e : Nat} {st : α} (h : CS c p st = .inl e) : lsF t n CS (f + 1) c p st = .inl e := by
  show (match CS c p st with
    | .inl e => (.inl e : Sum Nat α)
    | .inr x => if sk t n x.1 < n then (if t (sk t n x.1) = 59 then lsF t n CS f (c + 1) (sk t n x.1 + 1) x.2 else .inl (1 + 8 * sk t n x.1)) else .inr x.2) = _
  rw [h]
theorem lsF_r {α : Type} {t : Nat → Nat} {n : Nat} {CS : Nat → Nat → α → Sum Nat (Nat × α)} {f c p : Nat} {st : α} {x : Nat × α} (h : CS c p st = .inr x) : lsF t n CS (f + 1) c p st = if sk t n x.1 < n then (if t (sk t n x.1) = 59 then lsF t n CS f (c + 1) (sk t n x.1 + 1) x.2 else .inl (1 + 8 * sk t n x.1)) else .inr x.2 := by
  show (match CS c p st with
    | .inl e => (.inl e : Sum Nat α)
    | .inr x => if sk t n x.1 < n then (if t (sk t n x.1) = 59 then lsF t n CS f (c + 1) (sk t n x.1 + 1) x.2 else .inl (1 + 8 * sk t n x.1)) else .inr x.2) = _
  rw [h]
theorem c_pass {s : ZS} {n p m : Nat} (e : s.1 1 2 = nI p) (e1 : s.1 1 1 = nI n) (hn : n ≤ 400) (h : p + m ≤ n) : f_Tape_pass (nI m) s = some (zsI s 1 2 (nI (p + m))) := by
  unfold f_Tape_pass
  simp only [zgi, e, e1, nI_add, zwi]
  rw [if_neg (nI_nlt h (by omega))]
theorem c_goes {t : Nat → Nat} {n p : Nat} {s : ZS} (h : tpC t n s) (hp : p ≤ n) (e : s.1 1 2 = nI p) : rt (f_Tape_goesOn s) (fun w => tK s w.2 ∧ (¬ s.1 1 3 = 0 ∧ w.1 = 0 ∧ w.2.1 1 3 = s.1 1 3 ∨ s.1 1 3 = 0 ∧ (n ≤ sk t n p ∧ w.1 = 0 ∧ w.2.1 1 3 = 0 ∨ sk t n p < n ∧ (t (sk t n p) = 59 ∧ w.1 = 1 ∧ w.2.1 1 3 = 0 ∧ w.2.1 1 2 = nI (sk t n p + 1) ∨ ¬ t (sk t n p) = 59 ∧ w.1 = 0 ∧ w.2.1 1 3 = nI (1 + 8 * sk t n p))))) := by
  have nx := c_next h hp e
  obtain ⟨_, hq, _, _⟩ := sk_s (t := t) hp
  have hn4 := h.1
  have h2 := h.2.1
  generalize sk t n p = q at nx hq
  have k1 : tK s (zsI s 1 2 (nI q)) := tK.rf.I (Or.inl rfl)
  have e' : (zsI s 1 2 (nI q)).1 1 2 = nI q := by rw [zI1, if_pos rfl, updE, if_pos rfl]
  have e1 : (zsI s 1 2 (nI q)).1 1 1 = nI n := by rw [zI1, if_pos rfl, updE, if_neg (by omega)]; exact h.2.2.1
  have e3 : (zsI s 1 2 (nI q)).1 1 3 = s.1 1 3 := by rw [zI1, if_pos rfl, updE, if_neg (by omega)]
  generalize zsI s 1 2 (nI q) = s1 at nx k1 e' e1 e3
  unfold f_Tape_goesOn
  rw [nx, zcl_s]
  simp only [zgi, e3, e']
  by_cases hf : s.1 1 3 = 0
  · simp only [hf, not_true_eq_false, ↓reduceIte]
    by_cases hn : q < n
    · have hs : sgn t n q = nI (t q) := if_pos hn
      have hb := h2 q
      rw [hs]
      simp (disch := omega) only [nI_n1, not_false_eq_true, ↓reduceIte, show (59 : Int32) = nI 59 from rfl, nI_inj]
      by_cases h59 : t q = 59
      · rw [if_pos h59, show (1 : Int32) = nI 1 from rfl, c_pass e' e1 hn4 (show q + 1 ≤ n by omega), zcv_s]
        rw [show nI 1 = (1 : Int32) from rfl, zbl_1]
        exact rt_s ⟨k1.I (Or.inl rfl), Or.inr ⟨trivial, Or.inr ⟨hn, Or.inl ⟨h59, rfl, by rw [zI1, if_pos rfl, updE, if_neg (by omega), e3, hf], by rw [zI1, if_pos rfl, updE, if_pos rfl]⟩⟩⟩⟩
      · rw [if_neg h59, show (0 : Int32) = nI 0 from rfl, c_refuse, if_pos (e3.trans hf), zcv_s]
        rw [show nI 0 = (0 : Int32) from rfl, zbl_0]
        exact rt_s ⟨k1.I (Or.inr rfl), Or.inr ⟨trivial, Or.inr ⟨hn, Or.inr ⟨h59, rfl, by rw [zI1, if_pos rfl, updE, if_pos rfl]; rfl⟩⟩⟩⟩
    · have hs : sgn t n q = -1 := if_neg hn
      rw [hs]
      simp only [not_true_eq_false, ↓reduceIte, zbl_0]
      exact rt_s ⟨k1, Or.inr ⟨trivial, Or.inl ⟨by omega, rfl, e3.trans hf⟩⟩⟩
  · simp only [hf, not_false_eq_true, ↓reduceIte, zbl_0]
    exact rt_s ⟨k1, Or.inl ⟨trivial, rfl, e3⟩⟩
section GL
variable {α R : Type} {t : Nat → Nat} {n : Nat} {CS : Nat → Nat → α → Sum Nat (Nat × α)}
theorem c_loop {F : Int32 → ZS → Option ZS} {LIM : Nat} {k : ZS → Option R} {B : Int32 × Int32 → ZS → (Int32 × Int32 → ZS → Option R) → Option R} {OK : Nat → Nat → α → Prop} {Rl : α → ZS → Prop} {RF : ZS → Prop} {Z : Option R → Prop} {st0 : α} {s : ZS}
    (hB : ∀ a s g, B a s g = if a.1 = 0 then k s else if nI LIM < a.2 then k s else zcv (F a.2 s) (fun s14 => zcl (f_Tape_goesOn s14) (fun v16 s15 => g (v16, a.2 + (1 : Int32)) s15)))
    (hLIM : LIM ≤ 100) (hmo : ∀ c p p' st, OK c p st → p ≤ p' → OK c p' st) (hl : ∀ st s s', tK s s' → Rl st s → Rl st s') (hf : ∀ s s', tK s s' → RF s → RF s') (hlf : ∀ st s, Rl st s → RF s)
    (hF : ∀ c p st s, c ≤ LIM → tpC t n s → p ≤ n → s.1 1 2 = nI p → s.1 1 3 = 0 → OK c p st → Rl st s → rt (F (nI c) s) (fun w => tpC t n w ∧ (∃ p', p' ≤ n ∧ w.1 1 2 = nI p') ∧ ((∃ f, CS c p st = .inl f ∧ 0 < f ∧ f < 100000 ∧ w.1 1 3 = nI f ∧ RF w) ∨ ∃ x, CS c p st = .inr x ∧ x.1 ≤ n ∧ w.1 1 2 = nI x.1 ∧ w.1 1 3 = 0 ∧ OK (c + 1) x.1 x.2 ∧ Rl x.2 w)))
    (hcap : ∀ p st, ∃ f, CS LIM p st = .inl f) (hn : n ≤ 400) (h0 : tpC t n s) (e2 : s.1 1 2 = nI 0) (e3 : s.1 1 3 = 0) (hok : OK 0 0 st0) (hr : Rl st0 s)
    (hk : ∀ s', tpC t n s' → ((∃ f, lsF t n CS (LIM + 1) 0 0 st0 = .inl f ∧ 0 < f ∧ f < 100000 ∧ s'.1 1 3 = nI f ∧ RF s') ∨ ∃ c p st, lsF t n CS (LIM + 1) 0 0 st0 = .inr st ∧ s'.1 1 3 = 0 ∧ OK (c + 1) p st ∧ Rl st s') → Z (k s')) : Z (zlp zN B ((1 : Int32), (0 : Int32)) s) := by
  refine lp_go (n := LIM + 1) (fun c a s1 => a.2 = nI c ∧ tpC t n s1 ∧ (a.1 = 1 ∧ c ≤ LIM ∧ (∃ p st, p ≤ n ∧ s1.1 1 2 = nI p ∧ s1.1 1 3 = 0 ∧ OK c p st ∧ Rl st s1 ∧ lsF t n CS (LIM + 1 - c) c p st = lsF t n CS (LIM + 1) 0 0 st0) ∨ a.1 = 0 ∧ ((∃ f, lsF t n CS (LIM + 1) 0 0 st0 = .inl f ∧ 0 < f ∧ f < 100000 ∧ s1.1 1 3 = nI f ∧ RF s1) ∨ ∃ c p st, lsF t n CS (LIM + 1) 0 0 st0 = .inr st ∧ s1.1 1 3 = 0 ∧ OK (c + 1) p st ∧ Rl st s1))) Z (by omega) ⟨rfl, h0, Or.inl ⟨rfl, Nat.zero_le _, 0, st0, Nat.zero_le _, e2, e3, hok, hr, rfl⟩⟩ ?_ ?_
  · rintro c ⟨x1, x2⟩ s1 g hc ⟨q1, q2, q3⟩
    dsimp only at q1 q3
    subst q1
    rw [hB]
    dsimp only
    rcases q3 with ⟨rfl, hcl, p, st, hp, p1, p2, p3, p4, p5⟩ | ⟨rfl, hd⟩
    · left
      have a1 : ¬ nI LIM < nI c := nI_nlt hcl (by omega)
      rw [if_neg (show ¬ (1 : Int32) = 0 by decide), if_neg a1]
      obtain ⟨s2, r2, t2, ⟨p', hp', pe⟩, hh⟩ := hF c p st s1 hcl q2 hp p1 p2 p3 p4
      obtain ⟨⟨v, s3⟩, r3, k3, hg⟩ := c_goes t2 hp' pe
      dsimp only at k3 hg
      rw [r2, zcv_s, r3, zcl_s]
      have t3 := t2.k k3
      have ef : LIM + 1 - c = (LIM - c) + 1 := by omega
      rcases hh with ⟨f, hcs, f0, f1, f2, f3⟩ | ⟨x, hcs, x1, x2, x3, x4, x5⟩
      · have hnz : ¬ s2.1 1 3 = 0 := by rw [f2, nI_eq0 (by omega)]; omega
        have hr : lsF t n CS (LIM + 1) 0 0 st0 = .inl f := by rw [← p5, ef]; exact lsF_l hcs
        rcases hg with ⟨_, rfl, g2⟩ | ⟨g1, _⟩
        · exact ⟨_, _, rfl, nI_1 c, t3, Or.inr ⟨rfl, Or.inl ⟨f, hr, f0, f1, by rw [g2, f2], hf _ _ k3 f3⟩⟩⟩
        · exact absurd g1 hnz
      · rw [x2] at pe
        have hpx : p' = x.1 := by
          have hi := nI_inj (a := x.1) (b := p') (by omega) (by omega)
          rw [hi] at pe
          exact pe.symm
        subst hpx
        have hr := lsF_r (t := t) (n := n) (f := LIM - c) hcs
        rw [← ef, p5] at hr
        rcases hg with ⟨g1, _⟩ | ⟨_, hg⟩
        · exact absurd x3 g1
        · rcases hg with ⟨g1, rfl, g2⟩ | ⟨g1, hg⟩
          · rw [if_neg (by omega)] at hr
            exact ⟨_, _, rfl, nI_1 c, t3, Or.inr ⟨rfl, Or.inr ⟨c, x.1, x.2, hr, g2, x4, hl _ _ _ k3 x5⟩⟩⟩
          · rw [if_pos g1] at hr
            rcases hg with ⟨g2, rfl, g3, g4⟩ | ⟨g2, rfl, g3⟩
            · rw [if_pos g2] at hr
              have hcl2 : c + 1 ≤ LIM := by
                refine Nat.lt_of_le_of_ne hcl (fun e => ?_)
                subst e
                obtain ⟨f, hcc⟩ := hcap p st
                rw [hcs] at hcc; cases hcc
              refine ⟨_, _, rfl, nI_1 c, t3, Or.inl ⟨rfl, hcl2, sk t n x.1 + 1, x.2, by omega, g4, g3, hmo _ _ _ _ x4 (by have := (sk_s (t := t) x1).1; omega), hl _ _ _ k3 x5, ?_⟩⟩
              rw [hr, show LIM + 1 - (c + 1) = LIM - c by omega]
            · rw [if_neg g2] at hr
              exact ⟨_, _, rfl, nI_1 c, t3, Or.inr ⟨rfl, Or.inl ⟨_, hr, by omega, by omega, g3, hf _ _ k3 (hlf _ _ x5)⟩⟩⟩
    · right
      rw [if_pos rfl]
      exact hk s1 q2 hd
  · rintro ⟨x1, x2⟩ s1 g ⟨q1, q2, q3⟩
    dsimp only at q1 q3
    rcases q3 with ⟨_, hcl, _⟩ | ⟨rfl, hd⟩
    · omega
    · rw [hB]
      dsimp only
      rw [if_pos rfl]
      exact hk s1 q2 hd
theorem m_loop {LIM : Nat} {RM : Nat → Nat → α → ZS → Prop} {RF : ZS → Prop} {st0 : α} {s : ZS}
    (hLIM : LIM ≤ 100) (hl : ∀ c p p' st s v, RM c p st s → p ≤ p' → RM c p' st (zsI s 216 8 v)) (hf : ∀ s j v, j = 1 ∨ j = 9 → RF s → RF (zsI s 216 j v)) (hlf : ∀ c p st s, RM c p st s → RF s)
    (hF : ∀ c p st s, c ≤ LIM → tpM t n s → p ≤ n → s.1 216 8 = nI p → s.1 216 9 = 0 → RM c p st s → rt (f_Model_clauseHere s) (fun w => tpM t n w.2 ∧ ((∃ f, CS c p st = .inl f ∧ w.1 = 0 ∧ 0 < f ∧ f < 100000 ∧ w.2.1 216 9 = nI f ∧ RF w.2) ∨ ∃ x, CS c p st = .inr x ∧ w.1 = 1 ∧ x.1 ≤ n ∧ w.2.1 216 8 = nI x.1 ∧ w.2.1 216 9 = 0 ∧ RM (c + 1) x.1 x.2 w.2)))
    (hcap : ∀ p st, ∃ f, CS LIM p st = .inl f) (hn : n ≤ 400) {T : Nat} (hT : T < 7) (e11 : s.1 216 11 = nI T) (h0 : tpM t n s)
    (hr : RM 0 0 st0 (zsI (zsI (zsI (zsI (zsI s 219 T 0) 216 14 0) 216 8 0) 216 9 0) 216 12 0)) :
    rt (f_Model_readsAll s) (fun w => ∃ s1, w.2 = zsI s1 216 1 0 ∧ tpM t n s1 ∧ ((∃ f, lsF t n CS (LIM + 1) 0 0 st0 = .inl f ∧ w.1 = 0 ∧ 0 < f ∧ f < 100000 ∧ s1.1 216 9 = nI f ∧ RF s1) ∨ ∃ c p st, lsF t n CS (LIM + 1) 0 0 st0 = .inr st ∧ w.1 = 1 ∧ s1.1 216 9 = 0 ∧ RM (c + 1) p st s1)) := by
  unfold f_Model_readsAll
  simp (disch := omega) only [zgi, e11, zwa_n, zwi]
  have t1 : tpM t n (zsI (zsI (zsI (zsI (zsI s 219 T 0) 216 14 0) 216 8 0) 216 9 0) 216 12 0) := by
    refine ⟨h0.1, h0.2.1, ?_, fun k => ?_⟩
    · rw [zI1, if_pos rfl, updE, if_neg (by omega), zI1, if_pos rfl, updE, if_neg (by omega), zI1, if_pos rfl, updE, if_neg (by omega), zI1, if_pos rfl, updE, if_neg (by omega), zI1, if_neg (by omega)]; exact h0.2.2.1
    · rw [zI1, if_neg (by omega), zI1, if_neg (by omega), zI1, if_neg (by omega), zI1, if_neg (by omega), zI1, if_neg (by omega)]; exact h0.2.2.2 k
  have a8 : (zsI (zsI (zsI (zsI (zsI s 219 T 0) 216 14 0) 216 8 0) 216 9 0) 216 12 0).1 216 8 = nI 0 := by
    rw [zI1, if_pos rfl, updE, if_neg (by omega), zI1, if_pos rfl, updE, if_neg (by omega), zI1, if_pos rfl, updE, if_pos rfl]; rfl
  have a9 : (zsI (zsI (zsI (zsI (zsI s 219 T 0) 216 14 0) 216 8 0) 216 9 0) 216 12 0).1 216 9 = 0 := by
    rw [zI1, if_pos rfl, updE, if_neg (by omega), zI1, if_pos rfl, updE, if_pos rfl]
  generalize zsI (zsI (zsI (zsI (zsI s 219 T 0) 216 14 0) 216 8 0) 216 9 0) 216 12 0 = s0 at hr t1 a8 a9
  simp only [zjn]
  obtain ⟨⟨v, s2⟩, r2, t2, hh⟩ := hF 0 0 st0 s0 (Nat.zero_le _) t1 (Nat.zero_le _) a8 a9 hr
  dsimp only at t2 hh
  rw [r2, zcl_s]
  dsimp only
  -- the end of the text
  have fin : ∀ (g : Int32) (s9 : ZS), tpM t n s9 → (g = 0 ∧ (∃ f, lsF t n CS (LIM + 1) 0 0 st0 = .inl f ∧ 0 < f ∧ f < 100000 ∧ s9.1 216 9 = nI f ∧ RF s9) ∨ g = 1 ∧ (∃ c p st, p ≤ n ∧ s9.1 216 8 = nI p ∧ sk t n p = p ∧ s9.1 216 9 = 0 ∧ RM (c + 1) p st s9 ∧ ¬ sgn t n p = 59 ∧ lsF t n CS (LIM + 1) 0 0 st0 = if p < n then .inl (1 + 8 * p) else .inr st)) →
      rt (zj0 (fun (s12 : ZS) => zwi s12 216 1 (0 : Int32) (fun (s14 : ZS) => zgi (s14.1 216 9) (fun (v15 : Int32) => (if ¬ v15 = 0 then zbl (0 : Int32) s14 else zbl (1 : Int32) s14)))) (fun (k13 : ZS → Option (Int32 × ZS)) => (if g = 0 then k13 s9 else zcl (f_Model_see s9) (fun (v17 : Int32) (s16 : ZS) => (if v17 = (-1 : Int32) then k13 s16 else zgi (s16.1 216 8) (fun (v18 : Int32) => zcl (f_Model_fails (0 : Int32) v18 s16) (fun (v20 : Int32) (s19 : ZS) => k13 s19))))))) (fun w => ∃ s1, w.2 = zsI s1 216 1 0 ∧ tpM t n s1 ∧ ((∃ f, lsF t n CS (LIM + 1) 0 0 st0 = .inl f ∧ w.1 = 0 ∧ 0 < f ∧ f < 100000 ∧ s1.1 216 9 = nI f ∧ RF s1) ∨ ∃ c p st, lsF t n CS (LIM + 1) 0 0 st0 = .inr st ∧ w.1 = 1 ∧ s1.1 216 9 = 0 ∧ RM (c + 1) p st s1)) := by
    rintro g s9 t9 (⟨rfl, f, f1, f2, f3, f4, f5⟩ | ⟨rfl, c, p, st, hp, p1, p2, p3, p4, p5, p6⟩)
    · have hnz : ¬ (zsI s9 216 1 0).1 216 9 = 0 := by rw [zI1, if_pos rfl, updE, if_neg (by omega), f4, nI_eq0 (by omega)]; omega
      simp only [zj0, ↓reduceIte, zwi, zgi, hnz, not_false_eq_true, zbl_0]
      exact rt_s ⟨s9, rfl, t9, Or.inl ⟨f, f1, rfl, f2, f3, f4, f5⟩⟩
    · have nx := m_next t9 hp p1
      rw [p2, zsI_self p1] at nx
      have hz : (zsI s9 216 1 0).1 216 9 = 0 := by rw [zI1, if_pos rfl, updE, if_neg (by omega)]; exact p3
      simp only [zj0, i10, ↓reduceIte, nx, zcl_s, zgi, p1]
      by_cases hpn : p < n
      · have hs : sgn t n p = nI (t p) := if_pos hpn
        have hb := t9.2.1 p
        have hne : ¬ nI (t p) = -1 := by rw [nI_n1 (by omega)]; exact fun h => h
        rw [if_pos hpn] at p6
        rw [hs, if_neg hne, show (0 : Int32) = nI 0 from rfl, m_fails p3, zcl_s]
        have hf9 : (zsI s9 216 9 (nI (1 + 8 * p + 0))).1 216 9 = nI (1 + 8 * p) := by rw [zI1, if_pos rfl, updE, if_pos rfl]; rfl
        have tx : tpM t n (zsI s9 216 9 (nI (1 + 8 * p + 0))) := t9.k (mK.rf.I (by omega))
        have rf2 : RF (zsI s9 216 9 (nI (1 + 8 * p + 0))) := hf _ _ _ (Or.inr rfl) (hlf _ _ _ _ p4)
        dsimp only
        generalize zsI s9 216 9 (nI (1 + 8 * p + 0)) = s8 at hf9 tx rf2
        have hnz : ¬ (zsI s8 216 1 (nI 0)).1 216 9 = nI 0 := by rw [zI1, if_pos rfl, updE, if_neg (by omega), hf9, nI_inj (by omega) (by omega)]; omega
        simp only [zwi, hnz, not_false_eq_true, ↓reduceIte]
        rw [show nI 0 = (0 : Int32) from rfl, zbl_0]
        exact rt_s ⟨s8, rfl, tx, Or.inl ⟨_, p6, rfl, by omega, by omega, hf9, rf2⟩⟩
      · have hs : sgn t n p = -1 := if_neg hpn
        rw [if_neg hpn] at p6
        rw [hs, if_pos rfl]
        simp only [zwi, hz, not_true_eq_false, ↓reduceIte, zbl_1]
        exact rt_s ⟨s9, rfl, t9, Or.inr ⟨c, p, st, p6, rfl, p3, p4⟩⟩
  -- what a clause leaves, as the loop's state
  refine lp_rt (LIM + 1) (fun c a s1 => tpM t n s1 ∧ (a = 0 ∧ (∃ f, lsF t n CS (LIM + 1) 0 0 st0 = .inl f ∧ 0 < f ∧ f < 100000 ∧ s1.1 216 9 = nI f ∧ RF s1) ∨ a = 1 ∧ c + 1 ≤ LIM ∧ ∃ p st, p ≤ n ∧ s1.1 216 8 = nI p ∧ s1.1 216 9 = 0 ∧ RM (c + 1) p st s1 ∧ lsF t n CS (LIM + 1) 0 0 st0 = if sk t n p < n then (if t (sk t n p) = 59 then lsF t n CS (LIM - c) (c + 1) (sk t n p + 1) st else .inl (1 + 8 * sk t n p)) else .inr st)) (by omega) ⟨t2, ?_⟩ ?_ ?_
  · rcases hh with ⟨f, c1, rfl, f1, f2, f3, f4⟩ | ⟨x, c1, rfl, x1, x2, x3, x4⟩
    · exact Or.inl ⟨rfl, f, lsF_l c1, f1, f2, f3, f4⟩
    · refine Or.inr ⟨rfl, ?_, x.1, x.2, x1, x2, x3, x4, ?_⟩
      · refine Nat.pos_of_ne_zero (fun e => ?_)
        subst e
        obtain ⟨f, hcc⟩ := hcap 0 st0
        rw [c1] at hcc; cases hcc
      · rw [lsF_r c1]; rfl
  · rintro c a s1 g hc ⟨q2, q3⟩
    unfold f_Model_readsAll_B35
    rcases q3 with ⟨rfl, hd⟩ | ⟨rfl, hcl, p, st, hp, p1, p2, p3, p4⟩
    · right
      rw [if_pos rfl]
      exact fin 0 s1 q2 (Or.inl ⟨rfl, hd⟩)
    · rw [if_neg (show ¬ (1 : Int32) = 0 by decide), m_next q2 hp p1, zcl_s]
      obtain ⟨hpq, hq, _, _⟩ := sk_s (t := t) hp
      have hqq := sk_sk (t := t) hp
      dsimp only
      generalize sk t n p = q at hpq hq hqq p4
      have e8 : (zsI s1 216 8 (nI q)).1 216 8 = nI q := by rw [zI1, if_pos rfl, updE, if_pos rfl]
      have e9 : (zsI s1 216 8 (nI q)).1 216 9 = 0 := by rw [zI1, if_pos rfl, updE, if_neg (by omega)]; exact p2
      have t4 : tpM t n (zsI s1 216 8 (nI q)) := q2.k (mK.rf.I (by omega))
      have m4 := hl _ _ _ _ _ (nI q) p3 hpq
      by_cases h59 : sgn t n q = 59
      · left
        have hqn : q < n := by
          refine Nat.lt_of_not_le (fun hle => ?_)
          rw [show sgn t n q = -1 from if_neg (by omega)] at h59
          exact absurd h59 (by decide)
        have ht59 : t q = 59 := by
          have hb := q2.2.1 q
          rw [show sgn t n q = nI (t q) from if_pos hqn, show (59 : Int32) = nI 59 from rfl, nI_inj (by omega) (by omega)] at h59
          exact h59
        rw [if_pos hqn, if_pos ht59] at p4
        rw [if_neg (fun e => e h59)]
        simp only [zgi, e8, zwi, zsI_2, nI_1]
        obtain ⟨⟨v5, s5⟩, r5, t5', hh5⟩ := hF (c + 1) (q + 1) st (zsI s1 216 8 (nI (q + 1))) hcl (q2.k (mK.rf.I (by omega))) (by omega) (by rw [zI1, if_pos rfl, updE, if_pos rfl]) (by rw [zI1, if_pos rfl, updE, if_neg (by omega)]; exact p2) (hl _ _ _ _ _ _ p3 (by omega))
        dsimp only at t5' hh5
        rw [r5, zcl_s]
        have ef : LIM - c = (LIM - (c + 1)) + 1 := by omega
        rw [ef] at p4
        refine ⟨_, _, rfl, t5', ?_⟩
        rcases hh5 with ⟨f, c1, rfl, f1, f2, f3, f4⟩ | ⟨x, c1, rfl, x1, x2, x3, x4⟩
        · exact Or.inl ⟨rfl, f, by rw [p4, lsF_l c1], f1, f2, f3, f4⟩
        · refine Or.inr ⟨rfl, ?_, x.1, x.2, x1, x2, x3, x4, ?_⟩
          · refine Nat.lt_of_le_of_ne hcl (fun e => ?_)
            rw [e] at c1
            obtain ⟨f, hcc⟩ := hcap (q + 1) st
            rw [c1] at hcc; cases hcc
          · rw [p4, lsF_r c1]
      · right
        rw [if_pos h59]
        refine fin 1 _ t4 (Or.inr ⟨rfl, c, q, st, hq, e8, hqq, e9, m4, h59, ?_⟩)
        rw [p4]
        by_cases hqn : q < n
        · have ht59 : ¬ t q = 59 := fun e => h59 (by rw [show sgn t n q = nI (t q) from if_pos hqn, e]; rfl)
          rw [if_pos hqn, if_pos hqn, if_neg ht59]
        · rw [if_neg hqn, if_neg hqn]
  · rintro a s1 g ⟨q2, q3⟩
    rcases q3 with ⟨rfl, hd⟩ | ⟨_, hcl, _⟩
    · unfold f_Model_readsAll_B35
      rw [if_pos rfl]
      exact fin 0 s1 q2 (Or.inl ⟨rfl, hd⟩)
    · omega
end GL
