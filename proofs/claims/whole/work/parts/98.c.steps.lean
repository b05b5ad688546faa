/-! rule: the class's steps. -/
theorem wix11 (t : Nat → Nat) (q e : Nat) : wixF t q e 0 ws11 = if isW t q e [115, 97, 121] then 0 else -1 := rfl
theorem wix13 (t : Nat → Nat) (q e : Nat) : wixF t q e 0 ws13 = if isW t q e [110, 111, 116] then 0 else -1 := rfl
theorem wix14 (t : Nat → Nat) (q e : Nat) : wixF t q e 0 ws14 = if isW t q e [105, 102] then 0 else -1 := rfl
theorem wix15 (t : Nat → Nat) (q e : Nat) : wixF t q e 0 ws15 = if isW t q e [111, 114] then 0 else if isW t q e [97, 110, 100] then 1 else -1 := rfl
def CR (o : Nat) (c : ZG) (s : ZS) : Prop := s.1 1 2 = nI c.1 ∧ s.1 1 3 = 0 ∧ CW o c.2.1 c.2.2.1 c.2.2.2.2.2 s ∧ s.1 98 5 = nI c.2.2.2.1 ∧ s.1 98 6 = nI c.2.2.2.2.1
def cG (o n : Nat) (r : Sum Nat ZG) (s w : ZS) : Prop := kR o s w ∧ ((∃ f, r = .inl f ∧ 0 < f ∧ f < 100000 ∧ w.1 1 3 = nI f ∧ (∃ p', p' ≤ n ∧ w.1 1 2 = nI p') ∧ ∃ L, L ≤ 400 ∧ w.1 o 1 = nI L) ∨ ∃ c, r = .inr c ∧ CR o c w)
theorem cG.tr {o n : Nat} {r : Sum Nat ZG} {s s1 w : ZS} (h : kR o s s1) (h2 : cG o n r s1 w) : cG o n r s w := ⟨h.tr h2.1, h2.2⟩
theorem rls_len {b : Nat} : ∀ (W : List Nat) (o : List ZQo), (rls b W o).1.length ≤ W.length := by
  intro W
  induction W with
  | nil => intro o; exact Nat.le_refl _
  | cons k W ih =>
    intro o
    by_cases hk : b ≤ bnd k
    · rw [show rls b (k :: W) o = rls b W ((k, 0) :: o) from if_pos hk]
      exact Nat.le_trans (ih _) (Nat.le_succ _)
    · rw [show rls b (k :: W) o = (k :: W, o) from if_neg hk]
      exact Nat.le_refl _
section RS
variable {t : Nat → Nat} {n q o parts sm : Nat} {W : List Nat} {ro : List ZQo} {s : ZS}
theorem c_cnt (e4 : s.1 98 4 = nI parts) (hp : parts ≤ 60) : rt (f_Reader_countPart (nI q) s) (fun w => (∀ b, b ≠ 1 → b ≠ 98 → w.1 b = s.1 b) ∧ (∀ j, j ≠ 4 → w.1 98 j = s.1 98 j) ∧ w.1 98 4 = nI (parts + 1) ∧ (∀ j, j ≠ 3 → w.1 1 j = s.1 1 j) ∧ w.2 = s.2 ∧ w.1 1 3 = if s.1 1 3 = 0 ∧ 60 ≤ parts then nI (1 + 8 * q + 3) else s.1 1 3) := by
  unfold f_Reader_countPart
  have a4 : (zsI s 98 4 (nI (parts + 1))).1 98 4 = nI (parts + 1) := by rw [zI1, if_pos rfl, updE, if_pos rfl]
  have a3 : (zsI s 98 4 (nI (parts + 1))).1 1 3 = s.1 1 3 := by rw [zI1, if_neg (by omega)]
  simp (disch := omega) only [zgi, e4, nI_1, zwi, a4, show (60 : Int32) = nI 60 from rfl, nI_leI]
  by_cases h : parts + 1 ≤ 60
  · rw [if_pos h]
    refine rt_s ⟨fun b b1 b2 => by rw [zI1, if_neg b2], fun j hj => by rw [zI1, if_pos rfl, updE, if_neg hj], a4, fun j _ => by rw [zI1, if_neg (by omega)], rfl, ?_⟩
    rw [a3, if_neg (by omega)]
  · rw [if_neg h, show (3 : Int32) = nI 3 from rfl, c_refuse, a3, zcv_s]
    by_cases hf : s.1 1 3 = 0
    · rw [if_pos hf, if_pos ⟨hf, by omega⟩]
      refine rt_s ⟨fun b b1 b2 => by rw [zI1, if_neg b1, zI1, if_neg b2], fun j hj => by rw [zI1, if_neg (by omega), zI1, if_pos rfl, updE, if_neg hj], by rw [zI1, if_neg (by omega)]; exact a4, fun j hj => by rw [zI1, if_pos rfl, updE, if_neg hj, zI1, if_neg (by omega)], rfl, by rw [zI1, if_pos rfl, updE, if_pos rfl]⟩
    · rw [if_neg hf, if_neg (fun x => hf x.1)]
      exact rt_s ⟨fun b b1 b2 => by rw [zI1, if_neg b2], fun j hj => by rw [zI1, if_pos rfl, updE, if_neg hj], a4, fun j _ => by rw [zI1, if_neg (by omega)], rfl, a3⟩
theorem c_k7 (ho : 2 < o) (ho2 : o + 1 < 98) (h : CW o W parts ro s) (hp : parts ≤ 60) (e5 : s.1 98 5 = nI sm) : rt (zcv (f_Reader_countPart (nI q) s) (fun (s8 : ZS) => zwi s8 98 6 (2 : Int32) (fun (s9 : ZS) => some s9))) (fun w => kR o s w ∧ w.1 1 2 = s.1 1 2 ∧ CW o W (parts + 1) ro w ∧ w.1 98 5 = nI sm ∧ w.1 98 6 = nI 2 ∧ w.1 1 3 = if s.1 1 3 = 0 ∧ 60 ≤ parts then nI (1 + 8 * q + 3) else s.1 1 3) := by
  refine rt_cv (c_cnt h.2.2.2.1 hp) ?_
  rintro s1 ⟨w1, w2, w3, w4, w5, w6⟩
  obtain ⟨h1, h2, h3, h4, h5, h6⟩ := h
  simp only [zwi]
  refine rt_s ⟨⟨fun b b1 b2 b3 b4 b5 => by rw [zI1, if_neg b2]; exact w1 b b1 b2, fun j j1 j2 => by rw [zI1, if_neg (by omega)]; exact w4 j j2, w5⟩, ?_, ⟨?_, ?_, ?_, ?_, ?_, ?_⟩, ?_, ?_, ?_⟩
  · rw [zI1, if_neg (by omega)]; exact w4 2 (by omega)
  · rw [zI1, if_pos rfl, updE, if_neg (by omega), w2 2 (by omega)]; exact h1
  · rw [zI1, if_neg (by omega), w1 99 (by omega) (by omega)]; exact h2
  · rw [zI1, if_pos rfl, updE, if_neg (by omega), w2 3 (by omega)]; exact h3
  · rw [zI1, if_pos rfl, updE, if_neg (by omega)]; exact w3
  · rw [zI1, if_neg (by omega), w1 o (by omega) (by omega)]; exact h5
  · rw [zI1, if_neg (by omega), w1 (o + 1) (by omega) (by omega)]; exact h6
  · rw [zI1, if_pos rfl, updE, if_neg (by omega), w2 5 (by omega)]; exact e5
  · rw [zI1, if_pos rfl, updE, if_pos rfl]; rfl
  · rw [zI1, if_neg (by omega)]; exact w6
theorem c_tv (ho : 2 < o) (ho2 : o + 1 < 98) (h : tpC t n s) (hq : q ≤ n) (hqq : sk t n q = q) (e : s.1 1 2 = nI q) (e3 : s.1 1 3 = 0) (hw : CW o W parts ro s) (hp : parts ≤ 60) (e5 : s.1 98 5 = nI sm) (hl : ro.length < 400) : rt (f_Reader_takeValue o (sgn t n q) s) (fun w => cG o n (tvF t n q W parts sm ro) s w) := by
  have hn4 := h.1
  unfold f_Reader_takeValue tvF
  simp only [zgi, e, c_digN h.2.1, zcl_s, zj0]
  by_cases hd : q < n ∧ isDg t q = true
  · rw [if_pos hd]
    simp only [hd, and_self, ↓reduceIte, i10]
    refine rt_cl (c_numX (lo := 0) (hi := 100000) h hq e (by omega) (by omega)) ?_
    rintro v1 s1 ⟨k1, v, p1, a1, a2, rfl, a4, D1⟩
    dsimp only at k1 a4 D1
    have cw1 := hw.t k1 (by omega)
    rw [show (0 : Int32) = nI 0 from rfl, c_add ho ho2 (by omega) (by omega) hl cw1.2.2.2.2.1, zcv_s]
    have cw2 := cw1.add (k := 0) (v := v) ho ho2
    have f2 : (zsI (zsI s1 (o + 1) ro.length (nI (16 * v + 0))) o 1 (nI (ro.length + 1))).1 1 = s1.1 1 := by rw [zI1, if_neg (by omega), zI1, if_neg (by omega)]
    have g5 : (zsI (zsI s1 (o + 1) ro.length (nI (16 * v + 0))) o 1 (nI (ro.length + 1))).1 98 5 = nI sm := by rw [zI1, if_neg (by omega), zI1, if_neg (by omega), k1.1 98 (by omega)]; exact e5
    have kk : kR o s (zsI (zsI s1 (o + 1) ro.length (nI (16 * v + 0))) o 1 (nI (ro.length + 1))) := ((tK.r k1).I (by omega) (by omega)).I (by omega) (by omega)
    generalize zsI (zsI s1 (o + 1) ro.length (nI (16 * v + 0))) o 1 (nI (ro.length + 1)) = s2 at cw2 f2 g5 kk
    refine (c_k7 (q := q) ho ho2 cw2 hp g5).mono ?_
    rintro w ⟨w1, w2, w3, w4, w5, w6⟩
    rw [f2] at w2 w6
    refine ⟨kk.tr w1, ?_⟩
    rcases D1 with ⟨_, x, m1, g1, rfl, rfl⟩ | ⟨_, f, m1, g0, g1, g2⟩ | ⟨g, _⟩
    · rw [m1]
      rw [g1] at w6
      by_cases h60 : 60 ≤ parts
      · left
        refine ⟨1 + 8 * q + 3, by simp only [sBd, h60, ↓reduceIte], by omega, by omega, ?_, ⟨x.2, a2, w2.trans a4⟩, ro.length + 1, by omega, w3.2.2.2.2.1⟩
        rw [w6, if_pos ⟨rfl, h60⟩]
      · right
        refine ⟨(x.2, W, parts + 1, sm, 2, (0, x.1) :: ro), by simp only [sBd, h60, ↓reduceIte], w2.trans a4, ?_, w3, w4, w5⟩
        rw [w6, if_neg (fun z => h60 z.2)]
    · left
      rw [m1]
      refine ⟨f, rfl, g0, g1, ?_, ⟨p1, a2, w2.trans a4⟩, ro.length + 1, by omega, w3.2.2.2.2.1⟩
      rw [w6, g2, if_neg (fun z => fnz g0 g1 z.1)]
    · exact absurd e3 g
  · rw [if_neg hd]
    simp only [hd, ↓reduceIte]
    rw [c_among h ok12 hq e, zcl_s, hqq, zsI_self e]
    dsimp only
    by_cases hw12 : wixF t q (we t n q) 0 ws12 = -1
    · rw [if_pos hw12, if_neg (fun x => x hw12), show (0 : Int32) = nI 0 from rfl, c_refuse, if_pos e3, zcv_s]
      exact rt_s ⟨tK.r (tK.rf.I (Or.inr rfl)), Or.inl ⟨_, rfl, by omega, by omega, by rw [zI1, if_pos rfl, updE, if_pos rfl]; rfl, ⟨q, hq, by rw [zI1, if_pos rfl, updE, if_neg (by omega)]; exact e⟩, ro.length, by omega, by rw [zI1, if_neg (by omega)]; exact hw.2.2.2.2.1⟩⟩
    · rw [if_neg hw12, if_pos hw12, c_wsize h hq e, zcl_s]
      obtain ⟨hw1, hw2, _, _⟩ := we_s (t := t) hq
      have hpz : q + (we t n q - q) = we t n q := by omega
      dsimp only
      rw [c_pass e h.2.2.1 hn4 (show q + (we t n q - q) ≤ n by omega), hpz, zcv_s]
      obtain ⟨j, j1, j2, _⟩ := (wix_lt (t := t) (p := q) (e := we t n q) ws12 0).resolve_left hw12
      have hj11 : ws12.length = 11 := rfl
      rw [Nat.zero_add] at j2
      have hcl : (wixF t q (we t n q) 0 ws12).toNatClampNeg = j := by rw [j2, nI_clamp (by omega)]
      rw [hcl, j2]
      have k1 : tK s (zsI s 1 2 (nI (we t n q))) := tK.rf.I (Or.inl rfl)
      have cw1 := hw.t k1 (by omega)
      rw [show (1 : Int32) = nI 1 from rfl, c_add ho ho2 (by omega) (by omega) hl cw1.2.2.2.2.1, zcv_s]
      have cw2 := cw1.add (k := 1) (v := j) ho ho2
      have f2 : ∀ i, (zsI (zsI (zsI s 1 2 (nI (we t n q))) (o + 1) ro.length (nI (16 * j + 1))) o 1 (nI (ro.length + 1))).1 1 i = (zsI s 1 2 (nI (we t n q))).1 1 i := fun i => by rw [zI1, if_neg (by omega), zI1, if_neg (by omega)]
      have g5 : (zsI (zsI (zsI s 1 2 (nI (we t n q))) (o + 1) ro.length (nI (16 * j + 1))) o 1 (nI (ro.length + 1))).1 98 5 = nI sm := by rw [zI1, if_neg (by omega), zI1, if_neg (by omega), k1.1 98 (by omega)]; exact e5
      have kk : kR o s (zsI (zsI (zsI s 1 2 (nI (we t n q))) (o + 1) ro.length (nI (16 * j + 1))) o 1 (nI (ro.length + 1))) := ((tK.r k1).I (by omega) (by omega)).I (by omega) (by omega)
      generalize zsI (zsI (zsI s 1 2 (nI (we t n q))) (o + 1) ro.length (nI (16 * j + 1))) o 1 (nI (ro.length + 1)) = s2 at cw2 f2 g5 kk
      have f22 : s2.1 1 2 = nI (we t n q) := by rw [f2 2, zI1, if_pos rfl, updE, if_pos rfl]
      have f23 : s2.1 1 3 = 0 := by rw [f2 3, zI1, if_pos rfl, updE, if_neg (by omega)]; exact e3
      refine (c_k7 (q := q) ho ho2 cw2 hp g5).mono ?_
      rintro w ⟨w1, w2, w3, w4, w5, w6⟩
      rw [f22] at w2
      rw [f23] at w6
      refine ⟨kk.tr w1, ?_⟩
      by_cases h60 : 60 ≤ parts
      · left
        rw [if_pos h60]
        exact ⟨_, rfl, by omega, by omega, by rw [w6, if_pos ⟨rfl, h60⟩], ⟨we t n q, hw2, w2⟩, ro.length + 1, by omega, w3.2.2.2.2.1⟩
      · right
        rw [if_neg h60]
        exact ⟨_, rfl, w2, by rw [w6, if_neg (fun z => h60 z.2)], w3, w4, w5⟩
theorem c_bf (ho : 2 < o) (ho2 : o + 1 < 98) (h : tpC t n s) (hq : q ≤ n) (hqq : sk t n q = q) (e : s.1 1 2 = nI q) (e3 : s.1 1 3 = 0) (hw : CW o W parts ro s) (e5 : s.1 98 5 = nI sm) (hwk : wOK W) (hl : ro.length + W.length + 1 ≤ q) (hl2 : W.length ≤ 36) : rt (f_Reader_takeBehindFact o (sgn t n q) s) (fun w => cG o n (bfF t n q W parts sm ro) s w) := by
  have hn4 := h.1
  obtain ⟨hw1, hw2, _, _⟩ := we_s (t := t) hq
  unfold f_Reader_takeBehindFact bfF
  rw [c_among h ok15 hq e, zcl_s, hqq, zsI_self e]
  dsimp only
  by_cases hw15 : wixF t q (we t n q) 0 ws15 = -1
  · rw [if_pos hw15, if_pos hw15]
    obtain ⟨i1, i2, i3, i4, i5, i6⟩ := rls_i (b := 1) (by omega) W ro hwk
    have tops := rls_t (b := 1) W ro
    refine rt_cv (c_rel (b := 1) ho ho2 (by omega) (by omega) hw hwk (by omega) (by omega)) ?_
    rintro s1 ⟨k1, x1, x2, cw⟩
    generalize rls 1 W ro = R at i1 i2 i3 tops cw
    obtain ⟨W', ro'⟩ := R
    dsimp only at i1 i2 i3 tops cw ⊢
    have ee : s1.1 1 2 = nI q := by rw [x1]; exact e
    have ef : s1.1 1 3 = 0 := by rw [x1]; exact e3
    have en : s1.1 1 1 = nI n := by rw [x1]; exact h.2.2.1
    simp only [zgi, cw.1]
    cases W' with
    | nil =>
      rw [if_neg (show ¬ ¬ nI ([] : List Nat).length = 0 from fun x => x rfl), if_pos rfl]
      simp only [zwi]
      refine rt_s ⟨k1.I (by omega) (by omega), Or.inr ⟨_, rfl, ?_, ?_, cw.f (fun j _ _ => by rw [zI1, if_pos rfl, updE, if_neg (by omega)]) (by rw [zI1, if_neg (by omega)]) (by rw [zI1, if_neg (by omega)]) (by rw [zI1, if_neg (by omega)]), ?_, ?_⟩⟩
      · rw [zI1, if_neg (by omega)]; exact ee
      · rw [zI1, if_neg (by omega)]; exact ef
      · rw [zI1, if_pos rfl, updE, if_neg (by omega), x2 5 (by omega)]; exact e5
      · rw [zI1, if_pos rfl, updE, if_pos rfl]; rfl
    | cons k W' =>
      have hlen : (k :: W').length = W'.length + 1 := rfl
      have hk0 : k = 0 := by
        have := tops k W' rfl
        have hk := i1.1
        have h15 := i1.2.1.2
        exact (show ∀ k, k < 16 → k ≠ 1 ∧ k ≠ 15 → bnd k < 1 → k = 0 by decide) k hk h15 this
      have hl3 : W'.length + 1 ≤ 400 := by rw [hlen] at i2; omega
      rw [if_pos (show ¬ nI (k :: W').length = 0 by rw [hlen, nI_eq0 (by omega)]; omega), if_neg (show ¬ (k :: W' = []) from fun x => by cases x)]
      by_cases h93 : sgn t n q = 93
      · have hqn : q < n := sgn_lt h93 (by decide)
        rw [if_neg (fun x => x h93), if_pos h93, hlen, nI_pred]
        simp only [zwi]
        have b3 : (zsI s1 98 2 (nI W'.length)).1 98 3 = nI (dpW W' + 1) := by
          rw [zI1, if_pos rfl, updE, if_neg (by omega), cw.2.2.1]
          show nI (dpW W' + (if k = 0 ∨ k = 12 then 1 else 0)) = _
          rw [if_pos (Or.inl hk0)]
        rw [b3, nI_pred]
        have bp : (zsI (zsI s1 98 2 (nI W'.length)) 98 3 (nI (dpW W'))).1 1 = s1.1 1 := by rw [zI1, if_neg (by omega), zI1, if_neg (by omega)]
        rw [show (1 : Int32) = nI 1 from rfl, c_pass (p := q) (m := 1) (n := n) (by rw [bp]; exact ee) (by rw [bp]; exact en) hn4 (by omega), zcv_s]
        refine rt_s ⟨?_, Or.inr ⟨_, rfl, ?_, ?_, ⟨?_, ?_, ?_, ?_, ?_, ?_⟩, ?_, ?_⟩⟩
        · exact ((((k1.I (by omega) (by omega)).I (by omega) (by omega)).tr (tK.r (tK.rf.I (Or.inl rfl)))).I (by omega) (by omega))
        · rw [zI1, if_neg (by omega), zI1, if_pos rfl, updE, if_pos rfl]
        · rw [zI1, if_neg (by omega), zI1, if_pos rfl, updE, if_neg (by omega), bp]; exact ef
        · rw [zI1, if_pos rfl, updE, if_neg (by omega), zI1, if_neg (by omega), zI1, if_pos rfl, updE, if_neg (by omega), zI1, if_pos rfl, updE, if_pos rfl]; rfl
        · rw [zI1, if_neg (by omega), zI1, if_neg (by omega), zI1, if_neg (by omega), zI1, if_neg (by omega)]; exact cw.2.1.2
        · rw [zI1, if_pos rfl, updE, if_neg (by omega), zI1, if_neg (by omega), zI1, if_pos rfl, updE, if_pos rfl]; rfl
        · rw [zI1, if_pos rfl, updE, if_neg (by omega), zI1, if_neg (by omega), zI1, if_pos rfl, updE, if_neg (by omega), zI1, if_pos rfl, updE, if_neg (by omega)]; exact cw.2.2.2.1
        · rw [zI1, if_neg (by omega), zI1, if_neg (by omega), zI1, if_neg (by omega), zI1, if_neg (by omega)]; exact cw.2.2.2.2.1
        · rw [zI1, if_neg (by omega), zI1, if_neg (by omega), zI1, if_neg (by omega), zI1, if_neg (by omega)]; exact cw.2.2.2.2.2
        · rw [zI1, if_pos rfl, updE, if_neg (by omega), zI1, if_neg (by omega), zI1, if_pos rfl, updE, if_neg (by omega), zI1, if_pos rfl, updE, if_neg (by omega), x2 5 (by omega)]; exact e5
        · rw [zI1, if_pos rfl, updE, if_pos rfl]; rfl
      · rw [if_pos h93, if_neg h93, ee, show (0 : Int32) = nI 0 from rfl, c_refuse, if_pos ef, zcv_s]
        exact rt_s ⟨k1.tr (tK.r (tK.rf.I (Or.inr rfl))), Or.inl ⟨_, rfl, by omega, by omega, by rw [zI1, if_pos rfl, updE, if_pos rfl]; rfl, ⟨q, hq, by rw [zI1, if_pos rfl, updE, if_neg (by omega)]; exact ee⟩, ro'.length, by omega, by rw [zI1, if_neg (by omega)]; exact cw.2.2.2.2.1⟩⟩
  · rw [if_neg hw15, if_neg hw15]
    have hpz : q + (we t n q - q) = we t n q := by omega
    have go : ∀ k b : Nat, zt_bind k = nI b → k < 16 → 0 < b → b ≤ 6 → ¬ (k = 0 ∨ k = 12) → rt (zcl (f_Tape_wordSize s) (fun (v20 : Int32) (s19 : ZS) => zcv (f_Tape_pass v20 s19) (fun (s21 : ZS) => zrd 16 (nI k) zt_bind (fun (v22 : Int32) => zcv (f_Reader_release o v22 s21) (fun (s23 : ZS) => zcv (f_Reader_hold (nI k) s23) (fun (s24 : ZS) => zwi s24 98 6 (1 : Int32) (fun (s25 : ZS) => some s25))))))) (fun w => cG o n (.inr (we t n q, k :: (rls b W ro).1, parts, sm, 1, (rls b W ro).2)) s w) := by
      intro k b hb hk hb0 hb6 hkd
      rw [c_wsize h hq e, zcl_s]
      dsimp only
      rw [c_pass e h.2.2.1 hn4 (show q + (we t n q - q) ≤ n by omega), hpz, zcv_s, zrd_n (by omega) (by omega), hb]
      obtain ⟨i1, i2, i3, i4, i5, i6⟩ := rls_i (b := b) hb0 W ro hwk
      have k1 : tK s (zsI s 1 2 (nI (we t n q))) := tK.rf.I (Or.inl rfl)
      refine rt_cv (c_rel (b := b) ho ho2 hb6 hb0 (hw.t k1 (by omega)) hwk (by omega) (by omega)) ?_
      rintro s1 ⟨k2, x1, x2, cw⟩
      have rl := rls_len (b := b) W ro
      refine rt_cv (c_hold (k := k) ho ho2 cw (by omega) hkd) ?_
      rintro s2 ⟨k3, y1, y2, cw2⟩
      simp only [zwi]
      have z1 : s2.1 1 = (zsI s 1 2 (nI (we t n q))).1 1 := by rw [y1, x1]
      refine rt_s ⟨(((tK.r k1).tr k2).tr k3).I (by omega) (by omega), Or.inr ⟨_, rfl, ?_, ?_, cw2.f (fun j _ _ => by rw [zI1, if_pos rfl, updE, if_neg (by omega)]) (by rw [zI1, if_neg (by omega)]) (by rw [zI1, if_neg (by omega)]) (by rw [zI1, if_neg (by omega)]), ?_, ?_⟩⟩
      · rw [zI1, if_neg (by omega), z1, zI1, if_pos rfl, updE, if_pos rfl]
      · rw [zI1, if_neg (by omega), z1, zI1, if_pos rfl, updE, if_neg (by omega)]; exact e3
      · rw [zI1, if_pos rfl, updE, if_neg (by omega), y2 5 (by omega), x2 5 (by omega), zI1, if_neg (by omega)]; exact e5
      · rw [zI1, if_pos rfl, updE, if_pos rfl]; rfl
    simp only [zjn]
    by_cases h0 : wixF t q (we t n q) 0 ws15 = 0
    · rw [if_pos h0, if_neg (fun x => x h0)]
      exact go 14 1 (by decide) (by omega) (by omega) (by omega) (by omega)
    · rw [if_neg h0, if_pos h0]
      exact go 13 2 (by decide) (by omega) (by omega) (by omega) (by omega)
end RS
