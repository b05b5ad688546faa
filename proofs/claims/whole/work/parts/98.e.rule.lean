/-! rule: the class reads a rule. -/
theorem rls_ap {b : Nat} {pre : List ZQo} : ∀ (W : List Nat) (o : List ZQo), rls b W (o ++ pre) = ((rls b W o).1, (rls b W o).2 ++ pre) := by
  intro W
  induction W with
  | nil => intro o; rfl
  | cons k W ih =>
    intro o
    by_cases hk : b ≤ bnd k
    · rw [show rls b (k :: W) (o ++ pre) = rls b W ((k, 0) :: (o ++ pre)) from if_pos hk, show rls b (k :: W) o = rls b W ((k, 0) :: o) from if_pos hk]
      exact ih ((k, 0) :: o)
    · rw [show rls b (k :: W) (o ++ pre) = (k :: W, o ++ pre) from if_neg hk, show rls b (k :: W) o = (k :: W, o) from if_neg hk]
def apO (pre : List ZQo) (c : ZG) : ZG := (c.1, c.2.1, c.2.2.1, c.2.2.2.1, c.2.2.2.2.1, c.2.2.2.2.2 ++ pre)
def apS (pre : List ZQo) (x : Sum Nat ZG) : Sum Nat ZG := sBd x (fun c => .inr (apO pre c))
section RU
variable {t : Nat → Nat} {n : Nat} {pre : List ZQo}
theorem tv_ap {q parts sm : Nat} {W : List Nat} {o : List ZQo} : tvF t n q W parts sm (o ++ pre) = apS pre (tvF t n q W parts sm o) := by
  unfold tvF
  split
  · cases nm t n q 0 100000 with
    | inl f => rfl
    | inr x =>
      show (if 60 ≤ parts then _ else _) = apS pre (if 60 ≤ parts then _ else _)
      split <;> rfl
  · split
    · rfl
    · split <;> rfl
theorem bf_ap {q parts sm : Nat} {W : List Nat} {o : List ZQo} : bfF t n q W parts sm (o ++ pre) = apS pre (bfF t n q W parts sm o) := by
  unfold bfF
  rw [rls_ap, rls_ap]
  dsimp only
  split
  · split
    · rfl
    · split <;> rfl
  · split <;> rfl
theorem bv_ap {q parts sm : Nat} {W : List Nat} {o : List ZQo} : bvF t n q W parts sm (o ++ pre) = apS pre (bvF t n q W parts sm o) := by
  unfold bvF
  rw [rls_ap, rls_ap, rls_ap, bf_ap]
  dsimp only
  split
  · rfl
  · split
    · split <;> rfl
    · split
      · split
        · rfl
        · split <;> rfl
      · rfl
theorem fb_ap {q parts sm : Nat} {W : List Nat} {o : List ZQo} : fbF t n q W parts sm (o ++ pre) = apS pre (fbF t n q W parts sm o) := by
  unfold fbF
  rw [tv_ap]
  split
  · split <;> rfl
  · split
    · split <;> rfl
    · rfl
theorem stp_ap {c : ZG} : stpF t n (apO pre c) = apS pre (stpF t n c) := by
  unfold stpF
  show (if c.2.2.2.2.1 = 0 then tvF t n (sk t n c.1) c.2.1 c.2.2.1 c.2.2.2.1 (c.2.2.2.2.2 ++ pre) else if c.2.2.2.2.1 = 1 then fbF t n (sk t n c.1) c.2.1 c.2.2.1 c.2.2.2.1 (c.2.2.2.2.2 ++ pre) else if c.2.2.2.2.1 = 2 then bvF t n (sk t n c.1) c.2.1 c.2.2.1 c.2.2.2.1 (c.2.2.2.2.2 ++ pre) else if c.2.2.2.2.1 = 3 then bfF t n (sk t n c.1) c.2.1 c.2.2.1 c.2.2.2.1 (c.2.2.2.2.2 ++ pre) else .inr (apO pre c)) = _
  rw [tv_ap, fb_ap, bv_ap, bf_ap]
  split
  · rfl
  · split
    · rfl
    · split
      · rfl
      · split <;> rfl
theorem mrun_ap {x : Sum Nat ZG} : ∀ k, mrun t n k (apS pre x) = apS pre (mrun t n k x) := by
  intro k
  induction k with
  | zero => rfl
  | succ k ih =>
    rw [mrunS, mrunS, ih]
    cases mrun t n k x with
    | inl f => rfl
    | inr c => exact stp_ap
abbrev ZB : Type := Nat × List (List ZQo)
variable (t n) in
def rlS (c p : Nat) (a : ZB) : Sum Nat (Nat × ZB) :=
  if ¬ isW t (sk t n p) (we t n (sk t n p)) [115, 97, 121] then .inl (1 + 8 * sk t n p)
  else if 12 ≤ c then .inl (1 + 8 * sk t n p + 4)
  else sBd (mrun t n 401 (.inr (we t n (sk t n p), [], a.1, 0, 0, []))) (fun x => .inr (x.1, x.2.2.1, x.2.2.2.2.2 :: a.2))
theorem rlS_cap (p : Nat) (a : ZB) : ∃ f, rlS t n 12 p a = .inl f := by
  unfold rlS
  split
  · exact ⟨_, rfl⟩
  · exact ⟨_, rfl⟩
def tot : List (List ZQo) → List ZQo
  | [] => []
  | l :: cl => (15, 0) :: (l ++ tot cl)
def rOK (p : Nat) (a : ZB) : Prop := a.1 ≤ 60 ∧ (tot a.2).length ≤ p ∧ ∀ x, x ∈ tot a.2 → x.1 < 16 ∧ x.2 < 100000
def rRl (o : Nat) (s0 : ZS) (a : ZB) (s : ZS) : Prop := kR o s0 s ∧ s.1 98 4 = nI a.1 ∧ s.1 o 1 = nI (tot a.2).length ∧ oC (tot a.2) (s.1 (o + 1))
def rRF (o : Nat) (s0 s : ZS) : Prop := kR o s0 s ∧ ∃ L, L ≤ 400 ∧ s.1 o 1 = nI L
theorem c_clause {o c p : Nat} {a : ZB} {s0 s : ZS} (ho : 2 < o) (ho2 : o + 1 < 98) (hc : c ≤ 12) (h : tpC t n s) (hp : p ≤ n) (e : s.1 1 2 = nI p) (e3 : s.1 1 3 = 0) (hok : rOK p a) (hr : rRl o s0 a s) : rt (f_Reader_readClause o (nI c) s) (fun w => tpC t n w ∧ (∃ p', p' ≤ n ∧ w.1 1 2 = nI p') ∧ ((∃ f, rlS t n c p a = .inl f ∧ 0 < f ∧ f < 100000 ∧ w.1 1 3 = nI f ∧ kR o s0 w) ∨ ∃ x, rlS t n c p a = .inr x ∧ x.1 ≤ n ∧ w.1 1 2 = nI x.1 ∧ w.1 1 3 = 0 ∧ rOK x.1 x.2 ∧ rRl o s0 x.2 w)) := by
  have hn4 := h.1
  obtain ⟨parts, cl⟩ := a
  obtain ⟨a1, a2, a3⟩ := hok
  obtain ⟨r1, r2, r3, r4⟩ := hr
  dsimp only at a1 a2 a3 r2 r3 r4
  obtain ⟨sk1, hq, _, _⟩ := sk_s (t := t) hp
  unfold f_Reader_readClause rlS
  rw [c_among h ok11 hp e, zcl_s, wix11]
  dsimp only
  generalize sk t n p = q at sk1 hq
  obtain ⟨hw1, hw2, _, _⟩ := we_s (t := t) hq
  have k1 : tK s (zsI s 1 2 (nI q)) := tK.rf.I (Or.inl rfl)
  have e1 : (zsI s 1 2 (nI q)).1 1 2 = nI q := by rw [zI1, if_pos rfl, updE, if_pos rfl]
  have f1 : (zsI s 1 2 (nI q)).1 1 3 = 0 := by rw [zI1, if_pos rfl, updE, if_neg (by omega)]; exact e3
  have h1 := h.k k1
  have g98 : (zsI s 1 2 (nI q)).1 98 4 = nI parts := by rw [zI1, if_neg (by omega)]; exact r2
  have go1 : (zsI s 1 2 (nI q)).1 o 1 = nI (tot cl).length := by rw [zI1, if_neg (by omega)]; exact r3
  have go2 : oC (tot cl) ((zsI s 1 2 (nI q)).1 (o + 1)) := by rw [zI1, if_neg (by omega)]; exact r4
  generalize zsI s 1 2 (nI q) = s1 at k1 e1 f1 h1 g98 go1 go2
  have kk : kR o s0 s1 := r1.tr (tK.r k1)
  have bad : ∀ k : Nat, k ≤ 4 → ∀ r : Sum Nat (Nat × ZB), r = .inl (1 + 8 * q + k) → rt (zgi (s1.1 1 2) (fun (v7 : Int32) => zcv (f_Tape_refuse v7 (nI k) s1) (fun (s8 : ZS) => some s8))) (fun w => tpC t n w ∧ (∃ p', p' ≤ n ∧ w.1 1 2 = nI p') ∧ ((∃ f, r = .inl f ∧ 0 < f ∧ f < 100000 ∧ w.1 1 3 = nI f ∧ kR o s0 w) ∨ ∃ x, r = .inr x ∧ x.1 ≤ n ∧ w.1 1 2 = nI x.1 ∧ w.1 1 3 = 0 ∧ rOK x.1 x.2 ∧ rRl o s0 x.2 w)) := by
    intro k hk r hr
    simp only [zgi, e1]
    rw [c_refuse, if_pos f1, zcv_s]
    have k2 : tK s1 (zsI s1 1 3 (nI (1 + 8 * q + k))) := tK.rf.I (Or.inr rfl)
    exact rt_s ⟨h1.k k2, ⟨q, hq, by rw [zI1, if_pos rfl, updE, if_neg (by omega)]; exact e1⟩, Or.inl ⟨_, hr, by omega, by omega, by rw [zI1, if_pos rfl, updE, if_pos rfl], kk.tr (tK.r k2)⟩⟩
  by_cases hsay : isW t q (we t n q) [115, 97, 121]
  · have hl3 : we t n q - q = 3 := hsay.1
    rw [if_pos hsay, if_pos (show ¬ (0 : Int32) = -1 by decide), if_neg (show ¬ ¬ isW t q (we t n q) [115, 97, 121] from fun x => x hsay)]
    by_cases h12 : 12 ≤ c
    · rw [if_pos h12, if_neg (show ¬ nI c < 12 from nI_nlt (b := 12) h12 (by omega))]
      exact bad 4 (by omega) _ rfl
    · rw [if_neg h12, if_pos (show nI c < 12 from nI_lt (b := 12) (by omega) (by omega)), c_wsize h1 hq e1, zcl_s]
      have hpz : q + (we t n q - q) = we t n q := by omega
      dsimp only
      rw [c_pass e1 h1.2.2.1 hn4 (show q + (we t n q - q) ≤ n by omega), hpz, zcv_s]
      simp only [zwi, zj0]
      generalize hs2 : zsI (zsI (zsI (zsI (zsI s1 1 2 (nI (we t n q))) 98 2 0) 98 3 0) 98 5 0) 98 6 0 = s2
      have k2 : kR o s1 s2 := by
        rw [← hs2]
        exact (((((tK.r (tK.rf.I (Or.inl rfl)) : kR o s1 _).I (by omega) (by omega)).I (by omega) (by omega)).I (by omega) (by omega)).I (by omega) (by omega))
      have cr : CR o (we t n q, [], parts, 0, 0, tot cl) s2 := by
        rw [← hs2]
        refine ⟨?_, ?_, ⟨?_, trivial, ?_, ?_, ?_, ?_⟩, ?_, ?_⟩
        · rw [zI1, if_neg (by omega), zI1, if_neg (by omega), zI1, if_neg (by omega), zI1, if_neg (by omega), zI1, if_pos rfl, updE, if_pos rfl]
        · rw [zI1, if_neg (by omega), zI1, if_neg (by omega), zI1, if_neg (by omega), zI1, if_neg (by omega), zI1, if_pos rfl, updE, if_neg (by omega)]; exact f1
        · rw [zI1, if_pos rfl, updE, if_neg (by omega), zI1, if_pos rfl, updE, if_neg (by omega), zI1, if_pos rfl, updE, if_neg (by omega), zI1, if_pos rfl, updE, if_pos rfl]; rfl
        · rw [zI1, if_pos rfl, updE, if_neg (by omega), zI1, if_pos rfl, updE, if_neg (by omega), zI1, if_pos rfl, updE, if_pos rfl]; rfl
        · rw [zI1, if_pos rfl, updE, if_neg (by omega), zI1, if_pos rfl, updE, if_neg (by omega), zI1, if_pos rfl, updE, if_neg (by omega), zI1, if_pos rfl, updE, if_neg (by omega), zI1, if_neg (by omega)]; exact g98
        · rw [zI1, if_neg (by omega), zI1, if_neg (by omega), zI1, if_neg (by omega), zI1, if_neg (by omega), zI1, if_neg (by omega)]; exact go1
        · rw [zI1, if_neg (by omega), zI1, if_neg (by omega), zI1, if_neg (by omega), zI1, if_neg (by omega), zI1, if_neg (by omega)]; exact go2
        · rw [zI1, if_pos rfl, updE, if_neg (by omega), zI1, if_pos rfl, updE, if_pos rfl]; rfl
        · rw [zI1, if_pos rfl, updE, if_pos rfl]; rfl
      have hmi : mI n (we t n q, [], parts, 0, 0, tot cl) := ⟨hw2, trivial, Nat.zero_le _, a1, Nat.zero_le _, Nat.zero_le _, by show (tot cl).length + 0 + 1 ≤ we t n q; omega, (fun e => by cases e), a3⟩
      have h2 := h1.r k2 ho
      have par : mrun t n 401 (.inr (we t n q, [], parts, 0, 0, tot cl)) = apS (tot cl) (mrun t n 401 (.inr (we t n q, [], parts, 0, 0, []))) := mrun_ap (x := .inr (we t n q, [], parts, 0, 0, [])) 401
      refine c_run (t := t) (n := n) (o := o) (c0 := (we t n q, [], parts, 0, 0, tot cl)) (Z := fun x => rt x _) ho ho2 h2 hmi cr (fun w hw hmI => ?_)
      obtain ⟨w1, w2⟩ := hw
      rw [par] at w2 hmI
      cases hm : mrun t n 401 (.inr (we t n q, [], parts, 0, 0, [])) with
      | inl f =>
        rw [hm] at w2
        rcases w2 with ⟨f', g1, g2, g3, g4, ⟨p', g5, g6⟩, L, g7, g8⟩ | ⟨c', g1, _⟩
        · have hf : (Sum.inl f : Sum Nat ZG) = .inl f' := g1
          injection hf with hf
          subst hf
          -- a step more, or none
          have ad : rt (f_Rule_add o (15 : Int32) (0 : Int32) w) (fun y => kR o w y ∧ y.1 1 = w.1 1) := by
            by_cases hL : L < 400
            · rw [show (15 : Int32) = nI 15 from rfl, show (0 : Int32) = nI 0 from rfl, c_add ho ho2 (by omega) (by omega) hL g8]
              exact rt_s ⟨(kR.rf.I (by omega) (by omega)).I (by omega) (by omega), by rw [zI1, if_neg (by omega), zI1, if_neg (by omega)]⟩
            · unfold f_Rule_add
              simp only [zgi, g8]
              rw [if_pos (nI_le (by omega) (by omega))]
              exact rt_s ⟨kR.rf, rfl⟩
          refine rt_cv ad ?_
          rintro y ⟨y1, y2⟩
          have ky := (w1.tr y1)
          refine rt_s ⟨h2.r ky ho, ⟨p', g5, by rw [y2]; exact g6⟩, Or.inl ⟨f, rfl, g2, g3, by rw [y2]; exact g4, kk.tr (k2.tr ky)⟩⟩
        · cases g1
      | inr x =>
        rw [hm] at w2 hmI
        rcases w2 with ⟨f', g1, _⟩ | ⟨c', g1, g2⟩
        · cases g1
        · have hf : (Sum.inr (apO (tot cl) x) : Sum Nat ZG) = .inr c' := g1
          injection hf with hf
          subst hf
          have hm2 := hmI _ rfl
          obtain ⟨b1, b2, b3, b4, b5, b6, b7, b8, b9⟩ := hm2
          obtain ⟨c1, c2, c3, c4, c5⟩ := g2
          have b7' : (x.2.2.2.2.2 ++ tot cl).length + x.2.1.length + 1 ≤ x.1 := b7
          have b1' : x.1 ≤ n := b1
          have eo : w.1 o 1 = nI (x.2.2.2.2.2 ++ tot cl).length := c3.2.2.2.2.1
          rw [show (15 : Int32) = nI 15 from rfl, show (0 : Int32) = nI 0 from rfl, c_add ho ho2 (by omega) (by omega) (by omega) eo, zcv_s]
          have cwa := c3.add (k := 15) (v := 0) ho ho2
          have ky : kR o w (zsI (zsI w (o + 1) (x.2.2.2.2.2 ++ tot cl).length (nI (16 * 0 + 15))) o 1 (nI ((x.2.2.2.2.2 ++ tot cl).length + 1))) := (kR.rf.I (by omega) (by omega)).I (by omega) (by omega)
          have y1 : (zsI (zsI w (o + 1) (x.2.2.2.2.2 ++ tot cl).length (nI (16 * 0 + 15))) o 1 (nI ((x.2.2.2.2.2 ++ tot cl).length + 1))).1 1 = w.1 1 := by rw [zI1, if_neg (by omega), zI1, if_neg (by omega)]
          refine rt_s ⟨(h2.r w1 ho).r ky ho, ⟨x.1, b1', by rw [y1]; exact c1⟩, Or.inr ⟨(x.1, x.2.2.1, x.2.2.2.2.2 :: cl), rfl, b1', by rw [y1]; exact c1, by rw [y1]; exact c2, ⟨b4, ?_, fun z hz => ?_⟩, kk.tr (k2.tr (w1.tr ky)), cwa.2.2.2.1, cwa.2.2.2.2.1, cwa.2.2.2.2.2⟩⟩
          · show (x.2.2.2.2.2 ++ tot cl).length + 1 ≤ x.1; omega
          · cases hz with
            | head => exact ⟨by show 15 < 16; omega, by show 0 < 100000; omega⟩
            | tail _ hz => exact b9 z hz
  · rw [if_neg hsay, if_pos hsay, if_neg (show ¬ ¬ (-1 : Int32) = -1 from fun x => x rfl)]
    exact bad 0 (by omega) _ rfl
theorem c_rule {o : Nat} {s : ZS} (ho : 2 < o) (ho2 : o + 1 < 98) (h : tpC t n s) : rt (f_Reader_readInto o s) (fun w => kR o s w ∧ ((∃ f, lsF t n (rlS t n) 13 0 0 (0, []) = .inl f ∧ 0 < f ∧ f < 100000 ∧ w.1 1 3 = nI f) ∨ ∃ a, lsF t n (rlS t n) 13 0 0 (0, []) = .inr a ∧ w.1 1 3 = 0 ∧ w.1 o 1 = nI (tot a.2).length ∧ oC (tot a.2) (w.1 (o + 1)) ∧ (tot a.2).length ≤ 400 ∧ ∀ x, x ∈ tot a.2 → x.1 < 16 ∧ x.2 < 100000)) := by
  unfold f_Reader_readInto f_Rule_clear f_Tape_rewind
  simp only [zwi, zcv_s]
  generalize hs1 : zsI (zsI (zsI (zsI s o 1 0) 1 2 0) 1 3 0) 98 4 0 = s1
  have k1 : kR o s s1 := by
    rw [← hs1]
    exact (((kR.rf.I (by omega) (by omega)).tr (tK.r ((tK.rf.I (Or.inl rfl)).I (Or.inr rfl)))).I (by omega) (by omega))
  have e2 : s1.1 1 2 = nI 0 := by rw [← hs1, zI1, if_neg (by omega), zI1, if_pos rfl, updE, if_neg (by omega), zI1, if_pos rfl, updE, if_pos rfl]; rfl
  have e3 : s1.1 1 3 = 0 := by rw [← hs1, zI1, if_neg (by omega), zI1, if_pos rfl, updE, if_pos rfl]
  have e4 : s1.1 98 4 = nI 0 := by rw [← hs1, zI1, if_pos rfl, updE, if_pos rfl]; rfl
  have eo : s1.1 o 1 = nI 0 := by rw [← hs1, zI1, if_neg (by omega), zI1, if_neg (by omega), zI1, if_neg (by omega), zI1, if_pos rfl, updE, if_pos rfl]; rfl
  refine c_loop (t := t) (n := n) (CS := rlS t n) (F := fun c s => f_Reader_readClause o c s) (LIM := 12) (k := fun s6 => some s6) (B := f_Reader_readInto_B20 o) (Z := fun x => rt x (fun (w : ZS) => kR o s w ∧ ((∃ f, lsF t n (rlS t n) 13 0 0 (0, []) = .inl f ∧ 0 < f ∧ f < 100000 ∧ w.1 1 3 = nI f) ∨ ∃ a, lsF t n (rlS t n) 13 0 0 (0, []) = .inr a ∧ w.1 1 3 = 0 ∧ w.1 o 1 = nI (tot a.2).length ∧ oC (tot a.2) (w.1 (o + 1)) ∧ (tot a.2).length ≤ 400 ∧ ∀ x, x ∈ tot a.2 → x.1 < 16 ∧ x.2 < 100000))) (OK := fun _ p a => (p ≤ n → rOK p a) ∧ (tot a.2).length ≤ 400 ∧ ∀ x, x ∈ tot a.2 → x.1 < 16 ∧ x.2 < 100000) (Rl := fun a x => rRl o s a x) (RF := fun x => kR o s x) (st0 := (0, [])) (fun a s g => rfl) (by omega) ?_ ?_ (fun x y hk hr => hr.tr (tK.r hk)) (fun a x hr => hr.1) ?_ (fun p a => rlS_cap p a) h.1 (h.r k1 ho) e2 e3 ⟨fun _ => ⟨by show 0 ≤ 60; omega, Nat.le_refl _, fun x hx => by cases hx⟩, Nat.zero_le _, fun x hx => by cases hx⟩ ⟨k1, e4, eo, trivial⟩ ?_
  · rintro c p p' a ⟨hh, h5, h6⟩ hp
    refine ⟨fun hp' => ?_, h5, h6⟩
    obtain ⟨g1, g2, g3⟩ := hh (by omega)
    exact ⟨g1, by omega, g3⟩
  · rintro a x y hk ⟨g1, g2, g3, g4⟩
    exact ⟨g1.tr (tK.r hk), by rw [hk.1 98 (by omega)]; exact g2, by rw [hk.1 o (by omega)]; exact g3, by rw [hk.1 (o + 1) (by omega)]; exact g4⟩
  · intro c p a x hc hx hp x2 x3 hok hr
    refine (c_clause ho ho2 hc hx hp x2 x3 (hok.1 hp) hr).mono ?_
    rintro w ⟨w1, w2, w3⟩
    refine ⟨w1, w2, ?_⟩
    rcases w3 with w3 | ⟨y, y1, y2, y3, y4, y5, y6⟩
    · exact Or.inl w3
    · exact Or.inr ⟨y, y1, y2, y3, y4, ⟨fun _ => y5, by have := y5.2.1; have := h.1; omega, y5.2.2⟩, y6⟩
  · rintro x hx (⟨f, f1, f2, f3, f4, f5⟩ | ⟨c, p, a, a1, a2, a3, g1, g2, g3, g4⟩)
    · exact rt_s ⟨f5, Or.inl ⟨f, f1, f2, f3, f4⟩⟩
    · exact rt_s ⟨g1, Or.inr ⟨a, a1, a2, g3, g4, a3.2.1, a3.2.2⟩⟩
end RU
