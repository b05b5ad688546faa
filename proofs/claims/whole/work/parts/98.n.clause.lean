/-! rule: the reference reads a clause. -/
section SD
variable {t : Nat → Nat} {n R : Nat} {s : ZS}
def isDn (x : Sum Nat ZG) : Prop := (∃ f, x = .inl f) ∨ ∃ c, x = .inr c ∧ c.2.2.2.2.1 = 4
theorem isDn.st {x : Sum Nat ZG} {k : Nat} (h : isDn (mrun t n k x)) (j : Nat) : mrun t n (k + j) x = mrun t n k x := by
  rcases h with ⟨f, h⟩ | ⟨c, h, h4⟩
  · rw [h]; exact stp_l h j
  · rw [h]; exact stp_4 h h4 j
theorem isDn.u {x : Sum Nat ZG} {k j : Nat} (h : isDn (mrun t n k x)) (h2 : isDn (mrun t n j x)) : mrun t n k x = mrun t n j x := by
  by_cases hk : k ≤ j
  · have := h.st (j - k)
    rw [show k + (j - k) = j by omega] at this
    exact this.symm
  · have := h2.st (k - j)
    rw [show j + (k - j) = k by omega] at this
    exact this
theorem prg {c : ZG} (h : mI n c) : ∀ k, (∃ f, mrun t n k (.inr c) = .inl f) ∨ ∃ c', mrun t n k (.inr c) = .inr c' ∧ mI n c' ∧ (c'.2.2.2.2.1 = 4 ∨ c.1 + k ≤ c'.1) := by
  intro k
  induction k with
  | zero => exact Or.inr ⟨c, rfl, h, Or.inr (Nat.le_refl _)⟩
  | succ k ih =>
    rcases ih with ⟨f, hf⟩ | ⟨d, hd, hm, hh⟩
    · exact Or.inl ⟨f, stp_l hf 1⟩
    · by_cases h4 : d.2.2.2.2.1 = 4
      · exact Or.inr ⟨d, stp_4 hd h4 1, hm, Or.inl h4⟩
      · rw [mrunS, hd]
        show (∃ f, stpF t n d = .inl f) ∨ ∃ c', stpF t n d = .inr c' ∧ _
        cases hs : stpF t n d with
        | inl f => exact Or.inl ⟨f, rfl⟩
        | inr c' =>
          obtain ⟨a1, a2⟩ := stp_mI hm h4 hs
          refine Or.inr ⟨c', rfl, a1, a2.imp (fun x => x) (fun x => ?_)⟩
          have := hh.resolve_left h4
          omega
theorem dn401 {c : ZG} {y : Sum Nat ZG} (hn : n ≤ 400) (h : mI n c) (hr : rch t n (.inr c) y) (hy : isDn y) : mrun t n 401 (.inr c) = y := by
  obtain ⟨k, hk⟩ := hr
  rw [← hk]
  refine isDn.u ?_ (by rw [hk]; exact hy)
  rcases prg h (t := t) 401 with h1 | ⟨c', h1, h2, h3⟩
  · exact Or.inl h1
  · refine Or.inr ⟨c', h1, h3.resolve_right ?_⟩
    have : c'.1 ≤ n := h2.1
    omega
def totM : List (List ZQo) → List ZQo
  | [] => []
  | l :: cl => l ++ totM cl
theorem tot_len : ∀ cl : List (List ZQo), (totM cl).length + cl.length = (tot cl).length := by
  intro cl
  induction cl with
  | nil => rfl
  | cons l cl ih =>
    show (l ++ totM cl).length + (cl.length + 1) = (l ++ tot cl).length + 1
    rw [List.length_append, List.length_append]
    omega
theorem apS_l {pre : List ZQo} {x : Sum Nat ZG} {f : Nat} (h : apS pre x = .inl f) : x = .inl f := by
  cases x with
  | inl g => exact h
  | inr c => cases h
theorem apS_r {pre l : List ZQo} {x : Sum Nat ZG} {r parts sm : Nat} (h : apS pre x = .inr (r, [], parts, sm, 4, l ++ pre)) : x = .inr (r, [], parts, sm, 4, l) := by
  cases x with
  | inl g => cases h
  | inr c =>
    obtain ⟨c1, c2, c3, c4, c5, c6⟩ := c
    have h' : (Sum.inr (c1, c2, c3, c4, c5, c6 ++ pre) : Sum Nat ZG) = .inr (r, [], parts, sm, 4, l ++ pre) := h
    injection h' with h'
    injection h' with h1 h'
    injection h' with h2 h'
    injection h' with h3 h'
    injection h' with h4 h'
    injection h' with h5 h6
    rw [h1, h2, h3, h4, h5, List.append_cancel_right h6]
/-- the clauses' places -/
def CT (R : Nat) : List (List ZQo) → (Nat → Int32) → Prop
  | [], _ => True
  | L :: cl, f => (∃ l l2, L = l2 ++ l ∧ sumT l ∧ (l2 = [] ∧ f (48 * R + 4 * cl.length + 2) = -1 ∨ facT l2 ∧ f (48 * R + 4 * cl.length + 2) = nI ((totM cl).length + l.length)) ∧ f (48 * R + 4 * cl.length) = nI (totM cl).length ∧ f (48 * R + 4 * cl.length + 1) = nI ((totM cl).length + l.length) ∧ f (48 * R + 4 * cl.length + 3) = nI ((totM cl).length + L.length)) ∧ CT R cl f
theorem CT_k : ∀ {cl : List (List ZQo)} {f g : Nat → Int32}, CT R cl f → (∀ k, k < 48 * R + 4 * cl.length → g k = f k) → CT R cl g := by
  intro cl
  induction cl with
  | nil => intro f g _ _; trivial
  | cons L cl ih =>
    intro f g h hg
    have hg' : ∀ k, k < 48 * R + 4 * (cl.length + 1) → g k = f k := hg
    obtain ⟨⟨l, l2, h1, h2, h3, h4, h5, h6⟩, h7⟩ := h
    refine ⟨⟨l, l2, h1, h2, ?_, ?_, ?_, ?_⟩, ih h7 (fun k hk => hg' k (by omega))⟩
    · rw [hg' _ (by omega)]; exact h3
    · rw [hg' _ (by omega)]; exact h4
    · rw [hg' _ (by omega)]; exact h5
    · rw [hg' _ (by omega)]; exact h6
def kU (R : Nat) (s s' : ZS) : Prop := (∀ b, ¬ (b = 216 ∨ 218 ≤ b ∧ b ≤ 221 ∨ b = 223) → s'.1 b = s.1 b) ∧ (∀ k, ¬ (400 * R ≤ k ∧ k < 400 * R + 400) → s'.1 218 k = s.1 218 k) ∧ (∀ k, ¬ (48 * R ≤ k ∧ k < 48 * R + 48) → s'.1 220 k = s.1 220 k) ∧ (∀ k, ¬ k = R → s'.1 221 k = s.1 221 k) ∧ (∀ j, ¬ (8 ≤ j ∧ j ≤ 10 ∨ j = 12 ∨ j = 13 ∨ j = 14 ∨ j = 16) → s'.1 216 j = s.1 216 j) ∧ s'.2 = s.2
theorem kU.rf : kU R s s := ⟨fun _ _ => rfl, fun _ _ => rfl, fun _ _ => rfl, fun _ _ => rfl, fun _ _ => rfl, rfl⟩
theorem kU.tr {s1 s2 : ZS} (h : kU R s s1) (h2 : kU R s1 s2) : kU R s s2 := ⟨fun b hb => (h2.1 b hb).trans (h.1 b hb), fun b hb => (h2.2.1 b hb).trans (h.2.1 b hb), fun b hb => (h2.2.2.1 b hb).trans (h.2.2.1 b hb), fun b hb => (h2.2.2.2.1 b hb).trans (h.2.2.2.1 b hb), fun b hb => (h2.2.2.2.2.1 b hb).trans (h.2.2.2.2.1 b hb), h2.2.2.2.2.2.trans h.2.2.2.2.2⟩
theorem kT.u {s1 : ZS} (h : kT R s s1) : kU R s s1 := ⟨fun b hb => h.1 b (by omega), h.2.1, fun k _ => by rw [h.1 220 (by omega)], fun k _ => by rw [h.1 221 (by omega)], fun j hj => h.2.2.1 j (by omega), h.2.2.2⟩
theorem mK.u {s1 : ZS} (h : mK s s1) : kU R s s1 := h.v.t.u
theorem kU.I {s1 : ZS} {j : Nat} {v : Int32} (h : kU R s s1) (hj : 8 ≤ j ∧ j ≤ 10 ∨ j = 12 ∨ j = 13 ∨ j = 14 ∨ j = 16) : kU R s (zsI s1 216 j v) := ⟨fun b hb => by rw [zI1, if_neg (by omega)]; exact h.1 b hb, fun k hk => by rw [zI1, if_neg (by omega)]; exact h.2.1 k hk, fun k hk => by rw [zI1, if_neg (by omega)]; exact h.2.2.1 k hk, fun k hk => by rw [zI1, if_neg (by omega)]; exact h.2.2.2.1 k hk, fun i a => by rw [zI1, if_pos rfl, updE, if_neg (by omega)]; exact h.2.2.2.2.1 i a, h.2.2.2.2.2⟩
theorem kU.C {s1 : ZS} {j : Nat} {v : Int32} (h : kU R s s1) (hj : 48 * R ≤ j ∧ j < 48 * R + 48) : kU R s (zsI s1 220 j v) := ⟨fun b hb => by rw [zI1, if_neg (by omega)]; exact h.1 b hb, fun k hk => by rw [zI1, if_neg (by omega)]; exact h.2.1 k hk, fun k hk => by rw [zI1, if_pos rfl, updE, if_neg (by omega)]; exact h.2.2.1 k hk, fun k hk => by rw [zI1, if_neg (by omega)]; exact h.2.2.2.1 k hk, fun i a => by rw [zI1, if_neg (by omega)]; exact h.2.2.2.2.1 i a, h.2.2.2.2.2⟩
theorem kU.L {s1 : ZS} {v : Int32} (h : kU R s s1) : kU R s (zsI s1 221 R v) := ⟨fun b hb => by rw [zI1, if_neg (by omega)]; exact h.1 b hb, fun k hk => by rw [zI1, if_neg (by omega)]; exact h.2.1 k hk, fun k hk => by rw [zI1, if_neg (by omega)]; exact h.2.2.1 k hk, fun k hk => by rw [zI1, if_pos rfl, updE, if_neg hk]; exact h.2.2.2.1 k hk, fun i a => by rw [zI1, if_neg (by omega)]; exact h.2.2.2.2.1 i a, h.2.2.2.2.2⟩
theorem tpM.u {s' : ZS} (h : tpM t n s) (hk : kU R s s') : tpM t n s' := ⟨h.1, h.2.1, by rw [hk.2.2.2.2.1 1 (by omega)]; exact h.2.2.1, fun k => by rw [hk.1 217 (by omega)]; exact h.2.2.2 k⟩
def rM (R : Nat) (s0 : ZS) (c p : Nat) (a : ZB) (s : ZS) : Prop := kU R s0 s ∧ s.1 216 14 = nI c ∧ c = a.2.length ∧ s.1 221 R = nI c ∧ MS R a.1 (totM a.2) s ∧ CT R a.2 (s.1 220) ∧ np (totM a.2) ≤ a.1 ∧ rOK p a ∧ ∀ x, x ∈ totM a.2 → x.1 < 16 ∧ x.2 < 100000
/-- what a clause says -/
theorem m_say {p c q parts : Nat} {cl : List (List ZQo)} {s0 : ZS} (hR : R < 6) (h : tpM t n s) (hq : q ≤ n) (hqq : sk t n q = q) (hp : p ≤ q) (hsay : isW t q (we t n q) [115, 97, 121]) (hc : c < 12) (e : s.1 216 8 = nI q) (e9 : s.1 216 9 = 0) (e14 : s.1 216 14 = nI (c + 1)) (k0 : kU R s0 s) (hcl : c = cl.length) (h221 : s.1 221 R = nI c) (hM : MS R parts (totM cl) s) (hC : CT R cl (s.1 220)) (hnp : np (totM cl) ≤ parts) (hO : rOK p (parts, cl)) (hb : ∀ x, x ∈ totM cl → x.1 < 16 ∧ x.2 < 100000) :
    rt (f_Model_isSayHere s) (fun w => kU R s0 w.2 ∧ ((∃ f, mrun t n 401 (.inr (we t n q, [], parts, 0, 0, [])) = .inl f ∧ w.1 = 0 ∧ 0 < f ∧ f < 100000 ∧ w.2.1 216 9 = nI f) ∨ ∃ r parts' sm l, mrun t n 401 (.inr (we t n q, [], parts, 0, 0, [])) = .inr (r, [], parts', sm, 4, l) ∧ w.1 = 1 ∧ r ≤ n ∧ w.2.1 216 8 = nI r ∧ w.2.1 216 9 = 0 ∧ rM R s0 (c + 1) r (parts', l :: cl) w.2)) := by
  have hn4 := h.1
  obtain ⟨hw1, hw2, _, _⟩ := we_s (t := t) hq
  have hl3 : we t n q - q = 3 := hsay.1
  obtain ⟨o1, o2, o3⟩ := hO
  dsimp only at o1 o2 o3
  have tl := tot_len cl
  have hmi : mI n (we t n q, [], parts, 0, 0, totM cl) := ⟨hw2, trivial, Nat.zero_le _, o1, Nat.zero_le _, Nat.zero_le _, by show (totM cl).length + 0 + 1 ≤ we t n q; omega, (fun e => by cases e), hb⟩
  have par : mrun t n 401 (.inr (we t n q, [], parts, 0, 0, totM cl)) = apS (totM cl) (mrun t n 401 (.inr (we t n q, [], parts, 0, 0, []))) := mrun_ap (x := .inr (we t n q, [], parts, 0, 0, [])) 401
  have par2 : mrun t n 401 (.inr (we t n q, [], parts, 0, 0, tot cl)) = apS (tot cl) (mrun t n 401 (.inr (we t n q, [], parts, 0, 0, []))) := mrun_ap (x := .inr (we t n q, [], parts, 0, 0, [])) 401
  generalize hY : mrun t n 401 (.inr (we t n q, [], parts, 0, 0, [])) = Y at par par2
  generalize hX : (.inr (we t n q, [], parts, 0, 0, totM cl) : Sum Nat ZG) = X at par
  have dn : ∀ y, rch t n X y → isDn y → apS (totM cl) Y = y := fun y hy hd => by
    rw [← par, ← hX]
    refine dn401 hn4 hmi ?_ hd
    rw [hX]; exact hy
  unfold f_Model_isSayHere
  rw [m_passWord h hq e, zcv_s]
  have k1 : mK s (zsI s 216 8 (nI (we t n q))) := mK.rf.I (by omega)
  have p1 : (zsI s 216 8 (nI (we t n q))).1 216 8 = nI (we t n q) := by rw [zI1, if_pos rfl, updE, if_pos rfl]
  have q1 : (zsI s 216 8 (nI (we t n q))).1 216 9 = 0 := by rw [zI1, if_pos rfl, updE, if_neg (by omega)]; exact e9
  have y1 : (zsI s 216 8 (nI (we t n q))).1 216 14 = nI (c + 1) := by rw [zI1, if_pos rfl, updE, if_neg (by omega)]; exact e14
  generalize zsI s 216 8 (nI (we t n q)) = s1 at k1 p1 q1 y1
  have M1 := hM.k k1
  have e1 : s1.1 221 R = nI c := by rw [k1.1 221 (by omega)]; exact h221
  have C1 : CT R cl (s1.1 220) := by rw [k1.1 220 (by omega)]; exact hC
  have u1 : kU R s0 s1 := k0.tr k1.u
  obtain ⟨m11, m12, m219, mcc⟩ := id M1
  simp only [zgi, m11]
  rw [zrd_n (by omega) (by omega), e1, zrd_n (by omega) (by omega), m219]
  have ix : (48 : Int32) * nI R + (4 : Int32) * nI c = nI (48 * R + 4 * c) := by rw [show (48 : Int32) = nI 48 from rfl, show (4 : Int32) = nI 4 from rfl, nI_mulR, nI_mulR, nI_add]
  have ix1 : nI (48 * R + 4 * c) + 1 = nI (48 * R + 4 * c + 1) := nI_1 _
  have ix2 : nI (48 * R + 4 * c) + 2 = nI (48 * R + 4 * c + 2) := by rw [show (2 : Int32) = nI 2 from rfl, nI_add]
  have ix3 : nI (48 * R + 4 * c) + 3 = nI (48 * R + 4 * c + 3) := by rw [show (3 : Int32) = nI 3 from rfl, nI_add]
  simp only [ix, ix1, ix2, ix3]
  rw [zwa_n (by omega) (by omega)]
  have u2 : kU R s0 (zsI s1 220 (48 * R + 4 * c) (nI (totM cl).length)) := u1.C (by omega)
  have c2 : (zsI s1 220 (48 * R + 4 * c) (nI (totM cl).length)).1 220 = upd (s1.1 220) (48 * R + 4 * c) (nI (totM cl).length) := by rw [zI1, if_pos rfl]
  have d2 : ∀ b, b ≠ 220 → (zsI s1 220 (48 * R + 4 * c) (nI (totM cl).length)).1 b = s1.1 b := fun b hb => by rw [zI1, if_neg hb]
  have h2' : tpM t n (zsI s1 220 (48 * R + 4 * c) (nI (totM cl).length)) := (h.k k1).u ((kU.rf (R := R)).C (by omega))
  generalize zsI s1 220 (48 * R + 4 * c) (nI (totM cl).length) = s2 at u2 c2 d2 h2'
  have M2 : MS R parts (totM cl) s2 := M1.kt (by rw [d2 216 (by omega)]) (by rw [d2 216 (by omega)]) (d2 219 (by omega)) (d2 218 (by omega))
  have sum := m_sum hR h2' hmi (W0 := []) (fun k W' e => by cases e) hnp (Or.inl (by rw [d2 216 (by omega)]; exact p1)) (by rw [d2 216 (by omega)]; exact q1) M2
  have lift : ∀ y, rch t n (stpF t n (we t n q, [], parts, 0, 0, totM cl)) y → rch t n X y := fun y hy => by rw [← hX]; exact rch.s hy
  refine rt_cl sum ?_
  rintro v s3 ⟨k3, ⟨f, m1, rfl, f0, f1, f2⟩ | ⟨rfl, q3, r, parts', W1, ro1, l, z1, z2, z3, z4, z5, p3, M3, z8⟩⟩
  · dsimp only at k3 f2
    simp only [not_true_eq_false, ↓reduceIte, zbl_0]
    exact rt_s ⟨u2.tr k3.t.u, Or.inl ⟨f, apS_l (dn _ (lift _ m1) (Or.inl ⟨f, rfl⟩)), rfl, f0, f1, f2⟩⟩
  · dsimp only at k3 q3 p3 M3
    have z1' := lift _ z1
    simp only [i10, not_false_eq_true, ↓reduceIte]
    have h3 := h2'.v k3
    have hr : r ≤ n := z2.1
    obtain ⟨skr, hqr, _, _⟩ := sk_s (t := t) hr
    have hqqr := sk_sk (t := t) hr
    have r1 := rls_eq (b := 1) (by omega) z3
    have r1' : rls 1 W1 ro1 = ([], l ++ totM cl) := r1
    have ln := (rls_i (b := 5) (by omega) W1 ro1 z2.2.1).2.1
    rw [z3] at ln
    have ln' : 0 + (l ++ totM cl).length = W1.length + ro1.length := ln
    have lm : ro1.length + W1.length + 1 ≤ r := z2.2.2.2.2.2.2.1
    have la : (l ++ totM cl).length = l.length + (totM cl).length := List.length_append
    have g1 : s3.1 220 = upd (s1.1 220) (48 * R + 4 * c) (nI (totM cl).length) := by rw [k3.1 220 (by omega), c2]
    have g2 : s3.1 221 R = nI c := by rw [k3.1 221 (by omega), d2 221 (by omega)]; exact e1
    have g14 : s3.1 216 14 = nI (c + 1) := by rw [k3.2.2.1 14 (by omega), d2 216 (by omega)]; exact y1
    have stq : stpF t n (r, W1, parts', 0, 2, ro1) = (if isW t (sk t n r) (we t n (sk t n r)) [105, 102] then .inr (we t n (sk t n r), [], parts', 0, 1, l ++ totM cl) else .inr (sk t n r, [], parts', 0, 4, l ++ totM cl)) := by
      rw [stp2]
      unfold bvF
      rw [if_neg (fun x => x z8), if_pos rfl, r1']
    obtain ⟨n11, n12, n219, ncc⟩ := id M3
    rw [n11, zrd_n (by omega) (by omega), n219, zwa_n (by omega) (by omega), zwa_n (by omega) (by omega)]
    generalize hs4 : zsI (zsI s3 220 (48 * R + 4 * c + 1) (nI (l ++ totM cl).length)) 220 (48 * R + 4 * c + 2) (-1) = s4
    have u4 : kU R s3 s4 := by rw [← hs4]; exact ((kU.rf (R := R)).C (by omega)).C (by omega)
    have d4 : ∀ b, b ≠ 220 → s4.1 b = s3.1 b := fun b hb => by rw [← hs4, zI1, if_neg hb, zI1, if_neg hb]
    have c4 : s4.1 220 = upd (upd (s3.1 220) (48 * R + 4 * c + 1) (nI (l ++ totM cl).length)) (48 * R + 4 * c + 2) (-1) := by rw [← hs4, zI1, if_pos rfl, zI1, if_pos rfl]
    clear hs4
    have h4 := h3.u u4
    have M4 : MS R parts' (l ++ totM cl) s4 := M3.kt (by rw [d4 216 (by omega)]) (by rw [d4 216 (by omega)]) (d4 219 (by omega)) (d4 218 (by omega))
    have p4 : s4.1 216 8 = nI (sk t n r) := by rw [d4 216 (by omega)]; exact p3
    have q4 : s4.1 216 9 = 0 := by rw [d4 216 (by omega)]; exact q3
    have U4 : kU R s0 s4 := (u2.tr k3.t.u).tr u4
    -- the end of a clause
    have fin : ∀ (s9 : ZS) (r9 parts9 sm9 : Nat) (l2 : List ZQo), kU R s0 s9 → tpM t n s9 → rch t n X (.inr (r9, [], parts9, sm9, 4, l2 ++ (l ++ totM cl))) → mI n (r9, [], parts9, sm9, 4, l2 ++ (l ++ totM cl)) → np (l2 ++ (l ++ totM cl)) ≤ parts9 → s9.1 216 8 = nI r9 → s9.1 216 9 = 0 → s9.1 216 14 = nI (c + 1) → MS R parts9 (l2 ++ (l ++ totM cl)) s9 → s9.1 221 R = nI c → (∀ k, k < 48 * R + 4 * c → s9.1 220 k = s1.1 220 k) → s9.1 220 (48 * R + 4 * c) = nI (totM cl).length → s9.1 220 (48 * R + 4 * c + 1) = nI (l ++ totM cl).length → (l2 = [] ∧ s9.1 220 (48 * R + 4 * c + 2) = -1 ∨ facT l2 ∧ s9.1 220 (48 * R + 4 * c + 2) = nI (l ++ totM cl).length) → rt (zrd 7 (s9.1 216 11) (s9.1 219) (fun (v19 : Int32) => zwa s9 220 288 (nI (48 * R + 4 * c + 3)) v19 (fun (s20 : ZS) => zrd 6 (s20.1 216 11) (s20.1 221) (fun (v22 : Int32) => zwa s20 221 6 (s20.1 216 11) (v22 + (1 : Int32)) (fun (s23 : ZS) => zbl (1 : Int32) s23))))) (fun w => kU R s0 w.2 ∧ ((∃ f, Y = .inl f ∧ w.1 = 0 ∧ 0 < f ∧ f < 100000 ∧ w.2.1 216 9 = nI f) ∨ ∃ r parts' sm l, Y = .inr (r, [], parts', sm, 4, l) ∧ w.1 = 1 ∧ r ≤ n ∧ w.2.1 216 8 = nI r ∧ w.2.1 216 9 = 0 ∧ rM R s0 (c + 1) r (parts', l :: cl) w.2)) := by
      intro s9 r9 parts9 sm9 l2 v0 v1 v2 v3 v4 v5 v6 v7 v8 v9 v10 v11 v12 v13
      obtain ⟨a11, a12, a219, acc⟩ := id v8
      have asc : l2 ++ (l ++ totM cl) = (l2 ++ l) ++ totM cl := (List.append_assoc _ _ _).symm
      rw [asc] at v2
      have hY9 := apS_r (dn _ v2 (Or.inr ⟨_, rfl, rfl⟩))
      have b7 : (l2 ++ (l ++ totM cl)).length + 0 + 1 ≤ r9 := v3.2.2.2.2.2.2.1
      have lb : (l2 ++ (l ++ totM cl)).length = l2.length + (l.length + (totM cl).length) := by rw [List.length_append, List.length_append]
      have lc : (l2 ++ l).length = l2.length + l.length := List.length_append
      have r9n : r9 ≤ n := v3.1
      rw [a11, zrd_n (by omega) (by omega), a219, zwa_n (by omega) (by omega)]
      have w1 : (zsI s9 220 (48 * R + 4 * c + 3) (nI (l2 ++ (l ++ totM cl)).length)).1 216 11 = nI R := by rw [zI1, if_neg (by omega)]; exact a11
      have w2 : (zsI s9 220 (48 * R + 4 * c + 3) (nI (l2 ++ (l ++ totM cl)).length)).1 221 R = nI c := by rw [zI1, if_neg (by omega)]; exact v9
      rw [w1, zrd_n (by omega) (by omega), w2, nI_1, zwa_n (by omega) (by omega), zbl_1]
      have cc : ∀ k, (zsI (zsI s9 220 (48 * R + 4 * c + 3) (nI (l2 ++ (l ++ totM cl)).length)) 221 R (nI (c + 1))).1 220 k = if k = 48 * R + 4 * c + 3 then nI (l2 ++ (l ++ totM cl)).length else s9.1 220 k := fun k => by rw [zI1, if_neg (by omega), zI1, if_pos rfl, updE]
      have dd : ∀ b, b ≠ 220 → b ≠ 221 → (zsI (zsI s9 220 (48 * R + 4 * c + 3) (nI (l2 ++ (l ++ totM cl)).length)) 221 R (nI (c + 1))).1 b = s9.1 b := fun b h1 h2 => by rw [zI1, if_neg h2, zI1, if_neg h1]
      have uu : kU R s0 (zsI (zsI s9 220 (48 * R + 4 * c + 3) (nI (l2 ++ (l ++ totM cl)).length)) 221 R (nI (c + 1))) := (v0.C (by omega)).L
      have ee : (zsI (zsI s9 220 (48 * R + 4 * c + 3) (nI (l2 ++ (l ++ totM cl)).length)) 221 R (nI (c + 1))).1 221 R = nI (c + 1) := by rw [zI1, if_pos rfl, updE, if_pos rfl]
      generalize zsI (zsI s9 220 (48 * R + 4 * c + 3) (nI (l2 ++ (l ++ totM cl)).length)) 221 R (nI (c + 1)) = s10 at cc dd uu ee
      have tt : totM ((l2 ++ l) :: cl) = l2 ++ (l ++ totM cl) := asc.symm
      have d0 : s10.1 216 = s9.1 216 := dd 216 (by omega) (by omega)
      refine rt_s ⟨uu, Or.inr ⟨r9, parts9, sm9, l2 ++ l, hY9, rfl, r9n, by show s10.1 216 8 = _; rw [d0]; exact v5, by show s10.1 216 9 = 0; rw [d0]; exact v6, uu, by rw [d0]; exact v7, by show c + 1 = cl.length + 1; omega, ee, ?_, ⟨⟨l, l2, rfl, z4, ?_, ?_, ?_, ?_⟩, ?_⟩, ?_, ⟨v3.2.2.2.1, ?_, ?_⟩, ?_⟩⟩
      · show MS R parts9 (totM ((l2 ++ l) :: cl)) s10
        rw [tt]
        exact v8.kt (by rw [d0]) (by rw [d0]) (dd 219 (by omega) (by omega)) (dd 218 (by omega) (by omega))
      · rw [← hcl, cc, if_neg (by omega), show (totM cl).length + l.length = (l ++ totM cl).length by omega]; exact v13
      · rw [← hcl, cc, if_neg (by omega)]; exact v11
      · rw [← hcl, cc, if_neg (by omega), v12, la, Nat.add_comm]
      · rw [← hcl, cc, if_pos rfl, lb, lc, show l2.length + (l.length + (totM cl).length) = (totM cl).length + (l2.length + l.length) by omega]
      · refine CT_k C1 (fun k hk => ?_)
        rw [← hcl] at hk
        show s10.1 220 k = _
        rw [cc, if_neg (by omega)]; exact v10 k hk
      · show np (totM ((l2 ++ l) :: cl)) ≤ parts9
        rw [tt]; exact v4
      · show ((l2 ++ l) ++ tot cl).length + 1 ≤ r9
        rw [List.length_append, lc]
        have hmi2 : mI n (we t n q, [], parts, 0, 0, tot cl) := ⟨hw2, trivial, Nat.zero_le _, o1, Nat.zero_le _, Nat.zero_le _, by show (tot cl).length + 0 + 1 ≤ we t n q; omega, (fun e => by cases e), o3⟩
        have hh : ((l2 ++ l) ++ tot cl).length + 0 + 1 ≤ r9 := (orb hmi2 401 (r9, [], parts9, sm9, 4, (l2 ++ l) ++ tot cl) (by rw [par2, hY9]; rfl)).1.2.2.2.2.2.2.1
        rw [List.length_append, lc] at hh
        omega
      · intro x hx
        have hx' : x ∈ (15, 0) :: ((l2 ++ l) ++ tot cl) := hx
        cases hx' with
        | head => exact ⟨by show 15 < 16; omega, by show 0 < 100000; omega⟩
        | tail _ hx' =>
          rcases List.mem_append.mp hx' with h1 | h1
          · exact v3.2.2.2.2.2.2.2.2 x (by show x ∈ l2 ++ (l ++ totM cl); rw [asc]; exact List.mem_append.mpr (Or.inl h1))
          · exact o3 x h1
      · intro x hx
        have hx' : x ∈ totM ((l2 ++ l) :: cl) := hx
        rw [tt] at hx'
        exact v3.2.2.2.2.2.2.2.2 x hx'
    unfold f_Model_takesWord
    rw [m_isWord lt_if h4 hqr p4 hqqr, zcl_s]
    simp only [zj0]
    by_cases hif : isW t (sk t n r) (we t n (sk t n r)) [105, 102]
    · rw [if_pos hif] at stq
      have mI5 := (stp_mI z2 (show ¬ (2 : Nat) = 4 by omega) stq).1
      have z5' := z1'.tr (rch.s (by rw [stq]; exact rch.rf))
      obtain ⟨_, hw5, _, _⟩ := we_s (t := t) hqr
      simp only [if_pos hif, i10, not_false_eq_true, ↓reduceIte]
      rw [m_passWord h4 hqr p4, zcv_s, zbl_1, zcl_s]
      dsimp only
      rw [if_neg (show ¬ (1 : Int32) = 0 by decide)]
      have k5 : mK s4 (zsI s4 216 8 (nI (we t n (sk t n r)))) := mK.rf.I (by omega)
      have p5 : (zsI s4 216 8 (nI (we t n (sk t n r)))).1 216 8 = nI (we t n (sk t n r)) := by rw [zI1, if_pos rfl, updE, if_pos rfl]
      have q5 : (zsI s4 216 8 (nI (we t n (sk t n r)))).1 216 9 = 0 := by rw [zI1, if_pos rfl, updE, if_neg (by omega)]; exact q4
      generalize zsI s4 216 8 (nI (we t n (sk t n r))) = s5 at k5 p5 q5
      have M5 := M4.k k5
      obtain ⟨a11, a12, a219, acc⟩ := id M5
      rw [a11, zrd_n (by omega) (by omega), a219, zwa_n (by omega) (by omega)]
      have u6 : kU R s5 (zsI s5 220 (48 * R + 4 * c + 2) (nI (l ++ totM cl).length)) := (kU.rf (R := R)).C (by omega)
      have c6 : (zsI s5 220 (48 * R + 4 * c + 2) (nI (l ++ totM cl).length)).1 220 = upd (s5.1 220) (48 * R + 4 * c + 2) (nI (l ++ totM cl).length) := by rw [zI1, if_pos rfl]
      have d6 : ∀ b, b ≠ 220 → (zsI s5 220 (48 * R + 4 * c + 2) (nI (l ++ totM cl).length)).1 b = s5.1 b := fun b hb => by rw [zI1, if_neg hb]
      generalize zsI s5 220 (48 * R + 4 * c + 2) (nI (l ++ totM cl).length) = s6 at u6 c6 d6
      have h6 := (h4.k k5).u u6
      have M6 : MS R parts' (l ++ totM cl) s6 := M5.kt (by rw [d6 216 (by omega)]) (by rw [d6 216 (by omega)]) (d6 219 (by omega)) (d6 218 (by omega))
      refine rt_cl (m_tested hR h6 mI5 z5 (by rw [d6 216 (by omega)]; exact p5) (by rw [d6 216 (by omega)]; exact q5) M6) ?_
      have U6 : kU R s0 s6 := (U4.tr k5.u).tr u6
      rintro v s7 ⟨k7, ⟨f, m1, rfl, f0, f1, f2⟩ | ⟨rfl, q7, r7, parts7, l7, t1, t2, t3, t4, t5, t6⟩⟩
      · dsimp only at k7 f2
        simp only [not_true_eq_false, ↓reduceIte, zbl_0]
        exact rt_s ⟨U6.tr k7.u, Or.inl ⟨f, apS_l (dn _ (z5'.tr m1) (Or.inl ⟨f, rfl⟩)), rfl, f0, f1, f2⟩⟩
      · dsimp only at k7 q7 t5 t6
        simp only [i10, not_false_eq_true, ↓reduceIte]
        have e220 : s7.1 220 = upd (upd (upd (upd (s1.1 220) (48 * R + 4 * c) (nI (totM cl).length)) (48 * R + 4 * c + 1) (nI (l ++ totM cl).length)) (48 * R + 4 * c + 2) (-1)) (48 * R + 4 * c + 2) (nI (l ++ totM cl).length) := by rw [k7.1 220 (by omega), c6, k5.1 220 (by omega), c4, g1]
        refine fin s7 r7 parts7 2 l7 (U6.tr k7.u) (h6.kt k7) (z5'.tr t1) t2 t4 t5 q7 ?_ t6 ?_ (fun k hk => ?_) ?_ ?_ (Or.inr ⟨t3, ?_⟩)
        · rw [k7.2.2.1 14 (by omega), d6 216 (by omega), k5.2.1 14 (by omega), d4 216 (by omega)]; exact g14
        · rw [k7.1 221 (by omega), d6 221 (by omega), k5.1 221 (by omega), d4 221 (by omega)]; exact g2
        · rw [e220, updE, if_neg (by omega), updE, if_neg (by omega), updE, if_neg (by omega), updE, if_neg (by omega)]
        · rw [e220, updE, if_neg (by omega), updE, if_neg (by omega), updE, if_neg (by omega), updE, if_pos rfl]
        · rw [e220, updE, if_neg (by omega), updE, if_neg (by omega), updE, if_pos rfl]
        · rw [e220, updE, if_pos rfl]
    · rw [if_neg hif] at stq
      simp only [if_neg hif, not_true_eq_false, ↓reduceIte]
      rw [zbl_0, zcl_s]
      dsimp only
      rw [if_pos rfl]
      refine fin s4 (sk t n r) parts' 0 [] U4 h4 (z1'.tr (rch.s (by rw [stq]; exact rch.rf))) (stp_mI z2 (show ¬ (2 : Nat) = 4 by omega) stq).1 z5 p4 q4 (by rw [d4 216 (by omega)]; exact g14) M4 (by rw [d4 221 (by omega)]; exact g2) (fun k hk => ?_) ?_ ?_ (Or.inl ⟨rfl, ?_⟩)
      · rw [c4, g1, updE, if_neg (by omega), updE, if_neg (by omega), updE, if_neg (by omega)]
      · rw [c4, g1, updE, if_neg (by omega), updE, if_neg (by omega), updE, if_pos rfl]
      · rw [c4, g1, updE, if_neg (by omega), updE, if_pos rfl]
      · rw [c4, g1, updE, if_pos rfl]
theorem m_rclause {c p : Nat} {a : ZB} {s0 : ZS} (hR : R < 6) (hc : c ≤ 12) (h : tpM t n s) (hp : p ≤ n) (e : s.1 216 8 = nI p) (e9 : s.1 216 9 = 0) (hm : rM R s0 c p a s) : rt (f_Model_clauseHere s) (fun w => tpM t n w.2 ∧ ((∃ f, rlS t n c p a = .inl f ∧ w.1 = 0 ∧ 0 < f ∧ f < 100000 ∧ w.2.1 216 9 = nI f ∧ kU R s0 w.2) ∨ ∃ x, rlS t n c p a = .inr x ∧ w.1 = 1 ∧ x.1 ≤ n ∧ w.2.1 216 8 = nI x.1 ∧ w.2.1 216 9 = 0 ∧ rM R s0 (c + 1) x.1 x.2 w.2)) := by
  have hn4 := h.1
  obtain ⟨parts, cl⟩ := a
  obtain ⟨k0, e14, hcl, h221, hM, hC, hnp, hO, hb⟩ := hm
  dsimp only at hcl hM hC hnp hb
  obtain ⟨sk1, hq, _, _⟩ := sk_s (t := t) hp
  have hqq := sk_sk (t := t) hp
  unfold f_Model_clauseHere rlS
  rw [m_next h hp e, zcl_s]
  dsimp only
  generalize sk t n p = q at sk1 hq hqq
  have k1 : mK s (zsI s 216 8 (nI q)) := mK.rf.I (by omega)
  have p1 : (zsI s 216 8 (nI q)).1 216 8 = nI q := by rw [zI1, if_pos rfl, updE, if_pos rfl]
  have q1 : (zsI s 216 8 (nI q)).1 216 9 = 0 := by rw [zI1, if_pos rfl, updE, if_neg (by omega)]; exact e9
  have y1 : (zsI s 216 8 (nI q)).1 216 14 = nI c := by rw [zI1, if_pos rfl, updE, if_neg (by omega)]; exact e14
  generalize zsI s 216 8 (nI q) = s1 at k1 p1 q1 y1
  have h1 := h.k k1
  have M1 := hM.k k1
  have u1 : kU R s0 s1 := k0.tr k1.u
  have t11 : s1.1 216 11 = nI R := M1.1
  have nR : ¬ nI R = 6 := by rw [show (6 : Int32) = nI 6 from rfl, nI_inj (by omega) (by omega)]; omega
  simp only [zgi, zj0, zjn, p1, t11, nR, not_false_eq_true, ↓reduceIte]
  rw [m_isWord lt_say h1 hq p1 hqq, zcl_s]
  dsimp only
  have bad : ∀ k : Nat, k ≤ 4 → ∀ r : Sum Nat (Nat × ZB), r = .inl (1 + 8 * q + k) → rt (zcl (f_Model_fails (nI k) (nI q) s1) (fun v25 s24 => zbl v25 s24)) (fun w => tpM t n w.2 ∧ ((∃ f, r = .inl f ∧ w.1 = 0 ∧ 0 < f ∧ f < 100000 ∧ w.2.1 216 9 = nI f ∧ kU R s0 w.2) ∨ ∃ x, r = .inr x ∧ w.1 = 1 ∧ x.1 ≤ n ∧ w.2.1 216 8 = nI x.1 ∧ w.2.1 216 9 = 0 ∧ rM R s0 (c + 1) x.1 x.2 w.2)) := by
    intro k hk r hr
    rw [m_fails q1, zcl_s]
    have k2 : mK s1 (zsI s1 216 9 (nI (1 + 8 * q + k))) := mK.rf.I (by omega)
    exact rt_bl ⟨h1.k k2, Or.inl ⟨_, hr, rfl, by omega, by omega, by rw [zI1, if_pos rfl, updE, if_pos rfl], u1.tr k2.u⟩⟩ (Or.inl rfl)
  by_cases hsay : isW t q (we t n q) [115, 97, 121]
  · simp only [if_pos hsay, i10, not_false_eq_true, ↓reduceIte, y1]
    rw [if_neg (show ¬ ¬ isW t q (we t n q) [115, 97, 121] from fun x => x hsay)]
    by_cases h12 : 12 ≤ c
    · rw [if_pos h12, if_neg (show ¬ ¬ nI c = 12 from fun x => x (by rw [show c = 12 by omega]; rfl))]
      exact bad 4 (by omega) _ rfl
    · rw [if_neg h12, if_pos (show ¬ nI c = 12 by rw [show (12 : Int32) = nI 12 from rfl, nI_inj (by omega) (by omega)]; omega), nI_1]
      simp only [zwi]
      have u2 : kU R s1 (zsI s1 216 14 (nI (c + 1))) := (kU.rf (R := R)).I (by omega)
      have f2 : ∀ j, j ≠ 14 → (zsI s1 216 14 (nI (c + 1))).1 216 j = s1.1 216 j := fun j hj => by rw [zI1, if_pos rfl, updE, if_neg hj]
      have d2 : ∀ b, b ≠ 216 → (zsI s1 216 14 (nI (c + 1))).1 b = s1.1 b := fun b hb => by rw [zI1, if_neg hb]
      have g2 : (zsI s1 216 14 (nI (c + 1))).1 216 14 = nI (c + 1) := by rw [zI1, if_pos rfl, updE, if_pos rfl]
      generalize zsI s1 216 14 (nI (c + 1)) = s2 at u2 f2 d2 g2
      have h2 := h1.u u2
      have M2 : MS R parts (totM cl) s2 := M1.kt (f2 11 (by omega)) (f2 12 (by omega)) (d2 219 (by omega)) (d2 218 (by omega))
      refine rt_cl (m_say hR h2 hq hqq sk1 hsay (by omega) (by rw [f2 8 (by omega)]; exact p1) (by rw [f2 9 (by omega)]; exact q1) g2 (u1.tr u2) hcl (by rw [d2 221 (by omega), k1.1 221 (by omega)]; exact h221) M2 (by rw [d2 220 (by omega), k1.1 220 (by omega)]; exact hC) hnp hO hb) ?_
      have hT : ∀ s9 : ZS, kU R s0 s9 → tpM t n s9 := fun s9 hk => ⟨h.1, h.2.1, by rw [hk.2.2.2.2.1 1 (by omega), ← k0.2.2.2.2.1 1 (by omega)]; exact h.2.2.1, fun k => by rw [hk.1 217 (by omega), ← k0.1 217 (by omega)]; exact h.2.2.2 k⟩
      rintro v s3 ⟨k3, ⟨f, m1, rfl, f0, f1, f2⟩ | ⟨r, parts', sm, l, m1, rfl, m2, m3, m4, m5⟩⟩
      · exact rt_bl ⟨hT _ k3, Or.inl ⟨f, by rw [m1]; rfl, rfl, f0, f1, f2, k3⟩⟩ (Or.inl rfl)
      · exact rt_bl ⟨hT _ k3, Or.inr ⟨(r, parts', l :: cl), by rw [m1]; rfl, rfl, m2, m3, m4, m5⟩⟩ (Or.inr rfl)
  · simp only [if_neg hsay, not_true_eq_false, ↓reduceIte]
    rw [if_pos hsay]
    exact bad 0 (by omega) _ rfl
end SD
