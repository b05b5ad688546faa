/-! Words. -/
abbrev isW (t : Nat → Nat) (p e : Nat) (l : List Nat) : Prop := e - p = l.length ∧ ∀ i, i < l.length → t (p + i) = l.getD i 0
def wixF (t : Nat → Nat) (p e : Nat) : Nat → List (List Nat) → Int32
  | _, [] => -1
  | j, l :: ls => if isW t p e l then nI j else wixF t p e (j + 1) ls
theorem wix_at {t : Nat → Nat} {p e : Nat} : ∀ (ws : List (List Nat)) (j k : Nat), j < ws.length → (∀ i, i < j → ¬ isW t p e (ws.getD i [])) → isW t p e (ws.getD j []) → wixF t p e k ws = nI (k + j) := by
  intro ws
  induction ws with
  | nil => intro j k h; exact absurd h (Nat.not_lt_zero _)
  | cons l ls ih =>
    intro j k hj hn hw
    show (if isW t p e l then nI k else wixF t p e (k + 1) ls) = _
    cases j with
    | zero => rw [if_pos (show isW t p e l from hw)]; rfl
    | succ j =>
      rw [if_neg (show ¬ isW t p e l from hn 0 (by omega)), ih j (k + 1) (by have : j + 1 < ls.length + 1 := hj; omega) (fun i hi => hn (i + 1) (by omega)) hw]
      congr 1; omega
theorem wix_no {t : Nat → Nat} {p e : Nat} : ∀ (ws : List (List Nat)) (k : Nat), (∀ i, i < ws.length → ¬ isW t p e (ws.getD i [])) → wixF t p e k ws = -1 := by
  intro ws
  induction ws with
  | nil => intro k _; rfl
  | cons l ls ih =>
    intro k hn
    show (if isW t p e l then nI k else wixF t p e (k + 1) ls) = _
    rw [if_neg (show ¬ isW t p e l from hn 0 (Nat.succ_pos _))]
    exact ih (k + 1) (fun i hi => hn (i + 1) (Nat.succ_lt_succ hi))
/-! the class's lists -/
def chN (o k : Nat) : Nat := (zk_sat o k).toNatClampNeg
def stW (ws : List (List Nat)) (j : Nat) : Nat := itr j (fun i x => x + (ws.getD i []).length + 1) 0
theorem stWS (ws : List (List Nat)) (j : Nat) : stW ws (j + 1) = stW ws j + (ws.getD j []).length + 1 := rfl
def strOK (o : Nat) (ws : List (List Nat)) : Prop := (∀ k, k < zk_slen o → zk_sat o k = nI (chN o k) ∧ chN o k < 128) ∧ zk_slen o < 100 ∧ 0 < ws.length ∧ zk_slen o + 1 = stW ws ws.length
  ∧ (∀ j, j < ws.length → 0 < (ws.getD j []).length ∧ ∀ i, i < (ws.getD j []).length → chN o (stW ws j + i) = (ws.getD j []).getD i 0 ∧ ¬ (ws.getD j []).getD i 0 = 32) ∧ (∀ j, j < ws.length - 1 → chN o (stW ws j + (ws.getD j []).length) = 32)
def ws10 : List (List Nat) := [[115, 109, 105, 116, 104], [112, 97, 105, 114], [115, 97, 121, 105, 110, 103], [109, 105, 110, 100, 115], [110, 101, 97, 114]]
set_option maxRecDepth 100000 in
theorem ok10 : strOK 1000010 ws10 := by unfold strOK; decide +kernel
def ws11 : List (List Nat) := [[115, 97, 121]]
set_option maxRecDepth 100000 in
theorem ok11 : strOK 1000011 ws11 := by unfold strOK; decide +kernel
def ws12 : List (List Nat) := [[112, 97, 105, 114], [115, 97, 121, 105, 110, 103], [116, 101, 109, 112, 101, 114], [98, 114, 101, 97, 107, 115], [104, 117, 114, 116], [109, 105, 110, 100, 115], [115, 97, 105, 100], [110, 101, 97, 114], [98, 97, 110, 100, 115], [114, 111, 119, 115], [100, 97, 121]]
set_option maxRecDepth 100000 in
theorem ok12 : strOK 1000012 ws12 := by unfold strOK; decide +kernel
def ws13 : List (List Nat) := [[110, 111, 116]]
set_option maxRecDepth 100000 in
theorem ok13 : strOK 1000013 ws13 := by unfold strOK; decide +kernel
def ws14 : List (List Nat) := [[105, 102]]
set_option maxRecDepth 100000 in
theorem ok14 : strOK 1000014 ws14 := by unfold strOK; decide +kernel
def ws15 : List (List Nat) := [[111, 114], [97, 110, 100]]
set_option maxRecDepth 100000 in
theorem ok15 : strOK 1000015 ws15 := by unfold strOK; decide +kernel
set_option maxRecDepth 100000 in
theorem nI_255 {c : Nat} (h : c < 128) : ((nI c &&& (255 : Int32)).toUInt32 % 65536).toInt32 = nI c := (show ∀ c, c < 128 → ((nI c &&& (255 : Int32)).toUInt32 % 65536).toInt32 = nI c by decide +kernel) c h
set_option maxRecDepth 100000 in
theorem nI_ch {c : Nat} (h : c < 128) : ((nI c).toUInt32 % 65536).toInt32 = nI c := (show ∀ c, c < 128 → ((nI c).toUInt32 % 65536).toInt32 = nI c by decide +kernel) c h
set_option maxRecDepth 100000 in
theorem nI_sh0 {c : Nat} (h : c < 100) : nI c >>> ((0 : Int32) &&& 31) = nI c := (show ∀ c, c < 100 → nI c >>> ((0 : Int32) &&& 31) = nI c by decide +kernel) c h
theorem by0 : ((0 : Int32).toInt8.toInt32 = 0) := by decide
section WO
variable {o : Nat} {ws : List (List Nat)} {s : ZS} {t : Nat → Nat} {n p : Nat}
theorem c_len (h : strOK o ws) : f_Str_length o s = some (nI (zk_slen o), s) := by
  unfold f_Str_length f_Str_coder
  rw [if_neg (by decide)]
  unfold zby
  rw [if_pos by0, zcl_s, nI_sh0 h.2.1]
theorem c_char (h : strOK o ws) {k : Nat} (hk : k < zk_slen o) : f_Str_charAt o (nI k) s = some (nI (chN o k), s) := by
  have hl := h.2.1
  obtain ⟨k1, k2⟩ := h.1 k hk
  have a1 : ¬ nI k < 0 := nI_pos (by omega)
  have a2 : nI k < nI (zk_slen o) := nI_lt hk (by omega)
  unfold f_Str_charAt f_Str_isLatin1
  rw [if_neg (by decide), if_neg (by decide), zbl_1, zcl_s, if_neg (show ¬ (1 : Int32) = 0 by decide)]
  unfold f_Latin_charAt f_Str_checkIndex f_Pre_checkIndex
  simp only [a1, a2, ↓reduceIte, zcl_s, zcv_s]
  rw [zrd_n hk (by omega), k1]
  unfold zch
  rw [nI_255 k2, if_pos (nI_ch k2), zcl_s]
  dsimp only
  rw [if_pos (nI_ch k2)]
theorem c_isWord (h : tpC t n s) (hs : strOK o ws) {f z : Nat} (e : s.1 1 2 = nI p) (hz : p + z ≤ n) (hf : f + z ≤ zk_slen o) (hz0 : 0 < z) : rt (f_Tape_isWord o (nI f) (nI z) s) (fun w => w.2 = s ∧ (w.1 = 1 ∧ (∀ i, i < z → t (p + i) = chN o (f + i)) ∨ w.1 = 0 ∧ ¬ ∀ i, i < z → t (p + i) = chN o (f + i))) := by
  obtain ⟨h1, h2, h3, h4⟩ := h
  have hl := hs.2.1
  unfold f_Tape_isWord
  simp only [zj0]
  refine lp_rt z (fun i a s1 => s1 = s ∧ a = nI i ∧ ∀ k, k < i → t (p + k) = chN o (f + k)) (by omega) ⟨rfl, rfl, fun k hk => by omega⟩ ?_ ?_
  · rintro i a s1 g hi ⟨rfl, rfl, ha⟩
    have hni : ¬ z ≤ i := by omega
    have hc := (hs.1 (f + i) (by omega)).2
    unfold f_Tape_isWord_B3
    simp (disch := omega) only [nI_leI, hni, ↓reduceIte, zgi, e, nI_add, zrd_n, h4, c_char hs (show f + i < zk_slen o by omega), zcl_s, tI_eq (h2 _) hc, nI_1]
    by_cases hb : t (p + i) = chN o (f + i)
    · left
      rw [if_pos hb]
      refine ⟨_, _, rfl, rfl, rfl, fun k hk => ?_⟩
      by_cases ek : k = i
      · rw [ek]; exact hb
      · exact ha k (by omega)
    · right
      rw [if_neg hb, zbl_0]
      exact rt_s ⟨rfl, Or.inr ⟨rfl, fun h => hb (h i hi)⟩⟩
  · rintro a s1 g ⟨rfl, rfl, ha⟩
    have hn0 : ¬ nI z ≤ 0 := by rw [nI_le0 (by omega)]; omega
    unfold f_Tape_isWord_B3
    simp (disch := omega) only [nI_leI, Nat.le_refl, ↓reduceIte, hn0, zbl_1]
    exact rt_s ⟨rfl, Or.inl ⟨rfl, ha⟩⟩
noncomputable def wamB (Fl : ZS → Option (Int32 × ZS)) (Fc : Int32 → ZS → Option (Int32 × ZS)) (Fw : Int32 → Int32 → ZS → Option (Int32 × ZS)) (v5 : Int32) (a6 : Int32 × Int32 × Int32) (s7 : ZS) (g8 : (Int32 × Int32 × Int32) → ZS → Option (Int32 × ZS)) : Option (Int32 × ZS) := zcl (Fl s7) (fun (v10 : Int32) (s9 : ZS) => (if v10 < a6.2.2 then some ((-1 : Int32), s9) else zcl (Fl s9) (fun (v12 : Int32) (s11 : ZS) => zjn (A := Int32 × Int32) (fun (a14 : Int32 × Int32) (s13 : ZS) => g8 (a14.1, a14.2, (a6.2.2 + (1 : Int32))) s13) (fun (k15 : (Int32 × Int32) → ZS → Option (Int32 × ZS)) => zj0 (fun (s16 : ZS) => zj0 (fun (s18 : ZS) => k15 ((a6.1 + (1 : Int32)), (a6.2.2 + (1 : Int32))) s18) (fun (k19 : ZS → Option (Int32 × ZS)) => (if ¬ (a6.2.2 - a6.2.1) = v5 then k19 s16 else zcl (Fw a6.2.1 v5 s16) (fun (v21 : Int32) (s20 : ZS) => (if v21 = 0 then k19 s20 else some (a6.1, s20)))))) (fun (k17 : ZS → Option (Int32 × ZS)) => (if a6.2.2 = v12 then k17 s11 else zcl (Fc a6.2.2 s11) (fun (v23 : Int32) (s22 : ZS) => (if ¬ v23 = (32 : Int32) then k15 (a6.1, a6.2.1) s22 else k17 s22))))))))
theorem wamG {Fl : ZS → Option (Int32 × ZS)} {Fc : Int32 → ZS → Option (Int32 × ZS)} {Fw : Int32 → Int32 → ZS → Option (Int32 × ZS)} {N q ee : Nat} {ch : Nat → Nat} {s1 : ZS} (cl : ∀ s : ZS, Fl s = some (nI N, s)) (cc : ∀ (k : Nat) (s : ZS), k < N → Fc (nI k) s = some (nI (ch k), s)) (c128 : ∀ k, k < N → ch k < 128)
    (ciw : ∀ f z : Nat, q + z ≤ n → f + z ≤ N → 0 < z → rt (Fw (nI f) (nI z) s1) (fun w => w.2 = s1 ∧ (w.1 = 1 ∧ (∀ i, i < z → t (q + i) = ch (f + i)) ∨ w.1 = 0 ∧ ¬ ∀ i, i < z → t (q + i) = ch (f + i))))
    (hl : N < 100) (y3 : 0 < ws.length) (y4 : N + 1 = stW ws ws.length) (y5 : ∀ j, j < ws.length → 0 < (ws.getD j []).length ∧ ∀ i, i < (ws.getD j []).length → ch (stW ws j + i) = (ws.getD j []).getD i 0 ∧ ¬ (ws.getD j []).getD i 0 = 32) (y6 : ∀ j, j < ws.length - 1 → ch (stW ws j + (ws.getD j []).length) = 32)
    (hw1 : q ≤ ee) (hw2 : ee ≤ n) (hn4 : n ≤ 400) : rt (zlp zN (wamB Fl Fc Fw (nI (ee - q))) ((0 : Int32), (0 : Int32), (0 : Int32)) s1) (fun w => w = (wixF t q ee 0 ws, s1)) := by
  have stm : ∀ j, j ≤ ws.length → stW ws j ≤ N + 1 := by
    have hm : ∀ j k, stW ws j ≤ stW ws (j + k) := by
      intro j k
      induction k with
      | zero => exact Nat.le_refl _
      | succ k ih => rw [← Nat.add_assoc, stWS]; omega
    intro j hj
    have := hm j (ws.length - j)
    rw [show j + (ws.length - j) = ws.length by omega, ← y4] at this
    exact this
  refine lp_rt (N + 1) (fun i a s2 => s2 = s1 ∧ a.2.2 = nI i ∧ ∃ j, j ≤ ws.length ∧ a.1 = nI j ∧ a.2.1 = nI (stW ws j) ∧ (∀ k, k < j → ¬ isW t q ee (ws.getD k [])) ∧ (j < ws.length ∧ stW ws j ≤ i ∧ i ≤ stW ws j + (ws.getD j []).length ∨ j = ws.length ∧ i = N + 1)) (by omega) ⟨rfl, rfl, 0, Nat.zero_le _, rfl, rfl, fun k hk => by omega, Or.inl ⟨y3, Nat.zero_le _, Nat.zero_le _⟩⟩ ?_ ?_
  · rintro i ⟨x1, x2, x3⟩ s2 g hi ⟨rfl, e3, j, hj, e1, e2, hno, hjj⟩
    dsimp only at e1 e2 e3
    subst e1 e2 e3
    obtain ⟨j1, j2, j3⟩ : j < ws.length ∧ stW ws j ≤ i ∧ i ≤ stW ws j + (ws.getD j []).length := by
      rcases hjj with h | h
      · exact h
      · omega
    have hnl : ¬ N < i := by omega
    have hst := stm (j + 1) (by omega)
    rw [stWS] at hst
    obtain ⟨w1, w2⟩ := y5 j j1
    generalize hLe : (ws.getD j []).length = L at j3 hst w1 w2
    unfold wamB
    by_cases hb : i = stW ws j + L
    · -- at the word's end
      have tl : ((∃ a' s', (zj0 (fun (s18 : ZS) => g ((nI j + (1 : Int32)), (nI i + (1 : Int32)), (nI i + (1 : Int32))) s18) (fun (k19 : ZS → Option (Int32 × ZS)) => (if ¬ (nI i - nI (stW ws j)) = nI (ee - q) then k19 s2 else zcl (Fw (nI (stW ws j)) (nI (ee - q)) s2) (fun (v21 : Int32) (s20 : ZS) => (if v21 = 0 then k19 s20 else some (nI j, s20)))))) = g a' s' ∧ (s' = s2 ∧ a'.2.2 = nI (i + 1) ∧ ∃ j, j ≤ ws.length ∧ a'.1 = nI j ∧ a'.2.1 = nI (stW ws j) ∧ (∀ k, k < j → ¬ isW t q ee (ws.getD k [])) ∧ (j < ws.length ∧ stW ws j ≤ i + 1 ∧ i + 1 ≤ stW ws j + (ws.getD j []).length ∨ j = ws.length ∧ i + 1 = N + 1))) ∨ rt (zj0 (fun (s18 : ZS) => g ((nI j + (1 : Int32)), (nI i + (1 : Int32)), (nI i + (1 : Int32))) s18) (fun (k19 : ZS → Option (Int32 × ZS)) => (if ¬ (nI i - nI (stW ws j)) = nI (ee - q) then k19 s2 else zcl (Fw (nI (stW ws j)) (nI (ee - q)) s2) (fun (v21 : Int32) (s20 : ZS) => (if v21 = 0 then k19 s20 else some (nI j, s20)))))) (fun w => w = (wixF t q ee 0 ws, s2))) := by
        have nxt : ¬ isW t q ee (ws.getD j []) → ((nI j + (1 : Int32), nI i + (1 : Int32), nI i + (1 : Int32)).2.2 = nI (i + 1) ∧ ∃ j', j' ≤ ws.length ∧ nI j + 1 = nI j' ∧ nI i + 1 = nI (stW ws j') ∧ (∀ k, k < j' → ¬ isW t q ee (ws.getD k [])) ∧ (j' < ws.length ∧ stW ws j' ≤ i + 1 ∧ i + 1 ≤ stW ws j' + (ws.getD j' []).length ∨ j' = ws.length ∧ i + 1 = N + 1)) := by
          intro hnw
          have es : stW ws (j + 1) = i + 1 := by rw [stWS, hLe]; omega
          refine ⟨nI_1 i, j + 1, by omega, nI_1 j, by rw [es, nI_1], fun k hk => ?_, ?_⟩
          · by_cases ek : k = j
            · rw [ek]; exact hnw
            · exact hno k (by omega)
          · by_cases hl2 : j + 1 < ws.length
            · exact Or.inl ⟨hl2, by omega, by omega⟩
            · have e5 : j + 1 = ws.length := by omega
              refine Or.inr ⟨e5, ?_⟩
              rw [y4, ← e5, es]
        have hsub : nI i - nI (stW ws j) = nI L := by rw [nI_sub j2]; congr 1; omega
        simp (disch := omega) only [zj0, hsub, nI_inj]
        by_cases hz : L = ee - q
        · obtain ⟨⟨v, s3⟩, r3, e3, hv⟩ := ciw (stW ws j) (ee - q) (by omega) (by omega) (by omega)
          dsimp only at e3 hv
          subst e3
          have hiw : isW t q ee (ws.getD j []) ↔ ∀ i, i < ee - q → t (q + i) = ch (stW ws j + i) := by
            constructor
            · intro hw i hi
              rw [hw.2 i (by omega), (w2 i (by omega)).1]
            · intro hw
              refine ⟨by omega, fun i hi => ?_⟩
              rw [hw i (by omega), (w2 i (by omega)).1]
          simp only [hz, not_true_eq_false, ↓reduceIte, r3, zcl_s]
          rcases hv with ⟨rfl, hv⟩ | ⟨rfl, hv⟩
          · right
            simp only [i10, ↓reduceIte]
            refine rt_s ?_
            rw [wix_at ws j 0 j1 hno (hiw.mpr hv), Nat.zero_add]
          · left
            simp only [↓reduceIte]
            exact ⟨_, _, rfl, rfl, nxt (fun hw => hv (hiw.mp hw))⟩
        · left
          simp only [hz, not_false_eq_true, ↓reduceIte]
          exact ⟨_, _, rfl, rfl, nxt (fun hw => hz (by rw [hw.1, hLe]))⟩
      by_cases hil : i = N
      · subst hil
        simp (disch := omega) only [cl, zcl_s, nI_ltI, hnl, ↓reduceIte, zjn, zj0]
        simp only [zj0] at tl
        exact tl
      · have hil' : ¬ nI i = nI (N) := by rw [nI_inj (by omega) (by omega)]; exact hil
        have hc32 : ch i = 32 := by
          rw [hb, ← hLe]
          refine y6 j ?_
          refine Nat.lt_of_not_le (fun hle => hil ?_)
          have e5 : j + 1 = ws.length := by omega
          have := y4
          rw [← e5, stWS, hLe] at this
          omega
        simp (disch := omega) only [cl, zcl_s, nI_ltI, hnl, ↓reduceIte, hil', cc i _ (show i < N by omega), hc32, show (32 : Int32) = nI 32 from rfl, not_true_eq_false, zjn, zj0]
        simp only [zj0] at tl
        exact tl
    · left
      have hil' : ¬ nI i = nI (N) := by rw [nI_inj (by omega) (by omega)]; omega
      obtain ⟨c1, c2⟩ := w2 (i - stW ws j) (by omega)
      rw [show stW ws j + (i - stW ws j) = i by omega] at c1
      have hcc : ¬ nI (ch i) = nI 32 := by rw [nI_inj (by have := c128 i (by omega); omega) (by omega), c1]; exact c2
      simp (disch := omega) only [cl, zcl_s, nI_ltI, hnl, ↓reduceIte, hil', cc i _ (show i < N by omega), show (32 : Int32) = nI 32 from rfl, hcc, not_false_eq_true, zjn, zj0, nI_1]
      exact ⟨_, _, rfl, rfl, rfl, j, by omega, rfl, rfl, hno, Or.inl ⟨j1, by omega, by rw [hLe]; omega⟩⟩
  · rintro ⟨x1, x2, x3⟩ s2 g ⟨rfl, e3, j, hj, e1, e2, hno, hjj⟩
    dsimp only at e1 e2 e3
    subst e1 e2 e3
    have hj2 : j = ws.length := by
      rcases hjj with ⟨a, b, c⟩ | ⟨a, b⟩
      · have hst := stm (j + 1) (by omega)
        rw [stWS] at hst
        omega
      · exact a
    have hnl : N < N + 1 := by omega
    unfold wamB
    simp (disch := omega) only [cl, zcl_s, nI_ltI, hnl, ↓reduceIte]
    refine rt_s ?_
    rw [wix_no ws 0 (fun i hi => hno i (by omega))]
theorem c_among (h : tpC t n s) (hs : strOK o ws) (hp : p ≤ n) (e : s.1 1 2 = nI p) : f_Tape_wordAmong o s = some (wixF t (sk t n p) (we t n (sk t n p)) 0 ws, zsI s 1 2 (nI (sk t n p))) := by
  obtain ⟨_, hq, _, _⟩ := sk_s (t := t) hp
  have nx := c_next h hp e
  generalize sk t n p = q at hq nx
  have h' : tpC t n (zsI s 1 2 (nI q)) := ⟨h.1, h.2.1, by rw [zI1, if_pos rfl, updE, if_neg (by omega)]; exact h.2.2.1, fun k => by rw [zI1, if_neg (by omega)]; exact h.2.2.2 k⟩
  have e' : (zsI s 1 2 (nI q)).1 1 2 = nI q := by rw [zI1, if_pos rfl, updE, if_pos rfl]
  obtain ⟨hw1, hw2, _, _⟩ := we_s (t := t) hq
  have wz := c_wsize h' hq e'
  have eB : f_Tape_wordAmong_B18 o = wamB (f_Str_length o) (f_Str_charAt o) (f_Tape_isWord o) := rfl
  obtain ⟨_, k1, k2⟩ := wamG (t := t) (n := n) (ws := ws) (fun s => c_len (s := s) hs) (fun k s hk => c_char (s := s) hs hk) (fun k hk => (hs.1 k hk).2) (fun f z a b c => c_isWord h' hs e' a b c) hs.2.1 hs.2.2.1 hs.2.2.2.1 hs.2.2.2.2.1 hs.2.2.2.2.2 hw1 hw2 h.1
  unfold f_Tape_wordAmong
  rw [nx, zcl_s]
  dsimp only
  rw [wz, zcl_s]
  dsimp only
  rw [eB, k1, k2]
end WO
