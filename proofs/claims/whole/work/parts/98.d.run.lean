/-! rule: the class's clauses. -/
section RT
variable {t : Nat → Nat} {n q o parts sm : Nat} {W : List Nat} {ro : List ZQo} {s : ZS}
theorem c_opr {g : Int32} : f_Reader_operator g s = some (if opK g = 0 then -1 else nI (opK g), s) := by
  unfold f_Reader_operator opK
  by_cases h1 : g = 37
  · simp only [h1, ↓reduceIte]; rfl
  · by_cases h2 : g = 42
    · simp only [h1, h2, ↓reduceIte]; rfl
    · by_cases h3 : g = 43
      · simp only [h1, h2, h3, ↓reduceIte]; rfl
      · by_cases h4 : g = 45
        · simp only [h1, h2, h3, h4, ↓reduceIte]; rfl
        · by_cases h5 : g = 47
          · simp only [h1, h2, h3, h4, h5, ↓reduceIte]; rfl
          · simp only [h1, h2, h3, h4, h5, ↓reduceIte]
theorem c_cmp (h : tpC t n s) (hq : q ≤ n) (e : s.1 1 2 = nI q) : f_Reader_comparison (sgn t n q) s = some (if cmK t n q = 0 then -1 else nI (cmK t n q), s) := by
  have hn4 := h.1
  have ff : f_Tape_followsAtOnce 61 s = some (if q + 1 < n ∧ t (q + 1) = 61 then 1 else 0, s) := by
    unfold f_Tape_followsAtOnce
    simp (disch := omega) only [zgi, e, h.2.2.1, nI_1, nI_leI]
    by_cases hn : n ≤ q + 1
    · rw [if_pos hn, if_neg (fun x => absurd x.1 (by omega)), zbl_0]
    · rw [if_neg hn, zrd_n (by omega) (by omega), h.2.2.2, show (61 : Int32) = nI 61 from rfl]
      simp only [tI_eq (h.2.1 (q + 1)) (show 61 < 128 by omega)]
      by_cases h61 : t (q + 1) = 61
      · simp only [h61, not_true_eq_false, ↓reduceIte, zbl_1]
        rw [if_pos ⟨by omega, trivial⟩]
      · simp only [h61, not_false_eq_true, ↓reduceIte, zbl_0, and_false]
  unfold f_Reader_comparison cmK
  rw [ff, zcl_s]
  dsimp only
  by_cases h1 : sgn t n q = 60
  · simp only [h1, ↓reduceIte]
    by_cases h2 : q + 1 < n ∧ t (q + 1) = 61
    · simp only [h2, and_self, ↓reduceIte, i10]; rfl
    · simp only [h2, ↓reduceIte]; rfl
  · simp only [h1, ↓reduceIte]
    by_cases h3 : sgn t n q = 61
    · simp only [h3, ↓reduceIte]; rfl
    · simp only [h3, ↓reduceIte]
      by_cases h4 : sgn t n q = 62
      · simp only [h4, ↓reduceIte]
        by_cases h2 : q + 1 < n ∧ t (q + 1) = 61
        · simp only [h2, and_self, ↓reduceIte, i10]; rfl
        · simp only [h2, ↓reduceIte]; rfl
      · simp only [h4, ↓reduceIte]
theorem c_bv (ho : 2 < o) (ho2 : o + 1 < 98) (h : tpC t n s) (hq : q ≤ n) (hqq : sk t n q = q) (e : s.1 1 2 = nI q) (e3 : s.1 1 3 = 0) (hw : CW o W parts ro s) (hp : parts ≤ 60) (hsm : sm ≤ 2) (e5 : s.1 98 5 = nI sm) (hwk : wOK W) (hl : ro.length + W.length + 1 ≤ q) (hl2 : W.length ≤ 36) : rt (f_Reader_takeBehindValue o (sgn t n q) s) (fun w => cG o n (bvF t n q W parts sm ro) s w) := by
  have hn4 := h.1
  obtain ⟨hw1, hw2, _, _⟩ := we_s (t := t) hq
  unfold f_Reader_takeBehindValue bvF
  rw [c_opr, zcl_s]
  dsimp only
  by_cases hop : opK (sgn t n q) = 0
  · rw [if_pos hop, if_pos rfl, if_neg (fun x => x hop)]
    simp only [zgi, e5]
    by_cases s0 : sm = 0
    · rw [if_neg (show ¬ ¬ nI sm = 0 from fun x => x (by rw [s0]; rfl)), if_pos s0]
      unfold f_Reader_takeBehindSaid
      refine rt_cv (Q1 := fun w => cG o n (if isW t q (we t n q) [105, 102] then .inr (we t n q, (rls 1 W ro).1, parts, sm, 1, (rls 1 W ro).2) else .inr (q, (rls 1 W ro).1, parts, sm, 4, (rls 1 W ro).2)) s w) ?_ (fun s h => rt_s h)
      refine rt_cv (c_rel (b := 1) ho ho2 (by omega) (by omega) hw hwk (by omega) (by omega)) ?_
      rintro s1 ⟨k1, x1, x2, cw⟩
      have h1 := h.r k1 ho
      have ee : s1.1 1 2 = nI q := by rw [x1]; exact e
      have ef : s1.1 1 3 = 0 := by rw [x1]; exact e3
      rw [c_among h1 ok14 hq ee, zcl_s, hqq, zsI_self ee, wix14]
      dsimp only
      by_cases hif : isW t q (we t n q) [105, 102]
      · rw [if_pos hif, if_pos hif, if_pos (show ¬ (0 : Int32) = -1 by decide), c_wsize h1 hq ee, zcl_s]
        have hpz : q + (we t n q - q) = we t n q := by omega
        dsimp only
        rw [c_pass ee h1.2.2.1 hn4 (show q + (we t n q - q) ≤ n by omega), hpz, zcv_s]
        simp only [zwi]
        have k2 : tK s1 (zsI s1 1 2 (nI (we t n q))) := tK.rf.I (Or.inl rfl)
        refine rt_s ⟨(k1.tr (tK.r k2)).I (by omega) (by omega), Or.inr ⟨_, rfl, ?_, ?_, (cw.t k2 (by omega)).f (fun j _ _ => by rw [zI1, if_pos rfl, updE, if_neg (by omega)]) (by rw [zI1, if_neg (by omega)]) (by rw [zI1, if_neg (by omega)]) (by rw [zI1, if_neg (by omega)]), ?_, ?_⟩⟩
        · rw [zI1, if_neg (by omega), zI1, if_pos rfl, updE, if_pos rfl]
        · rw [zI1, if_neg (by omega), zI1, if_pos rfl, updE, if_neg (by omega)]; exact ef
        · rw [zI1, if_pos rfl, updE, if_neg (by omega), zI1, if_neg (by omega), x2 5 (by omega)]; exact e5
        · rw [zI1, if_pos rfl, updE, if_pos rfl]; rfl
      · rw [if_neg hif, if_neg hif, if_neg (show ¬ ¬ (-1 : Int32) = -1 from fun x => x rfl)]
        simp only [zwi]
        refine rt_s ⟨k1.I (by omega) (by omega), Or.inr ⟨_, rfl, ?_, ?_, cw.f (fun j _ _ => by rw [zI1, if_pos rfl, updE, if_neg (by omega)]) (by rw [zI1, if_neg (by omega)]) (by rw [zI1, if_neg (by omega)]) (by rw [zI1, if_neg (by omega)]), ?_, ?_⟩⟩
        · rw [zI1, if_neg (by omega)]; exact ee
        · rw [zI1, if_neg (by omega)]; exact ef
        · rw [zI1, if_pos rfl, updE, if_neg (by omega), x2 5 (by omega)]; exact e5
        · rw [zI1, if_pos rfl, updE, if_pos rfl]; rfl
    · have n0 : ¬ nI sm = 0 := by rw [nI_eq0 (by omega)]; exact s0
      rw [if_pos n0, if_neg s0]
      by_cases s1' : sm = 1
      · rw [if_neg (show ¬ ¬ nI sm = 1 from fun x => x (by rw [s1']; rfl)), if_pos s1']
        unfold f_Reader_takeSign
        refine rt_cv (Q1 := fun w => cG o n (if cmK t n q = 0 then .inl (1 + 8 * q) else if 60 ≤ parts then .inl (1 + 8 * q + 3) else .inr (q + (if cmK t n q = 8 ∨ cmK t n q = 10 then 2 else 1), cmK t n q :: (rls 4 W ro).1, parts + 1, 2, 0, (rls 4 W ro).2)) s w) ?_ (fun s h => rt_s h)
        simp only [zgi, e]
        rw [c_cmp h hq e, zcl_s]
        dsimp only
        by_cases hc0 : cmK t n q = 0
        · rw [if_pos hc0, if_pos hc0, if_neg (show ¬ ¬ (-1 : Int32) = -1 from fun x => x rfl), show (0 : Int32) = nI 0 from rfl, c_refuse, if_pos e3, zcv_s]
          exact rt_s ⟨tK.r (tK.rf.I (Or.inr rfl)), Or.inl ⟨_, rfl, by omega, by omega, by rw [zI1, if_pos rfl, updE, if_pos rfl]; rfl, ⟨q, hq, by rw [zI1, if_pos rfl, updE, if_neg (by omega)]; exact e⟩, ro.length, by omega, by rw [zI1, if_neg (by omega)]; exact hw.2.2.2.2.1⟩⟩
        · obtain ⟨c1, c2, c3, c4, c5, c6⟩ := cmK_b hc0
          rw [if_neg hc0, if_neg hc0, if_pos (show ¬ nI (cmK t n q) = -1 by rw [nI_n1 (by omega)]; exact fun x => x)]
          generalize cmK t n q = k at c1 c2 c3 c4 c5 c6 hc0
          have zb : zt_bind k = nI 4 := by rw [(zb_n (show k < 16 by omega)).1, c3]
          obtain ⟨i1, i2, i3, i4, i5, i6⟩ := rls_i (b := 4) (by omega) W ro hwk
          have rl := rls_len (b := 4) W ro
          have go : ∀ m : Nat, q + m ≤ n → (if k = 8 ∨ k = 10 then 2 else 1) = m → rt (zcv (f_Tape_pass (nI m) s) (fun (s9 : ZS) => zcv (f_Reader_countPart (nI q) s9) (fun (s10 : ZS) => zrd 16 (nI k) zt_bind (fun (v11 : Int32) => zcv (f_Reader_release o v11 s10) (fun (s12 : ZS) => zcv (f_Reader_hold (nI k) s12) (fun (s13 : ZS) => zwi s13 98 5 (2 : Int32) (fun (s14 : ZS) => zwi s14 98 6 (0 : Int32) (fun (s15 : ZS) => some s15)))))))) (fun w => cG o n (if 60 ≤ parts then .inl (1 + 8 * q + 3) else .inr (q + (if k = 8 ∨ k = 10 then 2 else 1), k :: (rls 4 W ro).1, parts + 1, 2, 0, (rls 4 W ro).2)) s w) := by
            intro m hm he
            rw [he]
            rw [c_pass e h.2.2.1 hn4 hm, zcv_s]
            have k1 : tK s (zsI s 1 2 (nI (q + m))) := tK.rf.I (Or.inl rfl)
            have cw0 := hw.t k1 (by omega)
            have ep : (zsI s 1 2 (nI (q + m))).1 1 2 = nI (q + m) := by rw [zI1, if_pos rfl, updE, if_pos rfl]
            have ef : (zsI s 1 2 (nI (q + m))).1 1 3 = 0 := by rw [zI1, if_pos rfl, updE, if_neg (by omega)]; exact e3
            generalize zsI s 1 2 (nI (q + m)) = sa at k1 cw0 ep ef
            refine rt_cv (c_cnt (q := q) cw0.2.2.2.1 hp) ?_
            rintro sb ⟨w1, w2, w3, w4, w5, w6⟩
            rw [ef] at w6
            have kb : kR o sa sb := ⟨fun b b1 b2 _ _ _ => w1 b b1 b2, fun j j1 j2 => w4 j j2, w5⟩
            have cwb : CW o W (parts + 1) ro sb := by
              obtain ⟨h1, h2, h3, h4, h5, h6⟩ := cw0
              exact ⟨by rw [w2 2 (by omega)]; exact h1, by rw [w1 99 (by omega) (by omega)]; exact h2, by rw [w2 3 (by omega)]; exact h3, w3, by rw [w1 o (by omega) (by omega)]; exact h5, by rw [w1 (o + 1) (by omega) (by omega)]; exact h6⟩
            rw [zrd_n (by omega) (by omega), zb]
            refine rt_cv (c_rel (b := 4) ho ho2 (by omega) (by omega) cwb hwk (by omega) (by omega)) ?_
            rintro sc ⟨k2, x1, x2, cwc⟩
            refine rt_cv (c_hold (k := k) ho ho2 cwc (by omega) c5) ?_
            rintro sd ⟨k3, y1, y2, cwd⟩
            simp only [zwi]
            have f1 : (zsI (zsI sd 98 5 2) 98 6 0).1 1 = sb.1 1 := by rw [zI1, if_neg (by omega), zI1, if_neg (by omega), y1, x1]
            have pl : (zsI (zsI sd 98 5 2) 98 6 0).1 1 2 = nI (q + m) := by rw [f1, w4 2 (by omega)]; exact ep
            refine rt_s ⟨(((((tK.r k1).tr kb).tr k2).tr k3).I (by omega) (by omega)).I (by omega) (by omega), ?_⟩
            by_cases h60 : 60 ≤ parts
            · left
              rw [if_pos h60]
              exact ⟨_, rfl, by omega, by omega, by rw [f1, w6, if_pos ⟨rfl, h60⟩], ⟨q + m, hm, pl⟩, (rls 4 W ro).2.length, by omega, by rw [zI1, if_neg (by omega), zI1, if_neg (by omega)]; exact cwd.2.2.2.2.1⟩
            · right
              rw [if_neg h60]
              refine ⟨_, rfl, pl, by rw [f1, w6, if_neg (fun z => h60 z.2)], cwd.f (fun j j1 j2 => by rw [zI1, if_pos rfl, updE, if_neg (by omega), zI1, if_pos rfl, updE, if_neg (by omega)]) (by rw [zI1, if_neg (by omega), zI1, if_neg (by omega)]) (by rw [zI1, if_neg (by omega), zI1, if_neg (by omega)]) (by rw [zI1, if_neg (by omega), zI1, if_neg (by omega)]), ?_, ?_⟩
              · rw [zI1, if_pos rfl, updE, if_neg (by omega), zI1, if_pos rfl, updE, if_pos rfl]; rfl
              · rw [zI1, if_pos rfl, updE, if_pos rfl]; rfl
          simp only [zjn, zj0]
          by_cases h8 : k = 8
          · have e8 : nI k = 8 := by rw [h8]; rfl
            rw [if_pos e8]
            have h2 : (if k = 8 ∨ k = 10 then 2 else 1) = 2 := if_pos (Or.inl h8)
            exact go 2 (by rw [h2] at c6; exact c6) h2
          · have e8 : ¬ nI k = 8 := by rw [show (8 : Int32) = nI 8 from rfl, nI_inj (by omega) (by omega)]; exact h8
            rw [if_neg e8]
            by_cases h10 : k = 10
            · have e10 : nI k = 10 := by rw [h10]; rfl
              rw [if_neg (fun x => x e10)]
              have h2 : (if k = 8 ∨ k = 10 then 2 else 1) = 2 := if_pos (Or.inr h10)
              exact go 2 (by rw [h2] at c6; exact c6) h2
            · have e10 : ¬ nI k = 10 := by rw [show (10 : Int32) = nI 10 from rfl, nI_inj (by omega) (by omega)]; exact h10
              rw [if_pos e10]
              have h2 : (if k = 8 ∨ k = 10 then 2 else 1) = 1 := if_neg (fun x => x.elim h8 h10)
              exact go 1 (by rw [h2] at c6; exact c6) h2
      · have n1 : ¬ nI sm = 1 := by rw [show (1 : Int32) = nI 1 from rfl, nI_inj (by omega) (by omega)]; exact s1'
        rw [if_pos n1, if_neg s1']
        exact rt_cv (c_bf ho ho2 h hq hqq e e3 hw e5 hwk hl hl2) (fun s h => rt_s h)
  · obtain ⟨o1, o2, o3, o4⟩ := opK_b hop
    have hqn := opK_lt hop
    rw [if_neg hop, if_neg (show ¬ nI (opK (sgn t n q)) = -1 by rw [nI_n1 (by omega)]; exact fun x => x), if_pos hop]
    generalize opK (sgn t n q) = k at o1 o2 o3 o4 hop
    rw [show (1 : Int32) = nI 1 from rfl, c_pass e h.2.2.1 hn4 (show q + 1 ≤ n by omega), zcv_s, zrd_n (by omega) (by omega), (zb_n (show k < 16 by omega)).1]
    obtain ⟨i1, i2, i3, i4, i5, i6⟩ := rls_i (b := bnd k) (by omega) W ro hwk
    have rl := rls_len (b := bnd k) W ro
    have k1 : tK s (zsI s 1 2 (nI (q + 1))) := tK.rf.I (Or.inl rfl)
    refine rt_cv (c_rel (b := bnd k) ho ho2 (by omega) (by omega) (hw.t k1 (by omega)) hwk (by omega) (by omega)) ?_
    rintro s1 ⟨k2, x1, x2, cw⟩
    refine rt_cv (c_hold (k := k) ho ho2 cw (by omega) o4) ?_
    rintro s2 ⟨k3, y1, y2, cw2⟩
    simp only [zwi]
    have z1 : s2.1 1 = (zsI s 1 2 (nI (q + 1))).1 1 := by rw [y1, x1]
    refine rt_s ⟨(((tK.r k1).tr k2).tr k3).I (by omega) (by omega), Or.inr ⟨_, rfl, ?_, ?_, cw2.f (fun j _ _ => by rw [zI1, if_pos rfl, updE, if_neg (by omega)]) (by rw [zI1, if_neg (by omega)]) (by rw [zI1, if_neg (by omega)]) (by rw [zI1, if_neg (by omega)]), ?_, ?_⟩⟩
    · rw [zI1, if_neg (by omega), z1, zI1, if_pos rfl, updE, if_pos rfl]
    · rw [zI1, if_neg (by omega), z1, zI1, if_pos rfl, updE, if_neg (by omega)]; exact e3
    · rw [zI1, if_pos rfl, updE, if_neg (by omega), y2 5 (by omega), x2 5 (by omega), zI1, if_neg (by omega)]; exact e5
    · rw [zI1, if_pos rfl, updE, if_pos rfl]; rfl
theorem c_deep {k m : Nat} (ho : 2 < o) (ho2 : o + 1 < 98) (h : tpC t n s) (hq : q ≤ n) (e : s.1 1 2 = nI q) (e3 : s.1 1 3 = 0) (hw : CW o W parts ro s) (e5 : s.1 98 5 = nI sm) (e6 : s.1 98 6 = nI 1) (hlr : ro.length ≤ 400) (hl2 : W.length ≤ 36) (hd : dpW W ≤ 10) (hk : k = 0 ∨ k = 12) (hm : q + m ≤ n) : rt (f_Reader_goDeeper (nI k) (nI m) s) (fun w => cG o n (if 10 ≤ dpW W then .inl (1 + 8 * q + 2) else .inr (q + m, k :: W, parts, sm, 1, ro)) s w) := by
  have hn4 := h.1
  unfold f_Reader_goDeeper
  have e33 : s.1 98 3 = nI (dpW W) := hw.2.2.1
  simp (disch := omega) only [zgi, e33, show (10 : Int32) = nI 10 from rfl, nI_ltI, e]
  by_cases h10 : dpW W < 10
  · rw [if_pos h10, if_neg (by omega)]
    simp only [zwi, nI_1]
    have bp : (zsI s 98 3 (nI (dpW W + 1))).1 1 = s.1 1 := by rw [zI1, if_neg (by omega)]
    rw [c_pass (p := q) (n := n) (by rw [bp]; exact e) (by rw [bp]; exact h.2.2.1) hn4 hm, zcv_s]
    obtain ⟨h1, h2, h3, h4, h5, h6⟩ := hw
    have hn : ¬ 64 ≤ W.length := by omega
    have c2 : (zsI (zsI s 98 3 (nI (dpW W + 1))) 1 2 (nI (q + m))).1 98 2 = nI W.length := by rw [zI1, if_neg (by omega), zI1, if_pos rfl, updE, if_neg (by omega)]; exact h1
    have c22 : (zsI (zsI (zsI s 98 3 (nI (dpW W + 1))) 1 2 (nI (q + m))) 99 W.length (nI k)).1 98 2 = nI W.length := by rw [zI1, if_neg (by omega)]; exact c2
    unfold f_Reader_hold
    simp (disch := omega) only [zgi, c2, show (64 : Int32) = nI 64 from rfl, nI_leI, hn, ↓reduceIte, zwa_n, c22, nI_1, zwi, zcv_s]
    refine rt_s ⟨?_, Or.inr ⟨_, rfl, ?_, ?_, ⟨?_, ⟨?_, ?_⟩, ?_, ?_, ?_, ?_⟩, ?_, ?_⟩⟩
    · exact (((kR.rf.I (by omega) (by omega)).tr (tK.r (tK.rf.I (Or.inl rfl)))).I (by omega) (by omega)).I (by omega) (by omega)
    · rw [zI1, if_neg (by omega), zI1, if_neg (by omega), zI1, if_pos rfl, updE, if_pos rfl]
    · rw [zI1, if_neg (by omega), zI1, if_neg (by omega), zI1, if_pos rfl, updE, if_neg (by omega), bp]; exact e3
    · rw [zI1, if_pos rfl, updE, if_pos rfl]; rfl
    · rw [zI1, if_neg (by omega), zI1, if_pos rfl, updE, if_pos rfl]
    · rw [zI1, if_neg (by omega), zI1, if_pos rfl, zI1, if_neg (by omega), zI1, if_neg (by omega)]; exact wC_u h2 (Nat.le_refl _)
    · rw [zI1, if_pos rfl, updE, if_neg (by omega), zI1, if_neg (by omega), zI1, if_neg (by omega), zI1, if_pos rfl, updE, if_pos rfl]
      show _ = nI (dpW W + (if k = 0 ∨ k = 12 then 1 else 0))
      rw [if_pos hk]
    · rw [zI1, if_pos rfl, updE, if_neg (by omega), zI1, if_neg (by omega), zI1, if_neg (by omega), zI1, if_pos rfl, updE, if_neg (by omega)]; exact h4
    · rw [zI1, if_neg (by omega), zI1, if_neg (by omega), zI1, if_neg (by omega), zI1, if_neg (by omega)]; exact h5
    · rw [zI1, if_neg (by omega), zI1, if_neg (by omega), zI1, if_neg (by omega), zI1, if_neg (by omega)]; exact h6
    · rw [zI1, if_pos rfl, updE, if_neg (by omega), zI1, if_neg (by omega), zI1, if_neg (by omega), zI1, if_pos rfl, updE, if_neg (by omega)]; exact e5
    · rw [zI1, if_pos rfl, updE, if_neg (by omega), zI1, if_neg (by omega), zI1, if_neg (by omega), zI1, if_pos rfl, updE, if_neg (by omega)]; exact e6
  · rw [if_neg h10, if_pos (by omega), show (2 : Int32) = nI 2 from rfl, c_refuse, if_pos e3, zcv_s]
    exact rt_s ⟨tK.r (tK.rf.I (Or.inr rfl)), Or.inl ⟨_, rfl, by omega, by omega, by rw [zI1, if_pos rfl, updE, if_pos rfl], ⟨q, hq, by rw [zI1, if_pos rfl, updE, if_neg (by omega)]; exact e⟩, ro.length, hlr, by rw [zI1, if_neg (by omega)]; exact hw.2.2.2.2.1⟩⟩
theorem c_fb (ho : 2 < o) (ho2 : o + 1 < 98) (h : tpC t n s) (hq : q ≤ n) (hqq : sk t n q = q) (e : s.1 1 2 = nI q) (e3 : s.1 1 3 = 0) (hw : CW o W parts ro s) (hp : parts ≤ 60) (e5 : s.1 98 5 = nI sm) (e6 : s.1 98 6 = nI 1) (hl : ro.length < 400) (hl2 : W.length ≤ 36) (hd : dpW W ≤ 10) : rt (f_Reader_takeFactBegin o (sgn t n q) s) (fun w => cG o n (fbF t n q W parts sm ro) s w) := by
  have hn4 := h.1
  obtain ⟨hw1, hw2, _, _⟩ := we_s (t := t) hq
  unfold f_Reader_takeFactBegin fbF
  by_cases h91 : sgn t n q = 91
  · have hqn : q < n := sgn_lt h91 (by decide)
    rw [if_neg (fun x => x h91), if_pos h91]
    exact rt_cv (c_deep (k := 0) (m := 1) ho ho2 h hq e e3 hw e5 e6 (by omega) hl2 hd (Or.inl rfl) hqn) (fun s h => rt_s h)
  · rw [if_pos h91, if_neg h91, c_among h ok13 hq e, zcl_s, hqq, zsI_self e, wix13]
    dsimp only
    by_cases hno : isW t q (we t n q) [110, 111, 116]
    · rw [if_pos hno, if_pos hno, if_neg (show ¬ (0 : Int32) = -1 by decide), c_wsize h hq e, zcl_s]
      have hpz : q + (we t n q - q) = we t n q := by omega
      have := c_deep (k := 12) (m := we t n q - q) ho ho2 h hq e e3 hw e5 e6 (by omega) hl2 hd (Or.inr rfl) (by omega)
      rw [hpz] at this
      exact rt_cv this (fun s h => rt_s h)
    · rw [if_neg hno, if_neg hno, if_pos rfl]
      simp only [zwi]
      have cw1 : CW o W parts ro (zsI s 98 5 1) := hw.f (fun j _ _ => by rw [zI1, if_pos rfl, updE, if_neg (by omega)]) (by rw [zI1, if_neg (by omega)]) (by rw [zI1, if_neg (by omega)]) (by rw [zI1, if_neg (by omega)])
      have k1 : kR o s (zsI s 98 5 1) := kR.rf.I (by omega) (by omega)
      refine rt_cv ((c_tv (sm := 1) ho ho2 (h.r k1 ho) hq hqq (by rw [zI1, if_neg (by omega)]; exact e) (by rw [zI1, if_neg (by omega)]; exact e3) cw1 hp (by rw [zI1, if_pos rfl, updE, if_pos rfl]; rfl) hl).mono (fun w hh => cG.tr k1 hh)) (fun s h => rt_s h)
/-- a step of the class is a step of the machine -/
theorem c_stp {c : ZG} (ho : 2 < o) (ho2 : o + 1 < 98) (h : tpC t n s) (hI : mI n c) (hR : CR o c s) (h4 : ¬ c.2.2.2.2.1 = 4) {R : Type} {g : ZS → Option R} {Z : Option R → Prop} (hg : ∀ w, cG o n (stpF t n c) s w → Z (g w)) : Z (zcl (f_Tape_next s) (fun (v21 : Int32) (s20 : ZS) => zgi (s20.1 98 6) (fun (v22 : Int32) => zj0 (fun (s23 : ZS) => g s23) (fun (k24 : ZS → Option R) => (if ¬ v22 = 0 then zgi (s20.1 98 6) (fun (v25 : Int32) => (if ¬ v25 = (1 : Int32) then zgi (s20.1 98 6) (fun (v26 : Int32) => (if ¬ v26 = (2 : Int32) then zcv (f_Reader_takeBehindFact o v21 s20) (fun (s27 : ZS) => k24 s27) else zcv (f_Reader_takeBehindValue o v21 s20) (fun (s28 : ZS) => k24 s28))) else zcv (f_Reader_takeFactBegin o v21 s20) (fun (s29 : ZS) => k24 s29))) else zcv (f_Reader_takeValue o v21 s20) (fun (s30 : ZS) => k24 s30)))))) := by
  obtain ⟨p, W, parts, sm, st, ro⟩ := c
  have hlen := hI.w
  obtain ⟨a1, a2, a3, a4, a5, a6, a7, a8, a9⟩ := hI
  obtain ⟨r1, r2, r3, r4, r5⟩ := hR
  dsimp only at a1 a2 a3 a4 a5 a6 a7 a8 a9 r1 r2 r3 r4 r5 h4 hlen
  have hn4 := h.1
  obtain ⟨sk1, hq, _, _⟩ := sk_s (t := t) a1
  have hqq := sk_sk (t := t) a1
  rw [c_next h a1 r1, zcl_s]
  unfold stpF at hg
  dsimp only at hg ⊢
  generalize sk t n p = q at sk1 hq hqq hg
  have k1 : tK s (zsI s 1 2 (nI q)) := tK.rf.I (Or.inl rfl)
  have e1 : (zsI s 1 2 (nI q)).1 1 2 = nI q := by rw [zI1, if_pos rfl, updE, if_pos rfl]
  have f1 : (zsI s 1 2 (nI q)).1 1 3 = 0 := by rw [zI1, if_pos rfl, updE, if_neg (by omega)]; exact r2
  have g5 : (zsI s 1 2 (nI q)).1 98 5 = nI sm := by rw [zI1, if_neg (by omega)]; exact r4
  have g6 : (zsI s 1 2 (nI q)).1 98 6 = nI st := by rw [zI1, if_neg (by omega)]; exact r5
  have cw := r3.t k1 (by omega)
  have h1 := h.k k1
  generalize zsI s 1 2 (nI q) = s1 at k1 e1 f1 g5 g6 cw h1
  simp only [zgi, g6, zj0]
  have fin : ∀ {f : Option ZS} {r : Sum Nat ZG}, rt f (fun w => cG o n r s1 w) → (∀ w, cG o n r s w → Z (g w)) → Z (zcv f (fun s => g s)) := fun {f r} hf hg => by
    obtain ⟨w, w1, w2⟩ := hf
    rw [w1, zcv_s]
    exact hg w (cG.tr (tK.r k1) w2)
  have s4 : st = 0 ∨ st = 1 ∨ st = 2 ∨ st = 3 := by omega
  rcases s4 with rfl | rfl | rfl | rfl
  · rw [if_neg (show ¬ ¬ nI 0 = 0 from fun x => x rfl)]
    exact fin (c_tv ho ho2 h1 hq hqq e1 f1 cw a4 g5 (by omega)) (fun w hw => hg w (by simpa using hw))
  · rw [if_pos (show ¬ nI 1 = 0 by decide), if_neg (show ¬ ¬ nI 1 = 1 from fun x => x rfl)]
    exact fin (c_fb ho ho2 h1 hq hqq e1 f1 cw a4 g5 g6 (by omega) hlen a3) (fun w hw => hg w (by simpa using hw))
  · rw [if_pos (show ¬ nI 2 = 0 by decide), if_pos (show ¬ nI 2 = 1 by decide), if_neg (show ¬ ¬ nI 2 = 2 from fun x => x rfl)]
    exact fin (c_bv ho ho2 h1 hq hqq e1 f1 cw a4 a5 g5 a2 (by omega) hlen) (fun w hw => hg w (by simpa using hw))
  · rw [if_pos (show ¬ nI 3 = 0 by decide), if_pos (show ¬ nI 3 = 1 by decide), if_pos (show ¬ nI 3 = 2 by decide)]
    exact fin (c_bf ho ho2 h1 hq hqq e1 f1 cw g5 a2 (by omega) hlen) (fun w hw => hg w (by simpa using hw))
theorem mrunS (k : Nat) (x : Sum Nat ZG) : mrun t n (k + 1) x = stpS t n (mrun t n k x) := rfl
theorem stp_l {k f : Nat} {x : Sum Nat ZG} (h : mrun t n k x = .inl f) : ∀ j, mrun t n (k + j) x = .inl f := by
  intro j
  induction j with
  | zero => exact h
  | succ j ih => rw [← Nat.add_assoc, mrunS, ih]; rfl
theorem stp_4 {k : Nat} {x : Sum Nat ZG} {c : ZG} (h : mrun t n k x = .inr c) (h4 : c.2.2.2.2.1 = 4) : ∀ j, mrun t n (k + j) x = .inr c := by
  intro j
  induction j with
  | zero => exact h
  | succ j ih =>
    rw [← Nat.add_assoc, mrunS, ih]
    show stpF t n c = .inr c
    unfold stpF
    rw [if_neg (by omega), if_neg (by omega), if_neg (by omega), if_neg (by omega)]
/-- the class's loop over a clause -/
theorem c_run {c0 : ZG} (ho : 2 < o) (ho2 : o + 1 < 98) (h : tpC t n s) (hI : mI n c0) (hR : CR o c0 s) {k13 : ZS → Option ZS} {Z : Option ZS → Prop} (hk : ∀ w, cG o n (mrun t n 401 (.inr c0)) s w → (∀ c, mrun t n 401 (.inr c0) = .inr c → mI n c) → Z (k13 w)) : Z (zlp zN (f_Reader_readClause_B87 o k13) (0 : Int32) s) := by
  refine lp_go (n := 401) (fun i a w => a = nI i ∧ cG o n (mrun t n i (.inr c0)) s w ∧ ∀ c, mrun t n i (.inr c0) = .inr c → mI n c) Z (by omega) ⟨rfl, ⟨kR.rf, Or.inr ⟨c0, rfl, hR⟩⟩, fun c hc => by injection hc with hc; rw [← hc]; exact hI⟩ ?_ ?_
  · rintro i a w g hi ⟨rfl, ⟨q1, q2⟩, q3⟩
    have hni : ¬ 400 < i := by omega
    unfold f_Reader_readClause_B87
    simp (disch := omega) only [show (400 : Int32) = nI 400 from rfl, nI_ltI, hni, ↓reduceIte, zgi]
    rcases q2 with ⟨f, f1, f2, f3, f4, f5⟩ | ⟨c, c1, c2⟩
    · right
      have e401 : mrun t n 401 (.inr c0) = .inl f := by
        have := stp_l f1 (401 - i)
        rw [show i + (401 - i) = 401 by omega] at this
        exact this
      have hz : Z (k13 w) := hk w ⟨q1, Or.inl ⟨f, e401, f2, f3, f4, f5⟩⟩ (fun c hc => by rw [e401] at hc; cases hc)
      have nf : ¬ w.1 1 3 = 0 := by rw [f4]; exact fnz f2 f3
      by_cases h4 : w.1 98 6 = 4
      · rw [if_pos h4]; exact hz
      · rw [if_neg h4, if_pos nf]; exact hz
    · by_cases h4 : c.2.2.2.2.1 = 4
      · right
        have e401 : mrun t n 401 (.inr c0) = .inr c := by
          have := stp_4 c1 h4 (401 - i)
          rw [show i + (401 - i) = 401 by omega] at this
          exact this
        have e6 : w.1 98 6 = 4 := by rw [c2.2.2.2.2, h4]; rfl
        rw [if_pos e6]
        exact hk w ⟨q1, Or.inr ⟨c, e401, c2⟩⟩ (fun c' hc => by rw [e401] at hc; injection hc with hc; rw [← hc]; exact q3 c c1)
      · left
        have hIc := q3 c c1
        have h5 := hIc.2.2.2.2.2.1
        have e6 : ¬ w.1 98 6 = 4 := by rw [c2.2.2.2.2, show (4 : Int32) = nI 4 from rfl, nI_inj (by omega) (by omega)]; exact h4
        rw [if_neg e6, if_neg (fun x => x c2.2.1)]
        have er : mrun t n (i + 1) (.inr c0) = stpF t n c := by rw [mrunS, c1]; rfl
        obtain ⟨J, hJ⟩ : ∃ J : Int32 → ZS → Prop, J = fun a' s' => (a' = nI (i + 1) ∧ cG o n (mrun t n (i + 1) (.inr c0)) s s' ∧ ∀ c, mrun t n (i + 1) (.inr c0) = .inr c → mI n c) := ⟨_, rfl⟩
        have key := c_stp (R := ZS) (Z := fun o' => ∃ a' s', o' = g a' s' ∧ J a' s') ho ho2 (h.r q1 ho) hIc c2 h4 (g := fun s23 => g (nI i + 1) s23) (fun w2 hw2 => ⟨_, _, rfl, by
          rw [hJ]
          refine ⟨nI_1 i, ?_, fun c' hc => ?_⟩
          · rw [er]; exact cG.tr q1 hw2
          · rw [er] at hc
            exact (stp_mI hIc h4 hc).1⟩)
        rw [hJ] at key
        simp only [zgi] at key
        exact key
  · rintro a w g ⟨rfl, q1, q2⟩
    have hni : 400 < 401 := by omega
    unfold f_Reader_readClause_B87
    simp (disch := omega) only [show (400 : Int32) = nI 400 from rfl, nI_ltI, hni, ↓reduceIte]
    exact hk w q1 q2
end RT
