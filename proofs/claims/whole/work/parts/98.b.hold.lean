/-! rule: the class is the machine. -/
def wC : List Nat → (Nat → Int32) → Prop
  | [], _ => True
  | k :: W, f => f W.length = nI k ∧ wC W f
def oC : List ZQo → (Nat → Int32) → Prop
  | [], _ => True
  | x :: l, f => f l.length = nI (16 * x.2 + x.1) ∧ oC l f
theorem wC_u {j : Nat} {v : Int32} : ∀ {W : List Nat} {f : Nat → Int32}, wC W f → W.length ≤ j → wC W (upd f j v) := by
  intro W
  induction W with
  | nil => intro f _ _; trivial
  | cons k W ih =>
    intro f h hj
    have hj' : W.length + 1 ≤ j := hj
    exact ⟨by rw [updE, if_neg (by omega)]; exact h.1, ih h.2 (by omega)⟩
theorem oC_u {j : Nat} {v : Int32} : ∀ {l : List ZQo} {f : Nat → Int32}, oC l f → l.length ≤ j → oC l (upd f j v) := by
  intro l
  induction l with
  | nil => intro f _ _; trivial
  | cons k l ih =>
    intro f h hj
    have hj' : l.length + 1 ≤ j := hj
    exact ⟨by rw [updE, if_neg (by omega)]; exact h.1, ih h.2 (by omega)⟩
theorem enc_or {v k : Nat} (hk : k < 16) (hv : v < 1000000) : nI (v * 16) ||| nI k = nI (16 * v + k) := by
  apply Int32.toBitVec_inj.mp
  apply BitVec.eq_of_toNat_eq
  rw [Int32.toBitVec_or, BitVec.toNat_or, pk_tn (by omega), pk_tn (by omega), pk_tn (by omega)]
  have h : v <<< 4 + k = v <<< 4 ||| k := Nat.shiftLeft_add_eq_or_of_lt (show k < 2 ^ 4 by omega) v
  rw [Nat.shiftLeft_eq] at h
  rw [show v * 16 = v * 2 ^ 4 from rfl, ← h]; omega
theorem enc_c {v k : Nat} (hk : k < 16) (hv : v < 1000000) : ((nI v <<< ((4 : Int32) &&& 31)) ||| nI k) = nI (16 * v + k) := by
  rw [pk_shlN ((4 : Int32) &&& 31) 4 (by decide) (by omega), show v * 2 ^ 4 = v * 16 from rfl, enc_or hk hv]
def kR (o : Nat) (s s' : ZS) : Prop := (∀ b, b ≠ 1 → b ≠ 98 → b ≠ 99 → b ≠ o → b ≠ o + 1 → s'.1 b = s.1 b) ∧ (∀ j, j ≠ 2 → j ≠ 3 → s'.1 1 j = s.1 1 j) ∧ s'.2 = s.2
theorem kR.rf {o : Nat} {s : ZS} : kR o s s := ⟨fun _ _ _ _ _ _ => rfl, fun _ _ _ => rfl, rfl⟩
theorem kR.tr {o : Nat} {s s1 s2 : ZS} (h : kR o s s1) (h2 : kR o s1 s2) : kR o s s2 := ⟨fun b a1 a2 a3 a4 a5 => (h2.1 b a1 a2 a3 a4 a5).trans (h.1 b a1 a2 a3 a4 a5), fun j a c => (h2.2.1 j a c).trans (h.2.1 j a c), h2.2.2.trans h.2.2⟩
theorem tK.r {o : Nat} {s s1 : ZS} (h : tK s s1) : kR o s s1 := ⟨fun b a1 _ _ _ _ => h.1 b a1, h.2.1, h.2.2⟩
theorem kR.I {o : Nat} {s s1 : ZS} {a j : Nat} {v : Int32} (h : kR o s s1) (ha : a = 98 ∨ a = 99 ∨ a = o ∨ a = o + 1) (ho : 1 < o) : kR o s (zsI s1 a j v) := ⟨fun b a1 a2 a3 a4 a5 => by rw [zI1, if_neg (by omega)]; exact h.1 b a1 a2 a3 a4 a5, fun i x y => by rw [zI1, if_neg (by omega)]; exact h.2.1 i x y, h.2.2⟩
theorem tpC.r {o : Nat} {t : Nat → Nat} {n : Nat} {s s' : ZS} (h : tpC t n s) (hk : kR o s s') (ho : 2 < o) : tpC t n s' := ⟨h.1, h.2.1, by rw [hk.2.1 1 (by omega) (by omega)]; exact h.2.2.1, fun k => by rw [hk.1 2 (by omega) (by omega) (by omega) (by omega) (by omega)]; exact h.2.2.2 k⟩
def CW (o : Nat) (W : List Nat) (parts : Nat) (ro : List ZQo) (s : ZS) : Prop := s.1 98 2 = nI W.length ∧ wC W (s.1 99) ∧ s.1 98 3 = nI (dpW W) ∧ s.1 98 4 = nI parts ∧ s.1 o 1 = nI ro.length ∧ oC ro (s.1 (o + 1))
theorem CW.f {o : Nat} {W : List Nat} {parts : Nat} {ro : List ZQo} {s s' : ZS} (h : CW o W parts ro s) (h1 : ∀ j, 2 ≤ j → j ≤ 4 → s'.1 98 j = s.1 98 j) (h2 : s'.1 99 = s.1 99) (h3 : s'.1 o = s.1 o) (h4 : s'.1 (o + 1) = s.1 (o + 1)) : CW o W parts ro s' := by
  unfold CW at h ⊢
  rw [h1 2 (by omega) (by omega), h1 3 (by omega) (by omega), h1 4 (by omega) (by omega), h2, h3, h4]
  exact h
theorem CW.t {o : Nat} {W : List Nat} {parts : Nat} {ro : List ZQo} {s s' : ZS} (h : CW o W parts ro s) (hk : tK s s') (ho : 1 < o) : CW o W parts ro s' := h.f (fun j _ _ => by rw [hk.1 98 (by omega)]) (hk.1 99 (by omega)) (hk.1 o (by omega)) (hk.1 (o + 1) (by omega))
section RC
variable {o parts : Nat} {s : ZS}
theorem c_add {k v L : Nat} (ho : 2 < o) (ho2 : o + 1 < 98) (hk : k < 16) (hv : v < 1000000) (hL : L < 400) (e : s.1 o 1 = nI L) : f_Rule_add o (nI k) (nI v) s = some (zsI (zsI s (o + 1) L (nI (16 * v + k))) o 1 (nI (L + 1))) := by
  unfold f_Rule_add
  have hn : ¬ 400 ≤ L := by omega
  have e2 : (zsI s (o + 1) L (nI (16 * v + k))).1 o 1 = nI L := by rw [zI1, if_neg (by omega)]; exact e
  simp (disch := omega) only [zgi, e, nI_leI, hn, ↓reduceIte, enc_c hk hv, zwa_n, e2, nI_1, zwi]
theorem CW.add {W : List Nat} {ro : List ZQo} {k v : Nat} (h : CW o W parts ro s) (ho : 2 < o) (ho2 : o + 1 < 98) : CW o W parts ((k, v) :: ro) (zsI (zsI s (o + 1) ro.length (nI (16 * v + k))) o 1 (nI (ro.length + 1))) := by
  obtain ⟨h1, h2, h3, h4, h5, h6⟩ := h
  refine ⟨?_, ?_, ?_, ?_, ?_, ?_, ?_⟩
  · rw [zI1, if_neg (by omega), zI1, if_neg (by omega)]; exact h1
  · rw [zI1, if_neg (by omega), zI1, if_neg (by omega)]; exact h2
  · rw [zI1, if_neg (by omega), zI1, if_neg (by omega)]; exact h3
  · rw [zI1, if_neg (by omega), zI1, if_neg (by omega)]; exact h4
  · rw [zI1, if_pos rfl, updE, if_pos rfl]; rfl
  · rw [zI1, if_neg (by omega), zI1, if_pos rfl, updE, if_pos rfl]
  · rw [zI1, if_neg (by omega), zI1, if_pos rfl]; exact oC_u h6 (Nat.le_refl _)
theorem zb_n {k : Nat} (h : k < 16) : zt_bind k = nI (bnd k) ∧ bnd k ≤ 6 := (show ∀ k, k < 16 → zt_bind k = nI (bnd k) ∧ bnd k ≤ 6 by decide) k h
theorem c_relF {b : Nat} (ho : 2 < o) (ho2 : o + 1 < 98) (hb : b ≤ 6) (hb0 : 0 < b) : ∀ (W : List Nat) (ro : List ZQo) (s : ZS) (f : Nat), W.length < f → CW o W parts ro s → wOK W → ro.length + W.length ≤ 400 → W.length ≤ 64 → rt (zlp f (f_Reader_release_B0 o (nI b)) () s) (fun w => kR o s w ∧ w.1 1 = s.1 1 ∧ (∀ j, 4 ≤ j → w.1 98 j = s.1 98 j) ∧ CW o (rls b W ro).1 parts (rls b W ro).2 w) := by
  intro W
  induction W with
  | nil =>
    intro ro s f hf h _ _ _
    obtain ⟨f, rfl⟩ : ∃ g, f = g + 1 := ⟨f - 1, by omega⟩
    show rt (f_Reader_release_B0 o (nI b) () s _) _
    unfold f_Reader_release_B0
    have e2 : s.1 98 2 = nI 0 := h.1
    have h0 : nI 0 ≤ 0 := by decide
    simp only [zgi, e2, h0, ↓reduceIte]
    exact rt_s ⟨kR.rf, rfl, fun _ _ => rfl, h⟩
  | cons k W ih =>
    intro ro s f hf h hw hl hl2
    have hf' : W.length + 1 < f := hf
    have hl' : ro.length + (W.length + 1) ≤ 400 := hl
    have hl2' : W.length + 1 ≤ 64 := hl2
    obtain ⟨f, rfl⟩ : ∃ g, f = g + 1 := ⟨f - 1, by omega⟩
    show rt (f_Reader_release_B0 o (nI b) () s (zlp f (f_Reader_release_B0 o (nI b)))) _
    have ih' := fun ro s => ih ro s f
    generalize zlp f (f_Reader_release_B0 o (nI b)) = g at ih' ⊢
    have h0 := h
    obtain ⟨h1, ⟨h2, h2'⟩, h3, h4, h5, h6⟩ := h
    have e2 : s.1 98 2 = nI (W.length + 1) := h1
    have hk := hw.1
    have n0 : ¬ nI (W.length + 1) ≤ 0 := by rw [nI_le0 (by omega)]; omega
    obtain ⟨z1, z2⟩ := zb_n hk
    unfold f_Reader_release_B0
    simp (disch := omega) only [zgi, e2, n0, ↓reduceIte, nI_pred, zrd_n, h2, z1, nI_ltI]
    by_cases hbk : b ≤ bnd k
    · rw [if_neg (by omega)]
      have r : rls b (k :: W) ro = rls b W ((k, 0) :: ro) := if_pos hbk
      rw [r]
      simp only [zwi]
      have a2 : (zsI s 98 2 (nI W.length)).1 98 2 = nI W.length := by rw [zI1, if_pos rfl, updE, if_pos rfl]
      have a99 : (zsI s 98 2 (nI W.length)).1 99 W.length = nI k := by rw [zI1, if_neg (by omega)]; exact h2
      have a3 : (zsI s 98 2 (nI W.length)).1 98 3 = nI (dpW (k :: W)) := by rw [zI1, if_pos rfl, updE, if_neg (by omega)]; exact h3
      simp (disch := omega) only [a2, zrd_n, a99, zj0]
      -- behind the count of the depth
      have tail : ∀ s1 : ZS, kR o s s1 → s1.1 1 = s.1 1 → (∀ j, 4 ≤ j → s1.1 98 j = s.1 98 j) → s1.1 98 2 = nI W.length → s1.1 98 3 = nI (dpW W) → s1.1 99 = s.1 99 → s1.1 o = s.1 o → s1.1 (o + 1) = s.1 (o + 1) → rt (zrd 64 (nI W.length) (s1.1 99) (fun (v17 : Int32) => zcv (f_Rule_add o v17 (0 : Int32) s1) (fun (s18 : ZS) => g () s18))) (fun w => kR o s w ∧ w.1 1 = s.1 1 ∧ (∀ j, 4 ≤ j → w.1 98 j = s.1 98 j) ∧ CW o (rls b W ((k, 0) :: ro)).1 parts (rls b W ((k, 0) :: ro)).2 w) := by
        intro s1 x1 x2 x3 x4 x5 x6 x7 x8
        have eo : s1.1 o 1 = nI ro.length := by rw [x7]; exact h5
        have ek : s1.1 99 W.length = nI k := by rw [x6]; exact h2
        rw [zrd_n (by omega) (by omega), ek, show (0 : Int32) = nI 0 from rfl, c_add ho ho2 hk (by omega) (by omega) eo, zcv_s]
        have cw1 : CW o W parts ro s1 := ⟨x4, by rw [x6]; exact h2', x5, by rw [x3 4 (by omega)]; exact h4, eo, by rw [x8]; exact h6⟩
        have cw2 := cw1.add (k := k) (v := 0) ho ho2
        refine (ih' ((k, 0) :: ro) _ (by omega) cw2 hw.2.2 (by show ro.length + 1 + W.length ≤ 400; omega) (by omega)).mono ?_
        rintro w ⟨w1, w2, w3, w4⟩
        refine ⟨((x1.I (by omega) (by omega)).I (by omega) (by omega)).tr w1, ?_, fun j hj => ?_, w4⟩
        · rw [w2, zI1, if_neg (by omega), zI1, if_neg (by omega)]; exact x2
        · rw [w3 j hj, zI1, if_neg (by omega), zI1, if_neg (by omega)]; exact x3 j hj
      have b1 : kR o s (zsI s 98 2 (nI W.length)) := kR.rf.I (by omega) (by omega)
      by_cases h12 : k = 12
      · have e12 : ¬ ¬ nI k = 12 := by rw [h12]; decide
        rw [if_neg e12, a3]
        have ed : nI (dpW (k :: W)) - 1 = nI (dpW W) := by
          have : dpW (k :: W) = dpW W + 1 := by
            show dpW W + (if k = 0 ∨ k = 12 then 1 else 0) = _
            rw [if_pos (Or.inr h12)]
          rw [this, nI_pred]
        rw [ed]
        have a22 : (zsI (zsI s 98 2 (nI W.length)) 98 3 (nI (dpW W))).1 98 2 = nI W.length := by rw [zI1, if_pos rfl, updE, if_neg (by omega)]; exact a2
        rw [a22]
        refine tail _ (b1.I (by omega) (by omega)) ?_ (fun j hj => ?_) ?_ ?_ ?_ ?_ ?_
        · rw [zI1, if_neg (by omega), zI1, if_neg (by omega)]
        · rw [zI1, if_pos rfl, updE, if_neg (by omega), zI1, if_pos rfl, updE, if_neg (by omega)]
        · exact a22
        · rw [zI1, if_pos rfl, updE, if_pos rfl]
        · rw [zI1, if_neg (by omega), zI1, if_neg (by omega)]
        · rw [zI1, if_neg (by omega), zI1, if_neg (by omega)]
        · rw [zI1, if_neg (by omega), zI1, if_neg (by omega)]
      · have e12 : ¬ nI k = 12 := by rw [show (12 : Int32) = nI 12 from rfl, nI_inj (by omega) (by omega)]; exact h12
        rw [if_pos e12]
        have hk0 : ¬ k = 0 := by
          intro e
          have hb0 : bnd k = 0 := by rw [e]; rfl
          omega
        have ed : dpW (k :: W) = dpW W := by
          show dpW W + (if k = 0 ∨ k = 12 then 1 else 0) = _
          rw [if_neg (fun x => x.elim hk0 h12)]; rfl
        have tt := tail _ b1 (by rw [zI1, if_neg (by omega)]) (fun j hj => by rw [zI1, if_pos rfl, updE, if_neg (by omega)]) a2 (by rw [a3, ed]) (by rw [zI1, if_neg (by omega)]) (by rw [zI1, if_neg (by omega)]) (by rw [zI1, if_neg (by omega)])
        rw [zrd_n (by omega) (by omega), a99] at tt
        exact tt
    · rw [if_pos (by omega)]
      have r : rls b (k :: W) ro = (k :: W, ro) := if_neg hbk
      rw [r]
      exact rt_s ⟨kR.rf, rfl, fun _ _ => rfl, h0⟩
theorem c_rel {b : Nat} {W : List Nat} {ro : List ZQo} (ho : 2 < o) (ho2 : o + 1 < 98) (hb : b ≤ 6) (hb0 : 0 < b) (h : CW o W parts ro s) (hw : wOK W) (hl : ro.length + W.length ≤ 400) (hl2 : W.length ≤ 64) : rt (f_Reader_release o (nI b) s) (fun w => kR o s w ∧ w.1 1 = s.1 1 ∧ (∀ j, 4 ≤ j → w.1 98 j = s.1 98 j) ∧ CW o (rls b W ro).1 parts (rls b W ro).2 w) := by
  have := zN_big
  exact c_relF ho ho2 hb hb0 W ro s zN (by omega) h hw hl hl2
theorem c_hold {k : Nat} {W : List Nat} {ro : List ZQo} (ho : 2 < o) (ho2 : o + 1 < 98) (h : CW o W parts ro s) (hl : W.length < 64) (hd : ¬ (k = 0 ∨ k = 12)) : rt (f_Reader_hold (nI k) s) (fun w => kR o s w ∧ w.1 1 = s.1 1 ∧ (∀ j, 4 ≤ j → w.1 98 j = s.1 98 j) ∧ CW o (k :: W) parts ro w) := by
  obtain ⟨h1, h2, h3, h4, h5, h6⟩ := h
  have hn : ¬ 64 ≤ W.length := by omega
  have e2 : (zsI s 99 W.length (nI k)).1 98 2 = nI W.length := by rw [zI1, if_neg (by omega)]; exact h1
  unfold f_Reader_hold
  simp (disch := omega) only [zgi, h1, show (64 : Int32) = nI 64 from rfl, nI_leI, hn, ↓reduceIte, zwa_n, e2, nI_1, zwi]
  refine rt_s ⟨(kR.rf.I (by omega) (by omega)).I (by omega) (by omega), ?_, fun j hj => ?_, ?_, ⟨?_, ?_⟩, ?_, ?_, ?_, ?_⟩
  · rw [zI1, if_neg (by omega), zI1, if_neg (by omega)]
  · rw [zI1, if_pos rfl, updE, if_neg (by omega), zI1, if_neg (by omega)]
  · rw [zI1, if_pos rfl, updE, if_pos rfl]; rfl
  · rw [zI1, if_neg (by omega), zI1, if_pos rfl, updE, if_pos rfl]
  · rw [zI1, if_neg (by omega), zI1, if_pos rfl]; exact wC_u h2 (Nat.le_refl _)
  · rw [zI1, if_pos rfl, updE, if_neg (by omega), zI1, if_neg (by omega), h3]
    show _ = nI (dpW W + (if k = 0 ∨ k = 12 then 1 else 0))
    rw [if_neg hd]; rfl
  · rw [zI1, if_pos rfl, updE, if_neg (by omega), zI1, if_neg (by omega)]; exact h4
  · rw [zI1, if_neg (by omega), zI1, if_neg (by omega)]; exact h5
  · rw [zI1, if_neg (by omega), zI1, if_neg (by omega)]; exact h6
end RC
