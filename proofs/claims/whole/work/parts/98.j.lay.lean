/-! rule: what waits in the reference. -/
def kT (R : Nat) (s s' : ZS) : Prop := (∀ b, ¬ (b = 216 ∨ b = 218 ∨ b = 219 ∨ b = 223) → s'.1 b = s.1 b) ∧ (∀ k, ¬ (400 * R ≤ k ∧ k < 400 * R + 400) → s'.1 218 k = s.1 218 k) ∧ (∀ j, ¬ (8 ≤ j ∧ j ≤ 10 ∨ j = 12 ∨ j = 13 ∨ j = 16) → s'.1 216 j = s.1 216 j) ∧ s'.2 = s.2
theorem kT.rf {R : Nat} {s : ZS} : kT R s s := ⟨fun _ _ => rfl, fun _ _ => rfl, fun _ _ => rfl, rfl⟩
theorem kT.tr {R : Nat} {s s1 s2 : ZS} (h : kT R s s1) (h2 : kT R s1 s2) : kT R s s2 := ⟨fun b hb => (h2.1 b hb).trans (h.1 b hb), fun b hb => (h2.2.1 b hb).trans (h.2.1 b hb), fun b hb => (h2.2.2.1 b hb).trans (h.2.2.1 b hb), h2.2.2.2.trans h.2.2.2⟩
theorem kV.t {R : Nat} {s s1 : ZS} (h : kV R s s1) : kT R s s1 := ⟨fun b hb => h.1 b (by omega), h.2.1, fun j hj => h.2.2.1 j (by omega), h.2.2.2⟩
theorem kT.I {R : Nat} {s s1 : ZS} {j : Nat} {v : Int32} (h : kT R s s1) (hj : 8 ≤ j ∧ j ≤ 10 ∨ j = 12 ∨ j = 13 ∨ j = 16) : kT R s (zsI s1 216 j v) := ⟨fun b hb => by rw [zI1, if_neg (by omega)]; exact h.1 b hb, fun k hk => by rw [zI1, if_neg (by omega)]; exact h.2.1 k hk, fun i a => by rw [zI1, if_pos rfl, updE, if_neg (by omega)]; exact h.2.2.1 i a, h.2.2.2⟩
theorem kT.W {R : Nat} {s s1 : ZS} {j : Nat} {v : Int32} (h : kT R s s1) : kT R s (zsI s1 223 j v) := ⟨fun b hb => by rw [zI1, if_neg (by omega)]; exact h.1 b hb, fun k hk => by rw [zI1, if_neg (by omega)]; exact h.2.1 k hk, fun i a => by rw [zI1, if_neg (by omega)]; exact h.2.2.1 i a, h.2.2.2⟩
section RZ
variable {t : Nat → Nat} {n R : Nat} {s : ZS}
theorem tpM.kt {s' : ZS} (h : tpM t n s) (hk : kT R s s') : tpM t n s' := ⟨h.1, h.2.1, by rw [hk.2.2.1 1 (by omega)]; exact h.2.2.1, fun k => by rw [hk.1 217 (by omega)]; exact h.2.2.2 k⟩
def fW (W : List Nat) : Prop := ∀ k, k ∈ W → k = 0 ∨ k = 12 ∨ k = 13 ∨ k = 14
def wM (k : Nat) : Nat := if k = 0 then 91 else k - 1
def OW : List Nat → (Nat → Int32) → Prop
  | [], _ => True
  | k :: W, f => f W.length = nI (wM k) ∧ OW W f
theorem OW_u {j : Nat} {v : Int32} : ∀ {W : List Nat} {f : Nat → Int32}, OW W f → W.length ≤ j → OW W (upd f j v) := by
  intro W
  induction W with
  | nil => intro f _ _; trivial
  | cons k W ih =>
    intro f h hj
    have hj' : W.length + 1 ≤ j := hj
    exact ⟨by rw [updE, if_neg (by omega)]; exact h.1, ih h.2 (by omega)⟩
theorem OW_n : ∀ {W : List Nat} {f : Nat → Int32} {i : Nat}, OW W f → i < W.length → f i = nI (wM (W.getD (W.length - 1 - i) 0)) := by
  intro W
  induction W with
  | nil => intro f i _ hi; exact absurd hi (Nat.not_lt_zero _)
  | cons k W ih =>
    intro f i h hi
    have hi' : i < W.length + 1 := hi
    by_cases he : i = W.length
    · rw [he, h.1]
      show _ = nI (wM ((k :: W).getD (W.length + 1 - 1 - W.length) 0))
      rw [show W.length + 1 - 1 - W.length = 0 by omega]; rfl
    · rw [ih h.2 (by omega)]
      show _ = nI (wM ((k :: W).getD (W.length + 1 - 1 - i) 0))
      rw [show W.length + 1 - 1 - i = (W.length - 1 - i) + 1 by omega]; rfl
def WS (W : List Nat) (s : ZS) : Prop := fW W ∧ s.1 216 16 = nI W.length ∧ OW W (s.1 223) ∧ s.1 216 13 = nI (dpW W)
theorem WS.v {W : List Nat} {s' : ZS} (h : WS W s) (hk : kV R s s') : WS W s' := ⟨h.1, by rw [hk.2.2.1 16 (by omega)]; exact h.2.1, by rw [hk.1 223 (by omega)]; exact h.2.2.1, by rw [hk.2.2.1 13 (by omega)]; exact h.2.2.2⟩
theorem MS.kt {parts : Nat} {ro : List ZQo} {s' : ZS} (h : MS R parts ro s) (h1 : s'.1 216 11 = s.1 216 11) (h2 : s'.1 216 12 = s.1 216 12) (h3 : s'.1 219 = s.1 219) (h4 : s'.1 218 = s.1 218) : MS R parts ro s' := ⟨h1.trans h.1, h2.trans h.2.1, by rw [h3]; exact h.2.2.1, by rw [h4]; exact h.2.2.2⟩
theorem m_strength {k : Nat} (hk : k = 0 ∨ k = 12 ∨ k = 13 ∨ k = 14) : f_Model_strength (nI (wM k)) s = some (nI (bnd k), s) := by
  unfold f_Model_strength
  rcases hk with rfl | rfl | rfl | rfl <;> rfl
theorem fW.tl {k : Nat} {W : List Nat} (h : fW (k :: W)) : fW W := fun j hj => h j (List.mem_cons_of_mem _ hj)
theorem fW.h {k : Nat} {W : List Nat} (h : fW (k :: W)) : k = 0 ∨ k = 12 ∨ k = 13 ∨ k = 14 := h k (List.mem_cons_self ..)
theorem fW.c {k : Nat} {W : List Nat} (h : fW W) (hk : k = 0 ∨ k = 12 ∨ k = 13 ∨ k = 14) : fW (k :: W) := fun j hj => by
  cases hj with
  | head => exact hk
  | tail _ hj => exact h j hj
theorem fW.b {W : List Nat} (h : fW W) : tpB 4 W := fun k W' e => by
  rw [e] at h
  rcases h.h with rfl | rfl | rfl | rfl <;> decide
theorem rls_f {b : Nat} : ∀ {W : List Nat} {o : List ZQo}, fW W → fW (rls b W o).1 := by
  intro W
  induction W with
  | nil => intro o h; exact h
  | cons k W ih =>
    intro o h
    by_cases hk : b ≤ bnd k
    · rw [show rls b (k :: W) o = rls b W ((k, 0) :: o) from if_pos hk]; exact ih h.tl
    · rw [show rls b (k :: W) o = (k :: W, o) from if_neg hk]; exact h
theorem m_lay {b parts : Nat} {W : List Nat} {ro : List ZQo} (hR : R < 6) (hb : 1 ≤ b ∧ b ≤ 3) (hW : WS W s) (hM : MS R parts ro s) (hl : W.length + ro.length < 400) : rt (f_Model_layDown (nI b) s) (fun w => kT R s w ∧ WS (rls b W ro).1 w ∧ MS R parts (rls b W ro).2 w ∧ ∀ j, j ≠ 13 → j ≠ 16 → w.1 216 j = s.1 216 j) := by
  unfold f_Model_layDown
  refine lp_rank (n := 400) (r0 := ro.length) (fun r _ s2 => kT R s s2 ∧ (∀ j, j ≠ 13 → j ≠ 16 → s2.1 216 j = s.1 216 j) ∧ ∃ W' ro', r = ro'.length ∧ rls b W' ro' = rls b W ro ∧ W'.length + ro'.length = W.length + ro.length ∧ WS W' s2 ∧ MS R parts ro' s2) (fun o => rt o (fun w => kT R s w ∧ WS (rls b W ro).1 w ∧ MS R parts (rls b W ro).2 w ∧ ∀ j, j ≠ 13 → j ≠ 16 → w.1 216 j = s.1 216 j)) (by omega) ⟨kT.rf, fun _ _ _ => rfl, W, ro, rfl, rfl, rfl, hW, hM⟩ (fun r _ s2 hh => by obtain ⟨_, _, _, _, rfl, _, h3, _⟩ := hh; omega) ?_
  rintro r ⟨⟩ s2 g ⟨k2, j2, W', ro', rfl, e1, e2, w2, M2⟩
  unfold f_Model_layDown_B0
  cases W' with
  | nil =>
    right
    have e0 : s2.1 216 16 = nI 0 := w2.2.1
    simp only [zgi, e0]
    rw [if_pos (by decide), ← e1]
    exact rt_s ⟨k2, w2, M2, j2⟩
  | cons k W' =>
    have e0 : s2.1 216 16 = nI (W'.length + 1) := w2.2.1
    have e2' : W'.length + 1 + ro'.length = W.length + ro.length := e2
    have hk := w2.1.h
    simp only [zgi, e0]
    rw [if_neg (by rw [show (0 : Int32) = nI 0 from rfl, nI_leI (by omega) (by omega)]; omega), show nI (W'.length + 1) - 1 = nI W'.length from by rw [nI_sub1 _ (by omega)]; rfl, zrd_n (by omega) (by omega), w2.2.2.1.1, m_strength hk, zcl_s]
    have hbk : bnd k ≤ 3 := by rcases hk with rfl | rfl | rfl | rfl <;> decide
    simp only [nI_ltI (show bnd k < 2147483648 by omega) (show b < 2147483648 by omega)]
    by_cases hlt : bnd k < b
    · right
      rw [if_pos hlt, ← e1, show rls b (k :: W') ro' = (k :: W', ro') from if_neg (by omega)]
      exact rt_s ⟨k2, w2, M2, j2⟩
    · left
      have hk0 : ¬ k = 0 := fun x => by rw [x] at hlt; exact hlt (show 0 < b by omega)
      rw [if_neg hlt]
      simp only [zwi]
      have u1 : (zsI s2 216 16 (nI W'.length)).1 216 16 = nI W'.length := by rw [zI1, if_pos rfl, updE, if_pos rfl]
      have u2 : (zsI s2 216 16 (nI W'.length)).1 223 W'.length = nI (wM k) := by rw [zI1, if_neg (by omega)]; exact w2.2.2.1.1
      have M3 : MS R parts ro' (zsI s2 216 16 (nI W'.length)) := M2.kt (by rw [zI1, if_pos rfl, updE, if_neg (by omega)]) (by rw [zI1, if_pos rfl, updE, if_neg (by omega)]) (by rw [zI1, if_neg (by omega)]) (by rw [zI1, if_neg (by omega)])
      have wk : wM k = sM k := by rcases hk with rfl | rfl | rfl | rfl <;> first | rfl | exact absurd rfl hk0
      obtain ⟨s4, r4, k4, M4, j4⟩ := m_puts (k := k) (v := 0) hR (by omega) (by omega) (show ro'.length < 400 by omega) M3
      rw [e0, show nI (W'.length + 1) - 1 = nI W'.length from by rw [nI_sub1 _ (by omega)]; rfl, u1, zrd_n (by omega) (by omega), u2, wk, show (0 : Int32) = nI 0 from rfl, r4, zcv_s]
      have v1 : s4.1 216 16 = nI W'.length := by rw [j4]; exact u1
      have v2 : s4.1 223 = s2.1 223 := by rw [k4.1 223 (by omega), zI1, if_neg (by omega)]
      rw [v1, zrd_n (by omega) (by omega), v2, w2.2.2.1.1]
      have kk4 : kT R s s4 := (k2.tr (kT.rf.I (j := 16) (by omega))).tr k4.t
      have jj4 : ∀ j, j ≠ 16 → s4.1 216 j = s2.1 216 j := fun j h16 => by rw [j4, zI1, if_pos rfl, updE, if_neg h16]
      have er : rls b W' ((k, 0) :: ro') = rls b W ro := by rw [← e1]; exact (if_pos (by omega)).symm
      by_cases h12 : k = 12
      · subst h12
        rw [if_neg (show ¬ ¬ nI (wM 12) = 11 from fun x => x rfl)]
        have d1 : s4.1 216 13 = nI (dpW W' + 1) := by rw [jj4 13 (by omega)]; exact w2.2.2.2
        rw [d1, nI_sub1 _ (by omega)]
        refine ⟨(), _, ((12, 0) :: ro').length, rfl, Nat.lt_succ_self _, kk4.I (by omega), fun j a b => by rw [zI1, if_pos rfl, updE, if_neg a, jj4 j b]; exact j2 j a b, W', (12, 0) :: ro', rfl, er, by show W'.length + (ro'.length + 1) = _; omega, ⟨w2.1.tl, by rw [zI1, if_pos rfl, updE, if_neg (by omega)]; exact v1, by rw [zI1, if_neg (by omega), v2]; exact w2.2.2.1.2, by rw [zI1, if_pos rfl, updE, if_pos rfl]; rfl⟩, M4.kt (by rw [zI1, if_pos rfl, updE, if_neg (by omega)]) (by rw [zI1, if_pos rfl, updE, if_neg (by omega)]) (by rw [zI1, if_neg (by omega)]) (by rw [zI1, if_neg (by omega)])⟩
      · rw [if_pos (show ¬ nI (wM k) = 11 by rcases hk with rfl | rfl | rfl | rfl <;> first | exact absurd rfl h12 | decide)]
        have d1 : s4.1 216 13 = nI (dpW W') := by
          rw [jj4 13 (by omega), w2.2.2.2]
          show nI (dpW W' + (if k = 0 ∨ k = 12 then 1 else 0)) = _
          rw [if_neg (by omega)]; rfl
        exact ⟨(), s4, ((k, 0) :: ro').length, rfl, Nat.lt_succ_self _, kk4, fun j a b => by rw [jj4 j b]; exact j2 j a b, W', (k, 0) :: ro', rfl, er, by show W'.length + (ro'.length + 1) = _; omega, ⟨w2.1.tl, v1, by rw [v2]; exact w2.2.2.1.2, d1⟩, M4⟩
theorem m_opn {k q parts : Nat} {W : List Nat} {ro : List ZQo} (hn : n ≤ 400) (hq : q ≤ n) (hk : k = 0 ∨ k = 12) (hW : WS W s) (hd : dpW W ≤ 10) (hl : W.length < 400) (e : s.1 216 8 = nI q) (e9 : s.1 216 9 = 0) (hM : MS R parts ro s) : rt (f_Model_opens (nI (wM k)) s) (fun w => kT R s w.2 ∧ (10 ≤ dpW W ∧ w.1 = 0 ∧ w.2.1 216 9 = nI (1 + 8 * q + 2) ∨ ¬ 10 ≤ dpW W ∧ w.1 = 1 ∧ w.2.1 216 9 = 0 ∧ w.2.1 216 8 = nI q ∧ WS (k :: W) w.2 ∧ MS R parts ro w.2)) := by
  obtain ⟨w1, w2, w3, w4⟩ := hW
  unfold f_Model_opens
  simp only [zgi, w4]
  by_cases h10 : 10 ≤ dpW W
  · have e10 : nI (dpW W) = 10 := by rw [show dpW W = 10 by omega]; rfl
    rw [if_neg (fun x => x e10), e, show (2 : Int32) = nI 2 from rfl, m_fails e9, zcl_s]
    exact rt_bl ⟨kT.rf.I (by omega), Or.inl ⟨h10, rfl, by rw [zI1, if_pos rfl, updE, if_pos rfl]⟩⟩ (Or.inl rfl)
  · have e10 : ¬ nI (dpW W) = 10 := by rw [show (10 : Int32) = nI 10 from rfl, nI_inj (by omega) (by omega)]; omega
    rw [if_pos e10]
    have u1 : (zsI s 216 13 (nI (dpW W + 1))).1 216 16 = nI W.length := by rw [zI1, if_pos rfl, updE, if_neg (by omega)]; exact w2
    have u2 : (zsI (zsI s 216 13 (nI (dpW W + 1))) 223 W.length (nI (wM k))).1 216 16 = nI W.length := by rw [zI1, if_neg (by omega)]; exact u1
    simp only [zwi, nI_1, u1]
    rw [zwa_n (by omega) (by omega)]
    simp only [u2, nI_1, zbl_1]
    refine rt_s ⟨((kT.rf.I (by omega)).W).I (by omega), Or.inr ⟨h10, rfl, ?_, ?_, ⟨w1.c (by omega), ?_, ⟨?_, ?_⟩, ?_⟩, hM.kt ?_ ?_ ?_ ?_⟩⟩
    · rw [zI1, if_pos rfl, updE, if_neg (by omega), zI1, if_neg (by omega), zI1, if_pos rfl, updE, if_neg (by omega)]; exact e9
    · rw [zI1, if_pos rfl, updE, if_neg (by omega), zI1, if_neg (by omega), zI1, if_pos rfl, updE, if_neg (by omega)]; exact e
    · rw [zI1, if_pos rfl, updE, if_pos rfl]; rfl
    · rw [zI1, if_neg (by omega), zI1, if_pos rfl, updE, if_pos rfl]
    · rw [zI1, if_neg (by omega), zI1, if_pos rfl]
      exact OW_u (by rw [zI1, if_neg (by omega)]; exact w3) (Nat.le_refl _)
    · rw [zI1, if_pos rfl, updE, if_neg (by omega), zI1, if_neg (by omega), zI1, if_pos rfl, updE, if_pos rfl]
      show _ = nI (dpW W + (if k = 0 ∨ k = 12 then 1 else 0))
      rw [if_pos hk]
    · rw [zI1, if_pos rfl, updE, if_neg (by omega), zI1, if_neg (by omega), zI1, if_pos rfl, updE, if_neg (by omega)]
    · rw [zI1, if_pos rfl, updE, if_neg (by omega), zI1, if_neg (by omega), zI1, if_pos rfl, updE, if_neg (by omega)]
    · rw [zI1, if_neg (by omega), zI1, if_neg (by omega), zI1, if_neg (by omega)]
    · rw [zI1, if_neg (by omega), zI1, if_neg (by omega), zI1, if_neg (by omega)]
theorem m_inside {W : List Nat} (hW : WS W s) (hl : W.length ≤ 400) : rt (f_Model_isInside s) (fun w => w.2 = s ∧ (0 ∈ W ∧ w.1 = 1 ∨ ¬ 0 ∈ W ∧ w.1 = 0)) := by
  obtain ⟨w1, w2, w3, w4⟩ := hW
  unfold f_Model_isInside
  refine lp_rank (n := 400) (r0 := 0) (fun r a s2 => s2 = s ∧ a = nI r ∧ r ≤ W.length ∧ ∀ i, i < r → ¬ W.getD (W.length - 1 - i) 0 = 0) (fun o => rt o (fun (w : Int32 × ZS) => w.2 = s ∧ (0 ∈ W ∧ w.1 = 1 ∨ ¬ 0 ∈ W ∧ w.1 = 0))) (by omega) ⟨rfl, rfl, Nat.zero_le _, fun i hi => by omega⟩ (fun r _ s2 hh => by have := hh.2.2.1; omega) ?_
  rintro r a s2 g ⟨rfl, rfl, hr, hh⟩
  unfold f_Model_isInside_B2
  simp only [zgi, w2, nI_leI (show W.length < 2147483648 by omega) (show r < 2147483648 by omega)]
  by_cases hle : W.length ≤ r
  · right
    rw [if_pos hle, zbl_0]
    refine rt_s ⟨rfl, Or.inr ⟨fun hm => ?_, rfl⟩⟩
    obtain ⟨i, hi, he⟩ := List.mem_iff_getElem.mp hm
    refine hh (W.length - 1 - i) (by omega) ?_
    rw [show W.length - 1 - (W.length - 1 - i) = i by omega, List.getD_eq_getElem?_getD, List.getElem?_eq_getElem hi, he]; rfl
  · rw [if_neg hle, zrd_n (by omega) (by omega), OW_n w3 (by omega)]
    have hlt : W.length - 1 - r < W.length := by omega
    have hg : W.getD (W.length - 1 - r) 0 = W[W.length - 1 - r] := by rw [List.getD_eq_getElem?_getD, List.getElem?_eq_getElem hlt]; rfl
    have hm : W[W.length - 1 - r] ∈ W := List.getElem_mem hlt
    by_cases h0 : W.getD (W.length - 1 - r) 0 = 0
    · right
      rw [h0, if_neg (show ¬ ¬ nI (wM 0) = 91 from fun x => x rfl), zbl_1]
      refine rt_s ⟨rfl, Or.inl ⟨?_, rfl⟩⟩
      rw [hg] at h0
      rw [h0] at hm
      exact hm
    · left
      have hk := w1 _ hm
      rw [← hg] at hk
      rw [if_pos (show ¬ nI (wM (W.getD (W.length - 1 - r) 0)) = 91 by
        generalize W.getD (W.length - 1 - r) 0 = k at hk h0
        rcases hk with rfl | rfl | rfl | rfl
        · exact absurd rfl h0
        · decide
        · decide
        · decide)]
      refine ⟨_, _, r + 1, by rw [nI_1], Nat.lt_succ_self _, rfl, rfl, by omega, fun i hi => ?_⟩
      by_cases hi2 : i = r
      · rw [hi2]; exact h0
      · exact hh i (by omega)
end RZ
