/-! Days on trial. -/
noncomputable def dz (P Q : Nat) (C : Nat → Int32) (st hm : Int32) (rl : ZRl) (z : ZT) : ZT := (sDay P Q C st hm rl z (fun _ => 0)).1
noncomputable def dr (P Q : Nat) (C : Nat → Int32) (st hm : Int32) (rl : ZRl) (z : ZT) : Int32 := (sDay P Q C st hm rl z (fun _ => 0)).2.1
noncomputable def ds (P Q : Nat) (C : Nat → Int32) (st hm : Int32) (rl : ZRl) (z : ZT) : Nat → Int32 := (sDay P Q C st hm rl z (fun _ => 0)).2.2
noncomputable def dn (P Q : Nat) (C : Nat → Int32) (st hm : Int32) (rl : ZRl) (n : Nat) (z : ZT) : ZT := itr n (fun _ z => dz P Q C st hm rl z) z
def dC (P Q : Nat) (C : Nat → Int32) (st hm : Int32) (rl : ZRl) (s : ZS) : Prop := cC P Q C s ∧ cK P C ∧ s.1 202 6 = st ∧ s.1 202 7 = hm ∧ (hm = -1 ∨ ∃ j, j < 5 ∧ hm = nI j) ∧ hC rl s
def dM (P Q : Nat) (C : Nat → Int32) (st hm : Int32) (rl : ZRl) (s : ZS) : Prop := cM P Q C s ∧ cK P C ∧ cN C ∧ s.1 216 23 = st ∧ s.1 216 24 = hm ∧ hM rl s
def tF (b : Nat) : Prop := 203 ≤ b ∧ b ≤ 205 ∨ 207 ≤ b ∧ b ≤ 211
section DD
variable {P Q : Nat} {C : Nat → Int32} {st hm : Int32} {rl : ZRl} {s : ZS}
theorem dC.f {s' : ZS} (h : dC P Q C st hm rl s) (hf : frm tF s s') : dC P Q C st hm rl s' := by
  obtain ⟨h1, h2, h3, h4, h5, h6⟩ := h
  refine ⟨h1.f hf (fun b hb hb2 => by unfold tF; omega), h2, ?_, ?_, h5, h6.f hf (fun b hb => by unfold tF; omega)⟩
  · rw [hf.1 202 (by unfold tF; omega)]; exact h3
  · rw [hf.1 202 (by unfold tF; omega)]; exact h4
theorem dM.n {s' : ZS} (h : dM P Q C st hm rl s) (hn : nM s s') : dM P Q C st hm rl s' := by
  obtain ⟨h1, h2, h3, h4, h5, h6⟩ := h
  exact ⟨h1.n hn, h2, h3, (hn.2.2.1 23 (by omega)).trans h4, (hn.2.2.1 24 (by omega)).trans h5, h6.n hn⟩
theorem zW_dz {z : ZT} (hK : cK P C) (h : zW P z.2.1) : zW P (dz P Q C st hm rl z).2.1 := zW_day hK h
theorem zW_dn {z : ZT} (hK : cK P C) (h : zW P z.2.1) : ∀ n, zW P (dn P Q C st hm rl n z).2.1 := by
  intro n
  induction n with
  | zero => exact h
  | succ n ih => exact zW_dz hK ih
theorem zOK_dn {z : ZT} (hP : P ≤ 5) (hQ : Q ≤ 6) (hK : cK2 C) (h : zOK P z) : ∀ n, zOK P (dn P Q C st hm rl n z) := by
  intro n
  induction n with
  | zero => exact h
  | succ n ih => exact zOK_day hP hQ hK ih
theorem day_dn {z : ZT} {d : Nat} (h : z.2.2.2.2.1 = nI d) : ∀ n, (dn P Q C st hm rl n z).2.2.2.2.1 = nI (d + n) := by
  intro n
  induction n with
  | zero => exact h
  | succ n ih =>
    show (dz P Q C st hm rl (dn P Q C st hm rl n z)).2.2.2.2.1 = _
    unfold dz
    rw [day_day, ih, nI_1]; rfl
theorem c_day (h : dC P Q C st hm rl s) (hz : zW P (gS 207 s).2.1) : rt (f_Mill_passDay 207 s) (fun w => gS 207 w.2 = dz P Q C st hm rl (gS 207 s) ∧ w.1 = dr P Q C st hm rl (gS 207 s) ∧ (∀ p, p < 5 → bt w.1 p = true → w.2.1 205 p = ds P Q C st hm rl (gS 207 s) p) ∧ frm tF s w.2) := by
  obtain ⟨h1, h2, h3, h4, h5, h6⟩ := h
  refine (cl_passDay207 h1 h2 hz h3 h4 h5 h6).mono ?_
  rintro ⟨r, s1⟩ ⟨w1, F⟩
  dsimp only at w1 F ⊢
  obtain ⟨k1, k2, k3⟩ := day_eX (Q := Q) (C := C) (st := st) (hm := hm) (rl := rl) (z := gS 207 s) (RS := s.1 205) (RS' := fun _ => 0) h1.1
  rw [← w1] at k1 k2 k3
  exact ⟨k1, k2, k3, F⟩
theorem m_day (h : dM P Q C st hm rl s) (hz : zW P (gM (s.1 226)).2.1) : rt (f_Model_passes s) (fun w => gM (w.2.1 226) = dz P Q C st hm rl (gM (s.1 226)) ∧ w.1 = dr P Q C st hm rl (gM (s.1 226)) ∧ (∀ p, p < 5 → bt w.1 p = true → w.2.1 227 p = ds P Q C st hm rl (gM (s.1 226)) p) ∧ nM s w.2) := by
  obtain ⟨h1, h2, h3, h4, h5, h6⟩ := h
  refine (m_passes h1 h2 h3 hz h4 h5 h6).mono ?_
  rintro ⟨r, s1⟩ ⟨w1, F⟩
  dsimp only at w1 F ⊢
  obtain ⟨k1, k2, k3⟩ := day_eX (Q := Q) (C := C) (st := st) (hm := hm) (rl := rl) (z := gM (s.1 226)) (RS := s.1 227) (RS' := fun _ => 0) h1.1
  rw [← w1] at k1 k2 k3
  exact ⟨k1, k2, k3, F⟩
theorem c_rowsIn {n : Nat} (hn : n < 1000) (h : dC P Q C st hm rl s) (hz : zW P (gS 207 s).2.1) : rt (f_Fore_rowsIn (nI n) s) (fun w => w.1 = (dn P Q C st hm rl n (gS 207 s)).2.2.2.2.2 - (gS 207 s).2.2.2.2.2 ∧ gS 207 w.2 = dn P Q C st hm rl n (gS 207 s) ∧ frm tF s w.2) := by
  unfold f_Fore_rowsIn
  simp only [zgi, zj0, rN207]
  refine lp_rt n (fun i a s1 => a = nI i ∧ gS 207 s1 = dn P Q C st hm rl i (gS 207 s) ∧ frm tF s s1) (by omega) ⟨rfl, rfl, frm.rf⟩ ?_ ?_
  · rintro i c s1 g hi ⟨rfl, h1, h3⟩
    left
    have hni : ¬ n ≤ i := by omega
    obtain ⟨⟨r, s2⟩, r2, k1, k2, k3, F⟩ := c_day (h.f h3) (by rw [h1]; exact zW_dn h.2.1 hz i)
    dsimp only at k1 F
    unfold f_Fore_rowsIn_B10
    simp (disch := omega) only [nI_leI, hni, ↓reduceIte, r2, zcl_s, nI_1]
    exact ⟨_, _, rfl, rfl, by rw [k1, h1]; rfl, h3.tr F⟩
  · rintro c s1 g ⟨rfl, h1, h3⟩
    unfold f_Fore_rowsIn_B10
    simp (disch := omega) only [nI_leI, Nat.le_refl, ↓reduceIte]
    exact rt_s ⟨by dsimp only; rw [rN207, h1], h1, h3⟩
/-! the reference keeps and lays back -/
def oM (s s' : ZS) : Prop := (∀ b, ¬ (b = 216 ∨ 226 ≤ b ∧ b ≤ 227) → s'.1 b = s.1 b) ∧ (∀ j, j ≠ 18 → s'.1 216 j = s.1 216 j) ∧ ∀ b, ¬ (224 ≤ b ∧ b ≤ 225) → s'.2 b = s.2 b
theorem oM.rf : oM s s := ⟨fun _ _ => rfl, fun _ _ => rfl, fun _ _ => rfl⟩
theorem oM.tr {s1 s2 : ZS} (h : oM s s1) (h2 : oM s1 s2) : oM s s2 := ⟨fun b hb => (h2.1 b hb).trans (h.1 b hb), fun b hb => (h2.2.1 b hb).trans (h.2.1 b hb), fun b hb => (h2.2.2 b hb).trans (h.2.2 b hb)⟩
theorem nM.o {s1 : ZS} (h : nM s s1) : oM s s1 := ⟨h.1, h.2.2.1, h.2.1⟩
theorem oM_R {r : Nat → Int32} : oM s (zsR s 226 r) := ⟨fun b hb => by rw [zR1, if_neg (by omega)], fun _ _ => rfl, fun _ _ => rfl⟩
theorem m_keeps : rt (f_Model_keeps s) (fun w => w = zsR s 229 (fun k => if k < 47 then s.1 226 (10 + k) else s.1 229 k)) := by
  unfold f_Model_keeps
  refine lp_rt 47 (fun i a s1 => a = nI i ∧ s1 = zsR s 229 (fun k => if k < i then s.1 226 (10 + k) else s.1 229 k)) (by omega) ⟨rfl, ?_⟩ ?_ ?_
  · have : (fun k => if k < 0 then s.1 226 (10 + k) else s.1 229 k) = s.1 229 := by funext k; rw [if_neg (by omega)]
    rw [this, zsR_id]
  · rintro i c s1 g hi ⟨rfl, rfl⟩
    left
    have hn : ¬ 47 ≤ i := by omega
    unfold f_Model_keeps_B2
    have r1 : ∀ r, (zsR s 229 r).1 226 = s.1 226 := fun r => rfl
    simp (disch := omega) only [r1, l47, l10, nI_leI, hn, ↓reduceIte, nI_add, zrd_n, zwa_n, nI_1, zsR_I]
    refine ⟨_, _, rfl, rfl, ?_⟩
    congr 1
    funext k
    rw [updE]
    by_cases hk : k = i
    · rw [if_pos hk, if_pos (by omega), hk]
    · rw [if_neg hk]
      by_cases hk2 : k < i
      · rw [if_pos hk2, if_pos (by omega)]
      · rw [if_neg hk2, if_neg (by omega)]
  · rintro c s1 g ⟨rfl, rfl⟩
    unfold f_Model_keeps_B2
    simp (disch := omega) only [l47, nI_leI, Nat.le_refl, ↓reduceIte]
    exact rt_s rfl
theorem m_laysBack {M0 : Nat → Int32} (hk : ∀ k, k < 47 → s.1 229 k = M0 (10 + k)) (ho : ∀ k, k < 10 ∨ 57 ≤ k → s.1 226 k = M0 k) : rt (f_Model_laysBack s) (fun w => w = zsR s 226 M0) := by
  unfold f_Model_laysBack
  refine lp_rt 47 (fun i a s1 => a = nI i ∧ s1 = zsR s 226 (fun k => if 10 ≤ k ∧ k < 10 + i then M0 k else s.1 226 k)) (by omega) ⟨rfl, ?_⟩ ?_ ?_
  · have : (fun k => if 10 ≤ k ∧ k < 10 + 0 then M0 k else s.1 226 k) = s.1 226 := by funext k; rw [if_neg (by omega)]
    rw [this, zsR_id]
  · rintro i c s1 g hi ⟨rfl, rfl⟩
    left
    have hn : ¬ 47 ≤ i := by omega
    unfold f_Model_laysBack_B2
    have r1 : ∀ r, (zsR s 226 r).1 229 = s.1 229 := fun r => rfl
    simp (disch := omega) only [r1, l47, l10, nI_leI, hn, ↓reduceIte, nI_add, zrd_n, zwa_n, nI_1, zsR_I]
    refine ⟨_, _, rfl, rfl, ?_⟩
    congr 1
    funext k
    rw [updE]
    by_cases hk1 : k = 10 + i
    · rw [if_pos hk1, if_pos (by omega), hk i hi, hk1]
    · rw [if_neg hk1]
      by_cases hk2 : 10 ≤ k ∧ k < 10 + i
      · rw [if_pos hk2, if_pos (by omega)]
      · rw [if_neg hk2, if_neg (by omega)]
  · rintro c s1 g ⟨rfl, rfl⟩
    unfold f_Model_laysBack_B2
    simp (disch := omega) only [l47, nI_leI, Nat.le_refl, ↓reduceIte]
    refine rt_s ?_
    congr 1
    funext k
    by_cases hk2 : 10 ≤ k ∧ k < 10 + 47
    · rw [if_pos hk2]
    · rw [if_neg hk2]; exact ho k (by omega)
theorem m_rowsIn {n : Nat} {M0 : Nat → Int32} (hn : n < 1000) (h : dM P Q C st hm rl s) (hz : zW P (gM (s.1 226)).2.1) (hk : ∀ k, k < 47 → s.1 229 k = M0 (10 + k)) (ho : ∀ k, k < 10 ∨ 57 ≤ k → s.1 226 k = M0 k) : rt (f_Model_rowsIn (nI n) s) (fun w => w.1 = (dn P Q C st hm rl n (gM (s.1 226))).2.2.2.2.2 - (gM (s.1 226)).2.2.2.2.2 ∧ w.2.1 226 = M0 ∧ oM s w.2) := by
  unfold f_Model_rowsIn
  simp only [zgi, zj0, qN]
  refine lp_rt n (fun i a s1 => a = nI i ∧ gM (s1.1 226) = dn P Q C st hm rl i (gM (s.1 226)) ∧ nM s s1) (by omega) ⟨rfl, rfl, nM.rf⟩ ?_ ?_
  · rintro i c s1 g hi ⟨rfl, h1, h3⟩
    left
    have hni : ¬ n ≤ i := by omega
    obtain ⟨⟨r, s2⟩, r2, k1, k2, k3, F⟩ := m_day (h.n h3) (by rw [h1]; exact zW_dn h.2.1 hz i)
    dsimp only at k1 F
    unfold f_Model_rowsIn_B10
    simp (disch := omega) only [nI_leI, hni, ↓reduceIte, r2, zcl_s, nI_1]
    exact ⟨_, _, rfl, rfl, by rw [k1, h1]; rfl, h3.tr F⟩
  · rintro c s1 g ⟨rfl, h1, h3⟩
    unfold f_Model_rowsIn_B10
    simp (disch := omega) only [nI_leI, Nat.le_refl, ↓reduceIte]
    refine rt_cv (m_laysBack (M0 := M0) (fun k hk2 => by rw [h3.1 229 (by omega)]; exact hk k hk2) (fun k hk2 => by rw [h3.2.2.2 k hk2]; exact ho k hk2)) ?_
    rintro s2 rfl
    refine rt_s ⟨by rw [h1], ?_, h3.o.tr oM_R⟩
    dsimp only; rw [zR1, if_pos rfl]
end DD
/-! begin of asking -/
theorem c_restart {s : ZS} (hf : s.1 3 6 = -1 ∨ ∃ j, j < 6 ∧ s.1 3 6 = nI j) : rt (f_Fore_restart s) (fun w => gS 207 w = gS 10 s ∧ w.1 202 5 = s.1 3 6 ∧ w.1 202 6 = 0 ∧ w.1 202 7 = -1 ∧ frm (fun b => b = 202 ∨ 207 ≤ b ∧ b ≤ 211) s w) := by
  unfold f_Fore_restart
  refine rt_cv (c_copyS (by omega)) ?_
  rintro s1 ⟨g1, F1⟩
  have e : s1.1 3 6 = s.1 3 6 := by rw [F1.1 3 (by omega)]
  simp only [zgi, e]
  refine rt_cv (c_under hf) ?_
  rintro s2 ⟨v1, v2, v3, F2⟩
  refine rt_s ⟨?_, v1, v2, v3, (F1.sub (fun b hb => by omega)).tr (F2.sub (fun b hb => by omega))⟩
  rw [gS_f (s := s1) (fun b _ _ => F2.1 b (by omega))]; exact g1
