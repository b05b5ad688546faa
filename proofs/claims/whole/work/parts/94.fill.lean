/-! The reference: which rules fit the notes. -/
section FM
variable {s : ZS} {R P Q m : Nat} {rlF : Nat → ZRl} {nd np : Nat → Nat} {nw : Nat → Int32}
def xM (s s' : ZS) : Prop := (∀ b, ¬ (b = 216 ∨ 226 ≤ b ∧ b ≤ 227 ∨ 235 ≤ b ∧ b ≤ 236) → s'.1 b = s.1 b) ∧ (∀ j, j ≠ 18 → j ≠ 21 → s'.1 216 j = s.1 216 j) ∧ ∀ k, k < 10 ∨ 57 ≤ k → s'.1 226 k = s.1 226 k
theorem xM.rf : xM s s := ⟨fun _ _ => rfl, fun _ _ _ => rfl, fun _ _ => rfl⟩
theorem xM.tr {s1 s2 : ZS} (h : xM s s1) (h2 : xM s1 s2) : xM s s2 := ⟨fun b hb => (h2.1 b hb).trans (h.1 b hb), fun j hj hj2 => (h2.2.1 j hj hj2).trans (h.2.1 j hj hj2), fun k hk => (h2.2.2 k hk).trans (h.2.2 k hk)⟩
theorem nM.x {s1 : ZS} (h : nM s s1) : xM s s1 := ⟨fun b hb => h.1 b (by omega), fun j hj _ => h.2.2.1 j hj, h.2.2.2⟩
theorem xM.I {s1 : ZS} {a j : Nat} {v : Int32} (h : xM s s1) (ha : 235 ≤ a ∧ a ≤ 236) : xM s (zsI s1 a j v) := ⟨fun b hb => by rw [zI1, if_neg (by omega)]; exact h.1 b hb, fun i h1 h2 => by rw [zI1, if_neg (by omega)]; exact h.2.1 i h1 h2, fun k hk => by rw [zI1, if_neg (by omega)]; exact h.2.2 k hk⟩
/-- the widths of all pairs are put down -/
theorem m_wide {r n n0 : Nat} {is : Int32} {s1 : ZS} {k27 : ZS → Option ZS} {Z : Option ZS → Prop} (hr : r ≤ 6) (hn : n ≤ 100) (hn0 : n0 ≤ 100)
    (hk : ∀ s2, (∀ b, b ≠ 236 → s2.1 b = s1.1 b) → (∀ k, ¬ (5 * r ≤ k ∧ k < 5 * r + 5) → s2.1 236 k = s1.1 236 k) → (n = n0 → ∀ p, p < 5 → s2.1 236 (5 * r + p) = (gM (s1.1 226)).2.1 p) → (n ≠ n0 → s2 = s1) → s2.2 = s1.2 → Z (k27 s2)) : Z (zlp zN (f_Model_fillsFits_B72 (nI n0) (nI r) (is, nI n) k27) (0 : Int32) s1) := by
  refine lp_go (n := 5) (fun i a s2 => a = nI i ∧ (∀ b, b ≠ 236 → s2.1 b = s1.1 b) ∧ (∀ k, ¬ (5 * r ≤ k ∧ k < 5 * r + 5) → s2.1 236 k = s1.1 236 k) ∧ (∀ p, p < i → s2.1 236 (5 * r + p) = (gM (s1.1 226)).2.1 p) ∧ (n ≠ n0 → s2 = s1) ∧ s2.2 = s1.2) Z (by omega) ⟨rfl, fun _ _ => rfl, fun _ _ => rfl, fun p hp => by omega, fun _ => rfl, rfl⟩ ?_ ?_
  · rintro i a s2 g hi ⟨rfl, k1, k2, k3, k4, k5⟩
    have hni : ¬ 5 ≤ i := by omega
    unfold f_Model_fillsFits_B72
    simp (disch := omega) only [l5, nI_leI, hni, ↓reduceIte, nI_inj]
    by_cases e : n = n0
    · left
      simp (disch := omega) only [eq_true e, not_true_eq_false, ↓reduceIte, mBand, zcl_s, nI_mulR, nI_add, zwa_n, nI_1]
      refine ⟨_, _, rfl, rfl, fun b hb => ?_, fun k hk2 => ?_, fun p hp => ?_, fun h => absurd e h, k5⟩
      · rw [zI1, if_neg hb]; exact k1 b hb
      · rw [zI1, if_pos rfl, updE, if_neg (by omega)]; exact k2 k hk2
      · rw [zI1, if_pos rfl, updE]
        by_cases e2 : p = i
        · rw [if_pos (by omega), e2, k1 226 (by omega)]
        · rw [if_neg (by omega)]; exact k3 p (by omega)
    · right
      simp only [e, not_false_eq_true, ↓reduceIte]
      exact hk s2 k1 k2 (fun h => absurd h e) k4 k5
  · rintro a s2 g ⟨rfl, k1, k2, k3, k4, k5⟩
    unfold f_Model_fillsFits_B72
    simp (disch := omega) only [l5, nI_leI, Nat.le_refl, ↓reduceIte]
    exact hk s2 k1 k2 (fun _ => k3) k4 k5
theorem m_fill {n0 : Nat} {s' : ZS} (h2 : rRu s R) (h3 : rWd 3 s (s.1 226) (s.1 216 21) (s.1 216 22) R P Q) (h6 : s.1 216 23 = 0) (h7 : s.1 216 24 = -1) (hrl : ∀ r, r ≤ R → ∀ w : ZS, w.1 216 21 = nI r - 1 → (∀ b, b = 218 ∨ b = 220 ∨ b = 221 → w.1 b = s.1 b) → hM (rlF r) w) (hno : noM P m nd np nw s) (hn0 : n0 ≤ 60) {ft : Nat → Bool} (hft : ∀ r, ft r = true ↔ fitP P Q (s.1 226) rlF m nd np nw r)
    (hs' : ∀ b, ¬ (202 ≤ b ∧ b ≤ 215) → s'.1 b = s.1 b) : rt (f_Model_fillsFits (nI n0) s') (fun w => qM s' w ∧ (∀ r, r ≤ R → w.1 235 r = if ft r = true then 1 else 0) ∧ ∀ r, r ≤ R → ∀ p, p < 5 → w.1 236 (5 * r + p) = (dS P Q (s.1 226) rlF r (n0 + 1)).2.1 p) := by
  have hP := h3.1.1
  have hR := h2.1
  have e226 : s'.1 226 = s.1 226 := hs' 226 (by omega)
  have e216 : s'.1 216 = s.1 216 := hs' 216 (by omega)
  unfold f_Model_fillsFits
  simp only [zgi]
  refine rt_cv m_keeps ?_
  rintro s1 rfl
  generalize hs1 : zsR s' 229 (fun k => if k < 47 then s'.1 226 (10 + k) else s'.1 229 k) = s1
  have kp : ∀ k, k < 47 → s1.1 229 k = s.1 226 (10 + k) := fun k hk => by rw [← hs1, kept k hk, e226]
  have E1 : ∀ b, b ≠ 229 → s1.1 b = s'.1 b := fun b hb => by rw [← hs1, zR1, if_neg hb]
  have a226 : s1.1 226 = s.1 226 := (E1 226 (by omega)).trans e226
  have a216 : s1.1 216 = s.1 216 := (E1 216 (by omega)).trans e216
  simp only [zj0]
  refine lp_rt (R + 1) (fun r a s2 => a = nI r ∧ xM s1 s2 ∧ (∀ r', r' < r → s2.1 235 r' = if ft r' = true then 1 else 0) ∧ ∀ r', r' < r → ∀ p, p < 5 → s2.1 236 (5 * r' + p) = (dS P Q (s.1 226) rlF r' (n0 + 1)).2.1 p) (by omega) ⟨rfl, xM.rf, fun r' h => by omega, fun r' h => by omega⟩ ?_ ?_
  · rintro r a s2 g hr ⟨rfl, X, j1, j2⟩
    have eR : s2.1 216 2 = nI R := by rw [X.2.1 2 (by omega) (by omega), a216]; exact h2.2.2.1
    have hnr : ¬ R < r := by omega
    generalize hG : (fun o : Option ZS => (∃ a' s'_1, o = g a' s'_1 ∧ a' = nI (r + 1) ∧ xM s1 s'_1 ∧ (∀ r', r' < r + 1 → s'_1.1 235 r' = if ft r' = true then 1 else 0) ∧ ∀ r', r' < r + 1 → ∀ p, p < 5 → s'_1.1 236 (5 * r' + p) = (dS P Q (s.1 226) rlF r' (n0 + 1)).2.1 p) ∨ rt o (fun w => qM s' w ∧ (∀ r, r ≤ R → w.1 235 r = if ft r = true then 1 else 0) ∧ ∀ r, r ≤ R → ∀ p, p < 5 → w.1 236 (5 * r + p) = (dS P Q (s.1 226) rlF r (n0 + 1)).2.1 p)) = Z
    have goal : Z (f_Model_fillsFits_B11 (nI n0) (fun s4 => zwi s4 216 21 (s'.1 216 21) (fun s6 => zcv (f_Model_laysBack s6) (fun s7 => some s7))) (nI r) s2 g) := by
      unfold f_Model_fillsFits_B11
      simp (disch := omega) only [zgi, eR, nI_ltI, hnr, ↓reduceIte, zwi]
      generalize hs3 : zsI s2 216 21 (nI r - 1) = s3
      have X3 : xM s1 s3 := X.tr (by rw [← hs3]; exact ⟨fun b hb => by rw [zI1, if_neg (by omega)], fun j h1 h2 => by rw [zI1, if_pos rfl, updE, if_neg h2], fun k _ => by rw [zI1, if_neg (by omega)]⟩)
      have f3 : s3.1 216 21 = nI r - 1 := by rw [← hs3, zI1, if_pos rfl, updE, if_pos rfl]
      have b3 : ∀ b, b = 235 ∨ b = 236 → s3.1 b = s2.1 b := fun b hb => by rw [← hs3, zI1, if_neg (by omega)]
      obtain ⟨s4, r4, g4, q1, q2, q3⟩ := m_begins (s := s3)
      rw [r4, zcv_s]
      have X4 : xM s1 s4 := X3.tr ⟨fun b hb => q2 b (by omega), fun j _ _ => by rw [q2 216 (by omega)], q1⟩
      have g4' : gM (s4.1 226) = dS P Q (s.1 226) rlF r 0 := by
        rw [g4]
        refine zBg_f (fun p hp => ?_)
        rw [X3.2.2 _ (by omega), a226]
      have f4 : s4.1 216 21 = nI r - 1 := by rw [q2 216 (by omega)]; exact f3
      simp only [zjn]
      have dMx : ∀ s5, xM s1 s5 → s5.1 216 21 = nI r - 1 → dM P Q (s.1 226) 0 (-1) (rlF r) s5 := fun s5 X5 f5 => by
        refine ⟨?_, h3.1.cK, h3.1.cN, ?_, ?_, hrl r (by omega) s5 f5 (fun b hb => ?_)⟩
        · obtain ⟨k1, k2, k3, k4, k5⟩ := h3.cM
          exact ⟨k1, k2, by rw [X5.2.2 3 (by omega), a226]; exact k3, by rw [X5.2.2 4 (by omega), a226]; exact k4, fun k hk => by rw [X5.2.2 k hk, a226]⟩
        · rw [X5.2.1 23 (by omega) (by omega), a216]; exact h6
        · rw [X5.2.1 24 (by omega) (by omega), a216]; exact h7
        · rw [X5.1 b (by omega), E1 b (by omega)]; exact hs' b (by omega)
      have noX : ∀ s5, xM s1 s5 → noM P m nd np nw s5 := fun s5 X5 => hno.f (fun k hk => by rw [X5.2.2 k hk, a226])
      refine lp_go (n := 61) (fun n a s5 => a.2 = nI n ∧ xM s1 s5 ∧ s5.1 216 21 = nI r - 1 ∧ gM (s5.1 226) = dS P Q (s.1 226) rlF r n ∧ s5.1 235 = s2.1 235 ∧ (∀ k, ¬ (5 * r ≤ k ∧ k < 5 * r + 5) → s5.1 236 k = s2.1 236 k) ∧ (n0 < n → ∀ p, p < 5 → s5.1 236 (5 * r + p) = (dS P Q (s.1 226) rlF r (n0 + 1)).2.1 p) ∧ (a.1 = 1 ∧ (∀ n', n' < n → ntS m nd np nw (dS P Q (s.1 226) rlF r (n' + 1)) n' m) ∨ a.1 = 0 ∧ ¬ ∀ n', n' < n → ntS m nd np nw (dS P Q (s.1 226) rlF r (n' + 1)) n' m)) Z (by omega) ⟨rfl, X4, f4, g4', by rw [q2 235 (by omega)]; exact b3 235 (by omega), fun k _ => by rw [q2 236 (by omega), b3 236 (by omega)], fun h => by omega, Or.inl ⟨rfl, fun n' h => by omega⟩⟩ ?_ ?_
      · rintro n ⟨x1, x2⟩ s5 g5 hn ⟨e1, X5, f5, g5', c5, w5, v5, hh⟩
        dsimp only at e1 hh
        subst e1
        have hni : ¬ 60 < n := by omega
        obtain ⟨⟨v, s6⟩, r6, g6, _, _, N6⟩ := m_day (dMx s5 X5 f5) (by rw [g5']; exact zW_dn h3.1.cK zBg_zW n)
        dsimp only at g6 N6
        rw [g5', ← dSS] at g6
        have X6 := X5.tr N6.x
        have f6 : s6.1 216 21 = nI r - 1 := by rw [N6.2.2.1 21 (by omega)]; exact f5
        have c6 : s6.1 235 = s2.1 235 := by rw [N6.1 235 (by omega)]; exact c5
        have w6 : s6.1 236 = s5.1 236 := N6.1 236 (by omega)
        obtain ⟨⟨v7, s7⟩, r7, e7, hv7⟩ := m_notes (n := n) (noX s6 X6) hP (by omega)
        dsimp only at e7 hv7
        subst e7
        rw [g6] at hv7
        unfold f_Model_fillsFits_B36
        simp (disch := omega) only [show (60 : Int32) = nI 60 from rfl, nI_ltI, hni, ↓reduceIte, r6, zcl_s, zjn, zj0, nI_1]
        have fin : ∀ is : Int32, (is = 1 ∧ (∀ n', n' < n + 1 → ntS m nd np nw (dS P Q (s.1 226) rlF r (n' + 1)) n' m) ∨ is = 0 ∧ ¬ ∀ n', n' < n + 1 → ntS m nd np nw (dS P Q (s.1 226) rlF r (n' + 1)) n' m) → ∃ a' s'_1, zlp zN (f_Model_fillsFits_B72 (nI n0) (nI r) (x1, nI n) (fun s26 => g5 (is, nI (n + 1)) s26)) 0 s7 = g5 a' s'_1 ∧ (a'.2 = nI (n + 1) ∧ xM s1 s'_1 ∧ s'_1.1 216 21 = nI r - 1 ∧ gM (s'_1.1 226) = dS P Q (s.1 226) rlF r (n + 1) ∧ s'_1.1 235 = s2.1 235 ∧ (∀ k, ¬ (5 * r ≤ k ∧ k < 5 * r + 5) → s'_1.1 236 k = s2.1 236 k) ∧ (n0 < n + 1 → ∀ p, p < 5 → s'_1.1 236 (5 * r + p) = (dS P Q (s.1 226) rlF r (n0 + 1)).2.1 p) ∧ (a'.1 = 1 ∧ (∀ n', n' < n + 1 → ntS m nd np nw (dS P Q (s.1 226) rlF r (n' + 1)) n' m) ∨ a'.1 = 0 ∧ ¬ ∀ n', n' < n + 1 → ntS m nd np nw (dS P Q (s.1 226) rlF r (n' + 1)) n' m)) := by
          intro is his
          obtain ⟨J, hJ⟩ : ∃ J : Int32 × Int32 → ZS → Prop, J = fun a' s'_1 => (a'.2 = nI (n + 1) ∧ xM s1 s'_1 ∧ s'_1.1 216 21 = nI r - 1 ∧ gM (s'_1.1 226) = dS P Q (s.1 226) rlF r (n + 1) ∧ s'_1.1 235 = s2.1 235 ∧ (∀ k, ¬ (5 * r ≤ k ∧ k < 5 * r + 5) → s'_1.1 236 k = s2.1 236 k) ∧ (n0 < n + 1 → ∀ p, p < 5 → s'_1.1 236 (5 * r + p) = (dS P Q (s.1 226) rlF r (n0 + 1)).2.1 p) ∧ (a'.1 = 1 ∧ (∀ n', n' < n + 1 → ntS m nd np nw (dS P Q (s.1 226) rlF r (n' + 1)) n' m) ∨ a'.1 = 0 ∧ ¬ ∀ n', n' < n + 1 → ntS m nd np nw (dS P Q (s.1 226) rlF r (n' + 1)) n' m)) := ⟨_, rfl⟩
          have key : (fun o => ∃ a' s'_1, o = g5 a' s'_1 ∧ J a' s'_1) (zlp zN (f_Model_fillsFits_B72 (nI n0) (nI r) (x1, nI n) (fun s26 => g5 (is, nI (n + 1)) s26)) 0 s7) := by
            refine m_wide (r := r) (n := n) (n0 := n0) (is := x1) (s1 := s7) (Z := fun o => ∃ a' s'_1, o = g5 a' s'_1 ∧ J a' s'_1) (by omega) (by omega) (by omega) (fun s8 y1 y2 y3 y4 y5 => ?_)
            refine ⟨_, _, rfl, ?_⟩
            rw [hJ]
            refine ⟨rfl, ?_, ?_, ?_, ?_, fun k hk => ?_, fun hn2 p hp => ?_, his⟩
            · exact X6.tr ⟨fun b hb => y1 b (by omega), fun j _ _ => by rw [y1 216 (by omega)], fun k _ => by rw [y1 226 (by omega)]⟩
            · rw [y1 216 (by omega)]; exact f6
            · rw [y1 226 (by omega)]; exact g6
            · rw [y1 235 (by omega)]; exact c6
            · rw [y2 k hk, w6]; exact w5 k hk
            · by_cases e : n = n0
              · rw [y3 e p hp, g6, e]
              · rw [y4 e, w6]; exact v5 (by omega) p hp
          rw [hJ] at key
          exact key
        left
        have ext : (∀ n', n' < n + 1 → ntS m nd np nw (dS P Q (s.1 226) rlF r (n' + 1)) n' m) ↔ (∀ n', n' < n → ntS m nd np nw (dS P Q (s.1 226) rlF r (n' + 1)) n' m) ∧ ntS m nd np nw (dS P Q (s.1 226) rlF r (n + 1)) n m := by
          constructor
          · intro h; exact ⟨fun n' hn' => h n' (by omega), h n (by omega)⟩
          · rintro ⟨z1, z2⟩ n' hn'
            by_cases e : n' = n
            · rw [e]; exact z2
            · exact z1 n' (by omega)
        rcases hh with ⟨rfl, hh⟩ | ⟨rfl, hh⟩
        · simp only [i10, ↓reduceIte, r7, zcl_s]
          rcases hv7 with ⟨rfl, hv⟩ | ⟨rfl, hv⟩
          · simp only [i10, ↓reduceIte]
            exact fin 1 (Or.inl ⟨rfl, ext.mpr ⟨hh, hv⟩⟩)
          · simp only [↓reduceIte]
            exact fin 0 (Or.inr ⟨rfl, fun h => hv (ext.mp h).2⟩)
        · simp only [↓reduceIte]
          exact fin 0 (Or.inr ⟨rfl, fun h => hh (ext.mp h).1⟩)
      · rintro ⟨x1, x2⟩ s5 g5 ⟨e1, X5, f5, g5', c5, w5, v5, hh⟩
        dsimp only at e1 hh
        subst e1
        have hni : 60 < 61 := by omega
        unfold f_Model_fillsFits_B36
        simp (disch := omega) only [show (60 : Int32) = nI 60 from rfl, nI_ltI, hni, ↓reduceIte]
        have hfit : fitP P Q (s.1 226) rlF m nd np nw r ↔ ∀ n', n' < 61 → ntS m nd np nw (dS P Q (s.1 226) rlF r (n' + 1)) n' m := ⟨fun h n' hn' => h n' (by omega), fun h n' hn' => h n' (by omega)⟩
        have hx : x1 = if ft r = true then 1 else 0 := by
          rcases hh with ⟨z1, z2⟩ | ⟨z1, z2⟩
          · rw [if_pos ((hft r).mpr (hfit.mpr z2))]; exact z1
          · rw [if_neg (fun h => z2 (hfit.mp ((hft r).mp h)))]; exact z1
        have hnar : vp_nar .boolean x1 = x1 := by
          rcases hh with ⟨z1, _⟩ | ⟨z1, _⟩
          · rw [z1]; exact narZ1
          · rw [z1]; exact narZ0
        simp (disch := omega) only [zwa_n, hnar, nI_1]
        rw [← hG]
        left
        refine ⟨_, _, rfl, rfl, X5.I (by omega), fun r' hr' => ?_, fun r' hr' p hp => ?_⟩
        · rw [zI1, if_pos rfl, updE]
          by_cases e : r' = r
          · rw [if_pos e, hx, e]
          · rw [if_neg e, c5]; exact j1 r' (by omega)
        · rw [zI1, if_neg (by omega)]
          by_cases e : r' = r
          · rw [e]; exact v5 (by omega) p hp
          · rw [w5 _ (by omega)]; exact j2 r' (by omega) p hp
    rw [← hG] at goal
    exact goal
  · rintro a s2 g ⟨rfl, X, j1, j2⟩
    have eR : s2.1 216 2 = nI R := by rw [X.2.1 2 (by omega) (by omega), a216]; exact h2.2.2.1
    have hnr : R < R + 1 := by omega
    unfold f_Model_fillsFits_B11
    simp (disch := omega) only [zgi, eR, nI_ltI, hnr, ↓reduceIte, zwi]
    refine rt_cv (m_laysBack (M0 := s.1 226) (fun k hk => ?_) (fun k hk => ?_)) ?_
    · rw [zI1, if_neg (by omega), X.1 229 (by omega)]; exact kp k hk
    · rw [zI1, if_neg (by omega), X.2.2 k hk, a226]
    · rintro s7 rfl
      refine rt_s ⟨⟨fun b hb => ?_, fun j hj => ?_⟩, fun r hr => ?_, fun r hr p hp => ?_⟩
      · rw [zR1]
        by_cases e : b = 226
        · rw [if_pos e, e, e226]
        · rw [if_neg e, zI1, if_neg (by omega), X.1 b (by omega), E1 b (by omega)]
      · rw [zR1, if_neg (by omega), zI1, if_pos rfl, updE]
        by_cases e : j = 21
        · rw [if_pos e, e]
        · rw [if_neg e, X.2.1 j (by omega) e, E1 216 (by omega)]
      · rw [zR1, if_neg (by omega), zI1, if_neg (by omega)]; exact j1 r (by omega)
      · rw [zR1, if_neg (by omega), zI1, if_neg (by omega)]; exact j2 r (by omega) p hp
end FM
