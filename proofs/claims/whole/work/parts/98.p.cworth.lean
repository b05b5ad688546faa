/-! rule: the class's worth. -/
def SC : List Int64 → (Nat → Int64) → Prop
  | [], _ => True
  | v :: σ, f => f σ.length = v ∧ SC σ f
theorem SC_u {j : Nat} {v : Int64} : ∀ {σ : List Int64} {f : Nat → Int64}, SC σ f → σ.length ≤ j → SC σ (vp_updL f j v) := by
  intro σ
  induction σ with
  | nil => intro f _ _; trivial
  | cons k σ ih =>
    intro f h hj
    have hj' : σ.length + 1 ≤ j := hj
    exact ⟨by rw [updLE, if_neg (by omega)]; exact h.1, ih h.2 (by omega)⟩
theorem SC_p {j : Nat} {v : Int64} {σ : List Int64} {f : Nat → Int64} (h : SC σ f) (hj : j = σ.length) : SC (v :: σ) (vp_updL f j v) := ⟨by rw [updLE, if_pos hj.symm], SC_u h (by omega)⟩
theorem SC_0 : ∀ {σ : List Int64} {f : Nat → Int64} (h : σ ≠ []), SC σ f → f 0 = σ.getLast h := by
  intro σ
  induction σ with
  | nil => intro f h _; exact absurd rfl h
  | cons a σ ih =>
    intro f h hs
    cases σ with
    | nil => exact hs.1
    | cons b r => rw [List.getLast_cons (List.cons_ne_nil _ _)]; exact ih _ hs.2
theorem pre_x {α : Type} : ∀ (p : List α), p ≠ [] → ∃ p' x, p = p' ++ [x] := by
  intro p
  induction p with
  | nil => intro h; exact absurd rfl h
  | cons a p ih =>
    intro _
    by_cases hp : p = []
    · exact ⟨[], a, by rw [hp]; rfl⟩
    · obtain ⟨p', x, e⟩ := ih hp
      exact ⟨a :: p', x, by rw [e]; rfl⟩
theorem oC_app : ∀ {p l : List ZQo} {f : Nat → Int32}, oC (p ++ l) f → oC l f := by
  intro p
  induction p with
  | nil => intro l f h; exact h
  | cons x p ih => intro l f h; exact ih h.2
theorem okS_app {ws : Nat → Int64} : ∀ {p l : List ZQo}, okS ws (p ++ l) → okS ws l := by
  intro p
  induction p with
  | nil => intro l h; exact h
  | cons x p ih => intro l h; exact ih h.1
theorem cvR_app {ws : Nat → Int64} {l : List ZQo} {v : Int64} (h : cvR ws l = .inl v) : ∀ p : List ZQo, cvR ws (p ++ l) = .inl v := by
  intro p
  induction p with
  | nil => exact h
  | cons x p ih => exact cvR_l ih
theorem dec_k {k v : Nat} (hk : k < 16) (hv : v < 100000) : nI (16 * v + k) &&& 15 = nI k := by
  rw [pk_andN (by omega) 4 (by decide)]
  congr 1
  show (16 * v + k) % 16 = k
  omega
theorem dec_v {k v : Nat} (hk : k < 16) (hv : v < 100000) : nI (16 * v + k) >>> ((4 : Int32) &&& 31) = nI v := by
  rw [pk_shrN (by omega) _ 4 (by decide)]
  congr 1
  show (16 * v + k) / 16 = v
  omega
theorem c_worth {o : Nat} {T : List ZQo} {ws : Nat → Int64} {s : ZS} (ho : o + 1 < 98) (e1 : s.1 o 1 = nI T.length) (hC : oC T (s.1 (o + 1))) (hl : T.length ≤ 400) (hS : okS ws T) (hw : ∀ k, k < 11 → s.2 203 k = ws k) : rt (f_Rule_worth o s) (fun w => w.1 = fR ws T ∧ frm (fun b => b = 204) s w.2) := by
  unfold f_Rule_worth
  refine lp_go (n := T.length) (fun i a s2 => ∃ pre suf σ, T = pre ++ suf ∧ suf.length = i ∧ cvR ws suf = .inr σ ∧ a = (nI σ.length, nI i) ∧ SC σ (s2.2 204) ∧ frm (fun b => b = 204) s s2) (fun x => rt x (fun (w : Int64 × ZS) => w.1 = fR ws T ∧ frm (fun b => b = 204) s w.2)) (by omega) ⟨T, [], [], by rw [List.append_nil], rfl, rfl, rfl, trivial, frm.rf⟩ ?_ ?_
  · rintro i a s2 g hi ⟨pre, suf, σ, eT, ei, ec, rfl, hs, hf⟩
    have hpre : pre ≠ [] := fun h => by rw [h] at eT; rw [eT] at hi; exact absurd ei (by show ¬ suf.length = i; exact fun x => by rw [← x] at hi; exact Nat.lt_irrefl _ hi)
    obtain ⟨pre', x, rfl⟩ := pre_x pre hpre
    have eT' : T = pre' ++ (x :: suf) := by rw [eT, List.append_assoc]; rfl
    have hS' := okS_app (eT' ▸ hS)
    have hC' := oC_app (eT' ▸ hC)
    obtain ⟨h64, hx⟩ := hS'.2 σ ec
    have ex : s2.1 (o + 1) i = nI (16 * x.2 + x.1) := by rw [hf.1 (o + 1) (by omega), ← ei]; exact hC'.1
    have ev : s2.1 o 1 = nI T.length := by rw [hf.1 o (by omega)]; exact e1
    have hkv : x.1 < 16 ∧ x.2 < 100000 := by
      rcases hx with hx | hx
      · omega
      · have := okX_l hx
        rcases hx with h | h | h | h <;> omega
    have dk := dec_k hkv.1 hkv.2
    have dv := dec_v hkv.1 hkv.2
    unfold f_Rule_worth_B5
    simp only [zgi, zjn, zj0, ev, nI_leI (show T.length < 2147483648 by omega) (show i < 2147483648 by omega), show ¬ T.length ≤ i by omega, ↓reduceIte]
    rw [zrd_n (by omega) (by omega), zrd_n (by omega) (by omega), ex]
    simp only [dk, dv, nI_1]
    have go : ∀ (σ' : List Int64) (s3 : ZS), cvR ws (x :: suf) = .inr σ' → SC σ' (s3.2 204) → frm (fun b => b = 204) s s3 → ∃ a' s', g (nI σ'.length, nI (i + 1)) s3 = g a' s' ∧ ∃ pre suf σ, T = pre ++ suf ∧ suf.length = i + 1 ∧ cvR ws suf = .inr σ ∧ a' = (nI σ.length, nI (i + 1)) ∧ SC σ (s'.2 204) ∧ frm (fun b => b = 204) s s' := fun σ' s3 b1 b2 b3 => ⟨_, _, rfl, pre', x :: suf, σ', eT', by show suf.length + 1 = i + 1; omega, b1, rfl, b2, b3⟩
    have done : ∀ v, cvR ws (x :: suf) = .inl v → fR ws T = v := fun v hv => by
      unfold fR
      rw [eT', cvR_app hv]
    have cr := cvR_r (x := x) ec
    rcases hx with ⟨h15, _⟩ | hx
    · rw [if_pos h15] at cr
      simp only [h15, show (1 : Int32) < nI 15 by decide, show nI 15 = (15 : Int32) from rfl, ↓reduceIte, not_true_eq_false]
      match σ, hs, h64, cr with
      | [], hs, h64, cr =>
        left
        rw [if_pos (show nI ([] : List Int64).length ≤ 0 by decide)]
        exact go [] s2 cr trivial hf
      | [v], hs, h64, cr =>
        right
        rw [if_neg (show ¬ nI [v].length ≤ 0 by show ¬ nI 1 ≤ 0; decide), if_pos (show nI [v].length = 1 from rfl)]
        simp only [zgl]
        exact rt_s ⟨by rw [done v cr]; exact hs.1, hf⟩
      | a :: b :: r, hs, h64, cr =>
        have h64' : r.length + 1 + 1 ≤ 64 := h64
        have e0 : (a :: b :: r).length = r.length + 2 := rfl
        rw [e0, if_neg (show ¬ nI (r.length + 2) ≤ 0 by rw [show (0 : Int32) = nI 0 from rfl, nI_leI (by omega) (by omega)]; omega), if_neg (show ¬ nI (r.length + 2) = 1 by rw [show (1 : Int32) = nI 1 from rfl, nI_inj (by omega) (by omega)]; omega), nI_sub1 _ (by omega), show r.length + 2 - 1 = r.length + 1 by omega, zrl_n (by omega) (by omega), show s2.2 204 (r.length + 1) = a from hs.1]
        simp only [lg_eq0, zgl]
        have cr' : cvR ws (x :: suf) = if a = 0 then .inr [] else .inl ((b :: r).getLast (List.cons_ne_nil _ _)) := cr
        by_cases ha : a = 0
        · left
          rw [if_pos ha]
          rw [if_pos ha] at cr'
          exact go [] s2 cr' trivial hf
        · right
          rw [if_neg ha]
          rw [if_neg ha] at cr'
          exact rt_s ⟨by rw [done _ cr']; exact SC_0 (List.cons_ne_nil _ _) hs.2, hf⟩
    · left
      rw [if_neg (okX_15 hx)] at cr
      rcases hx with ⟨h0, h1, h2⟩ | ⟨h0, h1, h2⟩ | ⟨h0, h1, _⟩ | ⟨h0, h1, _⟩
      · simp only [h0, show ¬ (1 : Int32) < nI 0 by decide, ↓reduceIte, nI_leI (show 64 < 2147483648 by omega) (show σ.length < 2147483648 by omega), show ¬ 64 ≤ σ.length by omega, show nI 0 = (0 : Int32) from rfl, not_true_eq_false]
        rw [zwl_n (by omega) (by omega)]
        have ee : evO ws x σ = cV x.2 :: σ := by unfold evO; rw [if_pos h0]
        rw [ee] at cr
        exact go (cV x.2 :: σ) _ cr (by rw [zL2, if_pos rfl]; exact SC_p hs rfl) (hf.L rfl)
      · simp only [h0, show ¬ (1 : Int32) < nI 1 by decide, ↓reduceIte, nI_leI (show 64 < 2147483648 by omega) (show σ.length < 2147483648 by omega), show ¬ 64 ≤ σ.length by omega, show ¬ nI 1 = (0 : Int32) by decide, not_false_eq_true, nI_leI (show 11 < 2147483648 by omega) (show x.2 < 2147483648 by omega), show ¬ 11 ≤ x.2 by omega]
        rw [zrl_n (by omega) (by omega), zwl_n (by omega) (by omega), hf.2 203 (by omega), hw _ h1]
        have ee : evO ws x σ = ws x.2 :: σ := by unfold evO; rw [if_neg (by omega), if_pos h0]
        rw [ee] at cr
        exact go (ws x.2 :: σ) _ cr (by rw [zL2, if_pos rfl]; exact SC_p hs rfl) (hf.L rfl)
      · simp only [h0, show (1 : Int32) < nI 12 by decide, ↓reduceIte, show ¬ nI 12 = (15 : Int32) by decide, not_false_eq_true, show nI 12 = (12 : Int32) from rfl, not_true_eq_false]
        match σ, hs, h64, cr, h1 with
        | a :: r, hs, h64, cr, _ =>
          have h64' : r.length + 1 ≤ 64 := h64
          have e0 : (a :: r).length = r.length + 1 := rfl
          rw [e0, if_neg (show ¬ nI (r.length + 1) ≤ 0 by rw [show (0 : Int32) = nI 0 from rfl, nI_leI (by omega) (by omega)]; omega), nI_sub1 _ (by omega), Nat.add_sub_cancel, zrl_n (by omega) (by omega), zwl_n (by omega) (by omega), show s2.2 204 r.length = a from hs.1]
          have ee : evO ws x (a :: r) = (1 - a) :: r := by unfold evO; rw [if_neg (by omega), if_neg (by omega), if_pos h0]
          rw [ee] at cr
          exact go ((1 - a) :: r) _ cr (by rw [zL2, if_pos rfl]; exact SC_p hs.2 rfl) (hf.L rfl)
      · have c1 : (1 : Int32) < nI x.1 := nI_lt (a := 1) (by omega) (by omega)
        have c2 : ¬ nI x.1 = (15 : Int32) := by rw [show (15 : Int32) = nI 15 from rfl, nI_inj (by omega) (by omega)]; omega
        have c3 : ¬ nI x.1 = (12 : Int32) := by rw [show (12 : Int32) = nI 12 from rfl, nI_inj (by omega) (by omega)]; omega
        simp only [c1, c2, c3, ↓reduceIte, not_false_eq_true]
        match σ, hs, h64, cr, h1 with
        | b :: a :: r, hs, h64, cr, _ =>
          have h64' : r.length + 1 + 1 ≤ 64 := h64
          have e0 : (b :: a :: r).length = r.length + 2 := rfl
          rw [e0, if_neg (show ¬ nI (r.length + 2) ≤ 1 by rw [show (1 : Int32) = nI 1 from rfl, nI_leI (by omega) (by omega)]; omega), nI_m1 (by omega), show r.length + 2 - 1 = r.length + 1 by omega, nI_sub1 _ (by omega), Nat.add_sub_cancel, zrl_n (by omega) (by omega), zrl_n (by omega) (by omega), show s2.2 204 (r.length + 1) = b from hs.1, show s2.2 204 r.length = a from hs.2.1, c_joined h0, zcl_s]
          dsimp only
          rw [zwl_n (by omega) (by omega)]
          have ee : evO ws x (b :: a :: r) = opV x.1 a b :: r := by unfold evO; rw [if_neg (by omega), if_neg (by omega), if_neg (by omega)]
          rw [ee] at cr
          exact go (opV x.1 a b :: r) _ cr (by rw [zL2, if_pos rfl]; exact SC_p hs.2.2 rfl) (hf.L rfl)
  · rintro a s2 g ⟨pre, suf, σ, eT, ei, ec, rfl, hs, hf⟩
    have ev : s2.1 o 1 = nI T.length := by rw [hf.1 o (by omega)]; exact e1
    unfold f_Rule_worth_B5
    simp only [zgi, ev]
    rw [if_pos (nI_le (by omega) (by omega))]
    have hpre : pre = [] := by
      have : T.length = pre.length + suf.length := by rw [eT, List.length_append]
      exact List.eq_nil_of_length_eq_zero (by omega)
    refine rt_s ⟨?_, hf⟩
    show (0 : Int64) = fR ws T
    unfold fR
    rw [eT, hpre, show ([] : List ZQo) ++ suf = suf from rfl, ec]
