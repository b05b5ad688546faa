/-! rule: the reference's worth. -/
def nR (s s' : ZS) : Prop := (∀ b, b ≠ 216 → s'.1 b = s.1 b) ∧ (∀ j, j ≠ 18 → s'.1 216 j = s.1 216 j) ∧ (∀ b, b ≠ 224 → s'.2 b = s.2 b)
theorem nR.rf {s : ZS} : nR s s := ⟨fun _ _ => rfl, fun _ _ => rfl, fun _ _ => rfl⟩
theorem nR.tr {s s1 s2 : ZS} (h : nR s s1) (h2 : nR s1 s2) : nR s s2 := ⟨fun b hb => (h2.1 b hb).trans (h.1 b hb), fun b hb => (h2.2.1 b hb).trans (h.2.1 b hb), fun b hb => (h2.2.2 b hb).trans (h.2.2 b hb)⟩
theorem nR.I {s s1 : ZS} {v : Int32} (h : nR s s1) : nR s (zsI s1 216 18 v) := ⟨fun b hb => by rw [zI1, if_neg hb]; exact h.1 b hb, fun j hj => by rw [zI1, if_pos rfl, updE, if_neg hj]; exact h.2.1 j hj, h.2.2⟩
theorem nR.L {s s1 : ZS} {j : Nat} {v : Int64} (h : nR s s1) : nR s (zsL s1 224 j v) := ⟨h.1, h.2.1, fun b hb => by rw [zL2, if_neg hb]; exact h.2.2 b hb⟩
def WP (σ : List Int64) (s : ZS) : Prop := s.1 216 18 = nI σ.length ∧ SC σ (s.2 224)
theorem m_push {σ : List Int64} {v : Int64} {s : ZS} (h : WP σ s) (hl : σ.length < 64) : ∃ s', f_Model_push v s = some s' ∧ WP (v :: σ) s' ∧ nR s s' := by
  unfold f_Model_push
  refine ⟨zsI (zsL s 224 σ.length v) 216 18 (nI (σ.length + 1)), ?_, ⟨?_, ?_⟩, nR.rf.L.I⟩
  · simp only [zgi, h.1]
    rw [zwl_n (by omega) (by omega), zL1, h.1, nI_1]
    rfl
  · rw [zI1, if_pos rfl, updE, if_pos rfl]; rfl
  · rw [zI2, zL2, if_pos rfl]; exact SC_p h.2 rfl
theorem m_pop {σ : List Int64} {v : Int64} {s : ZS} (h : WP (v :: σ) s) (hl : σ.length < 64) : ∃ s', f_Model_pop s = some (v, s') ∧ WP σ s' ∧ nR s s' := by
  unfold f_Model_pop
  have h1 : s.1 216 18 = nI (σ.length + 1) := h.1
  have e1 : (zsI s 216 18 (nI σ.length)).1 216 18 = nI σ.length := by rw [zI1, if_pos rfl, updE, if_pos rfl]
  refine ⟨zsI s 216 18 (nI σ.length), ?_, ⟨e1, h.2.2⟩, nR.rf.I⟩
  simp only [zgi, zwi]
  rw [h1, nI_sub1 _ (by omega), Nat.add_sub_cancel, e1, zrl_n (by omega) (by omega), show (zsI s 216 18 (nI σ.length)).2 224 σ.length = v from h.2.1]
theorem mC_app {R : Nat} : ∀ {p l : List ZQo} {f : Nat → Int32}, mC R (p ++ l) f → mC R l f := by
  intro p
  induction p with
  | nil => intro l f h; exact h
  | cons x p ih => intro l f h; exact ih h.2
theorem okE_ap2 {ws : Nat → Int64} {σ : List Int64} : ∀ {p l : List ZQo}, okE ws (p ++ l) σ → okE ws l σ := by
  intro p
  induction p with
  | nil => intro l h; exact h
  | cons x p ih => intro l h; exact ih h.1
theorem sM_b {k : Nat} (hk : k < 15) : sM k < 16 := (show ∀ k, k < 15 → sM k < 16 by decide) k hk
theorem sM_o {k : Nat} (h : (2 ≤ k ∧ k ≤ 14) ∧ ¬ k = 12) : ¬ sM k = 0 ∧ ¬ sM k = 1 ∧ ¬ sM k = 11 := (show ∀ k, k < 15 → (2 ≤ k ∧ k ≤ 14) ∧ ¬ k = 12 → ¬ sM k = 0 ∧ ¬ sM k = 1 ∧ ¬ sM k = 11 by decide) k (by omega) h
section SF
variable {R : Nat} {ws : Nat → Int64} {s : ZS}
theorem m_reck {l base : List ZQo} {v : Int64} {σ0 : List Int64} {p1 p2 : Nat} (hR : R < 6) (hC : mC R (l ++ base) (s.1 218)) (hl : (l ++ base).length ≤ 400) (hE : okE ws l []) (hw : ∀ k, k < 11 → s.2 225 k = ws k) (hv : evS ws l [] = v :: σ0) (hp : np l ≤ 60) (e1 : p1 = base.length) (e2 : p2 = base.length + l.length) : rt (f_Model_reckons (nI R) (nI p1) (nI p2) s) (fun w => w.1 = v ∧ nR s w.2) := by
  subst e1 e2
  have ll : (l ++ base).length = l.length + base.length := List.length_append
  unfold f_Model_reckons
  simp only [zwi, zj0]
  refine lp_go (n := l.length) (fun i a s2 => ∃ pre suf, l = pre ++ suf ∧ suf.length = i ∧ a = nI (base.length + i) ∧ WP (evS ws suf []) s2 ∧ nR s s2) (fun x => rt x (fun (w : Int64 × ZS) => w.1 = v ∧ nR s w.2)) (by omega) ⟨l, [], by rw [List.append_nil], rfl, rfl, ⟨by rw [zI1, if_pos rfl, updE, if_pos rfl]; rfl, trivial⟩, nR.rf.I⟩ ?_ ?_
  · rintro i a s2 g hi ⟨pre, suf, eT, ei, rfl, hs, hf⟩
    left
    have hpre : pre ≠ [] := fun h => by
      rw [h] at eT
      have : l.length = suf.length := by rw [eT]; rfl
      omega
    obtain ⟨pre', x, rfl⟩ := pre_x pre hpre
    have eT' : l = pre' ++ (x :: suf) := by rw [eT, List.append_assoc]; rfl
    have hE' : okE ws (pre' ++ (x :: suf)) [] := by rw [← eT']; exact hE
    have hE2 : okE ws (x :: suf) [] := okE_ap2 hE'
    have hx : okX x (evS ws suf []) := hE2.2
    have hC' : mC R (x :: (suf ++ base)) (s.1 218) := by
      have : pre' ++ (x :: (suf ++ base)) = l ++ base := by rw [eT', List.append_assoc]; rfl
      rw [← this] at hC
      exact mC_app hC
    have hc1 : s.1 218 (400 * R + (suf ++ base).length) = nI (sM x.1 + 16 * x.2) := hC'.1
    rw [List.length_append, ei] at hc1
    have ex : s2.1 218 (400 * R + (base.length + i)) = nI (16 * x.2 + sM x.1) := by rw [hf.1 218 (by omega), Nat.add_comm base.length i, hc1, Nat.add_comm]
    have hkv : x.1 < 15 ∧ x.2 < 100000 := by
      have := okX_l hx
      rcases hx with h | h | h | h <;> omega
    have dk := dec_k (sM_b hkv.1) hkv.2
    have dv := dec_v (sM_b hkv.1) hkv.2
    unfold f_Model_reckons_B8
    simp only [zj0, nI_leI (show base.length + l.length < 2147483648 by omega) (show base.length + i < 2147483648 by omega), show ¬ base.length + l.length ≤ base.length + i by omega, ↓reduceIte]
    rw [show (400 : Int32) = nI 400 from rfl, nI_mulR, nI_add, zrd_n (by omega) (by omega), zrd_n (by omega) (by omega), ex]
    simp only [dk, dv, nI_1]
    have go : ∀ (s3 : ZS), WP (evO ws x (evS ws suf [])) s3 → nR s s3 → ∃ a' s', g (nI (base.length + i + 1)) s3 = g a' s' ∧ ∃ pre suf, l = pre ++ suf ∧ suf.length = i + 1 ∧ a' = nI (base.length + (i + 1)) ∧ WP (evS ws suf []) s' ∧ nR s s' := fun s3 b1 b2 => ⟨_, _, rfl, pre', x :: suf, eT', by show suf.length + 1 = i + 1; omega, rfl, b1, b2⟩
    have le := evS_l (ws := ws) (l := suf) (σ := [])
    have npl : np l = np pre' + (np suf + (if x.1 ≤ 1 then 1 else 0)) := by rw [eT', np_app]; rfl
    have e0 : ([] : List Int64).length = 0 := rfl
    generalize hσ : evS ws suf [] = σ at hs hx le
    rw [hσ] at go
    rcases hx with ⟨h0, h1, h2⟩ | ⟨h0, h1, h2⟩ | ⟨h0, h1, _⟩ | ⟨h0, h1, _⟩
    · simp only [h0, show nI (sM 0) = (0 : Int32) from rfl, not_true_eq_false, ↓reduceIte]
      obtain ⟨s3, r3, w3, k3⟩ := m_push (v := cV x.2) hs h2
      rw [show (nI x.2).toInt64 = cV x.2 from rfl, r3, zcv_s]
      have ee : evO ws x σ = cV x.2 :: σ := by unfold evO; rw [if_pos h0]
      rw [ee] at go
      exact go s3 w3 (hf.tr k3)
    · simp only [h0, show ¬ nI (sM 1) = (0 : Int32) by decide, not_false_eq_true, ↓reduceIte, show nI (sM 1) = (1 : Int32) from rfl, not_true_eq_false]
      rw [zrl_n (by omega) (by omega), hf.2.2 225 (by omega), hw _ h1]
      obtain ⟨s3, r3, w3, k3⟩ := m_push (v := ws x.2) hs h2
      rw [r3, zcv_s]
      have ee : evO ws x σ = ws x.2 :: σ := by unfold evO; rw [if_neg (by omega), if_pos h0]
      rw [ee] at go
      exact go s3 w3 (hf.tr k3)
    · simp only [h0, show ¬ nI (sM 12) = (0 : Int32) by decide, show ¬ nI (sM 12) = (1 : Int32) by decide, not_false_eq_true, ↓reduceIte, show nI (sM 12) = (11 : Int32) from rfl, not_true_eq_false]
      match σ, hs, h1, go, le with
      | a :: r, hs, _, go, le =>
        have le' : r.length + 1 ≤ 0 + np suf := le
        obtain ⟨s3, r3, w3, k3⟩ := m_pop hs (by omega)
        rw [r3, zcl_s]
        dsimp only
        obtain ⟨s4, r4, w4, k4⟩ := m_push (v := 1 - a) w3 (by omega)
        rw [r4, zcv_s]
        have ee : evO ws x (a :: r) = (1 - a) :: r := by unfold evO; rw [if_neg (by omega), if_neg (by omega), if_pos h0]
        rw [ee] at go
        exact go s4 w4 ((hf.tr k3).tr k4)
    · obtain ⟨o1, o2, o3⟩ := sM_o h0
      have hb := sM_b hkv.1
      have c1 : ¬ nI (sM x.1) = (0 : Int32) := by rw [show (0 : Int32) = nI 0 from rfl, nI_inj (by omega) (by omega)]; exact o1
      have c2 : ¬ nI (sM x.1) = (1 : Int32) := by rw [show (1 : Int32) = nI 1 from rfl, nI_inj (by omega) (by omega)]; exact o2
      have c3 : ¬ nI (sM x.1) = (11 : Int32) := by rw [show (11 : Int32) = nI 11 from rfl, nI_inj (by omega) (by omega)]; exact o3
      simp only [c1, c2, c3, ↓reduceIte, not_false_eq_true]
      match σ, hs, h1, go, le with
      | b :: a :: r, hs, _, go, le =>
        have le' : r.length + 1 + 1 ≤ 0 + np suf := le
        obtain ⟨s3, r3, w3, k3⟩ := m_pop hs (show (a :: r).length < 64 by show r.length + 1 < 64; omega)
        rw [r3, zcl_s]
        dsimp only
        obtain ⟨s4, r4, w4, k4⟩ := m_pop w3 (by omega)
        rw [r4, zcl_s]
        dsimp only
        rw [m_one h0, zcl_s]
        dsimp only
        obtain ⟨s5, r5, w5, k5⟩ := m_push (v := opV x.1 a b) w4 (by omega)
        rw [r5, zcv_s]
        have ee : evO ws x (b :: a :: r) = opV x.1 a b :: r := by unfold evO; rw [if_neg (by omega), if_neg (by omega), if_neg (by omega)]
        rw [ee] at go
        exact go s5 w5 (((hf.tr k3).tr k4).tr k5)
  · rintro a s2 g ⟨pre, suf, eT, ei, rfl, hs, hf⟩
    have hpre : pre = [] := by
      have : l.length = pre.length + suf.length := by rw [eT, List.length_append]
      exact List.eq_nil_of_length_eq_zero (by omega)
    have es : suf = l := by rw [eT, hpre]; rfl
    unfold f_Model_reckons_B8
    rw [if_pos (nI_le (by omega) (by omega))]
    rw [es, hv] at hs
    have le := evS_l (ws := ws) (l := l) (σ := [])
    rw [hv] at le
    have le' : σ0.length + 1 ≤ 0 + np l := le
    obtain ⟨s3, r3, w3, k3⟩ := m_pop hs (by omega)
    dsimp only
    rw [r3, zcl_s]
    exact rt_s ⟨rfl, hf.tr k3⟩
/-! clauses -/
def CL (L : List ZQo) (l l2 : List ZQo) : Prop := L = l2 ++ l ∧ sumT l ∧ (l2 = [] ∨ facT l2) ∧ np L ≤ 60 ∧ ∀ x, x ∈ L → x.2 < 100000
theorem TS_1 {b : Bool} {σ : List Int64} (h : TS [b] σ) : ∃ v, σ = [v] ∧ (b = true → v = 0 ∨ v = 1) := by
  match σ, h with
  | [v], h => exact ⟨v, rfl, h.1⟩
  | v :: w :: r, h => exact absurd h.2 (fun x => x)
theorem CL_e {L l l2 : List ZQo} (h : CL L l l2) : okE ws L [] ∧ okE ws l [] ∧ okE ws l2 [] ∧ np l ≤ 60 ∧ np l2 ≤ 60 ∧ ∃ v, evS ws l [] = [v] ∧ ((l2 = [] ∧ evS ws L [] = [v]) ∨ ∃ u, facT l2 ∧ evS ws l2 [] = [u] ∧ (u = 0 ∨ u = 1) ∧ evS ws L [] = [u, v]) := by
  obtain ⟨rfl, h2, h3, h4, h5⟩ := h
  rw [np_app] at h4
  obtain ⟨a1, a2, a3⟩ := ty_s (ws := ws) (h2 []) (σ := []) trivial (by show 0 + np l < 64; omega) (fun x hx => h5 x (List.mem_append.mpr (Or.inr hx)))
  obtain ⟨v, hv, _⟩ := TS_1 a2
  rcases h3 with rfl | h3
  · exact ⟨a1, a1, trivial, by omega, by omega, v, hv, Or.inl ⟨rfl, hv⟩⟩
  · obtain ⟨b1, b2, b3⟩ := ty_s (ws := ws) (h3 []) (σ := []) trivial (by show 0 + np l2 < 64; omega) (fun x hx => h5 x (List.mem_append.mpr (Or.inl hx)))
    obtain ⟨u, hu, hu2⟩ := TS_1 b2
    have b4 := (ty_s (ws := ws) (h3 [false]) (σ := [v]) ⟨(fun e => by cases e), trivial⟩ (by show 0 + 1 + np l2 < 64; omega) (fun x hx => h5 x (List.mem_append.mpr (Or.inl hx)))).1
    refine ⟨okE_app a1 (by rw [hv]; exact b4), a1, b1, by omega, by omega, v, hv, Or.inr ⟨u, h3, hu, hu2 rfl, ?_⟩⟩
    rw [evS_app, hv]
    have := b3 [v]
    rw [hu] at this
    exact this
theorem cl_s : ∀ {cl : List (List ZQo)}, (∀ L, L ∈ cl → ∃ l l2, CL L l l2) → okS ws (tot cl) ∧ (cvR ws (tot cl) = .inr [] ∨ ∃ v, cvR ws (tot cl) = .inl v) := by
  intro cl
  induction cl with
  | nil => intro _; exact ⟨trivial, Or.inl rfl⟩
  | cons L cl ih =>
    intro h
    obtain ⟨i1, i2⟩ := ih (fun L hL => h L (List.mem_cons_of_mem _ hL))
    obtain ⟨l, l2, hL⟩ := h L (List.mem_cons_self ..)
    obtain ⟨c1, c2, c3, c4, c5, v, c6, c7⟩ := CL_e (ws := ws) hL
    rcases i2 with i2 | ⟨w, i2⟩
    · obtain ⟨d1, d2⟩ := cv_r i2 i1 c1 hL.2.2.2.1
      have d3 : cvR ws (tot (L :: cl)) = enE (evS ws L []) := by rw [show tot (L :: cl) = (15, 0) :: (L ++ tot cl) from rfl, cvR_r d1, if_pos rfl]
      refine ⟨⟨d2, fun σ hσ => ?_⟩, ?_⟩
      · have hσ' : cvR ws (L ++ tot cl) = .inr σ := hσ
        rw [d1] at hσ'
        injection hσ' with hσ'
        have le := evS_l (ws := ws) (l := L) (σ := [])
        have e0 : ([] : List Int64).length = 0 := rfl
        have := hL.2.2.2.1
        rw [hσ'] at le
        exact ⟨by omega, Or.inl ⟨rfl, by show 0 < 100000; omega⟩⟩
      · rw [d3]
        rcases c7 with ⟨_, e⟩ | ⟨u, _, _, _, e⟩
        · rw [e]; exact Or.inr ⟨v, rfl⟩
        · rw [e]
          show (if u = 0 then _ else _) = _ ∨ ∃ v, (if u = 0 then _ else _) = _
          by_cases hu : u = 0
          · rw [if_pos hu]; exact Or.inl rfl
          · rw [if_neg hu]; exact Or.inr ⟨_, rfl⟩
    · obtain ⟨d1, d2⟩ := cv_l i2 i1 L
      refine ⟨⟨d2, fun σ hσ => ?_⟩, Or.inr ⟨w, cvR_l d1⟩⟩
      have hσ' : cvR ws (L ++ tot cl) = .inr σ := hσ
      rw [d1] at hσ'; cases hσ'
theorem tot_app : ∀ (p c : List (List ZQo)), ∃ q, tot (p ++ c) = q ++ tot c := by
  intro p c
  induction p with
  | nil => exact ⟨[], rfl⟩
  | cons L p ih =>
    obtain ⟨q, e⟩ := ih
    exact ⟨(15, 0) :: (L ++ q), by show (15, 0) :: (L ++ tot (p ++ c)) = (15, 0) :: ((L ++ q) ++ tot c); rw [e, List.append_assoc]⟩
theorem totM_app : ∀ (p c : List (List ZQo)), totM (p ++ c) = totM p ++ totM c := by
  intro p c
  induction p with
  | nil => rfl
  | cons L p ih => show L ++ totM (p ++ c) = (L ++ totM p) ++ totM c; rw [ih, List.append_assoc]
theorem CT_app {f : Nat → Int32} : ∀ {p c : List (List ZQo)}, CT R (p ++ c) f → CT R c f := by
  intro p
  induction p with
  | nil => intro c h; exact h
  | cons L p ih => intro c h; exact ih h.2
theorem m_wrth {cl : List (List ZQo)} (hR : R < 6) (h221 : s.1 221 R = nI cl.length) (hcl : cl.length ≤ 12) (hC : mC R (totM cl) (s.1 218)) (hT : CT R cl (s.1 220)) (hl : (totM cl).length ≤ 400) (hnp : np (totM cl) ≤ 60) (hb : ∀ x, x ∈ totM cl → x.2 < 100000) (hw : ∀ k, k < 11 → s.2 225 k = ws k) : rt (f_Model_summedBy (nI R) s) (fun w => w.1 = fR ws (tot cl) ∧ nR s w.2) := by
  unfold f_Model_summedBy
  refine lp_go (n := cl.length) (fun i a s2 => ∃ pre suf, cl = pre ++ suf ∧ suf.length = i ∧ a = nI i ∧ cvR ws (tot suf) = .inr [] ∧ okS ws (tot suf) ∧ nR s s2) (fun x => rt x (fun (w : Int64 × ZS) => w.1 = fR ws (tot cl) ∧ nR s w.2)) (by omega) ⟨cl, [], by rw [List.append_nil], rfl, rfl, rfl, trivial, nR.rf⟩ ?_ ?_
  · rintro i a s2 g hi ⟨pre, suf, eT, ei, rfl, ec, hS, hf⟩
    have hpre : pre ≠ [] := fun h => by
      rw [h] at eT
      have : cl.length = suf.length := by rw [eT]; rfl
      omega
    obtain ⟨pre', L, rfl⟩ := pre_x pre hpre
    have eT' : cl = pre' ++ (L :: suf) := by rw [eT, List.append_assoc]; rfl
    have hCT := CT_app (eT' ▸ hT)
    obtain ⟨⟨l, l2, t1, t2, t3, t4, t5, t6⟩, _⟩ := hCT
    have hM : totM cl = totM pre' ++ (L ++ totM suf) := by rw [eT', totM_app]; rfl
    have hmC : mC R (L ++ totM suf) (s2.1 218) := by
      rw [hf.1 218 (by omega)]
      rw [hM] at hC
      exact mC_app hC
    have hlen : (L ++ totM suf).length ≤ 400 := by rw [hM, List.length_append] at hl; omega
    have hCL : CL L l l2 := ⟨t1, t2, t3.imp (fun x => x.1) (fun x => x.1), by rw [hM, np_app, np_app] at hnp; omega, fun x hx => hb x (by rw [hM]; exact List.mem_append.mpr (Or.inr (List.mem_append.mpr (Or.inl hx))))⟩
    obtain ⟨c1, c2, c3, c4, c5, v, c6, c7⟩ := CL_e (ws := ws) hCL
    obtain ⟨d1, d2⟩ := cv_r ec hS c1 hCL.2.2.2.1
    have d3 : cvR ws (tot (L :: suf)) = enE (evS ws L []) := by rw [show tot (L :: suf) = (15, 0) :: (L ++ tot suf) from rfl, cvR_r d1, if_pos rfl]
    have done : ∀ u, cvR ws (tot (L :: suf)) = .inl u → fR ws (tot cl) = u := fun u hu => by
      obtain ⟨q, eq⟩ := tot_app pre' (L :: suf)
      unfold fR
      rw [eT', eq, cvR_app hu]
    have ix : (48 : Int32) * nI R + (4 : Int32) * nI i = nI (48 * R + 4 * i) := by rw [show (48 : Int32) = nI 48 from rfl, show (4 : Int32) = nI 4 from rfl, nI_mulR, nI_mulR, nI_add]
    have ix1 : nI (48 * R + 4 * i) + 1 = nI (48 * R + 4 * i + 1) := nI_1 _
    have ix2 : nI (48 * R + 4 * i) + 2 = nI (48 * R + 4 * i + 2) := by rw [show (2 : Int32) = nI 2 from rfl, nI_add]
    have ix3 : nI (48 * R + 4 * i) + 3 = nI (48 * R + 4 * i + 3) := by rw [show (3 : Int32) = nI 3 from rfl, nI_add]
    rw [ei] at t3 t4 t5 t6
    have lL : L.length = l2.length + l.length := by rw [t1, List.length_append]
    have lM : (L ++ totM suf).length = L.length + (totM suf).length := List.length_append
    unfold f_Model_summedBy_B2
    simp only [ix, ix1, ix2, ix3, zj0]
    rw [zrd_n (by omega) (by omega), hf.1 221 (by omega), h221, if_neg (by rw [nI_leI (by omega) (by omega)]; omega), zrd_n (by omega) (by omega), hf.1 220 (by omega)]
    -- the sum
    have sm : ∀ s3 : ZS, nR s s3 → rt (zrd 288 (nI (48 * R + 4 * i)) (s3.1 220) (fun (v9 : Int32) => zrd 288 (nI (48 * R + 4 * i + 1)) (s3.1 220) (fun (v10 : Int32) => zcl (f_Model_reckons (nI R) v9 v10 s3) (fun (v12 : Int64) (s11 : ZS) => some (v12, s11))))) (fun w => w.1 = v ∧ nR s w.2) := by
      intro s3 hf3
      rw [zrd_n (by omega) (by omega), zrd_n (by omega) (by omega), hf3.1 220 (by omega), t4, t5]
      refine rt_cl (m_reck (l := l) (base := totM suf) (ws := ws) hR ?_ (by rw [List.length_append]; omega) c2 (fun k hk => by rw [hf3.2.2 225 (by omega)]; exact hw k hk) c6 c4 rfl rfl) ?_
      · rw [hf3.1 218 (by omega), ← hf.1 218 (by omega)]
        rw [t1, List.append_assoc] at hmC
        exact mC_app hmC
      · rintro w s4 ⟨rfl, k4⟩
        exact rt_s ⟨rfl, hf3.tr k4⟩
    rcases c7 with ⟨rfl, c7⟩ | ⟨u, uf, c8, c9, c7⟩
    · right
      have t3' : s.1 220 (48 * R + 4 * i + 2) = -1 := by
        rcases t3 with h | h
        · exact h.2
        · exact absurd (h.1 []) (by intro x; cases x)
      rw [t3', if_pos (show (-1 : Int32) < 0 by decide)]
      have sm2 := sm s2 hf
      rw [hf.1 220 (by omega)] at sm2
      obtain ⟨w, r, hw1, hw2⟩ := sm2
      rw [r]
      exact rt_s ⟨by rw [hw1, done v (by rw [d3, c7]; rfl)], hw2⟩
    · have t3' : s.1 220 (48 * R + 4 * i + 2) = nI ((totM suf).length + l.length) := by
        rcases t3 with h | h
        · rw [h.1] at uf; exact absurd (uf []) (by intro x; cases x)
        · exact h.2
      rw [t3', if_neg (by rw [show (0 : Int32) = nI 0 from rfl, nI_ltI (by omega) (by omega)]; omega), zrd_n (by omega) (by omega), zrd_n (by omega) (by omega), t3', t6]
      obtain ⟨⟨w, s3⟩, r3, hw1, k3⟩ := m_reck (l := l2) (base := l ++ totM suf) (ws := ws) (s := s2) (p1 := (totM suf).length + l.length) (p2 := (totM suf).length + L.length) hR (by rw [t1, List.append_assoc] at hmC; exact hmC) (by rw [← List.append_assoc, ← t1]; exact hlen) c3 (fun k hk => by rw [hf.2.2 225 (by omega)]; exact hw k hk) c8 c5 (by rw [List.length_append]; omega) (by rw [List.length_append]; omega)
      have hw1' : w = u := hw1
      subst hw1'
      dsimp only at k3
      rw [r3, zcl_s]
      simp only [lg_eq0]
      have d4 : cvR ws (tot (L :: suf)) = if w = 0 then .inr [] else .inl v := by rw [d3, c7]; rfl
      by_cases hw1 : w = 1
      · right
        rw [if_neg (fun x => x hw1)]
        obtain ⟨w9, r9, h1, h2⟩ := sm s3 (hf.tr k3)
        rw [r9]
        rw [if_neg (by rw [hw1]; decide)] at d4
        exact rt_s ⟨by rw [h1, done v d4], h2⟩
      · left
        have hw0 : w = 0 := c9.resolve_right hw1
        rw [if_pos hw1]
        rw [if_pos hw0] at d4
        refine ⟨_, _, rfl, pre', L :: suf, eT', by show suf.length + 1 = i + 1; omega, nI_1 _, d4, ⟨d2, fun σ hσ => ?_⟩, hf.tr k3⟩
        have hσ' : cvR ws (L ++ tot suf) = .inr σ := hσ
        rw [d1] at hσ'
        injection hσ' with hσ'
        have le := evS_l (ws := ws) (l := L) (σ := [])
        have e0 : ([] : List Int64).length = 0 := rfl
        have := hCL.2.2.2.1
        rw [hσ'] at le
        exact ⟨by omega, Or.inl ⟨rfl, by show 0 < 100000; omega⟩⟩
  · rintro a s2 g ⟨pre, suf, eT, ei, rfl, ec, hS, hf⟩
    have hpre : pre = [] := by
      have : cl.length = pre.length + suf.length := by rw [eT, List.length_append]
      exact List.eq_nil_of_length_eq_zero (by omega)
    have es : suf = cl := by rw [eT, hpre]; rfl
    unfold f_Model_summedBy_B2
    rw [zrd_n (by omega) (by omega), hf.1 221 (by omega), h221, if_pos (nI_le (by omega) (by omega))]
    refine rt_s ⟨?_, hf⟩
    show (0 : Int64) = fR ws (tot cl)
    unfold fR
    rw [← es, ec]
end SF
