/-! Rows for what makes cells. -/
section ZR
variable {ms : List ZM} {nm : Nat → Option String} {df : Nat → List Value} {x : Nat → ZE} {d : Nat} {m : ZM} {pc : Nat} {ls : ZL} {st : List Value} {h : ZH} {Q : Option Value → ZH → Prop} {len aux : Nat} {cv : Value}
/-- one cell is made -/
def zz_mk (h : ZH) (n : Nat) (e : ZE) (h' : ZH) : Prop := h' = zz_add h n e
theorem zz_mk.self {h h' : ZH} {n k : Nat} {e : ZE} (u : zz_mk h n e h') (hn : h.1 = k) (hk : k < 900000) : zz_c h' k e := by
  subst hn
  rw [u]
  exact ⟨va_up_self _ _ _, by omega⟩
theorem zz_mk.off {h h' : ZH} {n k b : Nat} {e e0 : ZE} (u : zz_mk h n e h') (hc : zz_c h b e0) (hn : h.1 = k) (hb : b ≠ k) : zz_c h' b e0 := by
  subst hn
  rw [u]
  exact ⟨(va_up_ne _ _ hb).trans hc.1, hc.2⟩
theorem zz_mk.cnt {h h' : ZH} {n k : Nat} {e : ZE} (u : zz_mk h n e h') (hn : h.1 = k) : h'.1 = k + 1 := by rw [u, ← hn]; rfl
theorem zz_mk.fo {h h' : ZH} {n k : Nat} {e : ZE} (u : zz_mk h n e h') (hn : h.1 = k) : zz_fo (fun q => q = k) h h' := by
  subst hn
  rw [u]
  exact fun q hq => va_up_ne _ _ hq
theorem zz_mk.sl {h h' : ZH} {n : Nat} {e : ZE} (u : zz_mk h n e h') : h'.2.1 = h.2.1 + n := by rw [u]; rfl
theorem zz_up.sl {h h' : ZH} {a : Nat} {e : ZE} (u : zz_up h a e h') : h'.2.1 = h.2.1 + 0 := by rw [u]; rfl
theorem zz_up.cnt {h h' : ZH} {a k : Nat} {e : ZE} (u : zz_up h a e h') (hn : h.1 = k) : h'.1 = k := by rw [u, ← hn]; rfl
theorem zz_ne0 {n j : Nat} (h : 0 < j) : n ≠ n + j := by omega
theorem zz_ne1 {n i j : Nat} (h : i ≠ j) : n + i ≠ n + j := by omega
theorem zz_neA {a n j : Nat} (h : a < n) : a ≠ n + j := by omega
/-- all but the object that is made, and what comes behind n, stays -/
abbrev zz_fA (a n : Nat) (h h2 : ZH) : Prop := zz_fo (fun k => k = a ∨ n ≤ k) h h2
theorem zz_fA.rf {a n : Nat} {h : ZH} : zz_fA a n h h := fun _ _ => rfl
theorem zz_fo.mk {a n k sl : Nat} {e : ZE} {h h1 h2 : ZH} (f : zz_fA a n h h1) (u : zz_mk h1 sl e h2) (hn : h1.1 = k) (hk : n ≤ k) : zz_fA a n h h2 :=
  (f.tr (u.fo hn)).sub (fun q hq => by rcases hq with hq | hq; exact hq; exact Or.inr (by rw [hq]; exact hk))
theorem zz_fo.up {a n b : Nat} {e : ZE} {h h1 h2 : ZH} (f : zz_fA a n h h1) (u : zz_up h1 b e h2) (hb : b = a ∨ n ≤ b) : zz_fA a n h h2 :=
  (f.tr u.fo).sub (fun q hq => by rcases hq with hq | hq; exact hq; rw [hq]; exact hb)
theorem zz_fo.call {a n a' n' : Nat} {h h1 h2 : ZH} (f : zz_fA a n h h1) (g : zz_fA a' n' h1 h2) (ha : n ≤ a') (hn : n ≤ n') : zz_fA a n h h2 :=
  (f.tr g).sub (fun q hq => by
    rcases hq with hq | hq | hq
    · exact hq
    · exact Or.inr (by rw [hq]; exact ha)
    · exact Or.inr (Nat.le_trans hn hq))
theorem zz_sl_mk {h1 h2 : ZH} {b s k s2 : Nat} {e : ZE} (t : h1.2.1 = b + s) (u : zz_mk h1 k e h2) (hs : s + k = s2) : h2.2.1 = b + s2 := by rw [u.sl, t, ← hs, Nat.add_assoc]
theorem zz_sl_up {h1 h2 : ZH} {b s a : Nat} {e : ZE} (t : h1.2.1 = b + s) (u : zz_up h1 a e h2) : h2.2.1 = b + s := by rw [u.sl, t, Nat.add_zero]
theorem zz_sl_call {h1 h2 : ZH} {b s k s2 : Nat} (t : h1.2.1 = b + s) (u : h2.2.1 = h1.2.1 + k) (hs : s + k = s2) : h2.2.1 = b + s2 := by rw [u, t, ← hs, Nat.add_assoc]
/-- a cell below both stays -/
theorem zz_fo.lo {a n b : Nat} {e : ZE} {h h2 : ZH} (f : zz_fA a n h h2) (hc : zz_c h b e) (h1 : b ≠ a) (h3 : b < n) : zz_c h2 b e := f.off hc (fun q => q.elim h1 (fun z => absurd h3 (Nat.not_lt.mpr z)))
theorem w_new {i n sl pc2 : Nat} {en : ZE} (hi : zz_at m pc = some (pc, .new i, len, aux, cv)) (hn : h.1 = n) (hl : n < 900000) (he : .inr (aux, df aux) = en) (hs : (df aux).length = sl) (hp : pc + len = pc2) (k : ∀ h2, zz_mk h sl en h2 → zz_wp ms nm df x d m pc2 ls (.ref n :: st) h2 Q) : zz_wp ms nm df x d m pc ls st h Q := by
  subst hp; subst hn; subst he; subst hs
  exact zz_wp_next (q := (pc + len, ls, .ref h.1 :: st, zz_add h (df aux).length (.inr (aux, df aux)))) hi (by simp only [zz_exec, zz_kind, if_pos hl]; rfl) (k _ rfl)
theorem w_newarray {ty : ArrayType} {n N pc2 : Nat} {i : Int32} {en : ZE} (hi : zz_at m pc = some (pc, .newarray ty, len, aux, cv)) (hn : h.1 = n) (hl : n < 900000) (hz : zz_D nm df (.newarray ty) aux (.int i :: st) = some (st, N, en)) (hp : pc + len = pc2) (k : ∀ h2, zz_mk h N en h2 → zz_wp ms nm df x d m pc2 ls (.ref n :: st) h2 Q) : zz_wp ms nm df x d m pc ls (.int i :: st) h Q := by
  subst hp; subst hn
  exact zz_wp_next (q := (pc + len, ls, .ref h.1 :: st, zz_add h N en)) hi (by simp only [zz_exec, zz_kind, if_pos hl, hz]; rfl) (k _ rfl)
theorem w_anewarray {j n N pc2 : Nat} {i : Int32} {en : ZE} (hi : zz_at m pc = some (pc, .anewarray j, len, aux, cv)) (hn : h.1 = n) (hl : n < 900000) (hz : zz_D nm df (.anewarray j) aux (.int i :: st) = some (st, N, en)) (hp : pc + len = pc2) (k : ∀ h2, zz_mk h N en h2 → zz_wp ms nm df x d m pc2 ls (.ref n :: st) h2 Q) : zz_wp ms nm df x d m pc ls (.int i :: st) h Q := by
  subst hp; subst hn
  exact zz_wp_next (q := (pc + len, ls, .ref h.1 :: st, zz_add h N en)) hi (by simp only [zz_exec, zz_kind, if_pos hl, hz]; rfl) (k _ rfl)
theorem w_objinit {i a pc2 : Nat} (hi : zz_at m pc = some (pc, .invokespecial i, len, 9999, cv)) (h8 : zz_cats st ≤ 8) (ha : a < 1000000) (hp : pc + len = pc2) (k : zz_wp ms nm df x d m pc2 ls st h Q) : zz_wp ms nm df x d m pc ls (.ref a :: st) h Q := by
  subst hp
  exact zz_wp_next (q := (pc + len, ls, st, h)) hi (by simp only [zz_exec, zz_kind, if_true]; rw [if_pos ⟨h8, ha⟩]) k
theorem w_calli {n k b : Nat} {c : ZM} {ci : Nat} {fs as rest : List Value} {Q1 : Option Value → ZH → Prop} {pc2 : Nat} (hi : zz_at m pc = some (pc, .invokespecial n, len, aux, cv)) (hm : ms[aux]? = some c) (h7 : zz_kind (.invokespecial n) aux = 5) (hs : st.drop c.2.2.2.2.2.1 = .ref b :: rest) (ha : .ref b :: (st.take c.2.2.2.2.2.1).reverse = as) (hl : zz_look x h b = .inr (ci, fs)) (hc : ci = c.2.1) (h8 : zz_cats rest ≤ 8) (h9 : 1 + zz_cats (st.take c.2.2.2.2.2.1) ≤ c.2.2.2.1) (hct : zz_ct ms nm df x k c as h Q1) (hk : k < d) (hp : pc + len = pc2)
    (kk : ∀ r h', Q1 r h' → zz_wp ms nm df x d m pc2 ls (r.toList ++ rest) h' Q) : zz_wp ms nm df x d m pc ls st h Q := by
  subst hp
  exact zz_wp_call (c := c) (as := as) (rest := rest) hi (by simp only [zz_exec, h7, hm, zz_F, hs, hl]; rw [if_pos ⟨hc, h8, h9⟩, ← ha]; rfl) hct hk kk
theorem w_aastoreK {a n e j ci : Nat} {C : String} {f : Nat → Option Nat} {fs : List Value} {i : Int32} {pc2 : Nat} {en : ZE} (hi : zz_at m pc = some (pc, .aastore, len, aux, cv)) (hl : zz_c h a (.inl (.object C, n, .inr (.inr (.inr (.inr f)))))) (hv : zz_c h e (.inr (ci, fs))) (hC : nm ci = some C) (hj : i = nI j) (hk : j < n) (hn : n < 2 ^ 31) (he : .inl (.object C, n, .inr (.inr (.inr (.inr (va_up f j (some e)))))) = en) (hp : pc + len = pc2) (k : ∀ h2, zz_up h a en h2 → zz_wp ms nm df x d m pc2 ls st h2 Q) : zz_wp ms nm df x d m pc ls (.ref e :: .int i :: .ref a :: st) h Q := by
  obtain ⟨e0, e1, e2⟩ := zz_ix hj hk hn
  subst hp; subst he
  exact zz_wp_next (q := (pc + len, ls, st, zz_put h a (.inl (.object C, n, .inr (.inr (.inr (.inr (va_up f j (some e))))))))) hi (by simp only [zz_exec, zz_kind, zz_C, hl.1, hv.1]; rw [if_pos ⟨hC, e0, e1, hv.2⟩, e2]; rfl) (k _ rfl)
end ZR
