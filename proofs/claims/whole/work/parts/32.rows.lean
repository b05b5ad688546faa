/-! Rows of the pure layer: one an instruction. -/
def zz_c (h : ZH) (a : Nat) (e : ZE) : Prop := h.2.2 a = e ∧ a < 1000000
theorem zz_c.look {x : Nat → ZE} {h : ZH} {a : Nat} {e : ZE} (hc : zz_c h a e) : zz_look x h a = e := by unfold zz_look; rw [if_pos hc.2]; exact hc.1
/-- one cell is written -/
def zz_up (h : ZH) (a : Nat) (e : ZE) (h' : ZH) : Prop := h' = zz_put h a e
theorem zz_up.self {h h' : ZH} {a : Nat} {e e0 : ZE} (u : zz_up h a e h') (hc : zz_c h a e0) : zz_c h' a e := by rw [u]; exact ⟨va_up_self _ _ _, hc.2⟩
theorem zz_up.off {h h' : ZH} {a b : Nat} {e e0 : ZE} (u : zz_up h a e h') (hc : zz_c h b e0) (hn : b ≠ a) : zz_c h' b e0 := by rw [u]; exact ⟨(va_up_ne _ _ hn).trans hc.1, hc.2⟩
/-- only these cells have changed; none is new -/
def zz_fr (P : Nat → Prop) (h h2 : ZH) : Prop := h2.1 = h.1 ∧ h2.2.1 = h.2.1 ∧ ∀ k, ¬ P k → h2.2.2 k = h.2.2 k
theorem zz_fr.rf {h : ZH} : zz_fr (fun _ => False) h h := ⟨rfl, rfl, fun _ _ => rfl⟩
theorem zz_up.fr {h h2 : ZH} {a : Nat} {e : ZE} (u : zz_up h a e h2) : zz_fr (fun k => k = a) h h2 := by rw [u]; exact ⟨rfl, rfl, fun k hk => va_up_ne _ _ hk⟩
theorem zz_fr.tr {P1 P2 : Nat → Prop} {h h1 h2 : ZH} (f : zz_fr P1 h h1) (g : zz_fr P2 h1 h2) : zz_fr (fun k => P1 k ∨ P2 k) h h2 := ⟨g.1.trans f.1, g.2.1.trans f.2.1, fun k hk => (g.2.2 k (fun q => hk (Or.inr q))).trans (f.2.2 k (fun q => hk (Or.inl q)))⟩
theorem zz_fr.sub {P P' : Nat → Prop} {h h2 : ZH} (f : zz_fr P h h2) (hs : ∀ k, P k → P' k) : zz_fr P' h h2 := ⟨f.1, f.2.1, fun k hk => f.2.2 k (fun q => hk (hs k q))⟩
theorem zz_fr.off {P : Nat → Prop} {h h2 : ZH} {b : Nat} {e : ZE} (f : zz_fr P h h2) (hc : zz_c h b e) (hn : ¬ P b) : zz_c h2 b e := ⟨(f.2.2 b hn).trans hc.1, hc.2⟩
/-- cells that haven't changed, where some may be new -/
def zz_fo (P : Nat → Prop) (h h2 : ZH) : Prop := ∀ k, ¬ P k → h2.2.2 k = h.2.2 k
theorem zz_up.fo {h h2 : ZH} {a : Nat} {e : ZE} (u : zz_up h a e h2) : zz_fo (fun k => k = a) h h2 := u.fr.2.2
theorem zz_fo.tr {P1 P2 : Nat → Prop} {h h1 h2 : ZH} (f : zz_fo P1 h h1) (g : zz_fo P2 h1 h2) : zz_fo (fun k => P1 k ∨ P2 k) h h2 := fun k hk => (g k (fun q => hk (Or.inr q))).trans (f k (fun q => hk (Or.inl q)))
theorem zz_fo.sub {P P' : Nat → Prop} {h h2 : ZH} (f : zz_fo P h h2) (hs : ∀ k, P k → P' k) : zz_fo P' h h2 := fun k hk => f k (fun q => hk (hs k q))
theorem zz_fo.off {P : Nat → Prop} {h h2 : ZH} {b : Nat} {e : ZE} (f : zz_fo P h h2) (hc : zz_c h b e) (hn : ¬ P b) : zz_c h2 b e := ⟨(f b hn).trans hc.1, hc.2⟩
section ZQ
variable {ms : List ZM} {nm : Nat → Option String} {df : Nat → List Value} {x : Nat → ZE} {d : Nat} {m : ZM} {pc : Nat} {ls : ZL} {st : List Value} {h : ZH} {Q : Option Value → ZH → Prop} {len aux : Nat} {cv : Value}
theorem w_iconst {n : Int} {pc2 : Nat} (hi : zz_at m pc = some (pc, .iconst n, len, aux, cv)) (hp : pc + len = pc2) (k : zz_wp ms nm df x d m (pc2) ls (cv :: st) h Q) : zz_wp ms nm df x d m pc ls st h Q := by subst hp; exact zz_wp_next hi rfl k
theorem w_bipush {n : Int} {pc2 : Nat} (hi : zz_at m pc = some (pc, .bipush n, len, aux, cv)) (hp : pc + len = pc2) (k : zz_wp ms nm df x d m (pc2) ls (cv :: st) h Q) : zz_wp ms nm df x d m pc ls st h Q := by subst hp; exact zz_wp_next hi rfl k
theorem w_sipush {n : Int} {pc2 : Nat} (hi : zz_at m pc = some (pc, .sipush n, len, aux, cv)) (hp : pc + len = pc2) (k : zz_wp ms nm df x d m (pc2) ls (cv :: st) h Q) : zz_wp ms nm df x d m pc ls st h Q := by subst hp; exact zz_wp_next hi rfl k
theorem w_ldc {n : Nat} {pc2 : Nat} (hi : zz_at m pc = some (pc, .ldc n, len, aux, cv)) (hp : pc + len = pc2) (k : zz_wp ms nm df x d m (pc2) ls (cv :: st) h Q) : zz_wp ms nm df x d m pc ls st h Q := by subst hp; exact zz_wp_next hi rfl k
theorem w_ldc_w {n : Nat} {pc2 : Nat} (hi : zz_at m pc = some (pc, .ldc_w n, len, aux, cv)) (hp : pc + len = pc2) (k : zz_wp ms nm df x d m (pc2) ls (cv :: st) h Q) : zz_wp ms nm df x d m pc ls st h Q := by subst hp; exact zz_wp_next hi rfl k
theorem w_ldc2_w {n : Nat} {pc2 : Nat} (hi : zz_at m pc = some (pc, .ldc2_w n, len, aux, cv)) (hp : pc + len = pc2) (k : zz_wp ms nm df x d m (pc2) ls (cv :: st) h Q) : zz_wp ms nm df x d m pc ls st h Q := by subst hp; exact zz_wp_next hi rfl k
theorem w_getstatic {n : Nat} {pc2 : Nat} (hi : zz_at m pc = some (pc, .getstatic n, len, aux, cv)) (hp : pc + len = pc2) (k : zz_wp ms nm df x d m (pc2) ls (cv :: st) h Q) : zz_wp ms nm df x d m pc ls st h Q := by subst hp; exact zz_wp_next hi rfl k
theorem w_lconst {n : Fin 2} {pc2 : Nat} (hi : zz_at m pc = some (pc, .lconst n, len, aux, cv)) (hp : pc + len = pc2) (k : zz_wp ms nm df x d m (pc2) ls (cv :: st) h Q) : zz_wp ms nm df x d m pc ls st h Q := by subst hp; exact zz_wp_next hi rfl k
theorem w_aconst_null  {pc2 : Nat} (hi : zz_at m pc = some (pc, .aconst_null, len, aux, cv)) (hp : pc + len = pc2) (k : zz_wp ms nm df x d m (pc2) ls (cv :: st) h Q) : zz_wp ms nm df x d m pc ls st h Q := by subst hp; exact zz_wp_next hi rfl k
theorem w_iload_n {n : Fin 4} {v : Int32} {pc2 : Nat} (hi : zz_at m pc = some (pc, .iload_n n, len, aux, cv)) (hg : zz_get ls aux = some (.int v)) (hp : pc + len = pc2) (k : zz_wp ms nm df x d m (pc2) ls (.int v :: st) h Q) : zz_wp ms nm df x d m pc ls st h Q := by subst hp; exact zz_wp_next (q := (pc + len, ls, .int v :: st, h)) hi (by simp [zz_exec, zz_kind, zz_A, hg]) k
theorem w_iload {n : Nat} {v : Int32} {pc2 : Nat} (hi : zz_at m pc = some (pc, .iload n, len, aux, cv)) (hg : zz_get ls aux = some (.int v)) (hp : pc + len = pc2) (k : zz_wp ms nm df x d m (pc2) ls (.int v :: st) h Q) : zz_wp ms nm df x d m pc ls st h Q := by subst hp; exact zz_wp_next (q := (pc + len, ls, .int v :: st, h)) hi (by simp [zz_exec, zz_kind, zz_A, hg]) k
theorem w_lload_n {n : Fin 4} {v : Int64} {pc2 : Nat} (hi : zz_at m pc = some (pc, .lload_n n, len, aux, cv)) (hg : zz_get ls aux = some (.long v)) (hp : pc + len = pc2) (k : zz_wp ms nm df x d m (pc2) ls (.long v :: st) h Q) : zz_wp ms nm df x d m pc ls st h Q := by subst hp; exact zz_wp_next (q := (pc + len, ls, .long v :: st, h)) hi (by simp [zz_exec, zz_kind, zz_A, hg]) k
theorem w_lload {n : Nat} {v : Int64} {pc2 : Nat} (hi : zz_at m pc = some (pc, .lload n, len, aux, cv)) (hg : zz_get ls aux = some (.long v)) (hp : pc + len = pc2) (k : zz_wp ms nm df x d m (pc2) ls (.long v :: st) h Q) : zz_wp ms nm df x d m pc ls st h Q := by subst hp; exact zz_wp_next (q := (pc + len, ls, .long v :: st, h)) hi (by simp [zz_exec, zz_kind, zz_A, hg]) k
theorem w_aload_n {n : Fin 4} {v : Nat} {pc2 : Nat} (hi : zz_at m pc = some (pc, .aload_n n, len, aux, cv)) (hg : zz_get ls aux = some (.ref v)) (hp : pc + len = pc2) (k : zz_wp ms nm df x d m (pc2) ls (.ref v :: st) h Q) : zz_wp ms nm df x d m pc ls st h Q := by subst hp; exact zz_wp_next (q := (pc + len, ls, .ref v :: st, h)) hi (by simp [zz_exec, zz_kind, zz_A, hg]) k
theorem w_aload_nN {n : Fin 4} {pc2 : Nat} (hi : zz_at m pc = some (pc, .aload_n n, len, aux, cv)) (hg : zz_get ls aux = some .null) (hp : pc + len = pc2) (k : zz_wp ms nm df x d m (pc2) ls (.null :: st) h Q) : zz_wp ms nm df x d m pc ls st h Q := by subst hp; exact zz_wp_next (q := (pc + len, ls, .null :: st, h)) hi (by simp [zz_exec, zz_kind, zz_A, hg]) k
theorem w_aload {n : Nat} {v : Nat} {pc2 : Nat} (hi : zz_at m pc = some (pc, .aload n, len, aux, cv)) (hg : zz_get ls aux = some (.ref v)) (hp : pc + len = pc2) (k : zz_wp ms nm df x d m (pc2) ls (.ref v :: st) h Q) : zz_wp ms nm df x d m pc ls st h Q := by subst hp; exact zz_wp_next (q := (pc + len, ls, .ref v :: st, h)) hi (by simp [zz_exec, zz_kind, zz_A, hg]) k
theorem w_aloadN {n : Nat} {pc2 : Nat} (hi : zz_at m pc = some (pc, .aload n, len, aux, cv)) (hg : zz_get ls aux = some .null) (hp : pc + len = pc2) (k : zz_wp ms nm df x d m (pc2) ls (.null :: st) h Q) : zz_wp ms nm df x d m pc ls st h Q := by subst hp; exact zz_wp_next (q := (pc + len, ls, .null :: st, h)) hi (by simp [zz_exec, zz_kind, zz_A, hg]) k
theorem w_istore_n {n : Fin 4} {v : Int32} {ls2 : ZL} {pc2 : Nat} (hi : zz_at m pc = some (pc, .istore_n n, len, aux, cv)) (hs : zz_set1 ls aux (.int v) = ls2) (hp : pc + len = pc2) (k : zz_wp ms nm df x d m (pc2) ls2 st h Q) : zz_wp ms nm df x d m pc ls (.int v :: st) h Q := by subst hp; exact zz_wp_next (q := (pc + len, ls2, st, h)) hi (by rw [← hs]; rfl) k
theorem w_istore {n : Nat} {v : Int32} {ls2 : ZL} {pc2 : Nat} (hi : zz_at m pc = some (pc, .istore n, len, aux, cv)) (hs : zz_set1 ls aux (.int v) = ls2) (hp : pc + len = pc2) (k : zz_wp ms nm df x d m (pc2) ls2 st h Q) : zz_wp ms nm df x d m pc ls (.int v :: st) h Q := by subst hp; exact zz_wp_next (q := (pc + len, ls2, st, h)) hi (by rw [← hs]; rfl) k
theorem w_lstore_n {n : Fin 4} {v : Int64} {ls2 : ZL} {pc2 : Nat} (hi : zz_at m pc = some (pc, .lstore_n n, len, aux, cv)) (hs : zz_set2 ls aux (.long v) = ls2) (hp : pc + len = pc2) (k : zz_wp ms nm df x d m (pc2) ls2 st h Q) : zz_wp ms nm df x d m pc ls (.long v :: st) h Q := by subst hp; exact zz_wp_next (q := (pc + len, ls2, st, h)) hi (by rw [← hs]; rfl) k
theorem w_lstore {n : Nat} {v : Int64} {ls2 : ZL} {pc2 : Nat} (hi : zz_at m pc = some (pc, .lstore n, len, aux, cv)) (hs : zz_set2 ls aux (.long v) = ls2) (hp : pc + len = pc2) (k : zz_wp ms nm df x d m (pc2) ls2 st h Q) : zz_wp ms nm df x d m pc ls (.long v :: st) h Q := by subst hp; exact zz_wp_next (q := (pc + len, ls2, st, h)) hi (by rw [← hs]; rfl) k
theorem w_astore_n {n : Fin 4} {v : Nat} {ls2 : ZL} {pc2 : Nat} (hi : zz_at m pc = some (pc, .astore_n n, len, aux, cv)) (hs : zz_set1 ls aux (.ref v) = ls2) (hp : pc + len = pc2) (k : zz_wp ms nm df x d m (pc2) ls2 st h Q) : zz_wp ms nm df x d m pc ls (.ref v :: st) h Q := by subst hp; exact zz_wp_next (q := (pc + len, ls2, st, h)) hi (by rw [← hs]; rfl) k
theorem w_astore {n : Nat} {v : Nat} {ls2 : ZL} {pc2 : Nat} (hi : zz_at m pc = some (pc, .astore n, len, aux, cv)) (hs : zz_set1 ls aux (.ref v) = ls2) (hp : pc + len = pc2) (k : zz_wp ms nm df x d m (pc2) ls2 st h Q) : zz_wp ms nm df x d m pc ls (.ref v :: st) h Q := by subst hp; exact zz_wp_next (q := (pc + len, ls2, st, h)) hi (by rw [← hs]; rfl) k
theorem w_iinc {n : Nat} {n2 : Int} {v e : Int32} {ls2 : ZL} {pc2 : Nat} (hi : zz_at m pc = some (pc, .iinc n n2, len, aux, .int e)) (hg : zz_get ls aux = some (.int v)) (hs : zz_set1 ls aux (.int (v + e)) = ls2) (hp : pc + len = pc2) (k : zz_wp ms nm df x d m (pc2) ls2 st h Q) : zz_wp ms nm df x d m pc ls st h Q := by subst hp; exact zz_wp_next (q := (pc + len, ls2, st, h)) hi (by simp [zz_exec, zz_kind, zz_A, hg, hs]) k
theorem w_goto {o : Int} (hi : zz_at m pc = some (pc, .goto o, len, aux, cv)) (k : zz_wp ms nm df x d m (aux) ls st h Q) : zz_wp ms nm df x d m pc ls st h Q := zz_wp_next hi rfl k
theorem w_if_eq {o : Int} {v : Int32} {pc2 : Nat} (hi : zz_at m pc = some (pc, .ifCond .eq o, len, aux, cv)) (hp : pc + len = pc2) (kt : v = 0 → zz_wp ms nm df x d m aux ls st h Q) (kf : ¬ v = 0 → zz_wp ms nm df x d m pc2 ls st h Q) : zz_wp ms nm df x d m pc ls (.int v :: st) h Q := by
  subst hp
  refine zz_wp_next hi rfl ?_
  show zz_wp ms nm df x d m (if zz_holds .eq v 0 = true then aux else pc + len) ls st h Q
  by_cases hc : v = 0
  · rw [if_pos (by simp only [zz_holds, decide_eq_true_eq]; exact hc)]; exact kt hc
  · rw [if_neg (by simp only [zz_holds, decide_eq_true_eq]; exact hc)]; exact kf (hc)
theorem w_icmp_eq {o : Int} {v w : Int32} {pc2 : Nat} (hi : zz_at m pc = some (pc, .if_icmp .eq o, len, aux, cv)) (hp : pc + len = pc2) (kt : v = w → zz_wp ms nm df x d m aux ls st h Q) (kf : ¬ v = w → zz_wp ms nm df x d m pc2 ls st h Q) : zz_wp ms nm df x d m pc ls (.int w :: .int v :: st) h Q := by
  subst hp
  refine zz_wp_next hi rfl ?_
  show zz_wp ms nm df x d m (if zz_holds .eq v w = true then aux else pc + len) ls st h Q
  by_cases hc : v = w
  · rw [if_pos (by simp only [zz_holds, decide_eq_true_eq]; exact hc)]; exact kt hc
  · rw [if_neg (by simp only [zz_holds, decide_eq_true_eq]; exact hc)]; exact kf (hc)
theorem w_if_ne {o : Int} {v : Int32} {pc2 : Nat} (hi : zz_at m pc = some (pc, .ifCond .ne o, len, aux, cv)) (hp : pc + len = pc2) (kt : ¬ v = 0 → zz_wp ms nm df x d m aux ls st h Q) (kf : v = 0 → zz_wp ms nm df x d m pc2 ls st h Q) : zz_wp ms nm df x d m pc ls (.int v :: st) h Q := by
  subst hp
  refine zz_wp_next hi rfl ?_
  show zz_wp ms nm df x d m (if zz_holds .ne v 0 = true then aux else pc + len) ls st h Q
  by_cases hc : ¬ v = 0
  · rw [if_pos (by simp only [zz_holds, decide_eq_true_eq]; exact hc)]; exact kt hc
  · rw [if_neg (by simp only [zz_holds, decide_eq_true_eq]; exact hc)]; exact kf (Classical.not_not.mp hc)
theorem w_icmp_ne {o : Int} {v w : Int32} {pc2 : Nat} (hi : zz_at m pc = some (pc, .if_icmp .ne o, len, aux, cv)) (hp : pc + len = pc2) (kt : ¬ v = w → zz_wp ms nm df x d m aux ls st h Q) (kf : v = w → zz_wp ms nm df x d m pc2 ls st h Q) : zz_wp ms nm df x d m pc ls (.int w :: .int v :: st) h Q := by
  subst hp
  refine zz_wp_next hi rfl ?_
  show zz_wp ms nm df x d m (if zz_holds .ne v w = true then aux else pc + len) ls st h Q
  by_cases hc : ¬ v = w
  · rw [if_pos (by simp only [zz_holds, decide_eq_true_eq]; exact hc)]; exact kt hc
  · rw [if_neg (by simp only [zz_holds, decide_eq_true_eq]; exact hc)]; exact kf (Classical.not_not.mp hc)
theorem w_if_lt {o : Int} {v : Int32} {pc2 : Nat} (hi : zz_at m pc = some (pc, .ifCond .lt o, len, aux, cv)) (hp : pc + len = pc2) (kt : v < 0 → zz_wp ms nm df x d m aux ls st h Q) (kf : ¬ v < 0 → zz_wp ms nm df x d m pc2 ls st h Q) : zz_wp ms nm df x d m pc ls (.int v :: st) h Q := by
  subst hp
  refine zz_wp_next hi rfl ?_
  show zz_wp ms nm df x d m (if zz_holds .lt v 0 = true then aux else pc + len) ls st h Q
  by_cases hc : v < 0
  · rw [if_pos (by simp only [zz_holds, decide_eq_true_eq]; exact hc)]; exact kt hc
  · rw [if_neg (by simp only [zz_holds, decide_eq_true_eq]; exact hc)]; exact kf (hc)
theorem w_icmp_lt {o : Int} {v w : Int32} {pc2 : Nat} (hi : zz_at m pc = some (pc, .if_icmp .lt o, len, aux, cv)) (hp : pc + len = pc2) (kt : v < w → zz_wp ms nm df x d m aux ls st h Q) (kf : ¬ v < w → zz_wp ms nm df x d m pc2 ls st h Q) : zz_wp ms nm df x d m pc ls (.int w :: .int v :: st) h Q := by
  subst hp
  refine zz_wp_next hi rfl ?_
  show zz_wp ms nm df x d m (if zz_holds .lt v w = true then aux else pc + len) ls st h Q
  by_cases hc : v < w
  · rw [if_pos (by simp only [zz_holds, decide_eq_true_eq]; exact hc)]; exact kt hc
  · rw [if_neg (by simp only [zz_holds, decide_eq_true_eq]; exact hc)]; exact kf (hc)
theorem w_if_ge {o : Int} {v : Int32} {pc2 : Nat} (hi : zz_at m pc = some (pc, .ifCond .ge o, len, aux, cv)) (hp : pc + len = pc2) (kt : 0 ≤ v → zz_wp ms nm df x d m aux ls st h Q) (kf : ¬ 0 ≤ v → zz_wp ms nm df x d m pc2 ls st h Q) : zz_wp ms nm df x d m pc ls (.int v :: st) h Q := by
  subst hp
  refine zz_wp_next hi rfl ?_
  show zz_wp ms nm df x d m (if zz_holds .ge v 0 = true then aux else pc + len) ls st h Q
  by_cases hc : 0 ≤ v
  · rw [if_pos (by simp only [zz_holds, decide_eq_true_eq]; exact hc)]; exact kt hc
  · rw [if_neg (by simp only [zz_holds, decide_eq_true_eq]; exact hc)]; exact kf (hc)
theorem w_icmp_ge {o : Int} {v w : Int32} {pc2 : Nat} (hi : zz_at m pc = some (pc, .if_icmp .ge o, len, aux, cv)) (hp : pc + len = pc2) (kt : w ≤ v → zz_wp ms nm df x d m aux ls st h Q) (kf : ¬ w ≤ v → zz_wp ms nm df x d m pc2 ls st h Q) : zz_wp ms nm df x d m pc ls (.int w :: .int v :: st) h Q := by
  subst hp
  refine zz_wp_next hi rfl ?_
  show zz_wp ms nm df x d m (if zz_holds .ge v w = true then aux else pc + len) ls st h Q
  by_cases hc : w ≤ v
  · rw [if_pos (by simp only [zz_holds, decide_eq_true_eq]; exact hc)]; exact kt hc
  · rw [if_neg (by simp only [zz_holds, decide_eq_true_eq]; exact hc)]; exact kf (hc)
theorem w_if_gt {o : Int} {v : Int32} {pc2 : Nat} (hi : zz_at m pc = some (pc, .ifCond .gt o, len, aux, cv)) (hp : pc + len = pc2) (kt : 0 < v → zz_wp ms nm df x d m aux ls st h Q) (kf : ¬ 0 < v → zz_wp ms nm df x d m pc2 ls st h Q) : zz_wp ms nm df x d m pc ls (.int v :: st) h Q := by
  subst hp
  refine zz_wp_next hi rfl ?_
  show zz_wp ms nm df x d m (if zz_holds .gt v 0 = true then aux else pc + len) ls st h Q
  by_cases hc : 0 < v
  · rw [if_pos (by simp only [zz_holds, decide_eq_true_eq]; exact hc)]; exact kt hc
  · rw [if_neg (by simp only [zz_holds, decide_eq_true_eq]; exact hc)]; exact kf (hc)
theorem w_icmp_gt {o : Int} {v w : Int32} {pc2 : Nat} (hi : zz_at m pc = some (pc, .if_icmp .gt o, len, aux, cv)) (hp : pc + len = pc2) (kt : w < v → zz_wp ms nm df x d m aux ls st h Q) (kf : ¬ w < v → zz_wp ms nm df x d m pc2 ls st h Q) : zz_wp ms nm df x d m pc ls (.int w :: .int v :: st) h Q := by
  subst hp
  refine zz_wp_next hi rfl ?_
  show zz_wp ms nm df x d m (if zz_holds .gt v w = true then aux else pc + len) ls st h Q
  by_cases hc : w < v
  · rw [if_pos (by simp only [zz_holds, decide_eq_true_eq]; exact hc)]; exact kt hc
  · rw [if_neg (by simp only [zz_holds, decide_eq_true_eq]; exact hc)]; exact kf (hc)
theorem w_if_le {o : Int} {v : Int32} {pc2 : Nat} (hi : zz_at m pc = some (pc, .ifCond .le o, len, aux, cv)) (hp : pc + len = pc2) (kt : v ≤ 0 → zz_wp ms nm df x d m aux ls st h Q) (kf : ¬ v ≤ 0 → zz_wp ms nm df x d m pc2 ls st h Q) : zz_wp ms nm df x d m pc ls (.int v :: st) h Q := by
  subst hp
  refine zz_wp_next hi rfl ?_
  show zz_wp ms nm df x d m (if zz_holds .le v 0 = true then aux else pc + len) ls st h Q
  by_cases hc : v ≤ 0
  · rw [if_pos (by simp only [zz_holds, decide_eq_true_eq]; exact hc)]; exact kt hc
  · rw [if_neg (by simp only [zz_holds, decide_eq_true_eq]; exact hc)]; exact kf (hc)
theorem w_icmp_le {o : Int} {v w : Int32} {pc2 : Nat} (hi : zz_at m pc = some (pc, .if_icmp .le o, len, aux, cv)) (hp : pc + len = pc2) (kt : v ≤ w → zz_wp ms nm df x d m aux ls st h Q) (kf : ¬ v ≤ w → zz_wp ms nm df x d m pc2 ls st h Q) : zz_wp ms nm df x d m pc ls (.int w :: .int v :: st) h Q := by
  subst hp
  refine zz_wp_next hi rfl ?_
  show zz_wp ms nm df x d m (if zz_holds .le v w = true then aux else pc + len) ls st h Q
  by_cases hc : v ≤ w
  · rw [if_pos (by simp only [zz_holds, decide_eq_true_eq]; exact hc)]; exact kt hc
  · rw [if_neg (by simp only [zz_holds, decide_eq_true_eq]; exact hc)]; exact kf (hc)
theorem w_ifnull {o : Int} {a : Nat} {pc2 : Nat} (hi : zz_at m pc = some (pc, .ifnull o, len, aux, cv)) (ha : a < 1000000) (hp : pc + len = pc2) (k : zz_wp ms nm df x d m (pc2) ls st h Q) : zz_wp ms nm df x d m pc ls (.ref a :: st) h Q := by subst hp; exact zz_wp_next (q := (pc + len, ls, st, h)) hi (by simp [zz_exec, zz_kind, zz_A, ha]) k
theorem w_ifnullN {o : Int} (hi : zz_at m pc = some (pc, .ifnull o, len, aux, cv)) (k : zz_wp ms nm df x d m (aux) ls st h Q) : zz_wp ms nm df x d m pc ls (.null :: st) h Q := zz_wp_next hi rfl k
theorem w_switch {d0 lo hi0 : Int} {offs : Array Int} {v : Int32} {t : Nat} (hi : zz_at m pc = some (pc, .tableswitch d0 lo hi0 offs, len, aux, cv)) (ht : zz_sw pc d0 lo hi0 offs v = some t) (k : zz_wp ms nm df x d m (t) ls st h Q) : zz_wp ms nm df x d m pc ls (.int v :: st) h Q := zz_wp_next (q := (t, ls, st, h)) hi (by simp [zz_exec, zz_kind, zz_A, ht]) k
theorem w_iadd {v w : Int32} {pc2 : Nat} (hi : zz_at m pc = some (pc, .iadd, len, aux, cv)) (hp : pc + len = pc2) (k : zz_wp ms nm df x d m (pc2) ls (.int (v + w) :: st) h Q) : zz_wp ms nm df x d m pc ls (.int w :: .int v :: st) h Q := by subst hp; exact zz_wp_next hi rfl k
theorem w_isub {v w : Int32} {pc2 : Nat} (hi : zz_at m pc = some (pc, .isub, len, aux, cv)) (hp : pc + len = pc2) (k : zz_wp ms nm df x d m (pc2) ls (.int (v - w) :: st) h Q) : zz_wp ms nm df x d m pc ls (.int w :: .int v :: st) h Q := by subst hp; exact zz_wp_next hi rfl k
theorem w_imul {v w : Int32} {pc2 : Nat} (hi : zz_at m pc = some (pc, .imul, len, aux, cv)) (hp : pc + len = pc2) (k : zz_wp ms nm df x d m (pc2) ls (.int (v * w) :: st) h Q) : zz_wp ms nm df x d m pc ls (.int w :: .int v :: st) h Q := by subst hp; exact zz_wp_next hi rfl k
theorem w_iand {v w : Int32} {pc2 : Nat} (hi : zz_at m pc = some (pc, .iand, len, aux, cv)) (hp : pc + len = pc2) (k : zz_wp ms nm df x d m (pc2) ls (.int (v &&& w) :: st) h Q) : zz_wp ms nm df x d m pc ls (.int w :: .int v :: st) h Q := by subst hp; exact zz_wp_next hi rfl k
theorem w_ior {v w : Int32} {pc2 : Nat} (hi : zz_at m pc = some (pc, .ior, len, aux, cv)) (hp : pc + len = pc2) (k : zz_wp ms nm df x d m (pc2) ls (.int (v ||| w) :: st) h Q) : zz_wp ms nm df x d m pc ls (.int w :: .int v :: st) h Q := by subst hp; exact zz_wp_next hi rfl k
theorem w_ixor {v w : Int32} {pc2 : Nat} (hi : zz_at m pc = some (pc, .ixor, len, aux, cv)) (hp : pc + len = pc2) (k : zz_wp ms nm df x d m (pc2) ls (.int (v ^^^ w) :: st) h Q) : zz_wp ms nm df x d m pc ls (.int w :: .int v :: st) h Q := by subst hp; exact zz_wp_next hi rfl k
theorem w_ishl {v w : Int32} {pc2 : Nat} (hi : zz_at m pc = some (pc, .ishl, len, aux, cv)) (hp : pc + len = pc2) (k : zz_wp ms nm df x d m (pc2) ls (.int (v <<< (w &&& 31)) :: st) h Q) : zz_wp ms nm df x d m pc ls (.int w :: .int v :: st) h Q := by subst hp; exact zz_wp_next hi rfl k
theorem w_ishr {v w : Int32} {pc2 : Nat} (hi : zz_at m pc = some (pc, .ishr, len, aux, cv)) (hp : pc + len = pc2) (k : zz_wp ms nm df x d m (pc2) ls (.int (v >>> (w &&& 31)) :: st) h Q) : zz_wp ms nm df x d m pc ls (.int w :: .int v :: st) h Q := by subst hp; exact zz_wp_next hi rfl k
theorem w_iushr {v w : Int32} {pc2 : Nat} (hi : zz_at m pc = some (pc, .iushr, len, aux, cv)) (hp : pc + len = pc2) (k : zz_wp ms nm df x d m (pc2) ls (.int ((v.toUInt32 >>> (w.toUInt32 &&& Int32.toUInt32 31)).toInt32) :: st) h Q) : zz_wp ms nm df x d m pc ls (.int w :: .int v :: st) h Q := by subst hp; exact zz_wp_next hi rfl k
theorem w_ladd {v w : Int64} {pc2 : Nat} (hi : zz_at m pc = some (pc, .ladd, len, aux, cv)) (hp : pc + len = pc2) (k : zz_wp ms nm df x d m (pc2) ls (.long (v + w) :: st) h Q) : zz_wp ms nm df x d m pc ls (.long w :: .long v :: st) h Q := by subst hp; exact zz_wp_next hi rfl k
theorem w_lsub {v w : Int64} {pc2 : Nat} (hi : zz_at m pc = some (pc, .lsub, len, aux, cv)) (hp : pc + len = pc2) (k : zz_wp ms nm df x d m (pc2) ls (.long (v - w) :: st) h Q) : zz_wp ms nm df x d m pc ls (.long w :: .long v :: st) h Q := by subst hp; exact zz_wp_next hi rfl k
theorem w_lmul {v w : Int64} {pc2 : Nat} (hi : zz_at m pc = some (pc, .lmul, len, aux, cv)) (hp : pc + len = pc2) (k : zz_wp ms nm df x d m (pc2) ls (.long (v * w) :: st) h Q) : zz_wp ms nm df x d m pc ls (.long w :: .long v :: st) h Q := by subst hp; exact zz_wp_next hi rfl k
theorem w_land {v w : Int64} {pc2 : Nat} (hi : zz_at m pc = some (pc, .land, len, aux, cv)) (hp : pc + len = pc2) (k : zz_wp ms nm df x d m (pc2) ls (.long (v &&& w) :: st) h Q) : zz_wp ms nm df x d m pc ls (.long w :: .long v :: st) h Q := by subst hp; exact zz_wp_next hi rfl k
theorem w_lor {v w : Int64} {pc2 : Nat} (hi : zz_at m pc = some (pc, .lor, len, aux, cv)) (hp : pc + len = pc2) (k : zz_wp ms nm df x d m (pc2) ls (.long (v ||| w) :: st) h Q) : zz_wp ms nm df x d m pc ls (.long w :: .long v :: st) h Q := by subst hp; exact zz_wp_next hi rfl k
theorem w_idiv {v w : Int32} {pc2 : Nat} (hi : zz_at m pc = some (pc, .idiv, len, aux, cv)) (hne : ¬ w = 0) (hp : pc + len = pc2) (k : zz_wp ms nm df x d m (pc2) ls (.int (v / w) :: st) h Q) : zz_wp ms nm df x d m pc ls (.int w :: .int v :: st) h Q := by subst hp; exact zz_wp_next (q := (pc + len, ls, .int (v / w) :: st, h)) hi (by simp [zz_exec, zz_kind, zz_A, zz_S, zz_i2d, zz_l2d, hne]) k
theorem w_irem {v w : Int32} {pc2 : Nat} (hi : zz_at m pc = some (pc, .irem, len, aux, cv)) (hne : ¬ w = 0) (hp : pc + len = pc2) (k : zz_wp ms nm df x d m (pc2) ls (.int (v - v / w * w) :: st) h Q) : zz_wp ms nm df x d m pc ls (.int w :: .int v :: st) h Q := by subst hp; exact zz_wp_next (q := (pc + len, ls, .int (v - v / w * w) :: st, h)) hi (by simp [zz_exec, zz_kind, zz_A, zz_S, zz_i2d, zz_l2d, hne]) k
theorem w_ldiv {v w : Int64} {pc2 : Nat} (hi : zz_at m pc = some (pc, .ldiv, len, aux, cv)) (hne : ¬ w = 0) (hp : pc + len = pc2) (k : zz_wp ms nm df x d m (pc2) ls (.long (v / w) :: st) h Q) : zz_wp ms nm df x d m pc ls (.long w :: .long v :: st) h Q := by subst hp; exact zz_wp_next (q := (pc + len, ls, .long (v / w) :: st, h)) hi (by simp [zz_exec, zz_kind, zz_A, zz_S, zz_i2d, zz_l2d, hne]) k
theorem w_lrem {v w : Int64} {pc2 : Nat} (hi : zz_at m pc = some (pc, .lrem, len, aux, cv)) (hne : ¬ w = 0) (hp : pc + len = pc2) (k : zz_wp ms nm df x d m (pc2) ls (.long (v - v / w * w) :: st) h Q) : zz_wp ms nm df x d m pc ls (.long w :: .long v :: st) h Q := by subst hp; exact zz_wp_next (q := (pc + len, ls, .long (v - v / w * w) :: st, h)) hi (by simp [zz_exec, zz_kind, zz_A, zz_S, zz_i2d, zz_l2d, hne]) k
theorem w_lshl {v : Int64} {w : Int32} {pc2 : Nat} (hi : zz_at m pc = some (pc, .lshl, len, aux, cv)) (hp : pc + len = pc2) (k : zz_wp ms nm df x d m (pc2) ls (.long (v <<< (w.toInt64 &&& 63)) :: st) h Q) : zz_wp ms nm df x d m pc ls (.int w :: .long v :: st) h Q := by subst hp; exact zz_wp_next hi rfl k
theorem w_lcmp {v w : Int64} {pc2 : Nat} (hi : zz_at m pc = some (pc, .lcmp, len, aux, cv)) (hp : pc + len = pc2) (k : zz_wp ms nm df x d m (pc2) ls (.int (lg_cmp v w) :: st) h Q) : zz_wp ms nm df x d m pc ls (.long w :: .long v :: st) h Q := by subst hp; exact zz_wp_next hi rfl k
theorem w_l2i {v : Int64} {pc2 : Nat} (hi : zz_at m pc = some (pc, .l2i, len, aux, cv)) (hp : pc + len = pc2) (k : zz_wp ms nm df x d m (pc2) ls (.int v.toInt32 :: st) h Q) : zz_wp ms nm df x d m pc ls (.long v :: st) h Q := by subst hp; exact zz_wp_next hi rfl k
theorem w_i2l {v : Int32} {pc2 : Nat} (hi : zz_at m pc = some (pc, .i2l, len, aux, cv)) (hp : pc + len = pc2) (k : zz_wp ms nm df x d m (pc2) ls (.long v.toInt64 :: st) h Q) : zz_wp ms nm df x d m pc ls (.int v :: st) h Q := by subst hp; exact zz_wp_next hi rfl k
theorem w_i2b {v : Int32} {pc2 : Nat} (hi : zz_at m pc = some (pc, .i2b, len, aux, cv)) (hp : pc + len = pc2) (k : zz_wp ms nm df x d m (pc2) ls (.int v.toInt8.toInt32 :: st) h Q) : zz_wp ms nm df x d m pc ls (.int v :: st) h Q := by subst hp; exact zz_wp_next hi rfl k
theorem w_i2c {v : Int32} {pc2 : Nat} (hi : zz_at m pc = some (pc, .i2c, len, aux, cv)) (hp : pc + len = pc2) (k : zz_wp ms nm df x d m (pc2) ls (.int (v.toUInt32 % 65536).toInt32 :: st) h Q) : zz_wp ms nm df x d m pc ls (.int v :: st) h Q := by subst hp; exact zz_wp_next hi rfl k
theorem w_dup {v : Value} {pc2 : Nat} (hi : zz_at m pc = some (pc, .dup, len, aux, cv)) (hv : v.category = 1) (hp : pc + len = pc2) (k : zz_wp ms nm df x d m (pc2) ls (v :: v :: st) h Q) : zz_wp ms nm df x d m pc ls (v :: st) h Q := by subst hp; exact zz_wp_next (q := (pc + len, ls, v :: v :: st, h)) hi (by simp [zz_exec, zz_kind, zz_A, zz_S, hv]) k
theorem w_dup2 {v w : Value} {pc2 : Nat} (hi : zz_at m pc = some (pc, .dup2, len, aux, cv)) (hv : v.category = 1) (hw : w.category = 1) (hp : pc + len = pc2) (k : zz_wp ms nm df x d m (pc2) ls (v :: w :: v :: w :: st) h Q) : zz_wp ms nm df x d m pc ls (v :: w :: st) h Q := by subst hp; exact zz_wp_next (q := (pc + len, ls, v :: w :: v :: w :: st, h)) hi (by simp [zz_exec, zz_kind, zz_A, zz_S, hv, hw]) k
theorem w_pop {v : Value} {pc2 : Nat} (hi : zz_at m pc = some (pc, .pop, len, aux, cv)) (hv : v.category = 1) (hp : pc + len = pc2) (k : zz_wp ms nm df x d m (pc2) ls st h Q) : zz_wp ms nm df x d m pc ls (v :: st) h Q := by subst hp; exact zz_wp_next (q := (pc + len, ls, st, h)) hi (by simp [zz_exec, zz_kind, zz_A, zz_S, hv]) k
theorem w_getfield {n a ci : Nat} {fs : List Value} {v : Value} {pc2 : Nat} (hi : zz_at m pc = some (pc, .getfield n, len, aux, cv)) (hl : zz_c h a (.inr (ci, fs))) (hc : ci = aux / 100) (hv : fs[aux % 100]? = some v) (hp : pc + len = pc2) (k : zz_wp ms nm df x d m (pc2) ls (v :: st) h Q) : zz_wp ms nm df x d m pc ls (.ref a :: st) h Q := by subst hp; exact zz_wp_next (q := (pc + len, ls, v :: st, h)) hi (by simp [zz_exec, zz_kind, zz_B, hl.look, hc, hv]) k
theorem w_iaload {a n : Nat} {f : Nat → Int32} {i : Int32} {pc2 : Nat} (hi : zz_at m pc = some (pc, .iaload, len, aux, cv)) (hl : zz_c h a (.inl (.int, n, .inl f))) (h0 : 0 ≤ i) (h1 : i.toNatClampNeg < n) (hp : pc + len = pc2) (k : zz_wp ms nm df x d m (pc2) ls (.int (f i.toNatClampNeg) :: st) h Q) : zz_wp ms nm df x d m pc ls (.int i :: .ref a :: st) h Q := by subst hp; exact zz_wp_next (q := (pc + len, ls, .int (f i.toNatClampNeg) :: st, h)) hi (by simp [zz_exec, zz_kind, zz_B, hl.look, h0, h1]) k
theorem w_ialoadR {a n : Nat} {f : Nat → Int32} {i : Int32} {pc2 : Nat} (hi : zz_at m pc = some (pc, .iaload, len, aux, cv)) (hl : zz_look x h a = .inl (.array .int, n, .inl f)) (h0 : 0 ≤ i) (h1 : i.toNatClampNeg < n) (hp : pc + len = pc2) (k : zz_wp ms nm df x d m (pc2) ls (.int (f i.toNatClampNeg) :: st) h Q) : zz_wp ms nm df x d m pc ls (.int i :: .ref a :: st) h Q := by subst hp; exact zz_wp_next (q := (pc + len, ls, .int (f i.toNatClampNeg) :: st, h)) hi (by simp [zz_exec, zz_kind, zz_B, hl, h0, h1]) k
theorem w_baload {a n : Nat} {f : Nat → Int32} {i : Int32} {pc2 : Nat} (hi : zz_at m pc = some (pc, .baload, len, aux, cv)) (hl : zz_c h a (.inl (.byte, n, .inl f))) (h0 : 0 ≤ i) (h1 : i.toNatClampNeg < n) (hp : pc + len = pc2) (k : zz_wp ms nm df x d m (pc2) ls (.int (f i.toNatClampNeg) :: st) h Q) : zz_wp ms nm df x d m pc ls (.int i :: .ref a :: st) h Q := by subst hp; exact zz_wp_next (q := (pc + len, ls, .int (f i.toNatClampNeg) :: st, h)) hi (by simp [zz_exec, zz_kind, zz_B, hl.look, h0, h1]) k
theorem w_zaload {a n : Nat} {f : Nat → Int32} {i : Int32} {pc2 : Nat} (hi : zz_at m pc = some (pc, .baload, len, aux, cv)) (hl : zz_c h a (.inl (.boolean, n, .inl f))) (h0 : 0 ≤ i) (h1 : i.toNatClampNeg < n) (hp : pc + len = pc2) (k : zz_wp ms nm df x d m (pc2) ls (.int (f i.toNatClampNeg) :: st) h Q) : zz_wp ms nm df x d m pc ls (.int i :: .ref a :: st) h Q := by subst hp; exact zz_wp_next (q := (pc + len, ls, .int (f i.toNatClampNeg) :: st, h)) hi (by simp [zz_exec, zz_kind, zz_B, hl.look, h0, h1]) k
theorem w_baloadR {a n : Nat} {f : Nat → Int32} {i : Int32} {pc2 : Nat} (hi : zz_at m pc = some (pc, .baload, len, aux, cv)) (hl : zz_look x h a = .inl (.array .byte, n, .inl f)) (h0 : 0 ≤ i) (h1 : i.toNatClampNeg < n) (hp : pc + len = pc2) (k : zz_wp ms nm df x d m (pc2) ls (.int (f i.toNatClampNeg) :: st) h Q) : zz_wp ms nm df x d m pc ls (.int i :: .ref a :: st) h Q := by subst hp; exact zz_wp_next (q := (pc + len, ls, .int (f i.toNatClampNeg) :: st, h)) hi (by simp [zz_exec, zz_kind, zz_B, hl, h0, h1]) k
theorem w_getfieldR {n a ci : Nat} {fs : List Value} {v : Value} {pc2 : Nat} (hi : zz_at m pc = some (pc, .getfield n, len, aux, cv)) (hl : zz_look x h a = .inr (ci, fs)) (hc : ci = aux / 100) (hv : fs[aux % 100]? = some v) (hp : pc + len = pc2) (k : zz_wp ms nm df x d m (pc2) ls (v :: st) h Q) : zz_wp ms nm df x d m pc ls (.ref a :: st) h Q := by subst hp; exact zz_wp_next (q := (pc + len, ls, v :: st, h)) hi (by simp [zz_exec, zz_kind, zz_B, hl, hc, hv]) k
theorem w_arraylengthR {a n : Nat} {ty : FieldType} {f : (Nat → Int32) ⊕ (Nat → Int64) ⊕ (Nat → UInt32) ⊕ (Nat → UInt64) ⊕ (Nat → Option Nat)} {pc2 : Nat} (hi : zz_at m pc = some (pc, .arraylength, len, aux, cv)) (hl : zz_look x h a = .inl (ty, n, f)) (hp : pc + len = pc2) (k : zz_wp ms nm df x d m (pc2) ls (.int (Int32.ofNat n) :: st) h Q) : zz_wp ms nm df x d m pc ls (.ref a :: st) h Q := by subst hp; exact zz_wp_next (q := (pc + len, ls, .int (Int32.ofNat n) :: st, h)) hi (by simp [zz_exec, zz_kind, zz_B, hl]) k
theorem w_laload {a n : Nat} {f : Nat → Int64} {i : Int32} {pc2 : Nat} (hi : zz_at m pc = some (pc, .laload, len, aux, cv)) (hl : zz_c h a (.inl (.long, n, .inr (.inl f)))) (h0 : 0 ≤ i) (h1 : i.toNatClampNeg < n) (hp : pc + len = pc2) (k : zz_wp ms nm df x d m (pc2) ls (.long (f i.toNatClampNeg) :: st) h Q) : zz_wp ms nm df x d m pc ls (.int i :: .ref a :: st) h Q := by subst hp; exact zz_wp_next (q := (pc + len, ls, .long (f i.toNatClampNeg) :: st, h)) hi (by simp [zz_exec, zz_kind, zz_B, hl.look, h0, h1]) k
theorem w_aaload {a n e : Nat} {C : String} {f : Nat → Option Nat} {i : Int32} {pc2 : Nat} (hi : zz_at m pc = some (pc, .aaload, len, aux, cv)) (hl : zz_c h a (.inl (.object C, n, .inr (.inr (.inr (.inr f)))))) (h0 : 0 ≤ i) (h1 : i.toNatClampNeg < n) (he : f i.toNatClampNeg = some e) (he2 : e < 1000000) (hp : pc + len = pc2) (k : zz_wp ms nm df x d m (pc2) ls (.ref e :: st) h Q) : zz_wp ms nm df x d m pc ls (.int i :: .ref a :: st) h Q := by subst hp; exact zz_wp_next (q := (pc + len, ls, .ref e :: st, h)) hi (by simp [zz_exec, zz_kind, zz_B, hl.look, h0, h1, he, he2]) k
theorem w_arraylength {a n : Nat} {ty : FieldType} {f : (Nat → Int32) ⊕ (Nat → Int64) ⊕ (Nat → UInt32) ⊕ (Nat → UInt64) ⊕ (Nat → Option Nat)} {pc2 : Nat} (hi : zz_at m pc = some (pc, .arraylength, len, aux, cv)) (hl : zz_c h a (.inl (ty, n, f))) (hp : pc + len = pc2) (k : zz_wp ms nm df x d m (pc2) ls (.int (Int32.ofNat n) :: st) h Q) : zz_wp ms nm df x d m pc ls (.ref a :: st) h Q := by subst hp; exact zz_wp_next (q := (pc + len, ls, .int (Int32.ofNat n) :: st, h)) hi (by simp [zz_exec, zz_kind, zz_B, hl.look]) k
theorem w_putfield {n a ci : Nat} {fs : List Value} {v : Value} {pc2 : Nat} {en : ZE} (hi : zz_at m pc = some (pc, .putfield n, len, aux, cv)) (hl : zz_c h a (.inr (ci, fs))) (hc : ci = aux / 100) (hn : aux % 100 < fs.length) (hf : zz_fit cv v = true) (he : .inr (ci, fs.set (aux % 100) v) = en) (hp : pc + len = pc2) (k : ∀ h2, zz_up h a en h2 → zz_wp ms nm df x d m pc2 ls st h2 Q) : zz_wp ms nm df x d m pc ls (v :: .ref a :: st) h Q := by
  subst hp
  subst he
  exact zz_wp_next (q := (pc + len, ls, st, zz_put h a (.inr (ci, fs.set (aux % 100) v)))) hi (by simp [zz_exec, zz_kind, zz_C, hl.1, hc, hn, hf]) (k _ rfl)
theorem w_iastore {a n : Nat} {f : Nat → Int32} {i v : Int32} {pc2 : Nat} {en : ZE} (hi : zz_at m pc = some (pc, .iastore, len, aux, cv)) (hl : zz_c h a (.inl (.int, n, .inl f))) (h0 : 0 ≤ i) (h1 : i.toNatClampNeg < n) (he : .inl (.int, n, .inl (upd f i.toNatClampNeg v)) = en) (hp : pc + len = pc2) (k : ∀ h2, zz_up h a en h2 → zz_wp ms nm df x d m pc2 ls st h2 Q) : zz_wp ms nm df x d m pc ls (.int v :: .int i :: .ref a :: st) h Q := by
  subst hp
  subst he
  exact zz_wp_next (q := (pc + len, ls, st, zz_put h a (.inl (.int, n, .inl (upd f i.toNatClampNeg v))))) hi (by simp [zz_exec, zz_kind, zz_C, hl.1, h0, h1]) (k _ rfl)
theorem w_bastore {a n : Nat} {f : Nat → Int32} {i v : Int32} {pc2 : Nat} {en : ZE} (hi : zz_at m pc = some (pc, .bastore, len, aux, cv)) (hl : zz_c h a (.inl (.byte, n, .inl f))) (h0 : 0 ≤ i) (h1 : i.toNatClampNeg < n) (he : .inl (.byte, n, .inl (upd f i.toNatClampNeg (vp_nar .byte v))) = en) (hp : pc + len = pc2) (k : ∀ h2, zz_up h a en h2 → zz_wp ms nm df x d m pc2 ls st h2 Q) : zz_wp ms nm df x d m pc ls (.int v :: .int i :: .ref a :: st) h Q := by
  subst hp
  subst he
  exact zz_wp_next (q := (pc + len, ls, st, zz_put h a (.inl (.byte, n, .inl (upd f i.toNatClampNeg (vp_nar .byte v)))))) hi (by simp [zz_exec, zz_kind, zz_C, hl.1, h0, h1]) (k _ rfl)
theorem w_zastore {a n : Nat} {f : Nat → Int32} {i v : Int32} {pc2 : Nat} {en : ZE} (hi : zz_at m pc = some (pc, .bastore, len, aux, cv)) (hl : zz_c h a (.inl (.boolean, n, .inl f))) (h0 : 0 ≤ i) (h1 : i.toNatClampNeg < n) (he : .inl (.boolean, n, .inl (upd f i.toNatClampNeg (vp_nar .boolean v))) = en) (hp : pc + len = pc2) (k : ∀ h2, zz_up h a en h2 → zz_wp ms nm df x d m pc2 ls st h2 Q) : zz_wp ms nm df x d m pc ls (.int v :: .int i :: .ref a :: st) h Q := by
  subst hp
  subst he
  exact zz_wp_next (q := (pc + len, ls, st, zz_put h a (.inl (.boolean, n, .inl (upd f i.toNatClampNeg (vp_nar .boolean v)))))) hi (by simp [zz_exec, zz_kind, zz_C, hl.1, h0, h1]) (k _ rfl)
theorem w_lastore {a n : Nat} {f : Nat → Int64} {i : Int32} {v : Int64} {pc2 : Nat} {en : ZE} (hi : zz_at m pc = some (pc, .lastore, len, aux, cv)) (hl : zz_c h a (.inl (.long, n, .inr (.inl f)))) (h0 : 0 ≤ i) (h1 : i.toNatClampNeg < n) (he : .inl (.long, n, .inr (.inl (vp_updL f i.toNatClampNeg v))) = en) (hp : pc + len = pc2) (k : ∀ h2, zz_up h a en h2 → zz_wp ms nm df x d m pc2 ls st h2 Q) : zz_wp ms nm df x d m pc ls (.long v :: .int i :: .ref a :: st) h Q := by
  subst hp
  subst he
  exact zz_wp_next (q := (pc + len, ls, st, zz_put h a (.inl (.long, n, .inr (.inl (vp_updL f i.toNatClampNeg v)))))) hi (by simp [zz_exec, zz_kind, zz_C, hl.1, h0, h1]) (k _ rfl)
theorem w_copy {n0 a a0 k0 k1 : Nat} {f g : Nat → Int32} {n i0 i1 : Int32} {pc2 : Nat} {en : ZE} (hi : zz_at m pc = some (pc, .invokestatic n0, len, 9998, cv)) (hl0 : zz_c h a0 (.inl (.int, k0, .inl f))) (hl1 : zz_c h a (.inl (.int, k1, .inl g))) (h1 : ¬ i0 < 0) (h2 : ¬ i1 < 0) (h3 : ¬ n < 0) (h4 : i0.toNatClampNeg + n.toNatClampNeg ≤ k0) (h5 : i1.toNatClampNeg + n.toNatClampNeg ≤ k1) (h6 : zz_cats st ≤ 8) (he : .inl (.int, k1, .inl (va_cpy f g i0.toNatClampNeg i1.toNatClampNeg n.toNatClampNeg)) = en) (hp : pc + len = pc2)
    (k : ∀ h2, zz_up h a en h2 → zz_wp ms nm df x d m pc2 ls st h2 Q) : zz_wp ms nm df x d m pc ls (.int n :: .int i1 :: .ref a :: .int i0 :: .ref a0 :: st) h Q := by
  subst hp
  subst he
  exact zz_wp_next (q := (pc + len, ls, st, zz_put h a (.inl (.int, k1, .inl (va_cpy f g i0.toNatClampNeg i1.toNatClampNeg n.toNatClampNeg))))) hi (by simp only [zz_exec, zz_kind, zz_C, hl0.1, hl1.1, if_true]; rw [if_pos ⟨trivial, trivial, h1, h2, h3, h4, h5, h6⟩]; rfl) (k _ rfl)
theorem w_min {n0 : Nat} {v w : Int32} {pc2 : Nat} (hi : zz_at m pc = some (pc, .invokestatic n0, len, 9997, cv)) (h6 : zz_cats st ≤ 8) (hp : pc + len = pc2) (k : zz_wp ms nm df x d m (pc2) ls (.int (if w < v then w else v) :: st) h Q) : zz_wp ms nm df x d m pc ls (.int w :: .int v :: st) h Q := by subst hp; exact zz_wp_next (q := (pc + len, ls, .int (if w < v then w else v) :: st, h)) hi (by simp [zz_exec, zz_kind, zz_M, h6]) k
theorem w_max {n0 : Nat} {v w : Int32} {pc2 : Nat} (hi : zz_at m pc = some (pc, .invokestatic n0, len, 9996, cv)) (h6 : zz_cats st ≤ 8) (hp : pc + len = pc2) (k : zz_wp ms nm df x d m (pc2) ls (.int (if v < w then w else v) :: st) h Q) : zz_wp ms nm df x d m pc ls (.int w :: .int v :: st) h Q := by subst hp; exact zz_wp_next (q := (pc + len, ls, .int (if v < w then w else v) :: st, h)) hi (by simp [zz_exec, zz_kind, zz_M, h6]) k
theorem w_iret {v : Int32} (hi : zz_at m pc = some (pc, .ireturn, len, aux, cv)) (hr : m.2.2.2.2.1 = some .int) (hq : Q (some (.int v)) h) : zz_wp ms nm df x d m pc ls [.int v] h Q := zz_wp_ret (r := (some (.int v))) hi (by simp [zz_exec, zz_kind, zz_R, hr]) hq
theorem w_zret {v : Int32} (hi : zz_at m pc = some (pc, .ireturn, len, aux, cv)) (hr : m.2.2.2.2.1 = some .boolean) (hv : v = 0 ∨ v = 1) (hq : Q (some (.int v)) h) : zz_wp ms nm df x d m pc ls [.int v] h Q := zz_wp_ret (r := (some (.int v))) hi (by simp [zz_exec, zz_kind, zz_R, hr, hv]) hq
theorem w_cret {v : Int32} (hi : zz_at m pc = some (pc, .ireturn, len, aux, cv)) (hr : m.2.2.2.2.1 = some .char) (hv : (v.toUInt32 % 65536).toInt32 = v) (hq : Q (some (.int v)) h) : zz_wp ms nm df x d m pc ls [.int v] h Q := zz_wp_ret (r := (some (.int v))) hi (by simp [zz_exec, zz_kind, zz_R, hr, hv]) hq
theorem w_bret {v : Int32} (hi : zz_at m pc = some (pc, .ireturn, len, aux, cv)) (hr : m.2.2.2.2.1 = some .byte) (hv : v.toInt8.toInt32 = v) (hq : Q (some (.int v)) h) : zz_wp ms nm df x d m pc ls [.int v] h Q := zz_wp_ret (r := (some (.int v))) hi (by simp [zz_exec, zz_kind, zz_R, hr, hv]) hq
theorem w_lret {v : Int64} (hi : zz_at m pc = some (pc, .lreturn, len, aux, cv)) (hr : m.2.2.2.2.1 = some .long) (hq : Q (some (.long v)) h) : zz_wp ms nm df x d m pc ls [.long v] h Q := zz_wp_ret (r := (some (.long v))) hi (by simp [zz_exec, zz_kind, zz_R, hr]) hq
theorem w_aret {a : Nat} {C : String} (hi : zz_at m pc = some (pc, .areturn, len, aux, cv)) (hr : m.2.2.2.2.1 = some (.object C)) (ha : a < 1000000) (hq : Q (some (.ref a)) h) : zz_wp ms nm df x d m pc ls [.ref a] h Q := zz_wp_ret (r := (some (.ref a))) hi (by simp [zz_exec, zz_kind, zz_R, hr, ha]) hq
theorem w_vret  (hi : zz_at m pc = some (pc, .return_, len, aux, cv)) (hr : m.2.2.2.2.1 = none) (hq : Q none h) : zz_wp ms nm df x d m pc ls [] h Q := zz_wp_ret (r := none) hi (by simp [zz_exec, zz_kind, zz_R, hr]) hq
theorem w_callv {n k b : Nat} {c : ZM} {ci : Nat} {fs as rest : List Value} {Q1 : Option Value → ZH → Prop} {pc2 : Nat} (hi : zz_at m pc = some (pc, .invokevirtual n, len, aux, cv)) (hm : ms[aux]? = some c) (hs : st.drop c.2.2.2.2.2.1 = .ref b :: rest) (ha : .ref b :: (st.take c.2.2.2.2.2.1).reverse = as) (hl : zz_look x h b = .inr (ci, fs)) (hc : ci = c.2.1) (h8 : zz_cats rest ≤ 8) (h9 : 1 + zz_cats (st.take c.2.2.2.2.2.1) ≤ c.2.2.2.1) (hct : zz_ct ms nm df x k c as h Q1) (hk : k < d) (hp : pc + len = pc2)
    (kk : ∀ r h', Q1 r h' → zz_wp ms nm df x d m pc2 ls (r.toList ++ rest) h' Q) : zz_wp ms nm df x d m pc ls st h Q := by
  subst hp
  exact zz_wp_call (c := c) (as := as) (rest := rest) hi (by simp only [zz_exec, zz_kind, hm, zz_F, hs, hl]; rw [if_pos ⟨hc, h8, h9⟩, ← ha]; rfl) hct hk kk
theorem w_calls {n k : Nat} {c : ZM} {as rest : List Value} {Q1 : Option Value → ZH → Prop} {pc2 : Nat} (hi : zz_at m pc = some (pc, .invokestatic n, len, aux, cv)) (hm : ms[aux]? = some c) (h7 : zz_kind (.invokestatic n) aux = 5) (hn : c.2.2.2.2.2.1 ≤ st.length) (hs : st.drop c.2.2.2.2.2.1 = rest) (ha : (st.take c.2.2.2.2.2.1).reverse = as) (h8 : zz_cats rest ≤ 8) (h9 : zz_cats (st.take c.2.2.2.2.2.1) ≤ c.2.2.2.1) (hct : zz_ct ms nm df x k c as h Q1) (hk : k < d) (hp : pc + len = pc2)
    (kk : ∀ r h', Q1 r h' → zz_wp ms nm df x d m pc2 ls (r.toList ++ rest) h' Q) : zz_wp ms nm df x d m pc ls st h Q := by
  subst hp
  exact zz_wp_call (c := c) (as := as) (rest := rest) hi (by simp only [zz_exec, h7, hm, zz_F, hs]; rw [if_pos ⟨hn, h8, h9⟩, ← ha]; rfl) hct hk kk
theorem nI_addE {a b : Int32} {m n : Nat} (ha : a = nI m) (hb : b = nI n) : a + b = nI (m + n) := by subst ha; subst hb; exact (Int32.ofNat_add m n).symm
theorem nI_mulE {a b : Int32} {m n : Nat} (ha : a = nI m) (hb : b = nI n) : a * b = nI (m * n) := by subst ha; subst hb; exact (Int32.ofNat_mul m n).symm
theorem nI_subE {a b : Int32} {m n : Nat} (ha : a = nI m) (hb : b = nI n) (h : n ≤ m) : a - b = nI (m - n) := by
  subst ha; subst hb
  have e : nI (m - n) + nI n = nI m := by rw [nI_addE rfl rfl, Nat.sub_add_cancel h]
  rw [← e]
  exact Int32.add_sub_cancel _ _
theorem zz_leN {a b : Int32} {m n : Nat} (ha : a = nI m) (hb : b = nI n) (hm : m < 2 ^ 31) (hn : n < 2 ^ 31) : a ≤ b ↔ m ≤ n := by
  subst ha; subst hb
  rw [Int32.le_iff_toInt_le, nI_toInt hm, nI_toInt hn]
  omega
theorem zz_ltN {a b : Int32} {m n : Nat} (ha : a = nI m) (hb : b = nI n) (hm : m < 2 ^ 31) (hn : n < 2 ^ 31) : a < b ↔ m < n := by
  subst ha; subst hb
  rw [Int32.lt_iff_toInt_lt, nI_toInt hm, nI_toInt hn]
  omega
theorem zz_eqN {a b : Int32} {m n : Nat} (ha : a = nI m) (hb : b = nI n) (hm : m < 2 ^ 31) (hn : n < 2 ^ 31) : a = b ↔ m = n := by
  subst ha; subst hb
  rw [← Int32.toInt_inj, nI_toInt hm, nI_toInt hn]
  omega
theorem zz_ix {i : Int32} {k n : Nat} (hi : i = nI k) (hk : k < n) (hn : n < 2 ^ 31) : 0 ≤ i ∧ i.toNatClampNeg < n ∧ i.toNatClampNeg = k := by
  subst hi
  have h1 : (nI k).toNatClampNeg = k := nI_clamp (by omega)
  refine ⟨?_, by omega, h1⟩
  rw [Int32.le_iff_toInt_le, nI_toInt (by omega)]
  simp
theorem w_ialoadK {a n j : Nat} {f : Nat → Int32} {i : Int32} {pc2 : Nat} (hi : zz_at m pc = some (pc, .iaload, len, aux, cv)) (hl : zz_c h a (.inl (.int, n, .inl f))) (hj : i = nI j) (hk : j < n) (hn : n < 2 ^ 31) (hp : pc + len = pc2) (k : zz_wp ms nm df x d m pc2 ls (.int (f j) :: st) h Q) : zz_wp ms nm df x d m pc ls (.int i :: .ref a :: st) h Q := by
  obtain ⟨e0, e1, e2⟩ := zz_ix hj hk hn
  exact w_iaload hi hl e0 e1 hp (by rw [e2]; exact k)
theorem w_baloadK {a n j : Nat} {f : Nat → Int32} {i : Int32} {pc2 : Nat} (hi : zz_at m pc = some (pc, .baload, len, aux, cv)) (hl : zz_c h a (.inl (.byte, n, .inl f))) (hj : i = nI j) (hk : j < n) (hn : n < 2 ^ 31) (hp : pc + len = pc2) (k : zz_wp ms nm df x d m pc2 ls (.int (f j) :: st) h Q) : zz_wp ms nm df x d m pc ls (.int i :: .ref a :: st) h Q := by
  obtain ⟨e0, e1, e2⟩ := zz_ix hj hk hn
  exact w_baload hi hl e0 e1 hp (by rw [e2]; exact k)
theorem w_zaloadK {a n j : Nat} {f : Nat → Int32} {i : Int32} {pc2 : Nat} (hi : zz_at m pc = some (pc, .baload, len, aux, cv)) (hl : zz_c h a (.inl (.boolean, n, .inl f))) (hj : i = nI j) (hk : j < n) (hn : n < 2 ^ 31) (hp : pc + len = pc2) (k : zz_wp ms nm df x d m pc2 ls (.int (f j) :: st) h Q) : zz_wp ms nm df x d m pc ls (.int i :: .ref a :: st) h Q := by
  obtain ⟨e0, e1, e2⟩ := zz_ix hj hk hn
  exact w_zaload hi hl e0 e1 hp (by rw [e2]; exact k)
theorem w_laloadK {a n j : Nat} {f : Nat → Int64} {i : Int32} {pc2 : Nat} (hi : zz_at m pc = some (pc, .laload, len, aux, cv)) (hl : zz_c h a (.inl (.long, n, .inr (.inl f)))) (hj : i = nI j) (hk : j < n) (hn : n < 2 ^ 31) (hp : pc + len = pc2) (k : zz_wp ms nm df x d m pc2 ls (.long (f j) :: st) h Q) : zz_wp ms nm df x d m pc ls (.int i :: .ref a :: st) h Q := by
  obtain ⟨e0, e1, e2⟩ := zz_ix hj hk hn
  exact w_laload hi hl e0 e1 hp (by rw [e2]; exact k)
theorem w_ialoadRK {a n j : Nat} {f : Nat → Int32} {i : Int32} {pc2 : Nat} (hi : zz_at m pc = some (pc, .iaload, len, aux, cv)) (hl : zz_look x h a = .inl (.array .int, n, .inl f)) (hj : i = nI j) (hk : j < n) (hn : n < 2 ^ 31) (hp : pc + len = pc2) (k : zz_wp ms nm df x d m pc2 ls (.int (f j) :: st) h Q) : zz_wp ms nm df x d m pc ls (.int i :: .ref a :: st) h Q := by
  obtain ⟨e0, e1, e2⟩ := zz_ix hj hk hn
  exact w_ialoadR hi hl e0 e1 hp (by rw [e2]; exact k)
theorem w_baloadRK {a n j : Nat} {f : Nat → Int32} {i : Int32} {pc2 : Nat} (hi : zz_at m pc = some (pc, .baload, len, aux, cv)) (hl : zz_look x h a = .inl (.array .byte, n, .inl f)) (hj : i = nI j) (hk : j < n) (hn : n < 2 ^ 31) (hp : pc + len = pc2) (k : zz_wp ms nm df x d m pc2 ls (.int (f j) :: st) h Q) : zz_wp ms nm df x d m pc ls (.int i :: .ref a :: st) h Q := by
  obtain ⟨e0, e1, e2⟩ := zz_ix hj hk hn
  exact w_baloadR hi hl e0 e1 hp (by rw [e2]; exact k)
theorem w_aaloadK {a n e j : Nat} {C : String} {f : Nat → Option Nat} {i : Int32} {pc2 : Nat} (hi : zz_at m pc = some (pc, .aaload, len, aux, cv)) (hl : zz_c h a (.inl (.object C, n, .inr (.inr (.inr (.inr f)))))) (hj : i = nI j) (hk : j < n) (hn : n < 2 ^ 31) (he : f j = some e) (he2 : e < 1000000) (hp : pc + len = pc2) (k : zz_wp ms nm df x d m pc2 ls (.ref e :: st) h Q) : zz_wp ms nm df x d m pc ls (.int i :: .ref a :: st) h Q := by
  obtain ⟨e0, e1, e2⟩ := zz_ix hj hk hn
  exact w_aaload hi hl e0 e1 (by rw [e2]; exact he) he2 hp k
theorem w_iastoreK {a n j : Nat} {f : Nat → Int32} {i : Int32} {v : Int32} {pc2 : Nat} {en : ZE} (hi : zz_at m pc = some (pc, .iastore, len, aux, cv)) (hl : zz_c h a (.inl (.int, n, .inl f))) (hj : i = nI j) (hk : j < n) (hn : n < 2 ^ 31) (he : .inl (.int, n, .inl (upd f j v)) = en) (hp : pc + len = pc2) (k : ∀ h2, zz_up h a en h2 → zz_wp ms nm df x d m pc2 ls st h2 Q) : zz_wp ms nm df x d m pc ls (.int v :: .int i :: .ref a :: st) h Q := by
  obtain ⟨e0, e1, e2⟩ := zz_ix hj hk hn
  exact w_iastore hi hl e0 e1 (by rw [e2]; exact he) hp k
theorem w_bastoreK {a n j : Nat} {f : Nat → Int32} {i : Int32} {v : Int32} {pc2 : Nat} {en : ZE} (hi : zz_at m pc = some (pc, .bastore, len, aux, cv)) (hl : zz_c h a (.inl (.byte, n, .inl f))) (hj : i = nI j) (hk : j < n) (hn : n < 2 ^ 31) (he : .inl (.byte, n, .inl (upd f j (vp_nar .byte v))) = en) (hp : pc + len = pc2) (k : ∀ h2, zz_up h a en h2 → zz_wp ms nm df x d m pc2 ls st h2 Q) : zz_wp ms nm df x d m pc ls (.int v :: .int i :: .ref a :: st) h Q := by
  obtain ⟨e0, e1, e2⟩ := zz_ix hj hk hn
  exact w_bastore hi hl e0 e1 (by rw [e2]; exact he) hp k
theorem w_zastoreK {a n j : Nat} {f : Nat → Int32} {i : Int32} {v : Int32} {pc2 : Nat} {en : ZE} (hi : zz_at m pc = some (pc, .bastore, len, aux, cv)) (hl : zz_c h a (.inl (.boolean, n, .inl f))) (hj : i = nI j) (hk : j < n) (hn : n < 2 ^ 31) (he : .inl (.boolean, n, .inl (upd f j (vp_nar .boolean v))) = en) (hp : pc + len = pc2) (k : ∀ h2, zz_up h a en h2 → zz_wp ms nm df x d m pc2 ls st h2 Q) : zz_wp ms nm df x d m pc ls (.int v :: .int i :: .ref a :: st) h Q := by
  obtain ⟨e0, e1, e2⟩ := zz_ix hj hk hn
  exact w_zastore hi hl e0 e1 (by rw [e2]; exact he) hp k
theorem w_lastoreK {a n j : Nat} {f : Nat → Int64} {i : Int32} {v : Int64} {pc2 : Nat} {en : ZE} (hi : zz_at m pc = some (pc, .lastore, len, aux, cv)) (hl : zz_c h a (.inl (.long, n, .inr (.inl f)))) (hj : i = nI j) (hk : j < n) (hn : n < 2 ^ 31) (he : .inl (.long, n, .inr (.inl (vp_updL f j v))) = en) (hp : pc + len = pc2) (k : ∀ h2, zz_up h a en h2 → zz_wp ms nm df x d m pc2 ls st h2 Q) : zz_wp ms nm df x d m pc ls (.long v :: .int i :: .ref a :: st) h Q := by
  obtain ⟨e0, e1, e2⟩ := zz_ix hj hk hn
  exact w_lastore hi hl e0 e1 (by rw [e2]; exact he) hp k
end ZQ
