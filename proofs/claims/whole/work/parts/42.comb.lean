/-! What a method does, as a function of the state: none where the machine would go wrong, or go on for too long. -/
def zrd {R : Type} (n : Nat) (i : Int32) (f : Nat → Int32) (K : Int32 → Option R) : Option R := if 0 ≤ i ∧ i.toNatClampNeg < n then K (f i.toNatClampNeg) else none
def zrl {R : Type} (n : Nat) (i : Int32) (f : Nat → Int64) (K : Int64 → Option R) : Option R := if 0 ≤ i ∧ i.toNatClampNeg < n then K (f i.toNatClampNeg) else none
def zix {R : Type} (n : Nat) (i : Int32) (K : Nat → Option R) : Option R := if 0 ≤ i ∧ i.toNatClampNeg < n then K i.toNatClampNeg else none
def zgi {R : Type} (v : Int32) (K : Int32 → Option R) : Option R := K v
def zgl {R : Type} (v : Int64) (K : Int64 → Option R) : Option R := K v
def zwi {R : Type} (s : ZS) (a j : Nat) (v : Int32) (K : ZS → Option R) : Option R := K (zsI s a j v)
def zwb {R : Type} (s : ZS) (a j : Nat) (v : Int32) (K : ZS → Option R) : Option R := if v = 0 ∨ v = 1 then K (zsI s a j v) else none
def zwf {R : Type} (s : ZS) (a j : Nat) (v : Int64) (K : ZS → Option R) : Option R := K (zsL s a j v)
def zwa {R : Type} (s : ZS) (a n : Nat) (i v : Int32) (K : ZS → Option R) : Option R := if 0 ≤ i ∧ i.toNatClampNeg < n then K (zsI s a i.toNatClampNeg v) else none
def zwl {R : Type} (s : ZS) (a n : Nat) (i : Int32) (v : Int64) (K : ZS → Option R) : Option R := if 0 ≤ i ∧ i.toNatClampNeg < n then K (zsL s a i.toNatClampNeg v) else none
def zcp {R : Type} (s : ZS) (a0 n0 a n : Nat) (i0 i m : Int32) (K : ZS → Option R) : Option R := if ¬ i0 < 0 ∧ ¬ i < 0 ∧ ¬ m < 0 ∧ i0.toNatClampNeg + m.toNatClampNeg ≤ n0 ∧ i.toNatClampNeg + m.toNatClampNeg ≤ n then K (zsR s a (va_cpy (s.1 a0) (s.1 a) i0.toNatClampNeg i.toNatClampNeg m.toNatClampNeg)) else none
def zdv {R : Type} (w : Int32) (K : Option R) : Option R := if w = 0 then none else K
def zdl {R : Type} (w : Int64) (K : Option R) : Option R := if w = 0 then none else K
def znr {R : Type} (v : Int32) (X Y : Option R) : Option R := if v < 0 then X else if v.toNatClampNeg < 6 then Y else none
def zbl (v : Int32) (s : ZS) : Option (Int32 × ZS) := if v = 0 ∨ v = 1 then some (v, s) else none
def zch (v : Int32) (s : ZS) : Option (Int32 × ZS) := if (v.toUInt32 % 65536).toInt32 = v then some (v, s) else none
def zby (v : Int32) (s : ZS) : Option (Int32 × ZS) := if v.toInt8.toInt32 = v then some (v, s) else none
def zcl {A R : Type} (c : Option (A × ZS)) (K : A → ZS → Option R) : Option R := match c with
  | some w => K w.1 w.2
  | none => none
def zcv {R : Type} (c : Option ZS) (K : ZS → Option R) : Option R := match c with
  | some w => K w
  | none => none
def zjn {A R : Type} (T : A → ZS → Option R) (B : (A → ZS → Option R) → Option R) : Option R := B T
def zj0 {R : Type} (T : ZS → Option R) (B : (ZS → Option R) → Option R) : Option R := B T
def zlp {A R : Type} : Nat → (A → ZS → (A → ZS → Option R) → Option R) → A → ZS → Option R
  | 0, _, _, _ => none
  | n + 1, B, a, s => B a s (zlp n B)
theorem zN_ex : ∃ n : Nat, 1000000 < n := ⟨1000001, by decide⟩
noncomputable def zN : Nat := Classical.choose zN_ex
theorem zN_big : 1000000 < zN := Classical.choose_spec zN_ex
def qI (b : ZH) (w : Int32 × ZS) : Option Value → ZH → Prop := fun r h => r = some (.int w.1) ∧ h = zk b w.2
def qL (b : ZH) (w : Int64 × ZS) : Option Value → ZH → Prop := fun r h => r = some (.long w.1) ∧ h = zk b w.2
def qV (b : ZH) (w : ZS) : Option Value → ZH → Prop := fun r h => r = none ∧ h = zk b w
def qA (b : ZH) (a : Nat) (w : ZS) : Option Value → ZH → Prop := fun r h => r = some (.ref a) ∧ h = zk b w
section ZJ
variable {ms : List ZM} {nm : Nat → Option String} {df : Nat → List Value} {x : Nat → ZE} {d : Nat} {m : ZM} {pc : Nat} {ls : ZL} {st : List Value} {b : ZH} {s : ZS} {Q : Option Value → ZH → Prop} {len aux pc2 : Nat} {cv : Value} {R : Type} {r : R}
theorem j_join {A : Type} {P : A → ZS → Prop} {T : A → ZS → Option R} {B : (A → ZS → Option R) → Option R} {G : Prop} (hF : zjn T B = some r) (kt : ∀ a s, T a s = some r → P a s) (kb : ∀ T', (∀ a s, T' a s = some r → P a s) → B T' = some r → G) : G := kb T kt hF
theorem j_join0 {P : ZS → Prop} {T : ZS → Option R} {B : (ZS → Option R) → Option R} {G : Prop} (hF : zj0 T B = some r) (kt : ∀ s, T s = some r → P s) (kb : ∀ T', (∀ s, T' s = some r → P s) → B T' = some r → G) : G := kb T kt hF
theorem j_loop {A : Type} {P : A → ZS → Prop} {B : A → ZS → (A → ZS → Option R) → Option R} {n : Nat} {a : A} {s : ZS} (hF : zlp n B a s = some r) (kb : ∀ a s g, (∀ a s, g a s = some r → P a s) → B a s g = some r → P a s) : P a s := by
  induction n generalizing a s with
  | zero => cases hF
  | succ n ih => exact kb a s (zlp n B) (fun a s h => ih h) hF
theorem j_if_eq {X Y : Option R} {o : Int} {v : Int32} (hi : zz_at m pc = some (pc, .ifCond .eq o, len, aux, cv)) (hp : pc + len = pc2) (hF : (if v = 0 then X else Y) = some r) (kt : X = some r → zz_wp ms nm df x d m aux ls st (zk b s) Q) (kf : Y = some r → zz_wp ms nm df x d m pc2 ls st (zk b s) Q) : zz_wp ms nm df x d m pc ls (.int v :: st) (zk b s) Q := w_if_eq hi hp (fun h => kt (by rw [if_pos h] at hF; exact hF)) (fun h => kf (by rw [if_neg h] at hF; exact hF))
theorem j_icmp_eq {X Y : Option R} {o : Int} {v w : Int32} (hi : zz_at m pc = some (pc, .if_icmp .eq o, len, aux, cv)) (hp : pc + len = pc2) (hF : (if v = w then X else Y) = some r) (kt : X = some r → zz_wp ms nm df x d m aux ls st (zk b s) Q) (kf : Y = some r → zz_wp ms nm df x d m pc2 ls st (zk b s) Q) : zz_wp ms nm df x d m pc ls (.int w :: .int v :: st) (zk b s) Q := w_icmp_eq hi hp (fun h => kt (by rw [if_pos h] at hF; exact hF)) (fun h => kf (by rw [if_neg h] at hF; exact hF))
theorem j_if_ne {X Y : Option R} {o : Int} {v : Int32} (hi : zz_at m pc = some (pc, .ifCond .ne o, len, aux, cv)) (hp : pc + len = pc2) (hF : (if ¬ v = 0 then X else Y) = some r) (kt : X = some r → zz_wp ms nm df x d m aux ls st (zk b s) Q) (kf : Y = some r → zz_wp ms nm df x d m pc2 ls st (zk b s) Q) : zz_wp ms nm df x d m pc ls (.int v :: st) (zk b s) Q := w_if_ne hi hp (fun h => kt (by rw [if_pos h] at hF; exact hF)) (fun h => kf (by rw [if_neg (fun z => z h)] at hF; exact hF))
theorem j_icmp_ne {X Y : Option R} {o : Int} {v w : Int32} (hi : zz_at m pc = some (pc, .if_icmp .ne o, len, aux, cv)) (hp : pc + len = pc2) (hF : (if ¬ v = w then X else Y) = some r) (kt : X = some r → zz_wp ms nm df x d m aux ls st (zk b s) Q) (kf : Y = some r → zz_wp ms nm df x d m pc2 ls st (zk b s) Q) : zz_wp ms nm df x d m pc ls (.int w :: .int v :: st) (zk b s) Q := w_icmp_ne hi hp (fun h => kt (by rw [if_pos h] at hF; exact hF)) (fun h => kf (by rw [if_neg (fun z => z h)] at hF; exact hF))
theorem j_if_lt {X Y : Option R} {o : Int} {v : Int32} (hi : zz_at m pc = some (pc, .ifCond .lt o, len, aux, cv)) (hp : pc + len = pc2) (hF : (if v < 0 then X else Y) = some r) (kt : X = some r → zz_wp ms nm df x d m aux ls st (zk b s) Q) (kf : Y = some r → zz_wp ms nm df x d m pc2 ls st (zk b s) Q) : zz_wp ms nm df x d m pc ls (.int v :: st) (zk b s) Q := w_if_lt hi hp (fun h => kt (by rw [if_pos h] at hF; exact hF)) (fun h => kf (by rw [if_neg h] at hF; exact hF))
theorem j_icmp_lt {X Y : Option R} {o : Int} {v w : Int32} (hi : zz_at m pc = some (pc, .if_icmp .lt o, len, aux, cv)) (hp : pc + len = pc2) (hF : (if v < w then X else Y) = some r) (kt : X = some r → zz_wp ms nm df x d m aux ls st (zk b s) Q) (kf : Y = some r → zz_wp ms nm df x d m pc2 ls st (zk b s) Q) : zz_wp ms nm df x d m pc ls (.int w :: .int v :: st) (zk b s) Q := w_icmp_lt hi hp (fun h => kt (by rw [if_pos h] at hF; exact hF)) (fun h => kf (by rw [if_neg h] at hF; exact hF))
theorem j_if_ge {X Y : Option R} {o : Int} {v : Int32} (hi : zz_at m pc = some (pc, .ifCond .ge o, len, aux, cv)) (hp : pc + len = pc2) (hF : (if 0 ≤ v then X else Y) = some r) (kt : X = some r → zz_wp ms nm df x d m aux ls st (zk b s) Q) (kf : Y = some r → zz_wp ms nm df x d m pc2 ls st (zk b s) Q) : zz_wp ms nm df x d m pc ls (.int v :: st) (zk b s) Q := w_if_ge hi hp (fun h => kt (by rw [if_pos h] at hF; exact hF)) (fun h => kf (by rw [if_neg h] at hF; exact hF))
theorem j_icmp_ge {X Y : Option R} {o : Int} {v w : Int32} (hi : zz_at m pc = some (pc, .if_icmp .ge o, len, aux, cv)) (hp : pc + len = pc2) (hF : (if w ≤ v then X else Y) = some r) (kt : X = some r → zz_wp ms nm df x d m aux ls st (zk b s) Q) (kf : Y = some r → zz_wp ms nm df x d m pc2 ls st (zk b s) Q) : zz_wp ms nm df x d m pc ls (.int w :: .int v :: st) (zk b s) Q := w_icmp_ge hi hp (fun h => kt (by rw [if_pos h] at hF; exact hF)) (fun h => kf (by rw [if_neg h] at hF; exact hF))
theorem j_if_gt {X Y : Option R} {o : Int} {v : Int32} (hi : zz_at m pc = some (pc, .ifCond .gt o, len, aux, cv)) (hp : pc + len = pc2) (hF : (if 0 < v then X else Y) = some r) (kt : X = some r → zz_wp ms nm df x d m aux ls st (zk b s) Q) (kf : Y = some r → zz_wp ms nm df x d m pc2 ls st (zk b s) Q) : zz_wp ms nm df x d m pc ls (.int v :: st) (zk b s) Q := w_if_gt hi hp (fun h => kt (by rw [if_pos h] at hF; exact hF)) (fun h => kf (by rw [if_neg h] at hF; exact hF))
theorem j_icmp_gt {X Y : Option R} {o : Int} {v w : Int32} (hi : zz_at m pc = some (pc, .if_icmp .gt o, len, aux, cv)) (hp : pc + len = pc2) (hF : (if w < v then X else Y) = some r) (kt : X = some r → zz_wp ms nm df x d m aux ls st (zk b s) Q) (kf : Y = some r → zz_wp ms nm df x d m pc2 ls st (zk b s) Q) : zz_wp ms nm df x d m pc ls (.int w :: .int v :: st) (zk b s) Q := w_icmp_gt hi hp (fun h => kt (by rw [if_pos h] at hF; exact hF)) (fun h => kf (by rw [if_neg h] at hF; exact hF))
theorem j_if_le {X Y : Option R} {o : Int} {v : Int32} (hi : zz_at m pc = some (pc, .ifCond .le o, len, aux, cv)) (hp : pc + len = pc2) (hF : (if v ≤ 0 then X else Y) = some r) (kt : X = some r → zz_wp ms nm df x d m aux ls st (zk b s) Q) (kf : Y = some r → zz_wp ms nm df x d m pc2 ls st (zk b s) Q) : zz_wp ms nm df x d m pc ls (.int v :: st) (zk b s) Q := w_if_le hi hp (fun h => kt (by rw [if_pos h] at hF; exact hF)) (fun h => kf (by rw [if_neg h] at hF; exact hF))
theorem j_icmp_le {X Y : Option R} {o : Int} {v w : Int32} (hi : zz_at m pc = some (pc, .if_icmp .le o, len, aux, cv)) (hp : pc + len = pc2) (hF : (if v ≤ w then X else Y) = some r) (kt : X = some r → zz_wp ms nm df x d m aux ls st (zk b s) Q) (kf : Y = some r → zz_wp ms nm df x d m pc2 ls st (zk b s) Q) : zz_wp ms nm df x d m pc ls (.int w :: .int v :: st) (zk b s) Q := w_icmp_le hi hp (fun h => kt (by rw [if_pos h] at hF; exact hF)) (fun h => kf (by rw [if_neg h] at hF; exact hF))
theorem j_geti {n a ci : Nat} {fs : List Value} {v : Int32} {K : Int32 → Option R} (hi : zz_at m pc = some (pc, .getfield n, len, aux, cv)) (hl : zz_c (zk b s) a (.inr (ci, fs))) (hc : ci = aux / 100) (hv : fs[aux % 100]? = some (.int v)) (hp : pc + len = pc2) (hF : zgi v K = some r) (k : ∀ v, K v = some r → zz_wp ms nm df x d m pc2 ls (.int v :: st) (zk b s) Q) : zz_wp ms nm df x d m pc ls (.ref a :: st) (zk b s) Q := w_getfield hi hl hc hv hp (k _ hF)
theorem j_getl {n a ci : Nat} {fs : List Value} {v : Int64} {K : Int64 → Option R} (hi : zz_at m pc = some (pc, .getfield n, len, aux, cv)) (hl : zz_c (zk b s) a (.inr (ci, fs))) (hc : ci = aux / 100) (hv : fs[aux % 100]? = some (.long v)) (hp : pc + len = pc2) (hF : zgl v K = some r) (k : ∀ v, K v = some r → zz_wp ms nm df x d m pc2 ls (.long v :: st) (zk b s) Q) : zz_wp ms nm df x d m pc ls (.ref a :: st) (zk b s) Q := w_getfield hi hl hc hv hp (k _ hF)
theorem j_puti {n a ci j : Nat} {fs : List Value} {v : Int32} {K : ZS → Option R} (hi : zz_at m pc = some (pc, .putfield n, len, aux, cv)) (hl : zz_c (zk b s) a (.inr (ci, fs))) (hc : ci = aux / 100) (hn : aux % 100 < fs.length) (hf : zz_fit cv (.int v) = true) (hw : .inr (ci, fs.set (aux % 100) (.int v)) = zk_e (zk_k a) a (upd (s.1 a) j v) (s.2 a)) (ha : a < 241) (hp : pc + len = pc2) (hF : zwi s a j v K = some r) (k : ∀ s, K s = some r → zz_wp ms nm df x d m pc2 ls st (zk b s) Q) : zz_wp ms nm df x d m pc ls (.int v :: .ref a :: st) (zk b s) Q :=
  w_putfield hi hl hc hn hf rfl hp (fun h2 u => by rw [u, zk_putR ha hw]; exact k _ hF)
theorem j_putz {n a ci j : Nat} {fs : List Value} {v : Int32} {K : ZS → Option R} (hi : zz_at m pc = some (pc, .putfield n, len, aux, .int 1)) (hl : zz_c (zk b s) a (.inr (ci, fs))) (hc : ci = aux / 100) (hn : aux % 100 < fs.length) (hw : .inr (ci, fs.set (aux % 100) (.int v)) = zk_e (zk_k a) a (upd (s.1 a) j v) (s.2 a)) (ha : a < 241) (hp : pc + len = pc2) (hF : zwb s a j v K = some r) (k : ∀ s, K s = some r → zz_wp ms nm df x d m pc2 ls st (zk b s) Q) : zz_wp ms nm df x d m pc ls (.int v :: .ref a :: st) (zk b s) Q := by
  unfold zwb at hF
  split at hF
  · next hv =>
    refine w_putfield hi hl hc hn ?_ rfl hp (fun h2 u => by rw [u, zk_putR ha hw]; exact k _ hF)
    rcases hv with hv | hv <;> (subst hv; rfl)
  · cases hF
theorem j_putl {n a ci j : Nat} {fs : List Value} {v : Int64} {K : ZS → Option R} (hi : zz_at m pc = some (pc, .putfield n, len, aux, cv)) (hl : zz_c (zk b s) a (.inr (ci, fs))) (hc : ci = aux / 100) (hn : aux % 100 < fs.length) (hf : zz_fit cv (.long v) = true) (hw : .inr (ci, fs.set (aux % 100) (.long v)) = zk_e (zk_k a) a (s.1 a) (vp_updL (s.2 a) j v)) (ha : a < 241) (hp : pc + len = pc2) (hF : zwf s a j v K = some r) (k : ∀ s, K s = some r → zz_wp ms nm df x d m pc2 ls st (zk b s) Q) : zz_wp ms nm df x d m pc ls (.long v :: .ref a :: st) (zk b s) Q :=
  w_putfield hi hl hc hn hf rfl hp (fun h2 u => by rw [u, zk_putL ha hw]; exact k _ hF)
theorem j_putr {n a ci j : Nat} {fs : List Value} {u : Value} {v : Int32} {K : ZS → Option R} (hi : zz_at m pc = some (pc, .putfield n, len, aux, cv)) (hl : zz_c (zk b s) a (.inr (ci, fs))) (hc : ci = aux / 100) (hn : aux % 100 < fs.length) (hf : zz_fit cv u = true) (hw : .inr (ci, fs.set (aux % 100) u) = zk_e (zk_k a) a (upd (s.1 a) j v) (s.2 a)) (ha : a < 241) (hp : pc + len = pc2) (hF : zwi s a j v K = some r) (k : ∀ s, K s = some r → zz_wp ms nm df x d m pc2 ls st (zk b s) Q) : zz_wp ms nm df x d m pc ls (u :: .ref a :: st) (zk b s) Q :=
  w_putfield hi hl hc hn hf rfl hp (fun h2 u => by rw [u, zk_putR ha hw]; exact k _ hF)
theorem j_iaload {a n : Nat} {i : Int32} {K : Int32 → Option R} (hi : zz_at m pc = some (pc, .iaload, len, aux, cv)) (hk : zk_k a = 1000 + n) (hn : n < 1000 ∨ (n < 4000 ∧ 1000 = 1000)) (ha : a < 241) (hp : pc + len = pc2) (hF : zrd n i (s.1 a) K = some r) (k : ∀ v, K v = some r → zz_wp ms nm df x d m pc2 ls (.int v :: st) (zk b s) Q) : zz_wp ms nm df x d m pc ls (.int i :: .ref a :: st) (zk b s) Q := by
  unfold zrd at hF
  split at hF
  · next hc => exact w_iaload hi (zk_at ha (zk_A _ _ hk (by omega) (by omega))) hc.1 hc.2 hp (k _ hF)
  · cases hF
theorem j_baload {a n : Nat} {i : Int32} {K : Int32 → Option R} (hi : zz_at m pc = some (pc, .baload, len, aux, cv)) (hk : zk_k a = 5000 + n) (hn : n < 1000 ∨ (n < 4000 ∧ 5000 = 1000)) (ha : a < 241) (hp : pc + len = pc2) (hF : zrd n i (s.1 a) K = some r) (k : ∀ v, K v = some r → zz_wp ms nm df x d m pc2 ls (.int v :: st) (zk b s) Q) : zz_wp ms nm df x d m pc ls (.int i :: .ref a :: st) (zk b s) Q := by
  unfold zrd at hF
  split at hF
  · next hc => exact w_baload hi (zk_at ha (zk_AB _ _ hk (by omega))) hc.1 hc.2 hp (k _ hF)
  · cases hF
theorem j_zaload {a n : Nat} {i : Int32} {K : Int32 → Option R} (hi : zz_at m pc = some (pc, .baload, len, aux, cv)) (hk : zk_k a = 6000 + n) (hn : n < 1000 ∨ (n < 4000 ∧ 6000 = 1000)) (ha : a < 241) (hp : pc + len = pc2) (hF : zrd n i (s.1 a) K = some r) (k : ∀ v, K v = some r → zz_wp ms nm df x d m pc2 ls (.int v :: st) (zk b s) Q) : zz_wp ms nm df x d m pc ls (.int i :: .ref a :: st) (zk b s) Q := by
  unfold zrd at hF
  split at hF
  · next hc => exact w_zaload hi (zk_at ha (zk_AZ _ _ hk (by omega))) hc.1 hc.2 hp (k _ hF)
  · cases hF
theorem j_laload {a n : Nat} {i : Int32} {K : Int64 → Option R} (hi : zz_at m pc = some (pc, .laload, len, aux, cv)) (hk : zk_k a = 8000 + n) (ha : a < 241) (hp : pc + len = pc2) (hF : zrl n i (s.2 a) K = some r) (k : ∀ v, K v = some r → zz_wp ms nm df x d m pc2 ls (.long v :: st) (zk b s) Q) : zz_wp ms nm df x d m pc ls (.int i :: .ref a :: st) (zk b s) Q := by
  unfold zrl at hF
  split at hF
  · next hc => exact w_laload hi (zk_at ha (zk_AL _ _ hk)) hc.1 hc.2 hp (k _ hF)
  · cases hF
theorem j_ialoadR {a n : Nat} {f : Nat → Int32} {i : Int32} {K : Int32 → Option R} (hi : zz_at m pc = some (pc, .iaload, len, aux, cv)) (hl : zz_look x (zk b s) a = .inl (.array .int, n, .inl f)) (hp : pc + len = pc2) (hF : zrd n i f K = some r) (k : ∀ v, K v = some r → zz_wp ms nm df x d m pc2 ls (.int v :: st) (zk b s) Q) : zz_wp ms nm df x d m pc ls (.int i :: .ref a :: st) (zk b s) Q := by
  unfold zrd at hF
  split at hF
  · next hc => exact w_ialoadR hi hl hc.1 hc.2 hp (k _ hF)
  · cases hF
theorem j_baloadR {a n : Nat} {f : Nat → Int32} {i : Int32} {K : Int32 → Option R} (hi : zz_at m pc = some (pc, .baload, len, aux, cv)) (hl : zz_look x (zk b s) a = .inl (.array .byte, n, .inl f)) (hp : pc + len = pc2) (hF : zrd n i f K = some r) (k : ∀ v, K v = some r → zz_wp ms nm df x d m pc2 ls (.int v :: st) (zk b s) Q) : zz_wp ms nm df x d m pc ls (.int i :: .ref a :: st) (zk b s) Q := by
  unfold zrd at hF
  split at hF
  · next hc => exact w_baloadR hi hl hc.1 hc.2 hp (k _ hF)
  · cases hF
theorem j_aaload {a n p q : Nat} {C : String} {i : Int32} {K : Nat → Option R} (hi : zz_at m pc = some (pc, .aaload, len, aux, cv)) (hl : zz_c (zk b s) a (.inl (.object C, n, .inr (.inr (.inr (.inr (fun i => if i < n then some (p + q * i) else none))))))) (hpq : p + q * n < 1000000) (hp : pc + len = pc2) (hF : zix n i K = some r) (k : ∀ j, j < n → K j = some r → zz_wp ms nm df x d m pc2 ls (.ref (p + q * j) :: st) (zk b s) Q) : zz_wp ms nm df x d m pc ls (.int i :: .ref a :: st) (zk b s) Q := by
  unfold zix at hF
  split at hF
  · next hc =>
    refine w_aaload hi hl hc.1 hc.2 (if_pos hc.2) ?_ hp (k _ hc.2 hF)
    have : q * i.toNatClampNeg ≤ q * n := Nat.mul_le_mul_left _ (Nat.le_of_lt hc.2)
    omega
  · cases hF
theorem j_iastore {a n : Nat} {i v : Int32} {K : ZS → Option R} (hi : zz_at m pc = some (pc, .iastore, len, aux, cv)) (hk : zk_k a = 1000 + n) (hn : n < 4000) (ha : a < 241) (hp : pc + len = pc2) (hF : zwa s a n i v K = some r) (k : ∀ s, K s = some r → zz_wp ms nm df x d m pc2 ls st (zk b s) Q) : zz_wp ms nm df x d m pc ls (.int v :: .int i :: .ref a :: st) (zk b s) Q := by
  unfold zwa at hF
  split at hF
  · next hc => exact w_iastore hi (zk_at ha (zk_A _ _ hk hn (by omega))) hc.1 hc.2 rfl hp (fun h2 u => by rw [u, zk_putR ha (zk_A _ _ hk hn (by omega)).symm]; exact k _ hF)
  · cases hF
theorem j_bastore {a n : Nat} {i v : Int32} {K : ZS → Option R} (hi : zz_at m pc = some (pc, .bastore, len, aux, cv)) (hk : zk_k a = 5000 + n) (hn : n < 1000) (ha : a < 241) (hp : pc + len = pc2) (hF : zwa s a n i (vp_nar .byte v) K = some r) (k : ∀ s, K s = some r → zz_wp ms nm df x d m pc2 ls st (zk b s) Q) : zz_wp ms nm df x d m pc ls (.int v :: .int i :: .ref a :: st) (zk b s) Q := by
  unfold zwa at hF
  split at hF
  · next hc => exact w_bastore hi (zk_at ha (zk_AB _ _ hk hn)) hc.1 hc.2 rfl hp (fun h2 u => by rw [u, zk_putR ha (zk_AB _ _ hk hn).symm]; exact k _ hF)
  · cases hF
theorem j_zastore {a n : Nat} {i v : Int32} {K : ZS → Option R} (hi : zz_at m pc = some (pc, .bastore, len, aux, cv)) (hk : zk_k a = 6000 + n) (hn : n < 2000) (ha : a < 241) (hp : pc + len = pc2) (hF : zwa s a n i (vp_nar .boolean v) K = some r) (k : ∀ s, K s = some r → zz_wp ms nm df x d m pc2 ls st (zk b s) Q) : zz_wp ms nm df x d m pc ls (.int v :: .int i :: .ref a :: st) (zk b s) Q := by
  unfold zwa at hF
  split at hF
  · next hc => exact w_zastore hi (zk_at ha (zk_AZ _ _ hk hn)) hc.1 hc.2 rfl hp (fun h2 u => by rw [u, zk_putR ha (zk_AZ _ _ hk hn).symm]; exact k _ hF)
  · cases hF
theorem j_lastore {a n : Nat} {i : Int32} {v : Int64} {K : ZS → Option R} (hi : zz_at m pc = some (pc, .lastore, len, aux, cv)) (hk : zk_k a = 8000 + n) (ha : a < 241) (hp : pc + len = pc2) (hF : zwl s a n i v K = some r) (k : ∀ s, K s = some r → zz_wp ms nm df x d m pc2 ls st (zk b s) Q) : zz_wp ms nm df x d m pc ls (.long v :: .int i :: .ref a :: st) (zk b s) Q := by
  unfold zwl at hF
  split at hF
  · next hc => exact w_lastore hi (zk_at ha (zk_AL _ _ hk)) hc.1 hc.2 rfl hp (fun h2 u => by rw [u, zk_putL ha (zk_AL _ _ hk).symm]; exact k _ hF)
  · cases hF
theorem j_copy {n0 a a0 k0 k1 : Nat} {n i0 i1 : Int32} {K : ZS → Option R} (hi : zz_at m pc = some (pc, .invokestatic n0, len, 9998, cv)) (hk0 : zk_k a0 = 1000 + k0) (hn0 : k0 < 4000) (ha0 : a0 < 241) (hk1 : zk_k a = 1000 + k1) (hn1 : k1 < 4000) (ha : a < 241) (h6 : zz_cats st ≤ 8) (hp : pc + len = pc2) (hF : zcp s a0 k0 a k1 i0 i1 n K = some r) (k : ∀ s, K s = some r → zz_wp ms nm df x d m pc2 ls st (zk b s) Q) : zz_wp ms nm df x d m pc ls (.int n :: .int i1 :: .ref a :: .int i0 :: .ref a0 :: st) (zk b s) Q := by
  unfold zcp at hF
  split at hF
  · next hc =>
    obtain ⟨h1, h2, h3, h4, h5⟩ := hc
    exact w_copy hi (zk_at ha0 (zk_A _ _ hk0 hn0 (by omega))) (zk_at ha (zk_A _ _ hk1 hn1 (by omega))) h1 h2 h3 h4 h5 h6 rfl hp (fun h2 u => by rw [u, zk_putR ha (zk_A _ _ hk1 hn1 (by omega)).symm]; exact k _ hF)
  · cases hF
theorem j_ialoadC {a n j : Nat} {i : Int32} {K : Int32 → Option R} (hi : zz_at m pc = some (pc, .iaload, len, aux, cv)) (hk : zk_k a = 1000 + n) (hn : n < 4000) (ha : a < 241) (h0 : 0 ≤ i) (hj : i.toNatClampNeg = j) (hjn : j < n) (hp : pc + len = pc2) (hF : zgi (s.1 a j) K = some r) (k : ∀ v, K v = some r → zz_wp ms nm df x d m pc2 ls (.int v :: st) (zk b s) Q) : zz_wp ms nm df x d m pc ls (.int i :: .ref a :: st) (zk b s) Q := by
  subst hj
  exact w_iaload hi (zk_at ha (zk_A _ _ hk hn (by omega))) h0 hjn hp (k _ hF)
theorem j_iastoreC {a n j : Nat} {i v : Int32} {K : ZS → Option R} (hi : zz_at m pc = some (pc, .iastore, len, aux, cv)) (hk : zk_k a = 1000 + n) (hn : n < 4000) (ha : a < 241) (h0 : 0 ≤ i) (hj : i.toNatClampNeg = j) (hjn : j < n) (hp : pc + len = pc2) (hF : zwi s a j v K = some r) (k : ∀ s, K s = some r → zz_wp ms nm df x d m pc2 ls st (zk b s) Q) : zz_wp ms nm df x d m pc ls (.int v :: .int i :: .ref a :: st) (zk b s) Q := by
  subst hj
  exact w_iastore hi (zk_at ha (zk_A _ _ hk hn (by omega))) h0 hjn rfl hp (fun h2 u => by rw [u, zk_putR ha (zk_A _ _ hk hn (by omega)).symm]; exact k _ hF)
theorem j_lastoreC {a n j : Nat} {i : Int32} {v : Int64} {K : ZS → Option R} (hi : zz_at m pc = some (pc, .lastore, len, aux, cv)) (hk : zk_k a = 8000 + n) (ha : a < 241) (h0 : 0 ≤ i) (hj : i.toNatClampNeg = j) (hjn : j < n) (hp : pc + len = pc2) (hF : zwf s a j v K = some r) (k : ∀ s, K s = some r → zz_wp ms nm df x d m pc2 ls st (zk b s) Q) : zz_wp ms nm df x d m pc ls (.long v :: .int i :: .ref a :: st) (zk b s) Q := by
  subst hj
  exact w_lastore hi (zk_at ha (zk_AL _ _ hk)) h0 hjn rfl hp (fun h2 u => by rw [u, zk_putL ha (zk_AL _ _ hk).symm]; exact k _ hF)
theorem j_laloadC {a n j : Nat} {i : Int32} {K : Int64 → Option R} (hi : zz_at m pc = some (pc, .laload, len, aux, cv)) (hk : zk_k a = 8000 + n) (ha : a < 241) (h0 : 0 ≤ i) (hj : i.toNatClampNeg = j) (hjn : j < n) (hp : pc + len = pc2) (hF : zgl (s.2 a j) K = some r) (k : ∀ v, K v = some r → zz_wp ms nm df x d m pc2 ls (.long v :: st) (zk b s) Q) : zz_wp ms nm df x d m pc ls (.int i :: .ref a :: st) (zk b s) Q := by
  subst hj
  exact w_laload hi (zk_at ha (zk_AL _ _ hk)) h0 hjn hp (k _ hF)
theorem j_idiv {v w : Int32} {K : Option R} (hi : zz_at m pc = some (pc, .idiv, len, aux, cv)) (hp : pc + len = pc2) (hF : zdv w K = some r) (k : K = some r → zz_wp ms nm df x d m pc2 ls (.int (v / w) :: st) (zk b s) Q) : zz_wp ms nm df x d m pc ls (.int w :: .int v :: st) (zk b s) Q := by
  unfold zdv at hF
  split at hF
  · cases hF
  · next hc => exact w_idiv hi hc hp (k hF)
theorem j_irem {v w : Int32} {K : Option R} (hi : zz_at m pc = some (pc, .irem, len, aux, cv)) (hp : pc + len = pc2) (hF : zdv w K = some r) (k : K = some r → zz_wp ms nm df x d m pc2 ls (.int (v - v / w * w) :: st) (zk b s) Q) : zz_wp ms nm df x d m pc ls (.int w :: .int v :: st) (zk b s) Q := by
  unfold zdv at hF
  split at hF
  · cases hF
  · next hc => exact w_irem hi hc hp (k hF)
theorem j_ldiv {v w : Int64} {K : Option R} (hi : zz_at m pc = some (pc, .ldiv, len, aux, cv)) (hp : pc + len = pc2) (hF : zdl w K = some r) (k : K = some r → zz_wp ms nm df x d m pc2 ls (.long (v / w) :: st) (zk b s) Q) : zz_wp ms nm df x d m pc ls (.long w :: .long v :: st) (zk b s) Q := by
  unfold zdl at hF
  split at hF
  · cases hF
  · next hc => exact w_ldiv hi hc hp (k hF)
theorem j_lrem {v w : Int64} {K : Option R} (hi : zz_at m pc = some (pc, .lrem, len, aux, cv)) (hp : pc + len = pc2) (hF : zdl w K = some r) (k : K = some r → zz_wp ms nm df x d m pc2 ls (.long (v - v / w * w) :: st) (zk b s) Q) : zz_wp ms nm df x d m pc ls (.long w :: .long v :: st) (zk b s) Q := by
  unfold zdl at hF
  split at hF
  · cases hF
  · next hc => exact w_lrem hi hc hp (k hF)
theorem j_switch {d0 lo hi0 : Int} {offs : Array Int} {v : Int32} {t : Nat} (hi : zz_at m pc = some (pc, .tableswitch d0 lo hi0 offs, len, aux, cv)) (ht : zz_sw pc d0 lo hi0 offs v = some t) (k : zz_wp ms nm df x d m t ls st (zk b s) Q) : zz_wp ms nm df x d m pc ls (.int v :: st) (zk b s) Q := w_switch hi ht k
theorem j_getrule {n : Nat} {K : Int32 → Option R} (hi : zz_at m pc = some (pc, .getfield n, len, 305, cv)) (hp : pc + len = pc2) (hF : zgi (s.1 202 5) K = some r) (k : ∀ v, K v = some r → zz_wp ms nm df x d m pc2 ls (zk_rv v :: st) (zk b s) Q) : zz_wp ms nm df x d m pc ls (.ref 202 :: st) (zk b s) Q := w_getfield hi zk_cMill rfl rfl hp (k _ hF)
theorem j_getrule2 {n : Nat} {K : Nat → Option R} (hi : zz_at m pc = some (pc, .getfield n, len, 305, cv)) (hp : pc + len = pc2) (hF : zix 6 (s.1 202 5) K = some r) (k : ∀ j, j < 6 → K j = some r → zz_wp ms nm df x d m pc2 ls (.ref (86 + 2 * j) :: st) (zk b s) Q) : zz_wp ms nm df x d m pc ls (.ref 202 :: st) (zk b s) Q := by
  unfold zix at hF
  split at hF
  · next hc =>
    refine w_getfield hi zk_cMill rfl rfl hp ?_
    rw [show zk_rv (s.1 202 5) = .ref (86 + 2 * (s.1 202 5).toNatClampNeg) by unfold zk_rv; rw [if_neg (by rw [Int32.not_lt]; exact hc.1)]]
    exact k _ hc.2 hF
  · cases hF
theorem j_nullrule {o : Int} {v : Int32} {X Y : Option R} (hi : zz_at m pc = some (pc, .ifnull o, len, aux, cv)) (hp : pc + len = pc2) (hF : znr v X Y = some r) (kt : X = some r → zz_wp ms nm df x d m aux ls st (zk b s) Q) (kf : Y = some r → zz_wp ms nm df x d m pc2 ls st (zk b s) Q) : zz_wp ms nm df x d m pc ls (zk_rv v :: st) (zk b s) Q := by
  unfold znr at hF
  by_cases h : v < 0
  · rw [if_pos h] at hF
    rw [show zk_rv v = .null by unfold zk_rv; rw [if_pos h]]
    exact w_ifnullN hi (kt hF)
  · rw [if_neg h] at hF
    rw [show zk_rv v = .ref (86 + 2 * v.toNatClampNeg) by unfold zk_rv; rw [if_neg h]]
    split at hF
    · next h9 => exact w_ifnull hi (by omega) hp (kf hF)
    · cases hF
theorem j_cIv {n k a : Nat} {c : ZM} {ci : Nat} {fs as rest : List Value} (hi : zz_at m pc = some (pc, .invokevirtual n, len, aux, cv)) (hm : ms[aux]? = some c) (hs : st.drop c.2.2.2.2.2.1 = .ref a :: rest) (ha : .ref a :: (st.take c.2.2.2.2.2.1).reverse = as) (hl : zz_look x (zk b s) a = .inr (ci, fs)) (hc : ci = c.2.1) (h8 : zz_cats rest ≤ 8) (h9 : 1 + zz_cats (st.take c.2.2.2.2.2.1) ≤ c.2.2.2.1) {f : Option (Int32 × ZS)} {K : Int32 → ZS → Option R} (hct : ∀ w1, f = some w1 → zz_ct ms nm df x k c as (zk b s) (qI b w1)) (hk : k < d) (hp : pc + len = pc2) (hF : zcl f K = some r) (kk : ∀ v s, K v s = some r → zz_wp ms nm df x d m pc2 ls (.int v :: rest) (zk b s) Q) : zz_wp ms nm df x d m pc ls st (zk b s) Q := by
  cases f with
  | none => cases hF
  | some w1 => exact w_callv hi hm hs ha hl hc h8 h9 (hct w1 rfl) hk hp (fun q h2 e => by obtain ⟨rfl, rfl⟩ := e; exact kk w1.1 w1.2 hF)
theorem j_cIs {n k : Nat} {c : ZM} {as rest : List Value} (hi : zz_at m pc = some (pc, .invokestatic n, len, aux, cv)) (hm : ms[aux]? = some c) (h7 : zz_kind (.invokestatic n) aux = 5) (hn : c.2.2.2.2.2.1 ≤ st.length) (hs : st.drop c.2.2.2.2.2.1 = rest) (ha : (st.take c.2.2.2.2.2.1).reverse = as) (h8 : zz_cats rest ≤ 8) (h9 : zz_cats (st.take c.2.2.2.2.2.1) ≤ c.2.2.2.1) {f : Option (Int32 × ZS)} {K : Int32 → ZS → Option R} (hct : ∀ w1, f = some w1 → zz_ct ms nm df x k c as (zk b s) (qI b w1)) (hk : k < d) (hp : pc + len = pc2) (hF : zcl f K = some r) (kk : ∀ v s, K v s = some r → zz_wp ms nm df x d m pc2 ls (.int v :: rest) (zk b s) Q) : zz_wp ms nm df x d m pc ls st (zk b s) Q := by
  cases f with
  | none => cases hF
  | some w1 => exact w_calls hi hm h7 hn hs ha h8 h9 (hct w1 rfl) hk hp (fun q h2 e => by obtain ⟨rfl, rfl⟩ := e; exact kk w1.1 w1.2 hF)
theorem j_cLv {n k a : Nat} {c : ZM} {ci : Nat} {fs as rest : List Value} (hi : zz_at m pc = some (pc, .invokevirtual n, len, aux, cv)) (hm : ms[aux]? = some c) (hs : st.drop c.2.2.2.2.2.1 = .ref a :: rest) (ha : .ref a :: (st.take c.2.2.2.2.2.1).reverse = as) (hl : zz_look x (zk b s) a = .inr (ci, fs)) (hc : ci = c.2.1) (h8 : zz_cats rest ≤ 8) (h9 : 1 + zz_cats (st.take c.2.2.2.2.2.1) ≤ c.2.2.2.1) {f : Option (Int64 × ZS)} {K : Int64 → ZS → Option R} (hct : ∀ w1, f = some w1 → zz_ct ms nm df x k c as (zk b s) (qL b w1)) (hk : k < d) (hp : pc + len = pc2) (hF : zcl f K = some r) (kk : ∀ v s, K v s = some r → zz_wp ms nm df x d m pc2 ls (.long v :: rest) (zk b s) Q) : zz_wp ms nm df x d m pc ls st (zk b s) Q := by
  cases f with
  | none => cases hF
  | some w1 => exact w_callv hi hm hs ha hl hc h8 h9 (hct w1 rfl) hk hp (fun q h2 e => by obtain ⟨rfl, rfl⟩ := e; exact kk w1.1 w1.2 hF)
theorem j_cLs {n k : Nat} {c : ZM} {as rest : List Value} (hi : zz_at m pc = some (pc, .invokestatic n, len, aux, cv)) (hm : ms[aux]? = some c) (h7 : zz_kind (.invokestatic n) aux = 5) (hn : c.2.2.2.2.2.1 ≤ st.length) (hs : st.drop c.2.2.2.2.2.1 = rest) (ha : (st.take c.2.2.2.2.2.1).reverse = as) (h8 : zz_cats rest ≤ 8) (h9 : zz_cats (st.take c.2.2.2.2.2.1) ≤ c.2.2.2.1) {f : Option (Int64 × ZS)} {K : Int64 → ZS → Option R} (hct : ∀ w1, f = some w1 → zz_ct ms nm df x k c as (zk b s) (qL b w1)) (hk : k < d) (hp : pc + len = pc2) (hF : zcl f K = some r) (kk : ∀ v s, K v s = some r → zz_wp ms nm df x d m pc2 ls (.long v :: rest) (zk b s) Q) : zz_wp ms nm df x d m pc ls st (zk b s) Q := by
  cases f with
  | none => cases hF
  | some w1 => exact w_calls hi hm h7 hn hs ha h8 h9 (hct w1 rfl) hk hp (fun q h2 e => by obtain ⟨rfl, rfl⟩ := e; exact kk w1.1 w1.2 hF)
theorem j_cVv {n k a : Nat} {c : ZM} {ci : Nat} {fs as rest : List Value} (hi : zz_at m pc = some (pc, .invokevirtual n, len, aux, cv)) (hm : ms[aux]? = some c) (hs : st.drop c.2.2.2.2.2.1 = .ref a :: rest) (ha : .ref a :: (st.take c.2.2.2.2.2.1).reverse = as) (hl : zz_look x (zk b s) a = .inr (ci, fs)) (hc : ci = c.2.1) (h8 : zz_cats rest ≤ 8) (h9 : 1 + zz_cats (st.take c.2.2.2.2.2.1) ≤ c.2.2.2.1) {f : Option ZS} {K : ZS → Option R} (hct : ∀ w1, f = some w1 → zz_ct ms nm df x k c as (zk b s) (qV b w1)) (hk : k < d) (hp : pc + len = pc2) (hF : zcv f K = some r) (kk : ∀ s, K s = some r → zz_wp ms nm df x d m pc2 ls (rest) (zk b s) Q) : zz_wp ms nm df x d m pc ls st (zk b s) Q := by
  cases f with
  | none => cases hF
  | some w1 => exact w_callv hi hm hs ha hl hc h8 h9 (hct w1 rfl) hk hp (fun q h2 e => by obtain ⟨rfl, rfl⟩ := e; exact kk w1 hF)
theorem j_cVs {n k : Nat} {c : ZM} {as rest : List Value} (hi : zz_at m pc = some (pc, .invokestatic n, len, aux, cv)) (hm : ms[aux]? = some c) (h7 : zz_kind (.invokestatic n) aux = 5) (hn : c.2.2.2.2.2.1 ≤ st.length) (hs : st.drop c.2.2.2.2.2.1 = rest) (ha : (st.take c.2.2.2.2.2.1).reverse = as) (h8 : zz_cats rest ≤ 8) (h9 : zz_cats (st.take c.2.2.2.2.2.1) ≤ c.2.2.2.1) {f : Option ZS} {K : ZS → Option R} (hct : ∀ w1, f = some w1 → zz_ct ms nm df x k c as (zk b s) (qV b w1)) (hk : k < d) (hp : pc + len = pc2) (hF : zcv f K = some r) (kk : ∀ s, K s = some r → zz_wp ms nm df x d m pc2 ls (rest) (zk b s) Q) : zz_wp ms nm df x d m pc ls st (zk b s) Q := by
  cases f with
  | none => cases hF
  | some w1 => exact w_calls hi hm h7 hn hs ha h8 h9 (hct w1 rfl) hk hp (fun q h2 e => by obtain ⟨rfl, rfl⟩ := e; exact kk w1 hF)
theorem j_cAv {ra : Nat} {n k a : Nat} {c : ZM} {ci : Nat} {fs as rest : List Value} (hi : zz_at m pc = some (pc, .invokevirtual n, len, aux, cv)) (hm : ms[aux]? = some c) (hs : st.drop c.2.2.2.2.2.1 = .ref a :: rest) (ha : .ref a :: (st.take c.2.2.2.2.2.1).reverse = as) (hl : zz_look x (zk b s) a = .inr (ci, fs)) (hc : ci = c.2.1) (h8 : zz_cats rest ≤ 8) (h9 : 1 + zz_cats (st.take c.2.2.2.2.2.1) ≤ c.2.2.2.1) {f : Option ZS} {K : ZS → Option R} (hct : ∀ w1, f = some w1 → zz_ct ms nm df x k c as (zk b s) (qA b ra w1)) (hk : k < d) (hp : pc + len = pc2) (hF : zcv f K = some r) (kk : ∀ s, K s = some r → zz_wp ms nm df x d m pc2 ls (.ref ra :: rest) (zk b s) Q) : zz_wp ms nm df x d m pc ls st (zk b s) Q := by
  cases f with
  | none => cases hF
  | some w1 => exact w_callv hi hm hs ha hl hc h8 h9 (hct w1 rfl) hk hp (fun q h2 e => by obtain ⟨rfl, rfl⟩ := e; exact kk w1 hF)
theorem j_cAs {ra : Nat} {n k : Nat} {c : ZM} {as rest : List Value} (hi : zz_at m pc = some (pc, .invokestatic n, len, aux, cv)) (hm : ms[aux]? = some c) (h7 : zz_kind (.invokestatic n) aux = 5) (hn : c.2.2.2.2.2.1 ≤ st.length) (hs : st.drop c.2.2.2.2.2.1 = rest) (ha : (st.take c.2.2.2.2.2.1).reverse = as) (h8 : zz_cats rest ≤ 8) (h9 : zz_cats (st.take c.2.2.2.2.2.1) ≤ c.2.2.2.1) {f : Option ZS} {K : ZS → Option R} (hct : ∀ w1, f = some w1 → zz_ct ms nm df x k c as (zk b s) (qA b ra w1)) (hk : k < d) (hp : pc + len = pc2) (hF : zcv f K = some r) (kk : ∀ s, K s = some r → zz_wp ms nm df x d m pc2 ls (.ref ra :: rest) (zk b s) Q) : zz_wp ms nm df x d m pc ls st (zk b s) Q := by
  cases f with
  | none => cases hF
  | some w1 => exact w_calls hi hm h7 hn hs ha h8 h9 (hct w1 rfl) hk hp (fun q h2 e => by obtain ⟨rfl, rfl⟩ := e; exact kk w1 hF)
theorem j_iret {v : Int32} {w : Int32 × ZS} (hi : zz_at m pc = some (pc, .ireturn, len, aux, cv)) (hr : m.2.2.2.2.1 = some .int) (hF : some (v, s) = some w) : zz_wp ms nm df x d m pc ls [.int v] (zk b s) (qI b w) := by
  cases hF; exact w_iret hi hr ⟨rfl, rfl⟩
theorem j_zret {v : Int32} {w : Int32 × ZS} (hi : zz_at m pc = some (pc, .ireturn, len, aux, cv)) (hr : m.2.2.2.2.1 = some .boolean) (hF : zbl v s = some w) : zz_wp ms nm df x d m pc ls [.int v] (zk b s) (qI b w) := by
  unfold zbl at hF
  split at hF
  · next hv => cases hF; exact w_zret hi hr hv ⟨rfl, rfl⟩
  · cases hF
theorem j_cret {v : Int32} {w : Int32 × ZS} (hi : zz_at m pc = some (pc, .ireturn, len, aux, cv)) (hr : m.2.2.2.2.1 = some .char) (hF : zch v s = some w) : zz_wp ms nm df x d m pc ls [.int v] (zk b s) (qI b w) := by
  unfold zch at hF
  split at hF
  · next hv => cases hF; exact w_cret hi hr hv ⟨rfl, rfl⟩
  · cases hF
theorem j_bret {v : Int32} {w : Int32 × ZS} (hi : zz_at m pc = some (pc, .ireturn, len, aux, cv)) (hr : m.2.2.2.2.1 = some .byte) (hF : zby v s = some w) : zz_wp ms nm df x d m pc ls [.int v] (zk b s) (qI b w) := by
  unfold zby at hF
  split at hF
  · next hv => cases hF; exact w_bret hi hr hv ⟨rfl, rfl⟩
  · cases hF
theorem j_lret {v : Int64} {w : Int64 × ZS} (hi : zz_at m pc = some (pc, .lreturn, len, aux, cv)) (hr : m.2.2.2.2.1 = some .long) (hF : some (v, s) = some w) : zz_wp ms nm df x d m pc ls [.long v] (zk b s) (qL b w) := by
  cases hF; exact w_lret hi hr ⟨rfl, rfl⟩
theorem j_vret {w : ZS} (hi : zz_at m pc = some (pc, .return_, len, aux, cv)) (hr : m.2.2.2.2.1 = none) (hF : some s = some w) : zz_wp ms nm df x d m pc ls [] (zk b s) (qV b w) := by
  cases hF; exact w_vret hi hr ⟨rfl, rfl⟩
theorem j_aret {C : String} {a : Nat} {w : ZS} (hi : zz_at m pc = some (pc, .areturn, len, aux, cv)) (hr : m.2.2.2.2.1 = some (.object C)) (ha : a < 1000000) (hF : some s = some w) : zz_wp ms nm df x d m pc ls [.ref a] (zk b s) (qA b a w) := by
  cases hF; exact w_aret hi hr ha ⟨rfl, rfl⟩
end ZJ
/-! Locals in another order, dead ones left out: the same answer. -/
def zz_sub : ZL → ZL → Prop
  | [], _ => True
  | q :: l, l' => zz_get l' q.1 = some q.2 ∧ zz_sub l l'
def zz_nd (l : ZL) : Prop := (l.map (fun q => q.1)).Nodup
/-- what the first has, the second has -/
def zz_le (l l' : ZL) : Prop := ∀ i v, zz_get l i = some v → zz_get l' i = some v
theorem zz_get_cons (q : Nat × Value) (l : ZL) (i : Nat) : zz_get (q :: l) i = if q.1 = i then some q.2 else zz_get l i := by
  unfold zz_get
  by_cases h : q.1 = i
  · rw [List.find?_cons_of_pos (by simpa using h), if_pos h]; rfl
  · rw [List.find?_cons_of_neg (by simpa using h), if_neg h]
theorem zz_sub.le : ∀ {l l' : ZL}, zz_sub l l' → zz_le l l'
  | [], _, _, i, v, h => by cases h
  | q :: l, l', hs, i, v, h => by
    rw [zz_get_cons] at h
    split at h
    · next e => cases h; rw [← e]; exact hs.1
    · exact zz_sub.le hs.2 i v h
theorem zz_get_mem2 {l : ZL} {i : Nat} {v : Value} (h : zz_get l i = some v) : (i, v) ∈ l := by
  unfold zz_get at h
  cases hf : l.find? (fun q => q.1 == i) with
  | none => rw [hf] at h; cases h
  | some q =>
    rw [hf] at h
    cases h
    have h1 := List.mem_of_find?_eq_some hf
    have h2 : (q.1 == i) = true := by simpa using List.find?_some hf
    have h3 : q.1 = i := by simpa using h2
    rw [← h3]; exact h1
theorem zz_get_filter {P : Nat × Value → Bool} : ∀ {l : ZL} {i : Nat} {v : Value}, zz_nd l → zz_get (l.filter P) i = some v → zz_get l i = some v ∧ P (i, v) = true
  | [], i, v, _, h => by cases h
  | q :: l, i, v, hn, h => by
    have hn2 : zz_nd l := (List.nodup_cons.mp hn).2
    rw [zz_get_cons]
    by_cases hp : P q = true
    · rw [List.filter_cons_of_pos hp, zz_get_cons] at h
      split at h
      · next e => cases h; rw [if_pos e]; refine ⟨rfl, ?_⟩; rw [← e]; exact hp
      · next e => rw [if_neg e]; exact zz_get_filter hn2 h
    · rw [List.filter_cons_of_neg hp] at h
      have h1 := zz_get_filter hn2 h
      have h2 : ¬ q.1 = i := by
        intro e
        have := zz_get_mem2 h1.1
        exact (List.nodup_cons.mp hn).1 (by show q.1 ∈ _; rw [e]; exact List.mem_map_of_mem (f := fun q : Nat × Value => q.1) this)
      rw [if_neg h2]; exact h1
theorem zz_get_filter2 {P : Nat × Value → Bool} : ∀ {l : ZL} {i : Nat} {v : Value}, zz_get l i = some v → P (i, v) = true → zz_get (l.filter P) i = some v
  | [], i, v, h, _ => by cases h
  | q :: l, i, v, h, hp => by
    rw [zz_get_cons] at h
    split at h
    · next e =>
      cases h
      have : P q = true := by rw [← e] at hp; exact hp
      rw [List.filter_cons_of_pos this, zz_get_cons, if_pos e]
    · next e =>
      by_cases hq : P q = true
      · rw [List.filter_cons_of_pos hq, zz_get_cons, if_neg e]; exact zz_get_filter2 h hp
      · rw [List.filter_cons_of_neg hq]; exact zz_get_filter2 h hp
theorem zz_nd.filter {l : ZL} (P : Nat × Value → Bool) (h : zz_nd l) : zz_nd (l.filter P) := by
  unfold zz_nd at h ⊢
  exact List.Nodup.sublist (List.Sublist.map _ List.filter_sublist) h
theorem zz_le.set {l l' : ZL} {P : Nat × Value → Bool} {i : Nat} {v : Value} (h : zz_le l l') (hn : zz_nd l) : zz_le ((i, v) :: l.filter P) ((i, v) :: l'.filter P) := by
  intro j u hu
  rw [zz_get_cons] at hu ⊢
  split at hu
  · next e => rw [if_pos e]; exact hu
  · next e =>
    rw [if_neg e]
    obtain ⟨h1, h2⟩ := zz_get_filter hn hu
    exact zz_get_filter2 (h _ _ h1) h2
theorem zz_nd.set {l : ZL} {P : Nat × Value → Bool} {i : Nat} {v : Value} (hn : zz_nd l) (hp : ∀ u, P (i, u) = false) : zz_nd ((i, v) :: l.filter P) := by
  refine List.nodup_cons.mpr ⟨?_, hn.filter P⟩
  intro hm
  obtain ⟨q, h1, h2⟩ := List.mem_map.mp hm
  have h3 := (List.mem_filter.mp h1).2
  have : P q = false := by
    have := hp q.2
    rw [show q = (i, q.2) from Prod.ext h2 rfl]; exact this
  rw [this] at h3
  cases h3
theorem zz_le.set1 {l l' : ZL} {i : Nat} {v : Value} (h : zz_le l l') (hn : zz_nd l) : zz_le (zz_set1 l i v) (zz_set1 l' i v) := zz_le.set h hn
theorem zz_le.set2 {l l' : ZL} {i : Nat} {v : Value} (h : zz_le l l') (hn : zz_nd l) : zz_le (zz_set2 l i v) (zz_set2 l' i v) := zz_le.set h hn
theorem zz_nd.set1 {l : ZL} {i : Nat} {v : Value} (hn : zz_nd l) : zz_nd (zz_set1 l i v) := zz_nd.set hn (fun u => by simp)
theorem zz_nd.set2 {l : ZL} {i : Nat} {v : Value} (hn : zz_nd l) : zz_nd (zz_set2 l i v) := zz_nd.set hn (fun u => by simp)
theorem zz_A_le {pc : Nat} {ins : Instr} {len aux : Nat} {cv : Value} {l l' : ZL} {st : List Value} {q : Nat × ZL × List Value} (h : zz_le l l') (hn : zz_nd l) (he : zz_A pc ins len aux cv l st = some q) : ∃ q', zz_A pc ins len aux cv l' st = some q' ∧ q'.1 = q.1 ∧ q'.2.2 = q.2.2 ∧ zz_le q.2.1 q'.2.1 ∧ zz_nd q.2.1 := by
  unfold zz_A at he ⊢
  split at he
  all_goals first
    | (cases he; exact ⟨_, rfl, rfl, rfl, h, hn⟩)
    | (split at he
       · next hg => rw [h _ _ hg]; cases he; exact ⟨_, rfl, rfl, rfl, h, hn⟩
       · cases he)
    | (split at he
       · next hg => rw [h _ _ hg]; cases he; exact ⟨_, rfl, rfl, rfl, h, hn⟩
       · next hg => rw [h _ _ hg]; cases he; exact ⟨_, rfl, rfl, rfl, h, hn⟩
       · cases he)
    | (split at he
       · cases he; exact ⟨_, rfl, rfl, rfl, h.set1 hn, hn.set1⟩
       · cases he)
    | (split at he
       · cases he; exact ⟨_, rfl, rfl, rfl, h.set2 hn, hn.set2⟩
       · cases he)
    | (split at he
       · cases he; exact ⟨_, rfl, rfl, rfl, h.set1 hn, hn.set1⟩
       · cases he; exact ⟨_, rfl, rfl, rfl, h.set1 hn, hn.set1⟩
       · cases he)
    | (split at he
       · next hg => rw [h _ _ hg]; cases he; exact ⟨_, rfl, rfl, rfl, h.set1 hn, hn.set1⟩
       · cases he)
    | (split at he
       · cases he; exact ⟨_, rfl, rfl, rfl, h, hn⟩
       · cases he)
    | (split at he
       · split at he
         · next hc => cases he; rw [if_pos hc]; exact ⟨_, rfl, rfl, rfl, h, hn⟩
         · cases he
       · cases he; exact ⟨_, rfl, rfl, rfl, h, hn⟩
       · cases he)
    | (split at he
       · obtain ⟨t, h1, h2⟩ := Option.map_eq_some_iff.mp he
         subst h2
         rw [h1]
         exact ⟨_, rfl, rfl, rfl, h, hn⟩
       · cases he)
    | (obtain ⟨t, h1, h2⟩ := Option.map_eq_some_iff.mp he
       subst h2
       rw [h1]
       exact ⟨_, rfl, rfl, rfl, h, hn⟩)
section ZK
variable {ms : List ZM} {nm : Nat → Option String} {df : Nat → List Value} {x : Nat → ZE}
theorem zz_run_le : ∀ (f d : Nat) (m : ZM) (pc : Nat) (l l' : ZL) (st : List Value) (h : ZH) (w : Option Value × ZH), zz_le l l' → zz_nd l → zz_run ms nm df x d f m pc l st h = some w → zz_run ms nm df x d f m pc l' st h = some w := by
  intro f
  induction f with
  | zero => intro d m pc l l' st h w _ _ hz; simp [zz_run] at hz
  | succ f ih =>
    intro d m pc l l' st h w hl hn hz
    unfold zz_run at hz ⊢
    cases hi : zz_at m pc with
    | none => rw [hi] at hz; cases hz
    | some i =>
      simp only [hi] at hz ⊢
      have key : ∀ q, zz_exec ms nm df x m i l st h = some q → (∃ q1, q = .inl q1 ∧ ∃ q2, zz_exec ms nm df x m i l' st h = some (.inl q2) ∧ q2.1 = q1.1 ∧ q2.2.2 = q1.2.2 ∧ zz_le q1.2.1 q2.2.1 ∧ zz_nd q1.2.1) ∨ (∃ q1, q = .inr q1 ∧ zz_exec ms nm df x m i l' st h = some q) := by
        intro q hq
        unfold zz_exec at hq ⊢
        split at hq
        · obtain ⟨t, h1, h2⟩ := Option.map_eq_some_iff.mp hq
          obtain ⟨t', g1, g2, g3, g4, g5⟩ := zz_A_le hl hn h1
          refine Or.inl ⟨_, h2.symm, (t'.1, t'.2.1, t'.2.2, h), ?_, g2, ?_, g4, g5⟩
          · rw [g1]; rfl
          · show (t'.2.2, h) = (t.2.2, h); rw [g3]
        · obtain ⟨t, h1, h2⟩ := Option.map_eq_some_iff.mp hq
          exact Or.inl ⟨_, h2.symm, (i.1 + i.2.2.1, l', t, h), by rw [h1]; rfl, rfl, rfl, hl, hn⟩
        · obtain ⟨t, h1, h2⟩ := Option.map_eq_some_iff.mp hq
          exact Or.inl ⟨_, h2.symm, (i.1 + i.2.2.1, l', t.1, zz_put h t.2.1 t.2.2), by rw [h1]; rfl, rfl, rfl, hl, hn⟩
        · split at hq
          · next hc =>
            obtain ⟨t, h1, h2⟩ := Option.map_eq_some_iff.mp hq
            exact Or.inl ⟨_, h2.symm, (i.1 + i.2.2.1, l', .ref h.1 :: t.1, zz_add h t.2.1 t.2.2), by rw [if_pos hc, h1]; rfl, rfl, rfl, hl, hn⟩
          · cases hq
        · obtain ⟨t, h1, h2⟩ := Option.map_eq_some_iff.mp hq
          exact Or.inr ⟨_, h2.symm, by rw [h1, ← h2]; rfl⟩
        · split at hq
          · next c hc =>
            obtain ⟨t, h1, h2⟩ := Option.map_eq_some_iff.mp hq
            exact Or.inr ⟨_, h2.symm, by rw [h1, ← h2]; rfl⟩
          · cases hq
        · obtain ⟨t, h1, h2⟩ := Option.map_eq_some_iff.mp hq
          exact Or.inl ⟨_, h2.symm, (i.1 + i.2.2.1, l', t, h), by rw [h1]; rfl, rfl, rfl, hl, hn⟩
        · split at hq
          · split at hq
            · next hc => cases hq; exact Or.inl ⟨_, rfl, (i.1 + i.2.2.1, l', _, h), by rw [if_pos hc], rfl, rfl, hl, hn⟩
            · cases hq
          · cases hq
      cases he : zz_exec ms nm df x m i l st h with
      | none => rw [he] at hz; cases hz
      | some q =>
        rw [he] at hz
        rcases key q he with ⟨q1, rfl, q2, h1, h2, h3, h4, h5⟩ | ⟨q1, rfl, h1⟩
        · rw [h1]
          dsimp only at hz ⊢
          rw [h2, h3]
          exact ih _ _ _ _ _ _ _ _ h4 h5 hz
        · rw [h1]
          cases q1 with
          | inl q3 => exact hz
          | inr q3 =>
            dsimp only at hz ⊢
            cases d with
            | zero => cases hz
            | succ d1 =>
              dsimp only at hz ⊢
              cases hr : zz_run ms nm df x d1 f q3.1 0 (lv_args 0 q3.2.1) [] h with
              | none => rw [hr] at hz; cases hz
              | some w1 =>
                rw [hr] at hz
                exact ih _ _ _ _ _ _ _ _ hl hn hz
theorem zz_nd_of {l : ZL} {ks : List Nat} (h : l.map (fun q => q.1) = ks) (hd : ks.Nodup) : zz_nd l := by unfold zz_nd; rw [h]; exact hd
theorem j_norm {d : Nat} {m : ZM} {pc : Nat} {l l' : ZL} {st : List Value} {h : ZH} {Q : Option Value → ZH → Prop} (hs : zz_sub l l') (hn : zz_nd l) (k : zz_wp ms nm df x d m pc l st h Q) : zz_wp ms nm df x d m pc l' st h Q := by
  obtain ⟨f, r, h', h1, h2⟩ := k
  exact ⟨f, r, h', zz_run_le _ _ _ _ _ _ _ _ _ hs.le hn h1, h2⟩
end ZK
