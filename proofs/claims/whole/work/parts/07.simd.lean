/-! Instructions that write the heap. -/
section ZD
variable {p : Program} {l : Launch} {e : Env} {R : Room} {s : State} {m : MethodId} {args : Array Value} {below : List Frame} {meth : Method} {c : Code} {H : Heap} {locs : List Loc} {cells slots : Nat} {Q : State → Prop}
variable {cc : ByteArray} {b : Nat} {sp : Nat → Value} {Ts : List Jvm.Cond} {D : va_G} {cl : List vw_C} {cA : FieldType → ClassId} {U : List FieldType} {SL : List (String × Nat × String × Nat)} {GL : List (String × String × String × Value)} {OL : ZO} {x : Nat → ZE} {A : Nat → Prop} {df : Nat → List Value} {ms : List ZM} {y : MethodName} {nL pc len aux : Nat} {cv : Value} {ins : Instr} {h : ZH} {nm : Nat → Option String}
theorem zz_P_put {H1 : Heap} {a : Nat} {en : ZE} (hP : zz_P D cl U b sp cA h H) (ha : a < h.1) (hsz : H1.size = H.size) (oth : ∀ q : Nat, q ≠ b + a → H1[q]? = H[q]?) (hat : va_at D cl (b + a, zz_e b sp cA en) H1) (hty : ∀ ty arr, en = .inl (ty, arr) → ty ∈ U) : zz_P D cl U b sp cA (zz_put h a en) H1 := by
  obtain ⟨h1, h2, h3, h4, h5⟩ := hP
  refine ⟨hsz.trans h1, h2, fun k hk => ?_, fun k hk => ?_, fun k ty arr he => ?_⟩
  · by_cases hka : k = a
    · subst hka
      simp only [zz_put, va_up_self]
      exact hat
    · simp only [zz_put, va_up_ne _ _ hka]
      exact (h3 k hk).kept (oth (b + k) (by omega))
  · have hka : k ≠ a := by
      intro q
      subst q
      exact absurd ha (Nat.not_lt.mpr hk)
    simp only [zz_put, va_up_ne _ _ hka]
    exact h4 k hk
  · by_cases hka : k = a
    · subst hka
      simp only [zz_put, va_up_self] at he
      exact hty ty arr he
    · simp only [zz_put, va_up_ne _ _ hka] at he
      exact h5 k ty arr he
theorem zz_fits (hr : zz_rf sp) {ty : FieldType} {v : Value} (hk : match ty with
    | .int => cv = .int 0
    | .boolean => cv = .int 1
    | .long => ∃ z, cv = .long z
    | .object _ => cv = .null
    | .array _ => cv = .null
    | _ => False) (hf : zz_fit cv v = true) : narrow ty (zz_v b sp v) = zz_v b sp v ∧ fits ty (zz_v b sp v) = true := by
  have href : ∀ k, (narrow ty (zz_v b sp (.ref k)) = zz_v b sp (.ref k) ∨ True) := fun _ => Or.inr trivial
  cases ty with
  | int =>
    subst hk
    cases v <;> first | exact ⟨rfl, rfl⟩ | (simp [zz_fit] at hf; done)
  | boolean =>
    subst hk
    cases v with
    | int z =>
      simp only [zz_fit] at hf
      have hz : z = 0 ∨ z = 1 := by
        have h1 : ((1 : Int32) == 0) = false := by decide
        simp only [h1, Bool.false_or, beq_self_eq_true, Bool.true_and, Bool.or_eq_true, beq_iff_eq] at hf
        exact hf
      rcases hz with rfl | rfl
      · exact ⟨rfl, rfl⟩
      · exact ⟨rfl, rfl⟩
    | _ => simp [zz_fit] at hf
  | long =>
    obtain ⟨z, rfl⟩ := hk
    cases v <;> first | exact ⟨rfl, rfl⟩ | (simp [zz_fit] at hf; done)
  | object C =>
    subst hk
    cases v with
    | ref k => rcases zz_v_isref (b := b) hr k with q | ⟨a, q⟩ <;> rw [q] <;> exact ⟨rfl, rfl⟩
    | null => exact ⟨rfl, rfl⟩
    | _ => simp [zz_fit] at hf
  | array t =>
    subst hk
    cases v with
    | ref k => rcases zz_v_isref (b := b) hr k with q | ⟨a, q⟩ <;> rw [q] <;> exact ⟨rfl, rfl⟩
    | null => exact ⟨rfl, rfl⟩
    | _ => simp [zz_fit] at hf
  | _ => exact hk.elim
theorem zz_putf (hexec : p.tables.exec = Jvm.exec) (hb : c.code = cc) (hr : zz_rf sp) (hA : ∀ q, b ≤ q → A q) (hown : s.vm.findClass y.cls = some m.cls) (hts : ∀ w ∈ Ts, w.before args s = true) (hK : va_K D cl (U.map fun ty => (cA ty, ty)) s) (hO : ∀ q ∈ OL.2, va_Nw (.fieldLinkNest q.1 q.2.1 q.2.2.1 q.2.2.2.1 q.2.2.2.2.1 q.2.2.2.2.2) s) (hS : va_S A s.heap H locs) (hP : zz_P D cl U b sp cA h H) (hnm : y.name = "<init>" → meth.name = "<init>")
    {idx a ci : Nat} {fs : List Value} {v : Value} {la : Array Slot} {r : List Value} (hlk : h.2.2 a = .inr (ci, fs)) (hci : ci = aux / 100) (hlen : aux % 100 < fs.length) (hf : zz_fit cv v = true) (hd : decode cc pc = .ok (.putfield idx, 3)) (hok : zz_okP Ts cl OL y idx aux cv)
    (k : ∀ (H1 : Heap) (locs1 : List Loc), zz_P D cl U b sp cA (zz_put h a (.inr (ci, fs.set (aux % 100) v))) H1 → va_S A s.heap H1 locs1 → W p l e R s m args below meth c H1 locs1 cells slots Q (F0 m (pc + 3) la (zz_st b sp r))) : W p l e R s m args below meth c H locs cells slots Q (F0 m pc la (zz_st b sp (v :: .ref a :: r))) := by
  have hj : (Sum.inr (ci, fs) : ZE) ≠ zz_junk := by
    intro q
    cases q
    exact absurd hlen (Nat.not_lt_zero _)
  obtain ⟨ha, ha2, hat⟩ := zz_atN hP hlk hj
  obtain ⟨C, T, N, ty, h1, h2, h3, h4, h5, h6, h7⟩ := hok
  rw [← hci] at h1
  obtain ⟨hn, hfit⟩ := zz_fits (b := b) hr h6 hf
  rw [show zz_st b sp (v :: .ref a :: r) = zz_v b sp v :: zz_v b sp (.ref a) :: zz_st b sp r from rfl, zz_v_ref ha2]
  have hap := va_apart (own := y.cls) hts h3 ty h4 h5 hK h1
  obtain ⟨r', e1, cell, q1, q2, q3, q4⟩ := hat
  have hr' : r' = (C, T, N) := Option.some.inj (e1.symm.trans h1)
  subst hr'
  obtain ⟨hSl, hfc, kC, hkC, hkind⟩ := hK.1 ci _ h1
  obtain ⟨cf, kf, fi, f, hi, hsl⟩ := hSl _ h2
  have hst := (u_facts hfc hkC (u_lays hts h3 h2) hi).1
  have hlt : f.slot < cell.slots.size := by rw [hsl]; exact k2_hasslot (q4 _ h2)
  have fin : ∀ H1 : Heap, H1[b + a]? = some (cell.setSlot f.slot (zz_v b sp v)) → H1.size = H.size → (∀ q, q ≠ b + a → H1[q]? = H[q]?) → W p l e R s m args below meth c H1 (locs ++ [⟨b + a, f.slot⟩]) cells slots Q (F0 m (pc + 3) la (zz_st b sp r)) := by
    intro H1 e1 e2 e3
    refine k H1 _ (zz_P_put hP ha e2 e3 ?_ (fun _ _ q => by cases q)) (hS.put e2 e3 (hA _ (Nat.le_add_right b a)))
    rw [hsl] at e1
    refine ⟨_, h1, t_OB.to (V := updV (vp_V (fs.map (zz_v b sp))) (aux % 100) (zz_v b sp v)) ⟨_, e1, q2, q3, t_set q4 hap h2 (zz_v b sp v)⟩ (fun j _ => ?_)⟩
    rw [vp_updV_set (by rw [List.length_map]; exact hlen), ← List.map_set]
  have hfin : (T (aux % 100)).2.2.2 = false → k2_Sd s f cell.cls (zz_v b sp v) := by
    intro hff
    have hlay := hts _ (h3 _ (u_in_lay h2))
    unfold u_lay at hlay
    rw [if_neg (by rw [hff]; decide)] at hlay
    rw [q2]
    exact u_store hfc hkC hkind hlay hi (h4 _ h2) hn hfit
  rcases h7 with ⟨h7, h8 | ⟨h8, h9, h10⟩⟩ | ⟨host, h7, h8⟩
  · exact W.putK hexec hb (f := f) ⟨hown, hts _ h7, ⟨_, _, _, hi⟩, hst⟩ (hfin h8) q1 q3 hlt rfl rfl hd fin
  · have hlay := hts _ (h3 _ (u_in_lay h2))
    unfold u_lay at hlay
    rw [if_pos h8] at hlay
    have hcf : m.cls = cf := by
      obtain ⟨_, _, c', _, _, _, -, -, hf', -, -, -, hown2, -⟩ := Cond.laysFinal_spec hlay
      have e1 : c' = cf := by have := hi.symm.trans hf'; simp at this; exact this.1.symm
      rw [h10] at hown2
      rw [← e1]; exact Option.some.inj (hown.symm.trans hown2)
    have h6' := u_fits hfc hkC hkind (Or.inr hlay) hi (h4 _ h2) hn hfit
    exact W.putFinK hexec hb hown (hts _ h7) hi hst hcf (hnm h9) (by rw [q2]; exact h6') q1 q3 hlt rfl rfl hd fin
  · exact va_WputK hexec hb hown (va_Nw.use rfl (hO _ h7)) hi hst (hfin h8) q1 q3 hlt rfl rfl hd fin
theorem zz_arrW (hP : zz_P D cl U b sp cA h H) (hS : va_S A s.heap H locs) (hA : ∀ q, b ≤ q → A q) {a : Nat} {en en' : ZE} {cell : Cell} {sl : Nat} {g2 : JFrame} (ha : a < h.1) (hat' : ∀ H1 : Heap, H1[b + a]? = some cell → va_at D cl (b + a, zz_e b sp cA en') H1) (hty : ∀ ty arr, en' = .inl (ty, arr) → ty ∈ U)
    (k : ∀ (H1 : Heap) (locs1 : List Loc), zz_P D cl U b sp cA (zz_put h a en') H1 → va_S A s.heap H1 locs1 → W p l e R s m args below meth c H1 locs1 cells slots Q g2) :
    ∀ H1 : Heap, H1[b + a]? = some cell → H1.size = H.size → (∀ q, q ≠ b + a → H1[q]? = H[q]?) → W p l e R s m args below meth c H1 (locs ++ [⟨b + a, sl⟩]) cells slots Q g2 :=
  fun H1 e1 e2 e3 => k H1 _ (zz_P_put hP ha e2 e3 (hat' H1 e1) hty) (hS.put e2 e3 (hA _ (Nat.le_add_right b a)))
/-- System.arraycopy between int arrays: one cell changes -/
theorem zz_copyi (hexec : p.tables.exec = Jvm.exec) (hb : c.code = cc) {la : Array Slot} (hml : c.maxLocals = la.size) {own : String} {idx : Nat} (hown : s.vm.findClass own = some m.cls) (hlink : (Cond.methodLink own idx arraycopyName).before args s = true) (hnat : (Cond.native arraycopyName).before args s = true) (hstat : (Cond.static arraycopyName).before args s = true) (hini : (Cond.initialized "java/lang/System").before args s = true)
    {a0 a : Nat} {c0 c1 : ClassId} {n0 n1 : Nat} {f g : Nat → Int32} {rest : List Value} (hc0 : H[a0]? = some (vp_cell c0 (n0, .inl f))) (hc1 : H[a]? = some (vp_cell c1 (n1, .inl g))) (ht0 : ArrOfT s c0 .int) (ht1 : ArrOfT s c1 .int)
    {i0 i1 n : Int32} (h1 : ¬ i0 < 0) (h2 : ¬ i1 < 0) (h3 : ¬ n < 0) (h4 : i0.toNatClampNeg + n.toNatClampNeg ≤ n0) (h5 : i1.toNatClampNeg + n.toNatClampNeg ≤ n1)
    (hframes : 1 ≤ R.frames) (hlocals : (rest.map fun v => v.category).sum + (nativeFrameWords "java/lang/System" "arraycopy" 5 + 11) ≤ R.locals) (hdg : decode cc pc = .ok (.invokestatic idx, 3))
    (kk : ∀ (H1 : Heap) (locs1 : List Loc), H1[a]? = some (vp_cell c1 (n1, .inl (va_cpy f g i0.toNatClampNeg i1.toNatClampNeg n.toNatClampNeg))) → H1.size = H.size → (∀ q : Nat, q ≠ a → H1[q]? = H[q]?) → (∀ q ∈ locs1, q ∈ locs ∨ q.base = a) → W p l e R s m args below meth c H1 locs1 cells slots Q (F0 m (pc + 3) la rest)) : W p l e R s m args below meth c H locs cells slots Q (F0 m pc la (.int n :: .int i1 :: .ref a :: .int i0 :: .ref a0 :: rest)) := by
  have nn : ∀ z : Int32, ¬ z < 0 → z.toInt = (z.toNatClampNeg : Int) := by
    intro z hz
    have hz0 : (0 : Int) ≤ z.toInt := by
      have := Int32.not_lt.mp hz
      simpa using Int32.le_iff_toInt_le.mp this
    show z.toInt = ((z.toInt.toNat : Nat) : Int)
    omega
  intro T hT X
  obtain ⟨-, k0, hk0, cm0, hkk0⟩ := ht0 n0 (fun j => .int (f j))
  obtain ⟨-, k1, hk1, cm1, hkk1⟩ := ht1 n1 (fun j => .int (g j))
  obtain ⟨vm', X', step⟩ := X.arraycopy hexec hown hlink hnat hstat hini (src := a0) (dst := a) (cs := vp_cell c0 (n0, .inl f)) (cd := vp_cell c1 (n1, .inl g)) (srcPos := i0) (destPos := i1) (n := n) (by rw [hT]; exact hc0) (by rw [hT]; exact hc1)
    (fun _ h => by cases h) (fun _ h => by cases h) (fun h => by cases h) (fun h => by cases h) hk0 hk1 hkk0 hkk1 (by decide) h1 h2 h3
    (by rw [nn i0 h1, nn n h3]; show ¬ _ > ((arrV c0 n0 (fun j => .int (f j))).slots.size : Int); rw [arrV_size]; omega)
    (by rw [nn i1 h2, nn n h3]; show ¬ _ > ((arrV c1 n1 (fun j => .int (g j))).slots.size : Int); rw [arrV_size]; omega)
    (fun vm₁ _ i hi => by
      have e : (vp_cell c0 (n0, .inl f)).slots.getD (i0.toNatClampNeg + i) .null = .int (f (i0.toNatClampNeg + i)) := by
        show (arrV c0 n0 (fun j => .int (f j))).slots.getD _ _ = _
        rw [Array.getD_eq_getD_getElem?, arrV_read _ _ (by omega)]
        rfl
      refine ⟨?_, ?_⟩
      · rw [e]
        rfl
      · rw [e]
        exact trivial)
    (g := F0 m pc la (.int n :: .int i1 :: .ref a :: .int i0 :: .ref a0 :: rest)) rfl (by rw [hml]) (rest := rest) rfl (by rw [hb]; exact hdg) hframes (by show 2 * 0 + _ + _ ≤ _; omega)
  have e1 : copied (vp_cell c0 (n0, .inl f)) (vp_cell c1 (n1, .inl g)) i0 i1 n = vp_cell c1 (n1, .inl (va_cpy f g i0.toNatClampNeg i1.toNatClampNeg n.toNatClampNeg)) := va_copied (fun z => .int z) c0 c1 f g h4
  rw [e1] at X' step
  have hl : a < H.size := (Array.getElem?_eq_some_iff.mp hc1).1
  have hheap : ((T.setVm vm').setCell a (vp_cell c1 (n1, .inl (va_cpy f g i0.toNatClampNeg i1.toNatClampNeg n.toNatClampNeg)))).heap = H.setIfInBounds a (vp_cell c1 (n1, .inl (va_cpy f g i0.toNatClampNeg i1.toNatClampNeg n.toNatClampNeg))) := by rw [← hT]; rfl
  obtain ⟨t, a1, b1⟩ := kk _ _ (show (H.setIfInBounds a _)[a]? = some _ by simp [Array.getElem?_setIfInBounds, hl]) (by simp) (fun q hq => by simp [Array.getElem?_setIfInBounds, Ne.symm hq]) (fun q hq => by
      rcases List.mem_append.mp hq with h | h
      · exact Or.inl h
      · obtain ⟨z, -, hz⟩ := List.mem_map.mp h
        rw [← hz]
        exact Or.inr rfl) _ hheap X'
  exact ⟨t, step t a1, b1⟩
theorem zz_simC (hexec : p.tables.exec = Jvm.exec) (hb : c.code = cc) (hr : zz_rf sp) (hcl : cl.length ≤ 50) (hA : ∀ q, b ≤ q → A q) (hnmc : ∀ ci C, nm ci = some C → ∃ T N, cl[ci]? = some (C, T, N)) (hown : s.vm.findClass y.cls = some m.cls) (hts : ∀ w ∈ Ts, w.before args s = true) (hK : va_K D cl (U.map fun ty => (cA ty, ty)) s) (hO : ∀ q ∈ OL.2, va_Nw (.fieldLinkNest q.1 q.2.1 q.2.2.1 q.2.2.2.1 q.2.2.2.2.1 q.2.2.2.2.2) s) (hS : va_S A s.heap H locs) (hP : zz_P D cl U b sp cA h H) (hnm : y.name = "<init>" → meth.name = "<init>")
    {a : Nat} {en : ZE} {la : Array Slot} {st r : List Value} (hfr : 1 ≤ R.frames) (hlo : 60 ≤ R.locals) (hml : c.maxLocals = la.size) (hnk : zz_kind ins aux = 2) (hz : zz_C nm h ins aux cv st = some (r, a, en)) (hd : decode cc pc = .ok (ins, len)) (hok : zz_okI Ts cl SL GL OL df ms y nL pc ins len aux cv)
    (k : ∀ (H1 : Heap) (locs1 : List Loc), zz_P D cl U b sp cA (zz_put h a en) H1 → va_S A s.heap H1 locs1 → W p l e R s m args below meth c H1 locs1 cells slots Q (F0 m (pc + len) la (zz_st b sp r))) : W p l e R s m args below meth c H locs cells slots Q (F0 m pc la (zz_st b sp st)) := by
  unfold zz_C at hz
  split at hz
  · obtain ⟨rfl, hok⟩ := hok
    split at hz
    · next v a' r' =>
      split at hz
      · next ci fs hlk =>
        split at hz
        · next hc =>
          cases hz
          exact zz_putf hexec hb hr hA hown hts hK hO hS hP hnm hlk hc.1 hc.2.1 hc.2.2 hd hok k
        · cases hz
      · cases hz
    · cases hz
  · obtain rfl := hok
    split at hz
    · next v i a' r' =>
      split at hz
      · next ty n f hlk =>
        split at hz
        · next hc =>
          cases hz
          obtain ⟨rfl, hi⟩ := hc
          obtain ⟨ha, ha2, hat⟩ := zz_atN hP hlk (by intro q; cases q)
          have hu := hP.2.2.2.2 a _ _ hlk
          obtain ⟨t0, ht⟩ := zz_tys (cA := cA) hu
          rw [show zz_st b sp (.int v :: .int i :: .ref a :: r) = .int v :: .int i :: zz_v b sp (.ref a) :: zz_st b sp r from rfl, zz_v_ref ha2]
          refine W.iast hexec hb hat ((hK.2 t0 _ ht).1 n (fun j => .int (f j))) (fun q => by cases q) (by show ¬ (i < 0 ∨ (arrV _ _ _).slots.size ≤ _); rw [arrV_size]; exact zz_inn hi) rfl rfl hd (zz_arrW hP hS hA (en := .inl (.int, n, .inl f)) ha (fun H1 e1 => ?_) (fun ty arr q => by cases q; exact hu) k)
          show H1[b + a]? = some (vp_cell _ _)
          rw [e1]
          show some ((vp_cell _ (n, .inl f)).setSlot _ _) = _
          rw [vp_cell_i, vp_cell_i, arrV_store]
          congr 2
          funext q
          by_cases hq : q = i.toNatClampNeg
          · subst hq; simp [updV, upd]
          · simp [updV, upd, hq]
        · cases hz
      · cases hz
    · cases hz
  · obtain rfl := hok
    split at hz
    · next v i a' r' =>
      split at hz
      · next ty n f hlk =>
        split at hz
        · next hc =>
          cases hz
          obtain ⟨hty, hi⟩ := hc
          obtain ⟨ha, ha2, hat⟩ := zz_atN hP hlk (by intro q; cases q)
          have hu := hP.2.2.2.2 a _ _ hlk
          obtain ⟨t0, ht⟩ := zz_tys (cA := cA) hu
          rw [show zz_st b sp (.int v :: .int i :: .ref a :: r) = .int v :: .int i :: zz_v b sp (.ref a) :: zz_st b sp r from rfl, zz_v_ref ha2]
          rcases hty with rfl | rfl
          · refine W.bast hexec hb hat ((hK.2 t0 _ ht).1 n (fun j => .int (f j))) (fun q => by cases q) (by show ¬ (i < 0 ∨ (arrV _ _ _).slots.size ≤ _); rw [arrV_size]; exact zz_inn hi) rfl rfl hd (zz_arrW hP hS hA (en := .inl (.byte, n, .inl f)) ha (fun H1 e1 => ?_) (fun ty arr q => by cases q; exact hu) k)
            show H1[b + a]? = some (vp_cell _ _)
            rw [e1]
            show some ((vp_cell _ (n, .inl f)).setSlot _ _) = _
            rw [vp_cell_i, vp_cell_i, arrV_store]
            congr 2
            funext q
            by_cases hq : q = i.toNatClampNeg
            · subst hq; simp [updV, upd, vp_nar]; try rfl
            · simp [updV, upd, hq]
          · refine W.zast hexec hb hat ((hK.2 t0 _ ht).1 n (fun j => .int (f j))) (fun q => by cases q) (by show ¬ (i < 0 ∨ (arrV _ _ _).slots.size ≤ _); rw [arrV_size]; exact zz_inn hi) rfl rfl hd (zz_arrW hP hS hA (en := .inl (.boolean, n, .inl f)) ha (fun H1 e1 => ?_) (fun ty arr q => by cases q; exact hu) k)
            show H1[b + a]? = some (vp_cell _ _)
            rw [e1]
            show some ((vp_cell _ (n, .inl f)).setSlot _ _) = _
            rw [vp_cell_i, vp_cell_i, arrV_store]
            congr 2
            funext q
            by_cases hq : q = i.toNatClampNeg
            · subst hq; simp [updV, upd, vp_nar]; try rfl
            · simp [updV, upd, hq]
        · cases hz
      · cases hz
    · cases hz
  · obtain rfl := hok
    split at hz
    · next v i a' r' =>
      split at hz
      · next ty n f hlk =>
        split at hz
        · next hc =>
          cases hz
          obtain ⟨rfl, hi⟩ := hc
          obtain ⟨ha, ha2, hat⟩ := zz_atN hP hlk (by intro q; cases q)
          have hu := hP.2.2.2.2 a _ _ hlk
          obtain ⟨t0, ht⟩ := zz_tys (cA := cA) hu
          rw [show zz_st b sp (.long v :: .int i :: .ref a :: r) = .long v :: .int i :: zz_v b sp (.ref a) :: zz_st b sp r from rfl, zz_v_ref ha2]
          refine W.last hexec hb hat ((hK.2 t0 _ ht).1 n (fun j => .long (f j))) (fun q => by cases q) (by show ¬ (i < 0 ∨ (arrV _ _ _).slots.size ≤ _); rw [arrV_size]; exact zz_inn hi) rfl rfl hd (zz_arrW hP hS hA (en := .inl (.long, n, .inr (.inl f))) ha (fun H1 e1 => ?_) (fun ty arr q => by cases q; exact hu) k)
          show H1[b + a]? = some (vp_cell _ _)
          rw [e1]
          show some ((vp_cell _ (n, .inr (.inl f))).setSlot _ _) = _
          rw [vp_cell_l, vp_cell_l, arrV_store]
          congr 2
          funext q
          by_cases hq : q = i.toNatClampNeg
          · subst hq; simp [updV, vp_updL]
          · simp [updV, vp_updL, hq]
        · cases hz
      · cases hz
    · cases hz
  · obtain rfl := hok
    split at hz
    · next v i a' r' =>
      split at hz
      · next C n f ci fs hlk hlv =>
        split at hz
        · next hc =>
          cases hz
          obtain ⟨hnc, hi0, hi1, hv6⟩ := hc
          obtain ⟨ha, ha2, hat⟩ := zz_atN hP hlk (by intro q; cases q)
          obtain ⟨T, N, hcl2⟩ := hnmc ci C hnc
          have hjv : (Sum.inr (ci, fs) : ZE) ≠ zz_junk := by
            intro q
            cases q
            have := (List.getElem?_eq_some_iff.mp hcl2).1
            omega
          obtain ⟨hav, hav2, hatv⟩ := zz_atN hP hlv hjv
          have hu := hP.2.2.2.2 a _ _ hlk
          obtain ⟨t0, ht⟩ := zz_tys (cA := cA) hu
          rw [show zz_st b sp (.ref v :: .int i :: .ref a :: r) = zz_v b sp (.ref v) :: .int i :: zz_v b sp (.ref a) :: zz_st b sp r from rfl, zz_v_ref ha2, zz_v_ref hav2]
          obtain ⟨r2, hr2, cellV, g1, g2, g3, -⟩ := hatv
          have hcls := (hK.1 ci _ hcl2).2
          obtain ⟨kA, comp, k1, k2, k3, -⟩ := (hK.2 t0 _ ht).2
          have hcomp : comp = D.1 ci := Option.some.inj (k3.symm.trans hcls.1)
          subst hcomp
          obtain ⟨kC, hkC, -⟩ := hcls.2
          have hlt : i.toNatClampNeg < n := hi1
          refine W.aast hexec hb hat (fun q h => by cases h) (fun h => by cases h) k1 k2 rfl hkC ⟨Int32.not_lt.mpr hi0, by show _ < (arrV _ _ _).slots.size; rw [arrV_size]; exact hlt⟩ g1 (fun q h => by rw [g3] at h; cases h) (by rw [g2]; exact hkC) (by rw [g2]; exact va_assign hcls) rfl rfl hd (zz_arrW hP hS hA (en := .inl (.object C, n, .inr (.inr (.inr (.inr f))))) ha (fun H1 e1 => ?_) (fun ty arr q => by cases q; exact hu) k)
          show H1[b + a]? = some (vp_cell _ _)
          rw [e1]
          show some ((vp_cell _ (n, .inr (.inr (.inr (.inr (fun j => (f j).map (fun k => b + k))))))).setSlot _ _) = _
          rw [vp_cell_q, vp_cell_q, arrV_store]
          congr 2
          funext q
          by_cases hq : q = i.toNatClampNeg
          · subst hq; simp [updV, va_up, va_rf]
          · simp [updV, va_up, hq]
        · cases hz
      · cases hz
    · cases hz
  · obtain ⟨rfl, hok⟩ := hok
    have haux : aux = 9998 := by
      simp only [zz_kind] at hnk
      split at hnk
      · assumption
      · split at hnk <;> cases hnk
    rw [if_pos haux] at hok
    obtain ⟨w1, w2, w3, w4⟩ := hok
    split at hz
    · next n i1 a' i0 a0 r' =>
      split at hz
      · next t0 n0 f t1 n1 g hlk0 hlk1 =>
        split at hz
        · next hc =>
          cases hz
          obtain ⟨rfl, rfl, h1, h2, h3, h4, h5, h6⟩ := hc
          obtain ⟨ha0, ha02, hat0⟩ := zz_atN hP hlk0 (by intro q; cases q)
          obtain ⟨ha, ha2, hat⟩ := zz_atN hP hlk1 (by intro q; cases q)
          have hu := hP.2.2.2.2 a _ _ hlk1
          obtain ⟨t0, ht⟩ := zz_tys (cA := cA) hu
          rw [show zz_st b sp (.int n :: .int i1 :: .ref a :: .int i0 :: .ref a0 :: r) = .int n :: .int i1 :: zz_v b sp (.ref a) :: .int i0 :: zz_v b sp (.ref a0) :: zz_st b sp r from rfl, zz_v_ref ha2, zz_v_ref ha02]
          have hcr : ((zz_st b sp r).map fun v => v.category).sum ≤ 8 := by rw [zz_cats_map hr]; exact h6
          have hnw : nativeFrameWords "java/lang/System" "arraycopy" 5 + 11 ≤ 40 := by decide +kernel
          refine zz_copyi hexec hb hml hown (hts _ w1) (hts _ w2) (hts _ w3) (hts _ w4) hat0 hat (hK.2 t0 _ ht).1 (hK.2 t0 _ ht).1 h1 h2 h3 h4 h5 hfr (by omega) hd (fun H1 locs1 e1 e2 e3 e4 => ?_)
          refine k H1 locs1 (zz_P_put hP ha e2 e3 e1 (fun ty arr q => by cases q; exact hu)) ⟨by rw [e2]; exact hS.1, fun q q1 q2 => ?_, fun q hq => ?_⟩
          · rw [e3 q (fun z => q2 (by rw [z]; exact hA _ (Nat.le_add_right b a)))]
            exact hS.2.1 q q1 q2
          · rcases e4 q hq with z | z
            · exact hS.2.2 q z
            · rw [z]; exact hA _ (Nat.le_add_right b a)
        · cases hz
      · cases hz
    · cases hz
  · cases hz
end ZD
