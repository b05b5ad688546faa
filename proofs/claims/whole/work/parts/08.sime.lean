/-! Instructions that make cells; ends of methods. -/
section ZE
variable {p : Program} {l : Launch} {e : Env} {R : Room} {s : State} {m : MethodId} {args : Array Value} {below : List Frame} {meth : Method} {c : Code} {H : Heap} {locs : List Loc} {cells slots : Nat} {Q : State → Prop}
variable {cc : ByteArray} {b : Nat} {sp : Nat → Value} {Ts : List Jvm.Cond} {D : va_G} {cl : List vw_C} {cA : FieldType → ClassId} {U : List FieldType} {SL : List (String × Nat × String × Nat)} {GL : List (String × String × String × Value)} {OL : ZO} {x : Nat → ZE} {A : Nat → Prop} {df : Nat → List Value} {ms : List ZM} {y : MethodName} {nL pc len aux : Nat} {cv : Value} {ins : Instr} {h : ZH} {nm : Nat → Option String}
theorem zz_P_add {H1 : Heap} {n : Nat} {en : ZE} (hP : zz_P D cl U b sp cA h H) (hlt : h.1 < 900000) (hsz : H1.size = b + h.1 + 1) (oth : ∀ q : Nat, q < b + h.1 → H1[q]? = H[q]?) (hat : va_at D cl (b + h.1, zz_e b sp cA en) H1) (hty : ∀ ty arr, en = .inl (ty, arr) → ty ∈ U) : zz_P D cl U b sp cA (zz_add h n en) H1 := by
  obtain ⟨h1, h2, h3, h4, h5⟩ := hP
  refine ⟨by show _ = b + (h.1 + 1); omega, by show h.1 + 1 ≤ 1000000; omega, fun k hk => ?_, fun k hk => ?_, fun k ty arr he => ?_⟩
  · by_cases hka : k = h.1
    · subst hka
      simp only [zz_add, va_up_self]
      exact hat
    · simp only [zz_add, va_up_ne _ _ hka]
      have hk' : k < h.1 := by
        have : k < h.1 + 1 := hk
        omega
      exact (h3 k hk').kept (oth (b + k) (by omega))
  · have hk' : h.1 + 1 ≤ k := hk
    have hka : k ≠ h.1 := by omega
    simp only [zz_add, va_up_ne _ _ hka]
    exact h4 k (by omega)
  · by_cases hka : k = h.1
    · subst hka
      simp only [zz_add, va_up_self] at he
      exact hty ty arr he
    · simp only [zz_add, va_up_ne _ _ hka] at he
      exact h5 k ty arr he
theorem zz_S_add {H1 : Heap} (hP : zz_P D cl U b sp cA h H) (hS : va_S A s.heap H locs) (hsz : H1.size = b + h.1 + 1) (oth : ∀ q : Nat, q < b + h.1 → H1[q]? = H[q]?) : va_S A s.heap H1 locs :=
  ⟨Nat.le_trans hS.1 (by rw [hP.1, hsz]; omega), fun q q1 q2 => (oth q (by rw [← hP.1]; exact Nat.lt_of_lt_of_le q1 hS.1)).trans (hS.2.1 q q1 q2), hS.2.2⟩
theorem zz_map_id {fs : List Value} (hn : ∀ v ∈ fs, ∀ k, v ≠ .ref k) : fs.map (zz_v b sp) = fs := by
  conv => rhs; rw [← List.map_id fs]
  apply List.map_congr_left
  intro v hv
  cases v with
  | ref k => exact absurd rfl (hn _ hv k)
  | _ => rfl
theorem zz_simD (hexec : p.tables.exec = Jvm.exec) (hb : c.code = cc) (hUt : FieldType.int ∈ U ∧ FieldType.long ∈ U ∧ FieldType.byte ∈ U ∧ FieldType.boolean ∈ U ∧ ∀ C ∈ OL.1, FieldType.object C ∈ U) (hnmc : ∀ ci C T N, cl[ci]? = some (C, T, N) → nm ci = some C) (hown : s.vm.findClass y.cls = some m.cls) (hts : ∀ w ∈ Ts, w.before args s = true) (hV : zz_V D cl cA U SL GL OL x b sp A s) (hS : va_S A s.heap H locs) (hP : zz_P D cl U b sp cA h H) (hlt : h.1 < 900000)
    {sl : Nat} {en : ZE} {la : Array Slot} {st r : List Value} (hz : zz_D nm df ins aux st = some (r, sl, en)) (hd : decode cc pc = .ok (ins, len)) (hok : zz_okI Ts cl SL GL OL df ms y nL pc ins len aux cv) (hcells : cells + 1 ≤ R.cells) (hslots : slots + sl ≤ R.slots)
    (k : ∀ (H1 : Heap), zz_P D cl U b sp cA (zz_add h sl en) H1 → va_S A s.heap H1 locs → W p l e R s m args below meth c H1 locs (cells + 1) (slots + sl) Q (F0 m (pc + len) la (zz_st b sp (.ref h.1 :: r)))) : W p l e R s m args below meth c H locs cells slots Q (F0 m pc la (zz_st b sp st)) := by
  obtain ⟨hK, -, -, hO, -⟩ := hV
  have hcap : h.1 < 1000000 := by omega
  have kst : zz_st b sp (.ref h.1 :: r) = .ref (b + h.1) :: zz_st b sp r := by
    show zz_v b sp (.ref h.1) :: _ = _
    rw [zz_v_ref hcap]
  rw [kst] at k
  have prim : ∀ {ty : ArrayType} {a0 : vp_A} {n : Int32}, ins = .newarray ty → st = .int n :: r → sl = n.toNatClampNeg → en = .inl (newarray.typeOf ty, a0) → newarray.typeOf ty ∈ U → (∀ q : ClassId, vp_cell q a0 = arrV q n.toNatClampNeg (fun _ => defaultValue (newarray.typeOf ty))) → zz_e b sp cA (.inl (newarray.typeOf ty, a0)) = .inl (cA (newarray.typeOf ty), a0) → (∀ (X : State) (q : ClassId), va_RA X q (newarray.typeOf ty) → X.vm.findClass ("[" ++ (newarray.typeOf ty).toString) = some q) → 0 ≤ n ∧ n.toNatClampNeg ≤ 100000 → componentBytes (newarray.typeOf ty) ≤ 8 → W p l e R s m args below meth c H locs cells slots Q (F0 m pc la (zz_st b sp st)) := by
    intro ty a0 n e1 e2 e3 e4 hu hcell hze hra hn hcb
    subst e1; subst e2; subst e3; subst e4
    obtain ⟨rfl, hw⟩ := hok
    obtain ⟨t0, ht⟩ := zz_tys (cA := cA) hu
    refine va_newaK hexec hb (hts _ hw) rfl hd rfl (Int32.not_lt.mpr hn.1) rfl ?_ hcells hslots rfl (fun H1 cA' f1 f2 f3 f4 f5 => ?_)
    · have : n.toNatClampNeg * componentBytes (newarray.typeOf ty) ≤ 100000 * 8 := Nat.mul_le_mul hn.2 hcb
      omega
    · have hcA : cA' = cA (newarray.typeOf ty) := Option.some.inj (f5.symm.trans (hra s _ (hK.2 t0 _ ht).2))
      rw [hP.1] at f1 f2 f3 ⊢
      have hat : va_at D cl (b + h.1, zz_e b sp cA (.inl (newarray.typeOf ty, a0))) H1 := by
        rw [hze]
        show H1[b + h.1]? = some (vp_cell _ _)
        rw [f1, hcell, hcA]
      exact k H1 (zz_P_add hP hlt f2 f3 hat (fun ty' arr q => by cases q; exact hu)) (zz_S_add hP hS f2 f3)
  unfold zz_D at hz
  split at hz
  · cases hz
    obtain ⟨rfl, C, T, N, ty, h1, h2, h3, h4, h5, h6, h7, h8, h9⟩ := hok
    have hKn := hK.1 aux _ h1
    rw [h7] at hslots
    refine W.newcK hexec hb hown (hts _ h4) (hts _ h5) (hts _ h6) rfl hd hcells hslots hKn.2.1 rfl (fun H1 kC hkC f1 f2 f3 => ?_)
    rw [hP.1] at f1 f2 f3 ⊢
    have hat : va_at D cl (b + h.1, zz_e b sp cA (.inr (aux, df aux))) H1 := by
      show va_at D cl (b + h.1, .inr (aux, (df aux).map (zz_v b sp))) H1
      rw [zz_map_id h9]
      exact ⟨_, h1, (u_born ty hts h2 hKn hkC f1 h3).to h8⟩
    rw [h7] at k
    exact k H1 (by have := zz_P_add (n := N) hP hlt f2 f3 hat (fun ty' arr q => by cases q); exact this) (zz_S_add hP hS f2 f3)
  · split at hz
    · next n r' =>
      split at hz
      · next hn =>
        split at hz
        · cases hz
          exact prim rfl rfl rfl rfl hUt.1 (fun q => rfl) rfl (fun _ _ q => q) hn (by decide)
        · cases hz
          exact prim rfl rfl rfl rfl hUt.2.2.1 (fun q => rfl) rfl (fun _ _ q => q) hn (by decide)
        · cases hz
          exact prim rfl rfl rfl rfl hUt.2.2.2.1 (fun q => rfl) rfl (fun _ _ q => q) hn (by decide)
        · cases hz
          exact prim rfl rfl rfl rfl hUt.2.1 (fun q => rfl) rfl (fun _ _ q => q) hn (by decide)
        · cases hz
      · cases hz
    · cases hz
  · split at hz
    · next n r' =>
      split at hz
      · next C hC =>
        split at hz
        · next hn =>
          cases hz
          obtain ⟨rfl, C', T, N, h1, h2, h3⟩ := hok
          have hCC : C' = C := Option.some.inj ((hnmc _ _ _ _ h1).symm.trans hC)
          subst hCC
          have hu := hUt.2.2.2.2 C' h3
          obtain ⟨t0, ht⟩ := zz_tys (cA := cA) hu
          refine W.anew hexec hb hown (hts _ h2) (va_AO.use (hO.1 C' h3)) rfl hd rfl (Int32.not_lt.mpr hn.1) (by have := hn.2; omega) hcells hslots (fun cA' kA comp f1 f2 f3 f4 => ?_)
          obtain ⟨kA2, comp2, g1, g2, g3, g4⟩ := (hK.2 t0 _ ht).2
          have hcA : cA' = cA (.object C') := Option.some.inj (f1.symm.trans g4)
          generalize hH1 : H.push ({ cls := cA', slots := Array.replicate n.toNatClampNeg .null, vm := .none } : Cell) = H1
          have z1 : H1.size = b + h.1 + 1 := by rw [← hH1, Array.size_push, hP.1]
          have e1 : H1[b + h.1]? = some (arrV cA' n.toNatClampNeg (fun _ => .null)) := by rw [← hP.1, ← hH1, Array.getElem?_push_size, ← arrV_new]
          have o1 : ∀ q : Nat, q < b + h.1 → H1[q]? = H[q]? := fun q hq => by rw [← hH1, Array.getElem?_push, if_neg (by rw [hP.1]; omega)]
          have hat : va_at D cl (b + h.1, zz_e b sp cA (.inl (.object C', n.toNatClampNeg, .inr (.inr (.inr (.inr (fun _ => none))))))) H1 := by
            show H1[b + h.1]? = some (vp_cell _ _)
            rw [e1, hcA, vp_cell_q]
            rfl
          rw [hP.1]
          exact k H1 (zz_P_add hP hlt z1 o1 hat (fun ty' arr q => by cases q; exact hu)) (zz_S_add hP hS z1 o1)
        · cases hz
      · cases hz
    · cases hz
  · cases hz
/-- an end: what the caller gets -/
theorem zz_simR (hexec : p.tables.exec = Jvm.exec) (hb : c.code = cc) {ret : Option FieldType} (hret : meth.sig.returnType = ret) (hlocks : meth.locks = false) {Qc : Array Value → State → Outcome → State → Prop} {free : Addr → Prop}
    {la : Array Slot} {st : List Value} {v : Option Value} (hz : zz_R ret ins st = some v) (hd : decode cc pc = .ok (ins, len)) (hok : zz_okI Ts cl SL GL OL df ms y nL pc ins len aux cv)
    (hq : ∀ t : State, t.heap = H → s.WarmedH t.vm → Qc args s (.returned (v.map (zz_v b sp))) t) (hf : ∀ q ∈ locs, free q.base) : W p l e R s m args below meth c H locs cells slots (MQ below Qc args s cells slots free) (F0 m pc la (zz_st b sp st)) := by
  unfold zz_R at hz
  split at hz
  · obtain rfl := hok
    split at hz
    · cases hz; exact W.iret hexec hb hret hq hf hd hlocks
    · split at hz
      · next hv =>
        cases hz
        refine W.zret hexec hb hret ?_ hq hf hd hlocks
        rcases hv with rfl | rfl <;> rfl
      · cases hz
    · split at hz
      · next hv =>
        cases hz
        refine W.zret hexec hb hret ?_ hq hf hd hlocks
        show Value.int _ = _
        rw [← lg_i2c_nf, hv]
      · cases hz
    · split at hz
      · next hv =>
        cases hz
        refine W.zret hexec hb hret ?_ hq hf hd hlocks
        show Value.int _ = _
        rw [hv]
      · cases hz
    · cases hz
  · obtain rfl := hok
    split at hz
    · cases hz; exact W.lret hexec hb hret hq hf hd hlocks
    · cases hz
  · obtain rfl := hok
    split at hz
    · next a C =>
      split at hz
      · next ha =>
        cases hz
        have e1 : zz_v b sp (.ref a) = .ref (b + a) := zz_v_ref ha
        rw [show zz_st b sp [.ref a] = [zz_v b sp (.ref a)] from rfl]
        exact W.aret hexec hb hret (Or.inl ⟨_, rfl⟩) (Or.inr ⟨_, e1⟩) hq hf hd hlocks
      · cases hz
    · cases hz
  · obtain rfl := hok
    split at hz
    · cases hz; exact W.vret hexec hb hret hq hf hd hlocks
    · cases hz
  · cases hz
end ZE
