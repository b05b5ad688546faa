/-! THE WALK, whole. -/
section ZW
variable {l : Launch} {b : Nat} {sp : Nat → Value} {Ts : List Jvm.Cond} {D : va_G} {cl : List vw_C} {cA : FieldType → ClassId} {U : List FieldType} {SL : List (String × Nat × String × Nat)} {GL : List (String × String × String × Value)} {OL : ZO} {x : Nat → ZE} {A : Nat → Prop} {df : Nat → List Value} {ms : List ZM} {nm : Nat → Option String}
/-- inside a method: what is known -/
def zz_In (Ts : List Jvm.Cond) (D : va_G) (cl : List vw_C) (cA : FieldType → ClassId) (U : List FieldType) (SL : List (String × Nat × String × Nat)) (GL : List (String × String × String × Value)) (OL : ZO) (x : Nat → ZE) (b : Nat) (sp : Nat → Value) (A : Nat → Prop) (cm : ZM) (p : Program) (s : State) (m : MethodId) (args : Array Value) (meth : Method) (c : Code) : Prop :=
  p.tables.exec = Jvm.exec ∧ c.code = cm.2.2.1 ∧ c.maxLocals = cm.2.2.2.1 ∧ s.vm.findClass cm.1.cls = some m.cls ∧ (cm.1.name = "<init>" → meth.name = "<init>") ∧ (∀ w ∈ Ts, w.before args s = true) ∧ zz_V D cl cA U SL GL OL x b sp A s
theorem zz_at_mem {cm : ZM} {pc : Nat} {i : ZI} (h : zz_at cm pc = some i) : i ∈ cm.2.2.2.2.2.2 ∧ i.1 = pc := by
  unfold zz_at at h
  refine ⟨List.mem_of_find?_eq_some h, ?_⟩
  have h1 := List.find?_some h
  simpa using h1
/-- Math.min, Math.max -/
theorem zz_simM {p : Program} {e : Env} {R : Room} {s : State} {m : MethodId} {args : Array Value} {below : List Frame} {meth : Method} {c : Code} {H : Heap} {locs : List Loc} {cells slots : Nat} {Q : State → Prop} {cc : ByteArray} {y : MethodName} {nL pc len aux : Nat} {cv : Value} {ins : Instr} (hexec : p.tables.exec = Jvm.exec) (hb : c.code = cc) (hr : zz_rf sp) {la : Array Slot} (hml : c.maxLocals = la.size) (hown : s.vm.findClass y.cls = some m.cls) (hts : ∀ w ∈ Ts, w.before args s = true)
    (hfr : 1 ≤ R.frames) (hlo : 60 ≤ R.locals) (hcl : cells ≤ R.cells) (hsl : slots ≤ R.slots) {st st' : List Value} (hnk : zz_kind ins aux = 7) (hz : zz_M aux st = some st') (hd : decode cc pc = .ok (ins, len)) (hok : zz_okI Ts cl SL GL OL df ms y nL pc ins len aux cv)
    (k : W p l e R s m args below meth c H locs cells slots Q (F0 m (pc + len) la (zz_st b sp st'))) : W p l e R s m args below meth c H locs cells slots Q (F0 m pc la (zz_st b sp st)) := by
  have hins : (∃ idx, ins = .invokestatic idx) ∧ (aux = 9997 ∨ aux = 9996) := by
    cases ins
    case invokestatic idx =>
      refine ⟨⟨idx, rfl⟩, ?_⟩
      simp only [zz_kind] at hnk
      split at hnk
      · cases hnk
      · split at hnk
        · assumption
        · cases hnk
    case invokespecial idx =>
      simp only [zz_kind] at hnk
      split at hnk <;> cases hnk
    all_goals cases hnk
  obtain ⟨⟨idx, rfl⟩, hax⟩ := hins
  obtain ⟨rfl, hok⟩ := hok
  unfold zz_M at hz
  split at hz
  · next v w r =>
    split at hz
    · next hc =>
      cases hz
      have hcr : ((zz_st b sp r).map fun v => v.category).sum + 13 ≤ R.locals := by
        rw [zz_cats_map hr]
        omega
      rcases hax with rfl | rfl
      · rw [if_neg (by decide), if_pos rfl] at hok
        obtain ⟨w1, w2, w3, w4⟩ := hok
        rw [if_pos rfl] at k
        exact va_mmin hexec hb hml hown (hts _ w1) (hts _ w2) (hts _ w3) (hts _ w4) hfr hcr hcl hsl hd k
      · rw [if_neg (by decide), if_neg (by decide), if_pos rfl] at hok
        obtain ⟨w1, w2, w3, w4⟩ := hok
        rw [if_neg (by decide)] at k
        exact va_mmax hexec hb hml hown (hts _ w1) (hts _ w2) (hts _ w3) (hts _ w4) hfr hcr hcl hsl hd k
    · cases hz
  · cases hz
theorem zz_kind6 {ins : Instr} {ax : Nat} (h0 : zz_kind ins ax = 0 → False) (h1 : zz_kind ins ax = 1 → False) (h2 : zz_kind ins ax = 2 → False) (h3 : zz_kind ins ax = 3 → False) (h4 : zz_kind ins ax = 4 → False) (h5 : zz_kind ins ax = 5 → False) (h7 : zz_kind ins ax = 7 → False) : ∃ idx, ins = .invokespecial idx ∧ ax = 9999 := by
  cases ins
  case invokespecial idx =>
    by_cases hax : ax = 9999
    · exact ⟨idx, rfl, hax⟩
    · exact (h5 (by simp [zz_kind, hax])).elim
  case invokestatic idx =>
    by_cases hax : ax = 9998
    · exact (h2 (by simp [zz_kind, hax])).elim
    · by_cases hax2 : ax = 9997 ∨ ax = 9996
      · exact (h7 (by simp only [zz_kind]; rw [if_neg hax, if_pos hax2])).elim
      · exact (h5 (by simp only [zz_kind]; rw [if_neg hax, if_neg hax2])).elim
  all_goals first
    | exact (h0 rfl).elim
    | exact (h1 rfl).elim
    | exact (h2 rfl).elim
    | exact (h3 rfl).elim
    | exact (h4 rfl).elim
    | exact (h5 rfl).elim
theorem zz_walk (hF : zz_Fix Ts cl U SL GL OL nm df ms) (hr : zz_rf sp) (hA : ∀ q, b ≤ q → A q) : ∀ (f d : Nat) (cm : ZM) (pc : Nat) (ls : ZL) (st : List Value) (h : ZH) (r : Option Value) (h' : ZH), (∀ i ∈ cm.2.2.2.2.2.2, zz_ok Ts cl SL GL OL df ms cm i) → zz_run ms nm df x d f cm pc ls st h = some (r, h') →
    ∀ (p : Program) (e : Env) (R : Room) (s : State) (m : MethodId) (args : Array Value) (below : List Frame) (meth : Method) (c : Code) (H : Heap) (locs : List Loc) (la : Array Slot) (Q : State → Prop) (n0 s0 : Nat),
    zz_In Ts D cl cA U SL GL OL x b sp A cm p s m args meth c → d + 1 ≤ R.frames → 64 * (d + 1) ≤ R.locals → h'.1 - n0 ≤ R.cells → h'.2.1 - s0 ≤ R.slots → n0 ≤ h.1 → s0 ≤ h.2.1 →
    va_S A s.heap H locs → zz_P D cl U b sp cA h H → lv_has la cm.2.2.2.1 (zz_ls b sp ls) →
    (∀ (pc : Nat) (ins : Instr) (len aux : Nat) (cv : Value) (H : Heap) (locs : List Loc) (la : Array Slot) (st : List Value), zz_R cm.2.2.2.2.1 ins st = some r → decode cm.2.2.1 pc = .ok (ins, len) → zz_okI Ts cl SL GL OL df ms cm.1 cm.2.2.2.1 pc ins len aux cv → zz_P D cl U b sp cA h' H → va_S A s.heap H locs → W p l e R s m args below meth c H locs (h'.1 - n0) (h'.2.1 - s0) Q (F0 m pc la (zz_st b sp st))) →
    W p l e R s m args below meth c H locs (h.1 - n0) (h.2.1 - s0) Q (F0 m pc la (zz_st b sp st)) := by
  intro f
  induction f with
  | zero => intro d cm pc ls st h r h' hcm hz; simp [zz_run] at hz
  | succ f ih =>
    intro d cm pc ls st h r h' hcm hz p e R s m args below meth c H locs la Q n0 s0 hIn hRf hRl hRc hRs hn0 hs0 hS hP hl hend
    have hIn' := hIn
    obtain ⟨hexec, hb, hml, hown, hname, hts, hV⟩ := hIn'
    obtain ⟨hg, hcl, hU0, hUt, hnm1, hnm2, hms⟩ := hF
    have hF : zz_Fix Ts cl U SL GL OL nm df ms := ⟨hg, hcl, hU0, hUt, hnm1, hnm2, hms⟩
    have hcmok := hcm
    unfold zz_run at hz
    split at hz
    · cases hz
    · next i hi =>
      obtain ⟨him, hipc⟩ := zz_at_mem hi
      obtain ⟨hd, hok⟩ := hcmok i him
      subst hipc
      have hb2 : c.code = cm.2.2.1 := hb
      split at hz
      · cases hz
      · next q hq =>
        have hmono := zz_exec_mono hq
        have hmono2 := zz_run_mono _ _ _ _ _ _ _ _ _ hz
        unfold zz_exec at hq
        split at hq
        · obtain ⟨w, hw, e1⟩ := Option.map_eq_some_iff.mp hq
          cases e1
          obtain ⟨pc', ls', st'⟩ := w
          exact zz_simA hexec hb hr hown hts hV hS hw hd hok hl (fun la' hl' => ih d cm _ _ _ _ _ _ hcm hz p e R s m args below meth c H locs la' Q n0 s0 hIn hRf hRl hRc hRs hn0 hs0 hS hP hl' hend)
        · obtain ⟨w, hw, e1⟩ := Option.map_eq_some_iff.mp hq
          cases e1
          exact zz_simB hexec hb hr hcl hU0 hown hts hV hS hP hw hd hok (ih d cm _ _ _ _ _ _ hcm hz p e R s m args below meth c H locs la Q n0 s0 hIn hRf hRl hRc hRs hn0 hs0 hS hP hl hend)
        · next hk =>
          obtain ⟨w, hw, e1⟩ := Option.map_eq_some_iff.mp hq
          cases e1
          obtain ⟨r2, a2, en2⟩ := w
          exact zz_simC hexec hb hr hcl hA hnm1 hown hts hV.1 hV.2.2.2.1.2 hS hP hname (by omega) (by omega) (by rw [hml]; exact hl.1.symm) hk hw hd hok (fun H1 locs1 hP1 hS1 => ih d cm _ _ _ _ _ _ hcm hz p e R s m args below meth c H1 locs1 la Q n0 s0 hIn hRf hRl hRc hRs hn0 hs0 hS1 hP1 hl hend)
        · split at hq
          · next hlt =>
            obtain ⟨w, hw, e1⟩ := Option.map_eq_some_iff.mp hq
            cases e1
            obtain ⟨r2, sl2, en2⟩ := w
            have e3 : h.1 - n0 + 1 = (zz_add h sl2 en2).1 - n0 := by show _ = h.1 + 1 - n0; omega
            have e4 : h.2.1 - s0 + sl2 = (zz_add h sl2 en2).2.1 - s0 := by show _ = h.2.1 + sl2 - s0; omega
            refine zz_simD hexec hb hUt hnm2 hown hts hV hS hP hlt hw hd hok ?_ ?_ (fun H1 hP1 hS1 => ?_)
            · rw [e3]
              have : (zz_add h sl2 en2).1 ≤ h'.1 := hmono2.1
              omega
            · rw [e4]
              have : (zz_add h sl2 en2).2.1 ≤ h'.2.1 := hmono2.2
              omega
            · refine W.cs e3 e4 ?_
              exact ih d cm _ _ _ _ _ _ hcm hz p e R s m args below meth c H1 locs la Q n0 s0 hIn hRf hRl hRc hRs (by have : h.1 ≤ (zz_add h sl2 en2).1 := hmono.1; omega) (by have : h.2.1 ≤ (zz_add h sl2 en2).2.1 := hmono.2; omega) hS1 hP1 hl hend
          · cases hq
        · obtain ⟨w, hw, e1⟩ := Option.map_eq_some_iff.mp hq
          cases e1
        · split at hq
          · obtain ⟨w, hw, e1⟩ := Option.map_eq_some_iff.mp hq
            cases e1
          · cases hq
        · next hk =>
          obtain ⟨w, hw, e1⟩ := Option.map_eq_some_iff.mp hq
          cases e1
          exact zz_simM hexec hb hr (by rw [hml]; exact hl.1.symm) hown hts (by omega) (by omega) (by have := hmono2.1; omega) (by have := hmono2.2; omega) hk hw hd hok (ih d cm _ _ _ _ _ _ hcm hz p e R s m args below meth c H locs la Q n0 s0 hIn hRf hRl hRc hRs hn0 hs0 hS hP hl hend)
        · next hk0 hk1 hk2 hk3 hk4 hk5 hk7 =>
          split at hq
          · next a r2 =>
            split at hq
            · next hc =>
              cases hq
              -- Object.<init>
              have hkind : ∃ idx, i.2.1 = .invokespecial idx ∧ i.2.2.2.1 = 9999 := zz_kind6 hk0 hk1 hk2 hk3 hk4 hk5 hk7
              obtain ⟨idx, hins, hax⟩ := hkind
              rw [hins] at hd
              rw [hins, hax] at hok
              obtain ⟨h3, hok⟩ := hok
              rw [if_pos rfl] at hok
              obtain ⟨w1, w2, w3⟩ := hok
              rw [h3] at hd
              rw [show zz_st b sp (.ref a :: r2) = zz_v b sp (.ref a) :: zz_st b sp r2 from rfl, zz_v_ref hc.2]
              refine W.objInit hexec hb hown (hts _ w1) (hts _ w2) (hts _ w3) rfl (by rw [hml]; exact hl.1) rfl hd (by omega) ?_ ?_
              · have : 2 * (F0 m i.1 la (Value.ref (b + a) :: zz_st b sp r2)).monitorRoom = 0 := rfl
                rw [this, Nat.zero_add, zz_cats_map hr]
                have := hc.1
                omega
              · simp only at hz
                rw [h3] at hz
                exact ih d cm _ _ _ _ _ _ hcm hz p e R s m args below meth c H locs la Q n0 s0 hIn hRf hRl hRc hRs hn0 hs0 hS hP hl hend
            · cases hq
          · cases hq
      · next q hq =>
        have e0 := zz_exec_ret hq
        cases hz
        simp only at e0
        subst e0
        unfold zz_exec at hq
        split at hq
        · obtain ⟨w, hw, e1⟩ := Option.map_eq_some_iff.mp hq; cases e1
        · obtain ⟨w, hw, e1⟩ := Option.map_eq_some_iff.mp hq; cases e1
        · obtain ⟨w, hw, e1⟩ := Option.map_eq_some_iff.mp hq; cases e1
        · split at hq
          · obtain ⟨w, hw, e1⟩ := Option.map_eq_some_iff.mp hq; cases e1
          · cases hq
        · obtain ⟨w, hw, e1⟩ := Option.map_eq_some_iff.mp hq
          cases e1
          exact hend i.1 i.2.1 i.2.2.1 i.2.2.2.1 i.2.2.2.2 H locs la st hw hd hok hP hS
        · split at hq
          · obtain ⟨w, hw, e1⟩ := Option.map_eq_some_iff.mp hq; cases e1
          · cases hq
        · obtain ⟨w, hw, e1⟩ := Option.map_eq_some_iff.mp hq; cases e1
        · split at hq
          · split at hq
            · cases hq
            · cases hq
          · cases hq
      · next q hq =>
        split at hz
        · cases hz
        · next d' =>
          split at hz
          · cases hz
          · next w hw =>
            have hm1 := zz_run_mono _ _ _ _ _ _ _ _ _ hw
            have hm2 := zz_run_mono _ _ _ _ _ _ _ _ _ hz
            unfold zz_exec at hq
            split at hq
            · obtain ⟨w, hw, e1⟩ := Option.map_eq_some_iff.mp hq; cases e1
            · obtain ⟨w, hw, e1⟩ := Option.map_eq_some_iff.mp hq; cases e1
            · obtain ⟨w, hw, e1⟩ := Option.map_eq_some_iff.mp hq; cases e1
            · split at hq
              · obtain ⟨w, hw, e1⟩ := Option.map_eq_some_iff.mp hq; cases e1
              · cases hq
            · obtain ⟨w, hw, e1⟩ := Option.map_eq_some_iff.mp hq; cases e1
            · next hk =>
              split at hq
              · next cm2 hcm2 =>
                obtain ⟨z, hz2, e1⟩ := Option.map_eq_some_iff.mp hq
                cases e1
                obtain ⟨as, rest⟩ := z
                have hcm2m : cm2 ∈ ms := List.mem_of_getElem? hcm2
                obtain ⟨r2, h2⟩ := w
                have e3 : h.1 - n0 + (h2.1 - h.1) = h2.1 - n0 := by have : h.1 ≤ h2.1 := hm1.1; omega
                have e4 : h.2.1 - s0 + (h2.2.1 - h.2.1) = h2.2.1 - s0 := by have : h.2.1 ≤ h2.2.1 := hm1.2; omega
                refine zz_call (d := d') (mc := h2.1 - h.1) (msl := h2.2.1 - h.2.1) (r := r2) (h' := h2) hF hr hexec hb hml hown hts hV hS hP hl.1 hcm2m hcm2 hz2 hk hd hok (fun hcat => ?_) (by omega) (by omega) ?_ ?_ (fun H1 locs1 hP1 hS1 => ?_)
                · refine zz_enter hF hr hcm2m hcat (fun p e s m below meth c la f1 f2 f3 f4 f5 f6 f7 f8 f9 f10 f11 => ?_)
                  have key := ih d' cm2 0 (lv_args 0 as) [] h r2 h2 (hms cm2 hcm2m).2 hw p e (zz_rm d' (h2.1 - h.1) (h2.2.1 - h.2.1)) s m (zz_st b sp as).toArray below meth c s.heap [] la (MQ below (zz_Qc D cl cA U b sp A r2 h2) (zz_st b sp as).toArray s (h2.1 - h.1) (h2.2.1 - h.2.1) A) h.1 h.2.1 ⟨f1, f2, f5, f6, fun q => f7.trans q, f8, f9⟩ (Nat.le_refl _) (Nat.le_refl _) (Nat.le_refl _) (Nat.le_refl _) (Nat.le_refl _) (Nat.le_refl _) va_S.rf f10 f11
                    (fun pc ins len aux cv H locs la st g1 g2 g3 g4 g5 => zz_simR f1 f2 f3 f4 g1 g2 g3 (fun t ht hW => ⟨rfl, by rw [ht]; exact g4, g5.F ht⟩) g5.2.2)
                  rw [Nat.sub_self, Nat.sub_self] at key
                  exact key
                · rw [e3]
                  have : h2.1 ≤ h'.1 := hm2.1
                  omega
                · rw [e4]
                  have : h2.2.1 ≤ h'.2.1 := hm2.2
                  omega
                · refine W.cs e3 e4 ?_
                  exact ih (d' + 1) cm _ _ _ _ _ _ hcm hz p e R s m args below meth c H1 locs1 la Q n0 s0 hIn hRf hRl hRc hRs (by have : h.1 ≤ h2.1 := hm1.1; omega) (by have : h.2.1 ≤ h2.2.1 := hm1.2; omega) hS1 hP1 hl hend
              · cases hq
            · obtain ⟨w, hw, e1⟩ := Option.map_eq_some_iff.mp hq; cases e1
            · split at hq
              · split at hq
                · cases hq
                · cases hq
              · cases hq
end ZW
