/-! THE WALK: calls, and the whole. -/
theorem zz_sl_len : ∀ vs : List Value, (lg_sl vs).length = zz_cats vs
  | [] => rfl
  | v :: vs => by
    have ih := zz_sl_len vs
    show ((if v.category = 2 then [Slot.val v, .second] else [Slot.val v]) ++ lg_sl vs).length = v.category + zz_cats vs
    rw [List.length_append, ih]
    rcases lv_cat v with h | h <;> rw [h] <;> rfl
theorem zz_cats_rev (vs : List Value) : zz_cats vs.reverse = zz_cats vs := by
  unfold zz_cats
  rw [List.map_reverse, List.sum_reverse]
theorem zz_st_rev (b : Nat) (sp : Nat → Value) (vs : List Value) : (zz_st b sp vs.reverse).reverse = zz_st b sp vs := by simp [zz_st]
theorem zz_st_cut (b : Nat) (sp : Nat → Value) (vs : List Value) (n : Nat) : zz_st b sp (vs.take n) ++ zz_st b sp (vs.drop n) = zz_st b sp vs := by
  unfold zz_st
  rw [← List.map_append, List.take_append_drop]
def zz_rm (d mc ms : Nat) : Room := { frames := d + 1, cells := mc, slots := ms, locals := 64 * (d + 1) }
/-- a method's start -/
def zz_Pc (D : va_G) (cl : List vw_C) (cA : FieldType → ClassId) (U : List FieldType) (SL : List (String × Nat × String × Nat)) (GL : List (String × String × String × Value)) (OL : ZO) (x : Nat → ZE) (b : Nat) (sp : Nat → Value) (A : Nat → Prop) (as : List Value) (h : ZH) : Array Value → State → Prop := fun v u =>
  v = (zz_st b sp as).toArray ∧ zz_V D cl cA U SL GL OL x b sp A u ∧ zz_P D cl U b sp cA h u.heap
/-- its end -/
def zz_Qc (D : va_G) (cl : List vw_C) (cA : FieldType → ClassId) (U : List FieldType) (b : Nat) (sp : Nat → Value) (A : Nat → Prop) (r : Option Value) (h : ZH) : Array Value → State → Outcome → State → Prop := fun _ st o t =>
  o = .returned (r.map (zz_v b sp)) ∧ zz_P D cl U b sp cA h t.heap ∧ va_F A st t
/-- all that is fixed ahead of any run -/
def zz_Fix (Ts : List Jvm.Cond) (cl : List vw_C) (U : List FieldType) (SL : List (String × Nat × String × Nat)) (GL : List (String × String × String × Value)) (OL : ZO) (nm : Nat → Option String) (df : Nat → List Value) (ms : List ZM) : Prop :=
  (∀ w ∈ Ts, goodWord w = true) ∧ cl.length ≤ 50 ∧ (.array .int ∉ U ∧ .array .byte ∉ U) ∧ (FieldType.int ∈ U ∧ FieldType.long ∈ U ∧ FieldType.byte ∈ U ∧ FieldType.boolean ∈ U ∧ ∀ C ∈ OL.1, FieldType.object C ∈ U) ∧
  (∀ ci C, nm ci = some C → ∃ T N, cl[ci]? = some (C, T, N)) ∧ (∀ ci C T N, cl[ci]? = some (C, T, N) → nm ci = some C) ∧ ∀ c ∈ ms, zz_okC Ts c ∧ ∀ i ∈ c.2.2.2.2.2.2, zz_ok Ts cl SL GL OL df ms c i
section ZG
variable {p : Program} {l : Launch} {e : Env} {R : Room} {s : State} {m : MethodId} {args : Array Value} {below : List Frame} {meth : Method} {c : Code} {H : Heap} {locs : List Loc} {cells slots : Nat} {Q : State → Prop}
variable {cc : ByteArray} {b : Nat} {sp : Nat → Value} {Ts : List Jvm.Cond} {D : va_G} {cl : List vw_C} {cA : FieldType → ClassId} {U : List FieldType} {SL : List (String × Nat × String × Nat)} {GL : List (String × String × String × Value)} {OL : ZO} {x : Nat → ZE} {A : Nat → Prop} {df : Nat → List Value} {ms : List ZM} {y : MethodName} {nL pc len aux : Nat} {cv : Value} {ins : Instr} {h : ZH} {nm : Nat → Option String}
theorem zz_blind {as : List Value} : FrameBlind (zz_Pc D cl cA U SL GL OL x b sp A as h) := by
  intro a u g mk q
  obtain ⟨q1, q2, q3⟩ := q
  exact ⟨q1, q2.moved (State.WarmedH.refl u) (fun _ _ _ => rfl), q3⟩
/-- the receiver of a call is an object of the callee's class -/
theorem zz_recv (hcl : cl.length ≤ 50) (hV : zz_V D cl cA U SL GL OL x b sp A s) (hS : va_S A s.heap H locs) (hP : zz_P D cl U b sp cA h H) {k ci cn : Nat} {fs : List Value} {C : String} (hlk : zz_look x h k = .inr (ci, fs)) (hci : ci = cn) (h9 : cn ≠ 999)
    (hC : (∃ (T : u_T) (N : Nat), cl[cn]? = some (C, T, N)) ∨ (cn = 50 ∧ C = "java/lang/String")) : ∃ q, zz_v b sp (.ref k) = .ref q ∧ ∃ cellB : Cell, H[q]? = some cellB ∧ cellB.vm.isStatics = false ∧ s.vm.findClass C = some cellB.cls := by
  obtain ⟨hK, -, -, -, hX⟩ := hV
  subst hci
  have c50 : ∀ {r : vw_C}, cl[50]? = some r → False := fun q => by have := (List.getElem?_eq_some_iff.mp q).1; omega
  have hj : (Sum.inr (ci, fs) : ZE) ≠ zz_junk := by
    intro q
    cases q
    exact h9 rfl
  by_cases ha : k < 1000000
  · obtain ⟨-, -, hat⟩ := zz_lookN hP ha hlk hj
    refine ⟨b + k, zz_v_ref ha, ?_⟩
    rcases hC with ⟨T, N, hc⟩ | ⟨rfl, -⟩
    · exact va_recv (q := (C, T, N)) hK (zz_one hat) hc (q0 := 0) rfl
    · obtain ⟨r', h5, -⟩ := hat
      exact (c50 h5).elim
  · have hx : x k = .inr (ci, fs) := by
      unfold zz_look at hlk
      rw [if_neg ha] at hlk
      exact hlk
    rcases hX k (Nat.not_lt.mp ha) with q | ⟨t, hsp, ⟨n, f, q, -⟩ | ⟨n, f, q, -⟩ | ⟨v0, q, q1, q2, q3⟩⟩
    · exact absurd (hx.symm.trans q) hj
    · rw [hx] at q; cases q
    · rw [hx] at q; cases q
    · rw [hx] at q
      cases q
      have ev : zz_v b sp (.ref k) = .ref t := by simp only [zz_v, ha, if_false]; exact hsp
      refine ⟨t, ev, ?_⟩
      rcases hC with ⟨T, N, hc⟩ | ⟨-, rfl⟩
      · exact (c50 hc).elim
      · obtain ⟨cell, g1, g2, g3, -⟩ := q1.kept hS.2.1
        exact ⟨cell, g1, g2, g3⟩
/-- a method begins -/
theorem zz_enter (hF : zz_Fix Ts cl U SL GL OL nm df ms) (hr : zz_rf sp) {cm : ZM} (hcm : cm ∈ ms) {d mc msl : Nat} {as : List Value} {r : Option Value} {h' : ZH} (hcat : zz_cats as ≤ cm.2.2.2.1)
    (body : ∀ (p : Program) (e : Env) (s : State) (m : MethodId) (below : List Frame) (meth : Method) (c : Code) (la : Array Slot), p.tables.exec = Jvm.exec → c.code = cm.2.2.1 → meth.sig.returnType = cm.2.2.2.2.1 → meth.locks = false → c.maxLocals = cm.2.2.2.1 → s.vm.findClass cm.1.cls = some m.cls → meth.name = cm.1.name → (∀ w ∈ Ts, w.before (zz_st b sp as).toArray s = true) → zz_V D cl cA U SL GL OL x b sp A s → zz_P D cl U b sp cA h s.heap → lv_has la cm.2.2.2.1 (zz_ls b sp (lv_args 0 as)) →
      W p l e (zz_rm d mc msl) s m (zz_st b sp as).toArray below meth c s.heap [] 0 0 (MQ below (zz_Qc D cl cA U b sp A r h') (zz_st b sp as).toArray s mc msl A) (F0 m 0 la [])) :
    Met l cm.1 (Jvm.Cond.code cm.1 cm.2.2.1 cm.2.2.2.1 cm.2.2.2.2.1 :: Ts) (zz_rm d mc msl) (zz_Pc D cl cA U SL GL OL x b sp A as h) (zz_Qc D cl cA U b sp A r h') mc msl A := by
  obtain ⟨-, -, -, -, -, -, hms⟩ := hF
  obtain ⟨⟨w1, w2, w3, w4, w5, w6, w7⟩, -⟩ := hms cm hcm
  refine Met.ofW (cc := cm.2.2.1) (maxL := cm.2.2.2.1) (ret := cm.2.2.2.2.1) w6 rfl ?_
  intro p e s m args below meth c s₁ B hml hv
  obtain ⟨rfl, hV, hP⟩ := hv
  have hts := atoms_spec (ws := Jvm.Cond.code cm.1 cm.2.2.1 cm.2.2.2.1 cm.2.2.2.2.1 :: Ts) B.pre
  have hl := lv_entry (zz_st b sp as) (n := cm.2.2.2.1) (by rw [zz_sl_len]; unfold zz_cats; rw [zz_cats_map hr]; exact hcat)
  rw [lg_entry_eq]
  rw [zz_args_map hr] at hl
  exact body p e s m below meth c _ B.exec B.bytes B.returns B.notSynchronized hml (findClass_of_methodNamed B.named) (name_of_methodNamed B.named B.method).1 (fun w hw => hts w (List.mem_cons_of_mem _ hw)) hV hP hl
theorem zz_goodIn (hg : ∀ w ∈ Ts, goodWord w = true) {ws : List Jvm.Cond} (h : ∀ w ∈ ws, w ∈ Ts) : GoodIn Ts ws := fun w hw => ⟨h w hw, good_of_word (hg w (h w hw))⟩
/-- a call, by the callee's contract -/
theorem zz_call (hF : zz_Fix Ts cl U SL GL OL nm df ms) (hr : zz_rf sp) (hexec : p.tables.exec = Jvm.exec) (hb : c.code = cc) (hml : c.maxLocals = nL) (hown : s.vm.findClass y.cls = some m.cls) (hts : ∀ w ∈ Ts, w.before args s = true) (hV : zz_V D cl cA U SL GL OL x b sp A s) (hS : va_S A s.heap H locs) (hP : zz_P D cl U b sp cA h H) {la : Array Slot} (hla : la.size = nL)
    {cm : ZM} (hcm : cm ∈ ms) (hat : ms[aux]? = some cm) {d mc msl : Nat} {as rest st : List Value} {r : Option Value} {h' : ZH} (hz : zz_F x h ins cm st = some (as, rest)) (hnk : zz_kind ins aux = 5) (hd : decode cc pc = .ok (ins, len)) (hok : zz_okI Ts cl SL GL OL df ms y nL pc ins len aux cv)
    (hM : zz_cats as ≤ cm.2.2.2.1 → Met l cm.1 (Jvm.Cond.code cm.1 cm.2.2.1 cm.2.2.2.1 cm.2.2.2.2.1 :: Ts) (zz_rm d mc msl) (zz_Pc D cl cA U SL GL OL x b sp A as h) (zz_Qc D cl cA U b sp A r h') mc msl A)
    (hRf : d + 2 ≤ R.frames) (hRl : 64 * (d + 2) ≤ R.locals) (hRc : cells + mc ≤ R.cells) (hRs : slots + msl ≤ R.slots)
    (k : ∀ (H1 : Heap) (locs1 : List Loc), zz_P D cl U b sp cA h' H1 → va_S A s.heap H1 locs1 → W p l e R s m args below meth c H1 locs1 (cells + mc) (slots + msl) Q (F0 m (pc + len) la (zz_st b sp (r.toList ++ rest)))) : W p l e R s m args below meth c H locs cells slots Q (F0 m pc la (zz_st b sp st)) := by
  obtain ⟨hg, hcl, -, -, -, -, hms⟩ := hF
  obtain ⟨⟨w1, w2, w3, w4, w5, w6, w7⟩, -⟩ := hms cm hcm
  have hin : ∀ w ∈ (Jvm.Cond.code cm.1 cm.2.2.1 cm.2.2.2.1 cm.2.2.2.2.1 :: Ts), w ∈ Ts := by
    intro w hw
    rcases List.mem_cons.mp hw with rfl | hw
    · exact w1
    · exact hw
  have hroom : (zz_rm d mc msl).frames + 1 ≤ R.frames ∧ 8 + (cm.2.2.2.1 + 11) + (zz_rm d mc msl).locals ≤ R.locals := by
    refine ⟨hRf, ?_⟩
    show 8 + (cm.2.2.2.1 + 11) + 64 * (d + 1) ≤ R.locals
    omega
  have hPre : ∀ u : State, u.heap = H → s.WarmedH u.vm → zz_Pc D cl cA U SL GL OL x b sp A as h (zz_st b sp as).toArray u := by
    intro u hu hW
    exact ⟨rfl, hV.moved hW (fun q q1 q2 => by rw [hu]; exact hS.2.1 q q1 q2), by rw [hu]; exact hP⟩
  have fin : ∀ {rest' : List Value}, rest' = zz_st b sp rest → len = 3 → va_Run p l e R s m args below meth c H locs cells slots mc msl (F0 m pc la (zz_st b sp st)) rest' (zz_Qc D cl cA U b sp A r h' (zz_st b sp as).toArray) A → W p l e R s m args below meth c H locs cells slots Q (F0 m pc la (zz_st b sp st)) := by
    intro rest' e0 hlen hrun T hT X
    subst e0; subst hlen
    obtain ⟨v, st₀, t, T', L, h0, X', hL, e1, e2, ⟨hv, hP1, hz1, hk1⟩, go⟩ := hrun T hT X
    cases hv
    rw [h0] at hz1 hk1
    have hS1 : va_S A s.heap T'.heap (locs ++ L) := ⟨Nat.le_trans hS.1 (by rw [e1]; exact hz1), fun q q1 q2 => by rw [e1, hk1 q (Nat.lt_of_lt_of_le q1 hS.1) q2]; exact hS.2.1 q q1 q2, fun q hq => by
      rcases List.mem_append.mp hq with h | h
      · exact hS.2.2 q h
      · exact hL q h⟩
    have k' := k T'.heap (locs ++ L) (by rw [e1]; exact hP1) hS1
    have est : zz_st b sp (r.toList ++ rest) = (r.map (zz_v b sp)).toList ++ zz_st b sp rest := by cases r <;> rfl
    rw [est] at k'
    obtain ⟨t2, a1, b1⟩ := k' T' rfl X'
    exact ⟨t2, go t2 a1, b1⟩
  have hfix : CallFix p m c cc nL s args Ts y.cls := ⟨hexec, hb, hml, hown, hts⟩
  unfold zz_F at hz
  split at hz
  · next idx =>
    obtain ⟨rfl, hok⟩ := hok
    have haux : ¬ aux = 9998 := by
      intro q
      simp [zz_kind, q] at hnk
    have haux1 : ¬ aux = 9997 := by
      intro q
      simp [zz_kind, q] at hnk
    have haux2 : ¬ aux = 9996 := by
      intro q
      simp [zz_kind, q] at hnk
    rw [if_neg haux, if_neg haux1, if_neg haux2] at hok
    obtain ⟨v1, v2⟩ := hok cm hat
    split at hz
    · next hc =>
      cases hz
      obtain ⟨c1, c2, c3⟩ := hc
      have hcat : zz_cats (st.take cm.2.2.2.2.2.1).reverse ≤ cm.2.2.2.1 := by rw [zz_cats_rev]; exact c3
      refine fin rfl rfl (va_runS hfix (hM hcat) (va_cwS cm.2.2.2.2.2.1 hts (zz_goodIn hg ?_) rfl rfl rfl ⟨w3.1, w3.2, w4⟩ hroom) ⟨zz_blind, hPre⟩ rfl ?_ hla ?_ ?_ hd ⟨hRc, hRs⟩)
      · intro w hw
        unfold va_wsS at hw
        rcases List.mem_append.mp hw with q | q
        · simp only [List.mem_cons, List.not_mem_nil, or_false] at q
          rcases q with rfl | rfl | rfl
          · exact v1
          · exact v2
          · exact w2
        · exact hin w q
      · simp only [List.length_map, List.length_reverse, List.length_take]
        omega
      · show zz_st b sp st = _
        rw [zz_st_rev, zz_st_cut]
      · have : 2 * (F0 m pc la (zz_st b sp st)).monitorRoom = 0 := rfl
        rw [this, Nat.zero_add, zz_cats_map hr]
        exact c2
    · cases hz
  · next idx =>
    obtain ⟨rfl, hok⟩ := hok
    obtain ⟨v1, v2, v3, v4⟩ := hok cm hat
    split at hz
    · next k0 r0 hdr =>
      split at hz
      · next ci fs hlk =>
        split at hz
        · next hc =>
          cases hz
          obtain ⟨c1, c2, c3⟩ := hc
          have hcat : zz_cats (.ref k0 :: (st.take cm.2.2.2.2.2.1).reverse) ≤ cm.2.2.2.1 := by
            show 1 + zz_cats (st.take cm.2.2.2.2.2.1).reverse ≤ _
            rw [zz_cats_rev]; exact c3
          obtain ⟨q, hq1, hq2⟩ := zz_recv hcl hV hS hP hlk c1 w7 v4
          have hlen : cm.2.2.2.2.2.1 < st.length := by
            refine Nat.not_le.mp fun z => ?_
            rw [List.drop_eq_nil_of_le z] at hdr
            cases hdr
          have eas : zz_st b sp (.ref k0 :: (st.take cm.2.2.2.2.2.1).reverse) = .ref q :: zz_st b sp (st.take cm.2.2.2.2.2.1).reverse := by
            show zz_v b sp (.ref k0) :: _ = _
            rw [hq1]
          have hPre' := hPre
          have fin' := @fin
          rw [eas] at hPre' fin'
          refine fin' rfl rfl (va_runV (C := cm.1.cls) (b := q) (As := zz_st b sp (st.take cm.2.2.2.2.2.1).reverse) hfix (hM hcat) (cwV cm.2.2.2.2.2.1 hts (zz_goodIn hg ?_) rfl rfl rfl ⟨rfl, w3.1, w3.2, w4⟩ hroom) ⟨zz_blind, hq2, hPre'⟩ rfl ?_ hla ?_ ?_ hd ⟨hRc, hRs⟩)
          · intro w hw
            unfold wsV at hw
            rcases List.mem_append.mp hw with q | q
            · simp only [List.mem_cons, List.not_mem_nil, or_false] at q
              rcases q with rfl | rfl | rfl | rfl
              · exact v1
              · exact v2
              · exact v3
              · exact w2
            · exact hin w q
          · simp only [List.length_map, List.length_reverse, List.length_take]
            omega
          · show zz_st b sp st = _
            rw [zz_st_rev, ← hq1]
            rw [show zz_v b sp (.ref k0) :: zz_st b sp rest = zz_st b sp (.ref k0 :: rest) from rfl, ← hdr, zz_st_cut]
          · have : 2 * (F0 m pc la (zz_st b sp st)).monitorRoom = 0 := rfl
            rw [this, Nat.zero_add, zz_cats_map hr]
            exact c2
        · cases hz
      · cases hz
    · cases hz
  · next idx =>
    obtain ⟨rfl, hok⟩ := hok
    have haux : ¬ aux = 9999 := by
      intro q
      simp [zz_kind, q] at hnk
    rw [if_neg haux] at hok
    obtain ⟨v0, vr, v1, v2⟩ := hok cm hat
    split at hz
    · next k0 r0 hdr =>
      split at hz
      · next ci fs hlk =>
        split at hz
        · next hc =>
          cases hz
          obtain ⟨c1, c2, c3⟩ := hc
          have hcat : zz_cats (.ref k0 :: (st.take cm.2.2.2.2.2.1).reverse) ≤ cm.2.2.2.1 := by
            show 1 + zz_cats (st.take cm.2.2.2.2.2.1).reverse ≤ _
            rw [zz_cats_rev]; exact c3
          have hq : ∃ q, zz_v b sp (.ref k0) = .ref q := by
            by_cases ha : k0 < 1000000
            · exact ⟨b + k0, zz_v_ref ha⟩
            · have hx : x k0 = .inr (ci, fs) := by
                unfold zz_look at hlk
                rw [if_neg ha] at hlk
                exact hlk
              have hX := hV.2.2.2.2
              rcases hX k0 (Nat.not_lt.mp ha) with q | ⟨t, hsp, -⟩
              · rw [hx] at q
                cases q
                exact absurd c1.symm w7
              · refine ⟨t, ?_⟩
                simp only [zz_v, ha, if_false]; exact hsp
          obtain ⟨q, hq1⟩ := hq
          have hlen : cm.2.2.2.2.2.1 < st.length := by
            refine Nat.not_le.mp fun z => ?_
            rw [List.drop_eq_nil_of_le z] at hdr
            cases hdr
          have eas : zz_st b sp (.ref k0 :: (st.take cm.2.2.2.2.2.1).reverse) = .ref q :: zz_st b sp (st.take cm.2.2.2.2.2.1).reverse := by
            show zz_v b sp (.ref k0) :: _ = _
            rw [hq1]
          have hPre' := hPre
          have fin' := @fin
          rw [eas] at hPre' fin'
          have hM' := hM hcat
          have hin' := hin
          have w1' := w1
          rw [vr] at hM' hin' w1'
          refine fin' rfl rfl (va_runI (b := q) (As := zz_st b sp (st.take cm.2.2.2.2.2.1).reverse) hfix hM' (cwI cm.2.2.2.2.2.1 hts (zz_goodIn hg hin') rfl rfl rfl (hts _ w2) (hts _ v1) (hts _ v2) v0 ⟨w3.1, w3.2, w4⟩ hroom) ⟨zz_blind, hPre'⟩ rfl ?_ hla ?_ ?_ hd ⟨hRc, hRs⟩)
          · simp only [List.length_map, List.length_reverse, List.length_take]
            omega
          · show zz_st b sp st = _
            rw [zz_st_rev, ← hq1]
            rw [show zz_v b sp (.ref k0) :: zz_st b sp rest = zz_st b sp (.ref k0 :: rest) from rfl, ← hdr, zz_st_cut]
          · have : 2 * (F0 m pc la (zz_st b sp st)).monitorRoom = 0 := rfl
            rw [this, Nat.zero_add, zz_cats_map hr]
            exact c2
        · cases hz
      · cases hz
    · cases hz
  · cases hz
end ZG
