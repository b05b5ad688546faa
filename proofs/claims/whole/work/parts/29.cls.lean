theorem zt_cls0 : (∀ w ∈ u_ws RX0 TX0 6, w ∈ zt_Ts) ∧ Jvm.Cond.instantiable RX0 6 ∈ zt_Ts := ⟨zt_uws0, (zt_mem 424 (by decide +kernel) (by decide +kernel))⟩
theorem zt_cls1 : (∀ w ∈ u_ws RX1 TX1 3, w ∈ zt_Ts) ∧ Jvm.Cond.instantiable RX1 3 ∈ zt_Ts := ⟨zt_uws1, (zt_mem 453 (by decide +kernel) (by decide +kernel))⟩
theorem zt_cls2 : (∀ w ∈ u_ws RX2 TX2 3, w ∈ zt_Ts) ∧ Jvm.Cond.instantiable RX2 3 ∈ zt_Ts := ⟨zt_uws2, (zt_mem 369 (by decide +kernel) (by decide +kernel))⟩
theorem zt_cls3 : (∀ w ∈ u_ws RX3 TX3 8, w ∈ zt_Ts) ∧ Jvm.Cond.instantiable RX3 8 ∈ zt_Ts := ⟨zt_uws3, (zt_mem 389 (by decide +kernel) (by decide +kernel))⟩
theorem zt_cls4 : (∀ w ∈ u_ws RX4 TX4 2, w ∈ zt_Ts) ∧ Jvm.Cond.instantiable RX4 2 ∈ zt_Ts := ⟨zt_uws4, (zt_mem 328 (by decide +kernel) (by decide +kernel))⟩
theorem zt_cls5 : (∀ w ∈ u_ws RX5 TX5 7, w ∈ zt_Ts) ∧ Jvm.Cond.instantiable RX5 7 ∈ zt_Ts := ⟨zt_uws5, (zt_mem 341 (by decide +kernel) (by decide +kernel))⟩
theorem zt_cls6 : (∀ w ∈ u_ws RX6 TX6 10, w ∈ zt_Ts) ∧ Jvm.Cond.instantiable RX6 10 ∈ zt_Ts := ⟨zt_uws6, (zt_mem 174 (by decide +kernel) (by decide +kernel))⟩
theorem zt_cls7 : (∀ w ∈ u_ws RX7 TX7 6, w ∈ zt_Ts) ∧ Jvm.Cond.instantiable RX7 6 ∈ zt_Ts := ⟨zt_uws7, (zt_mem 236 (by decide +kernel) (by decide +kernel))⟩
theorem zt_cls8 : (∀ w ∈ u_ws RX8 TX8 4, w ∈ zt_Ts) ∧ Jvm.Cond.instantiable RX8 4 ∈ zt_Ts := ⟨zt_uws8, (zt_mem 142 (by decide +kernel) (by decide +kernel))⟩
theorem zt_cls9 : (∀ w ∈ u_ws RX9 TX9 9, w ∈ zt_Ts) ∧ Jvm.Cond.instantiable RX9 9 ∈ zt_Ts := ⟨zt_uws9, (zt_mem 168 (by decide +kernel) (by decide +kernel))⟩
theorem zt_cls10 : (∀ w ∈ u_ws RX10 TX10 11, w ∈ zt_Ts) ∧ Jvm.Cond.instantiable RX10 11 ∈ zt_Ts := ⟨zt_uws10, (zt_mem 134 (by decide +kernel) (by decide +kernel))⟩
theorem zt_cls11 : (∀ w ∈ u_ws RX11 TX11 42, w ∈ zt_Ts) ∧ Jvm.Cond.instantiable RX11 42 ∈ zt_Ts := ⟨zt_uws11, (zt_mem 1143 (by decide +kernel) (by decide +kernel))⟩
theorem zt_cls_ok : ∀ q ∈ vwCl, (∀ w ∈ u_ws q.1 q.2.1 q.2.2, w ∈ zt_Ts) ∧ Jvm.Cond.instantiable q.1 q.2.2 ∈ zt_Ts := List.forall_mem_cons.mpr ⟨zt_cls0, List.forall_mem_cons.mpr ⟨zt_cls1, List.forall_mem_cons.mpr ⟨zt_cls2, List.forall_mem_cons.mpr ⟨zt_cls3, List.forall_mem_cons.mpr ⟨zt_cls4, List.forall_mem_cons.mpr ⟨zt_cls5, List.forall_mem_cons.mpr ⟨zt_cls6, List.forall_mem_cons.mpr ⟨zt_cls7, List.forall_mem_cons.mpr ⟨zt_cls8, List.forall_mem_cons.mpr ⟨zt_cls9, List.forall_mem_cons.mpr ⟨zt_cls10, List.forall_mem_cons.mpr ⟨zt_cls11, fun _ h => absurd h List.not_mem_nil⟩⟩⟩⟩⟩⟩⟩⟩⟩⟩⟩⟩
theorem zt_AO_0 : Jvm.Cond.arrayOver (.object "RowRing$World") ∈ lw_tbl := List.mem_of_getElem? (i := 323) (by decide +kernel)
theorem zt_AO_1 : Jvm.Cond.arrayOver (.object "RowRing$Rule") ∈ lw_tbl := List.mem_of_getElem? (i := 327) (by decide +kernel)
theorem zt_AO_2 : Jvm.Cond.arrayOver (.object "RowRing$State") ∈ lw_tbl := List.mem_of_getElem? (i := 375) (by decide +kernel)
theorem zt_AO_ok : ∀ C ∈ zt_OL.1, Jvm.Cond.arrayOver (.object C) ∈ lw_tbl := List.forall_mem_cons.mpr ⟨zt_AO_0, List.forall_mem_cons.mpr ⟨zt_AO_1, List.forall_mem_cons.mpr ⟨zt_AO_2, fun _ h => absurd h List.not_mem_nil⟩⟩⟩
theorem zt_SR_0 : Jvm.Cond.stringRef "RowRing$Smithy" 76 "smith pair saying minds near" ∈ lw_tbl := List.mem_of_getElem? (i := 534) (by decide +kernel)
theorem zt_SR_1 : Jvm.Cond.stringRef "RowRing$RuleReader" 41 "say" ∈ lw_tbl := List.mem_of_getElem? (i := 689) (by decide +kernel)
theorem zt_SR_2 : Jvm.Cond.stringRef "RowRing$RuleReader" 104 "pair saying temper breaks hurt minds said near bands rows day" ∈ lw_tbl := List.mem_of_getElem? (i := 706) (by decide +kernel)
theorem zt_SR_3 : Jvm.Cond.stringRef "RowRing$RuleReader" 112 "not" ∈ lw_tbl := List.mem_of_getElem? (i := 723) (by decide +kernel)
theorem zt_SR_4 : Jvm.Cond.stringRef "RowRing$RuleReader" 134 "if" ∈ lw_tbl := List.mem_of_getElem? (i := 741) (by decide +kernel)
theorem zt_SR_5 : Jvm.Cond.stringRef "RowRing$RuleReader" 143 "or and" ∈ lw_tbl := List.mem_of_getElem? (i := 758) (by decide +kernel)
def zt_bts : List (List Int32) := [[115, 109, 105, 116, 104, 32, 112, 97, 105, 114, 32, 115, 97, 121, 105, 110, 103, 32, 109, 105, 110, 100, 115, 32, 110, 101, 97, 114], [115, 97, 121], [112, 97, 105, 114, 32, 115, 97, 121, 105, 110, 103, 32, 116, 101, 109, 112, 101, 114, 32, 98, 114, 101, 97, 107, 115, 32, 104, 117, 114, 116, 32, 109, 105, 110, 100, 115, 32, 115, 97, 105, 100, 32, 110, 101, 97, 114, 32, 98, 97, 110, 100, 115, 32, 114, 111, 119, 115, 32, 100, 97, 121], [110, 111, 116], [105, 102], [111, 114, 32, 97, 110, 100]]
def zt_lens : List Nat := [28, 3, 61, 3, 2, 6]
def zt_tm (i : Nat) : Term := match i with
  | 0 => .string "RowRing$Smithy" 76
  | 1 => .string "RowRing$RuleReader" 41
  | 2 => .string "RowRing$RuleReader" 104
  | 3 => .string "RowRing$RuleReader" 112
  | 4 => .string "RowRing$RuleReader" 134
  | _ => .string "RowRing$RuleReader" 143
def zt_bind (j : Nat) : Int32 := ([0, 0, 5, 5, 6, 6, 6, 4, 4, 4, 4, 4, 3, 2, 1, 0] : List Int32).getD j 0
/-- what is read only: the script; the static array; String constants and their bytes -/
def zt_X (L : Nat) (xs : Nat → Int32) (k : Nat) : ZE :=
  if k = 1000000 then .inl (.array .int, L, .inl xs)
  else if k = 1000001 then .inl (.array .int, 16, .inl zt_bind)
  else if 1000010 ≤ k ∧ k < 1000010 + 6 then .inr (50, [.ref (k + 10), .int 0])
  else if 1000020 ≤ k ∧ k < 1000020 + 6 then .inl (.array .byte, zt_lens.getD (k - 1000020) 0, .inl (fun j => (zt_bts.getD (k - 1000020) []).getD j 0))
  else zz_junk
def zt_h0 : ZH := (0, 0, fun _ => zz_junk)
def zt_sp (b tB : Nat) (fm : Value) (adK adV : Nat → Nat) (k : Nat) : Value :=
  if k = 1000000 then .ref b
  else if k = 1000001 then .ref tB
  else if k = 1000002 then fm
  else if 1000010 ≤ k ∧ k < 1000010 + 6 then .ref (adK (k - 1000010))
  else if 1000020 ≤ k ∧ k < 1000020 + 6 then .ref (adV (k - 1000020))
  else .null
theorem zt_sub {w : Jvm.Cond} (h : w ∈ zt_Ts) : w ∈ lw_tbl := (List.mem_filter.mp h).1
abbrev zt_flat : List Jvm.Cond := flatC (Jvm.Cond.and given_1 narrow_1)
theorem zt_g1 : Jvm.Cond.arrayOf (.static "RowRing$RuleReader" "BINDS" "[I") .int ∈ zt_flat := by decide +kernel
theorem zt_g2 : Jvm.Cond.eq (.length (.static "RowRing$RuleReader" "BINDS" "[I")) (.int 16) ∈ zt_flat := by decide +kernel
theorem zt_g3 : ∀ j, j < 16 → Jvm.Cond.eq (.elem (.static "RowRing$RuleReader" "BINDS" "[I") (.int (Int32.ofNat j))) (.int (zt_bind j)) ∈ zt_flat := by decide +kernel
theorem zt_g4 : Jvm.Cond.eq (.static "java/lang/String" "COMPACT_STRINGS" "Z") (.int 1) ∈ zt_flat := by decide +kernel
theorem zt_g5 : Jvm.Cond.isRef (.static "jdk/internal/util/Preconditions" "SIOOBE_FORMATTER" "Ljava/util/function/BiFunction;") ∈ zt_flat := by decide +kernel
theorem zt_g6 : ∀ i, i < 6 → Jvm.Cond.exactly (zt_tm i) "java/lang/String" ∈ zt_flat ∧ Jvm.Cond.eq (.field (zt_tm i) "java/lang/String" "coder" "B") (.int 0) ∈ zt_flat ∧ Jvm.Cond.arrayOf (.field (zt_tm i) "java/lang/String" "value" "[B") .byte ∈ zt_flat ∧ Jvm.Cond.eq (.length (.field (zt_tm i) "java/lang/String" "value" "[B")) (.int (Int32.ofNat (zt_lens.getD i 0))) ∈ zt_flat ∧ zt_lens.getD i 0 < 2 ^ 31 := by decide +kernel
theorem zt_g7 : ∀ i, i < 6 → ∀ j, j < zt_lens.getD i 0 → Jvm.Cond.eq (.elem (.field (zt_tm i) "java/lang/String" "value" "[B") (.int (Int32.ofNat j))) (.int ((zt_bts.getD i []).getD j 0)) ∈ zt_flat := by decide +kernel
theorem zt_g8 : ∀ i, i < 6 → ∀ j, j < 6 → i ≠ j → Jvm.Cond.not (.eq (zt_tm i) (zt_tm j)) ∈ zt_flat ∨ Jvm.Cond.not (.eq (zt_tm j) (zt_tm i)) ∈ zt_flat := by decide +kernel
theorem zt_g9 : ∀ q ∈ zt_SL, 1000010 ≤ q.2.2.2 ∧ q.2.2.2 < 1000010 + 6 ∧ zt_tm (q.2.2.2 - 1000010) = .string q.1 q.2.1 ∧ Jvm.Cond.stringRef q.1 q.2.1 q.2.2.1 ∈ lw_tbl := by decide +kernel
set_option maxHeartbeats 1000000 in
theorem zt_env {p : Program} {s : State} {m : MethodId} {meth : Method} {c : Code} {b L : Nat} {xs : Nat → Int32} (hL : L ≤ 1000000) (C0 : lw_At p s m meth c b L xs) : ∃ (D : va_G) (cA : FieldType → ClassId) (sp : Nat → Value), zz_rf sp ∧ sp 1000000 = .ref b ∧ zz_V D vwCl cA zt_U zt_SL zt_GL zt_OL (zt_X L xs) s.heap.size sp (fun q => s.heap.size ≤ q) s := by
  obtain ⟨hx, hb, hr, hml, hown, hts, hX, hbl, hlocks, hgv⟩ := C0
  have hs := flat_of_before _ hgv
  have hA : ∀ a : Nat, a < s.heap.size → ¬ (fun q : Nat => s.heap.size ≤ q) a := fun a h => Nat.not_le.mpr h
  -- the classes
  have hcls : ∀ k : Nat, ∃ q : ClassId × (Nat → Nat), ∀ r : vw_C, vwCl[k]? = some r → u_Kn s r.1 r.2.1 r.2.2 q.1 q.2 := by
    intro k
    cases hk : vwCl[k]? with
    | none => exact ⟨(0, fun _ => 0), fun r h => by cases h⟩
    | some r =>
      obtain ⟨h1, h2⟩ := zt_cls_ok r (List.mem_of_getElem? hk)
      obtain ⟨cC, iS, h3⟩ := u_known (C := r.1) (T := r.2.1) (N := r.2.2) (n := r.2.2) hts (fun w hw => zt_sub (h1 w hw)) (hts _ (zt_sub h2))
      exact ⟨(cC, iS), fun r' h => by cases h; exact h3⟩
  obtain ⟨dd, hdd⟩ := Classical.axiomOfChoice hcls
  -- the array classes
  have harr : ∀ ty : FieldType, ∃ q : ClassId, ty ∈ zt_U → ArrOfT s q ty ∧ va_RA s q ty := by
    intro ty
    have prim : Jvm.Cond.arrayClass ty ∈ zt_Ts → (∀ q : ClassId, s.vm.findClass ("[" ++ ty.toString) = some q → va_RA s q ty) → ∃ q : ClassId, ArrOfT s q ty ∧ va_RA s q ty := by
      intro h1 h2
      obtain ⟨c1, k1, comp, g1, g2, g3⟩ := Cond.arrayClass_spec (hts _ (zt_sub h1))
      exact ⟨c1, fun n z => ⟨(fun k h => by cases h), k1, g2, comp, g3⟩, h2 c1 g1⟩
    by_cases hu : ty ∈ zt_U
    · have hcase : ty = .int ∨ ty = .long ∨ ty = .byte ∨ ty = .boolean ∨ ∃ C ∈ zt_OL.1, ty = .object C := by
        simp only [zt_U, zt_OL, List.mem_cons, List.not_mem_nil, or_false] at hu ⊢
        rcases hu with h | h | h | h | h
        · exact Or.inl h
        · exact Or.inr (Or.inl h)
        · exact Or.inr (Or.inr (Or.inl h))
        · exact Or.inr (Or.inr (Or.inr (Or.inl h)))
        · refine Or.inr (Or.inr (Or.inr (Or.inr ?_)))
          rcases h with h | h | h
          · exact ⟨_, Or.inl rfl, h⟩
          · exact ⟨_, Or.inr (Or.inl rfl), h⟩
          · exact ⟨_, Or.inr (Or.inr rfl), h⟩
      rcases hcase with rfl | rfl | rfl | rfl | ⟨C, hC, rfl⟩
      · obtain ⟨q, h⟩ := prim zt_NA_int (fun _ h => h); exact ⟨q, fun _ => h⟩
      · obtain ⟨q, h⟩ := prim zt_NA_long (fun _ h => h); exact ⟨q, fun _ => h⟩
      · obtain ⟨q, h⟩ := prim zt_NA_byte (fun _ h => h); exact ⟨q, fun _ => h⟩
      · obtain ⟨q, h⟩ := prim zt_NA_boolean (fun _ h => h); exact ⟨q, fun _ => h⟩
      · obtain ⟨comp, c1, k1, g1, g2, g3, g4, g5⟩ := Cond.arrayOver_spec (hts _ (zt_AO_ok C hC))
        exact ⟨c1, fun _ => ⟨fun n z => ⟨(fun k h => by cases h), k1, g3, comp, g4⟩, k1, comp, g3, g4, g1, g5⟩⟩
    · exact ⟨0, fun h => absurd h hu⟩
  obtain ⟨cA, hcA⟩ := Classical.axiomOfChoice harr
  -- the static array, the strings, the formatter
  obtain ⟨tB, htB, hTB⟩ := va_Tof (tm := .static "RowRing$RuleReader" "BINDS" "[I") (ty := .int) (N := 16) (f := fun j => .int (zt_bind j)) (A := fun q : Nat => s.heap.size ≤ q) (by decide) (hs _ zt_g1) (va_eqt (hs _ zt_g2)) (fun j hj => va_eqt (hs _ (zt_g3 j hj))) hA
  obtain ⟨adK, adV, hS, hev⟩ := vk_Sof (N := 6) (tm := zt_tm) (len := zt_lens) (byt := zt_bts) (A := fun q : Nat => s.heap.size ≤ q) (fun i hi => (zt_g6 i hi).2.2.2.2) (fun i hi => hs _ (zt_g6 i hi).1) (fun i hi => hs _ (zt_g6 i hi).2.1) (fun i hi => hs _ (zt_g6 i hi).2.2.1) (fun i hi => hs _ (zt_g6 i hi).2.2.2.1) (fun i hi j hj => hs _ (zt_g7 i hi j hj)) (fun i j hi hj hij => (zt_g8 i hi j hj hij).imp (fun h => hs _ h) (fun h => hs _ h)) hA
  have hfm : ∃ fm : Value, (fm = .null ∨ ∃ a, fm = .ref a) ∧ va_Z "jdk/internal/util/Preconditions" "SIOOBE_FORMATTER" "Ljava/util/function/BiFunction;" fm (fun q : Nat => s.heap.size ≤ q) s s.heap := by
    rcases va_Zqof (hts _ (List.mem_of_getElem? (i := 572) (by decide +kernel))) (hts _ (List.mem_of_getElem? (i := 128) (by decide +kernel))) (hs _ zt_g5) hA with h | ⟨t, h⟩
    · exact ⟨.null, Or.inl rfl, h⟩
    · exact ⟨.ref t, Or.inr ⟨t, rfl⟩, h⟩
  obtain ⟨fm, hfm1, hfm2⟩ := hfm
  refine ⟨(fun k => (dd k).1, fun k => (dd k).2), cA, zt_sp b tB fm adK adV, ?_, rfl, ⟨?_, ?_⟩, ?_, ?_, ⟨?_, ?_⟩, ?_⟩
  · intro k
    unfold zt_sp
    split
    · exact Or.inr ⟨_, rfl⟩
    · split
      · exact Or.inr ⟨_, rfl⟩
      · split
        · exact hfm1
        · split
          · exact Or.inr ⟨_, rfl⟩
          · split
            · exact Or.inr ⟨_, rfl⟩
            · exact Or.inl rfl
  · intro k r hk
    exact hdd k r hk
  · intro k q hk
    obtain ⟨ty, hty, rfl⟩ := List.mem_map.mp (List.mem_of_getElem? hk)
    exact hcA ty hty
  · intro q hq
    obtain ⟨h1, h2, h3, h4⟩ := zt_g9 q hq
    refine ⟨adK (q.2.2.2 - 1000010), ?_, by omega, vk_R.of (hts _ h4) ?_⟩
    · unfold zt_sp
      rw [if_neg (by omega), if_neg (by omega), if_neg (by omega), if_pos ⟨h1, h2⟩]
    · rw [← h3]
      exact hev _ (by omega)
  · intro q hq
    simp only [zt_GL, List.mem_cons, List.not_mem_nil, or_false] at hq
    rcases hq with rfl | rfl | rfl
    · exact va_Zof (hts _ (List.mem_of_getElem? (i := 732) (by decide +kernel))) (hts _ (List.mem_of_getElem? (i := 120) (by decide +kernel))) htB hA
    · exact va_Zof (hts _ (List.mem_of_getElem? (i := 556) (by decide +kernel))) (hts _ (List.mem_of_getElem? (i := 126) (by decide +kernel))) (va_eqi (hs _ zt_g4)) hA
    · exact hfm2
  · intro C hC
    exact va_AO.of (hts _ (zt_AO_ok C hC))
  · intro q hq
    exact va_Nw.of rfl (hts _ (zt_N_ok q hq))
  · intro k hk
    by_cases h0 : k = 1000000
    · subst h0
      refine Or.inr ⟨b, rfl, Or.inl ⟨L, xs, rfl, ?_⟩⟩
      obtain ⟨scr, g1, g2, g3, g4, g5⟩ := hX
      exact ⟨scr, g1, g2, g3, by omega, by rw [g4] <;> rfl, g5, hA b hbl⟩
    · by_cases h1 : k = 1000001
      · subst h1
        exact Or.inr ⟨tB, rfl, Or.inl ⟨_, _, rfl, hTB⟩⟩
      · by_cases h2 : 1000010 ≤ k ∧ k < 1000010 + 6
        · have hi : k - 1000010 < 6 := by omega
          obtain ⟨g1, g2, g3, g4⟩ := hS.1 _ hi
          refine Or.inr ⟨adK (k - 1000010), ?_, Or.inr (Or.inr ⟨.ref (k + 10), ?_, g1, ?_, g2⟩)⟩
          · unfold zt_sp
            rw [if_neg h0, if_neg h1, if_neg (by omega), if_pos h2]
          · unfold zt_X
            rw [if_neg h0, if_neg h1, if_pos h2]
          · have e : zz_v s.heap.size (zt_sp b tB fm adK adV) (.ref (k + 10)) = .ref (adV (k - 1000010)) := by
              have : ¬ k + 10 < 1000000 := by omega
              simp only [zz_v, this, if_false]
              unfold zt_sp
              rw [if_neg (by omega), if_neg (by omega), if_neg (by omega), if_neg (by omega), if_pos (by omega)]
              rw [show k + 10 - 1000020 = k - 1000010 from by omega]
            rw [e]
            exact g3
        · by_cases h3 : 1000020 ≤ k ∧ k < 1000020 + 6
          · have hi : k - 1000020 < 6 := by omega
            obtain ⟨g1, g2, g3, g4⟩ := hS.1 _ hi
            refine Or.inr ⟨adV (k - 1000020), ?_, Or.inr (Or.inl ⟨_, _, ?_, g4⟩)⟩
            · unfold zt_sp
              rw [if_neg h0, if_neg h1, if_neg (by omega), if_neg h2, if_pos h3]
            · unfold zt_X
              rw [if_neg h0, if_neg h1, if_neg h2, if_pos h3]
          · refine Or.inl ?_
            unfold zt_X
            rw [if_neg h0, if_neg h1, if_neg h2, if_neg h3]
/-- THE LAW, out of what the small machine answers -/
theorem zt_start {p : Program} {e : Env} {s : State} {m : MethodId} {below : List Frame} {meth : Method} {c : Code} (l : Launch) {b L : Nat} {xs : Nat → Int32} (hL : L ≤ 3072) (C0 : lw_At p s m meth c b L xs) (f : Nat) (h' : ZH) (hz : zz_run zt_ms zt_nm zt_df (zt_X L xs) 20 f zt_law 0 [(0, .ref 1000000)] [] zt_h0 = some (some (.int 1), h')) (h1 : h'.1 ≤ 600000) (h2 : h'.2.1 ≤ 7302250) :
    W p l e room_1 s m #[Value.ref b] below meth c s.heap [] 0 0 (lw_Z below #[Value.ref b] s) (entryFrame m ([Value.ref b] : List Value).toArray 4) := by
  obtain ⟨D, cA, sp, hr, hsp, hV⟩ := zt_env (by omega) C0
  obtain ⟨hx, hb, hret, hml, hown, hts, hX, hbl, hlocks, hgv⟩ := id C0
  have hl := lv_entry ([.ref b]) (n := 4) (Nat.le_of_ble_eq_true rfl)
  rw [lg_entry_eq]
  generalize (lg_sl ([.ref b]) ++ List.replicate (4 - (lg_sl ([.ref b])).length) Slot.unset).toArray = la at hl ⊢
  have hl : lv_has la 4 (zz_ls s.heap.size sp [(0, .ref 1000000)]) := by
    have : zz_ls s.heap.size sp [(0, .ref 1000000)] = [(0, .ref b)] := by
      simp only [zz_ls, List.map_cons, List.map_nil, zz_v, hsp]
      rfl
    rw [this]
    exact hl
  have hP : zz_P D vwCl zt_U s.heap.size sp cA zt_h0 s.heap := ⟨rfl, Nat.zero_le _, fun k hk => absurd hk (Nat.not_lt_zero _), fun _ _ => rfl, fun k ty a h => by cases h⟩
  have key := zz_walk (l := l) zt_fix hr (A := fun q => s.heap.size ≤ q) (fun _ h => h) f 20 zt_law 0 [(0, .ref 1000000)] [] zt_h0 (some (.int 1)) h' zt_oklaw hz p e room_1 s m #[Value.ref b] below meth c s.heap [] la (lw_Z below #[Value.ref b] s) 0 0 ⟨hx, hb, hml, hown, fun q => absurd q (by decide), fun w hw => hts w (zt_sub hw), hV⟩ (Nat.le_of_ble_eq_true rfl) (Nat.le_of_ble_eq_true rfl) h1 h2 (Nat.le_refl _) (Nat.le_refl _) va_S.rf hP hl ?_
  · exact key
  · intro pc ins len aux cv H locs la st g1 g2 g3 g4 g5
    have hins : ins = .ireturn ∧ st = [.int 1] := by
      unfold zz_R at g1
      split at g1
      · split at g1
        · cases g1; exact ⟨rfl, rfl⟩
        · split at g1
          · cases g1; exact ⟨rfl, rfl⟩
          · cases g1
        · split at g1
          · cases g1; exact ⟨rfl, rfl⟩
          · cases g1
        · split at g1
          · cases g1; exact ⟨rfl, rfl⟩
          · cases g1
        · cases g1
      · split at g1
        · cases g1
        · cases g1
      · split at g1
        · split at g1
          · cases g1
          · cases g1
        · cases g1
      · split at g1
        · cases g1
        · cases g1
      · cases g1
    obtain ⟨rfl, rfl⟩ := hins
    obtain rfl := g3
    refine va_forget (fun q hq => g5.2.2 q hq) ?_
    refine W.widen (k := 600000) (n := 7302250) h1 h2 ?_
    exact lw_ret hx hb hret hlocks g2
