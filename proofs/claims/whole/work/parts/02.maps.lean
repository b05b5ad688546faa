/-! What the small machine's values, locals and cells are in the real one: cell k is the real cell b + k; the read only ones are where sp says. -/
def zz_v (b : Nat) (sp : Nat → Value) (v : Value) : Value := match v with
  | .ref k => if k < 1000000 then .ref (b + k) else sp k
  | v => v
def zz_rf (sp : Nat → Value) : Prop := ∀ k, sp k = .null ∨ ∃ a, sp k = .ref a
abbrev zz_st (b : Nat) (sp : Nat → Value) (st : List Value) : List Value := st.map (zz_v b sp)
abbrev zz_ls (b : Nat) (sp : Nat → Value) (ls : ZL) : ZL := ls.map (fun q => (q.1, zz_v b sp q.2))
theorem zz_v_int (b : Nat) (sp : Nat → Value) (x : Int32) : zz_v b sp (.int x) = .int x := rfl
theorem zz_v_long (b : Nat) (sp : Nat → Value) (x : Int64) : zz_v b sp (.long x) = .long x := rfl
theorem zz_v_null (b : Nat) (sp : Nat → Value) : zz_v b sp .null = .null := rfl
theorem zz_v_ref {b : Nat} {sp : Nat → Value} {k : Nat} (h : k < 1000000) : zz_v b sp (.ref k) = .ref (b + k) := by simp [zz_v, h]
theorem zz_v_isref {b : Nat} {sp : Nat → Value} (hr : zz_rf sp) (k : Nat) : zz_v b sp (.ref k) = .null ∨ ∃ a, zz_v b sp (.ref k) = .ref a := by
  by_cases h : k < 1000000
  · exact Or.inr ⟨b + k, zz_v_ref h⟩
  · simp only [zz_v, h, if_false]
    exact hr k
theorem zz_cat {b : Nat} {sp : Nat → Value} (hr : zz_rf sp) (v : Value) : (zz_v b sp v).category = v.category := by
  cases v with
  | ref k => rcases zz_v_isref (b := b) hr k with h | ⟨a, h⟩ <;> rw [h] <;> rfl
  | _ => rfl
theorem zz_cats_map {b : Nat} {sp : Nat → Value} (hr : zz_rf sp) (vs : List Value) : ((zz_st b sp vs).map fun v => v.category).sum = zz_cats vs := by
  unfold zz_cats
  rw [List.map_map]
  congr 1
  apply List.map_congr_left
  intro v _
  exact zz_cat hr v
theorem zz_get_mem {ls : ZL} {i : Nat} {v : Value} (h : zz_get ls i = some v) : (i, v) ∈ ls := by
  unfold zz_get at h
  obtain ⟨q, hq, rfl⟩ := Option.map_eq_some_iff.mp h
  have h1 := List.find?_some hq
  have h2 := List.mem_of_find?_eq_some hq
  simp at h1
  rw [← h1]
  exact h2
theorem zz_get_at {b nL : Nat} {sp : Nat → Value} {la : Array Slot} {ls : ZL} {i : Nat} {v : Value} (hl : lv_has la nL (zz_ls b sp ls)) (h : zz_get ls i = some v) : la[i]? = some (.val (zz_v b sp v)) :=
  hl.2.2 (i, zz_v b sp v) (List.mem_map.mpr ⟨(i, v), zz_get_mem h, rfl⟩)
theorem zz_get_place {b nL : Nat} {sp : Nat → Value} {la : Array Slot} {ls : ZL} {i : Nat} {v : Value} (hl : lv_has la nL (zz_ls b sp ls)) (h : zz_get ls i = some v) : ∃ k : Nat, (zz_ls b sp ls)[k]? = some (i, zz_v b sp v) :=
  List.getElem?_of_mem (List.mem_map.mpr ⟨(i, v), zz_get_mem h, rfl⟩)
theorem zz_set1_map {b : Nat} {sp : Nat → Value} (hr : zz_rf sp) (ls : ZL) (i : Nat) (v : Value) : (i, zz_v b sp v) :: (zz_ls b sp ls).filter (fun q => !(q.1 == i) && !(q.1 + 1 == i && q.2.category == 2)) = zz_ls b sp (zz_set1 ls i v) := by
  unfold zz_set1 zz_ls
  rw [List.map_cons, List.filter_map]
  congr 2
  apply List.filter_congr
  intro q _
  simp only [Function.comp_apply, zz_cat hr]
theorem zz_set2_map {b : Nat} {sp : Nat → Value} (hr : zz_rf sp) (ls : ZL) (i : Nat) (v : Value) : (i, zz_v b sp v) :: (zz_ls b sp ls).filter (fun q => !(q.1 == i) && (!(q.1 == i + 1) && !(q.1 + 1 == i && q.2.category == 2))) = zz_ls b sp (zz_set2 ls i v) := by
  unfold zz_set2 zz_ls
  rw [List.map_cons, List.filter_map]
  congr 2
  apply List.filter_congr
  intro q _
  simp only [Function.comp_apply, zz_cat hr]
theorem zz_args_map {b : Nat} {sp : Nat → Value} (hr : zz_rf sp) : ∀ (vs : List Value) (i : Nat), lv_args i (zz_st b sp vs) = zz_ls b sp (lv_args i vs)
  | [], _ => rfl
  | v :: vs, i => by
    show (i, zz_v b sp v) :: lv_args (if (zz_v b sp v).category = 2 then i + 2 else i + 1) (zz_st b sp vs) = (i, zz_v b sp v) :: zz_ls b sp (lv_args (if v.category = 2 then i + 2 else i + 1) vs)
    rw [zz_cat hr, zz_args_map hr vs]
/-- a cell -/
def zz_e (b : Nat) (sp : Nat → Value) (cA : FieldType → ClassId) (e : ZE) : va_E := match e with
  | .inl (ty, n, .inl f) => .inl (cA ty, n, .inl f)
  | .inl (ty, n, .inr (.inl f)) => .inl (cA ty, n, .inr (.inl f))
  | .inl (ty, n, .inr (.inr (.inl f))) => .inl (cA ty, n, .inr (.inr (.inl f)))
  | .inl (ty, n, .inr (.inr (.inr (.inl f)))) => .inl (cA ty, n, .inr (.inr (.inr (.inl f))))
  | .inl (ty, n, .inr (.inr (.inr (.inr f)))) => .inl (cA ty, n, .inr (.inr (.inr (.inr (fun j => (f j).map (fun k => b + k))))))
  | .inr (ci, fs) => .inr (ci, fs.map (zz_v b sp))
/-- the heap -/
def zz_P (D : va_G) (cl : List vw_C) (U : List FieldType) (b : Nat) (sp : Nat → Value) (cA : FieldType → ClassId) (h : ZH) (H : Heap) : Prop :=
  H.size = b + h.1 ∧ h.1 ≤ 1000000 ∧ (∀ k, k < h.1 → va_at D cl (b + k, zz_e b sp cA (h.2.2 k)) H) ∧ (∀ k, h.1 ≤ k → h.2.2 k = zz_junk) ∧ ∀ (k : Nat) (ty : FieldType) (a : vp_A), h.2.2 k = .inl (ty, a) → ty ∈ U
/-- what is read only: at the state s, no cell of A -/
def zz_X (x : Nat → ZE) (b : Nat) (sp : Nat → Value) (A : Nat → Prop) (s : State) : Prop := ∀ k, 1000000 ≤ k →
  x k = zz_junk ∨ ∃ t, sp k = .ref t ∧
    ((∃ n f, x k = .inl (.array .int, n, .inl f) ∧ va_T .int t n (fun j => .int (f j)) A s s.heap) ∨
     (∃ n f, x k = .inl (.array .byte, n, .inl f) ∧ va_T .byte t n (fun j => .int (f j)) A s s.heap) ∨
     (∃ v, x k = .inr (50, [v, .int 0]) ∧ va_O "java/lang/String" t A s s.heap ∧ va_OF "java/lang/String" "value" "[B" (zz_v b sp v) t A s s.heap ∧ va_OF "java/lang/String" "coder" "B" (.int 0) t A s s.heap))
/-- all that is known of a state beside its own cells: the classes, the array classes of the types U, String constants, statics, classes of references that arrays hold -/
def zz_V (D : va_G) (cl : List vw_C) (cA : FieldType → ClassId) (U : List FieldType) (SL : List (String × Nat × String × Nat)) (GL : List (String × String × String × Value)) (OL : ZO) (x : Nat → ZE) (b : Nat) (sp : Nat → Value) (A : Nat → Prop) (s : State) : Prop :=
  va_K D cl (U.map fun ty => (cA ty, ty)) s ∧ (∀ q ∈ SL, ∃ a, sp q.2.2.2 = .ref a ∧ 1000000 ≤ q.2.2.2 ∧ vk_R q.1 q.2.1 q.2.2.1 a s) ∧ (∀ q ∈ GL, va_Z q.1 q.2.1 q.2.2.1 (zz_v b sp q.2.2.2) A s s.heap) ∧ ((∀ C ∈ OL.1, va_AO C s) ∧ ∀ q ∈ OL.2, va_Nw (.fieldLinkNest q.1 q.2.1 q.2.2.1 q.2.2.2.1 q.2.2.2.2.1 q.2.2.2.2.2) s) ∧ zz_X x b sp A s
theorem zz_V.moved {D : va_G} {cl : List vw_C} {cA : FieldType → ClassId} {U : List FieldType} {SL : List (String × Nat × String × Nat)} {GL : List (String × String × String × Value)} {OL : ZO} {x : Nat → ZE} {b : Nat} {sp : Nat → Value} {A : Nat → Prop} {s t : State}
    (h : zz_V D cl cA U SL GL OL x b sp A s) (hW : s.WarmedH t.vm) (hq : ∀ a : Nat, a < s.heap.size → ¬ A a → t.heap[a]? = s.heap[a]?) : zz_V D cl cA U SL GL OL x b sp A t := by
  obtain ⟨h1, h2, h3, h4, h5⟩ := h
  have hal := hW.alike
  refine ⟨va_K.moved hal h1, fun q hq' => ?_, fun q hq' => ((h3 q hq').moved hal).kept hq, ⟨fun C hC => va_AO.moved hal (h4.1 C hC), fun q hq' => va_Nw.warmF hW (h4.2 q hq')⟩, fun k hk => ?_⟩
  · obtain ⟨a, e1, e2, e3⟩ := h2 q hq'
    exact ⟨a, e1, e2, e3.warm hW⟩
  · rcases h5 k hk with e | ⟨t', e1, e2⟩
    · exact Or.inl e
    · refine Or.inr ⟨t', e1, ?_⟩
      rcases e2 with ⟨n, f, e2, e3⟩ | ⟨n, f, e2, e3⟩ | ⟨v, e2, e3, e4, e5⟩
      · exact Or.inl ⟨n, f, e2, (e3.moved hal).kept hq⟩
      · exact Or.inr (Or.inl ⟨n, f, e2, (e3.moved hal).kept hq⟩)
      · exact Or.inr (Or.inr ⟨v, e2, (e3.moved hal).kept hq, (e4.moved hal).kept hq, (e5.moved hal).kept hq⟩)
