/-! Instructions that don't touch the heap. -/
section ZA
variable {p : Program} {l : Launch} {e : Env} {R : Room} {s : State} {m : MethodId} {args : Array Value} {below : List Frame} {meth : Method} {c : Code} {H : Heap} {locs : List Loc} {cells slots : Nat} {Q : State → Prop}
variable {cc : ByteArray} {b : Nat} {sp : Nat → Value}
theorem zz_simS (hexec : p.tables.exec = Jvm.exec) (hb : c.code = cc) (hr : zz_rf sp) {pc : Nat} {ins : Instr} {la : Array Slot} {st st' : List Value} (hz : zz_S ins st = some st') (hd : decode cc pc = .ok (ins, 1))
    (k : W p l e R s m args below meth c H locs cells slots Q (F0 m (pc + 1) la (zz_st b sp st'))) : W p l e R s m args below meth c H locs cells slots Q (F0 m pc la (zz_st b sp st)) := by
  have i2 : ∀ {f : Int32 → Int32 → Int32}, zz_i2 f st = some st' → ∃ x y r, st = .int y :: .int x :: r ∧ st' = .int (f x y) :: r := by
    intro f h
    unfold zz_i2 at h
    split at h
    · cases h; exact ⟨_, _, _, rfl, rfl⟩
    · cases h
  have l2 : ∀ {f : Int64 → Int64 → Int64}, zz_l2 f st = some st' → ∃ x y r, st = .long y :: .long x :: r ∧ st' = .long (f x y) :: r := by
    intro f h
    unfold zz_l2 at h
    split at h
    · cases h; exact ⟨_, _, _, rfl, rfl⟩
    · cases h
  have i2d : ∀ {f : Int32 → Int32 → Int32}, zz_i2d f st = some st' → ∃ x y r, st = .int y :: .int x :: r ∧ st' = .int (f x y) :: r ∧ ¬ y = 0 := by
    intro f h
    unfold zz_i2d at h
    split at h
    · split at h
      · cases h
      · next hne => cases h; exact ⟨_, _, _, rfl, rfl, hne⟩
    · cases h
  have l2d : ∀ {f : Int64 → Int64 → Int64}, zz_l2d f st = some st' → ∃ x y r, st = .long y :: .long x :: r ∧ st' = .long (f x y) :: r ∧ ¬ y = 0 := by
    intro f h
    unfold zz_l2d at h
    split at h
    · split at h
      · cases h
      · next hne => cases h; exact ⟨_, _, _, rfl, rfl, hne⟩
    · cases h
  have iun : ∀ {f : Int32 → Value}, zz_iun f st = some st' → ∃ x r, st = .int x :: r ∧ st' = f x :: r := by
    intro f h
    unfold zz_iun at h
    split at h
    · cases h; exact ⟨_, _, rfl, rfl⟩
    · cases h
  unfold zz_S at hz
  split at hz
  · obtain ⟨x, y, r, rfl, rfl⟩ := i2 hz; exact lv_iadd hexec hb hd k
  · obtain ⟨x, y, r, rfl, rfl⟩ := i2 hz; exact lv_isub hexec hb hd k
  · obtain ⟨x, y, r, rfl, rfl⟩ := i2 hz; exact lv_imul hexec hb hd k
  · obtain ⟨x, y, r, rfl, rfl⟩ := i2 hz; exact lv_iand hexec hb hd k
  · obtain ⟨x, y, r, rfl, rfl⟩ := i2 hz; exact lv_ior hexec hb hd k
  · obtain ⟨x, y, r, rfl, rfl⟩ := i2 hz; exact lv_ixor hexec hb hd k
  · obtain ⟨x, y, r, rfl, rfl⟩ := i2 hz; exact lv_ishl hexec hb hd k
  · obtain ⟨x, y, r, rfl, rfl⟩ := i2 hz; exact lv_ishr hexec hb hd k
  · obtain ⟨x, y, r, rfl, rfl⟩ := i2 hz; exact lv_iushr hexec hb hd rfl k
  · obtain ⟨x, y, r, rfl, rfl, hne⟩ := i2d hz; exact lv_idiv hexec hb hd hne k
  · obtain ⟨x, y, r, rfl, rfl, hne⟩ := i2d hz; exact lv_irem hexec hb hd hne k
  · obtain ⟨x, y, r, rfl, rfl⟩ := l2 hz; exact lv_ladd hexec hb hd k
  · obtain ⟨x, y, r, rfl, rfl⟩ := l2 hz; exact lv_lsub hexec hb hd k
  · obtain ⟨x, y, r, rfl, rfl⟩ := l2 hz; exact lv_lmul hexec hb hd k
  · obtain ⟨x, y, r, rfl, rfl⟩ := l2 hz; exact lv_land hexec hb hd k
  · obtain ⟨x, y, r, rfl, rfl⟩ := l2 hz; exact lv_lor hexec hb hd k
  · obtain ⟨x, y, r, rfl, rfl, hne⟩ := l2d hz; exact lv_ldiv hexec hb hd hne k
  · obtain ⟨x, y, r, rfl, rfl, hne⟩ := l2d hz; exact lv_lrem hexec hb hd hne k
  · split at hz
    · cases hz; exact lv_lshl hexec hb hd rfl k
    · cases hz
  · split at hz
    · cases hz; exact W.lcmp hexec hb hd k
    · cases hz
  · split at hz
    · cases hz; exact lv_l2i hexec hb hd rfl k
    · cases hz
  · obtain ⟨x, r, rfl, rfl⟩ := iun hz; exact lv_i2l hexec hb hd rfl k
  · obtain ⟨x, r, rfl, rfl⟩ := iun hz; exact lv_i2b hexec hb hd rfl k
  · obtain ⟨x, r, rfl, rfl⟩ := iun hz; exact lv_i2c hexec hb hd rfl k
  · split at hz
    · split at hz
      · next hc => cases hz; exact lv_dup hexec hb hd (by rw [zz_cat hr]; exact hc) k
      · cases hz
    · cases hz
  · split at hz
    · split at hz
      · next hc => cases hz; exact lv_dup2_11 hexec hb hd (by rw [zz_cat hr]; exact hc.1) (by rw [zz_cat hr]; exact hc.2) k
      · cases hz
    · cases hz
  · split at hz
    · split at hz
      · next hc => cases hz; exact lv_pop hexec hb hd (by rw [zz_cat hr]; exact hc) k
      · cases hz
    · cases hz
  · cases hz
end ZA
