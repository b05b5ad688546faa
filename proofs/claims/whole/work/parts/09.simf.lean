/-! THE WALK: what the small machine answers, the real one answers. -/
section ZF
variable {ms : List ZM} {nm : Nat → Option String} {df : Nat → List Value} {x : Nat → ZE}
theorem zz_exec_mono {m : ZM} {i : ZI} {ls : ZL} {st : List Value} {h : ZH} {q : Nat × ZL × List Value × ZH} (hz : zz_exec ms nm df x m i ls st h = some (.inl q)) : h.1 ≤ q.2.2.2.1 ∧ h.2.1 ≤ q.2.2.2.2.1 := by
  unfold zz_exec at hz
  split at hz
  · obtain ⟨w, -, e⟩ := Option.map_eq_some_iff.mp hz; cases e; exact ⟨Nat.le_refl _, Nat.le_refl _⟩
  · obtain ⟨w, -, e⟩ := Option.map_eq_some_iff.mp hz; cases e; exact ⟨Nat.le_refl _, Nat.le_refl _⟩
  · obtain ⟨w, -, e⟩ := Option.map_eq_some_iff.mp hz; cases e; exact ⟨Nat.le_refl _, Nat.le_refl _⟩
  · split at hz
    · obtain ⟨w, -, e⟩ := Option.map_eq_some_iff.mp hz; cases e; exact ⟨Nat.le_succ _, Nat.le_add_right _ _⟩
    · cases hz
  · obtain ⟨w, -, e⟩ := Option.map_eq_some_iff.mp hz; cases e
  · split at hz
    · obtain ⟨w, -, e⟩ := Option.map_eq_some_iff.mp hz; cases e
    · cases hz
  · obtain ⟨w, -, e⟩ := Option.map_eq_some_iff.mp hz; cases e; exact ⟨Nat.le_refl _, Nat.le_refl _⟩
  · split at hz
    · split at hz
      · cases hz; exact ⟨Nat.le_refl _, Nat.le_refl _⟩
      · cases hz
    · cases hz
theorem zz_exec_ret {m : ZM} {i : ZI} {ls : ZL} {st : List Value} {h : ZH} {q : Option Value × ZH} (hz : zz_exec ms nm df x m i ls st h = some (.inr (.inl q))) : q.2 = h := by
  unfold zz_exec at hz
  split at hz
  · obtain ⟨w, -, e⟩ := Option.map_eq_some_iff.mp hz; cases e
  · obtain ⟨w, -, e⟩ := Option.map_eq_some_iff.mp hz; cases e
  · obtain ⟨w, -, e⟩ := Option.map_eq_some_iff.mp hz; cases e
  · split at hz
    · obtain ⟨w, -, e⟩ := Option.map_eq_some_iff.mp hz; cases e
    · cases hz
  · obtain ⟨w, -, e⟩ := Option.map_eq_some_iff.mp hz; cases e; rfl
  · split at hz
    · obtain ⟨w, -, e⟩ := Option.map_eq_some_iff.mp hz; cases e
    · cases hz
  · obtain ⟨w, -, e⟩ := Option.map_eq_some_iff.mp hz; cases e
  · split at hz
    · split at hz
      · cases hz
      · cases hz
    · cases hz
theorem zz_run_mono : ∀ (f d : Nat) (m : ZM) (pc : Nat) (ls : ZL) (st : List Value) (h : ZH) (r : Option Value) (h' : ZH), zz_run ms nm df x d f m pc ls st h = some (r, h') → h.1 ≤ h'.1 ∧ h.2.1 ≤ h'.2.1 := by
  intro f
  induction f with
  | zero => intro d m pc ls st h r h' hz; simp [zz_run] at hz
  | succ f ih =>
    intro d m pc ls st h r h' hz
    unfold zz_run at hz
    split at hz
    · cases hz
    · split at hz
      · cases hz
      · next q hq =>
        have h1 := zz_exec_mono hq
        have h2 := ih _ _ _ _ _ _ _ _ hz
        exact ⟨Nat.le_trans h1.1 h2.1, Nat.le_trans h1.2 h2.2⟩
      · next q hq =>
        have h1 := zz_exec_ret hq
        cases hz
        simp only at h1
        subst h1
        exact ⟨Nat.le_refl _, Nat.le_refl _⟩
      · split at hz
        · cases hz
        · split at hz
          · cases hz
          · next w hw =>
            have h1 := ih _ _ _ _ _ _ _ _ hw
            have h2 := ih _ _ _ _ _ _ _ _ hz
            exact ⟨Nat.le_trans h1.1 h2.1, Nat.le_trans h1.2 h2.2⟩
end ZF
