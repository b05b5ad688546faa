/-! THE PURE LAYER: what a run of the small machine comes to. -/
section ZP
variable {ms : List ZM} {nm : Nat → Option String} {df : Nat → List Value} {x : Nat → ZE}
/-- more steps, more depth: the same answer -/
theorem zz_run_more : ∀ (f d : Nat) (m : ZM) (pc : Nat) (ls : ZL) (st : List Value) (h : ZH) (w : Option Value × ZH), zz_run ms nm df x d f m pc ls st h = some w → ∀ f' d' : Nat, f ≤ f' → d ≤ d' → zz_run ms nm df x d' f' m pc ls st h = some w := by
  intro f
  induction f with
  | zero => intro d m pc ls st h w hz; simp [zz_run] at hz
  | succ f ih =>
    intro d m pc ls st h w hz f' d' hf hd
    obtain ⟨f2, rfl⟩ : ∃ k, f' = k + 1 := ⟨f' - 1, by omega⟩
    have hf2 : f ≤ f2 := by omega
    unfold zz_run at hz ⊢
    split at hz
    · cases hz
    · next i hi =>
      split at hz
      · cases hz
      · next q hq => exact ih _ _ _ _ _ _ _ hz f2 d' hf2 hd
      · next q hq => exact hz
      · next q hq =>
        split at hz
        · cases hz
        · next d1 =>
          obtain ⟨d2, rfl⟩ : ∃ k, d' = k + 1 := ⟨d' - 1, by omega⟩
          split at hz
          · cases hz
          · next w1 hw1 =>
            have h1 := ih _ _ _ _ _ _ _ hw1 f2 d2 hf2 (by omega)
            dsimp only
            rw [h1]
            exact ih _ _ _ _ _ _ _ hz f2 (d2 + 1) hf2 hd
def zz_wp (ms : List ZM) (nm : Nat → Option String) (df : Nat → List Value) (x : Nat → ZE) (d : Nat) (m : ZM) (pc : Nat) (ls : ZL) (st : List Value) (h : ZH) (Q : Option Value → ZH → Prop) : Prop := ∃ f r h', zz_run ms nm df x d f m pc ls st h = some (r, h') ∧ Q r h'
/-- a method's contract -/
def zz_ct (ms : List ZM) (nm : Nat → Option String) (df : Nat → List Value) (x : Nat → ZE) (d : Nat) (m : ZM) (as : List Value) (h : ZH) (Q : Option Value → ZH → Prop) : Prop := zz_wp ms nm df x d m 0 (lv_args 0 as) [] h Q
variable {d : Nat} {m : ZM} {pc : Nat} {ls : ZL} {st : List Value} {h : ZH} {Q : Option Value → ZH → Prop}
theorem zz_wp.mono {Q' : Option Value → ZH → Prop} (hw : zz_wp ms nm df x d m pc ls st h Q) (hq : ∀ r h', Q r h' → Q' r h') : zz_wp ms nm df x d m pc ls st h Q' := by
  obtain ⟨f, r, h', h1, h2⟩ := hw
  exact ⟨f, r, h', h1, hq r h' h2⟩
theorem zz_wp.up {d' : Nat} (hw : zz_wp ms nm df x d m pc ls st h Q) (hd : d ≤ d') : zz_wp ms nm df x d' m pc ls st h Q := by
  obtain ⟨f, r, h', h1, h2⟩ := hw
  exact ⟨f, r, h', zz_run_more _ _ _ _ _ _ _ _ h1 _ _ (Nat.le_refl _) hd, h2⟩
theorem zz_wp_next {i : ZI} {q : Nat × ZL × List Value × ZH} (hi : zz_at m pc = some i) (he : zz_exec ms nm df x m i ls st h = some (.inl q)) (k : zz_wp ms nm df x d m q.1 q.2.1 q.2.2.1 q.2.2.2 Q) : zz_wp ms nm df x d m pc ls st h Q := by
  obtain ⟨f, r, h', h1, h2⟩ := k
  refine ⟨f + 1, r, h', ?_, h2⟩
  unfold zz_run
  simp only [hi, he]
  exact h1
theorem zz_wp_ret {i : ZI} {r : Option Value} (hi : zz_at m pc = some i) (he : zz_exec ms nm df x m i ls st h = some (.inr (.inl (r, h)))) (hq : Q r h) : zz_wp ms nm df x d m pc ls st h Q := by
  refine ⟨1, r, h, ?_, hq⟩
  unfold zz_run
  simp only [hi, he]
theorem zz_wp_call {i : ZI} {c : ZM} {as rest : List Value} {k : Nat} {Q1 : Option Value → ZH → Prop} (hi : zz_at m pc = some i) (he : zz_exec ms nm df x m i ls st h = some (.inr (.inr (c, as, rest)))) (hc : zz_ct ms nm df x k c as h Q1) (hk : k < d)
    (kk : ∀ r h', Q1 r h' → zz_wp ms nm df x d m (i.1 + i.2.2.1) ls (r.toList ++ rest) h' Q) : zz_wp ms nm df x d m pc ls st h Q := by
  obtain ⟨f1, r1, h1, e1, q1⟩ := hc
  obtain ⟨f2, r2, h2, e2, q2⟩ := kk r1 h1 q1
  obtain ⟨d1, rfl⟩ : ∃ k, d = k + 1 := ⟨d - 1, by omega⟩
  refine ⟨f1 + f2 + 1, r2, h2, ?_, q2⟩
  unfold zz_run
  simp only [hi, he]
  rw [zz_run_more _ _ _ _ _ _ _ _ e1 (f1 + f2) d1 (by omega) (by omega)]
  exact zz_run_more _ _ _ _ _ _ _ _ e2 (f1 + f2) (d1 + 1) (by omega) (Nat.le_refl _)
end ZP
