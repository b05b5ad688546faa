/-! The law: its steps, its loop. -/
def zInv (b : ZH) (h : ZH) : Prop := ∃ s, h = zk b s ∧ Rel s
theorem zz_ct_up {x : Nat → ZE} {d d' : Nat} {m : ZM} {as : List Value} {h : ZH} {Q Q' : Option Value → ZH → Prop} (hw : zz_ct zt_ms zt_nm zt_df x d m as h Q) (hd : d ≤ d') (hq : ∀ r h', Q r h' → Q' r h') : zz_ct zt_ms zt_nm zt_df x d' m as h Q' := zz_wp.up (zz_wp.mono hw hq) hd
theorem zl_of {L : Nat} {xs : Nat → Int32} {b : ZH} {s : ZS} {mR mM : ZM} {as : List Value} {dR dM : Nat} {fR fM : ZS → Option (Int32 × ZS)} (hR : Rel s) (hs : stp fR fM) (kR : ∀ {s0 : ZS} {w : Int32 × ZS}, fR s0 = some w → zz_ct zt_ms zt_nm zt_df (zt_X L xs) dR mR (.ref 0 :: as) (zk b s0) (qI b w)) (kM : ∀ {s0 : ZS} {w : Int32 × ZS}, fM s0 = some w → zz_ct zt_ms zt_nm zt_df (zt_X L xs) dM mM (.ref 216 :: as) (zk b s0) (qI b w)) (h1 : dR ≤ 19) (h2 : dM ≤ 19) : zz_ct zt_ms zt_nm zt_df (zt_X L xs) 19 mR (.ref 0 :: as) (zk b s) (fun r h1 => ∃ v, r = some (.int v) ∧ (∃ fs, zz_c h1 216 (.inr (11, fs))) ∧ zz_ct zt_ms zt_nm zt_df (zt_X L xs) 19 mM (.ref 216 :: as) h1 (fun r2 h2 => r2 = some (.int v) ∧ zInv b h2)) := by
  obtain ⟨w, e1, w2, e2, e3, e4⟩ := hs s hR
  refine zz_ct_up (kR e1) h1 (fun r h' hq => ?_)
  obtain ⟨rfl, rfl⟩ := hq
  refine ⟨w.1, rfl, ⟨_, zk_cModel⟩, zz_ct_up (kM e2) h2 (fun r2 h2 hq2 => ?_)⟩
  obtain ⟨rfl, rfl⟩ := hq2
  exact ⟨by rw [e3], _, rfl, e4⟩
theorem zl_feed {L : Nat} {xs : Nat → Int32} {b : ZH} : zl_step (zt_X L xs) (zInv b) zt_m108 zt_m143 5 := by
  rintro h as ⟨s, rfl, hR⟩ hl hv
  obtain ⟨a0, a1, a2, a3, a4, rfl⟩ : ∃ a0 a1 a2 a3 a4, as = [a0, a1, a2, a3, a4] := by
    match as, hl with
    | [a0, a1, a2, a3, a4], _ => exact ⟨_, _, _, _, _, rfl⟩
  obtain ⟨z0, rfl⟩ := hv a0 (by simp)
  obtain ⟨z1, rfl⟩ := hv a1 (by simp)
  obtain ⟨z2, rfl⟩ := hv a2 (by simp)
  obtain ⟨z3, rfl⟩ := hv a3 (by simp)
  obtain ⟨z4, rfl⟩ := hv a4 (by simp)
  exact zl_of hR (st_feed z0 z1 z2 z3 z4) (fun e => ok_Ring_feed e) (fun e => ok_Model_feed e) (by decide) (by decide)
theorem zl_end {L : Nat} {xs : Nat → Int32} {b : ZH} : zl_step (zt_X L xs) (zInv b) zt_m109 zt_m145 1 := by
  rintro h as ⟨s, rfl, hR⟩ hl hv
  obtain ⟨a0, rfl⟩ : ∃ a0, as = [a0] := by
    match as, hl with
    | [a0], _ => exact ⟨_, rfl⟩
  obtain ⟨z0, rfl⟩ := hv a0 (by simp)
  exact zl_of hR (st_end z0) (fun e => ok_Ring_end e) (fun e => ok_Model_end e) (by decide) (by decide)
theorem zl_smith {L : Nat} {xs : Nat → Int32} {b : ZH} : zl_step (zt_X L xs) (zInv b) zt_m110 zt_m181 0 := by
  rintro h as ⟨s, rfl, hR⟩ hl hv
  obtain rfl := List.eq_nil_of_length_eq_zero hl
  exact zl_of hR st_smith (fun e => ok_Ring_smith e) (fun e => ok_Model_smith e) (by decide) (by decide)
theorem zl_rule {L : Nat} {xs : Nat → Int32} {b : ZH} : zl_step (zt_X L xs) (zInv b) zt_m111 zt_m146 0 := by
  rintro h as ⟨s, rfl, hR⟩ hl hv
  obtain rfl := List.eq_nil_of_length_eq_zero hl
  exact zl_of hR st_rule (fun e => ok_Ring_rule e) (fun e => ok_Model_rule e) (by decide) (by decide)
theorem zl_force {L : Nat} {xs : Nat → Int32} {b : ZH} : zl_step (zt_X L xs) (zInv b) zt_m112 zt_m183 1 := by
  rintro h as ⟨s, rfl, hR⟩ hl hv
  obtain ⟨a0, rfl⟩ : ∃ a0, as = [a0] := by
    match as, hl with
    | [a0], _ => exact ⟨_, rfl⟩
  obtain ⟨z0, rfl⟩ := hv a0 (by simp)
  exact zl_of hR (st_force z0) (fun e => ok_Ring_force e) (fun e => ok_Model_force e) (by decide) (by decide)
theorem zl_pair {L : Nat} {xs : Nat → Int32} {b : ZH} : zl_step (zt_X L xs) (zInv b) zt_m113 zt_m185 2 := by
  rintro h as ⟨s, rfl, hR⟩ hl hv
  obtain ⟨a0, a1, rfl⟩ : ∃ a0 a1, as = [a0, a1] := by
    match as, hl with
    | [a0, a1], _ => exact ⟨_, _, rfl⟩
  obtain ⟨z0, rfl⟩ := hv a0 (by simp)
  obtain ⟨z1, rfl⟩ := hv a1 (by simp)
  exact zl_of hR (st_pair z0 z1) (fun e => ok_Ring_pair e) (fun e => ok_Model_pair e) (by decide) (by decide)
theorem zl_saying {L : Nat} {xs : Nat → Int32} {b : ZH} : zl_step (zt_X L xs) (zInv b) zt_m114 zt_m189 3 := by
  rintro h as ⟨s, rfl, hR⟩ hl hv
  obtain ⟨a0, a1, a2, rfl⟩ : ∃ a0 a1 a2, as = [a0, a1, a2] := by
    match as, hl with
    | [a0, a1, a2], _ => exact ⟨_, _, _, rfl⟩
  obtain ⟨z0, rfl⟩ := hv a0 (by simp)
  obtain ⟨z1, rfl⟩ := hv a1 (by simp)
  obtain ⟨z2, rfl⟩ := hv a2 (by simp)
  exact zl_of hR (st_saying z0 z1 z2) (fun e => ok_Ring_saying e) (fun e => ok_Model_saying e) (by decide) (by decide)
theorem zl_day {L : Nat} {xs : Nat → Int32} {b : ZH} : zl_step (zt_X L xs) (zInv b) zt_m117 zt_m193 0 := by
  rintro h as ⟨s, rfl, hR⟩ hl hv
  obtain rfl := List.eq_nil_of_length_eq_zero hl
  exact zl_of hR st_day (fun e => ok_Ring_day e) (fun e => ok_Model_day e) (by decide) (by decide)
theorem zl_say {L : Nat} {xs : Nat → Int32} {b : ZH} : zl_step (zt_X L xs) (zInv b) zt_m118 zt_m213 2 := by
  rintro h as ⟨s, rfl, hR⟩ hl hv
  obtain ⟨a0, a1, rfl⟩ : ∃ a0 a1, as = [a0, a1] := by
    match as, hl with
    | [a0, a1], _ => exact ⟨_, _, rfl⟩
  obtain ⟨z0, rfl⟩ := hv a0 (by simp)
  obtain ⟨z1, rfl⟩ := hv a1 (by simp)
  exact zl_of hR (st_say z0 z1) (fun e => ok_Ring_say e) (fun e => ok_Model_say e) (by decide) (by decide)
theorem zl_soothe {L : Nat} {xs : Nat → Int32} {b : ZH} : zl_step (zt_X L xs) (zInv b) zt_m119 zt_m214 2 := by
  rintro h as ⟨s, rfl, hR⟩ hl hv
  obtain ⟨a0, a1, rfl⟩ : ∃ a0 a1, as = [a0, a1] := by
    match as, hl with
    | [a0, a1], _ => exact ⟨_, _, rfl⟩
  obtain ⟨z0, rfl⟩ := hv a0 (by simp)
  obtain ⟨z1, rfl⟩ := hv a1 (by simp)
  exact zl_of hR (st_soothe z0 z1) (fun e => ok_Ring_soothe e) (fun e => ok_Model_soothe e) (by decide) (by decide)
theorem zl_door {L : Nat} {xs : Nat → Int32} {b : ZH} : zl_step (zt_X L xs) (zInv b) zt_m120 zt_m215 0 := by
  rintro h as ⟨s, rfl, hR⟩ hl hv
  obtain rfl := List.eq_nil_of_length_eq_zero hl
  exact zl_of hR st_door (fun e => ok_Ring_door e) (fun e => ok_Model_door e) (by decide) (by decide)
theorem zl_undo {L : Nat} {xs : Nat → Int32} {b : ZH} : zl_step (zt_X L xs) (zInv b) zt_m121 zt_m192 0 := by
  rintro h as ⟨s, rfl, hR⟩ hl hv
  obtain rfl := List.eq_nil_of_length_eq_zero hl
  exact zl_of hR st_undo (fun e => ok_Ring_undo e) (fun e => ok_Model_undo e) (by decide) (by decide)
theorem zl_ahead {L : Nat} {xs : Nat → Int32} {b : ZH} : zl_step (zt_X L xs) (zInv b) zt_m122 zt_m217 3 := by
  rintro h as ⟨s, rfl, hR⟩ hl hv
  obtain ⟨a0, a1, a2, rfl⟩ : ∃ a0 a1 a2, as = [a0, a1, a2] := by
    match as, hl with
    | [a0, a1, a2], _ => exact ⟨_, _, _, rfl⟩
  obtain ⟨z0, rfl⟩ := hv a0 (by simp)
  obtain ⟨z1, rfl⟩ := hv a1 (by simp)
  obtain ⟨z2, rfl⟩ := hv a2 (by simp)
  exact zl_of hR (st_ahead z0 z1 z2) (fun e => ok_Ring_ahead e) (fun e => ok_Model_ahead e) (by decide) (by decide)
theorem zl_quarrel {L : Nat} {xs : Nat → Int32} {b : ZH} : zl_step (zt_X L xs) (zInv b) zt_m123 zt_m220 2 := by
  rintro h as ⟨s, rfl, hR⟩ hl hv
  obtain ⟨a0, a1, rfl⟩ : ∃ a0 a1, as = [a0, a1] := by
    match as, hl with
    | [a0, a1], _ => exact ⟨_, _, rfl⟩
  obtain ⟨z0, rfl⟩ := hv a0 (by simp)
  obtain ⟨z1, rfl⟩ := hv a1 (by simp)
  exact zl_of hR (st_quarrel z0 z1) (fun e => ok_Ring_quarrel e) (fun e => ok_Model_quarrel e) (by decide) (by decide)
theorem zl_bring {L : Nat} {xs : Nat → Int32} {b : ZH} : zl_step (zt_X L xs) (zInv b) zt_m124 zt_m221 3 := by
  rintro h as ⟨s, rfl, hR⟩ hl hv
  obtain ⟨a0, a1, a2, rfl⟩ : ∃ a0 a1 a2, as = [a0, a1, a2] := by
    match as, hl with
    | [a0, a1, a2], _ => exact ⟨_, _, _, rfl⟩
  obtain ⟨z0, rfl⟩ := hv a0 (by simp)
  obtain ⟨z1, rfl⟩ := hv a1 (by simp)
  obtain ⟨z2, rfl⟩ := hv a2 (by simp)
  exact zl_of hR (st_bring z0 z1 z2) (fun e => ok_Ring_bring e) (fun e => ok_Model_bring e) (by decide) (by decide)
theorem zl_smooth {L : Nat} {xs : Nat → Int32} {b : ZH} : zl_step (zt_X L xs) (zInv b) zt_m125 zt_m224 1 := by
  rintro h as ⟨s, rfl, hR⟩ hl hv
  obtain ⟨a0, rfl⟩ : ∃ a0, as = [a0] := by
    match as, hl with
    | [a0], _ => exact ⟨_, rfl⟩
  obtain ⟨z0, rfl⟩ := hv a0 (by simp)
  exact zl_of hR (st_smooth z0) (fun e => ok_Ring_smooth e) (fun e => ok_Model_smooth e) (by decide) (by decide)
theorem zl_strike {L : Nat} {xs : Nat → Int32} {b : ZH} : zl_step (zt_X L xs) (zInv b) zt_m126 zt_m225 2 := by
  rintro h as ⟨s, rfl, hR⟩ hl hv
  obtain ⟨a0, a1, rfl⟩ : ∃ a0 a1, as = [a0, a1] := by
    match as, hl with
    | [a0, a1], _ => exact ⟨_, _, rfl⟩
  obtain ⟨z0, rfl⟩ := hv a0 (by simp)
  obtain ⟨z1, rfl⟩ := hv a1 (by simp)
  exact zl_of hR (st_strike z0 z1) (fun e => ok_Ring_strike e) (fun e => ok_Model_strike e) (by decide) (by decide)
theorem zl_home {L : Nat} {xs : Nat → Int32} {b : ZH} : zl_step (zt_X L xs) (zInv b) zt_m127 zt_m227 2 := by
  rintro h as ⟨s, rfl, hR⟩ hl hv
  obtain ⟨a0, a1, rfl⟩ : ∃ a0 a1, as = [a0, a1] := by
    match as, hl with
    | [a0, a1], _ => exact ⟨_, _, rfl⟩
  obtain ⟨z0, rfl⟩ := hv a0 (by simp)
  obtain ⟨z1, rfl⟩ := hv a1 (by simp)
  exact zl_of hR (st_home z0 z1) (fun e => ok_Ring_home e) (fun e => ok_Model_home e) (by decide) (by decide)
theorem zl_benches {L : Nat} {xs : Nat → Int32} {b : ZH} : zl_step (zt_X L xs) (zInv b) zt_m128 zt_m228 1 := by
  rintro h as ⟨s, rfl, hR⟩ hl hv
  obtain ⟨a0, rfl⟩ : ∃ a0, as = [a0] := by
    match as, hl with
    | [a0], _ => exact ⟨_, rfl⟩
  obtain ⟨z0, rfl⟩ := hv a0 (by simp)
  exact zl_of hR (st_benches z0) (fun e => ok_Ring_benches e) (fun e => ok_Model_benches e) (by decide) (by decide)
theorem zl_gold {L : Nat} {xs : Nat → Int32} {b : ZH} : zl_step (zt_X L xs) (zInv b) zt_m129 zt_m231 2 := by
  rintro h as ⟨s, rfl, hR⟩ hl hv
  obtain ⟨a0, a1, rfl⟩ : ∃ a0 a1, as = [a0, a1] := by
    match as, hl with
    | [a0, a1], _ => exact ⟨_, _, rfl⟩
  obtain ⟨z0, rfl⟩ := hv a0 (by simp)
  obtain ⟨z1, rfl⟩ := hv a1 (by simp)
  exact zl_of hR (st_gold z0 z1) (fun e => ok_Ring_gold e) (fun e => ok_Model_gold e) (by decide) (by decide)
theorem zl_heard {L : Nat} {xs : Nat → Int32} {b : ZH} : zl_step (zt_X L xs) (zInv b) zt_m130 zt_m233 3 := by
  rintro h as ⟨s, rfl, hR⟩ hl hv
  obtain ⟨a0, a1, a2, rfl⟩ : ∃ a0 a1 a2, as = [a0, a1, a2] := by
    match as, hl with
    | [a0, a1, a2], _ => exact ⟨_, _, _, rfl⟩
  obtain ⟨z0, rfl⟩ := hv a0 (by simp)
  obtain ⟨z1, rfl⟩ := hv a1 (by simp)
  obtain ⟨z2, rfl⟩ := hv a2 (by simp)
  exact zl_of hR (st_heard z0 z1 z2) (fun e => ok_Ring_heard e) (fun e => ok_Model_heard e) (by decide) (by decide)
theorem zl_game {L : Nat} {xs : Nat → Int32} {b : ZH} : zl_step (zt_X L xs) (zInv b) zt_m131 zt_m234 3 := by
  rintro h as ⟨s, rfl, hR⟩ hl hv
  obtain ⟨a0, a1, a2, rfl⟩ : ∃ a0 a1 a2, as = [a0, a1, a2] := by
    match as, hl with
    | [a0, a1, a2], _ => exact ⟨_, _, _, rfl⟩
  obtain ⟨z0, rfl⟩ := hv a0 (by simp)
  obtain ⟨z1, rfl⟩ := hv a1 (by simp)
  obtain ⟨z2, rfl⟩ := hv a2 (by simp)
  exact zl_of hR (st_game z0 z1 z2) (fun e => ok_Ring_game e) (fun e => ok_Model_game e) (by decide) (by decide)
theorem zl_spark {L : Nat} {xs : Nat → Int32} {b : ZH} : zl_step (zt_X L xs) (zInv b) zt_m132 zt_m239 1 := by
  rintro h as ⟨s, rfl, hR⟩ hl hv
  obtain ⟨a0, rfl⟩ : ∃ a0, as = [a0] := by
    match as, hl with
    | [a0], _ => exact ⟨_, rfl⟩
  obtain ⟨z0, rfl⟩ := hv a0 (by simp)
  exact zl_of hR (st_spark z0) (fun e => ok_Ring_spark e) (fun e => ok_Model_spark e) (by decide) (by decide)
theorem zl_calm {L : Nat} {xs : Nat → Int32} {b : ZH} : zl_step (zt_X L xs) (zInv b) zt_m133 zt_m240 2 := by
  rintro h as ⟨s, rfl, hR⟩ hl hv
  obtain ⟨a0, a1, rfl⟩ : ∃ a0 a1, as = [a0, a1] := by
    match as, hl with
    | [a0, a1], _ => exact ⟨_, _, rfl⟩
  obtain ⟨z0, rfl⟩ := hv a0 (by simp)
  obtain ⟨z1, rfl⟩ := hv a1 (by simp)
  exact zl_of hR (st_calm z0 z1) (fun e => ok_Ring_calm e) (fun e => ok_Model_calm e) (by decide) (by decide)
theorem zl_largest {L : Nat} {xs : Nat → Int32} {b : ZH} : zl_step (zt_X L xs) (zInv b) zt_m134 zt_m241 2 := by
  rintro h as ⟨s, rfl, hR⟩ hl hv
  obtain ⟨a0, a1, rfl⟩ : ∃ a0 a1, as = [a0, a1] := by
    match as, hl with
    | [a0, a1], _ => exact ⟨_, _, rfl⟩
  obtain ⟨z0, rfl⟩ := hv a0 (by simp)
  obtain ⟨z1, rfl⟩ := hv a1 (by simp)
  exact zl_of hR (st_largest z0 z1) (fun e => ok_Ring_largest e) (fun e => ok_Model_largest e) (by decide) (by decide)
theorem zl_note {L : Nat} {xs : Nat → Int32} {b : ZH} : zl_step (zt_X L xs) (zInv b) zt_m135 zt_m242 3 := by
  rintro h as ⟨s, rfl, hR⟩ hl hv
  obtain ⟨a0, a1, a2, rfl⟩ : ∃ a0 a1 a2, as = [a0, a1, a2] := by
    match as, hl with
    | [a0, a1, a2], _ => exact ⟨_, _, _, rfl⟩
  obtain ⟨z0, rfl⟩ := hv a0 (by simp)
  obtain ⟨z1, rfl⟩ := hv a1 (by simp)
  obtain ⟨z2, rfl⟩ := hv a2 (by simp)
  exact zl_of hR (st_note z0 z1 z2) (fun e => ok_Ring_note e) (fun e => ok_Model_note e) (by decide) (by decide)
theorem zl_ruled {L : Nat} {xs : Nat → Int32} {b : ZH} : zl_step (zt_X L xs) (zInv b) zt_m136 zt_m243 1 := by
  rintro h as ⟨s, rfl, hR⟩ hl hv
  obtain ⟨a0, rfl⟩ : ∃ a0, as = [a0] := by
    match as, hl with
    | [a0], _ => exact ⟨_, rfl⟩
  obtain ⟨z0, rfl⟩ := hv a0 (by simp)
  exact zl_of hR (st_ruled z0) (fun e => ok_Ring_ruled e) (fun e => ok_Model_ruled e) (by decide) (by decide)
theorem zl_look {L : Nat} {xs : Nat → Int32} {b : ZH} : zl_step (zt_X L xs) (zInv b) zt_m137 zt_m246 2 := by
  rintro h as ⟨s, rfl, hR⟩ hl hv
  obtain ⟨a0, a1, rfl⟩ : ∃ a0 a1, as = [a0, a1] := by
    match as, hl with
    | [a0, a1], _ => exact ⟨_, _, rfl⟩
  obtain ⟨z0, rfl⟩ := hv a0 (by simp)
  obtain ⟨z1, rfl⟩ := hv a1 (by simp)
  exact zl_of hR (st_look z0 z1) (fun e => ok_Ring_look e) (fun e => ok_Model_look e) (by decide) (by decide)
theorem zl_seed {L : Nat} {xs : Nat → Int32} {b : ZH} : zl_step (zt_X L xs) (zInv b) zt_m138 zt_m248 1 := by
  rintro h as ⟨s, rfl, hR⟩ hl hv
  obtain ⟨a0, rfl⟩ : ∃ a0, as = [a0] := by
    match as, hl with
    | [a0], _ => exact ⟨_, rfl⟩
  obtain ⟨z0, rfl⟩ := hv a0 (by simp)
  exact zl_of hR (st_seed z0) (fun e => ok_Ring_seed e) (fun e => ok_Model_seed e) (by decide) (by decide)
theorem zl_doors {L : Nat} {xs : Nat → Int32} {b : ZH} : zl_step (zt_X L xs) (zInv b) zt_m139 zt_m249 4 := by
  rintro h as ⟨s, rfl, hR⟩ hl hv
  obtain ⟨a0, a1, a2, a3, rfl⟩ : ∃ a0 a1 a2 a3, as = [a0, a1, a2, a3] := by
    match as, hl with
    | [a0, a1, a2, a3], _ => exact ⟨_, _, _, _, rfl⟩
  obtain ⟨z0, rfl⟩ := hv a0 (by simp)
  obtain ⟨z1, rfl⟩ := hv a1 (by simp)
  obtain ⟨z2, rfl⟩ := hv a2 (by simp)
  obtain ⟨z3, rfl⟩ := hv a3 (by simp)
  exact zl_of hR (st_doors z0 z1 z2 z3) (fun e => ok_Ring_doors e) (fun e => ok_Model_doors e) (by decide) (by decide)
theorem zl_count {L : Nat} {xs : Nat → Int32} {b : ZH} : zl_step (zt_X L xs) (zInv b) zt_m116 zt_m251 1 := by
  rintro h as ⟨s, rfl, hR⟩ hl hv
  obtain ⟨a0, rfl⟩ : ∃ a0, as = [a0] := by
    match as, hl with
    | [a0], _ => exact ⟨_, rfl⟩
  obtain ⟨z0, rfl⟩ := hv a0 (by simp)
  exact zl_of hR (st_count z0) (fun e => ok_Ring_count e) (fun e => ok_Model_count e) (by decide) (by decide)
theorem zl_image {L : Nat} {xs : Nat → Int32} {b : ZH} : zl_step (zt_X L xs) (zInv b) zt_m140 zt_m252 1 := by
  rintro h as ⟨s, rfl, hR⟩ hl hv
  obtain ⟨a0, rfl⟩ : ∃ a0, as = [a0] := by
    match as, hl with
    | [a0], _ => exact ⟨_, rfl⟩
  obtain ⟨z0, rfl⟩ := hv a0 (by simp)
  exact zl_of hR (st_image z0) (fun e => ok_Ring_image e) (fun e => ok_Model_image e) (by decide) (by decide)
theorem zl_back {L : Nat} {xs : Nat → Int32} {b : ZH} : zl_step (zt_X L xs) (zInv b) zt_m141 zt_m253 1 := by
  rintro h as ⟨s, rfl, hR⟩ hl hv
  obtain ⟨a0, rfl⟩ : ∃ a0, as = [a0] := by
    match as, hl with
    | [a0], _ => exact ⟨_, rfl⟩
  obtain ⟨z0, rfl⟩ := hv a0 (by simp)
  exact zl_of hR (st_back z0) (fun e => ok_Ring_back e) (fun e => ok_Model_back e) (by decide) (by decide)
theorem nI_gt {L i : Nat} (hL : L ≤ 3072) (hi : i ≤ 4000) : nI L - 6 < nI i ↔ L < i + 6 := by
  have h6 : (6 : Int32).toInt = 6 := by decide
  have e : (nI L - 6).toInt = (L : Int) - 6 := by
    rw [Int32.toInt_sub, nI_toInt (by omega), h6]
    exact Int.bmod_eq_of_le_mul_two (by omega) (by omega)
  rw [Int32.lt_iff_toInt_lt, e, nI_toInt (by omega)]
  omega
theorem and63 (x : Int32) : ∃ k, k < 64 ∧ x &&& 63 = nI k := by
  have h1 : (x &&& 63).toBitVec.toNat ≤ 63 := by
    have e : (x &&& 63).toBitVec = x.toBitVec &&& 63#32 := rfl
    rw [e, BitVec.toNat_and]
    exact Nat.and_le_right
  refine ⟨(x &&& 63).toBitVec.toNat, by omega, ?_⟩
  apply Int32.toBitVec_inj.mp
  have : ∀ n, (nI n).toBitVec = BitVec.ofNat 32 n := fun _ => rfl
  rw [this, BitVec.ofNat_toNat, BitVec.setWidth_eq]
set_option maxHeartbeats 4000000 in
set_option maxRecDepth 100000 in
theorem zl_loop {L : Nat} {xs : Nat → Int32} {b : ZH} (hL : L ≤ 3072) : ∀ (m i : Nat) (h : ZH), i ≤ L + 6 → L + 6 - i ≤ m → zInv b h → zz_wp zt_ms zt_nm zt_df (zt_X L xs) 20 zt_law 18 [(3, .int (nI i)), (2, .ref 216), (1, .ref 0), (0, .ref 1000000)] [] h (fun r h' => r = some (.int 1) ∧ zInv b h') := by
  intro m
  induction m with
  | zero =>
    intro i h h1 h2 inv
    refine w_iload_n (pc2 := 19) rfl rfl rfl ?_
    refine w_aload_n (pc2 := 20) rfl rfl rfl ?_
    refine w_arraylengthR (pc2 := 21) rfl rfl rfl ?_
    refine w_bipush (pc2 := 23) rfl rfl ?_
    refine w_isub (pc2 := 24) rfl rfl ?_
    refine w_icmp_gt (pc2 := 27) rfl rfl (fun _ => ?_) (fun c => absurd ((nI_gt hL (by omega)).mpr (by omega)) c)
    refine w_iconst (pc2 := 1186) rfl rfl ?_
    exact w_zret rfl rfl (Or.inr rfl) ⟨rfl, inv⟩
  | succ m ih =>
    intro i h h1 h2 inv
    refine w_iload_n (pc2 := 19) rfl rfl rfl ?_
    refine w_aload_n (pc2 := 20) rfl rfl rfl ?_
    refine w_arraylengthR (pc2 := 21) rfl rfl rfl ?_
    refine w_bipush (pc2 := 23) rfl rfl ?_
    refine w_isub (pc2 := 24) rfl rfl ?_
    refine w_icmp_gt (pc2 := 27) rfl rfl (fun _ => ?_) (fun c => ?_)
    · refine w_iconst (pc2 := 1186) rfl rfl ?_
      exact w_zret rfl rfl (Or.inr rfl) ⟨rfl, inv⟩
    · have hi : i + 6 ≤ L := by
        by_cases q : L < i + 6
        · exact absurd ((nI_gt hL (by omega)).mpr q) c
        · omega
      refine w_aload_n (pc2 := 28) rfl rfl rfl ?_
      refine w_iload_n (pc2 := 29) rfl rfl rfl ?_
      refine w_ialoadRK (pc2 := 30) (j := i) rfl rfl rfl (by omega) (by omega) rfl ?_
      refine w_bipush (pc2 := 32) rfl rfl ?_
      refine w_iand (pc2 := 33) rfl rfl ?_
      obtain ⟨k, hk, ek⟩ := and63 (xs i)
      rw [show (xs i &&& 63) = nI k from ek]
      have kk : ∀ h2, zInv b h2 → zz_wp zt_ms zt_nm zt_df (zt_X L xs) 20 zt_law 1179 [(3, .int (nI i)), (2, .ref 216), (1, .ref 0), (0, .ref 1000000)] [] h2 (fun r h' => r = some (.int 1) ∧ zInv b h') := by
        intro h2 inv2
        refine w_iinc (pc2 := 1182) (ls2 := [(3, .int (nI (i + 6))), (2, .ref 216), (1, .ref 0), (0, .ref 1000000)]) rfl rfl (by rw [show nI i + 6 = nI (i + 6) from nI_addE rfl rfl]; rfl) rfl ?_
        refine w_goto rfl ?_
        exact ih (i + 6) h2 (by omega) (by omega) inv2
      have hR : ∃ fs, zz_c h 0 (.inr (10, fs)) := by
        obtain ⟨s, rfl, _⟩ := inv
        exact ⟨_, zk_cRing⟩
      by_cases k0 : k = 0
      · subst k0
        refine w_switch (t := 180) rfl (by decide) ?_
        exact zl_case0 hL hi inv hR zl_feed kk
      by_cases k1 : k = 1
      · subst k1
        refine w_switch (t := 243) rfl (by decide) ?_
        exact zl_case1 hL hi inv hR zl_end kk
      by_cases k2 : k = 2
      · subst k2
        refine w_switch (t := 266) rfl (by decide) ?_
        exact zl_case2 hL hi inv hR zl_smith kk
      by_cases k3 : k = 3
      · subst k3
        refine w_switch (t := 279) rfl (by decide) ?_
        exact zl_case3 hL hi inv hR zl_rule kk
      by_cases k4 : k = 4
      · subst k4
        refine w_switch (t := 292) rfl (by decide) ?_
        exact zl_case4 hL hi inv hR zl_force kk
      by_cases k5 : k = 5
      · subst k5
        refine w_switch (t := 315) rfl (by decide) ?_
        exact zl_case5 hL hi inv hR zl_pair kk
      by_cases k6 : k = 6
      · subst k6
        refine w_switch (t := 348) rfl (by decide) ?_
        exact zl_case6 hL hi inv hR zl_saying kk
      by_cases k7 : k = 7
      · subst k7
        refine w_switch (t := 391) rfl (by decide) ?_
        exact zl_case7 hL hi inv hR zl_day kk
      by_cases k8 : k = 8
      · subst k8
        refine w_switch (t := 404) rfl (by decide) ?_
        exact zl_case8 hL hi inv hR zl_say kk
      by_cases k9 : k = 9
      · subst k9
        refine w_switch (t := 437) rfl (by decide) ?_
        exact zl_case9 hL hi inv hR zl_soothe kk
      by_cases k10 : k = 10
      · subst k10
        refine w_switch (t := 470) rfl (by decide) ?_
        exact zl_case10 hL hi inv hR zl_door kk
      by_cases k11 : k = 11
      · subst k11
        refine w_switch (t := 483) rfl (by decide) ?_
        exact zl_case11 hL hi inv hR zl_undo kk
      by_cases k12 : k = 12
      · subst k12
        refine w_switch (t := 496) rfl (by decide) ?_
        exact zl_case12 hL hi inv hR zl_ahead kk
      by_cases k13 : k = 13
      · subst k13
        refine w_switch (t := 539) rfl (by decide) ?_
        exact zl_case13 hL hi inv hR zl_quarrel kk
      by_cases k14 : k = 14
      · subst k14
        refine w_switch (t := 572) rfl (by decide) ?_
        exact zl_case14 hL hi inv hR zl_bring kk
      by_cases k15 : k = 15
      · subst k15
        refine w_switch (t := 615) rfl (by decide) ?_
        exact zl_case15 hL hi inv hR zl_smooth kk
      by_cases k16 : k = 16
      · subst k16
        refine w_switch (t := 638) rfl (by decide) ?_
        exact zl_case16 hL hi inv hR zl_strike kk
      by_cases k17 : k = 17
      · subst k17
        refine w_switch (t := 671) rfl (by decide) ?_
        exact zl_case17 hL hi inv hR zl_home kk
      by_cases k18 : k = 18
      · subst k18
        refine w_switch (t := 704) rfl (by decide) ?_
        exact zl_case18 hL hi inv hR zl_benches kk
      by_cases k19 : k = 19
      · subst k19
        refine w_switch (t := 727) rfl (by decide) ?_
        exact zl_case19 hL hi inv hR zl_gold kk
      by_cases k20 : k = 20
      · subst k20
        refine w_switch (t := 760) rfl (by decide) ?_
        exact zl_case20 hL hi inv hR zl_heard kk
      by_cases k21 : k = 21
      · subst k21
        refine w_switch (t := 803) rfl (by decide) ?_
        exact zl_case21 hL hi inv hR zl_game kk
      by_cases k22 : k = 22
      · subst k22
        refine w_switch (t := 846) rfl (by decide) ?_
        exact zl_case22 hL hi inv hR zl_spark kk
      by_cases k23 : k = 23
      · subst k23
        refine w_switch (t := 869) rfl (by decide) ?_
        exact zl_case23 hL hi inv hR zl_calm kk
      by_cases k24 : k = 24
      · subst k24
        refine w_switch (t := 902) rfl (by decide) ?_
        exact zl_case24 hL hi inv hR zl_largest kk
      by_cases k25 : k = 25
      · subst k25
        refine w_switch (t := 935) rfl (by decide) ?_
        exact zl_case25 hL hi inv hR zl_note kk
      by_cases k26 : k = 26
      · subst k26
        refine w_switch (t := 978) rfl (by decide) ?_
        exact zl_case26 hL hi inv hR zl_ruled kk
      by_cases k27 : k = 27
      · subst k27
        refine w_switch (t := 1001) rfl (by decide) ?_
        exact zl_case27 hL hi inv hR zl_look kk
      by_cases k28 : k = 28
      · subst k28
        refine w_switch (t := 1034) rfl (by decide) ?_
        exact zl_case28 hL hi inv hR zl_seed kk
      by_cases k29 : k = 29
      · subst k29
        refine w_switch (t := 1057) rfl (by decide) ?_
        exact zl_case29 hL hi inv hR zl_doors kk
      by_cases k30 : k = 30
      · subst k30
        refine w_switch (t := 1110) rfl (by decide) ?_
        exact zl_case30 hL hi inv hR zl_count kk
      by_cases k31 : k = 31
      · subst k31
        refine w_switch (t := 1133) rfl (by decide) ?_
        exact zl_case31 hL hi inv hR zl_image kk
      by_cases k32 : k = 32
      · subst k32
        refine w_switch (t := 1156) rfl (by decide) ?_
        exact zl_case32 hL hi inv hR zl_back kk
      refine w_switch (t := 1179) rfl ?_ ?_
      · unfold zz_sw
        rw [if_pos (by rw [nI_toInt (by omega)]; omega)]
        rfl
      · exact kk h inv
