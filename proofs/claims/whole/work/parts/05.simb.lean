section ZB
variable {p : Program} {l : Launch} {e : Env} {R : Room} {s : State} {m : MethodId} {args : Array Value} {below : List Frame} {meth : Method} {c : Code} {H : Heap} {locs : List Loc} {cells slots : Nat} {Q : State → Prop}
variable {cc : ByteArray} {b : Nat} {sp : Nat → Value} {Ts : List Jvm.Cond} {D : va_G} {cl : List vw_C} {cA : FieldType → ClassId} {U : List FieldType} {SL : List (String × Nat × String × Nat)} {GL : List (String × String × String × Value)} {OL : ZO} {x : Nat → ZE} {A : Nat → Prop} {df : Nat → List Value} {ms : List ZM} {y : MethodName} {nL pc len aux : Nat} {cv : Value} {ins : Instr}
theorem zz_S_len {st st' : List Value} (hz : zz_S ins st = some st') (hok : zz_okI Ts cl SL GL OL df ms y nL pc ins len aux cv) : len = 1 := by
  cases ins <;> first | exact hok | (simp [zz_S] at hz; done)
theorem zz_if (hexec : p.tables.exec = Jvm.exec) (hb : c.code = cc) {cnd : ClassFile.Cond} {off : Int} {v : Int32} {la : Array Slot} {r : List Value} (hd : decode cc pc = .ok (.ifCond cnd off, 3)) (ht : (pc : Int) + off = (aux : Int))
    (k : W p l e R s m args below meth c H locs cells slots Q (F0 m (if zz_holds cnd v 0 = true then aux else pc + 3) la r)) : W p l e R s m args below meth c H locs cells slots Q (F0 m pc la (.int v :: r)) := by
  cases cnd
  · exact lv_if_eq hexec hb hd ht (fun h => by rw [if_pos (by simp [zz_holds, h])] at k; exact k) (fun h => by rw [if_neg (by simp [zz_holds, h])] at k; exact k)
  · exact lv_if_ne hexec hb hd ht (fun h => by rw [if_pos (by simp [zz_holds, h])] at k; exact k) (fun h => by rw [if_neg (by simp [zz_holds, h])] at k; exact k)
  · exact lv_if_lt hexec hb hd ht (fun h => by rw [if_pos (by simp [zz_holds, h])] at k; exact k) (fun h => by rw [if_neg (by simpa [zz_holds] using h)] at k; exact k)
  · exact lv_if_ge hexec hb hd ht (fun h => by rw [if_pos (by simp [zz_holds, h])] at k; exact k) (fun h => by rw [if_neg (by simpa [zz_holds] using h)] at k; exact k)
  · exact lv_if_gt hexec hb hd ht (fun h => by rw [if_pos (by simp [zz_holds, h])] at k; exact k) (fun h => by rw [if_neg (by simpa [zz_holds] using h)] at k; exact k)
  · exact lv_if_le hexec hb hd ht (fun h => by rw [if_pos (by simp [zz_holds, h])] at k; exact k) (fun h => by rw [if_neg (by simpa [zz_holds] using h)] at k; exact k)
theorem zz_icmp (hexec : p.tables.exec = Jvm.exec) (hb : c.code = cc) {cnd : ClassFile.Cond} {off : Int} {v w : Int32} {la : Array Slot} {r : List Value} (hd : decode cc pc = .ok (.if_icmp cnd off, 3)) (ht : (pc : Int) + off = (aux : Int))
    (k : W p l e R s m args below meth c H locs cells slots Q (F0 m (if zz_holds cnd v w = true then aux else pc + 3) la r)) : W p l e R s m args below meth c H locs cells slots Q (F0 m pc la (.int w :: .int v :: r)) := by
  cases cnd
  · exact lv_icmp_eq hexec hb hd ht (fun h => by rw [if_pos (by simp [zz_holds, h])] at k; exact k) (fun h => by rw [if_neg (by simp [zz_holds, h])] at k; exact k)
  · exact lv_icmp_ne hexec hb hd ht (fun h => by rw [if_pos (by simp [zz_holds, h])] at k; exact k) (fun h => by rw [if_neg (by simp [zz_holds, h])] at k; exact k)
  · exact lv_icmp_lt hexec hb hd ht (fun h => by rw [if_pos (by simp [zz_holds, h])] at k; exact k) (fun h => by rw [if_neg (by simpa [zz_holds] using h)] at k; exact k)
  · exact lv_icmp_ge hexec hb hd ht (fun h => by rw [if_pos (by simp [zz_holds, h])] at k; exact k) (fun h => by rw [if_neg (by simpa [zz_holds] using h)] at k; exact k)
  · exact lv_icmp_gt hexec hb hd ht (fun h => by rw [if_pos (by simp [zz_holds, h])] at k; exact k) (fun h => by rw [if_neg (by simpa [zz_holds] using h)] at k; exact k)
  · exact lv_icmp_le hexec hb hd ht (fun h => by rw [if_pos (by simp [zz_holds, h])] at k; exact k) (fun h => by rw [if_neg (by simpa [zz_holds] using h)] at k; exact k)
theorem zz_switch (hexec : p.tables.exec = Jvm.exec) (hb : c.code = cc) {d lo hi : Int} {offs : Array Int} {v : Int32} {t : Nat} {la : Array Slot} {r : List Value} (hd : decode cc pc = .ok (.tableswitch d lo hi offs, len)) (hz : zz_sw pc d lo hi offs v = some t)
    (k : W p l e R s m args below meth c H locs cells slots Q (F0 m t la r)) : W p l e R s m args below meth c H locs cells slots Q (F0 m pc la (.int v :: r)) := by
  unfold zz_sw at hz
  split at hz
  · next h =>
    split at hz
    · next h0 =>
      cases hz
      exact lv_tableOut hexec hb hd h (by omega) k
    · cases hz
  · next h =>
    split at hz
    · next o ho =>
      split at hz
      · next h0 =>
        cases hz
        exact lv_tableIn hexec hb hd (fun q => h (Or.inl q)) (fun q => h (Or.inr q)) ho (by omega) k
      · cases hz
    · cases hz
theorem zz_simA (hexec : p.tables.exec = Jvm.exec) (hb : c.code = cc) (hr : zz_rf sp) (hown : s.vm.findClass y.cls = some m.cls) (hts : ∀ w ∈ Ts, w.before args s = true) (hV : zz_V D cl cA U SL GL OL x b sp A s) (hS : va_S A s.heap H locs)
    {pc' : Nat} {la : Array Slot} {ls ls' : ZL} {st st' : List Value} (hz : zz_A pc ins len aux cv ls st = some (pc', ls', st')) (hd : decode cc pc = .ok (ins, len)) (hok : zz_okI Ts cl SL GL OL df ms y nL pc ins len aux cv) (hl : lv_has la nL (zz_ls b sp ls))
    (k : ∀ la' : Array Slot, lv_has la' nL (zz_ls b sp ls') → W p l e R s m args below meth c H locs cells slots Q (F0 m pc' la' (zz_st b sp st'))) : W p l e R s m args below meth c H locs cells slots Q (F0 m pc la (zz_st b sp st)) := by
  unfold zz_A at hz
  split at hz
  · obtain ⟨rfl, rfl⟩ := hok; cases hz; exact lv_iconst hexec hb hd rfl (k la hl)
  · obtain ⟨rfl, rfl⟩ := hok; cases hz; exact lv_bipush hexec hb hd rfl (k la hl)
  · obtain ⟨rfl, rfl⟩ := hok; cases hz; exact lv_sipush hexec hb hd rfl (k la hl)
  · obtain ⟨rfl, rfl⟩ := hok; cases hz; exact lv_lconst hexec hb hd rfl (k la hl)
  · obtain ⟨rfl, ⟨v, rfl, hw⟩ | ⟨tx, q, rfl, hq⟩⟩ := hok
    · cases hz; exact lv_ldc hexec hb hown (hts _ hw) hd (k la hl)
    · cases hz
      obtain ⟨a, e1, e2, e3⟩ := hV.2.1 _ hq
      have ev : zz_v b sp (.ref q) = .ref a := by
        have : ¬ q < 1000000 := Nat.not_lt.mpr e2
        simp only [zz_v, this, if_false]; exact e1
      refine va_ldcS hexec hb hown e3 hd ?_
      have k' := k la hl
      rw [show zz_st b sp (.ref q :: st) = .ref a :: zz_st b sp st from by rw [← ev]; rfl] at k'
      exact k'
  · obtain ⟨rfl, v, rfl, hw⟩ := hok; cases hz; exact lv_ldcw hexec hb hown (hts _ hw) hd (k la hl)
  · obtain ⟨rfl, v, rfl, hw⟩ := hok; cases hz; exact lv_ldc2 hexec hb hown (hts _ hw) hd (k la hl)
  · obtain ⟨rfl, rfl⟩ := hok; cases hz; exact lv_null hexec hb hd (k la hl)
  · obtain ⟨rfl, C, n, d, hg, hw⟩ := hok; cases hz
    exact va_gets hexec hb (hV.2.2.1 _ hg) hS hown (hts _ hw) (fun _ h => h) hd (k la hl)
  · obtain ⟨h1, rfl⟩ := hok
    split at hz
    · next v hv => cases hz; exact lv_iload_n hexec hb hd h1 (zz_get_at hl hv) (k la hl)
    · cases hz
  · obtain ⟨rfl, rfl⟩ := hok
    split at hz
    · next v hv => cases hz; exact lv_iload hexec hb hd (zz_get_at hl hv) (k la hl)
    · cases hz
  · obtain ⟨h1, rfl⟩ := hok
    split at hz
    · next v hv => cases hz; exact lv_lload_n hexec hb hd h1 (zz_get_at hl hv) (k la hl)
    · cases hz
  · obtain ⟨rfl, rfl⟩ := hok
    split at hz
    · next v hv => cases hz; exact lv_lload hexec hb hd (zz_get_at hl hv) (k la hl)
    · cases hz
  · obtain ⟨h1, rfl⟩ := hok
    split at hz
    · next v hv =>
      cases hz
      have h2 := zz_get_at hl hv
      have k' := k la hl
      rw [show zz_st b sp (.ref v :: st) = zz_v b sp (.ref v) :: zz_st b sp st from rfl] at k'
      rcases zz_v_isref (b := b) hr v with e1 | ⟨a, e1⟩
      · rw [e1] at h2 k'; exact lv_aload_nN hexec hb hd h1 h2 k'
      · rw [e1] at h2 k'; exact lv_aload_n hexec hb hd h1 h2 k'
    · next hv => cases hz; exact lv_aload_nN hexec hb hd h1 (zz_get_at hl hv) (k la hl)
    · cases hz
  · obtain ⟨rfl, rfl⟩ := hok
    split at hz
    · next v hv =>
      cases hz
      have h2 := zz_get_at hl hv
      have k' := k la hl
      rw [show zz_st b sp (.ref v :: st) = zz_v b sp (.ref v) :: zz_st b sp st from rfl] at k'
      rcases zz_v_isref (b := b) hr v with e1 | ⟨a, e1⟩
      · rw [e1] at h2 k'; exact lv_aloadN hexec hb hd h2 k'
      · rw [e1] at h2 k'; exact lv_aload hexec hb hd h2 k'
    · next hv => cases hz; exact lv_aloadN hexec hb hd (zz_get_at hl hv) (k la hl)
    · cases hz
  · obtain ⟨h1, rfl, hn⟩ := hok
    split at hz
    · cases hz; exact lv_istore_n hexec hb hd h1 hl hn (zz_set1_map hr ls aux (.int _)) (fun la' hl' => k la' hl')
    · cases hz
  · obtain ⟨rfl, rfl, hn⟩ := hok
    split at hz
    · cases hz; exact lv_istore hexec hb hd hl hn (zz_set1_map hr ls _ (.int _)) (fun la' hl' => k la' hl')
    · cases hz
  · obtain ⟨h1, rfl, hn⟩ := hok
    split at hz
    · cases hz; exact lv_lstore_n hexec hb hd h1 hl hn (zz_set2_map hr ls aux (.long _)) (fun la' hl' => k la' hl')
    · cases hz
  · obtain ⟨rfl, rfl, hn⟩ := hok
    split at hz
    · cases hz; exact lv_lstore hexec hb hd hl hn (zz_set2_map hr ls _ (.long _)) (fun la' hl' => k la' hl')
    · cases hz
  · obtain ⟨h1, rfl, hn⟩ := hok
    split at hz
    · next v r =>
      cases hz
      have h2 := zz_set1_map (b := b) hr ls aux (.ref v)
      rw [show zz_st b sp (.ref v :: st') = zz_v b sp (.ref v) :: zz_st b sp st' from rfl]
      rcases zz_v_isref (b := b) hr v with e1 | ⟨a, e1⟩
      · rw [e1] at h2 ⊢; exact lv_astore_nN hexec hb hd h1 hl hn h2 (fun la' hl' => k la' hl')
      · rw [e1] at h2 ⊢; exact lv_astore_n hexec hb hd h1 hl hn h2 (fun la' hl' => k la' hl')
    · cases hz; exact lv_astore_nN hexec hb hd h1 hl hn (zz_set1_map hr ls aux .null) (fun la' hl' => k la' hl')
    · cases hz
  · obtain ⟨h1, rfl, hn⟩ := hok
    rw [h1] at hd
    split at hz
    · next v r =>
      cases hz
      have h2 := zz_set1_map (b := b) hr ls aux (.ref v)
      rw [show zz_st b sp (.ref v :: st') = zz_v b sp (.ref v) :: zz_st b sp st' from rfl]
      rcases zz_v_isref (b := b) hr v with e1 | ⟨a, e1⟩
      · rw [e1] at h2 ⊢; exact lv_astoreN hexec hb hd hl hn h2 (fun la' hl' => k la' hl')
      · rw [e1] at h2 ⊢; exact lv_astore hexec hb hd hl hn h2 (fun la' hl' => k la' hl')
    · cases hz; exact lv_astoreN hexec hb hd hl hn (zz_set1_map hr ls _ .null) (fun la' hl' => k la' hl')
    · cases hz
  · obtain ⟨rfl, rfl, hn, hc⟩ := hok
    split at hz
    · next v d _ hv =>
      cases hz
      obtain ⟨q, hq⟩ := zz_get_place hl hv
      cases hc
      exact lv_iinc hexec hb hd hl hq rfl hn (zz_set1_map hr ls _ (.int _)) (fun la' hl' => k la' hl')
    · cases hz
  · obtain ⟨ht, rfl⟩ := hok; cases hz; exact lv_goto hexec hb hd ht (k la hl)
  · obtain ⟨ht, rfl⟩ := hok
    split at hz
    · cases hz; exact zz_if hexec hb hd ht (k la hl)
    · cases hz
  · obtain ⟨ht, rfl⟩ := hok
    split at hz
    · cases hz; exact zz_icmp hexec hb hd ht (k la hl)
    · cases hz
  · obtain ⟨ht, rfl⟩ := hok
    split at hz
    · next a r =>
      split at hz
      · next ha =>
        cases hz
        rw [show zz_st b sp (.ref a :: st') = zz_v b sp (.ref a) :: zz_st b sp st' from rfl, zz_v_ref ha]
        exact lv_ifnull hexec hb hd (k la hl)
      · cases hz
    · cases hz; exact lv_ifnullN hexec hb hd ht (k la hl)
    · cases hz
  · split at hz
    · next v r =>
      obtain ⟨t, ht, e2⟩ := Option.map_eq_some_iff.mp hz
      cases e2
      exact zz_switch hexec hb hd ht (k la hl)
    · cases hz
  · obtain ⟨st2, h2, e2⟩ := Option.map_eq_some_iff.mp hz
    cases e2
    have h1 := zz_S_len h2 hok
    subst h1
    exact zz_simS hexec hb hr h2 hd (k la hl)
end ZB
