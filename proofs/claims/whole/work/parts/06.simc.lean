/-! Instructions that read the heap. -/
section ZC
variable {p : Program} {l : Launch} {e : Env} {R : Room} {s : State} {m : MethodId} {args : Array Value} {below : List Frame} {meth : Method} {c : Code} {H : Heap} {locs : List Loc} {cells slots : Nat} {Q : State → Prop}
variable {cc : ByteArray} {b : Nat} {sp : Nat → Value} {Ts : List Jvm.Cond} {D : va_G} {cl : List vw_C} {cA : FieldType → ClassId} {U : List FieldType} {SL : List (String × Nat × String × Nat)} {GL : List (String × String × String × Value)} {OL : ZO} {x : Nat → ZE} {A : Nat → Prop} {df : Nat → List Value} {ms : List ZM} {y : MethodName} {nL pc len aux : Nat} {cv : Value} {ins : Instr} {h : ZH}
theorem zz_lookN (hP : zz_P D cl U b sp cA h H) {a : Nat} {en : ZE} (ha : a < 1000000) (hz : zz_look x h a = en) (hj : en ≠ zz_junk) : a < h.1 ∧ h.2.2 a = en ∧ va_at D cl (b + a, zz_e b sp cA en) H := by
  unfold zz_look at hz
  rw [if_pos ha] at hz
  have hlt : a < h.1 := Nat.not_le.mp fun q => hj (by rw [← hz]; exact hP.2.2.2.1 a q)
  exact ⟨hlt, hz, by rw [← hz]; exact hP.2.2.1 a hlt⟩
theorem zz_atN (hP : zz_P D cl U b sp cA h H) {a : Nat} {en : ZE} (hz : h.2.2 a = en) (hj : en ≠ zz_junk) : a < h.1 ∧ a < 1000000 ∧ va_at D cl (b + a, zz_e b sp cA en) H := by
  have hlt : a < h.1 := Nat.not_le.mp fun q => hj (by rw [← hz]; exact hP.2.2.2.1 a q)
  exact ⟨hlt, Nat.lt_of_lt_of_le hlt hP.2.1, by rw [← hz]; exact hP.2.2.1 a hlt⟩
theorem zz_one {q : Nat × va_E} (hq : va_at D cl q H) : va_P D cl [q] H := by
  intro k r hk
  match k, hk with
  | 0, hk => cases hk; exact hq
theorem zz_tys {ty : FieldType} (hu : ty ∈ U) : ∃ t0 : Nat, (U.map fun ty => (cA ty, ty))[t0]? = some (cA ty, ty) := List.getElem?_of_mem (List.mem_map.mpr ⟨ty, hu, rfl⟩)
theorem zz_inn {i : Int32} {n : Nat} (h : 0 ≤ i ∧ i.toNatClampNeg < n) : vp_in i n := by
  intro q
  rcases q with q | q
  · exact absurd q (Int32.not_lt.mpr h.1)
  · omega
theorem zz_simB (hexec : p.tables.exec = Jvm.exec) (hb : c.code = cc) (hr : zz_rf sp) (hcl : cl.length ≤ 50) (hU : .array .int ∉ U ∧ .array .byte ∉ U) (hown : s.vm.findClass y.cls = some m.cls) (hts : ∀ w ∈ Ts, w.before args s = true) (hV : zz_V D cl cA U SL GL OL x b sp A s) (hS : va_S A s.heap H locs) (hP : zz_P D cl U b sp cA h H)
    {la : Array Slot} {st st' : List Value} (hz : zz_B x h ins aux st = some st') (hd : decode cc pc = .ok (ins, len)) (hok : zz_okI Ts cl SL GL OL df ms y nL pc ins len aux cv)
    (k : W p l e R s m args below meth c H locs cells slots Q (F0 m (pc + len) la (zz_st b sp st'))) : W p l e R s m args below meth c H locs cells slots Q (F0 m pc la (zz_st b sp st)) := by
  obtain ⟨hK, -, -, hO, hX⟩ := hV
  have c50 : ∀ {r : vw_C}, cl[50]? = some r → False := fun q => by have := (List.getElem?_eq_some_iff.mp q).1; omega
  unfold zz_B at hz
  split at hz
  · -- getfield
    obtain ⟨rfl, hok⟩ := hok
    split at hz
    · next a r =>
      split at hz
      · next ci fs hlk =>
        split at hz
        · next hci =>
          obtain ⟨v, hv, e2⟩ := Option.map_eq_some_iff.mp hz
          cases e2
          have hj : (Sum.inr (ci, fs) : ZE) ≠ zz_junk := by
            intro q
            cases q
            simp at hv
          by_cases ha : a < 1000000
          · obtain ⟨-, -, hat⟩ := zz_lookN hP ha hlk hj
            rw [show zz_st b sp (.ref a :: r) = zz_v b sp (.ref a) :: zz_st b sp r from rfl, zz_v_ref ha]
            rcases hok with ⟨C, T, N, h1, h2, h3, h4⟩ | ⟨h1, -⟩ | ⟨h1, -⟩
            · rw [← hci] at h1
              have hfs : (fs.map (zz_v b sp))[aux % 100]? = some (zz_v b sp v) := by rw [List.getElem?_map, hv]; rfl
              rcases h4 with h4 | ⟨host, h4⟩
              · exact va_get (D := D) (cl := cl) (ci := ci) (C := C) (T := T) (N := N) hexec hb hts h3 hown hK (zz_one hat) 0 rfl h1 (aux % 100) h2 (hts _ h4) (fun _ q => q) hfs hd k
              · exact va_getN (D := D) (cl := cl) (ci := ci) (C := C) (T := T) (N := N) hexec hb hts h3 hown hK (zz_one hat) 0 rfl h1 (aux % 100) h2 (va_Nw.use rfl (hO.2 _ h4)) (fun _ q => q) hfs hd k
            · obtain ⟨r', h5, -⟩ := hat
              rw [hci, h1] at h5
              exact (c50 h5).elim
            · obtain ⟨r', h5, -⟩ := hat
              rw [hci, h1] at h5
              exact (c50 h5).elim
          · have hx : x a = .inr (ci, fs) := by
              unfold zz_look at hlk
              rw [if_neg ha] at hlk
              exact hlk
            rcases hX a (Nat.not_lt.mp ha) with q | ⟨t, hsp, ⟨n, f, q, -⟩ | ⟨n, f, q, -⟩ | ⟨v0, q, q1, q2, q3⟩⟩
            · exact absurd (hx.symm.trans q) hj
            · rw [hx] at q; cases q
            · rw [hx] at q; cases q
            · rw [hx] at q
              cases q
              have ev : zz_v b sp (.ref a) = .ref t := by simp only [zz_v, ha, if_false]; exact hsp
              rw [show zz_st b sp (.ref a :: r) = zz_v b sp (.ref a) :: zz_st b sp r from rfl, ev]
              rcases hok with ⟨C, T, N, h1, -⟩ | ⟨h1, h2⟩ | ⟨h1, h2⟩
              · rw [← hci] at h1
                exact (c50 h1).elim
              · rw [h1] at hv
                cases hv
                exact vk_getf hexec hb q2 hS hown (hts _ h2) (fun _ q => q) hd k
              · rw [h1] at hv
                cases hv
                exact vk_getf hexec hb q3 hS hown (hts _ h2) (fun _ q => q) hd k
        · cases hz
      · cases hz
    · cases hz
  · -- iaload
    obtain rfl := hok
    split at hz
    · next i a r =>
      split at hz
      · next ty n f hlk =>
        split at hz
        · next hc =>
          cases hz
          obtain ⟨hty, hi⟩ := hc
          by_cases ha : a < 1000000
          · obtain ⟨-, h5, hat⟩ := zz_lookN hP ha hlk (by intro q; cases q)
            have hu := hP.2.2.2.2 a ty _ h5
            rcases hty with rfl | rfl
            · obtain ⟨t0, ht⟩ := zz_tys (cA := cA) hu
              rw [show zz_st b sp (.int i :: .ref a :: r) = .int i :: zz_v b sp (.ref a) :: zz_st b sp r from rfl, zz_v_ref ha]
              exact va_iald hexec hb hK (zz_one hat) 0 t0 rfl ht (zz_inn hi) hd k
            · exact absurd hu hU.1
          · have hx : x a = .inl (ty, n, .inl f) := by
              unfold zz_look at hlk
              rw [if_neg ha] at hlk
              exact hlk
            rcases hX a (Nat.not_lt.mp ha) with q | ⟨t, hsp, ⟨n', f', q, q1⟩ | ⟨n', f', q, q1⟩ | ⟨v0, q, -⟩⟩
            · rw [hx] at q; cases q
            · rw [hx] at q
              cases q
              have ev : zz_v b sp (.ref a) = .ref t := by simp only [zz_v, ha, if_false]; exact hsp
              rw [show zz_st b sp (.int i :: .ref a :: r) = .int i :: zz_v b sp (.ref a) :: zz_st b sp r from rfl, ev]
              exact va_ti hexec hb q1 hS (zz_inn hi) rfl hd k
            · rw [hx] at q
              cases q
              rcases hty with q | q <;> cases q
            · rw [hx] at q; cases q
        · cases hz
      · cases hz
    · cases hz
  · -- baload
    obtain rfl := hok
    split at hz
    · next i a r =>
      split at hz
      · next ty n f hlk =>
        split at hz
        · next hc =>
          cases hz
          obtain ⟨hty, hi⟩ := hc
          by_cases ha : a < 1000000
          · obtain ⟨-, h5, hat⟩ := zz_lookN hP ha hlk (by intro q; cases q)
            have hu := hP.2.2.2.2 a ty _ h5
            rcases hty with rfl | rfl | rfl
            · obtain ⟨t0, ht⟩ := zz_tys (cA := cA) hu
              rw [show zz_st b sp (.int i :: .ref a :: r) = .int i :: zz_v b sp (.ref a) :: zz_st b sp r from rfl, zz_v_ref ha]
              exact va_bald hexec hb hK (zz_one hat) 0 t0 rfl ht (zz_inn hi) hd k
            · obtain ⟨t0, ht⟩ := zz_tys (cA := cA) hu
              rw [show zz_st b sp (.int i :: .ref a :: r) = .int i :: zz_v b sp (.ref a) :: zz_st b sp r from rfl, zz_v_ref ha]
              exact va_zald hexec hb hK (zz_one hat) 0 t0 rfl ht (zz_inn hi) hd k
            · exact absurd hu hU.2
          · have hx : x a = .inl (ty, n, .inl f) := by
              unfold zz_look at hlk
              rw [if_neg ha] at hlk
              exact hlk
            rcases hX a (Nat.not_lt.mp ha) with q | ⟨t, hsp, ⟨n', f', q, q1⟩ | ⟨n', f', q, q1⟩ | ⟨v0, q, -⟩⟩
            · rw [hx] at q; cases q
            · rw [hx] at q
              cases q
              rcases hty with q | q | q <;> cases q
            · rw [hx] at q
              cases q
              have ev : zz_v b sp (.ref a) = .ref t := by simp only [zz_v, ha, if_false]; exact hsp
              rw [show zz_st b sp (.int i :: .ref a :: r) = .int i :: zz_v b sp (.ref a) :: zz_st b sp r from rfl, ev]
              exact va_tb hexec hb q1 hS (zz_inn hi) rfl hd k
            · rw [hx] at q; cases q
        · cases hz
      · cases hz
    · cases hz
  · -- laload
    obtain rfl := hok
    split at hz
    · next i a r =>
      split at hz
      · next ty n f hlk =>
        split at hz
        · next hc =>
          cases hz
          obtain ⟨rfl, hi⟩ := hc
          by_cases ha : a < 1000000
          · obtain ⟨-, h5, hat⟩ := zz_lookN hP ha hlk (by intro q; cases q)
            have hu := hP.2.2.2.2 a _ _ h5
            obtain ⟨t0, ht⟩ := zz_tys (cA := cA) hu
            rw [show zz_st b sp (.int i :: .ref a :: r) = .int i :: zz_v b sp (.ref a) :: zz_st b sp r from rfl, zz_v_ref ha]
            exact va_lald hexec hb hK (zz_one hat) 0 t0 rfl ht (zz_inn hi) hd k
          · have hx : x a = .inl (.long, n, .inr (.inl f)) := by
              unfold zz_look at hlk
              rw [if_neg ha] at hlk
              exact hlk
            rcases hX a (Nat.not_lt.mp ha) with q | ⟨t, hsp, ⟨n', f', q, q1⟩ | ⟨n', f', q, q1⟩ | ⟨v0, q, -⟩⟩ <;> (rw [hx] at q; cases q)
        · cases hz
      · cases hz
    · cases hz
  · -- aaload
    obtain rfl := hok
    split at hz
    · next i a r =>
      split at hz
      · next C n f hlk =>
        split at hz
        · next hi =>
          by_cases ha : a < 1000000
          · obtain ⟨-, h5, hat⟩ := zz_lookN hP ha hlk (by intro q; cases q)
            have hu := hP.2.2.2.2 a _ _ h5
            obtain ⟨t0, ht⟩ := zz_tys (cA := cA) hu
            rw [show zz_st b sp (.int i :: .ref a :: r) = .int i :: zz_v b sp (.ref a) :: zz_st b sp r from rfl, zz_v_ref ha]
            refine va_aldq (C := C) (f := fun j => (f j).map (fun k => b + k)) hexec hb hK (zz_one hat) 0 t0 rfl ht (zz_inn hi) hd ?_
            split at hz
            · next k0 hk0 =>
              split at hz
              · next hk1 =>
                cases hz
                rw [hk0]
                rw [show zz_st b sp (.ref k0 :: r) = zz_v b sp (.ref k0) :: zz_st b sp r from rfl, zz_v_ref hk1] at k
                exact k
              · cases hz
            · next hk0 =>
              cases hz
              rw [hk0]
              exact k
          · have hx : x a = .inl (.object C, n, .inr (.inr (.inr (.inr f)))) := by
              unfold zz_look at hlk
              rw [if_neg ha] at hlk
              exact hlk
            rcases hX a (Nat.not_lt.mp ha) with q | ⟨t, hsp, ⟨n', f', q, q1⟩ | ⟨n', f', q, q1⟩ | ⟨v0, q, -⟩⟩ <;> (rw [hx] at q; cases q)
        · cases hz
      · cases hz
    · cases hz
  · -- arraylength
    obtain rfl := hok
    split at hz
    · next a r =>
      split at hz
      · next ty n f hlk =>
        cases hz
        by_cases ha : a < 1000000
        · obtain ⟨-, h5, hat⟩ := zz_lookN hP ha hlk (by intro q; cases q)
          have hu := hP.2.2.2.2 a _ _ h5
          obtain ⟨t0, ht⟩ := zz_tys (cA := cA) hu
          rw [show zz_st b sp (.ref a :: r) = zz_v b sp (.ref a) :: zz_st b sp r from rfl, zz_v_ref ha]
          obtain f | f | f | f | f := f
          · exact va_alen hexec hb hK (zz_one hat) 0 t0 rfl ht rfl hd k
          · exact va_alen hexec hb hK (zz_one hat) 0 t0 rfl ht rfl hd k
          · exact va_alen hexec hb hK (zz_one hat) 0 t0 rfl ht rfl hd k
          · exact va_alen hexec hb hK (zz_one hat) 0 t0 rfl ht rfl hd k
          · exact va_alen hexec hb hK (zz_one hat) 0 t0 rfl ht rfl hd k
        · have hx : x a = .inl (ty, n, f) := by
            unfold zz_look at hlk
            rw [if_neg ha] at hlk
            exact hlk
          rcases hX a (Nat.not_lt.mp ha) with q | ⟨t, hsp, ⟨n', f', q, q1⟩ | ⟨n', f', q, q1⟩ | ⟨v0, q, -⟩⟩
          · rw [hx] at q; cases q
          · rw [hx] at q
            cases q
            have ev : zz_v b sp (.ref a) = .ref t := by simp only [zz_v, ha, if_false]; exact hsp
            rw [show zz_st b sp (.ref a :: r) = zz_v b sp (.ref a) :: zz_st b sp r from rfl, ev]
            exact va_tlen hexec hb q1 hS rfl hd k
          · rw [hx] at q
            cases q
            have ev : zz_v b sp (.ref a) = .ref t := by simp only [zz_v, ha, if_false]; exact hsp
            rw [show zz_st b sp (.ref a :: r) = zz_v b sp (.ref a) :: zz_st b sp r from rfl, ev]
            exact va_tlen hexec hb q1 hS rfl hd k
          · rw [hx] at q; cases q
      · cases hz
    · cases hz
  · cases hz
end ZC
