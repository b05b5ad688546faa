/-! doors. -/
theorem nxE : ∃ f : Int64 → Int64, ∀ x, f x = (x * 1103515245 + 12345) - (x * 1103515245 + 12345) / 2147483648 * 2147483648 := ⟨fun x => _, fun _ => rfl⟩
noncomputable def nxD : Int64 → Int64 := nxE.choose
theorem dvE : ∃ f : Int64 → Int64, ∀ x, f x = x / 65536 - x / 65536 / 100 * 100 := ⟨fun x => _, fun _ => rfl⟩
noncomputable def dvD : Int64 → Int64 := dvE.choose
theorem zrem64 (x y : Int64) : (x - (x / y) * y).toInt = x.toInt.tmod y.toInt := by
  have a := (x % y).toInt_lt; have b := (x % y).le_toInt
  rw [Int64.toInt_mod] at a b
  rw [Int64.toInt_sub, Int64.toInt_mul, Int64.toInt_div, Int.bmod_mul_bmod, Int.sub_bmod_bmod, Int.mul_comm, ← Int.tmod_def]
  exact Int.bmod_eq_of_le_mul_two (by omega) (by omega)
theorem enD (x : Int64) : (x * 1103515245 + 12345) - (x * 1103515245 + 12345) / 2147483648 * 2147483648 = nxD x := (nxE.choose_spec x).symm
theorem edD (x : Int64) : x / 65536 - x / 65536 / 100 * 100 = dvD x := (dvE.choose_spec x).symm
theorem dvD_rt (x : Int64) : (dvD x).toInt32.toInt64 = dvD x := by
  have h100 : (100 : Int64).toInt = 100 := by decide
  have h : -100 < (dvD x).toInt ∧ (dvD x).toInt < 100 := by
    rw [← edD x, zrem64, h100]
    exact tmod_bounds (by omega)
  apply Int64.toInt_inj.mp
  rw [Int32.toInt_toInt64, Int64.toInt_toInt32]
  exact Int.bmod_eq_of_le_mul_two (by omega) (by omega)
theorem lg_0le (x y : Int64) : (0 ≤ lg_cmp x y) = (y ≤ x) := by
  apply propext
  have := lg_lt0 x y
  constructor
  · intro e; refine Int64.not_lt.mp (fun q => ?_); rw [← this] at q; exact Int32.not_lt.mpr e q
  · intro e; refine Int32.not_lt.mp (fun q => ?_); rw [this] at q; exact Int64.not_lt.mpr e q
theorem i64le (x y : Int32) : (x.toInt64 ≤ y.toInt64) = (x ≤ y) := by
  apply propext; rw [Int64.le_iff_toInt_le, Int32.le_iff_toInt_le, Int32.toInt_toInt64, Int32.toInt_toInt64]
theorem dv_le (p : Int32) (x : Int64) : (p ≤ (dvD x).toInt32) = (p.toInt64 ≤ dvD x) := by
  rw [← i64le, dvD_rt]
noncomputable def sDD (P Q : Nat) (C : Nat → Int32) (rl : ZRl) (p : Int32) (y : ZT × Int64) : ZT × Int64 :=
  (dz P Q C 0 (-1) rl (if p.toInt64 ≤ dvD (nxD y.2) then y.1 else (sDoor P C y.1 (fun _ => 0)).1), nxD y.2)
noncomputable def sDDn (P Q : Nat) (C : Nat → Int32) (rl : ZRl) (p : Int32) (n : Nat) (z : ZT) (x : Int64) : ZT × Int64 := itr n (fun _ y => sDD P Q C rl p y) (z, x)
theorem sDDnS (P Q : Nat) (C : Nat → Int32) (rl : ZRl) (p : Int32) (n : Nat) (z : ZT) (x : Int64) : sDDn P Q C rl p (n + 1) z x = sDD P Q C rl p (sDDn P Q C rl p n z x) := rfl
theorem zW_dd {P Q : Nat} {C : Nat → Int32} {rl : ZRl} {p : Int32} {z : ZT} {x : Int64} (hK : cK P C) (h : zW P z.2.1) : ∀ n, zW P (sDDn P Q C rl p n z x).1.2.1 := by
  intro n
  induction n with
  | zero => exact h
  | succ n ih =>
    rw [sDDnS]
    unfold sDD
    dsimp only
    split
    · exact zW_dz hK ih
    · exact zW_dz hK (zW_door hK ih)
noncomputable def sDm (P Q : Nat) (C : Nat → Int32) (rl : ZRl) (p : Int32) (n : Nat) (z : ZT) (x : Int64) (m : Nat) : Int32 × Int32 × Int64 := itr m (fun _ y => (y.1 + ((sDDn P Q C rl p n z y.2.2).1.2.2.2.2.2 - z.2.2.2.2.2), y.2.1 + sSum (sDDn P Q C rl p n z y.2.2).1.2.1 P, (sDDn P Q C rl p n z y.2.2).2)) (0, 0, x)
theorem sDmS (P Q : Nat) (C : Nat → Int32) (rl : ZRl) (p : Int32) (n : Nat) (z : ZT) (x : Int64) (m : Nat) : sDm P Q C rl p n z x (m + 1) = ((sDm P Q C rl p n z x m).1 + ((sDDn P Q C rl p n z (sDm P Q C rl p n z x m).2.2).1.2.2.2.2.2 - z.2.2.2.2.2), (sDm P Q C rl p n z x m).2.1 + sSum (sDDn P Q C rl p n z (sDm P Q C rl p n z x m).2.2).1.2.1 P, (sDDn P Q C rl p n z (sDm P Q C rl p n z x m).2.2).2) := rfl
theorem m_draw {s : ZS} : f_Model_draw 100 s = some ((dvD (nxD (s.2 216 37))).toInt32, zsL s 216 37 (nxD (s.2 216 37))) := by
  unfold f_Model_draw
  have e : (100 : Int32).toInt64 = 100 := by decide
  have e2 : ¬ (100 : Int64) = 0 := by decide
  simp only [zgl, zwf, e, zdl_n e2, zL2, updLE, ↓reduceIte, enD, edD]
theorem dM.L {P Q : Nat} {C : Nat → Int32} {st hm : Int32} {rl : ZRl} {s : ZS} {b i : Nat} {v : Int64} (h : dM P Q C st hm rl s) : dM P Q C st hm rl (zsL s b i v) := h
theorem b32 (p2 p3 : Int32) (k : Int64 → ZS → Option (Int32 × ZS)) (x : Int64) (c : Int32) (s : ZS) (g : (Int64 × Int32) → ZS → Option (Int32 × ZS)) : f_Fore_drawnDoors_B32 p2 p3 k (x, c) s g = (if p2 ≤ c then k x s else zj0 (fun (s23 : ZS) => zcl (f_Mill_passDay 207 s23) (fun (_ : Int32) (s25 : ZS) => g (nxD x, c + (1 : Int32)) s25)) (fun (k24 : ZS → Option (Int32 × ZS)) => (if p3.toInt64 ≤ dvD (nxD x) then k24 s else zcl (f_Mill_openDoor 207 s) (fun (_ : Int32) (s27 : ZS) => k24 s27)))) := by
  rw [← enD x]
  generalize hy : (x * (1103515245 : Int64) + (12345 : Int64)) - (x * (1103515245 : Int64) + (12345 : Int64)) / (2147483648 : Int64) * (2147483648 : Int64) = y
  unfold f_Fore_drawnDoors_B32
  dsimp only
  rw [hy]
  have e := lg_0le (dvD y) p3.toInt64
  rw [← edD y] at e ⊢
  simp only [e]
theorem c_dd {P Q nk : Nat} {C : Nat → Int32} {z : ZT} {rl : ZRl} {p : Int32} {x : Int64} {s2 : ZS} (hK : cK P C) (d2 : dC P Q C 0 (-1) rl s2) (hzw : zW P z.2.1) (nk2 : nk ≤ 60) (g2 : gS 207 s2 = z) (K : Int64 → ZS → Option (Int32 × ZS)) : ∃ s3, zlp zN (f_Fore_drawnDoors_B32 (nI nk) p K) (x, (0 : Int32)) s2 = K (sDDn P Q C rl p nk z x).2 s3 ∧ gS 207 s3 = (sDDn P Q C rl p nk z x).1 ∧ frm tF s2 s3 := by
  have hP := d2.1.1
  refine lp_go (n := nk) (fun i' a s3 => a.2 = nI i' ∧ (gS 207 s3, a.1) = sDDn P Q C rl p i' z x ∧ frm tF s2 s3) (fun o => ∃ s3, o = K (sDDn P Q C rl p nk z x).2 s3 ∧ gS 207 s3 = (sDDn P Q C rl p nk z x).1 ∧ frm tF s2 s3) (by omega) ⟨rfl, by rw [g2]; rfl, frm.rf⟩ ?_ ?_
  · rintro i' ⟨x', c'⟩ s3 g3 hi' ⟨q0, q1, q2⟩
    left
    dsimp only at q0 q1
    subst q0
    have hni' : ¬ nk ≤ i' := by omega
    have zw3 : zW P (gS 207 s3).2.1 := by
      have := zW_dd (Q := Q) (rl := rl) (p := p) (x := x) hK hzw i'
      rw [← q1] at this; exact this
    have st : sDDn P Q C rl p (i' + 1) z x = sDD P Q C rl p (gS 207 s3, x') := by
      rw [sDDnS, ← q1]
    have d3 := d2.f q2
    rw [st]
    rw [b32]
    unfold sDD
    by_cases hd : p.toInt64 ≤ dvD (nxD x')
    · obtain ⟨⟨r, s4⟩, r4, y1, y2, y3, F4⟩ := c_day d3 zw3
      dsimp only at y1 F4
      simp (disch := omega) only [zj0, nI_leI, hni', ↓reduceIte, hd, r4, zcl_s, nI_1]
      exact ⟨(nxD x', nI (i' + 1)), s4, rfl, rfl, by rw [y1], q2.tr F4⟩
    · obtain ⟨⟨r, s4⟩, r4, y1, F4⟩ := cl_door207 d3.1 zw3
      dsimp only at y1 F4
      obtain ⟨k1, k2, k3⟩ := door_eX (C := C) (z := gS 207 s3) (RS := s3.1 205) (RS' := fun _ => 0) hP
      rw [← y1] at k1
      dsimp only at k1
      have F4' : frm tF s3 s4 := F4.sub (fun b hb => by unfold tF; omega)
      obtain ⟨⟨r', s5⟩, r5, u1, u2, u3, F5⟩ := c_day (d3.f F4') (by rw [k1]; exact zW_door hK zw3)
      dsimp only at u1 F5
      simp (disch := omega) only [zj0, nI_leI, hni', ↓reduceIte, hd, r4, r5, zcl_s, nI_1]
      exact ⟨(nxD x', nI (i' + 1)), s5, rfl, rfl, by rw [u1, k1], q2.tr (F4'.tr F5)⟩
  · rintro ⟨x', c'⟩ s3 g3 ⟨q0, q1, q2⟩
    dsimp only at q0 q1
    subst q0
    rw [b32]
    simp (disch := omega) only [nI_leI, Nat.le_refl, ↓reduceIte]
    rw [← q1]
    exact ⟨s3, rfl, rfl, q2⟩
theorem m_dd {P Q nk : Nat} {C : Nat → Int32} {z : ZT} {rl : ZRl} {p : Int32} {x : Int64} {s2 : ZS} (hK : cK P C) (dB : dM P Q C 0 (-1) rl s2) (hzw : zW P z.2.1) (nk2 : nk ≤ 60) (j2 : gM (s2.1 226) = z) (hx : s2.2 216 37 = x) (K : ZS → Option (Int32 × ZS)) : ∃ s3, zlp zN (f_Model_doors_B96 (nI nk) p K) (0 : Int32) s2 = K s3 ∧ (gM (s3.1 226), s3.2 216 37) = sDDn P Q C rl p nk z x ∧ (∀ b, ¬ (b = 216 ∨ 226 ≤ b ∧ b ≤ 227) → s3.1 b = s2.1 b) ∧ (∀ j, j ≠ 18 → s3.1 216 j = s2.1 216 j) ∧ (∀ k, k < 10 ∨ 57 ≤ k → s3.1 226 k = s2.1 226 k) ∧ dM P Q C 0 (-1) rl s3 := by
  have hP := dB.1.1
  refine lp_go (n := nk) (fun i' a s3 => a = nI i' ∧ (gM (s3.1 226), s3.2 216 37) = sDDn P Q C rl p i' z x ∧ (∀ b, ¬ (b = 216 ∨ 226 ≤ b ∧ b ≤ 227) → s3.1 b = s2.1 b) ∧ (∀ j, j ≠ 18 → s3.1 216 j = s2.1 216 j) ∧ (∀ k, k < 10 ∨ 57 ≤ k → s3.1 226 k = s2.1 226 k) ∧ dM P Q C 0 (-1) rl s3) (fun o => ∃ s3, o = K s3 ∧ (gM (s3.1 226), s3.2 216 37) = sDDn P Q C rl p nk z x ∧ (∀ b, ¬ (b = 216 ∨ 226 ≤ b ∧ b ≤ 227) → s3.1 b = s2.1 b) ∧ (∀ j, j ≠ 18 → s3.1 216 j = s2.1 216 j) ∧ (∀ k, k < 10 ∨ 57 ≤ k → s3.1 226 k = s2.1 226 k) ∧ dM P Q C 0 (-1) rl s3) (by omega) ⟨rfl, by rw [j2, hx]; rfl, fun _ _ => rfl, fun _ _ => rfl, fun _ _ => rfl, dB⟩ ?_ ?_
  · rintro i' c' s3 g3 hi' ⟨rfl, q1, q2, q3, q4, q5⟩
    left
    have hni' : ¬ nk ≤ i' := by omega
    have zw3 : zW P (gM (s3.1 226)).2.1 := by
      have := zW_dd (Q := Q) (rl := rl) (p := p) (x := x) hK hzw i'
      rw [← q1] at this; exact this
    have st : sDDn P Q C rl p (i' + 1) z x = sDD P Q C rl p (gM (s3.1 226), s3.2 216 37) := by
      rw [sDDnS, ← q1]
    rw [st]
    unfold f_Model_doors_B96 sDD
    have dL : dM P Q C 0 (-1) rl (zsL s3 216 37 (nxD (s3.2 216 37))) := q5.L
    have xL : (zsL s3 216 37 (nxD (s3.2 216 37))).2 216 37 = nxD (s3.2 216 37) := by rw [zL2, if_pos rfl, updLE, if_pos rfl]
    have fL : (zsL s3 216 37 (nxD (s3.2 216 37))).1 = s3.1 := rfl
    generalize hs4 : zsL s3 216 37 (nxD (s3.2 216 37)) = s4 at dL xL fL
    by_cases hd : p.toInt64 ≤ dvD (nxD (s3.2 216 37))
    · obtain ⟨⟨r, s5⟩, r5, y1, y2, y3, N5⟩ := m_day dL (by rw [fL]; exact zw3)
      dsimp only at y1 N5
      simp (disch := omega) only [zj0, nI_leI, hni', ↓reduceIte, m_draw, zcl_s, hs4, dv_le, hd, r5, nI_1]
      refine ⟨_, _, rfl, rfl, ?_, fun b hb => ?_, fun j hj => ?_, fun k hk => ?_, dL.n N5⟩
      · rw [y1, fL, N5.2.1 216 (by omega), xL]
      · rw [N5.1 b hb, fL, q2 b hb]
      · rw [N5.2.2.1 j hj, fL, q3 j hj]
      · rw [N5.2.2.2 k hk, fL, q4 k hk]
    · obtain ⟨⟨r, s5⟩, r5, y1, N5⟩ := m_opens dL.1
      dsimp only at y1 N5
      rw [fL] at y1
      obtain ⟨z1, z2, z3⟩ := door_eX (C := C) (z := gM (s3.1 226)) (RS := s3.1 227) (RS' := fun _ => 0) hP
      rw [← y1] at z1
      dsimp only at z1
      obtain ⟨⟨r', s6⟩, r6, u1, u2, u3, N6⟩ := m_day (dL.n N5) (by rw [z1]; exact zW_door hK zw3)
      dsimp only at u1 N6
      simp (disch := omega) only [zj0, nI_leI, hni', ↓reduceIte, m_draw, zcl_s, hs4, dv_le, hd, r5, r6, nI_1]
      refine ⟨_, _, rfl, rfl, ?_, fun b hb => ?_, fun j hj => ?_, fun k hk => ?_, (dL.n N5).n N6⟩
      · rw [u1, z1, N6.2.1 216 (by omega), N5.2.1 216 (by omega), xL]
      · rw [N6.1 b hb, N5.1 b hb, fL, q2 b hb]
      · rw [N6.2.2.1 j hj, N5.2.2.1 j hj, fL, q3 j hj]
      · rw [N6.2.2.2 k hk, N5.2.2.2 k hk, fL, q4 k hk]
  · rintro c' s3 g3 ⟨rfl, q1, q2, q3, q4, q5⟩
    unfold f_Model_doors_B96
    simp (disch := omega) only [nI_leI, Nat.le_refl, ↓reduceIte]
    exact ⟨s3, rfl, q1, q2, q3, q4, q5⟩
theorem st_doors (m n p w : Int32) : stp (f_Ring_doors m n p w) (f_Model_doors m n p w) := by
  refine stq (fun s hR => ?_)
  obtain ⟨R, P, Q, h1, h2, h3, h4, h5, h6, h7⟩ := id hR
  have hP := h3.1.1
  have hQ := h3.1.2.1
  have hzw := h3.2.2.2.1.1.zW
  obtain ⟨rl, hA, hB⟩ := ctx h2 h3
  have hin1 : ∀ s' : ZS, f_Model_in m.toInt64 1 10 s' = some (if (1 : Int32) ≤ m ∧ m ≤ 10 then 1 else 0, s') := fun s' => mIn (by decide) (by decide)
  have hin2 : ∀ s' : ZS, f_Model_in n.toInt64 1 60 s' = some (if (1 : Int32) ≤ n ∧ n ≤ 60 then 1 else 0, s') := fun s' => mIn (by decide) (by decide)
  have hin3 : ∀ s' : ZS, f_Model_in p.toInt64 0 100 s' = some (if (0 : Int32) ≤ p ∧ p ≤ 100 then 1 else 0, s') := fun s' => mIn (by decide) (by decide)
  unfold f_Ring_doors f_Model_doors
  rcases told_c h3 with ⟨c0, m0⟩ | ⟨c0, m0⟩
  · refine ⟨-1, ?_, fun s' hs' => ?_⟩
    · simp only [zgi, zgl, zwi, zwf, zjn, zj0, zcl_s, zcv_s, zrd_n, zrl_n, zix_n, zwa_n, zwl_n, zI1, zI2, zL1, zL2, zR1, zR2, updE, updLE, zbl_0, zbl_1, nI_1, nI_add, nI_mulR, nI_leI, nI_ltI, nI_0le, nI_lt0, bvE, ↓reduceIte, Nat.reduceEqDiff, Nat.reduceLT, Nat.reduceAdd, Nat.reduceMul, reduceCtorEq, i10, i01, eq_self, or_true, true_or, false_or, or_false, not_true_eq_false, not_false_eq_true, if_true, if_false, c0]; exact rt_s ⟨rfl, frm.rf⟩
    · have m0' : s'.1 226 0 = 0 := by rw [hs' 226 (by omega)]; exact m0
      simp only [zgi, zgl, zwi, zwf, zjn, zj0, zcl_s, zcv_s, zrd_n, zrl_n, zix_n, zwa_n, zwl_n, zI1, zI2, zL1, zL2, zR1, zR2, updE, updLE, zbl_0, zbl_1, nI_1, nI_add, nI_mulR, nI_leI, nI_ltI, nI_0le, nI_lt0, bvE, ↓reduceIte, Nat.reduceEqDiff, Nat.reduceLT, Nat.reduceAdd, Nat.reduceMul, reduceCtorEq, i10, i01, eq_self, or_true, true_or, false_or, or_false, not_true_eq_false, not_false_eq_true, if_true, if_false, m_isSmithy, m0']; exact rt_s ⟨rfl, qM.rf⟩
  · have mm : ∀ s' : ZS, (∀ b, ¬ (202 ≤ b ∧ b ≤ 215) → s'.1 b = s.1 b) → s'.1 226 0 = 1 := fun s' hs' => by rw [hs' 226 (by omega)]; exact m0
    rcases nIn m 1 10 (by omega) (by omega) with ⟨mk, mk1, mk2, rfl⟩ | hno
    · have hm : (1 : Int32) ≤ nI mk ∧ nI mk ≤ 10 := ⟨by rw [l1, nI_leI (by omega) (by omega)]; omega, by rw [l10, nI_leI (by omega) (by omega)]; omega⟩
      have a1 : ¬ nI mk < 1 := Int32.not_lt.mpr hm.1
      have a2 : ¬ (10 : Int32) < nI mk := Int32.not_lt.mpr hm.2
      rcases nIn n 1 60 (by omega) (by omega) with ⟨nk, nk1, nk2, rfl⟩ | hno
      · have hn : (1 : Int32) ≤ nI nk ∧ nI nk ≤ 60 := ⟨by rw [l1, nI_leI (by omega) (by omega)]; omega, by rw [show (60 : Int32) = nI 60 from rfl, nI_leI (by omega) (by omega)]; omega⟩
        have b1 : ¬ nI nk < 1 := Int32.not_lt.mpr hn.1
        by_cases hp : (0 : Int32) ≤ p ∧ p ≤ 100
        · have p1 : ¬ p < 0 := Int32.not_lt.mpr hp.1
          have p2 : ¬ (100 : Int32) < p := Int32.not_lt.mpr hp.2
          by_cases hw : w = 0 ∨ w = 1
          · have ex : s.1 3 7 = s.1 216 22 := h3.2.2.2.2.2.2.2.1
            have eN : s.1 10 1 = (gM (s.1 226)).2.2.2.2.2 := congrArg (fun z : ZT => z.2.2.2.2.2) h3.g
            refine ⟨if w = 0 then (sDm P Q (s.1 226) rl p nk (gM (s.1 226)) (s.1 216 22).toInt64 mk).1 else (sDm P Q (s.1 226) rl p nk (gM (s.1 226)) (s.1 216 22).toInt64 mk).2.1, ?_, fun s' hs' => ?_⟩
            · simp only [zgi, zcl_s, c0, i10, ↓reduceIte, a1, a2, b1, hn.2, p1, p2, cEi, hw, not_false_eq_true]
              have key : rt (f_Fore_drawnDoors (nI mk) (nI nk) p w s) (fun w_1 => w_1.1 = (if w = 0 then (sDm P Q (s.1 226) rl p nk (gM (s.1 226)) (s.1 216 22).toInt64 mk).1 else (sDm P Q (s.1 226) rl p nk (gM (s.1 226)) (s.1 216 22).toInt64 mk).2.1) ∧ frm (fun b => 202 ≤ b ∧ b ≤ 215) s w_1.2) := by
                unfold f_Fore_drawnDoors
                simp only [zgi, zjn, ex]
                refine lp_rt mk (fun i a s1 => a.2.2.2 = nI i ∧ (a.1, a.2.1, a.2.2.1) = sDm P Q (s.1 226) rl p nk (gM (s.1 226)) (s.1 216 22).toInt64 i ∧ frm (fun b => 202 ≤ b ∧ b ≤ 215) s s1) (by omega) ⟨rfl, rfl, frm.rf⟩ ?_ ?_
                · rintro i ⟨rows, wide, x, c⟩ s1 g hi ⟨j0, j1, F1⟩
                  left
                  dsimp only at j0 j1
                  subst j0
                  have hni : ¬ mk ≤ i := by omega
                  obtain ⟨s2, r2, g2, d2, _, F2⟩ := c_res h2 h3 hA F1
                  rw [sDmS, ← j1]
                  unfold f_Fore_drawnDoors_B19
                  simp (disch := omega) only [zgi, zjn, nI_leI, hni, ↓reduceIte, r2, zcv_s, nI_1]
                  -- the days
                  obtain ⟨s3, e3, g3, F3⟩ := c_dd (P := P) (Q := Q) (C := s.1 226) (rl := rl) (p := p) (x := x) h3.1.cK d2 hzw nk2 g2 (fun (a14 : Int64) (s13 : ZS) => zcl (f_State_allWide 207 s13) (fun (v19 : Int32) (s18 : ZS) => g ((rows + (s13.1 207 1 - s13.1 10 1)), (wide + v19), a14, nI (i + 1)) s18))
                  rw [e3]
                  have F23 : frm (fun b => 202 ≤ b ∧ b ≤ 215) s s3 := F2.tr (F3.sub (fun b hb => by unfold tF at hb; omega))
                  have e10 : s3.1 10 1 = (gM (s.1 226)).2.2.2.2.2 := by rw [F23.1 10 (by omega)]; exact eN
                  have zw3 : zW P (gS 207 s3).2.1 := by rw [g3]; exact zW_dd h3.1.cK hzw nk
                  simp only [cl_allWide207, zcl_s, e10, rN207]
                  refine ⟨_, _, rfl, rfl, ?_, F23⟩
                  rw [sSum_P hP zw3, g3]
                · rintro ⟨rows, wide, x, c⟩ s1 g ⟨j0, j1, F1⟩
                  dsimp only at j0 j1
                  subst j0
                  unfold f_Fore_drawnDoors_B19
                  simp (disch := omega) only [nI_leI, Nat.le_refl, ↓reduceIte]
                  rw [← j1]
                  by_cases w0 : w = 0
                  · simp only [w0, not_true_eq_false, ↓reduceIte]; exact rt_s ⟨rfl, F1⟩
                  · simp only [w0, not_false_eq_true, ↓reduceIte]; exact rt_s ⟨rfl, F1⟩
              exact rt_cl key (fun v s h => rt_s h)
            · have e226 : s'.1 226 = s.1 226 := hs' 226 (by omega)
              have e216 : s'.1 216 = s.1 216 := hs' 216 (by omega)
              simp only [zgi, zwf, zcl_s, m_isSmithy, mm s' hs', i10, ↓reduceIte, hin1, hm, hin2, hn, hin3, hp, and_self, mIn01, hw, not_false_eq_true, e216]
              generalize hs0 : zsL s' 216 37 (s.1 216 22).toInt64 = s0
              have f0 : s0.1 = s'.1 := by rw [← hs0]; rfl
              have x0 : s0.2 216 37 = (s.1 216 22).toInt64 := by rw [← hs0, zL2, if_pos rfl, updLE, if_pos rfl]
              refine rt_cv m_keeps ?_
              rintro s1 rfl
              generalize hs1 : zsR s0 229 (fun k => if k < 47 then s0.1 226 (10 + k) else s0.1 229 k) = s1
              have k1 : ∀ k, k < 47 → s1.1 229 k = s.1 226 (10 + k) := fun k hk => by rw [← hs1, kept k hk, f0, e226]
              have e1 : s1.1 226 = s.1 226 := by rw [← hs1, zR1, if_neg (by omega), f0, e226]
              have E1 : ∀ b, b ≠ 229 → s1.1 b = s'.1 b := fun b hb => by rw [← hs1, zR1, if_neg hb, f0]
              have x1 : s1.2 216 37 = (s.1 216 22).toInt64 := by rw [← hs1]; exact x0
              simp only [zjn]
              refine lp_rt mk (fun i a s2 => a.2.2 = nI i ∧ (a.1, a.2.1, s2.2 216 37) = sDm P Q (s.1 226) rl p nk (gM (s.1 226)) (s.1 216 22).toInt64 i ∧ s2.1 226 = s.1 226 ∧ (∀ b, ¬ (b = 216 ∨ 226 ≤ b ∧ b ≤ 227) → s2.1 b = s1.1 b) ∧ (∀ j, j ≠ 18 → s2.1 216 j = s1.1 216 j)) (by omega) ⟨rfl, by rw [x1]; rfl, e1, fun _ _ => rfl, fun _ _ => rfl⟩ ?_ ?_
              · rintro i ⟨rows, wide, c⟩ s2 g hi ⟨j0, j1, j2, j3, j4⟩
                left
                dsimp only at j0 j1
                subst j0
                have hni : ¬ mk ≤ i := by omega
                have dB : dM P Q (s.1 226) 0 (-1) rl s2 := hB s2 0 (-1) (fun k hk => by rw [j2]) (fun b hb => by rw [j3 b (by omega), E1 b (by omega)]; exact hs' b (by omega)) (by rw [j4 21 (by omega), E1 216 (by omega), e216]) (by rw [j4 23 (by omega), E1 216 (by omega), e216]; exact h6) (by rw [j4 24 (by omega), E1 216 (by omega), e216]; exact h7)
                rw [sDmS, ← j1]
                unfold f_Model_doors_B78
                simp (disch := omega) only [zgi, zj0, nI_leI, hni, ↓reduceIte, nI_1]
                generalize hx : s2.2 216 37 = x
                -- the days
                obtain ⟨s3, e3, q1, q2, q3, q4, q5⟩ := m_dd (P := P) (Q := Q) (C := s.1 226) (z := gM (s.1 226)) (rl := rl) (p := p) (x := x) h3.1.cK dB hzw nk2 (by rw [j2]) hx (fun (s25 : ZS) => zcl (f_Model_wideAll s25) (fun (v29 : Int32) (s28 : ZS) => zcv (f_Model_laysBack s28) (fun (s30 : ZS) => g ((rows + (s25.1 226 11 - s2.1 226 11)), (wide + v29), nI (i + 1)) s30)))
                rw [e3]
                obtain ⟨s4, r4, rfl⟩ := m_laysBack (s := s3) (M0 := s.1 226) (fun k hk => by rw [q2 229 (by omega), j3 229 (by omega)]; exact k1 k hk) (fun k hk => by rw [q4 k hk, j2])
                simp only [m_wideAll q5.1, zcl_s, r4, zcv_s]
                refine ⟨_, _, rfl, rfl, ?_, ?_, fun b hb => ?_, fun j hj => ?_⟩
                · rw [← q1, qN, qN, j2]; rfl
                · rw [zR1, if_pos rfl]
                · rw [zR1, if_neg (by omega), q2 b hb, j3 b hb]
                · rw [zR1, if_neg (by omega), q3 j hj, j4 j hj]
              · rintro ⟨rows, wide, c⟩ s2 g ⟨j0, j1, j2, j3, j4⟩
                dsimp only at j0 j1
                subst j0
                unfold f_Model_doors_B78
                simp (disch := omega) only [nI_leI, Nat.le_refl, ↓reduceIte]
                rw [← j1]
                have qq : qM s' s2 := ⟨fun b hb => by
                  by_cases hb2 : b = 226
                  · rw [hb2, j2, e226]
                  · rw [j3 b (by omega), E1 b (by omega)], fun j hj => by rw [j4 j (by omega), E1 216 (by omega)]⟩
                by_cases w0 : w = 0
                · simp only [w0, not_true_eq_false, ↓reduceIte]; exact rt_s ⟨rfl, qq⟩
                · simp only [w0, not_false_eq_true, ↓reduceIte]; exact rt_s ⟨rfl, qq⟩
          · refine ⟨-1, ?_, fun s' hs' => ?_⟩
            · simp only [zgi, zgl, zwi, zwf, zjn, zj0, zcl_s, zcv_s, zrd_n, zrl_n, zix_n, zwa_n, zwl_n, zI1, zI2, zL1, zL2, zR1, zR2, updE, updLE, zbl_0, zbl_1, nI_1, nI_add, nI_mulR, nI_leI, nI_ltI, nI_0le, nI_lt0, bvE, ↓reduceIte, Nat.reduceEqDiff, Nat.reduceLT, Nat.reduceAdd, Nat.reduceMul, reduceCtorEq, i10, i01, eq_self, or_true, true_or, false_or, or_false, not_true_eq_false, not_false_eq_true, if_true, if_false, c0, a1, a2, b1, hn.2, p1, p2, cEi, hw]; exact rt_s ⟨rfl, frm.rf⟩
            · simp only [zgi, zgl, zwi, zwf, zjn, zj0, zcl_s, zcv_s, zrd_n, zrl_n, zix_n, zwa_n, zwl_n, zI1, zI2, zL1, zL2, zR1, zR2, updE, updLE, zbl_0, zbl_1, nI_1, nI_add, nI_mulR, nI_leI, nI_ltI, nI_0le, nI_lt0, bvE, ↓reduceIte, Nat.reduceEqDiff, Nat.reduceLT, Nat.reduceAdd, Nat.reduceMul, reduceCtorEq, i10, i01, eq_self, or_true, true_or, false_or, or_false, not_true_eq_false, not_false_eq_true, if_true, if_false, m_isSmithy, mm s' hs', hin1, hm, hin2, hn, hin3, hp, and_self, mIn01, hw]; exact rt_s ⟨rfl, qM.rf⟩
        · refine ⟨-1, ?_, fun s' hs' => ?_⟩
          · by_cases p1 : p < 0
            · simp only [zgi, zgl, zwi, zwf, zjn, zj0, zcl_s, zcv_s, zrd_n, zrl_n, zix_n, zwa_n, zwl_n, zI1, zI2, zL1, zL2, zR1, zR2, updE, updLE, zbl_0, zbl_1, nI_1, nI_add, nI_mulR, nI_leI, nI_ltI, nI_0le, nI_lt0, bvE, ↓reduceIte, Nat.reduceEqDiff, Nat.reduceLT, Nat.reduceAdd, Nat.reduceMul, reduceCtorEq, i10, i01, eq_self, or_true, true_or, false_or, or_false, not_true_eq_false, not_false_eq_true, if_true, if_false, c0, a1, a2, b1, hn.2, p1]; exact rt_s ⟨rfl, frm.rf⟩
            · have p2 : (100 : Int32) < p := Int32.not_le.mp (fun e => hp ⟨Int32.not_lt.mp p1, e⟩)
              simp only [zgi, zgl, zwi, zwf, zjn, zj0, zcl_s, zcv_s, zrd_n, zrl_n, zix_n, zwa_n, zwl_n, zI1, zI2, zL1, zL2, zR1, zR2, updE, updLE, zbl_0, zbl_1, nI_1, nI_add, nI_mulR, nI_leI, nI_ltI, nI_0le, nI_lt0, bvE, ↓reduceIte, Nat.reduceEqDiff, Nat.reduceLT, Nat.reduceAdd, Nat.reduceMul, reduceCtorEq, i10, i01, eq_self, or_true, true_or, false_or, or_false, not_true_eq_false, not_false_eq_true, if_true, if_false, c0, a1, a2, b1, hn.2, p1, p2]; exact rt_s ⟨rfl, frm.rf⟩
          · simp only [zgi, zgl, zwi, zwf, zjn, zj0, zcl_s, zcv_s, zrd_n, zrl_n, zix_n, zwa_n, zwl_n, zI1, zI2, zL1, zL2, zR1, zR2, updE, updLE, zbl_0, zbl_1, nI_1, nI_add, nI_mulR, nI_leI, nI_ltI, nI_0le, nI_lt0, bvE, ↓reduceIte, Nat.reduceEqDiff, Nat.reduceLT, Nat.reduceAdd, Nat.reduceMul, reduceCtorEq, i10, i01, eq_self, or_true, true_or, false_or, or_false, not_true_eq_false, not_false_eq_true, if_true, if_false, m_isSmithy, mm s' hs', hin1, hm, hin2, hn, hin3, hp, and_self]; exact rt_s ⟨rfl, qM.rf⟩
      · have hno' : ¬ ((1 : Int32) ≤ n ∧ n ≤ 60) := hno
        refine ⟨-1, ?_, fun s' hs' => ?_⟩
        · by_cases b1 : n < 1
          · simp only [zgi, zgl, zwi, zwf, zjn, zj0, zcl_s, zcv_s, zrd_n, zrl_n, zix_n, zwa_n, zwl_n, zI1, zI2, zL1, zL2, zR1, zR2, updE, updLE, zbl_0, zbl_1, nI_1, nI_add, nI_mulR, nI_leI, nI_ltI, nI_0le, nI_lt0, bvE, ↓reduceIte, Nat.reduceEqDiff, Nat.reduceLT, Nat.reduceAdd, Nat.reduceMul, reduceCtorEq, i10, i01, eq_self, or_true, true_or, false_or, or_false, not_true_eq_false, not_false_eq_true, if_true, if_false, c0, a1, a2, b1]; exact rt_s ⟨rfl, frm.rf⟩
          · have b2 : ¬ n ≤ 60 := fun e => hno' ⟨Int32.not_lt.mp b1, e⟩
            simp only [zgi, zgl, zwi, zwf, zjn, zj0, zcl_s, zcv_s, zrd_n, zrl_n, zix_n, zwa_n, zwl_n, zI1, zI2, zL1, zL2, zR1, zR2, updE, updLE, zbl_0, zbl_1, nI_1, nI_add, nI_mulR, nI_leI, nI_ltI, nI_0le, nI_lt0, bvE, ↓reduceIte, Nat.reduceEqDiff, Nat.reduceLT, Nat.reduceAdd, Nat.reduceMul, reduceCtorEq, i10, i01, eq_self, or_true, true_or, false_or, or_false, not_true_eq_false, not_false_eq_true, if_true, if_false, c0, a1, a2, b1, b2]; exact rt_s ⟨rfl, frm.rf⟩
        · simp only [zgi, zgl, zwi, zwf, zjn, zj0, zcl_s, zcv_s, zrd_n, zrl_n, zix_n, zwa_n, zwl_n, zI1, zI2, zL1, zL2, zR1, zR2, updE, updLE, zbl_0, zbl_1, nI_1, nI_add, nI_mulR, nI_leI, nI_ltI, nI_0le, nI_lt0, bvE, ↓reduceIte, Nat.reduceEqDiff, Nat.reduceLT, Nat.reduceAdd, Nat.reduceMul, reduceCtorEq, i10, i01, eq_self, or_true, true_or, false_or, or_false, not_true_eq_false, not_false_eq_true, if_true, if_false, m_isSmithy, mm s' hs', hin1, hm, and_self, hin2, hno']; exact rt_s ⟨rfl, qM.rf⟩
    · have hno' : ¬ ((1 : Int32) ≤ m ∧ m ≤ 10) := hno
      refine ⟨-1, ?_, fun s' hs' => ?_⟩
      · by_cases a1 : m < 1
        · simp only [zgi, zgl, zwi, zwf, zjn, zj0, zcl_s, zcv_s, zrd_n, zrl_n, zix_n, zwa_n, zwl_n, zI1, zI2, zL1, zL2, zR1, zR2, updE, updLE, zbl_0, zbl_1, nI_1, nI_add, nI_mulR, nI_leI, nI_ltI, nI_0le, nI_lt0, bvE, ↓reduceIte, Nat.reduceEqDiff, Nat.reduceLT, Nat.reduceAdd, Nat.reduceMul, reduceCtorEq, i10, i01, eq_self, or_true, true_or, false_or, or_false, not_true_eq_false, not_false_eq_true, if_true, if_false, c0, a1]; exact rt_s ⟨rfl, frm.rf⟩
        · have a2 : (10 : Int32) < m := Int32.not_le.mp (fun e => hno' ⟨Int32.not_lt.mp a1, e⟩)
          simp only [zgi, zgl, zwi, zwf, zjn, zj0, zcl_s, zcv_s, zrd_n, zrl_n, zix_n, zwa_n, zwl_n, zI1, zI2, zL1, zL2, zR1, zR2, updE, updLE, zbl_0, zbl_1, nI_1, nI_add, nI_mulR, nI_leI, nI_ltI, nI_0le, nI_lt0, bvE, ↓reduceIte, Nat.reduceEqDiff, Nat.reduceLT, Nat.reduceAdd, Nat.reduceMul, reduceCtorEq, i10, i01, eq_self, or_true, true_or, false_or, or_false, not_true_eq_false, not_false_eq_true, if_true, if_false, c0, a1, a2]; exact rt_s ⟨rfl, frm.rf⟩
      · simp only [zgi, zgl, zwi, zwf, zjn, zj0, zcl_s, zcv_s, zrd_n, zrl_n, zix_n, zwa_n, zwl_n, zI1, zI2, zL1, zL2, zR1, zR2, updE, updLE, zbl_0, zbl_1, nI_1, nI_add, nI_mulR, nI_leI, nI_ltI, nI_0le, nI_lt0, bvE, ↓reduceIte, Nat.reduceEqDiff, Nat.reduceLT, Nat.reduceAdd, Nat.reduceMul, reduceCtorEq, i10, i01, eq_self, or_true, true_or, false_or, or_false, not_true_eq_false, not_false_eq_true, if_true, if_false, m_isSmithy, mm s' hs', hin1, hno']; exact rt_s ⟨rfl, qM.rf⟩
