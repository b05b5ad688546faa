set_option maxHeartbeats 4000000 in
set_option maxRecDepth 100000 in
theorem ct_Tape_clear {x : Nat → ZE} {h : ZH} {a t : Nat} {l p f : Int32} (cT : zz_c h a (.inr (8, [.ref t, .int l, .int p, .int f])))  : zz_ct zt_ms zt_nm zt_df x 0 zt_m101 [.ref a] h (fun r h2 => r = none ∧ zz_c h2 a (.inr (8, [.ref t, .int 0, .int p, .int f])) ∧ zz_fr [a] h h2) := by
  change zz_wp zt_ms zt_nm zt_df x 0 zt_m101 0 [(0, .ref a)] [] h _
  refine w_aload_n (pc2 := 1) rfl rfl rfl ?_
  refine w_iconst (pc2 := 2) rfl rfl ?_
  refine w_putfield (pc2 := 5) (en := .inr (8, [.ref t, .int 0, .int p, .int f])) rfl cT rfl (Nat.le_of_ble_eq_true rfl) rfl rfl rfl (fun h1 u2 => ?_)
  have c3 := u2.self cT
  exact w_vret rfl rfl ⟨rfl, c3, u2.fr.sub (by intro k hk; simp only [List.cons_append, List.nil_append, List.mem_cons, List.not_mem_nil, or_false, or_assoc] at hk ⊢; omega)⟩
set_option maxHeartbeats 4000000 in
set_option maxRecDepth 100000 in
theorem ct_Tape_rewind {x : Nat → ZE} {h : ZH} {a t : Nat} {l p f : Int32} (cT : zz_c h a (.inr (8, [.ref t, .int l, .int p, .int f])))  : zz_ct zt_ms zt_nm zt_df x 0 zt_m91 [.ref a] h (fun r h2 => r = none ∧ zz_c h2 a (.inr (8, [.ref t, .int l, .int 0, .int 0])) ∧ zz_fr [a] h h2) := by
  change zz_wp zt_ms zt_nm zt_df x 0 zt_m91 0 [(0, .ref a)] [] h _
  refine w_aload_n (pc2 := 1) rfl rfl rfl ?_
  refine w_iconst (pc2 := 2) rfl rfl ?_
  refine w_putfield (pc2 := 5) (en := .inr (8, [.ref t, .int l, .int 0, .int f])) rfl cT rfl (Nat.le_of_ble_eq_true rfl) rfl rfl rfl (fun h4 u5 => ?_)
  have c6 := u5.self cT
  refine w_aload_n (pc2 := 6) rfl rfl rfl ?_
  refine w_iconst (pc2 := 7) rfl rfl ?_
  refine w_putfield (pc2 := 10) (en := .inr (8, [.ref t, .int l, .int 0, .int 0])) rfl c6 rfl (Nat.le_of_ble_eq_true rfl) rfl rfl rfl (fun h7 u8 => ?_)
  have c9 := u8.self c6
  exact w_vret rfl rfl ⟨rfl, c9, (u5.fr.tr u8.fr).sub (by intro k hk; simp only [List.cons_append, List.nil_append, List.mem_cons, List.not_mem_nil, or_false, or_assoc] at hk ⊢; omega)⟩
set_option maxHeartbeats 4000000 in
set_option maxRecDepth 100000 in
theorem ct_Tape_append {x : Nat → ZE} {h : ZH} {a t k : Nat} {p f n : Int32} {bs : Nat → Int32} (cT : zz_c h a (.inr (8, [.ref t, .int (nI k), .int p, .int f]))) (cB : zz_c h t (.inl (.byte, 400, .inl bs))) (hk : k + 4 ≤ 400) (hat : a ≠ t) : zz_ct zt_ms zt_nm zt_df x 0 zt_m90 [.ref a, .int n] h (fun r h2 => r = none ∧ zz_c h2 a (.inr (8, [.ref t, .int (nI (k + 1 + 1 + 1 + 1)), .int p, .int f])) ∧ zz_c h2 t (.inl (.byte, 400, .inl (upd (upd (upd (upd bs k (vp_nar .byte ((n >>> (24 &&& 31)).toInt8.toInt32))) (k + 1) (vp_nar .byte ((n >>> (16 &&& 31)).toInt8.toInt32))) (k + 1 + 1) (vp_nar .byte ((n >>> (8 &&& 31)).toInt8.toInt32))) (k + 1 + 1 + 1) (vp_nar .byte ((n >>> (0 &&& 31)).toInt8.toInt32))))) ∧ zz_fr [a, t] h h2) := by
  change zz_wp zt_ms zt_nm zt_df x 0 zt_m90 0 [(0, .ref a), (1, .int n)] [] h _
  refine w_bipush (pc2 := 2) rfl rfl ?_
  refine w_istore_n (pc2 := 3) (ls2 := [(2, .int 24), (0, .ref a), (1, .int n)]) rfl rfl rfl ?_
  refine w_iload_n (pc2 := 4) rfl rfl rfl ?_
  refine w_if_lt (pc2 := 7) rfl rfl (fun c => absurd c (by decide)) (fun _ => ?_)
  refine w_aload_n (pc2 := 8) rfl rfl rfl ?_
  refine w_getfield (pc2 := 11) rfl cT rfl rfl rfl ?_
  refine w_sipush (pc2 := 14) rfl rfl ?_
  refine w_icmp_ge (pc2 := 17) rfl rfl (fun k14 => ?_) (fun k14 => ?_)
  · rw [zz_leN (m := 400) (n := k) (show (400 : Int32) = nI 400 from rfl) (rfl : nI k = nI k) (by omega) (by omega)] at k14
    exfalso; omega
  · rw [zz_leN (m := 400) (n := k) (show (400 : Int32) = nI 400 from rfl) (rfl : nI k = nI k) (by omega) (by omega)] at k14
    refine w_aload_n (pc2 := 18) rfl rfl rfl ?_
    refine w_getfield (pc2 := 21) rfl cT rfl rfl rfl ?_
    refine w_aload_n (pc2 := 22) rfl rfl rfl ?_
    refine w_getfield (pc2 := 25) rfl cT rfl rfl rfl ?_
    refine w_iload_n (pc2 := 26) rfl rfl rfl ?_
    refine w_iload_n (pc2 := 27) rfl rfl rfl ?_
    refine w_ishr (pc2 := 28) rfl rfl ?_
    refine w_i2b (pc2 := 29) rfl rfl ?_
    refine w_bastoreK (pc2 := 30) (j := k) (en := .inl (.byte, 400, .inl (upd bs k (vp_nar .byte (((n >>> (24 &&& 31))).toInt8.toInt32))))) rfl cB (rfl : nI k = nI k) (by omega) (by decide) rfl rfl (fun h10 u11 => ?_)
    have c12 := u11.off cT (by omega)
    have c13 := u11.self cB
    refine w_aload_n (pc2 := 31) rfl rfl rfl ?_
    refine w_dup (pc2 := 32) rfl rfl rfl ?_
    refine w_getfield (pc2 := 35) rfl c12 rfl rfl rfl ?_
    refine w_iconst (pc2 := 36) rfl rfl ?_
    refine w_iadd (pc2 := 37) rfl rfl ?_
    refine w_putfield (pc2 := 40) (en := .inr (8, [.ref t, .int ((nI k) + 1), .int p, .int f])) rfl c12 rfl (Nat.le_of_ble_eq_true rfl) rfl rfl rfl (fun h14 u15 => ?_)
    have c16 := u15.self c12
    have c17 := u15.off c13 (by omega)
    refine w_iinc (pc2 := 43) (ls2 := [(2, .int 16), (0, .ref a), (1, .int n)]) rfl rfl rfl rfl ?_
    refine w_goto rfl ?_
    refine w_iload_n (pc2 := 4) rfl rfl rfl ?_
    refine w_if_lt (pc2 := 7) rfl rfl (fun c => absurd c (by decide)) (fun _ => ?_)
    refine w_aload_n (pc2 := 8) rfl rfl rfl ?_
    refine w_getfield (pc2 := 11) rfl c16 rfl rfl rfl ?_
    refine w_sipush (pc2 := 14) rfl rfl ?_
    refine w_icmp_ge (pc2 := 17) rfl rfl (fun k14 => ?_) (fun k14 => ?_)
    · rw [zz_leN (m := 400) (n := (k + 1)) (show (400 : Int32) = nI 400 from rfl) (nI_addE (m := k) (n := 1) (rfl : nI k = nI k) (show (1 : Int32) = nI 1 from rfl)) (by omega) (by omega)] at k14
      exfalso; omega
    · rw [zz_leN (m := 400) (n := (k + 1)) (show (400 : Int32) = nI 400 from rfl) (nI_addE (m := k) (n := 1) (rfl : nI k = nI k) (show (1 : Int32) = nI 1 from rfl)) (by omega) (by omega)] at k14
      refine w_aload_n (pc2 := 18) rfl rfl rfl ?_
      refine w_getfield (pc2 := 21) rfl c16 rfl rfl rfl ?_
      refine w_aload_n (pc2 := 22) rfl rfl rfl ?_
      refine w_getfield (pc2 := 25) rfl c16 rfl rfl rfl ?_
      refine w_iload_n (pc2 := 26) rfl rfl rfl ?_
      refine w_iload_n (pc2 := 27) rfl rfl rfl ?_
      refine w_ishr (pc2 := 28) rfl rfl ?_
      refine w_i2b (pc2 := 29) rfl rfl ?_
      refine w_bastoreK (pc2 := 30) (j := (k + 1)) (en := .inl (.byte, 400, .inl (upd (upd bs k (vp_nar .byte (((n >>> (24 &&& 31))).toInt8.toInt32))) ((k + 1)) (vp_nar .byte (((n >>> (16 &&& 31))).toInt8.toInt32))))) rfl c17 (nI_addE (m := k) (n := 1) (rfl : nI k = nI k) (show (1 : Int32) = nI 1 from rfl)) (by omega) (by decide) rfl rfl (fun h18 u19 => ?_)
      have c20 := u19.off c16 (by omega)
      have c21 := u19.self c17
      refine w_aload_n (pc2 := 31) rfl rfl rfl ?_
      refine w_dup (pc2 := 32) rfl rfl rfl ?_
      refine w_getfield (pc2 := 35) rfl c20 rfl rfl rfl ?_
      refine w_iconst (pc2 := 36) rfl rfl ?_
      refine w_iadd (pc2 := 37) rfl rfl ?_
      refine w_putfield (pc2 := 40) (en := .inr (8, [.ref t, .int (((nI k) + 1) + 1), .int p, .int f])) rfl c20 rfl (Nat.le_of_ble_eq_true rfl) rfl rfl rfl (fun h22 u23 => ?_)
      have c24 := u23.self c20
      have c25 := u23.off c21 (by omega)
      refine w_iinc (pc2 := 43) (ls2 := [(2, .int 8), (0, .ref a), (1, .int n)]) rfl rfl rfl rfl ?_
      refine w_goto rfl ?_
      refine w_iload_n (pc2 := 4) rfl rfl rfl ?_
      refine w_if_lt (pc2 := 7) rfl rfl (fun c => absurd c (by decide)) (fun _ => ?_)
      refine w_aload_n (pc2 := 8) rfl rfl rfl ?_
      refine w_getfield (pc2 := 11) rfl c24 rfl rfl rfl ?_
      refine w_sipush (pc2 := 14) rfl rfl ?_
      refine w_icmp_ge (pc2 := 17) rfl rfl (fun k14 => ?_) (fun k14 => ?_)
      · rw [zz_leN (m := 400) (n := ((k + 1) + 1)) (show (400 : Int32) = nI 400 from rfl) (nI_addE (m := (k + 1)) (n := 1) (nI_addE (m := k) (n := 1) (rfl : nI k = nI k) (show (1 : Int32) = nI 1 from rfl)) (show (1 : Int32) = nI 1 from rfl)) (by omega) (by omega)] at k14
        exfalso; omega
      · rw [zz_leN (m := 400) (n := ((k + 1) + 1)) (show (400 : Int32) = nI 400 from rfl) (nI_addE (m := (k + 1)) (n := 1) (nI_addE (m := k) (n := 1) (rfl : nI k = nI k) (show (1 : Int32) = nI 1 from rfl)) (show (1 : Int32) = nI 1 from rfl)) (by omega) (by omega)] at k14
        refine w_aload_n (pc2 := 18) rfl rfl rfl ?_
        refine w_getfield (pc2 := 21) rfl c24 rfl rfl rfl ?_
        refine w_aload_n (pc2 := 22) rfl rfl rfl ?_
        refine w_getfield (pc2 := 25) rfl c24 rfl rfl rfl ?_
        refine w_iload_n (pc2 := 26) rfl rfl rfl ?_
        refine w_iload_n (pc2 := 27) rfl rfl rfl ?_
        refine w_ishr (pc2 := 28) rfl rfl ?_
        refine w_i2b (pc2 := 29) rfl rfl ?_
        refine w_bastoreK (pc2 := 30) (j := ((k + 1) + 1)) (en := .inl (.byte, 400, .inl (upd (upd (upd bs k (vp_nar .byte (((n >>> (24 &&& 31))).toInt8.toInt32))) ((k + 1)) (vp_nar .byte (((n >>> (16 &&& 31))).toInt8.toInt32))) (((k + 1) + 1)) (vp_nar .byte (((n >>> (8 &&& 31))).toInt8.toInt32))))) rfl c25 (nI_addE (m := (k + 1)) (n := 1) (nI_addE (m := k) (n := 1) (rfl : nI k = nI k) (show (1 : Int32) = nI 1 from rfl)) (show (1 : Int32) = nI 1 from rfl)) (by omega) (by decide) rfl rfl (fun h26 u27 => ?_)
        have c28 := u27.off c24 (by omega)
        have c29 := u27.self c25
        refine w_aload_n (pc2 := 31) rfl rfl rfl ?_
        refine w_dup (pc2 := 32) rfl rfl rfl ?_
        refine w_getfield (pc2 := 35) rfl c28 rfl rfl rfl ?_
        refine w_iconst (pc2 := 36) rfl rfl ?_
        refine w_iadd (pc2 := 37) rfl rfl ?_
        refine w_putfield (pc2 := 40) (en := .inr (8, [.ref t, .int ((((nI k) + 1) + 1) + 1), .int p, .int f])) rfl c28 rfl (Nat.le_of_ble_eq_true rfl) rfl rfl rfl (fun h30 u31 => ?_)
        have c32 := u31.self c28
        have c33 := u31.off c29 (by omega)
        refine w_iinc (pc2 := 43) (ls2 := [(2, .int 0), (0, .ref a), (1, .int n)]) rfl rfl rfl rfl ?_
        refine w_goto rfl ?_
        refine w_iload_n (pc2 := 4) rfl rfl rfl ?_
        refine w_if_lt (pc2 := 7) rfl rfl (fun c => absurd c (by decide)) (fun _ => ?_)
        refine w_aload_n (pc2 := 8) rfl rfl rfl ?_
        refine w_getfield (pc2 := 11) rfl c32 rfl rfl rfl ?_
        refine w_sipush (pc2 := 14) rfl rfl ?_
        refine w_icmp_ge (pc2 := 17) rfl rfl (fun k14 => ?_) (fun k14 => ?_)
        · rw [zz_leN (m := 400) (n := (((k + 1) + 1) + 1)) (show (400 : Int32) = nI 400 from rfl) (nI_addE (m := ((k + 1) + 1)) (n := 1) (nI_addE (m := (k + 1)) (n := 1) (nI_addE (m := k) (n := 1) (rfl : nI k = nI k) (show (1 : Int32) = nI 1 from rfl)) (show (1 : Int32) = nI 1 from rfl)) (show (1 : Int32) = nI 1 from rfl)) (by omega) (by omega)] at k14
          exfalso; omega
        · rw [zz_leN (m := 400) (n := (((k + 1) + 1) + 1)) (show (400 : Int32) = nI 400 from rfl) (nI_addE (m := ((k + 1) + 1)) (n := 1) (nI_addE (m := (k + 1)) (n := 1) (nI_addE (m := k) (n := 1) (rfl : nI k = nI k) (show (1 : Int32) = nI 1 from rfl)) (show (1 : Int32) = nI 1 from rfl)) (show (1 : Int32) = nI 1 from rfl)) (by omega) (by omega)] at k14
          refine w_aload_n (pc2 := 18) rfl rfl rfl ?_
          refine w_getfield (pc2 := 21) rfl c32 rfl rfl rfl ?_
          refine w_aload_n (pc2 := 22) rfl rfl rfl ?_
          refine w_getfield (pc2 := 25) rfl c32 rfl rfl rfl ?_
          refine w_iload_n (pc2 := 26) rfl rfl rfl ?_
          refine w_iload_n (pc2 := 27) rfl rfl rfl ?_
          refine w_ishr (pc2 := 28) rfl rfl ?_
          refine w_i2b (pc2 := 29) rfl rfl ?_
          refine w_bastoreK (pc2 := 30) (j := (((k + 1) + 1) + 1)) (en := .inl (.byte, 400, .inl (upd (upd (upd (upd bs k (vp_nar .byte (((n >>> (24 &&& 31))).toInt8.toInt32))) ((k + 1)) (vp_nar .byte (((n >>> (16 &&& 31))).toInt8.toInt32))) (((k + 1) + 1)) (vp_nar .byte (((n >>> (8 &&& 31))).toInt8.toInt32))) ((((k + 1) + 1) + 1)) (vp_nar .byte (((n >>> (0 &&& 31))).toInt8.toInt32))))) rfl c33 (nI_addE (m := ((k + 1) + 1)) (n := 1) (nI_addE (m := (k + 1)) (n := 1) (nI_addE (m := k) (n := 1) (rfl : nI k = nI k) (show (1 : Int32) = nI 1 from rfl)) (show (1 : Int32) = nI 1 from rfl)) (show (1 : Int32) = nI 1 from rfl)) (by omega) (by decide) rfl rfl (fun h34 u35 => ?_)
          have c36 := u35.off c32 (by omega)
          have c37 := u35.self c33
          refine w_aload_n (pc2 := 31) rfl rfl rfl ?_
          refine w_dup (pc2 := 32) rfl rfl rfl ?_
          refine w_getfield (pc2 := 35) rfl c36 rfl rfl rfl ?_
          refine w_iconst (pc2 := 36) rfl rfl ?_
          refine w_iadd (pc2 := 37) rfl rfl ?_
          refine w_putfield (pc2 := 40) (en := .inr (8, [.ref t, .int (((((nI k) + 1) + 1) + 1) + 1), .int p, .int f])) rfl c36 rfl (Nat.le_of_ble_eq_true rfl) rfl rfl rfl (fun h38 u39 => ?_)
          have c40 := u39.self c36
          have c41 := u39.off c37 (by omega)
          refine w_iinc (pc2 := 43) (ls2 := [(2, .int (-8)), (0, .ref a), (1, .int n)]) rfl rfl rfl rfl ?_
          refine w_goto rfl ?_
          refine w_iload_n (pc2 := 4) rfl rfl rfl ?_
          refine w_if_lt (pc2 := 7) rfl rfl (fun _ => ?_) (fun c => absurd c (by decide))
          refine w_vret rfl rfl ⟨rfl, ?_, c41, (((((((u11.fr.tr u15.fr).tr u19.fr).tr u23.fr).tr u27.fr).tr u31.fr).tr u35.fr).tr u39.fr).sub (by intro k hk; simp only [List.cons_append, List.nil_append, List.mem_cons, List.not_mem_nil, or_false, or_assoc] at hk ⊢; omega)⟩
          rw [← ((nI_addE (m := (((k + 1) + 1) + 1)) (n := 1) (nI_addE (m := ((k + 1) + 1)) (n := 1) (nI_addE (m := (k + 1)) (n := 1) (nI_addE (m := k) (n := 1) (rfl : nI k = nI k) (show (1 : Int32) = nI 1 from rfl)) (show (1 : Int32) = nI 1 from rfl)) (show (1 : Int32) = nI 1 from rfl)) (show (1 : Int32) = nI 1 from rfl)) : _ = nI (k + 1 + 1 + 1 + 1))]
          exact c40
