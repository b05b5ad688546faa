/-! What methods do as functions of the state, and that the small machine does so. -/
noncomputable def f_Smithy_copy (o1 : Nat) (o2 : Nat) (s0 : ZS) : Option (ZS) := zgi (s0.1 o2 0) (fun (v3 : Int32) => zwb s0 o1 0 v3 (fun (s4 : ZS) => zgi (s4.1 o2 1) (fun (v5 : Int32) => zwi s4 o1 1 v5 (fun (s6 : ZS) => zgi (s6.1 o2 2) (fun (v7 : Int32) => zwi s6 o1 2 v7 (fun (s8 : ZS) => zgi (s8.1 o2 3) (fun (v9 : Int32) => zwi s8 o1 3 v9 (fun (s10 : ZS) => zgi (s10.1 o2 4) (fun (v11 : Int32) => zwi s10 o1 4 v11 (fun (s12 : ZS) => zcp s12 (o2 + 1) 5 (o1 + 1) 5 (0 : Int32) (0 : Int32) (5 : Int32) (fun (s13 : ZS) => zcp s13 (o2 + 2) 5 (o1 + 2) 5 (0 : Int32) (0 : Int32) (5 : Int32) (fun (s14 : ZS) => zcp s14 (o2 + 3) 5 (o1 + 3) 5 (0 : Int32) (0 : Int32) (5 : Int32) (fun (s15 : ZS) => zcp s15 (o2 + 4) 6 (o1 + 4) 6 (0 : Int32) (0 : Int32) (6 : Int32) (fun (s16 : ZS) => zcp s16 (o2 + 5) 30 (o1 + 5) 30 (0 : Int32) (0 : Int32) (30 : Int32) (fun (s17 : ZS) => some s17)))))))))))))))
set_option maxHeartbeats 4000000 in
set_option maxRecDepth 100000 in
theorem ok_Smithy_copy {L : Nat} {xs : Nat → Int32} {b : ZH} {o1 : Nat} {o2 : Nat} (ho1 : zk_isSmithy o1) (ho2 : zk_isSmithy o2) {s0 : ZS} {w : ZS} (hF : f_Smithy_copy o1 o2 s0 = some w) : zz_ct zt_ms zt_nm zt_df (zt_X L xs) 0 zt_m80 [.ref o1, .ref o2] (zk b s0) (qV b w) := by
  unfold f_Smithy_copy at hF
  change zz_wp zt_ms zt_nm zt_df (zt_X L xs) 0 zt_m80 0 [(0, .ref o1), (1, .ref o2)] [] (zk b s0) (qV b w)
  refine w_aload_n (pc2 := 1) rfl rfl rfl ?_
  refine w_aload_n (pc2 := 2) rfl rfl rfl ?_
  refine j_geti (pc2 := 5) rfl (zk_cSmithy ho2) rfl rfl rfl hF (fun v3 hF => ?_)
  refine j_putz (pc2 := 8) (j := 0) rfl (zk_cSmithy ho1) rfl (Nat.le_of_ble_eq_true rfl) (zk_wSmithy_0 ho1) (by have := ho1.k.1; omega) rfl hF (fun s4 hF => ?_)
  refine w_aload_n (pc2 := 9) rfl rfl rfl ?_
  refine w_aload_n (pc2 := 10) rfl rfl rfl ?_
  refine j_geti (pc2 := 13) rfl (zk_cSmithy ho2) rfl rfl rfl hF (fun v5 hF => ?_)
  refine j_puti (pc2 := 16) (j := 1) rfl (zk_cSmithy ho1) rfl (Nat.le_of_ble_eq_true rfl) rfl (zk_wSmithy_1 ho1) (by have := ho1.k.1; omega) rfl hF (fun s6 hF => ?_)
  refine w_aload_n (pc2 := 17) rfl rfl rfl ?_
  refine w_aload_n (pc2 := 18) rfl rfl rfl ?_
  refine j_geti (pc2 := 21) rfl (zk_cSmithy ho2) rfl rfl rfl hF (fun v7 hF => ?_)
  refine j_puti (pc2 := 24) (j := 2) rfl (zk_cSmithy ho1) rfl (Nat.le_of_ble_eq_true rfl) rfl (zk_wSmithy_2 ho1) (by have := ho1.k.1; omega) rfl hF (fun s8 hF => ?_)
  refine w_aload_n (pc2 := 25) rfl rfl rfl ?_
  refine w_aload_n (pc2 := 26) rfl rfl rfl ?_
  refine j_geti (pc2 := 29) rfl (zk_cSmithy ho2) rfl rfl rfl hF (fun v9 hF => ?_)
  refine j_puti (pc2 := 32) (j := 3) rfl (zk_cSmithy ho1) rfl (Nat.le_of_ble_eq_true rfl) rfl (zk_wSmithy_3 ho1) (by have := ho1.k.1; omega) rfl hF (fun s10 hF => ?_)
  refine w_aload_n (pc2 := 33) rfl rfl rfl ?_
  refine w_aload_n (pc2 := 34) rfl rfl rfl ?_
  refine j_geti (pc2 := 37) rfl (zk_cSmithy ho2) rfl rfl rfl hF (fun v11 hF => ?_)
  refine j_puti (pc2 := 40) (j := 4) rfl (zk_cSmithy ho1) rfl (Nat.le_of_ble_eq_true rfl) rfl (zk_wSmithy_4 ho1) (by have := ho1.k.1; omega) rfl hF (fun s12 hF => ?_)
  refine w_aload_n (pc2 := 41) rfl rfl rfl ?_
  refine w_getfield (pc2 := 44) rfl (zk_cSmithy ho2) rfl rfl rfl ?_
  refine w_iconst (pc2 := 45) rfl rfl ?_
  refine w_aload_n (pc2 := 46) rfl rfl rfl ?_
  refine w_getfield (pc2 := 49) rfl (zk_cSmithy ho1) rfl rfl rfl ?_
  refine w_iconst (pc2 := 50) rfl rfl ?_
  refine w_iconst (pc2 := 51) rfl rfl ?_
  refine j_copy (pc2 := 54) (k0 := 5) (k1 := 5) rfl ho2.k.2.2.1 (by decide) (by have := ho2.k.1; omega) ho1.k.2.2.1 (by decide) (by have := ho1.k.1; omega) (Nat.le_of_ble_eq_true rfl) rfl hF (fun s13 hF => ?_)
  refine w_aload_n (pc2 := 55) rfl rfl rfl ?_
  refine w_getfield (pc2 := 58) rfl (zk_cSmithy ho2) rfl rfl rfl ?_
  refine w_iconst (pc2 := 59) rfl rfl ?_
  refine w_aload_n (pc2 := 60) rfl rfl rfl ?_
  refine w_getfield (pc2 := 63) rfl (zk_cSmithy ho1) rfl rfl rfl ?_
  refine w_iconst (pc2 := 64) rfl rfl ?_
  refine w_iconst (pc2 := 65) rfl rfl ?_
  refine j_copy (pc2 := 68) (k0 := 5) (k1 := 5) rfl ho2.k.2.2.2.1 (by decide) (by have := ho2.k.1; omega) ho1.k.2.2.2.1 (by decide) (by have := ho1.k.1; omega) (Nat.le_of_ble_eq_true rfl) rfl hF (fun s14 hF => ?_)
  refine w_aload_n (pc2 := 69) rfl rfl rfl ?_
  refine w_getfield (pc2 := 72) rfl (zk_cSmithy ho2) rfl rfl rfl ?_
  refine w_iconst (pc2 := 73) rfl rfl ?_
  refine w_aload_n (pc2 := 74) rfl rfl rfl ?_
  refine w_getfield (pc2 := 77) rfl (zk_cSmithy ho1) rfl rfl rfl ?_
  refine w_iconst (pc2 := 78) rfl rfl ?_
  refine w_iconst (pc2 := 79) rfl rfl ?_
  refine j_copy (pc2 := 82) (k0 := 5) (k1 := 5) rfl ho2.k.2.2.2.2.1 (by decide) (by have := ho2.k.1; omega) ho1.k.2.2.2.2.1 (by decide) (by have := ho1.k.1; omega) (Nat.le_of_ble_eq_true rfl) rfl hF (fun s15 hF => ?_)
  refine w_aload_n (pc2 := 83) rfl rfl rfl ?_
  refine w_getfield (pc2 := 86) rfl (zk_cSmithy ho2) rfl rfl rfl ?_
  refine w_iconst (pc2 := 87) rfl rfl ?_
  refine w_aload_n (pc2 := 88) rfl rfl rfl ?_
  refine w_getfield (pc2 := 91) rfl (zk_cSmithy ho1) rfl rfl rfl ?_
  refine w_iconst (pc2 := 92) rfl rfl ?_
  refine w_bipush (pc2 := 94) rfl rfl ?_
  refine j_copy (pc2 := 97) (k0 := 6) (k1 := 6) rfl ho2.k.2.2.2.2.2.1 (by decide) (by have := ho2.k.1; omega) ho1.k.2.2.2.2.2.1 (by decide) (by have := ho1.k.1; omega) (Nat.le_of_ble_eq_true rfl) rfl hF (fun s16 hF => ?_)
  refine w_aload_n (pc2 := 98) rfl rfl rfl ?_
  refine w_getfield (pc2 := 101) rfl (zk_cSmithy ho2) rfl rfl rfl ?_
  refine w_iconst (pc2 := 102) rfl rfl ?_
  refine w_aload_n (pc2 := 103) rfl rfl rfl ?_
  refine w_getfield (pc2 := 106) rfl (zk_cSmithy ho1) rfl rfl rfl ?_
  refine w_iconst (pc2 := 107) rfl rfl ?_
  refine w_bipush (pc2 := 109) rfl rfl ?_
  refine j_copy (pc2 := 112) (k0 := 30) (k1 := 30) rfl ho2.k.2.2.2.2.2.2 (by decide) (by have := ho2.k.1; omega) ho1.k.2.2.2.2.2.2 (by decide) (by have := ho1.k.1; omega) (Nat.le_of_ble_eq_true rfl) rfl hF (fun s17 hF => ?_)
  exact j_vret rfl rfl hF
noncomputable def f_Tape_append_B3 (p1 : Int32) (a2 : Int32) (s3 : ZS) (g4 : Int32 → ZS → Option (ZS)) : Option (ZS) := (if a2 < 0 then some s3 else zgi (s3.1 1 1) (fun (v5 : Int32) => zj0 (fun (s6 : ZS) => g4 (a2 + (-8 : Int32)) s6) (fun (k7 : ZS → Option (ZS)) => (if (400 : Int32) ≤ v5 then k7 s3 else zgi (s3.1 1 1) (fun (v8 : Int32) => zwa s3 2 400 v8 (vp_nar .byte (((p1 >>> (a2 &&& (31 : Int32))).toInt8.toInt32))) (fun (s9 : ZS) => zgi (s9.1 1 1) (fun (v10 : Int32) => zwi s9 1 1 ((v10 + (1 : Int32))) (fun (s11 : ZS) => k7 s11))))))))
noncomputable def f_Tape_append (p1 : Int32) (s0 : ZS) : Option (ZS) := zlp zN (f_Tape_append_B3 p1) (24 : Int32) s0
set_option maxHeartbeats 4000000 in
set_option maxRecDepth 100000 in
theorem ok_Tape_append {L : Nat} {xs : Nat → Int32} {b : ZH} {p1 : Int32} {s0 : ZS} {w : ZS} (hF : f_Tape_append p1 s0 = some w) : zz_ct zt_ms zt_nm zt_df (zt_X L xs) 0 zt_m90 [.ref 1, .int p1] (zk b s0) (qV b w) := by
  unfold f_Tape_append at hF
  change zz_wp zt_ms zt_nm zt_df (zt_X L xs) 0 zt_m90 0 [(0, .ref 1), (1, .int p1)] [] (zk b s0) (qV b w)
  refine w_bipush (pc2 := 2) rfl rfl ?_
  refine w_istore_n (pc2 := 3) (ls2 := [(2, .int (24 : Int32)), (0, .ref 1), (1, .int p1)]) rfl rfl rfl ?_
  refine j_norm (l := [(0, .ref 1), (1, .int p1), (2, .int (24 : Int32))]) ⟨rfl, rfl, rfl, trivial⟩ (zz_nd_of (ks := [0, 1, 2]) rfl (by decide)) ?_
  refine j_loop (P := fun (a2 : Int32) (s3 : ZS) => zz_wp zt_ms zt_nm zt_df (zt_X L xs) 0 zt_m90 3 [(0, .ref 1), (1, .int p1), (2, .int a2)] [] (zk b s3) (qV b w)) hF (fun a2 s3 g4 hg4 hF => ?_)
  unfold f_Tape_append_B3 at hF
  refine w_iload_n (pc2 := 4) rfl rfl rfl ?_
  refine j_if_lt (pc2 := 7) rfl rfl hF (fun hF => ?_) (fun hF => ?_)
  · exact j_vret rfl rfl hF
  · refine w_aload_n (pc2 := 8) rfl rfl rfl ?_
    refine j_geti (pc2 := 11) rfl zk_cTape rfl rfl rfl hF (fun v5 hF => ?_)
    refine w_sipush (pc2 := 14) rfl rfl ?_
    refine j_join0 (P := fun (s6 : ZS) => zz_wp zt_ms zt_nm zt_df (zt_X L xs) 0 zt_m90 40 [(0, .ref 1), (1, .int p1), (2, .int a2)] [] (zk b s6) (qV b w)) hF (fun s6 hF => ?_) (fun k7 hk7 hF => ?_)
    · refine w_iinc (pc2 := 43) (ls2 := [(2, .int ((a2 + (-8 : Int32)))), (0, .ref 1), (1, .int p1)]) rfl rfl rfl rfl ?_
      refine w_goto rfl ?_
      exact j_norm (l := [(0, .ref 1), (1, .int p1), (2, .int ((a2 + (-8 : Int32))))]) ⟨rfl, rfl, rfl, trivial⟩ (zz_nd_of (ks := [0, 1, 2]) rfl (by decide)) (hg4 (a2 + (-8 : Int32)) s6 hF)
    · refine j_icmp_ge (pc2 := 17) rfl rfl hF (fun hF => ?_) (fun hF => ?_)
      · exact j_norm (l := [(0, .ref 1), (1, .int p1), (2, .int a2)]) ⟨rfl, rfl, rfl, trivial⟩ (zz_nd_of (ks := [0, 1, 2]) rfl (by decide)) (hk7 s3 hF)
      · refine w_aload_n (pc2 := 18) rfl rfl rfl ?_
        refine w_getfield (pc2 := 21) rfl zk_cTape rfl rfl rfl ?_
        refine w_aload_n (pc2 := 22) rfl rfl rfl ?_
        refine j_geti (pc2 := 25) rfl zk_cTape rfl rfl rfl hF (fun v8 hF => ?_)
        refine w_iload_n (pc2 := 26) rfl rfl rfl ?_
        refine w_iload_n (pc2 := 27) rfl rfl rfl ?_
        refine w_ishr (pc2 := 28) rfl rfl ?_
        refine w_i2b (pc2 := 29) rfl rfl ?_
        refine j_bastore (pc2 := 30) (n := 400) rfl rfl (by omega) (by decide) rfl hF (fun s9 hF => ?_)
        refine w_aload_n (pc2 := 31) rfl rfl rfl ?_
        refine w_dup (pc2 := 32) rfl rfl rfl ?_
        refine j_geti (pc2 := 35) rfl zk_cTape rfl rfl rfl hF (fun v10 hF => ?_)
        refine w_iconst (pc2 := 36) rfl rfl ?_
        refine w_iadd (pc2 := 37) rfl rfl ?_
        refine j_puti (pc2 := 40) (j := 1) rfl zk_cTape rfl (Nat.le_of_ble_eq_true rfl) rfl zk_wTape_1 (by decide) rfl hF (fun s11 hF => ?_)
        exact j_norm (l := [(0, .ref 1), (1, .int p1), (2, .int a2)]) ⟨rfl, rfl, rfl, trivial⟩ (zz_nd_of (ks := [0, 1, 2]) rfl (by decide)) (hk7 s11 hF)
noncomputable def f_Tape_clear (s0 : ZS) : Option (ZS) := zwi s0 1 1 (0 : Int32) (fun (s1 : ZS) => some s1)
set_option maxHeartbeats 4000000 in
set_option maxRecDepth 100000 in
theorem ok_Tape_clear {L : Nat} {xs : Nat → Int32} {b : ZH} {s0 : ZS} {w : ZS} (hF : f_Tape_clear s0 = some w) : zz_ct zt_ms zt_nm zt_df (zt_X L xs) 0 zt_m101 [.ref 1] (zk b s0) (qV b w) := by
  unfold f_Tape_clear at hF
  change zz_wp zt_ms zt_nm zt_df (zt_X L xs) 0 zt_m101 0 [(0, .ref 1)] [] (zk b s0) (qV b w)
  refine w_aload_n (pc2 := 1) rfl rfl rfl ?_
  refine w_iconst (pc2 := 2) rfl rfl ?_
  refine j_puti (pc2 := 5) (j := 1) rfl zk_cTape rfl (Nat.le_of_ble_eq_true rfl) rfl zk_wTape_1 (by decide) rfl hF (fun s1 hF => ?_)
  exact j_vret rfl rfl hF
noncomputable def f_World_isFree (o1 : Nat) (p2 : Int32) (s0 : ZS) : Option (Int32 × ZS) := zcl (f_Smithy_hasPair (o1 + 1) p2 s0) (fun (v4 : Int32) (s3 : ZS) => (if v4 = 0 then zbl (0 : Int32) s3 else zrd 5 p2 (s3.1 (o1 + 7 + 2)) (fun (v5 : Int32) => (if ¬ v5 = 0 then zbl (0 : Int32) s3 else zbl (1 : Int32) s3))))
set_option maxHeartbeats 4000000 in
set_option maxRecDepth 100000 in
theorem ok_World_isFree {L : Nat} {xs : Nat → Int32} {b : ZH} {o1 : Nat} {p2 : Int32} (ho1 : zk_isWorld o1) {s0 : ZS} {w : Int32 × ZS} (hF : f_World_isFree o1 p2 s0 = some w) : zz_ct zt_ms zt_nm zt_df (zt_X L xs) 1 zt_m104 [.ref o1, .int p2] (zk b s0) (qI b w) := by
  unfold f_World_isFree at hF
  change zz_wp zt_ms zt_nm zt_df (zt_X L xs) 1 zt_m104 0 [(0, .ref o1), (1, .int p2)] [] (zk b s0) (qI b w)
  refine w_aload_n (pc2 := 1) rfl rfl rfl ?_
  refine w_getfield (pc2 := 4) rfl (zk_cWorld ho1) rfl rfl rfl ?_
  refine w_iload_n (pc2 := 5) rfl rfl rfl ?_
  refine j_cIv (pc2 := 8) (k := 0) (c := zt_m77) (as := [.ref (o1 + 1), .int p2]) (rest := []) rfl rfl rfl rfl (zk_cSmithy ho1.sm).look rfl (Nat.le_of_ble_eq_true rfl) (Nat.le_of_ble_eq_true rfl) (fun w1 h1 => ok_Smithy_hasPair ho1.sm h1) (by decide) rfl hF (fun v4 s3 hF => ?_)
  refine j_if_eq (pc2 := 11) rfl rfl hF (fun hF => ?_) (fun hF => ?_)
  · refine w_iconst (pc2 := 28) rfl rfl ?_
    exact j_zret rfl rfl hF
  · refine w_aload_n (pc2 := 12) rfl rfl rfl ?_
    refine w_getfield (pc2 := 15) rfl (zk_cWorld ho1) rfl rfl rfl ?_
    refine w_getfield (pc2 := 18) rfl (zk_cState ho1.st) rfl rfl rfl ?_
    refine w_iload_n (pc2 := 19) rfl rfl rfl ?_
    refine j_iaload (pc2 := 20) (n := 5) rfl ho1.st.k.2.2.2.1 (by omega) (by have := ho1.st.k.1; omega) rfl hF (fun v5 hF => ?_)
    refine j_if_ne (pc2 := 23) rfl rfl hF (fun hF => ?_) (fun hF => ?_)
    · refine w_iconst (pc2 := 28) rfl rfl ?_
      exact j_zret rfl rfl hF
    · refine w_iconst (pc2 := 24) rfl rfl ?_
      refine w_goto rfl ?_
      exact j_zret rfl rfl hF
noncomputable def f_World_addNote (o1 : Nat) (p2 : Int32) (p3 : Int32) (p4 : Int32) (s0 : ZS) : Option (ZS) := zgi (s0.1 o1 5) (fun (v5 : Int32) => (if v5 < 0 then some s0 else zgi (s0.1 o1 5) (fun (v6 : Int32) => (if (10 : Int32) ≤ v6 then some s0 else zgi (s0.1 o1 5) (fun (v7 : Int32) => zwa s0 (o1 + 12) 10 v7 p2 (fun (s8 : ZS) => zgi (s8.1 o1 5) (fun (v9 : Int32) => zwa s8 (o1 + 13) 10 v9 p3 (fun (s10 : ZS) => zgi (s10.1 o1 5) (fun (v11 : Int32) => zwa s10 (o1 + 14) 10 v11 p4 (fun (s12 : ZS) => zgi (s12.1 o1 5) (fun (v13 : Int32) => zwi s12 o1 5 ((v13 + (1 : Int32))) (fun (s14 : ZS) => some s14))))))))))))
set_option maxHeartbeats 4000000 in
set_option maxRecDepth 100000 in
theorem ok_World_addNote {L : Nat} {xs : Nat → Int32} {b : ZH} {o1 : Nat} {p2 : Int32} {p3 : Int32} {p4 : Int32} (ho1 : zk_isWorld o1) {s0 : ZS} {w : ZS} (hF : f_World_addNote o1 p2 p3 p4 s0 = some w) : zz_ct zt_ms zt_nm zt_df (zt_X L xs) 0 zt_m105 [.ref o1, .int p2, .int p3, .int p4] (zk b s0) (qV b w) := by
  unfold f_World_addNote at hF
  change zz_wp zt_ms zt_nm zt_df (zt_X L xs) 0 zt_m105 0 [(0, .ref o1), (1, .int p2), (2, .int p3), (3, .int p4)] [] (zk b s0) (qV b w)
  refine w_aload_n (pc2 := 1) rfl rfl rfl ?_
  refine j_geti (pc2 := 4) rfl (zk_cWorld ho1) rfl rfl rfl hF (fun v5 hF => ?_)
  refine j_if_lt (pc2 := 7) rfl rfl hF (fun hF => ?_) (fun hF => ?_)
  · exact j_vret rfl rfl hF
  · refine w_aload_n (pc2 := 8) rfl rfl rfl ?_
    refine j_geti (pc2 := 11) rfl (zk_cWorld ho1) rfl rfl rfl hF (fun v6 hF => ?_)
    refine w_bipush (pc2 := 13) rfl rfl ?_
    refine j_icmp_ge (pc2 := 16) rfl rfl hF (fun hF => ?_) (fun hF => ?_)
    · exact j_vret rfl rfl hF
    · refine w_aload_n (pc2 := 17) rfl rfl rfl ?_
      refine w_getfield (pc2 := 20) rfl (zk_cWorld ho1) rfl rfl rfl ?_
      refine w_aload_n (pc2 := 21) rfl rfl rfl ?_
      refine j_geti (pc2 := 24) rfl (zk_cWorld ho1) rfl rfl rfl hF (fun v7 hF => ?_)
      refine w_iload_n (pc2 := 25) rfl rfl rfl ?_
      refine j_iastore (pc2 := 26) (n := 10) rfl ho1.k.2.2.2.2.2.2.2.2.2.2.2.2.2.1 (by omega) (by have := ho1.k.1; omega) rfl hF (fun s8 hF => ?_)
      refine w_aload_n (pc2 := 27) rfl rfl rfl ?_
      refine w_getfield (pc2 := 30) rfl (zk_cWorld ho1) rfl rfl rfl ?_
      refine w_aload_n (pc2 := 31) rfl rfl rfl ?_
      refine j_geti (pc2 := 34) rfl (zk_cWorld ho1) rfl rfl rfl hF (fun v9 hF => ?_)
      refine w_iload_n (pc2 := 35) rfl rfl rfl ?_
      refine j_iastore (pc2 := 36) (n := 10) rfl ho1.k.2.2.2.2.2.2.2.2.2.2.2.2.2.2.1 (by omega) (by have := ho1.k.1; omega) rfl hF (fun s10 hF => ?_)
      refine w_aload_n (pc2 := 37) rfl rfl rfl ?_
      refine w_getfield (pc2 := 40) rfl (zk_cWorld ho1) rfl rfl rfl ?_
      refine w_aload_n (pc2 := 41) rfl rfl rfl ?_
      refine j_geti (pc2 := 44) rfl (zk_cWorld ho1) rfl rfl rfl hF (fun v11 hF => ?_)
      refine w_iload_n (pc2 := 45) rfl rfl rfl ?_
      refine j_iastore (pc2 := 46) (n := 10) rfl ho1.k.2.2.2.2.2.2.2.2.2.2.2.2.2.2.2 (by omega) (by have := ho1.k.1; omega) rfl hF (fun s12 hF => ?_)
      refine w_aload_n (pc2 := 47) rfl rfl rfl ?_
      refine w_dup (pc2 := 48) rfl rfl rfl ?_
      refine j_geti (pc2 := 51) rfl (zk_cWorld ho1) rfl rfl rfl hF (fun v13 hF => ?_)
      refine w_iconst (pc2 := 52) rfl rfl ?_
      refine w_iadd (pc2 := 53) rfl rfl ?_
      refine j_puti (pc2 := 56) (j := 5) rfl (zk_cWorld ho1) rfl (Nat.le_of_ble_eq_true rfl) rfl (zk_wWorld_5 ho1) (by have := ho1.k.1; omega) rfl hF (fun s14 hF => ?_)
      exact j_vret rfl rfl hF
noncomputable def f_World_copy (o1 : Nat) (o2 : Nat) (s0 : ZS) : Option (ZS) := zcv (f_Smithy_copy (o1 + 1) (o2 + 1) s0) (fun (s3 : ZS) => zcv (f_State_copy (o1 + 7) (o2 + 7) s3) (fun (s4 : ZS) => zcp s4 (o2 + 12) 10 (o1 + 12) 10 (0 : Int32) (0 : Int32) (10 : Int32) (fun (s5 : ZS) => zcp s5 (o2 + 13) 10 (o1 + 13) 10 (0 : Int32) (0 : Int32) (10 : Int32) (fun (s6 : ZS) => zcp s6 (o2 + 14) 10 (o1 + 14) 10 (0 : Int32) (0 : Int32) (10 : Int32) (fun (s7 : ZS) => zgi (s7.1 o2 5) (fun (v8 : Int32) => zwi s7 o1 5 v8 (fun (s9 : ZS) => zgi (s9.1 o2 6) (fun (v10 : Int32) => zwi s9 o1 6 v10 (fun (s11 : ZS) => zgi (s11.1 o2 7) (fun (v12 : Int32) => zwi s11 o1 7 v12 (fun (s13 : ZS) => some s13)))))))))))
set_option maxHeartbeats 4000000 in
set_option maxRecDepth 100000 in
theorem ok_World_copy {L : Nat} {xs : Nat → Int32} {b : ZH} {o1 : Nat} {o2 : Nat} (ho1 : zk_isWorld o1) (ho2 : zk_isWorld o2) {s0 : ZS} {w : ZS} (hF : f_World_copy o1 o2 s0 = some w) : zz_ct zt_ms zt_nm zt_df (zt_X L xs) 1 zt_m106 [.ref o1, .ref o2] (zk b s0) (qV b w) := by
  unfold f_World_copy at hF
  change zz_wp zt_ms zt_nm zt_df (zt_X L xs) 1 zt_m106 0 [(0, .ref o1), (1, .ref o2)] [] (zk b s0) (qV b w)
  refine w_aload_n (pc2 := 1) rfl rfl rfl ?_
  refine w_getfield (pc2 := 4) rfl (zk_cWorld ho1) rfl rfl rfl ?_
  refine w_aload_n (pc2 := 5) rfl rfl rfl ?_
  refine w_getfield (pc2 := 8) rfl (zk_cWorld ho2) rfl rfl rfl ?_
  refine j_cVv (pc2 := 11) (k := 0) (c := zt_m80) (as := [.ref (o1 + 1), .ref (o2 + 1)]) (rest := []) rfl rfl rfl rfl (zk_cSmithy ho1.sm).look rfl (Nat.le_of_ble_eq_true rfl) (Nat.le_of_ble_eq_true rfl) (fun w1 h1 => ok_Smithy_copy ho1.sm ho2.sm h1) (by decide) rfl hF (fun s3 hF => ?_)
  refine w_aload_n (pc2 := 12) rfl rfl rfl ?_
  refine w_getfield (pc2 := 15) rfl (zk_cWorld ho1) rfl rfl rfl ?_
  refine w_aload_n (pc2 := 16) rfl rfl rfl ?_
  refine w_getfield (pc2 := 19) rfl (zk_cWorld ho2) rfl rfl rfl ?_
  refine j_cVv (pc2 := 22) (k := 0) (c := zt_m87) (as := [.ref (o1 + 7), .ref (o2 + 7)]) (rest := []) rfl rfl rfl rfl (zk_cState ho1.st).look rfl (Nat.le_of_ble_eq_true rfl) (Nat.le_of_ble_eq_true rfl) (fun w1 h1 => ok_State_copy ho1.st ho2.st h1) (by decide) rfl hF (fun s4 hF => ?_)
  refine w_aload_n (pc2 := 23) rfl rfl rfl ?_
  refine w_getfield (pc2 := 26) rfl (zk_cWorld ho2) rfl rfl rfl ?_
  refine w_iconst (pc2 := 27) rfl rfl ?_
  refine w_aload_n (pc2 := 28) rfl rfl rfl ?_
  refine w_getfield (pc2 := 31) rfl (zk_cWorld ho1) rfl rfl rfl ?_
  refine w_iconst (pc2 := 32) rfl rfl ?_
  refine w_bipush (pc2 := 34) rfl rfl ?_
  refine j_copy (pc2 := 37) (k0 := 10) (k1 := 10) rfl ho2.k.2.2.2.2.2.2.2.2.2.2.2.2.2.1 (by decide) (by have := ho2.k.1; omega) ho1.k.2.2.2.2.2.2.2.2.2.2.2.2.2.1 (by decide) (by have := ho1.k.1; omega) (Nat.le_of_ble_eq_true rfl) rfl hF (fun s5 hF => ?_)
  refine w_aload_n (pc2 := 38) rfl rfl rfl ?_
  refine w_getfield (pc2 := 41) rfl (zk_cWorld ho2) rfl rfl rfl ?_
  refine w_iconst (pc2 := 42) rfl rfl ?_
  refine w_aload_n (pc2 := 43) rfl rfl rfl ?_
  refine w_getfield (pc2 := 46) rfl (zk_cWorld ho1) rfl rfl rfl ?_
  refine w_iconst (pc2 := 47) rfl rfl ?_
  refine w_bipush (pc2 := 49) rfl rfl ?_
  refine j_copy (pc2 := 52) (k0 := 10) (k1 := 10) rfl ho2.k.2.2.2.2.2.2.2.2.2.2.2.2.2.2.1 (by decide) (by have := ho2.k.1; omega) ho1.k.2.2.2.2.2.2.2.2.2.2.2.2.2.2.1 (by decide) (by have := ho1.k.1; omega) (Nat.le_of_ble_eq_true rfl) rfl hF (fun s6 hF => ?_)
  refine w_aload_n (pc2 := 53) rfl rfl rfl ?_
  refine w_getfield (pc2 := 56) rfl (zk_cWorld ho2) rfl rfl rfl ?_
  refine w_iconst (pc2 := 57) rfl rfl ?_
  refine w_aload_n (pc2 := 58) rfl rfl rfl ?_
  refine w_getfield (pc2 := 61) rfl (zk_cWorld ho1) rfl rfl rfl ?_
  refine w_iconst (pc2 := 62) rfl rfl ?_
  refine w_bipush (pc2 := 64) rfl rfl ?_
  refine j_copy (pc2 := 67) (k0 := 10) (k1 := 10) rfl ho2.k.2.2.2.2.2.2.2.2.2.2.2.2.2.2.2 (by decide) (by have := ho2.k.1; omega) ho1.k.2.2.2.2.2.2.2.2.2.2.2.2.2.2.2 (by decide) (by have := ho1.k.1; omega) (Nat.le_of_ble_eq_true rfl) rfl hF (fun s7 hF => ?_)
  refine w_aload_n (pc2 := 68) rfl rfl rfl ?_
  refine w_aload_n (pc2 := 69) rfl rfl rfl ?_
  refine j_geti (pc2 := 72) rfl (zk_cWorld ho2) rfl rfl rfl hF (fun v8 hF => ?_)
  refine j_puti (pc2 := 75) (j := 5) rfl (zk_cWorld ho1) rfl (Nat.le_of_ble_eq_true rfl) rfl (zk_wWorld_5 ho1) (by have := ho1.k.1; omega) rfl hF (fun s9 hF => ?_)
  refine w_aload_n (pc2 := 76) rfl rfl rfl ?_
  refine w_aload_n (pc2 := 77) rfl rfl rfl ?_
  refine j_geti (pc2 := 80) rfl (zk_cWorld ho2) rfl rfl rfl hF (fun v10 hF => ?_)
  refine j_puti (pc2 := 83) (j := 6) rfl (zk_cWorld ho1) rfl (Nat.le_of_ble_eq_true rfl) rfl (zk_wWorld_6 ho1) (by have := ho1.k.1; omega) rfl hF (fun s11 hF => ?_)
  refine w_aload_n (pc2 := 84) rfl rfl rfl ?_
  refine w_aload_n (pc2 := 85) rfl rfl rfl ?_
  refine j_geti (pc2 := 88) rfl (zk_cWorld ho2) rfl rfl rfl hF (fun v12 hF => ?_)
  refine j_puti (pc2 := 91) (j := 7) rfl (zk_cWorld ho1) rfl (Nat.le_of_ble_eq_true rfl) rfl (zk_wWorld_7 ho1) (by have := ho1.k.1; omega) rfl hF (fun s13 hF => ?_)
  exact j_vret rfl rfl hF
noncomputable def f_Ring_feed (p1 : Int32) (p2 : Int32) (p3 : Int32) (p4 : Int32) (p5 : Int32) (s0 : ZS) : Option (Int32 × ZS) := zgi (s0.1 1 1) (fun (v6 : Int32) => (if (v6 + (20 : Int32)) ≤ (400 : Int32) then zcv (f_Tape_append p1 s0) (fun (s7 : ZS) => zcv (f_Tape_append p2 s7) (fun (s8 : ZS) => zcv (f_Tape_append p3 s8) (fun (s9 : ZS) => zcv (f_Tape_append p4 s9) (fun (s10 : ZS) => zcv (f_Tape_append p5 s10) (fun (s11 : ZS) => zgi (s11.1 1 1) (fun (v12 : Int32) => some (v12, s11))))))) else some ((-1 : Int32), s0)))
set_option maxHeartbeats 4000000 in
set_option maxRecDepth 100000 in
theorem ok_Ring_feed {L : Nat} {xs : Nat → Int32} {b : ZH} {p1 : Int32} {p2 : Int32} {p3 : Int32} {p4 : Int32} {p5 : Int32} {s0 : ZS} {w : Int32 × ZS} (hF : f_Ring_feed p1 p2 p3 p4 p5 s0 = some w) : zz_ct zt_ms zt_nm zt_df (zt_X L xs) 1 zt_m108 [.ref 0, .int p1, .int p2, .int p3, .int p4, .int p5] (zk b s0) (qI b w) := by
  unfold f_Ring_feed at hF
  change zz_wp zt_ms zt_nm zt_df (zt_X L xs) 1 zt_m108 0 [(0, .ref 0), (1, .int p1), (2, .int p2), (3, .int p3), (4, .int p4), (5, .int p5)] [] (zk b s0) (qI b w)
  refine w_aload_n (pc2 := 1) rfl rfl rfl ?_
  refine w_getfield (pc2 := 4) rfl zk_cRing rfl rfl rfl ?_
  refine j_geti (pc2 := 7) rfl zk_cTape rfl rfl rfl hF (fun v6 hF => ?_)
  refine w_bipush (pc2 := 9) rfl rfl ?_
  refine w_iadd (pc2 := 10) rfl rfl ?_
  refine w_sipush (pc2 := 13) rfl rfl ?_
  refine j_icmp_le (pc2 := 16) rfl rfl hF (fun hF => ?_) (fun hF => ?_)
  · refine w_aload_n (pc2 := 19) rfl rfl rfl ?_
    refine w_getfield (pc2 := 22) rfl zk_cRing rfl rfl rfl ?_
    refine w_iload_n (pc2 := 23) rfl rfl rfl ?_
    refine j_cVv (pc2 := 26) (k := 0) (c := zt_m90) (as := [.ref 1, .int p1]) (rest := []) rfl rfl rfl rfl zk_cTape.look rfl (Nat.le_of_ble_eq_true rfl) (Nat.le_of_ble_eq_true rfl) (fun w1 h1 => ok_Tape_append h1) (by decide) rfl hF (fun s7 hF => ?_)
    refine w_aload_n (pc2 := 27) rfl rfl rfl ?_
    refine w_getfield (pc2 := 30) rfl zk_cRing rfl rfl rfl ?_
    refine w_iload_n (pc2 := 31) rfl rfl rfl ?_
    refine j_cVv (pc2 := 34) (k := 0) (c := zt_m90) (as := [.ref 1, .int p2]) (rest := []) rfl rfl rfl rfl zk_cTape.look rfl (Nat.le_of_ble_eq_true rfl) (Nat.le_of_ble_eq_true rfl) (fun w1 h1 => ok_Tape_append h1) (by decide) rfl hF (fun s8 hF => ?_)
    refine w_aload_n (pc2 := 35) rfl rfl rfl ?_
    refine w_getfield (pc2 := 38) rfl zk_cRing rfl rfl rfl ?_
    refine w_iload_n (pc2 := 39) rfl rfl rfl ?_
    refine j_cVv (pc2 := 42) (k := 0) (c := zt_m90) (as := [.ref 1, .int p3]) (rest := []) rfl rfl rfl rfl zk_cTape.look rfl (Nat.le_of_ble_eq_true rfl) (Nat.le_of_ble_eq_true rfl) (fun w1 h1 => ok_Tape_append h1) (by decide) rfl hF (fun s9 hF => ?_)
    refine w_aload_n (pc2 := 43) rfl rfl rfl ?_
    refine w_getfield (pc2 := 46) rfl zk_cRing rfl rfl rfl ?_
    refine w_iload (pc2 := 48) rfl rfl rfl ?_
    refine j_cVv (pc2 := 51) (k := 0) (c := zt_m90) (as := [.ref 1, .int p4]) (rest := []) rfl rfl rfl rfl zk_cTape.look rfl (Nat.le_of_ble_eq_true rfl) (Nat.le_of_ble_eq_true rfl) (fun w1 h1 => ok_Tape_append h1) (by decide) rfl hF (fun s10 hF => ?_)
    refine w_aload_n (pc2 := 52) rfl rfl rfl ?_
    refine w_getfield (pc2 := 55) rfl zk_cRing rfl rfl rfl ?_
    refine w_iload (pc2 := 57) rfl rfl rfl ?_
    refine j_cVv (pc2 := 60) (k := 0) (c := zt_m90) (as := [.ref 1, .int p5]) (rest := []) rfl rfl rfl rfl zk_cTape.look rfl (Nat.le_of_ble_eq_true rfl) (Nat.le_of_ble_eq_true rfl) (fun w1 h1 => ok_Tape_append h1) (by decide) rfl hF (fun s11 hF => ?_)
    refine w_aload_n (pc2 := 61) rfl rfl rfl ?_
    refine w_getfield (pc2 := 64) rfl zk_cRing rfl rfl rfl ?_
    refine j_geti (pc2 := 67) rfl zk_cTape rfl rfl rfl hF (fun v12 hF => ?_)
    exact j_iret rfl rfl hF
  · refine w_iconst (pc2 := 17) rfl rfl ?_
    exact j_iret rfl rfl hF
noncomputable def f_Ring_end (p1 : Int32) (s0 : ZS) : Option (Int32 × ZS) := (if p1 < 0 then some ((-1 : Int32), s0) else zgi (s0.1 1 1) (fun (v2 : Int32) => (if p1 ≤ v2 then zwi s0 1 1 p1 (fun (s3 : ZS) => some (p1, s3)) else some ((-1 : Int32), s0))))
set_option maxHeartbeats 4000000 in
set_option maxRecDepth 100000 in
theorem ok_Ring_end {L : Nat} {xs : Nat → Int32} {b : ZH} {p1 : Int32} {s0 : ZS} {w : Int32 × ZS} (hF : f_Ring_end p1 s0 = some w) : zz_ct zt_ms zt_nm zt_df (zt_X L xs) 0 zt_m109 [.ref 0, .int p1] (zk b s0) (qI b w) := by
  unfold f_Ring_end at hF
  change zz_wp zt_ms zt_nm zt_df (zt_X L xs) 0 zt_m109 0 [(0, .ref 0), (1, .int p1)] [] (zk b s0) (qI b w)
  refine w_iload_n (pc2 := 1) rfl rfl rfl ?_
  refine j_if_lt (pc2 := 4) rfl rfl hF (fun hF => ?_) (fun hF => ?_)
  · refine w_iconst (pc2 := 16) rfl rfl ?_
    exact j_iret rfl rfl hF
  · refine w_iload_n (pc2 := 5) rfl rfl rfl ?_
    refine w_aload_n (pc2 := 6) rfl rfl rfl ?_
    refine w_getfield (pc2 := 9) rfl zk_cRing rfl rfl rfl ?_
    refine j_geti (pc2 := 12) rfl zk_cTape rfl rfl rfl hF (fun v2 hF => ?_)
    refine j_icmp_le (pc2 := 15) rfl rfl hF (fun hF => ?_) (fun hF => ?_)
    · refine w_aload_n (pc2 := 18) rfl rfl rfl ?_
      refine w_getfield (pc2 := 21) rfl zk_cRing rfl rfl rfl ?_
      refine w_iload_n (pc2 := 22) rfl rfl rfl ?_
      refine j_puti (pc2 := 25) (j := 1) rfl zk_cTape rfl (Nat.le_of_ble_eq_true rfl) rfl zk_wTape_1 (by decide) rfl hF (fun s3 hF => ?_)
      refine w_iload_n (pc2 := 26) rfl rfl rfl ?_
      exact j_iret rfl rfl hF
    · refine w_iconst (pc2 := 16) rfl rfl ?_
      exact j_iret rfl rfl hF
noncomputable def f_Ring_smith (s0 : ZS) : Option (Int32 × ZS) := zcv (f_Smithy_readFrom 79 s0) (fun (s1 : ZS) => zcv (f_Tape_clear s1) (fun (s2 : ZS) => zgi (s2.1 1 3) (fun (v3 : Int32) => (if v3 = 0 then zcv (f_Smithy_copy 4 79 s2) (fun (s4 : ZS) => zcv (f_State_begin 10 4 s4) (fun (s5 : ZS) => zwi s5 3 5 (0 : Int32) (fun (s6 : ZS) => zcv (f_Hist_forget s6) (fun (s7 : ZS) => zgi (s7.1 4 3) (fun (v8 : Int32) => some (v8, s7)))))) else zgi (s2.1 1 3) (fun (v9 : Int32) => some (((-2 : Int32) - v9), s2))))))
set_option maxHeartbeats 4000000 in
set_option maxRecDepth 100000 in
theorem ok_Ring_smith {L : Nat} {xs : Nat → Int32} {b : ZH} {s0 : ZS} {w : Int32 × ZS} (hF : f_Ring_smith s0 = some w) : zz_ct zt_ms zt_nm zt_df (zt_X L xs) 8 zt_m110 [.ref 0] (zk b s0) (qI b w) := by
  unfold f_Ring_smith at hF
  change zz_wp zt_ms zt_nm zt_df (zt_X L xs) 8 zt_m110 0 [(0, .ref 0)] [] (zk b s0) (qI b w)
  refine w_aload_n (pc2 := 1) rfl rfl rfl ?_
  refine w_getfield (pc2 := 4) rfl zk_cRing rfl rfl rfl ?_
  refine w_aload_n (pc2 := 5) rfl rfl rfl ?_
  refine w_getfield (pc2 := 8) rfl zk_cRing rfl rfl rfl ?_
  refine j_cVv (pc2 := 11) (k := 7) (c := zt_m70) (as := [.ref 79, .ref 1]) (rest := []) rfl rfl rfl rfl (zk_cSmithy zk_sm79).look rfl (Nat.le_of_ble_eq_true rfl) (Nat.le_of_ble_eq_true rfl) (fun w1 h1 => ok_Smithy_readFrom zk_sm79 h1) (by decide) rfl hF (fun s1 hF => ?_)
  refine w_aload_n (pc2 := 12) rfl rfl rfl ?_
  refine w_getfield (pc2 := 15) rfl zk_cRing rfl rfl rfl ?_
  refine j_cVv (pc2 := 18) (k := 0) (c := zt_m101) (as := [.ref 1]) (rest := []) rfl rfl rfl rfl zk_cTape.look rfl (Nat.le_of_ble_eq_true rfl) (Nat.le_of_ble_eq_true rfl) (fun w1 h1 => ok_Tape_clear h1) (by decide) rfl hF (fun s2 hF => ?_)
  refine w_aload_n (pc2 := 19) rfl rfl rfl ?_
  refine w_getfield (pc2 := 22) rfl zk_cRing rfl rfl rfl ?_
  refine j_geti (pc2 := 25) rfl zk_cTape rfl rfl rfl hF (fun v3 hF => ?_)
  refine j_if_eq (pc2 := 28) rfl rfl hF (fun hF => ?_) (fun hF => ?_)
  · refine w_aload_n (pc2 := 40) rfl rfl rfl ?_
    refine w_getfield (pc2 := 43) rfl zk_cRing rfl rfl rfl ?_
    refine w_getfield (pc2 := 46) rfl (zk_cWorld zk_w3) rfl rfl rfl ?_
    refine w_aload_n (pc2 := 47) rfl rfl rfl ?_
    refine w_getfield (pc2 := 50) rfl zk_cRing rfl rfl rfl ?_
    refine j_cVv (pc2 := 53) (k := 0) (c := zt_m80) (as := [.ref 4, .ref 79]) (rest := []) rfl rfl rfl rfl (zk_cSmithy zk_sm4).look rfl (Nat.le_of_ble_eq_true rfl) (Nat.le_of_ble_eq_true rfl) (fun w1 h1 => ok_Smithy_copy zk_sm4 zk_sm79 h1) (by decide) rfl hF (fun s4 hF => ?_)
    refine w_aload_n (pc2 := 54) rfl rfl rfl ?_
    refine w_getfield (pc2 := 57) rfl zk_cRing rfl rfl rfl ?_
    refine w_getfield (pc2 := 60) rfl (zk_cWorld zk_w3) rfl rfl rfl ?_
    refine w_aload_n (pc2 := 61) rfl rfl rfl ?_
    refine w_getfield (pc2 := 64) rfl zk_cRing rfl rfl rfl ?_
    refine w_getfield (pc2 := 67) rfl (zk_cWorld zk_w3) rfl rfl rfl ?_
    refine j_cVv (pc2 := 70) (k := 0) (c := zt_m84) (as := [.ref 10, .ref 4]) (rest := []) rfl rfl rfl rfl (zk_cState zk_st10).look rfl (Nat.le_of_ble_eq_true rfl) (Nat.le_of_ble_eq_true rfl) (fun w1 h1 => ok_State_begin zk_st10 zk_sm4 h1) (by decide) rfl hF (fun s5 hF => ?_)
    refine w_aload_n (pc2 := 71) rfl rfl rfl ?_
    refine w_getfield (pc2 := 74) rfl zk_cRing rfl rfl rfl ?_
    refine w_iconst (pc2 := 75) rfl rfl ?_
    refine j_puti (pc2 := 78) (j := 5) rfl (zk_cWorld zk_w3) rfl (Nat.le_of_ble_eq_true rfl) rfl (zk_wWorld_5 zk_w3) (by decide) rfl hF (fun s6 hF => ?_)
    refine w_aload_n (pc2 := 79) rfl rfl rfl ?_
    refine w_getfield (pc2 := 82) rfl zk_cRing rfl rfl rfl ?_
    refine j_cVv (pc2 := 85) (k := 0) (c := zt_m36) (as := [.ref 100]) (rest := []) rfl rfl rfl rfl zk_cHist.look rfl (Nat.le_of_ble_eq_true rfl) (Nat.le_of_ble_eq_true rfl) (fun w1 h1 => ok_Hist_forget h1) (by decide) rfl hF (fun s7 hF => ?_)
    refine w_aload_n (pc2 := 86) rfl rfl rfl ?_
    refine w_getfield (pc2 := 89) rfl zk_cRing rfl rfl rfl ?_
    refine w_getfield (pc2 := 92) rfl (zk_cWorld zk_w3) rfl rfl rfl ?_
    refine j_geti (pc2 := 95) rfl (zk_cSmithy zk_sm4) rfl rfl rfl hF (fun v8 hF => ?_)
    exact j_iret rfl rfl hF
  · refine w_bipush (pc2 := 30) rfl rfl ?_
    refine w_aload_n (pc2 := 31) rfl rfl rfl ?_
    refine w_getfield (pc2 := 34) rfl zk_cRing rfl rfl rfl ?_
    refine j_geti (pc2 := 37) rfl zk_cTape rfl rfl rfl hF (fun v9 hF => ?_)
    refine w_isub (pc2 := 38) rfl rfl ?_
    exact j_iret rfl rfl hF
noncomputable def f_Ring_rule (s0 : ZS) : Option (Int32 × ZS) := zgi (s0.1 0 10) (fun (v1 : Int32) => (if v1 < 0 then some ((-1 : Int32), s0) else zgi (s0.1 0 10) (fun (v2 : Int32) => (if v2 < (nI 6) then zgi (s0.1 0 10) (fun (v3 : Int32) => zix 6 v3 (fun (j4 : Nat) => zcv (f_Reader_readInto (86 + 2 * j4) s0) (fun (s5 : ZS) => zcv (f_Tape_clear s5) (fun (s6 : ZS) => zgi (s6.1 1 3) (fun (v7 : Int32) => (if v7 = 0 then zgi (s6.1 0 10) (fun (v8 : Int32) => zwi s6 0 10 ((v8 + (1 : Int32))) (fun (s9 : ZS) => zgi (s9.1 0 10) (fun (v10 : Int32) => some ((v10 - (1 : Int32)), s9)))) else zgi (s6.1 1 3) (fun (v11 : Int32) => some (((-2 : Int32) - v11), s6)))))))) else some ((-1 : Int32), s0)))))
set_option maxHeartbeats 4000000 in
set_option maxRecDepth 100000 in
theorem ok_Ring_rule {L : Nat} {xs : Nat → Int32} {b : ZH} {s0 : ZS} {w : Int32 × ZS} (hF : f_Ring_rule s0 = some w) : zz_ct zt_ms zt_nm zt_df (zt_X L xs) 10 zt_m111 [.ref 0] (zk b s0) (qI b w) := by
  unfold f_Ring_rule at hF
  change zz_wp zt_ms zt_nm zt_df (zt_X L xs) 10 zt_m111 0 [(0, .ref 0)] [] (zk b s0) (qI b w)
  refine w_aload_n (pc2 := 1) rfl rfl rfl ?_
  refine j_geti (pc2 := 4) rfl zk_cRing rfl rfl rfl hF (fun v1 hF => ?_)
  refine j_if_lt (pc2 := 7) rfl rfl hF (fun hF => ?_) (fun hF => ?_)
  · refine w_iconst (pc2 := 20) rfl rfl ?_
    exact j_iret rfl rfl hF
  · refine w_aload_n (pc2 := 8) rfl rfl rfl ?_
    refine j_geti (pc2 := 11) rfl zk_cRing rfl rfl rfl hF (fun v2 hF => ?_)
    refine w_aload_n (pc2 := 12) rfl rfl rfl ?_
    refine w_getfield (pc2 := 15) rfl zk_cRing rfl rfl rfl ?_
    refine w_arraylength (pc2 := 16) rfl zk_c85 rfl ?_
    refine j_icmp_lt (pc2 := 19) rfl rfl hF (fun hF => ?_) (fun hF => ?_)
    · refine w_aload_n (pc2 := 22) rfl rfl rfl ?_
      refine w_getfield (pc2 := 25) rfl zk_cRing rfl rfl rfl ?_
      refine w_aload_n (pc2 := 26) rfl rfl rfl ?_
      refine w_getfield (pc2 := 29) rfl zk_cRing rfl rfl rfl ?_
      refine w_aload_n (pc2 := 30) rfl rfl rfl ?_
      refine j_geti (pc2 := 33) rfl zk_cRing rfl rfl rfl hF (fun v3 hF => ?_)
      refine j_aaload (pc2 := 34) (p := 86) (q := 2) rfl zk_c85 (by decide) rfl hF (fun j4 hj4 hF => ?_)
      refine j_cVv (pc2 := 37) (k := 9) (c := zt_m55) (as := [.ref 98, .ref (86 + 2 * j4)]) (rest := []) rfl rfl rfl rfl zk_cReader.look rfl (Nat.le_of_ble_eq_true rfl) (Nat.le_of_ble_eq_true rfl) (fun w1 h1 => ok_Reader_readInto (zk_isR hj4) h1) (by decide) rfl hF (fun s5 hF => ?_)
      refine w_aload_n (pc2 := 38) rfl rfl rfl ?_
      refine w_getfield (pc2 := 41) rfl zk_cRing rfl rfl rfl ?_
      refine j_cVv (pc2 := 44) (k := 0) (c := zt_m101) (as := [.ref 1]) (rest := []) rfl rfl rfl rfl zk_cTape.look rfl (Nat.le_of_ble_eq_true rfl) (Nat.le_of_ble_eq_true rfl) (fun w1 h1 => ok_Tape_clear h1) (by decide) rfl hF (fun s6 hF => ?_)
      refine w_aload_n (pc2 := 45) rfl rfl rfl ?_
      refine w_getfield (pc2 := 48) rfl zk_cRing rfl rfl rfl ?_
      refine j_geti (pc2 := 51) rfl zk_cTape rfl rfl rfl hF (fun v7 hF => ?_)
      refine j_if_eq (pc2 := 54) rfl rfl hF (fun hF => ?_) (fun hF => ?_)
      · refine w_aload_n (pc2 := 66) rfl rfl rfl ?_
        refine w_dup (pc2 := 67) rfl rfl rfl ?_
        refine j_geti (pc2 := 70) rfl zk_cRing rfl rfl rfl hF (fun v8 hF => ?_)
        refine w_iconst (pc2 := 71) rfl rfl ?_
        refine w_iadd (pc2 := 72) rfl rfl ?_
        refine j_puti (pc2 := 75) (j := 10) rfl zk_cRing rfl (Nat.le_of_ble_eq_true rfl) rfl zk_wRing_10 (by decide) rfl hF (fun s9 hF => ?_)
        refine w_aload_n (pc2 := 76) rfl rfl rfl ?_
        refine j_geti (pc2 := 79) rfl zk_cRing rfl rfl rfl hF (fun v10 hF => ?_)
        refine w_iconst (pc2 := 80) rfl rfl ?_
        refine w_isub (pc2 := 81) rfl rfl ?_
        exact j_iret rfl rfl hF
      · refine w_bipush (pc2 := 56) rfl rfl ?_
        refine w_aload_n (pc2 := 57) rfl rfl rfl ?_
        refine w_getfield (pc2 := 60) rfl zk_cRing rfl rfl rfl ?_
        refine j_geti (pc2 := 63) rfl zk_cTape rfl rfl rfl hF (fun v11 hF => ?_)
        refine w_isub (pc2 := 64) rfl rfl ?_
        exact j_iret rfl rfl hF
    · refine w_iconst (pc2 := 20) rfl rfl ?_
      exact j_iret rfl rfl hF
noncomputable def f_Ring_force (p1 : Int32) (s0 : ZS) : Option (Int32 × ZS) := (if p1 < (-1 : Int32) then some ((-2 : Int32), s0) else zgi (s0.1 0 10) (fun (v2 : Int32) => (if p1 < v2 then zgi (s0.1 3 6) (fun (v3 : Int32) => zwi s0 3 6 p1 (fun (s4 : ZS) => some (v3, s4))) else some ((-2 : Int32), s0))))
set_option maxHeartbeats 4000000 in
set_option maxRecDepth 100000 in
theorem ok_Ring_force {L : Nat} {xs : Nat → Int32} {b : ZH} {p1 : Int32} {s0 : ZS} {w : Int32 × ZS} (hF : f_Ring_force p1 s0 = some w) : zz_ct zt_ms zt_nm zt_df (zt_X L xs) 0 zt_m112 [.ref 0, .int p1] (zk b s0) (qI b w) := by
  unfold f_Ring_force at hF
  change zz_wp zt_ms zt_nm zt_df (zt_X L xs) 0 zt_m112 0 [(0, .ref 0), (1, .int p1)] [] (zk b s0) (qI b w)
  refine w_iload_n (pc2 := 1) rfl rfl rfl ?_
  refine w_iconst (pc2 := 2) rfl rfl ?_
  refine j_icmp_lt (pc2 := 5) rfl rfl hF (fun hF => ?_) (fun hF => ?_)
  · refine w_bipush (pc2 := 15) rfl rfl ?_
    exact j_iret rfl rfl hF
  · refine w_iload_n (pc2 := 6) rfl rfl rfl ?_
    refine w_aload_n (pc2 := 7) rfl rfl rfl ?_
    refine j_geti (pc2 := 10) rfl zk_cRing rfl rfl rfl hF (fun v2 hF => ?_)
    refine j_icmp_lt (pc2 := 13) rfl rfl hF (fun hF => ?_) (fun hF => ?_)
    · refine w_aload_n (pc2 := 17) rfl rfl rfl ?_
      refine w_getfield (pc2 := 20) rfl zk_cRing rfl rfl rfl ?_
      refine j_geti (pc2 := 23) rfl (zk_cWorld zk_w3) rfl rfl rfl hF (fun v3 hF => ?_)
      refine w_istore_n (pc2 := 24) (ls2 := [(2, .int v3), (0, .ref 0), (1, .int p1)]) rfl rfl rfl ?_
      refine w_aload_n (pc2 := 25) rfl rfl rfl ?_
      refine w_getfield (pc2 := 28) rfl zk_cRing rfl rfl rfl ?_
      refine w_iload_n (pc2 := 29) rfl rfl rfl ?_
      refine j_puti (pc2 := 32) (j := 6) rfl (zk_cWorld zk_w3) rfl (Nat.le_of_ble_eq_true rfl) rfl (zk_wWorld_6 zk_w3) (by decide) rfl hF (fun s4 hF => ?_)
      refine w_iload_n (pc2 := 33) rfl rfl rfl ?_
      exact j_iret rfl rfl hF
    · refine w_bipush (pc2 := 15) rfl rfl ?_
      exact j_iret rfl rfl hF
noncomputable def f_Ring_pair (p1 : Int32) (p2 : Int32) (s0 : ZS) : Option (Int32 × ZS) := zcl (f_Smithy_hasPair 4 p1 s0) (fun (v4 : Int32) (s3 : ZS) => (if ¬ v4 = 0 then (if p2 = (0 : Int32) then zrd 5 p1 (s3.1 11) (fun (v5 : Int32) => some (v5, s3)) else (if p2 = (1 : Int32) then zrd 5 p1 (s3.1 6) (fun (v6 : Int32) => some (v6, s3)) else (if p2 = (2 : Int32) then zrd 5 p1 (s3.1 12) (fun (v7 : Int32) => some (v7, s3)) else (if p2 = (3 : Int32) then zrd 5 p1 (s3.1 13) (fun (v8 : Int32) => some (v8, s3)) else (if p2 = (4 : Int32) then zrd 5 p1 (s3.1 7) (fun (v9 : Int32) => some (v9, s3)) else some ((-1 : Int32), s3)))))) else some ((-1 : Int32), s3)))
set_option maxHeartbeats 4000000 in
set_option maxRecDepth 100000 in
theorem ok_Ring_pair {L : Nat} {xs : Nat → Int32} {b : ZH} {p1 : Int32} {p2 : Int32} {s0 : ZS} {w : Int32 × ZS} (hF : f_Ring_pair p1 p2 s0 = some w) : zz_ct zt_ms zt_nm zt_df (zt_X L xs) 1 zt_m113 [.ref 0, .int p1, .int p2] (zk b s0) (qI b w) := by
  unfold f_Ring_pair at hF
  change zz_wp zt_ms zt_nm zt_df (zt_X L xs) 1 zt_m113 0 [(0, .ref 0), (1, .int p1), (2, .int p2)] [] (zk b s0) (qI b w)
  refine w_aload_n (pc2 := 1) rfl rfl rfl ?_
  refine w_getfield (pc2 := 4) rfl zk_cRing rfl rfl rfl ?_
  refine w_getfield (pc2 := 7) rfl (zk_cWorld zk_w3) rfl rfl rfl ?_
  refine w_iload_n (pc2 := 8) rfl rfl rfl ?_
  refine j_cIv (pc2 := 11) (k := 0) (c := zt_m77) (as := [.ref 4, .int p1]) (rest := []) rfl rfl rfl rfl (zk_cSmithy zk_sm4).look rfl (Nat.le_of_ble_eq_true rfl) (Nat.le_of_ble_eq_true rfl) (fun w1 h1 => ok_Smithy_hasPair zk_sm4 h1) (by decide) rfl hF (fun v4 s3 hF => ?_)
  refine j_if_ne (pc2 := 14) rfl rfl hF (fun hF => ?_) (fun hF => ?_)
  · refine w_iload_n (pc2 := 17) rfl rfl rfl ?_
    by_cases hs0 : p2 = (0 : Int32)
    · rw [if_pos hs0] at hF
      refine j_switch (t := 52) rfl (by rw [hs0]; rfl) ?_
      refine w_aload_n (pc2 := 53) rfl rfl rfl ?_
      refine w_getfield (pc2 := 56) rfl zk_cRing rfl rfl rfl ?_
      refine w_getfield (pc2 := 59) rfl (zk_cWorld zk_w3) rfl rfl rfl ?_
      refine w_getfield (pc2 := 62) rfl (zk_cState zk_st10) rfl rfl rfl ?_
      refine w_iload_n (pc2 := 63) rfl rfl rfl ?_
      refine j_iaload (pc2 := 64) (n := 5) rfl rfl (by omega) (by decide) rfl hF (fun v5 hF => ?_)
      exact j_iret rfl rfl hF
    rw [if_neg hs0] at hF
    by_cases hs1 : p2 = (1 : Int32)
    · rw [if_pos hs1] at hF
      refine j_switch (t := 65) rfl (by rw [hs1]; rfl) ?_
      refine w_aload_n (pc2 := 66) rfl rfl rfl ?_
      refine w_getfield (pc2 := 69) rfl zk_cRing rfl rfl rfl ?_
      refine w_getfield (pc2 := 72) rfl (zk_cWorld zk_w3) rfl rfl rfl ?_
      refine w_getfield (pc2 := 75) rfl (zk_cSmithy zk_sm4) rfl rfl rfl ?_
      refine w_iload_n (pc2 := 76) rfl rfl rfl ?_
      refine j_iaload (pc2 := 77) (n := 5) rfl rfl (by omega) (by decide) rfl hF (fun v6 hF => ?_)
      exact j_iret rfl rfl hF
    rw [if_neg hs1] at hF
    by_cases hs2 : p2 = (2 : Int32)
    · rw [if_pos hs2] at hF
      refine j_switch (t := 78) rfl (by rw [hs2]; rfl) ?_
      refine w_aload_n (pc2 := 79) rfl rfl rfl ?_
      refine w_getfield (pc2 := 82) rfl zk_cRing rfl rfl rfl ?_
      refine w_getfield (pc2 := 85) rfl (zk_cWorld zk_w3) rfl rfl rfl ?_
      refine w_getfield (pc2 := 88) rfl (zk_cState zk_st10) rfl rfl rfl ?_
      refine w_iload_n (pc2 := 89) rfl rfl rfl ?_
      refine j_iaload (pc2 := 90) (n := 5) rfl rfl (by omega) (by decide) rfl hF (fun v7 hF => ?_)
      exact j_iret rfl rfl hF
    rw [if_neg hs2] at hF
    by_cases hs3 : p2 = (3 : Int32)
    · rw [if_pos hs3] at hF
      refine j_switch (t := 91) rfl (by rw [hs3]; rfl) ?_
      refine w_aload_n (pc2 := 92) rfl rfl rfl ?_
      refine w_getfield (pc2 := 95) rfl zk_cRing rfl rfl rfl ?_
      refine w_getfield (pc2 := 98) rfl (zk_cWorld zk_w3) rfl rfl rfl ?_
      refine w_getfield (pc2 := 101) rfl (zk_cState zk_st10) rfl rfl rfl ?_
      refine w_iload_n (pc2 := 102) rfl rfl rfl ?_
      refine j_iaload (pc2 := 103) (n := 5) rfl rfl (by omega) (by decide) rfl hF (fun v8 hF => ?_)
      exact j_iret rfl rfl hF
    rw [if_neg hs3] at hF
    by_cases hs4 : p2 = (4 : Int32)
    · rw [if_pos hs4] at hF
      refine j_switch (t := 104) rfl (by rw [hs4]; rfl) ?_
      refine w_aload_n (pc2 := 105) rfl rfl rfl ?_
      refine w_getfield (pc2 := 108) rfl zk_cRing rfl rfl rfl ?_
      refine w_getfield (pc2 := 111) rfl (zk_cWorld zk_w3) rfl rfl rfl ?_
      refine w_getfield (pc2 := 114) rfl (zk_cSmithy zk_sm4) rfl rfl rfl ?_
      refine w_iload_n (pc2 := 115) rfl rfl rfl ?_
      refine j_iaload (pc2 := 116) (n := 5) rfl rfl (by omega) (by decide) rfl hF (fun v9 hF => ?_)
      exact j_iret rfl rfl hF
    rw [if_neg hs4] at hF
    refine j_switch (t := 117) rfl ?_ ?_
    · unfold zz_sw
      by_cases hr : (p2).toInt < 0 ∨ 4 < (p2).toInt
      · rw [if_pos hr]; rfl
      · rw [if_neg hr]
        have hcs : (p2).toInt = 0 ∨ (p2).toInt = 1 ∨ (p2).toInt = 2 ∨ (p2).toInt = 3 ∨ (p2).toInt = 4 := by omega
        rcases hcs with h | h | h | h | h
        · exact absurd (Int32.toInt_inj.mp (h.trans (by decide))) hs0
        · exact absurd (Int32.toInt_inj.mp (h.trans (by decide))) hs1
        · exact absurd (Int32.toInt_inj.mp (h.trans (by decide))) hs2
        · exact absurd (Int32.toInt_inj.mp (h.trans (by decide))) hs3
        · exact absurd (Int32.toInt_inj.mp (h.trans (by decide))) hs4
    · refine w_iconst (pc2 := 118) rfl rfl ?_
      exact j_iret rfl rfl hF
  · refine w_iconst (pc2 := 15) rfl rfl ?_
    exact j_iret rfl rfl hF
noncomputable def f_Ring_isEither (p1 : Int32) (s0 : ZS) : Option (Int32 × ZS) := (if p1 = 0 then zbl (1 : Int32) s0 else (if ¬ p1 = (1 : Int32) then zbl (0 : Int32) s0 else zbl (1 : Int32) s0))
set_option maxHeartbeats 4000000 in
set_option maxRecDepth 100000 in
theorem ok_Ring_isEither {L : Nat} {xs : Nat → Int32} {b : ZH} {p1 : Int32} {s0 : ZS} {w : Int32 × ZS} (hF : f_Ring_isEither p1 s0 = some w) : zz_ct zt_ms zt_nm zt_df (zt_X L xs) 0 zt_m115 [.int p1] (zk b s0) (qI b w) := by
  unfold f_Ring_isEither at hF
  change zz_wp zt_ms zt_nm zt_df (zt_X L xs) 0 zt_m115 0 [(0, .int p1)] [] (zk b s0) (qI b w)
  refine w_iload_n (pc2 := 1) rfl rfl rfl ?_
  refine j_if_eq (pc2 := 4) rfl rfl hF (fun hF => ?_) (fun hF => ?_)
  · refine w_iconst (pc2 := 10) rfl rfl ?_
    refine w_goto rfl ?_
    exact j_zret rfl rfl hF
  · refine w_iload_n (pc2 := 5) rfl rfl rfl ?_
    refine w_iconst (pc2 := 6) rfl rfl ?_
    refine j_icmp_ne (pc2 := 9) rfl rfl hF (fun hF => ?_) (fun hF => ?_)
    · refine w_iconst (pc2 := 14) rfl rfl ?_
      exact j_zret rfl rfl hF
    · refine w_iconst (pc2 := 10) rfl rfl ?_
      refine w_goto rfl ?_
      exact j_zret rfl rfl hF
noncomputable def f_Ring_saying (p1 : Int32) (p2 : Int32) (p3 : Int32) (s0 : ZS) : Option (Int32 × ZS) := zcl (f_Smithy_hasBoth 4 p1 p2 s0) (fun (v5 : Int32) (s4 : ZS) => (if v5 = 0 then some ((-1 : Int32), s4) else zcl (f_Ring_isEither p3 s4) (fun (v7 : Int32) (s6 : ZS) => (if ¬ v7 = 0 then (if ¬ p3 = 0 then zrd 30 (((p1 * (6 : Int32)) + p2)) (s6.1 14) (fun (v8 : Int32) => some (v8, s6)) else zcl (f_Smithy_weight 4 p1 p2 s6) (fun (v10 : Int32) (s9 : ZS) => some (v10, s9))) else some ((-1 : Int32), s6)))))
set_option maxHeartbeats 4000000 in
set_option maxRecDepth 100000 in
theorem ok_Ring_saying {L : Nat} {xs : Nat → Int32} {b : ZH} {p1 : Int32} {p2 : Int32} {p3 : Int32} {s0 : ZS} {w : Int32 × ZS} (hF : f_Ring_saying p1 p2 p3 s0 = some w) : zz_ct zt_ms zt_nm zt_df (zt_X L xs) 2 zt_m114 [.ref 0, .int p1, .int p2, .int p3] (zk b s0) (qI b w) := by
  unfold f_Ring_saying at hF
  change zz_wp zt_ms zt_nm zt_df (zt_X L xs) 2 zt_m114 0 [(0, .ref 0), (1, .int p1), (2, .int p2), (3, .int p3)] [] (zk b s0) (qI b w)
  refine w_aload_n (pc2 := 1) rfl rfl rfl ?_
  refine w_getfield (pc2 := 4) rfl zk_cRing rfl rfl rfl ?_
  refine w_getfield (pc2 := 7) rfl (zk_cWorld zk_w3) rfl rfl rfl ?_
  refine w_iload_n (pc2 := 8) rfl rfl rfl ?_
  refine w_iload_n (pc2 := 9) rfl rfl rfl ?_
  refine j_cIv (pc2 := 12) (k := 1) (c := zt_m76) (as := [.ref 4, .int p1, .int p2]) (rest := []) rfl rfl rfl rfl (zk_cSmithy zk_sm4).look rfl (Nat.le_of_ble_eq_true rfl) (Nat.le_of_ble_eq_true rfl) (fun w1 h1 => ok_Smithy_hasBoth zk_sm4 h1) (by decide) rfl hF (fun v5 s4 hF => ?_)
  refine j_if_eq (pc2 := 15) rfl rfl hF (fun hF => ?_) (fun hF => ?_)
  · refine w_iconst (pc2 := 23) rfl rfl ?_
    exact j_iret rfl rfl hF
  · refine w_iload_n (pc2 := 16) rfl rfl rfl ?_
    refine j_cIs (pc2 := 19) (k := 0) (c := zt_m115) (as := [.int p3]) (rest := []) rfl rfl rfl (Nat.le_of_ble_eq_true rfl) rfl rfl (Nat.le_of_ble_eq_true rfl) (Nat.le_of_ble_eq_true rfl) (fun w1 h1 => ok_Ring_isEither h1) (by decide) rfl hF (fun v7 s6 hF => ?_)
    refine j_if_ne (pc2 := 22) rfl rfl hF (fun hF => ?_) (fun hF => ?_)
    · refine w_iload_n (pc2 := 25) rfl rfl rfl ?_
      refine j_if_ne (pc2 := 28) rfl rfl hF (fun hF => ?_) (fun hF => ?_)
      · refine w_aload_n (pc2 := 42) rfl rfl rfl ?_
        refine w_getfield (pc2 := 45) rfl zk_cRing rfl rfl rfl ?_
        refine w_getfield (pc2 := 48) rfl (zk_cWorld zk_w3) rfl rfl rfl ?_
        refine w_getfield (pc2 := 51) rfl (zk_cState zk_st10) rfl rfl rfl ?_
        refine w_iload_n (pc2 := 52) rfl rfl rfl ?_
        refine w_bipush (pc2 := 54) rfl rfl ?_
        refine w_imul (pc2 := 55) rfl rfl ?_
        refine w_iload_n (pc2 := 56) rfl rfl rfl ?_
        refine w_iadd (pc2 := 57) rfl rfl ?_
        refine j_iaload (pc2 := 58) (n := 30) rfl rfl (by omega) (by decide) rfl hF (fun v8 hF => ?_)
        exact j_iret rfl rfl hF
      · refine w_aload_n (pc2 := 29) rfl rfl rfl ?_
        refine w_getfield (pc2 := 32) rfl zk_cRing rfl rfl rfl ?_
        refine w_getfield (pc2 := 35) rfl (zk_cWorld zk_w3) rfl rfl rfl ?_
        refine w_iload_n (pc2 := 36) rfl rfl rfl ?_
        refine w_iload_n (pc2 := 37) rfl rfl rfl ?_
        refine j_cIv (pc2 := 40) (k := 0) (c := zt_m81) (as := [.ref 4, .int p1, .int p2]) (rest := []) rfl rfl rfl rfl (zk_cSmithy zk_sm4).look rfl (Nat.le_of_ble_eq_true rfl) (Nat.le_of_ble_eq_true rfl) (fun w1 h1 => ok_Smithy_weight zk_sm4 h1) (by decide) rfl hF (fun v10 s9 hF => ?_)
        exact j_iret rfl rfl hF
    · refine w_iconst (pc2 := 23) rfl rfl ?_
      exact j_iret rfl rfl hF
noncomputable def f_Ring_count (p1 : Int32) (s0 : ZS) : Option (Int32 × ZS) := (if p1 = (0 : Int32) then zgi (s0.1 4 1) (fun (v2 : Int32) => some (v2, s0)) else (if p1 = (1 : Int32) then zgi (s0.1 4 2) (fun (v3 : Int32) => some (v3, s0)) else (if p1 = (2 : Int32) then zgi (s0.1 4 3) (fun (v4 : Int32) => some (v4, s0)) else (if p1 = (3 : Int32) then zgi (s0.1 4 4) (fun (v5 : Int32) => some (v5, s0)) else (if p1 = (4 : Int32) then zgi (s0.1 0 10) (fun (v6 : Int32) => some (v6, s0)) else (if p1 = (5 : Int32) then zgi (s0.1 3 6) (fun (v7 : Int32) => some (v7, s0)) else (if p1 = (6 : Int32) then zgi (s0.1 10 0) (fun (v8 : Int32) => some (v8, s0)) else (if p1 = (7 : Int32) then zcl (f_State_banded 10 s0) (fun (v10 : Int32) (s9 : ZS) => some (v10, s9)) else (if p1 = (8 : Int32) then zgi (s0.1 10 1) (fun (v11 : Int32) => some (v11, s0)) else (if p1 = (9 : Int32) then zcl (f_State_allWide 10 s0) (fun (v13 : Int32) (s12 : ZS) => some (v13, s12)) else (if p1 = (10 : Int32) then zgi (s0.1 3 5) (fun (v14 : Int32) => some (v14, s0)) else (if p1 = (11 : Int32) then zgi (s0.1 100 2) (fun (v15 : Int32) => some (v15, s0)) else (if p1 = (12 : Int32) then zgi (s0.1 3 7) (fun (v16 : Int32) => some (v16, s0)) else (if p1 = (13 : Int32) then zgi (s0.1 1 1) (fun (v17 : Int32) => some (v17, s0)) else some ((-1 : Int32), s0)))))))))))))))
set_option maxHeartbeats 4000000 in
set_option maxRecDepth 100000 in
theorem ok_Ring_count {L : Nat} {xs : Nat → Int32} {b : ZH} {p1 : Int32} {s0 : ZS} {w : Int32 × ZS} (hF : f_Ring_count p1 s0 = some w) : zz_ct zt_ms zt_nm zt_df (zt_X L xs) 1 zt_m116 [.ref 0, .int p1] (zk b s0) (qI b w) := by
  unfold f_Ring_count at hF
  change zz_wp zt_ms zt_nm zt_df (zt_X L xs) 1 zt_m116 0 [(0, .ref 0), (1, .int p1)] [] (zk b s0) (qI b w)
  refine w_iload_n (pc2 := 1) rfl rfl rfl ?_
  by_cases hs0 : p1 = (0 : Int32)
  · rw [if_pos hs0] at hF
    refine j_switch (t := 72) rfl (by rw [hs0]; rfl) ?_
    refine w_aload_n (pc2 := 73) rfl rfl rfl ?_
    refine w_getfield (pc2 := 76) rfl zk_cRing rfl rfl rfl ?_
    refine w_getfield (pc2 := 79) rfl (zk_cWorld zk_w3) rfl rfl rfl ?_
    refine j_geti (pc2 := 82) rfl (zk_cSmithy zk_sm4) rfl rfl rfl hF (fun v2 hF => ?_)
    exact j_iret rfl rfl hF
  rw [if_neg hs0] at hF
  by_cases hs1 : p1 = (1 : Int32)
  · rw [if_pos hs1] at hF
    refine j_switch (t := 83) rfl (by rw [hs1]; rfl) ?_
    refine w_aload_n (pc2 := 84) rfl rfl rfl ?_
    refine w_getfield (pc2 := 87) rfl zk_cRing rfl rfl rfl ?_
    refine w_getfield (pc2 := 90) rfl (zk_cWorld zk_w3) rfl rfl rfl ?_
    refine j_geti (pc2 := 93) rfl (zk_cSmithy zk_sm4) rfl rfl rfl hF (fun v3 hF => ?_)
    exact j_iret rfl rfl hF
  rw [if_neg hs1] at hF
  by_cases hs2 : p1 = (2 : Int32)
  · rw [if_pos hs2] at hF
    refine j_switch (t := 94) rfl (by rw [hs2]; rfl) ?_
    refine w_aload_n (pc2 := 95) rfl rfl rfl ?_
    refine w_getfield (pc2 := 98) rfl zk_cRing rfl rfl rfl ?_
    refine w_getfield (pc2 := 101) rfl (zk_cWorld zk_w3) rfl rfl rfl ?_
    refine j_geti (pc2 := 104) rfl (zk_cSmithy zk_sm4) rfl rfl rfl hF (fun v4 hF => ?_)
    exact j_iret rfl rfl hF
  rw [if_neg hs2] at hF
  by_cases hs3 : p1 = (3 : Int32)
  · rw [if_pos hs3] at hF
    refine j_switch (t := 105) rfl (by rw [hs3]; rfl) ?_
    refine w_aload_n (pc2 := 106) rfl rfl rfl ?_
    refine w_getfield (pc2 := 109) rfl zk_cRing rfl rfl rfl ?_
    refine w_getfield (pc2 := 112) rfl (zk_cWorld zk_w3) rfl rfl rfl ?_
    refine j_geti (pc2 := 115) rfl (zk_cSmithy zk_sm4) rfl rfl rfl hF (fun v5 hF => ?_)
    exact j_iret rfl rfl hF
  rw [if_neg hs3] at hF
  by_cases hs4 : p1 = (4 : Int32)
  · rw [if_pos hs4] at hF
    refine j_switch (t := 116) rfl (by rw [hs4]; rfl) ?_
    refine w_aload_n (pc2 := 117) rfl rfl rfl ?_
    refine j_geti (pc2 := 120) rfl zk_cRing rfl rfl rfl hF (fun v6 hF => ?_)
    exact j_iret rfl rfl hF
  rw [if_neg hs4] at hF
  by_cases hs5 : p1 = (5 : Int32)
  · rw [if_pos hs5] at hF
    refine j_switch (t := 121) rfl (by rw [hs5]; rfl) ?_
    refine w_aload_n (pc2 := 122) rfl rfl rfl ?_
    refine w_getfield (pc2 := 125) rfl zk_cRing rfl rfl rfl ?_
    refine j_geti (pc2 := 128) rfl (zk_cWorld zk_w3) rfl rfl rfl hF (fun v7 hF => ?_)
    exact j_iret rfl rfl hF
  rw [if_neg hs5] at hF
  by_cases hs6 : p1 = (6 : Int32)
  · rw [if_pos hs6] at hF
    refine j_switch (t := 129) rfl (by rw [hs6]; rfl) ?_
    refine w_aload_n (pc2 := 130) rfl rfl rfl ?_
    refine w_getfield (pc2 := 133) rfl zk_cRing rfl rfl rfl ?_
    refine w_getfield (pc2 := 136) rfl (zk_cWorld zk_w3) rfl rfl rfl ?_
    refine j_geti (pc2 := 139) rfl (zk_cState zk_st10) rfl rfl rfl hF (fun v8 hF => ?_)
    exact j_iret rfl rfl hF
  rw [if_neg hs6] at hF
  by_cases hs7 : p1 = (7 : Int32)
  · rw [if_pos hs7] at hF
    refine j_switch (t := 140) rfl (by rw [hs7]; rfl) ?_
    refine w_aload_n (pc2 := 141) rfl rfl rfl ?_
    refine w_getfield (pc2 := 144) rfl zk_cRing rfl rfl rfl ?_
    refine w_getfield (pc2 := 147) rfl (zk_cWorld zk_w3) rfl rfl rfl ?_
    refine j_cIv (pc2 := 150) (k := 0) (c := zt_m85) (as := [.ref 10]) (rest := []) rfl rfl rfl rfl (zk_cState zk_st10).look rfl (Nat.le_of_ble_eq_true rfl) (Nat.le_of_ble_eq_true rfl) (fun w1 h1 => ok_State_banded zk_st10 h1) (by decide) rfl hF (fun v10 s9 hF => ?_)
    exact j_iret rfl rfl hF
  rw [if_neg hs7] at hF
  by_cases hs8 : p1 = (8 : Int32)
  · rw [if_pos hs8] at hF
    refine j_switch (t := 151) rfl (by rw [hs8]; rfl) ?_
    refine w_aload_n (pc2 := 152) rfl rfl rfl ?_
    refine w_getfield (pc2 := 155) rfl zk_cRing rfl rfl rfl ?_
    refine w_getfield (pc2 := 158) rfl (zk_cWorld zk_w3) rfl rfl rfl ?_
    refine j_geti (pc2 := 161) rfl (zk_cState zk_st10) rfl rfl rfl hF (fun v11 hF => ?_)
    exact j_iret rfl rfl hF
  rw [if_neg hs8] at hF
  by_cases hs9 : p1 = (9 : Int32)
  · rw [if_pos hs9] at hF
    refine j_switch (t := 162) rfl (by rw [hs9]; rfl) ?_
    refine w_aload_n (pc2 := 163) rfl rfl rfl ?_
    refine w_getfield (pc2 := 166) rfl zk_cRing rfl rfl rfl ?_
    refine w_getfield (pc2 := 169) rfl (zk_cWorld zk_w3) rfl rfl rfl ?_
    refine j_cIv (pc2 := 172) (k := 0) (c := zt_m86) (as := [.ref 10]) (rest := []) rfl rfl rfl rfl (zk_cState zk_st10).look rfl (Nat.le_of_ble_eq_true rfl) (Nat.le_of_ble_eq_true rfl) (fun w1 h1 => ok_State_allWide zk_st10 h1) (by decide) rfl hF (fun v13 s12 hF => ?_)
    exact j_iret rfl rfl hF
  rw [if_neg hs9] at hF
  by_cases hs10 : p1 = (10 : Int32)
  · rw [if_pos hs10] at hF
    refine j_switch (t := 173) rfl (by rw [hs10]; rfl) ?_
    refine w_aload_n (pc2 := 174) rfl rfl rfl ?_
    refine w_getfield (pc2 := 177) rfl zk_cRing rfl rfl rfl ?_
    refine j_geti (pc2 := 180) rfl (zk_cWorld zk_w3) rfl rfl rfl hF (fun v14 hF => ?_)
    exact j_iret rfl rfl hF
  rw [if_neg hs10] at hF
  by_cases hs11 : p1 = (11 : Int32)
  · rw [if_pos hs11] at hF
    refine j_switch (t := 181) rfl (by rw [hs11]; rfl) ?_
    refine w_aload_n (pc2 := 182) rfl rfl rfl ?_
    refine w_getfield (pc2 := 185) rfl zk_cRing rfl rfl rfl ?_
    refine j_geti (pc2 := 188) rfl zk_cHist rfl rfl rfl hF (fun v15 hF => ?_)
    exact j_iret rfl rfl hF
  rw [if_neg hs11] at hF
  by_cases hs12 : p1 = (12 : Int32)
  · rw [if_pos hs12] at hF
    refine j_switch (t := 189) rfl (by rw [hs12]; rfl) ?_
    refine w_aload_n (pc2 := 190) rfl rfl rfl ?_
    refine w_getfield (pc2 := 193) rfl zk_cRing rfl rfl rfl ?_
    refine j_geti (pc2 := 196) rfl (zk_cWorld zk_w3) rfl rfl rfl hF (fun v16 hF => ?_)
    exact j_iret rfl rfl hF
  rw [if_neg hs12] at hF
  by_cases hs13 : p1 = (13 : Int32)
  · rw [if_pos hs13] at hF
    refine j_switch (t := 197) rfl (by rw [hs13]; rfl) ?_
    refine w_aload_n (pc2 := 198) rfl rfl rfl ?_
    refine w_getfield (pc2 := 201) rfl zk_cRing rfl rfl rfl ?_
    refine j_geti (pc2 := 204) rfl zk_cTape rfl rfl rfl hF (fun v17 hF => ?_)
    exact j_iret rfl rfl hF
  rw [if_neg hs13] at hF
  refine j_switch (t := 205) rfl ?_ ?_
  · unfold zz_sw
    by_cases hr : (p1).toInt < 0 ∨ 13 < (p1).toInt
    · rw [if_pos hr]; rfl
    · rw [if_neg hr]
      have hcs : (p1).toInt = 0 ∨ (p1).toInt = 1 ∨ (p1).toInt = 2 ∨ (p1).toInt = 3 ∨ (p1).toInt = 4 ∨ (p1).toInt = 5 ∨ (p1).toInt = 6 ∨ (p1).toInt = 7 ∨ (p1).toInt = 8 ∨ (p1).toInt = 9 ∨ (p1).toInt = 10 ∨ (p1).toInt = 11 ∨ (p1).toInt = 12 ∨ (p1).toInt = 13 := by omega
      rcases hcs with h | h | h | h | h | h | h | h | h | h | h | h | h | h
      · exact absurd (Int32.toInt_inj.mp (h.trans (by decide))) hs0
      · exact absurd (Int32.toInt_inj.mp (h.trans (by decide))) hs1
      · exact absurd (Int32.toInt_inj.mp (h.trans (by decide))) hs2
      · exact absurd (Int32.toInt_inj.mp (h.trans (by decide))) hs3
      · exact absurd (Int32.toInt_inj.mp (h.trans (by decide))) hs4
      · exact absurd (Int32.toInt_inj.mp (h.trans (by decide))) hs5
      · exact absurd (Int32.toInt_inj.mp (h.trans (by decide))) hs6
      · exact absurd (Int32.toInt_inj.mp (h.trans (by decide))) hs7
      · exact absurd (Int32.toInt_inj.mp (h.trans (by decide))) hs8
      · exact absurd (Int32.toInt_inj.mp (h.trans (by decide))) hs9
      · exact absurd (Int32.toInt_inj.mp (h.trans (by decide))) hs10
      · exact absurd (Int32.toInt_inj.mp (h.trans (by decide))) hs11
      · exact absurd (Int32.toInt_inj.mp (h.trans (by decide))) hs12
      · exact absurd (Int32.toInt_inj.mp (h.trans (by decide))) hs13
  · refine w_iconst (pc2 := 206) rfl rfl ?_
    exact j_iret rfl rfl hF
