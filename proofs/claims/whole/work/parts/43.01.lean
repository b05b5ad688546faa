/-! What methods do as functions of the state, and that the small machine does so. -/
noncomputable def f_Mill_chosen_B21 (o1 : Nat) (p2 : Int32) (a6 : Int32 × Int64 × Int32) (s7 : ZS) (g8 : (Int32 × Int64 × Int32) → ZS → Option (Int32 × ZS)) : Option (Int32 × ZS) := zgi (s7.1 4 4) (fun (v9 : Int32) => (if v9 ≤ a6.2.2 then some (a6.1, s7) else zgi (s7.1 202 6) (fun (v10 : Int32) => zjn (A := Int32 × Int64) (fun (a12 : Int32 × Int64) (s11 : ZS) => g8 (a12.1, a12.2, (a6.2.2 + (1 : Int32))) s11) (fun (k13 : (Int32 × Int64) → ZS → Option (Int32 × ZS)) => (if ¬ ((v10 >>> (a6.2.2 &&& (31 : Int32))) &&& (1 : Int32)) = 0 then k13 (a6.1, a6.2.1) s7 else zcl (f_Smithy_weight 4 p2 a6.2.2 s7) (fun (v15 : Int32) (s14 : ZS) => zgi (s14.1 202 5) (fun (v16 : Int32) => zjn (A := Int64) (fun (a18 : Int64) (s17 : ZS) => (if (lg_cmp a18 a6.2.1) ≤ 0 then k13 (a6.1, a6.2.1) s17 else k13 (a6.2.2, a18) s17)) (fun (k19 : Int64 → ZS → Option (Int32 × ZS)) => znr v16 (k19 (v15.toInt64) s14) (zcv (f_Mill_tellSaying o1 p2 a6.2.2 s14) (fun (s20 : ZS) => zix 6 (s20.1 202 5) (fun (j21 : Nat) => zcl (f_Rule_worth (86 + 2 * j21) s20) (fun (v23 : Int64) (s22 : ZS) => k19 v23 s22))))))))))))
noncomputable def f_Mill_chosen (o1 : Nat) (p2 : Int32) (s0 : ZS) : Option (Int32 × ZS) := zgi (s0.1 202 5) (fun (v3 : Int32) => zj0 (fun (s4 : ZS) => zlp zN (f_Mill_chosen_B21 o1 p2) ((-1 : Int32), (0 : Int64), (0 : Int32)) s4) (fun (k5 : ZS → Option (Int32 × ZS)) => znr v3 (k5 s0) (zcv (f_Mill_tellPair o1 p2 s0) (fun (s24 : ZS) => k5 s24))))
set_option maxHeartbeats 4000000 in
set_option maxRecDepth 100000 in
theorem ok_Mill_chosen {L : Nat} {xs : Nat → Int32} {b : ZH} {o1 : Nat} {p2 : Int32} (ho1 : zk_isState o1) {s0 : ZS} {w : Int32 × ZS} (hF : f_Mill_chosen o1 p2 s0 = some w) : zz_ct zt_ms zt_nm zt_df (zt_X L xs) 2 zt_m42 [.ref 202, .ref o1, .int p2] (zk b s0) (qI b w) := by
  unfold f_Mill_chosen at hF
  change zz_wp zt_ms zt_nm zt_df (zt_X L xs) 2 zt_m42 0 [(0, .ref 202), (1, .ref o1), (2, .int p2)] [] (zk b s0) (qI b w)
  refine w_aload_n (pc2 := 1) rfl rfl rfl ?_
  refine j_getrule (pc2 := 4) rfl rfl hF (fun v3 hF => ?_)
  refine j_join0 (P := fun (s4 : ZS) => zz_wp zt_ms zt_nm zt_df (zt_X L xs) 2 zt_m42 13 [(0, .ref 202), (1, .ref o1), (2, .int p2)] [] (zk b s4) (qI b w)) hF (fun s4 hF => ?_) (fun k5 hk5 hF => ?_)
  · refine w_iconst (pc2 := 14) rfl rfl ?_
    refine w_istore_n (pc2 := 15) (ls2 := [(3, .int (-1 : Int32)), (0, .ref 202), (1, .ref o1), (2, .int p2)]) rfl rfl rfl ?_
    refine w_lconst (pc2 := 16) rfl rfl ?_
    refine w_lstore (pc2 := 18) (ls2 := [(4, .long (0 : Int64)), (3, .int (-1 : Int32)), (0, .ref 202), (1, .ref o1), (2, .int p2)]) rfl rfl rfl ?_
    refine w_iconst (pc2 := 19) rfl rfl ?_
    refine w_istore (pc2 := 21) (ls2 := [(6, .int (0 : Int32)), (4, .long (0 : Int64)), (3, .int (-1 : Int32)), (0, .ref 202), (1, .ref o1), (2, .int p2)]) rfl rfl rfl ?_
    refine j_norm (l := [(0, .ref 202), (1, .ref o1), (2, .int p2), (3, .int (-1 : Int32)), (4, .long (0 : Int64)), (6, .int (0 : Int32))]) ⟨rfl, rfl, rfl, rfl, rfl, rfl, trivial⟩ (zz_nd_of (ks := [0, 1, 2, 3, 4, 6]) rfl (by decide)) ?_
    refine j_loop (P := fun (a6 : Int32 × Int64 × Int32) (s7 : ZS) => zz_wp zt_ms zt_nm zt_df (zt_X L xs) 2 zt_m42 21 [(0, .ref 202), (1, .ref o1), (2, .int p2), (3, .int a6.1), (4, .long a6.2.1), (6, .int a6.2.2)] [] (zk b s7) (qI b w)) hF (fun a6 s7 g8 hg8 hF => ?_)
    unfold f_Mill_chosen_B21 at hF
    refine w_iload (pc2 := 23) rfl rfl rfl ?_
    refine w_aload_n (pc2 := 24) rfl rfl rfl ?_
    refine w_getfield (pc2 := 27) rfl zk_cMill rfl rfl rfl ?_
    refine j_geti (pc2 := 30) rfl (zk_cSmithy zk_sm4) rfl rfl rfl hF (fun v9 hF => ?_)
    refine j_icmp_ge (pc2 := 33) rfl rfl hF (fun hF => ?_) (fun hF => ?_)
    · refine w_iload_n (pc2 := 112) rfl rfl rfl ?_
      exact j_iret rfl rfl hF
    · refine w_aload_n (pc2 := 34) rfl rfl rfl ?_
      refine j_geti (pc2 := 37) rfl zk_cMill rfl rfl rfl hF (fun v10 hF => ?_)
      refine w_iload (pc2 := 39) rfl rfl rfl ?_
      refine w_ishr (pc2 := 40) rfl rfl ?_
      refine w_iconst (pc2 := 41) rfl rfl ?_
      refine w_iand (pc2 := 42) rfl rfl ?_
      refine j_join (P := fun (a12 : Int32 × Int64) (s11 : ZS) => zz_wp zt_ms zt_nm zt_df (zt_X L xs) 2 zt_m42 105 [(0, .ref 202), (1, .ref o1), (2, .int p2), (3, .int a12.1), (4, .long a12.2), (6, .int a6.2.2)] [] (zk b s11) (qI b w)) hF (fun a12 s11 hF => ?_) (fun k13 hk13 hF => ?_)
      · refine w_iinc (pc2 := 108) (ls2 := [(6, .int ((a6.2.2 + (1 : Int32)))), (0, .ref 202), (1, .ref o1), (2, .int p2), (3, .int a12.1), (4, .long a12.2)]) rfl rfl rfl rfl ?_
        refine w_goto rfl ?_
        exact j_norm (l := [(0, .ref 202), (1, .ref o1), (2, .int p2), (3, .int a12.1), (4, .long a12.2), (6, .int ((a6.2.2 + (1 : Int32))))]) ⟨rfl, rfl, rfl, rfl, rfl, rfl, trivial⟩ (zz_nd_of (ks := [0, 1, 2, 3, 4, 6]) rfl (by decide)) (hg8 (a12.1, a12.2, (a6.2.2 + (1 : Int32))) s11 hF)
      · refine j_if_ne (pc2 := 45) rfl rfl hF (fun hF => ?_) (fun hF => ?_)
        · exact j_norm (l := [(0, .ref 202), (1, .ref o1), (2, .int p2), (3, .int a6.1), (4, .long a6.2.1), (6, .int a6.2.2)]) ⟨rfl, rfl, rfl, rfl, rfl, rfl, trivial⟩ (zz_nd_of (ks := [0, 1, 2, 3, 4, 6]) rfl (by decide)) (hk13 (a6.1, a6.2.1) s7 hF)
        · refine w_aload_n (pc2 := 46) rfl rfl rfl ?_
          refine w_getfield (pc2 := 49) rfl zk_cMill rfl rfl rfl ?_
          refine w_iload_n (pc2 := 50) rfl rfl rfl ?_
          refine w_iload (pc2 := 52) rfl rfl rfl ?_
          refine j_cIv (pc2 := 55) (k := 0) (c := zt_m81) (as := [.ref 4, .int p2, .int a6.2.2]) (rest := []) rfl rfl rfl rfl (zk_cSmithy zk_sm4).look rfl (Nat.le_of_ble_eq_true rfl) (Nat.le_of_ble_eq_true rfl) (fun w1 h1 => ok_Smithy_weight zk_sm4 h1) (by decide) rfl hF (fun v15 s14 hF => ?_)
          refine w_i2l (pc2 := 56) rfl rfl ?_
          refine w_lstore (pc2 := 58) (ls2 := [(7, .long (v15.toInt64)), (0, .ref 202), (1, .ref o1), (2, .int p2), (3, .int a6.1), (4, .long a6.2.1), (6, .int a6.2.2)]) rfl rfl rfl ?_
          refine w_aload_n (pc2 := 59) rfl rfl rfl ?_
          refine j_getrule (pc2 := 62) rfl rfl hF (fun v16 hF => ?_)
          refine j_join (P := fun (a18 : Int64) (s17 : ZS) => zz_wp zt_ms zt_nm zt_df (zt_X L xs) 2 zt_m42 90 [(0, .ref 202), (1, .ref o1), (2, .int p2), (3, .int a6.1), (4, .long a6.2.1), (6, .int a6.2.2), (7, .long a18)] [] (zk b s17) (qI b w)) hF (fun a18 s17 hF => ?_) (fun k19 hk19 hF => ?_)
          · refine w_lload (pc2 := 92) rfl rfl rfl ?_
            refine w_lload (pc2 := 94) rfl rfl rfl ?_
            refine w_lcmp (pc2 := 95) rfl rfl ?_
            refine j_if_le (pc2 := 98) rfl rfl hF (fun hF => ?_) (fun hF => ?_)
            · exact j_norm (l := [(0, .ref 202), (1, .ref o1), (2, .int p2), (3, .int a6.1), (4, .long a6.2.1), (6, .int a6.2.2)]) ⟨rfl, rfl, rfl, rfl, rfl, rfl, trivial⟩ (zz_nd_of (ks := [0, 1, 2, 3, 4, 6]) rfl (by decide)) (hk13 (a6.1, a6.2.1) s17 hF)
            · refine w_lload (pc2 := 100) rfl rfl rfl ?_
              refine w_lstore (pc2 := 102) (ls2 := [(4, .long a18), (0, .ref 202), (1, .ref o1), (2, .int p2), (3, .int a6.1), (6, .int a6.2.2), (7, .long a18)]) rfl rfl rfl ?_
              refine w_iload (pc2 := 104) rfl rfl rfl ?_
              refine w_istore_n (pc2 := 105) (ls2 := [(3, .int a6.2.2), (4, .long a18), (0, .ref 202), (1, .ref o1), (2, .int p2), (6, .int a6.2.2), (7, .long a18)]) rfl rfl rfl ?_
              exact j_norm (l := [(0, .ref 202), (1, .ref o1), (2, .int p2), (3, .int a6.2.2), (4, .long a18), (6, .int a6.2.2)]) ⟨rfl, rfl, rfl, rfl, rfl, rfl, trivial⟩ (zz_nd_of (ks := [0, 1, 2, 3, 4, 6]) rfl (by decide)) (hk13 (a6.2.2, a18) s17 hF)
          · refine j_nullrule (pc2 := 65) rfl rfl hF (fun hF => ?_) (fun hF => ?_)
            · exact j_norm (l := [(0, .ref 202), (1, .ref o1), (2, .int p2), (3, .int a6.1), (4, .long a6.2.1), (6, .int a6.2.2), (7, .long (v15.toInt64))]) ⟨rfl, rfl, rfl, rfl, rfl, rfl, rfl, trivial⟩ (zz_nd_of (ks := [0, 1, 2, 3, 4, 6, 7]) rfl (by decide)) (hk19 (v15.toInt64) s14 hF)
            · refine w_aload_n (pc2 := 66) rfl rfl rfl ?_
              refine w_aload_n (pc2 := 67) rfl rfl rfl ?_
              refine w_iload_n (pc2 := 68) rfl rfl rfl ?_
              refine w_iload (pc2 := 70) rfl rfl rfl ?_
              refine j_cVv (pc2 := 73) (k := 0) (c := zt_m44) (as := [.ref 202, .ref o1, .int p2, .int a6.2.2]) (rest := []) rfl rfl rfl rfl zk_cMill.look rfl (Nat.le_of_ble_eq_true rfl) (Nat.le_of_ble_eq_true rfl) (fun w1 h1 => ok_Mill_tellSaying ho1 h1) (by decide) rfl hF (fun s20 hF => ?_)
              refine w_aload_n (pc2 := 74) rfl rfl rfl ?_
              refine j_getrule2 (pc2 := 77) rfl rfl hF (fun j21 hj21 hF => ?_)
              refine w_aload_n (pc2 := 78) rfl rfl rfl ?_
              refine w_getfield (pc2 := 81) rfl zk_cMill rfl rfl rfl ?_
              refine w_aload_n (pc2 := 82) rfl rfl rfl ?_
              refine w_getfield (pc2 := 85) rfl zk_cMill rfl rfl rfl ?_
              refine j_cLv (pc2 := 88) (k := 1) (c := zt_m52) (as := [.ref (86 + 2 * j21), .ref 203, .ref 204]) (rest := []) rfl rfl rfl rfl (zk_cRule (zk_isR hj21)).look rfl (Nat.le_of_ble_eq_true rfl) (Nat.le_of_ble_eq_true rfl) (fun w1 h1 => ok_Rule_worth (zk_isR hj21) h1) (by decide) rfl hF (fun v23 s22 hF => ?_)
              refine w_lstore (pc2 := 90) (ls2 := [(7, .long v23), (0, .ref 202), (1, .ref o1), (2, .int p2), (3, .int a6.1), (4, .long a6.2.1), (6, .int a6.2.2)]) rfl rfl rfl ?_
              exact j_norm (l := [(0, .ref 202), (1, .ref o1), (2, .int p2), (3, .int a6.1), (4, .long a6.2.1), (6, .int a6.2.2), (7, .long v23)]) ⟨rfl, rfl, rfl, rfl, rfl, rfl, rfl, trivial⟩ (zz_nd_of (ks := [0, 1, 2, 3, 4, 6, 7]) rfl (by decide)) (hk19 v23 s22 hF)
  · refine j_nullrule (pc2 := 7) rfl rfl hF (fun hF => ?_) (fun hF => ?_)
    · exact j_norm (l := [(0, .ref 202), (1, .ref o1), (2, .int p2)]) ⟨rfl, rfl, rfl, trivial⟩ (zz_nd_of (ks := [0, 1, 2]) rfl (by decide)) (hk5 s0 hF)
    · refine w_aload_n (pc2 := 8) rfl rfl rfl ?_
      refine w_aload_n (pc2 := 9) rfl rfl rfl ?_
      refine w_iload_n (pc2 := 10) rfl rfl rfl ?_
      refine j_cVv (pc2 := 13) (k := 1) (c := zt_m43) (as := [.ref 202, .ref o1, .int p2]) (rest := []) rfl rfl rfl rfl zk_cMill.look rfl (Nat.le_of_ble_eq_true rfl) (Nat.le_of_ble_eq_true rfl) (fun w1 h1 => ok_Mill_tellPair ho1 h1) (by decide) rfl hF (fun s24 hF => ?_)
      exact j_norm (l := [(0, .ref 202), (1, .ref o1), (2, .int p2)]) ⟨rfl, rfl, rfl, trivial⟩ (zz_nd_of (ks := [0, 1, 2]) rfl (by decide)) (hk5 s24 hF)
noncomputable def f_State_anger (o1 : Nat) (p2 : Int32) (p3 : Int32) (s0 : ZS) : Option (ZS) := zrd 5 p2 (s0.1 (o1 + 1)) (fun (v4 : Int32) => zwa s0 (o1 + 1) 5 p2 ((if (v4 + p3) < (999 : Int32) then (v4 + p3) else (999 : Int32))) (fun (s5 : ZS) => some s5))
set_option maxHeartbeats 4000000 in
set_option maxRecDepth 100000 in
theorem ok_State_anger {L : Nat} {xs : Nat → Int32} {b : ZH} {o1 : Nat} {p2 : Int32} {p3 : Int32} (ho1 : zk_isState o1) {s0 : ZS} {w : ZS} (hF : f_State_anger o1 p2 p3 s0 = some w) : zz_ct zt_ms zt_nm zt_df (zt_X L xs) 0 zt_m88 [.ref o1, .int p2, .int p3] (zk b s0) (qV b w) := by
  unfold f_State_anger at hF
  change zz_wp zt_ms zt_nm zt_df (zt_X L xs) 0 zt_m88 0 [(0, .ref o1), (1, .int p2), (2, .int p3)] [] (zk b s0) (qV b w)
  refine w_aload_n (pc2 := 1) rfl rfl rfl ?_
  refine w_getfield (pc2 := 4) rfl (zk_cState ho1) rfl rfl rfl ?_
  refine w_iload_n (pc2 := 5) rfl rfl rfl ?_
  refine w_sipush (pc2 := 8) rfl rfl ?_
  refine w_aload_n (pc2 := 9) rfl rfl rfl ?_
  refine w_getfield (pc2 := 12) rfl (zk_cState ho1) rfl rfl rfl ?_
  refine w_iload_n (pc2 := 13) rfl rfl rfl ?_
  refine j_iaload (pc2 := 14) (n := 5) rfl ho1.k.2.2.1 (by omega) (by have := ho1.k.1; omega) rfl hF (fun v4 hF => ?_)
  refine w_iload_n (pc2 := 15) rfl rfl rfl ?_
  refine w_iadd (pc2 := 16) rfl rfl ?_
  refine w_min (pc2 := 19) rfl (Nat.le_of_ble_eq_true rfl) rfl ?_
  refine j_iastore (pc2 := 20) (n := 5) rfl ho1.k.2.2.1 (by omega) (by have := ho1.k.1; omega) rfl hF (fun s5 hF => ?_)
  exact j_vret rfl rfl hF
noncomputable def f_Mill_breakOut_B5 (o1 : Nat) (p2 : Int32) (a3 : Int32 × Int32) (s4 : ZS) (g5 : (Int32 × Int32) → ZS → Option (Int32 × ZS)) : Option (Int32 × ZS) := zgi (s4.1 4 3) (fun (v6 : Int32) => (if v6 ≤ a3.2 then some (a3.1, s4) else zrd 5 a3.2 (s4.1 (o1 + 1)) (fun (v7 : Int32) => zjn (A := Int32) (fun (a9 : Int32) (s8 : ZS) => g5 (a9, (a3.2 + (1 : Int32))) s8) (fun (k10 : Int32 → ZS → Option (Int32 × ZS)) => (if ((p2 >>> (a3.2 &&& (31 : Int32))) &&& (1 : Int32)) = 0 then k10 a3.1 s4 else zrd 5 a3.2 (s4.1 6) (fun (v11 : Int32) => (if v7 < v11 then k10 a3.1 s4 else zwa s4 205 5 a3.2 v7 (fun (s12 : ZS) => zgi (s12.1 o1 1) (fun (v13 : Int32) => zwi s12 o1 1 ((v13 + (1 : Int32))) (fun (s14 : ZS) => zwa s14 (o1 + 3) 5 a3.2 v7 (fun (s15 : ZS) => zgi (s15.1 4 1) (fun (v16 : Int32) => zwa s15 (o1 + 2) 5 a3.2 (if v16 < v7 then v16 else v7) (fun (s17 : ZS) => zwa s17 (o1 + 1) 5 a3.2 (0 : Int32) (fun (s18 : ZS) => k10 (a3.1 ||| ((1 : Int32) <<< (a3.2 &&& (31 : Int32)))) s18))))))))))))))
noncomputable def f_Mill_breakOut (o1 : Nat) (p2 : Int32) (s0 : ZS) : Option (Int32 × ZS) := zlp zN (f_Mill_breakOut_B5 o1 p2) ((0 : Int32), (0 : Int32)) s0
set_option maxHeartbeats 4000000 in
set_option maxRecDepth 100000 in
theorem ok_Mill_breakOut {L : Nat} {xs : Nat → Int32} {b : ZH} {o1 : Nat} {p2 : Int32} (ho1 : zk_isState o1) {s0 : ZS} {w : Int32 × ZS} (hF : f_Mill_breakOut o1 p2 s0 = some w) : zz_ct zt_ms zt_nm zt_df (zt_X L xs) 0 zt_m46 [.ref 202, .ref o1, .int p2] (zk b s0) (qI b w) := by
  unfold f_Mill_breakOut at hF
  change zz_wp zt_ms zt_nm zt_df (zt_X L xs) 0 zt_m46 0 [(0, .ref 202), (1, .ref o1), (2, .int p2)] [] (zk b s0) (qI b w)
  refine w_iconst (pc2 := 1) rfl rfl ?_
  refine w_istore_n (pc2 := 2) (ls2 := [(3, .int (0 : Int32)), (0, .ref 202), (1, .ref o1), (2, .int p2)]) rfl rfl rfl ?_
  refine w_iconst (pc2 := 3) rfl rfl ?_
  refine w_istore (pc2 := 5) (ls2 := [(4, .int (0 : Int32)), (3, .int (0 : Int32)), (0, .ref 202), (1, .ref o1), (2, .int p2)]) rfl rfl rfl ?_
  refine j_norm (l := [(0, .ref 202), (1, .ref o1), (2, .int p2), (3, .int (0 : Int32)), (4, .int (0 : Int32))]) ⟨rfl, rfl, rfl, rfl, rfl, trivial⟩ (zz_nd_of (ks := [0, 1, 2, 3, 4]) rfl (by decide)) ?_
  refine j_loop (P := fun (a3 : Int32 × Int32) (s4 : ZS) => zz_wp zt_ms zt_nm zt_df (zt_X L xs) 0 zt_m46 5 [(0, .ref 202), (1, .ref o1), (2, .int p2), (3, .int a3.1), (4, .int a3.2)] [] (zk b s4) (qI b w)) hF (fun a3 s4 g5 hg5 hF => ?_)
  unfold f_Mill_breakOut_B5 at hF
  refine w_iload (pc2 := 7) rfl rfl rfl ?_
  refine w_aload_n (pc2 := 8) rfl rfl rfl ?_
  refine w_getfield (pc2 := 11) rfl zk_cMill rfl rfl rfl ?_
  refine j_geti (pc2 := 14) rfl (zk_cSmithy zk_sm4) rfl rfl rfl hF (fun v6 hF => ?_)
  refine j_icmp_ge (pc2 := 17) rfl rfl hF (fun hF => ?_) (fun hF => ?_)
  · refine w_iload_n (pc2 := 119) rfl rfl rfl ?_
    exact j_iret rfl rfl hF
  · refine w_aload_n (pc2 := 18) rfl rfl rfl ?_
    refine w_getfield (pc2 := 21) rfl (zk_cState ho1) rfl rfl rfl ?_
    refine w_iload (pc2 := 23) rfl rfl rfl ?_
    refine j_iaload (pc2 := 24) (n := 5) rfl ho1.k.2.2.1 (by omega) (by have := ho1.k.1; omega) rfl hF (fun v7 hF => ?_)
    refine w_istore (pc2 := 26) (ls2 := [(5, .int v7), (0, .ref 202), (1, .ref o1), (2, .int p2), (3, .int a3.1), (4, .int a3.2)]) rfl rfl rfl ?_
    refine w_iload_n (pc2 := 27) rfl rfl rfl ?_
    refine w_iload (pc2 := 29) rfl rfl rfl ?_
    refine w_ishr (pc2 := 30) rfl rfl ?_
    refine w_iconst (pc2 := 31) rfl rfl ?_
    refine w_iand (pc2 := 32) rfl rfl ?_
    refine j_join (P := fun (a9 : Int32) (s8 : ZS) => zz_wp zt_ms zt_nm zt_df (zt_X L xs) 0 zt_m46 112 [(0, .ref 202), (1, .ref o1), (2, .int p2), (3, .int a9), (4, .int a3.2)] [] (zk b s8) (qI b w)) hF (fun a9 s8 hF => ?_) (fun k10 hk10 hF => ?_)
    · refine w_iinc (pc2 := 115) (ls2 := [(4, .int ((a3.2 + (1 : Int32)))), (0, .ref 202), (1, .ref o1), (2, .int p2), (3, .int a9)]) rfl rfl rfl rfl ?_
      refine w_goto rfl ?_
      exact j_norm (l := [(0, .ref 202), (1, .ref o1), (2, .int p2), (3, .int a9), (4, .int ((a3.2 + (1 : Int32))))]) ⟨rfl, rfl, rfl, rfl, rfl, trivial⟩ (zz_nd_of (ks := [0, 1, 2, 3, 4]) rfl (by decide)) (hg5 (a9, (a3.2 + (1 : Int32))) s8 hF)
    · refine j_if_eq (pc2 := 35) rfl rfl hF (fun hF => ?_) (fun hF => ?_)
      · exact j_norm (l := [(0, .ref 202), (1, .ref o1), (2, .int p2), (3, .int a3.1), (4, .int a3.2)]) ⟨rfl, rfl, rfl, rfl, rfl, trivial⟩ (zz_nd_of (ks := [0, 1, 2, 3, 4]) rfl (by decide)) (hk10 a3.1 s4 hF)
      · refine w_iload (pc2 := 37) rfl rfl rfl ?_
        refine w_aload_n (pc2 := 38) rfl rfl rfl ?_
        refine w_getfield (pc2 := 41) rfl zk_cMill rfl rfl rfl ?_
        refine w_getfield (pc2 := 44) rfl (zk_cSmithy zk_sm4) rfl rfl rfl ?_
        refine w_iload (pc2 := 46) rfl rfl rfl ?_
        refine j_iaload (pc2 := 47) (n := 5) rfl rfl (by omega) (by decide) rfl hF (fun v11 hF => ?_)
        refine j_icmp_lt (pc2 := 50) rfl rfl hF (fun hF => ?_) (fun hF => ?_)
        · exact j_norm (l := [(0, .ref 202), (1, .ref o1), (2, .int p2), (3, .int a3.1), (4, .int a3.2)]) ⟨rfl, rfl, rfl, rfl, rfl, trivial⟩ (zz_nd_of (ks := [0, 1, 2, 3, 4]) rfl (by decide)) (hk10 a3.1 s4 hF)
        · refine w_iload_n (pc2 := 51) rfl rfl rfl ?_
          refine w_iconst (pc2 := 52) rfl rfl ?_
          refine w_iload (pc2 := 54) rfl rfl rfl ?_
          refine w_ishl (pc2 := 55) rfl rfl ?_
          refine w_ior (pc2 := 56) rfl rfl ?_
          refine w_istore_n (pc2 := 57) (ls2 := [(3, .int ((a3.1 ||| ((1 : Int32) <<< (a3.2 &&& (31 : Int32)))))), (5, .int v7), (0, .ref 202), (1, .ref o1), (2, .int p2), (4, .int a3.2)]) rfl rfl rfl ?_
          refine w_aload_n (pc2 := 58) rfl rfl rfl ?_
          refine w_getfield (pc2 := 61) rfl zk_cMill rfl rfl rfl ?_
          refine w_iload (pc2 := 63) rfl rfl rfl ?_
          refine w_iload (pc2 := 65) rfl rfl rfl ?_
          refine j_iastore (pc2 := 66) (n := 5) rfl rfl (by omega) (by decide) rfl hF (fun s12 hF => ?_)
          refine w_aload_n (pc2 := 67) rfl rfl rfl ?_
          refine w_dup (pc2 := 68) rfl rfl rfl ?_
          refine j_geti (pc2 := 71) rfl (zk_cState ho1) rfl rfl rfl hF (fun v13 hF => ?_)
          refine w_iconst (pc2 := 72) rfl rfl ?_
          refine w_iadd (pc2 := 73) rfl rfl ?_
          refine j_puti (pc2 := 76) (j := 1) rfl (zk_cState ho1) rfl (Nat.le_of_ble_eq_true rfl) rfl (zk_wState_1 ho1) (by have := ho1.k.1; omega) rfl hF (fun s14 hF => ?_)
          refine w_aload_n (pc2 := 77) rfl rfl rfl ?_
          refine w_getfield (pc2 := 80) rfl (zk_cState ho1) rfl rfl rfl ?_
          refine w_iload (pc2 := 82) rfl rfl rfl ?_
          refine w_iload (pc2 := 84) rfl rfl rfl ?_
          refine j_iastore (pc2 := 85) (n := 5) rfl ho1.k.2.2.2.2.1 (by omega) (by have := ho1.k.1; omega) rfl hF (fun s15 hF => ?_)
          refine w_aload_n (pc2 := 86) rfl rfl rfl ?_
          refine w_getfield (pc2 := 89) rfl (zk_cState ho1) rfl rfl rfl ?_
          refine w_iload (pc2 := 91) rfl rfl rfl ?_
          refine w_iload (pc2 := 93) rfl rfl rfl ?_
          refine w_aload_n (pc2 := 94) rfl rfl rfl ?_
          refine w_getfield (pc2 := 97) rfl zk_cMill rfl rfl rfl ?_
          refine j_geti (pc2 := 100) rfl (zk_cSmithy zk_sm4) rfl rfl rfl hF (fun v16 hF => ?_)
          refine w_min (pc2 := 103) rfl (Nat.le_of_ble_eq_true rfl) rfl ?_
          refine j_iastore (pc2 := 104) (n := 5) rfl ho1.k.2.2.2.1 (by omega) (by have := ho1.k.1; omega) rfl hF (fun s17 hF => ?_)
          refine w_aload_n (pc2 := 105) rfl rfl rfl ?_
          refine w_getfield (pc2 := 108) rfl (zk_cState ho1) rfl rfl rfl ?_
          refine w_iload (pc2 := 110) rfl rfl rfl ?_
          refine w_iconst (pc2 := 111) rfl rfl ?_
          refine j_iastore (pc2 := 112) (n := 5) rfl ho1.k.2.2.1 (by omega) (by have := ho1.k.1; omega) rfl hF (fun s18 hF => ?_)
          exact j_norm (l := [(0, .ref 202), (1, .ref o1), (2, .int p2), (3, .int ((a3.1 ||| ((1 : Int32) <<< (a3.2 &&& (31 : Int32)))))), (4, .int a3.2)]) ⟨rfl, rfl, rfl, rfl, rfl, trivial⟩ (zz_nd_of (ks := [0, 1, 2, 3, 4]) rfl (by decide)) (hk10 (a3.1 ||| ((1 : Int32) <<< (a3.2 &&& (31 : Int32)))) s18 hF)
noncomputable def f_Mill_utter_B71 (o1 : Nat) (p3 : Int32) (a14 : Int32) (k17 : ZS → Option (Int32 × ZS)) (a20 : Int32) (s21 : ZS) (g22 : Int32 → ZS → Option (Int32 × ZS)) : Option (Int32 × ZS) := zgi (s21.1 4 3) (fun (v23 : Int32) => (if v23 ≤ a20 then k17 s21 else zj0 (fun (s24 : ZS) => g22 (a20 + (1 : Int32)) s24) (fun (k25 : ZS → Option (Int32 × ZS)) => (if ((a14 >>> (a20 &&& (31 : Int32))) &&& (1 : Int32)) = 0 then k25 s21 else zrd 6 p3 (s21.1 8) (fun (v26 : Int32) => zcv (f_State_anger o1 a20 ((v26 / (2 : Int32))) s21) (fun (s27 : ZS) => k25 s27))))))
noncomputable def f_Mill_utter (o1 : Nat) (p2 : Int32) (p3 : Int32) (s0 : ZS) : Option (Int32 × ZS) := zcl (f_Smithy_weight 4 p2 p3 s0) (fun (v5 : Int32) (s4 : ZS) => zcv (f_State_anger o1 p2 v5 s4) (fun (s6 : ZS) => zrd 30 (((p2 * (6 : Int32)) + p3)) (s6.1 (o1 + 4)) (fun (v7 : Int32) => zwa s6 (o1 + 4) 30 (((p2 * (6 : Int32)) + p3)) ((v7 + (1 : Int32))) (fun (s8 : ZS) => zrd 5 p2 (s8.1 7) (fun (v9 : Int32) => zcl (f_State_banded o1 s8) (fun (v11 : Int32) (s10 : ZS) => zgi (s10.1 202 7) (fun (v12 : Int32) => zjn (A := Int32) (fun (a14 : Int32) (s13 : ZS) => zj0 (fun (s16 : ZS) => zcl (f_Mill_breakOut o1 ((a14 ||| ((1 : Int32) <<< (p2 &&& (31 : Int32))))) s16) (fun (v19 : Int32) (s18 : ZS) => some (v19, s18))) (fun (k17 : ZS → Option (Int32 × ZS)) => zlp zN (f_Mill_utter_B71 o1 p3 a14 k17) (0 : Int32) s13)) (fun (k15 : Int32 → ZS → Option (Int32 × ZS)) => (if v12 = (-1 : Int32) then k15 (v9 &&& (v11 ^^^ (-1 : Int32))) s10 else zgi (s10.1 202 7) (fun (v28 : Int32) => k15 ((v9 &&& (v11 ^^^ (-1 : Int32))) &&& (((1 : Int32) <<< (v28 &&& (31 : Int32))) ^^^ (-1 : Int32))) s10))))))))))
set_option maxHeartbeats 4000000 in
set_option maxRecDepth 100000 in
theorem ok_Mill_utter {L : Nat} {xs : Nat → Int32} {b : ZH} {o1 : Nat} {p2 : Int32} {p3 : Int32} (ho1 : zk_isState o1) {s0 : ZS} {w : Int32 × ZS} (hF : f_Mill_utter o1 p2 p3 s0 = some w) : zz_ct zt_ms zt_nm zt_df (zt_X L xs) 1 zt_m45 [.ref 202, .ref o1, .int p2, .int p3] (zk b s0) (qI b w) := by
  unfold f_Mill_utter at hF
  change zz_wp zt_ms zt_nm zt_df (zt_X L xs) 1 zt_m45 0 [(0, .ref 202), (1, .ref o1), (2, .int p2), (3, .int p3)] [] (zk b s0) (qI b w)
  refine w_aload_n (pc2 := 1) rfl rfl rfl ?_
  refine w_iload_n (pc2 := 2) rfl rfl rfl ?_
  refine w_aload_n (pc2 := 3) rfl rfl rfl ?_
  refine w_getfield (pc2 := 6) rfl zk_cMill rfl rfl rfl ?_
  refine w_iload_n (pc2 := 7) rfl rfl rfl ?_
  refine w_iload_n (pc2 := 8) rfl rfl rfl ?_
  refine j_cIv (pc2 := 11) (k := 0) (c := zt_m81) (as := [.ref 4, .int p2, .int p3]) (rest := [.int p2, .ref o1]) rfl rfl rfl rfl (zk_cSmithy zk_sm4).look rfl (Nat.le_of_ble_eq_true rfl) (Nat.le_of_ble_eq_true rfl) (fun w1 h1 => ok_Smithy_weight zk_sm4 h1) (by decide) rfl hF (fun v5 s4 hF => ?_)
  refine j_cVv (pc2 := 14) (k := 0) (c := zt_m88) (as := [.ref o1, .int p2, .int v5]) (rest := []) rfl rfl rfl rfl (zk_cState ho1).look rfl (Nat.le_of_ble_eq_true rfl) (Nat.le_of_ble_eq_true rfl) (fun w1 h1 => ok_State_anger ho1 h1) (by decide) rfl hF (fun s6 hF => ?_)
  refine w_aload_n (pc2 := 15) rfl rfl rfl ?_
  refine w_getfield (pc2 := 18) rfl (zk_cState ho1) rfl rfl rfl ?_
  refine w_iload_n (pc2 := 19) rfl rfl rfl ?_
  refine w_bipush (pc2 := 21) rfl rfl ?_
  refine w_imul (pc2 := 22) rfl rfl ?_
  refine w_iload_n (pc2 := 23) rfl rfl rfl ?_
  refine w_iadd (pc2 := 24) rfl rfl ?_
  refine w_dup2 (pc2 := 25) rfl rfl rfl rfl ?_
  refine j_iaload (pc2 := 26) (n := 30) rfl ho1.k.2.2.2.2.2 (by omega) (by have := ho1.k.1; omega) rfl hF (fun v7 hF => ?_)
  refine w_iconst (pc2 := 27) rfl rfl ?_
  refine w_iadd (pc2 := 28) rfl rfl ?_
  refine j_iastore (pc2 := 29) (n := 30) rfl ho1.k.2.2.2.2.2 (by omega) (by have := ho1.k.1; omega) rfl hF (fun s8 hF => ?_)
  refine w_aload_n (pc2 := 30) rfl rfl rfl ?_
  refine w_getfield (pc2 := 33) rfl zk_cMill rfl rfl rfl ?_
  refine w_getfield (pc2 := 36) rfl (zk_cSmithy zk_sm4) rfl rfl rfl ?_
  refine w_iload_n (pc2 := 37) rfl rfl rfl ?_
  refine j_iaload (pc2 := 38) (n := 5) rfl rfl (by omega) (by decide) rfl hF (fun v9 hF => ?_)
  refine w_aload_n (pc2 := 39) rfl rfl rfl ?_
  refine j_cIv (pc2 := 42) (k := 0) (c := zt_m85) (as := [.ref o1]) (rest := [.int v9]) rfl rfl rfl rfl (zk_cState ho1).look rfl (Nat.le_of_ble_eq_true rfl) (Nat.le_of_ble_eq_true rfl) (fun w1 h1 => ok_State_banded ho1 h1) (by decide) rfl hF (fun v11 s10 hF => ?_)
  refine w_iconst (pc2 := 43) rfl rfl ?_
  refine w_ixor (pc2 := 44) rfl rfl ?_
  refine w_iand (pc2 := 45) rfl rfl ?_
  refine w_istore (pc2 := 47) (ls2 := [(4, .int ((v9 &&& (v11 ^^^ (-1 : Int32))))), (0, .ref 202), (1, .ref o1), (2, .int p2), (3, .int p3)]) rfl rfl rfl ?_
  refine w_aload_n (pc2 := 48) rfl rfl rfl ?_
  refine j_geti (pc2 := 51) rfl zk_cMill rfl rfl rfl hF (fun v12 hF => ?_)
  refine w_iconst (pc2 := 52) rfl rfl ?_
  refine j_join (P := fun (a14 : Int32) (s13 : ZS) => zz_wp zt_ms zt_nm zt_df (zt_X L xs) 1 zt_m45 68 [(0, .ref 202), (1, .ref o1), (2, .int p2), (3, .int p3), (4, .int a14)] [] (zk b s13) (qI b w)) hF (fun a14 s13 hF => ?_) (fun k15 hk15 hF => ?_)
  · refine w_iconst (pc2 := 69) rfl rfl ?_
    refine w_istore (pc2 := 71) (ls2 := [(5, .int (0 : Int32)), (0, .ref 202), (1, .ref o1), (2, .int p2), (3, .int p3), (4, .int a14)]) rfl rfl rfl ?_
    refine j_join0 (P := fun (s16 : ZS) => zz_wp zt_ms zt_nm zt_df (zt_X L xs) 1 zt_m45 116 [(0, .ref 202), (1, .ref o1), (2, .int p2), (4, .int a14)] [] (zk b s16) (qI b w)) hF (fun s16 hF => ?_) (fun k17 hk17 hF => ?_)
    · refine w_aload_n (pc2 := 117) rfl rfl rfl ?_
      refine w_aload_n (pc2 := 118) rfl rfl rfl ?_
      refine w_iload (pc2 := 120) rfl rfl rfl ?_
      refine w_iconst (pc2 := 121) rfl rfl ?_
      refine w_iload_n (pc2 := 122) rfl rfl rfl ?_
      refine w_ishl (pc2 := 123) rfl rfl ?_
      refine w_ior (pc2 := 124) rfl rfl ?_
      refine j_cIv (pc2 := 127) (k := 0) (c := zt_m46) (as := [.ref 202, .ref o1, .int ((a14 ||| ((1 : Int32) <<< (p2 &&& (31 : Int32)))))]) (rest := []) rfl rfl rfl rfl zk_cMill.look rfl (Nat.le_of_ble_eq_true rfl) (Nat.le_of_ble_eq_true rfl) (fun w1 h1 => ok_Mill_breakOut ho1 h1) (by decide) rfl hF (fun v19 s18 hF => ?_)
      exact j_iret rfl rfl hF
    · refine j_norm (l := [(0, .ref 202), (1, .ref o1), (2, .int p2), (3, .int p3), (4, .int a14), (5, .int (0 : Int32))]) ⟨rfl, rfl, rfl, rfl, rfl, rfl, trivial⟩ (zz_nd_of (ks := [0, 1, 2, 3, 4, 5]) rfl (by decide)) ?_
      refine j_loop (P := fun (a20 : Int32) (s21 : ZS) => zz_wp zt_ms zt_nm zt_df (zt_X L xs) 1 zt_m45 71 [(0, .ref 202), (1, .ref o1), (2, .int p2), (3, .int p3), (4, .int a14), (5, .int a20)] [] (zk b s21) (qI b w)) hF (fun a20 s21 g22 hg22 hF => ?_)
      unfold f_Mill_utter_B71 at hF
      refine w_iload (pc2 := 73) rfl rfl rfl ?_
      refine w_aload_n (pc2 := 74) rfl rfl rfl ?_
      refine w_getfield (pc2 := 77) rfl zk_cMill rfl rfl rfl ?_
      refine j_geti (pc2 := 80) rfl (zk_cSmithy zk_sm4) rfl rfl rfl hF (fun v23 hF => ?_)
      refine j_icmp_ge (pc2 := 83) rfl rfl hF (fun hF => ?_) (fun hF => ?_)
      · exact j_norm (l := [(0, .ref 202), (1, .ref o1), (2, .int p2), (4, .int a14)]) ⟨rfl, rfl, rfl, rfl, trivial⟩ (zz_nd_of (ks := [0, 1, 2, 4]) rfl (by decide)) (hk17 s21 hF)
      · refine w_iload (pc2 := 85) rfl rfl rfl ?_
        refine w_iload (pc2 := 87) rfl rfl rfl ?_
        refine w_ishr (pc2 := 88) rfl rfl ?_
        refine w_iconst (pc2 := 89) rfl rfl ?_
        refine w_iand (pc2 := 90) rfl rfl ?_
        refine j_join0 (P := fun (s24 : ZS) => zz_wp zt_ms zt_nm zt_df (zt_X L xs) 1 zt_m45 110 [(0, .ref 202), (1, .ref o1), (2, .int p2), (3, .int p3), (4, .int a14), (5, .int a20)] [] (zk b s24) (qI b w)) hF (fun s24 hF => ?_) (fun k25 hk25 hF => ?_)
        · refine w_iinc (pc2 := 113) (ls2 := [(5, .int ((a20 + (1 : Int32)))), (0, .ref 202), (1, .ref o1), (2, .int p2), (3, .int p3), (4, .int a14)]) rfl rfl rfl rfl ?_
          refine w_goto rfl ?_
          exact j_norm (l := [(0, .ref 202), (1, .ref o1), (2, .int p2), (3, .int p3), (4, .int a14), (5, .int ((a20 + (1 : Int32))))]) ⟨rfl, rfl, rfl, rfl, rfl, rfl, trivial⟩ (zz_nd_of (ks := [0, 1, 2, 3, 4, 5]) rfl (by decide)) (hg22 (a20 + (1 : Int32)) s24 hF)
        · refine j_if_eq (pc2 := 93) rfl rfl hF (fun hF => ?_) (fun hF => ?_)
          · exact j_norm (l := [(0, .ref 202), (1, .ref o1), (2, .int p2), (3, .int p3), (4, .int a14), (5, .int a20)]) ⟨rfl, rfl, rfl, rfl, rfl, rfl, trivial⟩ (zz_nd_of (ks := [0, 1, 2, 3, 4, 5]) rfl (by decide)) (hk25 s21 hF)
          · refine w_aload_n (pc2 := 94) rfl rfl rfl ?_
            refine w_iload (pc2 := 96) rfl rfl rfl ?_
            refine w_aload_n (pc2 := 97) rfl rfl rfl ?_
            refine w_getfield (pc2 := 100) rfl zk_cMill rfl rfl rfl ?_
            refine w_getfield (pc2 := 103) rfl (zk_cSmithy zk_sm4) rfl rfl rfl ?_
            refine w_iload_n (pc2 := 104) rfl rfl rfl ?_
            refine j_iaload (pc2 := 105) (n := 6) rfl rfl (by omega) (by decide) rfl hF (fun v26 hF => ?_)
            refine w_iconst (pc2 := 106) rfl rfl ?_
            refine w_idiv (pc2 := 107) rfl (by decide) rfl ?_
            refine j_cVv (pc2 := 110) (k := 0) (c := zt_m88) (as := [.ref o1, .int a20, .int ((v26 / (2 : Int32)))]) (rest := []) rfl rfl rfl rfl (zk_cState ho1).look rfl (Nat.le_of_ble_eq_true rfl) (Nat.le_of_ble_eq_true rfl) (fun w1 h1 => ok_State_anger ho1 h1) (by decide) rfl hF (fun s27 hF => ?_)
            exact j_norm (l := [(0, .ref 202), (1, .ref o1), (2, .int p2), (3, .int p3), (4, .int a14), (5, .int a20)]) ⟨rfl, rfl, rfl, rfl, rfl, rfl, trivial⟩ (zz_nd_of (ks := [0, 1, 2, 3, 4, 5]) rfl (by decide)) (hk25 s27 hF)
  · refine j_icmp_eq (pc2 := 55) rfl rfl hF (fun hF => ?_) (fun hF => ?_)
    · exact j_norm (l := [(0, .ref 202), (1, .ref o1), (2, .int p2), (3, .int p3), (4, .int ((v9 &&& (v11 ^^^ (-1 : Int32)))))]) ⟨rfl, rfl, rfl, rfl, rfl, trivial⟩ (zz_nd_of (ks := [0, 1, 2, 3, 4]) rfl (by decide)) (hk15 (v9 &&& (v11 ^^^ (-1 : Int32))) s10 hF)
    · refine w_iload (pc2 := 57) rfl rfl rfl ?_
      refine w_iconst (pc2 := 58) rfl rfl ?_
      refine w_aload_n (pc2 := 59) rfl rfl rfl ?_
      refine j_geti (pc2 := 62) rfl zk_cMill rfl rfl rfl hF (fun v28 hF => ?_)
      refine w_ishl (pc2 := 63) rfl rfl ?_
      refine w_iconst (pc2 := 64) rfl rfl ?_
      refine w_ixor (pc2 := 65) rfl rfl ?_
      refine w_iand (pc2 := 66) rfl rfl ?_
      refine w_istore (pc2 := 68) (ls2 := [(4, .int (((v9 &&& (v11 ^^^ (-1 : Int32))) &&& (((1 : Int32) <<< (v28 &&& (31 : Int32))) ^^^ (-1 : Int32))))), (0, .ref 202), (1, .ref o1), (2, .int p2), (3, .int p3)]) rfl rfl rfl ?_
      exact j_norm (l := [(0, .ref 202), (1, .ref o1), (2, .int p2), (3, .int p3), (4, .int (((v9 &&& (v11 ^^^ (-1 : Int32))) &&& (((1 : Int32) <<< (v28 &&& (31 : Int32))) ^^^ (-1 : Int32)))))]) ⟨rfl, rfl, rfl, rfl, rfl, trivial⟩ (zz_nd_of (ks := [0, 1, 2, 3, 4]) rfl (by decide)) (hk15 ((v9 &&& (v11 ^^^ (-1 : Int32))) &&& (((1 : Int32) <<< (v28 &&& (31 : Int32))) ^^^ (-1 : Int32))) s10 hF)
noncomputable def f_Mill_wearBand (o1 : Nat) (p2 : Int32) (s0 : ZS) : Option (ZS) := zrd 5 p2 (s0.1 (o1 + 2)) (fun (v3 : Int32) => zgi (s0.1 4 2) (fun (v4 : Int32) => zwa s0 (o1 + 2) 5 p2 ((if (0 : Int32) < (v3 - v4) then (v3 - v4) else (0 : Int32))) (fun (s5 : ZS) => zrd 5 p2 (s5.1 (o1 + 2)) (fun (v6 : Int32) => (if ¬ v6 = 0 then some s5 else zwa s5 (o1 + 3) 5 p2 (0 : Int32) (fun (s7 : ZS) => some s7))))))
set_option maxHeartbeats 4000000 in
set_option maxRecDepth 100000 in
theorem ok_Mill_wearBand {L : Nat} {xs : Nat → Int32} {b : ZH} {o1 : Nat} {p2 : Int32} (ho1 : zk_isState o1) {s0 : ZS} {w : ZS} (hF : f_Mill_wearBand o1 p2 s0 = some w) : zz_ct zt_ms zt_nm zt_df (zt_X L xs) 0 zt_m47 [.ref 202, .ref o1, .int p2] (zk b s0) (qV b w) := by
  unfold f_Mill_wearBand at hF
  change zz_wp zt_ms zt_nm zt_df (zt_X L xs) 0 zt_m47 0 [(0, .ref 202), (1, .ref o1), (2, .int p2)] [] (zk b s0) (qV b w)
  refine w_aload_n (pc2 := 1) rfl rfl rfl ?_
  refine w_getfield (pc2 := 4) rfl (zk_cState ho1) rfl rfl rfl ?_
  refine w_iload_n (pc2 := 5) rfl rfl rfl ?_
  refine w_iconst (pc2 := 6) rfl rfl ?_
  refine w_aload_n (pc2 := 7) rfl rfl rfl ?_
  refine w_getfield (pc2 := 10) rfl (zk_cState ho1) rfl rfl rfl ?_
  refine w_iload_n (pc2 := 11) rfl rfl rfl ?_
  refine j_iaload (pc2 := 12) (n := 5) rfl ho1.k.2.2.2.1 (by omega) (by have := ho1.k.1; omega) rfl hF (fun v3 hF => ?_)
  refine w_aload_n (pc2 := 13) rfl rfl rfl ?_
  refine w_getfield (pc2 := 16) rfl zk_cMill rfl rfl rfl ?_
  refine j_geti (pc2 := 19) rfl (zk_cSmithy zk_sm4) rfl rfl rfl hF (fun v4 hF => ?_)
  refine w_isub (pc2 := 20) rfl rfl ?_
  refine w_max (pc2 := 23) rfl (Nat.le_of_ble_eq_true rfl) rfl ?_
  refine j_iastore (pc2 := 24) (n := 5) rfl ho1.k.2.2.2.1 (by omega) (by have := ho1.k.1; omega) rfl hF (fun s5 hF => ?_)
  refine w_aload_n (pc2 := 25) rfl rfl rfl ?_
  refine w_getfield (pc2 := 28) rfl (zk_cState ho1) rfl rfl rfl ?_
  refine w_iload_n (pc2 := 29) rfl rfl rfl ?_
  refine j_iaload (pc2 := 30) (n := 5) rfl ho1.k.2.2.2.1 (by omega) (by have := ho1.k.1; omega) rfl hF (fun v6 hF => ?_)
  refine j_if_ne (pc2 := 33) rfl rfl hF (fun hF => ?_) (fun hF => ?_)
  · exact j_vret rfl rfl hF
  · refine w_aload_n (pc2 := 34) rfl rfl rfl ?_
    refine w_getfield (pc2 := 37) rfl (zk_cState ho1) rfl rfl rfl ?_
    refine w_iload_n (pc2 := 38) rfl rfl rfl ?_
    refine w_iconst (pc2 := 39) rfl rfl ?_
    refine j_iastore (pc2 := 40) (n := 5) rfl ho1.k.2.2.2.2.1 (by omega) (by have := ho1.k.1; omega) rfl hF (fun s7 hF => ?_)
    exact j_vret rfl rfl hF
noncomputable def f_Mill_passDay_B84 (o1 : Nat) (a7 : Int32) (k10 : ZS → Option (Int32 × ZS)) (a13 : Int32) (s14 : ZS) (g15 : Int32 → ZS → Option (Int32 × ZS)) : Option (Int32 × ZS) := zgi (s14.1 4 3) (fun (v16 : Int32) => (if v16 ≤ a13 then k10 s14 else zj0 (fun (s17 : ZS) => zrd 5 a13 (s17.1 (o1 + 1)) (fun (v19 : Int32) => zj0 (fun (s20 : ZS) => g15 (a13 + (1 : Int32)) s20) (fun (k21 : ZS → Option (Int32 × ZS)) => (if v19 ≤ 0 then k21 s17 else zrd 5 a13 (s17.1 (o1 + 1)) (fun (v22 : Int32) => zwa s17 (o1 + 1) 5 a13 ((v22 - (1 : Int32))) (fun (s23 : ZS) => k21 s23)))))) (fun (k18 : ZS → Option (Int32 × ZS)) => (if a7 = 0 then k18 s14 else zrd 5 a13 (s14.1 (o1 + 2)) (fun (v24 : Int32) => (if v24 ≤ 0 then k18 s14 else zcv (f_Mill_wearBand o1 a13 s14) (fun (s25 : ZS) => k18 s25)))))))
noncomputable def f_Mill_passDay_B4 (o1 : Nat) (k4 : Int32 → ZS → Option (Int32 × ZS)) (a26 : Int32 × Int32) (s27 : ZS) (g28 : (Int32 × Int32) → ZS → Option (Int32 × ZS)) : Option (Int32 × ZS) := zgi (s27.1 4 3) (fun (v29 : Int32) => (if v29 ≤ a26.2 then k4 a26.1 s27 else zrd 5 a26.2 (s27.1 (o1 + 2)) (fun (v30 : Int32) => zjn (A := Int32) (fun (a32 : Int32) (s31 : ZS) => g28 (a32, (a26.2 + (1 : Int32))) s31) (fun (k33 : Int32 → ZS → Option (Int32 × ZS)) => (if ¬ v30 = 0 then k33 a26.1 s27 else zgi (s27.1 202 7) (fun (v34 : Int32) => (if a26.2 = v34 then k33 a26.1 s27 else zcl (f_Mill_chosen o1 a26.2 s27) (fun (v36 : Int32) (s35 : ZS) => (if v36 = (-1 : Int32) then k33 a26.1 s35 else zcl (f_Mill_utter o1 a26.2 v36 s35) (fun (v38 : Int32) (s37 : ZS) => k33 (a26.1 ||| v38) s37))))))))))
noncomputable def f_Mill_passDay (o1 : Nat) (s0 : ZS) : Option (Int32 × ZS) := zjn (A := Int32) (fun (a3 : Int32) (s2 : ZS) => zgi (s2.1 o1 0) (fun (v5 : Int32) => zjn (A := Int32) (fun (a7 : Int32) (s6 : ZS) => zj0 (fun (s9 : ZS) => zgi (s9.1 o1 0) (fun (v11 : Int32) => zwi s9 o1 0 ((v11 + (1 : Int32))) (fun (s12 : ZS) => some (a3, s12)))) (fun (k10 : ZS → Option (Int32 × ZS)) => zlp zN (f_Mill_passDay_B84 o1 a7 k10) (0 : Int32) s6)) (fun (k8 : Int32 → ZS → Option (Int32 × ZS)) => (if ¬ (v5 - v5 / (10 : Int32) * (10 : Int32)) = (9 : Int32) then k8 (0 : Int32) s2 else k8 (1 : Int32) s2)))) (fun (k4 : Int32 → ZS → Option (Int32 × ZS)) => zlp zN (f_Mill_passDay_B4 o1 k4) ((0 : Int32), (0 : Int32)) s0)
set_option maxHeartbeats 4000000 in
set_option maxRecDepth 100000 in
theorem ok_Mill_passDay {L : Nat} {xs : Nat → Int32} {b : ZH} {o1 : Nat} (ho1 : zk_isState o1) {s0 : ZS} {w : Int32 × ZS} (hF : f_Mill_passDay o1 s0 = some w) : zz_ct zt_ms zt_nm zt_df (zt_X L xs) 3 zt_m41 [.ref 202, .ref o1] (zk b s0) (qI b w) := by
  unfold f_Mill_passDay at hF
  change zz_wp zt_ms zt_nm zt_df (zt_X L xs) 3 zt_m41 0 [(0, .ref 202), (1, .ref o1)] [] (zk b s0) (qI b w)
  refine w_iconst (pc2 := 1) rfl rfl ?_
  refine w_istore_n (pc2 := 2) (ls2 := [(2, .int (0 : Int32)), (0, .ref 202), (1, .ref o1)]) rfl rfl rfl ?_
  refine w_iconst (pc2 := 3) rfl rfl ?_
  refine w_istore_n (pc2 := 4) (ls2 := [(3, .int (0 : Int32)), (2, .int (0 : Int32)), (0, .ref 202), (1, .ref o1)]) rfl rfl rfl ?_
  refine j_join (P := fun (a3 : Int32) (s2 : ZS) => zz_wp zt_ms zt_nm zt_df (zt_X L xs) 3 zt_m41 63 [(0, .ref 202), (1, .ref o1), (2, .int a3)] [] (zk b s2) (qI b w)) hF (fun a3 s2 hF => ?_) (fun k4 hk4 hF => ?_)
  · refine w_aload_n (pc2 := 64) rfl rfl rfl ?_
    refine j_geti (pc2 := 67) rfl (zk_cState ho1) rfl rfl rfl hF (fun v5 hF => ?_)
    refine w_bipush (pc2 := 69) rfl rfl ?_
    refine w_irem (pc2 := 70) rfl (by decide) rfl ?_
    refine w_bipush (pc2 := 72) rfl rfl ?_
    refine j_join (P := fun (a7 : Int32) (s6 : ZS) => zz_wp zt_ms zt_nm zt_df (zt_X L xs) 3 zt_m41 80 [(0, .ref 202), (1, .ref o1), (2, .int a3)] [.int a7] (zk b s6) (qI b w)) hF (fun a7 s6 hF => ?_) (fun k8 hk8 hF => ?_)
    · refine w_istore_n (pc2 := 81) (ls2 := [(3, .int a7), (0, .ref 202), (1, .ref o1), (2, .int a3)]) rfl rfl rfl ?_
      refine w_iconst (pc2 := 82) rfl rfl ?_
      refine w_istore (pc2 := 84) (ls2 := [(4, .int (0 : Int32)), (3, .int a7), (0, .ref 202), (1, .ref o1), (2, .int a3)]) rfl rfl rfl ?_
      refine j_join0 (P := fun (s9 : ZS) => zz_wp zt_ms zt_nm zt_df (zt_X L xs) 3 zt_m41 144 [(1, .ref o1), (2, .int a3)] [] (zk b s9) (qI b w)) hF (fun s9 hF => ?_) (fun k10 hk10 hF => ?_)
      · refine w_aload_n (pc2 := 145) rfl rfl rfl ?_
        refine w_dup (pc2 := 146) rfl rfl rfl ?_
        refine j_geti (pc2 := 149) rfl (zk_cState ho1) rfl rfl rfl hF (fun v11 hF => ?_)
        refine w_iconst (pc2 := 150) rfl rfl ?_
        refine w_iadd (pc2 := 151) rfl rfl ?_
        refine j_puti (pc2 := 154) (j := 0) rfl (zk_cState ho1) rfl (Nat.le_of_ble_eq_true rfl) rfl (zk_wState_0 ho1) (by have := ho1.k.1; omega) rfl hF (fun s12 hF => ?_)
        refine w_iload_n (pc2 := 155) rfl rfl rfl ?_
        exact j_iret rfl rfl hF
      · refine j_norm (l := [(0, .ref 202), (1, .ref o1), (2, .int a3), (3, .int a7), (4, .int (0 : Int32))]) ⟨rfl, rfl, rfl, rfl, rfl, trivial⟩ (zz_nd_of (ks := [0, 1, 2, 3, 4]) rfl (by decide)) ?_
        refine j_loop (P := fun (a13 : Int32) (s14 : ZS) => zz_wp zt_ms zt_nm zt_df (zt_X L xs) 3 zt_m41 84 [(0, .ref 202), (1, .ref o1), (2, .int a3), (3, .int a7), (4, .int a13)] [] (zk b s14) (qI b w)) hF (fun a13 s14 g15 hg15 hF => ?_)
        unfold f_Mill_passDay_B84 at hF
        refine w_iload (pc2 := 86) rfl rfl rfl ?_
        refine w_aload_n (pc2 := 87) rfl rfl rfl ?_
        refine w_getfield (pc2 := 90) rfl zk_cMill rfl rfl rfl ?_
        refine j_geti (pc2 := 93) rfl (zk_cSmithy zk_sm4) rfl rfl rfl hF (fun v16 hF => ?_)
        refine j_icmp_ge (pc2 := 96) rfl rfl hF (fun hF => ?_) (fun hF => ?_)
        · exact j_norm (l := [(1, .ref o1), (2, .int a3)]) ⟨rfl, rfl, trivial⟩ (zz_nd_of (ks := [1, 2]) rfl (by decide)) (hk10 s14 hF)
        · refine w_iload_n (pc2 := 97) rfl rfl rfl ?_
          refine j_join0 (P := fun (s17 : ZS) => zz_wp zt_ms zt_nm zt_df (zt_X L xs) 3 zt_m41 117 [(0, .ref 202), (1, .ref o1), (2, .int a3), (3, .int a7), (4, .int a13)] [] (zk b s17) (qI b w)) hF (fun s17 hF => ?_) (fun k18 hk18 hF => ?_)
          · refine w_aload_n (pc2 := 118) rfl rfl rfl ?_
            refine w_getfield (pc2 := 121) rfl (zk_cState ho1) rfl rfl rfl ?_
            refine w_iload (pc2 := 123) rfl rfl rfl ?_
            refine j_iaload (pc2 := 124) (n := 5) rfl ho1.k.2.2.1 (by omega) (by have := ho1.k.1; omega) rfl hF (fun v19 hF => ?_)
            refine j_join0 (P := fun (s20 : ZS) => zz_wp zt_ms zt_nm zt_df (zt_X L xs) 3 zt_m41 138 [(0, .ref 202), (1, .ref o1), (2, .int a3), (3, .int a7), (4, .int a13)] [] (zk b s20) (qI b w)) hF (fun s20 hF => ?_) (fun k21 hk21 hF => ?_)
            · refine w_iinc (pc2 := 141) (ls2 := [(4, .int ((a13 + (1 : Int32)))), (0, .ref 202), (1, .ref o1), (2, .int a3), (3, .int a7)]) rfl rfl rfl rfl ?_
              refine w_goto rfl ?_
              exact j_norm (l := [(0, .ref 202), (1, .ref o1), (2, .int a3), (3, .int a7), (4, .int ((a13 + (1 : Int32))))]) ⟨rfl, rfl, rfl, rfl, rfl, trivial⟩ (zz_nd_of (ks := [0, 1, 2, 3, 4]) rfl (by decide)) (hg15 (a13 + (1 : Int32)) s20 hF)
            · refine j_if_le (pc2 := 127) rfl rfl hF (fun hF => ?_) (fun hF => ?_)
              · exact j_norm (l := [(0, .ref 202), (1, .ref o1), (2, .int a3), (3, .int a7), (4, .int a13)]) ⟨rfl, rfl, rfl, rfl, rfl, trivial⟩ (zz_nd_of (ks := [0, 1, 2, 3, 4]) rfl (by decide)) (hk21 s17 hF)
              · refine w_aload_n (pc2 := 128) rfl rfl rfl ?_
                refine w_getfield (pc2 := 131) rfl (zk_cState ho1) rfl rfl rfl ?_
                refine w_iload (pc2 := 133) rfl rfl rfl ?_
                refine w_dup2 (pc2 := 134) rfl rfl rfl rfl ?_
                refine j_iaload (pc2 := 135) (n := 5) rfl ho1.k.2.2.1 (by omega) (by have := ho1.k.1; omega) rfl hF (fun v22 hF => ?_)
                refine w_iconst (pc2 := 136) rfl rfl ?_
                refine w_isub (pc2 := 137) rfl rfl ?_
                refine j_iastore (pc2 := 138) (n := 5) rfl ho1.k.2.2.1 (by omega) (by have := ho1.k.1; omega) rfl hF (fun s23 hF => ?_)
                exact j_norm (l := [(0, .ref 202), (1, .ref o1), (2, .int a3), (3, .int a7), (4, .int a13)]) ⟨rfl, rfl, rfl, rfl, rfl, trivial⟩ (zz_nd_of (ks := [0, 1, 2, 3, 4]) rfl (by decide)) (hk21 s23 hF)
          · refine j_if_eq (pc2 := 100) rfl rfl hF (fun hF => ?_) (fun hF => ?_)
            · exact j_norm (l := [(0, .ref 202), (1, .ref o1), (2, .int a3), (3, .int a7), (4, .int a13)]) ⟨rfl, rfl, rfl, rfl, rfl, trivial⟩ (zz_nd_of (ks := [0, 1, 2, 3, 4]) rfl (by decide)) (hk18 s14 hF)
            · refine w_aload_n (pc2 := 101) rfl rfl rfl ?_
              refine w_getfield (pc2 := 104) rfl (zk_cState ho1) rfl rfl rfl ?_
              refine w_iload (pc2 := 106) rfl rfl rfl ?_
              refine j_iaload (pc2 := 107) (n := 5) rfl ho1.k.2.2.2.1 (by omega) (by have := ho1.k.1; omega) rfl hF (fun v24 hF => ?_)
              refine j_if_le (pc2 := 110) rfl rfl hF (fun hF => ?_) (fun hF => ?_)
              · exact j_norm (l := [(0, .ref 202), (1, .ref o1), (2, .int a3), (3, .int a7), (4, .int a13)]) ⟨rfl, rfl, rfl, rfl, rfl, trivial⟩ (zz_nd_of (ks := [0, 1, 2, 3, 4]) rfl (by decide)) (hk18 s14 hF)
              · refine w_aload_n (pc2 := 111) rfl rfl rfl ?_
                refine w_aload_n (pc2 := 112) rfl rfl rfl ?_
                refine w_iload (pc2 := 114) rfl rfl rfl ?_
                refine j_cVv (pc2 := 117) (k := 0) (c := zt_m47) (as := [.ref 202, .ref o1, .int a13]) (rest := []) rfl rfl rfl rfl zk_cMill.look rfl (Nat.le_of_ble_eq_true rfl) (Nat.le_of_ble_eq_true rfl) (fun w1 h1 => ok_Mill_wearBand ho1 h1) (by decide) rfl hF (fun s25 hF => ?_)
                exact j_norm (l := [(0, .ref 202), (1, .ref o1), (2, .int a3), (3, .int a7), (4, .int a13)]) ⟨rfl, rfl, rfl, rfl, rfl, trivial⟩ (zz_nd_of (ks := [0, 1, 2, 3, 4]) rfl (by decide)) (hk18 s25 hF)
    · refine j_icmp_ne (pc2 := 75) rfl rfl hF (fun hF => ?_) (fun hF => ?_)
      · refine w_iconst (pc2 := 80) rfl rfl ?_
        exact j_norm (l := [(0, .ref 202), (1, .ref o1), (2, .int a3)]) ⟨rfl, rfl, rfl, trivial⟩ (zz_nd_of (ks := [0, 1, 2]) rfl (by decide)) (hk8 (0 : Int32) s2 hF)
      · refine w_iconst (pc2 := 76) rfl rfl ?_
        refine w_goto rfl ?_
        exact j_norm (l := [(0, .ref 202), (1, .ref o1), (2, .int a3)]) ⟨rfl, rfl, rfl, trivial⟩ (zz_nd_of (ks := [0, 1, 2]) rfl (by decide)) (hk8 (1 : Int32) s2 hF)
  · refine j_norm (l := [(0, .ref 202), (1, .ref o1), (2, .int (0 : Int32)), (3, .int (0 : Int32))]) ⟨rfl, rfl, rfl, rfl, trivial⟩ (zz_nd_of (ks := [0, 1, 2, 3]) rfl (by decide)) ?_
    refine j_loop (P := fun (a26 : Int32 × Int32) (s27 : ZS) => zz_wp zt_ms zt_nm zt_df (zt_X L xs) 3 zt_m41 4 [(0, .ref 202), (1, .ref o1), (2, .int a26.1), (3, .int a26.2)] [] (zk b s27) (qI b w)) hF (fun a26 s27 g28 hg28 hF => ?_)
    unfold f_Mill_passDay_B4 at hF
    refine w_iload_n (pc2 := 5) rfl rfl rfl ?_
    refine w_aload_n (pc2 := 6) rfl rfl rfl ?_
    refine w_getfield (pc2 := 9) rfl zk_cMill rfl rfl rfl ?_
    refine j_geti (pc2 := 12) rfl (zk_cSmithy zk_sm4) rfl rfl rfl hF (fun v29 hF => ?_)
    refine j_icmp_ge (pc2 := 15) rfl rfl hF (fun hF => ?_) (fun hF => ?_)
    · exact j_norm (l := [(0, .ref 202), (1, .ref o1), (2, .int a26.1)]) ⟨rfl, rfl, rfl, trivial⟩ (zz_nd_of (ks := [0, 1, 2]) rfl (by decide)) (hk4 a26.1 s27 hF)
    · refine w_aload_n (pc2 := 16) rfl rfl rfl ?_
      refine w_getfield (pc2 := 19) rfl (zk_cState ho1) rfl rfl rfl ?_
      refine w_iload_n (pc2 := 20) rfl rfl rfl ?_
      refine j_iaload (pc2 := 21) (n := 5) rfl ho1.k.2.2.2.1 (by omega) (by have := ho1.k.1; omega) rfl hF (fun v30 hF => ?_)
      refine j_join (P := fun (a32 : Int32) (s31 : ZS) => zz_wp zt_ms zt_nm zt_df (zt_X L xs) 3 zt_m41 57 [(0, .ref 202), (1, .ref o1), (2, .int a32), (3, .int a26.2)] [] (zk b s31) (qI b w)) hF (fun a32 s31 hF => ?_) (fun k33 hk33 hF => ?_)
      · refine w_iinc (pc2 := 60) (ls2 := [(3, .int ((a26.2 + (1 : Int32)))), (0, .ref 202), (1, .ref o1), (2, .int a32)]) rfl rfl rfl rfl ?_
        refine w_goto rfl ?_
        exact j_norm (l := [(0, .ref 202), (1, .ref o1), (2, .int a32), (3, .int ((a26.2 + (1 : Int32))))]) ⟨rfl, rfl, rfl, rfl, trivial⟩ (zz_nd_of (ks := [0, 1, 2, 3]) rfl (by decide)) (hg28 (a32, (a26.2 + (1 : Int32))) s31 hF)
      · refine j_if_ne (pc2 := 24) rfl rfl hF (fun hF => ?_) (fun hF => ?_)
        · exact j_norm (l := [(0, .ref 202), (1, .ref o1), (2, .int a26.1), (3, .int a26.2)]) ⟨rfl, rfl, rfl, rfl, trivial⟩ (zz_nd_of (ks := [0, 1, 2, 3]) rfl (by decide)) (hk33 a26.1 s27 hF)
        · refine w_iload_n (pc2 := 25) rfl rfl rfl ?_
          refine w_aload_n (pc2 := 26) rfl rfl rfl ?_
          refine j_geti (pc2 := 29) rfl zk_cMill rfl rfl rfl hF (fun v34 hF => ?_)
          refine j_icmp_eq (pc2 := 32) rfl rfl hF (fun hF => ?_) (fun hF => ?_)
          · exact j_norm (l := [(0, .ref 202), (1, .ref o1), (2, .int a26.1), (3, .int a26.2)]) ⟨rfl, rfl, rfl, rfl, trivial⟩ (zz_nd_of (ks := [0, 1, 2, 3]) rfl (by decide)) (hk33 a26.1 s27 hF)
          · refine w_aload_n (pc2 := 33) rfl rfl rfl ?_
            refine w_aload_n (pc2 := 34) rfl rfl rfl ?_
            refine w_iload_n (pc2 := 35) rfl rfl rfl ?_
            refine j_cIv (pc2 := 38) (k := 2) (c := zt_m42) (as := [.ref 202, .ref o1, .int a26.2]) (rest := []) rfl rfl rfl rfl zk_cMill.look rfl (Nat.le_of_ble_eq_true rfl) (Nat.le_of_ble_eq_true rfl) (fun w1 h1 => ok_Mill_chosen ho1 h1) (by decide) rfl hF (fun v36 s35 hF => ?_)
            refine w_istore (pc2 := 40) (ls2 := [(4, .int v36), (0, .ref 202), (1, .ref o1), (2, .int a26.1), (3, .int a26.2)]) rfl rfl rfl ?_
            refine w_iload (pc2 := 42) rfl rfl rfl ?_
            refine w_iconst (pc2 := 43) rfl rfl ?_
            refine j_icmp_eq (pc2 := 46) rfl rfl hF (fun hF => ?_) (fun hF => ?_)
            · exact j_norm (l := [(0, .ref 202), (1, .ref o1), (2, .int a26.1), (3, .int a26.2)]) ⟨rfl, rfl, rfl, rfl, trivial⟩ (zz_nd_of (ks := [0, 1, 2, 3]) rfl (by decide)) (hk33 a26.1 s35 hF)
            · refine w_iload_n (pc2 := 47) rfl rfl rfl ?_
              refine w_aload_n (pc2 := 48) rfl rfl rfl ?_
              refine w_aload_n (pc2 := 49) rfl rfl rfl ?_
              refine w_iload_n (pc2 := 50) rfl rfl rfl ?_
              refine w_iload (pc2 := 52) rfl rfl rfl ?_
              refine j_cIv (pc2 := 55) (k := 1) (c := zt_m45) (as := [.ref 202, .ref o1, .int a26.2, .int v36]) (rest := [.int a26.1]) rfl rfl rfl rfl zk_cMill.look rfl (Nat.le_of_ble_eq_true rfl) (Nat.le_of_ble_eq_true rfl) (fun w1 h1 => ok_Mill_utter ho1 h1) (by decide) rfl hF (fun v38 s37 hF => ?_)
              refine w_ior (pc2 := 56) rfl rfl ?_
              refine w_istore_n (pc2 := 57) (ls2 := [(2, .int (a26.1 ||| v38)), (4, .int v36), (0, .ref 202), (1, .ref o1), (3, .int a26.2)]) rfl rfl rfl ?_
              exact j_norm (l := [(0, .ref 202), (1, .ref o1), (2, .int (a26.1 ||| v38)), (3, .int a26.2)]) ⟨rfl, rfl, rfl, rfl, trivial⟩ (zz_nd_of (ks := [0, 1, 2, 3]) rfl (by decide)) (hk33 (a26.1 ||| v38) s37 hF)
noncomputable def f_Fore_rowsIn_B10 (p1 : Int32) (v2 : Int32) (a3 : Int32) (s4 : ZS) (g5 : Int32 → ZS → Option (Int32 × ZS)) : Option (Int32 × ZS) := (if p1 ≤ a3 then zgi (s4.1 207 1) (fun (v6 : Int32) => some ((v6 - v2), s4)) else zcl (f_Mill_passDay 207 s4) (fun (v8 : Int32) (s7 : ZS) => g5 (a3 + (1 : Int32)) s7))
noncomputable def f_Fore_rowsIn (p1 : Int32) (s0 : ZS) : Option (Int32 × ZS) := zgi (s0.1 207 1) (fun (v2 : Int32) => zlp zN (f_Fore_rowsIn_B10 p1 v2) (0 : Int32) s0)
set_option maxHeartbeats 4000000 in
set_option maxRecDepth 100000 in
theorem ok_Fore_rowsIn {L : Nat} {xs : Nat → Int32} {b : ZH} {p1 : Int32} {s0 : ZS} {w : Int32 × ZS} (hF : f_Fore_rowsIn p1 s0 = some w) : zz_ct zt_ms zt_nm zt_df (zt_X L xs) 4 zt_m3 [.ref 206, .int p1] (zk b s0) (qI b w) := by
  unfold f_Fore_rowsIn at hF
  change zz_wp zt_ms zt_nm zt_df (zt_X L xs) 4 zt_m3 0 [(0, .ref 206), (1, .int p1)] [] (zk b s0) (qI b w)
  refine w_aload_n (pc2 := 1) rfl rfl rfl ?_
  refine w_getfield (pc2 := 4) rfl zk_cFore rfl rfl rfl ?_
  refine j_geti (pc2 := 7) rfl (zk_cState zk_st207) rfl rfl rfl hF (fun v2 hF => ?_)
  refine w_istore_n (pc2 := 8) (ls2 := [(2, .int v2), (0, .ref 206), (1, .int p1)]) rfl rfl rfl ?_
  refine w_iconst (pc2 := 9) rfl rfl ?_
  refine w_istore_n (pc2 := 10) (ls2 := [(3, .int (0 : Int32)), (2, .int v2), (0, .ref 206), (1, .int p1)]) rfl rfl rfl ?_
  refine j_norm (l := [(0, .ref 206), (1, .int p1), (2, .int v2), (3, .int (0 : Int32))]) ⟨rfl, rfl, rfl, rfl, trivial⟩ (zz_nd_of (ks := [0, 1, 2, 3]) rfl (by decide)) ?_
  refine j_loop (P := fun (a3 : Int32) (s4 : ZS) => zz_wp zt_ms zt_nm zt_df (zt_X L xs) 4 zt_m3 10 [(0, .ref 206), (1, .int p1), (2, .int v2), (3, .int a3)] [] (zk b s4) (qI b w)) hF (fun a3 s4 g5 hg5 hF => ?_)
  unfold f_Fore_rowsIn_B10 at hF
  refine w_iload_n (pc2 := 11) rfl rfl rfl ?_
  refine w_iload_n (pc2 := 12) rfl rfl rfl ?_
  refine j_icmp_ge (pc2 := 15) rfl rfl hF (fun hF => ?_) (fun hF => ?_)
  · refine w_aload_n (pc2 := 34) rfl rfl rfl ?_
    refine w_getfield (pc2 := 37) rfl zk_cFore rfl rfl rfl ?_
    refine j_geti (pc2 := 40) rfl (zk_cState zk_st207) rfl rfl rfl hF (fun v6 hF => ?_)
    refine w_iload_n (pc2 := 41) rfl rfl rfl ?_
    refine w_isub (pc2 := 42) rfl rfl ?_
    exact j_iret rfl rfl hF
  · refine w_aload_n (pc2 := 16) rfl rfl rfl ?_
    refine w_getfield (pc2 := 19) rfl zk_cFore rfl rfl rfl ?_
    refine w_aload_n (pc2 := 20) rfl rfl rfl ?_
    refine w_getfield (pc2 := 23) rfl zk_cFore rfl rfl rfl ?_
    refine j_cIv (pc2 := 26) (k := 3) (c := zt_m41) (as := [.ref 202, .ref 207]) (rest := []) rfl rfl rfl rfl zk_cMill.look rfl (Nat.le_of_ble_eq_true rfl) (Nat.le_of_ble_eq_true rfl) (fun w1 h1 => ok_Mill_passDay zk_st207 h1) (by decide) rfl hF (fun v8 s7 hF => ?_)
    refine w_pop (pc2 := 27) rfl rfl rfl ?_
    refine w_iinc (pc2 := 30) (ls2 := [(3, .int ((a3 + (1 : Int32)))), (0, .ref 206), (1, .int p1), (2, .int v2)]) rfl rfl rfl rfl ?_
    refine w_goto rfl ?_
    exact j_norm (l := [(0, .ref 206), (1, .int p1), (2, .int v2), (3, .int ((a3 + (1 : Int32))))]) ⟨rfl, rfl, rfl, rfl, trivial⟩ (zz_nd_of (ks := [0, 1, 2, 3]) rfl (by decide)) (hg5 (a3 + (1 : Int32)) s7 hF)
noncomputable def f_Fore_later (p1 : Int32) (s0 : ZS) : Option (ZS) := zcv (f_Fore_restart s0) (fun (s2 : ZS) => zcl (f_Fore_rowsIn p1 s2) (fun (v4 : Int32) (s3 : ZS) => some s3))
set_option maxHeartbeats 4000000 in
set_option maxRecDepth 100000 in
theorem ok_Fore_later {L : Nat} {xs : Nat → Int32} {b : ZH} {p1 : Int32} {s0 : ZS} {w : ZS} (hF : f_Fore_later p1 s0 = some w) : zz_ct zt_ms zt_nm zt_df (zt_X L xs) 5 zt_m1 [.ref 206, .int p1] (zk b s0) (qA b 207 w) := by
  unfold f_Fore_later at hF
  change zz_wp zt_ms zt_nm zt_df (zt_X L xs) 5 zt_m1 0 [(0, .ref 206), (1, .int p1)] [] (zk b s0) (qA b 207 w)
  refine w_aload_n (pc2 := 1) rfl rfl rfl ?_
  refine j_cVv (pc2 := 4) (k := 1) (c := zt_m2) (as := [.ref 206]) (rest := []) rfl rfl rfl rfl zk_cFore.look rfl (Nat.le_of_ble_eq_true rfl) (Nat.le_of_ble_eq_true rfl) (fun w1 h1 => ok_Fore_restart h1) (by decide) rfl hF (fun s2 hF => ?_)
  refine w_aload_n (pc2 := 5) rfl rfl rfl ?_
  refine w_iload_n (pc2 := 6) rfl rfl rfl ?_
  refine j_cIv (pc2 := 9) (k := 4) (c := zt_m3) (as := [.ref 206, .int p1]) (rest := []) rfl rfl rfl rfl zk_cFore.look rfl (Nat.le_of_ble_eq_true rfl) (Nat.le_of_ble_eq_true rfl) (fun w1 h1 => ok_Fore_rowsIn h1) (by decide) rfl hF (fun v4 s3 hF => ?_)
  refine w_pop (pc2 := 10) rfl rfl rfl ?_
  refine w_aload_n (pc2 := 11) rfl rfl rfl ?_
  refine w_getfield (pc2 := 14) rfl zk_cFore rfl rfl rfl ?_
  exact j_aret rfl rfl (by decide) hF
noncomputable def f_Fore_nextRow_B6 (p1 : Int32) (p2 : Int32) (a4 : Int32) (s5 : ZS) (g6 : Int32 → ZS → Option (Int32 × ZS)) : Option (Int32 × ZS) := (if (200 : Int32) ≤ a4 then some ((-2 : Int32), s5) else zgi (s5.1 207 0) (fun (v7 : Int32) => zcl (f_Mill_passDay 207 s5) (fun (v9 : Int32) (s8 : ZS) => (if ((v9 >>> (p1 &&& (31 : Int32))) &&& (1 : Int32)) = 0 then g6 (a4 + (1 : Int32)) s8 else (if ¬ p2 = 0 then zrd 5 p1 (s8.1 205) (fun (v10 : Int32) => some (v10, s8)) else some (v7, s8))))))
noncomputable def f_Fore_nextRow (p1 : Int32) (p2 : Int32) (s0 : ZS) : Option (Int32 × ZS) := zcv (f_Fore_restart s0) (fun (s3 : ZS) => zlp zN (f_Fore_nextRow_B6 p1 p2) (0 : Int32) s3)
set_option maxHeartbeats 4000000 in
set_option maxRecDepth 100000 in
theorem ok_Fore_nextRow {L : Nat} {xs : Nat → Int32} {b : ZH} {p1 : Int32} {p2 : Int32} {s0 : ZS} {w : Int32 × ZS} (hF : f_Fore_nextRow p1 p2 s0 = some w) : zz_ct zt_ms zt_nm zt_df (zt_X L xs) 4 zt_m4 [.ref 206, .int p1, .int p2] (zk b s0) (qI b w) := by
  unfold f_Fore_nextRow at hF
  change zz_wp zt_ms zt_nm zt_df (zt_X L xs) 4 zt_m4 0 [(0, .ref 206), (1, .int p1), (2, .int p2)] [] (zk b s0) (qI b w)
  refine w_aload_n (pc2 := 1) rfl rfl rfl ?_
  refine j_cVv (pc2 := 4) (k := 1) (c := zt_m2) (as := [.ref 206]) (rest := []) rfl rfl rfl rfl zk_cFore.look rfl (Nat.le_of_ble_eq_true rfl) (Nat.le_of_ble_eq_true rfl) (fun w1 h1 => ok_Fore_restart h1) (by decide) rfl hF (fun s3 hF => ?_)
  refine w_iconst (pc2 := 5) rfl rfl ?_
  refine w_istore_n (pc2 := 6) (ls2 := [(3, .int (0 : Int32)), (0, .ref 206), (1, .int p1), (2, .int p2)]) rfl rfl rfl ?_
  refine j_norm (l := [(0, .ref 206), (1, .int p1), (2, .int p2), (3, .int (0 : Int32))]) ⟨rfl, rfl, rfl, rfl, trivial⟩ (zz_nd_of (ks := [0, 1, 2, 3]) rfl (by decide)) ?_
  refine j_loop (P := fun (a4 : Int32) (s5 : ZS) => zz_wp zt_ms zt_nm zt_df (zt_X L xs) 4 zt_m4 6 [(0, .ref 206), (1, .int p1), (2, .int p2), (3, .int a4)] [] (zk b s5) (qI b w)) hF (fun a4 s5 g6 hg6 hF => ?_)
  unfold f_Fore_nextRow_B6 at hF
  refine w_iload_n (pc2 := 7) rfl rfl rfl ?_
  refine w_sipush (pc2 := 10) rfl rfl ?_
  refine j_icmp_ge (pc2 := 13) rfl rfl hF (fun hF => ?_) (fun hF => ?_)
  · refine w_bipush (pc2 := 71) rfl rfl ?_
    exact j_iret rfl rfl hF
  · refine w_aload_n (pc2 := 14) rfl rfl rfl ?_
    refine w_getfield (pc2 := 17) rfl zk_cFore rfl rfl rfl ?_
    refine j_geti (pc2 := 20) rfl (zk_cState zk_st207) rfl rfl rfl hF (fun v7 hF => ?_)
    refine w_istore (pc2 := 22) (ls2 := [(4, .int v7), (0, .ref 206), (1, .int p1), (2, .int p2), (3, .int a4)]) rfl rfl rfl ?_
    refine w_aload_n (pc2 := 23) rfl rfl rfl ?_
    refine w_getfield (pc2 := 26) rfl zk_cFore rfl rfl rfl ?_
    refine w_aload_n (pc2 := 27) rfl rfl rfl ?_
    refine w_getfield (pc2 := 30) rfl zk_cFore rfl rfl rfl ?_
    refine j_cIv (pc2 := 33) (k := 3) (c := zt_m41) (as := [.ref 202, .ref 207]) (rest := []) rfl rfl rfl rfl zk_cMill.look rfl (Nat.le_of_ble_eq_true rfl) (Nat.le_of_ble_eq_true rfl) (fun w1 h1 => ok_Mill_passDay zk_st207 h1) (by decide) rfl hF (fun v9 s8 hF => ?_)
    refine w_istore (pc2 := 35) (ls2 := [(5, .int v9), (4, .int v7), (0, .ref 206), (1, .int p1), (2, .int p2), (3, .int a4)]) rfl rfl rfl ?_
    refine w_iload (pc2 := 37) rfl rfl rfl ?_
    refine w_iload_n (pc2 := 38) rfl rfl rfl ?_
    refine w_ishr (pc2 := 39) rfl rfl ?_
    refine w_iconst (pc2 := 40) rfl rfl ?_
    refine w_iand (pc2 := 41) rfl rfl ?_
    refine j_if_eq (pc2 := 44) rfl rfl hF (fun hF => ?_) (fun hF => ?_)
    · refine w_iinc (pc2 := 66) (ls2 := [(3, .int ((a4 + (1 : Int32)))), (5, .int v9), (4, .int v7), (0, .ref 206), (1, .int p1), (2, .int p2)]) rfl rfl rfl rfl ?_
      refine w_goto rfl ?_
      exact j_norm (l := [(0, .ref 206), (1, .int p1), (2, .int p2), (3, .int ((a4 + (1 : Int32))))]) ⟨rfl, rfl, rfl, rfl, trivial⟩ (zz_nd_of (ks := [0, 1, 2, 3]) rfl (by decide)) (hg6 (a4 + (1 : Int32)) s8 hF)
    · refine w_iload_n (pc2 := 45) rfl rfl rfl ?_
      refine j_if_ne (pc2 := 48) rfl rfl hF (fun hF => ?_) (fun hF => ?_)
      · refine w_aload_n (pc2 := 54) rfl rfl rfl ?_
        refine w_getfield (pc2 := 57) rfl zk_cFore rfl rfl rfl ?_
        refine w_getfield (pc2 := 60) rfl zk_cMill rfl rfl rfl ?_
        refine w_iload_n (pc2 := 61) rfl rfl rfl ?_
        refine j_iaload (pc2 := 62) (n := 5) rfl rfl (by omega) (by decide) rfl hF (fun v10 hF => ?_)
        exact j_iret rfl rfl hF
      · refine w_iload (pc2 := 50) rfl rfl rfl ?_
        refine w_goto rfl ?_
        exact j_iret rfl rfl hF
noncomputable def f_Fore_staysQuiet_B14 (p2 : Int32) (a5 : Int32) (s6 : ZS) (g7 : Int32 → ZS → Option (Int32 × ZS)) : Option (Int32 × ZS) := (if p2 ≤ a5 then zbl (1 : Int32) s6 else zcl (f_Mill_passDay 207 s6) (fun (v9 : Int32) (s8 : ZS) => (if v9 = 0 then g7 (a5 + (1 : Int32)) s8 else zbl (0 : Int32) s8)))
noncomputable def f_Fore_staysQuiet (p1 : Int32) (p2 : Int32) (s0 : ZS) : Option (Int32 × ZS) := zcv (f_Fore_restart s0) (fun (s3 : ZS) => zwi s3 202 6 p1 (fun (s4 : ZS) => zlp zN (f_Fore_staysQuiet_B14 p2) (0 : Int32) s4))
set_option maxHeartbeats 4000000 in
set_option maxRecDepth 100000 in
theorem ok_Fore_staysQuiet {L : Nat} {xs : Nat → Int32} {b : ZH} {p1 : Int32} {p2 : Int32} {s0 : ZS} {w : Int32 × ZS} (hF : f_Fore_staysQuiet p1 p2 s0 = some w) : zz_ct zt_ms zt_nm zt_df (zt_X L xs) 4 zt_m6 [.ref 206, .int p1, .int p2] (zk b s0) (qI b w) := by
  unfold f_Fore_staysQuiet at hF
  change zz_wp zt_ms zt_nm zt_df (zt_X L xs) 4 zt_m6 0 [(0, .ref 206), (1, .int p1), (2, .int p2)] [] (zk b s0) (qI b w)
  refine w_aload_n (pc2 := 1) rfl rfl rfl ?_
  refine j_cVv (pc2 := 4) (k := 1) (c := zt_m2) (as := [.ref 206]) (rest := []) rfl rfl rfl rfl zk_cFore.look rfl (Nat.le_of_ble_eq_true rfl) (Nat.le_of_ble_eq_true rfl) (fun w1 h1 => ok_Fore_restart h1) (by decide) rfl hF (fun s3 hF => ?_)
  refine w_aload_n (pc2 := 5) rfl rfl rfl ?_
  refine w_getfield (pc2 := 8) rfl zk_cFore rfl rfl rfl ?_
  refine w_iload_n (pc2 := 9) rfl rfl rfl ?_
  refine j_puti (pc2 := 12) (j := 6) rfl zk_cMill rfl (Nat.le_of_ble_eq_true rfl) rfl zk_wMill_6 (by decide) rfl hF (fun s4 hF => ?_)
  refine w_iconst (pc2 := 13) rfl rfl ?_
  refine w_istore_n (pc2 := 14) (ls2 := [(3, .int (0 : Int32)), (0, .ref 206), (1, .int p1), (2, .int p2)]) rfl rfl rfl ?_
  refine j_norm (l := [(0, .ref 206), (2, .int p2), (3, .int (0 : Int32))]) ⟨rfl, rfl, rfl, trivial⟩ (zz_nd_of (ks := [0, 2, 3]) rfl (by decide)) ?_
  refine j_loop (P := fun (a5 : Int32) (s6 : ZS) => zz_wp zt_ms zt_nm zt_df (zt_X L xs) 4 zt_m6 14 [(0, .ref 206), (2, .int p2), (3, .int a5)] [] (zk b s6) (qI b w)) hF (fun a5 s6 g7 hg7 hF => ?_)
  unfold f_Fore_staysQuiet_B14 at hF
  refine w_iload_n (pc2 := 15) rfl rfl rfl ?_
  refine w_iload_n (pc2 := 16) rfl rfl rfl ?_
  refine j_icmp_ge (pc2 := 19) rfl rfl hF (fun hF => ?_) (fun hF => ?_)
  · refine w_iconst (pc2 := 42) rfl rfl ?_
    exact j_zret rfl rfl hF
  · refine w_aload_n (pc2 := 20) rfl rfl rfl ?_
    refine w_getfield (pc2 := 23) rfl zk_cFore rfl rfl rfl ?_
    refine w_aload_n (pc2 := 24) rfl rfl rfl ?_
    refine w_getfield (pc2 := 27) rfl zk_cFore rfl rfl rfl ?_
    refine j_cIv (pc2 := 30) (k := 3) (c := zt_m41) (as := [.ref 202, .ref 207]) (rest := []) rfl rfl rfl rfl zk_cMill.look rfl (Nat.le_of_ble_eq_true rfl) (Nat.le_of_ble_eq_true rfl) (fun w1 h1 => ok_Mill_passDay zk_st207 h1) (by decide) rfl hF (fun v9 s8 hF => ?_)
    refine j_if_eq (pc2 := 33) rfl rfl hF (fun hF => ?_) (fun hF => ?_)
    · refine w_iinc (pc2 := 38) (ls2 := [(3, .int ((a5 + (1 : Int32)))), (0, .ref 206), (2, .int p2)]) rfl rfl rfl rfl ?_
      refine w_goto rfl ?_
      exact j_norm (l := [(0, .ref 206), (2, .int p2), (3, .int ((a5 + (1 : Int32))))]) ⟨rfl, rfl, rfl, trivial⟩ (zz_nd_of (ks := [0, 2, 3]) rfl (by decide)) (hg7 (a5 + (1 : Int32)) s8 hF)
    · refine w_iconst (pc2 := 34) rfl rfl ?_
      exact j_zret rfl rfl hF
noncomputable def f_Fore_leastStruck_B34 (p1 : Int32) (v2 : Int32) (a3 : Int32) (k8 : ZS → Option (Int32 × ZS)) (a9 : Int32) (s10 : ZS) (g11 : Int32 → ZS → Option (Int32 × ZS)) : Option (Int32 × ZS) := (if (((1 : Int32) <<< (v2 &&& (31 : Int32))) - (1 : Int32)) < a9 then k8 s10 else zcl (f_Int_bitCount a9 s10) (fun (v13 : Int32) (s12 : ZS) => zj0 (fun (s14 : ZS) => g11 (a9 + (1 : Int32)) s14) (fun (k15 : ZS → Option (Int32 × ZS)) => (if ¬ v13 = a3 then k15 s12 else zcl (f_Fore_staysQuiet a9 p1 s12) (fun (v17 : Int32) (s16 : ZS) => (if v17 = 0 then k15 s16 else some (a9, s16)))))))
noncomputable def f_Fore_leastStruck_B17 (p1 : Int32) (v2 : Int32) (a3 : Int32) (s4 : ZS) (g5 : Int32 → ZS → Option (Int32 × ZS)) : Option (Int32 × ZS) := zgi (s4.1 4 4) (fun (v6 : Int32) => (if v6 ≤ a3 then some ((((1 : Int32) <<< (v2 &&& (31 : Int32))) - (1 : Int32)), s4) else zj0 (fun (s7 : ZS) => g5 (a3 + (1 : Int32)) s7) (fun (k8 : ZS → Option (Int32 × ZS)) => zlp zN (f_Fore_leastStruck_B34 p1 v2 a3 k8) (0 : Int32) s4)))
noncomputable def f_Fore_leastStruck (p1 : Int32) (s0 : ZS) : Option (Int32 × ZS) := zgi (s0.1 4 4) (fun (v2 : Int32) => zlp zN (f_Fore_leastStruck_B17 p1 v2) (0 : Int32) s0)
set_option maxHeartbeats 4000000 in
set_option maxRecDepth 100000 in
theorem ok_Fore_leastStruck {L : Nat} {xs : Nat → Int32} {b : ZH} {p1 : Int32} {s0 : ZS} {w : Int32 × ZS} (hF : f_Fore_leastStruck p1 s0 = some w) : zz_ct zt_ms zt_nm zt_df (zt_X L xs) 5 zt_m5 [.ref 206, .int p1] (zk b s0) (qI b w) := by
  unfold f_Fore_leastStruck at hF
  change zz_wp zt_ms zt_nm zt_df (zt_X L xs) 5 zt_m5 0 [(0, .ref 206), (1, .int p1)] [] (zk b s0) (qI b w)
  refine w_iconst (pc2 := 1) rfl rfl ?_
  refine w_aload_n (pc2 := 2) rfl rfl rfl ?_
  refine w_getfield (pc2 := 5) rfl zk_cFore rfl rfl rfl ?_
  refine w_getfield (pc2 := 8) rfl (zk_cWorld zk_w3) rfl rfl rfl ?_
  refine j_geti (pc2 := 11) rfl (zk_cSmithy zk_sm4) rfl rfl rfl hF (fun v2 hF => ?_)
  refine w_ishl (pc2 := 12) rfl rfl ?_
  refine w_iconst (pc2 := 13) rfl rfl ?_
  refine w_isub (pc2 := 14) rfl rfl ?_
  refine w_istore_n (pc2 := 15) (ls2 := [(2, .int ((((1 : Int32) <<< (v2 &&& (31 : Int32))) - (1 : Int32)))), (0, .ref 206), (1, .int p1)]) rfl rfl rfl ?_
  refine w_iconst (pc2 := 16) rfl rfl ?_
  refine w_istore_n (pc2 := 17) (ls2 := [(3, .int (0 : Int32)), (2, .int ((((1 : Int32) <<< (v2 &&& (31 : Int32))) - (1 : Int32)))), (0, .ref 206), (1, .int p1)]) rfl rfl rfl ?_
  refine j_norm (l := [(0, .ref 206), (1, .int p1), (2, .int ((((1 : Int32) <<< (v2 &&& (31 : Int32))) - (1 : Int32)))), (3, .int (0 : Int32))]) ⟨rfl, rfl, rfl, rfl, trivial⟩ (zz_nd_of (ks := [0, 1, 2, 3]) rfl (by decide)) ?_
  refine j_loop (P := fun (a3 : Int32) (s4 : ZS) => zz_wp zt_ms zt_nm zt_df (zt_X L xs) 5 zt_m5 17 [(0, .ref 206), (1, .int p1), (2, .int ((((1 : Int32) <<< (v2 &&& (31 : Int32))) - (1 : Int32)))), (3, .int a3)] [] (zk b s4) (qI b w)) hF (fun a3 s4 g5 hg5 hF => ?_)
  unfold f_Fore_leastStruck_B17 at hF
  refine w_iload_n (pc2 := 18) rfl rfl rfl ?_
  refine w_aload_n (pc2 := 19) rfl rfl rfl ?_
  refine w_getfield (pc2 := 22) rfl zk_cFore rfl rfl rfl ?_
  refine w_getfield (pc2 := 25) rfl (zk_cWorld zk_w3) rfl rfl rfl ?_
  refine j_geti (pc2 := 28) rfl (zk_cSmithy zk_sm4) rfl rfl rfl hF (fun v6 hF => ?_)
  refine j_icmp_ge (pc2 := 31) rfl rfl hF (fun hF => ?_) (fun hF => ?_)
  · refine w_iload_n (pc2 := 75) rfl rfl rfl ?_
    exact j_iret rfl rfl hF
  · refine w_iconst (pc2 := 32) rfl rfl ?_
    refine w_istore (pc2 := 34) (ls2 := [(4, .int (0 : Int32)), (0, .ref 206), (1, .int p1), (2, .int ((((1 : Int32) <<< (v2 &&& (31 : Int32))) - (1 : Int32)))), (3, .int a3)]) rfl rfl rfl ?_
    refine j_join0 (P := fun (s7 : ZS) => zz_wp zt_ms zt_nm zt_df (zt_X L xs) 5 zt_m5 68 [(0, .ref 206), (1, .int p1), (2, .int ((((1 : Int32) <<< (v2 &&& (31 : Int32))) - (1 : Int32)))), (3, .int a3)] [] (zk b s7) (qI b w)) hF (fun s7 hF => ?_) (fun k8 hk8 hF => ?_)
    · refine w_iinc (pc2 := 71) (ls2 := [(3, .int ((a3 + (1 : Int32)))), (0, .ref 206), (1, .int p1), (2, .int ((((1 : Int32) <<< (v2 &&& (31 : Int32))) - (1 : Int32))))]) rfl rfl rfl rfl ?_
      refine w_goto rfl ?_
      exact j_norm (l := [(0, .ref 206), (1, .int p1), (2, .int ((((1 : Int32) <<< (v2 &&& (31 : Int32))) - (1 : Int32)))), (3, .int ((a3 + (1 : Int32))))]) ⟨rfl, rfl, rfl, rfl, trivial⟩ (zz_nd_of (ks := [0, 1, 2, 3]) rfl (by decide)) (hg5 (a3 + (1 : Int32)) s7 hF)
    · refine j_norm (l := [(0, .ref 206), (1, .int p1), (2, .int ((((1 : Int32) <<< (v2 &&& (31 : Int32))) - (1 : Int32)))), (3, .int a3), (4, .int (0 : Int32))]) ⟨rfl, rfl, rfl, rfl, rfl, trivial⟩ (zz_nd_of (ks := [0, 1, 2, 3, 4]) rfl (by decide)) ?_
      refine j_loop (P := fun (a9 : Int32) (s10 : ZS) => zz_wp zt_ms zt_nm zt_df (zt_X L xs) 5 zt_m5 34 [(0, .ref 206), (1, .int p1), (2, .int ((((1 : Int32) <<< (v2 &&& (31 : Int32))) - (1 : Int32)))), (3, .int a3), (4, .int a9)] [] (zk b s10) (qI b w)) hF (fun a9 s10 g11 hg11 hF => ?_)
      unfold f_Fore_leastStruck_B34 at hF
      refine w_iload (pc2 := 36) rfl rfl rfl ?_
      refine w_iload_n (pc2 := 37) rfl rfl rfl ?_
      refine j_icmp_gt (pc2 := 40) rfl rfl hF (fun hF => ?_) (fun hF => ?_)
      · exact j_norm (l := [(0, .ref 206), (1, .int p1), (2, .int ((((1 : Int32) <<< (v2 &&& (31 : Int32))) - (1 : Int32)))), (3, .int a3)]) ⟨rfl, rfl, rfl, rfl, trivial⟩ (zz_nd_of (ks := [0, 1, 2, 3]) rfl (by decide)) (hk8 s10 hF)
      · refine w_iload (pc2 := 42) rfl rfl rfl ?_
        refine j_cIs (pc2 := 45) (k := 0) (c := zt_m260) (as := [.int a9]) (rest := []) rfl rfl rfl (Nat.le_of_ble_eq_true rfl) rfl rfl (Nat.le_of_ble_eq_true rfl) (Nat.le_of_ble_eq_true rfl) (fun w1 h1 => ok_Int_bitCount h1) (by decide) rfl hF (fun v13 s12 hF => ?_)
        refine w_iload_n (pc2 := 46) rfl rfl rfl ?_
        refine j_join0 (P := fun (s14 : ZS) => zz_wp zt_ms zt_nm zt_df (zt_X L xs) 5 zt_m5 62 [(0, .ref 206), (1, .int p1), (2, .int ((((1 : Int32) <<< (v2 &&& (31 : Int32))) - (1 : Int32)))), (3, .int a3), (4, .int a9)] [] (zk b s14) (qI b w)) hF (fun s14 hF => ?_) (fun k15 hk15 hF => ?_)
        · refine w_iinc (pc2 := 65) (ls2 := [(4, .int ((a9 + (1 : Int32)))), (0, .ref 206), (1, .int p1), (2, .int ((((1 : Int32) <<< (v2 &&& (31 : Int32))) - (1 : Int32)))), (3, .int a3)]) rfl rfl rfl rfl ?_
          refine w_goto rfl ?_
          exact j_norm (l := [(0, .ref 206), (1, .int p1), (2, .int ((((1 : Int32) <<< (v2 &&& (31 : Int32))) - (1 : Int32)))), (3, .int a3), (4, .int ((a9 + (1 : Int32))))]) ⟨rfl, rfl, rfl, rfl, rfl, trivial⟩ (zz_nd_of (ks := [0, 1, 2, 3, 4]) rfl (by decide)) (hg11 (a9 + (1 : Int32)) s14 hF)
        · refine j_icmp_ne (pc2 := 49) rfl rfl hF (fun hF => ?_) (fun hF => ?_)
          · exact j_norm (l := [(0, .ref 206), (1, .int p1), (2, .int ((((1 : Int32) <<< (v2 &&& (31 : Int32))) - (1 : Int32)))), (3, .int a3), (4, .int a9)]) ⟨rfl, rfl, rfl, rfl, rfl, trivial⟩ (zz_nd_of (ks := [0, 1, 2, 3, 4]) rfl (by decide)) (hk15 s12 hF)
          · refine w_aload_n (pc2 := 50) rfl rfl rfl ?_
            refine w_iload (pc2 := 52) rfl rfl rfl ?_
            refine w_iload_n (pc2 := 53) rfl rfl rfl ?_
            refine j_cIv (pc2 := 56) (k := 4) (c := zt_m6) (as := [.ref 206, .int a9, .int p1]) (rest := []) rfl rfl rfl rfl zk_cFore.look rfl (Nat.le_of_ble_eq_true rfl) (Nat.le_of_ble_eq_true rfl) (fun w1 h1 => ok_Fore_staysQuiet h1) (by decide) rfl hF (fun v17 s16 hF => ?_)
            refine j_if_eq (pc2 := 59) rfl rfl hF (fun hF => ?_) (fun hF => ?_)
            · exact j_norm (l := [(0, .ref 206), (1, .int p1), (2, .int ((((1 : Int32) <<< (v2 &&& (31 : Int32))) - (1 : Int32)))), (3, .int a3), (4, .int a9)]) ⟨rfl, rfl, rfl, rfl, rfl, trivial⟩ (zz_nd_of (ks := [0, 1, 2, 3, 4]) rfl (by decide)) (hk15 s16 hF)
            · refine w_iload (pc2 := 61) rfl rfl rfl ?_
              exact j_iret rfl rfl hF
noncomputable def f_Fore_bestHome_B16 (p1 : Int32) (k8 : (Int32 × Int32) → ZS → Option (Int32 × ZS)) (a9 : Int32 × Int32 × Int32) (s10 : ZS) (g11 : (Int32 × Int32 × Int32) → ZS → Option (Int32 × ZS)) : Option (Int32 × ZS) := zgi (s10.1 4 3) (fun (v12 : Int32) => (if v12 ≤ a9.2.2 then k8 (a9.1, a9.2.1) s10 else zcv (f_Fore_restart s10) (fun (s13 : ZS) => zwi s13 202 7 a9.2.2 (fun (s14 : ZS) => zcl (f_Fore_rowsIn p1 s14) (fun (v16 : Int32) (s15 : ZS) => zjn (A := Int32 × Int32) (fun (a18 : Int32 × Int32) (s17 : ZS) => g11 (a18.1, a18.2, (a9.2.2 + (1 : Int32))) s17) (fun (k19 : (Int32 × Int32) → ZS → Option (Int32 × ZS)) => (if v16 ≤ a9.1 then k19 (a9.1, a9.2.1) s15 else k19 (v16, a9.2.2) s15)))))))
noncomputable def f_Fore_bestHome (p1 : Int32) (p2 : Int32) (s0 : ZS) : Option (Int32 × ZS) := zcv (f_Fore_restart s0) (fun (s3 : ZS) => zcl (f_Fore_rowsIn p1 s3) (fun (v5 : Int32) (s4 : ZS) => zjn (A := Int32 × Int32) (fun (a7 : Int32 × Int32) (s6 : ZS) => (if ¬ p2 = 0 then some (a7.1, s6) else some (a7.2, s6))) (fun (k8 : (Int32 × Int32) → ZS → Option (Int32 × ZS)) => zlp zN (f_Fore_bestHome_B16 p1 k8) (v5, (-1 : Int32), (0 : Int32)) s4)))
set_option maxHeartbeats 4000000 in
set_option maxRecDepth 100000 in
theorem ok_Fore_bestHome {L : Nat} {xs : Nat → Int32} {b : ZH} {p1 : Int32} {p2 : Int32} {s0 : ZS} {w : Int32 × ZS} (hF : f_Fore_bestHome p1 p2 s0 = some w) : zz_ct zt_ms zt_nm zt_df (zt_X L xs) 5 zt_m7 [.ref 206, .int p1, .int p2] (zk b s0) (qI b w) := by
  unfold f_Fore_bestHome at hF
  change zz_wp zt_ms zt_nm zt_df (zt_X L xs) 5 zt_m7 0 [(0, .ref 206), (1, .int p1), (2, .int p2)] [] (zk b s0) (qI b w)
  refine w_aload_n (pc2 := 1) rfl rfl rfl ?_
  refine j_cVv (pc2 := 4) (k := 1) (c := zt_m2) (as := [.ref 206]) (rest := []) rfl rfl rfl rfl zk_cFore.look rfl (Nat.le_of_ble_eq_true rfl) (Nat.le_of_ble_eq_true rfl) (fun w1 h1 => ok_Fore_restart h1) (by decide) rfl hF (fun s3 hF => ?_)
  refine w_aload_n (pc2 := 5) rfl rfl rfl ?_
  refine w_iload_n (pc2 := 6) rfl rfl rfl ?_
  refine j_cIv (pc2 := 9) (k := 4) (c := zt_m3) (as := [.ref 206, .int p1]) (rest := []) rfl rfl rfl rfl zk_cFore.look rfl (Nat.le_of_ble_eq_true rfl) (Nat.le_of_ble_eq_true rfl) (fun w1 h1 => ok_Fore_rowsIn h1) (by decide) rfl hF (fun v5 s4 hF => ?_)
  refine w_istore_n (pc2 := 10) (ls2 := [(3, .int v5), (0, .ref 206), (1, .int p1), (2, .int p2)]) rfl rfl rfl ?_
  refine w_iconst (pc2 := 11) rfl rfl ?_
  refine w_istore (pc2 := 13) (ls2 := [(4, .int (-1 : Int32)), (3, .int v5), (0, .ref 206), (1, .int p1), (2, .int p2)]) rfl rfl rfl ?_
  refine w_iconst (pc2 := 14) rfl rfl ?_
  refine w_istore (pc2 := 16) (ls2 := [(5, .int (0 : Int32)), (4, .int (-1 : Int32)), (3, .int v5), (0, .ref 206), (1, .int p1), (2, .int p2)]) rfl rfl rfl ?_
  refine j_join (P := fun (a7 : Int32 × Int32) (s6 : ZS) => zz_wp zt_ms zt_nm zt_df (zt_X L xs) 5 zt_m7 70 [(2, .int p2), (3, .int a7.1), (4, .int a7.2)] [] (zk b s6) (qI b w)) hF (fun a7 s6 hF => ?_) (fun k8 hk8 hF => ?_)
  · refine w_iload_n (pc2 := 71) rfl rfl rfl ?_
    refine j_if_ne (pc2 := 74) rfl rfl hF (fun hF => ?_) (fun hF => ?_)
    · refine w_iload_n (pc2 := 80) rfl rfl rfl ?_
      exact j_iret rfl rfl hF
    · refine w_iload (pc2 := 76) rfl rfl rfl ?_
      refine w_goto rfl ?_
      exact j_iret rfl rfl hF
  · refine j_norm (l := [(0, .ref 206), (1, .int p1), (2, .int p2), (3, .int v5), (4, .int (-1 : Int32)), (5, .int (0 : Int32))]) ⟨rfl, rfl, rfl, rfl, rfl, rfl, trivial⟩ (zz_nd_of (ks := [0, 1, 2, 3, 4, 5]) rfl (by decide)) ?_
    refine j_loop (P := fun (a9 : Int32 × Int32 × Int32) (s10 : ZS) => zz_wp zt_ms zt_nm zt_df (zt_X L xs) 5 zt_m7 16 [(0, .ref 206), (1, .int p1), (2, .int p2), (3, .int a9.1), (4, .int a9.2.1), (5, .int a9.2.2)] [] (zk b s10) (qI b w)) hF (fun a9 s10 g11 hg11 hF => ?_)
    unfold f_Fore_bestHome_B16 at hF
    refine w_iload (pc2 := 18) rfl rfl rfl ?_
    refine w_aload_n (pc2 := 19) rfl rfl rfl ?_
    refine w_getfield (pc2 := 22) rfl zk_cFore rfl rfl rfl ?_
    refine w_getfield (pc2 := 25) rfl (zk_cWorld zk_w3) rfl rfl rfl ?_
    refine j_geti (pc2 := 28) rfl (zk_cSmithy zk_sm4) rfl rfl rfl hF (fun v12 hF => ?_)
    refine j_icmp_ge (pc2 := 31) rfl rfl hF (fun hF => ?_) (fun hF => ?_)
    · exact j_norm (l := [(2, .int p2), (3, .int a9.1), (4, .int a9.2.1)]) ⟨rfl, rfl, rfl, trivial⟩ (zz_nd_of (ks := [2, 3, 4]) rfl (by decide)) (hk8 (a9.1, a9.2.1) s10 hF)
    · refine w_aload_n (pc2 := 32) rfl rfl rfl ?_
      refine j_cVv (pc2 := 35) (k := 1) (c := zt_m2) (as := [.ref 206]) (rest := []) rfl rfl rfl rfl zk_cFore.look rfl (Nat.le_of_ble_eq_true rfl) (Nat.le_of_ble_eq_true rfl) (fun w1 h1 => ok_Fore_restart h1) (by decide) rfl hF (fun s13 hF => ?_)
      refine w_aload_n (pc2 := 36) rfl rfl rfl ?_
      refine w_getfield (pc2 := 39) rfl zk_cFore rfl rfl rfl ?_
      refine w_iload (pc2 := 41) rfl rfl rfl ?_
      refine j_puti (pc2 := 44) (j := 7) rfl zk_cMill rfl (Nat.le_of_ble_eq_true rfl) rfl zk_wMill_7 (by decide) rfl hF (fun s14 hF => ?_)
      refine w_aload_n (pc2 := 45) rfl rfl rfl ?_
      refine w_iload_n (pc2 := 46) rfl rfl rfl ?_
      refine j_cIv (pc2 := 49) (k := 4) (c := zt_m3) (as := [.ref 206, .int p1]) (rest := []) rfl rfl rfl rfl zk_cFore.look rfl (Nat.le_of_ble_eq_true rfl) (Nat.le_of_ble_eq_true rfl) (fun w1 h1 => ok_Fore_rowsIn h1) (by decide) rfl hF (fun v16 s15 hF => ?_)
      refine w_istore (pc2 := 51) (ls2 := [(6, .int v16), (0, .ref 206), (1, .int p1), (2, .int p2), (3, .int a9.1), (4, .int a9.2.1), (5, .int a9.2.2)]) rfl rfl rfl ?_
      refine w_iload (pc2 := 53) rfl rfl rfl ?_
      refine w_iload_n (pc2 := 54) rfl rfl rfl ?_
      refine j_join (P := fun (a18 : Int32 × Int32) (s17 : ZS) => zz_wp zt_ms zt_nm zt_df (zt_X L xs) 5 zt_m7 64 [(0, .ref 206), (1, .int p1), (2, .int p2), (3, .int a18.1), (4, .int a18.2), (5, .int a9.2.2)] [] (zk b s17) (qI b w)) hF (fun a18 s17 hF => ?_) (fun k19 hk19 hF => ?_)
      · refine w_iinc (pc2 := 67) (ls2 := [(5, .int ((a9.2.2 + (1 : Int32)))), (0, .ref 206), (1, .int p1), (2, .int p2), (3, .int a18.1), (4, .int a18.2)]) rfl rfl rfl rfl ?_
        refine w_goto rfl ?_
        exact j_norm (l := [(0, .ref 206), (1, .int p1), (2, .int p2), (3, .int a18.1), (4, .int a18.2), (5, .int ((a9.2.2 + (1 : Int32))))]) ⟨rfl, rfl, rfl, rfl, rfl, rfl, trivial⟩ (zz_nd_of (ks := [0, 1, 2, 3, 4, 5]) rfl (by decide)) (hg11 (a18.1, a18.2, (a9.2.2 + (1 : Int32))) s17 hF)
      · refine j_icmp_le (pc2 := 57) rfl rfl hF (fun hF => ?_) (fun hF => ?_)
        · exact j_norm (l := [(0, .ref 206), (1, .int p1), (2, .int p2), (3, .int a9.1), (4, .int a9.2.1), (5, .int a9.2.2)]) ⟨rfl, rfl, rfl, rfl, rfl, rfl, trivial⟩ (zz_nd_of (ks := [0, 1, 2, 3, 4, 5]) rfl (by decide)) (hk19 (a9.1, a9.2.1) s15 hF)
        · refine w_iload (pc2 := 59) rfl rfl rfl ?_
          refine w_istore_n (pc2 := 60) (ls2 := [(3, .int v16), (6, .int v16), (0, .ref 206), (1, .int p1), (2, .int p2), (4, .int a9.2.1), (5, .int a9.2.2)]) rfl rfl rfl ?_
          refine w_iload (pc2 := 62) rfl rfl rfl ?_
          refine w_istore (pc2 := 64) (ls2 := [(4, .int a9.2.2), (3, .int v16), (6, .int v16), (0, .ref 206), (1, .int p1), (2, .int p2), (5, .int a9.2.2)]) rfl rfl rfl ?_
          exact j_norm (l := [(0, .ref 206), (1, .int p1), (2, .int p2), (3, .int v16), (4, .int a9.2.2), (5, .int a9.2.2)]) ⟨rfl, rfl, rfl, rfl, rfl, rfl, trivial⟩ (zz_nd_of (ks := [0, 1, 2, 3, 4, 5]) rfl (by decide)) (hk19 (v16, a9.2.2) s15 hF)
