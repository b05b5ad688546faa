/-! What methods do as functions of the state, and that the small machine does so. -/
noncomputable def f_Fore_drawnDoors_B32 (p2 : Int32) (p3 : Int32) (k15 : Int64 → ZS → Option (Int32 × ZS)) (a20 : Int64 × Int32) (s21 : ZS) (g22 : (Int64 × Int32) → ZS → Option (Int32 × ZS)) : Option (Int32 × ZS) := (if p2 ≤ a20.2 then k15 a20.1 s21 else zj0 (fun (s23 : ZS) => zcl (f_Mill_passDay 207 s23) (fun (v26 : Int32) (s25 : ZS) => g22 ((((a20.1 * (1103515245 : Int64)) + (12345 : Int64)) - ((a20.1 * (1103515245 : Int64)) + (12345 : Int64)) / (2147483648 : Int64) * (2147483648 : Int64)), (a20.2 + (1 : Int32))) s25)) (fun (k24 : ZS → Option (Int32 × ZS)) => (if 0 ≤ (lg_cmp ((((((a20.1 * (1103515245 : Int64)) + (12345 : Int64)) - ((a20.1 * (1103515245 : Int64)) + (12345 : Int64)) / (2147483648 : Int64) * (2147483648 : Int64)) / (65536 : Int64)) - ((((a20.1 * (1103515245 : Int64)) + (12345 : Int64)) - ((a20.1 * (1103515245 : Int64)) + (12345 : Int64)) / (2147483648 : Int64) * (2147483648 : Int64)) / (65536 : Int64)) / (100 : Int64) * (100 : Int64))) (p3.toInt64)) then k24 s21 else zcl (f_Mill_openDoor 207 s21) (fun (v28 : Int32) (s27 : ZS) => k24 s27))))
noncomputable def f_Fore_drawnDoors_B19 (p1 : Int32) (p2 : Int32) (p3 : Int32) (k8 : (Int32 × Int32) → ZS → Option (Int32 × ZS)) (a9 : Int32 × Int32 × Int64 × Int32) (s10 : ZS) (g11 : (Int32 × Int32 × Int64 × Int32) → ZS → Option (Int32 × ZS)) : Option (Int32 × ZS) := (if p1 ≤ a9.2.2.2 then k8 (a9.1, a9.2.1) s10 else zcv (f_Fore_restart s10) (fun (s12 : ZS) => zjn (A := Int64) (fun (a14 : Int64) (s13 : ZS) => zgi (s13.1 207 1) (fun (v16 : Int32) => zgi (s13.1 10 1) (fun (v17 : Int32) => zcl (f_State_allWide 207 s13) (fun (v19 : Int32) (s18 : ZS) => g11 ((a9.1 + (v16 - v17)), (a9.2.1 + v19), a14, (a9.2.2.2 + (1 : Int32))) s18)))) (fun (k15 : Int64 → ZS → Option (Int32 × ZS)) => zlp zN (f_Fore_drawnDoors_B32 p2 p3 k15) (a9.2.2.1, (0 : Int32)) s12)))
noncomputable def f_Fore_drawnDoors (p1 : Int32) (p2 : Int32) (p3 : Int32) (p4 : Int32) (s0 : ZS) : Option (Int32 × ZS) := zgi (s0.1 3 7) (fun (v5 : Int32) => zjn (A := Int32 × Int32) (fun (a7 : Int32 × Int32) (s6 : ZS) => (if ¬ p4 = 0 then some (a7.2, s6) else some (a7.1, s6))) (fun (k8 : (Int32 × Int32) → ZS → Option (Int32 × ZS)) => zlp zN (f_Fore_drawnDoors_B19 p1 p2 p3 k8) ((0 : Int32), (0 : Int32), (v5.toInt64), (0 : Int32)) s0))
set_option maxHeartbeats 4000000 in
set_option maxRecDepth 100000 in
theorem ok_Fore_drawnDoors {L : Nat} {xs : Nat → Int32} {b : ZH} {p1 : Int32} {p2 : Int32} {p3 : Int32} {p4 : Int32} {s0 : ZS} {w : Int32 × ZS} (hF : f_Fore_drawnDoors p1 p2 p3 p4 s0 = some w) : zz_ct zt_ms zt_nm zt_df (zt_X L xs) 4 zt_m18 [.ref 206, .int p1, .int p2, .int p3, .int p4] (zk b s0) (qI b w) := by
  unfold f_Fore_drawnDoors at hF
  change zz_wp zt_ms zt_nm zt_df (zt_X L xs) 4 zt_m18 0 [(0, .ref 206), (1, .int p1), (2, .int p2), (3, .int p3), (4, .int p4)] [] (zk b s0) (qI b w)
  refine w_iconst (pc2 := 1) rfl rfl ?_
  refine w_istore (pc2 := 3) (ls2 := [(5, .int (0 : Int32)), (0, .ref 206), (1, .int p1), (2, .int p2), (3, .int p3), (4, .int p4)]) rfl rfl rfl ?_
  refine w_iconst (pc2 := 4) rfl rfl ?_
  refine w_istore (pc2 := 6) (ls2 := [(6, .int (0 : Int32)), (5, .int (0 : Int32)), (0, .ref 206), (1, .int p1), (2, .int p2), (3, .int p3), (4, .int p4)]) rfl rfl rfl ?_
  refine w_aload_n (pc2 := 7) rfl rfl rfl ?_
  refine w_getfield (pc2 := 10) rfl zk_cFore rfl rfl rfl ?_
  refine j_geti (pc2 := 13) rfl (zk_cWorld zk_w3) rfl rfl rfl hF (fun v5 hF => ?_)
  refine w_i2l (pc2 := 14) rfl rfl ?_
  refine w_lstore (pc2 := 16) (ls2 := [(7, .long (v5.toInt64)), (6, .int (0 : Int32)), (5, .int (0 : Int32)), (0, .ref 206), (1, .int p1), (2, .int p2), (3, .int p3), (4, .int p4)]) rfl rfl rfl ?_
  refine w_iconst (pc2 := 17) rfl rfl ?_
  refine w_istore (pc2 := 19) (ls2 := [(9, .int (0 : Int32)), (7, .long (v5.toInt64)), (6, .int (0 : Int32)), (5, .int (0 : Int32)), (0, .ref 206), (1, .int p1), (2, .int p2), (3, .int p3), (4, .int p4)]) rfl rfl rfl ?_
  refine j_join (P := fun (a7 : Int32 × Int32) (s6 : ZS) => zz_wp zt_ms zt_nm zt_df (zt_X L xs) 4 zt_m18 141 [(4, .int p4), (5, .int a7.1), (6, .int a7.2)] [] (zk b s6) (qI b w)) hF (fun a7 s6 hF => ?_) (fun k8 hk8 hF => ?_)
  · refine w_iload (pc2 := 143) rfl rfl rfl ?_
    refine j_if_ne (pc2 := 146) rfl rfl hF (fun hF => ?_) (fun hF => ?_)
    · refine w_iload (pc2 := 153) rfl rfl rfl ?_
      exact j_iret rfl rfl hF
    · refine w_iload (pc2 := 148) rfl rfl rfl ?_
      refine w_goto rfl ?_
      exact j_iret rfl rfl hF
  · refine j_norm (l := [(0, .ref 206), (1, .int p1), (2, .int p2), (3, .int p3), (4, .int p4), (5, .int (0 : Int32)), (6, .int (0 : Int32)), (7, .long (v5.toInt64)), (9, .int (0 : Int32))]) ⟨rfl, rfl, rfl, rfl, rfl, rfl, rfl, rfl, rfl, trivial⟩ (zz_nd_of (ks := [0, 1, 2, 3, 4, 5, 6, 7, 9]) rfl (by decide)) ?_
    refine j_loop (P := fun (a9 : Int32 × Int32 × Int64 × Int32) (s10 : ZS) => zz_wp zt_ms zt_nm zt_df (zt_X L xs) 4 zt_m18 19 [(0, .ref 206), (1, .int p1), (2, .int p2), (3, .int p3), (4, .int p4), (5, .int a9.1), (6, .int a9.2.1), (7, .long a9.2.2.1), (9, .int a9.2.2.2)] [] (zk b s10) (qI b w)) hF (fun a9 s10 g11 hg11 hF => ?_)
    unfold f_Fore_drawnDoors_B19 at hF
    refine w_iload (pc2 := 21) rfl rfl rfl ?_
    refine w_iload_n (pc2 := 22) rfl rfl rfl ?_
    refine j_icmp_ge (pc2 := 25) rfl rfl hF (fun hF => ?_) (fun hF => ?_)
    · exact j_norm (l := [(4, .int p4), (5, .int a9.1), (6, .int a9.2.1)]) ⟨rfl, rfl, rfl, trivial⟩ (zz_nd_of (ks := [4, 5, 6]) rfl (by decide)) (hk8 (a9.1, a9.2.1) s10 hF)
    · refine w_aload_n (pc2 := 26) rfl rfl rfl ?_
      refine j_cVv (pc2 := 29) (k := 1) (c := zt_m2) (as := [.ref 206]) (rest := []) rfl rfl rfl rfl zk_cFore.look rfl (Nat.le_of_ble_eq_true rfl) (Nat.le_of_ble_eq_true rfl) (fun w1 h1 => ok_Fore_restart h1) (by decide) rfl hF (fun s12 hF => ?_)
      refine w_iconst (pc2 := 30) rfl rfl ?_
      refine w_istore (pc2 := 32) (ls2 := [(10, .int (0 : Int32)), (0, .ref 206), (1, .int p1), (2, .int p2), (3, .int p3), (4, .int p4), (5, .int a9.1), (6, .int a9.2.1), (7, .long a9.2.2.1), (9, .int a9.2.2.2)]) rfl rfl rfl ?_
      refine j_join (P := fun (a14 : Int64) (s13 : ZS) => zz_wp zt_ms zt_nm zt_df (zt_X L xs) 4 zt_m18 100 [(0, .ref 206), (1, .int p1), (2, .int p2), (3, .int p3), (4, .int p4), (5, .int a9.1), (6, .int a9.2.1), (7, .long a14), (9, .int a9.2.2.2)] [] (zk b s13) (qI b w)) hF (fun a14 s13 hF => ?_) (fun k15 hk15 hF => ?_)
      · refine w_iload (pc2 := 102) rfl rfl rfl ?_
        refine w_aload_n (pc2 := 103) rfl rfl rfl ?_
        refine w_getfield (pc2 := 106) rfl zk_cFore rfl rfl rfl ?_
        refine j_geti (pc2 := 109) rfl (zk_cState zk_st207) rfl rfl rfl hF (fun v16 hF => ?_)
        refine w_aload_n (pc2 := 110) rfl rfl rfl ?_
        refine w_getfield (pc2 := 113) rfl zk_cFore rfl rfl rfl ?_
        refine w_getfield (pc2 := 116) rfl (zk_cWorld zk_w3) rfl rfl rfl ?_
        refine j_geti (pc2 := 119) rfl (zk_cState zk_st10) rfl rfl rfl hF (fun v17 hF => ?_)
        refine w_isub (pc2 := 120) rfl rfl ?_
        refine w_iadd (pc2 := 121) rfl rfl ?_
        refine w_istore (pc2 := 123) (ls2 := [(5, .int ((a9.1 + (v16 - v17)))), (0, .ref 206), (1, .int p1), (2, .int p2), (3, .int p3), (4, .int p4), (6, .int a9.2.1), (7, .long a14), (9, .int a9.2.2.2)]) rfl rfl rfl ?_
        refine w_iload (pc2 := 125) rfl rfl rfl ?_
        refine w_aload_n (pc2 := 126) rfl rfl rfl ?_
        refine w_getfield (pc2 := 129) rfl zk_cFore rfl rfl rfl ?_
        refine j_cIv (pc2 := 132) (k := 0) (c := zt_m86) (as := [.ref 207]) (rest := [.int a9.2.1]) rfl rfl rfl rfl (zk_cState zk_st207).look rfl (Nat.le_of_ble_eq_true rfl) (Nat.le_of_ble_eq_true rfl) (fun w1 h1 => ok_State_allWide zk_st207 h1) (by decide) rfl hF (fun v19 s18 hF => ?_)
        refine w_iadd (pc2 := 133) rfl rfl ?_
        refine w_istore (pc2 := 135) (ls2 := [(6, .int (a9.2.1 + v19)), (5, .int ((a9.1 + (v16 - v17)))), (0, .ref 206), (1, .int p1), (2, .int p2), (3, .int p3), (4, .int p4), (7, .long a14), (9, .int a9.2.2.2)]) rfl rfl rfl ?_
        refine w_iinc (pc2 := 138) (ls2 := [(9, .int ((a9.2.2.2 + (1 : Int32)))), (6, .int (a9.2.1 + v19)), (5, .int ((a9.1 + (v16 - v17)))), (0, .ref 206), (1, .int p1), (2, .int p2), (3, .int p3), (4, .int p4), (7, .long a14)]) rfl rfl rfl rfl ?_
        refine w_goto rfl ?_
        exact j_norm (l := [(0, .ref 206), (1, .int p1), (2, .int p2), (3, .int p3), (4, .int p4), (5, .int ((a9.1 + (v16 - v17)))), (6, .int (a9.2.1 + v19)), (7, .long a14), (9, .int ((a9.2.2.2 + (1 : Int32))))]) ⟨rfl, rfl, rfl, rfl, rfl, rfl, rfl, rfl, rfl, trivial⟩ (zz_nd_of (ks := [0, 1, 2, 3, 4, 5, 6, 7, 9]) rfl (by decide)) (hg11 ((a9.1 + (v16 - v17)), (a9.2.1 + v19), a14, (a9.2.2.2 + (1 : Int32))) s18 hF)
      · refine j_norm (l := [(0, .ref 206), (1, .int p1), (2, .int p2), (3, .int p3), (4, .int p4), (5, .int a9.1), (6, .int a9.2.1), (7, .long a9.2.2.1), (9, .int a9.2.2.2), (10, .int (0 : Int32))]) ⟨rfl, rfl, rfl, rfl, rfl, rfl, rfl, rfl, rfl, rfl, trivial⟩ (zz_nd_of (ks := [0, 1, 2, 3, 4, 5, 6, 7, 9, 10]) rfl (by decide)) ?_
        refine j_loop (P := fun (a20 : Int64 × Int32) (s21 : ZS) => zz_wp zt_ms zt_nm zt_df (zt_X L xs) 4 zt_m18 32 [(0, .ref 206), (1, .int p1), (2, .int p2), (3, .int p3), (4, .int p4), (5, .int a9.1), (6, .int a9.2.1), (7, .long a20.1), (9, .int a9.2.2.2), (10, .int a20.2)] [] (zk b s21) (qI b w)) hF (fun a20 s21 g22 hg22 hF => ?_)
        unfold f_Fore_drawnDoors_B32 at hF
        refine w_iload (pc2 := 34) rfl rfl rfl ?_
        refine w_iload_n (pc2 := 35) rfl rfl rfl ?_
        refine j_icmp_ge (pc2 := 38) rfl rfl hF (fun hF => ?_) (fun hF => ?_)
        · exact j_norm (l := [(0, .ref 206), (1, .int p1), (2, .int p2), (3, .int p3), (4, .int p4), (5, .int a9.1), (6, .int a9.2.1), (7, .long a20.1), (9, .int a9.2.2.2)]) ⟨rfl, rfl, rfl, rfl, rfl, rfl, rfl, rfl, rfl, trivial⟩ (zz_nd_of (ks := [0, 1, 2, 3, 4, 5, 6, 7, 9]) rfl (by decide)) (hk15 a20.1 s21 hF)
        · refine w_lload (pc2 := 40) rfl rfl rfl ?_
          refine w_ldc2_w (pc2 := 43) rfl rfl ?_
          refine w_lmul (pc2 := 44) rfl rfl ?_
          refine w_ldc2_w (pc2 := 47) rfl rfl ?_
          refine w_ladd (pc2 := 48) rfl rfl ?_
          refine w_ldc2_w (pc2 := 51) rfl rfl ?_
          refine w_lrem (pc2 := 52) rfl (by decide) rfl ?_
          refine w_lstore (pc2 := 54) (ls2 := [(7, .long ((((a20.1 * (1103515245 : Int64)) + (12345 : Int64)) - ((a20.1 * (1103515245 : Int64)) + (12345 : Int64)) / (2147483648 : Int64) * (2147483648 : Int64)))), (0, .ref 206), (1, .int p1), (2, .int p2), (3, .int p3), (4, .int p4), (5, .int a9.1), (6, .int a9.2.1), (9, .int a9.2.2.2), (10, .int a20.2)]) rfl rfl rfl ?_
          refine w_lload (pc2 := 56) rfl rfl rfl ?_
          refine w_ldc2_w (pc2 := 59) rfl rfl ?_
          refine w_ldiv (pc2 := 60) rfl (by decide) rfl ?_
          refine w_ldc2_w (pc2 := 63) rfl rfl ?_
          refine w_lrem (pc2 := 64) rfl (by decide) rfl ?_
          refine w_iload_n (pc2 := 65) rfl rfl rfl ?_
          refine w_i2l (pc2 := 66) rfl rfl ?_
          refine w_lcmp (pc2 := 67) rfl rfl ?_
          refine j_join0 (P := fun (s23 : ZS) => zz_wp zt_ms zt_nm zt_df (zt_X L xs) 4 zt_m18 82 [(0, .ref 206), (1, .int p1), (2, .int p2), (3, .int p3), (4, .int p4), (5, .int a9.1), (6, .int a9.2.1), (7, .long ((((a20.1 * (1103515245 : Int64)) + (12345 : Int64)) - ((a20.1 * (1103515245 : Int64)) + (12345 : Int64)) / (2147483648 : Int64) * (2147483648 : Int64)))), (9, .int a9.2.2.2), (10, .int a20.2)] [] (zk b s23) (qI b w)) hF (fun s23 hF => ?_) (fun k24 hk24 hF => ?_)
          · refine w_aload_n (pc2 := 83) rfl rfl rfl ?_
            refine w_getfield (pc2 := 86) rfl zk_cFore rfl rfl rfl ?_
            refine w_aload_n (pc2 := 87) rfl rfl rfl ?_
            refine w_getfield (pc2 := 90) rfl zk_cFore rfl rfl rfl ?_
            refine j_cIv (pc2 := 93) (k := 3) (c := zt_m41) (as := [.ref 202, .ref 207]) (rest := []) rfl rfl rfl rfl zk_cMill.look rfl (Nat.le_of_ble_eq_true rfl) (Nat.le_of_ble_eq_true rfl) (fun w1 h1 => ok_Mill_passDay zk_st207 h1) (by decide) rfl hF (fun v26 s25 hF => ?_)
            refine w_pop (pc2 := 94) rfl rfl rfl ?_
            refine w_iinc (pc2 := 97) (ls2 := [(10, .int ((a20.2 + (1 : Int32)))), (0, .ref 206), (1, .int p1), (2, .int p2), (3, .int p3), (4, .int p4), (5, .int a9.1), (6, .int a9.2.1), (7, .long ((((a20.1 * (1103515245 : Int64)) + (12345 : Int64)) - ((a20.1 * (1103515245 : Int64)) + (12345 : Int64)) / (2147483648 : Int64) * (2147483648 : Int64)))), (9, .int a9.2.2.2)]) rfl rfl rfl rfl ?_
            refine w_goto rfl ?_
            exact j_norm (l := [(0, .ref 206), (1, .int p1), (2, .int p2), (3, .int p3), (4, .int p4), (5, .int a9.1), (6, .int a9.2.1), (7, .long ((((a20.1 * (1103515245 : Int64)) + (12345 : Int64)) - ((a20.1 * (1103515245 : Int64)) + (12345 : Int64)) / (2147483648 : Int64) * (2147483648 : Int64)))), (9, .int a9.2.2.2), (10, .int ((a20.2 + (1 : Int32))))]) ⟨rfl, rfl, rfl, rfl, rfl, rfl, rfl, rfl, rfl, rfl, trivial⟩ (zz_nd_of (ks := [0, 1, 2, 3, 4, 5, 6, 7, 9, 10]) rfl (by decide)) (hg22 ((((a20.1 * (1103515245 : Int64)) + (12345 : Int64)) - ((a20.1 * (1103515245 : Int64)) + (12345 : Int64)) / (2147483648 : Int64) * (2147483648 : Int64)), (a20.2 + (1 : Int32))) s25 hF)
          · refine j_if_ge (pc2 := 70) rfl rfl hF (fun hF => ?_) (fun hF => ?_)
            · exact j_norm (l := [(0, .ref 206), (1, .int p1), (2, .int p2), (3, .int p3), (4, .int p4), (5, .int a9.1), (6, .int a9.2.1), (7, .long ((((a20.1 * (1103515245 : Int64)) + (12345 : Int64)) - ((a20.1 * (1103515245 : Int64)) + (12345 : Int64)) / (2147483648 : Int64) * (2147483648 : Int64)))), (9, .int a9.2.2.2), (10, .int a20.2)]) ⟨rfl, rfl, rfl, rfl, rfl, rfl, rfl, rfl, rfl, rfl, trivial⟩ (zz_nd_of (ks := [0, 1, 2, 3, 4, 5, 6, 7, 9, 10]) rfl (by decide)) (hk24 s21 hF)
            · refine w_aload_n (pc2 := 71) rfl rfl rfl ?_
              refine w_getfield (pc2 := 74) rfl zk_cFore rfl rfl rfl ?_
              refine w_aload_n (pc2 := 75) rfl rfl rfl ?_
              refine w_getfield (pc2 := 78) rfl zk_cFore rfl rfl rfl ?_
              refine j_cIv (pc2 := 81) (k := 1) (c := zt_m48) (as := [.ref 202, .ref 207]) (rest := []) rfl rfl rfl rfl zk_cMill.look rfl (Nat.le_of_ble_eq_true rfl) (Nat.le_of_ble_eq_true rfl) (fun w1 h1 => ok_Mill_openDoor zk_st207 h1) (by decide) rfl hF (fun v28 s27 hF => ?_)
              refine w_pop (pc2 := 82) rfl rfl rfl ?_
              exact j_norm (l := [(0, .ref 206), (1, .int p1), (2, .int p2), (3, .int p3), (4, .int p4), (5, .int a9.1), (6, .int a9.2.1), (7, .long ((((a20.1 * (1103515245 : Int64)) + (12345 : Int64)) - ((a20.1 * (1103515245 : Int64)) + (12345 : Int64)) / (2147483648 : Int64) * (2147483648 : Int64)))), (9, .int a9.2.2.2), (10, .int a20.2)]) ⟨rfl, rfl, rfl, rfl, rfl, rfl, rfl, rfl, rfl, rfl, trivial⟩ (zz_nd_of (ks := [0, 1, 2, 3, 4, 5, 6, 7, 9, 10]) rfl (by decide)) (hk24 s27 hF)
noncomputable def f_Hand_raised (p1 : Int32) (p2 : Int32) (p3 : Int32) (s0 : ZS) : Option (Int32 × ZS) := zcl (f_Smithy_weight 4 p1 p3 s0) (fun (v5 : Int32) (s4 : ZS) => some ((if (p2 + v5) < (999 : Int32) then (p2 + v5) else (999 : Int32)), s4))
set_option maxHeartbeats 4000000 in
set_option maxRecDepth 100000 in
theorem ok_Hand_raised {L : Nat} {xs : Nat → Int32} {b : ZH} {p1 : Int32} {p2 : Int32} {p3 : Int32} {s0 : ZS} {w : Int32 × ZS} (hF : f_Hand_raised p1 p2 p3 s0 = some w) : zz_ct zt_ms zt_nm zt_df (zt_X L xs) 1 zt_m22 [.ref 213, .int p1, .int p2, .int p3] (zk b s0) (qI b w) := by
  unfold f_Hand_raised at hF
  change zz_wp zt_ms zt_nm zt_df (zt_X L xs) 1 zt_m22 0 [(0, .ref 213), (1, .int p1), (2, .int p2), (3, .int p3)] [] (zk b s0) (qI b w)
  refine w_sipush (pc2 := 3) rfl rfl ?_
  refine w_iload_n (pc2 := 4) rfl rfl rfl ?_
  refine w_aload_n (pc2 := 5) rfl rfl rfl ?_
  refine w_getfield (pc2 := 8) rfl zk_cHand rfl rfl rfl ?_
  refine w_getfield (pc2 := 11) rfl (zk_cWorld zk_w3) rfl rfl rfl ?_
  refine w_iload_n (pc2 := 12) rfl rfl rfl ?_
  refine w_iload_n (pc2 := 13) rfl rfl rfl ?_
  refine j_cIv (pc2 := 16) (k := 0) (c := zt_m81) (as := [.ref 4, .int p1, .int p3]) (rest := [.int p2, .int (999 : Int32)]) rfl rfl rfl rfl (zk_cSmithy zk_sm4).look rfl (Nat.le_of_ble_eq_true rfl) (Nat.le_of_ble_eq_true rfl) (fun w1 h1 => ok_Smithy_weight zk_sm4 h1) (by decide) rfl hF (fun v5 s4 hF => ?_)
  refine w_iadd (pc2 := 17) rfl rfl ?_
  refine w_min (pc2 := 20) rfl (Nat.le_of_ble_eq_true rfl) rfl ?_
  exact j_iret rfl rfl hF
noncomputable def f_Hand_needed (p1 : Int32) (p2 : Int32) (p3 : Int32) (p4 : Int32) (s0 : ZS) : Option (Int32 × ZS) := zcl (f_Hand_raised p1 p3 p4 s0) (fun (v6 : Int32) (s5 : ZS) => zrd 5 p1 (s5.1 6) (fun (v7 : Int32) => (if v6 < v7 then (if v6 ≤ p3 then some ((1000000 : Int32), s5) else (if p2 < v6 then some ((1000000 : Int32), s5) else zrd 121 v6 (s5.1 214) (fun (v8 : Int32) => some (((1 : Int32) + v8), s5)))) else (if ¬ v6 = p2 then some ((1000000 : Int32), s5) else some ((1 : Int32), s5)))))
set_option maxHeartbeats 4000000 in
set_option maxRecDepth 100000 in
theorem ok_Hand_needed {L : Nat} {xs : Nat → Int32} {b : ZH} {p1 : Int32} {p2 : Int32} {p3 : Int32} {p4 : Int32} {s0 : ZS} {w : Int32 × ZS} (hF : f_Hand_needed p1 p2 p3 p4 s0 = some w) : zz_ct zt_ms zt_nm zt_df (zt_X L xs) 2 zt_m21 [.ref 213, .int p1, .int p2, .int p3, .int p4] (zk b s0) (qI b w) := by
  unfold f_Hand_needed at hF
  change zz_wp zt_ms zt_nm zt_df (zt_X L xs) 2 zt_m21 0 [(0, .ref 213), (1, .int p1), (2, .int p2), (3, .int p3), (4, .int p4)] [] (zk b s0) (qI b w)
  refine w_aload_n (pc2 := 1) rfl rfl rfl ?_
  refine w_iload_n (pc2 := 2) rfl rfl rfl ?_
  refine w_iload_n (pc2 := 3) rfl rfl rfl ?_
  refine w_iload (pc2 := 5) rfl rfl rfl ?_
  refine j_cIv (pc2 := 8) (k := 1) (c := zt_m22) (as := [.ref 213, .int p1, .int p3, .int p4]) (rest := []) rfl rfl rfl rfl zk_cHand.look rfl (Nat.le_of_ble_eq_true rfl) (Nat.le_of_ble_eq_true rfl) (fun w1 h1 => ok_Hand_raised h1) (by decide) rfl hF (fun v6 s5 hF => ?_)
  refine w_istore (pc2 := 10) (ls2 := [(5, .int v6), (0, .ref 213), (1, .int p1), (2, .int p2), (3, .int p3), (4, .int p4)]) rfl rfl rfl ?_
  refine w_iload (pc2 := 12) rfl rfl rfl ?_
  refine w_aload_n (pc2 := 13) rfl rfl rfl ?_
  refine w_getfield (pc2 := 16) rfl zk_cHand rfl rfl rfl ?_
  refine w_getfield (pc2 := 19) rfl (zk_cWorld zk_w3) rfl rfl rfl ?_
  refine w_getfield (pc2 := 22) rfl (zk_cSmithy zk_sm4) rfl rfl rfl ?_
  refine w_iload_n (pc2 := 23) rfl rfl rfl ?_
  refine j_iaload (pc2 := 24) (n := 5) rfl rfl (by omega) (by decide) rfl hF (fun v7 hF => ?_)
  refine j_icmp_lt (pc2 := 27) rfl rfl hF (fun hF => ?_) (fun hF => ?_)
  · refine w_iload (pc2 := 42) rfl rfl rfl ?_
    refine w_iload_n (pc2 := 43) rfl rfl rfl ?_
    refine j_icmp_le (pc2 := 46) rfl rfl hF (fun hF => ?_) (fun hF => ?_)
    · refine w_ldc (pc2 := 66) rfl rfl ?_
      exact j_iret rfl rfl hF
    · refine w_iload (pc2 := 48) rfl rfl rfl ?_
      refine w_iload_n (pc2 := 49) rfl rfl rfl ?_
      refine j_icmp_gt (pc2 := 52) rfl rfl hF (fun hF => ?_) (fun hF => ?_)
      · refine w_ldc (pc2 := 66) rfl rfl ?_
        exact j_iret rfl rfl hF
      · refine w_iconst (pc2 := 53) rfl rfl ?_
        refine w_aload_n (pc2 := 54) rfl rfl rfl ?_
        refine w_getfield (pc2 := 57) rfl zk_cHand rfl rfl rfl ?_
        refine w_iload (pc2 := 59) rfl rfl rfl ?_
        refine j_iaload (pc2 := 60) (n := 121) rfl rfl (by omega) (by decide) rfl hF (fun v8 hF => ?_)
        refine w_iadd (pc2 := 61) rfl rfl ?_
        refine w_goto rfl ?_
        exact j_iret rfl rfl hF
  · refine w_iload (pc2 := 29) rfl rfl rfl ?_
    refine w_iload_n (pc2 := 30) rfl rfl rfl ?_
    refine j_icmp_ne (pc2 := 33) rfl rfl hF (fun hF => ?_) (fun hF => ?_)
    · refine w_ldc (pc2 := 39) rfl rfl ?_
      exact j_iret rfl rfl hF
    · refine w_iconst (pc2 := 34) rfl rfl ?_
      refine w_goto rfl ?_
      exact j_iret rfl rfl hF
noncomputable def f_Hand_firstBringing_B3 (p1 : Int32) (p2 : Int32) (p3 : Int32) (a4 : Int32) (s5 : ZS) (g6 : Int32 → ZS → Option (Int32 × ZS)) : Option (Int32 × ZS) := zgi (s5.1 4 4) (fun (v7 : Int32) => (if v7 ≤ a4 then some ((-2 : Int32), s5) else zcl (f_Hand_needed p1 p2 p3 a4 s5) (fun (v9 : Int32) (s8 : ZS) => zrd 121 p3 (s8.1 214) (fun (v10 : Int32) => (if ¬ v9 = v10 then g6 (a4 + (1 : Int32)) s8 else some (a4, s8))))))
noncomputable def f_Hand_firstBringing (p1 : Int32) (p2 : Int32) (p3 : Int32) (s0 : ZS) : Option (Int32 × ZS) := zlp zN (f_Hand_firstBringing_B3 p1 p2 p3) (0 : Int32) s0
set_option maxHeartbeats 4000000 in
set_option maxRecDepth 100000 in
theorem ok_Hand_firstBringing {L : Nat} {xs : Nat → Int32} {b : ZH} {p1 : Int32} {p2 : Int32} {p3 : Int32} {s0 : ZS} {w : Int32 × ZS} (hF : f_Hand_firstBringing p1 p2 p3 s0 = some w) : zz_ct zt_ms zt_nm zt_df (zt_X L xs) 3 zt_m23 [.ref 213, .int p1, .int p2, .int p3] (zk b s0) (qI b w) := by
  unfold f_Hand_firstBringing at hF
  change zz_wp zt_ms zt_nm zt_df (zt_X L xs) 3 zt_m23 0 [(0, .ref 213), (1, .int p1), (2, .int p2), (3, .int p3)] [] (zk b s0) (qI b w)
  refine w_iconst (pc2 := 1) rfl rfl ?_
  refine w_istore (pc2 := 3) (ls2 := [(4, .int (0 : Int32)), (0, .ref 213), (1, .int p1), (2, .int p2), (3, .int p3)]) rfl rfl rfl ?_
  refine j_norm (l := [(0, .ref 213), (1, .int p1), (2, .int p2), (3, .int p3), (4, .int (0 : Int32))]) ⟨rfl, rfl, rfl, rfl, rfl, trivial⟩ (zz_nd_of (ks := [0, 1, 2, 3, 4]) rfl (by decide)) ?_
  refine j_loop (P := fun (a4 : Int32) (s5 : ZS) => zz_wp zt_ms zt_nm zt_df (zt_X L xs) 3 zt_m23 3 [(0, .ref 213), (1, .int p1), (2, .int p2), (3, .int p3), (4, .int a4)] [] (zk b s5) (qI b w)) hF (fun a4 s5 g6 hg6 hF => ?_)
  unfold f_Hand_firstBringing_B3 at hF
  refine w_iload (pc2 := 5) rfl rfl rfl ?_
  refine w_aload_n (pc2 := 6) rfl rfl rfl ?_
  refine w_getfield (pc2 := 9) rfl zk_cHand rfl rfl rfl ?_
  refine w_getfield (pc2 := 12) rfl (zk_cWorld zk_w3) rfl rfl rfl ?_
  refine j_geti (pc2 := 15) rfl (zk_cSmithy zk_sm4) rfl rfl rfl hF (fun v7 hF => ?_)
  refine j_icmp_ge (pc2 := 18) rfl rfl hF (fun hF => ?_) (fun hF => ?_)
  · refine w_bipush (pc2 := 47) rfl rfl ?_
    exact j_iret rfl rfl hF
  · refine w_aload_n (pc2 := 19) rfl rfl rfl ?_
    refine w_iload_n (pc2 := 20) rfl rfl rfl ?_
    refine w_iload_n (pc2 := 21) rfl rfl rfl ?_
    refine w_iload_n (pc2 := 22) rfl rfl rfl ?_
    refine w_iload (pc2 := 24) rfl rfl rfl ?_
    refine j_cIv (pc2 := 27) (k := 2) (c := zt_m21) (as := [.ref 213, .int p1, .int p2, .int p3, .int a4]) (rest := []) rfl rfl rfl rfl zk_cHand.look rfl (Nat.le_of_ble_eq_true rfl) (Nat.le_of_ble_eq_true rfl) (fun w1 h1 => ok_Hand_needed h1) (by decide) rfl hF (fun v9 s8 hF => ?_)
    refine w_aload_n (pc2 := 28) rfl rfl rfl ?_
    refine w_getfield (pc2 := 31) rfl zk_cHand rfl rfl rfl ?_
    refine w_iload_n (pc2 := 32) rfl rfl rfl ?_
    refine j_iaload (pc2 := 33) (n := 121) rfl rfl (by omega) (by decide) rfl hF (fun v10 hF => ?_)
    refine j_icmp_ne (pc2 := 36) rfl rfl hF (fun hF => ?_) (fun hF => ?_)
    · refine w_iinc (pc2 := 42) (ls2 := [(4, .int ((a4 + (1 : Int32)))), (0, .ref 213), (1, .int p1), (2, .int p2), (3, .int p3)]) rfl rfl rfl rfl ?_
      refine w_goto rfl ?_
      exact j_norm (l := [(0, .ref 213), (1, .int p1), (2, .int p2), (3, .int p3), (4, .int ((a4 + (1 : Int32))))]) ⟨rfl, rfl, rfl, rfl, rfl, trivial⟩ (zz_nd_of (ks := [0, 1, 2, 3, 4]) rfl (by decide)) (hg6 (a4 + (1 : Int32)) s8 hF)
    · refine w_iload (pc2 := 38) rfl rfl rfl ?_
      exact j_iret rfl rfl hF
noncomputable def f_Hand_bringing_B45 (p1 : Int32) (p2 : Int32) (a11 : Int32) (k16 : Int32 → ZS → Option (Int32 × ZS)) (a18 : Int32 × Int32) (s19 : ZS) (g20 : (Int32 × Int32) → ZS → Option (Int32 × ZS)) : Option (Int32 × ZS) := zgi (s19.1 4 4) (fun (v21 : Int32) => (if v21 ≤ a18.2 then k16 a18.1 s19 else zcl (f_Hand_needed p1 p2 a11 a18.2 s19) (fun (v23 : Int32) (s22 : ZS) => g20 ((if v23 < a18.1 then v23 else a18.1), (a18.2 + (1 : Int32))) s22)))
noncomputable def f_Hand_bringing_B31 (p1 : Int32) (p2 : Int32) (v4 : Int32) (k6 : ZS → Option (Int32 × ZS)) (a11 : Int32) (s12 : ZS) (g13 : Int32 → ZS → Option (Int32 × ZS)) : Option (Int32 × ZS) := (if a11 < v4 then k6 s12 else zjn (A := Int32) (fun (a15 : Int32) (s14 : ZS) => zwa s14 214 121 a11 a15 (fun (s17 : ZS) => g13 (a11 + (-1 : Int32)) s17)) (fun (k16 : Int32 → ZS → Option (Int32 × ZS)) => zlp zN (f_Hand_bringing_B45 p1 p2 a11 k16) ((1000000 : Int32), (0 : Int32)) s12))
noncomputable def f_Hand_bringing (p1 : Int32) (p2 : Int32) (p3 : Int32) (s0 : ZS) : Option (Int32 × ZS) := zrd 5 p1 (s0.1 11) (fun (v4 : Int32) => (if v4 < 0 then some ((-2 : Int32), s0) else (if v4 ≤ p2 then zj0 (fun (s5 : ZS) => zrd 121 v4 (s5.1 214) (fun (v7 : Int32) => (if v7 < (1000000 : Int32) then (if ¬ p3 = 0 then zcl (f_Hand_firstBringing p1 p2 v4 s5) (fun (v9 : Int32) (s8 : ZS) => some (v9, s8)) else zrd 121 v4 (s5.1 214) (fun (v10 : Int32) => some (v10, s5))) else some ((-2 : Int32), s5)))) (fun (k6 : ZS → Option (Int32 × ZS)) => zlp zN (f_Hand_bringing_B31 p1 p2 v4 k6) p2 s0) else some ((-2 : Int32), s0))))
set_option maxHeartbeats 4000000 in
set_option maxRecDepth 100000 in
theorem ok_Hand_bringing {L : Nat} {xs : Nat → Int32} {b : ZH} {p1 : Int32} {p2 : Int32} {p3 : Int32} {s0 : ZS} {w : Int32 × ZS} (hF : f_Hand_bringing p1 p2 p3 s0 = some w) : zz_ct zt_ms zt_nm zt_df (zt_X L xs) 4 zt_m20 [.ref 213, .int p1, .int p2, .int p3] (zk b s0) (qI b w) := by
  unfold f_Hand_bringing at hF
  change zz_wp zt_ms zt_nm zt_df (zt_X L xs) 4 zt_m20 0 [(0, .ref 213), (1, .int p1), (2, .int p2), (3, .int p3)] [] (zk b s0) (qI b w)
  refine w_aload_n (pc2 := 1) rfl rfl rfl ?_
  refine w_getfield (pc2 := 4) rfl zk_cHand rfl rfl rfl ?_
  refine w_getfield (pc2 := 7) rfl (zk_cWorld zk_w3) rfl rfl rfl ?_
  refine w_getfield (pc2 := 10) rfl (zk_cState zk_st10) rfl rfl rfl ?_
  refine w_iload_n (pc2 := 11) rfl rfl rfl ?_
  refine j_iaload (pc2 := 12) (n := 5) rfl rfl (by omega) (by decide) rfl hF (fun v4 hF => ?_)
  refine w_istore (pc2 := 14) (ls2 := [(4, .int v4), (0, .ref 213), (1, .int p1), (2, .int p2), (3, .int p3)]) rfl rfl rfl ?_
  refine w_iload (pc2 := 16) rfl rfl rfl ?_
  refine j_if_lt (pc2 := 19) rfl rfl hF (fun hF => ?_) (fun hF => ?_)
  · refine w_bipush (pc2 := 27) rfl rfl ?_
    exact j_iret rfl rfl hF
  · refine w_iload (pc2 := 21) rfl rfl rfl ?_
    refine w_iload_n (pc2 := 22) rfl rfl rfl ?_
    refine j_icmp_le (pc2 := 25) rfl rfl hF (fun hF => ?_) (fun hF => ?_)
    · refine w_iload_n (pc2 := 29) rfl rfl rfl ?_
      refine w_istore (pc2 := 31) (ls2 := [(5, .int p2), (4, .int v4), (0, .ref 213), (1, .int p1), (2, .int p2), (3, .int p3)]) rfl rfl rfl ?_
      refine j_join0 (P := fun (s5 : ZS) => zz_wp zt_ms zt_nm zt_df (zt_X L xs) 4 zt_m20 98 [(0, .ref 213), (1, .int p1), (2, .int p2), (3, .int p3), (4, .int v4)] [] (zk b s5) (qI b w)) hF (fun s5 hF => ?_) (fun k6 hk6 hF => ?_)
      · refine w_aload_n (pc2 := 99) rfl rfl rfl ?_
        refine w_getfield (pc2 := 102) rfl zk_cHand rfl rfl rfl ?_
        refine w_iload (pc2 := 104) rfl rfl rfl ?_
        refine j_iaload (pc2 := 105) (n := 121) rfl rfl (by omega) (by decide) rfl hF (fun v7 hF => ?_)
        refine w_ldc (pc2 := 107) rfl rfl ?_
        refine j_icmp_lt (pc2 := 110) rfl rfl hF (fun hF => ?_) (fun hF => ?_)
        · refine w_iload_n (pc2 := 114) rfl rfl rfl ?_
          refine j_if_ne (pc2 := 117) rfl rfl hF (fun hF => ?_) (fun hF => ?_)
          · refine w_aload_n (pc2 := 128) rfl rfl rfl ?_
            refine w_iload_n (pc2 := 129) rfl rfl rfl ?_
            refine w_iload_n (pc2 := 130) rfl rfl rfl ?_
            refine w_iload (pc2 := 132) rfl rfl rfl ?_
            refine j_cIv (pc2 := 135) (k := 3) (c := zt_m23) (as := [.ref 213, .int p1, .int p2, .int v4]) (rest := []) rfl rfl rfl rfl zk_cHand.look rfl (Nat.le_of_ble_eq_true rfl) (Nat.le_of_ble_eq_true rfl) (fun w1 h1 => ok_Hand_firstBringing h1) (by decide) rfl hF (fun v9 s8 hF => ?_)
            exact j_iret rfl rfl hF
          · refine w_aload_n (pc2 := 118) rfl rfl rfl ?_
            refine w_getfield (pc2 := 121) rfl zk_cHand rfl rfl rfl ?_
            refine w_iload (pc2 := 123) rfl rfl rfl ?_
            refine j_iaload (pc2 := 124) (n := 121) rfl rfl (by omega) (by decide) rfl hF (fun v10 hF => ?_)
            refine w_goto rfl ?_
            exact j_iret rfl rfl hF
        · refine w_bipush (pc2 := 112) rfl rfl ?_
          exact j_iret rfl rfl hF
      · refine j_norm (l := [(0, .ref 213), (1, .int p1), (2, .int p2), (3, .int p3), (4, .int v4), (5, .int p2)]) ⟨rfl, rfl, rfl, rfl, rfl, rfl, trivial⟩ (zz_nd_of (ks := [0, 1, 2, 3, 4, 5]) rfl (by decide)) ?_
        refine j_loop (P := fun (a11 : Int32) (s12 : ZS) => zz_wp zt_ms zt_nm zt_df (zt_X L xs) 4 zt_m20 31 [(0, .ref 213), (1, .int p1), (2, .int p2), (3, .int p3), (4, .int v4), (5, .int a11)] [] (zk b s12) (qI b w)) hF (fun a11 s12 g13 hg13 hF => ?_)
        unfold f_Hand_bringing_B31 at hF
        refine w_iload (pc2 := 33) rfl rfl rfl ?_
        refine w_iload (pc2 := 35) rfl rfl rfl ?_
        refine j_icmp_lt (pc2 := 38) rfl rfl hF (fun hF => ?_) (fun hF => ?_)
        · exact j_norm (l := [(0, .ref 213), (1, .int p1), (2, .int p2), (3, .int p3), (4, .int v4)]) ⟨rfl, rfl, rfl, rfl, rfl, trivial⟩ (zz_nd_of (ks := [0, 1, 2, 3, 4]) rfl (by decide)) (hk6 s12 hF)
        · refine w_ldc (pc2 := 40) rfl rfl ?_
          refine w_istore (pc2 := 42) (ls2 := [(6, .int (1000000 : Int32)), (0, .ref 213), (1, .int p1), (2, .int p2), (3, .int p3), (4, .int v4), (5, .int a11)]) rfl rfl rfl ?_
          refine w_iconst (pc2 := 43) rfl rfl ?_
          refine w_istore (pc2 := 45) (ls2 := [(7, .int (0 : Int32)), (6, .int (1000000 : Int32)), (0, .ref 213), (1, .int p1), (2, .int p2), (3, .int p3), (4, .int v4), (5, .int a11)]) rfl rfl rfl ?_
          refine j_join (P := fun (a15 : Int32) (s14 : ZS) => zz_wp zt_ms zt_nm zt_df (zt_X L xs) 4 zt_m20 83 [(0, .ref 213), (1, .int p1), (2, .int p2), (3, .int p3), (4, .int v4), (5, .int a11), (6, .int a15)] [] (zk b s14) (qI b w)) hF (fun a15 s14 hF => ?_) (fun k16 hk16 hF => ?_)
          · refine w_aload_n (pc2 := 84) rfl rfl rfl ?_
            refine w_getfield (pc2 := 87) rfl zk_cHand rfl rfl rfl ?_
            refine w_iload (pc2 := 89) rfl rfl rfl ?_
            refine w_iload (pc2 := 91) rfl rfl rfl ?_
            refine j_iastore (pc2 := 92) (n := 121) rfl rfl (by omega) (by decide) rfl hF (fun s17 hF => ?_)
            refine w_iinc (pc2 := 95) (ls2 := [(5, .int ((a11 + (-1 : Int32)))), (0, .ref 213), (1, .int p1), (2, .int p2), (3, .int p3), (4, .int v4), (6, .int a15)]) rfl rfl rfl rfl ?_
            refine w_goto rfl ?_
            exact j_norm (l := [(0, .ref 213), (1, .int p1), (2, .int p2), (3, .int p3), (4, .int v4), (5, .int ((a11 + (-1 : Int32))))]) ⟨rfl, rfl, rfl, rfl, rfl, rfl, trivial⟩ (zz_nd_of (ks := [0, 1, 2, 3, 4, 5]) rfl (by decide)) (hg13 (a11 + (-1 : Int32)) s17 hF)
          · refine j_norm (l := [(0, .ref 213), (1, .int p1), (2, .int p2), (3, .int p3), (4, .int v4), (5, .int a11), (6, .int (1000000 : Int32)), (7, .int (0 : Int32))]) ⟨rfl, rfl, rfl, rfl, rfl, rfl, rfl, rfl, trivial⟩ (zz_nd_of (ks := [0, 1, 2, 3, 4, 5, 6, 7]) rfl (by decide)) ?_
            refine j_loop (P := fun (a18 : Int32 × Int32) (s19 : ZS) => zz_wp zt_ms zt_nm zt_df (zt_X L xs) 4 zt_m20 45 [(0, .ref 213), (1, .int p1), (2, .int p2), (3, .int p3), (4, .int v4), (5, .int a11), (6, .int a18.1), (7, .int a18.2)] [] (zk b s19) (qI b w)) hF (fun a18 s19 g20 hg20 hF => ?_)
            unfold f_Hand_bringing_B45 at hF
            refine w_iload (pc2 := 47) rfl rfl rfl ?_
            refine w_aload_n (pc2 := 48) rfl rfl rfl ?_
            refine w_getfield (pc2 := 51) rfl zk_cHand rfl rfl rfl ?_
            refine w_getfield (pc2 := 54) rfl (zk_cWorld zk_w3) rfl rfl rfl ?_
            refine j_geti (pc2 := 57) rfl (zk_cSmithy zk_sm4) rfl rfl rfl hF (fun v21 hF => ?_)
            refine j_icmp_ge (pc2 := 60) rfl rfl hF (fun hF => ?_) (fun hF => ?_)
            · exact j_norm (l := [(0, .ref 213), (1, .int p1), (2, .int p2), (3, .int p3), (4, .int v4), (5, .int a11), (6, .int a18.1)]) ⟨rfl, rfl, rfl, rfl, rfl, rfl, rfl, trivial⟩ (zz_nd_of (ks := [0, 1, 2, 3, 4, 5, 6]) rfl (by decide)) (hk16 a18.1 s19 hF)
            · refine w_iload (pc2 := 62) rfl rfl rfl ?_
              refine w_aload_n (pc2 := 63) rfl rfl rfl ?_
              refine w_iload_n (pc2 := 64) rfl rfl rfl ?_
              refine w_iload_n (pc2 := 65) rfl rfl rfl ?_
              refine w_iload (pc2 := 67) rfl rfl rfl ?_
              refine w_iload (pc2 := 69) rfl rfl rfl ?_
              refine j_cIv (pc2 := 72) (k := 2) (c := zt_m21) (as := [.ref 213, .int p1, .int p2, .int a11, .int a18.2]) (rest := [.int a18.1]) rfl rfl rfl rfl zk_cHand.look rfl (Nat.le_of_ble_eq_true rfl) (Nat.le_of_ble_eq_true rfl) (fun w1 h1 => ok_Hand_needed h1) (by decide) rfl hF (fun v23 s22 hF => ?_)
              refine w_min (pc2 := 75) rfl (Nat.le_of_ble_eq_true rfl) rfl ?_
              refine w_istore (pc2 := 77) (ls2 := [(6, .int (if v23 < a18.1 then v23 else a18.1)), (0, .ref 213), (1, .int p1), (2, .int p2), (3, .int p3), (4, .int v4), (5, .int a11), (7, .int a18.2)]) rfl rfl rfl ?_
              refine w_iinc (pc2 := 80) (ls2 := [(7, .int ((a18.2 + (1 : Int32)))), (6, .int (if v23 < a18.1 then v23 else a18.1)), (0, .ref 213), (1, .int p1), (2, .int p2), (3, .int p3), (4, .int v4), (5, .int a11)]) rfl rfl rfl rfl ?_
              refine w_goto rfl ?_
              exact j_norm (l := [(0, .ref 213), (1, .int p1), (2, .int p2), (3, .int p3), (4, .int v4), (5, .int a11), (6, .int (if v23 < a18.1 then v23 else a18.1)), (7, .int ((a18.2 + (1 : Int32))))]) ⟨rfl, rfl, rfl, rfl, rfl, rfl, rfl, rfl, trivial⟩ (zz_nd_of (ks := [0, 1, 2, 3, 4, 5, 6, 7]) rfl (by decide)) (hg20 ((if v23 < a18.1 then v23 else a18.1), (a18.2 + (1 : Int32))) s22 hF)
    · refine w_bipush (pc2 := 27) rfl rfl ?_
      exact j_iret rfl rfl hF
noncomputable def f_Hand_smoothDay (p1 : Int32) (s0 : ZS) : Option (Int32 × ZS) := zgi (s0.1 4 2) (fun (v2 : Int32) => (if (1 : Int32) ≤ v2 then zrd 5 p1 (s0.1 12) (fun (v3 : Int32) => zdv v2 (zgi (s0.1 10 0) (fun (v4 : Int32) => some ((((v4 - (v4 - v4 / (10 : Int32) * (10 : Int32))) + (9 : Int32)) + ((10 : Int32) * ((((v3 + v2) - (1 : Int32)) / v2) - (1 : Int32)))), s0)))) else some ((-1 : Int32), s0)))
set_option maxHeartbeats 4000000 in
set_option maxRecDepth 100000 in
theorem ok_Hand_smoothDay {L : Nat} {xs : Nat → Int32} {b : ZH} {p1 : Int32} {s0 : ZS} {w : Int32 × ZS} (hF : f_Hand_smoothDay p1 s0 = some w) : zz_ct zt_ms zt_nm zt_df (zt_X L xs) 0 zt_m24 [.ref 213, .int p1] (zk b s0) (qI b w) := by
  unfold f_Hand_smoothDay at hF
  change zz_wp zt_ms zt_nm zt_df (zt_X L xs) 0 zt_m24 0 [(0, .ref 213), (1, .int p1)] [] (zk b s0) (qI b w)
  refine w_aload_n (pc2 := 1) rfl rfl rfl ?_
  refine w_getfield (pc2 := 4) rfl zk_cHand rfl rfl rfl ?_
  refine w_getfield (pc2 := 7) rfl (zk_cWorld zk_w3) rfl rfl rfl ?_
  refine j_geti (pc2 := 10) rfl (zk_cSmithy zk_sm4) rfl rfl rfl hF (fun v2 hF => ?_)
  refine w_istore_n (pc2 := 11) (ls2 := [(2, .int v2), (0, .ref 213), (1, .int p1)]) rfl rfl rfl ?_
  refine w_iload_n (pc2 := 12) rfl rfl rfl ?_
  refine w_iconst (pc2 := 13) rfl rfl ?_
  refine j_icmp_ge (pc2 := 16) rfl rfl hF (fun hF => ?_) (fun hF => ?_)
  · refine w_aload_n (pc2 := 19) rfl rfl rfl ?_
    refine w_getfield (pc2 := 22) rfl zk_cHand rfl rfl rfl ?_
    refine w_getfield (pc2 := 25) rfl (zk_cWorld zk_w3) rfl rfl rfl ?_
    refine w_getfield (pc2 := 28) rfl (zk_cState zk_st10) rfl rfl rfl ?_
    refine w_iload_n (pc2 := 29) rfl rfl rfl ?_
    refine j_iaload (pc2 := 30) (n := 5) rfl rfl (by omega) (by decide) rfl hF (fun v3 hF => ?_)
    refine w_iload_n (pc2 := 31) rfl rfl rfl ?_
    refine w_iadd (pc2 := 32) rfl rfl ?_
    refine w_iconst (pc2 := 33) rfl rfl ?_
    refine w_isub (pc2 := 34) rfl rfl ?_
    refine w_iload_n (pc2 := 35) rfl rfl rfl ?_
    refine j_idiv (pc2 := 36) rfl rfl hF (fun hF => ?_)
    refine w_istore_n (pc2 := 37) (ls2 := [(3, .int ((((v3 + v2) - (1 : Int32)) / v2))), (2, .int v2), (0, .ref 213), (1, .int p1)]) rfl rfl rfl ?_
    refine w_aload_n (pc2 := 38) rfl rfl rfl ?_
    refine w_getfield (pc2 := 41) rfl zk_cHand rfl rfl rfl ?_
    refine w_getfield (pc2 := 44) rfl (zk_cWorld zk_w3) rfl rfl rfl ?_
    refine j_geti (pc2 := 47) rfl (zk_cState zk_st10) rfl rfl rfl hF (fun v4 hF => ?_)
    refine w_istore (pc2 := 49) (ls2 := [(4, .int v4), (3, .int ((((v3 + v2) - (1 : Int32)) / v2))), (2, .int v2), (0, .ref 213), (1, .int p1)]) rfl rfl rfl ?_
    refine w_iload (pc2 := 51) rfl rfl rfl ?_
    refine w_iload (pc2 := 53) rfl rfl rfl ?_
    refine w_bipush (pc2 := 55) rfl rfl ?_
    refine w_irem (pc2 := 56) rfl (by decide) rfl ?_
    refine w_isub (pc2 := 57) rfl rfl ?_
    refine w_bipush (pc2 := 59) rfl rfl ?_
    refine w_iadd (pc2 := 60) rfl rfl ?_
    refine w_bipush (pc2 := 62) rfl rfl ?_
    refine w_iload_n (pc2 := 63) rfl rfl rfl ?_
    refine w_iconst (pc2 := 64) rfl rfl ?_
    refine w_isub (pc2 := 65) rfl rfl ?_
    refine w_imul (pc2 := 66) rfl rfl ?_
    refine w_iadd (pc2 := 67) rfl rfl ?_
    exact j_iret rfl rfl hF
  · refine w_iconst (pc2 := 17) rfl rfl ?_
    exact j_iret rfl rfl hF
noncomputable def f_Hand_nobodyHears_B18 (a1 : Int32) (k6 : ZS → Option (Int32 × ZS)) (a7 : Int32) (s8 : ZS) (g9 : Int32 → ZS → Option (Int32 × ZS)) : Option (Int32 × ZS) := (if a1 ≤ a7 then k6 s8 else zrd 5 a1 (s8.1 215) (fun (v10 : Int32) => zrd 5 a7 (s8.1 215) (fun (v11 : Int32) => zj0 (fun (s12 : ZS) => g9 (a7 + (1 : Int32)) s12) (fun (k13 : ZS → Option (Int32 × ZS)) => (if ¬ v10 = v11 then k13 s8 else zrd 5 a1 (s8.1 7) (fun (v14 : Int32) => (if ((v14 >>> (a7 &&& (31 : Int32))) &&& (1 : Int32)) = 0 then k13 s8 else zbl (0 : Int32) s8)))))))
noncomputable def f_Hand_nobodyHears_B2 (a1 : Int32) (s2 : ZS) (g3 : Int32 → ZS → Option (Int32 × ZS)) : Option (Int32 × ZS) := zgi (s2.1 4 3) (fun (v4 : Int32) => (if v4 ≤ a1 then zbl (1 : Int32) s2 else zj0 (fun (s5 : ZS) => g3 (a1 + (1 : Int32)) s5) (fun (k6 : ZS → Option (Int32 × ZS)) => zlp zN (f_Hand_nobodyHears_B18 a1 k6) (0 : Int32) s2)))
noncomputable def f_Hand_nobodyHears (s0 : ZS) : Option (Int32 × ZS) := zlp zN (f_Hand_nobodyHears_B2) (0 : Int32) s0
set_option maxHeartbeats 4000000 in
set_option maxRecDepth 100000 in
theorem ok_Hand_nobodyHears {L : Nat} {xs : Nat → Int32} {b : ZH} {s0 : ZS} {w : Int32 × ZS} (hF : f_Hand_nobodyHears s0 = some w) : zz_ct zt_ms zt_nm zt_df (zt_X L xs) 0 zt_m27 [.ref 213] (zk b s0) (qI b w) := by
  unfold f_Hand_nobodyHears at hF
  change zz_wp zt_ms zt_nm zt_df (zt_X L xs) 0 zt_m27 0 [(0, .ref 213)] [] (zk b s0) (qI b w)
  refine w_iconst (pc2 := 1) rfl rfl ?_
  refine w_istore_n (pc2 := 2) (ls2 := [(1, .int (0 : Int32)), (0, .ref 213)]) rfl rfl rfl ?_
  refine j_norm (l := [(0, .ref 213), (1, .int (0 : Int32))]) ⟨rfl, rfl, trivial⟩ (zz_nd_of (ks := [0, 1]) rfl (by decide)) ?_
  refine j_loop (P := fun (a1 : Int32) (s2 : ZS) => zz_wp zt_ms zt_nm zt_df (zt_X L xs) 0 zt_m27 2 [(0, .ref 213), (1, .int a1)] [] (zk b s2) (qI b w)) hF (fun a1 s2 g3 hg3 hF => ?_)
  unfold f_Hand_nobodyHears_B2 at hF
  refine w_iload_n (pc2 := 3) rfl rfl rfl ?_
  refine w_aload_n (pc2 := 4) rfl rfl rfl ?_
  refine w_getfield (pc2 := 7) rfl zk_cHand rfl rfl rfl ?_
  refine w_getfield (pc2 := 10) rfl (zk_cWorld zk_w3) rfl rfl rfl ?_
  refine j_geti (pc2 := 13) rfl (zk_cSmithy zk_sm4) rfl rfl rfl hF (fun v4 hF => ?_)
  refine j_icmp_ge (pc2 := 16) rfl rfl hF (fun hF => ?_) (fun hF => ?_)
  · refine w_iconst (pc2 := 72) rfl rfl ?_
    exact j_zret rfl rfl hF
  · refine w_iconst (pc2 := 17) rfl rfl ?_
    refine w_istore_n (pc2 := 18) (ls2 := [(2, .int (0 : Int32)), (0, .ref 213), (1, .int a1)]) rfl rfl rfl ?_
    refine j_join0 (P := fun (s5 : ZS) => zz_wp zt_ms zt_nm zt_df (zt_X L xs) 0 zt_m27 65 [(0, .ref 213), (1, .int a1)] [] (zk b s5) (qI b w)) hF (fun s5 hF => ?_) (fun k6 hk6 hF => ?_)
    · refine w_iinc (pc2 := 68) (ls2 := [(1, .int ((a1 + (1 : Int32)))), (0, .ref 213)]) rfl rfl rfl rfl ?_
      refine w_goto rfl ?_
      exact j_norm (l := [(0, .ref 213), (1, .int ((a1 + (1 : Int32))))]) ⟨rfl, rfl, trivial⟩ (zz_nd_of (ks := [0, 1]) rfl (by decide)) (hg3 (a1 + (1 : Int32)) s5 hF)
    · refine j_norm (l := [(0, .ref 213), (1, .int a1), (2, .int (0 : Int32))]) ⟨rfl, rfl, rfl, trivial⟩ (zz_nd_of (ks := [0, 1, 2]) rfl (by decide)) ?_
      refine j_loop (P := fun (a7 : Int32) (s8 : ZS) => zz_wp zt_ms zt_nm zt_df (zt_X L xs) 0 zt_m27 18 [(0, .ref 213), (1, .int a1), (2, .int a7)] [] (zk b s8) (qI b w)) hF (fun a7 s8 g9 hg9 hF => ?_)
      unfold f_Hand_nobodyHears_B18 at hF
      refine w_iload_n (pc2 := 19) rfl rfl rfl ?_
      refine w_iload_n (pc2 := 20) rfl rfl rfl ?_
      refine j_icmp_ge (pc2 := 23) rfl rfl hF (fun hF => ?_) (fun hF => ?_)
      · exact j_norm (l := [(0, .ref 213), (1, .int a1)]) ⟨rfl, rfl, trivial⟩ (zz_nd_of (ks := [0, 1]) rfl (by decide)) (hk6 s8 hF)
      · refine w_aload_n (pc2 := 24) rfl rfl rfl ?_
        refine w_getfield (pc2 := 27) rfl zk_cHand rfl rfl rfl ?_
        refine w_iload_n (pc2 := 28) rfl rfl rfl ?_
        refine j_iaload (pc2 := 29) (n := 5) rfl rfl (by omega) (by decide) rfl hF (fun v10 hF => ?_)
        refine w_aload_n (pc2 := 30) rfl rfl rfl ?_
        refine w_getfield (pc2 := 33) rfl zk_cHand rfl rfl rfl ?_
        refine w_iload_n (pc2 := 34) rfl rfl rfl ?_
        refine j_iaload (pc2 := 35) (n := 5) rfl rfl (by omega) (by decide) rfl hF (fun v11 hF => ?_)
        refine j_join0 (P := fun (s12 : ZS) => zz_wp zt_ms zt_nm zt_df (zt_X L xs) 0 zt_m27 59 [(0, .ref 213), (1, .int a1), (2, .int a7)] [] (zk b s12) (qI b w)) hF (fun s12 hF => ?_) (fun k13 hk13 hF => ?_)
        · refine w_iinc (pc2 := 62) (ls2 := [(2, .int ((a7 + (1 : Int32)))), (0, .ref 213), (1, .int a1)]) rfl rfl rfl rfl ?_
          refine w_goto rfl ?_
          exact j_norm (l := [(0, .ref 213), (1, .int a1), (2, .int ((a7 + (1 : Int32))))]) ⟨rfl, rfl, rfl, trivial⟩ (zz_nd_of (ks := [0, 1, 2]) rfl (by decide)) (hg9 (a7 + (1 : Int32)) s12 hF)
        · refine j_icmp_ne (pc2 := 38) rfl rfl hF (fun hF => ?_) (fun hF => ?_)
          · exact j_norm (l := [(0, .ref 213), (1, .int a1), (2, .int a7)]) ⟨rfl, rfl, rfl, trivial⟩ (zz_nd_of (ks := [0, 1, 2]) rfl (by decide)) (hk13 s8 hF)
          · refine w_aload_n (pc2 := 39) rfl rfl rfl ?_
            refine w_getfield (pc2 := 42) rfl zk_cHand rfl rfl rfl ?_
            refine w_getfield (pc2 := 45) rfl (zk_cWorld zk_w3) rfl rfl rfl ?_
            refine w_getfield (pc2 := 48) rfl (zk_cSmithy zk_sm4) rfl rfl rfl ?_
            refine w_iload_n (pc2 := 49) rfl rfl rfl ?_
            refine j_iaload (pc2 := 50) (n := 5) rfl rfl (by omega) (by decide) rfl hF (fun v14 hF => ?_)
            refine w_iload_n (pc2 := 51) rfl rfl rfl ?_
            refine w_ishr (pc2 := 52) rfl rfl ?_
            refine w_iconst (pc2 := 53) rfl rfl ?_
            refine w_iand (pc2 := 54) rfl rfl ?_
            refine j_if_eq (pc2 := 57) rfl rfl hF (fun hF => ?_) (fun hF => ?_)
            · exact j_norm (l := [(0, .ref 213), (1, .int a1), (2, .int a7)]) ⟨rfl, rfl, rfl, trivial⟩ (zz_nd_of (ks := [0, 1, 2]) rfl (by decide)) (hk13 s8 hF)
            · refine w_iconst (pc2 := 58) rfl rfl ?_
              exact j_zret rfl rfl hF
noncomputable def f_Hand_seat_B50 (p1 : Int32) (k10 : ZS → Option (Int32 × ZS)) (a13 : Int32 × Int32) (s14 : ZS) (g15 : (Int32 × Int32) → ZS → Option (Int32 × ZS)) : Option (Int32 × ZS) := (if a13.2 < 0 then k10 s14 else (if p1 ≤ 0 then k10 s14 else zdv p1 (zwa s14 215 5 a13.2 (a13.1 - a13.1 / p1 * p1) (fun (s16 : ZS) => zdv p1 (g15 ((a13.1 / p1), (a13.2 + (-1 : Int32))) s16)))))
noncomputable def f_Hand_seat_B35 (p1 : Int32) (v2 : Int32) (a4 : Int32) (a6 : Int32) (s7 : ZS) (g8 : Int32 → ZS → Option (Int32 × ZS)) : Option (Int32 × ZS) := (if a4 ≤ a6 then zbl (0 : Int32) s7 else zj0 (fun (s9 : ZS) => zcl (f_Hand_nobodyHears s9) (fun (v12 : Int32) (s11 : ZS) => (if v12 = 0 then g8 (a6 + (1 : Int32)) s11 else zbl (1 : Int32) s11))) (fun (k10 : ZS → Option (Int32 × ZS)) => zlp zN (f_Hand_seat_B50 p1 k10) (a6, (v2 - (1 : Int32))) s7))
noncomputable def f_Hand_seat_B16 (p1 : Int32) (v2 : Int32) (k5 : Int32 → ZS → Option (Int32 × ZS)) (a17 : Int32 × Int32) (s18 : ZS) (g19 : (Int32 × Int32) → ZS → Option (Int32 × ZS)) : Option (Int32 × ZS) := (if v2 ≤ a17.2 then k5 a17.1 s18 else g19 ((a17.1 * p1), (a17.2 + (1 : Int32))) s18)
noncomputable def f_Hand_seat (p1 : Int32) (s0 : ZS) : Option (Int32 × ZS) := zgi (s0.1 4 3) (fun (v2 : Int32) => zjn (A := Int32) (fun (a4 : Int32) (s3 : ZS) => zlp zN (f_Hand_seat_B35 p1 v2 a4) (0 : Int32) s3) (fun (k5 : Int32 → ZS → Option (Int32 × ZS)) => zlp zN (f_Hand_seat_B16 p1 v2 k5) ((1 : Int32), (0 : Int32)) s0))
set_option maxHeartbeats 4000000 in
set_option maxRecDepth 100000 in
theorem ok_Hand_seat {L : Nat} {xs : Nat → Int32} {b : ZH} {p1 : Int32} {s0 : ZS} {w : Int32 × ZS} (hF : f_Hand_seat p1 s0 = some w) : zz_ct zt_ms zt_nm zt_df (zt_X L xs) 1 zt_m26 [.ref 213, .int p1] (zk b s0) (qI b w) := by
  unfold f_Hand_seat at hF
  change zz_wp zt_ms zt_nm zt_df (zt_X L xs) 1 zt_m26 0 [(0, .ref 213), (1, .int p1)] [] (zk b s0) (qI b w)
  refine w_aload_n (pc2 := 1) rfl rfl rfl ?_
  refine w_getfield (pc2 := 4) rfl zk_cHand rfl rfl rfl ?_
  refine w_getfield (pc2 := 7) rfl (zk_cWorld zk_w3) rfl rfl rfl ?_
  refine j_geti (pc2 := 10) rfl (zk_cSmithy zk_sm4) rfl rfl rfl hF (fun v2 hF => ?_)
  refine w_istore_n (pc2 := 11) (ls2 := [(2, .int v2), (0, .ref 213), (1, .int p1)]) rfl rfl rfl ?_
  refine w_iconst (pc2 := 12) rfl rfl ?_
  refine w_istore_n (pc2 := 13) (ls2 := [(3, .int (1 : Int32)), (2, .int v2), (0, .ref 213), (1, .int p1)]) rfl rfl rfl ?_
  refine w_iconst (pc2 := 14) rfl rfl ?_
  refine w_istore (pc2 := 16) (ls2 := [(4, .int (0 : Int32)), (3, .int (1 : Int32)), (2, .int v2), (0, .ref 213), (1, .int p1)]) rfl rfl rfl ?_
  refine j_join (P := fun (a4 : Int32) (s3 : ZS) => zz_wp zt_ms zt_nm zt_df (zt_X L xs) 1 zt_m26 32 [(0, .ref 213), (1, .int p1), (2, .int v2), (3, .int a4)] [] (zk b s3) (qI b w)) hF (fun a4 s3 hF => ?_) (fun k5 hk5 hF => ?_)
  · refine w_iconst (pc2 := 33) rfl rfl ?_
    refine w_istore (pc2 := 35) (ls2 := [(4, .int (0 : Int32)), (0, .ref 213), (1, .int p1), (2, .int v2), (3, .int a4)]) rfl rfl rfl ?_
    refine j_norm (l := [(0, .ref 213), (1, .int p1), (2, .int v2), (3, .int a4), (4, .int (0 : Int32))]) ⟨rfl, rfl, rfl, rfl, rfl, trivial⟩ (zz_nd_of (ks := [0, 1, 2, 3, 4]) rfl (by decide)) ?_
    refine j_loop (P := fun (a6 : Int32) (s7 : ZS) => zz_wp zt_ms zt_nm zt_df (zt_X L xs) 1 zt_m26 35 [(0, .ref 213), (1, .int p1), (2, .int v2), (3, .int a4), (4, .int a6)] [] (zk b s7) (qI b w)) hF (fun a6 s7 g8 hg8 hF => ?_)
    unfold f_Hand_seat_B35 at hF
    refine w_iload (pc2 := 37) rfl rfl rfl ?_
    refine w_iload_n (pc2 := 38) rfl rfl rfl ?_
    refine j_icmp_ge (pc2 := 41) rfl rfl hF (fun hF => ?_) (fun hF => ?_)
    · refine w_iconst (pc2 := 98) rfl rfl ?_
      exact j_zret rfl rfl hF
    · refine w_iload (pc2 := 43) rfl rfl rfl ?_
      refine w_istore (pc2 := 45) (ls2 := [(5, .int a6), (0, .ref 213), (1, .int p1), (2, .int v2), (3, .int a4), (4, .int a6)]) rfl rfl rfl ?_
      refine w_iload_n (pc2 := 46) rfl rfl rfl ?_
      refine w_iconst (pc2 := 47) rfl rfl ?_
      refine w_isub (pc2 := 48) rfl rfl ?_
      refine w_istore (pc2 := 50) (ls2 := [(6, .int ((v2 - (1 : Int32)))), (5, .int a6), (0, .ref 213), (1, .int p1), (2, .int v2), (3, .int a4), (4, .int a6)]) rfl rfl rfl ?_
      refine j_join0 (P := fun (s9 : ZS) => zz_wp zt_ms zt_nm zt_df (zt_X L xs) 1 zt_m26 82 [(0, .ref 213), (1, .int p1), (2, .int v2), (3, .int a4), (4, .int a6)] [] (zk b s9) (qI b w)) hF (fun s9 hF => ?_) (fun k10 hk10 hF => ?_)
      · refine w_aload_n (pc2 := 83) rfl rfl rfl ?_
        refine j_cIv (pc2 := 86) (k := 0) (c := zt_m27) (as := [.ref 213]) (rest := []) rfl rfl rfl rfl zk_cHand.look rfl (Nat.le_of_ble_eq_true rfl) (Nat.le_of_ble_eq_true rfl) (fun w1 h1 => ok_Hand_nobodyHears h1) (by decide) rfl hF (fun v12 s11 hF => ?_)
        refine j_if_eq (pc2 := 89) rfl rfl hF (fun hF => ?_) (fun hF => ?_)
        · refine w_iinc (pc2 := 94) (ls2 := [(4, .int ((a6 + (1 : Int32)))), (0, .ref 213), (1, .int p1), (2, .int v2), (3, .int a4)]) rfl rfl rfl rfl ?_
          refine w_goto rfl ?_
          exact j_norm (l := [(0, .ref 213), (1, .int p1), (2, .int v2), (3, .int a4), (4, .int ((a6 + (1 : Int32))))]) ⟨rfl, rfl, rfl, rfl, rfl, trivial⟩ (zz_nd_of (ks := [0, 1, 2, 3, 4]) rfl (by decide)) (hg8 (a6 + (1 : Int32)) s11 hF)
        · refine w_iconst (pc2 := 90) rfl rfl ?_
          exact j_zret rfl rfl hF
      · refine j_norm (l := [(0, .ref 213), (1, .int p1), (2, .int v2), (3, .int a4), (4, .int a6), (5, .int a6), (6, .int ((v2 - (1 : Int32))))]) ⟨rfl, rfl, rfl, rfl, rfl, rfl, rfl, trivial⟩ (zz_nd_of (ks := [0, 1, 2, 3, 4, 5, 6]) rfl (by decide)) ?_
        refine j_loop (P := fun (a13 : Int32 × Int32) (s14 : ZS) => zz_wp zt_ms zt_nm zt_df (zt_X L xs) 1 zt_m26 50 [(0, .ref 213), (1, .int p1), (2, .int v2), (3, .int a4), (4, .int a6), (5, .int a13.1), (6, .int a13.2)] [] (zk b s14) (qI b w)) hF (fun a13 s14 g15 hg15 hF => ?_)
        unfold f_Hand_seat_B50 at hF
        refine w_iload (pc2 := 52) rfl rfl rfl ?_
        refine j_if_lt (pc2 := 55) rfl rfl hF (fun hF => ?_) (fun hF => ?_)
        · exact j_norm (l := [(0, .ref 213), (1, .int p1), (2, .int v2), (3, .int a4), (4, .int a6)]) ⟨rfl, rfl, rfl, rfl, rfl, trivial⟩ (zz_nd_of (ks := [0, 1, 2, 3, 4]) rfl (by decide)) (hk10 s14 hF)
        · refine w_iload_n (pc2 := 56) rfl rfl rfl ?_
          refine j_if_le (pc2 := 59) rfl rfl hF (fun hF => ?_) (fun hF => ?_)
          · exact j_norm (l := [(0, .ref 213), (1, .int p1), (2, .int v2), (3, .int a4), (4, .int a6)]) ⟨rfl, rfl, rfl, rfl, rfl, trivial⟩ (zz_nd_of (ks := [0, 1, 2, 3, 4]) rfl (by decide)) (hk10 s14 hF)
          · refine w_aload_n (pc2 := 60) rfl rfl rfl ?_
            refine w_getfield (pc2 := 63) rfl zk_cHand rfl rfl rfl ?_
            refine w_iload (pc2 := 65) rfl rfl rfl ?_
            refine w_iload (pc2 := 67) rfl rfl rfl ?_
            refine w_iload_n (pc2 := 68) rfl rfl rfl ?_
            refine j_irem (pc2 := 69) rfl rfl hF (fun hF => ?_)
            refine j_iastore (pc2 := 70) (n := 5) rfl rfl (by omega) (by decide) rfl hF (fun s16 hF => ?_)
            refine w_iload (pc2 := 72) rfl rfl rfl ?_
            refine w_iload_n (pc2 := 73) rfl rfl rfl ?_
            refine j_idiv (pc2 := 74) rfl rfl hF (fun hF => ?_)
            refine w_istore (pc2 := 76) (ls2 := [(5, .int (a13.1 / p1)), (0, .ref 213), (1, .int p1), (2, .int v2), (3, .int a4), (4, .int a6), (6, .int a13.2)]) rfl rfl rfl ?_
            refine w_iinc (pc2 := 79) (ls2 := [(6, .int ((a13.2 + (-1 : Int32)))), (5, .int (a13.1 / p1)), (0, .ref 213), (1, .int p1), (2, .int v2), (3, .int a4), (4, .int a6)]) rfl rfl rfl rfl ?_
            refine w_goto rfl ?_
            exact j_norm (l := [(0, .ref 213), (1, .int p1), (2, .int v2), (3, .int a4), (4, .int a6), (5, .int (a13.1 / p1)), (6, .int ((a13.2 + (-1 : Int32))))]) ⟨rfl, rfl, rfl, rfl, rfl, rfl, rfl, trivial⟩ (zz_nd_of (ks := [0, 1, 2, 3, 4, 5, 6]) rfl (by decide)) (hg15 ((a13.1 / p1), (a13.2 + (-1 : Int32))) s16 hF)
  · refine j_norm (l := [(0, .ref 213), (1, .int p1), (2, .int v2), (3, .int (1 : Int32)), (4, .int (0 : Int32))]) ⟨rfl, rfl, rfl, rfl, rfl, trivial⟩ (zz_nd_of (ks := [0, 1, 2, 3, 4]) rfl (by decide)) ?_
    refine j_loop (P := fun (a17 : Int32 × Int32) (s18 : ZS) => zz_wp zt_ms zt_nm zt_df (zt_X L xs) 1 zt_m26 16 [(0, .ref 213), (1, .int p1), (2, .int v2), (3, .int a17.1), (4, .int a17.2)] [] (zk b s18) (qI b w)) hF (fun a17 s18 g19 hg19 hF => ?_)
    unfold f_Hand_seat_B16 at hF
    refine w_iload (pc2 := 18) rfl rfl rfl ?_
    refine w_iload_n (pc2 := 19) rfl rfl rfl ?_
    refine j_icmp_ge (pc2 := 22) rfl rfl hF (fun hF => ?_) (fun hF => ?_)
    · exact j_norm (l := [(0, .ref 213), (1, .int p1), (2, .int v2), (3, .int a17.1)]) ⟨rfl, rfl, rfl, rfl, trivial⟩ (zz_nd_of (ks := [0, 1, 2, 3]) rfl (by decide)) (hk5 a17.1 s18 hF)
    · refine w_iload_n (pc2 := 23) rfl rfl rfl ?_
      refine w_iload_n (pc2 := 24) rfl rfl rfl ?_
      refine w_imul (pc2 := 25) rfl rfl ?_
      refine w_istore_n (pc2 := 26) (ls2 := [(3, .int (a17.1 * p1)), (0, .ref 213), (1, .int p1), (2, .int v2), (4, .int a17.2)]) rfl rfl rfl ?_
      refine w_iinc (pc2 := 29) (ls2 := [(4, .int ((a17.2 + (1 : Int32)))), (3, .int (a17.1 * p1)), (0, .ref 213), (1, .int p1), (2, .int v2)]) rfl rfl rfl rfl ?_
      refine w_goto rfl ?_
      exact j_norm (l := [(0, .ref 213), (1, .int p1), (2, .int v2), (3, .int (a17.1 * p1)), (4, .int ((a17.2 + (1 : Int32))))]) ⟨rfl, rfl, rfl, rfl, rfl, trivial⟩ (zz_nd_of (ks := [0, 1, 2, 3, 4]) rfl (by decide)) (hg19 ((a17.1 * p1), (a17.2 + (1 : Int32))) s18 hF)
noncomputable def f_Hand_benching_B21 (p1 : Int32) (v2 : Int32) (a3 : Int32) (s4 : ZS) (g5 : Int32 → ZS → Option (Int32 × ZS)) : Option (Int32 × ZS) := (if v2 < a3 then some ((-2 : Int32), s4) else zcl (f_Hand_seat a3 s4) (fun (v7 : Int32) (s6 : ZS) => (if v7 = 0 then g5 (a3 + (1 : Int32)) s6 else (if 0 ≤ p1 then zrd 5 p1 (s6.1 215) (fun (v8 : Int32) => some (v8, s6)) else some (a3, s6)))))
noncomputable def f_Hand_benching (p1 : Int32) (s0 : ZS) : Option (Int32 × ZS) := zgi (s0.1 4 3) (fun (v2 : Int32) => (if p1 < v2 then zlp zN (f_Hand_benching_B21 p1 v2) (0 : Int32) s0 else some ((-2 : Int32), s0)))
set_option maxHeartbeats 4000000 in
set_option maxRecDepth 100000 in
theorem ok_Hand_benching {L : Nat} {xs : Nat → Int32} {b : ZH} {p1 : Int32} {s0 : ZS} {w : Int32 × ZS} (hF : f_Hand_benching p1 s0 = some w) : zz_ct zt_ms zt_nm zt_df (zt_X L xs) 2 zt_m25 [.ref 213, .int p1] (zk b s0) (qI b w) := by
  unfold f_Hand_benching at hF
  change zz_wp zt_ms zt_nm zt_df (zt_X L xs) 2 zt_m25 0 [(0, .ref 213), (1, .int p1)] [] (zk b s0) (qI b w)
  refine w_aload_n (pc2 := 1) rfl rfl rfl ?_
  refine w_getfield (pc2 := 4) rfl zk_cHand rfl rfl rfl ?_
  refine w_getfield (pc2 := 7) rfl (zk_cWorld zk_w3) rfl rfl rfl ?_
  refine j_geti (pc2 := 10) rfl (zk_cSmithy zk_sm4) rfl rfl rfl hF (fun v2 hF => ?_)
  refine w_istore_n (pc2 := 11) (ls2 := [(2, .int v2), (0, .ref 213), (1, .int p1)]) rfl rfl rfl ?_
  refine w_iload_n (pc2 := 12) rfl rfl rfl ?_
  refine w_iload_n (pc2 := 13) rfl rfl rfl ?_
  refine j_icmp_lt (pc2 := 16) rfl rfl hF (fun hF => ?_) (fun hF => ?_)
  · refine w_iconst (pc2 := 20) rfl rfl ?_
    refine w_istore_n (pc2 := 21) (ls2 := [(3, .int (0 : Int32)), (2, .int v2), (0, .ref 213), (1, .int p1)]) rfl rfl rfl ?_
    refine j_norm (l := [(0, .ref 213), (1, .int p1), (2, .int v2), (3, .int (0 : Int32))]) ⟨rfl, rfl, rfl, rfl, trivial⟩ (zz_nd_of (ks := [0, 1, 2, 3]) rfl (by decide)) ?_
    refine j_loop (P := fun (a3 : Int32) (s4 : ZS) => zz_wp zt_ms zt_nm zt_df (zt_X L xs) 2 zt_m25 21 [(0, .ref 213), (1, .int p1), (2, .int v2), (3, .int a3)] [] (zk b s4) (qI b w)) hF (fun a3 s4 g5 hg5 hF => ?_)
    unfold f_Hand_benching_B21 at hF
    refine w_iload_n (pc2 := 22) rfl rfl rfl ?_
    refine w_iload_n (pc2 := 23) rfl rfl rfl ?_
    refine j_icmp_gt (pc2 := 26) rfl rfl hF (fun hF => ?_) (fun hF => ?_)
    · refine w_bipush (pc2 := 57) rfl rfl ?_
      exact j_iret rfl rfl hF
    · refine w_aload_n (pc2 := 27) rfl rfl rfl ?_
      refine w_iload_n (pc2 := 28) rfl rfl rfl ?_
      refine j_cIv (pc2 := 31) (k := 1) (c := zt_m26) (as := [.ref 213, .int a3]) (rest := []) rfl rfl rfl rfl zk_cHand.look rfl (Nat.le_of_ble_eq_true rfl) (Nat.le_of_ble_eq_true rfl) (fun w1 h1 => ok_Hand_seat h1) (by decide) rfl hF (fun v7 s6 hF => ?_)
      refine j_if_eq (pc2 := 34) rfl rfl hF (fun hF => ?_) (fun hF => ?_)
      · refine w_iinc (pc2 := 52) (ls2 := [(3, .int ((a3 + (1 : Int32)))), (0, .ref 213), (1, .int p1), (2, .int v2)]) rfl rfl rfl rfl ?_
        refine w_goto rfl ?_
        exact j_norm (l := [(0, .ref 213), (1, .int p1), (2, .int v2), (3, .int ((a3 + (1 : Int32))))]) ⟨rfl, rfl, rfl, rfl, trivial⟩ (zz_nd_of (ks := [0, 1, 2, 3]) rfl (by decide)) (hg5 (a3 + (1 : Int32)) s6 hF)
      · refine w_iload_n (pc2 := 35) rfl rfl rfl ?_
        refine j_if_ge (pc2 := 38) rfl rfl hF (fun hF => ?_) (fun hF => ?_)
        · refine w_aload_n (pc2 := 43) rfl rfl rfl ?_
          refine w_getfield (pc2 := 46) rfl zk_cHand rfl rfl rfl ?_
          refine w_iload_n (pc2 := 47) rfl rfl rfl ?_
          refine j_iaload (pc2 := 48) (n := 5) rfl rfl (by omega) (by decide) rfl hF (fun v8 hF => ?_)
          exact j_iret rfl rfl hF
        · refine w_iload_n (pc2 := 39) rfl rfl rfl ?_
          refine w_goto rfl ?_
          exact j_iret rfl rfl hF
  · refine w_bipush (pc2 := 18) rfl rfl ?_
    exact j_iret rfl rfl hF
noncomputable def f_Hand_goldPart_B59 (p1 : Int32) (p2 : Int32) (v4 : Int32) (v6 : Int32) (k9 : (Int32 × Int32) → ZS → Option (Int32 × ZS)) (a11 : Int32 × Int32 × Int32) (s12 : ZS) (g13 : (Int32 × Int32 × Int32) → ZS → Option (Int32 × ZS)) : Option (Int32 × ZS) := zgi (s12.1 4 3) (fun (v14 : Int32) => (if v14 ≤ a11.2.2 then k9 (a11.1, a11.2.1) s12 else zrd 5 a11.2.2 (s12.1 12) (fun (v15 : Int32) => zdv v4 (zdv v4 (zjn (A := Int32) (fun (a17 : Int32) (s16 : ZS) => g13 ((a11.1 - ((p1 * v15) / v4)), a17, (a11.2.2 + (1 : Int32))) s16) (fun (k18 : Int32 → ZS → Option (Int32 × ZS)) => zj0 (fun (s19 : ZS) => k18 (a11.2.1 + (1 : Int32)) s19) (fun (k20 : ZS → Option (Int32 × ZS)) => (if ((p1 * v6) - (p1 * v6) / v4 * v4) < ((p1 * v15) - (p1 * v15) / v4 * v4) then k20 s12 else zdv v4 ((if ¬ ((p1 * v15) - (p1 * v15) / v4 * v4) = ((p1 * v6) - (p1 * v6) / v4 * v4) then k18 a11.2.1 s12 else (if p2 ≤ a11.2.2 then k18 a11.2.1 s12 else k20 s12)))))))))))
noncomputable def f_Hand_goldPart (p1 : Int32) (p2 : Int32) (s0 : ZS) : Option (Int32 × ZS) := zcl (f_State_allWide 10 s0) (fun (v4 : Int32) (s3 : ZS) => (if v4 ≤ 0 then some ((0 : Int32), s3) else zrd 5 p2 (s3.1 12) (fun (v5 : Int32) => (if ¬ v5 = 0 then zrd 5 p2 (s3.1 12) (fun (v6 : Int32) => zdv v4 (zjn (A := Int32 × Int32) (fun (a8 : Int32 × Int32) (s7 : ZS) => zrd 5 p2 (s7.1 12) (fun (v10 : Int32) => zdv v4 ((if a8.1 ≤ a8.2 then some ((((p1 * v10) / v4) + (0 : Int32)), s7) else some ((((p1 * v10) / v4) + (1 : Int32)), s7))))) (fun (k9 : (Int32 × Int32) → ZS → Option (Int32 × ZS)) => zlp zN (f_Hand_goldPart_B59 p1 p2 v4 v6 k9) (p1, (0 : Int32), (0 : Int32)) s3))) else some ((0 : Int32), s3)))))
set_option maxHeartbeats 4000000 in
set_option maxRecDepth 100000 in
theorem ok_Hand_goldPart {L : Nat} {xs : Nat → Int32} {b : ZH} {p1 : Int32} {p2 : Int32} {s0 : ZS} {w : Int32 × ZS} (hF : f_Hand_goldPart p1 p2 s0 = some w) : zz_ct zt_ms zt_nm zt_df (zt_X L xs) 1 zt_m28 [.ref 213, .int p1, .int p2] (zk b s0) (qI b w) := by
  unfold f_Hand_goldPart at hF
  change zz_wp zt_ms zt_nm zt_df (zt_X L xs) 1 zt_m28 0 [(0, .ref 213), (1, .int p1), (2, .int p2)] [] (zk b s0) (qI b w)
  refine w_aload_n (pc2 := 1) rfl rfl rfl ?_
  refine w_getfield (pc2 := 4) rfl zk_cHand rfl rfl rfl ?_
  refine w_getfield (pc2 := 7) rfl (zk_cWorld zk_w3) rfl rfl rfl ?_
  refine j_cIv (pc2 := 10) (k := 0) (c := zt_m86) (as := [.ref 10]) (rest := []) rfl rfl rfl rfl (zk_cState zk_st10).look rfl (Nat.le_of_ble_eq_true rfl) (Nat.le_of_ble_eq_true rfl) (fun w1 h1 => ok_State_allWide zk_st10 h1) (by decide) rfl hF (fun v4 s3 hF => ?_)
  refine w_istore_n (pc2 := 11) (ls2 := [(3, .int v4), (0, .ref 213), (1, .int p1), (2, .int p2)]) rfl rfl rfl ?_
  refine w_iload_n (pc2 := 12) rfl rfl rfl ?_
  refine j_if_le (pc2 := 15) rfl rfl hF (fun hF => ?_) (fun hF => ?_)
  · refine w_iconst (pc2 := 31) rfl rfl ?_
    exact j_iret rfl rfl hF
  · refine w_aload_n (pc2 := 16) rfl rfl rfl ?_
    refine w_getfield (pc2 := 19) rfl zk_cHand rfl rfl rfl ?_
    refine w_getfield (pc2 := 22) rfl (zk_cWorld zk_w3) rfl rfl rfl ?_
    refine w_getfield (pc2 := 25) rfl (zk_cState zk_st10) rfl rfl rfl ?_
    refine w_iload_n (pc2 := 26) rfl rfl rfl ?_
    refine j_iaload (pc2 := 27) (n := 5) rfl rfl (by omega) (by decide) rfl hF (fun v5 hF => ?_)
    refine j_if_ne (pc2 := 30) rfl rfl hF (fun hF => ?_) (fun hF => ?_)
    · refine w_iload_n (pc2 := 33) rfl rfl rfl ?_
      refine w_istore (pc2 := 35) (ls2 := [(4, .int p1), (3, .int v4), (0, .ref 213), (1, .int p1), (2, .int p2)]) rfl rfl rfl ?_
      refine w_iconst (pc2 := 36) rfl rfl ?_
      refine w_istore (pc2 := 38) (ls2 := [(5, .int (0 : Int32)), (4, .int p1), (3, .int v4), (0, .ref 213), (1, .int p1), (2, .int p2)]) rfl rfl rfl ?_
      refine w_iload_n (pc2 := 39) rfl rfl rfl ?_
      refine w_aload_n (pc2 := 40) rfl rfl rfl ?_
      refine w_getfield (pc2 := 43) rfl zk_cHand rfl rfl rfl ?_
      refine w_getfield (pc2 := 46) rfl (zk_cWorld zk_w3) rfl rfl rfl ?_
      refine w_getfield (pc2 := 49) rfl (zk_cState zk_st10) rfl rfl rfl ?_
      refine w_iload_n (pc2 := 50) rfl rfl rfl ?_
      refine j_iaload (pc2 := 51) (n := 5) rfl rfl (by omega) (by decide) rfl hF (fun v6 hF => ?_)
      refine w_imul (pc2 := 52) rfl rfl ?_
      refine w_iload_n (pc2 := 53) rfl rfl rfl ?_
      refine j_irem (pc2 := 54) rfl rfl hF (fun hF => ?_)
      refine w_istore (pc2 := 56) (ls2 := [(6, .int (((p1 * v6) - (p1 * v6) / v4 * v4))), (5, .int (0 : Int32)), (4, .int p1), (3, .int v4), (0, .ref 213), (1, .int p1), (2, .int p2)]) rfl rfl rfl ?_
      refine w_iconst (pc2 := 57) rfl rfl ?_
      refine w_istore (pc2 := 59) (ls2 := [(7, .int (0 : Int32)), (6, .int (((p1 * v6) - (p1 * v6) / v4 * v4))), (5, .int (0 : Int32)), (4, .int p1), (3, .int v4), (0, .ref 213), (1, .int p1), (2, .int p2)]) rfl rfl rfl ?_
      refine j_join (P := fun (a8 : Int32 × Int32) (s7 : ZS) => zz_wp zt_ms zt_nm zt_df (zt_X L xs) 1 zt_m28 133 [(0, .ref 213), (1, .int p1), (2, .int p2), (3, .int v4), (4, .int a8.1), (5, .int a8.2)] [] (zk b s7) (qI b w)) hF (fun a8 s7 hF => ?_) (fun k9 hk9 hF => ?_)
      · refine w_iload_n (pc2 := 134) rfl rfl rfl ?_
        refine w_aload_n (pc2 := 135) rfl rfl rfl ?_
        refine w_getfield (pc2 := 138) rfl zk_cHand rfl rfl rfl ?_
        refine w_getfield (pc2 := 141) rfl (zk_cWorld zk_w3) rfl rfl rfl ?_
        refine w_getfield (pc2 := 144) rfl (zk_cState zk_st10) rfl rfl rfl ?_
        refine w_iload_n (pc2 := 145) rfl rfl rfl ?_
        refine j_iaload (pc2 := 146) (n := 5) rfl rfl (by omega) (by decide) rfl hF (fun v10 hF => ?_)
        refine w_imul (pc2 := 147) rfl rfl ?_
        refine w_iload_n (pc2 := 148) rfl rfl rfl ?_
        refine j_idiv (pc2 := 149) rfl rfl hF (fun hF => ?_)
        refine w_iload (pc2 := 151) rfl rfl rfl ?_
        refine w_iload (pc2 := 153) rfl rfl rfl ?_
        refine j_icmp_ge (pc2 := 156) rfl rfl hF (fun hF => ?_) (fun hF => ?_)
        · refine w_iconst (pc2 := 161) rfl rfl ?_
          refine w_iadd (pc2 := 162) rfl rfl ?_
          exact j_iret rfl rfl hF
        · refine w_iconst (pc2 := 157) rfl rfl ?_
          refine w_goto rfl ?_
          refine w_iadd (pc2 := 162) rfl rfl ?_
          exact j_iret rfl rfl hF
      · refine j_norm (l := [(0, .ref 213), (1, .int p1), (2, .int p2), (3, .int v4), (4, .int p1), (5, .int (0 : Int32)), (6, .int (((p1 * v6) - (p1 * v6) / v4 * v4))), (7, .int (0 : Int32))]) ⟨rfl, rfl, rfl, rfl, rfl, rfl, rfl, rfl, trivial⟩ (zz_nd_of (ks := [0, 1, 2, 3, 4, 5, 6, 7]) rfl (by decide)) ?_
        refine j_loop (P := fun (a11 : Int32 × Int32 × Int32) (s12 : ZS) => zz_wp zt_ms zt_nm zt_df (zt_X L xs) 1 zt_m28 59 [(0, .ref 213), (1, .int p1), (2, .int p2), (3, .int v4), (4, .int a11.1), (5, .int a11.2.1), (6, .int (((p1 * v6) - (p1 * v6) / v4 * v4))), (7, .int a11.2.2)] [] (zk b s12) (qI b w)) hF (fun a11 s12 g13 hg13 hF => ?_)
        unfold f_Hand_goldPart_B59 at hF
        refine w_iload (pc2 := 61) rfl rfl rfl ?_
        refine w_aload_n (pc2 := 62) rfl rfl rfl ?_
        refine w_getfield (pc2 := 65) rfl zk_cHand rfl rfl rfl ?_
        refine w_getfield (pc2 := 68) rfl (zk_cWorld zk_w3) rfl rfl rfl ?_
        refine j_geti (pc2 := 71) rfl (zk_cSmithy zk_sm4) rfl rfl rfl hF (fun v14 hF => ?_)
        refine j_icmp_ge (pc2 := 74) rfl rfl hF (fun hF => ?_) (fun hF => ?_)
        · exact j_norm (l := [(0, .ref 213), (1, .int p1), (2, .int p2), (3, .int v4), (4, .int a11.1), (5, .int a11.2.1)]) ⟨rfl, rfl, rfl, rfl, rfl, rfl, trivial⟩ (zz_nd_of (ks := [0, 1, 2, 3, 4, 5]) rfl (by decide)) (hk9 (a11.1, a11.2.1) s12 hF)
        · refine w_iload_n (pc2 := 75) rfl rfl rfl ?_
          refine w_aload_n (pc2 := 76) rfl rfl rfl ?_
          refine w_getfield (pc2 := 79) rfl zk_cHand rfl rfl rfl ?_
          refine w_getfield (pc2 := 82) rfl (zk_cWorld zk_w3) rfl rfl rfl ?_
          refine w_getfield (pc2 := 85) rfl (zk_cState zk_st10) rfl rfl rfl ?_
          refine w_iload (pc2 := 87) rfl rfl rfl ?_
          refine j_iaload (pc2 := 88) (n := 5) rfl rfl (by omega) (by decide) rfl hF (fun v15 hF => ?_)
          refine w_imul (pc2 := 89) rfl rfl ?_
          refine w_istore (pc2 := 91) (ls2 := [(8, .int (p1 * v15)), (0, .ref 213), (1, .int p1), (2, .int p2), (3, .int v4), (4, .int a11.1), (5, .int a11.2.1), (6, .int (((p1 * v6) - (p1 * v6) / v4 * v4))), (7, .int a11.2.2)]) rfl rfl rfl ?_
          refine w_iload (pc2 := 93) rfl rfl rfl ?_
          refine w_iload (pc2 := 95) rfl rfl rfl ?_
          refine w_iload_n (pc2 := 96) rfl rfl rfl ?_
          refine j_idiv (pc2 := 97) rfl rfl hF (fun hF => ?_)
          refine w_isub (pc2 := 98) rfl rfl ?_
          refine w_istore (pc2 := 100) (ls2 := [(4, .int ((a11.1 - ((p1 * v15) / v4)))), (8, .int (p1 * v15)), (0, .ref 213), (1, .int p1), (2, .int p2), (3, .int v4), (5, .int a11.2.1), (6, .int (((p1 * v6) - (p1 * v6) / v4 * v4))), (7, .int a11.2.2)]) rfl rfl rfl ?_
          refine w_iload (pc2 := 102) rfl rfl rfl ?_
          refine w_iload_n (pc2 := 103) rfl rfl rfl ?_
          refine j_irem (pc2 := 104) rfl rfl hF (fun hF => ?_)
          refine w_iload (pc2 := 106) rfl rfl rfl ?_
          refine j_join (P := fun (a17 : Int32) (s16 : ZS) => zz_wp zt_ms zt_nm zt_df (zt_X L xs) 1 zt_m28 127 [(0, .ref 213), (1, .int p1), (2, .int p2), (3, .int v4), (4, .int ((a11.1 - ((p1 * v15) / v4)))), (5, .int a17), (6, .int (((p1 * v6) - (p1 * v6) / v4 * v4))), (7, .int a11.2.2)] [] (zk b s16) (qI b w)) hF (fun a17 s16 hF => ?_) (fun k18 hk18 hF => ?_)
          · refine w_iinc (pc2 := 130) (ls2 := [(7, .int ((a11.2.2 + (1 : Int32)))), (0, .ref 213), (1, .int p1), (2, .int p2), (3, .int v4), (4, .int ((a11.1 - ((p1 * v15) / v4)))), (5, .int a17), (6, .int (((p1 * v6) - (p1 * v6) / v4 * v4)))]) rfl rfl rfl rfl ?_
            refine w_goto rfl ?_
            exact j_norm (l := [(0, .ref 213), (1, .int p1), (2, .int p2), (3, .int v4), (4, .int ((a11.1 - ((p1 * v15) / v4)))), (5, .int a17), (6, .int (((p1 * v6) - (p1 * v6) / v4 * v4))), (7, .int ((a11.2.2 + (1 : Int32))))]) ⟨rfl, rfl, rfl, rfl, rfl, rfl, rfl, rfl, trivial⟩ (zz_nd_of (ks := [0, 1, 2, 3, 4, 5, 6, 7]) rfl (by decide)) (hg13 ((a11.1 - ((p1 * v15) / v4)), a17, (a11.2.2 + (1 : Int32))) s16 hF)
          · refine j_join0 (P := fun (s19 : ZS) => zz_wp zt_ms zt_nm zt_df (zt_X L xs) 1 zt_m28 124 [(0, .ref 213), (1, .int p1), (2, .int p2), (3, .int v4), (4, .int ((a11.1 - ((p1 * v15) / v4)))), (5, .int a11.2.1), (6, .int (((p1 * v6) - (p1 * v6) / v4 * v4))), (7, .int a11.2.2)] [] (zk b s19) (qI b w)) hF (fun s19 hF => ?_) (fun k20 hk20 hF => ?_)
            · refine w_iinc (pc2 := 127) (ls2 := [(5, .int ((a11.2.1 + (1 : Int32)))), (0, .ref 213), (1, .int p1), (2, .int p2), (3, .int v4), (4, .int ((a11.1 - ((p1 * v15) / v4)))), (6, .int (((p1 * v6) - (p1 * v6) / v4 * v4))), (7, .int a11.2.2)]) rfl rfl rfl rfl ?_
              exact j_norm (l := [(0, .ref 213), (1, .int p1), (2, .int p2), (3, .int v4), (4, .int ((a11.1 - ((p1 * v15) / v4)))), (5, .int ((a11.2.1 + (1 : Int32)))), (6, .int (((p1 * v6) - (p1 * v6) / v4 * v4))), (7, .int a11.2.2)]) ⟨rfl, rfl, rfl, rfl, rfl, rfl, rfl, rfl, trivial⟩ (zz_nd_of (ks := [0, 1, 2, 3, 4, 5, 6, 7]) rfl (by decide)) (hk18 (a11.2.1 + (1 : Int32)) s19 hF)
            · refine j_icmp_gt (pc2 := 109) rfl rfl hF (fun hF => ?_) (fun hF => ?_)
              · exact j_norm (l := [(0, .ref 213), (1, .int p1), (2, .int p2), (3, .int v4), (4, .int ((a11.1 - ((p1 * v15) / v4)))), (5, .int a11.2.1), (6, .int (((p1 * v6) - (p1 * v6) / v4 * v4))), (7, .int a11.2.2)]) ⟨rfl, rfl, rfl, rfl, rfl, rfl, rfl, rfl, trivial⟩ (zz_nd_of (ks := [0, 1, 2, 3, 4, 5, 6, 7]) rfl (by decide)) (hk20 s12 hF)
              · refine w_iload (pc2 := 111) rfl rfl rfl ?_
                refine w_iload_n (pc2 := 112) rfl rfl rfl ?_
                refine j_irem (pc2 := 113) rfl rfl hF (fun hF => ?_)
                refine w_iload (pc2 := 115) rfl rfl rfl ?_
                refine j_icmp_ne (pc2 := 118) rfl rfl hF (fun hF => ?_) (fun hF => ?_)
                · exact j_norm (l := [(0, .ref 213), (1, .int p1), (2, .int p2), (3, .int v4), (4, .int ((a11.1 - ((p1 * v15) / v4)))), (5, .int a11.2.1), (6, .int (((p1 * v6) - (p1 * v6) / v4 * v4))), (7, .int a11.2.2)]) ⟨rfl, rfl, rfl, rfl, rfl, rfl, rfl, rfl, trivial⟩ (zz_nd_of (ks := [0, 1, 2, 3, 4, 5, 6, 7]) rfl (by decide)) (hk18 a11.2.1 s12 hF)
                · refine w_iload (pc2 := 120) rfl rfl rfl ?_
                  refine w_iload_n (pc2 := 121) rfl rfl rfl ?_
                  refine j_icmp_ge (pc2 := 124) rfl rfl hF (fun hF => ?_) (fun hF => ?_)
                  · exact j_norm (l := [(0, .ref 213), (1, .int p1), (2, .int p2), (3, .int v4), (4, .int ((a11.1 - ((p1 * v15) / v4)))), (5, .int a11.2.1), (6, .int (((p1 * v6) - (p1 * v6) / v4 * v4))), (7, .int a11.2.2)]) ⟨rfl, rfl, rfl, rfl, rfl, rfl, rfl, rfl, trivial⟩ (zz_nd_of (ks := [0, 1, 2, 3, 4, 5, 6, 7]) rfl (by decide)) (hk18 a11.2.1 s12 hF)
                  · exact j_norm (l := [(0, .ref 213), (1, .int p1), (2, .int p2), (3, .int v4), (4, .int ((a11.1 - ((p1 * v15) / v4)))), (5, .int a11.2.1), (6, .int (((p1 * v6) - (p1 * v6) / v4 * v4))), (7, .int a11.2.2)]) ⟨rfl, rfl, rfl, rfl, rfl, rfl, rfl, rfl, trivial⟩ (zz_nd_of (ks := [0, 1, 2, 3, 4, 5, 6, 7]) rfl (by decide)) (hk20 s12 hF)
    · refine w_iconst (pc2 := 31) rfl rfl ?_
      exact j_iret rfl rfl hF
noncomputable def f_Hand_afterDeed (p1 : Int32) (p2 : Int32) (p3 : Int32) (s0 : ZS) : Option (Int32 × ZS) := zgi (s0.1 4 4) (fun (v4 : Int32) => (if v4 ≤ p3 then some ((if (p2 + (3 : Int32)) < (999 : Int32) then (p2 + (3 : Int32)) else (999 : Int32)), s0) else zcl (f_Hand_raised p1 p2 p3 s0) (fun (v6 : Int32) (s5 : ZS) => some (v6, s5))))
set_option maxHeartbeats 4000000 in
set_option maxRecDepth 100000 in
theorem ok_Hand_afterDeed {L : Nat} {xs : Nat → Int32} {b : ZH} {p1 : Int32} {p2 : Int32} {p3 : Int32} {s0 : ZS} {w : Int32 × ZS} (hF : f_Hand_afterDeed p1 p2 p3 s0 = some w) : zz_ct zt_ms zt_nm zt_df (zt_X L xs) 2 zt_m30 [.ref 213, .int p1, .int p2, .int p3] (zk b s0) (qI b w) := by
  unfold f_Hand_afterDeed at hF
  change zz_wp zt_ms zt_nm zt_df (zt_X L xs) 2 zt_m30 0 [(0, .ref 213), (1, .int p1), (2, .int p2), (3, .int p3)] [] (zk b s0) (qI b w)
  refine w_iload_n (pc2 := 1) rfl rfl rfl ?_
  refine w_aload_n (pc2 := 2) rfl rfl rfl ?_
  refine w_getfield (pc2 := 5) rfl zk_cHand rfl rfl rfl ?_
  refine w_getfield (pc2 := 8) rfl (zk_cWorld zk_w3) rfl rfl rfl ?_
  refine j_geti (pc2 := 11) rfl (zk_cSmithy zk_sm4) rfl rfl rfl hF (fun v4 hF => ?_)
  refine j_icmp_ge (pc2 := 14) rfl rfl hF (fun hF => ?_) (fun hF => ?_)
  · refine w_sipush (pc2 := 25) rfl rfl ?_
    refine w_iload_n (pc2 := 26) rfl rfl rfl ?_
    refine w_iconst (pc2 := 27) rfl rfl ?_
    refine w_iadd (pc2 := 28) rfl rfl ?_
    refine w_min (pc2 := 31) rfl (Nat.le_of_ble_eq_true rfl) rfl ?_
    exact j_iret rfl rfl hF
  · refine w_aload_n (pc2 := 15) rfl rfl rfl ?_
    refine w_iload_n (pc2 := 16) rfl rfl rfl ?_
    refine w_iload_n (pc2 := 17) rfl rfl rfl ?_
    refine w_iload_n (pc2 := 18) rfl rfl rfl ?_
    refine j_cIv (pc2 := 21) (k := 1) (c := zt_m22) (as := [.ref 213, .int p1, .int p2, .int p3]) (rest := []) rfl rfl rfl rfl zk_cHand.look rfl (Nat.le_of_ble_eq_true rfl) (Nat.le_of_ble_eq_true rfl) (fun w1 h1 => ok_Hand_raised h1) (by decide) rfl hF (fun v6 s5 hF => ?_)
    exact j_iret rfl rfl hF
noncomputable def f_Hand_isOver (p1 : Int32) (p2 : Int32) (p3 : Int32) (s0 : ZS) : Option (Int32 × ZS) := (if p3 ≤ 0 then zbl (1 : Int32) s0 else (if (4 : Int32) ≤ p3 then zbl (1 : Int32) s0 else zrd 5 p1 (s0.1 6) (fun (v4 : Int32) => (if p2 < v4 then zbl (0 : Int32) s0 else zbl (1 : Int32) s0))))
set_option maxHeartbeats 4000000 in
set_option maxRecDepth 100000 in
theorem ok_Hand_isOver {L : Nat} {xs : Nat → Int32} {b : ZH} {p1 : Int32} {p2 : Int32} {p3 : Int32} {s0 : ZS} {w : Int32 × ZS} (hF : f_Hand_isOver p1 p2 p3 s0 = some w) : zz_ct zt_ms zt_nm zt_df (zt_X L xs) 0 zt_m32 [.ref 213, .int p1, .int p2, .int p3] (zk b s0) (qI b w) := by
  unfold f_Hand_isOver at hF
  change zz_wp zt_ms zt_nm zt_df (zt_X L xs) 0 zt_m32 0 [(0, .ref 213), (1, .int p1), (2, .int p2), (3, .int p3)] [] (zk b s0) (qI b w)
  refine w_iload_n (pc2 := 1) rfl rfl rfl ?_
  refine j_if_le (pc2 := 4) rfl rfl hF (fun hF => ?_) (fun hF => ?_)
  · refine w_iconst (pc2 := 26) rfl rfl ?_
    refine w_goto rfl ?_
    exact j_zret rfl rfl hF
  · refine w_iload_n (pc2 := 5) rfl rfl rfl ?_
    refine w_iconst (pc2 := 6) rfl rfl ?_
    refine j_icmp_ge (pc2 := 9) rfl rfl hF (fun hF => ?_) (fun hF => ?_)
    · refine w_iconst (pc2 := 26) rfl rfl ?_
      refine w_goto rfl ?_
      exact j_zret rfl rfl hF
    · refine w_iload_n (pc2 := 10) rfl rfl rfl ?_
      refine w_aload_n (pc2 := 11) rfl rfl rfl ?_
      refine w_getfield (pc2 := 14) rfl zk_cHand rfl rfl rfl ?_
      refine w_getfield (pc2 := 17) rfl (zk_cWorld zk_w3) rfl rfl rfl ?_
      refine w_getfield (pc2 := 20) rfl (zk_cSmithy zk_sm4) rfl rfl rfl ?_
      refine w_iload_n (pc2 := 21) rfl rfl rfl ?_
      refine j_iaload (pc2 := 22) (n := 5) rfl rfl (by omega) (by decide) rfl hF (fun v4 hF => ?_)
      refine j_icmp_lt (pc2 := 25) rfl rfl hF (fun hF => ?_) (fun hF => ?_)
      · refine w_iconst (pc2 := 30) rfl rfl ?_
        exact j_zret rfl rfl hF
      · refine w_iconst (pc2 := 26) rfl rfl ?_
        refine w_goto rfl ?_
        exact j_zret rfl rfl hF
