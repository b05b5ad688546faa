/-! What methods do as functions of the state, and that the small machine does so. -/
noncomputable def f_Model_leastNeeded_B8 (p1 : Int32) (p2 : Int32) (p3 : Int32) (a4 : Int32 × Int32) (s5 : ZS) (g6 : (Int32 × Int32) → ZS → Option (Int32 × ZS)) : Option (Int32 × ZS) := zgi (s5.1 226 4) (fun (v7 : Int32) => (if v7 ≤ a4.2 then some (a4.1, s5) else zcl (f_Model_neededBy p1 p2 a4.2 p3 s5) (fun (v9 : Int32) (s8 : ZS) => zjn (A := Int32) (fun (a11 : Int32) (s10 : ZS) => g6 (a11, (a4.2 + (1 : Int32))) s10) (fun (k12 : Int32 → ZS → Option (Int32 × ZS)) => (if a4.1 ≤ v9 then k12 a4.1 s8 else k12 v9 s8)))))
noncomputable def f_Model_leastNeeded (p1 : Int32) (p2 : Int32) (p3 : Int32) (s0 : ZS) : Option (Int32 × ZS) := zlp zN (f_Model_leastNeeded_B8 p1 p2 p3) ((9999 : Int32), (0 : Int32)) s0
set_option maxHeartbeats 4000000 in
set_option maxRecDepth 100000 in
theorem ok_Model_leastNeeded {L : Nat} {xs : Nat → Int32} {b : ZH} {p1 : Int32} {p2 : Int32} {p3 : Int32} {s0 : ZS} {w : Int32 × ZS} (hF : f_Model_leastNeeded p1 p2 p3 s0 = some w) : zz_ct zt_ms zt_nm zt_df (zt_X L xs) 2 zt_m222 [.ref 216, .int p1, .int p2, .int p3] (zk b s0) (qI b w) := by
  unfold f_Model_leastNeeded at hF
  change zz_wp zt_ms zt_nm zt_df (zt_X L xs) 2 zt_m222 0 [(0, .ref 216), (1, .int p1), (2, .int p2), (3, .int p3)] [] (zk b s0) (qI b w)
  refine w_sipush (pc2 := 3) rfl rfl ?_
  refine w_istore (pc2 := 5) (ls2 := [(4, .int (9999 : Int32)), (0, .ref 216), (1, .int p1), (2, .int p2), (3, .int p3)]) rfl rfl rfl ?_
  refine w_iconst (pc2 := 6) rfl rfl ?_
  refine w_istore (pc2 := 8) (ls2 := [(5, .int (0 : Int32)), (4, .int (9999 : Int32)), (0, .ref 216), (1, .int p1), (2, .int p2), (3, .int p3)]) rfl rfl rfl ?_
  refine j_norm (l := [(0, .ref 216), (1, .int p1), (2, .int p2), (3, .int p3), (4, .int (9999 : Int32)), (5, .int (0 : Int32))]) ⟨rfl, rfl, rfl, rfl, rfl, rfl, trivial⟩ (zz_nd_of (ks := [0, 1, 2, 3, 4, 5]) rfl (by decide)) ?_
  refine j_loop (P := fun (a4 : Int32 × Int32) (s5 : ZS) => zz_wp zt_ms zt_nm zt_df (zt_X L xs) 2 zt_m222 8 [(0, .ref 216), (1, .int p1), (2, .int p2), (3, .int p3), (4, .int a4.1), (5, .int a4.2)] [] (zk b s5) (qI b w)) hF (fun a4 s5 g6 hg6 hF => ?_)
  unfold f_Model_leastNeeded_B8 at hF
  refine w_iload (pc2 := 10) rfl rfl rfl ?_
  refine w_aload_n (pc2 := 11) rfl rfl rfl ?_
  refine w_getfield (pc2 := 14) rfl zk_cModel rfl rfl rfl ?_
  refine w_iconst (pc2 := 15) rfl rfl ?_
  refine j_ialoadC (pc2 := 16) (n := 139) (j := 4) rfl rfl (by omega) (by decide) (by decide) (by decide) (by decide) rfl hF (fun v7 hF => ?_)
  refine j_icmp_ge (pc2 := 19) rfl rfl hF (fun hF => ?_) (fun hF => ?_)
  · refine w_iload (pc2 := 54) rfl rfl rfl ?_
    exact j_iret rfl rfl hF
  · refine w_aload_n (pc2 := 20) rfl rfl rfl ?_
    refine w_iload_n (pc2 := 21) rfl rfl rfl ?_
    refine w_iload_n (pc2 := 22) rfl rfl rfl ?_
    refine w_iload (pc2 := 24) rfl rfl rfl ?_
    refine w_iload_n (pc2 := 25) rfl rfl rfl ?_
    refine j_cIv (pc2 := 28) (k := 1) (c := zt_m223) (as := [.ref 216, .int p1, .int p2, .int a4.2, .int p3]) (rest := []) rfl rfl rfl rfl zk_cModel.look rfl (Nat.le_of_ble_eq_true rfl) (Nat.le_of_ble_eq_true rfl) (fun w1 h1 => ok_Model_neededBy h1) (by decide) rfl hF (fun v9 s8 hF => ?_)
    refine w_istore (pc2 := 30) (ls2 := [(6, .int v9), (0, .ref 216), (1, .int p1), (2, .int p2), (3, .int p3), (4, .int a4.1), (5, .int a4.2)]) rfl rfl rfl ?_
    refine w_iload (pc2 := 32) rfl rfl rfl ?_
    refine w_iload (pc2 := 34) rfl rfl rfl ?_
    refine j_join (P := fun (a11 : Int32) (s10 : ZS) => zz_wp zt_ms zt_nm zt_df (zt_X L xs) 2 zt_m222 44 [(0, .ref 216), (1, .int p1), (2, .int p2), (3, .int p3), (5, .int a4.2)] [.int a11] (zk b s10) (qI b w)) hF (fun a11 s10 hF => ?_) (fun k12 hk12 hF => ?_)
    · refine w_istore (pc2 := 46) (ls2 := [(4, .int a11), (0, .ref 216), (1, .int p1), (2, .int p2), (3, .int p3), (5, .int a4.2)]) rfl rfl rfl ?_
      refine w_iinc (pc2 := 49) (ls2 := [(5, .int ((a4.2 + (1 : Int32)))), (4, .int a11), (0, .ref 216), (1, .int p1), (2, .int p2), (3, .int p3)]) rfl rfl rfl rfl ?_
      refine w_goto rfl ?_
      exact j_norm (l := [(0, .ref 216), (1, .int p1), (2, .int p2), (3, .int p3), (4, .int a11), (5, .int ((a4.2 + (1 : Int32))))]) ⟨rfl, rfl, rfl, rfl, rfl, rfl, trivial⟩ (zz_nd_of (ks := [0, 1, 2, 3, 4, 5]) rfl (by decide)) (hg6 (a11, (a4.2 + (1 : Int32))) s10 hF)
    · refine j_icmp_ge (pc2 := 37) rfl rfl hF (fun hF => ?_) (fun hF => ?_)
      · refine w_iload (pc2 := 44) rfl rfl rfl ?_
        exact j_norm (l := [(0, .ref 216), (1, .int p1), (2, .int p2), (3, .int p3), (5, .int a4.2)]) ⟨rfl, rfl, rfl, rfl, rfl, trivial⟩ (zz_nd_of (ks := [0, 1, 2, 3, 5]) rfl (by decide)) (hk12 a4.1 s8 hF)
      · refine w_iload (pc2 := 39) rfl rfl rfl ?_
        refine w_goto rfl ?_
        exact j_norm (l := [(0, .ref 216), (1, .int p1), (2, .int p2), (3, .int p3), (5, .int a4.2)]) ⟨rfl, rfl, rfl, rfl, rfl, trivial⟩ (zz_nd_of (ks := [0, 1, 2, 3, 5]) rfl (by decide)) (hk12 v9 s8 hF)
noncomputable def f_Model_bring_B116 (p1 : Int32) (p2 : Int32) (v15 : Int32) (a16 : Int32) (s17 : ZS) (g18 : Int32 → ZS → Option (Int32 × ZS)) : Option (Int32 × ZS) := zcl (f_Model_temperOf p1 s17) (fun (v20 : Int32) (s19 : ZS) => zcl (f_Model_neededBy p1 v20 a16 p2 s19) (fun (v22 : Int32) (s21 : ZS) => (if v22 = v15 then some (a16, s21) else g18 (a16 + (1 : Int32)) s21)))
noncomputable def f_Model_bring_B36 (p1 : Int32) (p2 : Int32) (k11 : ZS → Option (Int32 × ZS)) (a23 : Int32) (s24 : ZS) (g25 : Int32 → ZS → Option (Int32 × ZS)) : Option (Int32 × ZS) := (if a23 < 0 then k11 s24 else zrd 139 (((57 : Int32) + p1)) (s24.1 226) (fun (v26 : Int32) => zjn (A := Int32) (fun (a28 : Int32) (s27 : ZS) => zwa s27 230 121 a23 a28 (fun (s30 : ZS) => g25 (a23 + (-1 : Int32)) s30)) (fun (k29 : Int32 → ZS → Option (Int32 × ZS)) => (if v26 ≤ a23 then k29 (9999 : Int32) s24 else zcl (f_Model_leastNeeded p1 a23 p2 s24) (fun (v32 : Int32) (s31 : ZS) => k29 v32 s31)))))
noncomputable def f_Model_bring (p1 : Int32) (p2 : Int32) (p3 : Int32) (s0 : ZS) : Option (Int32 × ZS) := zcl (f_Model_isBare p1 s0) (fun (v5 : Int32) (s4 : ZS) => (if v5 = 0 then some ((-1 : Int32), s4) else zcl (f_Model_in (p2.toInt64) (1 : Int64) (120 : Int64) s4) (fun (v7 : Int32) (s6 : ZS) => (if v7 = 0 then some ((-1 : Int32), s6) else zcl (f_Model_in (p3.toInt64) (0 : Int64) (1 : Int64) s6) (fun (v9 : Int32) (s8 : ZS) => (if ¬ v9 = 0 then zj0 (fun (s10 : ZS) => zcl (f_Model_temperOf p1 s10) (fun (v13 : Int32) (s12 : ZS) => zcl (f_Model_leastNeeded p1 v13 p2 s12) (fun (v15 : Int32) (s14 : ZS) => (if v15 < (9999 : Int32) then (if ¬ p3 = 0 then zlp zN (f_Model_bring_B116 p1 p2 v15) (0 : Int32) s14 else some (v15, s14)) else some ((-2 : Int32), s14))))) (fun (k11 : ZS → Option (Int32 × ZS)) => zlp zN (f_Model_bring_B36 p1 p2 k11) (120 : Int32) s8) else some ((-1 : Int32), s8)))))))
set_option maxHeartbeats 4000000 in
set_option maxRecDepth 100000 in
theorem ok_Model_bring {L : Nat} {xs : Nat → Int32} {b : ZH} {p1 : Int32} {p2 : Int32} {p3 : Int32} {s0 : ZS} {w : Int32 × ZS} (hF : f_Model_bring p1 p2 p3 s0 = some w) : zz_ct zt_ms zt_nm zt_df (zt_X L xs) 3 zt_m221 [.ref 216, .int p1, .int p2, .int p3] (zk b s0) (qI b w) := by
  unfold f_Model_bring at hF
  change zz_wp zt_ms zt_nm zt_df (zt_X L xs) 3 zt_m221 0 [(0, .ref 216), (1, .int p1), (2, .int p2), (3, .int p3)] [] (zk b s0) (qI b w)
  refine w_aload_n (pc2 := 1) rfl rfl rfl ?_
  refine w_iload_n (pc2 := 2) rfl rfl rfl ?_
  refine j_cIv (pc2 := 5) (k := 1) (c := zt_m197) (as := [.ref 216, .int p1]) (rest := []) rfl rfl rfl rfl zk_cModel.look rfl (Nat.le_of_ble_eq_true rfl) (Nat.le_of_ble_eq_true rfl) (fun w1 h1 => ok_Model_isBare h1) (by decide) rfl hF (fun v5 s4 hF => ?_)
  refine j_if_eq (pc2 := 8) rfl rfl hF (fun hF => ?_) (fun hF => ?_)
  · refine w_iconst (pc2 := 31) rfl rfl ?_
    exact j_iret rfl rfl hF
  · refine w_iload_n (pc2 := 9) rfl rfl rfl ?_
    refine w_i2l (pc2 := 10) rfl rfl ?_
    refine w_lconst (pc2 := 11) rfl rfl ?_
    refine w_ldc2_w (pc2 := 14) rfl rfl ?_
    refine j_cIs (pc2 := 17) (k := 0) (c := zt_m160) (as := [.long (p2.toInt64), .long (1 : Int64), .long (120 : Int64)]) (rest := []) rfl rfl rfl (Nat.le_of_ble_eq_true rfl) rfl rfl (Nat.le_of_ble_eq_true rfl) (Nat.le_of_ble_eq_true rfl) (fun w1 h1 => ok_Model_in h1) (by decide) rfl hF (fun v7 s6 hF => ?_)
    refine j_if_eq (pc2 := 20) rfl rfl hF (fun hF => ?_) (fun hF => ?_)
    · refine w_iconst (pc2 := 31) rfl rfl ?_
      exact j_iret rfl rfl hF
    · refine w_iload_n (pc2 := 21) rfl rfl rfl ?_
      refine w_i2l (pc2 := 22) rfl rfl ?_
      refine w_lconst (pc2 := 23) rfl rfl ?_
      refine w_lconst (pc2 := 24) rfl rfl ?_
      refine j_cIs (pc2 := 27) (k := 0) (c := zt_m160) (as := [.long (p3.toInt64), .long (0 : Int64), .long (1 : Int64)]) (rest := []) rfl rfl rfl (Nat.le_of_ble_eq_true rfl) rfl rfl (Nat.le_of_ble_eq_true rfl) (Nat.le_of_ble_eq_true rfl) (fun w1 h1 => ok_Model_in h1) (by decide) rfl hF (fun v9 s8 hF => ?_)
      refine j_if_ne (pc2 := 30) rfl rfl hF (fun hF => ?_) (fun hF => ?_)
      · refine w_bipush (pc2 := 34) rfl rfl ?_
        refine w_istore (pc2 := 36) (ls2 := [(4, .int (120 : Int32)), (0, .ref 216), (1, .int p1), (2, .int p2), (3, .int p3)]) rfl rfl rfl ?_
        refine j_join0 (P := fun (s10 : ZS) => zz_wp zt_ms zt_nm zt_df (zt_X L xs) 3 zt_m221 82 [(0, .ref 216), (1, .int p1), (2, .int p2), (3, .int p3)] [] (zk b s10) (qI b w)) hF (fun s10 hF => ?_) (fun k11 hk11 hF => ?_)
        · refine w_aload_n (pc2 := 83) rfl rfl rfl ?_
          refine w_iload_n (pc2 := 84) rfl rfl rfl ?_
          refine w_aload_n (pc2 := 85) rfl rfl rfl ?_
          refine w_iload_n (pc2 := 86) rfl rfl rfl ?_
          refine j_cIv (pc2 := 89) (k := 0) (c := zt_m187) (as := [.ref 216, .int p1]) (rest := [.int p1, .ref 216]) rfl rfl rfl rfl zk_cModel.look rfl (Nat.le_of_ble_eq_true rfl) (Nat.le_of_ble_eq_true rfl) (fun w1 h1 => ok_Model_temperOf h1) (by decide) rfl hF (fun v13 s12 hF => ?_)
          refine w_iload_n (pc2 := 90) rfl rfl rfl ?_
          refine j_cIv (pc2 := 93) (k := 2) (c := zt_m222) (as := [.ref 216, .int p1, .int v13, .int p2]) (rest := []) rfl rfl rfl rfl zk_cModel.look rfl (Nat.le_of_ble_eq_true rfl) (Nat.le_of_ble_eq_true rfl) (fun w1 h1 => ok_Model_leastNeeded h1) (by decide) rfl hF (fun v15 s14 hF => ?_)
          refine w_istore (pc2 := 95) (ls2 := [(4, .int v15), (0, .ref 216), (1, .int p1), (2, .int p2), (3, .int p3)]) rfl rfl rfl ?_
          refine w_iload (pc2 := 97) rfl rfl rfl ?_
          refine w_sipush (pc2 := 100) rfl rfl ?_
          refine j_icmp_lt (pc2 := 103) rfl rfl hF (fun hF => ?_) (fun hF => ?_)
          · refine w_iload_n (pc2 := 107) rfl rfl rfl ?_
            refine j_if_ne (pc2 := 110) rfl rfl hF (fun hF => ?_) (fun hF => ?_)
            · refine w_iconst (pc2 := 114) rfl rfl ?_
              refine w_istore (pc2 := 116) (ls2 := [(5, .int (0 : Int32)), (4, .int v15), (0, .ref 216), (1, .int p1), (2, .int p2), (3, .int p3)]) rfl rfl rfl ?_
              refine j_norm (l := [(0, .ref 216), (1, .int p1), (2, .int p2), (4, .int v15), (5, .int (0 : Int32))]) ⟨rfl, rfl, rfl, rfl, rfl, trivial⟩ (zz_nd_of (ks := [0, 1, 2, 4, 5]) rfl (by decide)) ?_
              refine j_loop (P := fun (a16 : Int32) (s17 : ZS) => zz_wp zt_ms zt_nm zt_df (zt_X L xs) 3 zt_m221 116 [(0, .ref 216), (1, .int p1), (2, .int p2), (4, .int v15), (5, .int a16)] [] (zk b s17) (qI b w)) hF (fun a16 s17 g18 hg18 hF => ?_)
              unfold f_Model_bring_B116 at hF
              refine w_aload_n (pc2 := 117) rfl rfl rfl ?_
              refine w_iload_n (pc2 := 118) rfl rfl rfl ?_
              refine w_aload_n (pc2 := 119) rfl rfl rfl ?_
              refine w_iload_n (pc2 := 120) rfl rfl rfl ?_
              refine j_cIv (pc2 := 123) (k := 0) (c := zt_m187) (as := [.ref 216, .int p1]) (rest := [.int p1, .ref 216]) rfl rfl rfl rfl zk_cModel.look rfl (Nat.le_of_ble_eq_true rfl) (Nat.le_of_ble_eq_true rfl) (fun w1 h1 => ok_Model_temperOf h1) (by decide) rfl hF (fun v20 s19 hF => ?_)
              refine w_iload (pc2 := 125) rfl rfl rfl ?_
              refine w_iload_n (pc2 := 126) rfl rfl rfl ?_
              refine j_cIv (pc2 := 129) (k := 1) (c := zt_m223) (as := [.ref 216, .int p1, .int v20, .int a16, .int p2]) (rest := []) rfl rfl rfl rfl zk_cModel.look rfl (Nat.le_of_ble_eq_true rfl) (Nat.le_of_ble_eq_true rfl) (fun w1 h1 => ok_Model_neededBy h1) (by decide) rfl hF (fun v22 s21 hF => ?_)
              refine w_iload (pc2 := 131) rfl rfl rfl ?_
              refine j_icmp_eq (pc2 := 134) rfl rfl hF (fun hF => ?_) (fun hF => ?_)
              · refine w_iload (pc2 := 142) rfl rfl rfl ?_
                exact j_iret rfl rfl hF
              · refine w_iinc (pc2 := 137) (ls2 := [(5, .int ((a16 + (1 : Int32)))), (0, .ref 216), (1, .int p1), (2, .int p2), (4, .int v15)]) rfl rfl rfl rfl ?_
                refine w_goto rfl ?_
                exact j_norm (l := [(0, .ref 216), (1, .int p1), (2, .int p2), (4, .int v15), (5, .int ((a16 + (1 : Int32))))]) ⟨rfl, rfl, rfl, rfl, rfl, trivial⟩ (zz_nd_of (ks := [0, 1, 2, 4, 5]) rfl (by decide)) (hg18 (a16 + (1 : Int32)) s21 hF)
            · refine w_iload (pc2 := 112) rfl rfl rfl ?_
              exact j_iret rfl rfl hF
          · refine w_bipush (pc2 := 105) rfl rfl ?_
            exact j_iret rfl rfl hF
        · refine j_norm (l := [(0, .ref 216), (1, .int p1), (2, .int p2), (3, .int p3), (4, .int (120 : Int32))]) ⟨rfl, rfl, rfl, rfl, rfl, trivial⟩ (zz_nd_of (ks := [0, 1, 2, 3, 4]) rfl (by decide)) ?_
          refine j_loop (P := fun (a23 : Int32) (s24 : ZS) => zz_wp zt_ms zt_nm zt_df (zt_X L xs) 3 zt_m221 36 [(0, .ref 216), (1, .int p1), (2, .int p2), (3, .int p3), (4, .int a23)] [] (zk b s24) (qI b w)) hF (fun a23 s24 g25 hg25 hF => ?_)
          unfold f_Model_bring_B36 at hF
          refine w_iload (pc2 := 38) rfl rfl rfl ?_
          refine j_if_lt (pc2 := 41) rfl rfl hF (fun hF => ?_) (fun hF => ?_)
          · exact j_norm (l := [(0, .ref 216), (1, .int p1), (2, .int p2), (3, .int p3)]) ⟨rfl, rfl, rfl, rfl, trivial⟩ (zz_nd_of (ks := [0, 1, 2, 3]) rfl (by decide)) (hk11 s24 hF)
          · refine w_aload_n (pc2 := 42) rfl rfl rfl ?_
            refine w_getfield (pc2 := 45) rfl zk_cModel rfl rfl rfl ?_
            refine w_iload (pc2 := 47) rfl rfl rfl ?_
            refine w_iload (pc2 := 49) rfl rfl rfl ?_
            refine w_aload_n (pc2 := 50) rfl rfl rfl ?_
            refine w_getfield (pc2 := 53) rfl zk_cModel rfl rfl rfl ?_
            refine w_bipush (pc2 := 55) rfl rfl ?_
            refine w_iload_n (pc2 := 56) rfl rfl rfl ?_
            refine w_iadd (pc2 := 57) rfl rfl ?_
            refine j_iaload (pc2 := 58) (n := 139) rfl rfl (by omega) (by decide) rfl hF (fun v26 hF => ?_)
            refine j_join (P := fun (a28 : Int32) (s27 : ZS) => zz_wp zt_ms zt_nm zt_df (zt_X L xs) 3 zt_m221 75 [(0, .ref 216), (1, .int p1), (2, .int p2), (3, .int p3), (4, .int a23)] [.int a28, .int a23, .ref 230] (zk b s27) (qI b w)) hF (fun a28 s27 hF => ?_) (fun k29 hk29 hF => ?_)
            · refine j_iastore (pc2 := 76) (n := 121) rfl rfl (by omega) (by decide) rfl hF (fun s30 hF => ?_)
              refine w_iinc (pc2 := 79) (ls2 := [(4, .int ((a23 + (-1 : Int32)))), (0, .ref 216), (1, .int p1), (2, .int p2), (3, .int p3)]) rfl rfl rfl rfl ?_
              refine w_goto rfl ?_
              exact j_norm (l := [(0, .ref 216), (1, .int p1), (2, .int p2), (3, .int p3), (4, .int ((a23 + (-1 : Int32))))]) ⟨rfl, rfl, rfl, rfl, rfl, trivial⟩ (zz_nd_of (ks := [0, 1, 2, 3, 4]) rfl (by decide)) (hg25 (a23 + (-1 : Int32)) s30 hF)
            · refine j_icmp_ge (pc2 := 61) rfl rfl hF (fun hF => ?_) (fun hF => ?_)
              · refine w_sipush (pc2 := 75) rfl rfl ?_
                exact j_norm (l := [(0, .ref 216), (1, .int p1), (2, .int p2), (3, .int p3), (4, .int a23)]) ⟨rfl, rfl, rfl, rfl, rfl, trivial⟩ (zz_nd_of (ks := [0, 1, 2, 3, 4]) rfl (by decide)) (hk29 (9999 : Int32) s24 hF)
              · refine w_aload_n (pc2 := 62) rfl rfl rfl ?_
                refine w_iload_n (pc2 := 63) rfl rfl rfl ?_
                refine w_iload (pc2 := 65) rfl rfl rfl ?_
                refine w_iload_n (pc2 := 66) rfl rfl rfl ?_
                refine j_cIv (pc2 := 69) (k := 2) (c := zt_m222) (as := [.ref 216, .int p1, .int a23, .int p2]) (rest := [.int a23, .ref 230]) rfl rfl rfl rfl zk_cModel.look rfl (Nat.le_of_ble_eq_true rfl) (Nat.le_of_ble_eq_true rfl) (fun w1 h1 => ok_Model_leastNeeded h1) (by decide) rfl hF (fun v32 s31 hF => ?_)
                refine w_goto rfl ?_
                exact j_norm (l := [(0, .ref 216), (1, .int p1), (2, .int p2), (3, .int p3), (4, .int a23)]) ⟨rfl, rfl, rfl, rfl, rfl, trivial⟩ (zz_nd_of (ks := [0, 1, 2, 3, 4]) rfl (by decide)) (hk29 v32 s31 hF)
      · refine w_iconst (pc2 := 31) rfl rfl ?_
        exact j_iret rfl rfl hF
noncomputable def f_Model_smooth (p1 : Int32) (s0 : ZS) : Option (Int32 × ZS) := zcl (f_Model_isPair p1 s0) (fun (v3 : Int32) (s2 : ZS) => (if v3 = 0 then some ((-1 : Int32), s2) else zcl (f_Model_isBare p1 s2) (fun (v5 : Int32) (s4 : ZS) => (if v5 = 0 then zcl (f_Model_bandOf p1 s4) (fun (v7 : Int32) (s6 : ZS) => zgi (s6.1 226 2) (fun (v8 : Int32) => zgi (s6.1 226 2) (fun (v9 : Int32) => zdv v9 (zgi (s6.1 226 10) (fun (v10 : Int32) => zgi (s6.1 226 10) (fun (v11 : Int32) => some ((((v10 + (9 : Int32)) - (v11 - v11 / (10 : Int32) * (10 : Int32))) + ((10 : Int32) * ((((v7 + v8) - (1 : Int32)) / v9) - (1 : Int32)))), s6))))))) else some ((-1 : Int32), s4)))))
set_option maxHeartbeats 4000000 in
set_option maxRecDepth 100000 in
theorem ok_Model_smooth {L : Nat} {xs : Nat → Int32} {b : ZH} {p1 : Int32} {s0 : ZS} {w : Int32 × ZS} (hF : f_Model_smooth p1 s0 = some w) : zz_ct zt_ms zt_nm zt_df (zt_X L xs) 2 zt_m224 [.ref 216, .int p1] (zk b s0) (qI b w) := by
  unfold f_Model_smooth at hF
  change zz_wp zt_ms zt_nm zt_df (zt_X L xs) 2 zt_m224 0 [(0, .ref 216), (1, .int p1)] [] (zk b s0) (qI b w)
  refine w_aload_n (pc2 := 1) rfl rfl rfl ?_
  refine w_iload_n (pc2 := 2) rfl rfl rfl ?_
  refine j_cIv (pc2 := 5) (k := 0) (c := zt_m186) (as := [.ref 216, .int p1]) (rest := []) rfl rfl rfl rfl zk_cModel.look rfl (Nat.le_of_ble_eq_true rfl) (Nat.le_of_ble_eq_true rfl) (fun w1 h1 => ok_Model_isPair h1) (by decide) rfl hF (fun v3 s2 hF => ?_)
  refine j_if_eq (pc2 := 8) rfl rfl hF (fun hF => ?_) (fun hF => ?_)
  · refine w_iconst (pc2 := 17) rfl rfl ?_
    exact j_iret rfl rfl hF
  · refine w_aload_n (pc2 := 9) rfl rfl rfl ?_
    refine w_iload_n (pc2 := 10) rfl rfl rfl ?_
    refine j_cIv (pc2 := 13) (k := 1) (c := zt_m197) (as := [.ref 216, .int p1]) (rest := []) rfl rfl rfl rfl zk_cModel.look rfl (Nat.le_of_ble_eq_true rfl) (Nat.le_of_ble_eq_true rfl) (fun w1 h1 => ok_Model_isBare h1) (by decide) rfl hF (fun v5 s4 hF => ?_)
    refine j_if_eq (pc2 := 16) rfl rfl hF (fun hF => ?_) (fun hF => ?_)
    · refine w_aload_n (pc2 := 19) rfl rfl rfl ?_
      refine w_iload_n (pc2 := 20) rfl rfl rfl ?_
      refine j_cIv (pc2 := 23) (k := 0) (c := zt_m188) (as := [.ref 216, .int p1]) (rest := []) rfl rfl rfl rfl zk_cModel.look rfl (Nat.le_of_ble_eq_true rfl) (Nat.le_of_ble_eq_true rfl) (fun w1 h1 => ok_Model_bandOf h1) (by decide) rfl hF (fun v7 s6 hF => ?_)
      refine w_aload_n (pc2 := 24) rfl rfl rfl ?_
      refine w_getfield (pc2 := 27) rfl zk_cModel rfl rfl rfl ?_
      refine w_iconst (pc2 := 28) rfl rfl ?_
      refine j_ialoadC (pc2 := 29) (n := 139) (j := 2) rfl rfl (by omega) (by decide) (by decide) (by decide) (by decide) rfl hF (fun v8 hF => ?_)
      refine w_iadd (pc2 := 30) rfl rfl ?_
      refine w_iconst (pc2 := 31) rfl rfl ?_
      refine w_isub (pc2 := 32) rfl rfl ?_
      refine w_aload_n (pc2 := 33) rfl rfl rfl ?_
      refine w_getfield (pc2 := 36) rfl zk_cModel rfl rfl rfl ?_
      refine w_iconst (pc2 := 37) rfl rfl ?_
      refine j_ialoadC (pc2 := 38) (n := 139) (j := 2) rfl rfl (by omega) (by decide) (by decide) (by decide) (by decide) rfl hF (fun v9 hF => ?_)
      refine j_idiv (pc2 := 39) rfl rfl hF (fun hF => ?_)
      refine w_istore_n (pc2 := 40) (ls2 := [(2, .int ((((v7 + v8) - (1 : Int32)) / v9))), (0, .ref 216), (1, .int p1)]) rfl rfl rfl ?_
      refine w_aload_n (pc2 := 41) rfl rfl rfl ?_
      refine w_getfield (pc2 := 44) rfl zk_cModel rfl rfl rfl ?_
      refine w_bipush (pc2 := 46) rfl rfl ?_
      refine j_ialoadC (pc2 := 47) (n := 139) (j := 10) rfl rfl (by omega) (by decide) (by decide) (by decide) (by decide) rfl hF (fun v10 hF => ?_)
      refine w_bipush (pc2 := 49) rfl rfl ?_
      refine w_iadd (pc2 := 50) rfl rfl ?_
      refine w_aload_n (pc2 := 51) rfl rfl rfl ?_
      refine w_getfield (pc2 := 54) rfl zk_cModel rfl rfl rfl ?_
      refine w_bipush (pc2 := 56) rfl rfl ?_
      refine j_ialoadC (pc2 := 57) (n := 139) (j := 10) rfl rfl (by omega) (by decide) (by decide) (by decide) (by decide) rfl hF (fun v11 hF => ?_)
      refine w_bipush (pc2 := 59) rfl rfl ?_
      refine w_irem (pc2 := 60) rfl (by decide) rfl ?_
      refine w_isub (pc2 := 61) rfl rfl ?_
      refine w_bipush (pc2 := 63) rfl rfl ?_
      refine w_iload_n (pc2 := 64) rfl rfl rfl ?_
      refine w_iconst (pc2 := 65) rfl rfl ?_
      refine w_isub (pc2 := 66) rfl rfl ?_
      refine w_imul (pc2 := 67) rfl rfl ?_
      refine w_iadd (pc2 := 68) rfl rfl ?_
      exact j_iret rfl rfl hF
    · refine w_iconst (pc2 := 17) rfl rfl ?_
      exact j_iret rfl rfl hF
noncomputable def f_Model_rowsIn_B10 (p1 : Int32) (k4 : ZS → Option (Int32 × ZS)) (a7 : Int32) (s8 : ZS) (g9 : Int32 → ZS → Option (Int32 × ZS)) : Option (Int32 × ZS) := (if p1 ≤ a7 then k4 s8 else zcl (f_Model_passes s8) (fun (v11 : Int32) (s10 : ZS) => g9 (a7 + (1 : Int32)) s10))
noncomputable def f_Model_rowsIn (p1 : Int32) (s0 : ZS) : Option (Int32 × ZS) := zgi (s0.1 226 11) (fun (v2 : Int32) => zj0 (fun (s3 : ZS) => zgi (s3.1 226 11) (fun (v5 : Int32) => zcv (f_Model_laysBack s3) (fun (s6 : ZS) => some ((v5 - v2), s6)))) (fun (k4 : ZS → Option (Int32 × ZS)) => zlp zN (f_Model_rowsIn_B10 p1 k4) (0 : Int32) s0))
set_option maxHeartbeats 4000000 in
set_option maxRecDepth 100000 in
theorem ok_Model_rowsIn {L : Nat} {xs : Nat → Int32} {b : ZH} {p1 : Int32} {s0 : ZS} {w : Int32 × ZS} (hF : f_Model_rowsIn p1 s0 = some w) : zz_ct zt_ms zt_nm zt_df (zt_X L xs) 6 zt_m226 [.ref 216, .int p1] (zk b s0) (qI b w) := by
  unfold f_Model_rowsIn at hF
  change zz_wp zt_ms zt_nm zt_df (zt_X L xs) 6 zt_m226 0 [(0, .ref 216), (1, .int p1)] [] (zk b s0) (qI b w)
  refine w_aload_n (pc2 := 1) rfl rfl rfl ?_
  refine w_getfield (pc2 := 4) rfl zk_cModel rfl rfl rfl ?_
  refine w_bipush (pc2 := 6) rfl rfl ?_
  refine j_ialoadC (pc2 := 7) (n := 139) (j := 11) rfl rfl (by omega) (by decide) (by decide) (by decide) (by decide) rfl hF (fun v2 hF => ?_)
  refine w_istore_n (pc2 := 8) (ls2 := [(2, .int v2), (0, .ref 216), (1, .int p1)]) rfl rfl rfl ?_
  refine w_iconst (pc2 := 9) rfl rfl ?_
  refine w_istore_n (pc2 := 10) (ls2 := [(3, .int (0 : Int32)), (2, .int v2), (0, .ref 216), (1, .int p1)]) rfl rfl rfl ?_
  refine j_join0 (P := fun (s3 : ZS) => zz_wp zt_ms zt_nm zt_df (zt_X L xs) 6 zt_m226 26 [(0, .ref 216), (2, .int v2)] [] (zk b s3) (qI b w)) hF (fun s3 hF => ?_) (fun k4 hk4 hF => ?_)
  · refine w_aload_n (pc2 := 27) rfl rfl rfl ?_
    refine w_getfield (pc2 := 30) rfl zk_cModel rfl rfl rfl ?_
    refine w_bipush (pc2 := 32) rfl rfl ?_
    refine j_ialoadC (pc2 := 33) (n := 139) (j := 11) rfl rfl (by omega) (by decide) (by decide) (by decide) (by decide) rfl hF (fun v5 hF => ?_)
    refine w_iload_n (pc2 := 34) rfl rfl rfl ?_
    refine w_isub (pc2 := 35) rfl rfl ?_
    refine w_istore_n (pc2 := 36) (ls2 := [(3, .int (v5 - v2)), (0, .ref 216), (2, .int v2)]) rfl rfl rfl ?_
    refine w_aload_n (pc2 := 37) rfl rfl rfl ?_
    refine j_cVv (pc2 := 40) (k := 0) (c := zt_m219) (as := [.ref 216]) (rest := []) rfl rfl rfl rfl zk_cModel.look rfl (Nat.le_of_ble_eq_true rfl) (Nat.le_of_ble_eq_true rfl) (fun w1 h1 => ok_Model_laysBack h1) (by decide) rfl hF (fun s6 hF => ?_)
    refine w_iload_n (pc2 := 41) rfl rfl rfl ?_
    exact j_iret rfl rfl hF
  · refine j_norm (l := [(0, .ref 216), (1, .int p1), (2, .int v2), (3, .int (0 : Int32))]) ⟨rfl, rfl, rfl, rfl, trivial⟩ (zz_nd_of (ks := [0, 1, 2, 3]) rfl (by decide)) ?_
    refine j_loop (P := fun (a7 : Int32) (s8 : ZS) => zz_wp zt_ms zt_nm zt_df (zt_X L xs) 6 zt_m226 10 [(0, .ref 216), (1, .int p1), (2, .int v2), (3, .int a7)] [] (zk b s8) (qI b w)) hF (fun a7 s8 g9 hg9 hF => ?_)
    unfold f_Model_rowsIn_B10 at hF
    refine w_iload_n (pc2 := 11) rfl rfl rfl ?_
    refine w_iload_n (pc2 := 12) rfl rfl rfl ?_
    refine j_icmp_ge (pc2 := 15) rfl rfl hF (fun hF => ?_) (fun hF => ?_)
    · exact j_norm (l := [(0, .ref 216), (2, .int v2)]) ⟨rfl, rfl, trivial⟩ (zz_nd_of (ks := [0, 2]) rfl (by decide)) (hk4 s8 hF)
    · refine w_aload_n (pc2 := 16) rfl rfl rfl ?_
      refine j_cIv (pc2 := 19) (k := 5) (c := zt_m196) (as := [.ref 216]) (rest := []) rfl rfl rfl rfl zk_cModel.look rfl (Nat.le_of_ble_eq_true rfl) (Nat.le_of_ble_eq_true rfl) (fun w1 h1 => ok_Model_passes h1) (by decide) rfl hF (fun v11 s10 hF => ?_)
      refine w_pop (pc2 := 20) rfl rfl rfl ?_
      refine w_iinc (pc2 := 23) (ls2 := [(3, .int ((a7 + (1 : Int32)))), (0, .ref 216), (1, .int p1), (2, .int v2)]) rfl rfl rfl rfl ?_
      refine w_goto rfl ?_
      exact j_norm (l := [(0, .ref 216), (1, .int p1), (2, .int v2), (3, .int ((a7 + (1 : Int32))))]) ⟨rfl, rfl, rfl, rfl, trivial⟩ (zz_nd_of (ks := [0, 1, 2, 3]) rfl (by decide)) (hg9 (a7 + (1 : Int32)) s10 hF)
noncomputable def f_Model_strike_B40 (p1 : Int32) (k12 : Int32 → ZS → Option (Int32 × ZS)) (a16 : Int32 × Int32) (s17 : ZS) (g18 : (Int32 × Int32) → ZS → Option (Int32 × ZS)) : Option (Int32 × ZS) := zgi (s17.1 226 4) (fun (v19 : Int32) => (if ((1 : Int32) <<< (v19 &&& (31 : Int32))) ≤ a16.2 then k12 a16.1 s17 else zjn (A := Int32) (fun (a21 : Int32) (s20 : ZS) => g18 (a21, (a16.2 + (1 : Int32))) s20) (fun (k22 : Int32 → ZS → Option (Int32 × ZS)) => zj0 (fun (s23 : ZS) => zwi s23 216 23 a16.2 (fun (s25 : ZS) => zcl (f_Model_rowsIn p1 s25) (fun (v27 : Int32) (s26 : ZS) => (if ¬ v27 = 0 then k22 a16.1 s26 else k22 a16.2 s26)))) (fun (k24 : ZS → Option (Int32 × ZS)) => (if a16.1 < 0 then k24 s17 else zcl (f_Model_bits a16.2 s17) (fun (v29 : Int32) (s28 : ZS) => zcl (f_Model_bits a16.1 s28) (fun (v31 : Int32) (s30 : ZS) => (if v29 < v31 then k24 s30 else k22 a16.1 s30))))))))
noncomputable def f_Model_strike (p1 : Int32) (p2 : Int32) (s0 : ZS) : Option (Int32 × ZS) := zcl (f_Model_isSmithy s0) (fun (v4 : Int32) (s3 : ZS) => (if v4 = 0 then some ((-1 : Int32), s3) else zcl (f_Model_in (p1.toInt64) (1 : Int64) (30 : Int64) s3) (fun (v6 : Int32) (s5 : ZS) => (if v6 = 0 then some ((-1 : Int32), s5) else zcl (f_Model_in (p2.toInt64) (0 : Int64) (1 : Int64) s5) (fun (v8 : Int32) (s7 : ZS) => (if ¬ v8 = 0 then zcv (f_Model_keeps s7) (fun (s9 : ZS) => zjn (A := Int32) (fun (a11 : Int32) (s10 : ZS) => zwi s10 216 23 (0 : Int32) (fun (s13 : ZS) => (if ¬ p2 = 0 then some (a11, s13) else zcl (f_Model_bits a11 s13) (fun (v15 : Int32) (s14 : ZS) => some (v15, s14))))) (fun (k12 : Int32 → ZS → Option (Int32 × ZS)) => zlp zN (f_Model_strike_B40 p1 k12) ((-1 : Int32), (0 : Int32)) s9)) else some ((-1 : Int32), s7)))))))
set_option maxHeartbeats 4000000 in
set_option maxRecDepth 100000 in
theorem ok_Model_strike {L : Nat} {xs : Nat → Int32} {b : ZH} {p1 : Int32} {p2 : Int32} {s0 : ZS} {w : Int32 × ZS} (hF : f_Model_strike p1 p2 s0 = some w) : zz_ct zt_ms zt_nm zt_df (zt_X L xs) 7 zt_m225 [.ref 216, .int p1, .int p2] (zk b s0) (qI b w) := by
  unfold f_Model_strike at hF
  change zz_wp zt_ms zt_nm zt_df (zt_X L xs) 7 zt_m225 0 [(0, .ref 216), (1, .int p1), (2, .int p2)] [] (zk b s0) (qI b w)
  refine w_aload_n (pc2 := 1) rfl rfl rfl ?_
  refine j_cIv (pc2 := 4) (k := 0) (c := zt_m194) (as := [.ref 216]) (rest := []) rfl rfl rfl rfl zk_cModel.look rfl (Nat.le_of_ble_eq_true rfl) (Nat.le_of_ble_eq_true rfl) (fun w1 h1 => ok_Model_isSmithy h1) (by decide) rfl hF (fun v4 s3 hF => ?_)
  refine j_if_eq (pc2 := 7) rfl rfl hF (fun hF => ?_) (fun hF => ?_)
  · refine w_iconst (pc2 := 30) rfl rfl ?_
    exact j_iret rfl rfl hF
  · refine w_iload_n (pc2 := 8) rfl rfl rfl ?_
    refine w_i2l (pc2 := 9) rfl rfl ?_
    refine w_lconst (pc2 := 10) rfl rfl ?_
    refine w_ldc2_w (pc2 := 13) rfl rfl ?_
    refine j_cIs (pc2 := 16) (k := 0) (c := zt_m160) (as := [.long (p1.toInt64), .long (1 : Int64), .long (30 : Int64)]) (rest := []) rfl rfl rfl (Nat.le_of_ble_eq_true rfl) rfl rfl (Nat.le_of_ble_eq_true rfl) (Nat.le_of_ble_eq_true rfl) (fun w1 h1 => ok_Model_in h1) (by decide) rfl hF (fun v6 s5 hF => ?_)
    refine j_if_eq (pc2 := 19) rfl rfl hF (fun hF => ?_) (fun hF => ?_)
    · refine w_iconst (pc2 := 30) rfl rfl ?_
      exact j_iret rfl rfl hF
    · refine w_iload_n (pc2 := 20) rfl rfl rfl ?_
      refine w_i2l (pc2 := 21) rfl rfl ?_
      refine w_lconst (pc2 := 22) rfl rfl ?_
      refine w_lconst (pc2 := 23) rfl rfl ?_
      refine j_cIs (pc2 := 26) (k := 0) (c := zt_m160) (as := [.long (p2.toInt64), .long (0 : Int64), .long (1 : Int64)]) (rest := []) rfl rfl rfl (Nat.le_of_ble_eq_true rfl) rfl rfl (Nat.le_of_ble_eq_true rfl) (Nat.le_of_ble_eq_true rfl) (fun w1 h1 => ok_Model_in h1) (by decide) rfl hF (fun v8 s7 hF => ?_)
      refine j_if_ne (pc2 := 29) rfl rfl hF (fun hF => ?_) (fun hF => ?_)
      · refine w_iconst (pc2 := 32) rfl rfl ?_
        refine w_istore_n (pc2 := 33) (ls2 := [(3, .int (-1 : Int32)), (0, .ref 216), (1, .int p1), (2, .int p2)]) rfl rfl rfl ?_
        refine w_aload_n (pc2 := 34) rfl rfl rfl ?_
        refine j_cVv (pc2 := 37) (k := 0) (c := zt_m218) (as := [.ref 216]) (rest := []) rfl rfl rfl rfl zk_cModel.look rfl (Nat.le_of_ble_eq_true rfl) (Nat.le_of_ble_eq_true rfl) (fun w1 h1 => ok_Model_keeps h1) (by decide) rfl hF (fun s9 hF => ?_)
        refine w_iconst (pc2 := 38) rfl rfl ?_
        refine w_istore (pc2 := 40) (ls2 := [(4, .int (0 : Int32)), (3, .int (-1 : Int32)), (0, .ref 216), (1, .int p1), (2, .int p2)]) rfl rfl rfl ?_
        refine j_join (P := fun (a11 : Int32) (s10 : ZS) => zz_wp zt_ms zt_nm zt_df (zt_X L xs) 7 zt_m225 95 [(0, .ref 216), (2, .int p2), (3, .int a11)] [] (zk b s10) (qI b w)) hF (fun a11 s10 hF => ?_) (fun k12 hk12 hF => ?_)
        · refine w_aload_n (pc2 := 96) rfl rfl rfl ?_
          refine w_iconst (pc2 := 97) rfl rfl ?_
          refine j_puti (pc2 := 100) (j := 23) rfl zk_cModel rfl (Nat.le_of_ble_eq_true rfl) rfl zk_wModel_23 (by decide) rfl hF (fun s13 hF => ?_)
          refine w_iload_n (pc2 := 101) rfl rfl rfl ?_
          refine j_if_ne (pc2 := 104) rfl rfl hF (fun hF => ?_) (fun hF => ?_)
          · refine w_iload_n (pc2 := 112) rfl rfl rfl ?_
            exact j_iret rfl rfl hF
          · refine w_iload_n (pc2 := 105) rfl rfl rfl ?_
            refine j_cIs (pc2 := 108) (k := 0) (c := zt_m202) (as := [.int a11]) (rest := []) rfl rfl rfl (Nat.le_of_ble_eq_true rfl) rfl rfl (Nat.le_of_ble_eq_true rfl) (Nat.le_of_ble_eq_true rfl) (fun w1 h1 => ok_Model_bits h1) (by decide) rfl hF (fun v15 s14 hF => ?_)
            refine w_goto rfl ?_
            exact j_iret rfl rfl hF
        · refine j_norm (l := [(0, .ref 216), (1, .int p1), (2, .int p2), (3, .int (-1 : Int32)), (4, .int (0 : Int32))]) ⟨rfl, rfl, rfl, rfl, rfl, trivial⟩ (zz_nd_of (ks := [0, 1, 2, 3, 4]) rfl (by decide)) ?_
          refine j_loop (P := fun (a16 : Int32 × Int32) (s17 : ZS) => zz_wp zt_ms zt_nm zt_df (zt_X L xs) 7 zt_m225 40 [(0, .ref 216), (1, .int p1), (2, .int p2), (3, .int a16.1), (4, .int a16.2)] [] (zk b s17) (qI b w)) hF (fun a16 s17 g18 hg18 hF => ?_)
          unfold f_Model_strike_B40 at hF
          refine w_iload (pc2 := 42) rfl rfl rfl ?_
          refine w_iconst (pc2 := 43) rfl rfl ?_
          refine w_aload_n (pc2 := 44) rfl rfl rfl ?_
          refine w_getfield (pc2 := 47) rfl zk_cModel rfl rfl rfl ?_
          refine w_iconst (pc2 := 48) rfl rfl ?_
          refine j_ialoadC (pc2 := 49) (n := 139) (j := 4) rfl rfl (by omega) (by decide) (by decide) (by decide) (by decide) rfl hF (fun v19 hF => ?_)
          refine w_ishl (pc2 := 50) rfl rfl ?_
          refine j_icmp_ge (pc2 := 53) rfl rfl hF (fun hF => ?_) (fun hF => ?_)
          · exact j_norm (l := [(0, .ref 216), (2, .int p2), (3, .int a16.1)]) ⟨rfl, rfl, rfl, trivial⟩ (zz_nd_of (ks := [0, 2, 3]) rfl (by decide)) (hk12 a16.1 s17 hF)
          · refine w_iload_n (pc2 := 54) rfl rfl rfl ?_
            refine j_join (P := fun (a21 : Int32) (s20 : ZS) => zz_wp zt_ms zt_nm zt_df (zt_X L xs) 7 zt_m225 89 [(0, .ref 216), (1, .int p1), (2, .int p2), (3, .int a21), (4, .int a16.2)] [] (zk b s20) (qI b w)) hF (fun a21 s20 hF => ?_) (fun k22 hk22 hF => ?_)
            · refine w_iinc (pc2 := 92) (ls2 := [(4, .int ((a16.2 + (1 : Int32)))), (0, .ref 216), (1, .int p1), (2, .int p2), (3, .int a21)]) rfl rfl rfl rfl ?_
              refine w_goto rfl ?_
              exact j_norm (l := [(0, .ref 216), (1, .int p1), (2, .int p2), (3, .int a21), (4, .int ((a16.2 + (1 : Int32))))]) ⟨rfl, rfl, rfl, rfl, rfl, trivial⟩ (zz_nd_of (ks := [0, 1, 2, 3, 4]) rfl (by decide)) (hg18 (a21, (a16.2 + (1 : Int32))) s20 hF)
            · refine j_join0 (P := fun (s23 : ZS) => zz_wp zt_ms zt_nm zt_df (zt_X L xs) 7 zt_m225 72 [(0, .ref 216), (1, .int p1), (2, .int p2), (3, .int a16.1), (4, .int a16.2)] [] (zk b s23) (qI b w)) hF (fun s23 hF => ?_) (fun k24 hk24 hF => ?_)
              · refine w_aload_n (pc2 := 73) rfl rfl rfl ?_
                refine w_iload (pc2 := 75) rfl rfl rfl ?_
                refine j_puti (pc2 := 78) (j := 23) rfl zk_cModel rfl (Nat.le_of_ble_eq_true rfl) rfl zk_wModel_23 (by decide) rfl hF (fun s25 hF => ?_)
                refine w_aload_n (pc2 := 79) rfl rfl rfl ?_
                refine w_iload_n (pc2 := 80) rfl rfl rfl ?_
                refine j_cIv (pc2 := 83) (k := 6) (c := zt_m226) (as := [.ref 216, .int p1]) (rest := []) rfl rfl rfl rfl zk_cModel.look rfl (Nat.le_of_ble_eq_true rfl) (Nat.le_of_ble_eq_true rfl) (fun w1 h1 => ok_Model_rowsIn h1) (by decide) rfl hF (fun v27 s26 hF => ?_)
                refine j_if_ne (pc2 := 86) rfl rfl hF (fun hF => ?_) (fun hF => ?_)
                · exact j_norm (l := [(0, .ref 216), (1, .int p1), (2, .int p2), (3, .int a16.1), (4, .int a16.2)]) ⟨rfl, rfl, rfl, rfl, rfl, trivial⟩ (zz_nd_of (ks := [0, 1, 2, 3, 4]) rfl (by decide)) (hk22 a16.1 s26 hF)
                · refine w_iload (pc2 := 88) rfl rfl rfl ?_
                  refine w_istore_n (pc2 := 89) (ls2 := [(3, .int a16.2), (0, .ref 216), (1, .int p1), (2, .int p2), (4, .int a16.2)]) rfl rfl rfl ?_
                  exact j_norm (l := [(0, .ref 216), (1, .int p1), (2, .int p2), (3, .int a16.2), (4, .int a16.2)]) ⟨rfl, rfl, rfl, rfl, rfl, trivial⟩ (zz_nd_of (ks := [0, 1, 2, 3, 4]) rfl (by decide)) (hk22 a16.2 s26 hF)
              · refine j_if_lt (pc2 := 57) rfl rfl hF (fun hF => ?_) (fun hF => ?_)
                · exact j_norm (l := [(0, .ref 216), (1, .int p1), (2, .int p2), (3, .int a16.1), (4, .int a16.2)]) ⟨rfl, rfl, rfl, rfl, rfl, trivial⟩ (zz_nd_of (ks := [0, 1, 2, 3, 4]) rfl (by decide)) (hk24 s17 hF)
                · refine w_iload (pc2 := 59) rfl rfl rfl ?_
                  refine j_cIs (pc2 := 62) (k := 0) (c := zt_m202) (as := [.int a16.2]) (rest := []) rfl rfl rfl (Nat.le_of_ble_eq_true rfl) rfl rfl (Nat.le_of_ble_eq_true rfl) (Nat.le_of_ble_eq_true rfl) (fun w1 h1 => ok_Model_bits h1) (by decide) rfl hF (fun v29 s28 hF => ?_)
                  refine w_iload_n (pc2 := 63) rfl rfl rfl ?_
                  refine j_cIs (pc2 := 66) (k := 0) (c := zt_m202) (as := [.int a16.1]) (rest := [.int v29]) rfl rfl rfl (Nat.le_of_ble_eq_true rfl) rfl rfl (Nat.le_of_ble_eq_true rfl) (Nat.le_of_ble_eq_true rfl) (fun w1 h1 => ok_Model_bits h1) (by decide) rfl hF (fun v31 s30 hF => ?_)
                  refine j_icmp_lt (pc2 := 69) rfl rfl hF (fun hF => ?_) (fun hF => ?_)
                  · exact j_norm (l := [(0, .ref 216), (1, .int p1), (2, .int p2), (3, .int a16.1), (4, .int a16.2)]) ⟨rfl, rfl, rfl, rfl, rfl, trivial⟩ (zz_nd_of (ks := [0, 1, 2, 3, 4]) rfl (by decide)) (hk24 s30 hF)
                  · refine w_goto rfl ?_
                    exact j_norm (l := [(0, .ref 216), (1, .int p1), (2, .int p2), (3, .int a16.1), (4, .int a16.2)]) ⟨rfl, rfl, rfl, rfl, rfl, trivial⟩ (zz_nd_of (ks := [0, 1, 2, 3, 4]) rfl (by decide)) (hk22 a16.1 s30 hF)
      · refine w_iconst (pc2 := 30) rfl rfl ?_
        exact j_iret rfl rfl hF
noncomputable def f_Model_home_B48 (p1 : Int32) (k14 : (Int32 × Int32) → ZS → Option (Int32 × ZS)) (a16 : Int32 × Int32 × Int32) (s17 : ZS) (g18 : (Int32 × Int32 × Int32) → ZS → Option (Int32 × ZS)) : Option (Int32 × ZS) := zgi (s17.1 226 3) (fun (v19 : Int32) => (if v19 ≤ a16.2.2 then k14 (a16.1, a16.2.1) s17 else zwi s17 216 24 a16.2.2 (fun (s20 : ZS) => zcl (f_Model_rowsIn p1 s20) (fun (v22 : Int32) (s21 : ZS) => zjn (A := Int32 × Int32) (fun (a24 : Int32 × Int32) (s23 : ZS) => g18 (a24.1, a24.2, (a16.2.2 + (1 : Int32))) s23) (fun (k25 : (Int32 × Int32) → ZS → Option (Int32 × ZS)) => (if a16.2.1 < v22 then k25 (a16.2.2, v22) s21 else k25 (a16.1, a16.2.1) s21))))))
noncomputable def f_Model_home (p1 : Int32) (p2 : Int32) (s0 : ZS) : Option (Int32 × ZS) := zcl (f_Model_isSmithy s0) (fun (v4 : Int32) (s3 : ZS) => (if v4 = 0 then some ((-2 : Int32), s3) else zcl (f_Model_in (p1.toInt64) (1 : Int64) (30 : Int64) s3) (fun (v6 : Int32) (s5 : ZS) => (if v6 = 0 then some ((-2 : Int32), s5) else zcl (f_Model_in (p2.toInt64) (0 : Int64) (1 : Int64) s5) (fun (v8 : Int32) (s7 : ZS) => (if ¬ v8 = 0 then zcv (f_Model_keeps s7) (fun (s9 : ZS) => zcl (f_Model_rowsIn p1 s9) (fun (v11 : Int32) (s10 : ZS) => zjn (A := Int32 × Int32) (fun (a13 : Int32 × Int32) (s12 : ZS) => zwi s12 216 24 (-1 : Int32) (fun (s15 : ZS) => (if ¬ p2 = 0 then some (a13.2, s15) else some (a13.1, s15)))) (fun (k14 : (Int32 × Int32) → ZS → Option (Int32 × ZS)) => zlp zN (f_Model_home_B48 p1 k14) ((-1 : Int32), v11, (0 : Int32)) s10))) else some ((-2 : Int32), s7)))))))
set_option maxHeartbeats 4000000 in
set_option maxRecDepth 100000 in
theorem ok_Model_home {L : Nat} {xs : Nat → Int32} {b : ZH} {p1 : Int32} {p2 : Int32} {s0 : ZS} {w : Int32 × ZS} (hF : f_Model_home p1 p2 s0 = some w) : zz_ct zt_ms zt_nm zt_df (zt_X L xs) 7 zt_m227 [.ref 216, .int p1, .int p2] (zk b s0) (qI b w) := by
  unfold f_Model_home at hF
  change zz_wp zt_ms zt_nm zt_df (zt_X L xs) 7 zt_m227 0 [(0, .ref 216), (1, .int p1), (2, .int p2)] [] (zk b s0) (qI b w)
  refine w_aload_n (pc2 := 1) rfl rfl rfl ?_
  refine j_cIv (pc2 := 4) (k := 0) (c := zt_m194) (as := [.ref 216]) (rest := []) rfl rfl rfl rfl zk_cModel.look rfl (Nat.le_of_ble_eq_true rfl) (Nat.le_of_ble_eq_true rfl) (fun w1 h1 => ok_Model_isSmithy h1) (by decide) rfl hF (fun v4 s3 hF => ?_)
  refine j_if_eq (pc2 := 7) rfl rfl hF (fun hF => ?_) (fun hF => ?_)
  · refine w_bipush (pc2 := 31) rfl rfl ?_
    exact j_iret rfl rfl hF
  · refine w_iload_n (pc2 := 8) rfl rfl rfl ?_
    refine w_i2l (pc2 := 9) rfl rfl ?_
    refine w_lconst (pc2 := 10) rfl rfl ?_
    refine w_ldc2_w (pc2 := 13) rfl rfl ?_
    refine j_cIs (pc2 := 16) (k := 0) (c := zt_m160) (as := [.long (p1.toInt64), .long (1 : Int64), .long (30 : Int64)]) (rest := []) rfl rfl rfl (Nat.le_of_ble_eq_true rfl) rfl rfl (Nat.le_of_ble_eq_true rfl) (Nat.le_of_ble_eq_true rfl) (fun w1 h1 => ok_Model_in h1) (by decide) rfl hF (fun v6 s5 hF => ?_)
    refine j_if_eq (pc2 := 19) rfl rfl hF (fun hF => ?_) (fun hF => ?_)
    · refine w_bipush (pc2 := 31) rfl rfl ?_
      exact j_iret rfl rfl hF
    · refine w_iload_n (pc2 := 20) rfl rfl rfl ?_
      refine w_i2l (pc2 := 21) rfl rfl ?_
      refine w_lconst (pc2 := 22) rfl rfl ?_
      refine w_lconst (pc2 := 23) rfl rfl ?_
      refine j_cIs (pc2 := 26) (k := 0) (c := zt_m160) (as := [.long (p2.toInt64), .long (0 : Int64), .long (1 : Int64)]) (rest := []) rfl rfl rfl (Nat.le_of_ble_eq_true rfl) rfl rfl (Nat.le_of_ble_eq_true rfl) (Nat.le_of_ble_eq_true rfl) (fun w1 h1 => ok_Model_in h1) (by decide) rfl hF (fun v8 s7 hF => ?_)
      refine j_if_ne (pc2 := 29) rfl rfl hF (fun hF => ?_) (fun hF => ?_)
      · refine w_iconst (pc2 := 33) rfl rfl ?_
        refine w_istore_n (pc2 := 34) (ls2 := [(3, .int (-1 : Int32)), (0, .ref 216), (1, .int p1), (2, .int p2)]) rfl rfl rfl ?_
        refine w_aload_n (pc2 := 35) rfl rfl rfl ?_
        refine j_cVv (pc2 := 38) (k := 0) (c := zt_m218) (as := [.ref 216]) (rest := []) rfl rfl rfl rfl zk_cModel.look rfl (Nat.le_of_ble_eq_true rfl) (Nat.le_of_ble_eq_true rfl) (fun w1 h1 => ok_Model_keeps h1) (by decide) rfl hF (fun s9 hF => ?_)
        refine w_aload_n (pc2 := 39) rfl rfl rfl ?_
        refine w_iload_n (pc2 := 40) rfl rfl rfl ?_
        refine j_cIv (pc2 := 43) (k := 6) (c := zt_m226) (as := [.ref 216, .int p1]) (rest := []) rfl rfl rfl rfl zk_cModel.look rfl (Nat.le_of_ble_eq_true rfl) (Nat.le_of_ble_eq_true rfl) (fun w1 h1 => ok_Model_rowsIn h1) (by decide) rfl hF (fun v11 s10 hF => ?_)
        refine w_istore (pc2 := 45) (ls2 := [(4, .int v11), (3, .int (-1 : Int32)), (0, .ref 216), (1, .int p1), (2, .int p2)]) rfl rfl rfl ?_
        refine w_iconst (pc2 := 46) rfl rfl ?_
        refine w_istore (pc2 := 48) (ls2 := [(5, .int (0 : Int32)), (4, .int v11), (3, .int (-1 : Int32)), (0, .ref 216), (1, .int p1), (2, .int p2)]) rfl rfl rfl ?_
        refine j_join (P := fun (a13 : Int32 × Int32) (s12 : ZS) => zz_wp zt_ms zt_nm zt_df (zt_X L xs) 7 zt_m227 95 [(0, .ref 216), (2, .int p2), (3, .int a13.1), (4, .int a13.2)] [] (zk b s12) (qI b w)) hF (fun a13 s12 hF => ?_) (fun k14 hk14 hF => ?_)
        · refine w_aload_n (pc2 := 96) rfl rfl rfl ?_
          refine w_iconst (pc2 := 97) rfl rfl ?_
          refine j_puti (pc2 := 100) (j := 24) rfl zk_cModel rfl (Nat.le_of_ble_eq_true rfl) rfl zk_wModel_24 (by decide) rfl hF (fun s15 hF => ?_)
          refine w_iload_n (pc2 := 101) rfl rfl rfl ?_
          refine j_if_ne (pc2 := 104) rfl rfl hF (fun hF => ?_) (fun hF => ?_)
          · refine w_iload (pc2 := 110) rfl rfl rfl ?_
            exact j_iret rfl rfl hF
          · refine w_iload_n (pc2 := 105) rfl rfl rfl ?_
            refine w_goto rfl ?_
            exact j_iret rfl rfl hF
        · refine j_norm (l := [(0, .ref 216), (1, .int p1), (2, .int p2), (3, .int (-1 : Int32)), (4, .int v11), (5, .int (0 : Int32))]) ⟨rfl, rfl, rfl, rfl, rfl, rfl, trivial⟩ (zz_nd_of (ks := [0, 1, 2, 3, 4, 5]) rfl (by decide)) ?_
          refine j_loop (P := fun (a16 : Int32 × Int32 × Int32) (s17 : ZS) => zz_wp zt_ms zt_nm zt_df (zt_X L xs) 7 zt_m227 48 [(0, .ref 216), (1, .int p1), (2, .int p2), (3, .int a16.1), (4, .int a16.2.1), (5, .int a16.2.2)] [] (zk b s17) (qI b w)) hF (fun a16 s17 g18 hg18 hF => ?_)
          unfold f_Model_home_B48 at hF
          refine w_iload (pc2 := 50) rfl rfl rfl ?_
          refine w_aload_n (pc2 := 51) rfl rfl rfl ?_
          refine w_getfield (pc2 := 54) rfl zk_cModel rfl rfl rfl ?_
          refine w_iconst (pc2 := 55) rfl rfl ?_
          refine j_ialoadC (pc2 := 56) (n := 139) (j := 3) rfl rfl (by omega) (by decide) (by decide) (by decide) (by decide) rfl hF (fun v19 hF => ?_)
          refine j_icmp_ge (pc2 := 59) rfl rfl hF (fun hF => ?_) (fun hF => ?_)
          · exact j_norm (l := [(0, .ref 216), (2, .int p2), (3, .int a16.1), (4, .int a16.2.1)]) ⟨rfl, rfl, rfl, rfl, trivial⟩ (zz_nd_of (ks := [0, 2, 3, 4]) rfl (by decide)) (hk14 (a16.1, a16.2.1) s17 hF)
          · refine w_aload_n (pc2 := 60) rfl rfl rfl ?_
            refine w_iload (pc2 := 62) rfl rfl rfl ?_
            refine j_puti (pc2 := 65) (j := 24) rfl zk_cModel rfl (Nat.le_of_ble_eq_true rfl) rfl zk_wModel_24 (by decide) rfl hF (fun s20 hF => ?_)
            refine w_aload_n (pc2 := 66) rfl rfl rfl ?_
            refine w_iload_n (pc2 := 67) rfl rfl rfl ?_
            refine j_cIv (pc2 := 70) (k := 6) (c := zt_m226) (as := [.ref 216, .int p1]) (rest := []) rfl rfl rfl rfl zk_cModel.look rfl (Nat.le_of_ble_eq_true rfl) (Nat.le_of_ble_eq_true rfl) (fun w1 h1 => ok_Model_rowsIn h1) (by decide) rfl hF (fun v22 s21 hF => ?_)
            refine w_istore (pc2 := 72) (ls2 := [(6, .int v22), (0, .ref 216), (1, .int p1), (2, .int p2), (3, .int a16.1), (4, .int a16.2.1), (5, .int a16.2.2)]) rfl rfl rfl ?_
            refine w_iload (pc2 := 74) rfl rfl rfl ?_
            refine w_iload (pc2 := 76) rfl rfl rfl ?_
            refine j_join (P := fun (a24 : Int32 × Int32) (s23 : ZS) => zz_wp zt_ms zt_nm zt_df (zt_X L xs) 7 zt_m227 89 [(0, .ref 216), (1, .int p1), (2, .int p2), (3, .int a24.1), (4, .int a24.2), (5, .int a16.2.2)] [] (zk b s23) (qI b w)) hF (fun a24 s23 hF => ?_) (fun k25 hk25 hF => ?_)
            · refine w_iinc (pc2 := 92) (ls2 := [(5, .int ((a16.2.2 + (1 : Int32)))), (0, .ref 216), (1, .int p1), (2, .int p2), (3, .int a24.1), (4, .int a24.2)]) rfl rfl rfl rfl ?_
              refine w_goto rfl ?_
              exact j_norm (l := [(0, .ref 216), (1, .int p1), (2, .int p2), (3, .int a24.1), (4, .int a24.2), (5, .int ((a16.2.2 + (1 : Int32))))]) ⟨rfl, rfl, rfl, rfl, rfl, rfl, trivial⟩ (zz_nd_of (ks := [0, 1, 2, 3, 4, 5]) rfl (by decide)) (hg18 (a24.1, a24.2, (a16.2.2 + (1 : Int32))) s23 hF)
            · refine j_icmp_gt (pc2 := 79) rfl rfl hF (fun hF => ?_) (fun hF => ?_)
              · refine w_iload (pc2 := 84) rfl rfl rfl ?_
                refine w_istore_n (pc2 := 85) (ls2 := [(3, .int a16.2.2), (6, .int v22), (0, .ref 216), (1, .int p1), (2, .int p2), (4, .int a16.2.1), (5, .int a16.2.2)]) rfl rfl rfl ?_
                refine w_iload (pc2 := 87) rfl rfl rfl ?_
                refine w_istore (pc2 := 89) (ls2 := [(4, .int v22), (3, .int a16.2.2), (6, .int v22), (0, .ref 216), (1, .int p1), (2, .int p2), (5, .int a16.2.2)]) rfl rfl rfl ?_
                exact j_norm (l := [(0, .ref 216), (1, .int p1), (2, .int p2), (3, .int a16.2.2), (4, .int v22), (5, .int a16.2.2)]) ⟨rfl, rfl, rfl, rfl, rfl, rfl, trivial⟩ (zz_nd_of (ks := [0, 1, 2, 3, 4, 5]) rfl (by decide)) (hk25 (a16.2.2, v22) s21 hF)
              · refine w_goto rfl ?_
                exact j_norm (l := [(0, .ref 216), (1, .int p1), (2, .int p2), (3, .int a16.1), (4, .int a16.2.1), (5, .int a16.2.2)]) ⟨rfl, rfl, rfl, rfl, rfl, rfl, trivial⟩ (zz_nd_of (ks := [0, 1, 2, 3, 4, 5]) rfl (by decide)) (hk25 (a16.1, a16.2.1) s21 hF)
      · refine w_bipush (pc2 := 31) rfl rfl ?_
        exact j_iret rfl rfl hF
noncomputable def f_Model_canSit_B2 (p1 : Int32) (a2 : Int32) (s3 : ZS) (g4 : Int32 → ZS → Option (Int32 × ZS)) : Option (Int32 × ZS) := (if p1 ≤ a2 then zbl (1 : Int32) s3 else zrd 5 a2 (s3.1 231) (fun (v5 : Int32) => zrd 5 p1 (s3.1 231) (fun (v6 : Int32) => zj0 (fun (s7 : ZS) => g4 (a2 + (1 : Int32)) s7) (fun (k8 : ZS → Option (Int32 × ZS)) => (if ¬ v5 = v6 then k8 s3 else zrd 139 (((103 : Int32) + p1)) (s3.1 226) (fun (v9 : Int32) => zcl (f_Model_isOf v9 a2 s3) (fun (v11 : Int32) (s10 : ZS) => (if v11 = 0 then k8 s10 else zbl (0 : Int32) s10))))))))
noncomputable def f_Model_canSit (p1 : Int32) (s0 : ZS) : Option (Int32 × ZS) := zlp zN (f_Model_canSit_B2 p1) (0 : Int32) s0
set_option maxHeartbeats 4000000 in
set_option maxRecDepth 100000 in
theorem ok_Model_canSit {L : Nat} {xs : Nat → Int32} {b : ZH} {p1 : Int32} {s0 : ZS} {w : Int32 × ZS} (hF : f_Model_canSit p1 s0 = some w) : zz_ct zt_ms zt_nm zt_df (zt_X L xs) 1 zt_m230 [.ref 216, .int p1] (zk b s0) (qI b w) := by
  unfold f_Model_canSit at hF
  change zz_wp zt_ms zt_nm zt_df (zt_X L xs) 1 zt_m230 0 [(0, .ref 216), (1, .int p1)] [] (zk b s0) (qI b w)
  refine w_iconst (pc2 := 1) rfl rfl ?_
  refine w_istore_n (pc2 := 2) (ls2 := [(2, .int (0 : Int32)), (0, .ref 216), (1, .int p1)]) rfl rfl rfl ?_
  refine j_norm (l := [(0, .ref 216), (1, .int p1), (2, .int (0 : Int32))]) ⟨rfl, rfl, rfl, trivial⟩ (zz_nd_of (ks := [0, 1, 2]) rfl (by decide)) ?_
  refine j_loop (P := fun (a2 : Int32) (s3 : ZS) => zz_wp zt_ms zt_nm zt_df (zt_X L xs) 1 zt_m230 2 [(0, .ref 216), (1, .int p1), (2, .int a2)] [] (zk b s3) (qI b w)) hF (fun a2 s3 g4 hg4 hF => ?_)
  unfold f_Model_canSit_B2 at hF
  refine w_iload_n (pc2 := 3) rfl rfl rfl ?_
  refine w_iload_n (pc2 := 4) rfl rfl rfl ?_
  refine j_icmp_ge (pc2 := 7) rfl rfl hF (fun hF => ?_) (fun hF => ?_)
  · refine w_iconst (pc2 := 47) rfl rfl ?_
    exact j_zret rfl rfl hF
  · refine w_aload_n (pc2 := 8) rfl rfl rfl ?_
    refine w_getfield (pc2 := 11) rfl zk_cModel rfl rfl rfl ?_
    refine w_iload_n (pc2 := 12) rfl rfl rfl ?_
    refine j_iaload (pc2 := 13) (n := 5) rfl rfl (by omega) (by decide) rfl hF (fun v5 hF => ?_)
    refine w_aload_n (pc2 := 14) rfl rfl rfl ?_
    refine w_getfield (pc2 := 17) rfl zk_cModel rfl rfl rfl ?_
    refine w_iload_n (pc2 := 18) rfl rfl rfl ?_
    refine j_iaload (pc2 := 19) (n := 5) rfl rfl (by omega) (by decide) rfl hF (fun v6 hF => ?_)
    refine j_join0 (P := fun (s7 : ZS) => zz_wp zt_ms zt_nm zt_df (zt_X L xs) 1 zt_m230 40 [(0, .ref 216), (1, .int p1), (2, .int a2)] [] (zk b s7) (qI b w)) hF (fun s7 hF => ?_) (fun k8 hk8 hF => ?_)
    · refine w_iinc (pc2 := 43) (ls2 := [(2, .int ((a2 + (1 : Int32)))), (0, .ref 216), (1, .int p1)]) rfl rfl rfl rfl ?_
      refine w_goto rfl ?_
      exact j_norm (l := [(0, .ref 216), (1, .int p1), (2, .int ((a2 + (1 : Int32))))]) ⟨rfl, rfl, rfl, trivial⟩ (zz_nd_of (ks := [0, 1, 2]) rfl (by decide)) (hg4 (a2 + (1 : Int32)) s7 hF)
    · refine j_icmp_ne (pc2 := 22) rfl rfl hF (fun hF => ?_) (fun hF => ?_)
      · exact j_norm (l := [(0, .ref 216), (1, .int p1), (2, .int a2)]) ⟨rfl, rfl, rfl, trivial⟩ (zz_nd_of (ks := [0, 1, 2]) rfl (by decide)) (hk8 s3 hF)
      · refine w_aload_n (pc2 := 23) rfl rfl rfl ?_
        refine w_getfield (pc2 := 26) rfl zk_cModel rfl rfl rfl ?_
        refine w_bipush (pc2 := 28) rfl rfl ?_
        refine w_iload_n (pc2 := 29) rfl rfl rfl ?_
        refine w_iadd (pc2 := 30) rfl rfl ?_
        refine j_iaload (pc2 := 31) (n := 139) rfl rfl (by omega) (by decide) rfl hF (fun v9 hF => ?_)
        refine w_iload_n (pc2 := 32) rfl rfl rfl ?_
        refine j_cIs (pc2 := 35) (k := 0) (c := zt_m199) (as := [.int v9, .int a2]) (rest := []) rfl rfl rfl (Nat.le_of_ble_eq_true rfl) rfl rfl (Nat.le_of_ble_eq_true rfl) (Nat.le_of_ble_eq_true rfl) (fun w1 h1 => ok_Model_isOf h1) (by decide) rfl hF (fun v11 s10 hF => ?_)
        refine j_if_eq (pc2 := 38) rfl rfl hF (fun hF => ?_) (fun hF => ?_)
        · exact j_norm (l := [(0, .ref 216), (1, .int p1), (2, .int a2)]) ⟨rfl, rfl, rfl, trivial⟩ (zz_nd_of (ks := [0, 1, 2]) rfl (by decide)) (hk8 s10 hF)
        · refine w_iconst (pc2 := 39) rfl rfl ?_
          exact j_zret rfl rfl hF
noncomputable def f_Model_areEnough_B9 (p1 : Int32) (a3 : Int32) (s4 : ZS) (g5 : Int32 → ZS → Option (Int32 × ZS)) : Option (Int32 × ZS) := (if a3 < 0 then zbl (0 : Int32) s4 else zgi (s4.1 226 3) (fun (v6 : Int32) => (if ¬ a3 = v6 then zrd 5 a3 (s4.1 231) (fun (v7 : Int32) => zwa s4 231 5 a3 ((v7 + (1 : Int32))) (fun (s8 : ZS) => zrd 5 a3 (s8.1 231) (fun (v9 : Int32) => (if v9 < p1 then zcl (f_Model_canSit a3 s8) (fun (v11 : Int32) (s10 : ZS) => (if v11 = 0 then g5 a3 s10 else zgi (s10.1 226 3) (fun (v12 : Int32) => (if v12 ≤ (a3 + (1 : Int32)) then g5 (a3 + (1 : Int32)) s10 else zwa s10 231 5 ((a3 + (1 : Int32))) (-1 : Int32) (fun (s13 : ZS) => g5 (a3 + (1 : Int32)) s13))))) else g5 (a3 + (-1 : Int32)) s8)))) else zbl (1 : Int32) s4)))
noncomputable def f_Model_areEnough (p1 : Int32) (s0 : ZS) : Option (Int32 × ZS) := zwi s0 231 0 (-1 : Int32) (fun (s2 : ZS) => zlp zN (f_Model_areEnough_B9 p1) (0 : Int32) s2)
set_option maxHeartbeats 4000000 in
set_option maxRecDepth 100000 in
theorem ok_Model_areEnough {L : Nat} {xs : Nat → Int32} {b : ZH} {p1 : Int32} {s0 : ZS} {w : Int32 × ZS} (hF : f_Model_areEnough p1 s0 = some w) : zz_ct zt_ms zt_nm zt_df (zt_X L xs) 2 zt_m229 [.ref 216, .int p1] (zk b s0) (qI b w) := by
  unfold f_Model_areEnough at hF
  change zz_wp zt_ms zt_nm zt_df (zt_X L xs) 2 zt_m229 0 [(0, .ref 216), (1, .int p1)] [] (zk b s0) (qI b w)
  refine w_iconst (pc2 := 1) rfl rfl ?_
  refine w_istore_n (pc2 := 2) (ls2 := [(2, .int (0 : Int32)), (0, .ref 216), (1, .int p1)]) rfl rfl rfl ?_
  refine w_aload_n (pc2 := 3) rfl rfl rfl ?_
  refine w_getfield (pc2 := 6) rfl zk_cModel rfl rfl rfl ?_
  refine w_iconst (pc2 := 7) rfl rfl ?_
  refine w_iconst (pc2 := 8) rfl rfl ?_
  refine j_iastoreC (pc2 := 9) (n := 5) (j := 0) rfl rfl (by omega) (by decide) (by decide) (by decide) (by decide) rfl hF (fun s2 hF => ?_)
  refine j_norm (l := [(0, .ref 216), (1, .int p1), (2, .int (0 : Int32))]) ⟨rfl, rfl, rfl, trivial⟩ (zz_nd_of (ks := [0, 1, 2]) rfl (by decide)) ?_
  refine j_loop (P := fun (a3 : Int32) (s4 : ZS) => zz_wp zt_ms zt_nm zt_df (zt_X L xs) 2 zt_m229 9 [(0, .ref 216), (1, .int p1), (2, .int a3)] [] (zk b s4) (qI b w)) hF (fun a3 s4 g5 hg5 hF => ?_)
  unfold f_Model_areEnough_B9 at hF
  refine w_iload_n (pc2 := 10) rfl rfl rfl ?_
  refine j_if_lt (pc2 := 13) rfl rfl hF (fun hF => ?_) (fun hF => ?_)
  · refine w_iconst (pc2 := 83) rfl rfl ?_
    exact j_zret rfl rfl hF
  · refine w_iload_n (pc2 := 14) rfl rfl rfl ?_
    refine w_aload_n (pc2 := 15) rfl rfl rfl ?_
    refine w_getfield (pc2 := 18) rfl zk_cModel rfl rfl rfl ?_
    refine w_iconst (pc2 := 19) rfl rfl ?_
    refine j_ialoadC (pc2 := 20) (n := 139) (j := 3) rfl rfl (by omega) (by decide) (by decide) (by decide) (by decide) rfl hF (fun v6 hF => ?_)
    refine j_icmp_ne (pc2 := 23) rfl rfl hF (fun hF => ?_) (fun hF => ?_)
    · refine w_aload_n (pc2 := 26) rfl rfl rfl ?_
      refine w_getfield (pc2 := 29) rfl zk_cModel rfl rfl rfl ?_
      refine w_iload_n (pc2 := 30) rfl rfl rfl ?_
      refine w_dup2 (pc2 := 31) rfl rfl rfl rfl ?_
      refine j_iaload (pc2 := 32) (n := 5) rfl rfl (by omega) (by decide) rfl hF (fun v7 hF => ?_)
      refine w_iconst (pc2 := 33) rfl rfl ?_
      refine w_iadd (pc2 := 34) rfl rfl ?_
      refine j_iastore (pc2 := 35) (n := 5) rfl rfl (by omega) (by decide) rfl hF (fun s8 hF => ?_)
      refine w_aload_n (pc2 := 36) rfl rfl rfl ?_
      refine w_getfield (pc2 := 39) rfl zk_cModel rfl rfl rfl ?_
      refine w_iload_n (pc2 := 40) rfl rfl rfl ?_
      refine j_iaload (pc2 := 41) (n := 5) rfl rfl (by omega) (by decide) rfl hF (fun v9 hF => ?_)
      refine w_iload_n (pc2 := 42) rfl rfl rfl ?_
      refine j_icmp_lt (pc2 := 45) rfl rfl hF (fun hF => ?_) (fun hF => ?_)
      · refine w_aload_n (pc2 := 52) rfl rfl rfl ?_
        refine w_iload_n (pc2 := 53) rfl rfl rfl ?_
        refine j_cIv (pc2 := 56) (k := 1) (c := zt_m230) (as := [.ref 216, .int a3]) (rest := []) rfl rfl rfl rfl zk_cModel.look rfl (Nat.le_of_ble_eq_true rfl) (Nat.le_of_ble_eq_true rfl) (fun w1 h1 => ok_Model_canSit h1) (by decide) rfl hF (fun v11 s10 hF => ?_)
        refine j_if_eq (pc2 := 59) rfl rfl hF (fun hF => ?_) (fun hF => ?_)
        · exact j_norm (l := [(0, .ref 216), (1, .int p1), (2, .int a3)]) ⟨rfl, rfl, rfl, trivial⟩ (zz_nd_of (ks := [0, 1, 2]) rfl (by decide)) (hg5 a3 s10 hF)
        · refine w_iinc (pc2 := 62) (ls2 := [(2, .int ((a3 + (1 : Int32)))), (0, .ref 216), (1, .int p1)]) rfl rfl rfl rfl ?_
          refine w_iload_n (pc2 := 63) rfl rfl rfl ?_
          refine w_aload_n (pc2 := 64) rfl rfl rfl ?_
          refine w_getfield (pc2 := 67) rfl zk_cModel rfl rfl rfl ?_
          refine w_iconst (pc2 := 68) rfl rfl ?_
          refine j_ialoadC (pc2 := 69) (n := 139) (j := 3) rfl rfl (by omega) (by decide) (by decide) (by decide) (by decide) rfl hF (fun v12 hF => ?_)
          refine j_icmp_ge (pc2 := 72) rfl rfl hF (fun hF => ?_) (fun hF => ?_)
          · exact j_norm (l := [(0, .ref 216), (1, .int p1), (2, .int ((a3 + (1 : Int32))))]) ⟨rfl, rfl, rfl, trivial⟩ (zz_nd_of (ks := [0, 1, 2]) rfl (by decide)) (hg5 (a3 + (1 : Int32)) s10 hF)
          · refine w_aload_n (pc2 := 73) rfl rfl rfl ?_
            refine w_getfield (pc2 := 76) rfl zk_cModel rfl rfl rfl ?_
            refine w_iload_n (pc2 := 77) rfl rfl rfl ?_
            refine w_iconst (pc2 := 78) rfl rfl ?_
            refine j_iastore (pc2 := 79) (n := 5) rfl rfl (by omega) (by decide) rfl hF (fun s13 hF => ?_)
            refine w_goto rfl ?_
            exact j_norm (l := [(0, .ref 216), (1, .int p1), (2, .int ((a3 + (1 : Int32))))]) ⟨rfl, rfl, rfl, trivial⟩ (zz_nd_of (ks := [0, 1, 2]) rfl (by decide)) (hg5 (a3 + (1 : Int32)) s13 hF)
      · refine w_iinc (pc2 := 48) (ls2 := [(2, .int ((a3 + (-1 : Int32)))), (0, .ref 216), (1, .int p1)]) rfl rfl rfl rfl ?_
        refine w_goto rfl ?_
        exact j_norm (l := [(0, .ref 216), (1, .int p1), (2, .int ((a3 + (-1 : Int32))))]) ⟨rfl, rfl, rfl, trivial⟩ (zz_nd_of (ks := [0, 1, 2]) rfl (by decide)) (hg5 (a3 + (-1 : Int32)) s8 hF)
    · refine w_iconst (pc2 := 24) rfl rfl ?_
      exact j_zret rfl rfl hF
noncomputable def f_Model_benches_B26 (k8 : Int32 → ZS → Option (Int32 × ZS)) (a12 : Int32) (s13 : ZS) (g14 : Int32 → ZS → Option (Int32 × ZS)) : Option (Int32 × ZS) := zgi (s13.1 226 3) (fun (v15 : Int32) => (if v15 ≤ 0 then k8 a12 s13 else zcl (f_Model_areEnough a12 s13) (fun (v17 : Int32) (s16 : ZS) => (if ¬ v17 = 0 then k8 a12 s16 else g14 (a12 + (1 : Int32)) s16))))
noncomputable def f_Model_benches (p1 : Int32) (s0 : ZS) : Option (Int32 × ZS) := zcl (f_Model_isSmithy s0) (fun (v3 : Int32) (s2 : ZS) => (if v3 = 0 then some ((-3 : Int32), s2) else zcl (f_Model_in (p1.toInt64) (-1 : Int64) (4 : Int64) s2) (fun (v5 : Int32) (s4 : ZS) => (if ¬ v5 = 0 then zjn (A := Int32) (fun (a7 : Int32) (s6 : ZS) => (if ¬ p1 = (-1 : Int32) then zcl (f_Model_isPair p1 s6) (fun (v10 : Int32) (s9 : ZS) => (if v10 = 0 then some ((-2 : Int32), s9) else zrd 5 p1 (s9.1 231) (fun (v11 : Int32) => some (v11, s9)))) else some (a7, s6))) (fun (k8 : Int32 → ZS → Option (Int32 × ZS)) => zlp zN (f_Model_benches_B26 k8) (0 : Int32) s4) else some ((-3 : Int32), s4)))))
set_option maxHeartbeats 4000000 in
set_option maxRecDepth 100000 in
theorem ok_Model_benches {L : Nat} {xs : Nat → Int32} {b : ZH} {p1 : Int32} {s0 : ZS} {w : Int32 × ZS} (hF : f_Model_benches p1 s0 = some w) : zz_ct zt_ms zt_nm zt_df (zt_X L xs) 3 zt_m228 [.ref 216, .int p1] (zk b s0) (qI b w) := by
  unfold f_Model_benches at hF
  change zz_wp zt_ms zt_nm zt_df (zt_X L xs) 3 zt_m228 0 [(0, .ref 216), (1, .int p1)] [] (zk b s0) (qI b w)
  refine w_aload_n (pc2 := 1) rfl rfl rfl ?_
  refine j_cIv (pc2 := 4) (k := 0) (c := zt_m194) (as := [.ref 216]) (rest := []) rfl rfl rfl rfl zk_cModel.look rfl (Nat.le_of_ble_eq_true rfl) (Nat.le_of_ble_eq_true rfl) (fun w1 h1 => ok_Model_isSmithy h1) (by decide) rfl hF (fun v3 s2 hF => ?_)
  refine j_if_eq (pc2 := 7) rfl rfl hF (fun hF => ?_) (fun hF => ?_)
  · refine w_bipush (pc2 := 23) rfl rfl ?_
    exact j_iret rfl rfl hF
  · refine w_iload_n (pc2 := 8) rfl rfl rfl ?_
    refine w_i2l (pc2 := 9) rfl rfl ?_
    refine w_ldc2_w (pc2 := 12) rfl rfl ?_
    refine w_ldc2_w (pc2 := 15) rfl rfl ?_
    refine j_cIs (pc2 := 18) (k := 0) (c := zt_m160) (as := [.long (p1.toInt64), .long (-1 : Int64), .long (4 : Int64)]) (rest := []) rfl rfl rfl (Nat.le_of_ble_eq_true rfl) rfl rfl (Nat.le_of_ble_eq_true rfl) (Nat.le_of_ble_eq_true rfl) (fun w1 h1 => ok_Model_in h1) (by decide) rfl hF (fun v5 s4 hF => ?_)
    refine j_if_ne (pc2 := 21) rfl rfl hF (fun hF => ?_) (fun hF => ?_)
    · refine w_iconst (pc2 := 25) rfl rfl ?_
      refine w_istore_n (pc2 := 26) (ls2 := [(2, .int (0 : Int32)), (0, .ref 216), (1, .int p1)]) rfl rfl rfl ?_
      refine j_join (P := fun (a7 : Int32) (s6 : ZS) => zz_wp zt_ms zt_nm zt_df (zt_X L xs) 3 zt_m228 49 [(0, .ref 216), (1, .int p1), (2, .int a7)] [] (zk b s6) (qI b w)) hF (fun a7 s6 hF => ?_) (fun k8 hk8 hF => ?_)
      · refine w_iload_n (pc2 := 50) rfl rfl rfl ?_
        refine w_iconst (pc2 := 51) rfl rfl ?_
        refine j_icmp_ne (pc2 := 54) rfl rfl hF (fun hF => ?_) (fun hF => ?_)
        · refine w_aload_n (pc2 := 59) rfl rfl rfl ?_
          refine w_iload_n (pc2 := 60) rfl rfl rfl ?_
          refine j_cIv (pc2 := 63) (k := 0) (c := zt_m186) (as := [.ref 216, .int p1]) (rest := []) rfl rfl rfl rfl zk_cModel.look rfl (Nat.le_of_ble_eq_true rfl) (Nat.le_of_ble_eq_true rfl) (fun w1 h1 => ok_Model_isPair h1) (by decide) rfl hF (fun v10 s9 hF => ?_)
          refine j_if_eq (pc2 := 66) rfl rfl hF (fun hF => ?_) (fun hF => ?_)
          · refine w_bipush (pc2 := 77) rfl rfl ?_
            exact j_iret rfl rfl hF
          · refine w_aload_n (pc2 := 67) rfl rfl rfl ?_
            refine w_getfield (pc2 := 70) rfl zk_cModel rfl rfl rfl ?_
            refine w_iload_n (pc2 := 71) rfl rfl rfl ?_
            refine j_iaload (pc2 := 72) (n := 5) rfl rfl (by omega) (by decide) rfl hF (fun v11 hF => ?_)
            refine w_goto rfl ?_
            exact j_iret rfl rfl hF
        · refine w_iload_n (pc2 := 55) rfl rfl rfl ?_
          refine w_goto rfl ?_
          exact j_iret rfl rfl hF
      · refine j_norm (l := [(0, .ref 216), (1, .int p1), (2, .int (0 : Int32))]) ⟨rfl, rfl, rfl, trivial⟩ (zz_nd_of (ks := [0, 1, 2]) rfl (by decide)) ?_
        refine j_loop (P := fun (a12 : Int32) (s13 : ZS) => zz_wp zt_ms zt_nm zt_df (zt_X L xs) 3 zt_m228 26 [(0, .ref 216), (1, .int p1), (2, .int a12)] [] (zk b s13) (qI b w)) hF (fun a12 s13 g14 hg14 hF => ?_)
        unfold f_Model_benches_B26 at hF
        refine w_aload_n (pc2 := 27) rfl rfl rfl ?_
        refine w_getfield (pc2 := 30) rfl zk_cModel rfl rfl rfl ?_
        refine w_iconst (pc2 := 31) rfl rfl ?_
        refine j_ialoadC (pc2 := 32) (n := 139) (j := 3) rfl rfl (by omega) (by decide) (by decide) (by decide) (by decide) rfl hF (fun v15 hF => ?_)
        refine j_if_le (pc2 := 35) rfl rfl hF (fun hF => ?_) (fun hF => ?_)
        · exact j_norm (l := [(0, .ref 216), (1, .int p1), (2, .int a12)]) ⟨rfl, rfl, rfl, trivial⟩ (zz_nd_of (ks := [0, 1, 2]) rfl (by decide)) (hk8 a12 s13 hF)
        · refine w_aload_n (pc2 := 36) rfl rfl rfl ?_
          refine w_iload_n (pc2 := 37) rfl rfl rfl ?_
          refine j_cIv (pc2 := 40) (k := 2) (c := zt_m229) (as := [.ref 216, .int a12]) (rest := []) rfl rfl rfl rfl zk_cModel.look rfl (Nat.le_of_ble_eq_true rfl) (Nat.le_of_ble_eq_true rfl) (fun w1 h1 => ok_Model_areEnough h1) (by decide) rfl hF (fun v17 s16 hF => ?_)
          refine j_if_ne (pc2 := 43) rfl rfl hF (fun hF => ?_) (fun hF => ?_)
          · exact j_norm (l := [(0, .ref 216), (1, .int p1), (2, .int a12)]) ⟨rfl, rfl, rfl, trivial⟩ (zz_nd_of (ks := [0, 1, 2]) rfl (by decide)) (hk8 a12 s16 hF)
          · refine w_iinc (pc2 := 46) (ls2 := [(2, .int ((a12 + (1 : Int32)))), (0, .ref 216), (1, .int p1)]) rfl rfl rfl rfl ?_
            refine w_goto rfl ?_
            exact j_norm (l := [(0, .ref 216), (1, .int p1), (2, .int ((a12 + (1 : Int32))))]) ⟨rfl, rfl, rfl, trivial⟩ (zz_nd_of (ks := [0, 1, 2]) rfl (by decide)) (hg14 (a12 + (1 : Int32)) s16 hF)
    · refine w_bipush (pc2 := 23) rfl rfl ?_
      exact j_iret rfl rfl hF
noncomputable def f_Model_wideAll_B4 (a1 : Int32 × Int32) (s2 : ZS) (g3 : (Int32 × Int32) → ZS → Option (Int32 × ZS)) : Option (Int32 × ZS) := zgi (s2.1 226 3) (fun (v4 : Int32) => (if v4 ≤ a1.2 then some (a1.1, s2) else zcl (f_Model_bandOf a1.2 s2) (fun (v6 : Int32) (s5 : ZS) => g3 ((a1.1 + v6), (a1.2 + (1 : Int32))) s5)))
noncomputable def f_Model_wideAll (s0 : ZS) : Option (Int32 × ZS) := zlp zN (f_Model_wideAll_B4) ((0 : Int32), (0 : Int32)) s0
set_option maxHeartbeats 4000000 in
set_option maxRecDepth 100000 in
theorem ok_Model_wideAll {L : Nat} {xs : Nat → Int32} {b : ZH} {s0 : ZS} {w : Int32 × ZS} (hF : f_Model_wideAll s0 = some w) : zz_ct zt_ms zt_nm zt_df (zt_X L xs) 1 zt_m232 [.ref 216] (zk b s0) (qI b w) := by
  unfold f_Model_wideAll at hF
  change zz_wp zt_ms zt_nm zt_df (zt_X L xs) 1 zt_m232 0 [(0, .ref 216)] [] (zk b s0) (qI b w)
  refine w_iconst (pc2 := 1) rfl rfl ?_
  refine w_istore_n (pc2 := 2) (ls2 := [(1, .int (0 : Int32)), (0, .ref 216)]) rfl rfl rfl ?_
  refine w_iconst (pc2 := 3) rfl rfl ?_
  refine w_istore_n (pc2 := 4) (ls2 := [(2, .int (0 : Int32)), (1, .int (0 : Int32)), (0, .ref 216)]) rfl rfl rfl ?_
  refine j_norm (l := [(0, .ref 216), (1, .int (0 : Int32)), (2, .int (0 : Int32))]) ⟨rfl, rfl, rfl, trivial⟩ (zz_nd_of (ks := [0, 1, 2]) rfl (by decide)) ?_
  refine j_loop (P := fun (a1 : Int32 × Int32) (s2 : ZS) => zz_wp zt_ms zt_nm zt_df (zt_X L xs) 1 zt_m232 4 [(0, .ref 216), (1, .int a1.1), (2, .int a1.2)] [] (zk b s2) (qI b w)) hF (fun a1 s2 g3 hg3 hF => ?_)
  unfold f_Model_wideAll_B4 at hF
  refine w_iload_n (pc2 := 5) rfl rfl rfl ?_
  refine w_aload_n (pc2 := 6) rfl rfl rfl ?_
  refine w_getfield (pc2 := 9) rfl zk_cModel rfl rfl rfl ?_
  refine w_iconst (pc2 := 10) rfl rfl ?_
  refine j_ialoadC (pc2 := 11) (n := 139) (j := 3) rfl rfl (by omega) (by decide) (by decide) (by decide) (by decide) rfl hF (fun v4 hF => ?_)
  refine j_icmp_ge (pc2 := 14) rfl rfl hF (fun hF => ?_) (fun hF => ?_)
  · refine w_iload_n (pc2 := 29) rfl rfl rfl ?_
    exact j_iret rfl rfl hF
  · refine w_iload_n (pc2 := 15) rfl rfl rfl ?_
    refine w_aload_n (pc2 := 16) rfl rfl rfl ?_
    refine w_iload_n (pc2 := 17) rfl rfl rfl ?_
    refine j_cIv (pc2 := 20) (k := 0) (c := zt_m188) (as := [.ref 216, .int a1.2]) (rest := [.int a1.1]) rfl rfl rfl rfl zk_cModel.look rfl (Nat.le_of_ble_eq_true rfl) (Nat.le_of_ble_eq_true rfl) (fun w1 h1 => ok_Model_bandOf h1) (by decide) rfl hF (fun v6 s5 hF => ?_)
    refine w_iadd (pc2 := 21) rfl rfl ?_
    refine w_istore_n (pc2 := 22) (ls2 := [(1, .int (a1.1 + v6)), (0, .ref 216), (2, .int a1.2)]) rfl rfl rfl ?_
    refine w_iinc (pc2 := 25) (ls2 := [(2, .int ((a1.2 + (1 : Int32)))), (1, .int (a1.1 + v6)), (0, .ref 216)]) rfl rfl rfl rfl ?_
    refine w_goto rfl ?_
    exact j_norm (l := [(0, .ref 216), (1, .int (a1.1 + v6)), (2, .int ((a1.2 + (1 : Int32))))]) ⟨rfl, rfl, rfl, trivial⟩ (zz_nd_of (ks := [0, 1, 2]) rfl (by decide)) (hg3 ((a1.1 + v6), (a1.2 + (1 : Int32))) s5 hF)
