/-! What methods do as functions of the state, and that the small machine does so. -/
noncomputable def f_Model_largest_B75 (v17 : Int32) (v19 : Int32) (k22 : (Int32 × Int32 × Int32) → ZS → Option (Int32 × ZS)) (a23 : Int32 × Int32 × Int32 × Int32) (s24 : ZS) (g25 : (Int32 × Int32 × Int32 × Int32) → ZS → Option (Int32 × ZS)) : Option (Int32 × ZS) := zgi (s24.1 226 3) (fun (v26 : Int32) => (if v26 ≤ a23.2.2.2 then k22 (a23.1, a23.2.1, a23.2.2.1) s24 else zcl (f_Model_isOf v19 a23.2.2.2 s24) (fun (v28 : Int32) (s27 : ZS) => zjn (A := Int32 × Int32 × Int32) (fun (a30 : Int32 × Int32 × Int32) (s29 : ZS) => g25 (a30.1, a30.2.1, a30.2.2, (a23.2.2.2 + (1 : Int32))) s29) (fun (k31 : (Int32 × Int32 × Int32) → ZS → Option (Int32 × ZS)) => (if v28 = 0 then k31 (a23.1, a23.2.1, a23.2.2.1) s27 else zrd 5 a23.2.2.2 (s27.1 227) (fun (v32 : Int32) => (if a23.2.1 < v32 then zrd 5 a23.2.2.2 (s27.1 227) (fun (v33 : Int32) => k31 (a23.2.2.2, v33, v17) s27) else k31 (a23.1, a23.2.1, a23.2.2.1) s27)))))))
noncomputable def f_Model_largest_B51 (p1 : Int32) (k12 : (Int32 × Int32 × Int32) → ZS → Option (Int32 × ZS)) (a14 : Int32 × Int32 × Int32 × Int32) (s15 : ZS) (g16 : (Int32 × Int32 × Int32 × Int32) → ZS → Option (Int32 × ZS)) : Option (Int32 × ZS) := (if p1 ≤ a14.2.2.2 then k12 (a14.1, a14.2.1, a14.2.2.1) s15 else zgi (s15.1 226 10) (fun (v17 : Int32) => zcl (f_Model_passes s15) (fun (v19 : Int32) (s18 : ZS) => zjn (A := Int32 × Int32 × Int32) (fun (a21 : Int32 × Int32 × Int32) (s20 : ZS) => g16 (a21.1, a21.2.1, a21.2.2, (a14.2.2.2 + (1 : Int32))) s20) (fun (k22 : (Int32 × Int32 × Int32) → ZS → Option (Int32 × ZS)) => zlp zN (f_Model_largest_B75 v17 v19 k22) (a14.1, a14.2.1, a14.2.2.1, (0 : Int32)) s18))))
noncomputable def f_Model_largest (p1 : Int32) (p2 : Int32) (s0 : ZS) : Option (Int32 × ZS) := zcl (f_Model_isSmithy s0) (fun (v4 : Int32) (s3 : ZS) => (if v4 = 0 then some ((-1 : Int32), s3) else zcl (f_Model_in (p1.toInt64) (1 : Int64) (60 : Int64) s3) (fun (v6 : Int32) (s5 : ZS) => (if v6 = 0 then some ((-1 : Int32), s5) else zcl (f_Model_in (p2.toInt64) (0 : Int64) (2 : Int64) s5) (fun (v8 : Int32) (s7 : ZS) => (if ¬ v8 = 0 then zcv (f_Model_keeps s7) (fun (s9 : ZS) => zjn (A := Int32 × Int32 × Int32) (fun (a11 : Int32 × Int32 × Int32) (s10 : ZS) => zcv (f_Model_laysBack s10) (fun (s13 : ZS) => (if ¬ p2 = 0 then (if ¬ p2 = (1 : Int32) then some (a11.2.2, s13) else some (a11.2.1, s13)) else some (a11.1, s13)))) (fun (k12 : (Int32 × Int32 × Int32) → ZS → Option (Int32 × ZS)) => zlp zN (f_Model_largest_B51 p1 k12) ((-2 : Int32), (-2 : Int32), (-2 : Int32), (0 : Int32)) s9)) else some ((-1 : Int32), s7)))))))
set_option maxHeartbeats 4000000 in
set_option maxRecDepth 100000 in
theorem ok_Model_largest {L : Nat} {xs : Nat → Int32} {b : ZH} {p1 : Int32} {p2 : Int32} {s0 : ZS} {w : Int32 × ZS} (hF : f_Model_largest p1 p2 s0 = some w) : zz_ct zt_ms zt_nm zt_df (zt_X L xs) 6 zt_m241 [.ref 216, .int p1, .int p2] (zk b s0) (qI b w) := by
  unfold f_Model_largest at hF
  change zz_wp zt_ms zt_nm zt_df (zt_X L xs) 6 zt_m241 0 [(0, .ref 216), (1, .int p1), (2, .int p2)] [] (zk b s0) (qI b w)
  refine w_aload_n (pc2 := 1) rfl rfl rfl ?_
  refine j_cIv (pc2 := 4) (k := 0) (c := zt_m194) (as := [.ref 216]) (rest := []) rfl rfl rfl rfl zk_cModel.look rfl (Nat.le_of_ble_eq_true rfl) (Nat.le_of_ble_eq_true rfl) (fun w1 h1 => ok_Model_isSmithy h1) (by decide) rfl hF (fun v4 s3 hF => ?_)
  refine j_if_eq (pc2 := 7) rfl rfl hF (fun hF => ?_) (fun hF => ?_)
  · refine w_iconst (pc2 := 32) rfl rfl ?_
    exact j_iret rfl rfl hF
  · refine w_iload_n (pc2 := 8) rfl rfl rfl ?_
    refine w_i2l (pc2 := 9) rfl rfl ?_
    refine w_lconst (pc2 := 10) rfl rfl ?_
    refine w_ldc2_w (pc2 := 13) rfl rfl ?_
    refine j_cIs (pc2 := 16) (k := 0) (c := zt_m160) (as := [.long (p1.toInt64), .long (1 : Int64), .long (60 : Int64)]) (rest := []) rfl rfl rfl (Nat.le_of_ble_eq_true rfl) rfl rfl (Nat.le_of_ble_eq_true rfl) (Nat.le_of_ble_eq_true rfl) (fun w1 h1 => ok_Model_in h1) (by decide) rfl hF (fun v6 s5 hF => ?_)
    refine j_if_eq (pc2 := 19) rfl rfl hF (fun hF => ?_) (fun hF => ?_)
    · refine w_iconst (pc2 := 32) rfl rfl ?_
      exact j_iret rfl rfl hF
    · refine w_iload_n (pc2 := 20) rfl rfl rfl ?_
      refine w_i2l (pc2 := 21) rfl rfl ?_
      refine w_lconst (pc2 := 22) rfl rfl ?_
      refine w_ldc2_w (pc2 := 25) rfl rfl ?_
      refine j_cIs (pc2 := 28) (k := 0) (c := zt_m160) (as := [.long (p2.toInt64), .long (0 : Int64), .long (2 : Int64)]) (rest := []) rfl rfl rfl (Nat.le_of_ble_eq_true rfl) rfl rfl (Nat.le_of_ble_eq_true rfl) (Nat.le_of_ble_eq_true rfl) (fun w1 h1 => ok_Model_in h1) (by decide) rfl hF (fun v8 s7 hF => ?_)
      refine j_if_ne (pc2 := 31) rfl rfl hF (fun hF => ?_) (fun hF => ?_)
      · refine w_bipush (pc2 := 35) rfl rfl ?_
        refine w_istore_n (pc2 := 36) (ls2 := [(3, .int (-2 : Int32)), (0, .ref 216), (1, .int p1), (2, .int p2)]) rfl rfl rfl ?_
        refine w_bipush (pc2 := 38) rfl rfl ?_
        refine w_istore (pc2 := 40) (ls2 := [(4, .int (-2 : Int32)), (3, .int (-2 : Int32)), (0, .ref 216), (1, .int p1), (2, .int p2)]) rfl rfl rfl ?_
        refine w_bipush (pc2 := 42) rfl rfl ?_
        refine w_istore (pc2 := 44) (ls2 := [(5, .int (-2 : Int32)), (4, .int (-2 : Int32)), (3, .int (-2 : Int32)), (0, .ref 216), (1, .int p1), (2, .int p2)]) rfl rfl rfl ?_
        refine w_aload_n (pc2 := 45) rfl rfl rfl ?_
        refine j_cVv (pc2 := 48) (k := 0) (c := zt_m218) (as := [.ref 216]) (rest := []) rfl rfl rfl rfl zk_cModel.look rfl (Nat.le_of_ble_eq_true rfl) (Nat.le_of_ble_eq_true rfl) (fun w1 h1 => ok_Model_keeps h1) (by decide) rfl hF (fun s9 hF => ?_)
        refine w_iconst (pc2 := 49) rfl rfl ?_
        refine w_istore (pc2 := 51) (ls2 := [(6, .int (0 : Int32)), (5, .int (-2 : Int32)), (4, .int (-2 : Int32)), (3, .int (-2 : Int32)), (0, .ref 216), (1, .int p1), (2, .int p2)]) rfl rfl rfl ?_
        refine j_join (P := fun (a11 : Int32 × Int32 × Int32) (s10 : ZS) => zz_wp zt_ms zt_nm zt_df (zt_X L xs) 6 zt_m241 139 [(0, .ref 216), (2, .int p2), (3, .int a11.1), (4, .int a11.2.1), (5, .int a11.2.2)] [] (zk b s10) (qI b w)) hF (fun a11 s10 hF => ?_) (fun k12 hk12 hF => ?_)
        · refine w_aload_n (pc2 := 140) rfl rfl rfl ?_
          refine j_cVv (pc2 := 143) (k := 0) (c := zt_m219) (as := [.ref 216]) (rest := []) rfl rfl rfl rfl zk_cModel.look rfl (Nat.le_of_ble_eq_true rfl) (Nat.le_of_ble_eq_true rfl) (fun w1 h1 => ok_Model_laysBack h1) (by decide) rfl hF (fun s13 hF => ?_)
          refine w_iload_n (pc2 := 144) rfl rfl rfl ?_
          refine j_if_ne (pc2 := 147) rfl rfl hF (fun hF => ?_) (fun hF => ?_)
          · refine w_iload_n (pc2 := 152) rfl rfl rfl ?_
            refine w_iconst (pc2 := 153) rfl rfl ?_
            refine j_icmp_ne (pc2 := 156) rfl rfl hF (fun hF => ?_) (fun hF => ?_)
            · refine w_iload (pc2 := 163) rfl rfl rfl ?_
              exact j_iret rfl rfl hF
            · refine w_iload (pc2 := 158) rfl rfl rfl ?_
              refine w_goto rfl ?_
              exact j_iret rfl rfl hF
          · refine w_iload_n (pc2 := 148) rfl rfl rfl ?_
            refine w_goto rfl ?_
            exact j_iret rfl rfl hF
        · refine j_norm (l := [(0, .ref 216), (1, .int p1), (2, .int p2), (3, .int (-2 : Int32)), (4, .int (-2 : Int32)), (5, .int (-2 : Int32)), (6, .int (0 : Int32))]) ⟨rfl, rfl, rfl, rfl, rfl, rfl, rfl, trivial⟩ (zz_nd_of (ks := [0, 1, 2, 3, 4, 5, 6]) rfl (by decide)) ?_
          refine j_loop (P := fun (a14 : Int32 × Int32 × Int32 × Int32) (s15 : ZS) => zz_wp zt_ms zt_nm zt_df (zt_X L xs) 6 zt_m241 51 [(0, .ref 216), (1, .int p1), (2, .int p2), (3, .int a14.1), (4, .int a14.2.1), (5, .int a14.2.2.1), (6, .int a14.2.2.2)] [] (zk b s15) (qI b w)) hF (fun a14 s15 g16 hg16 hF => ?_)
          unfold f_Model_largest_B51 at hF
          refine w_iload (pc2 := 53) rfl rfl rfl ?_
          refine w_iload_n (pc2 := 54) rfl rfl rfl ?_
          refine j_icmp_ge (pc2 := 57) rfl rfl hF (fun hF => ?_) (fun hF => ?_)
          · exact j_norm (l := [(0, .ref 216), (2, .int p2), (3, .int a14.1), (4, .int a14.2.1), (5, .int a14.2.2.1)]) ⟨rfl, rfl, rfl, rfl, rfl, trivial⟩ (zz_nd_of (ks := [0, 2, 3, 4, 5]) rfl (by decide)) (hk12 (a14.1, a14.2.1, a14.2.2.1) s15 hF)
          · refine w_aload_n (pc2 := 58) rfl rfl rfl ?_
            refine w_getfield (pc2 := 61) rfl zk_cModel rfl rfl rfl ?_
            refine w_bipush (pc2 := 63) rfl rfl ?_
            refine j_ialoadC (pc2 := 64) (n := 139) (j := 10) rfl rfl (by omega) (by decide) (by decide) (by decide) (by decide) rfl hF (fun v17 hF => ?_)
            refine w_istore (pc2 := 66) (ls2 := [(7, .int v17), (0, .ref 216), (1, .int p1), (2, .int p2), (3, .int a14.1), (4, .int a14.2.1), (5, .int a14.2.2.1), (6, .int a14.2.2.2)]) rfl rfl rfl ?_
            refine w_aload_n (pc2 := 67) rfl rfl rfl ?_
            refine j_cIv (pc2 := 70) (k := 5) (c := zt_m196) (as := [.ref 216]) (rest := []) rfl rfl rfl rfl zk_cModel.look rfl (Nat.le_of_ble_eq_true rfl) (Nat.le_of_ble_eq_true rfl) (fun w1 h1 => ok_Model_passes h1) (by decide) rfl hF (fun v19 s18 hF => ?_)
            refine w_istore (pc2 := 72) (ls2 := [(8, .int v19), (7, .int v17), (0, .ref 216), (1, .int p1), (2, .int p2), (3, .int a14.1), (4, .int a14.2.1), (5, .int a14.2.2.1), (6, .int a14.2.2.2)]) rfl rfl rfl ?_
            refine w_iconst (pc2 := 73) rfl rfl ?_
            refine w_istore (pc2 := 75) (ls2 := [(9, .int (0 : Int32)), (8, .int v19), (7, .int v17), (0, .ref 216), (1, .int p1), (2, .int p2), (3, .int a14.1), (4, .int a14.2.1), (5, .int a14.2.2.1), (6, .int a14.2.2.2)]) rfl rfl rfl ?_
            refine j_join (P := fun (a21 : Int32 × Int32 × Int32) (s20 : ZS) => zz_wp zt_ms zt_nm zt_df (zt_X L xs) 6 zt_m241 133 [(0, .ref 216), (1, .int p1), (2, .int p2), (3, .int a21.1), (4, .int a21.2.1), (5, .int a21.2.2), (6, .int a14.2.2.2)] [] (zk b s20) (qI b w)) hF (fun a21 s20 hF => ?_) (fun k22 hk22 hF => ?_)
            · refine w_iinc (pc2 := 136) (ls2 := [(6, .int ((a14.2.2.2 + (1 : Int32)))), (0, .ref 216), (1, .int p1), (2, .int p2), (3, .int a21.1), (4, .int a21.2.1), (5, .int a21.2.2)]) rfl rfl rfl rfl ?_
              refine w_goto rfl ?_
              exact j_norm (l := [(0, .ref 216), (1, .int p1), (2, .int p2), (3, .int a21.1), (4, .int a21.2.1), (5, .int a21.2.2), (6, .int ((a14.2.2.2 + (1 : Int32))))]) ⟨rfl, rfl, rfl, rfl, rfl, rfl, rfl, trivial⟩ (zz_nd_of (ks := [0, 1, 2, 3, 4, 5, 6]) rfl (by decide)) (hg16 (a21.1, a21.2.1, a21.2.2, (a14.2.2.2 + (1 : Int32))) s20 hF)
            · refine j_norm (l := [(0, .ref 216), (1, .int p1), (2, .int p2), (3, .int a14.1), (4, .int a14.2.1), (5, .int a14.2.2.1), (6, .int a14.2.2.2), (7, .int v17), (8, .int v19), (9, .int (0 : Int32))]) ⟨rfl, rfl, rfl, rfl, rfl, rfl, rfl, rfl, rfl, rfl, trivial⟩ (zz_nd_of (ks := [0, 1, 2, 3, 4, 5, 6, 7, 8, 9]) rfl (by decide)) ?_
              refine j_loop (P := fun (a23 : Int32 × Int32 × Int32 × Int32) (s24 : ZS) => zz_wp zt_ms zt_nm zt_df (zt_X L xs) 6 zt_m241 75 [(0, .ref 216), (1, .int p1), (2, .int p2), (3, .int a23.1), (4, .int a23.2.1), (5, .int a23.2.2.1), (6, .int a14.2.2.2), (7, .int v17), (8, .int v19), (9, .int a23.2.2.2)] [] (zk b s24) (qI b w)) hF (fun a23 s24 g25 hg25 hF => ?_)
              unfold f_Model_largest_B75 at hF
              refine w_iload (pc2 := 77) rfl rfl rfl ?_
              refine w_aload_n (pc2 := 78) rfl rfl rfl ?_
              refine w_getfield (pc2 := 81) rfl zk_cModel rfl rfl rfl ?_
              refine w_iconst (pc2 := 82) rfl rfl ?_
              refine j_ialoadC (pc2 := 83) (n := 139) (j := 3) rfl rfl (by omega) (by decide) (by decide) (by decide) (by decide) rfl hF (fun v26 hF => ?_)
              refine j_icmp_ge (pc2 := 86) rfl rfl hF (fun hF => ?_) (fun hF => ?_)
              · exact j_norm (l := [(0, .ref 216), (1, .int p1), (2, .int p2), (3, .int a23.1), (4, .int a23.2.1), (5, .int a23.2.2.1), (6, .int a14.2.2.2)]) ⟨rfl, rfl, rfl, rfl, rfl, rfl, rfl, trivial⟩ (zz_nd_of (ks := [0, 1, 2, 3, 4, 5, 6]) rfl (by decide)) (hk22 (a23.1, a23.2.1, a23.2.2.1) s24 hF)
              · refine w_iload (pc2 := 88) rfl rfl rfl ?_
                refine w_iload (pc2 := 90) rfl rfl rfl ?_
                refine j_cIs (pc2 := 93) (k := 0) (c := zt_m199) (as := [.int v19, .int a23.2.2.2]) (rest := []) rfl rfl rfl (Nat.le_of_ble_eq_true rfl) rfl rfl (Nat.le_of_ble_eq_true rfl) (Nat.le_of_ble_eq_true rfl) (fun w1 h1 => ok_Model_isOf h1) (by decide) rfl hF (fun v28 s27 hF => ?_)
                refine j_join (P := fun (a30 : Int32 × Int32 × Int32) (s29 : ZS) => zz_wp zt_ms zt_nm zt_df (zt_X L xs) 6 zt_m241 127 [(0, .ref 216), (1, .int p1), (2, .int p2), (3, .int a30.1), (4, .int a30.2.1), (5, .int a30.2.2), (6, .int a14.2.2.2), (7, .int v17), (8, .int v19), (9, .int a23.2.2.2)] [] (zk b s29) (qI b w)) hF (fun a30 s29 hF => ?_) (fun k31 hk31 hF => ?_)
                · refine w_iinc (pc2 := 130) (ls2 := [(9, .int ((a23.2.2.2 + (1 : Int32)))), (0, .ref 216), (1, .int p1), (2, .int p2), (3, .int a30.1), (4, .int a30.2.1), (5, .int a30.2.2), (6, .int a14.2.2.2), (7, .int v17), (8, .int v19)]) rfl rfl rfl rfl ?_
                  refine w_goto rfl ?_
                  exact j_norm (l := [(0, .ref 216), (1, .int p1), (2, .int p2), (3, .int a30.1), (4, .int a30.2.1), (5, .int a30.2.2), (6, .int a14.2.2.2), (7, .int v17), (8, .int v19), (9, .int ((a23.2.2.2 + (1 : Int32))))]) ⟨rfl, rfl, rfl, rfl, rfl, rfl, rfl, rfl, rfl, rfl, trivial⟩ (zz_nd_of (ks := [0, 1, 2, 3, 4, 5, 6, 7, 8, 9]) rfl (by decide)) (hg25 (a30.1, a30.2.1, a30.2.2, (a23.2.2.2 + (1 : Int32))) s29 hF)
                · refine j_if_eq (pc2 := 96) rfl rfl hF (fun hF => ?_) (fun hF => ?_)
                  · exact j_norm (l := [(0, .ref 216), (1, .int p1), (2, .int p2), (3, .int a23.1), (4, .int a23.2.1), (5, .int a23.2.2.1), (6, .int a14.2.2.2), (7, .int v17), (8, .int v19), (9, .int a23.2.2.2)]) ⟨rfl, rfl, rfl, rfl, rfl, rfl, rfl, rfl, rfl, rfl, trivial⟩ (zz_nd_of (ks := [0, 1, 2, 3, 4, 5, 6, 7, 8, 9]) rfl (by decide)) (hk31 (a23.1, a23.2.1, a23.2.2.1) s27 hF)
                  · refine w_aload_n (pc2 := 97) rfl rfl rfl ?_
                    refine w_getfield (pc2 := 100) rfl zk_cModel rfl rfl rfl ?_
                    refine w_iload (pc2 := 102) rfl rfl rfl ?_
                    refine j_iaload (pc2 := 103) (n := 5) rfl rfl (by omega) (by decide) rfl hF (fun v32 hF => ?_)
                    refine w_iload (pc2 := 105) rfl rfl rfl ?_
                    refine j_icmp_gt (pc2 := 108) rfl rfl hF (fun hF => ?_) (fun hF => ?_)
                    · refine w_iload (pc2 := 113) rfl rfl rfl ?_
                      refine w_istore_n (pc2 := 114) (ls2 := [(3, .int a23.2.2.2), (0, .ref 216), (1, .int p1), (2, .int p2), (4, .int a23.2.1), (5, .int a23.2.2.1), (6, .int a14.2.2.2), (7, .int v17), (8, .int v19), (9, .int a23.2.2.2)]) rfl rfl rfl ?_
                      refine w_aload_n (pc2 := 115) rfl rfl rfl ?_
                      refine w_getfield (pc2 := 118) rfl zk_cModel rfl rfl rfl ?_
                      refine w_iload (pc2 := 120) rfl rfl rfl ?_
                      refine j_iaload (pc2 := 121) (n := 5) rfl rfl (by omega) (by decide) rfl hF (fun v33 hF => ?_)
                      refine w_istore (pc2 := 123) (ls2 := [(4, .int v33), (3, .int a23.2.2.2), (0, .ref 216), (1, .int p1), (2, .int p2), (5, .int a23.2.2.1), (6, .int a14.2.2.2), (7, .int v17), (8, .int v19), (9, .int a23.2.2.2)]) rfl rfl rfl ?_
                      refine w_iload (pc2 := 125) rfl rfl rfl ?_
                      refine w_istore (pc2 := 127) (ls2 := [(5, .int v17), (4, .int v33), (3, .int a23.2.2.2), (0, .ref 216), (1, .int p1), (2, .int p2), (6, .int a14.2.2.2), (7, .int v17), (8, .int v19), (9, .int a23.2.2.2)]) rfl rfl rfl ?_
                      exact j_norm (l := [(0, .ref 216), (1, .int p1), (2, .int p2), (3, .int a23.2.2.2), (4, .int v33), (5, .int v17), (6, .int a14.2.2.2), (7, .int v17), (8, .int v19), (9, .int a23.2.2.2)]) ⟨rfl, rfl, rfl, rfl, rfl, rfl, rfl, rfl, rfl, rfl, trivial⟩ (zz_nd_of (ks := [0, 1, 2, 3, 4, 5, 6, 7, 8, 9]) rfl (by decide)) (hk31 (a23.2.2.2, v33, v17) s27 hF)
                    · refine w_goto rfl ?_
                      exact j_norm (l := [(0, .ref 216), (1, .int p1), (2, .int p2), (3, .int a23.1), (4, .int a23.2.1), (5, .int a23.2.2.1), (6, .int a14.2.2.2), (7, .int v17), (8, .int v19), (9, .int a23.2.2.2)]) ⟨rfl, rfl, rfl, rfl, rfl, rfl, rfl, rfl, rfl, rfl, trivial⟩ (zz_nd_of (ks := [0, 1, 2, 3, 4, 5, 6, 7, 8, 9]) rfl (by decide)) (hk31 (a23.1, a23.2.1, a23.2.2.1) s27 hF)
      · refine w_iconst (pc2 := 32) rfl rfl ?_
        exact j_iret rfl rfl hF
noncomputable def f_Model_note (p1 : Int32) (p2 : Int32) (p3 : Int32) (s0 : ZS) : Option (Int32 × ZS) := (if ¬ p1 = (-1 : Int32) then zcl (f_Model_in (p1.toInt64) (0 : Int64) (60 : Int64) s0) (fun (v5 : Int32) (s4 : ZS) => (if v5 = 0 then some ((-2 : Int32), s4) else zcl (f_Model_isPair p2 s4) (fun (v7 : Int32) (s6 : ZS) => (if v7 = 0 then some ((-2 : Int32), s6) else zcl (f_Model_in (p3.toInt64) (0 : Int64) (99 : Int64) s6) (fun (v9 : Int32) (s8 : ZS) => (if v9 = 0 then some ((-2 : Int32), s8) else zgi (s8.1 226 138) (fun (v10 : Int32) => (if ¬ v10 = (10 : Int32) then zgi (s8.1 226 138) (fun (v11 : Int32) => zwa s8 226 139 (((108 : Int32) + ((3 : Int32) * v11))) p1 (fun (s12 : ZS) => zwa s12 226 139 ((((108 : Int32) + ((3 : Int32) * v11)) + (1 : Int32))) p2 (fun (s13 : ZS) => zwa s13 226 139 ((((108 : Int32) + ((3 : Int32) * v11)) + (2 : Int32))) p3 (fun (s14 : ZS) => zgi (s14.1 226 138) (fun (v15 : Int32) => zwi s14 226 138 ((v15 + (1 : Int32))) (fun (s16 : ZS) => zgi (s16.1 226 138) (fun (v17 : Int32) => some (v17, s16)))))))) else some ((-2 : Int32), s8))))))))) else zwi s0 226 138 (0 : Int32) (fun (s18 : ZS) => some ((0 : Int32), s18)))
set_option maxHeartbeats 4000000 in
set_option maxRecDepth 100000 in
theorem ok_Model_note {L : Nat} {xs : Nat → Int32} {b : ZH} {p1 : Int32} {p2 : Int32} {p3 : Int32} {s0 : ZS} {w : Int32 × ZS} (hF : f_Model_note p1 p2 p3 s0 = some w) : zz_ct zt_ms zt_nm zt_df (zt_X L xs) 1 zt_m242 [.ref 216, .int p1, .int p2, .int p3] (zk b s0) (qI b w) := by
  unfold f_Model_note at hF
  change zz_wp zt_ms zt_nm zt_df (zt_X L xs) 1 zt_m242 0 [(0, .ref 216), (1, .int p1), (2, .int p2), (3, .int p3)] [] (zk b s0) (qI b w)
  refine w_iload_n (pc2 := 1) rfl rfl rfl ?_
  refine w_iconst (pc2 := 2) rfl rfl ?_
  refine j_icmp_ne (pc2 := 5) rfl rfl hF (fun hF => ?_) (fun hF => ?_)
  · refine w_iload_n (pc2 := 17) rfl rfl rfl ?_
    refine w_i2l (pc2 := 18) rfl rfl ?_
    refine w_lconst (pc2 := 19) rfl rfl ?_
    refine w_ldc2_w (pc2 := 22) rfl rfl ?_
    refine j_cIs (pc2 := 25) (k := 0) (c := zt_m160) (as := [.long (p1.toInt64), .long (0 : Int64), .long (60 : Int64)]) (rest := []) rfl rfl rfl (Nat.le_of_ble_eq_true rfl) rfl rfl (Nat.le_of_ble_eq_true rfl) (Nat.le_of_ble_eq_true rfl) (fun w1 h1 => ok_Model_in h1) (by decide) rfl hF (fun v5 s4 hF => ?_)
    refine j_if_eq (pc2 := 28) rfl rfl hF (fun hF => ?_) (fun hF => ?_)
    · refine w_bipush (pc2 := 63) rfl rfl ?_
      exact j_iret rfl rfl hF
    · refine w_aload_n (pc2 := 29) rfl rfl rfl ?_
      refine w_iload_n (pc2 := 30) rfl rfl rfl ?_
      refine j_cIv (pc2 := 33) (k := 0) (c := zt_m186) (as := [.ref 216, .int p2]) (rest := []) rfl rfl rfl rfl zk_cModel.look rfl (Nat.le_of_ble_eq_true rfl) (Nat.le_of_ble_eq_true rfl) (fun w1 h1 => ok_Model_isPair h1) (by decide) rfl hF (fun v7 s6 hF => ?_)
      refine j_if_eq (pc2 := 36) rfl rfl hF (fun hF => ?_) (fun hF => ?_)
      · refine w_bipush (pc2 := 63) rfl rfl ?_
        exact j_iret rfl rfl hF
      · refine w_iload_n (pc2 := 37) rfl rfl rfl ?_
        refine w_i2l (pc2 := 38) rfl rfl ?_
        refine w_lconst (pc2 := 39) rfl rfl ?_
        refine w_ldc2_w (pc2 := 42) rfl rfl ?_
        refine j_cIs (pc2 := 45) (k := 0) (c := zt_m160) (as := [.long (p3.toInt64), .long (0 : Int64), .long (99 : Int64)]) (rest := []) rfl rfl rfl (Nat.le_of_ble_eq_true rfl) rfl rfl (Nat.le_of_ble_eq_true rfl) (Nat.le_of_ble_eq_true rfl) (fun w1 h1 => ok_Model_in h1) (by decide) rfl hF (fun v9 s8 hF => ?_)
        refine j_if_eq (pc2 := 48) rfl rfl hF (fun hF => ?_) (fun hF => ?_)
        · refine w_bipush (pc2 := 63) rfl rfl ?_
          exact j_iret rfl rfl hF
        · refine w_aload_n (pc2 := 49) rfl rfl rfl ?_
          refine w_getfield (pc2 := 52) rfl zk_cModel rfl rfl rfl ?_
          refine w_sipush (pc2 := 55) rfl rfl ?_
          refine j_ialoadC (pc2 := 56) (n := 139) (j := 138) rfl rfl (by omega) (by decide) (by decide) (by decide) (by decide) rfl hF (fun v10 hF => ?_)
          refine w_bipush (pc2 := 58) rfl rfl ?_
          refine j_icmp_ne (pc2 := 61) rfl rfl hF (fun hF => ?_) (fun hF => ?_)
          · refine w_bipush (pc2 := 66) rfl rfl ?_
            refine w_iconst (pc2 := 67) rfl rfl ?_
            refine w_aload_n (pc2 := 68) rfl rfl rfl ?_
            refine w_getfield (pc2 := 71) rfl zk_cModel rfl rfl rfl ?_
            refine w_sipush (pc2 := 74) rfl rfl ?_
            refine j_ialoadC (pc2 := 75) (n := 139) (j := 138) rfl rfl (by omega) (by decide) (by decide) (by decide) (by decide) rfl hF (fun v11 hF => ?_)
            refine w_imul (pc2 := 76) rfl rfl ?_
            refine w_iadd (pc2 := 77) rfl rfl ?_
            refine w_istore (pc2 := 79) (ls2 := [(4, .int (((108 : Int32) + ((3 : Int32) * v11)))), (0, .ref 216), (1, .int p1), (2, .int p2), (3, .int p3)]) rfl rfl rfl ?_
            refine w_aload_n (pc2 := 80) rfl rfl rfl ?_
            refine w_getfield (pc2 := 83) rfl zk_cModel rfl rfl rfl ?_
            refine w_iload (pc2 := 85) rfl rfl rfl ?_
            refine w_iload_n (pc2 := 86) rfl rfl rfl ?_
            refine j_iastore (pc2 := 87) (n := 139) rfl rfl (by omega) (by decide) rfl hF (fun s12 hF => ?_)
            refine w_aload_n (pc2 := 88) rfl rfl rfl ?_
            refine w_getfield (pc2 := 91) rfl zk_cModel rfl rfl rfl ?_
            refine w_iload (pc2 := 93) rfl rfl rfl ?_
            refine w_iconst (pc2 := 94) rfl rfl ?_
            refine w_iadd (pc2 := 95) rfl rfl ?_
            refine w_iload_n (pc2 := 96) rfl rfl rfl ?_
            refine j_iastore (pc2 := 97) (n := 139) rfl rfl (by omega) (by decide) rfl hF (fun s13 hF => ?_)
            refine w_aload_n (pc2 := 98) rfl rfl rfl ?_
            refine w_getfield (pc2 := 101) rfl zk_cModel rfl rfl rfl ?_
            refine w_iload (pc2 := 103) rfl rfl rfl ?_
            refine w_iconst (pc2 := 104) rfl rfl ?_
            refine w_iadd (pc2 := 105) rfl rfl ?_
            refine w_iload_n (pc2 := 106) rfl rfl rfl ?_
            refine j_iastore (pc2 := 107) (n := 139) rfl rfl (by omega) (by decide) rfl hF (fun s14 hF => ?_)
            refine w_aload_n (pc2 := 108) rfl rfl rfl ?_
            refine w_getfield (pc2 := 111) rfl zk_cModel rfl rfl rfl ?_
            refine w_sipush (pc2 := 114) rfl rfl ?_
            refine w_dup2 (pc2 := 115) rfl rfl rfl rfl ?_
            refine j_ialoadC (pc2 := 116) (n := 139) (j := 138) rfl rfl (by omega) (by decide) (by decide) (by decide) (by decide) rfl hF (fun v15 hF => ?_)
            refine w_iconst (pc2 := 117) rfl rfl ?_
            refine w_iadd (pc2 := 118) rfl rfl ?_
            refine j_iastoreC (pc2 := 119) (n := 139) (j := 138) rfl rfl (by omega) (by decide) (by decide) (by decide) (by decide) rfl hF (fun s16 hF => ?_)
            refine w_aload_n (pc2 := 120) rfl rfl rfl ?_
            refine w_getfield (pc2 := 123) rfl zk_cModel rfl rfl rfl ?_
            refine w_sipush (pc2 := 126) rfl rfl ?_
            refine j_ialoadC (pc2 := 127) (n := 139) (j := 138) rfl rfl (by omega) (by decide) (by decide) (by decide) (by decide) rfl hF (fun v17 hF => ?_)
            exact j_iret rfl rfl hF
          · refine w_bipush (pc2 := 63) rfl rfl ?_
            exact j_iret rfl rfl hF
  · refine w_aload_n (pc2 := 6) rfl rfl rfl ?_
    refine w_getfield (pc2 := 9) rfl zk_cModel rfl rfl rfl ?_
    refine w_sipush (pc2 := 12) rfl rfl ?_
    refine w_iconst (pc2 := 13) rfl rfl ?_
    refine j_iastoreC (pc2 := 14) (n := 139) (j := 138) rfl rfl (by omega) (by decide) (by decide) (by decide) (by decide) rfl hF (fun s18 hF => ?_)
    refine w_iconst (pc2 := 15) rfl rfl ?_
    exact j_iret rfl rfl hF
noncomputable def f_Model_areNotesSo_B2 (p1 : Int32) (a2 : Int32) (s3 : ZS) (g4 : Int32 → ZS → Option (Int32 × ZS)) : Option (Int32 × ZS) := zgi (s3.1 226 138) (fun (v5 : Int32) => (if ((3 : Int32) * v5) ≤ a2 then zbl (1 : Int32) s3 else zrd 139 (((108 : Int32) + a2)) (s3.1 226) (fun (v6 : Int32) => zj0 (fun (s7 : ZS) => g4 (a2 + (3 : Int32)) s7) (fun (k8 : ZS → Option (Int32 × ZS)) => (if ¬ v6 = p1 then k8 s3 else zrd 139 ((((108 : Int32) + a2) + (1 : Int32))) (s3.1 226) (fun (v9 : Int32) => zcl (f_Model_bandOf v9 s3) (fun (v11 : Int32) (s10 : ZS) => zrd 139 ((((108 : Int32) + a2) + (2 : Int32))) (s10.1 226) (fun (v12 : Int32) => (if v11 = v12 then k8 s10 else zbl (0 : Int32) s10)))))))))
noncomputable def f_Model_areNotesSo (p1 : Int32) (s0 : ZS) : Option (Int32 × ZS) := zlp zN (f_Model_areNotesSo_B2 p1) (0 : Int32) s0
set_option maxHeartbeats 4000000 in
set_option maxRecDepth 100000 in
theorem ok_Model_areNotesSo {L : Nat} {xs : Nat → Int32} {b : ZH} {p1 : Int32} {s0 : ZS} {w : Int32 × ZS} (hF : f_Model_areNotesSo p1 s0 = some w) : zz_ct zt_ms zt_nm zt_df (zt_X L xs) 1 zt_m245 [.ref 216, .int p1] (zk b s0) (qI b w) := by
  unfold f_Model_areNotesSo at hF
  change zz_wp zt_ms zt_nm zt_df (zt_X L xs) 1 zt_m245 0 [(0, .ref 216), (1, .int p1)] [] (zk b s0) (qI b w)
  refine w_iconst (pc2 := 1) rfl rfl ?_
  refine w_istore_n (pc2 := 2) (ls2 := [(2, .int (0 : Int32)), (0, .ref 216), (1, .int p1)]) rfl rfl rfl ?_
  refine j_norm (l := [(0, .ref 216), (1, .int p1), (2, .int (0 : Int32))]) ⟨rfl, rfl, rfl, trivial⟩ (zz_nd_of (ks := [0, 1, 2]) rfl (by decide)) ?_
  refine j_loop (P := fun (a2 : Int32) (s3 : ZS) => zz_wp zt_ms zt_nm zt_df (zt_X L xs) 1 zt_m245 2 [(0, .ref 216), (1, .int p1), (2, .int a2)] [] (zk b s3) (qI b w)) hF (fun a2 s3 g4 hg4 hF => ?_)
  unfold f_Model_areNotesSo_B2 at hF
  refine w_iload_n (pc2 := 3) rfl rfl rfl ?_
  refine w_iconst (pc2 := 4) rfl rfl ?_
  refine w_aload_n (pc2 := 5) rfl rfl rfl ?_
  refine w_getfield (pc2 := 8) rfl zk_cModel rfl rfl rfl ?_
  refine w_sipush (pc2 := 11) rfl rfl ?_
  refine j_ialoadC (pc2 := 12) (n := 139) (j := 138) rfl rfl (by omega) (by decide) (by decide) (by decide) (by decide) rfl hF (fun v5 hF => ?_)
  refine w_imul (pc2 := 13) rfl rfl ?_
  refine j_icmp_ge (pc2 := 16) rfl rfl hF (fun hF => ?_) (fun hF => ?_)
  · refine w_iconst (pc2 := 67) rfl rfl ?_
    exact j_zret rfl rfl hF
  · refine w_aload_n (pc2 := 17) rfl rfl rfl ?_
    refine w_getfield (pc2 := 20) rfl zk_cModel rfl rfl rfl ?_
    refine w_bipush (pc2 := 22) rfl rfl ?_
    refine w_iload_n (pc2 := 23) rfl rfl rfl ?_
    refine w_iadd (pc2 := 24) rfl rfl ?_
    refine j_iaload (pc2 := 25) (n := 139) rfl rfl (by omega) (by decide) rfl hF (fun v6 hF => ?_)
    refine w_iload_n (pc2 := 26) rfl rfl rfl ?_
    refine j_join0 (P := fun (s7 : ZS) => zz_wp zt_ms zt_nm zt_df (zt_X L xs) 1 zt_m245 60 [(0, .ref 216), (1, .int p1), (2, .int a2)] [] (zk b s7) (qI b w)) hF (fun s7 hF => ?_) (fun k8 hk8 hF => ?_)
    · refine w_iinc (pc2 := 63) (ls2 := [(2, .int ((a2 + (3 : Int32)))), (0, .ref 216), (1, .int p1)]) rfl rfl rfl rfl ?_
      refine w_goto rfl ?_
      exact j_norm (l := [(0, .ref 216), (1, .int p1), (2, .int ((a2 + (3 : Int32))))]) ⟨rfl, rfl, rfl, trivial⟩ (zz_nd_of (ks := [0, 1, 2]) rfl (by decide)) (hg4 (a2 + (3 : Int32)) s7 hF)
    · refine j_icmp_ne (pc2 := 29) rfl rfl hF (fun hF => ?_) (fun hF => ?_)
      · exact j_norm (l := [(0, .ref 216), (1, .int p1), (2, .int a2)]) ⟨rfl, rfl, rfl, trivial⟩ (zz_nd_of (ks := [0, 1, 2]) rfl (by decide)) (hk8 s3 hF)
      · refine w_aload_n (pc2 := 30) rfl rfl rfl ?_
        refine w_aload_n (pc2 := 31) rfl rfl rfl ?_
        refine w_getfield (pc2 := 34) rfl zk_cModel rfl rfl rfl ?_
        refine w_bipush (pc2 := 36) rfl rfl ?_
        refine w_iload_n (pc2 := 37) rfl rfl rfl ?_
        refine w_iadd (pc2 := 38) rfl rfl ?_
        refine w_iconst (pc2 := 39) rfl rfl ?_
        refine w_iadd (pc2 := 40) rfl rfl ?_
        refine j_iaload (pc2 := 41) (n := 139) rfl rfl (by omega) (by decide) rfl hF (fun v9 hF => ?_)
        refine j_cIv (pc2 := 44) (k := 0) (c := zt_m188) (as := [.ref 216, .int v9]) (rest := []) rfl rfl rfl rfl zk_cModel.look rfl (Nat.le_of_ble_eq_true rfl) (Nat.le_of_ble_eq_true rfl) (fun w1 h1 => ok_Model_bandOf h1) (by decide) rfl hF (fun v11 s10 hF => ?_)
        refine w_aload_n (pc2 := 45) rfl rfl rfl ?_
        refine w_getfield (pc2 := 48) rfl zk_cModel rfl rfl rfl ?_
        refine w_bipush (pc2 := 50) rfl rfl ?_
        refine w_iload_n (pc2 := 51) rfl rfl rfl ?_
        refine w_iadd (pc2 := 52) rfl rfl ?_
        refine w_iconst (pc2 := 53) rfl rfl ?_
        refine w_iadd (pc2 := 54) rfl rfl ?_
        refine j_iaload (pc2 := 55) (n := 139) rfl rfl (by omega) (by decide) rfl hF (fun v12 hF => ?_)
        refine j_icmp_eq (pc2 := 58) rfl rfl hF (fun hF => ?_) (fun hF => ?_)
        · exact j_norm (l := [(0, .ref 216), (1, .int p1), (2, .int a2)]) ⟨rfl, rfl, rfl, trivial⟩ (zz_nd_of (ks := [0, 1, 2]) rfl (by decide)) (hk8 s10 hF)
        · refine w_iconst (pc2 := 59) rfl rfl ?_
          exact j_zret rfl rfl hF
noncomputable def f_Model_fillsFits_B72 (p1 : Int32) (a8 : Int32) (a18 : Int32 × Int32) (k27 : ZS → Option (ZS)) (a28 : Int32) (s29 : ZS) (g30 : Int32 → ZS → Option (ZS)) : Option (ZS) := (if (5 : Int32) ≤ a28 then k27 s29 else (if ¬ a18.2 = p1 then k27 s29 else zcl (f_Model_bandOf a28 s29) (fun (v32 : Int32) (s31 : ZS) => zwa s31 236 35 ((((5 : Int32) * a8) + a28)) v32 (fun (s33 : ZS) => g30 (a28 + (1 : Int32)) s33))))
noncomputable def f_Model_fillsFits_B36 (p1 : Int32) (a8 : Int32) (k16 : Int32 → ZS → Option (ZS)) (a18 : Int32 × Int32) (s19 : ZS) (g20 : (Int32 × Int32) → ZS → Option (ZS)) : Option (ZS) := (if (60 : Int32) < a18.2 then k16 a18.1 s19 else zcl (f_Model_passes s19) (fun (v22 : Int32) (s21 : ZS) => zjn (A := Int32) (fun (a24 : Int32) (s23 : ZS) => zj0 (fun (s26 : ZS) => g20 (a24, (a18.2 + (1 : Int32))) s26) (fun (k27 : ZS → Option (ZS)) => zlp zN (f_Model_fillsFits_B72 p1 a8 a18 k27) (0 : Int32) s23)) (fun (k25 : Int32 → ZS → Option (ZS)) => zj0 (fun (s34 : ZS) => k25 (0 : Int32) s34) (fun (k35 : ZS → Option (ZS)) => (if a18.1 = 0 then k35 s21 else zcl (f_Model_areNotesSo a18.2 s21) (fun (v37 : Int32) (s36 : ZS) => (if v37 = 0 then k35 s36 else k25 (1 : Int32) s36)))))))
noncomputable def f_Model_fillsFits_B11 (p1 : Int32) (k5 : ZS → Option (ZS)) (a8 : Int32) (s9 : ZS) (g10 : Int32 → ZS → Option (ZS)) : Option (ZS) := zgi (s9.1 216 2) (fun (v11 : Int32) => (if v11 < a8 then k5 s9 else zwi s9 216 21 ((a8 - (1 : Int32))) (fun (s12 : ZS) => zcv (f_Model_begins s12) (fun (s13 : ZS) => zjn (A := Int32) (fun (a15 : Int32) (s14 : ZS) => zwa s14 235 7 a8 (vp_nar .boolean a15) (fun (s17 : ZS) => g10 (a8 + (1 : Int32)) s17)) (fun (k16 : Int32 → ZS → Option (ZS)) => zlp zN (f_Model_fillsFits_B36 p1 a8 k16) ((1 : Int32), (0 : Int32)) s13)))))
noncomputable def f_Model_fillsFits (p1 : Int32) (s0 : ZS) : Option (ZS) := zgi (s0.1 216 21) (fun (v2 : Int32) => zcv (f_Model_keeps s0) (fun (s3 : ZS) => zj0 (fun (s4 : ZS) => zwi s4 216 21 v2 (fun (s6 : ZS) => zcv (f_Model_laysBack s6) (fun (s7 : ZS) => some s7))) (fun (k5 : ZS → Option (ZS)) => zlp zN (f_Model_fillsFits_B11 p1 k5) (0 : Int32) s3)))
set_option maxHeartbeats 4000000 in
set_option maxRecDepth 100000 in
theorem ok_Model_fillsFits {L : Nat} {xs : Nat → Int32} {b : ZH} {p1 : Int32} {s0 : ZS} {w : ZS} (hF : f_Model_fillsFits p1 s0 = some w) : zz_ct zt_ms zt_nm zt_df (zt_X L xs) 6 zt_m244 [.ref 216, .int p1] (zk b s0) (qV b w) := by
  unfold f_Model_fillsFits at hF
  change zz_wp zt_ms zt_nm zt_df (zt_X L xs) 6 zt_m244 0 [(0, .ref 216), (1, .int p1)] [] (zk b s0) (qV b w)
  refine w_aload_n (pc2 := 1) rfl rfl rfl ?_
  refine j_geti (pc2 := 4) rfl zk_cModel rfl rfl rfl hF (fun v2 hF => ?_)
  refine w_istore_n (pc2 := 5) (ls2 := [(2, .int v2), (0, .ref 216), (1, .int p1)]) rfl rfl rfl ?_
  refine w_aload_n (pc2 := 6) rfl rfl rfl ?_
  refine j_cVv (pc2 := 9) (k := 0) (c := zt_m218) (as := [.ref 216]) (rest := []) rfl rfl rfl rfl zk_cModel.look rfl (Nat.le_of_ble_eq_true rfl) (Nat.le_of_ble_eq_true rfl) (fun w1 h1 => ok_Model_keeps h1) (by decide) rfl hF (fun s3 hF => ?_)
  refine w_iconst (pc2 := 10) rfl rfl ?_
  refine w_istore_n (pc2 := 11) (ls2 := [(3, .int (0 : Int32)), (2, .int v2), (0, .ref 216), (1, .int p1)]) rfl rfl rfl ?_
  refine j_join0 (P := fun (s4 : ZS) => zz_wp zt_ms zt_nm zt_df (zt_X L xs) 6 zt_m244 127 [(0, .ref 216), (2, .int v2)] [] (zk b s4) (qV b w)) hF (fun s4 hF => ?_) (fun k5 hk5 hF => ?_)
  · refine w_aload_n (pc2 := 128) rfl rfl rfl ?_
    refine w_iload_n (pc2 := 129) rfl rfl rfl ?_
    refine j_puti (pc2 := 132) (j := 21) rfl zk_cModel rfl (Nat.le_of_ble_eq_true rfl) rfl zk_wModel_21 (by decide) rfl hF (fun s6 hF => ?_)
    refine w_aload_n (pc2 := 133) rfl rfl rfl ?_
    refine j_cVv (pc2 := 136) (k := 0) (c := zt_m219) (as := [.ref 216]) (rest := []) rfl rfl rfl rfl zk_cModel.look rfl (Nat.le_of_ble_eq_true rfl) (Nat.le_of_ble_eq_true rfl) (fun w1 h1 => ok_Model_laysBack h1) (by decide) rfl hF (fun s7 hF => ?_)
    exact j_vret rfl rfl hF
  · refine j_norm (l := [(0, .ref 216), (1, .int p1), (2, .int v2), (3, .int (0 : Int32))]) ⟨rfl, rfl, rfl, rfl, trivial⟩ (zz_nd_of (ks := [0, 1, 2, 3]) rfl (by decide)) ?_
    refine j_loop (P := fun (a8 : Int32) (s9 : ZS) => zz_wp zt_ms zt_nm zt_df (zt_X L xs) 6 zt_m244 11 [(0, .ref 216), (1, .int p1), (2, .int v2), (3, .int a8)] [] (zk b s9) (qV b w)) hF (fun a8 s9 g10 hg10 hF => ?_)
    unfold f_Model_fillsFits_B11 at hF
    refine w_iload_n (pc2 := 12) rfl rfl rfl ?_
    refine w_aload_n (pc2 := 13) rfl rfl rfl ?_
    refine j_geti (pc2 := 16) rfl zk_cModel rfl rfl rfl hF (fun v11 hF => ?_)
    refine j_icmp_gt (pc2 := 19) rfl rfl hF (fun hF => ?_) (fun hF => ?_)
    · exact j_norm (l := [(0, .ref 216), (2, .int v2)]) ⟨rfl, rfl, trivial⟩ (zz_nd_of (ks := [0, 2]) rfl (by decide)) (hk5 s9 hF)
    · refine w_aload_n (pc2 := 20) rfl rfl rfl ?_
      refine w_iload_n (pc2 := 21) rfl rfl rfl ?_
      refine w_iconst (pc2 := 22) rfl rfl ?_
      refine w_isub (pc2 := 23) rfl rfl ?_
      refine j_puti (pc2 := 26) (j := 21) rfl zk_cModel rfl (Nat.le_of_ble_eq_true rfl) rfl zk_wModel_21 (by decide) rfl hF (fun s12 hF => ?_)
      refine w_aload_n (pc2 := 27) rfl rfl rfl ?_
      refine j_cVv (pc2 := 30) (k := 0) (c := zt_m182) (as := [.ref 216]) (rest := []) rfl rfl rfl rfl zk_cModel.look rfl (Nat.le_of_ble_eq_true rfl) (Nat.le_of_ble_eq_true rfl) (fun w1 h1 => ok_Model_begins h1) (by decide) rfl hF (fun s13 hF => ?_)
      refine w_iconst (pc2 := 31) rfl rfl ?_
      refine w_istore (pc2 := 33) (ls2 := [(4, .int (1 : Int32)), (0, .ref 216), (1, .int p1), (2, .int v2), (3, .int a8)]) rfl rfl rfl ?_
      refine w_iconst (pc2 := 34) rfl rfl ?_
      refine w_istore (pc2 := 36) (ls2 := [(5, .int (0 : Int32)), (4, .int (1 : Int32)), (0, .ref 216), (1, .int p1), (2, .int v2), (3, .int a8)]) rfl rfl rfl ?_
      refine j_join (P := fun (a15 : Int32) (s14 : ZS) => zz_wp zt_ms zt_nm zt_df (zt_X L xs) 6 zt_m244 113 [(0, .ref 216), (1, .int p1), (2, .int v2), (3, .int a8), (4, .int a15)] [] (zk b s14) (qV b w)) hF (fun a15 s14 hF => ?_) (fun k16 hk16 hF => ?_)
      · refine w_aload_n (pc2 := 114) rfl rfl rfl ?_
        refine w_getfield (pc2 := 117) rfl zk_cModel rfl rfl rfl ?_
        refine w_iload_n (pc2 := 118) rfl rfl rfl ?_
        refine w_iload (pc2 := 120) rfl rfl rfl ?_
        refine j_zastore (pc2 := 121) (n := 7) rfl rfl (by omega) (by decide) rfl hF (fun s17 hF => ?_)
        refine w_iinc (pc2 := 124) (ls2 := [(3, .int ((a8 + (1 : Int32)))), (0, .ref 216), (1, .int p1), (2, .int v2), (4, .int a15)]) rfl rfl rfl rfl ?_
        refine w_goto rfl ?_
        exact j_norm (l := [(0, .ref 216), (1, .int p1), (2, .int v2), (3, .int ((a8 + (1 : Int32))))]) ⟨rfl, rfl, rfl, rfl, trivial⟩ (zz_nd_of (ks := [0, 1, 2, 3]) rfl (by decide)) (hg10 (a8 + (1 : Int32)) s17 hF)
      · refine j_norm (l := [(0, .ref 216), (1, .int p1), (2, .int v2), (3, .int a8), (4, .int (1 : Int32)), (5, .int (0 : Int32))]) ⟨rfl, rfl, rfl, rfl, rfl, rfl, trivial⟩ (zz_nd_of (ks := [0, 1, 2, 3, 4, 5]) rfl (by decide)) ?_
        refine j_loop (P := fun (a18 : Int32 × Int32) (s19 : ZS) => zz_wp zt_ms zt_nm zt_df (zt_X L xs) 6 zt_m244 36 [(0, .ref 216), (1, .int p1), (2, .int v2), (3, .int a8), (4, .int a18.1), (5, .int a18.2)] [] (zk b s19) (qV b w)) hF (fun a18 s19 g20 hg20 hF => ?_)
        unfold f_Model_fillsFits_B36 at hF
        refine w_iload (pc2 := 38) rfl rfl rfl ?_
        refine w_bipush (pc2 := 40) rfl rfl ?_
        refine j_icmp_gt (pc2 := 43) rfl rfl hF (fun hF => ?_) (fun hF => ?_)
        · exact j_norm (l := [(0, .ref 216), (1, .int p1), (2, .int v2), (3, .int a8), (4, .int a18.1)]) ⟨rfl, rfl, rfl, rfl, rfl, trivial⟩ (zz_nd_of (ks := [0, 1, 2, 3, 4]) rfl (by decide)) (hk16 a18.1 s19 hF)
        · refine w_aload_n (pc2 := 44) rfl rfl rfl ?_
          refine j_cIv (pc2 := 47) (k := 5) (c := zt_m196) (as := [.ref 216]) (rest := []) rfl rfl rfl rfl zk_cModel.look rfl (Nat.le_of_ble_eq_true rfl) (Nat.le_of_ble_eq_true rfl) (fun w1 h1 => ok_Model_passes h1) (by decide) rfl hF (fun v22 s21 hF => ?_)
          refine w_pop (pc2 := 48) rfl rfl rfl ?_
          refine w_iload (pc2 := 50) rfl rfl rfl ?_
          refine j_join (P := fun (a24 : Int32) (s23 : ZS) => zz_wp zt_ms zt_nm zt_df (zt_X L xs) 6 zt_m244 67 [(0, .ref 216), (1, .int p1), (2, .int v2), (3, .int a8), (5, .int a18.2)] [.int a24] (zk b s23) (qV b w)) hF (fun a24 s23 hF => ?_) (fun k25 hk25 hF => ?_)
          · refine w_istore (pc2 := 69) (ls2 := [(4, .int a24), (0, .ref 216), (1, .int p1), (2, .int v2), (3, .int a8), (5, .int a18.2)]) rfl rfl rfl ?_
            refine w_iconst (pc2 := 70) rfl rfl ?_
            refine w_istore (pc2 := 72) (ls2 := [(6, .int (0 : Int32)), (4, .int a24), (0, .ref 216), (1, .int p1), (2, .int v2), (3, .int a8), (5, .int a18.2)]) rfl rfl rfl ?_
            refine j_join0 (P := fun (s26 : ZS) => zz_wp zt_ms zt_nm zt_df (zt_X L xs) 6 zt_m244 107 [(0, .ref 216), (1, .int p1), (2, .int v2), (3, .int a8), (4, .int a24), (5, .int a18.2)] [] (zk b s26) (qV b w)) hF (fun s26 hF => ?_) (fun k27 hk27 hF => ?_)
            · refine w_iinc (pc2 := 110) (ls2 := [(5, .int ((a18.2 + (1 : Int32)))), (0, .ref 216), (1, .int p1), (2, .int v2), (3, .int a8), (4, .int a24)]) rfl rfl rfl rfl ?_
              refine w_goto rfl ?_
              exact j_norm (l := [(0, .ref 216), (1, .int p1), (2, .int v2), (3, .int a8), (4, .int a24), (5, .int ((a18.2 + (1 : Int32))))]) ⟨rfl, rfl, rfl, rfl, rfl, rfl, trivial⟩ (zz_nd_of (ks := [0, 1, 2, 3, 4, 5]) rfl (by decide)) (hg20 (a24, (a18.2 + (1 : Int32))) s26 hF)
            · refine j_norm (l := [(0, .ref 216), (1, .int p1), (2, .int v2), (3, .int a8), (4, .int a24), (5, .int a18.2), (6, .int (0 : Int32))]) ⟨rfl, rfl, rfl, rfl, rfl, rfl, rfl, trivial⟩ (zz_nd_of (ks := [0, 1, 2, 3, 4, 5, 6]) rfl (by decide)) ?_
              refine j_loop (P := fun (a28 : Int32) (s29 : ZS) => zz_wp zt_ms zt_nm zt_df (zt_X L xs) 6 zt_m244 72 [(0, .ref 216), (1, .int p1), (2, .int v2), (3, .int a8), (4, .int a24), (5, .int a18.2), (6, .int a28)] [] (zk b s29) (qV b w)) hF (fun a28 s29 g30 hg30 hF => ?_)
              unfold f_Model_fillsFits_B72 at hF
              refine w_iload (pc2 := 74) rfl rfl rfl ?_
              refine w_iconst (pc2 := 75) rfl rfl ?_
              refine j_icmp_ge (pc2 := 78) rfl rfl hF (fun hF => ?_) (fun hF => ?_)
              · exact j_norm (l := [(0, .ref 216), (1, .int p1), (2, .int v2), (3, .int a8), (4, .int a24), (5, .int a18.2)]) ⟨rfl, rfl, rfl, rfl, rfl, rfl, trivial⟩ (zz_nd_of (ks := [0, 1, 2, 3, 4, 5]) rfl (by decide)) (hk27 s29 hF)
              · refine w_iload (pc2 := 80) rfl rfl rfl ?_
                refine w_iload_n (pc2 := 81) rfl rfl rfl ?_
                refine j_icmp_ne (pc2 := 84) rfl rfl hF (fun hF => ?_) (fun hF => ?_)
                · exact j_norm (l := [(0, .ref 216), (1, .int p1), (2, .int v2), (3, .int a8), (4, .int a24), (5, .int a18.2)]) ⟨rfl, rfl, rfl, rfl, rfl, rfl, trivial⟩ (zz_nd_of (ks := [0, 1, 2, 3, 4, 5]) rfl (by decide)) (hk27 s29 hF)
                · refine w_aload_n (pc2 := 85) rfl rfl rfl ?_
                  refine w_getfield (pc2 := 88) rfl zk_cModel rfl rfl rfl ?_
                  refine w_iconst (pc2 := 89) rfl rfl ?_
                  refine w_iload_n (pc2 := 90) rfl rfl rfl ?_
                  refine w_imul (pc2 := 91) rfl rfl ?_
                  refine w_iload (pc2 := 93) rfl rfl rfl ?_
                  refine w_iadd (pc2 := 94) rfl rfl ?_
                  refine w_aload_n (pc2 := 95) rfl rfl rfl ?_
                  refine w_iload (pc2 := 97) rfl rfl rfl ?_
                  refine j_cIv (pc2 := 100) (k := 0) (c := zt_m188) (as := [.ref 216, .int a28]) (rest := [.int ((((5 : Int32) * a8) + a28)), .ref 236]) rfl rfl rfl rfl zk_cModel.look rfl (Nat.le_of_ble_eq_true rfl) (Nat.le_of_ble_eq_true rfl) (fun w1 h1 => ok_Model_bandOf h1) (by decide) rfl hF (fun v32 s31 hF => ?_)
                  refine j_iastore (pc2 := 101) (n := 35) rfl rfl (by omega) (by decide) rfl hF (fun s33 hF => ?_)
                  refine w_iinc (pc2 := 104) (ls2 := [(6, .int ((a28 + (1 : Int32)))), (0, .ref 216), (1, .int p1), (2, .int v2), (3, .int a8), (4, .int a24), (5, .int a18.2)]) rfl rfl rfl rfl ?_
                  refine w_goto rfl ?_
                  exact j_norm (l := [(0, .ref 216), (1, .int p1), (2, .int v2), (3, .int a8), (4, .int a24), (5, .int a18.2), (6, .int ((a28 + (1 : Int32))))]) ⟨rfl, rfl, rfl, rfl, rfl, rfl, rfl, trivial⟩ (zz_nd_of (ks := [0, 1, 2, 3, 4, 5, 6]) rfl (by decide)) (hg30 (a28 + (1 : Int32)) s33 hF)
          · refine j_join0 (P := fun (s34 : ZS) => zz_wp zt_ms zt_nm zt_df (zt_X L xs) 6 zt_m244 66 [(0, .ref 216), (1, .int p1), (2, .int v2), (3, .int a8), (5, .int a18.2)] [] (zk b s34) (qV b w)) hF (fun s34 hF => ?_) (fun k35 hk35 hF => ?_)
            · refine w_iconst (pc2 := 67) rfl rfl ?_
              exact j_norm (l := [(0, .ref 216), (1, .int p1), (2, .int v2), (3, .int a8), (5, .int a18.2)]) ⟨rfl, rfl, rfl, rfl, rfl, trivial⟩ (zz_nd_of (ks := [0, 1, 2, 3, 5]) rfl (by decide)) (hk25 (0 : Int32) s34 hF)
            · refine j_if_eq (pc2 := 53) rfl rfl hF (fun hF => ?_) (fun hF => ?_)
              · exact j_norm (l := [(0, .ref 216), (1, .int p1), (2, .int v2), (3, .int a8), (5, .int a18.2)]) ⟨rfl, rfl, rfl, rfl, rfl, trivial⟩ (zz_nd_of (ks := [0, 1, 2, 3, 5]) rfl (by decide)) (hk35 s21 hF)
              · refine w_aload_n (pc2 := 54) rfl rfl rfl ?_
                refine w_iload (pc2 := 56) rfl rfl rfl ?_
                refine j_cIv (pc2 := 59) (k := 1) (c := zt_m245) (as := [.ref 216, .int a18.2]) (rest := []) rfl rfl rfl rfl zk_cModel.look rfl (Nat.le_of_ble_eq_true rfl) (Nat.le_of_ble_eq_true rfl) (fun w1 h1 => ok_Model_areNotesSo h1) (by decide) rfl hF (fun v37 s36 hF => ?_)
                refine j_if_eq (pc2 := 62) rfl rfl hF (fun hF => ?_) (fun hF => ?_)
                · exact j_norm (l := [(0, .ref 216), (1, .int p1), (2, .int v2), (3, .int a8), (5, .int a18.2)]) ⟨rfl, rfl, rfl, rfl, rfl, trivial⟩ (zz_nd_of (ks := [0, 1, 2, 3, 5]) rfl (by decide)) (hk35 s36 hF)
                · refine w_iconst (pc2 := 63) rfl rfl ?_
                  refine w_goto rfl ?_
                  exact j_norm (l := [(0, .ref 216), (1, .int p1), (2, .int v2), (3, .int a8), (5, .int a18.2)]) ⟨rfl, rfl, rfl, rfl, rfl, trivial⟩ (zz_nd_of (ks := [0, 1, 2, 3, 5]) rfl (by decide)) (hk25 (1 : Int32) s36 hF)
noncomputable def f_Model_ruled_B36 (k10 : (Int32 × Int32) → ZS → Option (Int32 × ZS)) (a11 : Int32 × Int32 × Int32) (s12 : ZS) (g13 : (Int32 × Int32 × Int32) → ZS → Option (Int32 × ZS)) : Option (Int32 × ZS) := (if a11.2.2 < 0 then k10 (a11.1, a11.2.1) s12 else zrd 7 a11.2.2 (s12.1 235) (fun (v14 : Int32) => zjn (A := Int32 × Int32) (fun (a16 : Int32 × Int32) (s15 : ZS) => g13 (a16.1, a16.2, (a11.2.2 + (-1 : Int32))) s15) (fun (k17 : (Int32 × Int32) → ZS → Option (Int32 × ZS)) => (if ¬ v14 = 0 then k17 ((a11.1 + (1 : Int32)), (a11.2.2 - (1 : Int32))) s12 else k17 (a11.1, a11.2.1) s12))))
noncomputable def f_Model_ruled (p1 : Int32) (s0 : ZS) : Option (Int32 × ZS) := zcl (f_Model_isSmithy s0) (fun (v3 : Int32) (s2 : ZS) => (if v3 = 0 then some ((-3 : Int32), s2) else zcl (f_Model_in (p1.toInt64) (0 : Int64) (1 : Int64) s2) (fun (v5 : Int32) (s4 : ZS) => (if ¬ v5 = 0 then zcv (f_Model_fillsFits (0 : Int32) s4) (fun (s6 : ZS) => zgi (s6.1 216 2) (fun (v7 : Int32) => zjn (A := Int32 × Int32) (fun (a9 : Int32 × Int32) (s8 : ZS) => (if ¬ p1 = 0 then some (a9.2, s8) else some (a9.1, s8))) (fun (k10 : (Int32 × Int32) → ZS → Option (Int32 × ZS)) => zlp zN (f_Model_ruled_B36 k10) ((0 : Int32), (-2 : Int32), v7) s6))) else some ((-3 : Int32), s4)))))
set_option maxHeartbeats 4000000 in
set_option maxRecDepth 100000 in
theorem ok_Model_ruled {L : Nat} {xs : Nat → Int32} {b : ZH} {p1 : Int32} {s0 : ZS} {w : Int32 × ZS} (hF : f_Model_ruled p1 s0 = some w) : zz_ct zt_ms zt_nm zt_df (zt_X L xs) 7 zt_m243 [.ref 216, .int p1] (zk b s0) (qI b w) := by
  unfold f_Model_ruled at hF
  change zz_wp zt_ms zt_nm zt_df (zt_X L xs) 7 zt_m243 0 [(0, .ref 216), (1, .int p1)] [] (zk b s0) (qI b w)
  refine w_aload_n (pc2 := 1) rfl rfl rfl ?_
  refine j_cIv (pc2 := 4) (k := 0) (c := zt_m194) (as := [.ref 216]) (rest := []) rfl rfl rfl rfl zk_cModel.look rfl (Nat.le_of_ble_eq_true rfl) (Nat.le_of_ble_eq_true rfl) (fun w1 h1 => ok_Model_isSmithy h1) (by decide) rfl hF (fun v3 s2 hF => ?_)
  refine j_if_eq (pc2 := 7) rfl rfl hF (fun hF => ?_) (fun hF => ?_)
  · refine w_bipush (pc2 := 19) rfl rfl ?_
    exact j_iret rfl rfl hF
  · refine w_iload_n (pc2 := 8) rfl rfl rfl ?_
    refine w_i2l (pc2 := 9) rfl rfl ?_
    refine w_lconst (pc2 := 10) rfl rfl ?_
    refine w_lconst (pc2 := 11) rfl rfl ?_
    refine j_cIs (pc2 := 14) (k := 0) (c := zt_m160) (as := [.long (p1.toInt64), .long (0 : Int64), .long (1 : Int64)]) (rest := []) rfl rfl rfl (Nat.le_of_ble_eq_true rfl) rfl rfl (Nat.le_of_ble_eq_true rfl) (Nat.le_of_ble_eq_true rfl) (fun w1 h1 => ok_Model_in h1) (by decide) rfl hF (fun v5 s4 hF => ?_)
    refine j_if_ne (pc2 := 17) rfl rfl hF (fun hF => ?_) (fun hF => ?_)
    · refine w_aload_n (pc2 := 21) rfl rfl rfl ?_
      refine w_iconst (pc2 := 22) rfl rfl ?_
      refine j_cVv (pc2 := 25) (k := 6) (c := zt_m244) (as := [.ref 216, .int (0 : Int32)]) (rest := []) rfl rfl rfl rfl zk_cModel.look rfl (Nat.le_of_ble_eq_true rfl) (Nat.le_of_ble_eq_true rfl) (fun w1 h1 => ok_Model_fillsFits h1) (by decide) rfl hF (fun s6 hF => ?_)
      refine w_iconst (pc2 := 26) rfl rfl ?_
      refine w_istore_n (pc2 := 27) (ls2 := [(2, .int (0 : Int32)), (0, .ref 216), (1, .int p1)]) rfl rfl rfl ?_
      refine w_bipush (pc2 := 29) rfl rfl ?_
      refine w_istore_n (pc2 := 30) (ls2 := [(3, .int (-2 : Int32)), (2, .int (0 : Int32)), (0, .ref 216), (1, .int p1)]) rfl rfl rfl ?_
      refine w_aload_n (pc2 := 31) rfl rfl rfl ?_
      refine j_geti (pc2 := 34) rfl zk_cModel rfl rfl rfl hF (fun v7 hF => ?_)
      refine w_istore (pc2 := 36) (ls2 := [(4, .int v7), (3, .int (-2 : Int32)), (2, .int (0 : Int32)), (0, .ref 216), (1, .int p1)]) rfl rfl rfl ?_
      refine j_join (P := fun (a9 : Int32 × Int32) (s8 : ZS) => zz_wp zt_ms zt_nm zt_df (zt_X L xs) 7 zt_m243 68 [(1, .int p1), (2, .int a9.1), (3, .int a9.2)] [] (zk b s8) (qI b w)) hF (fun a9 s8 hF => ?_) (fun k10 hk10 hF => ?_)
      · refine w_iload_n (pc2 := 69) rfl rfl rfl ?_
        refine j_if_ne (pc2 := 72) rfl rfl hF (fun hF => ?_) (fun hF => ?_)
        · refine w_iload_n (pc2 := 77) rfl rfl rfl ?_
          exact j_iret rfl rfl hF
        · refine w_iload_n (pc2 := 73) rfl rfl rfl ?_
          refine w_goto rfl ?_
          exact j_iret rfl rfl hF
      · refine j_norm (l := [(0, .ref 216), (1, .int p1), (2, .int (0 : Int32)), (3, .int (-2 : Int32)), (4, .int v7)]) ⟨rfl, rfl, rfl, rfl, rfl, trivial⟩ (zz_nd_of (ks := [0, 1, 2, 3, 4]) rfl (by decide)) ?_
        refine j_loop (P := fun (a11 : Int32 × Int32 × Int32) (s12 : ZS) => zz_wp zt_ms zt_nm zt_df (zt_X L xs) 7 zt_m243 36 [(0, .ref 216), (1, .int p1), (2, .int a11.1), (3, .int a11.2.1), (4, .int a11.2.2)] [] (zk b s12) (qI b w)) hF (fun a11 s12 g13 hg13 hF => ?_)
        unfold f_Model_ruled_B36 at hF
        refine w_iload (pc2 := 38) rfl rfl rfl ?_
        refine j_if_lt (pc2 := 41) rfl rfl hF (fun hF => ?_) (fun hF => ?_)
        · exact j_norm (l := [(1, .int p1), (2, .int a11.1), (3, .int a11.2.1)]) ⟨rfl, rfl, rfl, trivial⟩ (zz_nd_of (ks := [1, 2, 3]) rfl (by decide)) (hk10 (a11.1, a11.2.1) s12 hF)
        · refine w_aload_n (pc2 := 42) rfl rfl rfl ?_
          refine w_getfield (pc2 := 45) rfl zk_cModel rfl rfl rfl ?_
          refine w_iload (pc2 := 47) rfl rfl rfl ?_
          refine j_zaload (pc2 := 48) (n := 7) rfl rfl (by omega) (by decide) rfl hF (fun v14 hF => ?_)
          refine j_join (P := fun (a16 : Int32 × Int32) (s15 : ZS) => zz_wp zt_ms zt_nm zt_df (zt_X L xs) 7 zt_m243 62 [(0, .ref 216), (1, .int p1), (2, .int a16.1), (3, .int a16.2), (4, .int a11.2.2)] [] (zk b s15) (qI b w)) hF (fun a16 s15 hF => ?_) (fun k17 hk17 hF => ?_)
          · refine w_iinc (pc2 := 65) (ls2 := [(4, .int ((a11.2.2 + (-1 : Int32)))), (0, .ref 216), (1, .int p1), (2, .int a16.1), (3, .int a16.2)]) rfl rfl rfl rfl ?_
            refine w_goto rfl ?_
            exact j_norm (l := [(0, .ref 216), (1, .int p1), (2, .int a16.1), (3, .int a16.2), (4, .int ((a11.2.2 + (-1 : Int32))))]) ⟨rfl, rfl, rfl, rfl, rfl, trivial⟩ (zz_nd_of (ks := [0, 1, 2, 3, 4]) rfl (by decide)) (hg13 (a16.1, a16.2, (a11.2.2 + (-1 : Int32))) s15 hF)
          · refine j_if_ne (pc2 := 51) rfl rfl hF (fun hF => ?_) (fun hF => ?_)
            · refine w_iload (pc2 := 56) rfl rfl rfl ?_
              refine w_iconst (pc2 := 57) rfl rfl ?_
              refine w_isub (pc2 := 58) rfl rfl ?_
              refine w_istore_n (pc2 := 59) (ls2 := [(3, .int ((a11.2.2 - (1 : Int32)))), (0, .ref 216), (1, .int p1), (2, .int a11.1), (4, .int a11.2.2)]) rfl rfl rfl ?_
              refine w_iinc (pc2 := 62) (ls2 := [(2, .int ((a11.1 + (1 : Int32)))), (3, .int ((a11.2.2 - (1 : Int32)))), (0, .ref 216), (1, .int p1), (4, .int a11.2.2)]) rfl rfl rfl rfl ?_
              exact j_norm (l := [(0, .ref 216), (1, .int p1), (2, .int ((a11.1 + (1 : Int32)))), (3, .int ((a11.2.2 - (1 : Int32)))), (4, .int a11.2.2)]) ⟨rfl, rfl, rfl, rfl, rfl, trivial⟩ (zz_nd_of (ks := [0, 1, 2, 3, 4]) rfl (by decide)) (hk17 ((a11.1 + (1 : Int32)), (a11.2.2 - (1 : Int32))) s12 hF)
            · refine w_goto rfl ?_
              exact j_norm (l := [(0, .ref 216), (1, .int p1), (2, .int a11.1), (3, .int a11.2.1), (4, .int a11.2.2)]) ⟨rfl, rfl, rfl, rfl, rfl, trivial⟩ (zz_nd_of (ks := [0, 1, 2, 3, 4]) rfl (by decide)) (hk17 (a11.1, a11.2.1) s12 hF)
    · refine w_bipush (pc2 := 19) rfl rfl ?_
      exact j_iret rfl rfl hF
noncomputable def f_Model_alikeAt_B18 (p1 : Int32) (a2 : Int32 × Int32) (k8 : Int32 → ZS → Option (Int32 × ZS)) (a12 : Int32 × Int32) (s13 : ZS) (g14 : (Int32 × Int32) → ZS → Option (Int32 × ZS)) : Option (Int32 × ZS) := zgi (s13.1 216 2) (fun (v15 : Int32) => (if v15 < a12.2 then k8 a12.1 s13 else zrd 7 a2.2 (s13.1 235) (fun (v16 : Int32) => (if v16 = 0 then k8 a12.1 s13 else zrd 7 a12.2 (s13.1 235) (fun (v17 : Int32) => zjn (A := Int32) (fun (a19 : Int32) (s18 : ZS) => g14 ((a12.1 + a19), (a12.2 + (1 : Int32))) s18) (fun (k20 : Int32 → ZS → Option (Int32 × ZS)) => zj0 (fun (s21 : ZS) => k20 (0 : Int32) s21) (fun (k22 : ZS → Option (Int32 × ZS)) => (if v17 = 0 then k22 s13 else zrd 35 ((((5 : Int32) * a2.2) + p1)) (s13.1 236) (fun (v23 : Int32) => zrd 35 ((((5 : Int32) * a12.2) + p1)) (s13.1 236) (fun (v24 : Int32) => (if ¬ v23 = v24 then k22 s13 else k20 (1 : Int32) s13)))))))))))
noncomputable def f_Model_alikeAt_B4 (p1 : Int32) (a2 : Int32 × Int32) (s3 : ZS) (g4 : (Int32 × Int32) → ZS → Option (Int32 × ZS)) : Option (Int32 × ZS) := zgi (s3.1 216 2) (fun (v5 : Int32) => (if v5 < a2.2 then some (a2.1, s3) else zjn (A := Int32) (fun (a7 : Int32) (s6 : ZS) => zjn (A := Int32) (fun (a10 : Int32) (s9 : ZS) => g4 (a10, (a2.2 + (1 : Int32))) s9) (fun (k11 : Int32 → ZS → Option (Int32 × ZS)) => (if a7 ≤ a2.1 then k11 a2.1 s6 else k11 a7 s6))) (fun (k8 : Int32 → ZS → Option (Int32 × ZS)) => zlp zN (f_Model_alikeAt_B18 p1 a2 k8) ((0 : Int32), (0 : Int32)) s3)))
noncomputable def f_Model_alikeAt (p1 : Int32) (s0 : ZS) : Option (Int32 × ZS) := zlp zN (f_Model_alikeAt_B4 p1) ((0 : Int32), (0 : Int32)) s0
set_option maxHeartbeats 4000000 in
set_option maxRecDepth 100000 in
theorem ok_Model_alikeAt {L : Nat} {xs : Nat → Int32} {b : ZH} {p1 : Int32} {s0 : ZS} {w : Int32 × ZS} (hF : f_Model_alikeAt p1 s0 = some w) : zz_ct zt_ms zt_nm zt_df (zt_X L xs) 0 zt_m247 [.ref 216, .int p1] (zk b s0) (qI b w) := by
  unfold f_Model_alikeAt at hF
  change zz_wp zt_ms zt_nm zt_df (zt_X L xs) 0 zt_m247 0 [(0, .ref 216), (1, .int p1)] [] (zk b s0) (qI b w)
  refine w_iconst (pc2 := 1) rfl rfl ?_
  refine w_istore_n (pc2 := 2) (ls2 := [(2, .int (0 : Int32)), (0, .ref 216), (1, .int p1)]) rfl rfl rfl ?_
  refine w_iconst (pc2 := 3) rfl rfl ?_
  refine w_istore_n (pc2 := 4) (ls2 := [(3, .int (0 : Int32)), (2, .int (0 : Int32)), (0, .ref 216), (1, .int p1)]) rfl rfl rfl ?_
  refine j_norm (l := [(0, .ref 216), (1, .int p1), (2, .int (0 : Int32)), (3, .int (0 : Int32))]) ⟨rfl, rfl, rfl, rfl, trivial⟩ (zz_nd_of (ks := [0, 1, 2, 3]) rfl (by decide)) ?_
  refine j_loop (P := fun (a2 : Int32 × Int32) (s3 : ZS) => zz_wp zt_ms zt_nm zt_df (zt_X L xs) 0 zt_m247 4 [(0, .ref 216), (1, .int p1), (2, .int a2.1), (3, .int a2.2)] [] (zk b s3) (qI b w)) hF (fun a2 s3 g4 hg4 hF => ?_)
  unfold f_Model_alikeAt_B4 at hF
  refine w_iload_n (pc2 := 5) rfl rfl rfl ?_
  refine w_aload_n (pc2 := 6) rfl rfl rfl ?_
  refine j_geti (pc2 := 9) rfl zk_cModel rfl rfl rfl hF (fun v5 hF => ?_)
  refine j_icmp_gt (pc2 := 12) rfl rfl hF (fun hF => ?_) (fun hF => ?_)
  · refine w_iload_n (pc2 := 106) rfl rfl rfl ?_
    exact j_iret rfl rfl hF
  · refine w_iconst (pc2 := 13) rfl rfl ?_
    refine w_istore (pc2 := 15) (ls2 := [(4, .int (0 : Int32)), (0, .ref 216), (1, .int p1), (2, .int a2.1), (3, .int a2.2)]) rfl rfl rfl ?_
    refine w_iconst (pc2 := 16) rfl rfl ?_
    refine w_istore (pc2 := 18) (ls2 := [(5, .int (0 : Int32)), (4, .int (0 : Int32)), (0, .ref 216), (1, .int p1), (2, .int a2.1), (3, .int a2.2)]) rfl rfl rfl ?_
    refine j_join (P := fun (a7 : Int32) (s6 : ZS) => zz_wp zt_ms zt_nm zt_df (zt_X L xs) 0 zt_m247 86 [(0, .ref 216), (1, .int p1), (2, .int a2.1), (3, .int a2.2), (4, .int a7)] [] (zk b s6) (qI b w)) hF (fun a7 s6 hF => ?_) (fun k8 hk8 hF => ?_)
    · refine w_iload (pc2 := 88) rfl rfl rfl ?_
      refine w_iload_n (pc2 := 89) rfl rfl rfl ?_
      refine j_join (P := fun (a10 : Int32) (s9 : ZS) => zz_wp zt_ms zt_nm zt_df (zt_X L xs) 0 zt_m247 98 [(0, .ref 216), (1, .int p1), (3, .int a2.2)] [.int a10] (zk b s9) (qI b w)) hF (fun a10 s9 hF => ?_) (fun k11 hk11 hF => ?_)
      · refine w_istore_n (pc2 := 99) (ls2 := [(2, .int a10), (0, .ref 216), (1, .int p1), (3, .int a2.2)]) rfl rfl rfl ?_
        refine w_iinc (pc2 := 102) (ls2 := [(3, .int ((a2.2 + (1 : Int32)))), (2, .int a10), (0, .ref 216), (1, .int p1)]) rfl rfl rfl rfl ?_
        refine w_goto rfl ?_
        exact j_norm (l := [(0, .ref 216), (1, .int p1), (2, .int a10), (3, .int ((a2.2 + (1 : Int32))))]) ⟨rfl, rfl, rfl, rfl, trivial⟩ (zz_nd_of (ks := [0, 1, 2, 3]) rfl (by decide)) (hg4 (a10, (a2.2 + (1 : Int32))) s9 hF)
      · refine j_icmp_le (pc2 := 92) rfl rfl hF (fun hF => ?_) (fun hF => ?_)
        · refine w_iload_n (pc2 := 98) rfl rfl rfl ?_
          exact j_norm (l := [(0, .ref 216), (1, .int p1), (3, .int a2.2)]) ⟨rfl, rfl, rfl, trivial⟩ (zz_nd_of (ks := [0, 1, 3]) rfl (by decide)) (hk11 a2.1 s6 hF)
        · refine w_iload (pc2 := 94) rfl rfl rfl ?_
          refine w_goto rfl ?_
          exact j_norm (l := [(0, .ref 216), (1, .int p1), (3, .int a2.2)]) ⟨rfl, rfl, rfl, trivial⟩ (zz_nd_of (ks := [0, 1, 3]) rfl (by decide)) (hk11 a7 s6 hF)
    · refine j_norm (l := [(0, .ref 216), (1, .int p1), (2, .int a2.1), (3, .int a2.2), (4, .int (0 : Int32)), (5, .int (0 : Int32))]) ⟨rfl, rfl, rfl, rfl, rfl, rfl, trivial⟩ (zz_nd_of (ks := [0, 1, 2, 3, 4, 5]) rfl (by decide)) ?_
      refine j_loop (P := fun (a12 : Int32 × Int32) (s13 : ZS) => zz_wp zt_ms zt_nm zt_df (zt_X L xs) 0 zt_m247 18 [(0, .ref 216), (1, .int p1), (2, .int a2.1), (3, .int a2.2), (4, .int a12.1), (5, .int a12.2)] [] (zk b s13) (qI b w)) hF (fun a12 s13 g14 hg14 hF => ?_)
      unfold f_Model_alikeAt_B18 at hF
      refine w_iload (pc2 := 20) rfl rfl rfl ?_
      refine w_aload_n (pc2 := 21) rfl rfl rfl ?_
      refine j_geti (pc2 := 24) rfl zk_cModel rfl rfl rfl hF (fun v15 hF => ?_)
      refine j_icmp_gt (pc2 := 27) rfl rfl hF (fun hF => ?_) (fun hF => ?_)
      · exact j_norm (l := [(0, .ref 216), (1, .int p1), (2, .int a2.1), (3, .int a2.2), (4, .int a12.1)]) ⟨rfl, rfl, rfl, rfl, rfl, trivial⟩ (zz_nd_of (ks := [0, 1, 2, 3, 4]) rfl (by decide)) (hk8 a12.1 s13 hF)
      · refine w_aload_n (pc2 := 28) rfl rfl rfl ?_
        refine w_getfield (pc2 := 31) rfl zk_cModel rfl rfl rfl ?_
        refine w_iload_n (pc2 := 32) rfl rfl rfl ?_
        refine j_zaload (pc2 := 33) (n := 7) rfl rfl (by omega) (by decide) rfl hF (fun v16 hF => ?_)
        refine j_if_eq (pc2 := 36) rfl rfl hF (fun hF => ?_) (fun hF => ?_)
        · exact j_norm (l := [(0, .ref 216), (1, .int p1), (2, .int a2.1), (3, .int a2.2), (4, .int a12.1)]) ⟨rfl, rfl, rfl, rfl, rfl, trivial⟩ (zz_nd_of (ks := [0, 1, 2, 3, 4]) rfl (by decide)) (hk8 a12.1 s13 hF)
        · refine w_iload (pc2 := 38) rfl rfl rfl ?_
          refine w_aload_n (pc2 := 39) rfl rfl rfl ?_
          refine w_getfield (pc2 := 42) rfl zk_cModel rfl rfl rfl ?_
          refine w_iload (pc2 := 44) rfl rfl rfl ?_
          refine j_zaload (pc2 := 45) (n := 7) rfl rfl (by omega) (by decide) rfl hF (fun v17 hF => ?_)
          refine j_join (P := fun (a19 : Int32) (s18 : ZS) => zz_wp zt_ms zt_nm zt_df (zt_X L xs) 0 zt_m247 77 [(0, .ref 216), (1, .int p1), (2, .int a2.1), (3, .int a2.2), (5, .int a12.2)] [.int a19, .int a12.1] (zk b s18) (qI b w)) hF (fun a19 s18 hF => ?_) (fun k20 hk20 hF => ?_)
          · refine w_iadd (pc2 := 78) rfl rfl ?_
            refine w_istore (pc2 := 80) (ls2 := [(4, .int (a12.1 + a19)), (0, .ref 216), (1, .int p1), (2, .int a2.1), (3, .int a2.2), (5, .int a12.2)]) rfl rfl rfl ?_
            refine w_iinc (pc2 := 83) (ls2 := [(5, .int ((a12.2 + (1 : Int32)))), (4, .int (a12.1 + a19)), (0, .ref 216), (1, .int p1), (2, .int a2.1), (3, .int a2.2)]) rfl rfl rfl rfl ?_
            refine w_goto rfl ?_
            exact j_norm (l := [(0, .ref 216), (1, .int p1), (2, .int a2.1), (3, .int a2.2), (4, .int (a12.1 + a19)), (5, .int ((a12.2 + (1 : Int32))))]) ⟨rfl, rfl, rfl, rfl, rfl, rfl, trivial⟩ (zz_nd_of (ks := [0, 1, 2, 3, 4, 5]) rfl (by decide)) (hg14 ((a12.1 + a19), (a12.2 + (1 : Int32))) s18 hF)
          · refine j_join0 (P := fun (s21 : ZS) => zz_wp zt_ms zt_nm zt_df (zt_X L xs) 0 zt_m247 76 [(0, .ref 216), (1, .int p1), (2, .int a2.1), (3, .int a2.2), (5, .int a12.2)] [.int a12.1] (zk b s21) (qI b w)) hF (fun s21 hF => ?_) (fun k22 hk22 hF => ?_)
            · refine w_iconst (pc2 := 77) rfl rfl ?_
              exact j_norm (l := [(0, .ref 216), (1, .int p1), (2, .int a2.1), (3, .int a2.2), (5, .int a12.2)]) ⟨rfl, rfl, rfl, rfl, rfl, trivial⟩ (zz_nd_of (ks := [0, 1, 2, 3, 5]) rfl (by decide)) (hk20 (0 : Int32) s21 hF)
            · refine j_if_eq (pc2 := 48) rfl rfl hF (fun hF => ?_) (fun hF => ?_)
              · exact j_norm (l := [(0, .ref 216), (1, .int p1), (2, .int a2.1), (3, .int a2.2), (5, .int a12.2)]) ⟨rfl, rfl, rfl, rfl, rfl, trivial⟩ (zz_nd_of (ks := [0, 1, 2, 3, 5]) rfl (by decide)) (hk22 s13 hF)
              · refine w_aload_n (pc2 := 49) rfl rfl rfl ?_
                refine w_getfield (pc2 := 52) rfl zk_cModel rfl rfl rfl ?_
                refine w_iconst (pc2 := 53) rfl rfl ?_
                refine w_iload_n (pc2 := 54) rfl rfl rfl ?_
                refine w_imul (pc2 := 55) rfl rfl ?_
                refine w_iload_n (pc2 := 56) rfl rfl rfl ?_
                refine w_iadd (pc2 := 57) rfl rfl ?_
                refine j_iaload (pc2 := 58) (n := 35) rfl rfl (by omega) (by decide) rfl hF (fun v23 hF => ?_)
                refine w_aload_n (pc2 := 59) rfl rfl rfl ?_
                refine w_getfield (pc2 := 62) rfl zk_cModel rfl rfl rfl ?_
                refine w_iconst (pc2 := 63) rfl rfl ?_
                refine w_iload (pc2 := 65) rfl rfl rfl ?_
                refine w_imul (pc2 := 66) rfl rfl ?_
                refine w_iload_n (pc2 := 67) rfl rfl rfl ?_
                refine w_iadd (pc2 := 68) rfl rfl ?_
                refine j_iaload (pc2 := 69) (n := 35) rfl rfl (by omega) (by decide) rfl hF (fun v24 hF => ?_)
                refine j_icmp_ne (pc2 := 72) rfl rfl hF (fun hF => ?_) (fun hF => ?_)
                · exact j_norm (l := [(0, .ref 216), (1, .int p1), (2, .int a2.1), (3, .int a2.2), (5, .int a12.2)]) ⟨rfl, rfl, rfl, rfl, rfl, trivial⟩ (zz_nd_of (ks := [0, 1, 2, 3, 5]) rfl (by decide)) (hk22 s13 hF)
                · refine w_iconst (pc2 := 73) rfl rfl ?_
                  refine w_goto rfl ?_
                  exact j_norm (l := [(0, .ref 216), (1, .int p1), (2, .int a2.1), (3, .int a2.2), (5, .int a12.2)]) ⟨rfl, rfl, rfl, rfl, rfl, trivial⟩ (zz_nd_of (ks := [0, 1, 2, 3, 5]) rfl (by decide)) (hk20 (1 : Int32) s13 hF)
noncomputable def f_Model_look_B46 (k12 : (Int32 × Int32) → ZS → Option (Int32 × ZS)) (a13 : Int32 × Int32 × Int32) (s14 : ZS) (g15 : (Int32 × Int32 × Int32) → ZS → Option (Int32 × ZS)) : Option (Int32 × ZS) := zgi (s14.1 226 3) (fun (v16 : Int32) => (if v16 ≤ a13.2.2 then k12 (a13.1, a13.2.1) s14 else zcl (f_Model_alikeAt a13.2.2 s14) (fun (v18 : Int32) (s17 : ZS) => zjn (A := Int32 × Int32) (fun (a20 : Int32 × Int32) (s19 : ZS) => g15 (a20.1, a20.2, (a13.2.2 + (1 : Int32))) s19) (fun (k21 : (Int32 × Int32) → ZS → Option (Int32 × ZS)) => (if v18 = 0 then k21 (a13.1, a13.2.1) s17 else zj0 (fun (s22 : ZS) => k21 (a13.2.2, v18) s22) (fun (k23 : ZS → Option (Int32 × ZS)) => (if a13.1 < 0 then k23 s17 else (if v18 < a13.2.1 then k23 s17 else k21 (a13.1, a13.2.1) s17))))))))
noncomputable def f_Model_look (p1 : Int32) (p2 : Int32) (s0 : ZS) : Option (Int32 × ZS) := zcl (f_Model_isSmithy s0) (fun (v4 : Int32) (s3 : ZS) => (if v4 = 0 then some ((-1 : Int32), s3) else zcl (f_Model_in (p1.toInt64) (0 : Int64) (60 : Int64) s3) (fun (v6 : Int32) (s5 : ZS) => (if v6 = 0 then some ((-1 : Int32), s5) else zcl (f_Model_in (p2.toInt64) (0 : Int64) (1 : Int64) s5) (fun (v8 : Int32) (s7 : ZS) => (if ¬ v8 = 0 then zcv (f_Model_fillsFits p1 s7) (fun (s9 : ZS) => zjn (A := Int32 × Int32) (fun (a11 : Int32 × Int32) (s10 : ZS) => (if ¬ p2 = 0 then some (a11.2, s10) else some (a11.1, s10))) (fun (k12 : (Int32 × Int32) → ZS → Option (Int32 × ZS)) => zlp zN (f_Model_look_B46 k12) ((-2 : Int32), (-2 : Int32), (0 : Int32)) s9)) else some ((-1 : Int32), s7)))))))
set_option maxHeartbeats 4000000 in
set_option maxRecDepth 100000 in
theorem ok_Model_look {L : Nat} {xs : Nat → Int32} {b : ZH} {p1 : Int32} {p2 : Int32} {s0 : ZS} {w : Int32 × ZS} (hF : f_Model_look p1 p2 s0 = some w) : zz_ct zt_ms zt_nm zt_df (zt_X L xs) 7 zt_m246 [.ref 216, .int p1, .int p2] (zk b s0) (qI b w) := by
  unfold f_Model_look at hF
  change zz_wp zt_ms zt_nm zt_df (zt_X L xs) 7 zt_m246 0 [(0, .ref 216), (1, .int p1), (2, .int p2)] [] (zk b s0) (qI b w)
  refine w_aload_n (pc2 := 1) rfl rfl rfl ?_
  refine j_cIv (pc2 := 4) (k := 0) (c := zt_m194) (as := [.ref 216]) (rest := []) rfl rfl rfl rfl zk_cModel.look rfl (Nat.le_of_ble_eq_true rfl) (Nat.le_of_ble_eq_true rfl) (fun w1 h1 => ok_Model_isSmithy h1) (by decide) rfl hF (fun v4 s3 hF => ?_)
  refine j_if_eq (pc2 := 7) rfl rfl hF (fun hF => ?_) (fun hF => ?_)
  · refine w_iconst (pc2 := 30) rfl rfl ?_
    exact j_iret rfl rfl hF
  · refine w_iload_n (pc2 := 8) rfl rfl rfl ?_
    refine w_i2l (pc2 := 9) rfl rfl ?_
    refine w_lconst (pc2 := 10) rfl rfl ?_
    refine w_ldc2_w (pc2 := 13) rfl rfl ?_
    refine j_cIs (pc2 := 16) (k := 0) (c := zt_m160) (as := [.long (p1.toInt64), .long (0 : Int64), .long (60 : Int64)]) (rest := []) rfl rfl rfl (Nat.le_of_ble_eq_true rfl) rfl rfl (Nat.le_of_ble_eq_true rfl) (Nat.le_of_ble_eq_true rfl) (fun w1 h1 => ok_Model_in h1) (by decide) rfl hF (fun v6 s5 hF => ?_)
    refine j_if_eq (pc2 := 19) rfl rfl hF (fun hF => ?_) (fun hF => ?_)
    · refine w_iconst (pc2 := 30) rfl rfl ?_
      exact j_iret rfl rfl hF
    · refine w_iload_n (pc2 := 20) rfl rfl rfl ?_
      refine w_i2l (pc2 := 21) rfl rfl ?_
      refine w_lconst (pc2 := 22) rfl rfl ?_
      refine w_lconst (pc2 := 23) rfl rfl ?_
      refine j_cIs (pc2 := 26) (k := 0) (c := zt_m160) (as := [.long (p2.toInt64), .long (0 : Int64), .long (1 : Int64)]) (rest := []) rfl rfl rfl (Nat.le_of_ble_eq_true rfl) rfl rfl (Nat.le_of_ble_eq_true rfl) (Nat.le_of_ble_eq_true rfl) (fun w1 h1 => ok_Model_in h1) (by decide) rfl hF (fun v8 s7 hF => ?_)
      refine j_if_ne (pc2 := 29) rfl rfl hF (fun hF => ?_) (fun hF => ?_)
      · refine w_aload_n (pc2 := 32) rfl rfl rfl ?_
        refine w_iload_n (pc2 := 33) rfl rfl rfl ?_
        refine j_cVv (pc2 := 36) (k := 6) (c := zt_m244) (as := [.ref 216, .int p1]) (rest := []) rfl rfl rfl rfl zk_cModel.look rfl (Nat.le_of_ble_eq_true rfl) (Nat.le_of_ble_eq_true rfl) (fun w1 h1 => ok_Model_fillsFits h1) (by decide) rfl hF (fun s9 hF => ?_)
        refine w_bipush (pc2 := 38) rfl rfl ?_
        refine w_istore_n (pc2 := 39) (ls2 := [(3, .int (-2 : Int32)), (0, .ref 216), (1, .int p1), (2, .int p2)]) rfl rfl rfl ?_
        refine w_bipush (pc2 := 41) rfl rfl ?_
        refine w_istore (pc2 := 43) (ls2 := [(4, .int (-2 : Int32)), (3, .int (-2 : Int32)), (0, .ref 216), (1, .int p1), (2, .int p2)]) rfl rfl rfl ?_
        refine w_iconst (pc2 := 44) rfl rfl ?_
        refine w_istore (pc2 := 46) (ls2 := [(5, .int (0 : Int32)), (4, .int (-2 : Int32)), (3, .int (-2 : Int32)), (0, .ref 216), (1, .int p1), (2, .int p2)]) rfl rfl rfl ?_
        refine j_join (P := fun (a11 : Int32 × Int32) (s10 : ZS) => zz_wp zt_ms zt_nm zt_df (zt_X L xs) 7 zt_m246 97 [(2, .int p2), (3, .int a11.1), (4, .int a11.2)] [] (zk b s10) (qI b w)) hF (fun a11 s10 hF => ?_) (fun k12 hk12 hF => ?_)
        · refine w_iload_n (pc2 := 98) rfl rfl rfl ?_
          refine j_if_ne (pc2 := 101) rfl rfl hF (fun hF => ?_) (fun hF => ?_)
          · refine w_iload (pc2 := 107) rfl rfl rfl ?_
            exact j_iret rfl rfl hF
          · refine w_iload_n (pc2 := 102) rfl rfl rfl ?_
            refine w_goto rfl ?_
            exact j_iret rfl rfl hF
        · refine j_norm (l := [(0, .ref 216), (2, .int p2), (3, .int (-2 : Int32)), (4, .int (-2 : Int32)), (5, .int (0 : Int32))]) ⟨rfl, rfl, rfl, rfl, rfl, trivial⟩ (zz_nd_of (ks := [0, 2, 3, 4, 5]) rfl (by decide)) ?_
          refine j_loop (P := fun (a13 : Int32 × Int32 × Int32) (s14 : ZS) => zz_wp zt_ms zt_nm zt_df (zt_X L xs) 7 zt_m246 46 [(0, .ref 216), (2, .int p2), (3, .int a13.1), (4, .int a13.2.1), (5, .int a13.2.2)] [] (zk b s14) (qI b w)) hF (fun a13 s14 g15 hg15 hF => ?_)
          unfold f_Model_look_B46 at hF
          refine w_iload (pc2 := 48) rfl rfl rfl ?_
          refine w_aload_n (pc2 := 49) rfl rfl rfl ?_
          refine w_getfield (pc2 := 52) rfl zk_cModel rfl rfl rfl ?_
          refine w_iconst (pc2 := 53) rfl rfl ?_
          refine j_ialoadC (pc2 := 54) (n := 139) (j := 3) rfl rfl (by omega) (by decide) (by decide) (by decide) (by decide) rfl hF (fun v16 hF => ?_)
          refine j_icmp_ge (pc2 := 57) rfl rfl hF (fun hF => ?_) (fun hF => ?_)
          · exact j_norm (l := [(2, .int p2), (3, .int a13.1), (4, .int a13.2.1)]) ⟨rfl, rfl, rfl, trivial⟩ (zz_nd_of (ks := [2, 3, 4]) rfl (by decide)) (hk12 (a13.1, a13.2.1) s14 hF)
          · refine w_aload_n (pc2 := 58) rfl rfl rfl ?_
            refine w_iload (pc2 := 60) rfl rfl rfl ?_
            refine j_cIv (pc2 := 63) (k := 0) (c := zt_m247) (as := [.ref 216, .int a13.2.2]) (rest := []) rfl rfl rfl rfl zk_cModel.look rfl (Nat.le_of_ble_eq_true rfl) (Nat.le_of_ble_eq_true rfl) (fun w1 h1 => ok_Model_alikeAt h1) (by decide) rfl hF (fun v18 s17 hF => ?_)
            refine w_istore (pc2 := 65) (ls2 := [(6, .int v18), (0, .ref 216), (2, .int p2), (3, .int a13.1), (4, .int a13.2.1), (5, .int a13.2.2)]) rfl rfl rfl ?_
            refine w_iload (pc2 := 67) rfl rfl rfl ?_
            refine j_join (P := fun (a20 : Int32 × Int32) (s19 : ZS) => zz_wp zt_ms zt_nm zt_df (zt_X L xs) 7 zt_m246 91 [(0, .ref 216), (2, .int p2), (3, .int a20.1), (4, .int a20.2), (5, .int a13.2.2)] [] (zk b s19) (qI b w)) hF (fun a20 s19 hF => ?_) (fun k21 hk21 hF => ?_)
            · refine w_iinc (pc2 := 94) (ls2 := [(5, .int ((a13.2.2 + (1 : Int32)))), (0, .ref 216), (2, .int p2), (3, .int a20.1), (4, .int a20.2)]) rfl rfl rfl rfl ?_
              refine w_goto rfl ?_
              exact j_norm (l := [(0, .ref 216), (2, .int p2), (3, .int a20.1), (4, .int a20.2), (5, .int ((a13.2.2 + (1 : Int32))))]) ⟨rfl, rfl, rfl, rfl, rfl, trivial⟩ (zz_nd_of (ks := [0, 2, 3, 4, 5]) rfl (by decide)) (hg15 (a20.1, a20.2, (a13.2.2 + (1 : Int32))) s19 hF)
            · refine j_if_eq (pc2 := 70) rfl rfl hF (fun hF => ?_) (fun hF => ?_)
              · exact j_norm (l := [(0, .ref 216), (2, .int p2), (3, .int a13.1), (4, .int a13.2.1), (5, .int a13.2.2)]) ⟨rfl, rfl, rfl, rfl, rfl, trivial⟩ (zz_nd_of (ks := [0, 2, 3, 4, 5]) rfl (by decide)) (hk21 (a13.1, a13.2.1) s17 hF)
              · refine w_iload_n (pc2 := 71) rfl rfl rfl ?_
                refine j_join0 (P := fun (s22 : ZS) => zz_wp zt_ms zt_nm zt_df (zt_X L xs) 7 zt_m246 84 [(0, .ref 216), (2, .int p2), (5, .int a13.2.2), (6, .int v18)] [] (zk b s22) (qI b w)) hF (fun s22 hF => ?_) (fun k23 hk23 hF => ?_)
                · refine w_iload (pc2 := 86) rfl rfl rfl ?_
                  refine w_istore_n (pc2 := 87) (ls2 := [(3, .int a13.2.2), (0, .ref 216), (2, .int p2), (5, .int a13.2.2), (6, .int v18)]) rfl rfl rfl ?_
                  refine w_iload (pc2 := 89) rfl rfl rfl ?_
                  refine w_istore (pc2 := 91) (ls2 := [(4, .int v18), (3, .int a13.2.2), (0, .ref 216), (2, .int p2), (5, .int a13.2.2), (6, .int v18)]) rfl rfl rfl ?_
                  exact j_norm (l := [(0, .ref 216), (2, .int p2), (3, .int a13.2.2), (4, .int v18), (5, .int a13.2.2)]) ⟨rfl, rfl, rfl, rfl, rfl, trivial⟩ (zz_nd_of (ks := [0, 2, 3, 4, 5]) rfl (by decide)) (hk21 (a13.2.2, v18) s22 hF)
                · refine j_if_lt (pc2 := 74) rfl rfl hF (fun hF => ?_) (fun hF => ?_)
                  · exact j_norm (l := [(0, .ref 216), (2, .int p2), (5, .int a13.2.2), (6, .int v18)]) ⟨rfl, rfl, rfl, rfl, trivial⟩ (zz_nd_of (ks := [0, 2, 5, 6]) rfl (by decide)) (hk23 s17 hF)
                  · refine w_iload (pc2 := 76) rfl rfl rfl ?_
                    refine w_iload (pc2 := 78) rfl rfl rfl ?_
                    refine j_icmp_lt (pc2 := 81) rfl rfl hF (fun hF => ?_) (fun hF => ?_)
                    · exact j_norm (l := [(0, .ref 216), (2, .int p2), (5, .int a13.2.2), (6, .int v18)]) ⟨rfl, rfl, rfl, rfl, trivial⟩ (zz_nd_of (ks := [0, 2, 5, 6]) rfl (by decide)) (hk23 s17 hF)
                    · refine w_goto rfl ?_
                      exact j_norm (l := [(0, .ref 216), (2, .int p2), (3, .int a13.1), (4, .int a13.2.1), (5, .int a13.2.2)]) ⟨rfl, rfl, rfl, rfl, rfl, trivial⟩ (zz_nd_of (ks := [0, 2, 3, 4, 5]) rfl (by decide)) (hk21 (a13.1, a13.2.1) s17 hF)
      · refine w_iconst (pc2 := 30) rfl rfl ?_
        exact j_iret rfl rfl hF
noncomputable def f_Model_seed (p1 : Int32) (s0 : ZS) : Option (Int32 × ZS) := (if 0 ≤ p1 then zgi (s0.1 216 22) (fun (v2 : Int32) => zwi s0 216 22 p1 (fun (s3 : ZS) => some (v2, s3))) else some ((-1 : Int32), s0))
set_option maxHeartbeats 4000000 in
set_option maxRecDepth 100000 in
theorem ok_Model_seed {L : Nat} {xs : Nat → Int32} {b : ZH} {p1 : Int32} {s0 : ZS} {w : Int32 × ZS} (hF : f_Model_seed p1 s0 = some w) : zz_ct zt_ms zt_nm zt_df (zt_X L xs) 0 zt_m248 [.ref 216, .int p1] (zk b s0) (qI b w) := by
  unfold f_Model_seed at hF
  change zz_wp zt_ms zt_nm zt_df (zt_X L xs) 0 zt_m248 0 [(0, .ref 216), (1, .int p1)] [] (zk b s0) (qI b w)
  refine w_iload_n (pc2 := 1) rfl rfl rfl ?_
  refine j_if_ge (pc2 := 4) rfl rfl hF (fun hF => ?_) (fun hF => ?_)
  · refine w_aload_n (pc2 := 7) rfl rfl rfl ?_
    refine j_geti (pc2 := 10) rfl zk_cModel rfl rfl rfl hF (fun v2 hF => ?_)
    refine w_istore_n (pc2 := 11) (ls2 := [(2, .int v2), (0, .ref 216), (1, .int p1)]) rfl rfl rfl ?_
    refine w_aload_n (pc2 := 12) rfl rfl rfl ?_
    refine w_iload_n (pc2 := 13) rfl rfl rfl ?_
    refine j_puti (pc2 := 16) (j := 22) rfl zk_cModel rfl (Nat.le_of_ble_eq_true rfl) rfl zk_wModel_22 (by decide) rfl hF (fun s3 hF => ?_)
    refine w_iload_n (pc2 := 17) rfl rfl rfl ?_
    exact j_iret rfl rfl hF
  · refine w_iconst (pc2 := 5) rfl rfl ?_
    exact j_iret rfl rfl hF
noncomputable def f_Model_draw (p1 : Int32) (s0 : ZS) : Option (Int32 × ZS) := zgl (s0.2 216 37) (fun (v2 : Int64) => zwf s0 216 37 ((((v2 * (1103515245 : Int64)) + (12345 : Int64)) - ((v2 * (1103515245 : Int64)) + (12345 : Int64)) / (2147483648 : Int64) * (2147483648 : Int64))) (fun (s3 : ZS) => zgl (s3.2 216 37) (fun (v4 : Int64) => zdl (p1.toInt64) (some ((((v4 / (65536 : Int64)) - (v4 / (65536 : Int64)) / (p1.toInt64) * (p1.toInt64)).toInt32), s3)))))
set_option maxHeartbeats 4000000 in
set_option maxRecDepth 100000 in
theorem ok_Model_draw {L : Nat} {xs : Nat → Int32} {b : ZH} {p1 : Int32} {s0 : ZS} {w : Int32 × ZS} (hF : f_Model_draw p1 s0 = some w) : zz_ct zt_ms zt_nm zt_df (zt_X L xs) 0 zt_m250 [.ref 216, .int p1] (zk b s0) (qI b w) := by
  unfold f_Model_draw at hF
  change zz_wp zt_ms zt_nm zt_df (zt_X L xs) 0 zt_m250 0 [(0, .ref 216), (1, .int p1)] [] (zk b s0) (qI b w)
  refine w_aload_n (pc2 := 1) rfl rfl rfl ?_
  refine w_aload_n (pc2 := 2) rfl rfl rfl ?_
  refine j_getl (pc2 := 5) rfl zk_cModel rfl rfl rfl hF (fun v2 hF => ?_)
  refine w_ldc2_w (pc2 := 8) rfl rfl ?_
  refine w_lmul (pc2 := 9) rfl rfl ?_
  refine w_ldc2_w (pc2 := 12) rfl rfl ?_
  refine w_ladd (pc2 := 13) rfl rfl ?_
  refine w_ldc2_w (pc2 := 16) rfl rfl ?_
  refine w_lrem (pc2 := 17) rfl (by decide) rfl ?_
  refine j_putl (pc2 := 20) (j := 37) rfl zk_cModel rfl (Nat.le_of_ble_eq_true rfl) rfl zk_wModel_37 (by decide) rfl hF (fun s3 hF => ?_)
  refine w_aload_n (pc2 := 21) rfl rfl rfl ?_
  refine j_getl (pc2 := 24) rfl zk_cModel rfl rfl rfl hF (fun v4 hF => ?_)
  refine w_ldc2_w (pc2 := 27) rfl rfl ?_
  refine w_ldiv (pc2 := 28) rfl (by decide) rfl ?_
  refine w_iload_n (pc2 := 29) rfl rfl rfl ?_
  refine w_i2l (pc2 := 30) rfl rfl ?_
  refine j_lrem (pc2 := 31) rfl rfl hF (fun hF => ?_)
  refine w_l2i (pc2 := 32) rfl rfl ?_
  exact j_iret rfl rfl hF
