/-! What methods do as functions of the state, and that the small machine does so. -/
noncomputable def f_Model_gold_B55 (p1 : Int32) (p2 : Int32) (v10 : Int32) (v12 : Int32) (k15 : (Int32 × Int32) → ZS → Option (Int32 × ZS)) (a16 : Int32 × Int32 × Int32) (s17 : ZS) (g18 : (Int32 × Int32 × Int32) → ZS → Option (Int32 × ZS)) : Option (Int32 × ZS) := zgi (s17.1 226 3) (fun (v19 : Int32) => (if v19 ≤ a16.2.2 then k15 (a16.1, a16.2.1) s17 else zcl (f_Model_isBare a16.2.2 s17) (fun (v21 : Int32) (s20 : ZS) => zjn (A := Int32 × Int32) (fun (a23 : Int32 × Int32) (s22 : ZS) => g18 (a23.1, a23.2, (a16.2.2 + (1 : Int32))) s22) (fun (k24 : (Int32 × Int32) → ZS → Option (Int32 × ZS)) => (if v21 = 0 then zcl (f_Model_bandOf a16.2.2 s20) (fun (v26 : Int32) (s25 : ZS) => zdv v10 (zdv v10 (zdv v10 (zjn (A := Int32) (fun (a28 : Int32) (s27 : ZS) => k24 ((a16.1 - ((p1 * v26) / v10)), (a16.2.1 + a28)) s27) (fun (k29 : Int32 → ZS → Option (Int32 × ZS)) => zj0 (fun (s30 : ZS) => k29 (1 : Int32) s30) (fun (k31 : ZS → Option (Int32 × ZS)) => (if ((p1 * v12) - (p1 * v12) / v10 * v10) < ((p1 * v26) - (p1 * v26) / v10 * v10) then k31 s25 else zdv v10 (zdv v10 (zj0 (fun (s32 : ZS) => k29 (0 : Int32) s32) (fun (k33 : ZS → Option (Int32 × ZS)) => (if ¬ ((p1 * v26) - (p1 * v26) / v10 * v10) = ((p1 * v12) - (p1 * v12) / v10 * v10) then k33 s25 else (if p2 ≤ a16.2.2 then k33 s25 else k31 s25)))))))))))) else k24 (a16.1, a16.2.1) s20)))))
noncomputable def f_Model_gold (p1 : Int32) (p2 : Int32) (s0 : ZS) : Option (Int32 × ZS) := zcl (f_Model_isPair p2 s0) (fun (v4 : Int32) (s3 : ZS) => (if v4 = 0 then some ((-1 : Int32), s3) else zcl (f_Model_in (p1.toInt64) (0 : Int64) (9999 : Int64) s3) (fun (v6 : Int32) (s5 : ZS) => (if ¬ v6 = 0 then zcl (f_Model_isBare p2 s5) (fun (v8 : Int32) (s7 : ZS) => (if v8 = 0 then zcl (f_Model_wideAll s7) (fun (v10 : Int32) (s9 : ZS) => zcl (f_Model_bandOf p2 s9) (fun (v12 : Int32) (s11 : ZS) => zjn (A := Int32 × Int32) (fun (a14 : Int32 × Int32) (s13 : ZS) => zdv v10 ((if a14.1 ≤ a14.2 then some ((((p1 * v12) / v10) + (0 : Int32)), s13) else some ((((p1 * v12) / v10) + (1 : Int32)), s13)))) (fun (k15 : (Int32 × Int32) → ZS → Option (Int32 × ZS)) => zlp zN (f_Model_gold_B55 p1 p2 v10 v12 k15) (p1, (0 : Int32), (0 : Int32)) s11))) else some ((0 : Int32), s7))) else some ((-1 : Int32), s5)))))
set_option maxHeartbeats 4000000 in
set_option maxRecDepth 100000 in
theorem ok_Model_gold {L : Nat} {xs : Nat → Int32} {b : ZH} {p1 : Int32} {p2 : Int32} {s0 : ZS} {w : Int32 × ZS} (hF : f_Model_gold p1 p2 s0 = some w) : zz_ct zt_ms zt_nm zt_df (zt_X L xs) 2 zt_m231 [.ref 216, .int p1, .int p2] (zk b s0) (qI b w) := by
  unfold f_Model_gold at hF
  change zz_wp zt_ms zt_nm zt_df (zt_X L xs) 2 zt_m231 0 [(0, .ref 216), (1, .int p1), (2, .int p2)] [] (zk b s0) (qI b w)
  refine w_aload_n (pc2 := 1) rfl rfl rfl ?_
  refine w_iload_n (pc2 := 2) rfl rfl rfl ?_
  refine j_cIv (pc2 := 5) (k := 0) (c := zt_m186) (as := [.ref 216, .int p2]) (rest := []) rfl rfl rfl rfl zk_cModel.look rfl (Nat.le_of_ble_eq_true rfl) (Nat.le_of_ble_eq_true rfl) (fun w1 h1 => ok_Model_isPair h1) (by decide) rfl hF (fun v4 s3 hF => ?_)
  refine j_if_eq (pc2 := 8) rfl rfl hF (fun hF => ?_) (fun hF => ?_)
  · refine w_iconst (pc2 := 21) rfl rfl ?_
    exact j_iret rfl rfl hF
  · refine w_iload_n (pc2 := 9) rfl rfl rfl ?_
    refine w_i2l (pc2 := 10) rfl rfl ?_
    refine w_lconst (pc2 := 11) rfl rfl ?_
    refine w_ldc2_w (pc2 := 14) rfl rfl ?_
    refine j_cIs (pc2 := 17) (k := 0) (c := zt_m160) (as := [.long (p1.toInt64), .long (0 : Int64), .long (9999 : Int64)]) (rest := []) rfl rfl rfl (Nat.le_of_ble_eq_true rfl) rfl rfl (Nat.le_of_ble_eq_true rfl) (Nat.le_of_ble_eq_true rfl) (fun w1 h1 => ok_Model_in h1) (by decide) rfl hF (fun v6 s5 hF => ?_)
    refine j_if_ne (pc2 := 20) rfl rfl hF (fun hF => ?_) (fun hF => ?_)
    · refine w_aload_n (pc2 := 23) rfl rfl rfl ?_
      refine w_iload_n (pc2 := 24) rfl rfl rfl ?_
      refine j_cIv (pc2 := 27) (k := 1) (c := zt_m197) (as := [.ref 216, .int p2]) (rest := []) rfl rfl rfl rfl zk_cModel.look rfl (Nat.le_of_ble_eq_true rfl) (Nat.le_of_ble_eq_true rfl) (fun w1 h1 => ok_Model_isBare h1) (by decide) rfl hF (fun v8 s7 hF => ?_)
      refine j_if_eq (pc2 := 30) rfl rfl hF (fun hF => ?_) (fun hF => ?_)
      · refine w_aload_n (pc2 := 33) rfl rfl rfl ?_
        refine j_cIv (pc2 := 36) (k := 1) (c := zt_m232) (as := [.ref 216]) (rest := []) rfl rfl rfl rfl zk_cModel.look rfl (Nat.le_of_ble_eq_true rfl) (Nat.le_of_ble_eq_true rfl) (fun w1 h1 => ok_Model_wideAll h1) (by decide) rfl hF (fun v10 s9 hF => ?_)
        refine w_istore_n (pc2 := 37) (ls2 := [(3, .int v10), (0, .ref 216), (1, .int p1), (2, .int p2)]) rfl rfl rfl ?_
        refine w_iload_n (pc2 := 38) rfl rfl rfl ?_
        refine w_aload_n (pc2 := 39) rfl rfl rfl ?_
        refine w_iload_n (pc2 := 40) rfl rfl rfl ?_
        refine j_cIv (pc2 := 43) (k := 0) (c := zt_m188) (as := [.ref 216, .int p2]) (rest := [.int p1]) rfl rfl rfl rfl zk_cModel.look rfl (Nat.le_of_ble_eq_true rfl) (Nat.le_of_ble_eq_true rfl) (fun w1 h1 => ok_Model_bandOf h1) (by decide) rfl hF (fun v12 s11 hF => ?_)
        refine w_imul (pc2 := 44) rfl rfl ?_
        refine w_istore (pc2 := 46) (ls2 := [(4, .int (p1 * v12)), (3, .int v10), (0, .ref 216), (1, .int p1), (2, .int p2)]) rfl rfl rfl ?_
        refine w_iload_n (pc2 := 47) rfl rfl rfl ?_
        refine w_istore (pc2 := 49) (ls2 := [(5, .int p1), (4, .int (p1 * v12)), (3, .int v10), (0, .ref 216), (1, .int p1), (2, .int p2)]) rfl rfl rfl ?_
        refine w_iconst (pc2 := 50) rfl rfl ?_
        refine w_istore (pc2 := 52) (ls2 := [(6, .int (0 : Int32)), (5, .int p1), (4, .int (p1 * v12)), (3, .int v10), (0, .ref 216), (1, .int p1), (2, .int p2)]) rfl rfl rfl ?_
        refine w_iconst (pc2 := 53) rfl rfl ?_
        refine w_istore (pc2 := 55) (ls2 := [(7, .int (0 : Int32)), (6, .int (0 : Int32)), (5, .int p1), (4, .int (p1 * v12)), (3, .int v10), (0, .ref 216), (1, .int p1), (2, .int p2)]) rfl rfl rfl ?_
        refine j_join (P := fun (a14 : Int32 × Int32) (s13 : ZS) => zz_wp zt_ms zt_nm zt_df (zt_X L xs) 2 zt_m231 141 [(3, .int v10), (4, .int (p1 * v12)), (5, .int a14.1), (6, .int a14.2)] [] (zk b s13) (qI b w)) hF (fun a14 s13 hF => ?_) (fun k15 hk15 hF => ?_)
        · refine w_iload (pc2 := 143) rfl rfl rfl ?_
          refine w_iload_n (pc2 := 144) rfl rfl rfl ?_
          refine j_idiv (pc2 := 145) rfl rfl hF (fun hF => ?_)
          refine w_iload (pc2 := 147) rfl rfl rfl ?_
          refine w_iload (pc2 := 149) rfl rfl rfl ?_
          refine j_icmp_ge (pc2 := 152) rfl rfl hF (fun hF => ?_) (fun hF => ?_)
          · refine w_iconst (pc2 := 157) rfl rfl ?_
            refine w_iadd (pc2 := 158) rfl rfl ?_
            exact j_iret rfl rfl hF
          · refine w_iconst (pc2 := 153) rfl rfl ?_
            refine w_goto rfl ?_
            refine w_iadd (pc2 := 158) rfl rfl ?_
            exact j_iret rfl rfl hF
        · refine j_norm (l := [(0, .ref 216), (1, .int p1), (2, .int p2), (3, .int v10), (4, .int (p1 * v12)), (5, .int p1), (6, .int (0 : Int32)), (7, .int (0 : Int32))]) ⟨rfl, rfl, rfl, rfl, rfl, rfl, rfl, rfl, trivial⟩ (zz_nd_of (ks := [0, 1, 2, 3, 4, 5, 6, 7]) rfl (by decide)) ?_
          refine j_loop (P := fun (a16 : Int32 × Int32 × Int32) (s17 : ZS) => zz_wp zt_ms zt_nm zt_df (zt_X L xs) 2 zt_m231 55 [(0, .ref 216), (1, .int p1), (2, .int p2), (3, .int v10), (4, .int (p1 * v12)), (5, .int a16.1), (6, .int a16.2.1), (7, .int a16.2.2)] [] (zk b s17) (qI b w)) hF (fun a16 s17 g18 hg18 hF => ?_)
          unfold f_Model_gold_B55 at hF
          refine w_iload (pc2 := 57) rfl rfl rfl ?_
          refine w_aload_n (pc2 := 58) rfl rfl rfl ?_
          refine w_getfield (pc2 := 61) rfl zk_cModel rfl rfl rfl ?_
          refine w_iconst (pc2 := 62) rfl rfl ?_
          refine j_ialoadC (pc2 := 63) (n := 139) (j := 3) rfl rfl (by omega) (by decide) (by decide) (by decide) (by decide) rfl hF (fun v19 hF => ?_)
          refine j_icmp_ge (pc2 := 66) rfl rfl hF (fun hF => ?_) (fun hF => ?_)
          · exact j_norm (l := [(3, .int v10), (4, .int (p1 * v12)), (5, .int a16.1), (6, .int a16.2.1)]) ⟨rfl, rfl, rfl, rfl, trivial⟩ (zz_nd_of (ks := [3, 4, 5, 6]) rfl (by decide)) (hk15 (a16.1, a16.2.1) s17 hF)
          · refine w_aload_n (pc2 := 67) rfl rfl rfl ?_
            refine w_iload (pc2 := 69) rfl rfl rfl ?_
            refine j_cIv (pc2 := 72) (k := 1) (c := zt_m197) (as := [.ref 216, .int a16.2.2]) (rest := []) rfl rfl rfl rfl zk_cModel.look rfl (Nat.le_of_ble_eq_true rfl) (Nat.le_of_ble_eq_true rfl) (fun w1 h1 => ok_Model_isBare h1) (by decide) rfl hF (fun v21 s20 hF => ?_)
            refine j_join (P := fun (a23 : Int32 × Int32) (s22 : ZS) => zz_wp zt_ms zt_nm zt_df (zt_X L xs) 2 zt_m231 135 [(0, .ref 216), (1, .int p1), (2, .int p2), (3, .int v10), (4, .int (p1 * v12)), (5, .int a23.1), (6, .int a23.2), (7, .int a16.2.2)] [] (zk b s22) (qI b w)) hF (fun a23 s22 hF => ?_) (fun k24 hk24 hF => ?_)
            · refine w_iinc (pc2 := 138) (ls2 := [(7, .int ((a16.2.2 + (1 : Int32)))), (0, .ref 216), (1, .int p1), (2, .int p2), (3, .int v10), (4, .int (p1 * v12)), (5, .int a23.1), (6, .int a23.2)]) rfl rfl rfl rfl ?_
              refine w_goto rfl ?_
              exact j_norm (l := [(0, .ref 216), (1, .int p1), (2, .int p2), (3, .int v10), (4, .int (p1 * v12)), (5, .int a23.1), (6, .int a23.2), (7, .int ((a16.2.2 + (1 : Int32))))]) ⟨rfl, rfl, rfl, rfl, rfl, rfl, rfl, rfl, trivial⟩ (zz_nd_of (ks := [0, 1, 2, 3, 4, 5, 6, 7]) rfl (by decide)) (hg18 (a23.1, a23.2, (a16.2.2 + (1 : Int32))) s22 hF)
            · refine j_if_eq (pc2 := 75) rfl rfl hF (fun hF => ?_) (fun hF => ?_)
              · refine w_iload_n (pc2 := 79) rfl rfl rfl ?_
                refine w_aload_n (pc2 := 80) rfl rfl rfl ?_
                refine w_iload (pc2 := 82) rfl rfl rfl ?_
                refine j_cIv (pc2 := 85) (k := 0) (c := zt_m188) (as := [.ref 216, .int a16.2.2]) (rest := [.int p1]) rfl rfl rfl rfl zk_cModel.look rfl (Nat.le_of_ble_eq_true rfl) (Nat.le_of_ble_eq_true rfl) (fun w1 h1 => ok_Model_bandOf h1) (by decide) rfl hF (fun v26 s25 hF => ?_)
                refine w_imul (pc2 := 86) rfl rfl ?_
                refine w_istore (pc2 := 88) (ls2 := [(8, .int (p1 * v26)), (0, .ref 216), (1, .int p1), (2, .int p2), (3, .int v10), (4, .int (p1 * v12)), (5, .int a16.1), (6, .int a16.2.1), (7, .int a16.2.2)]) rfl rfl rfl ?_
                refine w_iload (pc2 := 90) rfl rfl rfl ?_
                refine w_iload (pc2 := 92) rfl rfl rfl ?_
                refine w_iload_n (pc2 := 93) rfl rfl rfl ?_
                refine j_idiv (pc2 := 94) rfl rfl hF (fun hF => ?_)
                refine w_isub (pc2 := 95) rfl rfl ?_
                refine w_istore (pc2 := 97) (ls2 := [(5, .int ((a16.1 - ((p1 * v26) / v10)))), (8, .int (p1 * v26)), (0, .ref 216), (1, .int p1), (2, .int p2), (3, .int v10), (4, .int (p1 * v12)), (6, .int a16.2.1), (7, .int a16.2.2)]) rfl rfl rfl ?_
                refine w_iload (pc2 := 99) rfl rfl rfl ?_
                refine w_iload (pc2 := 101) rfl rfl rfl ?_
                refine w_iload_n (pc2 := 102) rfl rfl rfl ?_
                refine j_irem (pc2 := 103) rfl rfl hF (fun hF => ?_)
                refine w_iload (pc2 := 105) rfl rfl rfl ?_
                refine w_iload_n (pc2 := 106) rfl rfl rfl ?_
                refine j_irem (pc2 := 107) rfl rfl hF (fun hF => ?_)
                refine j_join (P := fun (a28 : Int32) (s27 : ZS) => zz_wp zt_ms zt_nm zt_df (zt_X L xs) 2 zt_m231 132 [(0, .ref 216), (1, .int p1), (2, .int p2), (3, .int v10), (4, .int (p1 * v12)), (5, .int ((a16.1 - ((p1 * v26) / v10)))), (7, .int a16.2.2)] [.int a28, .int a16.2.1] (zk b s27) (qI b w)) hF (fun a28 s27 hF => ?_) (fun k29 hk29 hF => ?_)
                · refine w_iadd (pc2 := 133) rfl rfl ?_
                  refine w_istore (pc2 := 135) (ls2 := [(6, .int (a16.2.1 + a28)), (0, .ref 216), (1, .int p1), (2, .int p2), (3, .int v10), (4, .int (p1 * v12)), (5, .int ((a16.1 - ((p1 * v26) / v10)))), (7, .int a16.2.2)]) rfl rfl rfl ?_
                  exact j_norm (l := [(0, .ref 216), (1, .int p1), (2, .int p2), (3, .int v10), (4, .int (p1 * v12)), (5, .int ((a16.1 - ((p1 * v26) / v10)))), (6, .int (a16.2.1 + a28)), (7, .int a16.2.2)]) ⟨rfl, rfl, rfl, rfl, rfl, rfl, rfl, rfl, trivial⟩ (zz_nd_of (ks := [0, 1, 2, 3, 4, 5, 6, 7]) rfl (by decide)) (hk24 ((a16.1 - ((p1 * v26) / v10)), (a16.2.1 + a28)) s27 hF)
                · refine j_join0 (P := fun (s30 : ZS) => zz_wp zt_ms zt_nm zt_df (zt_X L xs) 2 zt_m231 127 [(0, .ref 216), (1, .int p1), (2, .int p2), (3, .int v10), (4, .int (p1 * v12)), (5, .int ((a16.1 - ((p1 * v26) / v10)))), (7, .int a16.2.2)] [.int a16.2.1] (zk b s30) (qI b w)) hF (fun s30 hF => ?_) (fun k31 hk31 hF => ?_)
                  · refine w_iconst (pc2 := 128) rfl rfl ?_
                    refine w_goto rfl ?_
                    exact j_norm (l := [(0, .ref 216), (1, .int p1), (2, .int p2), (3, .int v10), (4, .int (p1 * v12)), (5, .int ((a16.1 - ((p1 * v26) / v10)))), (7, .int a16.2.2)]) ⟨rfl, rfl, rfl, rfl, rfl, rfl, rfl, trivial⟩ (zz_nd_of (ks := [0, 1, 2, 3, 4, 5, 7]) rfl (by decide)) (hk29 (1 : Int32) s30 hF)
                  · refine j_icmp_gt (pc2 := 110) rfl rfl hF (fun hF => ?_) (fun hF => ?_)
                    · exact j_norm (l := [(0, .ref 216), (1, .int p1), (2, .int p2), (3, .int v10), (4, .int (p1 * v12)), (5, .int ((a16.1 - ((p1 * v26) / v10)))), (7, .int a16.2.2)]) ⟨rfl, rfl, rfl, rfl, rfl, rfl, rfl, trivial⟩ (zz_nd_of (ks := [0, 1, 2, 3, 4, 5, 7]) rfl (by decide)) (hk31 s25 hF)
                    · refine w_iload (pc2 := 112) rfl rfl rfl ?_
                      refine w_iload_n (pc2 := 113) rfl rfl rfl ?_
                      refine j_irem (pc2 := 114) rfl rfl hF (fun hF => ?_)
                      refine w_iload (pc2 := 116) rfl rfl rfl ?_
                      refine w_iload_n (pc2 := 117) rfl rfl rfl ?_
                      refine j_irem (pc2 := 118) rfl rfl hF (fun hF => ?_)
                      refine j_join0 (P := fun (s32 : ZS) => zz_wp zt_ms zt_nm zt_df (zt_X L xs) 2 zt_m231 131 [(0, .ref 216), (1, .int p1), (2, .int p2), (3, .int v10), (4, .int (p1 * v12)), (5, .int ((a16.1 - ((p1 * v26) / v10)))), (7, .int a16.2.2)] [.int a16.2.1] (zk b s32) (qI b w)) hF (fun s32 hF => ?_) (fun k33 hk33 hF => ?_)
                      · refine w_iconst (pc2 := 132) rfl rfl ?_
                        exact j_norm (l := [(0, .ref 216), (1, .int p1), (2, .int p2), (3, .int v10), (4, .int (p1 * v12)), (5, .int ((a16.1 - ((p1 * v26) / v10)))), (7, .int a16.2.2)]) ⟨rfl, rfl, rfl, rfl, rfl, rfl, rfl, trivial⟩ (zz_nd_of (ks := [0, 1, 2, 3, 4, 5, 7]) rfl (by decide)) (hk29 (0 : Int32) s32 hF)
                      · refine j_icmp_ne (pc2 := 121) rfl rfl hF (fun hF => ?_) (fun hF => ?_)
                        · exact j_norm (l := [(0, .ref 216), (1, .int p1), (2, .int p2), (3, .int v10), (4, .int (p1 * v12)), (5, .int ((a16.1 - ((p1 * v26) / v10)))), (7, .int a16.2.2)]) ⟨rfl, rfl, rfl, rfl, rfl, rfl, rfl, trivial⟩ (zz_nd_of (ks := [0, 1, 2, 3, 4, 5, 7]) rfl (by decide)) (hk33 s25 hF)
                        · refine w_iload (pc2 := 123) rfl rfl rfl ?_
                          refine w_iload_n (pc2 := 124) rfl rfl rfl ?_
                          refine j_icmp_ge (pc2 := 127) rfl rfl hF (fun hF => ?_) (fun hF => ?_)
                          · exact j_norm (l := [(0, .ref 216), (1, .int p1), (2, .int p2), (3, .int v10), (4, .int (p1 * v12)), (5, .int ((a16.1 - ((p1 * v26) / v10)))), (7, .int a16.2.2)]) ⟨rfl, rfl, rfl, rfl, rfl, rfl, rfl, trivial⟩ (zz_nd_of (ks := [0, 1, 2, 3, 4, 5, 7]) rfl (by decide)) (hk33 s25 hF)
                          · exact j_norm (l := [(0, .ref 216), (1, .int p1), (2, .int p2), (3, .int v10), (4, .int (p1 * v12)), (5, .int ((a16.1 - ((p1 * v26) / v10)))), (7, .int a16.2.2)]) ⟨rfl, rfl, rfl, rfl, rfl, rfl, rfl, trivial⟩ (zz_nd_of (ks := [0, 1, 2, 3, 4, 5, 7]) rfl (by decide)) (hk31 s25 hF)
              · refine w_goto rfl ?_
                exact j_norm (l := [(0, .ref 216), (1, .int p1), (2, .int p2), (3, .int v10), (4, .int (p1 * v12)), (5, .int a16.1), (6, .int a16.2.1), (7, .int a16.2.2)]) ⟨rfl, rfl, rfl, rfl, rfl, rfl, rfl, rfl, trivial⟩ (zz_nd_of (ks := [0, 1, 2, 3, 4, 5, 6, 7]) rfl (by decide)) (hk24 (a16.1, a16.2.1) s20 hF)
      · refine w_iconst (pc2 := 31) rfl rfl ?_
        exact j_iret rfl rfl hF
    · refine w_iconst (pc2 := 21) rfl rfl ?_
      exact j_iret rfl rfl hF
noncomputable def f_Model_heard_B51 (v12 : Int32) (k16 : Int32 → ZS → Option (Int32 × ZS)) (a19 : Int32 × Int32) (s20 : ZS) (g21 : (Int32 × Int32) → ZS → Option (Int32 × ZS)) : Option (Int32 × ZS) := zgi (s20.1 226 3) (fun (v22 : Int32) => (if v22 ≤ a19.2 then k16 a19.1 s20 else zcl (f_Model_isOf v12 a19.2 s20) (fun (v24 : Int32) (s23 : ZS) => zjn (A := Int32) (fun (a26 : Int32) (s25 : ZS) => g21 (a26, (a19.2 + (1 : Int32))) s25) (fun (k27 : Int32 → ZS → Option (Int32 × ZS)) => (if v24 = 0 then k27 a19.1 s23 else zj0 (fun (s28 : ZS) => k27 a19.2 s28) (fun (k29 : ZS → Option (Int32 × ZS)) => (if a19.1 < 0 then k29 s23 else zrd 5 a19.2 (s23.1 227) (fun (v30 : Int32) => zrd 5 a19.1 (s23.1 227) (fun (v31 : Int32) => (if v30 ≤ v31 then k27 a19.1 s23 else k29 s23))))))))))
noncomputable def f_Model_heard (p1 : Int32) (p2 : Int32) (p3 : Int32) (s0 : ZS) : Option (Int32 × ZS) := zcl (f_Model_isBare p1 s0) (fun (v5 : Int32) (s4 : ZS) => (if v5 = 0 then some ((-1 : Int32), s4) else zcl (f_Model_isSaying p2 s4) (fun (v7 : Int32) (s6 : ZS) => (if v7 = 0 then some ((-1 : Int32), s6) else zcl (f_Model_in (p3.toInt64) (0 : Int64) (1 : Int64) s6) (fun (v9 : Int32) (s8 : ZS) => (if ¬ v9 = 0 then zcv (f_Model_keeps s8) (fun (s10 : ZS) => zcl (f_Model_says p1 p2 s10) (fun (v12 : Int32) (s11 : ZS) => zcv (f_Model_laysBack s11) (fun (s13 : ZS) => zjn (A := Int32) (fun (a15 : Int32) (s14 : ZS) => (if ¬ p3 = 0 then some (a15, s14) else zcl (f_Model_bits v12 s14) (fun (v18 : Int32) (s17 : ZS) => some (v18, s17)))) (fun (k16 : Int32 → ZS → Option (Int32 × ZS)) => zlp zN (f_Model_heard_B51 v12 k16) ((-2 : Int32), (0 : Int32)) s13)))) else some ((-1 : Int32), s8)))))))
set_option maxHeartbeats 4000000 in
set_option maxRecDepth 100000 in
theorem ok_Model_heard {L : Nat} {xs : Nat → Int32} {b : ZH} {p1 : Int32} {p2 : Int32} {p3 : Int32} {s0 : ZS} {w : Int32 × ZS} (hF : f_Model_heard p1 p2 p3 s0 = some w) : zz_ct zt_ms zt_nm zt_df (zt_X L xs) 3 zt_m233 [.ref 216, .int p1, .int p2, .int p3] (zk b s0) (qI b w) := by
  unfold f_Model_heard at hF
  change zz_wp zt_ms zt_nm zt_df (zt_X L xs) 3 zt_m233 0 [(0, .ref 216), (1, .int p1), (2, .int p2), (3, .int p3)] [] (zk b s0) (qI b w)
  refine w_aload_n (pc2 := 1) rfl rfl rfl ?_
  refine w_iload_n (pc2 := 2) rfl rfl rfl ?_
  refine j_cIv (pc2 := 5) (k := 1) (c := zt_m197) (as := [.ref 216, .int p1]) (rest := []) rfl rfl rfl rfl zk_cModel.look rfl (Nat.le_of_ble_eq_true rfl) (Nat.le_of_ble_eq_true rfl) (fun w1 h1 => ok_Model_isBare h1) (by decide) rfl hF (fun v5 s4 hF => ?_)
  refine j_if_eq (pc2 := 8) rfl rfl hF (fun hF => ?_) (fun hF => ?_)
  · refine w_iconst (pc2 := 27) rfl rfl ?_
    exact j_iret rfl rfl hF
  · refine w_aload_n (pc2 := 9) rfl rfl rfl ?_
    refine w_iload_n (pc2 := 10) rfl rfl rfl ?_
    refine j_cIv (pc2 := 13) (k := 0) (c := zt_m190) (as := [.ref 216, .int p2]) (rest := []) rfl rfl rfl rfl zk_cModel.look rfl (Nat.le_of_ble_eq_true rfl) (Nat.le_of_ble_eq_true rfl) (fun w1 h1 => ok_Model_isSaying h1) (by decide) rfl hF (fun v7 s6 hF => ?_)
    refine j_if_eq (pc2 := 16) rfl rfl hF (fun hF => ?_) (fun hF => ?_)
    · refine w_iconst (pc2 := 27) rfl rfl ?_
      exact j_iret rfl rfl hF
    · refine w_iload_n (pc2 := 17) rfl rfl rfl ?_
      refine w_i2l (pc2 := 18) rfl rfl ?_
      refine w_lconst (pc2 := 19) rfl rfl ?_
      refine w_lconst (pc2 := 20) rfl rfl ?_
      refine j_cIs (pc2 := 23) (k := 0) (c := zt_m160) (as := [.long (p3.toInt64), .long (0 : Int64), .long (1 : Int64)]) (rest := []) rfl rfl rfl (Nat.le_of_ble_eq_true rfl) rfl rfl (Nat.le_of_ble_eq_true rfl) (Nat.le_of_ble_eq_true rfl) (fun w1 h1 => ok_Model_in h1) (by decide) rfl hF (fun v9 s8 hF => ?_)
      refine j_if_ne (pc2 := 26) rfl rfl hF (fun hF => ?_) (fun hF => ?_)
      · refine w_aload_n (pc2 := 29) rfl rfl rfl ?_
        refine j_cVv (pc2 := 32) (k := 0) (c := zt_m218) (as := [.ref 216]) (rest := []) rfl rfl rfl rfl zk_cModel.look rfl (Nat.le_of_ble_eq_true rfl) (Nat.le_of_ble_eq_true rfl) (fun w1 h1 => ok_Model_keeps h1) (by decide) rfl hF (fun s10 hF => ?_)
        refine w_aload_n (pc2 := 33) rfl rfl rfl ?_
        refine w_iload_n (pc2 := 34) rfl rfl rfl ?_
        refine w_iload_n (pc2 := 35) rfl rfl rfl ?_
        refine j_cIv (pc2 := 38) (k := 2) (c := zt_m208) (as := [.ref 216, .int p1, .int p2]) (rest := []) rfl rfl rfl rfl zk_cModel.look rfl (Nat.le_of_ble_eq_true rfl) (Nat.le_of_ble_eq_true rfl) (fun w1 h1 => ok_Model_says h1) (by decide) rfl hF (fun v12 s11 hF => ?_)
        refine w_istore (pc2 := 40) (ls2 := [(4, .int v12), (0, .ref 216), (1, .int p1), (2, .int p2), (3, .int p3)]) rfl rfl rfl ?_
        refine w_aload_n (pc2 := 41) rfl rfl rfl ?_
        refine j_cVv (pc2 := 44) (k := 0) (c := zt_m219) (as := [.ref 216]) (rest := []) rfl rfl rfl rfl zk_cModel.look rfl (Nat.le_of_ble_eq_true rfl) (Nat.le_of_ble_eq_true rfl) (fun w1 h1 => ok_Model_laysBack h1) (by decide) rfl hF (fun s13 hF => ?_)
        refine w_bipush (pc2 := 46) rfl rfl ?_
        refine w_istore (pc2 := 48) (ls2 := [(5, .int (-2 : Int32)), (4, .int v12), (0, .ref 216), (1, .int p1), (2, .int p2), (3, .int p3)]) rfl rfl rfl ?_
        refine w_iconst (pc2 := 49) rfl rfl ?_
        refine w_istore (pc2 := 51) (ls2 := [(6, .int (0 : Int32)), (5, .int (-2 : Int32)), (4, .int v12), (0, .ref 216), (1, .int p1), (2, .int p2), (3, .int p3)]) rfl rfl rfl ?_
        refine j_join (P := fun (a15 : Int32) (s14 : ZS) => zz_wp zt_ms zt_nm zt_df (zt_X L xs) 3 zt_m233 104 [(3, .int p3), (4, .int v12), (5, .int a15)] [] (zk b s14) (qI b w)) hF (fun a15 s14 hF => ?_) (fun k16 hk16 hF => ?_)
        · refine w_iload_n (pc2 := 105) rfl rfl rfl ?_
          refine j_if_ne (pc2 := 108) rfl rfl hF (fun hF => ?_) (fun hF => ?_)
          · refine w_iload (pc2 := 118) rfl rfl rfl ?_
            exact j_iret rfl rfl hF
          · refine w_iload (pc2 := 110) rfl rfl rfl ?_
            refine j_cIs (pc2 := 113) (k := 0) (c := zt_m202) (as := [.int v12]) (rest := []) rfl rfl rfl (Nat.le_of_ble_eq_true rfl) rfl rfl (Nat.le_of_ble_eq_true rfl) (Nat.le_of_ble_eq_true rfl) (fun w1 h1 => ok_Model_bits h1) (by decide) rfl hF (fun v18 s17 hF => ?_)
            refine w_goto rfl ?_
            exact j_iret rfl rfl hF
        · refine j_norm (l := [(0, .ref 216), (3, .int p3), (4, .int v12), (5, .int (-2 : Int32)), (6, .int (0 : Int32))]) ⟨rfl, rfl, rfl, rfl, rfl, trivial⟩ (zz_nd_of (ks := [0, 3, 4, 5, 6]) rfl (by decide)) ?_
          refine j_loop (P := fun (a19 : Int32 × Int32) (s20 : ZS) => zz_wp zt_ms zt_nm zt_df (zt_X L xs) 3 zt_m233 51 [(0, .ref 216), (3, .int p3), (4, .int v12), (5, .int a19.1), (6, .int a19.2)] [] (zk b s20) (qI b w)) hF (fun a19 s20 g21 hg21 hF => ?_)
          unfold f_Model_heard_B51 at hF
          refine w_iload (pc2 := 53) rfl rfl rfl ?_
          refine w_aload_n (pc2 := 54) rfl rfl rfl ?_
          refine w_getfield (pc2 := 57) rfl zk_cModel rfl rfl rfl ?_
          refine w_iconst (pc2 := 58) rfl rfl ?_
          refine j_ialoadC (pc2 := 59) (n := 139) (j := 3) rfl rfl (by omega) (by decide) (by decide) (by decide) (by decide) rfl hF (fun v22 hF => ?_)
          refine j_icmp_ge (pc2 := 62) rfl rfl hF (fun hF => ?_) (fun hF => ?_)
          · exact j_norm (l := [(3, .int p3), (4, .int v12), (5, .int a19.1)]) ⟨rfl, rfl, rfl, trivial⟩ (zz_nd_of (ks := [3, 4, 5]) rfl (by decide)) (hk16 a19.1 s20 hF)
          · refine w_iload (pc2 := 64) rfl rfl rfl ?_
            refine w_iload (pc2 := 66) rfl rfl rfl ?_
            refine j_cIs (pc2 := 69) (k := 0) (c := zt_m199) (as := [.int v12, .int a19.2]) (rest := []) rfl rfl rfl (Nat.le_of_ble_eq_true rfl) rfl rfl (Nat.le_of_ble_eq_true rfl) (Nat.le_of_ble_eq_true rfl) (fun w1 h1 => ok_Model_isOf h1) (by decide) rfl hF (fun v24 s23 hF => ?_)
            refine j_join (P := fun (a26 : Int32) (s25 : ZS) => zz_wp zt_ms zt_nm zt_df (zt_X L xs) 3 zt_m233 98 [(0, .ref 216), (3, .int p3), (4, .int v12), (5, .int a26), (6, .int a19.2)] [] (zk b s25) (qI b w)) hF (fun a26 s25 hF => ?_) (fun k27 hk27 hF => ?_)
            · refine w_iinc (pc2 := 101) (ls2 := [(6, .int ((a19.2 + (1 : Int32)))), (0, .ref 216), (3, .int p3), (4, .int v12), (5, .int a26)]) rfl rfl rfl rfl ?_
              refine w_goto rfl ?_
              exact j_norm (l := [(0, .ref 216), (3, .int p3), (4, .int v12), (5, .int a26), (6, .int ((a19.2 + (1 : Int32))))]) ⟨rfl, rfl, rfl, rfl, rfl, trivial⟩ (zz_nd_of (ks := [0, 3, 4, 5, 6]) rfl (by decide)) (hg21 (a26, (a19.2 + (1 : Int32))) s25 hF)
            · refine j_if_eq (pc2 := 72) rfl rfl hF (fun hF => ?_) (fun hF => ?_)
              · exact j_norm (l := [(0, .ref 216), (3, .int p3), (4, .int v12), (5, .int a19.1), (6, .int a19.2)]) ⟨rfl, rfl, rfl, rfl, rfl, trivial⟩ (zz_nd_of (ks := [0, 3, 4, 5, 6]) rfl (by decide)) (hk27 a19.1 s23 hF)
              · refine w_iload (pc2 := 74) rfl rfl rfl ?_
                refine j_join0 (P := fun (s28 : ZS) => zz_wp zt_ms zt_nm zt_df (zt_X L xs) 3 zt_m233 94 [(0, .ref 216), (3, .int p3), (4, .int v12), (6, .int a19.2)] [] (zk b s28) (qI b w)) hF (fun s28 hF => ?_) (fun k29 hk29 hF => ?_)
                · refine w_iload (pc2 := 96) rfl rfl rfl ?_
                  refine w_istore (pc2 := 98) (ls2 := [(5, .int a19.2), (0, .ref 216), (3, .int p3), (4, .int v12), (6, .int a19.2)]) rfl rfl rfl ?_
                  exact j_norm (l := [(0, .ref 216), (3, .int p3), (4, .int v12), (5, .int a19.2), (6, .int a19.2)]) ⟨rfl, rfl, rfl, rfl, rfl, trivial⟩ (zz_nd_of (ks := [0, 3, 4, 5, 6]) rfl (by decide)) (hk27 a19.2 s28 hF)
                · refine j_if_lt (pc2 := 77) rfl rfl hF (fun hF => ?_) (fun hF => ?_)
                  · exact j_norm (l := [(0, .ref 216), (3, .int p3), (4, .int v12), (6, .int a19.2)]) ⟨rfl, rfl, rfl, rfl, trivial⟩ (zz_nd_of (ks := [0, 3, 4, 6]) rfl (by decide)) (hk29 s23 hF)
                  · refine w_aload_n (pc2 := 78) rfl rfl rfl ?_
                    refine w_getfield (pc2 := 81) rfl zk_cModel rfl rfl rfl ?_
                    refine w_iload (pc2 := 83) rfl rfl rfl ?_
                    refine j_iaload (pc2 := 84) (n := 5) rfl rfl (by omega) (by decide) rfl hF (fun v30 hF => ?_)
                    refine w_aload_n (pc2 := 85) rfl rfl rfl ?_
                    refine w_getfield (pc2 := 88) rfl zk_cModel rfl rfl rfl ?_
                    refine w_iload (pc2 := 90) rfl rfl rfl ?_
                    refine j_iaload (pc2 := 91) (n := 5) rfl rfl (by omega) (by decide) rfl hF (fun v31 hF => ?_)
                    refine j_icmp_le (pc2 := 94) rfl rfl hF (fun hF => ?_) (fun hF => ?_)
                    · exact j_norm (l := [(0, .ref 216), (3, .int p3), (4, .int v12), (5, .int a19.1), (6, .int a19.2)]) ⟨rfl, rfl, rfl, rfl, rfl, trivial⟩ (zz_nd_of (ks := [0, 3, 4, 5, 6]) rfl (by decide)) (hk27 a19.1 s23 hF)
                    · exact j_norm (l := [(0, .ref 216), (3, .int p3), (4, .int v12), (6, .int a19.2)]) ⟨rfl, rfl, rfl, rfl, trivial⟩ (zz_nd_of (ks := [0, 3, 4, 6]) rfl (by decide)) (hk29 s23 hF)
      · refine w_iconst (pc2 := 27) rfl rfl ?_
        exact j_iret rfl rfl hF
noncomputable def f_Model_beginsTurn (p1 : Int32) (p2 : Int32) (s0 : ZS) : Option (ZS) := zwa s0 232 5 p1 p2 (fun (s3 : ZS) => zwa s3 233 5 p1 (-1 : Int32) (fun (s4 : ZS) => zwa s4 234 5 p1 (-1 : Int32) (fun (s5 : ZS) => some s5)))
set_option maxHeartbeats 4000000 in
set_option maxRecDepth 100000 in
theorem ok_Model_beginsTurn {L : Nat} {xs : Nat → Int32} {b : ZH} {p1 : Int32} {p2 : Int32} {s0 : ZS} {w : ZS} (hF : f_Model_beginsTurn p1 p2 s0 = some w) : zz_ct zt_ms zt_nm zt_df (zt_X L xs) 0 zt_m236 [.ref 216, .int p1, .int p2] (zk b s0) (qV b w) := by
  unfold f_Model_beginsTurn at hF
  change zz_wp zt_ms zt_nm zt_df (zt_X L xs) 0 zt_m236 0 [(0, .ref 216), (1, .int p1), (2, .int p2)] [] (zk b s0) (qV b w)
  refine w_aload_n (pc2 := 1) rfl rfl rfl ?_
  refine w_getfield (pc2 := 4) rfl zk_cModel rfl rfl rfl ?_
  refine w_iload_n (pc2 := 5) rfl rfl rfl ?_
  refine w_iload_n (pc2 := 6) rfl rfl rfl ?_
  refine j_iastore (pc2 := 7) (n := 5) rfl rfl (by omega) (by decide) rfl hF (fun s3 hF => ?_)
  refine w_aload_n (pc2 := 8) rfl rfl rfl ?_
  refine w_getfield (pc2 := 11) rfl zk_cModel rfl rfl rfl ?_
  refine w_iload_n (pc2 := 12) rfl rfl rfl ?_
  refine w_iconst (pc2 := 13) rfl rfl ?_
  refine j_iastore (pc2 := 14) (n := 5) rfl rfl (by omega) (by decide) rfl hF (fun s4 hF => ?_)
  refine w_aload_n (pc2 := 15) rfl rfl rfl ?_
  refine w_getfield (pc2 := 18) rfl zk_cModel rfl rfl rfl ?_
  refine w_iload_n (pc2 := 19) rfl rfl rfl ?_
  refine w_iconst (pc2 := 20) rfl rfl ?_
  refine j_iastore (pc2 := 21) (n := 5) rfl rfl (by omega) (by decide) rfl hF (fun s5 hF => ?_)
  exact j_vret rfl rfl hF
noncomputable def f_Model_isWorth (p1 : Int32) (p2 : Int32) (s0 : ZS) : Option (ZS) := zrd 5 p1 (s0.1 234) (fun (v3 : Int32) => zjn (A := Int32) (fun (a5 : Int32) (s4 : ZS) => (if ¬ a5 = 0 then zwa s4 234 5 p1 p2 (fun (s7 : ZS) => (if ¬ p1 = 0 then some s7 else zgi (s7.1 233 0) (fun (v8 : Int32) => zwi s7 216 34 v8 (fun (s9 : ZS) => some s9)))) else some s4)) (fun (k6 : Int32 → ZS → Option (ZS)) => zj0 (fun (s10 : ZS) => k6 (1 : Int32) s10) (fun (k11 : ZS → Option (ZS)) => (if v3 < 0 then k11 s0 else zj0 (fun (s12 : ZS) => k6 (0 : Int32) s12) (fun (k13 : ZS → Option (ZS)) => (if ¬ (p1 - p1 / (2 : Int32) * (2 : Int32)) = 0 then zrd 5 p1 (s0.1 234) (fun (v14 : Int32) => (if v14 ≤ p2 then k13 s0 else k11 s0)) else zrd 5 p1 (s0.1 234) (fun (v15 : Int32) => (if p2 ≤ v15 then k13 s0 else k11 s0))))))))
set_option maxHeartbeats 4000000 in
set_option maxRecDepth 100000 in
theorem ok_Model_isWorth {L : Nat} {xs : Nat → Int32} {b : ZH} {p1 : Int32} {p2 : Int32} {s0 : ZS} {w : ZS} (hF : f_Model_isWorth p1 p2 s0 = some w) : zz_ct zt_ms zt_nm zt_df (zt_X L xs) 0 zt_m237 [.ref 216, .int p1, .int p2] (zk b s0) (qV b w) := by
  unfold f_Model_isWorth at hF
  change zz_wp zt_ms zt_nm zt_df (zt_X L xs) 0 zt_m237 0 [(0, .ref 216), (1, .int p1), (2, .int p2)] [] (zk b s0) (qV b w)
  refine w_aload_n (pc2 := 1) rfl rfl rfl ?_
  refine w_getfield (pc2 := 4) rfl zk_cModel rfl rfl rfl ?_
  refine w_iload_n (pc2 := 5) rfl rfl rfl ?_
  refine j_iaload (pc2 := 6) (n := 5) rfl rfl (by omega) (by decide) rfl hF (fun v3 hF => ?_)
  refine j_join (P := fun (a5 : Int32) (s4 : ZS) => zz_wp zt_ms zt_nm zt_df (zt_X L xs) 0 zt_m237 43 [(0, .ref 216), (1, .int p1), (2, .int p2)] [.int a5] (zk b s4) (qV b w)) hF (fun a5 s4 hF => ?_) (fun k6 hk6 hF => ?_)
  · refine w_istore_n (pc2 := 44) (ls2 := [(3, .int a5), (0, .ref 216), (1, .int p1), (2, .int p2)]) rfl rfl rfl ?_
    refine w_iload_n (pc2 := 45) rfl rfl rfl ?_
    refine j_if_ne (pc2 := 48) rfl rfl hF (fun hF => ?_) (fun hF => ?_)
    · refine w_aload_n (pc2 := 50) rfl rfl rfl ?_
      refine w_getfield (pc2 := 53) rfl zk_cModel rfl rfl rfl ?_
      refine w_iload_n (pc2 := 54) rfl rfl rfl ?_
      refine w_iload_n (pc2 := 55) rfl rfl rfl ?_
      refine j_iastore (pc2 := 56) (n := 5) rfl rfl (by omega) (by decide) rfl hF (fun s7 hF => ?_)
      refine w_iload_n (pc2 := 57) rfl rfl rfl ?_
      refine j_if_ne (pc2 := 60) rfl rfl hF (fun hF => ?_) (fun hF => ?_)
      · exact j_vret rfl rfl hF
      · refine w_aload_n (pc2 := 61) rfl rfl rfl ?_
        refine w_aload_n (pc2 := 62) rfl rfl rfl ?_
        refine w_getfield (pc2 := 65) rfl zk_cModel rfl rfl rfl ?_
        refine w_iconst (pc2 := 66) rfl rfl ?_
        refine j_ialoadC (pc2 := 67) (n := 5) (j := 0) rfl rfl (by omega) (by decide) (by decide) (by decide) (by decide) rfl hF (fun v8 hF => ?_)
        refine j_puti (pc2 := 70) (j := 34) rfl zk_cModel rfl (Nat.le_of_ble_eq_true rfl) rfl zk_wModel_34 (by decide) rfl hF (fun s9 hF => ?_)
        exact j_vret rfl rfl hF
    · exact j_vret rfl rfl hF
  · refine j_join0 (P := fun (s10 : ZS) => zz_wp zt_ms zt_nm zt_df (zt_X L xs) 0 zt_m237 38 [(0, .ref 216), (1, .int p1), (2, .int p2)] [] (zk b s10) (qV b w)) hF (fun s10 hF => ?_) (fun k11 hk11 hF => ?_)
    · refine w_iconst (pc2 := 39) rfl rfl ?_
      refine w_goto rfl ?_
      exact j_norm (l := [(0, .ref 216), (1, .int p1), (2, .int p2)]) ⟨rfl, rfl, rfl, trivial⟩ (zz_nd_of (ks := [0, 1, 2]) rfl (by decide)) (hk6 (1 : Int32) s10 hF)
    · refine j_if_lt (pc2 := 9) rfl rfl hF (fun hF => ?_) (fun hF => ?_)
      · exact j_norm (l := [(0, .ref 216), (1, .int p1), (2, .int p2)]) ⟨rfl, rfl, rfl, trivial⟩ (zz_nd_of (ks := [0, 1, 2]) rfl (by decide)) (hk11 s0 hF)
      · refine w_iload_n (pc2 := 10) rfl rfl rfl ?_
        refine w_iconst (pc2 := 11) rfl rfl ?_
        refine w_irem (pc2 := 12) rfl (by decide) rfl ?_
        refine j_join0 (P := fun (s12 : ZS) => zz_wp zt_ms zt_nm zt_df (zt_X L xs) 0 zt_m237 42 [(0, .ref 216), (1, .int p1), (2, .int p2)] [] (zk b s12) (qV b w)) hF (fun s12 hF => ?_) (fun k13 hk13 hF => ?_)
        · refine w_iconst (pc2 := 43) rfl rfl ?_
          exact j_norm (l := [(0, .ref 216), (1, .int p1), (2, .int p2)]) ⟨rfl, rfl, rfl, trivial⟩ (zz_nd_of (ks := [0, 1, 2]) rfl (by decide)) (hk6 (0 : Int32) s12 hF)
        · refine j_if_ne (pc2 := 15) rfl rfl hF (fun hF => ?_) (fun hF => ?_)
          · refine w_iload_n (pc2 := 29) rfl rfl rfl ?_
            refine w_aload_n (pc2 := 30) rfl rfl rfl ?_
            refine w_getfield (pc2 := 33) rfl zk_cModel rfl rfl rfl ?_
            refine w_iload_n (pc2 := 34) rfl rfl rfl ?_
            refine j_iaload (pc2 := 35) (n := 5) rfl rfl (by omega) (by decide) rfl hF (fun v14 hF => ?_)
            refine j_icmp_ge (pc2 := 38) rfl rfl hF (fun hF => ?_) (fun hF => ?_)
            · exact j_norm (l := [(0, .ref 216), (1, .int p1), (2, .int p2)]) ⟨rfl, rfl, rfl, trivial⟩ (zz_nd_of (ks := [0, 1, 2]) rfl (by decide)) (hk13 s0 hF)
            · exact j_norm (l := [(0, .ref 216), (1, .int p1), (2, .int p2)]) ⟨rfl, rfl, rfl, trivial⟩ (zz_nd_of (ks := [0, 1, 2]) rfl (by decide)) (hk11 s0 hF)
          · refine w_iload_n (pc2 := 16) rfl rfl rfl ?_
            refine w_aload_n (pc2 := 17) rfl rfl rfl ?_
            refine w_getfield (pc2 := 20) rfl zk_cModel rfl rfl rfl ?_
            refine w_iload_n (pc2 := 21) rfl rfl rfl ?_
            refine j_iaload (pc2 := 22) (n := 5) rfl rfl (by omega) (by decide) rfl hF (fun v15 hF => ?_)
            refine j_icmp_le (pc2 := 25) rfl rfl hF (fun hF => ?_) (fun hF => ?_)
            · exact j_norm (l := [(0, .ref 216), (1, .int p1), (2, .int p2)]) ⟨rfl, rfl, rfl, trivial⟩ (zz_nd_of (ks := [0, 1, 2]) rfl (by decide)) (hk13 s0 hF)
            · refine w_goto rfl ?_
              exact j_norm (l := [(0, .ref 216), (1, .int p1), (2, .int p2)]) ⟨rfl, rfl, rfl, trivial⟩ (zz_nd_of (ks := [0, 1, 2]) rfl (by decide)) (hk11 s0 hF)
noncomputable def f_Model_temperThen (p1 : Int32) (p2 : Int32) (s0 : ZS) : Option (Int32 × ZS) := zrd 5 p2 (s0.1 232) (fun (v3 : Int32) => (if ¬ (p2 - p2 / (2 : Int32) * (2 : Int32)) = 0 then zrd 5 p2 (s0.1 233) (fun (v4 : Int32) => (if ¬ v4 = (1 : Int32) then (if v3 ≤ (5 : Int32) then some ((0 : Int32), s0) else some ((v3 - (5 : Int32)), s0)) else some (v3, s0))) else zrd 5 p2 (s0.1 233) (fun (v5 : Int32) => zgi (s0.1 226 4) (fun (v6 : Int32) => zjn (A := Int32) (fun (a8 : Int32) (s7 : ZS) => zcl (f_Model_held (v3 + a8) s7) (fun (v11 : Int32) (s10 : ZS) => some (v11, s10))) (fun (k9 : Int32 → ZS → Option (Int32 × ZS)) => (if v6 ≤ v5 then k9 (3 : Int32) s0 else zrd 5 p2 (s0.1 233) (fun (v12 : Int32) => zcl (f_Model_hurts p1 v12 s0) (fun (v14 : Int32) (s13 : ZS) => k9 v14 s13))))))))
set_option maxHeartbeats 4000000 in
set_option maxRecDepth 100000 in
theorem ok_Model_temperThen {L : Nat} {xs : Nat → Int32} {b : ZH} {p1 : Int32} {p2 : Int32} {s0 : ZS} {w : Int32 × ZS} (hF : f_Model_temperThen p1 p2 s0 = some w) : zz_ct zt_ms zt_nm zt_df (zt_X L xs) 1 zt_m238 [.ref 216, .int p1, .int p2] (zk b s0) (qI b w) := by
  unfold f_Model_temperThen at hF
  change zz_wp zt_ms zt_nm zt_df (zt_X L xs) 1 zt_m238 0 [(0, .ref 216), (1, .int p1), (2, .int p2)] [] (zk b s0) (qI b w)
  refine w_aload_n (pc2 := 1) rfl rfl rfl ?_
  refine w_getfield (pc2 := 4) rfl zk_cModel rfl rfl rfl ?_
  refine w_iload_n (pc2 := 5) rfl rfl rfl ?_
  refine j_iaload (pc2 := 6) (n := 5) rfl rfl (by omega) (by decide) rfl hF (fun v3 hF => ?_)
  refine w_istore_n (pc2 := 7) (ls2 := [(3, .int v3), (0, .ref 216), (1, .int p1), (2, .int p2)]) rfl rfl rfl ?_
  refine w_iload_n (pc2 := 8) rfl rfl rfl ?_
  refine w_iconst (pc2 := 9) rfl rfl ?_
  refine w_irem (pc2 := 10) rfl (by decide) rfl ?_
  refine j_if_ne (pc2 := 13) rfl rfl hF (fun hF => ?_) (fun hF => ?_)
  · refine w_aload_n (pc2 := 50) rfl rfl rfl ?_
    refine w_getfield (pc2 := 53) rfl zk_cModel rfl rfl rfl ?_
    refine w_iload_n (pc2 := 54) rfl rfl rfl ?_
    refine j_iaload (pc2 := 55) (n := 5) rfl rfl (by omega) (by decide) rfl hF (fun v4 hF => ?_)
    refine w_iconst (pc2 := 56) rfl rfl ?_
    refine j_icmp_ne (pc2 := 59) rfl rfl hF (fun hF => ?_) (fun hF => ?_)
    · refine w_iload_n (pc2 := 64) rfl rfl rfl ?_
      refine w_iconst (pc2 := 65) rfl rfl ?_
      refine j_icmp_le (pc2 := 68) rfl rfl hF (fun hF => ?_) (fun hF => ?_)
      · refine w_iconst (pc2 := 75) rfl rfl ?_
        exact j_iret rfl rfl hF
      · refine w_iload_n (pc2 := 69) rfl rfl rfl ?_
        refine w_iconst (pc2 := 70) rfl rfl ?_
        refine w_isub (pc2 := 71) rfl rfl ?_
        refine w_goto rfl ?_
        exact j_iret rfl rfl hF
    · refine w_iload_n (pc2 := 60) rfl rfl rfl ?_
      refine w_goto rfl ?_
      exact j_iret rfl rfl hF
  · refine w_iload_n (pc2 := 14) rfl rfl rfl ?_
    refine w_aload_n (pc2 := 15) rfl rfl rfl ?_
    refine w_getfield (pc2 := 18) rfl zk_cModel rfl rfl rfl ?_
    refine w_iload_n (pc2 := 19) rfl rfl rfl ?_
    refine j_iaload (pc2 := 20) (n := 5) rfl rfl (by omega) (by decide) rfl hF (fun v5 hF => ?_)
    refine w_aload_n (pc2 := 21) rfl rfl rfl ?_
    refine w_getfield (pc2 := 24) rfl zk_cModel rfl rfl rfl ?_
    refine w_iconst (pc2 := 25) rfl rfl ?_
    refine j_ialoadC (pc2 := 26) (n := 139) (j := 4) rfl rfl (by omega) (by decide) (by decide) (by decide) (by decide) rfl hF (fun v6 hF => ?_)
    refine j_join (P := fun (a8 : Int32) (s7 : ZS) => zz_wp zt_ms zt_nm zt_df (zt_X L xs) 1 zt_m238 44 [] [.int a8, .int v3] (zk b s7) (qI b w)) hF (fun a8 s7 hF => ?_) (fun k9 hk9 hF => ?_)
    · refine w_iadd (pc2 := 45) rfl rfl ?_
      refine j_cIs (pc2 := 48) (k := 0) (c := zt_m210) (as := [.int (v3 + a8)]) (rest := []) rfl rfl rfl (Nat.le_of_ble_eq_true rfl) rfl rfl (Nat.le_of_ble_eq_true rfl) (Nat.le_of_ble_eq_true rfl) (fun w1 h1 => ok_Model_held h1) (by decide) rfl hF (fun v11 s10 hF => ?_)
      exact j_iret rfl rfl hF
    · refine j_icmp_ge (pc2 := 29) rfl rfl hF (fun hF => ?_) (fun hF => ?_)
      · refine w_iconst (pc2 := 44) rfl rfl ?_
        exact j_norm (l := []) trivial (zz_nd_of (ks := []) rfl (by decide)) (hk9 (3 : Int32) s0 hF)
      · refine w_aload_n (pc2 := 30) rfl rfl rfl ?_
        refine w_iload_n (pc2 := 31) rfl rfl rfl ?_
        refine w_aload_n (pc2 := 32) rfl rfl rfl ?_
        refine w_getfield (pc2 := 35) rfl zk_cModel rfl rfl rfl ?_
        refine w_iload_n (pc2 := 36) rfl rfl rfl ?_
        refine j_iaload (pc2 := 37) (n := 5) rfl rfl (by omega) (by decide) rfl hF (fun v12 hF => ?_)
        refine j_cIv (pc2 := 40) (k := 0) (c := zt_m191) (as := [.ref 216, .int p1, .int v12]) (rest := [.int v3]) rfl rfl rfl rfl zk_cModel.look rfl (Nat.le_of_ble_eq_true rfl) (Nat.le_of_ble_eq_true rfl) (fun w1 h1 => ok_Model_hurts h1) (by decide) rfl hF (fun v14 s13 hF => ?_)
        refine w_goto rfl ?_
        exact j_norm (l := []) trivial (zz_nd_of (ks := []) rfl (by decide)) (hk9 v14 s13 hF)
noncomputable def f_Model_plays_B12 (p1 : Int32) (p2 : Int32) (a6 : Int32) (s7 : ZS) (g8 : Int32 → ZS → Option (ZS)) : Option (ZS) := (if a6 < 0 then some s7 else zrd 5 a6 (s7.1 233) (fun (v9 : Int32) => zwa s7 233 5 a6 ((v9 + (1 : Int32))) (fun (s10 : ZS) => zrd 5 a6 (s10.1 233) (fun (v11 : Int32) => zjn (A := Int32) (fun (a13 : Int32) (s12 : ZS) => (if v11 ≤ a13 then zcl (f_Model_temperThen p1 a6 s12) (fun (v16 : Int32) (s15 : ZS) => zjn (A := Int32) (fun (a18 : Int32) (s17 : ZS) => g8 a18 s17) (fun (k19 : Int32 → ZS → Option (ZS)) => zj0 (fun (s20 : ZS) => zcv (f_Model_isWorth a6 v16 s20) (fun (s22 : ZS) => k19 a6 s22)) (fun (k21 : ZS → Option (ZS)) => (if (a6 + (1 : Int32)) = p2 then k21 s15 else zrd 139 (((57 : Int32) + p1)) (s15.1 226) (fun (v23 : Int32) => (if v16 < v23 then zcv (f_Model_beginsTurn ((a6 + (1 : Int32))) v16 s15) (fun (s24 : ZS) => k19 (a6 + (1 : Int32)) s24) else k21 s15)))))) else zj0 (fun (s25 : ZS) => g8 (a6 + (-1 : Int32)) s25) (fun (k26 : ZS → Option (ZS)) => (if a6 ≤ 0 then k26 s12 else zrd 5 a6 (s12.1 234) (fun (v27 : Int32) => zcv (f_Model_isWorth ((a6 - (1 : Int32))) v27 s12) (fun (s28 : ZS) => k26 s28)))))) (fun (k14 : Int32 → ZS → Option (ZS)) => (if ¬ (a6 - a6 / (2 : Int32) * (2 : Int32)) = 0 then k14 (1 : Int32) s10 else zgi (s10.1 226 4) (fun (v29 : Int32) => k14 v29 s10)))))))
noncomputable def f_Model_plays (p1 : Int32) (p2 : Int32) (s0 : ZS) : Option (ZS) := zcl (f_Model_temperOf p1 s0) (fun (v4 : Int32) (s3 : ZS) => zcv (f_Model_beginsTurn (0 : Int32) v4 s3) (fun (s5 : ZS) => zlp zN (f_Model_plays_B12 p1 p2) (0 : Int32) s5))
set_option maxHeartbeats 4000000 in
set_option maxRecDepth 100000 in
theorem ok_Model_plays {L : Nat} {xs : Nat → Int32} {b : ZH} {p1 : Int32} {p2 : Int32} {s0 : ZS} {w : ZS} (hF : f_Model_plays p1 p2 s0 = some w) : zz_ct zt_ms zt_nm zt_df (zt_X L xs) 2 zt_m235 [.ref 216, .int p1, .int p2] (zk b s0) (qV b w) := by
  unfold f_Model_plays at hF
  change zz_wp zt_ms zt_nm zt_df (zt_X L xs) 2 zt_m235 0 [(0, .ref 216), (1, .int p1), (2, .int p2)] [] (zk b s0) (qV b w)
  refine w_iconst (pc2 := 1) rfl rfl ?_
  refine w_istore_n (pc2 := 2) (ls2 := [(3, .int (0 : Int32)), (0, .ref 216), (1, .int p1), (2, .int p2)]) rfl rfl rfl ?_
  refine w_aload_n (pc2 := 3) rfl rfl rfl ?_
  refine w_iconst (pc2 := 4) rfl rfl ?_
  refine w_aload_n (pc2 := 5) rfl rfl rfl ?_
  refine w_iload_n (pc2 := 6) rfl rfl rfl ?_
  refine j_cIv (pc2 := 9) (k := 0) (c := zt_m187) (as := [.ref 216, .int p1]) (rest := [.int (0 : Int32), .ref 216]) rfl rfl rfl rfl zk_cModel.look rfl (Nat.le_of_ble_eq_true rfl) (Nat.le_of_ble_eq_true rfl) (fun w1 h1 => ok_Model_temperOf h1) (by decide) rfl hF (fun v4 s3 hF => ?_)
  refine j_cVv (pc2 := 12) (k := 0) (c := zt_m236) (as := [.ref 216, .int (0 : Int32), .int v4]) (rest := []) rfl rfl rfl rfl zk_cModel.look rfl (Nat.le_of_ble_eq_true rfl) (Nat.le_of_ble_eq_true rfl) (fun w1 h1 => ok_Model_beginsTurn h1) (by decide) rfl hF (fun s5 hF => ?_)
  refine j_norm (l := [(0, .ref 216), (1, .int p1), (2, .int p2), (3, .int (0 : Int32))]) ⟨rfl, rfl, rfl, rfl, trivial⟩ (zz_nd_of (ks := [0, 1, 2, 3]) rfl (by decide)) ?_
  refine j_loop (P := fun (a6 : Int32) (s7 : ZS) => zz_wp zt_ms zt_nm zt_df (zt_X L xs) 2 zt_m235 12 [(0, .ref 216), (1, .int p1), (2, .int p2), (3, .int a6)] [] (zk b s7) (qV b w)) hF (fun a6 s7 g8 hg8 hF => ?_)
  unfold f_Model_plays_B12 at hF
  refine w_iload_n (pc2 := 13) rfl rfl rfl ?_
  refine j_if_lt (pc2 := 16) rfl rfl hF (fun hF => ?_) (fun hF => ?_)
  · exact j_vret rfl rfl hF
  · refine w_aload_n (pc2 := 17) rfl rfl rfl ?_
    refine w_getfield (pc2 := 20) rfl zk_cModel rfl rfl rfl ?_
    refine w_iload_n (pc2 := 21) rfl rfl rfl ?_
    refine w_dup2 (pc2 := 22) rfl rfl rfl rfl ?_
    refine j_iaload (pc2 := 23) (n := 5) rfl rfl (by omega) (by decide) rfl hF (fun v9 hF => ?_)
    refine w_iconst (pc2 := 24) rfl rfl ?_
    refine w_iadd (pc2 := 25) rfl rfl ?_
    refine j_iastore (pc2 := 26) (n := 5) rfl rfl (by omega) (by decide) rfl hF (fun s10 hF => ?_)
    refine w_aload_n (pc2 := 27) rfl rfl rfl ?_
    refine w_getfield (pc2 := 30) rfl zk_cModel rfl rfl rfl ?_
    refine w_iload_n (pc2 := 31) rfl rfl rfl ?_
    refine j_iaload (pc2 := 32) (n := 5) rfl rfl (by omega) (by decide) rfl hF (fun v11 hF => ?_)
    refine w_iload_n (pc2 := 33) rfl rfl rfl ?_
    refine w_iconst (pc2 := 34) rfl rfl ?_
    refine w_irem (pc2 := 35) rfl (by decide) rfl ?_
    refine j_join (P := fun (a13 : Int32) (s12 : ZS) => zz_wp zt_ms zt_nm zt_df (zt_X L xs) 2 zt_m235 48 [(0, .ref 216), (1, .int p1), (2, .int p2), (3, .int a6)] [.int a13, .int v11] (zk b s12) (qV b w)) hF (fun a13 s12 hF => ?_) (fun k14 hk14 hF => ?_)
    · refine j_icmp_le (pc2 := 51) rfl rfl hF (fun hF => ?_) (fun hF => ?_)
      · refine w_aload_n (pc2 := 75) rfl rfl rfl ?_
        refine w_iload_n (pc2 := 76) rfl rfl rfl ?_
        refine w_iload_n (pc2 := 77) rfl rfl rfl ?_
        refine j_cIv (pc2 := 80) (k := 1) (c := zt_m238) (as := [.ref 216, .int p1, .int a6]) (rest := []) rfl rfl rfl rfl zk_cModel.look rfl (Nat.le_of_ble_eq_true rfl) (Nat.le_of_ble_eq_true rfl) (fun w1 h1 => ok_Model_temperThen h1) (by decide) rfl hF (fun v16 s15 hF => ?_)
        refine w_istore (pc2 := 82) (ls2 := [(4, .int v16), (0, .ref 216), (1, .int p1), (2, .int p2), (3, .int a6)]) rfl rfl rfl ?_
        refine w_iload_n (pc2 := 83) rfl rfl rfl ?_
        refine w_iconst (pc2 := 84) rfl rfl ?_
        refine w_iadd (pc2 := 85) rfl rfl ?_
        refine w_iload_n (pc2 := 86) rfl rfl rfl ?_
        refine j_join (P := fun (a18 : Int32) (s17 : ZS) => zz_wp zt_ms zt_nm zt_df (zt_X L xs) 2 zt_m235 123 [(0, .ref 216), (1, .int p1), (2, .int p2), (3, .int a18)] [] (zk b s17) (qV b w)) hF (fun a18 s17 hF => ?_) (fun k19 hk19 hF => ?_)
        · refine w_goto rfl ?_
          exact j_norm (l := [(0, .ref 216), (1, .int p1), (2, .int p2), (3, .int a18)]) ⟨rfl, rfl, rfl, rfl, trivial⟩ (zz_nd_of (ks := [0, 1, 2, 3]) rfl (by decide)) (hg8 a18 s17 hF)
        · refine j_join0 (P := fun (s20 : ZS) => zz_wp zt_ms zt_nm zt_df (zt_X L xs) 2 zt_m235 103 [(0, .ref 216), (1, .int p1), (2, .int p2), (3, .int a6), (4, .int v16)] [] (zk b s20) (qV b w)) hF (fun s20 hF => ?_) (fun k21 hk21 hF => ?_)
          · refine w_aload_n (pc2 := 104) rfl rfl rfl ?_
            refine w_iload_n (pc2 := 105) rfl rfl rfl ?_
            refine w_iload (pc2 := 107) rfl rfl rfl ?_
            refine j_cVv (pc2 := 110) (k := 0) (c := zt_m237) (as := [.ref 216, .int a6, .int v16]) (rest := []) rfl rfl rfl rfl zk_cModel.look rfl (Nat.le_of_ble_eq_true rfl) (Nat.le_of_ble_eq_true rfl) (fun w1 h1 => ok_Model_isWorth h1) (by decide) rfl hF (fun s22 hF => ?_)
            refine w_goto rfl ?_
            exact j_norm (l := [(0, .ref 216), (1, .int p1), (2, .int p2), (3, .int a6)]) ⟨rfl, rfl, rfl, rfl, trivial⟩ (zz_nd_of (ks := [0, 1, 2, 3]) rfl (by decide)) (hk19 a6 s22 hF)
          · refine j_icmp_eq (pc2 := 89) rfl rfl hF (fun hF => ?_) (fun hF => ?_)
            · exact j_norm (l := [(0, .ref 216), (1, .int p1), (2, .int p2), (3, .int a6), (4, .int v16)]) ⟨rfl, rfl, rfl, rfl, rfl, trivial⟩ (zz_nd_of (ks := [0, 1, 2, 3, 4]) rfl (by decide)) (hk21 s15 hF)
            · refine w_iload (pc2 := 91) rfl rfl rfl ?_
              refine w_aload_n (pc2 := 92) rfl rfl rfl ?_
              refine w_getfield (pc2 := 95) rfl zk_cModel rfl rfl rfl ?_
              refine w_bipush (pc2 := 97) rfl rfl ?_
              refine w_iload_n (pc2 := 98) rfl rfl rfl ?_
              refine w_iadd (pc2 := 99) rfl rfl ?_
              refine j_iaload (pc2 := 100) (n := 139) rfl rfl (by omega) (by decide) rfl hF (fun v23 hF => ?_)
              refine j_icmp_lt (pc2 := 103) rfl rfl hF (fun hF => ?_) (fun hF => ?_)
              · refine w_iinc (pc2 := 116) (ls2 := [(3, .int ((a6 + (1 : Int32)))), (4, .int v16), (0, .ref 216), (1, .int p1), (2, .int p2)]) rfl rfl rfl rfl ?_
                refine w_aload_n (pc2 := 117) rfl rfl rfl ?_
                refine w_iload_n (pc2 := 118) rfl rfl rfl ?_
                refine w_iload (pc2 := 120) rfl rfl rfl ?_
                refine j_cVv (pc2 := 123) (k := 0) (c := zt_m236) (as := [.ref 216, .int ((a6 + (1 : Int32))), .int v16]) (rest := []) rfl rfl rfl rfl zk_cModel.look rfl (Nat.le_of_ble_eq_true rfl) (Nat.le_of_ble_eq_true rfl) (fun w1 h1 => ok_Model_beginsTurn h1) (by decide) rfl hF (fun s24 hF => ?_)
                exact j_norm (l := [(0, .ref 216), (1, .int p1), (2, .int p2), (3, .int ((a6 + (1 : Int32))))]) ⟨rfl, rfl, rfl, rfl, trivial⟩ (zz_nd_of (ks := [0, 1, 2, 3]) rfl (by decide)) (hk19 (a6 + (1 : Int32)) s24 hF)
              · exact j_norm (l := [(0, .ref 216), (1, .int p1), (2, .int p2), (3, .int a6), (4, .int v16)]) ⟨rfl, rfl, rfl, rfl, rfl, trivial⟩ (zz_nd_of (ks := [0, 1, 2, 3, 4]) rfl (by decide)) (hk21 s15 hF)
      · refine w_iload_n (pc2 := 52) rfl rfl rfl ?_
        refine j_join0 (P := fun (s25 : ZS) => zz_wp zt_ms zt_nm zt_df (zt_X L xs) 2 zt_m235 68 [(0, .ref 216), (1, .int p1), (2, .int p2), (3, .int a6)] [] (zk b s25) (qV b w)) hF (fun s25 hF => ?_) (fun k26 hk26 hF => ?_)
        · refine w_iinc (pc2 := 71) (ls2 := [(3, .int ((a6 + (-1 : Int32)))), (0, .ref 216), (1, .int p1), (2, .int p2)]) rfl rfl rfl rfl ?_
          refine w_goto rfl ?_
          exact j_norm (l := [(0, .ref 216), (1, .int p1), (2, .int p2), (3, .int ((a6 + (-1 : Int32))))]) ⟨rfl, rfl, rfl, rfl, trivial⟩ (zz_nd_of (ks := [0, 1, 2, 3]) rfl (by decide)) (hg8 (a6 + (-1 : Int32)) s25 hF)
        · refine j_if_le (pc2 := 55) rfl rfl hF (fun hF => ?_) (fun hF => ?_)
          · exact j_norm (l := [(0, .ref 216), (1, .int p1), (2, .int p2), (3, .int a6)]) ⟨rfl, rfl, rfl, rfl, trivial⟩ (zz_nd_of (ks := [0, 1, 2, 3]) rfl (by decide)) (hk26 s12 hF)
          · refine w_aload_n (pc2 := 56) rfl rfl rfl ?_
            refine w_iload_n (pc2 := 57) rfl rfl rfl ?_
            refine w_iconst (pc2 := 58) rfl rfl ?_
            refine w_isub (pc2 := 59) rfl rfl ?_
            refine w_aload_n (pc2 := 60) rfl rfl rfl ?_
            refine w_getfield (pc2 := 63) rfl zk_cModel rfl rfl rfl ?_
            refine w_iload_n (pc2 := 64) rfl rfl rfl ?_
            refine j_iaload (pc2 := 65) (n := 5) rfl rfl (by omega) (by decide) rfl hF (fun v27 hF => ?_)
            refine j_cVv (pc2 := 68) (k := 0) (c := zt_m237) (as := [.ref 216, .int ((a6 - (1 : Int32))), .int v27]) (rest := []) rfl rfl rfl rfl zk_cModel.look rfl (Nat.le_of_ble_eq_true rfl) (Nat.le_of_ble_eq_true rfl) (fun w1 h1 => ok_Model_isWorth h1) (by decide) rfl hF (fun s28 hF => ?_)
            exact j_norm (l := [(0, .ref 216), (1, .int p1), (2, .int p2), (3, .int a6)]) ⟨rfl, rfl, rfl, rfl, trivial⟩ (zz_nd_of (ks := [0, 1, 2, 3]) rfl (by decide)) (hk26 s28 hF)
    · refine j_if_ne (pc2 := 38) rfl rfl hF (fun hF => ?_) (fun hF => ?_)
      · refine w_iconst (pc2 := 48) rfl rfl ?_
        exact j_norm (l := [(0, .ref 216), (1, .int p1), (2, .int p2), (3, .int a6)]) ⟨rfl, rfl, rfl, rfl, trivial⟩ (zz_nd_of (ks := [0, 1, 2, 3]) rfl (by decide)) (hk14 (1 : Int32) s10 hF)
      · refine w_aload_n (pc2 := 39) rfl rfl rfl ?_
        refine w_getfield (pc2 := 42) rfl zk_cModel rfl rfl rfl ?_
        refine w_iconst (pc2 := 43) rfl rfl ?_
        refine j_ialoadC (pc2 := 44) (n := 139) (j := 4) rfl rfl (by omega) (by decide) (by decide) (by decide) (by decide) rfl hF (fun v29 hF => ?_)
        refine w_goto rfl ?_
        exact j_norm (l := [(0, .ref 216), (1, .int p1), (2, .int p2), (3, .int a6)]) ⟨rfl, rfl, rfl, rfl, trivial⟩ (zz_nd_of (ks := [0, 1, 2, 3]) rfl (by decide)) (hk14 v29 s10 hF)
noncomputable def f_Model_game (p1 : Int32) (p2 : Int32) (p3 : Int32) (s0 : ZS) : Option (Int32 × ZS) := zcl (f_Model_isBare p1 s0) (fun (v5 : Int32) (s4 : ZS) => (if v5 = 0 then some ((-1 : Int32), s4) else zcl (f_Model_in (p2.toInt64) (1 : Int64) (4 : Int64) s4) (fun (v7 : Int32) (s6 : ZS) => (if v7 = 0 then some ((-1 : Int32), s6) else zcl (f_Model_in (p3.toInt64) (0 : Int64) (1 : Int64) s6) (fun (v9 : Int32) (s8 : ZS) => (if ¬ v9 = 0 then zcv (f_Model_plays p1 p2 s8) (fun (s10 : ZS) => (if ¬ p3 = 0 then zgi (s10.1 216 34) (fun (v11 : Int32) => some (v11, s10)) else zgi (s10.1 234 0) (fun (v12 : Int32) => some (v12, s10)))) else some ((-1 : Int32), s8)))))))
set_option maxHeartbeats 4000000 in
set_option maxRecDepth 100000 in
theorem ok_Model_game {L : Nat} {xs : Nat → Int32} {b : ZH} {p1 : Int32} {p2 : Int32} {p3 : Int32} {s0 : ZS} {w : Int32 × ZS} (hF : f_Model_game p1 p2 p3 s0 = some w) : zz_ct zt_ms zt_nm zt_df (zt_X L xs) 3 zt_m234 [.ref 216, .int p1, .int p2, .int p3] (zk b s0) (qI b w) := by
  unfold f_Model_game at hF
  change zz_wp zt_ms zt_nm zt_df (zt_X L xs) 3 zt_m234 0 [(0, .ref 216), (1, .int p1), (2, .int p2), (3, .int p3)] [] (zk b s0) (qI b w)
  refine w_aload_n (pc2 := 1) rfl rfl rfl ?_
  refine w_iload_n (pc2 := 2) rfl rfl rfl ?_
  refine j_cIv (pc2 := 5) (k := 1) (c := zt_m197) (as := [.ref 216, .int p1]) (rest := []) rfl rfl rfl rfl zk_cModel.look rfl (Nat.le_of_ble_eq_true rfl) (Nat.le_of_ble_eq_true rfl) (fun w1 h1 => ok_Model_isBare h1) (by decide) rfl hF (fun v5 s4 hF => ?_)
  refine j_if_eq (pc2 := 8) rfl rfl hF (fun hF => ?_) (fun hF => ?_)
  · refine w_iconst (pc2 := 31) rfl rfl ?_
    exact j_iret rfl rfl hF
  · refine w_iload_n (pc2 := 9) rfl rfl rfl ?_
    refine w_i2l (pc2 := 10) rfl rfl ?_
    refine w_lconst (pc2 := 11) rfl rfl ?_
    refine w_ldc2_w (pc2 := 14) rfl rfl ?_
    refine j_cIs (pc2 := 17) (k := 0) (c := zt_m160) (as := [.long (p2.toInt64), .long (1 : Int64), .long (4 : Int64)]) (rest := []) rfl rfl rfl (Nat.le_of_ble_eq_true rfl) rfl rfl (Nat.le_of_ble_eq_true rfl) (Nat.le_of_ble_eq_true rfl) (fun w1 h1 => ok_Model_in h1) (by decide) rfl hF (fun v7 s6 hF => ?_)
    refine j_if_eq (pc2 := 20) rfl rfl hF (fun hF => ?_) (fun hF => ?_)
    · refine w_iconst (pc2 := 31) rfl rfl ?_
      exact j_iret rfl rfl hF
    · refine w_iload_n (pc2 := 21) rfl rfl rfl ?_
      refine w_i2l (pc2 := 22) rfl rfl ?_
      refine w_lconst (pc2 := 23) rfl rfl ?_
      refine w_lconst (pc2 := 24) rfl rfl ?_
      refine j_cIs (pc2 := 27) (k := 0) (c := zt_m160) (as := [.long (p3.toInt64), .long (0 : Int64), .long (1 : Int64)]) (rest := []) rfl rfl rfl (Nat.le_of_ble_eq_true rfl) rfl rfl (Nat.le_of_ble_eq_true rfl) (Nat.le_of_ble_eq_true rfl) (fun w1 h1 => ok_Model_in h1) (by decide) rfl hF (fun v9 s8 hF => ?_)
      refine j_if_ne (pc2 := 30) rfl rfl hF (fun hF => ?_) (fun hF => ?_)
      · refine w_aload_n (pc2 := 33) rfl rfl rfl ?_
        refine w_iload_n (pc2 := 34) rfl rfl rfl ?_
        refine w_iload_n (pc2 := 35) rfl rfl rfl ?_
        refine j_cVv (pc2 := 38) (k := 2) (c := zt_m235) (as := [.ref 216, .int p1, .int p2]) (rest := []) rfl rfl rfl rfl zk_cModel.look rfl (Nat.le_of_ble_eq_true rfl) (Nat.le_of_ble_eq_true rfl) (fun w1 h1 => ok_Model_plays h1) (by decide) rfl hF (fun s10 hF => ?_)
        refine w_iload_n (pc2 := 39) rfl rfl rfl ?_
        refine j_if_ne (pc2 := 42) rfl rfl hF (fun hF => ?_) (fun hF => ?_)
        · refine w_aload_n (pc2 := 52) rfl rfl rfl ?_
          refine j_geti (pc2 := 55) rfl zk_cModel rfl rfl rfl hF (fun v11 hF => ?_)
          exact j_iret rfl rfl hF
        · refine w_aload_n (pc2 := 43) rfl rfl rfl ?_
          refine w_getfield (pc2 := 46) rfl zk_cModel rfl rfl rfl ?_
          refine w_iconst (pc2 := 47) rfl rfl ?_
          refine j_ialoadC (pc2 := 48) (n := 5) (j := 0) rfl rfl (by omega) (by decide) (by decide) (by decide) (by decide) rfl hF (fun v12 hF => ?_)
          refine w_goto rfl ?_
          exact j_iret rfl rfl hF
      · refine w_iconst (pc2 := 31) rfl rfl ?_
        exact j_iret rfl rfl hF
noncomputable def f_Model_spark_B26 (p1 : Int32) (k7 : Int32 → ZS → Option (Int32 × ZS)) (a11 : Int32 × Int32) (s12 : ZS) (g13 : (Int32 × Int32) → ZS → Option (Int32 × ZS)) : Option (Int32 × ZS) := zgi (s12.1 226 4) (fun (v14 : Int32) => (if v14 ≤ a11.2 then k7 a11.1 s12 else zcl (f_Model_hurts p1 a11.2 s12) (fun (v16 : Int32) (s15 : ZS) => zjn (A := Int32) (fun (a18 : Int32) (s17 : ZS) => g13 (a18, (a11.2 + (1 : Int32))) s17) (fun (k19 : Int32 → ZS → Option (Int32 × ZS)) => (if v16 ≤ a11.1 then k19 a11.1 s15 else zcl (f_Model_hurts p1 a11.2 s15) (fun (v21 : Int32) (s20 : ZS) => k19 v21 s20))))))
noncomputable def f_Model_spark (p1 : Int32) (s0 : ZS) : Option (Int32 × ZS) := zcl (f_Model_isBare p1 s0) (fun (v3 : Int32) (s2 : ZS) => (if ¬ v3 = 0 then zgi (s2.1 226 4) (fun (v4 : Int32) => (if ¬ v4 = 0 then zjn (A := Int32) (fun (a6 : Int32) (s5 : ZS) => zrd 139 (((57 : Int32) + p1)) (s5.1 226) (fun (v8 : Int32) => zcl (f_Model_temperOf p1 s5) (fun (v10 : Int32) (s9 : ZS) => (if 0 < (v8 - v10) then (if ¬ a6 = 0 then zdv a6 (some (((((v8 - v10) + a6) - (1 : Int32)) / a6), s9)) else some ((-2 : Int32), s9)) else some ((1 : Int32), s9))))) (fun (k7 : Int32 → ZS → Option (Int32 × ZS)) => zlp zN (f_Model_spark_B26 p1 k7) ((0 : Int32), (0 : Int32)) s2) else some ((-2 : Int32), s2))) else some ((-1 : Int32), s2)))
set_option maxHeartbeats 4000000 in
set_option maxRecDepth 100000 in
theorem ok_Model_spark {L : Nat} {xs : Nat → Int32} {b : ZH} {p1 : Int32} {s0 : ZS} {w : Int32 × ZS} (hF : f_Model_spark p1 s0 = some w) : zz_ct zt_ms zt_nm zt_df (zt_X L xs) 2 zt_m239 [.ref 216, .int p1] (zk b s0) (qI b w) := by
  unfold f_Model_spark at hF
  change zz_wp zt_ms zt_nm zt_df (zt_X L xs) 2 zt_m239 0 [(0, .ref 216), (1, .int p1)] [] (zk b s0) (qI b w)
  refine w_aload_n (pc2 := 1) rfl rfl rfl ?_
  refine w_iload_n (pc2 := 2) rfl rfl rfl ?_
  refine j_cIv (pc2 := 5) (k := 1) (c := zt_m197) (as := [.ref 216, .int p1]) (rest := []) rfl rfl rfl rfl zk_cModel.look rfl (Nat.le_of_ble_eq_true rfl) (Nat.le_of_ble_eq_true rfl) (fun w1 h1 => ok_Model_isBare h1) (by decide) rfl hF (fun v3 s2 hF => ?_)
  refine j_if_ne (pc2 := 8) rfl rfl hF (fun hF => ?_) (fun hF => ?_)
  · refine w_aload_n (pc2 := 11) rfl rfl rfl ?_
    refine w_getfield (pc2 := 14) rfl zk_cModel rfl rfl rfl ?_
    refine w_iconst (pc2 := 15) rfl rfl ?_
    refine j_ialoadC (pc2 := 16) (n := 139) (j := 4) rfl rfl (by omega) (by decide) (by decide) (by decide) (by decide) rfl hF (fun v4 hF => ?_)
    refine j_if_ne (pc2 := 19) rfl rfl hF (fun hF => ?_) (fun hF => ?_)
    · refine w_iconst (pc2 := 23) rfl rfl ?_
      refine w_istore_n (pc2 := 24) (ls2 := [(2, .int (0 : Int32)), (0, .ref 216), (1, .int p1)]) rfl rfl rfl ?_
      refine w_iconst (pc2 := 25) rfl rfl ?_
      refine w_istore_n (pc2 := 26) (ls2 := [(3, .int (0 : Int32)), (2, .int (0 : Int32)), (0, .ref 216), (1, .int p1)]) rfl rfl rfl ?_
      refine j_join (P := fun (a6 : Int32) (s5 : ZS) => zz_wp zt_ms zt_nm zt_df (zt_X L xs) 2 zt_m239 63 [(0, .ref 216), (1, .int p1), (2, .int a6)] [] (zk b s5) (qI b w)) hF (fun a6 s5 hF => ?_) (fun k7 hk7 hF => ?_)
      · refine w_aload_n (pc2 := 64) rfl rfl rfl ?_
        refine w_getfield (pc2 := 67) rfl zk_cModel rfl rfl rfl ?_
        refine w_bipush (pc2 := 69) rfl rfl ?_
        refine w_iload_n (pc2 := 70) rfl rfl rfl ?_
        refine w_iadd (pc2 := 71) rfl rfl ?_
        refine j_iaload (pc2 := 72) (n := 139) rfl rfl (by omega) (by decide) rfl hF (fun v8 hF => ?_)
        refine w_aload_n (pc2 := 73) rfl rfl rfl ?_
        refine w_iload_n (pc2 := 74) rfl rfl rfl ?_
        refine j_cIv (pc2 := 77) (k := 0) (c := zt_m187) (as := [.ref 216, .int p1]) (rest := [.int v8]) rfl rfl rfl rfl zk_cModel.look rfl (Nat.le_of_ble_eq_true rfl) (Nat.le_of_ble_eq_true rfl) (fun w1 h1 => ok_Model_temperOf h1) (by decide) rfl hF (fun v10 s9 hF => ?_)
        refine w_isub (pc2 := 78) rfl rfl ?_
        refine w_istore_n (pc2 := 79) (ls2 := [(3, .int (v8 - v10)), (0, .ref 216), (1, .int p1), (2, .int a6)]) rfl rfl rfl ?_
        refine w_iload_n (pc2 := 80) rfl rfl rfl ?_
        refine j_if_gt (pc2 := 83) rfl rfl hF (fun hF => ?_) (fun hF => ?_)
        · refine w_iload_n (pc2 := 86) rfl rfl rfl ?_
          refine j_if_ne (pc2 := 89) rfl rfl hF (fun hF => ?_) (fun hF => ?_)
          · refine w_iload_n (pc2 := 95) rfl rfl rfl ?_
            refine w_iload_n (pc2 := 96) rfl rfl rfl ?_
            refine w_iadd (pc2 := 97) rfl rfl ?_
            refine w_iconst (pc2 := 98) rfl rfl ?_
            refine w_isub (pc2 := 99) rfl rfl ?_
            refine w_iload_n (pc2 := 100) rfl rfl rfl ?_
            refine j_idiv (pc2 := 101) rfl rfl hF (fun hF => ?_)
            exact j_iret rfl rfl hF
          · refine w_bipush (pc2 := 91) rfl rfl ?_
            refine w_goto rfl ?_
            exact j_iret rfl rfl hF
        · refine w_iconst (pc2 := 84) rfl rfl ?_
          exact j_iret rfl rfl hF
      · refine j_norm (l := [(0, .ref 216), (1, .int p1), (2, .int (0 : Int32)), (3, .int (0 : Int32))]) ⟨rfl, rfl, rfl, rfl, trivial⟩ (zz_nd_of (ks := [0, 1, 2, 3]) rfl (by decide)) ?_
        refine j_loop (P := fun (a11 : Int32 × Int32) (s12 : ZS) => zz_wp zt_ms zt_nm zt_df (zt_X L xs) 2 zt_m239 26 [(0, .ref 216), (1, .int p1), (2, .int a11.1), (3, .int a11.2)] [] (zk b s12) (qI b w)) hF (fun a11 s12 g13 hg13 hF => ?_)
        unfold f_Model_spark_B26 at hF
        refine w_iload_n (pc2 := 27) rfl rfl rfl ?_
        refine w_aload_n (pc2 := 28) rfl rfl rfl ?_
        refine w_getfield (pc2 := 31) rfl zk_cModel rfl rfl rfl ?_
        refine w_iconst (pc2 := 32) rfl rfl ?_
        refine j_ialoadC (pc2 := 33) (n := 139) (j := 4) rfl rfl (by omega) (by decide) (by decide) (by decide) (by decide) rfl hF (fun v14 hF => ?_)
        refine j_icmp_ge (pc2 := 36) rfl rfl hF (fun hF => ?_) (fun hF => ?_)
        · exact j_norm (l := [(0, .ref 216), (1, .int p1), (2, .int a11.1)]) ⟨rfl, rfl, rfl, trivial⟩ (zz_nd_of (ks := [0, 1, 2]) rfl (by decide)) (hk7 a11.1 s12 hF)
        · refine w_aload_n (pc2 := 37) rfl rfl rfl ?_
          refine w_iload_n (pc2 := 38) rfl rfl rfl ?_
          refine w_iload_n (pc2 := 39) rfl rfl rfl ?_
          refine j_cIv (pc2 := 42) (k := 0) (c := zt_m191) (as := [.ref 216, .int p1, .int a11.2]) (rest := []) rfl rfl rfl rfl zk_cModel.look rfl (Nat.le_of_ble_eq_true rfl) (Nat.le_of_ble_eq_true rfl) (fun w1 h1 => ok_Model_hurts h1) (by decide) rfl hF (fun v16 s15 hF => ?_)
          refine w_iload_n (pc2 := 43) rfl rfl rfl ?_
          refine j_join (P := fun (a18 : Int32) (s17 : ZS) => zz_wp zt_ms zt_nm zt_df (zt_X L xs) 2 zt_m239 56 [(0, .ref 216), (1, .int p1), (3, .int a11.2)] [.int a18] (zk b s17) (qI b w)) hF (fun a18 s17 hF => ?_) (fun k19 hk19 hF => ?_)
          · refine w_istore_n (pc2 := 57) (ls2 := [(2, .int a18), (0, .ref 216), (1, .int p1), (3, .int a11.2)]) rfl rfl rfl ?_
            refine w_iinc (pc2 := 60) (ls2 := [(3, .int ((a11.2 + (1 : Int32)))), (2, .int a18), (0, .ref 216), (1, .int p1)]) rfl rfl rfl rfl ?_
            refine w_goto rfl ?_
            exact j_norm (l := [(0, .ref 216), (1, .int p1), (2, .int a18), (3, .int ((a11.2 + (1 : Int32))))]) ⟨rfl, rfl, rfl, rfl, trivial⟩ (zz_nd_of (ks := [0, 1, 2, 3]) rfl (by decide)) (hg13 (a18, (a11.2 + (1 : Int32))) s17 hF)
          · refine j_icmp_le (pc2 := 46) rfl rfl hF (fun hF => ?_) (fun hF => ?_)
            · refine w_iload_n (pc2 := 56) rfl rfl rfl ?_
              exact j_norm (l := [(0, .ref 216), (1, .int p1), (3, .int a11.2)]) ⟨rfl, rfl, rfl, trivial⟩ (zz_nd_of (ks := [0, 1, 3]) rfl (by decide)) (hk19 a11.1 s15 hF)
            · refine w_aload_n (pc2 := 47) rfl rfl rfl ?_
              refine w_iload_n (pc2 := 48) rfl rfl rfl ?_
              refine w_iload_n (pc2 := 49) rfl rfl rfl ?_
              refine j_cIv (pc2 := 52) (k := 0) (c := zt_m191) (as := [.ref 216, .int p1, .int a11.2]) (rest := []) rfl rfl rfl rfl zk_cModel.look rfl (Nat.le_of_ble_eq_true rfl) (Nat.le_of_ble_eq_true rfl) (fun w1 h1 => ok_Model_hurts h1) (by decide) rfl hF (fun v21 s20 hF => ?_)
              refine w_goto rfl ?_
              exact j_norm (l := [(0, .ref 216), (1, .int p1), (3, .int a11.2)]) ⟨rfl, rfl, rfl, trivial⟩ (zz_nd_of (ks := [0, 1, 3]) rfl (by decide)) (hk19 v21 s20 hF)
    · refine w_bipush (pc2 := 21) rfl rfl ?_
      exact j_iret rfl rfl hF
  · refine w_iconst (pc2 := 9) rfl rfl ?_
    exact j_iret rfl rfl hF
noncomputable def f_Model_calm_B48 (p1 : Int32) (k14 : (Int32 × Int32) → ZS → Option (Int32 × ZS)) (a15 : Int32 × Int32 × Int32) (s16 : ZS) (g17 : (Int32 × Int32 × Int32) → ZS → Option (Int32 × ZS)) : Option (Int32 × ZS) := zgi (s16.1 226 3) (fun (v18 : Int32) => (if v18 ≤ a15.2.2 then k14 (a15.1, a15.2.1) s16 else zwa s16 226 139 (((12 : Int32) + ((3 : Int32) * a15.2.2))) (0 : Int32) (fun (s19 : ZS) => zcl (f_Model_rowsIn p1 s19) (fun (v21 : Int32) (s20 : ZS) => zjn (A := Int32 × Int32) (fun (a23 : Int32 × Int32) (s22 : ZS) => g17 (a23.1, a23.2, (a15.2.2 + (1 : Int32))) s22) (fun (k24 : (Int32 × Int32) → ZS → Option (Int32 × ZS)) => (if v21 < a15.2.1 then k24 (a15.2.2, v21) s20 else k24 (a15.1, a15.2.1) s20))))))
noncomputable def f_Model_calm (p1 : Int32) (p2 : Int32) (s0 : ZS) : Option (Int32 × ZS) := zcl (f_Model_isSmithy s0) (fun (v4 : Int32) (s3 : ZS) => (if v4 = 0 then some ((-2 : Int32), s3) else zcl (f_Model_in (p1.toInt64) (1 : Int64) (30 : Int64) s3) (fun (v6 : Int32) (s5 : ZS) => (if v6 = 0 then some ((-2 : Int32), s5) else zcl (f_Model_in (p2.toInt64) (0 : Int64) (1 : Int64) s5) (fun (v8 : Int32) (s7 : ZS) => (if ¬ v8 = 0 then zcv (f_Model_keeps s7) (fun (s9 : ZS) => zcl (f_Model_rowsIn p1 s9) (fun (v11 : Int32) (s10 : ZS) => zjn (A := Int32 × Int32) (fun (a13 : Int32 × Int32) (s12 : ZS) => (if ¬ p2 = 0 then some (a13.2, s12) else some (a13.1, s12))) (fun (k14 : (Int32 × Int32) → ZS → Option (Int32 × ZS)) => zlp zN (f_Model_calm_B48 p1 k14) ((-1 : Int32), v11, (0 : Int32)) s10))) else some ((-2 : Int32), s7)))))))
set_option maxHeartbeats 4000000 in
set_option maxRecDepth 100000 in
theorem ok_Model_calm {L : Nat} {xs : Nat → Int32} {b : ZH} {p1 : Int32} {p2 : Int32} {s0 : ZS} {w : Int32 × ZS} (hF : f_Model_calm p1 p2 s0 = some w) : zz_ct zt_ms zt_nm zt_df (zt_X L xs) 7 zt_m240 [.ref 216, .int p1, .int p2] (zk b s0) (qI b w) := by
  unfold f_Model_calm at hF
  change zz_wp zt_ms zt_nm zt_df (zt_X L xs) 7 zt_m240 0 [(0, .ref 216), (1, .int p1), (2, .int p2)] [] (zk b s0) (qI b w)
  refine w_aload_n (pc2 := 1) rfl rfl rfl ?_
  refine j_cIv (pc2 := 4) (k := 0) (c := zt_m194) (as := [.ref 216]) (rest := []) rfl rfl rfl rfl zk_cModel.look rfl (Nat.le_of_ble_eq_true rfl) (Nat.le_of_ble_eq_true rfl) (fun w1 h1 => ok_Model_isSmithy h1) (by decide) rfl hF (fun v4 s3 hF => ?_)
  refine j_if_eq (pc2 := 7) rfl rfl hF (fun hF => ?_) (fun hF => ?_)
  · refine w_bipush (pc2 := 31) rfl rfl ?_
    exact j_iret rfl rfl hF
  · refine w_iload_n (pc2 := 8) rfl rfl rfl ?_
    refine w_i2l (pc2 := 9) rfl rfl ?_
    refine w_lconst (pc2 := 10) rfl rfl ?_
    refine w_ldc2_w (pc2 := 13) rfl rfl ?_
    refine j_cIs (pc2 := 16) (k := 0) (c := zt_m160) (as := [.long (p1.toInt64), .long (1 : Int64), .long (30 : Int64)]) (rest := []) rfl rfl rfl (Nat.le_of_ble_eq_true rfl) rfl rfl (Nat.le_of_ble_eq_true rfl) (Nat.le_of_ble_eq_true rfl) (fun w1 h1 => ok_Model_in h1) (by decide) rfl hF (fun v6 s5 hF => ?_)
    refine j_if_eq (pc2 := 19) rfl rfl hF (fun hF => ?_) (fun hF => ?_)
    · refine w_bipush (pc2 := 31) rfl rfl ?_
      exact j_iret rfl rfl hF
    · refine w_iload_n (pc2 := 20) rfl rfl rfl ?_
      refine w_i2l (pc2 := 21) rfl rfl ?_
      refine w_lconst (pc2 := 22) rfl rfl ?_
      refine w_lconst (pc2 := 23) rfl rfl ?_
      refine j_cIs (pc2 := 26) (k := 0) (c := zt_m160) (as := [.long (p2.toInt64), .long (0 : Int64), .long (1 : Int64)]) (rest := []) rfl rfl rfl (Nat.le_of_ble_eq_true rfl) rfl rfl (Nat.le_of_ble_eq_true rfl) (Nat.le_of_ble_eq_true rfl) (fun w1 h1 => ok_Model_in h1) (by decide) rfl hF (fun v8 s7 hF => ?_)
      refine j_if_ne (pc2 := 29) rfl rfl hF (fun hF => ?_) (fun hF => ?_)
      · refine w_iconst (pc2 := 33) rfl rfl ?_
        refine w_istore_n (pc2 := 34) (ls2 := [(3, .int (-1 : Int32)), (0, .ref 216), (1, .int p1), (2, .int p2)]) rfl rfl rfl ?_
        refine w_aload_n (pc2 := 35) rfl rfl rfl ?_
        refine j_cVv (pc2 := 38) (k := 0) (c := zt_m218) (as := [.ref 216]) (rest := []) rfl rfl rfl rfl zk_cModel.look rfl (Nat.le_of_ble_eq_true rfl) (Nat.le_of_ble_eq_true rfl) (fun w1 h1 => ok_Model_keeps h1) (by decide) rfl hF (fun s9 hF => ?_)
        refine w_aload_n (pc2 := 39) rfl rfl rfl ?_
        refine w_iload_n (pc2 := 40) rfl rfl rfl ?_
        refine j_cIv (pc2 := 43) (k := 6) (c := zt_m226) (as := [.ref 216, .int p1]) (rest := []) rfl rfl rfl rfl zk_cModel.look rfl (Nat.le_of_ble_eq_true rfl) (Nat.le_of_ble_eq_true rfl) (fun w1 h1 => ok_Model_rowsIn h1) (by decide) rfl hF (fun v11 s10 hF => ?_)
        refine w_istore (pc2 := 45) (ls2 := [(4, .int v11), (3, .int (-1 : Int32)), (0, .ref 216), (1, .int p1), (2, .int p2)]) rfl rfl rfl ?_
        refine w_iconst (pc2 := 46) rfl rfl ?_
        refine w_istore (pc2 := 48) (ls2 := [(5, .int (0 : Int32)), (4, .int v11), (3, .int (-1 : Int32)), (0, .ref 216), (1, .int p1), (2, .int p2)]) rfl rfl rfl ?_
        refine j_join (P := fun (a13 : Int32 × Int32) (s12 : ZS) => zz_wp zt_ms zt_nm zt_df (zt_X L xs) 7 zt_m240 102 [(2, .int p2), (3, .int a13.1), (4, .int a13.2)] [] (zk b s12) (qI b w)) hF (fun a13 s12 hF => ?_) (fun k14 hk14 hF => ?_)
        · refine w_iload_n (pc2 := 103) rfl rfl rfl ?_
          refine j_if_ne (pc2 := 106) rfl rfl hF (fun hF => ?_) (fun hF => ?_)
          · refine w_iload (pc2 := 112) rfl rfl rfl ?_
            exact j_iret rfl rfl hF
          · refine w_iload_n (pc2 := 107) rfl rfl rfl ?_
            refine w_goto rfl ?_
            exact j_iret rfl rfl hF
        · refine j_norm (l := [(0, .ref 216), (1, .int p1), (2, .int p2), (3, .int (-1 : Int32)), (4, .int v11), (5, .int (0 : Int32))]) ⟨rfl, rfl, rfl, rfl, rfl, rfl, trivial⟩ (zz_nd_of (ks := [0, 1, 2, 3, 4, 5]) rfl (by decide)) ?_
          refine j_loop (P := fun (a15 : Int32 × Int32 × Int32) (s16 : ZS) => zz_wp zt_ms zt_nm zt_df (zt_X L xs) 7 zt_m240 48 [(0, .ref 216), (1, .int p1), (2, .int p2), (3, .int a15.1), (4, .int a15.2.1), (5, .int a15.2.2)] [] (zk b s16) (qI b w)) hF (fun a15 s16 g17 hg17 hF => ?_)
          unfold f_Model_calm_B48 at hF
          refine w_iload (pc2 := 50) rfl rfl rfl ?_
          refine w_aload_n (pc2 := 51) rfl rfl rfl ?_
          refine w_getfield (pc2 := 54) rfl zk_cModel rfl rfl rfl ?_
          refine w_iconst (pc2 := 55) rfl rfl ?_
          refine j_ialoadC (pc2 := 56) (n := 139) (j := 3) rfl rfl (by omega) (by decide) (by decide) (by decide) (by decide) rfl hF (fun v18 hF => ?_)
          refine j_icmp_ge (pc2 := 59) rfl rfl hF (fun hF => ?_) (fun hF => ?_)
          · exact j_norm (l := [(2, .int p2), (3, .int a15.1), (4, .int a15.2.1)]) ⟨rfl, rfl, rfl, trivial⟩ (zz_nd_of (ks := [2, 3, 4]) rfl (by decide)) (hk14 (a15.1, a15.2.1) s16 hF)
          · refine w_aload_n (pc2 := 60) rfl rfl rfl ?_
            refine w_getfield (pc2 := 63) rfl zk_cModel rfl rfl rfl ?_
            refine w_bipush (pc2 := 65) rfl rfl ?_
            refine w_iconst (pc2 := 66) rfl rfl ?_
            refine w_iload (pc2 := 68) rfl rfl rfl ?_
            refine w_imul (pc2 := 69) rfl rfl ?_
            refine w_iadd (pc2 := 70) rfl rfl ?_
            refine w_iconst (pc2 := 71) rfl rfl ?_
            refine j_iastore (pc2 := 72) (n := 139) rfl rfl (by omega) (by decide) rfl hF (fun s19 hF => ?_)
            refine w_aload_n (pc2 := 73) rfl rfl rfl ?_
            refine w_iload_n (pc2 := 74) rfl rfl rfl ?_
            refine j_cIv (pc2 := 77) (k := 6) (c := zt_m226) (as := [.ref 216, .int p1]) (rest := []) rfl rfl rfl rfl zk_cModel.look rfl (Nat.le_of_ble_eq_true rfl) (Nat.le_of_ble_eq_true rfl) (fun w1 h1 => ok_Model_rowsIn h1) (by decide) rfl hF (fun v21 s20 hF => ?_)
            refine w_istore (pc2 := 79) (ls2 := [(6, .int v21), (0, .ref 216), (1, .int p1), (2, .int p2), (3, .int a15.1), (4, .int a15.2.1), (5, .int a15.2.2)]) rfl rfl rfl ?_
            refine w_iload (pc2 := 81) rfl rfl rfl ?_
            refine w_iload (pc2 := 83) rfl rfl rfl ?_
            refine j_join (P := fun (a23 : Int32 × Int32) (s22 : ZS) => zz_wp zt_ms zt_nm zt_df (zt_X L xs) 7 zt_m240 96 [(0, .ref 216), (1, .int p1), (2, .int p2), (3, .int a23.1), (4, .int a23.2), (5, .int a15.2.2)] [] (zk b s22) (qI b w)) hF (fun a23 s22 hF => ?_) (fun k24 hk24 hF => ?_)
            · refine w_iinc (pc2 := 99) (ls2 := [(5, .int ((a15.2.2 + (1 : Int32)))), (0, .ref 216), (1, .int p1), (2, .int p2), (3, .int a23.1), (4, .int a23.2)]) rfl rfl rfl rfl ?_
              refine w_goto rfl ?_
              exact j_norm (l := [(0, .ref 216), (1, .int p1), (2, .int p2), (3, .int a23.1), (4, .int a23.2), (5, .int ((a15.2.2 + (1 : Int32))))]) ⟨rfl, rfl, rfl, rfl, rfl, rfl, trivial⟩ (zz_nd_of (ks := [0, 1, 2, 3, 4, 5]) rfl (by decide)) (hg17 (a23.1, a23.2, (a15.2.2 + (1 : Int32))) s22 hF)
            · refine j_icmp_lt (pc2 := 86) rfl rfl hF (fun hF => ?_) (fun hF => ?_)
              · refine w_iload (pc2 := 91) rfl rfl rfl ?_
                refine w_istore_n (pc2 := 92) (ls2 := [(3, .int a15.2.2), (6, .int v21), (0, .ref 216), (1, .int p1), (2, .int p2), (4, .int a15.2.1), (5, .int a15.2.2)]) rfl rfl rfl ?_
                refine w_iload (pc2 := 94) rfl rfl rfl ?_
                refine w_istore (pc2 := 96) (ls2 := [(4, .int v21), (3, .int a15.2.2), (6, .int v21), (0, .ref 216), (1, .int p1), (2, .int p2), (5, .int a15.2.2)]) rfl rfl rfl ?_
                exact j_norm (l := [(0, .ref 216), (1, .int p1), (2, .int p2), (3, .int a15.2.2), (4, .int v21), (5, .int a15.2.2)]) ⟨rfl, rfl, rfl, rfl, rfl, rfl, trivial⟩ (zz_nd_of (ks := [0, 1, 2, 3, 4, 5]) rfl (by decide)) (hk24 (a15.2.2, v21) s20 hF)
              · refine w_goto rfl ?_
                exact j_norm (l := [(0, .ref 216), (1, .int p1), (2, .int p2), (3, .int a15.1), (4, .int a15.2.1), (5, .int a15.2.2)]) ⟨rfl, rfl, rfl, rfl, rfl, rfl, trivial⟩ (zz_nd_of (ks := [0, 1, 2, 3, 4, 5]) rfl (by decide)) (hk24 (a15.1, a15.2.1) s20 hF)
      · refine w_bipush (pc2 := 31) rfl rfl ?_
        exact j_iret rfl rfl hF
