/-! What methods do as functions of the state, and that the small machine does so. -/
noncomputable def f_Model_doors_B96 (p2 : Int32) (p3 : Int32) (k26 : ZS → Option (Int32 × ZS)) (a31 : Int32) (s32 : ZS) (g33 : Int32 → ZS → Option (Int32 × ZS)) : Option (Int32 × ZS) := (if p2 ≤ a31 then k26 s32 else zcl (f_Model_draw (100 : Int32) s32) (fun (v35 : Int32) (s34 : ZS) => zj0 (fun (s36 : ZS) => zcl (f_Model_passes s36) (fun (v39 : Int32) (s38 : ZS) => g33 (a31 + (1 : Int32)) s38)) (fun (k37 : ZS → Option (Int32 × ZS)) => (if p3 ≤ v35 then k37 s34 else zcl (f_Model_opens_216 s34) (fun (v41 : Int32) (s40 : ZS) => k37 s40)))))
noncomputable def f_Model_doors_B78 (p1 : Int32) (p2 : Int32) (p3 : Int32) (k20 : (Int32 × Int32) → ZS → Option (Int32 × ZS)) (a21 : Int32 × Int32 × Int32) (s22 : ZS) (g23 : (Int32 × Int32 × Int32) → ZS → Option (Int32 × ZS)) : Option (Int32 × ZS) := (if p1 ≤ a21.2.2 then k20 (a21.1, a21.2.1) s22 else zgi (s22.1 226 11) (fun (v24 : Int32) => zj0 (fun (s25 : ZS) => zgi (s25.1 226 11) (fun (v27 : Int32) => zcl (f_Model_wideAll s25) (fun (v29 : Int32) (s28 : ZS) => zcv (f_Model_laysBack s28) (fun (s30 : ZS) => g23 ((a21.1 + (v27 - v24)), (a21.2.1 + v29), (a21.2.2 + (1 : Int32))) s30)))) (fun (k26 : ZS → Option (Int32 × ZS)) => zlp zN (f_Model_doors_B96 p2 p3 k26) (0 : Int32) s22)))
noncomputable def f_Model_doors (p1 : Int32) (p2 : Int32) (p3 : Int32) (p4 : Int32) (s0 : ZS) : Option (Int32 × ZS) := zcl (f_Model_isSmithy s0) (fun (v6 : Int32) (s5 : ZS) => (if v6 = 0 then some ((-1 : Int32), s5) else zcl (f_Model_in (p1.toInt64) (1 : Int64) (10 : Int64) s5) (fun (v8 : Int32) (s7 : ZS) => (if v8 = 0 then some ((-1 : Int32), s7) else zcl (f_Model_in (p2.toInt64) (1 : Int64) (60 : Int64) s7) (fun (v10 : Int32) (s9 : ZS) => (if v10 = 0 then some ((-1 : Int32), s9) else zcl (f_Model_in (p3.toInt64) (0 : Int64) (100 : Int64) s9) (fun (v12 : Int32) (s11 : ZS) => (if v12 = 0 then some ((-1 : Int32), s11) else zcl (f_Model_in (p4.toInt64) (0 : Int64) (1 : Int64) s11) (fun (v14 : Int32) (s13 : ZS) => (if ¬ v14 = 0 then zgi (s13.1 216 22) (fun (v15 : Int32) => zwf s13 216 37 (v15.toInt64) (fun (s16 : ZS) => zcv (f_Model_keeps s16) (fun (s17 : ZS) => zjn (A := Int32 × Int32) (fun (a19 : Int32 × Int32) (s18 : ZS) => (if ¬ p4 = 0 then some (a19.2, s18) else some (a19.1, s18))) (fun (k20 : (Int32 × Int32) → ZS → Option (Int32 × ZS)) => zlp zN (f_Model_doors_B78 p1 p2 p3 k20) ((0 : Int32), (0 : Int32), (0 : Int32)) s17)))) else some ((-1 : Int32), s13)))))))))))
set_option maxHeartbeats 4000000 in
set_option maxRecDepth 100000 in
theorem ok_Model_doors {L : Nat} {xs : Nat → Int32} {b : ZH} {p1 : Int32} {p2 : Int32} {p3 : Int32} {p4 : Int32} {s0 : ZS} {w : Int32 × ZS} (hF : f_Model_doors p1 p2 p3 p4 s0 = some w) : zz_ct zt_ms zt_nm zt_df (zt_X L xs) 6 zt_m249 [.ref 216, .int p1, .int p2, .int p3, .int p4] (zk b s0) (qI b w) := by
  unfold f_Model_doors at hF
  change zz_wp zt_ms zt_nm zt_df (zt_X L xs) 6 zt_m249 0 [(0, .ref 216), (1, .int p1), (2, .int p2), (3, .int p3), (4, .int p4)] [] (zk b s0) (qI b w)
  refine w_aload_n (pc2 := 1) rfl rfl rfl ?_
  refine j_cIv (pc2 := 4) (k := 0) (c := zt_m194) (as := [.ref 216]) (rest := []) rfl rfl rfl rfl zk_cModel.look rfl (Nat.le_of_ble_eq_true rfl) (Nat.le_of_ble_eq_true rfl) (fun w1 h1 => ok_Model_isSmithy h1) (by decide) rfl hF (fun v6 s5 hF => ?_)
  refine j_if_eq (pc2 := 7) rfl rfl hF (fun hF => ?_) (fun hF => ?_)
  · refine w_iconst (pc2 := 55) rfl rfl ?_
    exact j_iret rfl rfl hF
  · refine w_iload_n (pc2 := 8) rfl rfl rfl ?_
    refine w_i2l (pc2 := 9) rfl rfl ?_
    refine w_lconst (pc2 := 10) rfl rfl ?_
    refine w_ldc2_w (pc2 := 13) rfl rfl ?_
    refine j_cIs (pc2 := 16) (k := 0) (c := zt_m160) (as := [.long (p1.toInt64), .long (1 : Int64), .long (10 : Int64)]) (rest := []) rfl rfl rfl (Nat.le_of_ble_eq_true rfl) rfl rfl (Nat.le_of_ble_eq_true rfl) (Nat.le_of_ble_eq_true rfl) (fun w1 h1 => ok_Model_in h1) (by decide) rfl hF (fun v8 s7 hF => ?_)
    refine j_if_eq (pc2 := 19) rfl rfl hF (fun hF => ?_) (fun hF => ?_)
    · refine w_iconst (pc2 := 55) rfl rfl ?_
      exact j_iret rfl rfl hF
    · refine w_iload_n (pc2 := 20) rfl rfl rfl ?_
      refine w_i2l (pc2 := 21) rfl rfl ?_
      refine w_lconst (pc2 := 22) rfl rfl ?_
      refine w_ldc2_w (pc2 := 25) rfl rfl ?_
      refine j_cIs (pc2 := 28) (k := 0) (c := zt_m160) (as := [.long (p2.toInt64), .long (1 : Int64), .long (60 : Int64)]) (rest := []) rfl rfl rfl (Nat.le_of_ble_eq_true rfl) rfl rfl (Nat.le_of_ble_eq_true rfl) (Nat.le_of_ble_eq_true rfl) (fun w1 h1 => ok_Model_in h1) (by decide) rfl hF (fun v10 s9 hF => ?_)
      refine j_if_eq (pc2 := 31) rfl rfl hF (fun hF => ?_) (fun hF => ?_)
      · refine w_iconst (pc2 := 55) rfl rfl ?_
        exact j_iret rfl rfl hF
      · refine w_iload_n (pc2 := 32) rfl rfl rfl ?_
        refine w_i2l (pc2 := 33) rfl rfl ?_
        refine w_lconst (pc2 := 34) rfl rfl ?_
        refine w_ldc2_w (pc2 := 37) rfl rfl ?_
        refine j_cIs (pc2 := 40) (k := 0) (c := zt_m160) (as := [.long (p3.toInt64), .long (0 : Int64), .long (100 : Int64)]) (rest := []) rfl rfl rfl (Nat.le_of_ble_eq_true rfl) rfl rfl (Nat.le_of_ble_eq_true rfl) (Nat.le_of_ble_eq_true rfl) (fun w1 h1 => ok_Model_in h1) (by decide) rfl hF (fun v12 s11 hF => ?_)
        refine j_if_eq (pc2 := 43) rfl rfl hF (fun hF => ?_) (fun hF => ?_)
        · refine w_iconst (pc2 := 55) rfl rfl ?_
          exact j_iret rfl rfl hF
        · refine w_iload (pc2 := 45) rfl rfl rfl ?_
          refine w_i2l (pc2 := 46) rfl rfl ?_
          refine w_lconst (pc2 := 47) rfl rfl ?_
          refine w_lconst (pc2 := 48) rfl rfl ?_
          refine j_cIs (pc2 := 51) (k := 0) (c := zt_m160) (as := [.long (p4.toInt64), .long (0 : Int64), .long (1 : Int64)]) (rest := []) rfl rfl rfl (Nat.le_of_ble_eq_true rfl) rfl rfl (Nat.le_of_ble_eq_true rfl) (Nat.le_of_ble_eq_true rfl) (fun w1 h1 => ok_Model_in h1) (by decide) rfl hF (fun v14 s13 hF => ?_)
          refine j_if_ne (pc2 := 54) rfl rfl hF (fun hF => ?_) (fun hF => ?_)
          · refine w_aload_n (pc2 := 57) rfl rfl rfl ?_
            refine w_aload_n (pc2 := 58) rfl rfl rfl ?_
            refine j_geti (pc2 := 61) rfl zk_cModel rfl rfl rfl hF (fun v15 hF => ?_)
            refine w_i2l (pc2 := 62) rfl rfl ?_
            refine j_putl (pc2 := 65) (j := 37) rfl zk_cModel rfl (Nat.le_of_ble_eq_true rfl) rfl zk_wModel_37 (by decide) rfl hF (fun s16 hF => ?_)
            refine w_iconst (pc2 := 66) rfl rfl ?_
            refine w_istore (pc2 := 68) (ls2 := [(5, .int (0 : Int32)), (0, .ref 216), (1, .int p1), (2, .int p2), (3, .int p3), (4, .int p4)]) rfl rfl rfl ?_
            refine w_iconst (pc2 := 69) rfl rfl ?_
            refine w_istore (pc2 := 71) (ls2 := [(6, .int (0 : Int32)), (5, .int (0 : Int32)), (0, .ref 216), (1, .int p1), (2, .int p2), (3, .int p3), (4, .int p4)]) rfl rfl rfl ?_
            refine w_aload_n (pc2 := 72) rfl rfl rfl ?_
            refine j_cVv (pc2 := 75) (k := 0) (c := zt_m218) (as := [.ref 216]) (rest := []) rfl rfl rfl rfl zk_cModel.look rfl (Nat.le_of_ble_eq_true rfl) (Nat.le_of_ble_eq_true rfl) (fun w1 h1 => ok_Model_keeps h1) (by decide) rfl hF (fun s17 hF => ?_)
            refine w_iconst (pc2 := 76) rfl rfl ?_
            refine w_istore (pc2 := 78) (ls2 := [(7, .int (0 : Int32)), (6, .int (0 : Int32)), (5, .int (0 : Int32)), (0, .ref 216), (1, .int p1), (2, .int p2), (3, .int p3), (4, .int p4)]) rfl rfl rfl ?_
            refine j_join (P := fun (a19 : Int32 × Int32) (s18 : ZS) => zz_wp zt_ms zt_nm zt_df (zt_X L xs) 6 zt_m249 162 [(4, .int p4), (5, .int a19.1), (6, .int a19.2)] [] (zk b s18) (qI b w)) hF (fun a19 s18 hF => ?_) (fun k20 hk20 hF => ?_)
            · refine w_iload (pc2 := 164) rfl rfl rfl ?_
              refine j_if_ne (pc2 := 167) rfl rfl hF (fun hF => ?_) (fun hF => ?_)
              · refine w_iload (pc2 := 174) rfl rfl rfl ?_
                exact j_iret rfl rfl hF
              · refine w_iload (pc2 := 169) rfl rfl rfl ?_
                refine w_goto rfl ?_
                exact j_iret rfl rfl hF
            · refine j_norm (l := [(0, .ref 216), (1, .int p1), (2, .int p2), (3, .int p3), (4, .int p4), (5, .int (0 : Int32)), (6, .int (0 : Int32)), (7, .int (0 : Int32))]) ⟨rfl, rfl, rfl, rfl, rfl, rfl, rfl, rfl, trivial⟩ (zz_nd_of (ks := [0, 1, 2, 3, 4, 5, 6, 7]) rfl (by decide)) ?_
              refine j_loop (P := fun (a21 : Int32 × Int32 × Int32) (s22 : ZS) => zz_wp zt_ms zt_nm zt_df (zt_X L xs) 6 zt_m249 78 [(0, .ref 216), (1, .int p1), (2, .int p2), (3, .int p3), (4, .int p4), (5, .int a21.1), (6, .int a21.2.1), (7, .int a21.2.2)] [] (zk b s22) (qI b w)) hF (fun a21 s22 g23 hg23 hF => ?_)
              unfold f_Model_doors_B78 at hF
              refine w_iload (pc2 := 80) rfl rfl rfl ?_
              refine w_iload_n (pc2 := 81) rfl rfl rfl ?_
              refine j_icmp_ge (pc2 := 84) rfl rfl hF (fun hF => ?_) (fun hF => ?_)
              · exact j_norm (l := [(4, .int p4), (5, .int a21.1), (6, .int a21.2.1)]) ⟨rfl, rfl, rfl, trivial⟩ (zz_nd_of (ks := [4, 5, 6]) rfl (by decide)) (hk20 (a21.1, a21.2.1) s22 hF)
              · refine w_aload_n (pc2 := 85) rfl rfl rfl ?_
                refine w_getfield (pc2 := 88) rfl zk_cModel rfl rfl rfl ?_
                refine w_bipush (pc2 := 90) rfl rfl ?_
                refine j_ialoadC (pc2 := 91) (n := 139) (j := 11) rfl rfl (by omega) (by decide) (by decide) (by decide) (by decide) rfl hF (fun v24 hF => ?_)
                refine w_istore (pc2 := 93) (ls2 := [(8, .int v24), (0, .ref 216), (1, .int p1), (2, .int p2), (3, .int p3), (4, .int p4), (5, .int a21.1), (6, .int a21.2.1), (7, .int a21.2.2)]) rfl rfl rfl ?_
                refine w_iconst (pc2 := 94) rfl rfl ?_
                refine w_istore (pc2 := 96) (ls2 := [(9, .int (0 : Int32)), (8, .int v24), (0, .ref 216), (1, .int p1), (2, .int p2), (3, .int p3), (4, .int p4), (5, .int a21.1), (6, .int a21.2.1), (7, .int a21.2.2)]) rfl rfl rfl ?_
                refine j_join0 (P := fun (s25 : ZS) => zz_wp zt_ms zt_nm zt_df (zt_X L xs) 6 zt_m249 128 [(0, .ref 216), (1, .int p1), (2, .int p2), (3, .int p3), (4, .int p4), (5, .int a21.1), (6, .int a21.2.1), (7, .int a21.2.2), (8, .int v24)] [] (zk b s25) (qI b w)) hF (fun s25 hF => ?_) (fun k26 hk26 hF => ?_)
                · refine w_iload (pc2 := 130) rfl rfl rfl ?_
                  refine w_aload_n (pc2 := 131) rfl rfl rfl ?_
                  refine w_getfield (pc2 := 134) rfl zk_cModel rfl rfl rfl ?_
                  refine w_bipush (pc2 := 136) rfl rfl ?_
                  refine j_ialoadC (pc2 := 137) (n := 139) (j := 11) rfl rfl (by omega) (by decide) (by decide) (by decide) (by decide) rfl hF (fun v27 hF => ?_)
                  refine w_iload (pc2 := 139) rfl rfl rfl ?_
                  refine w_isub (pc2 := 140) rfl rfl ?_
                  refine w_iadd (pc2 := 141) rfl rfl ?_
                  refine w_istore (pc2 := 143) (ls2 := [(5, .int ((a21.1 + (v27 - v24)))), (0, .ref 216), (1, .int p1), (2, .int p2), (3, .int p3), (4, .int p4), (6, .int a21.2.1), (7, .int a21.2.2), (8, .int v24)]) rfl rfl rfl ?_
                  refine w_iload (pc2 := 145) rfl rfl rfl ?_
                  refine w_aload_n (pc2 := 146) rfl rfl rfl ?_
                  refine j_cIv (pc2 := 149) (k := 1) (c := zt_m232) (as := [.ref 216]) (rest := [.int a21.2.1]) rfl rfl rfl rfl zk_cModel.look rfl (Nat.le_of_ble_eq_true rfl) (Nat.le_of_ble_eq_true rfl) (fun w1 h1 => ok_Model_wideAll h1) (by decide) rfl hF (fun v29 s28 hF => ?_)
                  refine w_iadd (pc2 := 150) rfl rfl ?_
                  refine w_istore (pc2 := 152) (ls2 := [(6, .int (a21.2.1 + v29)), (5, .int ((a21.1 + (v27 - v24)))), (0, .ref 216), (1, .int p1), (2, .int p2), (3, .int p3), (4, .int p4), (7, .int a21.2.2), (8, .int v24)]) rfl rfl rfl ?_
                  refine w_aload_n (pc2 := 153) rfl rfl rfl ?_
                  refine j_cVv (pc2 := 156) (k := 0) (c := zt_m219) (as := [.ref 216]) (rest := []) rfl rfl rfl rfl zk_cModel.look rfl (Nat.le_of_ble_eq_true rfl) (Nat.le_of_ble_eq_true rfl) (fun w1 h1 => ok_Model_laysBack h1) (by decide) rfl hF (fun s30 hF => ?_)
                  refine w_iinc (pc2 := 159) (ls2 := [(7, .int ((a21.2.2 + (1 : Int32)))), (6, .int (a21.2.1 + v29)), (5, .int ((a21.1 + (v27 - v24)))), (0, .ref 216), (1, .int p1), (2, .int p2), (3, .int p3), (4, .int p4), (8, .int v24)]) rfl rfl rfl rfl ?_
                  refine w_goto rfl ?_
                  exact j_norm (l := [(0, .ref 216), (1, .int p1), (2, .int p2), (3, .int p3), (4, .int p4), (5, .int ((a21.1 + (v27 - v24)))), (6, .int (a21.2.1 + v29)), (7, .int ((a21.2.2 + (1 : Int32))))]) ⟨rfl, rfl, rfl, rfl, rfl, rfl, rfl, rfl, trivial⟩ (zz_nd_of (ks := [0, 1, 2, 3, 4, 5, 6, 7]) rfl (by decide)) (hg23 ((a21.1 + (v27 - v24)), (a21.2.1 + v29), (a21.2.2 + (1 : Int32))) s30 hF)
                · refine j_norm (l := [(0, .ref 216), (1, .int p1), (2, .int p2), (3, .int p3), (4, .int p4), (5, .int a21.1), (6, .int a21.2.1), (7, .int a21.2.2), (8, .int v24), (9, .int (0 : Int32))]) ⟨rfl, rfl, rfl, rfl, rfl, rfl, rfl, rfl, rfl, rfl, trivial⟩ (zz_nd_of (ks := [0, 1, 2, 3, 4, 5, 6, 7, 8, 9]) rfl (by decide)) ?_
                  refine j_loop (P := fun (a31 : Int32) (s32 : ZS) => zz_wp zt_ms zt_nm zt_df (zt_X L xs) 6 zt_m249 96 [(0, .ref 216), (1, .int p1), (2, .int p2), (3, .int p3), (4, .int p4), (5, .int a21.1), (6, .int a21.2.1), (7, .int a21.2.2), (8, .int v24), (9, .int a31)] [] (zk b s32) (qI b w)) hF (fun a31 s32 g33 hg33 hF => ?_)
                  unfold f_Model_doors_B96 at hF
                  refine w_iload (pc2 := 98) rfl rfl rfl ?_
                  refine w_iload_n (pc2 := 99) rfl rfl rfl ?_
                  refine j_icmp_ge (pc2 := 102) rfl rfl hF (fun hF => ?_) (fun hF => ?_)
                  · exact j_norm (l := [(0, .ref 216), (1, .int p1), (2, .int p2), (3, .int p3), (4, .int p4), (5, .int a21.1), (6, .int a21.2.1), (7, .int a21.2.2), (8, .int v24)]) ⟨rfl, rfl, rfl, rfl, rfl, rfl, rfl, rfl, rfl, trivial⟩ (zz_nd_of (ks := [0, 1, 2, 3, 4, 5, 6, 7, 8]) rfl (by decide)) (hk26 s32 hF)
                  · refine w_aload_n (pc2 := 103) rfl rfl rfl ?_
                    refine w_bipush (pc2 := 105) rfl rfl ?_
                    refine j_cIv (pc2 := 108) (k := 0) (c := zt_m250) (as := [.ref 216, .int (100 : Int32)]) (rest := []) rfl rfl rfl rfl zk_cModel.look rfl (Nat.le_of_ble_eq_true rfl) (Nat.le_of_ble_eq_true rfl) (fun w1 h1 => ok_Model_draw h1) (by decide) rfl hF (fun v35 s34 hF => ?_)
                    refine w_iload_n (pc2 := 109) rfl rfl rfl ?_
                    refine j_join0 (P := fun (s36 : ZS) => zz_wp zt_ms zt_nm zt_df (zt_X L xs) 6 zt_m249 117 [(0, .ref 216), (1, .int p1), (2, .int p2), (3, .int p3), (4, .int p4), (5, .int a21.1), (6, .int a21.2.1), (7, .int a21.2.2), (8, .int v24), (9, .int a31)] [] (zk b s36) (qI b w)) hF (fun s36 hF => ?_) (fun k37 hk37 hF => ?_)
                    · refine w_aload_n (pc2 := 118) rfl rfl rfl ?_
                      refine j_cIv (pc2 := 121) (k := 5) (c := zt_m196) (as := [.ref 216]) (rest := []) rfl rfl rfl rfl zk_cModel.look rfl (Nat.le_of_ble_eq_true rfl) (Nat.le_of_ble_eq_true rfl) (fun w1 h1 => ok_Model_passes h1) (by decide) rfl hF (fun v39 s38 hF => ?_)
                      refine w_pop (pc2 := 122) rfl rfl rfl ?_
                      refine w_iinc (pc2 := 125) (ls2 := [(9, .int ((a31 + (1 : Int32)))), (0, .ref 216), (1, .int p1), (2, .int p2), (3, .int p3), (4, .int p4), (5, .int a21.1), (6, .int a21.2.1), (7, .int a21.2.2), (8, .int v24)]) rfl rfl rfl rfl ?_
                      refine w_goto rfl ?_
                      exact j_norm (l := [(0, .ref 216), (1, .int p1), (2, .int p2), (3, .int p3), (4, .int p4), (5, .int a21.1), (6, .int a21.2.1), (7, .int a21.2.2), (8, .int v24), (9, .int ((a31 + (1 : Int32))))]) ⟨rfl, rfl, rfl, rfl, rfl, rfl, rfl, rfl, rfl, rfl, trivial⟩ (zz_nd_of (ks := [0, 1, 2, 3, 4, 5, 6, 7, 8, 9]) rfl (by decide)) (hg33 (a31 + (1 : Int32)) s38 hF)
                    · refine j_icmp_ge (pc2 := 112) rfl rfl hF (fun hF => ?_) (fun hF => ?_)
                      · exact j_norm (l := [(0, .ref 216), (1, .int p1), (2, .int p2), (3, .int p3), (4, .int p4), (5, .int a21.1), (6, .int a21.2.1), (7, .int a21.2.2), (8, .int v24), (9, .int a31)]) ⟨rfl, rfl, rfl, rfl, rfl, rfl, rfl, rfl, rfl, rfl, trivial⟩ (zz_nd_of (ks := [0, 1, 2, 3, 4, 5, 6, 7, 8, 9]) rfl (by decide)) (hk37 s34 hF)
                      · refine w_aload_n (pc2 := 113) rfl rfl rfl ?_
                        refine j_cIv (pc2 := 116) (k := 3) (c := zt_m216) (as := [.ref 216]) (rest := []) rfl rfl rfl rfl zk_cModel.look rfl (Nat.le_of_ble_eq_true rfl) (Nat.le_of_ble_eq_true rfl) (fun w1 h1 => ok_Model_opens_216 h1) (by decide) rfl hF (fun v41 s40 hF => ?_)
                        refine w_pop (pc2 := 117) rfl rfl rfl ?_
                        exact j_norm (l := [(0, .ref 216), (1, .int p1), (2, .int p2), (3, .int p3), (4, .int p4), (5, .int a21.1), (6, .int a21.2.1), (7, .int a21.2.2), (8, .int v24), (9, .int a31)]) ⟨rfl, rfl, rfl, rfl, rfl, rfl, rfl, rfl, rfl, rfl, trivial⟩ (zz_nd_of (ks := [0, 1, 2, 3, 4, 5, 6, 7, 8, 9]) rfl (by decide)) (hk37 s40 hF)
          · refine w_iconst (pc2 := 55) rfl rfl ?_
            exact j_iret rfl rfl hF
noncomputable def f_Model_count (p1 : Int32) (s0 : ZS) : Option (Int32 × ZS) := zj0 (fun (s2 : ZS) => zrd 139 ((p1 + (1 : Int32))) (s2.1 226) (fun (v4 : Int32) => some (v4, s2))) (fun (k3 : ZS → Option (Int32 × ZS)) => (if p1 = (0 : Int32) then k3 s0 else (if p1 = (1 : Int32) then k3 s0 else (if p1 = (2 : Int32) then k3 s0 else (if p1 = (3 : Int32) then k3 s0 else (if p1 = (4 : Int32) then zgi (s0.1 216 2) (fun (v5 : Int32) => some (v5, s0)) else (if p1 = (5 : Int32) then zgi (s0.1 216 21) (fun (v6 : Int32) => some (v6, s0)) else (if p1 = (6 : Int32) then zgi (s0.1 226 10) (fun (v7 : Int32) => some (v7, s0)) else (if p1 = (7 : Int32) then zcl (f_Model_banded s0) (fun (v9 : Int32) (s8 : ZS) => some (v9, s8)) else (if p1 = (8 : Int32) then zgi (s0.1 226 11) (fun (v10 : Int32) => some (v10, s0)) else (if p1 = (9 : Int32) then zcl (f_Model_wideAll s0) (fun (v12 : Int32) (s11 : ZS) => some (v12, s11)) else (if p1 = (10 : Int32) then zgi (s0.1 226 138) (fun (v13 : Int32) => some (v13, s0)) else (if p1 = (11 : Int32) then zgi (s0.1 216 27) (fun (v14 : Int32) => some (v14, s0)) else (if p1 = (12 : Int32) then zgi (s0.1 216 22) (fun (v15 : Int32) => some (v15, s0)) else (if p1 = (13 : Int32) then zgi (s0.1 216 1) (fun (v16 : Int32) => some (v16, s0)) else some ((-1 : Int32), s0))))))))))))))))
set_option maxHeartbeats 4000000 in
set_option maxRecDepth 100000 in
theorem ok_Model_count {L : Nat} {xs : Nat → Int32} {b : ZH} {p1 : Int32} {s0 : ZS} {w : Int32 × ZS} (hF : f_Model_count p1 s0 = some w) : zz_ct zt_ms zt_nm zt_df (zt_X L xs) 3 zt_m251 [.ref 216, .int p1] (zk b s0) (qI b w) := by
  unfold f_Model_count at hF
  change zz_wp zt_ms zt_nm zt_df (zt_X L xs) 3 zt_m251 0 [(0, .ref 216), (1, .int p1)] [] (zk b s0) (qI b w)
  refine w_iload_n (pc2 := 1) rfl rfl rfl ?_
  refine j_join0 (P := fun (s2 : ZS) => zz_wp zt_ms zt_nm zt_df (zt_X L xs) 3 zt_m251 72 [(0, .ref 216), (1, .int p1)] [] (zk b s2) (qI b w)) hF (fun s2 hF => ?_) (fun k3 hk3 hF => ?_)
  · refine w_aload_n (pc2 := 73) rfl rfl rfl ?_
    refine w_getfield (pc2 := 76) rfl zk_cModel rfl rfl rfl ?_
    refine w_iload_n (pc2 := 77) rfl rfl rfl ?_
    refine w_iconst (pc2 := 78) rfl rfl ?_
    refine w_iadd (pc2 := 79) rfl rfl ?_
    refine j_iaload (pc2 := 80) (n := 139) rfl rfl (by omega) (by decide) rfl hF (fun v4 hF => ?_)
    exact j_iret rfl rfl hF
  · by_cases hs0 : p1 = (0 : Int32)
    · rw [if_pos hs0] at hF
      refine j_switch (t := 72) rfl (by rw [hs0]; rfl) ?_
      exact j_norm (l := [(0, .ref 216), (1, .int p1)]) ⟨rfl, rfl, trivial⟩ (zz_nd_of (ks := [0, 1]) rfl (by decide)) (hk3 s0 hF)
    rw [if_neg hs0] at hF
    by_cases hs1 : p1 = (1 : Int32)
    · rw [if_pos hs1] at hF
      refine j_switch (t := 72) rfl (by rw [hs1]; rfl) ?_
      exact j_norm (l := [(0, .ref 216), (1, .int p1)]) ⟨rfl, rfl, trivial⟩ (zz_nd_of (ks := [0, 1]) rfl (by decide)) (hk3 s0 hF)
    rw [if_neg hs1] at hF
    by_cases hs2 : p1 = (2 : Int32)
    · rw [if_pos hs2] at hF
      refine j_switch (t := 72) rfl (by rw [hs2]; rfl) ?_
      exact j_norm (l := [(0, .ref 216), (1, .int p1)]) ⟨rfl, rfl, trivial⟩ (zz_nd_of (ks := [0, 1]) rfl (by decide)) (hk3 s0 hF)
    rw [if_neg hs2] at hF
    by_cases hs3 : p1 = (3 : Int32)
    · rw [if_pos hs3] at hF
      refine j_switch (t := 72) rfl (by rw [hs3]; rfl) ?_
      exact j_norm (l := [(0, .ref 216), (1, .int p1)]) ⟨rfl, rfl, trivial⟩ (zz_nd_of (ks := [0, 1]) rfl (by decide)) (hk3 s0 hF)
    rw [if_neg hs3] at hF
    by_cases hs4 : p1 = (4 : Int32)
    · rw [if_pos hs4] at hF
      refine j_switch (t := 81) rfl (by rw [hs4]; rfl) ?_
      refine w_aload_n (pc2 := 82) rfl rfl rfl ?_
      refine j_geti (pc2 := 85) rfl zk_cModel rfl rfl rfl hF (fun v5 hF => ?_)
      exact j_iret rfl rfl hF
    rw [if_neg hs4] at hF
    by_cases hs5 : p1 = (5 : Int32)
    · rw [if_pos hs5] at hF
      refine j_switch (t := 86) rfl (by rw [hs5]; rfl) ?_
      refine w_aload_n (pc2 := 87) rfl rfl rfl ?_
      refine j_geti (pc2 := 90) rfl zk_cModel rfl rfl rfl hF (fun v6 hF => ?_)
      exact j_iret rfl rfl hF
    rw [if_neg hs5] at hF
    by_cases hs6 : p1 = (6 : Int32)
    · rw [if_pos hs6] at hF
      refine j_switch (t := 91) rfl (by rw [hs6]; rfl) ?_
      refine w_aload_n (pc2 := 92) rfl rfl rfl ?_
      refine w_getfield (pc2 := 95) rfl zk_cModel rfl rfl rfl ?_
      refine w_bipush (pc2 := 97) rfl rfl ?_
      refine j_ialoadC (pc2 := 98) (n := 139) (j := 10) rfl rfl (by omega) (by decide) (by decide) (by decide) (by decide) rfl hF (fun v7 hF => ?_)
      exact j_iret rfl rfl hF
    rw [if_neg hs6] at hF
    by_cases hs7 : p1 = (7 : Int32)
    · rw [if_pos hs7] at hF
      refine j_switch (t := 99) rfl (by rw [hs7]; rfl) ?_
      refine w_aload_n (pc2 := 100) rfl rfl rfl ?_
      refine j_cIv (pc2 := 103) (k := 2) (c := zt_m201) (as := [.ref 216]) (rest := []) rfl rfl rfl rfl zk_cModel.look rfl (Nat.le_of_ble_eq_true rfl) (Nat.le_of_ble_eq_true rfl) (fun w1 h1 => ok_Model_banded h1) (by decide) rfl hF (fun v9 s8 hF => ?_)
      exact j_iret rfl rfl hF
    rw [if_neg hs7] at hF
    by_cases hs8 : p1 = (8 : Int32)
    · rw [if_pos hs8] at hF
      refine j_switch (t := 104) rfl (by rw [hs8]; rfl) ?_
      refine w_aload_n (pc2 := 105) rfl rfl rfl ?_
      refine w_getfield (pc2 := 108) rfl zk_cModel rfl rfl rfl ?_
      refine w_bipush (pc2 := 110) rfl rfl ?_
      refine j_ialoadC (pc2 := 111) (n := 139) (j := 11) rfl rfl (by omega) (by decide) (by decide) (by decide) (by decide) rfl hF (fun v10 hF => ?_)
      exact j_iret rfl rfl hF
    rw [if_neg hs8] at hF
    by_cases hs9 : p1 = (9 : Int32)
    · rw [if_pos hs9] at hF
      refine j_switch (t := 112) rfl (by rw [hs9]; rfl) ?_
      refine w_aload_n (pc2 := 113) rfl rfl rfl ?_
      refine j_cIv (pc2 := 116) (k := 1) (c := zt_m232) (as := [.ref 216]) (rest := []) rfl rfl rfl rfl zk_cModel.look rfl (Nat.le_of_ble_eq_true rfl) (Nat.le_of_ble_eq_true rfl) (fun w1 h1 => ok_Model_wideAll h1) (by decide) rfl hF (fun v12 s11 hF => ?_)
      exact j_iret rfl rfl hF
    rw [if_neg hs9] at hF
    by_cases hs10 : p1 = (10 : Int32)
    · rw [if_pos hs10] at hF
      refine j_switch (t := 117) rfl (by rw [hs10]; rfl) ?_
      refine w_aload_n (pc2 := 118) rfl rfl rfl ?_
      refine w_getfield (pc2 := 121) rfl zk_cModel rfl rfl rfl ?_
      refine w_sipush (pc2 := 124) rfl rfl ?_
      refine j_ialoadC (pc2 := 125) (n := 139) (j := 138) rfl rfl (by omega) (by decide) (by decide) (by decide) (by decide) rfl hF (fun v13 hF => ?_)
      exact j_iret rfl rfl hF
    rw [if_neg hs10] at hF
    by_cases hs11 : p1 = (11 : Int32)
    · rw [if_pos hs11] at hF
      refine j_switch (t := 126) rfl (by rw [hs11]; rfl) ?_
      refine w_aload_n (pc2 := 127) rfl rfl rfl ?_
      refine j_geti (pc2 := 130) rfl zk_cModel rfl rfl rfl hF (fun v14 hF => ?_)
      exact j_iret rfl rfl hF
    rw [if_neg hs11] at hF
    by_cases hs12 : p1 = (12 : Int32)
    · rw [if_pos hs12] at hF
      refine j_switch (t := 131) rfl (by rw [hs12]; rfl) ?_
      refine w_aload_n (pc2 := 132) rfl rfl rfl ?_
      refine j_geti (pc2 := 135) rfl zk_cModel rfl rfl rfl hF (fun v15 hF => ?_)
      exact j_iret rfl rfl hF
    rw [if_neg hs12] at hF
    by_cases hs13 : p1 = (13 : Int32)
    · rw [if_pos hs13] at hF
      refine j_switch (t := 136) rfl (by rw [hs13]; rfl) ?_
      refine w_aload_n (pc2 := 137) rfl rfl rfl ?_
      refine j_geti (pc2 := 140) rfl zk_cModel rfl rfl rfl hF (fun v16 hF => ?_)
      exact j_iret rfl rfl hF
    rw [if_neg hs13] at hF
    refine j_switch (t := 141) rfl ?_ ?_
    · unfold zz_sw
      by_cases hr : (p1).toInt < 0 ∨ 13 < (p1).toInt
      · rw [if_pos hr]; rfl
      · rw [if_neg hr]
        have hcs : (p1).toInt = 0 ∨ (p1).toInt = 1 ∨ (p1).toInt = 2 ∨ (p1).toInt = 3 ∨ (p1).toInt = 4 ∨ (p1).toInt = 5 ∨ (p1).toInt = 6 ∨ (p1).toInt = 7 ∨ (p1).toInt = 8 ∨ (p1).toInt = 9 ∨ (p1).toInt = 10 ∨ (p1).toInt = 11 ∨ (p1).toInt = 12 ∨ (p1).toInt = 13 := by omega
        rcases hcs with h | h | h | h | h | h | h | h | h | h | h | h | h | h
        · exact absurd (Int32.toInt_inj.mp (h.trans (by decide))) hs0
        · exact absurd (Int32.toInt_inj.mp (h.trans (by decide))) hs1
        · exact absurd (Int32.toInt_inj.mp (h.trans (by decide))) hs2
        · exact absurd (Int32.toInt_inj.mp (h.trans (by decide))) hs3
        · exact absurd (Int32.toInt_inj.mp (h.trans (by decide))) hs4
        · exact absurd (Int32.toInt_inj.mp (h.trans (by decide))) hs5
        · exact absurd (Int32.toInt_inj.mp (h.trans (by decide))) hs6
        · exact absurd (Int32.toInt_inj.mp (h.trans (by decide))) hs7
        · exact absurd (Int32.toInt_inj.mp (h.trans (by decide))) hs8
        · exact absurd (Int32.toInt_inj.mp (h.trans (by decide))) hs9
        · exact absurd (Int32.toInt_inj.mp (h.trans (by decide))) hs10
        · exact absurd (Int32.toInt_inj.mp (h.trans (by decide))) hs11
        · exact absurd (Int32.toInt_inj.mp (h.trans (by decide))) hs12
        · exact absurd (Int32.toInt_inj.mp (h.trans (by decide))) hs13
    · refine w_iconst (pc2 := 142) rfl rfl ?_
      exact j_iret rfl rfl hF
noncomputable def f_Model_image_B43 (p1 : Int32) (a9 : Int32) (s10 : ZS) (g11 : Int32 → ZS → Option (Int32 × ZS)) : Option (Int32 × ZS) := (if (139 : Int32) ≤ a9 then zgi (s10.1 226 10) (fun (v12 : Int32) => some (v12, s10)) else zrd 139 a9 (s10.1 226) (fun (v13 : Int32) => zwa s10 237 556 ((((139 : Int32) * p1) + a9)) v13 (fun (s14 : ZS) => g11 (a9 + (1 : Int32)) s14)))
noncomputable def f_Model_image (p1 : Int32) (s0 : ZS) : Option (Int32 × ZS) := zcl (f_Model_in (p1.toInt64) (0 : Int64) (3 : Int64) s0) (fun (v3 : Int32) (s2 : ZS) => (if ¬ v3 = 0 then zwa s2 240 4 p1 (vp_nar .boolean (1 : Int32)) (fun (s4 : ZS) => zgi (s4.1 216 21) (fun (v5 : Int32) => zwa s4 238 4 p1 v5 (fun (s6 : ZS) => zgi (s6.1 216 22) (fun (v7 : Int32) => zwa s6 239 4 p1 v7 (fun (s8 : ZS) => zlp zN (f_Model_image_B43 p1) (0 : Int32) s8))))) else some ((-1 : Int32), s2)))
set_option maxHeartbeats 4000000 in
set_option maxRecDepth 100000 in
theorem ok_Model_image {L : Nat} {xs : Nat → Int32} {b : ZH} {p1 : Int32} {s0 : ZS} {w : Int32 × ZS} (hF : f_Model_image p1 s0 = some w) : zz_ct zt_ms zt_nm zt_df (zt_X L xs) 1 zt_m252 [.ref 216, .int p1] (zk b s0) (qI b w) := by
  unfold f_Model_image at hF
  change zz_wp zt_ms zt_nm zt_df (zt_X L xs) 1 zt_m252 0 [(0, .ref 216), (1, .int p1)] [] (zk b s0) (qI b w)
  refine w_iload_n (pc2 := 1) rfl rfl rfl ?_
  refine w_i2l (pc2 := 2) rfl rfl ?_
  refine w_lconst (pc2 := 3) rfl rfl ?_
  refine w_ldc2_w (pc2 := 6) rfl rfl ?_
  refine j_cIs (pc2 := 9) (k := 0) (c := zt_m160) (as := [.long (p1.toInt64), .long (0 : Int64), .long (3 : Int64)]) (rest := []) rfl rfl rfl (Nat.le_of_ble_eq_true rfl) rfl rfl (Nat.le_of_ble_eq_true rfl) (Nat.le_of_ble_eq_true rfl) (fun w1 h1 => ok_Model_in h1) (by decide) rfl hF (fun v3 s2 hF => ?_)
  refine j_if_ne (pc2 := 12) rfl rfl hF (fun hF => ?_) (fun hF => ?_)
  · refine w_aload_n (pc2 := 15) rfl rfl rfl ?_
    refine w_getfield (pc2 := 18) rfl zk_cModel rfl rfl rfl ?_
    refine w_iload_n (pc2 := 19) rfl rfl rfl ?_
    refine w_iconst (pc2 := 20) rfl rfl ?_
    refine j_zastore (pc2 := 21) (n := 4) rfl rfl (by omega) (by decide) rfl hF (fun s4 hF => ?_)
    refine w_aload_n (pc2 := 22) rfl rfl rfl ?_
    refine w_getfield (pc2 := 25) rfl zk_cModel rfl rfl rfl ?_
    refine w_iload_n (pc2 := 26) rfl rfl rfl ?_
    refine w_aload_n (pc2 := 27) rfl rfl rfl ?_
    refine j_geti (pc2 := 30) rfl zk_cModel rfl rfl rfl hF (fun v5 hF => ?_)
    refine j_iastore (pc2 := 31) (n := 4) rfl rfl (by omega) (by decide) rfl hF (fun s6 hF => ?_)
    refine w_aload_n (pc2 := 32) rfl rfl rfl ?_
    refine w_getfield (pc2 := 35) rfl zk_cModel rfl rfl rfl ?_
    refine w_iload_n (pc2 := 36) rfl rfl rfl ?_
    refine w_aload_n (pc2 := 37) rfl rfl rfl ?_
    refine j_geti (pc2 := 40) rfl zk_cModel rfl rfl rfl hF (fun v7 hF => ?_)
    refine j_iastore (pc2 := 41) (n := 4) rfl rfl (by omega) (by decide) rfl hF (fun s8 hF => ?_)
    refine w_iconst (pc2 := 42) rfl rfl ?_
    refine w_istore_n (pc2 := 43) (ls2 := [(2, .int (0 : Int32)), (0, .ref 216), (1, .int p1)]) rfl rfl rfl ?_
    refine j_norm (l := [(0, .ref 216), (1, .int p1), (2, .int (0 : Int32))]) ⟨rfl, rfl, rfl, trivial⟩ (zz_nd_of (ks := [0, 1, 2]) rfl (by decide)) ?_
    refine j_loop (P := fun (a9 : Int32) (s10 : ZS) => zz_wp zt_ms zt_nm zt_df (zt_X L xs) 1 zt_m252 43 [(0, .ref 216), (1, .int p1), (2, .int a9)] [] (zk b s10) (qI b w)) hF (fun a9 s10 g11 hg11 hF => ?_)
    unfold f_Model_image_B43 at hF
    refine w_iload_n (pc2 := 44) rfl rfl rfl ?_
    refine w_sipush (pc2 := 47) rfl rfl ?_
    refine j_icmp_ge (pc2 := 50) rfl rfl hF (fun hF => ?_) (fun hF => ?_)
    · refine w_aload_n (pc2 := 75) rfl rfl rfl ?_
      refine w_getfield (pc2 := 78) rfl zk_cModel rfl rfl rfl ?_
      refine w_bipush (pc2 := 80) rfl rfl ?_
      refine j_ialoadC (pc2 := 81) (n := 139) (j := 10) rfl rfl (by omega) (by decide) (by decide) (by decide) (by decide) rfl hF (fun v12 hF => ?_)
      exact j_iret rfl rfl hF
    · refine w_aload_n (pc2 := 51) rfl rfl rfl ?_
      refine w_getfield (pc2 := 54) rfl zk_cModel rfl rfl rfl ?_
      refine w_sipush (pc2 := 57) rfl rfl ?_
      refine w_iload_n (pc2 := 58) rfl rfl rfl ?_
      refine w_imul (pc2 := 59) rfl rfl ?_
      refine w_iload_n (pc2 := 60) rfl rfl rfl ?_
      refine w_iadd (pc2 := 61) rfl rfl ?_
      refine w_aload_n (pc2 := 62) rfl rfl rfl ?_
      refine w_getfield (pc2 := 65) rfl zk_cModel rfl rfl rfl ?_
      refine w_iload_n (pc2 := 66) rfl rfl rfl ?_
      refine j_iaload (pc2 := 67) (n := 139) rfl rfl (by omega) (by decide) rfl hF (fun v13 hF => ?_)
      refine j_iastore (pc2 := 68) (n := 556) rfl rfl (by omega) (by decide) rfl hF (fun s14 hF => ?_)
      refine w_iinc (pc2 := 71) (ls2 := [(2, .int ((a9 + (1 : Int32)))), (0, .ref 216), (1, .int p1)]) rfl rfl rfl rfl ?_
      refine w_goto rfl ?_
      exact j_norm (l := [(0, .ref 216), (1, .int p1), (2, .int ((a9 + (1 : Int32))))]) ⟨rfl, rfl, rfl, trivial⟩ (zz_nd_of (ks := [0, 1, 2]) rfl (by decide)) (hg11 (a9 + (1 : Int32)) s14 hF)
  · refine w_iconst (pc2 := 13) rfl rfl ?_
    exact j_iret rfl rfl hF
noncomputable def f_Model_back_B50 (p1 : Int32) (a10 : Int32) (s11 : ZS) (g12 : Int32 → ZS → Option (Int32 × ZS)) : Option (Int32 × ZS) := (if (139 : Int32) ≤ a10 then zgi (s11.1 226 10) (fun (v13 : Int32) => some (v13, s11)) else zrd 556 ((((139 : Int32) * p1) + a10)) (s11.1 237) (fun (v14 : Int32) => zwa s11 226 139 a10 v14 (fun (s15 : ZS) => g12 (a10 + (1 : Int32)) s15)))
noncomputable def f_Model_back (p1 : Int32) (s0 : ZS) : Option (Int32 × ZS) := zcl (f_Model_in (p1.toInt64) (0 : Int64) (3 : Int64) s0) (fun (v3 : Int32) (s2 : ZS) => (if v3 = 0 then some ((-1 : Int32), s2) else zrd 4 p1 (s2.1 240) (fun (v4 : Int32) => (if ¬ v4 = 0 then zrd 4 p1 (s2.1 238) (fun (v5 : Int32) => zwi s2 216 21 v5 (fun (s6 : ZS) => zrd 4 p1 (s6.1 239) (fun (v7 : Int32) => zwi s6 216 22 v7 (fun (s8 : ZS) => zwi s8 216 27 (0 : Int32) (fun (s9 : ZS) => zlp zN (f_Model_back_B50 p1) (0 : Int32) s9))))) else some ((-1 : Int32), s2)))))
set_option maxHeartbeats 4000000 in
set_option maxRecDepth 100000 in
theorem ok_Model_back {L : Nat} {xs : Nat → Int32} {b : ZH} {p1 : Int32} {s0 : ZS} {w : Int32 × ZS} (hF : f_Model_back p1 s0 = some w) : zz_ct zt_ms zt_nm zt_df (zt_X L xs) 1 zt_m253 [.ref 216, .int p1] (zk b s0) (qI b w) := by
  unfold f_Model_back at hF
  change zz_wp zt_ms zt_nm zt_df (zt_X L xs) 1 zt_m253 0 [(0, .ref 216), (1, .int p1)] [] (zk b s0) (qI b w)
  refine w_iload_n (pc2 := 1) rfl rfl rfl ?_
  refine w_i2l (pc2 := 2) rfl rfl ?_
  refine w_lconst (pc2 := 3) rfl rfl ?_
  refine w_ldc2_w (pc2 := 6) rfl rfl ?_
  refine j_cIs (pc2 := 9) (k := 0) (c := zt_m160) (as := [.long (p1.toInt64), .long (0 : Int64), .long (3 : Int64)]) (rest := []) rfl rfl rfl (Nat.le_of_ble_eq_true rfl) rfl rfl (Nat.le_of_ble_eq_true rfl) (Nat.le_of_ble_eq_true rfl) (fun w1 h1 => ok_Model_in h1) (by decide) rfl hF (fun v3 s2 hF => ?_)
  refine j_if_eq (pc2 := 12) rfl rfl hF (fun hF => ?_) (fun hF => ?_)
  · refine w_iconst (pc2 := 22) rfl rfl ?_
    exact j_iret rfl rfl hF
  · refine w_aload_n (pc2 := 13) rfl rfl rfl ?_
    refine w_getfield (pc2 := 16) rfl zk_cModel rfl rfl rfl ?_
    refine w_iload_n (pc2 := 17) rfl rfl rfl ?_
    refine j_zaload (pc2 := 18) (n := 4) rfl rfl (by omega) (by decide) rfl hF (fun v4 hF => ?_)
    refine j_if_ne (pc2 := 21) rfl rfl hF (fun hF => ?_) (fun hF => ?_)
    · refine w_aload_n (pc2 := 24) rfl rfl rfl ?_
      refine w_aload_n (pc2 := 25) rfl rfl rfl ?_
      refine w_getfield (pc2 := 28) rfl zk_cModel rfl rfl rfl ?_
      refine w_iload_n (pc2 := 29) rfl rfl rfl ?_
      refine j_iaload (pc2 := 30) (n := 4) rfl rfl (by omega) (by decide) rfl hF (fun v5 hF => ?_)
      refine j_puti (pc2 := 33) (j := 21) rfl zk_cModel rfl (Nat.le_of_ble_eq_true rfl) rfl zk_wModel_21 (by decide) rfl hF (fun s6 hF => ?_)
      refine w_aload_n (pc2 := 34) rfl rfl rfl ?_
      refine w_aload_n (pc2 := 35) rfl rfl rfl ?_
      refine w_getfield (pc2 := 38) rfl zk_cModel rfl rfl rfl ?_
      refine w_iload_n (pc2 := 39) rfl rfl rfl ?_
      refine j_iaload (pc2 := 40) (n := 4) rfl rfl (by omega) (by decide) rfl hF (fun v7 hF => ?_)
      refine j_puti (pc2 := 43) (j := 22) rfl zk_cModel rfl (Nat.le_of_ble_eq_true rfl) rfl zk_wModel_22 (by decide) rfl hF (fun s8 hF => ?_)
      refine w_aload_n (pc2 := 44) rfl rfl rfl ?_
      refine w_iconst (pc2 := 45) rfl rfl ?_
      refine j_puti (pc2 := 48) (j := 27) rfl zk_cModel rfl (Nat.le_of_ble_eq_true rfl) rfl zk_wModel_27 (by decide) rfl hF (fun s9 hF => ?_)
      refine w_iconst (pc2 := 49) rfl rfl ?_
      refine w_istore_n (pc2 := 50) (ls2 := [(2, .int (0 : Int32)), (0, .ref 216), (1, .int p1)]) rfl rfl rfl ?_
      refine j_norm (l := [(0, .ref 216), (1, .int p1), (2, .int (0 : Int32))]) ⟨rfl, rfl, rfl, trivial⟩ (zz_nd_of (ks := [0, 1, 2]) rfl (by decide)) ?_
      refine j_loop (P := fun (a10 : Int32) (s11 : ZS) => zz_wp zt_ms zt_nm zt_df (zt_X L xs) 1 zt_m253 50 [(0, .ref 216), (1, .int p1), (2, .int a10)] [] (zk b s11) (qI b w)) hF (fun a10 s11 g12 hg12 hF => ?_)
      unfold f_Model_back_B50 at hF
      refine w_iload_n (pc2 := 51) rfl rfl rfl ?_
      refine w_sipush (pc2 := 54) rfl rfl ?_
      refine j_icmp_ge (pc2 := 57) rfl rfl hF (fun hF => ?_) (fun hF => ?_)
      · refine w_aload_n (pc2 := 82) rfl rfl rfl ?_
        refine w_getfield (pc2 := 85) rfl zk_cModel rfl rfl rfl ?_
        refine w_bipush (pc2 := 87) rfl rfl ?_
        refine j_ialoadC (pc2 := 88) (n := 139) (j := 10) rfl rfl (by omega) (by decide) (by decide) (by decide) (by decide) rfl hF (fun v13 hF => ?_)
        exact j_iret rfl rfl hF
      · refine w_aload_n (pc2 := 58) rfl rfl rfl ?_
        refine w_getfield (pc2 := 61) rfl zk_cModel rfl rfl rfl ?_
        refine w_iload_n (pc2 := 62) rfl rfl rfl ?_
        refine w_aload_n (pc2 := 63) rfl rfl rfl ?_
        refine w_getfield (pc2 := 66) rfl zk_cModel rfl rfl rfl ?_
        refine w_sipush (pc2 := 69) rfl rfl ?_
        refine w_iload_n (pc2 := 70) rfl rfl rfl ?_
        refine w_imul (pc2 := 71) rfl rfl ?_
        refine w_iload_n (pc2 := 72) rfl rfl rfl ?_
        refine w_iadd (pc2 := 73) rfl rfl ?_
        refine j_iaload (pc2 := 74) (n := 556) rfl rfl (by omega) (by decide) rfl hF (fun v14 hF => ?_)
        refine j_iastore (pc2 := 75) (n := 139) rfl rfl (by omega) (by decide) rfl hF (fun s15 hF => ?_)
        refine w_iinc (pc2 := 78) (ls2 := [(2, .int ((a10 + (1 : Int32)))), (0, .ref 216), (1, .int p1)]) rfl rfl rfl rfl ?_
        refine w_goto rfl ?_
        exact j_norm (l := [(0, .ref 216), (1, .int p1), (2, .int ((a10 + (1 : Int32))))]) ⟨rfl, rfl, rfl, trivial⟩ (zz_nd_of (ks := [0, 1, 2]) rfl (by decide)) (hg12 (a10 + (1 : Int32)) s15 hF)
    · refine w_iconst (pc2 := 22) rfl rfl ?_
      exact j_iret rfl rfl hF
