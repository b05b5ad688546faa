/-! What methods do as functions of the state, and that the small machine does so. -/
noncomputable def f_Model_says_B36 (p1 : Int32) (p2 : Int32) (k10 : Int32 → ZS → Option (Int32 × ZS)) (a13 : Int32 × Int32) (s14 : ZS) (g15 : (Int32 × Int32) → ZS → Option (Int32 × ZS)) : Option (Int32 × ZS) := zgi (s14.1 226 3) (fun (v16 : Int32) => (if v16 ≤ a13.2 then k10 a13.1 s14 else zrd 139 (((103 : Int32) + p1)) (s14.1 226) (fun (v17 : Int32) => zcl (f_Model_isOf v17 a13.2 s14) (fun (v19 : Int32) (s18 : ZS) => zjn (A := Int32) (fun (a21 : Int32) (s20 : ZS) => g15 (a21, (a13.2 + (1 : Int32))) s20) (fun (k22 : Int32 → ZS → Option (Int32 × ZS)) => (if v19 = 0 then k22 a13.1 s18 else zcl (f_Model_isBare a13.2 s18) (fun (v24 : Int32) (s23 : ZS) => (if v24 = 0 then k22 a13.1 s23 else zgi (s23.1 216 24) (fun (v25 : Int32) => (if ¬ a13.2 = v25 then zrd 139 (((67 : Int32) + p2)) (s23.1 226) (fun (v26 : Int32) => zcv (f_Model_rises a13.2 ((v26 / (2 : Int32))) s23) (fun (s27 : ZS) => k22 (a13.1 ||| ((1 : Int32) <<< (a13.2 &&& (31 : Int32)))) s27)) else k22 a13.1 s23))))))))))
noncomputable def f_Model_says (p1 : Int32) (p2 : Int32) (s0 : ZS) : Option (Int32 × ZS) := zcl (f_Model_hurts p1 p2 s0) (fun (v4 : Int32) (s3 : ZS) => zcv (f_Model_rises p1 v4 s3) (fun (s5 : ZS) => zrd 139 ((((27 : Int32) + ((6 : Int32) * p1)) + p2)) (s5.1 226) (fun (v6 : Int32) => zwa s5 226 139 ((((27 : Int32) + ((6 : Int32) * p1)) + p2)) ((v6 + (1 : Int32))) (fun (s7 : ZS) => zjn (A := Int32) (fun (a9 : Int32) (s8 : ZS) => zcl (f_Model_rowsOf a9 s8) (fun (v12 : Int32) (s11 : ZS) => some (v12, s11))) (fun (k10 : Int32 → ZS → Option (Int32 × ZS)) => zlp zN (f_Model_says_B36 p1 p2 k10) (((1 : Int32) <<< (p1 &&& (31 : Int32))), (0 : Int32)) s7)))))
set_option maxHeartbeats 4000000 in
set_option maxRecDepth 100000 in
theorem ok_Model_says {L : Nat} {xs : Nat → Int32} {b : ZH} {p1 : Int32} {p2 : Int32} {s0 : ZS} {w : Int32 × ZS} (hF : f_Model_says p1 p2 s0 = some w) : zz_ct zt_ms zt_nm zt_df (zt_X L xs) 2 zt_m208 [.ref 216, .int p1, .int p2] (zk b s0) (qI b w) := by
  unfold f_Model_says at hF
  change zz_wp zt_ms zt_nm zt_df (zt_X L xs) 2 zt_m208 0 [(0, .ref 216), (1, .int p1), (2, .int p2)] [] (zk b s0) (qI b w)
  refine w_iconst (pc2 := 1) rfl rfl ?_
  refine w_iload_n (pc2 := 2) rfl rfl rfl ?_
  refine w_ishl (pc2 := 3) rfl rfl ?_
  refine w_istore_n (pc2 := 4) (ls2 := [(3, .int (((1 : Int32) <<< (p1 &&& (31 : Int32))))), (0, .ref 216), (1, .int p1), (2, .int p2)]) rfl rfl rfl ?_
  refine w_aload_n (pc2 := 5) rfl rfl rfl ?_
  refine w_iload_n (pc2 := 6) rfl rfl rfl ?_
  refine w_aload_n (pc2 := 7) rfl rfl rfl ?_
  refine w_iload_n (pc2 := 8) rfl rfl rfl ?_
  refine w_iload_n (pc2 := 9) rfl rfl rfl ?_
  refine j_cIv (pc2 := 12) (k := 0) (c := zt_m191) (as := [.ref 216, .int p1, .int p2]) (rest := [.int p1, .ref 216]) rfl rfl rfl rfl zk_cModel.look rfl (Nat.le_of_ble_eq_true rfl) (Nat.le_of_ble_eq_true rfl) (fun w1 h1 => ok_Model_hurts h1) (by decide) rfl hF (fun v4 s3 hF => ?_)
  refine j_cVv (pc2 := 15) (k := 1) (c := zt_m209) (as := [.ref 216, .int p1, .int v4]) (rest := []) rfl rfl rfl rfl zk_cModel.look rfl (Nat.le_of_ble_eq_true rfl) (Nat.le_of_ble_eq_true rfl) (fun w1 h1 => ok_Model_rises h1) (by decide) rfl hF (fun s5 hF => ?_)
  refine w_aload_n (pc2 := 16) rfl rfl rfl ?_
  refine w_getfield (pc2 := 19) rfl zk_cModel rfl rfl rfl ?_
  refine w_bipush (pc2 := 21) rfl rfl ?_
  refine w_bipush (pc2 := 23) rfl rfl ?_
  refine w_iload_n (pc2 := 24) rfl rfl rfl ?_
  refine w_imul (pc2 := 25) rfl rfl ?_
  refine w_iadd (pc2 := 26) rfl rfl ?_
  refine w_iload_n (pc2 := 27) rfl rfl rfl ?_
  refine w_iadd (pc2 := 28) rfl rfl ?_
  refine w_dup2 (pc2 := 29) rfl rfl rfl rfl ?_
  refine j_iaload (pc2 := 30) (n := 139) rfl rfl (by omega) (by decide) rfl hF (fun v6 hF => ?_)
  refine w_iconst (pc2 := 31) rfl rfl ?_
  refine w_iadd (pc2 := 32) rfl rfl ?_
  refine j_iastore (pc2 := 33) (n := 139) rfl rfl (by omega) (by decide) rfl hF (fun s7 hF => ?_)
  refine w_iconst (pc2 := 34) rfl rfl ?_
  refine w_istore (pc2 := 36) (ls2 := [(4, .int (0 : Int32)), (3, .int (((1 : Int32) <<< (p1 &&& (31 : Int32))))), (0, .ref 216), (1, .int p1), (2, .int p2)]) rfl rfl rfl ?_
  refine j_join (P := fun (a9 : Int32) (s8 : ZS) => zz_wp zt_ms zt_nm zt_df (zt_X L xs) 2 zt_m208 115 [(0, .ref 216), (3, .int a9)] [] (zk b s8) (qI b w)) hF (fun a9 s8 hF => ?_) (fun k10 hk10 hF => ?_)
  · refine w_aload_n (pc2 := 116) rfl rfl rfl ?_
    refine w_iload_n (pc2 := 117) rfl rfl rfl ?_
    refine j_cIv (pc2 := 120) (k := 1) (c := zt_m211) (as := [.ref 216, .int a9]) (rest := []) rfl rfl rfl rfl zk_cModel.look rfl (Nat.le_of_ble_eq_true rfl) (Nat.le_of_ble_eq_true rfl) (fun w1 h1 => ok_Model_rowsOf h1) (by decide) rfl hF (fun v12 s11 hF => ?_)
    exact j_iret rfl rfl hF
  · refine j_norm (l := [(0, .ref 216), (1, .int p1), (2, .int p2), (3, .int (((1 : Int32) <<< (p1 &&& (31 : Int32))))), (4, .int (0 : Int32))]) ⟨rfl, rfl, rfl, rfl, rfl, trivial⟩ (zz_nd_of (ks := [0, 1, 2, 3, 4]) rfl (by decide)) ?_
    refine j_loop (P := fun (a13 : Int32 × Int32) (s14 : ZS) => zz_wp zt_ms zt_nm zt_df (zt_X L xs) 2 zt_m208 36 [(0, .ref 216), (1, .int p1), (2, .int p2), (3, .int a13.1), (4, .int a13.2)] [] (zk b s14) (qI b w)) hF (fun a13 s14 g15 hg15 hF => ?_)
    unfold f_Model_says_B36 at hF
    refine w_iload (pc2 := 38) rfl rfl rfl ?_
    refine w_aload_n (pc2 := 39) rfl rfl rfl ?_
    refine w_getfield (pc2 := 42) rfl zk_cModel rfl rfl rfl ?_
    refine w_iconst (pc2 := 43) rfl rfl ?_
    refine j_ialoadC (pc2 := 44) (n := 139) (j := 3) rfl rfl (by omega) (by decide) (by decide) (by decide) (by decide) rfl hF (fun v16 hF => ?_)
    refine j_icmp_ge (pc2 := 47) rfl rfl hF (fun hF => ?_) (fun hF => ?_)
    · exact j_norm (l := [(0, .ref 216), (3, .int a13.1)]) ⟨rfl, rfl, trivial⟩ (zz_nd_of (ks := [0, 3]) rfl (by decide)) (hk10 a13.1 s14 hF)
    · refine w_aload_n (pc2 := 48) rfl rfl rfl ?_
      refine w_getfield (pc2 := 51) rfl zk_cModel rfl rfl rfl ?_
      refine w_bipush (pc2 := 53) rfl rfl ?_
      refine w_iload_n (pc2 := 54) rfl rfl rfl ?_
      refine w_iadd (pc2 := 55) rfl rfl ?_
      refine j_iaload (pc2 := 56) (n := 139) rfl rfl (by omega) (by decide) rfl hF (fun v17 hF => ?_)
      refine w_iload (pc2 := 58) rfl rfl rfl ?_
      refine j_cIs (pc2 := 61) (k := 0) (c := zt_m199) (as := [.int v17, .int a13.2]) (rest := []) rfl rfl rfl (Nat.le_of_ble_eq_true rfl) rfl rfl (Nat.le_of_ble_eq_true rfl) (Nat.le_of_ble_eq_true rfl) (fun w1 h1 => ok_Model_isOf h1) (by decide) rfl hF (fun v19 s18 hF => ?_)
      refine j_join (P := fun (a21 : Int32) (s20 : ZS) => zz_wp zt_ms zt_nm zt_df (zt_X L xs) 2 zt_m208 109 [(0, .ref 216), (1, .int p1), (2, .int p2), (3, .int a21), (4, .int a13.2)] [] (zk b s20) (qI b w)) hF (fun a21 s20 hF => ?_) (fun k22 hk22 hF => ?_)
      · refine w_iinc (pc2 := 112) (ls2 := [(4, .int ((a13.2 + (1 : Int32)))), (0, .ref 216), (1, .int p1), (2, .int p2), (3, .int a21)]) rfl rfl rfl rfl ?_
        refine w_goto rfl ?_
        exact j_norm (l := [(0, .ref 216), (1, .int p1), (2, .int p2), (3, .int a21), (4, .int ((a13.2 + (1 : Int32))))]) ⟨rfl, rfl, rfl, rfl, rfl, trivial⟩ (zz_nd_of (ks := [0, 1, 2, 3, 4]) rfl (by decide)) (hg15 (a21, (a13.2 + (1 : Int32))) s20 hF)
      · refine j_if_eq (pc2 := 64) rfl rfl hF (fun hF => ?_) (fun hF => ?_)
        · exact j_norm (l := [(0, .ref 216), (1, .int p1), (2, .int p2), (3, .int a13.1), (4, .int a13.2)]) ⟨rfl, rfl, rfl, rfl, rfl, trivial⟩ (zz_nd_of (ks := [0, 1, 2, 3, 4]) rfl (by decide)) (hk22 a13.1 s18 hF)
        · refine w_aload_n (pc2 := 65) rfl rfl rfl ?_
          refine w_iload (pc2 := 67) rfl rfl rfl ?_
          refine j_cIv (pc2 := 70) (k := 1) (c := zt_m197) (as := [.ref 216, .int a13.2]) (rest := []) rfl rfl rfl rfl zk_cModel.look rfl (Nat.le_of_ble_eq_true rfl) (Nat.le_of_ble_eq_true rfl) (fun w1 h1 => ok_Model_isBare h1) (by decide) rfl hF (fun v24 s23 hF => ?_)
          refine j_if_eq (pc2 := 73) rfl rfl hF (fun hF => ?_) (fun hF => ?_)
          · exact j_norm (l := [(0, .ref 216), (1, .int p1), (2, .int p2), (3, .int a13.1), (4, .int a13.2)]) ⟨rfl, rfl, rfl, rfl, rfl, trivial⟩ (zz_nd_of (ks := [0, 1, 2, 3, 4]) rfl (by decide)) (hk22 a13.1 s23 hF)
          · refine w_iload (pc2 := 75) rfl rfl rfl ?_
            refine w_aload_n (pc2 := 76) rfl rfl rfl ?_
            refine j_geti (pc2 := 79) rfl zk_cModel rfl rfl rfl hF (fun v25 hF => ?_)
            refine j_icmp_ne (pc2 := 82) rfl rfl hF (fun hF => ?_) (fun hF => ?_)
            · refine w_aload_n (pc2 := 86) rfl rfl rfl ?_
              refine w_iload (pc2 := 88) rfl rfl rfl ?_
              refine w_aload_n (pc2 := 89) rfl rfl rfl ?_
              refine w_getfield (pc2 := 92) rfl zk_cModel rfl rfl rfl ?_
              refine w_bipush (pc2 := 94) rfl rfl ?_
              refine w_iload_n (pc2 := 95) rfl rfl rfl ?_
              refine w_iadd (pc2 := 96) rfl rfl ?_
              refine j_iaload (pc2 := 97) (n := 139) rfl rfl (by omega) (by decide) rfl hF (fun v26 hF => ?_)
              refine w_iconst (pc2 := 98) rfl rfl ?_
              refine w_idiv (pc2 := 99) rfl (by decide) rfl ?_
              refine j_cVv (pc2 := 102) (k := 1) (c := zt_m209) (as := [.ref 216, .int a13.2, .int ((v26 / (2 : Int32)))]) (rest := []) rfl rfl rfl rfl zk_cModel.look rfl (Nat.le_of_ble_eq_true rfl) (Nat.le_of_ble_eq_true rfl) (fun w1 h1 => ok_Model_rises h1) (by decide) rfl hF (fun s27 hF => ?_)
              refine w_iload_n (pc2 := 103) rfl rfl rfl ?_
              refine w_iconst (pc2 := 104) rfl rfl ?_
              refine w_iload (pc2 := 106) rfl rfl rfl ?_
              refine w_ishl (pc2 := 107) rfl rfl ?_
              refine w_ior (pc2 := 108) rfl rfl ?_
              refine w_istore_n (pc2 := 109) (ls2 := [(3, .int ((a13.1 ||| ((1 : Int32) <<< (a13.2 &&& (31 : Int32)))))), (0, .ref 216), (1, .int p1), (2, .int p2), (4, .int a13.2)]) rfl rfl rfl ?_
              exact j_norm (l := [(0, .ref 216), (1, .int p1), (2, .int p2), (3, .int ((a13.1 ||| ((1 : Int32) <<< (a13.2 &&& (31 : Int32)))))), (4, .int a13.2)]) ⟨rfl, rfl, rfl, rfl, rfl, trivial⟩ (zz_nd_of (ks := [0, 1, 2, 3, 4]) rfl (by decide)) (hk22 (a13.1 ||| ((1 : Int32) <<< (a13.2 &&& (31 : Int32)))) s27 hF)
            · refine w_goto rfl ?_
              exact j_norm (l := [(0, .ref 216), (1, .int p1), (2, .int p2), (3, .int a13.1), (4, .int a13.2)]) ⟨rfl, rfl, rfl, rfl, rfl, trivial⟩ (zz_nd_of (ks := [0, 1, 2, 3, 4]) rfl (by decide)) (hk22 a13.1 s23 hF)
noncomputable def f_Model_wears_B2 (a1 : Int32) (s2 : ZS) (g3 : Int32 → ZS → Option (ZS)) : Option (ZS) := zgi (s2.1 226 3) (fun (v4 : Int32) => (if v4 ≤ a1 then some s2 else zgi (s2.1 226 10) (fun (v5 : Int32) => (if ¬ (v5 - v5 / (10 : Int32) * (10 : Int32)) = (9 : Int32) then some s2 else zcl (f_Model_isBare a1 s2) (fun (v7 : Int32) (s6 : ZS) => zj0 (fun (s8 : ZS) => g3 (a1 + (1 : Int32)) s8) (fun (k9 : ZS → Option (ZS)) => (if v7 = 0 then zrd 139 ((((12 : Int32) + ((3 : Int32) * a1)) + (1 : Int32))) (s6.1 226) (fun (v10 : Int32) => zgi (s6.1 226 2) (fun (v11 : Int32) => zwa s6 226 139 ((((12 : Int32) + ((3 : Int32) * a1)) + (1 : Int32))) (v10 - v11) (fun (s12 : ZS) => zcl (f_Model_bandOf a1 s12) (fun (v14 : Int32) (s13 : ZS) => (if v14 ≤ 0 then zwa s13 226 139 ((((12 : Int32) + ((3 : Int32) * a1)) + (1 : Int32))) (0 : Int32) (fun (s15 : ZS) => zwa s15 226 139 ((((12 : Int32) + ((3 : Int32) * a1)) + (2 : Int32))) (0 : Int32) (fun (s16 : ZS) => k9 s16)) else k9 s13))))) else k9 s6)))))))
noncomputable def f_Model_wears (s0 : ZS) : Option (ZS) := zlp zN (f_Model_wears_B2) (0 : Int32) s0
set_option maxHeartbeats 4000000 in
set_option maxRecDepth 100000 in
theorem ok_Model_wears {L : Nat} {xs : Nat → Int32} {b : ZH} {s0 : ZS} {w : ZS} (hF : f_Model_wears s0 = some w) : zz_ct zt_ms zt_nm zt_df (zt_X L xs) 2 zt_m212 [.ref 216] (zk b s0) (qV b w) := by
  unfold f_Model_wears at hF
  change zz_wp zt_ms zt_nm zt_df (zt_X L xs) 2 zt_m212 0 [(0, .ref 216)] [] (zk b s0) (qV b w)
  refine w_iconst (pc2 := 1) rfl rfl ?_
  refine w_istore_n (pc2 := 2) (ls2 := [(1, .int (0 : Int32)), (0, .ref 216)]) rfl rfl rfl ?_
  refine j_norm (l := [(0, .ref 216), (1, .int (0 : Int32))]) ⟨rfl, rfl, trivial⟩ (zz_nd_of (ks := [0, 1]) rfl (by decide)) ?_
  refine j_loop (P := fun (a1 : Int32) (s2 : ZS) => zz_wp zt_ms zt_nm zt_df (zt_X L xs) 2 zt_m212 2 [(0, .ref 216), (1, .int a1)] [] (zk b s2) (qV b w)) hF (fun a1 s2 g3 hg3 hF => ?_)
  unfold f_Model_wears_B2 at hF
  refine w_iload_n (pc2 := 3) rfl rfl rfl ?_
  refine w_aload_n (pc2 := 4) rfl rfl rfl ?_
  refine w_getfield (pc2 := 7) rfl zk_cModel rfl rfl rfl ?_
  refine w_iconst (pc2 := 8) rfl rfl ?_
  refine j_ialoadC (pc2 := 9) (n := 139) (j := 3) rfl rfl (by omega) (by decide) (by decide) (by decide) (by decide) rfl hF (fun v4 hF => ?_)
  refine j_icmp_ge (pc2 := 12) rfl rfl hF (fun hF => ?_) (fun hF => ?_)
  · exact j_vret rfl rfl hF
  · refine w_aload_n (pc2 := 13) rfl rfl rfl ?_
    refine w_getfield (pc2 := 16) rfl zk_cModel rfl rfl rfl ?_
    refine w_bipush (pc2 := 18) rfl rfl ?_
    refine j_ialoadC (pc2 := 19) (n := 139) (j := 10) rfl rfl (by omega) (by decide) (by decide) (by decide) (by decide) rfl hF (fun v5 hF => ?_)
    refine w_bipush (pc2 := 21) rfl rfl ?_
    refine w_irem (pc2 := 22) rfl (by decide) rfl ?_
    refine w_bipush (pc2 := 24) rfl rfl ?_
    refine j_icmp_ne (pc2 := 27) rfl rfl hF (fun hF => ?_) (fun hF => ?_)
    · exact j_vret rfl rfl hF
    · refine w_aload_n (pc2 := 28) rfl rfl rfl ?_
      refine w_iload_n (pc2 := 29) rfl rfl rfl ?_
      refine j_cIv (pc2 := 32) (k := 1) (c := zt_m197) (as := [.ref 216, .int a1]) (rest := []) rfl rfl rfl rfl zk_cModel.look rfl (Nat.le_of_ble_eq_true rfl) (Nat.le_of_ble_eq_true rfl) (fun w1 h1 => ok_Model_isBare h1) (by decide) rfl hF (fun v7 s6 hF => ?_)
      refine j_join0 (P := fun (s8 : ZS) => zz_wp zt_ms zt_nm zt_df (zt_X L xs) 2 zt_m212 99 [(0, .ref 216), (1, .int a1)] [] (zk b s8) (qV b w)) hF (fun s8 hF => ?_) (fun k9 hk9 hF => ?_)
      · refine w_iinc (pc2 := 102) (ls2 := [(1, .int ((a1 + (1 : Int32)))), (0, .ref 216)]) rfl rfl rfl rfl ?_
        refine w_goto rfl ?_
        exact j_norm (l := [(0, .ref 216), (1, .int ((a1 + (1 : Int32))))]) ⟨rfl, rfl, trivial⟩ (zz_nd_of (ks := [0, 1]) rfl (by decide)) (hg3 (a1 + (1 : Int32)) s8 hF)
      · refine j_if_eq (pc2 := 35) rfl rfl hF (fun hF => ?_) (fun hF => ?_)
        · refine w_aload_n (pc2 := 39) rfl rfl rfl ?_
          refine w_getfield (pc2 := 42) rfl zk_cModel rfl rfl rfl ?_
          refine w_bipush (pc2 := 44) rfl rfl ?_
          refine w_iconst (pc2 := 45) rfl rfl ?_
          refine w_iload_n (pc2 := 46) rfl rfl rfl ?_
          refine w_imul (pc2 := 47) rfl rfl ?_
          refine w_iadd (pc2 := 48) rfl rfl ?_
          refine w_iconst (pc2 := 49) rfl rfl ?_
          refine w_iadd (pc2 := 50) rfl rfl ?_
          refine w_dup2 (pc2 := 51) rfl rfl rfl rfl ?_
          refine j_iaload (pc2 := 52) (n := 139) rfl rfl (by omega) (by decide) rfl hF (fun v10 hF => ?_)
          refine w_aload_n (pc2 := 53) rfl rfl rfl ?_
          refine w_getfield (pc2 := 56) rfl zk_cModel rfl rfl rfl ?_
          refine w_iconst (pc2 := 57) rfl rfl ?_
          refine j_ialoadC (pc2 := 58) (n := 139) (j := 2) rfl rfl (by omega) (by decide) (by decide) (by decide) (by decide) rfl hF (fun v11 hF => ?_)
          refine w_isub (pc2 := 59) rfl rfl ?_
          refine j_iastore (pc2 := 60) (n := 139) rfl rfl (by omega) (by decide) rfl hF (fun s12 hF => ?_)
          refine w_aload_n (pc2 := 61) rfl rfl rfl ?_
          refine w_iload_n (pc2 := 62) rfl rfl rfl ?_
          refine j_cIv (pc2 := 65) (k := 0) (c := zt_m188) (as := [.ref 216, .int a1]) (rest := []) rfl rfl rfl rfl zk_cModel.look rfl (Nat.le_of_ble_eq_true rfl) (Nat.le_of_ble_eq_true rfl) (fun w1 h1 => ok_Model_bandOf h1) (by decide) rfl hF (fun v14 s13 hF => ?_)
          refine j_if_le (pc2 := 68) rfl rfl hF (fun hF => ?_) (fun hF => ?_)
          · refine w_aload_n (pc2 := 72) rfl rfl rfl ?_
            refine w_getfield (pc2 := 75) rfl zk_cModel rfl rfl rfl ?_
            refine w_bipush (pc2 := 77) rfl rfl ?_
            refine w_iconst (pc2 := 78) rfl rfl ?_
            refine w_iload_n (pc2 := 79) rfl rfl rfl ?_
            refine w_imul (pc2 := 80) rfl rfl ?_
            refine w_iadd (pc2 := 81) rfl rfl ?_
            refine w_iconst (pc2 := 82) rfl rfl ?_
            refine w_iadd (pc2 := 83) rfl rfl ?_
            refine w_iconst (pc2 := 84) rfl rfl ?_
            refine j_iastore (pc2 := 85) (n := 139) rfl rfl (by omega) (by decide) rfl hF (fun s15 hF => ?_)
            refine w_aload_n (pc2 := 86) rfl rfl rfl ?_
            refine w_getfield (pc2 := 89) rfl zk_cModel rfl rfl rfl ?_
            refine w_bipush (pc2 := 91) rfl rfl ?_
            refine w_iconst (pc2 := 92) rfl rfl ?_
            refine w_iload_n (pc2 := 93) rfl rfl rfl ?_
            refine w_imul (pc2 := 94) rfl rfl ?_
            refine w_iadd (pc2 := 95) rfl rfl ?_
            refine w_iconst (pc2 := 96) rfl rfl ?_
            refine w_iadd (pc2 := 97) rfl rfl ?_
            refine w_iconst (pc2 := 98) rfl rfl ?_
            refine j_iastore (pc2 := 99) (n := 139) rfl rfl (by omega) (by decide) rfl hF (fun s16 hF => ?_)
            exact j_norm (l := [(0, .ref 216), (1, .int a1)]) ⟨rfl, rfl, trivial⟩ (zz_nd_of (ks := [0, 1]) rfl (by decide)) (hk9 s16 hF)
          · refine w_goto rfl ?_
            exact j_norm (l := [(0, .ref 216), (1, .int a1)]) ⟨rfl, rfl, trivial⟩ (zz_nd_of (ks := [0, 1]) rfl (by decide)) (hk9 s13 hF)
        · refine w_goto rfl ?_
          exact j_norm (l := [(0, .ref 216), (1, .int a1)]) ⟨rfl, rfl, trivial⟩ (zz_nd_of (ks := [0, 1]) rfl (by decide)) (hk9 s6 hF)
noncomputable def f_Model_passes_B64 (k6 : ZS → Option (Int32 × ZS)) (a9 : Int32) (s10 : ZS) (g11 : Int32 → ZS → Option (Int32 × ZS)) : Option (Int32 × ZS) := zgi (s10.1 226 3) (fun (v12 : Int32) => (if v12 ≤ a9 then k6 s10 else zrd 139 (((12 : Int32) + ((3 : Int32) * a9))) (s10.1 226) (fun (v13 : Int32) => zcl (f_Model_temperOf a9 s10) (fun (v15 : Int32) (s14 : ZS) => zjn (A := Int32) (fun (a17 : Int32) (s16 : ZS) => zwa s16 226 139 (((12 : Int32) + ((3 : Int32) * a9))) (v13 - a17) (fun (s19 : ZS) => g11 (a9 + (1 : Int32)) s19)) (fun (k18 : Int32 → ZS → Option (Int32 × ZS)) => (if v15 ≤ 0 then k18 (0 : Int32) s14 else k18 (1 : Int32) s14))))))
noncomputable def f_Model_passes_B4 (k3 : Int32 → ZS → Option (Int32 × ZS)) (a20 : Int32 × Int32) (s21 : ZS) (g22 : (Int32 × Int32) → ZS → Option (Int32 × ZS)) : Option (Int32 × ZS) := zgi (s21.1 226 3) (fun (v23 : Int32) => (if v23 ≤ a20.2 then k3 a20.1 s21 else zcl (f_Model_isBare a20.2 s21) (fun (v25 : Int32) (s24 : ZS) => zjn (A := Int32) (fun (a27 : Int32) (s26 : ZS) => g22 (a27, (a20.2 + (1 : Int32))) s26) (fun (k28 : Int32 → ZS → Option (Int32 × ZS)) => (if v25 = 0 then k28 a20.1 s24 else zgi (s24.1 216 24) (fun (v29 : Int32) => (if ¬ a20.2 = v29 then zcl (f_Model_choice a20.2 s24) (fun (v31 : Int32) (s30 : ZS) => (if v31 < 0 then k28 a20.1 s30 else zcl (f_Model_says a20.2 v31 s30) (fun (v33 : Int32) (s32 : ZS) => k28 (a20.1 ||| v33) s32))) else k28 a20.1 s24)))))))
noncomputable def f_Model_passes (s0 : ZS) : Option (Int32 × ZS) := zjn (A := Int32) (fun (a2 : Int32) (s1 : ZS) => zcv (f_Model_wears s1) (fun (s4 : ZS) => zj0 (fun (s5 : ZS) => zgi (s5.1 226 10) (fun (v7 : Int32) => zwi s5 226 10 ((v7 + (1 : Int32))) (fun (s8 : ZS) => some (a2, s8)))) (fun (k6 : ZS → Option (Int32 × ZS)) => zlp zN (f_Model_passes_B64 k6) (0 : Int32) s4))) (fun (k3 : Int32 → ZS → Option (Int32 × ZS)) => zlp zN (f_Model_passes_B4 k3) ((0 : Int32), (0 : Int32)) s0)
set_option maxHeartbeats 4000000 in
set_option maxRecDepth 100000 in
theorem ok_Model_passes {L : Nat} {xs : Nat → Int32} {b : ZH} {s0 : ZS} {w : Int32 × ZS} (hF : f_Model_passes s0 = some w) : zz_ct zt_ms zt_nm zt_df (zt_X L xs) 5 zt_m196 [.ref 216] (zk b s0) (qI b w) := by
  unfold f_Model_passes at hF
  change zz_wp zt_ms zt_nm zt_df (zt_X L xs) 5 zt_m196 0 [(0, .ref 216)] [] (zk b s0) (qI b w)
  refine w_iconst (pc2 := 1) rfl rfl ?_
  refine w_istore_n (pc2 := 2) (ls2 := [(1, .int (0 : Int32)), (0, .ref 216)]) rfl rfl rfl ?_
  refine w_iconst (pc2 := 3) rfl rfl ?_
  refine w_istore_n (pc2 := 4) (ls2 := [(2, .int (0 : Int32)), (1, .int (0 : Int32)), (0, .ref 216)]) rfl rfl rfl ?_
  refine j_join (P := fun (a2 : Int32) (s1 : ZS) => zz_wp zt_ms zt_nm zt_df (zt_X L xs) 5 zt_m196 58 [(0, .ref 216), (1, .int a2)] [] (zk b s1) (qI b w)) hF (fun a2 s1 hF => ?_) (fun k3 hk3 hF => ?_)
  · refine w_aload_n (pc2 := 59) rfl rfl rfl ?_
    refine j_cVv (pc2 := 62) (k := 2) (c := zt_m212) (as := [.ref 216]) (rest := []) rfl rfl rfl rfl zk_cModel.look rfl (Nat.le_of_ble_eq_true rfl) (Nat.le_of_ble_eq_true rfl) (fun w1 h1 => ok_Model_wears h1) (by decide) rfl hF (fun s4 hF => ?_)
    refine w_iconst (pc2 := 63) rfl rfl ?_
    refine w_istore_n (pc2 := 64) (ls2 := [(2, .int (0 : Int32)), (0, .ref 216), (1, .int a2)]) rfl rfl rfl ?_
    refine j_join0 (P := fun (s5 : ZS) => zz_wp zt_ms zt_nm zt_df (zt_X L xs) 5 zt_m196 107 [(0, .ref 216), (1, .int a2)] [] (zk b s5) (qI b w)) hF (fun s5 hF => ?_) (fun k6 hk6 hF => ?_)
    · refine w_aload_n (pc2 := 108) rfl rfl rfl ?_
      refine w_getfield (pc2 := 111) rfl zk_cModel rfl rfl rfl ?_
      refine w_bipush (pc2 := 113) rfl rfl ?_
      refine w_dup2 (pc2 := 114) rfl rfl rfl rfl ?_
      refine j_ialoadC (pc2 := 115) (n := 139) (j := 10) rfl rfl (by omega) (by decide) (by decide) (by decide) (by decide) rfl hF (fun v7 hF => ?_)
      refine w_iconst (pc2 := 116) rfl rfl ?_
      refine w_iadd (pc2 := 117) rfl rfl ?_
      refine j_iastoreC (pc2 := 118) (n := 139) (j := 10) rfl rfl (by omega) (by decide) (by decide) (by decide) (by decide) rfl hF (fun s8 hF => ?_)
      refine w_iload_n (pc2 := 119) rfl rfl rfl ?_
      exact j_iret rfl rfl hF
    · refine j_norm (l := [(0, .ref 216), (1, .int a2), (2, .int (0 : Int32))]) ⟨rfl, rfl, rfl, trivial⟩ (zz_nd_of (ks := [0, 1, 2]) rfl (by decide)) ?_
      refine j_loop (P := fun (a9 : Int32) (s10 : ZS) => zz_wp zt_ms zt_nm zt_df (zt_X L xs) 5 zt_m196 64 [(0, .ref 216), (1, .int a2), (2, .int a9)] [] (zk b s10) (qI b w)) hF (fun a9 s10 g11 hg11 hF => ?_)
      unfold f_Model_passes_B64 at hF
      refine w_iload_n (pc2 := 65) rfl rfl rfl ?_
      refine w_aload_n (pc2 := 66) rfl rfl rfl ?_
      refine w_getfield (pc2 := 69) rfl zk_cModel rfl rfl rfl ?_
      refine w_iconst (pc2 := 70) rfl rfl ?_
      refine j_ialoadC (pc2 := 71) (n := 139) (j := 3) rfl rfl (by omega) (by decide) (by decide) (by decide) (by decide) rfl hF (fun v12 hF => ?_)
      refine j_icmp_ge (pc2 := 74) rfl rfl hF (fun hF => ?_) (fun hF => ?_)
      · exact j_norm (l := [(0, .ref 216), (1, .int a2)]) ⟨rfl, rfl, trivial⟩ (zz_nd_of (ks := [0, 1]) rfl (by decide)) (hk6 s10 hF)
      · refine w_aload_n (pc2 := 75) rfl rfl rfl ?_
        refine w_getfield (pc2 := 78) rfl zk_cModel rfl rfl rfl ?_
        refine w_bipush (pc2 := 80) rfl rfl ?_
        refine w_iconst (pc2 := 81) rfl rfl ?_
        refine w_iload_n (pc2 := 82) rfl rfl rfl ?_
        refine w_imul (pc2 := 83) rfl rfl ?_
        refine w_iadd (pc2 := 84) rfl rfl ?_
        refine w_dup2 (pc2 := 85) rfl rfl rfl rfl ?_
        refine j_iaload (pc2 := 86) (n := 139) rfl rfl (by omega) (by decide) rfl hF (fun v13 hF => ?_)
        refine w_aload_n (pc2 := 87) rfl rfl rfl ?_
        refine w_iload_n (pc2 := 88) rfl rfl rfl ?_
        refine j_cIv (pc2 := 91) (k := 0) (c := zt_m187) (as := [.ref 216, .int a9]) (rest := [.int v13, .int (((12 : Int32) + ((3 : Int32) * a9))), .ref 226]) rfl rfl rfl rfl zk_cModel.look rfl (Nat.le_of_ble_eq_true rfl) (Nat.le_of_ble_eq_true rfl) (fun w1 h1 => ok_Model_temperOf h1) (by decide) rfl hF (fun v15 s14 hF => ?_)
        refine j_join (P := fun (a17 : Int32) (s16 : ZS) => zz_wp zt_ms zt_nm zt_df (zt_X L xs) 5 zt_m196 99 [(0, .ref 216), (1, .int a2), (2, .int a9)] [.int a17, .int v13, .int (((12 : Int32) + ((3 : Int32) * a9))), .ref 226] (zk b s16) (qI b w)) hF (fun a17 s16 hF => ?_) (fun k18 hk18 hF => ?_)
        · refine w_isub (pc2 := 100) rfl rfl ?_
          refine j_iastore (pc2 := 101) (n := 139) rfl rfl (by omega) (by decide) rfl hF (fun s19 hF => ?_)
          refine w_iinc (pc2 := 104) (ls2 := [(2, .int ((a9 + (1 : Int32)))), (0, .ref 216), (1, .int a2)]) rfl rfl rfl rfl ?_
          refine w_goto rfl ?_
          exact j_norm (l := [(0, .ref 216), (1, .int a2), (2, .int ((a9 + (1 : Int32))))]) ⟨rfl, rfl, rfl, trivial⟩ (zz_nd_of (ks := [0, 1, 2]) rfl (by decide)) (hg11 (a9 + (1 : Int32)) s19 hF)
        · refine j_if_le (pc2 := 94) rfl rfl hF (fun hF => ?_) (fun hF => ?_)
          · refine w_iconst (pc2 := 99) rfl rfl ?_
            exact j_norm (l := [(0, .ref 216), (1, .int a2), (2, .int a9)]) ⟨rfl, rfl, rfl, trivial⟩ (zz_nd_of (ks := [0, 1, 2]) rfl (by decide)) (hk18 (0 : Int32) s14 hF)
          · refine w_iconst (pc2 := 95) rfl rfl ?_
            refine w_goto rfl ?_
            exact j_norm (l := [(0, .ref 216), (1, .int a2), (2, .int a9)]) ⟨rfl, rfl, rfl, trivial⟩ (zz_nd_of (ks := [0, 1, 2]) rfl (by decide)) (hk18 (1 : Int32) s14 hF)
  · refine j_norm (l := [(0, .ref 216), (1, .int (0 : Int32)), (2, .int (0 : Int32))]) ⟨rfl, rfl, rfl, trivial⟩ (zz_nd_of (ks := [0, 1, 2]) rfl (by decide)) ?_
    refine j_loop (P := fun (a20 : Int32 × Int32) (s21 : ZS) => zz_wp zt_ms zt_nm zt_df (zt_X L xs) 5 zt_m196 4 [(0, .ref 216), (1, .int a20.1), (2, .int a20.2)] [] (zk b s21) (qI b w)) hF (fun a20 s21 g22 hg22 hF => ?_)
    unfold f_Model_passes_B4 at hF
    refine w_iload_n (pc2 := 5) rfl rfl rfl ?_
    refine w_aload_n (pc2 := 6) rfl rfl rfl ?_
    refine w_getfield (pc2 := 9) rfl zk_cModel rfl rfl rfl ?_
    refine w_iconst (pc2 := 10) rfl rfl ?_
    refine j_ialoadC (pc2 := 11) (n := 139) (j := 3) rfl rfl (by omega) (by decide) (by decide) (by decide) (by decide) rfl hF (fun v23 hF => ?_)
    refine j_icmp_ge (pc2 := 14) rfl rfl hF (fun hF => ?_) (fun hF => ?_)
    · exact j_norm (l := [(0, .ref 216), (1, .int a20.1)]) ⟨rfl, rfl, trivial⟩ (zz_nd_of (ks := [0, 1]) rfl (by decide)) (hk3 a20.1 s21 hF)
    · refine w_aload_n (pc2 := 15) rfl rfl rfl ?_
      refine w_iload_n (pc2 := 16) rfl rfl rfl ?_
      refine j_cIv (pc2 := 19) (k := 1) (c := zt_m197) (as := [.ref 216, .int a20.2]) (rest := []) rfl rfl rfl rfl zk_cModel.look rfl (Nat.le_of_ble_eq_true rfl) (Nat.le_of_ble_eq_true rfl) (fun w1 h1 => ok_Model_isBare h1) (by decide) rfl hF (fun v25 s24 hF => ?_)
      refine j_join (P := fun (a27 : Int32) (s26 : ZS) => zz_wp zt_ms zt_nm zt_df (zt_X L xs) 5 zt_m196 52 [(0, .ref 216), (1, .int a27), (2, .int a20.2)] [] (zk b s26) (qI b w)) hF (fun a27 s26 hF => ?_) (fun k28 hk28 hF => ?_)
      · refine w_iinc (pc2 := 55) (ls2 := [(2, .int ((a20.2 + (1 : Int32)))), (0, .ref 216), (1, .int a27)]) rfl rfl rfl rfl ?_
        refine w_goto rfl ?_
        exact j_norm (l := [(0, .ref 216), (1, .int a27), (2, .int ((a20.2 + (1 : Int32))))]) ⟨rfl, rfl, rfl, trivial⟩ (zz_nd_of (ks := [0, 1, 2]) rfl (by decide)) (hg22 (a27, (a20.2 + (1 : Int32))) s26 hF)
      · refine j_if_eq (pc2 := 22) rfl rfl hF (fun hF => ?_) (fun hF => ?_)
        · exact j_norm (l := [(0, .ref 216), (1, .int a20.1), (2, .int a20.2)]) ⟨rfl, rfl, rfl, trivial⟩ (zz_nd_of (ks := [0, 1, 2]) rfl (by decide)) (hk28 a20.1 s24 hF)
        · refine w_iload_n (pc2 := 23) rfl rfl rfl ?_
          refine w_aload_n (pc2 := 24) rfl rfl rfl ?_
          refine j_geti (pc2 := 27) rfl zk_cModel rfl rfl rfl hF (fun v29 hF => ?_)
          refine j_icmp_ne (pc2 := 30) rfl rfl hF (fun hF => ?_) (fun hF => ?_)
          · refine w_aload_n (pc2 := 34) rfl rfl rfl ?_
            refine w_iload_n (pc2 := 35) rfl rfl rfl ?_
            refine j_cIv (pc2 := 38) (k := 4) (c := zt_m198) (as := [.ref 216, .int a20.2]) (rest := []) rfl rfl rfl rfl zk_cModel.look rfl (Nat.le_of_ble_eq_true rfl) (Nat.le_of_ble_eq_true rfl) (fun w1 h1 => ok_Model_choice h1) (by decide) rfl hF (fun v31 s30 hF => ?_)
            refine w_istore_n (pc2 := 39) (ls2 := [(3, .int v31), (0, .ref 216), (1, .int a20.1), (2, .int a20.2)]) rfl rfl rfl ?_
            refine w_iload_n (pc2 := 40) rfl rfl rfl ?_
            refine j_if_lt (pc2 := 43) rfl rfl hF (fun hF => ?_) (fun hF => ?_)
            · exact j_norm (l := [(0, .ref 216), (1, .int a20.1), (2, .int a20.2)]) ⟨rfl, rfl, rfl, trivial⟩ (zz_nd_of (ks := [0, 1, 2]) rfl (by decide)) (hk28 a20.1 s30 hF)
            · refine w_iload_n (pc2 := 44) rfl rfl rfl ?_
              refine w_aload_n (pc2 := 45) rfl rfl rfl ?_
              refine w_iload_n (pc2 := 46) rfl rfl rfl ?_
              refine w_iload_n (pc2 := 47) rfl rfl rfl ?_
              refine j_cIv (pc2 := 50) (k := 2) (c := zt_m208) (as := [.ref 216, .int a20.2, .int v31]) (rest := [.int a20.1]) rfl rfl rfl rfl zk_cModel.look rfl (Nat.le_of_ble_eq_true rfl) (Nat.le_of_ble_eq_true rfl) (fun w1 h1 => ok_Model_says h1) (by decide) rfl hF (fun v33 s32 hF => ?_)
              refine w_ior (pc2 := 51) rfl rfl ?_
              refine w_istore_n (pc2 := 52) (ls2 := [(1, .int (a20.1 ||| v33)), (3, .int v31), (0, .ref 216), (2, .int a20.2)]) rfl rfl rfl ?_
              exact j_norm (l := [(0, .ref 216), (1, .int (a20.1 ||| v33)), (2, .int a20.2)]) ⟨rfl, rfl, rfl, trivial⟩ (zz_nd_of (ks := [0, 1, 2]) rfl (by decide)) (hk28 (a20.1 ||| v33) s32 hF)
          · refine w_goto rfl ?_
            exact j_norm (l := [(0, .ref 216), (1, .int a20.1), (2, .int a20.2)]) ⟨rfl, rfl, rfl, trivial⟩ (zz_nd_of (ks := [0, 1, 2]) rfl (by decide)) (hk28 a20.1 s24 hF)
noncomputable def f_Model_day (s0 : ZS) : Option (Int32 × ZS) := zcl (f_Model_isSmithy s0) (fun (v2 : Int32) (s1 : ZS) => (if v2 = 0 then some ((-1 : Int32), s1) else zgi (s1.1 226 10) (fun (v3 : Int32) => (if ¬ v3 = (999 : Int32) then zcv (f_Model_keepsAct s1) (fun (s4 : ZS) => zcl (f_Model_passes s4) (fun (v6 : Int32) (s5 : ZS) => some (v6, s5))) else some ((-1 : Int32), s1)))))
set_option maxHeartbeats 4000000 in
set_option maxRecDepth 100000 in
theorem ok_Model_day {L : Nat} {xs : Nat → Int32} {b : ZH} {s0 : ZS} {w : Int32 × ZS} (hF : f_Model_day s0 = some w) : zz_ct zt_ms zt_nm zt_df (zt_X L xs) 6 zt_m193 [.ref 216] (zk b s0) (qI b w) := by
  unfold f_Model_day at hF
  change zz_wp zt_ms zt_nm zt_df (zt_X L xs) 6 zt_m193 0 [(0, .ref 216)] [] (zk b s0) (qI b w)
  refine w_aload_n (pc2 := 1) rfl rfl rfl ?_
  refine j_cIv (pc2 := 4) (k := 0) (c := zt_m194) (as := [.ref 216]) (rest := []) rfl rfl rfl rfl zk_cModel.look rfl (Nat.le_of_ble_eq_true rfl) (Nat.le_of_ble_eq_true rfl) (fun w1 h1 => ok_Model_isSmithy h1) (by decide) rfl hF (fun v2 s1 hF => ?_)
  refine j_if_eq (pc2 := 7) rfl rfl hF (fun hF => ?_) (fun hF => ?_)
  · refine w_iconst (pc2 := 21) rfl rfl ?_
    exact j_iret rfl rfl hF
  · refine w_aload_n (pc2 := 8) rfl rfl rfl ?_
    refine w_getfield (pc2 := 11) rfl zk_cModel rfl rfl rfl ?_
    refine w_bipush (pc2 := 13) rfl rfl ?_
    refine j_ialoadC (pc2 := 14) (n := 139) (j := 10) rfl rfl (by omega) (by decide) (by decide) (by decide) (by decide) rfl hF (fun v3 hF => ?_)
    refine w_sipush (pc2 := 17) rfl rfl ?_
    refine j_icmp_ne (pc2 := 20) rfl rfl hF (fun hF => ?_) (fun hF => ?_)
    · refine w_aload_n (pc2 := 23) rfl rfl rfl ?_
      refine j_cVv (pc2 := 26) (k := 0) (c := zt_m195) (as := [.ref 216]) (rest := []) rfl rfl rfl rfl zk_cModel.look rfl (Nat.le_of_ble_eq_true rfl) (Nat.le_of_ble_eq_true rfl) (fun w1 h1 => ok_Model_keepsAct h1) (by decide) rfl hF (fun s4 hF => ?_)
      refine w_aload_n (pc2 := 27) rfl rfl rfl ?_
      refine j_cIv (pc2 := 30) (k := 5) (c := zt_m196) (as := [.ref 216]) (rest := []) rfl rfl rfl rfl zk_cModel.look rfl (Nat.le_of_ble_eq_true rfl) (Nat.le_of_ble_eq_true rfl) (fun w1 h1 => ok_Model_passes h1) (by decide) rfl hF (fun v6 s5 hF => ?_)
      exact j_iret rfl rfl hF
    · refine w_iconst (pc2 := 21) rfl rfl ?_
      exact j_iret rfl rfl hF
noncomputable def f_Model_say (p1 : Int32) (p2 : Int32) (s0 : ZS) : Option (Int32 × ZS) := zcl (f_Model_isBare p1 s0) (fun (v4 : Int32) (s3 : ZS) => (if v4 = 0 then some ((-1 : Int32), s3) else zcl (f_Model_isSaying p2 s3) (fun (v6 : Int32) (s5 : ZS) => (if ¬ v6 = 0 then zcv (f_Model_keepsAct s5) (fun (s7 : ZS) => zcl (f_Model_says p1 p2 s7) (fun (v9 : Int32) (s8 : ZS) => some (v9, s8))) else some ((-1 : Int32), s5)))))
set_option maxHeartbeats 4000000 in
set_option maxRecDepth 100000 in
theorem ok_Model_say {L : Nat} {xs : Nat → Int32} {b : ZH} {p1 : Int32} {p2 : Int32} {s0 : ZS} {w : Int32 × ZS} (hF : f_Model_say p1 p2 s0 = some w) : zz_ct zt_ms zt_nm zt_df (zt_X L xs) 3 zt_m213 [.ref 216, .int p1, .int p2] (zk b s0) (qI b w) := by
  unfold f_Model_say at hF
  change zz_wp zt_ms zt_nm zt_df (zt_X L xs) 3 zt_m213 0 [(0, .ref 216), (1, .int p1), (2, .int p2)] [] (zk b s0) (qI b w)
  refine w_aload_n (pc2 := 1) rfl rfl rfl ?_
  refine w_iload_n (pc2 := 2) rfl rfl rfl ?_
  refine j_cIv (pc2 := 5) (k := 1) (c := zt_m197) (as := [.ref 216, .int p1]) (rest := []) rfl rfl rfl rfl zk_cModel.look rfl (Nat.le_of_ble_eq_true rfl) (Nat.le_of_ble_eq_true rfl) (fun w1 h1 => ok_Model_isBare h1) (by decide) rfl hF (fun v4 s3 hF => ?_)
  refine j_if_eq (pc2 := 8) rfl rfl hF (fun hF => ?_) (fun hF => ?_)
  · refine w_iconst (pc2 := 17) rfl rfl ?_
    exact j_iret rfl rfl hF
  · refine w_aload_n (pc2 := 9) rfl rfl rfl ?_
    refine w_iload_n (pc2 := 10) rfl rfl rfl ?_
    refine j_cIv (pc2 := 13) (k := 0) (c := zt_m190) (as := [.ref 216, .int p2]) (rest := []) rfl rfl rfl rfl zk_cModel.look rfl (Nat.le_of_ble_eq_true rfl) (Nat.le_of_ble_eq_true rfl) (fun w1 h1 => ok_Model_isSaying h1) (by decide) rfl hF (fun v6 s5 hF => ?_)
    refine j_if_ne (pc2 := 16) rfl rfl hF (fun hF => ?_) (fun hF => ?_)
    · refine w_aload_n (pc2 := 19) rfl rfl rfl ?_
      refine j_cVv (pc2 := 22) (k := 0) (c := zt_m195) (as := [.ref 216]) (rest := []) rfl rfl rfl rfl zk_cModel.look rfl (Nat.le_of_ble_eq_true rfl) (Nat.le_of_ble_eq_true rfl) (fun w1 h1 => ok_Model_keepsAct h1) (by decide) rfl hF (fun s7 hF => ?_)
      refine w_aload_n (pc2 := 23) rfl rfl rfl ?_
      refine w_iload_n (pc2 := 24) rfl rfl rfl ?_
      refine w_iload_n (pc2 := 25) rfl rfl rfl ?_
      refine j_cIv (pc2 := 28) (k := 2) (c := zt_m208) (as := [.ref 216, .int p1, .int p2]) (rest := []) rfl rfl rfl rfl zk_cModel.look rfl (Nat.le_of_ble_eq_true rfl) (Nat.le_of_ble_eq_true rfl) (fun w1 h1 => ok_Model_says h1) (by decide) rfl hF (fun v9 s8 hF => ?_)
      exact j_iret rfl rfl hF
    · refine w_iconst (pc2 := 17) rfl rfl ?_
      exact j_iret rfl rfl hF
noncomputable def f_Model_soothe (p1 : Int32) (p2 : Int32) (s0 : ZS) : Option (Int32 × ZS) := zcl (f_Model_isPair p1 s0) (fun (v4 : Int32) (s3 : ZS) => (if v4 = 0 then some ((-1 : Int32), s3) else zcl (f_Model_in (p2.toInt64) (1 : Int64) (20 : Int64) s3) (fun (v6 : Int32) (s5 : ZS) => (if v6 = 0 then some ((-1 : Int32), s5) else zcl (f_Model_temperOf p1 s5) (fun (v8 : Int32) (s7 : ZS) => (if p2 ≤ v8 then zcv (f_Model_keepsAct s7) (fun (s9 : ZS) => zrd 139 (((12 : Int32) + ((3 : Int32) * p1))) (s9.1 226) (fun (v10 : Int32) => zwa s9 226 139 (((12 : Int32) + ((3 : Int32) * p1))) (v10 - p2) (fun (s11 : ZS) => zcl (f_Model_temperOf p1 s11) (fun (v13 : Int32) (s12 : ZS) => some (v13, s12))))) else some ((-1 : Int32), s7)))))))
set_option maxHeartbeats 4000000 in
set_option maxRecDepth 100000 in
theorem ok_Model_soothe {L : Nat} {xs : Nat → Int32} {b : ZH} {p1 : Int32} {p2 : Int32} {s0 : ZS} {w : Int32 × ZS} (hF : f_Model_soothe p1 p2 s0 = some w) : zz_ct zt_ms zt_nm zt_df (zt_X L xs) 1 zt_m214 [.ref 216, .int p1, .int p2] (zk b s0) (qI b w) := by
  unfold f_Model_soothe at hF
  change zz_wp zt_ms zt_nm zt_df (zt_X L xs) 1 zt_m214 0 [(0, .ref 216), (1, .int p1), (2, .int p2)] [] (zk b s0) (qI b w)
  refine w_aload_n (pc2 := 1) rfl rfl rfl ?_
  refine w_iload_n (pc2 := 2) rfl rfl rfl ?_
  refine j_cIv (pc2 := 5) (k := 0) (c := zt_m186) (as := [.ref 216, .int p1]) (rest := []) rfl rfl rfl rfl zk_cModel.look rfl (Nat.le_of_ble_eq_true rfl) (Nat.le_of_ble_eq_true rfl) (fun w1 h1 => ok_Model_isPair h1) (by decide) rfl hF (fun v4 s3 hF => ?_)
  refine j_if_eq (pc2 := 8) rfl rfl hF (fun hF => ?_) (fun hF => ?_)
  · refine w_iconst (pc2 := 30) rfl rfl ?_
    exact j_iret rfl rfl hF
  · refine w_iload_n (pc2 := 9) rfl rfl rfl ?_
    refine w_i2l (pc2 := 10) rfl rfl ?_
    refine w_lconst (pc2 := 11) rfl rfl ?_
    refine w_ldc2_w (pc2 := 14) rfl rfl ?_
    refine j_cIs (pc2 := 17) (k := 0) (c := zt_m160) (as := [.long (p2.toInt64), .long (1 : Int64), .long (20 : Int64)]) (rest := []) rfl rfl rfl (Nat.le_of_ble_eq_true rfl) rfl rfl (Nat.le_of_ble_eq_true rfl) (Nat.le_of_ble_eq_true rfl) (fun w1 h1 => ok_Model_in h1) (by decide) rfl hF (fun v6 s5 hF => ?_)
    refine j_if_eq (pc2 := 20) rfl rfl hF (fun hF => ?_) (fun hF => ?_)
    · refine w_iconst (pc2 := 30) rfl rfl ?_
      exact j_iret rfl rfl hF
    · refine w_aload_n (pc2 := 21) rfl rfl rfl ?_
      refine w_iload_n (pc2 := 22) rfl rfl rfl ?_
      refine j_cIv (pc2 := 25) (k := 0) (c := zt_m187) (as := [.ref 216, .int p1]) (rest := []) rfl rfl rfl rfl zk_cModel.look rfl (Nat.le_of_ble_eq_true rfl) (Nat.le_of_ble_eq_true rfl) (fun w1 h1 => ok_Model_temperOf h1) (by decide) rfl hF (fun v8 s7 hF => ?_)
      refine w_iload_n (pc2 := 26) rfl rfl rfl ?_
      refine j_icmp_ge (pc2 := 29) rfl rfl hF (fun hF => ?_) (fun hF => ?_)
      · refine w_aload_n (pc2 := 32) rfl rfl rfl ?_
        refine j_cVv (pc2 := 35) (k := 0) (c := zt_m195) (as := [.ref 216]) (rest := []) rfl rfl rfl rfl zk_cModel.look rfl (Nat.le_of_ble_eq_true rfl) (Nat.le_of_ble_eq_true rfl) (fun w1 h1 => ok_Model_keepsAct h1) (by decide) rfl hF (fun s9 hF => ?_)
        refine w_aload_n (pc2 := 36) rfl rfl rfl ?_
        refine w_getfield (pc2 := 39) rfl zk_cModel rfl rfl rfl ?_
        refine w_bipush (pc2 := 41) rfl rfl ?_
        refine w_iconst (pc2 := 42) rfl rfl ?_
        refine w_iload_n (pc2 := 43) rfl rfl rfl ?_
        refine w_imul (pc2 := 44) rfl rfl ?_
        refine w_iadd (pc2 := 45) rfl rfl ?_
        refine w_dup2 (pc2 := 46) rfl rfl rfl rfl ?_
        refine j_iaload (pc2 := 47) (n := 139) rfl rfl (by omega) (by decide) rfl hF (fun v10 hF => ?_)
        refine w_iload_n (pc2 := 48) rfl rfl rfl ?_
        refine w_isub (pc2 := 49) rfl rfl ?_
        refine j_iastore (pc2 := 50) (n := 139) rfl rfl (by omega) (by decide) rfl hF (fun s11 hF => ?_)
        refine w_aload_n (pc2 := 51) rfl rfl rfl ?_
        refine w_iload_n (pc2 := 52) rfl rfl rfl ?_
        refine j_cIv (pc2 := 55) (k := 0) (c := zt_m187) (as := [.ref 216, .int p1]) (rest := []) rfl rfl rfl rfl zk_cModel.look rfl (Nat.le_of_ble_eq_true rfl) (Nat.le_of_ble_eq_true rfl) (fun w1 h1 => ok_Model_temperOf h1) (by decide) rfl hF (fun v13 s12 hF => ?_)
        exact j_iret rfl rfl hF
      · refine w_iconst (pc2 := 30) rfl rfl ?_
        exact j_iret rfl rfl hF
noncomputable def f_Model_opens_216_B20 (v1 : Int32) (v3 : Int32) (k5 : ZS → Option (Int32 × ZS)) (a8 : Int32) (s9 : ZS) (g10 : Int32 → ZS → Option (Int32 × ZS)) : Option (Int32 × ZS) := zgi (s9.1 226 3) (fun (v11 : Int32) => (if v11 ≤ a8 then k5 s9 else zcl (f_Model_isOf (((((1 : Int32) <<< (v1 &&& (31 : Int32))) - (1 : Int32)) &&& (v3 ^^^ (-1 : Int32)))) a8 s9) (fun (v13 : Int32) (s12 : ZS) => zj0 (fun (s14 : ZS) => g10 (a8 + (1 : Int32)) s14) (fun (k15 : ZS → Option (Int32 × ZS)) => (if v13 = 0 then k15 s12 else zcv (f_Model_rises a8 (3 : Int32) s12) (fun (s16 : ZS) => k15 s16))))))
noncomputable def f_Model_opens_216 (s0 : ZS) : Option (Int32 × ZS) := zgi (s0.1 226 3) (fun (v1 : Int32) => zcl (f_Model_banded s0) (fun (v3 : Int32) (s2 : ZS) => zj0 (fun (s4 : ZS) => zcl (f_Model_rowsOf (((((1 : Int32) <<< (v1 &&& (31 : Int32))) - (1 : Int32)) &&& (v3 ^^^ (-1 : Int32)))) s4) (fun (v7 : Int32) (s6 : ZS) => some (v7, s6))) (fun (k5 : ZS → Option (Int32 × ZS)) => zlp zN (f_Model_opens_216_B20 v1 v3 k5) (0 : Int32) s2)))
set_option maxHeartbeats 4000000 in
set_option maxRecDepth 100000 in
theorem ok_Model_opens_216 {L : Nat} {xs : Nat → Int32} {b : ZH} {s0 : ZS} {w : Int32 × ZS} (hF : f_Model_opens_216 s0 = some w) : zz_ct zt_ms zt_nm zt_df (zt_X L xs) 3 zt_m216 [.ref 216] (zk b s0) (qI b w) := by
  unfold f_Model_opens_216 at hF
  change zz_wp zt_ms zt_nm zt_df (zt_X L xs) 3 zt_m216 0 [(0, .ref 216)] [] (zk b s0) (qI b w)
  refine w_iconst (pc2 := 1) rfl rfl ?_
  refine w_aload_n (pc2 := 2) rfl rfl rfl ?_
  refine w_getfield (pc2 := 5) rfl zk_cModel rfl rfl rfl ?_
  refine w_iconst (pc2 := 6) rfl rfl ?_
  refine j_ialoadC (pc2 := 7) (n := 139) (j := 3) rfl rfl (by omega) (by decide) (by decide) (by decide) (by decide) rfl hF (fun v1 hF => ?_)
  refine w_ishl (pc2 := 8) rfl rfl ?_
  refine w_iconst (pc2 := 9) rfl rfl ?_
  refine w_isub (pc2 := 10) rfl rfl ?_
  refine w_aload_n (pc2 := 11) rfl rfl rfl ?_
  refine j_cIv (pc2 := 14) (k := 2) (c := zt_m201) (as := [.ref 216]) (rest := [.int ((((1 : Int32) <<< (v1 &&& (31 : Int32))) - (1 : Int32)))]) rfl rfl rfl rfl zk_cModel.look rfl (Nat.le_of_ble_eq_true rfl) (Nat.le_of_ble_eq_true rfl) (fun w1 h1 => ok_Model_banded h1) (by decide) rfl hF (fun v3 s2 hF => ?_)
  refine w_iconst (pc2 := 15) rfl rfl ?_
  refine w_ixor (pc2 := 16) rfl rfl ?_
  refine w_iand (pc2 := 17) rfl rfl ?_
  refine w_istore_n (pc2 := 18) (ls2 := [(1, .int (((((1 : Int32) <<< (v1 &&& (31 : Int32))) - (1 : Int32)) &&& (v3 ^^^ (-1 : Int32))))), (0, .ref 216)]) rfl rfl rfl ?_
  refine w_iconst (pc2 := 19) rfl rfl ?_
  refine w_istore_n (pc2 := 20) (ls2 := [(2, .int (0 : Int32)), (1, .int (((((1 : Int32) <<< (v1 &&& (31 : Int32))) - (1 : Int32)) &&& (v3 ^^^ (-1 : Int32))))), (0, .ref 216)]) rfl rfl rfl ?_
  refine j_join0 (P := fun (s4 : ZS) => zz_wp zt_ms zt_nm zt_df (zt_X L xs) 3 zt_m216 50 [(0, .ref 216), (1, .int (((((1 : Int32) <<< (v1 &&& (31 : Int32))) - (1 : Int32)) &&& (v3 ^^^ (-1 : Int32)))))] [] (zk b s4) (qI b w)) hF (fun s4 hF => ?_) (fun k5 hk5 hF => ?_)
  · refine w_aload_n (pc2 := 51) rfl rfl rfl ?_
    refine w_iload_n (pc2 := 52) rfl rfl rfl ?_
    refine j_cIv (pc2 := 55) (k := 1) (c := zt_m211) (as := [.ref 216, .int (((((1 : Int32) <<< (v1 &&& (31 : Int32))) - (1 : Int32)) &&& (v3 ^^^ (-1 : Int32))))]) (rest := []) rfl rfl rfl rfl zk_cModel.look rfl (Nat.le_of_ble_eq_true rfl) (Nat.le_of_ble_eq_true rfl) (fun w1 h1 => ok_Model_rowsOf h1) (by decide) rfl hF (fun v7 s6 hF => ?_)
    exact j_iret rfl rfl hF
  · refine j_norm (l := [(0, .ref 216), (1, .int (((((1 : Int32) <<< (v1 &&& (31 : Int32))) - (1 : Int32)) &&& (v3 ^^^ (-1 : Int32))))), (2, .int (0 : Int32))]) ⟨rfl, rfl, rfl, trivial⟩ (zz_nd_of (ks := [0, 1, 2]) rfl (by decide)) ?_
    refine j_loop (P := fun (a8 : Int32) (s9 : ZS) => zz_wp zt_ms zt_nm zt_df (zt_X L xs) 3 zt_m216 20 [(0, .ref 216), (1, .int (((((1 : Int32) <<< (v1 &&& (31 : Int32))) - (1 : Int32)) &&& (v3 ^^^ (-1 : Int32))))), (2, .int a8)] [] (zk b s9) (qI b w)) hF (fun a8 s9 g10 hg10 hF => ?_)
    unfold f_Model_opens_216_B20 at hF
    refine w_iload_n (pc2 := 21) rfl rfl rfl ?_
    refine w_aload_n (pc2 := 22) rfl rfl rfl ?_
    refine w_getfield (pc2 := 25) rfl zk_cModel rfl rfl rfl ?_
    refine w_iconst (pc2 := 26) rfl rfl ?_
    refine j_ialoadC (pc2 := 27) (n := 139) (j := 3) rfl rfl (by omega) (by decide) (by decide) (by decide) (by decide) rfl hF (fun v11 hF => ?_)
    refine j_icmp_ge (pc2 := 30) rfl rfl hF (fun hF => ?_) (fun hF => ?_)
    · exact j_norm (l := [(0, .ref 216), (1, .int (((((1 : Int32) <<< (v1 &&& (31 : Int32))) - (1 : Int32)) &&& (v3 ^^^ (-1 : Int32)))))]) ⟨rfl, rfl, trivial⟩ (zz_nd_of (ks := [0, 1]) rfl (by decide)) (hk5 s9 hF)
    · refine w_iload_n (pc2 := 31) rfl rfl rfl ?_
      refine w_iload_n (pc2 := 32) rfl rfl rfl ?_
      refine j_cIs (pc2 := 35) (k := 0) (c := zt_m199) (as := [.int (((((1 : Int32) <<< (v1 &&& (31 : Int32))) - (1 : Int32)) &&& (v3 ^^^ (-1 : Int32)))), .int a8]) (rest := []) rfl rfl rfl (Nat.le_of_ble_eq_true rfl) rfl rfl (Nat.le_of_ble_eq_true rfl) (Nat.le_of_ble_eq_true rfl) (fun w1 h1 => ok_Model_isOf h1) (by decide) rfl hF (fun v13 s12 hF => ?_)
      refine j_join0 (P := fun (s14 : ZS) => zz_wp zt_ms zt_nm zt_df (zt_X L xs) 3 zt_m216 44 [(0, .ref 216), (1, .int (((((1 : Int32) <<< (v1 &&& (31 : Int32))) - (1 : Int32)) &&& (v3 ^^^ (-1 : Int32))))), (2, .int a8)] [] (zk b s14) (qI b w)) hF (fun s14 hF => ?_) (fun k15 hk15 hF => ?_)
      · refine w_iinc (pc2 := 47) (ls2 := [(2, .int ((a8 + (1 : Int32)))), (0, .ref 216), (1, .int (((((1 : Int32) <<< (v1 &&& (31 : Int32))) - (1 : Int32)) &&& (v3 ^^^ (-1 : Int32)))))]) rfl rfl rfl rfl ?_
        refine w_goto rfl ?_
        exact j_norm (l := [(0, .ref 216), (1, .int (((((1 : Int32) <<< (v1 &&& (31 : Int32))) - (1 : Int32)) &&& (v3 ^^^ (-1 : Int32))))), (2, .int ((a8 + (1 : Int32))))]) ⟨rfl, rfl, rfl, trivial⟩ (zz_nd_of (ks := [0, 1, 2]) rfl (by decide)) (hg10 (a8 + (1 : Int32)) s14 hF)
      · refine j_if_eq (pc2 := 38) rfl rfl hF (fun hF => ?_) (fun hF => ?_)
        · exact j_norm (l := [(0, .ref 216), (1, .int (((((1 : Int32) <<< (v1 &&& (31 : Int32))) - (1 : Int32)) &&& (v3 ^^^ (-1 : Int32))))), (2, .int a8)]) ⟨rfl, rfl, rfl, trivial⟩ (zz_nd_of (ks := [0, 1, 2]) rfl (by decide)) (hk15 s12 hF)
        · refine w_aload_n (pc2 := 39) rfl rfl rfl ?_
          refine w_iload_n (pc2 := 40) rfl rfl rfl ?_
          refine w_iconst (pc2 := 41) rfl rfl ?_
          refine j_cVv (pc2 := 44) (k := 1) (c := zt_m209) (as := [.ref 216, .int a8, .int (3 : Int32)]) (rest := []) rfl rfl rfl rfl zk_cModel.look rfl (Nat.le_of_ble_eq_true rfl) (Nat.le_of_ble_eq_true rfl) (fun w1 h1 => ok_Model_rises h1) (by decide) rfl hF (fun s16 hF => ?_)
          exact j_norm (l := [(0, .ref 216), (1, .int (((((1 : Int32) <<< (v1 &&& (31 : Int32))) - (1 : Int32)) &&& (v3 ^^^ (-1 : Int32))))), (2, .int a8)]) ⟨rfl, rfl, rfl, trivial⟩ (zz_nd_of (ks := [0, 1, 2]) rfl (by decide)) (hk15 s16 hF)
noncomputable def f_Model_door (s0 : ZS) : Option (Int32 × ZS) := zcl (f_Model_banded s0) (fun (v2 : Int32) (s1 : ZS) => zcl (f_Model_bits v2 s1) (fun (v4 : Int32) (s3 : ZS) => zgi (s3.1 226 3) (fun (v5 : Int32) => (if ¬ v4 = v5 then zcv (f_Model_keepsAct s3) (fun (s6 : ZS) => zcl (f_Model_opens_216 s6) (fun (v8 : Int32) (s7 : ZS) => some (v8, s7))) else some ((-1 : Int32), s3)))))
set_option maxHeartbeats 4000000 in
set_option maxRecDepth 100000 in
theorem ok_Model_door {L : Nat} {xs : Nat → Int32} {b : ZH} {s0 : ZS} {w : Int32 × ZS} (hF : f_Model_door s0 = some w) : zz_ct zt_ms zt_nm zt_df (zt_X L xs) 4 zt_m215 [.ref 216] (zk b s0) (qI b w) := by
  unfold f_Model_door at hF
  change zz_wp zt_ms zt_nm zt_df (zt_X L xs) 4 zt_m215 0 [(0, .ref 216)] [] (zk b s0) (qI b w)
  refine w_aload_n (pc2 := 1) rfl rfl rfl ?_
  refine j_cIv (pc2 := 4) (k := 2) (c := zt_m201) (as := [.ref 216]) (rest := []) rfl rfl rfl rfl zk_cModel.look rfl (Nat.le_of_ble_eq_true rfl) (Nat.le_of_ble_eq_true rfl) (fun w1 h1 => ok_Model_banded h1) (by decide) rfl hF (fun v2 s1 hF => ?_)
  refine j_cIs (pc2 := 7) (k := 0) (c := zt_m202) (as := [.int v2]) (rest := []) rfl rfl rfl (Nat.le_of_ble_eq_true rfl) rfl rfl (Nat.le_of_ble_eq_true rfl) (Nat.le_of_ble_eq_true rfl) (fun w1 h1 => ok_Model_bits h1) (by decide) rfl hF (fun v4 s3 hF => ?_)
  refine w_aload_n (pc2 := 8) rfl rfl rfl ?_
  refine w_getfield (pc2 := 11) rfl zk_cModel rfl rfl rfl ?_
  refine w_iconst (pc2 := 12) rfl rfl ?_
  refine j_ialoadC (pc2 := 13) (n := 139) (j := 3) rfl rfl (by omega) (by decide) (by decide) (by decide) (by decide) rfl hF (fun v5 hF => ?_)
  refine j_icmp_ne (pc2 := 16) rfl rfl hF (fun hF => ?_) (fun hF => ?_)
  · refine w_aload_n (pc2 := 19) rfl rfl rfl ?_
    refine j_cVv (pc2 := 22) (k := 0) (c := zt_m195) (as := [.ref 216]) (rest := []) rfl rfl rfl rfl zk_cModel.look rfl (Nat.le_of_ble_eq_true rfl) (Nat.le_of_ble_eq_true rfl) (fun w1 h1 => ok_Model_keepsAct h1) (by decide) rfl hF (fun s6 hF => ?_)
    refine w_aload_n (pc2 := 23) rfl rfl rfl ?_
    refine j_cIv (pc2 := 26) (k := 3) (c := zt_m216) (as := [.ref 216]) (rest := []) rfl rfl rfl rfl zk_cModel.look rfl (Nat.le_of_ble_eq_true rfl) (Nat.le_of_ble_eq_true rfl) (fun w1 h1 => ok_Model_opens_216 h1) (by decide) rfl hF (fun v8 s7 hF => ?_)
    exact j_iret rfl rfl hF
  · refine w_iconst (pc2 := 17) rfl rfl ?_
    exact j_iret rfl rfl hF
noncomputable def f_Model_keeps_B2 (a1 : Int32) (s2 : ZS) (g3 : Int32 → ZS → Option (ZS)) : Option (ZS) := (if (47 : Int32) ≤ a1 then some s2 else zrd 139 (((10 : Int32) + a1)) (s2.1 226) (fun (v4 : Int32) => zwa s2 229 47 a1 v4 (fun (s5 : ZS) => g3 (a1 + (1 : Int32)) s5)))
noncomputable def f_Model_keeps (s0 : ZS) : Option (ZS) := zlp zN (f_Model_keeps_B2) (0 : Int32) s0
set_option maxHeartbeats 4000000 in
set_option maxRecDepth 100000 in
theorem ok_Model_keeps {L : Nat} {xs : Nat → Int32} {b : ZH} {s0 : ZS} {w : ZS} (hF : f_Model_keeps s0 = some w) : zz_ct zt_ms zt_nm zt_df (zt_X L xs) 0 zt_m218 [.ref 216] (zk b s0) (qV b w) := by
  unfold f_Model_keeps at hF
  change zz_wp zt_ms zt_nm zt_df (zt_X L xs) 0 zt_m218 0 [(0, .ref 216)] [] (zk b s0) (qV b w)
  refine w_iconst (pc2 := 1) rfl rfl ?_
  refine w_istore_n (pc2 := 2) (ls2 := [(1, .int (0 : Int32)), (0, .ref 216)]) rfl rfl rfl ?_
  refine j_norm (l := [(0, .ref 216), (1, .int (0 : Int32))]) ⟨rfl, rfl, trivial⟩ (zz_nd_of (ks := [0, 1]) rfl (by decide)) ?_
  refine j_loop (P := fun (a1 : Int32) (s2 : ZS) => zz_wp zt_ms zt_nm zt_df (zt_X L xs) 0 zt_m218 2 [(0, .ref 216), (1, .int a1)] [] (zk b s2) (qV b w)) hF (fun a1 s2 g3 hg3 hF => ?_)
  unfold f_Model_keeps_B2 at hF
  refine w_iload_n (pc2 := 3) rfl rfl rfl ?_
  refine w_bipush (pc2 := 5) rfl rfl ?_
  refine j_icmp_ge (pc2 := 8) rfl rfl hF (fun hF => ?_) (fun hF => ?_)
  · exact j_vret rfl rfl hF
  · refine w_aload_n (pc2 := 9) rfl rfl rfl ?_
    refine w_getfield (pc2 := 12) rfl zk_cModel rfl rfl rfl ?_
    refine w_iload_n (pc2 := 13) rfl rfl rfl ?_
    refine w_aload_n (pc2 := 14) rfl rfl rfl ?_
    refine w_getfield (pc2 := 17) rfl zk_cModel rfl rfl rfl ?_
    refine w_bipush (pc2 := 19) rfl rfl ?_
    refine w_iload_n (pc2 := 20) rfl rfl rfl ?_
    refine w_iadd (pc2 := 21) rfl rfl ?_
    refine j_iaload (pc2 := 22) (n := 139) rfl rfl (by omega) (by decide) rfl hF (fun v4 hF => ?_)
    refine j_iastore (pc2 := 23) (n := 47) rfl rfl (by omega) (by decide) rfl hF (fun s5 hF => ?_)
    refine w_iinc (pc2 := 26) (ls2 := [(1, .int ((a1 + (1 : Int32)))), (0, .ref 216)]) rfl rfl rfl rfl ?_
    refine w_goto rfl ?_
    exact j_norm (l := [(0, .ref 216), (1, .int ((a1 + (1 : Int32))))]) ⟨rfl, rfl, trivial⟩ (zz_nd_of (ks := [0, 1]) rfl (by decide)) (hg3 (a1 + (1 : Int32)) s5 hF)
noncomputable def f_Model_laysBack_B2 (a1 : Int32) (s2 : ZS) (g3 : Int32 → ZS → Option (ZS)) : Option (ZS) := (if (47 : Int32) ≤ a1 then some s2 else zrd 47 a1 (s2.1 229) (fun (v4 : Int32) => zwa s2 226 139 (((10 : Int32) + a1)) v4 (fun (s5 : ZS) => g3 (a1 + (1 : Int32)) s5)))
noncomputable def f_Model_laysBack (s0 : ZS) : Option (ZS) := zlp zN (f_Model_laysBack_B2) (0 : Int32) s0
set_option maxHeartbeats 4000000 in
set_option maxRecDepth 100000 in
theorem ok_Model_laysBack {L : Nat} {xs : Nat → Int32} {b : ZH} {s0 : ZS} {w : ZS} (hF : f_Model_laysBack s0 = some w) : zz_ct zt_ms zt_nm zt_df (zt_X L xs) 0 zt_m219 [.ref 216] (zk b s0) (qV b w) := by
  unfold f_Model_laysBack at hF
  change zz_wp zt_ms zt_nm zt_df (zt_X L xs) 0 zt_m219 0 [(0, .ref 216)] [] (zk b s0) (qV b w)
  refine w_iconst (pc2 := 1) rfl rfl ?_
  refine w_istore_n (pc2 := 2) (ls2 := [(1, .int (0 : Int32)), (0, .ref 216)]) rfl rfl rfl ?_
  refine j_norm (l := [(0, .ref 216), (1, .int (0 : Int32))]) ⟨rfl, rfl, trivial⟩ (zz_nd_of (ks := [0, 1]) rfl (by decide)) ?_
  refine j_loop (P := fun (a1 : Int32) (s2 : ZS) => zz_wp zt_ms zt_nm zt_df (zt_X L xs) 0 zt_m219 2 [(0, .ref 216), (1, .int a1)] [] (zk b s2) (qV b w)) hF (fun a1 s2 g3 hg3 hF => ?_)
  unfold f_Model_laysBack_B2 at hF
  refine w_iload_n (pc2 := 3) rfl rfl rfl ?_
  refine w_bipush (pc2 := 5) rfl rfl ?_
  refine j_icmp_ge (pc2 := 8) rfl rfl hF (fun hF => ?_) (fun hF => ?_)
  · exact j_vret rfl rfl hF
  · refine w_aload_n (pc2 := 9) rfl rfl rfl ?_
    refine w_getfield (pc2 := 12) rfl zk_cModel rfl rfl rfl ?_
    refine w_bipush (pc2 := 14) rfl rfl ?_
    refine w_iload_n (pc2 := 15) rfl rfl rfl ?_
    refine w_iadd (pc2 := 16) rfl rfl ?_
    refine w_aload_n (pc2 := 17) rfl rfl rfl ?_
    refine w_getfield (pc2 := 20) rfl zk_cModel rfl rfl rfl ?_
    refine w_iload_n (pc2 := 21) rfl rfl rfl ?_
    refine j_iaload (pc2 := 22) (n := 47) rfl rfl (by omega) (by decide) rfl hF (fun v4 hF => ?_)
    refine j_iastore (pc2 := 23) (n := 139) rfl rfl (by omega) (by decide) rfl hF (fun s5 hF => ?_)
    refine w_iinc (pc2 := 26) (ls2 := [(1, .int ((a1 + (1 : Int32)))), (0, .ref 216)]) rfl rfl rfl rfl ?_
    refine w_goto rfl ?_
    exact j_norm (l := [(0, .ref 216), (1, .int ((a1 + (1 : Int32))))]) ⟨rfl, rfl, trivial⟩ (zz_nd_of (ks := [0, 1]) rfl (by decide)) (hg3 (a1 + (1 : Int32)) s5 hF)
noncomputable def f_Model_ahead_B53 (p2 : Int32) (k14 : ZS → Option (Int32 × ZS)) (a24 : Int32) (s25 : ZS) (g26 : Int32 → ZS → Option (Int32 × ZS)) : Option (Int32 × ZS) := (if p2 ≤ a24 then k14 s25 else zcl (f_Model_passes s25) (fun (v28 : Int32) (s27 : ZS) => g26 (a24 + (1 : Int32)) s27))
noncomputable def f_Model_ahead (p1 : Int32) (p2 : Int32) (p3 : Int32) (s0 : ZS) : Option (Int32 × ZS) := zcl (f_Model_isSmithy s0) (fun (v5 : Int32) (s4 : ZS) => (if v5 = 0 then some ((-1 : Int32), s4) else zcl (f_Model_in (p2.toInt64) (0 : Int64) (100 : Int64) s4) (fun (v7 : Int32) (s6 : ZS) => (if v7 = 0 then some ((-1 : Int32), s6) else zcl (f_Model_in (p3.toInt64) (0 : Int64) (2 : Int64) s6) (fun (v9 : Int32) (s8 : ZS) => (if v9 = 0 then some ((-1 : Int32), s8) else zj0 (fun (s10 : ZS) => zcv (f_Model_keeps s10) (fun (s12 : ZS) => zj0 (fun (s13 : ZS) => zjn (A := Int32) (fun (a16 : Int32) (s15 : ZS) => zcv (f_Model_laysBack s15) (fun (s18 : ZS) => some (a16, s18))) (fun (k17 : Int32 → ZS → Option (Int32 × ZS)) => (if ¬ p3 = 0 then (if ¬ p3 = (1 : Int32) then zgi (s13.1 226 11) (fun (v19 : Int32) => k17 v19 s13) else zcl (f_Model_bandOf p1 s13) (fun (v21 : Int32) (s20 : ZS) => k17 v21 s20)) else zcl (f_Model_temperOf p1 s13) (fun (v23 : Int32) (s22 : ZS) => k17 v23 s22)))) (fun (k14 : ZS → Option (Int32 × ZS)) => zlp zN (f_Model_ahead_B53 p2 k14) (0 : Int32) s12))) (fun (k11 : ZS → Option (Int32 × ZS)) => (if (2 : Int32) ≤ p3 then k11 s8 else zcl (f_Model_isPair p1 s8) (fun (v30 : Int32) (s29 : ZS) => (if ¬ v30 = 0 then k11 s29 else some ((-1 : Int32), s29)))))))))))
set_option maxHeartbeats 4000000 in
set_option maxRecDepth 100000 in
theorem ok_Model_ahead {L : Nat} {xs : Nat → Int32} {b : ZH} {p1 : Int32} {p2 : Int32} {p3 : Int32} {s0 : ZS} {w : Int32 × ZS} (hF : f_Model_ahead p1 p2 p3 s0 = some w) : zz_ct zt_ms zt_nm zt_df (zt_X L xs) 6 zt_m217 [.ref 216, .int p1, .int p2, .int p3] (zk b s0) (qI b w) := by
  unfold f_Model_ahead at hF
  change zz_wp zt_ms zt_nm zt_df (zt_X L xs) 6 zt_m217 0 [(0, .ref 216), (1, .int p1), (2, .int p2), (3, .int p3)] [] (zk b s0) (qI b w)
  refine w_aload_n (pc2 := 1) rfl rfl rfl ?_
  refine j_cIv (pc2 := 4) (k := 0) (c := zt_m194) (as := [.ref 216]) (rest := []) rfl rfl rfl rfl zk_cModel.look rfl (Nat.le_of_ble_eq_true rfl) (Nat.le_of_ble_eq_true rfl) (fun w1 h1 => ok_Model_isSmithy h1) (by decide) rfl hF (fun v5 s4 hF => ?_)
  refine j_if_eq (pc2 := 7) rfl rfl hF (fun hF => ?_) (fun hF => ?_)
  · refine w_iconst (pc2 := 45) rfl rfl ?_
    exact j_iret rfl rfl hF
  · refine w_iload_n (pc2 := 8) rfl rfl rfl ?_
    refine w_i2l (pc2 := 9) rfl rfl ?_
    refine w_lconst (pc2 := 10) rfl rfl ?_
    refine w_ldc2_w (pc2 := 13) rfl rfl ?_
    refine j_cIs (pc2 := 16) (k := 0) (c := zt_m160) (as := [.long (p2.toInt64), .long (0 : Int64), .long (100 : Int64)]) (rest := []) rfl rfl rfl (Nat.le_of_ble_eq_true rfl) rfl rfl (Nat.le_of_ble_eq_true rfl) (Nat.le_of_ble_eq_true rfl) (fun w1 h1 => ok_Model_in h1) (by decide) rfl hF (fun v7 s6 hF => ?_)
    refine j_if_eq (pc2 := 19) rfl rfl hF (fun hF => ?_) (fun hF => ?_)
    · refine w_iconst (pc2 := 45) rfl rfl ?_
      exact j_iret rfl rfl hF
    · refine w_iload_n (pc2 := 20) rfl rfl rfl ?_
      refine w_i2l (pc2 := 21) rfl rfl ?_
      refine w_lconst (pc2 := 22) rfl rfl ?_
      refine w_ldc2_w (pc2 := 25) rfl rfl ?_
      refine j_cIs (pc2 := 28) (k := 0) (c := zt_m160) (as := [.long (p3.toInt64), .long (0 : Int64), .long (2 : Int64)]) (rest := []) rfl rfl rfl (Nat.le_of_ble_eq_true rfl) rfl rfl (Nat.le_of_ble_eq_true rfl) (Nat.le_of_ble_eq_true rfl) (fun w1 h1 => ok_Model_in h1) (by decide) rfl hF (fun v9 s8 hF => ?_)
      refine j_if_eq (pc2 := 31) rfl rfl hF (fun hF => ?_) (fun hF => ?_)
      · refine w_iconst (pc2 := 45) rfl rfl ?_
        exact j_iret rfl rfl hF
      · refine w_iload_n (pc2 := 32) rfl rfl rfl ?_
        refine w_iconst (pc2 := 33) rfl rfl ?_
        refine j_join0 (P := fun (s10 : ZS) => zz_wp zt_ms zt_nm zt_df (zt_X L xs) 6 zt_m217 46 [(0, .ref 216), (1, .int p1), (2, .int p2), (3, .int p3)] [] (zk b s10) (qI b w)) hF (fun s10 hF => ?_) (fun k11 hk11 hF => ?_)
        · refine w_aload_n (pc2 := 47) rfl rfl rfl ?_
          refine j_cVv (pc2 := 50) (k := 0) (c := zt_m218) (as := [.ref 216]) (rest := []) rfl rfl rfl rfl zk_cModel.look rfl (Nat.le_of_ble_eq_true rfl) (Nat.le_of_ble_eq_true rfl) (fun w1 h1 => ok_Model_keeps h1) (by decide) rfl hF (fun s12 hF => ?_)
          refine w_iconst (pc2 := 51) rfl rfl ?_
          refine w_istore (pc2 := 53) (ls2 := [(4, .int (0 : Int32)), (0, .ref 216), (1, .int p1), (2, .int p2), (3, .int p3)]) rfl rfl rfl ?_
          refine j_join0 (P := fun (s13 : ZS) => zz_wp zt_ms zt_nm zt_df (zt_X L xs) 6 zt_m217 70 [(0, .ref 216), (1, .int p1), (3, .int p3)] [] (zk b s13) (qI b w)) hF (fun s13 hF => ?_) (fun k14 hk14 hF => ?_)
          · refine w_iload_n (pc2 := 71) rfl rfl rfl ?_
            refine j_join (P := fun (a16 : Int32) (s15 : ZS) => zz_wp zt_ms zt_nm zt_df (zt_X L xs) 6 zt_m217 102 [(0, .ref 216)] [.int a16] (zk b s15) (qI b w)) hF (fun a16 s15 hF => ?_) (fun k17 hk17 hF => ?_)
            · refine w_istore (pc2 := 104) (ls2 := [(4, .int a16), (0, .ref 216)]) rfl rfl rfl ?_
              refine w_aload_n (pc2 := 105) rfl rfl rfl ?_
              refine j_cVv (pc2 := 108) (k := 0) (c := zt_m219) (as := [.ref 216]) (rest := []) rfl rfl rfl rfl zk_cModel.look rfl (Nat.le_of_ble_eq_true rfl) (Nat.le_of_ble_eq_true rfl) (fun w1 h1 => ok_Model_laysBack h1) (by decide) rfl hF (fun s18 hF => ?_)
              refine w_iload (pc2 := 110) rfl rfl rfl ?_
              exact j_iret rfl rfl hF
            · refine j_if_ne (pc2 := 74) rfl rfl hF (fun hF => ?_) (fun hF => ?_)
              · refine w_iload_n (pc2 := 83) rfl rfl rfl ?_
                refine w_iconst (pc2 := 84) rfl rfl ?_
                refine j_icmp_ne (pc2 := 87) rfl rfl hF (fun hF => ?_) (fun hF => ?_)
                · refine w_aload_n (pc2 := 96) rfl rfl rfl ?_
                  refine w_getfield (pc2 := 99) rfl zk_cModel rfl rfl rfl ?_
                  refine w_bipush (pc2 := 101) rfl rfl ?_
                  refine j_ialoadC (pc2 := 102) (n := 139) (j := 11) rfl rfl (by omega) (by decide) (by decide) (by decide) (by decide) rfl hF (fun v19 hF => ?_)
                  exact j_norm (l := [(0, .ref 216)]) ⟨rfl, trivial⟩ (zz_nd_of (ks := [0]) rfl (by decide)) (hk17 v19 s13 hF)
                · refine w_aload_n (pc2 := 88) rfl rfl rfl ?_
                  refine w_iload_n (pc2 := 89) rfl rfl rfl ?_
                  refine j_cIv (pc2 := 92) (k := 0) (c := zt_m188) (as := [.ref 216, .int p1]) (rest := []) rfl rfl rfl rfl zk_cModel.look rfl (Nat.le_of_ble_eq_true rfl) (Nat.le_of_ble_eq_true rfl) (fun w1 h1 => ok_Model_bandOf h1) (by decide) rfl hF (fun v21 s20 hF => ?_)
                  refine w_goto rfl ?_
                  exact j_norm (l := [(0, .ref 216)]) ⟨rfl, trivial⟩ (zz_nd_of (ks := [0]) rfl (by decide)) (hk17 v21 s20 hF)
              · refine w_aload_n (pc2 := 75) rfl rfl rfl ?_
                refine w_iload_n (pc2 := 76) rfl rfl rfl ?_
                refine j_cIv (pc2 := 79) (k := 0) (c := zt_m187) (as := [.ref 216, .int p1]) (rest := []) rfl rfl rfl rfl zk_cModel.look rfl (Nat.le_of_ble_eq_true rfl) (Nat.le_of_ble_eq_true rfl) (fun w1 h1 => ok_Model_temperOf h1) (by decide) rfl hF (fun v23 s22 hF => ?_)
                refine w_goto rfl ?_
                exact j_norm (l := [(0, .ref 216)]) ⟨rfl, trivial⟩ (zz_nd_of (ks := [0]) rfl (by decide)) (hk17 v23 s22 hF)
          · refine j_norm (l := [(0, .ref 216), (1, .int p1), (2, .int p2), (3, .int p3), (4, .int (0 : Int32))]) ⟨rfl, rfl, rfl, rfl, rfl, trivial⟩ (zz_nd_of (ks := [0, 1, 2, 3, 4]) rfl (by decide)) ?_
            refine j_loop (P := fun (a24 : Int32) (s25 : ZS) => zz_wp zt_ms zt_nm zt_df (zt_X L xs) 6 zt_m217 53 [(0, .ref 216), (1, .int p1), (2, .int p2), (3, .int p3), (4, .int a24)] [] (zk b s25) (qI b w)) hF (fun a24 s25 g26 hg26 hF => ?_)
            unfold f_Model_ahead_B53 at hF
            refine w_iload (pc2 := 55) rfl rfl rfl ?_
            refine w_iload_n (pc2 := 56) rfl rfl rfl ?_
            refine j_icmp_ge (pc2 := 59) rfl rfl hF (fun hF => ?_) (fun hF => ?_)
            · exact j_norm (l := [(0, .ref 216), (1, .int p1), (3, .int p3)]) ⟨rfl, rfl, rfl, trivial⟩ (zz_nd_of (ks := [0, 1, 3]) rfl (by decide)) (hk14 s25 hF)
            · refine w_aload_n (pc2 := 60) rfl rfl rfl ?_
              refine j_cIv (pc2 := 63) (k := 5) (c := zt_m196) (as := [.ref 216]) (rest := []) rfl rfl rfl rfl zk_cModel.look rfl (Nat.le_of_ble_eq_true rfl) (Nat.le_of_ble_eq_true rfl) (fun w1 h1 => ok_Model_passes h1) (by decide) rfl hF (fun v28 s27 hF => ?_)
              refine w_pop (pc2 := 64) rfl rfl rfl ?_
              refine w_iinc (pc2 := 67) (ls2 := [(4, .int ((a24 + (1 : Int32)))), (0, .ref 216), (1, .int p1), (2, .int p2), (3, .int p3)]) rfl rfl rfl rfl ?_
              refine w_goto rfl ?_
              exact j_norm (l := [(0, .ref 216), (1, .int p1), (2, .int p2), (3, .int p3), (4, .int ((a24 + (1 : Int32))))]) ⟨rfl, rfl, rfl, rfl, rfl, trivial⟩ (zz_nd_of (ks := [0, 1, 2, 3, 4]) rfl (by decide)) (hg26 (a24 + (1 : Int32)) s27 hF)
        · refine j_icmp_ge (pc2 := 36) rfl rfl hF (fun hF => ?_) (fun hF => ?_)
          · exact j_norm (l := [(0, .ref 216), (1, .int p1), (2, .int p2), (3, .int p3)]) ⟨rfl, rfl, rfl, rfl, trivial⟩ (zz_nd_of (ks := [0, 1, 2, 3]) rfl (by decide)) (hk11 s8 hF)
          · refine w_aload_n (pc2 := 37) rfl rfl rfl ?_
            refine w_iload_n (pc2 := 38) rfl rfl rfl ?_
            refine j_cIv (pc2 := 41) (k := 0) (c := zt_m186) (as := [.ref 216, .int p1]) (rest := []) rfl rfl rfl rfl zk_cModel.look rfl (Nat.le_of_ble_eq_true rfl) (Nat.le_of_ble_eq_true rfl) (fun w1 h1 => ok_Model_isPair h1) (by decide) rfl hF (fun v30 s29 hF => ?_)
            refine j_if_ne (pc2 := 44) rfl rfl hF (fun hF => ?_) (fun hF => ?_)
            · exact j_norm (l := [(0, .ref 216), (1, .int p1), (2, .int p2), (3, .int p3)]) ⟨rfl, rfl, rfl, rfl, trivial⟩ (zz_nd_of (ks := [0, 1, 2, 3]) rfl (by decide)) (hk11 s29 hF)
            · refine w_iconst (pc2 := 45) rfl rfl ?_
              exact j_iret rfl rfl hF
noncomputable def f_Model_quarrel_B30 (p1 : Int32) (p2 : Int32) (k10 : Int32 → ZS → Option (Int32 × ZS)) (a12 : Int32 × Int32) (s13 : ZS) (g14 : (Int32 × Int32) → ZS → Option (Int32 × ZS)) : Option (Int32 × ZS) := (if (200 : Int32) ≤ a12.2 then k10 a12.1 s13 else (if 0 ≤ a12.1 then k10 a12.1 s13 else zgi (s13.1 226 10) (fun (v15 : Int32) => zcl (f_Model_passes s13) (fun (v17 : Int32) (s16 : ZS) => zcl (f_Model_isOf v17 p1 s16) (fun (v19 : Int32) (s18 : ZS) => zjn (A := Int32) (fun (a21 : Int32) (s20 : ZS) => g14 (a21, (a12.2 + (1 : Int32))) s20) (fun (k22 : Int32 → ZS → Option (Int32 × ZS)) => (if v19 = 0 then k22 a12.1 s18 else zjn (A := Int32) (fun (a24 : Int32) (s23 : ZS) => k22 a24 s23) (fun (k25 : Int32 → ZS → Option (Int32 × ZS)) => (if ¬ p2 = 0 then zrd 5 p1 (s18.1 227) (fun (v26 : Int32) => k25 v26 s18) else k25 v15 s18)))))))))
noncomputable def f_Model_quarrel (p1 : Int32) (p2 : Int32) (s0 : ZS) : Option (Int32 × ZS) := zcl (f_Model_isBare p1 s0) (fun (v4 : Int32) (s3 : ZS) => (if v4 = 0 then some ((-1 : Int32), s3) else zcl (f_Model_in (p2.toInt64) (0 : Int64) (1 : Int64) s3) (fun (v6 : Int32) (s5 : ZS) => (if ¬ v6 = 0 then zcv (f_Model_keeps s5) (fun (s7 : ZS) => zjn (A := Int32) (fun (a9 : Int32) (s8 : ZS) => zcv (f_Model_laysBack s8) (fun (s11 : ZS) => some (a9, s11))) (fun (k10 : Int32 → ZS → Option (Int32 × ZS)) => zlp zN (f_Model_quarrel_B30 p1 p2 k10) ((-2 : Int32), (0 : Int32)) s7)) else some ((-1 : Int32), s5)))))
set_option maxHeartbeats 4000000 in
set_option maxRecDepth 100000 in
theorem ok_Model_quarrel {L : Nat} {xs : Nat → Int32} {b : ZH} {p1 : Int32} {p2 : Int32} {s0 : ZS} {w : Int32 × ZS} (hF : f_Model_quarrel p1 p2 s0 = some w) : zz_ct zt_ms zt_nm zt_df (zt_X L xs) 6 zt_m220 [.ref 216, .int p1, .int p2] (zk b s0) (qI b w) := by
  unfold f_Model_quarrel at hF
  change zz_wp zt_ms zt_nm zt_df (zt_X L xs) 6 zt_m220 0 [(0, .ref 216), (1, .int p1), (2, .int p2)] [] (zk b s0) (qI b w)
  refine w_aload_n (pc2 := 1) rfl rfl rfl ?_
  refine w_iload_n (pc2 := 2) rfl rfl rfl ?_
  refine j_cIv (pc2 := 5) (k := 1) (c := zt_m197) (as := [.ref 216, .int p1]) (rest := []) rfl rfl rfl rfl zk_cModel.look rfl (Nat.le_of_ble_eq_true rfl) (Nat.le_of_ble_eq_true rfl) (fun w1 h1 => ok_Model_isBare h1) (by decide) rfl hF (fun v4 s3 hF => ?_)
  refine j_if_eq (pc2 := 8) rfl rfl hF (fun hF => ?_) (fun hF => ?_)
  · refine w_iconst (pc2 := 19) rfl rfl ?_
    exact j_iret rfl rfl hF
  · refine w_iload_n (pc2 := 9) rfl rfl rfl ?_
    refine w_i2l (pc2 := 10) rfl rfl ?_
    refine w_lconst (pc2 := 11) rfl rfl ?_
    refine w_lconst (pc2 := 12) rfl rfl ?_
    refine j_cIs (pc2 := 15) (k := 0) (c := zt_m160) (as := [.long (p2.toInt64), .long (0 : Int64), .long (1 : Int64)]) (rest := []) rfl rfl rfl (Nat.le_of_ble_eq_true rfl) rfl rfl (Nat.le_of_ble_eq_true rfl) (Nat.le_of_ble_eq_true rfl) (fun w1 h1 => ok_Model_in h1) (by decide) rfl hF (fun v6 s5 hF => ?_)
    refine j_if_ne (pc2 := 18) rfl rfl hF (fun hF => ?_) (fun hF => ?_)
    · refine w_bipush (pc2 := 22) rfl rfl ?_
      refine w_istore_n (pc2 := 23) (ls2 := [(3, .int (-2 : Int32)), (0, .ref 216), (1, .int p1), (2, .int p2)]) rfl rfl rfl ?_
      refine w_aload_n (pc2 := 24) rfl rfl rfl ?_
      refine j_cVv (pc2 := 27) (k := 0) (c := zt_m218) (as := [.ref 216]) (rest := []) rfl rfl rfl rfl zk_cModel.look rfl (Nat.le_of_ble_eq_true rfl) (Nat.le_of_ble_eq_true rfl) (fun w1 h1 => ok_Model_keeps h1) (by decide) rfl hF (fun s7 hF => ?_)
      refine w_iconst (pc2 := 28) rfl rfl ?_
      refine w_istore (pc2 := 30) (ls2 := [(4, .int (0 : Int32)), (3, .int (-2 : Int32)), (0, .ref 216), (1, .int p1), (2, .int p2)]) rfl rfl rfl ?_
      refine j_join (P := fun (a9 : Int32) (s8 : ZS) => zz_wp zt_ms zt_nm zt_df (zt_X L xs) 6 zt_m220 84 [(0, .ref 216), (3, .int a9)] [] (zk b s8) (qI b w)) hF (fun a9 s8 hF => ?_) (fun k10 hk10 hF => ?_)
      · refine w_aload_n (pc2 := 85) rfl rfl rfl ?_
        refine j_cVv (pc2 := 88) (k := 0) (c := zt_m219) (as := [.ref 216]) (rest := []) rfl rfl rfl rfl zk_cModel.look rfl (Nat.le_of_ble_eq_true rfl) (Nat.le_of_ble_eq_true rfl) (fun w1 h1 => ok_Model_laysBack h1) (by decide) rfl hF (fun s11 hF => ?_)
        refine w_iload_n (pc2 := 89) rfl rfl rfl ?_
        exact j_iret rfl rfl hF
      · refine j_norm (l := [(0, .ref 216), (1, .int p1), (2, .int p2), (3, .int (-2 : Int32)), (4, .int (0 : Int32))]) ⟨rfl, rfl, rfl, rfl, rfl, trivial⟩ (zz_nd_of (ks := [0, 1, 2, 3, 4]) rfl (by decide)) ?_
        refine j_loop (P := fun (a12 : Int32 × Int32) (s13 : ZS) => zz_wp zt_ms zt_nm zt_df (zt_X L xs) 6 zt_m220 30 [(0, .ref 216), (1, .int p1), (2, .int p2), (3, .int a12.1), (4, .int a12.2)] [] (zk b s13) (qI b w)) hF (fun a12 s13 g14 hg14 hF => ?_)
        unfold f_Model_quarrel_B30 at hF
        refine w_iload (pc2 := 32) rfl rfl rfl ?_
        refine w_sipush (pc2 := 35) rfl rfl ?_
        refine j_icmp_ge (pc2 := 38) rfl rfl hF (fun hF => ?_) (fun hF => ?_)
        · exact j_norm (l := [(0, .ref 216), (3, .int a12.1)]) ⟨rfl, rfl, trivial⟩ (zz_nd_of (ks := [0, 3]) rfl (by decide)) (hk10 a12.1 s13 hF)
        · refine w_iload_n (pc2 := 39) rfl rfl rfl ?_
          refine j_if_ge (pc2 := 42) rfl rfl hF (fun hF => ?_) (fun hF => ?_)
          · exact j_norm (l := [(0, .ref 216), (3, .int a12.1)]) ⟨rfl, rfl, trivial⟩ (zz_nd_of (ks := [0, 3]) rfl (by decide)) (hk10 a12.1 s13 hF)
          · refine w_aload_n (pc2 := 43) rfl rfl rfl ?_
            refine w_getfield (pc2 := 46) rfl zk_cModel rfl rfl rfl ?_
            refine w_bipush (pc2 := 48) rfl rfl ?_
            refine j_ialoadC (pc2 := 49) (n := 139) (j := 10) rfl rfl (by omega) (by decide) (by decide) (by decide) (by decide) rfl hF (fun v15 hF => ?_)
            refine w_istore (pc2 := 51) (ls2 := [(5, .int v15), (0, .ref 216), (1, .int p1), (2, .int p2), (3, .int a12.1), (4, .int a12.2)]) rfl rfl rfl ?_
            refine w_aload_n (pc2 := 52) rfl rfl rfl ?_
            refine j_cIv (pc2 := 55) (k := 5) (c := zt_m196) (as := [.ref 216]) (rest := []) rfl rfl rfl rfl zk_cModel.look rfl (Nat.le_of_ble_eq_true rfl) (Nat.le_of_ble_eq_true rfl) (fun w1 h1 => ok_Model_passes h1) (by decide) rfl hF (fun v17 s16 hF => ?_)
            refine w_iload_n (pc2 := 56) rfl rfl rfl ?_
            refine j_cIs (pc2 := 59) (k := 0) (c := zt_m199) (as := [.int v17, .int p1]) (rest := []) rfl rfl rfl (Nat.le_of_ble_eq_true rfl) rfl rfl (Nat.le_of_ble_eq_true rfl) (Nat.le_of_ble_eq_true rfl) (fun w1 h1 => ok_Model_isOf h1) (by decide) rfl hF (fun v19 s18 hF => ?_)
            refine j_join (P := fun (a21 : Int32) (s20 : ZS) => zz_wp zt_ms zt_nm zt_df (zt_X L xs) 6 zt_m220 78 [(0, .ref 216), (1, .int p1), (2, .int p2), (3, .int a21), (4, .int a12.2)] [] (zk b s20) (qI b w)) hF (fun a21 s20 hF => ?_) (fun k22 hk22 hF => ?_)
            · refine w_iinc (pc2 := 81) (ls2 := [(4, .int ((a12.2 + (1 : Int32)))), (0, .ref 216), (1, .int p1), (2, .int p2), (3, .int a21)]) rfl rfl rfl rfl ?_
              refine w_goto rfl ?_
              exact j_norm (l := [(0, .ref 216), (1, .int p1), (2, .int p2), (3, .int a21), (4, .int ((a12.2 + (1 : Int32))))]) ⟨rfl, rfl, rfl, rfl, rfl, trivial⟩ (zz_nd_of (ks := [0, 1, 2, 3, 4]) rfl (by decide)) (hg14 (a21, (a12.2 + (1 : Int32))) s20 hF)
            · refine j_if_eq (pc2 := 62) rfl rfl hF (fun hF => ?_) (fun hF => ?_)
              · exact j_norm (l := [(0, .ref 216), (1, .int p1), (2, .int p2), (3, .int a12.1), (4, .int a12.2)]) ⟨rfl, rfl, rfl, rfl, rfl, trivial⟩ (zz_nd_of (ks := [0, 1, 2, 3, 4]) rfl (by decide)) (hk22 a12.1 s18 hF)
              · refine w_iload_n (pc2 := 63) rfl rfl rfl ?_
                refine j_join (P := fun (a24 : Int32) (s23 : ZS) => zz_wp zt_ms zt_nm zt_df (zt_X L xs) 6 zt_m220 77 [(0, .ref 216), (1, .int p1), (2, .int p2), (4, .int a12.2)] [.int a24] (zk b s23) (qI b w)) hF (fun a24 s23 hF => ?_) (fun k25 hk25 hF => ?_)
                · refine w_istore_n (pc2 := 78) (ls2 := [(3, .int a24), (0, .ref 216), (1, .int p1), (2, .int p2), (4, .int a12.2)]) rfl rfl rfl ?_
                  exact j_norm (l := [(0, .ref 216), (1, .int p1), (2, .int p2), (3, .int a24), (4, .int a12.2)]) ⟨rfl, rfl, rfl, rfl, rfl, trivial⟩ (zz_nd_of (ks := [0, 1, 2, 3, 4]) rfl (by decide)) (hk22 a24 s23 hF)
                · refine j_if_ne (pc2 := 66) rfl rfl hF (fun hF => ?_) (fun hF => ?_)
                  · refine w_aload_n (pc2 := 72) rfl rfl rfl ?_
                    refine w_getfield (pc2 := 75) rfl zk_cModel rfl rfl rfl ?_
                    refine w_iload_n (pc2 := 76) rfl rfl rfl ?_
                    refine j_iaload (pc2 := 77) (n := 5) rfl rfl (by omega) (by decide) rfl hF (fun v26 hF => ?_)
                    exact j_norm (l := [(0, .ref 216), (1, .int p1), (2, .int p2), (4, .int a12.2)]) ⟨rfl, rfl, rfl, rfl, trivial⟩ (zz_nd_of (ks := [0, 1, 2, 4]) rfl (by decide)) (hk25 v26 s18 hF)
                  · refine w_iload (pc2 := 68) rfl rfl rfl ?_
                    refine w_goto rfl ?_
                    exact j_norm (l := [(0, .ref 216), (1, .int p1), (2, .int p2), (4, .int a12.2)]) ⟨rfl, rfl, rfl, rfl, trivial⟩ (zz_nd_of (ks := [0, 1, 2, 4]) rfl (by decide)) (hk25 v15 s18 hF)
    · refine w_iconst (pc2 := 19) rfl rfl ?_
      exact j_iret rfl rfl hF
noncomputable def f_Model_neededBy (p1 : Int32) (p2 : Int32) (p3 : Int32) (p4 : Int32) (s0 : ZS) : Option (Int32 × ZS) := zcl (f_Model_hurts p1 p3 s0) (fun (v6 : Int32) (s5 : ZS) => zcl (f_Model_held (p2 + v6) s5) (fun (v8 : Int32) (s7 : ZS) => zrd 139 (((57 : Int32) + p1)) (s7.1 226) (fun (v9 : Int32) => (if v8 < v9 then (if ¬ v8 = p2 then zrd 121 v8 (s7.1 230) (fun (v10 : Int32) => some (((1 : Int32) + v10), s7)) else some ((9999 : Int32), s7)) else (if ¬ v8 = p4 then some ((9999 : Int32), s7) else some ((1 : Int32), s7))))))
set_option maxHeartbeats 4000000 in
set_option maxRecDepth 100000 in
theorem ok_Model_neededBy {L : Nat} {xs : Nat → Int32} {b : ZH} {p1 : Int32} {p2 : Int32} {p3 : Int32} {p4 : Int32} {s0 : ZS} {w : Int32 × ZS} (hF : f_Model_neededBy p1 p2 p3 p4 s0 = some w) : zz_ct zt_ms zt_nm zt_df (zt_X L xs) 1 zt_m223 [.ref 216, .int p1, .int p2, .int p3, .int p4] (zk b s0) (qI b w) := by
  unfold f_Model_neededBy at hF
  change zz_wp zt_ms zt_nm zt_df (zt_X L xs) 1 zt_m223 0 [(0, .ref 216), (1, .int p1), (2, .int p2), (3, .int p3), (4, .int p4)] [] (zk b s0) (qI b w)
  refine w_iload_n (pc2 := 1) rfl rfl rfl ?_
  refine w_aload_n (pc2 := 2) rfl rfl rfl ?_
  refine w_iload_n (pc2 := 3) rfl rfl rfl ?_
  refine w_iload_n (pc2 := 4) rfl rfl rfl ?_
  refine j_cIv (pc2 := 7) (k := 0) (c := zt_m191) (as := [.ref 216, .int p1, .int p3]) (rest := [.int p2]) rfl rfl rfl rfl zk_cModel.look rfl (Nat.le_of_ble_eq_true rfl) (Nat.le_of_ble_eq_true rfl) (fun w1 h1 => ok_Model_hurts h1) (by decide) rfl hF (fun v6 s5 hF => ?_)
  refine w_iadd (pc2 := 8) rfl rfl ?_
  refine j_cIs (pc2 := 11) (k := 0) (c := zt_m210) (as := [.int (p2 + v6)]) (rest := []) rfl rfl rfl (Nat.le_of_ble_eq_true rfl) rfl rfl (Nat.le_of_ble_eq_true rfl) (Nat.le_of_ble_eq_true rfl) (fun w1 h1 => ok_Model_held h1) (by decide) rfl hF (fun v8 s7 hF => ?_)
  refine w_istore (pc2 := 13) (ls2 := [(5, .int v8), (0, .ref 216), (1, .int p1), (2, .int p2), (3, .int p3), (4, .int p4)]) rfl rfl rfl ?_
  refine w_iload (pc2 := 15) rfl rfl rfl ?_
  refine w_aload_n (pc2 := 16) rfl rfl rfl ?_
  refine w_getfield (pc2 := 19) rfl zk_cModel rfl rfl rfl ?_
  refine w_bipush (pc2 := 21) rfl rfl ?_
  refine w_iload_n (pc2 := 22) rfl rfl rfl ?_
  refine w_iadd (pc2 := 23) rfl rfl ?_
  refine j_iaload (pc2 := 24) (n := 139) rfl rfl (by omega) (by decide) rfl hF (fun v9 hF => ?_)
  refine j_icmp_lt (pc2 := 27) rfl rfl hF (fun hF => ?_) (fun hF => ?_)
  · refine w_iload (pc2 := 44) rfl rfl rfl ?_
    refine w_iload_n (pc2 := 45) rfl rfl rfl ?_
    refine j_icmp_ne (pc2 := 48) rfl rfl hF (fun hF => ?_) (fun hF => ?_)
    · refine w_iconst (pc2 := 55) rfl rfl ?_
      refine w_aload_n (pc2 := 56) rfl rfl rfl ?_
      refine w_getfield (pc2 := 59) rfl zk_cModel rfl rfl rfl ?_
      refine w_iload (pc2 := 61) rfl rfl rfl ?_
      refine j_iaload (pc2 := 62) (n := 121) rfl rfl (by omega) (by decide) rfl hF (fun v10 hF => ?_)
      refine w_iadd (pc2 := 63) rfl rfl ?_
      exact j_iret rfl rfl hF
    · refine w_sipush (pc2 := 51) rfl rfl ?_
      refine w_goto rfl ?_
      exact j_iret rfl rfl hF
  · refine w_iload (pc2 := 29) rfl rfl rfl ?_
    refine w_iload (pc2 := 31) rfl rfl rfl ?_
    refine j_icmp_ne (pc2 := 34) rfl rfl hF (fun hF => ?_) (fun hF => ?_)
    · refine w_sipush (pc2 := 41) rfl rfl ?_
      exact j_iret rfl rfl hF
    · refine w_iconst (pc2 := 35) rfl rfl ?_
      refine w_goto rfl ?_
      exact j_iret rfl rfl hF
