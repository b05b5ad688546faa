/-! What methods do as functions of the state, and that the small machine does so. -/
noncomputable def f_Model_isSmithHere (p1 : Int32) (s0 : ZS) : Option (Int32 × ZS) := zgi (s0.1 222 0) (fun (v2 : Int32) => (if v2 ≤ 0 then zcv (f_Model_passWord s0) (fun (s3 : ZS) => zcl (f_Model_cellHere (1 : Int32) (1 : Int32) (99 : Int32) s3) (fun (v5 : Int32) (s4 : ZS) => (if v5 = 0 then zbl (0 : Int32) s4 else zcl (f_Model_cellHere (2 : Int32) (1 : Int32) (9 : Int32) s4) (fun (v7 : Int32) (s6 : ZS) => (if ¬ v7 = 0 then zwi s6 222 0 (1 : Int32) (fun (s8 : ZS) => zbl (1 : Int32) s8) else zbl (0 : Int32) s6))))) else zcl (f_Model_fails (4 : Int32) p1 s0) (fun (v10 : Int32) (s9 : ZS) => zbl v10 s9)))
set_option maxHeartbeats 4000000 in
set_option maxRecDepth 100000 in
theorem ok_Model_isSmithHere {L : Nat} {xs : Nat → Int32} {b : ZH} {p1 : Int32} {s0 : ZS} {w : Int32 × ZS} (hF : f_Model_isSmithHere p1 s0 = some w) : zz_ct zt_ms zt_nm zt_df (zt_X L xs) 3 zt_m155 [.ref 216, .int p1] (zk b s0) (qI b w) := by
  unfold f_Model_isSmithHere at hF
  change zz_wp zt_ms zt_nm zt_df (zt_X L xs) 3 zt_m155 0 [(0, .ref 216), (1, .int p1)] [] (zk b s0) (qI b w)
  refine w_aload_n (pc2 := 1) rfl rfl rfl ?_
  refine w_getfield (pc2 := 4) rfl zk_cModel rfl rfl rfl ?_
  refine w_iconst (pc2 := 5) rfl rfl ?_
  refine j_ialoadC (pc2 := 6) (n := 108) (j := 0) rfl rfl (by omega) (by decide) (by decide) (by decide) (by decide) rfl hF (fun v2 hF => ?_)
  refine j_if_le (pc2 := 9) rfl rfl hF (fun hF => ?_) (fun hF => ?_)
  · refine w_aload_n (pc2 := 17) rfl rfl rfl ?_
    refine j_cVv (pc2 := 20) (k := 1) (c := zt_m156) (as := [.ref 216]) (rest := []) rfl rfl rfl rfl zk_cModel.look rfl (Nat.le_of_ble_eq_true rfl) (Nat.le_of_ble_eq_true rfl) (fun w1 h1 => ok_Model_passWord h1) (by decide) rfl hF (fun s3 hF => ?_)
    refine w_aload_n (pc2 := 21) rfl rfl rfl ?_
    refine w_iconst (pc2 := 22) rfl rfl ?_
    refine w_iconst (pc2 := 23) rfl rfl ?_
    refine w_bipush (pc2 := 25) rfl rfl ?_
    refine j_cIv (pc2 := 28) (k := 2) (c := zt_m157) (as := [.ref 216, .int (1 : Int32), .int (1 : Int32), .int (99 : Int32)]) (rest := []) rfl rfl rfl rfl zk_cModel.look rfl (Nat.le_of_ble_eq_true rfl) (Nat.le_of_ble_eq_true rfl) (fun w1 h1 => ok_Model_cellHere h1) (by decide) rfl hF (fun v5 s4 hF => ?_)
    refine j_if_eq (pc2 := 31) rfl rfl hF (fun hF => ?_) (fun hF => ?_)
    · refine w_iconst (pc2 := 43) rfl rfl ?_
      exact j_zret rfl rfl hF
    · refine w_aload_n (pc2 := 32) rfl rfl rfl ?_
      refine w_iconst (pc2 := 33) rfl rfl ?_
      refine w_iconst (pc2 := 34) rfl rfl ?_
      refine w_bipush (pc2 := 36) rfl rfl ?_
      refine j_cIv (pc2 := 39) (k := 2) (c := zt_m157) (as := [.ref 216, .int (2 : Int32), .int (1 : Int32), .int (9 : Int32)]) (rest := []) rfl rfl rfl rfl zk_cModel.look rfl (Nat.le_of_ble_eq_true rfl) (Nat.le_of_ble_eq_true rfl) (fun w1 h1 => ok_Model_cellHere h1) (by decide) rfl hF (fun v7 s6 hF => ?_)
      refine j_if_ne (pc2 := 42) rfl rfl hF (fun hF => ?_) (fun hF => ?_)
      · refine w_aload_n (pc2 := 45) rfl rfl rfl ?_
        refine w_getfield (pc2 := 48) rfl zk_cModel rfl rfl rfl ?_
        refine w_iconst (pc2 := 49) rfl rfl ?_
        refine w_iconst (pc2 := 50) rfl rfl ?_
        refine j_iastoreC (pc2 := 51) (n := 108) (j := 0) rfl rfl (by omega) (by decide) (by decide) (by decide) (by decide) rfl hF (fun s8 hF => ?_)
        refine w_iconst (pc2 := 52) rfl rfl ?_
        exact j_zret rfl rfl hF
      · refine w_iconst (pc2 := 43) rfl rfl ?_
        exact j_zret rfl rfl hF
  · refine w_aload_n (pc2 := 10) rfl rfl rfl ?_
    refine w_iconst (pc2 := 11) rfl rfl ?_
    refine w_iload_n (pc2 := 12) rfl rfl rfl ?_
    refine j_cIv (pc2 := 15) (k := 0) (c := zt_m153) (as := [.ref 216, .int (4 : Int32), .int p1]) (rest := []) rfl rfl rfl rfl zk_cModel.look rfl (Nat.le_of_ble_eq_true rfl) (Nat.le_of_ble_eq_true rfl) (fun w1 h1 => ok_Model_fails h1) (by decide) rfl hF (fun v10 s9 hF => ?_)
    exact j_zret rfl rfl hF
noncomputable def f_Model_isPairHere (p1 : Int32) (s0 : ZS) : Option (Int32 × ZS) := zgi (s0.1 222 3) (fun (v2 : Int32) => (if ¬ v2 = (5 : Int32) then zcv (f_Model_passWord s0) (fun (s3 : ZS) => zgi (s3.1 222 3) (fun (v4 : Int32) => zcl (f_Model_cellHere (((62 : Int32) + v4)) (0 : Int32) (99 : Int32) s3) (fun (v6 : Int32) (s5 : ZS) => (if v6 = 0 then zbl (0 : Int32) s5 else zgi (s5.1 222 3) (fun (v7 : Int32) => zcl (f_Model_cellHere (((57 : Int32) + v7)) (1 : Int32) (99 : Int32) s5) (fun (v9 : Int32) (s8 : ZS) => (if ¬ v9 = 0 then zgi (s8.1 222 3) (fun (v10 : Int32) => zwi s8 222 3 ((v10 + (1 : Int32))) (fun (s11 : ZS) => zbl (1 : Int32) s11)) else zbl (0 : Int32) s8))))))) else zcl (f_Model_fails (4 : Int32) p1 s0) (fun (v13 : Int32) (s12 : ZS) => zbl v13 s12)))
set_option maxHeartbeats 4000000 in
set_option maxRecDepth 100000 in
theorem ok_Model_isPairHere {L : Nat} {xs : Nat → Int32} {b : ZH} {p1 : Int32} {s0 : ZS} {w : Int32 × ZS} (hF : f_Model_isPairHere p1 s0 = some w) : zz_ct zt_ms zt_nm zt_df (zt_X L xs) 3 zt_m161 [.ref 216, .int p1] (zk b s0) (qI b w) := by
  unfold f_Model_isPairHere at hF
  change zz_wp zt_ms zt_nm zt_df (zt_X L xs) 3 zt_m161 0 [(0, .ref 216), (1, .int p1)] [] (zk b s0) (qI b w)
  refine w_aload_n (pc2 := 1) rfl rfl rfl ?_
  refine w_getfield (pc2 := 4) rfl zk_cModel rfl rfl rfl ?_
  refine w_iconst (pc2 := 5) rfl rfl ?_
  refine j_ialoadC (pc2 := 6) (n := 108) (j := 3) rfl rfl (by omega) (by decide) (by decide) (by decide) (by decide) rfl hF (fun v2 hF => ?_)
  refine w_iconst (pc2 := 7) rfl rfl ?_
  refine j_icmp_ne (pc2 := 10) rfl rfl hF (fun hF => ?_) (fun hF => ?_)
  · refine w_aload_n (pc2 := 18) rfl rfl rfl ?_
    refine j_cVv (pc2 := 21) (k := 1) (c := zt_m156) (as := [.ref 216]) (rest := []) rfl rfl rfl rfl zk_cModel.look rfl (Nat.le_of_ble_eq_true rfl) (Nat.le_of_ble_eq_true rfl) (fun w1 h1 => ok_Model_passWord h1) (by decide) rfl hF (fun s3 hF => ?_)
    refine w_aload_n (pc2 := 22) rfl rfl rfl ?_
    refine w_bipush (pc2 := 24) rfl rfl ?_
    refine w_aload_n (pc2 := 25) rfl rfl rfl ?_
    refine w_getfield (pc2 := 28) rfl zk_cModel rfl rfl rfl ?_
    refine w_iconst (pc2 := 29) rfl rfl ?_
    refine j_ialoadC (pc2 := 30) (n := 108) (j := 3) rfl rfl (by omega) (by decide) (by decide) (by decide) (by decide) rfl hF (fun v4 hF => ?_)
    refine w_iadd (pc2 := 31) rfl rfl ?_
    refine w_iconst (pc2 := 32) rfl rfl ?_
    refine w_bipush (pc2 := 34) rfl rfl ?_
    refine j_cIv (pc2 := 37) (k := 2) (c := zt_m157) (as := [.ref 216, .int (((62 : Int32) + v4)), .int (0 : Int32), .int (99 : Int32)]) (rest := []) rfl rfl rfl rfl zk_cModel.look rfl (Nat.le_of_ble_eq_true rfl) (Nat.le_of_ble_eq_true rfl) (fun w1 h1 => ok_Model_cellHere h1) (by decide) rfl hF (fun v6 s5 hF => ?_)
    refine j_if_eq (pc2 := 40) rfl rfl hF (fun hF => ?_) (fun hF => ?_)
    · refine w_iconst (pc2 := 60) rfl rfl ?_
      exact j_zret rfl rfl hF
    · refine w_aload_n (pc2 := 41) rfl rfl rfl ?_
      refine w_bipush (pc2 := 43) rfl rfl ?_
      refine w_aload_n (pc2 := 44) rfl rfl rfl ?_
      refine w_getfield (pc2 := 47) rfl zk_cModel rfl rfl rfl ?_
      refine w_iconst (pc2 := 48) rfl rfl ?_
      refine j_ialoadC (pc2 := 49) (n := 108) (j := 3) rfl rfl (by omega) (by decide) (by decide) (by decide) (by decide) rfl hF (fun v7 hF => ?_)
      refine w_iadd (pc2 := 50) rfl rfl ?_
      refine w_iconst (pc2 := 51) rfl rfl ?_
      refine w_bipush (pc2 := 53) rfl rfl ?_
      refine j_cIv (pc2 := 56) (k := 2) (c := zt_m157) (as := [.ref 216, .int (((57 : Int32) + v7)), .int (1 : Int32), .int (99 : Int32)]) (rest := []) rfl rfl rfl rfl zk_cModel.look rfl (Nat.le_of_ble_eq_true rfl) (Nat.le_of_ble_eq_true rfl) (fun w1 h1 => ok_Model_cellHere h1) (by decide) rfl hF (fun v9 s8 hF => ?_)
      refine j_if_ne (pc2 := 59) rfl rfl hF (fun hF => ?_) (fun hF => ?_)
      · refine w_aload_n (pc2 := 62) rfl rfl rfl ?_
        refine w_getfield (pc2 := 65) rfl zk_cModel rfl rfl rfl ?_
        refine w_iconst (pc2 := 66) rfl rfl ?_
        refine w_dup2 (pc2 := 67) rfl rfl rfl rfl ?_
        refine j_ialoadC (pc2 := 68) (n := 108) (j := 3) rfl rfl (by omega) (by decide) (by decide) (by decide) (by decide) rfl hF (fun v10 hF => ?_)
        refine w_iconst (pc2 := 69) rfl rfl ?_
        refine w_iadd (pc2 := 70) rfl rfl ?_
        refine j_iastoreC (pc2 := 71) (n := 108) (j := 3) rfl rfl (by omega) (by decide) (by decide) (by decide) (by decide) rfl hF (fun s11 hF => ?_)
        refine w_iconst (pc2 := 72) rfl rfl ?_
        exact j_zret rfl rfl hF
      · refine w_iconst (pc2 := 60) rfl rfl ?_
        exact j_zret rfl rfl hF
  · refine w_aload_n (pc2 := 11) rfl rfl rfl ?_
    refine w_iconst (pc2 := 12) rfl rfl ?_
    refine w_iload_n (pc2 := 13) rfl rfl rfl ?_
    refine j_cIv (pc2 := 16) (k := 0) (c := zt_m153) (as := [.ref 216, .int (4 : Int32), .int p1]) (rest := []) rfl rfl rfl rfl zk_cModel.look rfl (Nat.le_of_ble_eq_true rfl) (Nat.le_of_ble_eq_true rfl) (fun w1 h1 => ok_Model_fails h1) (by decide) rfl hF (fun v13 s12 hF => ?_)
    exact j_zret rfl rfl hF
noncomputable def f_Model_isSayingHere (p1 : Int32) (s0 : ZS) : Option (Int32 × ZS) := zgi (s0.1 222 4) (fun (v2 : Int32) => (if ¬ v2 = (6 : Int32) then zcv (f_Model_passWord s0) (fun (s3 : ZS) => zgi (s3.1 222 4) (fun (v4 : Int32) => zcl (f_Model_cellHere (((67 : Int32) + v4)) (0 : Int32) (9 : Int32) s3) (fun (v6 : Int32) (s5 : ZS) => (if ¬ v6 = 0 then zgi (s5.1 222 4) (fun (v7 : Int32) => zwi s5 222 4 ((v7 + (1 : Int32))) (fun (s8 : ZS) => zbl (1 : Int32) s8)) else zbl (0 : Int32) s5)))) else zcl (f_Model_fails (4 : Int32) p1 s0) (fun (v10 : Int32) (s9 : ZS) => zbl v10 s9)))
set_option maxHeartbeats 4000000 in
set_option maxRecDepth 100000 in
theorem ok_Model_isSayingHere {L : Nat} {xs : Nat → Int32} {b : ZH} {p1 : Int32} {s0 : ZS} {w : Int32 × ZS} (hF : f_Model_isSayingHere p1 s0 = some w) : zz_ct zt_ms zt_nm zt_df (zt_X L xs) 3 zt_m162 [.ref 216, .int p1] (zk b s0) (qI b w) := by
  unfold f_Model_isSayingHere at hF
  change zz_wp zt_ms zt_nm zt_df (zt_X L xs) 3 zt_m162 0 [(0, .ref 216), (1, .int p1)] [] (zk b s0) (qI b w)
  refine w_aload_n (pc2 := 1) rfl rfl rfl ?_
  refine w_getfield (pc2 := 4) rfl zk_cModel rfl rfl rfl ?_
  refine w_iconst (pc2 := 5) rfl rfl ?_
  refine j_ialoadC (pc2 := 6) (n := 108) (j := 4) rfl rfl (by omega) (by decide) (by decide) (by decide) (by decide) rfl hF (fun v2 hF => ?_)
  refine w_bipush (pc2 := 8) rfl rfl ?_
  refine j_icmp_ne (pc2 := 11) rfl rfl hF (fun hF => ?_) (fun hF => ?_)
  · refine w_aload_n (pc2 := 19) rfl rfl rfl ?_
    refine j_cVv (pc2 := 22) (k := 1) (c := zt_m156) (as := [.ref 216]) (rest := []) rfl rfl rfl rfl zk_cModel.look rfl (Nat.le_of_ble_eq_true rfl) (Nat.le_of_ble_eq_true rfl) (fun w1 h1 => ok_Model_passWord h1) (by decide) rfl hF (fun s3 hF => ?_)
    refine w_aload_n (pc2 := 23) rfl rfl rfl ?_
    refine w_bipush (pc2 := 25) rfl rfl ?_
    refine w_aload_n (pc2 := 26) rfl rfl rfl ?_
    refine w_getfield (pc2 := 29) rfl zk_cModel rfl rfl rfl ?_
    refine w_iconst (pc2 := 30) rfl rfl ?_
    refine j_ialoadC (pc2 := 31) (n := 108) (j := 4) rfl rfl (by omega) (by decide) (by decide) (by decide) (by decide) rfl hF (fun v4 hF => ?_)
    refine w_iadd (pc2 := 32) rfl rfl ?_
    refine w_iconst (pc2 := 33) rfl rfl ?_
    refine w_bipush (pc2 := 35) rfl rfl ?_
    refine j_cIv (pc2 := 38) (k := 2) (c := zt_m157) (as := [.ref 216, .int (((67 : Int32) + v4)), .int (0 : Int32), .int (9 : Int32)]) (rest := []) rfl rfl rfl rfl zk_cModel.look rfl (Nat.le_of_ble_eq_true rfl) (Nat.le_of_ble_eq_true rfl) (fun w1 h1 => ok_Model_cellHere h1) (by decide) rfl hF (fun v6 s5 hF => ?_)
    refine j_if_ne (pc2 := 41) rfl rfl hF (fun hF => ?_) (fun hF => ?_)
    · refine w_aload_n (pc2 := 44) rfl rfl rfl ?_
      refine w_getfield (pc2 := 47) rfl zk_cModel rfl rfl rfl ?_
      refine w_iconst (pc2 := 48) rfl rfl ?_
      refine w_dup2 (pc2 := 49) rfl rfl rfl rfl ?_
      refine j_ialoadC (pc2 := 50) (n := 108) (j := 4) rfl rfl (by omega) (by decide) (by decide) (by decide) (by decide) rfl hF (fun v7 hF => ?_)
      refine w_iconst (pc2 := 51) rfl rfl ?_
      refine w_iadd (pc2 := 52) rfl rfl ?_
      refine j_iastoreC (pc2 := 53) (n := 108) (j := 4) rfl rfl (by omega) (by decide) (by decide) (by decide) (by decide) rfl hF (fun s8 hF => ?_)
      refine w_iconst (pc2 := 54) rfl rfl ?_
      exact j_zret rfl rfl hF
    · refine w_iconst (pc2 := 42) rfl rfl ?_
      exact j_zret rfl rfl hF
  · refine w_aload_n (pc2 := 12) rfl rfl rfl ?_
    refine w_iconst (pc2 := 13) rfl rfl ?_
    refine w_iload_n (pc2 := 14) rfl rfl rfl ?_
    refine j_cIv (pc2 := 17) (k := 0) (c := zt_m153) (as := [.ref 216, .int (4 : Int32), .int p1]) (rest := []) rfl rfl rfl rfl zk_cModel.look rfl (Nat.le_of_ble_eq_true rfl) (Nat.le_of_ble_eq_true rfl) (fun w1 h1 => ok_Model_fails h1) (by decide) rfl hF (fun v10 s9 hF => ?_)
    exact j_zret rfl rfl hF
noncomputable def f_Model_isMindsHere (s0 : ZS) : Option (Int32 × ZS) := zcv (f_Model_passWord s0) (fun (s1 : ZS) => zgi (s1.1 222 3) (fun (v2 : Int32) => zcl (f_Model_numberHere (0 : Int32) ((v2 - (1 : Int32))) s1) (fun (v4 : Int32) (s3 : ZS) => (if ¬ v4 = 0 then zgi (s3.1 216 10) (fun (v5 : Int32) => zgi (s3.1 222 4) (fun (v6 : Int32) => zcl (f_Model_numberHere (0 : Int32) ((v6 - (1 : Int32))) s3) (fun (v8 : Int32) (s7 : ZS) => (if ¬ v8 = 0 then zgi (s7.1 216 10) (fun (v9 : Int32) => zcl (f_Model_cellHere ((((73 : Int32) + ((6 : Int32) * v5)) + v9)) (0 : Int32) (20 : Int32) s7) (fun (v11 : Int32) (s10 : ZS) => zbl v11 s10)) else zbl (0 : Int32) s7)))) else zbl (0 : Int32) s3))))
set_option maxHeartbeats 4000000 in
set_option maxRecDepth 100000 in
theorem ok_Model_isMindsHere {L : Nat} {xs : Nat → Int32} {b : ZH} {s0 : ZS} {w : Int32 × ZS} (hF : f_Model_isMindsHere s0 = some w) : zz_ct zt_ms zt_nm zt_df (zt_X L xs) 3 zt_m163 [.ref 216] (zk b s0) (qI b w) := by
  unfold f_Model_isMindsHere at hF
  change zz_wp zt_ms zt_nm zt_df (zt_X L xs) 3 zt_m163 0 [(0, .ref 216)] [] (zk b s0) (qI b w)
  refine w_aload_n (pc2 := 1) rfl rfl rfl ?_
  refine j_cVv (pc2 := 4) (k := 1) (c := zt_m156) (as := [.ref 216]) (rest := []) rfl rfl rfl rfl zk_cModel.look rfl (Nat.le_of_ble_eq_true rfl) (Nat.le_of_ble_eq_true rfl) (fun w1 h1 => ok_Model_passWord h1) (by decide) rfl hF (fun s1 hF => ?_)
  refine w_aload_n (pc2 := 5) rfl rfl rfl ?_
  refine w_iconst (pc2 := 6) rfl rfl ?_
  refine w_aload_n (pc2 := 7) rfl rfl rfl ?_
  refine w_getfield (pc2 := 10) rfl zk_cModel rfl rfl rfl ?_
  refine w_iconst (pc2 := 11) rfl rfl ?_
  refine j_ialoadC (pc2 := 12) (n := 108) (j := 3) rfl rfl (by omega) (by decide) (by decide) (by decide) (by decide) rfl hF (fun v2 hF => ?_)
  refine w_iconst (pc2 := 13) rfl rfl ?_
  refine w_isub (pc2 := 14) rfl rfl ?_
  refine j_cIv (pc2 := 17) (k := 1) (c := zt_m158) (as := [.ref 216, .int (0 : Int32), .int ((v2 - (1 : Int32)))]) (rest := []) rfl rfl rfl rfl zk_cModel.look rfl (Nat.le_of_ble_eq_true rfl) (Nat.le_of_ble_eq_true rfl) (fun w1 h1 => ok_Model_numberHere h1) (by decide) rfl hF (fun v4 s3 hF => ?_)
  refine j_if_ne (pc2 := 20) rfl rfl hF (fun hF => ?_) (fun hF => ?_)
  · refine w_bipush (pc2 := 24) rfl rfl ?_
    refine w_aload_n (pc2 := 25) rfl rfl rfl ?_
    refine j_geti (pc2 := 28) rfl zk_cModel rfl rfl rfl hF (fun v5 hF => ?_)
    refine w_imul (pc2 := 29) rfl rfl ?_
    refine w_istore_n (pc2 := 30) (ls2 := [(1, .int (((6 : Int32) * v5))), (0, .ref 216)]) rfl rfl rfl ?_
    refine w_aload_n (pc2 := 31) rfl rfl rfl ?_
    refine w_iconst (pc2 := 32) rfl rfl ?_
    refine w_aload_n (pc2 := 33) rfl rfl rfl ?_
    refine w_getfield (pc2 := 36) rfl zk_cModel rfl rfl rfl ?_
    refine w_iconst (pc2 := 37) rfl rfl ?_
    refine j_ialoadC (pc2 := 38) (n := 108) (j := 4) rfl rfl (by omega) (by decide) (by decide) (by decide) (by decide) rfl hF (fun v6 hF => ?_)
    refine w_iconst (pc2 := 39) rfl rfl ?_
    refine w_isub (pc2 := 40) rfl rfl ?_
    refine j_cIv (pc2 := 43) (k := 1) (c := zt_m158) (as := [.ref 216, .int (0 : Int32), .int ((v6 - (1 : Int32)))]) (rest := []) rfl rfl rfl rfl zk_cModel.look rfl (Nat.le_of_ble_eq_true rfl) (Nat.le_of_ble_eq_true rfl) (fun w1 h1 => ok_Model_numberHere h1) (by decide) rfl hF (fun v8 s7 hF => ?_)
    refine j_if_ne (pc2 := 46) rfl rfl hF (fun hF => ?_) (fun hF => ?_)
    · refine w_aload_n (pc2 := 49) rfl rfl rfl ?_
      refine w_bipush (pc2 := 51) rfl rfl ?_
      refine w_iload_n (pc2 := 52) rfl rfl rfl ?_
      refine w_iadd (pc2 := 53) rfl rfl ?_
      refine w_aload_n (pc2 := 54) rfl rfl rfl ?_
      refine j_geti (pc2 := 57) rfl zk_cModel rfl rfl rfl hF (fun v9 hF => ?_)
      refine w_iadd (pc2 := 58) rfl rfl ?_
      refine w_iconst (pc2 := 59) rfl rfl ?_
      refine w_bipush (pc2 := 61) rfl rfl ?_
      refine j_cIv (pc2 := 64) (k := 2) (c := zt_m157) (as := [.ref 216, .int ((((73 : Int32) + ((6 : Int32) * v5)) + v9)), .int (0 : Int32), .int (20 : Int32)]) (rest := []) rfl rfl rfl rfl zk_cModel.look rfl (Nat.le_of_ble_eq_true rfl) (Nat.le_of_ble_eq_true rfl) (fun w1 h1 => ok_Model_cellHere h1) (by decide) rfl hF (fun v11 s10 hF => ?_)
      exact j_zret rfl rfl hF
    · refine w_iconst (pc2 := 47) rfl rfl ?_
      exact j_zret rfl rfl hF
  · refine w_iconst (pc2 := 21) rfl rfl ?_
    exact j_zret rfl rfl hF
noncomputable def f_Model_isNearHere (s0 : ZS) : Option (Int32 × ZS) := zcv (f_Model_passWord s0) (fun (s1 : ZS) => zgi (s1.1 222 3) (fun (v2 : Int32) => zcl (f_Model_numberHere (0 : Int32) ((v2 - (1 : Int32))) s1) (fun (v4 : Int32) (s3 : ZS) => (if ¬ v4 = 0 then zgi (s3.1 216 10) (fun (v5 : Int32) => zcl (f_Model_see s3) (fun (v7 : Int32) (s6 : ZS) => zgi (s6.1 216 8) (fun (v8 : Int32) => zgi (s6.1 222 3) (fun (v9 : Int32) => zcl (f_Model_numberHere (0 : Int32) ((v9 - (1 : Int32))) s6) (fun (v11 : Int32) (s10 : ZS) => (if ¬ v11 = 0 then zgi (s10.1 216 10) (fun (v12 : Int32) => (if ¬ v5 = v12 then zrd 108 (((103 : Int32) + v5)) (s10.1 222) (fun (v13 : Int32) => zgi (s10.1 216 10) (fun (v14 : Int32) => zwa s10 222 108 (((103 : Int32) + v5)) ((v13 ||| ((1 : Int32) <<< (v14 &&& (31 : Int32))))) (fun (s15 : ZS) => zgi (s15.1 216 10) (fun (v16 : Int32) => zrd 108 (((103 : Int32) + v16)) (s15.1 222) (fun (v17 : Int32) => zwa s15 222 108 (((103 : Int32) + v16)) ((v17 ||| ((1 : Int32) <<< (v5 &&& (31 : Int32))))) (fun (s18 : ZS) => zbl (1 : Int32) s18)))))) else zcl (f_Model_fails (1 : Int32) v8 s10) (fun (v20 : Int32) (s19 : ZS) => zbl v20 s19))) else zbl (0 : Int32) s10)))))) else zbl (0 : Int32) s3))))
set_option maxHeartbeats 4000000 in
set_option maxRecDepth 100000 in
theorem ok_Model_isNearHere {L : Nat} {xs : Nat → Int32} {b : ZH} {s0 : ZS} {w : Int32 × ZS} (hF : f_Model_isNearHere s0 = some w) : zz_ct zt_ms zt_nm zt_df (zt_X L xs) 2 zt_m164 [.ref 216] (zk b s0) (qI b w) := by
  unfold f_Model_isNearHere at hF
  change zz_wp zt_ms zt_nm zt_df (zt_X L xs) 2 zt_m164 0 [(0, .ref 216)] [] (zk b s0) (qI b w)
  refine w_aload_n (pc2 := 1) rfl rfl rfl ?_
  refine j_cVv (pc2 := 4) (k := 1) (c := zt_m156) (as := [.ref 216]) (rest := []) rfl rfl rfl rfl zk_cModel.look rfl (Nat.le_of_ble_eq_true rfl) (Nat.le_of_ble_eq_true rfl) (fun w1 h1 => ok_Model_passWord h1) (by decide) rfl hF (fun s1 hF => ?_)
  refine w_aload_n (pc2 := 5) rfl rfl rfl ?_
  refine w_iconst (pc2 := 6) rfl rfl ?_
  refine w_aload_n (pc2 := 7) rfl rfl rfl ?_
  refine w_getfield (pc2 := 10) rfl zk_cModel rfl rfl rfl ?_
  refine w_iconst (pc2 := 11) rfl rfl ?_
  refine j_ialoadC (pc2 := 12) (n := 108) (j := 3) rfl rfl (by omega) (by decide) (by decide) (by decide) (by decide) rfl hF (fun v2 hF => ?_)
  refine w_iconst (pc2 := 13) rfl rfl ?_
  refine w_isub (pc2 := 14) rfl rfl ?_
  refine j_cIv (pc2 := 17) (k := 1) (c := zt_m158) (as := [.ref 216, .int (0 : Int32), .int ((v2 - (1 : Int32)))]) (rest := []) rfl rfl rfl rfl zk_cModel.look rfl (Nat.le_of_ble_eq_true rfl) (Nat.le_of_ble_eq_true rfl) (fun w1 h1 => ok_Model_numberHere h1) (by decide) rfl hF (fun v4 s3 hF => ?_)
  refine j_if_ne (pc2 := 20) rfl rfl hF (fun hF => ?_) (fun hF => ?_)
  · refine w_aload_n (pc2 := 23) rfl rfl rfl ?_
    refine j_geti (pc2 := 26) rfl zk_cModel rfl rfl rfl hF (fun v5 hF => ?_)
    refine w_istore_n (pc2 := 27) (ls2 := [(1, .int v5), (0, .ref 216)]) rfl rfl rfl ?_
    refine w_aload_n (pc2 := 28) rfl rfl rfl ?_
    refine j_cIv (pc2 := 31) (k := 0) (c := zt_m149) (as := [.ref 216]) (rest := []) rfl rfl rfl rfl zk_cModel.look rfl (Nat.le_of_ble_eq_true rfl) (Nat.le_of_ble_eq_true rfl) (fun w1 h1 => ok_Model_see h1) (by decide) rfl hF (fun v7 s6 hF => ?_)
    refine w_pop (pc2 := 32) rfl rfl rfl ?_
    refine w_aload_n (pc2 := 33) rfl rfl rfl ?_
    refine j_geti (pc2 := 36) rfl zk_cModel rfl rfl rfl hF (fun v8 hF => ?_)
    refine w_istore_n (pc2 := 37) (ls2 := [(2, .int v8), (1, .int v5), (0, .ref 216)]) rfl rfl rfl ?_
    refine w_aload_n (pc2 := 38) rfl rfl rfl ?_
    refine w_iconst (pc2 := 39) rfl rfl ?_
    refine w_aload_n (pc2 := 40) rfl rfl rfl ?_
    refine w_getfield (pc2 := 43) rfl zk_cModel rfl rfl rfl ?_
    refine w_iconst (pc2 := 44) rfl rfl ?_
    refine j_ialoadC (pc2 := 45) (n := 108) (j := 3) rfl rfl (by omega) (by decide) (by decide) (by decide) (by decide) rfl hF (fun v9 hF => ?_)
    refine w_iconst (pc2 := 46) rfl rfl ?_
    refine w_isub (pc2 := 47) rfl rfl ?_
    refine j_cIv (pc2 := 50) (k := 1) (c := zt_m158) (as := [.ref 216, .int (0 : Int32), .int ((v9 - (1 : Int32)))]) (rest := []) rfl rfl rfl rfl zk_cModel.look rfl (Nat.le_of_ble_eq_true rfl) (Nat.le_of_ble_eq_true rfl) (fun w1 h1 => ok_Model_numberHere h1) (by decide) rfl hF (fun v11 s10 hF => ?_)
    refine j_if_ne (pc2 := 53) rfl rfl hF (fun hF => ?_) (fun hF => ?_)
    · refine w_iload_n (pc2 := 56) rfl rfl rfl ?_
      refine w_aload_n (pc2 := 57) rfl rfl rfl ?_
      refine j_geti (pc2 := 60) rfl zk_cModel rfl rfl rfl hF (fun v12 hF => ?_)
      refine j_icmp_ne (pc2 := 63) rfl rfl hF (fun hF => ?_) (fun hF => ?_)
      · refine w_aload_n (pc2 := 71) rfl rfl rfl ?_
        refine w_getfield (pc2 := 74) rfl zk_cModel rfl rfl rfl ?_
        refine w_bipush (pc2 := 76) rfl rfl ?_
        refine w_iload_n (pc2 := 77) rfl rfl rfl ?_
        refine w_iadd (pc2 := 78) rfl rfl ?_
        refine w_dup2 (pc2 := 79) rfl rfl rfl rfl ?_
        refine j_iaload (pc2 := 80) (n := 108) rfl rfl (by omega) (by decide) rfl hF (fun v13 hF => ?_)
        refine w_iconst (pc2 := 81) rfl rfl ?_
        refine w_aload_n (pc2 := 82) rfl rfl rfl ?_
        refine j_geti (pc2 := 85) rfl zk_cModel rfl rfl rfl hF (fun v14 hF => ?_)
        refine w_ishl (pc2 := 86) rfl rfl ?_
        refine w_ior (pc2 := 87) rfl rfl ?_
        refine j_iastore (pc2 := 88) (n := 108) rfl rfl (by omega) (by decide) rfl hF (fun s15 hF => ?_)
        refine w_aload_n (pc2 := 89) rfl rfl rfl ?_
        refine w_getfield (pc2 := 92) rfl zk_cModel rfl rfl rfl ?_
        refine w_bipush (pc2 := 94) rfl rfl ?_
        refine w_aload_n (pc2 := 95) rfl rfl rfl ?_
        refine j_geti (pc2 := 98) rfl zk_cModel rfl rfl rfl hF (fun v16 hF => ?_)
        refine w_iadd (pc2 := 99) rfl rfl ?_
        refine w_dup2 (pc2 := 100) rfl rfl rfl rfl ?_
        refine j_iaload (pc2 := 101) (n := 108) rfl rfl (by omega) (by decide) rfl hF (fun v17 hF => ?_)
        refine w_iconst (pc2 := 102) rfl rfl ?_
        refine w_iload_n (pc2 := 103) rfl rfl rfl ?_
        refine w_ishl (pc2 := 104) rfl rfl ?_
        refine w_ior (pc2 := 105) rfl rfl ?_
        refine j_iastore (pc2 := 106) (n := 108) rfl rfl (by omega) (by decide) rfl hF (fun s18 hF => ?_)
        refine w_iconst (pc2 := 107) rfl rfl ?_
        exact j_zret rfl rfl hF
      · refine w_aload_n (pc2 := 64) rfl rfl rfl ?_
        refine w_iconst (pc2 := 65) rfl rfl ?_
        refine w_iload_n (pc2 := 66) rfl rfl rfl ?_
        refine j_cIv (pc2 := 69) (k := 0) (c := zt_m153) (as := [.ref 216, .int (1 : Int32), .int v8]) (rest := []) rfl rfl rfl rfl zk_cModel.look rfl (Nat.le_of_ble_eq_true rfl) (Nat.le_of_ble_eq_true rfl) (fun w1 h1 => ok_Model_fails h1) (by decide) rfl hF (fun v20 s19 hF => ?_)
        exact j_zret rfl rfl hF
    · refine w_iconst (pc2 := 54) rfl rfl ?_
      exact j_zret rfl rfl hF
  · refine w_iconst (pc2 := 21) rfl rfl ?_
    exact j_zret rfl rfl hF
noncomputable def f_Model_smithLineHere (p1 : Int32) (s0 : ZS) : Option (Int32 × ZS) := zcl (f_Model_isWord (495756866664 : Int64) s0) (fun (v3 : Int32) (s2 : ZS) => (if v3 = 0 then zgi (s2.1 222 0) (fun (v4 : Int32) => (if ¬ v4 = 0 then zcl (f_Model_isWord (1885432178 : Int64) s2) (fun (v6 : Int32) (s5 : ZS) => (if v6 = 0 then zcl (f_Model_isWord (126862485974631 : Int64) s5) (fun (v8 : Int32) (s7 : ZS) => (if v8 = 0 then zcl (f_Model_isWord (469920277619 : Int64) s7) (fun (v10 : Int32) (s9 : ZS) => (if v10 = 0 then zcl (f_Model_isNearHere s9) (fun (v12 : Int32) (s11 : ZS) => zbl v12 s11) else zcl (f_Model_isMindsHere s9) (fun (v14 : Int32) (s13 : ZS) => zbl v14 s13))) else zcl (f_Model_isSayingHere p1 s7) (fun (v16 : Int32) (s15 : ZS) => zbl v16 s15))) else zcl (f_Model_isPairHere p1 s5) (fun (v18 : Int32) (s17 : ZS) => zbl v18 s17))) else zcl (f_Model_fails (4 : Int32) p1 s2) (fun (v20 : Int32) (s19 : ZS) => zbl v20 s19))) else zcl (f_Model_isSmithHere p1 s2) (fun (v22 : Int32) (s21 : ZS) => zbl v22 s21)))
set_option maxHeartbeats 4000000 in
set_option maxRecDepth 100000 in
theorem ok_Model_smithLineHere {L : Nat} {xs : Nat → Int32} {b : ZH} {p1 : Int32} {s0 : ZS} {w : Int32 × ZS} (hF : f_Model_smithLineHere p1 s0 = some w) : zz_ct zt_ms zt_nm zt_df (zt_X L xs) 4 zt_m154 [.ref 216, .int p1] (zk b s0) (qI b w) := by
  unfold f_Model_smithLineHere at hF
  change zz_wp zt_ms zt_nm zt_df (zt_X L xs) 4 zt_m154 0 [(0, .ref 216), (1, .int p1)] [] (zk b s0) (qI b w)
  refine w_aload_n (pc2 := 1) rfl rfl rfl ?_
  refine w_ldc2_w (pc2 := 4) rfl rfl ?_
  refine j_cIv (pc2 := 7) (k := 1) (c := zt_m151) (as := [.ref 216, .long (495756866664 : Int64)]) (rest := []) rfl rfl rfl rfl zk_cModel.look rfl (Nat.le_of_ble_eq_true rfl) (Nat.le_of_ble_eq_true rfl) (fun w1 h1 => ok_Model_isWord h1) (by decide) rfl hF (fun v3 s2 hF => ?_)
  refine j_if_eq (pc2 := 10) rfl rfl hF (fun hF => ?_) (fun hF => ?_)
  · refine w_aload_n (pc2 := 17) rfl rfl rfl ?_
    refine w_getfield (pc2 := 20) rfl zk_cModel rfl rfl rfl ?_
    refine w_iconst (pc2 := 21) rfl rfl ?_
    refine j_ialoadC (pc2 := 22) (n := 108) (j := 0) rfl rfl (by omega) (by decide) (by decide) (by decide) (by decide) rfl hF (fun v4 hF => ?_)
    refine j_if_ne (pc2 := 25) rfl rfl hF (fun hF => ?_) (fun hF => ?_)
    · refine w_aload_n (pc2 := 33) rfl rfl rfl ?_
      refine w_ldc2_w (pc2 := 36) rfl rfl ?_
      refine j_cIv (pc2 := 39) (k := 1) (c := zt_m151) (as := [.ref 216, .long (1885432178 : Int64)]) (rest := []) rfl rfl rfl rfl zk_cModel.look rfl (Nat.le_of_ble_eq_true rfl) (Nat.le_of_ble_eq_true rfl) (fun w1 h1 => ok_Model_isWord h1) (by decide) rfl hF (fun v6 s5 hF => ?_)
      refine j_if_eq (pc2 := 42) rfl rfl hF (fun hF => ?_) (fun hF => ?_)
      · refine w_aload_n (pc2 := 49) rfl rfl rfl ?_
        refine w_ldc2_w (pc2 := 52) rfl rfl ?_
        refine j_cIv (pc2 := 55) (k := 1) (c := zt_m151) (as := [.ref 216, .long (126862485974631 : Int64)]) (rest := []) rfl rfl rfl rfl zk_cModel.look rfl (Nat.le_of_ble_eq_true rfl) (Nat.le_of_ble_eq_true rfl) (fun w1 h1 => ok_Model_isWord h1) (by decide) rfl hF (fun v8 s7 hF => ?_)
        refine j_if_eq (pc2 := 58) rfl rfl hF (fun hF => ?_) (fun hF => ?_)
        · refine w_aload_n (pc2 := 65) rfl rfl rfl ?_
          refine w_ldc2_w (pc2 := 68) rfl rfl ?_
          refine j_cIv (pc2 := 71) (k := 1) (c := zt_m151) (as := [.ref 216, .long (469920277619 : Int64)]) (rest := []) rfl rfl rfl rfl zk_cModel.look rfl (Nat.le_of_ble_eq_true rfl) (Nat.le_of_ble_eq_true rfl) (fun w1 h1 => ok_Model_isWord h1) (by decide) rfl hF (fun v10 s9 hF => ?_)
          refine j_if_eq (pc2 := 74) rfl rfl hF (fun hF => ?_) (fun hF => ?_)
          · refine w_aload_n (pc2 := 82) rfl rfl rfl ?_
            refine j_cIv (pc2 := 85) (k := 2) (c := zt_m164) (as := [.ref 216]) (rest := []) rfl rfl rfl rfl zk_cModel.look rfl (Nat.le_of_ble_eq_true rfl) (Nat.le_of_ble_eq_true rfl) (fun w1 h1 => ok_Model_isNearHere h1) (by decide) rfl hF (fun v12 s11 hF => ?_)
            exact j_zret rfl rfl hF
          · refine w_aload_n (pc2 := 75) rfl rfl rfl ?_
            refine j_cIv (pc2 := 78) (k := 3) (c := zt_m163) (as := [.ref 216]) (rest := []) rfl rfl rfl rfl zk_cModel.look rfl (Nat.le_of_ble_eq_true rfl) (Nat.le_of_ble_eq_true rfl) (fun w1 h1 => ok_Model_isMindsHere h1) (by decide) rfl hF (fun v14 s13 hF => ?_)
            refine w_goto rfl ?_
            exact j_zret rfl rfl hF
        · refine w_aload_n (pc2 := 59) rfl rfl rfl ?_
          refine w_iload_n (pc2 := 60) rfl rfl rfl ?_
          refine j_cIv (pc2 := 63) (k := 3) (c := zt_m162) (as := [.ref 216, .int p1]) (rest := []) rfl rfl rfl rfl zk_cModel.look rfl (Nat.le_of_ble_eq_true rfl) (Nat.le_of_ble_eq_true rfl) (fun w1 h1 => ok_Model_isSayingHere h1) (by decide) rfl hF (fun v16 s15 hF => ?_)
          exact j_zret rfl rfl hF
      · refine w_aload_n (pc2 := 43) rfl rfl rfl ?_
        refine w_iload_n (pc2 := 44) rfl rfl rfl ?_
        refine j_cIv (pc2 := 47) (k := 3) (c := zt_m161) (as := [.ref 216, .int p1]) (rest := []) rfl rfl rfl rfl zk_cModel.look rfl (Nat.le_of_ble_eq_true rfl) (Nat.le_of_ble_eq_true rfl) (fun w1 h1 => ok_Model_isPairHere h1) (by decide) rfl hF (fun v18 s17 hF => ?_)
        exact j_zret rfl rfl hF
    · refine w_aload_n (pc2 := 26) rfl rfl rfl ?_
      refine w_iconst (pc2 := 27) rfl rfl ?_
      refine w_iload_n (pc2 := 28) rfl rfl rfl ?_
      refine j_cIv (pc2 := 31) (k := 0) (c := zt_m153) (as := [.ref 216, .int (4 : Int32), .int p1]) (rest := []) rfl rfl rfl rfl zk_cModel.look rfl (Nat.le_of_ble_eq_true rfl) (Nat.le_of_ble_eq_true rfl) (fun w1 h1 => ok_Model_fails h1) (by decide) rfl hF (fun v20 s19 hF => ?_)
      exact j_zret rfl rfl hF
  · refine w_aload_n (pc2 := 11) rfl rfl rfl ?_
    refine w_iload_n (pc2 := 12) rfl rfl rfl ?_
    refine j_cIv (pc2 := 15) (k := 3) (c := zt_m155) (as := [.ref 216, .int p1]) (rest := []) rfl rfl rfl rfl zk_cModel.look rfl (Nat.le_of_ble_eq_true rfl) (Nat.le_of_ble_eq_true rfl) (fun w1 h1 => ok_Model_isSmithHere h1) (by decide) rfl hF (fun v22 s21 hF => ?_)
    exact j_zret rfl rfl hF
noncomputable def f_Model_makes (p1 : Int32) (s0 : ZS) : Option (Int32 × ZS) := zgi (s0.1 216 12) (fun (v2 : Int32) => (if ¬ v2 = (60 : Int32) then zgi (s0.1 216 12) (fun (v3 : Int32) => zwi s0 216 12 ((v3 + (1 : Int32))) (fun (s4 : ZS) => zbl (1 : Int32) s4)) else zcl (f_Model_fails (3 : Int32) p1 s0) (fun (v6 : Int32) (s5 : ZS) => zbl v6 s5)))
set_option maxHeartbeats 4000000 in
set_option maxRecDepth 100000 in
theorem ok_Model_makes {L : Nat} {xs : Nat → Int32} {b : ZH} {p1 : Int32} {s0 : ZS} {w : Int32 × ZS} (hF : f_Model_makes p1 s0 = some w) : zz_ct zt_ms zt_nm zt_df (zt_X L xs) 1 zt_m169 [.ref 216, .int p1] (zk b s0) (qI b w) := by
  unfold f_Model_makes at hF
  change zz_wp zt_ms zt_nm zt_df (zt_X L xs) 1 zt_m169 0 [(0, .ref 216), (1, .int p1)] [] (zk b s0) (qI b w)
  refine w_aload_n (pc2 := 1) rfl rfl rfl ?_
  refine j_geti (pc2 := 4) rfl zk_cModel rfl rfl rfl hF (fun v2 hF => ?_)
  refine w_bipush (pc2 := 6) rfl rfl ?_
  refine j_icmp_ne (pc2 := 9) rfl rfl hF (fun hF => ?_) (fun hF => ?_)
  · refine w_aload_n (pc2 := 17) rfl rfl rfl ?_
    refine w_dup (pc2 := 18) rfl rfl rfl ?_
    refine j_geti (pc2 := 21) rfl zk_cModel rfl rfl rfl hF (fun v3 hF => ?_)
    refine w_iconst (pc2 := 22) rfl rfl ?_
    refine w_iadd (pc2 := 23) rfl rfl ?_
    refine j_puti (pc2 := 26) (j := 12) rfl zk_cModel rfl (Nat.le_of_ble_eq_true rfl) rfl zk_wModel_12 (by decide) rfl hF (fun s4 hF => ?_)
    refine w_iconst (pc2 := 27) rfl rfl ?_
    exact j_zret rfl rfl hF
  · refine w_aload_n (pc2 := 10) rfl rfl rfl ?_
    refine w_iconst (pc2 := 11) rfl rfl ?_
    refine w_iload_n (pc2 := 12) rfl rfl rfl ?_
    refine j_cIv (pc2 := 15) (k := 0) (c := zt_m153) (as := [.ref 216, .int (3 : Int32), .int p1]) (rest := []) rfl rfl rfl rfl zk_cModel.look rfl (Nat.le_of_ble_eq_true rfl) (Nat.le_of_ble_eq_true rfl) (fun w1 h1 => ok_Model_fails h1) (by decide) rfl hF (fun v6 s5 hF => ?_)
    exact j_zret rfl rfl hF
noncomputable def f_Model_puts (p1 : Int32) (p2 : Int32) (s0 : ZS) : Option (ZS) := zgi (s0.1 216 11) (fun (v3 : Int32) => zgi (s0.1 216 11) (fun (v4 : Int32) => zrd 7 v4 (s0.1 219) (fun (v5 : Int32) => zwa s0 218 2400 ((((400 : Int32) * v3) + v5)) ((p1 + ((16 : Int32) * p2))) (fun (s6 : ZS) => zgi (s6.1 216 11) (fun (v7 : Int32) => zrd 7 v7 (s6.1 219) (fun (v8 : Int32) => zwa s6 219 7 v7 ((v8 + (1 : Int32))) (fun (s9 : ZS) => some s9)))))))
set_option maxHeartbeats 4000000 in
set_option maxRecDepth 100000 in
theorem ok_Model_puts {L : Nat} {xs : Nat → Int32} {b : ZH} {p1 : Int32} {p2 : Int32} {s0 : ZS} {w : ZS} (hF : f_Model_puts p1 p2 s0 = some w) : zz_ct zt_ms zt_nm zt_df (zt_X L xs) 0 zt_m170 [.ref 216, .int p1, .int p2] (zk b s0) (qV b w) := by
  unfold f_Model_puts at hF
  change zz_wp zt_ms zt_nm zt_df (zt_X L xs) 0 zt_m170 0 [(0, .ref 216), (1, .int p1), (2, .int p2)] [] (zk b s0) (qV b w)
  refine w_aload_n (pc2 := 1) rfl rfl rfl ?_
  refine w_getfield (pc2 := 4) rfl zk_cModel rfl rfl rfl ?_
  refine w_sipush (pc2 := 7) rfl rfl ?_
  refine w_aload_n (pc2 := 8) rfl rfl rfl ?_
  refine j_geti (pc2 := 11) rfl zk_cModel rfl rfl rfl hF (fun v3 hF => ?_)
  refine w_imul (pc2 := 12) rfl rfl ?_
  refine w_aload_n (pc2 := 13) rfl rfl rfl ?_
  refine w_getfield (pc2 := 16) rfl zk_cModel rfl rfl rfl ?_
  refine w_aload_n (pc2 := 17) rfl rfl rfl ?_
  refine j_geti (pc2 := 20) rfl zk_cModel rfl rfl rfl hF (fun v4 hF => ?_)
  refine j_iaload (pc2 := 21) (n := 7) rfl rfl (by omega) (by decide) rfl hF (fun v5 hF => ?_)
  refine w_iadd (pc2 := 22) rfl rfl ?_
  refine w_iload_n (pc2 := 23) rfl rfl rfl ?_
  refine w_bipush (pc2 := 25) rfl rfl ?_
  refine w_iload_n (pc2 := 26) rfl rfl rfl ?_
  refine w_imul (pc2 := 27) rfl rfl ?_
  refine w_iadd (pc2 := 28) rfl rfl ?_
  refine j_iastore (pc2 := 29) (n := 2400) rfl rfl (by omega) (by decide) rfl hF (fun s6 hF => ?_)
  refine w_aload_n (pc2 := 30) rfl rfl rfl ?_
  refine w_getfield (pc2 := 33) rfl zk_cModel rfl rfl rfl ?_
  refine w_aload_n (pc2 := 34) rfl rfl rfl ?_
  refine j_geti (pc2 := 37) rfl zk_cModel rfl rfl rfl hF (fun v7 hF => ?_)
  refine w_dup2 (pc2 := 38) rfl rfl rfl rfl ?_
  refine j_iaload (pc2 := 39) (n := 7) rfl rfl (by omega) (by decide) rfl hF (fun v8 hF => ?_)
  refine w_iconst (pc2 := 40) rfl rfl ?_
  refine w_iadd (pc2 := 41) rfl rfl ?_
  refine j_iastore (pc2 := 42) (n := 7) rfl rfl (by omega) (by decide) rfl hF (fun s9 hF => ?_)
  exact j_vret rfl rfl hF
noncomputable def f_Model_wordHere (s0 : ZS) : Option (Int32 × ZS) := zcl (f_Model_isWord (1885432178 : Int64) s0) (fun (v2 : Int32) (s1 : ZS) => (if v2 = 0 then zcl (f_Model_isWord (126862485974631 : Int64) s1) (fun (v4 : Int32) (s3 : ZS) => (if v4 = 0 then zcl (f_Model_isWord (127978976601458 : Int64) s3) (fun (v6 : Int32) (s5 : ZS) => (if v6 = 0 then zcl (f_Model_isWord (108243466677107 : Int64) s5) (fun (v8 : Int32) (s7 : ZS) => (if v8 = 0 then zcl (f_Model_isWord (1752527476 : Int64) s7) (fun (v10 : Int32) (s9 : ZS) => (if v10 = 0 then zcl (f_Model_isWord (469920277619 : Int64) s9) (fun (v12 : Int32) (s11 : ZS) => (if v12 = 0 then zcl (f_Model_isWord (1935763812 : Int64) s11) (fun (v14 : Int32) (s13 : ZS) => (if v14 = 0 then zcl (f_Model_isWord (1852137842 : Int64) s13) (fun (v16 : Int32) (s15 : ZS) => (if v16 = 0 then zcl (f_Model_isWord (422541419635 : Int64) s15) (fun (v18 : Int32) (s17 : ZS) => (if v18 = 0 then zcl (f_Model_isWord (1919907699 : Int64) s17) (fun (v20 : Int32) (s19 : ZS) => (if v20 = 0 then zcl (f_Model_isWord (6578553 : Int64) s19) (fun (v22 : Int32) (s21 : ZS) => (if v22 = 0 then some ((-1 : Int32), s21) else some ((10 : Int32), s21))) else some ((9 : Int32), s19))) else some ((8 : Int32), s17))) else some ((7 : Int32), s15))) else some ((6 : Int32), s13))) else some ((5 : Int32), s11))) else some ((4 : Int32), s9))) else some ((3 : Int32), s7))) else some ((2 : Int32), s5))) else some ((1 : Int32), s3))) else some ((0 : Int32), s1)))
set_option maxHeartbeats 4000000 in
set_option maxRecDepth 100000 in
theorem ok_Model_wordHere {L : Nat} {xs : Nat → Int32} {b : ZH} {s0 : ZS} {w : Int32 × ZS} (hF : f_Model_wordHere s0 = some w) : zz_ct zt_ms zt_nm zt_df (zt_X L xs) 2 zt_m171 [.ref 216] (zk b s0) (qI b w) := by
  unfold f_Model_wordHere at hF
  change zz_wp zt_ms zt_nm zt_df (zt_X L xs) 2 zt_m171 0 [(0, .ref 216)] [] (zk b s0) (qI b w)
  refine w_aload_n (pc2 := 1) rfl rfl rfl ?_
  refine w_ldc2_w (pc2 := 4) rfl rfl ?_
  refine j_cIv (pc2 := 7) (k := 1) (c := zt_m151) (as := [.ref 216, .long (1885432178 : Int64)]) (rest := []) rfl rfl rfl rfl zk_cModel.look rfl (Nat.le_of_ble_eq_true rfl) (Nat.le_of_ble_eq_true rfl) (fun w1 h1 => ok_Model_isWord h1) (by decide) rfl hF (fun v2 s1 hF => ?_)
  refine j_if_eq (pc2 := 10) rfl rfl hF (fun hF => ?_) (fun hF => ?_)
  · refine w_aload_n (pc2 := 13) rfl rfl rfl ?_
    refine w_ldc2_w (pc2 := 16) rfl rfl ?_
    refine j_cIv (pc2 := 19) (k := 1) (c := zt_m151) (as := [.ref 216, .long (126862485974631 : Int64)]) (rest := []) rfl rfl rfl rfl zk_cModel.look rfl (Nat.le_of_ble_eq_true rfl) (Nat.le_of_ble_eq_true rfl) (fun w1 h1 => ok_Model_isWord h1) (by decide) rfl hF (fun v4 s3 hF => ?_)
    refine j_if_eq (pc2 := 22) rfl rfl hF (fun hF => ?_) (fun hF => ?_)
    · refine w_aload_n (pc2 := 25) rfl rfl rfl ?_
      refine w_ldc2_w (pc2 := 28) rfl rfl ?_
      refine j_cIv (pc2 := 31) (k := 1) (c := zt_m151) (as := [.ref 216, .long (127978976601458 : Int64)]) (rest := []) rfl rfl rfl rfl zk_cModel.look rfl (Nat.le_of_ble_eq_true rfl) (Nat.le_of_ble_eq_true rfl) (fun w1 h1 => ok_Model_isWord h1) (by decide) rfl hF (fun v6 s5 hF => ?_)
      refine j_if_eq (pc2 := 34) rfl rfl hF (fun hF => ?_) (fun hF => ?_)
      · refine w_aload_n (pc2 := 37) rfl rfl rfl ?_
        refine w_ldc2_w (pc2 := 40) rfl rfl ?_
        refine j_cIv (pc2 := 43) (k := 1) (c := zt_m151) (as := [.ref 216, .long (108243466677107 : Int64)]) (rest := []) rfl rfl rfl rfl zk_cModel.look rfl (Nat.le_of_ble_eq_true rfl) (Nat.le_of_ble_eq_true rfl) (fun w1 h1 => ok_Model_isWord h1) (by decide) rfl hF (fun v8 s7 hF => ?_)
        refine j_if_eq (pc2 := 46) rfl rfl hF (fun hF => ?_) (fun hF => ?_)
        · refine w_aload_n (pc2 := 49) rfl rfl rfl ?_
          refine w_ldc2_w (pc2 := 52) rfl rfl ?_
          refine j_cIv (pc2 := 55) (k := 1) (c := zt_m151) (as := [.ref 216, .long (1752527476 : Int64)]) (rest := []) rfl rfl rfl rfl zk_cModel.look rfl (Nat.le_of_ble_eq_true rfl) (Nat.le_of_ble_eq_true rfl) (fun w1 h1 => ok_Model_isWord h1) (by decide) rfl hF (fun v10 s9 hF => ?_)
          refine j_if_eq (pc2 := 58) rfl rfl hF (fun hF => ?_) (fun hF => ?_)
          · refine w_aload_n (pc2 := 61) rfl rfl rfl ?_
            refine w_ldc2_w (pc2 := 64) rfl rfl ?_
            refine j_cIv (pc2 := 67) (k := 1) (c := zt_m151) (as := [.ref 216, .long (469920277619 : Int64)]) (rest := []) rfl rfl rfl rfl zk_cModel.look rfl (Nat.le_of_ble_eq_true rfl) (Nat.le_of_ble_eq_true rfl) (fun w1 h1 => ok_Model_isWord h1) (by decide) rfl hF (fun v12 s11 hF => ?_)
            refine j_if_eq (pc2 := 70) rfl rfl hF (fun hF => ?_) (fun hF => ?_)
            · refine w_aload_n (pc2 := 73) rfl rfl rfl ?_
              refine w_ldc2_w (pc2 := 76) rfl rfl ?_
              refine j_cIv (pc2 := 79) (k := 1) (c := zt_m151) (as := [.ref 216, .long (1935763812 : Int64)]) (rest := []) rfl rfl rfl rfl zk_cModel.look rfl (Nat.le_of_ble_eq_true rfl) (Nat.le_of_ble_eq_true rfl) (fun w1 h1 => ok_Model_isWord h1) (by decide) rfl hF (fun v14 s13 hF => ?_)
              refine j_if_eq (pc2 := 82) rfl rfl hF (fun hF => ?_) (fun hF => ?_)
              · refine w_aload_n (pc2 := 86) rfl rfl rfl ?_
                refine w_ldc2_w (pc2 := 89) rfl rfl ?_
                refine j_cIv (pc2 := 92) (k := 1) (c := zt_m151) (as := [.ref 216, .long (1852137842 : Int64)]) (rest := []) rfl rfl rfl rfl zk_cModel.look rfl (Nat.le_of_ble_eq_true rfl) (Nat.le_of_ble_eq_true rfl) (fun w1 h1 => ok_Model_isWord h1) (by decide) rfl hF (fun v16 s15 hF => ?_)
                refine j_if_eq (pc2 := 95) rfl rfl hF (fun hF => ?_) (fun hF => ?_)
                · refine w_aload_n (pc2 := 99) rfl rfl rfl ?_
                  refine w_ldc2_w (pc2 := 102) rfl rfl ?_
                  refine j_cIv (pc2 := 105) (k := 1) (c := zt_m151) (as := [.ref 216, .long (422541419635 : Int64)]) (rest := []) rfl rfl rfl rfl zk_cModel.look rfl (Nat.le_of_ble_eq_true rfl) (Nat.le_of_ble_eq_true rfl) (fun w1 h1 => ok_Model_isWord h1) (by decide) rfl hF (fun v18 s17 hF => ?_)
                  refine j_if_eq (pc2 := 108) rfl rfl hF (fun hF => ?_) (fun hF => ?_)
                  · refine w_aload_n (pc2 := 112) rfl rfl rfl ?_
                    refine w_ldc2_w (pc2 := 115) rfl rfl ?_
                    refine j_cIv (pc2 := 118) (k := 1) (c := zt_m151) (as := [.ref 216, .long (1919907699 : Int64)]) (rest := []) rfl rfl rfl rfl zk_cModel.look rfl (Nat.le_of_ble_eq_true rfl) (Nat.le_of_ble_eq_true rfl) (fun w1 h1 => ok_Model_isWord h1) (by decide) rfl hF (fun v20 s19 hF => ?_)
                    refine j_if_eq (pc2 := 121) rfl rfl hF (fun hF => ?_) (fun hF => ?_)
                    · refine w_aload_n (pc2 := 127) rfl rfl rfl ?_
                      refine w_ldc2_w (pc2 := 130) rfl rfl ?_
                      refine j_cIv (pc2 := 133) (k := 1) (c := zt_m151) (as := [.ref 216, .long (6578553 : Int64)]) (rest := []) rfl rfl rfl rfl zk_cModel.look rfl (Nat.le_of_ble_eq_true rfl) (Nat.le_of_ble_eq_true rfl) (fun w1 h1 => ok_Model_isWord h1) (by decide) rfl hF (fun v22 s21 hF => ?_)
                      refine j_if_eq (pc2 := 136) rfl rfl hF (fun hF => ?_) (fun hF => ?_)
                      · refine w_iconst (pc2 := 142) rfl rfl ?_
                        exact j_iret rfl rfl hF
                      · refine w_bipush (pc2 := 138) rfl rfl ?_
                        refine w_goto rfl ?_
                        exact j_iret rfl rfl hF
                    · refine w_bipush (pc2 := 123) rfl rfl ?_
                      refine w_goto rfl ?_
                      exact j_iret rfl rfl hF
                  · refine w_bipush (pc2 := 110) rfl rfl ?_
                    exact j_iret rfl rfl hF
                · refine w_bipush (pc2 := 97) rfl rfl ?_
                  exact j_iret rfl rfl hF
              · refine w_bipush (pc2 := 84) rfl rfl ?_
                exact j_iret rfl rfl hF
            · refine w_iconst (pc2 := 71) rfl rfl ?_
              exact j_iret rfl rfl hF
          · refine w_iconst (pc2 := 59) rfl rfl ?_
            exact j_iret rfl rfl hF
        · refine w_iconst (pc2 := 47) rfl rfl ?_
          exact j_iret rfl rfl hF
      · refine w_iconst (pc2 := 35) rfl rfl ?_
        exact j_iret rfl rfl hF
    · refine w_iconst (pc2 := 23) rfl rfl ?_
      exact j_iret rfl rfl hF
  · refine w_iconst (pc2 := 11) rfl rfl ?_
    exact j_iret rfl rfl hF
noncomputable def f_Model_value (s0 : ZS) : Option (Int32 × ZS) := zcl (f_Model_see s0) (fun (v2 : Int32) (s1 : ZS) => zgi (s1.1 216 8) (fun (v3 : Int32) => zgi (s1.1 216 8) (fun (v4 : Int32) => zcl (f_Model_isDigit v4 s1) (fun (v6 : Int32) (s5 : ZS) => (if v6 = 0 then zcl (f_Model_wordHere s5) (fun (v8 : Int32) (s7 : ZS) => (if 0 ≤ v8 then zcl (f_Model_makes v3 s7) (fun (v10 : Int32) (s9 : ZS) => (if ¬ v10 = 0 then zcv (f_Model_passWord s9) (fun (s11 : ZS) => zcv (f_Model_puts (1 : Int32) v8 s11) (fun (s12 : ZS) => zbl (1 : Int32) s12)) else zbl (0 : Int32) s9)) else zcl (f_Model_fails (0 : Int32) v3 s7) (fun (v14 : Int32) (s13 : ZS) => zbl v14 s13))) else zcl (f_Model_numberHere (0 : Int32) (99999 : Int32) s5) (fun (v16 : Int32) (s15 : ZS) => (if v16 = 0 then zbl (0 : Int32) s15 else zcl (f_Model_makes v3 s15) (fun (v18 : Int32) (s17 : ZS) => (if ¬ v18 = 0 then zgi (s17.1 216 10) (fun (v19 : Int32) => zcv (f_Model_puts (0 : Int32) v19 s17) (fun (s20 : ZS) => zbl (1 : Int32) s20)) else zbl (0 : Int32) s17)))))))))
set_option maxHeartbeats 4000000 in
set_option maxRecDepth 100000 in
theorem ok_Model_value {L : Nat} {xs : Nat → Int32} {b : ZH} {s0 : ZS} {w : Int32 × ZS} (hF : f_Model_value s0 = some w) : zz_ct zt_ms zt_nm zt_df (zt_X L xs) 3 zt_m168 [.ref 216] (zk b s0) (qI b w) := by
  unfold f_Model_value at hF
  change zz_wp zt_ms zt_nm zt_df (zt_X L xs) 3 zt_m168 0 [(0, .ref 216)] [] (zk b s0) (qI b w)
  refine w_aload_n (pc2 := 1) rfl rfl rfl ?_
  refine j_cIv (pc2 := 4) (k := 0) (c := zt_m149) (as := [.ref 216]) (rest := []) rfl rfl rfl rfl zk_cModel.look rfl (Nat.le_of_ble_eq_true rfl) (Nat.le_of_ble_eq_true rfl) (fun w1 h1 => ok_Model_see h1) (by decide) rfl hF (fun v2 s1 hF => ?_)
  refine w_pop (pc2 := 5) rfl rfl rfl ?_
  refine w_aload_n (pc2 := 6) rfl rfl rfl ?_
  refine j_geti (pc2 := 9) rfl zk_cModel rfl rfl rfl hF (fun v3 hF => ?_)
  refine w_istore_n (pc2 := 10) (ls2 := [(1, .int v3), (0, .ref 216)]) rfl rfl rfl ?_
  refine w_aload_n (pc2 := 11) rfl rfl rfl ?_
  refine w_aload_n (pc2 := 12) rfl rfl rfl ?_
  refine j_geti (pc2 := 15) rfl zk_cModel rfl rfl rfl hF (fun v4 hF => ?_)
  refine j_cIv (pc2 := 18) (k := 0) (c := zt_m159) (as := [.ref 216, .int v4]) (rest := []) rfl rfl rfl rfl zk_cModel.look rfl (Nat.le_of_ble_eq_true rfl) (Nat.le_of_ble_eq_true rfl) (fun w1 h1 => ok_Model_isDigit h1) (by decide) rfl hF (fun v6 s5 hF => ?_)
  refine j_if_eq (pc2 := 21) rfl rfl hF (fun hF => ?_) (fun hF => ?_)
  · refine w_aload_n (pc2 := 53) rfl rfl rfl ?_
    refine j_cIv (pc2 := 56) (k := 2) (c := zt_m171) (as := [.ref 216]) (rest := []) rfl rfl rfl rfl zk_cModel.look rfl (Nat.le_of_ble_eq_true rfl) (Nat.le_of_ble_eq_true rfl) (fun w1 h1 => ok_Model_wordHere h1) (by decide) rfl hF (fun v8 s7 hF => ?_)
    refine w_istore_n (pc2 := 57) (ls2 := [(2, .int v8), (1, .int v3), (0, .ref 216)]) rfl rfl rfl ?_
    refine w_iload_n (pc2 := 58) rfl rfl rfl ?_
    refine j_if_ge (pc2 := 61) rfl rfl hF (fun hF => ?_) (fun hF => ?_)
    · refine w_aload_n (pc2 := 69) rfl rfl rfl ?_
      refine w_iload_n (pc2 := 70) rfl rfl rfl ?_
      refine j_cIv (pc2 := 73) (k := 1) (c := zt_m169) (as := [.ref 216, .int v3]) (rest := []) rfl rfl rfl rfl zk_cModel.look rfl (Nat.le_of_ble_eq_true rfl) (Nat.le_of_ble_eq_true rfl) (fun w1 h1 => ok_Model_makes h1) (by decide) rfl hF (fun v10 s9 hF => ?_)
      refine j_if_ne (pc2 := 76) rfl rfl hF (fun hF => ?_) (fun hF => ?_)
      · refine w_aload_n (pc2 := 79) rfl rfl rfl ?_
        refine j_cVv (pc2 := 82) (k := 1) (c := zt_m156) (as := [.ref 216]) (rest := []) rfl rfl rfl rfl zk_cModel.look rfl (Nat.le_of_ble_eq_true rfl) (Nat.le_of_ble_eq_true rfl) (fun w1 h1 => ok_Model_passWord h1) (by decide) rfl hF (fun s11 hF => ?_)
        refine w_aload_n (pc2 := 83) rfl rfl rfl ?_
        refine w_iconst (pc2 := 84) rfl rfl ?_
        refine w_iload_n (pc2 := 85) rfl rfl rfl ?_
        refine j_cVv (pc2 := 88) (k := 0) (c := zt_m170) (as := [.ref 216, .int (1 : Int32), .int v8]) (rest := []) rfl rfl rfl rfl zk_cModel.look rfl (Nat.le_of_ble_eq_true rfl) (Nat.le_of_ble_eq_true rfl) (fun w1 h1 => ok_Model_puts h1) (by decide) rfl hF (fun s12 hF => ?_)
        refine w_iconst (pc2 := 89) rfl rfl ?_
        exact j_zret rfl rfl hF
      · refine w_iconst (pc2 := 77) rfl rfl ?_
        exact j_zret rfl rfl hF
    · refine w_aload_n (pc2 := 62) rfl rfl rfl ?_
      refine w_iconst (pc2 := 63) rfl rfl ?_
      refine w_iload_n (pc2 := 64) rfl rfl rfl ?_
      refine j_cIv (pc2 := 67) (k := 0) (c := zt_m153) (as := [.ref 216, .int (0 : Int32), .int v3]) (rest := []) rfl rfl rfl rfl zk_cModel.look rfl (Nat.le_of_ble_eq_true rfl) (Nat.le_of_ble_eq_true rfl) (fun w1 h1 => ok_Model_fails h1) (by decide) rfl hF (fun v14 s13 hF => ?_)
      exact j_zret rfl rfl hF
  · refine w_aload_n (pc2 := 22) rfl rfl rfl ?_
    refine w_iconst (pc2 := 23) rfl rfl ?_
    refine w_ldc (pc2 := 25) rfl rfl ?_
    refine j_cIv (pc2 := 28) (k := 1) (c := zt_m158) (as := [.ref 216, .int (0 : Int32), .int (99999 : Int32)]) (rest := []) rfl rfl rfl rfl zk_cModel.look rfl (Nat.le_of_ble_eq_true rfl) (Nat.le_of_ble_eq_true rfl) (fun w1 h1 => ok_Model_numberHere h1) (by decide) rfl hF (fun v16 s15 hF => ?_)
    refine j_if_eq (pc2 := 31) rfl rfl hF (fun hF => ?_) (fun hF => ?_)
    · refine w_iconst (pc2 := 40) rfl rfl ?_
      exact j_zret rfl rfl hF
    · refine w_aload_n (pc2 := 32) rfl rfl rfl ?_
      refine w_iload_n (pc2 := 33) rfl rfl rfl ?_
      refine j_cIv (pc2 := 36) (k := 1) (c := zt_m169) (as := [.ref 216, .int v3]) (rest := []) rfl rfl rfl rfl zk_cModel.look rfl (Nat.le_of_ble_eq_true rfl) (Nat.le_of_ble_eq_true rfl) (fun w1 h1 => ok_Model_makes h1) (by decide) rfl hF (fun v18 s17 hF => ?_)
      refine j_if_ne (pc2 := 39) rfl rfl hF (fun hF => ?_) (fun hF => ?_)
      · refine w_aload_n (pc2 := 42) rfl rfl rfl ?_
        refine w_iconst (pc2 := 43) rfl rfl ?_
        refine w_aload_n (pc2 := 44) rfl rfl rfl ?_
        refine j_geti (pc2 := 47) rfl zk_cModel rfl rfl rfl hF (fun v19 hF => ?_)
        refine j_cVv (pc2 := 50) (k := 0) (c := zt_m170) (as := [.ref 216, .int (0 : Int32), .int v19]) (rest := []) rfl rfl rfl rfl zk_cModel.look rfl (Nat.le_of_ble_eq_true rfl) (Nat.le_of_ble_eq_true rfl) (fun w1 h1 => ok_Model_puts h1) (by decide) rfl hF (fun s20 hF => ?_)
        refine w_iconst (pc2 := 51) rfl rfl ?_
        exact j_zret rfl rfl hF
      · refine w_iconst (pc2 := 40) rfl rfl ?_
        exact j_zret rfl rfl hF
noncomputable def f_Model_term_B9 (a3 : Unit) (s4 : ZS) (g5 : Unit → ZS → Option (Int32 × ZS)) : Option (Int32 × ZS) := zcl (f_Model_see s4) (fun (v7 : Int32) (s6 : ZS) => zj0 (fun (s8 : ZS) => zgi (s8.1 216 8) (fun (v10 : Int32) => zrd 400 v10 (s8.1 217) (fun (v11 : Int32) => zjn (A := Int32) (fun (a13 : Int32) (s12 : ZS) => zgi (s12.1 216 8) (fun (v15 : Int32) => zwi s12 216 8 ((v15 + (1 : Int32))) (fun (s16 : ZS) => zcl (f_Model_value s16) (fun (v18 : Int32) (s17 : ZS) => (if ¬ v18 = 0 then zcv (f_Model_puts a13 (0 : Int32) s17) (fun (s19 : ZS) => g5 () s19) else zbl (0 : Int32) s17))))) (fun (k14 : Int32 → ZS → Option (Int32 × ZS)) => (if ¬ v11 = (42 : Int32) then zgi (s8.1 216 8) (fun (v20 : Int32) => zrd 400 v20 (s8.1 217) (fun (v21 : Int32) => (if ¬ v21 = (47 : Int32) then k14 (14 : Int32) s8 else k14 (5 : Int32) s8))) else k14 (4 : Int32) s8))))) (fun (k9 : ZS → Option (Int32 × ZS)) => (if v7 = (42 : Int32) then k9 s6 else zcl (f_Model_see s6) (fun (v23 : Int32) (s22 : ZS) => (if v23 = (47 : Int32) then k9 s22 else zcl (f_Model_see s22) (fun (v25 : Int32) (s24 : ZS) => (if ¬ v25 = (37 : Int32) then zbl (1 : Int32) s24 else k9 s24)))))))
noncomputable def f_Model_term (s0 : ZS) : Option (Int32 × ZS) := zcl (f_Model_value s0) (fun (v2 : Int32) (s1 : ZS) => (if ¬ v2 = 0 then zlp zN (f_Model_term_B9) () s1 else zbl (0 : Int32) s1))
set_option maxHeartbeats 4000000 in
set_option maxRecDepth 100000 in
theorem ok_Model_term {L : Nat} {xs : Nat → Int32} {b : ZH} {s0 : ZS} {w : Int32 × ZS} (hF : f_Model_term s0 = some w) : zz_ct zt_ms zt_nm zt_df (zt_X L xs) 4 zt_m167 [.ref 216] (zk b s0) (qI b w) := by
  unfold f_Model_term at hF
  change zz_wp zt_ms zt_nm zt_df (zt_X L xs) 4 zt_m167 0 [(0, .ref 216)] [] (zk b s0) (qI b w)
  refine w_aload_n (pc2 := 1) rfl rfl rfl ?_
  refine j_cIv (pc2 := 4) (k := 3) (c := zt_m168) (as := [.ref 216]) (rest := []) rfl rfl rfl rfl zk_cModel.look rfl (Nat.le_of_ble_eq_true rfl) (Nat.le_of_ble_eq_true rfl) (fun w1 h1 => ok_Model_value h1) (by decide) rfl hF (fun v2 s1 hF => ?_)
  refine j_if_ne (pc2 := 7) rfl rfl hF (fun hF => ?_) (fun hF => ?_)
  · refine j_norm (l := [(0, .ref 216)]) ⟨rfl, trivial⟩ (zz_nd_of (ks := [0]) rfl (by decide)) ?_
    refine j_loop (P := fun (a3 : Unit) (s4 : ZS) => zz_wp zt_ms zt_nm zt_df (zt_X L xs) 4 zt_m167 9 [(0, .ref 216)] [] (zk b s4) (qI b w)) hF (fun a3 s4 g5 hg5 hF => ?_)
    unfold f_Model_term_B9 at hF
    refine w_aload_n (pc2 := 10) rfl rfl rfl ?_
    refine j_cIv (pc2 := 13) (k := 0) (c := zt_m149) (as := [.ref 216]) (rest := []) rfl rfl rfl rfl zk_cModel.look rfl (Nat.le_of_ble_eq_true rfl) (Nat.le_of_ble_eq_true rfl) (fun w1 h1 => ok_Model_see h1) (by decide) rfl hF (fun v7 s6 hF => ?_)
    refine w_bipush (pc2 := 15) rfl rfl ?_
    refine j_join0 (P := fun (s8 : ZS) => zz_wp zt_ms zt_nm zt_df (zt_X L xs) 4 zt_m167 36 [(0, .ref 216)] [] (zk b s8) (qI b w)) hF (fun s8 hF => ?_) (fun k9 hk9 hF => ?_)
    · refine w_aload_n (pc2 := 37) rfl rfl rfl ?_
      refine w_getfield (pc2 := 40) rfl zk_cModel rfl rfl rfl ?_
      refine w_aload_n (pc2 := 41) rfl rfl rfl ?_
      refine j_geti (pc2 := 44) rfl zk_cModel rfl rfl rfl hF (fun v10 hF => ?_)
      refine j_baload (pc2 := 45) (n := 400) rfl rfl (by omega) (by decide) rfl hF (fun v11 hF => ?_)
      refine w_bipush (pc2 := 47) rfl rfl ?_
      refine j_join (P := fun (a13 : Int32) (s12 : ZS) => zz_wp zt_ms zt_nm zt_df (zt_X L xs) 4 zt_m167 74 [(0, .ref 216)] [.int a13] (zk b s12) (qI b w)) hF (fun a13 s12 hF => ?_) (fun k14 hk14 hF => ?_)
      · refine w_istore_n (pc2 := 75) (ls2 := [(1, .int a13), (0, .ref 216)]) rfl rfl rfl ?_
        refine w_aload_n (pc2 := 76) rfl rfl rfl ?_
        refine w_dup (pc2 := 77) rfl rfl rfl ?_
        refine j_geti (pc2 := 80) rfl zk_cModel rfl rfl rfl hF (fun v15 hF => ?_)
        refine w_iconst (pc2 := 81) rfl rfl ?_
        refine w_iadd (pc2 := 82) rfl rfl ?_
        refine j_puti (pc2 := 85) (j := 8) rfl zk_cModel rfl (Nat.le_of_ble_eq_true rfl) rfl zk_wModel_8 (by decide) rfl hF (fun s16 hF => ?_)
        refine w_aload_n (pc2 := 86) rfl rfl rfl ?_
        refine j_cIv (pc2 := 89) (k := 3) (c := zt_m168) (as := [.ref 216]) (rest := []) rfl rfl rfl rfl zk_cModel.look rfl (Nat.le_of_ble_eq_true rfl) (Nat.le_of_ble_eq_true rfl) (fun w1 h1 => ok_Model_value h1) (by decide) rfl hF (fun v18 s17 hF => ?_)
        refine j_if_ne (pc2 := 92) rfl rfl hF (fun hF => ?_) (fun hF => ?_)
        · refine w_aload_n (pc2 := 95) rfl rfl rfl ?_
          refine w_iload_n (pc2 := 96) rfl rfl rfl ?_
          refine w_iconst (pc2 := 97) rfl rfl ?_
          refine j_cVv (pc2 := 100) (k := 0) (c := zt_m170) (as := [.ref 216, .int a13, .int (0 : Int32)]) (rest := []) rfl rfl rfl rfl zk_cModel.look rfl (Nat.le_of_ble_eq_true rfl) (Nat.le_of_ble_eq_true rfl) (fun w1 h1 => ok_Model_puts h1) (by decide) rfl hF (fun s19 hF => ?_)
          refine w_goto rfl ?_
          exact j_norm (l := [(0, .ref 216)]) ⟨rfl, trivial⟩ (zz_nd_of (ks := [0]) rfl (by decide)) (hg5 () s19 hF)
        · refine w_iconst (pc2 := 93) rfl rfl ?_
          exact j_zret rfl rfl hF
      · refine j_icmp_ne (pc2 := 50) rfl rfl hF (fun hF => ?_) (fun hF => ?_)
        · refine w_aload_n (pc2 := 55) rfl rfl rfl ?_
          refine w_getfield (pc2 := 58) rfl zk_cModel rfl rfl rfl ?_
          refine w_aload_n (pc2 := 59) rfl rfl rfl ?_
          refine j_geti (pc2 := 62) rfl zk_cModel rfl rfl rfl hF (fun v20 hF => ?_)
          refine j_baload (pc2 := 63) (n := 400) rfl rfl (by omega) (by decide) rfl hF (fun v21 hF => ?_)
          refine w_bipush (pc2 := 65) rfl rfl ?_
          refine j_icmp_ne (pc2 := 68) rfl rfl hF (fun hF => ?_) (fun hF => ?_)
          · refine w_bipush (pc2 := 74) rfl rfl ?_
            exact j_norm (l := [(0, .ref 216)]) ⟨rfl, trivial⟩ (zz_nd_of (ks := [0]) rfl (by decide)) (hk14 (14 : Int32) s8 hF)
          · refine w_iconst (pc2 := 69) rfl rfl ?_
            refine w_goto rfl ?_
            exact j_norm (l := [(0, .ref 216)]) ⟨rfl, trivial⟩ (zz_nd_of (ks := [0]) rfl (by decide)) (hk14 (5 : Int32) s8 hF)
        · refine w_iconst (pc2 := 51) rfl rfl ?_
          refine w_goto rfl ?_
          exact j_norm (l := [(0, .ref 216)]) ⟨rfl, trivial⟩ (zz_nd_of (ks := [0]) rfl (by decide)) (hk14 (4 : Int32) s8 hF)
    · refine j_icmp_eq (pc2 := 18) rfl rfl hF (fun hF => ?_) (fun hF => ?_)
      · exact j_norm (l := [(0, .ref 216)]) ⟨rfl, trivial⟩ (zz_nd_of (ks := [0]) rfl (by decide)) (hk9 s6 hF)
      · refine w_aload_n (pc2 := 19) rfl rfl rfl ?_
        refine j_cIv (pc2 := 22) (k := 0) (c := zt_m149) (as := [.ref 216]) (rest := []) rfl rfl rfl rfl zk_cModel.look rfl (Nat.le_of_ble_eq_true rfl) (Nat.le_of_ble_eq_true rfl) (fun w1 h1 => ok_Model_see h1) (by decide) rfl hF (fun v23 s22 hF => ?_)
        refine w_bipush (pc2 := 24) rfl rfl ?_
        refine j_icmp_eq (pc2 := 27) rfl rfl hF (fun hF => ?_) (fun hF => ?_)
        · exact j_norm (l := [(0, .ref 216)]) ⟨rfl, trivial⟩ (zz_nd_of (ks := [0]) rfl (by decide)) (hk9 s22 hF)
        · refine w_aload_n (pc2 := 28) rfl rfl rfl ?_
          refine j_cIv (pc2 := 31) (k := 0) (c := zt_m149) (as := [.ref 216]) (rest := []) rfl rfl rfl rfl zk_cModel.look rfl (Nat.le_of_ble_eq_true rfl) (Nat.le_of_ble_eq_true rfl) (fun w1 h1 => ok_Model_see h1) (by decide) rfl hF (fun v25 s24 hF => ?_)
          refine w_bipush (pc2 := 33) rfl rfl ?_
          refine j_icmp_ne (pc2 := 36) rfl rfl hF (fun hF => ?_) (fun hF => ?_)
          · refine w_iconst (pc2 := 104) rfl rfl ?_
            exact j_zret rfl rfl hF
          · exact j_norm (l := [(0, .ref 216)]) ⟨rfl, trivial⟩ (zz_nd_of (ks := [0]) rfl (by decide)) (hk9 s24 hF)
  · refine w_iconst (pc2 := 8) rfl rfl ?_
    exact j_zret rfl rfl hF
noncomputable def f_Model_sum_B9 (a3 : Unit) (s4 : ZS) (g5 : Unit → ZS → Option (Int32 × ZS)) : Option (Int32 × ZS) := zcl (f_Model_see s4) (fun (v7 : Int32) (s6 : ZS) => zj0 (fun (s8 : ZS) => zgi (s8.1 216 8) (fun (v10 : Int32) => zrd 400 v10 (s8.1 217) (fun (v11 : Int32) => zjn (A := Int32) (fun (a13 : Int32) (s12 : ZS) => zgi (s12.1 216 8) (fun (v15 : Int32) => zwi s12 216 8 ((v15 + (1 : Int32))) (fun (s16 : ZS) => zcl (f_Model_term s16) (fun (v18 : Int32) (s17 : ZS) => (if ¬ v18 = 0 then zcv (f_Model_puts a13 (0 : Int32) s17) (fun (s19 : ZS) => g5 () s19) else zbl (0 : Int32) s17))))) (fun (k14 : Int32 → ZS → Option (Int32 × ZS)) => (if ¬ v11 = (43 : Int32) then k14 (3 : Int32) s8 else k14 (2 : Int32) s8))))) (fun (k9 : ZS → Option (Int32 × ZS)) => (if v7 = (43 : Int32) then k9 s6 else zcl (f_Model_see s6) (fun (v21 : Int32) (s20 : ZS) => (if ¬ v21 = (45 : Int32) then zbl (1 : Int32) s20 else k9 s20)))))
noncomputable def f_Model_sum (s0 : ZS) : Option (Int32 × ZS) := zcl (f_Model_term s0) (fun (v2 : Int32) (s1 : ZS) => (if ¬ v2 = 0 then zlp zN (f_Model_sum_B9) () s1 else zbl (0 : Int32) s1))
set_option maxHeartbeats 4000000 in
set_option maxRecDepth 100000 in
theorem ok_Model_sum {L : Nat} {xs : Nat → Int32} {b : ZH} {s0 : ZS} {w : Int32 × ZS} (hF : f_Model_sum s0 = some w) : zz_ct zt_ms zt_nm zt_df (zt_X L xs) 5 zt_m166 [.ref 216] (zk b s0) (qI b w) := by
  unfold f_Model_sum at hF
  change zz_wp zt_ms zt_nm zt_df (zt_X L xs) 5 zt_m166 0 [(0, .ref 216)] [] (zk b s0) (qI b w)
  refine w_aload_n (pc2 := 1) rfl rfl rfl ?_
  refine j_cIv (pc2 := 4) (k := 4) (c := zt_m167) (as := [.ref 216]) (rest := []) rfl rfl rfl rfl zk_cModel.look rfl (Nat.le_of_ble_eq_true rfl) (Nat.le_of_ble_eq_true rfl) (fun w1 h1 => ok_Model_term h1) (by decide) rfl hF (fun v2 s1 hF => ?_)
  refine j_if_ne (pc2 := 7) rfl rfl hF (fun hF => ?_) (fun hF => ?_)
  · refine j_norm (l := [(0, .ref 216)]) ⟨rfl, trivial⟩ (zz_nd_of (ks := [0]) rfl (by decide)) ?_
    refine j_loop (P := fun (a3 : Unit) (s4 : ZS) => zz_wp zt_ms zt_nm zt_df (zt_X L xs) 5 zt_m166 9 [(0, .ref 216)] [] (zk b s4) (qI b w)) hF (fun a3 s4 g5 hg5 hF => ?_)
    unfold f_Model_sum_B9 at hF
    refine w_aload_n (pc2 := 10) rfl rfl rfl ?_
    refine j_cIv (pc2 := 13) (k := 0) (c := zt_m149) (as := [.ref 216]) (rest := []) rfl rfl rfl rfl zk_cModel.look rfl (Nat.le_of_ble_eq_true rfl) (Nat.le_of_ble_eq_true rfl) (fun w1 h1 => ok_Model_see h1) (by decide) rfl hF (fun v7 s6 hF => ?_)
    refine w_bipush (pc2 := 15) rfl rfl ?_
    refine j_join0 (P := fun (s8 : ZS) => zz_wp zt_ms zt_nm zt_df (zt_X L xs) 5 zt_m166 27 [(0, .ref 216)] [] (zk b s8) (qI b w)) hF (fun s8 hF => ?_) (fun k9 hk9 hF => ?_)
    · refine w_aload_n (pc2 := 28) rfl rfl rfl ?_
      refine w_getfield (pc2 := 31) rfl zk_cModel rfl rfl rfl ?_
      refine w_aload_n (pc2 := 32) rfl rfl rfl ?_
      refine j_geti (pc2 := 35) rfl zk_cModel rfl rfl rfl hF (fun v10 hF => ?_)
      refine j_baload (pc2 := 36) (n := 400) rfl rfl (by omega) (by decide) rfl hF (fun v11 hF => ?_)
      refine w_bipush (pc2 := 38) rfl rfl ?_
      refine j_join (P := fun (a13 : Int32) (s12 : ZS) => zz_wp zt_ms zt_nm zt_df (zt_X L xs) 5 zt_m166 46 [(0, .ref 216)] [.int a13] (zk b s12) (qI b w)) hF (fun a13 s12 hF => ?_) (fun k14 hk14 hF => ?_)
      · refine w_istore_n (pc2 := 47) (ls2 := [(1, .int a13), (0, .ref 216)]) rfl rfl rfl ?_
        refine w_aload_n (pc2 := 48) rfl rfl rfl ?_
        refine w_dup (pc2 := 49) rfl rfl rfl ?_
        refine j_geti (pc2 := 52) rfl zk_cModel rfl rfl rfl hF (fun v15 hF => ?_)
        refine w_iconst (pc2 := 53) rfl rfl ?_
        refine w_iadd (pc2 := 54) rfl rfl ?_
        refine j_puti (pc2 := 57) (j := 8) rfl zk_cModel rfl (Nat.le_of_ble_eq_true rfl) rfl zk_wModel_8 (by decide) rfl hF (fun s16 hF => ?_)
        refine w_aload_n (pc2 := 58) rfl rfl rfl ?_
        refine j_cIv (pc2 := 61) (k := 4) (c := zt_m167) (as := [.ref 216]) (rest := []) rfl rfl rfl rfl zk_cModel.look rfl (Nat.le_of_ble_eq_true rfl) (Nat.le_of_ble_eq_true rfl) (fun w1 h1 => ok_Model_term h1) (by decide) rfl hF (fun v18 s17 hF => ?_)
        refine j_if_ne (pc2 := 64) rfl rfl hF (fun hF => ?_) (fun hF => ?_)
        · refine w_aload_n (pc2 := 67) rfl rfl rfl ?_
          refine w_iload_n (pc2 := 68) rfl rfl rfl ?_
          refine w_iconst (pc2 := 69) rfl rfl ?_
          refine j_cVv (pc2 := 72) (k := 0) (c := zt_m170) (as := [.ref 216, .int a13, .int (0 : Int32)]) (rest := []) rfl rfl rfl rfl zk_cModel.look rfl (Nat.le_of_ble_eq_true rfl) (Nat.le_of_ble_eq_true rfl) (fun w1 h1 => ok_Model_puts h1) (by decide) rfl hF (fun s19 hF => ?_)
          refine w_goto rfl ?_
          exact j_norm (l := [(0, .ref 216)]) ⟨rfl, trivial⟩ (zz_nd_of (ks := [0]) rfl (by decide)) (hg5 () s19 hF)
        · refine w_iconst (pc2 := 65) rfl rfl ?_
          exact j_zret rfl rfl hF
      · refine j_icmp_ne (pc2 := 41) rfl rfl hF (fun hF => ?_) (fun hF => ?_)
        · refine w_iconst (pc2 := 46) rfl rfl ?_
          exact j_norm (l := [(0, .ref 216)]) ⟨rfl, trivial⟩ (zz_nd_of (ks := [0]) rfl (by decide)) (hk14 (3 : Int32) s8 hF)
        · refine w_iconst (pc2 := 42) rfl rfl ?_
          refine w_goto rfl ?_
          exact j_norm (l := [(0, .ref 216)]) ⟨rfl, trivial⟩ (zz_nd_of (ks := [0]) rfl (by decide)) (hk14 (2 : Int32) s8 hF)
    · refine j_icmp_eq (pc2 := 18) rfl rfl hF (fun hF => ?_) (fun hF => ?_)
      · exact j_norm (l := [(0, .ref 216)]) ⟨rfl, trivial⟩ (zz_nd_of (ks := [0]) rfl (by decide)) (hk9 s6 hF)
      · refine w_aload_n (pc2 := 19) rfl rfl rfl ?_
        refine j_cIv (pc2 := 22) (k := 0) (c := zt_m149) (as := [.ref 216]) (rest := []) rfl rfl rfl rfl zk_cModel.look rfl (Nat.le_of_ble_eq_true rfl) (Nat.le_of_ble_eq_true rfl) (fun w1 h1 => ok_Model_see h1) (by decide) rfl hF (fun v21 s20 hF => ?_)
        refine w_bipush (pc2 := 24) rfl rfl ?_
        refine j_icmp_ne (pc2 := 27) rfl rfl hF (fun hF => ?_) (fun hF => ?_)
        · refine w_iconst (pc2 := 76) rfl rfl ?_
          exact j_zret rfl rfl hF
        · exact j_norm (l := [(0, .ref 216)]) ⟨rfl, trivial⟩ (zz_nd_of (ks := [0]) rfl (by decide)) (hk9 s20 hF)
  · refine w_iconst (pc2 := 8) rfl rfl ?_
    exact j_zret rfl rfl hF
noncomputable def f_Model_takesWord (p1 : Int64) (s0 : ZS) : Option (Int32 × ZS) := zcl (f_Model_isWord p1 s0) (fun (v3 : Int32) (s2 : ZS) => (if ¬ v3 = 0 then zcv (f_Model_passWord s2) (fun (s4 : ZS) => zbl (1 : Int32) s4) else zbl (0 : Int32) s2))
set_option maxHeartbeats 4000000 in
set_option maxRecDepth 100000 in
theorem ok_Model_takesWord {L : Nat} {xs : Nat → Int32} {b : ZH} {p1 : Int64} {s0 : ZS} {w : Int32 × ZS} (hF : f_Model_takesWord p1 s0 = some w) : zz_ct zt_ms zt_nm zt_df (zt_X L xs) 2 zt_m172 [.ref 216, .long p1] (zk b s0) (qI b w) := by
  unfold f_Model_takesWord at hF
  change zz_wp zt_ms zt_nm zt_df (zt_X L xs) 2 zt_m172 0 [(0, .ref 216), (1, .long p1)] [] (zk b s0) (qI b w)
  refine w_aload_n (pc2 := 1) rfl rfl rfl ?_
  refine w_lload_n (pc2 := 2) rfl rfl rfl ?_
  refine j_cIv (pc2 := 5) (k := 1) (c := zt_m151) (as := [.ref 216, .long p1]) (rest := []) rfl rfl rfl rfl zk_cModel.look rfl (Nat.le_of_ble_eq_true rfl) (Nat.le_of_ble_eq_true rfl) (fun w1 h1 => ok_Model_isWord h1) (by decide) rfl hF (fun v3 s2 hF => ?_)
  refine j_if_ne (pc2 := 8) rfl rfl hF (fun hF => ?_) (fun hF => ?_)
  · refine w_aload_n (pc2 := 11) rfl rfl rfl ?_
    refine j_cVv (pc2 := 14) (k := 1) (c := zt_m156) (as := [.ref 216]) (rest := []) rfl rfl rfl rfl zk_cModel.look rfl (Nat.le_of_ble_eq_true rfl) (Nat.le_of_ble_eq_true rfl) (fun w1 h1 => ok_Model_passWord h1) (by decide) rfl hF (fun s4 hF => ?_)
    refine w_iconst (pc2 := 15) rfl rfl ?_
    exact j_zret rfl rfl hF
  · refine w_iconst (pc2 := 9) rfl rfl ?_
    exact j_zret rfl rfl hF
noncomputable def f_Model_opens (p1 : Int32) (s0 : ZS) : Option (Int32 × ZS) := zgi (s0.1 216 13) (fun (v2 : Int32) => (if ¬ v2 = (10 : Int32) then zgi (s0.1 216 13) (fun (v3 : Int32) => zwi s0 216 13 ((v3 + (1 : Int32))) (fun (s4 : ZS) => zgi (s4.1 216 16) (fun (v5 : Int32) => zwa s4 223 400 v5 p1 (fun (s6 : ZS) => zgi (s6.1 216 16) (fun (v7 : Int32) => zwi s6 216 16 ((v7 + (1 : Int32))) (fun (s8 : ZS) => zbl (1 : Int32) s8)))))) else zgi (s0.1 216 8) (fun (v9 : Int32) => zcl (f_Model_fails (2 : Int32) v9 s0) (fun (v11 : Int32) (s10 : ZS) => zbl v11 s10))))
set_option maxHeartbeats 4000000 in
set_option maxRecDepth 100000 in
theorem ok_Model_opens {L : Nat} {xs : Nat → Int32} {b : ZH} {p1 : Int32} {s0 : ZS} {w : Int32 × ZS} (hF : f_Model_opens p1 s0 = some w) : zz_ct zt_ms zt_nm zt_df (zt_X L xs) 1 zt_m175 [.ref 216, .int p1] (zk b s0) (qI b w) := by
  unfold f_Model_opens at hF
  change zz_wp zt_ms zt_nm zt_df (zt_X L xs) 1 zt_m175 0 [(0, .ref 216), (1, .int p1)] [] (zk b s0) (qI b w)
  refine w_aload_n (pc2 := 1) rfl rfl rfl ?_
  refine j_geti (pc2 := 4) rfl zk_cModel rfl rfl rfl hF (fun v2 hF => ?_)
  refine w_bipush (pc2 := 6) rfl rfl ?_
  refine j_icmp_ne (pc2 := 9) rfl rfl hF (fun hF => ?_) (fun hF => ?_)
  · refine w_aload_n (pc2 := 20) rfl rfl rfl ?_
    refine w_dup (pc2 := 21) rfl rfl rfl ?_
    refine j_geti (pc2 := 24) rfl zk_cModel rfl rfl rfl hF (fun v3 hF => ?_)
    refine w_iconst (pc2 := 25) rfl rfl ?_
    refine w_iadd (pc2 := 26) rfl rfl ?_
    refine j_puti (pc2 := 29) (j := 13) rfl zk_cModel rfl (Nat.le_of_ble_eq_true rfl) rfl zk_wModel_13 (by decide) rfl hF (fun s4 hF => ?_)
    refine w_aload_n (pc2 := 30) rfl rfl rfl ?_
    refine w_getfield (pc2 := 33) rfl zk_cModel rfl rfl rfl ?_
    refine w_aload_n (pc2 := 34) rfl rfl rfl ?_
    refine j_geti (pc2 := 37) rfl zk_cModel rfl rfl rfl hF (fun v5 hF => ?_)
    refine w_iload_n (pc2 := 38) rfl rfl rfl ?_
    refine j_iastore (pc2 := 39) (n := 400) rfl rfl (by omega) (by decide) rfl hF (fun s6 hF => ?_)
    refine w_aload_n (pc2 := 40) rfl rfl rfl ?_
    refine w_dup (pc2 := 41) rfl rfl rfl ?_
    refine j_geti (pc2 := 44) rfl zk_cModel rfl rfl rfl hF (fun v7 hF => ?_)
    refine w_iconst (pc2 := 45) rfl rfl ?_
    refine w_iadd (pc2 := 46) rfl rfl ?_
    refine j_puti (pc2 := 49) (j := 16) rfl zk_cModel rfl (Nat.le_of_ble_eq_true rfl) rfl zk_wModel_16 (by decide) rfl hF (fun s8 hF => ?_)
    refine w_iconst (pc2 := 50) rfl rfl ?_
    exact j_zret rfl rfl hF
  · refine w_aload_n (pc2 := 10) rfl rfl rfl ?_
    refine w_iconst (pc2 := 11) rfl rfl ?_
    refine w_aload_n (pc2 := 12) rfl rfl rfl ?_
    refine j_geti (pc2 := 15) rfl zk_cModel rfl rfl rfl hF (fun v9 hF => ?_)
    refine j_cIv (pc2 := 18) (k := 0) (c := zt_m153) (as := [.ref 216, .int (2 : Int32), .int v9]) (rest := []) rfl rfl rfl rfl zk_cModel.look rfl (Nat.le_of_ble_eq_true rfl) (Nat.le_of_ble_eq_true rfl) (fun w1 h1 => ok_Model_fails h1) (by decide) rfl hF (fun v11 s10 hF => ?_)
    exact j_zret rfl rfl hF
