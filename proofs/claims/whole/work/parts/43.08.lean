/-! What methods do as functions of the state, and that the small machine does so. -/
noncomputable def f_Ring_day (s0 : ZS) : Option (Int32 × ZS) := zgi (s0.1 4 0) (fun (v1 : Int32) => (if v1 = 0 then some ((-1 : Int32), s0) else zgi (s0.1 10 0) (fun (v2 : Int32) => (if v2 < (999 : Int32) then zcv (f_Hist_keep 10 s0) (fun (s3 : ZS) => zgi (s3.1 3 6) (fun (v4 : Int32) => zcv (f_Mill_under v4 s3) (fun (s5 : ZS) => zcl (f_Mill_passDay 10 s5) (fun (v7 : Int32) (s6 : ZS) => some (v7, s6))))) else some ((-1 : Int32), s0)))))
set_option maxHeartbeats 4000000 in
set_option maxRecDepth 100000 in
theorem ok_Ring_day {L : Nat} {xs : Nat → Int32} {b : ZH} {s0 : ZS} {w : Int32 × ZS} (hF : f_Ring_day s0 = some w) : zz_ct zt_ms zt_nm zt_df (zt_X L xs) 4 zt_m117 [.ref 0] (zk b s0) (qI b w) := by
  unfold f_Ring_day at hF
  change zz_wp zt_ms zt_nm zt_df (zt_X L xs) 4 zt_m117 0 [(0, .ref 0)] [] (zk b s0) (qI b w)
  refine w_aload_n (pc2 := 1) rfl rfl rfl ?_
  refine w_getfield (pc2 := 4) rfl zk_cRing rfl rfl rfl ?_
  refine w_getfield (pc2 := 7) rfl (zk_cWorld zk_w3) rfl rfl rfl ?_
  refine j_geti (pc2 := 10) rfl (zk_cSmithy zk_sm4) rfl rfl rfl hF (fun v1 hF => ?_)
  refine j_if_eq (pc2 := 13) rfl rfl hF (fun hF => ?_) (fun hF => ?_)
  · refine w_iconst (pc2 := 30) rfl rfl ?_
    exact j_iret rfl rfl hF
  · refine w_aload_n (pc2 := 14) rfl rfl rfl ?_
    refine w_getfield (pc2 := 17) rfl zk_cRing rfl rfl rfl ?_
    refine w_getfield (pc2 := 20) rfl (zk_cWorld zk_w3) rfl rfl rfl ?_
    refine j_geti (pc2 := 23) rfl (zk_cState zk_st10) rfl rfl rfl hF (fun v2 hF => ?_)
    refine w_sipush (pc2 := 26) rfl rfl ?_
    refine j_icmp_lt (pc2 := 29) rfl rfl hF (fun hF => ?_) (fun hF => ?_)
    · refine w_aload_n (pc2 := 32) rfl rfl rfl ?_
      refine w_getfield (pc2 := 35) rfl zk_cRing rfl rfl rfl ?_
      refine w_aload_n (pc2 := 36) rfl rfl rfl ?_
      refine w_getfield (pc2 := 39) rfl zk_cRing rfl rfl rfl ?_
      refine w_getfield (pc2 := 42) rfl (zk_cWorld zk_w3) rfl rfl rfl ?_
      refine j_cVv (pc2 := 45) (k := 1) (c := zt_m37) (as := [.ref 100, .ref 10]) (rest := []) rfl rfl rfl rfl zk_cHist.look rfl (Nat.le_of_ble_eq_true rfl) (Nat.le_of_ble_eq_true rfl) (fun w1 h1 => ok_Hist_keep zk_st10 h1) (by decide) rfl hF (fun s3 hF => ?_)
      refine w_aload_n (pc2 := 46) rfl rfl rfl ?_
      refine w_getfield (pc2 := 49) rfl zk_cRing rfl rfl rfl ?_
      refine w_aload_n (pc2 := 50) rfl rfl rfl ?_
      refine w_getfield (pc2 := 53) rfl zk_cRing rfl rfl rfl ?_
      refine j_geti (pc2 := 56) rfl (zk_cWorld zk_w3) rfl rfl rfl hF (fun v4 hF => ?_)
      refine j_cVv (pc2 := 59) (k := 0) (c := zt_m40) (as := [.ref 202, .int v4]) (rest := []) rfl rfl rfl rfl zk_cMill.look rfl (Nat.le_of_ble_eq_true rfl) (Nat.le_of_ble_eq_true rfl) (fun w1 h1 => ok_Mill_under h1) (by decide) rfl hF (fun s5 hF => ?_)
      refine w_aload_n (pc2 := 60) rfl rfl rfl ?_
      refine w_getfield (pc2 := 63) rfl zk_cRing rfl rfl rfl ?_
      refine w_aload_n (pc2 := 64) rfl rfl rfl ?_
      refine w_getfield (pc2 := 67) rfl zk_cRing rfl rfl rfl ?_
      refine w_getfield (pc2 := 70) rfl (zk_cWorld zk_w3) rfl rfl rfl ?_
      refine j_cIv (pc2 := 73) (k := 3) (c := zt_m41) (as := [.ref 202, .ref 10]) (rest := []) rfl rfl rfl rfl zk_cMill.look rfl (Nat.le_of_ble_eq_true rfl) (Nat.le_of_ble_eq_true rfl) (fun w1 h1 => ok_Mill_passDay zk_st10 h1) (by decide) rfl hF (fun v7 s6 hF => ?_)
      exact j_iret rfl rfl hF
    · refine w_iconst (pc2 := 30) rfl rfl ?_
      exact j_iret rfl rfl hF
noncomputable def f_Ring_say (p1 : Int32) (p2 : Int32) (s0 : ZS) : Option (Int32 × ZS) := zcl (f_World_isFree 3 p1 s0) (fun (v4 : Int32) (s3 : ZS) => (if v4 = 0 then some ((-1 : Int32), s3) else zcl (f_Smithy_hasSaying 4 p2 s3) (fun (v6 : Int32) (s5 : ZS) => (if ¬ v6 = 0 then zcv (f_Hist_keep 10 s5) (fun (s7 : ZS) => zgi (s7.1 3 6) (fun (v8 : Int32) => zcv (f_Mill_under v8 s7) (fun (s9 : ZS) => zcl (f_Mill_utter 10 p1 p2 s9) (fun (v11 : Int32) (s10 : ZS) => some (v11, s10))))) else some ((-1 : Int32), s5)))))
set_option maxHeartbeats 4000000 in
set_option maxRecDepth 100000 in
theorem ok_Ring_say {L : Nat} {xs : Nat → Int32} {b : ZH} {p1 : Int32} {p2 : Int32} {s0 : ZS} {w : Int32 × ZS} (hF : f_Ring_say p1 p2 s0 = some w) : zz_ct zt_ms zt_nm zt_df (zt_X L xs) 2 zt_m118 [.ref 0, .int p1, .int p2] (zk b s0) (qI b w) := by
  unfold f_Ring_say at hF
  change zz_wp zt_ms zt_nm zt_df (zt_X L xs) 2 zt_m118 0 [(0, .ref 0), (1, .int p1), (2, .int p2)] [] (zk b s0) (qI b w)
  refine w_aload_n (pc2 := 1) rfl rfl rfl ?_
  refine w_getfield (pc2 := 4) rfl zk_cRing rfl rfl rfl ?_
  refine w_iload_n (pc2 := 5) rfl rfl rfl ?_
  refine j_cIv (pc2 := 8) (k := 1) (c := zt_m104) (as := [.ref 3, .int p1]) (rest := []) rfl rfl rfl rfl (zk_cWorld zk_w3).look rfl (Nat.le_of_ble_eq_true rfl) (Nat.le_of_ble_eq_true rfl) (fun w1 h1 => ok_World_isFree zk_w3 h1) (by decide) rfl hF (fun v4 s3 hF => ?_)
  refine j_if_eq (pc2 := 11) rfl rfl hF (fun hF => ?_) (fun hF => ?_)
  · refine w_iconst (pc2 := 26) rfl rfl ?_
    exact j_iret rfl rfl hF
  · refine w_aload_n (pc2 := 12) rfl rfl rfl ?_
    refine w_getfield (pc2 := 15) rfl zk_cRing rfl rfl rfl ?_
    refine w_getfield (pc2 := 18) rfl (zk_cWorld zk_w3) rfl rfl rfl ?_
    refine w_iload_n (pc2 := 19) rfl rfl rfl ?_
    refine j_cIv (pc2 := 22) (k := 0) (c := zt_m78) (as := [.ref 4, .int p2]) (rest := []) rfl rfl rfl rfl (zk_cSmithy zk_sm4).look rfl (Nat.le_of_ble_eq_true rfl) (Nat.le_of_ble_eq_true rfl) (fun w1 h1 => ok_Smithy_hasSaying zk_sm4 h1) (by decide) rfl hF (fun v6 s5 hF => ?_)
    refine j_if_ne (pc2 := 25) rfl rfl hF (fun hF => ?_) (fun hF => ?_)
    · refine w_aload_n (pc2 := 28) rfl rfl rfl ?_
      refine w_getfield (pc2 := 31) rfl zk_cRing rfl rfl rfl ?_
      refine w_aload_n (pc2 := 32) rfl rfl rfl ?_
      refine w_getfield (pc2 := 35) rfl zk_cRing rfl rfl rfl ?_
      refine w_getfield (pc2 := 38) rfl (zk_cWorld zk_w3) rfl rfl rfl ?_
      refine j_cVv (pc2 := 41) (k := 1) (c := zt_m37) (as := [.ref 100, .ref 10]) (rest := []) rfl rfl rfl rfl zk_cHist.look rfl (Nat.le_of_ble_eq_true rfl) (Nat.le_of_ble_eq_true rfl) (fun w1 h1 => ok_Hist_keep zk_st10 h1) (by decide) rfl hF (fun s7 hF => ?_)
      refine w_aload_n (pc2 := 42) rfl rfl rfl ?_
      refine w_getfield (pc2 := 45) rfl zk_cRing rfl rfl rfl ?_
      refine w_aload_n (pc2 := 46) rfl rfl rfl ?_
      refine w_getfield (pc2 := 49) rfl zk_cRing rfl rfl rfl ?_
      refine j_geti (pc2 := 52) rfl (zk_cWorld zk_w3) rfl rfl rfl hF (fun v8 hF => ?_)
      refine j_cVv (pc2 := 55) (k := 0) (c := zt_m40) (as := [.ref 202, .int v8]) (rest := []) rfl rfl rfl rfl zk_cMill.look rfl (Nat.le_of_ble_eq_true rfl) (Nat.le_of_ble_eq_true rfl) (fun w1 h1 => ok_Mill_under h1) (by decide) rfl hF (fun s9 hF => ?_)
      refine w_aload_n (pc2 := 56) rfl rfl rfl ?_
      refine w_getfield (pc2 := 59) rfl zk_cRing rfl rfl rfl ?_
      refine w_aload_n (pc2 := 60) rfl rfl rfl ?_
      refine w_getfield (pc2 := 63) rfl zk_cRing rfl rfl rfl ?_
      refine w_getfield (pc2 := 66) rfl (zk_cWorld zk_w3) rfl rfl rfl ?_
      refine w_iload_n (pc2 := 67) rfl rfl rfl ?_
      refine w_iload_n (pc2 := 68) rfl rfl rfl ?_
      refine j_cIv (pc2 := 71) (k := 1) (c := zt_m45) (as := [.ref 202, .ref 10, .int p1, .int p2]) (rest := []) rfl rfl rfl rfl zk_cMill.look rfl (Nat.le_of_ble_eq_true rfl) (Nat.le_of_ble_eq_true rfl) (fun w1 h1 => ok_Mill_utter zk_st10 h1) (by decide) rfl hF (fun v11 s10 hF => ?_)
      exact j_iret rfl rfl hF
    · refine w_iconst (pc2 := 26) rfl rfl ?_
      exact j_iret rfl rfl hF
noncomputable def f_Ring_soothe (p1 : Int32) (p2 : Int32) (s0 : ZS) : Option (Int32 × ZS) := zcl (f_Smithy_hasPair 4 p1 s0) (fun (v4 : Int32) (s3 : ZS) => (if v4 = 0 then some ((-1 : Int32), s3) else (if p2 < (1 : Int32) then some ((-1 : Int32), s3) else (if (20 : Int32) < p2 then some ((-1 : Int32), s3) else zrd 5 p1 (s3.1 11) (fun (v5 : Int32) => (if p2 ≤ v5 then zcv (f_Hist_keep 10 s3) (fun (s6 : ZS) => zrd 5 p1 (s6.1 11) (fun (v7 : Int32) => zwa s6 11 5 p1 (v7 - p2) (fun (s8 : ZS) => zrd 5 p1 (s8.1 11) (fun (v9 : Int32) => some (v9, s8))))) else some ((-1 : Int32), s3)))))))
set_option maxHeartbeats 4000000 in
set_option maxRecDepth 100000 in
theorem ok_Ring_soothe {L : Nat} {xs : Nat → Int32} {b : ZH} {p1 : Int32} {p2 : Int32} {s0 : ZS} {w : Int32 × ZS} (hF : f_Ring_soothe p1 p2 s0 = some w) : zz_ct zt_ms zt_nm zt_df (zt_X L xs) 2 zt_m119 [.ref 0, .int p1, .int p2] (zk b s0) (qI b w) := by
  unfold f_Ring_soothe at hF
  change zz_wp zt_ms zt_nm zt_df (zt_X L xs) 2 zt_m119 0 [(0, .ref 0), (1, .int p1), (2, .int p2)] [] (zk b s0) (qI b w)
  refine w_aload_n (pc2 := 1) rfl rfl rfl ?_
  refine w_getfield (pc2 := 4) rfl zk_cRing rfl rfl rfl ?_
  refine w_getfield (pc2 := 7) rfl (zk_cWorld zk_w3) rfl rfl rfl ?_
  refine w_iload_n (pc2 := 8) rfl rfl rfl ?_
  refine j_cIv (pc2 := 11) (k := 0) (c := zt_m77) (as := [.ref 4, .int p1]) (rest := []) rfl rfl rfl rfl (zk_cSmithy zk_sm4).look rfl (Nat.le_of_ble_eq_true rfl) (Nat.le_of_ble_eq_true rfl) (fun w1 h1 => ok_Smithy_hasPair zk_sm4 h1) (by decide) rfl hF (fun v4 s3 hF => ?_)
  refine j_if_eq (pc2 := 14) rfl rfl hF (fun hF => ?_) (fun hF => ?_)
  · refine w_iconst (pc2 := 42) rfl rfl ?_
    exact j_iret rfl rfl hF
  · refine w_iload_n (pc2 := 15) rfl rfl rfl ?_
    refine w_iconst (pc2 := 16) rfl rfl ?_
    refine j_icmp_lt (pc2 := 19) rfl rfl hF (fun hF => ?_) (fun hF => ?_)
    · refine w_iconst (pc2 := 42) rfl rfl ?_
      exact j_iret rfl rfl hF
    · refine w_iload_n (pc2 := 20) rfl rfl rfl ?_
      refine w_bipush (pc2 := 22) rfl rfl ?_
      refine j_icmp_gt (pc2 := 25) rfl rfl hF (fun hF => ?_) (fun hF => ?_)
      · refine w_iconst (pc2 := 42) rfl rfl ?_
        exact j_iret rfl rfl hF
      · refine w_aload_n (pc2 := 26) rfl rfl rfl ?_
        refine w_getfield (pc2 := 29) rfl zk_cRing rfl rfl rfl ?_
        refine w_getfield (pc2 := 32) rfl (zk_cWorld zk_w3) rfl rfl rfl ?_
        refine w_getfield (pc2 := 35) rfl (zk_cState zk_st10) rfl rfl rfl ?_
        refine w_iload_n (pc2 := 36) rfl rfl rfl ?_
        refine j_iaload (pc2 := 37) (n := 5) rfl rfl (by omega) (by decide) rfl hF (fun v5 hF => ?_)
        refine w_iload_n (pc2 := 38) rfl rfl rfl ?_
        refine j_icmp_ge (pc2 := 41) rfl rfl hF (fun hF => ?_) (fun hF => ?_)
        · refine w_aload_n (pc2 := 44) rfl rfl rfl ?_
          refine w_getfield (pc2 := 47) rfl zk_cRing rfl rfl rfl ?_
          refine w_aload_n (pc2 := 48) rfl rfl rfl ?_
          refine w_getfield (pc2 := 51) rfl zk_cRing rfl rfl rfl ?_
          refine w_getfield (pc2 := 54) rfl (zk_cWorld zk_w3) rfl rfl rfl ?_
          refine j_cVv (pc2 := 57) (k := 1) (c := zt_m37) (as := [.ref 100, .ref 10]) (rest := []) rfl rfl rfl rfl zk_cHist.look rfl (Nat.le_of_ble_eq_true rfl) (Nat.le_of_ble_eq_true rfl) (fun w1 h1 => ok_Hist_keep zk_st10 h1) (by decide) rfl hF (fun s6 hF => ?_)
          refine w_aload_n (pc2 := 58) rfl rfl rfl ?_
          refine w_getfield (pc2 := 61) rfl zk_cRing rfl rfl rfl ?_
          refine w_getfield (pc2 := 64) rfl (zk_cWorld zk_w3) rfl rfl rfl ?_
          refine w_getfield (pc2 := 67) rfl (zk_cState zk_st10) rfl rfl rfl ?_
          refine w_iload_n (pc2 := 68) rfl rfl rfl ?_
          refine w_dup2 (pc2 := 69) rfl rfl rfl rfl ?_
          refine j_iaload (pc2 := 70) (n := 5) rfl rfl (by omega) (by decide) rfl hF (fun v7 hF => ?_)
          refine w_iload_n (pc2 := 71) rfl rfl rfl ?_
          refine w_isub (pc2 := 72) rfl rfl ?_
          refine j_iastore (pc2 := 73) (n := 5) rfl rfl (by omega) (by decide) rfl hF (fun s8 hF => ?_)
          refine w_aload_n (pc2 := 74) rfl rfl rfl ?_
          refine w_getfield (pc2 := 77) rfl zk_cRing rfl rfl rfl ?_
          refine w_getfield (pc2 := 80) rfl (zk_cWorld zk_w3) rfl rfl rfl ?_
          refine w_getfield (pc2 := 83) rfl (zk_cState zk_st10) rfl rfl rfl ?_
          refine w_iload_n (pc2 := 84) rfl rfl rfl ?_
          refine j_iaload (pc2 := 85) (n := 5) rfl rfl (by omega) (by decide) rfl hF (fun v9 hF => ?_)
          exact j_iret rfl rfl hF
        · refine w_iconst (pc2 := 42) rfl rfl ?_
          exact j_iret rfl rfl hF
noncomputable def f_Ring_door (s0 : ZS) : Option (Int32 × ZS) := zcl (f_Smithy_everyPair 4 s0) (fun (v2 : Int32) (s1 : ZS) => zcl (f_State_banded 10 s1) (fun (v4 : Int32) (s3 : ZS) => (if ¬ v2 = v4 then zcv (f_Hist_keep 10 s3) (fun (s5 : ZS) => zcl (f_Mill_openDoor 10 s5) (fun (v7 : Int32) (s6 : ZS) => some (v7, s6))) else some ((-1 : Int32), s3))))
set_option maxHeartbeats 4000000 in
set_option maxRecDepth 100000 in
theorem ok_Ring_door {L : Nat} {xs : Nat → Int32} {b : ZH} {s0 : ZS} {w : Int32 × ZS} (hF : f_Ring_door s0 = some w) : zz_ct zt_ms zt_nm zt_df (zt_X L xs) 2 zt_m120 [.ref 0] (zk b s0) (qI b w) := by
  unfold f_Ring_door at hF
  change zz_wp zt_ms zt_nm zt_df (zt_X L xs) 2 zt_m120 0 [(0, .ref 0)] [] (zk b s0) (qI b w)
  refine w_aload_n (pc2 := 1) rfl rfl rfl ?_
  refine w_getfield (pc2 := 4) rfl zk_cRing rfl rfl rfl ?_
  refine w_getfield (pc2 := 7) rfl (zk_cWorld zk_w3) rfl rfl rfl ?_
  refine j_cIv (pc2 := 10) (k := 0) (c := zt_m82) (as := [.ref 4]) (rest := []) rfl rfl rfl rfl (zk_cSmithy zk_sm4).look rfl (Nat.le_of_ble_eq_true rfl) (Nat.le_of_ble_eq_true rfl) (fun w1 h1 => ok_Smithy_everyPair zk_sm4 h1) (by decide) rfl hF (fun v2 s1 hF => ?_)
  refine w_aload_n (pc2 := 11) rfl rfl rfl ?_
  refine w_getfield (pc2 := 14) rfl zk_cRing rfl rfl rfl ?_
  refine w_getfield (pc2 := 17) rfl (zk_cWorld zk_w3) rfl rfl rfl ?_
  refine j_cIv (pc2 := 20) (k := 0) (c := zt_m85) (as := [.ref 10]) (rest := [.int v2]) rfl rfl rfl rfl (zk_cState zk_st10).look rfl (Nat.le_of_ble_eq_true rfl) (Nat.le_of_ble_eq_true rfl) (fun w1 h1 => ok_State_banded zk_st10 h1) (by decide) rfl hF (fun v4 s3 hF => ?_)
  refine j_icmp_ne (pc2 := 23) rfl rfl hF (fun hF => ?_) (fun hF => ?_)
  · refine w_aload_n (pc2 := 26) rfl rfl rfl ?_
    refine w_getfield (pc2 := 29) rfl zk_cRing rfl rfl rfl ?_
    refine w_aload_n (pc2 := 30) rfl rfl rfl ?_
    refine w_getfield (pc2 := 33) rfl zk_cRing rfl rfl rfl ?_
    refine w_getfield (pc2 := 36) rfl (zk_cWorld zk_w3) rfl rfl rfl ?_
    refine j_cVv (pc2 := 39) (k := 1) (c := zt_m37) (as := [.ref 100, .ref 10]) (rest := []) rfl rfl rfl rfl zk_cHist.look rfl (Nat.le_of_ble_eq_true rfl) (Nat.le_of_ble_eq_true rfl) (fun w1 h1 => ok_Hist_keep zk_st10 h1) (by decide) rfl hF (fun s5 hF => ?_)
    refine w_aload_n (pc2 := 40) rfl rfl rfl ?_
    refine w_getfield (pc2 := 43) rfl zk_cRing rfl rfl rfl ?_
    refine w_aload_n (pc2 := 44) rfl rfl rfl ?_
    refine w_getfield (pc2 := 47) rfl zk_cRing rfl rfl rfl ?_
    refine w_getfield (pc2 := 50) rfl (zk_cWorld zk_w3) rfl rfl rfl ?_
    refine j_cIv (pc2 := 53) (k := 1) (c := zt_m48) (as := [.ref 202, .ref 10]) (rest := []) rfl rfl rfl rfl zk_cMill.look rfl (Nat.le_of_ble_eq_true rfl) (Nat.le_of_ble_eq_true rfl) (fun w1 h1 => ok_Mill_openDoor zk_st10 h1) (by decide) rfl hF (fun v7 s6 hF => ?_)
    exact j_iret rfl rfl hF
  · refine w_iconst (pc2 := 24) rfl rfl ?_
    exact j_iret rfl rfl hF
noncomputable def f_Ring_undo (s0 : ZS) : Option (Int32 × ZS) := zgi (s0.1 100 2) (fun (v1 : Int32) => (if ¬ v1 = 0 then zcv (f_Hist_takeBack 10 s0) (fun (s2 : ZS) => zgi (s2.1 100 2) (fun (v3 : Int32) => some (v3, s2))) else some ((-1 : Int32), s0)))
set_option maxHeartbeats 4000000 in
set_option maxRecDepth 100000 in
theorem ok_Ring_undo {L : Nat} {xs : Nat → Int32} {b : ZH} {s0 : ZS} {w : Int32 × ZS} (hF : f_Ring_undo s0 = some w) : zz_ct zt_ms zt_nm zt_df (zt_X L xs) 2 zt_m121 [.ref 0] (zk b s0) (qI b w) := by
  unfold f_Ring_undo at hF
  change zz_wp zt_ms zt_nm zt_df (zt_X L xs) 2 zt_m121 0 [(0, .ref 0)] [] (zk b s0) (qI b w)
  refine w_aload_n (pc2 := 1) rfl rfl rfl ?_
  refine w_getfield (pc2 := 4) rfl zk_cRing rfl rfl rfl ?_
  refine j_geti (pc2 := 7) rfl zk_cHist rfl rfl rfl hF (fun v1 hF => ?_)
  refine j_if_ne (pc2 := 10) rfl rfl hF (fun hF => ?_) (fun hF => ?_)
  · refine w_aload_n (pc2 := 13) rfl rfl rfl ?_
    refine w_getfield (pc2 := 16) rfl zk_cRing rfl rfl rfl ?_
    refine w_aload_n (pc2 := 17) rfl rfl rfl ?_
    refine w_getfield (pc2 := 20) rfl zk_cRing rfl rfl rfl ?_
    refine w_getfield (pc2 := 23) rfl (zk_cWorld zk_w3) rfl rfl rfl ?_
    refine j_cVv (pc2 := 26) (k := 1) (c := zt_m38) (as := [.ref 100, .ref 10]) (rest := []) rfl rfl rfl rfl zk_cHist.look rfl (Nat.le_of_ble_eq_true rfl) (Nat.le_of_ble_eq_true rfl) (fun w1 h1 => ok_Hist_takeBack zk_st10 h1) (by decide) rfl hF (fun s2 hF => ?_)
    refine w_aload_n (pc2 := 27) rfl rfl rfl ?_
    refine w_getfield (pc2 := 30) rfl zk_cRing rfl rfl rfl ?_
    refine j_geti (pc2 := 33) rfl zk_cHist rfl rfl rfl hF (fun v3 hF => ?_)
    exact j_iret rfl rfl hF
  · refine w_iconst (pc2 := 11) rfl rfl ?_
    exact j_iret rfl rfl hF
noncomputable def f_Ring_ahead (p1 : Int32) (p2 : Int32) (p3 : Int32) (s0 : ZS) : Option (Int32 × ZS) := zgi (s0.1 4 0) (fun (v4 : Int32) => (if v4 = 0 then some ((-1 : Int32), s0) else (if p2 < 0 then some ((-1 : Int32), s0) else (if (100 : Int32) < p2 then some ((-1 : Int32), s0) else (if p3 < 0 then some ((-1 : Int32), s0) else (if p3 ≤ (2 : Int32) then (if ¬ p3 = (2 : Int32) then zcl (f_Smithy_hasPair 4 p1 s0) (fun (v6 : Int32) (s5 : ZS) => (if ¬ v6 = 0 then zcv (f_Fore_later p2 s5) (fun (s7 : ZS) => (if ¬ p3 = 0 then zrd 5 p1 (s7.1 209) (fun (v8 : Int32) => some (v8, s7)) else zrd 5 p1 (s7.1 208) (fun (v9 : Int32) => some (v9, s7)))) else some ((-1 : Int32), s5))) else zcv (f_Fore_later p2 s0) (fun (s10 : ZS) => zgi (s10.1 207 1) (fun (v11 : Int32) => some (v11, s10)))) else some ((-1 : Int32), s0)))))))
set_option maxHeartbeats 4000000 in
set_option maxRecDepth 100000 in
theorem ok_Ring_ahead {L : Nat} {xs : Nat → Int32} {b : ZH} {p1 : Int32} {p2 : Int32} {p3 : Int32} {s0 : ZS} {w : Int32 × ZS} (hF : f_Ring_ahead p1 p2 p3 s0 = some w) : zz_ct zt_ms zt_nm zt_df (zt_X L xs) 6 zt_m122 [.ref 0, .int p1, .int p2, .int p3] (zk b s0) (qI b w) := by
  unfold f_Ring_ahead at hF
  change zz_wp zt_ms zt_nm zt_df (zt_X L xs) 6 zt_m122 0 [(0, .ref 0), (1, .int p1), (2, .int p2), (3, .int p3)] [] (zk b s0) (qI b w)
  refine w_aload_n (pc2 := 1) rfl rfl rfl ?_
  refine w_getfield (pc2 := 4) rfl zk_cRing rfl rfl rfl ?_
  refine w_getfield (pc2 := 7) rfl (zk_cWorld zk_w3) rfl rfl rfl ?_
  refine j_geti (pc2 := 10) rfl (zk_cSmithy zk_sm4) rfl rfl rfl hF (fun v4 hF => ?_)
  refine j_if_eq (pc2 := 13) rfl rfl hF (fun hF => ?_) (fun hF => ?_)
  · refine w_iconst (pc2 := 33) rfl rfl ?_
    exact j_iret rfl rfl hF
  · refine w_iload_n (pc2 := 14) rfl rfl rfl ?_
    refine j_if_lt (pc2 := 17) rfl rfl hF (fun hF => ?_) (fun hF => ?_)
    · refine w_iconst (pc2 := 33) rfl rfl ?_
      exact j_iret rfl rfl hF
    · refine w_iload_n (pc2 := 18) rfl rfl rfl ?_
      refine w_bipush (pc2 := 20) rfl rfl ?_
      refine j_icmp_gt (pc2 := 23) rfl rfl hF (fun hF => ?_) (fun hF => ?_)
      · refine w_iconst (pc2 := 33) rfl rfl ?_
        exact j_iret rfl rfl hF
      · refine w_iload_n (pc2 := 24) rfl rfl rfl ?_
        refine j_if_lt (pc2 := 27) rfl rfl hF (fun hF => ?_) (fun hF => ?_)
        · refine w_iconst (pc2 := 33) rfl rfl ?_
          exact j_iret rfl rfl hF
        · refine w_iload_n (pc2 := 28) rfl rfl rfl ?_
          refine w_iconst (pc2 := 29) rfl rfl ?_
          refine j_icmp_le (pc2 := 32) rfl rfl hF (fun hF => ?_) (fun hF => ?_)
          · refine w_iload_n (pc2 := 35) rfl rfl rfl ?_
            refine w_iconst (pc2 := 36) rfl rfl ?_
            refine j_icmp_ne (pc2 := 39) rfl rfl hF (fun hF => ?_) (fun hF => ?_)
            · refine w_aload_n (pc2 := 52) rfl rfl rfl ?_
              refine w_getfield (pc2 := 55) rfl zk_cRing rfl rfl rfl ?_
              refine w_getfield (pc2 := 58) rfl (zk_cWorld zk_w3) rfl rfl rfl ?_
              refine w_iload_n (pc2 := 59) rfl rfl rfl ?_
              refine j_cIv (pc2 := 62) (k := 0) (c := zt_m77) (as := [.ref 4, .int p1]) (rest := []) rfl rfl rfl rfl (zk_cSmithy zk_sm4).look rfl (Nat.le_of_ble_eq_true rfl) (Nat.le_of_ble_eq_true rfl) (fun w1 h1 => ok_Smithy_hasPair zk_sm4 h1) (by decide) rfl hF (fun v6 s5 hF => ?_)
              refine j_if_ne (pc2 := 65) rfl rfl hF (fun hF => ?_) (fun hF => ?_)
              · refine w_aload_n (pc2 := 68) rfl rfl rfl ?_
                refine w_getfield (pc2 := 71) rfl zk_cRing rfl rfl rfl ?_
                refine w_iload_n (pc2 := 72) rfl rfl rfl ?_
                refine j_cAv (pc2 := 75) (k := 5) (c := zt_m1) (as := [.ref 206, .int p2]) (rest := []) rfl rfl rfl rfl zk_cFore.look rfl (Nat.le_of_ble_eq_true rfl) (Nat.le_of_ble_eq_true rfl) (fun w1 h1 => ok_Fore_later h1) (by decide) rfl hF (fun s7 hF => ?_)
                refine w_astore (pc2 := 77) (ls2 := [(4, .ref 207), (0, .ref 0), (1, .int p1), (2, .int p2), (3, .int p3)]) rfl rfl rfl ?_
                refine w_iload_n (pc2 := 78) rfl rfl rfl ?_
                refine j_if_ne (pc2 := 81) rfl rfl hF (fun hF => ?_) (fun hF => ?_)
                · refine w_aload (pc2 := 93) rfl rfl rfl ?_
                  refine w_getfield (pc2 := 96) rfl (zk_cState zk_st207) rfl rfl rfl ?_
                  refine w_iload_n (pc2 := 97) rfl rfl rfl ?_
                  refine j_iaload (pc2 := 98) (n := 5) rfl rfl (by omega) (by decide) rfl hF (fun v8 hF => ?_)
                  exact j_iret rfl rfl hF
                · refine w_aload (pc2 := 83) rfl rfl rfl ?_
                  refine w_getfield (pc2 := 86) rfl (zk_cState zk_st207) rfl rfl rfl ?_
                  refine w_iload_n (pc2 := 87) rfl rfl rfl ?_
                  refine j_iaload (pc2 := 88) (n := 5) rfl rfl (by omega) (by decide) rfl hF (fun v9 hF => ?_)
                  refine w_goto rfl ?_
                  exact j_iret rfl rfl hF
              · refine w_iconst (pc2 := 66) rfl rfl ?_
                exact j_iret rfl rfl hF
            · refine w_aload_n (pc2 := 40) rfl rfl rfl ?_
              refine w_getfield (pc2 := 43) rfl zk_cRing rfl rfl rfl ?_
              refine w_iload_n (pc2 := 44) rfl rfl rfl ?_
              refine j_cAv (pc2 := 47) (k := 5) (c := zt_m1) (as := [.ref 206, .int p2]) (rest := []) rfl rfl rfl rfl zk_cFore.look rfl (Nat.le_of_ble_eq_true rfl) (Nat.le_of_ble_eq_true rfl) (fun w1 h1 => ok_Fore_later h1) (by decide) rfl hF (fun s10 hF => ?_)
              refine j_geti (pc2 := 50) rfl (zk_cState zk_st207) rfl rfl rfl hF (fun v11 hF => ?_)
              exact j_iret rfl rfl hF
          · refine w_iconst (pc2 := 33) rfl rfl ?_
            exact j_iret rfl rfl hF
noncomputable def f_Ring_quarrel (p1 : Int32) (p2 : Int32) (s0 : ZS) : Option (Int32 × ZS) := zcl (f_World_isFree 3 p1 s0) (fun (v4 : Int32) (s3 : ZS) => (if v4 = 0 then some ((-1 : Int32), s3) else zcl (f_Ring_isEither p2 s3) (fun (v6 : Int32) (s5 : ZS) => (if ¬ v6 = 0 then zcl (f_Fore_nextRow p1 p2 s5) (fun (v8 : Int32) (s7 : ZS) => some (v8, s7)) else some ((-1 : Int32), s5)))))
set_option maxHeartbeats 4000000 in
set_option maxRecDepth 100000 in
theorem ok_Ring_quarrel {L : Nat} {xs : Nat → Int32} {b : ZH} {p1 : Int32} {p2 : Int32} {s0 : ZS} {w : Int32 × ZS} (hF : f_Ring_quarrel p1 p2 s0 = some w) : zz_ct zt_ms zt_nm zt_df (zt_X L xs) 5 zt_m123 [.ref 0, .int p1, .int p2] (zk b s0) (qI b w) := by
  unfold f_Ring_quarrel at hF
  change zz_wp zt_ms zt_nm zt_df (zt_X L xs) 5 zt_m123 0 [(0, .ref 0), (1, .int p1), (2, .int p2)] [] (zk b s0) (qI b w)
  refine w_aload_n (pc2 := 1) rfl rfl rfl ?_
  refine w_getfield (pc2 := 4) rfl zk_cRing rfl rfl rfl ?_
  refine w_iload_n (pc2 := 5) rfl rfl rfl ?_
  refine j_cIv (pc2 := 8) (k := 1) (c := zt_m104) (as := [.ref 3, .int p1]) (rest := []) rfl rfl rfl rfl (zk_cWorld zk_w3).look rfl (Nat.le_of_ble_eq_true rfl) (Nat.le_of_ble_eq_true rfl) (fun w1 h1 => ok_World_isFree zk_w3 h1) (by decide) rfl hF (fun v4 s3 hF => ?_)
  refine j_if_eq (pc2 := 11) rfl rfl hF (fun hF => ?_) (fun hF => ?_)
  · refine w_iconst (pc2 := 19) rfl rfl ?_
    exact j_iret rfl rfl hF
  · refine w_iload_n (pc2 := 12) rfl rfl rfl ?_
    refine j_cIs (pc2 := 15) (k := 0) (c := zt_m115) (as := [.int p2]) (rest := []) rfl rfl rfl (Nat.le_of_ble_eq_true rfl) rfl rfl (Nat.le_of_ble_eq_true rfl) (Nat.le_of_ble_eq_true rfl) (fun w1 h1 => ok_Ring_isEither h1) (by decide) rfl hF (fun v6 s5 hF => ?_)
    refine j_if_ne (pc2 := 18) rfl rfl hF (fun hF => ?_) (fun hF => ?_)
    · refine w_aload_n (pc2 := 21) rfl rfl rfl ?_
      refine w_getfield (pc2 := 24) rfl zk_cRing rfl rfl rfl ?_
      refine w_iload_n (pc2 := 25) rfl rfl rfl ?_
      refine w_iload_n (pc2 := 26) rfl rfl rfl ?_
      refine j_cIv (pc2 := 29) (k := 4) (c := zt_m4) (as := [.ref 206, .int p1, .int p2]) (rest := []) rfl rfl rfl rfl zk_cFore.look rfl (Nat.le_of_ble_eq_true rfl) (Nat.le_of_ble_eq_true rfl) (fun w1 h1 => ok_Fore_nextRow h1) (by decide) rfl hF (fun v8 s7 hF => ?_)
      exact j_iret rfl rfl hF
    · refine w_iconst (pc2 := 19) rfl rfl ?_
      exact j_iret rfl rfl hF
noncomputable def f_Ring_bring (p1 : Int32) (p2 : Int32) (p3 : Int32) (s0 : ZS) : Option (Int32 × ZS) := zcl (f_World_isFree 3 p1 s0) (fun (v5 : Int32) (s4 : ZS) => (if v5 = 0 then some ((-1 : Int32), s4) else (if p2 < (1 : Int32) then some ((-1 : Int32), s4) else (if (120 : Int32) < p2 then some ((-1 : Int32), s4) else zcl (f_Ring_isEither p3 s4) (fun (v7 : Int32) (s6 : ZS) => (if ¬ v7 = 0 then zcl (f_Hand_bringing p1 p2 p3 s6) (fun (v9 : Int32) (s8 : ZS) => some (v9, s8)) else some ((-1 : Int32), s6)))))))
set_option maxHeartbeats 4000000 in
set_option maxRecDepth 100000 in
theorem ok_Ring_bring {L : Nat} {xs : Nat → Int32} {b : ZH} {p1 : Int32} {p2 : Int32} {p3 : Int32} {s0 : ZS} {w : Int32 × ZS} (hF : f_Ring_bring p1 p2 p3 s0 = some w) : zz_ct zt_ms zt_nm zt_df (zt_X L xs) 5 zt_m124 [.ref 0, .int p1, .int p2, .int p3] (zk b s0) (qI b w) := by
  unfold f_Ring_bring at hF
  change zz_wp zt_ms zt_nm zt_df (zt_X L xs) 5 zt_m124 0 [(0, .ref 0), (1, .int p1), (2, .int p2), (3, .int p3)] [] (zk b s0) (qI b w)
  refine w_aload_n (pc2 := 1) rfl rfl rfl ?_
  refine w_getfield (pc2 := 4) rfl zk_cRing rfl rfl rfl ?_
  refine w_iload_n (pc2 := 5) rfl rfl rfl ?_
  refine j_cIv (pc2 := 8) (k := 1) (c := zt_m104) (as := [.ref 3, .int p1]) (rest := []) rfl rfl rfl rfl (zk_cWorld zk_w3).look rfl (Nat.le_of_ble_eq_true rfl) (Nat.le_of_ble_eq_true rfl) (fun w1 h1 => ok_World_isFree zk_w3 h1) (by decide) rfl hF (fun v5 s4 hF => ?_)
  refine j_if_eq (pc2 := 11) rfl rfl hF (fun hF => ?_) (fun hF => ?_)
  · refine w_iconst (pc2 := 30) rfl rfl ?_
    exact j_iret rfl rfl hF
  · refine w_iload_n (pc2 := 12) rfl rfl rfl ?_
    refine w_iconst (pc2 := 13) rfl rfl ?_
    refine j_icmp_lt (pc2 := 16) rfl rfl hF (fun hF => ?_) (fun hF => ?_)
    · refine w_iconst (pc2 := 30) rfl rfl ?_
      exact j_iret rfl rfl hF
    · refine w_iload_n (pc2 := 17) rfl rfl rfl ?_
      refine w_bipush (pc2 := 19) rfl rfl ?_
      refine j_icmp_gt (pc2 := 22) rfl rfl hF (fun hF => ?_) (fun hF => ?_)
      · refine w_iconst (pc2 := 30) rfl rfl ?_
        exact j_iret rfl rfl hF
      · refine w_iload_n (pc2 := 23) rfl rfl rfl ?_
        refine j_cIs (pc2 := 26) (k := 0) (c := zt_m115) (as := [.int p3]) (rest := []) rfl rfl rfl (Nat.le_of_ble_eq_true rfl) rfl rfl (Nat.le_of_ble_eq_true rfl) (Nat.le_of_ble_eq_true rfl) (fun w1 h1 => ok_Ring_isEither h1) (by decide) rfl hF (fun v7 s6 hF => ?_)
        refine j_if_ne (pc2 := 29) rfl rfl hF (fun hF => ?_) (fun hF => ?_)
        · refine w_aload_n (pc2 := 32) rfl rfl rfl ?_
          refine w_getfield (pc2 := 35) rfl zk_cRing rfl rfl rfl ?_
          refine w_iload_n (pc2 := 36) rfl rfl rfl ?_
          refine w_iload_n (pc2 := 37) rfl rfl rfl ?_
          refine w_iload_n (pc2 := 38) rfl rfl rfl ?_
          refine j_cIv (pc2 := 41) (k := 4) (c := zt_m20) (as := [.ref 213, .int p1, .int p2, .int p3]) (rest := []) rfl rfl rfl rfl zk_cHand.look rfl (Nat.le_of_ble_eq_true rfl) (Nat.le_of_ble_eq_true rfl) (fun w1 h1 => ok_Hand_bringing h1) (by decide) rfl hF (fun v9 s8 hF => ?_)
          exact j_iret rfl rfl hF
        · refine w_iconst (pc2 := 30) rfl rfl ?_
          exact j_iret rfl rfl hF
noncomputable def f_Ring_smooth (p1 : Int32) (s0 : ZS) : Option (Int32 × ZS) := zcl (f_Smithy_hasPair 4 p1 s0) (fun (v3 : Int32) (s2 : ZS) => (if v3 = 0 then some ((-1 : Int32), s2) else zcl (f_World_isFree 3 p1 s2) (fun (v5 : Int32) (s4 : ZS) => (if v5 = 0 then zcl (f_Hand_smoothDay p1 s4) (fun (v7 : Int32) (s6 : ZS) => some (v7, s6)) else some ((-1 : Int32), s4)))))
set_option maxHeartbeats 4000000 in
set_option maxRecDepth 100000 in
theorem ok_Ring_smooth {L : Nat} {xs : Nat → Int32} {b : ZH} {p1 : Int32} {s0 : ZS} {w : Int32 × ZS} (hF : f_Ring_smooth p1 s0 = some w) : zz_ct zt_ms zt_nm zt_df (zt_X L xs) 2 zt_m125 [.ref 0, .int p1] (zk b s0) (qI b w) := by
  unfold f_Ring_smooth at hF
  change zz_wp zt_ms zt_nm zt_df (zt_X L xs) 2 zt_m125 0 [(0, .ref 0), (1, .int p1)] [] (zk b s0) (qI b w)
  refine w_aload_n (pc2 := 1) rfl rfl rfl ?_
  refine w_getfield (pc2 := 4) rfl zk_cRing rfl rfl rfl ?_
  refine w_getfield (pc2 := 7) rfl (zk_cWorld zk_w3) rfl rfl rfl ?_
  refine w_iload_n (pc2 := 8) rfl rfl rfl ?_
  refine j_cIv (pc2 := 11) (k := 0) (c := zt_m77) (as := [.ref 4, .int p1]) (rest := []) rfl rfl rfl rfl (zk_cSmithy zk_sm4).look rfl (Nat.le_of_ble_eq_true rfl) (Nat.le_of_ble_eq_true rfl) (fun w1 h1 => ok_Smithy_hasPair zk_sm4 h1) (by decide) rfl hF (fun v3 s2 hF => ?_)
  refine j_if_eq (pc2 := 14) rfl rfl hF (fun hF => ?_) (fun hF => ?_)
  · refine w_iconst (pc2 := 26) rfl rfl ?_
    exact j_iret rfl rfl hF
  · refine w_aload_n (pc2 := 15) rfl rfl rfl ?_
    refine w_getfield (pc2 := 18) rfl zk_cRing rfl rfl rfl ?_
    refine w_iload_n (pc2 := 19) rfl rfl rfl ?_
    refine j_cIv (pc2 := 22) (k := 1) (c := zt_m104) (as := [.ref 3, .int p1]) (rest := []) rfl rfl rfl rfl (zk_cWorld zk_w3).look rfl (Nat.le_of_ble_eq_true rfl) (Nat.le_of_ble_eq_true rfl) (fun w1 h1 => ok_World_isFree zk_w3 h1) (by decide) rfl hF (fun v5 s4 hF => ?_)
    refine j_if_eq (pc2 := 25) rfl rfl hF (fun hF => ?_) (fun hF => ?_)
    · refine w_aload_n (pc2 := 28) rfl rfl rfl ?_
      refine w_getfield (pc2 := 31) rfl zk_cRing rfl rfl rfl ?_
      refine w_iload_n (pc2 := 32) rfl rfl rfl ?_
      refine j_cIv (pc2 := 35) (k := 0) (c := zt_m24) (as := [.ref 213, .int p1]) (rest := []) rfl rfl rfl rfl zk_cHand.look rfl (Nat.le_of_ble_eq_true rfl) (Nat.le_of_ble_eq_true rfl) (fun w1 h1 => ok_Hand_smoothDay h1) (by decide) rfl hF (fun v7 s6 hF => ?_)
      exact j_iret rfl rfl hF
    · refine w_iconst (pc2 := 26) rfl rfl ?_
      exact j_iret rfl rfl hF
noncomputable def f_Ring_strike (p1 : Int32) (p2 : Int32) (s0 : ZS) : Option (Int32 × ZS) := zgi (s0.1 4 0) (fun (v3 : Int32) => (if v3 = 0 then some ((-1 : Int32), s0) else (if p1 < (1 : Int32) then some ((-1 : Int32), s0) else (if (30 : Int32) < p1 then some ((-1 : Int32), s0) else zcl (f_Ring_isEither p2 s0) (fun (v5 : Int32) (s4 : ZS) => (if ¬ v5 = 0 then zcl (f_Fore_leastStruck p1 s4) (fun (v7 : Int32) (s6 : ZS) => (if ¬ p2 = 0 then some (v7, s6) else zcl (f_Int_bitCount v7 s6) (fun (v9 : Int32) (s8 : ZS) => some (v9, s8)))) else some ((-1 : Int32), s4)))))))
set_option maxHeartbeats 4000000 in
set_option maxRecDepth 100000 in
theorem ok_Ring_strike {L : Nat} {xs : Nat → Int32} {b : ZH} {p1 : Int32} {p2 : Int32} {s0 : ZS} {w : Int32 × ZS} (hF : f_Ring_strike p1 p2 s0 = some w) : zz_ct zt_ms zt_nm zt_df (zt_X L xs) 6 zt_m126 [.ref 0, .int p1, .int p2] (zk b s0) (qI b w) := by
  unfold f_Ring_strike at hF
  change zz_wp zt_ms zt_nm zt_df (zt_X L xs) 6 zt_m126 0 [(0, .ref 0), (1, .int p1), (2, .int p2)] [] (zk b s0) (qI b w)
  refine w_aload_n (pc2 := 1) rfl rfl rfl ?_
  refine w_getfield (pc2 := 4) rfl zk_cRing rfl rfl rfl ?_
  refine w_getfield (pc2 := 7) rfl (zk_cWorld zk_w3) rfl rfl rfl ?_
  refine j_geti (pc2 := 10) rfl (zk_cSmithy zk_sm4) rfl rfl rfl hF (fun v3 hF => ?_)
  refine j_if_eq (pc2 := 13) rfl rfl hF (fun hF => ?_) (fun hF => ?_)
  · refine w_iconst (pc2 := 32) rfl rfl ?_
    exact j_iret rfl rfl hF
  · refine w_iload_n (pc2 := 14) rfl rfl rfl ?_
    refine w_iconst (pc2 := 15) rfl rfl ?_
    refine j_icmp_lt (pc2 := 18) rfl rfl hF (fun hF => ?_) (fun hF => ?_)
    · refine w_iconst (pc2 := 32) rfl rfl ?_
      exact j_iret rfl rfl hF
    · refine w_iload_n (pc2 := 19) rfl rfl rfl ?_
      refine w_bipush (pc2 := 21) rfl rfl ?_
      refine j_icmp_gt (pc2 := 24) rfl rfl hF (fun hF => ?_) (fun hF => ?_)
      · refine w_iconst (pc2 := 32) rfl rfl ?_
        exact j_iret rfl rfl hF
      · refine w_iload_n (pc2 := 25) rfl rfl rfl ?_
        refine j_cIs (pc2 := 28) (k := 0) (c := zt_m115) (as := [.int p2]) (rest := []) rfl rfl rfl (Nat.le_of_ble_eq_true rfl) rfl rfl (Nat.le_of_ble_eq_true rfl) (Nat.le_of_ble_eq_true rfl) (fun w1 h1 => ok_Ring_isEither h1) (by decide) rfl hF (fun v5 s4 hF => ?_)
        refine j_if_ne (pc2 := 31) rfl rfl hF (fun hF => ?_) (fun hF => ?_)
        · refine w_aload_n (pc2 := 34) rfl rfl rfl ?_
          refine w_getfield (pc2 := 37) rfl zk_cRing rfl rfl rfl ?_
          refine w_iload_n (pc2 := 38) rfl rfl rfl ?_
          refine j_cIv (pc2 := 41) (k := 5) (c := zt_m5) (as := [.ref 206, .int p1]) (rest := []) rfl rfl rfl rfl zk_cFore.look rfl (Nat.le_of_ble_eq_true rfl) (Nat.le_of_ble_eq_true rfl) (fun w1 h1 => ok_Fore_leastStruck h1) (by decide) rfl hF (fun v7 s6 hF => ?_)
          refine w_istore_n (pc2 := 42) (ls2 := [(3, .int v7), (0, .ref 0), (1, .int p1), (2, .int p2)]) rfl rfl rfl ?_
          refine w_iload_n (pc2 := 43) rfl rfl rfl ?_
          refine j_if_ne (pc2 := 46) rfl rfl hF (fun hF => ?_) (fun hF => ?_)
          · refine w_iload_n (pc2 := 54) rfl rfl rfl ?_
            exact j_iret rfl rfl hF
          · refine w_iload_n (pc2 := 47) rfl rfl rfl ?_
            refine j_cIs (pc2 := 50) (k := 0) (c := zt_m260) (as := [.int v7]) (rest := []) rfl rfl rfl (Nat.le_of_ble_eq_true rfl) rfl rfl (Nat.le_of_ble_eq_true rfl) (Nat.le_of_ble_eq_true rfl) (fun w1 h1 => ok_Int_bitCount h1) (by decide) rfl hF (fun v9 s8 hF => ?_)
            refine w_goto rfl ?_
            exact j_iret rfl rfl hF
        · refine w_iconst (pc2 := 32) rfl rfl ?_
          exact j_iret rfl rfl hF
noncomputable def f_Ring_home (p1 : Int32) (p2 : Int32) (s0 : ZS) : Option (Int32 × ZS) := zgi (s0.1 4 0) (fun (v3 : Int32) => (if v3 = 0 then some ((-2 : Int32), s0) else (if p1 < (1 : Int32) then some ((-2 : Int32), s0) else (if (30 : Int32) < p1 then some ((-2 : Int32), s0) else zcl (f_Ring_isEither p2 s0) (fun (v5 : Int32) (s4 : ZS) => (if ¬ v5 = 0 then zcl (f_Fore_bestHome p1 p2 s4) (fun (v7 : Int32) (s6 : ZS) => some (v7, s6)) else some ((-2 : Int32), s4)))))))
set_option maxHeartbeats 4000000 in
set_option maxRecDepth 100000 in
theorem ok_Ring_home {L : Nat} {xs : Nat → Int32} {b : ZH} {p1 : Int32} {p2 : Int32} {s0 : ZS} {w : Int32 × ZS} (hF : f_Ring_home p1 p2 s0 = some w) : zz_ct zt_ms zt_nm zt_df (zt_X L xs) 6 zt_m127 [.ref 0, .int p1, .int p2] (zk b s0) (qI b w) := by
  unfold f_Ring_home at hF
  change zz_wp zt_ms zt_nm zt_df (zt_X L xs) 6 zt_m127 0 [(0, .ref 0), (1, .int p1), (2, .int p2)] [] (zk b s0) (qI b w)
  refine w_aload_n (pc2 := 1) rfl rfl rfl ?_
  refine w_getfield (pc2 := 4) rfl zk_cRing rfl rfl rfl ?_
  refine w_getfield (pc2 := 7) rfl (zk_cWorld zk_w3) rfl rfl rfl ?_
  refine j_geti (pc2 := 10) rfl (zk_cSmithy zk_sm4) rfl rfl rfl hF (fun v3 hF => ?_)
  refine j_if_eq (pc2 := 13) rfl rfl hF (fun hF => ?_) (fun hF => ?_)
  · refine w_bipush (pc2 := 33) rfl rfl ?_
    exact j_iret rfl rfl hF
  · refine w_iload_n (pc2 := 14) rfl rfl rfl ?_
    refine w_iconst (pc2 := 15) rfl rfl ?_
    refine j_icmp_lt (pc2 := 18) rfl rfl hF (fun hF => ?_) (fun hF => ?_)
    · refine w_bipush (pc2 := 33) rfl rfl ?_
      exact j_iret rfl rfl hF
    · refine w_iload_n (pc2 := 19) rfl rfl rfl ?_
      refine w_bipush (pc2 := 21) rfl rfl ?_
      refine j_icmp_gt (pc2 := 24) rfl rfl hF (fun hF => ?_) (fun hF => ?_)
      · refine w_bipush (pc2 := 33) rfl rfl ?_
        exact j_iret rfl rfl hF
      · refine w_iload_n (pc2 := 25) rfl rfl rfl ?_
        refine j_cIs (pc2 := 28) (k := 0) (c := zt_m115) (as := [.int p2]) (rest := []) rfl rfl rfl (Nat.le_of_ble_eq_true rfl) rfl rfl (Nat.le_of_ble_eq_true rfl) (Nat.le_of_ble_eq_true rfl) (fun w1 h1 => ok_Ring_isEither h1) (by decide) rfl hF (fun v5 s4 hF => ?_)
        refine j_if_ne (pc2 := 31) rfl rfl hF (fun hF => ?_) (fun hF => ?_)
        · refine w_aload_n (pc2 := 35) rfl rfl rfl ?_
          refine w_getfield (pc2 := 38) rfl zk_cRing rfl rfl rfl ?_
          refine w_iload_n (pc2 := 39) rfl rfl rfl ?_
          refine w_iload_n (pc2 := 40) rfl rfl rfl ?_
          refine j_cIv (pc2 := 43) (k := 5) (c := zt_m7) (as := [.ref 206, .int p1, .int p2]) (rest := []) rfl rfl rfl rfl zk_cFore.look rfl (Nat.le_of_ble_eq_true rfl) (Nat.le_of_ble_eq_true rfl) (fun w1 h1 => ok_Fore_bestHome h1) (by decide) rfl hF (fun v7 s6 hF => ?_)
          exact j_iret rfl rfl hF
        · refine w_bipush (pc2 := 33) rfl rfl ?_
          exact j_iret rfl rfl hF
noncomputable def f_Ring_benches (p1 : Int32) (s0 : ZS) : Option (Int32 × ZS) := zgi (s0.1 4 0) (fun (v2 : Int32) => (if v2 = 0 then some ((-3 : Int32), s0) else (if p1 < (-1 : Int32) then some ((-3 : Int32), s0) else (if p1 < (5 : Int32) then zcl (f_Hand_benching p1 s0) (fun (v4 : Int32) (s3 : ZS) => some (v4, s3)) else some ((-3 : Int32), s0)))))
set_option maxHeartbeats 4000000 in
set_option maxRecDepth 100000 in
theorem ok_Ring_benches {L : Nat} {xs : Nat → Int32} {b : ZH} {p1 : Int32} {s0 : ZS} {w : Int32 × ZS} (hF : f_Ring_benches p1 s0 = some w) : zz_ct zt_ms zt_nm zt_df (zt_X L xs) 3 zt_m128 [.ref 0, .int p1] (zk b s0) (qI b w) := by
  unfold f_Ring_benches at hF
  change zz_wp zt_ms zt_nm zt_df (zt_X L xs) 3 zt_m128 0 [(0, .ref 0), (1, .int p1)] [] (zk b s0) (qI b w)
  refine w_aload_n (pc2 := 1) rfl rfl rfl ?_
  refine w_getfield (pc2 := 4) rfl zk_cRing rfl rfl rfl ?_
  refine w_getfield (pc2 := 7) rfl (zk_cWorld zk_w3) rfl rfl rfl ?_
  refine j_geti (pc2 := 10) rfl (zk_cSmithy zk_sm4) rfl rfl rfl hF (fun v2 hF => ?_)
  refine j_if_eq (pc2 := 13) rfl rfl hF (fun hF => ?_) (fun hF => ?_)
  · refine w_bipush (pc2 := 25) rfl rfl ?_
    exact j_iret rfl rfl hF
  · refine w_iload_n (pc2 := 14) rfl rfl rfl ?_
    refine w_iconst (pc2 := 15) rfl rfl ?_
    refine j_icmp_lt (pc2 := 18) rfl rfl hF (fun hF => ?_) (fun hF => ?_)
    · refine w_bipush (pc2 := 25) rfl rfl ?_
      exact j_iret rfl rfl hF
    · refine w_iload_n (pc2 := 19) rfl rfl rfl ?_
      refine w_iconst (pc2 := 20) rfl rfl ?_
      refine j_icmp_lt (pc2 := 23) rfl rfl hF (fun hF => ?_) (fun hF => ?_)
      · refine w_aload_n (pc2 := 27) rfl rfl rfl ?_
        refine w_getfield (pc2 := 30) rfl zk_cRing rfl rfl rfl ?_
        refine w_iload_n (pc2 := 31) rfl rfl rfl ?_
        refine j_cIv (pc2 := 34) (k := 2) (c := zt_m25) (as := [.ref 213, .int p1]) (rest := []) rfl rfl rfl rfl zk_cHand.look rfl (Nat.le_of_ble_eq_true rfl) (Nat.le_of_ble_eq_true rfl) (fun w1 h1 => ok_Hand_benching h1) (by decide) rfl hF (fun v4 s3 hF => ?_)
        exact j_iret rfl rfl hF
      · refine w_bipush (pc2 := 25) rfl rfl ?_
        exact j_iret rfl rfl hF
noncomputable def f_Ring_gold (p1 : Int32) (p2 : Int32) (s0 : ZS) : Option (Int32 × ZS) := (if p1 < 0 then some ((-1 : Int32), s0) else (if (9999 : Int32) < p1 then some ((-1 : Int32), s0) else zcl (f_Smithy_hasPair 4 p2 s0) (fun (v4 : Int32) (s3 : ZS) => (if ¬ v4 = 0 then zcl (f_Hand_goldPart p1 p2 s3) (fun (v6 : Int32) (s5 : ZS) => some (v6, s5)) else some ((-1 : Int32), s3)))))
set_option maxHeartbeats 4000000 in
set_option maxRecDepth 100000 in
theorem ok_Ring_gold {L : Nat} {xs : Nat → Int32} {b : ZH} {p1 : Int32} {p2 : Int32} {s0 : ZS} {w : Int32 × ZS} (hF : f_Ring_gold p1 p2 s0 = some w) : zz_ct zt_ms zt_nm zt_df (zt_X L xs) 2 zt_m129 [.ref 0, .int p1, .int p2] (zk b s0) (qI b w) := by
  unfold f_Ring_gold at hF
  change zz_wp zt_ms zt_nm zt_df (zt_X L xs) 2 zt_m129 0 [(0, .ref 0), (1, .int p1), (2, .int p2)] [] (zk b s0) (qI b w)
  refine w_iload_n (pc2 := 1) rfl rfl rfl ?_
  refine j_if_lt (pc2 := 4) rfl rfl hF (fun hF => ?_) (fun hF => ?_)
  · refine w_iconst (pc2 := 26) rfl rfl ?_
    exact j_iret rfl rfl hF
  · refine w_iload_n (pc2 := 5) rfl rfl rfl ?_
    refine w_sipush (pc2 := 8) rfl rfl ?_
    refine j_icmp_gt (pc2 := 11) rfl rfl hF (fun hF => ?_) (fun hF => ?_)
    · refine w_iconst (pc2 := 26) rfl rfl ?_
      exact j_iret rfl rfl hF
    · refine w_aload_n (pc2 := 12) rfl rfl rfl ?_
      refine w_getfield (pc2 := 15) rfl zk_cRing rfl rfl rfl ?_
      refine w_getfield (pc2 := 18) rfl (zk_cWorld zk_w3) rfl rfl rfl ?_
      refine w_iload_n (pc2 := 19) rfl rfl rfl ?_
      refine j_cIv (pc2 := 22) (k := 0) (c := zt_m77) (as := [.ref 4, .int p2]) (rest := []) rfl rfl rfl rfl (zk_cSmithy zk_sm4).look rfl (Nat.le_of_ble_eq_true rfl) (Nat.le_of_ble_eq_true rfl) (fun w1 h1 => ok_Smithy_hasPair zk_sm4 h1) (by decide) rfl hF (fun v4 s3 hF => ?_)
      refine j_if_ne (pc2 := 25) rfl rfl hF (fun hF => ?_) (fun hF => ?_)
      · refine w_aload_n (pc2 := 28) rfl rfl rfl ?_
        refine w_getfield (pc2 := 31) rfl zk_cRing rfl rfl rfl ?_
        refine w_iload_n (pc2 := 32) rfl rfl rfl ?_
        refine w_iload_n (pc2 := 33) rfl rfl rfl ?_
        refine j_cIv (pc2 := 36) (k := 1) (c := zt_m28) (as := [.ref 213, .int p1, .int p2]) (rest := []) rfl rfl rfl rfl zk_cHand.look rfl (Nat.le_of_ble_eq_true rfl) (Nat.le_of_ble_eq_true rfl) (fun w1 h1 => ok_Hand_goldPart h1) (by decide) rfl hF (fun v6 s5 hF => ?_)
        exact j_iret rfl rfl hF
      · refine w_iconst (pc2 := 26) rfl rfl ?_
        exact j_iret rfl rfl hF
noncomputable def f_Ring_heard (p1 : Int32) (p2 : Int32) (p3 : Int32) (s0 : ZS) : Option (Int32 × ZS) := zcl (f_World_isFree 3 p1 s0) (fun (v5 : Int32) (s4 : ZS) => (if v5 = 0 then some ((-1 : Int32), s4) else zcl (f_Smithy_hasSaying 4 p2 s4) (fun (v7 : Int32) (s6 : ZS) => (if v7 = 0 then some ((-1 : Int32), s6) else zcl (f_Ring_isEither p3 s6) (fun (v9 : Int32) (s8 : ZS) => (if ¬ v9 = 0 then zcl (f_Fore_hearing p1 p2 p3 s8) (fun (v11 : Int32) (s10 : ZS) => some (v11, s10)) else some ((-1 : Int32), s8)))))))
set_option maxHeartbeats 4000000 in
set_option maxRecDepth 100000 in
theorem ok_Ring_heard {L : Nat} {xs : Nat → Int32} {b : ZH} {p1 : Int32} {p2 : Int32} {p3 : Int32} {s0 : ZS} {w : Int32 × ZS} (hF : f_Ring_heard p1 p2 p3 s0 = some w) : zz_ct zt_ms zt_nm zt_df (zt_X L xs) 3 zt_m130 [.ref 0, .int p1, .int p2, .int p3] (zk b s0) (qI b w) := by
  unfold f_Ring_heard at hF
  change zz_wp zt_ms zt_nm zt_df (zt_X L xs) 3 zt_m130 0 [(0, .ref 0), (1, .int p1), (2, .int p2), (3, .int p3)] [] (zk b s0) (qI b w)
  refine w_aload_n (pc2 := 1) rfl rfl rfl ?_
  refine w_getfield (pc2 := 4) rfl zk_cRing rfl rfl rfl ?_
  refine w_iload_n (pc2 := 5) rfl rfl rfl ?_
  refine j_cIv (pc2 := 8) (k := 1) (c := zt_m104) (as := [.ref 3, .int p1]) (rest := []) rfl rfl rfl rfl (zk_cWorld zk_w3).look rfl (Nat.le_of_ble_eq_true rfl) (Nat.le_of_ble_eq_true rfl) (fun w1 h1 => ok_World_isFree zk_w3 h1) (by decide) rfl hF (fun v5 s4 hF => ?_)
  refine j_if_eq (pc2 := 11) rfl rfl hF (fun hF => ?_) (fun hF => ?_)
  · refine w_iconst (pc2 := 33) rfl rfl ?_
    exact j_iret rfl rfl hF
  · refine w_aload_n (pc2 := 12) rfl rfl rfl ?_
    refine w_getfield (pc2 := 15) rfl zk_cRing rfl rfl rfl ?_
    refine w_getfield (pc2 := 18) rfl (zk_cWorld zk_w3) rfl rfl rfl ?_
    refine w_iload_n (pc2 := 19) rfl rfl rfl ?_
    refine j_cIv (pc2 := 22) (k := 0) (c := zt_m78) (as := [.ref 4, .int p2]) (rest := []) rfl rfl rfl rfl (zk_cSmithy zk_sm4).look rfl (Nat.le_of_ble_eq_true rfl) (Nat.le_of_ble_eq_true rfl) (fun w1 h1 => ok_Smithy_hasSaying zk_sm4 h1) (by decide) rfl hF (fun v7 s6 hF => ?_)
    refine j_if_eq (pc2 := 25) rfl rfl hF (fun hF => ?_) (fun hF => ?_)
    · refine w_iconst (pc2 := 33) rfl rfl ?_
      exact j_iret rfl rfl hF
    · refine w_iload_n (pc2 := 26) rfl rfl rfl ?_
      refine j_cIs (pc2 := 29) (k := 0) (c := zt_m115) (as := [.int p3]) (rest := []) rfl rfl rfl (Nat.le_of_ble_eq_true rfl) rfl rfl (Nat.le_of_ble_eq_true rfl) (Nat.le_of_ble_eq_true rfl) (fun w1 h1 => ok_Ring_isEither h1) (by decide) rfl hF (fun v9 s8 hF => ?_)
      refine j_if_ne (pc2 := 32) rfl rfl hF (fun hF => ?_) (fun hF => ?_)
      · refine w_aload_n (pc2 := 35) rfl rfl rfl ?_
        refine w_getfield (pc2 := 38) rfl zk_cRing rfl rfl rfl ?_
        refine w_iload_n (pc2 := 39) rfl rfl rfl ?_
        refine w_iload_n (pc2 := 40) rfl rfl rfl ?_
        refine w_iload_n (pc2 := 41) rfl rfl rfl ?_
        refine j_cIv (pc2 := 44) (k := 2) (c := zt_m8) (as := [.ref 206, .int p1, .int p2, .int p3]) (rest := []) rfl rfl rfl rfl zk_cFore.look rfl (Nat.le_of_ble_eq_true rfl) (Nat.le_of_ble_eq_true rfl) (fun w1 h1 => ok_Fore_hearing h1) (by decide) rfl hF (fun v11 s10 hF => ?_)
        exact j_iret rfl rfl hF
      · refine w_iconst (pc2 := 33) rfl rfl ?_
        exact j_iret rfl rfl hF
noncomputable def f_Ring_game (p1 : Int32) (p2 : Int32) (p3 : Int32) (s0 : ZS) : Option (Int32 × ZS) := zcl (f_World_isFree 3 p1 s0) (fun (v5 : Int32) (s4 : ZS) => (if v5 = 0 then some ((-1 : Int32), s4) else (if p2 < (1 : Int32) then some ((-1 : Int32), s4) else (if (4 : Int32) < p2 then some ((-1 : Int32), s4) else zcl (f_Ring_isEither p3 s4) (fun (v7 : Int32) (s6 : ZS) => (if ¬ v7 = 0 then zcl (f_Hand_gaming p1 p2 p3 s6) (fun (v9 : Int32) (s8 : ZS) => some (v9, s8)) else some ((-1 : Int32), s6)))))))
set_option maxHeartbeats 4000000 in
set_option maxRecDepth 100000 in
theorem ok_Ring_game {L : Nat} {xs : Nat → Int32} {b : ZH} {p1 : Int32} {p2 : Int32} {p3 : Int32} {s0 : ZS} {w : Int32 × ZS} (hF : f_Ring_game p1 p2 p3 s0 = some w) : zz_ct zt_ms zt_nm zt_df (zt_X L xs) 15 zt_m131 [.ref 0, .int p1, .int p2, .int p3] (zk b s0) (qI b w) := by
  unfold f_Ring_game at hF
  change zz_wp zt_ms zt_nm zt_df (zt_X L xs) 15 zt_m131 0 [(0, .ref 0), (1, .int p1), (2, .int p2), (3, .int p3)] [] (zk b s0) (qI b w)
  refine w_aload_n (pc2 := 1) rfl rfl rfl ?_
  refine w_getfield (pc2 := 4) rfl zk_cRing rfl rfl rfl ?_
  refine w_iload_n (pc2 := 5) rfl rfl rfl ?_
  refine j_cIv (pc2 := 8) (k := 1) (c := zt_m104) (as := [.ref 3, .int p1]) (rest := []) rfl rfl rfl rfl (zk_cWorld zk_w3).look rfl (Nat.le_of_ble_eq_true rfl) (Nat.le_of_ble_eq_true rfl) (fun w1 h1 => ok_World_isFree zk_w3 h1) (by decide) rfl hF (fun v5 s4 hF => ?_)
  refine j_if_eq (pc2 := 11) rfl rfl hF (fun hF => ?_) (fun hF => ?_)
  · refine w_iconst (pc2 := 29) rfl rfl ?_
    exact j_iret rfl rfl hF
  · refine w_iload_n (pc2 := 12) rfl rfl rfl ?_
    refine w_iconst (pc2 := 13) rfl rfl ?_
    refine j_icmp_lt (pc2 := 16) rfl rfl hF (fun hF => ?_) (fun hF => ?_)
    · refine w_iconst (pc2 := 29) rfl rfl ?_
      exact j_iret rfl rfl hF
    · refine w_iload_n (pc2 := 17) rfl rfl rfl ?_
      refine w_iconst (pc2 := 18) rfl rfl ?_
      refine j_icmp_gt (pc2 := 21) rfl rfl hF (fun hF => ?_) (fun hF => ?_)
      · refine w_iconst (pc2 := 29) rfl rfl ?_
        exact j_iret rfl rfl hF
      · refine w_iload_n (pc2 := 22) rfl rfl rfl ?_
        refine j_cIs (pc2 := 25) (k := 0) (c := zt_m115) (as := [.int p3]) (rest := []) rfl rfl rfl (Nat.le_of_ble_eq_true rfl) rfl rfl (Nat.le_of_ble_eq_true rfl) (Nat.le_of_ble_eq_true rfl) (fun w1 h1 => ok_Ring_isEither h1) (by decide) rfl hF (fun v7 s6 hF => ?_)
        refine j_if_ne (pc2 := 28) rfl rfl hF (fun hF => ?_) (fun hF => ?_)
        · refine w_aload_n (pc2 := 31) rfl rfl rfl ?_
          refine w_getfield (pc2 := 34) rfl zk_cRing rfl rfl rfl ?_
          refine w_iload_n (pc2 := 35) rfl rfl rfl ?_
          refine w_iload_n (pc2 := 36) rfl rfl rfl ?_
          refine w_iload_n (pc2 := 37) rfl rfl rfl ?_
          refine j_cIv (pc2 := 40) (k := 14) (c := zt_m29) (as := [.ref 213, .int p1, .int p2, .int p3]) (rest := []) rfl rfl rfl rfl zk_cHand.look rfl (Nat.le_of_ble_eq_true rfl) (Nat.le_of_ble_eq_true rfl) (fun w1 h1 => ok_Hand_gaming h1) (by decide) rfl hF (fun v9 s8 hF => ?_)
          exact j_iret rfl rfl hF
        · refine w_iconst (pc2 := 29) rfl rfl ?_
          exact j_iret rfl rfl hF
noncomputable def f_Ring_spark (p1 : Int32) (s0 : ZS) : Option (Int32 × ZS) := zcl (f_World_isFree 3 p1 s0) (fun (v3 : Int32) (s2 : ZS) => (if ¬ v3 = 0 then zcl (f_Hand_sparking p1 s2) (fun (v5 : Int32) (s4 : ZS) => some (v5, s4)) else some ((-1 : Int32), s2)))
set_option maxHeartbeats 4000000 in
set_option maxRecDepth 100000 in
theorem ok_Ring_spark {L : Nat} {xs : Nat → Int32} {b : ZH} {p1 : Int32} {s0 : ZS} {w : Int32 × ZS} (hF : f_Ring_spark p1 s0 = some w) : zz_ct zt_ms zt_nm zt_df (zt_X L xs) 2 zt_m132 [.ref 0, .int p1] (zk b s0) (qI b w) := by
  unfold f_Ring_spark at hF
  change zz_wp zt_ms zt_nm zt_df (zt_X L xs) 2 zt_m132 0 [(0, .ref 0), (1, .int p1)] [] (zk b s0) (qI b w)
  refine w_aload_n (pc2 := 1) rfl rfl rfl ?_
  refine w_getfield (pc2 := 4) rfl zk_cRing rfl rfl rfl ?_
  refine w_iload_n (pc2 := 5) rfl rfl rfl ?_
  refine j_cIv (pc2 := 8) (k := 1) (c := zt_m104) (as := [.ref 3, .int p1]) (rest := []) rfl rfl rfl rfl (zk_cWorld zk_w3).look rfl (Nat.le_of_ble_eq_true rfl) (Nat.le_of_ble_eq_true rfl) (fun w1 h1 => ok_World_isFree zk_w3 h1) (by decide) rfl hF (fun v3 s2 hF => ?_)
  refine j_if_ne (pc2 := 11) rfl rfl hF (fun hF => ?_) (fun hF => ?_)
  · refine w_aload_n (pc2 := 14) rfl rfl rfl ?_
    refine w_getfield (pc2 := 17) rfl zk_cRing rfl rfl rfl ?_
    refine w_iload_n (pc2 := 18) rfl rfl rfl ?_
    refine j_cIv (pc2 := 21) (k := 1) (c := zt_m34) (as := [.ref 213, .int p1]) (rest := []) rfl rfl rfl rfl zk_cHand.look rfl (Nat.le_of_ble_eq_true rfl) (Nat.le_of_ble_eq_true rfl) (fun w1 h1 => ok_Hand_sparking h1) (by decide) rfl hF (fun v5 s4 hF => ?_)
    exact j_iret rfl rfl hF
  · refine w_iconst (pc2 := 12) rfl rfl ?_
    exact j_iret rfl rfl hF
noncomputable def f_Ring_calm (p1 : Int32) (p2 : Int32) (s0 : ZS) : Option (Int32 × ZS) := zgi (s0.1 4 0) (fun (v3 : Int32) => (if v3 = 0 then some ((-2 : Int32), s0) else (if p1 < (1 : Int32) then some ((-2 : Int32), s0) else (if (30 : Int32) < p1 then some ((-2 : Int32), s0) else zcl (f_Ring_isEither p2 s0) (fun (v5 : Int32) (s4 : ZS) => (if ¬ v5 = 0 then zcl (f_Fore_bestCalm p1 p2 s4) (fun (v7 : Int32) (s6 : ZS) => some (v7, s6)) else some ((-2 : Int32), s4)))))))
set_option maxHeartbeats 4000000 in
set_option maxRecDepth 100000 in
theorem ok_Ring_calm {L : Nat} {xs : Nat → Int32} {b : ZH} {p1 : Int32} {p2 : Int32} {s0 : ZS} {w : Int32 × ZS} (hF : f_Ring_calm p1 p2 s0 = some w) : zz_ct zt_ms zt_nm zt_df (zt_X L xs) 6 zt_m133 [.ref 0, .int p1, .int p2] (zk b s0) (qI b w) := by
  unfold f_Ring_calm at hF
  change zz_wp zt_ms zt_nm zt_df (zt_X L xs) 6 zt_m133 0 [(0, .ref 0), (1, .int p1), (2, .int p2)] [] (zk b s0) (qI b w)
  refine w_aload_n (pc2 := 1) rfl rfl rfl ?_
  refine w_getfield (pc2 := 4) rfl zk_cRing rfl rfl rfl ?_
  refine w_getfield (pc2 := 7) rfl (zk_cWorld zk_w3) rfl rfl rfl ?_
  refine j_geti (pc2 := 10) rfl (zk_cSmithy zk_sm4) rfl rfl rfl hF (fun v3 hF => ?_)
  refine j_if_eq (pc2 := 13) rfl rfl hF (fun hF => ?_) (fun hF => ?_)
  · refine w_bipush (pc2 := 33) rfl rfl ?_
    exact j_iret rfl rfl hF
  · refine w_iload_n (pc2 := 14) rfl rfl rfl ?_
    refine w_iconst (pc2 := 15) rfl rfl ?_
    refine j_icmp_lt (pc2 := 18) rfl rfl hF (fun hF => ?_) (fun hF => ?_)
    · refine w_bipush (pc2 := 33) rfl rfl ?_
      exact j_iret rfl rfl hF
    · refine w_iload_n (pc2 := 19) rfl rfl rfl ?_
      refine w_bipush (pc2 := 21) rfl rfl ?_
      refine j_icmp_gt (pc2 := 24) rfl rfl hF (fun hF => ?_) (fun hF => ?_)
      · refine w_bipush (pc2 := 33) rfl rfl ?_
        exact j_iret rfl rfl hF
      · refine w_iload_n (pc2 := 25) rfl rfl rfl ?_
        refine j_cIs (pc2 := 28) (k := 0) (c := zt_m115) (as := [.int p2]) (rest := []) rfl rfl rfl (Nat.le_of_ble_eq_true rfl) rfl rfl (Nat.le_of_ble_eq_true rfl) (Nat.le_of_ble_eq_true rfl) (fun w1 h1 => ok_Ring_isEither h1) (by decide) rfl hF (fun v5 s4 hF => ?_)
        refine j_if_ne (pc2 := 31) rfl rfl hF (fun hF => ?_) (fun hF => ?_)
        · refine w_aload_n (pc2 := 35) rfl rfl rfl ?_
          refine w_getfield (pc2 := 38) rfl zk_cRing rfl rfl rfl ?_
          refine w_iload_n (pc2 := 39) rfl rfl rfl ?_
          refine w_iload_n (pc2 := 40) rfl rfl rfl ?_
          refine j_cIv (pc2 := 43) (k := 5) (c := zt_m10) (as := [.ref 206, .int p1, .int p2]) (rest := []) rfl rfl rfl rfl zk_cFore.look rfl (Nat.le_of_ble_eq_true rfl) (Nat.le_of_ble_eq_true rfl) (fun w1 h1 => ok_Fore_bestCalm h1) (by decide) rfl hF (fun v7 s6 hF => ?_)
          exact j_iret rfl rfl hF
        · refine w_bipush (pc2 := 33) rfl rfl ?_
          exact j_iret rfl rfl hF
noncomputable def f_Ring_largest (p1 : Int32) (p2 : Int32) (s0 : ZS) : Option (Int32 × ZS) := zgi (s0.1 4 0) (fun (v3 : Int32) => (if v3 = 0 then some ((-1 : Int32), s0) else (if p1 < (1 : Int32) then some ((-1 : Int32), s0) else (if (60 : Int32) < p1 then some ((-1 : Int32), s0) else (if p2 < 0 then some ((-1 : Int32), s0) else (if p2 ≤ (2 : Int32) then zcl (f_Fore_largestRow p1 p2 s0) (fun (v5 : Int32) (s4 : ZS) => some (v5, s4)) else some ((-1 : Int32), s0)))))))
set_option maxHeartbeats 4000000 in
set_option maxRecDepth 100000 in
theorem ok_Ring_largest {L : Nat} {xs : Nat → Int32} {b : ZH} {p1 : Int32} {p2 : Int32} {s0 : ZS} {w : Int32 × ZS} (hF : f_Ring_largest p1 p2 s0 = some w) : zz_ct zt_ms zt_nm zt_df (zt_X L xs) 5 zt_m134 [.ref 0, .int p1, .int p2] (zk b s0) (qI b w) := by
  unfold f_Ring_largest at hF
  change zz_wp zt_ms zt_nm zt_df (zt_X L xs) 5 zt_m134 0 [(0, .ref 0), (1, .int p1), (2, .int p2)] [] (zk b s0) (qI b w)
  refine w_aload_n (pc2 := 1) rfl rfl rfl ?_
  refine w_getfield (pc2 := 4) rfl zk_cRing rfl rfl rfl ?_
  refine w_getfield (pc2 := 7) rfl (zk_cWorld zk_w3) rfl rfl rfl ?_
  refine j_geti (pc2 := 10) rfl (zk_cSmithy zk_sm4) rfl rfl rfl hF (fun v3 hF => ?_)
  refine j_if_eq (pc2 := 13) rfl rfl hF (fun hF => ?_) (fun hF => ?_)
  · refine w_iconst (pc2 := 34) rfl rfl ?_
    exact j_iret rfl rfl hF
  · refine w_iload_n (pc2 := 14) rfl rfl rfl ?_
    refine w_iconst (pc2 := 15) rfl rfl ?_
    refine j_icmp_lt (pc2 := 18) rfl rfl hF (fun hF => ?_) (fun hF => ?_)
    · refine w_iconst (pc2 := 34) rfl rfl ?_
      exact j_iret rfl rfl hF
    · refine w_iload_n (pc2 := 19) rfl rfl rfl ?_
      refine w_bipush (pc2 := 21) rfl rfl ?_
      refine j_icmp_gt (pc2 := 24) rfl rfl hF (fun hF => ?_) (fun hF => ?_)
      · refine w_iconst (pc2 := 34) rfl rfl ?_
        exact j_iret rfl rfl hF
      · refine w_iload_n (pc2 := 25) rfl rfl rfl ?_
        refine j_if_lt (pc2 := 28) rfl rfl hF (fun hF => ?_) (fun hF => ?_)
        · refine w_iconst (pc2 := 34) rfl rfl ?_
          exact j_iret rfl rfl hF
        · refine w_iload_n (pc2 := 29) rfl rfl rfl ?_
          refine w_iconst (pc2 := 30) rfl rfl ?_
          refine j_icmp_le (pc2 := 33) rfl rfl hF (fun hF => ?_) (fun hF => ?_)
          · refine w_aload_n (pc2 := 36) rfl rfl rfl ?_
            refine w_getfield (pc2 := 39) rfl zk_cRing rfl rfl rfl ?_
            refine w_iload_n (pc2 := 40) rfl rfl rfl ?_
            refine w_iload_n (pc2 := 41) rfl rfl rfl ?_
            refine j_cIv (pc2 := 44) (k := 4) (c := zt_m11) (as := [.ref 206, .int p1, .int p2]) (rest := []) rfl rfl rfl rfl zk_cFore.look rfl (Nat.le_of_ble_eq_true rfl) (Nat.le_of_ble_eq_true rfl) (fun w1 h1 => ok_Fore_largestRow h1) (by decide) rfl hF (fun v5 s4 hF => ?_)
            exact j_iret rfl rfl hF
          · refine w_iconst (pc2 := 34) rfl rfl ?_
            exact j_iret rfl rfl hF
noncomputable def f_Ring_note (p1 : Int32) (p2 : Int32) (p3 : Int32) (s0 : ZS) : Option (Int32 × ZS) := (if ¬ p1 = (-1 : Int32) then (if p1 < 0 then some ((-2 : Int32), s0) else (if (60 : Int32) < p1 then some ((-2 : Int32), s0) else zcl (f_Smithy_hasPair 4 p2 s0) (fun (v5 : Int32) (s4 : ZS) => (if v5 = 0 then some ((-2 : Int32), s4) else (if p3 < 0 then some ((-2 : Int32), s4) else (if p3 ≤ (99 : Int32) then zgi (s4.1 3 5) (fun (v6 : Int32) => (if v6 < (10 : Int32) then zcv (f_World_addNote 3 p1 p2 p3 s4) (fun (s7 : ZS) => zgi (s7.1 3 5) (fun (v8 : Int32) => some (v8, s7))) else some ((-2 : Int32), s4))) else some ((-2 : Int32), s4))))))) else zwi s0 3 5 (0 : Int32) (fun (s9 : ZS) => some ((0 : Int32), s9)))
set_option maxHeartbeats 4000000 in
set_option maxRecDepth 100000 in
theorem ok_Ring_note {L : Nat} {xs : Nat → Int32} {b : ZH} {p1 : Int32} {p2 : Int32} {p3 : Int32} {s0 : ZS} {w : Int32 × ZS} (hF : f_Ring_note p1 p2 p3 s0 = some w) : zz_ct zt_ms zt_nm zt_df (zt_X L xs) 1 zt_m135 [.ref 0, .int p1, .int p2, .int p3] (zk b s0) (qI b w) := by
  unfold f_Ring_note at hF
  change zz_wp zt_ms zt_nm zt_df (zt_X L xs) 1 zt_m135 0 [(0, .ref 0), (1, .int p1), (2, .int p2), (3, .int p3)] [] (zk b s0) (qI b w)
  refine w_iload_n (pc2 := 1) rfl rfl rfl ?_
  refine w_iconst (pc2 := 2) rfl rfl ?_
  refine j_icmp_ne (pc2 := 5) rfl rfl hF (fun hF => ?_) (fun hF => ?_)
  · refine w_iload_n (pc2 := 16) rfl rfl rfl ?_
    refine j_if_lt (pc2 := 19) rfl rfl hF (fun hF => ?_) (fun hF => ?_)
    · refine w_bipush (pc2 := 51) rfl rfl ?_
      exact j_iret rfl rfl hF
    · refine w_iload_n (pc2 := 20) rfl rfl rfl ?_
      refine w_bipush (pc2 := 22) rfl rfl ?_
      refine j_icmp_gt (pc2 := 25) rfl rfl hF (fun hF => ?_) (fun hF => ?_)
      · refine w_bipush (pc2 := 51) rfl rfl ?_
        exact j_iret rfl rfl hF
      · refine w_aload_n (pc2 := 26) rfl rfl rfl ?_
        refine w_getfield (pc2 := 29) rfl zk_cRing rfl rfl rfl ?_
        refine w_getfield (pc2 := 32) rfl (zk_cWorld zk_w3) rfl rfl rfl ?_
        refine w_iload_n (pc2 := 33) rfl rfl rfl ?_
        refine j_cIv (pc2 := 36) (k := 0) (c := zt_m77) (as := [.ref 4, .int p2]) (rest := []) rfl rfl rfl rfl (zk_cSmithy zk_sm4).look rfl (Nat.le_of_ble_eq_true rfl) (Nat.le_of_ble_eq_true rfl) (fun w1 h1 => ok_Smithy_hasPair zk_sm4 h1) (by decide) rfl hF (fun v5 s4 hF => ?_)
        refine j_if_eq (pc2 := 39) rfl rfl hF (fun hF => ?_) (fun hF => ?_)
        · refine w_bipush (pc2 := 51) rfl rfl ?_
          exact j_iret rfl rfl hF
        · refine w_iload_n (pc2 := 40) rfl rfl rfl ?_
          refine j_if_lt (pc2 := 43) rfl rfl hF (fun hF => ?_) (fun hF => ?_)
          · refine w_bipush (pc2 := 51) rfl rfl ?_
            exact j_iret rfl rfl hF
          · refine w_iload_n (pc2 := 44) rfl rfl rfl ?_
            refine w_bipush (pc2 := 46) rfl rfl ?_
            refine j_icmp_le (pc2 := 49) rfl rfl hF (fun hF => ?_) (fun hF => ?_)
            · refine w_aload_n (pc2 := 53) rfl rfl rfl ?_
              refine w_getfield (pc2 := 56) rfl zk_cRing rfl rfl rfl ?_
              refine j_geti (pc2 := 59) rfl (zk_cWorld zk_w3) rfl rfl rfl hF (fun v6 hF => ?_)
              refine w_bipush (pc2 := 61) rfl rfl ?_
              refine j_icmp_lt (pc2 := 64) rfl rfl hF (fun hF => ?_) (fun hF => ?_)
              · refine w_aload_n (pc2 := 68) rfl rfl rfl ?_
                refine w_getfield (pc2 := 71) rfl zk_cRing rfl rfl rfl ?_
                refine w_iload_n (pc2 := 72) rfl rfl rfl ?_
                refine w_iload_n (pc2 := 73) rfl rfl rfl ?_
                refine w_iload_n (pc2 := 74) rfl rfl rfl ?_
                refine j_cVv (pc2 := 77) (k := 0) (c := zt_m105) (as := [.ref 3, .int p1, .int p2, .int p3]) (rest := []) rfl rfl rfl rfl (zk_cWorld zk_w3).look rfl (Nat.le_of_ble_eq_true rfl) (Nat.le_of_ble_eq_true rfl) (fun w1 h1 => ok_World_addNote zk_w3 h1) (by decide) rfl hF (fun s7 hF => ?_)
                refine w_aload_n (pc2 := 78) rfl rfl rfl ?_
                refine w_getfield (pc2 := 81) rfl zk_cRing rfl rfl rfl ?_
                refine j_geti (pc2 := 84) rfl (zk_cWorld zk_w3) rfl rfl rfl hF (fun v8 hF => ?_)
                exact j_iret rfl rfl hF
              · refine w_bipush (pc2 := 66) rfl rfl ?_
                exact j_iret rfl rfl hF
            · refine w_bipush (pc2 := 51) rfl rfl ?_
              exact j_iret rfl rfl hF
  · refine w_aload_n (pc2 := 6) rfl rfl rfl ?_
    refine w_getfield (pc2 := 9) rfl zk_cRing rfl rfl rfl ?_
    refine w_iconst (pc2 := 10) rfl rfl ?_
    refine j_puti (pc2 := 13) (j := 5) rfl (zk_cWorld zk_w3) rfl (Nat.le_of_ble_eq_true rfl) rfl (zk_wWorld_5 zk_w3) (by decide) rfl hF (fun s9 hF => ?_)
    refine w_iconst (pc2 := 14) rfl rfl ?_
    exact j_iret rfl rfl hF
