/-! What methods do as functions of the state, and that the small machine does so. -/
noncomputable def f_Tape_pass (p1 : Int32) (s0 : ZS) : Option (ZS) := zgi (s0.1 1 2) (fun (v2 : Int32) => zgi (s0.1 1 1) (fun (v3 : Int32) => zwi s0 1 2 ((if v3 < (v2 + p1) then v3 else (v2 + p1))) (fun (s4 : ZS) => some s4)))
set_option maxHeartbeats 4000000 in
set_option maxRecDepth 100000 in
theorem ok_Tape_pass {L : Nat} {xs : Nat → Int32} {b : ZH} {p1 : Int32} {s0 : ZS} {w : ZS} (hF : f_Tape_pass p1 s0 = some w) : zz_ct zt_ms zt_nm zt_df (zt_X L xs) 0 zt_m97 [.ref 1, .int p1] (zk b s0) (qV b w) := by
  unfold f_Tape_pass at hF
  change zz_wp zt_ms zt_nm zt_df (zt_X L xs) 0 zt_m97 0 [(0, .ref 1), (1, .int p1)] [] (zk b s0) (qV b w)
  refine w_aload_n (pc2 := 1) rfl rfl rfl ?_
  refine w_aload_n (pc2 := 2) rfl rfl rfl ?_
  refine j_geti (pc2 := 5) rfl zk_cTape rfl rfl rfl hF (fun v2 hF => ?_)
  refine w_iload_n (pc2 := 6) rfl rfl rfl ?_
  refine w_iadd (pc2 := 7) rfl rfl ?_
  refine w_aload_n (pc2 := 8) rfl rfl rfl ?_
  refine j_geti (pc2 := 11) rfl zk_cTape rfl rfl rfl hF (fun v3 hF => ?_)
  refine w_min (pc2 := 14) rfl (Nat.le_of_ble_eq_true rfl) rfl ?_
  refine j_puti (pc2 := 17) (j := 2) rfl zk_cTape rfl (Nat.le_of_ble_eq_true rfl) rfl zk_wTape_2 (by decide) rfl hF (fun s4 hF => ?_)
  exact j_vret rfl rfl hF
noncomputable def f_Tape_isDigit (p1 : Int32) (s0 : ZS) : Option (Int32 × ZS) := (if p1 < (48 : Int32) then zbl (0 : Int32) s0 else (if (57 : Int32) < p1 then zbl (0 : Int32) s0 else zbl (1 : Int32) s0))
set_option maxHeartbeats 4000000 in
set_option maxRecDepth 100000 in
theorem ok_Tape_isDigit {L : Nat} {xs : Nat → Int32} {b : ZH} {p1 : Int32} {s0 : ZS} {w : Int32 × ZS} (hF : f_Tape_isDigit p1 s0 = some w) : zz_ct zt_ms zt_nm zt_df (zt_X L xs) 0 zt_m99 [.int p1] (zk b s0) (qI b w) := by
  unfold f_Tape_isDigit at hF
  change zz_wp zt_ms zt_nm zt_df (zt_X L xs) 0 zt_m99 0 [(0, .int p1)] [] (zk b s0) (qI b w)
  refine w_iload_n (pc2 := 1) rfl rfl rfl ?_
  refine w_bipush (pc2 := 3) rfl rfl ?_
  refine j_icmp_lt (pc2 := 6) rfl rfl hF (fun hF => ?_) (fun hF => ?_)
  · refine w_iconst (pc2 := 17) rfl rfl ?_
    exact j_zret rfl rfl hF
  · refine w_iload_n (pc2 := 7) rfl rfl rfl ?_
    refine w_bipush (pc2 := 9) rfl rfl ?_
    refine j_icmp_gt (pc2 := 12) rfl rfl hF (fun hF => ?_) (fun hF => ?_)
    · refine w_iconst (pc2 := 17) rfl rfl ?_
      exact j_zret rfl rfl hF
    · refine w_iconst (pc2 := 13) rfl rfl ?_
      refine w_goto rfl ?_
      exact j_zret rfl rfl hF
noncomputable def f_Tape_takeNumber_B30 (v5 : Int32) (k10 : Int32 → ZS → Option (Int32 × ZS)) (a15 : Int32) (s16 : ZS) (g17 : Int32 → ZS → Option (Int32 × ZS)) : Option (Int32 × ZS) := zgi (s16.1 1 2) (fun (v18 : Int32) => zgi (s16.1 1 1) (fun (v19 : Int32) => (if v19 ≤ v18 then k10 a15 s16 else zgi (s16.1 1 2) (fun (v20 : Int32) => zrd 400 v20 (s16.1 2) (fun (v21 : Int32) => zcl (f_Tape_isDigit v21 s16) (fun (v23 : Int32) (s22 : ZS) => (if v23 = 0 then k10 a15 s22 else zgi (s22.1 1 2) (fun (v24 : Int32) => zjn (A := Int32) (fun (a26 : Int32) (s25 : ZS) => zgi (s25.1 1 2) (fun (v28 : Int32) => zwi s25 1 2 ((v28 + (1 : Int32))) (fun (s29 : ZS) => g17 a26 s29))) (fun (k27 : Int32 → ZS → Option (Int32 × ZS)) => (if (5 : Int32) ≤ (v24 - v5) then k27 a15 s22 else zgi (s22.1 1 2) (fun (v30 : Int32) => zrd 400 v30 (s22.1 2) (fun (v31 : Int32) => k27 (((a15 * (10 : Int32)) + v31) - (48 : Int32)) s22))))))))))))
noncomputable def f_Tape_takeNumber (p1 : Int32) (p2 : Int32) (s0 : ZS) : Option (Int32 × ZS) := zcl (f_Tape_next s0) (fun (v4 : Int32) (s3 : ZS) => zgi (s3.1 1 2) (fun (v5 : Int32) => zcl (f_Tape_isDigit v4 s3) (fun (v7 : Int32) (s6 : ZS) => (if ¬ v7 = 0 then zjn (A := Int32) (fun (a9 : Int32) (s8 : ZS) => zgi (s8.1 1 2) (fun (v11 : Int32) => zj0 (fun (s12 : ZS) => zcv (f_Tape_refuse v5 (1 : Int32) s12) (fun (s14 : ZS) => some (a9, s14))) (fun (k13 : ZS → Option (Int32 × ZS)) => (if (5 : Int32) < (v11 - v5) then k13 s8 else (if a9 < p1 then k13 s8 else (if a9 ≤ p2 then some (a9, s8) else k13 s8)))))) (fun (k10 : Int32 → ZS → Option (Int32 × ZS)) => zlp zN (f_Tape_takeNumber_B30 v5 k10) (0 : Int32) s6) else zcv (f_Tape_refuse v5 (0 : Int32) s6) (fun (s32 : ZS) => some (p1, s32))))))
set_option maxHeartbeats 4000000 in
set_option maxRecDepth 100000 in
theorem ok_Tape_takeNumber {L : Nat} {xs : Nat → Int32} {b : ZH} {p1 : Int32} {p2 : Int32} {s0 : ZS} {w : Int32 × ZS} (hF : f_Tape_takeNumber p1 p2 s0 = some w) : zz_ct zt_ms zt_nm zt_df (zt_X L xs) 1 zt_m98 [.ref 1, .int p1, .int p2] (zk b s0) (qI b w) := by
  unfold f_Tape_takeNumber at hF
  change zz_wp zt_ms zt_nm zt_df (zt_X L xs) 1 zt_m98 0 [(0, .ref 1), (1, .int p1), (2, .int p2)] [] (zk b s0) (qI b w)
  refine w_aload_n (pc2 := 1) rfl rfl rfl ?_
  refine j_cIv (pc2 := 4) (k := 0) (c := zt_m93) (as := [.ref 1]) (rest := []) rfl rfl rfl rfl zk_cTape.look rfl (Nat.le_of_ble_eq_true rfl) (Nat.le_of_ble_eq_true rfl) (fun w1 h1 => ok_Tape_next h1) (by decide) rfl hF (fun v4 s3 hF => ?_)
  refine w_istore_n (pc2 := 5) (ls2 := [(3, .int v4), (0, .ref 1), (1, .int p1), (2, .int p2)]) rfl rfl rfl ?_
  refine w_aload_n (pc2 := 6) rfl rfl rfl ?_
  refine j_geti (pc2 := 9) rfl zk_cTape rfl rfl rfl hF (fun v5 hF => ?_)
  refine w_istore (pc2 := 11) (ls2 := [(4, .int v5), (3, .int v4), (0, .ref 1), (1, .int p1), (2, .int p2)]) rfl rfl rfl ?_
  refine w_iload_n (pc2 := 12) rfl rfl rfl ?_
  refine j_cIs (pc2 := 15) (k := 0) (c := zt_m99) (as := [.int v4]) (rest := []) rfl rfl rfl (Nat.le_of_ble_eq_true rfl) rfl rfl (Nat.le_of_ble_eq_true rfl) (Nat.le_of_ble_eq_true rfl) (fun w1 h1 => ok_Tape_isDigit h1) (by decide) rfl hF (fun v7 s6 hF => ?_)
  refine j_if_ne (pc2 := 18) rfl rfl hF (fun hF => ?_) (fun hF => ?_)
  · refine w_iconst (pc2 := 28) rfl rfl ?_
    refine w_istore (pc2 := 30) (ls2 := [(5, .int (0 : Int32)), (4, .int v5), (3, .int v4), (0, .ref 1), (1, .int p1), (2, .int p2)]) rfl rfl rfl ?_
    refine j_join (P := fun (a9 : Int32) (s8 : ZS) => zz_wp zt_ms zt_nm zt_df (zt_X L xs) 1 zt_m98 100 [(0, .ref 1), (1, .int p1), (2, .int p2), (4, .int v5), (5, .int a9)] [] (zk b s8) (qI b w)) hF (fun a9 s8 hF => ?_) (fun k10 hk10 hF => ?_)
    · refine w_aload_n (pc2 := 101) rfl rfl rfl ?_
      refine j_geti (pc2 := 104) rfl zk_cTape rfl rfl rfl hF (fun v11 hF => ?_)
      refine w_iload (pc2 := 106) rfl rfl rfl ?_
      refine w_isub (pc2 := 107) rfl rfl ?_
      refine w_iconst (pc2 := 108) rfl rfl ?_
      refine j_join0 (P := fun (s12 : ZS) => zz_wp zt_ms zt_nm zt_df (zt_X L xs) 1 zt_m98 123 [(0, .ref 1), (4, .int v5), (5, .int a9)] [] (zk b s12) (qI b w)) hF (fun s12 hF => ?_) (fun k13 hk13 hF => ?_)
      · refine w_aload_n (pc2 := 124) rfl rfl rfl ?_
        refine w_iload (pc2 := 126) rfl rfl rfl ?_
        refine w_iconst (pc2 := 127) rfl rfl ?_
        refine j_cVv (pc2 := 130) (k := 0) (c := zt_m96) (as := [.ref 1, .int v5, .int (1 : Int32)]) (rest := []) rfl rfl rfl rfl zk_cTape.look rfl (Nat.le_of_ble_eq_true rfl) (Nat.le_of_ble_eq_true rfl) (fun w1 h1 => ok_Tape_refuse h1) (by decide) rfl hF (fun s14 hF => ?_)
        refine w_iload (pc2 := 132) rfl rfl rfl ?_
        exact j_iret rfl rfl hF
      · refine j_icmp_gt (pc2 := 111) rfl rfl hF (fun hF => ?_) (fun hF => ?_)
        · exact j_norm (l := [(0, .ref 1), (4, .int v5), (5, .int a9)]) ⟨rfl, rfl, rfl, trivial⟩ (zz_nd_of (ks := [0, 4, 5]) rfl (by decide)) (hk13 s8 hF)
        · refine w_iload (pc2 := 113) rfl rfl rfl ?_
          refine w_iload_n (pc2 := 114) rfl rfl rfl ?_
          refine j_icmp_lt (pc2 := 117) rfl rfl hF (fun hF => ?_) (fun hF => ?_)
          · exact j_norm (l := [(0, .ref 1), (4, .int v5), (5, .int a9)]) ⟨rfl, rfl, rfl, trivial⟩ (zz_nd_of (ks := [0, 4, 5]) rfl (by decide)) (hk13 s8 hF)
          · refine w_iload (pc2 := 119) rfl rfl rfl ?_
            refine w_iload_n (pc2 := 120) rfl rfl rfl ?_
            refine j_icmp_le (pc2 := 123) rfl rfl hF (fun hF => ?_) (fun hF => ?_)
            · refine w_iload (pc2 := 132) rfl rfl rfl ?_
              exact j_iret rfl rfl hF
            · exact j_norm (l := [(0, .ref 1), (4, .int v5), (5, .int a9)]) ⟨rfl, rfl, rfl, trivial⟩ (zz_nd_of (ks := [0, 4, 5]) rfl (by decide)) (hk13 s8 hF)
    · refine j_norm (l := [(0, .ref 1), (1, .int p1), (2, .int p2), (4, .int v5), (5, .int (0 : Int32))]) ⟨rfl, rfl, rfl, rfl, rfl, trivial⟩ (zz_nd_of (ks := [0, 1, 2, 4, 5]) rfl (by decide)) ?_
      refine j_loop (P := fun (a15 : Int32) (s16 : ZS) => zz_wp zt_ms zt_nm zt_df (zt_X L xs) 1 zt_m98 30 [(0, .ref 1), (1, .int p1), (2, .int p2), (4, .int v5), (5, .int a15)] [] (zk b s16) (qI b w)) hF (fun a15 s16 g17 hg17 hF => ?_)
      unfold f_Tape_takeNumber_B30 at hF
      refine w_aload_n (pc2 := 31) rfl rfl rfl ?_
      refine j_geti (pc2 := 34) rfl zk_cTape rfl rfl rfl hF (fun v18 hF => ?_)
      refine w_aload_n (pc2 := 35) rfl rfl rfl ?_
      refine j_geti (pc2 := 38) rfl zk_cTape rfl rfl rfl hF (fun v19 hF => ?_)
      refine j_icmp_ge (pc2 := 41) rfl rfl hF (fun hF => ?_) (fun hF => ?_)
      · exact j_norm (l := [(0, .ref 1), (1, .int p1), (2, .int p2), (4, .int v5), (5, .int a15)]) ⟨rfl, rfl, rfl, rfl, rfl, trivial⟩ (zz_nd_of (ks := [0, 1, 2, 4, 5]) rfl (by decide)) (hk10 a15 s16 hF)
      · refine w_aload_n (pc2 := 42) rfl rfl rfl ?_
        refine w_getfield (pc2 := 45) rfl zk_cTape rfl rfl rfl ?_
        refine w_aload_n (pc2 := 46) rfl rfl rfl ?_
        refine j_geti (pc2 := 49) rfl zk_cTape rfl rfl rfl hF (fun v20 hF => ?_)
        refine j_baload (pc2 := 50) (n := 400) rfl rfl (by omega) (by decide) rfl hF (fun v21 hF => ?_)
        refine j_cIs (pc2 := 53) (k := 0) (c := zt_m99) (as := [.int v21]) (rest := []) rfl rfl rfl (Nat.le_of_ble_eq_true rfl) rfl rfl (Nat.le_of_ble_eq_true rfl) (Nat.le_of_ble_eq_true rfl) (fun w1 h1 => ok_Tape_isDigit h1) (by decide) rfl hF (fun v23 s22 hF => ?_)
        refine j_if_eq (pc2 := 56) rfl rfl hF (fun hF => ?_) (fun hF => ?_)
        · exact j_norm (l := [(0, .ref 1), (1, .int p1), (2, .int p2), (4, .int v5), (5, .int a15)]) ⟨rfl, rfl, rfl, rfl, rfl, trivial⟩ (zz_nd_of (ks := [0, 1, 2, 4, 5]) rfl (by decide)) (hk10 a15 s22 hF)
        · refine w_aload_n (pc2 := 57) rfl rfl rfl ?_
          refine j_geti (pc2 := 60) rfl zk_cTape rfl rfl rfl hF (fun v24 hF => ?_)
          refine w_iload (pc2 := 62) rfl rfl rfl ?_
          refine w_isub (pc2 := 63) rfl rfl ?_
          refine w_iconst (pc2 := 64) rfl rfl ?_
          refine j_join (P := fun (a26 : Int32) (s25 : ZS) => zz_wp zt_ms zt_nm zt_df (zt_X L xs) 1 zt_m98 87 [(0, .ref 1), (1, .int p1), (2, .int p2), (4, .int v5), (5, .int a26)] [] (zk b s25) (qI b w)) hF (fun a26 s25 hF => ?_) (fun k27 hk27 hF => ?_)
          · refine w_aload_n (pc2 := 88) rfl rfl rfl ?_
            refine w_dup (pc2 := 89) rfl rfl rfl ?_
            refine j_geti (pc2 := 92) rfl zk_cTape rfl rfl rfl hF (fun v28 hF => ?_)
            refine w_iconst (pc2 := 93) rfl rfl ?_
            refine w_iadd (pc2 := 94) rfl rfl ?_
            refine j_puti (pc2 := 97) (j := 2) rfl zk_cTape rfl (Nat.le_of_ble_eq_true rfl) rfl zk_wTape_2 (by decide) rfl hF (fun s29 hF => ?_)
            refine w_goto rfl ?_
            exact j_norm (l := [(0, .ref 1), (1, .int p1), (2, .int p2), (4, .int v5), (5, .int a26)]) ⟨rfl, rfl, rfl, rfl, rfl, trivial⟩ (zz_nd_of (ks := [0, 1, 2, 4, 5]) rfl (by decide)) (hg17 a26 s29 hF)
          · refine j_icmp_ge (pc2 := 67) rfl rfl hF (fun hF => ?_) (fun hF => ?_)
            · exact j_norm (l := [(0, .ref 1), (1, .int p1), (2, .int p2), (4, .int v5), (5, .int a15)]) ⟨rfl, rfl, rfl, rfl, rfl, trivial⟩ (zz_nd_of (ks := [0, 1, 2, 4, 5]) rfl (by decide)) (hk27 a15 s22 hF)
            · refine w_iload (pc2 := 69) rfl rfl rfl ?_
              refine w_bipush (pc2 := 71) rfl rfl ?_
              refine w_imul (pc2 := 72) rfl rfl ?_
              refine w_aload_n (pc2 := 73) rfl rfl rfl ?_
              refine w_getfield (pc2 := 76) rfl zk_cTape rfl rfl rfl ?_
              refine w_aload_n (pc2 := 77) rfl rfl rfl ?_
              refine j_geti (pc2 := 80) rfl zk_cTape rfl rfl rfl hF (fun v30 hF => ?_)
              refine j_baload (pc2 := 81) (n := 400) rfl rfl (by omega) (by decide) rfl hF (fun v31 hF => ?_)
              refine w_iadd (pc2 := 82) rfl rfl ?_
              refine w_bipush (pc2 := 84) rfl rfl ?_
              refine w_isub (pc2 := 85) rfl rfl ?_
              refine w_istore (pc2 := 87) (ls2 := [(5, .int ((((a15 * (10 : Int32)) + v31) - (48 : Int32)))), (0, .ref 1), (1, .int p1), (2, .int p2), (4, .int v5)]) rfl rfl rfl ?_
              exact j_norm (l := [(0, .ref 1), (1, .int p1), (2, .int p2), (4, .int v5), (5, .int ((((a15 * (10 : Int32)) + v31) - (48 : Int32))))]) ⟨rfl, rfl, rfl, rfl, rfl, trivial⟩ (zz_nd_of (ks := [0, 1, 2, 4, 5]) rfl (by decide)) (hk27 (((a15 * (10 : Int32)) + v31) - (48 : Int32)) s22 hF)
  · refine w_aload_n (pc2 := 19) rfl rfl rfl ?_
    refine w_iload (pc2 := 21) rfl rfl rfl ?_
    refine w_iconst (pc2 := 22) rfl rfl ?_
    refine j_cVv (pc2 := 25) (k := 0) (c := zt_m96) (as := [.ref 1, .int v5, .int (0 : Int32)]) (rest := []) rfl rfl rfl rfl zk_cTape.look rfl (Nat.le_of_ble_eq_true rfl) (Nat.le_of_ble_eq_true rfl) (fun w1 h1 => ok_Tape_refuse h1) (by decide) rfl hF (fun s32 hF => ?_)
    refine w_iload_n (pc2 := 26) rfl rfl rfl ?_
    exact j_iret rfl rfl hF
noncomputable def f_Reader_countPart (p1 : Int32) (s0 : ZS) : Option (ZS) := zgi (s0.1 98 4) (fun (v2 : Int32) => zwi s0 98 4 ((v2 + (1 : Int32))) (fun (s3 : ZS) => zgi (s3.1 98 4) (fun (v4 : Int32) => (if v4 ≤ (60 : Int32) then some s3 else zcv (f_Tape_refuse p1 (3 : Int32) s3) (fun (s5 : ZS) => some s5)))))
set_option maxHeartbeats 4000000 in
set_option maxRecDepth 100000 in
theorem ok_Reader_countPart {L : Nat} {xs : Nat → Int32} {b : ZH} {p1 : Int32} {s0 : ZS} {w : ZS} (hF : f_Reader_countPart p1 s0 = some w) : zz_ct zt_ms zt_nm zt_df (zt_X L xs) 1 zt_m58 [.ref 98, .int p1] (zk b s0) (qV b w) := by
  unfold f_Reader_countPart at hF
  change zz_wp zt_ms zt_nm zt_df (zt_X L xs) 1 zt_m58 0 [(0, .ref 98), (1, .int p1)] [] (zk b s0) (qV b w)
  refine w_aload_n (pc2 := 1) rfl rfl rfl ?_
  refine w_dup (pc2 := 2) rfl rfl rfl ?_
  refine j_geti (pc2 := 5) rfl zk_cReader rfl rfl rfl hF (fun v2 hF => ?_)
  refine w_iconst (pc2 := 6) rfl rfl ?_
  refine w_iadd (pc2 := 7) rfl rfl ?_
  refine j_puti (pc2 := 10) (j := 4) rfl zk_cReader rfl (Nat.le_of_ble_eq_true rfl) rfl zk_wReader_4 (by decide) rfl hF (fun s3 hF => ?_)
  refine w_aload_n (pc2 := 11) rfl rfl rfl ?_
  refine j_geti (pc2 := 14) rfl zk_cReader rfl rfl rfl hF (fun v4 hF => ?_)
  refine w_bipush (pc2 := 16) rfl rfl ?_
  refine j_icmp_le (pc2 := 19) rfl rfl hF (fun hF => ?_) (fun hF => ?_)
  · exact j_vret rfl rfl hF
  · refine w_aload_n (pc2 := 20) rfl rfl rfl ?_
    refine w_getfield (pc2 := 23) rfl zk_cReader rfl rfl rfl ?_
    refine w_iload_n (pc2 := 24) rfl rfl rfl ?_
    refine w_iconst (pc2 := 25) rfl rfl ?_
    refine j_cVv (pc2 := 28) (k := 0) (c := zt_m96) (as := [.ref 1, .int p1, .int (3 : Int32)]) (rest := []) rfl rfl rfl rfl zk_cTape.look rfl (Nat.le_of_ble_eq_true rfl) (Nat.le_of_ble_eq_true rfl) (fun w1 h1 => ok_Tape_refuse h1) (by decide) rfl hF (fun s5 hF => ?_)
    exact j_vret rfl rfl hF
noncomputable def f_Reader_takeValue (o1 : Nat) (p2 : Int32) (s0 : ZS) : Option (ZS) := zgi (s0.1 1 2) (fun (v3 : Int32) => zcl (f_Tape_isDigit p2 s0) (fun (v5 : Int32) (s4 : ZS) => zj0 (fun (s6 : ZS) => zcv (f_Reader_countPart v3 s6) (fun (s8 : ZS) => zwi s8 98 6 (2 : Int32) (fun (s9 : ZS) => some s9))) (fun (k7 : ZS → Option (ZS)) => (if v5 = 0 then zcl (f_Tape_wordAmong 1000012 s4) (fun (v11 : Int32) (s10 : ZS) => (if ¬ v11 = (-1 : Int32) then zcl (f_Tape_wordSize s10) (fun (v13 : Int32) (s12 : ZS) => zcv (f_Tape_pass v13 s12) (fun (s14 : ZS) => zcv (f_Rule_add o1 (1 : Int32) v11 s14) (fun (s15 : ZS) => k7 s15))) else zcv (f_Tape_refuse v3 (0 : Int32) s10) (fun (s16 : ZS) => some s16))) else zcl (f_Tape_takeNumber (0 : Int32) (99999 : Int32) s4) (fun (v18 : Int32) (s17 : ZS) => zcv (f_Rule_add o1 (0 : Int32) v18 s17) (fun (s19 : ZS) => k7 s19))))))
set_option maxHeartbeats 4000000 in
set_option maxRecDepth 100000 in
theorem ok_Reader_takeValue {L : Nat} {xs : Nat → Int32} {b : ZH} {o1 : Nat} {p2 : Int32} (ho1 : zk_isRule o1) {s0 : ZS} {w : ZS} (hF : f_Reader_takeValue o1 p2 s0 = some w) : zz_ct zt_ms zt_nm zt_df (zt_X L xs) 6 zt_m57 [.ref 98, .ref o1, .int p2] (zk b s0) (qV b w) := by
  unfold f_Reader_takeValue at hF
  change zz_wp zt_ms zt_nm zt_df (zt_X L xs) 6 zt_m57 0 [(0, .ref 98), (1, .ref o1), (2, .int p2)] [] (zk b s0) (qV b w)
  refine w_aload_n (pc2 := 1) rfl rfl rfl ?_
  refine w_getfield (pc2 := 4) rfl zk_cReader rfl rfl rfl ?_
  refine j_geti (pc2 := 7) rfl zk_cTape rfl rfl rfl hF (fun v3 hF => ?_)
  refine w_istore_n (pc2 := 8) (ls2 := [(3, .int v3), (0, .ref 98), (1, .ref o1), (2, .int p2)]) rfl rfl rfl ?_
  refine w_iload_n (pc2 := 9) rfl rfl rfl ?_
  refine j_cIs (pc2 := 12) (k := 0) (c := zt_m99) (as := [.int p2]) (rest := []) rfl rfl rfl (Nat.le_of_ble_eq_true rfl) rfl rfl (Nat.le_of_ble_eq_true rfl) (Nat.le_of_ble_eq_true rfl) (fun w1 h1 => ok_Tape_isDigit h1) (by decide) rfl hF (fun v5 s4 hF => ?_)
  refine j_join0 (P := fun (s6 : ZS) => zz_wp zt_ms zt_nm zt_df (zt_X L xs) 6 zt_m57 81 [(0, .ref 98), (3, .int v3)] [] (zk b s6) (qV b w)) hF (fun s6 hF => ?_) (fun k7 hk7 hF => ?_)
  · refine w_aload_n (pc2 := 82) rfl rfl rfl ?_
    refine w_iload_n (pc2 := 83) rfl rfl rfl ?_
    refine j_cVv (pc2 := 86) (k := 1) (c := zt_m58) (as := [.ref 98, .int v3]) (rest := []) rfl rfl rfl rfl zk_cReader.look rfl (Nat.le_of_ble_eq_true rfl) (Nat.le_of_ble_eq_true rfl) (fun w1 h1 => ok_Reader_countPart h1) (by decide) rfl hF (fun s8 hF => ?_)
    refine w_aload_n (pc2 := 87) rfl rfl rfl ?_
    refine w_iconst (pc2 := 88) rfl rfl ?_
    refine j_puti (pc2 := 91) (j := 6) rfl zk_cReader rfl (Nat.le_of_ble_eq_true rfl) rfl zk_wReader_6 (by decide) rfl hF (fun s9 hF => ?_)
    exact j_vret rfl rfl hF
  · refine j_if_eq (pc2 := 15) rfl rfl hF (fun hF => ?_) (fun hF => ?_)
    · refine w_aload_n (pc2 := 34) rfl rfl rfl ?_
      refine w_getfield (pc2 := 37) rfl zk_cReader rfl rfl rfl ?_
      refine w_ldc (pc2 := 39) rfl rfl ?_
      refine j_cIv (pc2 := 42) (k := 5) (c := zt_m92) (as := [.ref 1, .ref 1000012]) (rest := []) rfl rfl rfl rfl zk_cTape.look rfl (Nat.le_of_ble_eq_true rfl) (Nat.le_of_ble_eq_true rfl) (fun w1 h1 => ok_Tape_wordAmong zk_str2 h1) (by decide) rfl hF (fun v11 s10 hF => ?_)
      refine w_istore (pc2 := 44) (ls2 := [(4, .int v11), (3, .int v3), (0, .ref 98), (1, .ref o1), (2, .int p2)]) rfl rfl rfl ?_
      refine w_iload (pc2 := 46) rfl rfl rfl ?_
      refine w_iconst (pc2 := 47) rfl rfl ?_
      refine j_icmp_ne (pc2 := 50) rfl rfl hF (fun hF => ?_) (fun hF => ?_)
      · refine w_aload_n (pc2 := 61) rfl rfl rfl ?_
        refine w_getfield (pc2 := 64) rfl zk_cReader rfl rfl rfl ?_
        refine w_aload_n (pc2 := 65) rfl rfl rfl ?_
        refine w_getfield (pc2 := 68) rfl zk_cReader rfl rfl rfl ?_
        refine j_cIv (pc2 := 71) (k := 0) (c := zt_m94) (as := [.ref 1]) (rest := [.ref 1]) rfl rfl rfl rfl zk_cTape.look rfl (Nat.le_of_ble_eq_true rfl) (Nat.le_of_ble_eq_true rfl) (fun w1 h1 => ok_Tape_wordSize h1) (by decide) rfl hF (fun v13 s12 hF => ?_)
        refine j_cVv (pc2 := 74) (k := 0) (c := zt_m97) (as := [.ref 1, .int v13]) (rest := []) rfl rfl rfl rfl zk_cTape.look rfl (Nat.le_of_ble_eq_true rfl) (Nat.le_of_ble_eq_true rfl) (fun w1 h1 => ok_Tape_pass h1) (by decide) rfl hF (fun s14 hF => ?_)
        refine w_aload_n (pc2 := 75) rfl rfl rfl ?_
        refine w_iconst (pc2 := 76) rfl rfl ?_
        refine w_iload (pc2 := 78) rfl rfl rfl ?_
        refine j_cVv (pc2 := 81) (k := 0) (c := zt_m51) (as := [.ref o1, .int (1 : Int32), .int v11]) (rest := []) rfl rfl rfl rfl (zk_cRule ho1).look rfl (Nat.le_of_ble_eq_true rfl) (Nat.le_of_ble_eq_true rfl) (fun w1 h1 => ok_Rule_add ho1 h1) (by decide) rfl hF (fun s15 hF => ?_)
        exact j_norm (l := [(0, .ref 98), (3, .int v3)]) ⟨rfl, rfl, trivial⟩ (zz_nd_of (ks := [0, 3]) rfl (by decide)) (hk7 s15 hF)
      · refine w_aload_n (pc2 := 51) rfl rfl rfl ?_
        refine w_getfield (pc2 := 54) rfl zk_cReader rfl rfl rfl ?_
        refine w_iload_n (pc2 := 55) rfl rfl rfl ?_
        refine w_iconst (pc2 := 56) rfl rfl ?_
        refine j_cVv (pc2 := 59) (k := 0) (c := zt_m96) (as := [.ref 1, .int v3, .int (0 : Int32)]) (rest := []) rfl rfl rfl rfl zk_cTape.look rfl (Nat.le_of_ble_eq_true rfl) (Nat.le_of_ble_eq_true rfl) (fun w1 h1 => ok_Tape_refuse h1) (by decide) rfl hF (fun s16 hF => ?_)
        exact j_vret rfl rfl hF
    · refine w_aload_n (pc2 := 16) rfl rfl rfl ?_
      refine w_iconst (pc2 := 17) rfl rfl ?_
      refine w_aload_n (pc2 := 18) rfl rfl rfl ?_
      refine w_getfield (pc2 := 21) rfl zk_cReader rfl rfl rfl ?_
      refine w_iconst (pc2 := 22) rfl rfl ?_
      refine w_ldc (pc2 := 24) rfl rfl ?_
      refine j_cIv (pc2 := 27) (k := 1) (c := zt_m98) (as := [.ref 1, .int (0 : Int32), .int (99999 : Int32)]) (rest := [.int (0 : Int32), .ref o1]) rfl rfl rfl rfl zk_cTape.look rfl (Nat.le_of_ble_eq_true rfl) (Nat.le_of_ble_eq_true rfl) (fun w1 h1 => ok_Tape_takeNumber h1) (by decide) rfl hF (fun v18 s17 hF => ?_)
      refine j_cVv (pc2 := 30) (k := 0) (c := zt_m51) (as := [.ref o1, .int (0 : Int32), .int v18]) (rest := []) rfl rfl rfl rfl (zk_cRule ho1).look rfl (Nat.le_of_ble_eq_true rfl) (Nat.le_of_ble_eq_true rfl) (fun w1 h1 => ok_Rule_add ho1 h1) (by decide) rfl hF (fun s19 hF => ?_)
      refine w_goto rfl ?_
      exact j_norm (l := [(0, .ref 98), (3, .int v3)]) ⟨rfl, rfl, trivial⟩ (zz_nd_of (ks := [0, 3]) rfl (by decide)) (hk7 s19 hF)
noncomputable def f_Reader_hold (p1 : Int32) (s0 : ZS) : Option (ZS) := zgi (s0.1 98 2) (fun (v2 : Int32) => (if (64 : Int32) ≤ v2 then some s0 else zgi (s0.1 98 2) (fun (v3 : Int32) => zwa s0 99 64 v3 p1 (fun (s4 : ZS) => zgi (s4.1 98 2) (fun (v5 : Int32) => zwi s4 98 2 ((v5 + (1 : Int32))) (fun (s6 : ZS) => some s6))))))
set_option maxHeartbeats 4000000 in
set_option maxRecDepth 100000 in
theorem ok_Reader_hold {L : Nat} {xs : Nat → Int32} {b : ZH} {p1 : Int32} {s0 : ZS} {w : ZS} (hF : f_Reader_hold p1 s0 = some w) : zz_ct zt_ms zt_nm zt_df (zt_X L xs) 0 zt_m61 [.ref 98, .int p1] (zk b s0) (qV b w) := by
  unfold f_Reader_hold at hF
  change zz_wp zt_ms zt_nm zt_df (zt_X L xs) 0 zt_m61 0 [(0, .ref 98), (1, .int p1)] [] (zk b s0) (qV b w)
  refine w_aload_n (pc2 := 1) rfl rfl rfl ?_
  refine j_geti (pc2 := 4) rfl zk_cReader rfl rfl rfl hF (fun v2 hF => ?_)
  refine w_bipush (pc2 := 6) rfl rfl ?_
  refine j_icmp_ge (pc2 := 9) rfl rfl hF (fun hF => ?_) (fun hF => ?_)
  · exact j_vret rfl rfl hF
  · refine w_aload_n (pc2 := 10) rfl rfl rfl ?_
    refine w_getfield (pc2 := 13) rfl zk_cReader rfl rfl rfl ?_
    refine w_aload_n (pc2 := 14) rfl rfl rfl ?_
    refine j_geti (pc2 := 17) rfl zk_cReader rfl rfl rfl hF (fun v3 hF => ?_)
    refine w_iload_n (pc2 := 18) rfl rfl rfl ?_
    refine j_iastore (pc2 := 19) (n := 64) rfl rfl (by omega) (by decide) rfl hF (fun s4 hF => ?_)
    refine w_aload_n (pc2 := 20) rfl rfl rfl ?_
    refine w_dup (pc2 := 21) rfl rfl rfl ?_
    refine j_geti (pc2 := 24) rfl zk_cReader rfl rfl rfl hF (fun v5 hF => ?_)
    refine w_iconst (pc2 := 25) rfl rfl ?_
    refine w_iadd (pc2 := 26) rfl rfl ?_
    refine j_puti (pc2 := 29) (j := 2) rfl zk_cReader rfl (Nat.le_of_ble_eq_true rfl) rfl zk_wReader_2 (by decide) rfl hF (fun s6 hF => ?_)
    exact j_vret rfl rfl hF
noncomputable def f_Reader_goDeeper (p1 : Int32) (p2 : Int32) (s0 : ZS) : Option (ZS) := zgi (s0.1 98 3) (fun (v3 : Int32) => (if v3 < (10 : Int32) then zgi (s0.1 98 3) (fun (v4 : Int32) => zwi s0 98 3 ((v4 + (1 : Int32))) (fun (s5 : ZS) => zcv (f_Tape_pass p2 s5) (fun (s6 : ZS) => zcv (f_Reader_hold p1 s6) (fun (s7 : ZS) => some s7)))) else zgi (s0.1 1 2) (fun (v8 : Int32) => zcv (f_Tape_refuse v8 (2 : Int32) s0) (fun (s9 : ZS) => some s9))))
set_option maxHeartbeats 4000000 in
set_option maxRecDepth 100000 in
theorem ok_Reader_goDeeper {L : Nat} {xs : Nat → Int32} {b : ZH} {p1 : Int32} {p2 : Int32} {s0 : ZS} {w : ZS} (hF : f_Reader_goDeeper p1 p2 s0 = some w) : zz_ct zt_ms zt_nm zt_df (zt_X L xs) 1 zt_m60 [.ref 98, .int p1, .int p2] (zk b s0) (qV b w) := by
  unfold f_Reader_goDeeper at hF
  change zz_wp zt_ms zt_nm zt_df (zt_X L xs) 1 zt_m60 0 [(0, .ref 98), (1, .int p1), (2, .int p2)] [] (zk b s0) (qV b w)
  refine w_aload_n (pc2 := 1) rfl rfl rfl ?_
  refine j_geti (pc2 := 4) rfl zk_cReader rfl rfl rfl hF (fun v3 hF => ?_)
  refine w_bipush (pc2 := 6) rfl rfl ?_
  refine j_icmp_lt (pc2 := 9) rfl rfl hF (fun hF => ?_) (fun hF => ?_)
  · refine w_aload_n (pc2 := 26) rfl rfl rfl ?_
    refine w_dup (pc2 := 27) rfl rfl rfl ?_
    refine j_geti (pc2 := 30) rfl zk_cReader rfl rfl rfl hF (fun v4 hF => ?_)
    refine w_iconst (pc2 := 31) rfl rfl ?_
    refine w_iadd (pc2 := 32) rfl rfl ?_
    refine j_puti (pc2 := 35) (j := 3) rfl zk_cReader rfl (Nat.le_of_ble_eq_true rfl) rfl zk_wReader_3 (by decide) rfl hF (fun s5 hF => ?_)
    refine w_aload_n (pc2 := 36) rfl rfl rfl ?_
    refine w_getfield (pc2 := 39) rfl zk_cReader rfl rfl rfl ?_
    refine w_iload_n (pc2 := 40) rfl rfl rfl ?_
    refine j_cVv (pc2 := 43) (k := 0) (c := zt_m97) (as := [.ref 1, .int p2]) (rest := []) rfl rfl rfl rfl zk_cTape.look rfl (Nat.le_of_ble_eq_true rfl) (Nat.le_of_ble_eq_true rfl) (fun w1 h1 => ok_Tape_pass h1) (by decide) rfl hF (fun s6 hF => ?_)
    refine w_aload_n (pc2 := 44) rfl rfl rfl ?_
    refine w_iload_n (pc2 := 45) rfl rfl rfl ?_
    refine j_cVv (pc2 := 48) (k := 0) (c := zt_m61) (as := [.ref 98, .int p1]) (rest := []) rfl rfl rfl rfl zk_cReader.look rfl (Nat.le_of_ble_eq_true rfl) (Nat.le_of_ble_eq_true rfl) (fun w1 h1 => ok_Reader_hold h1) (by decide) rfl hF (fun s7 hF => ?_)
    exact j_vret rfl rfl hF
  · refine w_aload_n (pc2 := 10) rfl rfl rfl ?_
    refine w_getfield (pc2 := 13) rfl zk_cReader rfl rfl rfl ?_
    refine w_aload_n (pc2 := 14) rfl rfl rfl ?_
    refine w_getfield (pc2 := 17) rfl zk_cReader rfl rfl rfl ?_
    refine j_geti (pc2 := 20) rfl zk_cTape rfl rfl rfl hF (fun v8 hF => ?_)
    refine w_iconst (pc2 := 21) rfl rfl ?_
    refine j_cVv (pc2 := 24) (k := 0) (c := zt_m96) (as := [.ref 1, .int v8, .int (2 : Int32)]) (rest := []) rfl rfl rfl rfl zk_cTape.look rfl (Nat.le_of_ble_eq_true rfl) (Nat.le_of_ble_eq_true rfl) (fun w1 h1 => ok_Tape_refuse h1) (by decide) rfl hF (fun s9 hF => ?_)
    exact j_vret rfl rfl hF
noncomputable def f_Reader_takeFactBegin (o1 : Nat) (p2 : Int32) (s0 : ZS) : Option (ZS) := (if ¬ p2 = (91 : Int32) then zcl (f_Tape_wordAmong 1000013 s0) (fun (v4 : Int32) (s3 : ZS) => (if v4 = (-1 : Int32) then zwi s3 98 5 (1 : Int32) (fun (s5 : ZS) => zcv (f_Reader_takeValue o1 p2 s5) (fun (s6 : ZS) => some s6)) else zcl (f_Tape_wordSize s3) (fun (v8 : Int32) (s7 : ZS) => zcv (f_Reader_goDeeper (12 : Int32) v8 s7) (fun (s9 : ZS) => some s9)))) else zcv (f_Reader_goDeeper (0 : Int32) (1 : Int32) s0) (fun (s10 : ZS) => some s10))
set_option maxHeartbeats 4000000 in
set_option maxRecDepth 100000 in
theorem ok_Reader_takeFactBegin {L : Nat} {xs : Nat → Int32} {b : ZH} {o1 : Nat} {p2 : Int32} (ho1 : zk_isRule o1) {s0 : ZS} {w : ZS} (hF : f_Reader_takeFactBegin o1 p2 s0 = some w) : zz_ct zt_ms zt_nm zt_df (zt_X L xs) 7 zt_m59 [.ref 98, .ref o1, .int p2] (zk b s0) (qV b w) := by
  unfold f_Reader_takeFactBegin at hF
  change zz_wp zt_ms zt_nm zt_df (zt_X L xs) 7 zt_m59 0 [(0, .ref 98), (1, .ref o1), (2, .int p2)] [] (zk b s0) (qV b w)
  refine w_iload_n (pc2 := 1) rfl rfl rfl ?_
  refine w_bipush (pc2 := 3) rfl rfl ?_
  refine j_icmp_ne (pc2 := 6) rfl rfl hF (fun hF => ?_) (fun hF => ?_)
  · refine w_aload_n (pc2 := 16) rfl rfl rfl ?_
    refine w_getfield (pc2 := 19) rfl zk_cReader rfl rfl rfl ?_
    refine w_ldc (pc2 := 21) rfl rfl ?_
    refine j_cIv (pc2 := 24) (k := 5) (c := zt_m92) (as := [.ref 1, .ref 1000013]) (rest := []) rfl rfl rfl rfl zk_cTape.look rfl (Nat.le_of_ble_eq_true rfl) (Nat.le_of_ble_eq_true rfl) (fun w1 h1 => ok_Tape_wordAmong zk_str3 h1) (by decide) rfl hF (fun v4 s3 hF => ?_)
    refine w_iconst (pc2 := 25) rfl rfl ?_
    refine j_icmp_eq (pc2 := 28) rfl rfl hF (fun hF => ?_) (fun hF => ?_)
    · refine w_aload_n (pc2 := 45) rfl rfl rfl ?_
      refine w_iconst (pc2 := 46) rfl rfl ?_
      refine j_puti (pc2 := 49) (j := 5) rfl zk_cReader rfl (Nat.le_of_ble_eq_true rfl) rfl zk_wReader_5 (by decide) rfl hF (fun s5 hF => ?_)
      refine w_aload_n (pc2 := 50) rfl rfl rfl ?_
      refine w_aload_n (pc2 := 51) rfl rfl rfl ?_
      refine w_iload_n (pc2 := 52) rfl rfl rfl ?_
      refine j_cVv (pc2 := 55) (k := 6) (c := zt_m57) (as := [.ref 98, .ref o1, .int p2]) (rest := []) rfl rfl rfl rfl zk_cReader.look rfl (Nat.le_of_ble_eq_true rfl) (Nat.le_of_ble_eq_true rfl) (fun w1 h1 => ok_Reader_takeValue ho1 h1) (by decide) rfl hF (fun s6 hF => ?_)
      exact j_vret rfl rfl hF
    · refine w_aload_n (pc2 := 29) rfl rfl rfl ?_
      refine w_bipush (pc2 := 31) rfl rfl ?_
      refine w_aload_n (pc2 := 32) rfl rfl rfl ?_
      refine w_getfield (pc2 := 35) rfl zk_cReader rfl rfl rfl ?_
      refine j_cIv (pc2 := 38) (k := 0) (c := zt_m94) (as := [.ref 1]) (rest := [.int (12 : Int32), .ref 98]) rfl rfl rfl rfl zk_cTape.look rfl (Nat.le_of_ble_eq_true rfl) (Nat.le_of_ble_eq_true rfl) (fun w1 h1 => ok_Tape_wordSize h1) (by decide) rfl hF (fun v8 s7 hF => ?_)
      refine j_cVv (pc2 := 41) (k := 1) (c := zt_m60) (as := [.ref 98, .int (12 : Int32), .int v8]) (rest := []) rfl rfl rfl rfl zk_cReader.look rfl (Nat.le_of_ble_eq_true rfl) (Nat.le_of_ble_eq_true rfl) (fun w1 h1 => ok_Reader_goDeeper h1) (by decide) rfl hF (fun s9 hF => ?_)
      refine w_goto rfl ?_
      exact j_vret rfl rfl hF
  · refine w_aload_n (pc2 := 7) rfl rfl rfl ?_
    refine w_iconst (pc2 := 8) rfl rfl ?_
    refine w_iconst (pc2 := 9) rfl rfl ?_
    refine j_cVv (pc2 := 12) (k := 1) (c := zt_m60) (as := [.ref 98, .int (0 : Int32), .int (1 : Int32)]) (rest := []) rfl rfl rfl rfl zk_cReader.look rfl (Nat.le_of_ble_eq_true rfl) (Nat.le_of_ble_eq_true rfl) (fun w1 h1 => ok_Reader_goDeeper h1) (by decide) rfl hF (fun s10 hF => ?_)
    refine w_goto rfl ?_
    exact j_vret rfl rfl hF
noncomputable def f_Reader_operator (p1 : Int32) (s0 : ZS) : Option (Int32 × ZS) := (if p1 = (37 : Int32) then some ((6 : Int32), s0) else (if p1 = (42 : Int32) then some ((4 : Int32), s0) else (if p1 = (43 : Int32) then some ((2 : Int32), s0) else (if p1 = (45 : Int32) then some ((3 : Int32), s0) else (if p1 = (47 : Int32) then some ((5 : Int32), s0) else some ((-1 : Int32), s0))))))
set_option maxHeartbeats 4000000 in
set_option maxRecDepth 100000 in
theorem ok_Reader_operator {L : Nat} {xs : Nat → Int32} {b : ZH} {p1 : Int32} {s0 : ZS} {w : Int32 × ZS} (hF : f_Reader_operator p1 s0 = some w) : zz_ct zt_ms zt_nm zt_df (zt_X L xs) 0 zt_m63 [.int p1] (zk b s0) (qI b w) := by
  unfold f_Reader_operator at hF
  change zz_wp zt_ms zt_nm zt_df (zt_X L xs) 0 zt_m63 0 [(0, .int p1)] [] (zk b s0) (qI b w)
  refine w_iload_n (pc2 := 1) rfl rfl rfl ?_
  by_cases hs37 : p1 = (37 : Int32)
  · rw [if_pos hs37] at hF
    refine j_switch (t := 68) rfl (by rw [hs37]; rfl) ?_
    refine w_bipush (pc2 := 70) rfl rfl ?_
    exact j_iret rfl rfl hF
  rw [if_neg hs37] at hF
  by_cases hs42 : p1 = (42 : Int32)
  · rw [if_pos hs42] at hF
    refine j_switch (t := 64) rfl (by rw [hs42]; rfl) ?_
    refine w_iconst (pc2 := 65) rfl rfl ?_
    exact j_iret rfl rfl hF
  rw [if_neg hs42] at hF
  by_cases hs43 : p1 = (43 : Int32)
  · rw [if_pos hs43] at hF
    refine j_switch (t := 60) rfl (by rw [hs43]; rfl) ?_
    refine w_iconst (pc2 := 61) rfl rfl ?_
    exact j_iret rfl rfl hF
  rw [if_neg hs43] at hF
  by_cases hs45 : p1 = (45 : Int32)
  · rw [if_pos hs45] at hF
    refine j_switch (t := 62) rfl (by rw [hs45]; rfl) ?_
    refine w_iconst (pc2 := 63) rfl rfl ?_
    exact j_iret rfl rfl hF
  rw [if_neg hs45] at hF
  by_cases hs47 : p1 = (47 : Int32)
  · rw [if_pos hs47] at hF
    refine j_switch (t := 66) rfl (by rw [hs47]; rfl) ?_
    refine w_iconst (pc2 := 67) rfl rfl ?_
    exact j_iret rfl rfl hF
  rw [if_neg hs47] at hF
  refine j_switch (t := 71) rfl ?_ ?_
  · unfold zz_sw
    by_cases hr : (p1).toInt < 37 ∨ 47 < (p1).toInt
    · rw [if_pos hr]; rfl
    · rw [if_neg hr]
      have hcs : (p1).toInt = 37 ∨ (p1).toInt = 38 ∨ (p1).toInt = 39 ∨ (p1).toInt = 40 ∨ (p1).toInt = 41 ∨ (p1).toInt = 42 ∨ (p1).toInt = 43 ∨ (p1).toInt = 44 ∨ (p1).toInt = 45 ∨ (p1).toInt = 46 ∨ (p1).toInt = 47 := by omega
      rcases hcs with h | h | h | h | h | h | h | h | h | h | h
      · exact absurd (Int32.toInt_inj.mp (h.trans (by decide))) hs37
      · rw [h]; rfl
      · rw [h]; rfl
      · rw [h]; rfl
      · rw [h]; rfl
      · exact absurd (Int32.toInt_inj.mp (h.trans (by decide))) hs42
      · exact absurd (Int32.toInt_inj.mp (h.trans (by decide))) hs43
      · rw [h]; rfl
      · exact absurd (Int32.toInt_inj.mp (h.trans (by decide))) hs45
      · rw [h]; rfl
      · exact absurd (Int32.toInt_inj.mp (h.trans (by decide))) hs47
  · refine w_iconst (pc2 := 72) rfl rfl ?_
    exact j_iret rfl rfl hF
noncomputable def f_Reader_release_B0 (o1 : Nat) (p2 : Int32) (a3 : Unit) (s4 : ZS) (g5 : Unit → ZS → Option (ZS)) : Option (ZS) := zgi (s4.1 98 2) (fun (v6 : Int32) => (if v6 ≤ 0 then some s4 else zgi (s4.1 98 2) (fun (v7 : Int32) => zrd 64 ((v7 - (1 : Int32))) (s4.1 99) (fun (v8 : Int32) => zrd 16 v8 zt_bind (fun (v9 : Int32) => (if v9 < p2 then some s4 else zgi (s4.1 98 2) (fun (v10 : Int32) => zwi s4 98 2 ((v10 - (1 : Int32))) (fun (s11 : ZS) => zgi (s11.1 98 2) (fun (v12 : Int32) => zrd 64 v12 (s11.1 99) (fun (v13 : Int32) => zj0 (fun (s14 : ZS) => zgi (s14.1 98 2) (fun (v16 : Int32) => zrd 64 v16 (s14.1 99) (fun (v17 : Int32) => zcv (f_Rule_add o1 v17 (0 : Int32) s14) (fun (s18 : ZS) => g5 () s18)))) (fun (k15 : ZS → Option (ZS)) => (if ¬ v13 = (12 : Int32) then k15 s11 else zgi (s11.1 98 3) (fun (v19 : Int32) => zwi s11 98 3 ((v19 - (1 : Int32))) (fun (s20 : ZS) => k15 s20))))))))))))))
noncomputable def f_Reader_release (o1 : Nat) (p2 : Int32) (s0 : ZS) : Option (ZS) := zlp zN (f_Reader_release_B0 o1 p2) () s0
set_option maxHeartbeats 4000000 in
set_option maxRecDepth 100000 in
theorem ok_Reader_release {L : Nat} {xs : Nat → Int32} {b : ZH} {o1 : Nat} {p2 : Int32} (ho1 : zk_isRule o1) {s0 : ZS} {w : ZS} (hF : f_Reader_release o1 p2 s0 = some w) : zz_ct zt_ms zt_nm zt_df (zt_X L xs) 1 zt_m64 [.ref 98, .ref o1, .int p2] (zk b s0) (qV b w) := by
  unfold f_Reader_release at hF
  change zz_wp zt_ms zt_nm zt_df (zt_X L xs) 1 zt_m64 0 [(0, .ref 98), (1, .ref o1), (2, .int p2)] [] (zk b s0) (qV b w)
  refine j_norm (l := [(0, .ref 98), (1, .ref o1), (2, .int p2)]) ⟨rfl, rfl, rfl, trivial⟩ (zz_nd_of (ks := [0, 1, 2]) rfl (by decide)) ?_
  refine j_loop (P := fun (a3 : Unit) (s4 : ZS) => zz_wp zt_ms zt_nm zt_df (zt_X L xs) 1 zt_m64 0 [(0, .ref 98), (1, .ref o1), (2, .int p2)] [] (zk b s4) (qV b w)) hF (fun a3 s4 g5 hg5 hF => ?_)
  unfold f_Reader_release_B0 at hF
  refine w_aload_n (pc2 := 1) rfl rfl rfl ?_
  refine j_geti (pc2 := 4) rfl zk_cReader rfl rfl rfl hF (fun v6 hF => ?_)
  refine j_if_le (pc2 := 7) rfl rfl hF (fun hF => ?_) (fun hF => ?_)
  · exact j_vret rfl rfl hF
  · refine w_getstatic (pc2 := 10) rfl rfl ?_
    refine w_aload_n (pc2 := 11) rfl rfl rfl ?_
    refine w_getfield (pc2 := 14) rfl zk_cReader rfl rfl rfl ?_
    refine w_aload_n (pc2 := 15) rfl rfl rfl ?_
    refine j_geti (pc2 := 18) rfl zk_cReader rfl rfl rfl hF (fun v7 hF => ?_)
    refine w_iconst (pc2 := 19) rfl rfl ?_
    refine w_isub (pc2 := 20) rfl rfl ?_
    refine j_iaload (pc2 := 21) (n := 64) rfl rfl (by omega) (by decide) rfl hF (fun v8 hF => ?_)
    refine j_ialoadR (pc2 := 22) rfl rfl rfl hF (fun v9 hF => ?_)
    refine w_iload_n (pc2 := 23) rfl rfl rfl ?_
    refine j_icmp_lt (pc2 := 26) rfl rfl hF (fun hF => ?_) (fun hF => ?_)
    · exact j_vret rfl rfl hF
    · refine w_aload_n (pc2 := 27) rfl rfl rfl ?_
      refine w_dup (pc2 := 28) rfl rfl rfl ?_
      refine j_geti (pc2 := 31) rfl zk_cReader rfl rfl rfl hF (fun v10 hF => ?_)
      refine w_iconst (pc2 := 32) rfl rfl ?_
      refine w_isub (pc2 := 33) rfl rfl ?_
      refine j_puti (pc2 := 36) (j := 2) rfl zk_cReader rfl (Nat.le_of_ble_eq_true rfl) rfl zk_wReader_2 (by decide) rfl hF (fun s11 hF => ?_)
      refine w_aload_n (pc2 := 37) rfl rfl rfl ?_
      refine w_getfield (pc2 := 40) rfl zk_cReader rfl rfl rfl ?_
      refine w_aload_n (pc2 := 41) rfl rfl rfl ?_
      refine j_geti (pc2 := 44) rfl zk_cReader rfl rfl rfl hF (fun v12 hF => ?_)
      refine j_iaload (pc2 := 45) (n := 64) rfl rfl (by omega) (by decide) rfl hF (fun v13 hF => ?_)
      refine w_bipush (pc2 := 47) rfl rfl ?_
      refine j_join0 (P := fun (s14 : ZS) => zz_wp zt_ms zt_nm zt_df (zt_X L xs) 1 zt_m64 60 [(0, .ref 98), (1, .ref o1), (2, .int p2)] [] (zk b s14) (qV b w)) hF (fun s14 hF => ?_) (fun k15 hk15 hF => ?_)
      · refine w_aload_n (pc2 := 61) rfl rfl rfl ?_
        refine w_aload_n (pc2 := 62) rfl rfl rfl ?_
        refine w_getfield (pc2 := 65) rfl zk_cReader rfl rfl rfl ?_
        refine w_aload_n (pc2 := 66) rfl rfl rfl ?_
        refine j_geti (pc2 := 69) rfl zk_cReader rfl rfl rfl hF (fun v16 hF => ?_)
        refine j_iaload (pc2 := 70) (n := 64) rfl rfl (by omega) (by decide) rfl hF (fun v17 hF => ?_)
        refine w_iconst (pc2 := 71) rfl rfl ?_
        refine j_cVv (pc2 := 74) (k := 0) (c := zt_m51) (as := [.ref o1, .int v17, .int (0 : Int32)]) (rest := []) rfl rfl rfl rfl (zk_cRule ho1).look rfl (Nat.le_of_ble_eq_true rfl) (Nat.le_of_ble_eq_true rfl) (fun w1 h1 => ok_Rule_add ho1 h1) (by decide) rfl hF (fun s18 hF => ?_)
        refine w_goto rfl ?_
        exact j_norm (l := [(0, .ref 98), (1, .ref o1), (2, .int p2)]) ⟨rfl, rfl, rfl, trivial⟩ (zz_nd_of (ks := [0, 1, 2]) rfl (by decide)) (hg5 () s18 hF)
      · refine j_icmp_ne (pc2 := 50) rfl rfl hF (fun hF => ?_) (fun hF => ?_)
        · exact j_norm (l := [(0, .ref 98), (1, .ref o1), (2, .int p2)]) ⟨rfl, rfl, rfl, trivial⟩ (zz_nd_of (ks := [0, 1, 2]) rfl (by decide)) (hk15 s11 hF)
        · refine w_aload_n (pc2 := 51) rfl rfl rfl ?_
          refine w_dup (pc2 := 52) rfl rfl rfl ?_
          refine j_geti (pc2 := 55) rfl zk_cReader rfl rfl rfl hF (fun v19 hF => ?_)
          refine w_iconst (pc2 := 56) rfl rfl ?_
          refine w_isub (pc2 := 57) rfl rfl ?_
          refine j_puti (pc2 := 60) (j := 3) rfl zk_cReader rfl (Nat.le_of_ble_eq_true rfl) rfl zk_wReader_3 (by decide) rfl hF (fun s20 hF => ?_)
          exact j_norm (l := [(0, .ref 98), (1, .ref o1), (2, .int p2)]) ⟨rfl, rfl, rfl, trivial⟩ (zz_nd_of (ks := [0, 1, 2]) rfl (by decide)) (hk15 s20 hF)
noncomputable def f_Reader_takeBehindSaid (o1 : Nat) (s0 : ZS) : Option (ZS) := zcv (f_Reader_release o1 (1 : Int32) s0) (fun (s2 : ZS) => zcl (f_Tape_wordAmong 1000014 s2) (fun (v4 : Int32) (s3 : ZS) => (if ¬ v4 = (-1 : Int32) then zcl (f_Tape_wordSize s3) (fun (v6 : Int32) (s5 : ZS) => zcv (f_Tape_pass v6 s5) (fun (s7 : ZS) => zwi s7 98 6 (1 : Int32) (fun (s8 : ZS) => some s8))) else zwi s3 98 6 (4 : Int32) (fun (s9 : ZS) => some s9))))
set_option maxHeartbeats 4000000 in
set_option maxRecDepth 100000 in
theorem ok_Reader_takeBehindSaid {L : Nat} {xs : Nat → Int32} {b : ZH} {o1 : Nat} (ho1 : zk_isRule o1) {s0 : ZS} {w : ZS} (hF : f_Reader_takeBehindSaid o1 s0 = some w) : zz_ct zt_ms zt_nm zt_df (zt_X L xs) 6 zt_m65 [.ref 98, .ref o1] (zk b s0) (qV b w) := by
  unfold f_Reader_takeBehindSaid at hF
  change zz_wp zt_ms zt_nm zt_df (zt_X L xs) 6 zt_m65 0 [(0, .ref 98), (1, .ref o1)] [] (zk b s0) (qV b w)
  refine w_aload_n (pc2 := 1) rfl rfl rfl ?_
  refine w_aload_n (pc2 := 2) rfl rfl rfl ?_
  refine w_iconst (pc2 := 3) rfl rfl ?_
  refine j_cVv (pc2 := 6) (k := 1) (c := zt_m64) (as := [.ref 98, .ref o1, .int (1 : Int32)]) (rest := []) rfl rfl rfl rfl zk_cReader.look rfl (Nat.le_of_ble_eq_true rfl) (Nat.le_of_ble_eq_true rfl) (fun w1 h1 => ok_Reader_release ho1 h1) (by decide) rfl hF (fun s2 hF => ?_)
  refine w_aload_n (pc2 := 7) rfl rfl rfl ?_
  refine w_getfield (pc2 := 10) rfl zk_cReader rfl rfl rfl ?_
  refine w_ldc (pc2 := 12) rfl rfl ?_
  refine j_cIv (pc2 := 15) (k := 5) (c := zt_m92) (as := [.ref 1, .ref 1000014]) (rest := []) rfl rfl rfl rfl zk_cTape.look rfl (Nat.le_of_ble_eq_true rfl) (Nat.le_of_ble_eq_true rfl) (fun w1 h1 => ok_Tape_wordAmong zk_str4 h1) (by decide) rfl hF (fun v4 s3 hF => ?_)
  refine w_iconst (pc2 := 16) rfl rfl ?_
  refine j_icmp_ne (pc2 := 19) rfl rfl hF (fun hF => ?_) (fun hF => ?_)
  · refine w_aload_n (pc2 := 26) rfl rfl rfl ?_
    refine w_getfield (pc2 := 29) rfl zk_cReader rfl rfl rfl ?_
    refine w_aload_n (pc2 := 30) rfl rfl rfl ?_
    refine w_getfield (pc2 := 33) rfl zk_cReader rfl rfl rfl ?_
    refine j_cIv (pc2 := 36) (k := 0) (c := zt_m94) (as := [.ref 1]) (rest := [.ref 1]) rfl rfl rfl rfl zk_cTape.look rfl (Nat.le_of_ble_eq_true rfl) (Nat.le_of_ble_eq_true rfl) (fun w1 h1 => ok_Tape_wordSize h1) (by decide) rfl hF (fun v6 s5 hF => ?_)
    refine j_cVv (pc2 := 39) (k := 0) (c := zt_m97) (as := [.ref 1, .int v6]) (rest := []) rfl rfl rfl rfl zk_cTape.look rfl (Nat.le_of_ble_eq_true rfl) (Nat.le_of_ble_eq_true rfl) (fun w1 h1 => ok_Tape_pass h1) (by decide) rfl hF (fun s7 hF => ?_)
    refine w_aload_n (pc2 := 40) rfl rfl rfl ?_
    refine w_iconst (pc2 := 41) rfl rfl ?_
    refine j_puti (pc2 := 44) (j := 6) rfl zk_cReader rfl (Nat.le_of_ble_eq_true rfl) rfl zk_wReader_6 (by decide) rfl hF (fun s8 hF => ?_)
    exact j_vret rfl rfl hF
  · refine w_aload_n (pc2 := 20) rfl rfl rfl ?_
    refine w_iconst (pc2 := 21) rfl rfl ?_
    refine j_puti (pc2 := 24) (j := 6) rfl zk_cReader rfl (Nat.le_of_ble_eq_true rfl) rfl zk_wReader_6 (by decide) rfl hF (fun s9 hF => ?_)
    exact j_vret rfl rfl hF
noncomputable def f_Tape_followsAtOnce (p1 : Int32) (s0 : ZS) : Option (Int32 × ZS) := zgi (s0.1 1 2) (fun (v2 : Int32) => zgi (s0.1 1 1) (fun (v3 : Int32) => (if v3 ≤ (v2 + (1 : Int32)) then zbl (0 : Int32) s0 else zgi (s0.1 1 2) (fun (v4 : Int32) => zrd 400 ((v4 + (1 : Int32))) (s0.1 2) (fun (v5 : Int32) => (if ¬ v5 = p1 then zbl (0 : Int32) s0 else zbl (1 : Int32) s0))))))
set_option maxHeartbeats 4000000 in
set_option maxRecDepth 100000 in
theorem ok_Tape_followsAtOnce {L : Nat} {xs : Nat → Int32} {b : ZH} {p1 : Int32} {s0 : ZS} {w : Int32 × ZS} (hF : f_Tape_followsAtOnce p1 s0 = some w) : zz_ct zt_ms zt_nm zt_df (zt_X L xs) 0 zt_m102 [.ref 1, .int p1] (zk b s0) (qI b w) := by
  unfold f_Tape_followsAtOnce at hF
  change zz_wp zt_ms zt_nm zt_df (zt_X L xs) 0 zt_m102 0 [(0, .ref 1), (1, .int p1)] [] (zk b s0) (qI b w)
  refine w_aload_n (pc2 := 1) rfl rfl rfl ?_
  refine j_geti (pc2 := 4) rfl zk_cTape rfl rfl rfl hF (fun v2 hF => ?_)
  refine w_iconst (pc2 := 5) rfl rfl ?_
  refine w_iadd (pc2 := 6) rfl rfl ?_
  refine w_aload_n (pc2 := 7) rfl rfl rfl ?_
  refine j_geti (pc2 := 10) rfl zk_cTape rfl rfl rfl hF (fun v3 hF => ?_)
  refine j_icmp_ge (pc2 := 13) rfl rfl hF (fun hF => ?_) (fun hF => ?_)
  · refine w_iconst (pc2 := 33) rfl rfl ?_
    exact j_zret rfl rfl hF
  · refine w_aload_n (pc2 := 14) rfl rfl rfl ?_
    refine w_getfield (pc2 := 17) rfl zk_cTape rfl rfl rfl ?_
    refine w_aload_n (pc2 := 18) rfl rfl rfl ?_
    refine j_geti (pc2 := 21) rfl zk_cTape rfl rfl rfl hF (fun v4 hF => ?_)
    refine w_iconst (pc2 := 22) rfl rfl ?_
    refine w_iadd (pc2 := 23) rfl rfl ?_
    refine j_baload (pc2 := 24) (n := 400) rfl rfl (by omega) (by decide) rfl hF (fun v5 hF => ?_)
    refine w_iload_n (pc2 := 25) rfl rfl rfl ?_
    refine j_icmp_ne (pc2 := 28) rfl rfl hF (fun hF => ?_) (fun hF => ?_)
    · refine w_iconst (pc2 := 33) rfl rfl ?_
      exact j_zret rfl rfl hF
    · refine w_iconst (pc2 := 29) rfl rfl ?_
      refine w_goto rfl ?_
      exact j_zret rfl rfl hF
noncomputable def f_Reader_comparison (p1 : Int32) (s0 : ZS) : Option (Int32 × ZS) := zcl (f_Tape_followsAtOnce (61 : Int32) s0) (fun (v3 : Int32) (s2 : ZS) => (if p1 = (60 : Int32) then (if v3 = 0 then some ((7 : Int32), s2) else some ((8 : Int32), s2)) else (if p1 = (61 : Int32) then some ((9 : Int32), s2) else (if p1 = (62 : Int32) then (if v3 = 0 then some ((11 : Int32), s2) else some ((10 : Int32), s2)) else some ((-1 : Int32), s2)))))
set_option maxHeartbeats 4000000 in
set_option maxRecDepth 100000 in
theorem ok_Reader_comparison {L : Nat} {xs : Nat → Int32} {b : ZH} {p1 : Int32} {s0 : ZS} {w : Int32 × ZS} (hF : f_Reader_comparison p1 s0 = some w) : zz_ct zt_ms zt_nm zt_df (zt_X L xs) 1 zt_m67 [.ref 98, .int p1] (zk b s0) (qI b w) := by
  unfold f_Reader_comparison at hF
  change zz_wp zt_ms zt_nm zt_df (zt_X L xs) 1 zt_m67 0 [(0, .ref 98), (1, .int p1)] [] (zk b s0) (qI b w)
  refine w_aload_n (pc2 := 1) rfl rfl rfl ?_
  refine w_getfield (pc2 := 4) rfl zk_cReader rfl rfl rfl ?_
  refine w_bipush (pc2 := 6) rfl rfl ?_
  refine j_cIv (pc2 := 9) (k := 0) (c := zt_m102) (as := [.ref 1, .int (61 : Int32)]) (rest := []) rfl rfl rfl rfl zk_cTape.look rfl (Nat.le_of_ble_eq_true rfl) (Nat.le_of_ble_eq_true rfl) (fun w1 h1 => ok_Tape_followsAtOnce h1) (by decide) rfl hF (fun v3 s2 hF => ?_)
  refine w_istore_n (pc2 := 10) (ls2 := [(2, .int v3), (0, .ref 98), (1, .int p1)]) rfl rfl rfl ?_
  refine w_iload_n (pc2 := 11) rfl rfl rfl ?_
  by_cases hs60 : p1 = (60 : Int32)
  · rw [if_pos hs60] at hF
    refine j_switch (t := 36) rfl (by rw [hs60]; rfl) ?_
    refine w_iload_n (pc2 := 37) rfl rfl rfl ?_
    refine j_if_eq (pc2 := 40) rfl rfl hF (fun hF => ?_) (fun hF => ?_)
    · refine w_bipush (pc2 := 47) rfl rfl ?_
      exact j_iret rfl rfl hF
    · refine w_bipush (pc2 := 42) rfl rfl ?_
      refine w_goto rfl ?_
      exact j_iret rfl rfl hF
  rw [if_neg hs60] at hF
  by_cases hs61 : p1 = (61 : Int32)
  · rw [if_pos hs61] at hF
    refine j_switch (t := 48) rfl (by rw [hs61]; rfl) ?_
    refine w_bipush (pc2 := 50) rfl rfl ?_
    exact j_iret rfl rfl hF
  rw [if_neg hs61] at hF
  by_cases hs62 : p1 = (62 : Int32)
  · rw [if_pos hs62] at hF
    refine j_switch (t := 51) rfl (by rw [hs62]; rfl) ?_
    refine w_iload_n (pc2 := 52) rfl rfl rfl ?_
    refine j_if_eq (pc2 := 55) rfl rfl hF (fun hF => ?_) (fun hF => ?_)
    · refine w_bipush (pc2 := 62) rfl rfl ?_
      exact j_iret rfl rfl hF
    · refine w_bipush (pc2 := 57) rfl rfl ?_
      refine w_goto rfl ?_
      exact j_iret rfl rfl hF
  rw [if_neg hs62] at hF
  refine j_switch (t := 63) rfl ?_ ?_
  · unfold zz_sw
    by_cases hr : (p1).toInt < 60 ∨ 62 < (p1).toInt
    · rw [if_pos hr]; rfl
    · rw [if_neg hr]
      have hcs : (p1).toInt = 60 ∨ (p1).toInt = 61 ∨ (p1).toInt = 62 := by omega
      rcases hcs with h | h | h
      · exact absurd (Int32.toInt_inj.mp (h.trans (by decide))) hs60
      · exact absurd (Int32.toInt_inj.mp (h.trans (by decide))) hs61
      · exact absurd (Int32.toInt_inj.mp (h.trans (by decide))) hs62
  · refine w_iconst (pc2 := 64) rfl rfl ?_
    exact j_iret rfl rfl hF
noncomputable def f_Reader_takeSign (o1 : Nat) (p2 : Int32) (s0 : ZS) : Option (ZS) := zgi (s0.1 1 2) (fun (v3 : Int32) => zcl (f_Reader_comparison p2 s0) (fun (v5 : Int32) (s4 : ZS) => (if ¬ v5 = (-1 : Int32) then zjn (A := Int32) (fun (a7 : Int32) (s6 : ZS) => zcv (f_Tape_pass a7 s6) (fun (s9 : ZS) => zcv (f_Reader_countPart v3 s9) (fun (s10 : ZS) => zrd 16 v5 zt_bind (fun (v11 : Int32) => zcv (f_Reader_release o1 v11 s10) (fun (s12 : ZS) => zcv (f_Reader_hold v5 s12) (fun (s13 : ZS) => zwi s13 98 5 (2 : Int32) (fun (s14 : ZS) => zwi s14 98 6 (0 : Int32) (fun (s15 : ZS) => some s15)))))))) (fun (k8 : Int32 → ZS → Option (ZS)) => zj0 (fun (s16 : ZS) => k8 (2 : Int32) s16) (fun (k17 : ZS → Option (ZS)) => (if v5 = (8 : Int32) then k17 s4 else (if ¬ v5 = (10 : Int32) then k8 (1 : Int32) s4 else k17 s4)))) else zcv (f_Tape_refuse v3 (0 : Int32) s4) (fun (s18 : ZS) => some s18))))
set_option maxHeartbeats 4000000 in
set_option maxRecDepth 100000 in
theorem ok_Reader_takeSign {L : Nat} {xs : Nat → Int32} {b : ZH} {o1 : Nat} {p2 : Int32} (ho1 : zk_isRule o1) {s0 : ZS} {w : ZS} (hF : f_Reader_takeSign o1 p2 s0 = some w) : zz_ct zt_ms zt_nm zt_df (zt_X L xs) 2 zt_m66 [.ref 98, .ref o1, .int p2] (zk b s0) (qV b w) := by
  unfold f_Reader_takeSign at hF
  change zz_wp zt_ms zt_nm zt_df (zt_X L xs) 2 zt_m66 0 [(0, .ref 98), (1, .ref o1), (2, .int p2)] [] (zk b s0) (qV b w)
  refine w_aload_n (pc2 := 1) rfl rfl rfl ?_
  refine w_getfield (pc2 := 4) rfl zk_cReader rfl rfl rfl ?_
  refine j_geti (pc2 := 7) rfl zk_cTape rfl rfl rfl hF (fun v3 hF => ?_)
  refine w_istore_n (pc2 := 8) (ls2 := [(3, .int v3), (0, .ref 98), (1, .ref o1), (2, .int p2)]) rfl rfl rfl ?_
  refine w_aload_n (pc2 := 9) rfl rfl rfl ?_
  refine w_iload_n (pc2 := 10) rfl rfl rfl ?_
  refine j_cIv (pc2 := 13) (k := 1) (c := zt_m67) (as := [.ref 98, .int p2]) (rest := []) rfl rfl rfl rfl zk_cReader.look rfl (Nat.le_of_ble_eq_true rfl) (Nat.le_of_ble_eq_true rfl) (fun w1 h1 => ok_Reader_comparison h1) (by decide) rfl hF (fun v5 s4 hF => ?_)
  refine w_istore (pc2 := 15) (ls2 := [(4, .int v5), (3, .int v3), (0, .ref 98), (1, .ref o1), (2, .int p2)]) rfl rfl rfl ?_
  refine w_iload (pc2 := 17) rfl rfl rfl ?_
  refine w_iconst (pc2 := 18) rfl rfl ?_
  refine j_icmp_ne (pc2 := 21) rfl rfl hF (fun hF => ?_) (fun hF => ?_)
  · refine w_aload_n (pc2 := 32) rfl rfl rfl ?_
    refine w_getfield (pc2 := 35) rfl zk_cReader rfl rfl rfl ?_
    refine w_iload (pc2 := 37) rfl rfl rfl ?_
    refine w_bipush (pc2 := 39) rfl rfl ?_
    refine j_join (P := fun (a7 : Int32) (s6 : ZS) => zz_wp zt_ms zt_nm zt_df (zt_X L xs) 2 zt_m66 54 [(0, .ref 98), (1, .ref o1), (3, .int v3), (4, .int v5)] [.int a7, .ref 1] (zk b s6) (qV b w)) hF (fun a7 s6 hF => ?_) (fun k8 hk8 hF => ?_)
    · refine j_cVv (pc2 := 57) (k := 0) (c := zt_m97) (as := [.ref 1, .int a7]) (rest := []) rfl rfl rfl rfl zk_cTape.look rfl (Nat.le_of_ble_eq_true rfl) (Nat.le_of_ble_eq_true rfl) (fun w1 h1 => ok_Tape_pass h1) (by decide) rfl hF (fun s9 hF => ?_)
      refine w_aload_n (pc2 := 58) rfl rfl rfl ?_
      refine w_iload_n (pc2 := 59) rfl rfl rfl ?_
      refine j_cVv (pc2 := 62) (k := 1) (c := zt_m58) (as := [.ref 98, .int v3]) (rest := []) rfl rfl rfl rfl zk_cReader.look rfl (Nat.le_of_ble_eq_true rfl) (Nat.le_of_ble_eq_true rfl) (fun w1 h1 => ok_Reader_countPart h1) (by decide) rfl hF (fun s10 hF => ?_)
      refine w_aload_n (pc2 := 63) rfl rfl rfl ?_
      refine w_aload_n (pc2 := 64) rfl rfl rfl ?_
      refine w_getstatic (pc2 := 67) rfl rfl ?_
      refine w_iload (pc2 := 69) rfl rfl rfl ?_
      refine j_ialoadR (pc2 := 70) rfl rfl rfl hF (fun v11 hF => ?_)
      refine j_cVv (pc2 := 73) (k := 1) (c := zt_m64) (as := [.ref 98, .ref o1, .int v11]) (rest := []) rfl rfl rfl rfl zk_cReader.look rfl (Nat.le_of_ble_eq_true rfl) (Nat.le_of_ble_eq_true rfl) (fun w1 h1 => ok_Reader_release ho1 h1) (by decide) rfl hF (fun s12 hF => ?_)
      refine w_aload_n (pc2 := 74) rfl rfl rfl ?_
      refine w_iload (pc2 := 76) rfl rfl rfl ?_
      refine j_cVv (pc2 := 79) (k := 0) (c := zt_m61) (as := [.ref 98, .int v5]) (rest := []) rfl rfl rfl rfl zk_cReader.look rfl (Nat.le_of_ble_eq_true rfl) (Nat.le_of_ble_eq_true rfl) (fun w1 h1 => ok_Reader_hold h1) (by decide) rfl hF (fun s13 hF => ?_)
      refine w_aload_n (pc2 := 80) rfl rfl rfl ?_
      refine w_iconst (pc2 := 81) rfl rfl ?_
      refine j_puti (pc2 := 84) (j := 5) rfl zk_cReader rfl (Nat.le_of_ble_eq_true rfl) rfl zk_wReader_5 (by decide) rfl hF (fun s14 hF => ?_)
      refine w_aload_n (pc2 := 85) rfl rfl rfl ?_
      refine w_iconst (pc2 := 86) rfl rfl ?_
      refine j_puti (pc2 := 89) (j := 6) rfl zk_cReader rfl (Nat.le_of_ble_eq_true rfl) rfl zk_wReader_6 (by decide) rfl hF (fun s15 hF => ?_)
      exact j_vret rfl rfl hF
    · refine j_join0 (P := fun (s16 : ZS) => zz_wp zt_ms zt_nm zt_df (zt_X L xs) 2 zt_m66 49 [(0, .ref 98), (1, .ref o1), (3, .int v3), (4, .int v5)] [.ref 1] (zk b s16) (qV b w)) hF (fun s16 hF => ?_) (fun k17 hk17 hF => ?_)
      · refine w_iconst (pc2 := 50) rfl rfl ?_
        refine w_goto rfl ?_
        exact j_norm (l := [(0, .ref 98), (1, .ref o1), (3, .int v3), (4, .int v5)]) ⟨rfl, rfl, rfl, rfl, trivial⟩ (zz_nd_of (ks := [0, 1, 3, 4]) rfl (by decide)) (hk8 (2 : Int32) s16 hF)
      · refine j_icmp_eq (pc2 := 42) rfl rfl hF (fun hF => ?_) (fun hF => ?_)
        · exact j_norm (l := [(0, .ref 98), (1, .ref o1), (3, .int v3), (4, .int v5)]) ⟨rfl, rfl, rfl, rfl, trivial⟩ (zz_nd_of (ks := [0, 1, 3, 4]) rfl (by decide)) (hk17 s4 hF)
        · refine w_iload (pc2 := 44) rfl rfl rfl ?_
          refine w_bipush (pc2 := 46) rfl rfl ?_
          refine j_icmp_ne (pc2 := 49) rfl rfl hF (fun hF => ?_) (fun hF => ?_)
          · refine w_iconst (pc2 := 54) rfl rfl ?_
            exact j_norm (l := [(0, .ref 98), (1, .ref o1), (3, .int v3), (4, .int v5)]) ⟨rfl, rfl, rfl, rfl, trivial⟩ (zz_nd_of (ks := [0, 1, 3, 4]) rfl (by decide)) (hk8 (1 : Int32) s4 hF)
          · exact j_norm (l := [(0, .ref 98), (1, .ref o1), (3, .int v3), (4, .int v5)]) ⟨rfl, rfl, rfl, rfl, trivial⟩ (zz_nd_of (ks := [0, 1, 3, 4]) rfl (by decide)) (hk17 s4 hF)
  · refine w_aload_n (pc2 := 22) rfl rfl rfl ?_
    refine w_getfield (pc2 := 25) rfl zk_cReader rfl rfl rfl ?_
    refine w_iload_n (pc2 := 26) rfl rfl rfl ?_
    refine w_iconst (pc2 := 27) rfl rfl ?_
    refine j_cVv (pc2 := 30) (k := 0) (c := zt_m96) (as := [.ref 1, .int v3, .int (0 : Int32)]) (rest := []) rfl rfl rfl rfl zk_cTape.look rfl (Nat.le_of_ble_eq_true rfl) (Nat.le_of_ble_eq_true rfl) (fun w1 h1 => ok_Tape_refuse h1) (by decide) rfl hF (fun s18 hF => ?_)
    exact j_vret rfl rfl hF
noncomputable def f_Reader_takeBehindFact (o1 : Nat) (p2 : Int32) (s0 : ZS) : Option (ZS) := zcl (f_Tape_wordAmong 1000015 s0) (fun (v4 : Int32) (s3 : ZS) => (if v4 = (-1 : Int32) then zcv (f_Reader_release o1 (1 : Int32) s3) (fun (s5 : ZS) => zgi (s5.1 98 2) (fun (v6 : Int32) => (if ¬ v6 = 0 then (if ¬ p2 = (93 : Int32) then zgi (s5.1 1 2) (fun (v7 : Int32) => zcv (f_Tape_refuse v7 (0 : Int32) s5) (fun (s8 : ZS) => some s8)) else zgi (s5.1 98 2) (fun (v9 : Int32) => zwi s5 98 2 ((v9 - (1 : Int32))) (fun (s10 : ZS) => zgi (s10.1 98 3) (fun (v11 : Int32) => zwi s10 98 3 ((v11 - (1 : Int32))) (fun (s12 : ZS) => zcv (f_Tape_pass (1 : Int32) s12) (fun (s13 : ZS) => zwi s13 98 6 (3 : Int32) (fun (s14 : ZS) => some s14))))))) else zwi s5 98 6 (4 : Int32) (fun (s15 : ZS) => some s15)))) else zjn (A := Int32) (fun (a17 : Int32) (s16 : ZS) => zcl (f_Tape_wordSize s16) (fun (v20 : Int32) (s19 : ZS) => zcv (f_Tape_pass v20 s19) (fun (s21 : ZS) => zrd 16 a17 zt_bind (fun (v22 : Int32) => zcv (f_Reader_release o1 v22 s21) (fun (s23 : ZS) => zcv (f_Reader_hold a17 s23) (fun (s24 : ZS) => zwi s24 98 6 (1 : Int32) (fun (s25 : ZS) => some s25))))))) (fun (k18 : Int32 → ZS → Option (ZS)) => (if ¬ v4 = 0 then k18 (13 : Int32) s3 else k18 (14 : Int32) s3))))
set_option maxHeartbeats 4000000 in
set_option maxRecDepth 100000 in
theorem ok_Reader_takeBehindFact {L : Nat} {xs : Nat → Int32} {b : ZH} {o1 : Nat} {p2 : Int32} (ho1 : zk_isRule o1) {s0 : ZS} {w : ZS} (hF : f_Reader_takeBehindFact o1 p2 s0 = some w) : zz_ct zt_ms zt_nm zt_df (zt_X L xs) 6 zt_m68 [.ref 98, .ref o1, .int p2] (zk b s0) (qV b w) := by
  unfold f_Reader_takeBehindFact at hF
  change zz_wp zt_ms zt_nm zt_df (zt_X L xs) 6 zt_m68 0 [(0, .ref 98), (1, .ref o1), (2, .int p2)] [] (zk b s0) (qV b w)
  refine w_aload_n (pc2 := 1) rfl rfl rfl ?_
  refine w_getfield (pc2 := 4) rfl zk_cReader rfl rfl rfl ?_
  refine w_ldc (pc2 := 6) rfl rfl ?_
  refine j_cIv (pc2 := 9) (k := 5) (c := zt_m92) (as := [.ref 1, .ref 1000015]) (rest := []) rfl rfl rfl rfl zk_cTape.look rfl (Nat.le_of_ble_eq_true rfl) (Nat.le_of_ble_eq_true rfl) (fun w1 h1 => ok_Tape_wordAmong zk_str5 h1) (by decide) rfl hF (fun v4 s3 hF => ?_)
  refine w_istore_n (pc2 := 10) (ls2 := [(3, .int v4), (0, .ref 98), (1, .ref o1), (2, .int p2)]) rfl rfl rfl ?_
  refine w_iload_n (pc2 := 11) rfl rfl rfl ?_
  refine w_iconst (pc2 := 12) rfl rfl ?_
  refine j_icmp_eq (pc2 := 15) rfl rfl hF (fun hF => ?_) (fun hF => ?_)
  · refine w_aload_n (pc2 := 66) rfl rfl rfl ?_
    refine w_aload_n (pc2 := 67) rfl rfl rfl ?_
    refine w_iconst (pc2 := 68) rfl rfl ?_
    refine j_cVv (pc2 := 71) (k := 1) (c := zt_m64) (as := [.ref 98, .ref o1, .int (1 : Int32)]) (rest := []) rfl rfl rfl rfl zk_cReader.look rfl (Nat.le_of_ble_eq_true rfl) (Nat.le_of_ble_eq_true rfl) (fun w1 h1 => ok_Reader_release ho1 h1) (by decide) rfl hF (fun s5 hF => ?_)
    refine w_aload_n (pc2 := 72) rfl rfl rfl ?_
    refine j_geti (pc2 := 75) rfl zk_cReader rfl rfl rfl hF (fun v6 hF => ?_)
    refine j_if_ne (pc2 := 78) rfl rfl hF (fun hF => ?_) (fun hF => ?_)
    · refine w_iload_n (pc2 := 87) rfl rfl rfl ?_
      refine w_bipush (pc2 := 89) rfl rfl ?_
      refine j_icmp_ne (pc2 := 92) rfl rfl hF (fun hF => ?_) (fun hF => ?_)
      · refine w_aload_n (pc2 := 129) rfl rfl rfl ?_
        refine w_getfield (pc2 := 132) rfl zk_cReader rfl rfl rfl ?_
        refine w_aload_n (pc2 := 133) rfl rfl rfl ?_
        refine w_getfield (pc2 := 136) rfl zk_cReader rfl rfl rfl ?_
        refine j_geti (pc2 := 139) rfl zk_cTape rfl rfl rfl hF (fun v7 hF => ?_)
        refine w_iconst (pc2 := 140) rfl rfl ?_
        refine j_cVv (pc2 := 143) (k := 0) (c := zt_m96) (as := [.ref 1, .int v7, .int (0 : Int32)]) (rest := []) rfl rfl rfl rfl zk_cTape.look rfl (Nat.le_of_ble_eq_true rfl) (Nat.le_of_ble_eq_true rfl) (fun w1 h1 => ok_Tape_refuse h1) (by decide) rfl hF (fun s8 hF => ?_)
        exact j_vret rfl rfl hF
      · refine w_aload_n (pc2 := 93) rfl rfl rfl ?_
        refine w_dup (pc2 := 94) rfl rfl rfl ?_
        refine j_geti (pc2 := 97) rfl zk_cReader rfl rfl rfl hF (fun v9 hF => ?_)
        refine w_iconst (pc2 := 98) rfl rfl ?_
        refine w_isub (pc2 := 99) rfl rfl ?_
        refine j_puti (pc2 := 102) (j := 2) rfl zk_cReader rfl (Nat.le_of_ble_eq_true rfl) rfl zk_wReader_2 (by decide) rfl hF (fun s10 hF => ?_)
        refine w_aload_n (pc2 := 103) rfl rfl rfl ?_
        refine w_dup (pc2 := 104) rfl rfl rfl ?_
        refine j_geti (pc2 := 107) rfl zk_cReader rfl rfl rfl hF (fun v11 hF => ?_)
        refine w_iconst (pc2 := 108) rfl rfl ?_
        refine w_isub (pc2 := 109) rfl rfl ?_
        refine j_puti (pc2 := 112) (j := 3) rfl zk_cReader rfl (Nat.le_of_ble_eq_true rfl) rfl zk_wReader_3 (by decide) rfl hF (fun s12 hF => ?_)
        refine w_aload_n (pc2 := 113) rfl rfl rfl ?_
        refine w_getfield (pc2 := 116) rfl zk_cReader rfl rfl rfl ?_
        refine w_iconst (pc2 := 117) rfl rfl ?_
        refine j_cVv (pc2 := 120) (k := 0) (c := zt_m97) (as := [.ref 1, .int (1 : Int32)]) (rest := []) rfl rfl rfl rfl zk_cTape.look rfl (Nat.le_of_ble_eq_true rfl) (Nat.le_of_ble_eq_true rfl) (fun w1 h1 => ok_Tape_pass h1) (by decide) rfl hF (fun s13 hF => ?_)
        refine w_aload_n (pc2 := 121) rfl rfl rfl ?_
        refine w_iconst (pc2 := 122) rfl rfl ?_
        refine j_puti (pc2 := 125) (j := 6) rfl zk_cReader rfl (Nat.le_of_ble_eq_true rfl) rfl zk_wReader_6 (by decide) rfl hF (fun s14 hF => ?_)
        refine w_goto rfl ?_
        exact j_vret rfl rfl hF
    · refine w_aload_n (pc2 := 79) rfl rfl rfl ?_
      refine w_iconst (pc2 := 80) rfl rfl ?_
      refine j_puti (pc2 := 83) (j := 6) rfl zk_cReader rfl (Nat.le_of_ble_eq_true rfl) rfl zk_wReader_6 (by decide) rfl hF (fun s15 hF => ?_)
      refine w_goto rfl ?_
      exact j_vret rfl rfl hF
  · refine w_iload_n (pc2 := 16) rfl rfl rfl ?_
    refine j_join (P := fun (a17 : Int32) (s16 : ZS) => zz_wp zt_ms zt_nm zt_df (zt_X L xs) 6 zt_m68 26 [(0, .ref 98), (1, .ref o1)] [.int a17] (zk b s16) (qV b w)) hF (fun a17 s16 hF => ?_) (fun k18 hk18 hF => ?_)
    · refine w_istore (pc2 := 28) (ls2 := [(4, .int a17), (0, .ref 98), (1, .ref o1)]) rfl rfl rfl ?_
      refine w_aload_n (pc2 := 29) rfl rfl rfl ?_
      refine w_getfield (pc2 := 32) rfl zk_cReader rfl rfl rfl ?_
      refine w_aload_n (pc2 := 33) rfl rfl rfl ?_
      refine w_getfield (pc2 := 36) rfl zk_cReader rfl rfl rfl ?_
      refine j_cIv (pc2 := 39) (k := 0) (c := zt_m94) (as := [.ref 1]) (rest := [.ref 1]) rfl rfl rfl rfl zk_cTape.look rfl (Nat.le_of_ble_eq_true rfl) (Nat.le_of_ble_eq_true rfl) (fun w1 h1 => ok_Tape_wordSize h1) (by decide) rfl hF (fun v20 s19 hF => ?_)
      refine j_cVv (pc2 := 42) (k := 0) (c := zt_m97) (as := [.ref 1, .int v20]) (rest := []) rfl rfl rfl rfl zk_cTape.look rfl (Nat.le_of_ble_eq_true rfl) (Nat.le_of_ble_eq_true rfl) (fun w1 h1 => ok_Tape_pass h1) (by decide) rfl hF (fun s21 hF => ?_)
      refine w_aload_n (pc2 := 43) rfl rfl rfl ?_
      refine w_aload_n (pc2 := 44) rfl rfl rfl ?_
      refine w_getstatic (pc2 := 47) rfl rfl ?_
      refine w_iload (pc2 := 49) rfl rfl rfl ?_
      refine j_ialoadR (pc2 := 50) rfl rfl rfl hF (fun v22 hF => ?_)
      refine j_cVv (pc2 := 53) (k := 1) (c := zt_m64) (as := [.ref 98, .ref o1, .int v22]) (rest := []) rfl rfl rfl rfl zk_cReader.look rfl (Nat.le_of_ble_eq_true rfl) (Nat.le_of_ble_eq_true rfl) (fun w1 h1 => ok_Reader_release ho1 h1) (by decide) rfl hF (fun s23 hF => ?_)
      refine w_aload_n (pc2 := 54) rfl rfl rfl ?_
      refine w_iload (pc2 := 56) rfl rfl rfl ?_
      refine j_cVv (pc2 := 59) (k := 0) (c := zt_m61) (as := [.ref 98, .int a17]) (rest := []) rfl rfl rfl rfl zk_cReader.look rfl (Nat.le_of_ble_eq_true rfl) (Nat.le_of_ble_eq_true rfl) (fun w1 h1 => ok_Reader_hold h1) (by decide) rfl hF (fun s24 hF => ?_)
      refine w_aload_n (pc2 := 60) rfl rfl rfl ?_
      refine w_iconst (pc2 := 61) rfl rfl ?_
      refine j_puti (pc2 := 64) (j := 6) rfl zk_cReader rfl (Nat.le_of_ble_eq_true rfl) rfl zk_wReader_6 (by decide) rfl hF (fun s25 hF => ?_)
      exact j_vret rfl rfl hF
    · refine j_if_ne (pc2 := 19) rfl rfl hF (fun hF => ?_) (fun hF => ?_)
      · refine w_bipush (pc2 := 26) rfl rfl ?_
        exact j_norm (l := [(0, .ref 98), (1, .ref o1)]) ⟨rfl, rfl, trivial⟩ (zz_nd_of (ks := [0, 1]) rfl (by decide)) (hk18 (13 : Int32) s3 hF)
      · refine w_bipush (pc2 := 21) rfl rfl ?_
        refine w_goto rfl ?_
        exact j_norm (l := [(0, .ref 98), (1, .ref o1)]) ⟨rfl, rfl, trivial⟩ (zz_nd_of (ks := [0, 1]) rfl (by decide)) (hk18 (14 : Int32) s3 hF)
