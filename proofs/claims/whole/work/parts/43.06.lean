/-! What methods do as functions of the state, and that the small machine does so. -/
noncomputable def f_Reader_takeBehindValue (o1 : Nat) (p2 : Int32) (s0 : ZS) : Option (ZS) := zcl (f_Reader_operator p2 s0) (fun (v4 : Int32) (s3 : ZS) => (if v4 = (-1 : Int32) then zgi (s3.1 98 5) (fun (v5 : Int32) => (if ¬ v5 = 0 then zgi (s3.1 98 5) (fun (v6 : Int32) => (if ¬ v6 = (1 : Int32) then zcv (f_Reader_takeBehindFact o1 p2 s3) (fun (s7 : ZS) => some s7) else zcv (f_Reader_takeSign o1 p2 s3) (fun (s8 : ZS) => some s8))) else zcv (f_Reader_takeBehindSaid o1 s3) (fun (s9 : ZS) => some s9))) else zcv (f_Tape_pass (1 : Int32) s3) (fun (s10 : ZS) => zrd 16 v4 zt_bind (fun (v11 : Int32) => zcv (f_Reader_release o1 v11 s10) (fun (s12 : ZS) => zcv (f_Reader_hold v4 s12) (fun (s13 : ZS) => zwi s13 98 6 (0 : Int32) (fun (s14 : ZS) => some s14)))))))
set_option maxHeartbeats 4000000 in
set_option maxRecDepth 100000 in
theorem ok_Reader_takeBehindValue {L : Nat} {xs : Nat → Int32} {b : ZH} {o1 : Nat} {p2 : Int32} (ho1 : zk_isRule o1) {s0 : ZS} {w : ZS} (hF : f_Reader_takeBehindValue o1 p2 s0 = some w) : zz_ct zt_ms zt_nm zt_df (zt_X L xs) 7 zt_m62 [.ref 98, .ref o1, .int p2] (zk b s0) (qV b w) := by
  unfold f_Reader_takeBehindValue at hF
  change zz_wp zt_ms zt_nm zt_df (zt_X L xs) 7 zt_m62 0 [(0, .ref 98), (1, .ref o1), (2, .int p2)] [] (zk b s0) (qV b w)
  refine w_iload_n (pc2 := 1) rfl rfl rfl ?_
  refine j_cIs (pc2 := 4) (k := 0) (c := zt_m63) (as := [.int p2]) (rest := []) rfl rfl rfl (Nat.le_of_ble_eq_true rfl) rfl rfl (Nat.le_of_ble_eq_true rfl) (Nat.le_of_ble_eq_true rfl) (fun w1 h1 => ok_Reader_operator h1) (by decide) rfl hF (fun v4 s3 hF => ?_)
  refine w_istore_n (pc2 := 5) (ls2 := [(3, .int v4), (0, .ref 98), (1, .ref o1), (2, .int p2)]) rfl rfl rfl ?_
  refine w_iload_n (pc2 := 6) rfl rfl rfl ?_
  refine w_iconst (pc2 := 7) rfl rfl ?_
  refine j_icmp_eq (pc2 := 10) rfl rfl hF (fun hF => ?_) (fun hF => ?_)
  · refine w_aload_n (pc2 := 42) rfl rfl rfl ?_
    refine j_geti (pc2 := 45) rfl zk_cReader rfl rfl rfl hF (fun v5 hF => ?_)
    refine j_if_ne (pc2 := 48) rfl rfl hF (fun hF => ?_) (fun hF => ?_)
    · refine w_aload_n (pc2 := 57) rfl rfl rfl ?_
      refine j_geti (pc2 := 60) rfl zk_cReader rfl rfl rfl hF (fun v6 hF => ?_)
      refine w_iconst (pc2 := 61) rfl rfl ?_
      refine j_icmp_ne (pc2 := 64) rfl rfl hF (fun hF => ?_) (fun hF => ?_)
      · refine w_aload_n (pc2 := 74) rfl rfl rfl ?_
        refine w_aload_n (pc2 := 75) rfl rfl rfl ?_
        refine w_iload_n (pc2 := 76) rfl rfl rfl ?_
        refine j_cVv (pc2 := 79) (k := 6) (c := zt_m68) (as := [.ref 98, .ref o1, .int p2]) (rest := []) rfl rfl rfl rfl zk_cReader.look rfl (Nat.le_of_ble_eq_true rfl) (Nat.le_of_ble_eq_true rfl) (fun w1 h1 => ok_Reader_takeBehindFact ho1 h1) (by decide) rfl hF (fun s7 hF => ?_)
        exact j_vret rfl rfl hF
      · refine w_aload_n (pc2 := 65) rfl rfl rfl ?_
        refine w_aload_n (pc2 := 66) rfl rfl rfl ?_
        refine w_iload_n (pc2 := 67) rfl rfl rfl ?_
        refine j_cVv (pc2 := 70) (k := 2) (c := zt_m66) (as := [.ref 98, .ref o1, .int p2]) (rest := []) rfl rfl rfl rfl zk_cReader.look rfl (Nat.le_of_ble_eq_true rfl) (Nat.le_of_ble_eq_true rfl) (fun w1 h1 => ok_Reader_takeSign ho1 h1) (by decide) rfl hF (fun s8 hF => ?_)
        refine w_goto rfl ?_
        exact j_vret rfl rfl hF
    · refine w_aload_n (pc2 := 49) rfl rfl rfl ?_
      refine w_aload_n (pc2 := 50) rfl rfl rfl ?_
      refine j_cVv (pc2 := 53) (k := 6) (c := zt_m65) (as := [.ref 98, .ref o1]) (rest := []) rfl rfl rfl rfl zk_cReader.look rfl (Nat.le_of_ble_eq_true rfl) (Nat.le_of_ble_eq_true rfl) (fun w1 h1 => ok_Reader_takeBehindSaid ho1 h1) (by decide) rfl hF (fun s9 hF => ?_)
      refine w_goto rfl ?_
      exact j_vret rfl rfl hF
  · refine w_aload_n (pc2 := 11) rfl rfl rfl ?_
    refine w_getfield (pc2 := 14) rfl zk_cReader rfl rfl rfl ?_
    refine w_iconst (pc2 := 15) rfl rfl ?_
    refine j_cVv (pc2 := 18) (k := 0) (c := zt_m97) (as := [.ref 1, .int (1 : Int32)]) (rest := []) rfl rfl rfl rfl zk_cTape.look rfl (Nat.le_of_ble_eq_true rfl) (Nat.le_of_ble_eq_true rfl) (fun w1 h1 => ok_Tape_pass h1) (by decide) rfl hF (fun s10 hF => ?_)
    refine w_aload_n (pc2 := 19) rfl rfl rfl ?_
    refine w_aload_n (pc2 := 20) rfl rfl rfl ?_
    refine w_getstatic (pc2 := 23) rfl rfl ?_
    refine w_iload_n (pc2 := 24) rfl rfl rfl ?_
    refine j_ialoadR (pc2 := 25) rfl rfl rfl hF (fun v11 hF => ?_)
    refine j_cVv (pc2 := 28) (k := 1) (c := zt_m64) (as := [.ref 98, .ref o1, .int v11]) (rest := []) rfl rfl rfl rfl zk_cReader.look rfl (Nat.le_of_ble_eq_true rfl) (Nat.le_of_ble_eq_true rfl) (fun w1 h1 => ok_Reader_release ho1 h1) (by decide) rfl hF (fun s12 hF => ?_)
    refine w_aload_n (pc2 := 29) rfl rfl rfl ?_
    refine w_iload_n (pc2 := 30) rfl rfl rfl ?_
    refine j_cVv (pc2 := 33) (k := 0) (c := zt_m61) (as := [.ref 98, .int v4]) (rest := []) rfl rfl rfl rfl zk_cReader.look rfl (Nat.le_of_ble_eq_true rfl) (Nat.le_of_ble_eq_true rfl) (fun w1 h1 => ok_Reader_hold h1) (by decide) rfl hF (fun s13 hF => ?_)
    refine w_aload_n (pc2 := 34) rfl rfl rfl ?_
    refine w_iconst (pc2 := 35) rfl rfl ?_
    refine j_puti (pc2 := 38) (j := 6) rfl zk_cReader rfl (Nat.le_of_ble_eq_true rfl) rfl zk_wReader_6 (by decide) rfl hF (fun s14 hF => ?_)
    refine w_goto rfl ?_
    exact j_vret rfl rfl hF
noncomputable def f_Reader_readClause_B87 (o1 : Nat) (k13 : ZS → Option (ZS)) (a15 : Int32) (s16 : ZS) (g17 : Int32 → ZS → Option (ZS)) : Option (ZS) := (if (400 : Int32) < a15 then k13 s16 else zgi (s16.1 98 6) (fun (v18 : Int32) => (if v18 = (4 : Int32) then k13 s16 else zgi (s16.1 1 3) (fun (v19 : Int32) => (if ¬ v19 = 0 then k13 s16 else zcl (f_Tape_next s16) (fun (v21 : Int32) (s20 : ZS) => zgi (s20.1 98 6) (fun (v22 : Int32) => zj0 (fun (s23 : ZS) => g17 (a15 + (1 : Int32)) s23) (fun (k24 : ZS → Option (ZS)) => (if ¬ v22 = 0 then zgi (s20.1 98 6) (fun (v25 : Int32) => (if ¬ v25 = (1 : Int32) then zgi (s20.1 98 6) (fun (v26 : Int32) => (if ¬ v26 = (2 : Int32) then zcv (f_Reader_takeBehindFact o1 v21 s20) (fun (s27 : ZS) => k24 s27) else zcv (f_Reader_takeBehindValue o1 v21 s20) (fun (s28 : ZS) => k24 s28))) else zcv (f_Reader_takeFactBegin o1 v21 s20) (fun (s29 : ZS) => k24 s29))) else zcv (f_Reader_takeValue o1 v21 s20) (fun (s30 : ZS) => k24 s30))))))))))
noncomputable def f_Reader_readClause (o1 : Nat) (p2 : Int32) (s0 : ZS) : Option (ZS) := zcl (f_Tape_wordAmong 1000011 s0) (fun (v4 : Int32) (s3 : ZS) => (if ¬ v4 = (-1 : Int32) then (if p2 < (12 : Int32) then zcl (f_Tape_wordSize s3) (fun (v6 : Int32) (s5 : ZS) => zcv (f_Tape_pass v6 s5) (fun (s7 : ZS) => zwi s7 98 2 (0 : Int32) (fun (s8 : ZS) => zwi s8 98 3 (0 : Int32) (fun (s9 : ZS) => zwi s9 98 5 (0 : Int32) (fun (s10 : ZS) => zwi s10 98 6 (0 : Int32) (fun (s11 : ZS) => zj0 (fun (s12 : ZS) => zcv (f_Rule_add o1 (15 : Int32) (0 : Int32) s12) (fun (s14 : ZS) => some s14)) (fun (k13 : ZS → Option (ZS)) => zlp zN (f_Reader_readClause_B87 o1 k13) (0 : Int32) s11))))))) else zgi (s3.1 1 2) (fun (v31 : Int32) => zcv (f_Tape_refuse v31 (4 : Int32) s3) (fun (s32 : ZS) => some s32))) else zgi (s3.1 1 2) (fun (v33 : Int32) => zcv (f_Tape_refuse v33 (0 : Int32) s3) (fun (s34 : ZS) => some s34))))
set_option maxHeartbeats 4000000 in
set_option maxRecDepth 100000 in
theorem ok_Reader_readClause {L : Nat} {xs : Nat → Int32} {b : ZH} {o1 : Nat} {p2 : Int32} (ho1 : zk_isRule o1) {s0 : ZS} {w : ZS} (hF : f_Reader_readClause o1 p2 s0 = some w) : zz_ct zt_ms zt_nm zt_df (zt_X L xs) 8 zt_m56 [.ref 98, .ref o1, .int p2] (zk b s0) (qV b w) := by
  unfold f_Reader_readClause at hF
  change zz_wp zt_ms zt_nm zt_df (zt_X L xs) 8 zt_m56 0 [(0, .ref 98), (1, .ref o1), (2, .int p2)] [] (zk b s0) (qV b w)
  refine w_aload_n (pc2 := 1) rfl rfl rfl ?_
  refine w_getfield (pc2 := 4) rfl zk_cReader rfl rfl rfl ?_
  refine w_ldc (pc2 := 6) rfl rfl ?_
  refine j_cIv (pc2 := 9) (k := 5) (c := zt_m92) (as := [.ref 1, .ref 1000011]) (rest := []) rfl rfl rfl rfl zk_cTape.look rfl (Nat.le_of_ble_eq_true rfl) (Nat.le_of_ble_eq_true rfl) (fun w1 h1 => ok_Tape_wordAmong zk_str1 h1) (by decide) rfl hF (fun v4 s3 hF => ?_)
  refine w_iconst (pc2 := 10) rfl rfl ?_
  refine j_icmp_ne (pc2 := 13) rfl rfl hF (fun hF => ?_) (fun hF => ?_)
  · refine w_iload_n (pc2 := 30) rfl rfl rfl ?_
    refine w_bipush (pc2 := 32) rfl rfl ?_
    refine j_icmp_lt (pc2 := 35) rfl rfl hF (fun hF => ?_) (fun hF => ?_)
    · refine w_aload_n (pc2 := 52) rfl rfl rfl ?_
      refine w_getfield (pc2 := 55) rfl zk_cReader rfl rfl rfl ?_
      refine w_aload_n (pc2 := 56) rfl rfl rfl ?_
      refine w_getfield (pc2 := 59) rfl zk_cReader rfl rfl rfl ?_
      refine j_cIv (pc2 := 62) (k := 0) (c := zt_m94) (as := [.ref 1]) (rest := [.ref 1]) rfl rfl rfl rfl zk_cTape.look rfl (Nat.le_of_ble_eq_true rfl) (Nat.le_of_ble_eq_true rfl) (fun w1 h1 => ok_Tape_wordSize h1) (by decide) rfl hF (fun v6 s5 hF => ?_)
      refine j_cVv (pc2 := 65) (k := 0) (c := zt_m97) (as := [.ref 1, .int v6]) (rest := []) rfl rfl rfl rfl zk_cTape.look rfl (Nat.le_of_ble_eq_true rfl) (Nat.le_of_ble_eq_true rfl) (fun w1 h1 => ok_Tape_pass h1) (by decide) rfl hF (fun s7 hF => ?_)
      refine w_aload_n (pc2 := 66) rfl rfl rfl ?_
      refine w_iconst (pc2 := 67) rfl rfl ?_
      refine j_puti (pc2 := 70) (j := 2) rfl zk_cReader rfl (Nat.le_of_ble_eq_true rfl) rfl zk_wReader_2 (by decide) rfl hF (fun s8 hF => ?_)
      refine w_aload_n (pc2 := 71) rfl rfl rfl ?_
      refine w_iconst (pc2 := 72) rfl rfl ?_
      refine j_puti (pc2 := 75) (j := 3) rfl zk_cReader rfl (Nat.le_of_ble_eq_true rfl) rfl zk_wReader_3 (by decide) rfl hF (fun s9 hF => ?_)
      refine w_aload_n (pc2 := 76) rfl rfl rfl ?_
      refine w_iconst (pc2 := 77) rfl rfl ?_
      refine j_puti (pc2 := 80) (j := 5) rfl zk_cReader rfl (Nat.le_of_ble_eq_true rfl) rfl zk_wReader_5 (by decide) rfl hF (fun s10 hF => ?_)
      refine w_aload_n (pc2 := 81) rfl rfl rfl ?_
      refine w_iconst (pc2 := 82) rfl rfl ?_
      refine j_puti (pc2 := 85) (j := 6) rfl zk_cReader rfl (Nat.le_of_ble_eq_true rfl) rfl zk_wReader_6 (by decide) rfl hF (fun s11 hF => ?_)
      refine w_iconst (pc2 := 86) rfl rfl ?_
      refine w_istore_n (pc2 := 87) (ls2 := [(3, .int (0 : Int32)), (0, .ref 98), (1, .ref o1), (2, .int p2)]) rfl rfl rfl ?_
      refine j_join0 (P := fun (s12 : ZS) => zz_wp zt_ms zt_nm zt_df (zt_X L xs) 8 zt_m56 187 [(1, .ref o1)] [] (zk b s12) (qV b w)) hF (fun s12 hF => ?_) (fun k13 hk13 hF => ?_)
      · refine w_aload_n (pc2 := 188) rfl rfl rfl ?_
        refine w_bipush (pc2 := 190) rfl rfl ?_
        refine w_iconst (pc2 := 191) rfl rfl ?_
        refine j_cVv (pc2 := 194) (k := 0) (c := zt_m51) (as := [.ref o1, .int (15 : Int32), .int (0 : Int32)]) (rest := []) rfl rfl rfl rfl (zk_cRule ho1).look rfl (Nat.le_of_ble_eq_true rfl) (Nat.le_of_ble_eq_true rfl) (fun w1 h1 => ok_Rule_add ho1 h1) (by decide) rfl hF (fun s14 hF => ?_)
        exact j_vret rfl rfl hF
      · refine j_norm (l := [(0, .ref 98), (1, .ref o1), (3, .int (0 : Int32))]) ⟨rfl, rfl, rfl, trivial⟩ (zz_nd_of (ks := [0, 1, 3]) rfl (by decide)) ?_
        refine j_loop (P := fun (a15 : Int32) (s16 : ZS) => zz_wp zt_ms zt_nm zt_df (zt_X L xs) 8 zt_m56 87 [(0, .ref 98), (1, .ref o1), (3, .int a15)] [] (zk b s16) (qV b w)) hF (fun a15 s16 g17 hg17 hF => ?_)
        unfold f_Reader_readClause_B87 at hF
        refine w_iload_n (pc2 := 88) rfl rfl rfl ?_
        refine w_sipush (pc2 := 91) rfl rfl ?_
        refine j_icmp_gt (pc2 := 94) rfl rfl hF (fun hF => ?_) (fun hF => ?_)
        · exact j_norm (l := [(1, .ref o1)]) ⟨rfl, trivial⟩ (zz_nd_of (ks := [1]) rfl (by decide)) (hk13 s16 hF)
        · refine w_aload_n (pc2 := 95) rfl rfl rfl ?_
          refine j_geti (pc2 := 98) rfl zk_cReader rfl rfl rfl hF (fun v18 hF => ?_)
          refine w_iconst (pc2 := 99) rfl rfl ?_
          refine j_icmp_eq (pc2 := 102) rfl rfl hF (fun hF => ?_) (fun hF => ?_)
          · exact j_norm (l := [(1, .ref o1)]) ⟨rfl, trivial⟩ (zz_nd_of (ks := [1]) rfl (by decide)) (hk13 s16 hF)
          · refine w_aload_n (pc2 := 103) rfl rfl rfl ?_
            refine w_getfield (pc2 := 106) rfl zk_cReader rfl rfl rfl ?_
            refine j_geti (pc2 := 109) rfl zk_cTape rfl rfl rfl hF (fun v19 hF => ?_)
            refine j_if_ne (pc2 := 112) rfl rfl hF (fun hF => ?_) (fun hF => ?_)
            · exact j_norm (l := [(1, .ref o1)]) ⟨rfl, trivial⟩ (zz_nd_of (ks := [1]) rfl (by decide)) (hk13 s16 hF)
            · refine w_aload_n (pc2 := 113) rfl rfl rfl ?_
              refine w_getfield (pc2 := 116) rfl zk_cReader rfl rfl rfl ?_
              refine j_cIv (pc2 := 119) (k := 0) (c := zt_m93) (as := [.ref 1]) (rest := []) rfl rfl rfl rfl zk_cTape.look rfl (Nat.le_of_ble_eq_true rfl) (Nat.le_of_ble_eq_true rfl) (fun w1 h1 => ok_Tape_next h1) (by decide) rfl hF (fun v21 s20 hF => ?_)
              refine w_istore (pc2 := 121) (ls2 := [(4, .int v21), (0, .ref 98), (1, .ref o1), (3, .int a15)]) rfl rfl rfl ?_
              refine w_aload_n (pc2 := 122) rfl rfl rfl ?_
              refine j_geti (pc2 := 125) rfl zk_cReader rfl rfl rfl hF (fun v22 hF => ?_)
              refine j_join0 (P := fun (s23 : ZS) => zz_wp zt_ms zt_nm zt_df (zt_X L xs) 8 zt_m56 181 [(0, .ref 98), (1, .ref o1), (3, .int a15)] [] (zk b s23) (qV b w)) hF (fun s23 hF => ?_) (fun k24 hk24 hF => ?_)
              · refine w_iinc (pc2 := 184) (ls2 := [(3, .int ((a15 + (1 : Int32)))), (0, .ref 98), (1, .ref o1)]) rfl rfl rfl rfl ?_
                refine w_goto rfl ?_
                exact j_norm (l := [(0, .ref 98), (1, .ref o1), (3, .int ((a15 + (1 : Int32))))]) ⟨rfl, rfl, rfl, trivial⟩ (zz_nd_of (ks := [0, 1, 3]) rfl (by decide)) (hg17 (a15 + (1 : Int32)) s23 hF)
              · refine j_if_ne (pc2 := 128) rfl rfl hF (fun hF => ?_) (fun hF => ?_)
                · refine w_aload_n (pc2 := 139) rfl rfl rfl ?_
                  refine j_geti (pc2 := 142) rfl zk_cReader rfl rfl rfl hF (fun v25 hF => ?_)
                  refine w_iconst (pc2 := 143) rfl rfl ?_
                  refine j_icmp_ne (pc2 := 146) rfl rfl hF (fun hF => ?_) (fun hF => ?_)
                  · refine w_aload_n (pc2 := 157) rfl rfl rfl ?_
                    refine j_geti (pc2 := 160) rfl zk_cReader rfl rfl rfl hF (fun v26 hF => ?_)
                    refine w_iconst (pc2 := 161) rfl rfl ?_
                    refine j_icmp_ne (pc2 := 164) rfl rfl hF (fun hF => ?_) (fun hF => ?_)
                    · refine w_aload_n (pc2 := 175) rfl rfl rfl ?_
                      refine w_aload_n (pc2 := 176) rfl rfl rfl ?_
                      refine w_iload (pc2 := 178) rfl rfl rfl ?_
                      refine j_cVv (pc2 := 181) (k := 6) (c := zt_m68) (as := [.ref 98, .ref o1, .int v21]) (rest := []) rfl rfl rfl rfl zk_cReader.look rfl (Nat.le_of_ble_eq_true rfl) (Nat.le_of_ble_eq_true rfl) (fun w1 h1 => ok_Reader_takeBehindFact ho1 h1) (by decide) rfl hF (fun s27 hF => ?_)
                      exact j_norm (l := [(0, .ref 98), (1, .ref o1), (3, .int a15)]) ⟨rfl, rfl, rfl, trivial⟩ (zz_nd_of (ks := [0, 1, 3]) rfl (by decide)) (hk24 s27 hF)
                    · refine w_aload_n (pc2 := 165) rfl rfl rfl ?_
                      refine w_aload_n (pc2 := 166) rfl rfl rfl ?_
                      refine w_iload (pc2 := 168) rfl rfl rfl ?_
                      refine j_cVv (pc2 := 171) (k := 7) (c := zt_m62) (as := [.ref 98, .ref o1, .int v21]) (rest := []) rfl rfl rfl rfl zk_cReader.look rfl (Nat.le_of_ble_eq_true rfl) (Nat.le_of_ble_eq_true rfl) (fun w1 h1 => ok_Reader_takeBehindValue ho1 h1) (by decide) rfl hF (fun s28 hF => ?_)
                      refine w_goto rfl ?_
                      exact j_norm (l := [(0, .ref 98), (1, .ref o1), (3, .int a15)]) ⟨rfl, rfl, rfl, trivial⟩ (zz_nd_of (ks := [0, 1, 3]) rfl (by decide)) (hk24 s28 hF)
                  · refine w_aload_n (pc2 := 147) rfl rfl rfl ?_
                    refine w_aload_n (pc2 := 148) rfl rfl rfl ?_
                    refine w_iload (pc2 := 150) rfl rfl rfl ?_
                    refine j_cVv (pc2 := 153) (k := 7) (c := zt_m59) (as := [.ref 98, .ref o1, .int v21]) (rest := []) rfl rfl rfl rfl zk_cReader.look rfl (Nat.le_of_ble_eq_true rfl) (Nat.le_of_ble_eq_true rfl) (fun w1 h1 => ok_Reader_takeFactBegin ho1 h1) (by decide) rfl hF (fun s29 hF => ?_)
                    refine w_goto rfl ?_
                    exact j_norm (l := [(0, .ref 98), (1, .ref o1), (3, .int a15)]) ⟨rfl, rfl, rfl, trivial⟩ (zz_nd_of (ks := [0, 1, 3]) rfl (by decide)) (hk24 s29 hF)
                · refine w_aload_n (pc2 := 129) rfl rfl rfl ?_
                  refine w_aload_n (pc2 := 130) rfl rfl rfl ?_
                  refine w_iload (pc2 := 132) rfl rfl rfl ?_
                  refine j_cVv (pc2 := 135) (k := 6) (c := zt_m57) (as := [.ref 98, .ref o1, .int v21]) (rest := []) rfl rfl rfl rfl zk_cReader.look rfl (Nat.le_of_ble_eq_true rfl) (Nat.le_of_ble_eq_true rfl) (fun w1 h1 => ok_Reader_takeValue ho1 h1) (by decide) rfl hF (fun s30 hF => ?_)
                  refine w_goto rfl ?_
                  exact j_norm (l := [(0, .ref 98), (1, .ref o1), (3, .int a15)]) ⟨rfl, rfl, rfl, trivial⟩ (zz_nd_of (ks := [0, 1, 3]) rfl (by decide)) (hk24 s30 hF)
    · refine w_aload_n (pc2 := 36) rfl rfl rfl ?_
      refine w_getfield (pc2 := 39) rfl zk_cReader rfl rfl rfl ?_
      refine w_aload_n (pc2 := 40) rfl rfl rfl ?_
      refine w_getfield (pc2 := 43) rfl zk_cReader rfl rfl rfl ?_
      refine j_geti (pc2 := 46) rfl zk_cTape rfl rfl rfl hF (fun v31 hF => ?_)
      refine w_iconst (pc2 := 47) rfl rfl ?_
      refine j_cVv (pc2 := 50) (k := 0) (c := zt_m96) (as := [.ref 1, .int v31, .int (4 : Int32)]) (rest := []) rfl rfl rfl rfl zk_cTape.look rfl (Nat.le_of_ble_eq_true rfl) (Nat.le_of_ble_eq_true rfl) (fun w1 h1 => ok_Tape_refuse h1) (by decide) rfl hF (fun s32 hF => ?_)
      exact j_vret rfl rfl hF
  · refine w_aload_n (pc2 := 14) rfl rfl rfl ?_
    refine w_getfield (pc2 := 17) rfl zk_cReader rfl rfl rfl ?_
    refine w_aload_n (pc2 := 18) rfl rfl rfl ?_
    refine w_getfield (pc2 := 21) rfl zk_cReader rfl rfl rfl ?_
    refine j_geti (pc2 := 24) rfl zk_cTape rfl rfl rfl hF (fun v33 hF => ?_)
    refine w_iconst (pc2 := 25) rfl rfl ?_
    refine j_cVv (pc2 := 28) (k := 0) (c := zt_m96) (as := [.ref 1, .int v33, .int (0 : Int32)]) (rest := []) rfl rfl rfl rfl zk_cTape.look rfl (Nat.le_of_ble_eq_true rfl) (Nat.le_of_ble_eq_true rfl) (fun w1 h1 => ok_Tape_refuse h1) (by decide) rfl hF (fun s34 hF => ?_)
    exact j_vret rfl rfl hF
noncomputable def f_Tape_goesOn (s0 : ZS) : Option (Int32 × ZS) := zcl (f_Tape_next s0) (fun (v2 : Int32) (s1 : ZS) => zgi (s1.1 1 3) (fun (v3 : Int32) => (if ¬ v3 = 0 then zbl (0 : Int32) s1 else (if ¬ v2 = (-1 : Int32) then (if v2 = (59 : Int32) then zcv (f_Tape_pass (1 : Int32) s1) (fun (s4 : ZS) => zbl (1 : Int32) s4) else zgi (s1.1 1 2) (fun (v5 : Int32) => zcv (f_Tape_refuse v5 (0 : Int32) s1) (fun (s6 : ZS) => zbl (0 : Int32) s6))) else zbl (0 : Int32) s1))))
set_option maxHeartbeats 4000000 in
set_option maxRecDepth 100000 in
theorem ok_Tape_goesOn {L : Nat} {xs : Nat → Int32} {b : ZH} {s0 : ZS} {w : Int32 × ZS} (hF : f_Tape_goesOn s0 = some w) : zz_ct zt_ms zt_nm zt_df (zt_X L xs) 1 zt_m100 [.ref 1] (zk b s0) (qI b w) := by
  unfold f_Tape_goesOn at hF
  change zz_wp zt_ms zt_nm zt_df (zt_X L xs) 1 zt_m100 0 [(0, .ref 1)] [] (zk b s0) (qI b w)
  refine w_aload_n (pc2 := 1) rfl rfl rfl ?_
  refine j_cIv (pc2 := 4) (k := 0) (c := zt_m93) (as := [.ref 1]) (rest := []) rfl rfl rfl rfl zk_cTape.look rfl (Nat.le_of_ble_eq_true rfl) (Nat.le_of_ble_eq_true rfl) (fun w1 h1 => ok_Tape_next h1) (by decide) rfl hF (fun v2 s1 hF => ?_)
  refine w_istore_n (pc2 := 5) (ls2 := [(1, .int v2), (0, .ref 1)]) rfl rfl rfl ?_
  refine w_aload_n (pc2 := 6) rfl rfl rfl ?_
  refine j_geti (pc2 := 9) rfl zk_cTape rfl rfl rfl hF (fun v3 hF => ?_)
  refine j_if_ne (pc2 := 12) rfl rfl hF (fun hF => ?_) (fun hF => ?_)
  · refine w_iconst (pc2 := 18) rfl rfl ?_
    exact j_zret rfl rfl hF
  · refine w_iload_n (pc2 := 13) rfl rfl rfl ?_
    refine w_iconst (pc2 := 14) rfl rfl ?_
    refine j_icmp_ne (pc2 := 17) rfl rfl hF (fun hF => ?_) (fun hF => ?_)
    · refine w_iload_n (pc2 := 20) rfl rfl rfl ?_
      refine w_bipush (pc2 := 22) rfl rfl ?_
      refine j_icmp_eq (pc2 := 25) rfl rfl hF (fun hF => ?_) (fun hF => ?_)
      · refine w_aload_n (pc2 := 37) rfl rfl rfl ?_
        refine w_iconst (pc2 := 38) rfl rfl ?_
        refine j_cVv (pc2 := 41) (k := 0) (c := zt_m97) (as := [.ref 1, .int (1 : Int32)]) (rest := []) rfl rfl rfl rfl zk_cTape.look rfl (Nat.le_of_ble_eq_true rfl) (Nat.le_of_ble_eq_true rfl) (fun w1 h1 => ok_Tape_pass h1) (by decide) rfl hF (fun s4 hF => ?_)
        refine w_iconst (pc2 := 42) rfl rfl ?_
        exact j_zret rfl rfl hF
      · refine w_aload_n (pc2 := 26) rfl rfl rfl ?_
        refine w_aload_n (pc2 := 27) rfl rfl rfl ?_
        refine j_geti (pc2 := 30) rfl zk_cTape rfl rfl rfl hF (fun v5 hF => ?_)
        refine w_iconst (pc2 := 31) rfl rfl ?_
        refine j_cVv (pc2 := 34) (k := 0) (c := zt_m96) (as := [.ref 1, .int v5, .int (0 : Int32)]) (rest := []) rfl rfl rfl rfl zk_cTape.look rfl (Nat.le_of_ble_eq_true rfl) (Nat.le_of_ble_eq_true rfl) (fun w1 h1 => ok_Tape_refuse h1) (by decide) rfl hF (fun s6 hF => ?_)
        refine w_iconst (pc2 := 35) rfl rfl ?_
        exact j_zret rfl rfl hF
    · refine w_iconst (pc2 := 18) rfl rfl ?_
      exact j_zret rfl rfl hF
noncomputable def f_Reader_readInto_B20 (o1 : Nat) (a5 : Int32 × Int32) (s6 : ZS) (g7 : (Int32 × Int32) → ZS → Option (ZS)) : Option (ZS) := (if a5.1 = 0 then some s6 else (if (12 : Int32) < a5.2 then some s6 else zcv (f_Reader_readClause o1 a5.2 s6) (fun (s8 : ZS) => zcl (f_Tape_goesOn s8) (fun (v10 : Int32) (s9 : ZS) => g7 (v10, (a5.2 + (1 : Int32))) s9))))
noncomputable def f_Reader_readInto (o1 : Nat) (s0 : ZS) : Option (ZS) := zcv (f_Rule_clear o1 s0) (fun (s2 : ZS) => zcv (f_Tape_rewind s2) (fun (s3 : ZS) => zwi s3 98 4 (0 : Int32) (fun (s4 : ZS) => zlp zN (f_Reader_readInto_B20 o1) ((1 : Int32), (0 : Int32)) s4)))
set_option maxHeartbeats 4000000 in
set_option maxRecDepth 100000 in
theorem ok_Reader_readInto {L : Nat} {xs : Nat → Int32} {b : ZH} {o1 : Nat} (ho1 : zk_isRule o1) {s0 : ZS} {w : ZS} (hF : f_Reader_readInto o1 s0 = some w) : zz_ct zt_ms zt_nm zt_df (zt_X L xs) 9 zt_m55 [.ref 98, .ref o1] (zk b s0) (qV b w) := by
  unfold f_Reader_readInto at hF
  change zz_wp zt_ms zt_nm zt_df (zt_X L xs) 9 zt_m55 0 [(0, .ref 98), (1, .ref o1)] [] (zk b s0) (qV b w)
  refine w_aload_n (pc2 := 1) rfl rfl rfl ?_
  refine j_cVv (pc2 := 4) (k := 0) (c := zt_m50) (as := [.ref o1]) (rest := []) rfl rfl rfl rfl (zk_cRule ho1).look rfl (Nat.le_of_ble_eq_true rfl) (Nat.le_of_ble_eq_true rfl) (fun w1 h1 => ok_Rule_clear ho1 h1) (by decide) rfl hF (fun s2 hF => ?_)
  refine w_aload_n (pc2 := 5) rfl rfl rfl ?_
  refine w_getfield (pc2 := 8) rfl zk_cReader rfl rfl rfl ?_
  refine j_cVv (pc2 := 11) (k := 0) (c := zt_m91) (as := [.ref 1]) (rest := []) rfl rfl rfl rfl zk_cTape.look rfl (Nat.le_of_ble_eq_true rfl) (Nat.le_of_ble_eq_true rfl) (fun w1 h1 => ok_Tape_rewind h1) (by decide) rfl hF (fun s3 hF => ?_)
  refine w_aload_n (pc2 := 12) rfl rfl rfl ?_
  refine w_iconst (pc2 := 13) rfl rfl ?_
  refine j_puti (pc2 := 16) (j := 4) rfl zk_cReader rfl (Nat.le_of_ble_eq_true rfl) rfl zk_wReader_4 (by decide) rfl hF (fun s4 hF => ?_)
  refine w_iconst (pc2 := 17) rfl rfl ?_
  refine w_istore_n (pc2 := 18) (ls2 := [(2, .int (1 : Int32)), (0, .ref 98), (1, .ref o1)]) rfl rfl rfl ?_
  refine w_iconst (pc2 := 19) rfl rfl ?_
  refine w_istore_n (pc2 := 20) (ls2 := [(3, .int (0 : Int32)), (2, .int (1 : Int32)), (0, .ref 98), (1, .ref o1)]) rfl rfl rfl ?_
  refine j_norm (l := [(0, .ref 98), (1, .ref o1), (2, .int (1 : Int32)), (3, .int (0 : Int32))]) ⟨rfl, rfl, rfl, rfl, trivial⟩ (zz_nd_of (ks := [0, 1, 2, 3]) rfl (by decide)) ?_
  refine j_loop (P := fun (a5 : Int32 × Int32) (s6 : ZS) => zz_wp zt_ms zt_nm zt_df (zt_X L xs) 9 zt_m55 20 [(0, .ref 98), (1, .ref o1), (2, .int a5.1), (3, .int a5.2)] [] (zk b s6) (qV b w)) hF (fun a5 s6 g7 hg7 hF => ?_)
  unfold f_Reader_readInto_B20 at hF
  refine w_iload_n (pc2 := 21) rfl rfl rfl ?_
  refine j_if_eq (pc2 := 24) rfl rfl hF (fun hF => ?_) (fun hF => ?_)
  · exact j_vret rfl rfl hF
  · refine w_iload_n (pc2 := 25) rfl rfl rfl ?_
    refine w_bipush (pc2 := 27) rfl rfl ?_
    refine j_icmp_gt (pc2 := 30) rfl rfl hF (fun hF => ?_) (fun hF => ?_)
    · exact j_vret rfl rfl hF
    · refine w_aload_n (pc2 := 31) rfl rfl rfl ?_
      refine w_aload_n (pc2 := 32) rfl rfl rfl ?_
      refine w_iload_n (pc2 := 33) rfl rfl rfl ?_
      refine j_cVv (pc2 := 36) (k := 8) (c := zt_m56) (as := [.ref 98, .ref o1, .int a5.2]) (rest := []) rfl rfl rfl rfl zk_cReader.look rfl (Nat.le_of_ble_eq_true rfl) (Nat.le_of_ble_eq_true rfl) (fun w1 h1 => ok_Reader_readClause ho1 h1) (by decide) rfl hF (fun s8 hF => ?_)
      refine w_aload_n (pc2 := 37) rfl rfl rfl ?_
      refine w_getfield (pc2 := 40) rfl zk_cReader rfl rfl rfl ?_
      refine j_cIv (pc2 := 43) (k := 1) (c := zt_m100) (as := [.ref 1]) (rest := []) rfl rfl rfl rfl zk_cTape.look rfl (Nat.le_of_ble_eq_true rfl) (Nat.le_of_ble_eq_true rfl) (fun w1 h1 => ok_Tape_goesOn h1) (by decide) rfl hF (fun v10 s9 hF => ?_)
      refine w_istore_n (pc2 := 44) (ls2 := [(2, .int v10), (0, .ref 98), (1, .ref o1), (3, .int a5.2)]) rfl rfl rfl ?_
      refine w_iinc (pc2 := 47) (ls2 := [(3, .int ((a5.2 + (1 : Int32)))), (2, .int v10), (0, .ref 98), (1, .ref o1)]) rfl rfl rfl rfl ?_
      refine w_goto rfl ?_
      exact j_norm (l := [(0, .ref 98), (1, .ref o1), (2, .int v10), (3, .int ((a5.2 + (1 : Int32))))]) ⟨rfl, rfl, rfl, rfl, trivial⟩ (zz_nd_of (ks := [0, 1, 2, 3]) rfl (by decide)) (hg7 (v10, (a5.2 + (1 : Int32))) s9 hF)
noncomputable def f_Smithy_clear_B47 (o1 : Nat) (a9 : Int32) (s10 : ZS) (g11 : Int32 → ZS → Option (ZS)) : Option (ZS) := (if (30 : Int32) ≤ a9 then some s10 else zwa s10 (o1 + 5) 30 a9 (0 : Int32) (fun (s12 : ZS) => g11 (a9 + (1 : Int32)) s12))
noncomputable def f_Smithy_clear_B27 (o1 : Nat) (k8 : ZS → Option (ZS)) (a13 : Int32) (s14 : ZS) (g15 : Int32 → ZS → Option (ZS)) : Option (ZS) := (if (5 : Int32) ≤ a13 then k8 s14 else zwa s14 (o1 + 3) 5 a13 (0 : Int32) (fun (s16 : ZS) => g15 (a13 + (1 : Int32)) s16))
noncomputable def f_Smithy_clear (o1 : Nat) (s0 : ZS) : Option (ZS) := zwb s0 o1 0 (0 : Int32) (fun (s2 : ZS) => zwi s2 o1 1 (0 : Int32) (fun (s3 : ZS) => zwi s3 o1 2 (0 : Int32) (fun (s4 : ZS) => zwi s4 o1 3 (0 : Int32) (fun (s5 : ZS) => zwi s5 o1 4 (0 : Int32) (fun (s6 : ZS) => zj0 (fun (s7 : ZS) => zlp zN (f_Smithy_clear_B47 o1) (0 : Int32) s7) (fun (k8 : ZS → Option (ZS)) => zlp zN (f_Smithy_clear_B27 o1 k8) (0 : Int32) s6))))))
set_option maxHeartbeats 4000000 in
set_option maxRecDepth 100000 in
theorem ok_Smithy_clear {L : Nat} {xs : Nat → Int32} {b : ZH} {o1 : Nat} (ho1 : zk_isSmithy o1) {s0 : ZS} {w : ZS} (hF : f_Smithy_clear o1 s0 = some w) : zz_ct zt_ms zt_nm zt_df (zt_X L xs) 0 zt_m71 [.ref o1] (zk b s0) (qV b w) := by
  unfold f_Smithy_clear at hF
  change zz_wp zt_ms zt_nm zt_df (zt_X L xs) 0 zt_m71 0 [(0, .ref o1)] [] (zk b s0) (qV b w)
  refine w_aload_n (pc2 := 1) rfl rfl rfl ?_
  refine w_iconst (pc2 := 2) rfl rfl ?_
  refine j_putz (pc2 := 5) (j := 0) rfl (zk_cSmithy ho1) rfl (Nat.le_of_ble_eq_true rfl) (zk_wSmithy_0 ho1) (by have := ho1.k.1; omega) rfl hF (fun s2 hF => ?_)
  refine w_aload_n (pc2 := 6) rfl rfl rfl ?_
  refine w_iconst (pc2 := 7) rfl rfl ?_
  refine j_puti (pc2 := 10) (j := 1) rfl (zk_cSmithy ho1) rfl (Nat.le_of_ble_eq_true rfl) rfl (zk_wSmithy_1 ho1) (by have := ho1.k.1; omega) rfl hF (fun s3 hF => ?_)
  refine w_aload_n (pc2 := 11) rfl rfl rfl ?_
  refine w_iconst (pc2 := 12) rfl rfl ?_
  refine j_puti (pc2 := 15) (j := 2) rfl (zk_cSmithy ho1) rfl (Nat.le_of_ble_eq_true rfl) rfl (zk_wSmithy_2 ho1) (by have := ho1.k.1; omega) rfl hF (fun s4 hF => ?_)
  refine w_aload_n (pc2 := 16) rfl rfl rfl ?_
  refine w_iconst (pc2 := 17) rfl rfl ?_
  refine j_puti (pc2 := 20) (j := 3) rfl (zk_cSmithy ho1) rfl (Nat.le_of_ble_eq_true rfl) rfl (zk_wSmithy_3 ho1) (by have := ho1.k.1; omega) rfl hF (fun s5 hF => ?_)
  refine w_aload_n (pc2 := 21) rfl rfl rfl ?_
  refine w_iconst (pc2 := 22) rfl rfl ?_
  refine j_puti (pc2 := 25) (j := 4) rfl (zk_cSmithy ho1) rfl (Nat.le_of_ble_eq_true rfl) rfl (zk_wSmithy_4 ho1) (by have := ho1.k.1; omega) rfl hF (fun s6 hF => ?_)
  refine w_iconst (pc2 := 26) rfl rfl ?_
  refine w_istore_n (pc2 := 27) (ls2 := [(1, .int (0 : Int32)), (0, .ref o1)]) rfl rfl rfl ?_
  refine j_join0 (P := fun (s7 : ZS) => zz_wp zt_ms zt_nm zt_df (zt_X L xs) 0 zt_m71 45 [(0, .ref o1)] [] (zk b s7) (qV b w)) hF (fun s7 hF => ?_) (fun k8 hk8 hF => ?_)
  · refine w_iconst (pc2 := 46) rfl rfl ?_
    refine w_istore_n (pc2 := 47) (ls2 := [(1, .int (0 : Int32)), (0, .ref o1)]) rfl rfl rfl ?_
    refine j_norm (l := [(0, .ref o1), (1, .int (0 : Int32))]) ⟨rfl, rfl, trivial⟩ (zz_nd_of (ks := [0, 1]) rfl (by decide)) ?_
    refine j_loop (P := fun (a9 : Int32) (s10 : ZS) => zz_wp zt_ms zt_nm zt_df (zt_X L xs) 0 zt_m71 47 [(0, .ref o1), (1, .int a9)] [] (zk b s10) (qV b w)) hF (fun a9 s10 g11 hg11 hF => ?_)
    unfold f_Smithy_clear_B47 at hF
    refine w_iload_n (pc2 := 48) rfl rfl rfl ?_
    refine w_bipush (pc2 := 50) rfl rfl ?_
    refine j_icmp_ge (pc2 := 53) rfl rfl hF (fun hF => ?_) (fun hF => ?_)
    · exact j_vret rfl rfl hF
    · refine w_aload_n (pc2 := 54) rfl rfl rfl ?_
      refine w_getfield (pc2 := 57) rfl (zk_cSmithy ho1) rfl rfl rfl ?_
      refine w_iload_n (pc2 := 58) rfl rfl rfl ?_
      refine w_iconst (pc2 := 59) rfl rfl ?_
      refine j_iastore (pc2 := 60) (n := 30) rfl ho1.k.2.2.2.2.2.2 (by omega) (by have := ho1.k.1; omega) rfl hF (fun s12 hF => ?_)
      refine w_iinc (pc2 := 63) (ls2 := [(1, .int ((a9 + (1 : Int32)))), (0, .ref o1)]) rfl rfl rfl rfl ?_
      refine w_goto rfl ?_
      exact j_norm (l := [(0, .ref o1), (1, .int ((a9 + (1 : Int32))))]) ⟨rfl, rfl, trivial⟩ (zz_nd_of (ks := [0, 1]) rfl (by decide)) (hg11 (a9 + (1 : Int32)) s12 hF)
  · refine j_norm (l := [(0, .ref o1), (1, .int (0 : Int32))]) ⟨rfl, rfl, trivial⟩ (zz_nd_of (ks := [0, 1]) rfl (by decide)) ?_
    refine j_loop (P := fun (a13 : Int32) (s14 : ZS) => zz_wp zt_ms zt_nm zt_df (zt_X L xs) 0 zt_m71 27 [(0, .ref o1), (1, .int a13)] [] (zk b s14) (qV b w)) hF (fun a13 s14 g15 hg15 hF => ?_)
    unfold f_Smithy_clear_B27 at hF
    refine w_iload_n (pc2 := 28) rfl rfl rfl ?_
    refine w_iconst (pc2 := 29) rfl rfl ?_
    refine j_icmp_ge (pc2 := 32) rfl rfl hF (fun hF => ?_) (fun hF => ?_)
    · exact j_norm (l := [(0, .ref o1)]) ⟨rfl, trivial⟩ (zz_nd_of (ks := [0]) rfl (by decide)) (hk8 s14 hF)
    · refine w_aload_n (pc2 := 33) rfl rfl rfl ?_
      refine w_getfield (pc2 := 36) rfl (zk_cSmithy ho1) rfl rfl rfl ?_
      refine w_iload_n (pc2 := 37) rfl rfl rfl ?_
      refine w_iconst (pc2 := 38) rfl rfl ?_
      refine j_iastore (pc2 := 39) (n := 5) rfl ho1.k.2.2.2.2.1 (by omega) (by have := ho1.k.1; omega) rfl hF (fun s16 hF => ?_)
      refine w_iinc (pc2 := 42) (ls2 := [(1, .int ((a13 + (1 : Int32)))), (0, .ref o1)]) rfl rfl rfl rfl ?_
      refine w_goto rfl ?_
      exact j_norm (l := [(0, .ref o1), (1, .int ((a13 + (1 : Int32))))]) ⟨rfl, rfl, trivial⟩ (zz_nd_of (ks := [0, 1]) rfl (by decide)) (hg15 (a13 + (1 : Int32)) s16 hF)
noncomputable def f_Smithy_isFull (o1 : Nat) (p2 : Int32) (s0 : ZS) : Option (Int32 × ZS) := zj0 (fun (s3 : ZS) => (if ¬ p2 = (2 : Int32) then zbl (0 : Int32) s3 else zgi (s3.1 o1 4) (fun (v5 : Int32) => (if v5 < (6 : Int32) then zbl (0 : Int32) s3 else zbl (1 : Int32) s3)))) (fun (k4 : ZS → Option (Int32 × ZS)) => (if ¬ p2 = (1 : Int32) then k4 s0 else zgi (s0.1 o1 3) (fun (v6 : Int32) => (if (5 : Int32) ≤ v6 then zbl (1 : Int32) s0 else k4 s0))))
set_option maxHeartbeats 4000000 in
set_option maxRecDepth 100000 in
theorem ok_Smithy_isFull {L : Nat} {xs : Nat → Int32} {b : ZH} {o1 : Nat} {p2 : Int32} (ho1 : zk_isSmithy o1) {s0 : ZS} {w : Int32 × ZS} (hF : f_Smithy_isFull o1 p2 s0 = some w) : zz_ct zt_ms zt_nm zt_df (zt_X L xs) 0 zt_m73 [.ref o1, .int p2] (zk b s0) (qI b w) := by
  unfold f_Smithy_isFull at hF
  change zz_wp zt_ms zt_nm zt_df (zt_X L xs) 0 zt_m73 0 [(0, .ref o1), (1, .int p2)] [] (zk b s0) (qI b w)
  refine w_iload_n (pc2 := 1) rfl rfl rfl ?_
  refine w_iconst (pc2 := 2) rfl rfl ?_
  refine j_join0 (P := fun (s3 : ZS) => zz_wp zt_ms zt_nm zt_df (zt_X L xs) 0 zt_m73 13 [(0, .ref o1), (1, .int p2)] [] (zk b s3) (qI b w)) hF (fun s3 hF => ?_) (fun k4 hk4 hF => ?_)
  · refine w_iload_n (pc2 := 14) rfl rfl rfl ?_
    refine w_iconst (pc2 := 15) rfl rfl ?_
    refine j_icmp_ne (pc2 := 18) rfl rfl hF (fun hF => ?_) (fun hF => ?_)
    · refine w_iconst (pc2 := 32) rfl rfl ?_
      exact j_zret rfl rfl hF
    · refine w_aload_n (pc2 := 19) rfl rfl rfl ?_
      refine j_geti (pc2 := 22) rfl (zk_cSmithy ho1) rfl rfl rfl hF (fun v5 hF => ?_)
      refine w_bipush (pc2 := 24) rfl rfl ?_
      refine j_icmp_lt (pc2 := 27) rfl rfl hF (fun hF => ?_) (fun hF => ?_)
      · refine w_iconst (pc2 := 32) rfl rfl ?_
        exact j_zret rfl rfl hF
      · refine w_iconst (pc2 := 28) rfl rfl ?_
        refine w_goto rfl ?_
        exact j_zret rfl rfl hF
  · refine j_icmp_ne (pc2 := 5) rfl rfl hF (fun hF => ?_) (fun hF => ?_)
    · exact j_norm (l := [(0, .ref o1), (1, .int p2)]) ⟨rfl, rfl, trivial⟩ (zz_nd_of (ks := [0, 1]) rfl (by decide)) (hk4 s0 hF)
    · refine w_aload_n (pc2 := 6) rfl rfl rfl ?_
      refine j_geti (pc2 := 9) rfl (zk_cSmithy ho1) rfl rfl rfl hF (fun v6 hF => ?_)
      refine w_iconst (pc2 := 10) rfl rfl ?_
      refine j_icmp_ge (pc2 := 13) rfl rfl hF (fun hF => ?_) (fun hF => ?_)
      · refine w_iconst (pc2 := 28) rfl rfl ?_
        refine w_goto rfl ?_
        exact j_zret rfl rfl hF
      · exact j_norm (l := [(0, .ref o1), (1, .int p2)]) ⟨rfl, rfl, trivial⟩ (zz_nd_of (ks := [0, 1]) rfl (by decide)) (hk4 s0 hF)
noncomputable def f_Smithy_hasPair (o1 : Nat) (p2 : Int32) (s0 : ZS) : Option (Int32 × ZS) := (if p2 < 0 then zbl (0 : Int32) s0 else zgi (s0.1 o1 3) (fun (v3 : Int32) => (if v3 ≤ p2 then zbl (0 : Int32) s0 else zbl (1 : Int32) s0)))
set_option maxHeartbeats 4000000 in
set_option maxRecDepth 100000 in
theorem ok_Smithy_hasPair {L : Nat} {xs : Nat → Int32} {b : ZH} {o1 : Nat} {p2 : Int32} (ho1 : zk_isSmithy o1) {s0 : ZS} {w : Int32 × ZS} (hF : f_Smithy_hasPair o1 p2 s0 = some w) : zz_ct zt_ms zt_nm zt_df (zt_X L xs) 0 zt_m77 [.ref o1, .int p2] (zk b s0) (qI b w) := by
  unfold f_Smithy_hasPair at hF
  change zz_wp zt_ms zt_nm zt_df (zt_X L xs) 0 zt_m77 0 [(0, .ref o1), (1, .int p2)] [] (zk b s0) (qI b w)
  refine w_iload_n (pc2 := 1) rfl rfl rfl ?_
  refine j_if_lt (pc2 := 4) rfl rfl hF (fun hF => ?_) (fun hF => ?_)
  · refine w_iconst (pc2 := 17) rfl rfl ?_
    exact j_zret rfl rfl hF
  · refine w_iload_n (pc2 := 5) rfl rfl rfl ?_
    refine w_aload_n (pc2 := 6) rfl rfl rfl ?_
    refine j_geti (pc2 := 9) rfl (zk_cSmithy ho1) rfl rfl rfl hF (fun v3 hF => ?_)
    refine j_icmp_ge (pc2 := 12) rfl rfl hF (fun hF => ?_) (fun hF => ?_)
    · refine w_iconst (pc2 := 17) rfl rfl ?_
      exact j_zret rfl rfl hF
    · refine w_iconst (pc2 := 13) rfl rfl ?_
      refine w_goto rfl ?_
      exact j_zret rfl rfl hF
noncomputable def f_Smithy_hasSaying (o1 : Nat) (p2 : Int32) (s0 : ZS) : Option (Int32 × ZS) := (if p2 < 0 then zbl (0 : Int32) s0 else zgi (s0.1 o1 4) (fun (v3 : Int32) => (if v3 ≤ p2 then zbl (0 : Int32) s0 else zbl (1 : Int32) s0)))
set_option maxHeartbeats 4000000 in
set_option maxRecDepth 100000 in
theorem ok_Smithy_hasSaying {L : Nat} {xs : Nat → Int32} {b : ZH} {o1 : Nat} {p2 : Int32} (ho1 : zk_isSmithy o1) {s0 : ZS} {w : Int32 × ZS} (hF : f_Smithy_hasSaying o1 p2 s0 = some w) : zz_ct zt_ms zt_nm zt_df (zt_X L xs) 0 zt_m78 [.ref o1, .int p2] (zk b s0) (qI b w) := by
  unfold f_Smithy_hasSaying at hF
  change zz_wp zt_ms zt_nm zt_df (zt_X L xs) 0 zt_m78 0 [(0, .ref o1), (1, .int p2)] [] (zk b s0) (qI b w)
  refine w_iload_n (pc2 := 1) rfl rfl rfl ?_
  refine j_if_lt (pc2 := 4) rfl rfl hF (fun hF => ?_) (fun hF => ?_)
  · refine w_iconst (pc2 := 17) rfl rfl ?_
    exact j_zret rfl rfl hF
  · refine w_iload_n (pc2 := 5) rfl rfl rfl ?_
    refine w_aload_n (pc2 := 6) rfl rfl rfl ?_
    refine j_geti (pc2 := 9) rfl (zk_cSmithy ho1) rfl rfl rfl hF (fun v3 hF => ?_)
    refine j_icmp_ge (pc2 := 12) rfl rfl hF (fun hF => ?_) (fun hF => ?_)
    · refine w_iconst (pc2 := 17) rfl rfl ?_
      exact j_zret rfl rfl hF
    · refine w_iconst (pc2 := 13) rfl rfl ?_
      refine w_goto rfl ?_
      exact j_zret rfl rfl hF
noncomputable def f_Smithy_hasBoth (o1 : Nat) (p2 : Int32) (p3 : Int32) (s0 : ZS) : Option (Int32 × ZS) := zcl (f_Smithy_hasPair o1 p2 s0) (fun (v5 : Int32) (s4 : ZS) => (if v5 = 0 then zbl (0 : Int32) s4 else zcl (f_Smithy_hasSaying o1 p3 s4) (fun (v7 : Int32) (s6 : ZS) => (if v7 = 0 then zbl (0 : Int32) s6 else zbl (1 : Int32) s6))))
set_option maxHeartbeats 4000000 in
set_option maxRecDepth 100000 in
theorem ok_Smithy_hasBoth {L : Nat} {xs : Nat → Int32} {b : ZH} {o1 : Nat} {p2 : Int32} {p3 : Int32} (ho1 : zk_isSmithy o1) {s0 : ZS} {w : Int32 × ZS} (hF : f_Smithy_hasBoth o1 p2 p3 s0 = some w) : zz_ct zt_ms zt_nm zt_df (zt_X L xs) 1 zt_m76 [.ref o1, .int p2, .int p3] (zk b s0) (qI b w) := by
  unfold f_Smithy_hasBoth at hF
  change zz_wp zt_ms zt_nm zt_df (zt_X L xs) 1 zt_m76 0 [(0, .ref o1), (1, .int p2), (2, .int p3)] [] (zk b s0) (qI b w)
  refine w_aload_n (pc2 := 1) rfl rfl rfl ?_
  refine w_iload_n (pc2 := 2) rfl rfl rfl ?_
  refine j_cIv (pc2 := 5) (k := 0) (c := zt_m77) (as := [.ref o1, .int p2]) (rest := []) rfl rfl rfl rfl (zk_cSmithy ho1).look rfl (Nat.le_of_ble_eq_true rfl) (Nat.le_of_ble_eq_true rfl) (fun w1 h1 => ok_Smithy_hasPair ho1 h1) (by decide) rfl hF (fun v5 s4 hF => ?_)
  refine j_if_eq (pc2 := 8) rfl rfl hF (fun hF => ?_) (fun hF => ?_)
  · refine w_iconst (pc2 := 21) rfl rfl ?_
    exact j_zret rfl rfl hF
  · refine w_aload_n (pc2 := 9) rfl rfl rfl ?_
    refine w_iload_n (pc2 := 10) rfl rfl rfl ?_
    refine j_cIv (pc2 := 13) (k := 0) (c := zt_m78) (as := [.ref o1, .int p3]) (rest := []) rfl rfl rfl rfl (zk_cSmithy ho1).look rfl (Nat.le_of_ble_eq_true rfl) (Nat.le_of_ble_eq_true rfl) (fun w1 h1 => ok_Smithy_hasSaying ho1 h1) (by decide) rfl hF (fun v7 s6 hF => ?_)
    refine j_if_eq (pc2 := 16) rfl rfl hF (fun hF => ?_) (fun hF => ?_)
    · refine w_iconst (pc2 := 21) rfl rfl ?_
      exact j_zret rfl rfl hF
    · refine w_iconst (pc2 := 17) rfl rfl ?_
      refine w_goto rfl ?_
      exact j_zret rfl rfl hF
noncomputable def f_Smithy_readMinds (o1 : Nat) (s0 : ZS) : Option (ZS) := zgi (s0.1 o1 3) (fun (v2 : Int32) => zcl (f_Tape_takeNumber (0 : Int32) ((v2 - (1 : Int32))) s0) (fun (v4 : Int32) (s3 : ZS) => zgi (s3.1 o1 4) (fun (v5 : Int32) => zcl (f_Tape_takeNumber (0 : Int32) ((v5 - (1 : Int32))) s3) (fun (v7 : Int32) (s6 : ZS) => zcl (f_Tape_takeNumber (0 : Int32) (20 : Int32) s6) (fun (v9 : Int32) (s8 : ZS) => zcl (f_Smithy_hasBoth o1 v4 v7 s8) (fun (v11 : Int32) (s10 : ZS) => (if v11 = 0 then some s10 else zwa s10 (o1 + 5) 30 (((v4 * (6 : Int32)) + v7)) v9 (fun (s12 : ZS) => some s12))))))))
set_option maxHeartbeats 4000000 in
set_option maxRecDepth 100000 in
theorem ok_Smithy_readMinds {L : Nat} {xs : Nat → Int32} {b : ZH} {o1 : Nat} (ho1 : zk_isSmithy o1) {s0 : ZS} {w : ZS} (hF : f_Smithy_readMinds o1 s0 = some w) : zz_ct zt_ms zt_nm zt_df (zt_X L xs) 2 zt_m75 [.ref o1, .ref 1] (zk b s0) (qV b w) := by
  unfold f_Smithy_readMinds at hF
  change zz_wp zt_ms zt_nm zt_df (zt_X L xs) 2 zt_m75 0 [(0, .ref o1), (1, .ref 1)] [] (zk b s0) (qV b w)
  refine w_aload_n (pc2 := 1) rfl rfl rfl ?_
  refine w_iconst (pc2 := 2) rfl rfl ?_
  refine w_aload_n (pc2 := 3) rfl rfl rfl ?_
  refine j_geti (pc2 := 6) rfl (zk_cSmithy ho1) rfl rfl rfl hF (fun v2 hF => ?_)
  refine w_iconst (pc2 := 7) rfl rfl ?_
  refine w_isub (pc2 := 8) rfl rfl ?_
  refine j_cIv (pc2 := 11) (k := 1) (c := zt_m98) (as := [.ref 1, .int (0 : Int32), .int ((v2 - (1 : Int32)))]) (rest := []) rfl rfl rfl rfl zk_cTape.look rfl (Nat.le_of_ble_eq_true rfl) (Nat.le_of_ble_eq_true rfl) (fun w1 h1 => ok_Tape_takeNumber h1) (by decide) rfl hF (fun v4 s3 hF => ?_)
  refine w_istore_n (pc2 := 12) (ls2 := [(2, .int v4), (0, .ref o1), (1, .ref 1)]) rfl rfl rfl ?_
  refine w_aload_n (pc2 := 13) rfl rfl rfl ?_
  refine w_iconst (pc2 := 14) rfl rfl ?_
  refine w_aload_n (pc2 := 15) rfl rfl rfl ?_
  refine j_geti (pc2 := 18) rfl (zk_cSmithy ho1) rfl rfl rfl hF (fun v5 hF => ?_)
  refine w_iconst (pc2 := 19) rfl rfl ?_
  refine w_isub (pc2 := 20) rfl rfl ?_
  refine j_cIv (pc2 := 23) (k := 1) (c := zt_m98) (as := [.ref 1, .int (0 : Int32), .int ((v5 - (1 : Int32)))]) (rest := []) rfl rfl rfl rfl zk_cTape.look rfl (Nat.le_of_ble_eq_true rfl) (Nat.le_of_ble_eq_true rfl) (fun w1 h1 => ok_Tape_takeNumber h1) (by decide) rfl hF (fun v7 s6 hF => ?_)
  refine w_istore_n (pc2 := 24) (ls2 := [(3, .int v7), (2, .int v4), (0, .ref o1), (1, .ref 1)]) rfl rfl rfl ?_
  refine w_aload_n (pc2 := 25) rfl rfl rfl ?_
  refine w_iconst (pc2 := 26) rfl rfl ?_
  refine w_bipush (pc2 := 28) rfl rfl ?_
  refine j_cIv (pc2 := 31) (k := 1) (c := zt_m98) (as := [.ref 1, .int (0 : Int32), .int (20 : Int32)]) (rest := []) rfl rfl rfl rfl zk_cTape.look rfl (Nat.le_of_ble_eq_true rfl) (Nat.le_of_ble_eq_true rfl) (fun w1 h1 => ok_Tape_takeNumber h1) (by decide) rfl hF (fun v9 s8 hF => ?_)
  refine w_istore (pc2 := 33) (ls2 := [(4, .int v9), (3, .int v7), (2, .int v4), (0, .ref o1), (1, .ref 1)]) rfl rfl rfl ?_
  refine w_aload_n (pc2 := 34) rfl rfl rfl ?_
  refine w_iload_n (pc2 := 35) rfl rfl rfl ?_
  refine w_iload_n (pc2 := 36) rfl rfl rfl ?_
  refine j_cIv (pc2 := 39) (k := 1) (c := zt_m76) (as := [.ref o1, .int v4, .int v7]) (rest := []) rfl rfl rfl rfl (zk_cSmithy ho1).look rfl (Nat.le_of_ble_eq_true rfl) (Nat.le_of_ble_eq_true rfl) (fun w1 h1 => ok_Smithy_hasBoth ho1 h1) (by decide) rfl hF (fun v11 s10 hF => ?_)
  refine j_if_eq (pc2 := 42) rfl rfl hF (fun hF => ?_) (fun hF => ?_)
  · exact j_vret rfl rfl hF
  · refine w_aload_n (pc2 := 43) rfl rfl rfl ?_
    refine w_getfield (pc2 := 46) rfl (zk_cSmithy ho1) rfl rfl rfl ?_
    refine w_iload_n (pc2 := 47) rfl rfl rfl ?_
    refine w_bipush (pc2 := 49) rfl rfl ?_
    refine w_imul (pc2 := 50) rfl rfl ?_
    refine w_iload_n (pc2 := 51) rfl rfl rfl ?_
    refine w_iadd (pc2 := 52) rfl rfl ?_
    refine w_iload (pc2 := 54) rfl rfl rfl ?_
    refine j_iastore (pc2 := 55) (n := 30) rfl ho1.k.2.2.2.2.2.2 (by omega) (by have := ho1.k.1; omega) rfl hF (fun s12 hF => ?_)
    exact j_vret rfl rfl hF
noncomputable def f_Smithy_readNear (o1 : Nat) (s0 : ZS) : Option (ZS) := zgi (s0.1 o1 3) (fun (v2 : Int32) => zcl (f_Tape_takeNumber (0 : Int32) ((v2 - (1 : Int32))) s0) (fun (v4 : Int32) (s3 : ZS) => zcl (f_Tape_next s3) (fun (v6 : Int32) (s5 : ZS) => zgi (s5.1 1 2) (fun (v7 : Int32) => zgi (s5.1 o1 3) (fun (v8 : Int32) => zcl (f_Tape_takeNumber (0 : Int32) ((v8 - (1 : Int32))) s5) (fun (v10 : Int32) (s9 : ZS) => zj0 (fun (s11 : ZS) => zcl (f_Smithy_hasPair o1 v4 s11) (fun (v14 : Int32) (s13 : ZS) => (if v14 = 0 then some s13 else zcl (f_Smithy_hasPair o1 v10 s13) (fun (v16 : Int32) (s15 : ZS) => (if v16 = 0 then some s15 else zrd 5 v4 (s15.1 (o1 + 3)) (fun (v17 : Int32) => zwa s15 (o1 + 3) 5 v4 ((v17 ||| ((1 : Int32) <<< (v10 &&& (31 : Int32))))) (fun (s18 : ZS) => zrd 5 v10 (s18.1 (o1 + 3)) (fun (v19 : Int32) => zwa s18 (o1 + 3) 5 v10 ((v19 ||| ((1 : Int32) <<< (v4 &&& (31 : Int32))))) (fun (s20 : ZS) => some s20))))))))) (fun (k12 : ZS → Option (ZS)) => (if ¬ v4 = v10 then k12 s9 else zcv (f_Tape_refuse v7 (1 : Int32) s9) (fun (s21 : ZS) => k12 s21)))))))))
set_option maxHeartbeats 4000000 in
set_option maxRecDepth 100000 in
theorem ok_Smithy_readNear {L : Nat} {xs : Nat → Int32} {b : ZH} {o1 : Nat} (ho1 : zk_isSmithy o1) {s0 : ZS} {w : ZS} (hF : f_Smithy_readNear o1 s0 = some w) : zz_ct zt_ms zt_nm zt_df (zt_X L xs) 2 zt_m79 [.ref o1, .ref 1] (zk b s0) (qV b w) := by
  unfold f_Smithy_readNear at hF
  change zz_wp zt_ms zt_nm zt_df (zt_X L xs) 2 zt_m79 0 [(0, .ref o1), (1, .ref 1)] [] (zk b s0) (qV b w)
  refine w_aload_n (pc2 := 1) rfl rfl rfl ?_
  refine w_iconst (pc2 := 2) rfl rfl ?_
  refine w_aload_n (pc2 := 3) rfl rfl rfl ?_
  refine j_geti (pc2 := 6) rfl (zk_cSmithy ho1) rfl rfl rfl hF (fun v2 hF => ?_)
  refine w_iconst (pc2 := 7) rfl rfl ?_
  refine w_isub (pc2 := 8) rfl rfl ?_
  refine j_cIv (pc2 := 11) (k := 1) (c := zt_m98) (as := [.ref 1, .int (0 : Int32), .int ((v2 - (1 : Int32)))]) (rest := []) rfl rfl rfl rfl zk_cTape.look rfl (Nat.le_of_ble_eq_true rfl) (Nat.le_of_ble_eq_true rfl) (fun w1 h1 => ok_Tape_takeNumber h1) (by decide) rfl hF (fun v4 s3 hF => ?_)
  refine w_istore_n (pc2 := 12) (ls2 := [(2, .int v4), (0, .ref o1), (1, .ref 1)]) rfl rfl rfl ?_
  refine w_aload_n (pc2 := 13) rfl rfl rfl ?_
  refine j_cIv (pc2 := 16) (k := 0) (c := zt_m93) (as := [.ref 1]) (rest := []) rfl rfl rfl rfl zk_cTape.look rfl (Nat.le_of_ble_eq_true rfl) (Nat.le_of_ble_eq_true rfl) (fun w1 h1 => ok_Tape_next h1) (by decide) rfl hF (fun v6 s5 hF => ?_)
  refine w_pop (pc2 := 17) rfl rfl rfl ?_
  refine w_aload_n (pc2 := 18) rfl rfl rfl ?_
  refine j_geti (pc2 := 21) rfl zk_cTape rfl rfl rfl hF (fun v7 hF => ?_)
  refine w_istore_n (pc2 := 22) (ls2 := [(3, .int v7), (2, .int v4), (0, .ref o1), (1, .ref 1)]) rfl rfl rfl ?_
  refine w_aload_n (pc2 := 23) rfl rfl rfl ?_
  refine w_iconst (pc2 := 24) rfl rfl ?_
  refine w_aload_n (pc2 := 25) rfl rfl rfl ?_
  refine j_geti (pc2 := 28) rfl (zk_cSmithy ho1) rfl rfl rfl hF (fun v8 hF => ?_)
  refine w_iconst (pc2 := 29) rfl rfl ?_
  refine w_isub (pc2 := 30) rfl rfl ?_
  refine j_cIv (pc2 := 33) (k := 1) (c := zt_m98) (as := [.ref 1, .int (0 : Int32), .int ((v8 - (1 : Int32)))]) (rest := []) rfl rfl rfl rfl zk_cTape.look rfl (Nat.le_of_ble_eq_true rfl) (Nat.le_of_ble_eq_true rfl) (fun w1 h1 => ok_Tape_takeNumber h1) (by decide) rfl hF (fun v10 s9 hF => ?_)
  refine w_istore (pc2 := 35) (ls2 := [(4, .int v10), (3, .int v7), (2, .int v4), (0, .ref o1), (1, .ref 1)]) rfl rfl rfl ?_
  refine w_iload_n (pc2 := 36) rfl rfl rfl ?_
  refine w_iload (pc2 := 38) rfl rfl rfl ?_
  refine j_join0 (P := fun (s11 : ZS) => zz_wp zt_ms zt_nm zt_df (zt_X L xs) 2 zt_m79 47 [(0, .ref o1), (2, .int v4), (4, .int v10)] [] (zk b s11) (qV b w)) hF (fun s11 hF => ?_) (fun k12 hk12 hF => ?_)
  · refine w_aload_n (pc2 := 48) rfl rfl rfl ?_
    refine w_iload_n (pc2 := 49) rfl rfl rfl ?_
    refine j_cIv (pc2 := 52) (k := 0) (c := zt_m77) (as := [.ref o1, .int v4]) (rest := []) rfl rfl rfl rfl (zk_cSmithy ho1).look rfl (Nat.le_of_ble_eq_true rfl) (Nat.le_of_ble_eq_true rfl) (fun w1 h1 => ok_Smithy_hasPair ho1 h1) (by decide) rfl hF (fun v14 s13 hF => ?_)
    refine j_if_eq (pc2 := 55) rfl rfl hF (fun hF => ?_) (fun hF => ?_)
    · exact j_vret rfl rfl hF
    · refine w_aload_n (pc2 := 56) rfl rfl rfl ?_
      refine w_iload (pc2 := 58) rfl rfl rfl ?_
      refine j_cIv (pc2 := 61) (k := 0) (c := zt_m77) (as := [.ref o1, .int v10]) (rest := []) rfl rfl rfl rfl (zk_cSmithy ho1).look rfl (Nat.le_of_ble_eq_true rfl) (Nat.le_of_ble_eq_true rfl) (fun w1 h1 => ok_Smithy_hasPair ho1 h1) (by decide) rfl hF (fun v16 s15 hF => ?_)
      refine j_if_eq (pc2 := 64) rfl rfl hF (fun hF => ?_) (fun hF => ?_)
      · exact j_vret rfl rfl hF
      · refine w_aload_n (pc2 := 65) rfl rfl rfl ?_
        refine w_getfield (pc2 := 68) rfl (zk_cSmithy ho1) rfl rfl rfl ?_
        refine w_iload_n (pc2 := 69) rfl rfl rfl ?_
        refine w_dup2 (pc2 := 70) rfl rfl rfl rfl ?_
        refine j_iaload (pc2 := 71) (n := 5) rfl ho1.k.2.2.2.2.1 (by omega) (by have := ho1.k.1; omega) rfl hF (fun v17 hF => ?_)
        refine w_iconst (pc2 := 72) rfl rfl ?_
        refine w_iload (pc2 := 74) rfl rfl rfl ?_
        refine w_ishl (pc2 := 75) rfl rfl ?_
        refine w_ior (pc2 := 76) rfl rfl ?_
        refine j_iastore (pc2 := 77) (n := 5) rfl ho1.k.2.2.2.2.1 (by omega) (by have := ho1.k.1; omega) rfl hF (fun s18 hF => ?_)
        refine w_aload_n (pc2 := 78) rfl rfl rfl ?_
        refine w_getfield (pc2 := 81) rfl (zk_cSmithy ho1) rfl rfl rfl ?_
        refine w_iload (pc2 := 83) rfl rfl rfl ?_
        refine w_dup2 (pc2 := 84) rfl rfl rfl rfl ?_
        refine j_iaload (pc2 := 85) (n := 5) rfl ho1.k.2.2.2.2.1 (by omega) (by have := ho1.k.1; omega) rfl hF (fun v19 hF => ?_)
        refine w_iconst (pc2 := 86) rfl rfl ?_
        refine w_iload_n (pc2 := 87) rfl rfl rfl ?_
        refine w_ishl (pc2 := 88) rfl rfl ?_
        refine w_ior (pc2 := 89) rfl rfl ?_
        refine j_iastore (pc2 := 90) (n := 5) rfl ho1.k.2.2.2.2.1 (by omega) (by have := ho1.k.1; omega) rfl hF (fun s20 hF => ?_)
        exact j_vret rfl rfl hF
  · refine j_icmp_ne (pc2 := 41) rfl rfl hF (fun hF => ?_) (fun hF => ?_)
    · exact j_norm (l := [(0, .ref o1), (2, .int v4), (4, .int v10)]) ⟨rfl, rfl, rfl, trivial⟩ (zz_nd_of (ks := [0, 2, 4]) rfl (by decide)) (hk12 s9 hF)
    · refine w_aload_n (pc2 := 42) rfl rfl rfl ?_
      refine w_iload_n (pc2 := 43) rfl rfl rfl ?_
      refine w_iconst (pc2 := 44) rfl rfl ?_
      refine j_cVv (pc2 := 47) (k := 0) (c := zt_m96) (as := [.ref 1, .int v7, .int (1 : Int32)]) (rest := []) rfl rfl rfl rfl zk_cTape.look rfl (Nat.le_of_ble_eq_true rfl) (Nat.le_of_ble_eq_true rfl) (fun w1 h1 => ok_Tape_refuse h1) (by decide) rfl hF (fun s21 hF => ?_)
      exact j_norm (l := [(0, .ref o1), (2, .int v4), (4, .int v10)]) ⟨rfl, rfl, rfl, trivial⟩ (zz_nd_of (ks := [0, 2, 4]) rfl (by decide)) (hk12 s21 hF)
noncomputable def f_Smithy_readNumbers (o1 : Nat) (p2 : Int32) (s0 : ZS) : Option (ZS) := (if ¬ p2 = 0 then (if ¬ p2 = (1 : Int32) then (if ¬ p2 = (2 : Int32) then (if ¬ p2 = (3 : Int32) then zcv (f_Smithy_readNear o1 s0) (fun (s3 : ZS) => some s3) else zcv (f_Smithy_readMinds o1 s0) (fun (s4 : ZS) => some s4)) else zgi (s0.1 o1 4) (fun (v5 : Int32) => zcl (f_Tape_takeNumber (0 : Int32) (9 : Int32) s0) (fun (v7 : Int32) (s6 : ZS) => zwa s6 (o1 + 4) 6 v5 v7 (fun (s8 : ZS) => zgi (s8.1 o1 4) (fun (v9 : Int32) => zwi s8 o1 4 ((v9 + (1 : Int32))) (fun (s10 : ZS) => some s10)))))) else zgi (s0.1 o1 3) (fun (v11 : Int32) => zcl (f_Tape_takeNumber (0 : Int32) (99 : Int32) s0) (fun (v13 : Int32) (s12 : ZS) => zwa s12 (o1 + 1) 5 v11 v13 (fun (s14 : ZS) => zgi (s14.1 o1 3) (fun (v15 : Int32) => zcl (f_Tape_takeNumber (1 : Int32) (99 : Int32) s14) (fun (v17 : Int32) (s16 : ZS) => zwa s16 (o1 + 2) 5 v15 v17 (fun (s18 : ZS) => zgi (s18.1 o1 3) (fun (v19 : Int32) => zwi s18 o1 3 ((v19 + (1 : Int32))) (fun (s20 : ZS) => some s20))))))))) else zcl (f_Tape_takeNumber (1 : Int32) (99 : Int32) s0) (fun (v22 : Int32) (s21 : ZS) => zwi s21 o1 1 v22 (fun (s23 : ZS) => zcl (f_Tape_takeNumber (1 : Int32) (9 : Int32) s23) (fun (v25 : Int32) (s24 : ZS) => zwi s24 o1 2 v25 (fun (s26 : ZS) => some s26)))))
set_option maxHeartbeats 4000000 in
set_option maxRecDepth 100000 in
theorem ok_Smithy_readNumbers {L : Nat} {xs : Nat → Int32} {b : ZH} {o1 : Nat} {p2 : Int32} (ho1 : zk_isSmithy o1) {s0 : ZS} {w : ZS} (hF : f_Smithy_readNumbers o1 p2 s0 = some w) : zz_ct zt_ms zt_nm zt_df (zt_X L xs) 3 zt_m74 [.ref o1, .ref 1, .int p2] (zk b s0) (qV b w) := by
  unfold f_Smithy_readNumbers at hF
  change zz_wp zt_ms zt_nm zt_df (zt_X L xs) 3 zt_m74 0 [(0, .ref o1), (1, .ref 1), (2, .int p2)] [] (zk b s0) (qV b w)
  refine w_iload_n (pc2 := 1) rfl rfl rfl ?_
  refine j_if_ne (pc2 := 4) rfl rfl hF (fun hF => ?_) (fun hF => ?_)
  · refine w_iload_n (pc2 := 30) rfl rfl rfl ?_
    refine w_iconst (pc2 := 31) rfl rfl ?_
    refine j_icmp_ne (pc2 := 34) rfl rfl hF (fun hF => ?_) (fun hF => ?_)
    · refine w_iload_n (pc2 := 80) rfl rfl rfl ?_
      refine w_iconst (pc2 := 81) rfl rfl ?_
      refine j_icmp_ne (pc2 := 84) rfl rfl hF (fun hF => ?_) (fun hF => ?_)
      · refine w_iload_n (pc2 := 114) rfl rfl rfl ?_
        refine w_iconst (pc2 := 115) rfl rfl ?_
        refine j_icmp_ne (pc2 := 118) rfl rfl hF (fun hF => ?_) (fun hF => ?_)
        · refine w_aload_n (pc2 := 127) rfl rfl rfl ?_
          refine w_aload_n (pc2 := 128) rfl rfl rfl ?_
          refine j_cVv (pc2 := 131) (k := 2) (c := zt_m79) (as := [.ref o1, .ref 1]) (rest := []) rfl rfl rfl rfl (zk_cSmithy ho1).look rfl (Nat.le_of_ble_eq_true rfl) (Nat.le_of_ble_eq_true rfl) (fun w1 h1 => ok_Smithy_readNear ho1 h1) (by decide) rfl hF (fun s3 hF => ?_)
          exact j_vret rfl rfl hF
        · refine w_aload_n (pc2 := 119) rfl rfl rfl ?_
          refine w_aload_n (pc2 := 120) rfl rfl rfl ?_
          refine j_cVv (pc2 := 123) (k := 2) (c := zt_m75) (as := [.ref o1, .ref 1]) (rest := []) rfl rfl rfl rfl (zk_cSmithy ho1).look rfl (Nat.le_of_ble_eq_true rfl) (Nat.le_of_ble_eq_true rfl) (fun w1 h1 => ok_Smithy_readMinds ho1 h1) (by decide) rfl hF (fun s4 hF => ?_)
          refine w_goto rfl ?_
          exact j_vret rfl rfl hF
      · refine w_aload_n (pc2 := 85) rfl rfl rfl ?_
        refine w_getfield (pc2 := 88) rfl (zk_cSmithy ho1) rfl rfl rfl ?_
        refine w_aload_n (pc2 := 89) rfl rfl rfl ?_
        refine j_geti (pc2 := 92) rfl (zk_cSmithy ho1) rfl rfl rfl hF (fun v5 hF => ?_)
        refine w_aload_n (pc2 := 93) rfl rfl rfl ?_
        refine w_iconst (pc2 := 94) rfl rfl ?_
        refine w_bipush (pc2 := 96) rfl rfl ?_
        refine j_cIv (pc2 := 99) (k := 1) (c := zt_m98) (as := [.ref 1, .int (0 : Int32), .int (9 : Int32)]) (rest := [.int v5, .ref (o1 + 4)]) rfl rfl rfl rfl zk_cTape.look rfl (Nat.le_of_ble_eq_true rfl) (Nat.le_of_ble_eq_true rfl) (fun w1 h1 => ok_Tape_takeNumber h1) (by decide) rfl hF (fun v7 s6 hF => ?_)
        refine j_iastore (pc2 := 100) (n := 6) rfl ho1.k.2.2.2.2.2.1 (by omega) (by have := ho1.k.1; omega) rfl hF (fun s8 hF => ?_)
        refine w_aload_n (pc2 := 101) rfl rfl rfl ?_
        refine w_dup (pc2 := 102) rfl rfl rfl ?_
        refine j_geti (pc2 := 105) rfl (zk_cSmithy ho1) rfl rfl rfl hF (fun v9 hF => ?_)
        refine w_iconst (pc2 := 106) rfl rfl ?_
        refine w_iadd (pc2 := 107) rfl rfl ?_
        refine j_puti (pc2 := 110) (j := 4) rfl (zk_cSmithy ho1) rfl (Nat.le_of_ble_eq_true rfl) rfl (zk_wSmithy_4 ho1) (by have := ho1.k.1; omega) rfl hF (fun s10 hF => ?_)
        refine w_goto rfl ?_
        exact j_vret rfl rfl hF
    · refine w_aload_n (pc2 := 35) rfl rfl rfl ?_
      refine w_getfield (pc2 := 38) rfl (zk_cSmithy ho1) rfl rfl rfl ?_
      refine w_aload_n (pc2 := 39) rfl rfl rfl ?_
      refine j_geti (pc2 := 42) rfl (zk_cSmithy ho1) rfl rfl rfl hF (fun v11 hF => ?_)
      refine w_aload_n (pc2 := 43) rfl rfl rfl ?_
      refine w_iconst (pc2 := 44) rfl rfl ?_
      refine w_bipush (pc2 := 46) rfl rfl ?_
      refine j_cIv (pc2 := 49) (k := 1) (c := zt_m98) (as := [.ref 1, .int (0 : Int32), .int (99 : Int32)]) (rest := [.int v11, .ref (o1 + 1)]) rfl rfl rfl rfl zk_cTape.look rfl (Nat.le_of_ble_eq_true rfl) (Nat.le_of_ble_eq_true rfl) (fun w1 h1 => ok_Tape_takeNumber h1) (by decide) rfl hF (fun v13 s12 hF => ?_)
      refine j_iastore (pc2 := 50) (n := 5) rfl ho1.k.2.2.1 (by omega) (by have := ho1.k.1; omega) rfl hF (fun s14 hF => ?_)
      refine w_aload_n (pc2 := 51) rfl rfl rfl ?_
      refine w_getfield (pc2 := 54) rfl (zk_cSmithy ho1) rfl rfl rfl ?_
      refine w_aload_n (pc2 := 55) rfl rfl rfl ?_
      refine j_geti (pc2 := 58) rfl (zk_cSmithy ho1) rfl rfl rfl hF (fun v15 hF => ?_)
      refine w_aload_n (pc2 := 59) rfl rfl rfl ?_
      refine w_iconst (pc2 := 60) rfl rfl ?_
      refine w_bipush (pc2 := 62) rfl rfl ?_
      refine j_cIv (pc2 := 65) (k := 1) (c := zt_m98) (as := [.ref 1, .int (1 : Int32), .int (99 : Int32)]) (rest := [.int v15, .ref (o1 + 2)]) rfl rfl rfl rfl zk_cTape.look rfl (Nat.le_of_ble_eq_true rfl) (Nat.le_of_ble_eq_true rfl) (fun w1 h1 => ok_Tape_takeNumber h1) (by decide) rfl hF (fun v17 s16 hF => ?_)
      refine j_iastore (pc2 := 66) (n := 5) rfl ho1.k.2.2.2.1 (by omega) (by have := ho1.k.1; omega) rfl hF (fun s18 hF => ?_)
      refine w_aload_n (pc2 := 67) rfl rfl rfl ?_
      refine w_dup (pc2 := 68) rfl rfl rfl ?_
      refine j_geti (pc2 := 71) rfl (zk_cSmithy ho1) rfl rfl rfl hF (fun v19 hF => ?_)
      refine w_iconst (pc2 := 72) rfl rfl ?_
      refine w_iadd (pc2 := 73) rfl rfl ?_
      refine j_puti (pc2 := 76) (j := 3) rfl (zk_cSmithy ho1) rfl (Nat.le_of_ble_eq_true rfl) rfl (zk_wSmithy_3 ho1) (by have := ho1.k.1; omega) rfl hF (fun s20 hF => ?_)
      refine w_goto rfl ?_
      exact j_vret rfl rfl hF
  · refine w_aload_n (pc2 := 5) rfl rfl rfl ?_
    refine w_aload_n (pc2 := 6) rfl rfl rfl ?_
    refine w_iconst (pc2 := 7) rfl rfl ?_
    refine w_bipush (pc2 := 9) rfl rfl ?_
    refine j_cIv (pc2 := 12) (k := 1) (c := zt_m98) (as := [.ref 1, .int (1 : Int32), .int (99 : Int32)]) (rest := [.ref o1]) rfl rfl rfl rfl zk_cTape.look rfl (Nat.le_of_ble_eq_true rfl) (Nat.le_of_ble_eq_true rfl) (fun w1 h1 => ok_Tape_takeNumber h1) (by decide) rfl hF (fun v22 s21 hF => ?_)
    refine j_puti (pc2 := 15) (j := 1) rfl (zk_cSmithy ho1) rfl (Nat.le_of_ble_eq_true rfl) rfl (zk_wSmithy_1 ho1) (by have := ho1.k.1; omega) rfl hF (fun s23 hF => ?_)
    refine w_aload_n (pc2 := 16) rfl rfl rfl ?_
    refine w_aload_n (pc2 := 17) rfl rfl rfl ?_
    refine w_iconst (pc2 := 18) rfl rfl ?_
    refine w_bipush (pc2 := 20) rfl rfl ?_
    refine j_cIv (pc2 := 23) (k := 1) (c := zt_m98) (as := [.ref 1, .int (1 : Int32), .int (9 : Int32)]) (rest := [.ref o1]) rfl rfl rfl rfl zk_cTape.look rfl (Nat.le_of_ble_eq_true rfl) (Nat.le_of_ble_eq_true rfl) (fun w1 h1 => ok_Tape_takeNumber h1) (by decide) rfl hF (fun v25 s24 hF => ?_)
    refine j_puti (pc2 := 26) (j := 2) rfl (zk_cSmithy ho1) rfl (Nat.le_of_ble_eq_true rfl) rfl (zk_wSmithy_2 ho1) (by have := ho1.k.1; omega) rfl hF (fun s26 hF => ?_)
    refine w_goto rfl ?_
    exact j_vret rfl rfl hF
noncomputable def f_Smithy_readClause (o1 : Nat) (p2 : Int32) (s0 : ZS) : Option (ZS) := zcl (f_Tape_wordAmong 1000010 s0) (fun (v4 : Int32) (s3 : ZS) => (if ¬ v4 = (-1 : Int32) then zj0 (fun (s5 : ZS) => zgi (s5.1 1 2) (fun (v7 : Int32) => zcv (f_Tape_refuse v7 (4 : Int32) s5) (fun (s8 : ZS) => some s8))) (fun (k6 : ZS → Option (ZS)) => (if (40 : Int32) ≤ p2 then k6 s3 else zjn (A := Int32) (fun (a10 : Int32) (s9 : ZS) => zjn (A := Int32) (fun (a13 : Int32) (s12 : ZS) => (if ¬ a10 = a13 then k6 s12 else zcl (f_Smithy_isFull o1 v4 s12) (fun (v16 : Int32) (s15 : ZS) => (if v16 = 0 then zcl (f_Tape_wordSize s15) (fun (v18 : Int32) (s17 : ZS) => zcv (f_Tape_pass v18 s17) (fun (s19 : ZS) => zcv (f_Smithy_readNumbers o1 v4 s19) (fun (s20 : ZS) => some s20))) else k6 s15)))) (fun (k14 : Int32 → ZS → Option (ZS)) => (if ¬ p2 = 0 then k14 (0 : Int32) s9 else k14 (1 : Int32) s9))) (fun (k11 : Int32 → ZS → Option (ZS)) => (if ¬ v4 = 0 then k11 (0 : Int32) s3 else k11 (1 : Int32) s3)))) else zgi (s3.1 1 2) (fun (v21 : Int32) => zcv (f_Tape_refuse v21 (0 : Int32) s3) (fun (s22 : ZS) => some s22))))
set_option maxHeartbeats 4000000 in
set_option maxRecDepth 100000 in
theorem ok_Smithy_readClause {L : Nat} {xs : Nat → Int32} {b : ZH} {o1 : Nat} {p2 : Int32} (ho1 : zk_isSmithy o1) {s0 : ZS} {w : ZS} (hF : f_Smithy_readClause o1 p2 s0 = some w) : zz_ct zt_ms zt_nm zt_df (zt_X L xs) 6 zt_m72 [.ref o1, .ref 1, .int p2] (zk b s0) (qV b w) := by
  unfold f_Smithy_readClause at hF
  change zz_wp zt_ms zt_nm zt_df (zt_X L xs) 6 zt_m72 0 [(0, .ref o1), (1, .ref 1), (2, .int p2)] [] (zk b s0) (qV b w)
  refine w_aload_n (pc2 := 1) rfl rfl rfl ?_
  refine w_ldc (pc2 := 3) rfl rfl ?_
  refine j_cIv (pc2 := 6) (k := 5) (c := zt_m92) (as := [.ref 1, .ref 1000010]) (rest := []) rfl rfl rfl rfl zk_cTape.look rfl (Nat.le_of_ble_eq_true rfl) (Nat.le_of_ble_eq_true rfl) (fun w1 h1 => ok_Tape_wordAmong zk_str0 h1) (by decide) rfl hF (fun v4 s3 hF => ?_)
  refine w_istore_n (pc2 := 7) (ls2 := [(3, .int v4), (0, .ref o1), (1, .ref 1), (2, .int p2)]) rfl rfl rfl ?_
  refine w_iload_n (pc2 := 8) rfl rfl rfl ?_
  refine w_iconst (pc2 := 9) rfl rfl ?_
  refine j_icmp_ne (pc2 := 12) rfl rfl hF (fun hF => ?_) (fun hF => ?_)
  · refine w_iload_n (pc2 := 25) rfl rfl rfl ?_
    refine w_bipush (pc2 := 27) rfl rfl ?_
    refine j_join0 (P := fun (s5 : ZS) => zz_wp zt_ms zt_nm zt_df (zt_X L xs) 6 zt_m72 59 [(1, .ref 1)] [] (zk b s5) (qV b w)) hF (fun s5 hF => ?_) (fun k6 hk6 hF => ?_)
    · refine w_aload_n (pc2 := 60) rfl rfl rfl ?_
      refine w_aload_n (pc2 := 61) rfl rfl rfl ?_
      refine j_geti (pc2 := 64) rfl zk_cTape rfl rfl rfl hF (fun v7 hF => ?_)
      refine w_iconst (pc2 := 65) rfl rfl ?_
      refine j_cVv (pc2 := 68) (k := 0) (c := zt_m96) (as := [.ref 1, .int v7, .int (4 : Int32)]) (rest := []) rfl rfl rfl rfl zk_cTape.look rfl (Nat.le_of_ble_eq_true rfl) (Nat.le_of_ble_eq_true rfl) (fun w1 h1 => ok_Tape_refuse h1) (by decide) rfl hF (fun s8 hF => ?_)
      refine w_goto rfl ?_
      exact j_vret rfl rfl hF
    · refine j_icmp_ge (pc2 := 30) rfl rfl hF (fun hF => ?_) (fun hF => ?_)
      · exact j_norm (l := [(1, .ref 1)]) ⟨rfl, trivial⟩ (zz_nd_of (ks := [1]) rfl (by decide)) (hk6 s3 hF)
      · refine w_iload_n (pc2 := 31) rfl rfl rfl ?_
        refine j_join (P := fun (a10 : Int32) (s9 : ZS) => zz_wp zt_ms zt_nm zt_df (zt_X L xs) 6 zt_m72 39 [(0, .ref o1), (1, .ref 1), (2, .int p2), (3, .int v4)] [.int a10] (zk b s9) (qV b w)) hF (fun a10 s9 hF => ?_) (fun k11 hk11 hF => ?_)
        · refine w_iload_n (pc2 := 40) rfl rfl rfl ?_
          refine j_join (P := fun (a13 : Int32) (s12 : ZS) => zz_wp zt_ms zt_nm zt_df (zt_X L xs) 6 zt_m72 48 [(0, .ref o1), (1, .ref 1), (3, .int v4)] [.int a13, .int a10] (zk b s12) (qV b w)) hF (fun a13 s12 hF => ?_) (fun k14 hk14 hF => ?_)
          · refine j_icmp_ne (pc2 := 51) rfl rfl hF (fun hF => ?_) (fun hF => ?_)
            · exact j_norm (l := [(1, .ref 1)]) ⟨rfl, trivial⟩ (zz_nd_of (ks := [1]) rfl (by decide)) (hk6 s12 hF)
            · refine w_aload_n (pc2 := 52) rfl rfl rfl ?_
              refine w_iload_n (pc2 := 53) rfl rfl rfl ?_
              refine j_cIv (pc2 := 56) (k := 0) (c := zt_m73) (as := [.ref o1, .int v4]) (rest := []) rfl rfl rfl rfl (zk_cSmithy ho1).look rfl (Nat.le_of_ble_eq_true rfl) (Nat.le_of_ble_eq_true rfl) (fun w1 h1 => ok_Smithy_isFull ho1 h1) (by decide) rfl hF (fun v16 s15 hF => ?_)
              refine j_if_eq (pc2 := 59) rfl rfl hF (fun hF => ?_) (fun hF => ?_)
              · refine w_aload_n (pc2 := 72) rfl rfl rfl ?_
                refine w_aload_n (pc2 := 73) rfl rfl rfl ?_
                refine j_cIv (pc2 := 76) (k := 0) (c := zt_m94) (as := [.ref 1]) (rest := [.ref 1]) rfl rfl rfl rfl zk_cTape.look rfl (Nat.le_of_ble_eq_true rfl) (Nat.le_of_ble_eq_true rfl) (fun w1 h1 => ok_Tape_wordSize h1) (by decide) rfl hF (fun v18 s17 hF => ?_)
                refine j_cVv (pc2 := 79) (k := 0) (c := zt_m97) (as := [.ref 1, .int v18]) (rest := []) rfl rfl rfl rfl zk_cTape.look rfl (Nat.le_of_ble_eq_true rfl) (Nat.le_of_ble_eq_true rfl) (fun w1 h1 => ok_Tape_pass h1) (by decide) rfl hF (fun s19 hF => ?_)
                refine w_aload_n (pc2 := 80) rfl rfl rfl ?_
                refine w_aload_n (pc2 := 81) rfl rfl rfl ?_
                refine w_iload_n (pc2 := 82) rfl rfl rfl ?_
                refine j_cVv (pc2 := 85) (k := 3) (c := zt_m74) (as := [.ref o1, .ref 1, .int v4]) (rest := []) rfl rfl rfl rfl (zk_cSmithy ho1).look rfl (Nat.le_of_ble_eq_true rfl) (Nat.le_of_ble_eq_true rfl) (fun w1 h1 => ok_Smithy_readNumbers ho1 h1) (by decide) rfl hF (fun s20 hF => ?_)
                exact j_vret rfl rfl hF
              · exact j_norm (l := [(1, .ref 1)]) ⟨rfl, trivial⟩ (zz_nd_of (ks := [1]) rfl (by decide)) (hk6 s15 hF)
          · refine j_if_ne (pc2 := 43) rfl rfl hF (fun hF => ?_) (fun hF => ?_)
            · refine w_iconst (pc2 := 48) rfl rfl ?_
              exact j_norm (l := [(0, .ref o1), (1, .ref 1), (3, .int v4)]) ⟨rfl, rfl, rfl, trivial⟩ (zz_nd_of (ks := [0, 1, 3]) rfl (by decide)) (hk14 (0 : Int32) s9 hF)
            · refine w_iconst (pc2 := 44) rfl rfl ?_
              refine w_goto rfl ?_
              exact j_norm (l := [(0, .ref o1), (1, .ref 1), (3, .int v4)]) ⟨rfl, rfl, rfl, trivial⟩ (zz_nd_of (ks := [0, 1, 3]) rfl (by decide)) (hk14 (1 : Int32) s9 hF)
        · refine j_if_ne (pc2 := 34) rfl rfl hF (fun hF => ?_) (fun hF => ?_)
          · refine w_iconst (pc2 := 39) rfl rfl ?_
            exact j_norm (l := [(0, .ref o1), (1, .ref 1), (2, .int p2), (3, .int v4)]) ⟨rfl, rfl, rfl, rfl, trivial⟩ (zz_nd_of (ks := [0, 1, 2, 3]) rfl (by decide)) (hk11 (0 : Int32) s3 hF)
          · refine w_iconst (pc2 := 35) rfl rfl ?_
            refine w_goto rfl ?_
            exact j_norm (l := [(0, .ref o1), (1, .ref 1), (2, .int p2), (3, .int v4)]) ⟨rfl, rfl, rfl, rfl, trivial⟩ (zz_nd_of (ks := [0, 1, 2, 3]) rfl (by decide)) (hk11 (1 : Int32) s3 hF)
  · refine w_aload_n (pc2 := 13) rfl rfl rfl ?_
    refine w_aload_n (pc2 := 14) rfl rfl rfl ?_
    refine j_geti (pc2 := 17) rfl zk_cTape rfl rfl rfl hF (fun v21 hF => ?_)
    refine w_iconst (pc2 := 18) rfl rfl ?_
    refine j_cVv (pc2 := 21) (k := 0) (c := zt_m96) (as := [.ref 1, .int v21, .int (0 : Int32)]) (rest := []) rfl rfl rfl rfl zk_cTape.look rfl (Nat.le_of_ble_eq_true rfl) (Nat.le_of_ble_eq_true rfl) (fun w1 h1 => ok_Tape_refuse h1) (by decide) rfl hF (fun s22 hF => ?_)
    refine w_goto rfl ?_
    exact j_vret rfl rfl hF
noncomputable def f_Smithy_readFrom_B12 (o1 : Nat) (k5 : ZS → Option (ZS)) (a11 : Int32 × Int32) (s12 : ZS) (g13 : (Int32 × Int32) → ZS → Option (ZS)) : Option (ZS) := (if a11.1 = 0 then k5 s12 else (if (40 : Int32) < a11.2 then k5 s12 else zcv (f_Smithy_readClause o1 a11.2 s12) (fun (s14 : ZS) => zcl (f_Tape_goesOn s14) (fun (v16 : Int32) (s15 : ZS) => g13 (v16, (a11.2 + (1 : Int32))) s15))))
noncomputable def f_Smithy_readFrom (o1 : Nat) (s0 : ZS) : Option (ZS) := zcv (f_Smithy_clear o1 s0) (fun (s2 : ZS) => zcv (f_Tape_rewind s2) (fun (s3 : ZS) => zj0 (fun (s4 : ZS) => zgi (s4.1 1 3) (fun (v6 : Int32) => zjn (A := Int32) (fun (a8 : Int32) (s7 : ZS) => zwb s7 o1 0 a8 (fun (s10 : ZS) => some s10)) (fun (k9 : Int32 → ZS → Option (ZS)) => (if ¬ v6 = 0 then k9 (0 : Int32) s4 else k9 (1 : Int32) s4)))) (fun (k5 : ZS → Option (ZS)) => zlp zN (f_Smithy_readFrom_B12 o1 k5) ((1 : Int32), (0 : Int32)) s3)))
set_option maxHeartbeats 4000000 in
set_option maxRecDepth 100000 in
theorem ok_Smithy_readFrom {L : Nat} {xs : Nat → Int32} {b : ZH} {o1 : Nat} (ho1 : zk_isSmithy o1) {s0 : ZS} {w : ZS} (hF : f_Smithy_readFrom o1 s0 = some w) : zz_ct zt_ms zt_nm zt_df (zt_X L xs) 7 zt_m70 [.ref o1, .ref 1] (zk b s0) (qV b w) := by
  unfold f_Smithy_readFrom at hF
  change zz_wp zt_ms zt_nm zt_df (zt_X L xs) 7 zt_m70 0 [(0, .ref o1), (1, .ref 1)] [] (zk b s0) (qV b w)
  refine w_aload_n (pc2 := 1) rfl rfl rfl ?_
  refine j_cVv (pc2 := 4) (k := 0) (c := zt_m71) (as := [.ref o1]) (rest := []) rfl rfl rfl rfl (zk_cSmithy ho1).look rfl (Nat.le_of_ble_eq_true rfl) (Nat.le_of_ble_eq_true rfl) (fun w1 h1 => ok_Smithy_clear ho1 h1) (by decide) rfl hF (fun s2 hF => ?_)
  refine w_aload_n (pc2 := 5) rfl rfl rfl ?_
  refine j_cVv (pc2 := 8) (k := 0) (c := zt_m91) (as := [.ref 1]) (rest := []) rfl rfl rfl rfl zk_cTape.look rfl (Nat.le_of_ble_eq_true rfl) (Nat.le_of_ble_eq_true rfl) (fun w1 h1 => ok_Tape_rewind h1) (by decide) rfl hF (fun s3 hF => ?_)
  refine w_iconst (pc2 := 9) rfl rfl ?_
  refine w_istore_n (pc2 := 10) (ls2 := [(2, .int (1 : Int32)), (0, .ref o1), (1, .ref 1)]) rfl rfl rfl ?_
  refine w_iconst (pc2 := 11) rfl rfl ?_
  refine w_istore_n (pc2 := 12) (ls2 := [(3, .int (0 : Int32)), (2, .int (1 : Int32)), (0, .ref o1), (1, .ref 1)]) rfl rfl rfl ?_
  refine j_join0 (P := fun (s4 : ZS) => zz_wp zt_ms zt_nm zt_df (zt_X L xs) 7 zt_m70 39 [(0, .ref o1), (1, .ref 1)] [] (zk b s4) (qV b w)) hF (fun s4 hF => ?_) (fun k5 hk5 hF => ?_)
  · refine w_aload_n (pc2 := 40) rfl rfl rfl ?_
    refine w_aload_n (pc2 := 41) rfl rfl rfl ?_
    refine j_geti (pc2 := 44) rfl zk_cTape rfl rfl rfl hF (fun v6 hF => ?_)
    refine j_join (P := fun (a8 : Int32) (s7 : ZS) => zz_wp zt_ms zt_nm zt_df (zt_X L xs) 7 zt_m70 52 [] [.int a8, .ref o1] (zk b s7) (qV b w)) hF (fun a8 s7 hF => ?_) (fun k9 hk9 hF => ?_)
    · refine j_putz (pc2 := 55) (j := 0) rfl (zk_cSmithy ho1) rfl (Nat.le_of_ble_eq_true rfl) (zk_wSmithy_0 ho1) (by have := ho1.k.1; omega) rfl hF (fun s10 hF => ?_)
      exact j_vret rfl rfl hF
    · refine j_if_ne (pc2 := 47) rfl rfl hF (fun hF => ?_) (fun hF => ?_)
      · refine w_iconst (pc2 := 52) rfl rfl ?_
        exact j_norm (l := []) trivial (zz_nd_of (ks := []) rfl (by decide)) (hk9 (0 : Int32) s4 hF)
      · refine w_iconst (pc2 := 48) rfl rfl ?_
        refine w_goto rfl ?_
        exact j_norm (l := []) trivial (zz_nd_of (ks := []) rfl (by decide)) (hk9 (1 : Int32) s4 hF)
  · refine j_norm (l := [(0, .ref o1), (1, .ref 1), (2, .int (1 : Int32)), (3, .int (0 : Int32))]) ⟨rfl, rfl, rfl, rfl, trivial⟩ (zz_nd_of (ks := [0, 1, 2, 3]) rfl (by decide)) ?_
    refine j_loop (P := fun (a11 : Int32 × Int32) (s12 : ZS) => zz_wp zt_ms zt_nm zt_df (zt_X L xs) 7 zt_m70 12 [(0, .ref o1), (1, .ref 1), (2, .int a11.1), (3, .int a11.2)] [] (zk b s12) (qV b w)) hF (fun a11 s12 g13 hg13 hF => ?_)
    unfold f_Smithy_readFrom_B12 at hF
    refine w_iload_n (pc2 := 13) rfl rfl rfl ?_
    refine j_if_eq (pc2 := 16) rfl rfl hF (fun hF => ?_) (fun hF => ?_)
    · exact j_norm (l := [(0, .ref o1), (1, .ref 1)]) ⟨rfl, rfl, trivial⟩ (zz_nd_of (ks := [0, 1]) rfl (by decide)) (hk5 s12 hF)
    · refine w_iload_n (pc2 := 17) rfl rfl rfl ?_
      refine w_bipush (pc2 := 19) rfl rfl ?_
      refine j_icmp_gt (pc2 := 22) rfl rfl hF (fun hF => ?_) (fun hF => ?_)
      · exact j_norm (l := [(0, .ref o1), (1, .ref 1)]) ⟨rfl, rfl, trivial⟩ (zz_nd_of (ks := [0, 1]) rfl (by decide)) (hk5 s12 hF)
      · refine w_aload_n (pc2 := 23) rfl rfl rfl ?_
        refine w_aload_n (pc2 := 24) rfl rfl rfl ?_
        refine w_iload_n (pc2 := 25) rfl rfl rfl ?_
        refine j_cVv (pc2 := 28) (k := 6) (c := zt_m72) (as := [.ref o1, .ref 1, .int a11.2]) (rest := []) rfl rfl rfl rfl (zk_cSmithy ho1).look rfl (Nat.le_of_ble_eq_true rfl) (Nat.le_of_ble_eq_true rfl) (fun w1 h1 => ok_Smithy_readClause ho1 h1) (by decide) rfl hF (fun s14 hF => ?_)
        refine w_aload_n (pc2 := 29) rfl rfl rfl ?_
        refine j_cIv (pc2 := 32) (k := 1) (c := zt_m100) (as := [.ref 1]) (rest := []) rfl rfl rfl rfl zk_cTape.look rfl (Nat.le_of_ble_eq_true rfl) (Nat.le_of_ble_eq_true rfl) (fun w1 h1 => ok_Tape_goesOn h1) (by decide) rfl hF (fun v16 s15 hF => ?_)
        refine w_istore_n (pc2 := 33) (ls2 := [(2, .int v16), (0, .ref o1), (1, .ref 1), (3, .int a11.2)]) rfl rfl rfl ?_
        refine w_iinc (pc2 := 36) (ls2 := [(3, .int ((a11.2 + (1 : Int32)))), (2, .int v16), (0, .ref o1), (1, .ref 1)]) rfl rfl rfl rfl ?_
        refine w_goto rfl ?_
        exact j_norm (l := [(0, .ref o1), (1, .ref 1), (2, .int v16), (3, .int ((a11.2 + (1 : Int32))))]) ⟨rfl, rfl, rfl, rfl, trivial⟩ (zz_nd_of (ks := [0, 1, 2, 3]) rfl (by decide)) (hg13 (v16, (a11.2 + (1 : Int32))) s15 hF)
