/-! What methods do as functions of the state, and that the small machine does so. -/
noncomputable def f_Model_compare (s0 : ZS) : Option (Int32 × ZS) := zcl (f_Model_sum s0) (fun (v2 : Int32) (s1 : ZS) => (if ¬ v2 = 0 then zcl (f_Model_see s1) (fun (v4 : Int32) (s3 : ZS) => zgi (s3.1 216 8) (fun (v5 : Int32) => zj0 (fun (s6 : ZS) => zgi (s6.1 216 8) (fun (v8 : Int32) => zwi s6 216 8 ((v8 + (1 : Int32))) (fun (s9 : ZS) => zjn (A := Int32) (fun (a11 : Int32) (s10 : ZS) => zj0 (fun (s13 : ZS) => zcl (f_Model_makes v5 s13) (fun (v16 : Int32) (s15 : ZS) => (if ¬ v16 = 0 then zjn (A := Int32) (fun (a18 : Int32) (s17 : ZS) => zcl (f_Model_sum s17) (fun (v21 : Int32) (s20 : ZS) => (if ¬ v21 = 0 then zcv (f_Model_puts (((6 : Int32) + a18)) (0 : Int32) s20) (fun (s22 : ZS) => zbl (1 : Int32) s22) else zbl (0 : Int32) s20))) (fun (k19 : Int32 → ZS → Option (Int32 × ZS)) => (if ¬ v4 = (60 : Int32) then (if ¬ v4 = (61 : Int32) then (if a11 = 0 then k19 (4 : Int32) s15 else k19 (3 : Int32) s15) else k19 (2 : Int32) s15) else (if a11 = 0 then k19 (0 : Int32) s15 else k19 (1 : Int32) s15))) else zbl (0 : Int32) s15))) (fun (k14 : ZS → Option (Int32 × ZS)) => (if a11 = 0 then k14 s10 else zgi (s10.1 216 8) (fun (v23 : Int32) => zwi s10 216 8 ((v23 + (1 : Int32))) (fun (s24 : ZS) => k14 s24))))) (fun (k12 : Int32 → ZS → Option (Int32 × ZS)) => zj0 (fun (s25 : ZS) => k12 (0 : Int32) s25) (fun (k26 : ZS → Option (Int32 × ZS)) => (if v4 = (61 : Int32) then k26 s9 else zgi (s9.1 216 8) (fun (v27 : Int32) => zgi (s9.1 216 1) (fun (v28 : Int32) => (if v28 ≤ v27 then k26 s9 else zgi (s9.1 216 8) (fun (v29 : Int32) => zrd 400 v29 (s9.1 217) (fun (v30 : Int32) => (if ¬ v30 = (61 : Int32) then k26 s9 else k12 (1 : Int32) s9)))))))))))) (fun (k7 : ZS → Option (Int32 × ZS)) => (if v4 = (60 : Int32) then k7 s3 else (if v4 = (61 : Int32) then k7 s3 else (if v4 = (62 : Int32) then k7 s3 else zcl (f_Model_fails (0 : Int32) v5 s3) (fun (v32 : Int32) (s31 : ZS) => zbl v32 s31))))))) else zbl (0 : Int32) s1))
set_option maxHeartbeats 4000000 in
set_option maxRecDepth 100000 in
theorem ok_Model_compare {L : Nat} {xs : Nat → Int32} {b : ZH} {s0 : ZS} {w : Int32 × ZS} (hF : f_Model_compare s0 = some w) : zz_ct zt_ms zt_nm zt_df (zt_X L xs) 6 zt_m176 [.ref 216] (zk b s0) (qI b w) := by
  unfold f_Model_compare at hF
  change zz_wp zt_ms zt_nm zt_df (zt_X L xs) 6 zt_m176 0 [(0, .ref 216)] [] (zk b s0) (qI b w)
  refine w_aload_n (pc2 := 1) rfl rfl rfl ?_
  refine j_cIv (pc2 := 4) (k := 5) (c := zt_m166) (as := [.ref 216]) (rest := []) rfl rfl rfl rfl zk_cModel.look rfl (Nat.le_of_ble_eq_true rfl) (Nat.le_of_ble_eq_true rfl) (fun w1 h1 => ok_Model_sum h1) (by decide) rfl hF (fun v2 s1 hF => ?_)
  refine j_if_ne (pc2 := 7) rfl rfl hF (fun hF => ?_) (fun hF => ?_)
  · refine w_aload_n (pc2 := 10) rfl rfl rfl ?_
    refine j_cIv (pc2 := 13) (k := 0) (c := zt_m149) (as := [.ref 216]) (rest := []) rfl rfl rfl rfl zk_cModel.look rfl (Nat.le_of_ble_eq_true rfl) (Nat.le_of_ble_eq_true rfl) (fun w1 h1 => ok_Model_see h1) (by decide) rfl hF (fun v4 s3 hF => ?_)
    refine w_istore_n (pc2 := 14) (ls2 := [(1, .int v4), (0, .ref 216)]) rfl rfl rfl ?_
    refine w_aload_n (pc2 := 15) rfl rfl rfl ?_
    refine j_geti (pc2 := 18) rfl zk_cModel rfl rfl rfl hF (fun v5 hF => ?_)
    refine w_istore_n (pc2 := 19) (ls2 := [(2, .int v5), (1, .int v4), (0, .ref 216)]) rfl rfl rfl ?_
    refine w_iload_n (pc2 := 20) rfl rfl rfl ?_
    refine w_bipush (pc2 := 22) rfl rfl ?_
    refine j_join0 (P := fun (s6 : ZS) => zz_wp zt_ms zt_nm zt_df (zt_X L xs) 6 zt_m176 44 [(0, .ref 216), (1, .int v4), (2, .int v5)] [] (zk b s6) (qI b w)) hF (fun s6 hF => ?_) (fun k7 hk7 hF => ?_)
    · refine w_aload_n (pc2 := 45) rfl rfl rfl ?_
      refine w_dup (pc2 := 46) rfl rfl rfl ?_
      refine j_geti (pc2 := 49) rfl zk_cModel rfl rfl rfl hF (fun v8 hF => ?_)
      refine w_iconst (pc2 := 50) rfl rfl ?_
      refine w_iadd (pc2 := 51) rfl rfl ?_
      refine j_puti (pc2 := 54) (j := 8) rfl zk_cModel rfl (Nat.le_of_ble_eq_true rfl) rfl zk_wModel_8 (by decide) rfl hF (fun s9 hF => ?_)
      refine w_iload_n (pc2 := 55) rfl rfl rfl ?_
      refine w_bipush (pc2 := 57) rfl rfl ?_
      refine j_join (P := fun (a11 : Int32) (s10 : ZS) => zz_wp zt_ms zt_nm zt_df (zt_X L xs) 6 zt_m176 90 [(0, .ref 216), (1, .int v4), (2, .int v5)] [.int a11] (zk b s10) (qI b w)) hF (fun a11 s10 hF => ?_) (fun k12 hk12 hF => ?_)
      · refine w_istore_n (pc2 := 91) (ls2 := [(3, .int a11), (0, .ref 216), (1, .int v4), (2, .int v5)]) rfl rfl rfl ?_
        refine w_iload_n (pc2 := 92) rfl rfl rfl ?_
        refine j_join0 (P := fun (s13 : ZS) => zz_wp zt_ms zt_nm zt_df (zt_X L xs) 6 zt_m176 105 [(0, .ref 216), (1, .int v4), (2, .int v5), (3, .int a11)] [] (zk b s13) (qI b w)) hF (fun s13 hF => ?_) (fun k14 hk14 hF => ?_)
        · refine w_aload_n (pc2 := 106) rfl rfl rfl ?_
          refine w_iload_n (pc2 := 107) rfl rfl rfl ?_
          refine j_cIv (pc2 := 110) (k := 1) (c := zt_m169) (as := [.ref 216, .int v5]) (rest := []) rfl rfl rfl rfl zk_cModel.look rfl (Nat.le_of_ble_eq_true rfl) (Nat.le_of_ble_eq_true rfl) (fun w1 h1 => ok_Model_makes h1) (by decide) rfl hF (fun v16 s15 hF => ?_)
          refine j_if_ne (pc2 := 113) rfl rfl hF (fun hF => ?_) (fun hF => ?_)
          · refine w_iload_n (pc2 := 116) rfl rfl rfl ?_
            refine w_bipush (pc2 := 118) rfl rfl ?_
            refine j_join (P := fun (a18 : Int32) (s17 : ZS) => zz_wp zt_ms zt_nm zt_df (zt_X L xs) 6 zt_m176 152 [(0, .ref 216)] [.int a18] (zk b s17) (qI b w)) hF (fun a18 s17 hF => ?_) (fun k19 hk19 hF => ?_)
            · refine w_istore (pc2 := 154) (ls2 := [(4, .int a18), (0, .ref 216)]) rfl rfl rfl ?_
              refine w_aload_n (pc2 := 155) rfl rfl rfl ?_
              refine j_cIv (pc2 := 158) (k := 5) (c := zt_m166) (as := [.ref 216]) (rest := []) rfl rfl rfl rfl zk_cModel.look rfl (Nat.le_of_ble_eq_true rfl) (Nat.le_of_ble_eq_true rfl) (fun w1 h1 => ok_Model_sum h1) (by decide) rfl hF (fun v21 s20 hF => ?_)
              refine j_if_ne (pc2 := 161) rfl rfl hF (fun hF => ?_) (fun hF => ?_)
              · refine w_aload_n (pc2 := 164) rfl rfl rfl ?_
                refine w_bipush (pc2 := 166) rfl rfl ?_
                refine w_iload (pc2 := 168) rfl rfl rfl ?_
                refine w_iadd (pc2 := 169) rfl rfl ?_
                refine w_iconst (pc2 := 170) rfl rfl ?_
                refine j_cVv (pc2 := 173) (k := 0) (c := zt_m170) (as := [.ref 216, .int (((6 : Int32) + a18)), .int (0 : Int32)]) (rest := []) rfl rfl rfl rfl zk_cModel.look rfl (Nat.le_of_ble_eq_true rfl) (Nat.le_of_ble_eq_true rfl) (fun w1 h1 => ok_Model_puts h1) (by decide) rfl hF (fun s22 hF => ?_)
                refine w_iconst (pc2 := 174) rfl rfl ?_
                exact j_zret rfl rfl hF
              · refine w_iconst (pc2 := 162) rfl rfl ?_
                exact j_zret rfl rfl hF
            · refine j_icmp_ne (pc2 := 121) rfl rfl hF (fun hF => ?_) (fun hF => ?_)
              · refine w_iload_n (pc2 := 134) rfl rfl rfl ?_
                refine w_bipush (pc2 := 136) rfl rfl ?_
                refine j_icmp_ne (pc2 := 139) rfl rfl hF (fun hF => ?_) (fun hF => ?_)
                · refine w_iload_n (pc2 := 144) rfl rfl rfl ?_
                  refine j_if_eq (pc2 := 147) rfl rfl hF (fun hF => ?_) (fun hF => ?_)
                  · refine w_iconst (pc2 := 152) rfl rfl ?_
                    exact j_norm (l := [(0, .ref 216)]) ⟨rfl, trivial⟩ (zz_nd_of (ks := [0]) rfl (by decide)) (hk19 (4 : Int32) s15 hF)
                  · refine w_iconst (pc2 := 148) rfl rfl ?_
                    refine w_goto rfl ?_
                    exact j_norm (l := [(0, .ref 216)]) ⟨rfl, trivial⟩ (zz_nd_of (ks := [0]) rfl (by decide)) (hk19 (3 : Int32) s15 hF)
                · refine w_iconst (pc2 := 140) rfl rfl ?_
                  refine w_goto rfl ?_
                  exact j_norm (l := [(0, .ref 216)]) ⟨rfl, trivial⟩ (zz_nd_of (ks := [0]) rfl (by decide)) (hk19 (2 : Int32) s15 hF)
              · refine w_iload_n (pc2 := 122) rfl rfl rfl ?_
                refine j_if_eq (pc2 := 125) rfl rfl hF (fun hF => ?_) (fun hF => ?_)
                · refine w_iconst (pc2 := 130) rfl rfl ?_
                  refine w_goto rfl ?_
                  exact j_norm (l := [(0, .ref 216)]) ⟨rfl, trivial⟩ (zz_nd_of (ks := [0]) rfl (by decide)) (hk19 (0 : Int32) s15 hF)
                · refine w_iconst (pc2 := 126) rfl rfl ?_
                  refine w_goto rfl ?_
                  exact j_norm (l := [(0, .ref 216)]) ⟨rfl, trivial⟩ (zz_nd_of (ks := [0]) rfl (by decide)) (hk19 (1 : Int32) s15 hF)
          · refine w_iconst (pc2 := 114) rfl rfl ?_
            exact j_zret rfl rfl hF
        · refine j_if_eq (pc2 := 95) rfl rfl hF (fun hF => ?_) (fun hF => ?_)
          · exact j_norm (l := [(0, .ref 216), (1, .int v4), (2, .int v5), (3, .int a11)]) ⟨rfl, rfl, rfl, rfl, trivial⟩ (zz_nd_of (ks := [0, 1, 2, 3]) rfl (by decide)) (hk14 s10 hF)
          · refine w_aload_n (pc2 := 96) rfl rfl rfl ?_
            refine w_dup (pc2 := 97) rfl rfl rfl ?_
            refine j_geti (pc2 := 100) rfl zk_cModel rfl rfl rfl hF (fun v23 hF => ?_)
            refine w_iconst (pc2 := 101) rfl rfl ?_
            refine w_iadd (pc2 := 102) rfl rfl ?_
            refine j_puti (pc2 := 105) (j := 8) rfl zk_cModel rfl (Nat.le_of_ble_eq_true rfl) rfl zk_wModel_8 (by decide) rfl hF (fun s24 hF => ?_)
            exact j_norm (l := [(0, .ref 216), (1, .int v4), (2, .int v5), (3, .int a11)]) ⟨rfl, rfl, rfl, rfl, trivial⟩ (zz_nd_of (ks := [0, 1, 2, 3]) rfl (by decide)) (hk14 s24 hF)
      · refine j_join0 (P := fun (s25 : ZS) => zz_wp zt_ms zt_nm zt_df (zt_X L xs) 6 zt_m176 89 [(0, .ref 216), (1, .int v4), (2, .int v5)] [] (zk b s25) (qI b w)) hF (fun s25 hF => ?_) (fun k26 hk26 hF => ?_)
        · refine w_iconst (pc2 := 90) rfl rfl ?_
          exact j_norm (l := [(0, .ref 216), (1, .int v4), (2, .int v5)]) ⟨rfl, rfl, rfl, trivial⟩ (zz_nd_of (ks := [0, 1, 2]) rfl (by decide)) (hk12 (0 : Int32) s25 hF)
        · refine j_icmp_eq (pc2 := 60) rfl rfl hF (fun hF => ?_) (fun hF => ?_)
          · exact j_norm (l := [(0, .ref 216), (1, .int v4), (2, .int v5)]) ⟨rfl, rfl, rfl, trivial⟩ (zz_nd_of (ks := [0, 1, 2]) rfl (by decide)) (hk26 s9 hF)
          · refine w_aload_n (pc2 := 61) rfl rfl rfl ?_
            refine j_geti (pc2 := 64) rfl zk_cModel rfl rfl rfl hF (fun v27 hF => ?_)
            refine w_aload_n (pc2 := 65) rfl rfl rfl ?_
            refine j_geti (pc2 := 68) rfl zk_cModel rfl rfl rfl hF (fun v28 hF => ?_)
            refine j_icmp_ge (pc2 := 71) rfl rfl hF (fun hF => ?_) (fun hF => ?_)
            · exact j_norm (l := [(0, .ref 216), (1, .int v4), (2, .int v5)]) ⟨rfl, rfl, rfl, trivial⟩ (zz_nd_of (ks := [0, 1, 2]) rfl (by decide)) (hk26 s9 hF)
            · refine w_aload_n (pc2 := 72) rfl rfl rfl ?_
              refine w_getfield (pc2 := 75) rfl zk_cModel rfl rfl rfl ?_
              refine w_aload_n (pc2 := 76) rfl rfl rfl ?_
              refine j_geti (pc2 := 79) rfl zk_cModel rfl rfl rfl hF (fun v29 hF => ?_)
              refine j_baload (pc2 := 80) (n := 400) rfl rfl (by omega) (by decide) rfl hF (fun v30 hF => ?_)
              refine w_bipush (pc2 := 82) rfl rfl ?_
              refine j_icmp_ne (pc2 := 85) rfl rfl hF (fun hF => ?_) (fun hF => ?_)
              · exact j_norm (l := [(0, .ref 216), (1, .int v4), (2, .int v5)]) ⟨rfl, rfl, rfl, trivial⟩ (zz_nd_of (ks := [0, 1, 2]) rfl (by decide)) (hk26 s9 hF)
              · refine w_iconst (pc2 := 86) rfl rfl ?_
                refine w_goto rfl ?_
                exact j_norm (l := [(0, .ref 216), (1, .int v4), (2, .int v5)]) ⟨rfl, rfl, rfl, trivial⟩ (zz_nd_of (ks := [0, 1, 2]) rfl (by decide)) (hk12 (1 : Int32) s9 hF)
    · refine j_icmp_eq (pc2 := 25) rfl rfl hF (fun hF => ?_) (fun hF => ?_)
      · exact j_norm (l := [(0, .ref 216), (1, .int v4), (2, .int v5)]) ⟨rfl, rfl, rfl, trivial⟩ (zz_nd_of (ks := [0, 1, 2]) rfl (by decide)) (hk7 s3 hF)
      · refine w_iload_n (pc2 := 26) rfl rfl rfl ?_
        refine w_bipush (pc2 := 28) rfl rfl ?_
        refine j_icmp_eq (pc2 := 31) rfl rfl hF (fun hF => ?_) (fun hF => ?_)
        · exact j_norm (l := [(0, .ref 216), (1, .int v4), (2, .int v5)]) ⟨rfl, rfl, rfl, trivial⟩ (zz_nd_of (ks := [0, 1, 2]) rfl (by decide)) (hk7 s3 hF)
        · refine w_iload_n (pc2 := 32) rfl rfl rfl ?_
          refine w_bipush (pc2 := 34) rfl rfl ?_
          refine j_icmp_eq (pc2 := 37) rfl rfl hF (fun hF => ?_) (fun hF => ?_)
          · exact j_norm (l := [(0, .ref 216), (1, .int v4), (2, .int v5)]) ⟨rfl, rfl, rfl, trivial⟩ (zz_nd_of (ks := [0, 1, 2]) rfl (by decide)) (hk7 s3 hF)
          · refine w_aload_n (pc2 := 38) rfl rfl rfl ?_
            refine w_iconst (pc2 := 39) rfl rfl ?_
            refine w_iload_n (pc2 := 40) rfl rfl rfl ?_
            refine j_cIv (pc2 := 43) (k := 0) (c := zt_m153) (as := [.ref 216, .int (0 : Int32), .int v5]) (rest := []) rfl rfl rfl rfl zk_cModel.look rfl (Nat.le_of_ble_eq_true rfl) (Nat.le_of_ble_eq_true rfl) (fun w1 h1 => ok_Model_fails h1) (by decide) rfl hF (fun v32 s31 hF => ?_)
            exact j_zret rfl rfl hF
  · refine w_iconst (pc2 := 8) rfl rfl ?_
    exact j_zret rfl rfl hF
noncomputable def f_Model_fact_B2 (k2 : ZS → Option (Int32 × ZS)) (a5 : Int32) (s6 : ZS) (g7 : Int32 → ZS → Option (Int32 × ZS)) : Option (Int32 × ZS) := (if a5 = 0 then k2 s6 else zcl (f_Model_see s6) (fun (v9 : Int32) (s8 : ZS) => zcl (f_Model_isWord (7237492 : Int64) s8) (fun (v11 : Int32) (s10 : ZS) => zjn (A := Int32) (fun (a13 : Int32) (s12 : ZS) => g7 a13 s12) (fun (k14 : Int32 → ZS → Option (Int32 × ZS)) => (if v11 = 0 then (if ¬ v9 = (91 : Int32) then k14 (0 : Int32) s10 else zcl (f_Model_opens (91 : Int32) s10) (fun (v16 : Int32) (s15 : ZS) => (if ¬ v16 = 0 then zgi (s15.1 216 8) (fun (v17 : Int32) => zwi s15 216 8 ((v17 + (1 : Int32))) (fun (s18 : ZS) => k14 (1 : Int32) s18)) else zbl (0 : Int32) s15))) else zcl (f_Model_opens (11 : Int32) s10) (fun (v20 : Int32) (s19 : ZS) => (if ¬ v20 = 0 then zcv (f_Model_passWord s19) (fun (s21 : ZS) => k14 (1 : Int32) s21) else zbl (0 : Int32) s19)))))))
noncomputable def f_Model_fact (s0 : ZS) : Option (Int32 × ZS) := zj0 (fun (s1 : ZS) => zcl (f_Model_compare s1) (fun (v4 : Int32) (s3 : ZS) => zbl v4 s3)) (fun (k2 : ZS → Option (Int32 × ZS)) => zlp zN (f_Model_fact_B2 k2) (1 : Int32) s0)
set_option maxHeartbeats 4000000 in
set_option maxRecDepth 100000 in
theorem ok_Model_fact {L : Nat} {xs : Nat → Int32} {b : ZH} {s0 : ZS} {w : Int32 × ZS} (hF : f_Model_fact s0 = some w) : zz_ct zt_ms zt_nm zt_df (zt_X L xs) 7 zt_m174 [.ref 216] (zk b s0) (qI b w) := by
  unfold f_Model_fact at hF
  change zz_wp zt_ms zt_nm zt_df (zt_X L xs) 7 zt_m174 0 [(0, .ref 216)] [] (zk b s0) (qI b w)
  refine w_iconst (pc2 := 1) rfl rfl ?_
  refine w_istore_n (pc2 := 2) (ls2 := [(1, .int (1 : Int32)), (0, .ref 216)]) rfl rfl rfl ?_
  refine j_join0 (P := fun (s1 : ZS) => zz_wp zt_ms zt_nm zt_df (zt_X L xs) 7 zt_m174 75 [(0, .ref 216)] [] (zk b s1) (qI b w)) hF (fun s1 hF => ?_) (fun k2 hk2 hF => ?_)
  · refine w_aload_n (pc2 := 76) rfl rfl rfl ?_
    refine j_cIv (pc2 := 79) (k := 6) (c := zt_m176) (as := [.ref 216]) (rest := []) rfl rfl rfl rfl zk_cModel.look rfl (Nat.le_of_ble_eq_true rfl) (Nat.le_of_ble_eq_true rfl) (fun w1 h1 => ok_Model_compare h1) (by decide) rfl hF (fun v4 s3 hF => ?_)
    exact j_zret rfl rfl hF
  · refine j_norm (l := [(0, .ref 216), (1, .int (1 : Int32))]) ⟨rfl, rfl, trivial⟩ (zz_nd_of (ks := [0, 1]) rfl (by decide)) ?_
    refine j_loop (P := fun (a5 : Int32) (s6 : ZS) => zz_wp zt_ms zt_nm zt_df (zt_X L xs) 7 zt_m174 2 [(0, .ref 216), (1, .int a5)] [] (zk b s6) (qI b w)) hF (fun a5 s6 g7 hg7 hF => ?_)
    unfold f_Model_fact_B2 at hF
    refine w_iload_n (pc2 := 3) rfl rfl rfl ?_
    refine j_if_eq (pc2 := 6) rfl rfl hF (fun hF => ?_) (fun hF => ?_)
    · exact j_norm (l := [(0, .ref 216)]) ⟨rfl, trivial⟩ (zz_nd_of (ks := [0]) rfl (by decide)) (hk2 s6 hF)
    · refine w_iconst (pc2 := 7) rfl rfl ?_
      refine w_istore_n (pc2 := 8) (ls2 := [(1, .int (0 : Int32)), (0, .ref 216)]) rfl rfl rfl ?_
      refine w_aload_n (pc2 := 9) rfl rfl rfl ?_
      refine j_cIv (pc2 := 12) (k := 0) (c := zt_m149) (as := [.ref 216]) (rest := []) rfl rfl rfl rfl zk_cModel.look rfl (Nat.le_of_ble_eq_true rfl) (Nat.le_of_ble_eq_true rfl) (fun w1 h1 => ok_Model_see h1) (by decide) rfl hF (fun v9 s8 hF => ?_)
      refine w_istore_n (pc2 := 13) (ls2 := [(2, .int v9), (1, .int (0 : Int32)), (0, .ref 216)]) rfl rfl rfl ?_
      refine w_aload_n (pc2 := 14) rfl rfl rfl ?_
      refine w_ldc2_w (pc2 := 17) rfl rfl ?_
      refine j_cIv (pc2 := 20) (k := 1) (c := zt_m151) (as := [.ref 216, .long (7237492 : Int64)]) (rest := []) rfl rfl rfl rfl zk_cModel.look rfl (Nat.le_of_ble_eq_true rfl) (Nat.le_of_ble_eq_true rfl) (fun w1 h1 => ok_Model_isWord h1) (by decide) rfl hF (fun v11 s10 hF => ?_)
      refine j_join (P := fun (a13 : Int32) (s12 : ZS) => zz_wp zt_ms zt_nm zt_df (zt_X L xs) 7 zt_m174 72 [(0, .ref 216), (1, .int a13)] [] (zk b s12) (qI b w)) hF (fun a13 s12 hF => ?_) (fun k14 hk14 hF => ?_)
      · refine w_goto rfl ?_
        exact j_norm (l := [(0, .ref 216), (1, .int a13)]) ⟨rfl, rfl, trivial⟩ (zz_nd_of (ks := [0, 1]) rfl (by decide)) (hg7 a13 s12 hF)
      · refine j_if_eq (pc2 := 23) rfl rfl hF (fun hF => ?_) (fun hF => ?_)
        · refine w_iload_n (pc2 := 44) rfl rfl rfl ?_
          refine w_bipush (pc2 := 46) rfl rfl ?_
          refine j_icmp_ne (pc2 := 49) rfl rfl hF (fun hF => ?_) (fun hF => ?_)
          · exact j_norm (l := [(0, .ref 216), (1, .int (0 : Int32))]) ⟨rfl, rfl, trivial⟩ (zz_nd_of (ks := [0, 1]) rfl (by decide)) (hk14 (0 : Int32) s10 hF)
          · refine w_aload_n (pc2 := 50) rfl rfl rfl ?_
            refine w_bipush (pc2 := 52) rfl rfl ?_
            refine j_cIv (pc2 := 55) (k := 1) (c := zt_m175) (as := [.ref 216, .int (91 : Int32)]) (rest := []) rfl rfl rfl rfl zk_cModel.look rfl (Nat.le_of_ble_eq_true rfl) (Nat.le_of_ble_eq_true rfl) (fun w1 h1 => ok_Model_opens h1) (by decide) rfl hF (fun v16 s15 hF => ?_)
            refine j_if_ne (pc2 := 58) rfl rfl hF (fun hF => ?_) (fun hF => ?_)
            · refine w_aload_n (pc2 := 61) rfl rfl rfl ?_
              refine w_dup (pc2 := 62) rfl rfl rfl ?_
              refine j_geti (pc2 := 65) rfl zk_cModel rfl rfl rfl hF (fun v17 hF => ?_)
              refine w_iconst (pc2 := 66) rfl rfl ?_
              refine w_iadd (pc2 := 67) rfl rfl ?_
              refine j_puti (pc2 := 70) (j := 8) rfl zk_cModel rfl (Nat.le_of_ble_eq_true rfl) rfl zk_wModel_8 (by decide) rfl hF (fun s18 hF => ?_)
              refine w_iconst (pc2 := 71) rfl rfl ?_
              refine w_istore_n (pc2 := 72) (ls2 := [(1, .int (1 : Int32)), (2, .int v9), (0, .ref 216)]) rfl rfl rfl ?_
              exact j_norm (l := [(0, .ref 216), (1, .int (1 : Int32))]) ⟨rfl, rfl, trivial⟩ (zz_nd_of (ks := [0, 1]) rfl (by decide)) (hk14 (1 : Int32) s18 hF)
            · refine w_iconst (pc2 := 59) rfl rfl ?_
              exact j_zret rfl rfl hF
        · refine w_aload_n (pc2 := 24) rfl rfl rfl ?_
          refine w_bipush (pc2 := 26) rfl rfl ?_
          refine j_cIv (pc2 := 29) (k := 1) (c := zt_m175) (as := [.ref 216, .int (11 : Int32)]) (rest := []) rfl rfl rfl rfl zk_cModel.look rfl (Nat.le_of_ble_eq_true rfl) (Nat.le_of_ble_eq_true rfl) (fun w1 h1 => ok_Model_opens h1) (by decide) rfl hF (fun v20 s19 hF => ?_)
          refine j_if_ne (pc2 := 32) rfl rfl hF (fun hF => ?_) (fun hF => ?_)
          · refine w_aload_n (pc2 := 35) rfl rfl rfl ?_
            refine j_cVv (pc2 := 38) (k := 1) (c := zt_m156) (as := [.ref 216]) (rest := []) rfl rfl rfl rfl zk_cModel.look rfl (Nat.le_of_ble_eq_true rfl) (Nat.le_of_ble_eq_true rfl) (fun w1 h1 => ok_Model_passWord h1) (by decide) rfl hF (fun s21 hF => ?_)
            refine w_iconst (pc2 := 39) rfl rfl ?_
            refine w_istore_n (pc2 := 40) (ls2 := [(1, .int (1 : Int32)), (2, .int v9), (0, .ref 216)]) rfl rfl rfl ?_
            refine w_goto rfl ?_
            exact j_norm (l := [(0, .ref 216), (1, .int (1 : Int32))]) ⟨rfl, rfl, trivial⟩ (zz_nd_of (ks := [0, 1]) rfl (by decide)) (hk14 (1 : Int32) s21 hF)
          · refine w_iconst (pc2 := 33) rfl rfl ?_
            exact j_zret rfl rfl hF
noncomputable def f_Model_strength (p1 : Int32) (s0 : ZS) : Option (Int32 × ZS) := (if ¬ p1 = (13 : Int32) then (if ¬ p1 = (12 : Int32) then (if ¬ p1 = (11 : Int32) then some ((0 : Int32), s0) else some ((3 : Int32), s0)) else some ((2 : Int32), s0)) else some ((1 : Int32), s0))
set_option maxHeartbeats 4000000 in
set_option maxRecDepth 100000 in
theorem ok_Model_strength {L : Nat} {xs : Nat → Int32} {b : ZH} {p1 : Int32} {s0 : ZS} {w : Int32 × ZS} (hF : f_Model_strength p1 s0 = some w) : zz_ct zt_ms zt_nm zt_df (zt_X L xs) 0 zt_m179 [.int p1] (zk b s0) (qI b w) := by
  unfold f_Model_strength at hF
  change zz_wp zt_ms zt_nm zt_df (zt_X L xs) 0 zt_m179 0 [(0, .int p1)] [] (zk b s0) (qI b w)
  refine w_iload_n (pc2 := 1) rfl rfl rfl ?_
  refine w_bipush (pc2 := 3) rfl rfl ?_
  refine j_icmp_ne (pc2 := 6) rfl rfl hF (fun hF => ?_) (fun hF => ?_)
  · refine w_iload_n (pc2 := 11) rfl rfl rfl ?_
    refine w_bipush (pc2 := 13) rfl rfl ?_
    refine j_icmp_ne (pc2 := 16) rfl rfl hF (fun hF => ?_) (fun hF => ?_)
    · refine w_iload_n (pc2 := 21) rfl rfl rfl ?_
      refine w_bipush (pc2 := 23) rfl rfl ?_
      refine j_icmp_ne (pc2 := 26) rfl rfl hF (fun hF => ?_) (fun hF => ?_)
      · refine w_iconst (pc2 := 31) rfl rfl ?_
        exact j_iret rfl rfl hF
      · refine w_iconst (pc2 := 27) rfl rfl ?_
        refine w_goto rfl ?_
        exact j_iret rfl rfl hF
    · refine w_iconst (pc2 := 17) rfl rfl ?_
      refine w_goto rfl ?_
      exact j_iret rfl rfl hF
  · refine w_iconst (pc2 := 7) rfl rfl ?_
    refine w_goto rfl ?_
    exact j_iret rfl rfl hF
noncomputable def f_Model_layDown_B0 (p1 : Int32) (a2 : Unit) (s3 : ZS) (g4 : Unit → ZS → Option (ZS)) : Option (ZS) := zgi (s3.1 216 16) (fun (v5 : Int32) => (if v5 ≤ 0 then some s3 else zgi (s3.1 216 16) (fun (v6 : Int32) => zrd 400 ((v6 - (1 : Int32))) (s3.1 223) (fun (v7 : Int32) => zcl (f_Model_strength v7 s3) (fun (v9 : Int32) (s8 : ZS) => (if v9 < p1 then some s8 else zgi (s8.1 216 16) (fun (v10 : Int32) => zwi s8 216 16 ((v10 - (1 : Int32))) (fun (s11 : ZS) => zgi (s11.1 216 16) (fun (v12 : Int32) => zrd 400 v12 (s11.1 223) (fun (v13 : Int32) => zcv (f_Model_puts v13 (0 : Int32) s11) (fun (s14 : ZS) => zgi (s14.1 216 16) (fun (v15 : Int32) => zrd 400 v15 (s14.1 223) (fun (v16 : Int32) => (if ¬ v16 = (11 : Int32) then g4 () s14 else zgi (s14.1 216 13) (fun (v17 : Int32) => zwi s14 216 13 ((v17 - (1 : Int32))) (fun (s18 : ZS) => g4 () s18))))))))))))))))
noncomputable def f_Model_layDown (p1 : Int32) (s0 : ZS) : Option (ZS) := zlp zN (f_Model_layDown_B0 p1) () s0
set_option maxHeartbeats 4000000 in
set_option maxRecDepth 100000 in
theorem ok_Model_layDown {L : Nat} {xs : Nat → Int32} {b : ZH} {p1 : Int32} {s0 : ZS} {w : ZS} (hF : f_Model_layDown p1 s0 = some w) : zz_ct zt_ms zt_nm zt_df (zt_X L xs) 1 zt_m178 [.ref 216, .int p1] (zk b s0) (qV b w) := by
  unfold f_Model_layDown at hF
  change zz_wp zt_ms zt_nm zt_df (zt_X L xs) 1 zt_m178 0 [(0, .ref 216), (1, .int p1)] [] (zk b s0) (qV b w)
  refine j_norm (l := [(0, .ref 216), (1, .int p1)]) ⟨rfl, rfl, trivial⟩ (zz_nd_of (ks := [0, 1]) rfl (by decide)) ?_
  refine j_loop (P := fun (a2 : Unit) (s3 : ZS) => zz_wp zt_ms zt_nm zt_df (zt_X L xs) 1 zt_m178 0 [(0, .ref 216), (1, .int p1)] [] (zk b s3) (qV b w)) hF (fun a2 s3 g4 hg4 hF => ?_)
  unfold f_Model_layDown_B0 at hF
  refine w_aload_n (pc2 := 1) rfl rfl rfl ?_
  refine j_geti (pc2 := 4) rfl zk_cModel rfl rfl rfl hF (fun v5 hF => ?_)
  refine j_if_le (pc2 := 7) rfl rfl hF (fun hF => ?_) (fun hF => ?_)
  · exact j_vret rfl rfl hF
  · refine w_aload_n (pc2 := 8) rfl rfl rfl ?_
    refine w_getfield (pc2 := 11) rfl zk_cModel rfl rfl rfl ?_
    refine w_aload_n (pc2 := 12) rfl rfl rfl ?_
    refine j_geti (pc2 := 15) rfl zk_cModel rfl rfl rfl hF (fun v6 hF => ?_)
    refine w_iconst (pc2 := 16) rfl rfl ?_
    refine w_isub (pc2 := 17) rfl rfl ?_
    refine j_iaload (pc2 := 18) (n := 400) rfl rfl (by omega) (by decide) rfl hF (fun v7 hF => ?_)
    refine j_cIs (pc2 := 21) (k := 0) (c := zt_m179) (as := [.int v7]) (rest := []) rfl rfl rfl (Nat.le_of_ble_eq_true rfl) rfl rfl (Nat.le_of_ble_eq_true rfl) (Nat.le_of_ble_eq_true rfl) (fun w1 h1 => ok_Model_strength h1) (by decide) rfl hF (fun v9 s8 hF => ?_)
    refine w_iload_n (pc2 := 22) rfl rfl rfl ?_
    refine j_icmp_lt (pc2 := 25) rfl rfl hF (fun hF => ?_) (fun hF => ?_)
    · exact j_vret rfl rfl hF
    · refine w_aload_n (pc2 := 26) rfl rfl rfl ?_
      refine w_dup (pc2 := 27) rfl rfl rfl ?_
      refine j_geti (pc2 := 30) rfl zk_cModel rfl rfl rfl hF (fun v10 hF => ?_)
      refine w_iconst (pc2 := 31) rfl rfl ?_
      refine w_isub (pc2 := 32) rfl rfl ?_
      refine j_puti (pc2 := 35) (j := 16) rfl zk_cModel rfl (Nat.le_of_ble_eq_true rfl) rfl zk_wModel_16 (by decide) rfl hF (fun s11 hF => ?_)
      refine w_aload_n (pc2 := 36) rfl rfl rfl ?_
      refine w_aload_n (pc2 := 37) rfl rfl rfl ?_
      refine w_getfield (pc2 := 40) rfl zk_cModel rfl rfl rfl ?_
      refine w_aload_n (pc2 := 41) rfl rfl rfl ?_
      refine j_geti (pc2 := 44) rfl zk_cModel rfl rfl rfl hF (fun v12 hF => ?_)
      refine j_iaload (pc2 := 45) (n := 400) rfl rfl (by omega) (by decide) rfl hF (fun v13 hF => ?_)
      refine w_iconst (pc2 := 46) rfl rfl ?_
      refine j_cVv (pc2 := 49) (k := 0) (c := zt_m170) (as := [.ref 216, .int v13, .int (0 : Int32)]) (rest := []) rfl rfl rfl rfl zk_cModel.look rfl (Nat.le_of_ble_eq_true rfl) (Nat.le_of_ble_eq_true rfl) (fun w1 h1 => ok_Model_puts h1) (by decide) rfl hF (fun s14 hF => ?_)
      refine w_aload_n (pc2 := 50) rfl rfl rfl ?_
      refine w_getfield (pc2 := 53) rfl zk_cModel rfl rfl rfl ?_
      refine w_aload_n (pc2 := 54) rfl rfl rfl ?_
      refine j_geti (pc2 := 57) rfl zk_cModel rfl rfl rfl hF (fun v15 hF => ?_)
      refine j_iaload (pc2 := 58) (n := 400) rfl rfl (by omega) (by decide) rfl hF (fun v16 hF => ?_)
      refine w_bipush (pc2 := 60) rfl rfl ?_
      refine j_icmp_ne (pc2 := 63) rfl rfl hF (fun hF => ?_) (fun hF => ?_)
      · exact j_norm (l := [(0, .ref 216), (1, .int p1)]) ⟨rfl, rfl, trivial⟩ (zz_nd_of (ks := [0, 1]) rfl (by decide)) (hg4 () s14 hF)
      · refine w_aload_n (pc2 := 64) rfl rfl rfl ?_
        refine w_dup (pc2 := 65) rfl rfl rfl ?_
        refine j_geti (pc2 := 68) rfl zk_cModel rfl rfl rfl hF (fun v17 hF => ?_)
        refine w_iconst (pc2 := 69) rfl rfl ?_
        refine w_isub (pc2 := 70) rfl rfl ?_
        refine j_puti (pc2 := 73) (j := 13) rfl zk_cModel rfl (Nat.le_of_ble_eq_true rfl) rfl zk_wModel_13 (by decide) rfl hF (fun s18 hF => ?_)
        refine w_goto rfl ?_
        exact j_norm (l := [(0, .ref 216), (1, .int p1)]) ⟨rfl, rfl, trivial⟩ (zz_nd_of (ks := [0, 1]) rfl (by decide)) (hg4 () s18 hF)
noncomputable def f_Model_isInside_B2 (a1 : Int32) (s2 : ZS) (g3 : Int32 → ZS → Option (Int32 × ZS)) : Option (Int32 × ZS) := zgi (s2.1 216 16) (fun (v4 : Int32) => (if v4 ≤ a1 then zbl (0 : Int32) s2 else zrd 400 a1 (s2.1 223) (fun (v5 : Int32) => (if ¬ v5 = (91 : Int32) then g3 (a1 + (1 : Int32)) s2 else zbl (1 : Int32) s2))))
noncomputable def f_Model_isInside (s0 : ZS) : Option (Int32 × ZS) := zlp zN (f_Model_isInside_B2) (0 : Int32) s0
set_option maxHeartbeats 4000000 in
set_option maxRecDepth 100000 in
theorem ok_Model_isInside {L : Nat} {xs : Nat → Int32} {b : ZH} {s0 : ZS} {w : Int32 × ZS} (hF : f_Model_isInside s0 = some w) : zz_ct zt_ms zt_nm zt_df (zt_X L xs) 0 zt_m180 [.ref 216] (zk b s0) (qI b w) := by
  unfold f_Model_isInside at hF
  change zz_wp zt_ms zt_nm zt_df (zt_X L xs) 0 zt_m180 0 [(0, .ref 216)] [] (zk b s0) (qI b w)
  refine w_iconst (pc2 := 1) rfl rfl ?_
  refine w_istore_n (pc2 := 2) (ls2 := [(1, .int (0 : Int32)), (0, .ref 216)]) rfl rfl rfl ?_
  refine j_norm (l := [(0, .ref 216), (1, .int (0 : Int32))]) ⟨rfl, rfl, trivial⟩ (zz_nd_of (ks := [0, 1]) rfl (by decide)) ?_
  refine j_loop (P := fun (a1 : Int32) (s2 : ZS) => zz_wp zt_ms zt_nm zt_df (zt_X L xs) 0 zt_m180 2 [(0, .ref 216), (1, .int a1)] [] (zk b s2) (qI b w)) hF (fun a1 s2 g3 hg3 hF => ?_)
  unfold f_Model_isInside_B2 at hF
  refine w_iload_n (pc2 := 3) rfl rfl rfl ?_
  refine w_aload_n (pc2 := 4) rfl rfl rfl ?_
  refine j_geti (pc2 := 7) rfl zk_cModel rfl rfl rfl hF (fun v4 hF => ?_)
  refine j_icmp_ge (pc2 := 10) rfl rfl hF (fun hF => ?_) (fun hF => ?_)
  · refine w_iconst (pc2 := 30) rfl rfl ?_
    exact j_zret rfl rfl hF
  · refine w_aload_n (pc2 := 11) rfl rfl rfl ?_
    refine w_getfield (pc2 := 14) rfl zk_cModel rfl rfl rfl ?_
    refine w_iload_n (pc2 := 15) rfl rfl rfl ?_
    refine j_iaload (pc2 := 16) (n := 400) rfl rfl (by omega) (by decide) rfl hF (fun v5 hF => ?_)
    refine w_bipush (pc2 := 18) rfl rfl ?_
    refine j_icmp_ne (pc2 := 21) rfl rfl hF (fun hF => ?_) (fun hF => ?_)
    · refine w_iinc (pc2 := 26) (ls2 := [(1, .int ((a1 + (1 : Int32)))), (0, .ref 216)]) rfl rfl rfl rfl ?_
      refine w_goto rfl ?_
      exact j_norm (l := [(0, .ref 216), (1, .int ((a1 + (1 : Int32))))]) ⟨rfl, rfl, trivial⟩ (zz_nd_of (ks := [0, 1]) rfl (by decide)) (hg3 (a1 + (1 : Int32)) s2 hF)
    · refine w_iconst (pc2 := 22) rfl rfl ?_
      exact j_zret rfl rfl hF
noncomputable def f_Model_closes_B5 (a2 : Unit) (s3 : ZS) (g4 : Unit → ZS → Option (ZS)) : Option (ZS) := zcl (f_Model_see s3) (fun (v6 : Int32) (s5 : ZS) => (if ¬ v6 = (93 : Int32) then some s5 else zcl (f_Model_isInside s5) (fun (v8 : Int32) (s7 : ZS) => (if v8 = 0 then some s7 else zcv (f_Model_layDown (1 : Int32) s7) (fun (s9 : ZS) => zgi (s9.1 216 16) (fun (v10 : Int32) => zwi s9 216 16 ((v10 - (1 : Int32))) (fun (s11 : ZS) => zgi (s11.1 216 13) (fun (v12 : Int32) => zwi s11 216 13 ((v12 - (1 : Int32))) (fun (s13 : ZS) => zgi (s13.1 216 8) (fun (v14 : Int32) => zwi s13 216 8 ((v14 + (1 : Int32))) (fun (s15 : ZS) => zcv (f_Model_layDown (3 : Int32) s15) (fun (s16 : ZS) => g4 () s16))))))))))))
noncomputable def f_Model_closes (s0 : ZS) : Option (ZS) := zcv (f_Model_layDown (3 : Int32) s0) (fun (s1 : ZS) => zlp zN (f_Model_closes_B5) () s1)
set_option maxHeartbeats 4000000 in
set_option maxRecDepth 100000 in
theorem ok_Model_closes {L : Nat} {xs : Nat → Int32} {b : ZH} {s0 : ZS} {w : ZS} (hF : f_Model_closes s0 = some w) : zz_ct zt_ms zt_nm zt_df (zt_X L xs) 2 zt_m177 [.ref 216] (zk b s0) (qV b w) := by
  unfold f_Model_closes at hF
  change zz_wp zt_ms zt_nm zt_df (zt_X L xs) 2 zt_m177 0 [(0, .ref 216)] [] (zk b s0) (qV b w)
  refine w_aload_n (pc2 := 1) rfl rfl rfl ?_
  refine w_iconst (pc2 := 2) rfl rfl ?_
  refine j_cVv (pc2 := 5) (k := 1) (c := zt_m178) (as := [.ref 216, .int (3 : Int32)]) (rest := []) rfl rfl rfl rfl zk_cModel.look rfl (Nat.le_of_ble_eq_true rfl) (Nat.le_of_ble_eq_true rfl) (fun w1 h1 => ok_Model_layDown h1) (by decide) rfl hF (fun s1 hF => ?_)
  refine j_norm (l := [(0, .ref 216)]) ⟨rfl, trivial⟩ (zz_nd_of (ks := [0]) rfl (by decide)) ?_
  refine j_loop (P := fun (a2 : Unit) (s3 : ZS) => zz_wp zt_ms zt_nm zt_df (zt_X L xs) 2 zt_m177 5 [(0, .ref 216)] [] (zk b s3) (qV b w)) hF (fun a2 s3 g4 hg4 hF => ?_)
  unfold f_Model_closes_B5 at hF
  refine w_aload_n (pc2 := 6) rfl rfl rfl ?_
  refine j_cIv (pc2 := 9) (k := 0) (c := zt_m149) (as := [.ref 216]) (rest := []) rfl rfl rfl rfl zk_cModel.look rfl (Nat.le_of_ble_eq_true rfl) (Nat.le_of_ble_eq_true rfl) (fun w1 h1 => ok_Model_see h1) (by decide) rfl hF (fun v6 s5 hF => ?_)
  refine w_bipush (pc2 := 11) rfl rfl ?_
  refine j_icmp_ne (pc2 := 14) rfl rfl hF (fun hF => ?_) (fun hF => ?_)
  · exact j_vret rfl rfl hF
  · refine w_aload_n (pc2 := 15) rfl rfl rfl ?_
    refine j_cIv (pc2 := 18) (k := 0) (c := zt_m180) (as := [.ref 216]) (rest := []) rfl rfl rfl rfl zk_cModel.look rfl (Nat.le_of_ble_eq_true rfl) (Nat.le_of_ble_eq_true rfl) (fun w1 h1 => ok_Model_isInside h1) (by decide) rfl hF (fun v8 s7 hF => ?_)
    refine j_if_eq (pc2 := 21) rfl rfl hF (fun hF => ?_) (fun hF => ?_)
    · exact j_vret rfl rfl hF
    · refine w_aload_n (pc2 := 22) rfl rfl rfl ?_
      refine w_iconst (pc2 := 23) rfl rfl ?_
      refine j_cVv (pc2 := 26) (k := 1) (c := zt_m178) (as := [.ref 216, .int (1 : Int32)]) (rest := []) rfl rfl rfl rfl zk_cModel.look rfl (Nat.le_of_ble_eq_true rfl) (Nat.le_of_ble_eq_true rfl) (fun w1 h1 => ok_Model_layDown h1) (by decide) rfl hF (fun s9 hF => ?_)
      refine w_aload_n (pc2 := 27) rfl rfl rfl ?_
      refine w_dup (pc2 := 28) rfl rfl rfl ?_
      refine j_geti (pc2 := 31) rfl zk_cModel rfl rfl rfl hF (fun v10 hF => ?_)
      refine w_iconst (pc2 := 32) rfl rfl ?_
      refine w_isub (pc2 := 33) rfl rfl ?_
      refine j_puti (pc2 := 36) (j := 16) rfl zk_cModel rfl (Nat.le_of_ble_eq_true rfl) rfl zk_wModel_16 (by decide) rfl hF (fun s11 hF => ?_)
      refine w_aload_n (pc2 := 37) rfl rfl rfl ?_
      refine w_dup (pc2 := 38) rfl rfl rfl ?_
      refine j_geti (pc2 := 41) rfl zk_cModel rfl rfl rfl hF (fun v12 hF => ?_)
      refine w_iconst (pc2 := 42) rfl rfl ?_
      refine w_isub (pc2 := 43) rfl rfl ?_
      refine j_puti (pc2 := 46) (j := 13) rfl zk_cModel rfl (Nat.le_of_ble_eq_true rfl) rfl zk_wModel_13 (by decide) rfl hF (fun s13 hF => ?_)
      refine w_aload_n (pc2 := 47) rfl rfl rfl ?_
      refine w_dup (pc2 := 48) rfl rfl rfl ?_
      refine j_geti (pc2 := 51) rfl zk_cModel rfl rfl rfl hF (fun v14 hF => ?_)
      refine w_iconst (pc2 := 52) rfl rfl ?_
      refine w_iadd (pc2 := 53) rfl rfl ?_
      refine j_puti (pc2 := 56) (j := 8) rfl zk_cModel rfl (Nat.le_of_ble_eq_true rfl) rfl zk_wModel_8 (by decide) rfl hF (fun s15 hF => ?_)
      refine w_aload_n (pc2 := 57) rfl rfl rfl ?_
      refine w_iconst (pc2 := 58) rfl rfl ?_
      refine j_cVv (pc2 := 61) (k := 1) (c := zt_m178) (as := [.ref 216, .int (3 : Int32)]) (rest := []) rfl rfl rfl rfl zk_cModel.look rfl (Nat.le_of_ble_eq_true rfl) (Nat.le_of_ble_eq_true rfl) (fun w1 h1 => ok_Model_layDown h1) (by decide) rfl hF (fun s16 hF => ?_)
      refine w_goto rfl ?_
      exact j_norm (l := [(0, .ref 216)]) ⟨rfl, trivial⟩ (zz_nd_of (ks := [0]) rfl (by decide)) (hg4 () s16 hF)
noncomputable def f_Model_tested_B12 (k4 : ZS → Option (Int32 × ZS)) (a13 : Int32) (s14 : ZS) (g15 : Int32 → ZS → Option (Int32 × ZS)) : Option (Int32 × ZS) := (if a13 = 0 then k4 s14 else zcl (f_Model_fact s14) (fun (v17 : Int32) (s16 : ZS) => (if ¬ v17 = 0 then zcv (f_Model_closes s16) (fun (s18 : ZS) => zcl (f_Model_isWord (6385252 : Int64) s18) (fun (v20 : Int32) (s19 : ZS) => zjn (A := Int32) (fun (a22 : Int32) (s21 : ZS) => (if a22 = 0 then g15 a22 s21 else zcl (f_Model_isWord (6385252 : Int64) s21) (fun (v25 : Int32) (s24 : ZS) => zjn (A := Int32) (fun (a27 : Int32) (s26 : ZS) => zcv (f_Model_passWord s26) (fun (s29 : ZS) => zcl (f_Model_strength a27 s29) (fun (v31 : Int32) (s30 : ZS) => zcv (f_Model_layDown v31 s30) (fun (s32 : ZS) => zgi (s32.1 216 16) (fun (v33 : Int32) => zwa s32 223 400 v33 a27 (fun (s34 : ZS) => zgi (s34.1 216 16) (fun (v35 : Int32) => zwi s34 216 16 ((v35 + (1 : Int32))) (fun (s36 : ZS) => g15 a22 s36)))))))) (fun (k28 : Int32 → ZS → Option (Int32 × ZS)) => (if v25 = 0 then k28 (13 : Int32) s24 else k28 (12 : Int32) s24))))) (fun (k23 : Int32 → ZS → Option (Int32 × ZS)) => zj0 (fun (s37 : ZS) => k23 (1 : Int32) s37) (fun (k38 : ZS → Option (Int32 × ZS)) => (if ¬ v20 = 0 then k38 s19 else zcl (f_Model_isWord (28530 : Int64) s19) (fun (v40 : Int32) (s39 : ZS) => (if v40 = 0 then k23 (0 : Int32) s39 else k38 s39))))))) else zbl (0 : Int32) s16)))
noncomputable def f_Model_tested (s0 : ZS) : Option (Int32 × ZS) := zwi s0 216 16 (0 : Int32) (fun (s1 : ZS) => zwi s1 216 13 (0 : Int32) (fun (s2 : ZS) => zj0 (fun (s3 : ZS) => zcl (f_Model_isInside s3) (fun (v6 : Int32) (s5 : ZS) => (if v6 = 0 then zcv (f_Model_layDown (1 : Int32) s5) (fun (s7 : ZS) => zbl (1 : Int32) s7) else zcl (f_Model_see s5) (fun (v9 : Int32) (s8 : ZS) => zgi (s8.1 216 8) (fun (v10 : Int32) => zcl (f_Model_fails (0 : Int32) v10 s8) (fun (v12 : Int32) (s11 : ZS) => zbl v12 s11)))))) (fun (k4 : ZS → Option (Int32 × ZS)) => zlp zN (f_Model_tested_B12 k4) (1 : Int32) s2)))
set_option maxHeartbeats 4000000 in
set_option maxRecDepth 100000 in
theorem ok_Model_tested {L : Nat} {xs : Nat → Int32} {b : ZH} {s0 : ZS} {w : Int32 × ZS} (hF : f_Model_tested s0 = some w) : zz_ct zt_ms zt_nm zt_df (zt_X L xs) 8 zt_m173 [.ref 216] (zk b s0) (qI b w) := by
  unfold f_Model_tested at hF
  change zz_wp zt_ms zt_nm zt_df (zt_X L xs) 8 zt_m173 0 [(0, .ref 216)] [] (zk b s0) (qI b w)
  refine w_aload_n (pc2 := 1) rfl rfl rfl ?_
  refine w_iconst (pc2 := 2) rfl rfl ?_
  refine j_puti (pc2 := 5) (j := 16) rfl zk_cModel rfl (Nat.le_of_ble_eq_true rfl) rfl zk_wModel_16 (by decide) rfl hF (fun s1 hF => ?_)
  refine w_aload_n (pc2 := 6) rfl rfl rfl ?_
  refine w_iconst (pc2 := 7) rfl rfl ?_
  refine j_puti (pc2 := 10) (j := 13) rfl zk_cModel rfl (Nat.le_of_ble_eq_true rfl) rfl zk_wModel_13 (by decide) rfl hF (fun s2 hF => ?_)
  refine w_iconst (pc2 := 11) rfl rfl ?_
  refine w_istore_n (pc2 := 12) (ls2 := [(1, .int (1 : Int32)), (0, .ref 216)]) rfl rfl rfl ?_
  refine j_join0 (P := fun (s3 : ZS) => zz_wp zt_ms zt_nm zt_df (zt_X L xs) 8 zt_m173 112 [(0, .ref 216)] [] (zk b s3) (qI b w)) hF (fun s3 hF => ?_) (fun k4 hk4 hF => ?_)
  · refine w_aload_n (pc2 := 113) rfl rfl rfl ?_
    refine j_cIv (pc2 := 116) (k := 0) (c := zt_m180) (as := [.ref 216]) (rest := []) rfl rfl rfl rfl zk_cModel.look rfl (Nat.le_of_ble_eq_true rfl) (Nat.le_of_ble_eq_true rfl) (fun w1 h1 => ok_Model_isInside h1) (by decide) rfl hF (fun v6 s5 hF => ?_)
    refine j_if_eq (pc2 := 119) rfl rfl hF (fun hF => ?_) (fun hF => ?_)
    · refine w_aload_n (pc2 := 135) rfl rfl rfl ?_
      refine w_iconst (pc2 := 136) rfl rfl ?_
      refine j_cVv (pc2 := 139) (k := 1) (c := zt_m178) (as := [.ref 216, .int (1 : Int32)]) (rest := []) rfl rfl rfl rfl zk_cModel.look rfl (Nat.le_of_ble_eq_true rfl) (Nat.le_of_ble_eq_true rfl) (fun w1 h1 => ok_Model_layDown h1) (by decide) rfl hF (fun s7 hF => ?_)
      refine w_iconst (pc2 := 140) rfl rfl ?_
      exact j_zret rfl rfl hF
    · refine w_aload_n (pc2 := 120) rfl rfl rfl ?_
      refine j_cIv (pc2 := 123) (k := 0) (c := zt_m149) (as := [.ref 216]) (rest := []) rfl rfl rfl rfl zk_cModel.look rfl (Nat.le_of_ble_eq_true rfl) (Nat.le_of_ble_eq_true rfl) (fun w1 h1 => ok_Model_see h1) (by decide) rfl hF (fun v9 s8 hF => ?_)
      refine w_pop (pc2 := 124) rfl rfl rfl ?_
      refine w_aload_n (pc2 := 125) rfl rfl rfl ?_
      refine w_iconst (pc2 := 126) rfl rfl ?_
      refine w_aload_n (pc2 := 127) rfl rfl rfl ?_
      refine j_geti (pc2 := 130) rfl zk_cModel rfl rfl rfl hF (fun v10 hF => ?_)
      refine j_cIv (pc2 := 133) (k := 0) (c := zt_m153) (as := [.ref 216, .int (0 : Int32), .int v10]) (rest := []) rfl rfl rfl rfl zk_cModel.look rfl (Nat.le_of_ble_eq_true rfl) (Nat.le_of_ble_eq_true rfl) (fun w1 h1 => ok_Model_fails h1) (by decide) rfl hF (fun v12 s11 hF => ?_)
      exact j_zret rfl rfl hF
  · refine j_norm (l := [(0, .ref 216), (1, .int (1 : Int32))]) ⟨rfl, rfl, trivial⟩ (zz_nd_of (ks := [0, 1]) rfl (by decide)) ?_
    refine j_loop (P := fun (a13 : Int32) (s14 : ZS) => zz_wp zt_ms zt_nm zt_df (zt_X L xs) 8 zt_m173 12 [(0, .ref 216), (1, .int a13)] [] (zk b s14) (qI b w)) hF (fun a13 s14 g15 hg15 hF => ?_)
    unfold f_Model_tested_B12 at hF
    refine w_iload_n (pc2 := 13) rfl rfl rfl ?_
    refine j_if_eq (pc2 := 16) rfl rfl hF (fun hF => ?_) (fun hF => ?_)
    · exact j_norm (l := [(0, .ref 216)]) ⟨rfl, trivial⟩ (zz_nd_of (ks := [0]) rfl (by decide)) (hk4 s14 hF)
    · refine w_aload_n (pc2 := 17) rfl rfl rfl ?_
      refine j_cIv (pc2 := 20) (k := 7) (c := zt_m174) (as := [.ref 216]) (rest := []) rfl rfl rfl rfl zk_cModel.look rfl (Nat.le_of_ble_eq_true rfl) (Nat.le_of_ble_eq_true rfl) (fun w1 h1 => ok_Model_fact h1) (by decide) rfl hF (fun v17 s16 hF => ?_)
      refine j_if_ne (pc2 := 23) rfl rfl hF (fun hF => ?_) (fun hF => ?_)
      · refine w_aload_n (pc2 := 26) rfl rfl rfl ?_
        refine j_cVv (pc2 := 29) (k := 2) (c := zt_m177) (as := [.ref 216]) (rest := []) rfl rfl rfl rfl zk_cModel.look rfl (Nat.le_of_ble_eq_true rfl) (Nat.le_of_ble_eq_true rfl) (fun w1 h1 => ok_Model_closes h1) (by decide) rfl hF (fun s18 hF => ?_)
        refine w_aload_n (pc2 := 30) rfl rfl rfl ?_
        refine w_ldc2_w (pc2 := 33) rfl rfl ?_
        refine j_cIv (pc2 := 36) (k := 1) (c := zt_m151) (as := [.ref 216, .long (6385252 : Int64)]) (rest := []) rfl rfl rfl rfl zk_cModel.look rfl (Nat.le_of_ble_eq_true rfl) (Nat.le_of_ble_eq_true rfl) (fun w1 h1 => ok_Model_isWord h1) (by decide) rfl hF (fun v20 s19 hF => ?_)
        refine j_join (P := fun (a22 : Int32) (s21 : ZS) => zz_wp zt_ms zt_nm zt_df (zt_X L xs) 8 zt_m173 54 [(0, .ref 216)] [.int a22] (zk b s21) (qI b w)) hF (fun a22 s21 hF => ?_) (fun k23 hk23 hF => ?_)
        · refine w_istore_n (pc2 := 55) (ls2 := [(1, .int a22), (0, .ref 216)]) rfl rfl rfl ?_
          refine w_iload_n (pc2 := 56) rfl rfl rfl ?_
          refine j_if_eq (pc2 := 59) rfl rfl hF (fun hF => ?_) (fun hF => ?_)
          · exact j_norm (l := [(0, .ref 216), (1, .int a22)]) ⟨rfl, rfl, trivial⟩ (zz_nd_of (ks := [0, 1]) rfl (by decide)) (hg15 a22 s21 hF)
          · refine w_aload_n (pc2 := 60) rfl rfl rfl ?_
            refine w_ldc2_w (pc2 := 63) rfl rfl ?_
            refine j_cIv (pc2 := 66) (k := 1) (c := zt_m151) (as := [.ref 216, .long (6385252 : Int64)]) (rest := []) rfl rfl rfl rfl zk_cModel.look rfl (Nat.le_of_ble_eq_true rfl) (Nat.le_of_ble_eq_true rfl) (fun w1 h1 => ok_Model_isWord h1) (by decide) rfl hF (fun v25 s24 hF => ?_)
            refine j_join (P := fun (a27 : Int32) (s26 : ZS) => zz_wp zt_ms zt_nm zt_df (zt_X L xs) 8 zt_m173 76 [(0, .ref 216), (1, .int a22)] [.int a27] (zk b s26) (qI b w)) hF (fun a27 s26 hF => ?_) (fun k28 hk28 hF => ?_)
            · refine w_istore_n (pc2 := 77) (ls2 := [(2, .int a27), (0, .ref 216), (1, .int a22)]) rfl rfl rfl ?_
              refine w_aload_n (pc2 := 78) rfl rfl rfl ?_
              refine j_cVv (pc2 := 81) (k := 1) (c := zt_m156) (as := [.ref 216]) (rest := []) rfl rfl rfl rfl zk_cModel.look rfl (Nat.le_of_ble_eq_true rfl) (Nat.le_of_ble_eq_true rfl) (fun w1 h1 => ok_Model_passWord h1) (by decide) rfl hF (fun s29 hF => ?_)
              refine w_aload_n (pc2 := 82) rfl rfl rfl ?_
              refine w_iload_n (pc2 := 83) rfl rfl rfl ?_
              refine j_cIs (pc2 := 86) (k := 0) (c := zt_m179) (as := [.int a27]) (rest := [.ref 216]) rfl rfl rfl (Nat.le_of_ble_eq_true rfl) rfl rfl (Nat.le_of_ble_eq_true rfl) (Nat.le_of_ble_eq_true rfl) (fun w1 h1 => ok_Model_strength h1) (by decide) rfl hF (fun v31 s30 hF => ?_)
              refine j_cVv (pc2 := 89) (k := 1) (c := zt_m178) (as := [.ref 216, .int v31]) (rest := []) rfl rfl rfl rfl zk_cModel.look rfl (Nat.le_of_ble_eq_true rfl) (Nat.le_of_ble_eq_true rfl) (fun w1 h1 => ok_Model_layDown h1) (by decide) rfl hF (fun s32 hF => ?_)
              refine w_aload_n (pc2 := 90) rfl rfl rfl ?_
              refine w_getfield (pc2 := 93) rfl zk_cModel rfl rfl rfl ?_
              refine w_aload_n (pc2 := 94) rfl rfl rfl ?_
              refine j_geti (pc2 := 97) rfl zk_cModel rfl rfl rfl hF (fun v33 hF => ?_)
              refine w_iload_n (pc2 := 98) rfl rfl rfl ?_
              refine j_iastore (pc2 := 99) (n := 400) rfl rfl (by omega) (by decide) rfl hF (fun s34 hF => ?_)
              refine w_aload_n (pc2 := 100) rfl rfl rfl ?_
              refine w_dup (pc2 := 101) rfl rfl rfl ?_
              refine j_geti (pc2 := 104) rfl zk_cModel rfl rfl rfl hF (fun v35 hF => ?_)
              refine w_iconst (pc2 := 105) rfl rfl ?_
              refine w_iadd (pc2 := 106) rfl rfl ?_
              refine j_puti (pc2 := 109) (j := 16) rfl zk_cModel rfl (Nat.le_of_ble_eq_true rfl) rfl zk_wModel_16 (by decide) rfl hF (fun s36 hF => ?_)
              refine w_goto rfl ?_
              exact j_norm (l := [(0, .ref 216), (1, .int a22)]) ⟨rfl, rfl, trivial⟩ (zz_nd_of (ks := [0, 1]) rfl (by decide)) (hg15 a22 s36 hF)
            · refine j_if_eq (pc2 := 69) rfl rfl hF (fun hF => ?_) (fun hF => ?_)
              · refine w_bipush (pc2 := 76) rfl rfl ?_
                exact j_norm (l := [(0, .ref 216), (1, .int a22)]) ⟨rfl, rfl, trivial⟩ (zz_nd_of (ks := [0, 1]) rfl (by decide)) (hk28 (13 : Int32) s24 hF)
              · refine w_bipush (pc2 := 71) rfl rfl ?_
                refine w_goto rfl ?_
                exact j_norm (l := [(0, .ref 216), (1, .int a22)]) ⟨rfl, rfl, trivial⟩ (zz_nd_of (ks := [0, 1]) rfl (by decide)) (hk28 (12 : Int32) s24 hF)
        · refine j_join0 (P := fun (s37 : ZS) => zz_wp zt_ms zt_nm zt_df (zt_X L xs) 8 zt_m173 49 [(0, .ref 216)] [] (zk b s37) (qI b w)) hF (fun s37 hF => ?_) (fun k38 hk38 hF => ?_)
          · refine w_iconst (pc2 := 50) rfl rfl ?_
            refine w_goto rfl ?_
            exact j_norm (l := [(0, .ref 216)]) ⟨rfl, trivial⟩ (zz_nd_of (ks := [0]) rfl (by decide)) (hk23 (1 : Int32) s37 hF)
          · refine j_if_ne (pc2 := 39) rfl rfl hF (fun hF => ?_) (fun hF => ?_)
            · exact j_norm (l := [(0, .ref 216)]) ⟨rfl, trivial⟩ (zz_nd_of (ks := [0]) rfl (by decide)) (hk38 s19 hF)
            · refine w_aload_n (pc2 := 40) rfl rfl rfl ?_
              refine w_ldc2_w (pc2 := 43) rfl rfl ?_
              refine j_cIv (pc2 := 46) (k := 1) (c := zt_m151) (as := [.ref 216, .long (28530 : Int64)]) (rest := []) rfl rfl rfl rfl zk_cModel.look rfl (Nat.le_of_ble_eq_true rfl) (Nat.le_of_ble_eq_true rfl) (fun w1 h1 => ok_Model_isWord h1) (by decide) rfl hF (fun v40 s39 hF => ?_)
              refine j_if_eq (pc2 := 49) rfl rfl hF (fun hF => ?_) (fun hF => ?_)
              · refine w_iconst (pc2 := 54) rfl rfl ?_
                exact j_norm (l := [(0, .ref 216)]) ⟨rfl, trivial⟩ (zz_nd_of (ks := [0]) rfl (by decide)) (hk23 (0 : Int32) s39 hF)
              · exact j_norm (l := [(0, .ref 216)]) ⟨rfl, trivial⟩ (zz_nd_of (ks := [0]) rfl (by decide)) (hk38 s39 hF)
      · refine w_iconst (pc2 := 24) rfl rfl ?_
        exact j_zret rfl rfl hF
noncomputable def f_Model_isSayHere (s0 : ZS) : Option (Int32 × ZS) := zcv (f_Model_passWord s0) (fun (s1 : ZS) => zgi (s1.1 216 11) (fun (v2 : Int32) => zgi (s1.1 216 11) (fun (v3 : Int32) => zrd 6 v3 (s1.1 221) (fun (v4 : Int32) => zgi (s1.1 216 11) (fun (v5 : Int32) => zrd 7 v5 (s1.1 219) (fun (v6 : Int32) => zwa s1 220 288 ((((48 : Int32) * v2) + ((4 : Int32) * v4))) v6 (fun (s7 : ZS) => zcl (f_Model_sum s7) (fun (v9 : Int32) (s8 : ZS) => (if ¬ v9 = 0 then zgi (s8.1 216 11) (fun (v10 : Int32) => zrd 7 v10 (s8.1 219) (fun (v11 : Int32) => zwa s8 220 288 (((((48 : Int32) * v2) + ((4 : Int32) * v4)) + (1 : Int32))) v11 (fun (s12 : ZS) => zwa s12 220 288 (((((48 : Int32) * v2) + ((4 : Int32) * v4)) + (2 : Int32))) (-1 : Int32) (fun (s13 : ZS) => zcl (f_Model_takesWord (26982 : Int64) s13) (fun (v15 : Int32) (s14 : ZS) => zj0 (fun (s16 : ZS) => zgi (s16.1 216 11) (fun (v18 : Int32) => zrd 7 v18 (s16.1 219) (fun (v19 : Int32) => zwa s16 220 288 (((((48 : Int32) * v2) + ((4 : Int32) * v4)) + (3 : Int32))) v19 (fun (s20 : ZS) => zgi (s20.1 216 11) (fun (v21 : Int32) => zrd 6 v21 (s20.1 221) (fun (v22 : Int32) => zwa s20 221 6 v21 ((v22 + (1 : Int32))) (fun (s23 : ZS) => zbl (1 : Int32) s23))))))) (fun (k17 : ZS → Option (Int32 × ZS)) => (if v15 = 0 then k17 s14 else zgi (s14.1 216 11) (fun (v24 : Int32) => zrd 7 v24 (s14.1 219) (fun (v25 : Int32) => zwa s14 220 288 (((((48 : Int32) * v2) + ((4 : Int32) * v4)) + (2 : Int32))) v25 (fun (s26 : ZS) => zcl (f_Model_tested s26) (fun (v28 : Int32) (s27 : ZS) => (if ¬ v28 = 0 then k17 s27 else zbl (0 : Int32) s27)))))))))))) else zbl (0 : Int32) s8)))))))))
set_option maxHeartbeats 4000000 in
set_option maxRecDepth 100000 in
theorem ok_Model_isSayHere {L : Nat} {xs : Nat → Int32} {b : ZH} {s0 : ZS} {w : Int32 × ZS} (hF : f_Model_isSayHere s0 = some w) : zz_ct zt_ms zt_nm zt_df (zt_X L xs) 9 zt_m165 [.ref 216] (zk b s0) (qI b w) := by
  unfold f_Model_isSayHere at hF
  change zz_wp zt_ms zt_nm zt_df (zt_X L xs) 9 zt_m165 0 [(0, .ref 216)] [] (zk b s0) (qI b w)
  refine w_aload_n (pc2 := 1) rfl rfl rfl ?_
  refine j_cVv (pc2 := 4) (k := 1) (c := zt_m156) (as := [.ref 216]) (rest := []) rfl rfl rfl rfl zk_cModel.look rfl (Nat.le_of_ble_eq_true rfl) (Nat.le_of_ble_eq_true rfl) (fun w1 h1 => ok_Model_passWord h1) (by decide) rfl hF (fun s1 hF => ?_)
  refine w_bipush (pc2 := 6) rfl rfl ?_
  refine w_aload_n (pc2 := 7) rfl rfl rfl ?_
  refine j_geti (pc2 := 10) rfl zk_cModel rfl rfl rfl hF (fun v2 hF => ?_)
  refine w_imul (pc2 := 11) rfl rfl ?_
  refine w_iconst (pc2 := 12) rfl rfl ?_
  refine w_aload_n (pc2 := 13) rfl rfl rfl ?_
  refine w_getfield (pc2 := 16) rfl zk_cModel rfl rfl rfl ?_
  refine w_aload_n (pc2 := 17) rfl rfl rfl ?_
  refine j_geti (pc2 := 20) rfl zk_cModel rfl rfl rfl hF (fun v3 hF => ?_)
  refine j_iaload (pc2 := 21) (n := 6) rfl rfl (by omega) (by decide) rfl hF (fun v4 hF => ?_)
  refine w_imul (pc2 := 22) rfl rfl ?_
  refine w_iadd (pc2 := 23) rfl rfl ?_
  refine w_istore_n (pc2 := 24) (ls2 := [(1, .int ((((48 : Int32) * v2) + ((4 : Int32) * v4)))), (0, .ref 216)]) rfl rfl rfl ?_
  refine w_aload_n (pc2 := 25) rfl rfl rfl ?_
  refine w_getfield (pc2 := 28) rfl zk_cModel rfl rfl rfl ?_
  refine w_iload_n (pc2 := 29) rfl rfl rfl ?_
  refine w_aload_n (pc2 := 30) rfl rfl rfl ?_
  refine w_getfield (pc2 := 33) rfl zk_cModel rfl rfl rfl ?_
  refine w_aload_n (pc2 := 34) rfl rfl rfl ?_
  refine j_geti (pc2 := 37) rfl zk_cModel rfl rfl rfl hF (fun v5 hF => ?_)
  refine j_iaload (pc2 := 38) (n := 7) rfl rfl (by omega) (by decide) rfl hF (fun v6 hF => ?_)
  refine j_iastore (pc2 := 39) (n := 288) rfl rfl (by omega) (by decide) rfl hF (fun s7 hF => ?_)
  refine w_aload_n (pc2 := 40) rfl rfl rfl ?_
  refine j_cIv (pc2 := 43) (k := 5) (c := zt_m166) (as := [.ref 216]) (rest := []) rfl rfl rfl rfl zk_cModel.look rfl (Nat.le_of_ble_eq_true rfl) (Nat.le_of_ble_eq_true rfl) (fun w1 h1 => ok_Model_sum h1) (by decide) rfl hF (fun v9 s8 hF => ?_)
  refine j_if_ne (pc2 := 46) rfl rfl hF (fun hF => ?_) (fun hF => ?_)
  · refine w_aload_n (pc2 := 49) rfl rfl rfl ?_
    refine w_getfield (pc2 := 52) rfl zk_cModel rfl rfl rfl ?_
    refine w_iload_n (pc2 := 53) rfl rfl rfl ?_
    refine w_iconst (pc2 := 54) rfl rfl ?_
    refine w_iadd (pc2 := 55) rfl rfl ?_
    refine w_aload_n (pc2 := 56) rfl rfl rfl ?_
    refine w_getfield (pc2 := 59) rfl zk_cModel rfl rfl rfl ?_
    refine w_aload_n (pc2 := 60) rfl rfl rfl ?_
    refine j_geti (pc2 := 63) rfl zk_cModel rfl rfl rfl hF (fun v10 hF => ?_)
    refine j_iaload (pc2 := 64) (n := 7) rfl rfl (by omega) (by decide) rfl hF (fun v11 hF => ?_)
    refine j_iastore (pc2 := 65) (n := 288) rfl rfl (by omega) (by decide) rfl hF (fun s12 hF => ?_)
    refine w_aload_n (pc2 := 66) rfl rfl rfl ?_
    refine w_getfield (pc2 := 69) rfl zk_cModel rfl rfl rfl ?_
    refine w_iload_n (pc2 := 70) rfl rfl rfl ?_
    refine w_iconst (pc2 := 71) rfl rfl ?_
    refine w_iadd (pc2 := 72) rfl rfl ?_
    refine w_iconst (pc2 := 73) rfl rfl ?_
    refine j_iastore (pc2 := 74) (n := 288) rfl rfl (by omega) (by decide) rfl hF (fun s13 hF => ?_)
    refine w_aload_n (pc2 := 75) rfl rfl rfl ?_
    refine w_ldc2_w (pc2 := 78) rfl rfl ?_
    refine j_cIv (pc2 := 81) (k := 2) (c := zt_m172) (as := [.ref 216, .long (26982 : Int64)]) (rest := []) rfl rfl rfl rfl zk_cModel.look rfl (Nat.le_of_ble_eq_true rfl) (Nat.le_of_ble_eq_true rfl) (fun w1 h1 => ok_Model_takesWord h1) (by decide) rfl hF (fun v15 s14 hF => ?_)
    refine j_join0 (P := fun (s16 : ZS) => zz_wp zt_ms zt_nm zt_df (zt_X L xs) 9 zt_m165 110 [(0, .ref 216), (1, .int ((((48 : Int32) * v2) + ((4 : Int32) * v4))))] [] (zk b s16) (qI b w)) hF (fun s16 hF => ?_) (fun k17 hk17 hF => ?_)
    · refine w_aload_n (pc2 := 111) rfl rfl rfl ?_
      refine w_getfield (pc2 := 114) rfl zk_cModel rfl rfl rfl ?_
      refine w_iload_n (pc2 := 115) rfl rfl rfl ?_
      refine w_iconst (pc2 := 116) rfl rfl ?_
      refine w_iadd (pc2 := 117) rfl rfl ?_
      refine w_aload_n (pc2 := 118) rfl rfl rfl ?_
      refine w_getfield (pc2 := 121) rfl zk_cModel rfl rfl rfl ?_
      refine w_aload_n (pc2 := 122) rfl rfl rfl ?_
      refine j_geti (pc2 := 125) rfl zk_cModel rfl rfl rfl hF (fun v18 hF => ?_)
      refine j_iaload (pc2 := 126) (n := 7) rfl rfl (by omega) (by decide) rfl hF (fun v19 hF => ?_)
      refine j_iastore (pc2 := 127) (n := 288) rfl rfl (by omega) (by decide) rfl hF (fun s20 hF => ?_)
      refine w_aload_n (pc2 := 128) rfl rfl rfl ?_
      refine w_getfield (pc2 := 131) rfl zk_cModel rfl rfl rfl ?_
      refine w_aload_n (pc2 := 132) rfl rfl rfl ?_
      refine j_geti (pc2 := 135) rfl zk_cModel rfl rfl rfl hF (fun v21 hF => ?_)
      refine w_dup2 (pc2 := 136) rfl rfl rfl rfl ?_
      refine j_iaload (pc2 := 137) (n := 6) rfl rfl (by omega) (by decide) rfl hF (fun v22 hF => ?_)
      refine w_iconst (pc2 := 138) rfl rfl ?_
      refine w_iadd (pc2 := 139) rfl rfl ?_
      refine j_iastore (pc2 := 140) (n := 6) rfl rfl (by omega) (by decide) rfl hF (fun s23 hF => ?_)
      refine w_iconst (pc2 := 141) rfl rfl ?_
      exact j_zret rfl rfl hF
    · refine j_if_eq (pc2 := 84) rfl rfl hF (fun hF => ?_) (fun hF => ?_)
      · exact j_norm (l := [(0, .ref 216), (1, .int ((((48 : Int32) * v2) + ((4 : Int32) * v4))))]) ⟨rfl, rfl, trivial⟩ (zz_nd_of (ks := [0, 1]) rfl (by decide)) (hk17 s14 hF)
      · refine w_aload_n (pc2 := 85) rfl rfl rfl ?_
        refine w_getfield (pc2 := 88) rfl zk_cModel rfl rfl rfl ?_
        refine w_iload_n (pc2 := 89) rfl rfl rfl ?_
        refine w_iconst (pc2 := 90) rfl rfl ?_
        refine w_iadd (pc2 := 91) rfl rfl ?_
        refine w_aload_n (pc2 := 92) rfl rfl rfl ?_
        refine w_getfield (pc2 := 95) rfl zk_cModel rfl rfl rfl ?_
        refine w_aload_n (pc2 := 96) rfl rfl rfl ?_
        refine j_geti (pc2 := 99) rfl zk_cModel rfl rfl rfl hF (fun v24 hF => ?_)
        refine j_iaload (pc2 := 100) (n := 7) rfl rfl (by omega) (by decide) rfl hF (fun v25 hF => ?_)
        refine j_iastore (pc2 := 101) (n := 288) rfl rfl (by omega) (by decide) rfl hF (fun s26 hF => ?_)
        refine w_aload_n (pc2 := 102) rfl rfl rfl ?_
        refine j_cIv (pc2 := 105) (k := 8) (c := zt_m173) (as := [.ref 216]) (rest := []) rfl rfl rfl rfl zk_cModel.look rfl (Nat.le_of_ble_eq_true rfl) (Nat.le_of_ble_eq_true rfl) (fun w1 h1 => ok_Model_tested h1) (by decide) rfl hF (fun v28 s27 hF => ?_)
        refine j_if_ne (pc2 := 108) rfl rfl hF (fun hF => ?_) (fun hF => ?_)
        · exact j_norm (l := [(0, .ref 216), (1, .int ((((48 : Int32) * v2) + ((4 : Int32) * v4))))]) ⟨rfl, rfl, trivial⟩ (zz_nd_of (ks := [0, 1]) rfl (by decide)) (hk17 s27 hF)
        · refine w_iconst (pc2 := 109) rfl rfl ?_
          exact j_zret rfl rfl hF
  · refine w_iconst (pc2 := 47) rfl rfl ?_
    exact j_zret rfl rfl hF
noncomputable def f_Model_clauseHere (s0 : ZS) : Option (Int32 × ZS) := zcl (f_Model_see s0) (fun (v2 : Int32) (s1 : ZS) => zgi (s1.1 216 8) (fun (v3 : Int32) => zgi (s1.1 216 11) (fun (v4 : Int32) => zjn (A := Int32) (fun (a6 : Int32) (s5 : ZS) => zj0 (fun (s8 : ZS) => zgi (s8.1 216 14) (fun (v10 : Int32) => zjn (A := Int32) (fun (a12 : Int32) (s11 : ZS) => (if ¬ v10 = a12 then zgi (s11.1 216 14) (fun (v14 : Int32) => zwi s11 216 14 ((v14 + (1 : Int32))) (fun (s15 : ZS) => (if a6 = 0 then zcl (f_Model_isSayHere s15) (fun (v17 : Int32) (s16 : ZS) => zbl v17 s16) else zcl (f_Model_smithLineHere v3 s15) (fun (v19 : Int32) (s18 : ZS) => zbl v19 s18)))) else zcl (f_Model_fails (4 : Int32) v3 s11) (fun (v21 : Int32) (s20 : ZS) => zbl v21 s20))) (fun (k13 : Int32 → ZS → Option (Int32 × ZS)) => (if a6 = 0 then k13 (12 : Int32) s8 else k13 (40 : Int32) s8)))) (fun (k9 : ZS → Option (Int32 × ZS)) => zj0 (fun (s22 : ZS) => zcl (f_Model_fails (0 : Int32) v3 s22) (fun (v25 : Int32) (s24 : ZS) => zbl v25 s24)) (fun (k23 : ZS → Option (Int32 × ZS)) => (if a6 = 0 then zcl (f_Model_isWord (7561593 : Int64) s5) (fun (v27 : Int32) (s26 : ZS) => (if ¬ v27 = 0 then k9 s26 else k23 s26)) else zcl (f_Model_isSmithWord s5) (fun (v29 : Int32) (s28 : ZS) => (if ¬ v29 = 0 then k9 s28 else k23 s28)))))) (fun (k7 : Int32 → ZS → Option (Int32 × ZS)) => (if ¬ v4 = (6 : Int32) then k7 (0 : Int32) s1 else k7 (1 : Int32) s1)))))
set_option maxHeartbeats 4000000 in
set_option maxRecDepth 100000 in
theorem ok_Model_clauseHere {L : Nat} {xs : Nat → Int32} {b : ZH} {s0 : ZS} {w : Int32 × ZS} (hF : f_Model_clauseHere s0 = some w) : zz_ct zt_ms zt_nm zt_df (zt_X L xs) 10 zt_m148 [.ref 216] (zk b s0) (qI b w) := by
  unfold f_Model_clauseHere at hF
  change zz_wp zt_ms zt_nm zt_df (zt_X L xs) 10 zt_m148 0 [(0, .ref 216)] [] (zk b s0) (qI b w)
  refine w_aload_n (pc2 := 1) rfl rfl rfl ?_
  refine j_cIv (pc2 := 4) (k := 0) (c := zt_m149) (as := [.ref 216]) (rest := []) rfl rfl rfl rfl zk_cModel.look rfl (Nat.le_of_ble_eq_true rfl) (Nat.le_of_ble_eq_true rfl) (fun w1 h1 => ok_Model_see h1) (by decide) rfl hF (fun v2 s1 hF => ?_)
  refine w_pop (pc2 := 5) rfl rfl rfl ?_
  refine w_aload_n (pc2 := 6) rfl rfl rfl ?_
  refine j_geti (pc2 := 9) rfl zk_cModel rfl rfl rfl hF (fun v3 hF => ?_)
  refine w_istore_n (pc2 := 10) (ls2 := [(1, .int v3), (0, .ref 216)]) rfl rfl rfl ?_
  refine w_aload_n (pc2 := 11) rfl rfl rfl ?_
  refine j_geti (pc2 := 14) rfl zk_cModel rfl rfl rfl hF (fun v4 hF => ?_)
  refine w_bipush (pc2 := 16) rfl rfl ?_
  refine j_join (P := fun (a6 : Int32) (s5 : ZS) => zz_wp zt_ms zt_nm zt_df (zt_X L xs) 10 zt_m148 24 [(0, .ref 216), (1, .int v3)] [.int a6] (zk b s5) (qI b w)) hF (fun a6 s5 hF => ?_) (fun k7 hk7 hF => ?_)
  · refine w_istore_n (pc2 := 25) (ls2 := [(2, .int a6), (0, .ref 216), (1, .int v3)]) rfl rfl rfl ?_
    refine w_iload_n (pc2 := 26) rfl rfl rfl ?_
    refine j_join0 (P := fun (s8 : ZS) => zz_wp zt_ms zt_nm zt_df (zt_X L xs) 10 zt_m148 56 [(0, .ref 216), (1, .int v3), (2, .int a6)] [] (zk b s8) (qI b w)) hF (fun s8 hF => ?_) (fun k9 hk9 hF => ?_)
    · refine w_aload_n (pc2 := 57) rfl rfl rfl ?_
      refine j_geti (pc2 := 60) rfl zk_cModel rfl rfl rfl hF (fun v10 hF => ?_)
      refine w_iload_n (pc2 := 61) rfl rfl rfl ?_
      refine j_join (P := fun (a12 : Int32) (s11 : ZS) => zz_wp zt_ms zt_nm zt_df (zt_X L xs) 10 zt_m148 71 [(0, .ref 216), (1, .int v3), (2, .int a6)] [.int a12, .int v10] (zk b s11) (qI b w)) hF (fun a12 s11 hF => ?_) (fun k13 hk13 hF => ?_)
      · refine j_icmp_ne (pc2 := 74) rfl rfl hF (fun hF => ?_) (fun hF => ?_)
        · refine w_aload_n (pc2 := 82) rfl rfl rfl ?_
          refine w_dup (pc2 := 83) rfl rfl rfl ?_
          refine j_geti (pc2 := 86) rfl zk_cModel rfl rfl rfl hF (fun v14 hF => ?_)
          refine w_iconst (pc2 := 87) rfl rfl ?_
          refine w_iadd (pc2 := 88) rfl rfl ?_
          refine j_puti (pc2 := 91) (j := 14) rfl zk_cModel rfl (Nat.le_of_ble_eq_true rfl) rfl zk_wModel_14 (by decide) rfl hF (fun s15 hF => ?_)
          refine w_iload_n (pc2 := 92) rfl rfl rfl ?_
          refine j_if_eq (pc2 := 95) rfl rfl hF (fun hF => ?_) (fun hF => ?_)
          · refine w_aload_n (pc2 := 104) rfl rfl rfl ?_
            refine j_cIv (pc2 := 107) (k := 9) (c := zt_m165) (as := [.ref 216]) (rest := []) rfl rfl rfl rfl zk_cModel.look rfl (Nat.le_of_ble_eq_true rfl) (Nat.le_of_ble_eq_true rfl) (fun w1 h1 => ok_Model_isSayHere h1) (by decide) rfl hF (fun v17 s16 hF => ?_)
            exact j_zret rfl rfl hF
          · refine w_aload_n (pc2 := 96) rfl rfl rfl ?_
            refine w_iload_n (pc2 := 97) rfl rfl rfl ?_
            refine j_cIv (pc2 := 100) (k := 4) (c := zt_m154) (as := [.ref 216, .int v3]) (rest := []) rfl rfl rfl rfl zk_cModel.look rfl (Nat.le_of_ble_eq_true rfl) (Nat.le_of_ble_eq_true rfl) (fun w1 h1 => ok_Model_smithLineHere h1) (by decide) rfl hF (fun v19 s18 hF => ?_)
            refine w_goto rfl ?_
            exact j_zret rfl rfl hF
        · refine w_aload_n (pc2 := 75) rfl rfl rfl ?_
          refine w_iconst (pc2 := 76) rfl rfl ?_
          refine w_iload_n (pc2 := 77) rfl rfl rfl ?_
          refine j_cIv (pc2 := 80) (k := 0) (c := zt_m153) (as := [.ref 216, .int (4 : Int32), .int v3]) (rest := []) rfl rfl rfl rfl zk_cModel.look rfl (Nat.le_of_ble_eq_true rfl) (Nat.le_of_ble_eq_true rfl) (fun w1 h1 => ok_Model_fails h1) (by decide) rfl hF (fun v21 s20 hF => ?_)
          exact j_zret rfl rfl hF
      · refine j_if_eq (pc2 := 64) rfl rfl hF (fun hF => ?_) (fun hF => ?_)
        · refine w_bipush (pc2 := 71) rfl rfl ?_
          exact j_norm (l := [(0, .ref 216), (1, .int v3), (2, .int a6)]) ⟨rfl, rfl, rfl, trivial⟩ (zz_nd_of (ks := [0, 1, 2]) rfl (by decide)) (hk13 (12 : Int32) s8 hF)
        · refine w_bipush (pc2 := 66) rfl rfl ?_
          refine w_goto rfl ?_
          exact j_norm (l := [(0, .ref 216), (1, .int v3), (2, .int a6)]) ⟨rfl, rfl, rfl, trivial⟩ (zz_nd_of (ks := [0, 1, 2]) rfl (by decide)) (hk13 (40 : Int32) s8 hF)
    · refine j_join0 (P := fun (s22 : ZS) => zz_wp zt_ms zt_nm zt_df (zt_X L xs) 10 zt_m148 49 [(0, .ref 216), (1, .int v3)] [] (zk b s22) (qI b w)) hF (fun s22 hF => ?_) (fun k23 hk23 hF => ?_)
      · refine w_aload_n (pc2 := 50) rfl rfl rfl ?_
        refine w_iconst (pc2 := 51) rfl rfl ?_
        refine w_iload_n (pc2 := 52) rfl rfl rfl ?_
        refine j_cIv (pc2 := 55) (k := 0) (c := zt_m153) (as := [.ref 216, .int (0 : Int32), .int v3]) (rest := []) rfl rfl rfl rfl zk_cModel.look rfl (Nat.le_of_ble_eq_true rfl) (Nat.le_of_ble_eq_true rfl) (fun w1 h1 => ok_Model_fails h1) (by decide) rfl hF (fun v25 s24 hF => ?_)
        exact j_zret rfl rfl hF
      · refine j_if_eq (pc2 := 29) rfl rfl hF (fun hF => ?_) (fun hF => ?_)
        · refine w_aload_n (pc2 := 40) rfl rfl rfl ?_
          refine w_ldc2_w (pc2 := 43) rfl rfl ?_
          refine j_cIv (pc2 := 46) (k := 1) (c := zt_m151) (as := [.ref 216, .long (7561593 : Int64)]) (rest := []) rfl rfl rfl rfl zk_cModel.look rfl (Nat.le_of_ble_eq_true rfl) (Nat.le_of_ble_eq_true rfl) (fun w1 h1 => ok_Model_isWord h1) (by decide) rfl hF (fun v27 s26 hF => ?_)
          refine j_if_ne (pc2 := 49) rfl rfl hF (fun hF => ?_) (fun hF => ?_)
          · exact j_norm (l := [(0, .ref 216), (1, .int v3), (2, .int a6)]) ⟨rfl, rfl, rfl, trivial⟩ (zz_nd_of (ks := [0, 1, 2]) rfl (by decide)) (hk9 s26 hF)
          · exact j_norm (l := [(0, .ref 216), (1, .int v3)]) ⟨rfl, rfl, trivial⟩ (zz_nd_of (ks := [0, 1]) rfl (by decide)) (hk23 s26 hF)
        · refine w_aload_n (pc2 := 30) rfl rfl rfl ?_
          refine j_cIv (pc2 := 33) (k := 2) (c := zt_m150) (as := [.ref 216]) (rest := []) rfl rfl rfl rfl zk_cModel.look rfl (Nat.le_of_ble_eq_true rfl) (Nat.le_of_ble_eq_true rfl) (fun w1 h1 => ok_Model_isSmithWord h1) (by decide) rfl hF (fun v29 s28 hF => ?_)
          refine j_if_ne (pc2 := 36) rfl rfl hF (fun hF => ?_) (fun hF => ?_)
          · exact j_norm (l := [(0, .ref 216), (1, .int v3), (2, .int a6)]) ⟨rfl, rfl, rfl, trivial⟩ (zz_nd_of (ks := [0, 1, 2]) rfl (by decide)) (hk9 s28 hF)
          · refine w_goto rfl ?_
            exact j_norm (l := [(0, .ref 216), (1, .int v3)]) ⟨rfl, rfl, trivial⟩ (zz_nd_of (ks := [0, 1]) rfl (by decide)) (hk23 s28 hF)
  · refine j_icmp_ne (pc2 := 19) rfl rfl hF (fun hF => ?_) (fun hF => ?_)
    · refine w_iconst (pc2 := 24) rfl rfl ?_
      exact j_norm (l := [(0, .ref 216), (1, .int v3)]) ⟨rfl, rfl, trivial⟩ (zz_nd_of (ks := [0, 1]) rfl (by decide)) (hk7 (0 : Int32) s1 hF)
    · refine w_iconst (pc2 := 20) rfl rfl ?_
      refine w_goto rfl ?_
      exact j_norm (l := [(0, .ref 216), (1, .int v3)]) ⟨rfl, rfl, trivial⟩ (zz_nd_of (ks := [0, 1]) rfl (by decide)) (hk7 (1 : Int32) s1 hF)
noncomputable def f_Model_readsAll_B35 (k11 : Int32 → ZS → Option (Int32 × ZS)) (a21 : Int32) (s22 : ZS) (g23 : Int32 → ZS → Option (Int32 × ZS)) : Option (Int32 × ZS) := (if a21 = 0 then k11 a21 s22 else zcl (f_Model_see s22) (fun (v25 : Int32) (s24 : ZS) => (if ¬ v25 = (59 : Int32) then k11 a21 s24 else zgi (s24.1 216 8) (fun (v26 : Int32) => zwi s24 216 8 ((v26 + (1 : Int32))) (fun (s27 : ZS) => zcl (f_Model_clauseHere s27) (fun (v29 : Int32) (s28 : ZS) => g23 v29 s28))))))
noncomputable def f_Model_readsAll (s0 : ZS) : Option (Int32 × ZS) := zgi (s0.1 216 11) (fun (v1 : Int32) => zwa s0 219 7 v1 (0 : Int32) (fun (s2 : ZS) => zwi s2 216 14 (0 : Int32) (fun (s3 : ZS) => zwi s3 216 8 (0 : Int32) (fun (s4 : ZS) => zwi s4 216 9 (0 : Int32) (fun (s5 : ZS) => zwi s5 216 12 (0 : Int32) (fun (s6 : ZS) => zcl (f_Model_clauseHere s6) (fun (v8 : Int32) (s7 : ZS) => zjn (A := Int32) (fun (a10 : Int32) (s9 : ZS) => zj0 (fun (s12 : ZS) => zwi s12 216 1 (0 : Int32) (fun (s14 : ZS) => zgi (s14.1 216 9) (fun (v15 : Int32) => (if ¬ v15 = 0 then zbl (0 : Int32) s14 else zbl (1 : Int32) s14)))) (fun (k13 : ZS → Option (Int32 × ZS)) => (if a10 = 0 then k13 s9 else zcl (f_Model_see s9) (fun (v17 : Int32) (s16 : ZS) => (if v17 = (-1 : Int32) then k13 s16 else zgi (s16.1 216 8) (fun (v18 : Int32) => zcl (f_Model_fails (0 : Int32) v18 s16) (fun (v20 : Int32) (s19 : ZS) => k13 s19))))))) (fun (k11 : Int32 → ZS → Option (Int32 × ZS)) => zlp zN (f_Model_readsAll_B35 k11) v8 s7))))))))
set_option maxHeartbeats 4000000 in
set_option maxRecDepth 100000 in
theorem ok_Model_readsAll {L : Nat} {xs : Nat → Int32} {b : ZH} {s0 : ZS} {w : Int32 × ZS} (hF : f_Model_readsAll s0 = some w) : zz_ct zt_ms zt_nm zt_df (zt_X L xs) 11 zt_m147 [.ref 216] (zk b s0) (qI b w) := by
  unfold f_Model_readsAll at hF
  change zz_wp zt_ms zt_nm zt_df (zt_X L xs) 11 zt_m147 0 [(0, .ref 216)] [] (zk b s0) (qI b w)
  refine w_aload_n (pc2 := 1) rfl rfl rfl ?_
  refine w_getfield (pc2 := 4) rfl zk_cModel rfl rfl rfl ?_
  refine w_aload_n (pc2 := 5) rfl rfl rfl ?_
  refine j_geti (pc2 := 8) rfl zk_cModel rfl rfl rfl hF (fun v1 hF => ?_)
  refine w_iconst (pc2 := 9) rfl rfl ?_
  refine j_iastore (pc2 := 10) (n := 7) rfl rfl (by omega) (by decide) rfl hF (fun s2 hF => ?_)
  refine w_aload_n (pc2 := 11) rfl rfl rfl ?_
  refine w_iconst (pc2 := 12) rfl rfl ?_
  refine j_puti (pc2 := 15) (j := 14) rfl zk_cModel rfl (Nat.le_of_ble_eq_true rfl) rfl zk_wModel_14 (by decide) rfl hF (fun s3 hF => ?_)
  refine w_aload_n (pc2 := 16) rfl rfl rfl ?_
  refine w_iconst (pc2 := 17) rfl rfl ?_
  refine j_puti (pc2 := 20) (j := 8) rfl zk_cModel rfl (Nat.le_of_ble_eq_true rfl) rfl zk_wModel_8 (by decide) rfl hF (fun s4 hF => ?_)
  refine w_aload_n (pc2 := 21) rfl rfl rfl ?_
  refine w_iconst (pc2 := 22) rfl rfl ?_
  refine j_puti (pc2 := 25) (j := 9) rfl zk_cModel rfl (Nat.le_of_ble_eq_true rfl) rfl zk_wModel_9 (by decide) rfl hF (fun s5 hF => ?_)
  refine w_aload_n (pc2 := 26) rfl rfl rfl ?_
  refine w_iconst (pc2 := 27) rfl rfl ?_
  refine j_puti (pc2 := 30) (j := 12) rfl zk_cModel rfl (Nat.le_of_ble_eq_true rfl) rfl zk_wModel_12 (by decide) rfl hF (fun s6 hF => ?_)
  refine w_aload_n (pc2 := 31) rfl rfl rfl ?_
  refine j_cIv (pc2 := 34) (k := 10) (c := zt_m148) (as := [.ref 216]) (rest := []) rfl rfl rfl rfl zk_cModel.look rfl (Nat.le_of_ble_eq_true rfl) (Nat.le_of_ble_eq_true rfl) (fun w1 h1 => ok_Model_clauseHere h1) (by decide) rfl hF (fun v8 s7 hF => ?_)
  refine w_istore_n (pc2 := 35) (ls2 := [(1, .int v8), (0, .ref 216)]) rfl rfl rfl ?_
  refine j_join (P := fun (a10 : Int32) (s9 : ZS) => zz_wp zt_ms zt_nm zt_df (zt_X L xs) 11 zt_m147 66 [(0, .ref 216), (1, .int a10)] [] (zk b s9) (qI b w)) hF (fun a10 s9 hF => ?_) (fun k11 hk11 hF => ?_)
  · refine w_iload_n (pc2 := 67) rfl rfl rfl ?_
    refine j_join0 (P := fun (s12 : ZS) => zz_wp zt_ms zt_nm zt_df (zt_X L xs) 11 zt_m147 88 [(0, .ref 216)] [] (zk b s12) (qI b w)) hF (fun s12 hF => ?_) (fun k13 hk13 hF => ?_)
    · refine w_aload_n (pc2 := 89) rfl rfl rfl ?_
      refine w_iconst (pc2 := 90) rfl rfl ?_
      refine j_puti (pc2 := 93) (j := 1) rfl zk_cModel rfl (Nat.le_of_ble_eq_true rfl) rfl zk_wModel_1 (by decide) rfl hF (fun s14 hF => ?_)
      refine w_aload_n (pc2 := 94) rfl rfl rfl ?_
      refine j_geti (pc2 := 97) rfl zk_cModel rfl rfl rfl hF (fun v15 hF => ?_)
      refine j_if_ne (pc2 := 100) rfl rfl hF (fun hF => ?_) (fun hF => ?_)
      · refine w_iconst (pc2 := 105) rfl rfl ?_
        exact j_zret rfl rfl hF
      · refine w_iconst (pc2 := 101) rfl rfl ?_
        refine w_goto rfl ?_
        exact j_zret rfl rfl hF
    · refine j_if_eq (pc2 := 70) rfl rfl hF (fun hF => ?_) (fun hF => ?_)
      · exact j_norm (l := [(0, .ref 216)]) ⟨rfl, trivial⟩ (zz_nd_of (ks := [0]) rfl (by decide)) (hk13 s9 hF)
      · refine w_aload_n (pc2 := 71) rfl rfl rfl ?_
        refine j_cIv (pc2 := 74) (k := 0) (c := zt_m149) (as := [.ref 216]) (rest := []) rfl rfl rfl rfl zk_cModel.look rfl (Nat.le_of_ble_eq_true rfl) (Nat.le_of_ble_eq_true rfl) (fun w1 h1 => ok_Model_see h1) (by decide) rfl hF (fun v17 s16 hF => ?_)
        refine w_iconst (pc2 := 75) rfl rfl ?_
        refine j_icmp_eq (pc2 := 78) rfl rfl hF (fun hF => ?_) (fun hF => ?_)
        · exact j_norm (l := [(0, .ref 216)]) ⟨rfl, trivial⟩ (zz_nd_of (ks := [0]) rfl (by decide)) (hk13 s16 hF)
        · refine w_aload_n (pc2 := 79) rfl rfl rfl ?_
          refine w_iconst (pc2 := 80) rfl rfl ?_
          refine w_aload_n (pc2 := 81) rfl rfl rfl ?_
          refine j_geti (pc2 := 84) rfl zk_cModel rfl rfl rfl hF (fun v18 hF => ?_)
          refine j_cIv (pc2 := 87) (k := 0) (c := zt_m153) (as := [.ref 216, .int (0 : Int32), .int v18]) (rest := []) rfl rfl rfl rfl zk_cModel.look rfl (Nat.le_of_ble_eq_true rfl) (Nat.le_of_ble_eq_true rfl) (fun w1 h1 => ok_Model_fails h1) (by decide) rfl hF (fun v20 s19 hF => ?_)
          refine w_pop (pc2 := 88) rfl rfl rfl ?_
          exact j_norm (l := [(0, .ref 216)]) ⟨rfl, trivial⟩ (zz_nd_of (ks := [0]) rfl (by decide)) (hk13 s19 hF)
  · refine j_norm (l := [(0, .ref 216), (1, .int v8)]) ⟨rfl, rfl, trivial⟩ (zz_nd_of (ks := [0, 1]) rfl (by decide)) ?_
    refine j_loop (P := fun (a21 : Int32) (s22 : ZS) => zz_wp zt_ms zt_nm zt_df (zt_X L xs) 11 zt_m147 35 [(0, .ref 216), (1, .int a21)] [] (zk b s22) (qI b w)) hF (fun a21 s22 g23 hg23 hF => ?_)
    unfold f_Model_readsAll_B35 at hF
    refine w_iload_n (pc2 := 36) rfl rfl rfl ?_
    refine j_if_eq (pc2 := 39) rfl rfl hF (fun hF => ?_) (fun hF => ?_)
    · exact j_norm (l := [(0, .ref 216), (1, .int a21)]) ⟨rfl, rfl, trivial⟩ (zz_nd_of (ks := [0, 1]) rfl (by decide)) (hk11 a21 s22 hF)
    · refine w_aload_n (pc2 := 40) rfl rfl rfl ?_
      refine j_cIv (pc2 := 43) (k := 0) (c := zt_m149) (as := [.ref 216]) (rest := []) rfl rfl rfl rfl zk_cModel.look rfl (Nat.le_of_ble_eq_true rfl) (Nat.le_of_ble_eq_true rfl) (fun w1 h1 => ok_Model_see h1) (by decide) rfl hF (fun v25 s24 hF => ?_)
      refine w_bipush (pc2 := 45) rfl rfl ?_
      refine j_icmp_ne (pc2 := 48) rfl rfl hF (fun hF => ?_) (fun hF => ?_)
      · exact j_norm (l := [(0, .ref 216), (1, .int a21)]) ⟨rfl, rfl, trivial⟩ (zz_nd_of (ks := [0, 1]) rfl (by decide)) (hk11 a21 s24 hF)
      · refine w_aload_n (pc2 := 49) rfl rfl rfl ?_
        refine w_dup (pc2 := 50) rfl rfl rfl ?_
        refine j_geti (pc2 := 53) rfl zk_cModel rfl rfl rfl hF (fun v26 hF => ?_)
        refine w_iconst (pc2 := 54) rfl rfl ?_
        refine w_iadd (pc2 := 55) rfl rfl ?_
        refine j_puti (pc2 := 58) (j := 8) rfl zk_cModel rfl (Nat.le_of_ble_eq_true rfl) rfl zk_wModel_8 (by decide) rfl hF (fun s27 hF => ?_)
        refine w_aload_n (pc2 := 59) rfl rfl rfl ?_
        refine j_cIv (pc2 := 62) (k := 10) (c := zt_m148) (as := [.ref 216]) (rest := []) rfl rfl rfl rfl zk_cModel.look rfl (Nat.le_of_ble_eq_true rfl) (Nat.le_of_ble_eq_true rfl) (fun w1 h1 => ok_Model_clauseHere h1) (by decide) rfl hF (fun v29 s28 hF => ?_)
        refine w_istore_n (pc2 := 63) (ls2 := [(1, .int v29), (0, .ref 216)]) rfl rfl rfl ?_
        refine w_goto rfl ?_
        exact j_norm (l := [(0, .ref 216), (1, .int v29)]) ⟨rfl, rfl, trivial⟩ (zz_nd_of (ks := [0, 1]) rfl (by decide)) (hg23 v29 s28 hF)
