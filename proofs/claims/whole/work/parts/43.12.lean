/-! What methods do as functions of the state, and that the small machine does so. -/
noncomputable def f_Model_rule (s0 : ZS) : Option (Int32 × ZS) := zgi (s0.1 216 2) (fun (v1 : Int32) => (if ¬ v1 = (6 : Int32) then zgi (s0.1 216 2) (fun (v2 : Int32) => zwi s0 216 11 v2 (fun (s3 : ZS) => zgi (s3.1 216 11) (fun (v4 : Int32) => zwa s3 221 6 v4 (0 : Int32) (fun (s5 : ZS) => zcl (f_Model_readsAll s5) (fun (v7 : Int32) (s6 : ZS) => (if ¬ v7 = 0 then zgi (s6.1 216 2) (fun (v8 : Int32) => zwi s6 216 2 ((v8 + (1 : Int32))) (fun (s9 : ZS) => zgi (s9.1 216 2) (fun (v10 : Int32) => some ((v10 - (1 : Int32)), s9)))) else zgi (s6.1 216 9) (fun (v11 : Int32) => some (((-2 : Int32) - v11), s6)))))))) else some ((-1 : Int32), s0)))
set_option maxHeartbeats 4000000 in
set_option maxRecDepth 100000 in
theorem ok_Model_rule {L : Nat} {xs : Nat → Int32} {b : ZH} {s0 : ZS} {w : Int32 × ZS} (hF : f_Model_rule s0 = some w) : zz_ct zt_ms zt_nm zt_df (zt_X L xs) 12 zt_m146 [.ref 216] (zk b s0) (qI b w) := by
  unfold f_Model_rule at hF
  change zz_wp zt_ms zt_nm zt_df (zt_X L xs) 12 zt_m146 0 [(0, .ref 216)] [] (zk b s0) (qI b w)
  refine w_aload_n (pc2 := 1) rfl rfl rfl ?_
  refine j_geti (pc2 := 4) rfl zk_cModel rfl rfl rfl hF (fun v1 hF => ?_)
  refine w_bipush (pc2 := 6) rfl rfl ?_
  refine j_icmp_ne (pc2 := 9) rfl rfl hF (fun hF => ?_) (fun hF => ?_)
  · refine w_aload_n (pc2 := 12) rfl rfl rfl ?_
    refine w_aload_n (pc2 := 13) rfl rfl rfl ?_
    refine j_geti (pc2 := 16) rfl zk_cModel rfl rfl rfl hF (fun v2 hF => ?_)
    refine j_puti (pc2 := 19) (j := 11) rfl zk_cModel rfl (Nat.le_of_ble_eq_true rfl) rfl zk_wModel_11 (by decide) rfl hF (fun s3 hF => ?_)
    refine w_aload_n (pc2 := 20) rfl rfl rfl ?_
    refine w_getfield (pc2 := 23) rfl zk_cModel rfl rfl rfl ?_
    refine w_aload_n (pc2 := 24) rfl rfl rfl ?_
    refine j_geti (pc2 := 27) rfl zk_cModel rfl rfl rfl hF (fun v4 hF => ?_)
    refine w_iconst (pc2 := 28) rfl rfl ?_
    refine j_iastore (pc2 := 29) (n := 6) rfl rfl (by omega) (by decide) rfl hF (fun s5 hF => ?_)
    refine w_aload_n (pc2 := 30) rfl rfl rfl ?_
    refine j_cIv (pc2 := 33) (k := 11) (c := zt_m147) (as := [.ref 216]) (rest := []) rfl rfl rfl rfl zk_cModel.look rfl (Nat.le_of_ble_eq_true rfl) (Nat.le_of_ble_eq_true rfl) (fun w1 h1 => ok_Model_readsAll h1) (by decide) rfl hF (fun v7 s6 hF => ?_)
    refine j_if_ne (pc2 := 36) rfl rfl hF (fun hF => ?_) (fun hF => ?_)
    · refine w_aload_n (pc2 := 45) rfl rfl rfl ?_
      refine w_dup (pc2 := 46) rfl rfl rfl ?_
      refine j_geti (pc2 := 49) rfl zk_cModel rfl rfl rfl hF (fun v8 hF => ?_)
      refine w_iconst (pc2 := 50) rfl rfl ?_
      refine w_iadd (pc2 := 51) rfl rfl ?_
      refine j_puti (pc2 := 54) (j := 2) rfl zk_cModel rfl (Nat.le_of_ble_eq_true rfl) rfl zk_wModel_2 (by decide) rfl hF (fun s9 hF => ?_)
      refine w_aload_n (pc2 := 55) rfl rfl rfl ?_
      refine j_geti (pc2 := 58) rfl zk_cModel rfl rfl rfl hF (fun v10 hF => ?_)
      refine w_iconst (pc2 := 59) rfl rfl ?_
      refine w_isub (pc2 := 60) rfl rfl ?_
      exact j_iret rfl rfl hF
    · refine w_bipush (pc2 := 38) rfl rfl ?_
      refine w_aload_n (pc2 := 39) rfl rfl rfl ?_
      refine j_geti (pc2 := 42) rfl zk_cModel rfl rfl rfl hF (fun v11 hF => ?_)
      refine w_isub (pc2 := 43) rfl rfl ?_
      exact j_iret rfl rfl hF
  · refine w_iconst (pc2 := 10) rfl rfl ?_
    exact j_iret rfl rfl hF
noncomputable def f_Model_begins_B80 (a5 : Int32) (s6 : ZS) (g7 : Int32 → ZS → Option (ZS)) : Option (ZS) := (if (57 : Int32) ≤ a5 then some s6 else zwa s6 226 139 a5 (0 : Int32) (fun (s8 : ZS) => g7 (a5 + (1 : Int32)) s8))
noncomputable def f_Model_begins_B18 (k4 : ZS → Option (ZS)) (a9 : Int32) (s10 : ZS) (g11 : Int32 → ZS → Option (ZS)) : Option (ZS) := (if (5 : Int32) ≤ a9 then k4 s10 else zrd 139 (((62 : Int32) + a9)) (s10.1 226) (fun (v12 : Int32) => zwa s10 226 139 (((12 : Int32) + ((3 : Int32) * a9))) v12 (fun (s13 : ZS) => zwa s13 226 139 ((((12 : Int32) + ((3 : Int32) * a9)) + (1 : Int32))) (0 : Int32) (fun (s14 : ZS) => zwa s14 226 139 ((((12 : Int32) + ((3 : Int32) * a9)) + (2 : Int32))) (0 : Int32) (fun (s15 : ZS) => g11 (a9 + (1 : Int32)) s15)))))
noncomputable def f_Model_begins (s0 : ZS) : Option (ZS) := zwi s0 226 10 (0 : Int32) (fun (s1 : ZS) => zwi s1 226 11 (0 : Int32) (fun (s2 : ZS) => zj0 (fun (s3 : ZS) => zlp zN (f_Model_begins_B80) (27 : Int32) s3) (fun (k4 : ZS → Option (ZS)) => zlp zN (f_Model_begins_B18 k4) (0 : Int32) s2)))
set_option maxHeartbeats 4000000 in
set_option maxRecDepth 100000 in
theorem ok_Model_begins {L : Nat} {xs : Nat → Int32} {b : ZH} {s0 : ZS} {w : ZS} (hF : f_Model_begins s0 = some w) : zz_ct zt_ms zt_nm zt_df (zt_X L xs) 0 zt_m182 [.ref 216] (zk b s0) (qV b w) := by
  unfold f_Model_begins at hF
  change zz_wp zt_ms zt_nm zt_df (zt_X L xs) 0 zt_m182 0 [(0, .ref 216)] [] (zk b s0) (qV b w)
  refine w_aload_n (pc2 := 1) rfl rfl rfl ?_
  refine w_getfield (pc2 := 4) rfl zk_cModel rfl rfl rfl ?_
  refine w_bipush (pc2 := 6) rfl rfl ?_
  refine w_iconst (pc2 := 7) rfl rfl ?_
  refine j_iastoreC (pc2 := 8) (n := 139) (j := 10) rfl rfl (by omega) (by decide) (by decide) (by decide) (by decide) rfl hF (fun s1 hF => ?_)
  refine w_aload_n (pc2 := 9) rfl rfl rfl ?_
  refine w_getfield (pc2 := 12) rfl zk_cModel rfl rfl rfl ?_
  refine w_bipush (pc2 := 14) rfl rfl ?_
  refine w_iconst (pc2 := 15) rfl rfl ?_
  refine j_iastoreC (pc2 := 16) (n := 139) (j := 11) rfl rfl (by omega) (by decide) (by decide) (by decide) (by decide) rfl hF (fun s2 hF => ?_)
  refine w_iconst (pc2 := 17) rfl rfl ?_
  refine w_istore_n (pc2 := 18) (ls2 := [(1, .int (0 : Int32)), (0, .ref 216)]) rfl rfl rfl ?_
  refine j_join0 (P := fun (s3 : ZS) => zz_wp zt_ms zt_nm zt_df (zt_X L xs) 0 zt_m182 77 [(0, .ref 216)] [] (zk b s3) (qV b w)) hF (fun s3 hF => ?_) (fun k4 hk4 hF => ?_)
  · refine w_bipush (pc2 := 79) rfl rfl ?_
    refine w_istore_n (pc2 := 80) (ls2 := [(1, .int (27 : Int32)), (0, .ref 216)]) rfl rfl rfl ?_
    refine j_norm (l := [(0, .ref 216), (1, .int (27 : Int32))]) ⟨rfl, rfl, trivial⟩ (zz_nd_of (ks := [0, 1]) rfl (by decide)) ?_
    refine j_loop (P := fun (a5 : Int32) (s6 : ZS) => zz_wp zt_ms zt_nm zt_df (zt_X L xs) 0 zt_m182 80 [(0, .ref 216), (1, .int a5)] [] (zk b s6) (qV b w)) hF (fun a5 s6 g7 hg7 hF => ?_)
    unfold f_Model_begins_B80 at hF
    refine w_iload_n (pc2 := 81) rfl rfl rfl ?_
    refine w_bipush (pc2 := 83) rfl rfl ?_
    refine j_icmp_ge (pc2 := 86) rfl rfl hF (fun hF => ?_) (fun hF => ?_)
    · exact j_vret rfl rfl hF
    · refine w_aload_n (pc2 := 87) rfl rfl rfl ?_
      refine w_getfield (pc2 := 90) rfl zk_cModel rfl rfl rfl ?_
      refine w_iload_n (pc2 := 91) rfl rfl rfl ?_
      refine w_iconst (pc2 := 92) rfl rfl ?_
      refine j_iastore (pc2 := 93) (n := 139) rfl rfl (by omega) (by decide) rfl hF (fun s8 hF => ?_)
      refine w_iinc (pc2 := 96) (ls2 := [(1, .int ((a5 + (1 : Int32)))), (0, .ref 216)]) rfl rfl rfl rfl ?_
      refine w_goto rfl ?_
      exact j_norm (l := [(0, .ref 216), (1, .int ((a5 + (1 : Int32))))]) ⟨rfl, rfl, trivial⟩ (zz_nd_of (ks := [0, 1]) rfl (by decide)) (hg7 (a5 + (1 : Int32)) s8 hF)
  · refine j_norm (l := [(0, .ref 216), (1, .int (0 : Int32))]) ⟨rfl, rfl, trivial⟩ (zz_nd_of (ks := [0, 1]) rfl (by decide)) ?_
    refine j_loop (P := fun (a9 : Int32) (s10 : ZS) => zz_wp zt_ms zt_nm zt_df (zt_X L xs) 0 zt_m182 18 [(0, .ref 216), (1, .int a9)] [] (zk b s10) (qV b w)) hF (fun a9 s10 g11 hg11 hF => ?_)
    unfold f_Model_begins_B18 at hF
    refine w_iload_n (pc2 := 19) rfl rfl rfl ?_
    refine w_iconst (pc2 := 20) rfl rfl ?_
    refine j_icmp_ge (pc2 := 23) rfl rfl hF (fun hF => ?_) (fun hF => ?_)
    · exact j_norm (l := [(0, .ref 216)]) ⟨rfl, trivial⟩ (zz_nd_of (ks := [0]) rfl (by decide)) (hk4 s10 hF)
    · refine w_aload_n (pc2 := 24) rfl rfl rfl ?_
      refine w_getfield (pc2 := 27) rfl zk_cModel rfl rfl rfl ?_
      refine w_bipush (pc2 := 29) rfl rfl ?_
      refine w_iconst (pc2 := 30) rfl rfl ?_
      refine w_iload_n (pc2 := 31) rfl rfl rfl ?_
      refine w_imul (pc2 := 32) rfl rfl ?_
      refine w_iadd (pc2 := 33) rfl rfl ?_
      refine w_aload_n (pc2 := 34) rfl rfl rfl ?_
      refine w_getfield (pc2 := 37) rfl zk_cModel rfl rfl rfl ?_
      refine w_bipush (pc2 := 39) rfl rfl ?_
      refine w_iload_n (pc2 := 40) rfl rfl rfl ?_
      refine w_iadd (pc2 := 41) rfl rfl ?_
      refine j_iaload (pc2 := 42) (n := 139) rfl rfl (by omega) (by decide) rfl hF (fun v12 hF => ?_)
      refine j_iastore (pc2 := 43) (n := 139) rfl rfl (by omega) (by decide) rfl hF (fun s13 hF => ?_)
      refine w_aload_n (pc2 := 44) rfl rfl rfl ?_
      refine w_getfield (pc2 := 47) rfl zk_cModel rfl rfl rfl ?_
      refine w_bipush (pc2 := 49) rfl rfl ?_
      refine w_iconst (pc2 := 50) rfl rfl ?_
      refine w_iload_n (pc2 := 51) rfl rfl rfl ?_
      refine w_imul (pc2 := 52) rfl rfl ?_
      refine w_iadd (pc2 := 53) rfl rfl ?_
      refine w_iconst (pc2 := 54) rfl rfl ?_
      refine w_iadd (pc2 := 55) rfl rfl ?_
      refine w_iconst (pc2 := 56) rfl rfl ?_
      refine j_iastore (pc2 := 57) (n := 139) rfl rfl (by omega) (by decide) rfl hF (fun s14 hF => ?_)
      refine w_aload_n (pc2 := 58) rfl rfl rfl ?_
      refine w_getfield (pc2 := 61) rfl zk_cModel rfl rfl rfl ?_
      refine w_bipush (pc2 := 63) rfl rfl ?_
      refine w_iconst (pc2 := 64) rfl rfl ?_
      refine w_iload_n (pc2 := 65) rfl rfl rfl ?_
      refine w_imul (pc2 := 66) rfl rfl ?_
      refine w_iadd (pc2 := 67) rfl rfl ?_
      refine w_iconst (pc2 := 68) rfl rfl ?_
      refine w_iadd (pc2 := 69) rfl rfl ?_
      refine w_iconst (pc2 := 70) rfl rfl ?_
      refine j_iastore (pc2 := 71) (n := 139) rfl rfl (by omega) (by decide) rfl hF (fun s15 hF => ?_)
      refine w_iinc (pc2 := 74) (ls2 := [(1, .int ((a9 + (1 : Int32)))), (0, .ref 216)]) rfl rfl rfl rfl ?_
      refine w_goto rfl ?_
      exact j_norm (l := [(0, .ref 216), (1, .int ((a9 + (1 : Int32))))]) ⟨rfl, rfl, trivial⟩ (zz_nd_of (ks := [0, 1]) rfl (by decide)) (hg11 (a9 + (1 : Int32)) s15 hF)
noncomputable def f_Model_smith_B44 (k7 : ZS → Option (Int32 × ZS)) (a11 : Int32) (s12 : ZS) (g13 : Int32 → ZS → Option (Int32 × ZS)) : Option (Int32 × ZS) := (if (139 : Int32) ≤ a11 then k7 s12 else zjn (A := Int32) (fun (a15 : Int32) (s14 : ZS) => zwa s14 226 139 a11 a15 (fun (s17 : ZS) => g13 (a11 + (1 : Int32)) s17)) (fun (k16 : Int32 → ZS → Option (Int32 × ZS)) => (if (108 : Int32) ≤ a11 then k16 (0 : Int32) s12 else zrd 108 a11 (s12.1 222) (fun (v18 : Int32) => k16 v18 s12))))
noncomputable def f_Model_smith_B8 (k3 : ZS → Option (Int32 × ZS)) (a20 : Int32) (s21 : ZS) (g22 : Int32 → ZS → Option (Int32 × ZS)) : Option (Int32 × ZS) := (if (108 : Int32) ≤ a20 then k3 s21 else zwa s21 222 108 a20 (0 : Int32) (fun (s23 : ZS) => g22 (a20 + (1 : Int32)) s23))
noncomputable def f_Model_smith (s0 : ZS) : Option (Int32 × ZS) := zwi s0 216 11 (6 : Int32) (fun (s1 : ZS) => zj0 (fun (s2 : ZS) => zcl (f_Model_readsAll s2) (fun (v5 : Int32) (s4 : ZS) => (if ¬ v5 = 0 then zj0 (fun (s6 : ZS) => zcv (f_Model_begins s6) (fun (s8 : ZS) => zwi s8 216 27 (0 : Int32) (fun (s9 : ZS) => zgi (s9.1 226 3) (fun (v10 : Int32) => some (v10, s9))))) (fun (k7 : ZS → Option (Int32 × ZS)) => zlp zN (f_Model_smith_B44 k7) (0 : Int32) s4) else zgi (s4.1 216 9) (fun (v19 : Int32) => some (((-2 : Int32) - v19), s4))))) (fun (k3 : ZS → Option (Int32 × ZS)) => zlp zN (f_Model_smith_B8 k3) (0 : Int32) s1))
set_option maxHeartbeats 4000000 in
set_option maxRecDepth 100000 in
theorem ok_Model_smith {L : Nat} {xs : Nat → Int32} {b : ZH} {s0 : ZS} {w : Int32 × ZS} (hF : f_Model_smith s0 = some w) : zz_ct zt_ms zt_nm zt_df (zt_X L xs) 12 zt_m181 [.ref 216] (zk b s0) (qI b w) := by
  unfold f_Model_smith at hF
  change zz_wp zt_ms zt_nm zt_df (zt_X L xs) 12 zt_m181 0 [(0, .ref 216)] [] (zk b s0) (qI b w)
  refine w_aload_n (pc2 := 1) rfl rfl rfl ?_
  refine w_bipush (pc2 := 3) rfl rfl ?_
  refine j_puti (pc2 := 6) (j := 11) rfl zk_cModel rfl (Nat.le_of_ble_eq_true rfl) rfl zk_wModel_11 (by decide) rfl hF (fun s1 hF => ?_)
  refine w_iconst (pc2 := 7) rfl rfl ?_
  refine w_istore_n (pc2 := 8) (ls2 := [(1, .int (0 : Int32)), (0, .ref 216)]) rfl rfl rfl ?_
  refine j_join0 (P := fun (s2 : ZS) => zz_wp zt_ms zt_nm zt_df (zt_X L xs) 12 zt_m181 27 [(0, .ref 216)] [] (zk b s2) (qI b w)) hF (fun s2 hF => ?_) (fun k3 hk3 hF => ?_)
  · refine w_aload_n (pc2 := 28) rfl rfl rfl ?_
    refine j_cIv (pc2 := 31) (k := 11) (c := zt_m147) (as := [.ref 216]) (rest := []) rfl rfl rfl rfl zk_cModel.look rfl (Nat.le_of_ble_eq_true rfl) (Nat.le_of_ble_eq_true rfl) (fun w1 h1 => ok_Model_readsAll h1) (by decide) rfl hF (fun v5 s4 hF => ?_)
    refine j_if_ne (pc2 := 34) rfl rfl hF (fun hF => ?_) (fun hF => ?_)
    · refine w_iconst (pc2 := 43) rfl rfl ?_
      refine w_istore_n (pc2 := 44) (ls2 := [(1, .int (0 : Int32)), (0, .ref 216)]) rfl rfl rfl ?_
      refine j_join0 (P := fun (s6 : ZS) => zz_wp zt_ms zt_nm zt_df (zt_X L xs) 12 zt_m181 79 [(0, .ref 216)] [] (zk b s6) (qI b w)) hF (fun s6 hF => ?_) (fun k7 hk7 hF => ?_)
      · refine w_aload_n (pc2 := 80) rfl rfl rfl ?_
        refine j_cVv (pc2 := 83) (k := 0) (c := zt_m182) (as := [.ref 216]) (rest := []) rfl rfl rfl rfl zk_cModel.look rfl (Nat.le_of_ble_eq_true rfl) (Nat.le_of_ble_eq_true rfl) (fun w1 h1 => ok_Model_begins h1) (by decide) rfl hF (fun s8 hF => ?_)
        refine w_aload_n (pc2 := 84) rfl rfl rfl ?_
        refine w_iconst (pc2 := 85) rfl rfl ?_
        refine j_puti (pc2 := 88) (j := 27) rfl zk_cModel rfl (Nat.le_of_ble_eq_true rfl) rfl zk_wModel_27 (by decide) rfl hF (fun s9 hF => ?_)
        refine w_aload_n (pc2 := 89) rfl rfl rfl ?_
        refine w_getfield (pc2 := 92) rfl zk_cModel rfl rfl rfl ?_
        refine w_iconst (pc2 := 93) rfl rfl ?_
        refine j_ialoadC (pc2 := 94) (n := 139) (j := 3) rfl rfl (by omega) (by decide) (by decide) (by decide) (by decide) rfl hF (fun v10 hF => ?_)
        exact j_iret rfl rfl hF
      · refine j_norm (l := [(0, .ref 216), (1, .int (0 : Int32))]) ⟨rfl, rfl, trivial⟩ (zz_nd_of (ks := [0, 1]) rfl (by decide)) ?_
        refine j_loop (P := fun (a11 : Int32) (s12 : ZS) => zz_wp zt_ms zt_nm zt_df (zt_X L xs) 12 zt_m181 44 [(0, .ref 216), (1, .int a11)] [] (zk b s12) (qI b w)) hF (fun a11 s12 g13 hg13 hF => ?_)
        unfold f_Model_smith_B44 at hF
        refine w_iload_n (pc2 := 45) rfl rfl rfl ?_
        refine w_sipush (pc2 := 48) rfl rfl ?_
        refine j_icmp_ge (pc2 := 51) rfl rfl hF (fun hF => ?_) (fun hF => ?_)
        · exact j_norm (l := [(0, .ref 216)]) ⟨rfl, trivial⟩ (zz_nd_of (ks := [0]) rfl (by decide)) (hk7 s12 hF)
        · refine w_aload_n (pc2 := 52) rfl rfl rfl ?_
          refine w_getfield (pc2 := 55) rfl zk_cModel rfl rfl rfl ?_
          refine w_iload_n (pc2 := 56) rfl rfl rfl ?_
          refine w_iload_n (pc2 := 57) rfl rfl rfl ?_
          refine w_bipush (pc2 := 59) rfl rfl ?_
          refine j_join (P := fun (a15 : Int32) (s14 : ZS) => zz_wp zt_ms zt_nm zt_df (zt_X L xs) 12 zt_m181 72 [(0, .ref 216), (1, .int a11)] [.int a15, .int a11, .ref 226] (zk b s14) (qI b w)) hF (fun a15 s14 hF => ?_) (fun k16 hk16 hF => ?_)
          · refine j_iastore (pc2 := 73) (n := 139) rfl rfl (by omega) (by decide) rfl hF (fun s17 hF => ?_)
            refine w_iinc (pc2 := 76) (ls2 := [(1, .int ((a11 + (1 : Int32)))), (0, .ref 216)]) rfl rfl rfl rfl ?_
            refine w_goto rfl ?_
            exact j_norm (l := [(0, .ref 216), (1, .int ((a11 + (1 : Int32))))]) ⟨rfl, rfl, trivial⟩ (zz_nd_of (ks := [0, 1]) rfl (by decide)) (hg13 (a11 + (1 : Int32)) s17 hF)
          · refine j_icmp_ge (pc2 := 62) rfl rfl hF (fun hF => ?_) (fun hF => ?_)
            · refine w_iconst (pc2 := 72) rfl rfl ?_
              exact j_norm (l := [(0, .ref 216), (1, .int a11)]) ⟨rfl, rfl, trivial⟩ (zz_nd_of (ks := [0, 1]) rfl (by decide)) (hk16 (0 : Int32) s12 hF)
            · refine w_aload_n (pc2 := 63) rfl rfl rfl ?_
              refine w_getfield (pc2 := 66) rfl zk_cModel rfl rfl rfl ?_
              refine w_iload_n (pc2 := 67) rfl rfl rfl ?_
              refine j_iaload (pc2 := 68) (n := 108) rfl rfl (by omega) (by decide) rfl hF (fun v18 hF => ?_)
              refine w_goto rfl ?_
              exact j_norm (l := [(0, .ref 216), (1, .int a11)]) ⟨rfl, rfl, trivial⟩ (zz_nd_of (ks := [0, 1]) rfl (by decide)) (hk16 v18 s12 hF)
    · refine w_bipush (pc2 := 36) rfl rfl ?_
      refine w_aload_n (pc2 := 37) rfl rfl rfl ?_
      refine j_geti (pc2 := 40) rfl zk_cModel rfl rfl rfl hF (fun v19 hF => ?_)
      refine w_isub (pc2 := 41) rfl rfl ?_
      exact j_iret rfl rfl hF
  · refine j_norm (l := [(0, .ref 216), (1, .int (0 : Int32))]) ⟨rfl, rfl, trivial⟩ (zz_nd_of (ks := [0, 1]) rfl (by decide)) ?_
    refine j_loop (P := fun (a20 : Int32) (s21 : ZS) => zz_wp zt_ms zt_nm zt_df (zt_X L xs) 12 zt_m181 8 [(0, .ref 216), (1, .int a20)] [] (zk b s21) (qI b w)) hF (fun a20 s21 g22 hg22 hF => ?_)
    unfold f_Model_smith_B8 at hF
    refine w_iload_n (pc2 := 9) rfl rfl rfl ?_
    refine w_bipush (pc2 := 11) rfl rfl ?_
    refine j_icmp_ge (pc2 := 14) rfl rfl hF (fun hF => ?_) (fun hF => ?_)
    · exact j_norm (l := [(0, .ref 216)]) ⟨rfl, trivial⟩ (zz_nd_of (ks := [0]) rfl (by decide)) (hk3 s21 hF)
    · refine w_aload_n (pc2 := 15) rfl rfl rfl ?_
      refine w_getfield (pc2 := 18) rfl zk_cModel rfl rfl rfl ?_
      refine w_iload_n (pc2 := 19) rfl rfl rfl ?_
      refine w_iconst (pc2 := 20) rfl rfl ?_
      refine j_iastore (pc2 := 21) (n := 108) rfl rfl (by omega) (by decide) rfl hF (fun s23 hF => ?_)
      refine w_iinc (pc2 := 24) (ls2 := [(1, .int ((a20 + (1 : Int32)))), (0, .ref 216)]) rfl rfl rfl rfl ?_
      refine w_goto rfl ?_
      exact j_norm (l := [(0, .ref 216), (1, .int ((a20 + (1 : Int32))))]) ⟨rfl, rfl, trivial⟩ (zz_nd_of (ks := [0, 1]) rfl (by decide)) (hg22 (a20 + (1 : Int32)) s23 hF)
noncomputable def f_Model_isRule (p1 : Int32) (s0 : ZS) : Option (Int32 × ZS) := (if p1 < 0 then zbl (0 : Int32) s0 else zgi (s0.1 216 2) (fun (v2 : Int32) => (if v2 ≤ p1 then zbl (0 : Int32) s0 else zbl (1 : Int32) s0)))
set_option maxHeartbeats 4000000 in
set_option maxRecDepth 100000 in
theorem ok_Model_isRule {L : Nat} {xs : Nat → Int32} {b : ZH} {p1 : Int32} {s0 : ZS} {w : Int32 × ZS} (hF : f_Model_isRule p1 s0 = some w) : zz_ct zt_ms zt_nm zt_df (zt_X L xs) 0 zt_m184 [.ref 216, .int p1] (zk b s0) (qI b w) := by
  unfold f_Model_isRule at hF
  change zz_wp zt_ms zt_nm zt_df (zt_X L xs) 0 zt_m184 0 [(0, .ref 216), (1, .int p1)] [] (zk b s0) (qI b w)
  refine w_iload_n (pc2 := 1) rfl rfl rfl ?_
  refine j_if_lt (pc2 := 4) rfl rfl hF (fun hF => ?_) (fun hF => ?_)
  · refine w_iconst (pc2 := 17) rfl rfl ?_
    exact j_zret rfl rfl hF
  · refine w_iload_n (pc2 := 5) rfl rfl rfl ?_
    refine w_aload_n (pc2 := 6) rfl rfl rfl ?_
    refine j_geti (pc2 := 9) rfl zk_cModel rfl rfl rfl hF (fun v2 hF => ?_)
    refine j_icmp_ge (pc2 := 12) rfl rfl hF (fun hF => ?_) (fun hF => ?_)
    · refine w_iconst (pc2 := 17) rfl rfl ?_
      exact j_zret rfl rfl hF
    · refine w_iconst (pc2 := 13) rfl rfl ?_
      refine w_goto rfl ?_
      exact j_zret rfl rfl hF
noncomputable def f_Model_force (p1 : Int32) (s0 : ZS) : Option (Int32 × ZS) := zj0 (fun (s2 : ZS) => zgi (s2.1 216 21) (fun (v4 : Int32) => zwi s2 216 21 p1 (fun (s5 : ZS) => some (v4, s5)))) (fun (k3 : ZS → Option (Int32 × ZS)) => (if p1 = (-1 : Int32) then k3 s0 else zcl (f_Model_isRule p1 s0) (fun (v7 : Int32) (s6 : ZS) => (if ¬ v7 = 0 then k3 s6 else some ((-2 : Int32), s6)))))
set_option maxHeartbeats 4000000 in
set_option maxRecDepth 100000 in
theorem ok_Model_force {L : Nat} {xs : Nat → Int32} {b : ZH} {p1 : Int32} {s0 : ZS} {w : Int32 × ZS} (hF : f_Model_force p1 s0 = some w) : zz_ct zt_ms zt_nm zt_df (zt_X L xs) 1 zt_m183 [.ref 216, .int p1] (zk b s0) (qI b w) := by
  unfold f_Model_force at hF
  change zz_wp zt_ms zt_nm zt_df (zt_X L xs) 1 zt_m183 0 [(0, .ref 216), (1, .int p1)] [] (zk b s0) (qI b w)
  refine w_iload_n (pc2 := 1) rfl rfl rfl ?_
  refine w_iconst (pc2 := 2) rfl rfl ?_
  refine j_join0 (P := fun (s2 : ZS) => zz_wp zt_ms zt_nm zt_df (zt_X L xs) 1 zt_m183 16 [(0, .ref 216), (1, .int p1)] [] (zk b s2) (qI b w)) hF (fun s2 hF => ?_) (fun k3 hk3 hF => ?_)
  · refine w_aload_n (pc2 := 17) rfl rfl rfl ?_
    refine j_geti (pc2 := 20) rfl zk_cModel rfl rfl rfl hF (fun v4 hF => ?_)
    refine w_istore_n (pc2 := 21) (ls2 := [(2, .int v4), (0, .ref 216), (1, .int p1)]) rfl rfl rfl ?_
    refine w_aload_n (pc2 := 22) rfl rfl rfl ?_
    refine w_iload_n (pc2 := 23) rfl rfl rfl ?_
    refine j_puti (pc2 := 26) (j := 21) rfl zk_cModel rfl (Nat.le_of_ble_eq_true rfl) rfl zk_wModel_21 (by decide) rfl hF (fun s5 hF => ?_)
    refine w_iload_n (pc2 := 27) rfl rfl rfl ?_
    exact j_iret rfl rfl hF
  · refine j_icmp_eq (pc2 := 5) rfl rfl hF (fun hF => ?_) (fun hF => ?_)
    · exact j_norm (l := [(0, .ref 216), (1, .int p1)]) ⟨rfl, rfl, trivial⟩ (zz_nd_of (ks := [0, 1]) rfl (by decide)) (hk3 s0 hF)
    · refine w_aload_n (pc2 := 6) rfl rfl rfl ?_
      refine w_iload_n (pc2 := 7) rfl rfl rfl ?_
      refine j_cIv (pc2 := 10) (k := 0) (c := zt_m184) (as := [.ref 216, .int p1]) (rest := []) rfl rfl rfl rfl zk_cModel.look rfl (Nat.le_of_ble_eq_true rfl) (Nat.le_of_ble_eq_true rfl) (fun w1 h1 => ok_Model_isRule h1) (by decide) rfl hF (fun v7 s6 hF => ?_)
      refine j_if_ne (pc2 := 13) rfl rfl hF (fun hF => ?_) (fun hF => ?_)
      · exact j_norm (l := [(0, .ref 216), (1, .int p1)]) ⟨rfl, rfl, trivial⟩ (zz_nd_of (ks := [0, 1]) rfl (by decide)) (hk3 s6 hF)
      · refine w_bipush (pc2 := 15) rfl rfl ?_
        exact j_iret rfl rfl hF
noncomputable def f_Model_isPair (p1 : Int32) (s0 : ZS) : Option (Int32 × ZS) := (if p1 < 0 then zbl (0 : Int32) s0 else zgi (s0.1 226 3) (fun (v2 : Int32) => (if v2 ≤ p1 then zbl (0 : Int32) s0 else zbl (1 : Int32) s0)))
set_option maxHeartbeats 4000000 in
set_option maxRecDepth 100000 in
theorem ok_Model_isPair {L : Nat} {xs : Nat → Int32} {b : ZH} {p1 : Int32} {s0 : ZS} {w : Int32 × ZS} (hF : f_Model_isPair p1 s0 = some w) : zz_ct zt_ms zt_nm zt_df (zt_X L xs) 0 zt_m186 [.ref 216, .int p1] (zk b s0) (qI b w) := by
  unfold f_Model_isPair at hF
  change zz_wp zt_ms zt_nm zt_df (zt_X L xs) 0 zt_m186 0 [(0, .ref 216), (1, .int p1)] [] (zk b s0) (qI b w)
  refine w_iload_n (pc2 := 1) rfl rfl rfl ?_
  refine j_if_lt (pc2 := 4) rfl rfl hF (fun hF => ?_) (fun hF => ?_)
  · refine w_iconst (pc2 := 19) rfl rfl ?_
    exact j_zret rfl rfl hF
  · refine w_iload_n (pc2 := 5) rfl rfl rfl ?_
    refine w_aload_n (pc2 := 6) rfl rfl rfl ?_
    refine w_getfield (pc2 := 9) rfl zk_cModel rfl rfl rfl ?_
    refine w_iconst (pc2 := 10) rfl rfl ?_
    refine j_ialoadC (pc2 := 11) (n := 139) (j := 3) rfl rfl (by omega) (by decide) (by decide) (by decide) (by decide) rfl hF (fun v2 hF => ?_)
    refine j_icmp_ge (pc2 := 14) rfl rfl hF (fun hF => ?_) (fun hF => ?_)
    · refine w_iconst (pc2 := 19) rfl rfl ?_
      exact j_zret rfl rfl hF
    · refine w_iconst (pc2 := 15) rfl rfl ?_
      refine w_goto rfl ?_
      exact j_zret rfl rfl hF
noncomputable def f_Model_temperOf (p1 : Int32) (s0 : ZS) : Option (Int32 × ZS) := zrd 139 (((12 : Int32) + ((3 : Int32) * p1))) (s0.1 226) (fun (v2 : Int32) => some (v2, s0))
set_option maxHeartbeats 4000000 in
set_option maxRecDepth 100000 in
theorem ok_Model_temperOf {L : Nat} {xs : Nat → Int32} {b : ZH} {p1 : Int32} {s0 : ZS} {w : Int32 × ZS} (hF : f_Model_temperOf p1 s0 = some w) : zz_ct zt_ms zt_nm zt_df (zt_X L xs) 0 zt_m187 [.ref 216, .int p1] (zk b s0) (qI b w) := by
  unfold f_Model_temperOf at hF
  change zz_wp zt_ms zt_nm zt_df (zt_X L xs) 0 zt_m187 0 [(0, .ref 216), (1, .int p1)] [] (zk b s0) (qI b w)
  refine w_aload_n (pc2 := 1) rfl rfl rfl ?_
  refine w_getfield (pc2 := 4) rfl zk_cModel rfl rfl rfl ?_
  refine w_bipush (pc2 := 6) rfl rfl ?_
  refine w_iconst (pc2 := 7) rfl rfl ?_
  refine w_iload_n (pc2 := 8) rfl rfl rfl ?_
  refine w_imul (pc2 := 9) rfl rfl ?_
  refine w_iadd (pc2 := 10) rfl rfl ?_
  refine j_iaload (pc2 := 11) (n := 139) rfl rfl (by omega) (by decide) rfl hF (fun v2 hF => ?_)
  exact j_iret rfl rfl hF
noncomputable def f_Model_bandOf (p1 : Int32) (s0 : ZS) : Option (Int32 × ZS) := zrd 139 ((((12 : Int32) + ((3 : Int32) * p1)) + (1 : Int32))) (s0.1 226) (fun (v2 : Int32) => some (v2, s0))
set_option maxHeartbeats 4000000 in
set_option maxRecDepth 100000 in
theorem ok_Model_bandOf {L : Nat} {xs : Nat → Int32} {b : ZH} {p1 : Int32} {s0 : ZS} {w : Int32 × ZS} (hF : f_Model_bandOf p1 s0 = some w) : zz_ct zt_ms zt_nm zt_df (zt_X L xs) 0 zt_m188 [.ref 216, .int p1] (zk b s0) (qI b w) := by
  unfold f_Model_bandOf at hF
  change zz_wp zt_ms zt_nm zt_df (zt_X L xs) 0 zt_m188 0 [(0, .ref 216), (1, .int p1)] [] (zk b s0) (qI b w)
  refine w_aload_n (pc2 := 1) rfl rfl rfl ?_
  refine w_getfield (pc2 := 4) rfl zk_cModel rfl rfl rfl ?_
  refine w_bipush (pc2 := 6) rfl rfl ?_
  refine w_iconst (pc2 := 7) rfl rfl ?_
  refine w_iload_n (pc2 := 8) rfl rfl rfl ?_
  refine w_imul (pc2 := 9) rfl rfl ?_
  refine w_iadd (pc2 := 10) rfl rfl ?_
  refine w_iconst (pc2 := 11) rfl rfl ?_
  refine w_iadd (pc2 := 12) rfl rfl ?_
  refine j_iaload (pc2 := 13) (n := 139) rfl rfl (by omega) (by decide) rfl hF (fun v2 hF => ?_)
  exact j_iret rfl rfl hF
noncomputable def f_Model_pair (p1 : Int32) (p2 : Int32) (s0 : ZS) : Option (Int32 × ZS) := zcl (f_Model_isPair p1 s0) (fun (v4 : Int32) (s3 : ZS) => (if ¬ v4 = 0 then (if p2 = (0 : Int32) then zcl (f_Model_temperOf p1 s3) (fun (v6 : Int32) (s5 : ZS) => some (v6, s5)) else (if p2 = (1 : Int32) then zrd 139 (((57 : Int32) + p1)) (s3.1 226) (fun (v7 : Int32) => some (v7, s3)) else (if p2 = (2 : Int32) then zcl (f_Model_bandOf p1 s3) (fun (v9 : Int32) (s8 : ZS) => some (v9, s8)) else (if p2 = (3 : Int32) then zrd 139 ((((12 : Int32) + ((3 : Int32) * p1)) + (2 : Int32))) (s3.1 226) (fun (v10 : Int32) => some (v10, s3)) else (if p2 = (4 : Int32) then zrd 139 (((103 : Int32) + p1)) (s3.1 226) (fun (v11 : Int32) => some (v11, s3)) else some ((-1 : Int32), s3)))))) else some ((-1 : Int32), s3)))
set_option maxHeartbeats 4000000 in
set_option maxRecDepth 100000 in
theorem ok_Model_pair {L : Nat} {xs : Nat → Int32} {b : ZH} {p1 : Int32} {p2 : Int32} {s0 : ZS} {w : Int32 × ZS} (hF : f_Model_pair p1 p2 s0 = some w) : zz_ct zt_ms zt_nm zt_df (zt_X L xs) 1 zt_m185 [.ref 216, .int p1, .int p2] (zk b s0) (qI b w) := by
  unfold f_Model_pair at hF
  change zz_wp zt_ms zt_nm zt_df (zt_X L xs) 1 zt_m185 0 [(0, .ref 216), (1, .int p1), (2, .int p2)] [] (zk b s0) (qI b w)
  refine w_aload_n (pc2 := 1) rfl rfl rfl ?_
  refine w_iload_n (pc2 := 2) rfl rfl rfl ?_
  refine j_cIv (pc2 := 5) (k := 0) (c := zt_m186) (as := [.ref 216, .int p1]) (rest := []) rfl rfl rfl rfl zk_cModel.look rfl (Nat.le_of_ble_eq_true rfl) (Nat.le_of_ble_eq_true rfl) (fun w1 h1 => ok_Model_isPair h1) (by decide) rfl hF (fun v4 s3 hF => ?_)
  refine j_if_ne (pc2 := 8) rfl rfl hF (fun hF => ?_) (fun hF => ?_)
  · refine w_iload_n (pc2 := 11) rfl rfl rfl ?_
    by_cases hs0 : p2 = (0 : Int32)
    · rw [if_pos hs0] at hF
      refine j_switch (t := 44) rfl (by rw [hs0]; rfl) ?_
      refine w_aload_n (pc2 := 45) rfl rfl rfl ?_
      refine w_iload_n (pc2 := 46) rfl rfl rfl ?_
      refine j_cIv (pc2 := 49) (k := 0) (c := zt_m187) (as := [.ref 216, .int p1]) (rest := []) rfl rfl rfl rfl zk_cModel.look rfl (Nat.le_of_ble_eq_true rfl) (Nat.le_of_ble_eq_true rfl) (fun w1 h1 => ok_Model_temperOf h1) (by decide) rfl hF (fun v6 s5 hF => ?_)
      exact j_iret rfl rfl hF
    rw [if_neg hs0] at hF
    by_cases hs1 : p2 = (1 : Int32)
    · rw [if_pos hs1] at hF
      refine j_switch (t := 50) rfl (by rw [hs1]; rfl) ?_
      refine w_aload_n (pc2 := 51) rfl rfl rfl ?_
      refine w_getfield (pc2 := 54) rfl zk_cModel rfl rfl rfl ?_
      refine w_bipush (pc2 := 56) rfl rfl ?_
      refine w_iload_n (pc2 := 57) rfl rfl rfl ?_
      refine w_iadd (pc2 := 58) rfl rfl ?_
      refine j_iaload (pc2 := 59) (n := 139) rfl rfl (by omega) (by decide) rfl hF (fun v7 hF => ?_)
      exact j_iret rfl rfl hF
    rw [if_neg hs1] at hF
    by_cases hs2 : p2 = (2 : Int32)
    · rw [if_pos hs2] at hF
      refine j_switch (t := 60) rfl (by rw [hs2]; rfl) ?_
      refine w_aload_n (pc2 := 61) rfl rfl rfl ?_
      refine w_iload_n (pc2 := 62) rfl rfl rfl ?_
      refine j_cIv (pc2 := 65) (k := 0) (c := zt_m188) (as := [.ref 216, .int p1]) (rest := []) rfl rfl rfl rfl zk_cModel.look rfl (Nat.le_of_ble_eq_true rfl) (Nat.le_of_ble_eq_true rfl) (fun w1 h1 => ok_Model_bandOf h1) (by decide) rfl hF (fun v9 s8 hF => ?_)
      exact j_iret rfl rfl hF
    rw [if_neg hs2] at hF
    by_cases hs3 : p2 = (3 : Int32)
    · rw [if_pos hs3] at hF
      refine j_switch (t := 66) rfl (by rw [hs3]; rfl) ?_
      refine w_aload_n (pc2 := 67) rfl rfl rfl ?_
      refine w_getfield (pc2 := 70) rfl zk_cModel rfl rfl rfl ?_
      refine w_bipush (pc2 := 72) rfl rfl ?_
      refine w_iconst (pc2 := 73) rfl rfl ?_
      refine w_iload_n (pc2 := 74) rfl rfl rfl ?_
      refine w_imul (pc2 := 75) rfl rfl ?_
      refine w_iadd (pc2 := 76) rfl rfl ?_
      refine w_iconst (pc2 := 77) rfl rfl ?_
      refine w_iadd (pc2 := 78) rfl rfl ?_
      refine j_iaload (pc2 := 79) (n := 139) rfl rfl (by omega) (by decide) rfl hF (fun v10 hF => ?_)
      exact j_iret rfl rfl hF
    rw [if_neg hs3] at hF
    by_cases hs4 : p2 = (4 : Int32)
    · rw [if_pos hs4] at hF
      refine j_switch (t := 80) rfl (by rw [hs4]; rfl) ?_
      refine w_aload_n (pc2 := 81) rfl rfl rfl ?_
      refine w_getfield (pc2 := 84) rfl zk_cModel rfl rfl rfl ?_
      refine w_bipush (pc2 := 86) rfl rfl ?_
      refine w_iload_n (pc2 := 87) rfl rfl rfl ?_
      refine w_iadd (pc2 := 88) rfl rfl ?_
      refine j_iaload (pc2 := 89) (n := 139) rfl rfl (by omega) (by decide) rfl hF (fun v11 hF => ?_)
      exact j_iret rfl rfl hF
    rw [if_neg hs4] at hF
    refine j_switch (t := 90) rfl ?_ ?_
    · unfold zz_sw
      by_cases hr : (p2).toInt < 0 ∨ 4 < (p2).toInt
      · rw [if_pos hr]; rfl
      · rw [if_neg hr]
        have hcs : (p2).toInt = 0 ∨ (p2).toInt = 1 ∨ (p2).toInt = 2 ∨ (p2).toInt = 3 ∨ (p2).toInt = 4 := by omega
        rcases hcs with h | h | h | h | h
        · exact absurd (Int32.toInt_inj.mp (h.trans (by decide))) hs0
        · exact absurd (Int32.toInt_inj.mp (h.trans (by decide))) hs1
        · exact absurd (Int32.toInt_inj.mp (h.trans (by decide))) hs2
        · exact absurd (Int32.toInt_inj.mp (h.trans (by decide))) hs3
        · exact absurd (Int32.toInt_inj.mp (h.trans (by decide))) hs4
    · refine w_iconst (pc2 := 91) rfl rfl ?_
      exact j_iret rfl rfl hF
  · refine w_iconst (pc2 := 9) rfl rfl ?_
    exact j_iret rfl rfl hF
noncomputable def f_Model_isSaying (p1 : Int32) (s0 : ZS) : Option (Int32 × ZS) := (if p1 < 0 then zbl (0 : Int32) s0 else zgi (s0.1 226 4) (fun (v2 : Int32) => (if v2 ≤ p1 then zbl (0 : Int32) s0 else zbl (1 : Int32) s0)))
set_option maxHeartbeats 4000000 in
set_option maxRecDepth 100000 in
theorem ok_Model_isSaying {L : Nat} {xs : Nat → Int32} {b : ZH} {p1 : Int32} {s0 : ZS} {w : Int32 × ZS} (hF : f_Model_isSaying p1 s0 = some w) : zz_ct zt_ms zt_nm zt_df (zt_X L xs) 0 zt_m190 [.ref 216, .int p1] (zk b s0) (qI b w) := by
  unfold f_Model_isSaying at hF
  change zz_wp zt_ms zt_nm zt_df (zt_X L xs) 0 zt_m190 0 [(0, .ref 216), (1, .int p1)] [] (zk b s0) (qI b w)
  refine w_iload_n (pc2 := 1) rfl rfl rfl ?_
  refine j_if_lt (pc2 := 4) rfl rfl hF (fun hF => ?_) (fun hF => ?_)
  · refine w_iconst (pc2 := 19) rfl rfl ?_
    exact j_zret rfl rfl hF
  · refine w_iload_n (pc2 := 5) rfl rfl rfl ?_
    refine w_aload_n (pc2 := 6) rfl rfl rfl ?_
    refine w_getfield (pc2 := 9) rfl zk_cModel rfl rfl rfl ?_
    refine w_iconst (pc2 := 10) rfl rfl ?_
    refine j_ialoadC (pc2 := 11) (n := 139) (j := 4) rfl rfl (by omega) (by decide) (by decide) (by decide) (by decide) rfl hF (fun v2 hF => ?_)
    refine j_icmp_ge (pc2 := 14) rfl rfl hF (fun hF => ?_) (fun hF => ?_)
    · refine w_iconst (pc2 := 19) rfl rfl ?_
      exact j_zret rfl rfl hF
    · refine w_iconst (pc2 := 15) rfl rfl ?_
      refine w_goto rfl ?_
      exact j_zret rfl rfl hF
noncomputable def f_Model_hurts (p1 : Int32) (p2 : Int32) (s0 : ZS) : Option (Int32 × ZS) := zrd 139 (((67 : Int32) + p2)) (s0.1 226) (fun (v3 : Int32) => zrd 139 ((((73 : Int32) + ((6 : Int32) * p1)) + p2)) (s0.1 226) (fun (v4 : Int32) => some ((v3 + v4), s0)))
set_option maxHeartbeats 4000000 in
set_option maxRecDepth 100000 in
theorem ok_Model_hurts {L : Nat} {xs : Nat → Int32} {b : ZH} {p1 : Int32} {p2 : Int32} {s0 : ZS} {w : Int32 × ZS} (hF : f_Model_hurts p1 p2 s0 = some w) : zz_ct zt_ms zt_nm zt_df (zt_X L xs) 0 zt_m191 [.ref 216, .int p1, .int p2] (zk b s0) (qI b w) := by
  unfold f_Model_hurts at hF
  change zz_wp zt_ms zt_nm zt_df (zt_X L xs) 0 zt_m191 0 [(0, .ref 216), (1, .int p1), (2, .int p2)] [] (zk b s0) (qI b w)
  refine w_aload_n (pc2 := 1) rfl rfl rfl ?_
  refine w_getfield (pc2 := 4) rfl zk_cModel rfl rfl rfl ?_
  refine w_bipush (pc2 := 6) rfl rfl ?_
  refine w_iload_n (pc2 := 7) rfl rfl rfl ?_
  refine w_iadd (pc2 := 8) rfl rfl ?_
  refine j_iaload (pc2 := 9) (n := 139) rfl rfl (by omega) (by decide) rfl hF (fun v3 hF => ?_)
  refine w_aload_n (pc2 := 10) rfl rfl rfl ?_
  refine w_getfield (pc2 := 13) rfl zk_cModel rfl rfl rfl ?_
  refine w_bipush (pc2 := 15) rfl rfl ?_
  refine w_bipush (pc2 := 17) rfl rfl ?_
  refine w_iload_n (pc2 := 18) rfl rfl rfl ?_
  refine w_imul (pc2 := 19) rfl rfl ?_
  refine w_iadd (pc2 := 20) rfl rfl ?_
  refine w_iload_n (pc2 := 21) rfl rfl rfl ?_
  refine w_iadd (pc2 := 22) rfl rfl ?_
  refine j_iaload (pc2 := 23) (n := 139) rfl rfl (by omega) (by decide) rfl hF (fun v4 hF => ?_)
  refine w_iadd (pc2 := 24) rfl rfl ?_
  exact j_iret rfl rfl hF
noncomputable def f_Model_saying (p1 : Int32) (p2 : Int32) (p3 : Int32) (s0 : ZS) : Option (Int32 × ZS) := zcl (f_Model_isPair p1 s0) (fun (v5 : Int32) (s4 : ZS) => (if v5 = 0 then some ((-1 : Int32), s4) else zcl (f_Model_isSaying p2 s4) (fun (v7 : Int32) (s6 : ZS) => (if v7 = 0 then some ((-1 : Int32), s6) else zcl (f_Model_in (p3.toInt64) (0 : Int64) (1 : Int64) s6) (fun (v9 : Int32) (s8 : ZS) => (if ¬ v9 = 0 then (if ¬ p3 = 0 then zrd 139 ((((27 : Int32) + ((6 : Int32) * p1)) + p2)) (s8.1 226) (fun (v10 : Int32) => some (v10, s8)) else zcl (f_Model_hurts p1 p2 s8) (fun (v12 : Int32) (s11 : ZS) => some (v12, s11))) else some ((-1 : Int32), s8)))))))
set_option maxHeartbeats 4000000 in
set_option maxRecDepth 100000 in
theorem ok_Model_saying {L : Nat} {xs : Nat → Int32} {b : ZH} {p1 : Int32} {p2 : Int32} {p3 : Int32} {s0 : ZS} {w : Int32 × ZS} (hF : f_Model_saying p1 p2 p3 s0 = some w) : zz_ct zt_ms zt_nm zt_df (zt_X L xs) 1 zt_m189 [.ref 216, .int p1, .int p2, .int p3] (zk b s0) (qI b w) := by
  unfold f_Model_saying at hF
  change zz_wp zt_ms zt_nm zt_df (zt_X L xs) 1 zt_m189 0 [(0, .ref 216), (1, .int p1), (2, .int p2), (3, .int p3)] [] (zk b s0) (qI b w)
  refine w_aload_n (pc2 := 1) rfl rfl rfl ?_
  refine w_iload_n (pc2 := 2) rfl rfl rfl ?_
  refine j_cIv (pc2 := 5) (k := 0) (c := zt_m186) (as := [.ref 216, .int p1]) (rest := []) rfl rfl rfl rfl zk_cModel.look rfl (Nat.le_of_ble_eq_true rfl) (Nat.le_of_ble_eq_true rfl) (fun w1 h1 => ok_Model_isPair h1) (by decide) rfl hF (fun v5 s4 hF => ?_)
  refine j_if_eq (pc2 := 8) rfl rfl hF (fun hF => ?_) (fun hF => ?_)
  · refine w_iconst (pc2 := 27) rfl rfl ?_
    exact j_iret rfl rfl hF
  · refine w_aload_n (pc2 := 9) rfl rfl rfl ?_
    refine w_iload_n (pc2 := 10) rfl rfl rfl ?_
    refine j_cIv (pc2 := 13) (k := 0) (c := zt_m190) (as := [.ref 216, .int p2]) (rest := []) rfl rfl rfl rfl zk_cModel.look rfl (Nat.le_of_ble_eq_true rfl) (Nat.le_of_ble_eq_true rfl) (fun w1 h1 => ok_Model_isSaying h1) (by decide) rfl hF (fun v7 s6 hF => ?_)
    refine j_if_eq (pc2 := 16) rfl rfl hF (fun hF => ?_) (fun hF => ?_)
    · refine w_iconst (pc2 := 27) rfl rfl ?_
      exact j_iret rfl rfl hF
    · refine w_iload_n (pc2 := 17) rfl rfl rfl ?_
      refine w_i2l (pc2 := 18) rfl rfl ?_
      refine w_lconst (pc2 := 19) rfl rfl ?_
      refine w_lconst (pc2 := 20) rfl rfl ?_
      refine j_cIs (pc2 := 23) (k := 0) (c := zt_m160) (as := [.long (p3.toInt64), .long (0 : Int64), .long (1 : Int64)]) (rest := []) rfl rfl rfl (Nat.le_of_ble_eq_true rfl) rfl rfl (Nat.le_of_ble_eq_true rfl) (Nat.le_of_ble_eq_true rfl) (fun w1 h1 => ok_Model_in h1) (by decide) rfl hF (fun v9 s8 hF => ?_)
      refine j_if_ne (pc2 := 26) rfl rfl hF (fun hF => ?_) (fun hF => ?_)
      · refine w_iload_n (pc2 := 29) rfl rfl rfl ?_
        refine j_if_ne (pc2 := 32) rfl rfl hF (fun hF => ?_) (fun hF => ?_)
        · refine w_aload_n (pc2 := 42) rfl rfl rfl ?_
          refine w_getfield (pc2 := 45) rfl zk_cModel rfl rfl rfl ?_
          refine w_bipush (pc2 := 47) rfl rfl ?_
          refine w_bipush (pc2 := 49) rfl rfl ?_
          refine w_iload_n (pc2 := 50) rfl rfl rfl ?_
          refine w_imul (pc2 := 51) rfl rfl ?_
          refine w_iadd (pc2 := 52) rfl rfl ?_
          refine w_iload_n (pc2 := 53) rfl rfl rfl ?_
          refine w_iadd (pc2 := 54) rfl rfl ?_
          refine j_iaload (pc2 := 55) (n := 139) rfl rfl (by omega) (by decide) rfl hF (fun v10 hF => ?_)
          exact j_iret rfl rfl hF
        · refine w_aload_n (pc2 := 33) rfl rfl rfl ?_
          refine w_iload_n (pc2 := 34) rfl rfl rfl ?_
          refine w_iload_n (pc2 := 35) rfl rfl rfl ?_
          refine j_cIv (pc2 := 38) (k := 0) (c := zt_m191) (as := [.ref 216, .int p1, .int p2]) (rest := []) rfl rfl rfl rfl zk_cModel.look rfl (Nat.le_of_ble_eq_true rfl) (Nat.le_of_ble_eq_true rfl) (fun w1 h1 => ok_Model_hurts h1) (by decide) rfl hF (fun v12 s11 hF => ?_)
          refine w_goto rfl ?_
          exact j_iret rfl rfl hF
      · refine w_iconst (pc2 := 27) rfl rfl ?_
        exact j_iret rfl rfl hF
noncomputable def f_Model_undo_B21 (a4 : Int32) (s5 : ZS) (g6 : Int32 → ZS → Option (Int32 × ZS)) : Option (Int32 × ZS) := (if (47 : Int32) ≤ a4 then zgi (s5.1 216 27) (fun (v7 : Int32) => some (v7, s5)) else zgi (s5.1 216 27) (fun (v8 : Int32) => zrd 940 ((((47 : Int32) * v8) + a4)) (s5.1 228) (fun (v9 : Int32) => zwa s5 226 139 (((10 : Int32) + a4)) v9 (fun (s10 : ZS) => g6 (a4 + (1 : Int32)) s10))))
noncomputable def f_Model_undo (s0 : ZS) : Option (Int32 × ZS) := zgi (s0.1 216 27) (fun (v1 : Int32) => (if ¬ v1 = 0 then zgi (s0.1 216 27) (fun (v2 : Int32) => zwi s0 216 27 ((v2 - (1 : Int32))) (fun (s3 : ZS) => zlp zN (f_Model_undo_B21) (0 : Int32) s3)) else some ((-1 : Int32), s0)))
set_option maxHeartbeats 4000000 in
set_option maxRecDepth 100000 in
theorem ok_Model_undo {L : Nat} {xs : Nat → Int32} {b : ZH} {s0 : ZS} {w : Int32 × ZS} (hF : f_Model_undo s0 = some w) : zz_ct zt_ms zt_nm zt_df (zt_X L xs) 0 zt_m192 [.ref 216] (zk b s0) (qI b w) := by
  unfold f_Model_undo at hF
  change zz_wp zt_ms zt_nm zt_df (zt_X L xs) 0 zt_m192 0 [(0, .ref 216)] [] (zk b s0) (qI b w)
  refine w_aload_n (pc2 := 1) rfl rfl rfl ?_
  refine j_geti (pc2 := 4) rfl zk_cModel rfl rfl rfl hF (fun v1 hF => ?_)
  refine j_if_ne (pc2 := 7) rfl rfl hF (fun hF => ?_) (fun hF => ?_)
  · refine w_aload_n (pc2 := 10) rfl rfl rfl ?_
    refine w_dup (pc2 := 11) rfl rfl rfl ?_
    refine j_geti (pc2 := 14) rfl zk_cModel rfl rfl rfl hF (fun v2 hF => ?_)
    refine w_iconst (pc2 := 15) rfl rfl ?_
    refine w_isub (pc2 := 16) rfl rfl ?_
    refine j_puti (pc2 := 19) (j := 27) rfl zk_cModel rfl (Nat.le_of_ble_eq_true rfl) rfl zk_wModel_27 (by decide) rfl hF (fun s3 hF => ?_)
    refine w_iconst (pc2 := 20) rfl rfl ?_
    refine w_istore_n (pc2 := 21) (ls2 := [(1, .int (0 : Int32)), (0, .ref 216)]) rfl rfl rfl ?_
    refine j_norm (l := [(0, .ref 216), (1, .int (0 : Int32))]) ⟨rfl, rfl, trivial⟩ (zz_nd_of (ks := [0, 1]) rfl (by decide)) ?_
    refine j_loop (P := fun (a4 : Int32) (s5 : ZS) => zz_wp zt_ms zt_nm zt_df (zt_X L xs) 0 zt_m192 21 [(0, .ref 216), (1, .int a4)] [] (zk b s5) (qI b w)) hF (fun a4 s5 g6 hg6 hF => ?_)
    unfold f_Model_undo_B21 at hF
    refine w_iload_n (pc2 := 22) rfl rfl rfl ?_
    refine w_bipush (pc2 := 24) rfl rfl ?_
    refine j_icmp_ge (pc2 := 27) rfl rfl hF (fun hF => ?_) (fun hF => ?_)
    · refine w_aload_n (pc2 := 57) rfl rfl rfl ?_
      refine j_geti (pc2 := 60) rfl zk_cModel rfl rfl rfl hF (fun v7 hF => ?_)
      exact j_iret rfl rfl hF
    · refine w_aload_n (pc2 := 28) rfl rfl rfl ?_
      refine w_getfield (pc2 := 31) rfl zk_cModel rfl rfl rfl ?_
      refine w_bipush (pc2 := 33) rfl rfl ?_
      refine w_iload_n (pc2 := 34) rfl rfl rfl ?_
      refine w_iadd (pc2 := 35) rfl rfl ?_
      refine w_aload_n (pc2 := 36) rfl rfl rfl ?_
      refine w_getfield (pc2 := 39) rfl zk_cModel rfl rfl rfl ?_
      refine w_bipush (pc2 := 41) rfl rfl ?_
      refine w_aload_n (pc2 := 42) rfl rfl rfl ?_
      refine j_geti (pc2 := 45) rfl zk_cModel rfl rfl rfl hF (fun v8 hF => ?_)
      refine w_imul (pc2 := 46) rfl rfl ?_
      refine w_iload_n (pc2 := 47) rfl rfl rfl ?_
      refine w_iadd (pc2 := 48) rfl rfl ?_
      refine j_iaload (pc2 := 49) (n := 940) rfl rfl (by omega) (by decide) rfl hF (fun v9 hF => ?_)
      refine j_iastore (pc2 := 50) (n := 139) rfl rfl (by omega) (by decide) rfl hF (fun s10 hF => ?_)
      refine w_iinc (pc2 := 53) (ls2 := [(1, .int ((a4 + (1 : Int32)))), (0, .ref 216)]) rfl rfl rfl rfl ?_
      refine w_goto rfl ?_
      exact j_norm (l := [(0, .ref 216), (1, .int ((a4 + (1 : Int32))))]) ⟨rfl, rfl, trivial⟩ (zz_nd_of (ks := [0, 1]) rfl (by decide)) (hg6 (a4 + (1 : Int32)) s10 hF)
  · refine w_iconst (pc2 := 8) rfl rfl ?_
    exact j_iret rfl rfl hF
noncomputable def f_Model_isSmithy (s0 : ZS) : Option (Int32 × ZS) := zgi (s0.1 226 0) (fun (v1 : Int32) => (if ¬ v1 = (1 : Int32) then zbl (0 : Int32) s0 else zbl (1 : Int32) s0))
set_option maxHeartbeats 4000000 in
set_option maxRecDepth 100000 in
theorem ok_Model_isSmithy {L : Nat} {xs : Nat → Int32} {b : ZH} {s0 : ZS} {w : Int32 × ZS} (hF : f_Model_isSmithy s0 = some w) : zz_ct zt_ms zt_nm zt_df (zt_X L xs) 0 zt_m194 [.ref 216] (zk b s0) (qI b w) := by
  unfold f_Model_isSmithy at hF
  change zz_wp zt_ms zt_nm zt_df (zt_X L xs) 0 zt_m194 0 [(0, .ref 216)] [] (zk b s0) (qI b w)
  refine w_aload_n (pc2 := 1) rfl rfl rfl ?_
  refine w_getfield (pc2 := 4) rfl zk_cModel rfl rfl rfl ?_
  refine w_iconst (pc2 := 5) rfl rfl ?_
  refine j_ialoadC (pc2 := 6) (n := 139) (j := 0) rfl rfl (by omega) (by decide) (by decide) (by decide) (by decide) rfl hF (fun v1 hF => ?_)
  refine w_iconst (pc2 := 7) rfl rfl ?_
  refine j_icmp_ne (pc2 := 10) rfl rfl hF (fun hF => ?_) (fun hF => ?_)
  · refine w_iconst (pc2 := 15) rfl rfl ?_
    exact j_zret rfl rfl hF
  · refine w_iconst (pc2 := 11) rfl rfl ?_
    refine w_goto rfl ?_
    exact j_zret rfl rfl hF
noncomputable def f_Model_keepsAct_B52 (k5 : ZS → Option (ZS)) (a8 : Int32) (s9 : ZS) (g10 : Int32 → ZS → Option (ZS)) : Option (ZS) := (if (47 : Int32) ≤ a8 then k5 s9 else zgi (s9.1 216 27) (fun (v11 : Int32) => zrd 139 (((10 : Int32) + a8)) (s9.1 226) (fun (v12 : Int32) => zwa s9 228 940 ((((47 : Int32) * v11) + a8)) v12 (fun (s13 : ZS) => g10 (a8 + (1 : Int32)) s13))))
noncomputable def f_Model_keepsAct_B12 (k15 : ZS → Option (ZS)) (a18 : Int32) (s19 : ZS) (g20 : Int32 → ZS → Option (ZS)) : Option (ZS) := (if (940 : Int32) ≤ a18 then k15 s19 else zrd 940 a18 (s19.1 228) (fun (v21 : Int32) => zwa s19 228 940 ((a18 - (47 : Int32))) v21 (fun (s22 : ZS) => g20 (a18 + (1 : Int32)) s22)))
noncomputable def f_Model_keepsAct (s0 : ZS) : Option (ZS) := zgi (s0.1 216 27) (fun (v1 : Int32) => zj0 (fun (s2 : ZS) => zj0 (fun (s4 : ZS) => zgi (s4.1 216 27) (fun (v6 : Int32) => zwi s4 216 27 ((v6 + (1 : Int32))) (fun (s7 : ZS) => some s7))) (fun (k5 : ZS → Option (ZS)) => zlp zN (f_Model_keepsAct_B52 k5) (0 : Int32) s2)) (fun (k3 : ZS → Option (ZS)) => (if ¬ v1 = (20 : Int32) then k3 s0 else zj0 (fun (s14 : ZS) => zgi (s14.1 216 27) (fun (v16 : Int32) => zwi s14 216 27 ((v16 - (1 : Int32))) (fun (s17 : ZS) => k3 s17))) (fun (k15 : ZS → Option (ZS)) => zlp zN (f_Model_keepsAct_B12 k15) (47 : Int32) s0))))
set_option maxHeartbeats 4000000 in
set_option maxRecDepth 100000 in
theorem ok_Model_keepsAct {L : Nat} {xs : Nat → Int32} {b : ZH} {s0 : ZS} {w : ZS} (hF : f_Model_keepsAct s0 = some w) : zz_ct zt_ms zt_nm zt_df (zt_X L xs) 0 zt_m195 [.ref 216] (zk b s0) (qV b w) := by
  unfold f_Model_keepsAct at hF
  change zz_wp zt_ms zt_nm zt_df (zt_X L xs) 0 zt_m195 0 [(0, .ref 216)] [] (zk b s0) (qV b w)
  refine w_aload_n (pc2 := 1) rfl rfl rfl ?_
  refine j_geti (pc2 := 4) rfl zk_cModel rfl rfl rfl hF (fun v1 hF => ?_)
  refine w_bipush (pc2 := 6) rfl rfl ?_
  refine j_join0 (P := fun (s2 : ZS) => zz_wp zt_ms zt_nm zt_df (zt_X L xs) 0 zt_m195 50 [(0, .ref 216)] [] (zk b s2) (qV b w)) hF (fun s2 hF => ?_) (fun k3 hk3 hF => ?_)
  · refine w_iconst (pc2 := 51) rfl rfl ?_
    refine w_istore_n (pc2 := 52) (ls2 := [(1, .int (0 : Int32)), (0, .ref 216)]) rfl rfl rfl ?_
    refine j_join0 (P := fun (s4 : ZS) => zz_wp zt_ms zt_nm zt_df (zt_X L xs) 0 zt_m195 87 [(0, .ref 216)] [] (zk b s4) (qV b w)) hF (fun s4 hF => ?_) (fun k5 hk5 hF => ?_)
    · refine w_aload_n (pc2 := 88) rfl rfl rfl ?_
      refine w_dup (pc2 := 89) rfl rfl rfl ?_
      refine j_geti (pc2 := 92) rfl zk_cModel rfl rfl rfl hF (fun v6 hF => ?_)
      refine w_iconst (pc2 := 93) rfl rfl ?_
      refine w_iadd (pc2 := 94) rfl rfl ?_
      refine j_puti (pc2 := 97) (j := 27) rfl zk_cModel rfl (Nat.le_of_ble_eq_true rfl) rfl zk_wModel_27 (by decide) rfl hF (fun s7 hF => ?_)
      exact j_vret rfl rfl hF
    · refine j_norm (l := [(0, .ref 216), (1, .int (0 : Int32))]) ⟨rfl, rfl, trivial⟩ (zz_nd_of (ks := [0, 1]) rfl (by decide)) ?_
      refine j_loop (P := fun (a8 : Int32) (s9 : ZS) => zz_wp zt_ms zt_nm zt_df (zt_X L xs) 0 zt_m195 52 [(0, .ref 216), (1, .int a8)] [] (zk b s9) (qV b w)) hF (fun a8 s9 g10 hg10 hF => ?_)
      unfold f_Model_keepsAct_B52 at hF
      refine w_iload_n (pc2 := 53) rfl rfl rfl ?_
      refine w_bipush (pc2 := 55) rfl rfl ?_
      refine j_icmp_ge (pc2 := 58) rfl rfl hF (fun hF => ?_) (fun hF => ?_)
      · exact j_norm (l := [(0, .ref 216)]) ⟨rfl, trivial⟩ (zz_nd_of (ks := [0]) rfl (by decide)) (hk5 s9 hF)
      · refine w_aload_n (pc2 := 59) rfl rfl rfl ?_
        refine w_getfield (pc2 := 62) rfl zk_cModel rfl rfl rfl ?_
        refine w_bipush (pc2 := 64) rfl rfl ?_
        refine w_aload_n (pc2 := 65) rfl rfl rfl ?_
        refine j_geti (pc2 := 68) rfl zk_cModel rfl rfl rfl hF (fun v11 hF => ?_)
        refine w_imul (pc2 := 69) rfl rfl ?_
        refine w_iload_n (pc2 := 70) rfl rfl rfl ?_
        refine w_iadd (pc2 := 71) rfl rfl ?_
        refine w_aload_n (pc2 := 72) rfl rfl rfl ?_
        refine w_getfield (pc2 := 75) rfl zk_cModel rfl rfl rfl ?_
        refine w_bipush (pc2 := 77) rfl rfl ?_
        refine w_iload_n (pc2 := 78) rfl rfl rfl ?_
        refine w_iadd (pc2 := 79) rfl rfl ?_
        refine j_iaload (pc2 := 80) (n := 139) rfl rfl (by omega) (by decide) rfl hF (fun v12 hF => ?_)
        refine j_iastore (pc2 := 81) (n := 940) rfl rfl (by omega) (by decide) rfl hF (fun s13 hF => ?_)
        refine w_iinc (pc2 := 84) (ls2 := [(1, .int ((a8 + (1 : Int32)))), (0, .ref 216)]) rfl rfl rfl rfl ?_
        refine w_goto rfl ?_
        exact j_norm (l := [(0, .ref 216), (1, .int ((a8 + (1 : Int32))))]) ⟨rfl, rfl, trivial⟩ (zz_nd_of (ks := [0, 1]) rfl (by decide)) (hg10 (a8 + (1 : Int32)) s13 hF)
  · refine j_icmp_ne (pc2 := 9) rfl rfl hF (fun hF => ?_) (fun hF => ?_)
    · exact j_norm (l := [(0, .ref 216)]) ⟨rfl, trivial⟩ (zz_nd_of (ks := [0]) rfl (by decide)) (hk3 s0 hF)
    · refine w_bipush (pc2 := 11) rfl rfl ?_
      refine w_istore_n (pc2 := 12) (ls2 := [(1, .int (47 : Int32)), (0, .ref 216)]) rfl rfl rfl ?_
      refine j_join0 (P := fun (s14 : ZS) => zz_wp zt_ms zt_nm zt_df (zt_X L xs) 0 zt_m195 40 [(0, .ref 216)] [] (zk b s14) (qV b w)) hF (fun s14 hF => ?_) (fun k15 hk15 hF => ?_)
      · refine w_aload_n (pc2 := 41) rfl rfl rfl ?_
        refine w_dup (pc2 := 42) rfl rfl rfl ?_
        refine j_geti (pc2 := 45) rfl zk_cModel rfl rfl rfl hF (fun v16 hF => ?_)
        refine w_iconst (pc2 := 46) rfl rfl ?_
        refine w_isub (pc2 := 47) rfl rfl ?_
        refine j_puti (pc2 := 50) (j := 27) rfl zk_cModel rfl (Nat.le_of_ble_eq_true rfl) rfl zk_wModel_27 (by decide) rfl hF (fun s17 hF => ?_)
        exact j_norm (l := [(0, .ref 216)]) ⟨rfl, trivial⟩ (zz_nd_of (ks := [0]) rfl (by decide)) (hk3 s17 hF)
      · refine j_norm (l := [(0, .ref 216), (1, .int (47 : Int32))]) ⟨rfl, rfl, trivial⟩ (zz_nd_of (ks := [0, 1]) rfl (by decide)) ?_
        refine j_loop (P := fun (a18 : Int32) (s19 : ZS) => zz_wp zt_ms zt_nm zt_df (zt_X L xs) 0 zt_m195 12 [(0, .ref 216), (1, .int a18)] [] (zk b s19) (qV b w)) hF (fun a18 s19 g20 hg20 hF => ?_)
        unfold f_Model_keepsAct_B12 at hF
        refine w_iload_n (pc2 := 13) rfl rfl rfl ?_
        refine w_sipush (pc2 := 16) rfl rfl ?_
        refine j_icmp_ge (pc2 := 19) rfl rfl hF (fun hF => ?_) (fun hF => ?_)
        · exact j_norm (l := [(0, .ref 216)]) ⟨rfl, trivial⟩ (zz_nd_of (ks := [0]) rfl (by decide)) (hk15 s19 hF)
        · refine w_aload_n (pc2 := 20) rfl rfl rfl ?_
          refine w_getfield (pc2 := 23) rfl zk_cModel rfl rfl rfl ?_
          refine w_iload_n (pc2 := 24) rfl rfl rfl ?_
          refine w_bipush (pc2 := 26) rfl rfl ?_
          refine w_isub (pc2 := 27) rfl rfl ?_
          refine w_aload_n (pc2 := 28) rfl rfl rfl ?_
          refine w_getfield (pc2 := 31) rfl zk_cModel rfl rfl rfl ?_
          refine w_iload_n (pc2 := 32) rfl rfl rfl ?_
          refine j_iaload (pc2 := 33) (n := 940) rfl rfl (by omega) (by decide) rfl hF (fun v21 hF => ?_)
          refine j_iastore (pc2 := 34) (n := 940) rfl rfl (by omega) (by decide) rfl hF (fun s22 hF => ?_)
          refine w_iinc (pc2 := 37) (ls2 := [(1, .int ((a18 + (1 : Int32)))), (0, .ref 216)]) rfl rfl rfl rfl ?_
          refine w_goto rfl ?_
          exact j_norm (l := [(0, .ref 216), (1, .int ((a18 + (1 : Int32))))]) ⟨rfl, rfl, trivial⟩ (zz_nd_of (ks := [0, 1]) rfl (by decide)) (hg20 (a18 + (1 : Int32)) s22 hF)
noncomputable def f_Model_isBare (p1 : Int32) (s0 : ZS) : Option (Int32 × ZS) := zcl (f_Model_isPair p1 s0) (fun (v3 : Int32) (s2 : ZS) => (if v3 = 0 then zbl (0 : Int32) s2 else zcl (f_Model_bandOf p1 s2) (fun (v5 : Int32) (s4 : ZS) => (if ¬ v5 = 0 then zbl (0 : Int32) s4 else zbl (1 : Int32) s4))))
set_option maxHeartbeats 4000000 in
set_option maxRecDepth 100000 in
theorem ok_Model_isBare {L : Nat} {xs : Nat → Int32} {b : ZH} {p1 : Int32} {s0 : ZS} {w : Int32 × ZS} (hF : f_Model_isBare p1 s0 = some w) : zz_ct zt_ms zt_nm zt_df (zt_X L xs) 1 zt_m197 [.ref 216, .int p1] (zk b s0) (qI b w) := by
  unfold f_Model_isBare at hF
  change zz_wp zt_ms zt_nm zt_df (zt_X L xs) 1 zt_m197 0 [(0, .ref 216), (1, .int p1)] [] (zk b s0) (qI b w)
  refine w_aload_n (pc2 := 1) rfl rfl rfl ?_
  refine w_iload_n (pc2 := 2) rfl rfl rfl ?_
  refine j_cIv (pc2 := 5) (k := 0) (c := zt_m186) (as := [.ref 216, .int p1]) (rest := []) rfl rfl rfl rfl zk_cModel.look rfl (Nat.le_of_ble_eq_true rfl) (Nat.le_of_ble_eq_true rfl) (fun w1 h1 => ok_Model_isPair h1) (by decide) rfl hF (fun v3 s2 hF => ?_)
  refine j_if_eq (pc2 := 8) rfl rfl hF (fun hF => ?_) (fun hF => ?_)
  · refine w_iconst (pc2 := 21) rfl rfl ?_
    exact j_zret rfl rfl hF
  · refine w_aload_n (pc2 := 9) rfl rfl rfl ?_
    refine w_iload_n (pc2 := 10) rfl rfl rfl ?_
    refine j_cIv (pc2 := 13) (k := 0) (c := zt_m188) (as := [.ref 216, .int p1]) (rest := []) rfl rfl rfl rfl zk_cModel.look rfl (Nat.le_of_ble_eq_true rfl) (Nat.le_of_ble_eq_true rfl) (fun w1 h1 => ok_Model_bandOf h1) (by decide) rfl hF (fun v5 s4 hF => ?_)
    refine j_if_ne (pc2 := 16) rfl rfl hF (fun hF => ?_) (fun hF => ?_)
    · refine w_iconst (pc2 := 21) rfl rfl ?_
      exact j_zret rfl rfl hF
    · refine w_iconst (pc2 := 17) rfl rfl ?_
      refine w_goto rfl ?_
      exact j_zret rfl rfl hF
noncomputable def f_Model_isOf (p1 : Int32) (p2 : Int32) (s0 : ZS) : Option (Int32 × ZS) := (if ¬ ((p1 >>> (p2 &&& (31 : Int32))) &&& (1 : Int32)) = (1 : Int32) then zbl (0 : Int32) s0 else zbl (1 : Int32) s0)
set_option maxHeartbeats 4000000 in
set_option maxRecDepth 100000 in
theorem ok_Model_isOf {L : Nat} {xs : Nat → Int32} {b : ZH} {p1 : Int32} {p2 : Int32} {s0 : ZS} {w : Int32 × ZS} (hF : f_Model_isOf p1 p2 s0 = some w) : zz_ct zt_ms zt_nm zt_df (zt_X L xs) 0 zt_m199 [.int p1, .int p2] (zk b s0) (qI b w) := by
  unfold f_Model_isOf at hF
  change zz_wp zt_ms zt_nm zt_df (zt_X L xs) 0 zt_m199 0 [(0, .int p1), (1, .int p2)] [] (zk b s0) (qI b w)
  refine w_iload_n (pc2 := 1) rfl rfl rfl ?_
  refine w_iload_n (pc2 := 2) rfl rfl rfl ?_
  refine w_ishr (pc2 := 3) rfl rfl ?_
  refine w_iconst (pc2 := 4) rfl rfl ?_
  refine w_iand (pc2 := 5) rfl rfl ?_
  refine w_iconst (pc2 := 6) rfl rfl ?_
  refine j_icmp_ne (pc2 := 9) rfl rfl hF (fun hF => ?_) (fun hF => ?_)
  · refine w_iconst (pc2 := 14) rfl rfl ?_
    exact j_zret rfl rfl hF
  · refine w_iconst (pc2 := 10) rfl rfl ?_
    refine w_goto rfl ?_
    exact j_zret rfl rfl hF
noncomputable def f_Model_banded_B4 (a1 : Int32 × Int32) (s2 : ZS) (g3 : (Int32 × Int32) → ZS → Option (Int32 × ZS)) : Option (Int32 × ZS) := zgi (s2.1 226 3) (fun (v4 : Int32) => (if v4 ≤ a1.2 then some (a1.1, s2) else zcl (f_Model_isBare a1.2 s2) (fun (v6 : Int32) (s5 : ZS) => zjn (A := Int32) (fun (a8 : Int32) (s7 : ZS) => g3 ((a1.1 ||| a8), (a1.2 + (1 : Int32))) s7) (fun (k9 : Int32 → ZS → Option (Int32 × ZS)) => (if v6 = 0 then k9 ((1 : Int32) <<< (a1.2 &&& (31 : Int32))) s5 else k9 (0 : Int32) s5)))))
noncomputable def f_Model_banded (s0 : ZS) : Option (Int32 × ZS) := zlp zN (f_Model_banded_B4) ((0 : Int32), (0 : Int32)) s0
set_option maxHeartbeats 4000000 in
set_option maxRecDepth 100000 in
theorem ok_Model_banded {L : Nat} {xs : Nat → Int32} {b : ZH} {s0 : ZS} {w : Int32 × ZS} (hF : f_Model_banded s0 = some w) : zz_ct zt_ms zt_nm zt_df (zt_X L xs) 2 zt_m201 [.ref 216] (zk b s0) (qI b w) := by
  unfold f_Model_banded at hF
  change zz_wp zt_ms zt_nm zt_df (zt_X L xs) 2 zt_m201 0 [(0, .ref 216)] [] (zk b s0) (qI b w)
  refine w_iconst (pc2 := 1) rfl rfl ?_
  refine w_istore_n (pc2 := 2) (ls2 := [(1, .int (0 : Int32)), (0, .ref 216)]) rfl rfl rfl ?_
  refine w_iconst (pc2 := 3) rfl rfl ?_
  refine w_istore_n (pc2 := 4) (ls2 := [(2, .int (0 : Int32)), (1, .int (0 : Int32)), (0, .ref 216)]) rfl rfl rfl ?_
  refine j_norm (l := [(0, .ref 216), (1, .int (0 : Int32)), (2, .int (0 : Int32))]) ⟨rfl, rfl, rfl, trivial⟩ (zz_nd_of (ks := [0, 1, 2]) rfl (by decide)) ?_
  refine j_loop (P := fun (a1 : Int32 × Int32) (s2 : ZS) => zz_wp zt_ms zt_nm zt_df (zt_X L xs) 2 zt_m201 4 [(0, .ref 216), (1, .int a1.1), (2, .int a1.2)] [] (zk b s2) (qI b w)) hF (fun a1 s2 g3 hg3 hF => ?_)
  unfold f_Model_banded_B4 at hF
  refine w_iload_n (pc2 := 5) rfl rfl rfl ?_
  refine w_aload_n (pc2 := 6) rfl rfl rfl ?_
  refine w_getfield (pc2 := 9) rfl zk_cModel rfl rfl rfl ?_
  refine w_iconst (pc2 := 10) rfl rfl ?_
  refine j_ialoadC (pc2 := 11) (n := 139) (j := 3) rfl rfl (by omega) (by decide) (by decide) (by decide) (by decide) rfl hF (fun v4 hF => ?_)
  refine j_icmp_ge (pc2 := 14) rfl rfl hF (fun hF => ?_) (fun hF => ?_)
  · refine w_iload_n (pc2 := 39) rfl rfl rfl ?_
    exact j_iret rfl rfl hF
  · refine w_iload_n (pc2 := 15) rfl rfl rfl ?_
    refine w_aload_n (pc2 := 16) rfl rfl rfl ?_
    refine w_iload_n (pc2 := 17) rfl rfl rfl ?_
    refine j_cIv (pc2 := 20) (k := 1) (c := zt_m197) (as := [.ref 216, .int a1.2]) (rest := [.int a1.1]) rfl rfl rfl rfl zk_cModel.look rfl (Nat.le_of_ble_eq_true rfl) (Nat.le_of_ble_eq_true rfl) (fun w1 h1 => ok_Model_isBare h1) (by decide) rfl hF (fun v6 s5 hF => ?_)
    refine j_join (P := fun (a8 : Int32) (s7 : ZS) => zz_wp zt_ms zt_nm zt_df (zt_X L xs) 2 zt_m201 30 [(0, .ref 216), (2, .int a1.2)] [.int a8, .int a1.1] (zk b s7) (qI b w)) hF (fun a8 s7 hF => ?_) (fun k9 hk9 hF => ?_)
    · refine w_ior (pc2 := 31) rfl rfl ?_
      refine w_istore_n (pc2 := 32) (ls2 := [(1, .int (a1.1 ||| a8)), (0, .ref 216), (2, .int a1.2)]) rfl rfl rfl ?_
      refine w_iinc (pc2 := 35) (ls2 := [(2, .int ((a1.2 + (1 : Int32)))), (1, .int (a1.1 ||| a8)), (0, .ref 216)]) rfl rfl rfl rfl ?_
      refine w_goto rfl ?_
      exact j_norm (l := [(0, .ref 216), (1, .int (a1.1 ||| a8)), (2, .int ((a1.2 + (1 : Int32))))]) ⟨rfl, rfl, rfl, trivial⟩ (zz_nd_of (ks := [0, 1, 2]) rfl (by decide)) (hg3 ((a1.1 ||| a8), (a1.2 + (1 : Int32))) s7 hF)
    · refine j_if_eq (pc2 := 23) rfl rfl hF (fun hF => ?_) (fun hF => ?_)
      · refine w_iconst (pc2 := 28) rfl rfl ?_
        refine w_iload_n (pc2 := 29) rfl rfl rfl ?_
        refine w_ishl (pc2 := 30) rfl rfl ?_
        exact j_norm (l := [(0, .ref 216), (2, .int a1.2)]) ⟨rfl, rfl, trivial⟩ (zz_nd_of (ks := [0, 2]) rfl (by decide)) (hk9 ((1 : Int32) <<< (a1.2 &&& (31 : Int32))) s5 hF)
      · refine w_iconst (pc2 := 24) rfl rfl ?_
        refine w_goto rfl ?_
        exact j_norm (l := [(0, .ref 216), (2, .int a1.2)]) ⟨rfl, rfl, trivial⟩ (zz_nd_of (ks := [0, 2]) rfl (by decide)) (hk9 (0 : Int32) s5 hF)
noncomputable def f_Model_bits_B4 (a2 : Int32 × Int32) (s3 : ZS) (g4 : (Int32 × Int32) → ZS → Option (Int32 × ZS)) : Option (Int32 × ZS) := (if a2.2 = 0 then some (a2.1, s3) else g4 ((a2.1 + (1 : Int32)), (a2.2 &&& (a2.2 - (1 : Int32)))) s3)
noncomputable def f_Model_bits (p1 : Int32) (s0 : ZS) : Option (Int32 × ZS) := zlp zN (f_Model_bits_B4) ((0 : Int32), p1) s0
set_option maxHeartbeats 4000000 in
set_option maxRecDepth 100000 in
theorem ok_Model_bits {L : Nat} {xs : Nat → Int32} {b : ZH} {p1 : Int32} {s0 : ZS} {w : Int32 × ZS} (hF : f_Model_bits p1 s0 = some w) : zz_ct zt_ms zt_nm zt_df (zt_X L xs) 0 zt_m202 [.int p1] (zk b s0) (qI b w) := by
  unfold f_Model_bits at hF
  change zz_wp zt_ms zt_nm zt_df (zt_X L xs) 0 zt_m202 0 [(0, .int p1)] [] (zk b s0) (qI b w)
  refine w_iconst (pc2 := 1) rfl rfl ?_
  refine w_istore_n (pc2 := 2) (ls2 := [(1, .int (0 : Int32)), (0, .int p1)]) rfl rfl rfl ?_
  refine w_iload_n (pc2 := 3) rfl rfl rfl ?_
  refine w_istore_n (pc2 := 4) (ls2 := [(2, .int p1), (1, .int (0 : Int32)), (0, .int p1)]) rfl rfl rfl ?_
  refine j_norm (l := [(1, .int (0 : Int32)), (2, .int p1)]) ⟨rfl, rfl, trivial⟩ (zz_nd_of (ks := [1, 2]) rfl (by decide)) ?_
  refine j_loop (P := fun (a2 : Int32 × Int32) (s3 : ZS) => zz_wp zt_ms zt_nm zt_df (zt_X L xs) 0 zt_m202 4 [(1, .int a2.1), (2, .int a2.2)] [] (zk b s3) (qI b w)) hF (fun a2 s3 g4 hg4 hF => ?_)
  unfold f_Model_bits_B4 at hF
  refine w_iload_n (pc2 := 5) rfl rfl rfl ?_
  refine j_if_eq (pc2 := 8) rfl rfl hF (fun hF => ?_) (fun hF => ?_)
  · refine w_iload_n (pc2 := 21) rfl rfl rfl ?_
    exact j_iret rfl rfl hF
  · refine w_iinc (pc2 := 11) (ls2 := [(1, .int ((a2.1 + (1 : Int32)))), (2, .int a2.2)]) rfl rfl rfl rfl ?_
    refine w_iload_n (pc2 := 12) rfl rfl rfl ?_
    refine w_iload_n (pc2 := 13) rfl rfl rfl ?_
    refine w_iconst (pc2 := 14) rfl rfl ?_
    refine w_isub (pc2 := 15) rfl rfl ?_
    refine w_iand (pc2 := 16) rfl rfl ?_
    refine w_istore_n (pc2 := 17) (ls2 := [(2, .int ((a2.2 &&& (a2.2 - (1 : Int32))))), (1, .int ((a2.1 + (1 : Int32))))]) rfl rfl rfl ?_
    refine w_goto rfl ?_
    exact j_norm (l := [(1, .int ((a2.1 + (1 : Int32)))), (2, .int ((a2.2 &&& (a2.2 - (1 : Int32)))))]) ⟨rfl, rfl, trivial⟩ (zz_nd_of (ks := [1, 2]) rfl (by decide)) (hg4 ((a2.1 + (1 : Int32)), (a2.2 &&& (a2.2 - (1 : Int32)))) s3 hF)
