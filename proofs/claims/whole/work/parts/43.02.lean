/-! What methods do as functions of the state, and that the small machine does so. -/
noncomputable def f_Fore_largestOf_B8 (p1 : Int32) (a2 : Int32 × Int32 × Int32) (s3 : ZS) (g4 : (Int32 × Int32 × Int32) → ZS → Option (Int32 × ZS)) : Option (Int32 × ZS) := (if (5 : Int32) ≤ a2.2.2 then some (a2.1, s3) else zjn (A := Int32 × Int32) (fun (a6 : Int32 × Int32) (s5 : ZS) => g4 (a6.1, a6.2, (a2.2.2 + (1 : Int32))) s5) (fun (k7 : (Int32 × Int32) → ZS → Option (Int32 × ZS)) => (if ((p1 >>> (a2.2.2 &&& (31 : Int32))) &&& (1 : Int32)) = 0 then k7 (a2.1, a2.2.1) s3 else zrd 5 a2.2.2 (s3.1 205) (fun (v8 : Int32) => (if v8 ≤ a2.2.1 then k7 (a2.1, a2.2.1) s3 else zrd 5 a2.2.2 (s3.1 205) (fun (v9 : Int32) => k7 (a2.2.2, v9) s3))))))
noncomputable def f_Fore_largestOf (p1 : Int32) (s0 : ZS) : Option (Int32 × ZS) := zlp zN (f_Fore_largestOf_B8 p1) ((-2 : Int32), (0 : Int32), (0 : Int32)) s0
set_option maxHeartbeats 4000000 in
set_option maxRecDepth 100000 in
theorem ok_Fore_largestOf {L : Nat} {xs : Nat → Int32} {b : ZH} {p1 : Int32} {s0 : ZS} {w : Int32 × ZS} (hF : f_Fore_largestOf p1 s0 = some w) : zz_ct zt_ms zt_nm zt_df (zt_X L xs) 0 zt_m9 [.ref 206, .int p1] (zk b s0) (qI b w) := by
  unfold f_Fore_largestOf at hF
  change zz_wp zt_ms zt_nm zt_df (zt_X L xs) 0 zt_m9 0 [(0, .ref 206), (1, .int p1)] [] (zk b s0) (qI b w)
  refine w_bipush (pc2 := 2) rfl rfl ?_
  refine w_istore_n (pc2 := 3) (ls2 := [(2, .int (-2 : Int32)), (0, .ref 206), (1, .int p1)]) rfl rfl rfl ?_
  refine w_iconst (pc2 := 4) rfl rfl ?_
  refine w_istore_n (pc2 := 5) (ls2 := [(3, .int (0 : Int32)), (2, .int (-2 : Int32)), (0, .ref 206), (1, .int p1)]) rfl rfl rfl ?_
  refine w_iconst (pc2 := 6) rfl rfl ?_
  refine w_istore (pc2 := 8) (ls2 := [(4, .int (0 : Int32)), (3, .int (0 : Int32)), (2, .int (-2 : Int32)), (0, .ref 206), (1, .int p1)]) rfl rfl rfl ?_
  refine j_norm (l := [(0, .ref 206), (1, .int p1), (2, .int (-2 : Int32)), (3, .int (0 : Int32)), (4, .int (0 : Int32))]) ⟨rfl, rfl, rfl, rfl, rfl, trivial⟩ (zz_nd_of (ks := [0, 1, 2, 3, 4]) rfl (by decide)) ?_
  refine j_loop (P := fun (a2 : Int32 × Int32 × Int32) (s3 : ZS) => zz_wp zt_ms zt_nm zt_df (zt_X L xs) 0 zt_m9 8 [(0, .ref 206), (1, .int p1), (2, .int a2.1), (3, .int a2.2.1), (4, .int a2.2.2)] [] (zk b s3) (qI b w)) hF (fun a2 s3 g4 hg4 hF => ?_)
  unfold f_Fore_largestOf_B8 at hF
  refine w_iload (pc2 := 10) rfl rfl rfl ?_
  refine w_iconst (pc2 := 11) rfl rfl ?_
  refine j_icmp_ge (pc2 := 14) rfl rfl hF (fun hF => ?_) (fun hF => ?_)
  · refine w_iload_n (pc2 := 58) rfl rfl rfl ?_
    exact j_iret rfl rfl hF
  · refine w_iload_n (pc2 := 15) rfl rfl rfl ?_
    refine w_iload (pc2 := 17) rfl rfl rfl ?_
    refine w_ishr (pc2 := 18) rfl rfl ?_
    refine w_iconst (pc2 := 19) rfl rfl ?_
    refine w_iand (pc2 := 20) rfl rfl ?_
    refine j_join (P := fun (a6 : Int32 × Int32) (s5 : ZS) => zz_wp zt_ms zt_nm zt_df (zt_X L xs) 0 zt_m9 51 [(0, .ref 206), (1, .int p1), (2, .int a6.1), (3, .int a6.2), (4, .int a2.2.2)] [] (zk b s5) (qI b w)) hF (fun a6 s5 hF => ?_) (fun k7 hk7 hF => ?_)
    · refine w_iinc (pc2 := 54) (ls2 := [(4, .int ((a2.2.2 + (1 : Int32)))), (0, .ref 206), (1, .int p1), (2, .int a6.1), (3, .int a6.2)]) rfl rfl rfl rfl ?_
      refine w_goto rfl ?_
      exact j_norm (l := [(0, .ref 206), (1, .int p1), (2, .int a6.1), (3, .int a6.2), (4, .int ((a2.2.2 + (1 : Int32))))]) ⟨rfl, rfl, rfl, rfl, rfl, trivial⟩ (zz_nd_of (ks := [0, 1, 2, 3, 4]) rfl (by decide)) (hg4 (a6.1, a6.2, (a2.2.2 + (1 : Int32))) s5 hF)
    · refine j_if_eq (pc2 := 23) rfl rfl hF (fun hF => ?_) (fun hF => ?_)
      · exact j_norm (l := [(0, .ref 206), (1, .int p1), (2, .int a2.1), (3, .int a2.2.1), (4, .int a2.2.2)]) ⟨rfl, rfl, rfl, rfl, rfl, trivial⟩ (zz_nd_of (ks := [0, 1, 2, 3, 4]) rfl (by decide)) (hk7 (a2.1, a2.2.1) s3 hF)
      · refine w_aload_n (pc2 := 24) rfl rfl rfl ?_
        refine w_getfield (pc2 := 27) rfl zk_cFore rfl rfl rfl ?_
        refine w_getfield (pc2 := 30) rfl zk_cMill rfl rfl rfl ?_
        refine w_iload (pc2 := 32) rfl rfl rfl ?_
        refine j_iaload (pc2 := 33) (n := 5) rfl rfl (by omega) (by decide) rfl hF (fun v8 hF => ?_)
        refine w_iload_n (pc2 := 34) rfl rfl rfl ?_
        refine j_icmp_le (pc2 := 37) rfl rfl hF (fun hF => ?_) (fun hF => ?_)
        · exact j_norm (l := [(0, .ref 206), (1, .int p1), (2, .int a2.1), (3, .int a2.2.1), (4, .int a2.2.2)]) ⟨rfl, rfl, rfl, rfl, rfl, trivial⟩ (zz_nd_of (ks := [0, 1, 2, 3, 4]) rfl (by decide)) (hk7 (a2.1, a2.2.1) s3 hF)
        · refine w_iload (pc2 := 39) rfl rfl rfl ?_
          refine w_istore_n (pc2 := 40) (ls2 := [(2, .int a2.2.2), (0, .ref 206), (1, .int p1), (3, .int a2.2.1), (4, .int a2.2.2)]) rfl rfl rfl ?_
          refine w_aload_n (pc2 := 41) rfl rfl rfl ?_
          refine w_getfield (pc2 := 44) rfl zk_cFore rfl rfl rfl ?_
          refine w_getfield (pc2 := 47) rfl zk_cMill rfl rfl rfl ?_
          refine w_iload (pc2 := 49) rfl rfl rfl ?_
          refine j_iaload (pc2 := 50) (n := 5) rfl rfl (by omega) (by decide) rfl hF (fun v9 hF => ?_)
          refine w_istore_n (pc2 := 51) (ls2 := [(3, .int v9), (2, .int a2.2.2), (0, .ref 206), (1, .int p1), (4, .int a2.2.2)]) rfl rfl rfl ?_
          exact j_norm (l := [(0, .ref 206), (1, .int p1), (2, .int a2.2.2), (3, .int v9), (4, .int a2.2.2)]) ⟨rfl, rfl, rfl, rfl, rfl, trivial⟩ (zz_nd_of (ks := [0, 1, 2, 3, 4]) rfl (by decide)) (hk7 (a2.2.2, v9) s3 hF)
noncomputable def f_Fore_hearing (p1 : Int32) (p2 : Int32) (p3 : Int32) (s0 : ZS) : Option (Int32 × ZS) := zcv (f_Fore_restart s0) (fun (s4 : ZS) => zcl (f_Mill_utter 207 p1 p2 s4) (fun (v6 : Int32) (s5 : ZS) => (if ¬ p3 = 0 then zcl (f_Fore_largestOf v6 s5) (fun (v8 : Int32) (s7 : ZS) => some (v8, s7)) else zcl (f_Int_bitCount v6 s5) (fun (v10 : Int32) (s9 : ZS) => some (v10, s9)))))
set_option maxHeartbeats 4000000 in
set_option maxRecDepth 100000 in
theorem ok_Fore_hearing {L : Nat} {xs : Nat → Int32} {b : ZH} {p1 : Int32} {p2 : Int32} {p3 : Int32} {s0 : ZS} {w : Int32 × ZS} (hF : f_Fore_hearing p1 p2 p3 s0 = some w) : zz_ct zt_ms zt_nm zt_df (zt_X L xs) 2 zt_m8 [.ref 206, .int p1, .int p2, .int p3] (zk b s0) (qI b w) := by
  unfold f_Fore_hearing at hF
  change zz_wp zt_ms zt_nm zt_df (zt_X L xs) 2 zt_m8 0 [(0, .ref 206), (1, .int p1), (2, .int p2), (3, .int p3)] [] (zk b s0) (qI b w)
  refine w_aload_n (pc2 := 1) rfl rfl rfl ?_
  refine j_cVv (pc2 := 4) (k := 1) (c := zt_m2) (as := [.ref 206]) (rest := []) rfl rfl rfl rfl zk_cFore.look rfl (Nat.le_of_ble_eq_true rfl) (Nat.le_of_ble_eq_true rfl) (fun w1 h1 => ok_Fore_restart h1) (by decide) rfl hF (fun s4 hF => ?_)
  refine w_aload_n (pc2 := 5) rfl rfl rfl ?_
  refine w_getfield (pc2 := 8) rfl zk_cFore rfl rfl rfl ?_
  refine w_aload_n (pc2 := 9) rfl rfl rfl ?_
  refine w_getfield (pc2 := 12) rfl zk_cFore rfl rfl rfl ?_
  refine w_iload_n (pc2 := 13) rfl rfl rfl ?_
  refine w_iload_n (pc2 := 14) rfl rfl rfl ?_
  refine j_cIv (pc2 := 17) (k := 1) (c := zt_m45) (as := [.ref 202, .ref 207, .int p1, .int p2]) (rest := []) rfl rfl rfl rfl zk_cMill.look rfl (Nat.le_of_ble_eq_true rfl) (Nat.le_of_ble_eq_true rfl) (fun w1 h1 => ok_Mill_utter zk_st207 h1) (by decide) rfl hF (fun v6 s5 hF => ?_)
  refine w_istore (pc2 := 19) (ls2 := [(4, .int v6), (0, .ref 206), (1, .int p1), (2, .int p2), (3, .int p3)]) rfl rfl rfl ?_
  refine w_iload_n (pc2 := 20) rfl rfl rfl ?_
  refine j_if_ne (pc2 := 23) rfl rfl hF (fun hF => ?_) (fun hF => ?_)
  · refine w_aload_n (pc2 := 32) rfl rfl rfl ?_
    refine w_iload (pc2 := 34) rfl rfl rfl ?_
    refine j_cIv (pc2 := 37) (k := 0) (c := zt_m9) (as := [.ref 206, .int v6]) (rest := []) rfl rfl rfl rfl zk_cFore.look rfl (Nat.le_of_ble_eq_true rfl) (Nat.le_of_ble_eq_true rfl) (fun w1 h1 => ok_Fore_largestOf h1) (by decide) rfl hF (fun v8 s7 hF => ?_)
    exact j_iret rfl rfl hF
  · refine w_iload (pc2 := 25) rfl rfl rfl ?_
    refine j_cIs (pc2 := 28) (k := 0) (c := zt_m260) (as := [.int v6]) (rest := []) rfl rfl rfl (Nat.le_of_ble_eq_true rfl) rfl rfl (Nat.le_of_ble_eq_true rfl) (Nat.le_of_ble_eq_true rfl) (fun w1 h1 => ok_Int_bitCount h1) (by decide) rfl hF (fun v10 s9 hF => ?_)
    refine w_goto rfl ?_
    exact j_iret rfl rfl hF
noncomputable def f_Fore_bestCalm_B16 (p1 : Int32) (k8 : (Int32 × Int32) → ZS → Option (Int32 × ZS)) (a9 : Int32 × Int32 × Int32) (s10 : ZS) (g11 : (Int32 × Int32 × Int32) → ZS → Option (Int32 × ZS)) : Option (Int32 × ZS) := zgi (s10.1 4 3) (fun (v12 : Int32) => (if v12 ≤ a9.2.2 then k8 (a9.1, a9.2.1) s10 else zcv (f_Fore_restart s10) (fun (s13 : ZS) => zwa s13 208 5 a9.2.2 (0 : Int32) (fun (s14 : ZS) => zcl (f_Fore_rowsIn p1 s14) (fun (v16 : Int32) (s15 : ZS) => zjn (A := Int32 × Int32) (fun (a18 : Int32 × Int32) (s17 : ZS) => g11 (a18.1, a18.2, (a9.2.2 + (1 : Int32))) s17) (fun (k19 : (Int32 × Int32) → ZS → Option (Int32 × ZS)) => (if a9.1 ≤ v16 then k19 (a9.1, a9.2.1) s15 else k19 (v16, a9.2.2) s15)))))))
noncomputable def f_Fore_bestCalm (p1 : Int32) (p2 : Int32) (s0 : ZS) : Option (Int32 × ZS) := zcv (f_Fore_restart s0) (fun (s3 : ZS) => zcl (f_Fore_rowsIn p1 s3) (fun (v5 : Int32) (s4 : ZS) => zjn (A := Int32 × Int32) (fun (a7 : Int32 × Int32) (s6 : ZS) => (if ¬ p2 = 0 then some (a7.1, s6) else some (a7.2, s6))) (fun (k8 : (Int32 × Int32) → ZS → Option (Int32 × ZS)) => zlp zN (f_Fore_bestCalm_B16 p1 k8) (v5, (-1 : Int32), (0 : Int32)) s4)))
set_option maxHeartbeats 4000000 in
set_option maxRecDepth 100000 in
theorem ok_Fore_bestCalm {L : Nat} {xs : Nat → Int32} {b : ZH} {p1 : Int32} {p2 : Int32} {s0 : ZS} {w : Int32 × ZS} (hF : f_Fore_bestCalm p1 p2 s0 = some w) : zz_ct zt_ms zt_nm zt_df (zt_X L xs) 5 zt_m10 [.ref 206, .int p1, .int p2] (zk b s0) (qI b w) := by
  unfold f_Fore_bestCalm at hF
  change zz_wp zt_ms zt_nm zt_df (zt_X L xs) 5 zt_m10 0 [(0, .ref 206), (1, .int p1), (2, .int p2)] [] (zk b s0) (qI b w)
  refine w_aload_n (pc2 := 1) rfl rfl rfl ?_
  refine j_cVv (pc2 := 4) (k := 1) (c := zt_m2) (as := [.ref 206]) (rest := []) rfl rfl rfl rfl zk_cFore.look rfl (Nat.le_of_ble_eq_true rfl) (Nat.le_of_ble_eq_true rfl) (fun w1 h1 => ok_Fore_restart h1) (by decide) rfl hF (fun s3 hF => ?_)
  refine w_aload_n (pc2 := 5) rfl rfl rfl ?_
  refine w_iload_n (pc2 := 6) rfl rfl rfl ?_
  refine j_cIv (pc2 := 9) (k := 4) (c := zt_m3) (as := [.ref 206, .int p1]) (rest := []) rfl rfl rfl rfl zk_cFore.look rfl (Nat.le_of_ble_eq_true rfl) (Nat.le_of_ble_eq_true rfl) (fun w1 h1 => ok_Fore_rowsIn h1) (by decide) rfl hF (fun v5 s4 hF => ?_)
  refine w_istore_n (pc2 := 10) (ls2 := [(3, .int v5), (0, .ref 206), (1, .int p1), (2, .int p2)]) rfl rfl rfl ?_
  refine w_iconst (pc2 := 11) rfl rfl ?_
  refine w_istore (pc2 := 13) (ls2 := [(4, .int (-1 : Int32)), (3, .int v5), (0, .ref 206), (1, .int p1), (2, .int p2)]) rfl rfl rfl ?_
  refine w_iconst (pc2 := 14) rfl rfl ?_
  refine w_istore (pc2 := 16) (ls2 := [(5, .int (0 : Int32)), (4, .int (-1 : Int32)), (3, .int v5), (0, .ref 206), (1, .int p1), (2, .int p2)]) rfl rfl rfl ?_
  refine j_join (P := fun (a7 : Int32 × Int32) (s6 : ZS) => zz_wp zt_ms zt_nm zt_df (zt_X L xs) 5 zt_m10 72 [(2, .int p2), (3, .int a7.1), (4, .int a7.2)] [] (zk b s6) (qI b w)) hF (fun a7 s6 hF => ?_) (fun k8 hk8 hF => ?_)
  · refine w_iload_n (pc2 := 73) rfl rfl rfl ?_
    refine j_if_ne (pc2 := 76) rfl rfl hF (fun hF => ?_) (fun hF => ?_)
    · refine w_iload_n (pc2 := 82) rfl rfl rfl ?_
      exact j_iret rfl rfl hF
    · refine w_iload (pc2 := 78) rfl rfl rfl ?_
      refine w_goto rfl ?_
      exact j_iret rfl rfl hF
  · refine j_norm (l := [(0, .ref 206), (1, .int p1), (2, .int p2), (3, .int v5), (4, .int (-1 : Int32)), (5, .int (0 : Int32))]) ⟨rfl, rfl, rfl, rfl, rfl, rfl, trivial⟩ (zz_nd_of (ks := [0, 1, 2, 3, 4, 5]) rfl (by decide)) ?_
    refine j_loop (P := fun (a9 : Int32 × Int32 × Int32) (s10 : ZS) => zz_wp zt_ms zt_nm zt_df (zt_X L xs) 5 zt_m10 16 [(0, .ref 206), (1, .int p1), (2, .int p2), (3, .int a9.1), (4, .int a9.2.1), (5, .int a9.2.2)] [] (zk b s10) (qI b w)) hF (fun a9 s10 g11 hg11 hF => ?_)
    unfold f_Fore_bestCalm_B16 at hF
    refine w_iload (pc2 := 18) rfl rfl rfl ?_
    refine w_aload_n (pc2 := 19) rfl rfl rfl ?_
    refine w_getfield (pc2 := 22) rfl zk_cFore rfl rfl rfl ?_
    refine w_getfield (pc2 := 25) rfl (zk_cWorld zk_w3) rfl rfl rfl ?_
    refine j_geti (pc2 := 28) rfl (zk_cSmithy zk_sm4) rfl rfl rfl hF (fun v12 hF => ?_)
    refine j_icmp_ge (pc2 := 31) rfl rfl hF (fun hF => ?_) (fun hF => ?_)
    · exact j_norm (l := [(2, .int p2), (3, .int a9.1), (4, .int a9.2.1)]) ⟨rfl, rfl, rfl, trivial⟩ (zz_nd_of (ks := [2, 3, 4]) rfl (by decide)) (hk8 (a9.1, a9.2.1) s10 hF)
    · refine w_aload_n (pc2 := 32) rfl rfl rfl ?_
      refine j_cVv (pc2 := 35) (k := 1) (c := zt_m2) (as := [.ref 206]) (rest := []) rfl rfl rfl rfl zk_cFore.look rfl (Nat.le_of_ble_eq_true rfl) (Nat.le_of_ble_eq_true rfl) (fun w1 h1 => ok_Fore_restart h1) (by decide) rfl hF (fun s13 hF => ?_)
      refine w_aload_n (pc2 := 36) rfl rfl rfl ?_
      refine w_getfield (pc2 := 39) rfl zk_cFore rfl rfl rfl ?_
      refine w_getfield (pc2 := 42) rfl (zk_cState zk_st207) rfl rfl rfl ?_
      refine w_iload (pc2 := 44) rfl rfl rfl ?_
      refine w_iconst (pc2 := 45) rfl rfl ?_
      refine j_iastore (pc2 := 46) (n := 5) rfl rfl (by omega) (by decide) rfl hF (fun s14 hF => ?_)
      refine w_aload_n (pc2 := 47) rfl rfl rfl ?_
      refine w_iload_n (pc2 := 48) rfl rfl rfl ?_
      refine j_cIv (pc2 := 51) (k := 4) (c := zt_m3) (as := [.ref 206, .int p1]) (rest := []) rfl rfl rfl rfl zk_cFore.look rfl (Nat.le_of_ble_eq_true rfl) (Nat.le_of_ble_eq_true rfl) (fun w1 h1 => ok_Fore_rowsIn h1) (by decide) rfl hF (fun v16 s15 hF => ?_)
      refine w_istore (pc2 := 53) (ls2 := [(6, .int v16), (0, .ref 206), (1, .int p1), (2, .int p2), (3, .int a9.1), (4, .int a9.2.1), (5, .int a9.2.2)]) rfl rfl rfl ?_
      refine w_iload (pc2 := 55) rfl rfl rfl ?_
      refine w_iload_n (pc2 := 56) rfl rfl rfl ?_
      refine j_join (P := fun (a18 : Int32 × Int32) (s17 : ZS) => zz_wp zt_ms zt_nm zt_df (zt_X L xs) 5 zt_m10 66 [(0, .ref 206), (1, .int p1), (2, .int p2), (3, .int a18.1), (4, .int a18.2), (5, .int a9.2.2)] [] (zk b s17) (qI b w)) hF (fun a18 s17 hF => ?_) (fun k19 hk19 hF => ?_)
      · refine w_iinc (pc2 := 69) (ls2 := [(5, .int ((a9.2.2 + (1 : Int32)))), (0, .ref 206), (1, .int p1), (2, .int p2), (3, .int a18.1), (4, .int a18.2)]) rfl rfl rfl rfl ?_
        refine w_goto rfl ?_
        exact j_norm (l := [(0, .ref 206), (1, .int p1), (2, .int p2), (3, .int a18.1), (4, .int a18.2), (5, .int ((a9.2.2 + (1 : Int32))))]) ⟨rfl, rfl, rfl, rfl, rfl, rfl, trivial⟩ (zz_nd_of (ks := [0, 1, 2, 3, 4, 5]) rfl (by decide)) (hg11 (a18.1, a18.2, (a9.2.2 + (1 : Int32))) s17 hF)
      · refine j_icmp_ge (pc2 := 59) rfl rfl hF (fun hF => ?_) (fun hF => ?_)
        · exact j_norm (l := [(0, .ref 206), (1, .int p1), (2, .int p2), (3, .int a9.1), (4, .int a9.2.1), (5, .int a9.2.2)]) ⟨rfl, rfl, rfl, rfl, rfl, rfl, trivial⟩ (zz_nd_of (ks := [0, 1, 2, 3, 4, 5]) rfl (by decide)) (hk19 (a9.1, a9.2.1) s15 hF)
        · refine w_iload (pc2 := 61) rfl rfl rfl ?_
          refine w_istore_n (pc2 := 62) (ls2 := [(3, .int v16), (6, .int v16), (0, .ref 206), (1, .int p1), (2, .int p2), (4, .int a9.2.1), (5, .int a9.2.2)]) rfl rfl rfl ?_
          refine w_iload (pc2 := 64) rfl rfl rfl ?_
          refine w_istore (pc2 := 66) (ls2 := [(4, .int a9.2.2), (3, .int v16), (6, .int v16), (0, .ref 206), (1, .int p1), (2, .int p2), (5, .int a9.2.2)]) rfl rfl rfl ?_
          exact j_norm (l := [(0, .ref 206), (1, .int p1), (2, .int p2), (3, .int v16), (4, .int a9.2.2), (5, .int a9.2.2)]) ⟨rfl, rfl, rfl, rfl, rfl, rfl, trivial⟩ (zz_nd_of (ks := [0, 1, 2, 3, 4, 5]) rfl (by decide)) (hk19 (v16, a9.2.2) s15 hF)
noncomputable def f_Fore_largestRow_B17 (p1 : Int32) (k6 : (Int32 × Int32 × Int32) → ZS → Option (Int32 × ZS)) (a7 : Int32 × Int32 × Int32 × Int32) (s8 : ZS) (g9 : (Int32 × Int32 × Int32 × Int32) → ZS → Option (Int32 × ZS)) : Option (Int32 × ZS) := (if p1 ≤ a7.2.2.2 then k6 (a7.1, a7.2.1, a7.2.2.1) s8 else zgi (s8.1 207 0) (fun (v10 : Int32) => zcl (f_Mill_passDay 207 s8) (fun (v12 : Int32) (s11 : ZS) => zcl (f_Fore_largestOf v12 s11) (fun (v14 : Int32) (s13 : ZS) => zjn (A := Int32 × Int32 × Int32) (fun (a16 : Int32 × Int32 × Int32) (s15 : ZS) => g9 (a16.1, a16.2.1, a16.2.2, (a7.2.2.2 + (1 : Int32))) s15) (fun (k17 : (Int32 × Int32 × Int32) → ZS → Option (Int32 × ZS)) => (if v14 = (-2 : Int32) then k17 (a7.1, a7.2.1, a7.2.2.1) s13 else zrd 5 v14 (s13.1 205) (fun (v18 : Int32) => (if v18 ≤ a7.2.1 then k17 (a7.1, a7.2.1, a7.2.2.1) s13 else zrd 5 v14 (s13.1 205) (fun (v19 : Int32) => k17 (v14, v19, v10) s13)))))))))
noncomputable def f_Fore_largestRow (p1 : Int32) (p2 : Int32) (s0 : ZS) : Option (Int32 × ZS) := zcv (f_Fore_restart s0) (fun (s3 : ZS) => zjn (A := Int32 × Int32 × Int32) (fun (a5 : Int32 × Int32 × Int32) (s4 : ZS) => (if a5.1 = (-2 : Int32) then some (a5.1, s4) else (if ¬ p2 = 0 then (if ¬ p2 = (1 : Int32) then some (a5.2.2, s4) else some (a5.2.1, s4)) else some (a5.1, s4)))) (fun (k6 : (Int32 × Int32 × Int32) → ZS → Option (Int32 × ZS)) => zlp zN (f_Fore_largestRow_B17 p1 k6) ((-2 : Int32), (0 : Int32), (-2 : Int32), (0 : Int32)) s3))
set_option maxHeartbeats 4000000 in
set_option maxRecDepth 100000 in
theorem ok_Fore_largestRow {L : Nat} {xs : Nat → Int32} {b : ZH} {p1 : Int32} {p2 : Int32} {s0 : ZS} {w : Int32 × ZS} (hF : f_Fore_largestRow p1 p2 s0 = some w) : zz_ct zt_ms zt_nm zt_df (zt_X L xs) 4 zt_m11 [.ref 206, .int p1, .int p2] (zk b s0) (qI b w) := by
  unfold f_Fore_largestRow at hF
  change zz_wp zt_ms zt_nm zt_df (zt_X L xs) 4 zt_m11 0 [(0, .ref 206), (1, .int p1), (2, .int p2)] [] (zk b s0) (qI b w)
  refine w_aload_n (pc2 := 1) rfl rfl rfl ?_
  refine j_cVv (pc2 := 4) (k := 1) (c := zt_m2) (as := [.ref 206]) (rest := []) rfl rfl rfl rfl zk_cFore.look rfl (Nat.le_of_ble_eq_true rfl) (Nat.le_of_ble_eq_true rfl) (fun w1 h1 => ok_Fore_restart h1) (by decide) rfl hF (fun s3 hF => ?_)
  refine w_bipush (pc2 := 6) rfl rfl ?_
  refine w_istore_n (pc2 := 7) (ls2 := [(3, .int (-2 : Int32)), (0, .ref 206), (1, .int p1), (2, .int p2)]) rfl rfl rfl ?_
  refine w_iconst (pc2 := 8) rfl rfl ?_
  refine w_istore (pc2 := 10) (ls2 := [(4, .int (0 : Int32)), (3, .int (-2 : Int32)), (0, .ref 206), (1, .int p1), (2, .int p2)]) rfl rfl rfl ?_
  refine w_bipush (pc2 := 12) rfl rfl ?_
  refine w_istore (pc2 := 14) (ls2 := [(5, .int (-2 : Int32)), (4, .int (0 : Int32)), (3, .int (-2 : Int32)), (0, .ref 206), (1, .int p1), (2, .int p2)]) rfl rfl rfl ?_
  refine w_iconst (pc2 := 15) rfl rfl ?_
  refine w_istore (pc2 := 17) (ls2 := [(6, .int (0 : Int32)), (5, .int (-2 : Int32)), (4, .int (0 : Int32)), (3, .int (-2 : Int32)), (0, .ref 206), (1, .int p1), (2, .int p2)]) rfl rfl rfl ?_
  refine j_join (P := fun (a5 : Int32 × Int32 × Int32) (s4 : ZS) => zz_wp zt_ms zt_nm zt_df (zt_X L xs) 4 zt_m11 100 [(2, .int p2), (3, .int a5.1), (4, .int a5.2.1), (5, .int a5.2.2)] [] (zk b s4) (qI b w)) hF (fun a5 s4 hF => ?_) (fun k6 hk6 hF => ?_)
  · refine w_iload_n (pc2 := 101) rfl rfl rfl ?_
    refine w_bipush (pc2 := 103) rfl rfl ?_
    refine j_icmp_eq (pc2 := 106) rfl rfl hF (fun hF => ?_) (fun hF => ?_)
    · refine w_iload_n (pc2 := 111) rfl rfl rfl ?_
      exact j_iret rfl rfl hF
    · refine w_iload_n (pc2 := 107) rfl rfl rfl ?_
      refine j_if_ne (pc2 := 110) rfl rfl hF (fun hF => ?_) (fun hF => ?_)
      · refine w_iload_n (pc2 := 113) rfl rfl rfl ?_
        refine w_iconst (pc2 := 114) rfl rfl ?_
        refine j_icmp_ne (pc2 := 117) rfl rfl hF (fun hF => ?_) (fun hF => ?_)
        · refine w_iload (pc2 := 124) rfl rfl rfl ?_
          exact j_iret rfl rfl hF
        · refine w_iload (pc2 := 119) rfl rfl rfl ?_
          refine w_goto rfl ?_
          exact j_iret rfl rfl hF
      · refine w_iload_n (pc2 := 111) rfl rfl rfl ?_
        exact j_iret rfl rfl hF
  · refine j_norm (l := [(0, .ref 206), (1, .int p1), (2, .int p2), (3, .int (-2 : Int32)), (4, .int (0 : Int32)), (5, .int (-2 : Int32)), (6, .int (0 : Int32))]) ⟨rfl, rfl, rfl, rfl, rfl, rfl, rfl, trivial⟩ (zz_nd_of (ks := [0, 1, 2, 3, 4, 5, 6]) rfl (by decide)) ?_
    refine j_loop (P := fun (a7 : Int32 × Int32 × Int32 × Int32) (s8 : ZS) => zz_wp zt_ms zt_nm zt_df (zt_X L xs) 4 zt_m11 17 [(0, .ref 206), (1, .int p1), (2, .int p2), (3, .int a7.1), (4, .int a7.2.1), (5, .int a7.2.2.1), (6, .int a7.2.2.2)] [] (zk b s8) (qI b w)) hF (fun a7 s8 g9 hg9 hF => ?_)
    unfold f_Fore_largestRow_B17 at hF
    refine w_iload (pc2 := 19) rfl rfl rfl ?_
    refine w_iload_n (pc2 := 20) rfl rfl rfl ?_
    refine j_icmp_ge (pc2 := 23) rfl rfl hF (fun hF => ?_) (fun hF => ?_)
    · exact j_norm (l := [(2, .int p2), (3, .int a7.1), (4, .int a7.2.1), (5, .int a7.2.2.1)]) ⟨rfl, rfl, rfl, rfl, trivial⟩ (zz_nd_of (ks := [2, 3, 4, 5]) rfl (by decide)) (hk6 (a7.1, a7.2.1, a7.2.2.1) s8 hF)
    · refine w_aload_n (pc2 := 24) rfl rfl rfl ?_
      refine w_getfield (pc2 := 27) rfl zk_cFore rfl rfl rfl ?_
      refine j_geti (pc2 := 30) rfl (zk_cState zk_st207) rfl rfl rfl hF (fun v10 hF => ?_)
      refine w_istore (pc2 := 32) (ls2 := [(7, .int v10), (0, .ref 206), (1, .int p1), (2, .int p2), (3, .int a7.1), (4, .int a7.2.1), (5, .int a7.2.2.1), (6, .int a7.2.2.2)]) rfl rfl rfl ?_
      refine w_aload_n (pc2 := 33) rfl rfl rfl ?_
      refine w_getfield (pc2 := 36) rfl zk_cFore rfl rfl rfl ?_
      refine w_aload_n (pc2 := 37) rfl rfl rfl ?_
      refine w_getfield (pc2 := 40) rfl zk_cFore rfl rfl rfl ?_
      refine j_cIv (pc2 := 43) (k := 3) (c := zt_m41) (as := [.ref 202, .ref 207]) (rest := []) rfl rfl rfl rfl zk_cMill.look rfl (Nat.le_of_ble_eq_true rfl) (Nat.le_of_ble_eq_true rfl) (fun w1 h1 => ok_Mill_passDay zk_st207 h1) (by decide) rfl hF (fun v12 s11 hF => ?_)
      refine w_istore (pc2 := 45) (ls2 := [(8, .int v12), (7, .int v10), (0, .ref 206), (1, .int p1), (2, .int p2), (3, .int a7.1), (4, .int a7.2.1), (5, .int a7.2.2.1), (6, .int a7.2.2.2)]) rfl rfl rfl ?_
      refine w_aload_n (pc2 := 46) rfl rfl rfl ?_
      refine w_iload (pc2 := 48) rfl rfl rfl ?_
      refine j_cIv (pc2 := 51) (k := 0) (c := zt_m9) (as := [.ref 206, .int v12]) (rest := []) rfl rfl rfl rfl zk_cFore.look rfl (Nat.le_of_ble_eq_true rfl) (Nat.le_of_ble_eq_true rfl) (fun w1 h1 => ok_Fore_largestOf h1) (by decide) rfl hF (fun v14 s13 hF => ?_)
      refine w_istore (pc2 := 53) (ls2 := [(9, .int v14), (8, .int v12), (7, .int v10), (0, .ref 206), (1, .int p1), (2, .int p2), (3, .int a7.1), (4, .int a7.2.1), (5, .int a7.2.2.1), (6, .int a7.2.2.2)]) rfl rfl rfl ?_
      refine w_iload (pc2 := 55) rfl rfl rfl ?_
      refine w_bipush (pc2 := 57) rfl rfl ?_
      refine j_join (P := fun (a16 : Int32 × Int32 × Int32) (s15 : ZS) => zz_wp zt_ms zt_nm zt_df (zt_X L xs) 4 zt_m11 94 [(0, .ref 206), (1, .int p1), (2, .int p2), (3, .int a16.1), (4, .int a16.2.1), (5, .int a16.2.2), (6, .int a7.2.2.2)] [] (zk b s15) (qI b w)) hF (fun a16 s15 hF => ?_) (fun k17 hk17 hF => ?_)
      · refine w_iinc (pc2 := 97) (ls2 := [(6, .int ((a7.2.2.2 + (1 : Int32)))), (0, .ref 206), (1, .int p1), (2, .int p2), (3, .int a16.1), (4, .int a16.2.1), (5, .int a16.2.2)]) rfl rfl rfl rfl ?_
        refine w_goto rfl ?_
        exact j_norm (l := [(0, .ref 206), (1, .int p1), (2, .int p2), (3, .int a16.1), (4, .int a16.2.1), (5, .int a16.2.2), (6, .int ((a7.2.2.2 + (1 : Int32))))]) ⟨rfl, rfl, rfl, rfl, rfl, rfl, rfl, trivial⟩ (zz_nd_of (ks := [0, 1, 2, 3, 4, 5, 6]) rfl (by decide)) (hg9 (a16.1, a16.2.1, a16.2.2, (a7.2.2.2 + (1 : Int32))) s15 hF)
      · refine j_icmp_eq (pc2 := 60) rfl rfl hF (fun hF => ?_) (fun hF => ?_)
        · exact j_norm (l := [(0, .ref 206), (1, .int p1), (2, .int p2), (3, .int a7.1), (4, .int a7.2.1), (5, .int a7.2.2.1), (6, .int a7.2.2.2)]) ⟨rfl, rfl, rfl, rfl, rfl, rfl, rfl, trivial⟩ (zz_nd_of (ks := [0, 1, 2, 3, 4, 5, 6]) rfl (by decide)) (hk17 (a7.1, a7.2.1, a7.2.2.1) s13 hF)
        · refine w_aload_n (pc2 := 61) rfl rfl rfl ?_
          refine w_getfield (pc2 := 64) rfl zk_cFore rfl rfl rfl ?_
          refine w_getfield (pc2 := 67) rfl zk_cMill rfl rfl rfl ?_
          refine w_iload (pc2 := 69) rfl rfl rfl ?_
          refine j_iaload (pc2 := 70) (n := 5) rfl rfl (by omega) (by decide) rfl hF (fun v18 hF => ?_)
          refine w_iload (pc2 := 72) rfl rfl rfl ?_
          refine j_icmp_le (pc2 := 75) rfl rfl hF (fun hF => ?_) (fun hF => ?_)
          · exact j_norm (l := [(0, .ref 206), (1, .int p1), (2, .int p2), (3, .int a7.1), (4, .int a7.2.1), (5, .int a7.2.2.1), (6, .int a7.2.2.2)]) ⟨rfl, rfl, rfl, rfl, rfl, rfl, rfl, trivial⟩ (zz_nd_of (ks := [0, 1, 2, 3, 4, 5, 6]) rfl (by decide)) (hk17 (a7.1, a7.2.1, a7.2.2.1) s13 hF)
          · refine w_iload (pc2 := 77) rfl rfl rfl ?_
            refine w_istore_n (pc2 := 78) (ls2 := [(3, .int v14), (9, .int v14), (8, .int v12), (7, .int v10), (0, .ref 206), (1, .int p1), (2, .int p2), (4, .int a7.2.1), (5, .int a7.2.2.1), (6, .int a7.2.2.2)]) rfl rfl rfl ?_
            refine w_aload_n (pc2 := 79) rfl rfl rfl ?_
            refine w_getfield (pc2 := 82) rfl zk_cFore rfl rfl rfl ?_
            refine w_getfield (pc2 := 85) rfl zk_cMill rfl rfl rfl ?_
            refine w_iload (pc2 := 87) rfl rfl rfl ?_
            refine j_iaload (pc2 := 88) (n := 5) rfl rfl (by omega) (by decide) rfl hF (fun v19 hF => ?_)
            refine w_istore (pc2 := 90) (ls2 := [(4, .int v19), (3, .int v14), (9, .int v14), (8, .int v12), (7, .int v10), (0, .ref 206), (1, .int p1), (2, .int p2), (5, .int a7.2.2.1), (6, .int a7.2.2.2)]) rfl rfl rfl ?_
            refine w_iload (pc2 := 92) rfl rfl rfl ?_
            refine w_istore (pc2 := 94) (ls2 := [(5, .int v10), (4, .int v19), (3, .int v14), (9, .int v14), (8, .int v12), (7, .int v10), (0, .ref 206), (1, .int p1), (2, .int p2), (6, .int a7.2.2.2)]) rfl rfl rfl ?_
            exact j_norm (l := [(0, .ref 206), (1, .int p1), (2, .int p2), (3, .int v14), (4, .int v19), (5, .int v10), (6, .int a7.2.2.2)]) ⟨rfl, rfl, rfl, rfl, rfl, rfl, rfl, trivial⟩ (zz_nd_of (ks := [0, 1, 2, 3, 4, 5, 6]) rfl (by decide)) (hk17 (v14, v19, v10) s13 hF)
noncomputable def f_State_begin_B63 (o1 : Nat) (a7 : Int32) (s8 : ZS) (g9 : Int32 → ZS → Option (ZS)) : Option (ZS) := (if (30 : Int32) ≤ a7 then some s8 else zwa s8 (o1 + 4) 30 a7 (0 : Int32) (fun (s10 : ZS) => g9 (a7 + (1 : Int32)) s10))
noncomputable def f_State_begin_B12 (o1 : Nat) (o2 : Nat) (k6 : ZS → Option (ZS)) (a11 : Int32) (s12 : ZS) (g13 : Int32 → ZS → Option (ZS)) : Option (ZS) := (if (5 : Int32) ≤ a11 then k6 s12 else zgi (s12.1 o2 3) (fun (v14 : Int32) => zjn (A := Int32) (fun (a16 : Int32) (s15 : ZS) => zwa s15 (o1 + 1) 5 a11 a16 (fun (s18 : ZS) => zwa s18 (o1 + 2) 5 a11 (0 : Int32) (fun (s19 : ZS) => zwa s19 (o1 + 3) 5 a11 (0 : Int32) (fun (s20 : ZS) => g13 (a11 + (1 : Int32)) s20)))) (fun (k17 : Int32 → ZS → Option (ZS)) => (if v14 ≤ a11 then k17 (0 : Int32) s12 else zrd 5 a11 (s12.1 (o2 + 1)) (fun (v21 : Int32) => k17 v21 s12)))))
noncomputable def f_State_begin (o1 : Nat) (o2 : Nat) (s0 : ZS) : Option (ZS) := zwi s0 o1 0 (0 : Int32) (fun (s3 : ZS) => zwi s3 o1 1 (0 : Int32) (fun (s4 : ZS) => zj0 (fun (s5 : ZS) => zlp zN (f_State_begin_B63 o1) (0 : Int32) s5) (fun (k6 : ZS → Option (ZS)) => zlp zN (f_State_begin_B12 o1 o2 k6) (0 : Int32) s4)))
set_option maxHeartbeats 4000000 in
set_option maxRecDepth 100000 in
theorem ok_State_begin {L : Nat} {xs : Nat → Int32} {b : ZH} {o1 : Nat} {o2 : Nat} (ho1 : zk_isState o1) (ho2 : zk_isSmithy o2) {s0 : ZS} {w : ZS} (hF : f_State_begin o1 o2 s0 = some w) : zz_ct zt_ms zt_nm zt_df (zt_X L xs) 0 zt_m84 [.ref o1, .ref o2] (zk b s0) (qV b w) := by
  unfold f_State_begin at hF
  change zz_wp zt_ms zt_nm zt_df (zt_X L xs) 0 zt_m84 0 [(0, .ref o1), (1, .ref o2)] [] (zk b s0) (qV b w)
  refine w_aload_n (pc2 := 1) rfl rfl rfl ?_
  refine w_iconst (pc2 := 2) rfl rfl ?_
  refine j_puti (pc2 := 5) (j := 0) rfl (zk_cState ho1) rfl (Nat.le_of_ble_eq_true rfl) rfl (zk_wState_0 ho1) (by have := ho1.k.1; omega) rfl hF (fun s3 hF => ?_)
  refine w_aload_n (pc2 := 6) rfl rfl rfl ?_
  refine w_iconst (pc2 := 7) rfl rfl ?_
  refine j_puti (pc2 := 10) (j := 1) rfl (zk_cState ho1) rfl (Nat.le_of_ble_eq_true rfl) rfl (zk_wState_1 ho1) (by have := ho1.k.1; omega) rfl hF (fun s4 hF => ?_)
  refine w_iconst (pc2 := 11) rfl rfl ?_
  refine w_istore_n (pc2 := 12) (ls2 := [(2, .int (0 : Int32)), (0, .ref o1), (1, .ref o2)]) rfl rfl rfl ?_
  refine j_join0 (P := fun (s5 : ZS) => zz_wp zt_ms zt_nm zt_df (zt_X L xs) 0 zt_m84 61 [(0, .ref o1)] [] (zk b s5) (qV b w)) hF (fun s5 hF => ?_) (fun k6 hk6 hF => ?_)
  · refine w_iconst (pc2 := 62) rfl rfl ?_
    refine w_istore_n (pc2 := 63) (ls2 := [(2, .int (0 : Int32)), (0, .ref o1)]) rfl rfl rfl ?_
    refine j_norm (l := [(0, .ref o1), (2, .int (0 : Int32))]) ⟨rfl, rfl, trivial⟩ (zz_nd_of (ks := [0, 2]) rfl (by decide)) ?_
    refine j_loop (P := fun (a7 : Int32) (s8 : ZS) => zz_wp zt_ms zt_nm zt_df (zt_X L xs) 0 zt_m84 63 [(0, .ref o1), (2, .int a7)] [] (zk b s8) (qV b w)) hF (fun a7 s8 g9 hg9 hF => ?_)
    unfold f_State_begin_B63 at hF
    refine w_iload_n (pc2 := 64) rfl rfl rfl ?_
    refine w_bipush (pc2 := 66) rfl rfl ?_
    refine j_icmp_ge (pc2 := 69) rfl rfl hF (fun hF => ?_) (fun hF => ?_)
    · exact j_vret rfl rfl hF
    · refine w_aload_n (pc2 := 70) rfl rfl rfl ?_
      refine w_getfield (pc2 := 73) rfl (zk_cState ho1) rfl rfl rfl ?_
      refine w_iload_n (pc2 := 74) rfl rfl rfl ?_
      refine w_iconst (pc2 := 75) rfl rfl ?_
      refine j_iastore (pc2 := 76) (n := 30) rfl ho1.k.2.2.2.2.2 (by omega) (by have := ho1.k.1; omega) rfl hF (fun s10 hF => ?_)
      refine w_iinc (pc2 := 79) (ls2 := [(2, .int ((a7 + (1 : Int32)))), (0, .ref o1)]) rfl rfl rfl rfl ?_
      refine w_goto rfl ?_
      exact j_norm (l := [(0, .ref o1), (2, .int ((a7 + (1 : Int32))))]) ⟨rfl, rfl, trivial⟩ (zz_nd_of (ks := [0, 2]) rfl (by decide)) (hg9 (a7 + (1 : Int32)) s10 hF)
  · refine j_norm (l := [(0, .ref o1), (1, .ref o2), (2, .int (0 : Int32))]) ⟨rfl, rfl, rfl, trivial⟩ (zz_nd_of (ks := [0, 1, 2]) rfl (by decide)) ?_
    refine j_loop (P := fun (a11 : Int32) (s12 : ZS) => zz_wp zt_ms zt_nm zt_df (zt_X L xs) 0 zt_m84 12 [(0, .ref o1), (1, .ref o2), (2, .int a11)] [] (zk b s12) (qV b w)) hF (fun a11 s12 g13 hg13 hF => ?_)
    unfold f_State_begin_B12 at hF
    refine w_iload_n (pc2 := 13) rfl rfl rfl ?_
    refine w_iconst (pc2 := 14) rfl rfl ?_
    refine j_icmp_ge (pc2 := 17) rfl rfl hF (fun hF => ?_) (fun hF => ?_)
    · exact j_norm (l := [(0, .ref o1)]) ⟨rfl, trivial⟩ (zz_nd_of (ks := [0]) rfl (by decide)) (hk6 s12 hF)
    · refine w_aload_n (pc2 := 18) rfl rfl rfl ?_
      refine w_getfield (pc2 := 21) rfl (zk_cState ho1) rfl rfl rfl ?_
      refine w_iload_n (pc2 := 22) rfl rfl rfl ?_
      refine w_iload_n (pc2 := 23) rfl rfl rfl ?_
      refine w_aload_n (pc2 := 24) rfl rfl rfl ?_
      refine j_geti (pc2 := 27) rfl (zk_cSmithy ho2) rfl rfl rfl hF (fun v14 hF => ?_)
      refine j_join (P := fun (a16 : Int32) (s15 : ZS) => zz_wp zt_ms zt_nm zt_df (zt_X L xs) 0 zt_m84 40 [(0, .ref o1), (1, .ref o2), (2, .int a11)] [.int a16, .int a11, .ref (o1 + 1)] (zk b s15) (qV b w)) hF (fun a16 s15 hF => ?_) (fun k17 hk17 hF => ?_)
      · refine j_iastore (pc2 := 41) (n := 5) rfl ho1.k.2.2.1 (by omega) (by have := ho1.k.1; omega) rfl hF (fun s18 hF => ?_)
        refine w_aload_n (pc2 := 42) rfl rfl rfl ?_
        refine w_getfield (pc2 := 45) rfl (zk_cState ho1) rfl rfl rfl ?_
        refine w_iload_n (pc2 := 46) rfl rfl rfl ?_
        refine w_iconst (pc2 := 47) rfl rfl ?_
        refine j_iastore (pc2 := 48) (n := 5) rfl ho1.k.2.2.2.1 (by omega) (by have := ho1.k.1; omega) rfl hF (fun s19 hF => ?_)
        refine w_aload_n (pc2 := 49) rfl rfl rfl ?_
        refine w_getfield (pc2 := 52) rfl (zk_cState ho1) rfl rfl rfl ?_
        refine w_iload_n (pc2 := 53) rfl rfl rfl ?_
        refine w_iconst (pc2 := 54) rfl rfl ?_
        refine j_iastore (pc2 := 55) (n := 5) rfl ho1.k.2.2.2.2.1 (by omega) (by have := ho1.k.1; omega) rfl hF (fun s20 hF => ?_)
        refine w_iinc (pc2 := 58) (ls2 := [(2, .int ((a11 + (1 : Int32)))), (0, .ref o1), (1, .ref o2)]) rfl rfl rfl rfl ?_
        refine w_goto rfl ?_
        exact j_norm (l := [(0, .ref o1), (1, .ref o2), (2, .int ((a11 + (1 : Int32))))]) ⟨rfl, rfl, rfl, trivial⟩ (zz_nd_of (ks := [0, 1, 2]) rfl (by decide)) (hg13 (a11 + (1 : Int32)) s20 hF)
      · refine j_icmp_ge (pc2 := 30) rfl rfl hF (fun hF => ?_) (fun hF => ?_)
        · refine w_iconst (pc2 := 40) rfl rfl ?_
          exact j_norm (l := [(0, .ref o1), (1, .ref o2), (2, .int a11)]) ⟨rfl, rfl, rfl, trivial⟩ (zz_nd_of (ks := [0, 1, 2]) rfl (by decide)) (hk17 (0 : Int32) s12 hF)
        · refine w_aload_n (pc2 := 31) rfl rfl rfl ?_
          refine w_getfield (pc2 := 34) rfl (zk_cSmithy ho2) rfl rfl rfl ?_
          refine w_iload_n (pc2 := 35) rfl rfl rfl ?_
          refine j_iaload (pc2 := 36) (n := 5) rfl ho2.k.2.2.1 (by omega) (by have := ho2.k.1; omega) rfl hF (fun v21 hF => ?_)
          refine w_goto rfl ?_
          exact j_norm (l := [(0, .ref o1), (1, .ref o2), (2, .int a11)]) ⟨rfl, rfl, rfl, trivial⟩ (zz_nd_of (ks := [0, 1, 2]) rfl (by decide)) (hk17 v21 s12 hF)
noncomputable def f_Fore_lastNoted_B4 (a1 : Int32 × Int32) (s2 : ZS) (g3 : (Int32 × Int32) → ZS → Option (Int32 × ZS)) : Option (Int32 × ZS) := zgi (s2.1 3 5) (fun (v4 : Int32) => (if v4 ≤ a1.2 then some (a1.1, s2) else zrd 10 a1.2 (s2.1 15) (fun (v5 : Int32) => g3 ((if a1.1 < v5 then v5 else a1.1), (a1.2 + (1 : Int32))) s2)))
noncomputable def f_Fore_lastNoted (s0 : ZS) : Option (Int32 × ZS) := zlp zN (f_Fore_lastNoted_B4) ((-1 : Int32), (0 : Int32)) s0
set_option maxHeartbeats 4000000 in
set_option maxRecDepth 100000 in
theorem ok_Fore_lastNoted {L : Nat} {xs : Nat → Int32} {b : ZH} {s0 : ZS} {w : Int32 × ZS} (hF : f_Fore_lastNoted s0 = some w) : zz_ct zt_ms zt_nm zt_df (zt_X L xs) 0 zt_m14 [.ref 206] (zk b s0) (qI b w) := by
  unfold f_Fore_lastNoted at hF
  change zz_wp zt_ms zt_nm zt_df (zt_X L xs) 0 zt_m14 0 [(0, .ref 206)] [] (zk b s0) (qI b w)
  refine w_iconst (pc2 := 1) rfl rfl ?_
  refine w_istore_n (pc2 := 2) (ls2 := [(1, .int (-1 : Int32)), (0, .ref 206)]) rfl rfl rfl ?_
  refine w_iconst (pc2 := 3) rfl rfl ?_
  refine w_istore_n (pc2 := 4) (ls2 := [(2, .int (0 : Int32)), (1, .int (-1 : Int32)), (0, .ref 206)]) rfl rfl rfl ?_
  refine j_norm (l := [(0, .ref 206), (1, .int (-1 : Int32)), (2, .int (0 : Int32))]) ⟨rfl, rfl, rfl, trivial⟩ (zz_nd_of (ks := [0, 1, 2]) rfl (by decide)) ?_
  refine j_loop (P := fun (a1 : Int32 × Int32) (s2 : ZS) => zz_wp zt_ms zt_nm zt_df (zt_X L xs) 0 zt_m14 4 [(0, .ref 206), (1, .int a1.1), (2, .int a1.2)] [] (zk b s2) (qI b w)) hF (fun a1 s2 g3 hg3 hF => ?_)
  unfold f_Fore_lastNoted_B4 at hF
  refine w_iload_n (pc2 := 5) rfl rfl rfl ?_
  refine w_aload_n (pc2 := 6) rfl rfl rfl ?_
  refine w_getfield (pc2 := 9) rfl zk_cFore rfl rfl rfl ?_
  refine j_geti (pc2 := 12) rfl (zk_cWorld zk_w3) rfl rfl rfl hF (fun v4 hF => ?_)
  refine j_icmp_ge (pc2 := 15) rfl rfl hF (fun hF => ?_) (fun hF => ?_)
  · refine w_iload_n (pc2 := 36) rfl rfl rfl ?_
    exact j_iret rfl rfl hF
  · refine w_iload_n (pc2 := 16) rfl rfl rfl ?_
    refine w_aload_n (pc2 := 17) rfl rfl rfl ?_
    refine w_getfield (pc2 := 20) rfl zk_cFore rfl rfl rfl ?_
    refine w_getfield (pc2 := 23) rfl (zk_cWorld zk_w3) rfl rfl rfl ?_
    refine w_iload_n (pc2 := 24) rfl rfl rfl ?_
    refine j_iaload (pc2 := 25) (n := 10) rfl rfl (by omega) (by decide) rfl hF (fun v5 hF => ?_)
    refine w_max (pc2 := 28) rfl (Nat.le_of_ble_eq_true rfl) rfl ?_
    refine w_istore_n (pc2 := 29) (ls2 := [(1, .int (if a1.1 < v5 then v5 else a1.1)), (0, .ref 206), (2, .int a1.2)]) rfl rfl rfl ?_
    refine w_iinc (pc2 := 32) (ls2 := [(2, .int ((a1.2 + (1 : Int32)))), (1, .int (if a1.1 < v5 then v5 else a1.1)), (0, .ref 206)]) rfl rfl rfl rfl ?_
    refine w_goto rfl ?_
    exact j_norm (l := [(0, .ref 206), (1, .int (if a1.1 < v5 then v5 else a1.1)), (2, .int ((a1.2 + (1 : Int32))))]) ⟨rfl, rfl, rfl, trivial⟩ (zz_nd_of (ks := [0, 1, 2]) rfl (by decide)) (hg3 ((if a1.1 < v5 then v5 else a1.1), (a1.2 + (1 : Int32))) s2 hF)
noncomputable def f_Fore_notesHold_B2 (p1 : Int32) (a2 : Int32) (s3 : ZS) (g4 : Int32 → ZS → Option (Int32 × ZS)) : Option (Int32 × ZS) := zgi (s3.1 3 5) (fun (v5 : Int32) => (if v5 ≤ a2 then zbl (1 : Int32) s3 else zrd 10 a2 (s3.1 15) (fun (v6 : Int32) => zj0 (fun (s7 : ZS) => g4 (a2 + (1 : Int32)) s7) (fun (k8 : ZS → Option (Int32 × ZS)) => (if ¬ v6 = p1 then k8 s3 else zrd 10 a2 (s3.1 16) (fun (v9 : Int32) => zrd 5 v9 (s3.1 209) (fun (v10 : Int32) => zrd 10 a2 (s3.1 17) (fun (v11 : Int32) => (if v10 = v11 then k8 s3 else zbl (0 : Int32) s3)))))))))
noncomputable def f_Fore_notesHold (p1 : Int32) (s0 : ZS) : Option (Int32 × ZS) := zlp zN (f_Fore_notesHold_B2 p1) (0 : Int32) s0
set_option maxHeartbeats 4000000 in
set_option maxRecDepth 100000 in
theorem ok_Fore_notesHold {L : Nat} {xs : Nat → Int32} {b : ZH} {p1 : Int32} {s0 : ZS} {w : Int32 × ZS} (hF : f_Fore_notesHold p1 s0 = some w) : zz_ct zt_ms zt_nm zt_df (zt_X L xs) 0 zt_m15 [.ref 206, .int p1] (zk b s0) (qI b w) := by
  unfold f_Fore_notesHold at hF
  change zz_wp zt_ms zt_nm zt_df (zt_X L xs) 0 zt_m15 0 [(0, .ref 206), (1, .int p1)] [] (zk b s0) (qI b w)
  refine w_iconst (pc2 := 1) rfl rfl ?_
  refine w_istore_n (pc2 := 2) (ls2 := [(2, .int (0 : Int32)), (0, .ref 206), (1, .int p1)]) rfl rfl rfl ?_
  refine j_norm (l := [(0, .ref 206), (1, .int p1), (2, .int (0 : Int32))]) ⟨rfl, rfl, rfl, trivial⟩ (zz_nd_of (ks := [0, 1, 2]) rfl (by decide)) ?_
  refine j_loop (P := fun (a2 : Int32) (s3 : ZS) => zz_wp zt_ms zt_nm zt_df (zt_X L xs) 0 zt_m15 2 [(0, .ref 206), (1, .int p1), (2, .int a2)] [] (zk b s3) (qI b w)) hF (fun a2 s3 g4 hg4 hF => ?_)
  unfold f_Fore_notesHold_B2 at hF
  refine w_iload_n (pc2 := 3) rfl rfl rfl ?_
  refine w_aload_n (pc2 := 4) rfl rfl rfl ?_
  refine w_getfield (pc2 := 7) rfl zk_cFore rfl rfl rfl ?_
  refine j_geti (pc2 := 10) rfl (zk_cWorld zk_w3) rfl rfl rfl hF (fun v5 hF => ?_)
  refine j_icmp_ge (pc2 := 13) rfl rfl hF (fun hF => ?_) (fun hF => ?_)
  · refine w_iconst (pc2 := 64) rfl rfl ?_
    exact j_zret rfl rfl hF
  · refine w_aload_n (pc2 := 14) rfl rfl rfl ?_
    refine w_getfield (pc2 := 17) rfl zk_cFore rfl rfl rfl ?_
    refine w_getfield (pc2 := 20) rfl (zk_cWorld zk_w3) rfl rfl rfl ?_
    refine w_iload_n (pc2 := 21) rfl rfl rfl ?_
    refine j_iaload (pc2 := 22) (n := 10) rfl rfl (by omega) (by decide) rfl hF (fun v6 hF => ?_)
    refine w_iload_n (pc2 := 23) rfl rfl rfl ?_
    refine j_join0 (P := fun (s7 : ZS) => zz_wp zt_ms zt_nm zt_df (zt_X L xs) 0 zt_m15 57 [(0, .ref 206), (1, .int p1), (2, .int a2)] [] (zk b s7) (qI b w)) hF (fun s7 hF => ?_) (fun k8 hk8 hF => ?_)
    · refine w_iinc (pc2 := 60) (ls2 := [(2, .int ((a2 + (1 : Int32)))), (0, .ref 206), (1, .int p1)]) rfl rfl rfl rfl ?_
      refine w_goto rfl ?_
      exact j_norm (l := [(0, .ref 206), (1, .int p1), (2, .int ((a2 + (1 : Int32))))]) ⟨rfl, rfl, rfl, trivial⟩ (zz_nd_of (ks := [0, 1, 2]) rfl (by decide)) (hg4 (a2 + (1 : Int32)) s7 hF)
    · refine j_icmp_ne (pc2 := 26) rfl rfl hF (fun hF => ?_) (fun hF => ?_)
      · exact j_norm (l := [(0, .ref 206), (1, .int p1), (2, .int a2)]) ⟨rfl, rfl, rfl, trivial⟩ (zz_nd_of (ks := [0, 1, 2]) rfl (by decide)) (hk8 s3 hF)
      · refine w_aload_n (pc2 := 27) rfl rfl rfl ?_
        refine w_getfield (pc2 := 30) rfl zk_cFore rfl rfl rfl ?_
        refine w_getfield (pc2 := 33) rfl (zk_cState zk_st207) rfl rfl rfl ?_
        refine w_aload_n (pc2 := 34) rfl rfl rfl ?_
        refine w_getfield (pc2 := 37) rfl zk_cFore rfl rfl rfl ?_
        refine w_getfield (pc2 := 40) rfl (zk_cWorld zk_w3) rfl rfl rfl ?_
        refine w_iload_n (pc2 := 41) rfl rfl rfl ?_
        refine j_iaload (pc2 := 42) (n := 10) rfl rfl (by omega) (by decide) rfl hF (fun v9 hF => ?_)
        refine j_iaload (pc2 := 43) (n := 5) rfl rfl (by omega) (by decide) rfl hF (fun v10 hF => ?_)
        refine w_aload_n (pc2 := 44) rfl rfl rfl ?_
        refine w_getfield (pc2 := 47) rfl zk_cFore rfl rfl rfl ?_
        refine w_getfield (pc2 := 50) rfl (zk_cWorld zk_w3) rfl rfl rfl ?_
        refine w_iload_n (pc2 := 51) rfl rfl rfl ?_
        refine j_iaload (pc2 := 52) (n := 10) rfl rfl (by omega) (by decide) rfl hF (fun v11 hF => ?_)
        refine j_icmp_eq (pc2 := 55) rfl rfl hF (fun hF => ?_) (fun hF => ?_)
        · exact j_norm (l := [(0, .ref 206), (1, .int p1), (2, .int a2)]) ⟨rfl, rfl, rfl, trivial⟩ (zz_nd_of (ks := [0, 1, 2]) rfl (by decide)) (hk8 s3 hF)
        · refine w_iconst (pc2 := 56) rfl rfl ?_
          exact j_zret rfl rfl hF
noncomputable def f_Fore_fitsNotes_B34 (p2 : Int32) (v6 : Int32) (a7 : Int32) (s8 : ZS) (g9 : Int32 → ZS → Option (Int32 × ZS)) : Option (Int32 × ZS) := (if (if p2 < v6 then v6 else p2) < a7 then zbl (1 : Int32) s8 else zcl (f_Mill_passDay 207 s8) (fun (v11 : Int32) (s10 : ZS) => zcl (f_Fore_notesHold a7 s10) (fun (v13 : Int32) (s12 : ZS) => (if ¬ v13 = 0 then zj0 (fun (s14 : ZS) => g9 (a7 + (1 : Int32)) s14) (fun (k15 : ZS → Option (Int32 × ZS)) => (if ¬ a7 = p2 then k15 s12 else zgi (s12.1 206 4) (fun (v16 : Int32) => zcp s12 209 5 212 35 (0 : Int32) ((v16 * (5 : Int32))) (5 : Int32) (fun (s17 : ZS) => k15 s17)))) else zbl (0 : Int32) s12))))
noncomputable def f_Fore_fitsNotes (p1 : Int32) (p2 : Int32) (s0 : ZS) : Option (Int32 × ZS) := zcv (f_State_begin 207 4 s0) (fun (s3 : ZS) => zcv (f_Mill_under p1 s3) (fun (s4 : ZS) => zcl (f_Fore_lastNoted s4) (fun (v6 : Int32) (s5 : ZS) => zlp zN (f_Fore_fitsNotes_B34 p2 v6) (0 : Int32) s5)))
set_option maxHeartbeats 4000000 in
set_option maxRecDepth 100000 in
theorem ok_Fore_fitsNotes {L : Nat} {xs : Nat → Int32} {b : ZH} {p1 : Int32} {p2 : Int32} {s0 : ZS} {w : Int32 × ZS} (hF : f_Fore_fitsNotes p1 p2 s0 = some w) : zz_ct zt_ms zt_nm zt_df (zt_X L xs) 4 zt_m13 [.ref 206, .int p1, .int p2] (zk b s0) (qI b w) := by
  unfold f_Fore_fitsNotes at hF
  change zz_wp zt_ms zt_nm zt_df (zt_X L xs) 4 zt_m13 0 [(0, .ref 206), (1, .int p1), (2, .int p2)] [] (zk b s0) (qI b w)
  refine w_aload_n (pc2 := 1) rfl rfl rfl ?_
  refine w_getfield (pc2 := 4) rfl zk_cFore rfl rfl rfl ?_
  refine w_aload_n (pc2 := 5) rfl rfl rfl ?_
  refine w_getfield (pc2 := 8) rfl zk_cFore rfl rfl rfl ?_
  refine w_getfield (pc2 := 11) rfl (zk_cWorld zk_w3) rfl rfl rfl ?_
  refine j_cVv (pc2 := 14) (k := 0) (c := zt_m84) (as := [.ref 207, .ref 4]) (rest := []) rfl rfl rfl rfl (zk_cState zk_st207).look rfl (Nat.le_of_ble_eq_true rfl) (Nat.le_of_ble_eq_true rfl) (fun w1 h1 => ok_State_begin zk_st207 zk_sm4 h1) (by decide) rfl hF (fun s3 hF => ?_)
  refine w_aload_n (pc2 := 15) rfl rfl rfl ?_
  refine w_getfield (pc2 := 18) rfl zk_cFore rfl rfl rfl ?_
  refine w_iload_n (pc2 := 19) rfl rfl rfl ?_
  refine j_cVv (pc2 := 22) (k := 0) (c := zt_m40) (as := [.ref 202, .int p1]) (rest := []) rfl rfl rfl rfl zk_cMill.look rfl (Nat.le_of_ble_eq_true rfl) (Nat.le_of_ble_eq_true rfl) (fun w1 h1 => ok_Mill_under h1) (by decide) rfl hF (fun s4 hF => ?_)
  refine w_iload_n (pc2 := 23) rfl rfl rfl ?_
  refine w_aload_n (pc2 := 24) rfl rfl rfl ?_
  refine j_cIv (pc2 := 27) (k := 0) (c := zt_m14) (as := [.ref 206]) (rest := [.int p2]) rfl rfl rfl rfl zk_cFore.look rfl (Nat.le_of_ble_eq_true rfl) (Nat.le_of_ble_eq_true rfl) (fun w1 h1 => ok_Fore_lastNoted h1) (by decide) rfl hF (fun v6 s5 hF => ?_)
  refine w_max (pc2 := 30) rfl (Nat.le_of_ble_eq_true rfl) rfl ?_
  refine w_istore_n (pc2 := 31) (ls2 := [(3, .int (if p2 < v6 then v6 else p2)), (0, .ref 206), (1, .int p1), (2, .int p2)]) rfl rfl rfl ?_
  refine w_iconst (pc2 := 32) rfl rfl ?_
  refine w_istore (pc2 := 34) (ls2 := [(4, .int (0 : Int32)), (3, .int (if p2 < v6 then v6 else p2)), (0, .ref 206), (1, .int p1), (2, .int p2)]) rfl rfl rfl ?_
  refine j_norm (l := [(0, .ref 206), (2, .int p2), (3, .int (if p2 < v6 then v6 else p2)), (4, .int (0 : Int32))]) ⟨rfl, rfl, rfl, rfl, trivial⟩ (zz_nd_of (ks := [0, 2, 3, 4]) rfl (by decide)) ?_
  refine j_loop (P := fun (a7 : Int32) (s8 : ZS) => zz_wp zt_ms zt_nm zt_df (zt_X L xs) 4 zt_m13 34 [(0, .ref 206), (2, .int p2), (3, .int (if p2 < v6 then v6 else p2)), (4, .int a7)] [] (zk b s8) (qI b w)) hF (fun a7 s8 g9 hg9 hF => ?_)
  unfold f_Fore_fitsNotes_B34 at hF
  refine w_iload (pc2 := 36) rfl rfl rfl ?_
  refine w_iload_n (pc2 := 37) rfl rfl rfl ?_
  refine j_icmp_gt (pc2 := 40) rfl rfl hF (fun hF => ?_) (fun hF => ?_)
  · refine w_iconst (pc2 := 98) rfl rfl ?_
    exact j_zret rfl rfl hF
  · refine w_aload_n (pc2 := 41) rfl rfl rfl ?_
    refine w_getfield (pc2 := 44) rfl zk_cFore rfl rfl rfl ?_
    refine w_aload_n (pc2 := 45) rfl rfl rfl ?_
    refine w_getfield (pc2 := 48) rfl zk_cFore rfl rfl rfl ?_
    refine j_cIv (pc2 := 51) (k := 3) (c := zt_m41) (as := [.ref 202, .ref 207]) (rest := []) rfl rfl rfl rfl zk_cMill.look rfl (Nat.le_of_ble_eq_true rfl) (Nat.le_of_ble_eq_true rfl) (fun w1 h1 => ok_Mill_passDay zk_st207 h1) (by decide) rfl hF (fun v11 s10 hF => ?_)
    refine w_pop (pc2 := 52) rfl rfl rfl ?_
    refine w_aload_n (pc2 := 53) rfl rfl rfl ?_
    refine w_iload (pc2 := 55) rfl rfl rfl ?_
    refine j_cIv (pc2 := 58) (k := 0) (c := zt_m15) (as := [.ref 206, .int a7]) (rest := []) rfl rfl rfl rfl zk_cFore.look rfl (Nat.le_of_ble_eq_true rfl) (Nat.le_of_ble_eq_true rfl) (fun w1 h1 => ok_Fore_notesHold h1) (by decide) rfl hF (fun v13 s12 hF => ?_)
    refine j_if_ne (pc2 := 61) rfl rfl hF (fun hF => ?_) (fun hF => ?_)
    · refine w_iload (pc2 := 65) rfl rfl rfl ?_
      refine w_iload_n (pc2 := 66) rfl rfl rfl ?_
      refine j_join0 (P := fun (s14 : ZS) => zz_wp zt_ms zt_nm zt_df (zt_X L xs) 4 zt_m13 91 [(0, .ref 206), (2, .int p2), (3, .int (if p2 < v6 then v6 else p2)), (4, .int a7)] [] (zk b s14) (qI b w)) hF (fun s14 hF => ?_) (fun k15 hk15 hF => ?_)
      · refine w_iinc (pc2 := 94) (ls2 := [(4, .int ((a7 + (1 : Int32)))), (0, .ref 206), (2, .int p2), (3, .int (if p2 < v6 then v6 else p2))]) rfl rfl rfl rfl ?_
        refine w_goto rfl ?_
        exact j_norm (l := [(0, .ref 206), (2, .int p2), (3, .int (if p2 < v6 then v6 else p2)), (4, .int ((a7 + (1 : Int32))))]) ⟨rfl, rfl, rfl, rfl, trivial⟩ (zz_nd_of (ks := [0, 2, 3, 4]) rfl (by decide)) (hg9 (a7 + (1 : Int32)) s14 hF)
      · refine j_icmp_ne (pc2 := 69) rfl rfl hF (fun hF => ?_) (fun hF => ?_)
        · exact j_norm (l := [(0, .ref 206), (2, .int p2), (3, .int (if p2 < v6 then v6 else p2)), (4, .int a7)]) ⟨rfl, rfl, rfl, rfl, trivial⟩ (zz_nd_of (ks := [0, 2, 3, 4]) rfl (by decide)) (hk15 s12 hF)
        · refine w_aload_n (pc2 := 70) rfl rfl rfl ?_
          refine w_getfield (pc2 := 73) rfl zk_cFore rfl rfl rfl ?_
          refine w_getfield (pc2 := 76) rfl (zk_cState zk_st207) rfl rfl rfl ?_
          refine w_iconst (pc2 := 77) rfl rfl ?_
          refine w_aload_n (pc2 := 78) rfl rfl rfl ?_
          refine w_getfield (pc2 := 81) rfl zk_cFore rfl rfl rfl ?_
          refine w_aload_n (pc2 := 82) rfl rfl rfl ?_
          refine j_geti (pc2 := 85) rfl zk_cFore rfl rfl rfl hF (fun v16 hF => ?_)
          refine w_iconst (pc2 := 86) rfl rfl ?_
          refine w_imul (pc2 := 87) rfl rfl ?_
          refine w_iconst (pc2 := 88) rfl rfl ?_
          refine j_copy (pc2 := 91) (k0 := 5) (k1 := 35) rfl rfl (by decide) (by decide) rfl (by decide) (by decide) (Nat.le_of_ble_eq_true rfl) rfl hF (fun s17 hF => ?_)
          exact j_norm (l := [(0, .ref 206), (2, .int p2), (3, .int (if p2 < v6 then v6 else p2)), (4, .int a7)]) ⟨rfl, rfl, rfl, rfl, trivial⟩ (zz_nd_of (ks := [0, 2, 3, 4]) rfl (by decide)) (hk15 s17 hF)
    · refine w_iconst (pc2 := 62) rfl rfl ?_
      exact j_zret rfl rfl hF
noncomputable def f_Fore_findFits_B13 (p1 : Int32) (p2 : Int32) (a5 : Int32) (s6 : ZS) (g7 : Int32 → ZS → Option (ZS)) : Option (ZS) := (if p1 ≤ a5 then some s6 else (if (6 : Int32) ≤ a5 then some s6 else zcl (f_Fore_fitsNotes a5 p2 s6) (fun (v9 : Int32) (s8 : ZS) => zj0 (fun (s10 : ZS) => g7 (a5 + (1 : Int32)) s10) (fun (k11 : ZS → Option (ZS)) => (if v9 = 0 then k11 s8 else zgi (s8.1 206 4) (fun (v12 : Int32) => zj0 (fun (s13 : ZS) => zgi (s13.1 206 4) (fun (v15 : Int32) => zwi s13 206 4 ((v15 + (1 : Int32))) (fun (s16 : ZS) => k11 s16))) (fun (k14 : ZS → Option (ZS)) => (if ¬ v12 = 0 then k14 s8 else zwi s8 206 5 a5 (fun (s17 : ZS) => k14 s17)))))))))
noncomputable def f_Fore_findFits (p1 : Int32) (p2 : Int32) (s0 : ZS) : Option (ZS) := zwi s0 206 4 (0 : Int32) (fun (s3 : ZS) => zwi s3 206 5 (-2 : Int32) (fun (s4 : ZS) => zlp zN (f_Fore_findFits_B13 p1 p2) (-1 : Int32) s4))
set_option maxHeartbeats 4000000 in
set_option maxRecDepth 100000 in
theorem ok_Fore_findFits {L : Nat} {xs : Nat → Int32} {b : ZH} {p1 : Int32} {p2 : Int32} {s0 : ZS} {w : ZS} (hF : f_Fore_findFits p1 p2 s0 = some w) : zz_ct zt_ms zt_nm zt_df (zt_X L xs) 5 zt_m12 [.ref 206, .int p1, .int p2] (zk b s0) (qV b w) := by
  unfold f_Fore_findFits at hF
  change zz_wp zt_ms zt_nm zt_df (zt_X L xs) 5 zt_m12 0 [(0, .ref 206), (1, .int p1), (2, .int p2)] [] (zk b s0) (qV b w)
  refine w_aload_n (pc2 := 1) rfl rfl rfl ?_
  refine w_iconst (pc2 := 2) rfl rfl ?_
  refine j_puti (pc2 := 5) (j := 4) rfl zk_cFore rfl (Nat.le_of_ble_eq_true rfl) rfl zk_wFore_4 (by decide) rfl hF (fun s3 hF => ?_)
  refine w_aload_n (pc2 := 6) rfl rfl rfl ?_
  refine w_bipush (pc2 := 8) rfl rfl ?_
  refine j_puti (pc2 := 11) (j := 5) rfl zk_cFore rfl (Nat.le_of_ble_eq_true rfl) rfl zk_wFore_5 (by decide) rfl hF (fun s4 hF => ?_)
  refine w_iconst (pc2 := 12) rfl rfl ?_
  refine w_istore_n (pc2 := 13) (ls2 := [(3, .int (-1 : Int32)), (0, .ref 206), (1, .int p1), (2, .int p2)]) rfl rfl rfl ?_
  refine j_norm (l := [(0, .ref 206), (1, .int p1), (2, .int p2), (3, .int (-1 : Int32))]) ⟨rfl, rfl, rfl, rfl, trivial⟩ (zz_nd_of (ks := [0, 1, 2, 3]) rfl (by decide)) ?_
  refine j_loop (P := fun (a5 : Int32) (s6 : ZS) => zz_wp zt_ms zt_nm zt_df (zt_X L xs) 5 zt_m12 13 [(0, .ref 206), (1, .int p1), (2, .int p2), (3, .int a5)] [] (zk b s6) (qV b w)) hF (fun a5 s6 g7 hg7 hF => ?_)
  unfold f_Fore_findFits_B13 at hF
  refine w_iload_n (pc2 := 14) rfl rfl rfl ?_
  refine w_iload_n (pc2 := 15) rfl rfl rfl ?_
  refine j_icmp_ge (pc2 := 18) rfl rfl hF (fun hF => ?_) (fun hF => ?_)
  · exact j_vret rfl rfl hF
  · refine w_iload_n (pc2 := 19) rfl rfl rfl ?_
    refine w_bipush (pc2 := 21) rfl rfl ?_
    refine j_icmp_ge (pc2 := 24) rfl rfl hF (fun hF => ?_) (fun hF => ?_)
    · exact j_vret rfl rfl hF
    · refine w_aload_n (pc2 := 25) rfl rfl rfl ?_
      refine w_iload_n (pc2 := 26) rfl rfl rfl ?_
      refine w_iload_n (pc2 := 27) rfl rfl rfl ?_
      refine j_cIv (pc2 := 30) (k := 4) (c := zt_m13) (as := [.ref 206, .int a5, .int p2]) (rest := []) rfl rfl rfl rfl zk_cFore.look rfl (Nat.le_of_ble_eq_true rfl) (Nat.le_of_ble_eq_true rfl) (fun w1 h1 => ok_Fore_fitsNotes h1) (by decide) rfl hF (fun v9 s8 hF => ?_)
      refine j_join0 (P := fun (s10 : ZS) => zz_wp zt_ms zt_nm zt_df (zt_X L xs) 5 zt_m12 55 [(0, .ref 206), (1, .int p1), (2, .int p2), (3, .int a5)] [] (zk b s10) (qV b w)) hF (fun s10 hF => ?_) (fun k11 hk11 hF => ?_)
      · refine w_iinc (pc2 := 58) (ls2 := [(3, .int ((a5 + (1 : Int32)))), (0, .ref 206), (1, .int p1), (2, .int p2)]) rfl rfl rfl rfl ?_
        refine w_goto rfl ?_
        exact j_norm (l := [(0, .ref 206), (1, .int p1), (2, .int p2), (3, .int ((a5 + (1 : Int32))))]) ⟨rfl, rfl, rfl, rfl, trivial⟩ (zz_nd_of (ks := [0, 1, 2, 3]) rfl (by decide)) (hg7 (a5 + (1 : Int32)) s10 hF)
      · refine j_if_eq (pc2 := 33) rfl rfl hF (fun hF => ?_) (fun hF => ?_)
        · exact j_norm (l := [(0, .ref 206), (1, .int p1), (2, .int p2), (3, .int a5)]) ⟨rfl, rfl, rfl, rfl, trivial⟩ (zz_nd_of (ks := [0, 1, 2, 3]) rfl (by decide)) (hk11 s8 hF)
        · refine w_aload_n (pc2 := 34) rfl rfl rfl ?_
          refine j_geti (pc2 := 37) rfl zk_cFore rfl rfl rfl hF (fun v12 hF => ?_)
          refine j_join0 (P := fun (s13 : ZS) => zz_wp zt_ms zt_nm zt_df (zt_X L xs) 5 zt_m12 45 [(0, .ref 206), (1, .int p1), (2, .int p2), (3, .int a5)] [] (zk b s13) (qV b w)) hF (fun s13 hF => ?_) (fun k14 hk14 hF => ?_)
          · refine w_aload_n (pc2 := 46) rfl rfl rfl ?_
            refine w_dup (pc2 := 47) rfl rfl rfl ?_
            refine j_geti (pc2 := 50) rfl zk_cFore rfl rfl rfl hF (fun v15 hF => ?_)
            refine w_iconst (pc2 := 51) rfl rfl ?_
            refine w_iadd (pc2 := 52) rfl rfl ?_
            refine j_puti (pc2 := 55) (j := 4) rfl zk_cFore rfl (Nat.le_of_ble_eq_true rfl) rfl zk_wFore_4 (by decide) rfl hF (fun s16 hF => ?_)
            exact j_norm (l := [(0, .ref 206), (1, .int p1), (2, .int p2), (3, .int a5)]) ⟨rfl, rfl, rfl, rfl, trivial⟩ (zz_nd_of (ks := [0, 1, 2, 3]) rfl (by decide)) (hk11 s16 hF)
          · refine j_if_ne (pc2 := 40) rfl rfl hF (fun hF => ?_) (fun hF => ?_)
            · exact j_norm (l := [(0, .ref 206), (1, .int p1), (2, .int p2), (3, .int a5)]) ⟨rfl, rfl, rfl, rfl, trivial⟩ (zz_nd_of (ks := [0, 1, 2, 3]) rfl (by decide)) (hk14 s8 hF)
            · refine w_aload_n (pc2 := 41) rfl rfl rfl ?_
              refine w_iload_n (pc2 := 42) rfl rfl rfl ?_
              refine j_puti (pc2 := 45) (j := 5) rfl zk_cFore rfl (Nat.le_of_ble_eq_true rfl) rfl zk_wFore_5 (by decide) rfl hF (fun s17 hF => ?_)
              exact j_norm (l := [(0, .ref 206), (1, .int p1), (2, .int p2), (3, .int a5)]) ⟨rfl, rfl, rfl, rfl, trivial⟩ (zz_nd_of (ks := [0, 1, 2, 3]) rfl (by decide)) (hk14 s17 hF)
noncomputable def f_Fore_mostAlike_B18 (p1 : Int32) (a2 : Int32 × Int32) (k8 : Int32 → ZS → Option (Int32 × ZS)) (a9 : Int32 × Int32) (s10 : ZS) (g11 : (Int32 × Int32) → ZS → Option (Int32 × ZS)) : Option (Int32 × ZS) := zgi (s10.1 206 4) (fun (v12 : Int32) => (if v12 ≤ a9.2 then k8 a9.1 s10 else zrd 35 (((a2.2 * (5 : Int32)) + p1)) (s10.1 212) (fun (v13 : Int32) => zrd 35 (((a9.2 * (5 : Int32)) + p1)) (s10.1 212) (fun (v14 : Int32) => zjn (A := Int32) (fun (a16 : Int32) (s15 : ZS) => g11 (a16, (a9.2 + (1 : Int32))) s15) (fun (k17 : Int32 → ZS → Option (Int32 × ZS)) => (if ¬ v13 = v14 then k17 a9.1 s10 else k17 (a9.1 + (1 : Int32)) s10))))))
noncomputable def f_Fore_mostAlike_B4 (p1 : Int32) (a2 : Int32 × Int32) (s3 : ZS) (g4 : (Int32 × Int32) → ZS → Option (Int32 × ZS)) : Option (Int32 × ZS) := zgi (s3.1 206 4) (fun (v5 : Int32) => (if v5 ≤ a2.2 then some (a2.1, s3) else zjn (A := Int32) (fun (a7 : Int32) (s6 : ZS) => g4 ((if a2.1 < a7 then a7 else a2.1), (a2.2 + (1 : Int32))) s6) (fun (k8 : Int32 → ZS → Option (Int32 × ZS)) => zlp zN (f_Fore_mostAlike_B18 p1 a2 k8) ((0 : Int32), (0 : Int32)) s3)))
noncomputable def f_Fore_mostAlike (p1 : Int32) (s0 : ZS) : Option (Int32 × ZS) := zlp zN (f_Fore_mostAlike_B4 p1) ((0 : Int32), (0 : Int32)) s0
set_option maxHeartbeats 4000000 in
set_option maxRecDepth 100000 in
theorem ok_Fore_mostAlike {L : Nat} {xs : Nat → Int32} {b : ZH} {p1 : Int32} {s0 : ZS} {w : Int32 × ZS} (hF : f_Fore_mostAlike p1 s0 = some w) : zz_ct zt_ms zt_nm zt_df (zt_X L xs) 0 zt_m17 [.ref 206, .int p1] (zk b s0) (qI b w) := by
  unfold f_Fore_mostAlike at hF
  change zz_wp zt_ms zt_nm zt_df (zt_X L xs) 0 zt_m17 0 [(0, .ref 206), (1, .int p1)] [] (zk b s0) (qI b w)
  refine w_iconst (pc2 := 1) rfl rfl ?_
  refine w_istore_n (pc2 := 2) (ls2 := [(2, .int (0 : Int32)), (0, .ref 206), (1, .int p1)]) rfl rfl rfl ?_
  refine w_iconst (pc2 := 3) rfl rfl ?_
  refine w_istore_n (pc2 := 4) (ls2 := [(3, .int (0 : Int32)), (2, .int (0 : Int32)), (0, .ref 206), (1, .int p1)]) rfl rfl rfl ?_
  refine j_norm (l := [(0, .ref 206), (1, .int p1), (2, .int (0 : Int32)), (3, .int (0 : Int32))]) ⟨rfl, rfl, rfl, rfl, trivial⟩ (zz_nd_of (ks := [0, 1, 2, 3]) rfl (by decide)) ?_
  refine j_loop (P := fun (a2 : Int32 × Int32) (s3 : ZS) => zz_wp zt_ms zt_nm zt_df (zt_X L xs) 0 zt_m17 4 [(0, .ref 206), (1, .int p1), (2, .int a2.1), (3, .int a2.2)] [] (zk b s3) (qI b w)) hF (fun a2 s3 g4 hg4 hF => ?_)
  unfold f_Fore_mostAlike_B4 at hF
  refine w_iload_n (pc2 := 5) rfl rfl rfl ?_
  refine w_aload_n (pc2 := 6) rfl rfl rfl ?_
  refine j_geti (pc2 := 9) rfl zk_cFore rfl rfl rfl hF (fun v5 hF => ?_)
  refine j_icmp_ge (pc2 := 12) rfl rfl hF (fun hF => ?_) (fun hF => ?_)
  · refine w_iload_n (pc2 := 74) rfl rfl rfl ?_
    exact j_iret rfl rfl hF
  · refine w_iconst (pc2 := 13) rfl rfl ?_
    refine w_istore (pc2 := 15) (ls2 := [(4, .int (0 : Int32)), (0, .ref 206), (1, .int p1), (2, .int a2.1), (3, .int a2.2)]) rfl rfl rfl ?_
    refine w_iconst (pc2 := 16) rfl rfl ?_
    refine w_istore (pc2 := 18) (ls2 := [(5, .int (0 : Int32)), (4, .int (0 : Int32)), (0, .ref 206), (1, .int p1), (2, .int a2.1), (3, .int a2.2)]) rfl rfl rfl ?_
    refine j_join (P := fun (a7 : Int32) (s6 : ZS) => zz_wp zt_ms zt_nm zt_df (zt_X L xs) 0 zt_m17 60 [(0, .ref 206), (1, .int p1), (2, .int a2.1), (3, .int a2.2), (4, .int a7)] [] (zk b s6) (qI b w)) hF (fun a7 s6 hF => ?_) (fun k8 hk8 hF => ?_)
    · refine w_iload_n (pc2 := 61) rfl rfl rfl ?_
      refine w_iload (pc2 := 63) rfl rfl rfl ?_
      refine w_max (pc2 := 66) rfl (Nat.le_of_ble_eq_true rfl) rfl ?_
      refine w_istore_n (pc2 := 67) (ls2 := [(2, .int (if a2.1 < a7 then a7 else a2.1)), (0, .ref 206), (1, .int p1), (3, .int a2.2), (4, .int a7)]) rfl rfl rfl ?_
      refine w_iinc (pc2 := 70) (ls2 := [(3, .int ((a2.2 + (1 : Int32)))), (2, .int (if a2.1 < a7 then a7 else a2.1)), (0, .ref 206), (1, .int p1), (4, .int a7)]) rfl rfl rfl rfl ?_
      refine w_goto rfl ?_
      exact j_norm (l := [(0, .ref 206), (1, .int p1), (2, .int (if a2.1 < a7 then a7 else a2.1)), (3, .int ((a2.2 + (1 : Int32))))]) ⟨rfl, rfl, rfl, rfl, trivial⟩ (zz_nd_of (ks := [0, 1, 2, 3]) rfl (by decide)) (hg4 ((if a2.1 < a7 then a7 else a2.1), (a2.2 + (1 : Int32))) s6 hF)
    · refine j_norm (l := [(0, .ref 206), (1, .int p1), (2, .int a2.1), (3, .int a2.2), (4, .int (0 : Int32)), (5, .int (0 : Int32))]) ⟨rfl, rfl, rfl, rfl, rfl, rfl, trivial⟩ (zz_nd_of (ks := [0, 1, 2, 3, 4, 5]) rfl (by decide)) ?_
      refine j_loop (P := fun (a9 : Int32 × Int32) (s10 : ZS) => zz_wp zt_ms zt_nm zt_df (zt_X L xs) 0 zt_m17 18 [(0, .ref 206), (1, .int p1), (2, .int a2.1), (3, .int a2.2), (4, .int a9.1), (5, .int a9.2)] [] (zk b s10) (qI b w)) hF (fun a9 s10 g11 hg11 hF => ?_)
      unfold f_Fore_mostAlike_B18 at hF
      refine w_iload (pc2 := 20) rfl rfl rfl ?_
      refine w_aload_n (pc2 := 21) rfl rfl rfl ?_
      refine j_geti (pc2 := 24) rfl zk_cFore rfl rfl rfl hF (fun v12 hF => ?_)
      refine j_icmp_ge (pc2 := 27) rfl rfl hF (fun hF => ?_) (fun hF => ?_)
      · exact j_norm (l := [(0, .ref 206), (1, .int p1), (2, .int a2.1), (3, .int a2.2), (4, .int a9.1)]) ⟨rfl, rfl, rfl, rfl, rfl, trivial⟩ (zz_nd_of (ks := [0, 1, 2, 3, 4]) rfl (by decide)) (hk8 a9.1 s10 hF)
      · refine w_aload_n (pc2 := 28) rfl rfl rfl ?_
        refine w_getfield (pc2 := 31) rfl zk_cFore rfl rfl rfl ?_
        refine w_iload_n (pc2 := 32) rfl rfl rfl ?_
        refine w_iconst (pc2 := 33) rfl rfl ?_
        refine w_imul (pc2 := 34) rfl rfl ?_
        refine w_iload_n (pc2 := 35) rfl rfl rfl ?_
        refine w_iadd (pc2 := 36) rfl rfl ?_
        refine j_iaload (pc2 := 37) (n := 35) rfl rfl (by omega) (by decide) rfl hF (fun v13 hF => ?_)
        refine w_aload_n (pc2 := 38) rfl rfl rfl ?_
        refine w_getfield (pc2 := 41) rfl zk_cFore rfl rfl rfl ?_
        refine w_iload (pc2 := 43) rfl rfl rfl ?_
        refine w_iconst (pc2 := 44) rfl rfl ?_
        refine w_imul (pc2 := 45) rfl rfl ?_
        refine w_iload_n (pc2 := 46) rfl rfl rfl ?_
        refine w_iadd (pc2 := 47) rfl rfl ?_
        refine j_iaload (pc2 := 48) (n := 35) rfl rfl (by omega) (by decide) rfl hF (fun v14 hF => ?_)
        refine j_join (P := fun (a16 : Int32) (s15 : ZS) => zz_wp zt_ms zt_nm zt_df (zt_X L xs) 0 zt_m17 54 [(0, .ref 206), (1, .int p1), (2, .int a2.1), (3, .int a2.2), (4, .int a16), (5, .int a9.2)] [] (zk b s15) (qI b w)) hF (fun a16 s15 hF => ?_) (fun k17 hk17 hF => ?_)
        · refine w_iinc (pc2 := 57) (ls2 := [(5, .int ((a9.2 + (1 : Int32)))), (0, .ref 206), (1, .int p1), (2, .int a2.1), (3, .int a2.2), (4, .int a16)]) rfl rfl rfl rfl ?_
          refine w_goto rfl ?_
          exact j_norm (l := [(0, .ref 206), (1, .int p1), (2, .int a2.1), (3, .int a2.2), (4, .int a16), (5, .int ((a9.2 + (1 : Int32))))]) ⟨rfl, rfl, rfl, rfl, rfl, rfl, trivial⟩ (zz_nd_of (ks := [0, 1, 2, 3, 4, 5]) rfl (by decide)) (hg11 (a16, (a9.2 + (1 : Int32))) s15 hF)
        · refine j_icmp_ne (pc2 := 51) rfl rfl hF (fun hF => ?_) (fun hF => ?_)
          · exact j_norm (l := [(0, .ref 206), (1, .int p1), (2, .int a2.1), (3, .int a2.2), (4, .int a9.1), (5, .int a9.2)]) ⟨rfl, rfl, rfl, rfl, rfl, rfl, trivial⟩ (zz_nd_of (ks := [0, 1, 2, 3, 4, 5]) rfl (by decide)) (hk17 a9.1 s10 hF)
          · refine w_iinc (pc2 := 54) (ls2 := [(4, .int ((a9.1 + (1 : Int32)))), (0, .ref 206), (1, .int p1), (2, .int a2.1), (3, .int a2.2), (5, .int a9.2)]) rfl rfl rfl rfl ?_
            exact j_norm (l := [(0, .ref 206), (1, .int p1), (2, .int a2.1), (3, .int a2.2), (4, .int ((a9.1 + (1 : Int32)))), (5, .int a9.2)]) ⟨rfl, rfl, rfl, rfl, rfl, rfl, trivial⟩ (zz_nd_of (ks := [0, 1, 2, 3, 4, 5]) rfl (by decide)) (hk17 (a9.1 + (1 : Int32)) s10 hF)
noncomputable def f_Fore_parting_B16 (k5 : (Int32 × Int32) → ZS → Option (Int32 × ZS)) (a6 : Int32 × Int32 × Int32) (s7 : ZS) (g8 : (Int32 × Int32 × Int32) → ZS → Option (Int32 × ZS)) : Option (Int32 × ZS) := zgi (s7.1 4 3) (fun (v9 : Int32) => (if v9 ≤ a6.2.2 then k5 (a6.1, a6.2.1) s7 else zcl (f_Fore_mostAlike a6.2.2 s7) (fun (v11 : Int32) (s10 : ZS) => zjn (A := Int32 × Int32) (fun (a13 : Int32 × Int32) (s12 : ZS) => g8 (a13.1, a13.2, (a6.2.2 + (1 : Int32))) s12) (fun (k14 : (Int32 × Int32) → ZS → Option (Int32 × ZS)) => zj0 (fun (s15 : ZS) => k14 (a6.2.2, v11) s15) (fun (k16 : ZS → Option (Int32 × ZS)) => (if a6.1 = (-2 : Int32) then k16 s10 else (if a6.2.1 ≤ v11 then k14 (a6.1, a6.2.1) s10 else k16 s10)))))))
noncomputable def f_Fore_parting (p1 : Int32) (s0 : ZS) : Option (Int32 × ZS) := zgi (s0.1 206 4) (fun (v2 : Int32) => zjn (A := Int32 × Int32) (fun (a4 : Int32 × Int32) (s3 : ZS) => (if ¬ p1 = 0 then some (a4.2, s3) else some (a4.1, s3))) (fun (k5 : (Int32 × Int32) → ZS → Option (Int32 × ZS)) => (if v2 ≤ 0 then k5 ((-2 : Int32), (-2 : Int32)) s0 else zlp zN (f_Fore_parting_B16 k5) ((-2 : Int32), (-2 : Int32), (0 : Int32)) s0)))
set_option maxHeartbeats 4000000 in
set_option maxRecDepth 100000 in
theorem ok_Fore_parting {L : Nat} {xs : Nat → Int32} {b : ZH} {p1 : Int32} {s0 : ZS} {w : Int32 × ZS} (hF : f_Fore_parting p1 s0 = some w) : zz_ct zt_ms zt_nm zt_df (zt_X L xs) 1 zt_m16 [.ref 206, .int p1] (zk b s0) (qI b w) := by
  unfold f_Fore_parting at hF
  change zz_wp zt_ms zt_nm zt_df (zt_X L xs) 1 zt_m16 0 [(0, .ref 206), (1, .int p1)] [] (zk b s0) (qI b w)
  refine w_bipush (pc2 := 2) rfl rfl ?_
  refine w_istore_n (pc2 := 3) (ls2 := [(2, .int (-2 : Int32)), (0, .ref 206), (1, .int p1)]) rfl rfl rfl ?_
  refine w_bipush (pc2 := 5) rfl rfl ?_
  refine w_istore_n (pc2 := 6) (ls2 := [(3, .int (-2 : Int32)), (2, .int (-2 : Int32)), (0, .ref 206), (1, .int p1)]) rfl rfl rfl ?_
  refine w_aload_n (pc2 := 7) rfl rfl rfl ?_
  refine j_geti (pc2 := 10) rfl zk_cFore rfl rfl rfl hF (fun v2 hF => ?_)
  refine j_join (P := fun (a4 : Int32 × Int32) (s3 : ZS) => zz_wp zt_ms zt_nm zt_df (zt_X L xs) 1 zt_m16 63 [(1, .int p1), (2, .int a4.1), (3, .int a4.2)] [] (zk b s3) (qI b w)) hF (fun a4 s3 hF => ?_) (fun k5 hk5 hF => ?_)
  · refine w_iload_n (pc2 := 64) rfl rfl rfl ?_
    refine j_if_ne (pc2 := 67) rfl rfl hF (fun hF => ?_) (fun hF => ?_)
    · refine w_iload_n (pc2 := 72) rfl rfl rfl ?_
      exact j_iret rfl rfl hF
    · refine w_iload_n (pc2 := 68) rfl rfl rfl ?_
      refine w_goto rfl ?_
      exact j_iret rfl rfl hF
  · refine j_if_le (pc2 := 13) rfl rfl hF (fun hF => ?_) (fun hF => ?_)
    · exact j_norm (l := [(1, .int p1), (2, .int (-2 : Int32)), (3, .int (-2 : Int32))]) ⟨rfl, rfl, rfl, trivial⟩ (zz_nd_of (ks := [1, 2, 3]) rfl (by decide)) (hk5 ((-2 : Int32), (-2 : Int32)) s0 hF)
    · refine w_iconst (pc2 := 14) rfl rfl ?_
      refine w_istore (pc2 := 16) (ls2 := [(4, .int (0 : Int32)), (3, .int (-2 : Int32)), (2, .int (-2 : Int32)), (0, .ref 206), (1, .int p1)]) rfl rfl rfl ?_
      refine j_norm (l := [(0, .ref 206), (1, .int p1), (2, .int (-2 : Int32)), (3, .int (-2 : Int32)), (4, .int (0 : Int32))]) ⟨rfl, rfl, rfl, rfl, rfl, trivial⟩ (zz_nd_of (ks := [0, 1, 2, 3, 4]) rfl (by decide)) ?_
      refine j_loop (P := fun (a6 : Int32 × Int32 × Int32) (s7 : ZS) => zz_wp zt_ms zt_nm zt_df (zt_X L xs) 1 zt_m16 16 [(0, .ref 206), (1, .int p1), (2, .int a6.1), (3, .int a6.2.1), (4, .int a6.2.2)] [] (zk b s7) (qI b w)) hF (fun a6 s7 g8 hg8 hF => ?_)
      unfold f_Fore_parting_B16 at hF
      refine w_iload (pc2 := 18) rfl rfl rfl ?_
      refine w_aload_n (pc2 := 19) rfl rfl rfl ?_
      refine w_getfield (pc2 := 22) rfl zk_cFore rfl rfl rfl ?_
      refine w_getfield (pc2 := 25) rfl (zk_cWorld zk_w3) rfl rfl rfl ?_
      refine j_geti (pc2 := 28) rfl (zk_cSmithy zk_sm4) rfl rfl rfl hF (fun v9 hF => ?_)
      refine j_icmp_ge (pc2 := 31) rfl rfl hF (fun hF => ?_) (fun hF => ?_)
      · exact j_norm (l := [(1, .int p1), (2, .int a6.1), (3, .int a6.2.1)]) ⟨rfl, rfl, rfl, trivial⟩ (zz_nd_of (ks := [1, 2, 3]) rfl (by decide)) (hk5 (a6.1, a6.2.1) s7 hF)
      · refine w_aload_n (pc2 := 32) rfl rfl rfl ?_
        refine w_iload (pc2 := 34) rfl rfl rfl ?_
        refine j_cIv (pc2 := 37) (k := 0) (c := zt_m17) (as := [.ref 206, .int a6.2.2]) (rest := []) rfl rfl rfl rfl zk_cFore.look rfl (Nat.le_of_ble_eq_true rfl) (Nat.le_of_ble_eq_true rfl) (fun w1 h1 => ok_Fore_mostAlike h1) (by decide) rfl hF (fun v11 s10 hF => ?_)
        refine w_istore (pc2 := 39) (ls2 := [(5, .int v11), (0, .ref 206), (1, .int p1), (2, .int a6.1), (3, .int a6.2.1), (4, .int a6.2.2)]) rfl rfl rfl ?_
        refine w_iload_n (pc2 := 40) rfl rfl rfl ?_
        refine w_bipush (pc2 := 42) rfl rfl ?_
        refine j_join (P := fun (a13 : Int32 × Int32) (s12 : ZS) => zz_wp zt_ms zt_nm zt_df (zt_X L xs) 1 zt_m16 57 [(0, .ref 206), (1, .int p1), (2, .int a13.1), (3, .int a13.2), (4, .int a6.2.2)] [] (zk b s12) (qI b w)) hF (fun a13 s12 hF => ?_) (fun k14 hk14 hF => ?_)
        · refine w_iinc (pc2 := 60) (ls2 := [(4, .int ((a6.2.2 + (1 : Int32)))), (0, .ref 206), (1, .int p1), (2, .int a13.1), (3, .int a13.2)]) rfl rfl rfl rfl ?_
          refine w_goto rfl ?_
          exact j_norm (l := [(0, .ref 206), (1, .int p1), (2, .int a13.1), (3, .int a13.2), (4, .int ((a6.2.2 + (1 : Int32))))]) ⟨rfl, rfl, rfl, rfl, rfl, trivial⟩ (zz_nd_of (ks := [0, 1, 2, 3, 4]) rfl (by decide)) (hg8 (a13.1, a13.2, (a6.2.2 + (1 : Int32))) s12 hF)
        · refine j_join0 (P := fun (s15 : ZS) => zz_wp zt_ms zt_nm zt_df (zt_X L xs) 1 zt_m16 51 [(0, .ref 206), (1, .int p1), (4, .int a6.2.2), (5, .int v11)] [] (zk b s15) (qI b w)) hF (fun s15 hF => ?_) (fun k16 hk16 hF => ?_)
          · refine w_iload (pc2 := 53) rfl rfl rfl ?_
            refine w_istore_n (pc2 := 54) (ls2 := [(2, .int a6.2.2), (0, .ref 206), (1, .int p1), (4, .int a6.2.2), (5, .int v11)]) rfl rfl rfl ?_
            refine w_iload (pc2 := 56) rfl rfl rfl ?_
            refine w_istore_n (pc2 := 57) (ls2 := [(3, .int v11), (2, .int a6.2.2), (0, .ref 206), (1, .int p1), (4, .int a6.2.2), (5, .int v11)]) rfl rfl rfl ?_
            exact j_norm (l := [(0, .ref 206), (1, .int p1), (2, .int a6.2.2), (3, .int v11), (4, .int a6.2.2)]) ⟨rfl, rfl, rfl, rfl, rfl, trivial⟩ (zz_nd_of (ks := [0, 1, 2, 3, 4]) rfl (by decide)) (hk14 (a6.2.2, v11) s15 hF)
          · refine j_icmp_eq (pc2 := 45) rfl rfl hF (fun hF => ?_) (fun hF => ?_)
            · exact j_norm (l := [(0, .ref 206), (1, .int p1), (4, .int a6.2.2), (5, .int v11)]) ⟨rfl, rfl, rfl, rfl, trivial⟩ (zz_nd_of (ks := [0, 1, 4, 5]) rfl (by decide)) (hk16 s10 hF)
            · refine w_iload (pc2 := 47) rfl rfl rfl ?_
              refine w_iload_n (pc2 := 48) rfl rfl rfl ?_
              refine j_icmp_ge (pc2 := 51) rfl rfl hF (fun hF => ?_) (fun hF => ?_)
              · exact j_norm (l := [(0, .ref 206), (1, .int p1), (2, .int a6.1), (3, .int a6.2.1), (4, .int a6.2.2)]) ⟨rfl, rfl, rfl, rfl, rfl, trivial⟩ (zz_nd_of (ks := [0, 1, 2, 3, 4]) rfl (by decide)) (hk14 (a6.1, a6.2.1) s10 hF)
              · exact j_norm (l := [(0, .ref 206), (1, .int p1), (4, .int a6.2.2), (5, .int v11)]) ⟨rfl, rfl, rfl, rfl, trivial⟩ (zz_nd_of (ks := [0, 1, 4, 5]) rfl (by decide)) (hk16 s10 hF)
noncomputable def f_Smithy_everyPair (o1 : Nat) (s0 : ZS) : Option (Int32 × ZS) := zgi (s0.1 o1 3) (fun (v2 : Int32) => some ((((1 : Int32) <<< (v2 &&& (31 : Int32))) - (1 : Int32)), s0))
set_option maxHeartbeats 4000000 in
set_option maxRecDepth 100000 in
theorem ok_Smithy_everyPair {L : Nat} {xs : Nat → Int32} {b : ZH} {o1 : Nat} (ho1 : zk_isSmithy o1) {s0 : ZS} {w : Int32 × ZS} (hF : f_Smithy_everyPair o1 s0 = some w) : zz_ct zt_ms zt_nm zt_df (zt_X L xs) 0 zt_m82 [.ref o1] (zk b s0) (qI b w) := by
  unfold f_Smithy_everyPair at hF
  change zz_wp zt_ms zt_nm zt_df (zt_X L xs) 0 zt_m82 0 [(0, .ref o1)] [] (zk b s0) (qI b w)
  refine w_iconst (pc2 := 1) rfl rfl ?_
  refine w_aload_n (pc2 := 2) rfl rfl rfl ?_
  refine j_geti (pc2 := 5) rfl (zk_cSmithy ho1) rfl rfl rfl hF (fun v2 hF => ?_)
  refine w_ishl (pc2 := 6) rfl rfl ?_
  refine w_iconst (pc2 := 7) rfl rfl ?_
  refine w_isub (pc2 := 8) rfl rfl ?_
  exact j_iret rfl rfl hF
noncomputable def f_Mill_openDoor_B17 (o1 : Nat) (v3 : Int32) (v5 : Int32) (k7 : ZS → Option (Int32 × ZS)) (a10 : Int32) (s11 : ZS) (g12 : Int32 → ZS → Option (Int32 × ZS)) : Option (Int32 × ZS) := zgi (s11.1 4 3) (fun (v13 : Int32) => (if v13 ≤ a10 then k7 s11 else zj0 (fun (s14 : ZS) => g12 (a10 + (1 : Int32)) s14) (fun (k15 : ZS → Option (Int32 × ZS)) => (if (((v3 &&& (v5 ^^^ (-1 : Int32))) >>> (a10 &&& (31 : Int32))) &&& (1 : Int32)) = 0 then k15 s11 else zcv (f_State_anger o1 a10 (3 : Int32) s11) (fun (s16 : ZS) => k15 s16)))))
noncomputable def f_Mill_openDoor (o1 : Nat) (s0 : ZS) : Option (Int32 × ZS) := zcl (f_Smithy_everyPair 4 s0) (fun (v3 : Int32) (s2 : ZS) => zcl (f_State_banded o1 s2) (fun (v5 : Int32) (s4 : ZS) => zj0 (fun (s6 : ZS) => zcl (f_Mill_breakOut o1 ((v3 &&& (v5 ^^^ (-1 : Int32)))) s6) (fun (v9 : Int32) (s8 : ZS) => some (v9, s8))) (fun (k7 : ZS → Option (Int32 × ZS)) => zlp zN (f_Mill_openDoor_B17 o1 v3 v5 k7) (0 : Int32) s4)))
set_option maxHeartbeats 4000000 in
set_option maxRecDepth 100000 in
theorem ok_Mill_openDoor {L : Nat} {xs : Nat → Int32} {b : ZH} {o1 : Nat} (ho1 : zk_isState o1) {s0 : ZS} {w : Int32 × ZS} (hF : f_Mill_openDoor o1 s0 = some w) : zz_ct zt_ms zt_nm zt_df (zt_X L xs) 1 zt_m48 [.ref 202, .ref o1] (zk b s0) (qI b w) := by
  unfold f_Mill_openDoor at hF
  change zz_wp zt_ms zt_nm zt_df (zt_X L xs) 1 zt_m48 0 [(0, .ref 202), (1, .ref o1)] [] (zk b s0) (qI b w)
  refine w_aload_n (pc2 := 1) rfl rfl rfl ?_
  refine w_getfield (pc2 := 4) rfl zk_cMill rfl rfl rfl ?_
  refine j_cIv (pc2 := 7) (k := 0) (c := zt_m82) (as := [.ref 4]) (rest := []) rfl rfl rfl rfl (zk_cSmithy zk_sm4).look rfl (Nat.le_of_ble_eq_true rfl) (Nat.le_of_ble_eq_true rfl) (fun w1 h1 => ok_Smithy_everyPair zk_sm4 h1) (by decide) rfl hF (fun v3 s2 hF => ?_)
  refine w_aload_n (pc2 := 8) rfl rfl rfl ?_
  refine j_cIv (pc2 := 11) (k := 0) (c := zt_m85) (as := [.ref o1]) (rest := [.int v3]) rfl rfl rfl rfl (zk_cState ho1).look rfl (Nat.le_of_ble_eq_true rfl) (Nat.le_of_ble_eq_true rfl) (fun w1 h1 => ok_State_banded ho1 h1) (by decide) rfl hF (fun v5 s4 hF => ?_)
  refine w_iconst (pc2 := 12) rfl rfl ?_
  refine w_ixor (pc2 := 13) rfl rfl ?_
  refine w_iand (pc2 := 14) rfl rfl ?_
  refine w_istore_n (pc2 := 15) (ls2 := [(2, .int ((v3 &&& (v5 ^^^ (-1 : Int32))))), (0, .ref 202), (1, .ref o1)]) rfl rfl rfl ?_
  refine w_iconst (pc2 := 16) rfl rfl ?_
  refine w_istore_n (pc2 := 17) (ls2 := [(3, .int (0 : Int32)), (2, .int ((v3 &&& (v5 ^^^ (-1 : Int32))))), (0, .ref 202), (1, .ref o1)]) rfl rfl rfl ?_
  refine j_join0 (P := fun (s6 : ZS) => zz_wp zt_ms zt_nm zt_df (zt_X L xs) 1 zt_m48 48 [(0, .ref 202), (1, .ref o1), (2, .int ((v3 &&& (v5 ^^^ (-1 : Int32)))))] [] (zk b s6) (qI b w)) hF (fun s6 hF => ?_) (fun k7 hk7 hF => ?_)
  · refine w_aload_n (pc2 := 49) rfl rfl rfl ?_
    refine w_aload_n (pc2 := 50) rfl rfl rfl ?_
    refine w_iload_n (pc2 := 51) rfl rfl rfl ?_
    refine j_cIv (pc2 := 54) (k := 0) (c := zt_m46) (as := [.ref 202, .ref o1, .int ((v3 &&& (v5 ^^^ (-1 : Int32))))]) (rest := []) rfl rfl rfl rfl zk_cMill.look rfl (Nat.le_of_ble_eq_true rfl) (Nat.le_of_ble_eq_true rfl) (fun w1 h1 => ok_Mill_breakOut ho1 h1) (by decide) rfl hF (fun v9 s8 hF => ?_)
    exact j_iret rfl rfl hF
  · refine j_norm (l := [(0, .ref 202), (1, .ref o1), (2, .int ((v3 &&& (v5 ^^^ (-1 : Int32))))), (3, .int (0 : Int32))]) ⟨rfl, rfl, rfl, rfl, trivial⟩ (zz_nd_of (ks := [0, 1, 2, 3]) rfl (by decide)) ?_
    refine j_loop (P := fun (a10 : Int32) (s11 : ZS) => zz_wp zt_ms zt_nm zt_df (zt_X L xs) 1 zt_m48 17 [(0, .ref 202), (1, .ref o1), (2, .int ((v3 &&& (v5 ^^^ (-1 : Int32))))), (3, .int a10)] [] (zk b s11) (qI b w)) hF (fun a10 s11 g12 hg12 hF => ?_)
    unfold f_Mill_openDoor_B17 at hF
    refine w_iload_n (pc2 := 18) rfl rfl rfl ?_
    refine w_aload_n (pc2 := 19) rfl rfl rfl ?_
    refine w_getfield (pc2 := 22) rfl zk_cMill rfl rfl rfl ?_
    refine j_geti (pc2 := 25) rfl (zk_cSmithy zk_sm4) rfl rfl rfl hF (fun v13 hF => ?_)
    refine j_icmp_ge (pc2 := 28) rfl rfl hF (fun hF => ?_) (fun hF => ?_)
    · exact j_norm (l := [(0, .ref 202), (1, .ref o1), (2, .int ((v3 &&& (v5 ^^^ (-1 : Int32)))))]) ⟨rfl, rfl, rfl, trivial⟩ (zz_nd_of (ks := [0, 1, 2]) rfl (by decide)) (hk7 s11 hF)
    · refine w_iload_n (pc2 := 29) rfl rfl rfl ?_
      refine w_iload_n (pc2 := 30) rfl rfl rfl ?_
      refine w_ishr (pc2 := 31) rfl rfl ?_
      refine w_iconst (pc2 := 32) rfl rfl ?_
      refine w_iand (pc2 := 33) rfl rfl ?_
      refine j_join0 (P := fun (s14 : ZS) => zz_wp zt_ms zt_nm zt_df (zt_X L xs) 1 zt_m48 42 [(0, .ref 202), (1, .ref o1), (2, .int ((v3 &&& (v5 ^^^ (-1 : Int32))))), (3, .int a10)] [] (zk b s14) (qI b w)) hF (fun s14 hF => ?_) (fun k15 hk15 hF => ?_)
      · refine w_iinc (pc2 := 45) (ls2 := [(3, .int ((a10 + (1 : Int32)))), (0, .ref 202), (1, .ref o1), (2, .int ((v3 &&& (v5 ^^^ (-1 : Int32)))))]) rfl rfl rfl rfl ?_
        refine w_goto rfl ?_
        exact j_norm (l := [(0, .ref 202), (1, .ref o1), (2, .int ((v3 &&& (v5 ^^^ (-1 : Int32))))), (3, .int ((a10 + (1 : Int32))))]) ⟨rfl, rfl, rfl, rfl, trivial⟩ (zz_nd_of (ks := [0, 1, 2, 3]) rfl (by decide)) (hg12 (a10 + (1 : Int32)) s14 hF)
      · refine j_if_eq (pc2 := 36) rfl rfl hF (fun hF => ?_) (fun hF => ?_)
        · exact j_norm (l := [(0, .ref 202), (1, .ref o1), (2, .int ((v3 &&& (v5 ^^^ (-1 : Int32))))), (3, .int a10)]) ⟨rfl, rfl, rfl, rfl, trivial⟩ (zz_nd_of (ks := [0, 1, 2, 3]) rfl (by decide)) (hk15 s11 hF)
        · refine w_aload_n (pc2 := 37) rfl rfl rfl ?_
          refine w_iload_n (pc2 := 38) rfl rfl rfl ?_
          refine w_iconst (pc2 := 39) rfl rfl ?_
          refine j_cVv (pc2 := 42) (k := 0) (c := zt_m88) (as := [.ref o1, .int a10, .int (3 : Int32)]) (rest := []) rfl rfl rfl rfl (zk_cState ho1).look rfl (Nat.le_of_ble_eq_true rfl) (Nat.le_of_ble_eq_true rfl) (fun w1 h1 => ok_State_anger ho1 h1) (by decide) rfl hF (fun s16 hF => ?_)
          exact j_norm (l := [(0, .ref 202), (1, .ref o1), (2, .int ((v3 &&& (v5 ^^^ (-1 : Int32))))), (3, .int a10)]) ⟨rfl, rfl, rfl, rfl, trivial⟩ (zz_nd_of (ks := [0, 1, 2, 3]) rfl (by decide)) (hk15 s16 hF)
noncomputable def f_State_allWide_B4 (o1 : Nat) (a2 : Int32 × Int32) (s3 : ZS) (g4 : (Int32 × Int32) → ZS → Option (Int32 × ZS)) : Option (Int32 × ZS) := (if (5 : Int32) ≤ a2.2 then some (a2.1, s3) else zrd 5 a2.2 (s3.1 (o1 + 2)) (fun (v5 : Int32) => g4 ((a2.1 + v5), (a2.2 + (1 : Int32))) s3))
noncomputable def f_State_allWide (o1 : Nat) (s0 : ZS) : Option (Int32 × ZS) := zlp zN (f_State_allWide_B4 o1) ((0 : Int32), (0 : Int32)) s0
set_option maxHeartbeats 4000000 in
set_option maxRecDepth 100000 in
theorem ok_State_allWide {L : Nat} {xs : Nat → Int32} {b : ZH} {o1 : Nat} (ho1 : zk_isState o1) {s0 : ZS} {w : Int32 × ZS} (hF : f_State_allWide o1 s0 = some w) : zz_ct zt_ms zt_nm zt_df (zt_X L xs) 0 zt_m86 [.ref o1] (zk b s0) (qI b w) := by
  unfold f_State_allWide at hF
  change zz_wp zt_ms zt_nm zt_df (zt_X L xs) 0 zt_m86 0 [(0, .ref o1)] [] (zk b s0) (qI b w)
  refine w_iconst (pc2 := 1) rfl rfl ?_
  refine w_istore_n (pc2 := 2) (ls2 := [(1, .int (0 : Int32)), (0, .ref o1)]) rfl rfl rfl ?_
  refine w_iconst (pc2 := 3) rfl rfl ?_
  refine w_istore_n (pc2 := 4) (ls2 := [(2, .int (0 : Int32)), (1, .int (0 : Int32)), (0, .ref o1)]) rfl rfl rfl ?_
  refine j_norm (l := [(0, .ref o1), (1, .int (0 : Int32)), (2, .int (0 : Int32))]) ⟨rfl, rfl, rfl, trivial⟩ (zz_nd_of (ks := [0, 1, 2]) rfl (by decide)) ?_
  refine j_loop (P := fun (a2 : Int32 × Int32) (s3 : ZS) => zz_wp zt_ms zt_nm zt_df (zt_X L xs) 0 zt_m86 4 [(0, .ref o1), (1, .int a2.1), (2, .int a2.2)] [] (zk b s3) (qI b w)) hF (fun a2 s3 g4 hg4 hF => ?_)
  unfold f_State_allWide_B4 at hF
  refine w_iload_n (pc2 := 5) rfl rfl rfl ?_
  refine w_iconst (pc2 := 6) rfl rfl ?_
  refine j_icmp_ge (pc2 := 9) rfl rfl hF (fun hF => ?_) (fun hF => ?_)
  · refine w_iload_n (pc2 := 25) rfl rfl rfl ?_
    exact j_iret rfl rfl hF
  · refine w_iload_n (pc2 := 10) rfl rfl rfl ?_
    refine w_aload_n (pc2 := 11) rfl rfl rfl ?_
    refine w_getfield (pc2 := 14) rfl (zk_cState ho1) rfl rfl rfl ?_
    refine w_iload_n (pc2 := 15) rfl rfl rfl ?_
    refine j_iaload (pc2 := 16) (n := 5) rfl ho1.k.2.2.2.1 (by omega) (by have := ho1.k.1; omega) rfl hF (fun v5 hF => ?_)
    refine w_iadd (pc2 := 17) rfl rfl ?_
    refine w_istore_n (pc2 := 18) (ls2 := [(1, .int (a2.1 + v5)), (0, .ref o1), (2, .int a2.2)]) rfl rfl rfl ?_
    refine w_iinc (pc2 := 21) (ls2 := [(2, .int ((a2.2 + (1 : Int32)))), (1, .int (a2.1 + v5)), (0, .ref o1)]) rfl rfl rfl rfl ?_
    refine w_goto rfl ?_
    exact j_norm (l := [(0, .ref o1), (1, .int (a2.1 + v5)), (2, .int ((a2.2 + (1 : Int32))))]) ⟨rfl, rfl, rfl, trivial⟩ (zz_nd_of (ks := [0, 1, 2]) rfl (by decide)) (hg4 ((a2.1 + v5), (a2.2 + (1 : Int32))) s3 hF)
