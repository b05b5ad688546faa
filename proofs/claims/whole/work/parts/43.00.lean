/-! What methods do as functions of the state, and that the small machine does so. -/
noncomputable def f_State_copy (o1 : Nat) (o2 : Nat) (s0 : ZS) : Option (ZS) := zgi (s0.1 o2 0) (fun (v3 : Int32) => zwi s0 o1 0 v3 (fun (s4 : ZS) => zgi (s4.1 o2 1) (fun (v5 : Int32) => zwi s4 o1 1 v5 (fun (s6 : ZS) => zcp s6 (o2 + 1) 5 (o1 + 1) 5 (0 : Int32) (0 : Int32) (5 : Int32) (fun (s7 : ZS) => zcp s7 (o2 + 2) 5 (o1 + 2) 5 (0 : Int32) (0 : Int32) (5 : Int32) (fun (s8 : ZS) => zcp s8 (o2 + 3) 5 (o1 + 3) 5 (0 : Int32) (0 : Int32) (5 : Int32) (fun (s9 : ZS) => zcp s9 (o2 + 4) 30 (o1 + 4) 30 (0 : Int32) (0 : Int32) (30 : Int32) (fun (s10 : ZS) => some s10))))))))
set_option maxHeartbeats 4000000 in
set_option maxRecDepth 100000 in
theorem ok_State_copy {L : Nat} {xs : Nat → Int32} {b : ZH} {o1 : Nat} {o2 : Nat} (ho1 : zk_isState o1) (ho2 : zk_isState o2) {s0 : ZS} {w : ZS} (hF : f_State_copy o1 o2 s0 = some w) : zz_ct zt_ms zt_nm zt_df (zt_X L xs) 0 zt_m87 [.ref o1, .ref o2] (zk b s0) (qV b w) := by
  unfold f_State_copy at hF
  change zz_wp zt_ms zt_nm zt_df (zt_X L xs) 0 zt_m87 0 [(0, .ref o1), (1, .ref o2)] [] (zk b s0) (qV b w)
  refine w_aload_n (pc2 := 1) rfl rfl rfl ?_
  refine w_aload_n (pc2 := 2) rfl rfl rfl ?_
  refine j_geti (pc2 := 5) rfl (zk_cState ho2) rfl rfl rfl hF (fun v3 hF => ?_)
  refine j_puti (pc2 := 8) (j := 0) rfl (zk_cState ho1) rfl (Nat.le_of_ble_eq_true rfl) rfl (zk_wState_0 ho1) (by have := ho1.k.1; omega) rfl hF (fun s4 hF => ?_)
  refine w_aload_n (pc2 := 9) rfl rfl rfl ?_
  refine w_aload_n (pc2 := 10) rfl rfl rfl ?_
  refine j_geti (pc2 := 13) rfl (zk_cState ho2) rfl rfl rfl hF (fun v5 hF => ?_)
  refine j_puti (pc2 := 16) (j := 1) rfl (zk_cState ho1) rfl (Nat.le_of_ble_eq_true rfl) rfl (zk_wState_1 ho1) (by have := ho1.k.1; omega) rfl hF (fun s6 hF => ?_)
  refine w_aload_n (pc2 := 17) rfl rfl rfl ?_
  refine w_getfield (pc2 := 20) rfl (zk_cState ho2) rfl rfl rfl ?_
  refine w_iconst (pc2 := 21) rfl rfl ?_
  refine w_aload_n (pc2 := 22) rfl rfl rfl ?_
  refine w_getfield (pc2 := 25) rfl (zk_cState ho1) rfl rfl rfl ?_
  refine w_iconst (pc2 := 26) rfl rfl ?_
  refine w_iconst (pc2 := 27) rfl rfl ?_
  refine j_copy (pc2 := 30) (k0 := 5) (k1 := 5) rfl ho2.k.2.2.1 (by decide) (by have := ho2.k.1; omega) ho1.k.2.2.1 (by decide) (by have := ho1.k.1; omega) (Nat.le_of_ble_eq_true rfl) rfl hF (fun s7 hF => ?_)
  refine w_aload_n (pc2 := 31) rfl rfl rfl ?_
  refine w_getfield (pc2 := 34) rfl (zk_cState ho2) rfl rfl rfl ?_
  refine w_iconst (pc2 := 35) rfl rfl ?_
  refine w_aload_n (pc2 := 36) rfl rfl rfl ?_
  refine w_getfield (pc2 := 39) rfl (zk_cState ho1) rfl rfl rfl ?_
  refine w_iconst (pc2 := 40) rfl rfl ?_
  refine w_iconst (pc2 := 41) rfl rfl ?_
  refine j_copy (pc2 := 44) (k0 := 5) (k1 := 5) rfl ho2.k.2.2.2.1 (by decide) (by have := ho2.k.1; omega) ho1.k.2.2.2.1 (by decide) (by have := ho1.k.1; omega) (Nat.le_of_ble_eq_true rfl) rfl hF (fun s8 hF => ?_)
  refine w_aload_n (pc2 := 45) rfl rfl rfl ?_
  refine w_getfield (pc2 := 48) rfl (zk_cState ho2) rfl rfl rfl ?_
  refine w_iconst (pc2 := 49) rfl rfl ?_
  refine w_aload_n (pc2 := 50) rfl rfl rfl ?_
  refine w_getfield (pc2 := 53) rfl (zk_cState ho1) rfl rfl rfl ?_
  refine w_iconst (pc2 := 54) rfl rfl ?_
  refine w_iconst (pc2 := 55) rfl rfl ?_
  refine j_copy (pc2 := 58) (k0 := 5) (k1 := 5) rfl ho2.k.2.2.2.2.1 (by decide) (by have := ho2.k.1; omega) ho1.k.2.2.2.2.1 (by decide) (by have := ho1.k.1; omega) (Nat.le_of_ble_eq_true rfl) rfl hF (fun s9 hF => ?_)
  refine w_aload_n (pc2 := 59) rfl rfl rfl ?_
  refine w_getfield (pc2 := 62) rfl (zk_cState ho2) rfl rfl rfl ?_
  refine w_iconst (pc2 := 63) rfl rfl ?_
  refine w_aload_n (pc2 := 64) rfl rfl rfl ?_
  refine w_getfield (pc2 := 67) rfl (zk_cState ho1) rfl rfl rfl ?_
  refine w_iconst (pc2 := 68) rfl rfl ?_
  refine w_bipush (pc2 := 70) rfl rfl ?_
  refine j_copy (pc2 := 73) (k0 := 30) (k1 := 30) rfl ho2.k.2.2.2.2.2 (by decide) (by have := ho2.k.1; omega) ho1.k.2.2.2.2.2 (by decide) (by have := ho1.k.1; omega) (Nat.le_of_ble_eq_true rfl) rfl hF (fun s10 hF => ?_)
  exact j_vret rfl rfl hF
noncomputable def f_Mill_under (p1 : Int32) (s0 : ZS) : Option (ZS) := (if p1 < 0 then zwi s0 202 5 (-1) (fun (s2 : ZS) => zwi s2 202 6 (0 : Int32) (fun (s3 : ZS) => zwi s3 202 7 (-1 : Int32) (fun (s4 : ZS) => some s4))) else (if (nI 6) ≤ p1 then zwi s0 202 5 (-1) (fun (s5 : ZS) => zwi s5 202 6 (0 : Int32) (fun (s6 : ZS) => zwi s6 202 7 (-1 : Int32) (fun (s7 : ZS) => some s7))) else zix 6 p1 (fun (j8 : Nat) => zwi s0 202 5 (nI j8) (fun (s9 : ZS) => zwi s9 202 6 (0 : Int32) (fun (s10 : ZS) => zwi s10 202 7 (-1 : Int32) (fun (s11 : ZS) => some s11))))))
set_option maxHeartbeats 4000000 in
set_option maxRecDepth 100000 in
theorem ok_Mill_under {L : Nat} {xs : Nat → Int32} {b : ZH} {p1 : Int32} {s0 : ZS} {w : ZS} (hF : f_Mill_under p1 s0 = some w) : zz_ct zt_ms zt_nm zt_df (zt_X L xs) 0 zt_m40 [.ref 202, .int p1] (zk b s0) (qV b w) := by
  unfold f_Mill_under at hF
  change zz_wp zt_ms zt_nm zt_df (zt_X L xs) 0 zt_m40 0 [(0, .ref 202), (1, .int p1)] [] (zk b s0) (qV b w)
  refine w_aload_n (pc2 := 1) rfl rfl rfl ?_
  refine w_iload_n (pc2 := 2) rfl rfl rfl ?_
  refine j_if_lt (pc2 := 5) rfl rfl hF (fun hF => ?_) (fun hF => ?_)
  · refine w_aconst_null (pc2 := 24) rfl rfl ?_
    refine j_putr (pc2 := 27) (j := 5) (v := -1) rfl zk_cMill rfl (Nat.le_of_ble_eq_true rfl) rfl zk_wMill_null (by decide) rfl hF (fun s2 hF => ?_)
    refine w_aload_n (pc2 := 28) rfl rfl rfl ?_
    refine w_iconst (pc2 := 29) rfl rfl ?_
    refine j_puti (pc2 := 32) (j := 6) rfl zk_cMill rfl (Nat.le_of_ble_eq_true rfl) rfl zk_wMill_6 (by decide) rfl hF (fun s3 hF => ?_)
    refine w_aload_n (pc2 := 33) rfl rfl rfl ?_
    refine w_iconst (pc2 := 34) rfl rfl ?_
    refine j_puti (pc2 := 37) (j := 7) rfl zk_cMill rfl (Nat.le_of_ble_eq_true rfl) rfl zk_wMill_7 (by decide) rfl hF (fun s4 hF => ?_)
    exact j_vret rfl rfl hF
  · refine w_iload_n (pc2 := 6) rfl rfl rfl ?_
    refine w_aload_n (pc2 := 7) rfl rfl rfl ?_
    refine w_getfield (pc2 := 10) rfl zk_cMill rfl rfl rfl ?_
    refine w_arraylength (pc2 := 11) rfl zk_c85 rfl ?_
    refine j_icmp_ge (pc2 := 14) rfl rfl hF (fun hF => ?_) (fun hF => ?_)
    · refine w_aconst_null (pc2 := 24) rfl rfl ?_
      refine j_putr (pc2 := 27) (j := 5) (v := -1) rfl zk_cMill rfl (Nat.le_of_ble_eq_true rfl) rfl zk_wMill_null (by decide) rfl hF (fun s5 hF => ?_)
      refine w_aload_n (pc2 := 28) rfl rfl rfl ?_
      refine w_iconst (pc2 := 29) rfl rfl ?_
      refine j_puti (pc2 := 32) (j := 6) rfl zk_cMill rfl (Nat.le_of_ble_eq_true rfl) rfl zk_wMill_6 (by decide) rfl hF (fun s6 hF => ?_)
      refine w_aload_n (pc2 := 33) rfl rfl rfl ?_
      refine w_iconst (pc2 := 34) rfl rfl ?_
      refine j_puti (pc2 := 37) (j := 7) rfl zk_cMill rfl (Nat.le_of_ble_eq_true rfl) rfl zk_wMill_7 (by decide) rfl hF (fun s7 hF => ?_)
      exact j_vret rfl rfl hF
    · refine w_aload_n (pc2 := 15) rfl rfl rfl ?_
      refine w_getfield (pc2 := 18) rfl zk_cMill rfl rfl rfl ?_
      refine w_iload_n (pc2 := 19) rfl rfl rfl ?_
      refine j_aaload (pc2 := 20) (p := 86) (q := 2) rfl zk_c85 (by decide) rfl hF (fun j8 hj8 hF => ?_)
      refine w_goto rfl ?_
      refine j_putr (pc2 := 27) (j := 5) (v := nI j8) rfl zk_cMill rfl (Nat.le_of_ble_eq_true rfl) rfl (zk_wMill_ruleN hj8) (by decide) rfl hF (fun s9 hF => ?_)
      refine w_aload_n (pc2 := 28) rfl rfl rfl ?_
      refine w_iconst (pc2 := 29) rfl rfl ?_
      refine j_puti (pc2 := 32) (j := 6) rfl zk_cMill rfl (Nat.le_of_ble_eq_true rfl) rfl zk_wMill_6 (by decide) rfl hF (fun s10 hF => ?_)
      refine w_aload_n (pc2 := 33) rfl rfl rfl ?_
      refine w_iconst (pc2 := 34) rfl rfl ?_
      refine j_puti (pc2 := 37) (j := 7) rfl zk_cMill rfl (Nat.le_of_ble_eq_true rfl) rfl zk_wMill_7 (by decide) rfl hF (fun s11 hF => ?_)
      exact j_vret rfl rfl hF
noncomputable def f_Fore_restart (s0 : ZS) : Option (ZS) := zcv (f_State_copy 207 10 s0) (fun (s1 : ZS) => zgi (s1.1 3 6) (fun (v2 : Int32) => zcv (f_Mill_under v2 s1) (fun (s3 : ZS) => some s3)))
set_option maxHeartbeats 4000000 in
set_option maxRecDepth 100000 in
theorem ok_Fore_restart {L : Nat} {xs : Nat → Int32} {b : ZH} {s0 : ZS} {w : ZS} (hF : f_Fore_restart s0 = some w) : zz_ct zt_ms zt_nm zt_df (zt_X L xs) 1 zt_m2 [.ref 206] (zk b s0) (qV b w) := by
  unfold f_Fore_restart at hF
  change zz_wp zt_ms zt_nm zt_df (zt_X L xs) 1 zt_m2 0 [(0, .ref 206)] [] (zk b s0) (qV b w)
  refine w_aload_n (pc2 := 1) rfl rfl rfl ?_
  refine w_getfield (pc2 := 4) rfl zk_cFore rfl rfl rfl ?_
  refine w_aload_n (pc2 := 5) rfl rfl rfl ?_
  refine w_getfield (pc2 := 8) rfl zk_cFore rfl rfl rfl ?_
  refine w_getfield (pc2 := 11) rfl (zk_cWorld zk_w3) rfl rfl rfl ?_
  refine j_cVv (pc2 := 14) (k := 0) (c := zt_m87) (as := [.ref 207, .ref 10]) (rest := []) rfl rfl rfl rfl (zk_cState zk_st207).look rfl (Nat.le_of_ble_eq_true rfl) (Nat.le_of_ble_eq_true rfl) (fun w1 h1 => ok_State_copy zk_st207 zk_st10 h1) (by decide) rfl hF (fun s1 hF => ?_)
  refine w_aload_n (pc2 := 15) rfl rfl rfl ?_
  refine w_getfield (pc2 := 18) rfl zk_cFore rfl rfl rfl ?_
  refine w_aload_n (pc2 := 19) rfl rfl rfl ?_
  refine w_getfield (pc2 := 22) rfl zk_cFore rfl rfl rfl ?_
  refine j_geti (pc2 := 25) rfl (zk_cWorld zk_w3) rfl rfl rfl hF (fun v2 hF => ?_)
  refine j_cVv (pc2 := 28) (k := 0) (c := zt_m40) (as := [.ref 202, .int v2]) (rest := []) rfl rfl rfl rfl zk_cMill.look rfl (Nat.le_of_ble_eq_true rfl) (Nat.le_of_ble_eq_true rfl) (fun w1 h1 => ok_Mill_under h1) (by decide) rfl hF (fun s3 hF => ?_)
  exact j_vret rfl rfl hF
noncomputable def f_State_banded_B4 (o1 : Nat) (a2 : Int32 × Int32) (s3 : ZS) (g4 : (Int32 × Int32) → ZS → Option (Int32 × ZS)) : Option (Int32 × ZS) := (if (5 : Int32) ≤ a2.2 then some (a2.1, s3) else zrd 5 a2.2 (s3.1 (o1 + 2)) (fun (v5 : Int32) => zjn (A := Int32) (fun (a7 : Int32) (s6 : ZS) => g4 (a7, (a2.2 + (1 : Int32))) s6) (fun (k8 : Int32 → ZS → Option (Int32 × ZS)) => (if v5 ≤ 0 then k8 a2.1 s3 else k8 (a2.1 ||| ((1 : Int32) <<< (a2.2 &&& (31 : Int32)))) s3))))
noncomputable def f_State_banded (o1 : Nat) (s0 : ZS) : Option (Int32 × ZS) := zlp zN (f_State_banded_B4 o1) ((0 : Int32), (0 : Int32)) s0
set_option maxHeartbeats 4000000 in
set_option maxRecDepth 100000 in
theorem ok_State_banded {L : Nat} {xs : Nat → Int32} {b : ZH} {o1 : Nat} (ho1 : zk_isState o1) {s0 : ZS} {w : Int32 × ZS} (hF : f_State_banded o1 s0 = some w) : zz_ct zt_ms zt_nm zt_df (zt_X L xs) 0 zt_m85 [.ref o1] (zk b s0) (qI b w) := by
  unfold f_State_banded at hF
  change zz_wp zt_ms zt_nm zt_df (zt_X L xs) 0 zt_m85 0 [(0, .ref o1)] [] (zk b s0) (qI b w)
  refine w_iconst (pc2 := 1) rfl rfl ?_
  refine w_istore_n (pc2 := 2) (ls2 := [(1, .int (0 : Int32)), (0, .ref o1)]) rfl rfl rfl ?_
  refine w_iconst (pc2 := 3) rfl rfl ?_
  refine w_istore_n (pc2 := 4) (ls2 := [(2, .int (0 : Int32)), (1, .int (0 : Int32)), (0, .ref o1)]) rfl rfl rfl ?_
  refine j_norm (l := [(0, .ref o1), (1, .int (0 : Int32)), (2, .int (0 : Int32))]) ⟨rfl, rfl, rfl, trivial⟩ (zz_nd_of (ks := [0, 1, 2]) rfl (by decide)) ?_
  refine j_loop (P := fun (a2 : Int32 × Int32) (s3 : ZS) => zz_wp zt_ms zt_nm zt_df (zt_X L xs) 0 zt_m85 4 [(0, .ref o1), (1, .int a2.1), (2, .int a2.2)] [] (zk b s3) (qI b w)) hF (fun a2 s3 g4 hg4 hF => ?_)
  unfold f_State_banded_B4 at hF
  refine w_iload_n (pc2 := 5) rfl rfl rfl ?_
  refine w_iconst (pc2 := 6) rfl rfl ?_
  refine j_icmp_ge (pc2 := 9) rfl rfl hF (fun hF => ?_) (fun hF => ?_)
  · refine w_iload_n (pc2 := 31) rfl rfl rfl ?_
    exact j_iret rfl rfl hF
  · refine w_aload_n (pc2 := 10) rfl rfl rfl ?_
    refine w_getfield (pc2 := 13) rfl (zk_cState ho1) rfl rfl rfl ?_
    refine w_iload_n (pc2 := 14) rfl rfl rfl ?_
    refine j_iaload (pc2 := 15) (n := 5) rfl ho1.k.2.2.2.1 (by omega) (by have := ho1.k.1; omega) rfl hF (fun v5 hF => ?_)
    refine j_join (P := fun (a7 : Int32) (s6 : ZS) => zz_wp zt_ms zt_nm zt_df (zt_X L xs) 0 zt_m85 24 [(0, .ref o1), (1, .int a7), (2, .int a2.2)] [] (zk b s6) (qI b w)) hF (fun a7 s6 hF => ?_) (fun k8 hk8 hF => ?_)
    · refine w_iinc (pc2 := 27) (ls2 := [(2, .int ((a2.2 + (1 : Int32)))), (0, .ref o1), (1, .int a7)]) rfl rfl rfl rfl ?_
      refine w_goto rfl ?_
      exact j_norm (l := [(0, .ref o1), (1, .int a7), (2, .int ((a2.2 + (1 : Int32))))]) ⟨rfl, rfl, rfl, trivial⟩ (zz_nd_of (ks := [0, 1, 2]) rfl (by decide)) (hg4 (a7, (a2.2 + (1 : Int32))) s6 hF)
    · refine j_if_le (pc2 := 18) rfl rfl hF (fun hF => ?_) (fun hF => ?_)
      · exact j_norm (l := [(0, .ref o1), (1, .int a2.1), (2, .int a2.2)]) ⟨rfl, rfl, rfl, trivial⟩ (zz_nd_of (ks := [0, 1, 2]) rfl (by decide)) (hk8 a2.1 s3 hF)
      · refine w_iload_n (pc2 := 19) rfl rfl rfl ?_
        refine w_iconst (pc2 := 20) rfl rfl ?_
        refine w_iload_n (pc2 := 21) rfl rfl rfl ?_
        refine w_ishl (pc2 := 22) rfl rfl ?_
        refine w_ior (pc2 := 23) rfl rfl ?_
        refine w_istore_n (pc2 := 24) (ls2 := [(1, .int ((a2.1 ||| ((1 : Int32) <<< (a2.2 &&& (31 : Int32)))))), (0, .ref o1), (2, .int a2.2)]) rfl rfl rfl ?_
        exact j_norm (l := [(0, .ref o1), (1, .int ((a2.1 ||| ((1 : Int32) <<< (a2.2 &&& (31 : Int32)))))), (2, .int a2.2)]) ⟨rfl, rfl, rfl, trivial⟩ (zz_nd_of (ks := [0, 1, 2]) rfl (by decide)) (hk8 (a2.1 ||| ((1 : Int32) <<< (a2.2 &&& (31 : Int32)))) s3 hF)
noncomputable def f_Int_bitCount (p1 : Int32) (s0 : ZS) : Option (Int32 × ZS) := some (((((((((p1 - (((p1.toUInt32 >>> ((1 : Int32).toUInt32 &&& Int32.toUInt32 31)).toInt32) &&& (1431655765 : Int32))) &&& (858993459 : Int32)) + ((((p1 - (((p1.toUInt32 >>> ((1 : Int32).toUInt32 &&& Int32.toUInt32 31)).toInt32) &&& (1431655765 : Int32))).toUInt32 >>> ((2 : Int32).toUInt32 &&& Int32.toUInt32 31)).toInt32) &&& (858993459 : Int32))) + (((((p1 - (((p1.toUInt32 >>> ((1 : Int32).toUInt32 &&& Int32.toUInt32 31)).toInt32) &&& (1431655765 : Int32))) &&& (858993459 : Int32)) + ((((p1 - (((p1.toUInt32 >>> ((1 : Int32).toUInt32 &&& Int32.toUInt32 31)).toInt32) &&& (1431655765 : Int32))).toUInt32 >>> ((2 : Int32).toUInt32 &&& Int32.toUInt32 31)).toInt32) &&& (858993459 : Int32))).toUInt32 >>> ((4 : Int32).toUInt32 &&& Int32.toUInt32 31)).toInt32)) &&& (252645135 : Int32)) + (((((((p1 - (((p1.toUInt32 >>> ((1 : Int32).toUInt32 &&& Int32.toUInt32 31)).toInt32) &&& (1431655765 : Int32))) &&& (858993459 : Int32)) + ((((p1 - (((p1.toUInt32 >>> ((1 : Int32).toUInt32 &&& Int32.toUInt32 31)).toInt32) &&& (1431655765 : Int32))).toUInt32 >>> ((2 : Int32).toUInt32 &&& Int32.toUInt32 31)).toInt32) &&& (858993459 : Int32))) + (((((p1 - (((p1.toUInt32 >>> ((1 : Int32).toUInt32 &&& Int32.toUInt32 31)).toInt32) &&& (1431655765 : Int32))) &&& (858993459 : Int32)) + ((((p1 - (((p1.toUInt32 >>> ((1 : Int32).toUInt32 &&& Int32.toUInt32 31)).toInt32) &&& (1431655765 : Int32))).toUInt32 >>> ((2 : Int32).toUInt32 &&& Int32.toUInt32 31)).toInt32) &&& (858993459 : Int32))).toUInt32 >>> ((4 : Int32).toUInt32 &&& Int32.toUInt32 31)).toInt32)) &&& (252645135 : Int32)).toUInt32 >>> ((8 : Int32).toUInt32 &&& Int32.toUInt32 31)).toInt32)) + ((((((((p1 - (((p1.toUInt32 >>> ((1 : Int32).toUInt32 &&& Int32.toUInt32 31)).toInt32) &&& (1431655765 : Int32))) &&& (858993459 : Int32)) + ((((p1 - (((p1.toUInt32 >>> ((1 : Int32).toUInt32 &&& Int32.toUInt32 31)).toInt32) &&& (1431655765 : Int32))).toUInt32 >>> ((2 : Int32).toUInt32 &&& Int32.toUInt32 31)).toInt32) &&& (858993459 : Int32))) + (((((p1 - (((p1.toUInt32 >>> ((1 : Int32).toUInt32 &&& Int32.toUInt32 31)).toInt32) &&& (1431655765 : Int32))) &&& (858993459 : Int32)) + ((((p1 - (((p1.toUInt32 >>> ((1 : Int32).toUInt32 &&& Int32.toUInt32 31)).toInt32) &&& (1431655765 : Int32))).toUInt32 >>> ((2 : Int32).toUInt32 &&& Int32.toUInt32 31)).toInt32) &&& (858993459 : Int32))).toUInt32 >>> ((4 : Int32).toUInt32 &&& Int32.toUInt32 31)).toInt32)) &&& (252645135 : Int32)) + (((((((p1 - (((p1.toUInt32 >>> ((1 : Int32).toUInt32 &&& Int32.toUInt32 31)).toInt32) &&& (1431655765 : Int32))) &&& (858993459 : Int32)) + ((((p1 - (((p1.toUInt32 >>> ((1 : Int32).toUInt32 &&& Int32.toUInt32 31)).toInt32) &&& (1431655765 : Int32))).toUInt32 >>> ((2 : Int32).toUInt32 &&& Int32.toUInt32 31)).toInt32) &&& (858993459 : Int32))) + (((((p1 - (((p1.toUInt32 >>> ((1 : Int32).toUInt32 &&& Int32.toUInt32 31)).toInt32) &&& (1431655765 : Int32))) &&& (858993459 : Int32)) + ((((p1 - (((p1.toUInt32 >>> ((1 : Int32).toUInt32 &&& Int32.toUInt32 31)).toInt32) &&& (1431655765 : Int32))).toUInt32 >>> ((2 : Int32).toUInt32 &&& Int32.toUInt32 31)).toInt32) &&& (858993459 : Int32))).toUInt32 >>> ((4 : Int32).toUInt32 &&& Int32.toUInt32 31)).toInt32)) &&& (252645135 : Int32)).toUInt32 >>> ((8 : Int32).toUInt32 &&& Int32.toUInt32 31)).toInt32)).toUInt32 >>> ((16 : Int32).toUInt32 &&& Int32.toUInt32 31)).toInt32)) &&& (63 : Int32)), s0)
set_option maxHeartbeats 4000000 in
set_option maxRecDepth 100000 in
theorem ok_Int_bitCount {L : Nat} {xs : Nat → Int32} {b : ZH} {p1 : Int32} {s0 : ZS} {w : Int32 × ZS} (hF : f_Int_bitCount p1 s0 = some w) : zz_ct zt_ms zt_nm zt_df (zt_X L xs) 0 zt_m260 [.int p1] (zk b s0) (qI b w) := by
  unfold f_Int_bitCount at hF
  change zz_wp zt_ms zt_nm zt_df (zt_X L xs) 0 zt_m260 0 [(0, .int p1)] [] (zk b s0) (qI b w)
  refine w_iload_n (pc2 := 1) rfl rfl rfl ?_
  refine w_iload_n (pc2 := 2) rfl rfl rfl ?_
  refine w_iconst (pc2 := 3) rfl rfl ?_
  refine w_iushr (pc2 := 4) rfl rfl ?_
  refine w_ldc_w (pc2 := 7) rfl rfl ?_
  refine w_iand (pc2 := 8) rfl rfl ?_
  refine w_isub (pc2 := 9) rfl rfl ?_
  refine w_istore_n (pc2 := 10) (ls2 := [(0, .int ((p1 - (((p1.toUInt32 >>> ((1 : Int32).toUInt32 &&& Int32.toUInt32 31)).toInt32) &&& (1431655765 : Int32)))))]) rfl rfl rfl ?_
  refine w_iload_n (pc2 := 11) rfl rfl rfl ?_
  refine w_ldc_w (pc2 := 14) rfl rfl ?_
  refine w_iand (pc2 := 15) rfl rfl ?_
  refine w_iload_n (pc2 := 16) rfl rfl rfl ?_
  refine w_iconst (pc2 := 17) rfl rfl ?_
  refine w_iushr (pc2 := 18) rfl rfl ?_
  refine w_ldc_w (pc2 := 21) rfl rfl ?_
  refine w_iand (pc2 := 22) rfl rfl ?_
  refine w_iadd (pc2 := 23) rfl rfl ?_
  refine w_istore_n (pc2 := 24) (ls2 := [(0, .int ((((p1 - (((p1.toUInt32 >>> ((1 : Int32).toUInt32 &&& Int32.toUInt32 31)).toInt32) &&& (1431655765 : Int32))) &&& (858993459 : Int32)) + ((((p1 - (((p1.toUInt32 >>> ((1 : Int32).toUInt32 &&& Int32.toUInt32 31)).toInt32) &&& (1431655765 : Int32))).toUInt32 >>> ((2 : Int32).toUInt32 &&& Int32.toUInt32 31)).toInt32) &&& (858993459 : Int32)))))]) rfl rfl rfl ?_
  refine w_iload_n (pc2 := 25) rfl rfl rfl ?_
  refine w_iload_n (pc2 := 26) rfl rfl rfl ?_
  refine w_iconst (pc2 := 27) rfl rfl ?_
  refine w_iushr (pc2 := 28) rfl rfl ?_
  refine w_iadd (pc2 := 29) rfl rfl ?_
  refine w_ldc_w (pc2 := 32) rfl rfl ?_
  refine w_iand (pc2 := 33) rfl rfl ?_
  refine w_istore_n (pc2 := 34) (ls2 := [(0, .int ((((((p1 - (((p1.toUInt32 >>> ((1 : Int32).toUInt32 &&& Int32.toUInt32 31)).toInt32) &&& (1431655765 : Int32))) &&& (858993459 : Int32)) + ((((p1 - (((p1.toUInt32 >>> ((1 : Int32).toUInt32 &&& Int32.toUInt32 31)).toInt32) &&& (1431655765 : Int32))).toUInt32 >>> ((2 : Int32).toUInt32 &&& Int32.toUInt32 31)).toInt32) &&& (858993459 : Int32))) + (((((p1 - (((p1.toUInt32 >>> ((1 : Int32).toUInt32 &&& Int32.toUInt32 31)).toInt32) &&& (1431655765 : Int32))) &&& (858993459 : Int32)) + ((((p1 - (((p1.toUInt32 >>> ((1 : Int32).toUInt32 &&& Int32.toUInt32 31)).toInt32) &&& (1431655765 : Int32))).toUInt32 >>> ((2 : Int32).toUInt32 &&& Int32.toUInt32 31)).toInt32) &&& (858993459 : Int32))).toUInt32 >>> ((4 : Int32).toUInt32 &&& Int32.toUInt32 31)).toInt32)) &&& (252645135 : Int32))))]) rfl rfl rfl ?_
  refine w_iload_n (pc2 := 35) rfl rfl rfl ?_
  refine w_iload_n (pc2 := 36) rfl rfl rfl ?_
  refine w_bipush (pc2 := 38) rfl rfl ?_
  refine w_iushr (pc2 := 39) rfl rfl ?_
  refine w_iadd (pc2 := 40) rfl rfl ?_
  refine w_istore_n (pc2 := 41) (ls2 := [(0, .int (((((((p1 - (((p1.toUInt32 >>> ((1 : Int32).toUInt32 &&& Int32.toUInt32 31)).toInt32) &&& (1431655765 : Int32))) &&& (858993459 : Int32)) + ((((p1 - (((p1.toUInt32 >>> ((1 : Int32).toUInt32 &&& Int32.toUInt32 31)).toInt32) &&& (1431655765 : Int32))).toUInt32 >>> ((2 : Int32).toUInt32 &&& Int32.toUInt32 31)).toInt32) &&& (858993459 : Int32))) + (((((p1 - (((p1.toUInt32 >>> ((1 : Int32).toUInt32 &&& Int32.toUInt32 31)).toInt32) &&& (1431655765 : Int32))) &&& (858993459 : Int32)) + ((((p1 - (((p1.toUInt32 >>> ((1 : Int32).toUInt32 &&& Int32.toUInt32 31)).toInt32) &&& (1431655765 : Int32))).toUInt32 >>> ((2 : Int32).toUInt32 &&& Int32.toUInt32 31)).toInt32) &&& (858993459 : Int32))).toUInt32 >>> ((4 : Int32).toUInt32 &&& Int32.toUInt32 31)).toInt32)) &&& (252645135 : Int32)) + (((((((p1 - (((p1.toUInt32 >>> ((1 : Int32).toUInt32 &&& Int32.toUInt32 31)).toInt32) &&& (1431655765 : Int32))) &&& (858993459 : Int32)) + ((((p1 - (((p1.toUInt32 >>> ((1 : Int32).toUInt32 &&& Int32.toUInt32 31)).toInt32) &&& (1431655765 : Int32))).toUInt32 >>> ((2 : Int32).toUInt32 &&& Int32.toUInt32 31)).toInt32) &&& (858993459 : Int32))) + (((((p1 - (((p1.toUInt32 >>> ((1 : Int32).toUInt32 &&& Int32.toUInt32 31)).toInt32) &&& (1431655765 : Int32))) &&& (858993459 : Int32)) + ((((p1 - (((p1.toUInt32 >>> ((1 : Int32).toUInt32 &&& Int32.toUInt32 31)).toInt32) &&& (1431655765 : Int32))).toUInt32 >>> ((2 : Int32).toUInt32 &&& Int32.toUInt32 31)).toInt32) &&& (858993459 : Int32))).toUInt32 >>> ((4 : Int32).toUInt32 &&& Int32.toUInt32 31)).toInt32)) &&& (252645135 : Int32)).toUInt32 >>> ((8 : Int32).toUInt32 &&& Int32.toUInt32 31)).toInt32))))]) rfl rfl rfl ?_
  refine w_iload_n (pc2 := 42) rfl rfl rfl ?_
  refine w_iload_n (pc2 := 43) rfl rfl rfl ?_
  refine w_bipush (pc2 := 45) rfl rfl ?_
  refine w_iushr (pc2 := 46) rfl rfl ?_
  refine w_iadd (pc2 := 47) rfl rfl ?_
  refine w_istore_n (pc2 := 48) (ls2 := [(0, .int ((((((((p1 - (((p1.toUInt32 >>> ((1 : Int32).toUInt32 &&& Int32.toUInt32 31)).toInt32) &&& (1431655765 : Int32))) &&& (858993459 : Int32)) + ((((p1 - (((p1.toUInt32 >>> ((1 : Int32).toUInt32 &&& Int32.toUInt32 31)).toInt32) &&& (1431655765 : Int32))).toUInt32 >>> ((2 : Int32).toUInt32 &&& Int32.toUInt32 31)).toInt32) &&& (858993459 : Int32))) + (((((p1 - (((p1.toUInt32 >>> ((1 : Int32).toUInt32 &&& Int32.toUInt32 31)).toInt32) &&& (1431655765 : Int32))) &&& (858993459 : Int32)) + ((((p1 - (((p1.toUInt32 >>> ((1 : Int32).toUInt32 &&& Int32.toUInt32 31)).toInt32) &&& (1431655765 : Int32))).toUInt32 >>> ((2 : Int32).toUInt32 &&& Int32.toUInt32 31)).toInt32) &&& (858993459 : Int32))).toUInt32 >>> ((4 : Int32).toUInt32 &&& Int32.toUInt32 31)).toInt32)) &&& (252645135 : Int32)) + (((((((p1 - (((p1.toUInt32 >>> ((1 : Int32).toUInt32 &&& Int32.toUInt32 31)).toInt32) &&& (1431655765 : Int32))) &&& (858993459 : Int32)) + ((((p1 - (((p1.toUInt32 >>> ((1 : Int32).toUInt32 &&& Int32.toUInt32 31)).toInt32) &&& (1431655765 : Int32))).toUInt32 >>> ((2 : Int32).toUInt32 &&& Int32.toUInt32 31)).toInt32) &&& (858993459 : Int32))) + (((((p1 - (((p1.toUInt32 >>> ((1 : Int32).toUInt32 &&& Int32.toUInt32 31)).toInt32) &&& (1431655765 : Int32))) &&& (858993459 : Int32)) + ((((p1 - (((p1.toUInt32 >>> ((1 : Int32).toUInt32 &&& Int32.toUInt32 31)).toInt32) &&& (1431655765 : Int32))).toUInt32 >>> ((2 : Int32).toUInt32 &&& Int32.toUInt32 31)).toInt32) &&& (858993459 : Int32))).toUInt32 >>> ((4 : Int32).toUInt32 &&& Int32.toUInt32 31)).toInt32)) &&& (252645135 : Int32)).toUInt32 >>> ((8 : Int32).toUInt32 &&& Int32.toUInt32 31)).toInt32)) + ((((((((p1 - (((p1.toUInt32 >>> ((1 : Int32).toUInt32 &&& Int32.toUInt32 31)).toInt32) &&& (1431655765 : Int32))) &&& (858993459 : Int32)) + ((((p1 - (((p1.toUInt32 >>> ((1 : Int32).toUInt32 &&& Int32.toUInt32 31)).toInt32) &&& (1431655765 : Int32))).toUInt32 >>> ((2 : Int32).toUInt32 &&& Int32.toUInt32 31)).toInt32) &&& (858993459 : Int32))) + (((((p1 - (((p1.toUInt32 >>> ((1 : Int32).toUInt32 &&& Int32.toUInt32 31)).toInt32) &&& (1431655765 : Int32))) &&& (858993459 : Int32)) + ((((p1 - (((p1.toUInt32 >>> ((1 : Int32).toUInt32 &&& Int32.toUInt32 31)).toInt32) &&& (1431655765 : Int32))).toUInt32 >>> ((2 : Int32).toUInt32 &&& Int32.toUInt32 31)).toInt32) &&& (858993459 : Int32))).toUInt32 >>> ((4 : Int32).toUInt32 &&& Int32.toUInt32 31)).toInt32)) &&& (252645135 : Int32)) + (((((((p1 - (((p1.toUInt32 >>> ((1 : Int32).toUInt32 &&& Int32.toUInt32 31)).toInt32) &&& (1431655765 : Int32))) &&& (858993459 : Int32)) + ((((p1 - (((p1.toUInt32 >>> ((1 : Int32).toUInt32 &&& Int32.toUInt32 31)).toInt32) &&& (1431655765 : Int32))).toUInt32 >>> ((2 : Int32).toUInt32 &&& Int32.toUInt32 31)).toInt32) &&& (858993459 : Int32))) + (((((p1 - (((p1.toUInt32 >>> ((1 : Int32).toUInt32 &&& Int32.toUInt32 31)).toInt32) &&& (1431655765 : Int32))) &&& (858993459 : Int32)) + ((((p1 - (((p1.toUInt32 >>> ((1 : Int32).toUInt32 &&& Int32.toUInt32 31)).toInt32) &&& (1431655765 : Int32))).toUInt32 >>> ((2 : Int32).toUInt32 &&& Int32.toUInt32 31)).toInt32) &&& (858993459 : Int32))).toUInt32 >>> ((4 : Int32).toUInt32 &&& Int32.toUInt32 31)).toInt32)) &&& (252645135 : Int32)).toUInt32 >>> ((8 : Int32).toUInt32 &&& Int32.toUInt32 31)).toInt32)).toUInt32 >>> ((16 : Int32).toUInt32 &&& Int32.toUInt32 31)).toInt32))))]) rfl rfl rfl ?_
  refine w_iload_n (pc2 := 49) rfl rfl rfl ?_
  refine w_bipush (pc2 := 51) rfl rfl ?_
  refine w_iand (pc2 := 52) rfl rfl ?_
  exact j_iret rfl rfl hF
noncomputable def f_Mill_tellPair (o1 : Nat) (p2 : Int32) (s0 : ZS) : Option (ZS) := zcl (f_State_banded o1 s0) (fun (v4 : Int32) (s3 : ZS) => zwf s3 203 0 (p2.toInt64) (fun (s5 : ZS) => zrd 5 p2 (s5.1 (o1 + 1)) (fun (v6 : Int32) => zwf s5 203 2 (v6.toInt64) (fun (s7 : ZS) => zrd 5 p2 (s7.1 6) (fun (v8 : Int32) => zwf s7 203 3 (v8.toInt64) (fun (s9 : ZS) => zrd 5 p2 (s9.1 7) (fun (v10 : Int32) => zcl (f_Int_bitCount ((v10 &&& (v4 ^^^ (-1 : Int32)))) s9) (fun (v12 : Int32) (s11 : ZS) => zwf s11 203 7 (v12.toInt64) (fun (s13 : ZS) => zcl (f_Int_bitCount v4 s13) (fun (v15 : Int32) (s14 : ZS) => zwf s14 203 8 (v15.toInt64) (fun (s16 : ZS) => zgi (s16.1 o1 1) (fun (v17 : Int32) => zwf s16 203 9 (v17.toInt64) (fun (s18 : ZS) => zgi (s18.1 o1 0) (fun (v19 : Int32) => zwf s18 203 10 (v19.toInt64) (fun (s20 : ZS) => some s20)))))))))))))))
set_option maxHeartbeats 4000000 in
set_option maxRecDepth 100000 in
theorem ok_Mill_tellPair {L : Nat} {xs : Nat → Int32} {b : ZH} {o1 : Nat} {p2 : Int32} (ho1 : zk_isState o1) {s0 : ZS} {w : ZS} (hF : f_Mill_tellPair o1 p2 s0 = some w) : zz_ct zt_ms zt_nm zt_df (zt_X L xs) 1 zt_m43 [.ref 202, .ref o1, .int p2] (zk b s0) (qV b w) := by
  unfold f_Mill_tellPair at hF
  change zz_wp zt_ms zt_nm zt_df (zt_X L xs) 1 zt_m43 0 [(0, .ref 202), (1, .ref o1), (2, .int p2)] [] (zk b s0) (qV b w)
  refine w_aload_n (pc2 := 1) rfl rfl rfl ?_
  refine j_cIv (pc2 := 4) (k := 0) (c := zt_m85) (as := [.ref o1]) (rest := []) rfl rfl rfl rfl (zk_cState ho1).look rfl (Nat.le_of_ble_eq_true rfl) (Nat.le_of_ble_eq_true rfl) (fun w1 h1 => ok_State_banded ho1 h1) (by decide) rfl hF (fun v4 s3 hF => ?_)
  refine w_istore_n (pc2 := 5) (ls2 := [(3, .int v4), (0, .ref 202), (1, .ref o1), (2, .int p2)]) rfl rfl rfl ?_
  refine w_aload_n (pc2 := 6) rfl rfl rfl ?_
  refine w_getfield (pc2 := 9) rfl zk_cMill rfl rfl rfl ?_
  refine w_iconst (pc2 := 10) rfl rfl ?_
  refine w_iload_n (pc2 := 11) rfl rfl rfl ?_
  refine w_i2l (pc2 := 12) rfl rfl ?_
  refine j_lastoreC (pc2 := 13) (n := 11) (j := 0) rfl rfl (by decide) (by decide) (by decide) (by decide) rfl hF (fun s5 hF => ?_)
  refine w_aload_n (pc2 := 14) rfl rfl rfl ?_
  refine w_getfield (pc2 := 17) rfl zk_cMill rfl rfl rfl ?_
  refine w_iconst (pc2 := 18) rfl rfl ?_
  refine w_aload_n (pc2 := 19) rfl rfl rfl ?_
  refine w_getfield (pc2 := 22) rfl (zk_cState ho1) rfl rfl rfl ?_
  refine w_iload_n (pc2 := 23) rfl rfl rfl ?_
  refine j_iaload (pc2 := 24) (n := 5) rfl ho1.k.2.2.1 (by omega) (by have := ho1.k.1; omega) rfl hF (fun v6 hF => ?_)
  refine w_i2l (pc2 := 25) rfl rfl ?_
  refine j_lastoreC (pc2 := 26) (n := 11) (j := 2) rfl rfl (by decide) (by decide) (by decide) (by decide) rfl hF (fun s7 hF => ?_)
  refine w_aload_n (pc2 := 27) rfl rfl rfl ?_
  refine w_getfield (pc2 := 30) rfl zk_cMill rfl rfl rfl ?_
  refine w_iconst (pc2 := 31) rfl rfl ?_
  refine w_aload_n (pc2 := 32) rfl rfl rfl ?_
  refine w_getfield (pc2 := 35) rfl zk_cMill rfl rfl rfl ?_
  refine w_getfield (pc2 := 38) rfl (zk_cSmithy zk_sm4) rfl rfl rfl ?_
  refine w_iload_n (pc2 := 39) rfl rfl rfl ?_
  refine j_iaload (pc2 := 40) (n := 5) rfl rfl (by omega) (by decide) rfl hF (fun v8 hF => ?_)
  refine w_i2l (pc2 := 41) rfl rfl ?_
  refine j_lastoreC (pc2 := 42) (n := 11) (j := 3) rfl rfl (by decide) (by decide) (by decide) (by decide) rfl hF (fun s9 hF => ?_)
  refine w_aload_n (pc2 := 43) rfl rfl rfl ?_
  refine w_getfield (pc2 := 46) rfl zk_cMill rfl rfl rfl ?_
  refine w_bipush (pc2 := 48) rfl rfl ?_
  refine w_aload_n (pc2 := 49) rfl rfl rfl ?_
  refine w_getfield (pc2 := 52) rfl zk_cMill rfl rfl rfl ?_
  refine w_getfield (pc2 := 55) rfl (zk_cSmithy zk_sm4) rfl rfl rfl ?_
  refine w_iload_n (pc2 := 56) rfl rfl rfl ?_
  refine j_iaload (pc2 := 57) (n := 5) rfl rfl (by omega) (by decide) rfl hF (fun v10 hF => ?_)
  refine w_iload_n (pc2 := 58) rfl rfl rfl ?_
  refine w_iconst (pc2 := 59) rfl rfl ?_
  refine w_ixor (pc2 := 60) rfl rfl ?_
  refine w_iand (pc2 := 61) rfl rfl ?_
  refine j_cIs (pc2 := 64) (k := 0) (c := zt_m260) (as := [.int ((v10 &&& (v4 ^^^ (-1 : Int32))))]) (rest := [.int (7 : Int32), .ref 203]) rfl rfl rfl (Nat.le_of_ble_eq_true rfl) rfl rfl (Nat.le_of_ble_eq_true rfl) (Nat.le_of_ble_eq_true rfl) (fun w1 h1 => ok_Int_bitCount h1) (by decide) rfl hF (fun v12 s11 hF => ?_)
  refine w_i2l (pc2 := 65) rfl rfl ?_
  refine j_lastoreC (pc2 := 66) (n := 11) (j := 7) rfl rfl (by decide) (by decide) (by decide) (by decide) rfl hF (fun s13 hF => ?_)
  refine w_aload_n (pc2 := 67) rfl rfl rfl ?_
  refine w_getfield (pc2 := 70) rfl zk_cMill rfl rfl rfl ?_
  refine w_bipush (pc2 := 72) rfl rfl ?_
  refine w_iload_n (pc2 := 73) rfl rfl rfl ?_
  refine j_cIs (pc2 := 76) (k := 0) (c := zt_m260) (as := [.int v4]) (rest := [.int (8 : Int32), .ref 203]) rfl rfl rfl (Nat.le_of_ble_eq_true rfl) rfl rfl (Nat.le_of_ble_eq_true rfl) (Nat.le_of_ble_eq_true rfl) (fun w1 h1 => ok_Int_bitCount h1) (by decide) rfl hF (fun v15 s14 hF => ?_)
  refine w_i2l (pc2 := 77) rfl rfl ?_
  refine j_lastoreC (pc2 := 78) (n := 11) (j := 8) rfl rfl (by decide) (by decide) (by decide) (by decide) rfl hF (fun s16 hF => ?_)
  refine w_aload_n (pc2 := 79) rfl rfl rfl ?_
  refine w_getfield (pc2 := 82) rfl zk_cMill rfl rfl rfl ?_
  refine w_bipush (pc2 := 84) rfl rfl ?_
  refine w_aload_n (pc2 := 85) rfl rfl rfl ?_
  refine j_geti (pc2 := 88) rfl (zk_cState ho1) rfl rfl rfl hF (fun v17 hF => ?_)
  refine w_i2l (pc2 := 89) rfl rfl ?_
  refine j_lastoreC (pc2 := 90) (n := 11) (j := 9) rfl rfl (by decide) (by decide) (by decide) (by decide) rfl hF (fun s18 hF => ?_)
  refine w_aload_n (pc2 := 91) rfl rfl rfl ?_
  refine w_getfield (pc2 := 94) rfl zk_cMill rfl rfl rfl ?_
  refine w_bipush (pc2 := 96) rfl rfl ?_
  refine w_aload_n (pc2 := 97) rfl rfl rfl ?_
  refine j_geti (pc2 := 100) rfl (zk_cState ho1) rfl rfl rfl hF (fun v19 hF => ?_)
  refine w_i2l (pc2 := 101) rfl rfl ?_
  refine j_lastoreC (pc2 := 102) (n := 11) (j := 10) rfl rfl (by decide) (by decide) (by decide) (by decide) rfl hF (fun s20 hF => ?_)
  exact j_vret rfl rfl hF
noncomputable def f_Smithy_weight (o1 : Nat) (p2 : Int32) (p3 : Int32) (s0 : ZS) : Option (Int32 × ZS) := zrd 6 p3 (s0.1 (o1 + 4)) (fun (v4 : Int32) => zrd 30 (((p2 * (6 : Int32)) + p3)) (s0.1 (o1 + 5)) (fun (v5 : Int32) => some ((v4 + v5), s0)))
set_option maxHeartbeats 4000000 in
set_option maxRecDepth 100000 in
theorem ok_Smithy_weight {L : Nat} {xs : Nat → Int32} {b : ZH} {o1 : Nat} {p2 : Int32} {p3 : Int32} (ho1 : zk_isSmithy o1) {s0 : ZS} {w : Int32 × ZS} (hF : f_Smithy_weight o1 p2 p3 s0 = some w) : zz_ct zt_ms zt_nm zt_df (zt_X L xs) 0 zt_m81 [.ref o1, .int p2, .int p3] (zk b s0) (qI b w) := by
  unfold f_Smithy_weight at hF
  change zz_wp zt_ms zt_nm zt_df (zt_X L xs) 0 zt_m81 0 [(0, .ref o1), (1, .int p2), (2, .int p3)] [] (zk b s0) (qI b w)
  refine w_aload_n (pc2 := 1) rfl rfl rfl ?_
  refine w_getfield (pc2 := 4) rfl (zk_cSmithy ho1) rfl rfl rfl ?_
  refine w_iload_n (pc2 := 5) rfl rfl rfl ?_
  refine j_iaload (pc2 := 6) (n := 6) rfl ho1.k.2.2.2.2.2.1 (by omega) (by have := ho1.k.1; omega) rfl hF (fun v4 hF => ?_)
  refine w_aload_n (pc2 := 7) rfl rfl rfl ?_
  refine w_getfield (pc2 := 10) rfl (zk_cSmithy ho1) rfl rfl rfl ?_
  refine w_iload_n (pc2 := 11) rfl rfl rfl ?_
  refine w_bipush (pc2 := 13) rfl rfl ?_
  refine w_imul (pc2 := 14) rfl rfl ?_
  refine w_iload_n (pc2 := 15) rfl rfl rfl ?_
  refine w_iadd (pc2 := 16) rfl rfl ?_
  refine j_iaload (pc2 := 17) (n := 30) rfl ho1.k.2.2.2.2.2.2 (by omega) (by have := ho1.k.1; omega) rfl hF (fun v5 hF => ?_)
  refine w_iadd (pc2 := 18) rfl rfl ?_
  exact j_iret rfl rfl hF
noncomputable def f_Mill_tellSaying (o1 : Nat) (p2 : Int32) (p3 : Int32) (s0 : ZS) : Option (ZS) := zwf s0 203 1 (p3.toInt64) (fun (s4 : ZS) => zrd 6 p3 (s4.1 8) (fun (v5 : Int32) => zwf s4 203 4 (v5.toInt64) (fun (s6 : ZS) => zrd 30 (((p2 * (6 : Int32)) + p3)) (s6.1 9) (fun (v7 : Int32) => zwf s6 203 5 (v7.toInt64) (fun (s8 : ZS) => zrd 30 (((p2 * (6 : Int32)) + p3)) (s8.1 (o1 + 4)) (fun (v9 : Int32) => zwf s8 203 6 (v9.toInt64) (fun (s10 : ZS) => some s10)))))))
set_option maxHeartbeats 4000000 in
set_option maxRecDepth 100000 in
theorem ok_Mill_tellSaying {L : Nat} {xs : Nat → Int32} {b : ZH} {o1 : Nat} {p2 : Int32} {p3 : Int32} (ho1 : zk_isState o1) {s0 : ZS} {w : ZS} (hF : f_Mill_tellSaying o1 p2 p3 s0 = some w) : zz_ct zt_ms zt_nm zt_df (zt_X L xs) 0 zt_m44 [.ref 202, .ref o1, .int p2, .int p3] (zk b s0) (qV b w) := by
  unfold f_Mill_tellSaying at hF
  change zz_wp zt_ms zt_nm zt_df (zt_X L xs) 0 zt_m44 0 [(0, .ref 202), (1, .ref o1), (2, .int p2), (3, .int p3)] [] (zk b s0) (qV b w)
  refine w_iload_n (pc2 := 1) rfl rfl rfl ?_
  refine w_bipush (pc2 := 3) rfl rfl ?_
  refine w_imul (pc2 := 4) rfl rfl ?_
  refine w_iload_n (pc2 := 5) rfl rfl rfl ?_
  refine w_iadd (pc2 := 6) rfl rfl ?_
  refine w_istore (pc2 := 8) (ls2 := [(4, .int (((p2 * (6 : Int32)) + p3))), (0, .ref 202), (1, .ref o1), (2, .int p2), (3, .int p3)]) rfl rfl rfl ?_
  refine w_aload_n (pc2 := 9) rfl rfl rfl ?_
  refine w_getfield (pc2 := 12) rfl zk_cMill rfl rfl rfl ?_
  refine w_iconst (pc2 := 13) rfl rfl ?_
  refine w_iload_n (pc2 := 14) rfl rfl rfl ?_
  refine w_i2l (pc2 := 15) rfl rfl ?_
  refine j_lastoreC (pc2 := 16) (n := 11) (j := 1) rfl rfl (by decide) (by decide) (by decide) (by decide) rfl hF (fun s4 hF => ?_)
  refine w_aload_n (pc2 := 17) rfl rfl rfl ?_
  refine w_getfield (pc2 := 20) rfl zk_cMill rfl rfl rfl ?_
  refine w_iconst (pc2 := 21) rfl rfl ?_
  refine w_aload_n (pc2 := 22) rfl rfl rfl ?_
  refine w_getfield (pc2 := 25) rfl zk_cMill rfl rfl rfl ?_
  refine w_getfield (pc2 := 28) rfl (zk_cSmithy zk_sm4) rfl rfl rfl ?_
  refine w_iload_n (pc2 := 29) rfl rfl rfl ?_
  refine j_iaload (pc2 := 30) (n := 6) rfl rfl (by omega) (by decide) rfl hF (fun v5 hF => ?_)
  refine w_i2l (pc2 := 31) rfl rfl ?_
  refine j_lastoreC (pc2 := 32) (n := 11) (j := 4) rfl rfl (by decide) (by decide) (by decide) (by decide) rfl hF (fun s6 hF => ?_)
  refine w_aload_n (pc2 := 33) rfl rfl rfl ?_
  refine w_getfield (pc2 := 36) rfl zk_cMill rfl rfl rfl ?_
  refine w_iconst (pc2 := 37) rfl rfl ?_
  refine w_aload_n (pc2 := 38) rfl rfl rfl ?_
  refine w_getfield (pc2 := 41) rfl zk_cMill rfl rfl rfl ?_
  refine w_getfield (pc2 := 44) rfl (zk_cSmithy zk_sm4) rfl rfl rfl ?_
  refine w_iload (pc2 := 46) rfl rfl rfl ?_
  refine j_iaload (pc2 := 47) (n := 30) rfl rfl (by omega) (by decide) rfl hF (fun v7 hF => ?_)
  refine w_i2l (pc2 := 48) rfl rfl ?_
  refine j_lastoreC (pc2 := 49) (n := 11) (j := 5) rfl rfl (by decide) (by decide) (by decide) (by decide) rfl hF (fun s8 hF => ?_)
  refine w_aload_n (pc2 := 50) rfl rfl rfl ?_
  refine w_getfield (pc2 := 53) rfl zk_cMill rfl rfl rfl ?_
  refine w_bipush (pc2 := 55) rfl rfl ?_
  refine w_aload_n (pc2 := 56) rfl rfl rfl ?_
  refine w_getfield (pc2 := 59) rfl (zk_cState ho1) rfl rfl rfl ?_
  refine w_iload (pc2 := 61) rfl rfl rfl ?_
  refine j_iaload (pc2 := 62) (n := 30) rfl ho1.k.2.2.2.2.2 (by omega) (by have := ho1.k.1; omega) rfl hF (fun v9 hF => ?_)
  refine w_i2l (pc2 := 63) rfl rfl ?_
  refine j_lastoreC (pc2 := 64) (n := 11) (j := 6) rfl rfl (by decide) (by decide) (by decide) (by decide) rfl hF (fun s10 hF => ?_)
  exact j_vret rfl rfl hF
noncomputable def f_Rule_joined (p1 : Int32) (p2 : Int64) (p3 : Int64) (s0 : ZS) : Option (Int64 × ZS) := (if p1 = (2 : Int32) then some ((p2 + p3), s0) else (if p1 = (3 : Int32) then some ((p2 - p3), s0) else (if p1 = (4 : Int32) then some ((p2 * p3), s0) else (if p1 = (5 : Int32) then (if ¬ (lg_cmp p3 (0 : Int64)) = 0 then zdl p3 (some ((p2 / p3), s0)) else some ((0 : Int64), s0)) else (if p1 = (6 : Int32) then (if ¬ (lg_cmp p3 (0 : Int64)) = 0 then zdl p3 (some ((p2 - p2 / p3 * p3), s0)) else some ((0 : Int64), s0)) else (if p1 = (7 : Int32) then (if 0 ≤ (lg_cmp p2 p3) then some ((0 : Int64), s0) else some ((1 : Int64), s0)) else (if p1 = (8 : Int32) then (if 0 < (lg_cmp p2 p3) then some ((0 : Int64), s0) else some ((1 : Int64), s0)) else (if p1 = (9 : Int32) then (if ¬ (lg_cmp p2 p3) = 0 then some ((0 : Int64), s0) else some ((1 : Int64), s0)) else (if p1 = (10 : Int32) then (if (lg_cmp p2 p3) < 0 then some ((0 : Int64), s0) else some ((1 : Int64), s0)) else (if p1 = (11 : Int32) then (if (lg_cmp p2 p3) ≤ 0 then some ((0 : Int64), s0) else some ((1 : Int64), s0)) else (if p1 = (13 : Int32) then some ((p2 &&& p3), s0) else some ((p2 ||| p3), s0))))))))))))
set_option maxHeartbeats 4000000 in
set_option maxRecDepth 100000 in
theorem ok_Rule_joined {L : Nat} {xs : Nat → Int32} {b : ZH} {p1 : Int32} {p2 : Int64} {p3 : Int64} {s0 : ZS} {w : Int64 × ZS} (hF : f_Rule_joined p1 p2 p3 s0 = some w) : zz_ct zt_ms zt_nm zt_df (zt_X L xs) 0 zt_m53 [.int p1, .long p2, .long p3] (zk b s0) (qL b w) := by
  unfold f_Rule_joined at hF
  change zz_wp zt_ms zt_nm zt_df (zt_X L xs) 0 zt_m53 0 [(0, .int p1), (1, .long p2), (3, .long p3)] [] (zk b s0) (qL b w)
  refine w_iload_n (pc2 := 1) rfl rfl rfl ?_
  by_cases hs2 : p1 = (2 : Int32)
  · rw [if_pos hs2] at hF
    refine j_switch (t := 64) rfl (by rw [hs2]; rfl) ?_
    refine w_lload_n (pc2 := 65) rfl rfl rfl ?_
    refine w_lload_n (pc2 := 66) rfl rfl rfl ?_
    refine w_ladd (pc2 := 67) rfl rfl ?_
    exact j_lret rfl rfl hF
  rw [if_neg hs2] at hF
  by_cases hs3 : p1 = (3 : Int32)
  · rw [if_pos hs3] at hF
    refine j_switch (t := 68) rfl (by rw [hs3]; rfl) ?_
    refine w_lload_n (pc2 := 69) rfl rfl rfl ?_
    refine w_lload_n (pc2 := 70) rfl rfl rfl ?_
    refine w_lsub (pc2 := 71) rfl rfl ?_
    exact j_lret rfl rfl hF
  rw [if_neg hs3] at hF
  by_cases hs4 : p1 = (4 : Int32)
  · rw [if_pos hs4] at hF
    refine j_switch (t := 72) rfl (by rw [hs4]; rfl) ?_
    refine w_lload_n (pc2 := 73) rfl rfl rfl ?_
    refine w_lload_n (pc2 := 74) rfl rfl rfl ?_
    refine w_lmul (pc2 := 75) rfl rfl ?_
    exact j_lret rfl rfl hF
  rw [if_neg hs4] at hF
  by_cases hs5 : p1 = (5 : Int32)
  · rw [if_pos hs5] at hF
    refine j_switch (t := 76) rfl (by rw [hs5]; rfl) ?_
    refine w_lload_n (pc2 := 77) rfl rfl rfl ?_
    refine w_lconst (pc2 := 78) rfl rfl ?_
    refine w_lcmp (pc2 := 79) rfl rfl ?_
    refine j_if_ne (pc2 := 82) rfl rfl hF (fun hF => ?_) (fun hF => ?_)
    · refine w_lload_n (pc2 := 87) rfl rfl rfl ?_
      refine w_lload_n (pc2 := 88) rfl rfl rfl ?_
      refine j_ldiv (pc2 := 89) rfl rfl hF (fun hF => ?_)
      exact j_lret rfl rfl hF
    · refine w_lconst (pc2 := 83) rfl rfl ?_
      refine w_goto rfl ?_
      exact j_lret rfl rfl hF
  rw [if_neg hs5] at hF
  by_cases hs6 : p1 = (6 : Int32)
  · rw [if_pos hs6] at hF
    refine j_switch (t := 90) rfl (by rw [hs6]; rfl) ?_
    refine w_lload_n (pc2 := 91) rfl rfl rfl ?_
    refine w_lconst (pc2 := 92) rfl rfl ?_
    refine w_lcmp (pc2 := 93) rfl rfl ?_
    refine j_if_ne (pc2 := 96) rfl rfl hF (fun hF => ?_) (fun hF => ?_)
    · refine w_lload_n (pc2 := 101) rfl rfl rfl ?_
      refine w_lload_n (pc2 := 102) rfl rfl rfl ?_
      refine j_lrem (pc2 := 103) rfl rfl hF (fun hF => ?_)
      exact j_lret rfl rfl hF
    · refine w_lconst (pc2 := 97) rfl rfl ?_
      refine w_goto rfl ?_
      exact j_lret rfl rfl hF
  rw [if_neg hs6] at hF
  by_cases hs7 : p1 = (7 : Int32)
  · rw [if_pos hs7] at hF
    refine j_switch (t := 104) rfl (by rw [hs7]; rfl) ?_
    refine w_lload_n (pc2 := 105) rfl rfl rfl ?_
    refine w_lload_n (pc2 := 106) rfl rfl rfl ?_
    refine w_lcmp (pc2 := 107) rfl rfl ?_
    refine j_if_ge (pc2 := 110) rfl rfl hF (fun hF => ?_) (fun hF => ?_)
    · refine w_lconst (pc2 := 115) rfl rfl ?_
      exact j_lret rfl rfl hF
    · refine w_lconst (pc2 := 111) rfl rfl ?_
      refine w_goto rfl ?_
      exact j_lret rfl rfl hF
  rw [if_neg hs7] at hF
  by_cases hs8 : p1 = (8 : Int32)
  · rw [if_pos hs8] at hF
    refine j_switch (t := 116) rfl (by rw [hs8]; rfl) ?_
    refine w_lload_n (pc2 := 117) rfl rfl rfl ?_
    refine w_lload_n (pc2 := 118) rfl rfl rfl ?_
    refine w_lcmp (pc2 := 119) rfl rfl ?_
    refine j_if_gt (pc2 := 122) rfl rfl hF (fun hF => ?_) (fun hF => ?_)
    · refine w_lconst (pc2 := 127) rfl rfl ?_
      exact j_lret rfl rfl hF
    · refine w_lconst (pc2 := 123) rfl rfl ?_
      refine w_goto rfl ?_
      exact j_lret rfl rfl hF
  rw [if_neg hs8] at hF
  by_cases hs9 : p1 = (9 : Int32)
  · rw [if_pos hs9] at hF
    refine j_switch (t := 128) rfl (by rw [hs9]; rfl) ?_
    refine w_lload_n (pc2 := 129) rfl rfl rfl ?_
    refine w_lload_n (pc2 := 130) rfl rfl rfl ?_
    refine w_lcmp (pc2 := 131) rfl rfl ?_
    refine j_if_ne (pc2 := 134) rfl rfl hF (fun hF => ?_) (fun hF => ?_)
    · refine w_lconst (pc2 := 139) rfl rfl ?_
      exact j_lret rfl rfl hF
    · refine w_lconst (pc2 := 135) rfl rfl ?_
      refine w_goto rfl ?_
      exact j_lret rfl rfl hF
  rw [if_neg hs9] at hF
  by_cases hs10 : p1 = (10 : Int32)
  · rw [if_pos hs10] at hF
    refine j_switch (t := 140) rfl (by rw [hs10]; rfl) ?_
    refine w_lload_n (pc2 := 141) rfl rfl rfl ?_
    refine w_lload_n (pc2 := 142) rfl rfl rfl ?_
    refine w_lcmp (pc2 := 143) rfl rfl ?_
    refine j_if_lt (pc2 := 146) rfl rfl hF (fun hF => ?_) (fun hF => ?_)
    · refine w_lconst (pc2 := 151) rfl rfl ?_
      exact j_lret rfl rfl hF
    · refine w_lconst (pc2 := 147) rfl rfl ?_
      refine w_goto rfl ?_
      exact j_lret rfl rfl hF
  rw [if_neg hs10] at hF
  by_cases hs11 : p1 = (11 : Int32)
  · rw [if_pos hs11] at hF
    refine j_switch (t := 152) rfl (by rw [hs11]; rfl) ?_
    refine w_lload_n (pc2 := 153) rfl rfl rfl ?_
    refine w_lload_n (pc2 := 154) rfl rfl rfl ?_
    refine w_lcmp (pc2 := 155) rfl rfl ?_
    refine j_if_le (pc2 := 158) rfl rfl hF (fun hF => ?_) (fun hF => ?_)
    · refine w_lconst (pc2 := 163) rfl rfl ?_
      exact j_lret rfl rfl hF
    · refine w_lconst (pc2 := 159) rfl rfl ?_
      refine w_goto rfl ?_
      exact j_lret rfl rfl hF
  rw [if_neg hs11] at hF
  by_cases hs13 : p1 = (13 : Int32)
  · rw [if_pos hs13] at hF
    refine j_switch (t := 164) rfl (by rw [hs13]; rfl) ?_
    refine w_lload_n (pc2 := 165) rfl rfl rfl ?_
    refine w_lload_n (pc2 := 166) rfl rfl rfl ?_
    refine w_land (pc2 := 167) rfl rfl ?_
    exact j_lret rfl rfl hF
  rw [if_neg hs13] at hF
  refine j_switch (t := 168) rfl ?_ ?_
  · unfold zz_sw
    by_cases hr : (p1).toInt < 2 ∨ 13 < (p1).toInt
    · rw [if_pos hr]; rfl
    · rw [if_neg hr]
      have hcs : (p1).toInt = 2 ∨ (p1).toInt = 3 ∨ (p1).toInt = 4 ∨ (p1).toInt = 5 ∨ (p1).toInt = 6 ∨ (p1).toInt = 7 ∨ (p1).toInt = 8 ∨ (p1).toInt = 9 ∨ (p1).toInt = 10 ∨ (p1).toInt = 11 ∨ (p1).toInt = 12 ∨ (p1).toInt = 13 := by omega
      rcases hcs with h | h | h | h | h | h | h | h | h | h | h | h
      · exact absurd (Int32.toInt_inj.mp (h.trans (by decide))) hs2
      · exact absurd (Int32.toInt_inj.mp (h.trans (by decide))) hs3
      · exact absurd (Int32.toInt_inj.mp (h.trans (by decide))) hs4
      · exact absurd (Int32.toInt_inj.mp (h.trans (by decide))) hs5
      · exact absurd (Int32.toInt_inj.mp (h.trans (by decide))) hs6
      · exact absurd (Int32.toInt_inj.mp (h.trans (by decide))) hs7
      · exact absurd (Int32.toInt_inj.mp (h.trans (by decide))) hs8
      · exact absurd (Int32.toInt_inj.mp (h.trans (by decide))) hs9
      · exact absurd (Int32.toInt_inj.mp (h.trans (by decide))) hs10
      · exact absurd (Int32.toInt_inj.mp (h.trans (by decide))) hs11
      · rw [h]; rfl
      · exact absurd (Int32.toInt_inj.mp (h.trans (by decide))) hs13
  · refine w_lload_n (pc2 := 169) rfl rfl rfl ?_
    refine w_lload_n (pc2 := 170) rfl rfl rfl ?_
    refine w_lor (pc2 := 171) rfl rfl ?_
    exact j_lret rfl rfl hF
noncomputable def f_Rule_worth_B5 (o1 : Nat) (a2 : Int32 × Int32) (s3 : ZS) (g4 : (Int32 × Int32) → ZS → Option (Int64 × ZS)) : Option (Int64 × ZS) := zgi (s3.1 o1 1) (fun (v5 : Int32) => (if v5 ≤ a2.2 then some ((0 : Int64), s3) else zrd 400 a2.2 (s3.1 (o1 + 1)) (fun (v6 : Int32) => zrd 400 a2.2 (s3.1 (o1 + 1)) (fun (v7 : Int32) => zjn (A := Int32) (fun (a9 : Int32) (s8 : ZS) => g4 (a9, (a2.2 + (1 : Int32))) s8) (fun (k10 : Int32 → ZS → Option (Int64 × ZS)) => (if (1 : Int32) < (v6 &&& (15 : Int32)) then (if ¬ (v6 &&& (15 : Int32)) = (15 : Int32) then (if ¬ (v6 &&& (15 : Int32)) = (12 : Int32) then (if a2.1 ≤ (1 : Int32) then k10 a2.1 s3 else zrl 64 (((a2.1 + (-1 : Int32)) - (1 : Int32))) (s3.2 204) (fun (v11 : Int64) => zrl 64 ((a2.1 + (-1 : Int32))) (s3.2 204) (fun (v12 : Int64) => zcl (f_Rule_joined ((v6 &&& (15 : Int32))) v11 v12 s3) (fun (v14 : Int64) (s13 : ZS) => zwl s13 204 64 (((a2.1 + (-1 : Int32)) - (1 : Int32))) v14 (fun (s15 : ZS) => k10 (a2.1 + (-1 : Int32)) s15))))) else (if a2.1 ≤ 0 then k10 a2.1 s3 else zrl 64 ((a2.1 - (1 : Int32))) (s3.2 204) (fun (v16 : Int64) => zwl s3 204 64 ((a2.1 - (1 : Int32))) (((1 : Int64) - v16)) (fun (s17 : ZS) => k10 a2.1 s17)))) else zj0 (fun (s18 : ZS) => k10 (0 : Int32) s18) (fun (k19 : ZS → Option (Int64 × ZS)) => (if a2.1 ≤ 0 then k19 s3 else (if a2.1 = (1 : Int32) then zgl (s3.2 204 0) (fun (v20 : Int64) => some (v20, s3)) else zrl 64 ((a2.1 - (1 : Int32))) (s3.2 204) (fun (v21 : Int64) => (if (lg_cmp v21 (0 : Int64)) = 0 then k19 s3 else zgl (s3.2 204 0) (fun (v22 : Int64) => some (v22, s3)))))))) else (if (nI 64) ≤ a2.1 then k10 a2.1 s3 else zj0 (fun (s23 : ZS) => zjn (A := Int64) (fun (a26 : Int64) (s25 : ZS) => zwl s25 204 64 a2.1 a26 (fun (s28 : ZS) => k10 (a2.1 + (1 : Int32)) s28)) (fun (k27 : Int64 → ZS → Option (Int64 × ZS)) => (if ¬ (v6 &&& (15 : Int32)) = 0 then zrl 11 ((v7 >>> ((4 : Int32) &&& (31 : Int32)))) (s23.2 203) (fun (v29 : Int64) => k27 v29 s23) else k27 ((v7 >>> ((4 : Int32) &&& (31 : Int32))).toInt64) s23))) (fun (k24 : ZS → Option (Int64 × ZS)) => (if (v6 &&& (15 : Int32)) = 0 then k24 s3 else (if (nI 11) ≤ (v7 >>> ((4 : Int32) &&& (31 : Int32))) then k10 a2.1 s3 else k24 s3))))))))))
noncomputable def f_Rule_worth (o1 : Nat) (s0 : ZS) : Option (Int64 × ZS) := zlp zN (f_Rule_worth_B5 o1) ((0 : Int32), (0 : Int32)) s0
set_option maxHeartbeats 4000000 in
set_option maxRecDepth 100000 in
theorem ok_Rule_worth {L : Nat} {xs : Nat → Int32} {b : ZH} {o1 : Nat} (ho1 : zk_isRule o1) {s0 : ZS} {w : Int64 × ZS} (hF : f_Rule_worth o1 s0 = some w) : zz_ct zt_ms zt_nm zt_df (zt_X L xs) 1 zt_m52 [.ref o1, .ref 203, .ref 204] (zk b s0) (qL b w) := by
  unfold f_Rule_worth at hF
  change zz_wp zt_ms zt_nm zt_df (zt_X L xs) 1 zt_m52 0 [(0, .ref o1), (1, .ref 203), (2, .ref 204)] [] (zk b s0) (qL b w)
  refine w_iconst (pc2 := 1) rfl rfl ?_
  refine w_istore_n (pc2 := 2) (ls2 := [(3, .int (0 : Int32)), (0, .ref o1), (1, .ref 203), (2, .ref 204)]) rfl rfl rfl ?_
  refine w_iconst (pc2 := 3) rfl rfl ?_
  refine w_istore (pc2 := 5) (ls2 := [(4, .int (0 : Int32)), (3, .int (0 : Int32)), (0, .ref o1), (1, .ref 203), (2, .ref 204)]) rfl rfl rfl ?_
  refine j_norm (l := [(0, .ref o1), (1, .ref 203), (2, .ref 204), (3, .int (0 : Int32)), (4, .int (0 : Int32))]) ⟨rfl, rfl, rfl, rfl, rfl, trivial⟩ (zz_nd_of (ks := [0, 1, 2, 3, 4]) rfl (by decide)) ?_
  refine j_loop (P := fun (a2 : Int32 × Int32) (s3 : ZS) => zz_wp zt_ms zt_nm zt_df (zt_X L xs) 1 zt_m52 5 [(0, .ref o1), (1, .ref 203), (2, .ref 204), (3, .int a2.1), (4, .int a2.2)] [] (zk b s3) (qL b w)) hF (fun a2 s3 g4 hg4 hF => ?_)
  unfold f_Rule_worth_B5 at hF
  refine w_iload (pc2 := 7) rfl rfl rfl ?_
  refine w_aload_n (pc2 := 8) rfl rfl rfl ?_
  refine j_geti (pc2 := 11) rfl (zk_cRule ho1) rfl rfl rfl hF (fun v5 hF => ?_)
  refine j_icmp_ge (pc2 := 14) rfl rfl hF (fun hF => ?_) (fun hF => ?_)
  · refine w_lconst (pc2 := 179) rfl rfl ?_
    exact j_lret rfl rfl hF
  · refine w_aload_n (pc2 := 15) rfl rfl rfl ?_
    refine w_getfield (pc2 := 18) rfl (zk_cRule ho1) rfl rfl rfl ?_
    refine w_iload (pc2 := 20) rfl rfl rfl ?_
    refine j_iaload (pc2 := 21) (n := 400) rfl ho1.k.2.2 (by omega) (by have := ho1.k.1; omega) rfl hF (fun v6 hF => ?_)
    refine w_bipush (pc2 := 23) rfl rfl ?_
    refine w_iand (pc2 := 24) rfl rfl ?_
    refine w_istore (pc2 := 26) (ls2 := [(5, .int ((v6 &&& (15 : Int32)))), (0, .ref o1), (1, .ref 203), (2, .ref 204), (3, .int a2.1), (4, .int a2.2)]) rfl rfl rfl ?_
    refine w_aload_n (pc2 := 27) rfl rfl rfl ?_
    refine w_getfield (pc2 := 30) rfl (zk_cRule ho1) rfl rfl rfl ?_
    refine w_iload (pc2 := 32) rfl rfl rfl ?_
    refine j_iaload (pc2 := 33) (n := 400) rfl ho1.k.2.2 (by omega) (by have := ho1.k.1; omega) rfl hF (fun v7 hF => ?_)
    refine w_iconst (pc2 := 34) rfl rfl ?_
    refine w_ishr (pc2 := 35) rfl rfl ?_
    refine w_istore (pc2 := 37) (ls2 := [(6, .int ((v7 >>> ((4 : Int32) &&& (31 : Int32))))), (5, .int ((v6 &&& (15 : Int32)))), (0, .ref o1), (1, .ref 203), (2, .ref 204), (3, .int a2.1), (4, .int a2.2)]) rfl rfl rfl ?_
    refine w_iload (pc2 := 39) rfl rfl rfl ?_
    refine w_iconst (pc2 := 40) rfl rfl ?_
    refine j_join (P := fun (a9 : Int32) (s8 : ZS) => zz_wp zt_ms zt_nm zt_df (zt_X L xs) 1 zt_m52 172 [(0, .ref o1), (1, .ref 203), (2, .ref 204), (3, .int a9), (4, .int a2.2)] [] (zk b s8) (qL b w)) hF (fun a9 s8 hF => ?_) (fun k10 hk10 hF => ?_)
    · refine w_iinc (pc2 := 175) (ls2 := [(4, .int ((a2.2 + (1 : Int32)))), (0, .ref o1), (1, .ref 203), (2, .ref 204), (3, .int a9)]) rfl rfl rfl rfl ?_
      refine w_goto rfl ?_
      exact j_norm (l := [(0, .ref o1), (1, .ref 203), (2, .ref 204), (3, .int a9), (4, .int ((a2.2 + (1 : Int32))))]) ⟨rfl, rfl, rfl, rfl, rfl, trivial⟩ (zz_nd_of (ks := [0, 1, 2, 3, 4]) rfl (by decide)) (hg4 (a9, (a2.2 + (1 : Int32))) s8 hF)
    · refine j_icmp_gt (pc2 := 43) rfl rfl hF (fun hF => ?_) (fun hF => ?_)
      · refine w_iload (pc2 := 87) rfl rfl rfl ?_
        refine w_bipush (pc2 := 89) rfl rfl ?_
        refine j_icmp_ne (pc2 := 92) rfl rfl hF (fun hF => ?_) (fun hF => ?_)
        · refine w_iload (pc2 := 122) rfl rfl rfl ?_
          refine w_bipush (pc2 := 124) rfl rfl ?_
          refine j_icmp_ne (pc2 := 127) rfl rfl hF (fun hF => ?_) (fun hF => ?_)
          · refine w_iload_n (pc2 := 147) rfl rfl rfl ?_
            refine w_iconst (pc2 := 148) rfl rfl ?_
            refine j_icmp_le (pc2 := 151) rfl rfl hF (fun hF => ?_) (fun hF => ?_)
            · exact j_norm (l := [(0, .ref o1), (1, .ref 203), (2, .ref 204), (3, .int a2.1), (4, .int a2.2)]) ⟨rfl, rfl, rfl, rfl, rfl, trivial⟩ (zz_nd_of (ks := [0, 1, 2, 3, 4]) rfl (by decide)) (hk10 a2.1 s3 hF)
            · refine w_iinc (pc2 := 154) (ls2 := [(3, .int ((a2.1 + (-1 : Int32)))), (6, .int ((v7 >>> ((4 : Int32) &&& (31 : Int32))))), (5, .int ((v6 &&& (15 : Int32)))), (0, .ref o1), (1, .ref 203), (2, .ref 204), (4, .int a2.2)]) rfl rfl rfl rfl ?_
              refine w_aload_n (pc2 := 155) rfl rfl rfl ?_
              refine w_iload_n (pc2 := 156) rfl rfl rfl ?_
              refine w_iconst (pc2 := 157) rfl rfl ?_
              refine w_isub (pc2 := 158) rfl rfl ?_
              refine w_iload (pc2 := 160) rfl rfl rfl ?_
              refine w_aload_n (pc2 := 161) rfl rfl rfl ?_
              refine w_iload_n (pc2 := 162) rfl rfl rfl ?_
              refine w_iconst (pc2 := 163) rfl rfl ?_
              refine w_isub (pc2 := 164) rfl rfl ?_
              refine j_laload (pc2 := 165) (n := 64) rfl rfl (by decide) rfl hF (fun v11 hF => ?_)
              refine w_aload_n (pc2 := 166) rfl rfl rfl ?_
              refine w_iload_n (pc2 := 167) rfl rfl rfl ?_
              refine j_laload (pc2 := 168) (n := 64) rfl rfl (by decide) rfl hF (fun v12 hF => ?_)
              refine j_cLs (pc2 := 171) (k := 0) (c := zt_m53) (as := [.int ((v6 &&& (15 : Int32))), .long v11, .long v12]) (rest := [.int (((a2.1 + (-1 : Int32)) - (1 : Int32))), .ref 204]) rfl rfl rfl (Nat.le_of_ble_eq_true rfl) rfl rfl (Nat.le_of_ble_eq_true rfl) (Nat.le_of_ble_eq_true rfl) (fun w1 h1 => ok_Rule_joined h1) (by decide) rfl hF (fun v14 s13 hF => ?_)
              refine j_lastore (pc2 := 172) (n := 64) rfl rfl (by decide) rfl hF (fun s15 hF => ?_)
              exact j_norm (l := [(0, .ref o1), (1, .ref 203), (2, .ref 204), (3, .int ((a2.1 + (-1 : Int32)))), (4, .int a2.2)]) ⟨rfl, rfl, rfl, rfl, rfl, trivial⟩ (zz_nd_of (ks := [0, 1, 2, 3, 4]) rfl (by decide)) (hk10 (a2.1 + (-1 : Int32)) s15 hF)
          · refine w_iload_n (pc2 := 128) rfl rfl rfl ?_
            refine j_if_le (pc2 := 131) rfl rfl hF (fun hF => ?_) (fun hF => ?_)
            · exact j_norm (l := [(0, .ref o1), (1, .ref 203), (2, .ref 204), (3, .int a2.1), (4, .int a2.2)]) ⟨rfl, rfl, rfl, rfl, rfl, trivial⟩ (zz_nd_of (ks := [0, 1, 2, 3, 4]) rfl (by decide)) (hk10 a2.1 s3 hF)
            · refine w_aload_n (pc2 := 132) rfl rfl rfl ?_
              refine w_iload_n (pc2 := 133) rfl rfl rfl ?_
              refine w_iconst (pc2 := 134) rfl rfl ?_
              refine w_isub (pc2 := 135) rfl rfl ?_
              refine w_lconst (pc2 := 136) rfl rfl ?_
              refine w_aload_n (pc2 := 137) rfl rfl rfl ?_
              refine w_iload_n (pc2 := 138) rfl rfl rfl ?_
              refine w_iconst (pc2 := 139) rfl rfl ?_
              refine w_isub (pc2 := 140) rfl rfl ?_
              refine j_laload (pc2 := 141) (n := 64) rfl rfl (by decide) rfl hF (fun v16 hF => ?_)
              refine w_lsub (pc2 := 142) rfl rfl ?_
              refine j_lastore (pc2 := 143) (n := 64) rfl rfl (by decide) rfl hF (fun s17 hF => ?_)
              refine w_goto rfl ?_
              exact j_norm (l := [(0, .ref o1), (1, .ref 203), (2, .ref 204), (3, .int a2.1), (4, .int a2.2)]) ⟨rfl, rfl, rfl, rfl, rfl, trivial⟩ (zz_nd_of (ks := [0, 1, 2, 3, 4]) rfl (by decide)) (hk10 a2.1 s17 hF)
        · refine w_iload_n (pc2 := 93) rfl rfl rfl ?_
          refine j_join0 (P := fun (s18 : ZS) => zz_wp zt_ms zt_nm zt_df (zt_X L xs) 1 zt_m52 115 [(0, .ref o1), (1, .ref 203), (2, .ref 204), (4, .int a2.2)] [] (zk b s18) (qL b w)) hF (fun s18 hF => ?_) (fun k19 hk19 hF => ?_)
          · refine w_iconst (pc2 := 116) rfl rfl ?_
            refine w_istore_n (pc2 := 117) (ls2 := [(3, .int (0 : Int32)), (0, .ref o1), (1, .ref 203), (2, .ref 204), (4, .int a2.2)]) rfl rfl rfl ?_
            refine w_goto rfl ?_
            exact j_norm (l := [(0, .ref o1), (1, .ref 203), (2, .ref 204), (3, .int (0 : Int32)), (4, .int a2.2)]) ⟨rfl, rfl, rfl, rfl, rfl, trivial⟩ (zz_nd_of (ks := [0, 1, 2, 3, 4]) rfl (by decide)) (hk10 (0 : Int32) s18 hF)
          · refine j_if_le (pc2 := 96) rfl rfl hF (fun hF => ?_) (fun hF => ?_)
            · exact j_norm (l := [(0, .ref o1), (1, .ref 203), (2, .ref 204), (4, .int a2.2)]) ⟨rfl, rfl, rfl, rfl, trivial⟩ (zz_nd_of (ks := [0, 1, 2, 4]) rfl (by decide)) (hk19 s3 hF)
            · refine w_iload_n (pc2 := 97) rfl rfl rfl ?_
              refine w_iconst (pc2 := 98) rfl rfl ?_
              refine j_icmp_eq (pc2 := 101) rfl rfl hF (fun hF => ?_) (fun hF => ?_)
              · refine w_aload_n (pc2 := 112) rfl rfl rfl ?_
                refine w_iconst (pc2 := 113) rfl rfl ?_
                refine j_laloadC (pc2 := 114) (n := 64) (j := 0) rfl rfl (by decide) (by decide) (by decide) (by decide) rfl hF (fun v20 hF => ?_)
                exact j_lret rfl rfl hF
              · refine w_aload_n (pc2 := 102) rfl rfl rfl ?_
                refine w_iload_n (pc2 := 103) rfl rfl rfl ?_
                refine w_iconst (pc2 := 104) rfl rfl ?_
                refine w_isub (pc2 := 105) rfl rfl ?_
                refine j_laload (pc2 := 106) (n := 64) rfl rfl (by decide) rfl hF (fun v21 hF => ?_)
                refine w_lconst (pc2 := 107) rfl rfl ?_
                refine w_lcmp (pc2 := 108) rfl rfl ?_
                refine j_if_eq (pc2 := 111) rfl rfl hF (fun hF => ?_) (fun hF => ?_)
                · exact j_norm (l := [(0, .ref o1), (1, .ref 203), (2, .ref 204), (4, .int a2.2)]) ⟨rfl, rfl, rfl, rfl, trivial⟩ (zz_nd_of (ks := [0, 1, 2, 4]) rfl (by decide)) (hk19 s3 hF)
                · refine w_aload_n (pc2 := 112) rfl rfl rfl ?_
                  refine w_iconst (pc2 := 113) rfl rfl ?_
                  refine j_laloadC (pc2 := 114) (n := 64) (j := 0) rfl rfl (by decide) (by decide) (by decide) (by decide) rfl hF (fun v22 hF => ?_)
                  exact j_lret rfl rfl hF
      · refine w_iload_n (pc2 := 44) rfl rfl rfl ?_
        refine w_aload_n (pc2 := 45) rfl rfl rfl ?_
        refine w_arraylength (pc2 := 46) (n := 64) rfl (zk_at (by decide) (zk_AL _ _ rfl)) rfl ?_
        refine j_icmp_ge (pc2 := 49) rfl rfl hF (fun hF => ?_) (fun hF => ?_)
        · exact j_norm (l := [(0, .ref o1), (1, .ref 203), (2, .ref 204), (3, .int a2.1), (4, .int a2.2)]) ⟨rfl, rfl, rfl, rfl, rfl, trivial⟩ (zz_nd_of (ks := [0, 1, 2, 3, 4]) rfl (by decide)) (hk10 a2.1 s3 hF)
        · refine w_iload (pc2 := 51) rfl rfl rfl ?_
          refine j_join0 (P := fun (s23 : ZS) => zz_wp zt_ms zt_nm zt_df (zt_X L xs) 1 zt_m52 61 [(0, .ref o1), (1, .ref 203), (2, .ref 204), (3, .int a2.1), (4, .int a2.2), (5, .int ((v6 &&& (15 : Int32)))), (6, .int ((v7 >>> ((4 : Int32) &&& (31 : Int32)))))] [] (zk b s23) (qL b w)) hF (fun s23 hF => ?_) (fun k24 hk24 hF => ?_)
          · refine w_aload_n (pc2 := 62) rfl rfl rfl ?_
            refine w_iload_n (pc2 := 63) rfl rfl rfl ?_
            refine w_iload (pc2 := 65) rfl rfl rfl ?_
            refine j_join (P := fun (a26 : Int64) (s25 : ZS) => zz_wp zt_ms zt_nm zt_df (zt_X L xs) 1 zt_m52 78 [(0, .ref o1), (1, .ref 203), (2, .ref 204), (3, .int a2.1), (4, .int a2.2)] [.long a26, .int a2.1, .ref 204] (zk b s25) (qL b w)) hF (fun a26 s25 hF => ?_) (fun k27 hk27 hF => ?_)
            · refine j_lastore (pc2 := 79) (n := 64) rfl rfl (by decide) rfl hF (fun s28 hF => ?_)
              refine w_iinc (pc2 := 82) (ls2 := [(3, .int ((a2.1 + (1 : Int32)))), (0, .ref o1), (1, .ref 203), (2, .ref 204), (4, .int a2.2)]) rfl rfl rfl rfl ?_
              refine w_goto rfl ?_
              exact j_norm (l := [(0, .ref o1), (1, .ref 203), (2, .ref 204), (3, .int ((a2.1 + (1 : Int32)))), (4, .int a2.2)]) ⟨rfl, rfl, rfl, rfl, rfl, trivial⟩ (zz_nd_of (ks := [0, 1, 2, 3, 4]) rfl (by decide)) (hk10 (a2.1 + (1 : Int32)) s28 hF)
            · refine j_if_ne (pc2 := 68) rfl rfl hF (fun hF => ?_) (fun hF => ?_)
              · refine w_aload_n (pc2 := 75) rfl rfl rfl ?_
                refine w_iload (pc2 := 77) rfl rfl rfl ?_
                refine j_laload (pc2 := 78) (n := 11) rfl rfl (by decide) rfl hF (fun v29 hF => ?_)
                exact j_norm (l := [(0, .ref o1), (1, .ref 203), (2, .ref 204), (3, .int a2.1), (4, .int a2.2)]) ⟨rfl, rfl, rfl, rfl, rfl, trivial⟩ (zz_nd_of (ks := [0, 1, 2, 3, 4]) rfl (by decide)) (hk27 v29 s23 hF)
              · refine w_iload (pc2 := 70) rfl rfl rfl ?_
                refine w_i2l (pc2 := 71) rfl rfl ?_
                refine w_goto rfl ?_
                exact j_norm (l := [(0, .ref o1), (1, .ref 203), (2, .ref 204), (3, .int a2.1), (4, .int a2.2)]) ⟨rfl, rfl, rfl, rfl, rfl, trivial⟩ (zz_nd_of (ks := [0, 1, 2, 3, 4]) rfl (by decide)) (hk27 ((v7 >>> ((4 : Int32) &&& (31 : Int32))).toInt64) s23 hF)
          · refine j_if_eq (pc2 := 54) rfl rfl hF (fun hF => ?_) (fun hF => ?_)
            · exact j_norm (l := [(0, .ref o1), (1, .ref 203), (2, .ref 204), (3, .int a2.1), (4, .int a2.2), (5, .int ((v6 &&& (15 : Int32)))), (6, .int ((v7 >>> ((4 : Int32) &&& (31 : Int32)))))]) ⟨rfl, rfl, rfl, rfl, rfl, rfl, rfl, trivial⟩ (zz_nd_of (ks := [0, 1, 2, 3, 4, 5, 6]) rfl (by decide)) (hk24 s3 hF)
            · refine w_iload (pc2 := 56) rfl rfl rfl ?_
              refine w_aload_n (pc2 := 57) rfl rfl rfl ?_
              refine w_arraylength (pc2 := 58) (n := 11) rfl (zk_at (by decide) (zk_AL _ _ rfl)) rfl ?_
              refine j_icmp_ge (pc2 := 61) rfl rfl hF (fun hF => ?_) (fun hF => ?_)
              · exact j_norm (l := [(0, .ref o1), (1, .ref 203), (2, .ref 204), (3, .int a2.1), (4, .int a2.2)]) ⟨rfl, rfl, rfl, rfl, rfl, trivial⟩ (zz_nd_of (ks := [0, 1, 2, 3, 4]) rfl (by decide)) (hk10 a2.1 s3 hF)
              · exact j_norm (l := [(0, .ref o1), (1, .ref 203), (2, .ref 204), (3, .int a2.1), (4, .int a2.2), (5, .int ((v6 &&& (15 : Int32)))), (6, .int ((v7 >>> ((4 : Int32) &&& (31 : Int32)))))]) ⟨rfl, rfl, rfl, rfl, rfl, rfl, rfl, trivial⟩ (zz_nd_of (ks := [0, 1, 2, 3, 4, 5, 6]) rfl (by decide)) (hk24 s3 hF)
