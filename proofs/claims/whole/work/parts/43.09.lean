/-! What methods do as functions of the state, and that the small machine does so. -/
noncomputable def f_Ring_ruled (p1 : Int32) (s0 : ZS) : Option (Int32 × ZS) := zgi (s0.1 4 0) (fun (v2 : Int32) => (if v2 = 0 then some ((-3 : Int32), s0) else zcl (f_Ring_isEither p1 s0) (fun (v4 : Int32) (s3 : ZS) => (if ¬ v4 = 0 then zgi (s3.1 0 10) (fun (v5 : Int32) => zcv (f_Fore_findFits v5 (-1 : Int32) s3) (fun (s6 : ZS) => (if ¬ p1 = 0 then zgi (s6.1 206 5) (fun (v7 : Int32) => some (v7, s6)) else zgi (s6.1 206 4) (fun (v8 : Int32) => some (v8, s6))))) else some ((-3 : Int32), s3)))))
set_option maxHeartbeats 4000000 in
set_option maxRecDepth 100000 in
theorem ok_Ring_ruled {L : Nat} {xs : Nat → Int32} {b : ZH} {p1 : Int32} {s0 : ZS} {w : Int32 × ZS} (hF : f_Ring_ruled p1 s0 = some w) : zz_ct zt_ms zt_nm zt_df (zt_X L xs) 6 zt_m136 [.ref 0, .int p1] (zk b s0) (qI b w) := by
  unfold f_Ring_ruled at hF
  change zz_wp zt_ms zt_nm zt_df (zt_X L xs) 6 zt_m136 0 [(0, .ref 0), (1, .int p1)] [] (zk b s0) (qI b w)
  refine w_aload_n (pc2 := 1) rfl rfl rfl ?_
  refine w_getfield (pc2 := 4) rfl zk_cRing rfl rfl rfl ?_
  refine w_getfield (pc2 := 7) rfl (zk_cWorld zk_w3) rfl rfl rfl ?_
  refine j_geti (pc2 := 10) rfl (zk_cSmithy zk_sm4) rfl rfl rfl hF (fun v2 hF => ?_)
  refine j_if_eq (pc2 := 13) rfl rfl hF (fun hF => ?_) (fun hF => ?_)
  · refine w_bipush (pc2 := 22) rfl rfl ?_
    exact j_iret rfl rfl hF
  · refine w_iload_n (pc2 := 14) rfl rfl rfl ?_
    refine j_cIs (pc2 := 17) (k := 0) (c := zt_m115) (as := [.int p1]) (rest := []) rfl rfl rfl (Nat.le_of_ble_eq_true rfl) rfl rfl (Nat.le_of_ble_eq_true rfl) (Nat.le_of_ble_eq_true rfl) (fun w1 h1 => ok_Ring_isEither h1) (by decide) rfl hF (fun v4 s3 hF => ?_)
    refine j_if_ne (pc2 := 20) rfl rfl hF (fun hF => ?_) (fun hF => ?_)
    · refine w_aload_n (pc2 := 24) rfl rfl rfl ?_
      refine w_getfield (pc2 := 27) rfl zk_cRing rfl rfl rfl ?_
      refine w_aload_n (pc2 := 28) rfl rfl rfl ?_
      refine j_geti (pc2 := 31) rfl zk_cRing rfl rfl rfl hF (fun v5 hF => ?_)
      refine w_iconst (pc2 := 32) rfl rfl ?_
      refine j_cVv (pc2 := 35) (k := 5) (c := zt_m12) (as := [.ref 206, .int v5, .int (-1 : Int32)]) (rest := []) rfl rfl rfl rfl zk_cFore.look rfl (Nat.le_of_ble_eq_true rfl) (Nat.le_of_ble_eq_true rfl) (fun w1 h1 => ok_Fore_findFits h1) (by decide) rfl hF (fun s6 hF => ?_)
      refine w_iload_n (pc2 := 36) rfl rfl rfl ?_
      refine j_if_ne (pc2 := 39) rfl rfl hF (fun hF => ?_) (fun hF => ?_)
      · refine w_aload_n (pc2 := 50) rfl rfl rfl ?_
        refine w_getfield (pc2 := 53) rfl zk_cRing rfl rfl rfl ?_
        refine j_geti (pc2 := 56) rfl zk_cFore rfl rfl rfl hF (fun v7 hF => ?_)
        exact j_iret rfl rfl hF
      · refine w_aload_n (pc2 := 40) rfl rfl rfl ?_
        refine w_getfield (pc2 := 43) rfl zk_cRing rfl rfl rfl ?_
        refine j_geti (pc2 := 46) rfl zk_cFore rfl rfl rfl hF (fun v8 hF => ?_)
        refine w_goto rfl ?_
        exact j_iret rfl rfl hF
    · refine w_bipush (pc2 := 22) rfl rfl ?_
      exact j_iret rfl rfl hF
noncomputable def f_Ring_look (p1 : Int32) (p2 : Int32) (s0 : ZS) : Option (Int32 × ZS) := zgi (s0.1 4 0) (fun (v3 : Int32) => (if v3 = 0 then some ((-1 : Int32), s0) else (if p1 < 0 then some ((-1 : Int32), s0) else (if (60 : Int32) < p1 then some ((-1 : Int32), s0) else zcl (f_Ring_isEither p2 s0) (fun (v5 : Int32) (s4 : ZS) => (if ¬ v5 = 0 then zgi (s4.1 0 10) (fun (v6 : Int32) => zcv (f_Fore_findFits v6 p1 s4) (fun (s7 : ZS) => zcl (f_Fore_parting p2 s7) (fun (v9 : Int32) (s8 : ZS) => some (v9, s8)))) else some ((-1 : Int32), s4)))))))
set_option maxHeartbeats 4000000 in
set_option maxRecDepth 100000 in
theorem ok_Ring_look {L : Nat} {xs : Nat → Int32} {b : ZH} {p1 : Int32} {p2 : Int32} {s0 : ZS} {w : Int32 × ZS} (hF : f_Ring_look p1 p2 s0 = some w) : zz_ct zt_ms zt_nm zt_df (zt_X L xs) 6 zt_m137 [.ref 0, .int p1, .int p2] (zk b s0) (qI b w) := by
  unfold f_Ring_look at hF
  change zz_wp zt_ms zt_nm zt_df (zt_X L xs) 6 zt_m137 0 [(0, .ref 0), (1, .int p1), (2, .int p2)] [] (zk b s0) (qI b w)
  refine w_aload_n (pc2 := 1) rfl rfl rfl ?_
  refine w_getfield (pc2 := 4) rfl zk_cRing rfl rfl rfl ?_
  refine w_getfield (pc2 := 7) rfl (zk_cWorld zk_w3) rfl rfl rfl ?_
  refine j_geti (pc2 := 10) rfl (zk_cSmithy zk_sm4) rfl rfl rfl hF (fun v3 hF => ?_)
  refine j_if_eq (pc2 := 13) rfl rfl hF (fun hF => ?_) (fun hF => ?_)
  · refine w_iconst (pc2 := 31) rfl rfl ?_
    exact j_iret rfl rfl hF
  · refine w_iload_n (pc2 := 14) rfl rfl rfl ?_
    refine j_if_lt (pc2 := 17) rfl rfl hF (fun hF => ?_) (fun hF => ?_)
    · refine w_iconst (pc2 := 31) rfl rfl ?_
      exact j_iret rfl rfl hF
    · refine w_iload_n (pc2 := 18) rfl rfl rfl ?_
      refine w_bipush (pc2 := 20) rfl rfl ?_
      refine j_icmp_gt (pc2 := 23) rfl rfl hF (fun hF => ?_) (fun hF => ?_)
      · refine w_iconst (pc2 := 31) rfl rfl ?_
        exact j_iret rfl rfl hF
      · refine w_iload_n (pc2 := 24) rfl rfl rfl ?_
        refine j_cIs (pc2 := 27) (k := 0) (c := zt_m115) (as := [.int p2]) (rest := []) rfl rfl rfl (Nat.le_of_ble_eq_true rfl) rfl rfl (Nat.le_of_ble_eq_true rfl) (Nat.le_of_ble_eq_true rfl) (fun w1 h1 => ok_Ring_isEither h1) (by decide) rfl hF (fun v5 s4 hF => ?_)
        refine j_if_ne (pc2 := 30) rfl rfl hF (fun hF => ?_) (fun hF => ?_)
        · refine w_aload_n (pc2 := 33) rfl rfl rfl ?_
          refine w_getfield (pc2 := 36) rfl zk_cRing rfl rfl rfl ?_
          refine w_aload_n (pc2 := 37) rfl rfl rfl ?_
          refine j_geti (pc2 := 40) rfl zk_cRing rfl rfl rfl hF (fun v6 hF => ?_)
          refine w_iload_n (pc2 := 41) rfl rfl rfl ?_
          refine j_cVv (pc2 := 44) (k := 5) (c := zt_m12) (as := [.ref 206, .int v6, .int p1]) (rest := []) rfl rfl rfl rfl zk_cFore.look rfl (Nat.le_of_ble_eq_true rfl) (Nat.le_of_ble_eq_true rfl) (fun w1 h1 => ok_Fore_findFits h1) (by decide) rfl hF (fun s7 hF => ?_)
          refine w_aload_n (pc2 := 45) rfl rfl rfl ?_
          refine w_getfield (pc2 := 48) rfl zk_cRing rfl rfl rfl ?_
          refine w_iload_n (pc2 := 49) rfl rfl rfl ?_
          refine j_cIv (pc2 := 52) (k := 1) (c := zt_m16) (as := [.ref 206, .int p2]) (rest := []) rfl rfl rfl rfl zk_cFore.look rfl (Nat.le_of_ble_eq_true rfl) (Nat.le_of_ble_eq_true rfl) (fun w1 h1 => ok_Fore_parting h1) (by decide) rfl hF (fun v9 s8 hF => ?_)
          exact j_iret rfl rfl hF
        · refine w_iconst (pc2 := 31) rfl rfl ?_
          exact j_iret rfl rfl hF
noncomputable def f_Ring_seed (p1 : Int32) (s0 : ZS) : Option (Int32 × ZS) := (if 0 ≤ p1 then zgi (s0.1 3 7) (fun (v2 : Int32) => zwi s0 3 7 p1 (fun (s3 : ZS) => some (v2, s3))) else some ((-1 : Int32), s0))
set_option maxHeartbeats 4000000 in
set_option maxRecDepth 100000 in
theorem ok_Ring_seed {L : Nat} {xs : Nat → Int32} {b : ZH} {p1 : Int32} {s0 : ZS} {w : Int32 × ZS} (hF : f_Ring_seed p1 s0 = some w) : zz_ct zt_ms zt_nm zt_df (zt_X L xs) 0 zt_m138 [.ref 0, .int p1] (zk b s0) (qI b w) := by
  unfold f_Ring_seed at hF
  change zz_wp zt_ms zt_nm zt_df (zt_X L xs) 0 zt_m138 0 [(0, .ref 0), (1, .int p1)] [] (zk b s0) (qI b w)
  refine w_iload_n (pc2 := 1) rfl rfl rfl ?_
  refine j_if_ge (pc2 := 4) rfl rfl hF (fun hF => ?_) (fun hF => ?_)
  · refine w_aload_n (pc2 := 7) rfl rfl rfl ?_
    refine w_getfield (pc2 := 10) rfl zk_cRing rfl rfl rfl ?_
    refine j_geti (pc2 := 13) rfl (zk_cWorld zk_w3) rfl rfl rfl hF (fun v2 hF => ?_)
    refine w_istore_n (pc2 := 14) (ls2 := [(2, .int v2), (0, .ref 0), (1, .int p1)]) rfl rfl rfl ?_
    refine w_aload_n (pc2 := 15) rfl rfl rfl ?_
    refine w_getfield (pc2 := 18) rfl zk_cRing rfl rfl rfl ?_
    refine w_iload_n (pc2 := 19) rfl rfl rfl ?_
    refine j_puti (pc2 := 22) (j := 7) rfl (zk_cWorld zk_w3) rfl (Nat.le_of_ble_eq_true rfl) rfl (zk_wWorld_7 zk_w3) (by decide) rfl hF (fun s3 hF => ?_)
    refine w_iload_n (pc2 := 23) rfl rfl rfl ?_
    exact j_iret rfl rfl hF
  · refine w_iconst (pc2 := 5) rfl rfl ?_
    exact j_iret rfl rfl hF
noncomputable def f_Ring_doors (p1 : Int32) (p2 : Int32) (p3 : Int32) (p4 : Int32) (s0 : ZS) : Option (Int32 × ZS) := zgi (s0.1 4 0) (fun (v5 : Int32) => (if v5 = 0 then some ((-1 : Int32), s0) else (if p1 < (1 : Int32) then some ((-1 : Int32), s0) else (if (10 : Int32) < p1 then some ((-1 : Int32), s0) else (if p2 < (1 : Int32) then some ((-1 : Int32), s0) else (if p2 ≤ (60 : Int32) then (if p3 < 0 then some ((-1 : Int32), s0) else (if (100 : Int32) < p3 then some ((-1 : Int32), s0) else zcl (f_Ring_isEither p4 s0) (fun (v7 : Int32) (s6 : ZS) => (if ¬ v7 = 0 then zcl (f_Fore_drawnDoors p1 p2 p3 p4 s6) (fun (v9 : Int32) (s8 : ZS) => some (v9, s8)) else some ((-1 : Int32), s6))))) else some ((-1 : Int32), s0)))))))
set_option maxHeartbeats 4000000 in
set_option maxRecDepth 100000 in
theorem ok_Ring_doors {L : Nat} {xs : Nat → Int32} {b : ZH} {p1 : Int32} {p2 : Int32} {p3 : Int32} {p4 : Int32} {s0 : ZS} {w : Int32 × ZS} (hF : f_Ring_doors p1 p2 p3 p4 s0 = some w) : zz_ct zt_ms zt_nm zt_df (zt_X L xs) 5 zt_m139 [.ref 0, .int p1, .int p2, .int p3, .int p4] (zk b s0) (qI b w) := by
  unfold f_Ring_doors at hF
  change zz_wp zt_ms zt_nm zt_df (zt_X L xs) 5 zt_m139 0 [(0, .ref 0), (1, .int p1), (2, .int p2), (3, .int p3), (4, .int p4)] [] (zk b s0) (qI b w)
  refine w_aload_n (pc2 := 1) rfl rfl rfl ?_
  refine w_getfield (pc2 := 4) rfl zk_cRing rfl rfl rfl ?_
  refine w_getfield (pc2 := 7) rfl (zk_cWorld zk_w3) rfl rfl rfl ?_
  refine j_geti (pc2 := 10) rfl (zk_cSmithy zk_sm4) rfl rfl rfl hF (fun v5 hF => ?_)
  refine j_if_eq (pc2 := 13) rfl rfl hF (fun hF => ?_) (fun hF => ?_)
  · refine w_iconst (pc2 := 36) rfl rfl ?_
    exact j_iret rfl rfl hF
  · refine w_iload_n (pc2 := 14) rfl rfl rfl ?_
    refine w_iconst (pc2 := 15) rfl rfl ?_
    refine j_icmp_lt (pc2 := 18) rfl rfl hF (fun hF => ?_) (fun hF => ?_)
    · refine w_iconst (pc2 := 36) rfl rfl ?_
      exact j_iret rfl rfl hF
    · refine w_iload_n (pc2 := 19) rfl rfl rfl ?_
      refine w_bipush (pc2 := 21) rfl rfl ?_
      refine j_icmp_gt (pc2 := 24) rfl rfl hF (fun hF => ?_) (fun hF => ?_)
      · refine w_iconst (pc2 := 36) rfl rfl ?_
        exact j_iret rfl rfl hF
      · refine w_iload_n (pc2 := 25) rfl rfl rfl ?_
        refine w_iconst (pc2 := 26) rfl rfl ?_
        refine j_icmp_lt (pc2 := 29) rfl rfl hF (fun hF => ?_) (fun hF => ?_)
        · refine w_iconst (pc2 := 36) rfl rfl ?_
          exact j_iret rfl rfl hF
        · refine w_iload_n (pc2 := 30) rfl rfl rfl ?_
          refine w_bipush (pc2 := 32) rfl rfl ?_
          refine j_icmp_le (pc2 := 35) rfl rfl hF (fun hF => ?_) (fun hF => ?_)
          · refine w_iload_n (pc2 := 38) rfl rfl rfl ?_
            refine j_if_lt (pc2 := 41) rfl rfl hF (fun hF => ?_) (fun hF => ?_)
            · refine w_iconst (pc2 := 56) rfl rfl ?_
              exact j_iret rfl rfl hF
            · refine w_iload_n (pc2 := 42) rfl rfl rfl ?_
              refine w_bipush (pc2 := 44) rfl rfl ?_
              refine j_icmp_gt (pc2 := 47) rfl rfl hF (fun hF => ?_) (fun hF => ?_)
              · refine w_iconst (pc2 := 56) rfl rfl ?_
                exact j_iret rfl rfl hF
              · refine w_iload (pc2 := 49) rfl rfl rfl ?_
                refine j_cIs (pc2 := 52) (k := 0) (c := zt_m115) (as := [.int p4]) (rest := []) rfl rfl rfl (Nat.le_of_ble_eq_true rfl) rfl rfl (Nat.le_of_ble_eq_true rfl) (Nat.le_of_ble_eq_true rfl) (fun w1 h1 => ok_Ring_isEither h1) (by decide) rfl hF (fun v7 s6 hF => ?_)
                refine j_if_ne (pc2 := 55) rfl rfl hF (fun hF => ?_) (fun hF => ?_)
                · refine w_aload_n (pc2 := 58) rfl rfl rfl ?_
                  refine w_getfield (pc2 := 61) rfl zk_cRing rfl rfl rfl ?_
                  refine w_iload_n (pc2 := 62) rfl rfl rfl ?_
                  refine w_iload_n (pc2 := 63) rfl rfl rfl ?_
                  refine w_iload_n (pc2 := 64) rfl rfl rfl ?_
                  refine w_iload (pc2 := 66) rfl rfl rfl ?_
                  refine j_cIv (pc2 := 69) (k := 4) (c := zt_m18) (as := [.ref 206, .int p1, .int p2, .int p3, .int p4]) (rest := []) rfl rfl rfl rfl zk_cFore.look rfl (Nat.le_of_ble_eq_true rfl) (Nat.le_of_ble_eq_true rfl) (fun w1 h1 => ok_Fore_drawnDoors h1) (by decide) rfl hF (fun v9 s8 hF => ?_)
                  exact j_iret rfl rfl hF
                · refine w_iconst (pc2 := 56) rfl rfl ?_
                  exact j_iret rfl rfl hF
          · refine w_iconst (pc2 := 36) rfl rfl ?_
            exact j_iret rfl rfl hF
noncomputable def f_Ring_image (p1 : Int32) (s0 : ZS) : Option (Int32 × ZS) := (if p1 < 0 then some ((-1 : Int32), s0) else (if p1 < (4 : Int32) then zix 4 p1 (fun (j2 : Nat) => zcv (f_World_copy (19 + 15 * j2) 3 s0) (fun (s3 : ZS) => zix 4 p1 (fun (j4 : Nat) => zwb s3 (19 + 15 * j4) 8 (1 : Int32) (fun (s5 : ZS) => zgi (s5.1 10 0) (fun (v6 : Int32) => some (v6, s5)))))) else some ((-1 : Int32), s0)))
set_option maxHeartbeats 4000000 in
set_option maxRecDepth 100000 in
theorem ok_Ring_image {L : Nat} {xs : Nat → Int32} {b : ZH} {p1 : Int32} {s0 : ZS} {w : Int32 × ZS} (hF : f_Ring_image p1 s0 = some w) : zz_ct zt_ms zt_nm zt_df (zt_X L xs) 2 zt_m140 [.ref 0, .int p1] (zk b s0) (qI b w) := by
  unfold f_Ring_image at hF
  change zz_wp zt_ms zt_nm zt_df (zt_X L xs) 2 zt_m140 0 [(0, .ref 0), (1, .int p1)] [] (zk b s0) (qI b w)
  refine w_iload_n (pc2 := 1) rfl rfl rfl ?_
  refine j_if_lt (pc2 := 4) rfl rfl hF (fun hF => ?_) (fun hF => ?_)
  · refine w_iconst (pc2 := 10) rfl rfl ?_
    exact j_iret rfl rfl hF
  · refine w_iload_n (pc2 := 5) rfl rfl rfl ?_
    refine w_iconst (pc2 := 6) rfl rfl ?_
    refine j_icmp_lt (pc2 := 9) rfl rfl hF (fun hF => ?_) (fun hF => ?_)
    · refine w_aload_n (pc2 := 12) rfl rfl rfl ?_
      refine w_getfield (pc2 := 15) rfl zk_cRing rfl rfl rfl ?_
      refine w_iload_n (pc2 := 16) rfl rfl rfl ?_
      refine j_aaload (pc2 := 17) (p := 19) (q := 15) rfl zk_c18 (by decide) rfl hF (fun j2 hj2 hF => ?_)
      refine w_aload_n (pc2 := 18) rfl rfl rfl ?_
      refine w_getfield (pc2 := 21) rfl zk_cRing rfl rfl rfl ?_
      refine j_cVv (pc2 := 24) (k := 1) (c := zt_m106) (as := [.ref (19 + 15 * j2), .ref 3]) (rest := []) rfl rfl rfl rfl (zk_cWorld (zk_isW hj2)).look rfl (Nat.le_of_ble_eq_true rfl) (Nat.le_of_ble_eq_true rfl) (fun w1 h1 => ok_World_copy (zk_isW hj2) zk_w3 h1) (by decide) rfl hF (fun s3 hF => ?_)
      refine w_aload_n (pc2 := 25) rfl rfl rfl ?_
      refine w_getfield (pc2 := 28) rfl zk_cRing rfl rfl rfl ?_
      refine w_iload_n (pc2 := 29) rfl rfl rfl ?_
      refine j_aaload (pc2 := 30) (p := 19) (q := 15) rfl zk_c18 (by decide) rfl hF (fun j4 hj4 hF => ?_)
      refine w_iconst (pc2 := 31) rfl rfl ?_
      refine j_putz (pc2 := 34) (j := 8) rfl (zk_cWorld (zk_isW hj4)) rfl (Nat.le_of_ble_eq_true rfl) (zk_wWorld_8 (zk_isW hj4)) (by have := (zk_isW hj4).k.1; omega) rfl hF (fun s5 hF => ?_)
      refine w_aload_n (pc2 := 35) rfl rfl rfl ?_
      refine w_getfield (pc2 := 38) rfl zk_cRing rfl rfl rfl ?_
      refine w_getfield (pc2 := 41) rfl (zk_cWorld zk_w3) rfl rfl rfl ?_
      refine j_geti (pc2 := 44) rfl (zk_cState zk_st10) rfl rfl rfl hF (fun v6 hF => ?_)
      exact j_iret rfl rfl hF
    · refine w_iconst (pc2 := 10) rfl rfl ?_
      exact j_iret rfl rfl hF
noncomputable def f_Ring_back (p1 : Int32) (s0 : ZS) : Option (Int32 × ZS) := (if p1 < 0 then some ((-1 : Int32), s0) else (if (4 : Int32) ≤ p1 then some ((-1 : Int32), s0) else zix 4 p1 (fun (j2 : Nat) => zgi (s0.1 (19 + 15 * j2) 8) (fun (v3 : Int32) => (if ¬ v3 = 0 then zix 4 p1 (fun (j4 : Nat) => zcv (f_World_copy 3 (19 + 15 * j4) s0) (fun (s5 : ZS) => zcv (f_Hist_forget s5) (fun (s6 : ZS) => zgi (s6.1 10 0) (fun (v7 : Int32) => some (v7, s6))))) else some ((-1 : Int32), s0))))))
set_option maxHeartbeats 4000000 in
set_option maxRecDepth 100000 in
theorem ok_Ring_back {L : Nat} {xs : Nat → Int32} {b : ZH} {p1 : Int32} {s0 : ZS} {w : Int32 × ZS} (hF : f_Ring_back p1 s0 = some w) : zz_ct zt_ms zt_nm zt_df (zt_X L xs) 2 zt_m141 [.ref 0, .int p1] (zk b s0) (qI b w) := by
  unfold f_Ring_back at hF
  change zz_wp zt_ms zt_nm zt_df (zt_X L xs) 2 zt_m141 0 [(0, .ref 0), (1, .int p1)] [] (zk b s0) (qI b w)
  refine w_iload_n (pc2 := 1) rfl rfl rfl ?_
  refine j_if_lt (pc2 := 4) rfl rfl hF (fun hF => ?_) (fun hF => ?_)
  · refine w_iconst (pc2 := 22) rfl rfl ?_
    exact j_iret rfl rfl hF
  · refine w_iload_n (pc2 := 5) rfl rfl rfl ?_
    refine w_iconst (pc2 := 6) rfl rfl ?_
    refine j_icmp_ge (pc2 := 9) rfl rfl hF (fun hF => ?_) (fun hF => ?_)
    · refine w_iconst (pc2 := 22) rfl rfl ?_
      exact j_iret rfl rfl hF
    · refine w_aload_n (pc2 := 10) rfl rfl rfl ?_
      refine w_getfield (pc2 := 13) rfl zk_cRing rfl rfl rfl ?_
      refine w_iload_n (pc2 := 14) rfl rfl rfl ?_
      refine j_aaload (pc2 := 15) (p := 19) (q := 15) rfl zk_c18 (by decide) rfl hF (fun j2 hj2 hF => ?_)
      refine j_geti (pc2 := 18) rfl (zk_cWorld (zk_isW hj2)) rfl rfl rfl hF (fun v3 hF => ?_)
      refine j_if_ne (pc2 := 21) rfl rfl hF (fun hF => ?_) (fun hF => ?_)
      · refine w_aload_n (pc2 := 24) rfl rfl rfl ?_
        refine w_getfield (pc2 := 27) rfl zk_cRing rfl rfl rfl ?_
        refine w_aload_n (pc2 := 28) rfl rfl rfl ?_
        refine w_getfield (pc2 := 31) rfl zk_cRing rfl rfl rfl ?_
        refine w_iload_n (pc2 := 32) rfl rfl rfl ?_
        refine j_aaload (pc2 := 33) (p := 19) (q := 15) rfl zk_c18 (by decide) rfl hF (fun j4 hj4 hF => ?_)
        refine j_cVv (pc2 := 36) (k := 1) (c := zt_m106) (as := [.ref 3, .ref (19 + 15 * j4)]) (rest := []) rfl rfl rfl rfl (zk_cWorld zk_w3).look rfl (Nat.le_of_ble_eq_true rfl) (Nat.le_of_ble_eq_true rfl) (fun w1 h1 => ok_World_copy zk_w3 (zk_isW hj4) h1) (by decide) rfl hF (fun s5 hF => ?_)
        refine w_aload_n (pc2 := 37) rfl rfl rfl ?_
        refine w_getfield (pc2 := 40) rfl zk_cRing rfl rfl rfl ?_
        refine j_cVv (pc2 := 43) (k := 0) (c := zt_m36) (as := [.ref 100]) (rest := []) rfl rfl rfl rfl zk_cHist.look rfl (Nat.le_of_ble_eq_true rfl) (Nat.le_of_ble_eq_true rfl) (fun w1 h1 => ok_Hist_forget h1) (by decide) rfl hF (fun s6 hF => ?_)
        refine w_aload_n (pc2 := 44) rfl rfl rfl ?_
        refine w_getfield (pc2 := 47) rfl zk_cRing rfl rfl rfl ?_
        refine w_getfield (pc2 := 50) rfl (zk_cWorld zk_w3) rfl rfl rfl ?_
        refine j_geti (pc2 := 53) rfl (zk_cState zk_st10) rfl rfl rfl hF (fun v7 hF => ?_)
        exact j_iret rfl rfl hF
      · refine w_iconst (pc2 := 22) rfl rfl ?_
        exact j_iret rfl rfl hF
noncomputable def f_Model_four_B3 (p1 : Int32) (a2 : Int32) (s3 : ZS) (g4 : Int32 → ZS → Option (ZS)) : Option (ZS) := (if a2 < 0 then some s3 else zgi (s3.1 216 1) (fun (v5 : Int32) => zwa s3 217 400 v5 (vp_nar .byte (((p1 >>> (a2 &&& (31 : Int32))).toInt8.toInt32))) (fun (s6 : ZS) => zgi (s6.1 216 1) (fun (v7 : Int32) => zwi s6 216 1 ((v7 + (1 : Int32))) (fun (s8 : ZS) => g4 (a2 + (-8 : Int32)) s8)))))
noncomputable def f_Model_four (p1 : Int32) (s0 : ZS) : Option (ZS) := zlp zN (f_Model_four_B3 p1) (24 : Int32) s0
set_option maxHeartbeats 4000000 in
set_option maxRecDepth 100000 in
theorem ok_Model_four {L : Nat} {xs : Nat → Int32} {b : ZH} {p1 : Int32} {s0 : ZS} {w : ZS} (hF : f_Model_four p1 s0 = some w) : zz_ct zt_ms zt_nm zt_df (zt_X L xs) 0 zt_m144 [.ref 216, .int p1] (zk b s0) (qV b w) := by
  unfold f_Model_four at hF
  change zz_wp zt_ms zt_nm zt_df (zt_X L xs) 0 zt_m144 0 [(0, .ref 216), (1, .int p1)] [] (zk b s0) (qV b w)
  refine w_bipush (pc2 := 2) rfl rfl ?_
  refine w_istore_n (pc2 := 3) (ls2 := [(2, .int (24 : Int32)), (0, .ref 216), (1, .int p1)]) rfl rfl rfl ?_
  refine j_norm (l := [(0, .ref 216), (1, .int p1), (2, .int (24 : Int32))]) ⟨rfl, rfl, rfl, trivial⟩ (zz_nd_of (ks := [0, 1, 2]) rfl (by decide)) ?_
  refine j_loop (P := fun (a2 : Int32) (s3 : ZS) => zz_wp zt_ms zt_nm zt_df (zt_X L xs) 0 zt_m144 3 [(0, .ref 216), (1, .int p1), (2, .int a2)] [] (zk b s3) (qV b w)) hF (fun a2 s3 g4 hg4 hF => ?_)
  unfold f_Model_four_B3 at hF
  refine w_iload_n (pc2 := 4) rfl rfl rfl ?_
  refine j_if_lt (pc2 := 7) rfl rfl hF (fun hF => ?_) (fun hF => ?_)
  · exact j_vret rfl rfl hF
  · refine w_aload_n (pc2 := 8) rfl rfl rfl ?_
    refine w_getfield (pc2 := 11) rfl zk_cModel rfl rfl rfl ?_
    refine w_aload_n (pc2 := 12) rfl rfl rfl ?_
    refine j_geti (pc2 := 15) rfl zk_cModel rfl rfl rfl hF (fun v5 hF => ?_)
    refine w_iload_n (pc2 := 16) rfl rfl rfl ?_
    refine w_iload_n (pc2 := 17) rfl rfl rfl ?_
    refine w_ishr (pc2 := 18) rfl rfl ?_
    refine w_i2b (pc2 := 19) rfl rfl ?_
    refine j_bastore (pc2 := 20) (n := 400) rfl rfl (by omega) (by decide) rfl hF (fun s6 hF => ?_)
    refine w_aload_n (pc2 := 21) rfl rfl rfl ?_
    refine w_dup (pc2 := 22) rfl rfl rfl ?_
    refine j_geti (pc2 := 25) rfl zk_cModel rfl rfl rfl hF (fun v7 hF => ?_)
    refine w_iconst (pc2 := 26) rfl rfl ?_
    refine w_iadd (pc2 := 27) rfl rfl ?_
    refine j_puti (pc2 := 30) (j := 1) rfl zk_cModel rfl (Nat.le_of_ble_eq_true rfl) rfl zk_wModel_1 (by decide) rfl hF (fun s8 hF => ?_)
    refine w_iinc (pc2 := 33) (ls2 := [(2, .int ((a2 + (-8 : Int32)))), (0, .ref 216), (1, .int p1)]) rfl rfl rfl rfl ?_
    refine w_goto rfl ?_
    exact j_norm (l := [(0, .ref 216), (1, .int p1), (2, .int ((a2 + (-8 : Int32))))]) ⟨rfl, rfl, rfl, trivial⟩ (zz_nd_of (ks := [0, 1, 2]) rfl (by decide)) (hg4 (a2 + (-8 : Int32)) s8 hF)
noncomputable def f_Model_feed (p1 : Int32) (p2 : Int32) (p3 : Int32) (p4 : Int32) (p5 : Int32) (s0 : ZS) : Option (Int32 × ZS) := zgi (s0.1 216 1) (fun (v6 : Int32) => (if (v6 + (20 : Int32)) ≤ (400 : Int32) then zcv (f_Model_four p1 s0) (fun (s7 : ZS) => zcv (f_Model_four p2 s7) (fun (s8 : ZS) => zcv (f_Model_four p3 s8) (fun (s9 : ZS) => zcv (f_Model_four p4 s9) (fun (s10 : ZS) => zcv (f_Model_four p5 s10) (fun (s11 : ZS) => zgi (s11.1 216 1) (fun (v12 : Int32) => some (v12, s11))))))) else some ((-1 : Int32), s0)))
set_option maxHeartbeats 4000000 in
set_option maxRecDepth 100000 in
theorem ok_Model_feed {L : Nat} {xs : Nat → Int32} {b : ZH} {p1 : Int32} {p2 : Int32} {p3 : Int32} {p4 : Int32} {p5 : Int32} {s0 : ZS} {w : Int32 × ZS} (hF : f_Model_feed p1 p2 p3 p4 p5 s0 = some w) : zz_ct zt_ms zt_nm zt_df (zt_X L xs) 1 zt_m143 [.ref 216, .int p1, .int p2, .int p3, .int p4, .int p5] (zk b s0) (qI b w) := by
  unfold f_Model_feed at hF
  change zz_wp zt_ms zt_nm zt_df (zt_X L xs) 1 zt_m143 0 [(0, .ref 216), (1, .int p1), (2, .int p2), (3, .int p3), (4, .int p4), (5, .int p5)] [] (zk b s0) (qI b w)
  refine w_aload_n (pc2 := 1) rfl rfl rfl ?_
  refine j_geti (pc2 := 4) rfl zk_cModel rfl rfl rfl hF (fun v6 hF => ?_)
  refine w_bipush (pc2 := 6) rfl rfl ?_
  refine w_iadd (pc2 := 7) rfl rfl ?_
  refine w_sipush (pc2 := 10) rfl rfl ?_
  refine j_icmp_le (pc2 := 13) rfl rfl hF (fun hF => ?_) (fun hF => ?_)
  · refine w_aload_n (pc2 := 16) rfl rfl rfl ?_
    refine w_iload_n (pc2 := 17) rfl rfl rfl ?_
    refine j_cVv (pc2 := 20) (k := 0) (c := zt_m144) (as := [.ref 216, .int p1]) (rest := []) rfl rfl rfl rfl zk_cModel.look rfl (Nat.le_of_ble_eq_true rfl) (Nat.le_of_ble_eq_true rfl) (fun w1 h1 => ok_Model_four h1) (by decide) rfl hF (fun s7 hF => ?_)
    refine w_aload_n (pc2 := 21) rfl rfl rfl ?_
    refine w_iload_n (pc2 := 22) rfl rfl rfl ?_
    refine j_cVv (pc2 := 25) (k := 0) (c := zt_m144) (as := [.ref 216, .int p2]) (rest := []) rfl rfl rfl rfl zk_cModel.look rfl (Nat.le_of_ble_eq_true rfl) (Nat.le_of_ble_eq_true rfl) (fun w1 h1 => ok_Model_four h1) (by decide) rfl hF (fun s8 hF => ?_)
    refine w_aload_n (pc2 := 26) rfl rfl rfl ?_
    refine w_iload_n (pc2 := 27) rfl rfl rfl ?_
    refine j_cVv (pc2 := 30) (k := 0) (c := zt_m144) (as := [.ref 216, .int p3]) (rest := []) rfl rfl rfl rfl zk_cModel.look rfl (Nat.le_of_ble_eq_true rfl) (Nat.le_of_ble_eq_true rfl) (fun w1 h1 => ok_Model_four h1) (by decide) rfl hF (fun s9 hF => ?_)
    refine w_aload_n (pc2 := 31) rfl rfl rfl ?_
    refine w_iload (pc2 := 33) rfl rfl rfl ?_
    refine j_cVv (pc2 := 36) (k := 0) (c := zt_m144) (as := [.ref 216, .int p4]) (rest := []) rfl rfl rfl rfl zk_cModel.look rfl (Nat.le_of_ble_eq_true rfl) (Nat.le_of_ble_eq_true rfl) (fun w1 h1 => ok_Model_four h1) (by decide) rfl hF (fun s10 hF => ?_)
    refine w_aload_n (pc2 := 37) rfl rfl rfl ?_
    refine w_iload (pc2 := 39) rfl rfl rfl ?_
    refine j_cVv (pc2 := 42) (k := 0) (c := zt_m144) (as := [.ref 216, .int p5]) (rest := []) rfl rfl rfl rfl zk_cModel.look rfl (Nat.le_of_ble_eq_true rfl) (Nat.le_of_ble_eq_true rfl) (fun w1 h1 => ok_Model_four h1) (by decide) rfl hF (fun s11 hF => ?_)
    refine w_aload_n (pc2 := 43) rfl rfl rfl ?_
    refine j_geti (pc2 := 46) rfl zk_cModel rfl rfl rfl hF (fun v12 hF => ?_)
    exact j_iret rfl rfl hF
  · refine w_iconst (pc2 := 14) rfl rfl ?_
    exact j_iret rfl rfl hF
noncomputable def f_Model_end (p1 : Int32) (s0 : ZS) : Option (Int32 × ZS) := (if p1 < 0 then some ((-1 : Int32), s0) else zgi (s0.1 216 1) (fun (v2 : Int32) => (if p1 ≤ v2 then zwi s0 216 1 p1 (fun (s3 : ZS) => some (p1, s3)) else some ((-1 : Int32), s0))))
set_option maxHeartbeats 4000000 in
set_option maxRecDepth 100000 in
theorem ok_Model_end {L : Nat} {xs : Nat → Int32} {b : ZH} {p1 : Int32} {s0 : ZS} {w : Int32 × ZS} (hF : f_Model_end p1 s0 = some w) : zz_ct zt_ms zt_nm zt_df (zt_X L xs) 0 zt_m145 [.ref 216, .int p1] (zk b s0) (qI b w) := by
  unfold f_Model_end at hF
  change zz_wp zt_ms zt_nm zt_df (zt_X L xs) 0 zt_m145 0 [(0, .ref 216), (1, .int p1)] [] (zk b s0) (qI b w)
  refine w_iload_n (pc2 := 1) rfl rfl rfl ?_
  refine j_if_lt (pc2 := 4) rfl rfl hF (fun hF => ?_) (fun hF => ?_)
  · refine w_iconst (pc2 := 13) rfl rfl ?_
    exact j_iret rfl rfl hF
  · refine w_iload_n (pc2 := 5) rfl rfl rfl ?_
    refine w_aload_n (pc2 := 6) rfl rfl rfl ?_
    refine j_geti (pc2 := 9) rfl zk_cModel rfl rfl rfl hF (fun v2 hF => ?_)
    refine j_icmp_le (pc2 := 12) rfl rfl hF (fun hF => ?_) (fun hF => ?_)
    · refine w_aload_n (pc2 := 15) rfl rfl rfl ?_
      refine w_iload_n (pc2 := 16) rfl rfl rfl ?_
      refine j_puti (pc2 := 19) (j := 1) rfl zk_cModel rfl (Nat.le_of_ble_eq_true rfl) rfl zk_wModel_1 (by decide) rfl hF (fun s3 hF => ?_)
      refine w_iload_n (pc2 := 20) rfl rfl rfl ?_
      exact j_iret rfl rfl hF
    · refine w_iconst (pc2 := 13) rfl rfl ?_
      exact j_iret rfl rfl hF
noncomputable def f_Model_see_B0 (k2 : ZS → Option (Int32 × ZS)) (a7 : Unit) (s8 : ZS) (g9 : Unit → ZS → Option (Int32 × ZS)) : Option (Int32 × ZS) := zgi (s8.1 216 8) (fun (v10 : Int32) => zgi (s8.1 216 1) (fun (v11 : Int32) => (if v11 ≤ v10 then k2 s8 else zgi (s8.1 216 8) (fun (v12 : Int32) => zrd 400 v12 (s8.1 217) (fun (v13 : Int32) => (if ¬ v13 = (32 : Int32) then k2 s8 else zgi (s8.1 216 8) (fun (v14 : Int32) => zwi s8 216 8 ((v14 + (1 : Int32))) (fun (s15 : ZS) => g9 () s15))))))))
noncomputable def f_Model_see (s0 : ZS) : Option (Int32 × ZS) := zj0 (fun (s1 : ZS) => zgi (s1.1 216 8) (fun (v3 : Int32) => zgi (s1.1 216 1) (fun (v4 : Int32) => (if v4 ≤ v3 then some ((-1 : Int32), s1) else zgi (s1.1 216 8) (fun (v5 : Int32) => zrd 400 v5 (s1.1 217) (fun (v6 : Int32) => some ((v6 &&& (255 : Int32)), s1))))))) (fun (k2 : ZS → Option (Int32 × ZS)) => zlp zN (f_Model_see_B0 k2) () s0)
set_option maxHeartbeats 4000000 in
set_option maxRecDepth 100000 in
theorem ok_Model_see {L : Nat} {xs : Nat → Int32} {b : ZH} {s0 : ZS} {w : Int32 × ZS} (hF : f_Model_see s0 = some w) : zz_ct zt_ms zt_nm zt_df (zt_X L xs) 0 zt_m149 [.ref 216] (zk b s0) (qI b w) := by
  unfold f_Model_see at hF
  change zz_wp zt_ms zt_nm zt_df (zt_X L xs) 0 zt_m149 0 [(0, .ref 216)] [] (zk b s0) (qI b w)
  refine j_join0 (P := fun (s1 : ZS) => zz_wp zt_ms zt_nm zt_df (zt_X L xs) 0 zt_m149 38 [(0, .ref 216)] [] (zk b s1) (qI b w)) hF (fun s1 hF => ?_) (fun k2 hk2 hF => ?_)
  · refine w_aload_n (pc2 := 39) rfl rfl rfl ?_
    refine j_geti (pc2 := 42) rfl zk_cModel rfl rfl rfl hF (fun v3 hF => ?_)
    refine w_aload_n (pc2 := 43) rfl rfl rfl ?_
    refine j_geti (pc2 := 46) rfl zk_cModel rfl rfl rfl hF (fun v4 hF => ?_)
    refine j_icmp_ge (pc2 := 49) rfl rfl hF (fun hF => ?_) (fun hF => ?_)
    · refine w_iconst (pc2 := 66) rfl rfl ?_
      exact j_iret rfl rfl hF
    · refine w_aload_n (pc2 := 50) rfl rfl rfl ?_
      refine w_getfield (pc2 := 53) rfl zk_cModel rfl rfl rfl ?_
      refine w_aload_n (pc2 := 54) rfl rfl rfl ?_
      refine j_geti (pc2 := 57) rfl zk_cModel rfl rfl rfl hF (fun v5 hF => ?_)
      refine j_baload (pc2 := 58) (n := 400) rfl rfl (by omega) (by decide) rfl hF (fun v6 hF => ?_)
      refine w_sipush (pc2 := 61) rfl rfl ?_
      refine w_iand (pc2 := 62) rfl rfl ?_
      refine w_goto rfl ?_
      exact j_iret rfl rfl hF
  · refine j_norm (l := [(0, .ref 216)]) ⟨rfl, trivial⟩ (zz_nd_of (ks := [0]) rfl (by decide)) ?_
    refine j_loop (P := fun (a7 : Unit) (s8 : ZS) => zz_wp zt_ms zt_nm zt_df (zt_X L xs) 0 zt_m149 0 [(0, .ref 216)] [] (zk b s8) (qI b w)) hF (fun a7 s8 g9 hg9 hF => ?_)
    unfold f_Model_see_B0 at hF
    refine w_aload_n (pc2 := 1) rfl rfl rfl ?_
    refine j_geti (pc2 := 4) rfl zk_cModel rfl rfl rfl hF (fun v10 hF => ?_)
    refine w_aload_n (pc2 := 5) rfl rfl rfl ?_
    refine j_geti (pc2 := 8) rfl zk_cModel rfl rfl rfl hF (fun v11 hF => ?_)
    refine j_icmp_ge (pc2 := 11) rfl rfl hF (fun hF => ?_) (fun hF => ?_)
    · exact j_norm (l := [(0, .ref 216)]) ⟨rfl, trivial⟩ (zz_nd_of (ks := [0]) rfl (by decide)) (hk2 s8 hF)
    · refine w_aload_n (pc2 := 12) rfl rfl rfl ?_
      refine w_getfield (pc2 := 15) rfl zk_cModel rfl rfl rfl ?_
      refine w_aload_n (pc2 := 16) rfl rfl rfl ?_
      refine j_geti (pc2 := 19) rfl zk_cModel rfl rfl rfl hF (fun v12 hF => ?_)
      refine j_baload (pc2 := 20) (n := 400) rfl rfl (by omega) (by decide) rfl hF (fun v13 hF => ?_)
      refine w_bipush (pc2 := 22) rfl rfl ?_
      refine j_icmp_ne (pc2 := 25) rfl rfl hF (fun hF => ?_) (fun hF => ?_)
      · exact j_norm (l := [(0, .ref 216)]) ⟨rfl, trivial⟩ (zz_nd_of (ks := [0]) rfl (by decide)) (hk2 s8 hF)
      · refine w_aload_n (pc2 := 26) rfl rfl rfl ?_
        refine w_dup (pc2 := 27) rfl rfl rfl ?_
        refine j_geti (pc2 := 30) rfl zk_cModel rfl rfl rfl hF (fun v14 hF => ?_)
        refine w_iconst (pc2 := 31) rfl rfl ?_
        refine w_iadd (pc2 := 32) rfl rfl ?_
        refine j_puti (pc2 := 35) (j := 8) rfl zk_cModel rfl (Nat.le_of_ble_eq_true rfl) rfl zk_wModel_8 (by decide) rfl hF (fun s15 hF => ?_)
        refine w_goto rfl ?_
        exact j_norm (l := [(0, .ref 216)]) ⟨rfl, trivial⟩ (zz_nd_of (ks := [0]) rfl (by decide)) (hg9 () s15 hF)
noncomputable def f_Model_isLetter (p1 : Int32) (s0 : ZS) : Option (Int32 × ZS) := zgi (s0.1 216 1) (fun (v2 : Int32) => (if v2 ≤ p1 then zbl (0 : Int32) s0 else zrd 400 p1 (s0.1 217) (fun (v3 : Int32) => (if v3 < (97 : Int32) then zbl (0 : Int32) s0 else zrd 400 p1 (s0.1 217) (fun (v4 : Int32) => (if (122 : Int32) < v4 then zbl (0 : Int32) s0 else zbl (1 : Int32) s0))))))
set_option maxHeartbeats 4000000 in
set_option maxRecDepth 100000 in
theorem ok_Model_isLetter {L : Nat} {xs : Nat → Int32} {b : ZH} {p1 : Int32} {s0 : ZS} {w : Int32 × ZS} (hF : f_Model_isLetter p1 s0 = some w) : zz_ct zt_ms zt_nm zt_df (zt_X L xs) 0 zt_m152 [.ref 216, .int p1] (zk b s0) (qI b w) := by
  unfold f_Model_isLetter at hF
  change zz_wp zt_ms zt_nm zt_df (zt_X L xs) 0 zt_m152 0 [(0, .ref 216), (1, .int p1)] [] (zk b s0) (qI b w)
  refine w_iload_n (pc2 := 1) rfl rfl rfl ?_
  refine w_aload_n (pc2 := 2) rfl rfl rfl ?_
  refine j_geti (pc2 := 5) rfl zk_cModel rfl rfl rfl hF (fun v2 hF => ?_)
  refine j_icmp_ge (pc2 := 8) rfl rfl hF (fun hF => ?_) (fun hF => ?_)
  · refine w_iconst (pc2 := 35) rfl rfl ?_
    exact j_zret rfl rfl hF
  · refine w_aload_n (pc2 := 9) rfl rfl rfl ?_
    refine w_getfield (pc2 := 12) rfl zk_cModel rfl rfl rfl ?_
    refine w_iload_n (pc2 := 13) rfl rfl rfl ?_
    refine j_baload (pc2 := 14) (n := 400) rfl rfl (by omega) (by decide) rfl hF (fun v3 hF => ?_)
    refine w_bipush (pc2 := 16) rfl rfl ?_
    refine j_icmp_lt (pc2 := 19) rfl rfl hF (fun hF => ?_) (fun hF => ?_)
    · refine w_iconst (pc2 := 35) rfl rfl ?_
      exact j_zret rfl rfl hF
    · refine w_aload_n (pc2 := 20) rfl rfl rfl ?_
      refine w_getfield (pc2 := 23) rfl zk_cModel rfl rfl rfl ?_
      refine w_iload_n (pc2 := 24) rfl rfl rfl ?_
      refine j_baload (pc2 := 25) (n := 400) rfl rfl (by omega) (by decide) rfl hF (fun v4 hF => ?_)
      refine w_bipush (pc2 := 27) rfl rfl ?_
      refine j_icmp_gt (pc2 := 30) rfl rfl hF (fun hF => ?_) (fun hF => ?_)
      · refine w_iconst (pc2 := 35) rfl rfl ?_
        exact j_zret rfl rfl hF
      · refine w_iconst (pc2 := 31) rfl rfl ?_
        refine w_goto rfl ?_
        exact j_zret rfl rfl hF
noncomputable def f_Model_isWord_B10 (k6 : (Int64 × Int32) → ZS → Option (Int32 × ZS)) (a7 : Int64 × Int32) (s8 : ZS) (g9 : (Int64 × Int32) → ZS → Option (Int32 × ZS)) : Option (Int32 × ZS) := zgi (s8.1 216 8) (fun (v10 : Int32) => zcl (f_Model_isLetter (v10 + a7.2) s8) (fun (v12 : Int32) (s11 : ZS) => (if v12 = 0 then k6 (a7.1, a7.2) s11 else zjn (A := Int64) (fun (a14 : Int64) (s13 : ZS) => g9 (a14, (a7.2 + (1 : Int32))) s13) (fun (k15 : Int64 → ZS → Option (Int32 × ZS)) => (if (8 : Int32) ≤ a7.2 then k15 a7.1 s11 else zgi (s11.1 216 8) (fun (v16 : Int32) => zrd 400 (v16 + a7.2) (s11.1 217) (fun (v17 : Int32) => k15 ((a7.1 <<< ((8 : Int32).toInt64 &&& (63 : Int64))) ||| (v17.toInt64)) s11)))))))
noncomputable def f_Model_isWord (p1 : Int64) (s0 : ZS) : Option (Int32 × ZS) := zcl (f_Model_see s0) (fun (v3 : Int32) (s2 : ZS) => zjn (A := Int64 × Int32) (fun (a5 : Int64 × Int32) (s4 : ZS) => (if a5.2 ≤ 0 then zbl (0 : Int32) s4 else (if (8 : Int32) ≤ a5.2 then zbl (0 : Int32) s4 else (if ¬ (lg_cmp a5.1 p1) = 0 then zbl (0 : Int32) s4 else zbl (1 : Int32) s4)))) (fun (k6 : (Int64 × Int32) → ZS → Option (Int32 × ZS)) => zlp zN (f_Model_isWord_B10 k6) ((0 : Int64), (0 : Int32)) s2))
set_option maxHeartbeats 4000000 in
set_option maxRecDepth 100000 in
theorem ok_Model_isWord {L : Nat} {xs : Nat → Int32} {b : ZH} {p1 : Int64} {s0 : ZS} {w : Int32 × ZS} (hF : f_Model_isWord p1 s0 = some w) : zz_ct zt_ms zt_nm zt_df (zt_X L xs) 1 zt_m151 [.ref 216, .long p1] (zk b s0) (qI b w) := by
  unfold f_Model_isWord at hF
  change zz_wp zt_ms zt_nm zt_df (zt_X L xs) 1 zt_m151 0 [(0, .ref 216), (1, .long p1)] [] (zk b s0) (qI b w)
  refine w_aload_n (pc2 := 1) rfl rfl rfl ?_
  refine j_cIv (pc2 := 4) (k := 0) (c := zt_m149) (as := [.ref 216]) (rest := []) rfl rfl rfl rfl zk_cModel.look rfl (Nat.le_of_ble_eq_true rfl) (Nat.le_of_ble_eq_true rfl) (fun w1 h1 => ok_Model_see h1) (by decide) rfl hF (fun v3 s2 hF => ?_)
  refine w_pop (pc2 := 5) rfl rfl rfl ?_
  refine w_lconst (pc2 := 6) rfl rfl ?_
  refine w_lstore_n (pc2 := 7) (ls2 := [(3, .long (0 : Int64)), (0, .ref 216), (1, .long p1)]) rfl rfl rfl ?_
  refine w_iconst (pc2 := 8) rfl rfl ?_
  refine w_istore (pc2 := 10) (ls2 := [(5, .int (0 : Int32)), (3, .long (0 : Int64)), (0, .ref 216), (1, .long p1)]) rfl rfl rfl ?_
  refine j_join (P := fun (a5 : Int64 × Int32) (s4 : ZS) => zz_wp zt_ms zt_nm zt_df (zt_X L xs) 1 zt_m151 56 [(1, .long p1), (3, .long a5.1), (5, .int a5.2)] [] (zk b s4) (qI b w)) hF (fun a5 s4 hF => ?_) (fun k6 hk6 hF => ?_)
  · refine w_iload (pc2 := 58) rfl rfl rfl ?_
    refine j_if_le (pc2 := 61) rfl rfl hF (fun hF => ?_) (fun hF => ?_)
    · refine w_iconst (pc2 := 79) rfl rfl ?_
      exact j_zret rfl rfl hF
    · refine w_iload (pc2 := 63) rfl rfl rfl ?_
      refine w_bipush (pc2 := 65) rfl rfl ?_
      refine j_icmp_ge (pc2 := 68) rfl rfl hF (fun hF => ?_) (fun hF => ?_)
      · refine w_iconst (pc2 := 79) rfl rfl ?_
        exact j_zret rfl rfl hF
      · refine w_lload_n (pc2 := 69) rfl rfl rfl ?_
        refine w_lload_n (pc2 := 70) rfl rfl rfl ?_
        refine w_lcmp (pc2 := 71) rfl rfl ?_
        refine j_if_ne (pc2 := 74) rfl rfl hF (fun hF => ?_) (fun hF => ?_)
        · refine w_iconst (pc2 := 79) rfl rfl ?_
          exact j_zret rfl rfl hF
        · refine w_iconst (pc2 := 75) rfl rfl ?_
          refine w_goto rfl ?_
          exact j_zret rfl rfl hF
  · refine j_norm (l := [(0, .ref 216), (1, .long p1), (3, .long (0 : Int64)), (5, .int (0 : Int32))]) ⟨rfl, rfl, rfl, rfl, trivial⟩ (zz_nd_of (ks := [0, 1, 3, 5]) rfl (by decide)) ?_
    refine j_loop (P := fun (a7 : Int64 × Int32) (s8 : ZS) => zz_wp zt_ms zt_nm zt_df (zt_X L xs) 1 zt_m151 10 [(0, .ref 216), (1, .long p1), (3, .long a7.1), (5, .int a7.2)] [] (zk b s8) (qI b w)) hF (fun a7 s8 g9 hg9 hF => ?_)
    unfold f_Model_isWord_B10 at hF
    refine w_aload_n (pc2 := 11) rfl rfl rfl ?_
    refine w_aload_n (pc2 := 12) rfl rfl rfl ?_
    refine j_geti (pc2 := 15) rfl zk_cModel rfl rfl rfl hF (fun v10 hF => ?_)
    refine w_iload (pc2 := 17) rfl rfl rfl ?_
    refine w_iadd (pc2 := 18) rfl rfl ?_
    refine j_cIv (pc2 := 21) (k := 0) (c := zt_m152) (as := [.ref 216, .int (v10 + a7.2)]) (rest := []) rfl rfl rfl rfl zk_cModel.look rfl (Nat.le_of_ble_eq_true rfl) (Nat.le_of_ble_eq_true rfl) (fun w1 h1 => ok_Model_isLetter h1) (by decide) rfl hF (fun v12 s11 hF => ?_)
    refine j_if_eq (pc2 := 24) rfl rfl hF (fun hF => ?_) (fun hF => ?_)
    · exact j_norm (l := [(1, .long p1), (3, .long a7.1), (5, .int a7.2)]) ⟨rfl, rfl, rfl, trivial⟩ (zz_nd_of (ks := [1, 3, 5]) rfl (by decide)) (hk6 (a7.1, a7.2) s11 hF)
    · refine w_iload (pc2 := 26) rfl rfl rfl ?_
      refine w_bipush (pc2 := 28) rfl rfl ?_
      refine j_join (P := fun (a14 : Int64) (s13 : ZS) => zz_wp zt_ms zt_nm zt_df (zt_X L xs) 1 zt_m151 50 [(0, .ref 216), (1, .long p1), (3, .long a14), (5, .int a7.2)] [] (zk b s13) (qI b w)) hF (fun a14 s13 hF => ?_) (fun k15 hk15 hF => ?_)
      · refine w_iinc (pc2 := 53) (ls2 := [(5, .int ((a7.2 + (1 : Int32)))), (0, .ref 216), (1, .long p1), (3, .long a14)]) rfl rfl rfl rfl ?_
        refine w_goto rfl ?_
        exact j_norm (l := [(0, .ref 216), (1, .long p1), (3, .long a14), (5, .int ((a7.2 + (1 : Int32))))]) ⟨rfl, rfl, rfl, rfl, trivial⟩ (zz_nd_of (ks := [0, 1, 3, 5]) rfl (by decide)) (hg9 (a14, (a7.2 + (1 : Int32))) s13 hF)
      · refine j_icmp_ge (pc2 := 31) rfl rfl hF (fun hF => ?_) (fun hF => ?_)
        · exact j_norm (l := [(0, .ref 216), (1, .long p1), (3, .long a7.1), (5, .int a7.2)]) ⟨rfl, rfl, rfl, rfl, trivial⟩ (zz_nd_of (ks := [0, 1, 3, 5]) rfl (by decide)) (hk15 a7.1 s11 hF)
        · refine w_lload_n (pc2 := 32) rfl rfl rfl ?_
          refine w_bipush (pc2 := 34) rfl rfl ?_
          refine w_lshl (pc2 := 35) rfl rfl ?_
          refine w_aload_n (pc2 := 36) rfl rfl rfl ?_
          refine w_getfield (pc2 := 39) rfl zk_cModel rfl rfl rfl ?_
          refine w_aload_n (pc2 := 40) rfl rfl rfl ?_
          refine j_geti (pc2 := 43) rfl zk_cModel rfl rfl rfl hF (fun v16 hF => ?_)
          refine w_iload (pc2 := 45) rfl rfl rfl ?_
          refine w_iadd (pc2 := 46) rfl rfl ?_
          refine j_baload (pc2 := 47) (n := 400) rfl rfl (by omega) (by decide) rfl hF (fun v17 hF => ?_)
          refine w_i2l (pc2 := 48) rfl rfl ?_
          refine w_lor (pc2 := 49) rfl rfl ?_
          refine w_lstore_n (pc2 := 50) (ls2 := [(3, .long (((a7.1 <<< ((8 : Int32).toInt64 &&& (63 : Int64))) ||| (v17.toInt64)))), (0, .ref 216), (1, .long p1), (5, .int a7.2)]) rfl rfl rfl ?_
          exact j_norm (l := [(0, .ref 216), (1, .long p1), (3, .long (((a7.1 <<< ((8 : Int32).toInt64 &&& (63 : Int64))) ||| (v17.toInt64)))), (5, .int a7.2)]) ⟨rfl, rfl, rfl, rfl, trivial⟩ (zz_nd_of (ks := [0, 1, 3, 5]) rfl (by decide)) (hk15 ((a7.1 <<< ((8 : Int32).toInt64 &&& (63 : Int64))) ||| (v17.toInt64)) s11 hF)
noncomputable def f_Model_isSmithWord (s0 : ZS) : Option (Int32 × ZS) := zcl (f_Model_isWord (495756866664 : Int64) s0) (fun (v2 : Int32) (s1 : ZS) => (if ¬ v2 = 0 then zbl (1 : Int32) s1 else zcl (f_Model_isWord (1885432178 : Int64) s1) (fun (v4 : Int32) (s3 : ZS) => (if ¬ v4 = 0 then zbl (1 : Int32) s3 else zcl (f_Model_isWord (126862485974631 : Int64) s3) (fun (v6 : Int32) (s5 : ZS) => (if ¬ v6 = 0 then zbl (1 : Int32) s5 else zcl (f_Model_isWord (469920277619 : Int64) s5) (fun (v8 : Int32) (s7 : ZS) => (if ¬ v8 = 0 then zbl (1 : Int32) s7 else zcl (f_Model_isWord (1852137842 : Int64) s7) (fun (v10 : Int32) (s9 : ZS) => (if v10 = 0 then zbl (0 : Int32) s9 else zbl (1 : Int32) s9))))))))))
set_option maxHeartbeats 4000000 in
set_option maxRecDepth 100000 in
theorem ok_Model_isSmithWord {L : Nat} {xs : Nat → Int32} {b : ZH} {s0 : ZS} {w : Int32 × ZS} (hF : f_Model_isSmithWord s0 = some w) : zz_ct zt_ms zt_nm zt_df (zt_X L xs) 2 zt_m150 [.ref 216] (zk b s0) (qI b w) := by
  unfold f_Model_isSmithWord at hF
  change zz_wp zt_ms zt_nm zt_df (zt_X L xs) 2 zt_m150 0 [(0, .ref 216)] [] (zk b s0) (qI b w)
  refine w_aload_n (pc2 := 1) rfl rfl rfl ?_
  refine w_ldc2_w (pc2 := 4) rfl rfl ?_
  refine j_cIv (pc2 := 7) (k := 1) (c := zt_m151) (as := [.ref 216, .long (495756866664 : Int64)]) (rest := []) rfl rfl rfl rfl zk_cModel.look rfl (Nat.le_of_ble_eq_true rfl) (Nat.le_of_ble_eq_true rfl) (fun w1 h1 => ok_Model_isWord h1) (by decide) rfl hF (fun v2 s1 hF => ?_)
  refine j_if_ne (pc2 := 10) rfl rfl hF (fun hF => ?_) (fun hF => ?_)
  · refine w_iconst (pc2 := 51) rfl rfl ?_
    refine w_goto rfl ?_
    exact j_zret rfl rfl hF
  · refine w_aload_n (pc2 := 11) rfl rfl rfl ?_
    refine w_ldc2_w (pc2 := 14) rfl rfl ?_
    refine j_cIv (pc2 := 17) (k := 1) (c := zt_m151) (as := [.ref 216, .long (1885432178 : Int64)]) (rest := []) rfl rfl rfl rfl zk_cModel.look rfl (Nat.le_of_ble_eq_true rfl) (Nat.le_of_ble_eq_true rfl) (fun w1 h1 => ok_Model_isWord h1) (by decide) rfl hF (fun v4 s3 hF => ?_)
    refine j_if_ne (pc2 := 20) rfl rfl hF (fun hF => ?_) (fun hF => ?_)
    · refine w_iconst (pc2 := 51) rfl rfl ?_
      refine w_goto rfl ?_
      exact j_zret rfl rfl hF
    · refine w_aload_n (pc2 := 21) rfl rfl rfl ?_
      refine w_ldc2_w (pc2 := 24) rfl rfl ?_
      refine j_cIv (pc2 := 27) (k := 1) (c := zt_m151) (as := [.ref 216, .long (126862485974631 : Int64)]) (rest := []) rfl rfl rfl rfl zk_cModel.look rfl (Nat.le_of_ble_eq_true rfl) (Nat.le_of_ble_eq_true rfl) (fun w1 h1 => ok_Model_isWord h1) (by decide) rfl hF (fun v6 s5 hF => ?_)
      refine j_if_ne (pc2 := 30) rfl rfl hF (fun hF => ?_) (fun hF => ?_)
      · refine w_iconst (pc2 := 51) rfl rfl ?_
        refine w_goto rfl ?_
        exact j_zret rfl rfl hF
      · refine w_aload_n (pc2 := 31) rfl rfl rfl ?_
        refine w_ldc2_w (pc2 := 34) rfl rfl ?_
        refine j_cIv (pc2 := 37) (k := 1) (c := zt_m151) (as := [.ref 216, .long (469920277619 : Int64)]) (rest := []) rfl rfl rfl rfl zk_cModel.look rfl (Nat.le_of_ble_eq_true rfl) (Nat.le_of_ble_eq_true rfl) (fun w1 h1 => ok_Model_isWord h1) (by decide) rfl hF (fun v8 s7 hF => ?_)
        refine j_if_ne (pc2 := 40) rfl rfl hF (fun hF => ?_) (fun hF => ?_)
        · refine w_iconst (pc2 := 51) rfl rfl ?_
          refine w_goto rfl ?_
          exact j_zret rfl rfl hF
        · refine w_aload_n (pc2 := 41) rfl rfl rfl ?_
          refine w_ldc2_w (pc2 := 44) rfl rfl ?_
          refine j_cIv (pc2 := 47) (k := 1) (c := zt_m151) (as := [.ref 216, .long (1852137842 : Int64)]) (rest := []) rfl rfl rfl rfl zk_cModel.look rfl (Nat.le_of_ble_eq_true rfl) (Nat.le_of_ble_eq_true rfl) (fun w1 h1 => ok_Model_isWord h1) (by decide) rfl hF (fun v10 s9 hF => ?_)
          refine j_if_eq (pc2 := 50) rfl rfl hF (fun hF => ?_) (fun hF => ?_)
          · refine w_iconst (pc2 := 55) rfl rfl ?_
            exact j_zret rfl rfl hF
          · refine w_iconst (pc2 := 51) rfl rfl ?_
            refine w_goto rfl ?_
            exact j_zret rfl rfl hF
noncomputable def f_Model_fails (p1 : Int32) (p2 : Int32) (s0 : ZS) : Option (Int32 × ZS) := zgi (s0.1 216 9) (fun (v3 : Int32) => (if ¬ v3 = 0 then zbl (0 : Int32) s0 else zwi s0 216 9 ((((1 : Int32) + ((8 : Int32) * p2)) + p1)) (fun (s4 : ZS) => zbl (0 : Int32) s4)))
set_option maxHeartbeats 4000000 in
set_option maxRecDepth 100000 in
theorem ok_Model_fails {L : Nat} {xs : Nat → Int32} {b : ZH} {p1 : Int32} {p2 : Int32} {s0 : ZS} {w : Int32 × ZS} (hF : f_Model_fails p1 p2 s0 = some w) : zz_ct zt_ms zt_nm zt_df (zt_X L xs) 0 zt_m153 [.ref 216, .int p1, .int p2] (zk b s0) (qI b w) := by
  unfold f_Model_fails at hF
  change zz_wp zt_ms zt_nm zt_df (zt_X L xs) 0 zt_m153 0 [(0, .ref 216), (1, .int p1), (2, .int p2)] [] (zk b s0) (qI b w)
  refine w_aload_n (pc2 := 1) rfl rfl rfl ?_
  refine j_geti (pc2 := 4) rfl zk_cModel rfl rfl rfl hF (fun v3 hF => ?_)
  refine j_if_ne (pc2 := 7) rfl rfl hF (fun hF => ?_) (fun hF => ?_)
  · refine w_iconst (pc2 := 20) rfl rfl ?_
    exact j_zret rfl rfl hF
  · refine w_aload_n (pc2 := 8) rfl rfl rfl ?_
    refine w_iconst (pc2 := 9) rfl rfl ?_
    refine w_bipush (pc2 := 11) rfl rfl ?_
    refine w_iload_n (pc2 := 12) rfl rfl rfl ?_
    refine w_imul (pc2 := 13) rfl rfl ?_
    refine w_iadd (pc2 := 14) rfl rfl ?_
    refine w_iload_n (pc2 := 15) rfl rfl rfl ?_
    refine w_iadd (pc2 := 16) rfl rfl ?_
    refine j_puti (pc2 := 19) (j := 9) rfl zk_cModel rfl (Nat.le_of_ble_eq_true rfl) rfl zk_wModel_9 (by decide) rfl hF (fun s4 hF => ?_)
    refine w_iconst (pc2 := 20) rfl rfl ?_
    exact j_zret rfl rfl hF
noncomputable def f_Model_passWord_B0 (a1 : Unit) (s2 : ZS) (g3 : Unit → ZS → Option (ZS)) : Option (ZS) := zgi (s2.1 216 8) (fun (v4 : Int32) => zcl (f_Model_isLetter v4 s2) (fun (v6 : Int32) (s5 : ZS) => (if v6 = 0 then some s5 else zgi (s5.1 216 8) (fun (v7 : Int32) => zwi s5 216 8 ((v7 + (1 : Int32))) (fun (s8 : ZS) => g3 () s8)))))
noncomputable def f_Model_passWord (s0 : ZS) : Option (ZS) := zlp zN (f_Model_passWord_B0) () s0
set_option maxHeartbeats 4000000 in
set_option maxRecDepth 100000 in
theorem ok_Model_passWord {L : Nat} {xs : Nat → Int32} {b : ZH} {s0 : ZS} {w : ZS} (hF : f_Model_passWord s0 = some w) : zz_ct zt_ms zt_nm zt_df (zt_X L xs) 1 zt_m156 [.ref 216] (zk b s0) (qV b w) := by
  unfold f_Model_passWord at hF
  change zz_wp zt_ms zt_nm zt_df (zt_X L xs) 1 zt_m156 0 [(0, .ref 216)] [] (zk b s0) (qV b w)
  refine j_norm (l := [(0, .ref 216)]) ⟨rfl, trivial⟩ (zz_nd_of (ks := [0]) rfl (by decide)) ?_
  refine j_loop (P := fun (a1 : Unit) (s2 : ZS) => zz_wp zt_ms zt_nm zt_df (zt_X L xs) 1 zt_m156 0 [(0, .ref 216)] [] (zk b s2) (qV b w)) hF (fun a1 s2 g3 hg3 hF => ?_)
  unfold f_Model_passWord_B0 at hF
  refine w_aload_n (pc2 := 1) rfl rfl rfl ?_
  refine w_aload_n (pc2 := 2) rfl rfl rfl ?_
  refine j_geti (pc2 := 5) rfl zk_cModel rfl rfl rfl hF (fun v4 hF => ?_)
  refine j_cIv (pc2 := 8) (k := 0) (c := zt_m152) (as := [.ref 216, .int v4]) (rest := []) rfl rfl rfl rfl zk_cModel.look rfl (Nat.le_of_ble_eq_true rfl) (Nat.le_of_ble_eq_true rfl) (fun w1 h1 => ok_Model_isLetter h1) (by decide) rfl hF (fun v6 s5 hF => ?_)
  refine j_if_eq (pc2 := 11) rfl rfl hF (fun hF => ?_) (fun hF => ?_)
  · exact j_vret rfl rfl hF
  · refine w_aload_n (pc2 := 12) rfl rfl rfl ?_
    refine w_dup (pc2 := 13) rfl rfl rfl ?_
    refine j_geti (pc2 := 16) rfl zk_cModel rfl rfl rfl hF (fun v7 hF => ?_)
    refine w_iconst (pc2 := 17) rfl rfl ?_
    refine w_iadd (pc2 := 18) rfl rfl ?_
    refine j_puti (pc2 := 21) (j := 8) rfl zk_cModel rfl (Nat.le_of_ble_eq_true rfl) rfl zk_wModel_8 (by decide) rfl hF (fun s8 hF => ?_)
    refine w_goto rfl ?_
    exact j_norm (l := [(0, .ref 216)]) ⟨rfl, trivial⟩ (zz_nd_of (ks := [0]) rfl (by decide)) (hg3 () s8 hF)
noncomputable def f_Model_isDigit (p1 : Int32) (s0 : ZS) : Option (Int32 × ZS) := zgi (s0.1 216 1) (fun (v2 : Int32) => (if v2 ≤ p1 then zbl (0 : Int32) s0 else zrd 400 p1 (s0.1 217) (fun (v3 : Int32) => (if v3 < (48 : Int32) then zbl (0 : Int32) s0 else zrd 400 p1 (s0.1 217) (fun (v4 : Int32) => (if (57 : Int32) < v4 then zbl (0 : Int32) s0 else zbl (1 : Int32) s0))))))
set_option maxHeartbeats 4000000 in
set_option maxRecDepth 100000 in
theorem ok_Model_isDigit {L : Nat} {xs : Nat → Int32} {b : ZH} {p1 : Int32} {s0 : ZS} {w : Int32 × ZS} (hF : f_Model_isDigit p1 s0 = some w) : zz_ct zt_ms zt_nm zt_df (zt_X L xs) 0 zt_m159 [.ref 216, .int p1] (zk b s0) (qI b w) := by
  unfold f_Model_isDigit at hF
  change zz_wp zt_ms zt_nm zt_df (zt_X L xs) 0 zt_m159 0 [(0, .ref 216), (1, .int p1)] [] (zk b s0) (qI b w)
  refine w_iload_n (pc2 := 1) rfl rfl rfl ?_
  refine w_aload_n (pc2 := 2) rfl rfl rfl ?_
  refine j_geti (pc2 := 5) rfl zk_cModel rfl rfl rfl hF (fun v2 hF => ?_)
  refine j_icmp_ge (pc2 := 8) rfl rfl hF (fun hF => ?_) (fun hF => ?_)
  · refine w_iconst (pc2 := 35) rfl rfl ?_
    exact j_zret rfl rfl hF
  · refine w_aload_n (pc2 := 9) rfl rfl rfl ?_
    refine w_getfield (pc2 := 12) rfl zk_cModel rfl rfl rfl ?_
    refine w_iload_n (pc2 := 13) rfl rfl rfl ?_
    refine j_baload (pc2 := 14) (n := 400) rfl rfl (by omega) (by decide) rfl hF (fun v3 hF => ?_)
    refine w_bipush (pc2 := 16) rfl rfl ?_
    refine j_icmp_lt (pc2 := 19) rfl rfl hF (fun hF => ?_) (fun hF => ?_)
    · refine w_iconst (pc2 := 35) rfl rfl ?_
      exact j_zret rfl rfl hF
    · refine w_aload_n (pc2 := 20) rfl rfl rfl ?_
      refine w_getfield (pc2 := 23) rfl zk_cModel rfl rfl rfl ?_
      refine w_iload_n (pc2 := 24) rfl rfl rfl ?_
      refine j_baload (pc2 := 25) (n := 400) rfl rfl (by omega) (by decide) rfl hF (fun v4 hF => ?_)
      refine w_bipush (pc2 := 27) rfl rfl ?_
      refine j_icmp_gt (pc2 := 30) rfl rfl hF (fun hF => ?_) (fun hF => ?_)
      · refine w_iconst (pc2 := 35) rfl rfl ?_
        exact j_zret rfl rfl hF
      · refine w_iconst (pc2 := 31) rfl rfl ?_
        refine w_goto rfl ?_
        exact j_zret rfl rfl hF
noncomputable def f_Model_in (p1 : Int64) (p2 : Int64) (p3 : Int64) (s0 : ZS) : Option (Int32 × ZS) := (if (lg_cmp p1 p2) < 0 then zbl (0 : Int32) s0 else (if 0 < (lg_cmp p1 p3) then zbl (0 : Int32) s0 else zbl (1 : Int32) s0))
set_option maxHeartbeats 4000000 in
set_option maxRecDepth 100000 in
theorem ok_Model_in {L : Nat} {xs : Nat → Int32} {b : ZH} {p1 : Int64} {p2 : Int64} {p3 : Int64} {s0 : ZS} {w : Int32 × ZS} (hF : f_Model_in p1 p2 p3 s0 = some w) : zz_ct zt_ms zt_nm zt_df (zt_X L xs) 0 zt_m160 [.long p1, .long p2, .long p3] (zk b s0) (qI b w) := by
  unfold f_Model_in at hF
  change zz_wp zt_ms zt_nm zt_df (zt_X L xs) 0 zt_m160 0 [(0, .long p1), (2, .long p2), (4, .long p3)] [] (zk b s0) (qI b w)
  refine w_lload_n (pc2 := 1) rfl rfl rfl ?_
  refine w_lload_n (pc2 := 2) rfl rfl rfl ?_
  refine w_lcmp (pc2 := 3) rfl rfl ?_
  refine j_if_lt (pc2 := 6) rfl rfl hF (fun hF => ?_) (fun hF => ?_)
  · refine w_iconst (pc2 := 18) rfl rfl ?_
    exact j_zret rfl rfl hF
  · refine w_lload_n (pc2 := 7) rfl rfl rfl ?_
    refine w_lload (pc2 := 9) rfl rfl rfl ?_
    refine w_lcmp (pc2 := 10) rfl rfl ?_
    refine j_if_gt (pc2 := 13) rfl rfl hF (fun hF => ?_) (fun hF => ?_)
    · refine w_iconst (pc2 := 18) rfl rfl ?_
      exact j_zret rfl rfl hF
    · refine w_iconst (pc2 := 14) rfl rfl ?_
      refine w_goto rfl ?_
      exact j_zret rfl rfl hF
noncomputable def f_Model_numberHere_B34 (v8 : Int32) (k11 : Int32 → ZS → Option (Int32 × ZS)) (a20 : Int32) (s21 : ZS) (g22 : Int32 → ZS → Option (Int32 × ZS)) : Option (Int32 × ZS) := zgi (s21.1 216 8) (fun (v23 : Int32) => zcl (f_Model_isDigit v23 s21) (fun (v25 : Int32) (s24 : ZS) => (if v25 = 0 then k11 a20 s24 else zgi (s24.1 216 8) (fun (v26 : Int32) => zjn (A := Int32) (fun (a28 : Int32) (s27 : ZS) => zgi (s27.1 216 8) (fun (v30 : Int32) => zwi s27 216 8 ((v30 + (1 : Int32))) (fun (s31 : ZS) => g22 a28 s31))) (fun (k29 : Int32 → ZS → Option (Int32 × ZS)) => (if (5 : Int32) ≤ (v26 - v8) then k29 a20 s24 else zgi (s24.1 216 8) (fun (v32 : Int32) => zrd 400 v32 (s24.1 217) (fun (v33 : Int32) => k29 ((((10 : Int32) * a20) + v33) - (48 : Int32)) s24))))))))
noncomputable def f_Model_numberHere (p1 : Int32) (p2 : Int32) (s0 : ZS) : Option (Int32 × ZS) := zcl (f_Model_see s0) (fun (v4 : Int32) (s3 : ZS) => zgi (s3.1 216 8) (fun (v5 : Int32) => zcl (f_Model_isDigit v5 s3) (fun (v7 : Int32) (s6 : ZS) => (if ¬ v7 = 0 then zgi (s6.1 216 8) (fun (v8 : Int32) => zjn (A := Int32) (fun (a10 : Int32) (s9 : ZS) => zwi s9 216 10 a10 (fun (s12 : ZS) => zgi (s12.1 216 8) (fun (v13 : Int32) => zj0 (fun (s14 : ZS) => zcl (f_Model_fails (1 : Int32) v8 s14) (fun (v17 : Int32) (s16 : ZS) => (if v17 = 0 then zbl (0 : Int32) s16 else zbl (1 : Int32) s16))) (fun (k15 : ZS → Option (Int32 × ZS)) => (if (5 : Int32) < (v13 - v8) then k15 s12 else zcl (f_Model_in (a10.toInt64) (p1.toInt64) (p2.toInt64) s12) (fun (v19 : Int32) (s18 : ZS) => (if ¬ v19 = 0 then zbl (1 : Int32) s18 else k15 s18))))))) (fun (k11 : Int32 → ZS → Option (Int32 × ZS)) => zlp zN (f_Model_numberHere_B34 v8 k11) (0 : Int32) s6)) else zgi (s6.1 216 8) (fun (v34 : Int32) => zcl (f_Model_fails (0 : Int32) v34 s6) (fun (v36 : Int32) (s35 : ZS) => zbl v36 s35))))))
set_option maxHeartbeats 4000000 in
set_option maxRecDepth 100000 in
theorem ok_Model_numberHere {L : Nat} {xs : Nat → Int32} {b : ZH} {p1 : Int32} {p2 : Int32} {s0 : ZS} {w : Int32 × ZS} (hF : f_Model_numberHere p1 p2 s0 = some w) : zz_ct zt_ms zt_nm zt_df (zt_X L xs) 1 zt_m158 [.ref 216, .int p1, .int p2] (zk b s0) (qI b w) := by
  unfold f_Model_numberHere at hF
  change zz_wp zt_ms zt_nm zt_df (zt_X L xs) 1 zt_m158 0 [(0, .ref 216), (1, .int p1), (2, .int p2)] [] (zk b s0) (qI b w)
  refine w_aload_n (pc2 := 1) rfl rfl rfl ?_
  refine j_cIv (pc2 := 4) (k := 0) (c := zt_m149) (as := [.ref 216]) (rest := []) rfl rfl rfl rfl zk_cModel.look rfl (Nat.le_of_ble_eq_true rfl) (Nat.le_of_ble_eq_true rfl) (fun w1 h1 => ok_Model_see h1) (by decide) rfl hF (fun v4 s3 hF => ?_)
  refine w_pop (pc2 := 5) rfl rfl rfl ?_
  refine w_aload_n (pc2 := 6) rfl rfl rfl ?_
  refine w_aload_n (pc2 := 7) rfl rfl rfl ?_
  refine j_geti (pc2 := 10) rfl zk_cModel rfl rfl rfl hF (fun v5 hF => ?_)
  refine j_cIv (pc2 := 13) (k := 0) (c := zt_m159) (as := [.ref 216, .int v5]) (rest := []) rfl rfl rfl rfl zk_cModel.look rfl (Nat.le_of_ble_eq_true rfl) (Nat.le_of_ble_eq_true rfl) (fun w1 h1 => ok_Model_isDigit h1) (by decide) rfl hF (fun v7 s6 hF => ?_)
  refine j_if_ne (pc2 := 16) rfl rfl hF (fun hF => ?_) (fun hF => ?_)
  · refine w_aload_n (pc2 := 27) rfl rfl rfl ?_
    refine j_geti (pc2 := 30) rfl zk_cModel rfl rfl rfl hF (fun v8 hF => ?_)
    refine w_istore_n (pc2 := 31) (ls2 := [(3, .int v8), (0, .ref 216), (1, .int p1), (2, .int p2)]) rfl rfl rfl ?_
    refine w_iconst (pc2 := 32) rfl rfl ?_
    refine w_istore (pc2 := 34) (ls2 := [(4, .int (0 : Int32)), (3, .int v8), (0, .ref 216), (1, .int p1), (2, .int p2)]) rfl rfl rfl ?_
    refine j_join (P := fun (a10 : Int32) (s9 : ZS) => zz_wp zt_ms zt_nm zt_df (zt_X L xs) 1 zt_m158 88 [(0, .ref 216), (1, .int p1), (2, .int p2), (3, .int v8), (4, .int a10)] [] (zk b s9) (qI b w)) hF (fun a10 s9 hF => ?_) (fun k11 hk11 hF => ?_)
    · refine w_aload_n (pc2 := 89) rfl rfl rfl ?_
      refine w_iload (pc2 := 91) rfl rfl rfl ?_
      refine j_puti (pc2 := 94) (j := 10) rfl zk_cModel rfl (Nat.le_of_ble_eq_true rfl) rfl zk_wModel_10 (by decide) rfl hF (fun s12 hF => ?_)
      refine w_aload_n (pc2 := 95) rfl rfl rfl ?_
      refine j_geti (pc2 := 98) rfl zk_cModel rfl rfl rfl hF (fun v13 hF => ?_)
      refine w_iload_n (pc2 := 99) rfl rfl rfl ?_
      refine w_isub (pc2 := 100) rfl rfl ?_
      refine w_iconst (pc2 := 101) rfl rfl ?_
      refine j_join0 (P := fun (s14 : ZS) => zz_wp zt_ms zt_nm zt_df (zt_X L xs) 1 zt_m158 117 [(0, .ref 216), (3, .int v8)] [] (zk b s14) (qI b w)) hF (fun s14 hF => ?_) (fun k15 hk15 hF => ?_)
      · refine w_aload_n (pc2 := 118) rfl rfl rfl ?_
        refine w_iconst (pc2 := 119) rfl rfl ?_
        refine w_iload_n (pc2 := 120) rfl rfl rfl ?_
        refine j_cIv (pc2 := 123) (k := 0) (c := zt_m153) (as := [.ref 216, .int (1 : Int32), .int v8]) (rest := []) rfl rfl rfl rfl zk_cModel.look rfl (Nat.le_of_ble_eq_true rfl) (Nat.le_of_ble_eq_true rfl) (fun w1 h1 => ok_Model_fails h1) (by decide) rfl hF (fun v17 s16 hF => ?_)
        refine j_if_eq (pc2 := 126) rfl rfl hF (fun hF => ?_) (fun hF => ?_)
        · refine w_iconst (pc2 := 131) rfl rfl ?_
          exact j_zret rfl rfl hF
        · refine w_iconst (pc2 := 127) rfl rfl ?_
          refine w_goto rfl ?_
          exact j_zret rfl rfl hF
      · refine j_icmp_gt (pc2 := 104) rfl rfl hF (fun hF => ?_) (fun hF => ?_)
        · exact j_norm (l := [(0, .ref 216), (3, .int v8)]) ⟨rfl, rfl, trivial⟩ (zz_nd_of (ks := [0, 3]) rfl (by decide)) (hk15 s12 hF)
        · refine w_iload (pc2 := 106) rfl rfl rfl ?_
          refine w_i2l (pc2 := 107) rfl rfl ?_
          refine w_iload_n (pc2 := 108) rfl rfl rfl ?_
          refine w_i2l (pc2 := 109) rfl rfl ?_
          refine w_iload_n (pc2 := 110) rfl rfl rfl ?_
          refine w_i2l (pc2 := 111) rfl rfl ?_
          refine j_cIs (pc2 := 114) (k := 0) (c := zt_m160) (as := [.long (a10.toInt64), .long (p1.toInt64), .long (p2.toInt64)]) (rest := []) rfl rfl rfl (Nat.le_of_ble_eq_true rfl) rfl rfl (Nat.le_of_ble_eq_true rfl) (Nat.le_of_ble_eq_true rfl) (fun w1 h1 => ok_Model_in h1) (by decide) rfl hF (fun v19 s18 hF => ?_)
          refine j_if_ne (pc2 := 117) rfl rfl hF (fun hF => ?_) (fun hF => ?_)
          · refine w_iconst (pc2 := 127) rfl rfl ?_
            refine w_goto rfl ?_
            exact j_zret rfl rfl hF
          · exact j_norm (l := [(0, .ref 216), (3, .int v8)]) ⟨rfl, rfl, trivial⟩ (zz_nd_of (ks := [0, 3]) rfl (by decide)) (hk15 s18 hF)
    · refine j_norm (l := [(0, .ref 216), (1, .int p1), (2, .int p2), (3, .int v8), (4, .int (0 : Int32))]) ⟨rfl, rfl, rfl, rfl, rfl, trivial⟩ (zz_nd_of (ks := [0, 1, 2, 3, 4]) rfl (by decide)) ?_
      refine j_loop (P := fun (a20 : Int32) (s21 : ZS) => zz_wp zt_ms zt_nm zt_df (zt_X L xs) 1 zt_m158 34 [(0, .ref 216), (1, .int p1), (2, .int p2), (3, .int v8), (4, .int a20)] [] (zk b s21) (qI b w)) hF (fun a20 s21 g22 hg22 hF => ?_)
      unfold f_Model_numberHere_B34 at hF
      refine w_aload_n (pc2 := 35) rfl rfl rfl ?_
      refine w_aload_n (pc2 := 36) rfl rfl rfl ?_
      refine j_geti (pc2 := 39) rfl zk_cModel rfl rfl rfl hF (fun v23 hF => ?_)
      refine j_cIv (pc2 := 42) (k := 0) (c := zt_m159) (as := [.ref 216, .int v23]) (rest := []) rfl rfl rfl rfl zk_cModel.look rfl (Nat.le_of_ble_eq_true rfl) (Nat.le_of_ble_eq_true rfl) (fun w1 h1 => ok_Model_isDigit h1) (by decide) rfl hF (fun v25 s24 hF => ?_)
      refine j_if_eq (pc2 := 45) rfl rfl hF (fun hF => ?_) (fun hF => ?_)
      · exact j_norm (l := [(0, .ref 216), (1, .int p1), (2, .int p2), (3, .int v8), (4, .int a20)]) ⟨rfl, rfl, rfl, rfl, rfl, trivial⟩ (zz_nd_of (ks := [0, 1, 2, 3, 4]) rfl (by decide)) (hk11 a20 s24 hF)
      · refine w_aload_n (pc2 := 46) rfl rfl rfl ?_
        refine j_geti (pc2 := 49) rfl zk_cModel rfl rfl rfl hF (fun v26 hF => ?_)
        refine w_iload_n (pc2 := 50) rfl rfl rfl ?_
        refine w_isub (pc2 := 51) rfl rfl ?_
        refine w_iconst (pc2 := 52) rfl rfl ?_
        refine j_join (P := fun (a28 : Int32) (s27 : ZS) => zz_wp zt_ms zt_nm zt_df (zt_X L xs) 1 zt_m158 75 [(0, .ref 216), (1, .int p1), (2, .int p2), (3, .int v8), (4, .int a28)] [] (zk b s27) (qI b w)) hF (fun a28 s27 hF => ?_) (fun k29 hk29 hF => ?_)
        · refine w_aload_n (pc2 := 76) rfl rfl rfl ?_
          refine w_dup (pc2 := 77) rfl rfl rfl ?_
          refine j_geti (pc2 := 80) rfl zk_cModel rfl rfl rfl hF (fun v30 hF => ?_)
          refine w_iconst (pc2 := 81) rfl rfl ?_
          refine w_iadd (pc2 := 82) rfl rfl ?_
          refine j_puti (pc2 := 85) (j := 8) rfl zk_cModel rfl (Nat.le_of_ble_eq_true rfl) rfl zk_wModel_8 (by decide) rfl hF (fun s31 hF => ?_)
          refine w_goto rfl ?_
          exact j_norm (l := [(0, .ref 216), (1, .int p1), (2, .int p2), (3, .int v8), (4, .int a28)]) ⟨rfl, rfl, rfl, rfl, rfl, trivial⟩ (zz_nd_of (ks := [0, 1, 2, 3, 4]) rfl (by decide)) (hg22 a28 s31 hF)
        · refine j_icmp_ge (pc2 := 55) rfl rfl hF (fun hF => ?_) (fun hF => ?_)
          · exact j_norm (l := [(0, .ref 216), (1, .int p1), (2, .int p2), (3, .int v8), (4, .int a20)]) ⟨rfl, rfl, rfl, rfl, rfl, trivial⟩ (zz_nd_of (ks := [0, 1, 2, 3, 4]) rfl (by decide)) (hk29 a20 s24 hF)
          · refine w_bipush (pc2 := 57) rfl rfl ?_
            refine w_iload (pc2 := 59) rfl rfl rfl ?_
            refine w_imul (pc2 := 60) rfl rfl ?_
            refine w_aload_n (pc2 := 61) rfl rfl rfl ?_
            refine w_getfield (pc2 := 64) rfl zk_cModel rfl rfl rfl ?_
            refine w_aload_n (pc2 := 65) rfl rfl rfl ?_
            refine j_geti (pc2 := 68) rfl zk_cModel rfl rfl rfl hF (fun v32 hF => ?_)
            refine j_baload (pc2 := 69) (n := 400) rfl rfl (by omega) (by decide) rfl hF (fun v33 hF => ?_)
            refine w_iadd (pc2 := 70) rfl rfl ?_
            refine w_bipush (pc2 := 72) rfl rfl ?_
            refine w_isub (pc2 := 73) rfl rfl ?_
            refine w_istore (pc2 := 75) (ls2 := [(4, .int (((((10 : Int32) * a20) + v33) - (48 : Int32)))), (0, .ref 216), (1, .int p1), (2, .int p2), (3, .int v8)]) rfl rfl rfl ?_
            exact j_norm (l := [(0, .ref 216), (1, .int p1), (2, .int p2), (3, .int v8), (4, .int (((((10 : Int32) * a20) + v33) - (48 : Int32))))]) ⟨rfl, rfl, rfl, rfl, rfl, trivial⟩ (zz_nd_of (ks := [0, 1, 2, 3, 4]) rfl (by decide)) (hk29 ((((10 : Int32) * a20) + v33) - (48 : Int32)) s24 hF)
  · refine w_aload_n (pc2 := 17) rfl rfl rfl ?_
    refine w_iconst (pc2 := 18) rfl rfl ?_
    refine w_aload_n (pc2 := 19) rfl rfl rfl ?_
    refine j_geti (pc2 := 22) rfl zk_cModel rfl rfl rfl hF (fun v34 hF => ?_)
    refine j_cIv (pc2 := 25) (k := 0) (c := zt_m153) (as := [.ref 216, .int (0 : Int32), .int v34]) (rest := []) rfl rfl rfl rfl zk_cModel.look rfl (Nat.le_of_ble_eq_true rfl) (Nat.le_of_ble_eq_true rfl) (fun w1 h1 => ok_Model_fails h1) (by decide) rfl hF (fun v36 s35 hF => ?_)
    exact j_zret rfl rfl hF
noncomputable def f_Model_cellHere (p1 : Int32) (p2 : Int32) (p3 : Int32) (s0 : ZS) : Option (Int32 × ZS) := zcl (f_Model_numberHere p2 p3 s0) (fun (v5 : Int32) (s4 : ZS) => (if ¬ v5 = 0 then zgi (s4.1 216 10) (fun (v6 : Int32) => zwa s4 222 108 p1 v6 (fun (s7 : ZS) => zbl (1 : Int32) s7)) else zbl (0 : Int32) s4))
set_option maxHeartbeats 4000000 in
set_option maxRecDepth 100000 in
theorem ok_Model_cellHere {L : Nat} {xs : Nat → Int32} {b : ZH} {p1 : Int32} {p2 : Int32} {p3 : Int32} {s0 : ZS} {w : Int32 × ZS} (hF : f_Model_cellHere p1 p2 p3 s0 = some w) : zz_ct zt_ms zt_nm zt_df (zt_X L xs) 2 zt_m157 [.ref 216, .int p1, .int p2, .int p3] (zk b s0) (qI b w) := by
  unfold f_Model_cellHere at hF
  change zz_wp zt_ms zt_nm zt_df (zt_X L xs) 2 zt_m157 0 [(0, .ref 216), (1, .int p1), (2, .int p2), (3, .int p3)] [] (zk b s0) (qI b w)
  refine w_aload_n (pc2 := 1) rfl rfl rfl ?_
  refine w_iload_n (pc2 := 2) rfl rfl rfl ?_
  refine w_iload_n (pc2 := 3) rfl rfl rfl ?_
  refine j_cIv (pc2 := 6) (k := 1) (c := zt_m158) (as := [.ref 216, .int p2, .int p3]) (rest := []) rfl rfl rfl rfl zk_cModel.look rfl (Nat.le_of_ble_eq_true rfl) (Nat.le_of_ble_eq_true rfl) (fun w1 h1 => ok_Model_numberHere h1) (by decide) rfl hF (fun v5 s4 hF => ?_)
  refine j_if_ne (pc2 := 9) rfl rfl hF (fun hF => ?_) (fun hF => ?_)
  · refine w_aload_n (pc2 := 12) rfl rfl rfl ?_
    refine w_getfield (pc2 := 15) rfl zk_cModel rfl rfl rfl ?_
    refine w_iload_n (pc2 := 16) rfl rfl rfl ?_
    refine w_aload_n (pc2 := 17) rfl rfl rfl ?_
    refine j_geti (pc2 := 20) rfl zk_cModel rfl rfl rfl hF (fun v6 hF => ?_)
    refine j_iastore (pc2 := 21) (n := 108) rfl rfl (by omega) (by decide) rfl hF (fun s7 hF => ?_)
    refine w_iconst (pc2 := 22) rfl rfl ?_
    exact j_zret rfl rfl hF
  · refine w_iconst (pc2 := 10) rfl rfl ?_
    exact j_zret rfl rfl hF
