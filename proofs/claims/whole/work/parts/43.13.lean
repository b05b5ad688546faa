/-! What methods do as functions of the state, and that the small machine does so. -/
noncomputable def f_Model_push (p1 : Int64) (s0 : ZS) : Option (ZS) := zgi (s0.1 216 18) (fun (v2 : Int32) => zwl s0 224 64 v2 p1 (fun (s3 : ZS) => zgi (s3.1 216 18) (fun (v4 : Int32) => zwi s3 216 18 ((v4 + (1 : Int32))) (fun (s5 : ZS) => some s5))))
set_option maxHeartbeats 4000000 in
set_option maxRecDepth 100000 in
theorem ok_Model_push {L : Nat} {xs : Nat → Int32} {b : ZH} {p1 : Int64} {s0 : ZS} {w : ZS} (hF : f_Model_push p1 s0 = some w) : zz_ct zt_ms zt_nm zt_df (zt_X L xs) 0 zt_m205 [.ref 216, .long p1] (zk b s0) (qV b w) := by
  unfold f_Model_push at hF
  change zz_wp zt_ms zt_nm zt_df (zt_X L xs) 0 zt_m205 0 [(0, .ref 216), (1, .long p1)] [] (zk b s0) (qV b w)
  refine w_aload_n (pc2 := 1) rfl rfl rfl ?_
  refine w_getfield (pc2 := 4) rfl zk_cModel rfl rfl rfl ?_
  refine w_aload_n (pc2 := 5) rfl rfl rfl ?_
  refine j_geti (pc2 := 8) rfl zk_cModel rfl rfl rfl hF (fun v2 hF => ?_)
  refine w_lload_n (pc2 := 9) rfl rfl rfl ?_
  refine j_lastore (pc2 := 10) (n := 64) rfl rfl (by decide) rfl hF (fun s3 hF => ?_)
  refine w_aload_n (pc2 := 11) rfl rfl rfl ?_
  refine w_dup (pc2 := 12) rfl rfl rfl ?_
  refine j_geti (pc2 := 15) rfl zk_cModel rfl rfl rfl hF (fun v4 hF => ?_)
  refine w_iconst (pc2 := 16) rfl rfl ?_
  refine w_iadd (pc2 := 17) rfl rfl ?_
  refine j_puti (pc2 := 20) (j := 18) rfl zk_cModel rfl (Nat.le_of_ble_eq_true rfl) rfl zk_wModel_18 (by decide) rfl hF (fun s5 hF => ?_)
  exact j_vret rfl rfl hF
noncomputable def f_Model_pop (s0 : ZS) : Option (Int64 × ZS) := zgi (s0.1 216 18) (fun (v1 : Int32) => zwi s0 216 18 ((v1 - (1 : Int32))) (fun (s2 : ZS) => zgi (s2.1 216 18) (fun (v3 : Int32) => zrl 64 v3 (s2.2 224) (fun (v4 : Int64) => some (v4, s2)))))
set_option maxHeartbeats 4000000 in
set_option maxRecDepth 100000 in
theorem ok_Model_pop {L : Nat} {xs : Nat → Int32} {b : ZH} {s0 : ZS} {w : Int64 × ZS} (hF : f_Model_pop s0 = some w) : zz_ct zt_ms zt_nm zt_df (zt_X L xs) 0 zt_m206 [.ref 216] (zk b s0) (qL b w) := by
  unfold f_Model_pop at hF
  change zz_wp zt_ms zt_nm zt_df (zt_X L xs) 0 zt_m206 0 [(0, .ref 216)] [] (zk b s0) (qL b w)
  refine w_aload_n (pc2 := 1) rfl rfl rfl ?_
  refine w_dup (pc2 := 2) rfl rfl rfl ?_
  refine j_geti (pc2 := 5) rfl zk_cModel rfl rfl rfl hF (fun v1 hF => ?_)
  refine w_iconst (pc2 := 6) rfl rfl ?_
  refine w_isub (pc2 := 7) rfl rfl ?_
  refine j_puti (pc2 := 10) (j := 18) rfl zk_cModel rfl (Nat.le_of_ble_eq_true rfl) rfl zk_wModel_18 (by decide) rfl hF (fun s2 hF => ?_)
  refine w_aload_n (pc2 := 11) rfl rfl rfl ?_
  refine w_getfield (pc2 := 14) rfl zk_cModel rfl rfl rfl ?_
  refine w_aload_n (pc2 := 15) rfl rfl rfl ?_
  refine j_geti (pc2 := 18) rfl zk_cModel rfl rfl rfl hF (fun v3 hF => ?_)
  refine j_laload (pc2 := 19) (n := 64) rfl rfl (by decide) rfl hF (fun v4 hF => ?_)
  exact j_lret rfl rfl hF
noncomputable def f_Model_one (p1 : Int32) (p2 : Int64) (p3 : Int64) (s0 : ZS) : Option (Int64 × ZS) := (if p1 = (2 : Int32) then some ((p2 + p3), s0) else (if p1 = (3 : Int32) then some ((p2 - p3), s0) else (if p1 = (4 : Int32) then some ((p2 * p3), s0) else (if p1 = (5 : Int32) then (if ¬ (lg_cmp p3 (0 : Int64)) = 0 then zdl p3 (some ((p2 / p3), s0)) else some ((0 : Int64), s0)) else (if p1 = (6 : Int32) then (if 0 ≤ (lg_cmp p2 p3) then some ((0 : Int64), s0) else some ((1 : Int64), s0)) else (if p1 = (7 : Int32) then (if 0 < (lg_cmp p2 p3) then some ((0 : Int64), s0) else some ((1 : Int64), s0)) else (if p1 = (8 : Int32) then (if ¬ (lg_cmp p2 p3) = 0 then some ((0 : Int64), s0) else some ((1 : Int64), s0)) else (if p1 = (9 : Int32) then (if (lg_cmp p2 p3) < 0 then some ((0 : Int64), s0) else some ((1 : Int64), s0)) else (if p1 = (10 : Int32) then (if (lg_cmp p2 p3) ≤ 0 then some ((0 : Int64), s0) else some ((1 : Int64), s0)) else (if p1 = (12 : Int32) then some ((p2 &&& p3), s0) else (if p1 = (14 : Int32) then (if ¬ (lg_cmp p3 (0 : Int64)) = 0 then zdl p3 (some ((p2 - p2 / p3 * p3), s0)) else some ((0 : Int64), s0)) else some ((p2 ||| p3), s0))))))))))))
set_option maxHeartbeats 4000000 in
set_option maxRecDepth 100000 in
theorem ok_Model_one {L : Nat} {xs : Nat → Int32} {b : ZH} {p1 : Int32} {p2 : Int64} {p3 : Int64} {s0 : ZS} {w : Int64 × ZS} (hF : f_Model_one p1 p2 p3 s0 = some w) : zz_ct zt_ms zt_nm zt_df (zt_X L xs) 0 zt_m207 [.int p1, .long p2, .long p3] (zk b s0) (qL b w) := by
  unfold f_Model_one at hF
  change zz_wp zt_ms zt_nm zt_df (zt_X L xs) 0 zt_m207 0 [(0, .int p1), (1, .long p2), (3, .long p3)] [] (zk b s0) (qL b w)
  refine w_iload_n (pc2 := 1) rfl rfl rfl ?_
  by_cases hs2 : p1 = (2 : Int32)
  · rw [if_pos hs2] at hF
    refine j_switch (t := 68) rfl (by rw [hs2]; rfl) ?_
    refine w_lload_n (pc2 := 69) rfl rfl rfl ?_
    refine w_lload_n (pc2 := 70) rfl rfl rfl ?_
    refine w_ladd (pc2 := 71) rfl rfl ?_
    exact j_lret rfl rfl hF
  rw [if_neg hs2] at hF
  by_cases hs3 : p1 = (3 : Int32)
  · rw [if_pos hs3] at hF
    refine j_switch (t := 72) rfl (by rw [hs3]; rfl) ?_
    refine w_lload_n (pc2 := 73) rfl rfl rfl ?_
    refine w_lload_n (pc2 := 74) rfl rfl rfl ?_
    refine w_lsub (pc2 := 75) rfl rfl ?_
    exact j_lret rfl rfl hF
  rw [if_neg hs3] at hF
  by_cases hs4 : p1 = (4 : Int32)
  · rw [if_pos hs4] at hF
    refine j_switch (t := 76) rfl (by rw [hs4]; rfl) ?_
    refine w_lload_n (pc2 := 77) rfl rfl rfl ?_
    refine w_lload_n (pc2 := 78) rfl rfl rfl ?_
    refine w_lmul (pc2 := 79) rfl rfl ?_
    exact j_lret rfl rfl hF
  rw [if_neg hs4] at hF
  by_cases hs5 : p1 = (5 : Int32)
  · rw [if_pos hs5] at hF
    refine j_switch (t := 80) rfl (by rw [hs5]; rfl) ?_
    refine w_lload_n (pc2 := 81) rfl rfl rfl ?_
    refine w_lconst (pc2 := 82) rfl rfl ?_
    refine w_lcmp (pc2 := 83) rfl rfl ?_
    refine j_if_ne (pc2 := 86) rfl rfl hF (fun hF => ?_) (fun hF => ?_)
    · refine w_lload_n (pc2 := 91) rfl rfl rfl ?_
      refine w_lload_n (pc2 := 92) rfl rfl rfl ?_
      refine j_ldiv (pc2 := 93) rfl rfl hF (fun hF => ?_)
      exact j_lret rfl rfl hF
    · refine w_lconst (pc2 := 87) rfl rfl ?_
      refine w_goto rfl ?_
      exact j_lret rfl rfl hF
  rw [if_neg hs5] at hF
  by_cases hs6 : p1 = (6 : Int32)
  · rw [if_pos hs6] at hF
    refine j_switch (t := 108) rfl (by rw [hs6]; rfl) ?_
    refine w_lload_n (pc2 := 109) rfl rfl rfl ?_
    refine w_lload_n (pc2 := 110) rfl rfl rfl ?_
    refine w_lcmp (pc2 := 111) rfl rfl ?_
    refine j_if_ge (pc2 := 114) rfl rfl hF (fun hF => ?_) (fun hF => ?_)
    · refine w_lconst (pc2 := 119) rfl rfl ?_
      exact j_lret rfl rfl hF
    · refine w_lconst (pc2 := 115) rfl rfl ?_
      refine w_goto rfl ?_
      exact j_lret rfl rfl hF
  rw [if_neg hs6] at hF
  by_cases hs7 : p1 = (7 : Int32)
  · rw [if_pos hs7] at hF
    refine j_switch (t := 120) rfl (by rw [hs7]; rfl) ?_
    refine w_lload_n (pc2 := 121) rfl rfl rfl ?_
    refine w_lload_n (pc2 := 122) rfl rfl rfl ?_
    refine w_lcmp (pc2 := 123) rfl rfl ?_
    refine j_if_gt (pc2 := 126) rfl rfl hF (fun hF => ?_) (fun hF => ?_)
    · refine w_lconst (pc2 := 131) rfl rfl ?_
      exact j_lret rfl rfl hF
    · refine w_lconst (pc2 := 127) rfl rfl ?_
      refine w_goto rfl ?_
      exact j_lret rfl rfl hF
  rw [if_neg hs7] at hF
  by_cases hs8 : p1 = (8 : Int32)
  · rw [if_pos hs8] at hF
    refine j_switch (t := 132) rfl (by rw [hs8]; rfl) ?_
    refine w_lload_n (pc2 := 133) rfl rfl rfl ?_
    refine w_lload_n (pc2 := 134) rfl rfl rfl ?_
    refine w_lcmp (pc2 := 135) rfl rfl ?_
    refine j_if_ne (pc2 := 138) rfl rfl hF (fun hF => ?_) (fun hF => ?_)
    · refine w_lconst (pc2 := 143) rfl rfl ?_
      exact j_lret rfl rfl hF
    · refine w_lconst (pc2 := 139) rfl rfl ?_
      refine w_goto rfl ?_
      exact j_lret rfl rfl hF
  rw [if_neg hs8] at hF
  by_cases hs9 : p1 = (9 : Int32)
  · rw [if_pos hs9] at hF
    refine j_switch (t := 144) rfl (by rw [hs9]; rfl) ?_
    refine w_lload_n (pc2 := 145) rfl rfl rfl ?_
    refine w_lload_n (pc2 := 146) rfl rfl rfl ?_
    refine w_lcmp (pc2 := 147) rfl rfl ?_
    refine j_if_lt (pc2 := 150) rfl rfl hF (fun hF => ?_) (fun hF => ?_)
    · refine w_lconst (pc2 := 155) rfl rfl ?_
      exact j_lret rfl rfl hF
    · refine w_lconst (pc2 := 151) rfl rfl ?_
      refine w_goto rfl ?_
      exact j_lret rfl rfl hF
  rw [if_neg hs9] at hF
  by_cases hs10 : p1 = (10 : Int32)
  · rw [if_pos hs10] at hF
    refine j_switch (t := 156) rfl (by rw [hs10]; rfl) ?_
    refine w_lload_n (pc2 := 157) rfl rfl rfl ?_
    refine w_lload_n (pc2 := 158) rfl rfl rfl ?_
    refine w_lcmp (pc2 := 159) rfl rfl ?_
    refine j_if_le (pc2 := 162) rfl rfl hF (fun hF => ?_) (fun hF => ?_)
    · refine w_lconst (pc2 := 167) rfl rfl ?_
      exact j_lret rfl rfl hF
    · refine w_lconst (pc2 := 163) rfl rfl ?_
      refine w_goto rfl ?_
      exact j_lret rfl rfl hF
  rw [if_neg hs10] at hF
  by_cases hs12 : p1 = (12 : Int32)
  · rw [if_pos hs12] at hF
    refine j_switch (t := 168) rfl (by rw [hs12]; rfl) ?_
    refine w_lload_n (pc2 := 169) rfl rfl rfl ?_
    refine w_lload_n (pc2 := 170) rfl rfl rfl ?_
    refine w_land (pc2 := 171) rfl rfl ?_
    exact j_lret rfl rfl hF
  rw [if_neg hs12] at hF
  by_cases hs14 : p1 = (14 : Int32)
  · rw [if_pos hs14] at hF
    refine j_switch (t := 94) rfl (by rw [hs14]; rfl) ?_
    refine w_lload_n (pc2 := 95) rfl rfl rfl ?_
    refine w_lconst (pc2 := 96) rfl rfl ?_
    refine w_lcmp (pc2 := 97) rfl rfl ?_
    refine j_if_ne (pc2 := 100) rfl rfl hF (fun hF => ?_) (fun hF => ?_)
    · refine w_lload_n (pc2 := 105) rfl rfl rfl ?_
      refine w_lload_n (pc2 := 106) rfl rfl rfl ?_
      refine j_lrem (pc2 := 107) rfl rfl hF (fun hF => ?_)
      exact j_lret rfl rfl hF
    · refine w_lconst (pc2 := 101) rfl rfl ?_
      refine w_goto rfl ?_
      exact j_lret rfl rfl hF
  rw [if_neg hs14] at hF
  refine j_switch (t := 172) rfl ?_ ?_
  · unfold zz_sw
    by_cases hr : (p1).toInt < 2 ∨ 14 < (p1).toInt
    · rw [if_pos hr]; rfl
    · rw [if_neg hr]
      have hcs : (p1).toInt = 2 ∨ (p1).toInt = 3 ∨ (p1).toInt = 4 ∨ (p1).toInt = 5 ∨ (p1).toInt = 6 ∨ (p1).toInt = 7 ∨ (p1).toInt = 8 ∨ (p1).toInt = 9 ∨ (p1).toInt = 10 ∨ (p1).toInt = 11 ∨ (p1).toInt = 12 ∨ (p1).toInt = 13 ∨ (p1).toInt = 14 := by omega
      rcases hcs with h | h | h | h | h | h | h | h | h | h | h | h | h
      · exact absurd (Int32.toInt_inj.mp (h.trans (by decide))) hs2
      · exact absurd (Int32.toInt_inj.mp (h.trans (by decide))) hs3
      · exact absurd (Int32.toInt_inj.mp (h.trans (by decide))) hs4
      · exact absurd (Int32.toInt_inj.mp (h.trans (by decide))) hs5
      · exact absurd (Int32.toInt_inj.mp (h.trans (by decide))) hs6
      · exact absurd (Int32.toInt_inj.mp (h.trans (by decide))) hs7
      · exact absurd (Int32.toInt_inj.mp (h.trans (by decide))) hs8
      · exact absurd (Int32.toInt_inj.mp (h.trans (by decide))) hs9
      · exact absurd (Int32.toInt_inj.mp (h.trans (by decide))) hs10
      · rw [h]; rfl
      · exact absurd (Int32.toInt_inj.mp (h.trans (by decide))) hs12
      · rw [h]; rfl
      · exact absurd (Int32.toInt_inj.mp (h.trans (by decide))) hs14
  · refine w_lload_n (pc2 := 173) rfl rfl rfl ?_
    refine w_lload_n (pc2 := 174) rfl rfl rfl ?_
    refine w_lor (pc2 := 175) rfl rfl ?_
    exact j_lret rfl rfl hF
noncomputable def f_Model_reckons_B8 (p1 : Int32) (p3 : Int32) (k6 : ZS → Option (Int64 × ZS)) (a9 : Int32) (s10 : ZS) (g11 : Int32 → ZS → Option (Int64 × ZS)) : Option (Int64 × ZS) := (if p3 ≤ a9 then k6 s10 else zrd 2400 ((((400 : Int32) * p1) + a9)) (s10.1 218) (fun (v12 : Int32) => zrd 2400 ((((400 : Int32) * p1) + a9)) (s10.1 218) (fun (v13 : Int32) => zj0 (fun (s14 : ZS) => g11 (a9 + (1 : Int32)) s14) (fun (k15 : ZS → Option (Int64 × ZS)) => (if ¬ (v12 &&& (15 : Int32)) = 0 then (if ¬ (v12 &&& (15 : Int32)) = (1 : Int32) then (if ¬ (v12 &&& (15 : Int32)) = (11 : Int32) then zcl (f_Model_pop s10) (fun (v17 : Int64) (s16 : ZS) => zcl (f_Model_pop s16) (fun (v19 : Int64) (s18 : ZS) => zcl (f_Model_one ((v12 &&& (15 : Int32))) v19 v17 s18) (fun (v21 : Int64) (s20 : ZS) => zcv (f_Model_push v21 s20) (fun (s22 : ZS) => k15 s22)))) else zcl (f_Model_pop s10) (fun (v24 : Int64) (s23 : ZS) => zcv (f_Model_push (((1 : Int64) - v24)) s23) (fun (s25 : ZS) => k15 s25))) else zrl 11 ((v13 >>> ((4 : Int32) &&& (31 : Int32)))) (s10.2 225) (fun (v26 : Int64) => zcv (f_Model_push v26 s10) (fun (s27 : ZS) => k15 s27))) else zcv (f_Model_push (((v13 >>> ((4 : Int32) &&& (31 : Int32))).toInt64)) s10) (fun (s28 : ZS) => k15 s28))))))
noncomputable def f_Model_reckons (p1 : Int32) (p2 : Int32) (p3 : Int32) (s0 : ZS) : Option (Int64 × ZS) := zwi s0 216 18 (0 : Int32) (fun (s4 : ZS) => zj0 (fun (s5 : ZS) => zcl (f_Model_pop s5) (fun (v8 : Int64) (s7 : ZS) => some (v8, s7))) (fun (k6 : ZS → Option (Int64 × ZS)) => zlp zN (f_Model_reckons_B8 p1 p3 k6) p2 s4))
set_option maxHeartbeats 4000000 in
set_option maxRecDepth 100000 in
theorem ok_Model_reckons {L : Nat} {xs : Nat → Int32} {b : ZH} {p1 : Int32} {p2 : Int32} {p3 : Int32} {s0 : ZS} {w : Int64 × ZS} (hF : f_Model_reckons p1 p2 p3 s0 = some w) : zz_ct zt_ms zt_nm zt_df (zt_X L xs) 1 zt_m204 [.ref 216, .int p1, .int p2, .int p3] (zk b s0) (qL b w) := by
  unfold f_Model_reckons at hF
  change zz_wp zt_ms zt_nm zt_df (zt_X L xs) 1 zt_m204 0 [(0, .ref 216), (1, .int p1), (2, .int p2), (3, .int p3)] [] (zk b s0) (qL b w)
  refine w_aload_n (pc2 := 1) rfl rfl rfl ?_
  refine w_iconst (pc2 := 2) rfl rfl ?_
  refine j_puti (pc2 := 5) (j := 18) rfl zk_cModel rfl (Nat.le_of_ble_eq_true rfl) rfl zk_wModel_18 (by decide) rfl hF (fun s4 hF => ?_)
  refine w_iload_n (pc2 := 6) rfl rfl rfl ?_
  refine w_istore (pc2 := 8) (ls2 := [(4, .int p2), (0, .ref 216), (1, .int p1), (2, .int p2), (3, .int p3)]) rfl rfl rfl ?_
  refine j_join0 (P := fun (s5 : ZS) => zz_wp zt_ms zt_nm zt_df (zt_X L xs) 1 zt_m204 135 [(0, .ref 216)] [] (zk b s5) (qL b w)) hF (fun s5 hF => ?_) (fun k6 hk6 hF => ?_)
  · refine w_aload_n (pc2 := 136) rfl rfl rfl ?_
    refine j_cLv (pc2 := 139) (k := 0) (c := zt_m206) (as := [.ref 216]) (rest := []) rfl rfl rfl rfl zk_cModel.look rfl (Nat.le_of_ble_eq_true rfl) (Nat.le_of_ble_eq_true rfl) (fun w1 h1 => ok_Model_pop h1) (by decide) rfl hF (fun v8 s7 hF => ?_)
    exact j_lret rfl rfl hF
  · refine j_norm (l := [(0, .ref 216), (1, .int p1), (3, .int p3), (4, .int p2)]) ⟨rfl, rfl, rfl, rfl, trivial⟩ (zz_nd_of (ks := [0, 1, 3, 4]) rfl (by decide)) ?_
    refine j_loop (P := fun (a9 : Int32) (s10 : ZS) => zz_wp zt_ms zt_nm zt_df (zt_X L xs) 1 zt_m204 8 [(0, .ref 216), (1, .int p1), (3, .int p3), (4, .int a9)] [] (zk b s10) (qL b w)) hF (fun a9 s10 g11 hg11 hF => ?_)
    unfold f_Model_reckons_B8 at hF
    refine w_iload (pc2 := 10) rfl rfl rfl ?_
    refine w_iload_n (pc2 := 11) rfl rfl rfl ?_
    refine j_icmp_ge (pc2 := 14) rfl rfl hF (fun hF => ?_) (fun hF => ?_)
    · exact j_norm (l := [(0, .ref 216)]) ⟨rfl, trivial⟩ (zz_nd_of (ks := [0]) rfl (by decide)) (hk6 s10 hF)
    · refine w_aload_n (pc2 := 15) rfl rfl rfl ?_
      refine w_getfield (pc2 := 18) rfl zk_cModel rfl rfl rfl ?_
      refine w_sipush (pc2 := 21) rfl rfl ?_
      refine w_iload_n (pc2 := 22) rfl rfl rfl ?_
      refine w_imul (pc2 := 23) rfl rfl ?_
      refine w_iload (pc2 := 25) rfl rfl rfl ?_
      refine w_iadd (pc2 := 26) rfl rfl ?_
      refine j_iaload (pc2 := 27) (n := 2400) rfl rfl (by omega) (by decide) rfl hF (fun v12 hF => ?_)
      refine w_bipush (pc2 := 29) rfl rfl ?_
      refine w_iand (pc2 := 30) rfl rfl ?_
      refine w_istore (pc2 := 32) (ls2 := [(5, .int ((v12 &&& (15 : Int32)))), (0, .ref 216), (1, .int p1), (3, .int p3), (4, .int a9)]) rfl rfl rfl ?_
      refine w_aload_n (pc2 := 33) rfl rfl rfl ?_
      refine w_getfield (pc2 := 36) rfl zk_cModel rfl rfl rfl ?_
      refine w_sipush (pc2 := 39) rfl rfl ?_
      refine w_iload_n (pc2 := 40) rfl rfl rfl ?_
      refine w_imul (pc2 := 41) rfl rfl ?_
      refine w_iload (pc2 := 43) rfl rfl rfl ?_
      refine w_iadd (pc2 := 44) rfl rfl ?_
      refine j_iaload (pc2 := 45) (n := 2400) rfl rfl (by omega) (by decide) rfl hF (fun v13 hF => ?_)
      refine w_iconst (pc2 := 46) rfl rfl ?_
      refine w_ishr (pc2 := 47) rfl rfl ?_
      refine w_istore (pc2 := 49) (ls2 := [(6, .int ((v13 >>> ((4 : Int32) &&& (31 : Int32))))), (5, .int ((v12 &&& (15 : Int32)))), (0, .ref 216), (1, .int p1), (3, .int p3), (4, .int a9)]) rfl rfl rfl ?_
      refine w_iload (pc2 := 51) rfl rfl rfl ?_
      refine j_join0 (P := fun (s14 : ZS) => zz_wp zt_ms zt_nm zt_df (zt_X L xs) 1 zt_m204 129 [(0, .ref 216), (1, .int p1), (3, .int p3), (4, .int a9)] [] (zk b s14) (qL b w)) hF (fun s14 hF => ?_) (fun k15 hk15 hF => ?_)
      · refine w_iinc (pc2 := 132) (ls2 := [(4, .int ((a9 + (1 : Int32)))), (0, .ref 216), (1, .int p1), (3, .int p3)]) rfl rfl rfl rfl ?_
        refine w_goto rfl ?_
        exact j_norm (l := [(0, .ref 216), (1, .int p1), (3, .int p3), (4, .int ((a9 + (1 : Int32))))]) ⟨rfl, rfl, rfl, rfl, trivial⟩ (zz_nd_of (ks := [0, 1, 3, 4]) rfl (by decide)) (hg11 (a9 + (1 : Int32)) s14 hF)
      · refine j_if_ne (pc2 := 54) rfl rfl hF (fun hF => ?_) (fun hF => ?_)
        · refine w_iload (pc2 := 66) rfl rfl rfl ?_
          refine w_iconst (pc2 := 67) rfl rfl ?_
          refine j_icmp_ne (pc2 := 70) rfl rfl hF (fun hF => ?_) (fun hF => ?_)
          · refine w_iload (pc2 := 86) rfl rfl rfl ?_
            refine w_bipush (pc2 := 88) rfl rfl ?_
            refine j_icmp_ne (pc2 := 91) rfl rfl hF (fun hF => ?_) (fun hF => ?_)
            · refine w_aload_n (pc2 := 105) rfl rfl rfl ?_
              refine j_cLv (pc2 := 108) (k := 0) (c := zt_m206) (as := [.ref 216]) (rest := []) rfl rfl rfl rfl zk_cModel.look rfl (Nat.le_of_ble_eq_true rfl) (Nat.le_of_ble_eq_true rfl) (fun w1 h1 => ok_Model_pop h1) (by decide) rfl hF (fun v17 s16 hF => ?_)
              refine w_lstore (pc2 := 110) (ls2 := [(7, .long v17), (6, .int ((v13 >>> ((4 : Int32) &&& (31 : Int32))))), (5, .int ((v12 &&& (15 : Int32)))), (0, .ref 216), (1, .int p1), (3, .int p3), (4, .int a9)]) rfl rfl rfl ?_
              refine w_aload_n (pc2 := 111) rfl rfl rfl ?_
              refine j_cLv (pc2 := 114) (k := 0) (c := zt_m206) (as := [.ref 216]) (rest := []) rfl rfl rfl rfl zk_cModel.look rfl (Nat.le_of_ble_eq_true rfl) (Nat.le_of_ble_eq_true rfl) (fun w1 h1 => ok_Model_pop h1) (by decide) rfl hF (fun v19 s18 hF => ?_)
              refine w_lstore (pc2 := 116) (ls2 := [(9, .long v19), (7, .long v17), (6, .int ((v13 >>> ((4 : Int32) &&& (31 : Int32))))), (5, .int ((v12 &&& (15 : Int32)))), (0, .ref 216), (1, .int p1), (3, .int p3), (4, .int a9)]) rfl rfl rfl ?_
              refine w_aload_n (pc2 := 117) rfl rfl rfl ?_
              refine w_iload (pc2 := 119) rfl rfl rfl ?_
              refine w_lload (pc2 := 121) rfl rfl rfl ?_
              refine w_lload (pc2 := 123) rfl rfl rfl ?_
              refine j_cLs (pc2 := 126) (k := 0) (c := zt_m207) (as := [.int ((v12 &&& (15 : Int32))), .long v19, .long v17]) (rest := [.ref 216]) rfl rfl rfl (Nat.le_of_ble_eq_true rfl) rfl rfl (Nat.le_of_ble_eq_true rfl) (Nat.le_of_ble_eq_true rfl) (fun w1 h1 => ok_Model_one h1) (by decide) rfl hF (fun v21 s20 hF => ?_)
              refine j_cVv (pc2 := 129) (k := 0) (c := zt_m205) (as := [.ref 216, .long v21]) (rest := []) rfl rfl rfl rfl zk_cModel.look rfl (Nat.le_of_ble_eq_true rfl) (Nat.le_of_ble_eq_true rfl) (fun w1 h1 => ok_Model_push h1) (by decide) rfl hF (fun s22 hF => ?_)
              exact j_norm (l := [(0, .ref 216), (1, .int p1), (3, .int p3), (4, .int a9)]) ⟨rfl, rfl, rfl, rfl, trivial⟩ (zz_nd_of (ks := [0, 1, 3, 4]) rfl (by decide)) (hk15 s22 hF)
            · refine w_aload_n (pc2 := 92) rfl rfl rfl ?_
              refine w_lconst (pc2 := 93) rfl rfl ?_
              refine w_aload_n (pc2 := 94) rfl rfl rfl ?_
              refine j_cLv (pc2 := 97) (k := 0) (c := zt_m206) (as := [.ref 216]) (rest := [.long (1 : Int64), .ref 216]) rfl rfl rfl rfl zk_cModel.look rfl (Nat.le_of_ble_eq_true rfl) (Nat.le_of_ble_eq_true rfl) (fun w1 h1 => ok_Model_pop h1) (by decide) rfl hF (fun v24 s23 hF => ?_)
              refine w_lsub (pc2 := 98) rfl rfl ?_
              refine j_cVv (pc2 := 101) (k := 0) (c := zt_m205) (as := [.ref 216, .long (((1 : Int64) - v24))]) (rest := []) rfl rfl rfl rfl zk_cModel.look rfl (Nat.le_of_ble_eq_true rfl) (Nat.le_of_ble_eq_true rfl) (fun w1 h1 => ok_Model_push h1) (by decide) rfl hF (fun s25 hF => ?_)
              refine w_goto rfl ?_
              exact j_norm (l := [(0, .ref 216), (1, .int p1), (3, .int p3), (4, .int a9)]) ⟨rfl, rfl, rfl, rfl, trivial⟩ (zz_nd_of (ks := [0, 1, 3, 4]) rfl (by decide)) (hk15 s25 hF)
          · refine w_aload_n (pc2 := 71) rfl rfl rfl ?_
            refine w_aload_n (pc2 := 72) rfl rfl rfl ?_
            refine w_getfield (pc2 := 75) rfl zk_cModel rfl rfl rfl ?_
            refine w_iload (pc2 := 77) rfl rfl rfl ?_
            refine j_laload (pc2 := 78) (n := 11) rfl rfl (by decide) rfl hF (fun v26 hF => ?_)
            refine j_cVv (pc2 := 81) (k := 0) (c := zt_m205) (as := [.ref 216, .long v26]) (rest := []) rfl rfl rfl rfl zk_cModel.look rfl (Nat.le_of_ble_eq_true rfl) (Nat.le_of_ble_eq_true rfl) (fun w1 h1 => ok_Model_push h1) (by decide) rfl hF (fun s27 hF => ?_)
            refine w_goto rfl ?_
            exact j_norm (l := [(0, .ref 216), (1, .int p1), (3, .int p3), (4, .int a9)]) ⟨rfl, rfl, rfl, rfl, trivial⟩ (zz_nd_of (ks := [0, 1, 3, 4]) rfl (by decide)) (hk15 s27 hF)
        · refine w_aload_n (pc2 := 55) rfl rfl rfl ?_
          refine w_iload (pc2 := 57) rfl rfl rfl ?_
          refine w_i2l (pc2 := 58) rfl rfl ?_
          refine j_cVv (pc2 := 61) (k := 0) (c := zt_m205) (as := [.ref 216, .long (((v13 >>> ((4 : Int32) &&& (31 : Int32))).toInt64))]) (rest := []) rfl rfl rfl rfl zk_cModel.look rfl (Nat.le_of_ble_eq_true rfl) (Nat.le_of_ble_eq_true rfl) (fun w1 h1 => ok_Model_push h1) (by decide) rfl hF (fun s28 hF => ?_)
          refine w_goto rfl ?_
          exact j_norm (l := [(0, .ref 216), (1, .int p1), (3, .int p3), (4, .int a9)]) ⟨rfl, rfl, rfl, rfl, trivial⟩ (zz_nd_of (ks := [0, 1, 3, 4]) rfl (by decide)) (hk15 s28 hF)
noncomputable def f_Model_summedBy_B2 (p1 : Int32) (a2 : Int32) (s3 : ZS) (g4 : Int32 → ZS → Option (Int64 × ZS)) : Option (Int64 × ZS) := zrd 6 p1 (s3.1 221) (fun (v5 : Int32) => (if v5 ≤ a2 then some ((0 : Int64), s3) else zrd 288 (((((48 : Int32) * p1) + ((4 : Int32) * a2)) + (2 : Int32))) (s3.1 220) (fun (v6 : Int32) => zj0 (fun (s7 : ZS) => zrd 288 ((((48 : Int32) * p1) + ((4 : Int32) * a2))) (s7.1 220) (fun (v9 : Int32) => zrd 288 (((((48 : Int32) * p1) + ((4 : Int32) * a2)) + (1 : Int32))) (s7.1 220) (fun (v10 : Int32) => zcl (f_Model_reckons p1 v9 v10 s7) (fun (v12 : Int64) (s11 : ZS) => some (v12, s11))))) (fun (k8 : ZS → Option (Int64 × ZS)) => (if v6 < 0 then k8 s3 else zrd 288 (((((48 : Int32) * p1) + ((4 : Int32) * a2)) + (2 : Int32))) (s3.1 220) (fun (v13 : Int32) => zrd 288 (((((48 : Int32) * p1) + ((4 : Int32) * a2)) + (3 : Int32))) (s3.1 220) (fun (v14 : Int32) => zcl (f_Model_reckons p1 v13 v14 s3) (fun (v16 : Int64) (s15 : ZS) => (if ¬ (lg_cmp v16 (1 : Int64)) = 0 then g4 (a2 + (1 : Int32)) s15 else k8 s15)))))))))
noncomputable def f_Model_summedBy (p1 : Int32) (s0 : ZS) : Option (Int64 × ZS) := zlp zN (f_Model_summedBy_B2 p1) (0 : Int32) s0
set_option maxHeartbeats 4000000 in
set_option maxRecDepth 100000 in
theorem ok_Model_summedBy {L : Nat} {xs : Nat → Int32} {b : ZH} {p1 : Int32} {s0 : ZS} {w : Int64 × ZS} (hF : f_Model_summedBy p1 s0 = some w) : zz_ct zt_ms zt_nm zt_df (zt_X L xs) 2 zt_m203 [.ref 216, .int p1] (zk b s0) (qL b w) := by
  unfold f_Model_summedBy at hF
  change zz_wp zt_ms zt_nm zt_df (zt_X L xs) 2 zt_m203 0 [(0, .ref 216), (1, .int p1)] [] (zk b s0) (qL b w)
  refine w_iconst (pc2 := 1) rfl rfl ?_
  refine w_istore_n (pc2 := 2) (ls2 := [(2, .int (0 : Int32)), (0, .ref 216), (1, .int p1)]) rfl rfl rfl ?_
  refine j_norm (l := [(0, .ref 216), (1, .int p1), (2, .int (0 : Int32))]) ⟨rfl, rfl, rfl, trivial⟩ (zz_nd_of (ks := [0, 1, 2]) rfl (by decide)) ?_
  refine j_loop (P := fun (a2 : Int32) (s3 : ZS) => zz_wp zt_ms zt_nm zt_df (zt_X L xs) 2 zt_m203 2 [(0, .ref 216), (1, .int p1), (2, .int a2)] [] (zk b s3) (qL b w)) hF (fun a2 s3 g4 hg4 hF => ?_)
  unfold f_Model_summedBy_B2 at hF
  refine w_iload_n (pc2 := 3) rfl rfl rfl ?_
  refine w_aload_n (pc2 := 4) rfl rfl rfl ?_
  refine w_getfield (pc2 := 7) rfl zk_cModel rfl rfl rfl ?_
  refine w_iload_n (pc2 := 8) rfl rfl rfl ?_
  refine j_iaload (pc2 := 9) (n := 6) rfl rfl (by omega) (by decide) rfl hF (fun v5 hF => ?_)
  refine j_icmp_ge (pc2 := 12) rfl rfl hF (fun hF => ?_) (fun hF => ?_)
  · refine w_lconst (pc2 := 85) rfl rfl ?_
    exact j_lret rfl rfl hF
  · refine w_bipush (pc2 := 14) rfl rfl ?_
    refine w_iload_n (pc2 := 15) rfl rfl rfl ?_
    refine w_imul (pc2 := 16) rfl rfl ?_
    refine w_iconst (pc2 := 17) rfl rfl ?_
    refine w_iload_n (pc2 := 18) rfl rfl rfl ?_
    refine w_imul (pc2 := 19) rfl rfl ?_
    refine w_iadd (pc2 := 20) rfl rfl ?_
    refine w_istore_n (pc2 := 21) (ls2 := [(3, .int ((((48 : Int32) * p1) + ((4 : Int32) * a2)))), (0, .ref 216), (1, .int p1), (2, .int a2)]) rfl rfl rfl ?_
    refine w_aload_n (pc2 := 22) rfl rfl rfl ?_
    refine w_getfield (pc2 := 25) rfl zk_cModel rfl rfl rfl ?_
    refine w_iload_n (pc2 := 26) rfl rfl rfl ?_
    refine w_iconst (pc2 := 27) rfl rfl ?_
    refine w_iadd (pc2 := 28) rfl rfl ?_
    refine j_iaload (pc2 := 29) (n := 288) rfl rfl (by omega) (by decide) rfl hF (fun v6 hF => ?_)
    refine j_join0 (P := fun (s7 : ZS) => zz_wp zt_ms zt_nm zt_df (zt_X L xs) 2 zt_m203 58 [(0, .ref 216), (1, .int p1), (3, .int ((((48 : Int32) * p1) + ((4 : Int32) * a2))))] [] (zk b s7) (qL b w)) hF (fun s7 hF => ?_) (fun k8 hk8 hF => ?_)
    · refine w_aload_n (pc2 := 59) rfl rfl rfl ?_
      refine w_iload_n (pc2 := 60) rfl rfl rfl ?_
      refine w_aload_n (pc2 := 61) rfl rfl rfl ?_
      refine w_getfield (pc2 := 64) rfl zk_cModel rfl rfl rfl ?_
      refine w_iload_n (pc2 := 65) rfl rfl rfl ?_
      refine j_iaload (pc2 := 66) (n := 288) rfl rfl (by omega) (by decide) rfl hF (fun v9 hF => ?_)
      refine w_aload_n (pc2 := 67) rfl rfl rfl ?_
      refine w_getfield (pc2 := 70) rfl zk_cModel rfl rfl rfl ?_
      refine w_iload_n (pc2 := 71) rfl rfl rfl ?_
      refine w_iconst (pc2 := 72) rfl rfl ?_
      refine w_iadd (pc2 := 73) rfl rfl ?_
      refine j_iaload (pc2 := 74) (n := 288) rfl rfl (by omega) (by decide) rfl hF (fun v10 hF => ?_)
      refine j_cLv (pc2 := 77) (k := 1) (c := zt_m204) (as := [.ref 216, .int p1, .int v9, .int v10]) (rest := []) rfl rfl rfl rfl zk_cModel.look rfl (Nat.le_of_ble_eq_true rfl) (Nat.le_of_ble_eq_true rfl) (fun w1 h1 => ok_Model_reckons h1) (by decide) rfl hF (fun v12 s11 hF => ?_)
      exact j_lret rfl rfl hF
    · refine j_if_lt (pc2 := 32) rfl rfl hF (fun hF => ?_) (fun hF => ?_)
      · exact j_norm (l := [(0, .ref 216), (1, .int p1), (3, .int ((((48 : Int32) * p1) + ((4 : Int32) * a2))))]) ⟨rfl, rfl, rfl, trivial⟩ (zz_nd_of (ks := [0, 1, 3]) rfl (by decide)) (hk8 s3 hF)
      · refine w_aload_n (pc2 := 33) rfl rfl rfl ?_
        refine w_iload_n (pc2 := 34) rfl rfl rfl ?_
        refine w_aload_n (pc2 := 35) rfl rfl rfl ?_
        refine w_getfield (pc2 := 38) rfl zk_cModel rfl rfl rfl ?_
        refine w_iload_n (pc2 := 39) rfl rfl rfl ?_
        refine w_iconst (pc2 := 40) rfl rfl ?_
        refine w_iadd (pc2 := 41) rfl rfl ?_
        refine j_iaload (pc2 := 42) (n := 288) rfl rfl (by omega) (by decide) rfl hF (fun v13 hF => ?_)
        refine w_aload_n (pc2 := 43) rfl rfl rfl ?_
        refine w_getfield (pc2 := 46) rfl zk_cModel rfl rfl rfl ?_
        refine w_iload_n (pc2 := 47) rfl rfl rfl ?_
        refine w_iconst (pc2 := 48) rfl rfl ?_
        refine w_iadd (pc2 := 49) rfl rfl ?_
        refine j_iaload (pc2 := 50) (n := 288) rfl rfl (by omega) (by decide) rfl hF (fun v14 hF => ?_)
        refine j_cLv (pc2 := 53) (k := 1) (c := zt_m204) (as := [.ref 216, .int p1, .int v13, .int v14]) (rest := []) rfl rfl rfl rfl zk_cModel.look rfl (Nat.le_of_ble_eq_true rfl) (Nat.le_of_ble_eq_true rfl) (fun w1 h1 => ok_Model_reckons h1) (by decide) rfl hF (fun v16 s15 hF => ?_)
        refine w_lconst (pc2 := 54) rfl rfl ?_
        refine w_lcmp (pc2 := 55) rfl rfl ?_
        refine j_if_ne (pc2 := 58) rfl rfl hF (fun hF => ?_) (fun hF => ?_)
        · refine w_iinc (pc2 := 81) (ls2 := [(2, .int ((a2 + (1 : Int32)))), (3, .int ((((48 : Int32) * p1) + ((4 : Int32) * a2)))), (0, .ref 216), (1, .int p1)]) rfl rfl rfl rfl ?_
          refine w_goto rfl ?_
          exact j_norm (l := [(0, .ref 216), (1, .int p1), (2, .int ((a2 + (1 : Int32))))]) ⟨rfl, rfl, rfl, trivial⟩ (zz_nd_of (ks := [0, 1, 2]) rfl (by decide)) (hg4 (a2 + (1 : Int32)) s15 hF)
        · exact j_norm (l := [(0, .ref 216), (1, .int p1), (3, .int ((((48 : Int32) * p1) + ((4 : Int32) * a2))))]) ⟨rfl, rfl, rfl, trivial⟩ (zz_nd_of (ks := [0, 1, 3]) rfl (by decide)) (hk8 s15 hF)
noncomputable def f_Model_sumOf (p1 : Int32) (p2 : Int32) (s0 : ZS) : Option (Int64 × ZS) := zgi (s0.1 216 21) (fun (v3 : Int32) => (if 0 ≤ v3 then zwf s0 225 0 (p1.toInt64) (fun (s4 : ZS) => zwf s4 225 1 (p2.toInt64) (fun (s5 : ZS) => zcl (f_Model_temperOf p1 s5) (fun (v7 : Int32) (s6 : ZS) => zwf s6 225 2 (v7.toInt64) (fun (s8 : ZS) => zrd 139 (((57 : Int32) + p1)) (s8.1 226) (fun (v9 : Int32) => zwf s8 225 3 (v9.toInt64) (fun (s10 : ZS) => zrd 139 (((67 : Int32) + p2)) (s10.1 226) (fun (v11 : Int32) => zwf s10 225 4 (v11.toInt64) (fun (s12 : ZS) => zrd 139 ((((73 : Int32) + ((6 : Int32) * p1)) + p2)) (s12.1 226) (fun (v13 : Int32) => zwf s12 225 5 (v13.toInt64) (fun (s14 : ZS) => zrd 139 ((((27 : Int32) + ((6 : Int32) * p1)) + p2)) (s14.1 226) (fun (v15 : Int32) => zwf s14 225 6 (v15.toInt64) (fun (s16 : ZS) => zrd 139 (((103 : Int32) + p1)) (s16.1 226) (fun (v17 : Int32) => zcl (f_Model_banded s16) (fun (v19 : Int32) (s18 : ZS) => zcl (f_Model_bits ((v17 &&& (v19 ^^^ (-1 : Int32)))) s18) (fun (v21 : Int32) (s20 : ZS) => zwf s20 225 7 (v21.toInt64) (fun (s22 : ZS) => zcl (f_Model_banded s22) (fun (v24 : Int32) (s23 : ZS) => zcl (f_Model_bits v24 s23) (fun (v26 : Int32) (s25 : ZS) => zwf s25 225 8 (v26.toInt64) (fun (s27 : ZS) => zgi (s27.1 226 11) (fun (v28 : Int32) => zwf s27 225 9 (v28.toInt64) (fun (s29 : ZS) => zgi (s29.1 226 10) (fun (v30 : Int32) => zwf s29 225 10 (v30.toInt64) (fun (s31 : ZS) => zgi (s31.1 216 21) (fun (v32 : Int32) => zcl (f_Model_summedBy v32 s31) (fun (v34 : Int64) (s33 : ZS) => some (v34, s33)))))))))))))))))))))))))) else zcl (f_Model_hurts p1 p2 s0) (fun (v36 : Int32) (s35 : ZS) => some ((v36.toInt64), s35))))
set_option maxHeartbeats 4000000 in
set_option maxRecDepth 100000 in
theorem ok_Model_sumOf {L : Nat} {xs : Nat → Int32} {b : ZH} {p1 : Int32} {p2 : Int32} {s0 : ZS} {w : Int64 × ZS} (hF : f_Model_sumOf p1 p2 s0 = some w) : zz_ct zt_ms zt_nm zt_df (zt_X L xs) 3 zt_m200 [.ref 216, .int p1, .int p2] (zk b s0) (qL b w) := by
  unfold f_Model_sumOf at hF
  change zz_wp zt_ms zt_nm zt_df (zt_X L xs) 3 zt_m200 0 [(0, .ref 216), (1, .int p1), (2, .int p2)] [] (zk b s0) (qL b w)
  refine w_aload_n (pc2 := 1) rfl rfl rfl ?_
  refine j_geti (pc2 := 4) rfl zk_cModel rfl rfl rfl hF (fun v3 hF => ?_)
  refine j_if_ge (pc2 := 7) rfl rfl hF (fun hF => ?_) (fun hF => ?_)
  · refine w_aload_n (pc2 := 16) rfl rfl rfl ?_
    refine w_getfield (pc2 := 19) rfl zk_cModel rfl rfl rfl ?_
    refine w_iconst (pc2 := 20) rfl rfl ?_
    refine w_iload_n (pc2 := 21) rfl rfl rfl ?_
    refine w_i2l (pc2 := 22) rfl rfl ?_
    refine j_lastoreC (pc2 := 23) (n := 11) (j := 0) rfl rfl (by decide) (by decide) (by decide) (by decide) rfl hF (fun s4 hF => ?_)
    refine w_aload_n (pc2 := 24) rfl rfl rfl ?_
    refine w_getfield (pc2 := 27) rfl zk_cModel rfl rfl rfl ?_
    refine w_iconst (pc2 := 28) rfl rfl ?_
    refine w_iload_n (pc2 := 29) rfl rfl rfl ?_
    refine w_i2l (pc2 := 30) rfl rfl ?_
    refine j_lastoreC (pc2 := 31) (n := 11) (j := 1) rfl rfl (by decide) (by decide) (by decide) (by decide) rfl hF (fun s5 hF => ?_)
    refine w_aload_n (pc2 := 32) rfl rfl rfl ?_
    refine w_getfield (pc2 := 35) rfl zk_cModel rfl rfl rfl ?_
    refine w_iconst (pc2 := 36) rfl rfl ?_
    refine w_aload_n (pc2 := 37) rfl rfl rfl ?_
    refine w_iload_n (pc2 := 38) rfl rfl rfl ?_
    refine j_cIv (pc2 := 41) (k := 0) (c := zt_m187) (as := [.ref 216, .int p1]) (rest := [.int (2 : Int32), .ref 225]) rfl rfl rfl rfl zk_cModel.look rfl (Nat.le_of_ble_eq_true rfl) (Nat.le_of_ble_eq_true rfl) (fun w1 h1 => ok_Model_temperOf h1) (by decide) rfl hF (fun v7 s6 hF => ?_)
    refine w_i2l (pc2 := 42) rfl rfl ?_
    refine j_lastoreC (pc2 := 43) (n := 11) (j := 2) rfl rfl (by decide) (by decide) (by decide) (by decide) rfl hF (fun s8 hF => ?_)
    refine w_aload_n (pc2 := 44) rfl rfl rfl ?_
    refine w_getfield (pc2 := 47) rfl zk_cModel rfl rfl rfl ?_
    refine w_iconst (pc2 := 48) rfl rfl ?_
    refine w_aload_n (pc2 := 49) rfl rfl rfl ?_
    refine w_getfield (pc2 := 52) rfl zk_cModel rfl rfl rfl ?_
    refine w_bipush (pc2 := 54) rfl rfl ?_
    refine w_iload_n (pc2 := 55) rfl rfl rfl ?_
    refine w_iadd (pc2 := 56) rfl rfl ?_
    refine j_iaload (pc2 := 57) (n := 139) rfl rfl (by omega) (by decide) rfl hF (fun v9 hF => ?_)
    refine w_i2l (pc2 := 58) rfl rfl ?_
    refine j_lastoreC (pc2 := 59) (n := 11) (j := 3) rfl rfl (by decide) (by decide) (by decide) (by decide) rfl hF (fun s10 hF => ?_)
    refine w_aload_n (pc2 := 60) rfl rfl rfl ?_
    refine w_getfield (pc2 := 63) rfl zk_cModel rfl rfl rfl ?_
    refine w_iconst (pc2 := 64) rfl rfl ?_
    refine w_aload_n (pc2 := 65) rfl rfl rfl ?_
    refine w_getfield (pc2 := 68) rfl zk_cModel rfl rfl rfl ?_
    refine w_bipush (pc2 := 70) rfl rfl ?_
    refine w_iload_n (pc2 := 71) rfl rfl rfl ?_
    refine w_iadd (pc2 := 72) rfl rfl ?_
    refine j_iaload (pc2 := 73) (n := 139) rfl rfl (by omega) (by decide) rfl hF (fun v11 hF => ?_)
    refine w_i2l (pc2 := 74) rfl rfl ?_
    refine j_lastoreC (pc2 := 75) (n := 11) (j := 4) rfl rfl (by decide) (by decide) (by decide) (by decide) rfl hF (fun s12 hF => ?_)
    refine w_aload_n (pc2 := 76) rfl rfl rfl ?_
    refine w_getfield (pc2 := 79) rfl zk_cModel rfl rfl rfl ?_
    refine w_iconst (pc2 := 80) rfl rfl ?_
    refine w_aload_n (pc2 := 81) rfl rfl rfl ?_
    refine w_getfield (pc2 := 84) rfl zk_cModel rfl rfl rfl ?_
    refine w_bipush (pc2 := 86) rfl rfl ?_
    refine w_bipush (pc2 := 88) rfl rfl ?_
    refine w_iload_n (pc2 := 89) rfl rfl rfl ?_
    refine w_imul (pc2 := 90) rfl rfl ?_
    refine w_iadd (pc2 := 91) rfl rfl ?_
    refine w_iload_n (pc2 := 92) rfl rfl rfl ?_
    refine w_iadd (pc2 := 93) rfl rfl ?_
    refine j_iaload (pc2 := 94) (n := 139) rfl rfl (by omega) (by decide) rfl hF (fun v13 hF => ?_)
    refine w_i2l (pc2 := 95) rfl rfl ?_
    refine j_lastoreC (pc2 := 96) (n := 11) (j := 5) rfl rfl (by decide) (by decide) (by decide) (by decide) rfl hF (fun s14 hF => ?_)
    refine w_aload_n (pc2 := 97) rfl rfl rfl ?_
    refine w_getfield (pc2 := 100) rfl zk_cModel rfl rfl rfl ?_
    refine w_bipush (pc2 := 102) rfl rfl ?_
    refine w_aload_n (pc2 := 103) rfl rfl rfl ?_
    refine w_getfield (pc2 := 106) rfl zk_cModel rfl rfl rfl ?_
    refine w_bipush (pc2 := 108) rfl rfl ?_
    refine w_bipush (pc2 := 110) rfl rfl ?_
    refine w_iload_n (pc2 := 111) rfl rfl rfl ?_
    refine w_imul (pc2 := 112) rfl rfl ?_
    refine w_iadd (pc2 := 113) rfl rfl ?_
    refine w_iload_n (pc2 := 114) rfl rfl rfl ?_
    refine w_iadd (pc2 := 115) rfl rfl ?_
    refine j_iaload (pc2 := 116) (n := 139) rfl rfl (by omega) (by decide) rfl hF (fun v15 hF => ?_)
    refine w_i2l (pc2 := 117) rfl rfl ?_
    refine j_lastoreC (pc2 := 118) (n := 11) (j := 6) rfl rfl (by decide) (by decide) (by decide) (by decide) rfl hF (fun s16 hF => ?_)
    refine w_aload_n (pc2 := 119) rfl rfl rfl ?_
    refine w_getfield (pc2 := 122) rfl zk_cModel rfl rfl rfl ?_
    refine w_bipush (pc2 := 124) rfl rfl ?_
    refine w_aload_n (pc2 := 125) rfl rfl rfl ?_
    refine w_getfield (pc2 := 128) rfl zk_cModel rfl rfl rfl ?_
    refine w_bipush (pc2 := 130) rfl rfl ?_
    refine w_iload_n (pc2 := 131) rfl rfl rfl ?_
    refine w_iadd (pc2 := 132) rfl rfl ?_
    refine j_iaload (pc2 := 133) (n := 139) rfl rfl (by omega) (by decide) rfl hF (fun v17 hF => ?_)
    refine w_aload_n (pc2 := 134) rfl rfl rfl ?_
    refine j_cIv (pc2 := 137) (k := 2) (c := zt_m201) (as := [.ref 216]) (rest := [.int v17, .int (7 : Int32), .ref 225]) rfl rfl rfl rfl zk_cModel.look rfl (Nat.le_of_ble_eq_true rfl) (Nat.le_of_ble_eq_true rfl) (fun w1 h1 => ok_Model_banded h1) (by decide) rfl hF (fun v19 s18 hF => ?_)
    refine w_iconst (pc2 := 138) rfl rfl ?_
    refine w_ixor (pc2 := 139) rfl rfl ?_
    refine w_iand (pc2 := 140) rfl rfl ?_
    refine j_cIs (pc2 := 143) (k := 0) (c := zt_m202) (as := [.int ((v17 &&& (v19 ^^^ (-1 : Int32))))]) (rest := [.int (7 : Int32), .ref 225]) rfl rfl rfl (Nat.le_of_ble_eq_true rfl) rfl rfl (Nat.le_of_ble_eq_true rfl) (Nat.le_of_ble_eq_true rfl) (fun w1 h1 => ok_Model_bits h1) (by decide) rfl hF (fun v21 s20 hF => ?_)
    refine w_i2l (pc2 := 144) rfl rfl ?_
    refine j_lastoreC (pc2 := 145) (n := 11) (j := 7) rfl rfl (by decide) (by decide) (by decide) (by decide) rfl hF (fun s22 hF => ?_)
    refine w_aload_n (pc2 := 146) rfl rfl rfl ?_
    refine w_getfield (pc2 := 149) rfl zk_cModel rfl rfl rfl ?_
    refine w_bipush (pc2 := 151) rfl rfl ?_
    refine w_aload_n (pc2 := 152) rfl rfl rfl ?_
    refine j_cIv (pc2 := 155) (k := 2) (c := zt_m201) (as := [.ref 216]) (rest := [.int (8 : Int32), .ref 225]) rfl rfl rfl rfl zk_cModel.look rfl (Nat.le_of_ble_eq_true rfl) (Nat.le_of_ble_eq_true rfl) (fun w1 h1 => ok_Model_banded h1) (by decide) rfl hF (fun v24 s23 hF => ?_)
    refine j_cIs (pc2 := 158) (k := 0) (c := zt_m202) (as := [.int v24]) (rest := [.int (8 : Int32), .ref 225]) rfl rfl rfl (Nat.le_of_ble_eq_true rfl) rfl rfl (Nat.le_of_ble_eq_true rfl) (Nat.le_of_ble_eq_true rfl) (fun w1 h1 => ok_Model_bits h1) (by decide) rfl hF (fun v26 s25 hF => ?_)
    refine w_i2l (pc2 := 159) rfl rfl ?_
    refine j_lastoreC (pc2 := 160) (n := 11) (j := 8) rfl rfl (by decide) (by decide) (by decide) (by decide) rfl hF (fun s27 hF => ?_)
    refine w_aload_n (pc2 := 161) rfl rfl rfl ?_
    refine w_getfield (pc2 := 164) rfl zk_cModel rfl rfl rfl ?_
    refine w_bipush (pc2 := 166) rfl rfl ?_
    refine w_aload_n (pc2 := 167) rfl rfl rfl ?_
    refine w_getfield (pc2 := 170) rfl zk_cModel rfl rfl rfl ?_
    refine w_bipush (pc2 := 172) rfl rfl ?_
    refine j_ialoadC (pc2 := 173) (n := 139) (j := 11) rfl rfl (by omega) (by decide) (by decide) (by decide) (by decide) rfl hF (fun v28 hF => ?_)
    refine w_i2l (pc2 := 174) rfl rfl ?_
    refine j_lastoreC (pc2 := 175) (n := 11) (j := 9) rfl rfl (by decide) (by decide) (by decide) (by decide) rfl hF (fun s29 hF => ?_)
    refine w_aload_n (pc2 := 176) rfl rfl rfl ?_
    refine w_getfield (pc2 := 179) rfl zk_cModel rfl rfl rfl ?_
    refine w_bipush (pc2 := 181) rfl rfl ?_
    refine w_aload_n (pc2 := 182) rfl rfl rfl ?_
    refine w_getfield (pc2 := 185) rfl zk_cModel rfl rfl rfl ?_
    refine w_bipush (pc2 := 187) rfl rfl ?_
    refine j_ialoadC (pc2 := 188) (n := 139) (j := 10) rfl rfl (by omega) (by decide) (by decide) (by decide) (by decide) rfl hF (fun v30 hF => ?_)
    refine w_i2l (pc2 := 189) rfl rfl ?_
    refine j_lastoreC (pc2 := 190) (n := 11) (j := 10) rfl rfl (by decide) (by decide) (by decide) (by decide) rfl hF (fun s31 hF => ?_)
    refine w_aload_n (pc2 := 191) rfl rfl rfl ?_
    refine w_aload_n (pc2 := 192) rfl rfl rfl ?_
    refine j_geti (pc2 := 195) rfl zk_cModel rfl rfl rfl hF (fun v32 hF => ?_)
    refine j_cLv (pc2 := 198) (k := 2) (c := zt_m203) (as := [.ref 216, .int v32]) (rest := []) rfl rfl rfl rfl zk_cModel.look rfl (Nat.le_of_ble_eq_true rfl) (Nat.le_of_ble_eq_true rfl) (fun w1 h1 => ok_Model_summedBy h1) (by decide) rfl hF (fun v34 s33 hF => ?_)
    exact j_lret rfl rfl hF
  · refine w_aload_n (pc2 := 8) rfl rfl rfl ?_
    refine w_iload_n (pc2 := 9) rfl rfl rfl ?_
    refine w_iload_n (pc2 := 10) rfl rfl rfl ?_
    refine j_cIv (pc2 := 13) (k := 0) (c := zt_m191) (as := [.ref 216, .int p1, .int p2]) (rest := []) rfl rfl rfl rfl zk_cModel.look rfl (Nat.le_of_ble_eq_true rfl) (Nat.le_of_ble_eq_true rfl) (fun w1 h1 => ok_Model_hurts h1) (by decide) rfl hF (fun v36 s35 hF => ?_)
    refine w_i2l (pc2 := 14) rfl rfl ?_
    exact j_lret rfl rfl hF
noncomputable def f_Model_choice_B7 (p1 : Int32) (a2 : Int32 × Int64 × Int32) (s3 : ZS) (g4 : (Int32 × Int64 × Int32) → ZS → Option (Int32 × ZS)) : Option (Int32 × ZS) := zgi (s3.1 226 4) (fun (v5 : Int32) => (if v5 ≤ a2.2.2 then some (a2.1, s3) else zgi (s3.1 216 23) (fun (v6 : Int32) => zcl (f_Model_isOf v6 a2.2.2 s3) (fun (v8 : Int32) (s7 : ZS) => zjn (A := Int32 × Int64) (fun (a10 : Int32 × Int64) (s9 : ZS) => g4 (a10.1, a10.2, (a2.2.2 + (1 : Int32))) s9) (fun (k11 : (Int32 × Int64) → ZS → Option (Int32 × ZS)) => (if v8 = 0 then zcl (f_Model_sumOf p1 a2.2.2 s7) (fun (v13 : Int64) (s12 : ZS) => (if 0 < (lg_cmp v13 a2.2.1) then k11 (a2.2.2, v13) s12 else k11 (a2.1, a2.2.1) s12)) else k11 (a2.1, a2.2.1) s7))))))
noncomputable def f_Model_choice (p1 : Int32) (s0 : ZS) : Option (Int32 × ZS) := zlp zN (f_Model_choice_B7 p1) ((-1 : Int32), (0 : Int64), (0 : Int32)) s0
set_option maxHeartbeats 4000000 in
set_option maxRecDepth 100000 in
theorem ok_Model_choice {L : Nat} {xs : Nat → Int32} {b : ZH} {p1 : Int32} {s0 : ZS} {w : Int32 × ZS} (hF : f_Model_choice p1 s0 = some w) : zz_ct zt_ms zt_nm zt_df (zt_X L xs) 4 zt_m198 [.ref 216, .int p1] (zk b s0) (qI b w) := by
  unfold f_Model_choice at hF
  change zz_wp zt_ms zt_nm zt_df (zt_X L xs) 4 zt_m198 0 [(0, .ref 216), (1, .int p1)] [] (zk b s0) (qI b w)
  refine w_iconst (pc2 := 1) rfl rfl ?_
  refine w_istore_n (pc2 := 2) (ls2 := [(2, .int (-1 : Int32)), (0, .ref 216), (1, .int p1)]) rfl rfl rfl ?_
  refine w_lconst (pc2 := 3) rfl rfl ?_
  refine w_lstore_n (pc2 := 4) (ls2 := [(3, .long (0 : Int64)), (2, .int (-1 : Int32)), (0, .ref 216), (1, .int p1)]) rfl rfl rfl ?_
  refine w_iconst (pc2 := 5) rfl rfl ?_
  refine w_istore (pc2 := 7) (ls2 := [(5, .int (0 : Int32)), (3, .long (0 : Int64)), (2, .int (-1 : Int32)), (0, .ref 216), (1, .int p1)]) rfl rfl rfl ?_
  refine j_norm (l := [(0, .ref 216), (1, .int p1), (2, .int (-1 : Int32)), (3, .long (0 : Int64)), (5, .int (0 : Int32))]) ⟨rfl, rfl, rfl, rfl, rfl, trivial⟩ (zz_nd_of (ks := [0, 1, 2, 3, 5]) rfl (by decide)) ?_
  refine j_loop (P := fun (a2 : Int32 × Int64 × Int32) (s3 : ZS) => zz_wp zt_ms zt_nm zt_df (zt_X L xs) 4 zt_m198 7 [(0, .ref 216), (1, .int p1), (2, .int a2.1), (3, .long a2.2.1), (5, .int a2.2.2)] [] (zk b s3) (qI b w)) hF (fun a2 s3 g4 hg4 hF => ?_)
  unfold f_Model_choice_B7 at hF
  refine w_iload (pc2 := 9) rfl rfl rfl ?_
  refine w_aload_n (pc2 := 10) rfl rfl rfl ?_
  refine w_getfield (pc2 := 13) rfl zk_cModel rfl rfl rfl ?_
  refine w_iconst (pc2 := 14) rfl rfl ?_
  refine j_ialoadC (pc2 := 15) (n := 139) (j := 4) rfl rfl (by omega) (by decide) (by decide) (by decide) (by decide) rfl hF (fun v5 hF => ?_)
  refine j_icmp_ge (pc2 := 18) rfl rfl hF (fun hF => ?_) (fun hF => ?_)
  · refine w_iload_n (pc2 := 65) rfl rfl rfl ?_
    exact j_iret rfl rfl hF
  · refine w_aload_n (pc2 := 19) rfl rfl rfl ?_
    refine j_geti (pc2 := 22) rfl zk_cModel rfl rfl rfl hF (fun v6 hF => ?_)
    refine w_iload (pc2 := 24) rfl rfl rfl ?_
    refine j_cIs (pc2 := 27) (k := 0) (c := zt_m199) (as := [.int v6, .int a2.2.2]) (rest := []) rfl rfl rfl (Nat.le_of_ble_eq_true rfl) rfl rfl (Nat.le_of_ble_eq_true rfl) (Nat.le_of_ble_eq_true rfl) (fun w1 h1 => ok_Model_isOf h1) (by decide) rfl hF (fun v8 s7 hF => ?_)
    refine j_join (P := fun (a10 : Int32 × Int64) (s9 : ZS) => zz_wp zt_ms zt_nm zt_df (zt_X L xs) 4 zt_m198 58 [(0, .ref 216), (1, .int p1), (2, .int a10.1), (3, .long a10.2), (5, .int a2.2.2)] [] (zk b s9) (qI b w)) hF (fun a10 s9 hF => ?_) (fun k11 hk11 hF => ?_)
    · refine w_iinc (pc2 := 61) (ls2 := [(5, .int ((a2.2.2 + (1 : Int32)))), (0, .ref 216), (1, .int p1), (2, .int a10.1), (3, .long a10.2)]) rfl rfl rfl rfl ?_
      refine w_goto rfl ?_
      exact j_norm (l := [(0, .ref 216), (1, .int p1), (2, .int a10.1), (3, .long a10.2), (5, .int ((a2.2.2 + (1 : Int32))))]) ⟨rfl, rfl, rfl, rfl, rfl, trivial⟩ (zz_nd_of (ks := [0, 1, 2, 3, 5]) rfl (by decide)) (hg4 (a10.1, a10.2, (a2.2.2 + (1 : Int32))) s9 hF)
    · refine j_if_eq (pc2 := 30) rfl rfl hF (fun hF => ?_) (fun hF => ?_)
      · refine w_aload_n (pc2 := 34) rfl rfl rfl ?_
        refine w_iload_n (pc2 := 35) rfl rfl rfl ?_
        refine w_iload (pc2 := 37) rfl rfl rfl ?_
        refine j_cLv (pc2 := 40) (k := 3) (c := zt_m200) (as := [.ref 216, .int p1, .int a2.2.2]) (rest := []) rfl rfl rfl rfl zk_cModel.look rfl (Nat.le_of_ble_eq_true rfl) (Nat.le_of_ble_eq_true rfl) (fun w1 h1 => ok_Model_sumOf h1) (by decide) rfl hF (fun v13 s12 hF => ?_)
        refine w_lstore (pc2 := 42) (ls2 := [(6, .long v13), (0, .ref 216), (1, .int p1), (2, .int a2.1), (3, .long a2.2.1), (5, .int a2.2.2)]) rfl rfl rfl ?_
        refine w_lload (pc2 := 44) rfl rfl rfl ?_
        refine w_lload_n (pc2 := 45) rfl rfl rfl ?_
        refine w_lcmp (pc2 := 46) rfl rfl ?_
        refine j_if_gt (pc2 := 49) rfl rfl hF (fun hF => ?_) (fun hF => ?_)
        · refine w_iload (pc2 := 54) rfl rfl rfl ?_
          refine w_istore_n (pc2 := 55) (ls2 := [(2, .int a2.2.2), (6, .long v13), (0, .ref 216), (1, .int p1), (3, .long a2.2.1), (5, .int a2.2.2)]) rfl rfl rfl ?_
          refine w_lload (pc2 := 57) rfl rfl rfl ?_
          refine w_lstore_n (pc2 := 58) (ls2 := [(3, .long v13), (2, .int a2.2.2), (6, .long v13), (0, .ref 216), (1, .int p1), (5, .int a2.2.2)]) rfl rfl rfl ?_
          exact j_norm (l := [(0, .ref 216), (1, .int p1), (2, .int a2.2.2), (3, .long v13), (5, .int a2.2.2)]) ⟨rfl, rfl, rfl, rfl, rfl, trivial⟩ (zz_nd_of (ks := [0, 1, 2, 3, 5]) rfl (by decide)) (hk11 (a2.2.2, v13) s12 hF)
        · refine w_goto rfl ?_
          exact j_norm (l := [(0, .ref 216), (1, .int p1), (2, .int a2.1), (3, .long a2.2.1), (5, .int a2.2.2)]) ⟨rfl, rfl, rfl, rfl, rfl, trivial⟩ (zz_nd_of (ks := [0, 1, 2, 3, 5]) rfl (by decide)) (hk11 (a2.1, a2.2.1) s12 hF)
      · refine w_goto rfl ?_
        exact j_norm (l := [(0, .ref 216), (1, .int p1), (2, .int a2.1), (3, .long a2.2.1), (5, .int a2.2.2)]) ⟨rfl, rfl, rfl, rfl, rfl, trivial⟩ (zz_nd_of (ks := [0, 1, 2, 3, 5]) rfl (by decide)) (hk11 (a2.1, a2.2.1) s7 hF)
noncomputable def f_Model_held (p1 : Int32) (s0 : ZS) : Option (Int32 × ZS) := (if p1 ≤ (999 : Int32) then some (p1, s0) else some ((999 : Int32), s0))
set_option maxHeartbeats 4000000 in
set_option maxRecDepth 100000 in
theorem ok_Model_held {L : Nat} {xs : Nat → Int32} {b : ZH} {p1 : Int32} {s0 : ZS} {w : Int32 × ZS} (hF : f_Model_held p1 s0 = some w) : zz_ct zt_ms zt_nm zt_df (zt_X L xs) 0 zt_m210 [.int p1] (zk b s0) (qI b w) := by
  unfold f_Model_held at hF
  change zz_wp zt_ms zt_nm zt_df (zt_X L xs) 0 zt_m210 0 [(0, .int p1)] [] (zk b s0) (qI b w)
  refine w_iload_n (pc2 := 1) rfl rfl rfl ?_
  refine w_sipush (pc2 := 4) rfl rfl ?_
  refine j_icmp_le (pc2 := 7) rfl rfl hF (fun hF => ?_) (fun hF => ?_)
  · refine w_iload_n (pc2 := 14) rfl rfl rfl ?_
    exact j_iret rfl rfl hF
  · refine w_sipush (pc2 := 10) rfl rfl ?_
    refine w_goto rfl ?_
    exact j_iret rfl rfl hF
noncomputable def f_Model_rises (p1 : Int32) (p2 : Int32) (s0 : ZS) : Option (ZS) := zcl (f_Model_temperOf p1 s0) (fun (v4 : Int32) (s3 : ZS) => zcl (f_Model_held (v4 + p2) s3) (fun (v6 : Int32) (s5 : ZS) => zwa s5 226 139 (((12 : Int32) + ((3 : Int32) * p1))) v6 (fun (s7 : ZS) => some s7)))
set_option maxHeartbeats 4000000 in
set_option maxRecDepth 100000 in
theorem ok_Model_rises {L : Nat} {xs : Nat → Int32} {b : ZH} {p1 : Int32} {p2 : Int32} {s0 : ZS} {w : ZS} (hF : f_Model_rises p1 p2 s0 = some w) : zz_ct zt_ms zt_nm zt_df (zt_X L xs) 1 zt_m209 [.ref 216, .int p1, .int p2] (zk b s0) (qV b w) := by
  unfold f_Model_rises at hF
  change zz_wp zt_ms zt_nm zt_df (zt_X L xs) 1 zt_m209 0 [(0, .ref 216), (1, .int p1), (2, .int p2)] [] (zk b s0) (qV b w)
  refine w_aload_n (pc2 := 1) rfl rfl rfl ?_
  refine w_getfield (pc2 := 4) rfl zk_cModel rfl rfl rfl ?_
  refine w_bipush (pc2 := 6) rfl rfl ?_
  refine w_iconst (pc2 := 7) rfl rfl ?_
  refine w_iload_n (pc2 := 8) rfl rfl rfl ?_
  refine w_imul (pc2 := 9) rfl rfl ?_
  refine w_iadd (pc2 := 10) rfl rfl ?_
  refine w_aload_n (pc2 := 11) rfl rfl rfl ?_
  refine w_iload_n (pc2 := 12) rfl rfl rfl ?_
  refine j_cIv (pc2 := 15) (k := 0) (c := zt_m187) (as := [.ref 216, .int p1]) (rest := [.int (((12 : Int32) + ((3 : Int32) * p1))), .ref 226]) rfl rfl rfl rfl zk_cModel.look rfl (Nat.le_of_ble_eq_true rfl) (Nat.le_of_ble_eq_true rfl) (fun w1 h1 => ok_Model_temperOf h1) (by decide) rfl hF (fun v4 s3 hF => ?_)
  refine w_iload_n (pc2 := 16) rfl rfl rfl ?_
  refine w_iadd (pc2 := 17) rfl rfl ?_
  refine j_cIs (pc2 := 20) (k := 0) (c := zt_m210) (as := [.int (v4 + p2)]) (rest := [.int (((12 : Int32) + ((3 : Int32) * p1))), .ref 226]) rfl rfl rfl (Nat.le_of_ble_eq_true rfl) rfl rfl (Nat.le_of_ble_eq_true rfl) (Nat.le_of_ble_eq_true rfl) (fun w1 h1 => ok_Model_held h1) (by decide) rfl hF (fun v6 s5 hF => ?_)
  refine j_iastore (pc2 := 21) (n := 139) rfl rfl (by omega) (by decide) rfl hF (fun s7 hF => ?_)
  exact j_vret rfl rfl hF
noncomputable def f_Model_rowsOf_B4 (p1 : Int32) (a2 : Int32 × Int32) (s3 : ZS) (g4 : (Int32 × Int32) → ZS → Option (Int32 × ZS)) : Option (Int32 × ZS) := zgi (s3.1 226 3) (fun (v5 : Int32) => (if v5 ≤ a2.2 then some (a2.1, s3) else zcl (f_Model_isOf p1 a2.2 s3) (fun (v7 : Int32) (s6 : ZS) => zjn (A := Int32) (fun (a9 : Int32) (s8 : ZS) => g4 (a9, (a2.2 + (1 : Int32))) s8) (fun (k10 : Int32 → ZS → Option (Int32 × ZS)) => (if v7 = 0 then k10 a2.1 s6 else zcl (f_Model_temperOf a2.2 s6) (fun (v12 : Int32) (s11 : ZS) => zrd 139 (((57 : Int32) + a2.2)) (s11.1 226) (fun (v13 : Int32) => (if v13 ≤ v12 then zcl (f_Model_temperOf a2.2 s11) (fun (v15 : Int32) (s14 : ZS) => zwa s14 227 5 a2.2 v15 (fun (s16 : ZS) => zwa s16 226 139 (((12 : Int32) + ((3 : Int32) * a2.2))) (0 : Int32) (fun (s17 : ZS) => zgi (s17.1 226 1) (fun (v18 : Int32) => zjn (A := Int32) (fun (a20 : Int32) (s19 : ZS) => zwa s19 226 139 ((((12 : Int32) + ((3 : Int32) * a2.2)) + (1 : Int32))) a20 (fun (s22 : ZS) => zwa s22 226 139 ((((12 : Int32) + ((3 : Int32) * a2.2)) + (2 : Int32))) v15 (fun (s23 : ZS) => zgi (s23.1 226 11) (fun (v24 : Int32) => zwi s23 226 11 ((v24 + (1 : Int32))) (fun (s25 : ZS) => k10 (a2.1 ||| ((1 : Int32) <<< (a2.2 &&& (31 : Int32)))) s25))))) (fun (k21 : Int32 → ZS → Option (Int32 × ZS)) => (if v18 ≤ v15 then zgi (s17.1 226 1) (fun (v26 : Int32) => k21 v26 s17) else k21 v15 s17)))))) else k10 a2.1 s11))))))))
noncomputable def f_Model_rowsOf (p1 : Int32) (s0 : ZS) : Option (Int32 × ZS) := zlp zN (f_Model_rowsOf_B4 p1) ((0 : Int32), (0 : Int32)) s0
set_option maxHeartbeats 4000000 in
set_option maxRecDepth 100000 in
theorem ok_Model_rowsOf {L : Nat} {xs : Nat → Int32} {b : ZH} {p1 : Int32} {s0 : ZS} {w : Int32 × ZS} (hF : f_Model_rowsOf p1 s0 = some w) : zz_ct zt_ms zt_nm zt_df (zt_X L xs) 1 zt_m211 [.ref 216, .int p1] (zk b s0) (qI b w) := by
  unfold f_Model_rowsOf at hF
  change zz_wp zt_ms zt_nm zt_df (zt_X L xs) 1 zt_m211 0 [(0, .ref 216), (1, .int p1)] [] (zk b s0) (qI b w)
  refine w_iconst (pc2 := 1) rfl rfl ?_
  refine w_istore_n (pc2 := 2) (ls2 := [(2, .int (0 : Int32)), (0, .ref 216), (1, .int p1)]) rfl rfl rfl ?_
  refine w_iconst (pc2 := 3) rfl rfl ?_
  refine w_istore_n (pc2 := 4) (ls2 := [(3, .int (0 : Int32)), (2, .int (0 : Int32)), (0, .ref 216), (1, .int p1)]) rfl rfl rfl ?_
  refine j_norm (l := [(0, .ref 216), (1, .int p1), (2, .int (0 : Int32)), (3, .int (0 : Int32))]) ⟨rfl, rfl, rfl, rfl, trivial⟩ (zz_nd_of (ks := [0, 1, 2, 3]) rfl (by decide)) ?_
  refine j_loop (P := fun (a2 : Int32 × Int32) (s3 : ZS) => zz_wp zt_ms zt_nm zt_df (zt_X L xs) 1 zt_m211 4 [(0, .ref 216), (1, .int p1), (2, .int a2.1), (3, .int a2.2)] [] (zk b s3) (qI b w)) hF (fun a2 s3 g4 hg4 hF => ?_)
  unfold f_Model_rowsOf_B4 at hF
  refine w_iload_n (pc2 := 5) rfl rfl rfl ?_
  refine w_aload_n (pc2 := 6) rfl rfl rfl ?_
  refine w_getfield (pc2 := 9) rfl zk_cModel rfl rfl rfl ?_
  refine w_iconst (pc2 := 10) rfl rfl ?_
  refine j_ialoadC (pc2 := 11) (n := 139) (j := 3) rfl rfl (by omega) (by decide) (by decide) (by decide) (by decide) rfl hF (fun v5 hF => ?_)
  refine j_icmp_ge (pc2 := 14) rfl rfl hF (fun hF => ?_) (fun hF => ?_)
  · refine w_iload_n (pc2 := 143) rfl rfl rfl ?_
    exact j_iret rfl rfl hF
  · refine w_iload_n (pc2 := 15) rfl rfl rfl ?_
    refine w_iload_n (pc2 := 16) rfl rfl rfl ?_
    refine j_cIs (pc2 := 19) (k := 0) (c := zt_m199) (as := [.int p1, .int a2.2]) (rest := []) rfl rfl rfl (Nat.le_of_ble_eq_true rfl) rfl rfl (Nat.le_of_ble_eq_true rfl) (Nat.le_of_ble_eq_true rfl) (fun w1 h1 => ok_Model_isOf h1) (by decide) rfl hF (fun v7 s6 hF => ?_)
    refine j_join (P := fun (a9 : Int32) (s8 : ZS) => zz_wp zt_ms zt_nm zt_df (zt_X L xs) 1 zt_m211 136 [(0, .ref 216), (1, .int p1), (2, .int a9), (3, .int a2.2)] [] (zk b s8) (qI b w)) hF (fun a9 s8 hF => ?_) (fun k10 hk10 hF => ?_)
    · refine w_iinc (pc2 := 139) (ls2 := [(3, .int ((a2.2 + (1 : Int32)))), (0, .ref 216), (1, .int p1), (2, .int a9)]) rfl rfl rfl rfl ?_
      refine w_goto rfl ?_
      exact j_norm (l := [(0, .ref 216), (1, .int p1), (2, .int a9), (3, .int ((a2.2 + (1 : Int32))))]) ⟨rfl, rfl, rfl, rfl, trivial⟩ (zz_nd_of (ks := [0, 1, 2, 3]) rfl (by decide)) (hg4 (a9, (a2.2 + (1 : Int32))) s8 hF)
    · refine j_if_eq (pc2 := 22) rfl rfl hF (fun hF => ?_) (fun hF => ?_)
      · exact j_norm (l := [(0, .ref 216), (1, .int p1), (2, .int a2.1), (3, .int a2.2)]) ⟨rfl, rfl, rfl, rfl, trivial⟩ (zz_nd_of (ks := [0, 1, 2, 3]) rfl (by decide)) (hk10 a2.1 s6 hF)
      · refine w_aload_n (pc2 := 23) rfl rfl rfl ?_
        refine w_iload_n (pc2 := 24) rfl rfl rfl ?_
        refine j_cIv (pc2 := 27) (k := 0) (c := zt_m187) (as := [.ref 216, .int a2.2]) (rest := []) rfl rfl rfl rfl zk_cModel.look rfl (Nat.le_of_ble_eq_true rfl) (Nat.le_of_ble_eq_true rfl) (fun w1 h1 => ok_Model_temperOf h1) (by decide) rfl hF (fun v12 s11 hF => ?_)
        refine w_aload_n (pc2 := 28) rfl rfl rfl ?_
        refine w_getfield (pc2 := 31) rfl zk_cModel rfl rfl rfl ?_
        refine w_bipush (pc2 := 33) rfl rfl ?_
        refine w_iload_n (pc2 := 34) rfl rfl rfl ?_
        refine w_iadd (pc2 := 35) rfl rfl ?_
        refine j_iaload (pc2 := 36) (n := 139) rfl rfl (by omega) (by decide) rfl hF (fun v13 hF => ?_)
        refine j_icmp_ge (pc2 := 39) rfl rfl hF (fun hF => ?_) (fun hF => ?_)
        · refine w_aload_n (pc2 := 43) rfl rfl rfl ?_
          refine w_iload_n (pc2 := 44) rfl rfl rfl ?_
          refine j_cIv (pc2 := 47) (k := 0) (c := zt_m187) (as := [.ref 216, .int a2.2]) (rest := []) rfl rfl rfl rfl zk_cModel.look rfl (Nat.le_of_ble_eq_true rfl) (Nat.le_of_ble_eq_true rfl) (fun w1 h1 => ok_Model_temperOf h1) (by decide) rfl hF (fun v15 s14 hF => ?_)
          refine w_istore (pc2 := 49) (ls2 := [(4, .int v15), (0, .ref 216), (1, .int p1), (2, .int a2.1), (3, .int a2.2)]) rfl rfl rfl ?_
          refine w_aload_n (pc2 := 50) rfl rfl rfl ?_
          refine w_getfield (pc2 := 53) rfl zk_cModel rfl rfl rfl ?_
          refine w_iload_n (pc2 := 54) rfl rfl rfl ?_
          refine w_iload (pc2 := 56) rfl rfl rfl ?_
          refine j_iastore (pc2 := 57) (n := 5) rfl rfl (by omega) (by decide) rfl hF (fun s16 hF => ?_)
          refine w_aload_n (pc2 := 58) rfl rfl rfl ?_
          refine w_getfield (pc2 := 61) rfl zk_cModel rfl rfl rfl ?_
          refine w_bipush (pc2 := 63) rfl rfl ?_
          refine w_iconst (pc2 := 64) rfl rfl ?_
          refine w_iload_n (pc2 := 65) rfl rfl rfl ?_
          refine w_imul (pc2 := 66) rfl rfl ?_
          refine w_iadd (pc2 := 67) rfl rfl ?_
          refine w_iconst (pc2 := 68) rfl rfl ?_
          refine j_iastore (pc2 := 69) (n := 139) rfl rfl (by omega) (by decide) rfl hF (fun s17 hF => ?_)
          refine w_aload_n (pc2 := 70) rfl rfl rfl ?_
          refine w_getfield (pc2 := 73) rfl zk_cModel rfl rfl rfl ?_
          refine w_bipush (pc2 := 75) rfl rfl ?_
          refine w_iconst (pc2 := 76) rfl rfl ?_
          refine w_iload_n (pc2 := 77) rfl rfl rfl ?_
          refine w_imul (pc2 := 78) rfl rfl ?_
          refine w_iadd (pc2 := 79) rfl rfl ?_
          refine w_iconst (pc2 := 80) rfl rfl ?_
          refine w_iadd (pc2 := 81) rfl rfl ?_
          refine w_iload (pc2 := 83) rfl rfl rfl ?_
          refine w_aload_n (pc2 := 84) rfl rfl rfl ?_
          refine w_getfield (pc2 := 87) rfl zk_cModel rfl rfl rfl ?_
          refine w_iconst (pc2 := 88) rfl rfl ?_
          refine j_ialoadC (pc2 := 89) (n := 139) (j := 1) rfl rfl (by omega) (by decide) (by decide) (by decide) (by decide) rfl hF (fun v18 hF => ?_)
          refine j_join (P := fun (a20 : Int32) (s19 : ZS) => zz_wp zt_ms zt_nm zt_df (zt_X L xs) 1 zt_m211 103 [(0, .ref 216), (1, .int p1), (2, .int a2.1), (3, .int a2.2), (4, .int v15)] [.int a20, .int ((((12 : Int32) + ((3 : Int32) * a2.2)) + (1 : Int32))), .ref 226] (zk b s19) (qI b w)) hF (fun a20 s19 hF => ?_) (fun k21 hk21 hF => ?_)
          · refine j_iastore (pc2 := 104) (n := 139) rfl rfl (by omega) (by decide) rfl hF (fun s22 hF => ?_)
            refine w_aload_n (pc2 := 105) rfl rfl rfl ?_
            refine w_getfield (pc2 := 108) rfl zk_cModel rfl rfl rfl ?_
            refine w_bipush (pc2 := 110) rfl rfl ?_
            refine w_iconst (pc2 := 111) rfl rfl ?_
            refine w_iload_n (pc2 := 112) rfl rfl rfl ?_
            refine w_imul (pc2 := 113) rfl rfl ?_
            refine w_iadd (pc2 := 114) rfl rfl ?_
            refine w_iconst (pc2 := 115) rfl rfl ?_
            refine w_iadd (pc2 := 116) rfl rfl ?_
            refine w_iload (pc2 := 118) rfl rfl rfl ?_
            refine j_iastore (pc2 := 119) (n := 139) rfl rfl (by omega) (by decide) rfl hF (fun s23 hF => ?_)
            refine w_aload_n (pc2 := 120) rfl rfl rfl ?_
            refine w_getfield (pc2 := 123) rfl zk_cModel rfl rfl rfl ?_
            refine w_bipush (pc2 := 125) rfl rfl ?_
            refine w_dup2 (pc2 := 126) rfl rfl rfl rfl ?_
            refine j_ialoadC (pc2 := 127) (n := 139) (j := 11) rfl rfl (by omega) (by decide) (by decide) (by decide) (by decide) rfl hF (fun v24 hF => ?_)
            refine w_iconst (pc2 := 128) rfl rfl ?_
            refine w_iadd (pc2 := 129) rfl rfl ?_
            refine j_iastoreC (pc2 := 130) (n := 139) (j := 11) rfl rfl (by omega) (by decide) (by decide) (by decide) (by decide) rfl hF (fun s25 hF => ?_)
            refine w_iload_n (pc2 := 131) rfl rfl rfl ?_
            refine w_iconst (pc2 := 132) rfl rfl ?_
            refine w_iload_n (pc2 := 133) rfl rfl rfl ?_
            refine w_ishl (pc2 := 134) rfl rfl ?_
            refine w_ior (pc2 := 135) rfl rfl ?_
            refine w_istore_n (pc2 := 136) (ls2 := [(2, .int ((a2.1 ||| ((1 : Int32) <<< (a2.2 &&& (31 : Int32)))))), (0, .ref 216), (1, .int p1), (3, .int a2.2), (4, .int v15)]) rfl rfl rfl ?_
            exact j_norm (l := [(0, .ref 216), (1, .int p1), (2, .int ((a2.1 ||| ((1 : Int32) <<< (a2.2 &&& (31 : Int32)))))), (3, .int a2.2)]) ⟨rfl, rfl, rfl, rfl, trivial⟩ (zz_nd_of (ks := [0, 1, 2, 3]) rfl (by decide)) (hk10 (a2.1 ||| ((1 : Int32) <<< (a2.2 &&& (31 : Int32)))) s25 hF)
          · refine j_icmp_ge (pc2 := 92) rfl rfl hF (fun hF => ?_) (fun hF => ?_)
            · refine w_aload_n (pc2 := 98) rfl rfl rfl ?_
              refine w_getfield (pc2 := 101) rfl zk_cModel rfl rfl rfl ?_
              refine w_iconst (pc2 := 102) rfl rfl ?_
              refine j_ialoadC (pc2 := 103) (n := 139) (j := 1) rfl rfl (by omega) (by decide) (by decide) (by decide) (by decide) rfl hF (fun v26 hF => ?_)
              exact j_norm (l := [(0, .ref 216), (1, .int p1), (2, .int a2.1), (3, .int a2.2), (4, .int v15)]) ⟨rfl, rfl, rfl, rfl, rfl, trivial⟩ (zz_nd_of (ks := [0, 1, 2, 3, 4]) rfl (by decide)) (hk21 v26 s17 hF)
            · refine w_iload (pc2 := 94) rfl rfl rfl ?_
              refine w_goto rfl ?_
              exact j_norm (l := [(0, .ref 216), (1, .int p1), (2, .int a2.1), (3, .int a2.2), (4, .int v15)]) ⟨rfl, rfl, rfl, rfl, rfl, trivial⟩ (zz_nd_of (ks := [0, 1, 2, 3, 4]) rfl (by decide)) (hk21 v15 s17 hF)
        · refine w_goto rfl ?_
          exact j_norm (l := [(0, .ref 216), (1, .int p1), (2, .int a2.1), (3, .int a2.2)]) ⟨rfl, rfl, rfl, rfl, trivial⟩ (zz_nd_of (ks := [0, 1, 2, 3]) rfl (by decide)) (hk10 a2.1 s11 hF)
