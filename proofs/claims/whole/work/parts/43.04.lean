/-! What methods do as functions of the state, and that the small machine does so. -/
noncomputable def f_Hand_behindPairS_B18 (rec : Int32 → Int32 → Int32 → ZS → Option (Int32 × ZS)) (p1 : Int32) (p2 : Int32) (p3 : Int32) (a6 : Int32 × Int32) (s7 : ZS) (g8 : (Int32 × Int32) → ZS → Option (Int32 × ZS)) : Option (Int32 × ZS) := zgi (s7.1 4 4) (fun (v9 : Int32) => (if v9 < a6.2 then some (a6.1, s7) else zcl (f_Hand_afterDeed p1 p2 a6.2 s7) (fun (v11 : Int32) (s10 : ZS) => zcl (rec p1 v11 ((p3 - (1 : Int32))) s10) (fun (v13 : Int32) (s12 : ZS) => g8 ((if a6.1 < v13 then v13 else a6.1), (a6.2 + (1 : Int32))) s12))))
noncomputable def f_Hand_behindPairS (rec : Int32 → Int32 → Int32 → ZS → Option (Int32 × ZS)) (p1 : Int32) (p2 : Int32) (p3 : Int32) (s0 : ZS) : Option (Int32 × ZS) := zcl (f_Hand_isOver p1 p2 p3 s0) (fun (v5 : Int32) (s4 : ZS) => (if v5 = 0 then zlp zN (f_Hand_behindPairS_B18 rec p1 p2 p3) ((-1 : Int32), (0 : Int32)) s4 else some (p2, s4)))
set_option maxHeartbeats 4000000 in
set_option maxRecDepth 100000 in
theorem ok_Hand_behindPairS {L : Nat} {xs : Nat → Int32} {b : ZH} {D : Nat} (hD : 5 ≤ D) {rec : Int32 → Int32 → Int32 → ZS → Option (Int32 × ZS)} (hrec : ∀ (p1 p2 p3 : Int32) (s : ZS) (w : Int32 × ZS), rec p1 p2 p3 s = some w → zz_ct zt_ms zt_nm zt_df (zt_X L xs) D zt_m31 [.ref 213, .int p1, .int p2, .int p3] (zk b s) (qI b w)) {p1 : Int32} {p2 : Int32} {p3 : Int32} {s0 : ZS} {w : Int32 × ZS} (hF : f_Hand_behindPairS rec p1 p2 p3 s0 = some w) : zz_ct zt_ms zt_nm zt_df (zt_X L xs) (D + 1) zt_m33 [.ref 213, .int p1, .int p2, .int p3] (zk b s0) (qI b w) := by
  unfold f_Hand_behindPairS at hF
  change zz_wp zt_ms zt_nm zt_df (zt_X L xs) (D + 1) zt_m33 0 [(0, .ref 213), (1, .int p1), (2, .int p2), (3, .int p3)] [] (zk b s0) (qI b w)
  refine w_aload_n (pc2 := 1) rfl rfl rfl ?_
  refine w_iload_n (pc2 := 2) rfl rfl rfl ?_
  refine w_iload_n (pc2 := 3) rfl rfl rfl ?_
  refine w_iload_n (pc2 := 4) rfl rfl rfl ?_
  refine j_cIv (pc2 := 7) (k := 0) (c := zt_m32) (as := [.ref 213, .int p1, .int p2, .int p3]) (rest := []) rfl rfl rfl rfl zk_cHand.look rfl (Nat.le_of_ble_eq_true rfl) (Nat.le_of_ble_eq_true rfl) (fun w1 h1 => ok_Hand_isOver h1) (by omega) rfl hF (fun v5 s4 hF => ?_)
  refine j_if_eq (pc2 := 10) rfl rfl hF (fun hF => ?_) (fun hF => ?_)
  · refine w_iconst (pc2 := 13) rfl rfl ?_
    refine w_istore (pc2 := 15) (ls2 := [(4, .int (-1 : Int32)), (0, .ref 213), (1, .int p1), (2, .int p2), (3, .int p3)]) rfl rfl rfl ?_
    refine w_iconst (pc2 := 16) rfl rfl ?_
    refine w_istore (pc2 := 18) (ls2 := [(5, .int (0 : Int32)), (4, .int (-1 : Int32)), (0, .ref 213), (1, .int p1), (2, .int p2), (3, .int p3)]) rfl rfl rfl ?_
    refine j_norm (l := [(0, .ref 213), (1, .int p1), (2, .int p2), (3, .int p3), (4, .int (-1 : Int32)), (5, .int (0 : Int32))]) ⟨rfl, rfl, rfl, rfl, rfl, rfl, trivial⟩ (zz_nd_of (ks := [0, 1, 2, 3, 4, 5]) rfl (by decide)) ?_
    refine j_loop (P := fun (a6 : Int32 × Int32) (s7 : ZS) => zz_wp zt_ms zt_nm zt_df (zt_X L xs) (D + 1) zt_m33 18 [(0, .ref 213), (1, .int p1), (2, .int p2), (3, .int p3), (4, .int a6.1), (5, .int a6.2)] [] (zk b s7) (qI b w)) hF (fun a6 s7 g8 hg8 hF => ?_)
    unfold f_Hand_behindPairS_B18 at hF
    refine w_iload (pc2 := 20) rfl rfl rfl ?_
    refine w_aload_n (pc2 := 21) rfl rfl rfl ?_
    refine w_getfield (pc2 := 24) rfl zk_cHand rfl rfl rfl ?_
    refine w_getfield (pc2 := 27) rfl (zk_cWorld zk_w3) rfl rfl rfl ?_
    refine j_geti (pc2 := 30) rfl (zk_cSmithy zk_sm4) rfl rfl rfl hF (fun v9 hF => ?_)
    refine j_icmp_gt (pc2 := 33) rfl rfl hF (fun hF => ?_) (fun hF => ?_)
    · refine w_iload (pc2 := 68) rfl rfl rfl ?_
      exact j_iret rfl rfl hF
    · refine w_aload_n (pc2 := 34) rfl rfl rfl ?_
      refine w_iload_n (pc2 := 35) rfl rfl rfl ?_
      refine w_iload_n (pc2 := 36) rfl rfl rfl ?_
      refine w_iload (pc2 := 38) rfl rfl rfl ?_
      refine j_cIv (pc2 := 41) (k := 2) (c := zt_m30) (as := [.ref 213, .int p1, .int p2, .int a6.2]) (rest := []) rfl rfl rfl rfl zk_cHand.look rfl (Nat.le_of_ble_eq_true rfl) (Nat.le_of_ble_eq_true rfl) (fun w1 h1 => ok_Hand_afterDeed h1) (by omega) rfl hF (fun v11 s10 hF => ?_)
      refine w_istore (pc2 := 43) (ls2 := [(6, .int v11), (0, .ref 213), (1, .int p1), (2, .int p2), (3, .int p3), (4, .int a6.1), (5, .int a6.2)]) rfl rfl rfl ?_
      refine w_iload (pc2 := 45) rfl rfl rfl ?_
      refine w_aload_n (pc2 := 46) rfl rfl rfl ?_
      refine w_iload_n (pc2 := 47) rfl rfl rfl ?_
      refine w_iload (pc2 := 49) rfl rfl rfl ?_
      refine w_iload_n (pc2 := 50) rfl rfl rfl ?_
      refine w_iconst (pc2 := 51) rfl rfl ?_
      refine w_isub (pc2 := 52) rfl rfl ?_
      refine j_cIv (pc2 := 55) (k := D) (c := zt_m31) (as := [.ref 213, .int p1, .int v11, .int ((p3 - (1 : Int32)))]) (rest := [.int a6.1]) rfl rfl rfl rfl zk_cHand.look rfl (Nat.le_of_ble_eq_true rfl) (Nat.le_of_ble_eq_true rfl) (fun w1 h1 => hrec _ _ _ _ _ h1) (by omega) rfl hF (fun v13 s12 hF => ?_)
      refine w_max (pc2 := 58) rfl (Nat.le_of_ble_eq_true rfl) rfl ?_
      refine w_istore (pc2 := 60) (ls2 := [(4, .int (if a6.1 < v13 then v13 else a6.1)), (6, .int v11), (0, .ref 213), (1, .int p1), (2, .int p2), (3, .int p3), (5, .int a6.2)]) rfl rfl rfl ?_
      refine w_iinc (pc2 := 63) (ls2 := [(5, .int ((a6.2 + (1 : Int32)))), (4, .int (if a6.1 < v13 then v13 else a6.1)), (6, .int v11), (0, .ref 213), (1, .int p1), (2, .int p2), (3, .int p3)]) rfl rfl rfl rfl ?_
      refine w_goto rfl ?_
      exact j_norm (l := [(0, .ref 213), (1, .int p1), (2, .int p2), (3, .int p3), (4, .int (if a6.1 < v13 then v13 else a6.1)), (5, .int ((a6.2 + (1 : Int32))))]) ⟨rfl, rfl, rfl, rfl, rfl, rfl, trivial⟩ (zz_nd_of (ks := [0, 1, 2, 3, 4, 5]) rfl (by decide)) (hg8 ((if a6.1 < v13 then v13 else a6.1), (a6.2 + (1 : Int32))) s12 hF)
  · refine w_iload_n (pc2 := 11) rfl rfl rfl ?_
    exact j_iret rfl rfl hF
noncomputable def f_Hand_behindSmithS (rec : Int32 → Int32 → Int32 → ZS → Option (Int32 × ZS)) (p1 : Int32) (p2 : Int32) (p3 : Int32) (s0 : ZS) : Option (Int32 × ZS) := zcl (f_Hand_isOver p1 p2 p3 s0) (fun (v5 : Int32) (s4 : ZS) => (if v5 = 0 then zcl (rec p1 ((if (0 : Int32) < (p2 - (5 : Int32)) then (p2 - (5 : Int32)) else (0 : Int32))) ((p3 - (1 : Int32))) s4) (fun (v7 : Int32) (s6 : ZS) => zcl (rec p1 p2 ((p3 - (1 : Int32))) s6) (fun (v9 : Int32) (s8 : ZS) => some ((if v9 < v7 then v9 else v7), s8))) else some (p2, s4)))
set_option maxHeartbeats 4000000 in
set_option maxRecDepth 100000 in
theorem ok_Hand_behindSmithS {L : Nat} {xs : Nat → Int32} {b : ZH} {D : Nat} (hD : 5 ≤ D) {rec : Int32 → Int32 → Int32 → ZS → Option (Int32 × ZS)} (hrec : ∀ (p1 p2 p3 : Int32) (s : ZS) (w : Int32 × ZS), rec p1 p2 p3 s = some w → zz_ct zt_ms zt_nm zt_df (zt_X L xs) D zt_m33 [.ref 213, .int p1, .int p2, .int p3] (zk b s) (qI b w)) {p1 : Int32} {p2 : Int32} {p3 : Int32} {s0 : ZS} {w : Int32 × ZS} (hF : f_Hand_behindSmithS rec p1 p2 p3 s0 = some w) : zz_ct zt_ms zt_nm zt_df (zt_X L xs) (D + 1) zt_m31 [.ref 213, .int p1, .int p2, .int p3] (zk b s0) (qI b w) := by
  unfold f_Hand_behindSmithS at hF
  change zz_wp zt_ms zt_nm zt_df (zt_X L xs) (D + 1) zt_m31 0 [(0, .ref 213), (1, .int p1), (2, .int p2), (3, .int p3)] [] (zk b s0) (qI b w)
  refine w_aload_n (pc2 := 1) rfl rfl rfl ?_
  refine w_iload_n (pc2 := 2) rfl rfl rfl ?_
  refine w_iload_n (pc2 := 3) rfl rfl rfl ?_
  refine w_iload_n (pc2 := 4) rfl rfl rfl ?_
  refine j_cIv (pc2 := 7) (k := 0) (c := zt_m32) (as := [.ref 213, .int p1, .int p2, .int p3]) (rest := []) rfl rfl rfl rfl zk_cHand.look rfl (Nat.le_of_ble_eq_true rfl) (Nat.le_of_ble_eq_true rfl) (fun w1 h1 => ok_Hand_isOver h1) (by omega) rfl hF (fun v5 s4 hF => ?_)
  refine j_if_eq (pc2 := 10) rfl rfl hF (fun hF => ?_) (fun hF => ?_)
  · refine w_aload_n (pc2 := 13) rfl rfl rfl ?_
    refine w_iload_n (pc2 := 14) rfl rfl rfl ?_
    refine w_iconst (pc2 := 15) rfl rfl ?_
    refine w_iload_n (pc2 := 16) rfl rfl rfl ?_
    refine w_iconst (pc2 := 17) rfl rfl ?_
    refine w_isub (pc2 := 18) rfl rfl ?_
    refine w_max (pc2 := 21) rfl (Nat.le_of_ble_eq_true rfl) rfl ?_
    refine w_iload_n (pc2 := 22) rfl rfl rfl ?_
    refine w_iconst (pc2 := 23) rfl rfl ?_
    refine w_isub (pc2 := 24) rfl rfl ?_
    refine j_cIv (pc2 := 27) (k := D) (c := zt_m33) (as := [.ref 213, .int p1, .int ((if (0 : Int32) < (p2 - (5 : Int32)) then (p2 - (5 : Int32)) else (0 : Int32))), .int ((p3 - (1 : Int32)))]) (rest := []) rfl rfl rfl rfl zk_cHand.look rfl (Nat.le_of_ble_eq_true rfl) (Nat.le_of_ble_eq_true rfl) (fun w1 h1 => hrec _ _ _ _ _ h1) (by omega) rfl hF (fun v7 s6 hF => ?_)
    refine w_istore (pc2 := 29) (ls2 := [(4, .int v7), (0, .ref 213), (1, .int p1), (2, .int p2), (3, .int p3)]) rfl rfl rfl ?_
    refine w_iload (pc2 := 31) rfl rfl rfl ?_
    refine w_aload_n (pc2 := 32) rfl rfl rfl ?_
    refine w_iload_n (pc2 := 33) rfl rfl rfl ?_
    refine w_iload_n (pc2 := 34) rfl rfl rfl ?_
    refine w_iload_n (pc2 := 35) rfl rfl rfl ?_
    refine w_iconst (pc2 := 36) rfl rfl ?_
    refine w_isub (pc2 := 37) rfl rfl ?_
    refine j_cIv (pc2 := 40) (k := D) (c := zt_m33) (as := [.ref 213, .int p1, .int p2, .int ((p3 - (1 : Int32)))]) (rest := [.int v7]) rfl rfl rfl rfl zk_cHand.look rfl (Nat.le_of_ble_eq_true rfl) (Nat.le_of_ble_eq_true rfl) (fun w1 h1 => hrec _ _ _ _ _ h1) (by omega) rfl hF (fun v9 s8 hF => ?_)
    refine w_min (pc2 := 43) rfl (Nat.le_of_ble_eq_true rfl) rfl ?_
    exact j_iret rfl rfl hF
  · refine w_iload_n (pc2 := 11) rfl rfl rfl ?_
    exact j_iret rfl rfl hF
noncomputable def f_bb : Nat → Bool → Int32 → Int32 → Int32 → ZS → Option (Int32 × ZS)
  | 0, _, _, _, _, _ => none
  | n + 1, true, p, t, l, s => f_Hand_behindSmithS (f_bb n false) p t l s
  | n + 1, false, p, t, l, s => f_Hand_behindPairS (f_bb n true) p t l s
noncomputable def f_Hand_behindSmith (p t l : Int32) (s : ZS) : Option (Int32 × ZS) := f_bb 8 true p t l s
noncomputable def f_Hand_behindPair (p t l : Int32) (s : ZS) : Option (Int32 × ZS) := f_bb 8 false p t l s
theorem ok_bb {L : Nat} {xs : Nat → Int32} {b : ZH} : ∀ (n : Nat) (c : Bool) (p t l : Int32) (s : ZS) (w : Int32 × ZS), f_bb n c p t l s = some w → zz_ct zt_ms zt_nm zt_df (zt_X L xs) (5 + n) (if c then zt_m31 else zt_m33) [.ref 213, .int p, .int t, .int l] (zk b s) (qI b w) := by
  intro n
  induction n with
  | zero => intro c p t l s w h; cases c <;> cases h
  | succ n ih =>
    intro c p t l s w h
    cases c with
    | true => exact ok_Hand_behindSmithS (D := 5 + n) (by omega) (fun p1 p2 p3 s w h => ih false p1 p2 p3 s w h) h
    | false => exact ok_Hand_behindPairS (D := 5 + n) (by omega) (fun p1 p2 p3 s w h => ih true p1 p2 p3 s w h) h
theorem ok_Hand_behindSmith {L : Nat} {xs : Nat → Int32} {b : ZH} {p t l : Int32} {s : ZS} {w : Int32 × ZS} (h : f_Hand_behindSmith p t l s = some w) : zz_ct zt_ms zt_nm zt_df (zt_X L xs) 13 zt_m31 [.ref 213, .int p, .int t, .int l] (zk b s) (qI b w) := ok_bb 8 true p t l s w h
noncomputable def f_Hand_gaming_B9 (p1 : Int32) (p2 : Int32) (k6 : (Int32 × Int32) → ZS → Option (Int32 × ZS)) (a7 : Int32 × Int32 × Int32) (s8 : ZS) (g9 : (Int32 × Int32 × Int32) → ZS → Option (Int32 × ZS)) : Option (Int32 × ZS) := zgi (s8.1 4 4) (fun (v10 : Int32) => (if v10 < a7.2.2 then k6 (a7.1, a7.2.1) s8 else zrd 5 p1 (s8.1 11) (fun (v11 : Int32) => zcl (f_Hand_afterDeed p1 v11 a7.2.2 s8) (fun (v13 : Int32) (s12 : ZS) => zcl (f_Hand_behindSmith p1 v13 ((p2 - (1 : Int32))) s12) (fun (v15 : Int32) (s14 : ZS) => zjn (A := Int32 × Int32) (fun (a17 : Int32 × Int32) (s16 : ZS) => g9 (a17.1, a17.2, (a7.2.2 + (1 : Int32))) s16) (fun (k18 : (Int32 × Int32) → ZS → Option (Int32 × ZS)) => (if v15 ≤ a7.1 then k18 (a7.1, a7.2.1) s14 else k18 (v15, a7.2.2) s14)))))))
noncomputable def f_Hand_gaming (p1 : Int32) (p2 : Int32) (p3 : Int32) (s0 : ZS) : Option (Int32 × ZS) := zjn (A := Int32 × Int32) (fun (a5 : Int32 × Int32) (s4 : ZS) => (if ¬ p3 = 0 then some (a5.2, s4) else some (a5.1, s4))) (fun (k6 : (Int32 × Int32) → ZS → Option (Int32 × ZS)) => zlp zN (f_Hand_gaming_B9 p1 p2 k6) ((-1 : Int32), (-1 : Int32), (0 : Int32)) s0)
set_option maxHeartbeats 4000000 in
set_option maxRecDepth 100000 in
theorem ok_Hand_gaming {L : Nat} {xs : Nat → Int32} {b : ZH} {p1 : Int32} {p2 : Int32} {p3 : Int32} {s0 : ZS} {w : Int32 × ZS} (hF : f_Hand_gaming p1 p2 p3 s0 = some w) : zz_ct zt_ms zt_nm zt_df (zt_X L xs) 14 zt_m29 [.ref 213, .int p1, .int p2, .int p3] (zk b s0) (qI b w) := by
  unfold f_Hand_gaming at hF
  change zz_wp zt_ms zt_nm zt_df (zt_X L xs) 14 zt_m29 0 [(0, .ref 213), (1, .int p1), (2, .int p2), (3, .int p3)] [] (zk b s0) (qI b w)
  refine w_iconst (pc2 := 1) rfl rfl ?_
  refine w_istore (pc2 := 3) (ls2 := [(4, .int (-1 : Int32)), (0, .ref 213), (1, .int p1), (2, .int p2), (3, .int p3)]) rfl rfl rfl ?_
  refine w_iconst (pc2 := 4) rfl rfl ?_
  refine w_istore (pc2 := 6) (ls2 := [(5, .int (-1 : Int32)), (4, .int (-1 : Int32)), (0, .ref 213), (1, .int p1), (2, .int p2), (3, .int p3)]) rfl rfl rfl ?_
  refine w_iconst (pc2 := 7) rfl rfl ?_
  refine w_istore (pc2 := 9) (ls2 := [(6, .int (0 : Int32)), (5, .int (-1 : Int32)), (4, .int (-1 : Int32)), (0, .ref 213), (1, .int p1), (2, .int p2), (3, .int p3)]) rfl rfl rfl ?_
  refine j_join (P := fun (a5 : Int32 × Int32) (s4 : ZS) => zz_wp zt_ms zt_nm zt_df (zt_X L xs) 14 zt_m29 78 [(3, .int p3), (4, .int a5.1), (5, .int a5.2)] [] (zk b s4) (qI b w)) hF (fun a5 s4 hF => ?_) (fun k6 hk6 hF => ?_)
  · refine w_iload_n (pc2 := 79) rfl rfl rfl ?_
    refine j_if_ne (pc2 := 82) rfl rfl hF (fun hF => ?_) (fun hF => ?_)
    · refine w_iload (pc2 := 89) rfl rfl rfl ?_
      exact j_iret rfl rfl hF
    · refine w_iload (pc2 := 84) rfl rfl rfl ?_
      refine w_goto rfl ?_
      exact j_iret rfl rfl hF
  · refine j_norm (l := [(0, .ref 213), (1, .int p1), (2, .int p2), (3, .int p3), (4, .int (-1 : Int32)), (5, .int (-1 : Int32)), (6, .int (0 : Int32))]) ⟨rfl, rfl, rfl, rfl, rfl, rfl, rfl, trivial⟩ (zz_nd_of (ks := [0, 1, 2, 3, 4, 5, 6]) rfl (by decide)) ?_
    refine j_loop (P := fun (a7 : Int32 × Int32 × Int32) (s8 : ZS) => zz_wp zt_ms zt_nm zt_df (zt_X L xs) 14 zt_m29 9 [(0, .ref 213), (1, .int p1), (2, .int p2), (3, .int p3), (4, .int a7.1), (5, .int a7.2.1), (6, .int a7.2.2)] [] (zk b s8) (qI b w)) hF (fun a7 s8 g9 hg9 hF => ?_)
    unfold f_Hand_gaming_B9 at hF
    refine w_iload (pc2 := 11) rfl rfl rfl ?_
    refine w_aload_n (pc2 := 12) rfl rfl rfl ?_
    refine w_getfield (pc2 := 15) rfl zk_cHand rfl rfl rfl ?_
    refine w_getfield (pc2 := 18) rfl (zk_cWorld zk_w3) rfl rfl rfl ?_
    refine j_geti (pc2 := 21) rfl (zk_cSmithy zk_sm4) rfl rfl rfl hF (fun v10 hF => ?_)
    refine j_icmp_gt (pc2 := 24) rfl rfl hF (fun hF => ?_) (fun hF => ?_)
    · exact j_norm (l := [(3, .int p3), (4, .int a7.1), (5, .int a7.2.1)]) ⟨rfl, rfl, rfl, trivial⟩ (zz_nd_of (ks := [3, 4, 5]) rfl (by decide)) (hk6 (a7.1, a7.2.1) s8 hF)
    · refine w_aload_n (pc2 := 25) rfl rfl rfl ?_
      refine w_iload_n (pc2 := 26) rfl rfl rfl ?_
      refine w_aload_n (pc2 := 27) rfl rfl rfl ?_
      refine w_getfield (pc2 := 30) rfl zk_cHand rfl rfl rfl ?_
      refine w_getfield (pc2 := 33) rfl (zk_cWorld zk_w3) rfl rfl rfl ?_
      refine w_getfield (pc2 := 36) rfl (zk_cState zk_st10) rfl rfl rfl ?_
      refine w_iload_n (pc2 := 37) rfl rfl rfl ?_
      refine j_iaload (pc2 := 38) (n := 5) rfl rfl (by omega) (by decide) rfl hF (fun v11 hF => ?_)
      refine w_iload (pc2 := 40) rfl rfl rfl ?_
      refine j_cIv (pc2 := 43) (k := 2) (c := zt_m30) (as := [.ref 213, .int p1, .int v11, .int a7.2.2]) (rest := []) rfl rfl rfl rfl zk_cHand.look rfl (Nat.le_of_ble_eq_true rfl) (Nat.le_of_ble_eq_true rfl) (fun w1 h1 => ok_Hand_afterDeed h1) (by decide) rfl hF (fun v13 s12 hF => ?_)
      refine w_istore (pc2 := 45) (ls2 := [(7, .int v13), (0, .ref 213), (1, .int p1), (2, .int p2), (3, .int p3), (4, .int a7.1), (5, .int a7.2.1), (6, .int a7.2.2)]) rfl rfl rfl ?_
      refine w_aload_n (pc2 := 46) rfl rfl rfl ?_
      refine w_iload_n (pc2 := 47) rfl rfl rfl ?_
      refine w_iload (pc2 := 49) rfl rfl rfl ?_
      refine w_iload_n (pc2 := 50) rfl rfl rfl ?_
      refine w_iconst (pc2 := 51) rfl rfl ?_
      refine w_isub (pc2 := 52) rfl rfl ?_
      refine j_cIv (pc2 := 55) (k := 13) (c := zt_m31) (as := [.ref 213, .int p1, .int v13, .int ((p2 - (1 : Int32)))]) (rest := []) rfl rfl rfl rfl zk_cHand.look rfl (Nat.le_of_ble_eq_true rfl) (Nat.le_of_ble_eq_true rfl) (fun w1 h1 => ok_Hand_behindSmith h1) (by decide) rfl hF (fun v15 s14 hF => ?_)
      refine w_istore (pc2 := 57) (ls2 := [(8, .int v15), (7, .int v13), (0, .ref 213), (1, .int p1), (2, .int p2), (3, .int p3), (4, .int a7.1), (5, .int a7.2.1), (6, .int a7.2.2)]) rfl rfl rfl ?_
      refine w_iload (pc2 := 59) rfl rfl rfl ?_
      refine w_iload (pc2 := 61) rfl rfl rfl ?_
      refine j_join (P := fun (a17 : Int32 × Int32) (s16 : ZS) => zz_wp zt_ms zt_nm zt_df (zt_X L xs) 14 zt_m29 72 [(0, .ref 213), (1, .int p1), (2, .int p2), (3, .int p3), (4, .int a17.1), (5, .int a17.2), (6, .int a7.2.2)] [] (zk b s16) (qI b w)) hF (fun a17 s16 hF => ?_) (fun k18 hk18 hF => ?_)
      · refine w_iinc (pc2 := 75) (ls2 := [(6, .int ((a7.2.2 + (1 : Int32)))), (0, .ref 213), (1, .int p1), (2, .int p2), (3, .int p3), (4, .int a17.1), (5, .int a17.2)]) rfl rfl rfl rfl ?_
        refine w_goto rfl ?_
        exact j_norm (l := [(0, .ref 213), (1, .int p1), (2, .int p2), (3, .int p3), (4, .int a17.1), (5, .int a17.2), (6, .int ((a7.2.2 + (1 : Int32))))]) ⟨rfl, rfl, rfl, rfl, rfl, rfl, rfl, trivial⟩ (zz_nd_of (ks := [0, 1, 2, 3, 4, 5, 6]) rfl (by decide)) (hg9 (a17.1, a17.2, (a7.2.2 + (1 : Int32))) s16 hF)
      · refine j_icmp_le (pc2 := 64) rfl rfl hF (fun hF => ?_) (fun hF => ?_)
        · exact j_norm (l := [(0, .ref 213), (1, .int p1), (2, .int p2), (3, .int p3), (4, .int a7.1), (5, .int a7.2.1), (6, .int a7.2.2)]) ⟨rfl, rfl, rfl, rfl, rfl, rfl, rfl, trivial⟩ (zz_nd_of (ks := [0, 1, 2, 3, 4, 5, 6]) rfl (by decide)) (hk18 (a7.1, a7.2.1) s14 hF)
        · refine w_iload (pc2 := 66) rfl rfl rfl ?_
          refine w_istore (pc2 := 68) (ls2 := [(4, .int v15), (8, .int v15), (7, .int v13), (0, .ref 213), (1, .int p1), (2, .int p2), (3, .int p3), (5, .int a7.2.1), (6, .int a7.2.2)]) rfl rfl rfl ?_
          refine w_iload (pc2 := 70) rfl rfl rfl ?_
          refine w_istore (pc2 := 72) (ls2 := [(5, .int a7.2.2), (4, .int v15), (8, .int v15), (7, .int v13), (0, .ref 213), (1, .int p1), (2, .int p2), (3, .int p3), (6, .int a7.2.2)]) rfl rfl rfl ?_
          exact j_norm (l := [(0, .ref 213), (1, .int p1), (2, .int p2), (3, .int p3), (4, .int v15), (5, .int a7.2.2), (6, .int a7.2.2)]) ⟨rfl, rfl, rfl, rfl, rfl, rfl, rfl, trivial⟩ (zz_nd_of (ks := [0, 1, 2, 3, 4, 5, 6]) rfl (by decide)) (hk18 (v15, a7.2.2) s14 hF)
noncomputable def f_Hand_sparking_B4 (p1 : Int32) (k4 : Int32 → ZS → Option (Int32 × ZS)) (a9 : Int32 × Int32) (s10 : ZS) (g11 : (Int32 × Int32) → ZS → Option (Int32 × ZS)) : Option (Int32 × ZS) := zgi (s10.1 4 4) (fun (v12 : Int32) => (if v12 ≤ a9.2 then k4 a9.1 s10 else zcl (f_Smithy_weight 4 p1 a9.2 s10) (fun (v14 : Int32) (s13 : ZS) => g11 ((if a9.1 < v14 then v14 else a9.1), (a9.2 + (1 : Int32))) s13)))
noncomputable def f_Hand_sparking (p1 : Int32) (s0 : ZS) : Option (Int32 × ZS) := zjn (A := Int32) (fun (a3 : Int32) (s2 : ZS) => zrd 5 p1 (s2.1 6) (fun (v5 : Int32) => zrd 5 p1 (s2.1 11) (fun (v6 : Int32) => (if a3 = (-1 : Int32) then some ((-2 : Int32), s2) else zj0 (fun (s7 : ZS) => (if 0 < (v5 - v6) then zdv a3 (some (((((v5 - v6) + a3) - (1 : Int32)) / a3), s7)) else some ((1 : Int32), s7))) (fun (k8 : ZS → Option (Int32 × ZS)) => (if ¬ a3 = 0 then k8 s2 else (if (v5 - v6) ≤ 0 then k8 s2 else some ((-2 : Int32), s2)))))))) (fun (k4 : Int32 → ZS → Option (Int32 × ZS)) => zlp zN (f_Hand_sparking_B4 p1 k4) ((-1 : Int32), (0 : Int32)) s0)
set_option maxHeartbeats 4000000 in
set_option maxRecDepth 100000 in
theorem ok_Hand_sparking {L : Nat} {xs : Nat → Int32} {b : ZH} {p1 : Int32} {s0 : ZS} {w : Int32 × ZS} (hF : f_Hand_sparking p1 s0 = some w) : zz_ct zt_ms zt_nm zt_df (zt_X L xs) 1 zt_m34 [.ref 213, .int p1] (zk b s0) (qI b w) := by
  unfold f_Hand_sparking at hF
  change zz_wp zt_ms zt_nm zt_df (zt_X L xs) 1 zt_m34 0 [(0, .ref 213), (1, .int p1)] [] (zk b s0) (qI b w)
  refine w_iconst (pc2 := 1) rfl rfl ?_
  refine w_istore_n (pc2 := 2) (ls2 := [(2, .int (-1 : Int32)), (0, .ref 213), (1, .int p1)]) rfl rfl rfl ?_
  refine w_iconst (pc2 := 3) rfl rfl ?_
  refine w_istore_n (pc2 := 4) (ls2 := [(3, .int (0 : Int32)), (2, .int (-1 : Int32)), (0, .ref 213), (1, .int p1)]) rfl rfl rfl ?_
  refine j_join (P := fun (a3 : Int32) (s2 : ZS) => zz_wp zt_ms zt_nm zt_df (zt_X L xs) 1 zt_m34 41 [(0, .ref 213), (1, .int p1), (2, .int a3)] [] (zk b s2) (qI b w)) hF (fun a3 s2 hF => ?_) (fun k4 hk4 hF => ?_)
  · refine w_aload_n (pc2 := 42) rfl rfl rfl ?_
    refine w_getfield (pc2 := 45) rfl zk_cHand rfl rfl rfl ?_
    refine w_getfield (pc2 := 48) rfl (zk_cWorld zk_w3) rfl rfl rfl ?_
    refine w_getfield (pc2 := 51) rfl (zk_cSmithy zk_sm4) rfl rfl rfl ?_
    refine w_iload_n (pc2 := 52) rfl rfl rfl ?_
    refine j_iaload (pc2 := 53) (n := 5) rfl rfl (by omega) (by decide) rfl hF (fun v5 hF => ?_)
    refine w_aload_n (pc2 := 54) rfl rfl rfl ?_
    refine w_getfield (pc2 := 57) rfl zk_cHand rfl rfl rfl ?_
    refine w_getfield (pc2 := 60) rfl (zk_cWorld zk_w3) rfl rfl rfl ?_
    refine w_getfield (pc2 := 63) rfl (zk_cState zk_st10) rfl rfl rfl ?_
    refine w_iload_n (pc2 := 64) rfl rfl rfl ?_
    refine j_iaload (pc2 := 65) (n := 5) rfl rfl (by omega) (by decide) rfl hF (fun v6 hF => ?_)
    refine w_isub (pc2 := 66) rfl rfl ?_
    refine w_istore_n (pc2 := 67) (ls2 := [(3, .int (v5 - v6)), (0, .ref 213), (1, .int p1), (2, .int a3)]) rfl rfl rfl ?_
    refine w_iload_n (pc2 := 68) rfl rfl rfl ?_
    refine w_iconst (pc2 := 69) rfl rfl ?_
    refine j_icmp_eq (pc2 := 72) rfl rfl hF (fun hF => ?_) (fun hF => ?_)
    · refine w_bipush (pc2 := 82) rfl rfl ?_
      exact j_iret rfl rfl hF
    · refine w_iload_n (pc2 := 73) rfl rfl rfl ?_
      refine j_join0 (P := fun (s7 : ZS) => zz_wp zt_ms zt_nm zt_df (zt_X L xs) 1 zt_m34 83 [(2, .int a3), (3, .int (v5 - v6))] [] (zk b s7) (qI b w)) hF (fun s7 hF => ?_) (fun k8 hk8 hF => ?_)
      · refine w_iload_n (pc2 := 84) rfl rfl rfl ?_
        refine j_if_gt (pc2 := 87) rfl rfl hF (fun hF => ?_) (fun hF => ?_)
        · refine w_iload_n (pc2 := 92) rfl rfl rfl ?_
          refine w_iload_n (pc2 := 93) rfl rfl rfl ?_
          refine w_iadd (pc2 := 94) rfl rfl ?_
          refine w_iconst (pc2 := 95) rfl rfl ?_
          refine w_isub (pc2 := 96) rfl rfl ?_
          refine w_iload_n (pc2 := 97) rfl rfl rfl ?_
          refine j_idiv (pc2 := 98) rfl rfl hF (fun hF => ?_)
          exact j_iret rfl rfl hF
        · refine w_iconst (pc2 := 88) rfl rfl ?_
          refine w_goto rfl ?_
          exact j_iret rfl rfl hF
      · refine j_if_ne (pc2 := 76) rfl rfl hF (fun hF => ?_) (fun hF => ?_)
        · exact j_norm (l := [(2, .int a3), (3, .int (v5 - v6))]) ⟨rfl, rfl, trivial⟩ (zz_nd_of (ks := [2, 3]) rfl (by decide)) (hk8 s2 hF)
        · refine w_iload_n (pc2 := 77) rfl rfl rfl ?_
          refine j_if_le (pc2 := 80) rfl rfl hF (fun hF => ?_) (fun hF => ?_)
          · exact j_norm (l := [(2, .int a3), (3, .int (v5 - v6))]) ⟨rfl, rfl, trivial⟩ (zz_nd_of (ks := [2, 3]) rfl (by decide)) (hk8 s2 hF)
          · refine w_bipush (pc2 := 82) rfl rfl ?_
            exact j_iret rfl rfl hF
  · refine j_norm (l := [(0, .ref 213), (1, .int p1), (2, .int (-1 : Int32)), (3, .int (0 : Int32))]) ⟨rfl, rfl, rfl, rfl, trivial⟩ (zz_nd_of (ks := [0, 1, 2, 3]) rfl (by decide)) ?_
    refine j_loop (P := fun (a9 : Int32 × Int32) (s10 : ZS) => zz_wp zt_ms zt_nm zt_df (zt_X L xs) 1 zt_m34 4 [(0, .ref 213), (1, .int p1), (2, .int a9.1), (3, .int a9.2)] [] (zk b s10) (qI b w)) hF (fun a9 s10 g11 hg11 hF => ?_)
    unfold f_Hand_sparking_B4 at hF
    refine w_iload_n (pc2 := 5) rfl rfl rfl ?_
    refine w_aload_n (pc2 := 6) rfl rfl rfl ?_
    refine w_getfield (pc2 := 9) rfl zk_cHand rfl rfl rfl ?_
    refine w_getfield (pc2 := 12) rfl (zk_cWorld zk_w3) rfl rfl rfl ?_
    refine j_geti (pc2 := 15) rfl (zk_cSmithy zk_sm4) rfl rfl rfl hF (fun v12 hF => ?_)
    refine j_icmp_ge (pc2 := 18) rfl rfl hF (fun hF => ?_) (fun hF => ?_)
    · exact j_norm (l := [(0, .ref 213), (1, .int p1), (2, .int a9.1)]) ⟨rfl, rfl, rfl, trivial⟩ (zz_nd_of (ks := [0, 1, 2]) rfl (by decide)) (hk4 a9.1 s10 hF)
    · refine w_iload_n (pc2 := 19) rfl rfl rfl ?_
      refine w_aload_n (pc2 := 20) rfl rfl rfl ?_
      refine w_getfield (pc2 := 23) rfl zk_cHand rfl rfl rfl ?_
      refine w_getfield (pc2 := 26) rfl (zk_cWorld zk_w3) rfl rfl rfl ?_
      refine w_iload_n (pc2 := 27) rfl rfl rfl ?_
      refine w_iload_n (pc2 := 28) rfl rfl rfl ?_
      refine j_cIv (pc2 := 31) (k := 0) (c := zt_m81) (as := [.ref 4, .int p1, .int a9.2]) (rest := [.int a9.1]) rfl rfl rfl rfl (zk_cSmithy zk_sm4).look rfl (Nat.le_of_ble_eq_true rfl) (Nat.le_of_ble_eq_true rfl) (fun w1 h1 => ok_Smithy_weight zk_sm4 h1) (by decide) rfl hF (fun v14 s13 hF => ?_)
      refine w_max (pc2 := 34) rfl (Nat.le_of_ble_eq_true rfl) rfl ?_
      refine w_istore_n (pc2 := 35) (ls2 := [(2, .int (if a9.1 < v14 then v14 else a9.1)), (0, .ref 213), (1, .int p1), (3, .int a9.2)]) rfl rfl rfl ?_
      refine w_iinc (pc2 := 38) (ls2 := [(3, .int ((a9.2 + (1 : Int32)))), (2, .int (if a9.1 < v14 then v14 else a9.1)), (0, .ref 213), (1, .int p1)]) rfl rfl rfl rfl ?_
      refine w_goto rfl ?_
      exact j_norm (l := [(0, .ref 213), (1, .int p1), (2, .int (if a9.1 < v14 then v14 else a9.1)), (3, .int ((a9.2 + (1 : Int32))))]) ⟨rfl, rfl, rfl, rfl, trivial⟩ (zz_nd_of (ks := [0, 1, 2, 3]) rfl (by decide)) (hg11 ((if a9.1 < v14 then v14 else a9.1), (a9.2 + (1 : Int32))) s13 hF)
noncomputable def f_Hist_forget (s0 : ZS) : Option (ZS) := zwi s0 100 1 (0 : Int32) (fun (s1 : ZS) => zwi s1 100 2 (0 : Int32) (fun (s2 : ZS) => some s2))
set_option maxHeartbeats 4000000 in
set_option maxRecDepth 100000 in
theorem ok_Hist_forget {L : Nat} {xs : Nat → Int32} {b : ZH} {s0 : ZS} {w : ZS} (hF : f_Hist_forget s0 = some w) : zz_ct zt_ms zt_nm zt_df (zt_X L xs) 0 zt_m36 [.ref 100] (zk b s0) (qV b w) := by
  unfold f_Hist_forget at hF
  change zz_wp zt_ms zt_nm zt_df (zt_X L xs) 0 zt_m36 0 [(0, .ref 100)] [] (zk b s0) (qV b w)
  refine w_aload_n (pc2 := 1) rfl rfl rfl ?_
  refine w_iconst (pc2 := 2) rfl rfl ?_
  refine j_puti (pc2 := 5) (j := 1) rfl zk_cHist rfl (Nat.le_of_ble_eq_true rfl) rfl zk_wHist_1 (by decide) rfl hF (fun s1 hF => ?_)
  refine w_aload_n (pc2 := 6) rfl rfl rfl ?_
  refine w_iconst (pc2 := 7) rfl rfl ?_
  refine j_puti (pc2 := 10) (j := 2) rfl zk_cHist rfl (Nat.le_of_ble_eq_true rfl) rfl zk_wHist_2 (by decide) rfl hF (fun s2 hF => ?_)
  exact j_vret rfl rfl hF
noncomputable def f_Hist_keep (o1 : Nat) (s0 : ZS) : Option (ZS) := zgi (s0.1 100 1) (fun (v2 : Int32) => zgi (s0.1 100 2) (fun (v3 : Int32) => zix 20 (((v2 + v3) - (v2 + v3) / (20 : Int32) * (20 : Int32))) (fun (j4 : Nat) => zcv (f_State_copy (102 + 5 * j4) o1 s0) (fun (s5 : ZS) => zgi (s5.1 100 2) (fun (v6 : Int32) => (if (20 : Int32) ≤ v6 then zgi (s5.1 100 1) (fun (v7 : Int32) => zwi s5 100 1 (((v7 + (1 : Int32)) - (v7 + (1 : Int32)) / (20 : Int32) * (20 : Int32))) (fun (s8 : ZS) => some s8)) else zgi (s5.1 100 2) (fun (v9 : Int32) => zwi s5 100 2 ((v9 + (1 : Int32))) (fun (s10 : ZS) => some s10))))))))
set_option maxHeartbeats 4000000 in
set_option maxRecDepth 100000 in
theorem ok_Hist_keep {L : Nat} {xs : Nat → Int32} {b : ZH} {o1 : Nat} (ho1 : zk_isState o1) {s0 : ZS} {w : ZS} (hF : f_Hist_keep o1 s0 = some w) : zz_ct zt_ms zt_nm zt_df (zt_X L xs) 1 zt_m37 [.ref 100, .ref o1] (zk b s0) (qV b w) := by
  unfold f_Hist_keep at hF
  change zz_wp zt_ms zt_nm zt_df (zt_X L xs) 1 zt_m37 0 [(0, .ref 100), (1, .ref o1)] [] (zk b s0) (qV b w)
  refine w_aload_n (pc2 := 1) rfl rfl rfl ?_
  refine w_getfield (pc2 := 4) rfl zk_cHist rfl rfl rfl ?_
  refine w_aload_n (pc2 := 5) rfl rfl rfl ?_
  refine j_geti (pc2 := 8) rfl zk_cHist rfl rfl rfl hF (fun v2 hF => ?_)
  refine w_aload_n (pc2 := 9) rfl rfl rfl ?_
  refine j_geti (pc2 := 12) rfl zk_cHist rfl rfl rfl hF (fun v3 hF => ?_)
  refine w_iadd (pc2 := 13) rfl rfl ?_
  refine w_bipush (pc2 := 15) rfl rfl ?_
  refine w_irem (pc2 := 16) rfl (by decide) rfl ?_
  refine j_aaload (pc2 := 17) (p := 102) (q := 5) rfl zk_c101 (by decide) rfl hF (fun j4 hj4 hF => ?_)
  refine w_aload_n (pc2 := 18) rfl rfl rfl ?_
  refine j_cVv (pc2 := 21) (k := 0) (c := zt_m87) (as := [.ref (102 + 5 * j4), .ref o1]) (rest := []) rfl rfl rfl rfl (zk_cState (zk_isH hj4)).look rfl (Nat.le_of_ble_eq_true rfl) (Nat.le_of_ble_eq_true rfl) (fun w1 h1 => ok_State_copy (zk_isH hj4) ho1 h1) (by decide) rfl hF (fun s5 hF => ?_)
  refine w_aload_n (pc2 := 22) rfl rfl rfl ?_
  refine j_geti (pc2 := 25) rfl zk_cHist rfl rfl rfl hF (fun v6 hF => ?_)
  refine w_bipush (pc2 := 27) rfl rfl ?_
  refine j_icmp_ge (pc2 := 30) rfl rfl hF (fun hF => ?_) (fun hF => ?_)
  · refine w_aload_n (pc2 := 44) rfl rfl rfl ?_
    refine w_aload_n (pc2 := 45) rfl rfl rfl ?_
    refine j_geti (pc2 := 48) rfl zk_cHist rfl rfl rfl hF (fun v7 hF => ?_)
    refine w_iconst (pc2 := 49) rfl rfl ?_
    refine w_iadd (pc2 := 50) rfl rfl ?_
    refine w_bipush (pc2 := 52) rfl rfl ?_
    refine w_irem (pc2 := 53) rfl (by decide) rfl ?_
    refine j_puti (pc2 := 56) (j := 1) rfl zk_cHist rfl (Nat.le_of_ble_eq_true rfl) rfl zk_wHist_1 (by decide) rfl hF (fun s8 hF => ?_)
    exact j_vret rfl rfl hF
  · refine w_aload_n (pc2 := 31) rfl rfl rfl ?_
    refine w_dup (pc2 := 32) rfl rfl rfl ?_
    refine j_geti (pc2 := 35) rfl zk_cHist rfl rfl rfl hF (fun v9 hF => ?_)
    refine w_iconst (pc2 := 36) rfl rfl ?_
    refine w_iadd (pc2 := 37) rfl rfl ?_
    refine j_puti (pc2 := 40) (j := 2) rfl zk_cHist rfl (Nat.le_of_ble_eq_true rfl) rfl zk_wHist_2 (by decide) rfl hF (fun s10 hF => ?_)
    refine w_goto rfl ?_
    exact j_vret rfl rfl hF
noncomputable def f_Hist_takeBack (o1 : Nat) (s0 : ZS) : Option (ZS) := zgi (s0.1 100 2) (fun (v2 : Int32) => (if v2 ≤ 0 then some s0 else zgi (s0.1 100 2) (fun (v3 : Int32) => zwi s0 100 2 ((v3 - (1 : Int32))) (fun (s4 : ZS) => zgi (s4.1 100 1) (fun (v5 : Int32) => zgi (s4.1 100 2) (fun (v6 : Int32) => zix 20 (((v5 + v6) - (v5 + v6) / (20 : Int32) * (20 : Int32))) (fun (j7 : Nat) => zcv (f_State_copy o1 (102 + 5 * j7) s4) (fun (s8 : ZS) => some s8))))))))
set_option maxHeartbeats 4000000 in
set_option maxRecDepth 100000 in
theorem ok_Hist_takeBack {L : Nat} {xs : Nat → Int32} {b : ZH} {o1 : Nat} (ho1 : zk_isState o1) {s0 : ZS} {w : ZS} (hF : f_Hist_takeBack o1 s0 = some w) : zz_ct zt_ms zt_nm zt_df (zt_X L xs) 1 zt_m38 [.ref 100, .ref o1] (zk b s0) (qV b w) := by
  unfold f_Hist_takeBack at hF
  change zz_wp zt_ms zt_nm zt_df (zt_X L xs) 1 zt_m38 0 [(0, .ref 100), (1, .ref o1)] [] (zk b s0) (qV b w)
  refine w_aload_n (pc2 := 1) rfl rfl rfl ?_
  refine j_geti (pc2 := 4) rfl zk_cHist rfl rfl rfl hF (fun v2 hF => ?_)
  refine j_if_le (pc2 := 7) rfl rfl hF (fun hF => ?_) (fun hF => ?_)
  · exact j_vret rfl rfl hF
  · refine w_aload_n (pc2 := 8) rfl rfl rfl ?_
    refine w_dup (pc2 := 9) rfl rfl rfl ?_
    refine j_geti (pc2 := 12) rfl zk_cHist rfl rfl rfl hF (fun v3 hF => ?_)
    refine w_iconst (pc2 := 13) rfl rfl ?_
    refine w_isub (pc2 := 14) rfl rfl ?_
    refine j_puti (pc2 := 17) (j := 2) rfl zk_cHist rfl (Nat.le_of_ble_eq_true rfl) rfl zk_wHist_2 (by decide) rfl hF (fun s4 hF => ?_)
    refine w_aload_n (pc2 := 18) rfl rfl rfl ?_
    refine w_aload_n (pc2 := 19) rfl rfl rfl ?_
    refine w_getfield (pc2 := 22) rfl zk_cHist rfl rfl rfl ?_
    refine w_aload_n (pc2 := 23) rfl rfl rfl ?_
    refine j_geti (pc2 := 26) rfl zk_cHist rfl rfl rfl hF (fun v5 hF => ?_)
    refine w_aload_n (pc2 := 27) rfl rfl rfl ?_
    refine j_geti (pc2 := 30) rfl zk_cHist rfl rfl rfl hF (fun v6 hF => ?_)
    refine w_iadd (pc2 := 31) rfl rfl ?_
    refine w_bipush (pc2 := 33) rfl rfl ?_
    refine w_irem (pc2 := 34) rfl (by decide) rfl ?_
    refine j_aaload (pc2 := 35) (p := 102) (q := 5) rfl zk_c101 (by decide) rfl hF (fun j7 hj7 hF => ?_)
    refine j_cVv (pc2 := 38) (k := 0) (c := zt_m87) (as := [.ref o1, .ref (102 + 5 * j7)]) (rest := []) rfl rfl rfl rfl (zk_cState ho1).look rfl (Nat.le_of_ble_eq_true rfl) (Nat.le_of_ble_eq_true rfl) (fun w1 h1 => ok_State_copy ho1 (zk_isH hj7) h1) (by decide) rfl hF (fun s8 hF => ?_)
    exact j_vret rfl rfl hF
noncomputable def f_Rule_clear (o1 : Nat) (s0 : ZS) : Option (ZS) := zwi s0 o1 1 (0 : Int32) (fun (s2 : ZS) => some s2)
set_option maxHeartbeats 4000000 in
set_option maxRecDepth 100000 in
theorem ok_Rule_clear {L : Nat} {xs : Nat → Int32} {b : ZH} {o1 : Nat} (ho1 : zk_isRule o1) {s0 : ZS} {w : ZS} (hF : f_Rule_clear o1 s0 = some w) : zz_ct zt_ms zt_nm zt_df (zt_X L xs) 0 zt_m50 [.ref o1] (zk b s0) (qV b w) := by
  unfold f_Rule_clear at hF
  change zz_wp zt_ms zt_nm zt_df (zt_X L xs) 0 zt_m50 0 [(0, .ref o1)] [] (zk b s0) (qV b w)
  refine w_aload_n (pc2 := 1) rfl rfl rfl ?_
  refine w_iconst (pc2 := 2) rfl rfl ?_
  refine j_puti (pc2 := 5) (j := 1) rfl (zk_cRule ho1) rfl (Nat.le_of_ble_eq_true rfl) rfl (zk_wRule_1 ho1) (by have := ho1.k.1; omega) rfl hF (fun s2 hF => ?_)
  exact j_vret rfl rfl hF
noncomputable def f_Rule_add (o1 : Nat) (p2 : Int32) (p3 : Int32) (s0 : ZS) : Option (ZS) := zgi (s0.1 o1 1) (fun (v4 : Int32) => (if (nI 400) ≤ v4 then some s0 else zgi (s0.1 o1 1) (fun (v5 : Int32) => zwa s0 (o1 + 1) 400 v5 (((p3 <<< ((4 : Int32) &&& (31 : Int32))) ||| p2)) (fun (s6 : ZS) => zgi (s6.1 o1 1) (fun (v7 : Int32) => zwi s6 o1 1 ((v7 + (1 : Int32))) (fun (s8 : ZS) => some s8))))))
set_option maxHeartbeats 4000000 in
set_option maxRecDepth 100000 in
theorem ok_Rule_add {L : Nat} {xs : Nat → Int32} {b : ZH} {o1 : Nat} {p2 : Int32} {p3 : Int32} (ho1 : zk_isRule o1) {s0 : ZS} {w : ZS} (hF : f_Rule_add o1 p2 p3 s0 = some w) : zz_ct zt_ms zt_nm zt_df (zt_X L xs) 0 zt_m51 [.ref o1, .int p2, .int p3] (zk b s0) (qV b w) := by
  unfold f_Rule_add at hF
  change zz_wp zt_ms zt_nm zt_df (zt_X L xs) 0 zt_m51 0 [(0, .ref o1), (1, .int p2), (2, .int p3)] [] (zk b s0) (qV b w)
  refine w_aload_n (pc2 := 1) rfl rfl rfl ?_
  refine j_geti (pc2 := 4) rfl (zk_cRule ho1) rfl rfl rfl hF (fun v4 hF => ?_)
  refine w_aload_n (pc2 := 5) rfl rfl rfl ?_
  refine w_getfield (pc2 := 8) rfl (zk_cRule ho1) rfl rfl rfl ?_
  refine w_arraylength (pc2 := 9) (n := 400) rfl (zk_at (by have := ho1.k.1; omega) (zk_A _ _ ho1.k.2.2 (by decide) (by omega))) rfl ?_
  refine j_icmp_ge (pc2 := 12) rfl rfl hF (fun hF => ?_) (fun hF => ?_)
  · exact j_vret rfl rfl hF
  · refine w_aload_n (pc2 := 13) rfl rfl rfl ?_
    refine w_getfield (pc2 := 16) rfl (zk_cRule ho1) rfl rfl rfl ?_
    refine w_aload_n (pc2 := 17) rfl rfl rfl ?_
    refine j_geti (pc2 := 20) rfl (zk_cRule ho1) rfl rfl rfl hF (fun v5 hF => ?_)
    refine w_iload_n (pc2 := 21) rfl rfl rfl ?_
    refine w_iconst (pc2 := 22) rfl rfl ?_
    refine w_ishl (pc2 := 23) rfl rfl ?_
    refine w_iload_n (pc2 := 24) rfl rfl rfl ?_
    refine w_ior (pc2 := 25) rfl rfl ?_
    refine j_iastore (pc2 := 26) (n := 400) rfl ho1.k.2.2 (by omega) (by have := ho1.k.1; omega) rfl hF (fun s6 hF => ?_)
    refine w_aload_n (pc2 := 27) rfl rfl rfl ?_
    refine w_dup (pc2 := 28) rfl rfl rfl ?_
    refine j_geti (pc2 := 31) rfl (zk_cRule ho1) rfl rfl rfl hF (fun v7 hF => ?_)
    refine w_iconst (pc2 := 32) rfl rfl ?_
    refine w_iadd (pc2 := 33) rfl rfl ?_
    refine j_puti (pc2 := 36) (j := 1) rfl (zk_cRule ho1) rfl (Nat.le_of_ble_eq_true rfl) rfl (zk_wRule_1 ho1) (by have := ho1.k.1; omega) rfl hF (fun s8 hF => ?_)
    exact j_vret rfl rfl hF
noncomputable def f_Tape_rewind (s0 : ZS) : Option (ZS) := zwi s0 1 2 (0 : Int32) (fun (s1 : ZS) => zwi s1 1 3 (0 : Int32) (fun (s2 : ZS) => some s2))
set_option maxHeartbeats 4000000 in
set_option maxRecDepth 100000 in
theorem ok_Tape_rewind {L : Nat} {xs : Nat → Int32} {b : ZH} {s0 : ZS} {w : ZS} (hF : f_Tape_rewind s0 = some w) : zz_ct zt_ms zt_nm zt_df (zt_X L xs) 0 zt_m91 [.ref 1] (zk b s0) (qV b w) := by
  unfold f_Tape_rewind at hF
  change zz_wp zt_ms zt_nm zt_df (zt_X L xs) 0 zt_m91 0 [(0, .ref 1)] [] (zk b s0) (qV b w)
  refine w_aload_n (pc2 := 1) rfl rfl rfl ?_
  refine w_iconst (pc2 := 2) rfl rfl ?_
  refine j_puti (pc2 := 5) (j := 2) rfl zk_cTape rfl (Nat.le_of_ble_eq_true rfl) rfl zk_wTape_2 (by decide) rfl hF (fun s1 hF => ?_)
  refine w_aload_n (pc2 := 6) rfl rfl rfl ?_
  refine w_iconst (pc2 := 7) rfl rfl ?_
  refine j_puti (pc2 := 10) (j := 3) rfl zk_cTape rfl (Nat.le_of_ble_eq_true rfl) rfl zk_wTape_3 (by decide) rfl hF (fun s2 hF => ?_)
  exact j_vret rfl rfl hF
noncomputable def f_Tape_next_B0 (k2 : ZS → Option (Int32 × ZS)) (a7 : Unit) (s8 : ZS) (g9 : Unit → ZS → Option (Int32 × ZS)) : Option (Int32 × ZS) := zgi (s8.1 1 2) (fun (v10 : Int32) => zgi (s8.1 1 1) (fun (v11 : Int32) => (if v11 ≤ v10 then k2 s8 else zgi (s8.1 1 2) (fun (v12 : Int32) => zrd 400 v12 (s8.1 2) (fun (v13 : Int32) => (if ¬ v13 = (32 : Int32) then k2 s8 else zgi (s8.1 1 2) (fun (v14 : Int32) => zwi s8 1 2 ((v14 + (1 : Int32))) (fun (s15 : ZS) => g9 () s15))))))))
noncomputable def f_Tape_next (s0 : ZS) : Option (Int32 × ZS) := zj0 (fun (s1 : ZS) => zgi (s1.1 1 2) (fun (v3 : Int32) => zgi (s1.1 1 1) (fun (v4 : Int32) => (if v4 ≤ v3 then some ((-1 : Int32), s1) else zgi (s1.1 1 2) (fun (v5 : Int32) => zrd 400 v5 (s1.1 2) (fun (v6 : Int32) => some ((v6 &&& (255 : Int32)), s1))))))) (fun (k2 : ZS → Option (Int32 × ZS)) => zlp zN (f_Tape_next_B0 k2) () s0)
set_option maxHeartbeats 4000000 in
set_option maxRecDepth 100000 in
theorem ok_Tape_next {L : Nat} {xs : Nat → Int32} {b : ZH} {s0 : ZS} {w : Int32 × ZS} (hF : f_Tape_next s0 = some w) : zz_ct zt_ms zt_nm zt_df (zt_X L xs) 0 zt_m93 [.ref 1] (zk b s0) (qI b w) := by
  unfold f_Tape_next at hF
  change zz_wp zt_ms zt_nm zt_df (zt_X L xs) 0 zt_m93 0 [(0, .ref 1)] [] (zk b s0) (qI b w)
  refine j_join0 (P := fun (s1 : ZS) => zz_wp zt_ms zt_nm zt_df (zt_X L xs) 0 zt_m93 38 [(0, .ref 1)] [] (zk b s1) (qI b w)) hF (fun s1 hF => ?_) (fun k2 hk2 hF => ?_)
  · refine w_aload_n (pc2 := 39) rfl rfl rfl ?_
    refine j_geti (pc2 := 42) rfl zk_cTape rfl rfl rfl hF (fun v3 hF => ?_)
    refine w_aload_n (pc2 := 43) rfl rfl rfl ?_
    refine j_geti (pc2 := 46) rfl zk_cTape rfl rfl rfl hF (fun v4 hF => ?_)
    refine j_icmp_ge (pc2 := 49) rfl rfl hF (fun hF => ?_) (fun hF => ?_)
    · refine w_iconst (pc2 := 66) rfl rfl ?_
      exact j_iret rfl rfl hF
    · refine w_aload_n (pc2 := 50) rfl rfl rfl ?_
      refine w_getfield (pc2 := 53) rfl zk_cTape rfl rfl rfl ?_
      refine w_aload_n (pc2 := 54) rfl rfl rfl ?_
      refine j_geti (pc2 := 57) rfl zk_cTape rfl rfl rfl hF (fun v5 hF => ?_)
      refine j_baload (pc2 := 58) (n := 400) rfl rfl (by omega) (by decide) rfl hF (fun v6 hF => ?_)
      refine w_sipush (pc2 := 61) rfl rfl ?_
      refine w_iand (pc2 := 62) rfl rfl ?_
      refine w_goto rfl ?_
      exact j_iret rfl rfl hF
  · refine j_norm (l := [(0, .ref 1)]) ⟨rfl, trivial⟩ (zz_nd_of (ks := [0]) rfl (by decide)) ?_
    refine j_loop (P := fun (a7 : Unit) (s8 : ZS) => zz_wp zt_ms zt_nm zt_df (zt_X L xs) 0 zt_m93 0 [(0, .ref 1)] [] (zk b s8) (qI b w)) hF (fun a7 s8 g9 hg9 hF => ?_)
    unfold f_Tape_next_B0 at hF
    refine w_aload_n (pc2 := 1) rfl rfl rfl ?_
    refine j_geti (pc2 := 4) rfl zk_cTape rfl rfl rfl hF (fun v10 hF => ?_)
    refine w_aload_n (pc2 := 5) rfl rfl rfl ?_
    refine j_geti (pc2 := 8) rfl zk_cTape rfl rfl rfl hF (fun v11 hF => ?_)
    refine j_icmp_ge (pc2 := 11) rfl rfl hF (fun hF => ?_) (fun hF => ?_)
    · exact j_norm (l := [(0, .ref 1)]) ⟨rfl, trivial⟩ (zz_nd_of (ks := [0]) rfl (by decide)) (hk2 s8 hF)
    · refine w_aload_n (pc2 := 12) rfl rfl rfl ?_
      refine w_getfield (pc2 := 15) rfl zk_cTape rfl rfl rfl ?_
      refine w_aload_n (pc2 := 16) rfl rfl rfl ?_
      refine j_geti (pc2 := 19) rfl zk_cTape rfl rfl rfl hF (fun v12 hF => ?_)
      refine j_baload (pc2 := 20) (n := 400) rfl rfl (by omega) (by decide) rfl hF (fun v13 hF => ?_)
      refine w_bipush (pc2 := 22) rfl rfl ?_
      refine j_icmp_ne (pc2 := 25) rfl rfl hF (fun hF => ?_) (fun hF => ?_)
      · exact j_norm (l := [(0, .ref 1)]) ⟨rfl, trivial⟩ (zz_nd_of (ks := [0]) rfl (by decide)) (hk2 s8 hF)
      · refine w_aload_n (pc2 := 26) rfl rfl rfl ?_
        refine w_dup (pc2 := 27) rfl rfl rfl ?_
        refine j_geti (pc2 := 30) rfl zk_cTape rfl rfl rfl hF (fun v14 hF => ?_)
        refine w_iconst (pc2 := 31) rfl rfl ?_
        refine w_iadd (pc2 := 32) rfl rfl ?_
        refine j_puti (pc2 := 35) (j := 2) rfl zk_cTape rfl (Nat.le_of_ble_eq_true rfl) rfl zk_wTape_2 (by decide) rfl hF (fun s15 hF => ?_)
        refine w_goto rfl ?_
        exact j_norm (l := [(0, .ref 1)]) ⟨rfl, trivial⟩ (zz_nd_of (ks := [0]) rfl (by decide)) (hg9 () s15 hF)
noncomputable def f_Tape_wordSize_B5 (a2 : Int32) (s3 : ZS) (g4 : Int32 → ZS → Option (Int32 × ZS)) : Option (Int32 × ZS) := zgi (s3.1 1 1) (fun (v5 : Int32) => (if v5 ≤ a2 then zgi (s3.1 1 2) (fun (v6 : Int32) => some ((a2 - v6), s3)) else zrd 400 a2 (s3.1 2) (fun (v7 : Int32) => (if v7 < (97 : Int32) then zgi (s3.1 1 2) (fun (v8 : Int32) => some ((a2 - v8), s3)) else zrd 400 a2 (s3.1 2) (fun (v9 : Int32) => (if (122 : Int32) < v9 then zgi (s3.1 1 2) (fun (v10 : Int32) => some ((a2 - v10), s3)) else g4 (a2 + (1 : Int32)) s3))))))
noncomputable def f_Tape_wordSize (s0 : ZS) : Option (Int32 × ZS) := zgi (s0.1 1 2) (fun (v1 : Int32) => zlp zN (f_Tape_wordSize_B5) v1 s0)
set_option maxHeartbeats 4000000 in
set_option maxRecDepth 100000 in
theorem ok_Tape_wordSize {L : Nat} {xs : Nat → Int32} {b : ZH} {s0 : ZS} {w : Int32 × ZS} (hF : f_Tape_wordSize s0 = some w) : zz_ct zt_ms zt_nm zt_df (zt_X L xs) 0 zt_m94 [.ref 1] (zk b s0) (qI b w) := by
  unfold f_Tape_wordSize at hF
  change zz_wp zt_ms zt_nm zt_df (zt_X L xs) 0 zt_m94 0 [(0, .ref 1)] [] (zk b s0) (qI b w)
  refine w_aload_n (pc2 := 1) rfl rfl rfl ?_
  refine j_geti (pc2 := 4) rfl zk_cTape rfl rfl rfl hF (fun v1 hF => ?_)
  refine w_istore_n (pc2 := 5) (ls2 := [(1, .int v1), (0, .ref 1)]) rfl rfl rfl ?_
  refine j_norm (l := [(0, .ref 1), (1, .int v1)]) ⟨rfl, rfl, trivial⟩ (zz_nd_of (ks := [0, 1]) rfl (by decide)) ?_
  refine j_loop (P := fun (a2 : Int32) (s3 : ZS) => zz_wp zt_ms zt_nm zt_df (zt_X L xs) 0 zt_m94 5 [(0, .ref 1), (1, .int a2)] [] (zk b s3) (qI b w)) hF (fun a2 s3 g4 hg4 hF => ?_)
  unfold f_Tape_wordSize_B5 at hF
  refine w_iload_n (pc2 := 6) rfl rfl rfl ?_
  refine w_aload_n (pc2 := 7) rfl rfl rfl ?_
  refine j_geti (pc2 := 10) rfl zk_cTape rfl rfl rfl hF (fun v5 hF => ?_)
  refine j_icmp_ge (pc2 := 13) rfl rfl hF (fun hF => ?_) (fun hF => ?_)
  · refine w_iload_n (pc2 := 42) rfl rfl rfl ?_
    refine w_aload_n (pc2 := 43) rfl rfl rfl ?_
    refine j_geti (pc2 := 46) rfl zk_cTape rfl rfl rfl hF (fun v6 hF => ?_)
    refine w_isub (pc2 := 47) rfl rfl ?_
    exact j_iret rfl rfl hF
  · refine w_aload_n (pc2 := 14) rfl rfl rfl ?_
    refine w_getfield (pc2 := 17) rfl zk_cTape rfl rfl rfl ?_
    refine w_iload_n (pc2 := 18) rfl rfl rfl ?_
    refine j_baload (pc2 := 19) (n := 400) rfl rfl (by omega) (by decide) rfl hF (fun v7 hF => ?_)
    refine w_bipush (pc2 := 21) rfl rfl ?_
    refine j_icmp_lt (pc2 := 24) rfl rfl hF (fun hF => ?_) (fun hF => ?_)
    · refine w_iload_n (pc2 := 42) rfl rfl rfl ?_
      refine w_aload_n (pc2 := 43) rfl rfl rfl ?_
      refine j_geti (pc2 := 46) rfl zk_cTape rfl rfl rfl hF (fun v8 hF => ?_)
      refine w_isub (pc2 := 47) rfl rfl ?_
      exact j_iret rfl rfl hF
    · refine w_aload_n (pc2 := 25) rfl rfl rfl ?_
      refine w_getfield (pc2 := 28) rfl zk_cTape rfl rfl rfl ?_
      refine w_iload_n (pc2 := 29) rfl rfl rfl ?_
      refine j_baload (pc2 := 30) (n := 400) rfl rfl (by omega) (by decide) rfl hF (fun v9 hF => ?_)
      refine w_bipush (pc2 := 32) rfl rfl ?_
      refine j_icmp_gt (pc2 := 35) rfl rfl hF (fun hF => ?_) (fun hF => ?_)
      · refine w_iload_n (pc2 := 42) rfl rfl rfl ?_
        refine w_aload_n (pc2 := 43) rfl rfl rfl ?_
        refine j_geti (pc2 := 46) rfl zk_cTape rfl rfl rfl hF (fun v10 hF => ?_)
        refine w_isub (pc2 := 47) rfl rfl ?_
        exact j_iret rfl rfl hF
      · refine w_iinc (pc2 := 38) (ls2 := [(1, .int ((a2 + (1 : Int32)))), (0, .ref 1)]) rfl rfl rfl rfl ?_
        refine w_goto rfl ?_
        exact j_norm (l := [(0, .ref 1), (1, .int ((a2 + (1 : Int32))))]) ⟨rfl, rfl, trivial⟩ (zz_nd_of (ks := [0, 1]) rfl (by decide)) (hg4 (a2 + (1 : Int32)) s3 hF)
noncomputable def f_Str_coder (o1 : Nat) (s0 : ZS) : Option (Int32 × ZS) := (if (1 : Int32) = 0 then zby (1 : Int32) s0 else zby (0 : Int32) s0)
set_option maxHeartbeats 4000000 in
set_option maxRecDepth 100000 in
theorem ok_Str_coder {L : Nat} {xs : Nat → Int32} {b : ZH} {o1 : Nat} (ho1 : zk_isStr o1) {s0 : ZS} {w : Int32 × ZS} (hF : f_Str_coder o1 s0 = some w) : zz_ct zt_ms zt_nm zt_df (zt_X L xs) 0 zt_m255 [.ref o1] (zk b s0) (qI b w) := by
  unfold f_Str_coder at hF
  change zz_wp zt_ms zt_nm zt_df (zt_X L xs) 0 zt_m255 0 [(0, .ref o1)] [] (zk b s0) (qI b w)
  refine w_getstatic (pc2 := 3) rfl rfl ?_
  refine j_if_eq (pc2 := 6) rfl rfl hF (fun hF => ?_) (fun hF => ?_)
  · refine w_iconst (pc2 := 14) rfl rfl ?_
    exact j_bret rfl rfl hF
  · refine w_aload_n (pc2 := 7) rfl rfl rfl ?_
    refine w_getfieldR (pc2 := 10) rfl (zk_strO ho1) rfl rfl rfl ?_
    refine w_goto rfl ?_
    exact j_bret rfl rfl hF
noncomputable def f_Str_length (o1 : Nat) (s0 : ZS) : Option (Int32 × ZS) := zcl (f_Str_coder o1 s0) (fun (v3 : Int32) (s2 : ZS) => some (((nI (zk_slen o1)) >>> (v3 &&& (31 : Int32))), s2))
set_option maxHeartbeats 4000000 in
set_option maxRecDepth 100000 in
theorem ok_Str_length {L : Nat} {xs : Nat → Int32} {b : ZH} {o1 : Nat} (ho1 : zk_isStr o1) {s0 : ZS} {w : Int32 × ZS} (hF : f_Str_length o1 s0 = some w) : zz_ct zt_ms zt_nm zt_df (zt_X L xs) 1 zt_m254 [.ref o1] (zk b s0) (qI b w) := by
  unfold f_Str_length at hF
  change zz_wp zt_ms zt_nm zt_df (zt_X L xs) 1 zt_m254 0 [(0, .ref o1)] [] (zk b s0) (qI b w)
  refine w_aload_n (pc2 := 1) rfl rfl rfl ?_
  refine w_getfieldR (pc2 := 4) rfl (zk_strO ho1) rfl rfl rfl ?_
  refine w_arraylengthR (pc2 := 5) rfl (zk_strV ho1) rfl ?_
  refine w_aload_n (pc2 := 6) rfl rfl rfl ?_
  refine j_cIv (pc2 := 9) (k := 0) (c := zt_m255) (as := [.ref o1]) (rest := [.int ((nI (zk_slen o1)))]) rfl rfl rfl rfl (zk_strO ho1) rfl (Nat.le_of_ble_eq_true rfl) (Nat.le_of_ble_eq_true rfl) (fun w1 h1 => ok_Str_coder ho1 h1) (by decide) rfl hF (fun v3 s2 hF => ?_)
  refine w_ishr (pc2 := 10) rfl rfl ?_
  exact j_iret rfl rfl hF
noncomputable def f_Str_isLatin1 (o1 : Nat) (s0 : ZS) : Option (Int32 × ZS) := (if (1 : Int32) = 0 then zbl (0 : Int32) s0 else (if ¬ (0 : Int32) = 0 then zbl (0 : Int32) s0 else zbl (1 : Int32) s0))
set_option maxHeartbeats 4000000 in
set_option maxRecDepth 100000 in
theorem ok_Str_isLatin1 {L : Nat} {xs : Nat → Int32} {b : ZH} {o1 : Nat} (ho1 : zk_isStr o1) {s0 : ZS} {w : Int32 × ZS} (hF : f_Str_isLatin1 o1 s0 = some w) : zz_ct zt_ms zt_nm zt_df (zt_X L xs) 0 zt_m257 [.ref o1] (zk b s0) (qI b w) := by
  unfold f_Str_isLatin1 at hF
  change zz_wp zt_ms zt_nm zt_df (zt_X L xs) 0 zt_m257 0 [(0, .ref o1)] [] (zk b s0) (qI b w)
  refine w_getstatic (pc2 := 3) rfl rfl ?_
  refine j_if_eq (pc2 := 6) rfl rfl hF (fun hF => ?_) (fun hF => ?_)
  · refine w_iconst (pc2 := 18) rfl rfl ?_
    exact j_zret rfl rfl hF
  · refine w_aload_n (pc2 := 7) rfl rfl rfl ?_
    refine w_getfieldR (pc2 := 10) rfl (zk_strO ho1) rfl rfl rfl ?_
    refine j_if_ne (pc2 := 13) rfl rfl hF (fun hF => ?_) (fun hF => ?_)
    · refine w_iconst (pc2 := 18) rfl rfl ?_
      exact j_zret rfl rfl hF
    · refine w_iconst (pc2 := 14) rfl rfl ?_
      refine w_goto rfl ?_
      exact j_zret rfl rfl hF
noncomputable def f_Pre_checkIndex (p1 : Int32) (p2 : Int32) (s0 : ZS) : Option (Int32 × ZS) := (if p1 < 0 then none else (if p1 < p2 then some (p1, s0) else none))
set_option maxHeartbeats 4000000 in
set_option maxRecDepth 100000 in
theorem ok_Pre_checkIndex {L : Nat} {xs : Nat → Int32} {b : ZH} {p1 : Int32} {p2 : Int32} {s0 : ZS} {w : Int32 × ZS} (hF : f_Pre_checkIndex p1 p2 s0 = some w) : zz_ct zt_ms zt_nm zt_df (zt_X L xs) 0 zt_m261 [.int p1, .int p2, .ref 1000002] (zk b s0) (qI b w) := by
  unfold f_Pre_checkIndex at hF
  change zz_wp zt_ms zt_nm zt_df (zt_X L xs) 0 zt_m261 0 [(0, .int p1), (1, .int p2), (2, .ref 1000002)] [] (zk b s0) (qI b w)
  refine w_iload_n (pc2 := 1) rfl rfl rfl ?_
  refine j_if_lt (pc2 := 4) rfl rfl hF (fun hF => ?_) (fun hF => ?_)
  · refine w_aload_n (pc2 := 10) rfl rfl rfl ?_
    refine w_iload_n (pc2 := 11) rfl rfl rfl ?_
    refine w_iload_n (pc2 := 12) rfl rfl rfl ?_
    cases hF
  · refine w_iload_n (pc2 := 5) rfl rfl rfl ?_
    refine w_iload_n (pc2 := 6) rfl rfl rfl ?_
    refine j_icmp_lt (pc2 := 9) rfl rfl hF (fun hF => ?_) (fun hF => ?_)
    · refine w_iload_n (pc2 := 17) rfl rfl rfl ?_
      exact j_iret rfl rfl hF
    · refine w_aload_n (pc2 := 10) rfl rfl rfl ?_
      refine w_iload_n (pc2 := 11) rfl rfl rfl ?_
      refine w_iload_n (pc2 := 12) rfl rfl rfl ?_
      cases hF
noncomputable def f_Str_checkIndex (p1 : Int32) (p2 : Int32) (s0 : ZS) : Option (ZS) := zcl (f_Pre_checkIndex p1 p2 s0) (fun (v4 : Int32) (s3 : ZS) => some s3)
set_option maxHeartbeats 4000000 in
set_option maxRecDepth 100000 in
theorem ok_Str_checkIndex {L : Nat} {xs : Nat → Int32} {b : ZH} {p1 : Int32} {p2 : Int32} {s0 : ZS} {w : ZS} (hF : f_Str_checkIndex p1 p2 s0 = some w) : zz_ct zt_ms zt_nm zt_df (zt_X L xs) 1 zt_m258 [.int p1, .int p2] (zk b s0) (qV b w) := by
  unfold f_Str_checkIndex at hF
  change zz_wp zt_ms zt_nm zt_df (zt_X L xs) 1 zt_m258 0 [(0, .int p1), (1, .int p2)] [] (zk b s0) (qV b w)
  refine w_iload_n (pc2 := 1) rfl rfl rfl ?_
  refine w_iload_n (pc2 := 2) rfl rfl rfl ?_
  refine w_getstatic (pc2 := 5) rfl rfl ?_
  refine j_cIs (pc2 := 8) (k := 0) (c := zt_m261) (as := [.int p1, .int p2, .ref 1000002]) (rest := []) rfl rfl rfl (Nat.le_of_ble_eq_true rfl) rfl rfl (Nat.le_of_ble_eq_true rfl) (Nat.le_of_ble_eq_true rfl) (fun w1 h1 => ok_Pre_checkIndex h1) (by decide) rfl hF (fun v4 s3 hF => ?_)
  refine w_pop (pc2 := 9) rfl rfl rfl ?_
  exact j_vret rfl rfl hF
noncomputable def f_Latin_charAt (o1 : Nat) (p2 : Int32) (s0 : ZS) : Option (Int32 × ZS) := zcv (f_Str_checkIndex p2 ((nI (zk_slen o1))) s0) (fun (s3 : ZS) => zrd (zk_slen o1) p2 (zk_sat o1) (fun (v4 : Int32) => zch ((((v4 &&& (255 : Int32)).toUInt32 % 65536).toInt32)) s3))
set_option maxHeartbeats 4000000 in
set_option maxRecDepth 100000 in
theorem ok_Latin_charAt {L : Nat} {xs : Nat → Int32} {b : ZH} {o1 : Nat} {p2 : Int32} (ho1 : zk_isStr o1) {s0 : ZS} {w : Int32 × ZS} (hF : f_Latin_charAt o1 p2 s0 = some w) : zz_ct zt_ms zt_nm zt_df (zt_X L xs) 2 zt_m259 [.ref (o1 + 10), .int p2] (zk b s0) (qI b w) := by
  unfold f_Latin_charAt at hF
  change zz_wp zt_ms zt_nm zt_df (zt_X L xs) 2 zt_m259 0 [(0, .ref (o1 + 10)), (1, .int p2)] [] (zk b s0) (qI b w)
  refine w_iload_n (pc2 := 1) rfl rfl rfl ?_
  refine w_aload_n (pc2 := 2) rfl rfl rfl ?_
  refine w_arraylengthR (pc2 := 3) rfl (zk_strV ho1) rfl ?_
  refine j_cVs (pc2 := 6) (k := 1) (c := zt_m258) (as := [.int p2, .int ((nI (zk_slen o1)))]) (rest := []) rfl rfl rfl (Nat.le_of_ble_eq_true rfl) rfl rfl (Nat.le_of_ble_eq_true rfl) (Nat.le_of_ble_eq_true rfl) (fun w1 h1 => ok_Str_checkIndex h1) (by decide) rfl hF (fun s3 hF => ?_)
  refine w_aload_n (pc2 := 7) rfl rfl rfl ?_
  refine w_iload_n (pc2 := 8) rfl rfl rfl ?_
  refine j_baloadR (pc2 := 9) rfl (zk_strV ho1) rfl hF (fun v4 hF => ?_)
  refine w_sipush (pc2 := 12) rfl rfl ?_
  refine w_iand (pc2 := 13) rfl rfl ?_
  refine w_i2c (pc2 := 14) rfl rfl ?_
  exact j_cret rfl rfl hF
noncomputable def f_Str_charAt (o1 : Nat) (p2 : Int32) (s0 : ZS) : Option (Int32 × ZS) := zcl (f_Str_isLatin1 o1 s0) (fun (v4 : Int32) (s3 : ZS) => (if v4 = 0 then none else zcl (f_Latin_charAt o1 p2 s3) (fun (v6 : Int32) (s5 : ZS) => zch v6 s5)))
set_option maxHeartbeats 4000000 in
set_option maxRecDepth 100000 in
theorem ok_Str_charAt {L : Nat} {xs : Nat → Int32} {b : ZH} {o1 : Nat} {p2 : Int32} (ho1 : zk_isStr o1) {s0 : ZS} {w : Int32 × ZS} (hF : f_Str_charAt o1 p2 s0 = some w) : zz_ct zt_ms zt_nm zt_df (zt_X L xs) 3 zt_m256 [.ref o1, .int p2] (zk b s0) (qI b w) := by
  unfold f_Str_charAt at hF
  change zz_wp zt_ms zt_nm zt_df (zt_X L xs) 3 zt_m256 0 [(0, .ref o1), (1, .int p2)] [] (zk b s0) (qI b w)
  refine w_aload_n (pc2 := 1) rfl rfl rfl ?_
  refine j_cIv (pc2 := 4) (k := 0) (c := zt_m257) (as := [.ref o1]) (rest := []) rfl rfl rfl rfl (zk_strO ho1) rfl (Nat.le_of_ble_eq_true rfl) (Nat.le_of_ble_eq_true rfl) (fun w1 h1 => ok_Str_isLatin1 ho1 h1) (by decide) rfl hF (fun v4 s3 hF => ?_)
  refine j_if_eq (pc2 := 7) rfl rfl hF (fun hF => ?_) (fun hF => ?_)
  · refine w_aload_n (pc2 := 17) rfl rfl rfl ?_
    refine w_getfieldR (pc2 := 20) rfl (zk_strO ho1) rfl rfl rfl ?_
    refine w_iload_n (pc2 := 21) rfl rfl rfl ?_
    cases hF
  · refine w_aload_n (pc2 := 8) rfl rfl rfl ?_
    refine w_getfieldR (pc2 := 11) rfl (zk_strO ho1) rfl rfl rfl ?_
    refine w_iload_n (pc2 := 12) rfl rfl rfl ?_
    refine j_cIs (pc2 := 15) (k := 2) (c := zt_m259) (as := [.ref (o1 + 10), .int p2]) (rest := []) rfl rfl rfl (Nat.le_of_ble_eq_true rfl) rfl rfl (Nat.le_of_ble_eq_true rfl) (Nat.le_of_ble_eq_true rfl) (fun w1 h1 => ok_Latin_charAt ho1 h1) (by decide) rfl hF (fun v6 s5 hF => ?_)
    exact j_cret rfl rfl hF
noncomputable def f_Tape_isWord_B3 (o1 : Nat) (p2 : Int32) (p3 : Int32) (k5 : ZS → Option (Int32 × ZS)) (a6 : Int32) (s7 : ZS) (g8 : Int32 → ZS → Option (Int32 × ZS)) : Option (Int32 × ZS) := (if p3 ≤ a6 then k5 s7 else zgi (s7.1 1 2) (fun (v9 : Int32) => zrd 400 (v9 + a6) (s7.1 2) (fun (v10 : Int32) => zcl (f_Str_charAt o1 (p2 + a6) s7) (fun (v12 : Int32) (s11 : ZS) => (if v10 = v12 then g8 (a6 + (1 : Int32)) s11 else zbl (0 : Int32) s11)))))
noncomputable def f_Tape_isWord (o1 : Nat) (p2 : Int32) (p3 : Int32) (s0 : ZS) : Option (Int32 × ZS) := zj0 (fun (s4 : ZS) => (if p3 ≤ 0 then zbl (0 : Int32) s4 else zbl (1 : Int32) s4)) (fun (k5 : ZS → Option (Int32 × ZS)) => zlp zN (f_Tape_isWord_B3 o1 p2 p3 k5) (0 : Int32) s0)
set_option maxHeartbeats 4000000 in
set_option maxRecDepth 100000 in
theorem ok_Tape_isWord {L : Nat} {xs : Nat → Int32} {b : ZH} {o1 : Nat} {p2 : Int32} {p3 : Int32} (ho1 : zk_isStr o1) {s0 : ZS} {w : Int32 × ZS} (hF : f_Tape_isWord o1 p2 p3 s0 = some w) : zz_ct zt_ms zt_nm zt_df (zt_X L xs) 4 zt_m95 [.ref 1, .ref o1, .int p2, .int p3] (zk b s0) (qI b w) := by
  unfold f_Tape_isWord at hF
  change zz_wp zt_ms zt_nm zt_df (zt_X L xs) 4 zt_m95 0 [(0, .ref 1), (1, .ref o1), (2, .int p2), (3, .int p3)] [] (zk b s0) (qI b w)
  refine w_iconst (pc2 := 1) rfl rfl ?_
  refine w_istore (pc2 := 3) (ls2 := [(4, .int (0 : Int32)), (0, .ref 1), (1, .ref o1), (2, .int p2), (3, .int p3)]) rfl rfl rfl ?_
  refine j_join0 (P := fun (s4 : ZS) => zz_wp zt_ms zt_nm zt_df (zt_X L xs) 4 zt_m95 40 [(3, .int p3)] [] (zk b s4) (qI b w)) hF (fun s4 hF => ?_) (fun k5 hk5 hF => ?_)
  · refine w_iload_n (pc2 := 41) rfl rfl rfl ?_
    refine j_if_le (pc2 := 44) rfl rfl hF (fun hF => ?_) (fun hF => ?_)
    · refine w_iconst (pc2 := 49) rfl rfl ?_
      exact j_zret rfl rfl hF
    · refine w_iconst (pc2 := 45) rfl rfl ?_
      refine w_goto rfl ?_
      exact j_zret rfl rfl hF
  · refine j_norm (l := [(0, .ref 1), (1, .ref o1), (2, .int p2), (3, .int p3), (4, .int (0 : Int32))]) ⟨rfl, rfl, rfl, rfl, rfl, trivial⟩ (zz_nd_of (ks := [0, 1, 2, 3, 4]) rfl (by decide)) ?_
    refine j_loop (P := fun (a6 : Int32) (s7 : ZS) => zz_wp zt_ms zt_nm zt_df (zt_X L xs) 4 zt_m95 3 [(0, .ref 1), (1, .ref o1), (2, .int p2), (3, .int p3), (4, .int a6)] [] (zk b s7) (qI b w)) hF (fun a6 s7 g8 hg8 hF => ?_)
    unfold f_Tape_isWord_B3 at hF
    refine w_iload (pc2 := 5) rfl rfl rfl ?_
    refine w_iload_n (pc2 := 6) rfl rfl rfl ?_
    refine j_icmp_ge (pc2 := 9) rfl rfl hF (fun hF => ?_) (fun hF => ?_)
    · exact j_norm (l := [(3, .int p3)]) ⟨rfl, trivial⟩ (zz_nd_of (ks := [3]) rfl (by decide)) (hk5 s7 hF)
    · refine w_aload_n (pc2 := 10) rfl rfl rfl ?_
      refine w_getfield (pc2 := 13) rfl zk_cTape rfl rfl rfl ?_
      refine w_aload_n (pc2 := 14) rfl rfl rfl ?_
      refine j_geti (pc2 := 17) rfl zk_cTape rfl rfl rfl hF (fun v9 hF => ?_)
      refine w_iload (pc2 := 19) rfl rfl rfl ?_
      refine w_iadd (pc2 := 20) rfl rfl ?_
      refine j_baload (pc2 := 21) (n := 400) rfl rfl (by omega) (by decide) rfl hF (fun v10 hF => ?_)
      refine w_aload_n (pc2 := 22) rfl rfl rfl ?_
      refine w_iload_n (pc2 := 23) rfl rfl rfl ?_
      refine w_iload (pc2 := 25) rfl rfl rfl ?_
      refine w_iadd (pc2 := 26) rfl rfl ?_
      refine j_cIv (pc2 := 29) (k := 3) (c := zt_m256) (as := [.ref o1, .int (p2 + a6)]) (rest := [.int v10]) rfl rfl rfl rfl (zk_strO ho1) rfl (Nat.le_of_ble_eq_true rfl) (Nat.le_of_ble_eq_true rfl) (fun w1 h1 => ok_Str_charAt ho1 h1) (by decide) rfl hF (fun v12 s11 hF => ?_)
      refine j_icmp_eq (pc2 := 32) rfl rfl hF (fun hF => ?_) (fun hF => ?_)
      · refine w_iinc (pc2 := 37) (ls2 := [(4, .int ((a6 + (1 : Int32)))), (0, .ref 1), (1, .ref o1), (2, .int p2), (3, .int p3)]) rfl rfl rfl rfl ?_
        refine w_goto rfl ?_
        exact j_norm (l := [(0, .ref 1), (1, .ref o1), (2, .int p2), (3, .int p3), (4, .int ((a6 + (1 : Int32))))]) ⟨rfl, rfl, rfl, rfl, rfl, trivial⟩ (zz_nd_of (ks := [0, 1, 2, 3, 4]) rfl (by decide)) (hg8 (a6 + (1 : Int32)) s11 hF)
      · refine w_iconst (pc2 := 33) rfl rfl ?_
        exact j_zret rfl rfl hF
noncomputable def f_Tape_wordAmong_B18 (o1 : Nat) (v5 : Int32) (a6 : Int32 × Int32 × Int32) (s7 : ZS) (g8 : (Int32 × Int32 × Int32) → ZS → Option (Int32 × ZS)) : Option (Int32 × ZS) := zcl (f_Str_length o1 s7) (fun (v10 : Int32) (s9 : ZS) => (if v10 < a6.2.2 then some ((-1 : Int32), s9) else zcl (f_Str_length o1 s9) (fun (v12 : Int32) (s11 : ZS) => zjn (A := Int32 × Int32) (fun (a14 : Int32 × Int32) (s13 : ZS) => g8 (a14.1, a14.2, (a6.2.2 + (1 : Int32))) s13) (fun (k15 : (Int32 × Int32) → ZS → Option (Int32 × ZS)) => zj0 (fun (s16 : ZS) => zj0 (fun (s18 : ZS) => k15 ((a6.1 + (1 : Int32)), (a6.2.2 + (1 : Int32))) s18) (fun (k19 : ZS → Option (Int32 × ZS)) => (if ¬ (a6.2.2 - a6.2.1) = v5 then k19 s16 else zcl (f_Tape_isWord o1 a6.2.1 v5 s16) (fun (v21 : Int32) (s20 : ZS) => (if v21 = 0 then k19 s20 else some (a6.1, s20)))))) (fun (k17 : ZS → Option (Int32 × ZS)) => (if a6.2.2 = v12 then k17 s11 else zcl (f_Str_charAt o1 a6.2.2 s11) (fun (v23 : Int32) (s22 : ZS) => (if ¬ v23 = (32 : Int32) then k15 (a6.1, a6.2.1) s22 else k17 s22))))))))
noncomputable def f_Tape_wordAmong (o1 : Nat) (s0 : ZS) : Option (Int32 × ZS) := zcl (f_Tape_next s0) (fun (v3 : Int32) (s2 : ZS) => zcl (f_Tape_wordSize s2) (fun (v5 : Int32) (s4 : ZS) => zlp zN (f_Tape_wordAmong_B18 o1 v5) ((0 : Int32), (0 : Int32), (0 : Int32)) s4))
set_option maxHeartbeats 4000000 in
set_option maxRecDepth 100000 in
theorem ok_Tape_wordAmong {L : Nat} {xs : Nat → Int32} {b : ZH} {o1 : Nat} (ho1 : zk_isStr o1) {s0 : ZS} {w : Int32 × ZS} (hF : f_Tape_wordAmong o1 s0 = some w) : zz_ct zt_ms zt_nm zt_df (zt_X L xs) 5 zt_m92 [.ref 1, .ref o1] (zk b s0) (qI b w) := by
  unfold f_Tape_wordAmong at hF
  change zz_wp zt_ms zt_nm zt_df (zt_X L xs) 5 zt_m92 0 [(0, .ref 1), (1, .ref o1)] [] (zk b s0) (qI b w)
  refine w_aload_n (pc2 := 1) rfl rfl rfl ?_
  refine j_cIv (pc2 := 4) (k := 0) (c := zt_m93) (as := [.ref 1]) (rest := []) rfl rfl rfl rfl zk_cTape.look rfl (Nat.le_of_ble_eq_true rfl) (Nat.le_of_ble_eq_true rfl) (fun w1 h1 => ok_Tape_next h1) (by decide) rfl hF (fun v3 s2 hF => ?_)
  refine w_pop (pc2 := 5) rfl rfl rfl ?_
  refine w_aload_n (pc2 := 6) rfl rfl rfl ?_
  refine j_cIv (pc2 := 9) (k := 0) (c := zt_m94) (as := [.ref 1]) (rest := []) rfl rfl rfl rfl zk_cTape.look rfl (Nat.le_of_ble_eq_true rfl) (Nat.le_of_ble_eq_true rfl) (fun w1 h1 => ok_Tape_wordSize h1) (by decide) rfl hF (fun v5 s4 hF => ?_)
  refine w_istore_n (pc2 := 10) (ls2 := [(2, .int v5), (0, .ref 1), (1, .ref o1)]) rfl rfl rfl ?_
  refine w_iconst (pc2 := 11) rfl rfl ?_
  refine w_istore_n (pc2 := 12) (ls2 := [(3, .int (0 : Int32)), (2, .int v5), (0, .ref 1), (1, .ref o1)]) rfl rfl rfl ?_
  refine w_iconst (pc2 := 13) rfl rfl ?_
  refine w_istore (pc2 := 15) (ls2 := [(4, .int (0 : Int32)), (3, .int (0 : Int32)), (2, .int v5), (0, .ref 1), (1, .ref o1)]) rfl rfl rfl ?_
  refine w_iconst (pc2 := 16) rfl rfl ?_
  refine w_istore (pc2 := 18) (ls2 := [(5, .int (0 : Int32)), (4, .int (0 : Int32)), (3, .int (0 : Int32)), (2, .int v5), (0, .ref 1), (1, .ref o1)]) rfl rfl rfl ?_
  refine j_norm (l := [(0, .ref 1), (1, .ref o1), (2, .int v5), (3, .int (0 : Int32)), (4, .int (0 : Int32)), (5, .int (0 : Int32))]) ⟨rfl, rfl, rfl, rfl, rfl, rfl, trivial⟩ (zz_nd_of (ks := [0, 1, 2, 3, 4, 5]) rfl (by decide)) ?_
  refine j_loop (P := fun (a6 : Int32 × Int32 × Int32) (s7 : ZS) => zz_wp zt_ms zt_nm zt_df (zt_X L xs) 5 zt_m92 18 [(0, .ref 1), (1, .ref o1), (2, .int v5), (3, .int a6.1), (4, .int a6.2.1), (5, .int a6.2.2)] [] (zk b s7) (qI b w)) hF (fun a6 s7 g8 hg8 hF => ?_)
  unfold f_Tape_wordAmong_B18 at hF
  refine w_iload (pc2 := 20) rfl rfl rfl ?_
  refine w_aload_n (pc2 := 21) rfl rfl rfl ?_
  refine j_cIv (pc2 := 24) (k := 1) (c := zt_m254) (as := [.ref o1]) (rest := [.int a6.2.2]) rfl rfl rfl rfl (zk_strO ho1) rfl (Nat.le_of_ble_eq_true rfl) (Nat.le_of_ble_eq_true rfl) (fun w1 h1 => ok_Str_length ho1 h1) (by decide) rfl hF (fun v10 s9 hF => ?_)
  refine j_icmp_gt (pc2 := 27) rfl rfl hF (fun hF => ?_) (fun hF => ?_)
  · refine w_iconst (pc2 := 85) rfl rfl ?_
    exact j_iret rfl rfl hF
  · refine w_iload (pc2 := 29) rfl rfl rfl ?_
    refine w_aload_n (pc2 := 30) rfl rfl rfl ?_
    refine j_cIv (pc2 := 33) (k := 1) (c := zt_m254) (as := [.ref o1]) (rest := [.int a6.2.2]) rfl rfl rfl rfl (zk_strO ho1) rfl (Nat.le_of_ble_eq_true rfl) (Nat.le_of_ble_eq_true rfl) (fun w1 h1 => ok_Str_length ho1 h1) (by decide) rfl hF (fun v12 s11 hF => ?_)
    refine j_join (P := fun (a14 : Int32 × Int32) (s13 : ZS) => zz_wp zt_ms zt_nm zt_df (zt_X L xs) 5 zt_m92 78 [(0, .ref 1), (1, .ref o1), (2, .int v5), (3, .int a14.1), (4, .int a14.2), (5, .int a6.2.2)] [] (zk b s13) (qI b w)) hF (fun a14 s13 hF => ?_) (fun k15 hk15 hF => ?_)
    · refine w_iinc (pc2 := 81) (ls2 := [(5, .int ((a6.2.2 + (1 : Int32)))), (0, .ref 1), (1, .ref o1), (2, .int v5), (3, .int a14.1), (4, .int a14.2)]) rfl rfl rfl rfl ?_
      refine w_goto rfl ?_
      exact j_norm (l := [(0, .ref 1), (1, .ref o1), (2, .int v5), (3, .int a14.1), (4, .int a14.2), (5, .int ((a6.2.2 + (1 : Int32))))]) ⟨rfl, rfl, rfl, rfl, rfl, rfl, trivial⟩ (zz_nd_of (ks := [0, 1, 2, 3, 4, 5]) rfl (by decide)) (hg8 (a14.1, a14.2, (a6.2.2 + (1 : Int32))) s13 hF)
    · refine j_join0 (P := fun (s16 : ZS) => zz_wp zt_ms zt_nm zt_df (zt_X L xs) 5 zt_m92 47 [(0, .ref 1), (1, .ref o1), (2, .int v5), (3, .int a6.1), (4, .int a6.2.1), (5, .int a6.2.2)] [] (zk b s16) (qI b w)) hF (fun s16 hF => ?_) (fun k17 hk17 hF => ?_)
      · refine w_iload (pc2 := 49) rfl rfl rfl ?_
        refine w_iload (pc2 := 51) rfl rfl rfl ?_
        refine w_isub (pc2 := 52) rfl rfl ?_
        refine w_iload_n (pc2 := 53) rfl rfl rfl ?_
        refine j_join0 (P := fun (s18 : ZS) => zz_wp zt_ms zt_nm zt_df (zt_X L xs) 5 zt_m92 69 [(0, .ref 1), (1, .ref o1), (2, .int v5), (3, .int a6.1), (5, .int a6.2.2)] [] (zk b s18) (qI b w)) hF (fun s18 hF => ?_) (fun k19 hk19 hF => ?_)
        · refine w_iinc (pc2 := 72) (ls2 := [(3, .int ((a6.1 + (1 : Int32)))), (0, .ref 1), (1, .ref o1), (2, .int v5), (5, .int a6.2.2)]) rfl rfl rfl rfl ?_
          refine w_iload (pc2 := 74) rfl rfl rfl ?_
          refine w_iconst (pc2 := 75) rfl rfl ?_
          refine w_iadd (pc2 := 76) rfl rfl ?_
          refine w_istore (pc2 := 78) (ls2 := [(4, .int ((a6.2.2 + (1 : Int32)))), (3, .int ((a6.1 + (1 : Int32)))), (0, .ref 1), (1, .ref o1), (2, .int v5), (5, .int a6.2.2)]) rfl rfl rfl ?_
          exact j_norm (l := [(0, .ref 1), (1, .ref o1), (2, .int v5), (3, .int ((a6.1 + (1 : Int32)))), (4, .int ((a6.2.2 + (1 : Int32)))), (5, .int a6.2.2)]) ⟨rfl, rfl, rfl, rfl, rfl, rfl, trivial⟩ (zz_nd_of (ks := [0, 1, 2, 3, 4, 5]) rfl (by decide)) (hk15 ((a6.1 + (1 : Int32)), (a6.2.2 + (1 : Int32))) s18 hF)
        · refine j_icmp_ne (pc2 := 56) rfl rfl hF (fun hF => ?_) (fun hF => ?_)
          · exact j_norm (l := [(0, .ref 1), (1, .ref o1), (2, .int v5), (3, .int a6.1), (5, .int a6.2.2)]) ⟨rfl, rfl, rfl, rfl, rfl, trivial⟩ (zz_nd_of (ks := [0, 1, 2, 3, 5]) rfl (by decide)) (hk19 s16 hF)
          · refine w_aload_n (pc2 := 57) rfl rfl rfl ?_
            refine w_aload_n (pc2 := 58) rfl rfl rfl ?_
            refine w_iload (pc2 := 60) rfl rfl rfl ?_
            refine w_iload_n (pc2 := 61) rfl rfl rfl ?_
            refine j_cIv (pc2 := 64) (k := 4) (c := zt_m95) (as := [.ref 1, .ref o1, .int a6.2.1, .int v5]) (rest := []) rfl rfl rfl rfl zk_cTape.look rfl (Nat.le_of_ble_eq_true rfl) (Nat.le_of_ble_eq_true rfl) (fun w1 h1 => ok_Tape_isWord ho1 h1) (by decide) rfl hF (fun v21 s20 hF => ?_)
            refine j_if_eq (pc2 := 67) rfl rfl hF (fun hF => ?_) (fun hF => ?_)
            · exact j_norm (l := [(0, .ref 1), (1, .ref o1), (2, .int v5), (3, .int a6.1), (5, .int a6.2.2)]) ⟨rfl, rfl, rfl, rfl, rfl, trivial⟩ (zz_nd_of (ks := [0, 1, 2, 3, 5]) rfl (by decide)) (hk19 s20 hF)
            · refine w_iload_n (pc2 := 68) rfl rfl rfl ?_
              exact j_iret rfl rfl hF
      · refine j_icmp_eq (pc2 := 36) rfl rfl hF (fun hF => ?_) (fun hF => ?_)
        · exact j_norm (l := [(0, .ref 1), (1, .ref o1), (2, .int v5), (3, .int a6.1), (4, .int a6.2.1), (5, .int a6.2.2)]) ⟨rfl, rfl, rfl, rfl, rfl, rfl, trivial⟩ (zz_nd_of (ks := [0, 1, 2, 3, 4, 5]) rfl (by decide)) (hk17 s11 hF)
        · refine w_aload_n (pc2 := 37) rfl rfl rfl ?_
          refine w_iload (pc2 := 39) rfl rfl rfl ?_
          refine j_cIv (pc2 := 42) (k := 3) (c := zt_m256) (as := [.ref o1, .int a6.2.2]) (rest := []) rfl rfl rfl rfl (zk_strO ho1) rfl (Nat.le_of_ble_eq_true rfl) (Nat.le_of_ble_eq_true rfl) (fun w1 h1 => ok_Str_charAt ho1 h1) (by decide) rfl hF (fun v23 s22 hF => ?_)
          refine w_bipush (pc2 := 44) rfl rfl ?_
          refine j_icmp_ne (pc2 := 47) rfl rfl hF (fun hF => ?_) (fun hF => ?_)
          · exact j_norm (l := [(0, .ref 1), (1, .ref o1), (2, .int v5), (3, .int a6.1), (4, .int a6.2.1), (5, .int a6.2.2)]) ⟨rfl, rfl, rfl, rfl, rfl, rfl, trivial⟩ (zz_nd_of (ks := [0, 1, 2, 3, 4, 5]) rfl (by decide)) (hk15 (a6.1, a6.2.1) s22 hF)
          · exact j_norm (l := [(0, .ref 1), (1, .ref o1), (2, .int v5), (3, .int a6.1), (4, .int a6.2.1), (5, .int a6.2.2)]) ⟨rfl, rfl, rfl, rfl, rfl, rfl, trivial⟩ (zz_nd_of (ks := [0, 1, 2, 3, 4, 5]) rfl (by decide)) (hk17 s22 hF)
noncomputable def f_Tape_refuse (p1 : Int32) (p2 : Int32) (s0 : ZS) : Option (ZS) := zgi (s0.1 1 3) (fun (v3 : Int32) => (if ¬ v3 = 0 then some s0 else zwi s0 1 3 ((((1 : Int32) + ((8 : Int32) * p1)) + p2)) (fun (s4 : ZS) => some s4)))
set_option maxHeartbeats 4000000 in
set_option maxRecDepth 100000 in
theorem ok_Tape_refuse {L : Nat} {xs : Nat → Int32} {b : ZH} {p1 : Int32} {p2 : Int32} {s0 : ZS} {w : ZS} (hF : f_Tape_refuse p1 p2 s0 = some w) : zz_ct zt_ms zt_nm zt_df (zt_X L xs) 0 zt_m96 [.ref 1, .int p1, .int p2] (zk b s0) (qV b w) := by
  unfold f_Tape_refuse at hF
  change zz_wp zt_ms zt_nm zt_df (zt_X L xs) 0 zt_m96 0 [(0, .ref 1), (1, .int p1), (2, .int p2)] [] (zk b s0) (qV b w)
  refine w_aload_n (pc2 := 1) rfl rfl rfl ?_
  refine j_geti (pc2 := 4) rfl zk_cTape rfl rfl rfl hF (fun v3 hF => ?_)
  refine j_if_ne (pc2 := 7) rfl rfl hF (fun hF => ?_) (fun hF => ?_)
  · exact j_vret rfl rfl hF
  · refine w_aload_n (pc2 := 8) rfl rfl rfl ?_
    refine w_iconst (pc2 := 9) rfl rfl ?_
    refine w_bipush (pc2 := 11) rfl rfl ?_
    refine w_iload_n (pc2 := 12) rfl rfl rfl ?_
    refine w_imul (pc2 := 13) rfl rfl ?_
    refine w_iadd (pc2 := 14) rfl rfl ?_
    refine w_iload_n (pc2 := 15) rfl rfl rfl ?_
    refine w_iadd (pc2 := 16) rfl rfl ?_
    refine j_puti (pc2 := 19) (j := 3) rfl zk_cTape rfl (Nat.le_of_ble_eq_true rfl) rfl zk_wTape_3 (by decide) rfl hF (fun s4 hF => ?_)
    exact j_vret rfl rfl hF
