/-- a step of the law: the class's method answers v, then the reference's answers v; Inv is kept -/
def zl_step (x : Nat → ZE) (Inv : ZH → Prop) (mR mM : ZM) (n : Nat) : Prop := ∀ (h : ZH) (as : List Value), Inv h → as.length = n → (∀ v ∈ as, ∃ z, v = .int z) → zz_ct zt_ms zt_nm zt_df x 19 mR (.ref 0 :: as) h (fun r h1 => ∃ v, r = some (.int v) ∧ (∃ fs, zz_c h1 216 (.inr (11, fs))) ∧ zz_ct zt_ms zt_nm zt_df x 19 mM (.ref 216 :: as) h1 (fun r2 h2 => r2 = some (.int v) ∧ Inv h2))
set_option maxHeartbeats 4000000 in
set_option maxRecDepth 100000 in
theorem zl_case0 {L i : Nat} {xs : Nat → Int32} {Inv : ZH → Prop} {Q : Option Value → ZH → Prop} {h : ZH} (hL : L ≤ 3072) (hi : i + 6 ≤ L) (inv : Inv h) (hR : ∃ fs, zz_c h 0 (.inr (10, fs))) (hs : zl_step (zt_X L xs) Inv zt_m108 zt_m143 5) (kk : ∀ h2, Inv h2 → zz_wp zt_ms zt_nm zt_df (zt_X L xs) 20 zt_law 1179 [(3, .int (nI i)), (2, .ref 216), (1, .ref 0), (0, .ref 1000000)] [] h2 Q) : zz_wp zt_ms zt_nm zt_df (zt_X L xs) 20 zt_law 180 [(3, .int (nI i)), (2, .ref 216), (1, .ref 0), (0, .ref 1000000)] [] h Q := by
  obtain ⟨fs1, cR⟩ := hR
  refine w_aload_n (pc2 := 181) rfl rfl rfl ?_
  refine w_aload_n (pc2 := 182) rfl rfl rfl ?_
  refine w_iload_n (pc2 := 183) rfl rfl rfl ?_
  refine w_iconst (pc2 := 184) rfl rfl ?_
  refine w_iadd (pc2 := 185) rfl rfl ?_
  refine w_ialoadRK (pc2 := 186) (j := (i + 1)) rfl rfl (nI_addE (m := i) (n := 1) (rfl : nI i = nI i) (show (1 : Int32) = nI 1 from rfl)) (by omega) (by omega) rfl ?_
  refine w_aload_n (pc2 := 187) rfl rfl rfl ?_
  refine w_iload_n (pc2 := 188) rfl rfl rfl ?_
  refine w_iconst (pc2 := 189) rfl rfl ?_
  refine w_iadd (pc2 := 190) rfl rfl ?_
  refine w_ialoadRK (pc2 := 191) (j := (i + 2)) rfl rfl (nI_addE (m := i) (n := 2) (rfl : nI i = nI i) (show (2 : Int32) = nI 2 from rfl)) (by omega) (by omega) rfl ?_
  refine w_aload_n (pc2 := 192) rfl rfl rfl ?_
  refine w_iload_n (pc2 := 193) rfl rfl rfl ?_
  refine w_iconst (pc2 := 194) rfl rfl ?_
  refine w_iadd (pc2 := 195) rfl rfl ?_
  refine w_ialoadRK (pc2 := 196) (j := (i + 3)) rfl rfl (nI_addE (m := i) (n := 3) (rfl : nI i = nI i) (show (3 : Int32) = nI 3 from rfl)) (by omega) (by omega) rfl ?_
  refine w_aload_n (pc2 := 197) rfl rfl rfl ?_
  refine w_iload_n (pc2 := 198) rfl rfl rfl ?_
  refine w_iconst (pc2 := 199) rfl rfl ?_
  refine w_iadd (pc2 := 200) rfl rfl ?_
  refine w_ialoadRK (pc2 := 201) (j := (i + 4)) rfl rfl (nI_addE (m := i) (n := 4) (rfl : nI i = nI i) (show (4 : Int32) = nI 4 from rfl)) (by omega) (by omega) rfl ?_
  refine w_aload_n (pc2 := 202) rfl rfl rfl ?_
  refine w_iload_n (pc2 := 203) rfl rfl rfl ?_
  refine w_iconst (pc2 := 204) rfl rfl ?_
  refine w_iadd (pc2 := 205) rfl rfl ?_
  refine w_ialoadRK (pc2 := 206) (j := (i + 5)) rfl rfl (nI_addE (m := i) (n := 5) (rfl : nI i = nI i) (show (5 : Int32) = nI 5 from rfl)) (by omega) (by omega) rfl ?_
  refine w_callv (k := 19) (pc2 := 209) (c := zt_m108) (as := [.ref 0, .int (xs ((i + 1))), .int (xs ((i + 2))), .int (xs ((i + 3))), .int (xs ((i + 4))), .int (xs ((i + 5)))]) (rest := []) rfl rfl rfl rfl cR.look rfl (Nat.le_of_ble_eq_true rfl) (Nat.le_of_ble_eq_true rfl) (hs h [.int (xs ((i + 1))), .int (xs ((i + 2))), .int (xs ((i + 3))), .int (xs ((i + 4))), .int (xs ((i + 5)))] inv rfl (by simp)) (by decide) rfl (fun r h1 q => ?_)
  obtain ⟨vv, rfl, ⟨fs2, cM⟩, q2⟩ := q
  change zz_wp zt_ms zt_nm zt_df (zt_X L xs) 20 zt_law 209 [(3, .int (nI i)), (2, .ref 216), (1, .ref 0), (0, .ref 1000000)] [.int vv] h1 _
  refine w_aload_n (pc2 := 210) rfl rfl rfl ?_
  refine w_aload_n (pc2 := 211) rfl rfl rfl ?_
  refine w_iload_n (pc2 := 212) rfl rfl rfl ?_
  refine w_iconst (pc2 := 213) rfl rfl ?_
  refine w_iadd (pc2 := 214) rfl rfl ?_
  refine w_ialoadRK (pc2 := 215) (j := (i + 1)) rfl rfl (nI_addE (m := i) (n := 1) (rfl : nI i = nI i) (show (1 : Int32) = nI 1 from rfl)) (by omega) (by omega) rfl ?_
  refine w_aload_n (pc2 := 216) rfl rfl rfl ?_
  refine w_iload_n (pc2 := 217) rfl rfl rfl ?_
  refine w_iconst (pc2 := 218) rfl rfl ?_
  refine w_iadd (pc2 := 219) rfl rfl ?_
  refine w_ialoadRK (pc2 := 220) (j := (i + 2)) rfl rfl (nI_addE (m := i) (n := 2) (rfl : nI i = nI i) (show (2 : Int32) = nI 2 from rfl)) (by omega) (by omega) rfl ?_
  refine w_aload_n (pc2 := 221) rfl rfl rfl ?_
  refine w_iload_n (pc2 := 222) rfl rfl rfl ?_
  refine w_iconst (pc2 := 223) rfl rfl ?_
  refine w_iadd (pc2 := 224) rfl rfl ?_
  refine w_ialoadRK (pc2 := 225) (j := (i + 3)) rfl rfl (nI_addE (m := i) (n := 3) (rfl : nI i = nI i) (show (3 : Int32) = nI 3 from rfl)) (by omega) (by omega) rfl ?_
  refine w_aload_n (pc2 := 226) rfl rfl rfl ?_
  refine w_iload_n (pc2 := 227) rfl rfl rfl ?_
  refine w_iconst (pc2 := 228) rfl rfl ?_
  refine w_iadd (pc2 := 229) rfl rfl ?_
  refine w_ialoadRK (pc2 := 230) (j := (i + 4)) rfl rfl (nI_addE (m := i) (n := 4) (rfl : nI i = nI i) (show (4 : Int32) = nI 4 from rfl)) (by omega) (by omega) rfl ?_
  refine w_aload_n (pc2 := 231) rfl rfl rfl ?_
  refine w_iload_n (pc2 := 232) rfl rfl rfl ?_
  refine w_iconst (pc2 := 233) rfl rfl ?_
  refine w_iadd (pc2 := 234) rfl rfl ?_
  refine w_ialoadRK (pc2 := 235) (j := (i + 5)) rfl rfl (nI_addE (m := i) (n := 5) (rfl : nI i = nI i) (show (5 : Int32) = nI 5 from rfl)) (by omega) (by omega) rfl ?_
  refine w_callv (k := 19) (pc2 := 238) (c := zt_m143) (as := [.ref 216, .int (xs ((i + 1))), .int (xs ((i + 2))), .int (xs ((i + 3))), .int (xs ((i + 4))), .int (xs ((i + 5)))]) (rest := [.int vv]) rfl rfl rfl rfl cM.look rfl (Nat.le_of_ble_eq_true rfl) (Nat.le_of_ble_eq_true rfl) q2 (by decide) rfl (fun r h2 q => ?_)
  obtain ⟨rfl, inv2⟩ := q
  change zz_wp zt_ms zt_nm zt_df (zt_X L xs) 20 zt_law 238 [(3, .int (nI i)), (2, .ref 216), (1, .ref 0), (0, .ref 1000000)] [.int vv, .int vv] h2 _
  refine w_icmp_eq (pc2 := 241) rfl rfl (fun k238 => ?_) (fun k238 => ?_)
  · exact kk h2 inv2
  · refine w_iconst (pc2 := 242) rfl rfl ?_
    exact absurd rfl k238
set_option maxHeartbeats 4000000 in
set_option maxRecDepth 100000 in
theorem zl_case1 {L i : Nat} {xs : Nat → Int32} {Inv : ZH → Prop} {Q : Option Value → ZH → Prop} {h : ZH} (hL : L ≤ 3072) (hi : i + 6 ≤ L) (inv : Inv h) (hR : ∃ fs, zz_c h 0 (.inr (10, fs))) (hs : zl_step (zt_X L xs) Inv zt_m109 zt_m145 1) (kk : ∀ h2, Inv h2 → zz_wp zt_ms zt_nm zt_df (zt_X L xs) 20 zt_law 1179 [(3, .int (nI i)), (2, .ref 216), (1, .ref 0), (0, .ref 1000000)] [] h2 Q) : zz_wp zt_ms zt_nm zt_df (zt_X L xs) 20 zt_law 243 [(3, .int (nI i)), (2, .ref 216), (1, .ref 0), (0, .ref 1000000)] [] h Q := by
  obtain ⟨fs1, cR⟩ := hR
  refine w_aload_n (pc2 := 244) rfl rfl rfl ?_
  refine w_aload_n (pc2 := 245) rfl rfl rfl ?_
  refine w_iload_n (pc2 := 246) rfl rfl rfl ?_
  refine w_iconst (pc2 := 247) rfl rfl ?_
  refine w_iadd (pc2 := 248) rfl rfl ?_
  refine w_ialoadRK (pc2 := 249) (j := (i + 1)) rfl rfl (nI_addE (m := i) (n := 1) (rfl : nI i = nI i) (show (1 : Int32) = nI 1 from rfl)) (by omega) (by omega) rfl ?_
  refine w_callv (k := 19) (pc2 := 252) (c := zt_m109) (as := [.ref 0, .int (xs ((i + 1)))]) (rest := []) rfl rfl rfl rfl cR.look rfl (Nat.le_of_ble_eq_true rfl) (Nat.le_of_ble_eq_true rfl) (hs h [.int (xs ((i + 1)))] inv rfl (by simp)) (by decide) rfl (fun r h1 q => ?_)
  obtain ⟨vv, rfl, ⟨fs2, cM⟩, q2⟩ := q
  change zz_wp zt_ms zt_nm zt_df (zt_X L xs) 20 zt_law 252 [(3, .int (nI i)), (2, .ref 216), (1, .ref 0), (0, .ref 1000000)] [.int vv] h1 _
  refine w_aload_n (pc2 := 253) rfl rfl rfl ?_
  refine w_aload_n (pc2 := 254) rfl rfl rfl ?_
  refine w_iload_n (pc2 := 255) rfl rfl rfl ?_
  refine w_iconst (pc2 := 256) rfl rfl ?_
  refine w_iadd (pc2 := 257) rfl rfl ?_
  refine w_ialoadRK (pc2 := 258) (j := (i + 1)) rfl rfl (nI_addE (m := i) (n := 1) (rfl : nI i = nI i) (show (1 : Int32) = nI 1 from rfl)) (by omega) (by omega) rfl ?_
  refine w_callv (k := 19) (pc2 := 261) (c := zt_m145) (as := [.ref 216, .int (xs ((i + 1)))]) (rest := [.int vv]) rfl rfl rfl rfl cM.look rfl (Nat.le_of_ble_eq_true rfl) (Nat.le_of_ble_eq_true rfl) q2 (by decide) rfl (fun r h2 q => ?_)
  obtain ⟨rfl, inv2⟩ := q
  change zz_wp zt_ms zt_nm zt_df (zt_X L xs) 20 zt_law 261 [(3, .int (nI i)), (2, .ref 216), (1, .ref 0), (0, .ref 1000000)] [.int vv, .int vv] h2 _
  refine w_icmp_eq (pc2 := 264) rfl rfl (fun k261 => ?_) (fun k261 => ?_)
  · exact kk h2 inv2
  · refine w_iconst (pc2 := 265) rfl rfl ?_
    exact absurd rfl k261
set_option maxHeartbeats 4000000 in
set_option maxRecDepth 100000 in
theorem zl_case2 {L i : Nat} {xs : Nat → Int32} {Inv : ZH → Prop} {Q : Option Value → ZH → Prop} {h : ZH} (hL : L ≤ 3072) (hi : i + 6 ≤ L) (inv : Inv h) (hR : ∃ fs, zz_c h 0 (.inr (10, fs))) (hs : zl_step (zt_X L xs) Inv zt_m110 zt_m181 0) (kk : ∀ h2, Inv h2 → zz_wp zt_ms zt_nm zt_df (zt_X L xs) 20 zt_law 1179 [(3, .int (nI i)), (2, .ref 216), (1, .ref 0), (0, .ref 1000000)] [] h2 Q) : zz_wp zt_ms zt_nm zt_df (zt_X L xs) 20 zt_law 266 [(3, .int (nI i)), (2, .ref 216), (1, .ref 0), (0, .ref 1000000)] [] h Q := by
  obtain ⟨fs1, cR⟩ := hR
  refine w_aload_n (pc2 := 267) rfl rfl rfl ?_
  refine w_callv (k := 19) (pc2 := 270) (c := zt_m110) (as := [.ref 0]) (rest := []) rfl rfl rfl rfl cR.look rfl (Nat.le_of_ble_eq_true rfl) (Nat.le_of_ble_eq_true rfl) (hs h [] inv rfl (by simp)) (by decide) rfl (fun r h1 q => ?_)
  obtain ⟨vv, rfl, ⟨fs2, cM⟩, q2⟩ := q
  change zz_wp zt_ms zt_nm zt_df (zt_X L xs) 20 zt_law 270 [(3, .int (nI i)), (2, .ref 216), (1, .ref 0), (0, .ref 1000000)] [.int vv] h1 _
  refine w_aload_n (pc2 := 271) rfl rfl rfl ?_
  refine w_callv (k := 19) (pc2 := 274) (c := zt_m181) (as := [.ref 216]) (rest := [.int vv]) rfl rfl rfl rfl cM.look rfl (Nat.le_of_ble_eq_true rfl) (Nat.le_of_ble_eq_true rfl) q2 (by decide) rfl (fun r h2 q => ?_)
  obtain ⟨rfl, inv2⟩ := q
  change zz_wp zt_ms zt_nm zt_df (zt_X L xs) 20 zt_law 274 [(3, .int (nI i)), (2, .ref 216), (1, .ref 0), (0, .ref 1000000)] [.int vv, .int vv] h2 _
  refine w_icmp_eq (pc2 := 277) rfl rfl (fun k274 => ?_) (fun k274 => ?_)
  · exact kk h2 inv2
  · refine w_iconst (pc2 := 278) rfl rfl ?_
    exact absurd rfl k274
set_option maxHeartbeats 4000000 in
set_option maxRecDepth 100000 in
theorem zl_case3 {L i : Nat} {xs : Nat → Int32} {Inv : ZH → Prop} {Q : Option Value → ZH → Prop} {h : ZH} (hL : L ≤ 3072) (hi : i + 6 ≤ L) (inv : Inv h) (hR : ∃ fs, zz_c h 0 (.inr (10, fs))) (hs : zl_step (zt_X L xs) Inv zt_m111 zt_m146 0) (kk : ∀ h2, Inv h2 → zz_wp zt_ms zt_nm zt_df (zt_X L xs) 20 zt_law 1179 [(3, .int (nI i)), (2, .ref 216), (1, .ref 0), (0, .ref 1000000)] [] h2 Q) : zz_wp zt_ms zt_nm zt_df (zt_X L xs) 20 zt_law 279 [(3, .int (nI i)), (2, .ref 216), (1, .ref 0), (0, .ref 1000000)] [] h Q := by
  obtain ⟨fs1, cR⟩ := hR
  refine w_aload_n (pc2 := 280) rfl rfl rfl ?_
  refine w_callv (k := 19) (pc2 := 283) (c := zt_m111) (as := [.ref 0]) (rest := []) rfl rfl rfl rfl cR.look rfl (Nat.le_of_ble_eq_true rfl) (Nat.le_of_ble_eq_true rfl) (hs h [] inv rfl (by simp)) (by decide) rfl (fun r h1 q => ?_)
  obtain ⟨vv, rfl, ⟨fs2, cM⟩, q2⟩ := q
  change zz_wp zt_ms zt_nm zt_df (zt_X L xs) 20 zt_law 283 [(3, .int (nI i)), (2, .ref 216), (1, .ref 0), (0, .ref 1000000)] [.int vv] h1 _
  refine w_aload_n (pc2 := 284) rfl rfl rfl ?_
  refine w_callv (k := 19) (pc2 := 287) (c := zt_m146) (as := [.ref 216]) (rest := [.int vv]) rfl rfl rfl rfl cM.look rfl (Nat.le_of_ble_eq_true rfl) (Nat.le_of_ble_eq_true rfl) q2 (by decide) rfl (fun r h2 q => ?_)
  obtain ⟨rfl, inv2⟩ := q
  change zz_wp zt_ms zt_nm zt_df (zt_X L xs) 20 zt_law 287 [(3, .int (nI i)), (2, .ref 216), (1, .ref 0), (0, .ref 1000000)] [.int vv, .int vv] h2 _
  refine w_icmp_eq (pc2 := 290) rfl rfl (fun k287 => ?_) (fun k287 => ?_)
  · exact kk h2 inv2
  · refine w_iconst (pc2 := 291) rfl rfl ?_
    exact absurd rfl k287
set_option maxHeartbeats 4000000 in
set_option maxRecDepth 100000 in
theorem zl_case4 {L i : Nat} {xs : Nat → Int32} {Inv : ZH → Prop} {Q : Option Value → ZH → Prop} {h : ZH} (hL : L ≤ 3072) (hi : i + 6 ≤ L) (inv : Inv h) (hR : ∃ fs, zz_c h 0 (.inr (10, fs))) (hs : zl_step (zt_X L xs) Inv zt_m112 zt_m183 1) (kk : ∀ h2, Inv h2 → zz_wp zt_ms zt_nm zt_df (zt_X L xs) 20 zt_law 1179 [(3, .int (nI i)), (2, .ref 216), (1, .ref 0), (0, .ref 1000000)] [] h2 Q) : zz_wp zt_ms zt_nm zt_df (zt_X L xs) 20 zt_law 292 [(3, .int (nI i)), (2, .ref 216), (1, .ref 0), (0, .ref 1000000)] [] h Q := by
  obtain ⟨fs1, cR⟩ := hR
  refine w_aload_n (pc2 := 293) rfl rfl rfl ?_
  refine w_aload_n (pc2 := 294) rfl rfl rfl ?_
  refine w_iload_n (pc2 := 295) rfl rfl rfl ?_
  refine w_iconst (pc2 := 296) rfl rfl ?_
  refine w_iadd (pc2 := 297) rfl rfl ?_
  refine w_ialoadRK (pc2 := 298) (j := (i + 1)) rfl rfl (nI_addE (m := i) (n := 1) (rfl : nI i = nI i) (show (1 : Int32) = nI 1 from rfl)) (by omega) (by omega) rfl ?_
  refine w_callv (k := 19) (pc2 := 301) (c := zt_m112) (as := [.ref 0, .int (xs ((i + 1)))]) (rest := []) rfl rfl rfl rfl cR.look rfl (Nat.le_of_ble_eq_true rfl) (Nat.le_of_ble_eq_true rfl) (hs h [.int (xs ((i + 1)))] inv rfl (by simp)) (by decide) rfl (fun r h1 q => ?_)
  obtain ⟨vv, rfl, ⟨fs2, cM⟩, q2⟩ := q
  change zz_wp zt_ms zt_nm zt_df (zt_X L xs) 20 zt_law 301 [(3, .int (nI i)), (2, .ref 216), (1, .ref 0), (0, .ref 1000000)] [.int vv] h1 _
  refine w_aload_n (pc2 := 302) rfl rfl rfl ?_
  refine w_aload_n (pc2 := 303) rfl rfl rfl ?_
  refine w_iload_n (pc2 := 304) rfl rfl rfl ?_
  refine w_iconst (pc2 := 305) rfl rfl ?_
  refine w_iadd (pc2 := 306) rfl rfl ?_
  refine w_ialoadRK (pc2 := 307) (j := (i + 1)) rfl rfl (nI_addE (m := i) (n := 1) (rfl : nI i = nI i) (show (1 : Int32) = nI 1 from rfl)) (by omega) (by omega) rfl ?_
  refine w_callv (k := 19) (pc2 := 310) (c := zt_m183) (as := [.ref 216, .int (xs ((i + 1)))]) (rest := [.int vv]) rfl rfl rfl rfl cM.look rfl (Nat.le_of_ble_eq_true rfl) (Nat.le_of_ble_eq_true rfl) q2 (by decide) rfl (fun r h2 q => ?_)
  obtain ⟨rfl, inv2⟩ := q
  change zz_wp zt_ms zt_nm zt_df (zt_X L xs) 20 zt_law 310 [(3, .int (nI i)), (2, .ref 216), (1, .ref 0), (0, .ref 1000000)] [.int vv, .int vv] h2 _
  refine w_icmp_eq (pc2 := 313) rfl rfl (fun k310 => ?_) (fun k310 => ?_)
  · exact kk h2 inv2
  · refine w_iconst (pc2 := 314) rfl rfl ?_
    exact absurd rfl k310
set_option maxHeartbeats 4000000 in
set_option maxRecDepth 100000 in
theorem zl_case5 {L i : Nat} {xs : Nat → Int32} {Inv : ZH → Prop} {Q : Option Value → ZH → Prop} {h : ZH} (hL : L ≤ 3072) (hi : i + 6 ≤ L) (inv : Inv h) (hR : ∃ fs, zz_c h 0 (.inr (10, fs))) (hs : zl_step (zt_X L xs) Inv zt_m113 zt_m185 2) (kk : ∀ h2, Inv h2 → zz_wp zt_ms zt_nm zt_df (zt_X L xs) 20 zt_law 1179 [(3, .int (nI i)), (2, .ref 216), (1, .ref 0), (0, .ref 1000000)] [] h2 Q) : zz_wp zt_ms zt_nm zt_df (zt_X L xs) 20 zt_law 315 [(3, .int (nI i)), (2, .ref 216), (1, .ref 0), (0, .ref 1000000)] [] h Q := by
  obtain ⟨fs1, cR⟩ := hR
  refine w_aload_n (pc2 := 316) rfl rfl rfl ?_
  refine w_aload_n (pc2 := 317) rfl rfl rfl ?_
  refine w_iload_n (pc2 := 318) rfl rfl rfl ?_
  refine w_iconst (pc2 := 319) rfl rfl ?_
  refine w_iadd (pc2 := 320) rfl rfl ?_
  refine w_ialoadRK (pc2 := 321) (j := (i + 1)) rfl rfl (nI_addE (m := i) (n := 1) (rfl : nI i = nI i) (show (1 : Int32) = nI 1 from rfl)) (by omega) (by omega) rfl ?_
  refine w_aload_n (pc2 := 322) rfl rfl rfl ?_
  refine w_iload_n (pc2 := 323) rfl rfl rfl ?_
  refine w_iconst (pc2 := 324) rfl rfl ?_
  refine w_iadd (pc2 := 325) rfl rfl ?_
  refine w_ialoadRK (pc2 := 326) (j := (i + 2)) rfl rfl (nI_addE (m := i) (n := 2) (rfl : nI i = nI i) (show (2 : Int32) = nI 2 from rfl)) (by omega) (by omega) rfl ?_
  refine w_callv (k := 19) (pc2 := 329) (c := zt_m113) (as := [.ref 0, .int (xs ((i + 1))), .int (xs ((i + 2)))]) (rest := []) rfl rfl rfl rfl cR.look rfl (Nat.le_of_ble_eq_true rfl) (Nat.le_of_ble_eq_true rfl) (hs h [.int (xs ((i + 1))), .int (xs ((i + 2)))] inv rfl (by simp)) (by decide) rfl (fun r h1 q => ?_)
  obtain ⟨vv, rfl, ⟨fs2, cM⟩, q2⟩ := q
  change zz_wp zt_ms zt_nm zt_df (zt_X L xs) 20 zt_law 329 [(3, .int (nI i)), (2, .ref 216), (1, .ref 0), (0, .ref 1000000)] [.int vv] h1 _
  refine w_aload_n (pc2 := 330) rfl rfl rfl ?_
  refine w_aload_n (pc2 := 331) rfl rfl rfl ?_
  refine w_iload_n (pc2 := 332) rfl rfl rfl ?_
  refine w_iconst (pc2 := 333) rfl rfl ?_
  refine w_iadd (pc2 := 334) rfl rfl ?_
  refine w_ialoadRK (pc2 := 335) (j := (i + 1)) rfl rfl (nI_addE (m := i) (n := 1) (rfl : nI i = nI i) (show (1 : Int32) = nI 1 from rfl)) (by omega) (by omega) rfl ?_
  refine w_aload_n (pc2 := 336) rfl rfl rfl ?_
  refine w_iload_n (pc2 := 337) rfl rfl rfl ?_
  refine w_iconst (pc2 := 338) rfl rfl ?_
  refine w_iadd (pc2 := 339) rfl rfl ?_
  refine w_ialoadRK (pc2 := 340) (j := (i + 2)) rfl rfl (nI_addE (m := i) (n := 2) (rfl : nI i = nI i) (show (2 : Int32) = nI 2 from rfl)) (by omega) (by omega) rfl ?_
  refine w_callv (k := 19) (pc2 := 343) (c := zt_m185) (as := [.ref 216, .int (xs ((i + 1))), .int (xs ((i + 2)))]) (rest := [.int vv]) rfl rfl rfl rfl cM.look rfl (Nat.le_of_ble_eq_true rfl) (Nat.le_of_ble_eq_true rfl) q2 (by decide) rfl (fun r h2 q => ?_)
  obtain ⟨rfl, inv2⟩ := q
  change zz_wp zt_ms zt_nm zt_df (zt_X L xs) 20 zt_law 343 [(3, .int (nI i)), (2, .ref 216), (1, .ref 0), (0, .ref 1000000)] [.int vv, .int vv] h2 _
  refine w_icmp_eq (pc2 := 346) rfl rfl (fun k343 => ?_) (fun k343 => ?_)
  · exact kk h2 inv2
  · refine w_iconst (pc2 := 347) rfl rfl ?_
    exact absurd rfl k343
set_option maxHeartbeats 4000000 in
set_option maxRecDepth 100000 in
theorem zl_case6 {L i : Nat} {xs : Nat → Int32} {Inv : ZH → Prop} {Q : Option Value → ZH → Prop} {h : ZH} (hL : L ≤ 3072) (hi : i + 6 ≤ L) (inv : Inv h) (hR : ∃ fs, zz_c h 0 (.inr (10, fs))) (hs : zl_step (zt_X L xs) Inv zt_m114 zt_m189 3) (kk : ∀ h2, Inv h2 → zz_wp zt_ms zt_nm zt_df (zt_X L xs) 20 zt_law 1179 [(3, .int (nI i)), (2, .ref 216), (1, .ref 0), (0, .ref 1000000)] [] h2 Q) : zz_wp zt_ms zt_nm zt_df (zt_X L xs) 20 zt_law 348 [(3, .int (nI i)), (2, .ref 216), (1, .ref 0), (0, .ref 1000000)] [] h Q := by
  obtain ⟨fs1, cR⟩ := hR
  refine w_aload_n (pc2 := 349) rfl rfl rfl ?_
  refine w_aload_n (pc2 := 350) rfl rfl rfl ?_
  refine w_iload_n (pc2 := 351) rfl rfl rfl ?_
  refine w_iconst (pc2 := 352) rfl rfl ?_
  refine w_iadd (pc2 := 353) rfl rfl ?_
  refine w_ialoadRK (pc2 := 354) (j := (i + 1)) rfl rfl (nI_addE (m := i) (n := 1) (rfl : nI i = nI i) (show (1 : Int32) = nI 1 from rfl)) (by omega) (by omega) rfl ?_
  refine w_aload_n (pc2 := 355) rfl rfl rfl ?_
  refine w_iload_n (pc2 := 356) rfl rfl rfl ?_
  refine w_iconst (pc2 := 357) rfl rfl ?_
  refine w_iadd (pc2 := 358) rfl rfl ?_
  refine w_ialoadRK (pc2 := 359) (j := (i + 2)) rfl rfl (nI_addE (m := i) (n := 2) (rfl : nI i = nI i) (show (2 : Int32) = nI 2 from rfl)) (by omega) (by omega) rfl ?_
  refine w_aload_n (pc2 := 360) rfl rfl rfl ?_
  refine w_iload_n (pc2 := 361) rfl rfl rfl ?_
  refine w_iconst (pc2 := 362) rfl rfl ?_
  refine w_iadd (pc2 := 363) rfl rfl ?_
  refine w_ialoadRK (pc2 := 364) (j := (i + 3)) rfl rfl (nI_addE (m := i) (n := 3) (rfl : nI i = nI i) (show (3 : Int32) = nI 3 from rfl)) (by omega) (by omega) rfl ?_
  refine w_callv (k := 19) (pc2 := 367) (c := zt_m114) (as := [.ref 0, .int (xs ((i + 1))), .int (xs ((i + 2))), .int (xs ((i + 3)))]) (rest := []) rfl rfl rfl rfl cR.look rfl (Nat.le_of_ble_eq_true rfl) (Nat.le_of_ble_eq_true rfl) (hs h [.int (xs ((i + 1))), .int (xs ((i + 2))), .int (xs ((i + 3)))] inv rfl (by simp)) (by decide) rfl (fun r h1 q => ?_)
  obtain ⟨vv, rfl, ⟨fs2, cM⟩, q2⟩ := q
  change zz_wp zt_ms zt_nm zt_df (zt_X L xs) 20 zt_law 367 [(3, .int (nI i)), (2, .ref 216), (1, .ref 0), (0, .ref 1000000)] [.int vv] h1 _
  refine w_aload_n (pc2 := 368) rfl rfl rfl ?_
  refine w_aload_n (pc2 := 369) rfl rfl rfl ?_
  refine w_iload_n (pc2 := 370) rfl rfl rfl ?_
  refine w_iconst (pc2 := 371) rfl rfl ?_
  refine w_iadd (pc2 := 372) rfl rfl ?_
  refine w_ialoadRK (pc2 := 373) (j := (i + 1)) rfl rfl (nI_addE (m := i) (n := 1) (rfl : nI i = nI i) (show (1 : Int32) = nI 1 from rfl)) (by omega) (by omega) rfl ?_
  refine w_aload_n (pc2 := 374) rfl rfl rfl ?_
  refine w_iload_n (pc2 := 375) rfl rfl rfl ?_
  refine w_iconst (pc2 := 376) rfl rfl ?_
  refine w_iadd (pc2 := 377) rfl rfl ?_
  refine w_ialoadRK (pc2 := 378) (j := (i + 2)) rfl rfl (nI_addE (m := i) (n := 2) (rfl : nI i = nI i) (show (2 : Int32) = nI 2 from rfl)) (by omega) (by omega) rfl ?_
  refine w_aload_n (pc2 := 379) rfl rfl rfl ?_
  refine w_iload_n (pc2 := 380) rfl rfl rfl ?_
  refine w_iconst (pc2 := 381) rfl rfl ?_
  refine w_iadd (pc2 := 382) rfl rfl ?_
  refine w_ialoadRK (pc2 := 383) (j := (i + 3)) rfl rfl (nI_addE (m := i) (n := 3) (rfl : nI i = nI i) (show (3 : Int32) = nI 3 from rfl)) (by omega) (by omega) rfl ?_
  refine w_callv (k := 19) (pc2 := 386) (c := zt_m189) (as := [.ref 216, .int (xs ((i + 1))), .int (xs ((i + 2))), .int (xs ((i + 3)))]) (rest := [.int vv]) rfl rfl rfl rfl cM.look rfl (Nat.le_of_ble_eq_true rfl) (Nat.le_of_ble_eq_true rfl) q2 (by decide) rfl (fun r h2 q => ?_)
  obtain ⟨rfl, inv2⟩ := q
  change zz_wp zt_ms zt_nm zt_df (zt_X L xs) 20 zt_law 386 [(3, .int (nI i)), (2, .ref 216), (1, .ref 0), (0, .ref 1000000)] [.int vv, .int vv] h2 _
  refine w_icmp_eq (pc2 := 389) rfl rfl (fun k386 => ?_) (fun k386 => ?_)
  · exact kk h2 inv2
  · refine w_iconst (pc2 := 390) rfl rfl ?_
    exact absurd rfl k386
set_option maxHeartbeats 4000000 in
set_option maxRecDepth 100000 in
theorem zl_case7 {L i : Nat} {xs : Nat → Int32} {Inv : ZH → Prop} {Q : Option Value → ZH → Prop} {h : ZH} (hL : L ≤ 3072) (hi : i + 6 ≤ L) (inv : Inv h) (hR : ∃ fs, zz_c h 0 (.inr (10, fs))) (hs : zl_step (zt_X L xs) Inv zt_m117 zt_m193 0) (kk : ∀ h2, Inv h2 → zz_wp zt_ms zt_nm zt_df (zt_X L xs) 20 zt_law 1179 [(3, .int (nI i)), (2, .ref 216), (1, .ref 0), (0, .ref 1000000)] [] h2 Q) : zz_wp zt_ms zt_nm zt_df (zt_X L xs) 20 zt_law 391 [(3, .int (nI i)), (2, .ref 216), (1, .ref 0), (0, .ref 1000000)] [] h Q := by
  obtain ⟨fs1, cR⟩ := hR
  refine w_aload_n (pc2 := 392) rfl rfl rfl ?_
  refine w_callv (k := 19) (pc2 := 395) (c := zt_m117) (as := [.ref 0]) (rest := []) rfl rfl rfl rfl cR.look rfl (Nat.le_of_ble_eq_true rfl) (Nat.le_of_ble_eq_true rfl) (hs h [] inv rfl (by simp)) (by decide) rfl (fun r h1 q => ?_)
  obtain ⟨vv, rfl, ⟨fs2, cM⟩, q2⟩ := q
  change zz_wp zt_ms zt_nm zt_df (zt_X L xs) 20 zt_law 395 [(3, .int (nI i)), (2, .ref 216), (1, .ref 0), (0, .ref 1000000)] [.int vv] h1 _
  refine w_aload_n (pc2 := 396) rfl rfl rfl ?_
  refine w_callv (k := 19) (pc2 := 399) (c := zt_m193) (as := [.ref 216]) (rest := [.int vv]) rfl rfl rfl rfl cM.look rfl (Nat.le_of_ble_eq_true rfl) (Nat.le_of_ble_eq_true rfl) q2 (by decide) rfl (fun r h2 q => ?_)
  obtain ⟨rfl, inv2⟩ := q
  change zz_wp zt_ms zt_nm zt_df (zt_X L xs) 20 zt_law 399 [(3, .int (nI i)), (2, .ref 216), (1, .ref 0), (0, .ref 1000000)] [.int vv, .int vv] h2 _
  refine w_icmp_eq (pc2 := 402) rfl rfl (fun k399 => ?_) (fun k399 => ?_)
  · exact kk h2 inv2
  · refine w_iconst (pc2 := 403) rfl rfl ?_
    exact absurd rfl k399
set_option maxHeartbeats 4000000 in
set_option maxRecDepth 100000 in
theorem zl_case8 {L i : Nat} {xs : Nat → Int32} {Inv : ZH → Prop} {Q : Option Value → ZH → Prop} {h : ZH} (hL : L ≤ 3072) (hi : i + 6 ≤ L) (inv : Inv h) (hR : ∃ fs, zz_c h 0 (.inr (10, fs))) (hs : zl_step (zt_X L xs) Inv zt_m118 zt_m213 2) (kk : ∀ h2, Inv h2 → zz_wp zt_ms zt_nm zt_df (zt_X L xs) 20 zt_law 1179 [(3, .int (nI i)), (2, .ref 216), (1, .ref 0), (0, .ref 1000000)] [] h2 Q) : zz_wp zt_ms zt_nm zt_df (zt_X L xs) 20 zt_law 404 [(3, .int (nI i)), (2, .ref 216), (1, .ref 0), (0, .ref 1000000)] [] h Q := by
  obtain ⟨fs1, cR⟩ := hR
  refine w_aload_n (pc2 := 405) rfl rfl rfl ?_
  refine w_aload_n (pc2 := 406) rfl rfl rfl ?_
  refine w_iload_n (pc2 := 407) rfl rfl rfl ?_
  refine w_iconst (pc2 := 408) rfl rfl ?_
  refine w_iadd (pc2 := 409) rfl rfl ?_
  refine w_ialoadRK (pc2 := 410) (j := (i + 1)) rfl rfl (nI_addE (m := i) (n := 1) (rfl : nI i = nI i) (show (1 : Int32) = nI 1 from rfl)) (by omega) (by omega) rfl ?_
  refine w_aload_n (pc2 := 411) rfl rfl rfl ?_
  refine w_iload_n (pc2 := 412) rfl rfl rfl ?_
  refine w_iconst (pc2 := 413) rfl rfl ?_
  refine w_iadd (pc2 := 414) rfl rfl ?_
  refine w_ialoadRK (pc2 := 415) (j := (i + 2)) rfl rfl (nI_addE (m := i) (n := 2) (rfl : nI i = nI i) (show (2 : Int32) = nI 2 from rfl)) (by omega) (by omega) rfl ?_
  refine w_callv (k := 19) (pc2 := 418) (c := zt_m118) (as := [.ref 0, .int (xs ((i + 1))), .int (xs ((i + 2)))]) (rest := []) rfl rfl rfl rfl cR.look rfl (Nat.le_of_ble_eq_true rfl) (Nat.le_of_ble_eq_true rfl) (hs h [.int (xs ((i + 1))), .int (xs ((i + 2)))] inv rfl (by simp)) (by decide) rfl (fun r h1 q => ?_)
  obtain ⟨vv, rfl, ⟨fs2, cM⟩, q2⟩ := q
  change zz_wp zt_ms zt_nm zt_df (zt_X L xs) 20 zt_law 418 [(3, .int (nI i)), (2, .ref 216), (1, .ref 0), (0, .ref 1000000)] [.int vv] h1 _
  refine w_aload_n (pc2 := 419) rfl rfl rfl ?_
  refine w_aload_n (pc2 := 420) rfl rfl rfl ?_
  refine w_iload_n (pc2 := 421) rfl rfl rfl ?_
  refine w_iconst (pc2 := 422) rfl rfl ?_
  refine w_iadd (pc2 := 423) rfl rfl ?_
  refine w_ialoadRK (pc2 := 424) (j := (i + 1)) rfl rfl (nI_addE (m := i) (n := 1) (rfl : nI i = nI i) (show (1 : Int32) = nI 1 from rfl)) (by omega) (by omega) rfl ?_
  refine w_aload_n (pc2 := 425) rfl rfl rfl ?_
  refine w_iload_n (pc2 := 426) rfl rfl rfl ?_
  refine w_iconst (pc2 := 427) rfl rfl ?_
  refine w_iadd (pc2 := 428) rfl rfl ?_
  refine w_ialoadRK (pc2 := 429) (j := (i + 2)) rfl rfl (nI_addE (m := i) (n := 2) (rfl : nI i = nI i) (show (2 : Int32) = nI 2 from rfl)) (by omega) (by omega) rfl ?_
  refine w_callv (k := 19) (pc2 := 432) (c := zt_m213) (as := [.ref 216, .int (xs ((i + 1))), .int (xs ((i + 2)))]) (rest := [.int vv]) rfl rfl rfl rfl cM.look rfl (Nat.le_of_ble_eq_true rfl) (Nat.le_of_ble_eq_true rfl) q2 (by decide) rfl (fun r h2 q => ?_)
  obtain ⟨rfl, inv2⟩ := q
  change zz_wp zt_ms zt_nm zt_df (zt_X L xs) 20 zt_law 432 [(3, .int (nI i)), (2, .ref 216), (1, .ref 0), (0, .ref 1000000)] [.int vv, .int vv] h2 _
  refine w_icmp_eq (pc2 := 435) rfl rfl (fun k432 => ?_) (fun k432 => ?_)
  · exact kk h2 inv2
  · refine w_iconst (pc2 := 436) rfl rfl ?_
    exact absurd rfl k432
set_option maxHeartbeats 4000000 in
set_option maxRecDepth 100000 in
theorem zl_case9 {L i : Nat} {xs : Nat → Int32} {Inv : ZH → Prop} {Q : Option Value → ZH → Prop} {h : ZH} (hL : L ≤ 3072) (hi : i + 6 ≤ L) (inv : Inv h) (hR : ∃ fs, zz_c h 0 (.inr (10, fs))) (hs : zl_step (zt_X L xs) Inv zt_m119 zt_m214 2) (kk : ∀ h2, Inv h2 → zz_wp zt_ms zt_nm zt_df (zt_X L xs) 20 zt_law 1179 [(3, .int (nI i)), (2, .ref 216), (1, .ref 0), (0, .ref 1000000)] [] h2 Q) : zz_wp zt_ms zt_nm zt_df (zt_X L xs) 20 zt_law 437 [(3, .int (nI i)), (2, .ref 216), (1, .ref 0), (0, .ref 1000000)] [] h Q := by
  obtain ⟨fs1, cR⟩ := hR
  refine w_aload_n (pc2 := 438) rfl rfl rfl ?_
  refine w_aload_n (pc2 := 439) rfl rfl rfl ?_
  refine w_iload_n (pc2 := 440) rfl rfl rfl ?_
  refine w_iconst (pc2 := 441) rfl rfl ?_
  refine w_iadd (pc2 := 442) rfl rfl ?_
  refine w_ialoadRK (pc2 := 443) (j := (i + 1)) rfl rfl (nI_addE (m := i) (n := 1) (rfl : nI i = nI i) (show (1 : Int32) = nI 1 from rfl)) (by omega) (by omega) rfl ?_
  refine w_aload_n (pc2 := 444) rfl rfl rfl ?_
  refine w_iload_n (pc2 := 445) rfl rfl rfl ?_
  refine w_iconst (pc2 := 446) rfl rfl ?_
  refine w_iadd (pc2 := 447) rfl rfl ?_
  refine w_ialoadRK (pc2 := 448) (j := (i + 2)) rfl rfl (nI_addE (m := i) (n := 2) (rfl : nI i = nI i) (show (2 : Int32) = nI 2 from rfl)) (by omega) (by omega) rfl ?_
  refine w_callv (k := 19) (pc2 := 451) (c := zt_m119) (as := [.ref 0, .int (xs ((i + 1))), .int (xs ((i + 2)))]) (rest := []) rfl rfl rfl rfl cR.look rfl (Nat.le_of_ble_eq_true rfl) (Nat.le_of_ble_eq_true rfl) (hs h [.int (xs ((i + 1))), .int (xs ((i + 2)))] inv rfl (by simp)) (by decide) rfl (fun r h1 q => ?_)
  obtain ⟨vv, rfl, ⟨fs2, cM⟩, q2⟩ := q
  change zz_wp zt_ms zt_nm zt_df (zt_X L xs) 20 zt_law 451 [(3, .int (nI i)), (2, .ref 216), (1, .ref 0), (0, .ref 1000000)] [.int vv] h1 _
  refine w_aload_n (pc2 := 452) rfl rfl rfl ?_
  refine w_aload_n (pc2 := 453) rfl rfl rfl ?_
  refine w_iload_n (pc2 := 454) rfl rfl rfl ?_
  refine w_iconst (pc2 := 455) rfl rfl ?_
  refine w_iadd (pc2 := 456) rfl rfl ?_
  refine w_ialoadRK (pc2 := 457) (j := (i + 1)) rfl rfl (nI_addE (m := i) (n := 1) (rfl : nI i = nI i) (show (1 : Int32) = nI 1 from rfl)) (by omega) (by omega) rfl ?_
  refine w_aload_n (pc2 := 458) rfl rfl rfl ?_
  refine w_iload_n (pc2 := 459) rfl rfl rfl ?_
  refine w_iconst (pc2 := 460) rfl rfl ?_
  refine w_iadd (pc2 := 461) rfl rfl ?_
  refine w_ialoadRK (pc2 := 462) (j := (i + 2)) rfl rfl (nI_addE (m := i) (n := 2) (rfl : nI i = nI i) (show (2 : Int32) = nI 2 from rfl)) (by omega) (by omega) rfl ?_
  refine w_callv (k := 19) (pc2 := 465) (c := zt_m214) (as := [.ref 216, .int (xs ((i + 1))), .int (xs ((i + 2)))]) (rest := [.int vv]) rfl rfl rfl rfl cM.look rfl (Nat.le_of_ble_eq_true rfl) (Nat.le_of_ble_eq_true rfl) q2 (by decide) rfl (fun r h2 q => ?_)
  obtain ⟨rfl, inv2⟩ := q
  change zz_wp zt_ms zt_nm zt_df (zt_X L xs) 20 zt_law 465 [(3, .int (nI i)), (2, .ref 216), (1, .ref 0), (0, .ref 1000000)] [.int vv, .int vv] h2 _
  refine w_icmp_eq (pc2 := 468) rfl rfl (fun k465 => ?_) (fun k465 => ?_)
  · exact kk h2 inv2
  · refine w_iconst (pc2 := 469) rfl rfl ?_
    exact absurd rfl k465
set_option maxHeartbeats 4000000 in
set_option maxRecDepth 100000 in
theorem zl_case10 {L i : Nat} {xs : Nat → Int32} {Inv : ZH → Prop} {Q : Option Value → ZH → Prop} {h : ZH} (hL : L ≤ 3072) (hi : i + 6 ≤ L) (inv : Inv h) (hR : ∃ fs, zz_c h 0 (.inr (10, fs))) (hs : zl_step (zt_X L xs) Inv zt_m120 zt_m215 0) (kk : ∀ h2, Inv h2 → zz_wp zt_ms zt_nm zt_df (zt_X L xs) 20 zt_law 1179 [(3, .int (nI i)), (2, .ref 216), (1, .ref 0), (0, .ref 1000000)] [] h2 Q) : zz_wp zt_ms zt_nm zt_df (zt_X L xs) 20 zt_law 470 [(3, .int (nI i)), (2, .ref 216), (1, .ref 0), (0, .ref 1000000)] [] h Q := by
  obtain ⟨fs1, cR⟩ := hR
  refine w_aload_n (pc2 := 471) rfl rfl rfl ?_
  refine w_callv (k := 19) (pc2 := 474) (c := zt_m120) (as := [.ref 0]) (rest := []) rfl rfl rfl rfl cR.look rfl (Nat.le_of_ble_eq_true rfl) (Nat.le_of_ble_eq_true rfl) (hs h [] inv rfl (by simp)) (by decide) rfl (fun r h1 q => ?_)
  obtain ⟨vv, rfl, ⟨fs2, cM⟩, q2⟩ := q
  change zz_wp zt_ms zt_nm zt_df (zt_X L xs) 20 zt_law 474 [(3, .int (nI i)), (2, .ref 216), (1, .ref 0), (0, .ref 1000000)] [.int vv] h1 _
  refine w_aload_n (pc2 := 475) rfl rfl rfl ?_
  refine w_callv (k := 19) (pc2 := 478) (c := zt_m215) (as := [.ref 216]) (rest := [.int vv]) rfl rfl rfl rfl cM.look rfl (Nat.le_of_ble_eq_true rfl) (Nat.le_of_ble_eq_true rfl) q2 (by decide) rfl (fun r h2 q => ?_)
  obtain ⟨rfl, inv2⟩ := q
  change zz_wp zt_ms zt_nm zt_df (zt_X L xs) 20 zt_law 478 [(3, .int (nI i)), (2, .ref 216), (1, .ref 0), (0, .ref 1000000)] [.int vv, .int vv] h2 _
  refine w_icmp_eq (pc2 := 481) rfl rfl (fun k478 => ?_) (fun k478 => ?_)
  · exact kk h2 inv2
  · refine w_iconst (pc2 := 482) rfl rfl ?_
    exact absurd rfl k478
set_option maxHeartbeats 4000000 in
set_option maxRecDepth 100000 in
theorem zl_case11 {L i : Nat} {xs : Nat → Int32} {Inv : ZH → Prop} {Q : Option Value → ZH → Prop} {h : ZH} (hL : L ≤ 3072) (hi : i + 6 ≤ L) (inv : Inv h) (hR : ∃ fs, zz_c h 0 (.inr (10, fs))) (hs : zl_step (zt_X L xs) Inv zt_m121 zt_m192 0) (kk : ∀ h2, Inv h2 → zz_wp zt_ms zt_nm zt_df (zt_X L xs) 20 zt_law 1179 [(3, .int (nI i)), (2, .ref 216), (1, .ref 0), (0, .ref 1000000)] [] h2 Q) : zz_wp zt_ms zt_nm zt_df (zt_X L xs) 20 zt_law 483 [(3, .int (nI i)), (2, .ref 216), (1, .ref 0), (0, .ref 1000000)] [] h Q := by
  obtain ⟨fs1, cR⟩ := hR
  refine w_aload_n (pc2 := 484) rfl rfl rfl ?_
  refine w_callv (k := 19) (pc2 := 487) (c := zt_m121) (as := [.ref 0]) (rest := []) rfl rfl rfl rfl cR.look rfl (Nat.le_of_ble_eq_true rfl) (Nat.le_of_ble_eq_true rfl) (hs h [] inv rfl (by simp)) (by decide) rfl (fun r h1 q => ?_)
  obtain ⟨vv, rfl, ⟨fs2, cM⟩, q2⟩ := q
  change zz_wp zt_ms zt_nm zt_df (zt_X L xs) 20 zt_law 487 [(3, .int (nI i)), (2, .ref 216), (1, .ref 0), (0, .ref 1000000)] [.int vv] h1 _
  refine w_aload_n (pc2 := 488) rfl rfl rfl ?_
  refine w_callv (k := 19) (pc2 := 491) (c := zt_m192) (as := [.ref 216]) (rest := [.int vv]) rfl rfl rfl rfl cM.look rfl (Nat.le_of_ble_eq_true rfl) (Nat.le_of_ble_eq_true rfl) q2 (by decide) rfl (fun r h2 q => ?_)
  obtain ⟨rfl, inv2⟩ := q
  change zz_wp zt_ms zt_nm zt_df (zt_X L xs) 20 zt_law 491 [(3, .int (nI i)), (2, .ref 216), (1, .ref 0), (0, .ref 1000000)] [.int vv, .int vv] h2 _
  refine w_icmp_eq (pc2 := 494) rfl rfl (fun k491 => ?_) (fun k491 => ?_)
  · exact kk h2 inv2
  · refine w_iconst (pc2 := 495) rfl rfl ?_
    exact absurd rfl k491
set_option maxHeartbeats 4000000 in
set_option maxRecDepth 100000 in
theorem zl_case12 {L i : Nat} {xs : Nat → Int32} {Inv : ZH → Prop} {Q : Option Value → ZH → Prop} {h : ZH} (hL : L ≤ 3072) (hi : i + 6 ≤ L) (inv : Inv h) (hR : ∃ fs, zz_c h 0 (.inr (10, fs))) (hs : zl_step (zt_X L xs) Inv zt_m122 zt_m217 3) (kk : ∀ h2, Inv h2 → zz_wp zt_ms zt_nm zt_df (zt_X L xs) 20 zt_law 1179 [(3, .int (nI i)), (2, .ref 216), (1, .ref 0), (0, .ref 1000000)] [] h2 Q) : zz_wp zt_ms zt_nm zt_df (zt_X L xs) 20 zt_law 496 [(3, .int (nI i)), (2, .ref 216), (1, .ref 0), (0, .ref 1000000)] [] h Q := by
  obtain ⟨fs1, cR⟩ := hR
  refine w_aload_n (pc2 := 497) rfl rfl rfl ?_
  refine w_aload_n (pc2 := 498) rfl rfl rfl ?_
  refine w_iload_n (pc2 := 499) rfl rfl rfl ?_
  refine w_iconst (pc2 := 500) rfl rfl ?_
  refine w_iadd (pc2 := 501) rfl rfl ?_
  refine w_ialoadRK (pc2 := 502) (j := (i + 1)) rfl rfl (nI_addE (m := i) (n := 1) (rfl : nI i = nI i) (show (1 : Int32) = nI 1 from rfl)) (by omega) (by omega) rfl ?_
  refine w_aload_n (pc2 := 503) rfl rfl rfl ?_
  refine w_iload_n (pc2 := 504) rfl rfl rfl ?_
  refine w_iconst (pc2 := 505) rfl rfl ?_
  refine w_iadd (pc2 := 506) rfl rfl ?_
  refine w_ialoadRK (pc2 := 507) (j := (i + 2)) rfl rfl (nI_addE (m := i) (n := 2) (rfl : nI i = nI i) (show (2 : Int32) = nI 2 from rfl)) (by omega) (by omega) rfl ?_
  refine w_aload_n (pc2 := 508) rfl rfl rfl ?_
  refine w_iload_n (pc2 := 509) rfl rfl rfl ?_
  refine w_iconst (pc2 := 510) rfl rfl ?_
  refine w_iadd (pc2 := 511) rfl rfl ?_
  refine w_ialoadRK (pc2 := 512) (j := (i + 3)) rfl rfl (nI_addE (m := i) (n := 3) (rfl : nI i = nI i) (show (3 : Int32) = nI 3 from rfl)) (by omega) (by omega) rfl ?_
  refine w_callv (k := 19) (pc2 := 515) (c := zt_m122) (as := [.ref 0, .int (xs ((i + 1))), .int (xs ((i + 2))), .int (xs ((i + 3)))]) (rest := []) rfl rfl rfl rfl cR.look rfl (Nat.le_of_ble_eq_true rfl) (Nat.le_of_ble_eq_true rfl) (hs h [.int (xs ((i + 1))), .int (xs ((i + 2))), .int (xs ((i + 3)))] inv rfl (by simp)) (by decide) rfl (fun r h1 q => ?_)
  obtain ⟨vv, rfl, ⟨fs2, cM⟩, q2⟩ := q
  change zz_wp zt_ms zt_nm zt_df (zt_X L xs) 20 zt_law 515 [(3, .int (nI i)), (2, .ref 216), (1, .ref 0), (0, .ref 1000000)] [.int vv] h1 _
  refine w_aload_n (pc2 := 516) rfl rfl rfl ?_
  refine w_aload_n (pc2 := 517) rfl rfl rfl ?_
  refine w_iload_n (pc2 := 518) rfl rfl rfl ?_
  refine w_iconst (pc2 := 519) rfl rfl ?_
  refine w_iadd (pc2 := 520) rfl rfl ?_
  refine w_ialoadRK (pc2 := 521) (j := (i + 1)) rfl rfl (nI_addE (m := i) (n := 1) (rfl : nI i = nI i) (show (1 : Int32) = nI 1 from rfl)) (by omega) (by omega) rfl ?_
  refine w_aload_n (pc2 := 522) rfl rfl rfl ?_
  refine w_iload_n (pc2 := 523) rfl rfl rfl ?_
  refine w_iconst (pc2 := 524) rfl rfl ?_
  refine w_iadd (pc2 := 525) rfl rfl ?_
  refine w_ialoadRK (pc2 := 526) (j := (i + 2)) rfl rfl (nI_addE (m := i) (n := 2) (rfl : nI i = nI i) (show (2 : Int32) = nI 2 from rfl)) (by omega) (by omega) rfl ?_
  refine w_aload_n (pc2 := 527) rfl rfl rfl ?_
  refine w_iload_n (pc2 := 528) rfl rfl rfl ?_
  refine w_iconst (pc2 := 529) rfl rfl ?_
  refine w_iadd (pc2 := 530) rfl rfl ?_
  refine w_ialoadRK (pc2 := 531) (j := (i + 3)) rfl rfl (nI_addE (m := i) (n := 3) (rfl : nI i = nI i) (show (3 : Int32) = nI 3 from rfl)) (by omega) (by omega) rfl ?_
  refine w_callv (k := 19) (pc2 := 534) (c := zt_m217) (as := [.ref 216, .int (xs ((i + 1))), .int (xs ((i + 2))), .int (xs ((i + 3)))]) (rest := [.int vv]) rfl rfl rfl rfl cM.look rfl (Nat.le_of_ble_eq_true rfl) (Nat.le_of_ble_eq_true rfl) q2 (by decide) rfl (fun r h2 q => ?_)
  obtain ⟨rfl, inv2⟩ := q
  change zz_wp zt_ms zt_nm zt_df (zt_X L xs) 20 zt_law 534 [(3, .int (nI i)), (2, .ref 216), (1, .ref 0), (0, .ref 1000000)] [.int vv, .int vv] h2 _
  refine w_icmp_eq (pc2 := 537) rfl rfl (fun k534 => ?_) (fun k534 => ?_)
  · exact kk h2 inv2
  · refine w_iconst (pc2 := 538) rfl rfl ?_
    exact absurd rfl k534
set_option maxHeartbeats 4000000 in
set_option maxRecDepth 100000 in
theorem zl_case13 {L i : Nat} {xs : Nat → Int32} {Inv : ZH → Prop} {Q : Option Value → ZH → Prop} {h : ZH} (hL : L ≤ 3072) (hi : i + 6 ≤ L) (inv : Inv h) (hR : ∃ fs, zz_c h 0 (.inr (10, fs))) (hs : zl_step (zt_X L xs) Inv zt_m123 zt_m220 2) (kk : ∀ h2, Inv h2 → zz_wp zt_ms zt_nm zt_df (zt_X L xs) 20 zt_law 1179 [(3, .int (nI i)), (2, .ref 216), (1, .ref 0), (0, .ref 1000000)] [] h2 Q) : zz_wp zt_ms zt_nm zt_df (zt_X L xs) 20 zt_law 539 [(3, .int (nI i)), (2, .ref 216), (1, .ref 0), (0, .ref 1000000)] [] h Q := by
  obtain ⟨fs1, cR⟩ := hR
  refine w_aload_n (pc2 := 540) rfl rfl rfl ?_
  refine w_aload_n (pc2 := 541) rfl rfl rfl ?_
  refine w_iload_n (pc2 := 542) rfl rfl rfl ?_
  refine w_iconst (pc2 := 543) rfl rfl ?_
  refine w_iadd (pc2 := 544) rfl rfl ?_
  refine w_ialoadRK (pc2 := 545) (j := (i + 1)) rfl rfl (nI_addE (m := i) (n := 1) (rfl : nI i = nI i) (show (1 : Int32) = nI 1 from rfl)) (by omega) (by omega) rfl ?_
  refine w_aload_n (pc2 := 546) rfl rfl rfl ?_
  refine w_iload_n (pc2 := 547) rfl rfl rfl ?_
  refine w_iconst (pc2 := 548) rfl rfl ?_
  refine w_iadd (pc2 := 549) rfl rfl ?_
  refine w_ialoadRK (pc2 := 550) (j := (i + 2)) rfl rfl (nI_addE (m := i) (n := 2) (rfl : nI i = nI i) (show (2 : Int32) = nI 2 from rfl)) (by omega) (by omega) rfl ?_
  refine w_callv (k := 19) (pc2 := 553) (c := zt_m123) (as := [.ref 0, .int (xs ((i + 1))), .int (xs ((i + 2)))]) (rest := []) rfl rfl rfl rfl cR.look rfl (Nat.le_of_ble_eq_true rfl) (Nat.le_of_ble_eq_true rfl) (hs h [.int (xs ((i + 1))), .int (xs ((i + 2)))] inv rfl (by simp)) (by decide) rfl (fun r h1 q => ?_)
  obtain ⟨vv, rfl, ⟨fs2, cM⟩, q2⟩ := q
  change zz_wp zt_ms zt_nm zt_df (zt_X L xs) 20 zt_law 553 [(3, .int (nI i)), (2, .ref 216), (1, .ref 0), (0, .ref 1000000)] [.int vv] h1 _
  refine w_aload_n (pc2 := 554) rfl rfl rfl ?_
  refine w_aload_n (pc2 := 555) rfl rfl rfl ?_
  refine w_iload_n (pc2 := 556) rfl rfl rfl ?_
  refine w_iconst (pc2 := 557) rfl rfl ?_
  refine w_iadd (pc2 := 558) rfl rfl ?_
  refine w_ialoadRK (pc2 := 559) (j := (i + 1)) rfl rfl (nI_addE (m := i) (n := 1) (rfl : nI i = nI i) (show (1 : Int32) = nI 1 from rfl)) (by omega) (by omega) rfl ?_
  refine w_aload_n (pc2 := 560) rfl rfl rfl ?_
  refine w_iload_n (pc2 := 561) rfl rfl rfl ?_
  refine w_iconst (pc2 := 562) rfl rfl ?_
  refine w_iadd (pc2 := 563) rfl rfl ?_
  refine w_ialoadRK (pc2 := 564) (j := (i + 2)) rfl rfl (nI_addE (m := i) (n := 2) (rfl : nI i = nI i) (show (2 : Int32) = nI 2 from rfl)) (by omega) (by omega) rfl ?_
  refine w_callv (k := 19) (pc2 := 567) (c := zt_m220) (as := [.ref 216, .int (xs ((i + 1))), .int (xs ((i + 2)))]) (rest := [.int vv]) rfl rfl rfl rfl cM.look rfl (Nat.le_of_ble_eq_true rfl) (Nat.le_of_ble_eq_true rfl) q2 (by decide) rfl (fun r h2 q => ?_)
  obtain ⟨rfl, inv2⟩ := q
  change zz_wp zt_ms zt_nm zt_df (zt_X L xs) 20 zt_law 567 [(3, .int (nI i)), (2, .ref 216), (1, .ref 0), (0, .ref 1000000)] [.int vv, .int vv] h2 _
  refine w_icmp_eq (pc2 := 570) rfl rfl (fun k567 => ?_) (fun k567 => ?_)
  · exact kk h2 inv2
  · refine w_iconst (pc2 := 571) rfl rfl ?_
    exact absurd rfl k567
set_option maxHeartbeats 4000000 in
set_option maxRecDepth 100000 in
theorem zl_case14 {L i : Nat} {xs : Nat → Int32} {Inv : ZH → Prop} {Q : Option Value → ZH → Prop} {h : ZH} (hL : L ≤ 3072) (hi : i + 6 ≤ L) (inv : Inv h) (hR : ∃ fs, zz_c h 0 (.inr (10, fs))) (hs : zl_step (zt_X L xs) Inv zt_m124 zt_m221 3) (kk : ∀ h2, Inv h2 → zz_wp zt_ms zt_nm zt_df (zt_X L xs) 20 zt_law 1179 [(3, .int (nI i)), (2, .ref 216), (1, .ref 0), (0, .ref 1000000)] [] h2 Q) : zz_wp zt_ms zt_nm zt_df (zt_X L xs) 20 zt_law 572 [(3, .int (nI i)), (2, .ref 216), (1, .ref 0), (0, .ref 1000000)] [] h Q := by
  obtain ⟨fs1, cR⟩ := hR
  refine w_aload_n (pc2 := 573) rfl rfl rfl ?_
  refine w_aload_n (pc2 := 574) rfl rfl rfl ?_
  refine w_iload_n (pc2 := 575) rfl rfl rfl ?_
  refine w_iconst (pc2 := 576) rfl rfl ?_
  refine w_iadd (pc2 := 577) rfl rfl ?_
  refine w_ialoadRK (pc2 := 578) (j := (i + 1)) rfl rfl (nI_addE (m := i) (n := 1) (rfl : nI i = nI i) (show (1 : Int32) = nI 1 from rfl)) (by omega) (by omega) rfl ?_
  refine w_aload_n (pc2 := 579) rfl rfl rfl ?_
  refine w_iload_n (pc2 := 580) rfl rfl rfl ?_
  refine w_iconst (pc2 := 581) rfl rfl ?_
  refine w_iadd (pc2 := 582) rfl rfl ?_
  refine w_ialoadRK (pc2 := 583) (j := (i + 2)) rfl rfl (nI_addE (m := i) (n := 2) (rfl : nI i = nI i) (show (2 : Int32) = nI 2 from rfl)) (by omega) (by omega) rfl ?_
  refine w_aload_n (pc2 := 584) rfl rfl rfl ?_
  refine w_iload_n (pc2 := 585) rfl rfl rfl ?_
  refine w_iconst (pc2 := 586) rfl rfl ?_
  refine w_iadd (pc2 := 587) rfl rfl ?_
  refine w_ialoadRK (pc2 := 588) (j := (i + 3)) rfl rfl (nI_addE (m := i) (n := 3) (rfl : nI i = nI i) (show (3 : Int32) = nI 3 from rfl)) (by omega) (by omega) rfl ?_
  refine w_callv (k := 19) (pc2 := 591) (c := zt_m124) (as := [.ref 0, .int (xs ((i + 1))), .int (xs ((i + 2))), .int (xs ((i + 3)))]) (rest := []) rfl rfl rfl rfl cR.look rfl (Nat.le_of_ble_eq_true rfl) (Nat.le_of_ble_eq_true rfl) (hs h [.int (xs ((i + 1))), .int (xs ((i + 2))), .int (xs ((i + 3)))] inv rfl (by simp)) (by decide) rfl (fun r h1 q => ?_)
  obtain ⟨vv, rfl, ⟨fs2, cM⟩, q2⟩ := q
  change zz_wp zt_ms zt_nm zt_df (zt_X L xs) 20 zt_law 591 [(3, .int (nI i)), (2, .ref 216), (1, .ref 0), (0, .ref 1000000)] [.int vv] h1 _
  refine w_aload_n (pc2 := 592) rfl rfl rfl ?_
  refine w_aload_n (pc2 := 593) rfl rfl rfl ?_
  refine w_iload_n (pc2 := 594) rfl rfl rfl ?_
  refine w_iconst (pc2 := 595) rfl rfl ?_
  refine w_iadd (pc2 := 596) rfl rfl ?_
  refine w_ialoadRK (pc2 := 597) (j := (i + 1)) rfl rfl (nI_addE (m := i) (n := 1) (rfl : nI i = nI i) (show (1 : Int32) = nI 1 from rfl)) (by omega) (by omega) rfl ?_
  refine w_aload_n (pc2 := 598) rfl rfl rfl ?_
  refine w_iload_n (pc2 := 599) rfl rfl rfl ?_
  refine w_iconst (pc2 := 600) rfl rfl ?_
  refine w_iadd (pc2 := 601) rfl rfl ?_
  refine w_ialoadRK (pc2 := 602) (j := (i + 2)) rfl rfl (nI_addE (m := i) (n := 2) (rfl : nI i = nI i) (show (2 : Int32) = nI 2 from rfl)) (by omega) (by omega) rfl ?_
  refine w_aload_n (pc2 := 603) rfl rfl rfl ?_
  refine w_iload_n (pc2 := 604) rfl rfl rfl ?_
  refine w_iconst (pc2 := 605) rfl rfl ?_
  refine w_iadd (pc2 := 606) rfl rfl ?_
  refine w_ialoadRK (pc2 := 607) (j := (i + 3)) rfl rfl (nI_addE (m := i) (n := 3) (rfl : nI i = nI i) (show (3 : Int32) = nI 3 from rfl)) (by omega) (by omega) rfl ?_
  refine w_callv (k := 19) (pc2 := 610) (c := zt_m221) (as := [.ref 216, .int (xs ((i + 1))), .int (xs ((i + 2))), .int (xs ((i + 3)))]) (rest := [.int vv]) rfl rfl rfl rfl cM.look rfl (Nat.le_of_ble_eq_true rfl) (Nat.le_of_ble_eq_true rfl) q2 (by decide) rfl (fun r h2 q => ?_)
  obtain ⟨rfl, inv2⟩ := q
  change zz_wp zt_ms zt_nm zt_df (zt_X L xs) 20 zt_law 610 [(3, .int (nI i)), (2, .ref 216), (1, .ref 0), (0, .ref 1000000)] [.int vv, .int vv] h2 _
  refine w_icmp_eq (pc2 := 613) rfl rfl (fun k610 => ?_) (fun k610 => ?_)
  · exact kk h2 inv2
  · refine w_iconst (pc2 := 614) rfl rfl ?_
    exact absurd rfl k610
set_option maxHeartbeats 4000000 in
set_option maxRecDepth 100000 in
theorem zl_case15 {L i : Nat} {xs : Nat → Int32} {Inv : ZH → Prop} {Q : Option Value → ZH → Prop} {h : ZH} (hL : L ≤ 3072) (hi : i + 6 ≤ L) (inv : Inv h) (hR : ∃ fs, zz_c h 0 (.inr (10, fs))) (hs : zl_step (zt_X L xs) Inv zt_m125 zt_m224 1) (kk : ∀ h2, Inv h2 → zz_wp zt_ms zt_nm zt_df (zt_X L xs) 20 zt_law 1179 [(3, .int (nI i)), (2, .ref 216), (1, .ref 0), (0, .ref 1000000)] [] h2 Q) : zz_wp zt_ms zt_nm zt_df (zt_X L xs) 20 zt_law 615 [(3, .int (nI i)), (2, .ref 216), (1, .ref 0), (0, .ref 1000000)] [] h Q := by
  obtain ⟨fs1, cR⟩ := hR
  refine w_aload_n (pc2 := 616) rfl rfl rfl ?_
  refine w_aload_n (pc2 := 617) rfl rfl rfl ?_
  refine w_iload_n (pc2 := 618) rfl rfl rfl ?_
  refine w_iconst (pc2 := 619) rfl rfl ?_
  refine w_iadd (pc2 := 620) rfl rfl ?_
  refine w_ialoadRK (pc2 := 621) (j := (i + 1)) rfl rfl (nI_addE (m := i) (n := 1) (rfl : nI i = nI i) (show (1 : Int32) = nI 1 from rfl)) (by omega) (by omega) rfl ?_
  refine w_callv (k := 19) (pc2 := 624) (c := zt_m125) (as := [.ref 0, .int (xs ((i + 1)))]) (rest := []) rfl rfl rfl rfl cR.look rfl (Nat.le_of_ble_eq_true rfl) (Nat.le_of_ble_eq_true rfl) (hs h [.int (xs ((i + 1)))] inv rfl (by simp)) (by decide) rfl (fun r h1 q => ?_)
  obtain ⟨vv, rfl, ⟨fs2, cM⟩, q2⟩ := q
  change zz_wp zt_ms zt_nm zt_df (zt_X L xs) 20 zt_law 624 [(3, .int (nI i)), (2, .ref 216), (1, .ref 0), (0, .ref 1000000)] [.int vv] h1 _
  refine w_aload_n (pc2 := 625) rfl rfl rfl ?_
  refine w_aload_n (pc2 := 626) rfl rfl rfl ?_
  refine w_iload_n (pc2 := 627) rfl rfl rfl ?_
  refine w_iconst (pc2 := 628) rfl rfl ?_
  refine w_iadd (pc2 := 629) rfl rfl ?_
  refine w_ialoadRK (pc2 := 630) (j := (i + 1)) rfl rfl (nI_addE (m := i) (n := 1) (rfl : nI i = nI i) (show (1 : Int32) = nI 1 from rfl)) (by omega) (by omega) rfl ?_
  refine w_callv (k := 19) (pc2 := 633) (c := zt_m224) (as := [.ref 216, .int (xs ((i + 1)))]) (rest := [.int vv]) rfl rfl rfl rfl cM.look rfl (Nat.le_of_ble_eq_true rfl) (Nat.le_of_ble_eq_true rfl) q2 (by decide) rfl (fun r h2 q => ?_)
  obtain ⟨rfl, inv2⟩ := q
  change zz_wp zt_ms zt_nm zt_df (zt_X L xs) 20 zt_law 633 [(3, .int (nI i)), (2, .ref 216), (1, .ref 0), (0, .ref 1000000)] [.int vv, .int vv] h2 _
  refine w_icmp_eq (pc2 := 636) rfl rfl (fun k633 => ?_) (fun k633 => ?_)
  · exact kk h2 inv2
  · refine w_iconst (pc2 := 637) rfl rfl ?_
    exact absurd rfl k633
set_option maxHeartbeats 4000000 in
set_option maxRecDepth 100000 in
theorem zl_case16 {L i : Nat} {xs : Nat → Int32} {Inv : ZH → Prop} {Q : Option Value → ZH → Prop} {h : ZH} (hL : L ≤ 3072) (hi : i + 6 ≤ L) (inv : Inv h) (hR : ∃ fs, zz_c h 0 (.inr (10, fs))) (hs : zl_step (zt_X L xs) Inv zt_m126 zt_m225 2) (kk : ∀ h2, Inv h2 → zz_wp zt_ms zt_nm zt_df (zt_X L xs) 20 zt_law 1179 [(3, .int (nI i)), (2, .ref 216), (1, .ref 0), (0, .ref 1000000)] [] h2 Q) : zz_wp zt_ms zt_nm zt_df (zt_X L xs) 20 zt_law 638 [(3, .int (nI i)), (2, .ref 216), (1, .ref 0), (0, .ref 1000000)] [] h Q := by
  obtain ⟨fs1, cR⟩ := hR
  refine w_aload_n (pc2 := 639) rfl rfl rfl ?_
  refine w_aload_n (pc2 := 640) rfl rfl rfl ?_
  refine w_iload_n (pc2 := 641) rfl rfl rfl ?_
  refine w_iconst (pc2 := 642) rfl rfl ?_
  refine w_iadd (pc2 := 643) rfl rfl ?_
  refine w_ialoadRK (pc2 := 644) (j := (i + 1)) rfl rfl (nI_addE (m := i) (n := 1) (rfl : nI i = nI i) (show (1 : Int32) = nI 1 from rfl)) (by omega) (by omega) rfl ?_
  refine w_aload_n (pc2 := 645) rfl rfl rfl ?_
  refine w_iload_n (pc2 := 646) rfl rfl rfl ?_
  refine w_iconst (pc2 := 647) rfl rfl ?_
  refine w_iadd (pc2 := 648) rfl rfl ?_
  refine w_ialoadRK (pc2 := 649) (j := (i + 2)) rfl rfl (nI_addE (m := i) (n := 2) (rfl : nI i = nI i) (show (2 : Int32) = nI 2 from rfl)) (by omega) (by omega) rfl ?_
  refine w_callv (k := 19) (pc2 := 652) (c := zt_m126) (as := [.ref 0, .int (xs ((i + 1))), .int (xs ((i + 2)))]) (rest := []) rfl rfl rfl rfl cR.look rfl (Nat.le_of_ble_eq_true rfl) (Nat.le_of_ble_eq_true rfl) (hs h [.int (xs ((i + 1))), .int (xs ((i + 2)))] inv rfl (by simp)) (by decide) rfl (fun r h1 q => ?_)
  obtain ⟨vv, rfl, ⟨fs2, cM⟩, q2⟩ := q
  change zz_wp zt_ms zt_nm zt_df (zt_X L xs) 20 zt_law 652 [(3, .int (nI i)), (2, .ref 216), (1, .ref 0), (0, .ref 1000000)] [.int vv] h1 _
  refine w_aload_n (pc2 := 653) rfl rfl rfl ?_
  refine w_aload_n (pc2 := 654) rfl rfl rfl ?_
  refine w_iload_n (pc2 := 655) rfl rfl rfl ?_
  refine w_iconst (pc2 := 656) rfl rfl ?_
  refine w_iadd (pc2 := 657) rfl rfl ?_
  refine w_ialoadRK (pc2 := 658) (j := (i + 1)) rfl rfl (nI_addE (m := i) (n := 1) (rfl : nI i = nI i) (show (1 : Int32) = nI 1 from rfl)) (by omega) (by omega) rfl ?_
  refine w_aload_n (pc2 := 659) rfl rfl rfl ?_
  refine w_iload_n (pc2 := 660) rfl rfl rfl ?_
  refine w_iconst (pc2 := 661) rfl rfl ?_
  refine w_iadd (pc2 := 662) rfl rfl ?_
  refine w_ialoadRK (pc2 := 663) (j := (i + 2)) rfl rfl (nI_addE (m := i) (n := 2) (rfl : nI i = nI i) (show (2 : Int32) = nI 2 from rfl)) (by omega) (by omega) rfl ?_
  refine w_callv (k := 19) (pc2 := 666) (c := zt_m225) (as := [.ref 216, .int (xs ((i + 1))), .int (xs ((i + 2)))]) (rest := [.int vv]) rfl rfl rfl rfl cM.look rfl (Nat.le_of_ble_eq_true rfl) (Nat.le_of_ble_eq_true rfl) q2 (by decide) rfl (fun r h2 q => ?_)
  obtain ⟨rfl, inv2⟩ := q
  change zz_wp zt_ms zt_nm zt_df (zt_X L xs) 20 zt_law 666 [(3, .int (nI i)), (2, .ref 216), (1, .ref 0), (0, .ref 1000000)] [.int vv, .int vv] h2 _
  refine w_icmp_eq (pc2 := 669) rfl rfl (fun k666 => ?_) (fun k666 => ?_)
  · exact kk h2 inv2
  · refine w_iconst (pc2 := 670) rfl rfl ?_
    exact absurd rfl k666
set_option maxHeartbeats 4000000 in
set_option maxRecDepth 100000 in
theorem zl_case17 {L i : Nat} {xs : Nat → Int32} {Inv : ZH → Prop} {Q : Option Value → ZH → Prop} {h : ZH} (hL : L ≤ 3072) (hi : i + 6 ≤ L) (inv : Inv h) (hR : ∃ fs, zz_c h 0 (.inr (10, fs))) (hs : zl_step (zt_X L xs) Inv zt_m127 zt_m227 2) (kk : ∀ h2, Inv h2 → zz_wp zt_ms zt_nm zt_df (zt_X L xs) 20 zt_law 1179 [(3, .int (nI i)), (2, .ref 216), (1, .ref 0), (0, .ref 1000000)] [] h2 Q) : zz_wp zt_ms zt_nm zt_df (zt_X L xs) 20 zt_law 671 [(3, .int (nI i)), (2, .ref 216), (1, .ref 0), (0, .ref 1000000)] [] h Q := by
  obtain ⟨fs1, cR⟩ := hR
  refine w_aload_n (pc2 := 672) rfl rfl rfl ?_
  refine w_aload_n (pc2 := 673) rfl rfl rfl ?_
  refine w_iload_n (pc2 := 674) rfl rfl rfl ?_
  refine w_iconst (pc2 := 675) rfl rfl ?_
  refine w_iadd (pc2 := 676) rfl rfl ?_
  refine w_ialoadRK (pc2 := 677) (j := (i + 1)) rfl rfl (nI_addE (m := i) (n := 1) (rfl : nI i = nI i) (show (1 : Int32) = nI 1 from rfl)) (by omega) (by omega) rfl ?_
  refine w_aload_n (pc2 := 678) rfl rfl rfl ?_
  refine w_iload_n (pc2 := 679) rfl rfl rfl ?_
  refine w_iconst (pc2 := 680) rfl rfl ?_
  refine w_iadd (pc2 := 681) rfl rfl ?_
  refine w_ialoadRK (pc2 := 682) (j := (i + 2)) rfl rfl (nI_addE (m := i) (n := 2) (rfl : nI i = nI i) (show (2 : Int32) = nI 2 from rfl)) (by omega) (by omega) rfl ?_
  refine w_callv (k := 19) (pc2 := 685) (c := zt_m127) (as := [.ref 0, .int (xs ((i + 1))), .int (xs ((i + 2)))]) (rest := []) rfl rfl rfl rfl cR.look rfl (Nat.le_of_ble_eq_true rfl) (Nat.le_of_ble_eq_true rfl) (hs h [.int (xs ((i + 1))), .int (xs ((i + 2)))] inv rfl (by simp)) (by decide) rfl (fun r h1 q => ?_)
  obtain ⟨vv, rfl, ⟨fs2, cM⟩, q2⟩ := q
  change zz_wp zt_ms zt_nm zt_df (zt_X L xs) 20 zt_law 685 [(3, .int (nI i)), (2, .ref 216), (1, .ref 0), (0, .ref 1000000)] [.int vv] h1 _
  refine w_aload_n (pc2 := 686) rfl rfl rfl ?_
  refine w_aload_n (pc2 := 687) rfl rfl rfl ?_
  refine w_iload_n (pc2 := 688) rfl rfl rfl ?_
  refine w_iconst (pc2 := 689) rfl rfl ?_
  refine w_iadd (pc2 := 690) rfl rfl ?_
  refine w_ialoadRK (pc2 := 691) (j := (i + 1)) rfl rfl (nI_addE (m := i) (n := 1) (rfl : nI i = nI i) (show (1 : Int32) = nI 1 from rfl)) (by omega) (by omega) rfl ?_
  refine w_aload_n (pc2 := 692) rfl rfl rfl ?_
  refine w_iload_n (pc2 := 693) rfl rfl rfl ?_
  refine w_iconst (pc2 := 694) rfl rfl ?_
  refine w_iadd (pc2 := 695) rfl rfl ?_
  refine w_ialoadRK (pc2 := 696) (j := (i + 2)) rfl rfl (nI_addE (m := i) (n := 2) (rfl : nI i = nI i) (show (2 : Int32) = nI 2 from rfl)) (by omega) (by omega) rfl ?_
  refine w_callv (k := 19) (pc2 := 699) (c := zt_m227) (as := [.ref 216, .int (xs ((i + 1))), .int (xs ((i + 2)))]) (rest := [.int vv]) rfl rfl rfl rfl cM.look rfl (Nat.le_of_ble_eq_true rfl) (Nat.le_of_ble_eq_true rfl) q2 (by decide) rfl (fun r h2 q => ?_)
  obtain ⟨rfl, inv2⟩ := q
  change zz_wp zt_ms zt_nm zt_df (zt_X L xs) 20 zt_law 699 [(3, .int (nI i)), (2, .ref 216), (1, .ref 0), (0, .ref 1000000)] [.int vv, .int vv] h2 _
  refine w_icmp_eq (pc2 := 702) rfl rfl (fun k699 => ?_) (fun k699 => ?_)
  · exact kk h2 inv2
  · refine w_iconst (pc2 := 703) rfl rfl ?_
    exact absurd rfl k699
set_option maxHeartbeats 4000000 in
set_option maxRecDepth 100000 in
theorem zl_case18 {L i : Nat} {xs : Nat → Int32} {Inv : ZH → Prop} {Q : Option Value → ZH → Prop} {h : ZH} (hL : L ≤ 3072) (hi : i + 6 ≤ L) (inv : Inv h) (hR : ∃ fs, zz_c h 0 (.inr (10, fs))) (hs : zl_step (zt_X L xs) Inv zt_m128 zt_m228 1) (kk : ∀ h2, Inv h2 → zz_wp zt_ms zt_nm zt_df (zt_X L xs) 20 zt_law 1179 [(3, .int (nI i)), (2, .ref 216), (1, .ref 0), (0, .ref 1000000)] [] h2 Q) : zz_wp zt_ms zt_nm zt_df (zt_X L xs) 20 zt_law 704 [(3, .int (nI i)), (2, .ref 216), (1, .ref 0), (0, .ref 1000000)] [] h Q := by
  obtain ⟨fs1, cR⟩ := hR
  refine w_aload_n (pc2 := 705) rfl rfl rfl ?_
  refine w_aload_n (pc2 := 706) rfl rfl rfl ?_
  refine w_iload_n (pc2 := 707) rfl rfl rfl ?_
  refine w_iconst (pc2 := 708) rfl rfl ?_
  refine w_iadd (pc2 := 709) rfl rfl ?_
  refine w_ialoadRK (pc2 := 710) (j := (i + 1)) rfl rfl (nI_addE (m := i) (n := 1) (rfl : nI i = nI i) (show (1 : Int32) = nI 1 from rfl)) (by omega) (by omega) rfl ?_
  refine w_callv (k := 19) (pc2 := 713) (c := zt_m128) (as := [.ref 0, .int (xs ((i + 1)))]) (rest := []) rfl rfl rfl rfl cR.look rfl (Nat.le_of_ble_eq_true rfl) (Nat.le_of_ble_eq_true rfl) (hs h [.int (xs ((i + 1)))] inv rfl (by simp)) (by decide) rfl (fun r h1 q => ?_)
  obtain ⟨vv, rfl, ⟨fs2, cM⟩, q2⟩ := q
  change zz_wp zt_ms zt_nm zt_df (zt_X L xs) 20 zt_law 713 [(3, .int (nI i)), (2, .ref 216), (1, .ref 0), (0, .ref 1000000)] [.int vv] h1 _
  refine w_aload_n (pc2 := 714) rfl rfl rfl ?_
  refine w_aload_n (pc2 := 715) rfl rfl rfl ?_
  refine w_iload_n (pc2 := 716) rfl rfl rfl ?_
  refine w_iconst (pc2 := 717) rfl rfl ?_
  refine w_iadd (pc2 := 718) rfl rfl ?_
  refine w_ialoadRK (pc2 := 719) (j := (i + 1)) rfl rfl (nI_addE (m := i) (n := 1) (rfl : nI i = nI i) (show (1 : Int32) = nI 1 from rfl)) (by omega) (by omega) rfl ?_
  refine w_callv (k := 19) (pc2 := 722) (c := zt_m228) (as := [.ref 216, .int (xs ((i + 1)))]) (rest := [.int vv]) rfl rfl rfl rfl cM.look rfl (Nat.le_of_ble_eq_true rfl) (Nat.le_of_ble_eq_true rfl) q2 (by decide) rfl (fun r h2 q => ?_)
  obtain ⟨rfl, inv2⟩ := q
  change zz_wp zt_ms zt_nm zt_df (zt_X L xs) 20 zt_law 722 [(3, .int (nI i)), (2, .ref 216), (1, .ref 0), (0, .ref 1000000)] [.int vv, .int vv] h2 _
  refine w_icmp_eq (pc2 := 725) rfl rfl (fun k722 => ?_) (fun k722 => ?_)
  · exact kk h2 inv2
  · refine w_iconst (pc2 := 726) rfl rfl ?_
    exact absurd rfl k722
set_option maxHeartbeats 4000000 in
set_option maxRecDepth 100000 in
theorem zl_case19 {L i : Nat} {xs : Nat → Int32} {Inv : ZH → Prop} {Q : Option Value → ZH → Prop} {h : ZH} (hL : L ≤ 3072) (hi : i + 6 ≤ L) (inv : Inv h) (hR : ∃ fs, zz_c h 0 (.inr (10, fs))) (hs : zl_step (zt_X L xs) Inv zt_m129 zt_m231 2) (kk : ∀ h2, Inv h2 → zz_wp zt_ms zt_nm zt_df (zt_X L xs) 20 zt_law 1179 [(3, .int (nI i)), (2, .ref 216), (1, .ref 0), (0, .ref 1000000)] [] h2 Q) : zz_wp zt_ms zt_nm zt_df (zt_X L xs) 20 zt_law 727 [(3, .int (nI i)), (2, .ref 216), (1, .ref 0), (0, .ref 1000000)] [] h Q := by
  obtain ⟨fs1, cR⟩ := hR
  refine w_aload_n (pc2 := 728) rfl rfl rfl ?_
  refine w_aload_n (pc2 := 729) rfl rfl rfl ?_
  refine w_iload_n (pc2 := 730) rfl rfl rfl ?_
  refine w_iconst (pc2 := 731) rfl rfl ?_
  refine w_iadd (pc2 := 732) rfl rfl ?_
  refine w_ialoadRK (pc2 := 733) (j := (i + 1)) rfl rfl (nI_addE (m := i) (n := 1) (rfl : nI i = nI i) (show (1 : Int32) = nI 1 from rfl)) (by omega) (by omega) rfl ?_
  refine w_aload_n (pc2 := 734) rfl rfl rfl ?_
  refine w_iload_n (pc2 := 735) rfl rfl rfl ?_
  refine w_iconst (pc2 := 736) rfl rfl ?_
  refine w_iadd (pc2 := 737) rfl rfl ?_
  refine w_ialoadRK (pc2 := 738) (j := (i + 2)) rfl rfl (nI_addE (m := i) (n := 2) (rfl : nI i = nI i) (show (2 : Int32) = nI 2 from rfl)) (by omega) (by omega) rfl ?_
  refine w_callv (k := 19) (pc2 := 741) (c := zt_m129) (as := [.ref 0, .int (xs ((i + 1))), .int (xs ((i + 2)))]) (rest := []) rfl rfl rfl rfl cR.look rfl (Nat.le_of_ble_eq_true rfl) (Nat.le_of_ble_eq_true rfl) (hs h [.int (xs ((i + 1))), .int (xs ((i + 2)))] inv rfl (by simp)) (by decide) rfl (fun r h1 q => ?_)
  obtain ⟨vv, rfl, ⟨fs2, cM⟩, q2⟩ := q
  change zz_wp zt_ms zt_nm zt_df (zt_X L xs) 20 zt_law 741 [(3, .int (nI i)), (2, .ref 216), (1, .ref 0), (0, .ref 1000000)] [.int vv] h1 _
  refine w_aload_n (pc2 := 742) rfl rfl rfl ?_
  refine w_aload_n (pc2 := 743) rfl rfl rfl ?_
  refine w_iload_n (pc2 := 744) rfl rfl rfl ?_
  refine w_iconst (pc2 := 745) rfl rfl ?_
  refine w_iadd (pc2 := 746) rfl rfl ?_
  refine w_ialoadRK (pc2 := 747) (j := (i + 1)) rfl rfl (nI_addE (m := i) (n := 1) (rfl : nI i = nI i) (show (1 : Int32) = nI 1 from rfl)) (by omega) (by omega) rfl ?_
  refine w_aload_n (pc2 := 748) rfl rfl rfl ?_
  refine w_iload_n (pc2 := 749) rfl rfl rfl ?_
  refine w_iconst (pc2 := 750) rfl rfl ?_
  refine w_iadd (pc2 := 751) rfl rfl ?_
  refine w_ialoadRK (pc2 := 752) (j := (i + 2)) rfl rfl (nI_addE (m := i) (n := 2) (rfl : nI i = nI i) (show (2 : Int32) = nI 2 from rfl)) (by omega) (by omega) rfl ?_
  refine w_callv (k := 19) (pc2 := 755) (c := zt_m231) (as := [.ref 216, .int (xs ((i + 1))), .int (xs ((i + 2)))]) (rest := [.int vv]) rfl rfl rfl rfl cM.look rfl (Nat.le_of_ble_eq_true rfl) (Nat.le_of_ble_eq_true rfl) q2 (by decide) rfl (fun r h2 q => ?_)
  obtain ⟨rfl, inv2⟩ := q
  change zz_wp zt_ms zt_nm zt_df (zt_X L xs) 20 zt_law 755 [(3, .int (nI i)), (2, .ref 216), (1, .ref 0), (0, .ref 1000000)] [.int vv, .int vv] h2 _
  refine w_icmp_eq (pc2 := 758) rfl rfl (fun k755 => ?_) (fun k755 => ?_)
  · exact kk h2 inv2
  · refine w_iconst (pc2 := 759) rfl rfl ?_
    exact absurd rfl k755
set_option maxHeartbeats 4000000 in
set_option maxRecDepth 100000 in
theorem zl_case20 {L i : Nat} {xs : Nat → Int32} {Inv : ZH → Prop} {Q : Option Value → ZH → Prop} {h : ZH} (hL : L ≤ 3072) (hi : i + 6 ≤ L) (inv : Inv h) (hR : ∃ fs, zz_c h 0 (.inr (10, fs))) (hs : zl_step (zt_X L xs) Inv zt_m130 zt_m233 3) (kk : ∀ h2, Inv h2 → zz_wp zt_ms zt_nm zt_df (zt_X L xs) 20 zt_law 1179 [(3, .int (nI i)), (2, .ref 216), (1, .ref 0), (0, .ref 1000000)] [] h2 Q) : zz_wp zt_ms zt_nm zt_df (zt_X L xs) 20 zt_law 760 [(3, .int (nI i)), (2, .ref 216), (1, .ref 0), (0, .ref 1000000)] [] h Q := by
  obtain ⟨fs1, cR⟩ := hR
  refine w_aload_n (pc2 := 761) rfl rfl rfl ?_
  refine w_aload_n (pc2 := 762) rfl rfl rfl ?_
  refine w_iload_n (pc2 := 763) rfl rfl rfl ?_
  refine w_iconst (pc2 := 764) rfl rfl ?_
  refine w_iadd (pc2 := 765) rfl rfl ?_
  refine w_ialoadRK (pc2 := 766) (j := (i + 1)) rfl rfl (nI_addE (m := i) (n := 1) (rfl : nI i = nI i) (show (1 : Int32) = nI 1 from rfl)) (by omega) (by omega) rfl ?_
  refine w_aload_n (pc2 := 767) rfl rfl rfl ?_
  refine w_iload_n (pc2 := 768) rfl rfl rfl ?_
  refine w_iconst (pc2 := 769) rfl rfl ?_
  refine w_iadd (pc2 := 770) rfl rfl ?_
  refine w_ialoadRK (pc2 := 771) (j := (i + 2)) rfl rfl (nI_addE (m := i) (n := 2) (rfl : nI i = nI i) (show (2 : Int32) = nI 2 from rfl)) (by omega) (by omega) rfl ?_
  refine w_aload_n (pc2 := 772) rfl rfl rfl ?_
  refine w_iload_n (pc2 := 773) rfl rfl rfl ?_
  refine w_iconst (pc2 := 774) rfl rfl ?_
  refine w_iadd (pc2 := 775) rfl rfl ?_
  refine w_ialoadRK (pc2 := 776) (j := (i + 3)) rfl rfl (nI_addE (m := i) (n := 3) (rfl : nI i = nI i) (show (3 : Int32) = nI 3 from rfl)) (by omega) (by omega) rfl ?_
  refine w_callv (k := 19) (pc2 := 779) (c := zt_m130) (as := [.ref 0, .int (xs ((i + 1))), .int (xs ((i + 2))), .int (xs ((i + 3)))]) (rest := []) rfl rfl rfl rfl cR.look rfl (Nat.le_of_ble_eq_true rfl) (Nat.le_of_ble_eq_true rfl) (hs h [.int (xs ((i + 1))), .int (xs ((i + 2))), .int (xs ((i + 3)))] inv rfl (by simp)) (by decide) rfl (fun r h1 q => ?_)
  obtain ⟨vv, rfl, ⟨fs2, cM⟩, q2⟩ := q
  change zz_wp zt_ms zt_nm zt_df (zt_X L xs) 20 zt_law 779 [(3, .int (nI i)), (2, .ref 216), (1, .ref 0), (0, .ref 1000000)] [.int vv] h1 _
  refine w_aload_n (pc2 := 780) rfl rfl rfl ?_
  refine w_aload_n (pc2 := 781) rfl rfl rfl ?_
  refine w_iload_n (pc2 := 782) rfl rfl rfl ?_
  refine w_iconst (pc2 := 783) rfl rfl ?_
  refine w_iadd (pc2 := 784) rfl rfl ?_
  refine w_ialoadRK (pc2 := 785) (j := (i + 1)) rfl rfl (nI_addE (m := i) (n := 1) (rfl : nI i = nI i) (show (1 : Int32) = nI 1 from rfl)) (by omega) (by omega) rfl ?_
  refine w_aload_n (pc2 := 786) rfl rfl rfl ?_
  refine w_iload_n (pc2 := 787) rfl rfl rfl ?_
  refine w_iconst (pc2 := 788) rfl rfl ?_
  refine w_iadd (pc2 := 789) rfl rfl ?_
  refine w_ialoadRK (pc2 := 790) (j := (i + 2)) rfl rfl (nI_addE (m := i) (n := 2) (rfl : nI i = nI i) (show (2 : Int32) = nI 2 from rfl)) (by omega) (by omega) rfl ?_
  refine w_aload_n (pc2 := 791) rfl rfl rfl ?_
  refine w_iload_n (pc2 := 792) rfl rfl rfl ?_
  refine w_iconst (pc2 := 793) rfl rfl ?_
  refine w_iadd (pc2 := 794) rfl rfl ?_
  refine w_ialoadRK (pc2 := 795) (j := (i + 3)) rfl rfl (nI_addE (m := i) (n := 3) (rfl : nI i = nI i) (show (3 : Int32) = nI 3 from rfl)) (by omega) (by omega) rfl ?_
  refine w_callv (k := 19) (pc2 := 798) (c := zt_m233) (as := [.ref 216, .int (xs ((i + 1))), .int (xs ((i + 2))), .int (xs ((i + 3)))]) (rest := [.int vv]) rfl rfl rfl rfl cM.look rfl (Nat.le_of_ble_eq_true rfl) (Nat.le_of_ble_eq_true rfl) q2 (by decide) rfl (fun r h2 q => ?_)
  obtain ⟨rfl, inv2⟩ := q
  change zz_wp zt_ms zt_nm zt_df (zt_X L xs) 20 zt_law 798 [(3, .int (nI i)), (2, .ref 216), (1, .ref 0), (0, .ref 1000000)] [.int vv, .int vv] h2 _
  refine w_icmp_eq (pc2 := 801) rfl rfl (fun k798 => ?_) (fun k798 => ?_)
  · exact kk h2 inv2
  · refine w_iconst (pc2 := 802) rfl rfl ?_
    exact absurd rfl k798
set_option maxHeartbeats 4000000 in
set_option maxRecDepth 100000 in
theorem zl_case21 {L i : Nat} {xs : Nat → Int32} {Inv : ZH → Prop} {Q : Option Value → ZH → Prop} {h : ZH} (hL : L ≤ 3072) (hi : i + 6 ≤ L) (inv : Inv h) (hR : ∃ fs, zz_c h 0 (.inr (10, fs))) (hs : zl_step (zt_X L xs) Inv zt_m131 zt_m234 3) (kk : ∀ h2, Inv h2 → zz_wp zt_ms zt_nm zt_df (zt_X L xs) 20 zt_law 1179 [(3, .int (nI i)), (2, .ref 216), (1, .ref 0), (0, .ref 1000000)] [] h2 Q) : zz_wp zt_ms zt_nm zt_df (zt_X L xs) 20 zt_law 803 [(3, .int (nI i)), (2, .ref 216), (1, .ref 0), (0, .ref 1000000)] [] h Q := by
  obtain ⟨fs1, cR⟩ := hR
  refine w_aload_n (pc2 := 804) rfl rfl rfl ?_
  refine w_aload_n (pc2 := 805) rfl rfl rfl ?_
  refine w_iload_n (pc2 := 806) rfl rfl rfl ?_
  refine w_iconst (pc2 := 807) rfl rfl ?_
  refine w_iadd (pc2 := 808) rfl rfl ?_
  refine w_ialoadRK (pc2 := 809) (j := (i + 1)) rfl rfl (nI_addE (m := i) (n := 1) (rfl : nI i = nI i) (show (1 : Int32) = nI 1 from rfl)) (by omega) (by omega) rfl ?_
  refine w_aload_n (pc2 := 810) rfl rfl rfl ?_
  refine w_iload_n (pc2 := 811) rfl rfl rfl ?_
  refine w_iconst (pc2 := 812) rfl rfl ?_
  refine w_iadd (pc2 := 813) rfl rfl ?_
  refine w_ialoadRK (pc2 := 814) (j := (i + 2)) rfl rfl (nI_addE (m := i) (n := 2) (rfl : nI i = nI i) (show (2 : Int32) = nI 2 from rfl)) (by omega) (by omega) rfl ?_
  refine w_aload_n (pc2 := 815) rfl rfl rfl ?_
  refine w_iload_n (pc2 := 816) rfl rfl rfl ?_
  refine w_iconst (pc2 := 817) rfl rfl ?_
  refine w_iadd (pc2 := 818) rfl rfl ?_
  refine w_ialoadRK (pc2 := 819) (j := (i + 3)) rfl rfl (nI_addE (m := i) (n := 3) (rfl : nI i = nI i) (show (3 : Int32) = nI 3 from rfl)) (by omega) (by omega) rfl ?_
  refine w_callv (k := 19) (pc2 := 822) (c := zt_m131) (as := [.ref 0, .int (xs ((i + 1))), .int (xs ((i + 2))), .int (xs ((i + 3)))]) (rest := []) rfl rfl rfl rfl cR.look rfl (Nat.le_of_ble_eq_true rfl) (Nat.le_of_ble_eq_true rfl) (hs h [.int (xs ((i + 1))), .int (xs ((i + 2))), .int (xs ((i + 3)))] inv rfl (by simp)) (by decide) rfl (fun r h1 q => ?_)
  obtain ⟨vv, rfl, ⟨fs2, cM⟩, q2⟩ := q
  change zz_wp zt_ms zt_nm zt_df (zt_X L xs) 20 zt_law 822 [(3, .int (nI i)), (2, .ref 216), (1, .ref 0), (0, .ref 1000000)] [.int vv] h1 _
  refine w_aload_n (pc2 := 823) rfl rfl rfl ?_
  refine w_aload_n (pc2 := 824) rfl rfl rfl ?_
  refine w_iload_n (pc2 := 825) rfl rfl rfl ?_
  refine w_iconst (pc2 := 826) rfl rfl ?_
  refine w_iadd (pc2 := 827) rfl rfl ?_
  refine w_ialoadRK (pc2 := 828) (j := (i + 1)) rfl rfl (nI_addE (m := i) (n := 1) (rfl : nI i = nI i) (show (1 : Int32) = nI 1 from rfl)) (by omega) (by omega) rfl ?_
  refine w_aload_n (pc2 := 829) rfl rfl rfl ?_
  refine w_iload_n (pc2 := 830) rfl rfl rfl ?_
  refine w_iconst (pc2 := 831) rfl rfl ?_
  refine w_iadd (pc2 := 832) rfl rfl ?_
  refine w_ialoadRK (pc2 := 833) (j := (i + 2)) rfl rfl (nI_addE (m := i) (n := 2) (rfl : nI i = nI i) (show (2 : Int32) = nI 2 from rfl)) (by omega) (by omega) rfl ?_
  refine w_aload_n (pc2 := 834) rfl rfl rfl ?_
  refine w_iload_n (pc2 := 835) rfl rfl rfl ?_
  refine w_iconst (pc2 := 836) rfl rfl ?_
  refine w_iadd (pc2 := 837) rfl rfl ?_
  refine w_ialoadRK (pc2 := 838) (j := (i + 3)) rfl rfl (nI_addE (m := i) (n := 3) (rfl : nI i = nI i) (show (3 : Int32) = nI 3 from rfl)) (by omega) (by omega) rfl ?_
  refine w_callv (k := 19) (pc2 := 841) (c := zt_m234) (as := [.ref 216, .int (xs ((i + 1))), .int (xs ((i + 2))), .int (xs ((i + 3)))]) (rest := [.int vv]) rfl rfl rfl rfl cM.look rfl (Nat.le_of_ble_eq_true rfl) (Nat.le_of_ble_eq_true rfl) q2 (by decide) rfl (fun r h2 q => ?_)
  obtain ⟨rfl, inv2⟩ := q
  change zz_wp zt_ms zt_nm zt_df (zt_X L xs) 20 zt_law 841 [(3, .int (nI i)), (2, .ref 216), (1, .ref 0), (0, .ref 1000000)] [.int vv, .int vv] h2 _
  refine w_icmp_eq (pc2 := 844) rfl rfl (fun k841 => ?_) (fun k841 => ?_)
  · exact kk h2 inv2
  · refine w_iconst (pc2 := 845) rfl rfl ?_
    exact absurd rfl k841
set_option maxHeartbeats 4000000 in
set_option maxRecDepth 100000 in
theorem zl_case22 {L i : Nat} {xs : Nat → Int32} {Inv : ZH → Prop} {Q : Option Value → ZH → Prop} {h : ZH} (hL : L ≤ 3072) (hi : i + 6 ≤ L) (inv : Inv h) (hR : ∃ fs, zz_c h 0 (.inr (10, fs))) (hs : zl_step (zt_X L xs) Inv zt_m132 zt_m239 1) (kk : ∀ h2, Inv h2 → zz_wp zt_ms zt_nm zt_df (zt_X L xs) 20 zt_law 1179 [(3, .int (nI i)), (2, .ref 216), (1, .ref 0), (0, .ref 1000000)] [] h2 Q) : zz_wp zt_ms zt_nm zt_df (zt_X L xs) 20 zt_law 846 [(3, .int (nI i)), (2, .ref 216), (1, .ref 0), (0, .ref 1000000)] [] h Q := by
  obtain ⟨fs1, cR⟩ := hR
  refine w_aload_n (pc2 := 847) rfl rfl rfl ?_
  refine w_aload_n (pc2 := 848) rfl rfl rfl ?_
  refine w_iload_n (pc2 := 849) rfl rfl rfl ?_
  refine w_iconst (pc2 := 850) rfl rfl ?_
  refine w_iadd (pc2 := 851) rfl rfl ?_
  refine w_ialoadRK (pc2 := 852) (j := (i + 1)) rfl rfl (nI_addE (m := i) (n := 1) (rfl : nI i = nI i) (show (1 : Int32) = nI 1 from rfl)) (by omega) (by omega) rfl ?_
  refine w_callv (k := 19) (pc2 := 855) (c := zt_m132) (as := [.ref 0, .int (xs ((i + 1)))]) (rest := []) rfl rfl rfl rfl cR.look rfl (Nat.le_of_ble_eq_true rfl) (Nat.le_of_ble_eq_true rfl) (hs h [.int (xs ((i + 1)))] inv rfl (by simp)) (by decide) rfl (fun r h1 q => ?_)
  obtain ⟨vv, rfl, ⟨fs2, cM⟩, q2⟩ := q
  change zz_wp zt_ms zt_nm zt_df (zt_X L xs) 20 zt_law 855 [(3, .int (nI i)), (2, .ref 216), (1, .ref 0), (0, .ref 1000000)] [.int vv] h1 _
  refine w_aload_n (pc2 := 856) rfl rfl rfl ?_
  refine w_aload_n (pc2 := 857) rfl rfl rfl ?_
  refine w_iload_n (pc2 := 858) rfl rfl rfl ?_
  refine w_iconst (pc2 := 859) rfl rfl ?_
  refine w_iadd (pc2 := 860) rfl rfl ?_
  refine w_ialoadRK (pc2 := 861) (j := (i + 1)) rfl rfl (nI_addE (m := i) (n := 1) (rfl : nI i = nI i) (show (1 : Int32) = nI 1 from rfl)) (by omega) (by omega) rfl ?_
  refine w_callv (k := 19) (pc2 := 864) (c := zt_m239) (as := [.ref 216, .int (xs ((i + 1)))]) (rest := [.int vv]) rfl rfl rfl rfl cM.look rfl (Nat.le_of_ble_eq_true rfl) (Nat.le_of_ble_eq_true rfl) q2 (by decide) rfl (fun r h2 q => ?_)
  obtain ⟨rfl, inv2⟩ := q
  change zz_wp zt_ms zt_nm zt_df (zt_X L xs) 20 zt_law 864 [(3, .int (nI i)), (2, .ref 216), (1, .ref 0), (0, .ref 1000000)] [.int vv, .int vv] h2 _
  refine w_icmp_eq (pc2 := 867) rfl rfl (fun k864 => ?_) (fun k864 => ?_)
  · exact kk h2 inv2
  · refine w_iconst (pc2 := 868) rfl rfl ?_
    exact absurd rfl k864
set_option maxHeartbeats 4000000 in
set_option maxRecDepth 100000 in
theorem zl_case23 {L i : Nat} {xs : Nat → Int32} {Inv : ZH → Prop} {Q : Option Value → ZH → Prop} {h : ZH} (hL : L ≤ 3072) (hi : i + 6 ≤ L) (inv : Inv h) (hR : ∃ fs, zz_c h 0 (.inr (10, fs))) (hs : zl_step (zt_X L xs) Inv zt_m133 zt_m240 2) (kk : ∀ h2, Inv h2 → zz_wp zt_ms zt_nm zt_df (zt_X L xs) 20 zt_law 1179 [(3, .int (nI i)), (2, .ref 216), (1, .ref 0), (0, .ref 1000000)] [] h2 Q) : zz_wp zt_ms zt_nm zt_df (zt_X L xs) 20 zt_law 869 [(3, .int (nI i)), (2, .ref 216), (1, .ref 0), (0, .ref 1000000)] [] h Q := by
  obtain ⟨fs1, cR⟩ := hR
  refine w_aload_n (pc2 := 870) rfl rfl rfl ?_
  refine w_aload_n (pc2 := 871) rfl rfl rfl ?_
  refine w_iload_n (pc2 := 872) rfl rfl rfl ?_
  refine w_iconst (pc2 := 873) rfl rfl ?_
  refine w_iadd (pc2 := 874) rfl rfl ?_
  refine w_ialoadRK (pc2 := 875) (j := (i + 1)) rfl rfl (nI_addE (m := i) (n := 1) (rfl : nI i = nI i) (show (1 : Int32) = nI 1 from rfl)) (by omega) (by omega) rfl ?_
  refine w_aload_n (pc2 := 876) rfl rfl rfl ?_
  refine w_iload_n (pc2 := 877) rfl rfl rfl ?_
  refine w_iconst (pc2 := 878) rfl rfl ?_
  refine w_iadd (pc2 := 879) rfl rfl ?_
  refine w_ialoadRK (pc2 := 880) (j := (i + 2)) rfl rfl (nI_addE (m := i) (n := 2) (rfl : nI i = nI i) (show (2 : Int32) = nI 2 from rfl)) (by omega) (by omega) rfl ?_
  refine w_callv (k := 19) (pc2 := 883) (c := zt_m133) (as := [.ref 0, .int (xs ((i + 1))), .int (xs ((i + 2)))]) (rest := []) rfl rfl rfl rfl cR.look rfl (Nat.le_of_ble_eq_true rfl) (Nat.le_of_ble_eq_true rfl) (hs h [.int (xs ((i + 1))), .int (xs ((i + 2)))] inv rfl (by simp)) (by decide) rfl (fun r h1 q => ?_)
  obtain ⟨vv, rfl, ⟨fs2, cM⟩, q2⟩ := q
  change zz_wp zt_ms zt_nm zt_df (zt_X L xs) 20 zt_law 883 [(3, .int (nI i)), (2, .ref 216), (1, .ref 0), (0, .ref 1000000)] [.int vv] h1 _
  refine w_aload_n (pc2 := 884) rfl rfl rfl ?_
  refine w_aload_n (pc2 := 885) rfl rfl rfl ?_
  refine w_iload_n (pc2 := 886) rfl rfl rfl ?_
  refine w_iconst (pc2 := 887) rfl rfl ?_
  refine w_iadd (pc2 := 888) rfl rfl ?_
  refine w_ialoadRK (pc2 := 889) (j := (i + 1)) rfl rfl (nI_addE (m := i) (n := 1) (rfl : nI i = nI i) (show (1 : Int32) = nI 1 from rfl)) (by omega) (by omega) rfl ?_
  refine w_aload_n (pc2 := 890) rfl rfl rfl ?_
  refine w_iload_n (pc2 := 891) rfl rfl rfl ?_
  refine w_iconst (pc2 := 892) rfl rfl ?_
  refine w_iadd (pc2 := 893) rfl rfl ?_
  refine w_ialoadRK (pc2 := 894) (j := (i + 2)) rfl rfl (nI_addE (m := i) (n := 2) (rfl : nI i = nI i) (show (2 : Int32) = nI 2 from rfl)) (by omega) (by omega) rfl ?_
  refine w_callv (k := 19) (pc2 := 897) (c := zt_m240) (as := [.ref 216, .int (xs ((i + 1))), .int (xs ((i + 2)))]) (rest := [.int vv]) rfl rfl rfl rfl cM.look rfl (Nat.le_of_ble_eq_true rfl) (Nat.le_of_ble_eq_true rfl) q2 (by decide) rfl (fun r h2 q => ?_)
  obtain ⟨rfl, inv2⟩ := q
  change zz_wp zt_ms zt_nm zt_df (zt_X L xs) 20 zt_law 897 [(3, .int (nI i)), (2, .ref 216), (1, .ref 0), (0, .ref 1000000)] [.int vv, .int vv] h2 _
  refine w_icmp_eq (pc2 := 900) rfl rfl (fun k897 => ?_) (fun k897 => ?_)
  · exact kk h2 inv2
  · refine w_iconst (pc2 := 901) rfl rfl ?_
    exact absurd rfl k897
set_option maxHeartbeats 4000000 in
set_option maxRecDepth 100000 in
theorem zl_case24 {L i : Nat} {xs : Nat → Int32} {Inv : ZH → Prop} {Q : Option Value → ZH → Prop} {h : ZH} (hL : L ≤ 3072) (hi : i + 6 ≤ L) (inv : Inv h) (hR : ∃ fs, zz_c h 0 (.inr (10, fs))) (hs : zl_step (zt_X L xs) Inv zt_m134 zt_m241 2) (kk : ∀ h2, Inv h2 → zz_wp zt_ms zt_nm zt_df (zt_X L xs) 20 zt_law 1179 [(3, .int (nI i)), (2, .ref 216), (1, .ref 0), (0, .ref 1000000)] [] h2 Q) : zz_wp zt_ms zt_nm zt_df (zt_X L xs) 20 zt_law 902 [(3, .int (nI i)), (2, .ref 216), (1, .ref 0), (0, .ref 1000000)] [] h Q := by
  obtain ⟨fs1, cR⟩ := hR
  refine w_aload_n (pc2 := 903) rfl rfl rfl ?_
  refine w_aload_n (pc2 := 904) rfl rfl rfl ?_
  refine w_iload_n (pc2 := 905) rfl rfl rfl ?_
  refine w_iconst (pc2 := 906) rfl rfl ?_
  refine w_iadd (pc2 := 907) rfl rfl ?_
  refine w_ialoadRK (pc2 := 908) (j := (i + 1)) rfl rfl (nI_addE (m := i) (n := 1) (rfl : nI i = nI i) (show (1 : Int32) = nI 1 from rfl)) (by omega) (by omega) rfl ?_
  refine w_aload_n (pc2 := 909) rfl rfl rfl ?_
  refine w_iload_n (pc2 := 910) rfl rfl rfl ?_
  refine w_iconst (pc2 := 911) rfl rfl ?_
  refine w_iadd (pc2 := 912) rfl rfl ?_
  refine w_ialoadRK (pc2 := 913) (j := (i + 2)) rfl rfl (nI_addE (m := i) (n := 2) (rfl : nI i = nI i) (show (2 : Int32) = nI 2 from rfl)) (by omega) (by omega) rfl ?_
  refine w_callv (k := 19) (pc2 := 916) (c := zt_m134) (as := [.ref 0, .int (xs ((i + 1))), .int (xs ((i + 2)))]) (rest := []) rfl rfl rfl rfl cR.look rfl (Nat.le_of_ble_eq_true rfl) (Nat.le_of_ble_eq_true rfl) (hs h [.int (xs ((i + 1))), .int (xs ((i + 2)))] inv rfl (by simp)) (by decide) rfl (fun r h1 q => ?_)
  obtain ⟨vv, rfl, ⟨fs2, cM⟩, q2⟩ := q
  change zz_wp zt_ms zt_nm zt_df (zt_X L xs) 20 zt_law 916 [(3, .int (nI i)), (2, .ref 216), (1, .ref 0), (0, .ref 1000000)] [.int vv] h1 _
  refine w_aload_n (pc2 := 917) rfl rfl rfl ?_
  refine w_aload_n (pc2 := 918) rfl rfl rfl ?_
  refine w_iload_n (pc2 := 919) rfl rfl rfl ?_
  refine w_iconst (pc2 := 920) rfl rfl ?_
  refine w_iadd (pc2 := 921) rfl rfl ?_
  refine w_ialoadRK (pc2 := 922) (j := (i + 1)) rfl rfl (nI_addE (m := i) (n := 1) (rfl : nI i = nI i) (show (1 : Int32) = nI 1 from rfl)) (by omega) (by omega) rfl ?_
  refine w_aload_n (pc2 := 923) rfl rfl rfl ?_
  refine w_iload_n (pc2 := 924) rfl rfl rfl ?_
  refine w_iconst (pc2 := 925) rfl rfl ?_
  refine w_iadd (pc2 := 926) rfl rfl ?_
  refine w_ialoadRK (pc2 := 927) (j := (i + 2)) rfl rfl (nI_addE (m := i) (n := 2) (rfl : nI i = nI i) (show (2 : Int32) = nI 2 from rfl)) (by omega) (by omega) rfl ?_
  refine w_callv (k := 19) (pc2 := 930) (c := zt_m241) (as := [.ref 216, .int (xs ((i + 1))), .int (xs ((i + 2)))]) (rest := [.int vv]) rfl rfl rfl rfl cM.look rfl (Nat.le_of_ble_eq_true rfl) (Nat.le_of_ble_eq_true rfl) q2 (by decide) rfl (fun r h2 q => ?_)
  obtain ⟨rfl, inv2⟩ := q
  change zz_wp zt_ms zt_nm zt_df (zt_X L xs) 20 zt_law 930 [(3, .int (nI i)), (2, .ref 216), (1, .ref 0), (0, .ref 1000000)] [.int vv, .int vv] h2 _
  refine w_icmp_eq (pc2 := 933) rfl rfl (fun k930 => ?_) (fun k930 => ?_)
  · exact kk h2 inv2
  · refine w_iconst (pc2 := 934) rfl rfl ?_
    exact absurd rfl k930
set_option maxHeartbeats 4000000 in
set_option maxRecDepth 100000 in
theorem zl_case25 {L i : Nat} {xs : Nat → Int32} {Inv : ZH → Prop} {Q : Option Value → ZH → Prop} {h : ZH} (hL : L ≤ 3072) (hi : i + 6 ≤ L) (inv : Inv h) (hR : ∃ fs, zz_c h 0 (.inr (10, fs))) (hs : zl_step (zt_X L xs) Inv zt_m135 zt_m242 3) (kk : ∀ h2, Inv h2 → zz_wp zt_ms zt_nm zt_df (zt_X L xs) 20 zt_law 1179 [(3, .int (nI i)), (2, .ref 216), (1, .ref 0), (0, .ref 1000000)] [] h2 Q) : zz_wp zt_ms zt_nm zt_df (zt_X L xs) 20 zt_law 935 [(3, .int (nI i)), (2, .ref 216), (1, .ref 0), (0, .ref 1000000)] [] h Q := by
  obtain ⟨fs1, cR⟩ := hR
  refine w_aload_n (pc2 := 936) rfl rfl rfl ?_
  refine w_aload_n (pc2 := 937) rfl rfl rfl ?_
  refine w_iload_n (pc2 := 938) rfl rfl rfl ?_
  refine w_iconst (pc2 := 939) rfl rfl ?_
  refine w_iadd (pc2 := 940) rfl rfl ?_
  refine w_ialoadRK (pc2 := 941) (j := (i + 1)) rfl rfl (nI_addE (m := i) (n := 1) (rfl : nI i = nI i) (show (1 : Int32) = nI 1 from rfl)) (by omega) (by omega) rfl ?_
  refine w_aload_n (pc2 := 942) rfl rfl rfl ?_
  refine w_iload_n (pc2 := 943) rfl rfl rfl ?_
  refine w_iconst (pc2 := 944) rfl rfl ?_
  refine w_iadd (pc2 := 945) rfl rfl ?_
  refine w_ialoadRK (pc2 := 946) (j := (i + 2)) rfl rfl (nI_addE (m := i) (n := 2) (rfl : nI i = nI i) (show (2 : Int32) = nI 2 from rfl)) (by omega) (by omega) rfl ?_
  refine w_aload_n (pc2 := 947) rfl rfl rfl ?_
  refine w_iload_n (pc2 := 948) rfl rfl rfl ?_
  refine w_iconst (pc2 := 949) rfl rfl ?_
  refine w_iadd (pc2 := 950) rfl rfl ?_
  refine w_ialoadRK (pc2 := 951) (j := (i + 3)) rfl rfl (nI_addE (m := i) (n := 3) (rfl : nI i = nI i) (show (3 : Int32) = nI 3 from rfl)) (by omega) (by omega) rfl ?_
  refine w_callv (k := 19) (pc2 := 954) (c := zt_m135) (as := [.ref 0, .int (xs ((i + 1))), .int (xs ((i + 2))), .int (xs ((i + 3)))]) (rest := []) rfl rfl rfl rfl cR.look rfl (Nat.le_of_ble_eq_true rfl) (Nat.le_of_ble_eq_true rfl) (hs h [.int (xs ((i + 1))), .int (xs ((i + 2))), .int (xs ((i + 3)))] inv rfl (by simp)) (by decide) rfl (fun r h1 q => ?_)
  obtain ⟨vv, rfl, ⟨fs2, cM⟩, q2⟩ := q
  change zz_wp zt_ms zt_nm zt_df (zt_X L xs) 20 zt_law 954 [(3, .int (nI i)), (2, .ref 216), (1, .ref 0), (0, .ref 1000000)] [.int vv] h1 _
  refine w_aload_n (pc2 := 955) rfl rfl rfl ?_
  refine w_aload_n (pc2 := 956) rfl rfl rfl ?_
  refine w_iload_n (pc2 := 957) rfl rfl rfl ?_
  refine w_iconst (pc2 := 958) rfl rfl ?_
  refine w_iadd (pc2 := 959) rfl rfl ?_
  refine w_ialoadRK (pc2 := 960) (j := (i + 1)) rfl rfl (nI_addE (m := i) (n := 1) (rfl : nI i = nI i) (show (1 : Int32) = nI 1 from rfl)) (by omega) (by omega) rfl ?_
  refine w_aload_n (pc2 := 961) rfl rfl rfl ?_
  refine w_iload_n (pc2 := 962) rfl rfl rfl ?_
  refine w_iconst (pc2 := 963) rfl rfl ?_
  refine w_iadd (pc2 := 964) rfl rfl ?_
  refine w_ialoadRK (pc2 := 965) (j := (i + 2)) rfl rfl (nI_addE (m := i) (n := 2) (rfl : nI i = nI i) (show (2 : Int32) = nI 2 from rfl)) (by omega) (by omega) rfl ?_
  refine w_aload_n (pc2 := 966) rfl rfl rfl ?_
  refine w_iload_n (pc2 := 967) rfl rfl rfl ?_
  refine w_iconst (pc2 := 968) rfl rfl ?_
  refine w_iadd (pc2 := 969) rfl rfl ?_
  refine w_ialoadRK (pc2 := 970) (j := (i + 3)) rfl rfl (nI_addE (m := i) (n := 3) (rfl : nI i = nI i) (show (3 : Int32) = nI 3 from rfl)) (by omega) (by omega) rfl ?_
  refine w_callv (k := 19) (pc2 := 973) (c := zt_m242) (as := [.ref 216, .int (xs ((i + 1))), .int (xs ((i + 2))), .int (xs ((i + 3)))]) (rest := [.int vv]) rfl rfl rfl rfl cM.look rfl (Nat.le_of_ble_eq_true rfl) (Nat.le_of_ble_eq_true rfl) q2 (by decide) rfl (fun r h2 q => ?_)
  obtain ⟨rfl, inv2⟩ := q
  change zz_wp zt_ms zt_nm zt_df (zt_X L xs) 20 zt_law 973 [(3, .int (nI i)), (2, .ref 216), (1, .ref 0), (0, .ref 1000000)] [.int vv, .int vv] h2 _
  refine w_icmp_eq (pc2 := 976) rfl rfl (fun k973 => ?_) (fun k973 => ?_)
  · exact kk h2 inv2
  · refine w_iconst (pc2 := 977) rfl rfl ?_
    exact absurd rfl k973
set_option maxHeartbeats 4000000 in
set_option maxRecDepth 100000 in
theorem zl_case26 {L i : Nat} {xs : Nat → Int32} {Inv : ZH → Prop} {Q : Option Value → ZH → Prop} {h : ZH} (hL : L ≤ 3072) (hi : i + 6 ≤ L) (inv : Inv h) (hR : ∃ fs, zz_c h 0 (.inr (10, fs))) (hs : zl_step (zt_X L xs) Inv zt_m136 zt_m243 1) (kk : ∀ h2, Inv h2 → zz_wp zt_ms zt_nm zt_df (zt_X L xs) 20 zt_law 1179 [(3, .int (nI i)), (2, .ref 216), (1, .ref 0), (0, .ref 1000000)] [] h2 Q) : zz_wp zt_ms zt_nm zt_df (zt_X L xs) 20 zt_law 978 [(3, .int (nI i)), (2, .ref 216), (1, .ref 0), (0, .ref 1000000)] [] h Q := by
  obtain ⟨fs1, cR⟩ := hR
  refine w_aload_n (pc2 := 979) rfl rfl rfl ?_
  refine w_aload_n (pc2 := 980) rfl rfl rfl ?_
  refine w_iload_n (pc2 := 981) rfl rfl rfl ?_
  refine w_iconst (pc2 := 982) rfl rfl ?_
  refine w_iadd (pc2 := 983) rfl rfl ?_
  refine w_ialoadRK (pc2 := 984) (j := (i + 1)) rfl rfl (nI_addE (m := i) (n := 1) (rfl : nI i = nI i) (show (1 : Int32) = nI 1 from rfl)) (by omega) (by omega) rfl ?_
  refine w_callv (k := 19) (pc2 := 987) (c := zt_m136) (as := [.ref 0, .int (xs ((i + 1)))]) (rest := []) rfl rfl rfl rfl cR.look rfl (Nat.le_of_ble_eq_true rfl) (Nat.le_of_ble_eq_true rfl) (hs h [.int (xs ((i + 1)))] inv rfl (by simp)) (by decide) rfl (fun r h1 q => ?_)
  obtain ⟨vv, rfl, ⟨fs2, cM⟩, q2⟩ := q
  change zz_wp zt_ms zt_nm zt_df (zt_X L xs) 20 zt_law 987 [(3, .int (nI i)), (2, .ref 216), (1, .ref 0), (0, .ref 1000000)] [.int vv] h1 _
  refine w_aload_n (pc2 := 988) rfl rfl rfl ?_
  refine w_aload_n (pc2 := 989) rfl rfl rfl ?_
  refine w_iload_n (pc2 := 990) rfl rfl rfl ?_
  refine w_iconst (pc2 := 991) rfl rfl ?_
  refine w_iadd (pc2 := 992) rfl rfl ?_
  refine w_ialoadRK (pc2 := 993) (j := (i + 1)) rfl rfl (nI_addE (m := i) (n := 1) (rfl : nI i = nI i) (show (1 : Int32) = nI 1 from rfl)) (by omega) (by omega) rfl ?_
  refine w_callv (k := 19) (pc2 := 996) (c := zt_m243) (as := [.ref 216, .int (xs ((i + 1)))]) (rest := [.int vv]) rfl rfl rfl rfl cM.look rfl (Nat.le_of_ble_eq_true rfl) (Nat.le_of_ble_eq_true rfl) q2 (by decide) rfl (fun r h2 q => ?_)
  obtain ⟨rfl, inv2⟩ := q
  change zz_wp zt_ms zt_nm zt_df (zt_X L xs) 20 zt_law 996 [(3, .int (nI i)), (2, .ref 216), (1, .ref 0), (0, .ref 1000000)] [.int vv, .int vv] h2 _
  refine w_icmp_eq (pc2 := 999) rfl rfl (fun k996 => ?_) (fun k996 => ?_)
  · exact kk h2 inv2
  · refine w_iconst (pc2 := 1000) rfl rfl ?_
    exact absurd rfl k996
set_option maxHeartbeats 4000000 in
set_option maxRecDepth 100000 in
theorem zl_case27 {L i : Nat} {xs : Nat → Int32} {Inv : ZH → Prop} {Q : Option Value → ZH → Prop} {h : ZH} (hL : L ≤ 3072) (hi : i + 6 ≤ L) (inv : Inv h) (hR : ∃ fs, zz_c h 0 (.inr (10, fs))) (hs : zl_step (zt_X L xs) Inv zt_m137 zt_m246 2) (kk : ∀ h2, Inv h2 → zz_wp zt_ms zt_nm zt_df (zt_X L xs) 20 zt_law 1179 [(3, .int (nI i)), (2, .ref 216), (1, .ref 0), (0, .ref 1000000)] [] h2 Q) : zz_wp zt_ms zt_nm zt_df (zt_X L xs) 20 zt_law 1001 [(3, .int (nI i)), (2, .ref 216), (1, .ref 0), (0, .ref 1000000)] [] h Q := by
  obtain ⟨fs1, cR⟩ := hR
  refine w_aload_n (pc2 := 1002) rfl rfl rfl ?_
  refine w_aload_n (pc2 := 1003) rfl rfl rfl ?_
  refine w_iload_n (pc2 := 1004) rfl rfl rfl ?_
  refine w_iconst (pc2 := 1005) rfl rfl ?_
  refine w_iadd (pc2 := 1006) rfl rfl ?_
  refine w_ialoadRK (pc2 := 1007) (j := (i + 1)) rfl rfl (nI_addE (m := i) (n := 1) (rfl : nI i = nI i) (show (1 : Int32) = nI 1 from rfl)) (by omega) (by omega) rfl ?_
  refine w_aload_n (pc2 := 1008) rfl rfl rfl ?_
  refine w_iload_n (pc2 := 1009) rfl rfl rfl ?_
  refine w_iconst (pc2 := 1010) rfl rfl ?_
  refine w_iadd (pc2 := 1011) rfl rfl ?_
  refine w_ialoadRK (pc2 := 1012) (j := (i + 2)) rfl rfl (nI_addE (m := i) (n := 2) (rfl : nI i = nI i) (show (2 : Int32) = nI 2 from rfl)) (by omega) (by omega) rfl ?_
  refine w_callv (k := 19) (pc2 := 1015) (c := zt_m137) (as := [.ref 0, .int (xs ((i + 1))), .int (xs ((i + 2)))]) (rest := []) rfl rfl rfl rfl cR.look rfl (Nat.le_of_ble_eq_true rfl) (Nat.le_of_ble_eq_true rfl) (hs h [.int (xs ((i + 1))), .int (xs ((i + 2)))] inv rfl (by simp)) (by decide) rfl (fun r h1 q => ?_)
  obtain ⟨vv, rfl, ⟨fs2, cM⟩, q2⟩ := q
  change zz_wp zt_ms zt_nm zt_df (zt_X L xs) 20 zt_law 1015 [(3, .int (nI i)), (2, .ref 216), (1, .ref 0), (0, .ref 1000000)] [.int vv] h1 _
  refine w_aload_n (pc2 := 1016) rfl rfl rfl ?_
  refine w_aload_n (pc2 := 1017) rfl rfl rfl ?_
  refine w_iload_n (pc2 := 1018) rfl rfl rfl ?_
  refine w_iconst (pc2 := 1019) rfl rfl ?_
  refine w_iadd (pc2 := 1020) rfl rfl ?_
  refine w_ialoadRK (pc2 := 1021) (j := (i + 1)) rfl rfl (nI_addE (m := i) (n := 1) (rfl : nI i = nI i) (show (1 : Int32) = nI 1 from rfl)) (by omega) (by omega) rfl ?_
  refine w_aload_n (pc2 := 1022) rfl rfl rfl ?_
  refine w_iload_n (pc2 := 1023) rfl rfl rfl ?_
  refine w_iconst (pc2 := 1024) rfl rfl ?_
  refine w_iadd (pc2 := 1025) rfl rfl ?_
  refine w_ialoadRK (pc2 := 1026) (j := (i + 2)) rfl rfl (nI_addE (m := i) (n := 2) (rfl : nI i = nI i) (show (2 : Int32) = nI 2 from rfl)) (by omega) (by omega) rfl ?_
  refine w_callv (k := 19) (pc2 := 1029) (c := zt_m246) (as := [.ref 216, .int (xs ((i + 1))), .int (xs ((i + 2)))]) (rest := [.int vv]) rfl rfl rfl rfl cM.look rfl (Nat.le_of_ble_eq_true rfl) (Nat.le_of_ble_eq_true rfl) q2 (by decide) rfl (fun r h2 q => ?_)
  obtain ⟨rfl, inv2⟩ := q
  change zz_wp zt_ms zt_nm zt_df (zt_X L xs) 20 zt_law 1029 [(3, .int (nI i)), (2, .ref 216), (1, .ref 0), (0, .ref 1000000)] [.int vv, .int vv] h2 _
  refine w_icmp_eq (pc2 := 1032) rfl rfl (fun k1029 => ?_) (fun k1029 => ?_)
  · exact kk h2 inv2
  · refine w_iconst (pc2 := 1033) rfl rfl ?_
    exact absurd rfl k1029
set_option maxHeartbeats 4000000 in
set_option maxRecDepth 100000 in
theorem zl_case28 {L i : Nat} {xs : Nat → Int32} {Inv : ZH → Prop} {Q : Option Value → ZH → Prop} {h : ZH} (hL : L ≤ 3072) (hi : i + 6 ≤ L) (inv : Inv h) (hR : ∃ fs, zz_c h 0 (.inr (10, fs))) (hs : zl_step (zt_X L xs) Inv zt_m138 zt_m248 1) (kk : ∀ h2, Inv h2 → zz_wp zt_ms zt_nm zt_df (zt_X L xs) 20 zt_law 1179 [(3, .int (nI i)), (2, .ref 216), (1, .ref 0), (0, .ref 1000000)] [] h2 Q) : zz_wp zt_ms zt_nm zt_df (zt_X L xs) 20 zt_law 1034 [(3, .int (nI i)), (2, .ref 216), (1, .ref 0), (0, .ref 1000000)] [] h Q := by
  obtain ⟨fs1, cR⟩ := hR
  refine w_aload_n (pc2 := 1035) rfl rfl rfl ?_
  refine w_aload_n (pc2 := 1036) rfl rfl rfl ?_
  refine w_iload_n (pc2 := 1037) rfl rfl rfl ?_
  refine w_iconst (pc2 := 1038) rfl rfl ?_
  refine w_iadd (pc2 := 1039) rfl rfl ?_
  refine w_ialoadRK (pc2 := 1040) (j := (i + 1)) rfl rfl (nI_addE (m := i) (n := 1) (rfl : nI i = nI i) (show (1 : Int32) = nI 1 from rfl)) (by omega) (by omega) rfl ?_
  refine w_callv (k := 19) (pc2 := 1043) (c := zt_m138) (as := [.ref 0, .int (xs ((i + 1)))]) (rest := []) rfl rfl rfl rfl cR.look rfl (Nat.le_of_ble_eq_true rfl) (Nat.le_of_ble_eq_true rfl) (hs h [.int (xs ((i + 1)))] inv rfl (by simp)) (by decide) rfl (fun r h1 q => ?_)
  obtain ⟨vv, rfl, ⟨fs2, cM⟩, q2⟩ := q
  change zz_wp zt_ms zt_nm zt_df (zt_X L xs) 20 zt_law 1043 [(3, .int (nI i)), (2, .ref 216), (1, .ref 0), (0, .ref 1000000)] [.int vv] h1 _
  refine w_aload_n (pc2 := 1044) rfl rfl rfl ?_
  refine w_aload_n (pc2 := 1045) rfl rfl rfl ?_
  refine w_iload_n (pc2 := 1046) rfl rfl rfl ?_
  refine w_iconst (pc2 := 1047) rfl rfl ?_
  refine w_iadd (pc2 := 1048) rfl rfl ?_
  refine w_ialoadRK (pc2 := 1049) (j := (i + 1)) rfl rfl (nI_addE (m := i) (n := 1) (rfl : nI i = nI i) (show (1 : Int32) = nI 1 from rfl)) (by omega) (by omega) rfl ?_
  refine w_callv (k := 19) (pc2 := 1052) (c := zt_m248) (as := [.ref 216, .int (xs ((i + 1)))]) (rest := [.int vv]) rfl rfl rfl rfl cM.look rfl (Nat.le_of_ble_eq_true rfl) (Nat.le_of_ble_eq_true rfl) q2 (by decide) rfl (fun r h2 q => ?_)
  obtain ⟨rfl, inv2⟩ := q
  change zz_wp zt_ms zt_nm zt_df (zt_X L xs) 20 zt_law 1052 [(3, .int (nI i)), (2, .ref 216), (1, .ref 0), (0, .ref 1000000)] [.int vv, .int vv] h2 _
  refine w_icmp_eq (pc2 := 1055) rfl rfl (fun k1052 => ?_) (fun k1052 => ?_)
  · exact kk h2 inv2
  · refine w_iconst (pc2 := 1056) rfl rfl ?_
    exact absurd rfl k1052
set_option maxHeartbeats 4000000 in
set_option maxRecDepth 100000 in
theorem zl_case29 {L i : Nat} {xs : Nat → Int32} {Inv : ZH → Prop} {Q : Option Value → ZH → Prop} {h : ZH} (hL : L ≤ 3072) (hi : i + 6 ≤ L) (inv : Inv h) (hR : ∃ fs, zz_c h 0 (.inr (10, fs))) (hs : zl_step (zt_X L xs) Inv zt_m139 zt_m249 4) (kk : ∀ h2, Inv h2 → zz_wp zt_ms zt_nm zt_df (zt_X L xs) 20 zt_law 1179 [(3, .int (nI i)), (2, .ref 216), (1, .ref 0), (0, .ref 1000000)] [] h2 Q) : zz_wp zt_ms zt_nm zt_df (zt_X L xs) 20 zt_law 1057 [(3, .int (nI i)), (2, .ref 216), (1, .ref 0), (0, .ref 1000000)] [] h Q := by
  obtain ⟨fs1, cR⟩ := hR
  refine w_aload_n (pc2 := 1058) rfl rfl rfl ?_
  refine w_aload_n (pc2 := 1059) rfl rfl rfl ?_
  refine w_iload_n (pc2 := 1060) rfl rfl rfl ?_
  refine w_iconst (pc2 := 1061) rfl rfl ?_
  refine w_iadd (pc2 := 1062) rfl rfl ?_
  refine w_ialoadRK (pc2 := 1063) (j := (i + 1)) rfl rfl (nI_addE (m := i) (n := 1) (rfl : nI i = nI i) (show (1 : Int32) = nI 1 from rfl)) (by omega) (by omega) rfl ?_
  refine w_aload_n (pc2 := 1064) rfl rfl rfl ?_
  refine w_iload_n (pc2 := 1065) rfl rfl rfl ?_
  refine w_iconst (pc2 := 1066) rfl rfl ?_
  refine w_iadd (pc2 := 1067) rfl rfl ?_
  refine w_ialoadRK (pc2 := 1068) (j := (i + 2)) rfl rfl (nI_addE (m := i) (n := 2) (rfl : nI i = nI i) (show (2 : Int32) = nI 2 from rfl)) (by omega) (by omega) rfl ?_
  refine w_aload_n (pc2 := 1069) rfl rfl rfl ?_
  refine w_iload_n (pc2 := 1070) rfl rfl rfl ?_
  refine w_iconst (pc2 := 1071) rfl rfl ?_
  refine w_iadd (pc2 := 1072) rfl rfl ?_
  refine w_ialoadRK (pc2 := 1073) (j := (i + 3)) rfl rfl (nI_addE (m := i) (n := 3) (rfl : nI i = nI i) (show (3 : Int32) = nI 3 from rfl)) (by omega) (by omega) rfl ?_
  refine w_aload_n (pc2 := 1074) rfl rfl rfl ?_
  refine w_iload_n (pc2 := 1075) rfl rfl rfl ?_
  refine w_iconst (pc2 := 1076) rfl rfl ?_
  refine w_iadd (pc2 := 1077) rfl rfl ?_
  refine w_ialoadRK (pc2 := 1078) (j := (i + 4)) rfl rfl (nI_addE (m := i) (n := 4) (rfl : nI i = nI i) (show (4 : Int32) = nI 4 from rfl)) (by omega) (by omega) rfl ?_
  refine w_callv (k := 19) (pc2 := 1081) (c := zt_m139) (as := [.ref 0, .int (xs ((i + 1))), .int (xs ((i + 2))), .int (xs ((i + 3))), .int (xs ((i + 4)))]) (rest := []) rfl rfl rfl rfl cR.look rfl (Nat.le_of_ble_eq_true rfl) (Nat.le_of_ble_eq_true rfl) (hs h [.int (xs ((i + 1))), .int (xs ((i + 2))), .int (xs ((i + 3))), .int (xs ((i + 4)))] inv rfl (by simp)) (by decide) rfl (fun r h1 q => ?_)
  obtain ⟨vv, rfl, ⟨fs2, cM⟩, q2⟩ := q
  change zz_wp zt_ms zt_nm zt_df (zt_X L xs) 20 zt_law 1081 [(3, .int (nI i)), (2, .ref 216), (1, .ref 0), (0, .ref 1000000)] [.int vv] h1 _
  refine w_aload_n (pc2 := 1082) rfl rfl rfl ?_
  refine w_aload_n (pc2 := 1083) rfl rfl rfl ?_
  refine w_iload_n (pc2 := 1084) rfl rfl rfl ?_
  refine w_iconst (pc2 := 1085) rfl rfl ?_
  refine w_iadd (pc2 := 1086) rfl rfl ?_
  refine w_ialoadRK (pc2 := 1087) (j := (i + 1)) rfl rfl (nI_addE (m := i) (n := 1) (rfl : nI i = nI i) (show (1 : Int32) = nI 1 from rfl)) (by omega) (by omega) rfl ?_
  refine w_aload_n (pc2 := 1088) rfl rfl rfl ?_
  refine w_iload_n (pc2 := 1089) rfl rfl rfl ?_
  refine w_iconst (pc2 := 1090) rfl rfl ?_
  refine w_iadd (pc2 := 1091) rfl rfl ?_
  refine w_ialoadRK (pc2 := 1092) (j := (i + 2)) rfl rfl (nI_addE (m := i) (n := 2) (rfl : nI i = nI i) (show (2 : Int32) = nI 2 from rfl)) (by omega) (by omega) rfl ?_
  refine w_aload_n (pc2 := 1093) rfl rfl rfl ?_
  refine w_iload_n (pc2 := 1094) rfl rfl rfl ?_
  refine w_iconst (pc2 := 1095) rfl rfl ?_
  refine w_iadd (pc2 := 1096) rfl rfl ?_
  refine w_ialoadRK (pc2 := 1097) (j := (i + 3)) rfl rfl (nI_addE (m := i) (n := 3) (rfl : nI i = nI i) (show (3 : Int32) = nI 3 from rfl)) (by omega) (by omega) rfl ?_
  refine w_aload_n (pc2 := 1098) rfl rfl rfl ?_
  refine w_iload_n (pc2 := 1099) rfl rfl rfl ?_
  refine w_iconst (pc2 := 1100) rfl rfl ?_
  refine w_iadd (pc2 := 1101) rfl rfl ?_
  refine w_ialoadRK (pc2 := 1102) (j := (i + 4)) rfl rfl (nI_addE (m := i) (n := 4) (rfl : nI i = nI i) (show (4 : Int32) = nI 4 from rfl)) (by omega) (by omega) rfl ?_
  refine w_callv (k := 19) (pc2 := 1105) (c := zt_m249) (as := [.ref 216, .int (xs ((i + 1))), .int (xs ((i + 2))), .int (xs ((i + 3))), .int (xs ((i + 4)))]) (rest := [.int vv]) rfl rfl rfl rfl cM.look rfl (Nat.le_of_ble_eq_true rfl) (Nat.le_of_ble_eq_true rfl) q2 (by decide) rfl (fun r h2 q => ?_)
  obtain ⟨rfl, inv2⟩ := q
  change zz_wp zt_ms zt_nm zt_df (zt_X L xs) 20 zt_law 1105 [(3, .int (nI i)), (2, .ref 216), (1, .ref 0), (0, .ref 1000000)] [.int vv, .int vv] h2 _
  refine w_icmp_eq (pc2 := 1108) rfl rfl (fun k1105 => ?_) (fun k1105 => ?_)
  · exact kk h2 inv2
  · refine w_iconst (pc2 := 1109) rfl rfl ?_
    exact absurd rfl k1105
set_option maxHeartbeats 4000000 in
set_option maxRecDepth 100000 in
theorem zl_case30 {L i : Nat} {xs : Nat → Int32} {Inv : ZH → Prop} {Q : Option Value → ZH → Prop} {h : ZH} (hL : L ≤ 3072) (hi : i + 6 ≤ L) (inv : Inv h) (hR : ∃ fs, zz_c h 0 (.inr (10, fs))) (hs : zl_step (zt_X L xs) Inv zt_m116 zt_m251 1) (kk : ∀ h2, Inv h2 → zz_wp zt_ms zt_nm zt_df (zt_X L xs) 20 zt_law 1179 [(3, .int (nI i)), (2, .ref 216), (1, .ref 0), (0, .ref 1000000)] [] h2 Q) : zz_wp zt_ms zt_nm zt_df (zt_X L xs) 20 zt_law 1110 [(3, .int (nI i)), (2, .ref 216), (1, .ref 0), (0, .ref 1000000)] [] h Q := by
  obtain ⟨fs1, cR⟩ := hR
  refine w_aload_n (pc2 := 1111) rfl rfl rfl ?_
  refine w_aload_n (pc2 := 1112) rfl rfl rfl ?_
  refine w_iload_n (pc2 := 1113) rfl rfl rfl ?_
  refine w_iconst (pc2 := 1114) rfl rfl ?_
  refine w_iadd (pc2 := 1115) rfl rfl ?_
  refine w_ialoadRK (pc2 := 1116) (j := (i + 1)) rfl rfl (nI_addE (m := i) (n := 1) (rfl : nI i = nI i) (show (1 : Int32) = nI 1 from rfl)) (by omega) (by omega) rfl ?_
  refine w_callv (k := 19) (pc2 := 1119) (c := zt_m116) (as := [.ref 0, .int (xs ((i + 1)))]) (rest := []) rfl rfl rfl rfl cR.look rfl (Nat.le_of_ble_eq_true rfl) (Nat.le_of_ble_eq_true rfl) (hs h [.int (xs ((i + 1)))] inv rfl (by simp)) (by decide) rfl (fun r h1 q => ?_)
  obtain ⟨vv, rfl, ⟨fs2, cM⟩, q2⟩ := q
  change zz_wp zt_ms zt_nm zt_df (zt_X L xs) 20 zt_law 1119 [(3, .int (nI i)), (2, .ref 216), (1, .ref 0), (0, .ref 1000000)] [.int vv] h1 _
  refine w_aload_n (pc2 := 1120) rfl rfl rfl ?_
  refine w_aload_n (pc2 := 1121) rfl rfl rfl ?_
  refine w_iload_n (pc2 := 1122) rfl rfl rfl ?_
  refine w_iconst (pc2 := 1123) rfl rfl ?_
  refine w_iadd (pc2 := 1124) rfl rfl ?_
  refine w_ialoadRK (pc2 := 1125) (j := (i + 1)) rfl rfl (nI_addE (m := i) (n := 1) (rfl : nI i = nI i) (show (1 : Int32) = nI 1 from rfl)) (by omega) (by omega) rfl ?_
  refine w_callv (k := 19) (pc2 := 1128) (c := zt_m251) (as := [.ref 216, .int (xs ((i + 1)))]) (rest := [.int vv]) rfl rfl rfl rfl cM.look rfl (Nat.le_of_ble_eq_true rfl) (Nat.le_of_ble_eq_true rfl) q2 (by decide) rfl (fun r h2 q => ?_)
  obtain ⟨rfl, inv2⟩ := q
  change zz_wp zt_ms zt_nm zt_df (zt_X L xs) 20 zt_law 1128 [(3, .int (nI i)), (2, .ref 216), (1, .ref 0), (0, .ref 1000000)] [.int vv, .int vv] h2 _
  refine w_icmp_eq (pc2 := 1131) rfl rfl (fun k1128 => ?_) (fun k1128 => ?_)
  · exact kk h2 inv2
  · refine w_iconst (pc2 := 1132) rfl rfl ?_
    exact absurd rfl k1128
set_option maxHeartbeats 4000000 in
set_option maxRecDepth 100000 in
theorem zl_case31 {L i : Nat} {xs : Nat → Int32} {Inv : ZH → Prop} {Q : Option Value → ZH → Prop} {h : ZH} (hL : L ≤ 3072) (hi : i + 6 ≤ L) (inv : Inv h) (hR : ∃ fs, zz_c h 0 (.inr (10, fs))) (hs : zl_step (zt_X L xs) Inv zt_m140 zt_m252 1) (kk : ∀ h2, Inv h2 → zz_wp zt_ms zt_nm zt_df (zt_X L xs) 20 zt_law 1179 [(3, .int (nI i)), (2, .ref 216), (1, .ref 0), (0, .ref 1000000)] [] h2 Q) : zz_wp zt_ms zt_nm zt_df (zt_X L xs) 20 zt_law 1133 [(3, .int (nI i)), (2, .ref 216), (1, .ref 0), (0, .ref 1000000)] [] h Q := by
  obtain ⟨fs1, cR⟩ := hR
  refine w_aload_n (pc2 := 1134) rfl rfl rfl ?_
  refine w_aload_n (pc2 := 1135) rfl rfl rfl ?_
  refine w_iload_n (pc2 := 1136) rfl rfl rfl ?_
  refine w_iconst (pc2 := 1137) rfl rfl ?_
  refine w_iadd (pc2 := 1138) rfl rfl ?_
  refine w_ialoadRK (pc2 := 1139) (j := (i + 1)) rfl rfl (nI_addE (m := i) (n := 1) (rfl : nI i = nI i) (show (1 : Int32) = nI 1 from rfl)) (by omega) (by omega) rfl ?_
  refine w_callv (k := 19) (pc2 := 1142) (c := zt_m140) (as := [.ref 0, .int (xs ((i + 1)))]) (rest := []) rfl rfl rfl rfl cR.look rfl (Nat.le_of_ble_eq_true rfl) (Nat.le_of_ble_eq_true rfl) (hs h [.int (xs ((i + 1)))] inv rfl (by simp)) (by decide) rfl (fun r h1 q => ?_)
  obtain ⟨vv, rfl, ⟨fs2, cM⟩, q2⟩ := q
  change zz_wp zt_ms zt_nm zt_df (zt_X L xs) 20 zt_law 1142 [(3, .int (nI i)), (2, .ref 216), (1, .ref 0), (0, .ref 1000000)] [.int vv] h1 _
  refine w_aload_n (pc2 := 1143) rfl rfl rfl ?_
  refine w_aload_n (pc2 := 1144) rfl rfl rfl ?_
  refine w_iload_n (pc2 := 1145) rfl rfl rfl ?_
  refine w_iconst (pc2 := 1146) rfl rfl ?_
  refine w_iadd (pc2 := 1147) rfl rfl ?_
  refine w_ialoadRK (pc2 := 1148) (j := (i + 1)) rfl rfl (nI_addE (m := i) (n := 1) (rfl : nI i = nI i) (show (1 : Int32) = nI 1 from rfl)) (by omega) (by omega) rfl ?_
  refine w_callv (k := 19) (pc2 := 1151) (c := zt_m252) (as := [.ref 216, .int (xs ((i + 1)))]) (rest := [.int vv]) rfl rfl rfl rfl cM.look rfl (Nat.le_of_ble_eq_true rfl) (Nat.le_of_ble_eq_true rfl) q2 (by decide) rfl (fun r h2 q => ?_)
  obtain ⟨rfl, inv2⟩ := q
  change zz_wp zt_ms zt_nm zt_df (zt_X L xs) 20 zt_law 1151 [(3, .int (nI i)), (2, .ref 216), (1, .ref 0), (0, .ref 1000000)] [.int vv, .int vv] h2 _
  refine w_icmp_eq (pc2 := 1154) rfl rfl (fun k1151 => ?_) (fun k1151 => ?_)
  · exact kk h2 inv2
  · refine w_iconst (pc2 := 1155) rfl rfl ?_
    exact absurd rfl k1151
set_option maxHeartbeats 4000000 in
set_option maxRecDepth 100000 in
theorem zl_case32 {L i : Nat} {xs : Nat → Int32} {Inv : ZH → Prop} {Q : Option Value → ZH → Prop} {h : ZH} (hL : L ≤ 3072) (hi : i + 6 ≤ L) (inv : Inv h) (hR : ∃ fs, zz_c h 0 (.inr (10, fs))) (hs : zl_step (zt_X L xs) Inv zt_m141 zt_m253 1) (kk : ∀ h2, Inv h2 → zz_wp zt_ms zt_nm zt_df (zt_X L xs) 20 zt_law 1179 [(3, .int (nI i)), (2, .ref 216), (1, .ref 0), (0, .ref 1000000)] [] h2 Q) : zz_wp zt_ms zt_nm zt_df (zt_X L xs) 20 zt_law 1156 [(3, .int (nI i)), (2, .ref 216), (1, .ref 0), (0, .ref 1000000)] [] h Q := by
  obtain ⟨fs1, cR⟩ := hR
  refine w_aload_n (pc2 := 1157) rfl rfl rfl ?_
  refine w_aload_n (pc2 := 1158) rfl rfl rfl ?_
  refine w_iload_n (pc2 := 1159) rfl rfl rfl ?_
  refine w_iconst (pc2 := 1160) rfl rfl ?_
  refine w_iadd (pc2 := 1161) rfl rfl ?_
  refine w_ialoadRK (pc2 := 1162) (j := (i + 1)) rfl rfl (nI_addE (m := i) (n := 1) (rfl : nI i = nI i) (show (1 : Int32) = nI 1 from rfl)) (by omega) (by omega) rfl ?_
  refine w_callv (k := 19) (pc2 := 1165) (c := zt_m141) (as := [.ref 0, .int (xs ((i + 1)))]) (rest := []) rfl rfl rfl rfl cR.look rfl (Nat.le_of_ble_eq_true rfl) (Nat.le_of_ble_eq_true rfl) (hs h [.int (xs ((i + 1)))] inv rfl (by simp)) (by decide) rfl (fun r h1 q => ?_)
  obtain ⟨vv, rfl, ⟨fs2, cM⟩, q2⟩ := q
  change zz_wp zt_ms zt_nm zt_df (zt_X L xs) 20 zt_law 1165 [(3, .int (nI i)), (2, .ref 216), (1, .ref 0), (0, .ref 1000000)] [.int vv] h1 _
  refine w_aload_n (pc2 := 1166) rfl rfl rfl ?_
  refine w_aload_n (pc2 := 1167) rfl rfl rfl ?_
  refine w_iload_n (pc2 := 1168) rfl rfl rfl ?_
  refine w_iconst (pc2 := 1169) rfl rfl ?_
  refine w_iadd (pc2 := 1170) rfl rfl ?_
  refine w_ialoadRK (pc2 := 1171) (j := (i + 1)) rfl rfl (nI_addE (m := i) (n := 1) (rfl : nI i = nI i) (show (1 : Int32) = nI 1 from rfl)) (by omega) (by omega) rfl ?_
  refine w_callv (k := 19) (pc2 := 1174) (c := zt_m253) (as := [.ref 216, .int (xs ((i + 1)))]) (rest := [.int vv]) rfl rfl rfl rfl cM.look rfl (Nat.le_of_ble_eq_true rfl) (Nat.le_of_ble_eq_true rfl) q2 (by decide) rfl (fun r h2 q => ?_)
  obtain ⟨rfl, inv2⟩ := q
  change zz_wp zt_ms zt_nm zt_df (zt_X L xs) 20 zt_law 1174 [(3, .int (nI i)), (2, .ref 216), (1, .ref 0), (0, .ref 1000000)] [.int vv, .int vv] h2 _
  refine w_icmp_eq (pc2 := 1177) rfl rfl (fun k1174 => ?_) (fun k1174 => ?_)
  · exact kk h2 inv2
  · refine w_iconst (pc2 := 1178) rfl rfl ?_
    exact absurd rfl k1174
