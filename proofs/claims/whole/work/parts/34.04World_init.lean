set_option maxHeartbeats 4000000 in
set_option maxRecDepth 100000 in
theorem ct_World_init {x : Nat → ZE} {h : ZH} {a n : Nat}  (cA : zz_c h a (.inr (9, [.null, .null, .null, .null, .null, .int 0, .int 0, .int 0, .int 0]))) (hn : h.1 = n) (ha : a < n) (hl : n < 790000)  : zz_ct zt_ms zt_nm zt_df x 1 zt_m103 [.ref a] h (fun r h2 => r = none ∧ h2.1 = n + 14 ∧ h2.2.1 = h.2.1 + 142 ∧ zz_c h2 a (.inr (9, [.ref n, .ref (n + 6), .ref (n + 11), .ref (n + 12), .ref (n + 13), .int 0, .int (-1), .int 0, .int 0])) ∧ zz_c h2 n (.inr (6, [.int 0, .int 0, .int 0, .int 0, .int 0, .ref (n + 1), .ref (n + 2), .ref (n + 3), .ref (n + 4), .ref (n + 5)])) ∧ zz_c h2 (n + 1) (.inl (.int, 5, .inl (fun _ => 0))) ∧ zz_c h2 (n + 2) (.inl (.int, 5, .inl (fun _ => 0))) ∧ zz_c h2 (n + 3) (.inl (.int, 5, .inl (fun _ => 0))) ∧ zz_c h2 (n + 4) (.inl (.int, 6, .inl (fun _ => 0))) ∧ zz_c h2 (n + 5) (.inl (.int, 30, .inl (fun _ => 0))) ∧ zz_c h2 (n + 6) (.inr (7, [.int 0, .int 0, .ref (n + 7), .ref (n + 8), .ref (n + 9), .ref (n + 10)])) ∧ zz_c h2 (n + 7) (.inl (.int, 5, .inl (fun _ => 0))) ∧ zz_c h2 (n + 8) (.inl (.int, 5, .inl (fun _ => 0))) ∧ zz_c h2 (n + 9) (.inl (.int, 5, .inl (fun _ => 0))) ∧ zz_c h2 (n + 10) (.inl (.int, 30, .inl (fun _ => 0))) ∧ zz_c h2 (n + 11) (.inl (.int, 10, .inl (fun _ => 0))) ∧ zz_c h2 (n + 12) (.inl (.int, 10, .inl (fun _ => 0))) ∧ zz_c h2 (n + 13) (.inl (.int, 10, .inl (fun _ => 0))) ∧ zz_fo (fun k => k = a ∨ n ≤ k) h h2) := by
  change zz_wp zt_ms zt_nm zt_df x 1 zt_m103 0 [(0, .ref a)] [] h _
  have f0 : zz_fA a n h h := zz_fA.rf
  have t0 : h.2.1 = h.2.1 + 0 := rfl
  refine w_aload_n (pc2 := 1) rfl rfl rfl ?_
  refine w_objinit (pc2 := 4) rfl (Nat.le_of_ble_eq_true rfl) (by omega) rfl ?_
  refine w_aload_n (pc2 := 5) rfl rfl rfl ?_
  refine w_new (pc2 := 8) (n := n) (sl := 10) (en := .inr (6, [.int 0, .int 0, .int 0, .int 0, .int 0, .null, .null, .null, .null, .null])) rfl hn (by omega) rfl rfl rfl (fun h187 u188 => ?_)
  have c189 := u188.off cA hn (zz_neA (j := 0) ha)
  have c190 := u188.self hn (by omega)
  have f191 := f0.mk u188 hn (Nat.le_add_right _ 0)
  have t192 := zz_sl_mk (s2 := 10) t0 u188 rfl
  have n193 := u188.cnt hn
  refine w_dup (pc2 := 9) rfl rfl rfl ?_
  refine w_calli (pc2 := 12) (c := zt_m69) (as := [.ref n]) (rest := [.ref n, .ref a]) rfl rfl rfl rfl rfl c190.look rfl (Nat.le_of_ble_eq_true rfl) (Nat.le_of_ble_eq_true rfl) (ct_Smithy_init (x := x) (a := n) (n := n + 1) c190 n193 (Nat.lt_succ_self _) (by omega)) (by decide) rfl (fun r h205 q204 => ?_)
  obtain ⟨rfl, n195, s196, c198, c199, c200, c201, c202, c203, f197⟩ := q204
  have c206 := f197.off c189 (fun q => q.elim (zz_neA (j := 0) ha) (fun z => absurd z (Nat.not_le.mpr (Nat.lt_of_lt_of_le ha (Nat.le_add_right _ _)))))
  have f207 := f191.call f197 (Nat.le_add_right _ 0) (Nat.le_add_right _ 1)
  have t208 := zz_sl_call (s2 := 61) t192 s196 rfl
  change zz_wp zt_ms zt_nm zt_df x 1 zt_m103 12 [(0, .ref a)] [.ref n, .ref a] h205 _
  refine w_putfield (pc2 := 15) (en := .inr (9, [.ref n, .null, .null, .null, .null, .int 0, .int 0, .int 0, .int 0])) rfl c206 rfl (Nat.le_of_ble_eq_true rfl) rfl rfl rfl (fun h209 u210 => ?_)
  have c211 := u210.self c206
  have c212 := u210.off c198 (zz_neA (j := 0) ha).symm
  have c213 := u210.off c199 (zz_neA (j := 1) ha).symm
  have c214 := u210.off c200 (zz_neA (j := 2) ha).symm
  have c215 := u210.off c201 (zz_neA (j := 3) ha).symm
  have c216 := u210.off c202 (zz_neA (j := 4) ha).symm
  have c217 := u210.off c203 (zz_neA (j := 5) ha).symm
  have n218 := u210.cnt n195
  have f219 := f207.up u210 (Or.inl rfl)
  have t220 := zz_sl_up t208 u210
  refine w_aload_n (pc2 := 16) rfl rfl rfl ?_
  refine w_new (pc2 := 19) (n := n + 6) (sl := 6) (en := .inr (7, [.int 0, .int 0, .null, .null, .null, .null])) rfl n218 (by omega) rfl rfl rfl (fun h221 u222 => ?_)
  have c223 := u222.off c211 n218 (zz_neA (j := 6) ha)
  have c224 := u222.off c212 n218 (zz_ne0 (n := n) (j := 6) (by decide))
  have c225 := u222.off c213 n218 (zz_ne1 (n := n) (i := 1) (j := 6) (by decide))
  have c226 := u222.off c214 n218 (zz_ne1 (n := n) (i := 2) (j := 6) (by decide))
  have c227 := u222.off c215 n218 (zz_ne1 (n := n) (i := 3) (j := 6) (by decide))
  have c228 := u222.off c216 n218 (zz_ne1 (n := n) (i := 4) (j := 6) (by decide))
  have c229 := u222.off c217 n218 (zz_ne1 (n := n) (i := 5) (j := 6) (by decide))
  have c230 := u222.self n218 (by omega)
  have f231 := f219.mk u222 n218 (Nat.le_add_right _ 6)
  have t232 := zz_sl_mk (s2 := 67) t220 u222 rfl
  have n233 := u222.cnt n218
  refine w_dup (pc2 := 20) rfl rfl rfl ?_
  refine w_calli (pc2 := 23) (c := zt_m83) (as := [.ref (n + 6)]) (rest := [.ref (n + 6), .ref a]) rfl rfl rfl rfl rfl c230.look rfl (Nat.le_of_ble_eq_true rfl) (Nat.le_of_ble_eq_true rfl) (ct_State_init (x := x) (a := n + 6) (n := n + 7) c230 n233 (Nat.lt_succ_self _) (by omega)) (by decide) rfl (fun r h244 q243 => ?_)
  obtain ⟨rfl, n235, s236, c238, c239, c240, c241, c242, f237⟩ := q243
  have c245 := f237.off c223 (fun q => q.elim (zz_neA (j := 6) ha) (fun z => absurd z (Nat.not_le.mpr (Nat.lt_of_lt_of_le ha (Nat.le_add_right _ _)))))
  have c246 := f237.off c224 (fun q => q.elim (zz_ne0 (n := n) (j := 6) (by decide)) (fun z => absurd z (Nat.not_le.mpr (Nat.lt_add_of_pos_right (by decide)))))
  have c247 := f237.off c225 (fun q => q.elim (zz_ne1 (n := n) (i := 1) (j := 6) (by decide)) (fun z => absurd z (Nat.not_le.mpr (Nat.add_lt_add_left (by decide) _))))
  have c248 := f237.off c226 (fun q => q.elim (zz_ne1 (n := n) (i := 2) (j := 6) (by decide)) (fun z => absurd z (Nat.not_le.mpr (Nat.add_lt_add_left (by decide) _))))
  have c249 := f237.off c227 (fun q => q.elim (zz_ne1 (n := n) (i := 3) (j := 6) (by decide)) (fun z => absurd z (Nat.not_le.mpr (Nat.add_lt_add_left (by decide) _))))
  have c250 := f237.off c228 (fun q => q.elim (zz_ne1 (n := n) (i := 4) (j := 6) (by decide)) (fun z => absurd z (Nat.not_le.mpr (Nat.add_lt_add_left (by decide) _))))
  have c251 := f237.off c229 (fun q => q.elim (zz_ne1 (n := n) (i := 5) (j := 6) (by decide)) (fun z => absurd z (Nat.not_le.mpr (Nat.add_lt_add_left (by decide) _))))
  have f252 := f231.call f237 (Nat.le_add_right _ 6) (Nat.le_add_right _ 7)
  have t253 := zz_sl_call (s2 := 112) t232 s236 rfl
  change zz_wp zt_ms zt_nm zt_df x 1 zt_m103 23 [(0, .ref a)] [.ref (n + 6), .ref a] h244 _
  refine w_putfield (pc2 := 26) (en := .inr (9, [.ref n, .ref (n + 6), .null, .null, .null, .int 0, .int 0, .int 0, .int 0])) rfl c245 rfl (Nat.le_of_ble_eq_true rfl) rfl rfl rfl (fun h254 u255 => ?_)
  have c256 := u255.self c245
  have c257 := u255.off c246 (zz_neA (j := 0) ha).symm
  have c258 := u255.off c247 (zz_neA (j := 1) ha).symm
  have c259 := u255.off c248 (zz_neA (j := 2) ha).symm
  have c260 := u255.off c249 (zz_neA (j := 3) ha).symm
  have c261 := u255.off c250 (zz_neA (j := 4) ha).symm
  have c262 := u255.off c251 (zz_neA (j := 5) ha).symm
  have c263 := u255.off c238 (zz_neA (j := 6) ha).symm
  have c264 := u255.off c239 (zz_neA (j := 7) ha).symm
  have c265 := u255.off c240 (zz_neA (j := 8) ha).symm
  have c266 := u255.off c241 (zz_neA (j := 9) ha).symm
  have c267 := u255.off c242 (zz_neA (j := 10) ha).symm
  have n268 := u255.cnt n235
  have f269 := f252.up u255 (Or.inl rfl)
  have t270 := zz_sl_up t253 u255
  refine w_aload_n (pc2 := 27) rfl rfl rfl ?_
  refine w_bipush (pc2 := 29) rfl rfl ?_
  refine w_newarray (pc2 := 31) (n := n + 11) (N := 10) (en := .inl (.int, 10, .inl (fun _ => 0))) rfl n268 (by omega) rfl rfl (fun h271 u272 => ?_)
  have c273 := u272.off c256 n268 (zz_neA (j := 11) ha)
  have c274 := u272.off c257 n268 (zz_ne0 (n := n) (j := 11) (by decide))
  have c275 := u272.off c258 n268 (zz_ne1 (n := n) (i := 1) (j := 11) (by decide))
  have c276 := u272.off c259 n268 (zz_ne1 (n := n) (i := 2) (j := 11) (by decide))
  have c277 := u272.off c260 n268 (zz_ne1 (n := n) (i := 3) (j := 11) (by decide))
  have c278 := u272.off c261 n268 (zz_ne1 (n := n) (i := 4) (j := 11) (by decide))
  have c279 := u272.off c262 n268 (zz_ne1 (n := n) (i := 5) (j := 11) (by decide))
  have c280 := u272.off c263 n268 (zz_ne1 (n := n) (i := 6) (j := 11) (by decide))
  have c281 := u272.off c264 n268 (zz_ne1 (n := n) (i := 7) (j := 11) (by decide))
  have c282 := u272.off c265 n268 (zz_ne1 (n := n) (i := 8) (j := 11) (by decide))
  have c283 := u272.off c266 n268 (zz_ne1 (n := n) (i := 9) (j := 11) (by decide))
  have c284 := u272.off c267 n268 (zz_ne1 (n := n) (i := 10) (j := 11) (by decide))
  have c285 := u272.self n268 (by omega)
  have f286 := f269.mk u272 n268 (Nat.le_add_right _ 11)
  have t287 := zz_sl_mk (s2 := 122) t270 u272 rfl
  have n288 := u272.cnt n268
  refine w_putfield (pc2 := 34) (en := .inr (9, [.ref n, .ref (n + 6), .ref (n + 11), .null, .null, .int 0, .int 0, .int 0, .int 0])) rfl c273 rfl (Nat.le_of_ble_eq_true rfl) rfl rfl rfl (fun h289 u290 => ?_)
  have c291 := u290.self c273
  have c292 := u290.off c274 (zz_neA (j := 0) ha).symm
  have c293 := u290.off c275 (zz_neA (j := 1) ha).symm
  have c294 := u290.off c276 (zz_neA (j := 2) ha).symm
  have c295 := u290.off c277 (zz_neA (j := 3) ha).symm
  have c296 := u290.off c278 (zz_neA (j := 4) ha).symm
  have c297 := u290.off c279 (zz_neA (j := 5) ha).symm
  have c298 := u290.off c280 (zz_neA (j := 6) ha).symm
  have c299 := u290.off c281 (zz_neA (j := 7) ha).symm
  have c300 := u290.off c282 (zz_neA (j := 8) ha).symm
  have c301 := u290.off c283 (zz_neA (j := 9) ha).symm
  have c302 := u290.off c284 (zz_neA (j := 10) ha).symm
  have c303 := u290.off c285 (zz_neA (j := 11) ha).symm
  have n304 := u290.cnt n288
  have f305 := f286.up u290 (Or.inl rfl)
  have t306 := zz_sl_up t287 u290
  refine w_aload_n (pc2 := 35) rfl rfl rfl ?_
  refine w_bipush (pc2 := 37) rfl rfl ?_
  refine w_newarray (pc2 := 39) (n := n + 12) (N := 10) (en := .inl (.int, 10, .inl (fun _ => 0))) rfl n304 (by omega) rfl rfl (fun h307 u308 => ?_)
  have c309 := u308.off c291 n304 (zz_neA (j := 12) ha)
  have c310 := u308.off c292 n304 (zz_ne0 (n := n) (j := 12) (by decide))
  have c311 := u308.off c293 n304 (zz_ne1 (n := n) (i := 1) (j := 12) (by decide))
  have c312 := u308.off c294 n304 (zz_ne1 (n := n) (i := 2) (j := 12) (by decide))
  have c313 := u308.off c295 n304 (zz_ne1 (n := n) (i := 3) (j := 12) (by decide))
  have c314 := u308.off c296 n304 (zz_ne1 (n := n) (i := 4) (j := 12) (by decide))
  have c315 := u308.off c297 n304 (zz_ne1 (n := n) (i := 5) (j := 12) (by decide))
  have c316 := u308.off c298 n304 (zz_ne1 (n := n) (i := 6) (j := 12) (by decide))
  have c317 := u308.off c299 n304 (zz_ne1 (n := n) (i := 7) (j := 12) (by decide))
  have c318 := u308.off c300 n304 (zz_ne1 (n := n) (i := 8) (j := 12) (by decide))
  have c319 := u308.off c301 n304 (zz_ne1 (n := n) (i := 9) (j := 12) (by decide))
  have c320 := u308.off c302 n304 (zz_ne1 (n := n) (i := 10) (j := 12) (by decide))
  have c321 := u308.off c303 n304 (zz_ne1 (n := n) (i := 11) (j := 12) (by decide))
  have c322 := u308.self n304 (by omega)
  have f323 := f305.mk u308 n304 (Nat.le_add_right _ 12)
  have t324 := zz_sl_mk (s2 := 132) t306 u308 rfl
  have n325 := u308.cnt n304
  refine w_putfield (pc2 := 42) (en := .inr (9, [.ref n, .ref (n + 6), .ref (n + 11), .ref (n + 12), .null, .int 0, .int 0, .int 0, .int 0])) rfl c309 rfl (Nat.le_of_ble_eq_true rfl) rfl rfl rfl (fun h326 u327 => ?_)
  have c328 := u327.self c309
  have c329 := u327.off c310 (zz_neA (j := 0) ha).symm
  have c330 := u327.off c311 (zz_neA (j := 1) ha).symm
  have c331 := u327.off c312 (zz_neA (j := 2) ha).symm
  have c332 := u327.off c313 (zz_neA (j := 3) ha).symm
  have c333 := u327.off c314 (zz_neA (j := 4) ha).symm
  have c334 := u327.off c315 (zz_neA (j := 5) ha).symm
  have c335 := u327.off c316 (zz_neA (j := 6) ha).symm
  have c336 := u327.off c317 (zz_neA (j := 7) ha).symm
  have c337 := u327.off c318 (zz_neA (j := 8) ha).symm
  have c338 := u327.off c319 (zz_neA (j := 9) ha).symm
  have c339 := u327.off c320 (zz_neA (j := 10) ha).symm
  have c340 := u327.off c321 (zz_neA (j := 11) ha).symm
  have c341 := u327.off c322 (zz_neA (j := 12) ha).symm
  have n342 := u327.cnt n325
  have f343 := f323.up u327 (Or.inl rfl)
  have t344 := zz_sl_up t324 u327
  refine w_aload_n (pc2 := 43) rfl rfl rfl ?_
  refine w_bipush (pc2 := 45) rfl rfl ?_
  refine w_newarray (pc2 := 47) (n := n + 13) (N := 10) (en := .inl (.int, 10, .inl (fun _ => 0))) rfl n342 (by omega) rfl rfl (fun h345 u346 => ?_)
  have c347 := u346.off c328 n342 (zz_neA (j := 13) ha)
  have c348 := u346.off c329 n342 (zz_ne0 (n := n) (j := 13) (by decide))
  have c349 := u346.off c330 n342 (zz_ne1 (n := n) (i := 1) (j := 13) (by decide))
  have c350 := u346.off c331 n342 (zz_ne1 (n := n) (i := 2) (j := 13) (by decide))
  have c351 := u346.off c332 n342 (zz_ne1 (n := n) (i := 3) (j := 13) (by decide))
  have c352 := u346.off c333 n342 (zz_ne1 (n := n) (i := 4) (j := 13) (by decide))
  have c353 := u346.off c334 n342 (zz_ne1 (n := n) (i := 5) (j := 13) (by decide))
  have c354 := u346.off c335 n342 (zz_ne1 (n := n) (i := 6) (j := 13) (by decide))
  have c355 := u346.off c336 n342 (zz_ne1 (n := n) (i := 7) (j := 13) (by decide))
  have c356 := u346.off c337 n342 (zz_ne1 (n := n) (i := 8) (j := 13) (by decide))
  have c357 := u346.off c338 n342 (zz_ne1 (n := n) (i := 9) (j := 13) (by decide))
  have c358 := u346.off c339 n342 (zz_ne1 (n := n) (i := 10) (j := 13) (by decide))
  have c359 := u346.off c340 n342 (zz_ne1 (n := n) (i := 11) (j := 13) (by decide))
  have c360 := u346.off c341 n342 (zz_ne1 (n := n) (i := 12) (j := 13) (by decide))
  have c361 := u346.self n342 (by omega)
  have f362 := f343.mk u346 n342 (Nat.le_add_right _ 13)
  have t363 := zz_sl_mk (s2 := 142) t344 u346 rfl
  have n364 := u346.cnt n342
  refine w_putfield (pc2 := 50) (en := .inr (9, [.ref n, .ref (n + 6), .ref (n + 11), .ref (n + 12), .ref (n + 13), .int 0, .int 0, .int 0, .int 0])) rfl c347 rfl (Nat.le_of_ble_eq_true rfl) rfl rfl rfl (fun h365 u366 => ?_)
  have c367 := u366.self c347
  have c368 := u366.off c348 (zz_neA (j := 0) ha).symm
  have c369 := u366.off c349 (zz_neA (j := 1) ha).symm
  have c370 := u366.off c350 (zz_neA (j := 2) ha).symm
  have c371 := u366.off c351 (zz_neA (j := 3) ha).symm
  have c372 := u366.off c352 (zz_neA (j := 4) ha).symm
  have c373 := u366.off c353 (zz_neA (j := 5) ha).symm
  have c374 := u366.off c354 (zz_neA (j := 6) ha).symm
  have c375 := u366.off c355 (zz_neA (j := 7) ha).symm
  have c376 := u366.off c356 (zz_neA (j := 8) ha).symm
  have c377 := u366.off c357 (zz_neA (j := 9) ha).symm
  have c378 := u366.off c358 (zz_neA (j := 10) ha).symm
  have c379 := u366.off c359 (zz_neA (j := 11) ha).symm
  have c380 := u366.off c360 (zz_neA (j := 12) ha).symm
  have c381 := u366.off c361 (zz_neA (j := 13) ha).symm
  have n382 := u366.cnt n364
  have f383 := f362.up u366 (Or.inl rfl)
  have t384 := zz_sl_up t363 u366
  refine w_aload_n (pc2 := 51) rfl rfl rfl ?_
  refine w_iconst (pc2 := 52) rfl rfl ?_
  refine w_putfield (pc2 := 55) (en := .inr (9, [.ref n, .ref (n + 6), .ref (n + 11), .ref (n + 12), .ref (n + 13), .int 0, .int (-1), .int 0, .int 0])) rfl c367 rfl (Nat.le_of_ble_eq_true rfl) rfl rfl rfl (fun h385 u386 => ?_)
  have c387 := u386.self c367
  have c388 := u386.off c368 (zz_neA (j := 0) ha).symm
  have c389 := u386.off c369 (zz_neA (j := 1) ha).symm
  have c390 := u386.off c370 (zz_neA (j := 2) ha).symm
  have c391 := u386.off c371 (zz_neA (j := 3) ha).symm
  have c392 := u386.off c372 (zz_neA (j := 4) ha).symm
  have c393 := u386.off c373 (zz_neA (j := 5) ha).symm
  have c394 := u386.off c374 (zz_neA (j := 6) ha).symm
  have c395 := u386.off c375 (zz_neA (j := 7) ha).symm
  have c396 := u386.off c376 (zz_neA (j := 8) ha).symm
  have c397 := u386.off c377 (zz_neA (j := 9) ha).symm
  have c398 := u386.off c378 (zz_neA (j := 10) ha).symm
  have c399 := u386.off c379 (zz_neA (j := 11) ha).symm
  have c400 := u386.off c380 (zz_neA (j := 12) ha).symm
  have c401 := u386.off c381 (zz_neA (j := 13) ha).symm
  have n402 := u386.cnt n382
  have f403 := f383.up u386 (Or.inl rfl)
  have t404 := zz_sl_up t384 u386
  exact w_vret rfl rfl ⟨rfl, n402, t404, c387, c388, c389, c390, c391, c392, c393, c394, c395, c396, c397, c398, c399, c400, c401, f403⟩
