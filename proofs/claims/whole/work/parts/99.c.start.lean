/-! The start: what the constructors leave is a state, and its two sides belong together. -/
def z0f : Nat → Nat → Int32 := fun a => if a = 202 then (fun j => if j = 5 ∨ j = 7 then -1 else 0) else if a = 216 then (fun j => if j = 21 ∨ j = 24 then -1 else 0) else if a = 3 ∨ a = 19 ∨ a = 34 ∨ a = 49 ∨ a = 64 then (fun j => if j = 6 then -1 else 0) else fun _ => 0
def z0 : ZS := (z0f, fun _ _ => 0)
def zP (h : ZH) (a : Nat) : Prop := h.2.2 a = zk_e (zk_k a) a (z0.1 a) (z0.2 a)
theorem zk_start {h : ZH} (hall : ∀ a, a < 241 → zP h a) : h = zk h z0 := by
  unfold zk
  refine Prod.ext rfl (Prod.ext rfl (funext fun a => ?_))
  dsimp only
  by_cases ha : a < 241
  · rw [if_pos ha]; exact hall a ha
  · rw [if_neg ha]
theorem z0n {a : Nat} (h1 : a ≠ 202) (h2 : a ≠ 216) (h3 : a ≠ 3) (h4 : a ≠ 19) (h5 : a ≠ 34) (h6 : a ≠ 49) (h7 : a ≠ 64) : z0.1 a = fun _ => 0 := by
  show z0f a = _
  unfold z0f
  rw [if_neg h1, if_neg h2, if_neg (by omega)]
theorem zP_S {h : ZH} {b : Nat} (hb : zk_isState b) (n1 : ∀ k, k ≤ 4 → b + k ≠ 202 ∧ b + k ≠ 216 ∧ b + k ≠ 3 ∧ b + k ≠ 19 ∧ b + k ≠ 34 ∧ b + k ≠ 49 ∧ b + k ≠ 64) (hs : zs_S0 h b) : ∀ k, k ≤ 4 → zP h (b + k) := by
  obtain ⟨q0, q1, q2, q3, q4⟩ := hs
  obtain ⟨kk, k0, k1, k2, k3, k4⟩ := hb.k
  have zz : ∀ k, k ≤ 4 → z0.1 (b + k) = fun _ => 0 := fun k hk => by
    obtain ⟨x1, x2, x3, x4, x5, x6, x7⟩ := n1 k hk
    exact z0n x1 x2 x3 x4 x5 x6 x7
  intro k hk
  have hcs : k = 0 ∨ k = 1 ∨ k = 2 ∨ k = 3 ∨ k = 4 := by omega
  unfold zP
  rcases hcs with rfl | rfl | rfl | rfl | rfl
  · rw [zz 0 (by omega), show b + 0 = b from rfl, q0.1, zk_eState hb]
  · rw [zz 1 (by omega), q1.1, zk_A _ _ (n := 5) k1 (by omega) (by omega)]
  · rw [zz 2 (by omega), q2.1, zk_A _ _ (n := 5) k2 (by omega) (by omega)]
  · rw [zz 3 (by omega), q3.1, zk_A _ _ (n := 5) k3 (by omega) (by omega)]
  · rw [zz 4 (by omega), q4.1, zk_A _ _ (n := 30) k4 (by omega) (by omega)]
theorem iN0 (n : Nat) : iN 0 n 0 := ⟨0, by omega, by omega, rfl⟩
theorem z0_226 : z0.1 226 = fun _ => 0 := z0n (by decide) (by decide) (by decide) (by decide) (by decide) (by decide) (by decide)
theorem gM0 : gM (fun _ => 0) = (fun _ => 0, fun _ => 0, fun _ => 0, fun _ => 0, 0, 0) := by
  have t : ∀ n, tr n (fun _ => (0 : Int32)) = fun _ => 0 := fun n => by funext k; unfold tr; split <;> rfl
  unfold gM
  rw [t 5, t 30]
theorem gS0 {a : Nat} (h : ∀ k, k ≤ 4 → z0.1 (a + k) = fun _ => 0) : gS a z0 = gM (fun _ => 0) := by
  have t : ∀ n, tr n (fun _ => (0 : Int32)) = fun _ => 0 := fun n => by funext k; unfold tr; split <;> rfl
  unfold gS
  rw [h 1 (by omega), h 2 (by omega), h 3 (by omega), h 4 (by omega), show z0.1 a = fun _ => 0 from h 0 (by omega), gM0, t 5, t 30]
theorem Rel0 : Rel z0 := by
  refine ⟨0, 0, 0, ?_, ?_, ?_, ?_, ?_, rfl, rfl⟩
  · refine ⟨0, by omega, rfl, rfl, rfl, fun k => ?_⟩
    rw [z0n (a := 217) (by decide) (by decide) (by decide) (by decide) (by decide) (by decide) (by decide)]
    show (0 : Int32).toInt8.toInt32 = 0
    decide
  · exact ⟨by omega, rfl, rfl, fun j hj => absurd hj (by omega)⟩
  · rw [z0_226]
    refine ⟨?_, ?_, ?_, ?_, ⟨0, by omega, rfl, rfl, fun i hi => absurd hi (by omega)⟩, rfl, Or.inl rfl, rfl, ⟨0, by omega, by omega, rfl⟩⟩
    · exact ⟨by omega, by omega, rfl, rfl, Or.inl ⟨rfl, rfl, rfl, rfl, rfl⟩, fun p hp => absurd hp (by omega), fun p hp => ⟨iN0 _, fun _ => rfl⟩, fun q hq => iN0 _, fun k hk => iN0 _, fun p hp => iN0 _⟩
    · refine ⟨rfl, rfl, rfl, rfl, rfl, fun p hp => absurd hp (by omega), fun p hp => absurd hp (by omega), fun p hp => ?_, fun p hp => absurd hp (by omega), fun p hp => ?_⟩
      · rw [z0n (a := 3 + 1 + 3) (by decide) (by decide) (by decide) (by decide) (by decide) (by decide) (by decide)]
      · rw [z0n (a := 3 + 1 + 5) (by decide) (by decide) (by decide) (by decide) (by decide) (by decide) (by decide)]
    · exact gS0 (fun k hk => z0n (by omega) (by omega) (by omega) (by omega) (by omega) (by omega) (by omega))
    · refine ⟨fun p hp => ?_, iN0 _⟩
      rw [gM0]
      exact ⟨iN0 _, fun _ => rfl, iN0 _⟩
  · intro k hk
    have hcs : k = 0 ∨ k = 1 ∨ k = 2 ∨ k = 3 := by omega
    rcases hcs with rfl | rfl | rfl | rfl <;> exact ⟨rfl, Or.inl rfl⟩
  · exact ⟨0, 0, by omega, by omega, rfl, rfl, rfl, fun i hi => absurd hi (by omega)⟩
theorem ref4 : va_up (va_up (va_up (va_up (fun _ => none) 0 (some 19)) 1 (some 34)) 2 (some 49)) 3 (some 64) = fun i => if i < 4 then some (19 + 15 * i) else none := by
  funext i
  by_cases h : i < 4
  · have hcs : i = 0 ∨ i = 1 ∨ i = 2 ∨ i = 3 := by omega
    rcases hcs with rfl | rfl | rfl | rfl <;> rfl
  · rw [if_neg h]; unfold va_up; dsimp only; rw [if_neg (by omega), if_neg (by omega), if_neg (by omega), if_neg (by omega)]
theorem ref6 : va_up (va_up (va_up (va_up (va_up (va_up (fun _ => none) 0 (some 86)) 1 (some 88)) 2 (some 90)) 3 (some 92)) 4 (some 94)) 5 (some 96) = fun i => if i < 6 then some (86 + 2 * i) else none := by
  funext i
  by_cases h : i < 6
  · have hcs : i = 0 ∨ i = 1 ∨ i = 2 ∨ i = 3 ∨ i = 4 ∨ i = 5 := by omega
    rcases hcs with rfl | rfl | rfl | rfl | rfl | rfl <;> rfl
  · rw [if_neg h]; unfold va_up; dsimp only; rw [if_neg (by omega), if_neg (by omega), if_neg (by omega), if_neg (by omega), if_neg (by omega), if_neg (by omega)]
set_option maxHeartbeats 4000000 in
set_option maxRecDepth 100000 in
theorem zP_ring {h : ZH} (e0 : zz_c h 0 (.inr (10, [.ref 1, .ref 3, .ref 18, .ref 79, .ref 85, .ref 98, .ref 100, .ref 202, .ref 206, .ref 213, .int 0]))) (e1 : zz_c h 1 (.inr (8, [.ref 2, .int 0, .int 0, .int 0]))) (e2 : zz_c h 2 (.inl (.byte, 400, .inl (fun _ => 0)))) (e3 : zz_c h 3 (.inr (9, [.ref 4, .ref 10, .ref 15, .ref 16, .ref 17, .int 0, .int (-1), .int 0, .int 0]))) (e18 : zz_c h 18 (.inl (.object "RowRing$World", 4, .inr (.inr (.inr (.inr (va_up (va_up (va_up (va_up (fun _ => none) 0 (some 19)) 1 (some 34)) 2 (some 49)) 3 (some 64)))))))) (e19 : zz_c h 19 (.inr (9, [.ref 20, .ref 26, .ref 31, .ref 32, .ref 33, .int 0, .int (-1), .int 0, .int 0]))) (e34 : zz_c h 34 (.inr (9, [.ref 35, .ref 41, .ref 46, .ref 47, .ref 48, .int 0, .int (-1), .int 0, .int 0]))) (e49 : zz_c h 49 (.inr (9, [.ref 50, .ref 56, .ref 61, .ref 62, .ref 63, .int 0, .int (-1), .int 0, .int 0]))) (e64 : zz_c h 64 (.inr (9, [.ref 65, .ref 71, .ref 76, .ref 77, .ref 78, .int 0, .int (-1), .int 0, .int 0]))) (e85 : zz_c h 85 (.inl (.object "RowRing$Rule", 6, .inr (.inr (.inr (.inr (va_up (va_up (va_up (va_up (va_up (va_up (fun _ => none) 0 (some 86)) 1 (some 88)) 2 (some 90)) 3 (some 92)) 4 (some 94)) 5 (some 96)))))))) (e86 : zz_c h 86 (.inr (4, [.ref 87, .int 0]))) (e88 : zz_c h 88 (.inr (4, [.ref 89, .int 0]))) (e90 : zz_c h 90 (.inr (4, [.ref 91, .int 0]))) (e92 : zz_c h 92 (.inr (4, [.ref 93, .int 0]))) (e94 : zz_c h 94 (.inr (4, [.ref 95, .int 0]))) (e96 : zz_c h 96 (.inr (4, [.ref 97, .int 0]))) (e98 : zz_c h 98 (.inr (5, [.ref 1, .ref 99, .int 0, .int 0, .int 0, .int 0, .int 0]))) (e99 : zz_c h 99 (.inl (.int, 64, .inl (fun _ => 0)))) (e202 : zz_c h 202 (.inr (3, [.ref 4, .ref 85, .ref 203, .ref 204, .ref 205, .null, .int 0, .int (-1)]))) (e203 : zz_c h 203 (.inl (.long, 11, .inr (.inl (fun _ => 0))))) (e204 : zz_c h 204 (.inl (.long, 64, .inr (.inl (fun _ => 0))))) (e205 : zz_c h 205 (.inl (.int, 5, .inl (fun _ => 0)))) (e206 : zz_c h 206 (.inr (0, [.ref 3, .ref 202, .ref 207, .ref 212, .int 0, .int 0]))) (e207 : zz_c h 207 (.inr (7, [.int 0, .int 0, .ref 208, .ref 209, .ref 210, .ref 211]))) (e208 : zz_c h 208 (.inl (.int, 5, .inl (fun _ => 0)))) (e209 : zz_c h 209 (.inl (.int, 5, .inl (fun _ => 0)))) (e210 : zz_c h 210 (.inl (.int, 5, .inl (fun _ => 0)))) (e211 : zz_c h 211 (.inl (.int, 30, .inl (fun _ => 0)))) (e212 : zz_c h 212 (.inl (.int, 35, .inl (fun _ => 0)))) (e213 : zz_c h 213 (.inr (1, [.ref 3, .ref 214, .ref 215]))) (e214 : zz_c h 214 (.inl (.int, 121, .inl (fun _ => 0)))) (e215 : zz_c h 215 (.inl (.int, 5, .inl (fun _ => 0)))) (g3 : zs_W0 h 3) (g19 : zs_W0 h 19) (g34 : zs_W0 h 34) (g49 : zs_W0 h 49) (g64 : zs_W0 h 64) (g79 : zs_M0 h 79) (g86 : zs_R0 h 86) (g88 : zs_R0 h 88) (g90 : zs_R0 h 90) (g92 : zs_R0 h 92) (g94 : zs_R0 h 94) (g96 : zs_R0 h 96) (g100 : zs_H0 h 100) : ∀ a, a < 216 → zP h a := by
  obtain ⟨hh0, gf, hh1, hhn, hhs⟩ := g100
  have ref20 : gf = fun i => if i < 20 then some (102 + 5 * i) else none := by
    funext i
    by_cases hi : i < 20
    · rw [if_pos hi]; exact (hhs i hi).1
    · rw [if_neg hi]; exact hhn i (by omega)
  have hst : ∀ i, i < 20 → ∀ k, k ≤ 4 → zP h (102 + 5 * i + k) := fun i hi => zP_S (zk_isH hi) (fun k hk => by omega) (hhs i hi).2
  intro a ha
  by_cases c108 : a < 108
  · by_cases c54 : a < 54
    · by_cases c27 : a < 27
      · by_cases c13 : a < 13
        · by_cases c6 : a < 6
          · by_cases c3 : a < 3
            · by_cases c1 : a < 1
              · obtain rfl : a = 0 := by omega
                exact e0.1
              · by_cases c2 : a < 2
                · obtain rfl : a = 1 := by omega
                  exact e1.1
                · obtain rfl : a = 2 := by omega
                  exact e2.1
            · by_cases c4 : a < 4
              · obtain rfl : a = 3 := by omega
                exact e3.1
              · by_cases c5 : a < 5
                · obtain rfl : a = 4 := by omega
                  exact g3.2.1.1
                · obtain rfl : a = 5 := by omega
                  exact g3.2.2.1.1
          · by_cases c9 : a < 9
            · by_cases c7 : a < 7
              · obtain rfl : a = 6 := by omega
                exact g3.2.2.2.1.1
              · by_cases c8 : a < 8
                · obtain rfl : a = 7 := by omega
                  exact g3.2.2.2.2.1.1
                · obtain rfl : a = 8 := by omega
                  exact g3.2.2.2.2.2.1.1
            · by_cases c11 : a < 11
              · by_cases c10 : a < 10
                · obtain rfl : a = 9 := by omega
                  exact g3.2.2.2.2.2.2.1.1
                · obtain rfl : a = 10 := by omega
                  exact g3.2.2.2.2.2.2.2.1.1
              · by_cases c12 : a < 12
                · obtain rfl : a = 11 := by omega
                  exact g3.2.2.2.2.2.2.2.2.1.1
                · obtain rfl : a = 12 := by omega
                  exact g3.2.2.2.2.2.2.2.2.2.1.1
        · by_cases c20 : a < 20
          · by_cases c16 : a < 16
            · by_cases c14 : a < 14
              · obtain rfl : a = 13 := by omega
                exact g3.2.2.2.2.2.2.2.2.2.2.1.1
              · by_cases c15 : a < 15
                · obtain rfl : a = 14 := by omega
                  exact g3.2.2.2.2.2.2.2.2.2.2.2.1.1
                · obtain rfl : a = 15 := by omega
                  exact g3.2.2.2.2.2.2.2.2.2.2.2.2.1.1
            · by_cases c18 : a < 18
              · by_cases c17 : a < 17
                · obtain rfl : a = 16 := by omega
                  exact g3.2.2.2.2.2.2.2.2.2.2.2.2.2.1.1
                · obtain rfl : a = 17 := by omega
                  exact g3.2.2.2.2.2.2.2.2.2.2.2.2.2.2.1
              · by_cases c19 : a < 19
                · obtain rfl : a = 18 := by omega
                  exact (by unfold zP; rw [e18.1, ref4]; rfl)
                · obtain rfl : a = 19 := by omega
                  exact e19.1
          · by_cases c23 : a < 23
            · by_cases c21 : a < 21
              · obtain rfl : a = 20 := by omega
                exact g19.2.1.1
              · by_cases c22 : a < 22
                · obtain rfl : a = 21 := by omega
                  exact g19.2.2.1.1
                · obtain rfl : a = 22 := by omega
                  exact g19.2.2.2.1.1
            · by_cases c25 : a < 25
              · by_cases c24 : a < 24
                · obtain rfl : a = 23 := by omega
                  exact g19.2.2.2.2.1.1
                · obtain rfl : a = 24 := by omega
                  exact g19.2.2.2.2.2.1.1
              · by_cases c26 : a < 26
                · obtain rfl : a = 25 := by omega
                  exact g19.2.2.2.2.2.2.1.1
                · obtain rfl : a = 26 := by omega
                  exact g19.2.2.2.2.2.2.2.1.1
      · by_cases c40 : a < 40
        · by_cases c33 : a < 33
          · by_cases c30 : a < 30
            · by_cases c28 : a < 28
              · obtain rfl : a = 27 := by omega
                exact g19.2.2.2.2.2.2.2.2.1.1
              · by_cases c29 : a < 29
                · obtain rfl : a = 28 := by omega
                  exact g19.2.2.2.2.2.2.2.2.2.1.1
                · obtain rfl : a = 29 := by omega
                  exact g19.2.2.2.2.2.2.2.2.2.2.1.1
            · by_cases c31 : a < 31
              · obtain rfl : a = 30 := by omega
                exact g19.2.2.2.2.2.2.2.2.2.2.2.1.1
              · by_cases c32 : a < 32
                · obtain rfl : a = 31 := by omega
                  exact g19.2.2.2.2.2.2.2.2.2.2.2.2.1.1
                · obtain rfl : a = 32 := by omega
                  exact g19.2.2.2.2.2.2.2.2.2.2.2.2.2.1.1
          · by_cases c36 : a < 36
            · by_cases c34 : a < 34
              · obtain rfl : a = 33 := by omega
                exact g19.2.2.2.2.2.2.2.2.2.2.2.2.2.2.1
              · by_cases c35 : a < 35
                · obtain rfl : a = 34 := by omega
                  exact e34.1
                · obtain rfl : a = 35 := by omega
                  exact g34.2.1.1
            · by_cases c38 : a < 38
              · by_cases c37 : a < 37
                · obtain rfl : a = 36 := by omega
                  exact g34.2.2.1.1
                · obtain rfl : a = 37 := by omega
                  exact g34.2.2.2.1.1
              · by_cases c39 : a < 39
                · obtain rfl : a = 38 := by omega
                  exact g34.2.2.2.2.1.1
                · obtain rfl : a = 39 := by omega
                  exact g34.2.2.2.2.2.1.1
        · by_cases c47 : a < 47
          · by_cases c43 : a < 43
            · by_cases c41 : a < 41
              · obtain rfl : a = 40 := by omega
                exact g34.2.2.2.2.2.2.1.1
              · by_cases c42 : a < 42
                · obtain rfl : a = 41 := by omega
                  exact g34.2.2.2.2.2.2.2.1.1
                · obtain rfl : a = 42 := by omega
                  exact g34.2.2.2.2.2.2.2.2.1.1
            · by_cases c45 : a < 45
              · by_cases c44 : a < 44
                · obtain rfl : a = 43 := by omega
                  exact g34.2.2.2.2.2.2.2.2.2.1.1
                · obtain rfl : a = 44 := by omega
                  exact g34.2.2.2.2.2.2.2.2.2.2.1.1
              · by_cases c46 : a < 46
                · obtain rfl : a = 45 := by omega
                  exact g34.2.2.2.2.2.2.2.2.2.2.2.1.1
                · obtain rfl : a = 46 := by omega
                  exact g34.2.2.2.2.2.2.2.2.2.2.2.2.1.1
          · by_cases c50 : a < 50
            · by_cases c48 : a < 48
              · obtain rfl : a = 47 := by omega
                exact g34.2.2.2.2.2.2.2.2.2.2.2.2.2.1.1
              · by_cases c49 : a < 49
                · obtain rfl : a = 48 := by omega
                  exact g34.2.2.2.2.2.2.2.2.2.2.2.2.2.2.1
                · obtain rfl : a = 49 := by omega
                  exact e49.1
            · by_cases c52 : a < 52
              · by_cases c51 : a < 51
                · obtain rfl : a = 50 := by omega
                  exact g49.2.1.1
                · obtain rfl : a = 51 := by omega
                  exact g49.2.2.1.1
              · by_cases c53 : a < 53
                · obtain rfl : a = 52 := by omega
                  exact g49.2.2.2.1.1
                · obtain rfl : a = 53 := by omega
                  exact g49.2.2.2.2.1.1
    · by_cases c81 : a < 81
      · by_cases c67 : a < 67
        · by_cases c60 : a < 60
          · by_cases c57 : a < 57
            · by_cases c55 : a < 55
              · obtain rfl : a = 54 := by omega
                exact g49.2.2.2.2.2.1.1
              · by_cases c56 : a < 56
                · obtain rfl : a = 55 := by omega
                  exact g49.2.2.2.2.2.2.1.1
                · obtain rfl : a = 56 := by omega
                  exact g49.2.2.2.2.2.2.2.1.1
            · by_cases c58 : a < 58
              · obtain rfl : a = 57 := by omega
                exact g49.2.2.2.2.2.2.2.2.1.1
              · by_cases c59 : a < 59
                · obtain rfl : a = 58 := by omega
                  exact g49.2.2.2.2.2.2.2.2.2.1.1
                · obtain rfl : a = 59 := by omega
                  exact g49.2.2.2.2.2.2.2.2.2.2.1.1
          · by_cases c63 : a < 63
            · by_cases c61 : a < 61
              · obtain rfl : a = 60 := by omega
                exact g49.2.2.2.2.2.2.2.2.2.2.2.1.1
              · by_cases c62 : a < 62
                · obtain rfl : a = 61 := by omega
                  exact g49.2.2.2.2.2.2.2.2.2.2.2.2.1.1
                · obtain rfl : a = 62 := by omega
                  exact g49.2.2.2.2.2.2.2.2.2.2.2.2.2.1.1
            · by_cases c65 : a < 65
              · by_cases c64 : a < 64
                · obtain rfl : a = 63 := by omega
                  exact g49.2.2.2.2.2.2.2.2.2.2.2.2.2.2.1
                · obtain rfl : a = 64 := by omega
                  exact e64.1
              · by_cases c66 : a < 66
                · obtain rfl : a = 65 := by omega
                  exact g64.2.1.1
                · obtain rfl : a = 66 := by omega
                  exact g64.2.2.1.1
        · by_cases c74 : a < 74
          · by_cases c70 : a < 70
            · by_cases c68 : a < 68
              · obtain rfl : a = 67 := by omega
                exact g64.2.2.2.1.1
              · by_cases c69 : a < 69
                · obtain rfl : a = 68 := by omega
                  exact g64.2.2.2.2.1.1
                · obtain rfl : a = 69 := by omega
                  exact g64.2.2.2.2.2.1.1
            · by_cases c72 : a < 72
              · by_cases c71 : a < 71
                · obtain rfl : a = 70 := by omega
                  exact g64.2.2.2.2.2.2.1.1
                · obtain rfl : a = 71 := by omega
                  exact g64.2.2.2.2.2.2.2.1.1
              · by_cases c73 : a < 73
                · obtain rfl : a = 72 := by omega
                  exact g64.2.2.2.2.2.2.2.2.1.1
                · obtain rfl : a = 73 := by omega
                  exact g64.2.2.2.2.2.2.2.2.2.1.1
          · by_cases c77 : a < 77
            · by_cases c75 : a < 75
              · obtain rfl : a = 74 := by omega
                exact g64.2.2.2.2.2.2.2.2.2.2.1.1
              · by_cases c76 : a < 76
                · obtain rfl : a = 75 := by omega
                  exact g64.2.2.2.2.2.2.2.2.2.2.2.1.1
                · obtain rfl : a = 76 := by omega
                  exact g64.2.2.2.2.2.2.2.2.2.2.2.2.1.1
            · by_cases c79 : a < 79
              · by_cases c78 : a < 78
                · obtain rfl : a = 77 := by omega
                  exact g64.2.2.2.2.2.2.2.2.2.2.2.2.2.1.1
                · obtain rfl : a = 78 := by omega
                  exact g64.2.2.2.2.2.2.2.2.2.2.2.2.2.2.1
              · by_cases c80 : a < 80
                · obtain rfl : a = 79 := by omega
                  exact g79.1.1
                · obtain rfl : a = 80 := by omega
                  exact g79.2.1.1
      · by_cases c94 : a < 94
        · by_cases c87 : a < 87
          · by_cases c84 : a < 84
            · by_cases c82 : a < 82
              · obtain rfl : a = 81 := by omega
                exact g79.2.2.1.1
              · by_cases c83 : a < 83
                · obtain rfl : a = 82 := by omega
                  exact g79.2.2.2.1.1
                · obtain rfl : a = 83 := by omega
                  exact g79.2.2.2.2.1.1
            · by_cases c85 : a < 85
              · obtain rfl : a = 84 := by omega
                exact g79.2.2.2.2.2.1
              · by_cases c86 : a < 86
                · obtain rfl : a = 85 := by omega
                  exact (by unfold zP; rw [e85.1, ref6]; rfl)
                · obtain rfl : a = 86 := by omega
                  exact e86.1
          · by_cases c90 : a < 90
            · by_cases c88 : a < 88
              · obtain rfl : a = 87 := by omega
                exact g86.2.1
              · by_cases c89 : a < 89
                · obtain rfl : a = 88 := by omega
                  exact e88.1
                · obtain rfl : a = 89 := by omega
                  exact g88.2.1
            · by_cases c92 : a < 92
              · by_cases c91 : a < 91
                · obtain rfl : a = 90 := by omega
                  exact e90.1
                · obtain rfl : a = 91 := by omega
                  exact g90.2.1
              · by_cases c93 : a < 93
                · obtain rfl : a = 92 := by omega
                  exact e92.1
                · obtain rfl : a = 93 := by omega
                  exact g92.2.1
        · by_cases c101 : a < 101
          · by_cases c97 : a < 97
            · by_cases c95 : a < 95
              · obtain rfl : a = 94 := by omega
                exact e94.1
              · by_cases c96 : a < 96
                · obtain rfl : a = 95 := by omega
                  exact g94.2.1
                · obtain rfl : a = 96 := by omega
                  exact e96.1
            · by_cases c99 : a < 99
              · by_cases c98 : a < 98
                · obtain rfl : a = 97 := by omega
                  exact g96.2.1
                · obtain rfl : a = 98 := by omega
                  exact e98.1
              · by_cases c100 : a < 100
                · obtain rfl : a = 99 := by omega
                  exact e99.1
                · obtain rfl : a = 100 := by omega
                  exact hh0.1
          · by_cases c104 : a < 104
            · by_cases c102 : a < 102
              · obtain rfl : a = 101 := by omega
                exact (by unfold zP; rw [hh1.1, ref20]; rfl)
              · by_cases c103 : a < 103
                · obtain rfl : a = 102 := by omega
                  exact (hst 0 (by decide) 0 (by decide))
                · obtain rfl : a = 103 := by omega
                  exact (hst 0 (by decide) 1 (by decide))
            · by_cases c106 : a < 106
              · by_cases c105 : a < 105
                · obtain rfl : a = 104 := by omega
                  exact (hst 0 (by decide) 2 (by decide))
                · obtain rfl : a = 105 := by omega
                  exact (hst 0 (by decide) 3 (by decide))
              · by_cases c107 : a < 107
                · obtain rfl : a = 106 := by omega
                  exact (hst 0 (by decide) 4 (by decide))
                · obtain rfl : a = 107 := by omega
                  exact (hst 1 (by decide) 0 (by decide))
  · by_cases c162 : a < 162
    · by_cases c135 : a < 135
      · by_cases c121 : a < 121
        · by_cases c114 : a < 114
          · by_cases c111 : a < 111
            · by_cases c109 : a < 109
              · obtain rfl : a = 108 := by omega
                exact (hst 1 (by decide) 1 (by decide))
              · by_cases c110 : a < 110
                · obtain rfl : a = 109 := by omega
                  exact (hst 1 (by decide) 2 (by decide))
                · obtain rfl : a = 110 := by omega
                  exact (hst 1 (by decide) 3 (by decide))
            · by_cases c112 : a < 112
              · obtain rfl : a = 111 := by omega
                exact (hst 1 (by decide) 4 (by decide))
              · by_cases c113 : a < 113
                · obtain rfl : a = 112 := by omega
                  exact (hst 2 (by decide) 0 (by decide))
                · obtain rfl : a = 113 := by omega
                  exact (hst 2 (by decide) 1 (by decide))
          · by_cases c117 : a < 117
            · by_cases c115 : a < 115
              · obtain rfl : a = 114 := by omega
                exact (hst 2 (by decide) 2 (by decide))
              · by_cases c116 : a < 116
                · obtain rfl : a = 115 := by omega
                  exact (hst 2 (by decide) 3 (by decide))
                · obtain rfl : a = 116 := by omega
                  exact (hst 2 (by decide) 4 (by decide))
            · by_cases c119 : a < 119
              · by_cases c118 : a < 118
                · obtain rfl : a = 117 := by omega
                  exact (hst 3 (by decide) 0 (by decide))
                · obtain rfl : a = 118 := by omega
                  exact (hst 3 (by decide) 1 (by decide))
              · by_cases c120 : a < 120
                · obtain rfl : a = 119 := by omega
                  exact (hst 3 (by decide) 2 (by decide))
                · obtain rfl : a = 120 := by omega
                  exact (hst 3 (by decide) 3 (by decide))
        · by_cases c128 : a < 128
          · by_cases c124 : a < 124
            · by_cases c122 : a < 122
              · obtain rfl : a = 121 := by omega
                exact (hst 3 (by decide) 4 (by decide))
              · by_cases c123 : a < 123
                · obtain rfl : a = 122 := by omega
                  exact (hst 4 (by decide) 0 (by decide))
                · obtain rfl : a = 123 := by omega
                  exact (hst 4 (by decide) 1 (by decide))
            · by_cases c126 : a < 126
              · by_cases c125 : a < 125
                · obtain rfl : a = 124 := by omega
                  exact (hst 4 (by decide) 2 (by decide))
                · obtain rfl : a = 125 := by omega
                  exact (hst 4 (by decide) 3 (by decide))
              · by_cases c127 : a < 127
                · obtain rfl : a = 126 := by omega
                  exact (hst 4 (by decide) 4 (by decide))
                · obtain rfl : a = 127 := by omega
                  exact (hst 5 (by decide) 0 (by decide))
          · by_cases c131 : a < 131
            · by_cases c129 : a < 129
              · obtain rfl : a = 128 := by omega
                exact (hst 5 (by decide) 1 (by decide))
              · by_cases c130 : a < 130
                · obtain rfl : a = 129 := by omega
                  exact (hst 5 (by decide) 2 (by decide))
                · obtain rfl : a = 130 := by omega
                  exact (hst 5 (by decide) 3 (by decide))
            · by_cases c133 : a < 133
              · by_cases c132 : a < 132
                · obtain rfl : a = 131 := by omega
                  exact (hst 5 (by decide) 4 (by decide))
                · obtain rfl : a = 132 := by omega
                  exact (hst 6 (by decide) 0 (by decide))
              · by_cases c134 : a < 134
                · obtain rfl : a = 133 := by omega
                  exact (hst 6 (by decide) 1 (by decide))
                · obtain rfl : a = 134 := by omega
                  exact (hst 6 (by decide) 2 (by decide))
      · by_cases c148 : a < 148
        · by_cases c141 : a < 141
          · by_cases c138 : a < 138
            · by_cases c136 : a < 136
              · obtain rfl : a = 135 := by omega
                exact (hst 6 (by decide) 3 (by decide))
              · by_cases c137 : a < 137
                · obtain rfl : a = 136 := by omega
                  exact (hst 6 (by decide) 4 (by decide))
                · obtain rfl : a = 137 := by omega
                  exact (hst 7 (by decide) 0 (by decide))
            · by_cases c139 : a < 139
              · obtain rfl : a = 138 := by omega
                exact (hst 7 (by decide) 1 (by decide))
              · by_cases c140 : a < 140
                · obtain rfl : a = 139 := by omega
                  exact (hst 7 (by decide) 2 (by decide))
                · obtain rfl : a = 140 := by omega
                  exact (hst 7 (by decide) 3 (by decide))
          · by_cases c144 : a < 144
            · by_cases c142 : a < 142
              · obtain rfl : a = 141 := by omega
                exact (hst 7 (by decide) 4 (by decide))
              · by_cases c143 : a < 143
                · obtain rfl : a = 142 := by omega
                  exact (hst 8 (by decide) 0 (by decide))
                · obtain rfl : a = 143 := by omega
                  exact (hst 8 (by decide) 1 (by decide))
            · by_cases c146 : a < 146
              · by_cases c145 : a < 145
                · obtain rfl : a = 144 := by omega
                  exact (hst 8 (by decide) 2 (by decide))
                · obtain rfl : a = 145 := by omega
                  exact (hst 8 (by decide) 3 (by decide))
              · by_cases c147 : a < 147
                · obtain rfl : a = 146 := by omega
                  exact (hst 8 (by decide) 4 (by decide))
                · obtain rfl : a = 147 := by omega
                  exact (hst 9 (by decide) 0 (by decide))
        · by_cases c155 : a < 155
          · by_cases c151 : a < 151
            · by_cases c149 : a < 149
              · obtain rfl : a = 148 := by omega
                exact (hst 9 (by decide) 1 (by decide))
              · by_cases c150 : a < 150
                · obtain rfl : a = 149 := by omega
                  exact (hst 9 (by decide) 2 (by decide))
                · obtain rfl : a = 150 := by omega
                  exact (hst 9 (by decide) 3 (by decide))
            · by_cases c153 : a < 153
              · by_cases c152 : a < 152
                · obtain rfl : a = 151 := by omega
                  exact (hst 9 (by decide) 4 (by decide))
                · obtain rfl : a = 152 := by omega
                  exact (hst 10 (by decide) 0 (by decide))
              · by_cases c154 : a < 154
                · obtain rfl : a = 153 := by omega
                  exact (hst 10 (by decide) 1 (by decide))
                · obtain rfl : a = 154 := by omega
                  exact (hst 10 (by decide) 2 (by decide))
          · by_cases c158 : a < 158
            · by_cases c156 : a < 156
              · obtain rfl : a = 155 := by omega
                exact (hst 10 (by decide) 3 (by decide))
              · by_cases c157 : a < 157
                · obtain rfl : a = 156 := by omega
                  exact (hst 10 (by decide) 4 (by decide))
                · obtain rfl : a = 157 := by omega
                  exact (hst 11 (by decide) 0 (by decide))
            · by_cases c160 : a < 160
              · by_cases c159 : a < 159
                · obtain rfl : a = 158 := by omega
                  exact (hst 11 (by decide) 1 (by decide))
                · obtain rfl : a = 159 := by omega
                  exact (hst 11 (by decide) 2 (by decide))
              · by_cases c161 : a < 161
                · obtain rfl : a = 160 := by omega
                  exact (hst 11 (by decide) 3 (by decide))
                · obtain rfl : a = 161 := by omega
                  exact (hst 11 (by decide) 4 (by decide))
    · by_cases c189 : a < 189
      · by_cases c175 : a < 175
        · by_cases c168 : a < 168
          · by_cases c165 : a < 165
            · by_cases c163 : a < 163
              · obtain rfl : a = 162 := by omega
                exact (hst 12 (by decide) 0 (by decide))
              · by_cases c164 : a < 164
                · obtain rfl : a = 163 := by omega
                  exact (hst 12 (by decide) 1 (by decide))
                · obtain rfl : a = 164 := by omega
                  exact (hst 12 (by decide) 2 (by decide))
            · by_cases c166 : a < 166
              · obtain rfl : a = 165 := by omega
                exact (hst 12 (by decide) 3 (by decide))
              · by_cases c167 : a < 167
                · obtain rfl : a = 166 := by omega
                  exact (hst 12 (by decide) 4 (by decide))
                · obtain rfl : a = 167 := by omega
                  exact (hst 13 (by decide) 0 (by decide))
          · by_cases c171 : a < 171
            · by_cases c169 : a < 169
              · obtain rfl : a = 168 := by omega
                exact (hst 13 (by decide) 1 (by decide))
              · by_cases c170 : a < 170
                · obtain rfl : a = 169 := by omega
                  exact (hst 13 (by decide) 2 (by decide))
                · obtain rfl : a = 170 := by omega
                  exact (hst 13 (by decide) 3 (by decide))
            · by_cases c173 : a < 173
              · by_cases c172 : a < 172
                · obtain rfl : a = 171 := by omega
                  exact (hst 13 (by decide) 4 (by decide))
                · obtain rfl : a = 172 := by omega
                  exact (hst 14 (by decide) 0 (by decide))
              · by_cases c174 : a < 174
                · obtain rfl : a = 173 := by omega
                  exact (hst 14 (by decide) 1 (by decide))
                · obtain rfl : a = 174 := by omega
                  exact (hst 14 (by decide) 2 (by decide))
        · by_cases c182 : a < 182
          · by_cases c178 : a < 178
            · by_cases c176 : a < 176
              · obtain rfl : a = 175 := by omega
                exact (hst 14 (by decide) 3 (by decide))
              · by_cases c177 : a < 177
                · obtain rfl : a = 176 := by omega
                  exact (hst 14 (by decide) 4 (by decide))
                · obtain rfl : a = 177 := by omega
                  exact (hst 15 (by decide) 0 (by decide))
            · by_cases c180 : a < 180
              · by_cases c179 : a < 179
                · obtain rfl : a = 178 := by omega
                  exact (hst 15 (by decide) 1 (by decide))
                · obtain rfl : a = 179 := by omega
                  exact (hst 15 (by decide) 2 (by decide))
              · by_cases c181 : a < 181
                · obtain rfl : a = 180 := by omega
                  exact (hst 15 (by decide) 3 (by decide))
                · obtain rfl : a = 181 := by omega
                  exact (hst 15 (by decide) 4 (by decide))
          · by_cases c185 : a < 185
            · by_cases c183 : a < 183
              · obtain rfl : a = 182 := by omega
                exact (hst 16 (by decide) 0 (by decide))
              · by_cases c184 : a < 184
                · obtain rfl : a = 183 := by omega
                  exact (hst 16 (by decide) 1 (by decide))
                · obtain rfl : a = 184 := by omega
                  exact (hst 16 (by decide) 2 (by decide))
            · by_cases c187 : a < 187
              · by_cases c186 : a < 186
                · obtain rfl : a = 185 := by omega
                  exact (hst 16 (by decide) 3 (by decide))
                · obtain rfl : a = 186 := by omega
                  exact (hst 16 (by decide) 4 (by decide))
              · by_cases c188 : a < 188
                · obtain rfl : a = 187 := by omega
                  exact (hst 17 (by decide) 0 (by decide))
                · obtain rfl : a = 188 := by omega
                  exact (hst 17 (by decide) 1 (by decide))
      · by_cases c202 : a < 202
        · by_cases c195 : a < 195
          · by_cases c192 : a < 192
            · by_cases c190 : a < 190
              · obtain rfl : a = 189 := by omega
                exact (hst 17 (by decide) 2 (by decide))
              · by_cases c191 : a < 191
                · obtain rfl : a = 190 := by omega
                  exact (hst 17 (by decide) 3 (by decide))
                · obtain rfl : a = 191 := by omega
                  exact (hst 17 (by decide) 4 (by decide))
            · by_cases c193 : a < 193
              · obtain rfl : a = 192 := by omega
                exact (hst 18 (by decide) 0 (by decide))
              · by_cases c194 : a < 194
                · obtain rfl : a = 193 := by omega
                  exact (hst 18 (by decide) 1 (by decide))
                · obtain rfl : a = 194 := by omega
                  exact (hst 18 (by decide) 2 (by decide))
          · by_cases c198 : a < 198
            · by_cases c196 : a < 196
              · obtain rfl : a = 195 := by omega
                exact (hst 18 (by decide) 3 (by decide))
              · by_cases c197 : a < 197
                · obtain rfl : a = 196 := by omega
                  exact (hst 18 (by decide) 4 (by decide))
                · obtain rfl : a = 197 := by omega
                  exact (hst 19 (by decide) 0 (by decide))
            · by_cases c200 : a < 200
              · by_cases c199 : a < 199
                · obtain rfl : a = 198 := by omega
                  exact (hst 19 (by decide) 1 (by decide))
                · obtain rfl : a = 199 := by omega
                  exact (hst 19 (by decide) 2 (by decide))
              · by_cases c201 : a < 201
                · obtain rfl : a = 200 := by omega
                  exact (hst 19 (by decide) 3 (by decide))
                · obtain rfl : a = 201 := by omega
                  exact (hst 19 (by decide) 4 (by decide))
        · by_cases c209 : a < 209
          · by_cases c205 : a < 205
            · by_cases c203 : a < 203
              · obtain rfl : a = 202 := by omega
                exact (by unfold zP; rw [e202.1]; have e : zk_rv (-1) = .null := by { unfold zk_rv; rw [if_pos (by decide)] }; rw [zk_eMill, ← e]; rfl)
              · by_cases c204 : a < 204
                · obtain rfl : a = 203 := by omega
                  exact e203.1
                · obtain rfl : a = 204 := by omega
                  exact e204.1
            · by_cases c207 : a < 207
              · by_cases c206 : a < 206
                · obtain rfl : a = 205 := by omega
                  exact e205.1
                · obtain rfl : a = 206 := by omega
                  exact e206.1
              · by_cases c208 : a < 208
                · obtain rfl : a = 207 := by omega
                  exact e207.1
                · obtain rfl : a = 208 := by omega
                  exact e208.1
          · by_cases c212 : a < 212
            · by_cases c210 : a < 210
              · obtain rfl : a = 209 := by omega
                exact e209.1
              · by_cases c211 : a < 211
                · obtain rfl : a = 210 := by omega
                  exact e210.1
                · obtain rfl : a = 211 := by omega
                  exact e211.1
            · by_cases c214 : a < 214
              · by_cases c213 : a < 213
                · obtain rfl : a = 212 := by omega
                  exact e212.1
                · obtain rfl : a = 213 := by omega
                  exact e213.1
              · by_cases c215 : a < 215
                · obtain rfl : a = 214 := by omega
                  exact e214.1
                · obtain rfl : a = 215 := by omega
                  exact e215.1
set_option maxHeartbeats 4000000 in
set_option maxRecDepth 100000 in
theorem zP_model {h : ZH} (d216 : zz_c h 216 (.inr (11, [.ref 217, .int 0, .int 0, .ref 218, .ref 219, .ref 220, .ref 221, .ref 222, .int 0, .int 0, .int 0, .int 0, .int 0, .int 0, .int 0, .ref 223, .int 0, .ref 224, .int 0, .ref 225, .ref 226, .int (-1), .int 0, .int 0, .int (-1), .ref 227, .ref 228, .int 0, .ref 229, .ref 230, .ref 231, .ref 232, .ref 233, .ref 234, .int 0, .ref 235, .ref 236, .long 0, .ref 237, .ref 238, .ref 239, .ref 240]))) (d217 : zz_c h 217 (.inl (.byte, 400, .inl (fun _ => 0)))) (d218 : zz_c h 218 (.inl (.int, 2400, .inl (fun _ => 0)))) (d219 : zz_c h 219 (.inl (.int, 7, .inl (fun _ => 0)))) (d220 : zz_c h 220 (.inl (.int, 288, .inl (fun _ => 0)))) (d221 : zz_c h 221 (.inl (.int, 6, .inl (fun _ => 0)))) (d222 : zz_c h 222 (.inl (.int, 108, .inl (fun _ => 0)))) (d223 : zz_c h 223 (.inl (.int, 400, .inl (fun _ => 0)))) (d224 : zz_c h 224 (.inl (.long, 64, .inr (.inl (fun _ => 0))))) (d225 : zz_c h 225 (.inl (.long, 11, .inr (.inl (fun _ => 0))))) (d226 : zz_c h 226 (.inl (.int, 139, .inl (fun _ => 0)))) (d227 : zz_c h 227 (.inl (.int, 5, .inl (fun _ => 0)))) (d228 : zz_c h 228 (.inl (.int, 940, .inl (fun _ => 0)))) (d229 : zz_c h 229 (.inl (.int, 47, .inl (fun _ => 0)))) (d230 : zz_c h 230 (.inl (.int, 121, .inl (fun _ => 0)))) (d231 : zz_c h 231 (.inl (.int, 5, .inl (fun _ => 0)))) (d232 : zz_c h 232 (.inl (.int, 5, .inl (fun _ => 0)))) (d233 : zz_c h 233 (.inl (.int, 5, .inl (fun _ => 0)))) (d234 : zz_c h 234 (.inl (.int, 5, .inl (fun _ => 0)))) (d235 : zz_c h 235 (.inl (.boolean, 7, .inl (fun _ => 0)))) (d236 : zz_c h 236 (.inl (.int, 35, .inl (fun _ => 0)))) (d237 : zz_c h 237 (.inl (.int, 556, .inl (fun _ => 0)))) (d238 : zz_c h 238 (.inl (.int, 4, .inl (fun _ => 0)))) (d239 : zz_c h 239 (.inl (.int, 4, .inl (fun _ => 0)))) (d240 : zz_c h 240 (.inl (.boolean, 4, .inl (fun _ => 0)))) : ∀ a, 216 ≤ a → a < 241 → zP h a := by
  intro a ha0 ha
  by_cases c228 : a < 228
  · by_cases c222 : a < 222
    · by_cases c219 : a < 219
      · by_cases c217 : a < 217
        · obtain rfl : a = 216 := by omega
          exact d216.1
        · by_cases c218 : a < 218
          · obtain rfl : a = 217 := by omega
            exact d217.1
          · obtain rfl : a = 218 := by omega
            exact d218.1
      · by_cases c220 : a < 220
        · obtain rfl : a = 219 := by omega
          exact d219.1
        · by_cases c221 : a < 221
          · obtain rfl : a = 220 := by omega
            exact d220.1
          · obtain rfl : a = 221 := by omega
            exact d221.1
    · by_cases c225 : a < 225
      · by_cases c223 : a < 223
        · obtain rfl : a = 222 := by omega
          exact d222.1
        · by_cases c224 : a < 224
          · obtain rfl : a = 223 := by omega
            exact d223.1
          · obtain rfl : a = 224 := by omega
            exact d224.1
      · by_cases c226 : a < 226
        · obtain rfl : a = 225 := by omega
          exact d225.1
        · by_cases c227 : a < 227
          · obtain rfl : a = 226 := by omega
            exact d226.1
          · obtain rfl : a = 227 := by omega
            exact d227.1
  · by_cases c234 : a < 234
    · by_cases c231 : a < 231
      · by_cases c229 : a < 229
        · obtain rfl : a = 228 := by omega
          exact d228.1
        · by_cases c230 : a < 230
          · obtain rfl : a = 229 := by omega
            exact d229.1
          · obtain rfl : a = 230 := by omega
            exact d230.1
      · by_cases c232 : a < 232
        · obtain rfl : a = 231 := by omega
          exact d231.1
        · by_cases c233 : a < 233
          · obtain rfl : a = 232 := by omega
            exact d232.1
          · obtain rfl : a = 233 := by omega
            exact d233.1
    · by_cases c237 : a < 237
      · by_cases c235 : a < 235
        · obtain rfl : a = 234 := by omega
          exact d234.1
        · by_cases c236 : a < 236
          · obtain rfl : a = 235 := by omega
            exact d235.1
          · obtain rfl : a = 236 := by omega
            exact d236.1
      · by_cases c239 : a < 239
        · by_cases c238 : a < 238
          · obtain rfl : a = 237 := by omega
            exact d237.1
          · obtain rfl : a = 238 := by omega
            exact d238.1
        · by_cases c240 : a < 240
          · obtain rfl : a = 239 := by omega
            exact d239.1
          · obtain rfl : a = 240 := by omega
            exact d240.1
set_option maxHeartbeats 4000000 in
set_option maxRecDepth 100000 in
theorem law_wp {L : Nat} {xs : Nat → Int32} (hL : L ≤ 3072) : zz_wp zt_ms zt_nm zt_df (zt_X L xs) 20 zt_law 0 [(0, .ref 1000000)] [] zt_h0 (fun r h' => r = some (.int 1) ∧ h'.1 ≤ 600000 ∧ h'.2.1 ≤ 7302250) := by
  refine w_new (pc2 := 3) (n := 0) (sl := 11) (en := .inr (10, [.null, .null, .null, .null, .null, .null, .null, .null, .null, .null, .int 0])) rfl rfl (by decide) rfl rfl rfl (fun h1 u1 => ?_)
  have c1 := u1.self rfl (by decide)
  have n1 := u1.cnt (k := 0) rfl
  have s1 : h1.2.1 = 11 := by rw [u1.sl]; rfl
  refine w_dup (pc2 := 4) rfl rfl rfl ?_
  refine w_calli (pc2 := 7) (k := 2) (c := zt_m107) (as := [.ref 0]) (rest := [.ref 0]) rfl rfl rfl rfl rfl c1.look rfl (Nat.le_of_ble_eq_true rfl) (Nat.le_of_ble_eq_true rfl) (ct_RowRing_init c1 n1) (by decide) rfl (fun r h2 q => ?_)
  obtain ⟨rfl, m2, t2, e0, e1, e2, e3, e18, e19, e34, e49, e64, e85, e86, e88, e90, e92, e94, e96, e98, e99, e202, e203, e204, e205, e206, e207, e208, e209, e210, e211, e212, e213, e214, e215, g3, g19, g34, g49, g64, g79, g86, g88, g90, g92, g94, g96, g100, f2⟩ := q
  have A2 := zP_ring e0 e1 e2 e3 e18 e19 e34 e49 e64 e85 e86 e88 e90 e92 e94 e96 e98 e99 e202 e203 e204 e205 e206 e207 e208 e209 e210 e211 e212 e213 e214 e215 g3 g19 g34 g49 g64 g79 g86 g88 g90 g92 g94 g96 g100
  change zz_wp zt_ms zt_nm zt_df (zt_X L xs) 20 zt_law 7 [(0, .ref 1000000)] [.ref 0] h2 _
  refine w_astore_n (pc2 := 8) (ls2 := [(1, .ref 0), (0, .ref 1000000)]) rfl rfl rfl ?_
  refine w_new (pc2 := 11) (n := 216) (sl := 42) (en := .inr (11, [.null, .int 0, .int 0, .null, .null, .null, .null, .null, .int 0, .int 0, .int 0, .int 0, .int 0, .int 0, .int 0, .null, .int 0, .null, .int 0, .null, .null, .int 0, .int 0, .int 0, .int 0, .null, .null, .int 0, .null, .null, .null, .null, .null, .null, .int 0, .null, .null, .long 0, .null, .null, .null, .null])) rfl m2 (by decide) rfl rfl rfl (fun h3 u3 => ?_)
  have c3 := u3.self m2 (by decide)
  have n3 := u3.cnt m2
  have s3 : h3.2.1 = 5118 := by rw [u3.sl, t2, s1]
  have fo3 := u3.fo m2
  refine w_dup (pc2 := 12) rfl rfl rfl ?_
  refine w_calli (pc2 := 15) (k := 0) (c := zt_m142) (as := [.ref 216]) (rest := [.ref 216]) rfl rfl rfl rfl rfl c3.look rfl (Nat.le_of_ble_eq_true rfl) (Nat.le_of_ble_eq_true rfl) (ct_Model_init c3 n3) (by decide) rfl (fun r h4 q => ?_)
  obtain ⟨rfl, m4, t4, d216, d217, d218, d219, d220, d221, d222, d223, d224, d225, d226, d227, d228, d229, d230, d231, d232, d233, d234, d235, d236, d237, d238, d239, d240, f4⟩ := q
  have A4 := zP_model d216 d217 d218 d219 d220 d221 d222 d223 d224 d225 d226 d227 d228 d229 d230 d231 d232 d233 d234 d235 d236 d237 d238 d239 d240
  have AL : ∀ a, a < 241 → zP h4 a := by
    intro a ha
    by_cases ha2 : 216 ≤ a
    · exact A4 a ha2 ha
    · have e1 : h4.2.2 a = h3.2.2 a := f4 a (by omega)
      have e2 : h3.2.2 a = h2.2.2 a := fo3 a (by omega)
      unfold zP
      rw [e1, e2]
      exact A2 a (by omega)
  change zz_wp zt_ms zt_nm zt_df (zt_X L xs) 20 zt_law 15 [(1, .ref 0), (0, .ref 1000000)] [.ref 216] h4 _
  refine w_astore_n (pc2 := 16) (ls2 := [(2, .ref 216), (1, .ref 0), (0, .ref 1000000)]) rfl rfl rfl ?_
  refine w_iconst (pc2 := 17) rfl rfl ?_
  refine w_istore_n (pc2 := 18) (ls2 := [(3, .int (nI 0)), (2, .ref 216), (1, .ref 0), (0, .ref 1000000)]) rfl rfl rfl ?_
  refine zz_wp.mono (zl_loop (b := h4) hL (L + 6) 0 h4 (by omega) (by omega) ⟨z0, zk_start AL, Rel0⟩) ?_
  rintro r h' ⟨rfl, s, rfl, _⟩
  refine ⟨rfl, ?_, ?_⟩
  · show h4.1 ≤ 600000
    rw [m4]; omega
  · show h4.2.1 ≤ 7302250
    rw [t4, s3]; omega
