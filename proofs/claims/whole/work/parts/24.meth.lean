/-! printed by wip/whole/gen.py: every method is as the words say; every instruction is as the bytes say -/
def zt_chk (own nL : Nat) (ini : Bool) (i : ZI) : Bool := match i with
  | (pc, ins, len, aux, cv) => match ins with
    | .iconst n => cv == .int (Int32.ofInt n) && len == 1
    | .bipush n => cv == .int (Int8.ofInt n).toInt32 && len == 2
    | .sipush n => cv == .int (Int16.ofInt n).toInt32 && len == 3
    | .lconst n => cv == .long (Int64.ofNat (n : Nat)) && len == 1
    | .ldc idx => len == 2 && (match cv with
      | .int v => zt_KI.elem (own, idx, v)
      | .ref k => zt_SS.elem (own, idx, k)
      | _ => false)
    | .ldc_w idx => len == 3 && (match cv with
      | .int v => zt_KI.elem (own, idx, v)
      | _ => false)
    | .ldc2_w idx => len == 3 && (match cv with
      | .long v => zt_KL.elem (own, idx, v)
      | _ => false)
    | .aconst_null => len == 1 && cv == .null
    | .getstatic idx => len == 3 && zt_GS.elem (own, idx, cv)
    | .iload_n k => (k : Nat) == aux && len == 1
    | .iload k => k == aux && len == 2
    | .lload_n k => (k : Nat) == aux && len == 1
    | .lload k => k == aux && len == 2
    | .aload_n k => (k : Nat) == aux && len == 1
    | .aload k => k == aux && len == 2
    | .istore_n k => (k : Nat) == aux && (len == 1 && decide (aux < nL))
    | .istore k => k == aux && (len == 2 && decide (aux < nL))
    | .lstore_n k => (k : Nat) == aux && (len == 1 && decide (aux + 1 < nL))
    | .lstore k => k == aux && (len == 2 && decide (aux + 1 < nL))
    | .astore_n k => (k : Nat) == aux && (len == 1 && decide (aux < nL))
    | .astore k => k == aux && (len == 2 && decide (aux < nL))
    | .iinc k n => k == aux && (len == 3 && (decide (aux < nL) && cv == .int (Int32.ofInt n)))
    | .goto o => decide ((pc : Int) + o = (aux : Int)) && len == 3
    | .ifCond _ o => decide ((pc : Int) + o = (aux : Int)) && len == 3
    | .if_icmp _ o => decide ((pc : Int) + o = (aux : Int)) && len == 3
    | .ifnull o => decide ((pc : Int) + o = (aux : Int)) && len == 3
    | .tableswitch _ _ _ _ => true
    | .getfield idx => len == 3 && (zt_FG.elem (own, idx, aux) || zt_FS.elem (own, idx, aux))
    | .putfield idx => len == 3 && zt_FP.any (fun q => q.1 == own && (q.2.1 == idx && (q.2.2.1 == aux && (zt_kv q.2.2.2.1 == cv && (q.2.2.2.2 == 0 || ini)))))
    | .new idx => len == 3 && zt_NW.elem (own, idx, aux)
    | .newarray ty => len == 2 && (decide (ty = .int) || decide (ty = .long) || decide (ty = .byte) || decide (ty = .boolean))
    | .anewarray idx => len == 3 && zt_AN.elem (own, idx, aux)
    | .invokevirtual idx => len == 3 && zt_MV.elem (own, idx, aux)
    | .invokestatic idx => len == 3 && (if aux = 9998 then zt_AC.elem (own, idx) else if aux = 9997 then zt_MN.elem (own, idx) else if aux = 9996 then zt_MX.elem (own, idx) else zt_MS.elem (own, idx, aux))
    | .invokespecial idx => len == 3 && (if aux = 9999 then zt_OI.elem (own, idx) else zt_MI.elem (own, idx, aux))
    | _ => len == 1
theorem zt_chk_ok {m : ZM} {ini : Bool} {i : ZI} (hc : zt_cn m.2.1 = m.1.cls) (hi : ini = true → m.1.name = "<init>") (h : zt_chk m.2.1 m.2.2.2.1 ini i = true) : zz_okI zt_Ts vwCl zt_SL zt_GL zt_OL zt_df zt_ms m.1 m.2.2.2.1 i.1 i.2.1 i.2.2.1 i.2.2.2.1 i.2.2.2.2 := by
  obtain ⟨pc, ins, len, aux, cv⟩ := i
  unfold zt_chk at h
  unfold zz_okI
  dsimp only at h ⊢
  rw [← hc]
  cases ins
  case ldc idx =>
    simp only [Bool.and_eq_true, beq_iff_eq] at h
    refine ⟨h.1, ?_⟩
    cases cv with
    | int v => exact Or.inl ⟨v, rfl, zt_KI_ok _ (List.elem_iff.mp h.2)⟩
    | ref k => obtain ⟨tx, ht⟩ := zt_SS_ok _ (List.elem_iff.mp h.2); exact Or.inr ⟨tx, k, rfl, ht⟩
    | _ => exact absurd h.2 (by simp)
  case ldc_w idx =>
    simp only [Bool.and_eq_true, beq_iff_eq] at h
    refine ⟨h.1, ?_⟩
    cases cv with
    | int v => exact ⟨v, rfl, zt_KI_ok _ (List.elem_iff.mp h.2)⟩
    | _ => exact absurd h.2 (by simp)
  case ldc2_w idx =>
    simp only [Bool.and_eq_true, beq_iff_eq] at h
    refine ⟨h.1, ?_⟩
    cases cv with
    | long v => exact ⟨v, rfl, zt_KL_ok _ (List.elem_iff.mp h.2)⟩
    | _ => exact absurd h.2 (by simp)
  case getstatic idx =>
    simp only [Bool.and_eq_true, beq_iff_eq] at h
    exact ⟨h.1, zt_GS_ok _ (List.elem_iff.mp h.2)⟩
  case getfield idx =>
    simp only [Bool.and_eq_true, Bool.or_eq_true, beq_iff_eq] at h
    refine ⟨h.1, ?_⟩
    rcases h.2 with q | q
    · exact Or.inl (zt_FG_ok _ (List.elem_iff.mp q))
    · exact Or.inr (zt_FS_ok _ (List.elem_iff.mp q))
  case putfield idx =>
    simp only [Bool.and_eq_true, beq_iff_eq, List.any_eq_true] at h
    obtain ⟨h1, q, hq, e1, e2, e3, e4, e5⟩ := h
    refine ⟨h1, ?_⟩
    have := zt_FP_ok q hq m.1 (by rw [e1]; exact hc) (fun hn => hi (by
      simp only [Bool.or_eq_true, beq_iff_eq] at e5
      exact e5.resolve_left hn))
    rw [e2, e3, e4] at this
    exact this
  case new idx =>
    simp only [Bool.and_eq_true, beq_iff_eq] at h
    obtain ⟨C, T, N, ty, g1, g2, g3, g4, g5, g6, g7, g8, g9⟩ := zt_NW_ok _ (List.elem_iff.mp h.2)
    refine ⟨h.1, C, T, N, ty, g1, g2, g3, g4, g5, g6, g7, g8, fun v hv k e => ?_⟩
    have := g9 v hv
    rw [e] at this
    simp at this
  case newarray ty =>
    simp only [Bool.and_eq_true, Bool.or_eq_true, beq_iff_eq, decide_eq_true_eq] at h
    refine ⟨h.1, ?_⟩
    rcases h.2 with ((rfl | rfl) | rfl) | rfl
    · exact zt_NA_int
    · exact zt_NA_long
    · exact zt_NA_byte
    · exact zt_NA_boolean
  case anewarray idx =>
    simp only [Bool.and_eq_true, beq_iff_eq] at h
    exact ⟨h.1, zt_AN_ok _ (List.elem_iff.mp h.2)⟩
  case invokevirtual idx =>
    simp only [Bool.and_eq_true, beq_iff_eq] at h
    obtain ⟨c, g1, g2⟩ := zt_MV_ok _ (List.elem_iff.mp h.2)
    exact ⟨h.1, fun c' hc' => by cases g1.symm.trans hc'; exact g2⟩
  case invokestatic idx =>
    simp only [Bool.and_eq_true, beq_iff_eq] at h
    refine ⟨h.1, ?_⟩
    have h2 := h.2
    split
    · next e => rw [if_pos e] at h2; exact ⟨zt_AC_ok _ (List.elem_iff.mp h2), zt_AC2⟩
    · next e =>
      rw [if_neg e] at h2
      split
      · next e => rw [if_pos e] at h2; exact ⟨zt_MN_ok _ (List.elem_iff.mp h2), zt_MN2⟩
      next e =>
      rw [if_neg e] at h2
      split
      · next e => rw [if_pos e] at h2; exact ⟨zt_MX_ok _ (List.elem_iff.mp h2), zt_MX2⟩
      next e =>
      rw [if_neg e] at h2
      obtain ⟨c, g1, g2⟩ := zt_MS_ok _ (List.elem_iff.mp h2)
      exact fun c' hc' => by cases g1.symm.trans hc'; exact g2
  case invokespecial idx =>
    simp only [Bool.and_eq_true, beq_iff_eq] at h
    refine ⟨h.1, ?_⟩
    have h2 := h.2
    split
    · next e => rw [if_pos e] at h2; exact ⟨zt_OI_ok _ (List.elem_iff.mp h2), zt_OI2⟩
    · next e =>
      rw [if_neg e] at h2
      obtain ⟨c, g1, g2⟩ := zt_MI_ok _ (List.elem_iff.mp h2)
      exact fun c' hc' => by cases g1.symm.trans hc'; exact g2
  all_goals first
    | trivial
    | (simp only [Bool.and_eq_true, beq_iff_eq, decide_eq_true_eq] at h; exact h)
theorem zt_all {m : ZM} {ini : Bool} (hc : zt_cn m.2.1 = m.1.cls) (hi : ini = true → m.1.name = "<init>") (h1 : ∀ i ∈ m.2.2.2.2.2.2, decode m.2.2.1 i.1 = .ok (i.2.1, i.2.2.1)) (h2 : m.2.2.2.2.2.2.all (zt_chk m.2.1 m.2.2.2.1 ini) = true) : ∀ i ∈ m.2.2.2.2.2.2, zz_ok zt_Ts vwCl zt_SL zt_GL zt_OL zt_df zt_ms m i :=
  fun i hm => ⟨h1 i hm, zt_chk_ok hc hi (List.all_eq_true.mp h2 i hm)⟩
