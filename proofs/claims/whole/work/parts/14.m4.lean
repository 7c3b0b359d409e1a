def f_X6_bend (x1 : Int32) (x2 : Int32) (x3 : Int32) (x4 : Int32) (st : Nat → Int32) (wt : Int32) (sm : Int64) (ld : Int32) (ln : Int32) : Option (Int32 × (Nat → Int32) × Int32 × Int64 × Int32 × Int32) :=
  bM (f_X6_isFrame x1 x2 st wt sm ld ln) fun r1 st2 wt3 sm4 ld5 ln6 =>
  if r1 = 0 then (some ((-1), st2, wt3, sm4, ld5, ln6))
  else (bx (f_X6_frameAt x1 x2) fun r8 =>
  rd st2 8000 r8 fun v9 =>
  bx (f_X6_in ((x3 : Int32).toInt64) 0 (((v9 - 1) : Int32).toInt64)) fun r10 =>
  if r10 = 0 then (some ((-1), st2, wt3, sm4, ld5, ln6))
  else (bx (f_X6_in ((x4 : Int32).toInt64) 1 255) fun r12 =>
  if r12 = 0 then (some ((-1), st2, wt3, sm4, ld5, ln6))
  else (bx (f_X6_frameAt x1 x2) fun r14 =>
  bd (((r14 + 2) + x3)) fun y15 =>
  rd st2 8000 y15 fun v16 =>
  bd ((v16 ^^^ x4)) fun y17 =>
  wr st2 8000 y15 y17 fun st18 =>
  rd st18 8000 y15 fun v19 =>
  some (v19, st18, wt3, sm4, ld5, ln6))))
set_option maxHeartbeats 4000000 in
set_option maxRecDepth 100000 in
theorem k_X6_bend {l : Launch} {G : GG} {A : Nat → Prop} {Γ : Cx} (C : CX G A Γ cX6_bend RX6 ({ frames := 3, cells := 0, slots := 0, locals := 63 } : Room) 6) (h : Nat) (a1 : Nat) (a2 : Nat) (a3 : Nat) (X : va_W) (x1 : Int32) (x2 : Int32) (x3 : Int32) (x4 : Int32) (st : Nat → Int32) (wt : Int32) (sm : Int64) (ld : Int32) (ln : Int32) (r0 : Int32) (st0 : Nat → Int32) (wt0 : Int32) (sm0 : Int64) (ld0 : Int32) (ln0 : Int32) (hf : f_X6_bend x1 x2 x3 x4 st wt sm ld ln = some (r0, st0, wt0, sm0, ld0, ln0)) (hret : ∀ (pc : Nat) (lv : List (Nat × Value)), decode cX6_bend pc = .ok (.ireturn, 1) → narrow .int (.int r0) = .int r0 → St l G A Γ 0 0 (wM G h a1 a2 a3 X st0 wt0 sm0 ld0 ln0) pc lv [.int r0]) : St l G A Γ 0 0 (wM G h a1 a2 a3 X st wt sm ld ln) 0 [(0, .ref h), (1, .int x1), (2, .int x2), (3, .int x3), (4, .int x4)] [] := by
  unfold f_X6_bend at hf
  refine s_aload_n C 0 dX6_bend_0 rfl ?_
  refine s_iload_n C 1 dX6_bend_1 rfl ?_
  refine s_iload_n C 2 dX6_bend_2 rfl ?_
  obtain ⟨r1, st2, wt3, sm4, ld5, ln6, er1, hf⟩ := bM_inv hf
  refine s_cV_I (As := [.int x1, .int x2]) (rest := []) (ci := 6) (q := 0) C (c_X6_isFrame l G A h a1 a2 a3 X x1 x2 st wt sm ld ln _ _ _ _ _ _ er1) g_RX6_164 hd_X6_isFrame rfl ⟨Nat.le_of_ble_eq_true rfl, Nat.le_of_ble_eq_true rfl⟩ rfl rfl rfl (Nat.le_of_ble_eq_true rfl) ⟨Nat.le_of_ble_eq_true rfl, Nat.le_of_ble_eq_true rfl⟩ dX6_bend_3 ?_
  refine s_if_eq C 44 dX6_bend_6 (by decide) (fun c7 => ?_) (fun c7 => ?_)
  · rw [if_pos c7] at hf
    refine s_iconst (v := (-1)) C dX6_bend_44 (by decide) ?_
    exact rM_I hf (vp_nar_int _) hret dX6_bend_45
  · rw [if_neg c7] at hf
    refine s_iload_n C 3 dX6_bend_9 rfl ?_
    refine s_i2l C dX6_bend_10 ?_
    refine s_lconst (v := 0) C dX6_bend_11 (by decide) ?_
    refine s_aload_n C 0 dX6_bend_12 rfl ?_
    refine gf_508 C 0 rfl rfl dX6_bend_13 ?_
    refine s_iload_n C 1 dX6_bend_16 rfl ?_
    refine s_iload_n C 2 dX6_bend_17 rfl ?_
    obtain ⟨r8, er8, hf⟩ := bx_inv hf
    refine s_cS_I (As := [.int x1, .int x2]) (rest := [.ref a1, .long 0, .long ((x3 : Int32).toInt64)]) C (c_X6_frameAt l G A _ x1 x2 _ er8) g_RX6_81 hd_X6_frameAt rfl ⟨Nat.le_of_ble_eq_true rfl, Nat.le_of_ble_eq_true rfl⟩ rfl (Nat.le_of_ble_eq_true rfl) ⟨Nat.le_of_ble_eq_true rfl, Nat.le_of_ble_eq_true rfl⟩ dX6_bend_18 ?_
    obtain ⟨v9, hiv9, ev9, hf⟩ := rd_inv hf
    refine s_iald C 1 rfl hiv9 dX6_bend_21 ?_
    refine s_nmi ev9 ?_
    refine s_iconst (v := 1) C dX6_bend_22 (by decide) ?_
    refine s_isub C dX6_bend_23 ?_
    refine s_i2l C dX6_bend_24 ?_
    obtain ⟨r10, er10, hf⟩ := bx_inv hf
    refine s_cS_I (As := [.long ((x3 : Int32).toInt64), .long 0, .long (((v9 - 1) : Int32).toInt64)]) (rest := []) C (c_X6_in l G A _ ((x3 : Int32).toInt64) 0 (((v9 - 1) : Int32).toInt64) _ er10) g_RX6_45 hd_X6_in rfl ⟨Nat.le_of_ble_eq_true rfl, Nat.le_of_ble_eq_true rfl⟩ rfl (Nat.le_of_ble_eq_true rfl) ⟨Nat.le_of_ble_eq_true rfl, Nat.le_of_ble_eq_true rfl⟩ dX6_bend_25 ?_
    refine s_if_eq C 44 dX6_bend_28 (by decide) (fun c11 => ?_) (fun c11 => ?_)
    · rw [if_pos c11] at hf
      refine s_iconst (v := (-1)) C dX6_bend_44 (by decide) ?_
      exact rM_I hf (vp_nar_int _) hret dX6_bend_45
    · rw [if_neg c11] at hf
      refine s_iload C 4 dX6_bend_31 rfl ?_
      refine s_i2l C dX6_bend_33 ?_
      refine s_lconst (v := 1) C dX6_bend_34 (by decide) ?_
      refine s_ldc2 C tw_542 dX6_bend_35 ?_
      obtain ⟨r12, er12, hf⟩ := bx_inv hf
      refine s_cS_I (As := [.long ((x4 : Int32).toInt64), .long 1, .long 255]) (rest := []) C (c_X6_in l G A _ ((x4 : Int32).toInt64) 1 255 _ er12) g_RX6_45 hd_X6_in rfl ⟨Nat.le_of_ble_eq_true rfl, Nat.le_of_ble_eq_true rfl⟩ rfl (Nat.le_of_ble_eq_true rfl) ⟨Nat.le_of_ble_eq_true rfl, Nat.le_of_ble_eq_true rfl⟩ dX6_bend_38 ?_
      refine s_if_ne C 46 dX6_bend_41 (by decide) (fun c13 => ?_) (fun c13 => ?_)
      · rw [if_neg c13] at hf
        refine s_iload_n C 1 dX6_bend_46 rfl ?_
        refine s_iload_n C 2 dX6_bend_47 rfl ?_
        obtain ⟨r14, er14, hf⟩ := bx_inv hf
        refine s_cS_I (As := [.int x1, .int x2]) (rest := []) C (c_X6_frameAt l G A _ x1 x2 _ er14) g_RX6_81 hd_X6_frameAt rfl ⟨Nat.le_of_ble_eq_true rfl, Nat.le_of_ble_eq_true rfl⟩ rfl (Nat.le_of_ble_eq_true rfl) ⟨Nat.le_of_ble_eq_true rfl, Nat.le_of_ble_eq_true rfl⟩ dX6_bend_48 ?_
        refine s_iconst (v := 2) C dX6_bend_51 (by decide) ?_
        refine s_iadd C dX6_bend_52 ?_
        refine s_iload_n C 3 dX6_bend_53 rfl ?_
        refine s_iadd C dX6_bend_54 ?_
        obtain ⟨y15, ey15, hf⟩ := bd_inv hf
        refine s_nmi ey15 ?_
        refine s_istore C [(5, .int y15), (0, .ref h), (1, .int x1), (2, .int x2), (3, .int x3), (4, .int x4)] dX6_bend_55 (by decide) rfl ?_
        refine s_aload_n C 1 dX6_bend_57 rfl ?_
        refine gf_508 C 0 rfl rfl dX6_bend_58 ?_
        refine s_iload C 0 dX6_bend_61 rfl ?_
        refine s_aload_n C 1 dX6_bend_63 rfl ?_
        refine gf_508 C 0 rfl rfl dX6_bend_64 ?_
        refine s_iload C 0 dX6_bend_67 rfl ?_
        obtain ⟨v16, hiv16, ev16, hf⟩ := rd_inv hf
        refine s_iald C 1 rfl hiv16 dX6_bend_69 ?_
        refine s_nmi ev16 ?_
        refine s_iload C 5 dX6_bend_70 rfl ?_
        refine s_ixor C dX6_bend_72 ?_
        obtain ⟨y17, ey17, hf⟩ := bd_inv hf
        refine s_nmi ey17 ?_
        obtain ⟨st18, hist18, est18, hf⟩ := wr_inv hf
        refine s_iast C 1 rfl hist18 (wM G h a1 a2 a3 X st18 wt3 sm4 ld5 ln6) (by rw [est18]; rfl) dX6_bend_73 ?_
        refine s_aload_n C 1 dX6_bend_74 rfl ?_
        refine gf_508 C 0 rfl rfl dX6_bend_75 ?_
        refine s_iload C 0 dX6_bend_78 rfl ?_
        obtain ⟨v19, hiv19, ev19, hf⟩ := rd_inv hf
        refine s_iald C 1 rfl hiv19 dX6_bend_80 ?_
        refine s_nmi ev19 ?_
        exact rM_I hf (vp_nar_int _) hret dX6_bend_81
      · rw [if_pos c13] at hf
        refine s_iconst (v := (-1)) C dX6_bend_44 (by decide) ?_
        exact rM_I hf (vp_nar_int _) hret dX6_bend_45
theorem c_X6_bend (l : Launch) (G : GG) (A : Nat → Prop) (h : Nat) (a1 : Nat) (a2 : Nat) (a3 : Nat) (X : va_W) (x1 : Int32) (x2 : Int32) (x3 : Int32) (x4 : Int32) (st : Nat → Int32) (wt : Int32) (sm : Int64) (ld : Int32) (ln : Int32) (r0 : Int32) (st0 : Nat → Int32) (wt0 : Int32) (sm0 : Int64) (ld0 : Int32) (ln0 : Int32) (hf : f_X6_bend x1 x2 x3 x4 st wt sm ld ln = some (r0, st0, wt0, sm0, ld0, ln0)) : MI l yX6_bend cX6_bend 6 .int ({ frames := 3, cells := 0, slots := 0, locals := 63 } : Room) G A (wM G h a1 a2 a3 X st wt sm ld ln) [.ref h, .int x1, .int x2, .int x3, .int x4] r0 (wM G h a1 a2 a3 X st0 wt0 sm0 ld0 ln0) :=
  e_I (by decide) (Nat.le_of_ble_eq_true rfl) (fun Γ C hret => k_X6_bend C _ _ _ _ _ _ _ _ _ _ _ _ _ _ _ _ _ _ _ _ hf hret)
def f_X6_lose (x1 : Int32) (x2 : Int32) (st : Nat → Int32) (wt : Int32) (sm : Int64) (ld : Int32) (ln : Int32) : Option (Int32 × (Nat → Int32) × Int32 × Int64 × Int32 × Int32) :=
  bM (f_X6_isFrame x1 x2 st wt sm ld ln) fun r1 st2 wt3 sm4 ld5 ln6 =>
  if r1 = 0 then (some ((-1), st2, wt3, sm4, ld5, ln6))
  else (bMv (f_X6_remove x1 x2 st2 wt3 sm4 ld5 ln6) fun st9 wt10 sm11 ld12 ln13 =>
  bM (f_X6_many x1 st9 wt10 sm11 ld12 ln13) fun r14 st15 wt16 sm17 ld18 ln19 =>
  some (r14, st15, wt16, sm17, ld18, ln19))
set_option maxHeartbeats 4000000 in
set_option maxRecDepth 100000 in
theorem k_X6_lose {l : Launch} {G : GG} {A : Nat → Prop} {Γ : Cx} (C : CX G A Γ cX6_lose RX6 ({ frames := 3, cells := 0, slots := 0, locals := 65 } : Room) 3) (h : Nat) (a1 : Nat) (a2 : Nat) (a3 : Nat) (X : va_W) (x1 : Int32) (x2 : Int32) (st : Nat → Int32) (wt : Int32) (sm : Int64) (ld : Int32) (ln : Int32) (r0 : Int32) (st0 : Nat → Int32) (wt0 : Int32) (sm0 : Int64) (ld0 : Int32) (ln0 : Int32) (hf : f_X6_lose x1 x2 st wt sm ld ln = some (r0, st0, wt0, sm0, ld0, ln0)) (hret : ∀ (pc : Nat) (lv : List (Nat × Value)), decode cX6_lose pc = .ok (.ireturn, 1) → narrow .int (.int r0) = .int r0 → St l G A Γ 0 0 (wM G h a1 a2 a3 X st0 wt0 sm0 ld0 ln0) pc lv [.int r0]) : St l G A Γ 0 0 (wM G h a1 a2 a3 X st wt sm ld ln) 0 [(0, .ref h), (1, .int x1), (2, .int x2)] [] := by
  unfold f_X6_lose at hf
  refine s_aload_n C 0 dX6_lose_0 rfl ?_
  refine s_iload_n C 1 dX6_lose_1 rfl ?_
  refine s_iload_n C 2 dX6_lose_2 rfl ?_
  obtain ⟨r1, st2, wt3, sm4, ld5, ln6, er1, hf⟩ := bM_inv hf
  refine s_cV_I (As := [.int x1, .int x2]) (rest := []) (ci := 6) (q := 0) C (c_X6_isFrame l G A h a1 a2 a3 X x1 x2 st wt sm ld ln _ _ _ _ _ _ er1) g_RX6_164 hd_X6_isFrame rfl ⟨Nat.le_of_ble_eq_true rfl, Nat.le_of_ble_eq_true rfl⟩ rfl rfl rfl (Nat.le_of_ble_eq_true rfl) ⟨Nat.le_of_ble_eq_true rfl, Nat.le_of_ble_eq_true rfl⟩ dX6_lose_3 ?_
  refine s_if_ne C 11 dX6_lose_6 (by decide) (fun c7 => ?_) (fun c7 => ?_)
  · rw [if_neg c7] at hf
    refine s_aload_n C 0 dX6_lose_11 rfl ?_
    refine s_iload_n C 1 dX6_lose_12 rfl ?_
    refine s_iload_n C 2 dX6_lose_13 rfl ?_
    obtain ⟨st9, wt10, sm11, ld12, ln13, er8, hf⟩ := bMv_inv hf
    refine s_cV_V (As := [.int x1, .int x2]) (rest := []) (ci := 6) (q := 0) C (c_X6_remove l G A h a1 a2 a3 X x1 x2 st2 wt3 sm4 ld5 ln6 _ _ _ _ _ er8) g_RX6_84 hd_X6_remove rfl ⟨Nat.le_of_ble_eq_true rfl, Nat.le_of_ble_eq_true rfl⟩ rfl rfl rfl (Nat.le_of_ble_eq_true rfl) ⟨Nat.le_of_ble_eq_true rfl, Nat.le_of_ble_eq_true rfl⟩ dX6_lose_14 ?_
    refine s_aload_n C 0 dX6_lose_17 rfl ?_
    refine s_iload_n C 1 dX6_lose_18 rfl ?_
    obtain ⟨r14, st15, wt16, sm17, ld18, ln19, er14, hf⟩ := bM_inv hf
    refine s_cV_I (As := [.int x1]) (rest := []) (ci := 6) (q := 0) C (c_X6_many l G A h a1 a2 a3 X x1 st9 wt10 sm11 ld12 ln13 _ _ _ _ _ _ er14) g_RX6_78 hd_X6_many rfl ⟨Nat.le_of_ble_eq_true rfl, Nat.le_of_ble_eq_true rfl⟩ rfl rfl rfl (Nat.le_of_ble_eq_true rfl) ⟨Nat.le_of_ble_eq_true rfl, Nat.le_of_ble_eq_true rfl⟩ dX6_lose_19 ?_
    exact rM_I hf (vp_nar_int _) hret dX6_lose_22
  · rw [if_pos c7] at hf
    refine s_iconst (v := (-1)) C dX6_lose_9 (by decide) ?_
    exact rM_I hf (vp_nar_int _) hret dX6_lose_10
theorem c_X6_lose (l : Launch) (G : GG) (A : Nat → Prop) (h : Nat) (a1 : Nat) (a2 : Nat) (a3 : Nat) (X : va_W) (x1 : Int32) (x2 : Int32) (st : Nat → Int32) (wt : Int32) (sm : Int64) (ld : Int32) (ln : Int32) (r0 : Int32) (st0 : Nat → Int32) (wt0 : Int32) (sm0 : Int64) (ld0 : Int32) (ln0 : Int32) (hf : f_X6_lose x1 x2 st wt sm ld ln = some (r0, st0, wt0, sm0, ld0, ln0)) : MI l yX6_lose cX6_lose 3 .int ({ frames := 3, cells := 0, slots := 0, locals := 65 } : Room) G A (wM G h a1 a2 a3 X st wt sm ld ln) [.ref h, .int x1, .int x2] r0 (wM G h a1 a2 a3 X st0 wt0 sm0 ld0 ln0) :=
  e_I (by decide) (Nat.le_of_ble_eq_true rfl) (fun Γ C hret => k_X6_lose C _ _ _ _ _ _ _ _ _ _ _ _ _ _ _ _ _ _ hf hret)
def f_X6_twice_36  : Nat → Int32 → Int32 → Int32 → (Nat → Int32) → Int32 → Int64 → Int32 → Int32 → Option (Int32 × (Nat → Int32) × Int32 × Int64 × Int32 × Int32)
  | 0, _, _, _, _, _, _, _, _ => none
  | fu + 1, x1, x2, x3, st, wt, sm, ld, ln =>
    bx (f_X6_frameAt x1 x2) fun r23 =>
    if x3 < r23 then (bx (f_X6_wireAt x1) fun r25 =>
    rd st 8000 r25 fun v26 =>
    bd ((v26 + 1)) fun y27 =>
    wr st 8000 r25 y27 fun st28 =>
    bM (f_X6_many x1 st28 wt sm ld ln) fun r29 st30 wt31 sm32 ld33 ln34 =>
    some (r29, st30, wt31, sm32, ld33, ln34))
    else (rd st 8000 x3 fun v35 =>
    wr st 8000 (x3 + 36) v35 fun st36 =>
    bd (x3 + (-1)) fun y37 =>
    f_X6_twice_36 fu x1 x2 y37 st36 wt sm ld ln)
def f_X6_twice (x1 : Int32) (x2 : Int32) (st : Nat → Int32) (wt : Int32) (sm : Int64) (ld : Int32) (ln : Int32) : Option (Int32 × (Nat → Int32) × Int32 × Int64 × Int32 × Int32) :=
  bM (f_X6_isFrame x1 x2 st wt sm ld ln) fun r1 st2 wt3 sm4 ld5 ln6 =>
  if r1 = 0 then (some ((-1), st2, wt3, sm4, ld5, ln6))
  else (bM (f_X6_many x1 st2 wt3 sm4 ld5 ln6) fun r8 st9 wt10 sm11 ld12 ln13 =>
  if r8 = 12 then (some ((-3), st9, wt10, sm11, ld12, ln13))
  else (bM (f_X6_many x1 st9 wt10 sm11 ld12 ln13) fun r15 st16 wt17 sm18 ld19 ln20 =>
  bx (f_X6_frameAt x1 r15) fun r21 =>
  bd ((r21 - 1)) fun y22 =>
  f_X6_twice_36 FU x1 x2 y22 st16 wt17 sm18 ld19 ln20))
set_option maxHeartbeats 4000000 in
set_option maxRecDepth 100000 in
theorem k_X6_twice {l : Launch} {G : GG} {A : Nat → Prop} {Γ : Cx} (C : CX G A Γ cX6_twice RX6 ({ frames := 3, cells := 0, slots := 0, locals := 63 } : Room) 4) (h : Nat) (a1 : Nat) (a2 : Nat) (a3 : Nat) (X : va_W) (x1 : Int32) (x2 : Int32) (st : Nat → Int32) (wt : Int32) (sm : Int64) (ld : Int32) (ln : Int32) (r0 : Int32) (st0 : Nat → Int32) (wt0 : Int32) (sm0 : Int64) (ld0 : Int32) (ln0 : Int32) (hf : f_X6_twice x1 x2 st wt sm ld ln = some (r0, st0, wt0, sm0, ld0, ln0)) (hret : ∀ (pc : Nat) (lv : List (Nat × Value)), decode cX6_twice pc = .ok (.ireturn, 1) → narrow .int (.int r0) = .int r0 → St l G A Γ 0 0 (wM G h a1 a2 a3 X st0 wt0 sm0 ld0 ln0) pc lv [.int r0]) : St l G A Γ 0 0 (wM G h a1 a2 a3 X st wt sm ld ln) 0 [(0, .ref h), (1, .int x1), (2, .int x2)] [] := by
  have B_36 : ∀  (fu : Nat) (x1 : Int32) (x2 : Int32) (x3 : Int32) (st : Nat → Int32) (wt : Int32) (sm : Int64) (ld : Int32) (ln : Int32), f_X6_twice_36 fu x1 x2 x3 st wt sm ld ln = some (r0, st0, wt0, sm0, ld0, ln0) → St l G A Γ 0 0 (wM G h a1 a2 a3 X st wt sm ld ln) 36 [(0, .ref h), (1, .int x1), (2, .int x2), (3, .int x3)] [] := by
    intro fu
    induction fu with
    | zero => intro x1 x2 x3 st wt sm ld ln hf ; rw [f_X6_twice_36] at hf; cases hf
    | succ fu ih =>
      intro x1 x2 x3 st wt sm ld ln hf 
      rw [f_X6_twice_36] at hf
      refine s_iload_n C 3 dX6_twice_36 rfl ?_
      refine s_iload_n C 1 dX6_twice_37 rfl ?_
      refine s_iload_n C 2 dX6_twice_38 rfl ?_
      obtain ⟨r23, er23, hf⟩ := bx_inv hf
      refine s_cS_I (As := [.int x1, .int x2]) (rest := [.int x3]) C (c_X6_frameAt l G A _ x1 x2 _ er23) g_RX6_81 hd_X6_frameAt rfl ⟨Nat.le_of_ble_eq_true rfl, Nat.le_of_ble_eq_true rfl⟩ rfl (Nat.le_of_ble_eq_true rfl) ⟨Nat.le_of_ble_eq_true rfl, Nat.le_of_ble_eq_true rfl⟩ dX6_twice_39 ?_
      refine s_icmp_lt C 66 dX6_twice_42 (by decide) (fun c24 => ?_) (fun c24 => ?_)
      · rw [if_pos c24] at hf
        refine s_aload_n C 0 dX6_twice_66 rfl ?_
        refine gf_508 C 0 rfl rfl dX6_twice_67 ?_
        refine s_iload_n C 1 dX6_twice_70 rfl ?_
        obtain ⟨r25, er25, hf⟩ := bx_inv hf
        refine s_cS_I (As := [.int x1]) (rest := [.ref a1]) C (c_X6_wireAt l G A _ x1 _ er25) g_RX6_24 hd_X6_wireAt rfl ⟨Nat.le_of_ble_eq_true rfl, Nat.le_of_ble_eq_true rfl⟩ rfl (Nat.le_of_ble_eq_true rfl) ⟨Nat.le_of_ble_eq_true rfl, Nat.le_of_ble_eq_true rfl⟩ dX6_twice_71 ?_
        refine s_dup2 C dX6_twice_74 rfl rfl ?_
        obtain ⟨v26, hiv26, ev26, hf⟩ := rd_inv hf
        refine s_iald C 1 rfl hiv26 dX6_twice_75 ?_
        refine s_nmi ev26 ?_
        refine s_iconst (v := 1) C dX6_twice_76 (by decide) ?_
        refine s_iadd C dX6_twice_77 ?_
        obtain ⟨y27, ey27, hf⟩ := bd_inv hf
        refine s_nmi ey27 ?_
        obtain ⟨st28, hist28, est28, hf⟩ := wr_inv hf
        refine s_iast C 1 rfl hist28 (wM G h a1 a2 a3 X st28 wt sm ld ln) (by rw [est28]; rfl) dX6_twice_78 ?_
        refine s_aload_n C 0 dX6_twice_79 rfl ?_
        refine s_iload_n C 1 dX6_twice_80 rfl ?_
        obtain ⟨r29, st30, wt31, sm32, ld33, ln34, er29, hf⟩ := bM_inv hf
        refine s_cV_I (As := [.int x1]) (rest := []) (ci := 6) (q := 0) C (c_X6_many l G A h a1 a2 a3 X x1 st28 wt sm ld ln _ _ _ _ _ _ er29) g_RX6_78 hd_X6_many rfl ⟨Nat.le_of_ble_eq_true rfl, Nat.le_of_ble_eq_true rfl⟩ rfl rfl rfl (Nat.le_of_ble_eq_true rfl) ⟨Nat.le_of_ble_eq_true rfl, Nat.le_of_ble_eq_true rfl⟩ dX6_twice_81 ?_
        exact rM_I hf (vp_nar_int _) hret dX6_twice_84
      · rw [if_neg c24] at hf
        refine s_aload_n C 0 dX6_twice_45 rfl ?_
        refine gf_508 C 0 rfl rfl dX6_twice_46 ?_
        refine s_iload_n C 3 dX6_twice_49 rfl ?_
        refine s_bipush (v := 36) C dX6_twice_50 (by decide) ?_
        refine s_iadd C dX6_twice_52 ?_
        refine s_aload_n C 0 dX6_twice_53 rfl ?_
        refine gf_508 C 0 rfl rfl dX6_twice_54 ?_
        refine s_iload_n C 3 dX6_twice_57 rfl ?_
        obtain ⟨v35, hiv35, ev35, hf⟩ := rd_inv hf
        refine s_iald C 1 rfl hiv35 dX6_twice_58 ?_
        refine s_nmi ev35 ?_
        obtain ⟨st36, hist36, est36, hf⟩ := wr_inv hf
        refine s_iast C 1 rfl hist36 (wM G h a1 a2 a3 X st36 wt sm ld ln) (by rw [est36]; rfl) dX6_twice_59 ?_
        obtain ⟨y37, ey37, hf⟩ := bd_inv hf
        refine s_iinc (v := y37) C 3 [(3, .int y37), (0, .ref h), (1, .int x1), (2, .int x2)] dX6_twice_60 rfl (by rw [ey37]; rfl) (by decide) rfl ?_
        refine s_goto C 36 dX6_twice_63 (by decide) ?_
        refine s_lv [1, 2, 3, 0] rfl ?_
        exact ih _ _ _ _ _ _ _ _ hf
  unfold f_X6_twice at hf
  refine s_aload_n C 0 dX6_twice_0 rfl ?_
  refine s_iload_n C 1 dX6_twice_1 rfl ?_
  refine s_iload_n C 2 dX6_twice_2 rfl ?_
  obtain ⟨r1, st2, wt3, sm4, ld5, ln6, er1, hf⟩ := bM_inv hf
  refine s_cV_I (As := [.int x1, .int x2]) (rest := []) (ci := 6) (q := 0) C (c_X6_isFrame l G A h a1 a2 a3 X x1 x2 st wt sm ld ln _ _ _ _ _ _ er1) g_RX6_164 hd_X6_isFrame rfl ⟨Nat.le_of_ble_eq_true rfl, Nat.le_of_ble_eq_true rfl⟩ rfl rfl rfl (Nat.le_of_ble_eq_true rfl) ⟨Nat.le_of_ble_eq_true rfl, Nat.le_of_ble_eq_true rfl⟩ dX6_twice_3 ?_
  refine s_if_ne C 11 dX6_twice_6 (by decide) (fun c7 => ?_) (fun c7 => ?_)
  · rw [if_neg c7] at hf
    refine s_aload_n C 0 dX6_twice_11 rfl ?_
    refine s_iload_n C 1 dX6_twice_12 rfl ?_
    obtain ⟨r8, st9, wt10, sm11, ld12, ln13, er8, hf⟩ := bM_inv hf
    refine s_cV_I (As := [.int x1]) (rest := []) (ci := 6) (q := 0) C (c_X6_many l G A h a1 a2 a3 X x1 st2 wt3 sm4 ld5 ln6 _ _ _ _ _ _ er8) g_RX6_78 hd_X6_many rfl ⟨Nat.le_of_ble_eq_true rfl, Nat.le_of_ble_eq_true rfl⟩ rfl rfl rfl (Nat.le_of_ble_eq_true rfl) ⟨Nat.le_of_ble_eq_true rfl, Nat.le_of_ble_eq_true rfl⟩ dX6_twice_13 ?_
    refine s_bipush (v := 12) C dX6_twice_16 (by decide) ?_
    refine s_icmp_ne C 24 dX6_twice_18 (by decide) (fun c14 => ?_) (fun c14 => ?_)
    · rw [if_neg c14] at hf
      refine s_iload_n C 1 dX6_twice_24 rfl ?_
      refine s_aload_n C 0 dX6_twice_25 rfl ?_
      refine s_iload_n C 1 dX6_twice_26 rfl ?_
      obtain ⟨r15, st16, wt17, sm18, ld19, ln20, er15, hf⟩ := bM_inv hf
      refine s_cV_I (As := [.int x1]) (rest := [.int x1]) (ci := 6) (q := 0) C (c_X6_many l G A h a1 a2 a3 X x1 st9 wt10 sm11 ld12 ln13 _ _ _ _ _ _ er15) g_RX6_78 hd_X6_many rfl ⟨Nat.le_of_ble_eq_true rfl, Nat.le_of_ble_eq_true rfl⟩ rfl rfl rfl (Nat.le_of_ble_eq_true rfl) ⟨Nat.le_of_ble_eq_true rfl, Nat.le_of_ble_eq_true rfl⟩ dX6_twice_27 ?_
      obtain ⟨r21, er21, hf⟩ := bx_inv hf
      refine s_cS_I (As := [.int x1, .int r15]) (rest := []) C (c_X6_frameAt l G A _ x1 r15 _ er21) g_RX6_81 hd_X6_frameAt rfl ⟨Nat.le_of_ble_eq_true rfl, Nat.le_of_ble_eq_true rfl⟩ rfl (Nat.le_of_ble_eq_true rfl) ⟨Nat.le_of_ble_eq_true rfl, Nat.le_of_ble_eq_true rfl⟩ dX6_twice_30 ?_
      refine s_iconst (v := 1) C dX6_twice_33 (by decide) ?_
      refine s_isub C dX6_twice_34 ?_
      obtain ⟨y22, ey22, hf⟩ := bd_inv hf
      refine s_nmi ey22 ?_
      refine s_istore_n C [(3, .int y22), (0, .ref h), (1, .int x1), (2, .int x2)] dX6_twice_35 (by decide) rfl ?_
      refine s_lv [1, 2, 3, 0] rfl ?_
      exact B_36 _ _ _ _ _ _ _ _ _ hf
    · rw [if_pos c14] at hf
      refine s_bipush (v := (-3)) C dX6_twice_21 (by decide) ?_
      exact rM_I hf (vp_nar_int _) hret dX6_twice_23
  · rw [if_pos c7] at hf
    refine s_iconst (v := (-1)) C dX6_twice_9 (by decide) ?_
    exact rM_I hf (vp_nar_int _) hret dX6_twice_10
theorem c_X6_twice (l : Launch) (G : GG) (A : Nat → Prop) (h : Nat) (a1 : Nat) (a2 : Nat) (a3 : Nat) (X : va_W) (x1 : Int32) (x2 : Int32) (st : Nat → Int32) (wt : Int32) (sm : Int64) (ld : Int32) (ln : Int32) (r0 : Int32) (st0 : Nat → Int32) (wt0 : Int32) (sm0 : Int64) (ld0 : Int32) (ln0 : Int32) (hf : f_X6_twice x1 x2 st wt sm ld ln = some (r0, st0, wt0, sm0, ld0, ln0)) : MI l yX6_twice cX6_twice 4 .int ({ frames := 3, cells := 0, slots := 0, locals := 63 } : Room) G A (wM G h a1 a2 a3 X st wt sm ld ln) [.ref h, .int x1, .int x2] r0 (wM G h a1 a2 a3 X st0 wt0 sm0 ld0 ln0) :=
  e_I (by decide) (Nat.le_of_ble_eq_true rfl) (fun Γ C hret => k_X6_twice C _ _ _ _ _ _ _ _ _ _ _ _ _ _ _ _ _ _ hf hret)
def f_X6_wire (x1 : Int32) (x2 : Int32) (x3 : Int32) (st : Nat → Int32) (wt : Int32) (sm : Int64) (ld : Int32) (ln : Int32) : Option (Int32 × (Nat → Int32) × Int32 × Int64 × Int32 × Int32) :=
  bx (f_X6_isEnd x1) fun r1 =>
  if r1 = 0 then (some ((-1), st, wt, sm, ld, ln))
  else (if x2 = (-1) then (bM (f_X6_many x1 st wt sm ld ln) fun r29 st30 wt31 sm32 ld33 ln34 =>
  some (r29, st30, wt31, sm32, ld33, ln34))
  else (bM (f_X6_isFrame x1 x2 st wt sm ld ln) fun r4 st5 wt6 sm7 ld8 ln9 =>
  if r4 = 0 then (some ((-1), st5, wt6, sm7, ld8, ln9))
  else (bx (f_X6_in ((x3 : Int32).toInt64) 0 35) fun r11 =>
  if r11 = 0 then (some ((-1), st5, wt6, sm7, ld8, ln9))
  else (bx (f_X6_frameAt x1 x2) fun r13 =>
  if (x3 : Int32) = 0 then (rd st5 8000 r13 fun v15 =>
  some (v15, st5, wt6, sm7, ld8, ln9))
  else if (x3 : Int32) = 1 then (rd st5 8000 (r13 + 1) fun v17 =>
  rd st5 8000 3 fun v18 =>
  some ((v17 - v18), st5, wt6, sm7, ld8, ln9))
  else if (x3 : Int32) = 2 then (bM (f_X6_read r13 st5 wt6 sm7 ld8 ln9) fun r20 st21 wt22 sm23 ld24 ln25 =>
  some (r20, st21, wt22, sm23, ld24, ln25))
  else (rd st5 8000 r13 fun v26 =>
  if v26 ≤ (x3 - 3) then (some ((-4), st5, wt6, sm7, ld8, ln9))
  else (rd st5 8000 (((r13 + 2) + x3) - 3) fun v28 =>
  some (v28, st5, wt6, sm7, ld8, ln9)))))))
set_option maxHeartbeats 4000000 in
set_option maxRecDepth 100000 in
theorem k_X6_wire {l : Launch} {G : GG} {A : Nat → Prop} {Γ : Cx} (C : CX G A Γ cX6_wire RX6 ({ frames := 3, cells := 0, slots := 0, locals := 63 } : Room) 5) (h : Nat) (a1 : Nat) (a2 : Nat) (a3 : Nat) (X : va_W) (x1 : Int32) (x2 : Int32) (x3 : Int32) (st : Nat → Int32) (wt : Int32) (sm : Int64) (ld : Int32) (ln : Int32) (r0 : Int32) (st0 : Nat → Int32) (wt0 : Int32) (sm0 : Int64) (ld0 : Int32) (ln0 : Int32) (hf : f_X6_wire x1 x2 x3 st wt sm ld ln = some (r0, st0, wt0, sm0, ld0, ln0)) (hret : ∀ (pc : Nat) (lv : List (Nat × Value)), decode cX6_wire pc = .ok (.ireturn, 1) → narrow .int (.int r0) = .int r0 → St l G A Γ 0 0 (wM G h a1 a2 a3 X st0 wt0 sm0 ld0 ln0) pc lv [.int r0]) : St l G A Γ 0 0 (wM G h a1 a2 a3 X st wt sm ld ln) 0 [(0, .ref h), (1, .int x1), (2, .int x2), (3, .int x3)] [] := by
  unfold f_X6_wire at hf
  refine s_iload_n C 1 dX6_wire_0 rfl ?_
  obtain ⟨r1, er1, hf⟩ := bx_inv hf
  refine s_cS_I (As := [.int x1]) (rest := []) C (c_X6_isEnd l G A _ x1 _ er1) g_RX6_39 hd_X6_isEnd rfl ⟨Nat.le_of_ble_eq_true rfl, Nat.le_of_ble_eq_true rfl⟩ rfl (Nat.le_of_ble_eq_true rfl) ⟨Nat.le_of_ble_eq_true rfl, Nat.le_of_ble_eq_true rfl⟩ dX6_wire_1 ?_
  refine s_if_ne C 9 dX6_wire_4 (by decide) (fun c2 => ?_) (fun c2 => ?_)
  · rw [if_neg c2] at hf
    refine s_iload_n C 2 dX6_wire_9 rfl ?_
    refine s_iconst (v := (-1)) C dX6_wire_10 (by decide) ?_
    refine s_icmp_ne C 20 dX6_wire_11 (by decide) (fun c3 => ?_) (fun c3 => ?_)
    · rw [if_neg c3] at hf
      refine s_aload_n C 0 dX6_wire_20 rfl ?_
      refine s_iload_n C 1 dX6_wire_21 rfl ?_
      refine s_iload_n C 2 dX6_wire_22 rfl ?_
      obtain ⟨r4, st5, wt6, sm7, ld8, ln9, er4, hf⟩ := bM_inv hf
      refine s_cV_I (As := [.int x1, .int x2]) (rest := []) (ci := 6) (q := 0) C (c_X6_isFrame l G A h a1 a2 a3 X x1 x2 st wt sm ld ln _ _ _ _ _ _ er4) g_RX6_164 hd_X6_isFrame rfl ⟨Nat.le_of_ble_eq_true rfl, Nat.le_of_ble_eq_true rfl⟩ rfl rfl rfl (Nat.le_of_ble_eq_true rfl) ⟨Nat.le_of_ble_eq_true rfl, Nat.le_of_ble_eq_true rfl⟩ dX6_wire_23 ?_
      refine s_if_eq C 41 dX6_wire_26 (by decide) (fun c10 => ?_) (fun c10 => ?_)
      · rw [if_pos c10] at hf
        refine s_iconst (v := (-1)) C dX6_wire_41 (by decide) ?_
        exact rM_I hf (vp_nar_int _) hret dX6_wire_42
      · rw [if_neg c10] at hf
        refine s_iload_n C 3 dX6_wire_29 rfl ?_
        refine s_i2l C dX6_wire_30 ?_
        refine s_lconst (v := 0) C dX6_wire_31 (by decide) ?_
        refine s_ldc2 C tw_701 dX6_wire_32 ?_
        obtain ⟨r11, er11, hf⟩ := bx_inv hf
        refine s_cS_I (As := [.long ((x3 : Int32).toInt64), .long 0, .long 35]) (rest := []) C (c_X6_in l G A _ ((x3 : Int32).toInt64) 0 35 _ er11) g_RX6_45 hd_X6_in rfl ⟨Nat.le_of_ble_eq_true rfl, Nat.le_of_ble_eq_true rfl⟩ rfl (Nat.le_of_ble_eq_true rfl) ⟨Nat.le_of_ble_eq_true rfl, Nat.le_of_ble_eq_true rfl⟩ dX6_wire_35 ?_
        refine s_if_ne C 43 dX6_wire_38 (by decide) (fun c12 => ?_) (fun c12 => ?_)
        · rw [if_neg c12] at hf
          refine s_iload_n C 1 dX6_wire_43 rfl ?_
          refine s_iload_n C 2 dX6_wire_44 rfl ?_
          obtain ⟨r13, er13, hf⟩ := bx_inv hf
          refine s_cS_I (As := [.int x1, .int x2]) (rest := []) C (c_X6_frameAt l G A _ x1 x2 _ er13) g_RX6_81 hd_X6_frameAt rfl ⟨Nat.le_of_ble_eq_true rfl, Nat.le_of_ble_eq_true rfl⟩ rfl (Nat.le_of_ble_eq_true rfl) ⟨Nat.le_of_ble_eq_true rfl, Nat.le_of_ble_eq_true rfl⟩ dX6_wire_45 ?_
          refine s_istore C [(4, .int r13), (0, .ref h), (1, .int x1), (2, .int x2), (3, .int x3)] dX6_wire_48 (by decide) rfl ?_
          refine s_iload_n C 4 dX6_wire_50 rfl ?_
          by_cases c14 : (x3 : Int32) = 0
          · rw [if_pos c14] at hf
            refine s_tableIn C 76 dX6_wire_51 (by rw [c14]; decide) (by rw [c14]; decide) (by rw [c14]; rfl) (by decide) ?_
            refine s_aload_n C 1 dX6_wire_76 rfl ?_
            refine gf_508 C 0 rfl rfl dX6_wire_77 ?_
            refine s_iload C 0 dX6_wire_80 rfl ?_
            obtain ⟨v15, hiv15, ev15, hf⟩ := rd_inv hf
            refine s_iald C 1 rfl hiv15 dX6_wire_82 ?_
            refine s_nmi ev15 ?_
            exact rM_I hf (vp_nar_int _) hret dX6_wire_83
          rw [if_neg c14] at hf
          by_cases c16 : (x3 : Int32) = 1
          · rw [if_pos c16] at hf
            refine s_tableIn C 84 dX6_wire_51 (by rw [c16]; decide) (by rw [c16]; decide) (by rw [c16]; rfl) (by decide) ?_
            refine s_aload_n C 1 dX6_wire_84 rfl ?_
            refine gf_508 C 0 rfl rfl dX6_wire_85 ?_
            refine s_iload C 0 dX6_wire_88 rfl ?_
            refine s_iconst (v := 1) C dX6_wire_90 (by decide) ?_
            refine s_iadd C dX6_wire_91 ?_
            obtain ⟨v17, hiv17, ev17, hf⟩ := rd_inv hf
            refine s_iald C 1 rfl hiv17 dX6_wire_92 ?_
            refine s_nmi ev17 ?_
            refine s_aload_n C 1 dX6_wire_93 rfl ?_
            refine gf_508 C 0 rfl rfl dX6_wire_94 ?_
            refine s_iconst (v := 3) C dX6_wire_97 (by decide) ?_
            obtain ⟨v18, hiv18, ev18, hf⟩ := rd_inv hf
            refine s_iald C 1 rfl hiv18 dX6_wire_98 ?_
            refine s_nmi ev18 ?_
            refine s_isub C dX6_wire_99 ?_
            exact rM_I hf (vp_nar_int _) hret dX6_wire_100
          rw [if_neg c16] at hf
          by_cases c19 : (x3 : Int32) = 2
          · rw [if_pos c19] at hf
            refine s_tableIn C 101 dX6_wire_51 (by rw [c19]; decide) (by rw [c19]; decide) (by rw [c19]; rfl) (by decide) ?_
            refine s_aload_n C 1 dX6_wire_101 rfl ?_
            refine s_iload C 0 dX6_wire_102 rfl ?_
            obtain ⟨r20, st21, wt22, sm23, ld24, ln25, er20, hf⟩ := bM_inv hf
            refine s_cV_I (As := [.int r13]) (rest := []) (ci := 6) (q := 0) C (c_X6_read l G A h a1 a2 a3 X r13 st5 wt6 sm7 ld8 ln9 _ _ _ _ _ _ er20) g_RX6_119 hd_X6_read rfl ⟨Nat.le_of_ble_eq_true rfl, Nat.le_of_ble_eq_true rfl⟩ rfl rfl rfl (Nat.le_of_ble_eq_true rfl) ⟨Nat.le_of_ble_eq_true rfl, Nat.le_of_ble_eq_true rfl⟩ dX6_wire_104 ?_
            exact rM_I hf (vp_nar_int _) hret dX6_wire_107
          rw [if_neg c19] at hf
          have hout : (x3 : Int32).toInt < 0 ∨ 2 < (x3 : Int32).toInt := by
            have q0 := i32_ne c14 (0) rfl
            have q1 := i32_ne c16 (1) rfl
            have q2 := i32_ne c19 (2) rfl
            omega
          refine s_tableOut C 108 dX6_wire_51 hout (by decide) ?_
          refine s_iload_n C 4 dX6_wire_108 rfl ?_
          refine s_iconst (v := 3) C dX6_wire_109 (by decide) ?_
          refine s_isub C dX6_wire_110 ?_
          refine s_aload_n C 1 dX6_wire_111 rfl ?_
          refine gf_508 C 0 rfl rfl dX6_wire_112 ?_
          refine s_iload C 0 dX6_wire_115 rfl ?_
          obtain ⟨v26, hiv26, ev26, hf⟩ := rd_inv hf
          refine s_iald C 1 rfl hiv26 dX6_wire_117 ?_
          refine s_nmi ev26 ?_
          refine s_icmp_ge C 137 dX6_wire_118 (by decide) (fun c27 => ?_) (fun c27 => ?_)
          · rw [if_pos c27] at hf
            refine s_bipush (v := (-4)) C dX6_wire_137 (by decide) ?_
            exact rM_I hf (vp_nar_int _) hret dX6_wire_139
          · rw [if_neg c27] at hf
            refine s_aload_n C 1 dX6_wire_121 rfl ?_
            refine gf_508 C 0 rfl rfl dX6_wire_122 ?_
            refine s_iload C 0 dX6_wire_125 rfl ?_
            refine s_iconst (v := 2) C dX6_wire_127 (by decide) ?_
            refine s_iadd C dX6_wire_128 ?_
            refine s_iload_n C 4 dX6_wire_129 rfl ?_
            refine s_iadd C dX6_wire_130 ?_
            refine s_iconst (v := 3) C dX6_wire_131 (by decide) ?_
            refine s_isub C dX6_wire_132 ?_
            obtain ⟨v28, hiv28, ev28, hf⟩ := rd_inv hf
            refine s_iald C 1 rfl hiv28 dX6_wire_133 ?_
            refine s_nmi ev28 ?_
            refine s_goto C 139 dX6_wire_134 (by decide) ?_
            exact rM_I hf (vp_nar_int _) hret dX6_wire_139
        · rw [if_pos c12] at hf
          refine s_iconst (v := (-1)) C dX6_wire_41 (by decide) ?_
          exact rM_I hf (vp_nar_int _) hret dX6_wire_42
    · rw [if_pos c3] at hf
      refine s_aload_n C 0 dX6_wire_14 rfl ?_
      refine s_iload_n C 1 dX6_wire_15 rfl ?_
      obtain ⟨r29, st30, wt31, sm32, ld33, ln34, er29, hf⟩ := bM_inv hf
      refine s_cV_I (As := [.int x1]) (rest := []) (ci := 6) (q := 0) C (c_X6_many l G A h a1 a2 a3 X x1 st wt sm ld ln _ _ _ _ _ _ er29) g_RX6_78 hd_X6_many rfl ⟨Nat.le_of_ble_eq_true rfl, Nat.le_of_ble_eq_true rfl⟩ rfl rfl rfl (Nat.le_of_ble_eq_true rfl) ⟨Nat.le_of_ble_eq_true rfl, Nat.le_of_ble_eq_true rfl⟩ dX6_wire_16 ?_
      exact rM_I hf (vp_nar_int _) hret dX6_wire_19
  · rw [if_pos c2] at hf
    refine s_iconst (v := (-1)) C dX6_wire_7 (by decide) ?_
    exact rM_I hf (vp_nar_int _) hret dX6_wire_8
theorem c_X6_wire (l : Launch) (G : GG) (A : Nat → Prop) (h : Nat) (a1 : Nat) (a2 : Nat) (a3 : Nat) (X : va_W) (x1 : Int32) (x2 : Int32) (x3 : Int32) (st : Nat → Int32) (wt : Int32) (sm : Int64) (ld : Int32) (ln : Int32) (r0 : Int32) (st0 : Nat → Int32) (wt0 : Int32) (sm0 : Int64) (ld0 : Int32) (ln0 : Int32) (hf : f_X6_wire x1 x2 x3 st wt sm ld ln = some (r0, st0, wt0, sm0, ld0, ln0)) : MI l yX6_wire cX6_wire 5 .int ({ frames := 3, cells := 0, slots := 0, locals := 63 } : Room) G A (wM G h a1 a2 a3 X st wt sm ld ln) [.ref h, .int x1, .int x2, .int x3] r0 (wM G h a1 a2 a3 X st0 wt0 sm0 ld0 ln0) :=
  e_I (by decide) (Nat.le_of_ble_eq_true rfl) (fun Γ C hret => k_X6_wire C _ _ _ _ _ _ _ _ _ _ _ _ _ _ _ _ _ _ _ hf hret)
def f_X6_end (x1 : Int32) (x2 : Int32) (st : Nat → Int32) (wt : Int32) (sm : Int64) (ld : Int32) (ln : Int32) : Option (Int32 × (Nat → Int32) × Int32 × Int64 × Int32 × Int32) :=
  bx (f_X6_isEnd x1) fun r1 =>
  if r1 = 0 then (some ((-1), st, wt, sm, ld, ln))
  else (bx (f_X6_endAt x1) fun r3 =>
  if (x2 : Int32) = 0 then (bM (f_X6_waiting x1 st wt sm ld ln) fun r5 st6 wt7 sm8 ld9 ln10 =>
  some (r5, st6, wt7, sm8, ld9, ln10))
  else if (x2 : Int32) = 1 then (rd st 8000 (r3 + 2) fun v12 =>
  some (v12, st, wt, sm, ld, ln))
  else if (x2 : Int32) = 2 then (rd st 8000 (r3 + 1) fun v14 =>
  bx (f_X6_by64 v14) fun r15 =>
  some (r15, st, wt, sm, ld, ln))
  else if (x2 : Int32) = 3 then (rd st 8000 (r3 + 3) fun v17 =>
  some (v17, st, wt, sm, ld, ln))
  else if (x2 : Int32) = 4 then (rd st 8000 (r3 + 4) fun v19 =>
  some (v19, st, wt, sm, ld, ln))
  else if (x2 : Int32) = 5 then (rd st 8000 (r3 + 5) fun v21 =>
  some (v21, st, wt, sm, ld, ln))
  else if (x2 : Int32) = 6 then (rd st 8000 (r3 + 6) fun v23 =>
  some (v23, st, wt, sm, ld, ln))
  else if (x2 : Int32) = 7 then (rd st 8000 (r3 + 7) fun v25 =>
  some (v25, st, wt, sm, ld, ln))
  else if (x2 : Int32) = 8 then (rd st 8000 (r3 + 8) fun v27 =>
  some (v27, st, wt, sm, ld, ln))
  else if (x2 : Int32) = 9 then (rd st 8000 (r3 + 9) fun v29 =>
  some (v29, st, wt, sm, ld, ln))
  else if (x2 : Int32) = 10 then (rd st 8000 (r3 + 10) fun v31 =>
  some (v31, st, wt, sm, ld, ln))
  else if (x2 : Int32) = 11 then (rd st 8000 (r3 + 0) fun v33 =>
  some (v33, st, wt, sm, ld, ln))
  else if (x2 : Int32) = 12 then (rd st 8000 (r3 + 11) fun v35 =>
  some (v35, st, wt, sm, ld, ln))
  else if (x2 : Int32) = 13 then (rd st 8000 (r3 + 13) fun v37 =>
  some (v37, st, wt, sm, ld, ln))
  else (some ((-1), st, wt, sm, ld, ln)))
set_option maxHeartbeats 4000000 in
set_option maxRecDepth 100000 in
theorem k_X6_end {l : Launch} {G : GG} {A : Nat → Prop} {Γ : Cx} (C : CX G A Γ cX6_end RX6 ({ frames := 2, cells := 0, slots := 0, locals := 41 } : Room) 4) (h : Nat) (a1 : Nat) (a2 : Nat) (a3 : Nat) (X : va_W) (x1 : Int32) (x2 : Int32) (st : Nat → Int32) (wt : Int32) (sm : Int64) (ld : Int32) (ln : Int32) (r0 : Int32) (st0 : Nat → Int32) (wt0 : Int32) (sm0 : Int64) (ld0 : Int32) (ln0 : Int32) (hf : f_X6_end x1 x2 st wt sm ld ln = some (r0, st0, wt0, sm0, ld0, ln0)) (hret : ∀ (pc : Nat) (lv : List (Nat × Value)), decode cX6_end pc = .ok (.ireturn, 1) → narrow .int (.int r0) = .int r0 → St l G A Γ 0 0 (wM G h a1 a2 a3 X st0 wt0 sm0 ld0 ln0) pc lv [.int r0]) : St l G A Γ 0 0 (wM G h a1 a2 a3 X st wt sm ld ln) 0 [(0, .ref h), (1, .int x1), (2, .int x2)] [] := by
  unfold f_X6_end at hf
  refine s_iload_n C 1 dX6_end_0 rfl ?_
  obtain ⟨r1, er1, hf⟩ := bx_inv hf
  refine s_cS_I (As := [.int x1]) (rest := []) C (c_X6_isEnd l G A _ x1 _ er1) g_RX6_39 hd_X6_isEnd rfl ⟨Nat.le_of_ble_eq_true rfl, Nat.le_of_ble_eq_true rfl⟩ rfl (Nat.le_of_ble_eq_true rfl) ⟨Nat.le_of_ble_eq_true rfl, Nat.le_of_ble_eq_true rfl⟩ dX6_end_1 ?_
  refine s_if_ne C 9 dX6_end_4 (by decide) (fun c2 => ?_) (fun c2 => ?_)
  · rw [if_neg c2] at hf
    refine s_iload_n C 1 dX6_end_9 rfl ?_
    obtain ⟨r3, er3, hf⟩ := bx_inv hf
    refine s_cS_I (As := [.int x1]) (rest := []) C (c_X6_endAt l G A _ x1 _ er3) g_RX6_20 hd_X6_endAt rfl ⟨Nat.le_of_ble_eq_true rfl, Nat.le_of_ble_eq_true rfl⟩ rfl (Nat.le_of_ble_eq_true rfl) ⟨Nat.le_of_ble_eq_true rfl, Nat.le_of_ble_eq_true rfl⟩ dX6_end_10 ?_
    refine s_istore_n C [(3, .int r3), (0, .ref h), (1, .int x1), (2, .int x2)] dX6_end_13 (by decide) rfl ?_
    refine s_iload_n C 3 dX6_end_14 rfl ?_
    by_cases c4 : (x2 : Int32) = 0
    · rw [if_pos c4] at hf
      refine s_tableIn C 84 dX6_end_15 (by rw [c4]; decide) (by rw [c4]; decide) (by rw [c4]; rfl) (by decide) ?_
      refine s_aload_n C 1 dX6_end_84 rfl ?_
      refine s_iload_n C 2 dX6_end_85 rfl ?_
      obtain ⟨r5, st6, wt7, sm8, ld9, ln10, er5, hf⟩ := bM_inv hf
      refine s_cV_I (As := [.int x1]) (rest := []) (ci := 6) (q := 0) C (c_X6_waiting l G A h a1 a2 a3 X x1 st wt sm ld ln _ _ _ _ _ _ er5) g_RX6_51 hd_X6_waiting rfl ⟨Nat.le_of_ble_eq_true rfl, Nat.le_of_ble_eq_true rfl⟩ rfl rfl rfl (Nat.le_of_ble_eq_true rfl) ⟨Nat.le_of_ble_eq_true rfl, Nat.le_of_ble_eq_true rfl⟩ dX6_end_86 ?_
      exact rM_I hf (vp_nar_int _) hret dX6_end_89
    rw [if_neg c4] at hf
    by_cases c11 : (x2 : Int32) = 1
    · rw [if_pos c11] at hf
      refine s_tableIn C 90 dX6_end_15 (by rw [c11]; decide) (by rw [c11]; decide) (by rw [c11]; rfl) (by decide) ?_
      refine s_aload_n C 1 dX6_end_90 rfl ?_
      refine gf_508 C 0 rfl rfl dX6_end_91 ?_
      refine s_iload_n C 0 dX6_end_94 rfl ?_
      refine s_iconst (v := 2) C dX6_end_95 (by decide) ?_
      refine s_iadd C dX6_end_96 ?_
      obtain ⟨v12, hiv12, ev12, hf⟩ := rd_inv hf
      refine s_iald C 1 rfl hiv12 dX6_end_97 ?_
      refine s_nmi ev12 ?_
      exact rM_I hf (vp_nar_int _) hret dX6_end_98
    rw [if_neg c11] at hf
    by_cases c13 : (x2 : Int32) = 2
    · rw [if_pos c13] at hf
      refine s_tableIn C 99 dX6_end_15 (by rw [c13]; decide) (by rw [c13]; decide) (by rw [c13]; rfl) (by decide) ?_
      refine s_aload_n C 1 dX6_end_99 rfl ?_
      refine gf_508 C 0 rfl rfl dX6_end_100 ?_
      refine s_iload_n C 0 dX6_end_103 rfl ?_
      refine s_iconst (v := 1) C dX6_end_104 (by decide) ?_
      refine s_iadd C dX6_end_105 ?_
      obtain ⟨v14, hiv14, ev14, hf⟩ := rd_inv hf
      refine s_iald C 1 rfl hiv14 dX6_end_106 ?_
      refine s_nmi ev14 ?_
      obtain ⟨r15, er15, hf⟩ := bx_inv hf
      refine s_cS_I (As := [.int v14]) (rest := []) C (c_X6_by64 l G A _ v14 _ er15) g_RX6_95 hd_X6_by64 rfl ⟨Nat.le_of_ble_eq_true rfl, Nat.le_of_ble_eq_true rfl⟩ rfl (Nat.le_of_ble_eq_true rfl) ⟨Nat.le_of_ble_eq_true rfl, Nat.le_of_ble_eq_true rfl⟩ dX6_end_107 ?_
      exact rM_I hf (vp_nar_int _) hret dX6_end_110
    rw [if_neg c13] at hf
    by_cases c16 : (x2 : Int32) = 3
    · rw [if_pos c16] at hf
      refine s_tableIn C 111 dX6_end_15 (by rw [c16]; decide) (by rw [c16]; decide) (by rw [c16]; rfl) (by decide) ?_
      refine s_aload_n C 1 dX6_end_111 rfl ?_
      refine gf_508 C 0 rfl rfl dX6_end_112 ?_
      refine s_iload_n C 0 dX6_end_115 rfl ?_
      refine s_iconst (v := 3) C dX6_end_116 (by decide) ?_
      refine s_iadd C dX6_end_117 ?_
      obtain ⟨v17, hiv17, ev17, hf⟩ := rd_inv hf
      refine s_iald C 1 rfl hiv17 dX6_end_118 ?_
      refine s_nmi ev17 ?_
      exact rM_I hf (vp_nar_int _) hret dX6_end_119
    rw [if_neg c16] at hf
    by_cases c18 : (x2 : Int32) = 4
    · rw [if_pos c18] at hf
      refine s_tableIn C 120 dX6_end_15 (by rw [c18]; decide) (by rw [c18]; decide) (by rw [c18]; rfl) (by decide) ?_
      refine s_aload_n C 1 dX6_end_120 rfl ?_
      refine gf_508 C 0 rfl rfl dX6_end_121 ?_
      refine s_iload_n C 0 dX6_end_124 rfl ?_
      refine s_iconst (v := 4) C dX6_end_125 (by decide) ?_
      refine s_iadd C dX6_end_126 ?_
      obtain ⟨v19, hiv19, ev19, hf⟩ := rd_inv hf
      refine s_iald C 1 rfl hiv19 dX6_end_127 ?_
      refine s_nmi ev19 ?_
      exact rM_I hf (vp_nar_int _) hret dX6_end_128
    rw [if_neg c18] at hf
    by_cases c20 : (x2 : Int32) = 5
    · rw [if_pos c20] at hf
      refine s_tableIn C 129 dX6_end_15 (by rw [c20]; decide) (by rw [c20]; decide) (by rw [c20]; rfl) (by decide) ?_
      refine s_aload_n C 1 dX6_end_129 rfl ?_
      refine gf_508 C 0 rfl rfl dX6_end_130 ?_
      refine s_iload_n C 0 dX6_end_133 rfl ?_
      refine s_iconst (v := 5) C dX6_end_134 (by decide) ?_
      refine s_iadd C dX6_end_135 ?_
      obtain ⟨v21, hiv21, ev21, hf⟩ := rd_inv hf
      refine s_iald C 1 rfl hiv21 dX6_end_136 ?_
      refine s_nmi ev21 ?_
      exact rM_I hf (vp_nar_int _) hret dX6_end_137
    rw [if_neg c20] at hf
    by_cases c22 : (x2 : Int32) = 6
    · rw [if_pos c22] at hf
      refine s_tableIn C 138 dX6_end_15 (by rw [c22]; decide) (by rw [c22]; decide) (by rw [c22]; rfl) (by decide) ?_
      refine s_aload_n C 1 dX6_end_138 rfl ?_
      refine gf_508 C 0 rfl rfl dX6_end_139 ?_
      refine s_iload_n C 0 dX6_end_142 rfl ?_
      refine s_bipush (v := 6) C dX6_end_143 (by decide) ?_
      refine s_iadd C dX6_end_145 ?_
      obtain ⟨v23, hiv23, ev23, hf⟩ := rd_inv hf
      refine s_iald C 1 rfl hiv23 dX6_end_146 ?_
      refine s_nmi ev23 ?_
      exact rM_I hf (vp_nar_int _) hret dX6_end_147
    rw [if_neg c22] at hf
    by_cases c24 : (x2 : Int32) = 7
    · rw [if_pos c24] at hf
      refine s_tableIn C 148 dX6_end_15 (by rw [c24]; decide) (by rw [c24]; decide) (by rw [c24]; rfl) (by decide) ?_
      refine s_aload_n C 1 dX6_end_148 rfl ?_
      refine gf_508 C 0 rfl rfl dX6_end_149 ?_
      refine s_iload_n C 0 dX6_end_152 rfl ?_
      refine s_bipush (v := 7) C dX6_end_153 (by decide) ?_
      refine s_iadd C dX6_end_155 ?_
      obtain ⟨v25, hiv25, ev25, hf⟩ := rd_inv hf
      refine s_iald C 1 rfl hiv25 dX6_end_156 ?_
      refine s_nmi ev25 ?_
      exact rM_I hf (vp_nar_int _) hret dX6_end_157
    rw [if_neg c24] at hf
    by_cases c26 : (x2 : Int32) = 8
    · rw [if_pos c26] at hf
      refine s_tableIn C 158 dX6_end_15 (by rw [c26]; decide) (by rw [c26]; decide) (by rw [c26]; rfl) (by decide) ?_
      refine s_aload_n C 1 dX6_end_158 rfl ?_
      refine gf_508 C 0 rfl rfl dX6_end_159 ?_
      refine s_iload_n C 0 dX6_end_162 rfl ?_
      refine s_bipush (v := 8) C dX6_end_163 (by decide) ?_
      refine s_iadd C dX6_end_165 ?_
      obtain ⟨v27, hiv27, ev27, hf⟩ := rd_inv hf
      refine s_iald C 1 rfl hiv27 dX6_end_166 ?_
      refine s_nmi ev27 ?_
      exact rM_I hf (vp_nar_int _) hret dX6_end_167
    rw [if_neg c26] at hf
    by_cases c28 : (x2 : Int32) = 9
    · rw [if_pos c28] at hf
      refine s_tableIn C 168 dX6_end_15 (by rw [c28]; decide) (by rw [c28]; decide) (by rw [c28]; rfl) (by decide) ?_
      refine s_aload_n C 1 dX6_end_168 rfl ?_
      refine gf_508 C 0 rfl rfl dX6_end_169 ?_
      refine s_iload_n C 0 dX6_end_172 rfl ?_
      refine s_bipush (v := 9) C dX6_end_173 (by decide) ?_
      refine s_iadd C dX6_end_175 ?_
      obtain ⟨v29, hiv29, ev29, hf⟩ := rd_inv hf
      refine s_iald C 1 rfl hiv29 dX6_end_176 ?_
      refine s_nmi ev29 ?_
      exact rM_I hf (vp_nar_int _) hret dX6_end_177
    rw [if_neg c28] at hf
    by_cases c30 : (x2 : Int32) = 10
    · rw [if_pos c30] at hf
      refine s_tableIn C 178 dX6_end_15 (by rw [c30]; decide) (by rw [c30]; decide) (by rw [c30]; rfl) (by decide) ?_
      refine s_aload_n C 1 dX6_end_178 rfl ?_
      refine gf_508 C 0 rfl rfl dX6_end_179 ?_
      refine s_iload_n C 0 dX6_end_182 rfl ?_
      refine s_bipush (v := 10) C dX6_end_183 (by decide) ?_
      refine s_iadd C dX6_end_185 ?_
      obtain ⟨v31, hiv31, ev31, hf⟩ := rd_inv hf
      refine s_iald C 1 rfl hiv31 dX6_end_186 ?_
      refine s_nmi ev31 ?_
      exact rM_I hf (vp_nar_int _) hret dX6_end_187
    rw [if_neg c30] at hf
    by_cases c32 : (x2 : Int32) = 11
    · rw [if_pos c32] at hf
      refine s_tableIn C 188 dX6_end_15 (by rw [c32]; decide) (by rw [c32]; decide) (by rw [c32]; rfl) (by decide) ?_
      refine s_aload_n C 1 dX6_end_188 rfl ?_
      refine gf_508 C 0 rfl rfl dX6_end_189 ?_
      refine s_iload_n C 0 dX6_end_192 rfl ?_
      refine s_iconst (v := 0) C dX6_end_193 (by decide) ?_
      refine s_iadd C dX6_end_194 ?_
      obtain ⟨v33, hiv33, ev33, hf⟩ := rd_inv hf
      refine s_iald C 1 rfl hiv33 dX6_end_195 ?_
      refine s_nmi ev33 ?_
      exact rM_I hf (vp_nar_int _) hret dX6_end_196
    rw [if_neg c32] at hf
    by_cases c34 : (x2 : Int32) = 12
    · rw [if_pos c34] at hf
      refine s_tableIn C 197 dX6_end_15 (by rw [c34]; decide) (by rw [c34]; decide) (by rw [c34]; rfl) (by decide) ?_
      refine s_aload_n C 1 dX6_end_197 rfl ?_
      refine gf_508 C 0 rfl rfl dX6_end_198 ?_
      refine s_iload_n C 0 dX6_end_201 rfl ?_
      refine s_bipush (v := 11) C dX6_end_202 (by decide) ?_
      refine s_iadd C dX6_end_204 ?_
      obtain ⟨v35, hiv35, ev35, hf⟩ := rd_inv hf
      refine s_iald C 1 rfl hiv35 dX6_end_205 ?_
      refine s_nmi ev35 ?_
      exact rM_I hf (vp_nar_int _) hret dX6_end_206
    rw [if_neg c34] at hf
    by_cases c36 : (x2 : Int32) = 13
    · rw [if_pos c36] at hf
      refine s_tableIn C 207 dX6_end_15 (by rw [c36]; decide) (by rw [c36]; decide) (by rw [c36]; rfl) (by decide) ?_
      refine s_aload_n C 1 dX6_end_207 rfl ?_
      refine gf_508 C 0 rfl rfl dX6_end_208 ?_
      refine s_iload_n C 0 dX6_end_211 rfl ?_
      refine s_bipush (v := 13) C dX6_end_212 (by decide) ?_
      refine s_iadd C dX6_end_214 ?_
      obtain ⟨v37, hiv37, ev37, hf⟩ := rd_inv hf
      refine s_iald C 1 rfl hiv37 dX6_end_215 ?_
      refine s_nmi ev37 ?_
      exact rM_I hf (vp_nar_int _) hret dX6_end_216
    rw [if_neg c36] at hf
    have hout : (x2 : Int32).toInt < 0 ∨ 13 < (x2 : Int32).toInt := by
      have q0 := i32_ne c4 (0) rfl
      have q1 := i32_ne c11 (1) rfl
      have q2 := i32_ne c13 (2) rfl
      have q3 := i32_ne c16 (3) rfl
      have q4 := i32_ne c18 (4) rfl
      have q5 := i32_ne c20 (5) rfl
      have q6 := i32_ne c22 (6) rfl
      have q7 := i32_ne c24 (7) rfl
      have q8 := i32_ne c26 (8) rfl
      have q9 := i32_ne c28 (9) rfl
      have q10 := i32_ne c30 (10) rfl
      have q11 := i32_ne c32 (11) rfl
      have q12 := i32_ne c34 (12) rfl
      have q13 := i32_ne c36 (13) rfl
      omega
    refine s_tableOut C 217 dX6_end_15 hout (by decide) ?_
    refine s_iconst (v := (-1)) C dX6_end_217 (by decide) ?_
    exact rM_I hf (vp_nar_int _) hret dX6_end_218
  · rw [if_pos c2] at hf
    refine s_iconst (v := (-1)) C dX6_end_7 (by decide) ?_
    exact rM_I hf (vp_nar_int _) hret dX6_end_8
theorem c_X6_end (l : Launch) (G : GG) (A : Nat → Prop) (h : Nat) (a1 : Nat) (a2 : Nat) (a3 : Nat) (X : va_W) (x1 : Int32) (x2 : Int32) (st : Nat → Int32) (wt : Int32) (sm : Int64) (ld : Int32) (ln : Int32) (r0 : Int32) (st0 : Nat → Int32) (wt0 : Int32) (sm0 : Int64) (ld0 : Int32) (ln0 : Int32) (hf : f_X6_end x1 x2 st wt sm ld ln = some (r0, st0, wt0, sm0, ld0, ln0)) : MI l yX6_end cX6_end 4 .int ({ frames := 2, cells := 0, slots := 0, locals := 41 } : Room) G A (wM G h a1 a2 a3 X st wt sm ld ln) [.ref h, .int x1, .int x2] r0 (wM G h a1 a2 a3 X st0 wt0 sm0 ld0 ln0) :=
  e_I (by decide) (Nat.le_of_ble_eq_true rfl) (fun Γ C hret => k_X6_end C _ _ _ _ _ _ _ _ _ _ _ _ _ _ _ _ _ _ hf hret)
def f_X6_upMany (x1 : Int32) (st : Nat → Int32) (wt : Int32) (sm : Int64) (ld : Int32) (ln : Int32) : Option (Int32 × (Nat → Int32) × Int32 × Int64 × Int32 × Int32) :=
  bx (f_X6_endAt x1) fun r1 =>
  rd st 8000 (r1 + 11) fun v2 =>
  if 60 ≤ v2 then (some (60, st, wt, sm, ld, ln))
  else (bx (f_X6_endAt x1) fun r4 =>
  rd st 8000 (r4 + 11) fun v5 =>
  some (v5, st, wt, sm, ld, ln))
set_option maxHeartbeats 4000000 in
set_option maxRecDepth 100000 in
theorem k_X6_upMany {l : Launch} {G : GG} {A : Nat → Prop} {Γ : Cx} (C : CX G A Γ cX6_upMany RX6 ({ frames := 1, cells := 0, slots := 0, locals := 20 } : Room) 2) (h : Nat) (a1 : Nat) (a2 : Nat) (a3 : Nat) (X : va_W) (x1 : Int32) (st : Nat → Int32) (wt : Int32) (sm : Int64) (ld : Int32) (ln : Int32) (r0 : Int32) (st0 : Nat → Int32) (wt0 : Int32) (sm0 : Int64) (ld0 : Int32) (ln0 : Int32) (hf : f_X6_upMany x1 st wt sm ld ln = some (r0, st0, wt0, sm0, ld0, ln0)) (hret : ∀ (pc : Nat) (lv : List (Nat × Value)), decode cX6_upMany pc = .ok (.ireturn, 1) → narrow .int (.int r0) = .int r0 → St l G A Γ 0 0 (wM G h a1 a2 a3 X st0 wt0 sm0 ld0 ln0) pc lv [.int r0]) : St l G A Γ 0 0 (wM G h a1 a2 a3 X st wt sm ld ln) 0 [(0, .ref h), (1, .int x1)] [] := by
  unfold f_X6_upMany at hf
  refine s_aload_n C 0 dX6_upMany_0 rfl ?_
  refine gf_508 C 0 rfl rfl dX6_upMany_1 ?_
  refine s_iload_n C 1 dX6_upMany_4 rfl ?_
  obtain ⟨r1, er1, hf⟩ := bx_inv hf
  refine s_cS_I (As := [.int x1]) (rest := [.ref a1]) C (c_X6_endAt l G A _ x1 _ er1) g_RX6_20 hd_X6_endAt rfl ⟨Nat.le_of_ble_eq_true rfl, Nat.le_of_ble_eq_true rfl⟩ rfl (Nat.le_of_ble_eq_true rfl) ⟨Nat.le_of_ble_eq_true rfl, Nat.le_of_ble_eq_true rfl⟩ dX6_upMany_5 ?_
  refine s_bipush (v := 11) C dX6_upMany_8 (by decide) ?_
  refine s_iadd C dX6_upMany_10 ?_
  obtain ⟨v2, hiv2, ev2, hf⟩ := rd_inv hf
  refine s_iald C 1 rfl hiv2 dX6_upMany_11 ?_
  refine s_nmi ev2 ?_
  refine s_bipush (v := 60) C dX6_upMany_12 (by decide) ?_
  refine s_icmp_ge C 32 dX6_upMany_14 (by decide) (fun c3 => ?_) (fun c3 => ?_)
  · rw [if_pos c3] at hf
    refine s_bipush (v := 60) C dX6_upMany_32 (by decide) ?_
    exact rM_I hf (vp_nar_int _) hret dX6_upMany_34
  · rw [if_neg c3] at hf
    refine s_aload_n C 0 dX6_upMany_17 rfl ?_
    refine gf_508 C 0 rfl rfl dX6_upMany_18 ?_
    refine s_iload_n C 1 dX6_upMany_21 rfl ?_
    obtain ⟨r4, er4, hf⟩ := bx_inv hf
    refine s_cS_I (As := [.int x1]) (rest := [.ref a1]) C (c_X6_endAt l G A _ x1 _ er4) g_RX6_20 hd_X6_endAt rfl ⟨Nat.le_of_ble_eq_true rfl, Nat.le_of_ble_eq_true rfl⟩ rfl (Nat.le_of_ble_eq_true rfl) ⟨Nat.le_of_ble_eq_true rfl, Nat.le_of_ble_eq_true rfl⟩ dX6_upMany_22 ?_
    refine s_bipush (v := 11) C dX6_upMany_25 (by decide) ?_
    refine s_iadd C dX6_upMany_27 ?_
    obtain ⟨v5, hiv5, ev5, hf⟩ := rd_inv hf
    refine s_iald C 1 rfl hiv5 dX6_upMany_28 ?_
    refine s_nmi ev5 ?_
    refine s_goto C 34 dX6_upMany_29 (by decide) ?_
    exact rM_I hf (vp_nar_int _) hret dX6_upMany_34
theorem c_X6_upMany (l : Launch) (G : GG) (A : Nat → Prop) (h : Nat) (a1 : Nat) (a2 : Nat) (a3 : Nat) (X : va_W) (x1 : Int32) (st : Nat → Int32) (wt : Int32) (sm : Int64) (ld : Int32) (ln : Int32) (r0 : Int32) (st0 : Nat → Int32) (wt0 : Int32) (sm0 : Int64) (ld0 : Int32) (ln0 : Int32) (hf : f_X6_upMany x1 st wt sm ld ln = some (r0, st0, wt0, sm0, ld0, ln0)) : MI l yX6_upMany cX6_upMany 2 .int ({ frames := 1, cells := 0, slots := 0, locals := 20 } : Room) G A (wM G h a1 a2 a3 X st wt sm ld ln) [.ref h, .int x1] r0 (wM G h a1 a2 a3 X st0 wt0 sm0 ld0 ln0) :=
  e_I (by decide) (Nat.le_of_ble_eq_true rfl) (fun Γ C hret => k_X6_upMany C _ _ _ _ _ _ _ _ _ _ _ _ _ _ _ _ _ hf hret)
def f_X6_up (x1 : Int32) (x2 : Int32) (st : Nat → Int32) (wt : Int32) (sm : Int64) (ld : Int32) (ln : Int32) : Option (Int32 × (Nat → Int32) × Int32 × Int64 × Int32 × Int32) :=
  bx (f_X6_isEnd x1) fun r1 =>
  if r1 = 0 then (some ((-1), st, wt, sm, ld, ln))
  else (if 0 ≤ x2 then (bM (f_X6_upMany x1 st wt sm ld ln) fun r4 st5 wt6 sm7 ld8 ln9 =>
  if r4 ≤ x2 then (some ((-4), st5, wt6, sm7, ld8, ln9))
  else (bx (f_X6_upAt x1 x2) fun r11 =>
  rd st5 8000 r11 fun v12 =>
  some (v12, st5, wt6, sm7, ld8, ln9)))
  else (some ((-1), st, wt, sm, ld, ln)))
set_option maxHeartbeats 4000000 in
set_option maxRecDepth 100000 in
theorem k_X6_up {l : Launch} {G : GG} {A : Nat → Prop} {Γ : Cx} (C : CX G A Γ cX6_up RX6 ({ frames := 2, cells := 0, slots := 0, locals := 41 } : Room) 3) (h : Nat) (a1 : Nat) (a2 : Nat) (a3 : Nat) (X : va_W) (x1 : Int32) (x2 : Int32) (st : Nat → Int32) (wt : Int32) (sm : Int64) (ld : Int32) (ln : Int32) (r0 : Int32) (st0 : Nat → Int32) (wt0 : Int32) (sm0 : Int64) (ld0 : Int32) (ln0 : Int32) (hf : f_X6_up x1 x2 st wt sm ld ln = some (r0, st0, wt0, sm0, ld0, ln0)) (hret : ∀ (pc : Nat) (lv : List (Nat × Value)), decode cX6_up pc = .ok (.ireturn, 1) → narrow .int (.int r0) = .int r0 → St l G A Γ 0 0 (wM G h a1 a2 a3 X st0 wt0 sm0 ld0 ln0) pc lv [.int r0]) : St l G A Γ 0 0 (wM G h a1 a2 a3 X st wt sm ld ln) 0 [(0, .ref h), (1, .int x1), (2, .int x2)] [] := by
  unfold f_X6_up at hf
  refine s_iload_n C 1 dX6_up_0 rfl ?_
  obtain ⟨r1, er1, hf⟩ := bx_inv hf
  refine s_cS_I (As := [.int x1]) (rest := []) C (c_X6_isEnd l G A _ x1 _ er1) g_RX6_39 hd_X6_isEnd rfl ⟨Nat.le_of_ble_eq_true rfl, Nat.le_of_ble_eq_true rfl⟩ rfl (Nat.le_of_ble_eq_true rfl) ⟨Nat.le_of_ble_eq_true rfl, Nat.le_of_ble_eq_true rfl⟩ dX6_up_1 ?_
  refine s_if_eq C 11 dX6_up_4 (by decide) (fun c2 => ?_) (fun c2 => ?_)
  · rw [if_pos c2] at hf
    refine s_iconst (v := (-1)) C dX6_up_11 (by decide) ?_
    exact rM_I hf (vp_nar_int _) hret dX6_up_12
  · rw [if_neg c2] at hf
    refine s_iload_n C 2 dX6_up_7 rfl ?_
    refine s_if_ge C 13 dX6_up_8 (by decide) (fun c3 => ?_) (fun c3 => ?_)
    · rw [if_pos c3] at hf
      refine s_iload_n C 2 dX6_up_13 rfl ?_
      refine s_aload_n C 0 dX6_up_14 rfl ?_
      refine s_iload_n C 1 dX6_up_15 rfl ?_
      obtain ⟨r4, st5, wt6, sm7, ld8, ln9, er4, hf⟩ := bM_inv hf
      refine s_cV_I (As := [.int x1]) (rest := [.int x2]) (ci := 6) (q := 0) C (c_X6_upMany l G A h a1 a2 a3 X x1 st wt sm ld ln _ _ _ _ _ _ er4) g_RX6_170 hd_X6_upMany rfl ⟨Nat.le_of_ble_eq_true rfl, Nat.le_of_ble_eq_true rfl⟩ rfl rfl rfl (Nat.le_of_ble_eq_true rfl) ⟨Nat.le_of_ble_eq_true rfl, Nat.le_of_ble_eq_true rfl⟩ dX6_up_16 ?_
      refine s_icmp_ge C 35 dX6_up_19 (by decide) (fun c10 => ?_) (fun c10 => ?_)
      · rw [if_pos c10] at hf
        refine s_bipush (v := (-4)) C dX6_up_35 (by decide) ?_
        exact rM_I hf (vp_nar_int _) hret dX6_up_37
      · rw [if_neg c10] at hf
        refine s_aload_n C 0 dX6_up_22 rfl ?_
        refine gf_508 C 0 rfl rfl dX6_up_23 ?_
        refine s_iload_n C 1 dX6_up_26 rfl ?_
        refine s_iload_n C 2 dX6_up_27 rfl ?_
        obtain ⟨r11, er11, hf⟩ := bx_inv hf
        refine s_cS_I (As := [.int x1, .int x2]) (rest := [.ref a1]) C (c_X6_upAt l G A _ x1 x2 _ er11) g_RX6_116 hd_X6_upAt rfl ⟨Nat.le_of_ble_eq_true rfl, Nat.le_of_ble_eq_true rfl⟩ rfl (Nat.le_of_ble_eq_true rfl) ⟨Nat.le_of_ble_eq_true rfl, Nat.le_of_ble_eq_true rfl⟩ dX6_up_28 ?_
        obtain ⟨v12, hiv12, ev12, hf⟩ := rd_inv hf
        refine s_iald C 1 rfl hiv12 dX6_up_31 ?_
        refine s_nmi ev12 ?_
        refine s_goto C 37 dX6_up_32 (by decide) ?_
        exact rM_I hf (vp_nar_int _) hret dX6_up_37
    · rw [if_neg c3] at hf
      refine s_iconst (v := (-1)) C dX6_up_11 (by decide) ?_
      exact rM_I hf (vp_nar_int _) hret dX6_up_12
theorem c_X6_up (l : Launch) (G : GG) (A : Nat → Prop) (h : Nat) (a1 : Nat) (a2 : Nat) (a3 : Nat) (X : va_W) (x1 : Int32) (x2 : Int32) (st : Nat → Int32) (wt : Int32) (sm : Int64) (ld : Int32) (ln : Int32) (r0 : Int32) (st0 : Nat → Int32) (wt0 : Int32) (sm0 : Int64) (ld0 : Int32) (ln0 : Int32) (hf : f_X6_up x1 x2 st wt sm ld ln = some (r0, st0, wt0, sm0, ld0, ln0)) : MI l yX6_up cX6_up 3 .int ({ frames := 2, cells := 0, slots := 0, locals := 41 } : Room) G A (wM G h a1 a2 a3 X st wt sm ld ln) [.ref h, .int x1, .int x2] r0 (wM G h a1 a2 a3 X st0 wt0 sm0 ld0 ln0) :=
  e_I (by decide) (Nat.le_of_ble_eq_true rfl) (fun Γ C hret => k_X6_up C _ _ _ _ _ _ _ _ _ _ _ _ _ _ _ _ _ _ hf hret)
def f_X6_upByte (x1 : Int32) (x2 : Int32) (x3 : Int32) (st : Nat → Int32) (wt : Int32) (sm : Int64) (ld : Int32) (ln : Int32) : Option (Int32 × (Nat → Int32) × Int32 × Int64 × Int32 × Int32) :=
  bx (f_X6_isEnd x1) fun r1 =>
  if r1 = 0 then (some ((-1), st, wt, sm, ld, ln))
  else (if x2 < 0 then (some ((-1), st, wt, sm, ld, ln))
  else (if 0 ≤ x3 then (bM (f_X6_upMany x1 st wt sm ld ln) fun r5 st6 wt7 sm8 ld9 ln10 =>
  if r5 ≤ x2 then (some ((-4), st6, wt7, sm8, ld9, ln10))
  else (bx (f_X6_upAt x1 x2) fun r12 =>
  rd st6 8000 r12 fun v13 =>
  if v13 ≤ x3 then (some ((-4), st6, wt7, sm8, ld9, ln10))
  else (bx (f_X6_upAt x1 x2) fun r15 =>
  rd st6 8000 ((r15 + 1) + x3) fun v16 =>
  some (v16, st6, wt7, sm8, ld9, ln10))))
  else (some ((-1), st, wt, sm, ld, ln))))
set_option maxHeartbeats 4000000 in
set_option maxRecDepth 100000 in
theorem k_X6_upByte {l : Launch} {G : GG} {A : Nat → Prop} {Γ : Cx} (C : CX G A Γ cX6_upByte RX6 ({ frames := 2, cells := 0, slots := 0, locals := 41 } : Room) 4) (h : Nat) (a1 : Nat) (a2 : Nat) (a3 : Nat) (X : va_W) (x1 : Int32) (x2 : Int32) (x3 : Int32) (st : Nat → Int32) (wt : Int32) (sm : Int64) (ld : Int32) (ln : Int32) (r0 : Int32) (st0 : Nat → Int32) (wt0 : Int32) (sm0 : Int64) (ld0 : Int32) (ln0 : Int32) (hf : f_X6_upByte x1 x2 x3 st wt sm ld ln = some (r0, st0, wt0, sm0, ld0, ln0)) (hret : ∀ (pc : Nat) (lv : List (Nat × Value)), decode cX6_upByte pc = .ok (.ireturn, 1) → narrow .int (.int r0) = .int r0 → St l G A Γ 0 0 (wM G h a1 a2 a3 X st0 wt0 sm0 ld0 ln0) pc lv [.int r0]) : St l G A Γ 0 0 (wM G h a1 a2 a3 X st wt sm ld ln) 0 [(0, .ref h), (1, .int x1), (2, .int x2), (3, .int x3)] [] := by
  unfold f_X6_upByte at hf
  refine s_iload_n C 1 dX6_upByte_0 rfl ?_
  obtain ⟨r1, er1, hf⟩ := bx_inv hf
  refine s_cS_I (As := [.int x1]) (rest := []) C (c_X6_isEnd l G A _ x1 _ er1) g_RX6_39 hd_X6_isEnd rfl ⟨Nat.le_of_ble_eq_true rfl, Nat.le_of_ble_eq_true rfl⟩ rfl (Nat.le_of_ble_eq_true rfl) ⟨Nat.le_of_ble_eq_true rfl, Nat.le_of_ble_eq_true rfl⟩ dX6_upByte_1 ?_
  refine s_if_eq C 15 dX6_upByte_4 (by decide) (fun c2 => ?_) (fun c2 => ?_)
  · rw [if_pos c2] at hf
    refine s_iconst (v := (-1)) C dX6_upByte_15 (by decide) ?_
    exact rM_I hf (vp_nar_int _) hret dX6_upByte_16
  · rw [if_neg c2] at hf
    refine s_iload_n C 2 dX6_upByte_7 rfl ?_
    refine s_if_lt C 15 dX6_upByte_8 (by decide) (fun c3 => ?_) (fun c3 => ?_)
    · rw [if_pos c3] at hf
      refine s_iconst (v := (-1)) C dX6_upByte_15 (by decide) ?_
      exact rM_I hf (vp_nar_int _) hret dX6_upByte_16
    · rw [if_neg c3] at hf
      refine s_iload_n C 3 dX6_upByte_11 rfl ?_
      refine s_if_ge C 17 dX6_upByte_12 (by decide) (fun c4 => ?_) (fun c4 => ?_)
      · rw [if_pos c4] at hf
        refine s_iload_n C 2 dX6_upByte_17 rfl ?_
        refine s_aload_n C 0 dX6_upByte_18 rfl ?_
        refine s_iload_n C 1 dX6_upByte_19 rfl ?_
        obtain ⟨r5, st6, wt7, sm8, ld9, ln10, er5, hf⟩ := bM_inv hf
        refine s_cV_I (As := [.int x1]) (rest := [.int x2]) (ci := 6) (q := 0) C (c_X6_upMany l G A h a1 a2 a3 X x1 st wt sm ld ln _ _ _ _ _ _ er5) g_RX6_170 hd_X6_upMany rfl ⟨Nat.le_of_ble_eq_true rfl, Nat.le_of_ble_eq_true rfl⟩ rfl rfl rfl (Nat.le_of_ble_eq_true rfl) ⟨Nat.le_of_ble_eq_true rfl, Nat.le_of_ble_eq_true rfl⟩ dX6_upByte_20 ?_
        refine s_icmp_ge C 57 dX6_upByte_23 (by decide) (fun c11 => ?_) (fun c11 => ?_)
        · rw [if_pos c11] at hf
          refine s_bipush (v := (-4)) C dX6_upByte_57 (by decide) ?_
          exact rM_I hf (vp_nar_int _) hret dX6_upByte_59
        · rw [if_neg c11] at hf
          refine s_iload_n C 3 dX6_upByte_26 rfl ?_
          refine s_aload_n C 0 dX6_upByte_27 rfl ?_
          refine gf_508 C 0 rfl rfl dX6_upByte_28 ?_
          refine s_iload_n C 1 dX6_upByte_31 rfl ?_
          refine s_iload_n C 2 dX6_upByte_32 rfl ?_
          obtain ⟨r12, er12, hf⟩ := bx_inv hf
          refine s_cS_I (As := [.int x1, .int x2]) (rest := [.ref a1, .int x3]) C (c_X6_upAt l G A _ x1 x2 _ er12) g_RX6_116 hd_X6_upAt rfl ⟨Nat.le_of_ble_eq_true rfl, Nat.le_of_ble_eq_true rfl⟩ rfl (Nat.le_of_ble_eq_true rfl) ⟨Nat.le_of_ble_eq_true rfl, Nat.le_of_ble_eq_true rfl⟩ dX6_upByte_33 ?_
          obtain ⟨v13, hiv13, ev13, hf⟩ := rd_inv hf
          refine s_iald C 1 rfl hiv13 dX6_upByte_36 ?_
          refine s_nmi ev13 ?_
          refine s_icmp_ge C 57 dX6_upByte_37 (by decide) (fun c14 => ?_) (fun c14 => ?_)
          · rw [if_pos c14] at hf
            refine s_bipush (v := (-4)) C dX6_upByte_57 (by decide) ?_
            exact rM_I hf (vp_nar_int _) hret dX6_upByte_59
          · rw [if_neg c14] at hf
            refine s_aload_n C 0 dX6_upByte_40 rfl ?_
            refine gf_508 C 0 rfl rfl dX6_upByte_41 ?_
            refine s_iload_n C 1 dX6_upByte_44 rfl ?_
            refine s_iload_n C 2 dX6_upByte_45 rfl ?_
            obtain ⟨r15, er15, hf⟩ := bx_inv hf
            refine s_cS_I (As := [.int x1, .int x2]) (rest := [.ref a1]) C (c_X6_upAt l G A _ x1 x2 _ er15) g_RX6_116 hd_X6_upAt rfl ⟨Nat.le_of_ble_eq_true rfl, Nat.le_of_ble_eq_true rfl⟩ rfl (Nat.le_of_ble_eq_true rfl) ⟨Nat.le_of_ble_eq_true rfl, Nat.le_of_ble_eq_true rfl⟩ dX6_upByte_46 ?_
            refine s_iconst (v := 1) C dX6_upByte_49 (by decide) ?_
            refine s_iadd C dX6_upByte_50 ?_
            refine s_iload_n C 3 dX6_upByte_51 rfl ?_
            refine s_iadd C dX6_upByte_52 ?_
            obtain ⟨v16, hiv16, ev16, hf⟩ := rd_inv hf
            refine s_iald C 1 rfl hiv16 dX6_upByte_53 ?_
            refine s_nmi ev16 ?_
            refine s_goto C 59 dX6_upByte_54 (by decide) ?_
            exact rM_I hf (vp_nar_int _) hret dX6_upByte_59
      · rw [if_neg c4] at hf
        refine s_iconst (v := (-1)) C dX6_upByte_15 (by decide) ?_
        exact rM_I hf (vp_nar_int _) hret dX6_upByte_16
theorem c_X6_upByte (l : Launch) (G : GG) (A : Nat → Prop) (h : Nat) (a1 : Nat) (a2 : Nat) (a3 : Nat) (X : va_W) (x1 : Int32) (x2 : Int32) (x3 : Int32) (st : Nat → Int32) (wt : Int32) (sm : Int64) (ld : Int32) (ln : Int32) (r0 : Int32) (st0 : Nat → Int32) (wt0 : Int32) (sm0 : Int64) (ld0 : Int32) (ln0 : Int32) (hf : f_X6_upByte x1 x2 x3 st wt sm ld ln = some (r0, st0, wt0, sm0, ld0, ln0)) : MI l yX6_upByte cX6_upByte 4 .int ({ frames := 2, cells := 0, slots := 0, locals := 41 } : Room) G A (wM G h a1 a2 a3 X st wt sm ld ln) [.ref h, .int x1, .int x2, .int x3] r0 (wM G h a1 a2 a3 X st0 wt0 sm0 ld0 ln0) :=
  e_I (by decide) (Nat.le_of_ble_eq_true rfl) (fun Γ C hret => k_X6_upByte C _ _ _ _ _ _ _ _ _ _ _ _ _ _ _ _ _ _ _ hf hret)
def f_X6_count (x1 : Int32) (st : Nat → Int32) (wt : Int32) (sm : Int64) (ld : Int32) (ln : Int32) : Option (Int32 × (Nat → Int32) × Int32 × Int64 × Int32 × Int32) :=
  bx (f_X6_in ((x1 : Int32).toInt64) 0 17) fun r1 =>
  if r1 = 0 then (some ((-1), st, wt, sm, ld, ln))
  else (if 4 ≤ x1 then (if 9 ≤ x1 then (if 17 ≤ x1 then (bM (f_X6_isQuiet st wt sm ld ln) fun r6 st7 wt8 sm9 ld10 ln11 =>
  if r6 = 0 then (some (0, st7, wt8, sm9, ld10, ln11))
  else (some (1, st7, wt8, sm9, ld10, ln11)))
  else (rd st 8000 ((24 + x1) - 9) fun v13 =>
  some (v13, st, wt, sm, ld, ln)))
  else (rd st 8000 ((7 + x1) - 4) fun v14 =>
  some (v14, st, wt, sm, ld, ln)))
  else (rd st 8000 (3 + x1) fun v15 =>
  some (v15, st, wt, sm, ld, ln)))
set_option maxHeartbeats 4000000 in
set_option maxRecDepth 100000 in
theorem k_X6_count {l : Launch} {G : GG} {A : Nat → Prop} {Γ : Cx} (C : CX G A Γ cX6_count RX6 ({ frames := 3, cells := 0, slots := 0, locals := 63 } : Room) 2) (h : Nat) (a1 : Nat) (a2 : Nat) (a3 : Nat) (X : va_W) (x1 : Int32) (st : Nat → Int32) (wt : Int32) (sm : Int64) (ld : Int32) (ln : Int32) (r0 : Int32) (st0 : Nat → Int32) (wt0 : Int32) (sm0 : Int64) (ld0 : Int32) (ln0 : Int32) (hf : f_X6_count x1 st wt sm ld ln = some (r0, st0, wt0, sm0, ld0, ln0)) (hret : ∀ (pc : Nat) (lv : List (Nat × Value)), decode cX6_count pc = .ok (.ireturn, 1) → narrow .int (.int r0) = .int r0 → St l G A Γ 0 0 (wM G h a1 a2 a3 X st0 wt0 sm0 ld0 ln0) pc lv [.int r0]) : St l G A Γ 0 0 (wM G h a1 a2 a3 X st wt sm ld ln) 0 [(0, .ref h), (1, .int x1)] [] := by
  unfold f_X6_count at hf
  refine s_iload_n C 1 dX6_count_0 rfl ?_
  refine s_i2l C dX6_count_1 ?_
  refine s_lconst (v := 0) C dX6_count_2 (by decide) ?_
  refine s_ldc2 C tw_722 dX6_count_3 ?_
  obtain ⟨r1, er1, hf⟩ := bx_inv hf
  refine s_cS_I (As := [.long ((x1 : Int32).toInt64), .long 0, .long 17]) (rest := []) C (c_X6_in l G A _ ((x1 : Int32).toInt64) 0 17 _ er1) g_RX6_45 hd_X6_in rfl ⟨Nat.le_of_ble_eq_true rfl, Nat.le_of_ble_eq_true rfl⟩ rfl (Nat.le_of_ble_eq_true rfl) ⟨Nat.le_of_ble_eq_true rfl, Nat.le_of_ble_eq_true rfl⟩ dX6_count_6 ?_
  refine s_if_ne C 14 dX6_count_9 (by decide) (fun c2 => ?_) (fun c2 => ?_)
  · rw [if_neg c2] at hf
    refine s_iload_n C 1 dX6_count_14 rfl ?_
    refine s_iconst (v := 4) C dX6_count_15 (by decide) ?_
    refine s_icmp_ge C 28 dX6_count_16 (by decide) (fun c3 => ?_) (fun c3 => ?_)
    · rw [if_pos c3] at hf
      refine s_iload_n C 1 dX6_count_28 rfl ?_
      refine s_bipush (v := 9) C dX6_count_29 (by decide) ?_
      refine s_icmp_ge C 46 dX6_count_31 (by decide) (fun c4 => ?_) (fun c4 => ?_)
      · rw [if_pos c4] at hf
        refine s_iload_n C 1 dX6_count_46 rfl ?_
        refine s_bipush (v := 17) C dX6_count_47 (by decide) ?_
        refine s_icmp_ge C 67 dX6_count_49 (by decide) (fun c5 => ?_) (fun c5 => ?_)
        · rw [if_pos c5] at hf
          refine s_aload_n C 0 dX6_count_67 rfl ?_
          obtain ⟨r6, st7, wt8, sm9, ld10, ln11, er6, hf⟩ := bM_inv hf
          refine s_cV_I (As := []) (rest := []) (ci := 6) (q := 0) C (c_X6_isQuiet l G A h a1 a2 a3 X st wt sm ld ln _ _ _ _ _ _ er6) g_RX6_160 hd_X6_isQuiet rfl ⟨Nat.le_of_ble_eq_true rfl, Nat.le_of_ble_eq_true rfl⟩ rfl rfl rfl (Nat.le_of_ble_eq_true rfl) ⟨Nat.le_of_ble_eq_true rfl, Nat.le_of_ble_eq_true rfl⟩ dX6_count_68 ?_
          refine s_if_eq C 78 dX6_count_71 (by decide) (fun c12 => ?_) (fun c12 => ?_)
          · rw [if_pos c12] at hf
            refine s_iconst (v := 0) C dX6_count_78 (by decide) ?_
            exact rM_I hf (vp_nar_int _) hret dX6_count_79
          · rw [if_neg c12] at hf
            refine s_iconst (v := 1) C dX6_count_74 (by decide) ?_
            refine s_goto C 79 dX6_count_75 (by decide) ?_
            exact rM_I hf (vp_nar_int _) hret dX6_count_79
        · rw [if_neg c5] at hf
          refine s_aload_n C 0 dX6_count_52 rfl ?_
          refine gf_508 C 0 rfl rfl dX6_count_53 ?_
          refine s_bipush (v := 24) C dX6_count_56 (by decide) ?_
          refine s_iload_n C 1 dX6_count_58 rfl ?_
          refine s_iadd C dX6_count_59 ?_
          refine s_bipush (v := 9) C dX6_count_60 (by decide) ?_
          refine s_isub C dX6_count_62 ?_
          obtain ⟨v13, hiv13, ev13, hf⟩ := rd_inv hf
          refine s_iald C 1 rfl hiv13 dX6_count_63 ?_
          refine s_nmi ev13 ?_
          refine s_goto C 79 dX6_count_64 (by decide) ?_
          exact rM_I hf (vp_nar_int _) hret dX6_count_79
      · rw [if_neg c4] at hf
        refine s_aload_n C 0 dX6_count_34 rfl ?_
        refine gf_508 C 0 rfl rfl dX6_count_35 ?_
        refine s_bipush (v := 7) C dX6_count_38 (by decide) ?_
        refine s_iload_n C 1 dX6_count_40 rfl ?_
        refine s_iadd C dX6_count_41 ?_
        refine s_iconst (v := 4) C dX6_count_42 (by decide) ?_
        refine s_isub C dX6_count_43 ?_
        obtain ⟨v14, hiv14, ev14, hf⟩ := rd_inv hf
        refine s_iald C 1 rfl hiv14 dX6_count_44 ?_
        refine s_nmi ev14 ?_
        exact rM_I hf (vp_nar_int _) hret dX6_count_45
    · rw [if_neg c3] at hf
      refine s_aload_n C 0 dX6_count_19 rfl ?_
      refine gf_508 C 0 rfl rfl dX6_count_20 ?_
      refine s_iconst (v := 3) C dX6_count_23 (by decide) ?_
      refine s_iload_n C 1 dX6_count_24 rfl ?_
      refine s_iadd C dX6_count_25 ?_
      obtain ⟨v15, hiv15, ev15, hf⟩ := rd_inv hf
      refine s_iald C 1 rfl hiv15 dX6_count_26 ?_
      refine s_nmi ev15 ?_
      exact rM_I hf (vp_nar_int _) hret dX6_count_27
  · rw [if_pos c2] at hf
    refine s_iconst (v := (-1)) C dX6_count_12 (by decide) ?_
    exact rM_I hf (vp_nar_int _) hret dX6_count_13
theorem c_X6_count (l : Launch) (G : GG) (A : Nat → Prop) (h : Nat) (a1 : Nat) (a2 : Nat) (a3 : Nat) (X : va_W) (x1 : Int32) (st : Nat → Int32) (wt : Int32) (sm : Int64) (ld : Int32) (ln : Int32) (r0 : Int32) (st0 : Nat → Int32) (wt0 : Int32) (sm0 : Int64) (ld0 : Int32) (ln0 : Int32) (hf : f_X6_count x1 st wt sm ld ln = some (r0, st0, wt0, sm0, ld0, ln0)) : MI l yX6_count cX6_count 2 .int ({ frames := 3, cells := 0, slots := 0, locals := 63 } : Room) G A (wM G h a1 a2 a3 X st wt sm ld ln) [.ref h, .int x1] r0 (wM G h a1 a2 a3 X st0 wt0 sm0 ld0 ln0) :=
  e_I (by decide) (Nat.le_of_ble_eq_true rfl) (fun Γ C hret => k_X6_count C _ _ _ _ _ _ _ _ _ _ _ _ _ _ _ _ _ hf hret)
