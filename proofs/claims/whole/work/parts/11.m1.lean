def f_X6_in (x0 : Int64) (x2 : Int64) (x4 : Int64) : Option (Int32) :=
  if (lg_cmp x0 x2) < 0 then (some (0))
  else (if 0 < (lg_cmp x0 x4) then (some (0))
  else (some (1)))
set_option maxHeartbeats 4000000 in
set_option maxRecDepth 100000 in
theorem k_X6_in {l : Launch} {G : GG} {A : Nat → Prop} {Γ : Cx} (C : CX G A Γ cX6_in RX6 ({ frames := 0, cells := 0, slots := 0, locals := 0 } : Room) 6) (ws : va_W) (x0 : Int64) (x2 : Int64) (x4 : Int64) (r0 : Int32)  (hf : f_X6_in x0 x2 x4 = some (r0)) (hret : ∀ (pc : Nat) (lv : List (Nat × Value)), decode cX6_in pc = .ok (.ireturn, 1) → narrow .boolean (.int r0) = .int r0 → St l G A Γ 0 0 ws pc lv [.int r0]) : St l G A Γ 0 0 ws 0 [(0, .long x0), (2, .long x2), (4, .long x4)] [] := by
  unfold f_X6_in at hf
  refine s_lload_n C 0 dX6_in_0 rfl ?_
  refine s_lload_n C 1 dX6_in_1 rfl ?_
  refine s_lcmp C dX6_in_2 ?_
  refine s_if_lt C 17 dX6_in_3 (by decide) (fun c1 => ?_) (fun c1 => ?_)
  · rw [if_pos c1] at hf
    refine s_iconst (v := 0) C dX6_in_17 (by decide) ?_
    exact rN_I hf rfl hret dX6_in_18
  · rw [if_neg c1] at hf
    refine s_lload_n C 0 dX6_in_6 rfl ?_
    refine s_lload C 2 dX6_in_7 rfl ?_
    refine s_lcmp C dX6_in_9 ?_
    refine s_if_gt C 17 dX6_in_10 (by decide) (fun c2 => ?_) (fun c2 => ?_)
    · rw [if_pos c2] at hf
      refine s_iconst (v := 0) C dX6_in_17 (by decide) ?_
      exact rN_I hf rfl hret dX6_in_18
    · rw [if_neg c2] at hf
      refine s_iconst (v := 1) C dX6_in_13 (by decide) ?_
      refine s_goto C 18 dX6_in_14 (by decide) ?_
      exact rN_I hf rfl hret dX6_in_18
theorem c_X6_in (l : Launch) (G : GG) (A : Nat → Prop) (ws : va_W) (x0 : Int64) (x2 : Int64) (x4 : Int64) (r0 : Int32)  (hf : f_X6_in x0 x2 x4 = some (r0)) : MI l yX6_in cX6_in 6 .boolean ({ frames := 0, cells := 0, slots := 0, locals := 0 } : Room) G A ws [.long x0, .long x2, .long x4] r0 ws :=
  e_I (by decide) (Nat.le_of_ble_eq_true rfl) (fun Γ C hret => k_X6_in C _ _ _ _ _ hf hret)
def f_X6_endAt (x0 : Int32) : Option (Int32) :=
  some ((100 + (100 * x0)))
set_option maxHeartbeats 4000000 in
set_option maxRecDepth 100000 in
theorem k_X6_endAt {l : Launch} {G : GG} {A : Nat → Prop} {Γ : Cx} (C : CX G A Γ cX6_endAt RX6 ({ frames := 0, cells := 0, slots := 0, locals := 0 } : Room) 1) (ws : va_W) (x0 : Int32) (r0 : Int32)  (hf : f_X6_endAt x0 = some (r0)) (hret : ∀ (pc : Nat) (lv : List (Nat × Value)), decode cX6_endAt pc = .ok (.ireturn, 1) → narrow .int (.int r0) = .int r0 → St l G A Γ 0 0 ws pc lv [.int r0]) : St l G A Γ 0 0 ws 0 [(0, .int x0)] [] := by
  unfold f_X6_endAt at hf
  refine s_bipush (v := 100) C dX6_endAt_0 (by decide) ?_
  refine s_bipush (v := 100) C dX6_endAt_2 (by decide) ?_
  refine s_iload_n C 0 dX6_endAt_4 rfl ?_
  refine s_imul C dX6_endAt_5 ?_
  refine s_iadd C dX6_endAt_6 ?_
  exact rN_I hf (vp_nar_int _) hret dX6_endAt_7
theorem c_X6_endAt (l : Launch) (G : GG) (A : Nat → Prop) (ws : va_W) (x0 : Int32) (r0 : Int32)  (hf : f_X6_endAt x0 = some (r0)) : MI l yX6_endAt cX6_endAt 1 .int ({ frames := 0, cells := 0, slots := 0, locals := 0 } : Room) G A ws [.int x0] r0 ws :=
  e_I (by decide) (Nat.le_of_ble_eq_true rfl) (fun Γ C hret => k_X6_endAt C _ _ _ hf hret)
def f_X6_wireAt (x0 : Int32) : Option (Int32) :=
  some ((300 + (500 * x0)))
set_option maxHeartbeats 4000000 in
set_option maxRecDepth 100000 in
theorem k_X6_wireAt {l : Launch} {G : GG} {A : Nat → Prop} {Γ : Cx} (C : CX G A Γ cX6_wireAt RX6 ({ frames := 0, cells := 0, slots := 0, locals := 0 } : Room) 1) (ws : va_W) (x0 : Int32) (r0 : Int32)  (hf : f_X6_wireAt x0 = some (r0)) (hret : ∀ (pc : Nat) (lv : List (Nat × Value)), decode cX6_wireAt pc = .ok (.ireturn, 1) → narrow .int (.int r0) = .int r0 → St l G A Γ 0 0 ws pc lv [.int r0]) : St l G A Γ 0 0 ws 0 [(0, .int x0)] [] := by
  unfold f_X6_wireAt at hf
  refine s_sipush (v := 300) C dX6_wireAt_0 (by decide) ?_
  refine s_sipush (v := 500) C dX6_wireAt_3 (by decide) ?_
  refine s_iload_n C 0 dX6_wireAt_6 rfl ?_
  refine s_imul C dX6_wireAt_7 ?_
  refine s_iadd C dX6_wireAt_8 ?_
  exact rN_I hf (vp_nar_int _) hret dX6_wireAt_9
theorem c_X6_wireAt (l : Launch) (G : GG) (A : Nat → Prop) (ws : va_W) (x0 : Int32) (r0 : Int32)  (hf : f_X6_wireAt x0 = some (r0)) : MI l yX6_wireAt cX6_wireAt 1 .int ({ frames := 0, cells := 0, slots := 0, locals := 0 } : Room) G A ws [.int x0] r0 ws :=
  e_I (by decide) (Nat.le_of_ble_eq_true rfl) (fun Γ C hret => k_X6_wireAt C _ _ _ hf hret)
def f_X6_frameAt (x0 : Int32) (x1 : Int32) : Option (Int32) :=
  bx (f_X6_wireAt x0) fun r1 =>
  some (((r1 + 1) + (36 * x1)))
set_option maxHeartbeats 4000000 in
set_option maxRecDepth 100000 in
theorem k_X6_frameAt {l : Launch} {G : GG} {A : Nat → Prop} {Γ : Cx} (C : CX G A Γ cX6_frameAt RX6 ({ frames := 1, cells := 0, slots := 0, locals := 20 } : Room) 2) (ws : va_W) (x0 : Int32) (x1 : Int32) (r0 : Int32)  (hf : f_X6_frameAt x0 x1 = some (r0)) (hret : ∀ (pc : Nat) (lv : List (Nat × Value)), decode cX6_frameAt pc = .ok (.ireturn, 1) → narrow .int (.int r0) = .int r0 → St l G A Γ 0 0 ws pc lv [.int r0]) : St l G A Γ 0 0 ws 0 [(0, .int x0), (1, .int x1)] [] := by
  unfold f_X6_frameAt at hf
  refine s_iload_n C 0 dX6_frameAt_0 rfl ?_
  obtain ⟨r1, er1, hf⟩ := bx_inv hf
  refine s_cS_I (As := [.int x0]) (rest := []) C (c_X6_wireAt l G A _ x0 _ er1) g_RX6_24 hd_X6_wireAt rfl ⟨Nat.le_of_ble_eq_true rfl, Nat.le_of_ble_eq_true rfl⟩ rfl (Nat.le_of_ble_eq_true rfl) ⟨Nat.le_of_ble_eq_true rfl, Nat.le_of_ble_eq_true rfl⟩ dX6_frameAt_1 ?_
  refine s_iconst (v := 1) C dX6_frameAt_4 (by decide) ?_
  refine s_iadd C dX6_frameAt_5 ?_
  refine s_bipush (v := 36) C dX6_frameAt_6 (by decide) ?_
  refine s_iload_n C 1 dX6_frameAt_8 rfl ?_
  refine s_imul C dX6_frameAt_9 ?_
  refine s_iadd C dX6_frameAt_10 ?_
  exact rN_I hf (vp_nar_int _) hret dX6_frameAt_11
theorem c_X6_frameAt (l : Launch) (G : GG) (A : Nat → Prop) (ws : va_W) (x0 : Int32) (x1 : Int32) (r0 : Int32)  (hf : f_X6_frameAt x0 x1 = some (r0)) : MI l yX6_frameAt cX6_frameAt 2 .int ({ frames := 1, cells := 0, slots := 0, locals := 20 } : Room) G A ws [.int x0, .int x1] r0 ws :=
  e_I (by decide) (Nat.le_of_ble_eq_true rfl) (fun Γ C hret => k_X6_frameAt C _ _ _ _ hf hret)
def f_X6_packetAt (x0 : Int32) (x1 : Int32) : Option (Int32) :=
  some (((1400 + (1600 * x0)) + (25 * x1)))
set_option maxHeartbeats 4000000 in
set_option maxRecDepth 100000 in
theorem k_X6_packetAt {l : Launch} {G : GG} {A : Nat → Prop} {Γ : Cx} (C : CX G A Γ cX6_packetAt RX6 ({ frames := 0, cells := 0, slots := 0, locals := 0 } : Room) 2) (ws : va_W) (x0 : Int32) (x1 : Int32) (r0 : Int32)  (hf : f_X6_packetAt x0 x1 = some (r0)) (hret : ∀ (pc : Nat) (lv : List (Nat × Value)), decode cX6_packetAt pc = .ok (.ireturn, 1) → narrow .int (.int r0) = .int r0 → St l G A Γ 0 0 ws pc lv [.int r0]) : St l G A Γ 0 0 ws 0 [(0, .int x0), (1, .int x1)] [] := by
  unfold f_X6_packetAt at hf
  refine s_sipush (v := 1400) C dX6_packetAt_0 (by decide) ?_
  refine s_sipush (v := 1600) C dX6_packetAt_3 (by decide) ?_
  refine s_iload_n C 0 dX6_packetAt_6 rfl ?_
  refine s_imul C dX6_packetAt_7 ?_
  refine s_iadd C dX6_packetAt_8 ?_
  refine s_bipush (v := 25) C dX6_packetAt_9 (by decide) ?_
  refine s_iload_n C 1 dX6_packetAt_11 rfl ?_
  refine s_imul C dX6_packetAt_12 ?_
  refine s_iadd C dX6_packetAt_13 ?_
  exact rN_I hf (vp_nar_int _) hret dX6_packetAt_14
theorem c_X6_packetAt (l : Launch) (G : GG) (A : Nat → Prop) (ws : va_W) (x0 : Int32) (x1 : Int32) (r0 : Int32)  (hf : f_X6_packetAt x0 x1 = some (r0)) : MI l yX6_packetAt cX6_packetAt 2 .int ({ frames := 0, cells := 0, slots := 0, locals := 0 } : Room) G A ws [.int x0, .int x1] r0 ws :=
  e_I (by decide) (Nat.le_of_ble_eq_true rfl) (fun Γ C hret => k_X6_packetAt C _ _ _ _ hf hret)
def f_X6_upAt (x0 : Int32) (x1 : Int32) : Option (Int32) :=
  some (((4600 + (1600 * x0)) + (25 * x1)))
set_option maxHeartbeats 4000000 in
set_option maxRecDepth 100000 in
theorem k_X6_upAt {l : Launch} {G : GG} {A : Nat → Prop} {Γ : Cx} (C : CX G A Γ cX6_upAt RX6 ({ frames := 0, cells := 0, slots := 0, locals := 0 } : Room) 2) (ws : va_W) (x0 : Int32) (x1 : Int32) (r0 : Int32)  (hf : f_X6_upAt x0 x1 = some (r0)) (hret : ∀ (pc : Nat) (lv : List (Nat × Value)), decode cX6_upAt pc = .ok (.ireturn, 1) → narrow .int (.int r0) = .int r0 → St l G A Γ 0 0 ws pc lv [.int r0]) : St l G A Γ 0 0 ws 0 [(0, .int x0), (1, .int x1)] [] := by
  unfold f_X6_upAt at hf
  refine s_sipush (v := 4600) C dX6_upAt_0 (by decide) ?_
  refine s_sipush (v := 1600) C dX6_upAt_3 (by decide) ?_
  refine s_iload_n C 0 dX6_upAt_6 rfl ?_
  refine s_imul C dX6_upAt_7 ?_
  refine s_iadd C dX6_upAt_8 ?_
  refine s_bipush (v := 25) C dX6_upAt_9 (by decide) ?_
  refine s_iload_n C 1 dX6_upAt_11 rfl ?_
  refine s_imul C dX6_upAt_12 ?_
  refine s_iadd C dX6_upAt_13 ?_
  exact rN_I hf (vp_nar_int _) hret dX6_upAt_14
theorem c_X6_upAt (l : Launch) (G : GG) (A : Nat → Prop) (ws : va_W) (x0 : Int32) (x1 : Int32) (r0 : Int32)  (hf : f_X6_upAt x0 x1 = some (r0)) : MI l yX6_upAt cX6_upAt 2 .int ({ frames := 0, cells := 0, slots := 0, locals := 0 } : Room) G A ws [.int x0, .int x1] r0 ws :=
  e_I (by decide) (Nat.le_of_ble_eq_true rfl) (fun Γ C hret => k_X6_upAt C _ _ _ _ hf hret)
def f_X6_by64 (x0 : Int32) : Option (Int32) :=
  if 0 ≤ (x0 - x0 / 64 * 64) then (some ((x0 - x0 / 64 * 64)))
  else (some (((x0 - x0 / 64 * 64) + 64)))
set_option maxHeartbeats 4000000 in
set_option maxRecDepth 100000 in
theorem k_X6_by64 {l : Launch} {G : GG} {A : Nat → Prop} {Γ : Cx} (C : CX G A Γ cX6_by64 RX6 ({ frames := 0, cells := 0, slots := 0, locals := 0 } : Room) 1) (ws : va_W) (x0 : Int32) (r0 : Int32)  (hf : f_X6_by64 x0 = some (r0)) (hret : ∀ (pc : Nat) (lv : List (Nat × Value)), decode cX6_by64 pc = .ok (.ireturn, 1) → narrow .int (.int r0) = .int r0 → St l G A Γ 0 0 ws pc lv [.int r0]) : St l G A Γ 0 0 ws 0 [(0, .int x0)] [] := by
  unfold f_X6_by64 at hf
  refine s_iload_n C 0 dX6_by64_0 rfl ?_
  refine s_bipush (v := 64) C dX6_by64_1 (by decide) ?_
  refine s_irem C dX6_by64_3 (by decide) ?_
  refine s_if_ge C 17 dX6_by64_4 (by decide) (fun c1 => ?_) (fun c1 => ?_)
  · rw [if_pos c1] at hf
    refine s_iload_n C 0 dX6_by64_17 rfl ?_
    refine s_bipush (v := 64) C dX6_by64_18 (by decide) ?_
    refine s_irem C dX6_by64_20 (by decide) ?_
    exact rN_I hf (vp_nar_int _) hret dX6_by64_21
  · rw [if_neg c1] at hf
    refine s_iload_n C 0 dX6_by64_7 rfl ?_
    refine s_bipush (v := 64) C dX6_by64_8 (by decide) ?_
    refine s_irem C dX6_by64_10 (by decide) ?_
    refine s_bipush (v := 64) C dX6_by64_11 (by decide) ?_
    refine s_iadd C dX6_by64_13 ?_
    refine s_goto C 21 dX6_by64_14 (by decide) ?_
    exact rN_I hf (vp_nar_int _) hret dX6_by64_21
theorem c_X6_by64 (l : Launch) (G : GG) (A : Nat → Prop) (ws : va_W) (x0 : Int32) (r0 : Int32)  (hf : f_X6_by64 x0 = some (r0)) : MI l yX6_by64 cX6_by64 1 .int ({ frames := 0, cells := 0, slots := 0, locals := 0 } : Room) G A ws [.int x0] r0 ws :=
  e_I (by decide) (Nat.le_of_ble_eq_true rfl) (fun Γ C hret => k_X6_by64 C _ _ _ hf hret)
def f_X6_isEnd (x0 : Int32) : Option (Int32) :=
  if x0 = 0 then (some (1))
  else (if x0 = 1 then (some (1))
  else (some (0)))
set_option maxHeartbeats 4000000 in
set_option maxRecDepth 100000 in
theorem k_X6_isEnd {l : Launch} {G : GG} {A : Nat → Prop} {Γ : Cx} (C : CX G A Γ cX6_isEnd RX6 ({ frames := 0, cells := 0, slots := 0, locals := 0 } : Room) 1) (ws : va_W) (x0 : Int32) (r0 : Int32)  (hf : f_X6_isEnd x0 = some (r0)) (hret : ∀ (pc : Nat) (lv : List (Nat × Value)), decode cX6_isEnd pc = .ok (.ireturn, 1) → narrow .boolean (.int r0) = .int r0 → St l G A Γ 0 0 ws pc lv [.int r0]) : St l G A Γ 0 0 ws 0 [(0, .int x0)] [] := by
  unfold f_X6_isEnd at hf
  refine s_iload_n C 0 dX6_isEnd_0 rfl ?_
  refine s_if_eq C 9 dX6_isEnd_1 (by decide) (fun c1 => ?_) (fun c1 => ?_)
  · rw [if_pos c1] at hf
    refine s_iconst (v := 1) C dX6_isEnd_9 (by decide) ?_
    refine s_goto C 14 dX6_isEnd_10 (by decide) ?_
    exact rN_I hf rfl hret dX6_isEnd_14
  · rw [if_neg c1] at hf
    refine s_iload_n C 0 dX6_isEnd_4 rfl ?_
    refine s_iconst (v := 1) C dX6_isEnd_5 (by decide) ?_
    refine s_icmp_ne C 13 dX6_isEnd_6 (by decide) (fun c2 => ?_) (fun c2 => ?_)
    · rw [if_neg c2] at hf
      refine s_iconst (v := 0) C dX6_isEnd_13 (by decide) ?_
      exact rN_I hf rfl hret dX6_isEnd_14
    · rw [if_pos c2] at hf
      refine s_iconst (v := 1) C dX6_isEnd_9 (by decide) ?_
      refine s_goto C 14 dX6_isEnd_10 (by decide) ?_
      exact rN_I hf rfl hret dX6_isEnd_14
theorem c_X6_isEnd (l : Launch) (G : GG) (A : Nat → Prop) (ws : va_W) (x0 : Int32) (r0 : Int32)  (hf : f_X6_isEnd x0 = some (r0)) : MI l yX6_isEnd cX6_isEnd 1 .boolean ({ frames := 0, cells := 0, slots := 0, locals := 0 } : Room) G A ws [.int x0] r0 ws :=
  e_I (by decide) (Nat.le_of_ble_eq_true rfl) (fun Γ C hret => k_X6_isEnd C _ _ _ hf hret)
def f_X6_begins (x1 : Int32) (st : Nat → Int32) (wt : Int32) (sm : Int64) (ld : Int32) (ln : Int32) : Option ((Nat → Int32) × Int32 × Int64 × Int32 × Int32) :=
  if x1 = 0 then (some (st, wt, 65535, ld, ln))
  else (some (st, wt, 4294967295, ld, ln))
set_option maxHeartbeats 4000000 in
set_option maxRecDepth 100000 in
theorem k_X6_begins {l : Launch} {G : GG} {A : Nat → Prop} {Γ : Cx} (C : CX G A Γ cX6_begins RX6 ({ frames := 0, cells := 0, slots := 0, locals := 0 } : Room) 2) (h : Nat) (a1 : Nat) (a2 : Nat) (a3 : Nat) (X : va_W) (x1 : Int32) (st : Nat → Int32) (wt : Int32) (sm : Int64) (ld : Int32) (ln : Int32) (st0 : Nat → Int32) (wt0 : Int32) (sm0 : Int64) (ld0 : Int32) (ln0 : Int32) (hf : f_X6_begins x1 st wt sm ld ln = some (st0, wt0, sm0, ld0, ln0)) (hret : ∀ (pc : Nat) (lv : List (Nat × Value)), decode cX6_begins pc = .ok (.return_, 1) → St l G A Γ 0 0 (wM G h a1 a2 a3 X st0 wt0 sm0 ld0 ln0) pc lv []) : St l G A Γ 0 0 (wM G h a1 a2 a3 X st wt sm ld ln) 0 [(0, .ref h), (1, .int x1)] [] := by
  unfold f_X6_begins at hf
  refine s_aload_n C 0 dX6_begins_0 rfl ?_
  refine s_iload_n C 1 dX6_begins_1 rfl ?_
  refine s_if_eq C 11 dX6_begins_2 (by decide) (fun c1 => ?_) (fun c1 => ?_)
  · rw [if_pos c1] at hf
    refine s_ldc2 C tw_564 dX6_begins_11 ?_
    refine pf_512 C 0 rfl rfl rfl (Nat.le_of_ble_eq_true rfl) (wM G h a1 a2 a3 X st wt 65535 ld ln) rfl dX6_begins_14 ?_
    exact rM_V hf hret dX6_begins_17
  · rw [if_neg c1] at hf
    refine s_ldc2 C tw_563 dX6_begins_5 ?_
    refine s_goto C 14 dX6_begins_8 (by decide) ?_
    refine pf_512 C 0 rfl rfl rfl (Nat.le_of_ble_eq_true rfl) (wM G h a1 a2 a3 X st wt 4294967295 ld ln) rfl dX6_begins_14 ?_
    exact rM_V hf hret dX6_begins_17
theorem c_X6_begins (l : Launch) (G : GG) (A : Nat → Prop) (h : Nat) (a1 : Nat) (a2 : Nat) (a3 : Nat) (X : va_W) (x1 : Int32) (st : Nat → Int32) (wt : Int32) (sm : Int64) (ld : Int32) (ln : Int32) (st0 : Nat → Int32) (wt0 : Int32) (sm0 : Int64) (ld0 : Int32) (ln0 : Int32) (hf : f_X6_begins x1 st wt sm ld ln = some (st0, wt0, sm0, ld0, ln0)) : MV l yX6_begins cX6_begins 2 ({ frames := 0, cells := 0, slots := 0, locals := 0 } : Room) G A (wM G h a1 a2 a3 X st wt sm ld ln) [.ref h, .int x1] (wM G h a1 a2 a3 X st0 wt0 sm0 ld0 ln0) :=
  e_V (by decide) (Nat.le_of_ble_eq_true rfl) (fun Γ C hret => k_X6_begins C _ _ _ _ _ _ _ _ _ _ _ _ _ _ _ _ hf hret)
def f_X6_adds_64 (rec17 : Int32 → Int32 → (Nat → Int32) → Int32 → Int64 → Int32 → Int32 → Option ((Nat → Int32) × Int32 × Int64 × Int32 × Int32)) (x2 : Int32) (x3 : Int32) (s0 : Int64) (st : Nat → Int32) (wt : Int32) (sm : Int64) (ld : Int32) (ln : Int32) : Option ((Nat → Int32) × Int32 × Int64 × Int32 × Int32) :=
  bd (x3 + 1) fun y5 =>
  rec17 x2 y5 st wt s0 ld ln
def f_X6_adds_63 (rec17 : Int32 → Int32 → (Nat → Int32) → Int32 → Int64 → Int32 → Int32 → Option ((Nat → Int32) × Int32 × Int64 × Int32 × Int32)) (x2 : Int32) (x3 : Int32) (s0 : Int64) (s1 : Int64) (st : Nat → Int32) (wt : Int32) (sm : Int64) (ld : Int32) (ln : Int32) : Option ((Nat → Int32) × Int32 × Int64 × Int32 × Int32) :=
  f_X6_adds_64 rec17 x2 x3 ((s1 ^^^ s0)) st wt sm ld ln
def f_X6_adds_17  : Nat → Int32 → Int32 → (Nat → Int32) → Int32 → Int64 → Int32 → Int32 → Option ((Nat → Int32) × Int32 × Int64 × Int32 × Int32)
  | 0, _, _, _, _, _, _, _ => none
  | fu + 1, x2, x3, st, wt, sm, ld, ln =>
    if 8 ≤ x3 then (some (st, wt, sm, ld, ln))
    else (if (lg_cmp (sm &&& 1) 0) = 0 then (f_X6_adds_64 (f_X6_adds_17 fu) x2 x3 (((sm >>> ((1 : Int32).toInt64 &&& 63)))) st wt sm ld ln)
    else (if x2 = 0 then (f_X6_adds_63 (f_X6_adds_17 fu) x2 x3 53256 (((sm >>> ((1 : Int32).toInt64 &&& 63)))) st wt sm ld ln)
    else (f_X6_adds_63 (f_X6_adds_17 fu) x2 x3 3988292384 (((sm >>> ((1 : Int32).toInt64 &&& 63)))) st wt sm ld ln)))
def f_X6_adds (x1 : Int32) (x2 : Int32) (st : Nat → Int32) (wt : Int32) (sm : Int64) (ld : Int32) (ln : Int32) : Option ((Nat → Int32) × Int32 × Int64 × Int32 × Int32) :=
  bd ((sm ^^^ (((x1 &&& 255) : Int32).toInt64))) fun y1 =>
  f_X6_adds_17 FU x2 0 st wt y1 ld ln
set_option maxHeartbeats 4000000 in
set_option maxRecDepth 100000 in
theorem k_X6_adds {l : Launch} {G : GG} {A : Nat → Prop} {Γ : Cx} (C : CX G A Γ cX6_adds RX6 ({ frames := 0, cells := 0, slots := 0, locals := 0 } : Room) 4) (h : Nat) (a1 : Nat) (a2 : Nat) (a3 : Nat) (X : va_W) (x1 : Int32) (x2 : Int32) (st : Nat → Int32) (wt : Int32) (sm : Int64) (ld : Int32) (ln : Int32) (st0 : Nat → Int32) (wt0 : Int32) (sm0 : Int64) (ld0 : Int32) (ln0 : Int32) (hf : f_X6_adds x1 x2 st wt sm ld ln = some (st0, wt0, sm0, ld0, ln0)) (hret : ∀ (pc : Nat) (lv : List (Nat × Value)), decode cX6_adds pc = .ok (.return_, 1) → St l G A Γ 0 0 (wM G h a1 a2 a3 X st0 wt0 sm0 ld0 ln0) pc lv []) : St l G A Γ 0 0 (wM G h a1 a2 a3 X st wt sm ld ln) 0 [(0, .ref h), (1, .int x1), (2, .int x2)] [] := by
  have B_64 : ∀ (rec17 : Int32 → Int32 → (Nat → Int32) → Int32 → Int64 → Int32 → Int32 → Option ((Nat → Int32) × Int32 × Int64 × Int32 × Int32)) (x2 : Int32) (x3 : Int32) (s0 : Int64) (st : Nat → Int32) (wt : Int32) (sm : Int64) (ld : Int32) (ln : Int32), f_X6_adds_64 rec17 x2 x3 s0 st wt sm ld ln = some (st0, wt0, sm0, ld0, ln0) → (∀ (x2 : Int32) (x3 : Int32) (st : Nat → Int32) (wt : Int32) (sm : Int64) (ld : Int32) (ln : Int32), rec17 x2 x3 st wt sm ld ln = some (st0, wt0, sm0, ld0, ln0) → St l G A Γ 0 0 (wM G h a1 a2 a3 X st wt sm ld ln) 17 [(0, .ref h), (2, .int x2), (3, .int x3)] []) → St l G A Γ 0 0 (wM G h a1 a2 a3 X st wt sm ld ln) 64 [(0, .ref h), (2, .int x2), (3, .int x3)] [.long s0, .ref h] := by
    intro rec17 x2 x3 s0 st wt sm ld ln hf hrec17
    unfold f_X6_adds_64 at hf
    refine pf_512 C 0 rfl rfl rfl (Nat.le_of_ble_eq_true rfl) (wM G h a1 a2 a3 X st wt s0 ld ln) rfl dX6_adds_64 ?_
    obtain ⟨y5, ey5, hf⟩ := bd_inv hf
    refine s_iinc (v := y5) C 2 [(3, .int y5), (0, .ref h), (2, .int x2)] dX6_adds_67 rfl (by rw [ey5]; rfl) (by decide) rfl ?_
    refine s_goto C 17 dX6_adds_70 (by decide) ?_
    refine s_lv [1, 2, 0] rfl ?_
    exact hrec17 _ _ _ _ _ _ _ hf
  have B_63 : ∀ (rec17 : Int32 → Int32 → (Nat → Int32) → Int32 → Int64 → Int32 → Int32 → Option ((Nat → Int32) × Int32 × Int64 × Int32 × Int32)) (x2 : Int32) (x3 : Int32) (s0 : Int64) (s1 : Int64) (st : Nat → Int32) (wt : Int32) (sm : Int64) (ld : Int32) (ln : Int32), f_X6_adds_63 rec17 x2 x3 s0 s1 st wt sm ld ln = some (st0, wt0, sm0, ld0, ln0) → (∀ (x2 : Int32) (x3 : Int32) (st : Nat → Int32) (wt : Int32) (sm : Int64) (ld : Int32) (ln : Int32), rec17 x2 x3 st wt sm ld ln = some (st0, wt0, sm0, ld0, ln0) → St l G A Γ 0 0 (wM G h a1 a2 a3 X st wt sm ld ln) 17 [(0, .ref h), (2, .int x2), (3, .int x3)] []) → St l G A Γ 0 0 (wM G h a1 a2 a3 X st wt sm ld ln) 63 [(0, .ref h), (2, .int x2), (3, .int x3)] [.long s0, .long s1, .ref h] := by
    intro rec17 x2 x3 s0 s1 st wt sm ld ln hf hrec17
    unfold f_X6_adds_63 at hf
    refine s_lxor C dX6_adds_63 ?_
    exact B_64 _ _ _ _ _ _ _ _ _ hf hrec17
  have B_17 : ∀  (fu : Nat) (x2 : Int32) (x3 : Int32) (st : Nat → Int32) (wt : Int32) (sm : Int64) (ld : Int32) (ln : Int32), f_X6_adds_17 fu x2 x3 st wt sm ld ln = some (st0, wt0, sm0, ld0, ln0) → St l G A Γ 0 0 (wM G h a1 a2 a3 X st wt sm ld ln) 17 [(0, .ref h), (2, .int x2), (3, .int x3)] [] := by
    intro fu
    induction fu with
    | zero => intro x2 x3 st wt sm ld ln hf ; rw [f_X6_adds_17] at hf; cases hf
    | succ fu ih =>
      intro x2 x3 st wt sm ld ln hf 
      rw [f_X6_adds_17] at hf
      refine s_iload_n C 2 dX6_adds_17 rfl ?_
      refine s_bipush (v := 8) C dX6_adds_18 (by decide) ?_
      refine s_icmp_ge C 73 dX6_adds_20 (by decide) (fun c2 => ?_) (fun c2 => ?_)
      · rw [if_pos c2] at hf
        exact rM_V hf hret dX6_adds_73
      · rw [if_neg c2] at hf
        refine s_aload_n C 0 dX6_adds_23 rfl ?_
        refine s_aload_n C 0 dX6_adds_24 rfl ?_
        refine gf_512 C 0 rfl rfl dX6_adds_25 ?_
        refine s_lconst (v := 1) C dX6_adds_28 (by decide) ?_
        refine s_land C dX6_adds_29 ?_
        refine s_lconst (v := 0) C dX6_adds_30 (by decide) ?_
        refine s_lcmp C dX6_adds_31 ?_
        refine s_if_ne C 44 dX6_adds_32 (by decide) (fun c3 => ?_) (fun c3 => ?_)
        · rw [if_neg c3] at hf
          refine s_aload_n C 0 dX6_adds_44 rfl ?_
          refine gf_512 C 0 rfl rfl dX6_adds_45 ?_
          refine s_iconst (v := 1) C dX6_adds_48 (by decide) ?_
          refine s_lshr C dX6_adds_49 ?_
          refine s_iload_n C 1 dX6_adds_50 rfl ?_
          refine s_if_eq C 60 dX6_adds_51 (by decide) (fun c4 => ?_) (fun c4 => ?_)
          · rw [if_pos c4] at hf
            refine s_ldc2 C tw_570 dX6_adds_60 ?_
            exact B_63 _ _ _ _ _ _ _ _ _ _ hf ih
          · rw [if_neg c4] at hf
            refine s_ldc2 C tw_569 dX6_adds_54 ?_
            refine s_goto C 63 dX6_adds_57 (by decide) ?_
            exact B_63 _ _ _ _ _ _ _ _ _ _ hf ih
        · rw [if_pos c3] at hf
          refine s_aload_n C 0 dX6_adds_35 rfl ?_
          refine gf_512 C 0 rfl rfl dX6_adds_36 ?_
          refine s_iconst (v := 1) C dX6_adds_39 (by decide) ?_
          refine s_lshr C dX6_adds_40 ?_
          refine s_goto C 64 dX6_adds_41 (by decide) ?_
          exact B_64 _ _ _ _ _ _ _ _ _ hf ih
  unfold f_X6_adds at hf
  refine s_aload_n C 0 dX6_adds_0 rfl ?_
  refine s_aload_n C 0 dX6_adds_1 rfl ?_
  refine gf_512 C 0 rfl rfl dX6_adds_2 ?_
  refine s_iload_n C 1 dX6_adds_5 rfl ?_
  refine s_sipush (v := 255) C dX6_adds_6 (by decide) ?_
  refine s_iand C dX6_adds_9 ?_
  refine s_i2l C dX6_adds_10 ?_
  refine s_lxor C dX6_adds_11 ?_
  obtain ⟨y1, ey1, hf⟩ := bd_inv hf
  refine s_nml ey1 ?_
  refine pf_512 C 0 rfl rfl rfl (Nat.le_of_ble_eq_true rfl) (wM G h a1 a2 a3 X st wt y1 ld ln) rfl dX6_adds_12 ?_
  refine s_iconst (v := 0) C dX6_adds_15 (by decide) ?_
  refine s_istore_n C [(3, .int 0), (0, .ref h), (1, .int x1), (2, .int x2)] dX6_adds_16 (by decide) rfl ?_
  refine s_lv [1, 3, 0] rfl ?_
  exact B_17 _ _ _ _ _ _ _ _ hf
theorem c_X6_adds (l : Launch) (G : GG) (A : Nat → Prop) (h : Nat) (a1 : Nat) (a2 : Nat) (a3 : Nat) (X : va_W) (x1 : Int32) (x2 : Int32) (st : Nat → Int32) (wt : Int32) (sm : Int64) (ld : Int32) (ln : Int32) (st0 : Nat → Int32) (wt0 : Int32) (sm0 : Int64) (ld0 : Int32) (ln0 : Int32) (hf : f_X6_adds x1 x2 st wt sm ld ln = some (st0, wt0, sm0, ld0, ln0)) : MV l yX6_adds cX6_adds 4 ({ frames := 0, cells := 0, slots := 0, locals := 0 } : Room) G A (wM G h a1 a2 a3 X st wt sm ld ln) [.ref h, .int x1, .int x2] (wM G h a1 a2 a3 X st0 wt0 sm0 ld0 ln0) :=
  e_V (by decide) (Nat.le_of_ble_eq_true rfl) (fun Γ C hret => k_X6_adds C _ _ _ _ _ _ _ _ _ _ _ _ _ _ _ _ _ hf hret)
def f_X6_sumOf (x1 : Int32) (st : Nat → Int32) (wt : Int32) (sm : Int64) (ld : Int32) (ln : Int32) : Option (Int64 × (Nat → Int32) × Int32 × Int64 × Int32 × Int32) :=
  if x1 = 0 then (some ((sm ^^^ 65535), st, wt, sm, ld, ln))
  else (some ((sm ^^^ 4294967295), st, wt, sm, ld, ln))
set_option maxHeartbeats 4000000 in
set_option maxRecDepth 100000 in
theorem k_X6_sumOf {l : Launch} {G : GG} {A : Nat → Prop} {Γ : Cx} (C : CX G A Γ cX6_sumOf RX6 ({ frames := 0, cells := 0, slots := 0, locals := 0 } : Room) 2) (h : Nat) (a1 : Nat) (a2 : Nat) (a3 : Nat) (X : va_W) (x1 : Int32) (st : Nat → Int32) (wt : Int32) (sm : Int64) (ld : Int32) (ln : Int32) (r0 : Int64) (st0 : Nat → Int32) (wt0 : Int32) (sm0 : Int64) (ld0 : Int32) (ln0 : Int32) (hf : f_X6_sumOf x1 st wt sm ld ln = some (r0, st0, wt0, sm0, ld0, ln0)) (hret : ∀ (pc : Nat) (lv : List (Nat × Value)), decode cX6_sumOf pc = .ok (.lreturn, 1) → St l G A Γ 0 0 (wM G h a1 a2 a3 X st0 wt0 sm0 ld0 ln0) pc lv [.long r0]) : St l G A Γ 0 0 (wM G h a1 a2 a3 X st wt sm ld ln) 0 [(0, .ref h), (1, .int x1)] [] := by
  unfold f_X6_sumOf at hf
  refine s_aload_n C 0 dX6_sumOf_0 rfl ?_
  refine gf_512 C 0 rfl rfl dX6_sumOf_1 ?_
  refine s_iload_n C 1 dX6_sumOf_4 rfl ?_
  refine s_if_eq C 14 dX6_sumOf_5 (by decide) (fun c1 => ?_) (fun c1 => ?_)
  · rw [if_pos c1] at hf
    refine s_ldc2 C tw_564 dX6_sumOf_14 ?_
    refine s_lxor C dX6_sumOf_17 ?_
    exact rM_L hf hret dX6_sumOf_18
  · rw [if_neg c1] at hf
    refine s_ldc2 C tw_563 dX6_sumOf_8 ?_
    refine s_goto C 17 dX6_sumOf_11 (by decide) ?_
    refine s_lxor C dX6_sumOf_17 ?_
    exact rM_L hf hret dX6_sumOf_18
theorem c_X6_sumOf (l : Launch) (G : GG) (A : Nat → Prop) (h : Nat) (a1 : Nat) (a2 : Nat) (a3 : Nat) (X : va_W) (x1 : Int32) (st : Nat → Int32) (wt : Int32) (sm : Int64) (ld : Int32) (ln : Int32) (r0 : Int64) (st0 : Nat → Int32) (wt0 : Int32) (sm0 : Int64) (ld0 : Int32) (ln0 : Int32) (hf : f_X6_sumOf x1 st wt sm ld ln = some (r0, st0, wt0, sm0, ld0, ln0)) : ML l yX6_sumOf cX6_sumOf 2 ({ frames := 0, cells := 0, slots := 0, locals := 0 } : Room) G A (wM G h a1 a2 a3 X st wt sm ld ln) [.ref h, .int x1] r0 (wM G h a1 a2 a3 X st0 wt0 sm0 ld0 ln0) :=
  e_L (by decide) (Nat.le_of_ble_eq_true rfl) (fun Γ C hret => k_X6_sumOf C _ _ _ _ _ _ _ _ _ _ _ _ _ _ _ _ _ hf hret)
def f_X6_draft_50  : Nat → Int32 → Int64 → Int32 → Int32 → (Nat → Int32) → Int32 → Int64 → Int32 → Int32 → Option (Int32 × (Nat → Int32) × Int32 × Int64 × Int32 × Int32)
  | 0, _, _, _, _, _, _, _, _, _ => none
  | fu + 1, x2, x3, x5, x6, st, wt, sm, ld, ln =>
    if x2 ≤ x6 then (rd st 8000 (x5 + 13) fun v9 =>
    some (v9, st, wt, sm, ld, ln))
    else (rd st 8000 (x5 + 13) fun v10 =>
    bd ((((((x3 >>> (((8 * x6) : Int32).toInt64 &&& 63))) &&& 255) : Int64).toInt32)) fun y11 =>
    wr st 8000 ((x5 + 20) + v10) y11 fun st12 =>
    bd ((x5 + 13)) fun y13 =>
    rd st12 8000 y13 fun v14 =>
    bd ((v14 + 1)) fun y15 =>
    wr st12 8000 y13 y15 fun st16 =>
    bd (x6 + 1) fun y17 =>
    f_X6_draft_50 fu x2 x3 x5 y17 st16 wt sm ld ln)
def f_X6_draft (x1 : Int32) (x2 : Int32) (x3 : Int64) (st : Nat → Int32) (wt : Int32) (sm : Int64) (ld : Int32) (ln : Int32) : Option (Int32 × (Nat → Int32) × Int32 × Int64 × Int32 × Int32) :=
  bx (f_X6_isEnd x1) fun r1 =>
  if r1 = 0 then (some ((-1), st, wt, sm, ld, ln))
  else (bx (f_X6_in ((x2 : Int32).toInt64) 1 8) fun r3 =>
  if r3 = 0 then (some ((-1), st, wt, sm, ld, ln))
  else (bx (f_X6_endAt x1) fun r5 =>
  rd st 8000 (r5 + 13) fun v6 =>
  if (v6 + x2) ≤ 24 then (f_X6_draft_50 FU x2 x3 r5 0 st wt sm ld ln)
  else (some ((-3), st, wt, sm, ld, ln))))
set_option maxHeartbeats 4000000 in
set_option maxRecDepth 100000 in
theorem k_X6_draft {l : Launch} {G : GG} {A : Nat → Prop} {Γ : Cx} (C : CX G A Γ cX6_draft RX6 ({ frames := 1, cells := 0, slots := 0, locals := 25 } : Room) 7) (h : Nat) (a1 : Nat) (a2 : Nat) (a3 : Nat) (X : va_W) (x1 : Int32) (x2 : Int32) (x3 : Int64) (st : Nat → Int32) (wt : Int32) (sm : Int64) (ld : Int32) (ln : Int32) (r0 : Int32) (st0 : Nat → Int32) (wt0 : Int32) (sm0 : Int64) (ld0 : Int32) (ln0 : Int32) (hf : f_X6_draft x1 x2 x3 st wt sm ld ln = some (r0, st0, wt0, sm0, ld0, ln0)) (hret : ∀ (pc : Nat) (lv : List (Nat × Value)), decode cX6_draft pc = .ok (.ireturn, 1) → narrow .int (.int r0) = .int r0 → St l G A Γ 0 0 (wM G h a1 a2 a3 X st0 wt0 sm0 ld0 ln0) pc lv [.int r0]) : St l G A Γ 0 0 (wM G h a1 a2 a3 X st wt sm ld ln) 0 [(0, .ref h), (1, .int x1), (2, .int x2), (3, .long x3)] [] := by
  have B_50 : ∀  (fu : Nat) (x2 : Int32) (x3 : Int64) (x5 : Int32) (x6 : Int32) (st : Nat → Int32) (wt : Int32) (sm : Int64) (ld : Int32) (ln : Int32), f_X6_draft_50 fu x2 x3 x5 x6 st wt sm ld ln = some (r0, st0, wt0, sm0, ld0, ln0) → St l G A Γ 0 0 (wM G h a1 a2 a3 X st wt sm ld ln) 50 [(0, .ref h), (2, .int x2), (3, .long x3), (5, .int x5), (6, .int x6)] [] := by
    intro fu
    induction fu with
    | zero => intro x2 x3 x5 x6 st wt sm ld ln hf ; rw [f_X6_draft_50] at hf; cases hf
    | succ fu ih =>
      intro x2 x3 x5 x6 st wt sm ld ln hf 
      rw [f_X6_draft_50] at hf
      refine s_iload C 4 dX6_draft_50 rfl ?_
      refine s_iload_n C 1 dX6_draft_52 rfl ?_
      refine s_icmp_ge C 109 dX6_draft_53 (by decide) (fun c8 => ?_) (fun c8 => ?_)
      · rw [if_pos c8] at hf
        refine s_aload_n C 0 dX6_draft_109 rfl ?_
        refine gf_508 C 0 rfl rfl dX6_draft_110 ?_
        refine s_iload C 3 dX6_draft_113 rfl ?_
        refine s_bipush (v := 13) C dX6_draft_115 (by decide) ?_
        refine s_iadd C dX6_draft_117 ?_
        obtain ⟨v9, hiv9, ev9, hf⟩ := rd_inv hf
        refine s_iald C 1 rfl hiv9 dX6_draft_118 ?_
        refine s_nmi ev9 ?_
        exact rM_I hf (vp_nar_int _) hret dX6_draft_119
      · rw [if_neg c8] at hf
        refine s_aload_n C 0 dX6_draft_56 rfl ?_
        refine gf_508 C 0 rfl rfl dX6_draft_57 ?_
        refine s_iload C 3 dX6_draft_60 rfl ?_
        refine s_bipush (v := 20) C dX6_draft_62 (by decide) ?_
        refine s_iadd C dX6_draft_64 ?_
        refine s_aload_n C 0 dX6_draft_65 rfl ?_
        refine gf_508 C 0 rfl rfl dX6_draft_66 ?_
        refine s_iload C 3 dX6_draft_69 rfl ?_
        refine s_bipush (v := 13) C dX6_draft_71 (by decide) ?_
        refine s_iadd C dX6_draft_73 ?_
        obtain ⟨v10, hiv10, ev10, hf⟩ := rd_inv hf
        refine s_iald C 1 rfl hiv10 dX6_draft_74 ?_
        refine s_nmi ev10 ?_
        refine s_iadd C dX6_draft_75 ?_
        refine s_lload_n C 2 dX6_draft_76 rfl ?_
        refine s_bipush (v := 8) C dX6_draft_77 (by decide) ?_
        refine s_iload C 4 dX6_draft_79 rfl ?_
        refine s_imul C dX6_draft_81 ?_
        refine s_lshr C dX6_draft_82 ?_
        refine s_ldc2 C tw_542 dX6_draft_83 ?_
        refine s_land C dX6_draft_86 ?_
        refine s_l2i C dX6_draft_87 ?_
        obtain ⟨y11, ey11, hf⟩ := bd_inv hf
        refine s_nmi ey11 ?_
        obtain ⟨st12, hist12, est12, hf⟩ := wr_inv hf
        refine s_iast C 1 rfl hist12 (wM G h a1 a2 a3 X st12 wt sm ld ln) (by rw [est12]; rfl) dX6_draft_88 ?_
        refine s_aload_n C 0 dX6_draft_89 rfl ?_
        refine gf_508 C 0 rfl rfl dX6_draft_90 ?_
        refine s_iload C 3 dX6_draft_93 rfl ?_
        refine s_bipush (v := 13) C dX6_draft_95 (by decide) ?_
        refine s_iadd C dX6_draft_97 ?_
        obtain ⟨y13, ey13, hf⟩ := bd_inv hf
        refine s_nmi ey13 ?_
        refine s_dup2 C dX6_draft_98 rfl rfl ?_
        obtain ⟨v14, hiv14, ev14, hf⟩ := rd_inv hf
        refine s_iald C 1 rfl hiv14 dX6_draft_99 ?_
        refine s_nmi ev14 ?_
        refine s_iconst (v := 1) C dX6_draft_100 (by decide) ?_
        refine s_iadd C dX6_draft_101 ?_
        obtain ⟨y15, ey15, hf⟩ := bd_inv hf
        refine s_nmi ey15 ?_
        obtain ⟨st16, hist16, est16, hf⟩ := wr_inv hf
        refine s_iast C 1 rfl hist16 (wM G h a1 a2 a3 X st16 wt sm ld ln) (by rw [est16]; rfl) dX6_draft_102 ?_
        obtain ⟨y17, ey17, hf⟩ := bd_inv hf
        refine s_iinc (v := y17) C 4 [(6, .int y17), (0, .ref h), (2, .int x2), (3, .long x3), (5, .int x5)] dX6_draft_103 rfl (by rw [ey17]; rfl) (by decide) rfl ?_
        refine s_goto C 50 dX6_draft_106 (by decide) ?_
        refine s_lv [1, 2, 3, 4, 0] rfl ?_
        exact ih _ _ _ _ _ _ _ _ _ hf
  unfold f_X6_draft at hf
  refine s_iload_n C 1 dX6_draft_0 rfl ?_
  obtain ⟨r1, er1, hf⟩ := bx_inv hf
  refine s_cS_I (As := [.int x1]) (rest := []) C (c_X6_isEnd l G A _ x1 _ er1) g_RX6_39 hd_X6_isEnd rfl ⟨Nat.le_of_ble_eq_true rfl, Nat.le_of_ble_eq_true rfl⟩ rfl (Nat.le_of_ble_eq_true rfl) ⟨Nat.le_of_ble_eq_true rfl, Nat.le_of_ble_eq_true rfl⟩ dX6_draft_1 ?_
  refine s_if_eq C 19 dX6_draft_4 (by decide) (fun c2 => ?_) (fun c2 => ?_)
  · rw [if_pos c2] at hf
    refine s_iconst (v := (-1)) C dX6_draft_19 (by decide) ?_
    exact rM_I hf (vp_nar_int _) hret dX6_draft_20
  · rw [if_neg c2] at hf
    refine s_iload_n C 2 dX6_draft_7 rfl ?_
    refine s_i2l C dX6_draft_8 ?_
    refine s_lconst (v := 1) C dX6_draft_9 (by decide) ?_
    refine s_ldc2 C tw_538 dX6_draft_10 ?_
    obtain ⟨r3, er3, hf⟩ := bx_inv hf
    refine s_cS_I (As := [.long ((x2 : Int32).toInt64), .long 1, .long 8]) (rest := []) C (c_X6_in l G A _ ((x2 : Int32).toInt64) 1 8 _ er3) g_RX6_45 hd_X6_in rfl ⟨Nat.le_of_ble_eq_true rfl, Nat.le_of_ble_eq_true rfl⟩ rfl (Nat.le_of_ble_eq_true rfl) ⟨Nat.le_of_ble_eq_true rfl, Nat.le_of_ble_eq_true rfl⟩ dX6_draft_13 ?_
    refine s_if_ne C 21 dX6_draft_16 (by decide) (fun c4 => ?_) (fun c4 => ?_)
    · rw [if_neg c4] at hf
      refine s_iload_n C 1 dX6_draft_21 rfl ?_
      obtain ⟨r5, er5, hf⟩ := bx_inv hf
      refine s_cS_I (As := [.int x1]) (rest := []) C (c_X6_endAt l G A _ x1 _ er5) g_RX6_20 hd_X6_endAt rfl ⟨Nat.le_of_ble_eq_true rfl, Nat.le_of_ble_eq_true rfl⟩ rfl (Nat.le_of_ble_eq_true rfl) ⟨Nat.le_of_ble_eq_true rfl, Nat.le_of_ble_eq_true rfl⟩ dX6_draft_22 ?_
      refine s_istore C [(5, .int r5), (0, .ref h), (1, .int x1), (2, .int x2), (3, .long x3)] dX6_draft_25 (by decide) rfl ?_
      refine s_aload_n C 1 dX6_draft_27 rfl ?_
      refine gf_508 C 0 rfl rfl dX6_draft_28 ?_
      refine s_iload C 0 dX6_draft_31 rfl ?_
      refine s_bipush (v := 13) C dX6_draft_33 (by decide) ?_
      refine s_iadd C dX6_draft_35 ?_
      obtain ⟨v6, hiv6, ev6, hf⟩ := rd_inv hf
      refine s_iald C 1 rfl hiv6 dX6_draft_36 ?_
      refine s_nmi ev6 ?_
      refine s_iload_n C 3 dX6_draft_37 rfl ?_
      refine s_iadd C dX6_draft_38 ?_
      refine s_bipush (v := 24) C dX6_draft_39 (by decide) ?_
      refine s_icmp_le C 47 dX6_draft_41 (by decide) (fun c7 => ?_) (fun c7 => ?_)
      · rw [if_pos c7] at hf
        refine s_iconst (v := 0) C dX6_draft_47 (by decide) ?_
        refine s_istore C [(6, .int 0), (5, .int r5), (0, .ref h), (1, .int x1), (2, .int x2), (3, .long x3)] dX6_draft_48 (by decide) rfl ?_
        refine s_lv [2, 4, 5, 1, 0] rfl ?_
        exact B_50 _ _ _ _ _ _ _ _ _ _ hf
      · rw [if_neg c7] at hf
        refine s_bipush (v := (-3)) C dX6_draft_44 (by decide) ?_
        exact rM_I hf (vp_nar_int _) hret dX6_draft_46
    · rw [if_pos c4] at hf
      refine s_iconst (v := (-1)) C dX6_draft_19 (by decide) ?_
      exact rM_I hf (vp_nar_int _) hret dX6_draft_20
theorem c_X6_draft (l : Launch) (G : GG) (A : Nat → Prop) (h : Nat) (a1 : Nat) (a2 : Nat) (a3 : Nat) (X : va_W) (x1 : Int32) (x2 : Int32) (x3 : Int64) (st : Nat → Int32) (wt : Int32) (sm : Int64) (ld : Int32) (ln : Int32) (r0 : Int32) (st0 : Nat → Int32) (wt0 : Int32) (sm0 : Int64) (ld0 : Int32) (ln0 : Int32) (hf : f_X6_draft x1 x2 x3 st wt sm ld ln = some (r0, st0, wt0, sm0, ld0, ln0)) : MI l yX6_draft cX6_draft 7 .int ({ frames := 1, cells := 0, slots := 0, locals := 25 } : Room) G A (wM G h a1 a2 a3 X st wt sm ld ln) [.ref h, .int x1, .int x2, .long x3] r0 (wM G h a1 a2 a3 X st0 wt0 sm0 ld0 ln0) :=
  e_I (by decide) (Nat.le_of_ble_eq_true rfl) (fun Γ C hret => k_X6_draft C _ _ _ _ _ _ _ _ _ _ _ _ _ _ _ _ _ _ _ hf hret)
def f_X6_waiting (x1 : Int32) (st : Nat → Int32) (wt : Int32) (sm : Int64) (ld : Int32) (ln : Int32) : Option (Int32 × (Nat → Int32) × Int32 × Int64 × Int32 × Int32) :=
  bx (f_X6_endAt x1) fun r1 =>
  rd st 8000 (r1 + 0) fun v2 =>
  bx (f_X6_endAt x1) fun r3 =>
  rd st 8000 (r3 + 1) fun v4 =>
  some ((v2 - v4), st, wt, sm, ld, ln)
set_option maxHeartbeats 4000000 in
set_option maxRecDepth 100000 in
theorem k_X6_waiting {l : Launch} {G : GG} {A : Nat → Prop} {Γ : Cx} (C : CX G A Γ cX6_waiting RX6 ({ frames := 1, cells := 0, slots := 0, locals := 20 } : Room) 2) (h : Nat) (a1 : Nat) (a2 : Nat) (a3 : Nat) (X : va_W) (x1 : Int32) (st : Nat → Int32) (wt : Int32) (sm : Int64) (ld : Int32) (ln : Int32) (r0 : Int32) (st0 : Nat → Int32) (wt0 : Int32) (sm0 : Int64) (ld0 : Int32) (ln0 : Int32) (hf : f_X6_waiting x1 st wt sm ld ln = some (r0, st0, wt0, sm0, ld0, ln0)) (hret : ∀ (pc : Nat) (lv : List (Nat × Value)), decode cX6_waiting pc = .ok (.ireturn, 1) → narrow .int (.int r0) = .int r0 → St l G A Γ 0 0 (wM G h a1 a2 a3 X st0 wt0 sm0 ld0 ln0) pc lv [.int r0]) : St l G A Γ 0 0 (wM G h a1 a2 a3 X st wt sm ld ln) 0 [(0, .ref h), (1, .int x1)] [] := by
  unfold f_X6_waiting at hf
  refine s_aload_n C 0 dX6_waiting_0 rfl ?_
  refine gf_508 C 0 rfl rfl dX6_waiting_1 ?_
  refine s_iload_n C 1 dX6_waiting_4 rfl ?_
  obtain ⟨r1, er1, hf⟩ := bx_inv hf
  refine s_cS_I (As := [.int x1]) (rest := [.ref a1]) C (c_X6_endAt l G A _ x1 _ er1) g_RX6_20 hd_X6_endAt rfl ⟨Nat.le_of_ble_eq_true rfl, Nat.le_of_ble_eq_true rfl⟩ rfl (Nat.le_of_ble_eq_true rfl) ⟨Nat.le_of_ble_eq_true rfl, Nat.le_of_ble_eq_true rfl⟩ dX6_waiting_5 ?_
  refine s_iconst (v := 0) C dX6_waiting_8 (by decide) ?_
  refine s_iadd C dX6_waiting_9 ?_
  obtain ⟨v2, hiv2, ev2, hf⟩ := rd_inv hf
  refine s_iald C 1 rfl hiv2 dX6_waiting_10 ?_
  refine s_nmi ev2 ?_
  refine s_aload_n C 0 dX6_waiting_11 rfl ?_
  refine gf_508 C 0 rfl rfl dX6_waiting_12 ?_
  refine s_iload_n C 1 dX6_waiting_15 rfl ?_
  obtain ⟨r3, er3, hf⟩ := bx_inv hf
  refine s_cS_I (As := [.int x1]) (rest := [.ref a1, .int v2]) C (c_X6_endAt l G A _ x1 _ er3) g_RX6_20 hd_X6_endAt rfl ⟨Nat.le_of_ble_eq_true rfl, Nat.le_of_ble_eq_true rfl⟩ rfl (Nat.le_of_ble_eq_true rfl) ⟨Nat.le_of_ble_eq_true rfl, Nat.le_of_ble_eq_true rfl⟩ dX6_waiting_16 ?_
  refine s_iconst (v := 1) C dX6_waiting_19 (by decide) ?_
  refine s_iadd C dX6_waiting_20 ?_
  obtain ⟨v4, hiv4, ev4, hf⟩ := rd_inv hf
  refine s_iald C 1 rfl hiv4 dX6_waiting_21 ?_
  refine s_nmi ev4 ?_
  refine s_isub C dX6_waiting_22 ?_
  exact rM_I hf (vp_nar_int _) hret dX6_waiting_23
theorem c_X6_waiting (l : Launch) (G : GG) (A : Nat → Prop) (h : Nat) (a1 : Nat) (a2 : Nat) (a3 : Nat) (X : va_W) (x1 : Int32) (st : Nat → Int32) (wt : Int32) (sm : Int64) (ld : Int32) (ln : Int32) (r0 : Int32) (st0 : Nat → Int32) (wt0 : Int32) (sm0 : Int64) (ld0 : Int32) (ln0 : Int32) (hf : f_X6_waiting x1 st wt sm ld ln = some (r0, st0, wt0, sm0, ld0, ln0)) : MI l yX6_waiting cX6_waiting 2 .int ({ frames := 1, cells := 0, slots := 0, locals := 20 } : Room) G A (wM G h a1 a2 a3 X st wt sm ld ln) [.ref h, .int x1] r0 (wM G h a1 a2 a3 X st0 wt0 sm0 ld0 ln0) :=
  e_I (by decide) (Nat.le_of_ble_eq_true rfl) (fun Γ C hret => k_X6_waiting C _ _ _ _ _ _ _ _ _ _ _ _ _ _ _ _ _ hf hret)
def f_X6_offer_86  : Nat → Int32 → Int32 → Int32 → Int32 → (Nat → Int32) → Int32 → Int64 → Int32 → Int32 → Option (Int32 × (Nat → Int32) × Int32 × Int64 × Int32 × Int32)
  | 0, _, _, _, _, _, _, _, _, _ => none
  | fu + 1, x1, x2, x3, x4, st, wt, sm, ld, ln =>
    rd st 8000 x3 fun v19 =>
    if v19 ≤ x4 then (bd ((x2 + 0)) fun y21 =>
    rd st 8000 y21 fun v22 =>
    bd ((v22 + 1)) fun y23 =>
    wr st 8000 y21 y23 fun st24 =>
    wr st24 8000 (x2 + 13) 0 fun st25 =>
    bM (f_X6_waiting x1 st25 wt sm ld ln) fun r26 st27 wt28 sm29 ld30 ln31 =>
    some (r26, st27, wt28, sm29, ld30, ln31))
    else (rd st 8000 ((x2 + 20) + x4) fun v32 =>
    wr st 8000 ((x3 + 1) + x4) v32 fun st33 =>
    bd (x4 + 1) fun y34 =>
    f_X6_offer_86 fu x1 x2 x3 y34 st33 wt sm ld ln)
def f_X6_offer (x1 : Int32) (st : Nat → Int32) (wt : Int32) (sm : Int64) (ld : Int32) (ln : Int32) : Option (Int32 × (Nat → Int32) × Int32 × Int64 × Int32 × Int32) :=
  bx (f_X6_isEnd x1) fun r1 =>
  if r1 = 0 then (some ((-1), st, wt, sm, ld, ln))
  else (bx (f_X6_endAt x1) fun r3 =>
  rd st 8000 (r3 + 13) fun v4 =>
  if v4 = 0 then (some ((-2), st, wt, sm, ld, ln))
  else (bM (f_X6_waiting x1 st wt sm ld ln) fun r6 st7 wt8 sm9 ld10 ln11 =>
  if r6 = 16 then (some ((-3), st7, wt8, sm9, ld10, ln11))
  else (rd st7 8000 (r3 + 0) fun v13 =>
  if v13 = 60 then (some ((-3), st7, wt8, sm9, ld10, ln11))
  else (rd st7 8000 (r3 + 0) fun v15 =>
  bx (f_X6_packetAt x1 v15) fun r16 =>
  rd st7 8000 (r3 + 13) fun v17 =>
  wr st7 8000 r16 v17 fun st18 =>
  f_X6_offer_86 FU x1 r3 r16 0 st18 wt8 sm9 ld10 ln11))))
set_option maxHeartbeats 4000000 in
set_option maxRecDepth 100000 in
theorem k_X6_offer {l : Launch} {G : GG} {A : Nat → Prop} {Γ : Cx} (C : CX G A Γ cX6_offer RX6 ({ frames := 2, cells := 0, slots := 0, locals := 41 } : Room) 5) (h : Nat) (a1 : Nat) (a2 : Nat) (a3 : Nat) (X : va_W) (x1 : Int32) (st : Nat → Int32) (wt : Int32) (sm : Int64) (ld : Int32) (ln : Int32) (r0 : Int32) (st0 : Nat → Int32) (wt0 : Int32) (sm0 : Int64) (ld0 : Int32) (ln0 : Int32) (hf : f_X6_offer x1 st wt sm ld ln = some (r0, st0, wt0, sm0, ld0, ln0)) (hret : ∀ (pc : Nat) (lv : List (Nat × Value)), decode cX6_offer pc = .ok (.ireturn, 1) → narrow .int (.int r0) = .int r0 → St l G A Γ 0 0 (wM G h a1 a2 a3 X st0 wt0 sm0 ld0 ln0) pc lv [.int r0]) : St l G A Γ 0 0 (wM G h a1 a2 a3 X st wt sm ld ln) 0 [(0, .ref h), (1, .int x1)] [] := by
  have B_86 : ∀  (fu : Nat) (x1 : Int32) (x2 : Int32) (x3 : Int32) (x4 : Int32) (st : Nat → Int32) (wt : Int32) (sm : Int64) (ld : Int32) (ln : Int32), f_X6_offer_86 fu x1 x2 x3 x4 st wt sm ld ln = some (r0, st0, wt0, sm0, ld0, ln0) → St l G A Γ 0 0 (wM G h a1 a2 a3 X st wt sm ld ln) 86 [(0, .ref h), (1, .int x1), (2, .int x2), (3, .int x3), (4, .int x4)] [] := by
    intro fu
    induction fu with
    | zero => intro x1 x2 x3 x4 st wt sm ld ln hf ; rw [f_X6_offer_86] at hf; cases hf
    | succ fu ih =>
      intro x1 x2 x3 x4 st wt sm ld ln hf 
      rw [f_X6_offer_86] at hf
      refine s_iload C 4 dX6_offer_86 rfl ?_
      refine s_aload_n C 0 dX6_offer_88 rfl ?_
      refine gf_508 C 0 rfl rfl dX6_offer_89 ?_
      refine s_iload_n C 3 dX6_offer_92 rfl ?_
      obtain ⟨v19, hiv19, ev19, hf⟩ := rd_inv hf
      refine s_iald C 1 rfl hiv19 dX6_offer_93 ?_
      refine s_nmi ev19 ?_
      refine s_icmp_ge C 126 dX6_offer_94 (by decide) (fun c20 => ?_) (fun c20 => ?_)
      · rw [if_pos c20] at hf
        refine s_aload_n C 0 dX6_offer_126 rfl ?_
        refine gf_508 C 0 rfl rfl dX6_offer_127 ?_
        refine s_iload_n C 2 dX6_offer_130 rfl ?_
        refine s_iconst (v := 0) C dX6_offer_131 (by decide) ?_
        refine s_iadd C dX6_offer_132 ?_
        obtain ⟨y21, ey21, hf⟩ := bd_inv hf
        refine s_nmi ey21 ?_
        refine s_dup2 C dX6_offer_133 rfl rfl ?_
        obtain ⟨v22, hiv22, ev22, hf⟩ := rd_inv hf
        refine s_iald C 1 rfl hiv22 dX6_offer_134 ?_
        refine s_nmi ev22 ?_
        refine s_iconst (v := 1) C dX6_offer_135 (by decide) ?_
        refine s_iadd C dX6_offer_136 ?_
        obtain ⟨y23, ey23, hf⟩ := bd_inv hf
        refine s_nmi ey23 ?_
        obtain ⟨st24, hist24, est24, hf⟩ := wr_inv hf
        refine s_iast C 1 rfl hist24 (wM G h a1 a2 a3 X st24 wt sm ld ln) (by rw [est24]; rfl) dX6_offer_137 ?_
        refine s_aload_n C 0 dX6_offer_138 rfl ?_
        refine gf_508 C 0 rfl rfl dX6_offer_139 ?_
        refine s_iload_n C 2 dX6_offer_142 rfl ?_
        refine s_bipush (v := 13) C dX6_offer_143 (by decide) ?_
        refine s_iadd C dX6_offer_145 ?_
        refine s_iconst (v := 0) C dX6_offer_146 (by decide) ?_
        obtain ⟨st25, hist25, est25, hf⟩ := wr_inv hf
        refine s_iast C 1 rfl hist25 (wM G h a1 a2 a3 X st25 wt sm ld ln) (by rw [est25]; rfl) dX6_offer_147 ?_
        refine s_aload_n C 0 dX6_offer_148 rfl ?_
        refine s_iload_n C 1 dX6_offer_149 rfl ?_
        obtain ⟨r26, st27, wt28, sm29, ld30, ln31, er26, hf⟩ := bM_inv hf
        refine s_cV_I (As := [.int x1]) (rest := []) (ci := 6) (q := 0) C (c_X6_waiting l G A h a1 a2 a3 X x1 st25 wt sm ld ln _ _ _ _ _ _ er26) g_RX6_51 hd_X6_waiting rfl ⟨Nat.le_of_ble_eq_true rfl, Nat.le_of_ble_eq_true rfl⟩ rfl rfl rfl (Nat.le_of_ble_eq_true rfl) ⟨Nat.le_of_ble_eq_true rfl, Nat.le_of_ble_eq_true rfl⟩ dX6_offer_150 ?_
        exact rM_I hf (vp_nar_int _) hret dX6_offer_153
      · rw [if_neg c20] at hf
        refine s_aload_n C 0 dX6_offer_97 rfl ?_
        refine gf_508 C 0 rfl rfl dX6_offer_98 ?_
        refine s_iload_n C 3 dX6_offer_101 rfl ?_
        refine s_iconst (v := 1) C dX6_offer_102 (by decide) ?_
        refine s_iadd C dX6_offer_103 ?_
        refine s_iload C 4 dX6_offer_104 rfl ?_
        refine s_iadd C dX6_offer_106 ?_
        refine s_aload_n C 0 dX6_offer_107 rfl ?_
        refine gf_508 C 0 rfl rfl dX6_offer_108 ?_
        refine s_iload_n C 2 dX6_offer_111 rfl ?_
        refine s_bipush (v := 20) C dX6_offer_112 (by decide) ?_
        refine s_iadd C dX6_offer_114 ?_
        refine s_iload C 4 dX6_offer_115 rfl ?_
        refine s_iadd C dX6_offer_117 ?_
        obtain ⟨v32, hiv32, ev32, hf⟩ := rd_inv hf
        refine s_iald C 1 rfl hiv32 dX6_offer_118 ?_
        refine s_nmi ev32 ?_
        obtain ⟨st33, hist33, est33, hf⟩ := wr_inv hf
        refine s_iast C 1 rfl hist33 (wM G h a1 a2 a3 X st33 wt sm ld ln) (by rw [est33]; rfl) dX6_offer_119 ?_
        obtain ⟨y34, ey34, hf⟩ := bd_inv hf
        refine s_iinc (v := y34) C 4 [(4, .int y34), (0, .ref h), (1, .int x1), (2, .int x2), (3, .int x3)] dX6_offer_120 rfl (by rw [ey34]; rfl) (by decide) rfl ?_
        refine s_goto C 86 dX6_offer_123 (by decide) ?_
        refine s_lv [1, 2, 3, 4, 0] rfl ?_
        exact ih _ _ _ _ _ _ _ _ _ hf
  unfold f_X6_offer at hf
  refine s_iload_n C 1 dX6_offer_0 rfl ?_
  obtain ⟨r1, er1, hf⟩ := bx_inv hf
  refine s_cS_I (As := [.int x1]) (rest := []) C (c_X6_isEnd l G A _ x1 _ er1) g_RX6_39 hd_X6_isEnd rfl ⟨Nat.le_of_ble_eq_true rfl, Nat.le_of_ble_eq_true rfl⟩ rfl (Nat.le_of_ble_eq_true rfl) ⟨Nat.le_of_ble_eq_true rfl, Nat.le_of_ble_eq_true rfl⟩ dX6_offer_1 ?_
  refine s_if_ne C 9 dX6_offer_4 (by decide) (fun c2 => ?_) (fun c2 => ?_)
  · rw [if_neg c2] at hf
    refine s_iload_n C 1 dX6_offer_9 rfl ?_
    obtain ⟨r3, er3, hf⟩ := bx_inv hf
    refine s_cS_I (As := [.int x1]) (rest := []) C (c_X6_endAt l G A _ x1 _ er3) g_RX6_20 hd_X6_endAt rfl ⟨Nat.le_of_ble_eq_true rfl, Nat.le_of_ble_eq_true rfl⟩ rfl (Nat.le_of_ble_eq_true rfl) ⟨Nat.le_of_ble_eq_true rfl, Nat.le_of_ble_eq_true rfl⟩ dX6_offer_10 ?_
    refine s_istore_n C [(2, .int r3), (0, .ref h), (1, .int x1)] dX6_offer_13 (by decide) rfl ?_
    refine s_aload_n C 1 dX6_offer_14 rfl ?_
    refine gf_508 C 0 rfl rfl dX6_offer_15 ?_
    refine s_iload_n C 0 dX6_offer_18 rfl ?_
    refine s_bipush (v := 13) C dX6_offer_19 (by decide) ?_
    refine s_iadd C dX6_offer_21 ?_
    obtain ⟨v4, hiv4, ev4, hf⟩ := rd_inv hf
    refine s_iald C 1 rfl hiv4 dX6_offer_22 ?_
    refine s_nmi ev4 ?_
    refine s_if_ne C 29 dX6_offer_23 (by decide) (fun c5 => ?_) (fun c5 => ?_)
    · rw [if_neg c5] at hf
      refine s_aload_n C 1 dX6_offer_29 rfl ?_
      refine s_iload_n C 2 dX6_offer_30 rfl ?_
      obtain ⟨r6, st7, wt8, sm9, ld10, ln11, er6, hf⟩ := bM_inv hf
      refine s_cV_I (As := [.int x1]) (rest := []) (ci := 6) (q := 0) C (c_X6_waiting l G A h a1 a2 a3 X x1 st wt sm ld ln _ _ _ _ _ _ er6) g_RX6_51 hd_X6_waiting rfl ⟨Nat.le_of_ble_eq_true rfl, Nat.le_of_ble_eq_true rfl⟩ rfl rfl rfl (Nat.le_of_ble_eq_true rfl) ⟨Nat.le_of_ble_eq_true rfl, Nat.le_of_ble_eq_true rfl⟩ dX6_offer_31 ?_
      refine s_bipush (v := 16) C dX6_offer_34 (by decide) ?_
      refine s_icmp_eq C 52 dX6_offer_36 (by decide) (fun c12 => ?_) (fun c12 => ?_)
      · rw [if_pos c12] at hf
        refine s_bipush (v := (-3)) C dX6_offer_52 (by decide) ?_
        exact rM_I hf (vp_nar_int _) hret dX6_offer_54
      · rw [if_neg c12] at hf
        refine s_aload_n C 1 dX6_offer_39 rfl ?_
        refine gf_508 C 0 rfl rfl dX6_offer_40 ?_
        refine s_iload_n C 0 dX6_offer_43 rfl ?_
        refine s_iconst (v := 0) C dX6_offer_44 (by decide) ?_
        refine s_iadd C dX6_offer_45 ?_
        obtain ⟨v13, hiv13, ev13, hf⟩ := rd_inv hf
        refine s_iald C 1 rfl hiv13 dX6_offer_46 ?_
        refine s_nmi ev13 ?_
        refine s_bipush (v := 60) C dX6_offer_47 (by decide) ?_
        refine s_icmp_ne C 55 dX6_offer_49 (by decide) (fun c14 => ?_) (fun c14 => ?_)
        · rw [if_neg c14] at hf
          refine s_iload_n C 2 dX6_offer_55 rfl ?_
          refine s_aload_n C 1 dX6_offer_56 rfl ?_
          refine gf_508 C 0 rfl rfl dX6_offer_57 ?_
          refine s_iload_n C 0 dX6_offer_60 rfl ?_
          refine s_iconst (v := 0) C dX6_offer_61 (by decide) ?_
          refine s_iadd C dX6_offer_62 ?_
          obtain ⟨v15, hiv15, ev15, hf⟩ := rd_inv hf
          refine s_iald C 1 rfl hiv15 dX6_offer_63 ?_
          refine s_nmi ev15 ?_
          obtain ⟨r16, er16, hf⟩ := bx_inv hf
          refine s_cS_I (As := [.int x1, .int v15]) (rest := []) C (c_X6_packetAt l G A _ x1 v15 _ er16) g_RX6_54 hd_X6_packetAt rfl ⟨Nat.le_of_ble_eq_true rfl, Nat.le_of_ble_eq_true rfl⟩ rfl (Nat.le_of_ble_eq_true rfl) ⟨Nat.le_of_ble_eq_true rfl, Nat.le_of_ble_eq_true rfl⟩ dX6_offer_64 ?_
          refine s_istore_n C [(3, .int r16), (2, .int r3), (0, .ref h), (1, .int x1)] dX6_offer_67 (by decide) rfl ?_
          refine s_aload_n C 2 dX6_offer_68 rfl ?_
          refine gf_508 C 0 rfl rfl dX6_offer_69 ?_
          refine s_iload_n C 0 dX6_offer_72 rfl ?_
          refine s_aload_n C 2 dX6_offer_73 rfl ?_
          refine gf_508 C 0 rfl rfl dX6_offer_74 ?_
          refine s_iload_n C 1 dX6_offer_77 rfl ?_
          refine s_bipush (v := 13) C dX6_offer_78 (by decide) ?_
          refine s_iadd C dX6_offer_80 ?_
          obtain ⟨v17, hiv17, ev17, hf⟩ := rd_inv hf
          refine s_iald C 1 rfl hiv17 dX6_offer_81 ?_
          refine s_nmi ev17 ?_
          obtain ⟨st18, hist18, est18, hf⟩ := wr_inv hf
          refine s_iast C 1 rfl hist18 (wM G h a1 a2 a3 X st18 wt8 sm9 ld10 ln11) (by rw [est18]; rfl) dX6_offer_82 ?_
          refine s_iconst (v := 0) C dX6_offer_83 (by decide) ?_
          refine s_istore C [(4, .int 0), (3, .int r16), (2, .int r3), (0, .ref h), (1, .int x1)] dX6_offer_84 (by decide) rfl ?_
          refine s_lv [3, 4, 2, 1, 0] rfl ?_
          exact B_86 _ _ _ _ _ _ _ _ _ _ hf
        · rw [if_pos c14] at hf
          refine s_bipush (v := (-3)) C dX6_offer_52 (by decide) ?_
          exact rM_I hf (vp_nar_int _) hret dX6_offer_54
    · rw [if_pos c5] at hf
      refine s_bipush (v := (-2)) C dX6_offer_26 (by decide) ?_
      exact rM_I hf (vp_nar_int _) hret dX6_offer_28
  · rw [if_pos c2] at hf
    refine s_iconst (v := (-1)) C dX6_offer_7 (by decide) ?_
    exact rM_I hf (vp_nar_int _) hret dX6_offer_8
theorem c_X6_offer (l : Launch) (G : GG) (A : Nat → Prop) (h : Nat) (a1 : Nat) (a2 : Nat) (a3 : Nat) (X : va_W) (x1 : Int32) (st : Nat → Int32) (wt : Int32) (sm : Int64) (ld : Int32) (ln : Int32) (r0 : Int32) (st0 : Nat → Int32) (wt0 : Int32) (sm0 : Int64) (ld0 : Int32) (ln0 : Int32) (hf : f_X6_offer x1 st wt sm ld ln = some (r0, st0, wt0, sm0, ld0, ln0)) : MI l yX6_offer cX6_offer 5 .int ({ frames := 2, cells := 0, slots := 0, locals := 41 } : Room) G A (wM G h a1 a2 a3 X st wt sm ld ln) [.ref h, .int x1] r0 (wM G h a1 a2 a3 X st0 wt0 sm0 ld0 ln0) :=
  e_I (by decide) (Nat.le_of_ble_eq_true rfl) (fun Γ C hret => k_X6_offer C _ _ _ _ _ _ _ _ _ _ _ _ _ _ _ _ _ hf hret)
def f_X6_check_78 (rec42 : Int32 → Int32 → Int32 → (Nat → Int32) → Int32 → Int64 → Int32 → Int32 → Option (Int64 × (Nat → Int32) × Int32 × Int64 × Int32 × Int32)) (x2 : Int32) (x3 : Int32) (x4 : Int32) (s0 : Int32) (s1 : Int32) (st : Nat → Int32) (wt : Int32) (sm : Int64) (ld : Int32) (ln : Int32) : Option (Int64 × (Nat → Int32) × Int32 × Int64 × Int32 × Int32) :=
  bMv (f_X6_adds s1 s0 st wt sm ld ln) fun st31 wt32 sm33 ld34 ln35 =>
  bd (x4 + 1) fun y36 =>
  rec42 x2 x3 y36 st31 wt32 sm33 ld34 ln35
def f_X6_check_42  : Nat → Int32 → Int32 → Int32 → (Nat → Int32) → Int32 → Int64 → Int32 → Int32 → Option (Int64 × (Nat → Int32) × Int32 × Int64 × Int32 × Int32)
  | 0, _, _, _, _, _, _, _, _ => none
  | fu + 1, x2, x3, x4, st, wt, sm, ld, ln =>
    rd st 8000 (x3 + 13) fun v13 =>
    if v13 ≤ x4 then (if x2 = 0 then (bM (f_X6_sumOf 1 st wt sm ld ln) fun r22 st23 wt24 sm25 ld26 ln27 =>
    some (r22, st23, wt24, sm25, ld26, ln27))
    else (bM (f_X6_sumOf 0 st wt sm ld ln) fun r16 st17 wt18 sm19 ld20 ln21 =>
    some (r16, st17, wt18, sm19, ld20, ln21)))
    else (rd st 8000 ((x3 + 20) + x4) fun v28 =>
    if x2 = 0 then (f_X6_check_78 (f_X6_check_42 fu) x2 x3 x4 1 v28 st wt sm ld ln)
    else (f_X6_check_78 (f_X6_check_42 fu) x2 x3 x4 0 v28 st wt sm ld ln))
def f_X6_check_36  (x2 : Int32) (x3 : Int32) (s0 : Int32) (st : Nat → Int32) (wt : Int32) (sm : Int64) (ld : Int32) (ln : Int32) : Option (Int64 × (Nat → Int32) × Int32 × Int64 × Int32 × Int32) :=
  bMv (f_X6_begins s0 st wt sm ld ln) fun st8 wt9 sm10 ld11 ln12 =>
  f_X6_check_42 FU x2 x3 0 st8 wt9 sm10 ld11 ln12
def f_X6_check (x1 : Int32) (x2 : Int32) (st : Nat → Int32) (wt : Int32) (sm : Int64) (ld : Int32) (ln : Int32) : Option (Int64 × (Nat → Int32) × Int32 × Int64 × Int32 × Int32) :=
  bx (f_X6_isEnd x1) fun r1 =>
  if r1 = 0 then (some ((-1), st, wt, sm, ld, ln))
  else (bx (f_X6_in ((x2 : Int32).toInt64) 0 1) fun r3 =>
  if r3 = 0 then (some ((-1), st, wt, sm, ld, ln))
  else (bx (f_X6_endAt x1) fun r5 =>
  if x2 = 0 then (f_X6_check_36 x2 r5 1 st wt sm ld ln)
  else (f_X6_check_36 x2 r5 0 st wt sm ld ln)))
set_option maxHeartbeats 4000000 in
set_option maxRecDepth 100000 in
theorem k_X6_check {l : Launch} {G : GG} {A : Nat → Prop} {Γ : Cx} (C : CX G A Γ cX6_check RX6 ({ frames := 1, cells := 0, slots := 0, locals := 25 } : Room) 5) (h : Nat) (a1 : Nat) (a2 : Nat) (a3 : Nat) (X : va_W) (x1 : Int32) (x2 : Int32) (st : Nat → Int32) (wt : Int32) (sm : Int64) (ld : Int32) (ln : Int32) (r0 : Int64) (st0 : Nat → Int32) (wt0 : Int32) (sm0 : Int64) (ld0 : Int32) (ln0 : Int32) (hf : f_X6_check x1 x2 st wt sm ld ln = some (r0, st0, wt0, sm0, ld0, ln0)) (hret : ∀ (pc : Nat) (lv : List (Nat × Value)), decode cX6_check pc = .ok (.lreturn, 1) → St l G A Γ 0 0 (wM G h a1 a2 a3 X st0 wt0 sm0 ld0 ln0) pc lv [.long r0]) : St l G A Γ 0 0 (wM G h a1 a2 a3 X st wt sm ld ln) 0 [(0, .ref h), (1, .int x1), (2, .int x2)] [] := by
  have B_78 : ∀ (rec42 : Int32 → Int32 → Int32 → (Nat → Int32) → Int32 → Int64 → Int32 → Int32 → Option (Int64 × (Nat → Int32) × Int32 × Int64 × Int32 × Int32)) (x2 : Int32) (x3 : Int32) (x4 : Int32) (s0 : Int32) (s1 : Int32) (st : Nat → Int32) (wt : Int32) (sm : Int64) (ld : Int32) (ln : Int32), f_X6_check_78 rec42 x2 x3 x4 s0 s1 st wt sm ld ln = some (r0, st0, wt0, sm0, ld0, ln0) → (∀ (x2 : Int32) (x3 : Int32) (x4 : Int32) (st : Nat → Int32) (wt : Int32) (sm : Int64) (ld : Int32) (ln : Int32), rec42 x2 x3 x4 st wt sm ld ln = some (r0, st0, wt0, sm0, ld0, ln0) → St l G A Γ 0 0 (wM G h a1 a2 a3 X st wt sm ld ln) 42 [(0, .ref h), (2, .int x2), (3, .int x3), (4, .int x4)] []) → St l G A Γ 0 0 (wM G h a1 a2 a3 X st wt sm ld ln) 78 [(0, .ref h), (2, .int x2), (3, .int x3), (4, .int x4)] [.int s0, .int s1, .ref h] := by
    intro rec42 x2 x3 x4 s0 s1 st wt sm ld ln hf hrec42
    unfold f_X6_check_78 at hf
    obtain ⟨st31, wt32, sm33, ld34, ln35, er30, hf⟩ := bMv_inv hf
    refine s_cV_V (As := [.int s1, .int s0]) (rest := []) (ci := 6) (q := 0) C (c_X6_adds l G A h a1 a2 a3 X s1 s0 st wt sm ld ln _ _ _ _ _ er30) g_RX6_64 hd_X6_adds rfl ⟨Nat.le_of_ble_eq_true rfl, Nat.le_of_ble_eq_true rfl⟩ rfl rfl rfl (Nat.le_of_ble_eq_true rfl) ⟨Nat.le_of_ble_eq_true rfl, Nat.le_of_ble_eq_true rfl⟩ dX6_check_78 ?_
    obtain ⟨y36, ey36, hf⟩ := bd_inv hf
    refine s_iinc (v := y36) C 3 [(4, .int y36), (0, .ref h), (2, .int x2), (3, .int x3)] dX6_check_81 rfl (by rw [ey36]; rfl) (by decide) rfl ?_
    refine s_goto C 42 dX6_check_84 (by decide) ?_
    refine s_lv [1, 2, 3, 0] rfl ?_
    exact hrec42 _ _ _ _ _ _ _ _ hf
  have B_42 : ∀  (fu : Nat) (x2 : Int32) (x3 : Int32) (x4 : Int32) (st : Nat → Int32) (wt : Int32) (sm : Int64) (ld : Int32) (ln : Int32), f_X6_check_42 fu x2 x3 x4 st wt sm ld ln = some (r0, st0, wt0, sm0, ld0, ln0) → St l G A Γ 0 0 (wM G h a1 a2 a3 X st wt sm ld ln) 42 [(0, .ref h), (2, .int x2), (3, .int x3), (4, .int x4)] [] := by
    intro fu
    induction fu with
    | zero => intro x2 x3 x4 st wt sm ld ln hf ; rw [f_X6_check_42] at hf; cases hf
    | succ fu ih =>
      intro x2 x3 x4 st wt sm ld ln hf 
      rw [f_X6_check_42] at hf
      refine s_iload C 3 dX6_check_42 rfl ?_
      refine s_aload_n C 0 dX6_check_44 rfl ?_
      refine gf_508 C 0 rfl rfl dX6_check_45 ?_
      refine s_iload_n C 2 dX6_check_48 rfl ?_
      refine s_bipush (v := 13) C dX6_check_49 (by decide) ?_
      refine s_iadd C dX6_check_51 ?_
      obtain ⟨v13, hiv13, ev13, hf⟩ := rd_inv hf
      refine s_iald C 1 rfl hiv13 dX6_check_52 ?_
      refine s_nmi ev13 ?_
      refine s_icmp_ge C 87 dX6_check_53 (by decide) (fun c14 => ?_) (fun c14 => ?_)
      · rw [if_pos c14] at hf
        refine s_aload_n C 0 dX6_check_87 rfl ?_
        refine s_iload_n C 1 dX6_check_88 rfl ?_
        refine s_if_ne C 96 dX6_check_89 (by decide) (fun c15 => ?_) (fun c15 => ?_)
        · rw [if_neg c15] at hf
          refine s_iconst (v := 0) C dX6_check_96 (by decide) ?_
          obtain ⟨r16, st17, wt18, sm19, ld20, ln21, er16, hf⟩ := bM_inv hf
          refine s_cV_L (As := [.int 0]) (rest := []) (ci := 6) (q := 0) C (c_X6_sumOf l G A h a1 a2 a3 X 0 st wt sm ld ln _ _ _ _ _ _ er16) g_RX6_68 hd_X6_sumOf rfl ⟨Nat.le_of_ble_eq_true rfl, Nat.le_of_ble_eq_true rfl⟩ rfl rfl rfl (Nat.le_of_ble_eq_true rfl) ⟨Nat.le_of_ble_eq_true rfl, Nat.le_of_ble_eq_true rfl⟩ dX6_check_97 ?_
          exact rM_L hf hret dX6_check_100
        · rw [if_pos c15] at hf
          refine s_iconst (v := 1) C dX6_check_92 (by decide) ?_
          refine s_goto C 97 dX6_check_93 (by decide) ?_
          obtain ⟨r22, st23, wt24, sm25, ld26, ln27, er22, hf⟩ := bM_inv hf
          refine s_cV_L (As := [.int 1]) (rest := []) (ci := 6) (q := 0) C (c_X6_sumOf l G A h a1 a2 a3 X 1 st wt sm ld ln _ _ _ _ _ _ er22) g_RX6_68 hd_X6_sumOf rfl ⟨Nat.le_of_ble_eq_true rfl, Nat.le_of_ble_eq_true rfl⟩ rfl rfl rfl (Nat.le_of_ble_eq_true rfl) ⟨Nat.le_of_ble_eq_true rfl, Nat.le_of_ble_eq_true rfl⟩ dX6_check_97 ?_
          exact rM_L hf hret dX6_check_100
      · rw [if_neg c14] at hf
        refine s_aload_n C 0 dX6_check_56 rfl ?_
        refine s_aload_n C 0 dX6_check_57 rfl ?_
        refine gf_508 C 0 rfl rfl dX6_check_58 ?_
        refine s_iload_n C 2 dX6_check_61 rfl ?_
        refine s_bipush (v := 20) C dX6_check_62 (by decide) ?_
        refine s_iadd C dX6_check_64 ?_
        refine s_iload C 3 dX6_check_65 rfl ?_
        refine s_iadd C dX6_check_67 ?_
        obtain ⟨v28, hiv28, ev28, hf⟩ := rd_inv hf
        refine s_iald C 1 rfl hiv28 dX6_check_68 ?_
        refine s_nmi ev28 ?_
        refine s_iload_n C 1 dX6_check_69 rfl ?_
        refine s_if_ne C 77 dX6_check_70 (by decide) (fun c29 => ?_) (fun c29 => ?_)
        · rw [if_neg c29] at hf
          refine s_iconst (v := 0) C dX6_check_77 (by decide) ?_
          exact B_78 _ _ _ _ _ _ _ _ _ _ _ hf ih
        · rw [if_pos c29] at hf
          refine s_iconst (v := 1) C dX6_check_73 (by decide) ?_
          refine s_goto C 78 dX6_check_74 (by decide) ?_
          exact B_78 _ _ _ _ _ _ _ _ _ _ _ hf ih
  have B_36 : ∀  (x2 : Int32) (x3 : Int32) (s0 : Int32) (st : Nat → Int32) (wt : Int32) (sm : Int64) (ld : Int32) (ln : Int32), f_X6_check_36 x2 x3 s0 st wt sm ld ln = some (r0, st0, wt0, sm0, ld0, ln0) → St l G A Γ 0 0 (wM G h a1 a2 a3 X st wt sm ld ln) 36 [(0, .ref h), (2, .int x2), (3, .int x3)] [.int s0, .ref h] := by
    intro  x2 x3 s0 st wt sm ld ln hf 
    unfold f_X6_check_36 at hf
    obtain ⟨st8, wt9, sm10, ld11, ln12, er7, hf⟩ := bMv_inv hf
    refine s_cV_V (As := [.int s0]) (rest := []) (ci := 6) (q := 0) C (c_X6_begins l G A h a1 a2 a3 X s0 st wt sm ld ln _ _ _ _ _ er7) g_RX6_60 hd_X6_begins rfl ⟨Nat.le_of_ble_eq_true rfl, Nat.le_of_ble_eq_true rfl⟩ rfl rfl rfl (Nat.le_of_ble_eq_true rfl) ⟨Nat.le_of_ble_eq_true rfl, Nat.le_of_ble_eq_true rfl⟩ dX6_check_36 ?_
    refine s_iconst (v := 0) C dX6_check_39 (by decide) ?_
    refine s_istore C [(4, .int 0), (0, .ref h), (2, .int x2), (3, .int x3)] dX6_check_40 (by decide) rfl ?_
    refine s_lv [1, 2, 3, 0] rfl ?_
    exact B_42 _ _ _ _ _ _ _ _ _ hf
  unfold f_X6_check at hf
  refine s_iload_n C 1 dX6_check_0 rfl ?_
  obtain ⟨r1, er1, hf⟩ := bx_inv hf
  refine s_cS_I (As := [.int x1]) (rest := []) C (c_X6_isEnd l G A _ x1 _ er1) g_RX6_39 hd_X6_isEnd rfl ⟨Nat.le_of_ble_eq_true rfl, Nat.le_of_ble_eq_true rfl⟩ rfl (Nat.le_of_ble_eq_true rfl) ⟨Nat.le_of_ble_eq_true rfl, Nat.le_of_ble_eq_true rfl⟩ dX6_check_1 ?_
  refine s_if_eq C 17 dX6_check_4 (by decide) (fun c2 => ?_) (fun c2 => ?_)
  · rw [if_pos c2] at hf
    refine s_ldc2 C tw_558 dX6_check_17 ?_
    exact rM_L hf hret dX6_check_20
  · rw [if_neg c2] at hf
    refine s_iload_n C 2 dX6_check_7 rfl ?_
    refine s_i2l C dX6_check_8 ?_
    refine s_lconst (v := 0) C dX6_check_9 (by decide) ?_
    refine s_lconst (v := 1) C dX6_check_10 (by decide) ?_
    obtain ⟨r3, er3, hf⟩ := bx_inv hf
    refine s_cS_I (As := [.long ((x2 : Int32).toInt64), .long 0, .long 1]) (rest := []) C (c_X6_in l G A _ ((x2 : Int32).toInt64) 0 1 _ er3) g_RX6_45 hd_X6_in rfl ⟨Nat.le_of_ble_eq_true rfl, Nat.le_of_ble_eq_true rfl⟩ rfl (Nat.le_of_ble_eq_true rfl) ⟨Nat.le_of_ble_eq_true rfl, Nat.le_of_ble_eq_true rfl⟩ dX6_check_11 ?_
    refine s_if_ne C 21 dX6_check_14 (by decide) (fun c4 => ?_) (fun c4 => ?_)
    · rw [if_neg c4] at hf
      refine s_iload_n C 1 dX6_check_21 rfl ?_
      obtain ⟨r5, er5, hf⟩ := bx_inv hf
      refine s_cS_I (As := [.int x1]) (rest := []) C (c_X6_endAt l G A _ x1 _ er5) g_RX6_20 hd_X6_endAt rfl ⟨Nat.le_of_ble_eq_true rfl, Nat.le_of_ble_eq_true rfl⟩ rfl (Nat.le_of_ble_eq_true rfl) ⟨Nat.le_of_ble_eq_true rfl, Nat.le_of_ble_eq_true rfl⟩ dX6_check_22 ?_
      refine s_istore_n C [(3, .int r5), (0, .ref h), (1, .int x1), (2, .int x2)] dX6_check_25 (by decide) rfl ?_
      refine s_aload_n C 1 dX6_check_26 rfl ?_
      refine s_iload_n C 3 dX6_check_27 rfl ?_
      refine s_if_ne C 35 dX6_check_28 (by decide) (fun c6 => ?_) (fun c6 => ?_)
      · rw [if_neg c6] at hf
        refine s_iconst (v := 0) C dX6_check_35 (by decide) ?_
        refine s_lv [1, 3, 0] rfl ?_
        exact B_36 _ _ _ _ _ _ _ _ hf
      · rw [if_pos c6] at hf
        refine s_iconst (v := 1) C dX6_check_31 (by decide) ?_
        refine s_goto C 36 dX6_check_32 (by decide) ?_
        refine s_lv [1, 3, 0] rfl ?_
        exact B_36 _ _ _ _ _ _ _ _ hf
    · rw [if_pos c4] at hf
      refine s_ldc2 C tw_558 dX6_check_17 ?_
      exact rM_L hf hret dX6_check_20
theorem c_X6_check (l : Launch) (G : GG) (A : Nat → Prop) (h : Nat) (a1 : Nat) (a2 : Nat) (a3 : Nat) (X : va_W) (x1 : Int32) (x2 : Int32) (st : Nat → Int32) (wt : Int32) (sm : Int64) (ld : Int32) (ln : Int32) (r0 : Int64) (st0 : Nat → Int32) (wt0 : Int32) (sm0 : Int64) (ld0 : Int32) (ln0 : Int32) (hf : f_X6_check x1 x2 st wt sm ld ln = some (r0, st0, wt0, sm0, ld0, ln0)) : ML l yX6_check cX6_check 5 ({ frames := 1, cells := 0, slots := 0, locals := 25 } : Room) G A (wM G h a1 a2 a3 X st wt sm ld ln) [.ref h, .int x1, .int x2] r0 (wM G h a1 a2 a3 X st0 wt0 sm0 ld0 ln0) :=
  e_L (by decide) (Nat.le_of_ble_eq_true rfl) (fun Γ C hret => k_X6_check C _ _ _ _ _ _ _ _ _ _ _ _ _ _ _ _ _ _ hf hret)
def f_X6_set_55  (x1 : Int32) (x2 : Int32) (s0 : Int32) (st : Nat → Int32) (wt : Int32) (sm : Int64) (ld : Int32) (ln : Int32) : Option (Int32 × (Nat → Int32) × Int32 × Int64 × Int32 × Int32) :=
  if s0 = 0 then (some ((-1), st, wt, sm, ld, ln))
  else (rd st 8000 x1 fun v11 =>
  wr st 8000 x1 x2 fun st12 =>
  some (v11, st12, wt, sm, ld, ln))
def f_X6_set_54  (x1 : Int32) (x2 : Int32) (st : Nat → Int32) (wt : Int32) (sm : Int64) (ld : Int32) (ln : Int32) : Option (Int32 × (Nat → Int32) × Int32 × Int64 × Int32 × Int32) :=
  f_X6_set_55 x1 x2 0 st wt sm ld ln
def f_X6_set_50  (x1 : Int32) (x2 : Int32) (st : Nat → Int32) (wt : Int32) (sm : Int64) (ld : Int32) (ln : Int32) : Option (Int32 × (Nat → Int32) × Int32 × Int64 × Int32 × Int32) :=
  f_X6_set_55 x1 x2 1 st wt sm ld ln
def f_X6_set_33  (x1 : Int32) (x2 : Int32) (st : Nat → Int32) (wt : Int32) (sm : Int64) (ld : Int32) (ln : Int32) : Option (Int32 × (Nat → Int32) × Int32 × Int64 × Int32 × Int32) :=
  if x1 = 2 then (bx (f_X6_in ((x2 : Int32).toInt64) 0 9) fun r8 =>
  if r8 = 0 then (f_X6_set_54 x1 x2 st wt sm ld ln)
  else (f_X6_set_50 x1 x2 st wt sm ld ln))
  else (f_X6_set_54 x1 x2 st wt sm ld ln)
def f_X6_set_16  (x1 : Int32) (x2 : Int32) (st : Nat → Int32) (wt : Int32) (sm : Int64) (ld : Int32) (ln : Int32) : Option (Int32 × (Nat → Int32) × Int32 × Int64 × Int32 × Int32) :=
  if x1 = 1 then (bx (f_X6_in ((x2 : Int32).toInt64) 1 60) fun r5 =>
  if r5 = 0 then (f_X6_set_33 x1 x2 st wt sm ld ln)
  else (f_X6_set_50 x1 x2 st wt sm ld ln))
  else (f_X6_set_33 x1 x2 st wt sm ld ln)
def f_X6_set (x1 : Int32) (x2 : Int32) (st : Nat → Int32) (wt : Int32) (sm : Int64) (ld : Int32) (ln : Int32) : Option (Int32 × (Nat → Int32) × Int32 × Int64 × Int32 × Int32) :=
  if x1 = 0 then (bx (f_X6_in ((x2 : Int32).toInt64) 1 6) fun r2 =>
  if r2 = 0 then (f_X6_set_16 x1 x2 st wt sm ld ln)
  else (f_X6_set_50 x1 x2 st wt sm ld ln))
  else (f_X6_set_16 x1 x2 st wt sm ld ln)
set_option maxHeartbeats 4000000 in
set_option maxRecDepth 100000 in
theorem k_X6_set {l : Launch} {G : GG} {A : Nat → Prop} {Γ : Cx} (C : CX G A Γ cX6_set RX6 ({ frames := 1, cells := 0, slots := 0, locals := 25 } : Room) 5) (h : Nat) (a1 : Nat) (a2 : Nat) (a3 : Nat) (X : va_W) (x1 : Int32) (x2 : Int32) (st : Nat → Int32) (wt : Int32) (sm : Int64) (ld : Int32) (ln : Int32) (r0 : Int32) (st0 : Nat → Int32) (wt0 : Int32) (sm0 : Int64) (ld0 : Int32) (ln0 : Int32) (hf : f_X6_set x1 x2 st wt sm ld ln = some (r0, st0, wt0, sm0, ld0, ln0)) (hret : ∀ (pc : Nat) (lv : List (Nat × Value)), decode cX6_set pc = .ok (.ireturn, 1) → narrow .int (.int r0) = .int r0 → St l G A Γ 0 0 (wM G h a1 a2 a3 X st0 wt0 sm0 ld0 ln0) pc lv [.int r0]) : St l G A Γ 0 0 (wM G h a1 a2 a3 X st wt sm ld ln) 0 [(0, .ref h), (1, .int x1), (2, .int x2)] [] := by
  have B_55 : ∀  (x1 : Int32) (x2 : Int32) (s0 : Int32) (st : Nat → Int32) (wt : Int32) (sm : Int64) (ld : Int32) (ln : Int32), f_X6_set_55 x1 x2 s0 st wt sm ld ln = some (r0, st0, wt0, sm0, ld0, ln0) → St l G A Γ 0 0 (wM G h a1 a2 a3 X st wt sm ld ln) 55 [(0, .ref h), (1, .int x1), (2, .int x2)] [.int s0] := by
    intro  x1 x2 s0 st wt sm ld ln hf 
    unfold f_X6_set_55 at hf
    refine s_istore_n C [(3, .int s0), (0, .ref h), (1, .int x1), (2, .int x2)] dX6_set_55 (by decide) rfl ?_
    refine s_iload_n C 0 dX6_set_56 rfl ?_
    refine s_if_ne C 62 dX6_set_57 (by decide) (fun c10 => ?_) (fun c10 => ?_)
    · rw [if_neg c10] at hf
      refine s_aload_n C 1 dX6_set_62 rfl ?_
      refine gf_508 C 0 rfl rfl dX6_set_63 ?_
      refine s_iload_n C 2 dX6_set_66 rfl ?_
      obtain ⟨v11, hiv11, ev11, hf⟩ := rd_inv hf
      refine s_iald C 1 rfl hiv11 dX6_set_67 ?_
      refine s_nmi ev11 ?_
      refine s_istore C [(4, .int v11), (3, .int s0), (0, .ref h), (1, .int x1), (2, .int x2)] dX6_set_68 (by decide) rfl ?_
      refine s_aload_n C 2 dX6_set_70 rfl ?_
      refine gf_508 C 0 rfl rfl dX6_set_71 ?_
      refine s_iload_n C 3 dX6_set_74 rfl ?_
      refine s_iload_n C 4 dX6_set_75 rfl ?_
      obtain ⟨st12, hist12, est12, hf⟩ := wr_inv hf
      refine s_iast C 1 rfl hist12 (wM G h a1 a2 a3 X st12 wt sm ld ln) (by rw [est12]; rfl) dX6_set_76 ?_
      refine s_iload C 0 dX6_set_77 rfl ?_
      exact rM_I hf (vp_nar_int _) hret dX6_set_79
    · rw [if_pos c10] at hf
      refine s_iconst (v := (-1)) C dX6_set_60 (by decide) ?_
      exact rM_I hf (vp_nar_int _) hret dX6_set_61
  have B_54 : ∀  (x1 : Int32) (x2 : Int32) (st : Nat → Int32) (wt : Int32) (sm : Int64) (ld : Int32) (ln : Int32), f_X6_set_54 x1 x2 st wt sm ld ln = some (r0, st0, wt0, sm0, ld0, ln0) → St l G A Γ 0 0 (wM G h a1 a2 a3 X st wt sm ld ln) 54 [(0, .ref h), (1, .int x1), (2, .int x2)] [] := by
    intro  x1 x2 st wt sm ld ln hf 
    unfold f_X6_set_54 at hf
    refine s_iconst (v := 0) C dX6_set_54 (by decide) ?_
    exact B_55 _ _ _ _ _ _ _ _ hf
  have B_50 : ∀  (x1 : Int32) (x2 : Int32) (st : Nat → Int32) (wt : Int32) (sm : Int64) (ld : Int32) (ln : Int32), f_X6_set_50 x1 x2 st wt sm ld ln = some (r0, st0, wt0, sm0, ld0, ln0) → St l G A Γ 0 0 (wM G h a1 a2 a3 X st wt sm ld ln) 50 [(0, .ref h), (1, .int x1), (2, .int x2)] [] := by
    intro  x1 x2 st wt sm ld ln hf 
    unfold f_X6_set_50 at hf
    refine s_iconst (v := 1) C dX6_set_50 (by decide) ?_
    refine s_goto C 55 dX6_set_51 (by decide) ?_
    exact B_55 _ _ _ _ _ _ _ _ hf
  have B_33 : ∀  (x1 : Int32) (x2 : Int32) (st : Nat → Int32) (wt : Int32) (sm : Int64) (ld : Int32) (ln : Int32), f_X6_set_33 x1 x2 st wt sm ld ln = some (r0, st0, wt0, sm0, ld0, ln0) → St l G A Γ 0 0 (wM G h a1 a2 a3 X st wt sm ld ln) 33 [(0, .ref h), (1, .int x1), (2, .int x2)] [] := by
    intro  x1 x2 st wt sm ld ln hf 
    unfold f_X6_set_33 at hf
    refine s_iload_n C 1 dX6_set_33 rfl ?_
    refine s_iconst (v := 2) C dX6_set_34 (by decide) ?_
    refine s_icmp_ne C 54 dX6_set_35 (by decide) (fun c7 => ?_) (fun c7 => ?_)
    · rw [if_neg c7] at hf
      exact B_54 _ _ _ _ _ _ _ hf
    · rw [if_pos c7] at hf
      refine s_iload_n C 2 dX6_set_38 rfl ?_
      refine s_i2l C dX6_set_39 ?_
      refine s_lconst (v := 0) C dX6_set_40 (by decide) ?_
      refine s_ldc2 C tw_581 dX6_set_41 ?_
      obtain ⟨r8, er8, hf⟩ := bx_inv hf
      refine s_cS_I (As := [.long ((x2 : Int32).toInt64), .long 0, .long 9]) (rest := []) C (c_X6_in l G A _ ((x2 : Int32).toInt64) 0 9 _ er8) g_RX6_45 hd_X6_in rfl ⟨Nat.le_of_ble_eq_true rfl, Nat.le_of_ble_eq_true rfl⟩ rfl (Nat.le_of_ble_eq_true rfl) ⟨Nat.le_of_ble_eq_true rfl, Nat.le_of_ble_eq_true rfl⟩ dX6_set_44 ?_
      refine s_if_eq C 54 dX6_set_47 (by decide) (fun c9 => ?_) (fun c9 => ?_)
      · rw [if_pos c9] at hf
        exact B_54 _ _ _ _ _ _ _ hf
      · rw [if_neg c9] at hf
        exact B_50 _ _ _ _ _ _ _ hf
  have B_16 : ∀  (x1 : Int32) (x2 : Int32) (st : Nat → Int32) (wt : Int32) (sm : Int64) (ld : Int32) (ln : Int32), f_X6_set_16 x1 x2 st wt sm ld ln = some (r0, st0, wt0, sm0, ld0, ln0) → St l G A Γ 0 0 (wM G h a1 a2 a3 X st wt sm ld ln) 16 [(0, .ref h), (1, .int x1), (2, .int x2)] [] := by
    intro  x1 x2 st wt sm ld ln hf 
    unfold f_X6_set_16 at hf
    refine s_iload_n C 1 dX6_set_16 rfl ?_
    refine s_iconst (v := 1) C dX6_set_17 (by decide) ?_
    refine s_icmp_ne C 33 dX6_set_18 (by decide) (fun c4 => ?_) (fun c4 => ?_)
    · rw [if_neg c4] at hf
      exact B_33 _ _ _ _ _ _ _ hf
    · rw [if_pos c4] at hf
      refine s_iload_n C 2 dX6_set_21 rfl ?_
      refine s_i2l C dX6_set_22 ?_
      refine s_lconst (v := 1) C dX6_set_23 (by decide) ?_
      refine s_ldc2 C tw_580 dX6_set_24 ?_
      obtain ⟨r5, er5, hf⟩ := bx_inv hf
      refine s_cS_I (As := [.long ((x2 : Int32).toInt64), .long 1, .long 60]) (rest := []) C (c_X6_in l G A _ ((x2 : Int32).toInt64) 1 60 _ er5) g_RX6_45 hd_X6_in rfl ⟨Nat.le_of_ble_eq_true rfl, Nat.le_of_ble_eq_true rfl⟩ rfl (Nat.le_of_ble_eq_true rfl) ⟨Nat.le_of_ble_eq_true rfl, Nat.le_of_ble_eq_true rfl⟩ dX6_set_27 ?_
      refine s_if_ne C 50 dX6_set_30 (by decide) (fun c6 => ?_) (fun c6 => ?_)
      · rw [if_neg c6] at hf
        exact B_50 _ _ _ _ _ _ _ hf
      · rw [if_pos c6] at hf
        exact B_33 _ _ _ _ _ _ _ hf
  unfold f_X6_set at hf
  refine s_iload_n C 1 dX6_set_0 rfl ?_
  refine s_if_ne C 16 dX6_set_1 (by decide) (fun c1 => ?_) (fun c1 => ?_)
  · rw [if_neg c1] at hf
    exact B_16 _ _ _ _ _ _ _ hf
  · rw [if_pos c1] at hf
    refine s_iload_n C 2 dX6_set_4 rfl ?_
    refine s_i2l C dX6_set_5 ?_
    refine s_lconst (v := 1) C dX6_set_6 (by decide) ?_
    refine s_ldc2 C tw_579 dX6_set_7 ?_
    obtain ⟨r2, er2, hf⟩ := bx_inv hf
    refine s_cS_I (As := [.long ((x2 : Int32).toInt64), .long 1, .long 6]) (rest := []) C (c_X6_in l G A _ ((x2 : Int32).toInt64) 1 6 _ er2) g_RX6_45 hd_X6_in rfl ⟨Nat.le_of_ble_eq_true rfl, Nat.le_of_ble_eq_true rfl⟩ rfl (Nat.le_of_ble_eq_true rfl) ⟨Nat.le_of_ble_eq_true rfl, Nat.le_of_ble_eq_true rfl⟩ dX6_set_10 ?_
    refine s_if_ne C 50 dX6_set_13 (by decide) (fun c3 => ?_) (fun c3 => ?_)
    · rw [if_neg c3] at hf
      exact B_50 _ _ _ _ _ _ _ hf
    · rw [if_pos c3] at hf
      exact B_16 _ _ _ _ _ _ _ hf
theorem c_X6_set (l : Launch) (G : GG) (A : Nat → Prop) (h : Nat) (a1 : Nat) (a2 : Nat) (a3 : Nat) (X : va_W) (x1 : Int32) (x2 : Int32) (st : Nat → Int32) (wt : Int32) (sm : Int64) (ld : Int32) (ln : Int32) (r0 : Int32) (st0 : Nat → Int32) (wt0 : Int32) (sm0 : Int64) (ld0 : Int32) (ln0 : Int32) (hf : f_X6_set x1 x2 st wt sm ld ln = some (r0, st0, wt0, sm0, ld0, ln0)) : MI l yX6_set cX6_set 5 .int ({ frames := 1, cells := 0, slots := 0, locals := 25 } : Room) G A (wM G h a1 a2 a3 X st wt sm ld ln) [.ref h, .int x1, .int x2] r0 (wM G h a1 a2 a3 X st0 wt0 sm0 ld0 ln0) :=
  e_I (by decide) (Nat.le_of_ble_eq_true rfl) (fun Γ C hret => k_X6_set C _ _ _ _ _ _ _ _ _ _ _ _ _ _ _ _ _ _ hf hret)
def f_X6_many (x1 : Int32) (st : Nat → Int32) (wt : Int32) (sm : Int64) (ld : Int32) (ln : Int32) : Option (Int32 × (Nat → Int32) × Int32 × Int64 × Int32 × Int32) :=
  bx (f_X6_wireAt x1) fun r1 =>
  rd st 8000 r1 fun v2 =>
  some (v2, st, wt, sm, ld, ln)
set_option maxHeartbeats 4000000 in
set_option maxRecDepth 100000 in
theorem k_X6_many {l : Launch} {G : GG} {A : Nat → Prop} {Γ : Cx} (C : CX G A Γ cX6_many RX6 ({ frames := 1, cells := 0, slots := 0, locals := 20 } : Room) 2) (h : Nat) (a1 : Nat) (a2 : Nat) (a3 : Nat) (X : va_W) (x1 : Int32) (st : Nat → Int32) (wt : Int32) (sm : Int64) (ld : Int32) (ln : Int32) (r0 : Int32) (st0 : Nat → Int32) (wt0 : Int32) (sm0 : Int64) (ld0 : Int32) (ln0 : Int32) (hf : f_X6_many x1 st wt sm ld ln = some (r0, st0, wt0, sm0, ld0, ln0)) (hret : ∀ (pc : Nat) (lv : List (Nat × Value)), decode cX6_many pc = .ok (.ireturn, 1) → narrow .int (.int r0) = .int r0 → St l G A Γ 0 0 (wM G h a1 a2 a3 X st0 wt0 sm0 ld0 ln0) pc lv [.int r0]) : St l G A Γ 0 0 (wM G h a1 a2 a3 X st wt sm ld ln) 0 [(0, .ref h), (1, .int x1)] [] := by
  unfold f_X6_many at hf
  refine s_aload_n C 0 dX6_many_0 rfl ?_
  refine gf_508 C 0 rfl rfl dX6_many_1 ?_
  refine s_iload_n C 1 dX6_many_4 rfl ?_
  obtain ⟨r1, er1, hf⟩ := bx_inv hf
  refine s_cS_I (As := [.int x1]) (rest := [.ref a1]) C (c_X6_wireAt l G A _ x1 _ er1) g_RX6_24 hd_X6_wireAt rfl ⟨Nat.le_of_ble_eq_true rfl, Nat.le_of_ble_eq_true rfl⟩ rfl (Nat.le_of_ble_eq_true rfl) ⟨Nat.le_of_ble_eq_true rfl, Nat.le_of_ble_eq_true rfl⟩ dX6_many_5 ?_
  obtain ⟨v2, hiv2, ev2, hf⟩ := rd_inv hf
  refine s_iald C 1 rfl hiv2 dX6_many_8 ?_
  refine s_nmi ev2 ?_
  exact rM_I hf (vp_nar_int _) hret dX6_many_9
theorem c_X6_many (l : Launch) (G : GG) (A : Nat → Prop) (h : Nat) (a1 : Nat) (a2 : Nat) (a3 : Nat) (X : va_W) (x1 : Int32) (st : Nat → Int32) (wt : Int32) (sm : Int64) (ld : Int32) (ln : Int32) (r0 : Int32) (st0 : Nat → Int32) (wt0 : Int32) (sm0 : Int64) (ld0 : Int32) (ln0 : Int32) (hf : f_X6_many x1 st wt sm ld ln = some (r0, st0, wt0, sm0, ld0, ln0)) : MI l yX6_many cX6_many 2 .int ({ frames := 1, cells := 0, slots := 0, locals := 20 } : Room) G A (wM G h a1 a2 a3 X st wt sm ld ln) [.ref h, .int x1] r0 (wM G h a1 a2 a3 X st0 wt0 sm0 ld0 ln0) :=
  e_I (by decide) (Nat.le_of_ble_eq_true rfl) (fun Γ C hret => k_X6_many C _ _ _ _ _ _ _ _ _ _ _ _ _ _ _ _ _ hf hret)
def f_X6_remove_57  : Nat → Int32 → Int32 → Int32 → (Nat → Int32) → Int32 → Int64 → Int32 → Int32 → Option ((Nat → Int32) × Int32 × Int64 × Int32 × Int32)
  | 0, _, _, _, _, _, _, _, _ => none
  | fu + 1, x1, x3, x4, st, wt, sm, ld, ln =>
    bx (f_X6_frameAt x1 x3) fun r14 =>
    if r14 ≤ x4 then (bx (f_X6_wireAt x1) fun r16 =>
    rd st 8000 r16 fun v17 =>
    bd ((v17 - 1)) fun y18 =>
    wr st 8000 r16 y18 fun st19 =>
    some (st19, wt, sm, ld, ln))
    else (wr st 8000 x4 0 fun st20 =>
    bd (x4 + 1) fun y21 =>
    f_X6_remove_57 fu x1 x3 y21 st20 wt sm ld ln)
def f_X6_remove_13  : Nat → Int32 → Int32 → Int32 → (Nat → Int32) → Int32 → Int64 → Int32 → Int32 → Option ((Nat → Int32) × Int32 × Int64 × Int32 × Int32)
  | 0, _, _, _, _, _, _, _, _ => none
  | fu + 1, x1, x3, x4, st, wt, sm, ld, ln =>
    bx (f_X6_frameAt x1 (x3 - 1)) fun r8 =>
    if r8 ≤ x4 then (bx (f_X6_frameAt x1 (x3 - 1)) fun r10 =>
    f_X6_remove_57 FU x1 x3 r10 st wt sm ld ln)
    else (rd st 8000 (x4 + 36) fun v11 =>
    wr st 8000 x4 v11 fun st12 =>
    bd (x4 + 1) fun y13 =>
    f_X6_remove_13 fu x1 x3 y13 st12 wt sm ld ln)
def f_X6_remove (x1 : Int32) (x2 : Int32) (st : Nat → Int32) (wt : Int32) (sm : Int64) (ld : Int32) (ln : Int32) : Option ((Nat → Int32) × Int32 × Int64 × Int32 × Int32) :=
  bM (f_X6_many x1 st wt sm ld ln) fun r1 st2 wt3 sm4 ld5 ln6 =>
  bx (f_X6_frameAt x1 x2) fun r7 =>
  f_X6_remove_13 FU x1 r1 r7 st2 wt3 sm4 ld5 ln6
set_option maxHeartbeats 4000000 in
set_option maxRecDepth 100000 in
theorem k_X6_remove {l : Launch} {G : GG} {A : Nat → Prop} {Γ : Cx} (C : CX G A Γ cX6_remove RX6 ({ frames := 2, cells := 0, slots := 0, locals := 41 } : Room) 5) (h : Nat) (a1 : Nat) (a2 : Nat) (a3 : Nat) (X : va_W) (x1 : Int32) (x2 : Int32) (st : Nat → Int32) (wt : Int32) (sm : Int64) (ld : Int32) (ln : Int32) (st0 : Nat → Int32) (wt0 : Int32) (sm0 : Int64) (ld0 : Int32) (ln0 : Int32) (hf : f_X6_remove x1 x2 st wt sm ld ln = some (st0, wt0, sm0, ld0, ln0)) (hret : ∀ (pc : Nat) (lv : List (Nat × Value)), decode cX6_remove pc = .ok (.return_, 1) → St l G A Γ 0 0 (wM G h a1 a2 a3 X st0 wt0 sm0 ld0 ln0) pc lv []) : St l G A Γ 0 0 (wM G h a1 a2 a3 X st wt sm ld ln) 0 [(0, .ref h), (1, .int x1), (2, .int x2)] [] := by
  have B_57 : ∀  (fu : Nat) (x1 : Int32) (x3 : Int32) (x4 : Int32) (st : Nat → Int32) (wt : Int32) (sm : Int64) (ld : Int32) (ln : Int32), f_X6_remove_57 fu x1 x3 x4 st wt sm ld ln = some (st0, wt0, sm0, ld0, ln0) → St l G A Γ 0 0 (wM G h a1 a2 a3 X st wt sm ld ln) 57 [(0, .ref h), (1, .int x1), (3, .int x3), (4, .int x4)] [] := by
    intro fu
    induction fu with
    | zero => intro x1 x3 x4 st wt sm ld ln hf ; rw [f_X6_remove_57] at hf; cases hf
    | succ fu ih =>
      intro x1 x3 x4 st wt sm ld ln hf 
      rw [f_X6_remove_57] at hf
      refine s_iload C 3 dX6_remove_57 rfl ?_
      refine s_iload_n C 1 dX6_remove_59 rfl ?_
      refine s_iload_n C 2 dX6_remove_60 rfl ?_
      obtain ⟨r14, er14, hf⟩ := bx_inv hf
      refine s_cS_I (As := [.int x1, .int x3]) (rest := [.int x4]) C (c_X6_frameAt l G A _ x1 x3 _ er14) g_RX6_81 hd_X6_frameAt rfl ⟨Nat.le_of_ble_eq_true rfl, Nat.le_of_ble_eq_true rfl⟩ rfl (Nat.le_of_ble_eq_true rfl) ⟨Nat.le_of_ble_eq_true rfl, Nat.le_of_ble_eq_true rfl⟩ dX6_remove_61 ?_
      refine s_icmp_ge C 81 dX6_remove_64 (by decide) (fun c15 => ?_) (fun c15 => ?_)
      · rw [if_pos c15] at hf
        refine s_aload_n C 0 dX6_remove_81 rfl ?_
        refine gf_508 C 0 rfl rfl dX6_remove_82 ?_
        refine s_iload_n C 1 dX6_remove_85 rfl ?_
        obtain ⟨r16, er16, hf⟩ := bx_inv hf
        refine s_cS_I (As := [.int x1]) (rest := [.ref a1]) C (c_X6_wireAt l G A _ x1 _ er16) g_RX6_24 hd_X6_wireAt rfl ⟨Nat.le_of_ble_eq_true rfl, Nat.le_of_ble_eq_true rfl⟩ rfl (Nat.le_of_ble_eq_true rfl) ⟨Nat.le_of_ble_eq_true rfl, Nat.le_of_ble_eq_true rfl⟩ dX6_remove_86 ?_
        refine s_dup2 C dX6_remove_89 rfl rfl ?_
        obtain ⟨v17, hiv17, ev17, hf⟩ := rd_inv hf
        refine s_iald C 1 rfl hiv17 dX6_remove_90 ?_
        refine s_nmi ev17 ?_
        refine s_iconst (v := 1) C dX6_remove_91 (by decide) ?_
        refine s_isub C dX6_remove_92 ?_
        obtain ⟨y18, ey18, hf⟩ := bd_inv hf
        refine s_nmi ey18 ?_
        obtain ⟨st19, hist19, est19, hf⟩ := wr_inv hf
        refine s_iast C 1 rfl hist19 (wM G h a1 a2 a3 X st19 wt sm ld ln) (by rw [est19]; rfl) dX6_remove_93 ?_
        exact rM_V hf hret dX6_remove_94
      · rw [if_neg c15] at hf
        refine s_aload_n C 0 dX6_remove_67 rfl ?_
        refine gf_508 C 0 rfl rfl dX6_remove_68 ?_
        refine s_iload C 3 dX6_remove_71 rfl ?_
        refine s_iconst (v := 0) C dX6_remove_73 (by decide) ?_
        obtain ⟨st20, hist20, est20, hf⟩ := wr_inv hf
        refine s_iast C 1 rfl hist20 (wM G h a1 a2 a3 X st20 wt sm ld ln) (by rw [est20]; rfl) dX6_remove_74 ?_
        obtain ⟨y21, ey21, hf⟩ := bd_inv hf
        refine s_iinc (v := y21) C 3 [(4, .int y21), (0, .ref h), (1, .int x1), (3, .int x3)] dX6_remove_75 rfl (by rw [ey21]; rfl) (by decide) rfl ?_
        refine s_goto C 57 dX6_remove_78 (by decide) ?_
        refine s_lv [1, 2, 3, 0] rfl ?_
        exact ih _ _ _ _ _ _ _ _ hf
  have B_13 : ∀  (fu : Nat) (x1 : Int32) (x3 : Int32) (x4 : Int32) (st : Nat → Int32) (wt : Int32) (sm : Int64) (ld : Int32) (ln : Int32), f_X6_remove_13 fu x1 x3 x4 st wt sm ld ln = some (st0, wt0, sm0, ld0, ln0) → St l G A Γ 0 0 (wM G h a1 a2 a3 X st wt sm ld ln) 13 [(0, .ref h), (1, .int x1), (3, .int x3), (4, .int x4)] [] := by
    intro fu
    induction fu with
    | zero => intro x1 x3 x4 st wt sm ld ln hf ; rw [f_X6_remove_13] at hf; cases hf
    | succ fu ih =>
      intro x1 x3 x4 st wt sm ld ln hf 
      rw [f_X6_remove_13] at hf
      refine s_iload C 3 dX6_remove_13 rfl ?_
      refine s_iload_n C 1 dX6_remove_15 rfl ?_
      refine s_iload_n C 2 dX6_remove_16 rfl ?_
      refine s_iconst (v := 1) C dX6_remove_17 (by decide) ?_
      refine s_isub C dX6_remove_18 ?_
      obtain ⟨r8, er8, hf⟩ := bx_inv hf
      refine s_cS_I (As := [.int x1, .int (x3 - 1)]) (rest := [.int x4]) C (c_X6_frameAt l G A _ x1 (x3 - 1) _ er8) g_RX6_81 hd_X6_frameAt rfl ⟨Nat.le_of_ble_eq_true rfl, Nat.le_of_ble_eq_true rfl⟩ rfl (Nat.le_of_ble_eq_true rfl) ⟨Nat.le_of_ble_eq_true rfl, Nat.le_of_ble_eq_true rfl⟩ dX6_remove_19 ?_
      refine s_icmp_ge C 48 dX6_remove_22 (by decide) (fun c9 => ?_) (fun c9 => ?_)
      · rw [if_pos c9] at hf
        refine s_iload_n C 1 dX6_remove_48 rfl ?_
        refine s_iload_n C 2 dX6_remove_49 rfl ?_
        refine s_iconst (v := 1) C dX6_remove_50 (by decide) ?_
        refine s_isub C dX6_remove_51 ?_
        obtain ⟨r10, er10, hf⟩ := bx_inv hf
        refine s_cS_I (As := [.int x1, .int (x3 - 1)]) (rest := []) C (c_X6_frameAt l G A _ x1 (x3 - 1) _ er10) g_RX6_81 hd_X6_frameAt rfl ⟨Nat.le_of_ble_eq_true rfl, Nat.le_of_ble_eq_true rfl⟩ rfl (Nat.le_of_ble_eq_true rfl) ⟨Nat.le_of_ble_eq_true rfl, Nat.le_of_ble_eq_true rfl⟩ dX6_remove_52 ?_
        refine s_istore C [(4, .int r10), (0, .ref h), (1, .int x1), (3, .int x3)] dX6_remove_55 (by decide) rfl ?_
        refine s_lv [1, 2, 3, 0] rfl ?_
        exact B_57 _ _ _ _ _ _ _ _ _ hf
      · rw [if_neg c9] at hf
        refine s_aload_n C 0 dX6_remove_25 rfl ?_
        refine gf_508 C 0 rfl rfl dX6_remove_26 ?_
        refine s_iload C 3 dX6_remove_29 rfl ?_
        refine s_aload_n C 0 dX6_remove_31 rfl ?_
        refine gf_508 C 0 rfl rfl dX6_remove_32 ?_
        refine s_iload C 3 dX6_remove_35 rfl ?_
        refine s_bipush (v := 36) C dX6_remove_37 (by decide) ?_
        refine s_iadd C dX6_remove_39 ?_
        obtain ⟨v11, hiv11, ev11, hf⟩ := rd_inv hf
        refine s_iald C 1 rfl hiv11 dX6_remove_40 ?_
        refine s_nmi ev11 ?_
        obtain ⟨st12, hist12, est12, hf⟩ := wr_inv hf
        refine s_iast C 1 rfl hist12 (wM G h a1 a2 a3 X st12 wt sm ld ln) (by rw [est12]; rfl) dX6_remove_41 ?_
        obtain ⟨y13, ey13, hf⟩ := bd_inv hf
        refine s_iinc (v := y13) C 3 [(4, .int y13), (0, .ref h), (1, .int x1), (3, .int x3)] dX6_remove_42 rfl (by rw [ey13]; rfl) (by decide) rfl ?_
        refine s_goto C 13 dX6_remove_45 (by decide) ?_
        refine s_lv [1, 2, 3, 0] rfl ?_
        exact ih _ _ _ _ _ _ _ _ hf
  unfold f_X6_remove at hf
  refine s_aload_n C 0 dX6_remove_0 rfl ?_
  refine s_iload_n C 1 dX6_remove_1 rfl ?_
  obtain ⟨r1, st2, wt3, sm4, ld5, ln6, er1, hf⟩ := bM_inv hf
  refine s_cV_I (As := [.int x1]) (rest := []) (ci := 6) (q := 0) C (c_X6_many l G A h a1 a2 a3 X x1 st wt sm ld ln _ _ _ _ _ _ er1) g_RX6_78 hd_X6_many rfl ⟨Nat.le_of_ble_eq_true rfl, Nat.le_of_ble_eq_true rfl⟩ rfl rfl rfl (Nat.le_of_ble_eq_true rfl) ⟨Nat.le_of_ble_eq_true rfl, Nat.le_of_ble_eq_true rfl⟩ dX6_remove_2 ?_
  refine s_istore_n C [(3, .int r1), (0, .ref h), (1, .int x1), (2, .int x2)] dX6_remove_5 (by decide) rfl ?_
  refine s_iload_n C 2 dX6_remove_6 rfl ?_
  refine s_iload_n C 3 dX6_remove_7 rfl ?_
  obtain ⟨r7, er7, hf⟩ := bx_inv hf
  refine s_cS_I (As := [.int x1, .int x2]) (rest := []) C (c_X6_frameAt l G A _ x1 x2 _ er7) g_RX6_81 hd_X6_frameAt rfl ⟨Nat.le_of_ble_eq_true rfl, Nat.le_of_ble_eq_true rfl⟩ rfl (Nat.le_of_ble_eq_true rfl) ⟨Nat.le_of_ble_eq_true rfl, Nat.le_of_ble_eq_true rfl⟩ dX6_remove_8 ?_
  refine s_istore C [(4, .int r7), (3, .int r1), (0, .ref h), (1, .int x1), (2, .int x2)] dX6_remove_11 (by decide) rfl ?_
  refine s_lv [2, 3, 1, 0] rfl ?_
  exact B_13 _ _ _ _ _ _ _ _ _ hf
theorem c_X6_remove (l : Launch) (G : GG) (A : Nat → Prop) (h : Nat) (a1 : Nat) (a2 : Nat) (a3 : Nat) (X : va_W) (x1 : Int32) (x2 : Int32) (st : Nat → Int32) (wt : Int32) (sm : Int64) (ld : Int32) (ln : Int32) (st0 : Nat → Int32) (wt0 : Int32) (sm0 : Int64) (ld0 : Int32) (ln0 : Int32) (hf : f_X6_remove x1 x2 st wt sm ld ln = some (st0, wt0, sm0, ld0, ln0)) : MV l yX6_remove cX6_remove 5 ({ frames := 2, cells := 0, slots := 0, locals := 41 } : Room) G A (wM G h a1 a2 a3 X st wt sm ld ln) [.ref h, .int x1, .int x2] (wM G h a1 a2 a3 X st0 wt0 sm0 ld0 ln0) :=
  e_V (by decide) (Nat.le_of_ble_eq_true rfl) (fun Γ C hret => k_X6_remove C _ _ _ _ _ _ _ _ _ _ _ _ _ _ _ _ _ hf hret)
def f_X6_beginsFrame_16  (x1 : Int32) (st : Nat → Int32) (wt : Int32) (sm : Int64) (ld : Int32) (ln : Int32) : Option ((Nat → Int32) × Int32 × Int64 × Int32 × Int32) :=
  bM (f_X6_many x1 st wt sm ld ln) fun r14 st15 wt16 sm17 ld18 ln19 =>
  bx (f_X6_frameAt x1 r14) fun r20 =>
  bx (f_X6_wireAt x1) fun r21 =>
  rd st15 8000 r21 fun v22 =>
  bd ((v22 + 1)) fun y23 =>
  wr st15 8000 r21 y23 fun st24 =>
  rd st24 8000 3 fun v25 =>
  rd st24 8000 0 fun v26 =>
  bd ((v25 + v26)) fun y27 =>
  wr st24 8000 (r20 + 1) y27 fun st28 =>
  some (st28, wt16, sm17, r20, 0)
def f_X6_beginsFrame (x1 : Int32) (st : Nat → Int32) (wt : Int32) (sm : Int64) (ld : Int32) (ln : Int32) : Option ((Nat → Int32) × Int32 × Int64 × Int32 × Int32) :=
  bM (f_X6_many x1 st wt sm ld ln) fun r1 st2 wt3 sm4 ld5 ln6 =>
  if r1 = 12 then (bMv (f_X6_remove x1 0 st2 wt3 sm4 ld5 ln6) fun st9 wt10 sm11 ld12 ln13 =>
  f_X6_beginsFrame_16 x1 st9 wt10 sm11 ld12 ln13)
  else (f_X6_beginsFrame_16 x1 st2 wt3 sm4 ld5 ln6)
set_option maxHeartbeats 4000000 in
set_option maxRecDepth 100000 in
theorem k_X6_beginsFrame {l : Launch} {G : GG} {A : Nat → Prop} {Γ : Cx} (C : CX G A Γ cX6_beginsFrame RX6 ({ frames := 3, cells := 0, slots := 0, locals := 65 } : Room) 2) (h : Nat) (a1 : Nat) (a2 : Nat) (a3 : Nat) (X : va_W) (x1 : Int32) (st : Nat → Int32) (wt : Int32) (sm : Int64) (ld : Int32) (ln : Int32) (st0 : Nat → Int32) (wt0 : Int32) (sm0 : Int64) (ld0 : Int32) (ln0 : Int32) (hf : f_X6_beginsFrame x1 st wt sm ld ln = some (st0, wt0, sm0, ld0, ln0)) (hret : ∀ (pc : Nat) (lv : List (Nat × Value)), decode cX6_beginsFrame pc = .ok (.return_, 1) → St l G A Γ 0 0 (wM G h a1 a2 a3 X st0 wt0 sm0 ld0 ln0) pc lv []) : St l G A Γ 0 0 (wM G h a1 a2 a3 X st wt sm ld ln) 0 [(0, .ref h), (1, .int x1)] [] := by
  have B_16 : ∀  (x1 : Int32) (st : Nat → Int32) (wt : Int32) (sm : Int64) (ld : Int32) (ln : Int32), f_X6_beginsFrame_16 x1 st wt sm ld ln = some (st0, wt0, sm0, ld0, ln0) → St l G A Γ 0 0 (wM G h a1 a2 a3 X st wt sm ld ln) 16 [(0, .ref h), (1, .int x1)] [] := by
    intro  x1 st wt sm ld ln hf 
    unfold f_X6_beginsFrame_16 at hf
    refine s_aload_n C 0 dX6_beginsFrame_16 rfl ?_
    refine s_iload_n C 1 dX6_beginsFrame_17 rfl ?_
    refine s_aload_n C 0 dX6_beginsFrame_18 rfl ?_
    refine s_iload_n C 1 dX6_beginsFrame_19 rfl ?_
    obtain ⟨r14, st15, wt16, sm17, ld18, ln19, er14, hf⟩ := bM_inv hf
    refine s_cV_I (As := [.int x1]) (rest := [.int x1, .ref h]) (ci := 6) (q := 0) C (c_X6_many l G A h a1 a2 a3 X x1 st wt sm ld ln _ _ _ _ _ _ er14) g_RX6_78 hd_X6_many rfl ⟨Nat.le_of_ble_eq_true rfl, Nat.le_of_ble_eq_true rfl⟩ rfl rfl rfl (Nat.le_of_ble_eq_true rfl) ⟨Nat.le_of_ble_eq_true rfl, Nat.le_of_ble_eq_true rfl⟩ dX6_beginsFrame_20 ?_
    obtain ⟨r20, er20, hf⟩ := bx_inv hf
    refine s_cS_I (As := [.int x1, .int r14]) (rest := [.ref h]) C (c_X6_frameAt l G A _ x1 r14 _ er20) g_RX6_81 hd_X6_frameAt rfl ⟨Nat.le_of_ble_eq_true rfl, Nat.le_of_ble_eq_true rfl⟩ rfl (Nat.le_of_ble_eq_true rfl) ⟨Nat.le_of_ble_eq_true rfl, Nat.le_of_ble_eq_true rfl⟩ dX6_beginsFrame_23 ?_
    refine pf_513 C 0 rfl (vp_nar_int _) rfl (Nat.le_of_ble_eq_true rfl) (wM G h a1 a2 a3 X st15 wt16 sm17 r20 ln19) rfl dX6_beginsFrame_26 ?_
    refine s_aload_n C 0 dX6_beginsFrame_29 rfl ?_
    refine s_iconst (v := 0) C dX6_beginsFrame_30 (by decide) ?_
    refine pf_514 C 0 rfl (vp_nar_int _) rfl (Nat.le_of_ble_eq_true rfl) (wM G h a1 a2 a3 X st15 wt16 sm17 r20 0) rfl dX6_beginsFrame_31 ?_
    refine s_aload_n C 0 dX6_beginsFrame_34 rfl ?_
    refine gf_508 C 0 rfl rfl dX6_beginsFrame_35 ?_
    refine s_iload_n C 1 dX6_beginsFrame_38 rfl ?_
    obtain ⟨r21, er21, hf⟩ := bx_inv hf
    refine s_cS_I (As := [.int x1]) (rest := [.ref a1]) C (c_X6_wireAt l G A _ x1 _ er21) g_RX6_24 hd_X6_wireAt rfl ⟨Nat.le_of_ble_eq_true rfl, Nat.le_of_ble_eq_true rfl⟩ rfl (Nat.le_of_ble_eq_true rfl) ⟨Nat.le_of_ble_eq_true rfl, Nat.le_of_ble_eq_true rfl⟩ dX6_beginsFrame_39 ?_
    refine s_dup2 C dX6_beginsFrame_42 rfl rfl ?_
    obtain ⟨v22, hiv22, ev22, hf⟩ := rd_inv hf
    refine s_iald C 1 rfl hiv22 dX6_beginsFrame_43 ?_
    refine s_nmi ev22 ?_
    refine s_iconst (v := 1) C dX6_beginsFrame_44 (by decide) ?_
    refine s_iadd C dX6_beginsFrame_45 ?_
    obtain ⟨y23, ey23, hf⟩ := bd_inv hf
    refine s_nmi ey23 ?_
    obtain ⟨st24, hist24, est24, hf⟩ := wr_inv hf
    refine s_iast C 1 rfl hist24 (wM G h a1 a2 a3 X st24 wt16 sm17 r20 0) (by rw [est24]; rfl) dX6_beginsFrame_46 ?_
    refine s_aload_n C 0 dX6_beginsFrame_47 rfl ?_
    refine gf_508 C 0 rfl rfl dX6_beginsFrame_48 ?_
    refine s_aload_n C 0 dX6_beginsFrame_51 rfl ?_
    refine gf_513 C 0 rfl rfl dX6_beginsFrame_52 ?_
    refine s_iconst (v := 1) C dX6_beginsFrame_55 (by decide) ?_
    refine s_iadd C dX6_beginsFrame_56 ?_
    refine s_aload_n C 0 dX6_beginsFrame_57 rfl ?_
    refine gf_508 C 0 rfl rfl dX6_beginsFrame_58 ?_
    refine s_iconst (v := 3) C dX6_beginsFrame_61 (by decide) ?_
    obtain ⟨v25, hiv25, ev25, hf⟩ := rd_inv hf
    refine s_iald C 1 rfl hiv25 dX6_beginsFrame_62 ?_
    refine s_nmi ev25 ?_
    refine s_aload_n C 0 dX6_beginsFrame_63 rfl ?_
    refine gf_508 C 0 rfl rfl dX6_beginsFrame_64 ?_
    refine s_iconst (v := 0) C dX6_beginsFrame_67 (by decide) ?_
    obtain ⟨v26, hiv26, ev26, hf⟩ := rd_inv hf
    refine s_iald C 1 rfl hiv26 dX6_beginsFrame_68 ?_
    refine s_nmi ev26 ?_
    refine s_iadd C dX6_beginsFrame_69 ?_
    obtain ⟨y27, ey27, hf⟩ := bd_inv hf
    refine s_nmi ey27 ?_
    obtain ⟨st28, hist28, est28, hf⟩ := wr_inv hf
    refine s_iast C 1 rfl hist28 (wM G h a1 a2 a3 X st28 wt16 sm17 r20 0) (by rw [est28]; rfl) dX6_beginsFrame_70 ?_
    exact rM_V hf hret dX6_beginsFrame_71
  unfold f_X6_beginsFrame at hf
  refine s_aload_n C 0 dX6_beginsFrame_0 rfl ?_
  refine s_iload_n C 1 dX6_beginsFrame_1 rfl ?_
  obtain ⟨r1, st2, wt3, sm4, ld5, ln6, er1, hf⟩ := bM_inv hf
  refine s_cV_I (As := [.int x1]) (rest := []) (ci := 6) (q := 0) C (c_X6_many l G A h a1 a2 a3 X x1 st wt sm ld ln _ _ _ _ _ _ er1) g_RX6_78 hd_X6_many rfl ⟨Nat.le_of_ble_eq_true rfl, Nat.le_of_ble_eq_true rfl⟩ rfl rfl rfl (Nat.le_of_ble_eq_true rfl) ⟨Nat.le_of_ble_eq_true rfl, Nat.le_of_ble_eq_true rfl⟩ dX6_beginsFrame_2 ?_
  refine s_bipush (v := 12) C dX6_beginsFrame_5 (by decide) ?_
  refine s_icmp_ne C 16 dX6_beginsFrame_7 (by decide) (fun c7 => ?_) (fun c7 => ?_)
  · rw [if_neg c7] at hf
    exact B_16 _ _ _ _ _ _ hf
  · rw [if_pos c7] at hf
    refine s_aload_n C 0 dX6_beginsFrame_10 rfl ?_
    refine s_iload_n C 1 dX6_beginsFrame_11 rfl ?_
    refine s_iconst (v := 0) C dX6_beginsFrame_12 (by decide) ?_
    obtain ⟨st9, wt10, sm11, ld12, ln13, er8, hf⟩ := bMv_inv hf
    refine s_cV_V (As := [.int x1, .int 0]) (rest := []) (ci := 6) (q := 0) C (c_X6_remove l G A h a1 a2 a3 X x1 0 st2 wt3 sm4 ld5 ln6 _ _ _ _ _ er8) g_RX6_84 hd_X6_remove rfl ⟨Nat.le_of_ble_eq_true rfl, Nat.le_of_ble_eq_true rfl⟩ rfl rfl rfl (Nat.le_of_ble_eq_true rfl) ⟨Nat.le_of_ble_eq_true rfl, Nat.le_of_ble_eq_true rfl⟩ dX6_beginsFrame_13 ?_
    exact B_16 _ _ _ _ _ _ hf
theorem c_X6_beginsFrame (l : Launch) (G : GG) (A : Nat → Prop) (h : Nat) (a1 : Nat) (a2 : Nat) (a3 : Nat) (X : va_W) (x1 : Int32) (st : Nat → Int32) (wt : Int32) (sm : Int64) (ld : Int32) (ln : Int32) (st0 : Nat → Int32) (wt0 : Int32) (sm0 : Int64) (ld0 : Int32) (ln0 : Int32) (hf : f_X6_beginsFrame x1 st wt sm ld ln = some (st0, wt0, sm0, ld0, ln0)) : MV l yX6_beginsFrame cX6_beginsFrame 2 ({ frames := 3, cells := 0, slots := 0, locals := 65 } : Room) G A (wM G h a1 a2 a3 X st wt sm ld ln) [.ref h, .int x1] (wM G h a1 a2 a3 X st0 wt0 sm0 ld0 ln0) :=
  e_V (by decide) (Nat.le_of_ble_eq_true rfl) (fun Γ C hret => k_X6_beginsFrame C _ _ _ _ _ _ _ _ _ _ _ _ _ _ _ _ hf hret)
def f_X6_lays (x1 : Int32) (st : Nat → Int32) (wt : Int32) (sm : Int64) (ld : Int32) (ln : Int32) : Option ((Nat → Int32) × Int32 × Int64 × Int32 × Int32) :=
  bd ((x1 &&& 255)) fun y1 =>
  wr st 8000 ((ld + 2) + ln) y1 fun st2 =>
  bd ((ln + 1)) fun y3 =>
  wr st2 8000 ld y3 fun st4 =>
  some (st4, wt, sm, ld, y3)
set_option maxHeartbeats 4000000 in
set_option maxRecDepth 100000 in
theorem k_X6_lays {l : Launch} {G : GG} {A : Nat → Prop} {Γ : Cx} (C : CX G A Γ cX6_lays RX6 ({ frames := 0, cells := 0, slots := 0, locals := 0 } : Room) 2) (h : Nat) (a1 : Nat) (a2 : Nat) (a3 : Nat) (X : va_W) (x1 : Int32) (st : Nat → Int32) (wt : Int32) (sm : Int64) (ld : Int32) (ln : Int32) (st0 : Nat → Int32) (wt0 : Int32) (sm0 : Int64) (ld0 : Int32) (ln0 : Int32) (hf : f_X6_lays x1 st wt sm ld ln = some (st0, wt0, sm0, ld0, ln0)) (hret : ∀ (pc : Nat) (lv : List (Nat × Value)), decode cX6_lays pc = .ok (.return_, 1) → St l G A Γ 0 0 (wM G h a1 a2 a3 X st0 wt0 sm0 ld0 ln0) pc lv []) : St l G A Γ 0 0 (wM G h a1 a2 a3 X st wt sm ld ln) 0 [(0, .ref h), (1, .int x1)] [] := by
  unfold f_X6_lays at hf
  refine s_aload_n C 0 dX6_lays_0 rfl ?_
  refine gf_508 C 0 rfl rfl dX6_lays_1 ?_
  refine s_aload_n C 0 dX6_lays_4 rfl ?_
  refine gf_513 C 0 rfl rfl dX6_lays_5 ?_
  refine s_iconst (v := 2) C dX6_lays_8 (by decide) ?_
  refine s_iadd C dX6_lays_9 ?_
  refine s_aload_n C 0 dX6_lays_10 rfl ?_
  refine gf_514 C 0 rfl rfl dX6_lays_11 ?_
  refine s_iadd C dX6_lays_14 ?_
  refine s_iload_n C 1 dX6_lays_15 rfl ?_
  refine s_sipush (v := 255) C dX6_lays_16 (by decide) ?_
  refine s_iand C dX6_lays_19 ?_
  obtain ⟨y1, ey1, hf⟩ := bd_inv hf
  refine s_nmi ey1 ?_
  obtain ⟨st2, hist2, est2, hf⟩ := wr_inv hf
  refine s_iast C 1 rfl hist2 (wM G h a1 a2 a3 X st2 wt sm ld ln) (by rw [est2]; rfl) dX6_lays_20 ?_
  refine s_aload_n C 0 dX6_lays_21 rfl ?_
  refine s_dup C dX6_lays_22 rfl ?_
  refine gf_514 C 0 rfl rfl dX6_lays_23 ?_
  refine s_iconst (v := 1) C dX6_lays_26 (by decide) ?_
  refine s_iadd C dX6_lays_27 ?_
  obtain ⟨y3, ey3, hf⟩ := bd_inv hf
  refine s_nmi ey3 ?_
  refine pf_514 C 0 rfl (vp_nar_int _) rfl (Nat.le_of_ble_eq_true rfl) (wM G h a1 a2 a3 X st2 wt sm ld y3) rfl dX6_lays_28 ?_
  refine s_aload_n C 0 dX6_lays_31 rfl ?_
  refine gf_508 C 0 rfl rfl dX6_lays_32 ?_
  refine s_aload_n C 0 dX6_lays_35 rfl ?_
  refine gf_513 C 0 rfl rfl dX6_lays_36 ?_
  refine s_aload_n C 0 dX6_lays_39 rfl ?_
  refine gf_514 C 0 rfl rfl dX6_lays_40 ?_
  obtain ⟨st4, hist4, est4, hf⟩ := wr_inv hf
  refine s_iast C 1 rfl hist4 (wM G h a1 a2 a3 X st4 wt sm ld y3) (by rw [est4]; rfl) dX6_lays_43 ?_
  exact rM_V hf hret dX6_lays_44
theorem c_X6_lays (l : Launch) (G : GG) (A : Nat → Prop) (h : Nat) (a1 : Nat) (a2 : Nat) (a3 : Nat) (X : va_W) (x1 : Int32) (st : Nat → Int32) (wt : Int32) (sm : Int64) (ld : Int32) (ln : Int32) (st0 : Nat → Int32) (wt0 : Int32) (sm0 : Int64) (ld0 : Int32) (ln0 : Int32) (hf : f_X6_lays x1 st wt sm ld ln = some (st0, wt0, sm0, ld0, ln0)) : MV l yX6_lays cX6_lays 2 ({ frames := 0, cells := 0, slots := 0, locals := 0 } : Room) G A (wM G h a1 a2 a3 X st wt sm ld ln) [.ref h, .int x1] (wM G h a1 a2 a3 X st0 wt0 sm0 ld0 ln0) :=
  e_V (by decide) (Nat.le_of_ble_eq_true rfl) (fun Γ C hret => k_X6_lays C _ _ _ _ _ _ _ _ _ _ _ _ _ _ _ _ hf hret)
