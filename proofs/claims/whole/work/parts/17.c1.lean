def f_X5_isNoSide (x0 : Int32) : Option (Int32) :=
  if x0 < 0 then (some (1))
  else (if x0 < 2 then (some (0))
  else (some (1)))
set_option maxHeartbeats 4000000 in
set_option maxRecDepth 100000 in
theorem k_X5_isNoSide {l : Launch} {G : GG} {A : Nat → Prop} {Γ : Cx} (C : CX G A Γ cX5_isNoSide RX5 ({ frames := 0, cells := 0, slots := 0, locals := 0 } : Room) 1) (ws : va_W) (x0 : Int32) (r0 : Int32)  (hf : f_X5_isNoSide x0 = some (r0)) (hret : ∀ (pc : Nat) (lv : List (Nat × Value)), decode cX5_isNoSide pc = .ok (.ireturn, 1) → narrow .boolean (.int r0) = .int r0 → St l G A Γ 0 0 ws pc lv [.int r0]) : St l G A Γ 0 0 ws 0 [(0, .int x0)] [] := by
  unfold f_X5_isNoSide at hf
  refine s_iload_n C 0 dX5_isNoSide_0 rfl ?_
  refine s_if_lt C 9 dX5_isNoSide_1 (by decide) (fun c1 => ?_) (fun c1 => ?_)
  · rw [if_pos c1] at hf
    refine s_iconst (v := 1) C dX5_isNoSide_9 (by decide) ?_
    refine s_goto C 14 dX5_isNoSide_10 (by decide) ?_
    exact rN_I hf rfl hret dX5_isNoSide_14
  · rw [if_neg c1] at hf
    refine s_iload_n C 0 dX5_isNoSide_4 rfl ?_
    refine s_iconst (v := 2) C dX5_isNoSide_5 (by decide) ?_
    refine s_icmp_lt C 13 dX5_isNoSide_6 (by decide) (fun c2 => ?_) (fun c2 => ?_)
    · rw [if_pos c2] at hf
      refine s_iconst (v := 0) C dX5_isNoSide_13 (by decide) ?_
      exact rN_I hf rfl hret dX5_isNoSide_14
    · rw [if_neg c2] at hf
      refine s_iconst (v := 1) C dX5_isNoSide_9 (by decide) ?_
      refine s_goto C 14 dX5_isNoSide_10 (by decide) ?_
      exact rN_I hf rfl hret dX5_isNoSide_14
theorem c_X5_isNoSide (l : Launch) (G : GG) (A : Nat → Prop) (ws : va_W) (x0 : Int32) (r0 : Int32)  (hf : f_X5_isNoSide x0 = some (r0)) : MI l yX5_isNoSide cX5_isNoSide 1 .boolean ({ frames := 0, cells := 0, slots := 0, locals := 0 } : Room) G A ws [.int x0] r0 ws :=
  e_I (by decide) (Nat.le_of_ble_eq_true rfl) (fun Γ C hret => k_X5_isNoSide C _ _ _ hf hret)
def f_X5_asNumber (x0 : Int32) : Option (Int32) :=
  if x0 = 0 then (some (0))
  else (some (1))
set_option maxHeartbeats 4000000 in
set_option maxRecDepth 100000 in
theorem k_X5_asNumber {l : Launch} {G : GG} {A : Nat → Prop} {Γ : Cx} (C : CX G A Γ cX5_asNumber RX5 ({ frames := 0, cells := 0, slots := 0, locals := 0 } : Room) 1) (ws : va_W) (x0 : Int32) (r0 : Int32)  (hf : f_X5_asNumber x0 = some (r0)) (hret : ∀ (pc : Nat) (lv : List (Nat × Value)), decode cX5_asNumber pc = .ok (.ireturn, 1) → narrow .int (.int r0) = .int r0 → St l G A Γ 0 0 ws pc lv [.int r0]) : St l G A Γ 0 0 ws 0 [(0, .int x0)] [] := by
  unfold f_X5_asNumber at hf
  refine s_iload_n C 0 dX5_asNumber_0 rfl ?_
  refine s_if_eq C 8 dX5_asNumber_1 (by decide) (fun c1 => ?_) (fun c1 => ?_)
  · rw [if_pos c1] at hf
    refine s_iconst (v := 0) C dX5_asNumber_8 (by decide) ?_
    exact rN_I hf (vp_nar_int _) hret dX5_asNumber_9
  · rw [if_neg c1] at hf
    refine s_iconst (v := 1) C dX5_asNumber_4 (by decide) ?_
    refine s_goto C 9 dX5_asNumber_5 (by decide) ?_
    exact rN_I hf (vp_nar_int _) hret dX5_asNumber_9
theorem c_X5_asNumber (l : Launch) (G : GG) (A : Nat → Prop) (ws : va_W) (x0 : Int32) (r0 : Int32)  (hf : f_X5_asNumber x0 = some (r0)) : MI l yX5_asNumber cX5_asNumber 1 .int ({ frames := 0, cells := 0, slots := 0, locals := 0 } : Room) G A ws [.int x0] r0 ws :=
  e_I (by decide) (Nat.le_of_ble_eq_true rfl) (fun Γ C hret => k_X5_asNumber C _ _ _ hf hret)
def f_X5_by64 (x0 : Int32) : Option (Int32) :=
  some ((x0 &&& 63))
set_option maxHeartbeats 4000000 in
set_option maxRecDepth 100000 in
theorem k_X5_by64 {l : Launch} {G : GG} {A : Nat → Prop} {Γ : Cx} (C : CX G A Γ cX5_by64 RX5 ({ frames := 0, cells := 0, slots := 0, locals := 0 } : Room) 1) (ws : va_W) (x0 : Int32) (r0 : Int32)  (hf : f_X5_by64 x0 = some (r0)) (hret : ∀ (pc : Nat) (lv : List (Nat × Value)), decode cX5_by64 pc = .ok (.ireturn, 1) → narrow .int (.int r0) = .int r0 → St l G A Γ 0 0 ws pc lv [.int r0]) : St l G A Γ 0 0 ws 0 [(0, .int x0)] [] := by
  unfold f_X5_by64 at hf
  refine s_iload_n C 0 dX5_by64_0 rfl ?_
  refine s_bipush (v := 63) C dX5_by64_1 (by decide) ?_
  refine s_iand C dX5_by64_3 ?_
  exact rN_I hf (vp_nar_int _) hret dX5_by64_4
theorem c_X5_by64 (l : Launch) (G : GG) (A : Nat → Prop) (ws : va_W) (x0 : Int32) (r0 : Int32)  (hf : f_X5_by64 x0 = some (r0)) : MI l yX5_by64 cX5_by64 1 .int ({ frames := 0, cells := 0, slots := 0, locals := 0 } : Room) G A ws [.int x0] r0 ws :=
  e_I (by decide) (Nat.le_of_ble_eq_true rfl) (fun Γ C hret => k_X5_by64 C _ _ _ hf hret)
def f_X5_turned (x0 : Int64) : Option (Int64) :=
  some ((x0 ^^^ 4294967295))
set_option maxHeartbeats 4000000 in
set_option maxRecDepth 100000 in
theorem k_X5_turned {l : Launch} {G : GG} {A : Nat → Prop} {Γ : Cx} (C : CX G A Γ cX5_turned RX5 ({ frames := 0, cells := 0, slots := 0, locals := 0 } : Room) 2) (ws : va_W) (x0 : Int64) (r0 : Int64)  (hf : f_X5_turned x0 = some (r0)) (hret : ∀ (pc : Nat) (lv : List (Nat × Value)), decode cX5_turned pc = .ok (.lreturn, 1) → St l G A Γ 0 0 ws pc lv [.long r0]) : St l G A Γ 0 0 ws 0 [(0, .long x0)] [] := by
  unfold f_X5_turned at hf
  refine s_lload_n C 0 dX5_turned_0 rfl ?_
  refine s_ldc2 C tw_295 dX5_turned_1 ?_
  refine s_lxor C dX5_turned_4 ?_
  exact rN_L hf hret dX5_turned_5
theorem c_X5_turned (l : Launch) (G : GG) (A : Nat → Prop) (ws : va_W) (x0 : Int64) (r0 : Int64)  (hf : f_X5_turned x0 = some (r0)) : ML l yX5_turned cX5_turned 2 ({ frames := 0, cells := 0, slots := 0, locals := 0 } : Room) G A ws [.long x0] r0 ws :=
  e_L (by decide) (Nat.le_of_ble_eq_true rfl) (fun Γ C hret => k_X5_turned C _ _ _ hf hret)
def f_X3_put (nb : Nat) (x0 : Nat) (x1 : Int32) (x2 : Nat) (x3 : Int32) (x4 : Int32) (sc : Nat → Nat → Int32) (ar : Nat → Nat → Int32) (fr : Nat → Nat → Nat) : Option ((Nat → Nat → Int32) × (Nat → Nat → Int32) × (Nat → Nat → Nat)) :=
  gd (pk nb 3 x0) <|
  cpA nb ar x2 x3 (x0 + 2) (x1 * 24) x4 fun ar2 =>
  wrA nb ar2 (x0 + 1) x1 x4 fun ar3 =>
  some (sc, ar3, fr)
set_option maxHeartbeats 4000000 in
set_option maxRecDepth 100000 in
theorem k_X3_put {l : Launch} {G : GG} {A : Nat → Prop} {Γ : Cx} (C : CX G A Γ cX3_put RX3 ({ frames := 1, cells := 0, slots := 0, locals := 18 } : Room) 5) (ad : Nat → Nat) (X : va_W) (nb : Nat) (x0 : Nat) (x1 : Int32) (x2 : Nat) (x3 : Int32) (x4 : Int32) (sc : Nat → Nat → Int32) (ar : Nat → Nat → Int32) (fr : Nat → Nat → Nat) (sc0 : Nat → Nat → Int32) (ar0 : Nat → Nat → Int32) (fr0 : Nat → Nat → Nat) (hf : f_X3_put nb x0 x1 x2 x3 x4 sc ar fr = some (sc0, ar0, fr0)) (hret : ∀ (pc : Nat) (lv : List (Nat × Value)), decode cX3_put pc = .ok (.return_, 1) → St l G A Γ 0 0 (wC G ad nb X sc0 ar0 fr0) pc lv []) : St l G A Γ 0 0 (wC G ad nb X sc ar fr) 0 [(0, .ref (ad x0)), (1, .int x1), (2, .ref (ad x2)), (3, .int x3), (4, .int x4)] [] := by
  unfold f_X3_put at hf
  refine s_aload_n C 2 dX3_put_0 rfl ?_
  refine s_iload_n C 3 dX3_put_1 rfl ?_
  refine s_aload_n C 0 dX3_put_2 rfl ?_
  obtain ⟨g1, hf⟩ := gd_inv hf
  refine gf_40 C x0 (wC_3 g1) rfl dX3_put_3 ?_
  refine s_iload_n C 1 dX3_put_6 rfl ?_
  refine s_bipush (v := 24) C dX3_put_7 (by decide) ?_
  refine s_imul C dX3_put_9 ?_
  refine s_iload C 4 dX3_put_10 rfl ?_
  obtain ⟨ar2, hkar2, ear2, hf⟩ := cpA_inv hf
  refine s_copy C tw_214 hkar2 ear2 ⟨Nat.le_of_ble_eq_true rfl, Nat.le_of_ble_eq_true rfl⟩ dX3_put_12 ?_
  refine s_aload_n C 0 dX3_put_15 rfl ?_
  refine gf_37 C x0 (wC_3 g1) rfl dX3_put_16 ?_
  refine s_iload_n C 1 dX3_put_19 rfl ?_
  refine s_iload C 4 dX3_put_20 rfl ?_
  obtain ⟨ar3, hkar3, hiar3, ear3, hf⟩ := wrA_inv hf
  refine s_ciast C hkar3 hiar3 ear3 dX3_put_22 ?_
  exact rC_V hf hret dX3_put_23
theorem c_X3_put (l : Launch) (G : GG) (A : Nat → Prop) (ad : Nat → Nat) (X : va_W) (nb : Nat) (x0 : Nat) (x1 : Int32) (x2 : Nat) (x3 : Int32) (x4 : Int32) (sc : Nat → Nat → Int32) (ar : Nat → Nat → Int32) (fr : Nat → Nat → Nat) (sc0 : Nat → Nat → Int32) (ar0 : Nat → Nat → Int32) (fr0 : Nat → Nat → Nat) (hf : f_X3_put nb x0 x1 x2 x3 x4 sc ar fr = some (sc0, ar0, fr0)) : MV l yX3_put cX3_put 5 ({ frames := 1, cells := 0, slots := 0, locals := 18 } : Room) G A (wC G ad nb X sc ar fr) [.ref (ad x0), .int x1, .ref (ad x2), .int x3, .int x4] (wC G ad nb X sc0 ar0 fr0) :=
  e_V (by decide) (Nat.le_of_ble_eq_true rfl) (fun Γ C hret => k_X3_put C _ _ _ _ _ _ _ _ _ _ _ _ _ _ hf hret)
def f_X3_byteOf (nb : Nat) (x0 : Nat) (x1 : Int32) (x2 : Int32) (sc : Nat → Nat → Int32) (ar : Nat → Nat → Int32) (fr : Nat → Nat → Nat) : Option (Int32 × (Nat → Nat → Int32) × (Nat → Nat → Int32) × (Nat → Nat → Nat)) :=
  gd (pk nb 3 x0) <|
  rdA nb ar (x0 + 2) ((x1 * 24) + x2) fun v2 =>
  some (v2, sc, ar, fr)
set_option maxHeartbeats 4000000 in
set_option maxRecDepth 100000 in
theorem k_X3_byteOf {l : Launch} {G : GG} {A : Nat → Prop} {Γ : Cx} (C : CX G A Γ cX3_byteOf RX3 ({ frames := 0, cells := 0, slots := 0, locals := 0 } : Room) 3) (ad : Nat → Nat) (X : va_W) (nb : Nat) (x0 : Nat) (x1 : Int32) (x2 : Int32) (sc : Nat → Nat → Int32) (ar : Nat → Nat → Int32) (fr : Nat → Nat → Nat) (r0 : Int32) (sc0 : Nat → Nat → Int32) (ar0 : Nat → Nat → Int32) (fr0 : Nat → Nat → Nat) (hf : f_X3_byteOf nb x0 x1 x2 sc ar fr = some (r0, sc0, ar0, fr0)) (hret : ∀ (pc : Nat) (lv : List (Nat × Value)), decode cX3_byteOf pc = .ok (.ireturn, 1) → narrow .int (.int r0) = .int r0 → St l G A Γ 0 0 (wC G ad nb X sc0 ar0 fr0) pc lv [.int r0]) : St l G A Γ 0 0 (wC G ad nb X sc ar fr) 0 [(0, .ref (ad x0)), (1, .int x1), (2, .int x2)] [] := by
  unfold f_X3_byteOf at hf
  refine s_aload_n C 0 dX3_byteOf_0 rfl ?_
  obtain ⟨g1, hf⟩ := gd_inv hf
  refine gf_40 C x0 (wC_3 g1) rfl dX3_byteOf_1 ?_
  refine s_iload_n C 1 dX3_byteOf_4 rfl ?_
  refine s_bipush (v := 24) C dX3_byteOf_5 (by decide) ?_
  refine s_imul C dX3_byteOf_7 ?_
  refine s_iload_n C 2 dX3_byteOf_8 rfl ?_
  refine s_iadd C dX3_byteOf_9 ?_
  obtain ⟨v2, hkv2, hiv2, ev2, hf⟩ := rdA_inv hf
  refine s_ciald C hkv2 hiv2 dX3_byteOf_10 ?_
  refine s_nmi ev2 ?_
  exact rC_I hf (vp_nar_int _) hret dX3_byteOf_11
theorem c_X3_byteOf (l : Launch) (G : GG) (A : Nat → Prop) (ad : Nat → Nat) (X : va_W) (nb : Nat) (x0 : Nat) (x1 : Int32) (x2 : Int32) (sc : Nat → Nat → Int32) (ar : Nat → Nat → Int32) (fr : Nat → Nat → Nat) (r0 : Int32) (sc0 : Nat → Nat → Int32) (ar0 : Nat → Nat → Int32) (fr0 : Nat → Nat → Nat) (hf : f_X3_byteOf nb x0 x1 x2 sc ar fr = some (r0, sc0, ar0, fr0)) : MI l yX3_byteOf cX3_byteOf 3 .int ({ frames := 0, cells := 0, slots := 0, locals := 0 } : Room) G A (wC G ad nb X sc ar fr) [.ref (ad x0), .int x1, .int x2] r0 (wC G ad nb X sc0 ar0 fr0) :=
  e_I (by decide) (Nat.le_of_ble_eq_true rfl) (fun Γ C hret => k_X3_byteOf C _ _ _ _ _ _ _ _ _ _ _ _ _ hf hret)
def f_X3_copyFrom (nb : Nat) (x0 : Nat) (x1 : Nat) (sc : Nat → Nat → Int32) (ar : Nat → Nat → Int32) (fr : Nat → Nat → Nat) : Option ((Nat → Nat → Int32) × (Nat → Nat → Int32) × (Nat → Nat → Nat)) :=
  gd (pk nb 3 x1) <|
  gd (pk nb 3 x0) <|
  gd (pk nb 7 (x0 + 1)) <|
  cpA nb ar (x1 + 1) 0 (x0 + 1) 0 (nI (lnA (x0 + 1))) fun ar4 =>
  gd (pk nb 7 (x0 + 2)) <|
  cpA nb ar4 (x1 + 2) 0 (x0 + 2) 0 (nI (lnA (x0 + 2))) fun ar6 =>
  some (sc, ar6, fr)
set_option maxHeartbeats 4000000 in
set_option maxRecDepth 100000 in
theorem k_X3_copyFrom {l : Launch} {G : GG} {A : Nat → Prop} {Γ : Cx} (C : CX G A Γ cX3_copyFrom RX3 ({ frames := 1, cells := 0, slots := 0, locals := 18 } : Room) 2) (ad : Nat → Nat) (X : va_W) (nb : Nat) (x0 : Nat) (x1 : Nat) (sc : Nat → Nat → Int32) (ar : Nat → Nat → Int32) (fr : Nat → Nat → Nat) (sc0 : Nat → Nat → Int32) (ar0 : Nat → Nat → Int32) (fr0 : Nat → Nat → Nat) (hf : f_X3_copyFrom nb x0 x1 sc ar fr = some (sc0, ar0, fr0)) (hret : ∀ (pc : Nat) (lv : List (Nat × Value)), decode cX3_copyFrom pc = .ok (.return_, 1) → St l G A Γ 0 0 (wC G ad nb X sc0 ar0 fr0) pc lv []) : St l G A Γ 0 0 (wC G ad nb X sc ar fr) 0 [(0, .ref (ad x0)), (1, .ref (ad x1))] [] := by
  unfold f_X3_copyFrom at hf
  refine s_aload_n C 1 dX3_copyFrom_0 rfl ?_
  obtain ⟨g1, hf⟩ := gd_inv hf
  refine gf_37 C x1 (wC_3 g1) rfl dX3_copyFrom_1 ?_
  refine s_iconst (v := 0) C dX3_copyFrom_4 (by decide) ?_
  refine s_aload_n C 0 dX3_copyFrom_5 rfl ?_
  obtain ⟨g2, hf⟩ := gd_inv hf
  refine gf_37 C x0 (wC_3 g2) rfl dX3_copyFrom_6 ?_
  refine s_iconst (v := 0) C dX3_copyFrom_9 (by decide) ?_
  refine s_aload_n C 0 dX3_copyFrom_10 rfl ?_
  refine gf_37 C x0 (wC_3 g2) rfl dX3_copyFrom_11 ?_
  obtain ⟨g3, hf⟩ := gd_inv hf
  refine s_calen C g3 dX3_copyFrom_14 ?_
  obtain ⟨ar4, hkar4, ear4, hf⟩ := cpA_inv hf
  refine s_copy C tw_214 hkar4 ear4 ⟨Nat.le_of_ble_eq_true rfl, Nat.le_of_ble_eq_true rfl⟩ dX3_copyFrom_15 ?_
  refine s_aload_n C 1 dX3_copyFrom_18 rfl ?_
  refine gf_40 C x1 (wC_3 g1) rfl dX3_copyFrom_19 ?_
  refine s_iconst (v := 0) C dX3_copyFrom_22 (by decide) ?_
  refine s_aload_n C 0 dX3_copyFrom_23 rfl ?_
  refine gf_40 C x0 (wC_3 g2) rfl dX3_copyFrom_24 ?_
  refine s_iconst (v := 0) C dX3_copyFrom_27 (by decide) ?_
  refine s_aload_n C 0 dX3_copyFrom_28 rfl ?_
  refine gf_40 C x0 (wC_3 g2) rfl dX3_copyFrom_29 ?_
  obtain ⟨g5, hf⟩ := gd_inv hf
  refine s_calen C g5 dX3_copyFrom_32 ?_
  obtain ⟨ar6, hkar6, ear6, hf⟩ := cpA_inv hf
  refine s_copy C tw_214 hkar6 ear6 ⟨Nat.le_of_ble_eq_true rfl, Nat.le_of_ble_eq_true rfl⟩ dX3_copyFrom_33 ?_
  exact rC_V hf hret dX3_copyFrom_36
theorem c_X3_copyFrom (l : Launch) (G : GG) (A : Nat → Prop) (ad : Nat → Nat) (X : va_W) (nb : Nat) (x0 : Nat) (x1 : Nat) (sc : Nat → Nat → Int32) (ar : Nat → Nat → Int32) (fr : Nat → Nat → Nat) (sc0 : Nat → Nat → Int32) (ar0 : Nat → Nat → Int32) (fr0 : Nat → Nat → Nat) (hf : f_X3_copyFrom nb x0 x1 sc ar fr = some (sc0, ar0, fr0)) : MV l yX3_copyFrom cX3_copyFrom 2 ({ frames := 1, cells := 0, slots := 0, locals := 18 } : Room) G A (wC G ad nb X sc ar fr) [.ref (ad x0), .ref (ad x1)] (wC G ad nb X sc0 ar0 fr0) :=
  e_V (by decide) (Nat.le_of_ble_eq_true rfl) (fun Γ C hret => k_X3_copyFrom C _ _ _ _ _ _ _ _ _ _ _ hf hret)
def f_X5_checkOf_80 (nb : Nat) (rec50 : Nat → Int32 → Int64 → Int64 → Int64 → Int32 → Int32 → (Nat → Nat → Int32) → (Nat → Nat → Int32) → (Nat → Nat → Nat) → Option (Int64 × (Nat → Nat → Int32) × (Nat → Nat → Int32) × (Nat → Nat → Nat))) (x1 : Nat) (x3 : Int32) (x4 : Int64) (x6 : Int64) (x10 : Int32) (x11 : Int32) (s0 : Int64) (sc : Nat → Nat → Int32) (ar : Nat → Nat → Int32) (fr : Nat → Nat → Nat) : Option (Int64 × (Nat → Nat → Int32) × (Nat → Nat → Int32) × (Nat → Nat → Nat)) :=
  bd (x11 + 1) fun y9 =>
  rec50 x1 x3 x4 x6 s0 x10 y9 sc ar fr
def f_X5_checkOf_50 (nb : Nat) (rec31 : Nat → Int32 → Int64 → Int64 → Int64 → Int32 → (Nat → Nat → Int32) → (Nat → Nat → Int32) → (Nat → Nat → Nat) → Option (Int64 × (Nat → Nat → Int32) × (Nat → Nat → Int32) × (Nat → Nat → Nat))) : Nat → Nat → Int32 → Int64 → Int64 → Int64 → Int32 → Int32 → (Nat → Nat → Int32) → (Nat → Nat → Int32) → (Nat → Nat → Nat) → Option (Int64 × (Nat → Nat → Int32) × (Nat → Nat → Int32) × (Nat → Nat → Nat))
  | 0, _, _, _, _, _, _, _, _, _, _ => none
  | fu + 1, x1, x3, x4, x6, x8, x10, x11, sc, ar, fr =>
    if 8 ≤ x11 then (bd (x10 + 1) fun y7 =>
    rec31 x1 x3 x4 x6 x8 y7 sc ar fr)
    else (if (lg_cmp (x8 &&& 1) 0) = 0 then (f_X5_checkOf_80 nb (f_X5_checkOf_50 nb rec31 fu) x1 x3 x4 x6 x10 x11 ((((x8 : Int64).toUInt64 >>> ((1 : Int32).toInt64.toUInt64 &&& Int64.toUInt64 63)).toInt64)) sc ar fr)
    else (f_X5_checkOf_80 nb (f_X5_checkOf_50 nb rec31 fu) x1 x3 x4 x6 x10 x11 (((((x8 : Int64).toUInt64 >>> ((1 : Int32).toInt64.toUInt64 &&& Int64.toUInt64 63)).toInt64) ^^^ x4)) sc ar fr))
def f_X5_checkOf_31 (nb : Nat)  : Nat → Nat → Int32 → Int64 → Int64 → Int64 → Int32 → (Nat → Nat → Int32) → (Nat → Nat → Int32) → (Nat → Nat → Nat) → Option (Int64 × (Nat → Nat → Int32) × (Nat → Nat → Int32) × (Nat → Nat → Nat))
  | 0, _, _, _, _, _, _, _, _, _ => none
  | fu + 1, x1, x3, x4, x6, x8, x10, sc, ar, fr =>
    if x3 ≤ x10 then (some ((x8 ^^^ x6), sc, ar, fr))
    else (rdA nb ar x1 x10 fun v4 =>
    bd ((x8 ^^^ ((v4 : Int32).toInt64))) fun y5 =>
    f_X5_checkOf_50 nb (f_X5_checkOf_31 nb fu) FU x1 x3 x4 x6 y5 x10 0 sc ar fr)
def f_X5_checkOf_15 (nb : Nat)  (x0 : Int32) (x1 : Nat) (x2 : Int32) (x3 : Int32) (s0 : Int64) (sc : Nat → Nat → Int32) (ar : Nat → Nat → Int32) (fr : Nat → Nat → Nat) : Option (Int64 × (Nat → Nat → Int32) × (Nat → Nat → Int32) × (Nat → Nat → Nat)) :=
  bd ((((1 <<< ((x0 : Int32).toInt64 &&& 63))) - 1)) fun y2 =>
  f_X5_checkOf_31 nb FU x1 x3 s0 y2 y2 x2 sc ar fr
def f_X5_checkOf (nb : Nat) (x0 : Int32) (x1 : Nat) (x2 : Int32) (x3 : Int32) (sc : Nat → Nat → Int32) (ar : Nat → Nat → Int32) (fr : Nat → Nat → Nat) : Option (Int64 × (Nat → Nat → Int32) × (Nat → Nat → Int32) × (Nat → Nat → Nat)) :=
  if x0 = 32 then (f_X5_checkOf_15 nb x0 x1 x2 x3 3988292384 sc ar fr)
  else (f_X5_checkOf_15 nb x0 x1 x2 x3 53256 sc ar fr)
set_option maxHeartbeats 4000000 in
set_option maxRecDepth 100000 in
theorem k_X5_checkOf {l : Launch} {G : GG} {A : Nat → Prop} {Γ : Cx} (C : CX G A Γ cX5_checkOf RX5 ({ frames := 0, cells := 0, slots := 0, locals := 0 } : Room) 12) (ad : Nat → Nat) (X : va_W) (nb : Nat) (x0 : Int32) (x1 : Nat) (x2 : Int32) (x3 : Int32) (sc : Nat → Nat → Int32) (ar : Nat → Nat → Int32) (fr : Nat → Nat → Nat) (r0 : Int64) (sc0 : Nat → Nat → Int32) (ar0 : Nat → Nat → Int32) (fr0 : Nat → Nat → Nat) (hf : f_X5_checkOf nb x0 x1 x2 x3 sc ar fr = some (r0, sc0, ar0, fr0)) (hret : ∀ (pc : Nat) (lv : List (Nat × Value)), decode cX5_checkOf pc = .ok (.lreturn, 1) → St l G A Γ 0 0 (wC G ad nb X sc0 ar0 fr0) pc lv [.long r0]) : St l G A Γ 0 0 (wC G ad nb X sc ar fr) 0 [(0, .int x0), (1, .ref (ad x1)), (2, .int x2), (3, .int x3)] [] := by
  have B_80 : ∀ (rec50 : Nat → Int32 → Int64 → Int64 → Int64 → Int32 → Int32 → (Nat → Nat → Int32) → (Nat → Nat → Int32) → (Nat → Nat → Nat) → Option (Int64 × (Nat → Nat → Int32) × (Nat → Nat → Int32) × (Nat → Nat → Nat))) (x1 : Nat) (x3 : Int32) (x4 : Int64) (x6 : Int64) (x10 : Int32) (x11 : Int32) (s0 : Int64) (sc : Nat → Nat → Int32) (ar : Nat → Nat → Int32) (fr : Nat → Nat → Nat), f_X5_checkOf_80 nb rec50 x1 x3 x4 x6 x10 x11 s0 sc ar fr = some (r0, sc0, ar0, fr0) → (∀ (x1 : Nat) (x3 : Int32) (x4 : Int64) (x6 : Int64) (x8 : Int64) (x10 : Int32) (x11 : Int32) (sc : Nat → Nat → Int32) (ar : Nat → Nat → Int32) (fr : Nat → Nat → Nat), rec50 x1 x3 x4 x6 x8 x10 x11 sc ar fr = some (r0, sc0, ar0, fr0) → St l G A Γ 0 0 (wC G ad nb X sc ar fr) 50 [(1, .ref (ad x1)), (3, .int x3), (4, .long x4), (6, .long x6), (8, .long x8), (10, .int x10), (11, .int x11)] []) → St l G A Γ 0 0 (wC G ad nb X sc ar fr) 80 [(1, .ref (ad x1)), (3, .int x3), (4, .long x4), (6, .long x6), (10, .int x10), (11, .int x11)] [.long s0] := by
    intro rec50 x1 x3 x4 x6 x10 x11 s0 sc ar fr hf hrec50
    unfold f_X5_checkOf_80 at hf
    refine s_lstore C [(8, .long s0), (1, .ref (ad x1)), (3, .int x3), (4, .long x4), (6, .long x6), (10, .int x10), (11, .int x11)] dX5_checkOf_80 (by decide) rfl ?_
    obtain ⟨y9, ey9, hf⟩ := bd_inv hf
    refine s_iinc (v := y9) C 6 [(11, .int y9), (8, .long s0), (1, .ref (ad x1)), (3, .int x3), (4, .long x4), (6, .long x6), (10, .int x10)] dX5_checkOf_82 rfl (by rw [ey9]; rfl) (by decide) rfl ?_
    refine s_goto C 50 dX5_checkOf_85 (by decide) ?_
    refine s_lv [2, 3, 4, 5, 1, 6, 0] rfl ?_
    exact hrec50 _ _ _ _ _ _ _ _ _ _ hf
  have B_50 : ∀ (rec31 : Nat → Int32 → Int64 → Int64 → Int64 → Int32 → (Nat → Nat → Int32) → (Nat → Nat → Int32) → (Nat → Nat → Nat) → Option (Int64 × (Nat → Nat → Int32) × (Nat → Nat → Int32) × (Nat → Nat → Nat))) (fu : Nat) (x1 : Nat) (x3 : Int32) (x4 : Int64) (x6 : Int64) (x8 : Int64) (x10 : Int32) (x11 : Int32) (sc : Nat → Nat → Int32) (ar : Nat → Nat → Int32) (fr : Nat → Nat → Nat), f_X5_checkOf_50 nb rec31 fu x1 x3 x4 x6 x8 x10 x11 sc ar fr = some (r0, sc0, ar0, fr0) → (∀ (x1 : Nat) (x3 : Int32) (x4 : Int64) (x6 : Int64) (x8 : Int64) (x10 : Int32) (sc : Nat → Nat → Int32) (ar : Nat → Nat → Int32) (fr : Nat → Nat → Nat), rec31 x1 x3 x4 x6 x8 x10 sc ar fr = some (r0, sc0, ar0, fr0) → St l G A Γ 0 0 (wC G ad nb X sc ar fr) 31 [(1, .ref (ad x1)), (3, .int x3), (4, .long x4), (6, .long x6), (8, .long x8), (10, .int x10)] []) → St l G A Γ 0 0 (wC G ad nb X sc ar fr) 50 [(1, .ref (ad x1)), (3, .int x3), (4, .long x4), (6, .long x6), (8, .long x8), (10, .int x10), (11, .int x11)] [] := by
    intro rec31 fu
    induction fu with
    | zero => intro x1 x3 x4 x6 x8 x10 x11 sc ar fr hf hrec31; rw [f_X5_checkOf_50] at hf; cases hf
    | succ fu ih =>
      intro x1 x3 x4 x6 x8 x10 x11 sc ar fr hf hrec31
      replace ih := fun x1 x3 x4 x6 x8 x10 x11 sc ar fr q => ih x1 x3 x4 x6 x8 x10 x11 sc ar fr q hrec31
      rw [f_X5_checkOf_50] at hf
      refine s_iload C 6 dX5_checkOf_50 rfl ?_
      refine s_bipush (v := 8) C dX5_checkOf_52 (by decide) ?_
      refine s_icmp_ge C 88 dX5_checkOf_54 (by decide) (fun c6 => ?_) (fun c6 => ?_)
      · rw [if_pos c6] at hf
        obtain ⟨y7, ey7, hf⟩ := bd_inv hf
        refine s_iinc (v := y7) C 5 [(10, .int y7), (1, .ref (ad x1)), (3, .int x3), (4, .long x4), (6, .long x6), (8, .long x8), (11, .int x11)] dX5_checkOf_88 rfl (by rw [ey7]; rfl) (by decide) rfl ?_
        refine s_goto C 31 dX5_checkOf_91 (by decide) ?_
        refine s_lv [1, 2, 3, 4, 5, 0] rfl ?_
        exact hrec31 _ _ _ _ _ _ _ _ _ hf
      · rw [if_neg c6] at hf
        refine s_lload C 4 dX5_checkOf_57 rfl ?_
        refine s_lconst (v := 1) C dX5_checkOf_59 (by decide) ?_
        refine s_land C dX5_checkOf_60 ?_
        refine s_lconst (v := 0) C dX5_checkOf_61 (by decide) ?_
        refine s_lcmp C dX5_checkOf_62 ?_
        refine s_if_ne C 73 dX5_checkOf_63 (by decide) (fun c8 => ?_) (fun c8 => ?_)
        · rw [if_neg c8] at hf
          refine s_lload C 4 dX5_checkOf_73 rfl ?_
          refine s_iconst (v := 1) C dX5_checkOf_75 (by decide) ?_
          refine s_lushr C dX5_checkOf_76 ?_
          refine s_lload C 2 dX5_checkOf_77 rfl ?_
          refine s_lxor C dX5_checkOf_79 ?_
          refine s_lv [0, 1, 2, 3, 5, 6] rfl ?_
          exact B_80 _ _ _ _ _ _ _ _ _ _ _ hf ih
        · rw [if_pos c8] at hf
          refine s_lload C 4 dX5_checkOf_66 rfl ?_
          refine s_iconst (v := 1) C dX5_checkOf_68 (by decide) ?_
          refine s_lushr C dX5_checkOf_69 ?_
          refine s_goto C 80 dX5_checkOf_70 (by decide) ?_
          refine s_lv [0, 1, 2, 3, 5, 6] rfl ?_
          exact B_80 _ _ _ _ _ _ _ _ _ _ _ hf ih
  have B_31 : ∀  (fu : Nat) (x1 : Nat) (x3 : Int32) (x4 : Int64) (x6 : Int64) (x8 : Int64) (x10 : Int32) (sc : Nat → Nat → Int32) (ar : Nat → Nat → Int32) (fr : Nat → Nat → Nat), f_X5_checkOf_31 nb fu x1 x3 x4 x6 x8 x10 sc ar fr = some (r0, sc0, ar0, fr0) → St l G A Γ 0 0 (wC G ad nb X sc ar fr) 31 [(1, .ref (ad x1)), (3, .int x3), (4, .long x4), (6, .long x6), (8, .long x8), (10, .int x10)] [] := by
    intro fu
    induction fu with
    | zero => intro x1 x3 x4 x6 x8 x10 sc ar fr hf ; rw [f_X5_checkOf_31] at hf; cases hf
    | succ fu ih =>
      intro x1 x3 x4 x6 x8 x10 sc ar fr hf 
      rw [f_X5_checkOf_31] at hf
      refine s_iload C 5 dX5_checkOf_31 rfl ?_
      refine s_iload_n C 1 dX5_checkOf_33 rfl ?_
      refine s_icmp_ge C 94 dX5_checkOf_34 (by decide) (fun c3 => ?_) (fun c3 => ?_)
      · rw [if_pos c3] at hf
        refine s_lload C 4 dX5_checkOf_94 rfl ?_
        refine s_lload C 3 dX5_checkOf_96 rfl ?_
        refine s_lxor C dX5_checkOf_98 ?_
        exact rC_L hf hret dX5_checkOf_99
      · rw [if_neg c3] at hf
        refine s_lload C 4 dX5_checkOf_37 rfl ?_
        refine s_aload_n C 0 dX5_checkOf_39 rfl ?_
        refine s_iload C 5 dX5_checkOf_40 rfl ?_
        obtain ⟨v4, hkv4, hiv4, ev4, hf⟩ := rdA_inv hf
        refine s_ciald C hkv4 hiv4 dX5_checkOf_42 ?_
        refine s_nmi ev4 ?_
        refine s_i2l C dX5_checkOf_43 ?_
        refine s_lxor C dX5_checkOf_44 ?_
        obtain ⟨y5, ey5, hf⟩ := bd_inv hf
        refine s_nml ey5 ?_
        refine s_lstore C [(8, .long y5), (1, .ref (ad x1)), (3, .int x3), (4, .long x4), (6, .long x6), (10, .int x10)] dX5_checkOf_45 (by decide) rfl ?_
        refine s_iconst (v := 0) C dX5_checkOf_47 (by decide) ?_
        refine s_istore C [(11, .int 0), (8, .long y5), (1, .ref (ad x1)), (3, .int x3), (4, .long x4), (6, .long x6), (10, .int x10)] dX5_checkOf_48 (by decide) rfl ?_
        refine s_lv [2, 3, 4, 5, 1, 6, 0] rfl ?_
        exact B_50 _ _ _ _ _ _ _ _ _ _ _ _ hf ih
  have B_15 : ∀  (x0 : Int32) (x1 : Nat) (x2 : Int32) (x3 : Int32) (s0 : Int64) (sc : Nat → Nat → Int32) (ar : Nat → Nat → Int32) (fr : Nat → Nat → Nat), f_X5_checkOf_15 nb x0 x1 x2 x3 s0 sc ar fr = some (r0, sc0, ar0, fr0) → St l G A Γ 0 0 (wC G ad nb X sc ar fr) 15 [(0, .int x0), (1, .ref (ad x1)), (2, .int x2), (3, .int x3)] [.long s0] := by
    intro  x0 x1 x2 x3 s0 sc ar fr hf 
    unfold f_X5_checkOf_15 at hf
    refine s_lstore C [(4, .long s0), (0, .int x0), (1, .ref (ad x1)), (2, .int x2), (3, .int x3)] dX5_checkOf_15 (by decide) rfl ?_
    refine s_lconst (v := 1) C dX5_checkOf_17 (by decide) ?_
    refine s_iload_n C 1 dX5_checkOf_18 rfl ?_
    refine s_lshl C dX5_checkOf_19 ?_
    refine s_lconst (v := 1) C dX5_checkOf_20 (by decide) ?_
    refine s_lsub C dX5_checkOf_21 ?_
    obtain ⟨y2, ey2, hf⟩ := bd_inv hf
    refine s_nml ey2 ?_
    refine s_lstore C [(6, .long y2), (4, .long s0), (0, .int x0), (1, .ref (ad x1)), (2, .int x2), (3, .int x3)] dX5_checkOf_22 (by decide) rfl ?_
    refine s_lload C 0 dX5_checkOf_24 rfl ?_
    refine s_lstore C [(8, .long y2), (6, .long y2), (4, .long s0), (0, .int x0), (1, .ref (ad x1)), (2, .int x2), (3, .int x3)] dX5_checkOf_26 (by decide) rfl ?_
    refine s_iload_n C 5 dX5_checkOf_28 rfl ?_
    refine s_istore C [(10, .int x2), (8, .long y2), (6, .long y2), (4, .long s0), (0, .int x0), (1, .ref (ad x1)), (2, .int x2), (3, .int x3)] dX5_checkOf_29 (by decide) rfl ?_
    refine s_lv [5, 7, 3, 2, 1, 0] rfl ?_
    exact B_31 _ _ _ _ _ _ _ _ _ _ hf
  unfold f_X5_checkOf at hf
  refine s_iload_n C 0 dX5_checkOf_0 rfl ?_
  refine s_bipush (v := 32) C dX5_checkOf_1 (by decide) ?_
  refine s_icmp_ne C 12 dX5_checkOf_3 (by decide) (fun c1 => ?_) (fun c1 => ?_)
  · rw [if_neg c1] at hf
    refine s_ldc2 C tw_226 dX5_checkOf_12 ?_
    exact B_15 _ _ _ _ _ _ _ _ hf
  · rw [if_pos c1] at hf
    refine s_ldc2 C tw_225 dX5_checkOf_6 ?_
    refine s_goto C 15 dX5_checkOf_9 (by decide) ?_
    exact B_15 _ _ _ _ _ _ _ _ hf
theorem c_X5_checkOf (l : Launch) (G : GG) (A : Nat → Prop) (ad : Nat → Nat) (X : va_W) (nb : Nat) (x0 : Int32) (x1 : Nat) (x2 : Int32) (x3 : Int32) (sc : Nat → Nat → Int32) (ar : Nat → Nat → Int32) (fr : Nat → Nat → Nat) (r0 : Int64) (sc0 : Nat → Nat → Int32) (ar0 : Nat → Nat → Int32) (fr0 : Nat → Nat → Nat) (hf : f_X5_checkOf nb x0 x1 x2 x3 sc ar fr = some (r0, sc0, ar0, fr0)) : ML l yX5_checkOf cX5_checkOf 12 ({ frames := 0, cells := 0, slots := 0, locals := 0 } : Room) G A (wC G ad nb X sc ar fr) [.int x0, .ref (ad x1), .int x2, .int x3] r0 (wC G ad nb X sc0 ar0 fr0) :=
  e_L (by decide) (Nat.le_of_ble_eq_true rfl) (fun Γ C hret => k_X5_checkOf C _ _ _ _ _ _ _ _ _ _ _ _ _ _ hf hret)
def f_X1_number (nb : Nat) (x0 : Nat) (sc : Nat → Nat → Int32) (ar : Nat → Nat → Int32) (fr : Nat → Nat → Nat) : Option (Int32 × (Nat → Nat → Int32) × (Nat → Nat → Int32) × (Nat → Nat → Nat)) :=
  gd (pk nb 1 x0) <|
  rdA nb ar (x0 + 1) 2 fun v2 =>
  some (v2, sc, ar, fr)
set_option maxHeartbeats 4000000 in
set_option maxRecDepth 100000 in
theorem k_X1_number {l : Launch} {G : GG} {A : Nat → Prop} {Γ : Cx} (C : CX G A Γ cX1_number RX1 ({ frames := 0, cells := 0, slots := 0, locals := 0 } : Room) 1) (ad : Nat → Nat) (X : va_W) (nb : Nat) (x0 : Nat) (sc : Nat → Nat → Int32) (ar : Nat → Nat → Int32) (fr : Nat → Nat → Nat) (r0 : Int32) (sc0 : Nat → Nat → Int32) (ar0 : Nat → Nat → Int32) (fr0 : Nat → Nat → Nat) (hf : f_X1_number nb x0 sc ar fr = some (r0, sc0, ar0, fr0)) (hret : ∀ (pc : Nat) (lv : List (Nat × Value)), decode cX1_number pc = .ok (.ireturn, 1) → narrow .int (.int r0) = .int r0 → St l G A Γ 0 0 (wC G ad nb X sc0 ar0 fr0) pc lv [.int r0]) : St l G A Γ 0 0 (wC G ad nb X sc ar fr) 0 [(0, .ref (ad x0))] [] := by
  unfold f_X1_number at hf
  refine s_aload_n C 0 dX1_number_0 rfl ?_
  obtain ⟨g1, hf⟩ := gd_inv hf
  refine gf_124 C x0 (wC_1 g1) rfl dX1_number_1 ?_
  refine s_iconst (v := 2) C dX1_number_4 (by decide) ?_
  obtain ⟨v2, hkv2, hiv2, ev2, hf⟩ := rdA_inv hf
  refine s_ciald C hkv2 hiv2 dX1_number_5 ?_
  refine s_nmi ev2 ?_
  exact rC_I hf (vp_nar_int _) hret dX1_number_6
theorem c_X1_number (l : Launch) (G : GG) (A : Nat → Prop) (ad : Nat → Nat) (X : va_W) (nb : Nat) (x0 : Nat) (sc : Nat → Nat → Int32) (ar : Nat → Nat → Int32) (fr : Nat → Nat → Nat) (r0 : Int32) (sc0 : Nat → Nat → Int32) (ar0 : Nat → Nat → Int32) (fr0 : Nat → Nat → Nat) (hf : f_X1_number nb x0 sc ar fr = some (r0, sc0, ar0, fr0)) : MI l yX1_number cX1_number 1 .int ({ frames := 0, cells := 0, slots := 0, locals := 0 } : Room) G A (wC G ad nb X sc ar fr) [.ref (ad x0)] r0 (wC G ad nb X sc0 ar0 fr0) :=
  e_I (by decide) (Nat.le_of_ble_eq_true rfl) (fun Γ C hret => k_X1_number C _ _ _ _ _ _ _ _ _ _ _ hf hret)
def f_X1_packetLength (nb : Nat) (x0 : Nat) (sc : Nat → Nat → Int32) (ar : Nat → Nat → Int32) (fr : Nat → Nat → Nat) : Option (Int32 × (Nat → Nat → Int32) × (Nat → Nat → Int32) × (Nat → Nat → Nat)) :=
  gd (pk nb 1 x0) <|
  some ((((sc x0 1) - 3) - 5), sc, ar, fr)
set_option maxHeartbeats 4000000 in
set_option maxRecDepth 100000 in
theorem k_X1_packetLength {l : Launch} {G : GG} {A : Nat → Prop} {Γ : Cx} (C : CX G A Γ cX1_packetLength RX1 ({ frames := 0, cells := 0, slots := 0, locals := 0 } : Room) 1) (ad : Nat → Nat) (X : va_W) (nb : Nat) (x0 : Nat) (sc : Nat → Nat → Int32) (ar : Nat → Nat → Int32) (fr : Nat → Nat → Nat) (r0 : Int32) (sc0 : Nat → Nat → Int32) (ar0 : Nat → Nat → Int32) (fr0 : Nat → Nat → Nat) (hf : f_X1_packetLength nb x0 sc ar fr = some (r0, sc0, ar0, fr0)) (hret : ∀ (pc : Nat) (lv : List (Nat × Value)), decode cX1_packetLength pc = .ok (.ireturn, 1) → narrow .int (.int r0) = .int r0 → St l G A Γ 0 0 (wC G ad nb X sc0 ar0 fr0) pc lv [.int r0]) : St l G A Γ 0 0 (wC G ad nb X sc ar fr) 0 [(0, .ref (ad x0))] [] := by
  unfold f_X1_packetLength at hf
  refine s_aload_n C 0 dX1_packetLength_0 rfl ?_
  obtain ⟨g1, hf⟩ := gd_inv hf
  refine gf_127 C x0 (wC_1 g1) rfl dX1_packetLength_1 ?_
  refine s_iconst (v := 3) C dX1_packetLength_4 (by decide) ?_
  refine s_isub C dX1_packetLength_5 ?_
  refine s_iconst (v := 5) C dX1_packetLength_6 (by decide) ?_
  refine s_isub C dX1_packetLength_7 ?_
  exact rC_I hf (vp_nar_int _) hret dX1_packetLength_8
theorem c_X1_packetLength (l : Launch) (G : GG) (A : Nat → Prop) (ad : Nat → Nat) (X : va_W) (nb : Nat) (x0 : Nat) (sc : Nat → Nat → Int32) (ar : Nat → Nat → Int32) (fr : Nat → Nat → Nat) (r0 : Int32) (sc0 : Nat → Nat → Int32) (ar0 : Nat → Nat → Int32) (fr0 : Nat → Nat → Nat) (hf : f_X1_packetLength nb x0 sc ar fr = some (r0, sc0, ar0, fr0)) : MI l yX1_packetLength cX1_packetLength 1 .int ({ frames := 0, cells := 0, slots := 0, locals := 0 } : Room) G A (wC G ad nb X sc ar fr) [.ref (ad x0)] r0 (wC G ad nb X sc0 ar0 fr0) :=
  e_I (by decide) (Nat.le_of_ble_eq_true rfl) (fun Γ C hret => k_X1_packetLength C _ _ _ _ _ _ _ _ _ _ _ hf hret)
def f_X1_writeLowestFirst_3 (nb : Nat)  : Nat → Nat → Int32 → Int32 → Int64 → Int32 → (Nat → Nat → Int32) → (Nat → Nat → Int32) → (Nat → Nat → Nat) → Option ((Nat → Nat → Int32) × (Nat → Nat → Int32) × (Nat → Nat → Nat))
  | 0, _, _, _, _, _, _, _, _ => none
  | fu + 1, x0, x1, x2, x3, x5, sc, ar, fr =>
    if x2 ≤ x5 then (some (sc, ar, fr))
    else (gd (pk nb 1 x0) <|
    bd (((((((x3 : Int64).toUInt64 >>> (((8 * x5) : Int32).toInt64.toUInt64 &&& Int64.toUInt64 63)).toInt64) : Int64).toInt32) &&& 255)) fun y3 =>
    wrA nb ar (x0 + 1) (x1 + x5) y3 fun ar4 =>
    bd (x5 + 1) fun y5 =>
    f_X1_writeLowestFirst_3 nb fu x0 x1 x2 x3 y5 sc ar4 fr)
def f_X1_writeLowestFirst (nb : Nat) (x0 : Nat) (x1 : Int32) (x2 : Int32) (x3 : Int64) (sc : Nat → Nat → Int32) (ar : Nat → Nat → Int32) (fr : Nat → Nat → Nat) : Option ((Nat → Nat → Int32) × (Nat → Nat → Int32) × (Nat → Nat → Nat)) :=
  f_X1_writeLowestFirst_3 nb FU x0 x1 x2 x3 0 sc ar fr
set_option maxHeartbeats 4000000 in
set_option maxRecDepth 100000 in
theorem k_X1_writeLowestFirst {l : Launch} {G : GG} {A : Nat → Prop} {Γ : Cx} (C : CX G A Γ cX1_writeLowestFirst RX1 ({ frames := 0, cells := 0, slots := 0, locals := 0 } : Room) 6) (ad : Nat → Nat) (X : va_W) (nb : Nat) (x0 : Nat) (x1 : Int32) (x2 : Int32) (x3 : Int64) (sc : Nat → Nat → Int32) (ar : Nat → Nat → Int32) (fr : Nat → Nat → Nat) (sc0 : Nat → Nat → Int32) (ar0 : Nat → Nat → Int32) (fr0 : Nat → Nat → Nat) (hf : f_X1_writeLowestFirst nb x0 x1 x2 x3 sc ar fr = some (sc0, ar0, fr0)) (hret : ∀ (pc : Nat) (lv : List (Nat × Value)), decode cX1_writeLowestFirst pc = .ok (.return_, 1) → St l G A Γ 0 0 (wC G ad nb X sc0 ar0 fr0) pc lv []) : St l G A Γ 0 0 (wC G ad nb X sc ar fr) 0 [(0, .ref (ad x0)), (1, .int x1), (2, .int x2), (3, .long x3)] [] := by
  have B_3 : ∀  (fu : Nat) (x0 : Nat) (x1 : Int32) (x2 : Int32) (x3 : Int64) (x5 : Int32) (sc : Nat → Nat → Int32) (ar : Nat → Nat → Int32) (fr : Nat → Nat → Nat), f_X1_writeLowestFirst_3 nb fu x0 x1 x2 x3 x5 sc ar fr = some (sc0, ar0, fr0) → St l G A Γ 0 0 (wC G ad nb X sc ar fr) 3 [(0, .ref (ad x0)), (1, .int x1), (2, .int x2), (3, .long x3), (5, .int x5)] [] := by
    intro fu
    induction fu with
    | zero => intro x0 x1 x2 x3 x5 sc ar fr hf ; rw [f_X1_writeLowestFirst_3] at hf; cases hf
    | succ fu ih =>
      intro x0 x1 x2 x3 x5 sc ar fr hf 
      rw [f_X1_writeLowestFirst_3] at hf
      refine s_iload C 4 dX1_writeLowestFirst_3 rfl ?_
      refine s_iload_n C 2 dX1_writeLowestFirst_5 rfl ?_
      refine s_icmp_ge C 36 dX1_writeLowestFirst_6 (by decide) (fun c1 => ?_) (fun c1 => ?_)
      · rw [if_pos c1] at hf
        exact rC_V hf hret dX1_writeLowestFirst_36
      · rw [if_neg c1] at hf
        refine s_aload_n C 0 dX1_writeLowestFirst_9 rfl ?_
        obtain ⟨g2, hf⟩ := gd_inv hf
        refine gf_124 C x0 (wC_1 g2) rfl dX1_writeLowestFirst_10 ?_
        refine s_iload_n C 1 dX1_writeLowestFirst_13 rfl ?_
        refine s_iload C 4 dX1_writeLowestFirst_14 rfl ?_
        refine s_iadd C dX1_writeLowestFirst_16 ?_
        refine s_lload_n C 3 dX1_writeLowestFirst_17 rfl ?_
        refine s_bipush (v := 8) C dX1_writeLowestFirst_18 (by decide) ?_
        refine s_iload C 4 dX1_writeLowestFirst_20 rfl ?_
        refine s_imul C dX1_writeLowestFirst_22 ?_
        refine s_lushr C dX1_writeLowestFirst_23 ?_
        refine s_l2i C dX1_writeLowestFirst_24 ?_
        refine s_sipush (v := 255) C dX1_writeLowestFirst_25 (by decide) ?_
        refine s_iand C dX1_writeLowestFirst_28 ?_
        obtain ⟨y3, ey3, hf⟩ := bd_inv hf
        refine s_nmi ey3 ?_
        obtain ⟨ar4, hkar4, hiar4, ear4, hf⟩ := wrA_inv hf
        refine s_ciast C hkar4 hiar4 ear4 dX1_writeLowestFirst_29 ?_
        obtain ⟨y5, ey5, hf⟩ := bd_inv hf
        refine s_iinc (v := y5) C 4 [(5, .int y5), (0, .ref (ad x0)), (1, .int x1), (2, .int x2), (3, .long x3)] dX1_writeLowestFirst_30 rfl (by rw [ey5]; rfl) (by decide) rfl ?_
        refine s_goto C 3 dX1_writeLowestFirst_33 (by decide) ?_
        refine s_lv [1, 2, 3, 4, 0] rfl ?_
        exact ih _ _ _ _ _ _ _ _ hf
  unfold f_X1_writeLowestFirst at hf
  refine s_iconst (v := 0) C dX1_writeLowestFirst_0 (by decide) ?_
  refine s_istore C [(5, .int 0), (0, .ref (ad x0)), (1, .int x1), (2, .int x2), (3, .long x3)] dX1_writeLowestFirst_1 (by decide) rfl ?_
  refine s_lv [1, 2, 3, 4, 0] rfl ?_
  exact B_3 _ _ _ _ _ _ _ _ _ hf
theorem c_X1_writeLowestFirst (l : Launch) (G : GG) (A : Nat → Prop) (ad : Nat → Nat) (X : va_W) (nb : Nat) (x0 : Nat) (x1 : Int32) (x2 : Int32) (x3 : Int64) (sc : Nat → Nat → Int32) (ar : Nat → Nat → Int32) (fr : Nat → Nat → Nat) (sc0 : Nat → Nat → Int32) (ar0 : Nat → Nat → Int32) (fr0 : Nat → Nat → Nat) (hf : f_X1_writeLowestFirst nb x0 x1 x2 x3 sc ar fr = some (sc0, ar0, fr0)) : MV l yX1_writeLowestFirst cX1_writeLowestFirst 6 ({ frames := 0, cells := 0, slots := 0, locals := 0 } : Room) G A (wC G ad nb X sc ar fr) [.ref (ad x0), .int x1, .int x2, .long x3] (wC G ad nb X sc0 ar0 fr0) :=
  e_V (by decide) (Nat.le_of_ble_eq_true rfl) (fun Γ C hret => k_X1_writeLowestFirst C _ _ _ _ _ _ _ _ _ _ _ _ _ hf hret)
def f_X1_readLowestFirst_5 (nb : Nat)  : Nat → Nat → Int32 → Int32 → Int64 → Int32 → (Nat → Nat → Int32) → (Nat → Nat → Int32) → (Nat → Nat → Nat) → Option (Int64 × (Nat → Nat → Int32) × (Nat → Nat → Int32) × (Nat → Nat → Nat))
  | 0, _, _, _, _, _, _, _, _ => none
  | fu + 1, x0, x1, x2, x3, x5, sc, ar, fr =>
    if x2 ≤ x5 then (some (x3, sc, ar, fr))
    else (gd (pk nb 1 x0) <|
    rdA nb ar (x0 + 1) (x1 + x5) fun v3 =>
    bd ((x3 ||| ((((v3 : Int32).toInt64) <<< (((8 * x5) : Int32).toInt64 &&& 63))))) fun y4 =>
    bd (x5 + 1) fun y5 =>
    f_X1_readLowestFirst_5 nb fu x0 x1 x2 y4 y5 sc ar fr)
def f_X1_readLowestFirst (nb : Nat) (x0 : Nat) (x1 : Int32) (x2 : Int32) (sc : Nat → Nat → Int32) (ar : Nat → Nat → Int32) (fr : Nat → Nat → Nat) : Option (Int64 × (Nat → Nat → Int32) × (Nat → Nat → Int32) × (Nat → Nat → Nat)) :=
  f_X1_readLowestFirst_5 nb FU x0 x1 x2 0 0 sc ar fr
set_option maxHeartbeats 4000000 in
set_option maxRecDepth 100000 in
theorem k_X1_readLowestFirst {l : Launch} {G : GG} {A : Nat → Prop} {Γ : Cx} (C : CX G A Γ cX1_readLowestFirst RX1 ({ frames := 0, cells := 0, slots := 0, locals := 0 } : Room) 6) (ad : Nat → Nat) (X : va_W) (nb : Nat) (x0 : Nat) (x1 : Int32) (x2 : Int32) (sc : Nat → Nat → Int32) (ar : Nat → Nat → Int32) (fr : Nat → Nat → Nat) (r0 : Int64) (sc0 : Nat → Nat → Int32) (ar0 : Nat → Nat → Int32) (fr0 : Nat → Nat → Nat) (hf : f_X1_readLowestFirst nb x0 x1 x2 sc ar fr = some (r0, sc0, ar0, fr0)) (hret : ∀ (pc : Nat) (lv : List (Nat × Value)), decode cX1_readLowestFirst pc = .ok (.lreturn, 1) → St l G A Γ 0 0 (wC G ad nb X sc0 ar0 fr0) pc lv [.long r0]) : St l G A Γ 0 0 (wC G ad nb X sc ar fr) 0 [(0, .ref (ad x0)), (1, .int x1), (2, .int x2)] [] := by
  have B_5 : ∀  (fu : Nat) (x0 : Nat) (x1 : Int32) (x2 : Int32) (x3 : Int64) (x5 : Int32) (sc : Nat → Nat → Int32) (ar : Nat → Nat → Int32) (fr : Nat → Nat → Nat), f_X1_readLowestFirst_5 nb fu x0 x1 x2 x3 x5 sc ar fr = some (r0, sc0, ar0, fr0) → St l G A Γ 0 0 (wC G ad nb X sc ar fr) 5 [(0, .ref (ad x0)), (1, .int x1), (2, .int x2), (3, .long x3), (5, .int x5)] [] := by
    intro fu
    induction fu with
    | zero => intro x0 x1 x2 x3 x5 sc ar fr hf ; rw [f_X1_readLowestFirst_5] at hf; cases hf
    | succ fu ih =>
      intro x0 x1 x2 x3 x5 sc ar fr hf 
      rw [f_X1_readLowestFirst_5] at hf
      refine s_iload C 4 dX1_readLowestFirst_5 rfl ?_
      refine s_iload_n C 2 dX1_readLowestFirst_7 rfl ?_
      refine s_icmp_ge C 36 dX1_readLowestFirst_8 (by decide) (fun c1 => ?_) (fun c1 => ?_)
      · rw [if_pos c1] at hf
        refine s_lload_n C 3 dX1_readLowestFirst_36 rfl ?_
        exact rC_L hf hret dX1_readLowestFirst_37
      · rw [if_neg c1] at hf
        refine s_lload_n C 3 dX1_readLowestFirst_11 rfl ?_
        refine s_aload_n C 0 dX1_readLowestFirst_12 rfl ?_
        obtain ⟨g2, hf⟩ := gd_inv hf
        refine gf_124 C x0 (wC_1 g2) rfl dX1_readLowestFirst_13 ?_
        refine s_iload_n C 1 dX1_readLowestFirst_16 rfl ?_
        refine s_iload C 4 dX1_readLowestFirst_17 rfl ?_
        refine s_iadd C dX1_readLowestFirst_19 ?_
        obtain ⟨v3, hkv3, hiv3, ev3, hf⟩ := rdA_inv hf
        refine s_ciald C hkv3 hiv3 dX1_readLowestFirst_20 ?_
        refine s_nmi ev3 ?_
        refine s_i2l C dX1_readLowestFirst_21 ?_
        refine s_bipush (v := 8) C dX1_readLowestFirst_22 (by decide) ?_
        refine s_iload C 4 dX1_readLowestFirst_24 rfl ?_
        refine s_imul C dX1_readLowestFirst_26 ?_
        refine s_lshl C dX1_readLowestFirst_27 ?_
        refine s_lor C dX1_readLowestFirst_28 ?_
        obtain ⟨y4, ey4, hf⟩ := bd_inv hf
        refine s_nml ey4 ?_
        refine s_lstore_n C [(3, .long y4), (0, .ref (ad x0)), (1, .int x1), (2, .int x2), (5, .int x5)] dX1_readLowestFirst_29 (by decide) rfl ?_
        obtain ⟨y5, ey5, hf⟩ := bd_inv hf
        refine s_iinc (v := y5) C 4 [(5, .int y5), (3, .long y4), (0, .ref (ad x0)), (1, .int x1), (2, .int x2)] dX1_readLowestFirst_30 rfl (by rw [ey5]; rfl) (by decide) rfl ?_
        refine s_goto C 5 dX1_readLowestFirst_33 (by decide) ?_
        refine s_lv [2, 3, 4, 1, 0] rfl ?_
        exact ih _ _ _ _ _ _ _ _ hf
  unfold f_X1_readLowestFirst at hf
  refine s_lconst (v := 0) C dX1_readLowestFirst_0 (by decide) ?_
  refine s_lstore_n C [(3, .long 0), (0, .ref (ad x0)), (1, .int x1), (2, .int x2)] dX1_readLowestFirst_1 (by decide) rfl ?_
  refine s_iconst (v := 0) C dX1_readLowestFirst_2 (by decide) ?_
  refine s_istore C [(5, .int 0), (3, .long 0), (0, .ref (ad x0)), (1, .int x1), (2, .int x2)] dX1_readLowestFirst_3 (by decide) rfl ?_
  refine s_lv [2, 3, 4, 1, 0] rfl ?_
  exact B_5 _ _ _ _ _ _ _ _ _ hf
theorem c_X1_readLowestFirst (l : Launch) (G : GG) (A : Nat → Prop) (ad : Nat → Nat) (X : va_W) (nb : Nat) (x0 : Nat) (x1 : Int32) (x2 : Int32) (sc : Nat → Nat → Int32) (ar : Nat → Nat → Int32) (fr : Nat → Nat → Nat) (r0 : Int64) (sc0 : Nat → Nat → Int32) (ar0 : Nat → Nat → Int32) (fr0 : Nat → Nat → Nat) (hf : f_X1_readLowestFirst nb x0 x1 x2 sc ar fr = some (r0, sc0, ar0, fr0)) : ML l yX1_readLowestFirst cX1_readLowestFirst 6 ({ frames := 0, cells := 0, slots := 0, locals := 0 } : Room) G A (wC G ad nb X sc ar fr) [.ref (ad x0), .int x1, .int x2] r0 (wC G ad nb X sc0 ar0 fr0) :=
  e_L (by decide) (Nat.le_of_ble_eq_true rfl) (fun Γ C hret => k_X1_readLowestFirst C _ _ _ _ _ _ _ _ _ _ _ _ _ hf hret)
def f_X1_writeWord_24 (nb : Nat)  (x0 : Nat) (x2 : Int32) (s0 : Int32) (s1 : Int32) (s2 : Nat) (sc : Nat → Nat → Int32) (ar : Nat → Nat → Int32) (fr : Nat → Nat → Nat) : Option ((Nat → Nat → Int32) × (Nat → Nat → Int32) × (Nat → Nat → Nat)) :=
  wrA nb ar s2 s1 s0 fun ar4 =>
  gd (pk nb 1 x0) <|
  wrA nb ar4 (x0 + 1) 2 x2 fun ar6 =>
  bC (f_X5_checkOf nb 16 (x0 + 1) 1 3 sc ar6 fr) fun r7 sc8 ar9 fr10 =>
  bCv (f_X1_writeLowestFirst nb x0 3 2 r7 sc8 ar9 fr10) fun sc12 ar13 fr14 =>
  wrA nb ar13 (x0 + 1) 5 253 fun ar15 =>
  bd (up2 sc12 x0 1 6) fun sc16 =>
  some (sc16, ar15, fr14)
def f_X1_writeWord (nb : Nat) (x0 : Nat) (x1 : Int32) (x2 : Int32) (sc : Nat → Nat → Int32) (ar : Nat → Nat → Int32) (fr : Nat → Nat → Nat) : Option ((Nat → Nat → Int32) × (Nat → Nat → Int32) × (Nat → Nat → Nat)) :=
  gd (pk nb 1 x0) <|
  wrA nb ar (x0 + 1) 0 92 fun ar2 =>
  if x1 = 3 then (f_X1_writeWord_24 nb x0 x2 16 1 ((x0 + 1)) sc ar2 fr)
  else (f_X1_writeWord_24 nb x0 x2 0 1 ((x0 + 1)) sc ar2 fr)
set_option maxHeartbeats 4000000 in
set_option maxRecDepth 100000 in
theorem k_X1_writeWord {l : Launch} {G : GG} {A : Nat → Prop} {Γ : Cx} (C : CX G A Γ cX1_writeWord RX1 ({ frames := 1, cells := 0, slots := 0, locals := 31 } : Room) 3) (ad : Nat → Nat) (X : va_W) (nb : Nat) (x0 : Nat) (x1 : Int32) (x2 : Int32) (sc : Nat → Nat → Int32) (ar : Nat → Nat → Int32) (fr : Nat → Nat → Nat) (sc0 : Nat → Nat → Int32) (ar0 : Nat → Nat → Int32) (fr0 : Nat → Nat → Nat) (hf : f_X1_writeWord nb x0 x1 x2 sc ar fr = some (sc0, ar0, fr0)) (hret : ∀ (pc : Nat) (lv : List (Nat × Value)), decode cX1_writeWord pc = .ok (.return_, 1) → St l G A Γ 0 0 (wC G ad nb X sc0 ar0 fr0) pc lv []) : St l G A Γ 0 0 (wC G ad nb X sc ar fr) 0 [(0, .ref (ad x0)), (1, .int x1), (2, .int x2)] [] := by
  have B_24 : ∀  (x0 : Nat) (x2 : Int32) (s0 : Int32) (s1 : Int32) (s2 : Nat) (sc : Nat → Nat → Int32) (ar : Nat → Nat → Int32) (fr : Nat → Nat → Nat), f_X1_writeWord_24 nb x0 x2 s0 s1 s2 sc ar fr = some (sc0, ar0, fr0) → St l G A Γ 0 0 (wC G ad nb X sc ar fr) 24 [(0, .ref (ad x0)), (2, .int x2)] [.int s0, .int s1, .ref (ad s2)] := by
    intro  x0 x2 s0 s1 s2 sc ar fr hf 
    unfold f_X1_writeWord_24 at hf
    obtain ⟨ar4, hkar4, hiar4, ear4, hf⟩ := wrA_inv hf
    refine s_ciast C hkar4 hiar4 ear4 dX1_writeWord_24 ?_
    refine s_aload_n C 0 dX1_writeWord_25 rfl ?_
    obtain ⟨g5, hf⟩ := gd_inv hf
    refine gf_124 C x0 (wC_1 g5) rfl dX1_writeWord_26 ?_
    refine s_iconst (v := 2) C dX1_writeWord_29 (by decide) ?_
    refine s_iload_n C 1 dX1_writeWord_30 rfl ?_
    obtain ⟨ar6, hkar6, hiar6, ear6, hf⟩ := wrA_inv hf
    refine s_ciast C hkar6 hiar6 ear6 dX1_writeWord_31 ?_
    refine s_aload_n C 0 dX1_writeWord_32 rfl ?_
    refine s_iconst (v := 3) C dX1_writeWord_33 (by decide) ?_
    refine s_iconst (v := 2) C dX1_writeWord_34 (by decide) ?_
    refine s_bipush (v := 16) C dX1_writeWord_35 (by decide) ?_
    refine s_aload_n C 0 dX1_writeWord_37 rfl ?_
    refine gf_124 C x0 (wC_1 g5) rfl dX1_writeWord_38 ?_
    refine s_iconst (v := 1) C dX1_writeWord_41 (by decide) ?_
    refine s_iconst (v := 3) C dX1_writeWord_42 (by decide) ?_
    obtain ⟨r7, sc8, ar9, fr10, er7, hf⟩ := bC_inv hf
    refine s_cSN_L (As := [.int 16, .ref (ad (x0 + 1)), .int 1, .int 3]) (rest := [.int 2, .int 3, .ref (ad x0)]) C (c_X5_checkOf l G A ad X nb 16 (x0 + 1) 1 3 sc ar6 fr _ _ _ _ er7) (gd_C tw_224) tw_1 tn_283 tw_223 hd_X5_checkOf.2 rfl ⟨Nat.le_of_ble_eq_true rfl, Nat.le_of_ble_eq_true rfl⟩ rfl (Nat.le_of_ble_eq_true rfl) ⟨Nat.le_of_ble_eq_true rfl, Nat.le_of_ble_eq_true rfl⟩ dX1_writeWord_43 ?_
    obtain ⟨sc12, ar13, fr14, er11, hf⟩ := bCv_inv hf
    refine s_cV_V (As := [.int 3, .int 2, .long r7]) (rest := []) (ci := 1) (q := x0) C (c_X1_writeLowestFirst l G A ad X nb x0 3 2 r7 sc8 ar9 fr10 _ _ _ er11) g_RX1_19 hd_X1_writeLowestFirst rfl ⟨Nat.le_of_ble_eq_true rfl, Nat.le_of_ble_eq_true rfl⟩ rfl (wC_1 g5) rfl (Nat.le_of_ble_eq_true rfl) ⟨Nat.le_of_ble_eq_true rfl, Nat.le_of_ble_eq_true rfl⟩ dX1_writeWord_46 ?_
    refine s_aload_n C 0 dX1_writeWord_49 rfl ?_
    refine gf_124 C x0 (wC_1 g5) rfl dX1_writeWord_50 ?_
    refine s_iconst (v := 5) C dX1_writeWord_53 (by decide) ?_
    refine s_sipush (v := 253) C dX1_writeWord_54 (by decide) ?_
    obtain ⟨ar15, hkar15, hiar15, ear15, hf⟩ := wrA_inv hf
    refine s_ciast C hkar15 hiar15 ear15 dX1_writeWord_57 ?_
    refine s_aload_n C 0 dX1_writeWord_58 rfl ?_
    refine s_bipush (v := 6) C dX1_writeWord_59 (by decide) ?_
    obtain ⟨sc16, esc16, hf⟩ := bd_inv hf
    refine pf_127 C x0 (wC_1 g5) (vp_nar_int _) rfl (Nat.le_of_ble_eq_true rfl) (wC G ad nb X sc16 ar15 fr14) (wC_s1_1 g5 esc16) dX1_writeWord_61 ?_
    exact rC_V hf hret dX1_writeWord_64
  unfold f_X1_writeWord at hf
  refine s_aload_n C 0 dX1_writeWord_0 rfl ?_
  obtain ⟨g1, hf⟩ := gd_inv hf
  refine gf_124 C x0 (wC_1 g1) rfl dX1_writeWord_1 ?_
  refine s_iconst (v := 0) C dX1_writeWord_4 (by decide) ?_
  refine s_bipush (v := 92) C dX1_writeWord_5 (by decide) ?_
  obtain ⟨ar2, hkar2, hiar2, ear2, hf⟩ := wrA_inv hf
  refine s_ciast C hkar2 hiar2 ear2 dX1_writeWord_7 ?_
  refine s_aload_n C 0 dX1_writeWord_8 rfl ?_
  refine gf_124 C x0 (wC_1 g1) rfl dX1_writeWord_9 ?_
  refine s_iconst (v := 1) C dX1_writeWord_12 (by decide) ?_
  refine s_iload_n C 1 dX1_writeWord_13 rfl ?_
  refine s_iconst (v := 3) C dX1_writeWord_14 (by decide) ?_
  refine s_icmp_ne C 23 dX1_writeWord_15 (by decide) (fun c3 => ?_) (fun c3 => ?_)
  · rw [if_neg c3] at hf
    refine s_iconst (v := 0) C dX1_writeWord_23 (by decide) ?_
    refine s_lv [0, 2] rfl ?_
    exact B_24 _ _ _ _ _ _ _ _ hf
  · rw [if_pos c3] at hf
    refine s_bipush (v := 16) C dX1_writeWord_18 (by decide) ?_
    refine s_goto C 24 dX1_writeWord_20 (by decide) ?_
    refine s_lv [0, 2] rfl ?_
    exact B_24 _ _ _ _ _ _ _ _ hf
theorem c_X1_writeWord (l : Launch) (G : GG) (A : Nat → Prop) (ad : Nat → Nat) (X : va_W) (nb : Nat) (x0 : Nat) (x1 : Int32) (x2 : Int32) (sc : Nat → Nat → Int32) (ar : Nat → Nat → Int32) (fr : Nat → Nat → Nat) (sc0 : Nat → Nat → Int32) (ar0 : Nat → Nat → Int32) (fr0 : Nat → Nat → Nat) (hf : f_X1_writeWord nb x0 x1 x2 sc ar fr = some (sc0, ar0, fr0)) : MV l yX1_writeWord cX1_writeWord 3 ({ frames := 1, cells := 0, slots := 0, locals := 31 } : Room) G A (wC G ad nb X sc ar fr) [.ref (ad x0), .int x1, .int x2] (wC G ad nb X sc0 ar0 fr0) :=
  e_V (by decide) (Nat.le_of_ble_eq_true rfl) (fun Γ C hret => k_X1_writeWord C _ _ _ _ _ _ _ _ _ _ _ _ hf hret)
def f_X1_writePacket_90 (nb : Nat)  (x0 : Nat) (x1 : Int32) (x6 : Int32) (s0 : Int64) (s1 : Int32) (s2 : Int32) (s3 : Nat) (sc : Nat → Nat → Int32) (ar : Nat → Nat → Int32) (fr : Nat → Nat → Nat) : Option ((Nat → Nat → Int32) × (Nat → Nat → Int32) × (Nat → Nat → Nat)) :=
  gd (pk nb 1 s3) <|
  bCv (f_X1_writeLowestFirst nb s3 s2 s1 s0 sc ar fr) fun sc16 ar17 fr18 =>
  gd (pk nb 1 x0) <|
  if x1 = 1 then (wrA nb ar17 (x0 + 1) (x6 + 4) 254 fun ar25 =>
  bd ((x6 + 5)) fun y26 =>
  bd (up2 sc16 x0 1 y26) fun sc27 =>
  some (sc27, ar25, fr18))
  else (wrA nb ar17 (x0 + 1) (x6 + 4) 253 fun ar22 =>
  bd ((x6 + 5)) fun y23 =>
  bd (up2 sc16 x0 1 y23) fun sc24 =>
  some (sc24, ar22, fr18))
def f_X1_writePacket (nb : Nat) (x0 : Nat) (x1 : Int32) (x2 : Int32) (x3 : Nat) (x4 : Int32) (sc : Nat → Nat → Int32) (ar : Nat → Nat → Int32) (fr : Nat → Nat → Nat) : Option ((Nat → Nat → Int32) × (Nat → Nat → Int32) × (Nat → Nat → Nat)) :=
  gd (pk nb 3 x3) <|
  rdA nb ar (x3 + 1) x4 fun v2 =>
  bd ((3 + v2)) fun y3 =>
  gd (pk nb 1 x0) <|
  wrA nb ar (x0 + 1) 0 251 fun ar5 =>
  wrA nb ar5 (x0 + 1) 1 0 fun ar6 =>
  wrA nb ar6 (x0 + 1) 2 x2 fun ar7 =>
  cpA nb ar7 (x3 + 2) (x4 * 24) (x0 + 1) 3 v2 fun ar8 =>
  bC (f_X5_checkOf nb 32 (x0 + 1) 1 y3 sc ar8 fr) fun r9 sc10 ar11 fr12 =>
  if x1 = 1 then (bx (f_X5_turned r9) fun r14 =>
  f_X1_writePacket_90 nb x0 x1 y3 r14 4 y3 x0 sc10 ar11 fr12)
  else (f_X1_writePacket_90 nb x0 x1 y3 r9 4 y3 x0 sc10 ar11 fr12)
set_option maxHeartbeats 4000000 in
set_option maxRecDepth 100000 in
theorem k_X1_writePacket {l : Launch} {G : GG} {A : Nat → Prop} {Γ : Cx} (C : CX G A Γ cX1_writePacket RX1 ({ frames := 1, cells := 0, slots := 0, locals := 31 } : Room) 9) (ad : Nat → Nat) (X : va_W) (nb : Nat) (x0 : Nat) (x1 : Int32) (x2 : Int32) (x3 : Nat) (x4 : Int32) (sc : Nat → Nat → Int32) (ar : Nat → Nat → Int32) (fr : Nat → Nat → Nat) (sc0 : Nat → Nat → Int32) (ar0 : Nat → Nat → Int32) (fr0 : Nat → Nat → Nat) (hf : f_X1_writePacket nb x0 x1 x2 x3 x4 sc ar fr = some (sc0, ar0, fr0)) (hret : ∀ (pc : Nat) (lv : List (Nat × Value)), decode cX1_writePacket pc = .ok (.return_, 1) → St l G A Γ 0 0 (wC G ad nb X sc0 ar0 fr0) pc lv []) : St l G A Γ 0 0 (wC G ad nb X sc ar fr) 0 [(0, .ref (ad x0)), (1, .int x1), (2, .int x2), (3, .ref (ad x3)), (4, .int x4)] [] := by
  have B_90 : ∀  (x0 : Nat) (x1 : Int32) (x6 : Int32) (s0 : Int64) (s1 : Int32) (s2 : Int32) (s3 : Nat) (sc : Nat → Nat → Int32) (ar : Nat → Nat → Int32) (fr : Nat → Nat → Nat), f_X1_writePacket_90 nb x0 x1 x6 s0 s1 s2 s3 sc ar fr = some (sc0, ar0, fr0) → St l G A Γ 0 0 (wC G ad nb X sc ar fr) 90 [(0, .ref (ad x0)), (1, .int x1), (6, .int x6)] [.long s0, .int s1, .int s2, .ref (ad s3)] := by
    intro  x0 x1 x6 s0 s1 s2 s3 sc ar fr hf 
    unfold f_X1_writePacket_90 at hf
    obtain ⟨g19, hf⟩ := gd_inv hf
    obtain ⟨sc16, ar17, fr18, er15, hf⟩ := bCv_inv hf
    refine s_cV_V (As := [.int s2, .int s1, .long s0]) (rest := []) (ci := 1) (q := s3) C (c_X1_writeLowestFirst l G A ad X nb s3 s2 s1 s0 sc ar fr _ _ _ er15) g_RX1_19 hd_X1_writeLowestFirst rfl ⟨Nat.le_of_ble_eq_true rfl, Nat.le_of_ble_eq_true rfl⟩ rfl (wC_1 g19) rfl (Nat.le_of_ble_eq_true rfl) ⟨Nat.le_of_ble_eq_true rfl, Nat.le_of_ble_eq_true rfl⟩ dX1_writePacket_90 ?_
    refine s_aload_n C 0 dX1_writePacket_93 rfl ?_
    obtain ⟨g20, hf⟩ := gd_inv hf
    refine gf_124 C x0 (wC_1 g20) rfl dX1_writePacket_94 ?_
    refine s_iload C 2 dX1_writePacket_97 rfl ?_
    refine s_iconst (v := 4) C dX1_writePacket_99 (by decide) ?_
    refine s_iadd C dX1_writePacket_100 ?_
    refine s_iload_n C 1 dX1_writePacket_101 rfl ?_
    refine s_iconst (v := 1) C dX1_writePacket_102 (by decide) ?_
    refine s_icmp_ne C 112 dX1_writePacket_103 (by decide) (fun c21 => ?_) (fun c21 => ?_)
    · rw [if_neg c21] at hf
      refine s_sipush (v := 253) C dX1_writePacket_112 (by decide) ?_
      obtain ⟨ar22, hkar22, hiar22, ear22, hf⟩ := wrA_inv hf
      refine s_ciast C hkar22 hiar22 ear22 dX1_writePacket_115 ?_
      refine s_aload_n C 0 dX1_writePacket_116 rfl ?_
      refine s_iload C 2 dX1_writePacket_117 rfl ?_
      refine s_iconst (v := 5) C dX1_writePacket_119 (by decide) ?_
      refine s_iadd C dX1_writePacket_120 ?_
      obtain ⟨y23, ey23, hf⟩ := bd_inv hf
      refine s_nmi ey23 ?_
      obtain ⟨sc24, esc24, hf⟩ := bd_inv hf
      refine pf_127 C x0 (wC_1 g20) (vp_nar_int _) rfl (Nat.le_of_ble_eq_true rfl) (wC G ad nb X sc24 ar22 fr18) (wC_s1_1 g20 esc24) dX1_writePacket_121 ?_
      exact rC_V hf hret dX1_writePacket_124
    · rw [if_pos c21] at hf
      refine s_sipush (v := 254) C dX1_writePacket_106 (by decide) ?_
      refine s_goto C 115 dX1_writePacket_109 (by decide) ?_
      obtain ⟨ar25, hkar25, hiar25, ear25, hf⟩ := wrA_inv hf
      refine s_ciast C hkar25 hiar25 ear25 dX1_writePacket_115 ?_
      refine s_aload_n C 0 dX1_writePacket_116 rfl ?_
      refine s_iload C 2 dX1_writePacket_117 rfl ?_
      refine s_iconst (v := 5) C dX1_writePacket_119 (by decide) ?_
      refine s_iadd C dX1_writePacket_120 ?_
      obtain ⟨y26, ey26, hf⟩ := bd_inv hf
      refine s_nmi ey26 ?_
      obtain ⟨sc27, esc27, hf⟩ := bd_inv hf
      refine pf_127 C x0 (wC_1 g20) (vp_nar_int _) rfl (Nat.le_of_ble_eq_true rfl) (wC G ad nb X sc27 ar25 fr18) (wC_s1_1 g20 esc27) dX1_writePacket_121 ?_
      exact rC_V hf hret dX1_writePacket_124
  unfold f_X1_writePacket at hf
  refine s_aload_n C 3 dX1_writePacket_0 rfl ?_
  obtain ⟨g1, hf⟩ := gd_inv hf
  refine gf_38 C x3 (wC_3 g1) rfl dX1_writePacket_1 ?_
  refine s_iload C 4 dX1_writePacket_4 rfl ?_
  obtain ⟨v2, hkv2, hiv2, ev2, hf⟩ := rdA_inv hf
  refine s_ciald C hkv2 hiv2 dX1_writePacket_6 ?_
  refine s_nmi ev2 ?_
  refine s_istore C [(5, .int v2), (0, .ref (ad x0)), (1, .int x1), (2, .int x2), (3, .ref (ad x3)), (4, .int x4)] dX1_writePacket_7 (by decide) rfl ?_
  refine s_iconst (v := 3) C dX1_writePacket_9 (by decide) ?_
  refine s_iload C 0 dX1_writePacket_10 rfl ?_
  refine s_iadd C dX1_writePacket_12 ?_
  obtain ⟨y3, ey3, hf⟩ := bd_inv hf
  refine s_nmi ey3 ?_
  refine s_istore C [(6, .int y3), (5, .int v2), (0, .ref (ad x0)), (1, .int x1), (2, .int x2), (3, .ref (ad x3)), (4, .int x4)] dX1_writePacket_13 (by decide) rfl ?_
  refine s_aload_n C 2 dX1_writePacket_15 rfl ?_
  obtain ⟨g4, hf⟩ := gd_inv hf
  refine gf_124 C x0 (wC_1 g4) rfl dX1_writePacket_16 ?_
  refine s_iconst (v := 0) C dX1_writePacket_19 (by decide) ?_
  refine s_sipush (v := 251) C dX1_writePacket_20 (by decide) ?_
  obtain ⟨ar5, hkar5, hiar5, ear5, hf⟩ := wrA_inv hf
  refine s_ciast C hkar5 hiar5 ear5 dX1_writePacket_23 ?_
  refine s_aload_n C 2 dX1_writePacket_24 rfl ?_
  refine gf_124 C x0 (wC_1 g4) rfl dX1_writePacket_25 ?_
  refine s_iconst (v := 1) C dX1_writePacket_28 (by decide) ?_
  refine s_iconst (v := 0) C dX1_writePacket_29 (by decide) ?_
  obtain ⟨ar6, hkar6, hiar6, ear6, hf⟩ := wrA_inv hf
  refine s_ciast C hkar6 hiar6 ear6 dX1_writePacket_30 ?_
  refine s_aload_n C 2 dX1_writePacket_31 rfl ?_
  refine gf_124 C x0 (wC_1 g4) rfl dX1_writePacket_32 ?_
  refine s_iconst (v := 2) C dX1_writePacket_35 (by decide) ?_
  refine s_iload_n C 4 dX1_writePacket_36 rfl ?_
  obtain ⟨ar7, hkar7, hiar7, ear7, hf⟩ := wrA_inv hf
  refine s_ciast C hkar7 hiar7 ear7 dX1_writePacket_37 ?_
  refine s_aload_n C 5 dX1_writePacket_38 rfl ?_
  refine gf_41 C x3 (wC_3 g1) rfl dX1_writePacket_39 ?_
  refine s_iload C 6 dX1_writePacket_42 rfl ?_
  refine s_bipush (v := 24) C dX1_writePacket_44 (by decide) ?_
  refine s_imul C dX1_writePacket_46 ?_
  refine s_aload_n C 2 dX1_writePacket_47 rfl ?_
  refine gf_124 C x0 (wC_1 g4) rfl dX1_writePacket_48 ?_
  refine s_iconst (v := 3) C dX1_writePacket_51 (by decide) ?_
  refine s_iload C 1 dX1_writePacket_52 rfl ?_
  obtain ⟨ar8, hkar8, ear8, hf⟩ := cpA_inv hf
  refine s_copy C tw_383 hkar8 ear8 ⟨Nat.le_of_ble_eq_true rfl, Nat.le_of_ble_eq_true rfl⟩ dX1_writePacket_54 ?_
  refine s_bipush (v := 32) C dX1_writePacket_57 (by decide) ?_
  refine s_aload_n C 2 dX1_writePacket_59 rfl ?_
  refine gf_124 C x0 (wC_1 g4) rfl dX1_writePacket_60 ?_
  refine s_iconst (v := 1) C dX1_writePacket_63 (by decide) ?_
  refine s_iload C 0 dX1_writePacket_64 rfl ?_
  obtain ⟨r9, sc10, ar11, fr12, er9, hf⟩ := bC_inv hf
  refine s_cSN_L (As := [.int 32, .ref (ad (x0 + 1)), .int 1, .int y3]) (rest := []) C (c_X5_checkOf l G A ad X nb 32 (x0 + 1) 1 y3 sc ar8 fr _ _ _ _ er9) (gd_C tw_224) tw_1 tn_283 tw_223 hd_X5_checkOf.2 rfl ⟨Nat.le_of_ble_eq_true rfl, Nat.le_of_ble_eq_true rfl⟩ rfl (Nat.le_of_ble_eq_true rfl) ⟨Nat.le_of_ble_eq_true rfl, Nat.le_of_ble_eq_true rfl⟩ dX1_writePacket_66 ?_
  refine s_lstore C [(7, .long r9), (6, .int y3), (5, .int v2), (0, .ref (ad x0)), (1, .int x1), (2, .int x2), (3, .ref (ad x3)), (4, .int x4)] dX1_writePacket_69 (by decide) rfl ?_
  refine s_aload_n C 3 dX1_writePacket_71 rfl ?_
  refine s_iload C 1 dX1_writePacket_72 rfl ?_
  refine s_iconst (v := 4) C dX1_writePacket_74 (by decide) ?_
  refine s_iload_n C 4 dX1_writePacket_75 rfl ?_
  refine s_iconst (v := 1) C dX1_writePacket_76 (by decide) ?_
  refine s_icmp_ne C 88 dX1_writePacket_77 (by decide) (fun c13 => ?_) (fun c13 => ?_)
  · rw [if_neg c13] at hf
    refine s_lload C 0 dX1_writePacket_88 rfl ?_
    refine s_lv [3, 4, 1] rfl ?_
    exact B_90 _ _ _ _ _ _ _ _ _ _ hf
  · rw [if_pos c13] at hf
    refine s_lload C 0 dX1_writePacket_80 rfl ?_
    obtain ⟨r14, er14, hf⟩ := bx_inv hf
    refine s_cSN_L (As := [.long r9]) (rest := [.int 4, .int y3, .ref (ad x0)]) C (c_X5_turned l G A _ r9 _ er14) (gd_C tw_294) tw_1 tn_292 tw_293 hd_X5_turned.2 rfl ⟨Nat.le_of_ble_eq_true rfl, Nat.le_of_ble_eq_true rfl⟩ rfl (Nat.le_of_ble_eq_true rfl) ⟨Nat.le_of_ble_eq_true rfl, Nat.le_of_ble_eq_true rfl⟩ dX1_writePacket_82 ?_
    refine s_goto C 90 dX1_writePacket_85 (by decide) ?_
    refine s_lv [3, 4, 1] rfl ?_
    exact B_90 _ _ _ _ _ _ _ _ _ _ hf
theorem c_X1_writePacket (l : Launch) (G : GG) (A : Nat → Prop) (ad : Nat → Nat) (X : va_W) (nb : Nat) (x0 : Nat) (x1 : Int32) (x2 : Int32) (x3 : Nat) (x4 : Int32) (sc : Nat → Nat → Int32) (ar : Nat → Nat → Int32) (fr : Nat → Nat → Nat) (sc0 : Nat → Nat → Int32) (ar0 : Nat → Nat → Int32) (fr0 : Nat → Nat → Nat) (hf : f_X1_writePacket nb x0 x1 x2 x3 x4 sc ar fr = some (sc0, ar0, fr0)) : MV l yX1_writePacket cX1_writePacket 9 ({ frames := 1, cells := 0, slots := 0, locals := 31 } : Room) G A (wC G ad nb X sc ar fr) [.ref (ad x0), .int x1, .int x2, .ref (ad x3), .int x4] (wC G ad nb X sc0 ar0 fr0) :=
  e_V (by decide) (Nat.le_of_ble_eq_true rfl) (fun Γ C hret => k_X1_writePacket C _ _ _ _ _ _ _ _ _ _ _ _ _ _ hf hret)
def f_X1_readAsWord (nb : Nat) (x0 : Nat) (sc : Nat → Nat → Int32) (ar : Nat → Nat → Int32) (fr : Nat → Nat → Nat) : Option (Int32 × (Nat → Nat → Int32) × (Nat → Nat → Int32) × (Nat → Nat → Nat)) :=
  gd (pk nb 1 x0) <|
  if (sc x0 1) = 6 then (rdA nb ar (x0 + 1) 5 fun v3 =>
  if v3 = 253 then (bC (f_X1_number nb x0 sc ar fr) fun r5 sc6 ar7 fr8 =>
  if 63 < r5 then (some (5, sc6, ar7, fr8))
  else (bC (f_X1_readLowestFirst nb x0 3 2 sc6 ar7 fr8) fun r10 sc11 ar12 fr13 =>
  bC (f_X5_checkOf nb 16 (x0 + 1) 1 3 sc11 ar12 fr13) fun r14 sc15 ar16 fr17 =>
  if (lg_cmp r10 r14) = 0 then (rdA nb ar16 (x0 + 1) 1 fun v19 =>
  if (v19 : Int32) = 0 then (some (2, sc15, ar16, fr17))
  else if (v19 : Int32) = 16 then (some (3, sc15, ar16, fr17))
  else (some (5, sc15, ar16, fr17)))
  else (some (5, sc15, ar16, fr17))))
  else (some (5, sc, ar, fr)))
  else (some (5, sc, ar, fr))
set_option maxHeartbeats 4000000 in
set_option maxRecDepth 100000 in
theorem k_X1_readAsWord {l : Launch} {G : GG} {A : Nat → Prop} {Γ : Cx} (C : CX G A Γ cX1_readAsWord RX1 ({ frames := 1, cells := 0, slots := 0, locals := 31 } : Room) 1) (ad : Nat → Nat) (X : va_W) (nb : Nat) (x0 : Nat) (sc : Nat → Nat → Int32) (ar : Nat → Nat → Int32) (fr : Nat → Nat → Nat) (r0 : Int32) (sc0 : Nat → Nat → Int32) (ar0 : Nat → Nat → Int32) (fr0 : Nat → Nat → Nat) (hf : f_X1_readAsWord nb x0 sc ar fr = some (r0, sc0, ar0, fr0)) (hret : ∀ (pc : Nat) (lv : List (Nat × Value)), decode cX1_readAsWord pc = .ok (.ireturn, 1) → narrow .int (.int r0) = .int r0 → St l G A Γ 0 0 (wC G ad nb X sc0 ar0 fr0) pc lv [.int r0]) : St l G A Γ 0 0 (wC G ad nb X sc ar fr) 0 [(0, .ref (ad x0))] [] := by
  unfold f_X1_readAsWord at hf
  refine s_aload_n C 0 dX1_readAsWord_0 rfl ?_
  obtain ⟨g1, hf⟩ := gd_inv hf
  refine gf_127 C x0 (wC_1 g1) rfl dX1_readAsWord_1 ?_
  refine s_bipush (v := 6) C dX1_readAsWord_4 (by decide) ?_
  refine s_icmp_ne C 51 dX1_readAsWord_6 (by decide) (fun c2 => ?_) (fun c2 => ?_)
  · rw [if_neg c2] at hf
    refine s_iconst (v := 5) C dX1_readAsWord_51 (by decide) ?_
    exact rC_I hf (vp_nar_int _) hret dX1_readAsWord_52
  · rw [if_pos c2] at hf
    refine s_aload_n C 0 dX1_readAsWord_9 rfl ?_
    refine gf_124 C x0 (wC_1 g1) rfl dX1_readAsWord_10 ?_
    refine s_iconst (v := 5) C dX1_readAsWord_13 (by decide) ?_
    obtain ⟨v3, hkv3, hiv3, ev3, hf⟩ := rdA_inv hf
    refine s_ciald C hkv3 hiv3 dX1_readAsWord_14 ?_
    refine s_nmi ev3 ?_
    refine s_sipush (v := 253) C dX1_readAsWord_15 (by decide) ?_
    refine s_icmp_ne C 51 dX1_readAsWord_18 (by decide) (fun c4 => ?_) (fun c4 => ?_)
    · rw [if_neg c4] at hf
      refine s_iconst (v := 5) C dX1_readAsWord_51 (by decide) ?_
      exact rC_I hf (vp_nar_int _) hret dX1_readAsWord_52
    · rw [if_pos c4] at hf
      refine s_aload_n C 0 dX1_readAsWord_21 rfl ?_
      obtain ⟨r5, sc6, ar7, fr8, er5, hf⟩ := bC_inv hf
      refine s_cV_I (As := []) (rest := []) (ci := 1) (q := x0) C (c_X1_number l G A ad X nb x0 sc ar fr _ _ _ _ er5) g_RX1_53 hd_X1_number rfl ⟨Nat.le_of_ble_eq_true rfl, Nat.le_of_ble_eq_true rfl⟩ rfl (wC_1 g1) rfl (Nat.le_of_ble_eq_true rfl) ⟨Nat.le_of_ble_eq_true rfl, Nat.le_of_ble_eq_true rfl⟩ dX1_readAsWord_22 ?_
      refine s_bipush (v := 63) C dX1_readAsWord_25 (by decide) ?_
      refine s_icmp_gt C 51 dX1_readAsWord_27 (by decide) (fun c9 => ?_) (fun c9 => ?_)
      · rw [if_pos c9] at hf
        refine s_iconst (v := 5) C dX1_readAsWord_51 (by decide) ?_
        exact rC_I hf (vp_nar_int _) hret dX1_readAsWord_52
      · rw [if_neg c9] at hf
        refine s_aload_n C 0 dX1_readAsWord_30 rfl ?_
        refine s_iconst (v := 3) C dX1_readAsWord_31 (by decide) ?_
        refine s_iconst (v := 2) C dX1_readAsWord_32 (by decide) ?_
        obtain ⟨r10, sc11, ar12, fr13, er10, hf⟩ := bC_inv hf
        refine s_cV_L (As := [.int 3, .int 2]) (rest := []) (ci := 1) (q := x0) C (c_X1_readLowestFirst l G A ad X nb x0 3 2 sc6 ar7 fr8 _ _ _ _ er10) g_RX1_56 hd_X1_readLowestFirst rfl ⟨Nat.le_of_ble_eq_true rfl, Nat.le_of_ble_eq_true rfl⟩ rfl (wC_1 g1) rfl (Nat.le_of_ble_eq_true rfl) ⟨Nat.le_of_ble_eq_true rfl, Nat.le_of_ble_eq_true rfl⟩ dX1_readAsWord_33 ?_
        refine s_bipush (v := 16) C dX1_readAsWord_36 (by decide) ?_
        refine s_aload_n C 0 dX1_readAsWord_38 rfl ?_
        refine gf_124 C x0 (wC_1 g1) rfl dX1_readAsWord_39 ?_
        refine s_iconst (v := 1) C dX1_readAsWord_42 (by decide) ?_
        refine s_iconst (v := 3) C dX1_readAsWord_43 (by decide) ?_
        obtain ⟨r14, sc15, ar16, fr17, er14, hf⟩ := bC_inv hf
        refine s_cSN_L (As := [.int 16, .ref (ad (x0 + 1)), .int 1, .int 3]) (rest := [.long r10]) C (c_X5_checkOf l G A ad X nb 16 (x0 + 1) 1 3 sc11 ar12 fr13 _ _ _ _ er14) (gd_C tw_224) tw_1 tn_283 tw_223 hd_X5_checkOf.2 rfl ⟨Nat.le_of_ble_eq_true rfl, Nat.le_of_ble_eq_true rfl⟩ rfl (Nat.le_of_ble_eq_true rfl) ⟨Nat.le_of_ble_eq_true rfl, Nat.le_of_ble_eq_true rfl⟩ dX1_readAsWord_44 ?_
        refine s_lcmp C dX1_readAsWord_47 ?_
        refine s_if_eq C 53 dX1_readAsWord_48 (by decide) (fun c18 => ?_) (fun c18 => ?_)
        · rw [if_pos c18] at hf
          refine s_aload_n C 0 dX1_readAsWord_53 rfl ?_
          refine gf_124 C x0 (wC_1 g1) rfl dX1_readAsWord_54 ?_
          refine s_iconst (v := 1) C dX1_readAsWord_57 (by decide) ?_
          obtain ⟨v19, hkv19, hiv19, ev19, hf⟩ := rdA_inv hf
          refine s_ciald C hkv19 hiv19 dX1_readAsWord_58 ?_
          refine s_nmi ev19 ?_
          by_cases c20 : (v19 : Int32) = 0
          · rw [if_pos c20] at hf
            refine s_lookup (off := 25) C 84 dX1_readAsWord_59 (by decide) (lk_c c20 (by decide)) (by decide) ?_
            refine s_iconst (v := 2) C dX1_readAsWord_84 (by decide) ?_
            exact rC_I hf (vp_nar_int _) hret dX1_readAsWord_85
          rw [if_neg c20] at hf
          by_cases c21 : (v19 : Int32) = 16
          · rw [if_pos c21] at hf
            refine s_lookup (off := 27) C 86 dX1_readAsWord_59 (by decide) (lk_c c21 (by decide)) (by decide) ?_
            refine s_iconst (v := 3) C dX1_readAsWord_86 (by decide) ?_
            exact rC_I hf (vp_nar_int _) hret dX1_readAsWord_87
          rw [if_neg c21] at hf
          refine s_lookup (off := 29) C 88 dX1_readAsWord_59 (by decide) ((lv_osw (k := 0) c20 rfl).trans ((lv_osw (k := 16) c21 rfl).trans (rfl))) (by decide) ?_
          refine s_iconst (v := 5) C dX1_readAsWord_88 (by decide) ?_
          exact rC_I hf (vp_nar_int _) hret dX1_readAsWord_89
        · rw [if_neg c18] at hf
          refine s_iconst (v := 5) C dX1_readAsWord_51 (by decide) ?_
          exact rC_I hf (vp_nar_int _) hret dX1_readAsWord_52
theorem c_X1_readAsWord (l : Launch) (G : GG) (A : Nat → Prop) (ad : Nat → Nat) (X : va_W) (nb : Nat) (x0 : Nat) (sc : Nat → Nat → Int32) (ar : Nat → Nat → Int32) (fr : Nat → Nat → Nat) (r0 : Int32) (sc0 : Nat → Nat → Int32) (ar0 : Nat → Nat → Int32) (fr0 : Nat → Nat → Nat) (hf : f_X1_readAsWord nb x0 sc ar fr = some (r0, sc0, ar0, fr0)) : MI l yX1_readAsWord cX1_readAsWord 1 .int ({ frames := 1, cells := 0, slots := 0, locals := 31 } : Room) G A (wC G ad nb X sc ar fr) [.ref (ad x0)] r0 (wC G ad nb X sc0 ar0 fr0) :=
  e_I (by decide) (Nat.le_of_ble_eq_true rfl) (fun Γ C hret => k_X1_readAsWord C _ _ _ _ _ _ _ _ _ _ _ hf hret)
def f_X1_readAsPacket (nb : Nat) (x0 : Nat) (sc : Nat → Nat → Int32) (ar : Nat → Nat → Int32) (fr : Nat → Nat → Nat) : Option (Int32 × (Nat → Nat → Int32) × (Nat → Nat → Int32) × (Nat → Nat → Nat)) :=
  gd (pk nb 1 x0) <|
  bC (f_X1_packetLength nb x0 sc ar fr) fun r1 sc2 ar3 fr4 =>
  if r1 < 1 then (some (4, sc2, ar3, fr4))
  else (rdA nb ar3 (x0 + 1) 0 fun v7 =>
  if v7 = 251 then (rdA nb ar3 (x0 + 1) 1 fun v9 =>
  if v9 = 0 then (bC (f_X1_number nb x0 sc2 ar3 fr4) fun r11 sc12 ar13 fr14 =>
  if r11 ≤ 63 then (bd (((sc12 x0 1) - 5)) fun y16 =>
  bC (f_X1_readLowestFirst nb x0 y16 4 sc12 ar13 fr14) fun r17 sc18 ar19 fr20 =>
  bC (f_X5_checkOf nb 32 (x0 + 1) 1 y16 sc18 ar19 fr20) fun r21 sc22 ar23 fr24 =>
  rdA nb ar23 (x0 + 1) ((sc22 x0 1) - 1) fun v25 =>
  if (v25 : Int32) = 253 then (if (lg_cmp r17 r21) = 0 then (some (0, sc22, ar23, fr24))
  else (some (4, sc22, ar23, fr24)))
  else if (v25 : Int32) = 254 then (bx (f_X5_turned r21) fun r29 =>
  if (lg_cmp r17 r29) = 0 then (some (1, sc22, ar23, fr24))
  else (some (4, sc22, ar23, fr24)))
  else (some (4, sc22, ar23, fr24)))
  else (some (4, sc12, ar13, fr14)))
  else (some (4, sc2, ar3, fr4)))
  else (some (4, sc2, ar3, fr4)))
set_option maxHeartbeats 4000000 in
set_option maxRecDepth 100000 in
theorem k_X1_readAsPacket {l : Launch} {G : GG} {A : Nat → Prop} {Γ : Cx} (C : CX G A Γ cX1_readAsPacket RX1 ({ frames := 1, cells := 0, slots := 0, locals := 31 } : Room) 6) (ad : Nat → Nat) (X : va_W) (nb : Nat) (x0 : Nat) (sc : Nat → Nat → Int32) (ar : Nat → Nat → Int32) (fr : Nat → Nat → Nat) (r0 : Int32) (sc0 : Nat → Nat → Int32) (ar0 : Nat → Nat → Int32) (fr0 : Nat → Nat → Nat) (hf : f_X1_readAsPacket nb x0 sc ar fr = some (r0, sc0, ar0, fr0)) (hret : ∀ (pc : Nat) (lv : List (Nat × Value)), decode cX1_readAsPacket pc = .ok (.ireturn, 1) → narrow .int (.int r0) = .int r0 → St l G A Γ 0 0 (wC G ad nb X sc0 ar0 fr0) pc lv [.int r0]) : St l G A Γ 0 0 (wC G ad nb X sc ar fr) 0 [(0, .ref (ad x0))] [] := by
  unfold f_X1_readAsPacket at hf
  refine s_aload_n C 0 dX1_readAsPacket_0 rfl ?_
  obtain ⟨g5, hf⟩ := gd_inv hf
  obtain ⟨r1, sc2, ar3, fr4, er1, hf⟩ := bC_inv hf
  refine s_cV_I (As := []) (rest := []) (ci := 1) (q := x0) C (c_X1_packetLength l G A ad X nb x0 sc ar fr _ _ _ _ er1) g_RX1_60 hd_X1_packetLength rfl ⟨Nat.le_of_ble_eq_true rfl, Nat.le_of_ble_eq_true rfl⟩ rfl (wC_1 g5) rfl (Nat.le_of_ble_eq_true rfl) ⟨Nat.le_of_ble_eq_true rfl, Nat.le_of_ble_eq_true rfl⟩ dX1_readAsPacket_1 ?_
  refine s_iconst (v := 1) C dX1_readAsPacket_4 (by decide) ?_
  refine s_icmp_lt C 38 dX1_readAsPacket_5 (by decide) (fun c6 => ?_) (fun c6 => ?_)
  · rw [if_pos c6] at hf
    refine s_iconst (v := 4) C dX1_readAsPacket_38 (by decide) ?_
    exact rC_I hf (vp_nar_int _) hret dX1_readAsPacket_39
  · rw [if_neg c6] at hf
    refine s_aload_n C 0 dX1_readAsPacket_8 rfl ?_
    refine gf_124 C x0 (wC_1 g5) rfl dX1_readAsPacket_9 ?_
    refine s_iconst (v := 0) C dX1_readAsPacket_12 (by decide) ?_
    obtain ⟨v7, hkv7, hiv7, ev7, hf⟩ := rdA_inv hf
    refine s_ciald C hkv7 hiv7 dX1_readAsPacket_13 ?_
    refine s_nmi ev7 ?_
    refine s_sipush (v := 251) C dX1_readAsPacket_14 (by decide) ?_
    refine s_icmp_ne C 38 dX1_readAsPacket_17 (by decide) (fun c8 => ?_) (fun c8 => ?_)
    · rw [if_neg c8] at hf
      refine s_iconst (v := 4) C dX1_readAsPacket_38 (by decide) ?_
      exact rC_I hf (vp_nar_int _) hret dX1_readAsPacket_39
    · rw [if_pos c8] at hf
      refine s_aload_n C 0 dX1_readAsPacket_20 rfl ?_
      refine gf_124 C x0 (wC_1 g5) rfl dX1_readAsPacket_21 ?_
      refine s_iconst (v := 1) C dX1_readAsPacket_24 (by decide) ?_
      obtain ⟨v9, hkv9, hiv9, ev9, hf⟩ := rdA_inv hf
      refine s_ciald C hkv9 hiv9 dX1_readAsPacket_25 ?_
      refine s_nmi ev9 ?_
      refine s_if_ne C 38 dX1_readAsPacket_26 (by decide) (fun c10 => ?_) (fun c10 => ?_)
      · rw [if_neg c10] at hf
        refine s_iconst (v := 4) C dX1_readAsPacket_38 (by decide) ?_
        exact rC_I hf (vp_nar_int _) hret dX1_readAsPacket_39
      · rw [if_pos c10] at hf
        refine s_aload_n C 0 dX1_readAsPacket_29 rfl ?_
        obtain ⟨r11, sc12, ar13, fr14, er11, hf⟩ := bC_inv hf
        refine s_cV_I (As := []) (rest := []) (ci := 1) (q := x0) C (c_X1_number l G A ad X nb x0 sc2 ar3 fr4 _ _ _ _ er11) g_RX1_53 hd_X1_number rfl ⟨Nat.le_of_ble_eq_true rfl, Nat.le_of_ble_eq_true rfl⟩ rfl (wC_1 g5) rfl (Nat.le_of_ble_eq_true rfl) ⟨Nat.le_of_ble_eq_true rfl, Nat.le_of_ble_eq_true rfl⟩ dX1_readAsPacket_30 ?_
        refine s_bipush (v := 63) C dX1_readAsPacket_33 (by decide) ?_
        refine s_icmp_le C 40 dX1_readAsPacket_35 (by decide) (fun c15 => ?_) (fun c15 => ?_)
        · rw [if_pos c15] at hf
          refine s_aload_n C 0 dX1_readAsPacket_40 rfl ?_
          refine gf_127 C x0 (wC_1 g5) rfl dX1_readAsPacket_41 ?_
          refine s_iconst (v := 5) C dX1_readAsPacket_44 (by decide) ?_
          refine s_isub C dX1_readAsPacket_45 ?_
          obtain ⟨y16, ey16, hf⟩ := bd_inv hf
          refine s_nmi ey16 ?_
          refine s_istore_n C [(1, .int y16), (0, .ref (ad x0))] dX1_readAsPacket_46 (by decide) rfl ?_
          refine s_aload_n C 1 dX1_readAsPacket_47 rfl ?_
          refine s_iload_n C 0 dX1_readAsPacket_48 rfl ?_
          refine s_iconst (v := 4) C dX1_readAsPacket_49 (by decide) ?_
          obtain ⟨r17, sc18, ar19, fr20, er17, hf⟩ := bC_inv hf
          refine s_cV_L (As := [.int y16, .int 4]) (rest := []) (ci := 1) (q := x0) C (c_X1_readLowestFirst l G A ad X nb x0 y16 4 sc12 ar13 fr14 _ _ _ _ er17) g_RX1_56 hd_X1_readLowestFirst rfl ⟨Nat.le_of_ble_eq_true rfl, Nat.le_of_ble_eq_true rfl⟩ rfl (wC_1 g5) rfl (Nat.le_of_ble_eq_true rfl) ⟨Nat.le_of_ble_eq_true rfl, Nat.le_of_ble_eq_true rfl⟩ dX1_readAsPacket_50 ?_
          refine s_lstore_n C [(2, .long r17), (1, .int y16), (0, .ref (ad x0))] dX1_readAsPacket_53 (by decide) rfl ?_
          refine s_bipush (v := 32) C dX1_readAsPacket_54 (by decide) ?_
          refine s_aload_n C 2 dX1_readAsPacket_56 rfl ?_
          refine gf_124 C x0 (wC_1 g5) rfl dX1_readAsPacket_57 ?_
          refine s_iconst (v := 1) C dX1_readAsPacket_60 (by decide) ?_
          refine s_iload_n C 1 dX1_readAsPacket_61 rfl ?_
          obtain ⟨r21, sc22, ar23, fr24, er21, hf⟩ := bC_inv hf
          refine s_cSN_L (As := [.int 32, .ref (ad (x0 + 1)), .int 1, .int y16]) (rest := []) C (c_X5_checkOf l G A ad X nb 32 (x0 + 1) 1 y16 sc18 ar19 fr20 _ _ _ _ er21) (gd_C tw_224) tw_1 tn_283 tw_223 hd_X5_checkOf.2 rfl ⟨Nat.le_of_ble_eq_true rfl, Nat.le_of_ble_eq_true rfl⟩ rfl (Nat.le_of_ble_eq_true rfl) ⟨Nat.le_of_ble_eq_true rfl, Nat.le_of_ble_eq_true rfl⟩ dX1_readAsPacket_62 ?_
          refine s_lstore C [(4, .long r21), (2, .long r17), (1, .int y16), (0, .ref (ad x0))] dX1_readAsPacket_65 (by decide) rfl ?_
          refine s_aload_n C 3 dX1_readAsPacket_67 rfl ?_
          refine gf_124 C x0 (wC_1 g5) rfl dX1_readAsPacket_68 ?_
          refine s_aload_n C 3 dX1_readAsPacket_71 rfl ?_
          refine gf_127 C x0 (wC_1 g5) rfl dX1_readAsPacket_72 ?_
          refine s_iconst (v := 1) C dX1_readAsPacket_75 (by decide) ?_
          refine s_isub C dX1_readAsPacket_76 ?_
          obtain ⟨v25, hkv25, hiv25, ev25, hf⟩ := rdA_inv hf
          refine s_ciald C hkv25 hiv25 dX1_readAsPacket_77 ?_
          refine s_nmi ev25 ?_
          by_cases c26 : (v25 : Int32) = 253
          · rw [if_pos c26] at hf
            refine s_lookup (off := 26) C 104 dX1_readAsPacket_78 (by decide) (lk_c c26 (by decide)) (by decide) ?_
            refine s_lload_n C 1 dX1_readAsPacket_104 rfl ?_
            refine s_lload C 0 dX1_readAsPacket_105 rfl ?_
            refine s_lcmp C dX1_readAsPacket_107 ?_
            refine s_if_ne C 115 dX1_readAsPacket_108 (by decide) (fun c27 => ?_) (fun c27 => ?_)
            · rw [if_neg c27] at hf
              refine s_iconst (v := 4) C dX1_readAsPacket_115 (by decide) ?_
              exact rC_I hf (vp_nar_int _) hret dX1_readAsPacket_116
            · rw [if_pos c27] at hf
              refine s_iconst (v := 0) C dX1_readAsPacket_111 (by decide) ?_
              refine s_goto C 116 dX1_readAsPacket_112 (by decide) ?_
              exact rC_I hf (vp_nar_int _) hret dX1_readAsPacket_116
          rw [if_neg c26] at hf
          by_cases c28 : (v25 : Int32) = 254
          · rw [if_pos c28] at hf
            refine s_lookup (off := 39) C 117 dX1_readAsPacket_78 (by decide) (lk_c c28 (by decide)) (by decide) ?_
            refine s_lload_n C 1 dX1_readAsPacket_117 rfl ?_
            refine s_lload C 0 dX1_readAsPacket_118 rfl ?_
            obtain ⟨r29, er29, hf⟩ := bx_inv hf
            refine s_cSN_L (As := [.long r21]) (rest := [.long r17]) C (c_X5_turned l G A _ r21 _ er29) (gd_C tw_294) tw_1 tn_292 tw_293 hd_X5_turned.2 rfl ⟨Nat.le_of_ble_eq_true rfl, Nat.le_of_ble_eq_true rfl⟩ rfl (Nat.le_of_ble_eq_true rfl) ⟨Nat.le_of_ble_eq_true rfl, Nat.le_of_ble_eq_true rfl⟩ dX1_readAsPacket_120 ?_
            refine s_lcmp C dX1_readAsPacket_123 ?_
            refine s_if_ne C 131 dX1_readAsPacket_124 (by decide) (fun c30 => ?_) (fun c30 => ?_)
            · rw [if_neg c30] at hf
              refine s_iconst (v := 4) C dX1_readAsPacket_131 (by decide) ?_
              exact rC_I hf (vp_nar_int _) hret dX1_readAsPacket_132
            · rw [if_pos c30] at hf
              refine s_iconst (v := 1) C dX1_readAsPacket_127 (by decide) ?_
              refine s_goto C 132 dX1_readAsPacket_128 (by decide) ?_
              exact rC_I hf (vp_nar_int _) hret dX1_readAsPacket_132
          rw [if_neg c28] at hf
          refine s_lookup (off := 55) C 133 dX1_readAsPacket_78 (by decide) ((lv_osw (k := 253) c26 rfl).trans ((lv_osw (k := 254) c28 rfl).trans (rfl))) (by decide) ?_
          refine s_iconst (v := 4) C dX1_readAsPacket_133 (by decide) ?_
          exact rC_I hf (vp_nar_int _) hret dX1_readAsPacket_134
        · rw [if_neg c15] at hf
          refine s_iconst (v := 4) C dX1_readAsPacket_38 (by decide) ?_
          exact rC_I hf (vp_nar_int _) hret dX1_readAsPacket_39
theorem c_X1_readAsPacket (l : Launch) (G : GG) (A : Nat → Prop) (ad : Nat → Nat) (X : va_W) (nb : Nat) (x0 : Nat) (sc : Nat → Nat → Int32) (ar : Nat → Nat → Int32) (fr : Nat → Nat → Nat) (r0 : Int32) (sc0 : Nat → Nat → Int32) (ar0 : Nat → Nat → Int32) (fr0 : Nat → Nat → Nat) (hf : f_X1_readAsPacket nb x0 sc ar fr = some (r0, sc0, ar0, fr0)) : MI l yX1_readAsPacket cX1_readAsPacket 6 .int ({ frames := 1, cells := 0, slots := 0, locals := 31 } : Room) G A (wC G ad nb X sc ar fr) [.ref (ad x0)] r0 (wC G ad nb X sc0 ar0 fr0) :=
  e_I (by decide) (Nat.le_of_ble_eq_true rfl) (fun Γ C hret => k_X1_readAsPacket C _ _ _ _ _ _ _ _ _ _ _ hf hret)
def f_X1_readAs (nb : Nat) (x0 : Nat) (sc : Nat → Nat → Int32) (ar : Nat → Nat → Int32) (fr : Nat → Nat → Nat) : Option (Int32 × (Nat → Nat → Int32) × (Nat → Nat → Int32) × (Nat → Nat → Nat)) :=
  gd (pk nb 1 x0) <|
  rdA nb ar (x0 + 1) 0 fun v2 =>
  if v2 = 92 then (bC (f_X1_readAsWord nb x0 sc ar fr) fun r8 sc9 ar10 fr11 =>
  some (r8, sc9, ar10, fr11))
  else (bC (f_X1_readAsPacket nb x0 sc ar fr) fun r4 sc5 ar6 fr7 =>
  some (r4, sc5, ar6, fr7))
set_option maxHeartbeats 4000000 in
set_option maxRecDepth 100000 in
theorem k_X1_readAs {l : Launch} {G : GG} {A : Nat → Prop} {Γ : Cx} (C : CX G A Γ cX1_readAs RX1 ({ frames := 2, cells := 0, slots := 0, locals := 56 } : Room) 1) (ad : Nat → Nat) (X : va_W) (nb : Nat) (x0 : Nat) (sc : Nat → Nat → Int32) (ar : Nat → Nat → Int32) (fr : Nat → Nat → Nat) (r0 : Int32) (sc0 : Nat → Nat → Int32) (ar0 : Nat → Nat → Int32) (fr0 : Nat → Nat → Nat) (hf : f_X1_readAs nb x0 sc ar fr = some (r0, sc0, ar0, fr0)) (hret : ∀ (pc : Nat) (lv : List (Nat × Value)), decode cX1_readAs pc = .ok (.ireturn, 1) → narrow .int (.int r0) = .int r0 → St l G A Γ 0 0 (wC G ad nb X sc0 ar0 fr0) pc lv [.int r0]) : St l G A Γ 0 0 (wC G ad nb X sc ar fr) 0 [(0, .ref (ad x0))] [] := by
  unfold f_X1_readAs at hf
  refine s_aload_n C 0 dX1_readAs_0 rfl ?_
  obtain ⟨g1, hf⟩ := gd_inv hf
  refine gf_124 C x0 (wC_1 g1) rfl dX1_readAs_1 ?_
  refine s_iconst (v := 0) C dX1_readAs_4 (by decide) ?_
  obtain ⟨v2, hkv2, hiv2, ev2, hf⟩ := rdA_inv hf
  refine s_ciald C hkv2 hiv2 dX1_readAs_5 ?_
  refine s_nmi ev2 ?_
  refine s_bipush (v := 92) C dX1_readAs_6 (by decide) ?_
  refine s_icmp_ne C 18 dX1_readAs_8 (by decide) (fun c3 => ?_) (fun c3 => ?_)
  · rw [if_neg c3] at hf
    refine s_aload_n C 0 dX1_readAs_18 rfl ?_
    obtain ⟨r4, sc5, ar6, fr7, er4, hf⟩ := bC_inv hf
    refine s_cV_I (As := []) (rest := []) (ci := 1) (q := x0) C (c_X1_readAsPacket l G A ad X nb x0 sc ar fr _ _ _ _ er4) g_RX1_47 hd_X1_readAsPacket rfl ⟨Nat.le_of_ble_eq_true rfl, Nat.le_of_ble_eq_true rfl⟩ rfl (wC_1 g1) rfl (Nat.le_of_ble_eq_true rfl) ⟨Nat.le_of_ble_eq_true rfl, Nat.le_of_ble_eq_true rfl⟩ dX1_readAs_19 ?_
    exact rC_I hf (vp_nar_int _) hret dX1_readAs_22
  · rw [if_pos c3] at hf
    refine s_aload_n C 0 dX1_readAs_11 rfl ?_
    obtain ⟨r8, sc9, ar10, fr11, er8, hf⟩ := bC_inv hf
    refine s_cV_I (As := []) (rest := []) (ci := 1) (q := x0) C (c_X1_readAsWord l G A ad X nb x0 sc ar fr _ _ _ _ er8) g_RX1_43 hd_X1_readAsWord rfl ⟨Nat.le_of_ble_eq_true rfl, Nat.le_of_ble_eq_true rfl⟩ rfl (wC_1 g1) rfl (Nat.le_of_ble_eq_true rfl) ⟨Nat.le_of_ble_eq_true rfl, Nat.le_of_ble_eq_true rfl⟩ dX1_readAs_12 ?_
    refine s_goto C 22 dX1_readAs_15 (by decide) ?_
    exact rC_I hf (vp_nar_int _) hret dX1_readAs_22
theorem c_X1_readAs (l : Launch) (G : GG) (A : Nat → Prop) (ad : Nat → Nat) (X : va_W) (nb : Nat) (x0 : Nat) (sc : Nat → Nat → Int32) (ar : Nat → Nat → Int32) (fr : Nat → Nat → Nat) (r0 : Int32) (sc0 : Nat → Nat → Int32) (ar0 : Nat → Nat → Int32) (fr0 : Nat → Nat → Nat) (hf : f_X1_readAs nb x0 sc ar fr = some (r0, sc0, ar0, fr0)) : MI l yX1_readAs cX1_readAs 1 .int ({ frames := 2, cells := 0, slots := 0, locals := 56 } : Room) G A (wC G ad nb X sc ar fr) [.ref (ad x0)] r0 (wC G ad nb X sc0 ar0 fr0) :=
  e_I (by decide) (Nat.le_of_ble_eq_true rfl) (fun Γ C hret => k_X1_readAs C _ _ _ _ _ _ _ _ _ _ _ hf hret)
def f_X1_copyFrom (nb : Nat) (x0 : Nat) (x1 : Nat) (sc : Nat → Nat → Int32) (ar : Nat → Nat → Int32) (fr : Nat → Nat → Nat) : Option ((Nat → Nat → Int32) × (Nat → Nat → Int32) × (Nat → Nat → Nat)) :=
  gd (pk nb 1 x1) <|
  gd (pk nb 1 x0) <|
  gd (pk nb 7 (x0 + 1)) <|
  cpA nb ar (x1 + 1) 0 (x0 + 1) 0 (nI (lnA (x0 + 1))) fun ar4 =>
  bd ((sc x1 1)) fun y5 =>
  bd (up2 sc x0 1 y5) fun sc6 =>
  bd ((sc6 x1 2)) fun y7 =>
  bd (up2 sc6 x0 2 y7) fun sc8 =>
  some (sc8, ar4, fr)
set_option maxHeartbeats 4000000 in
set_option maxRecDepth 100000 in
theorem k_X1_copyFrom {l : Launch} {G : GG} {A : Nat → Prop} {Γ : Cx} (C : CX G A Γ cX1_copyFrom RX1 ({ frames := 1, cells := 0, slots := 0, locals := 18 } : Room) 2) (ad : Nat → Nat) (X : va_W) (nb : Nat) (x0 : Nat) (x1 : Nat) (sc : Nat → Nat → Int32) (ar : Nat → Nat → Int32) (fr : Nat → Nat → Nat) (sc0 : Nat → Nat → Int32) (ar0 : Nat → Nat → Int32) (fr0 : Nat → Nat → Nat) (hf : f_X1_copyFrom nb x0 x1 sc ar fr = some (sc0, ar0, fr0)) (hret : ∀ (pc : Nat) (lv : List (Nat × Value)), decode cX1_copyFrom pc = .ok (.return_, 1) → St l G A Γ 0 0 (wC G ad nb X sc0 ar0 fr0) pc lv []) : St l G A Γ 0 0 (wC G ad nb X sc ar fr) 0 [(0, .ref (ad x0)), (1, .ref (ad x1))] [] := by
  unfold f_X1_copyFrom at hf
  refine s_aload_n C 1 dX1_copyFrom_0 rfl ?_
  obtain ⟨g1, hf⟩ := gd_inv hf
  refine gf_124 C x1 (wC_1 g1) rfl dX1_copyFrom_1 ?_
  refine s_iconst (v := 0) C dX1_copyFrom_4 (by decide) ?_
  refine s_aload_n C 0 dX1_copyFrom_5 rfl ?_
  obtain ⟨g2, hf⟩ := gd_inv hf
  refine gf_124 C x0 (wC_1 g2) rfl dX1_copyFrom_6 ?_
  refine s_iconst (v := 0) C dX1_copyFrom_9 (by decide) ?_
  refine s_aload_n C 0 dX1_copyFrom_10 rfl ?_
  refine gf_124 C x0 (wC_1 g2) rfl dX1_copyFrom_11 ?_
  obtain ⟨g3, hf⟩ := gd_inv hf
  refine s_calen C g3 dX1_copyFrom_14 ?_
  obtain ⟨ar4, hkar4, ear4, hf⟩ := cpA_inv hf
  refine s_copy C tw_383 hkar4 ear4 ⟨Nat.le_of_ble_eq_true rfl, Nat.le_of_ble_eq_true rfl⟩ dX1_copyFrom_15 ?_
  refine s_aload_n C 0 dX1_copyFrom_18 rfl ?_
  refine s_aload_n C 1 dX1_copyFrom_19 rfl ?_
  refine gf_127 C x1 (wC_1 g1) rfl dX1_copyFrom_20 ?_
  obtain ⟨y5, ey5, hf⟩ := bd_inv hf
  refine s_nmi ey5 ?_
  obtain ⟨sc6, esc6, hf⟩ := bd_inv hf
  refine pf_127 C x0 (wC_1 g2) (vp_nar_int _) rfl (Nat.le_of_ble_eq_true rfl) (wC G ad nb X sc6 ar4 fr) (wC_s1_1 g2 esc6) dX1_copyFrom_23 ?_
  refine s_aload_n C 0 dX1_copyFrom_26 rfl ?_
  refine s_aload_n C 1 dX1_copyFrom_27 rfl ?_
  refine gf_130 C x1 (wC_1 g1) rfl dX1_copyFrom_28 ?_
  obtain ⟨y7, ey7, hf⟩ := bd_inv hf
  refine s_nmi ey7 ?_
  obtain ⟨sc8, esc8, hf⟩ := bd_inv hf
  refine pf_130 C x0 (wC_1 g2) (vp_nar_int _) rfl (Nat.le_of_ble_eq_true rfl) (wC G ad nb X sc8 ar4 fr) (wC_s1_2 g2 esc8) dX1_copyFrom_31 ?_
  exact rC_V hf hret dX1_copyFrom_34
theorem c_X1_copyFrom (l : Launch) (G : GG) (A : Nat → Prop) (ad : Nat → Nat) (X : va_W) (nb : Nat) (x0 : Nat) (x1 : Nat) (sc : Nat → Nat → Int32) (ar : Nat → Nat → Int32) (fr : Nat → Nat → Nat) (sc0 : Nat → Nat → Int32) (ar0 : Nat → Nat → Int32) (fr0 : Nat → Nat → Nat) (hf : f_X1_copyFrom nb x0 x1 sc ar fr = some (sc0, ar0, fr0)) : MV l yX1_copyFrom cX1_copyFrom 2 ({ frames := 1, cells := 0, slots := 0, locals := 18 } : Room) G A (wC G ad nb X sc ar fr) [.ref (ad x0), .ref (ad x1)] (wC G ad nb X sc0 ar0 fr0) :=
  e_V (by decide) (Nat.le_of_ble_eq_true rfl) (fun Γ C hret => k_X1_copyFrom C _ _ _ _ _ _ _ _ _ _ _ hf hret)
def f_X4_takeOff_19 (nb : Nat)  : Nat → Nat → Nat → Int32 → (Nat → Nat → Int32) → (Nat → Nat → Int32) → (Nat → Nat → Nat) → Option (Nat × (Nat → Nat → Int32) × (Nat → Nat → Int32) × (Nat → Nat → Nat))
  | 0, _, _, _, _, _, _ => none
  | fu + 1, x0, x2, x3, sc, ar, fr =>
    gd (pk nb 4 x0) <|
    if (sc x0 1) ≤ x3 then (wrF nb fr (x0 + 1) (sc x0 1) x2 fun fr7 =>
    some (x2, sc, ar, fr7))
    else (rdR nb 10 12 (x0 + 1) (x3 + 1) (fr (x0 + 1) ((x3 + 1) : Int32).toNatClampNeg) fun p8 =>
    wrF nb fr (x0 + 1) x3 p8 fun fr9 =>
    bd (x3 + 1) fun y10 =>
    f_X4_takeOff_19 nb fu x0 x2 y10 sc ar fr9)
def f_X4_takeOff (nb : Nat) (x0 : Nat) (x1 : Int32) (sc : Nat → Nat → Int32) (ar : Nat → Nat → Int32) (fr : Nat → Nat → Nat) : Option (Nat × (Nat → Nat → Int32) × (Nat → Nat → Int32) × (Nat → Nat → Nat)) :=
  gd (pk nb 4 x0) <|
  rdR nb 10 12 (x0 + 1) x1 (fr (x0 + 1) (x1 : Int32).toNatClampNeg) fun p2 =>
  bd (((sc x0 1) - 1)) fun y3 =>
  bd (up2 sc x0 1 y3) fun sc4 =>
  f_X4_takeOff_19 nb FU x0 p2 x1 sc4 ar fr
set_option maxHeartbeats 4000000 in
set_option maxRecDepth 100000 in
theorem k_X4_takeOff {l : Launch} {G : GG} {A : Nat → Prop} {Γ : Cx} (C : CX G A Γ cX4_takeOff RX4 ({ frames := 0, cells := 0, slots := 0, locals := 0 } : Room) 4) (ad : Nat → Nat) (X : va_W) (nb : Nat) (x0 : Nat) (x1 : Int32) (sc : Nat → Nat → Int32) (ar : Nat → Nat → Int32) (fr : Nat → Nat → Nat) (r0 : Nat) (sc0 : Nat → Nat → Int32) (ar0 : Nat → Nat → Int32) (fr0 : Nat → Nat → Nat) (hf : f_X4_takeOff nb x0 x1 sc ar fr = some (r0, sc0, ar0, fr0)) (hret : ∀ (pc : Nat) (lv : List (Nat × Value)), decode cX4_takeOff pc = .ok (.areturn, 1) → St l G A Γ 0 0 (wC G ad nb X sc0 ar0 fr0) pc lv [.ref (ad r0)]) : St l G A Γ 0 0 (wC G ad nb X sc ar fr) 0 [(0, .ref (ad x0)), (1, .int x1)] [] := by
  have B_19 : ∀  (fu : Nat) (x0 : Nat) (x2 : Nat) (x3 : Int32) (sc : Nat → Nat → Int32) (ar : Nat → Nat → Int32) (fr : Nat → Nat → Nat), f_X4_takeOff_19 nb fu x0 x2 x3 sc ar fr = some (r0, sc0, ar0, fr0) → St l G A Γ 0 0 (wC G ad nb X sc ar fr) 19 [(0, .ref (ad x0)), (2, .ref (ad x2)), (3, .int x3)] [] := by
    intro fu
    induction fu with
    | zero => intro x0 x2 x3 sc ar fr hf ; rw [f_X4_takeOff_19] at hf; cases hf
    | succ fu ih =>
      intro x0 x2 x3 sc ar fr hf 
      rw [f_X4_takeOff_19] at hf
      refine s_iload_n C 2 dX4_takeOff_19 rfl ?_
      refine s_aload_n C 0 dX4_takeOff_20 rfl ?_
      obtain ⟨g5, hf⟩ := gd_inv hf
      refine gf_141 C x0 (wC_4 g5) rfl dX4_takeOff_21 ?_
      refine s_icmp_ge C 47 dX4_takeOff_24 (by decide) (fun c6 => ?_) (fun c6 => ?_)
      · rw [if_pos c6] at hf
        refine s_aload_n C 0 dX4_takeOff_47 rfl ?_
        refine gf_139 C x0 (wC_4 g5) rfl dX4_takeOff_48 ?_
        refine s_aload_n C 0 dX4_takeOff_51 rfl ?_
        refine gf_141 C x0 (wC_4 g5) rfl dX4_takeOff_52 ?_
        refine s_aload_n C 1 dX4_takeOff_55 rfl ?_
        obtain ⟨fr7, hkfr7, hifr7, hvfr7, efr7, hf⟩ := wrF_inv hf
        refine s_aast10 C hkfr7 hifr7 hvfr7 efr7 dX4_takeOff_56 ?_
        refine s_aload_n C 1 dX4_takeOff_57 rfl ?_
        exact rC_R hf hret dX4_takeOff_58
      · rw [if_neg c6] at hf
        refine s_aload_n C 0 dX4_takeOff_27 rfl ?_
        refine gf_139 C x0 (wC_4 g5) rfl dX4_takeOff_28 ?_
        refine s_iload_n C 2 dX4_takeOff_31 rfl ?_
        refine s_aload_n C 0 dX4_takeOff_32 rfl ?_
        refine gf_139 C x0 (wC_4 g5) rfl dX4_takeOff_33 ?_
        refine s_iload_n C 2 dX4_takeOff_36 rfl ?_
        refine s_iconst (v := 1) C dX4_takeOff_37 (by decide) ?_
        refine s_iadd C dX4_takeOff_38 ?_
        obtain ⟨p8, hkp8, hip8, ep8, hf⟩ := rdR_inv hf
        refine s_aald10 C hkp8 hip8 dX4_takeOff_39 ?_
        refine s_nmr ep8 ?_
        obtain ⟨fr9, hkfr9, hifr9, hvfr9, efr9, hf⟩ := wrF_inv hf
        refine s_aast10 C hkfr9 hifr9 hvfr9 efr9 dX4_takeOff_40 ?_
        obtain ⟨y10, ey10, hf⟩ := bd_inv hf
        refine s_iinc (v := y10) C 2 [(3, .int y10), (0, .ref (ad x0)), (2, .ref (ad x2))] dX4_takeOff_41 rfl (by rw [ey10]; rfl) (by decide) rfl ?_
        refine s_goto C 19 dX4_takeOff_44 (by decide) ?_
        refine s_lv [1, 2, 0] rfl ?_
        exact ih _ _ _ _ _ _ hf
  unfold f_X4_takeOff at hf
  refine s_aload_n C 0 dX4_takeOff_0 rfl ?_
  obtain ⟨g1, hf⟩ := gd_inv hf
  refine gf_139 C x0 (wC_4 g1) rfl dX4_takeOff_1 ?_
  refine s_iload_n C 1 dX4_takeOff_4 rfl ?_
  obtain ⟨p2, hkp2, hip2, ep2, hf⟩ := rdR_inv hf
  refine s_aald10 C hkp2 hip2 dX4_takeOff_5 ?_
  refine s_nmr ep2 ?_
  refine s_astore_n C [(2, .ref (ad p2)), (0, .ref (ad x0)), (1, .int x1)] dX4_takeOff_6 (by decide) rfl ?_
  refine s_aload_n C 1 dX4_takeOff_7 rfl ?_
  refine s_dup C dX4_takeOff_8 rfl ?_
  refine gf_141 C x0 (wC_4 g1) rfl dX4_takeOff_9 ?_
  refine s_iconst (v := 1) C dX4_takeOff_12 (by decide) ?_
  refine s_isub C dX4_takeOff_13 ?_
  obtain ⟨y3, ey3, hf⟩ := bd_inv hf
  refine s_nmi ey3 ?_
  obtain ⟨sc4, esc4, hf⟩ := bd_inv hf
  refine pf_141 C x0 (wC_4 g1) (vp_nar_int _) rfl (Nat.le_of_ble_eq_true rfl) (wC G ad nb X sc4 ar fr) (wC_s4_1 g1 esc4) dX4_takeOff_14 ?_
  refine s_iload_n C 2 dX4_takeOff_17 rfl ?_
  refine s_istore_n C [(3, .int x1), (2, .ref (ad p2)), (0, .ref (ad x0)), (1, .int x1)] dX4_takeOff_18 (by decide) rfl ?_
  refine s_lv [2, 1, 0] rfl ?_
  exact B_19 _ _ _ _ _ _ _ hf
theorem c_X4_takeOff (l : Launch) (G : GG) (A : Nat → Prop) (ad : Nat → Nat) (X : va_W) (nb : Nat) (x0 : Nat) (x1 : Int32) (sc : Nat → Nat → Int32) (ar : Nat → Nat → Int32) (fr : Nat → Nat → Nat) (r0 : Nat) (sc0 : Nat → Nat → Int32) (ar0 : Nat → Nat → Int32) (fr0 : Nat → Nat → Nat) (hf : f_X4_takeOff nb x0 x1 sc ar fr = some (r0, sc0, ar0, fr0)) : MR l yX4_takeOff cX4_takeOff 4 (.object "ReplayLink$Frame") ({ frames := 0, cells := 0, slots := 0, locals := 0 } : Room) G A (wC G ad nb X sc ar fr) [.ref (ad x0), .int x1] (ad r0) (wC G ad nb X sc0 ar0 fr0) :=
  e_R (Or.inl ⟨_, rfl⟩) (by decide) (Nat.le_of_ble_eq_true rfl) (fun Γ C hret => k_X4_takeOff C _ _ _ _ _ _ _ _ _ _ _ _ hf hret)
def f_X4_layOneMore_15 (nb : Nat)  (x0 : Nat) (x1 : Int32) (sc : Nat → Nat → Int32) (ar : Nat → Nat → Int32) (fr : Nat → Nat → Nat) : Option (Nat × (Nat → Nat → Int32) × (Nat → Nat → Int32) × (Nat → Nat → Nat)) :=
  gd (pk nb 4 x0) <|
  rdR nb 10 12 (x0 + 1) (sc x0 1) (fr (x0 + 1) ((sc x0 1) : Int32).toNatClampNeg) fun p8 =>
  gd (pk nb 1 p8) <|
  bd (up2 sc p8 2 x1) fun sc10 =>
  bd (((sc10 x0 1) + 1)) fun y11 =>
  bd (up2 sc10 x0 1 y11) fun sc12 =>
  some (p8, sc12, ar, fr)
def f_X4_layOneMore (nb : Nat) (x0 : Nat) (x1 : Int32) (sc : Nat → Nat → Int32) (ar : Nat → Nat → Int32) (fr : Nat → Nat → Nat) : Option (Nat × (Nat → Nat → Int32) × (Nat → Nat → Int32) × (Nat → Nat → Nat)) :=
  gd (pk nb 4 x0) <|
  if (sc x0 1) < 12 then (f_X4_layOneMore_15 nb x0 x1 sc ar fr)
  else (bC (f_X4_takeOff nb x0 0 sc ar fr) fun r3 sc4 ar5 fr6 =>
  f_X4_layOneMore_15 nb x0 x1 sc4 ar5 fr6)
set_option maxHeartbeats 4000000 in
set_option maxRecDepth 100000 in
theorem k_X4_layOneMore {l : Launch} {G : GG} {A : Nat → Prop} {Γ : Cx} (C : CX G A Γ cX4_layOneMore RX4 ({ frames := 1, cells := 0, slots := 0, locals := 23 } : Room) 3) (ad : Nat → Nat) (X : va_W) (nb : Nat) (x0 : Nat) (x1 : Int32) (sc : Nat → Nat → Int32) (ar : Nat → Nat → Int32) (fr : Nat → Nat → Nat) (r0 : Nat) (sc0 : Nat → Nat → Int32) (ar0 : Nat → Nat → Int32) (fr0 : Nat → Nat → Nat) (hf : f_X4_layOneMore nb x0 x1 sc ar fr = some (r0, sc0, ar0, fr0)) (hret : ∀ (pc : Nat) (lv : List (Nat × Value)), decode cX4_layOneMore pc = .ok (.areturn, 1) → St l G A Γ 0 0 (wC G ad nb X sc0 ar0 fr0) pc lv [.ref (ad r0)]) : St l G A Γ 0 0 (wC G ad nb X sc ar fr) 0 [(0, .ref (ad x0)), (1, .int x1)] [] := by
  have B_15 : ∀  (x0 : Nat) (x1 : Int32) (sc : Nat → Nat → Int32) (ar : Nat → Nat → Int32) (fr : Nat → Nat → Nat), f_X4_layOneMore_15 nb x0 x1 sc ar fr = some (r0, sc0, ar0, fr0) → St l G A Γ 0 0 (wC G ad nb X sc ar fr) 15 [(0, .ref (ad x0)), (1, .int x1)] [] := by
    intro  x0 x1 sc ar fr hf 
    unfold f_X4_layOneMore_15 at hf
    refine s_aload_n C 0 dX4_layOneMore_15 rfl ?_
    obtain ⟨g7, hf⟩ := gd_inv hf
    refine gf_139 C x0 (wC_4 g7) rfl dX4_layOneMore_16 ?_
    refine s_aload_n C 0 dX4_layOneMore_19 rfl ?_
    refine gf_141 C x0 (wC_4 g7) rfl dX4_layOneMore_20 ?_
    obtain ⟨p8, hkp8, hip8, ep8, hf⟩ := rdR_inv hf
    refine s_aald10 C hkp8 hip8 dX4_layOneMore_23 ?_
    refine s_nmr ep8 ?_
    refine s_astore_n C [(2, .ref (ad p8)), (0, .ref (ad x0)), (1, .int x1)] dX4_layOneMore_24 (by decide) rfl ?_
    refine s_aload_n C 0 dX4_layOneMore_25 rfl ?_
    refine s_iload_n C 2 dX4_layOneMore_26 rfl ?_
    obtain ⟨g9, hf⟩ := gd_inv hf
    obtain ⟨sc10, esc10, hf⟩ := bd_inv hf
    refine pf_129 C p8 (wC_1 g9) (vp_nar_int _) rfl (Nat.le_of_ble_eq_true rfl) (wC G ad nb X sc10 ar fr) (wC_s1_2 g9 esc10) dX4_layOneMore_27 ?_
    refine s_aload_n C 1 dX4_layOneMore_30 rfl ?_
    refine s_dup C dX4_layOneMore_31 rfl ?_
    refine gf_141 C x0 (wC_4 g7) rfl dX4_layOneMore_32 ?_
    refine s_iconst (v := 1) C dX4_layOneMore_35 (by decide) ?_
    refine s_iadd C dX4_layOneMore_36 ?_
    obtain ⟨y11, ey11, hf⟩ := bd_inv hf
    refine s_nmi ey11 ?_
    obtain ⟨sc12, esc12, hf⟩ := bd_inv hf
    refine pf_141 C x0 (wC_4 g7) (vp_nar_int _) rfl (Nat.le_of_ble_eq_true rfl) (wC G ad nb X sc12 ar fr) (wC_s4_1 g7 esc12) dX4_layOneMore_37 ?_
    refine s_aload_n C 0 dX4_layOneMore_40 rfl ?_
    exact rC_R hf hret dX4_layOneMore_41
  unfold f_X4_layOneMore at hf
  refine s_aload_n C 0 dX4_layOneMore_0 rfl ?_
  obtain ⟨g1, hf⟩ := gd_inv hf
  refine gf_141 C x0 (wC_4 g1) rfl dX4_layOneMore_1 ?_
  refine s_bipush (v := 12) C dX4_layOneMore_4 (by decide) ?_
  refine s_icmp_lt C 15 dX4_layOneMore_6 (by decide) (fun c2 => ?_) (fun c2 => ?_)
  · rw [if_pos c2] at hf
    exact B_15 _ _ _ _ _ hf
  · rw [if_neg c2] at hf
    refine s_aload_n C 0 dX4_layOneMore_9 rfl ?_
    refine s_iconst (v := 0) C dX4_layOneMore_10 (by decide) ?_
    obtain ⟨r3, sc4, ar5, fr6, er3, hf⟩ := bC_inv hf
    refine s_cV_R (As := [.int 0]) (rest := []) (ci := 4) (q := x0) C (c_X4_takeOff l G A ad X nb x0 0 sc ar fr _ _ _ _ er3) g_RX4_22 hd_X4_takeOff rfl ⟨Nat.le_of_ble_eq_true rfl, Nat.le_of_ble_eq_true rfl⟩ rfl (wC_4 g1) rfl (Nat.le_of_ble_eq_true rfl) ⟨Nat.le_of_ble_eq_true rfl, Nat.le_of_ble_eq_true rfl⟩ dX4_layOneMore_11 ?_
    refine s_pop C dX4_layOneMore_14 rfl ?_
    exact B_15 _ _ _ _ _ hf
theorem c_X4_layOneMore (l : Launch) (G : GG) (A : Nat → Prop) (ad : Nat → Nat) (X : va_W) (nb : Nat) (x0 : Nat) (x1 : Int32) (sc : Nat → Nat → Int32) (ar : Nat → Nat → Int32) (fr : Nat → Nat → Nat) (r0 : Nat) (sc0 : Nat → Nat → Int32) (ar0 : Nat → Nat → Int32) (fr0 : Nat → Nat → Nat) (hf : f_X4_layOneMore nb x0 x1 sc ar fr = some (r0, sc0, ar0, fr0)) : MR l yX4_layOneMore cX4_layOneMore 3 (.object "ReplayLink$Frame") ({ frames := 1, cells := 0, slots := 0, locals := 23 } : Room) G A (wC G ad nb X sc ar fr) [.ref (ad x0), .int x1] (ad r0) (wC G ad nb X sc0 ar0 fr0) :=
  e_R (Or.inl ⟨_, rfl⟩) (by decide) (Nat.le_of_ble_eq_true rfl) (fun Γ C hret => k_X4_layOneMore C _ _ _ _ _ _ _ _ _ _ _ _ hf hret)
def f_X4_repeat_25 (nb : Nat)  : Nat → Nat → Int32 → Nat → Int32 → (Nat → Nat → Int32) → (Nat → Nat → Int32) → (Nat → Nat → Nat) → Option ((Nat → Nat → Int32) × (Nat → Nat → Int32) × (Nat → Nat → Nat))
  | 0, _, _, _, _, _, _, _ => none
  | fu + 1, x0, x1, x2, x3, sc, ar, fr =>
    if x3 ≤ (x1 + 1) then (gd (pk nb 4 x0) <|
    wrF nb fr (x0 + 1) (x1 + 1) x2 fun fr12 =>
    bd (((sc x0 1) + 1)) fun y13 =>
    bd (up2 sc x0 1 y13) fun sc14 =>
    some (sc14, ar, fr12))
    else (gd (pk nb 4 x0) <|
    rdR nb 10 12 (x0 + 1) (x3 - 1) (fr (x0 + 1) ((x3 - 1) : Int32).toNatClampNeg) fun p16 =>
    wrF nb fr (x0 + 1) x3 p16 fun fr17 =>
    bd (x3 + (-1)) fun y18 =>
    f_X4_repeat_25 nb fu x0 x1 x2 y18 sc ar fr17)
def f_X4_repeat (nb : Nat) (x0 : Nat) (x1 : Int32) (sc : Nat → Nat → Int32) (ar : Nat → Nat → Int32) (fr : Nat → Nat → Nat) : Option ((Nat → Nat → Int32) × (Nat → Nat → Int32) × (Nat → Nat → Nat)) :=
  gd (pk nb 4 x0) <|
  rdR nb 10 12 (x0 + 1) (sc x0 1) (fr (x0 + 1) ((sc x0 1) : Int32).toNatClampNeg) fun p2 =>
  rdR nb 10 12 (x0 + 1) x1 (fr (x0 + 1) (x1 : Int32).toNatClampNeg) fun p3 =>
  gd (pk nb 1 p2) <|
  bCv (f_X1_copyFrom nb p2 p3 sc ar fr) fun sc5 ar6 fr7 =>
  bd ((sc5 x0 1)) fun y9 =>
  f_X4_repeat_25 nb FU x0 x1 p2 y9 sc5 ar6 fr7
set_option maxHeartbeats 4000000 in
set_option maxRecDepth 100000 in
theorem k_X4_repeat {l : Launch} {G : GG} {A : Nat → Prop} {Γ : Cx} (C : CX G A Γ cX4_repeat RX4 ({ frames := 2, cells := 0, slots := 0, locals := 39 } : Room) 4) (ad : Nat → Nat) (X : va_W) (nb : Nat) (x0 : Nat) (x1 : Int32) (sc : Nat → Nat → Int32) (ar : Nat → Nat → Int32) (fr : Nat → Nat → Nat) (sc0 : Nat → Nat → Int32) (ar0 : Nat → Nat → Int32) (fr0 : Nat → Nat → Nat) (hf : f_X4_repeat nb x0 x1 sc ar fr = some (sc0, ar0, fr0)) (hret : ∀ (pc : Nat) (lv : List (Nat × Value)), decode cX4_repeat pc = .ok (.return_, 1) → St l G A Γ 0 0 (wC G ad nb X sc0 ar0 fr0) pc lv []) : St l G A Γ 0 0 (wC G ad nb X sc ar fr) 0 [(0, .ref (ad x0)), (1, .int x1)] [] := by
  have B_25 : ∀  (fu : Nat) (x0 : Nat) (x1 : Int32) (x2 : Nat) (x3 : Int32) (sc : Nat → Nat → Int32) (ar : Nat → Nat → Int32) (fr : Nat → Nat → Nat), f_X4_repeat_25 nb fu x0 x1 x2 x3 sc ar fr = some (sc0, ar0, fr0) → St l G A Γ 0 0 (wC G ad nb X sc ar fr) 25 [(0, .ref (ad x0)), (1, .int x1), (2, .ref (ad x2)), (3, .int x3)] [] := by
    intro fu
    induction fu with
    | zero => intro x0 x1 x2 x3 sc ar fr hf ; rw [f_X4_repeat_25] at hf; cases hf
    | succ fu ih =>
      intro x0 x1 x2 x3 sc ar fr hf 
      rw [f_X4_repeat_25] at hf
      refine s_iload_n C 3 dX4_repeat_25 rfl ?_
      refine s_iload_n C 1 dX4_repeat_26 rfl ?_
      refine s_iconst (v := 1) C dX4_repeat_27 (by decide) ?_
      refine s_iadd C dX4_repeat_28 ?_
      refine s_icmp_le C 52 dX4_repeat_29 (by decide) (fun c10 => ?_) (fun c10 => ?_)
      · rw [if_pos c10] at hf
        refine s_aload_n C 0 dX4_repeat_52 rfl ?_
        obtain ⟨g11, hf⟩ := gd_inv hf
        refine gf_139 C x0 (wC_4 g11) rfl dX4_repeat_53 ?_
        refine s_iload_n C 1 dX4_repeat_56 rfl ?_
        refine s_iconst (v := 1) C dX4_repeat_57 (by decide) ?_
        refine s_iadd C dX4_repeat_58 ?_
        refine s_aload_n C 2 dX4_repeat_59 rfl ?_
        obtain ⟨fr12, hkfr12, hifr12, hvfr12, efr12, hf⟩ := wrF_inv hf
        refine s_aast10 C hkfr12 hifr12 hvfr12 efr12 dX4_repeat_60 ?_
        refine s_aload_n C 0 dX4_repeat_61 rfl ?_
        refine s_dup C dX4_repeat_62 rfl ?_
        refine gf_141 C x0 (wC_4 g11) rfl dX4_repeat_63 ?_
        refine s_iconst (v := 1) C dX4_repeat_66 (by decide) ?_
        refine s_iadd C dX4_repeat_67 ?_
        obtain ⟨y13, ey13, hf⟩ := bd_inv hf
        refine s_nmi ey13 ?_
        obtain ⟨sc14, esc14, hf⟩ := bd_inv hf
        refine pf_141 C x0 (wC_4 g11) (vp_nar_int _) rfl (Nat.le_of_ble_eq_true rfl) (wC G ad nb X sc14 ar fr12) (wC_s4_1 g11 esc14) dX4_repeat_68 ?_
        exact rC_V hf hret dX4_repeat_71
      · rw [if_neg c10] at hf
        refine s_aload_n C 0 dX4_repeat_32 rfl ?_
        obtain ⟨g15, hf⟩ := gd_inv hf
        refine gf_139 C x0 (wC_4 g15) rfl dX4_repeat_33 ?_
        refine s_iload_n C 3 dX4_repeat_36 rfl ?_
        refine s_aload_n C 0 dX4_repeat_37 rfl ?_
        refine gf_139 C x0 (wC_4 g15) rfl dX4_repeat_38 ?_
        refine s_iload_n C 3 dX4_repeat_41 rfl ?_
        refine s_iconst (v := 1) C dX4_repeat_42 (by decide) ?_
        refine s_isub C dX4_repeat_43 ?_
        obtain ⟨p16, hkp16, hip16, ep16, hf⟩ := rdR_inv hf
        refine s_aald10 C hkp16 hip16 dX4_repeat_44 ?_
        refine s_nmr ep16 ?_
        obtain ⟨fr17, hkfr17, hifr17, hvfr17, efr17, hf⟩ := wrF_inv hf
        refine s_aast10 C hkfr17 hifr17 hvfr17 efr17 dX4_repeat_45 ?_
        obtain ⟨y18, ey18, hf⟩ := bd_inv hf
        refine s_iinc (v := y18) C 3 [(3, .int y18), (0, .ref (ad x0)), (1, .int x1), (2, .ref (ad x2))] dX4_repeat_46 rfl (by rw [ey18]; rfl) (by decide) rfl ?_
        refine s_goto C 25 dX4_repeat_49 (by decide) ?_
        refine s_lv [1, 2, 3, 0] rfl ?_
        exact ih _ _ _ _ _ _ _ hf
  unfold f_X4_repeat at hf
  refine s_aload_n C 0 dX4_repeat_0 rfl ?_
  obtain ⟨g1, hf⟩ := gd_inv hf
  refine gf_139 C x0 (wC_4 g1) rfl dX4_repeat_1 ?_
  refine s_aload_n C 0 dX4_repeat_4 rfl ?_
  refine gf_141 C x0 (wC_4 g1) rfl dX4_repeat_5 ?_
  obtain ⟨p2, hkp2, hip2, ep2, hf⟩ := rdR_inv hf
  refine s_aald10 C hkp2 hip2 dX4_repeat_8 ?_
  refine s_nmr ep2 ?_
  refine s_astore_n C [(2, .ref (ad p2)), (0, .ref (ad x0)), (1, .int x1)] dX4_repeat_9 (by decide) rfl ?_
  refine s_aload_n C 0 dX4_repeat_10 rfl ?_
  refine s_aload_n C 1 dX4_repeat_11 rfl ?_
  refine gf_139 C x0 (wC_4 g1) rfl dX4_repeat_12 ?_
  refine s_iload_n C 2 dX4_repeat_15 rfl ?_
  obtain ⟨p3, hkp3, hip3, ep3, hf⟩ := rdR_inv hf
  refine s_aald10 C hkp3 hip3 dX4_repeat_16 ?_
  refine s_nmr ep3 ?_
  obtain ⟨g8, hf⟩ := gd_inv hf
  obtain ⟨sc5, ar6, fr7, er4, hf⟩ := bCv_inv hf
  refine s_cV_V (As := [.ref (ad p3)]) (rest := []) (ci := 1) (q := p2) C (c_X1_copyFrom l G A ad X nb p2 p3 sc ar fr _ _ _ er4) g_RX4_29 hd_X1_copyFrom rfl ⟨Nat.le_of_ble_eq_true rfl, Nat.le_of_ble_eq_true rfl⟩ rfl (wC_1 g8) rfl (Nat.le_of_ble_eq_true rfl) ⟨Nat.le_of_ble_eq_true rfl, Nat.le_of_ble_eq_true rfl⟩ dX4_repeat_17 ?_
  refine s_aload_n C 1 dX4_repeat_20 rfl ?_
  refine gf_141 C x0 (wC_4 g1) rfl dX4_repeat_21 ?_
  obtain ⟨y9, ey9, hf⟩ := bd_inv hf
  refine s_nmi ey9 ?_
  refine s_istore_n C [(3, .int y9), (2, .ref (ad p2)), (0, .ref (ad x0)), (1, .int x1)] dX4_repeat_24 (by decide) rfl ?_
  refine s_lv [2, 3, 1, 0] rfl ?_
  exact B_25 _ _ _ _ _ _ _ _ hf
theorem c_X4_repeat (l : Launch) (G : GG) (A : Nat → Prop) (ad : Nat → Nat) (X : va_W) (nb : Nat) (x0 : Nat) (x1 : Int32) (sc : Nat → Nat → Int32) (ar : Nat → Nat → Int32) (fr : Nat → Nat → Nat) (sc0 : Nat → Nat → Int32) (ar0 : Nat → Nat → Int32) (fr0 : Nat → Nat → Nat) (hf : f_X4_repeat nb x0 x1 sc ar fr = some (sc0, ar0, fr0)) : MV l yX4_repeat cX4_repeat 4 ({ frames := 2, cells := 0, slots := 0, locals := 39 } : Room) G A (wC G ad nb X sc ar fr) [.ref (ad x0), .int x1] (wC G ad nb X sc0 ar0 fr0) :=
  e_V (by decide) (Nat.le_of_ble_eq_true rfl) (fun Γ C hret => k_X4_repeat C _ _ _ _ _ _ _ _ _ _ _ hf hret)
def f_X4_eldestOver_2 (nb : Nat)  : Nat → Nat → Int32 → Int32 → (Nat → Nat → Int32) → (Nat → Nat → Int32) → (Nat → Nat → Nat) → Option (Int32 × (Nat → Nat → Int32) × (Nat → Nat → Int32) × (Nat → Nat → Nat))
  | 0, _, _, _, _, _, _ => none
  | fu + 1, x0, x1, x2, sc, ar, fr =>
    gd (pk nb 4 x0) <|
    if (sc x0 1) ≤ x2 then (some ((-1), sc, ar, fr))
    else (rdR nb 10 12 (x0 + 1) x2 (fr (x0 + 1) (x2 : Int32).toNatClampNeg) fun p3 =>
    gd (pk nb 1 p3) <|
    if x1 < (sc p3 2) then (bd (x2 + 1) fun y6 =>
    f_X4_eldestOver_2 nb fu x0 x1 y6 sc ar fr)
    else (some (x2, sc, ar, fr)))
def f_X4_eldestOver (nb : Nat) (x0 : Nat) (x1 : Int32) (sc : Nat → Nat → Int32) (ar : Nat → Nat → Int32) (fr : Nat → Nat → Nat) : Option (Int32 × (Nat → Nat → Int32) × (Nat → Nat → Int32) × (Nat → Nat → Nat)) :=
  f_X4_eldestOver_2 nb FU x0 x1 0 sc ar fr
set_option maxHeartbeats 4000000 in
set_option maxRecDepth 100000 in
theorem k_X4_eldestOver {l : Launch} {G : GG} {A : Nat → Prop} {Γ : Cx} (C : CX G A Γ cX4_eldestOver RX4 ({ frames := 0, cells := 0, slots := 0, locals := 0 } : Room) 3) (ad : Nat → Nat) (X : va_W) (nb : Nat) (x0 : Nat) (x1 : Int32) (sc : Nat → Nat → Int32) (ar : Nat → Nat → Int32) (fr : Nat → Nat → Nat) (r0 : Int32) (sc0 : Nat → Nat → Int32) (ar0 : Nat → Nat → Int32) (fr0 : Nat → Nat → Nat) (hf : f_X4_eldestOver nb x0 x1 sc ar fr = some (r0, sc0, ar0, fr0)) (hret : ∀ (pc : Nat) (lv : List (Nat × Value)), decode cX4_eldestOver pc = .ok (.ireturn, 1) → narrow .int (.int r0) = .int r0 → St l G A Γ 0 0 (wC G ad nb X sc0 ar0 fr0) pc lv [.int r0]) : St l G A Γ 0 0 (wC G ad nb X sc ar fr) 0 [(0, .ref (ad x0)), (1, .int x1)] [] := by
  have B_2 : ∀  (fu : Nat) (x0 : Nat) (x1 : Int32) (x2 : Int32) (sc : Nat → Nat → Int32) (ar : Nat → Nat → Int32) (fr : Nat → Nat → Nat), f_X4_eldestOver_2 nb fu x0 x1 x2 sc ar fr = some (r0, sc0, ar0, fr0) → St l G A Γ 0 0 (wC G ad nb X sc ar fr) 2 [(0, .ref (ad x0)), (1, .int x1), (2, .int x2)] [] := by
    intro fu
    induction fu with
    | zero => intro x0 x1 x2 sc ar fr hf ; rw [f_X4_eldestOver_2] at hf; cases hf
    | succ fu ih =>
      intro x0 x1 x2 sc ar fr hf 
      rw [f_X4_eldestOver_2] at hf
      refine s_iload_n C 2 dX4_eldestOver_2 rfl ?_
      refine s_aload_n C 0 dX4_eldestOver_3 rfl ?_
      obtain ⟨g1, hf⟩ := gd_inv hf
      refine gf_141 C x0 (wC_4 g1) rfl dX4_eldestOver_4 ?_
      refine s_icmp_ge C 31 dX4_eldestOver_7 (by decide) (fun c2 => ?_) (fun c2 => ?_)
      · rw [if_pos c2] at hf
        refine s_iconst (v := (-1)) C dX4_eldestOver_31 (by decide) ?_
        exact rC_I hf (vp_nar_int _) hret dX4_eldestOver_32
      · rw [if_neg c2] at hf
        refine s_aload_n C 0 dX4_eldestOver_10 rfl ?_
        refine gf_139 C x0 (wC_4 g1) rfl dX4_eldestOver_11 ?_
        refine s_iload_n C 2 dX4_eldestOver_14 rfl ?_
        obtain ⟨p3, hkp3, hip3, ep3, hf⟩ := rdR_inv hf
        refine s_aald10 C hkp3 hip3 dX4_eldestOver_15 ?_
        refine s_nmr ep3 ?_
        obtain ⟨g4, hf⟩ := gd_inv hf
        refine gf_129 C p3 (wC_1 g4) rfl dX4_eldestOver_16 ?_
        refine s_iload_n C 1 dX4_eldestOver_19 rfl ?_
        refine s_icmp_gt C 25 dX4_eldestOver_20 (by decide) (fun c5 => ?_) (fun c5 => ?_)
        · rw [if_pos c5] at hf
          obtain ⟨y6, ey6, hf⟩ := bd_inv hf
          refine s_iinc (v := y6) C 2 [(2, .int y6), (0, .ref (ad x0)), (1, .int x1)] dX4_eldestOver_25 rfl (by rw [ey6]; rfl) (by decide) rfl ?_
          refine s_goto C 2 dX4_eldestOver_28 (by decide) ?_
          refine s_lv [1, 2, 0] rfl ?_
          exact ih _ _ _ _ _ _ hf
        · rw [if_neg c5] at hf
          refine s_iload_n C 2 dX4_eldestOver_23 rfl ?_
          exact rC_I hf (vp_nar_int _) hret dX4_eldestOver_24
  unfold f_X4_eldestOver at hf
  refine s_iconst (v := 0) C dX4_eldestOver_0 (by decide) ?_
  refine s_istore_n C [(2, .int 0), (0, .ref (ad x0)), (1, .int x1)] dX4_eldestOver_1 (by decide) rfl ?_
  refine s_lv [1, 2, 0] rfl ?_
  exact B_2 _ _ _ _ _ _ _ hf
theorem c_X4_eldestOver (l : Launch) (G : GG) (A : Nat → Prop) (ad : Nat → Nat) (X : va_W) (nb : Nat) (x0 : Nat) (x1 : Int32) (sc : Nat → Nat → Int32) (ar : Nat → Nat → Int32) (fr : Nat → Nat → Nat) (r0 : Int32) (sc0 : Nat → Nat → Int32) (ar0 : Nat → Nat → Int32) (fr0 : Nat → Nat → Nat) (hf : f_X4_eldestOver nb x0 x1 sc ar fr = some (r0, sc0, ar0, fr0)) : MI l yX4_eldestOver cX4_eldestOver 3 .int ({ frames := 0, cells := 0, slots := 0, locals := 0 } : Room) G A (wC G ad nb X sc ar fr) [.ref (ad x0), .int x1] r0 (wC G ad nb X sc0 ar0 fr0) :=
  e_I (by decide) (Nat.le_of_ble_eq_true rfl) (fun Γ C hret => k_X4_eldestOver C _ _ _ _ _ _ _ _ _ _ _ _ hf hret)
def f_X4_copyFrom_10 (nb : Nat)  : Nat → Nat → Nat → Int32 → (Nat → Nat → Int32) → (Nat → Nat → Int32) → (Nat → Nat → Nat) → Option ((Nat → Nat → Int32) × (Nat → Nat → Int32) × (Nat → Nat → Nat))
  | 0, _, _, _, _, _, _ => none
  | fu + 1, x0, x1, x2, sc, ar, fr =>
    gd (pk nb 4 x0) <|
    if (sc x0 1) ≤ x2 then (some (sc, ar, fr))
    else (rdR nb 10 12 (x0 + 1) x2 (fr (x0 + 1) (x2 : Int32).toNatClampNeg) fun p7 =>
    gd (pk nb 4 x1) <|
    rdR nb 10 12 (x1 + 1) x2 (fr (x1 + 1) (x2 : Int32).toNatClampNeg) fun p9 =>
    gd (pk nb 1 p7) <|
    bCv (f_X1_copyFrom nb p7 p9 sc ar fr) fun sc11 ar12 fr13 =>
    bd (x2 + 1) fun y15 =>
    f_X4_copyFrom_10 nb fu x0 x1 y15 sc11 ar12 fr13)
def f_X4_copyFrom (nb : Nat) (x0 : Nat) (x1 : Nat) (sc : Nat → Nat → Int32) (ar : Nat → Nat → Int32) (fr : Nat → Nat → Nat) : Option ((Nat → Nat → Int32) × (Nat → Nat → Int32) × (Nat → Nat → Nat)) :=
  gd (pk nb 4 x1) <|
  bd ((sc x1 1)) fun y2 =>
  gd (pk nb 4 x0) <|
  bd (up2 sc x0 1 y2) fun sc4 =>
  f_X4_copyFrom_10 nb FU x0 x1 0 sc4 ar fr
set_option maxHeartbeats 4000000 in
set_option maxRecDepth 100000 in
theorem k_X4_copyFrom {l : Launch} {G : GG} {A : Nat → Prop} {Γ : Cx} (C : CX G A Γ cX4_copyFrom RX4 ({ frames := 2, cells := 0, slots := 0, locals := 39 } : Room) 3) (ad : Nat → Nat) (X : va_W) (nb : Nat) (x0 : Nat) (x1 : Nat) (sc : Nat → Nat → Int32) (ar : Nat → Nat → Int32) (fr : Nat → Nat → Nat) (sc0 : Nat → Nat → Int32) (ar0 : Nat → Nat → Int32) (fr0 : Nat → Nat → Nat) (hf : f_X4_copyFrom nb x0 x1 sc ar fr = some (sc0, ar0, fr0)) (hret : ∀ (pc : Nat) (lv : List (Nat × Value)), decode cX4_copyFrom pc = .ok (.return_, 1) → St l G A Γ 0 0 (wC G ad nb X sc0 ar0 fr0) pc lv []) : St l G A Γ 0 0 (wC G ad nb X sc ar fr) 0 [(0, .ref (ad x0)), (1, .ref (ad x1))] [] := by
  have B_10 : ∀  (fu : Nat) (x0 : Nat) (x1 : Nat) (x2 : Int32) (sc : Nat → Nat → Int32) (ar : Nat → Nat → Int32) (fr : Nat → Nat → Nat), f_X4_copyFrom_10 nb fu x0 x1 x2 sc ar fr = some (sc0, ar0, fr0) → St l G A Γ 0 0 (wC G ad nb X sc ar fr) 10 [(0, .ref (ad x0)), (1, .ref (ad x1)), (2, .int x2)] [] := by
    intro fu
    induction fu with
    | zero => intro x0 x1 x2 sc ar fr hf ; rw [f_X4_copyFrom_10] at hf; cases hf
    | succ fu ih =>
      intro x0 x1 x2 sc ar fr hf 
      rw [f_X4_copyFrom_10] at hf
      refine s_iload_n C 2 dX4_copyFrom_10 rfl ?_
      refine s_aload_n C 0 dX4_copyFrom_11 rfl ?_
      obtain ⟨g5, hf⟩ := gd_inv hf
      refine gf_141 C x0 (wC_4 g5) rfl dX4_copyFrom_12 ?_
      refine s_icmp_ge C 39 dX4_copyFrom_15 (by decide) (fun c6 => ?_) (fun c6 => ?_)
      · rw [if_pos c6] at hf
        exact rC_V hf hret dX4_copyFrom_39
      · rw [if_neg c6] at hf
        refine s_aload_n C 0 dX4_copyFrom_18 rfl ?_
        refine gf_139 C x0 (wC_4 g5) rfl dX4_copyFrom_19 ?_
        refine s_iload_n C 2 dX4_copyFrom_22 rfl ?_
        obtain ⟨p7, hkp7, hip7, ep7, hf⟩ := rdR_inv hf
        refine s_aald10 C hkp7 hip7 dX4_copyFrom_23 ?_
        refine s_nmr ep7 ?_
        refine s_aload_n C 1 dX4_copyFrom_24 rfl ?_
        obtain ⟨g8, hf⟩ := gd_inv hf
        refine gf_139 C x1 (wC_4 g8) rfl dX4_copyFrom_25 ?_
        refine s_iload_n C 2 dX4_copyFrom_28 rfl ?_
        obtain ⟨p9, hkp9, hip9, ep9, hf⟩ := rdR_inv hf
        refine s_aald10 C hkp9 hip9 dX4_copyFrom_29 ?_
        refine s_nmr ep9 ?_
        obtain ⟨g14, hf⟩ := gd_inv hf
        obtain ⟨sc11, ar12, fr13, er10, hf⟩ := bCv_inv hf
        refine s_cV_V (As := [.ref (ad p9)]) (rest := []) (ci := 1) (q := p7) C (c_X1_copyFrom l G A ad X nb p7 p9 sc ar fr _ _ _ er10) g_RX4_29 hd_X1_copyFrom rfl ⟨Nat.le_of_ble_eq_true rfl, Nat.le_of_ble_eq_true rfl⟩ rfl (wC_1 g14) rfl (Nat.le_of_ble_eq_true rfl) ⟨Nat.le_of_ble_eq_true rfl, Nat.le_of_ble_eq_true rfl⟩ dX4_copyFrom_30 ?_
        obtain ⟨y15, ey15, hf⟩ := bd_inv hf
        refine s_iinc (v := y15) C 2 [(2, .int y15), (0, .ref (ad x0)), (1, .ref (ad x1))] dX4_copyFrom_33 rfl (by rw [ey15]; rfl) (by decide) rfl ?_
        refine s_goto C 10 dX4_copyFrom_36 (by decide) ?_
        refine s_lv [1, 2, 0] rfl ?_
        exact ih _ _ _ _ _ _ hf
  unfold f_X4_copyFrom at hf
  refine s_aload_n C 0 dX4_copyFrom_0 rfl ?_
  refine s_aload_n C 1 dX4_copyFrom_1 rfl ?_
  obtain ⟨g1, hf⟩ := gd_inv hf
  refine gf_141 C x1 (wC_4 g1) rfl dX4_copyFrom_2 ?_
  obtain ⟨y2, ey2, hf⟩ := bd_inv hf
  refine s_nmi ey2 ?_
  obtain ⟨g3, hf⟩ := gd_inv hf
  obtain ⟨sc4, esc4, hf⟩ := bd_inv hf
  refine pf_141 C x0 (wC_4 g3) (vp_nar_int _) rfl (Nat.le_of_ble_eq_true rfl) (wC G ad nb X sc4 ar fr) (wC_s4_1 g3 esc4) dX4_copyFrom_5 ?_
  refine s_iconst (v := 0) C dX4_copyFrom_8 (by decide) ?_
  refine s_istore_n C [(2, .int 0), (0, .ref (ad x0)), (1, .ref (ad x1))] dX4_copyFrom_9 (by decide) rfl ?_
  refine s_lv [1, 2, 0] rfl ?_
  exact B_10 _ _ _ _ _ _ _ hf
theorem c_X4_copyFrom (l : Launch) (G : GG) (A : Nat → Prop) (ad : Nat → Nat) (X : va_W) (nb : Nat) (x0 : Nat) (x1 : Nat) (sc : Nat → Nat → Int32) (ar : Nat → Nat → Int32) (fr : Nat → Nat → Nat) (sc0 : Nat → Nat → Int32) (ar0 : Nat → Nat → Int32) (fr0 : Nat → Nat → Nat) (hf : f_X4_copyFrom nb x0 x1 sc ar fr = some (sc0, ar0, fr0)) : MV l yX4_copyFrom cX4_copyFrom 3 ({ frames := 2, cells := 0, slots := 0, locals := 39 } : Room) G A (wC G ad nb X sc ar fr) [.ref (ad x0), .ref (ad x1)] (wC G ad nb X sc0 ar0 fr0) :=
  e_V (by decide) (Nat.le_of_ble_eq_true rfl) (fun Γ C hret => k_X4_copyFrom C _ _ _ _ _ _ _ _ _ _ _ hf hret)
