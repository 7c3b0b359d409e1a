def f_X2_changeDelay (nb : Nat) (x0 : Nat) (x1 : Int32) (sc : Nat → Nat → Int32) (ar : Nat → Nat → Int32) (fr : Nat → Nat → Nat) : Option (Int32 × (Nat → Nat → Int32) × (Nat → Nat → Int32) × (Nat → Nat → Nat)) :=
  gd (pk nb 2 x0) <|
  bd ((sc x0 5)) fun y2 =>
  bd (up2 sc x0 5 x1) fun sc3 =>
  some (y2, sc3, ar, fr)
set_option maxHeartbeats 4000000 in
set_option maxRecDepth 100000 in
theorem k_X2_changeDelay {l : Launch} {G : GG} {A : Nat → Prop} {Γ : Cx} (C : CX G A Γ cX2_changeDelay RX2 ({ frames := 0, cells := 0, slots := 0, locals := 0 } : Room) 3) (ad : Nat → Nat) (X : va_W) (nb : Nat) (x0 : Nat) (x1 : Int32) (sc : Nat → Nat → Int32) (ar : Nat → Nat → Int32) (fr : Nat → Nat → Nat) (r0 : Int32) (sc0 : Nat → Nat → Int32) (ar0 : Nat → Nat → Int32) (fr0 : Nat → Nat → Nat) (hf : f_X2_changeDelay nb x0 x1 sc ar fr = some (r0, sc0, ar0, fr0)) (hret : ∀ (pc : Nat) (lv : List (Nat × Value)), decode cX2_changeDelay pc = .ok (.ireturn, 1) → narrow .int (.int r0) = .int r0 → St l G A Γ 0 0 (wC G ad nb X sc0 ar0 fr0) pc lv [.int r0]) : St l G A Γ 0 0 (wC G ad nb X sc ar fr) 0 [(0, .ref (ad x0)), (1, .int x1)] [] := by
  unfold f_X2_changeDelay at hf
  refine s_aload_n C 0 dX2_changeDelay_0 rfl ?_
  obtain ⟨g1, hf⟩ := gd_inv hf
  refine gf_159 C x0 (wC_2 g1) rfl dX2_changeDelay_1 ?_
  obtain ⟨y2, ey2, hf⟩ := bd_inv hf
  refine s_nmi ey2 ?_
  refine s_istore_n C [(2, .int y2), (0, .ref (ad x0)), (1, .int x1)] dX2_changeDelay_4 (by decide) rfl ?_
  refine s_aload_n C 1 dX2_changeDelay_5 rfl ?_
  refine s_iload_n C 2 dX2_changeDelay_6 rfl ?_
  obtain ⟨sc3, esc3, hf⟩ := bd_inv hf
  refine pf_159 C x0 (wC_2 g1) (vp_nar_int _) rfl (Nat.le_of_ble_eq_true rfl) (wC G ad nb X sc3 ar fr) (wC_s2_5 g1 esc3) dX2_changeDelay_7 ?_
  refine s_iload_n C 0 dX2_changeDelay_10 rfl ?_
  exact rC_I hf (vp_nar_int _) hret dX2_changeDelay_11
theorem c_X2_changeDelay (l : Launch) (G : GG) (A : Nat → Prop) (ad : Nat → Nat) (X : va_W) (nb : Nat) (x0 : Nat) (x1 : Int32) (sc : Nat → Nat → Int32) (ar : Nat → Nat → Int32) (fr : Nat → Nat → Nat) (r0 : Int32) (sc0 : Nat → Nat → Int32) (ar0 : Nat → Nat → Int32) (fr0 : Nat → Nat → Nat) (hf : f_X2_changeDelay nb x0 x1 sc ar fr = some (r0, sc0, ar0, fr0)) : MI l yX2_changeDelay cX2_changeDelay 3 .int ({ frames := 0, cells := 0, slots := 0, locals := 0 } : Room) G A (wC G ad nb X sc ar fr) [.ref (ad x0), .int x1] r0 (wC G ad nb X sc0 ar0 fr0) :=
  e_I (by decide) (Nat.le_of_ble_eq_true rfl) (fun Γ C hret => k_X2_changeDelay C _ _ _ _ _ _ _ _ _ _ _ _ hf hret)
def f_X2_changePatience (nb : Nat) (x0 : Nat) (x1 : Int32) (sc : Nat → Nat → Int32) (ar : Nat → Nat → Int32) (fr : Nat → Nat → Nat) : Option (Int32 × (Nat → Nat → Int32) × (Nat → Nat → Int32) × (Nat → Nat → Nat)) :=
  gd (pk nb 2 x0) <|
  bd ((sc x0 6)) fun y2 =>
  bd (up2 sc x0 6 x1) fun sc3 =>
  some (y2, sc3, ar, fr)
set_option maxHeartbeats 4000000 in
set_option maxRecDepth 100000 in
theorem k_X2_changePatience {l : Launch} {G : GG} {A : Nat → Prop} {Γ : Cx} (C : CX G A Γ cX2_changePatience RX2 ({ frames := 0, cells := 0, slots := 0, locals := 0 } : Room) 3) (ad : Nat → Nat) (X : va_W) (nb : Nat) (x0 : Nat) (x1 : Int32) (sc : Nat → Nat → Int32) (ar : Nat → Nat → Int32) (fr : Nat → Nat → Nat) (r0 : Int32) (sc0 : Nat → Nat → Int32) (ar0 : Nat → Nat → Int32) (fr0 : Nat → Nat → Nat) (hf : f_X2_changePatience nb x0 x1 sc ar fr = some (r0, sc0, ar0, fr0)) (hret : ∀ (pc : Nat) (lv : List (Nat × Value)), decode cX2_changePatience pc = .ok (.ireturn, 1) → narrow .int (.int r0) = .int r0 → St l G A Γ 0 0 (wC G ad nb X sc0 ar0 fr0) pc lv [.int r0]) : St l G A Γ 0 0 (wC G ad nb X sc ar fr) 0 [(0, .ref (ad x0)), (1, .int x1)] [] := by
  unfold f_X2_changePatience at hf
  refine s_aload_n C 0 dX2_changePatience_0 rfl ?_
  obtain ⟨g1, hf⟩ := gd_inv hf
  refine gf_160 C x0 (wC_2 g1) rfl dX2_changePatience_1 ?_
  obtain ⟨y2, ey2, hf⟩ := bd_inv hf
  refine s_nmi ey2 ?_
  refine s_istore_n C [(2, .int y2), (0, .ref (ad x0)), (1, .int x1)] dX2_changePatience_4 (by decide) rfl ?_
  refine s_aload_n C 1 dX2_changePatience_5 rfl ?_
  refine s_iload_n C 2 dX2_changePatience_6 rfl ?_
  obtain ⟨sc3, esc3, hf⟩ := bd_inv hf
  refine pf_160 C x0 (wC_2 g1) (vp_nar_int _) rfl (Nat.le_of_ble_eq_true rfl) (wC G ad nb X sc3 ar fr) (wC_s2_6 g1 esc3) dX2_changePatience_7 ?_
  refine s_iload_n C 0 dX2_changePatience_10 rfl ?_
  exact rC_I hf (vp_nar_int _) hret dX2_changePatience_11
theorem c_X2_changePatience (l : Launch) (G : GG) (A : Nat → Prop) (ad : Nat → Nat) (X : va_W) (nb : Nat) (x0 : Nat) (x1 : Int32) (sc : Nat → Nat → Int32) (ar : Nat → Nat → Int32) (fr : Nat → Nat → Nat) (r0 : Int32) (sc0 : Nat → Nat → Int32) (ar0 : Nat → Nat → Int32) (fr0 : Nat → Nat → Nat) (hf : f_X2_changePatience nb x0 x1 sc ar fr = some (r0, sc0, ar0, fr0)) : MI l yX2_changePatience cX2_changePatience 3 .int ({ frames := 0, cells := 0, slots := 0, locals := 0 } : Room) G A (wC G ad nb X sc ar fr) [.ref (ad x0), .int x1] r0 (wC G ad nb X sc0 ar0 fr0) :=
  e_I (by decide) (Nat.le_of_ble_eq_true rfl) (fun Γ C hret => k_X2_changePatience C _ _ _ _ _ _ _ _ _ _ _ _ hf hret)
def f_X2_changeAckDelay (nb : Nat) (x0 : Nat) (x1 : Int32) (sc : Nat → Nat → Int32) (ar : Nat → Nat → Int32) (fr : Nat → Nat → Nat) : Option (Int32 × (Nat → Nat → Int32) × (Nat → Nat → Int32) × (Nat → Nat → Nat)) :=
  gd (pk nb 2 x0) <|
  bd ((sc x0 7)) fun y2 =>
  bd (up2 sc x0 7 x1) fun sc3 =>
  some (y2, sc3, ar, fr)
set_option maxHeartbeats 4000000 in
set_option maxRecDepth 100000 in
theorem k_X2_changeAckDelay {l : Launch} {G : GG} {A : Nat → Prop} {Γ : Cx} (C : CX G A Γ cX2_changeAckDelay RX2 ({ frames := 0, cells := 0, slots := 0, locals := 0 } : Room) 3) (ad : Nat → Nat) (X : va_W) (nb : Nat) (x0 : Nat) (x1 : Int32) (sc : Nat → Nat → Int32) (ar : Nat → Nat → Int32) (fr : Nat → Nat → Nat) (r0 : Int32) (sc0 : Nat → Nat → Int32) (ar0 : Nat → Nat → Int32) (fr0 : Nat → Nat → Nat) (hf : f_X2_changeAckDelay nb x0 x1 sc ar fr = some (r0, sc0, ar0, fr0)) (hret : ∀ (pc : Nat) (lv : List (Nat × Value)), decode cX2_changeAckDelay pc = .ok (.ireturn, 1) → narrow .int (.int r0) = .int r0 → St l G A Γ 0 0 (wC G ad nb X sc0 ar0 fr0) pc lv [.int r0]) : St l G A Γ 0 0 (wC G ad nb X sc ar fr) 0 [(0, .ref (ad x0)), (1, .int x1)] [] := by
  unfold f_X2_changeAckDelay at hf
  refine s_aload_n C 0 dX2_changeAckDelay_0 rfl ?_
  obtain ⟨g1, hf⟩ := gd_inv hf
  refine gf_161 C x0 (wC_2 g1) rfl dX2_changeAckDelay_1 ?_
  obtain ⟨y2, ey2, hf⟩ := bd_inv hf
  refine s_nmi ey2 ?_
  refine s_istore_n C [(2, .int y2), (0, .ref (ad x0)), (1, .int x1)] dX2_changeAckDelay_4 (by decide) rfl ?_
  refine s_aload_n C 1 dX2_changeAckDelay_5 rfl ?_
  refine s_iload_n C 2 dX2_changeAckDelay_6 rfl ?_
  obtain ⟨sc3, esc3, hf⟩ := bd_inv hf
  refine pf_161 C x0 (wC_2 g1) (vp_nar_int _) rfl (Nat.le_of_ble_eq_true rfl) (wC G ad nb X sc3 ar fr) (wC_s2_7 g1 esc3) dX2_changeAckDelay_7 ?_
  refine s_iload_n C 0 dX2_changeAckDelay_10 rfl ?_
  exact rC_I hf (vp_nar_int _) hret dX2_changeAckDelay_11
theorem c_X2_changeAckDelay (l : Launch) (G : GG) (A : Nat → Prop) (ad : Nat → Nat) (X : va_W) (nb : Nat) (x0 : Nat) (x1 : Int32) (sc : Nat → Nat → Int32) (ar : Nat → Nat → Int32) (fr : Nat → Nat → Nat) (r0 : Int32) (sc0 : Nat → Nat → Int32) (ar0 : Nat → Nat → Int32) (fr0 : Nat → Nat → Nat) (hf : f_X2_changeAckDelay nb x0 x1 sc ar fr = some (r0, sc0, ar0, fr0)) : MI l yX2_changeAckDelay cX2_changeAckDelay 3 .int ({ frames := 0, cells := 0, slots := 0, locals := 0 } : Room) G A (wC G ad nb X sc ar fr) [.ref (ad x0), .int x1] r0 (wC G ad nb X sc0 ar0 fr0) :=
  e_I (by decide) (Nat.le_of_ble_eq_true rfl) (fun Γ C hret => k_X2_changeAckDelay C _ _ _ _ _ _ _ _ _ _ _ _ hf hret)
def f_X2_train (nb : Nat) (x0 : Nat) (sc : Nat → Nat → Int32) (ar : Nat → Nat → Int32) (fr : Nat → Nat → Nat) : Option ((Nat → Nat → Int32) × (Nat → Nat → Int32) × (Nat → Nat → Nat)) :=
  gd (pk nb 2 x0) <|
  rdA nb ar (x0 + 71) 2 fun v2 =>
  bd ((v2 + 1)) fun y3 =>
  wrA nb ar (x0 + 71) 2 y3 fun ar4 =>
  bd (up2 sc x0 4 5) fun sc5 =>
  rdR nb 12 2 (x0 + 18) 0 ((x0 + 18) + 1 + 26 * (0 : Int32).toNatClampNeg) fun p6 =>
  gd (pk nb 4 p6) <|
  bd (up2 sc5 p6 1 0) fun sc8 =>
  rdR nb 12 2 (x0 + 18) 1 ((x0 + 18) + 1 + 26 * (1 : Int32).toNatClampNeg) fun p9 =>
  gd (pk nb 4 p9) <|
  bd (up2 sc8 p9 1 0) fun sc11 =>
  some (sc11, ar4, fr)
set_option maxHeartbeats 4000000 in
set_option maxRecDepth 100000 in
theorem k_X2_train {l : Launch} {G : GG} {A : Nat → Prop} {Γ : Cx} (C : CX G A Γ cX2_train RX2 ({ frames := 0, cells := 0, slots := 0, locals := 0 } : Room) 1) (ad : Nat → Nat) (X : va_W) (nb : Nat) (x0 : Nat) (sc : Nat → Nat → Int32) (ar : Nat → Nat → Int32) (fr : Nat → Nat → Nat) (sc0 : Nat → Nat → Int32) (ar0 : Nat → Nat → Int32) (fr0 : Nat → Nat → Nat) (hf : f_X2_train nb x0 sc ar fr = some (sc0, ar0, fr0)) (hret : ∀ (pc : Nat) (lv : List (Nat × Value)), decode cX2_train pc = .ok (.return_, 1) → St l G A Γ 0 0 (wC G ad nb X sc0 ar0 fr0) pc lv []) : St l G A Γ 0 0 (wC G ad nb X sc ar fr) 0 [(0, .ref (ad x0))] [] := by
  unfold f_X2_train at hf
  refine s_aload_n C 0 dX2_train_0 rfl ?_
  obtain ⟨g1, hf⟩ := gd_inv hf
  refine gf_153 C x0 (wC_2 g1) rfl dX2_train_1 ?_
  refine s_iconst (v := 2) C dX2_train_4 (by decide) ?_
  refine s_dup2 C dX2_train_5 rfl rfl ?_
  obtain ⟨v2, hkv2, hiv2, ev2, hf⟩ := rdA_inv hf
  refine s_ciald C hkv2 hiv2 dX2_train_6 ?_
  refine s_nmi ev2 ?_
  refine s_iconst (v := 1) C dX2_train_7 (by decide) ?_
  refine s_iadd C dX2_train_8 ?_
  obtain ⟨y3, ey3, hf⟩ := bd_inv hf
  refine s_nmi ey3 ?_
  obtain ⟨ar4, hkar4, hiar4, ear4, hf⟩ := wrA_inv hf
  refine s_ciast C hkar4 hiar4 ear4 dX2_train_9 ?_
  refine s_aload_n C 0 dX2_train_10 rfl ?_
  refine s_iconst (v := 5) C dX2_train_11 (by decide) ?_
  obtain ⟨sc5, esc5, hf⟩ := bd_inv hf
  refine pf_157 C x0 (wC_2 g1) (vp_nar_int _) rfl (Nat.le_of_ble_eq_true rfl) (wC G ad nb X sc5 ar4 fr) (wC_s2_4 g1 esc5) dX2_train_12 ?_
  refine s_aload_n C 0 dX2_train_15 rfl ?_
  refine gf_151 C x0 (wC_2 g1) rfl dX2_train_16 ?_
  refine s_iconst (v := 0) C dX2_train_19 (by decide) ?_
  obtain ⟨p6, hkp6, hip6, ep6, hf⟩ := rdR_inv hf
  refine s_aald12 C hkp6 hip6 dX2_train_20 ?_
  refine s_nmr ep6 ?_
  refine s_iconst (v := 0) C dX2_train_21 (by decide) ?_
  obtain ⟨g7, hf⟩ := gd_inv hf
  obtain ⟨sc8, esc8, hf⟩ := bd_inv hf
  refine pf_142 C p6 (wC_4 g7) (vp_nar_int _) rfl (Nat.le_of_ble_eq_true rfl) (wC G ad nb X sc8 ar4 fr) (wC_s4_1 g7 esc8) dX2_train_22 ?_
  refine s_aload_n C 0 dX2_train_25 rfl ?_
  refine gf_151 C x0 (wC_2 g1) rfl dX2_train_26 ?_
  refine s_iconst (v := 1) C dX2_train_29 (by decide) ?_
  obtain ⟨p9, hkp9, hip9, ep9, hf⟩ := rdR_inv hf
  refine s_aald12 C hkp9 hip9 dX2_train_30 ?_
  refine s_nmr ep9 ?_
  refine s_iconst (v := 0) C dX2_train_31 (by decide) ?_
  obtain ⟨g10, hf⟩ := gd_inv hf
  obtain ⟨sc11, esc11, hf⟩ := bd_inv hf
  refine pf_142 C p9 (wC_4 g10) (vp_nar_int _) rfl (Nat.le_of_ble_eq_true rfl) (wC G ad nb X sc11 ar4 fr) (wC_s4_1 g10 esc11) dX2_train_32 ?_
  exact rC_V hf hret dX2_train_35
theorem c_X2_train (l : Launch) (G : GG) (A : Nat → Prop) (ad : Nat → Nat) (X : va_W) (nb : Nat) (x0 : Nat) (sc : Nat → Nat → Int32) (ar : Nat → Nat → Int32) (fr : Nat → Nat → Nat) (sc0 : Nat → Nat → Int32) (ar0 : Nat → Nat → Int32) (fr0 : Nat → Nat → Nat) (hf : f_X2_train nb x0 sc ar fr = some (sc0, ar0, fr0)) : MV l yX2_train cX2_train 1 ({ frames := 0, cells := 0, slots := 0, locals := 0 } : Room) G A (wC G ad nb X sc ar fr) [.ref (ad x0)] (wC G ad nb X sc0 ar0 fr0) :=
  e_V (by decide) (Nat.le_of_ble_eq_true rfl) (fun Γ C hret => k_X2_train C _ _ _ _ _ _ _ _ _ _ hf hret)
def f_X2_sendAgain (nb : Nat) (x0 : Nat) (x1 : Nat) (sc : Nat → Nat → Int32) (ar : Nat → Nat → Int32) (fr : Nat → Nat → Nat) : Option ((Nat → Nat → Int32) × (Nat → Nat → Int32) × (Nat → Nat → Nat)) :=
  gd (pk nb 2 x0) <|
  rdA nb ar (x0 + 71) 3 fun v2 =>
  bd ((v2 + 1)) fun y3 =>
  wrA nb ar (x0 + 71) 3 y3 fun ar4 =>
  gd (pk nb 0 x1) <|
  bd (((sc x1 8) + 1)) fun y6 =>
  bd (up2 sc x1 8 y6) fun sc7 =>
  bd (up2 sc7 x1 7 0) fun sc8 =>
  bC (f_X0_unacked nb x1 sc8 ar4 fr) fun r9 sc10 ar11 fr12 =>
  bd (up2 sc10 x1 9 r9) fun sc13 =>
  if (sc13 x1 8) < 4 then (some (sc13, ar11, fr12))
  else (bd (up2 sc13 x1 8 0) fun sc15 =>
  bCv (f_X2_train nb x0 sc15 ar11 fr12) fun sc17 ar18 fr19 =>
  some (sc17, ar18, fr19))
set_option maxHeartbeats 4000000 in
set_option maxRecDepth 100000 in
theorem k_X2_sendAgain {l : Launch} {G : GG} {A : Nat → Prop} {Γ : Cx} (C : CX G A Γ cX2_sendAgain RX2 ({ frames := 1, cells := 0, slots := 0, locals := 20 } : Room) 2) (ad : Nat → Nat) (X : va_W) (nb : Nat) (x0 : Nat) (x1 : Nat) (sc : Nat → Nat → Int32) (ar : Nat → Nat → Int32) (fr : Nat → Nat → Nat) (sc0 : Nat → Nat → Int32) (ar0 : Nat → Nat → Int32) (fr0 : Nat → Nat → Nat) (hf : f_X2_sendAgain nb x0 x1 sc ar fr = some (sc0, ar0, fr0)) (hret : ∀ (pc : Nat) (lv : List (Nat × Value)), decode cX2_sendAgain pc = .ok (.return_, 1) → St l G A Γ 0 0 (wC G ad nb X sc0 ar0 fr0) pc lv []) : St l G A Γ 0 0 (wC G ad nb X sc ar fr) 0 [(0, .ref (ad x0)), (1, .ref (ad x1))] [] := by
  unfold f_X2_sendAgain at hf
  refine s_aload_n C 0 dX2_sendAgain_0 rfl ?_
  obtain ⟨g1, hf⟩ := gd_inv hf
  refine gf_153 C x0 (wC_2 g1) rfl dX2_sendAgain_1 ?_
  refine s_iconst (v := 3) C dX2_sendAgain_4 (by decide) ?_
  refine s_dup2 C dX2_sendAgain_5 rfl rfl ?_
  obtain ⟨v2, hkv2, hiv2, ev2, hf⟩ := rdA_inv hf
  refine s_ciald C hkv2 hiv2 dX2_sendAgain_6 ?_
  refine s_nmi ev2 ?_
  refine s_iconst (v := 1) C dX2_sendAgain_7 (by decide) ?_
  refine s_iadd C dX2_sendAgain_8 ?_
  obtain ⟨y3, ey3, hf⟩ := bd_inv hf
  refine s_nmi ey3 ?_
  obtain ⟨ar4, hkar4, hiar4, ear4, hf⟩ := wrA_inv hf
  refine s_ciast C hkar4 hiar4 ear4 dX2_sendAgain_9 ?_
  refine s_aload_n C 1 dX2_sendAgain_10 rfl ?_
  refine s_dup C dX2_sendAgain_11 rfl ?_
  obtain ⟨g5, hf⟩ := gd_inv hf
  refine gf_64 C x1 (wC_0 g5) rfl dX2_sendAgain_12 ?_
  refine s_iconst (v := 1) C dX2_sendAgain_15 (by decide) ?_
  refine s_iadd C dX2_sendAgain_16 ?_
  obtain ⟨y6, ey6, hf⟩ := bd_inv hf
  refine s_nmi ey6 ?_
  obtain ⟨sc7, esc7, hf⟩ := bd_inv hf
  refine pf_64 C x1 (wC_0 g5) (vp_nar_int _) rfl (Nat.le_of_ble_eq_true rfl) (wC G ad nb X sc7 ar4 fr) (wC_s0_8 g5 esc7) dX2_sendAgain_17 ?_
  refine s_aload_n C 1 dX2_sendAgain_20 rfl ?_
  refine s_iconst (v := 0) C dX2_sendAgain_21 (by decide) ?_
  obtain ⟨sc8, esc8, hf⟩ := bd_inv hf
  refine pf_62 C x1 (wC_0 g5) (vp_nar_int _) rfl (Nat.le_of_ble_eq_true rfl) (wC G ad nb X sc8 ar4 fr) (wC_s0_7 g5 esc8) dX2_sendAgain_22 ?_
  refine s_aload_n C 1 dX2_sendAgain_25 rfl ?_
  refine s_aload_n C 1 dX2_sendAgain_26 rfl ?_
  obtain ⟨r9, sc10, ar11, fr12, er9, hf⟩ := bC_inv hf
  refine s_cV_I (As := []) (rest := [.ref (ad x1)]) (ci := 0) (q := x1) C (c_X0_unacked l G A ad X nb x1 sc8 ar4 fr _ _ _ _ er9) g_RX2_127 hd_X0_unacked rfl ⟨Nat.le_of_ble_eq_true rfl, Nat.le_of_ble_eq_true rfl⟩ rfl (wC_0 g5) rfl (Nat.le_of_ble_eq_true rfl) ⟨Nat.le_of_ble_eq_true rfl, Nat.le_of_ble_eq_true rfl⟩ dX2_sendAgain_27 ?_
  obtain ⟨sc13, esc13, hf⟩ := bd_inv hf
  refine pf_66 C x1 (wC_0 g5) (vp_nar_int _) rfl (Nat.le_of_ble_eq_true rfl) (wC G ad nb X sc13 ar11 fr12) (wC_s0_9 g5 esc13) dX2_sendAgain_30 ?_
  refine s_aload_n C 1 dX2_sendAgain_33 rfl ?_
  refine gf_64 C x1 (wC_0 g5) rfl dX2_sendAgain_34 ?_
  refine s_iconst (v := 4) C dX2_sendAgain_37 (by decide) ?_
  refine s_icmp_lt C 50 dX2_sendAgain_38 (by decide) (fun c14 => ?_) (fun c14 => ?_)
  · rw [if_pos c14] at hf
    exact rC_V hf hret dX2_sendAgain_50
  · rw [if_neg c14] at hf
    refine s_aload_n C 1 dX2_sendAgain_41 rfl ?_
    refine s_iconst (v := 0) C dX2_sendAgain_42 (by decide) ?_
    obtain ⟨sc15, esc15, hf⟩ := bd_inv hf
    refine pf_64 C x1 (wC_0 g5) (vp_nar_int _) rfl (Nat.le_of_ble_eq_true rfl) (wC G ad nb X sc15 ar11 fr12) (wC_s0_8 g5 esc15) dX2_sendAgain_43 ?_
    refine s_aload_n C 0 dX2_sendAgain_46 rfl ?_
    obtain ⟨sc17, ar18, fr19, er16, hf⟩ := bCv_inv hf
    refine s_cV_V (As := []) (rest := []) (ci := 2) (q := x0) C (c_X2_train l G A ad X nb x0 sc15 ar11 fr12 _ _ _ er16) g_RX2_145 hd_X2_train rfl ⟨Nat.le_of_ble_eq_true rfl, Nat.le_of_ble_eq_true rfl⟩ rfl (wC_2 g1) rfl (Nat.le_of_ble_eq_true rfl) ⟨Nat.le_of_ble_eq_true rfl, Nat.le_of_ble_eq_true rfl⟩ dX2_sendAgain_47 ?_
    exact rC_V hf hret dX2_sendAgain_50
theorem c_X2_sendAgain (l : Launch) (G : GG) (A : Nat → Prop) (ad : Nat → Nat) (X : va_W) (nb : Nat) (x0 : Nat) (x1 : Nat) (sc : Nat → Nat → Int32) (ar : Nat → Nat → Int32) (fr : Nat → Nat → Nat) (sc0 : Nat → Nat → Int32) (ar0 : Nat → Nat → Int32) (fr0 : Nat → Nat → Nat) (hf : f_X2_sendAgain nb x0 x1 sc ar fr = some (sc0, ar0, fr0)) : MV l yX2_sendAgain cX2_sendAgain 2 ({ frames := 1, cells := 0, slots := 0, locals := 20 } : Room) G A (wC G ad nb X sc ar fr) [.ref (ad x0), .ref (ad x1)] (wC G ad nb X sc0 ar0 fr0) :=
  e_V (by decide) (Nat.le_of_ble_eq_true rfl) (fun Γ C hret => k_X2_sendAgain C _ _ _ _ _ _ _ _ _ _ _ hf hret)
def f_X2_takeInWord (nb : Nat) (x0 : Nat) (x1 : Int32) (x2 : Int32) (x3 : Nat) (sc : Nat → Nat → Int32) (ar : Nat → Nat → Int32) (fr : Nat → Nat → Nat) : Option ((Nat → Nat → Int32) × (Nat → Nat → Int32) × (Nat → Nat → Nat)) :=
  gd (pk nb 2 x0) <|
  rdA nb ar (x0 + 71) 13 fun v2 =>
  bd ((v2 + 1)) fun y3 =>
  wrA nb ar (x0 + 71) 13 y3 fun ar4 =>
  gd (pk nb 0 x3) <|
  bC (f_X0_nextNumber nb x3 sc ar4 fr) fun r5 sc6 ar7 fr8 =>
  bx (f_X5_by64 ((r5 - 1) - x2)) fun r10 =>
  if r10 < 32 then (bCv (f_X0_takeAcknowledgement nb x3 x2 sc6 ar7 fr8) fun sc13 ar14 fr15 =>
  if x1 = 3 then (bC (f_X0_unacked nb x3 sc13 ar14 fr15) fun r17 sc18 ar19 fr20 =>
  if r17 ≤ 0 then (some (sc18, ar19, fr20))
  else (bCv (f_X2_sendAgain nb x0 x3 sc18 ar19 fr20) fun sc23 ar24 fr25 =>
  some (sc23, ar24, fr25)))
  else (some (sc13, ar14, fr15)))
  else (rdA nb ar7 (x0 + 71) 14 fun v26 =>
  bd ((v26 + 1)) fun y27 =>
  wrA nb ar7 (x0 + 71) 14 y27 fun ar28 =>
  some (sc6, ar28, fr8))
set_option maxHeartbeats 4000000 in
set_option maxRecDepth 100000 in
theorem k_X2_takeInWord {l : Launch} {G : GG} {A : Nat → Prop} {Γ : Cx} (C : CX G A Γ cX2_takeInWord RX2 ({ frames := 3, cells := 0, slots := 0, locals := 62 } : Room) 4) (ad : Nat → Nat) (X : va_W) (nb : Nat) (x0 : Nat) (x1 : Int32) (x2 : Int32) (x3 : Nat) (sc : Nat → Nat → Int32) (ar : Nat → Nat → Int32) (fr : Nat → Nat → Nat) (sc0 : Nat → Nat → Int32) (ar0 : Nat → Nat → Int32) (fr0 : Nat → Nat → Nat) (hf : f_X2_takeInWord nb x0 x1 x2 x3 sc ar fr = some (sc0, ar0, fr0)) (hret : ∀ (pc : Nat) (lv : List (Nat × Value)), decode cX2_takeInWord pc = .ok (.return_, 1) → St l G A Γ 0 0 (wC G ad nb X sc0 ar0 fr0) pc lv []) : St l G A Γ 0 0 (wC G ad nb X sc ar fr) 0 [(0, .ref (ad x0)), (1, .int x1), (2, .int x2), (3, .ref (ad x3))] [] := by
  unfold f_X2_takeInWord at hf
  refine s_aload_n C 0 dX2_takeInWord_0 rfl ?_
  obtain ⟨g1, hf⟩ := gd_inv hf
  refine gf_153 C x0 (wC_2 g1) rfl dX2_takeInWord_1 ?_
  refine s_bipush (v := 13) C dX2_takeInWord_4 (by decide) ?_
  refine s_dup2 C dX2_takeInWord_6 rfl rfl ?_
  obtain ⟨v2, hkv2, hiv2, ev2, hf⟩ := rdA_inv hf
  refine s_ciald C hkv2 hiv2 dX2_takeInWord_7 ?_
  refine s_nmi ev2 ?_
  refine s_iconst (v := 1) C dX2_takeInWord_8 (by decide) ?_
  refine s_iadd C dX2_takeInWord_9 ?_
  obtain ⟨y3, ey3, hf⟩ := bd_inv hf
  refine s_nmi ey3 ?_
  obtain ⟨ar4, hkar4, hiar4, ear4, hf⟩ := wrA_inv hf
  refine s_ciast C hkar4 hiar4 ear4 dX2_takeInWord_10 ?_
  refine s_aload_n C 3 dX2_takeInWord_11 rfl ?_
  obtain ⟨g9, hf⟩ := gd_inv hf
  obtain ⟨r5, sc6, ar7, fr8, er5, hf⟩ := bC_inv hf
  refine s_cV_I (As := []) (rest := []) (ci := 0) (q := x3) C (c_X0_nextNumber l G A ad X nb x3 sc ar4 fr _ _ _ _ er5) g_RX2_121 hd_X0_nextNumber rfl ⟨Nat.le_of_ble_eq_true rfl, Nat.le_of_ble_eq_true rfl⟩ rfl (wC_0 g9) rfl (Nat.le_of_ble_eq_true rfl) ⟨Nat.le_of_ble_eq_true rfl, Nat.le_of_ble_eq_true rfl⟩ dX2_takeInWord_12 ?_
  refine s_iconst (v := 1) C dX2_takeInWord_15 (by decide) ?_
  refine s_isub C dX2_takeInWord_16 ?_
  refine s_iload_n C 2 dX2_takeInWord_17 rfl ?_
  refine s_isub C dX2_takeInWord_18 ?_
  obtain ⟨r10, er10, hf⟩ := bx_inv hf
  refine s_cSN_I (As := [.int ((r5 - 1) - x2)]) (rest := []) C (c_X5_by64 l G A _ ((r5 - 1) - x2) _ er10) (gd_C tw_303) tw_1 tn_301 tw_302 hd_X5_by64.2 rfl ⟨Nat.le_of_ble_eq_true rfl, Nat.le_of_ble_eq_true rfl⟩ rfl (Nat.le_of_ble_eq_true rfl) ⟨Nat.le_of_ble_eq_true rfl, Nat.le_of_ble_eq_true rfl⟩ dX2_takeInWord_19 ?_
  refine s_bipush (v := 32) C dX2_takeInWord_22 (by decide) ?_
  refine s_icmp_lt C 39 dX2_takeInWord_24 (by decide) (fun c11 => ?_) (fun c11 => ?_)
  · rw [if_pos c11] at hf
    refine s_aload_n C 3 dX2_takeInWord_39 rfl ?_
    refine s_iload_n C 2 dX2_takeInWord_40 rfl ?_
    obtain ⟨sc13, ar14, fr15, er12, hf⟩ := bCv_inv hf
    refine s_cV_V (As := [.int x2]) (rest := []) (ci := 0) (q := x3) C (c_X0_takeAcknowledgement l G A ad X nb x3 x2 sc6 ar7 fr8 _ _ _ er12) g_RX2_124 hd_X0_takeAcknowledgement rfl ⟨Nat.le_of_ble_eq_true rfl, Nat.le_of_ble_eq_true rfl⟩ rfl (wC_0 g9) rfl (Nat.le_of_ble_eq_true rfl) ⟨Nat.le_of_ble_eq_true rfl, Nat.le_of_ble_eq_true rfl⟩ dX2_takeInWord_41 ?_
    refine s_iload_n C 1 dX2_takeInWord_44 rfl ?_
    refine s_iconst (v := 3) C dX2_takeInWord_45 (by decide) ?_
    refine s_icmp_ne C 61 dX2_takeInWord_46 (by decide) (fun c16 => ?_) (fun c16 => ?_)
    · rw [if_neg c16] at hf
      exact rC_V hf hret dX2_takeInWord_61
    · rw [if_pos c16] at hf
      refine s_aload_n C 3 dX2_takeInWord_49 rfl ?_
      obtain ⟨r17, sc18, ar19, fr20, er17, hf⟩ := bC_inv hf
      refine s_cV_I (As := []) (rest := []) (ci := 0) (q := x3) C (c_X0_unacked l G A ad X nb x3 sc13 ar14 fr15 _ _ _ _ er17) g_RX2_127 hd_X0_unacked rfl ⟨Nat.le_of_ble_eq_true rfl, Nat.le_of_ble_eq_true rfl⟩ rfl (wC_0 g9) rfl (Nat.le_of_ble_eq_true rfl) ⟨Nat.le_of_ble_eq_true rfl, Nat.le_of_ble_eq_true rfl⟩ dX2_takeInWord_50 ?_
      refine s_if_le C 61 dX2_takeInWord_53 (by decide) (fun c21 => ?_) (fun c21 => ?_)
      · rw [if_pos c21] at hf
        exact rC_V hf hret dX2_takeInWord_61
      · rw [if_neg c21] at hf
        refine s_aload_n C 0 dX2_takeInWord_56 rfl ?_
        refine s_aload_n C 3 dX2_takeInWord_57 rfl ?_
        obtain ⟨sc23, ar24, fr25, er22, hf⟩ := bCv_inv hf
        refine s_cV_V (As := [.ref (ad x3)]) (rest := []) (ci := 2) (q := x0) C (c_X2_sendAgain l G A ad X nb x0 x3 sc18 ar19 fr20 _ _ _ er22) g_RX2_130 hd_X2_sendAgain rfl ⟨Nat.le_of_ble_eq_true rfl, Nat.le_of_ble_eq_true rfl⟩ rfl (wC_2 g1) rfl (Nat.le_of_ble_eq_true rfl) ⟨Nat.le_of_ble_eq_true rfl, Nat.le_of_ble_eq_true rfl⟩ dX2_takeInWord_58 ?_
        exact rC_V hf hret dX2_takeInWord_61
  · rw [if_neg c11] at hf
    refine s_aload_n C 0 dX2_takeInWord_27 rfl ?_
    refine gf_153 C x0 (wC_2 g1) rfl dX2_takeInWord_28 ?_
    refine s_bipush (v := 14) C dX2_takeInWord_31 (by decide) ?_
    refine s_dup2 C dX2_takeInWord_33 rfl rfl ?_
    obtain ⟨v26, hkv26, hiv26, ev26, hf⟩ := rdA_inv hf
    refine s_ciald C hkv26 hiv26 dX2_takeInWord_34 ?_
    refine s_nmi ev26 ?_
    refine s_iconst (v := 1) C dX2_takeInWord_35 (by decide) ?_
    refine s_iadd C dX2_takeInWord_36 ?_
    obtain ⟨y27, ey27, hf⟩ := bd_inv hf
    refine s_nmi ey27 ?_
    obtain ⟨ar28, hkar28, hiar28, ear28, hf⟩ := wrA_inv hf
    refine s_ciast C hkar28 hiar28 ear28 dX2_takeInWord_37 ?_
    exact rC_V hf hret dX2_takeInWord_38
theorem c_X2_takeInWord (l : Launch) (G : GG) (A : Nat → Prop) (ad : Nat → Nat) (X : va_W) (nb : Nat) (x0 : Nat) (x1 : Int32) (x2 : Int32) (x3 : Nat) (sc : Nat → Nat → Int32) (ar : Nat → Nat → Int32) (fr : Nat → Nat → Nat) (sc0 : Nat → Nat → Int32) (ar0 : Nat → Nat → Int32) (fr0 : Nat → Nat → Nat) (hf : f_X2_takeInWord nb x0 x1 x2 x3 sc ar fr = some (sc0, ar0, fr0)) : MV l yX2_takeInWord cX2_takeInWord 4 ({ frames := 3, cells := 0, slots := 0, locals := 62 } : Room) G A (wC G ad nb X sc ar fr) [.ref (ad x0), .int x1, .int x2, .ref (ad x3)] (wC G ad nb X sc0 ar0 fr0) :=
  e_V (by decide) (Nat.le_of_ble_eq_true rfl) (fun Γ C hret => k_X2_takeInWord C _ _ _ _ _ _ _ _ _ _ _ _ _ hf hret)
def f_X2_takeInData (nb : Nat) (x0 : Nat) (x1 : Nat) (x2 : Nat) (sc : Nat → Nat → Int32) (ar : Nat → Nat → Int32) (fr : Nat → Nat → Nat) : Option ((Nat → Nat → Int32) × (Nat → Nat → Int32) × (Nat → Nat → Nat)) :=
  gd (pk nb 1 x1) <|
  bC (f_X1_number nb x1 sc ar fr) fun r1 sc2 ar3 fr4 =>
  gd (pk nb 0 x2) <|
  bx (f_X5_by64 (r1 - (sc2 x2 10))) fun r7 =>
  if r7 = 0 then (gd (pk nb 2 x0) <|
  rdA nb ar3 (x0 + 71) 9 fun v27 =>
  bd ((v27 + 1)) fun y28 =>
  wrA nb ar3 (x0 + 71) 9 y28 fun ar29 =>
  bCv (f_X0_handUp nb x2 x1 sc2 ar29 fr4) fun sc31 ar32 fr33 =>
  bCv (f_X0_oweAck nb x2 (sc31 x0 7) sc31 ar32 fr33) fun sc35 ar36 fr37 =>
  some (sc35, ar36, fr37))
  else (if r7 < 32 then (gd (pk nb 2 x0) <|
  rdA nb ar3 (x0 + 71) 11 fun v11 =>
  bd ((v11 + 1)) fun y12 =>
  wrA nb ar3 (x0 + 71) 11 y12 fun ar13 =>
  bCv (f_X0_oweNak nb x2 sc2 ar13 fr4) fun sc15 ar16 fr17 =>
  some (sc15, ar16, fr17))
  else (gd (pk nb 2 x0) <|
  rdA nb ar3 (x0 + 71) 10 fun v19 =>
  bd ((v19 + 1)) fun y20 =>
  wrA nb ar3 (x0 + 71) 10 y20 fun ar21 =>
  bCv (f_X0_oweAck nb x2 (sc2 x0 7) sc2 ar21 fr4) fun sc23 ar24 fr25 =>
  some (sc23, ar24, fr25)))
set_option maxHeartbeats 4000000 in
set_option maxRecDepth 100000 in
theorem k_X2_takeInData {l : Launch} {G : GG} {A : Nat → Prop} {Γ : Cx} (C : CX G A Γ cX2_takeInData RX2 ({ frames := 3, cells := 0, slots := 0, locals := 63 } : Room) 4) (ad : Nat → Nat) (X : va_W) (nb : Nat) (x0 : Nat) (x1 : Nat) (x2 : Nat) (sc : Nat → Nat → Int32) (ar : Nat → Nat → Int32) (fr : Nat → Nat → Nat) (sc0 : Nat → Nat → Int32) (ar0 : Nat → Nat → Int32) (fr0 : Nat → Nat → Nat) (hf : f_X2_takeInData nb x0 x1 x2 sc ar fr = some (sc0, ar0, fr0)) (hret : ∀ (pc : Nat) (lv : List (Nat × Value)), decode cX2_takeInData pc = .ok (.return_, 1) → St l G A Γ 0 0 (wC G ad nb X sc0 ar0 fr0) pc lv []) : St l G A Γ 0 0 (wC G ad nb X sc ar fr) 0 [(0, .ref (ad x0)), (1, .ref (ad x1)), (2, .ref (ad x2))] [] := by
  unfold f_X2_takeInData at hf
  refine s_aload_n C 1 dX2_takeInData_0 rfl ?_
  obtain ⟨g5, hf⟩ := gd_inv hf
  obtain ⟨r1, sc2, ar3, fr4, er1, hf⟩ := bC_inv hf
  refine s_cV_I (As := []) (rest := []) (ci := 1) (q := x1) C (c_X1_number l G A ad X nb x1 sc ar fr _ _ _ _ er1) g_RX2_97 hd_X1_number rfl ⟨Nat.le_of_ble_eq_true rfl, Nat.le_of_ble_eq_true rfl⟩ rfl (wC_1 g5) rfl (Nat.le_of_ble_eq_true rfl) ⟨Nat.le_of_ble_eq_true rfl, Nat.le_of_ble_eq_true rfl⟩ dX2_takeInData_1 ?_
  refine s_aload_n C 2 dX2_takeInData_4 rfl ?_
  obtain ⟨g6, hf⟩ := gd_inv hf
  refine gf_68 C x2 (wC_0 g6) rfl dX2_takeInData_5 ?_
  refine s_isub C dX2_takeInData_8 ?_
  obtain ⟨r7, er7, hf⟩ := bx_inv hf
  refine s_cSN_I (As := [.int (r1 - (sc2 x2 10))]) (rest := []) C (c_X5_by64 l G A _ (r1 - (sc2 x2 10)) _ er7) (gd_C tw_303) tw_1 tn_301 tw_302 hd_X5_by64.2 rfl ⟨Nat.le_of_ble_eq_true rfl, Nat.le_of_ble_eq_true rfl⟩ rfl (Nat.le_of_ble_eq_true rfl) ⟨Nat.le_of_ble_eq_true rfl, Nat.le_of_ble_eq_true rfl⟩ dX2_takeInData_9 ?_
  refine s_istore_n C [(3, .int r7), (0, .ref (ad x0)), (1, .ref (ad x1)), (2, .ref (ad x2))] dX2_takeInData_12 (by decide) rfl ?_
  refine s_iload_n C 0 dX2_takeInData_13 rfl ?_
  refine s_if_ne C 44 dX2_takeInData_14 (by decide) (fun c8 => ?_) (fun c8 => ?_)
  · rw [if_neg c8] at hf
    refine s_iload_n C 0 dX2_takeInData_44 rfl ?_
    refine s_bipush (v := 32) C dX2_takeInData_45 (by decide) ?_
    refine s_icmp_lt C 72 dX2_takeInData_47 (by decide) (fun c9 => ?_) (fun c9 => ?_)
    · rw [if_pos c9] at hf
      refine s_aload_n C 1 dX2_takeInData_72 rfl ?_
      obtain ⟨g10, hf⟩ := gd_inv hf
      refine gf_153 C x0 (wC_2 g10) rfl dX2_takeInData_73 ?_
      refine s_bipush (v := 11) C dX2_takeInData_76 (by decide) ?_
      refine s_dup2 C dX2_takeInData_78 rfl rfl ?_
      obtain ⟨v11, hkv11, hiv11, ev11, hf⟩ := rdA_inv hf
      refine s_ciald C hkv11 hiv11 dX2_takeInData_79 ?_
      refine s_nmi ev11 ?_
      refine s_iconst (v := 1) C dX2_takeInData_80 (by decide) ?_
      refine s_iadd C dX2_takeInData_81 ?_
      obtain ⟨y12, ey12, hf⟩ := bd_inv hf
      refine s_nmi ey12 ?_
      obtain ⟨ar13, hkar13, hiar13, ear13, hf⟩ := wrA_inv hf
      refine s_ciast C hkar13 hiar13 ear13 dX2_takeInData_82 ?_
      refine s_aload_n C 3 dX2_takeInData_83 rfl ?_
      obtain ⟨sc15, ar16, fr17, er14, hf⟩ := bCv_inv hf
      refine s_cV_V (As := []) (rest := []) (ci := 0) (q := x2) C (c_X0_oweNak l G A ad X nb x2 sc2 ar13 fr4 _ _ _ er14) g_RX2_104 hd_X0_oweNak rfl ⟨Nat.le_of_ble_eq_true rfl, Nat.le_of_ble_eq_true rfl⟩ rfl (wC_0 g6) rfl (Nat.le_of_ble_eq_true rfl) ⟨Nat.le_of_ble_eq_true rfl, Nat.le_of_ble_eq_true rfl⟩ dX2_takeInData_84 ?_
      exact rC_V hf hret dX2_takeInData_87
    · rw [if_neg c9] at hf
      refine s_aload_n C 1 dX2_takeInData_50 rfl ?_
      obtain ⟨g18, hf⟩ := gd_inv hf
      refine gf_153 C x0 (wC_2 g18) rfl dX2_takeInData_51 ?_
      refine s_bipush (v := 10) C dX2_takeInData_54 (by decide) ?_
      refine s_dup2 C dX2_takeInData_56 rfl rfl ?_
      obtain ⟨v19, hkv19, hiv19, ev19, hf⟩ := rdA_inv hf
      refine s_ciald C hkv19 hiv19 dX2_takeInData_57 ?_
      refine s_nmi ev19 ?_
      refine s_iconst (v := 1) C dX2_takeInData_58 (by decide) ?_
      refine s_iadd C dX2_takeInData_59 ?_
      obtain ⟨y20, ey20, hf⟩ := bd_inv hf
      refine s_nmi ey20 ?_
      obtain ⟨ar21, hkar21, hiar21, ear21, hf⟩ := wrA_inv hf
      refine s_ciast C hkar21 hiar21 ear21 dX2_takeInData_60 ?_
      refine s_aload_n C 3 dX2_takeInData_61 rfl ?_
      refine s_aload_n C 1 dX2_takeInData_62 rfl ?_
      refine gf_161 C x0 (wC_2 g18) rfl dX2_takeInData_63 ?_
      obtain ⟨sc23, ar24, fr25, er22, hf⟩ := bCv_inv hf
      refine s_cV_V (As := [.int (sc2 x0 7)]) (rest := []) (ci := 0) (q := x2) C (c_X0_oweAck l G A ad X nb x2 (sc2 x0 7) sc2 ar21 fr4 _ _ _ er22) g_RX2_117 hd_X0_oweAck rfl ⟨Nat.le_of_ble_eq_true rfl, Nat.le_of_ble_eq_true rfl⟩ rfl (wC_0 g6) rfl (Nat.le_of_ble_eq_true rfl) ⟨Nat.le_of_ble_eq_true rfl, Nat.le_of_ble_eq_true rfl⟩ dX2_takeInData_66 ?_
      refine s_goto C 87 dX2_takeInData_69 (by decide) ?_
      exact rC_V hf hret dX2_takeInData_87
  · rw [if_pos c8] at hf
    refine s_aload_n C 1 dX2_takeInData_17 rfl ?_
    obtain ⟨g26, hf⟩ := gd_inv hf
    refine gf_153 C x0 (wC_2 g26) rfl dX2_takeInData_18 ?_
    refine s_bipush (v := 9) C dX2_takeInData_21 (by decide) ?_
    refine s_dup2 C dX2_takeInData_23 rfl rfl ?_
    obtain ⟨v27, hkv27, hiv27, ev27, hf⟩ := rdA_inv hf
    refine s_ciald C hkv27 hiv27 dX2_takeInData_24 ?_
    refine s_nmi ev27 ?_
    refine s_iconst (v := 1) C dX2_takeInData_25 (by decide) ?_
    refine s_iadd C dX2_takeInData_26 ?_
    obtain ⟨y28, ey28, hf⟩ := bd_inv hf
    refine s_nmi ey28 ?_
    obtain ⟨ar29, hkar29, hiar29, ear29, hf⟩ := wrA_inv hf
    refine s_ciast C hkar29 hiar29 ear29 dX2_takeInData_27 ?_
    refine s_aload_n C 3 dX2_takeInData_28 rfl ?_
    refine s_aload_n C 2 dX2_takeInData_29 rfl ?_
    obtain ⟨sc31, ar32, fr33, er30, hf⟩ := bCv_inv hf
    refine s_cV_V (As := [.ref (ad x1)]) (rest := []) (ci := 0) (q := x2) C (c_X0_handUp l G A ad X nb x2 x1 sc2 ar29 fr4 _ _ _ er30) g_RX2_113 hd_X0_handUp rfl ⟨Nat.le_of_ble_eq_true rfl, Nat.le_of_ble_eq_true rfl⟩ rfl (wC_0 g6) rfl (Nat.le_of_ble_eq_true rfl) ⟨Nat.le_of_ble_eq_true rfl, Nat.le_of_ble_eq_true rfl⟩ dX2_takeInData_30 ?_
    refine s_aload_n C 3 dX2_takeInData_33 rfl ?_
    refine s_aload_n C 1 dX2_takeInData_34 rfl ?_
    refine gf_161 C x0 (wC_2 g26) rfl dX2_takeInData_35 ?_
    obtain ⟨sc35, ar36, fr37, er34, hf⟩ := bCv_inv hf
    refine s_cV_V (As := [.int (sc31 x0 7)]) (rest := []) (ci := 0) (q := x2) C (c_X0_oweAck l G A ad X nb x2 (sc31 x0 7) sc31 ar32 fr33 _ _ _ er34) g_RX2_117 hd_X0_oweAck rfl ⟨Nat.le_of_ble_eq_true rfl, Nat.le_of_ble_eq_true rfl⟩ rfl (wC_0 g6) rfl (Nat.le_of_ble_eq_true rfl) ⟨Nat.le_of_ble_eq_true rfl, Nat.le_of_ble_eq_true rfl⟩ dX2_takeInData_38 ?_
    refine s_goto C 87 dX2_takeInData_41 (by decide) ?_
    exact rC_V hf hret dX2_takeInData_87
theorem c_X2_takeInData (l : Launch) (G : GG) (A : Nat → Prop) (ad : Nat → Nat) (X : va_W) (nb : Nat) (x0 : Nat) (x1 : Nat) (x2 : Nat) (sc : Nat → Nat → Int32) (ar : Nat → Nat → Int32) (fr : Nat → Nat → Nat) (sc0 : Nat → Nat → Int32) (ar0 : Nat → Nat → Int32) (fr0 : Nat → Nat → Nat) (hf : f_X2_takeInData nb x0 x1 x2 sc ar fr = some (sc0, ar0, fr0)) : MV l yX2_takeInData cX2_takeInData 4 ({ frames := 3, cells := 0, slots := 0, locals := 63 } : Room) G A (wC G ad nb X sc ar fr) [.ref (ad x0), .ref (ad x1), .ref (ad x2)] (wC G ad nb X sc0 ar0 fr0) :=
  e_V (by decide) (Nat.le_of_ble_eq_true rfl) (fun Γ C hret => k_X2_takeInData C _ _ _ _ _ _ _ _ _ _ _ _ hf hret)
def f_X2_takeIn (nb : Nat) (x0 : Nat) (x1 : Nat) (x2 : Nat) (sc : Nat → Nat → Int32) (ar : Nat → Nat → Int32) (fr : Nat → Nat → Nat) : Option ((Nat → Nat → Int32) × (Nat → Nat → Int32) × (Nat → Nat → Nat)) :=
  gd (pk nb 1 x1) <|
  bC (f_X1_readAs nb x1 sc ar fr) fun r1 sc2 ar3 fr4 =>
  if (r1 : Int32) = 0 then (gd (pk nb 2 x0) <|
  bCv (f_X2_takeInData nb x0 x1 x2 sc2 ar3 fr4) fun sc8 ar9 fr10 =>
  some (sc8, ar9, fr10))
  else if (r1 : Int32) = 1 then (gd (pk nb 2 x0) <|
  rdA nb ar3 (x0 + 71) 12 fun v14 =>
  bd ((v14 + 1)) fun y15 =>
  wrA nb ar3 (x0 + 71) 12 y15 fun ar16 =>
  some (sc2, ar16, fr4))
  else if (r1 : Int32) = 2 then (bC (f_X1_number nb x1 sc2 ar3 fr4) fun r18 sc19 ar20 fr21 =>
  gd (pk nb 2 x0) <|
  bCv (f_X2_takeInWord nb x0 r1 r18 x2 sc19 ar20 fr21) fun sc23 ar24 fr25 =>
  some (sc23, ar24, fr25))
  else if (r1 : Int32) = 3 then (bC (f_X1_number nb x1 sc2 ar3 fr4) fun r28 sc29 ar30 fr31 =>
  gd (pk nb 2 x0) <|
  bCv (f_X2_takeInWord nb x0 r1 r28 x2 sc29 ar30 fr31) fun sc33 ar34 fr35 =>
  some (sc33, ar34, fr35))
  else if (r1 : Int32) = 4 then (gd (pk nb 2 x0) <|
  rdA nb ar3 (x0 + 71) 15 fun v39 =>
  bd ((v39 + 1)) fun y40 =>
  wrA nb ar3 (x0 + 71) 15 y40 fun ar41 =>
  gd (pk nb 0 x2) <|
  bCv (f_X0_oweNak nb x2 sc2 ar41 fr4) fun sc43 ar44 fr45 =>
  some (sc43, ar44, fr45))
  else (gd (pk nb 2 x0) <|
  rdA nb ar3 (x0 + 71) 16 fun v48 =>
  bd ((v48 + 1)) fun y49 =>
  wrA nb ar3 (x0 + 71) 16 y49 fun ar50 =>
  some (sc2, ar50, fr4))
set_option maxHeartbeats 4000000 in
set_option maxRecDepth 100000 in
theorem k_X2_takeIn {l : Launch} {G : GG} {A : Nat → Prop} {Γ : Cx} (C : CX G A Γ cX2_takeIn RX2 ({ frames := 4, cells := 0, slots := 0, locals := 86 } : Room) 4) (ad : Nat → Nat) (X : va_W) (nb : Nat) (x0 : Nat) (x1 : Nat) (x2 : Nat) (sc : Nat → Nat → Int32) (ar : Nat → Nat → Int32) (fr : Nat → Nat → Nat) (sc0 : Nat → Nat → Int32) (ar0 : Nat → Nat → Int32) (fr0 : Nat → Nat → Nat) (hf : f_X2_takeIn nb x0 x1 x2 sc ar fr = some (sc0, ar0, fr0)) (hret : ∀ (pc : Nat) (lv : List (Nat × Value)), decode cX2_takeIn pc = .ok (.return_, 1) → St l G A Γ 0 0 (wC G ad nb X sc0 ar0 fr0) pc lv []) : St l G A Γ 0 0 (wC G ad nb X sc ar fr) 0 [(0, .ref (ad x0)), (1, .ref (ad x1)), (2, .ref (ad x2))] [] := by
  unfold f_X2_takeIn at hf
  refine s_aload_n C 1 dX2_takeIn_0 rfl ?_
  obtain ⟨g5, hf⟩ := gd_inv hf
  obtain ⟨r1, sc2, ar3, fr4, er1, hf⟩ := bC_inv hf
  refine s_cV_I (As := []) (rest := []) (ci := 1) (q := x1) C (c_X1_readAs l G A ad X nb x1 sc ar fr _ _ _ _ er1) g_RX2_88 hd_X1_readAs rfl ⟨Nat.le_of_ble_eq_true rfl, Nat.le_of_ble_eq_true rfl⟩ rfl (wC_1 g5) rfl (Nat.le_of_ble_eq_true rfl) ⟨Nat.le_of_ble_eq_true rfl, Nat.le_of_ble_eq_true rfl⟩ dX2_takeIn_1 ?_
  refine s_istore_n C [(3, .int r1), (0, .ref (ad x0)), (1, .ref (ad x1)), (2, .ref (ad x2))] dX2_takeIn_4 (by decide) rfl ?_
  refine s_iload_n C 0 dX2_takeIn_5 rfl ?_
  by_cases c6 : (r1 : Int32) = 0
  · rw [if_pos c6] at hf
    refine s_tableIn C 40 dX2_takeIn_6 (by rw [c6]; decide) (by rw [c6]; decide) (by rw [c6]; rfl) (by decide) ?_
    refine s_aload_n C 1 dX2_takeIn_40 rfl ?_
    refine s_aload_n C 2 dX2_takeIn_41 rfl ?_
    refine s_aload_n C 3 dX2_takeIn_42 rfl ?_
    obtain ⟨g11, hf⟩ := gd_inv hf
    obtain ⟨sc8, ar9, fr10, er7, hf⟩ := bCv_inv hf
    refine s_cV_V (As := [.ref (ad x1), .ref (ad x2)]) (rest := []) (ci := 2) (q := x0) C (c_X2_takeInData l G A ad X nb x0 x1 x2 sc2 ar3 fr4 _ _ _ er7) g_RX2_94 hd_X2_takeInData rfl ⟨Nat.le_of_ble_eq_true rfl, Nat.le_of_ble_eq_true rfl⟩ rfl (wC_2 g11) rfl (Nat.le_of_ble_eq_true rfl) ⟨Nat.le_of_ble_eq_true rfl, Nat.le_of_ble_eq_true rfl⟩ dX2_takeIn_43 ?_
    refine s_goto C 105 dX2_takeIn_46 (by decide) ?_
    exact rC_V hf hret dX2_takeIn_105
  rw [if_neg c6] at hf
  by_cases c12 : (r1 : Int32) = 1
  · rw [if_pos c12] at hf
    refine s_tableIn C 49 dX2_takeIn_6 (by rw [c12]; decide) (by rw [c12]; decide) (by rw [c12]; rfl) (by decide) ?_
    refine s_aload_n C 1 dX2_takeIn_49 rfl ?_
    obtain ⟨g13, hf⟩ := gd_inv hf
    refine gf_153 C x0 (wC_2 g13) rfl dX2_takeIn_50 ?_
    refine s_bipush (v := 12) C dX2_takeIn_53 (by decide) ?_
    refine s_dup2 C dX2_takeIn_55 rfl rfl ?_
    obtain ⟨v14, hkv14, hiv14, ev14, hf⟩ := rdA_inv hf
    refine s_ciald C hkv14 hiv14 dX2_takeIn_56 ?_
    refine s_nmi ev14 ?_
    refine s_iconst (v := 1) C dX2_takeIn_57 (by decide) ?_
    refine s_iadd C dX2_takeIn_58 ?_
    obtain ⟨y15, ey15, hf⟩ := bd_inv hf
    refine s_nmi ey15 ?_
    obtain ⟨ar16, hkar16, hiar16, ear16, hf⟩ := wrA_inv hf
    refine s_ciast C hkar16 hiar16 ear16 dX2_takeIn_59 ?_
    refine s_goto C 105 dX2_takeIn_60 (by decide) ?_
    exact rC_V hf hret dX2_takeIn_105
  rw [if_neg c12] at hf
  by_cases c17 : (r1 : Int32) = 2
  · rw [if_pos c17] at hf
    refine s_tableIn C 63 dX2_takeIn_6 (by rw [c17]; decide) (by rw [c17]; decide) (by rw [c17]; rfl) (by decide) ?_
    refine s_aload_n C 1 dX2_takeIn_63 rfl ?_
    refine s_iload_n C 0 dX2_takeIn_64 rfl ?_
    refine s_aload_n C 2 dX2_takeIn_65 rfl ?_
    obtain ⟨r18, sc19, ar20, fr21, er18, hf⟩ := bC_inv hf
    refine s_cV_I (As := []) (rest := [.int r1, .ref (ad x0)]) (ci := 1) (q := x1) C (c_X1_number l G A ad X nb x1 sc2 ar3 fr4 _ _ _ _ er18) g_RX2_97 hd_X1_number rfl ⟨Nat.le_of_ble_eq_true rfl, Nat.le_of_ble_eq_true rfl⟩ rfl (wC_1 g5) rfl (Nat.le_of_ble_eq_true rfl) ⟨Nat.le_of_ble_eq_true rfl, Nat.le_of_ble_eq_true rfl⟩ dX2_takeIn_66 ?_
    refine s_aload_n C 3 dX2_takeIn_69 rfl ?_
    obtain ⟨g26, hf⟩ := gd_inv hf
    obtain ⟨sc23, ar24, fr25, er22, hf⟩ := bCv_inv hf
    refine s_cV_V (As := [.int r1, .int r18, .ref (ad x2)]) (rest := []) (ci := 2) (q := x0) C (c_X2_takeInWord l G A ad X nb x0 r1 r18 x2 sc19 ar20 fr21 _ _ _ er22) g_RX2_100 hd_X2_takeInWord rfl ⟨Nat.le_of_ble_eq_true rfl, Nat.le_of_ble_eq_true rfl⟩ rfl (wC_2 g26) rfl (Nat.le_of_ble_eq_true rfl) ⟨Nat.le_of_ble_eq_true rfl, Nat.le_of_ble_eq_true rfl⟩ dX2_takeIn_70 ?_
    refine s_goto C 105 dX2_takeIn_73 (by decide) ?_
    exact rC_V hf hret dX2_takeIn_105
  rw [if_neg c17] at hf
  by_cases c27 : (r1 : Int32) = 3
  · rw [if_pos c27] at hf
    refine s_tableIn C 63 dX2_takeIn_6 (by rw [c27]; decide) (by rw [c27]; decide) (by rw [c27]; rfl) (by decide) ?_
    refine s_aload_n C 1 dX2_takeIn_63 rfl ?_
    refine s_iload_n C 0 dX2_takeIn_64 rfl ?_
    refine s_aload_n C 2 dX2_takeIn_65 rfl ?_
    obtain ⟨r28, sc29, ar30, fr31, er28, hf⟩ := bC_inv hf
    refine s_cV_I (As := []) (rest := [.int r1, .ref (ad x0)]) (ci := 1) (q := x1) C (c_X1_number l G A ad X nb x1 sc2 ar3 fr4 _ _ _ _ er28) g_RX2_97 hd_X1_number rfl ⟨Nat.le_of_ble_eq_true rfl, Nat.le_of_ble_eq_true rfl⟩ rfl (wC_1 g5) rfl (Nat.le_of_ble_eq_true rfl) ⟨Nat.le_of_ble_eq_true rfl, Nat.le_of_ble_eq_true rfl⟩ dX2_takeIn_66 ?_
    refine s_aload_n C 3 dX2_takeIn_69 rfl ?_
    obtain ⟨g36, hf⟩ := gd_inv hf
    obtain ⟨sc33, ar34, fr35, er32, hf⟩ := bCv_inv hf
    refine s_cV_V (As := [.int r1, .int r28, .ref (ad x2)]) (rest := []) (ci := 2) (q := x0) C (c_X2_takeInWord l G A ad X nb x0 r1 r28 x2 sc29 ar30 fr31 _ _ _ er32) g_RX2_100 hd_X2_takeInWord rfl ⟨Nat.le_of_ble_eq_true rfl, Nat.le_of_ble_eq_true rfl⟩ rfl (wC_2 g36) rfl (Nat.le_of_ble_eq_true rfl) ⟨Nat.le_of_ble_eq_true rfl, Nat.le_of_ble_eq_true rfl⟩ dX2_takeIn_70 ?_
    refine s_goto C 105 dX2_takeIn_73 (by decide) ?_
    exact rC_V hf hret dX2_takeIn_105
  rw [if_neg c27] at hf
  by_cases c37 : (r1 : Int32) = 4
  · rw [if_pos c37] at hf
    refine s_tableIn C 76 dX2_takeIn_6 (by rw [c37]; decide) (by rw [c37]; decide) (by rw [c37]; rfl) (by decide) ?_
    refine s_aload_n C 1 dX2_takeIn_76 rfl ?_
    obtain ⟨g38, hf⟩ := gd_inv hf
    refine gf_153 C x0 (wC_2 g38) rfl dX2_takeIn_77 ?_
    refine s_bipush (v := 15) C dX2_takeIn_80 (by decide) ?_
    refine s_dup2 C dX2_takeIn_82 rfl rfl ?_
    obtain ⟨v39, hkv39, hiv39, ev39, hf⟩ := rdA_inv hf
    refine s_ciald C hkv39 hiv39 dX2_takeIn_83 ?_
    refine s_nmi ev39 ?_
    refine s_iconst (v := 1) C dX2_takeIn_84 (by decide) ?_
    refine s_iadd C dX2_takeIn_85 ?_
    obtain ⟨y40, ey40, hf⟩ := bd_inv hf
    refine s_nmi ey40 ?_
    obtain ⟨ar41, hkar41, hiar41, ear41, hf⟩ := wrA_inv hf
    refine s_ciast C hkar41 hiar41 ear41 dX2_takeIn_86 ?_
    refine s_aload_n C 3 dX2_takeIn_87 rfl ?_
    obtain ⟨g46, hf⟩ := gd_inv hf
    obtain ⟨sc43, ar44, fr45, er42, hf⟩ := bCv_inv hf
    refine s_cV_V (As := []) (rest := []) (ci := 0) (q := x2) C (c_X0_oweNak l G A ad X nb x2 sc2 ar41 fr4 _ _ _ er42) g_RX2_104 hd_X0_oweNak rfl ⟨Nat.le_of_ble_eq_true rfl, Nat.le_of_ble_eq_true rfl⟩ rfl (wC_0 g46) rfl (Nat.le_of_ble_eq_true rfl) ⟨Nat.le_of_ble_eq_true rfl, Nat.le_of_ble_eq_true rfl⟩ dX2_takeIn_88 ?_
    refine s_goto C 105 dX2_takeIn_91 (by decide) ?_
    exact rC_V hf hret dX2_takeIn_105
  rw [if_neg c37] at hf
  have hout : (r1 : Int32).toInt < 0 ∨ 4 < (r1 : Int32).toInt := by
    have q0 := i32_ne c6 (0) rfl
    have q1 := i32_ne c12 (1) rfl
    have q2 := i32_ne c17 (2) rfl
    have q3 := i32_ne c27 (3) rfl
    have q4 := i32_ne c37 (4) rfl
    omega
  refine s_tableOut C 94 dX2_takeIn_6 hout (by decide) ?_
  refine s_aload_n C 1 dX2_takeIn_94 rfl ?_
  obtain ⟨g47, hf⟩ := gd_inv hf
  refine gf_153 C x0 (wC_2 g47) rfl dX2_takeIn_95 ?_
  refine s_bipush (v := 16) C dX2_takeIn_98 (by decide) ?_
  refine s_dup2 C dX2_takeIn_100 rfl rfl ?_
  obtain ⟨v48, hkv48, hiv48, ev48, hf⟩ := rdA_inv hf
  refine s_ciald C hkv48 hiv48 dX2_takeIn_101 ?_
  refine s_nmi ev48 ?_
  refine s_iconst (v := 1) C dX2_takeIn_102 (by decide) ?_
  refine s_iadd C dX2_takeIn_103 ?_
  obtain ⟨y49, ey49, hf⟩ := bd_inv hf
  refine s_nmi ey49 ?_
  obtain ⟨ar50, hkar50, hiar50, ear50, hf⟩ := wrA_inv hf
  refine s_ciast C hkar50 hiar50 ear50 dX2_takeIn_104 ?_
  exact rC_V hf hret dX2_takeIn_105
theorem c_X2_takeIn (l : Launch) (G : GG) (A : Nat → Prop) (ad : Nat → Nat) (X : va_W) (nb : Nat) (x0 : Nat) (x1 : Nat) (x2 : Nat) (sc : Nat → Nat → Int32) (ar : Nat → Nat → Int32) (fr : Nat → Nat → Nat) (sc0 : Nat → Nat → Int32) (ar0 : Nat → Nat → Int32) (fr0 : Nat → Nat → Nat) (hf : f_X2_takeIn nb x0 x1 x2 sc ar fr = some (sc0, ar0, fr0)) : MV l yX2_takeIn cX2_takeIn 4 ({ frames := 4, cells := 0, slots := 0, locals := 86 } : Room) G A (wC G ad nb X sc ar fr) [.ref (ad x0), .ref (ad x1), .ref (ad x2)] (wC G ad nb X sc0 ar0 fr0) :=
  e_V (by decide) (Nat.le_of_ble_eq_true rfl) (fun Γ C hret => k_X2_takeIn C _ _ _ _ _ _ _ _ _ _ _ _ hf hret)
def f_X2_receive_2 (nb : Nat)  : Nat → Nat → Nat → Nat → Int32 → (Nat → Nat → Int32) → (Nat → Nat → Int32) → (Nat → Nat → Nat) → Option (Int32 × (Nat → Nat → Int32) × (Nat → Nat → Int32) × (Nat → Nat → Nat))
  | 0, _, _, _, _, _, _, _ => none
  | fu + 1, x0, x1, x2, x3, sc, ar, fr =>
    if 12 ≤ x3 then (some (12, sc, ar, fr))
    else (gd (pk nb 2 x0) <|
    gd (pk nb 4 x1) <|
    bC (f_X4_eldestOver nb x1 (sc x0 3) sc ar fr) fun r3 sc4 ar5 fr6 =>
    if 0 ≤ r3 then (bC (f_X4_takeOff nb x1 r3 sc4 ar5 fr6) fun r9 sc10 ar11 fr12 =>
    bCv (f_X2_takeIn nb x0 r9 x2 sc10 ar11 fr12) fun sc14 ar15 fr16 =>
    bd (x3 + 1) fun y17 =>
    f_X2_receive_2 nb fu x0 x1 x2 y17 sc14 ar15 fr16)
    else (some (x3, sc4, ar5, fr6)))
def f_X2_receive (nb : Nat) (x0 : Nat) (x1 : Nat) (x2 : Nat) (sc : Nat → Nat → Int32) (ar : Nat → Nat → Int32) (fr : Nat → Nat → Nat) : Option (Int32 × (Nat → Nat → Int32) × (Nat → Nat → Int32) × (Nat → Nat → Nat)) :=
  f_X2_receive_2 nb FU x0 x1 x2 0 sc ar fr
set_option maxHeartbeats 4000000 in
set_option maxRecDepth 100000 in
theorem k_X2_receive {l : Launch} {G : GG} {A : Nat → Prop} {Γ : Cx} (C : CX G A Γ cX2_receive RX2 ({ frames := 5, cells := 0, slots := 0, locals := 109 } : Room) 5) (ad : Nat → Nat) (X : va_W) (nb : Nat) (x0 : Nat) (x1 : Nat) (x2 : Nat) (sc : Nat → Nat → Int32) (ar : Nat → Nat → Int32) (fr : Nat → Nat → Nat) (r0 : Int32) (sc0 : Nat → Nat → Int32) (ar0 : Nat → Nat → Int32) (fr0 : Nat → Nat → Nat) (hf : f_X2_receive nb x0 x1 x2 sc ar fr = some (r0, sc0, ar0, fr0)) (hret : ∀ (pc : Nat) (lv : List (Nat × Value)), decode cX2_receive pc = .ok (.ireturn, 1) → narrow .int (.int r0) = .int r0 → St l G A Γ 0 0 (wC G ad nb X sc0 ar0 fr0) pc lv [.int r0]) : St l G A Γ 0 0 (wC G ad nb X sc ar fr) 0 [(0, .ref (ad x0)), (1, .ref (ad x1)), (2, .ref (ad x2))] [] := by
  have B_2 : ∀  (fu : Nat) (x0 : Nat) (x1 : Nat) (x2 : Nat) (x3 : Int32) (sc : Nat → Nat → Int32) (ar : Nat → Nat → Int32) (fr : Nat → Nat → Nat), f_X2_receive_2 nb fu x0 x1 x2 x3 sc ar fr = some (r0, sc0, ar0, fr0) → St l G A Γ 0 0 (wC G ad nb X sc ar fr) 2 [(0, .ref (ad x0)), (1, .ref (ad x1)), (2, .ref (ad x2)), (3, .int x3)] [] := by
    intro fu
    induction fu with
    | zero => intro x0 x1 x2 x3 sc ar fr hf ; rw [f_X2_receive_2] at hf; cases hf
    | succ fu ih =>
      intro x0 x1 x2 x3 sc ar fr hf 
      rw [f_X2_receive_2] at hf
      refine s_iload_n C 3 dX2_receive_2 rfl ?_
      refine s_bipush (v := 12) C dX2_receive_3 (by decide) ?_
      refine s_icmp_ge C 42 dX2_receive_5 (by decide) (fun c1 => ?_) (fun c1 => ?_)
      · rw [if_pos c1] at hf
        refine s_bipush (v := 12) C dX2_receive_42 (by decide) ?_
        exact rC_I hf (vp_nar_int _) hret dX2_receive_44
      · rw [if_neg c1] at hf
        refine s_aload_n C 1 dX2_receive_8 rfl ?_
        refine s_aload_n C 0 dX2_receive_9 rfl ?_
        obtain ⟨g2, hf⟩ := gd_inv hf
        refine gf_155 C x0 (wC_2 g2) rfl dX2_receive_10 ?_
        obtain ⟨g7, hf⟩ := gd_inv hf
        obtain ⟨r3, sc4, ar5, fr6, er3, hf⟩ := bC_inv hf
        refine s_cV_I (As := [.int (sc x0 3)]) (rest := []) (ci := 4) (q := x1) C (c_X4_eldestOver l G A ad X nb x1 (sc x0 3) sc ar fr _ _ _ _ er3) g_RX2_76 hd_X4_eldestOver rfl ⟨Nat.le_of_ble_eq_true rfl, Nat.le_of_ble_eq_true rfl⟩ rfl (wC_4 g7) rfl (Nat.le_of_ble_eq_true rfl) ⟨Nat.le_of_ble_eq_true rfl, Nat.le_of_ble_eq_true rfl⟩ dX2_receive_13 ?_
        refine s_istore C [(4, .int r3), (0, .ref (ad x0)), (1, .ref (ad x1)), (2, .ref (ad x2)), (3, .int x3)] dX2_receive_16 (by decide) rfl ?_
        refine s_iload C 0 dX2_receive_18 rfl ?_
        refine s_if_ge C 25 dX2_receive_20 (by decide) (fun c8 => ?_) (fun c8 => ?_)
        · rw [if_pos c8] at hf
          refine s_aload_n C 1 dX2_receive_25 rfl ?_
          refine s_aload_n C 2 dX2_receive_26 rfl ?_
          refine s_iload C 0 dX2_receive_27 rfl ?_
          obtain ⟨r9, sc10, ar11, fr12, er9, hf⟩ := bC_inv hf
          refine s_cV_R (As := [.int r3]) (rest := [.ref (ad x0)]) (ci := 4) (q := x1) C (c_X4_takeOff l G A ad X nb x1 r3 sc4 ar5 fr6 _ _ _ _ er9) g_RX2_80 hd_X4_takeOff rfl ⟨Nat.le_of_ble_eq_true rfl, Nat.le_of_ble_eq_true rfl⟩ rfl (wC_4 g7) rfl (Nat.le_of_ble_eq_true rfl) ⟨Nat.le_of_ble_eq_true rfl, Nat.le_of_ble_eq_true rfl⟩ dX2_receive_29 ?_
          refine s_aload_n C 3 dX2_receive_32 rfl ?_
          obtain ⟨sc14, ar15, fr16, er13, hf⟩ := bCv_inv hf
          refine s_cV_V (As := [.ref (ad r9), .ref (ad x2)]) (rest := []) (ci := 2) (q := x0) C (c_X2_takeIn l G A ad X nb x0 r9 x2 sc10 ar11 fr12 _ _ _ er13) g_RX2_84 hd_X2_takeIn rfl ⟨Nat.le_of_ble_eq_true rfl, Nat.le_of_ble_eq_true rfl⟩ rfl (wC_2 g2) rfl (Nat.le_of_ble_eq_true rfl) ⟨Nat.le_of_ble_eq_true rfl, Nat.le_of_ble_eq_true rfl⟩ dX2_receive_33 ?_
          obtain ⟨y17, ey17, hf⟩ := bd_inv hf
          refine s_iinc (v := y17) C 4 [(3, .int y17), (4, .int r3), (0, .ref (ad x0)), (1, .ref (ad x1)), (2, .ref (ad x2))] dX2_receive_36 rfl (by rw [ey17]; rfl) (by decide) rfl ?_
          refine s_goto C 2 dX2_receive_39 (by decide) ?_
          refine s_lv [2, 3, 4, 0] rfl ?_
          exact ih _ _ _ _ _ _ _ hf
        · rw [if_neg c8] at hf
          refine s_iload_n C 4 dX2_receive_23 rfl ?_
          exact rC_I hf (vp_nar_int _) hret dX2_receive_24
  unfold f_X2_receive at hf
  refine s_iconst (v := 0) C dX2_receive_0 (by decide) ?_
  refine s_istore_n C [(3, .int 0), (0, .ref (ad x0)), (1, .ref (ad x1)), (2, .ref (ad x2))] dX2_receive_1 (by decide) rfl ?_
  refine s_lv [1, 2, 3, 0] rfl ?_
  exact B_2 _ _ _ _ _ _ _ _ hf
theorem c_X2_receive (l : Launch) (G : GG) (A : Nat → Prop) (ad : Nat → Nat) (X : va_W) (nb : Nat) (x0 : Nat) (x1 : Nat) (x2 : Nat) (sc : Nat → Nat → Int32) (ar : Nat → Nat → Int32) (fr : Nat → Nat → Nat) (r0 : Int32) (sc0 : Nat → Nat → Int32) (ar0 : Nat → Nat → Int32) (fr0 : Nat → Nat → Nat) (hf : f_X2_receive nb x0 x1 x2 sc ar fr = some (r0, sc0, ar0, fr0)) : MI l yX2_receive cX2_receive 5 .int ({ frames := 5, cells := 0, slots := 0, locals := 109 } : Room) G A (wC G ad nb X sc ar fr) [.ref (ad x0), .ref (ad x1), .ref (ad x2)] r0 (wC G ad nb X sc0 ar0 fr0) :=
  e_I (by decide) (Nat.le_of_ble_eq_true rfl) (fun Γ C hret => k_X2_receive C _ _ _ _ _ _ _ _ _ _ _ _ _ hf hret)
def f_X2_runTimers_17 (nb : Nat)  (x0 : Nat) (x1 : Nat) (sc : Nat → Nat → Int32) (ar : Nat → Nat → Int32) (fr : Nat → Nat → Nat) : Option ((Nat → Nat → Int32) × (Nat → Nat → Int32) × (Nat → Nat → Nat)) :=
  gd (pk nb 0 x1) <|
  bC (f_X0_unacked nb x1 sc ar fr) fun r5 sc6 ar7 fr8 =>
  if r5 = 0 then (some (sc6, ar7, fr8))
  else (if (sc6 x1 9) ≤ 0 then (bd (((sc6 x1 7) + 1)) fun y12 =>
  bd (up2 sc6 x1 7 y12) fun sc13 =>
  gd (pk nb 2 x0) <|
  if (sc13 x1 7) < (sc13 x0 6) then (some (sc13, ar7, fr8))
  else (bCv (f_X2_sendAgain nb x0 x1 sc13 ar7 fr8) fun sc17 ar18 fr19 =>
  some (sc17, ar18, fr19)))
  else (some (sc6, ar7, fr8)))
def f_X2_runTimers (nb : Nat) (x0 : Nat) (x1 : Nat) (sc : Nat → Nat → Int32) (ar : Nat → Nat → Int32) (fr : Nat → Nat → Nat) : Option ((Nat → Nat → Int32) × (Nat → Nat → Int32) × (Nat → Nat → Nat)) :=
  gd (pk nb 0 x1) <|
  if (sc x1 13) ≤ 0 then (f_X2_runTimers_17 nb x0 x1 sc ar fr)
  else (bd (((sc x1 13) - 1)) fun y3 =>
  bd (up2 sc x1 13 y3) fun sc4 =>
  f_X2_runTimers_17 nb x0 x1 sc4 ar fr)
set_option maxHeartbeats 4000000 in
set_option maxRecDepth 100000 in
theorem k_X2_runTimers {l : Launch} {G : GG} {A : Nat → Prop} {Γ : Cx} (C : CX G A Γ cX2_runTimers RX2 ({ frames := 2, cells := 0, slots := 0, locals := 41 } : Room) 2) (ad : Nat → Nat) (X : va_W) (nb : Nat) (x0 : Nat) (x1 : Nat) (sc : Nat → Nat → Int32) (ar : Nat → Nat → Int32) (fr : Nat → Nat → Nat) (sc0 : Nat → Nat → Int32) (ar0 : Nat → Nat → Int32) (fr0 : Nat → Nat → Nat) (hf : f_X2_runTimers nb x0 x1 sc ar fr = some (sc0, ar0, fr0)) (hret : ∀ (pc : Nat) (lv : List (Nat × Value)), decode cX2_runTimers pc = .ok (.return_, 1) → St l G A Γ 0 0 (wC G ad nb X sc0 ar0 fr0) pc lv []) : St l G A Γ 0 0 (wC G ad nb X sc ar fr) 0 [(0, .ref (ad x0)), (1, .ref (ad x1))] [] := by
  have B_17 : ∀  (x0 : Nat) (x1 : Nat) (sc : Nat → Nat → Int32) (ar : Nat → Nat → Int32) (fr : Nat → Nat → Nat), f_X2_runTimers_17 nb x0 x1 sc ar fr = some (sc0, ar0, fr0) → St l G A Γ 0 0 (wC G ad nb X sc ar fr) 17 [(0, .ref (ad x0)), (1, .ref (ad x1))] [] := by
    intro  x0 x1 sc ar fr hf 
    unfold f_X2_runTimers_17 at hf
    refine s_aload_n C 1 dX2_runTimers_17 rfl ?_
    obtain ⟨g9, hf⟩ := gd_inv hf
    obtain ⟨r5, sc6, ar7, fr8, er5, hf⟩ := bC_inv hf
    refine s_cV_I (As := []) (rest := []) (ci := 0) (q := x1) C (c_X0_unacked l G A ad X nb x1 sc ar fr _ _ _ _ er5) g_RX2_127 hd_X0_unacked rfl ⟨Nat.le_of_ble_eq_true rfl, Nat.le_of_ble_eq_true rfl⟩ rfl (wC_0 g9) rfl (Nat.le_of_ble_eq_true rfl) ⟨Nat.le_of_ble_eq_true rfl, Nat.le_of_ble_eq_true rfl⟩ dX2_runTimers_18 ?_
    refine s_if_eq C 31 dX2_runTimers_21 (by decide) (fun c10 => ?_) (fun c10 => ?_)
    · rw [if_pos c10] at hf
      exact rC_V hf hret dX2_runTimers_31
    · rw [if_neg c10] at hf
      refine s_aload_n C 1 dX2_runTimers_24 rfl ?_
      refine gf_66 C x1 (wC_0 g9) rfl dX2_runTimers_25 ?_
      refine s_if_le C 32 dX2_runTimers_28 (by decide) (fun c11 => ?_) (fun c11 => ?_)
      · rw [if_pos c11] at hf
        refine s_aload_n C 1 dX2_runTimers_32 rfl ?_
        refine s_dup C dX2_runTimers_33 rfl ?_
        refine gf_62 C x1 (wC_0 g9) rfl dX2_runTimers_34 ?_
        refine s_iconst (v := 1) C dX2_runTimers_37 (by decide) ?_
        refine s_iadd C dX2_runTimers_38 ?_
        obtain ⟨y12, ey12, hf⟩ := bd_inv hf
        refine s_nmi ey12 ?_
        obtain ⟨sc13, esc13, hf⟩ := bd_inv hf
        refine pf_62 C x1 (wC_0 g9) (vp_nar_int _) rfl (Nat.le_of_ble_eq_true rfl) (wC G ad nb X sc13 ar7 fr8) (wC_s0_7 g9 esc13) dX2_runTimers_39 ?_
        refine s_aload_n C 1 dX2_runTimers_42 rfl ?_
        refine gf_62 C x1 (wC_0 g9) rfl dX2_runTimers_43 ?_
        refine s_aload_n C 0 dX2_runTimers_46 rfl ?_
        obtain ⟨g14, hf⟩ := gd_inv hf
        refine gf_160 C x0 (wC_2 g14) rfl dX2_runTimers_47 ?_
        refine s_icmp_lt C 58 dX2_runTimers_50 (by decide) (fun c15 => ?_) (fun c15 => ?_)
        · rw [if_pos c15] at hf
          exact rC_V hf hret dX2_runTimers_58
        · rw [if_neg c15] at hf
          refine s_aload_n C 0 dX2_runTimers_53 rfl ?_
          refine s_aload_n C 1 dX2_runTimers_54 rfl ?_
          obtain ⟨sc17, ar18, fr19, er16, hf⟩ := bCv_inv hf
          refine s_cV_V (As := [.ref (ad x1)]) (rest := []) (ci := 2) (q := x0) C (c_X2_sendAgain l G A ad X nb x0 x1 sc13 ar7 fr8 _ _ _ er16) g_RX2_130 hd_X2_sendAgain rfl ⟨Nat.le_of_ble_eq_true rfl, Nat.le_of_ble_eq_true rfl⟩ rfl (wC_2 g14) rfl (Nat.le_of_ble_eq_true rfl) ⟨Nat.le_of_ble_eq_true rfl, Nat.le_of_ble_eq_true rfl⟩ dX2_runTimers_55 ?_
          exact rC_V hf hret dX2_runTimers_58
      · rw [if_neg c11] at hf
        exact rC_V hf hret dX2_runTimers_31
  unfold f_X2_runTimers at hf
  refine s_aload_n C 1 dX2_runTimers_0 rfl ?_
  obtain ⟨g1, hf⟩ := gd_inv hf
  refine gf_73 C x1 (wC_0 g1) rfl dX2_runTimers_1 ?_
  refine s_if_le C 17 dX2_runTimers_4 (by decide) (fun c2 => ?_) (fun c2 => ?_)
  · rw [if_pos c2] at hf
    exact B_17 _ _ _ _ _ hf
  · rw [if_neg c2] at hf
    refine s_aload_n C 1 dX2_runTimers_7 rfl ?_
    refine s_dup C dX2_runTimers_8 rfl ?_
    refine gf_73 C x1 (wC_0 g1) rfl dX2_runTimers_9 ?_
    refine s_iconst (v := 1) C dX2_runTimers_12 (by decide) ?_
    refine s_isub C dX2_runTimers_13 ?_
    obtain ⟨y3, ey3, hf⟩ := bd_inv hf
    refine s_nmi ey3 ?_
    obtain ⟨sc4, esc4, hf⟩ := bd_inv hf
    refine pf_73 C x1 (wC_0 g1) (vp_nar_int _) rfl (Nat.le_of_ble_eq_true rfl) (wC G ad nb X sc4 ar fr) (wC_s0_13 g1 esc4) dX2_runTimers_14 ?_
    exact B_17 _ _ _ _ _ hf
theorem c_X2_runTimers (l : Launch) (G : GG) (A : Nat → Prop) (ad : Nat → Nat) (X : va_W) (nb : Nat) (x0 : Nat) (x1 : Nat) (sc : Nat → Nat → Int32) (ar : Nat → Nat → Int32) (fr : Nat → Nat → Nat) (sc0 : Nat → Nat → Int32) (ar0 : Nat → Nat → Int32) (fr0 : Nat → Nat → Nat) (hf : f_X2_runTimers nb x0 x1 sc ar fr = some (sc0, ar0, fr0)) : MV l yX2_runTimers cX2_runTimers 2 ({ frames := 2, cells := 0, slots := 0, locals := 41 } : Room) G A (wC G ad nb X sc ar fr) [.ref (ad x0), .ref (ad x1)] (wC G ad nb X sc0 ar0 fr0) :=
  e_V (by decide) (Nat.le_of_ble_eq_true rfl) (fun Γ C hret => k_X2_runTimers C _ _ _ _ _ _ _ _ _ _ _ hf hret)
def f_X2_layNewPacket (nb : Nat) (x0 : Nat) (x1 : Nat) (x2 : Nat) (sc : Nat → Nat → Int32) (ar : Nat → Nat → Int32) (fr : Nat → Nat → Nat) : Option ((Nat → Nat → Int32) × (Nat → Nat → Int32) × (Nat → Nat → Nat)) :=
  gd (pk nb 0 x1) <|
  if (sc x1 6) = 0 then (gd (pk nb 2 x0) <|
  rdA nb ar (x0 + 71) 4 fun v4 =>
  bd ((v4 + 1)) fun y5 =>
  wrA nb ar (x0 + 71) 4 y5 fun ar6 =>
  bCv (f_X0_writePacket nb x1 x2 0 (sc x1 4) sc ar6 fr) fun sc8 ar9 fr10 =>
  bd (((sc8 x1 4) + 1)) fun y11 =>
  bd (up2 sc8 x1 4 y11) fun sc12 =>
  some (sc12, ar9, fr10))
  else (gd (pk nb 2 x0) <|
  rdA nb ar (x0 + 71) 6 fun v14 =>
  bd ((v14 + 1)) fun y15 =>
  wrA nb ar (x0 + 71) 6 y15 fun ar16 =>
  bCv (f_X0_writePacket nb x1 x2 1 (sc x1 4) sc ar16 fr) fun sc18 ar19 fr20 =>
  bd (up2 sc18 x1 6 0) fun sc21 =>
  some (sc21, ar19, fr20))
set_option maxHeartbeats 4000000 in
set_option maxRecDepth 100000 in
theorem k_X2_layNewPacket {l : Launch} {G : GG} {A : Nat → Prop} {Γ : Cx} (C : CX G A Γ cX2_layNewPacket RX2 ({ frames := 3, cells := 0, slots := 0, locals := 82 } : Room) 3) (ad : Nat → Nat) (X : va_W) (nb : Nat) (x0 : Nat) (x1 : Nat) (x2 : Nat) (sc : Nat → Nat → Int32) (ar : Nat → Nat → Int32) (fr : Nat → Nat → Nat) (sc0 : Nat → Nat → Int32) (ar0 : Nat → Nat → Int32) (fr0 : Nat → Nat → Nat) (hf : f_X2_layNewPacket nb x0 x1 x2 sc ar fr = some (sc0, ar0, fr0)) (hret : ∀ (pc : Nat) (lv : List (Nat × Value)), decode cX2_layNewPacket pc = .ok (.return_, 1) → St l G A Γ 0 0 (wC G ad nb X sc0 ar0 fr0) pc lv []) : St l G A Γ 0 0 (wC G ad nb X sc ar fr) 0 [(0, .ref (ad x0)), (1, .ref (ad x1)), (2, .ref (ad x2))] [] := by
  unfold f_X2_layNewPacket at hf
  refine s_aload_n C 1 dX2_layNewPacket_0 rfl ?_
  obtain ⟨g1, hf⟩ := gd_inv hf
  refine gf_59 C x1 (wC_0 g1) rfl dX2_layNewPacket_1 ?_
  refine s_if_eq C 34 dX2_layNewPacket_4 (by decide) (fun c2 => ?_) (fun c2 => ?_)
  · rw [if_pos c2] at hf
    refine s_aload_n C 0 dX2_layNewPacket_34 rfl ?_
    obtain ⟨g3, hf⟩ := gd_inv hf
    refine gf_153 C x0 (wC_2 g3) rfl dX2_layNewPacket_35 ?_
    refine s_iconst (v := 4) C dX2_layNewPacket_38 (by decide) ?_
    refine s_dup2 C dX2_layNewPacket_39 rfl rfl ?_
    obtain ⟨v4, hkv4, hiv4, ev4, hf⟩ := rdA_inv hf
    refine s_ciald C hkv4 hiv4 dX2_layNewPacket_40 ?_
    refine s_nmi ev4 ?_
    refine s_iconst (v := 1) C dX2_layNewPacket_41 (by decide) ?_
    refine s_iadd C dX2_layNewPacket_42 ?_
    obtain ⟨y5, ey5, hf⟩ := bd_inv hf
    refine s_nmi ey5 ?_
    obtain ⟨ar6, hkar6, hiar6, ear6, hf⟩ := wrA_inv hf
    refine s_ciast C hkar6 hiar6 ear6 dX2_layNewPacket_43 ?_
    refine s_aload_n C 1 dX2_layNewPacket_44 rfl ?_
    refine s_aload_n C 2 dX2_layNewPacket_45 rfl ?_
    refine s_iconst (v := 0) C dX2_layNewPacket_46 (by decide) ?_
    refine s_aload_n C 1 dX2_layNewPacket_47 rfl ?_
    refine gf_56 C x1 (wC_0 g1) rfl dX2_layNewPacket_48 ?_
    obtain ⟨sc8, ar9, fr10, er7, hf⟩ := bCv_inv hf
    refine s_cV_V (As := [.ref (ad x2), .int 0, .int (sc x1 4)]) (rest := []) (ci := 0) (q := x1) C (c_X0_writePacket l G A ad X nb x1 x2 0 (sc x1 4) sc ar6 fr _ _ _ er7) g_RX2_162 hd_X0_writePacket rfl ⟨Nat.le_of_ble_eq_true rfl, Nat.le_of_ble_eq_true rfl⟩ rfl (wC_0 g1) rfl (Nat.le_of_ble_eq_true rfl) ⟨Nat.le_of_ble_eq_true rfl, Nat.le_of_ble_eq_true rfl⟩ dX2_layNewPacket_51 ?_
    refine s_aload_n C 1 dX2_layNewPacket_54 rfl ?_
    refine s_dup C dX2_layNewPacket_55 rfl ?_
    refine gf_56 C x1 (wC_0 g1) rfl dX2_layNewPacket_56 ?_
    refine s_iconst (v := 1) C dX2_layNewPacket_59 (by decide) ?_
    refine s_iadd C dX2_layNewPacket_60 ?_
    obtain ⟨y11, ey11, hf⟩ := bd_inv hf
    refine s_nmi ey11 ?_
    obtain ⟨sc12, esc12, hf⟩ := bd_inv hf
    refine pf_56 C x1 (wC_0 g1) (vp_nar_int _) rfl (Nat.le_of_ble_eq_true rfl) (wC G ad nb X sc12 ar9 fr10) (wC_s0_4 g1 esc12) dX2_layNewPacket_61 ?_
    exact rC_V hf hret dX2_layNewPacket_64
  · rw [if_neg c2] at hf
    refine s_aload_n C 0 dX2_layNewPacket_7 rfl ?_
    obtain ⟨g13, hf⟩ := gd_inv hf
    refine gf_153 C x0 (wC_2 g13) rfl dX2_layNewPacket_8 ?_
    refine s_bipush (v := 6) C dX2_layNewPacket_11 (by decide) ?_
    refine s_dup2 C dX2_layNewPacket_13 rfl rfl ?_
    obtain ⟨v14, hkv14, hiv14, ev14, hf⟩ := rdA_inv hf
    refine s_ciald C hkv14 hiv14 dX2_layNewPacket_14 ?_
    refine s_nmi ev14 ?_
    refine s_iconst (v := 1) C dX2_layNewPacket_15 (by decide) ?_
    refine s_iadd C dX2_layNewPacket_16 ?_
    obtain ⟨y15, ey15, hf⟩ := bd_inv hf
    refine s_nmi ey15 ?_
    obtain ⟨ar16, hkar16, hiar16, ear16, hf⟩ := wrA_inv hf
    refine s_ciast C hkar16 hiar16 ear16 dX2_layNewPacket_17 ?_
    refine s_aload_n C 1 dX2_layNewPacket_18 rfl ?_
    refine s_aload_n C 2 dX2_layNewPacket_19 rfl ?_
    refine s_iconst (v := 1) C dX2_layNewPacket_20 (by decide) ?_
    refine s_aload_n C 1 dX2_layNewPacket_21 rfl ?_
    refine gf_56 C x1 (wC_0 g1) rfl dX2_layNewPacket_22 ?_
    obtain ⟨sc18, ar19, fr20, er17, hf⟩ := bCv_inv hf
    refine s_cV_V (As := [.ref (ad x2), .int 1, .int (sc x1 4)]) (rest := []) (ci := 0) (q := x1) C (c_X0_writePacket l G A ad X nb x1 x2 1 (sc x1 4) sc ar16 fr _ _ _ er17) g_RX2_162 hd_X0_writePacket rfl ⟨Nat.le_of_ble_eq_true rfl, Nat.le_of_ble_eq_true rfl⟩ rfl (wC_0 g1) rfl (Nat.le_of_ble_eq_true rfl) ⟨Nat.le_of_ble_eq_true rfl, Nat.le_of_ble_eq_true rfl⟩ dX2_layNewPacket_25 ?_
    refine s_aload_n C 1 dX2_layNewPacket_28 rfl ?_
    refine s_iconst (v := 0) C dX2_layNewPacket_29 (by decide) ?_
    obtain ⟨sc21, esc21, hf⟩ := bd_inv hf
    refine pf_59 C x1 (wC_0 g1) rfl rfl (Nat.le_of_ble_eq_true rfl) (wC G ad nb X sc21 ar19 fr20) (wC_s0_6 g1 esc21) dX2_layNewPacket_30 ?_
    exact rC_V hf hret dX2_layNewPacket_33
theorem c_X2_layNewPacket (l : Launch) (G : GG) (A : Nat → Prop) (ad : Nat → Nat) (X : va_W) (nb : Nat) (x0 : Nat) (x1 : Nat) (x2 : Nat) (sc : Nat → Nat → Int32) (ar : Nat → Nat → Int32) (fr : Nat → Nat → Nat) (sc0 : Nat → Nat → Int32) (ar0 : Nat → Nat → Int32) (fr0 : Nat → Nat → Nat) (hf : f_X2_layNewPacket nb x0 x1 x2 sc ar fr = some (sc0, ar0, fr0)) : MV l yX2_layNewPacket cX2_layNewPacket 3 ({ frames := 3, cells := 0, slots := 0, locals := 82 } : Room) G A (wC G ad nb X sc ar fr) [.ref (ad x0), .ref (ad x1), .ref (ad x2)] (wC G ad nb X sc0 ar0 fr0) :=
  e_V (by decide) (Nat.le_of_ble_eq_true rfl) (fun Γ C hret => k_X2_layNewPacket C _ _ _ _ _ _ _ _ _ _ _ _ hf hret)
def f_X2_layOneFrame (nb : Nat) (x0 : Nat) (x1 : Nat) (x2 : Nat) (sc : Nat → Nat → Int32) (ar : Nat → Nat → Int32) (fr : Nat → Nat → Nat) : Option ((Nat → Nat → Int32) × (Nat → Nat → Int32) × (Nat → Nat → Nat)) :=
  gd (pk nb 0 x1) <|
  if (sc x1 12) = 0 then (if (sc x1 13) = 0 then (gd (pk nb 2 x0) <|
  rdA nb ar (x0 + 71) 7 fun v41 =>
  bd ((v41 + 1)) fun y42 =>
  wrA nb ar (x0 + 71) 7 y42 fun ar43 =>
  gd (pk nb 4 x2) <|
  bC (f_X4_layOneMore nb x2 ((sc x0 3) + (sc x0 5)) sc ar43 fr) fun r44 sc45 ar46 fr47 =>
  bCv (f_X0_writeWord nb x1 r44 2 sc45 ar46 fr47) fun sc50 ar51 fr52 =>
  some (sc50, ar51, fr52))
  else (if (sc x1 9) ≤ 0 then (bC (f_X0_unacked nb x1 sc ar fr) fun r5 sc6 ar7 fr8 =>
  if 8 ≤ r5 then (some (sc6, ar7, fr8))
  else (bC (f_X0_waiting nb x1 sc6 ar7 fr8) fun r10 sc11 ar12 fr13 =>
  if r10 ≤ 0 then (some (sc11, ar12, fr13))
  else (gd (pk nb 2 x0) <|
  gd (pk nb 4 x2) <|
  bC (f_X4_layOneMore nb x2 ((sc11 x0 3) + (sc11 x0 5)) sc11 ar12 fr13) fun r16 sc17 ar18 fr19 =>
  bCv (f_X2_layNewPacket nb x0 x1 r16 sc17 ar18 fr19) fun sc22 ar23 fr24 =>
  some (sc22, ar23, fr24))))
  else (gd (pk nb 2 x0) <|
  rdA nb ar (x0 + 71) 5 fun v26 =>
  bd ((v26 + 1)) fun y27 =>
  wrA nb ar (x0 + 71) 5 y27 fun ar28 =>
  gd (pk nb 4 x2) <|
  bC (f_X4_layOneMore nb x2 ((sc x0 3) + (sc x0 5)) sc ar28 fr) fun r29 sc30 ar31 fr32 =>
  bCv (f_X0_writePacket nb x1 r29 0 ((sc30 x1 4) - (sc30 x1 9)) sc30 ar31 fr32) fun sc35 ar36 fr37 =>
  bd (((sc35 x1 9) - 1)) fun y38 =>
  bd (up2 sc35 x1 9 y38) fun sc39 =>
  some (sc39, ar36, fr37))))
  else (gd (pk nb 2 x0) <|
  rdA nb ar (x0 + 71) 8 fun v54 =>
  bd ((v54 + 1)) fun y55 =>
  wrA nb ar (x0 + 71) 8 y55 fun ar56 =>
  gd (pk nb 4 x2) <|
  bC (f_X4_layOneMore nb x2 ((sc x0 3) + (sc x0 5)) sc ar56 fr) fun r57 sc58 ar59 fr60 =>
  bCv (f_X0_writeWord nb x1 r57 3 sc58 ar59 fr60) fun sc63 ar64 fr65 =>
  some (sc63, ar64, fr65))
set_option maxHeartbeats 4000000 in
set_option maxRecDepth 100000 in
theorem k_X2_layOneFrame {l : Launch} {G : GG} {A : Nat → Prop} {Γ : Cx} (C : CX G A Γ cX2_layOneFrame RX2 ({ frames := 4, cells := 0, slots := 0, locals := 104 } : Room) 3) (ad : Nat → Nat) (X : va_W) (nb : Nat) (x0 : Nat) (x1 : Nat) (x2 : Nat) (sc : Nat → Nat → Int32) (ar : Nat → Nat → Int32) (fr : Nat → Nat → Nat) (sc0 : Nat → Nat → Int32) (ar0 : Nat → Nat → Int32) (fr0 : Nat → Nat → Nat) (hf : f_X2_layOneFrame nb x0 x1 x2 sc ar fr = some (sc0, ar0, fr0)) (hret : ∀ (pc : Nat) (lv : List (Nat × Value)), decode cX2_layOneFrame pc = .ok (.return_, 1) → St l G A Γ 0 0 (wC G ad nb X sc0 ar0 fr0) pc lv []) : St l G A Γ 0 0 (wC G ad nb X sc ar fr) 0 [(0, .ref (ad x0)), (1, .ref (ad x1)), (2, .ref (ad x2))] [] := by
  unfold f_X2_layOneFrame at hf
  refine s_aload_n C 1 dX2_layOneFrame_0 rfl ?_
  obtain ⟨g1, hf⟩ := gd_inv hf
  refine gf_71 C x1 (wC_0 g1) rfl dX2_layOneFrame_1 ?_
  refine s_if_eq C 39 dX2_layOneFrame_4 (by decide) (fun c2 => ?_) (fun c2 => ?_)
  · rw [if_pos c2] at hf
    refine s_aload_n C 1 dX2_layOneFrame_39 rfl ?_
    refine gf_73 C x1 (wC_0 g1) rfl dX2_layOneFrame_40 ?_
    refine s_if_ne C 78 dX2_layOneFrame_43 (by decide) (fun c3 => ?_) (fun c3 => ?_)
    · rw [if_neg c3] at hf
      refine s_aload_n C 1 dX2_layOneFrame_78 rfl ?_
      refine gf_66 C x1 (wC_0 g1) rfl dX2_layOneFrame_79 ?_
      refine s_if_le C 135 dX2_layOneFrame_82 (by decide) (fun c4 => ?_) (fun c4 => ?_)
      · rw [if_pos c4] at hf
        refine s_aload_n C 1 dX2_layOneFrame_135 rfl ?_
        obtain ⟨r5, sc6, ar7, fr8, er5, hf⟩ := bC_inv hf
        refine s_cV_I (As := []) (rest := []) (ci := 0) (q := x1) C (c_X0_unacked l G A ad X nb x1 sc ar fr _ _ _ _ er5) g_RX2_127 hd_X0_unacked rfl ⟨Nat.le_of_ble_eq_true rfl, Nat.le_of_ble_eq_true rfl⟩ rfl (wC_0 g1) rfl (Nat.le_of_ble_eq_true rfl) ⟨Nat.le_of_ble_eq_true rfl, Nat.le_of_ble_eq_true rfl⟩ dX2_layOneFrame_136 ?_
        refine s_bipush (v := 8) C dX2_layOneFrame_139 (by decide) ?_
        refine s_icmp_ge C 169 dX2_layOneFrame_141 (by decide) (fun c9 => ?_) (fun c9 => ?_)
        · rw [if_pos c9] at hf
          exact rC_V hf hret dX2_layOneFrame_169
        · rw [if_neg c9] at hf
          refine s_aload_n C 1 dX2_layOneFrame_144 rfl ?_
          obtain ⟨r10, sc11, ar12, fr13, er10, hf⟩ := bC_inv hf
          refine s_cV_I (As := []) (rest := []) (ci := 0) (q := x1) C (c_X0_waiting l G A ad X nb x1 sc6 ar7 fr8 _ _ _ _ er10) g_RX2_166 hd_X0_waiting rfl ⟨Nat.le_of_ble_eq_true rfl, Nat.le_of_ble_eq_true rfl⟩ rfl (wC_0 g1) rfl (Nat.le_of_ble_eq_true rfl) ⟨Nat.le_of_ble_eq_true rfl, Nat.le_of_ble_eq_true rfl⟩ dX2_layOneFrame_145 ?_
          refine s_if_le C 169 dX2_layOneFrame_148 (by decide) (fun c14 => ?_) (fun c14 => ?_)
          · rw [if_pos c14] at hf
            exact rC_V hf hret dX2_layOneFrame_169
          · rw [if_neg c14] at hf
            refine s_aload_n C 0 dX2_layOneFrame_151 rfl ?_
            refine s_aload_n C 1 dX2_layOneFrame_152 rfl ?_
            refine s_aload_n C 2 dX2_layOneFrame_153 rfl ?_
            refine s_aload_n C 0 dX2_layOneFrame_154 rfl ?_
            obtain ⟨g15, hf⟩ := gd_inv hf
            refine gf_155 C x0 (wC_2 g15) rfl dX2_layOneFrame_155 ?_
            refine s_aload_n C 0 dX2_layOneFrame_158 rfl ?_
            refine gf_159 C x0 (wC_2 g15) rfl dX2_layOneFrame_159 ?_
            refine s_iadd C dX2_layOneFrame_162 ?_
            obtain ⟨g20, hf⟩ := gd_inv hf
            obtain ⟨r16, sc17, ar18, fr19, er16, hf⟩ := bC_inv hf
            refine s_cV_R (As := [.int ((sc11 x0 3) + (sc11 x0 5))]) (rest := [.ref (ad x1), .ref (ad x0)]) (ci := 4) (q := x2) C (c_X4_layOneMore l G A ad X nb x2 ((sc11 x0 3) + (sc11 x0 5)) sc11 ar12 fr13 _ _ _ _ er16) g_RX2_152 hd_X4_layOneMore rfl ⟨Nat.le_of_ble_eq_true rfl, Nat.le_of_ble_eq_true rfl⟩ rfl (wC_4 g20) rfl (Nat.le_of_ble_eq_true rfl) ⟨Nat.le_of_ble_eq_true rfl, Nat.le_of_ble_eq_true rfl⟩ dX2_layOneFrame_163 ?_
            obtain ⟨sc22, ar23, fr24, er21, hf⟩ := bCv_inv hf
            refine s_cV_V (As := [.ref (ad x1), .ref (ad r16)]) (rest := []) (ci := 2) (q := x0) C (c_X2_layNewPacket l G A ad X nb x0 x1 r16 sc17 ar18 fr19 _ _ _ er21) g_RX2_169 hd_X2_layNewPacket rfl ⟨Nat.le_of_ble_eq_true rfl, Nat.le_of_ble_eq_true rfl⟩ rfl (wC_2 g15) rfl (Nat.le_of_ble_eq_true rfl) ⟨Nat.le_of_ble_eq_true rfl, Nat.le_of_ble_eq_true rfl⟩ dX2_layOneFrame_166 ?_
            exact rC_V hf hret dX2_layOneFrame_169
      · rw [if_neg c4] at hf
        refine s_aload_n C 0 dX2_layOneFrame_85 rfl ?_
        obtain ⟨g25, hf⟩ := gd_inv hf
        refine gf_153 C x0 (wC_2 g25) rfl dX2_layOneFrame_86 ?_
        refine s_iconst (v := 5) C dX2_layOneFrame_89 (by decide) ?_
        refine s_dup2 C dX2_layOneFrame_90 rfl rfl ?_
        obtain ⟨v26, hkv26, hiv26, ev26, hf⟩ := rdA_inv hf
        refine s_ciald C hkv26 hiv26 dX2_layOneFrame_91 ?_
        refine s_nmi ev26 ?_
        refine s_iconst (v := 1) C dX2_layOneFrame_92 (by decide) ?_
        refine s_iadd C dX2_layOneFrame_93 ?_
        obtain ⟨y27, ey27, hf⟩ := bd_inv hf
        refine s_nmi ey27 ?_
        obtain ⟨ar28, hkar28, hiar28, ear28, hf⟩ := wrA_inv hf
        refine s_ciast C hkar28 hiar28 ear28 dX2_layOneFrame_94 ?_
        refine s_aload_n C 1 dX2_layOneFrame_95 rfl ?_
        refine s_aload_n C 2 dX2_layOneFrame_96 rfl ?_
        refine s_aload_n C 0 dX2_layOneFrame_97 rfl ?_
        refine gf_155 C x0 (wC_2 g25) rfl dX2_layOneFrame_98 ?_
        refine s_aload_n C 0 dX2_layOneFrame_101 rfl ?_
        refine gf_159 C x0 (wC_2 g25) rfl dX2_layOneFrame_102 ?_
        refine s_iadd C dX2_layOneFrame_105 ?_
        obtain ⟨g33, hf⟩ := gd_inv hf
        obtain ⟨r29, sc30, ar31, fr32, er29, hf⟩ := bC_inv hf
        refine s_cV_R (As := [.int ((sc x0 3) + (sc x0 5))]) (rest := [.ref (ad x1)]) (ci := 4) (q := x2) C (c_X4_layOneMore l G A ad X nb x2 ((sc x0 3) + (sc x0 5)) sc ar28 fr _ _ _ _ er29) g_RX2_152 hd_X4_layOneMore rfl ⟨Nat.le_of_ble_eq_true rfl, Nat.le_of_ble_eq_true rfl⟩ rfl (wC_4 g33) rfl (Nat.le_of_ble_eq_true rfl) ⟨Nat.le_of_ble_eq_true rfl, Nat.le_of_ble_eq_true rfl⟩ dX2_layOneFrame_106 ?_
        refine s_iconst (v := 0) C dX2_layOneFrame_109 (by decide) ?_
        refine s_aload_n C 1 dX2_layOneFrame_110 rfl ?_
        refine gf_56 C x1 (wC_0 g1) rfl dX2_layOneFrame_111 ?_
        refine s_aload_n C 1 dX2_layOneFrame_114 rfl ?_
        refine gf_66 C x1 (wC_0 g1) rfl dX2_layOneFrame_115 ?_
        refine s_isub C dX2_layOneFrame_118 ?_
        obtain ⟨sc35, ar36, fr37, er34, hf⟩ := bCv_inv hf
        refine s_cV_V (As := [.ref (ad r29), .int 0, .int ((sc30 x1 4) - (sc30 x1 9))]) (rest := []) (ci := 0) (q := x1) C (c_X0_writePacket l G A ad X nb x1 r29 0 ((sc30 x1 4) - (sc30 x1 9)) sc30 ar31 fr32 _ _ _ er34) g_RX2_162 hd_X0_writePacket rfl ⟨Nat.le_of_ble_eq_true rfl, Nat.le_of_ble_eq_true rfl⟩ rfl (wC_0 g1) rfl (Nat.le_of_ble_eq_true rfl) ⟨Nat.le_of_ble_eq_true rfl, Nat.le_of_ble_eq_true rfl⟩ dX2_layOneFrame_119 ?_
        refine s_aload_n C 1 dX2_layOneFrame_122 rfl ?_
        refine s_dup C dX2_layOneFrame_123 rfl ?_
        refine gf_66 C x1 (wC_0 g1) rfl dX2_layOneFrame_124 ?_
        refine s_iconst (v := 1) C dX2_layOneFrame_127 (by decide) ?_
        refine s_isub C dX2_layOneFrame_128 ?_
        obtain ⟨y38, ey38, hf⟩ := bd_inv hf
        refine s_nmi ey38 ?_
        obtain ⟨sc39, esc39, hf⟩ := bd_inv hf
        refine pf_66 C x1 (wC_0 g1) (vp_nar_int _) rfl (Nat.le_of_ble_eq_true rfl) (wC G ad nb X sc39 ar36 fr37) (wC_s0_9 g1 esc39) dX2_layOneFrame_129 ?_
        refine s_goto C 169 dX2_layOneFrame_132 (by decide) ?_
        exact rC_V hf hret dX2_layOneFrame_169
    · rw [if_pos c3] at hf
      refine s_aload_n C 0 dX2_layOneFrame_46 rfl ?_
      obtain ⟨g40, hf⟩ := gd_inv hf
      refine gf_153 C x0 (wC_2 g40) rfl dX2_layOneFrame_47 ?_
      refine s_bipush (v := 7) C dX2_layOneFrame_50 (by decide) ?_
      refine s_dup2 C dX2_layOneFrame_52 rfl rfl ?_
      obtain ⟨v41, hkv41, hiv41, ev41, hf⟩ := rdA_inv hf
      refine s_ciald C hkv41 hiv41 dX2_layOneFrame_53 ?_
      refine s_nmi ev41 ?_
      refine s_iconst (v := 1) C dX2_layOneFrame_54 (by decide) ?_
      refine s_iadd C dX2_layOneFrame_55 ?_
      obtain ⟨y42, ey42, hf⟩ := bd_inv hf
      refine s_nmi ey42 ?_
      obtain ⟨ar43, hkar43, hiar43, ear43, hf⟩ := wrA_inv hf
      refine s_ciast C hkar43 hiar43 ear43 dX2_layOneFrame_56 ?_
      refine s_aload_n C 1 dX2_layOneFrame_57 rfl ?_
      refine s_aload_n C 2 dX2_layOneFrame_58 rfl ?_
      refine s_aload_n C 0 dX2_layOneFrame_59 rfl ?_
      refine gf_155 C x0 (wC_2 g40) rfl dX2_layOneFrame_60 ?_
      refine s_aload_n C 0 dX2_layOneFrame_63 rfl ?_
      refine gf_159 C x0 (wC_2 g40) rfl dX2_layOneFrame_64 ?_
      refine s_iadd C dX2_layOneFrame_67 ?_
      obtain ⟨g48, hf⟩ := gd_inv hf
      obtain ⟨r44, sc45, ar46, fr47, er44, hf⟩ := bC_inv hf
      refine s_cV_R (As := [.int ((sc x0 3) + (sc x0 5))]) (rest := [.ref (ad x1)]) (ci := 4) (q := x2) C (c_X4_layOneMore l G A ad X nb x2 ((sc x0 3) + (sc x0 5)) sc ar43 fr _ _ _ _ er44) g_RX2_152 hd_X4_layOneMore rfl ⟨Nat.le_of_ble_eq_true rfl, Nat.le_of_ble_eq_true rfl⟩ rfl (wC_4 g48) rfl (Nat.le_of_ble_eq_true rfl) ⟨Nat.le_of_ble_eq_true rfl, Nat.le_of_ble_eq_true rfl⟩ dX2_layOneFrame_68 ?_
      refine s_iconst (v := 2) C dX2_layOneFrame_71 (by decide) ?_
      obtain ⟨sc50, ar51, fr52, er49, hf⟩ := bCv_inv hf
      refine s_cV_V (As := [.ref (ad r44), .int 2]) (rest := []) (ci := 0) (q := x1) C (c_X0_writeWord l G A ad X nb x1 r44 2 sc45 ar46 fr47 _ _ _ er49) g_RX2_155 hd_X0_writeWord rfl ⟨Nat.le_of_ble_eq_true rfl, Nat.le_of_ble_eq_true rfl⟩ rfl (wC_0 g1) rfl (Nat.le_of_ble_eq_true rfl) ⟨Nat.le_of_ble_eq_true rfl, Nat.le_of_ble_eq_true rfl⟩ dX2_layOneFrame_72 ?_
      refine s_goto C 169 dX2_layOneFrame_75 (by decide) ?_
      exact rC_V hf hret dX2_layOneFrame_169
  · rw [if_neg c2] at hf
    refine s_aload_n C 0 dX2_layOneFrame_7 rfl ?_
    obtain ⟨g53, hf⟩ := gd_inv hf
    refine gf_153 C x0 (wC_2 g53) rfl dX2_layOneFrame_8 ?_
    refine s_bipush (v := 8) C dX2_layOneFrame_11 (by decide) ?_
    refine s_dup2 C dX2_layOneFrame_13 rfl rfl ?_
    obtain ⟨v54, hkv54, hiv54, ev54, hf⟩ := rdA_inv hf
    refine s_ciald C hkv54 hiv54 dX2_layOneFrame_14 ?_
    refine s_nmi ev54 ?_
    refine s_iconst (v := 1) C dX2_layOneFrame_15 (by decide) ?_
    refine s_iadd C dX2_layOneFrame_16 ?_
    obtain ⟨y55, ey55, hf⟩ := bd_inv hf
    refine s_nmi ey55 ?_
    obtain ⟨ar56, hkar56, hiar56, ear56, hf⟩ := wrA_inv hf
    refine s_ciast C hkar56 hiar56 ear56 dX2_layOneFrame_17 ?_
    refine s_aload_n C 1 dX2_layOneFrame_18 rfl ?_
    refine s_aload_n C 2 dX2_layOneFrame_19 rfl ?_
    refine s_aload_n C 0 dX2_layOneFrame_20 rfl ?_
    refine gf_155 C x0 (wC_2 g53) rfl dX2_layOneFrame_21 ?_
    refine s_aload_n C 0 dX2_layOneFrame_24 rfl ?_
    refine gf_159 C x0 (wC_2 g53) rfl dX2_layOneFrame_25 ?_
    refine s_iadd C dX2_layOneFrame_28 ?_
    obtain ⟨g61, hf⟩ := gd_inv hf
    obtain ⟨r57, sc58, ar59, fr60, er57, hf⟩ := bC_inv hf
    refine s_cV_R (As := [.int ((sc x0 3) + (sc x0 5))]) (rest := [.ref (ad x1)]) (ci := 4) (q := x2) C (c_X4_layOneMore l G A ad X nb x2 ((sc x0 3) + (sc x0 5)) sc ar56 fr _ _ _ _ er57) g_RX2_152 hd_X4_layOneMore rfl ⟨Nat.le_of_ble_eq_true rfl, Nat.le_of_ble_eq_true rfl⟩ rfl (wC_4 g61) rfl (Nat.le_of_ble_eq_true rfl) ⟨Nat.le_of_ble_eq_true rfl, Nat.le_of_ble_eq_true rfl⟩ dX2_layOneFrame_29 ?_
    refine s_iconst (v := 3) C dX2_layOneFrame_32 (by decide) ?_
    obtain ⟨sc63, ar64, fr65, er62, hf⟩ := bCv_inv hf
    refine s_cV_V (As := [.ref (ad r57), .int 3]) (rest := []) (ci := 0) (q := x1) C (c_X0_writeWord l G A ad X nb x1 r57 3 sc58 ar59 fr60 _ _ _ er62) g_RX2_155 hd_X0_writeWord rfl ⟨Nat.le_of_ble_eq_true rfl, Nat.le_of_ble_eq_true rfl⟩ rfl (wC_0 g1) rfl (Nat.le_of_ble_eq_true rfl) ⟨Nat.le_of_ble_eq_true rfl, Nat.le_of_ble_eq_true rfl⟩ dX2_layOneFrame_33 ?_
    refine s_goto C 169 dX2_layOneFrame_36 (by decide) ?_
    exact rC_V hf hret dX2_layOneFrame_169
theorem c_X2_layOneFrame (l : Launch) (G : GG) (A : Nat → Prop) (ad : Nat → Nat) (X : va_W) (nb : Nat) (x0 : Nat) (x1 : Nat) (x2 : Nat) (sc : Nat → Nat → Int32) (ar : Nat → Nat → Int32) (fr : Nat → Nat → Nat) (sc0 : Nat → Nat → Int32) (ar0 : Nat → Nat → Int32) (fr0 : Nat → Nat → Nat) (hf : f_X2_layOneFrame nb x0 x1 x2 sc ar fr = some (sc0, ar0, fr0)) : MV l yX2_layOneFrame cX2_layOneFrame 3 ({ frames := 4, cells := 0, slots := 0, locals := 104 } : Room) G A (wC G ad nb X sc ar fr) [.ref (ad x0), .ref (ad x1), .ref (ad x2)] (wC G ad nb X sc0 ar0 fr0) :=
  e_V (by decide) (Nat.le_of_ble_eq_true rfl) (fun Γ C hret => k_X2_layOneFrame C _ _ _ _ _ _ _ _ _ _ _ _ hf hret)
def f_X2_passTick_104 (nb : Nat)  : Nat → Nat → Int32 → Int32 → (Nat → Nat → Int32) → (Nat → Nat → Int32) → (Nat → Nat → Nat) → Option (Int32 × (Nat → Nat → Int32) × (Nat → Nat → Int32) × (Nat → Nat → Nat))
  | 0, _, _, _, _, _, _ => none
  | fu + 1, x0, x2, x3, sc, ar, fr =>
    if 2 ≤ x3 then (some (x2, sc, ar, fr))
    else (gd (pk nb 2 x0) <|
    if (sc x0 4) = 0 then (rdR nb 9 2 (x0 + 1) x3 ((x0 + 1) + 1 + 8 * (x3 : Int32).toNatClampNeg) fun p31 =>
    rdR nb 12 2 (x0 + 18) x3 ((x0 + 18) + 1 + 26 * (x3 : Int32).toNatClampNeg) fun p32 =>
    bCv (f_X2_layOneFrame nb x0 p31 p32 sc ar fr) fun sc34 ar35 fr36 =>
    bd (x3 + 1) fun y37 =>
    f_X2_passTick_104 nb fu x0 x2 y37 sc34 ar35 fr36)
    else (some (x2, sc, ar, fr)))
def f_X2_passTick_81 (nb : Nat)  : Nat → Nat → Int32 → Int32 → (Nat → Nat → Int32) → (Nat → Nat → Int32) → (Nat → Nat → Nat) → Option (Int32 × (Nat → Nat → Int32) × (Nat → Nat → Int32) × (Nat → Nat → Nat))
  | 0, _, _, _, _, _, _ => none
  | fu + 1, x0, x2, x3, sc, ar, fr =>
    if 2 ≤ x3 then (f_X2_passTick_104 nb FU x0 x2 0 sc ar fr)
    else (gd (pk nb 2 x0) <|
    rdR nb 9 2 (x0 + 1) x3 ((x0 + 1) + 1 + 8 * (x3 : Int32).toNatClampNeg) fun p22 =>
    bCv (f_X2_runTimers nb x0 p22 sc ar fr) fun sc24 ar25 fr26 =>
    bd (x3 + 1) fun y27 =>
    f_X2_passTick_81 nb fu x0 x2 y27 sc24 ar25 fr26)
def f_X2_passTick_41 (nb : Nat)  : Nat → Nat → Int32 → Int32 → Int32 → (Nat → Nat → Int32) → (Nat → Nat → Int32) → (Nat → Nat → Nat) → Option (Int32 × (Nat → Nat → Int32) × (Nat → Nat → Int32) × (Nat → Nat → Nat))
  | 0, _, _, _, _, _, _, _ => none
  | fu + 1, x0, x1, x2, x3, sc, ar, fr =>
    if 2 ≤ x3 then (if x1 = 0 then (f_X2_passTick_81 nb FU x0 x2 0 sc ar fr)
    else (some (x2, sc, ar, fr)))
    else (gd (pk nb 2 x0) <|
    rdR nb 12 2 (x0 + 18) x3 ((x0 + 18) + 1 + 26 * (x3 : Int32).toNatClampNeg) fun p12 =>
    rdR nb 9 2 (x0 + 1) (1 - x3) ((x0 + 1) + 1 + 8 * ((1 - x3) : Int32).toNatClampNeg) fun p13 =>
    bC (f_X2_receive nb x0 p12 p13 sc ar fr) fun r14 sc15 ar16 fr17 =>
    bd ((x2 + r14)) fun y18 =>
    bd (x3 + 1) fun y19 =>
    f_X2_passTick_41 nb fu x0 x1 y18 y19 sc15 ar16 fr17)
def f_X2_passTick_37 (nb : Nat)  (x0 : Nat) (x1 : Int32) (sc : Nat → Nat → Int32) (ar : Nat → Nat → Int32) (fr : Nat → Nat → Nat) : Option (Int32 × (Nat → Nat → Int32) × (Nat → Nat → Int32) × (Nat → Nat → Nat)) :=
  f_X2_passTick_41 nb FU x0 x1 0 0 sc ar fr
def f_X2_passTick_22 (nb : Nat)  (x0 : Nat) (s0 : Int32) (sc : Nat → Nat → Int32) (ar : Nat → Nat → Int32) (fr : Nat → Nat → Nat) : Option (Int32 × (Nat → Nat → Int32) × (Nat → Nat → Int32) × (Nat → Nat → Nat)) :=
  if s0 = 0 then (f_X2_passTick_37 nb x0 s0 sc ar fr)
  else (gd (pk nb 2 x0) <|
  bd (((sc x0 4) - 1)) fun y7 =>
  bd (up2 sc x0 4 y7) fun sc8 =>
  f_X2_passTick_37 nb x0 s0 sc8 ar fr)
def f_X2_passTick (nb : Nat) (x0 : Nat) (sc : Nat → Nat → Int32) (ar : Nat → Nat → Int32) (fr : Nat → Nat → Nat) : Option (Int32 × (Nat → Nat → Int32) × (Nat → Nat → Int32) × (Nat → Nat → Nat)) :=
  gd (pk nb 2 x0) <|
  bd (((sc x0 3) + 1)) fun y2 =>
  bd (up2 sc x0 3 y2) fun sc3 =>
  if (sc3 x0 4) ≤ 0 then (f_X2_passTick_22 nb x0 0 sc3 ar fr)
  else (f_X2_passTick_22 nb x0 1 sc3 ar fr)
set_option maxHeartbeats 4000000 in
set_option maxRecDepth 100000 in
theorem k_X2_passTick {l : Launch} {G : GG} {A : Nat → Prop} {Γ : Cx} (C : CX G A Γ cX2_passTick RX2 ({ frames := 6, cells := 0, slots := 0, locals := 133 } : Room) 4) (ad : Nat → Nat) (X : va_W) (nb : Nat) (x0 : Nat) (sc : Nat → Nat → Int32) (ar : Nat → Nat → Int32) (fr : Nat → Nat → Nat) (r0 : Int32) (sc0 : Nat → Nat → Int32) (ar0 : Nat → Nat → Int32) (fr0 : Nat → Nat → Nat) (hf : f_X2_passTick nb x0 sc ar fr = some (r0, sc0, ar0, fr0)) (hret : ∀ (pc : Nat) (lv : List (Nat × Value)), decode cX2_passTick pc = .ok (.ireturn, 1) → narrow .int (.int r0) = .int r0 → St l G A Γ 0 0 (wC G ad nb X sc0 ar0 fr0) pc lv [.int r0]) : St l G A Γ 0 0 (wC G ad nb X sc ar fr) 0 [(0, .ref (ad x0))] [] := by
  have B_104 : ∀  (fu : Nat) (x0 : Nat) (x2 : Int32) (x3 : Int32) (sc : Nat → Nat → Int32) (ar : Nat → Nat → Int32) (fr : Nat → Nat → Nat), f_X2_passTick_104 nb fu x0 x2 x3 sc ar fr = some (r0, sc0, ar0, fr0) → St l G A Γ 0 0 (wC G ad nb X sc ar fr) 104 [(0, .ref (ad x0)), (2, .int x2), (3, .int x3)] [] := by
    intro fu
    induction fu with
    | zero => intro x0 x2 x3 sc ar fr hf ; rw [f_X2_passTick_104] at hf; cases hf
    | succ fu ih =>
      intro x0 x2 x3 sc ar fr hf 
      rw [f_X2_passTick_104] at hf
      refine s_iload_n C 2 dX2_passTick_104 rfl ?_
      refine s_iconst (v := 2) C dX2_passTick_105 (by decide) ?_
      refine s_icmp_ge C 138 dX2_passTick_106 (by decide) (fun c28 => ?_) (fun c28 => ?_)
      · rw [if_pos c28] at hf
        refine s_iload_n C 1 dX2_passTick_138 rfl ?_
        exact rC_I hf (vp_nar_int _) hret dX2_passTick_139
      · rw [if_neg c28] at hf
        refine s_aload_n C 0 dX2_passTick_109 rfl ?_
        obtain ⟨g29, hf⟩ := gd_inv hf
        refine gf_157 C x0 (wC_2 g29) rfl dX2_passTick_110 ?_
        refine s_if_ne C 138 dX2_passTick_113 (by decide) (fun c30 => ?_) (fun c30 => ?_)
        · rw [if_neg c30] at hf
          refine s_iload_n C 1 dX2_passTick_138 rfl ?_
          exact rC_I hf (vp_nar_int _) hret dX2_passTick_139
        · rw [if_pos c30] at hf
          refine s_aload_n C 0 dX2_passTick_116 rfl ?_
          refine s_aload_n C 0 dX2_passTick_117 rfl ?_
          refine gf_149 C x0 (wC_2 g29) rfl dX2_passTick_118 ?_
          refine s_iload_n C 2 dX2_passTick_121 rfl ?_
          obtain ⟨p31, hkp31, hip31, ep31, hf⟩ := rdR_inv hf
          refine s_aald9 C hkp31 hip31 dX2_passTick_122 ?_
          refine s_nmr ep31 ?_
          refine s_aload_n C 0 dX2_passTick_123 rfl ?_
          refine gf_151 C x0 (wC_2 g29) rfl dX2_passTick_124 ?_
          refine s_iload_n C 2 dX2_passTick_127 rfl ?_
          obtain ⟨p32, hkp32, hip32, ep32, hf⟩ := rdR_inv hf
          refine s_aald12 C hkp32 hip32 dX2_passTick_128 ?_
          refine s_nmr ep32 ?_
          obtain ⟨sc34, ar35, fr36, er33, hf⟩ := bCv_inv hf
          refine s_cV_V (As := [.ref (ad p31), .ref (ad p32)]) (rest := []) (ci := 2) (q := x0) C (c_X2_layOneFrame l G A ad X nb x0 p31 p32 sc ar fr _ _ _ er33) g_RX2_53 hd_X2_layOneFrame rfl ⟨Nat.le_of_ble_eq_true rfl, Nat.le_of_ble_eq_true rfl⟩ rfl (wC_2 g29) rfl (Nat.le_of_ble_eq_true rfl) ⟨Nat.le_of_ble_eq_true rfl, Nat.le_of_ble_eq_true rfl⟩ dX2_passTick_129 ?_
          obtain ⟨y37, ey37, hf⟩ := bd_inv hf
          refine s_iinc (v := y37) C 2 [(3, .int y37), (0, .ref (ad x0)), (2, .int x2)] dX2_passTick_132 rfl (by rw [ey37]; rfl) (by decide) rfl ?_
          refine s_goto C 104 dX2_passTick_135 (by decide) ?_
          refine s_lv [1, 2, 0] rfl ?_
          exact ih _ _ _ _ _ _ hf
  have B_81 : ∀  (fu : Nat) (x0 : Nat) (x2 : Int32) (x3 : Int32) (sc : Nat → Nat → Int32) (ar : Nat → Nat → Int32) (fr : Nat → Nat → Nat), f_X2_passTick_81 nb fu x0 x2 x3 sc ar fr = some (r0, sc0, ar0, fr0) → St l G A Γ 0 0 (wC G ad nb X sc ar fr) 81 [(0, .ref (ad x0)), (2, .int x2), (3, .int x3)] [] := by
    intro fu
    induction fu with
    | zero => intro x0 x2 x3 sc ar fr hf ; rw [f_X2_passTick_81] at hf; cases hf
    | succ fu ih =>
      intro x0 x2 x3 sc ar fr hf 
      rw [f_X2_passTick_81] at hf
      refine s_iload_n C 2 dX2_passTick_81 rfl ?_
      refine s_iconst (v := 2) C dX2_passTick_82 (by decide) ?_
      refine s_icmp_ge C 102 dX2_passTick_83 (by decide) (fun c20 => ?_) (fun c20 => ?_)
      · rw [if_pos c20] at hf
        refine s_iconst (v := 0) C dX2_passTick_102 (by decide) ?_
        refine s_istore_n C [(3, .int 0), (0, .ref (ad x0)), (2, .int x2)] dX2_passTick_103 (by decide) rfl ?_
        refine s_lv [1, 2, 0] rfl ?_
        exact B_104 _ _ _ _ _ _ _ hf
      · rw [if_neg c20] at hf
        refine s_aload_n C 0 dX2_passTick_86 rfl ?_
        refine s_aload_n C 0 dX2_passTick_87 rfl ?_
        obtain ⟨g21, hf⟩ := gd_inv hf
        refine gf_149 C x0 (wC_2 g21) rfl dX2_passTick_88 ?_
        refine s_iload_n C 2 dX2_passTick_91 rfl ?_
        obtain ⟨p22, hkp22, hip22, ep22, hf⟩ := rdR_inv hf
        refine s_aald9 C hkp22 hip22 dX2_passTick_92 ?_
        refine s_nmr ep22 ?_
        obtain ⟨sc24, ar25, fr26, er23, hf⟩ := bCv_inv hf
        refine s_cV_V (As := [.ref (ad p22)]) (rest := []) (ci := 2) (q := x0) C (c_X2_runTimers l G A ad X nb x0 p22 sc ar fr _ _ _ er23) g_RX2_49 hd_X2_runTimers rfl ⟨Nat.le_of_ble_eq_true rfl, Nat.le_of_ble_eq_true rfl⟩ rfl (wC_2 g21) rfl (Nat.le_of_ble_eq_true rfl) ⟨Nat.le_of_ble_eq_true rfl, Nat.le_of_ble_eq_true rfl⟩ dX2_passTick_93 ?_
        obtain ⟨y27, ey27, hf⟩ := bd_inv hf
        refine s_iinc (v := y27) C 2 [(3, .int y27), (0, .ref (ad x0)), (2, .int x2)] dX2_passTick_96 rfl (by rw [ey27]; rfl) (by decide) rfl ?_
        refine s_goto C 81 dX2_passTick_99 (by decide) ?_
        refine s_lv [1, 2, 0] rfl ?_
        exact ih _ _ _ _ _ _ hf
  have B_41 : ∀  (fu : Nat) (x0 : Nat) (x1 : Int32) (x2 : Int32) (x3 : Int32) (sc : Nat → Nat → Int32) (ar : Nat → Nat → Int32) (fr : Nat → Nat → Nat), f_X2_passTick_41 nb fu x0 x1 x2 x3 sc ar fr = some (r0, sc0, ar0, fr0) → St l G A Γ 0 0 (wC G ad nb X sc ar fr) 41 [(0, .ref (ad x0)), (1, .int x1), (2, .int x2), (3, .int x3)] [] := by
    intro fu
    induction fu with
    | zero => intro x0 x1 x2 x3 sc ar fr hf ; rw [f_X2_passTick_41] at hf; cases hf
    | succ fu ih =>
      intro x0 x1 x2 x3 sc ar fr hf 
      rw [f_X2_passTick_41] at hf
      refine s_iload_n C 3 dX2_passTick_41 rfl ?_
      refine s_iconst (v := 2) C dX2_passTick_42 (by decide) ?_
      refine s_icmp_ge C 73 dX2_passTick_43 (by decide) (fun c9 => ?_) (fun c9 => ?_)
      · rw [if_pos c9] at hf
        refine s_iload_n C 1 dX2_passTick_73 rfl ?_
        refine s_if_eq C 79 dX2_passTick_74 (by decide) (fun c10 => ?_) (fun c10 => ?_)
        · rw [if_pos c10] at hf
          refine s_iconst (v := 0) C dX2_passTick_79 (by decide) ?_
          refine s_istore_n C [(3, .int 0), (0, .ref (ad x0)), (1, .int x1), (2, .int x2)] dX2_passTick_80 (by decide) rfl ?_
          refine s_lv [1, 3, 0] rfl ?_
          exact B_81 _ _ _ _ _ _ _ hf
        · rw [if_neg c10] at hf
          refine s_iload_n C 2 dX2_passTick_77 rfl ?_
          exact rC_I hf (vp_nar_int _) hret dX2_passTick_78
      · rw [if_neg c9] at hf
        refine s_iload_n C 2 dX2_passTick_46 rfl ?_
        refine s_aload_n C 0 dX2_passTick_47 rfl ?_
        refine s_aload_n C 0 dX2_passTick_48 rfl ?_
        obtain ⟨g11, hf⟩ := gd_inv hf
        refine gf_151 C x0 (wC_2 g11) rfl dX2_passTick_49 ?_
        refine s_iload_n C 3 dX2_passTick_52 rfl ?_
        obtain ⟨p12, hkp12, hip12, ep12, hf⟩ := rdR_inv hf
        refine s_aald12 C hkp12 hip12 dX2_passTick_53 ?_
        refine s_nmr ep12 ?_
        refine s_aload_n C 0 dX2_passTick_54 rfl ?_
        refine gf_149 C x0 (wC_2 g11) rfl dX2_passTick_55 ?_
        refine s_iconst (v := 1) C dX2_passTick_58 (by decide) ?_
        refine s_iload_n C 3 dX2_passTick_59 rfl ?_
        refine s_isub C dX2_passTick_60 ?_
        obtain ⟨p13, hkp13, hip13, ep13, hf⟩ := rdR_inv hf
        refine s_aald9 C hkp13 hip13 dX2_passTick_61 ?_
        refine s_nmr ep13 ?_
        obtain ⟨r14, sc15, ar16, fr17, er14, hf⟩ := bC_inv hf
        refine s_cV_I (As := [.ref (ad p12), .ref (ad p13)]) (rest := [.int x2]) (ci := 2) (q := x0) C (c_X2_receive l G A ad X nb x0 p12 p13 sc ar fr _ _ _ _ er14) g_RX2_45 hd_X2_receive rfl ⟨Nat.le_of_ble_eq_true rfl, Nat.le_of_ble_eq_true rfl⟩ rfl (wC_2 g11) rfl (Nat.le_of_ble_eq_true rfl) ⟨Nat.le_of_ble_eq_true rfl, Nat.le_of_ble_eq_true rfl⟩ dX2_passTick_62 ?_
        refine s_iadd C dX2_passTick_65 ?_
        obtain ⟨y18, ey18, hf⟩ := bd_inv hf
        refine s_nmi ey18 ?_
        refine s_istore_n C [(2, .int y18), (0, .ref (ad x0)), (1, .int x1), (3, .int x3)] dX2_passTick_66 (by decide) rfl ?_
        obtain ⟨y19, ey19, hf⟩ := bd_inv hf
        refine s_iinc (v := y19) C 3 [(3, .int y19), (2, .int y18), (0, .ref (ad x0)), (1, .int x1)] dX2_passTick_67 rfl (by rw [ey19]; rfl) (by decide) rfl ?_
        refine s_goto C 41 dX2_passTick_70 (by decide) ?_
        refine s_lv [2, 3, 1, 0] rfl ?_
        exact ih _ _ _ _ _ _ _ hf
  have B_37 : ∀  (x0 : Nat) (x1 : Int32) (sc : Nat → Nat → Int32) (ar : Nat → Nat → Int32) (fr : Nat → Nat → Nat), f_X2_passTick_37 nb x0 x1 sc ar fr = some (r0, sc0, ar0, fr0) → St l G A Γ 0 0 (wC G ad nb X sc ar fr) 37 [(0, .ref (ad x0)), (1, .int x1)] [] := by
    intro  x0 x1 sc ar fr hf 
    unfold f_X2_passTick_37 at hf
    refine s_iconst (v := 0) C dX2_passTick_37 (by decide) ?_
    refine s_istore_n C [(2, .int 0), (0, .ref (ad x0)), (1, .int x1)] dX2_passTick_38 (by decide) rfl ?_
    refine s_iconst (v := 0) C dX2_passTick_39 (by decide) ?_
    refine s_istore_n C [(3, .int 0), (2, .int 0), (0, .ref (ad x0)), (1, .int x1)] dX2_passTick_40 (by decide) rfl ?_
    refine s_lv [2, 3, 1, 0] rfl ?_
    exact B_41 _ _ _ _ _ _ _ _ hf
  have B_22 : ∀  (x0 : Nat) (s0 : Int32) (sc : Nat → Nat → Int32) (ar : Nat → Nat → Int32) (fr : Nat → Nat → Nat), f_X2_passTick_22 nb x0 s0 sc ar fr = some (r0, sc0, ar0, fr0) → St l G A Γ 0 0 (wC G ad nb X sc ar fr) 22 [(0, .ref (ad x0))] [.int s0] := by
    intro  x0 s0 sc ar fr hf 
    unfold f_X2_passTick_22 at hf
    refine s_istore_n C [(1, .int s0), (0, .ref (ad x0))] dX2_passTick_22 (by decide) rfl ?_
    refine s_iload_n C 0 dX2_passTick_23 rfl ?_
    refine s_if_eq C 37 dX2_passTick_24 (by decide) (fun c5 => ?_) (fun c5 => ?_)
    · rw [if_pos c5] at hf
      refine s_lv [1, 0] rfl ?_
      exact B_37 _ _ _ _ _ hf
    · rw [if_neg c5] at hf
      refine s_aload_n C 1 dX2_passTick_27 rfl ?_
      refine s_dup C dX2_passTick_28 rfl ?_
      obtain ⟨g6, hf⟩ := gd_inv hf
      refine gf_157 C x0 (wC_2 g6) rfl dX2_passTick_29 ?_
      refine s_iconst (v := 1) C dX2_passTick_32 (by decide) ?_
      refine s_isub C dX2_passTick_33 ?_
      obtain ⟨y7, ey7, hf⟩ := bd_inv hf
      refine s_nmi ey7 ?_
      obtain ⟨sc8, esc8, hf⟩ := bd_inv hf
      refine pf_157 C x0 (wC_2 g6) (vp_nar_int _) rfl (Nat.le_of_ble_eq_true rfl) (wC G ad nb X sc8 ar fr) (wC_s2_4 g6 esc8) dX2_passTick_34 ?_
      refine s_lv [1, 0] rfl ?_
      exact B_37 _ _ _ _ _ hf
  unfold f_X2_passTick at hf
  refine s_aload_n C 0 dX2_passTick_0 rfl ?_
  refine s_dup C dX2_passTick_1 rfl ?_
  obtain ⟨g1, hf⟩ := gd_inv hf
  refine gf_155 C x0 (wC_2 g1) rfl dX2_passTick_2 ?_
  refine s_iconst (v := 1) C dX2_passTick_5 (by decide) ?_
  refine s_iadd C dX2_passTick_6 ?_
  obtain ⟨y2, ey2, hf⟩ := bd_inv hf
  refine s_nmi ey2 ?_
  obtain ⟨sc3, esc3, hf⟩ := bd_inv hf
  refine pf_155 C x0 (wC_2 g1) (vp_nar_int _) rfl (Nat.le_of_ble_eq_true rfl) (wC G ad nb X sc3 ar fr) (wC_s2_3 g1 esc3) dX2_passTick_7 ?_
  refine s_aload_n C 0 dX2_passTick_10 rfl ?_
  refine gf_157 C x0 (wC_2 g1) rfl dX2_passTick_11 ?_
  refine s_if_le C 21 dX2_passTick_14 (by decide) (fun c4 => ?_) (fun c4 => ?_)
  · rw [if_pos c4] at hf
    refine s_iconst (v := 0) C dX2_passTick_21 (by decide) ?_
    exact B_22 _ _ _ _ _ hf
  · rw [if_neg c4] at hf
    refine s_iconst (v := 1) C dX2_passTick_17 (by decide) ?_
    refine s_goto C 22 dX2_passTick_18 (by decide) ?_
    exact B_22 _ _ _ _ _ hf
theorem c_X2_passTick (l : Launch) (G : GG) (A : Nat → Prop) (ad : Nat → Nat) (X : va_W) (nb : Nat) (x0 : Nat) (sc : Nat → Nat → Int32) (ar : Nat → Nat → Int32) (fr : Nat → Nat → Nat) (r0 : Int32) (sc0 : Nat → Nat → Int32) (ar0 : Nat → Nat → Int32) (fr0 : Nat → Nat → Nat) (hf : f_X2_passTick nb x0 sc ar fr = some (r0, sc0, ar0, fr0)) : MI l yX2_passTick cX2_passTick 4 .int ({ frames := 6, cells := 0, slots := 0, locals := 133 } : Room) G A (wC G ad nb X sc ar fr) [.ref (ad x0)] r0 (wC G ad nb X sc0 ar0 fr0) :=
  e_I (by decide) (Nat.le_of_ble_eq_true rfl) (fun Γ C hret => k_X2_passTick C _ _ _ _ _ _ _ _ _ _ _ hf hret)
def f_X2_isQuiet (nb : Nat) (x0 : Nat) (sc : Nat → Nat → Int32) (ar : Nat → Nat → Int32) (fr : Nat → Nat → Nat) : Option (Int32 × (Nat → Nat → Int32) × (Nat → Nat → Int32) × (Nat → Nat → Nat)) :=
  gd (pk nb 2 x0) <|
  if (sc x0 4) = 0 then (rdR nb 12 2 (x0 + 18) 0 ((x0 + 18) + 1 + 26 * (0 : Int32).toNatClampNeg) fun p3 =>
  gd (pk nb 4 p3) <|
  if (sc p3 1) = 0 then (rdR nb 12 2 (x0 + 18) 1 ((x0 + 18) + 1 + 26 * (1 : Int32).toNatClampNeg) fun p6 =>
  gd (pk nb 4 p6) <|
  if (sc p6 1) = 0 then (rdR nb 9 2 (x0 + 1) 0 ((x0 + 1) + 1 + 8 * (0 : Int32).toNatClampNeg) fun p9 =>
  gd (pk nb 0 p9) <|
  bC (f_X0_isQuiet nb p9 sc ar fr) fun r10 sc11 ar12 fr13 =>
  if r10 = 0 then (some (0, sc11, ar12, fr13))
  else (rdR nb 9 2 (x0 + 1) 1 ((x0 + 1) + 1 + 8 * (1 : Int32).toNatClampNeg) fun p16 =>
  gd (pk nb 0 p16) <|
  bC (f_X0_isQuiet nb p16 sc11 ar12 fr13) fun r17 sc18 ar19 fr20 =>
  if r17 = 0 then (some (0, sc18, ar19, fr20))
  else (some (1, sc18, ar19, fr20))))
  else (some (0, sc, ar, fr)))
  else (some (0, sc, ar, fr)))
  else (some (0, sc, ar, fr))
set_option maxHeartbeats 4000000 in
set_option maxRecDepth 100000 in
theorem k_X2_isQuiet {l : Launch} {G : GG} {A : Nat → Prop} {Γ : Cx} (C : CX G A Γ cX2_isQuiet RX2 ({ frames := 2, cells := 0, slots := 0, locals := 40 } : Room) 1) (ad : Nat → Nat) (X : va_W) (nb : Nat) (x0 : Nat) (sc : Nat → Nat → Int32) (ar : Nat → Nat → Int32) (fr : Nat → Nat → Nat) (r0 : Int32) (sc0 : Nat → Nat → Int32) (ar0 : Nat → Nat → Int32) (fr0 : Nat → Nat → Nat) (hf : f_X2_isQuiet nb x0 sc ar fr = some (r0, sc0, ar0, fr0)) (hret : ∀ (pc : Nat) (lv : List (Nat × Value)), decode cX2_isQuiet pc = .ok (.ireturn, 1) → narrow .boolean (.int r0) = .int r0 → St l G A Γ 0 0 (wC G ad nb X sc0 ar0 fr0) pc lv [.int r0]) : St l G A Γ 0 0 (wC G ad nb X sc ar fr) 0 [(0, .ref (ad x0))] [] := by
  unfold f_X2_isQuiet at hf
  refine s_aload_n C 0 dX2_isQuiet_0 rfl ?_
  obtain ⟨g1, hf⟩ := gd_inv hf
  refine gf_157 C x0 (wC_2 g1) rfl dX2_isQuiet_1 ?_
  refine s_if_ne C 59 dX2_isQuiet_4 (by decide) (fun c2 => ?_) (fun c2 => ?_)
  · rw [if_neg c2] at hf
    refine s_iconst (v := 0) C dX2_isQuiet_59 (by decide) ?_
    exact rC_I hf rfl hret dX2_isQuiet_60
  · rw [if_pos c2] at hf
    refine s_aload_n C 0 dX2_isQuiet_7 rfl ?_
    refine gf_151 C x0 (wC_2 g1) rfl dX2_isQuiet_8 ?_
    refine s_iconst (v := 0) C dX2_isQuiet_11 (by decide) ?_
    obtain ⟨p3, hkp3, hip3, ep3, hf⟩ := rdR_inv hf
    refine s_aald12 C hkp3 hip3 dX2_isQuiet_12 ?_
    refine s_nmr ep3 ?_
    obtain ⟨g4, hf⟩ := gd_inv hf
    refine gf_142 C p3 (wC_4 g4) rfl dX2_isQuiet_13 ?_
    refine s_if_ne C 59 dX2_isQuiet_16 (by decide) (fun c5 => ?_) (fun c5 => ?_)
    · rw [if_neg c5] at hf
      refine s_iconst (v := 0) C dX2_isQuiet_59 (by decide) ?_
      exact rC_I hf rfl hret dX2_isQuiet_60
    · rw [if_pos c5] at hf
      refine s_aload_n C 0 dX2_isQuiet_19 rfl ?_
      refine gf_151 C x0 (wC_2 g1) rfl dX2_isQuiet_20 ?_
      refine s_iconst (v := 1) C dX2_isQuiet_23 (by decide) ?_
      obtain ⟨p6, hkp6, hip6, ep6, hf⟩ := rdR_inv hf
      refine s_aald12 C hkp6 hip6 dX2_isQuiet_24 ?_
      refine s_nmr ep6 ?_
      obtain ⟨g7, hf⟩ := gd_inv hf
      refine gf_142 C p6 (wC_4 g7) rfl dX2_isQuiet_25 ?_
      refine s_if_ne C 59 dX2_isQuiet_28 (by decide) (fun c8 => ?_) (fun c8 => ?_)
      · rw [if_neg c8] at hf
        refine s_iconst (v := 0) C dX2_isQuiet_59 (by decide) ?_
        exact rC_I hf rfl hret dX2_isQuiet_60
      · rw [if_pos c8] at hf
        refine s_aload_n C 0 dX2_isQuiet_31 rfl ?_
        refine gf_149 C x0 (wC_2 g1) rfl dX2_isQuiet_32 ?_
        refine s_iconst (v := 0) C dX2_isQuiet_35 (by decide) ?_
        obtain ⟨p9, hkp9, hip9, ep9, hf⟩ := rdR_inv hf
        refine s_aald9 C hkp9 hip9 dX2_isQuiet_36 ?_
        refine s_nmr ep9 ?_
        obtain ⟨g14, hf⟩ := gd_inv hf
        obtain ⟨r10, sc11, ar12, fr13, er10, hf⟩ := bC_inv hf
        refine s_cV_I (As := []) (rest := []) (ci := 0) (q := p9) C (c_X0_isQuiet l G A ad X nb p9 sc ar fr _ _ _ _ er10) g_RX2_60 hd_X0_isQuiet rfl ⟨Nat.le_of_ble_eq_true rfl, Nat.le_of_ble_eq_true rfl⟩ rfl (wC_0 g14) rfl (Nat.le_of_ble_eq_true rfl) ⟨Nat.le_of_ble_eq_true rfl, Nat.le_of_ble_eq_true rfl⟩ dX2_isQuiet_37 ?_
        refine s_if_eq C 59 dX2_isQuiet_40 (by decide) (fun c15 => ?_) (fun c15 => ?_)
        · rw [if_pos c15] at hf
          refine s_iconst (v := 0) C dX2_isQuiet_59 (by decide) ?_
          exact rC_I hf rfl hret dX2_isQuiet_60
        · rw [if_neg c15] at hf
          refine s_aload_n C 0 dX2_isQuiet_43 rfl ?_
          refine gf_149 C x0 (wC_2 g1) rfl dX2_isQuiet_44 ?_
          refine s_iconst (v := 1) C dX2_isQuiet_47 (by decide) ?_
          obtain ⟨p16, hkp16, hip16, ep16, hf⟩ := rdR_inv hf
          refine s_aald9 C hkp16 hip16 dX2_isQuiet_48 ?_
          refine s_nmr ep16 ?_
          obtain ⟨g21, hf⟩ := gd_inv hf
          obtain ⟨r17, sc18, ar19, fr20, er17, hf⟩ := bC_inv hf
          refine s_cV_I (As := []) (rest := []) (ci := 0) (q := p16) C (c_X0_isQuiet l G A ad X nb p16 sc11 ar12 fr13 _ _ _ _ er17) g_RX2_60 hd_X0_isQuiet rfl ⟨Nat.le_of_ble_eq_true rfl, Nat.le_of_ble_eq_true rfl⟩ rfl (wC_0 g21) rfl (Nat.le_of_ble_eq_true rfl) ⟨Nat.le_of_ble_eq_true rfl, Nat.le_of_ble_eq_true rfl⟩ dX2_isQuiet_49 ?_
          refine s_if_eq C 59 dX2_isQuiet_52 (by decide) (fun c22 => ?_) (fun c22 => ?_)
          · rw [if_pos c22] at hf
            refine s_iconst (v := 0) C dX2_isQuiet_59 (by decide) ?_
            exact rC_I hf rfl hret dX2_isQuiet_60
          · rw [if_neg c22] at hf
            refine s_iconst (v := 1) C dX2_isQuiet_55 (by decide) ?_
            refine s_goto C 60 dX2_isQuiet_56 (by decide) ?_
            exact rC_I hf rfl hret dX2_isQuiet_60
theorem c_X2_isQuiet (l : Launch) (G : GG) (A : Nat → Prop) (ad : Nat → Nat) (X : va_W) (nb : Nat) (x0 : Nat) (sc : Nat → Nat → Int32) (ar : Nat → Nat → Int32) (fr : Nat → Nat → Nat) (r0 : Int32) (sc0 : Nat → Nat → Int32) (ar0 : Nat → Nat → Int32) (fr0 : Nat → Nat → Nat) (hf : f_X2_isQuiet nb x0 sc ar fr = some (r0, sc0, ar0, fr0)) : MI l yX2_isQuiet cX2_isQuiet 1 .boolean ({ frames := 2, cells := 0, slots := 0, locals := 40 } : Room) G A (wC G ad nb X sc ar fr) [.ref (ad x0)] r0 (wC G ad nb X sc0 ar0 fr0) :=
  e_I (by decide) (Nat.le_of_ble_eq_true rfl) (fun Γ C hret => k_X2_isQuiet C _ _ _ _ _ _ _ _ _ _ _ hf hret)
def f_X2_copyFrom_2 (nb : Nat)  : Nat → Nat → Nat → Int32 → (Nat → Nat → Int32) → (Nat → Nat → Int32) → (Nat → Nat → Nat) → Option ((Nat → Nat → Int32) × (Nat → Nat → Int32) × (Nat → Nat → Nat))
  | 0, _, _, _, _, _, _ => none
  | fu + 1, x0, x1, x2, sc, ar, fr =>
    if 2 ≤ x2 then (gd (pk nb 2 x1) <|
    gd (pk nb 2 x0) <|
    gd (pk nb 7 (x0 + 71)) <|
    cpA nb ar (x1 + 71) 0 (x0 + 71) 0 (nI (lnA (x0 + 71))) fun ar5 =>
    bd ((sc x1 3)) fun y6 =>
    bd (up2 sc x0 3 y6) fun sc7 =>
    bd ((sc7 x1 4)) fun y8 =>
    bd (up2 sc7 x0 4 y8) fun sc9 =>
    bd ((sc9 x1 5)) fun y10 =>
    bd (up2 sc9 x0 5 y10) fun sc11 =>
    bd ((sc11 x1 6)) fun y12 =>
    bd (up2 sc11 x0 6 y12) fun sc13 =>
    bd ((sc13 x1 7)) fun y14 =>
    bd (up2 sc13 x0 7 y14) fun sc15 =>
    some (sc15, ar5, fr))
    else (gd (pk nb 2 x0) <|
    rdR nb 9 2 (x0 + 1) x2 ((x0 + 1) + 1 + 8 * (x2 : Int32).toNatClampNeg) fun p17 =>
    gd (pk nb 2 x1) <|
    rdR nb 9 2 (x1 + 1) x2 ((x1 + 1) + 1 + 8 * (x2 : Int32).toNatClampNeg) fun p19 =>
    gd (pk nb 0 p17) <|
    bCv (f_X0_copyFrom nb p17 p19 sc ar fr) fun sc21 ar22 fr23 =>
    rdR nb 12 2 (x0 + 18) x2 ((x0 + 18) + 1 + 26 * (x2 : Int32).toNatClampNeg) fun p25 =>
    rdR nb 12 2 (x1 + 18) x2 ((x1 + 18) + 1 + 26 * (x2 : Int32).toNatClampNeg) fun p26 =>
    gd (pk nb 4 p25) <|
    bCv (f_X4_copyFrom nb p25 p26 sc21 ar22 fr23) fun sc28 ar29 fr30 =>
    bd (x2 + 1) fun y32 =>
    f_X2_copyFrom_2 nb fu x0 x1 y32 sc28 ar29 fr30)
def f_X2_copyFrom (nb : Nat) (x0 : Nat) (x1 : Nat) (sc : Nat → Nat → Int32) (ar : Nat → Nat → Int32) (fr : Nat → Nat → Nat) : Option ((Nat → Nat → Int32) × (Nat → Nat → Int32) × (Nat → Nat → Nat)) :=
  f_X2_copyFrom_2 nb FU x0 x1 0 sc ar fr
set_option maxHeartbeats 4000000 in
set_option maxRecDepth 100000 in
theorem k_X2_copyFrom {l : Launch} {G : GG} {A : Nat → Prop} {Γ : Cx} (C : CX G A Γ cX2_copyFrom RX2 ({ frames := 3, cells := 0, slots := 0, locals := 61 } : Room) 3) (ad : Nat → Nat) (X : va_W) (nb : Nat) (x0 : Nat) (x1 : Nat) (sc : Nat → Nat → Int32) (ar : Nat → Nat → Int32) (fr : Nat → Nat → Nat) (sc0 : Nat → Nat → Int32) (ar0 : Nat → Nat → Int32) (fr0 : Nat → Nat → Nat) (hf : f_X2_copyFrom nb x0 x1 sc ar fr = some (sc0, ar0, fr0)) (hret : ∀ (pc : Nat) (lv : List (Nat × Value)), decode cX2_copyFrom pc = .ok (.return_, 1) → St l G A Γ 0 0 (wC G ad nb X sc0 ar0 fr0) pc lv []) : St l G A Γ 0 0 (wC G ad nb X sc ar fr) 0 [(0, .ref (ad x0)), (1, .ref (ad x1))] [] := by
  have B_2 : ∀  (fu : Nat) (x0 : Nat) (x1 : Nat) (x2 : Int32) (sc : Nat → Nat → Int32) (ar : Nat → Nat → Int32) (fr : Nat → Nat → Nat), f_X2_copyFrom_2 nb fu x0 x1 x2 sc ar fr = some (sc0, ar0, fr0) → St l G A Γ 0 0 (wC G ad nb X sc ar fr) 2 [(0, .ref (ad x0)), (1, .ref (ad x1)), (2, .int x2)] [] := by
    intro fu
    induction fu with
    | zero => intro x0 x1 x2 sc ar fr hf ; rw [f_X2_copyFrom_2] at hf; cases hf
    | succ fu ih =>
      intro x0 x1 x2 sc ar fr hf 
      rw [f_X2_copyFrom_2] at hf
      refine s_iload_n C 2 dX2_copyFrom_2 rfl ?_
      refine s_iconst (v := 2) C dX2_copyFrom_3 (by decide) ?_
      refine s_icmp_ge C 43 dX2_copyFrom_4 (by decide) (fun c1 => ?_) (fun c1 => ?_)
      · rw [if_pos c1] at hf
        refine s_aload_n C 1 dX2_copyFrom_43 rfl ?_
        obtain ⟨g2, hf⟩ := gd_inv hf
        refine gf_153 C x1 (wC_2 g2) rfl dX2_copyFrom_44 ?_
        refine s_iconst (v := 0) C dX2_copyFrom_47 (by decide) ?_
        refine s_aload_n C 0 dX2_copyFrom_48 rfl ?_
        obtain ⟨g3, hf⟩ := gd_inv hf
        refine gf_153 C x0 (wC_2 g3) rfl dX2_copyFrom_49 ?_
        refine s_iconst (v := 0) C dX2_copyFrom_52 (by decide) ?_
        refine s_aload_n C 0 dX2_copyFrom_53 rfl ?_
        refine gf_153 C x0 (wC_2 g3) rfl dX2_copyFrom_54 ?_
        obtain ⟨g4, hf⟩ := gd_inv hf
        refine s_calen C g4 dX2_copyFrom_57 ?_
        obtain ⟨ar5, hkar5, ear5, hf⟩ := cpA_inv hf
        refine s_copy C tw_494 hkar5 ear5 ⟨Nat.le_of_ble_eq_true rfl, Nat.le_of_ble_eq_true rfl⟩ dX2_copyFrom_58 ?_
        refine s_aload_n C 0 dX2_copyFrom_61 rfl ?_
        refine s_aload_n C 1 dX2_copyFrom_62 rfl ?_
        refine gf_155 C x1 (wC_2 g2) rfl dX2_copyFrom_63 ?_
        obtain ⟨y6, ey6, hf⟩ := bd_inv hf
        refine s_nmi ey6 ?_
        obtain ⟨sc7, esc7, hf⟩ := bd_inv hf
        refine pf_155 C x0 (wC_2 g3) (vp_nar_int _) rfl (Nat.le_of_ble_eq_true rfl) (wC G ad nb X sc7 ar5 fr) (wC_s2_3 g3 esc7) dX2_copyFrom_66 ?_
        refine s_aload_n C 0 dX2_copyFrom_69 rfl ?_
        refine s_aload_n C 1 dX2_copyFrom_70 rfl ?_
        refine gf_157 C x1 (wC_2 g2) rfl dX2_copyFrom_71 ?_
        obtain ⟨y8, ey8, hf⟩ := bd_inv hf
        refine s_nmi ey8 ?_
        obtain ⟨sc9, esc9, hf⟩ := bd_inv hf
        refine pf_157 C x0 (wC_2 g3) (vp_nar_int _) rfl (Nat.le_of_ble_eq_true rfl) (wC G ad nb X sc9 ar5 fr) (wC_s2_4 g3 esc9) dX2_copyFrom_74 ?_
        refine s_aload_n C 0 dX2_copyFrom_77 rfl ?_
        refine s_aload_n C 1 dX2_copyFrom_78 rfl ?_
        refine gf_159 C x1 (wC_2 g2) rfl dX2_copyFrom_79 ?_
        obtain ⟨y10, ey10, hf⟩ := bd_inv hf
        refine s_nmi ey10 ?_
        obtain ⟨sc11, esc11, hf⟩ := bd_inv hf
        refine pf_159 C x0 (wC_2 g3) (vp_nar_int _) rfl (Nat.le_of_ble_eq_true rfl) (wC G ad nb X sc11 ar5 fr) (wC_s2_5 g3 esc11) dX2_copyFrom_82 ?_
        refine s_aload_n C 0 dX2_copyFrom_85 rfl ?_
        refine s_aload_n C 1 dX2_copyFrom_86 rfl ?_
        refine gf_160 C x1 (wC_2 g2) rfl dX2_copyFrom_87 ?_
        obtain ⟨y12, ey12, hf⟩ := bd_inv hf
        refine s_nmi ey12 ?_
        obtain ⟨sc13, esc13, hf⟩ := bd_inv hf
        refine pf_160 C x0 (wC_2 g3) (vp_nar_int _) rfl (Nat.le_of_ble_eq_true rfl) (wC G ad nb X sc13 ar5 fr) (wC_s2_6 g3 esc13) dX2_copyFrom_90 ?_
        refine s_aload_n C 0 dX2_copyFrom_93 rfl ?_
        refine s_aload_n C 1 dX2_copyFrom_94 rfl ?_
        refine gf_161 C x1 (wC_2 g2) rfl dX2_copyFrom_95 ?_
        obtain ⟨y14, ey14, hf⟩ := bd_inv hf
        refine s_nmi ey14 ?_
        obtain ⟨sc15, esc15, hf⟩ := bd_inv hf
        refine pf_161 C x0 (wC_2 g3) (vp_nar_int _) rfl (Nat.le_of_ble_eq_true rfl) (wC G ad nb X sc15 ar5 fr) (wC_s2_7 g3 esc15) dX2_copyFrom_98 ?_
        exact rC_V hf hret dX2_copyFrom_101
      · rw [if_neg c1] at hf
        refine s_aload_n C 0 dX2_copyFrom_7 rfl ?_
        obtain ⟨g16, hf⟩ := gd_inv hf
        refine gf_149 C x0 (wC_2 g16) rfl dX2_copyFrom_8 ?_
        refine s_iload_n C 2 dX2_copyFrom_11 rfl ?_
        obtain ⟨p17, hkp17, hip17, ep17, hf⟩ := rdR_inv hf
        refine s_aald9 C hkp17 hip17 dX2_copyFrom_12 ?_
        refine s_nmr ep17 ?_
        refine s_aload_n C 1 dX2_copyFrom_13 rfl ?_
        obtain ⟨g18, hf⟩ := gd_inv hf
        refine gf_149 C x1 (wC_2 g18) rfl dX2_copyFrom_14 ?_
        refine s_iload_n C 2 dX2_copyFrom_17 rfl ?_
        obtain ⟨p19, hkp19, hip19, ep19, hf⟩ := rdR_inv hf
        refine s_aald9 C hkp19 hip19 dX2_copyFrom_18 ?_
        refine s_nmr ep19 ?_
        obtain ⟨g24, hf⟩ := gd_inv hf
        obtain ⟨sc21, ar22, fr23, er20, hf⟩ := bCv_inv hf
        refine s_cV_V (As := [.ref (ad p19)]) (rest := []) (ci := 0) (q := p17) C (c_X0_copyFrom l G A ad X nb p17 p19 sc ar fr _ _ _ er20) g_RX2_64 hd_X0_copyFrom rfl ⟨Nat.le_of_ble_eq_true rfl, Nat.le_of_ble_eq_true rfl⟩ rfl (wC_0 g24) rfl (Nat.le_of_ble_eq_true rfl) ⟨Nat.le_of_ble_eq_true rfl, Nat.le_of_ble_eq_true rfl⟩ dX2_copyFrom_19 ?_
        refine s_aload_n C 0 dX2_copyFrom_22 rfl ?_
        refine gf_151 C x0 (wC_2 g16) rfl dX2_copyFrom_23 ?_
        refine s_iload_n C 2 dX2_copyFrom_26 rfl ?_
        obtain ⟨p25, hkp25, hip25, ep25, hf⟩ := rdR_inv hf
        refine s_aald12 C hkp25 hip25 dX2_copyFrom_27 ?_
        refine s_nmr ep25 ?_
        refine s_aload_n C 1 dX2_copyFrom_28 rfl ?_
        refine gf_151 C x1 (wC_2 g18) rfl dX2_copyFrom_29 ?_
        refine s_iload_n C 2 dX2_copyFrom_32 rfl ?_
        obtain ⟨p26, hkp26, hip26, ep26, hf⟩ := rdR_inv hf
        refine s_aald12 C hkp26 hip26 dX2_copyFrom_33 ?_
        refine s_nmr ep26 ?_
        obtain ⟨g31, hf⟩ := gd_inv hf
        obtain ⟨sc28, ar29, fr30, er27, hf⟩ := bCv_inv hf
        refine s_cV_V (As := [.ref (ad p26)]) (rest := []) (ci := 4) (q := p25) C (c_X4_copyFrom l G A ad X nb p25 p26 sc21 ar22 fr23 _ _ _ er27) g_RX2_67 hd_X4_copyFrom rfl ⟨Nat.le_of_ble_eq_true rfl, Nat.le_of_ble_eq_true rfl⟩ rfl (wC_4 g31) rfl (Nat.le_of_ble_eq_true rfl) ⟨Nat.le_of_ble_eq_true rfl, Nat.le_of_ble_eq_true rfl⟩ dX2_copyFrom_34 ?_
        obtain ⟨y32, ey32, hf⟩ := bd_inv hf
        refine s_iinc (v := y32) C 2 [(2, .int y32), (0, .ref (ad x0)), (1, .ref (ad x1))] dX2_copyFrom_37 rfl (by rw [ey32]; rfl) (by decide) rfl ?_
        refine s_goto C 2 dX2_copyFrom_40 (by decide) ?_
        refine s_lv [1, 2, 0] rfl ?_
        exact ih _ _ _ _ _ _ hf
  unfold f_X2_copyFrom at hf
  refine s_iconst (v := 0) C dX2_copyFrom_0 (by decide) ?_
  refine s_istore_n C [(2, .int 0), (0, .ref (ad x0)), (1, .ref (ad x1))] dX2_copyFrom_1 (by decide) rfl ?_
  refine s_lv [1, 2, 0] rfl ?_
  exact B_2 _ _ _ _ _ _ _ hf
theorem c_X2_copyFrom (l : Launch) (G : GG) (A : Nat → Prop) (ad : Nat → Nat) (X : va_W) (nb : Nat) (x0 : Nat) (x1 : Nat) (sc : Nat → Nat → Int32) (ar : Nat → Nat → Int32) (fr : Nat → Nat → Nat) (sc0 : Nat → Nat → Int32) (ar0 : Nat → Nat → Int32) (fr0 : Nat → Nat → Nat) (hf : f_X2_copyFrom nb x0 x1 sc ar fr = some (sc0, ar0, fr0)) : MV l yX2_copyFrom cX2_copyFrom 3 ({ frames := 3, cells := 0, slots := 0, locals := 61 } : Room) G A (wC G ad nb X sc ar fr) [.ref (ad x0), .ref (ad x1)] (wC G ad nb X sc0 ar0 fr0) :=
  e_V (by decide) (Nat.le_of_ble_eq_true rfl) (fun Γ C hret => k_X2_copyFrom C _ _ _ _ _ _ _ _ _ _ _ hf hret)
