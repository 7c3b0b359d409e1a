def f_X5_isNoFrame (nb : Nat) (x1 : Int32) (x2 : Int32) (sc : Nat → Nat → Int32) (ar : Nat → Nat → Int32) (fr : Nat → Nat → Nat) : Option (Int32 × (Nat → Nat → Int32) × (Nat → Nat → Int32) × (Nat → Nat → Nat)) :=
  bx (f_X5_isNoSide x1) fun r1 =>
  if r1 = 0 then (if x2 < 0 then (some (1, sc, ar, fr))
  else (gd (pk nb 2 0) <|
  rdR nb 12 2 (0 + 18) x1 ((0 + 18) + 1 + 26 * (x1 : Int32).toNatClampNeg) fun p5 =>
  gd (pk nb 4 p5) <|
  if x2 < (sc p5 1) then (some (0, sc, ar, fr))
  else (some (1, sc, ar, fr))))
  else (some (1, sc, ar, fr))
set_option maxHeartbeats 4000000 in
set_option maxRecDepth 100000 in
theorem k_X5_isNoFrame {l : Launch} {G : GG} {A : Nat → Prop} {Γ : Cx} (C : CX G A Γ cX5_isNoFrame RX5 ({ frames := 1, cells := 0, slots := 0, locals := 20 } : Room) 3) (ad : Nat → Nat) (h : Nat) (a0 : Nat) (X : va_W) (nb : Nat) (x1 : Int32) (x2 : Int32) (sc : Nat → Nat → Int32) (ar : Nat → Nat → Int32) (fr : Nat → Nat → Nat) (r0 : Int32) (sc0 : Nat → Nat → Int32) (ar0 : Nat → Nat → Int32) (fr0 : Nat → Nat → Nat) (hf : f_X5_isNoFrame nb x1 x2 sc ar fr = some (r0, sc0, ar0, fr0)) (hret : ∀ (pc : Nat) (lv : List (Nat × Value)), decode cX5_isNoFrame pc = .ok (.ireturn, 1) → narrow .boolean (.int r0) = .int r0 → St l G A Γ 0 0 (wC G ad nb (xP ad h a0 X) sc0 ar0 fr0) pc lv [.int r0]) : St l G A Γ 0 0 (wC G ad nb (xP ad h a0 X) sc ar fr) 0 [(0, .ref h), (1, .int x1), (2, .int x2)] [] := by
  unfold f_X5_isNoFrame at hf
  refine s_iload_n C 1 dX5_isNoFrame_0 rfl ?_
  obtain ⟨r1, er1, hf⟩ := bx_inv hf
  refine s_cS_I (As := [.int x1]) (rest := []) C (c_X5_isNoSide l G A _ x1 _ er1) g_RX5_20 hd_X5_isNoSide rfl ⟨Nat.le_of_ble_eq_true rfl, Nat.le_of_ble_eq_true rfl⟩ rfl (Nat.le_of_ble_eq_true rfl) ⟨Nat.le_of_ble_eq_true rfl, Nat.le_of_ble_eq_true rfl⟩ dX5_isNoFrame_1 ?_
  refine s_if_ne C 27 dX5_isNoFrame_4 (by decide) (fun c2 => ?_) (fun c2 => ?_)
  · rw [if_neg c2] at hf
    refine s_iconst (v := 1) C dX5_isNoFrame_27 (by decide) ?_
    refine s_goto C 32 dX5_isNoFrame_28 (by decide) ?_
    exact rC_I hf rfl hret dX5_isNoFrame_32
  · rw [if_pos c2] at hf
    refine s_iload_n C 2 dX5_isNoFrame_7 rfl ?_
    refine s_if_lt C 27 dX5_isNoFrame_8 (by decide) (fun c3 => ?_) (fun c3 => ?_)
    · rw [if_pos c3] at hf
      refine s_iconst (v := 1) C dX5_isNoFrame_27 (by decide) ?_
      refine s_goto C 32 dX5_isNoFrame_28 (by decide) ?_
      exact rC_I hf rfl hret dX5_isNoFrame_32
    · rw [if_neg c3] at hf
      refine s_iload_n C 2 dX5_isNoFrame_11 rfl ?_
      refine s_aload_n C 0 dX5_isNoFrame_12 rfl ?_
      refine gf_180 C (72 * nb + 0) (wC_tail 0) rfl dX5_isNoFrame_13 ?_
      obtain ⟨g4, hf⟩ := gd_inv hf
      refine gf_152 C 0 (wC_2 g4) rfl dX5_isNoFrame_16 ?_
      refine s_iload_n C 1 dX5_isNoFrame_19 rfl ?_
      obtain ⟨p5, hkp5, hip5, ep5, hf⟩ := rdR_inv hf
      refine s_aald12 C hkp5 hip5 dX5_isNoFrame_20 ?_
      refine s_nmr ep5 ?_
      obtain ⟨g6, hf⟩ := gd_inv hf
      refine gf_143 C p5 (wC_4 g6) rfl dX5_isNoFrame_21 ?_
      refine s_icmp_lt C 31 dX5_isNoFrame_24 (by decide) (fun c7 => ?_) (fun c7 => ?_)
      · rw [if_pos c7] at hf
        refine s_iconst (v := 0) C dX5_isNoFrame_31 (by decide) ?_
        exact rC_I hf rfl hret dX5_isNoFrame_32
      · rw [if_neg c7] at hf
        refine s_iconst (v := 1) C dX5_isNoFrame_27 (by decide) ?_
        refine s_goto C 32 dX5_isNoFrame_28 (by decide) ?_
        exact rC_I hf rfl hret dX5_isNoFrame_32
theorem c_X5_isNoFrame (l : Launch) (G : GG) (A : Nat → Prop) (ad : Nat → Nat) (h : Nat) (a0 : Nat) (X : va_W) (nb : Nat) (x1 : Int32) (x2 : Int32) (sc : Nat → Nat → Int32) (ar : Nat → Nat → Int32) (fr : Nat → Nat → Nat) (r0 : Int32) (sc0 : Nat → Nat → Int32) (ar0 : Nat → Nat → Int32) (fr0 : Nat → Nat → Nat) (hf : f_X5_isNoFrame nb x1 x2 sc ar fr = some (r0, sc0, ar0, fr0)) : MI l yX5_isNoFrame cX5_isNoFrame 3 .boolean ({ frames := 1, cells := 0, slots := 0, locals := 20 } : Room) G A (wC G ad nb (xP ad h a0 X) sc ar fr) [.ref h, .int x1, .int x2] r0 (wC G ad nb (xP ad h a0 X) sc0 ar0 fr0) :=
  e_I (by decide) (Nat.le_of_ble_eq_true rfl) (fun Γ C hret => k_X5_isNoFrame C _ _ _ _ _ _ _ _ _ _ _ _ _ _ hf hret)
def f_X5_draft (nb : Nat) (x1 : Int32) (x2 : Int32) (x3 : Int64) (sc : Nat → Nat → Int32) (ar : Nat → Nat → Int32) (fr : Nat → Nat → Nat) : Option (Int32 × (Nat → Nat → Int32) × (Nat → Nat → Int32) × (Nat → Nat → Nat)) :=
  bx (f_X5_isNoSide x1) fun r1 =>
  if r1 = 0 then (if x2 < 1 then (some ((-1), sc, ar, fr))
  else (if x2 ≤ 8 then (gd (pk nb 2 0) <|
  rdR nb 9 2 (0 + 1) x1 ((0 + 1) + 1 + 8 * (x1 : Int32).toNatClampNeg) fun p6 =>
  gd (pk nb 0 p6) <|
  if ((sc p6 1) + x2) ≤ 24 then (bCv (f_X0_addToDraft nb p6 x2 x3 sc ar fr) fun sc10 ar11 fr12 =>
  some ((sc10 p6 1), sc10, ar11, fr12))
  else (some ((-3), sc, ar, fr)))
  else (some ((-1), sc, ar, fr))))
  else (some ((-1), sc, ar, fr))
set_option maxHeartbeats 4000000 in
set_option maxRecDepth 100000 in
theorem k_X5_draft {l : Launch} {G : GG} {A : Nat → Prop} {Γ : Cx} (C : CX G A Γ cX5_draft RX5 ({ frames := 1, cells := 0, slots := 0, locals := 24 } : Room) 6) (ad : Nat → Nat) (h : Nat) (a0 : Nat) (X : va_W) (nb : Nat) (x1 : Int32) (x2 : Int32) (x3 : Int64) (sc : Nat → Nat → Int32) (ar : Nat → Nat → Int32) (fr : Nat → Nat → Nat) (r0 : Int32) (sc0 : Nat → Nat → Int32) (ar0 : Nat → Nat → Int32) (fr0 : Nat → Nat → Nat) (hf : f_X5_draft nb x1 x2 x3 sc ar fr = some (r0, sc0, ar0, fr0)) (hret : ∀ (pc : Nat) (lv : List (Nat × Value)), decode cX5_draft pc = .ok (.ireturn, 1) → narrow .int (.int r0) = .int r0 → St l G A Γ 0 0 (wC G ad nb (xP ad h a0 X) sc0 ar0 fr0) pc lv [.int r0]) : St l G A Γ 0 0 (wC G ad nb (xP ad h a0 X) sc ar fr) 0 [(0, .ref h), (1, .int x1), (2, .int x2), (3, .long x3)] [] := by
  unfold f_X5_draft at hf
  refine s_iload_n C 1 dX5_draft_0 rfl ?_
  obtain ⟨r1, er1, hf⟩ := bx_inv hf
  refine s_cS_I (As := [.int x1]) (rest := []) C (c_X5_isNoSide l G A _ x1 _ er1) g_RX5_20 hd_X5_isNoSide rfl ⟨Nat.le_of_ble_eq_true rfl, Nat.le_of_ble_eq_true rfl⟩ rfl (Nat.le_of_ble_eq_true rfl) ⟨Nat.le_of_ble_eq_true rfl, Nat.le_of_ble_eq_true rfl⟩ dX5_draft_1 ?_
  refine s_if_ne C 18 dX5_draft_4 (by decide) (fun c2 => ?_) (fun c2 => ?_)
  · rw [if_neg c2] at hf
    refine s_iconst (v := (-1)) C dX5_draft_18 (by decide) ?_
    exact rC_I hf (vp_nar_int _) hret dX5_draft_19
  · rw [if_pos c2] at hf
    refine s_iload_n C 2 dX5_draft_7 rfl ?_
    refine s_iconst (v := 1) C dX5_draft_8 (by decide) ?_
    refine s_icmp_lt C 18 dX5_draft_9 (by decide) (fun c3 => ?_) (fun c3 => ?_)
    · rw [if_pos c3] at hf
      refine s_iconst (v := (-1)) C dX5_draft_18 (by decide) ?_
      exact rC_I hf (vp_nar_int _) hret dX5_draft_19
    · rw [if_neg c3] at hf
      refine s_iload_n C 2 dX5_draft_12 rfl ?_
      refine s_bipush (v := 8) C dX5_draft_13 (by decide) ?_
      refine s_icmp_le C 20 dX5_draft_15 (by decide) (fun c4 => ?_) (fun c4 => ?_)
      · rw [if_pos c4] at hf
        refine s_aload_n C 0 dX5_draft_20 rfl ?_
        refine gf_180 C (72 * nb + 0) (wC_tail 0) rfl dX5_draft_21 ?_
        obtain ⟨g5, hf⟩ := gd_inv hf
        refine gf_150 C 0 (wC_2 g5) rfl dX5_draft_24 ?_
        refine s_iload_n C 1 dX5_draft_27 rfl ?_
        obtain ⟨p6, hkp6, hip6, ep6, hf⟩ := rdR_inv hf
        refine s_aald9 C hkp6 hip6 dX5_draft_28 ?_
        refine s_nmr ep6 ?_
        refine s_astore C [(5, .ref (ad p6)), (0, .ref h), (1, .int x1), (2, .int x2), (3, .long x3)] dX5_draft_29 (by decide) rfl ?_
        refine s_aload C 0 dX5_draft_31 rfl ?_
        obtain ⟨g7, hf⟩ := gd_inv hf
        refine gf_50 C p6 (wC_0 g7) rfl dX5_draft_33 ?_
        refine s_iload_n C 3 dX5_draft_36 rfl ?_
        refine s_iadd C dX5_draft_37 ?_
        refine s_bipush (v := 24) C dX5_draft_38 (by decide) ?_
        refine s_icmp_le C 46 dX5_draft_40 (by decide) (fun c8 => ?_) (fun c8 => ?_)
        · rw [if_pos c8] at hf
          refine s_aload C 0 dX5_draft_46 rfl ?_
          refine s_iload_n C 3 dX5_draft_48 rfl ?_
          refine s_lload_n C 4 dX5_draft_49 rfl ?_
          obtain ⟨sc10, ar11, fr12, er9, hf⟩ := bCv_inv hf
          refine s_cV_V (As := [.int x2, .long x3]) (rest := []) (ci := 0) (q := p6) C (c_X0_addToDraft l G A ad (xP ad h a0 X) nb p6 x2 x3 sc ar fr _ _ _ er9) g_RX5_34 hd_X0_addToDraft rfl ⟨Nat.le_of_ble_eq_true rfl, Nat.le_of_ble_eq_true rfl⟩ rfl (wC_0 g7) rfl (Nat.le_of_ble_eq_true rfl) ⟨Nat.le_of_ble_eq_true rfl, Nat.le_of_ble_eq_true rfl⟩ dX5_draft_50 ?_
          refine s_aload C 0 dX5_draft_53 rfl ?_
          refine gf_50 C p6 (wC_0 g7) rfl dX5_draft_55 ?_
          exact rC_I hf (vp_nar_int _) hret dX5_draft_58
        · rw [if_neg c8] at hf
          refine s_bipush (v := (-3)) C dX5_draft_43 (by decide) ?_
          exact rC_I hf (vp_nar_int _) hret dX5_draft_45
      · rw [if_neg c4] at hf
        refine s_iconst (v := (-1)) C dX5_draft_18 (by decide) ?_
        exact rC_I hf (vp_nar_int _) hret dX5_draft_19
theorem c_X5_draft (l : Launch) (G : GG) (A : Nat → Prop) (ad : Nat → Nat) (h : Nat) (a0 : Nat) (X : va_W) (nb : Nat) (x1 : Int32) (x2 : Int32) (x3 : Int64) (sc : Nat → Nat → Int32) (ar : Nat → Nat → Int32) (fr : Nat → Nat → Nat) (r0 : Int32) (sc0 : Nat → Nat → Int32) (ar0 : Nat → Nat → Int32) (fr0 : Nat → Nat → Nat) (hf : f_X5_draft nb x1 x2 x3 sc ar fr = some (r0, sc0, ar0, fr0)) : MI l yX5_draft cX5_draft 6 .int ({ frames := 1, cells := 0, slots := 0, locals := 24 } : Room) G A (wC G ad nb (xP ad h a0 X) sc ar fr) [.ref h, .int x1, .int x2, .long x3] r0 (wC G ad nb (xP ad h a0 X) sc0 ar0 fr0) :=
  e_I (by decide) (Nat.le_of_ble_eq_true rfl) (fun Γ C hret => k_X5_draft C _ _ _ _ _ _ _ _ _ _ _ _ _ _ _ hf hret)
def f_X5_offer (nb : Nat) (x1 : Int32) (sc : Nat → Nat → Int32) (ar : Nat → Nat → Int32) (fr : Nat → Nat → Nat) : Option (Int32 × (Nat → Nat → Int32) × (Nat → Nat → Int32) × (Nat → Nat → Nat)) :=
  bx (f_X5_isNoSide x1) fun r1 =>
  if r1 = 0 then (gd (pk nb 2 0) <|
  rdR nb 9 2 (0 + 1) x1 ((0 + 1) + 1 + 8 * (x1 : Int32).toNatClampNeg) fun p4 =>
  gd (pk nb 0 p4) <|
  if (sc p4 1) = 0 then (some ((-2), sc, ar, fr))
  else (bC (f_X0_waiting nb p4 sc ar fr) fun r7 sc8 ar9 fr10 =>
  if 16 ≤ r7 then (some ((-3), sc8, ar9, fr10))
  else (if (sc8 p4 3) < 60 then (bCv (f_X0_turnDraftIntoPacket nb p4 sc8 ar9 fr10) fun sc14 ar15 fr16 =>
  bC (f_X0_waiting nb p4 sc14 ar15 fr16) fun r17 sc18 ar19 fr20 =>
  some (r17, sc18, ar19, fr20))
  else (some ((-3), sc8, ar9, fr10)))))
  else (some ((-1), sc, ar, fr))
set_option maxHeartbeats 4000000 in
set_option maxRecDepth 100000 in
theorem k_X5_offer {l : Launch} {G : GG} {A : Nat → Prop} {Γ : Cx} (C : CX G A Γ cX5_offer RX5 ({ frames := 3, cells := 0, slots := 0, locals := 62 } : Room) 3) (ad : Nat → Nat) (h : Nat) (a0 : Nat) (X : va_W) (nb : Nat) (x1 : Int32) (sc : Nat → Nat → Int32) (ar : Nat → Nat → Int32) (fr : Nat → Nat → Nat) (r0 : Int32) (sc0 : Nat → Nat → Int32) (ar0 : Nat → Nat → Int32) (fr0 : Nat → Nat → Nat) (hf : f_X5_offer nb x1 sc ar fr = some (r0, sc0, ar0, fr0)) (hret : ∀ (pc : Nat) (lv : List (Nat × Value)), decode cX5_offer pc = .ok (.ireturn, 1) → narrow .int (.int r0) = .int r0 → St l G A Γ 0 0 (wC G ad nb (xP ad h a0 X) sc0 ar0 fr0) pc lv [.int r0]) : St l G A Γ 0 0 (wC G ad nb (xP ad h a0 X) sc ar fr) 0 [(0, .ref h), (1, .int x1)] [] := by
  unfold f_X5_offer at hf
  refine s_iload_n C 1 dX5_offer_0 rfl ?_
  obtain ⟨r1, er1, hf⟩ := bx_inv hf
  refine s_cS_I (As := [.int x1]) (rest := []) C (c_X5_isNoSide l G A _ x1 _ er1) g_RX5_20 hd_X5_isNoSide rfl ⟨Nat.le_of_ble_eq_true rfl, Nat.le_of_ble_eq_true rfl⟩ rfl (Nat.le_of_ble_eq_true rfl) ⟨Nat.le_of_ble_eq_true rfl, Nat.le_of_ble_eq_true rfl⟩ dX5_offer_1 ?_
  refine s_if_eq C 9 dX5_offer_4 (by decide) (fun c2 => ?_) (fun c2 => ?_)
  · rw [if_pos c2] at hf
    refine s_aload_n C 0 dX5_offer_9 rfl ?_
    refine gf_180 C (72 * nb + 0) (wC_tail 0) rfl dX5_offer_10 ?_
    obtain ⟨g3, hf⟩ := gd_inv hf
    refine gf_150 C 0 (wC_2 g3) rfl dX5_offer_13 ?_
    refine s_iload_n C 1 dX5_offer_16 rfl ?_
    obtain ⟨p4, hkp4, hip4, ep4, hf⟩ := rdR_inv hf
    refine s_aald9 C hkp4 hip4 dX5_offer_17 ?_
    refine s_nmr ep4 ?_
    refine s_astore_n C [(2, .ref (ad p4)), (0, .ref h), (1, .int x1)] dX5_offer_18 (by decide) rfl ?_
    refine s_aload_n C 0 dX5_offer_19 rfl ?_
    obtain ⟨g5, hf⟩ := gd_inv hf
    refine gf_50 C p4 (wC_0 g5) rfl dX5_offer_20 ?_
    refine s_if_ne C 29 dX5_offer_23 (by decide) (fun c6 => ?_) (fun c6 => ?_)
    · rw [if_neg c6] at hf
      refine s_aload_n C 0 dX5_offer_29 rfl ?_
      obtain ⟨r7, sc8, ar9, fr10, er7, hf⟩ := bC_inv hf
      refine s_cV_I (As := []) (rest := []) (ci := 0) (q := p4) C (c_X0_waiting l G A ad (xP ad h a0 X) nb p4 sc ar fr _ _ _ _ er7) g_RX5_38 hd_X0_waiting rfl ⟨Nat.le_of_ble_eq_true rfl, Nat.le_of_ble_eq_true rfl⟩ rfl (wC_0 g5) rfl (Nat.le_of_ble_eq_true rfl) ⟨Nat.le_of_ble_eq_true rfl, Nat.le_of_ble_eq_true rfl⟩ dX5_offer_30 ?_
      refine s_bipush (v := 16) C dX5_offer_33 (by decide) ?_
      refine s_icmp_ge C 47 dX5_offer_35 (by decide) (fun c11 => ?_) (fun c11 => ?_)
      · rw [if_pos c11] at hf
        refine s_bipush (v := (-3)) C dX5_offer_47 (by decide) ?_
        exact rC_I hf (vp_nar_int _) hret dX5_offer_49
      · rw [if_neg c11] at hf
        refine s_aload_n C 0 dX5_offer_38 rfl ?_
        refine gf_54 C p4 (wC_0 g5) rfl dX5_offer_39 ?_
        refine s_bipush (v := 60) C dX5_offer_42 (by decide) ?_
        refine s_icmp_lt C 50 dX5_offer_44 (by decide) (fun c12 => ?_) (fun c12 => ?_)
        · rw [if_pos c12] at hf
          refine s_aload_n C 0 dX5_offer_50 rfl ?_
          obtain ⟨sc14, ar15, fr16, er13, hf⟩ := bCv_inv hf
          refine s_cV_V (As := []) (rest := []) (ci := 0) (q := p4) C (c_X0_turnDraftIntoPacket l G A ad (xP ad h a0 X) nb p4 sc8 ar9 fr10 _ _ _ er13) g_RX5_45 hd_X0_turnDraftIntoPacket rfl ⟨Nat.le_of_ble_eq_true rfl, Nat.le_of_ble_eq_true rfl⟩ rfl (wC_0 g5) rfl (Nat.le_of_ble_eq_true rfl) ⟨Nat.le_of_ble_eq_true rfl, Nat.le_of_ble_eq_true rfl⟩ dX5_offer_51 ?_
          refine s_aload_n C 0 dX5_offer_54 rfl ?_
          obtain ⟨r17, sc18, ar19, fr20, er17, hf⟩ := bC_inv hf
          refine s_cV_I (As := []) (rest := []) (ci := 0) (q := p4) C (c_X0_waiting l G A ad (xP ad h a0 X) nb p4 sc14 ar15 fr16 _ _ _ _ er17) g_RX5_38 hd_X0_waiting rfl ⟨Nat.le_of_ble_eq_true rfl, Nat.le_of_ble_eq_true rfl⟩ rfl (wC_0 g5) rfl (Nat.le_of_ble_eq_true rfl) ⟨Nat.le_of_ble_eq_true rfl, Nat.le_of_ble_eq_true rfl⟩ dX5_offer_55 ?_
          exact rC_I hf (vp_nar_int _) hret dX5_offer_58
        · rw [if_neg c12] at hf
          refine s_bipush (v := (-3)) C dX5_offer_47 (by decide) ?_
          exact rC_I hf (vp_nar_int _) hret dX5_offer_49
    · rw [if_pos c6] at hf
      refine s_bipush (v := (-2)) C dX5_offer_26 (by decide) ?_
      exact rC_I hf (vp_nar_int _) hret dX5_offer_28
  · rw [if_neg c2] at hf
    refine s_iconst (v := (-1)) C dX5_offer_7 (by decide) ?_
    exact rC_I hf (vp_nar_int _) hret dX5_offer_8
theorem c_X5_offer (l : Launch) (G : GG) (A : Nat → Prop) (ad : Nat → Nat) (h : Nat) (a0 : Nat) (X : va_W) (nb : Nat) (x1 : Int32) (sc : Nat → Nat → Int32) (ar : Nat → Nat → Int32) (fr : Nat → Nat → Nat) (r0 : Int32) (sc0 : Nat → Nat → Int32) (ar0 : Nat → Nat → Int32) (fr0 : Nat → Nat → Nat) (hf : f_X5_offer nb x1 sc ar fr = some (r0, sc0, ar0, fr0)) : MI l yX5_offer cX5_offer 3 .int ({ frames := 3, cells := 0, slots := 0, locals := 62 } : Room) G A (wC G ad nb (xP ad h a0 X) sc ar fr) [.ref h, .int x1] r0 (wC G ad nb (xP ad h a0 X) sc0 ar0 fr0) :=
  e_I (by decide) (Nat.le_of_ble_eq_true rfl) (fun Γ C hret => k_X5_offer C _ _ _ _ _ _ _ _ _ _ _ _ _ hf hret)
def f_X5_check (nb : Nat) (x1 : Int32) (x2 : Int32) (sc : Nat → Nat → Int32) (ar : Nat → Nat → Int32) (fr : Nat → Nat → Nat) : Option (Int64 × (Nat → Nat → Int32) × (Nat → Nat → Int32) × (Nat → Nat → Nat)) :=
  bx (f_X5_isNoSide x1) fun r1 =>
  if r1 = 0 then (if x2 < 0 then (some ((-1), sc, ar, fr))
  else (if x2 ≤ 1 then (gd (pk nb 2 0) <|
  rdR nb 9 2 (0 + 1) x1 ((0 + 1) + 1 + 8 * (x1 : Int32).toNatClampNeg) fun p6 =>
  if x2 = 0 then (gd (pk nb 0 p6) <|
  bC (f_X5_checkOf nb 32 (p6 + 1) 0 (sc p6 1) sc ar fr) fun r14 sc15 ar16 fr17 =>
  some (r14, sc15, ar16, fr17))
  else (gd (pk nb 0 p6) <|
  bC (f_X5_checkOf nb 16 (p6 + 1) 0 (sc p6 1) sc ar fr) fun r9 sc10 ar11 fr12 =>
  some (r9, sc10, ar11, fr12)))
  else (some ((-1), sc, ar, fr))))
  else (some ((-1), sc, ar, fr))
set_option maxHeartbeats 4000000 in
set_option maxRecDepth 100000 in
theorem k_X5_check {l : Launch} {G : GG} {A : Nat → Prop} {Γ : Cx} (C : CX G A Γ cX5_check RX5 ({ frames := 1, cells := 0, slots := 0, locals := 31 } : Room) 4) (ad : Nat → Nat) (h : Nat) (a0 : Nat) (X : va_W) (nb : Nat) (x1 : Int32) (x2 : Int32) (sc : Nat → Nat → Int32) (ar : Nat → Nat → Int32) (fr : Nat → Nat → Nat) (r0 : Int64) (sc0 : Nat → Nat → Int32) (ar0 : Nat → Nat → Int32) (fr0 : Nat → Nat → Nat) (hf : f_X5_check nb x1 x2 sc ar fr = some (r0, sc0, ar0, fr0)) (hret : ∀ (pc : Nat) (lv : List (Nat × Value)), decode cX5_check pc = .ok (.lreturn, 1) → St l G A Γ 0 0 (wC G ad nb (xP ad h a0 X) sc0 ar0 fr0) pc lv [.long r0]) : St l G A Γ 0 0 (wC G ad nb (xP ad h a0 X) sc ar fr) 0 [(0, .ref h), (1, .int x1), (2, .int x2)] [] := by
  unfold f_X5_check at hf
  refine s_iload_n C 1 dX5_check_0 rfl ?_
  obtain ⟨r1, er1, hf⟩ := bx_inv hf
  refine s_cS_I (As := [.int x1]) (rest := []) C (c_X5_isNoSide l G A _ x1 _ er1) g_RX5_20 hd_X5_isNoSide rfl ⟨Nat.le_of_ble_eq_true rfl, Nat.le_of_ble_eq_true rfl⟩ rfl (Nat.le_of_ble_eq_true rfl) ⟨Nat.le_of_ble_eq_true rfl, Nat.le_of_ble_eq_true rfl⟩ dX5_check_1 ?_
  refine s_if_ne C 16 dX5_check_4 (by decide) (fun c2 => ?_) (fun c2 => ?_)
  · rw [if_neg c2] at hf
    refine s_ldc2 C tw_221 dX5_check_16 ?_
    exact rC_L hf hret dX5_check_19
  · rw [if_pos c2] at hf
    refine s_iload_n C 2 dX5_check_7 rfl ?_
    refine s_if_lt C 16 dX5_check_8 (by decide) (fun c3 => ?_) (fun c3 => ?_)
    · rw [if_pos c3] at hf
      refine s_ldc2 C tw_221 dX5_check_16 ?_
      exact rC_L hf hret dX5_check_19
    · rw [if_neg c3] at hf
      refine s_iload_n C 2 dX5_check_11 rfl ?_
      refine s_iconst (v := 1) C dX5_check_12 (by decide) ?_
      refine s_icmp_le C 20 dX5_check_13 (by decide) (fun c4 => ?_) (fun c4 => ?_)
      · rw [if_pos c4] at hf
        refine s_aload_n C 0 dX5_check_20 rfl ?_
        refine gf_180 C (72 * nb + 0) (wC_tail 0) rfl dX5_check_21 ?_
        obtain ⟨g5, hf⟩ := gd_inv hf
        refine gf_150 C 0 (wC_2 g5) rfl dX5_check_24 ?_
        refine s_iload_n C 1 dX5_check_27 rfl ?_
        obtain ⟨p6, hkp6, hip6, ep6, hf⟩ := rdR_inv hf
        refine s_aald9 C hkp6 hip6 dX5_check_28 ?_
        refine s_nmr ep6 ?_
        refine s_astore_n C [(3, .ref (ad p6)), (0, .ref h), (1, .int x1), (2, .int x2)] dX5_check_29 (by decide) rfl ?_
        refine s_iload_n C 3 dX5_check_30 rfl ?_
        refine s_if_ne C 39 dX5_check_31 (by decide) (fun c7 => ?_) (fun c7 => ?_)
        · rw [if_neg c7] at hf
          refine s_bipush (v := 16) C dX5_check_39 (by decide) ?_
          refine s_aload_n C 0 dX5_check_41 rfl ?_
          obtain ⟨g8, hf⟩ := gd_inv hf
          refine gf_49 C p6 (wC_0 g8) rfl dX5_check_42 ?_
          refine s_iconst (v := 0) C dX5_check_45 (by decide) ?_
          refine s_aload_n C 0 dX5_check_46 rfl ?_
          refine gf_50 C p6 (wC_0 g8) rfl dX5_check_47 ?_
          obtain ⟨r9, sc10, ar11, fr12, er9, hf⟩ := bC_inv hf
          refine s_cS_L (As := [.int 16, .ref (ad (p6 + 1)), .int 0, .int (sc p6 1)]) (rest := []) C (c_X5_checkOf l G A ad (xP ad h a0 X) nb 16 (p6 + 1) 0 (sc p6 1) sc ar fr _ _ _ _ er9) g_RX5_54 hd_X5_checkOf rfl ⟨Nat.le_of_ble_eq_true rfl, Nat.le_of_ble_eq_true rfl⟩ rfl (Nat.le_of_ble_eq_true rfl) ⟨Nat.le_of_ble_eq_true rfl, Nat.le_of_ble_eq_true rfl⟩ dX5_check_50 ?_
          exact rC_L hf hret dX5_check_53
        · rw [if_pos c7] at hf
          refine s_bipush (v := 32) C dX5_check_34 (by decide) ?_
          refine s_goto C 41 dX5_check_36 (by decide) ?_
          refine s_aload_n C 0 dX5_check_41 rfl ?_
          obtain ⟨g13, hf⟩ := gd_inv hf
          refine gf_49 C p6 (wC_0 g13) rfl dX5_check_42 ?_
          refine s_iconst (v := 0) C dX5_check_45 (by decide) ?_
          refine s_aload_n C 0 dX5_check_46 rfl ?_
          refine gf_50 C p6 (wC_0 g13) rfl dX5_check_47 ?_
          obtain ⟨r14, sc15, ar16, fr17, er14, hf⟩ := bC_inv hf
          refine s_cS_L (As := [.int 32, .ref (ad (p6 + 1)), .int 0, .int (sc p6 1)]) (rest := []) C (c_X5_checkOf l G A ad (xP ad h a0 X) nb 32 (p6 + 1) 0 (sc p6 1) sc ar fr _ _ _ _ er14) g_RX5_54 hd_X5_checkOf rfl ⟨Nat.le_of_ble_eq_true rfl, Nat.le_of_ble_eq_true rfl⟩ rfl (Nat.le_of_ble_eq_true rfl) ⟨Nat.le_of_ble_eq_true rfl, Nat.le_of_ble_eq_true rfl⟩ dX5_check_50 ?_
          exact rC_L hf hret dX5_check_53
      · rw [if_neg c4] at hf
        refine s_ldc2 C tw_221 dX5_check_16 ?_
        exact rC_L hf hret dX5_check_19
theorem c_X5_check (l : Launch) (G : GG) (A : Nat → Prop) (ad : Nat → Nat) (h : Nat) (a0 : Nat) (X : va_W) (nb : Nat) (x1 : Int32) (x2 : Int32) (sc : Nat → Nat → Int32) (ar : Nat → Nat → Int32) (fr : Nat → Nat → Nat) (r0 : Int64) (sc0 : Nat → Nat → Int32) (ar0 : Nat → Nat → Int32) (fr0 : Nat → Nat → Nat) (hf : f_X5_check nb x1 x2 sc ar fr = some (r0, sc0, ar0, fr0)) : ML l yX5_check cX5_check 4 ({ frames := 1, cells := 0, slots := 0, locals := 31 } : Room) G A (wC G ad nb (xP ad h a0 X) sc ar fr) [.ref h, .int x1, .int x2] r0 (wC G ad nb (xP ad h a0 X) sc0 ar0 fr0) :=
  e_L (by decide) (Nat.le_of_ble_eq_true rfl) (fun Γ C hret => k_X5_check C _ _ _ _ _ _ _ _ _ _ _ _ _ _ hf hret)
def f_X5_set (nb : Nat) (x1 : Int32) (x2 : Int32) (sc : Nat → Nat → Int32) (ar : Nat → Nat → Int32) (fr : Nat → Nat → Nat) : Option (Int32 × (Nat → Nat → Int32) × (Nat → Nat → Int32) × (Nat → Nat → Nat)) :=
  if (x1 : Int32) = 0 then (if x2 < 1 then (some ((-1), sc, ar, fr))
  else (if x2 ≤ 6 then (gd (pk nb 2 0) <|
  bC (f_X2_changeDelay nb 0 x2 sc ar fr) fun r4 sc5 ar6 fr7 =>
  some (r4, sc5, ar6, fr7))
  else (some ((-1), sc, ar, fr))))
  else if (x1 : Int32) = 1 then (if x2 < 1 then (some ((-1), sc, ar, fr))
  else (if x2 ≤ 60 then (gd (pk nb 2 0) <|
  bC (f_X2_changePatience nb 0 x2 sc ar fr) fun r12 sc13 ar14 fr15 =>
  some (r12, sc13, ar14, fr15))
  else (some ((-1), sc, ar, fr))))
  else if (x1 : Int32) = 2 then (if x2 < 0 then (some ((-1), sc, ar, fr))
  else (if x2 ≤ 9 then (gd (pk nb 2 0) <|
  bC (f_X2_changeAckDelay nb 0 x2 sc ar fr) fun r20 sc21 ar22 fr23 =>
  some (r20, sc21, ar22, fr23))
  else (some ((-1), sc, ar, fr))))
  else (some ((-1), sc, ar, fr))
set_option maxHeartbeats 4000000 in
set_option maxRecDepth 100000 in
theorem k_X5_set {l : Launch} {G : GG} {A : Nat → Prop} {Γ : Cx} (C : CX G A Γ cX5_set RX5 ({ frames := 1, cells := 0, slots := 0, locals := 22 } : Room) 3) (ad : Nat → Nat) (h : Nat) (a0 : Nat) (X : va_W) (nb : Nat) (x1 : Int32) (x2 : Int32) (sc : Nat → Nat → Int32) (ar : Nat → Nat → Int32) (fr : Nat → Nat → Nat) (r0 : Int32) (sc0 : Nat → Nat → Int32) (ar0 : Nat → Nat → Int32) (fr0 : Nat → Nat → Nat) (hf : f_X5_set nb x1 x2 sc ar fr = some (r0, sc0, ar0, fr0)) (hret : ∀ (pc : Nat) (lv : List (Nat × Value)), decode cX5_set pc = .ok (.ireturn, 1) → narrow .int (.int r0) = .int r0 → St l G A Γ 0 0 (wC G ad nb (xP ad h a0 X) sc0 ar0 fr0) pc lv [.int r0]) : St l G A Γ 0 0 (wC G ad nb (xP ad h a0 X) sc ar fr) 0 [(0, .ref h), (1, .int x1), (2, .int x2)] [] := by
  unfold f_X5_set at hf
  refine s_iload_n C 1 dX5_set_0 rfl ?_
  by_cases c1 : (x1 : Int32) = 0
  · rw [if_pos c1] at hf
    refine s_tableIn C 28 dX5_set_1 (by rw [c1]; decide) (by rw [c1]; decide) (by rw [c1]; rfl) (by decide) ?_
    refine s_iload_n C 2 dX5_set_28 rfl ?_
    refine s_iconst (v := 1) C dX5_set_29 (by decide) ?_
    refine s_icmp_lt C 39 dX5_set_30 (by decide) (fun c2 => ?_) (fun c2 => ?_)
    · rw [if_pos c2] at hf
      refine s_iconst (v := (-1)) C dX5_set_39 (by decide) ?_
      refine s_goto C 51 dX5_set_40 (by decide) ?_
      exact rC_I hf (vp_nar_int _) hret dX5_set_51
    · rw [if_neg c2] at hf
      refine s_iload_n C 2 dX5_set_33 rfl ?_
      refine s_bipush (v := 6) C dX5_set_34 (by decide) ?_
      refine s_icmp_le C 43 dX5_set_36 (by decide) (fun c3 => ?_) (fun c3 => ?_)
      · rw [if_pos c3] at hf
        refine s_aload_n C 0 dX5_set_43 rfl ?_
        refine gf_180 C (72 * nb + 0) (wC_tail 0) rfl dX5_set_44 ?_
        refine s_iload_n C 2 dX5_set_47 rfl ?_
        obtain ⟨g8, hf⟩ := gd_inv hf
        obtain ⟨r4, sc5, ar6, fr7, er4, hf⟩ := bC_inv hf
        refine s_cV_I (As := [.int x2]) (rest := []) (ci := 2) (q := 0) C (c_X2_changeDelay l G A ad (xP ad h a0 X) nb 0 x2 sc ar fr _ _ _ _ er4) g_RX5_58 hd_X2_changeDelay rfl ⟨Nat.le_of_ble_eq_true rfl, Nat.le_of_ble_eq_true rfl⟩ rfl (wC_2 g8) rfl (Nat.le_of_ble_eq_true rfl) ⟨Nat.le_of_ble_eq_true rfl, Nat.le_of_ble_eq_true rfl⟩ dX5_set_48 ?_
        exact rC_I hf (vp_nar_int _) hret dX5_set_51
      · rw [if_neg c3] at hf
        refine s_iconst (v := (-1)) C dX5_set_39 (by decide) ?_
        refine s_goto C 51 dX5_set_40 (by decide) ?_
        exact rC_I hf (vp_nar_int _) hret dX5_set_51
  rw [if_neg c1] at hf
  by_cases c9 : (x1 : Int32) = 1
  · rw [if_pos c9] at hf
    refine s_tableIn C 52 dX5_set_1 (by rw [c9]; decide) (by rw [c9]; decide) (by rw [c9]; rfl) (by decide) ?_
    refine s_iload_n C 2 dX5_set_52 rfl ?_
    refine s_iconst (v := 1) C dX5_set_53 (by decide) ?_
    refine s_icmp_lt C 63 dX5_set_54 (by decide) (fun c10 => ?_) (fun c10 => ?_)
    · rw [if_pos c10] at hf
      refine s_iconst (v := (-1)) C dX5_set_63 (by decide) ?_
      refine s_goto C 75 dX5_set_64 (by decide) ?_
      exact rC_I hf (vp_nar_int _) hret dX5_set_75
    · rw [if_neg c10] at hf
      refine s_iload_n C 2 dX5_set_57 rfl ?_
      refine s_bipush (v := 60) C dX5_set_58 (by decide) ?_
      refine s_icmp_le C 67 dX5_set_60 (by decide) (fun c11 => ?_) (fun c11 => ?_)
      · rw [if_pos c11] at hf
        refine s_aload_n C 0 dX5_set_67 rfl ?_
        refine gf_180 C (72 * nb + 0) (wC_tail 0) rfl dX5_set_68 ?_
        refine s_iload_n C 2 dX5_set_71 rfl ?_
        obtain ⟨g16, hf⟩ := gd_inv hf
        obtain ⟨r12, sc13, ar14, fr15, er12, hf⟩ := bC_inv hf
        refine s_cV_I (As := [.int x2]) (rest := []) (ci := 2) (q := 0) C (c_X2_changePatience l G A ad (xP ad h a0 X) nb 0 x2 sc ar fr _ _ _ _ er12) g_RX5_62 hd_X2_changePatience rfl ⟨Nat.le_of_ble_eq_true rfl, Nat.le_of_ble_eq_true rfl⟩ rfl (wC_2 g16) rfl (Nat.le_of_ble_eq_true rfl) ⟨Nat.le_of_ble_eq_true rfl, Nat.le_of_ble_eq_true rfl⟩ dX5_set_72 ?_
        exact rC_I hf (vp_nar_int _) hret dX5_set_75
      · rw [if_neg c11] at hf
        refine s_iconst (v := (-1)) C dX5_set_63 (by decide) ?_
        refine s_goto C 75 dX5_set_64 (by decide) ?_
        exact rC_I hf (vp_nar_int _) hret dX5_set_75
  rw [if_neg c9] at hf
  by_cases c17 : (x1 : Int32) = 2
  · rw [if_pos c17] at hf
    refine s_tableIn C 76 dX5_set_1 (by rw [c17]; decide) (by rw [c17]; decide) (by rw [c17]; rfl) (by decide) ?_
    refine s_iload_n C 2 dX5_set_76 rfl ?_
    refine s_if_lt C 86 dX5_set_77 (by decide) (fun c18 => ?_) (fun c18 => ?_)
    · rw [if_pos c18] at hf
      refine s_iconst (v := (-1)) C dX5_set_86 (by decide) ?_
      refine s_goto C 98 dX5_set_87 (by decide) ?_
      exact rC_I hf (vp_nar_int _) hret dX5_set_98
    · rw [if_neg c18] at hf
      refine s_iload_n C 2 dX5_set_80 rfl ?_
      refine s_bipush (v := 9) C dX5_set_81 (by decide) ?_
      refine s_icmp_le C 90 dX5_set_83 (by decide) (fun c19 => ?_) (fun c19 => ?_)
      · rw [if_pos c19] at hf
        refine s_aload_n C 0 dX5_set_90 rfl ?_
        refine gf_180 C (72 * nb + 0) (wC_tail 0) rfl dX5_set_91 ?_
        refine s_iload_n C 2 dX5_set_94 rfl ?_
        obtain ⟨g24, hf⟩ := gd_inv hf
        obtain ⟨r20, sc21, ar22, fr23, er20, hf⟩ := bC_inv hf
        refine s_cV_I (As := [.int x2]) (rest := []) (ci := 2) (q := 0) C (c_X2_changeAckDelay l G A ad (xP ad h a0 X) nb 0 x2 sc ar fr _ _ _ _ er20) g_RX5_65 hd_X2_changeAckDelay rfl ⟨Nat.le_of_ble_eq_true rfl, Nat.le_of_ble_eq_true rfl⟩ rfl (wC_2 g24) rfl (Nat.le_of_ble_eq_true rfl) ⟨Nat.le_of_ble_eq_true rfl, Nat.le_of_ble_eq_true rfl⟩ dX5_set_95 ?_
        exact rC_I hf (vp_nar_int _) hret dX5_set_98
      · rw [if_neg c19] at hf
        refine s_iconst (v := (-1)) C dX5_set_86 (by decide) ?_
        refine s_goto C 98 dX5_set_87 (by decide) ?_
        exact rC_I hf (vp_nar_int _) hret dX5_set_98
  rw [if_neg c17] at hf
  have hout : (x1 : Int32).toInt < 0 ∨ 2 < (x1 : Int32).toInt := by
    have q0 := i32_ne c1 (0) rfl
    have q1 := i32_ne c9 (1) rfl
    have q2 := i32_ne c17 (2) rfl
    omega
  refine s_tableOut C 99 dX5_set_1 hout (by decide) ?_
  refine s_iconst (v := (-1)) C dX5_set_99 (by decide) ?_
  exact rC_I hf (vp_nar_int _) hret dX5_set_100
theorem c_X5_set (l : Launch) (G : GG) (A : Nat → Prop) (ad : Nat → Nat) (h : Nat) (a0 : Nat) (X : va_W) (nb : Nat) (x1 : Int32) (x2 : Int32) (sc : Nat → Nat → Int32) (ar : Nat → Nat → Int32) (fr : Nat → Nat → Nat) (r0 : Int32) (sc0 : Nat → Nat → Int32) (ar0 : Nat → Nat → Int32) (fr0 : Nat → Nat → Nat) (hf : f_X5_set nb x1 x2 sc ar fr = some (r0, sc0, ar0, fr0)) : MI l yX5_set cX5_set 3 .int ({ frames := 1, cells := 0, slots := 0, locals := 22 } : Room) G A (wC G ad nb (xP ad h a0 X) sc ar fr) [.ref h, .int x1, .int x2] r0 (wC G ad nb (xP ad h a0 X) sc0 ar0 fr0) :=
  e_I (by decide) (Nat.le_of_ble_eq_true rfl) (fun Γ C hret => k_X5_set C _ _ _ _ _ _ _ _ _ _ _ _ _ _ hf hret)
def f_X5_tick_36 (nb : Nat)  : Nat → Int32 → Int32 → Int32 → (Nat → Nat → Int32) → (Nat → Nat → Int32) → (Nat → Nat → Nat) → Option (Int32 × (Nat → Nat → Int32) × (Nat → Nat → Int32) × (Nat → Nat → Nat))
  | 0, _, _, _, _, _, _ => none
  | fu + 1, x1, x2, x3, sc, ar, fr =>
    if x1 ≤ x3 then (some (x2, sc, ar, fr))
    else (gd (pk nb 2 0) <|
    bC (f_X2_passTick nb 0 sc ar fr) fun r6 sc7 ar8 fr9 =>
    bd ((x2 + r6)) fun y11 =>
    bd (x3 + 1) fun y12 =>
    f_X5_tick_36 nb fu x1 y11 y12 sc7 ar8 fr9)
def f_X5_tick (nb : Nat) (x1 : Int32) (sc : Nat → Nat → Int32) (ar : Nat → Nat → Int32) (fr : Nat → Nat → Nat) : Option (Int32 × (Nat → Nat → Int32) × (Nat → Nat → Int32) × (Nat → Nat → Nat)) :=
  if x1 < 1 then (some ((-1), sc, ar, fr))
  else (if x1 ≤ 200 then (gd (pk nb 2 0) <|
  if ((sc 0 3) + x1) ≤ 20000 then (f_X5_tick_36 nb FU x1 0 0 sc ar fr)
  else (some ((-3), sc, ar, fr)))
  else (some ((-1), sc, ar, fr)))
set_option maxHeartbeats 4000000 in
set_option maxRecDepth 100000 in
theorem k_X5_tick {l : Launch} {G : GG} {A : Nat → Prop} {Γ : Cx} (C : CX G A Γ cX5_tick RX5 ({ frames := 7, cells := 0, slots := 0, locals := 156 } : Room) 4) (ad : Nat → Nat) (h : Nat) (a0 : Nat) (X : va_W) (nb : Nat) (x1 : Int32) (sc : Nat → Nat → Int32) (ar : Nat → Nat → Int32) (fr : Nat → Nat → Nat) (r0 : Int32) (sc0 : Nat → Nat → Int32) (ar0 : Nat → Nat → Int32) (fr0 : Nat → Nat → Nat) (hf : f_X5_tick nb x1 sc ar fr = some (r0, sc0, ar0, fr0)) (hret : ∀ (pc : Nat) (lv : List (Nat × Value)), decode cX5_tick pc = .ok (.ireturn, 1) → narrow .int (.int r0) = .int r0 → St l G A Γ 0 0 (wC G ad nb (xP ad h a0 X) sc0 ar0 fr0) pc lv [.int r0]) : St l G A Γ 0 0 (wC G ad nb (xP ad h a0 X) sc ar fr) 0 [(0, .ref h), (1, .int x1)] [] := by
  have B_36 : ∀  (fu : Nat) (x1 : Int32) (x2 : Int32) (x3 : Int32) (sc : Nat → Nat → Int32) (ar : Nat → Nat → Int32) (fr : Nat → Nat → Nat), f_X5_tick_36 nb fu x1 x2 x3 sc ar fr = some (r0, sc0, ar0, fr0) → St l G A Γ 0 0 (wC G ad nb (xP ad h a0 X) sc ar fr) 36 [(0, .ref h), (1, .int x1), (2, .int x2), (3, .int x3)] [] := by
    intro fu
    induction fu with
    | zero => intro x1 x2 x3 sc ar fr hf ; rw [f_X5_tick_36] at hf; cases hf
    | succ fu ih =>
      intro x1 x2 x3 sc ar fr hf 
      rw [f_X5_tick_36] at hf
      refine s_iload_n C 3 dX5_tick_36 rfl ?_
      refine s_iload_n C 1 dX5_tick_37 rfl ?_
      refine s_icmp_ge C 57 dX5_tick_38 (by decide) (fun c5 => ?_) (fun c5 => ?_)
      · rw [if_pos c5] at hf
        refine s_iload_n C 2 dX5_tick_57 rfl ?_
        exact rC_I hf (vp_nar_int _) hret dX5_tick_58
      · rw [if_neg c5] at hf
        refine s_iload_n C 2 dX5_tick_41 rfl ?_
        refine s_aload_n C 0 dX5_tick_42 rfl ?_
        refine gf_180 C (72 * nb + 0) (wC_tail 0) rfl dX5_tick_43 ?_
        obtain ⟨g10, hf⟩ := gd_inv hf
        obtain ⟨r6, sc7, ar8, fr9, er6, hf⟩ := bC_inv hf
        refine s_cV_I (As := []) (rest := [.int x2]) (ci := 2) (q := 0) C (c_X2_passTick l G A ad (xP ad h a0 X) nb 0 sc ar fr _ _ _ _ er6) g_RX5_71 hd_X2_passTick rfl ⟨Nat.le_of_ble_eq_true rfl, Nat.le_of_ble_eq_true rfl⟩ rfl (wC_2 g10) rfl (Nat.le_of_ble_eq_true rfl) ⟨Nat.le_of_ble_eq_true rfl, Nat.le_of_ble_eq_true rfl⟩ dX5_tick_46 ?_
        refine s_iadd C dX5_tick_49 ?_
        obtain ⟨y11, ey11, hf⟩ := bd_inv hf
        refine s_nmi ey11 ?_
        refine s_istore_n C [(2, .int y11), (0, .ref h), (1, .int x1), (3, .int x3)] dX5_tick_50 (by decide) rfl ?_
        obtain ⟨y12, ey12, hf⟩ := bd_inv hf
        refine s_iinc (v := y12) C 3 [(3, .int y12), (2, .int y11), (0, .ref h), (1, .int x1)] dX5_tick_51 rfl (by rw [ey12]; rfl) (by decide) rfl ?_
        refine s_goto C 36 dX5_tick_54 (by decide) ?_
        refine s_lv [2, 3, 1, 0] rfl ?_
        exact ih _ _ _ _ _ _ hf
  unfold f_X5_tick at hf
  refine s_iload_n C 1 dX5_tick_0 rfl ?_
  refine s_iconst (v := 1) C dX5_tick_1 (by decide) ?_
  refine s_icmp_lt C 12 dX5_tick_2 (by decide) (fun c1 => ?_) (fun c1 => ?_)
  · rw [if_pos c1] at hf
    refine s_iconst (v := (-1)) C dX5_tick_12 (by decide) ?_
    exact rC_I hf (vp_nar_int _) hret dX5_tick_13
  · rw [if_neg c1] at hf
    refine s_iload_n C 1 dX5_tick_5 rfl ?_
    refine s_sipush (v := 200) C dX5_tick_6 (by decide) ?_
    refine s_icmp_le C 14 dX5_tick_9 (by decide) (fun c2 => ?_) (fun c2 => ?_)
    · rw [if_pos c2] at hf
      refine s_aload_n C 0 dX5_tick_14 rfl ?_
      refine gf_180 C (72 * nb + 0) (wC_tail 0) rfl dX5_tick_15 ?_
      obtain ⟨g3, hf⟩ := gd_inv hf
      refine gf_156 C 0 (wC_2 g3) rfl dX5_tick_18 ?_
      refine s_iload_n C 1 dX5_tick_21 rfl ?_
      refine s_iadd C dX5_tick_22 ?_
      refine s_sipush (v := 20000) C dX5_tick_23 (by decide) ?_
      refine s_icmp_le C 32 dX5_tick_26 (by decide) (fun c4 => ?_) (fun c4 => ?_)
      · rw [if_pos c4] at hf
        refine s_iconst (v := 0) C dX5_tick_32 (by decide) ?_
        refine s_istore_n C [(2, .int 0), (0, .ref h), (1, .int x1)] dX5_tick_33 (by decide) rfl ?_
        refine s_iconst (v := 0) C dX5_tick_34 (by decide) ?_
        refine s_istore_n C [(3, .int 0), (2, .int 0), (0, .ref h), (1, .int x1)] dX5_tick_35 (by decide) rfl ?_
        refine s_lv [2, 3, 1, 0] rfl ?_
        exact B_36 _ _ _ _ _ _ _ hf
      · rw [if_neg c4] at hf
        refine s_bipush (v := (-3)) C dX5_tick_29 (by decide) ?_
        exact rC_I hf (vp_nar_int _) hret dX5_tick_31
    · rw [if_neg c2] at hf
      refine s_iconst (v := (-1)) C dX5_tick_12 (by decide) ?_
      exact rC_I hf (vp_nar_int _) hret dX5_tick_13
theorem c_X5_tick (l : Launch) (G : GG) (A : Nat → Prop) (ad : Nat → Nat) (h : Nat) (a0 : Nat) (X : va_W) (nb : Nat) (x1 : Int32) (sc : Nat → Nat → Int32) (ar : Nat → Nat → Int32) (fr : Nat → Nat → Nat) (r0 : Int32) (sc0 : Nat → Nat → Int32) (ar0 : Nat → Nat → Int32) (fr0 : Nat → Nat → Nat) (hf : f_X5_tick nb x1 sc ar fr = some (r0, sc0, ar0, fr0)) : MI l yX5_tick cX5_tick 4 .int ({ frames := 7, cells := 0, slots := 0, locals := 156 } : Room) G A (wC G ad nb (xP ad h a0 X) sc ar fr) [.ref h, .int x1] r0 (wC G ad nb (xP ad h a0 X) sc0 ar0 fr0) :=
  e_I (by decide) (Nat.le_of_ble_eq_true rfl) (fun Γ C hret => k_X5_tick C _ _ _ _ _ _ _ _ _ _ _ _ _ hf hret)
def f_X5_settle_34 (nb : Nat)  : Nat → Int32 → Int32 → (Nat → Nat → Int32) → (Nat → Nat → Int32) → (Nat → Nat → Nat) → Option (Int32 × (Nat → Nat → Int32) × (Nat → Nat → Int32) × (Nat → Nat → Nat))
  | 0, _, _, _, _, _ => none
  | fu + 1, x1, x2, sc, ar, fr =>
    if x1 ≤ x2 then (some (x1, sc, ar, fr))
    else (gd (pk nb 2 0) <|
    bC (f_X2_isQuiet nb 0 sc ar fr) fun r6 sc7 ar8 fr9 =>
    if r6 = 0 then (bC (f_X2_passTick nb 0 sc7 ar8 fr9) fun r12 sc13 ar14 fr15 =>
    bd (x2 + 1) fun y16 =>
    f_X5_settle_34 nb fu x1 y16 sc13 ar14 fr15)
    else (some (x2, sc7, ar8, fr9)))
def f_X5_settle (nb : Nat) (x1 : Int32) (sc : Nat → Nat → Int32) (ar : Nat → Nat → Int32) (fr : Nat → Nat → Nat) : Option (Int32 × (Nat → Nat → Int32) × (Nat → Nat → Int32) × (Nat → Nat → Nat)) :=
  if x1 < 1 then (some ((-1), sc, ar, fr))
  else (if x1 ≤ 400 then (gd (pk nb 2 0) <|
  if ((sc 0 3) + x1) ≤ 20000 then (f_X5_settle_34 nb FU x1 0 sc ar fr)
  else (some ((-3), sc, ar, fr)))
  else (some ((-1), sc, ar, fr)))
set_option maxHeartbeats 4000000 in
set_option maxRecDepth 100000 in
theorem k_X5_settle {l : Launch} {G : GG} {A : Nat → Prop} {Γ : Cx} (C : CX G A Γ cX5_settle RX5 ({ frames := 7, cells := 0, slots := 0, locals := 156 } : Room) 3) (ad : Nat → Nat) (h : Nat) (a0 : Nat) (X : va_W) (nb : Nat) (x1 : Int32) (sc : Nat → Nat → Int32) (ar : Nat → Nat → Int32) (fr : Nat → Nat → Nat) (r0 : Int32) (sc0 : Nat → Nat → Int32) (ar0 : Nat → Nat → Int32) (fr0 : Nat → Nat → Nat) (hf : f_X5_settle nb x1 sc ar fr = some (r0, sc0, ar0, fr0)) (hret : ∀ (pc : Nat) (lv : List (Nat × Value)), decode cX5_settle pc = .ok (.ireturn, 1) → narrow .int (.int r0) = .int r0 → St l G A Γ 0 0 (wC G ad nb (xP ad h a0 X) sc0 ar0 fr0) pc lv [.int r0]) : St l G A Γ 0 0 (wC G ad nb (xP ad h a0 X) sc ar fr) 0 [(0, .ref h), (1, .int x1)] [] := by
  have B_34 : ∀  (fu : Nat) (x1 : Int32) (x2 : Int32) (sc : Nat → Nat → Int32) (ar : Nat → Nat → Int32) (fr : Nat → Nat → Nat), f_X5_settle_34 nb fu x1 x2 sc ar fr = some (r0, sc0, ar0, fr0) → St l G A Γ 0 0 (wC G ad nb (xP ad h a0 X) sc ar fr) 34 [(0, .ref h), (1, .int x1), (2, .int x2)] [] := by
    intro fu
    induction fu with
    | zero => intro x1 x2 sc ar fr hf ; rw [f_X5_settle_34] at hf; cases hf
    | succ fu ih =>
      intro x1 x2 sc ar fr hf 
      rw [f_X5_settle_34] at hf
      refine s_iload_n C 2 dX5_settle_34 rfl ?_
      refine s_iload_n C 1 dX5_settle_35 rfl ?_
      refine s_icmp_ge C 65 dX5_settle_36 (by decide) (fun c5 => ?_) (fun c5 => ?_)
      · rw [if_pos c5] at hf
        refine s_iload_n C 1 dX5_settle_65 rfl ?_
        exact rC_I hf (vp_nar_int _) hret dX5_settle_66
      · rw [if_neg c5] at hf
        refine s_aload_n C 0 dX5_settle_39 rfl ?_
        refine gf_180 C (72 * nb + 0) (wC_tail 0) rfl dX5_settle_40 ?_
        obtain ⟨g10, hf⟩ := gd_inv hf
        obtain ⟨r6, sc7, ar8, fr9, er6, hf⟩ := bC_inv hf
        refine s_cV_I (As := []) (rest := []) (ci := 2) (q := 0) C (c_X2_isQuiet l G A ad (xP ad h a0 X) nb 0 sc ar fr _ _ _ _ er6) g_RX5_74 hd_X2_isQuiet rfl ⟨Nat.le_of_ble_eq_true rfl, Nat.le_of_ble_eq_true rfl⟩ rfl (wC_2 g10) rfl (Nat.le_of_ble_eq_true rfl) ⟨Nat.le_of_ble_eq_true rfl, Nat.le_of_ble_eq_true rfl⟩ dX5_settle_43 ?_
        refine s_if_eq C 51 dX5_settle_46 (by decide) (fun c11 => ?_) (fun c11 => ?_)
        · rw [if_pos c11] at hf
          refine s_aload_n C 0 dX5_settle_51 rfl ?_
          refine gf_180 C (72 * nb + 0) (wC_tail 0) rfl dX5_settle_52 ?_
          obtain ⟨r12, sc13, ar14, fr15, er12, hf⟩ := bC_inv hf
          refine s_cV_I (As := []) (rest := []) (ci := 2) (q := 0) C (c_X2_passTick l G A ad (xP ad h a0 X) nb 0 sc7 ar8 fr9 _ _ _ _ er12) g_RX5_71 hd_X2_passTick rfl ⟨Nat.le_of_ble_eq_true rfl, Nat.le_of_ble_eq_true rfl⟩ rfl (wC_2 g10) rfl (Nat.le_of_ble_eq_true rfl) ⟨Nat.le_of_ble_eq_true rfl, Nat.le_of_ble_eq_true rfl⟩ dX5_settle_55 ?_
          refine s_pop C dX5_settle_58 rfl ?_
          obtain ⟨y16, ey16, hf⟩ := bd_inv hf
          refine s_iinc (v := y16) C 2 [(2, .int y16), (0, .ref h), (1, .int x1)] dX5_settle_59 rfl (by rw [ey16]; rfl) (by decide) rfl ?_
          refine s_goto C 34 dX5_settle_62 (by decide) ?_
          refine s_lv [1, 2, 0] rfl ?_
          exact ih _ _ _ _ _ hf
        · rw [if_neg c11] at hf
          refine s_iload_n C 2 dX5_settle_49 rfl ?_
          exact rC_I hf (vp_nar_int _) hret dX5_settle_50
  unfold f_X5_settle at hf
  refine s_iload_n C 1 dX5_settle_0 rfl ?_
  refine s_iconst (v := 1) C dX5_settle_1 (by decide) ?_
  refine s_icmp_lt C 12 dX5_settle_2 (by decide) (fun c1 => ?_) (fun c1 => ?_)
  · rw [if_pos c1] at hf
    refine s_iconst (v := (-1)) C dX5_settle_12 (by decide) ?_
    exact rC_I hf (vp_nar_int _) hret dX5_settle_13
  · rw [if_neg c1] at hf
    refine s_iload_n C 1 dX5_settle_5 rfl ?_
    refine s_sipush (v := 400) C dX5_settle_6 (by decide) ?_
    refine s_icmp_le C 14 dX5_settle_9 (by decide) (fun c2 => ?_) (fun c2 => ?_)
    · rw [if_pos c2] at hf
      refine s_aload_n C 0 dX5_settle_14 rfl ?_
      refine gf_180 C (72 * nb + 0) (wC_tail 0) rfl dX5_settle_15 ?_
      obtain ⟨g3, hf⟩ := gd_inv hf
      refine gf_156 C 0 (wC_2 g3) rfl dX5_settle_18 ?_
      refine s_iload_n C 1 dX5_settle_21 rfl ?_
      refine s_iadd C dX5_settle_22 ?_
      refine s_sipush (v := 20000) C dX5_settle_23 (by decide) ?_
      refine s_icmp_le C 32 dX5_settle_26 (by decide) (fun c4 => ?_) (fun c4 => ?_)
      · rw [if_pos c4] at hf
        refine s_iconst (v := 0) C dX5_settle_32 (by decide) ?_
        refine s_istore_n C [(2, .int 0), (0, .ref h), (1, .int x1)] dX5_settle_33 (by decide) rfl ?_
        refine s_lv [1, 2, 0] rfl ?_
        exact B_34 _ _ _ _ _ _ hf
      · rw [if_neg c4] at hf
        refine s_bipush (v := (-3)) C dX5_settle_29 (by decide) ?_
        exact rC_I hf (vp_nar_int _) hret dX5_settle_31
    · rw [if_neg c2] at hf
      refine s_iconst (v := (-1)) C dX5_settle_12 (by decide) ?_
      exact rC_I hf (vp_nar_int _) hret dX5_settle_13
theorem c_X5_settle (l : Launch) (G : GG) (A : Nat → Prop) (ad : Nat → Nat) (h : Nat) (a0 : Nat) (X : va_W) (nb : Nat) (x1 : Int32) (sc : Nat → Nat → Int32) (ar : Nat → Nat → Int32) (fr : Nat → Nat → Nat) (r0 : Int32) (sc0 : Nat → Nat → Int32) (ar0 : Nat → Nat → Int32) (fr0 : Nat → Nat → Nat) (hf : f_X5_settle nb x1 sc ar fr = some (r0, sc0, ar0, fr0)) : MI l yX5_settle cX5_settle 3 .int ({ frames := 7, cells := 0, slots := 0, locals := 156 } : Room) G A (wC G ad nb (xP ad h a0 X) sc ar fr) [.ref h, .int x1] r0 (wC G ad nb (xP ad h a0 X) sc0 ar0 fr0) :=
  e_I (by decide) (Nat.le_of_ble_eq_true rfl) (fun Γ C hret => k_X5_settle C _ _ _ _ _ _ _ _ _ _ _ _ _ hf hret)
def f_X5_voids (nb : Nat) (x1 : Int32) (sc : Nat → Nat → Int32) (ar : Nat → Nat → Int32) (fr : Nat → Nat → Nat) : Option (Int32 × (Nat → Nat → Int32) × (Nat → Nat → Int32) × (Nat → Nat → Nat)) :=
  bx (f_X5_isNoSide x1) fun r1 =>
  if r1 = 0 then (gd (pk nb 2 0) <|
  rdR nb 9 2 (0 + 1) x1 ((0 + 1) + 1 + 8 * (x1 : Int32).toNatClampNeg) fun p4 =>
  gd (pk nb 0 p4) <|
  bx (f_X5_asNumber (sc p4 6)) fun r6 =>
  bd (up2 sc p4 6 1) fun sc7 =>
  some (r6, sc7, ar, fr))
  else (some ((-1), sc, ar, fr))
set_option maxHeartbeats 4000000 in
set_option maxRecDepth 100000 in
theorem k_X5_voids {l : Launch} {G : GG} {A : Nat → Prop} {Γ : Cx} (C : CX G A Γ cX5_voids RX5 ({ frames := 1, cells := 0, slots := 0, locals := 20 } : Room) 4) (ad : Nat → Nat) (h : Nat) (a0 : Nat) (X : va_W) (nb : Nat) (x1 : Int32) (sc : Nat → Nat → Int32) (ar : Nat → Nat → Int32) (fr : Nat → Nat → Nat) (r0 : Int32) (sc0 : Nat → Nat → Int32) (ar0 : Nat → Nat → Int32) (fr0 : Nat → Nat → Nat) (hf : f_X5_voids nb x1 sc ar fr = some (r0, sc0, ar0, fr0)) (hret : ∀ (pc : Nat) (lv : List (Nat × Value)), decode cX5_voids pc = .ok (.ireturn, 1) → narrow .int (.int r0) = .int r0 → St l G A Γ 0 0 (wC G ad nb (xP ad h a0 X) sc0 ar0 fr0) pc lv [.int r0]) : St l G A Γ 0 0 (wC G ad nb (xP ad h a0 X) sc ar fr) 0 [(0, .ref h), (1, .int x1)] [] := by
  unfold f_X5_voids at hf
  refine s_iload_n C 1 dX5_voids_0 rfl ?_
  obtain ⟨r1, er1, hf⟩ := bx_inv hf
  refine s_cS_I (As := [.int x1]) (rest := []) C (c_X5_isNoSide l G A _ x1 _ er1) g_RX5_20 hd_X5_isNoSide rfl ⟨Nat.le_of_ble_eq_true rfl, Nat.le_of_ble_eq_true rfl⟩ rfl (Nat.le_of_ble_eq_true rfl) ⟨Nat.le_of_ble_eq_true rfl, Nat.le_of_ble_eq_true rfl⟩ dX5_voids_1 ?_
  refine s_if_eq C 9 dX5_voids_4 (by decide) (fun c2 => ?_) (fun c2 => ?_)
  · rw [if_pos c2] at hf
    refine s_aload_n C 0 dX5_voids_9 rfl ?_
    refine gf_180 C (72 * nb + 0) (wC_tail 0) rfl dX5_voids_10 ?_
    obtain ⟨g3, hf⟩ := gd_inv hf
    refine gf_150 C 0 (wC_2 g3) rfl dX5_voids_13 ?_
    refine s_iload_n C 1 dX5_voids_16 rfl ?_
    obtain ⟨p4, hkp4, hip4, ep4, hf⟩ := rdR_inv hf
    refine s_aald9 C hkp4 hip4 dX5_voids_17 ?_
    refine s_nmr ep4 ?_
    refine s_astore_n C [(2, .ref (ad p4)), (0, .ref h), (1, .int x1)] dX5_voids_18 (by decide) rfl ?_
    refine s_aload_n C 0 dX5_voids_19 rfl ?_
    obtain ⟨g5, hf⟩ := gd_inv hf
    refine gf_58 C p4 (wC_0 g5) rfl dX5_voids_20 ?_
    obtain ⟨r6, er6, hf⟩ := bx_inv hf
    refine s_cS_I (As := [.int (sc p4 6)]) (rest := []) C (c_X5_asNumber l G A _ (sc p4 6) _ er6) g_RX5_82 hd_X5_asNumber rfl ⟨Nat.le_of_ble_eq_true rfl, Nat.le_of_ble_eq_true rfl⟩ rfl (Nat.le_of_ble_eq_true rfl) ⟨Nat.le_of_ble_eq_true rfl, Nat.le_of_ble_eq_true rfl⟩ dX5_voids_23 ?_
    refine s_istore_n C [(3, .int r6), (2, .ref (ad p4)), (0, .ref h), (1, .int x1)] dX5_voids_26 (by decide) rfl ?_
    refine s_aload_n C 1 dX5_voids_27 rfl ?_
    refine s_iconst (v := 1) C dX5_voids_28 (by decide) ?_
    obtain ⟨sc7, esc7, hf⟩ := bd_inv hf
    refine pf_58 C p4 (wC_0 g5) rfl rfl (Nat.le_of_ble_eq_true rfl) (wC G ad nb (xP ad h a0 X) sc7 ar fr) (wC_s0_6 g5 esc7) dX5_voids_29 ?_
    refine s_iload_n C 0 dX5_voids_32 rfl ?_
    exact rC_I hf (vp_nar_int _) hret dX5_voids_33
  · rw [if_neg c2] at hf
    refine s_iconst (v := (-1)) C dX5_voids_7 (by decide) ?_
    exact rC_I hf (vp_nar_int _) hret dX5_voids_8
theorem c_X5_voids (l : Launch) (G : GG) (A : Nat → Prop) (ad : Nat → Nat) (h : Nat) (a0 : Nat) (X : va_W) (nb : Nat) (x1 : Int32) (sc : Nat → Nat → Int32) (ar : Nat → Nat → Int32) (fr : Nat → Nat → Nat) (r0 : Int32) (sc0 : Nat → Nat → Int32) (ar0 : Nat → Nat → Int32) (fr0 : Nat → Nat → Nat) (hf : f_X5_voids nb x1 sc ar fr = some (r0, sc0, ar0, fr0)) : MI l yX5_voids cX5_voids 4 .int ({ frames := 1, cells := 0, slots := 0, locals := 20 } : Room) G A (wC G ad nb (xP ad h a0 X) sc ar fr) [.ref h, .int x1] r0 (wC G ad nb (xP ad h a0 X) sc0 ar0 fr0) :=
  e_I (by decide) (Nat.le_of_ble_eq_true rfl) (fun Γ C hret => k_X5_voids C _ _ _ _ _ _ _ _ _ _ _ _ _ hf hret)
def f_X5_bend (nb : Nat) (x1 : Int32) (x2 : Int32) (x3 : Int32) (x4 : Int32) (sc : Nat → Nat → Int32) (ar : Nat → Nat → Int32) (fr : Nat → Nat → Nat) : Option (Int32 × (Nat → Nat → Int32) × (Nat → Nat → Int32) × (Nat → Nat → Nat)) :=
  bC (f_X5_isNoFrame nb x1 x2 sc ar fr) fun r1 sc2 ar3 fr4 =>
  if r1 = 0 then (if x4 < 1 then (some ((-1), sc2, ar3, fr4))
  else (if x4 ≤ 255 then (gd (pk nb 2 0) <|
  rdR nb 12 2 (0 + 18) x1 ((0 + 18) + 1 + 26 * (x1 : Int32).toNatClampNeg) fun p9 =>
  gd (pk nb 4 p9) <|
  rdR nb 10 12 (p9 + 1) x2 (fr4 (p9 + 1) (x2 : Int32).toNatClampNeg) fun p11 =>
  if x3 < 0 then (some ((-1), sc2, ar3, fr4))
  else (gd (pk nb 1 p11) <|
  if x3 < (sc2 p11 1) then (rdA nb ar3 (p11 + 1) x3 fun v15 =>
  bd ((v15 ^^^ x4)) fun y16 =>
  wrA nb ar3 (p11 + 1) x3 y16 fun ar17 =>
  rdA nb ar17 (p11 + 1) x3 fun v18 =>
  some (v18, sc2, ar17, fr4))
  else (some ((-1), sc2, ar3, fr4))))
  else (some ((-1), sc2, ar3, fr4))))
  else (some ((-1), sc2, ar3, fr4))
set_option maxHeartbeats 4000000 in
set_option maxRecDepth 100000 in
theorem k_X5_bend {l : Launch} {G : GG} {A : Nat → Prop} {Γ : Cx} (C : CX G A Γ cX5_bend RX5 ({ frames := 2, cells := 0, slots := 0, locals := 42 } : Room) 6) (ad : Nat → Nat) (h : Nat) (a0 : Nat) (X : va_W) (nb : Nat) (x1 : Int32) (x2 : Int32) (x3 : Int32) (x4 : Int32) (sc : Nat → Nat → Int32) (ar : Nat → Nat → Int32) (fr : Nat → Nat → Nat) (r0 : Int32) (sc0 : Nat → Nat → Int32) (ar0 : Nat → Nat → Int32) (fr0 : Nat → Nat → Nat) (hf : f_X5_bend nb x1 x2 x3 x4 sc ar fr = some (r0, sc0, ar0, fr0)) (hret : ∀ (pc : Nat) (lv : List (Nat × Value)), decode cX5_bend pc = .ok (.ireturn, 1) → narrow .int (.int r0) = .int r0 → St l G A Γ 0 0 (wC G ad nb (xP ad h a0 X) sc0 ar0 fr0) pc lv [.int r0]) : St l G A Γ 0 0 (wC G ad nb (xP ad h a0 X) sc ar fr) 0 [(0, .ref h), (1, .int x1), (2, .int x2), (3, .int x3), (4, .int x4)] [] := by
  unfold f_X5_bend at hf
  refine s_aload_n C 0 dX5_bend_0 rfl ?_
  refine s_iload_n C 1 dX5_bend_1 rfl ?_
  refine s_iload_n C 2 dX5_bend_2 rfl ?_
  obtain ⟨r1, sc2, ar3, fr4, er1, hf⟩ := bC_inv hf
  refine s_cV_I (As := [.int x1, .int x2]) (rest := []) (ci := 5) (q := 72 * nb + 0) C (c_X5_isNoFrame l G A ad h a0 X nb x1 x2 sc ar fr _ _ _ _ er1) g_RX5_86 hd_X5_isNoFrame rfl ⟨Nat.le_of_ble_eq_true rfl, Nat.le_of_ble_eq_true rfl⟩ rfl (wC_tail 0) rfl (Nat.le_of_ble_eq_true rfl) ⟨Nat.le_of_ble_eq_true rfl, Nat.le_of_ble_eq_true rfl⟩ dX5_bend_3 ?_
  refine s_if_ne C 23 dX5_bend_6 (by decide) (fun c5 => ?_) (fun c5 => ?_)
  · rw [if_neg c5] at hf
    refine s_iconst (v := (-1)) C dX5_bend_23 (by decide) ?_
    exact rC_I hf (vp_nar_int _) hret dX5_bend_24
  · rw [if_pos c5] at hf
    refine s_iload C 4 dX5_bend_9 rfl ?_
    refine s_iconst (v := 1) C dX5_bend_11 (by decide) ?_
    refine s_icmp_lt C 23 dX5_bend_12 (by decide) (fun c6 => ?_) (fun c6 => ?_)
    · rw [if_pos c6] at hf
      refine s_iconst (v := (-1)) C dX5_bend_23 (by decide) ?_
      exact rC_I hf (vp_nar_int _) hret dX5_bend_24
    · rw [if_neg c6] at hf
      refine s_iload C 4 dX5_bend_15 rfl ?_
      refine s_sipush (v := 255) C dX5_bend_17 (by decide) ?_
      refine s_icmp_le C 25 dX5_bend_20 (by decide) (fun c7 => ?_) (fun c7 => ?_)
      · rw [if_pos c7] at hf
        refine s_aload_n C 0 dX5_bend_25 rfl ?_
        refine gf_180 C (72 * nb + 0) (wC_tail 0) rfl dX5_bend_26 ?_
        obtain ⟨g8, hf⟩ := gd_inv hf
        refine gf_152 C 0 (wC_2 g8) rfl dX5_bend_29 ?_
        refine s_iload_n C 1 dX5_bend_32 rfl ?_
        obtain ⟨p9, hkp9, hip9, ep9, hf⟩ := rdR_inv hf
        refine s_aald12 C hkp9 hip9 dX5_bend_33 ?_
        refine s_nmr ep9 ?_
        obtain ⟨g10, hf⟩ := gd_inv hf
        refine gf_140 C p9 (wC_4 g10) rfl dX5_bend_34 ?_
        refine s_iload_n C 2 dX5_bend_37 rfl ?_
        obtain ⟨p11, hkp11, hip11, ep11, hf⟩ := rdR_inv hf
        refine s_aald10 C hkp11 hip11 dX5_bend_38 ?_
        refine s_nmr ep11 ?_
        refine s_astore C [(5, .ref (ad p11)), (0, .ref h), (1, .int x1), (2, .int x2), (3, .int x3), (4, .int x4)] dX5_bend_39 (by decide) rfl ?_
        refine s_iload_n C 4 dX5_bend_41 rfl ?_
        refine s_if_lt C 54 dX5_bend_42 (by decide) (fun c12 => ?_) (fun c12 => ?_)
        · rw [if_pos c12] at hf
          refine s_iconst (v := (-1)) C dX5_bend_54 (by decide) ?_
          exact rC_I hf (vp_nar_int _) hret dX5_bend_55
        · rw [if_neg c12] at hf
          refine s_iload_n C 4 dX5_bend_45 rfl ?_
          refine s_aload C 0 dX5_bend_46 rfl ?_
          obtain ⟨g13, hf⟩ := gd_inv hf
          refine gf_128 C p11 (wC_1 g13) rfl dX5_bend_48 ?_
          refine s_icmp_lt C 56 dX5_bend_51 (by decide) (fun c14 => ?_) (fun c14 => ?_)
          · rw [if_pos c14] at hf
            refine s_aload C 0 dX5_bend_56 rfl ?_
            refine gf_125 C p11 (wC_1 g13) rfl dX5_bend_58 ?_
            refine s_iload_n C 4 dX5_bend_61 rfl ?_
            refine s_dup2 C dX5_bend_62 rfl rfl ?_
            obtain ⟨v15, hkv15, hiv15, ev15, hf⟩ := rdA_inv hf
            refine s_ciald C hkv15 hiv15 dX5_bend_63 ?_
            refine s_nmi ev15 ?_
            refine s_iload C 5 dX5_bend_64 rfl ?_
            refine s_ixor C dX5_bend_66 ?_
            obtain ⟨y16, ey16, hf⟩ := bd_inv hf
            refine s_nmi ey16 ?_
            obtain ⟨ar17, hkar17, hiar17, ear17, hf⟩ := wrA_inv hf
            refine s_ciast C hkar17 hiar17 ear17 dX5_bend_67 ?_
            refine s_aload C 0 dX5_bend_68 rfl ?_
            refine gf_125 C p11 (wC_1 g13) rfl dX5_bend_70 ?_
            refine s_iload_n C 4 dX5_bend_73 rfl ?_
            obtain ⟨v18, hkv18, hiv18, ev18, hf⟩ := rdA_inv hf
            refine s_ciald C hkv18 hiv18 dX5_bend_74 ?_
            refine s_nmi ev18 ?_
            exact rC_I hf (vp_nar_int _) hret dX5_bend_75
          · rw [if_neg c14] at hf
            refine s_iconst (v := (-1)) C dX5_bend_54 (by decide) ?_
            exact rC_I hf (vp_nar_int _) hret dX5_bend_55
      · rw [if_neg c7] at hf
        refine s_iconst (v := (-1)) C dX5_bend_23 (by decide) ?_
        exact rC_I hf (vp_nar_int _) hret dX5_bend_24
theorem c_X5_bend (l : Launch) (G : GG) (A : Nat → Prop) (ad : Nat → Nat) (h : Nat) (a0 : Nat) (X : va_W) (nb : Nat) (x1 : Int32) (x2 : Int32) (x3 : Int32) (x4 : Int32) (sc : Nat → Nat → Int32) (ar : Nat → Nat → Int32) (fr : Nat → Nat → Nat) (r0 : Int32) (sc0 : Nat → Nat → Int32) (ar0 : Nat → Nat → Int32) (fr0 : Nat → Nat → Nat) (hf : f_X5_bend nb x1 x2 x3 x4 sc ar fr = some (r0, sc0, ar0, fr0)) : MI l yX5_bend cX5_bend 6 .int ({ frames := 2, cells := 0, slots := 0, locals := 42 } : Room) G A (wC G ad nb (xP ad h a0 X) sc ar fr) [.ref h, .int x1, .int x2, .int x3, .int x4] r0 (wC G ad nb (xP ad h a0 X) sc0 ar0 fr0) :=
  e_I (by decide) (Nat.le_of_ble_eq_true rfl) (fun Γ C hret => k_X5_bend C _ _ _ _ _ _ _ _ _ _ _ _ _ _ _ _ hf hret)
def f_X5_lose (nb : Nat) (x1 : Int32) (x2 : Int32) (sc : Nat → Nat → Int32) (ar : Nat → Nat → Int32) (fr : Nat → Nat → Nat) : Option (Int32 × (Nat → Nat → Int32) × (Nat → Nat → Int32) × (Nat → Nat → Nat)) :=
  bC (f_X5_isNoFrame nb x1 x2 sc ar fr) fun r1 sc2 ar3 fr4 =>
  if r1 = 0 then (gd (pk nb 2 0) <|
  rdR nb 12 2 (0 + 18) x1 ((0 + 18) + 1 + 26 * (x1 : Int32).toNatClampNeg) fun p7 =>
  gd (pk nb 4 p7) <|
  bC (f_X4_takeOff nb p7 x2 sc2 ar3 fr4) fun r8 sc9 ar10 fr11 =>
  some ((sc9 p7 1), sc9, ar10, fr11))
  else (some ((-1), sc2, ar3, fr4))
set_option maxHeartbeats 4000000 in
set_option maxRecDepth 100000 in
theorem k_X5_lose {l : Launch} {G : GG} {A : Nat → Prop} {Γ : Cx} (C : CX G A Γ cX5_lose RX5 ({ frames := 2, cells := 0, slots := 0, locals := 42 } : Room) 4) (ad : Nat → Nat) (h : Nat) (a0 : Nat) (X : va_W) (nb : Nat) (x1 : Int32) (x2 : Int32) (sc : Nat → Nat → Int32) (ar : Nat → Nat → Int32) (fr : Nat → Nat → Nat) (r0 : Int32) (sc0 : Nat → Nat → Int32) (ar0 : Nat → Nat → Int32) (fr0 : Nat → Nat → Nat) (hf : f_X5_lose nb x1 x2 sc ar fr = some (r0, sc0, ar0, fr0)) (hret : ∀ (pc : Nat) (lv : List (Nat × Value)), decode cX5_lose pc = .ok (.ireturn, 1) → narrow .int (.int r0) = .int r0 → St l G A Γ 0 0 (wC G ad nb (xP ad h a0 X) sc0 ar0 fr0) pc lv [.int r0]) : St l G A Γ 0 0 (wC G ad nb (xP ad h a0 X) sc ar fr) 0 [(0, .ref h), (1, .int x1), (2, .int x2)] [] := by
  unfold f_X5_lose at hf
  refine s_aload_n C 0 dX5_lose_0 rfl ?_
  refine s_iload_n C 1 dX5_lose_1 rfl ?_
  refine s_iload_n C 2 dX5_lose_2 rfl ?_
  obtain ⟨r1, sc2, ar3, fr4, er1, hf⟩ := bC_inv hf
  refine s_cV_I (As := [.int x1, .int x2]) (rest := []) (ci := 5) (q := 72 * nb + 0) C (c_X5_isNoFrame l G A ad h a0 X nb x1 x2 sc ar fr _ _ _ _ er1) g_RX5_86 hd_X5_isNoFrame rfl ⟨Nat.le_of_ble_eq_true rfl, Nat.le_of_ble_eq_true rfl⟩ rfl (wC_tail 0) rfl (Nat.le_of_ble_eq_true rfl) ⟨Nat.le_of_ble_eq_true rfl, Nat.le_of_ble_eq_true rfl⟩ dX5_lose_3 ?_
  refine s_if_eq C 11 dX5_lose_6 (by decide) (fun c5 => ?_) (fun c5 => ?_)
  · rw [if_pos c5] at hf
    refine s_aload_n C 0 dX5_lose_11 rfl ?_
    refine gf_180 C (72 * nb + 0) (wC_tail 0) rfl dX5_lose_12 ?_
    obtain ⟨g6, hf⟩ := gd_inv hf
    refine gf_152 C 0 (wC_2 g6) rfl dX5_lose_15 ?_
    refine s_iload_n C 1 dX5_lose_18 rfl ?_
    obtain ⟨p7, hkp7, hip7, ep7, hf⟩ := rdR_inv hf
    refine s_aald12 C hkp7 hip7 dX5_lose_19 ?_
    refine s_nmr ep7 ?_
    refine s_astore_n C [(3, .ref (ad p7)), (0, .ref h), (1, .int x1), (2, .int x2)] dX5_lose_20 (by decide) rfl ?_
    refine s_aload_n C 0 dX5_lose_21 rfl ?_
    refine s_iload_n C 3 dX5_lose_22 rfl ?_
    obtain ⟨g12, hf⟩ := gd_inv hf
    obtain ⟨r8, sc9, ar10, fr11, er8, hf⟩ := bC_inv hf
    refine s_cV_R (As := [.int x2]) (rest := []) (ci := 4) (q := p7) C (c_X4_takeOff l G A ad (xP ad h a0 X) nb p7 x2 sc2 ar3 fr4 _ _ _ _ er8) g_RX5_108 hd_X4_takeOff rfl ⟨Nat.le_of_ble_eq_true rfl, Nat.le_of_ble_eq_true rfl⟩ rfl (wC_4 g12) rfl (Nat.le_of_ble_eq_true rfl) ⟨Nat.le_of_ble_eq_true rfl, Nat.le_of_ble_eq_true rfl⟩ dX5_lose_23 ?_
    refine s_pop C dX5_lose_26 rfl ?_
    refine s_aload_n C 0 dX5_lose_27 rfl ?_
    refine gf_143 C p7 (wC_4 g12) rfl dX5_lose_28 ?_
    exact rC_I hf (vp_nar_int _) hret dX5_lose_31
  · rw [if_neg c5] at hf
    refine s_iconst (v := (-1)) C dX5_lose_9 (by decide) ?_
    exact rC_I hf (vp_nar_int _) hret dX5_lose_10
theorem c_X5_lose (l : Launch) (G : GG) (A : Nat → Prop) (ad : Nat → Nat) (h : Nat) (a0 : Nat) (X : va_W) (nb : Nat) (x1 : Int32) (x2 : Int32) (sc : Nat → Nat → Int32) (ar : Nat → Nat → Int32) (fr : Nat → Nat → Nat) (r0 : Int32) (sc0 : Nat → Nat → Int32) (ar0 : Nat → Nat → Int32) (fr0 : Nat → Nat → Nat) (hf : f_X5_lose nb x1 x2 sc ar fr = some (r0, sc0, ar0, fr0)) : MI l yX5_lose cX5_lose 4 .int ({ frames := 2, cells := 0, slots := 0, locals := 42 } : Room) G A (wC G ad nb (xP ad h a0 X) sc ar fr) [.ref h, .int x1, .int x2] r0 (wC G ad nb (xP ad h a0 X) sc0 ar0 fr0) :=
  e_I (by decide) (Nat.le_of_ble_eq_true rfl) (fun Γ C hret => k_X5_lose C _ _ _ _ _ _ _ _ _ _ _ _ _ _ hf hret)
def f_X5_twice (nb : Nat) (x1 : Int32) (x2 : Int32) (sc : Nat → Nat → Int32) (ar : Nat → Nat → Int32) (fr : Nat → Nat → Nat) : Option (Int32 × (Nat → Nat → Int32) × (Nat → Nat → Int32) × (Nat → Nat → Nat)) :=
  bC (f_X5_isNoFrame nb x1 x2 sc ar fr) fun r1 sc2 ar3 fr4 =>
  if r1 = 0 then (gd (pk nb 2 0) <|
  rdR nb 12 2 (0 + 18) x1 ((0 + 18) + 1 + 26 * (x1 : Int32).toNatClampNeg) fun p7 =>
  gd (pk nb 4 p7) <|
  if (sc2 p7 1) < 12 then (bCv (f_X4_repeat nb p7 x2 sc2 ar3 fr4) fun sc11 ar12 fr13 =>
  some ((sc11 p7 1), sc11, ar12, fr13))
  else (some ((-3), sc2, ar3, fr4)))
  else (some ((-1), sc2, ar3, fr4))
set_option maxHeartbeats 4000000 in
set_option maxRecDepth 100000 in
theorem k_X5_twice {l : Launch} {G : GG} {A : Nat → Prop} {Γ : Cx} (C : CX G A Γ cX5_twice RX5 ({ frames := 3, cells := 0, slots := 0, locals := 62 } : Room) 4) (ad : Nat → Nat) (h : Nat) (a0 : Nat) (X : va_W) (nb : Nat) (x1 : Int32) (x2 : Int32) (sc : Nat → Nat → Int32) (ar : Nat → Nat → Int32) (fr : Nat → Nat → Nat) (r0 : Int32) (sc0 : Nat → Nat → Int32) (ar0 : Nat → Nat → Int32) (fr0 : Nat → Nat → Nat) (hf : f_X5_twice nb x1 x2 sc ar fr = some (r0, sc0, ar0, fr0)) (hret : ∀ (pc : Nat) (lv : List (Nat × Value)), decode cX5_twice pc = .ok (.ireturn, 1) → narrow .int (.int r0) = .int r0 → St l G A Γ 0 0 (wC G ad nb (xP ad h a0 X) sc0 ar0 fr0) pc lv [.int r0]) : St l G A Γ 0 0 (wC G ad nb (xP ad h a0 X) sc ar fr) 0 [(0, .ref h), (1, .int x1), (2, .int x2)] [] := by
  unfold f_X5_twice at hf
  refine s_aload_n C 0 dX5_twice_0 rfl ?_
  refine s_iload_n C 1 dX5_twice_1 rfl ?_
  refine s_iload_n C 2 dX5_twice_2 rfl ?_
  obtain ⟨r1, sc2, ar3, fr4, er1, hf⟩ := bC_inv hf
  refine s_cV_I (As := [.int x1, .int x2]) (rest := []) (ci := 5) (q := 72 * nb + 0) C (c_X5_isNoFrame l G A ad h a0 X nb x1 x2 sc ar fr _ _ _ _ er1) g_RX5_86 hd_X5_isNoFrame rfl ⟨Nat.le_of_ble_eq_true rfl, Nat.le_of_ble_eq_true rfl⟩ rfl (wC_tail 0) rfl (Nat.le_of_ble_eq_true rfl) ⟨Nat.le_of_ble_eq_true rfl, Nat.le_of_ble_eq_true rfl⟩ dX5_twice_3 ?_
  refine s_if_eq C 11 dX5_twice_6 (by decide) (fun c5 => ?_) (fun c5 => ?_)
  · rw [if_pos c5] at hf
    refine s_aload_n C 0 dX5_twice_11 rfl ?_
    refine gf_180 C (72 * nb + 0) (wC_tail 0) rfl dX5_twice_12 ?_
    obtain ⟨g6, hf⟩ := gd_inv hf
    refine gf_152 C 0 (wC_2 g6) rfl dX5_twice_15 ?_
    refine s_iload_n C 1 dX5_twice_18 rfl ?_
    obtain ⟨p7, hkp7, hip7, ep7, hf⟩ := rdR_inv hf
    refine s_aald12 C hkp7 hip7 dX5_twice_19 ?_
    refine s_nmr ep7 ?_
    refine s_astore_n C [(3, .ref (ad p7)), (0, .ref h), (1, .int x1), (2, .int x2)] dX5_twice_20 (by decide) rfl ?_
    refine s_aload_n C 0 dX5_twice_21 rfl ?_
    obtain ⟨g8, hf⟩ := gd_inv hf
    refine gf_143 C p7 (wC_4 g8) rfl dX5_twice_22 ?_
    refine s_bipush (v := 12) C dX5_twice_25 (by decide) ?_
    refine s_icmp_lt C 33 dX5_twice_27 (by decide) (fun c9 => ?_) (fun c9 => ?_)
    · rw [if_pos c9] at hf
      refine s_aload_n C 0 dX5_twice_33 rfl ?_
      refine s_iload_n C 3 dX5_twice_34 rfl ?_
      obtain ⟨sc11, ar12, fr13, er10, hf⟩ := bCv_inv hf
      refine s_cV_V (As := [.int x2]) (rest := []) (ci := 4) (q := p7) C (c_X4_repeat l G A ad (xP ad h a0 X) nb p7 x2 sc2 ar3 fr4 _ _ _ er10) g_RX5_115 hd_X4_repeat rfl ⟨Nat.le_of_ble_eq_true rfl, Nat.le_of_ble_eq_true rfl⟩ rfl (wC_4 g8) rfl (Nat.le_of_ble_eq_true rfl) ⟨Nat.le_of_ble_eq_true rfl, Nat.le_of_ble_eq_true rfl⟩ dX5_twice_35 ?_
      refine s_aload_n C 0 dX5_twice_38 rfl ?_
      refine gf_143 C p7 (wC_4 g8) rfl dX5_twice_39 ?_
      exact rC_I hf (vp_nar_int _) hret dX5_twice_42
    · rw [if_neg c9] at hf
      refine s_bipush (v := (-3)) C dX5_twice_30 (by decide) ?_
      exact rC_I hf (vp_nar_int _) hret dX5_twice_32
  · rw [if_neg c5] at hf
    refine s_iconst (v := (-1)) C dX5_twice_9 (by decide) ?_
    exact rC_I hf (vp_nar_int _) hret dX5_twice_10
theorem c_X5_twice (l : Launch) (G : GG) (A : Nat → Prop) (ad : Nat → Nat) (h : Nat) (a0 : Nat) (X : va_W) (nb : Nat) (x1 : Int32) (x2 : Int32) (sc : Nat → Nat → Int32) (ar : Nat → Nat → Int32) (fr : Nat → Nat → Nat) (r0 : Int32) (sc0 : Nat → Nat → Int32) (ar0 : Nat → Nat → Int32) (fr0 : Nat → Nat → Nat) (hf : f_X5_twice nb x1 x2 sc ar fr = some (r0, sc0, ar0, fr0)) : MI l yX5_twice cX5_twice 4 .int ({ frames := 3, cells := 0, slots := 0, locals := 62 } : Room) G A (wC G ad nb (xP ad h a0 X) sc ar fr) [.ref h, .int x1, .int x2] r0 (wC G ad nb (xP ad h a0 X) sc0 ar0 fr0) :=
  e_I (by decide) (Nat.le_of_ble_eq_true rfl) (fun Γ C hret => k_X5_twice C _ _ _ _ _ _ _ _ _ _ _ _ _ _ hf hret)
def f_X5_wire (nb : Nat) (x1 : Int32) (x2 : Int32) (x3 : Int32) (sc : Nat → Nat → Int32) (ar : Nat → Nat → Int32) (fr : Nat → Nat → Nat) : Option (Int32 × (Nat → Nat → Int32) × (Nat → Nat → Int32) × (Nat → Nat → Nat)) :=
  bx (f_X5_isNoSide x1) fun r1 =>
  if r1 = 0 then (if x2 = (-1) then (gd (pk nb 2 0) <|
  rdR nb 12 2 (0 + 18) x1 ((0 + 18) + 1 + 26 * (x1 : Int32).toNatClampNeg) fun p29 =>
  gd (pk nb 4 p29) <|
  some ((sc p29 1), sc, ar, fr))
  else (bC (f_X5_isNoFrame nb x1 x2 sc ar fr) fun r4 sc5 ar6 fr7 =>
  if r4 = 0 then (if x3 < 0 then (some ((-1), sc5, ar6, fr7))
  else (if x3 ≤ 35 then (gd (pk nb 2 0) <|
  rdR nb 12 2 (0 + 18) x1 ((0 + 18) + 1 + 26 * (x1 : Int32).toNatClampNeg) fun p12 =>
  gd (pk nb 4 p12) <|
  rdR nb 10 12 (p12 + 1) x2 (fr7 (p12 + 1) (x2 : Int32).toNatClampNeg) fun p14 =>
  if (x3 : Int32) = 0 then (gd (pk nb 1 p14) <|
  some ((sc5 p14 1), sc5, ar6, fr7))
  else if (x3 : Int32) = 1 then (gd (pk nb 1 p14) <|
  some (((sc5 p14 2) - (sc5 0 3)), sc5, ar6, fr7))
  else if (x3 : Int32) = 2 then (gd (pk nb 1 p14) <|
  bC (f_X1_readAs nb p14 sc5 ar6 fr7) fun r20 sc21 ar22 fr23 =>
  some (r20, sc21, ar22, fr23))
  else (gd (pk nb 1 p14) <|
  if (sc5 p14 1) ≤ (x3 - 3) then (some ((-4), sc5, ar6, fr7))
  else (rdA nb ar6 (p14 + 1) (x3 - 3) fun v27 =>
  some (v27, sc5, ar6, fr7))))
  else (some ((-1), sc5, ar6, fr7))))
  else (some ((-1), sc5, ar6, fr7))))
  else (some ((-1), sc, ar, fr))
set_option maxHeartbeats 4000000 in
set_option maxRecDepth 100000 in
theorem k_X5_wire {l : Launch} {G : GG} {A : Nat → Prop} {Γ : Cx} (C : CX G A Γ cX5_wire RX5 ({ frames := 3, cells := 0, slots := 0, locals := 76 } : Room) 5) (ad : Nat → Nat) (h : Nat) (a0 : Nat) (X : va_W) (nb : Nat) (x1 : Int32) (x2 : Int32) (x3 : Int32) (sc : Nat → Nat → Int32) (ar : Nat → Nat → Int32) (fr : Nat → Nat → Nat) (r0 : Int32) (sc0 : Nat → Nat → Int32) (ar0 : Nat → Nat → Int32) (fr0 : Nat → Nat → Nat) (hf : f_X5_wire nb x1 x2 x3 sc ar fr = some (r0, sc0, ar0, fr0)) (hret : ∀ (pc : Nat) (lv : List (Nat × Value)), decode cX5_wire pc = .ok (.ireturn, 1) → narrow .int (.int r0) = .int r0 → St l G A Γ 0 0 (wC G ad nb (xP ad h a0 X) sc0 ar0 fr0) pc lv [.int r0]) : St l G A Γ 0 0 (wC G ad nb (xP ad h a0 X) sc ar fr) 0 [(0, .ref h), (1, .int x1), (2, .int x2), (3, .int x3)] [] := by
  unfold f_X5_wire at hf
  refine s_iload_n C 1 dX5_wire_0 rfl ?_
  obtain ⟨r1, er1, hf⟩ := bx_inv hf
  refine s_cS_I (As := [.int x1]) (rest := []) C (c_X5_isNoSide l G A _ x1 _ er1) g_RX5_20 hd_X5_isNoSide rfl ⟨Nat.le_of_ble_eq_true rfl, Nat.le_of_ble_eq_true rfl⟩ rfl (Nat.le_of_ble_eq_true rfl) ⟨Nat.le_of_ble_eq_true rfl, Nat.le_of_ble_eq_true rfl⟩ dX5_wire_1 ?_
  refine s_if_eq C 9 dX5_wire_4 (by decide) (fun c2 => ?_) (fun c2 => ?_)
  · rw [if_pos c2] at hf
    refine s_iload_n C 2 dX5_wire_9 rfl ?_
    refine s_iconst (v := (-1)) C dX5_wire_10 (by decide) ?_
    refine s_icmp_ne C 27 dX5_wire_11 (by decide) (fun c3 => ?_) (fun c3 => ?_)
    · rw [if_neg c3] at hf
      refine s_aload_n C 0 dX5_wire_27 rfl ?_
      refine s_iload_n C 1 dX5_wire_28 rfl ?_
      refine s_iload_n C 2 dX5_wire_29 rfl ?_
      obtain ⟨r4, sc5, ar6, fr7, er4, hf⟩ := bC_inv hf
      refine s_cV_I (As := [.int x1, .int x2]) (rest := []) (ci := 5) (q := 72 * nb + 0) C (c_X5_isNoFrame l G A ad h a0 X nb x1 x2 sc ar fr _ _ _ _ er4) g_RX5_86 hd_X5_isNoFrame rfl ⟨Nat.le_of_ble_eq_true rfl, Nat.le_of_ble_eq_true rfl⟩ rfl (wC_tail 0) rfl (Nat.le_of_ble_eq_true rfl) ⟨Nat.le_of_ble_eq_true rfl, Nat.le_of_ble_eq_true rfl⟩ dX5_wire_30 ?_
      refine s_if_ne C 46 dX5_wire_33 (by decide) (fun c8 => ?_) (fun c8 => ?_)
      · rw [if_neg c8] at hf
        refine s_iconst (v := (-1)) C dX5_wire_46 (by decide) ?_
        exact rC_I hf (vp_nar_int _) hret dX5_wire_47
      · rw [if_pos c8] at hf
        refine s_iload_n C 3 dX5_wire_36 rfl ?_
        refine s_if_lt C 46 dX5_wire_37 (by decide) (fun c9 => ?_) (fun c9 => ?_)
        · rw [if_pos c9] at hf
          refine s_iconst (v := (-1)) C dX5_wire_46 (by decide) ?_
          exact rC_I hf (vp_nar_int _) hret dX5_wire_47
        · rw [if_neg c9] at hf
          refine s_iload_n C 3 dX5_wire_40 rfl ?_
          refine s_bipush (v := 35) C dX5_wire_41 (by decide) ?_
          refine s_icmp_le C 48 dX5_wire_43 (by decide) (fun c10 => ?_) (fun c10 => ?_)
          · rw [if_pos c10] at hf
            refine s_aload_n C 0 dX5_wire_48 rfl ?_
            refine gf_180 C (72 * nb + 0) (wC_tail 0) rfl dX5_wire_49 ?_
            obtain ⟨g11, hf⟩ := gd_inv hf
            refine gf_152 C 0 (wC_2 g11) rfl dX5_wire_52 ?_
            refine s_iload_n C 1 dX5_wire_55 rfl ?_
            obtain ⟨p12, hkp12, hip12, ep12, hf⟩ := rdR_inv hf
            refine s_aald12 C hkp12 hip12 dX5_wire_56 ?_
            refine s_nmr ep12 ?_
            obtain ⟨g13, hf⟩ := gd_inv hf
            refine gf_140 C p12 (wC_4 g13) rfl dX5_wire_57 ?_
            refine s_iload_n C 2 dX5_wire_60 rfl ?_
            obtain ⟨p14, hkp14, hip14, ep14, hf⟩ := rdR_inv hf
            refine s_aald10 C hkp14 hip14 dX5_wire_61 ?_
            refine s_nmr ep14 ?_
            refine s_astore C [(4, .ref (ad p14)), (0, .ref h), (1, .int x1), (2, .int x2), (3, .int x3)] dX5_wire_62 (by decide) rfl ?_
            refine s_iload_n C 4 dX5_wire_64 rfl ?_
            by_cases c15 : (x3 : Int32) = 0
            · rw [if_pos c15] at hf
              refine s_tableIn C 92 dX5_wire_65 (by rw [c15]; decide) (by rw [c15]; decide) (by rw [c15]; rfl) (by decide) ?_
              refine s_aload C 0 dX5_wire_92 rfl ?_
              obtain ⟨g16, hf⟩ := gd_inv hf
              refine gf_128 C p14 (wC_1 g16) rfl dX5_wire_94 ?_
              exact rC_I hf (vp_nar_int _) hret dX5_wire_97
            rw [if_neg c15] at hf
            by_cases c17 : (x3 : Int32) = 1
            · rw [if_pos c17] at hf
              refine s_tableIn C 98 dX5_wire_65 (by rw [c17]; decide) (by rw [c17]; decide) (by rw [c17]; rfl) (by decide) ?_
              refine s_aload C 0 dX5_wire_98 rfl ?_
              obtain ⟨g18, hf⟩ := gd_inv hf
              refine gf_131 C p14 (wC_1 g18) rfl dX5_wire_100 ?_
              refine s_aload_n C 1 dX5_wire_103 rfl ?_
              refine gf_180 C (72 * nb + 0) (wC_tail 0) rfl dX5_wire_104 ?_
              refine gf_156 C 0 (wC_2 g11) rfl dX5_wire_107 ?_
              refine s_isub C dX5_wire_110 ?_
              exact rC_I hf (vp_nar_int _) hret dX5_wire_111
            rw [if_neg c17] at hf
            by_cases c19 : (x3 : Int32) = 2
            · rw [if_pos c19] at hf
              refine s_tableIn C 112 dX5_wire_65 (by rw [c19]; decide) (by rw [c19]; decide) (by rw [c19]; rfl) (by decide) ?_
              refine s_aload C 0 dX5_wire_112 rfl ?_
              obtain ⟨g24, hf⟩ := gd_inv hf
              obtain ⟨r20, sc21, ar22, fr23, er20, hf⟩ := bC_inv hf
              refine s_cV_I (As := []) (rest := []) (ci := 1) (q := p14) C (c_X1_readAs l G A ad (xP ad h a0 X) nb p14 sc5 ar6 fr7 _ _ _ _ er20) g_RX5_122 hd_X1_readAs rfl ⟨Nat.le_of_ble_eq_true rfl, Nat.le_of_ble_eq_true rfl⟩ rfl (wC_1 g24) rfl (Nat.le_of_ble_eq_true rfl) ⟨Nat.le_of_ble_eq_true rfl, Nat.le_of_ble_eq_true rfl⟩ dX5_wire_114 ?_
              exact rC_I hf (vp_nar_int _) hret dX5_wire_117
            rw [if_neg c19] at hf
            have hout : (x3 : Int32).toInt < 0 ∨ 2 < (x3 : Int32).toInt := by
              have q0 := i32_ne c15 (0) rfl
              have q1 := i32_ne c17 (1) rfl
              have q2 := i32_ne c19 (2) rfl
              omega
            refine s_tableOut C 118 dX5_wire_65 hout (by decide) ?_
            refine s_iload_n C 4 dX5_wire_118 rfl ?_
            refine s_iconst (v := 3) C dX5_wire_119 (by decide) ?_
            refine s_isub C dX5_wire_120 ?_
            refine s_aload C 0 dX5_wire_121 rfl ?_
            obtain ⟨g25, hf⟩ := gd_inv hf
            refine gf_128 C p14 (wC_1 g25) rfl dX5_wire_123 ?_
            refine s_icmp_ge C 141 dX5_wire_126 (by decide) (fun c26 => ?_) (fun c26 => ?_)
            · rw [if_pos c26] at hf
              refine s_bipush (v := (-4)) C dX5_wire_141 (by decide) ?_
              exact rC_I hf (vp_nar_int _) hret dX5_wire_143
            · rw [if_neg c26] at hf
              refine s_aload C 0 dX5_wire_129 rfl ?_
              refine gf_125 C p14 (wC_1 g25) rfl dX5_wire_131 ?_
              refine s_iload_n C 4 dX5_wire_134 rfl ?_
              refine s_iconst (v := 3) C dX5_wire_135 (by decide) ?_
              refine s_isub C dX5_wire_136 ?_
              obtain ⟨v27, hkv27, hiv27, ev27, hf⟩ := rdA_inv hf
              refine s_ciald C hkv27 hiv27 dX5_wire_137 ?_
              refine s_nmi ev27 ?_
              refine s_goto C 143 dX5_wire_138 (by decide) ?_
              exact rC_I hf (vp_nar_int _) hret dX5_wire_143
          · rw [if_neg c10] at hf
            refine s_iconst (v := (-1)) C dX5_wire_46 (by decide) ?_
            exact rC_I hf (vp_nar_int _) hret dX5_wire_47
    · rw [if_pos c3] at hf
      refine s_aload_n C 0 dX5_wire_14 rfl ?_
      refine gf_180 C (72 * nb + 0) (wC_tail 0) rfl dX5_wire_15 ?_
      obtain ⟨g28, hf⟩ := gd_inv hf
      refine gf_152 C 0 (wC_2 g28) rfl dX5_wire_18 ?_
      refine s_iload_n C 1 dX5_wire_21 rfl ?_
      obtain ⟨p29, hkp29, hip29, ep29, hf⟩ := rdR_inv hf
      refine s_aald12 C hkp29 hip29 dX5_wire_22 ?_
      refine s_nmr ep29 ?_
      obtain ⟨g30, hf⟩ := gd_inv hf
      refine gf_143 C p29 (wC_4 g30) rfl dX5_wire_23 ?_
      exact rC_I hf (vp_nar_int _) hret dX5_wire_26
  · rw [if_neg c2] at hf
    refine s_iconst (v := (-1)) C dX5_wire_7 (by decide) ?_
    exact rC_I hf (vp_nar_int _) hret dX5_wire_8
theorem c_X5_wire (l : Launch) (G : GG) (A : Nat → Prop) (ad : Nat → Nat) (h : Nat) (a0 : Nat) (X : va_W) (nb : Nat) (x1 : Int32) (x2 : Int32) (x3 : Int32) (sc : Nat → Nat → Int32) (ar : Nat → Nat → Int32) (fr : Nat → Nat → Nat) (r0 : Int32) (sc0 : Nat → Nat → Int32) (ar0 : Nat → Nat → Int32) (fr0 : Nat → Nat → Nat) (hf : f_X5_wire nb x1 x2 x3 sc ar fr = some (r0, sc0, ar0, fr0)) : MI l yX5_wire cX5_wire 5 .int ({ frames := 3, cells := 0, slots := 0, locals := 76 } : Room) G A (wC G ad nb (xP ad h a0 X) sc ar fr) [.ref h, .int x1, .int x2, .int x3] r0 (wC G ad nb (xP ad h a0 X) sc0 ar0 fr0) :=
  e_I (by decide) (Nat.le_of_ble_eq_true rfl) (fun Γ C hret => k_X5_wire C _ _ _ _ _ _ _ _ _ _ _ _ _ _ _ hf hret)
def f_X5_end (nb : Nat) (x1 : Int32) (x2 : Int32) (sc : Nat → Nat → Int32) (ar : Nat → Nat → Int32) (fr : Nat → Nat → Nat) : Option (Int32 × (Nat → Nat → Int32) × (Nat → Nat → Int32) × (Nat → Nat → Nat)) :=
  bx (f_X5_isNoSide x1) fun r1 =>
  if r1 = 0 then (gd (pk nb 2 0) <|
  rdR nb 9 2 (0 + 1) x1 ((0 + 1) + 1 + 8 * (x1 : Int32).toNatClampNeg) fun p4 =>
  gd (pk nb 0 p4) <|
  bC (f_X0_tell nb p4 x2 sc ar fr) fun r5 sc6 ar7 fr8 =>
  some (r5, sc6, ar7, fr8))
  else (some ((-1), sc, ar, fr))
set_option maxHeartbeats 4000000 in
set_option maxRecDepth 100000 in
theorem k_X5_end {l : Launch} {G : GG} {A : Nat → Prop} {Γ : Cx} (C : CX G A Γ cX5_end RX5 ({ frames := 3, cells := 0, slots := 0, locals := 61 } : Room) 3) (ad : Nat → Nat) (h : Nat) (a0 : Nat) (X : va_W) (nb : Nat) (x1 : Int32) (x2 : Int32) (sc : Nat → Nat → Int32) (ar : Nat → Nat → Int32) (fr : Nat → Nat → Nat) (r0 : Int32) (sc0 : Nat → Nat → Int32) (ar0 : Nat → Nat → Int32) (fr0 : Nat → Nat → Nat) (hf : f_X5_end nb x1 x2 sc ar fr = some (r0, sc0, ar0, fr0)) (hret : ∀ (pc : Nat) (lv : List (Nat × Value)), decode cX5_end pc = .ok (.ireturn, 1) → narrow .int (.int r0) = .int r0 → St l G A Γ 0 0 (wC G ad nb (xP ad h a0 X) sc0 ar0 fr0) pc lv [.int r0]) : St l G A Γ 0 0 (wC G ad nb (xP ad h a0 X) sc ar fr) 0 [(0, .ref h), (1, .int x1), (2, .int x2)] [] := by
  unfold f_X5_end at hf
  refine s_iload_n C 1 dX5_end_0 rfl ?_
  obtain ⟨r1, er1, hf⟩ := bx_inv hf
  refine s_cS_I (As := [.int x1]) (rest := []) C (c_X5_isNoSide l G A _ x1 _ er1) g_RX5_20 hd_X5_isNoSide rfl ⟨Nat.le_of_ble_eq_true rfl, Nat.le_of_ble_eq_true rfl⟩ rfl (Nat.le_of_ble_eq_true rfl) ⟨Nat.le_of_ble_eq_true rfl, Nat.le_of_ble_eq_true rfl⟩ dX5_end_1 ?_
  refine s_if_eq C 9 dX5_end_4 (by decide) (fun c2 => ?_) (fun c2 => ?_)
  · rw [if_pos c2] at hf
    refine s_aload_n C 0 dX5_end_9 rfl ?_
    refine gf_180 C (72 * nb + 0) (wC_tail 0) rfl dX5_end_10 ?_
    obtain ⟨g3, hf⟩ := gd_inv hf
    refine gf_150 C 0 (wC_2 g3) rfl dX5_end_13 ?_
    refine s_iload_n C 1 dX5_end_16 rfl ?_
    obtain ⟨p4, hkp4, hip4, ep4, hf⟩ := rdR_inv hf
    refine s_aald9 C hkp4 hip4 dX5_end_17 ?_
    refine s_nmr ep4 ?_
    refine s_iload_n C 2 dX5_end_18 rfl ?_
    obtain ⟨g9, hf⟩ := gd_inv hf
    obtain ⟨r5, sc6, ar7, fr8, er5, hf⟩ := bC_inv hf
    refine s_cV_I (As := [.int x2]) (rest := []) (ci := 0) (q := p4) C (c_X0_tell l G A ad (xP ad h a0 X) nb p4 x2 sc ar fr _ _ _ _ er5) g_RX5_125 hd_X0_tell rfl ⟨Nat.le_of_ble_eq_true rfl, Nat.le_of_ble_eq_true rfl⟩ rfl (wC_0 g9) rfl (Nat.le_of_ble_eq_true rfl) ⟨Nat.le_of_ble_eq_true rfl, Nat.le_of_ble_eq_true rfl⟩ dX5_end_19 ?_
    exact rC_I hf (vp_nar_int _) hret dX5_end_22
  · rw [if_neg c2] at hf
    refine s_iconst (v := (-1)) C dX5_end_7 (by decide) ?_
    exact rC_I hf (vp_nar_int _) hret dX5_end_8
theorem c_X5_end (l : Launch) (G : GG) (A : Nat → Prop) (ad : Nat → Nat) (h : Nat) (a0 : Nat) (X : va_W) (nb : Nat) (x1 : Int32) (x2 : Int32) (sc : Nat → Nat → Int32) (ar : Nat → Nat → Int32) (fr : Nat → Nat → Nat) (r0 : Int32) (sc0 : Nat → Nat → Int32) (ar0 : Nat → Nat → Int32) (fr0 : Nat → Nat → Nat) (hf : f_X5_end nb x1 x2 sc ar fr = some (r0, sc0, ar0, fr0)) : MI l yX5_end cX5_end 3 .int ({ frames := 3, cells := 0, slots := 0, locals := 61 } : Room) G A (wC G ad nb (xP ad h a0 X) sc ar fr) [.ref h, .int x1, .int x2] r0 (wC G ad nb (xP ad h a0 X) sc0 ar0 fr0) :=
  e_I (by decide) (Nat.le_of_ble_eq_true rfl) (fun Γ C hret => k_X5_end C _ _ _ _ _ _ _ _ _ _ _ _ _ _ hf hret)
def f_X5_up (nb : Nat) (x1 : Int32) (x2 : Int32) (sc : Nat → Nat → Int32) (ar : Nat → Nat → Int32) (fr : Nat → Nat → Nat) : Option (Int32 × (Nat → Nat → Int32) × (Nat → Nat → Int32) × (Nat → Nat → Nat)) :=
  bx (f_X5_isNoSide x1) fun r1 =>
  if r1 = 0 then (if 0 ≤ x2 then (gd (pk nb 2 0) <|
  rdR nb 9 2 (0 + 1) x1 ((0 + 1) + 1 + 8 * (x1 : Int32).toNatClampNeg) fun p5 =>
  gd (pk nb 0 p5) <|
  bC (f_X0_keptUp nb p5 sc ar fr) fun r6 sc7 ar8 fr9 =>
  if r6 ≤ x2 then (some ((-4), sc7, ar8, fr9))
  else (gd (pk nb 3 (p5 + 5)) <|
  rdA nb ar8 ((p5 + 5) + 1) x2 fun v13 =>
  some (v13, sc7, ar8, fr9)))
  else (some ((-1), sc, ar, fr)))
  else (some ((-1), sc, ar, fr))
set_option maxHeartbeats 4000000 in
set_option maxRecDepth 100000 in
theorem k_X5_up {l : Launch} {G : GG} {A : Nat → Prop} {Γ : Cx} (C : CX G A Γ cX5_up RX5 ({ frames := 2, cells := 0, slots := 0, locals := 33 } : Room) 4) (ad : Nat → Nat) (h : Nat) (a0 : Nat) (X : va_W) (nb : Nat) (x1 : Int32) (x2 : Int32) (sc : Nat → Nat → Int32) (ar : Nat → Nat → Int32) (fr : Nat → Nat → Nat) (r0 : Int32) (sc0 : Nat → Nat → Int32) (ar0 : Nat → Nat → Int32) (fr0 : Nat → Nat → Nat) (hf : f_X5_up nb x1 x2 sc ar fr = some (r0, sc0, ar0, fr0)) (hret : ∀ (pc : Nat) (lv : List (Nat × Value)), decode cX5_up pc = .ok (.ireturn, 1) → narrow .int (.int r0) = .int r0 → St l G A Γ 0 0 (wC G ad nb (xP ad h a0 X) sc0 ar0 fr0) pc lv [.int r0]) : St l G A Γ 0 0 (wC G ad nb (xP ad h a0 X) sc ar fr) 0 [(0, .ref h), (1, .int x1), (2, .int x2)] [] := by
  unfold f_X5_up at hf
  refine s_iload_n C 1 dX5_up_0 rfl ?_
  obtain ⟨r1, er1, hf⟩ := bx_inv hf
  refine s_cS_I (As := [.int x1]) (rest := []) C (c_X5_isNoSide l G A _ x1 _ er1) g_RX5_20 hd_X5_isNoSide rfl ⟨Nat.le_of_ble_eq_true rfl, Nat.le_of_ble_eq_true rfl⟩ rfl (Nat.le_of_ble_eq_true rfl) ⟨Nat.le_of_ble_eq_true rfl, Nat.le_of_ble_eq_true rfl⟩ dX5_up_1 ?_
  refine s_if_ne C 11 dX5_up_4 (by decide) (fun c2 => ?_) (fun c2 => ?_)
  · rw [if_neg c2] at hf
    refine s_iconst (v := (-1)) C dX5_up_11 (by decide) ?_
    exact rC_I hf (vp_nar_int _) hret dX5_up_12
  · rw [if_pos c2] at hf
    refine s_iload_n C 2 dX5_up_7 rfl ?_
    refine s_if_ge C 13 dX5_up_8 (by decide) (fun c3 => ?_) (fun c3 => ?_)
    · rw [if_pos c3] at hf
      refine s_aload_n C 0 dX5_up_13 rfl ?_
      refine gf_180 C (72 * nb + 0) (wC_tail 0) rfl dX5_up_14 ?_
      obtain ⟨g4, hf⟩ := gd_inv hf
      refine gf_150 C 0 (wC_2 g4) rfl dX5_up_17 ?_
      refine s_iload_n C 1 dX5_up_20 rfl ?_
      obtain ⟨p5, hkp5, hip5, ep5, hf⟩ := rdR_inv hf
      refine s_aald9 C hkp5 hip5 dX5_up_21 ?_
      refine s_nmr ep5 ?_
      refine s_astore_n C [(3, .ref (ad p5)), (0, .ref h), (1, .int x1), (2, .int x2)] dX5_up_22 (by decide) rfl ?_
      refine s_iload_n C 3 dX5_up_23 rfl ?_
      refine s_aload_n C 0 dX5_up_24 rfl ?_
      obtain ⟨g10, hf⟩ := gd_inv hf
      obtain ⟨r6, sc7, ar8, fr9, er6, hf⟩ := bC_inv hf
      refine s_cV_I (As := []) (rest := [.int x2]) (ci := 0) (q := p5) C (c_X0_keptUp l G A ad (xP ad h a0 X) nb p5 sc ar fr _ _ _ _ er6) g_RX5_128 hd_X0_keptUp rfl ⟨Nat.le_of_ble_eq_true rfl, Nat.le_of_ble_eq_true rfl⟩ rfl (wC_0 g10) rfl (Nat.le_of_ble_eq_true rfl) ⟨Nat.le_of_ble_eq_true rfl, Nat.le_of_ble_eq_true rfl⟩ dX5_up_25 ?_
      refine s_icmp_ge C 43 dX5_up_28 (by decide) (fun c11 => ?_) (fun c11 => ?_)
      · rw [if_pos c11] at hf
        refine s_bipush (v := (-4)) C dX5_up_43 (by decide) ?_
        exact rC_I hf (vp_nar_int _) hret dX5_up_45
      · rw [if_neg c11] at hf
        refine s_aload_n C 0 dX5_up_31 rfl ?_
        refine gf_75 C p5 (wC_0 g10) rfl dX5_up_32 ?_
        obtain ⟨g12, hf⟩ := gd_inv hf
        refine gf_39 C (p5 + 5) (wC_3 g12) rfl dX5_up_35 ?_
        refine s_iload_n C 3 dX5_up_38 rfl ?_
        obtain ⟨v13, hkv13, hiv13, ev13, hf⟩ := rdA_inv hf
        refine s_ciald C hkv13 hiv13 dX5_up_39 ?_
        refine s_nmi ev13 ?_
        refine s_goto C 45 dX5_up_40 (by decide) ?_
        exact rC_I hf (vp_nar_int _) hret dX5_up_45
    · rw [if_neg c3] at hf
      refine s_iconst (v := (-1)) C dX5_up_11 (by decide) ?_
      exact rC_I hf (vp_nar_int _) hret dX5_up_12
theorem c_X5_up (l : Launch) (G : GG) (A : Nat → Prop) (ad : Nat → Nat) (h : Nat) (a0 : Nat) (X : va_W) (nb : Nat) (x1 : Int32) (x2 : Int32) (sc : Nat → Nat → Int32) (ar : Nat → Nat → Int32) (fr : Nat → Nat → Nat) (r0 : Int32) (sc0 : Nat → Nat → Int32) (ar0 : Nat → Nat → Int32) (fr0 : Nat → Nat → Nat) (hf : f_X5_up nb x1 x2 sc ar fr = some (r0, sc0, ar0, fr0)) : MI l yX5_up cX5_up 4 .int ({ frames := 2, cells := 0, slots := 0, locals := 33 } : Room) G A (wC G ad nb (xP ad h a0 X) sc ar fr) [.ref h, .int x1, .int x2] r0 (wC G ad nb (xP ad h a0 X) sc0 ar0 fr0) :=
  e_I (by decide) (Nat.le_of_ble_eq_true rfl) (fun Γ C hret => k_X5_up C _ _ _ _ _ _ _ _ _ _ _ _ _ _ hf hret)
def f_X5_upByte (nb : Nat) (x1 : Int32) (x2 : Int32) (x3 : Int32) (sc : Nat → Nat → Int32) (ar : Nat → Nat → Int32) (fr : Nat → Nat → Nat) : Option (Int32 × (Nat → Nat → Int32) × (Nat → Nat → Int32) × (Nat → Nat → Nat)) :=
  bx (f_X5_isNoSide x1) fun r1 =>
  if r1 = 0 then (if x2 < 0 then (some ((-1), sc, ar, fr))
  else (if 0 ≤ x3 then (gd (pk nb 2 0) <|
  rdR nb 9 2 (0 + 1) x1 ((0 + 1) + 1 + 8 * (x1 : Int32).toNatClampNeg) fun p6 =>
  gd (pk nb 0 p6) <|
  bC (f_X0_keptUp nb p6 sc ar fr) fun r7 sc8 ar9 fr10 =>
  if r7 ≤ x2 then (some ((-4), sc8, ar9, fr10))
  else (gd (pk nb 3 (p6 + 5)) <|
  rdA nb ar9 ((p6 + 5) + 1) x2 fun v14 =>
  if x3 < v14 then (bC (f_X3_byteOf nb (p6 + 5) x2 x3 sc8 ar9 fr10) fun r16 sc17 ar18 fr19 =>
  some (r16, sc17, ar18, fr19))
  else (some ((-4), sc8, ar9, fr10))))
  else (some ((-1), sc, ar, fr))))
  else (some ((-1), sc, ar, fr))
set_option maxHeartbeats 4000000 in
set_option maxRecDepth 100000 in
theorem k_X5_upByte {l : Launch} {G : GG} {A : Nat → Prop} {Γ : Cx} (C : CX G A Γ cX5_upByte RX5 ({ frames := 2, cells := 0, slots := 0, locals := 33 } : Room) 5) (ad : Nat → Nat) (h : Nat) (a0 : Nat) (X : va_W) (nb : Nat) (x1 : Int32) (x2 : Int32) (x3 : Int32) (sc : Nat → Nat → Int32) (ar : Nat → Nat → Int32) (fr : Nat → Nat → Nat) (r0 : Int32) (sc0 : Nat → Nat → Int32) (ar0 : Nat → Nat → Int32) (fr0 : Nat → Nat → Nat) (hf : f_X5_upByte nb x1 x2 x3 sc ar fr = some (r0, sc0, ar0, fr0)) (hret : ∀ (pc : Nat) (lv : List (Nat × Value)), decode cX5_upByte pc = .ok (.ireturn, 1) → narrow .int (.int r0) = .int r0 → St l G A Γ 0 0 (wC G ad nb (xP ad h a0 X) sc0 ar0 fr0) pc lv [.int r0]) : St l G A Γ 0 0 (wC G ad nb (xP ad h a0 X) sc ar fr) 0 [(0, .ref h), (1, .int x1), (2, .int x2), (3, .int x3)] [] := by
  unfold f_X5_upByte at hf
  refine s_iload_n C 1 dX5_upByte_0 rfl ?_
  obtain ⟨r1, er1, hf⟩ := bx_inv hf
  refine s_cS_I (As := [.int x1]) (rest := []) C (c_X5_isNoSide l G A _ x1 _ er1) g_RX5_20 hd_X5_isNoSide rfl ⟨Nat.le_of_ble_eq_true rfl, Nat.le_of_ble_eq_true rfl⟩ rfl (Nat.le_of_ble_eq_true rfl) ⟨Nat.le_of_ble_eq_true rfl, Nat.le_of_ble_eq_true rfl⟩ dX5_upByte_1 ?_
  refine s_if_ne C 15 dX5_upByte_4 (by decide) (fun c2 => ?_) (fun c2 => ?_)
  · rw [if_neg c2] at hf
    refine s_iconst (v := (-1)) C dX5_upByte_15 (by decide) ?_
    exact rC_I hf (vp_nar_int _) hret dX5_upByte_16
  · rw [if_pos c2] at hf
    refine s_iload_n C 2 dX5_upByte_7 rfl ?_
    refine s_if_lt C 15 dX5_upByte_8 (by decide) (fun c3 => ?_) (fun c3 => ?_)
    · rw [if_pos c3] at hf
      refine s_iconst (v := (-1)) C dX5_upByte_15 (by decide) ?_
      exact rC_I hf (vp_nar_int _) hret dX5_upByte_16
    · rw [if_neg c3] at hf
      refine s_iload_n C 3 dX5_upByte_11 rfl ?_
      refine s_if_ge C 17 dX5_upByte_12 (by decide) (fun c4 => ?_) (fun c4 => ?_)
      · rw [if_pos c4] at hf
        refine s_aload_n C 0 dX5_upByte_17 rfl ?_
        refine gf_180 C (72 * nb + 0) (wC_tail 0) rfl dX5_upByte_18 ?_
        obtain ⟨g5, hf⟩ := gd_inv hf
        refine gf_150 C 0 (wC_2 g5) rfl dX5_upByte_21 ?_
        refine s_iload_n C 1 dX5_upByte_24 rfl ?_
        obtain ⟨p6, hkp6, hip6, ep6, hf⟩ := rdR_inv hf
        refine s_aald9 C hkp6 hip6 dX5_upByte_25 ?_
        refine s_nmr ep6 ?_
        refine s_astore C [(4, .ref (ad p6)), (0, .ref h), (1, .int x1), (2, .int x2), (3, .int x3)] dX5_upByte_26 (by decide) rfl ?_
        refine s_iload_n C 3 dX5_upByte_28 rfl ?_
        refine s_aload C 0 dX5_upByte_29 rfl ?_
        obtain ⟨g11, hf⟩ := gd_inv hf
        obtain ⟨r7, sc8, ar9, fr10, er7, hf⟩ := bC_inv hf
        refine s_cV_I (As := []) (rest := [.int x2]) (ci := 0) (q := p6) C (c_X0_keptUp l G A ad (xP ad h a0 X) nb p6 sc ar fr _ _ _ _ er7) g_RX5_128 hd_X0_keptUp rfl ⟨Nat.le_of_ble_eq_true rfl, Nat.le_of_ble_eq_true rfl⟩ rfl (wC_0 g11) rfl (Nat.le_of_ble_eq_true rfl) ⟨Nat.le_of_ble_eq_true rfl, Nat.le_of_ble_eq_true rfl⟩ dX5_upByte_31 ?_
        refine s_icmp_ge C 51 dX5_upByte_34 (by decide) (fun c12 => ?_) (fun c12 => ?_)
        · rw [if_pos c12] at hf
          refine s_bipush (v := (-4)) C dX5_upByte_51 (by decide) ?_
          exact rC_I hf (vp_nar_int _) hret dX5_upByte_53
        · rw [if_neg c12] at hf
          refine s_iload_n C 4 dX5_upByte_37 rfl ?_
          refine s_aload C 0 dX5_upByte_38 rfl ?_
          refine gf_75 C p6 (wC_0 g11) rfl dX5_upByte_40 ?_
          obtain ⟨g13, hf⟩ := gd_inv hf
          refine gf_39 C (p6 + 5) (wC_3 g13) rfl dX5_upByte_43 ?_
          refine s_iload_n C 3 dX5_upByte_46 rfl ?_
          obtain ⟨v14, hkv14, hiv14, ev14, hf⟩ := rdA_inv hf
          refine s_ciald C hkv14 hiv14 dX5_upByte_47 ?_
          refine s_nmi ev14 ?_
          refine s_icmp_lt C 54 dX5_upByte_48 (by decide) (fun c15 => ?_) (fun c15 => ?_)
          · rw [if_pos c15] at hf
            refine s_aload C 0 dX5_upByte_54 rfl ?_
            refine gf_75 C p6 (wC_0 g11) rfl dX5_upByte_56 ?_
            refine s_iload_n C 3 dX5_upByte_59 rfl ?_
            refine s_iload_n C 4 dX5_upByte_60 rfl ?_
            obtain ⟨r16, sc17, ar18, fr19, er16, hf⟩ := bC_inv hf
            refine s_cV_I (As := [.int x2, .int x3]) (rest := []) (ci := 3) (q := (p6 + 5)) C (c_X3_byteOf l G A ad (xP ad h a0 X) nb (p6 + 5) x2 x3 sc8 ar9 fr10 _ _ _ _ er16) g_RX5_140 hd_X3_byteOf rfl ⟨Nat.le_of_ble_eq_true rfl, Nat.le_of_ble_eq_true rfl⟩ rfl (wC_3 g13) rfl (Nat.le_of_ble_eq_true rfl) ⟨Nat.le_of_ble_eq_true rfl, Nat.le_of_ble_eq_true rfl⟩ dX5_upByte_61 ?_
            exact rC_I hf (vp_nar_int _) hret dX5_upByte_64
          · rw [if_neg c15] at hf
            refine s_bipush (v := (-4)) C dX5_upByte_51 (by decide) ?_
            exact rC_I hf (vp_nar_int _) hret dX5_upByte_53
      · rw [if_neg c4] at hf
        refine s_iconst (v := (-1)) C dX5_upByte_15 (by decide) ?_
        exact rC_I hf (vp_nar_int _) hret dX5_upByte_16
theorem c_X5_upByte (l : Launch) (G : GG) (A : Nat → Prop) (ad : Nat → Nat) (h : Nat) (a0 : Nat) (X : va_W) (nb : Nat) (x1 : Int32) (x2 : Int32) (x3 : Int32) (sc : Nat → Nat → Int32) (ar : Nat → Nat → Int32) (fr : Nat → Nat → Nat) (r0 : Int32) (sc0 : Nat → Nat → Int32) (ar0 : Nat → Nat → Int32) (fr0 : Nat → Nat → Nat) (hf : f_X5_upByte nb x1 x2 x3 sc ar fr = some (r0, sc0, ar0, fr0)) : MI l yX5_upByte cX5_upByte 5 .int ({ frames := 2, cells := 0, slots := 0, locals := 33 } : Room) G A (wC G ad nb (xP ad h a0 X) sc ar fr) [.ref h, .int x1, .int x2, .int x3] r0 (wC G ad nb (xP ad h a0 X) sc0 ar0 fr0) :=
  e_I (by decide) (Nat.le_of_ble_eq_true rfl) (fun Γ C hret => k_X5_upByte C _ _ _ _ _ _ _ _ _ _ _ _ _ _ _ hf hret)
def f_X5_count (nb : Nat) (x1 : Int32) (sc : Nat → Nat → Int32) (ar : Nat → Nat → Int32) (fr : Nat → Nat → Nat) : Option (Int32 × (Nat → Nat → Int32) × (Nat → Nat → Int32) × (Nat → Nat → Nat)) :=
  if x1 < 0 then (some ((-1), sc, ar, fr))
  else (if x1 ≤ 17 then (if (x1 : Int32) = 0 then (gd (pk nb 2 0) <|
  some ((sc 0 3), sc, ar, fr))
  else if (x1 : Int32) = 1 then (gd (pk nb 2 0) <|
  some ((sc 0 4), sc, ar, fr))
  else if (x1 : Int32) = 17 then (gd (pk nb 2 0) <|
  bC (f_X2_isQuiet nb 0 sc ar fr) fun r8 sc9 ar10 fr11 =>
  bx (f_X5_asNumber r8) fun r13 =>
  some (r13, sc9, ar10, fr11))
  else (gd (pk nb 2 0) <|
  rdA nb ar (0 + 71) x1 fun v15 =>
  some (v15, sc, ar, fr)))
  else (some ((-1), sc, ar, fr)))
set_option maxHeartbeats 4000000 in
set_option maxRecDepth 100000 in
theorem k_X5_count {l : Launch} {G : GG} {A : Nat → Prop} {Γ : Cx} (C : CX G A Γ cX5_count RX5 ({ frames := 3, cells := 0, slots := 0, locals := 60 } : Room) 2) (ad : Nat → Nat) (h : Nat) (a0 : Nat) (X : va_W) (nb : Nat) (x1 : Int32) (sc : Nat → Nat → Int32) (ar : Nat → Nat → Int32) (fr : Nat → Nat → Nat) (r0 : Int32) (sc0 : Nat → Nat → Int32) (ar0 : Nat → Nat → Int32) (fr0 : Nat → Nat → Nat) (hf : f_X5_count nb x1 sc ar fr = some (r0, sc0, ar0, fr0)) (hret : ∀ (pc : Nat) (lv : List (Nat × Value)), decode cX5_count pc = .ok (.ireturn, 1) → narrow .int (.int r0) = .int r0 → St l G A Γ 0 0 (wC G ad nb (xP ad h a0 X) sc0 ar0 fr0) pc lv [.int r0]) : St l G A Γ 0 0 (wC G ad nb (xP ad h a0 X) sc ar fr) 0 [(0, .ref h), (1, .int x1)] [] := by
  unfold f_X5_count at hf
  refine s_iload_n C 1 dX5_count_0 rfl ?_
  refine s_if_lt C 10 dX5_count_1 (by decide) (fun c1 => ?_) (fun c1 => ?_)
  · rw [if_pos c1] at hf
    refine s_iconst (v := (-1)) C dX5_count_10 (by decide) ?_
    exact rC_I hf (vp_nar_int _) hret dX5_count_11
  · rw [if_neg c1] at hf
    refine s_iload_n C 1 dX5_count_4 rfl ?_
    refine s_bipush (v := 17) C dX5_count_5 (by decide) ?_
    refine s_icmp_le C 12 dX5_count_7 (by decide) (fun c2 => ?_) (fun c2 => ?_)
    · rw [if_pos c2] at hf
      refine s_iload_n C 1 dX5_count_12 rfl ?_
      by_cases c3 : (x1 : Int32) = 0
      · rw [if_pos c3] at hf
        refine s_lookup (off := 35) C 48 dX5_count_13 (by decide) (lk_c c3 (by decide)) (by decide) ?_
        refine s_aload_n C 0 dX5_count_48 rfl ?_
        refine gf_180 C (72 * nb + 0) (wC_tail 0) rfl dX5_count_49 ?_
        obtain ⟨g4, hf⟩ := gd_inv hf
        refine gf_156 C 0 (wC_2 g4) rfl dX5_count_52 ?_
        exact rC_I hf (vp_nar_int _) hret dX5_count_55
      rw [if_neg c3] at hf
      by_cases c5 : (x1 : Int32) = 1
      · rw [if_pos c5] at hf
        refine s_lookup (off := 43) C 56 dX5_count_13 (by decide) (lk_c c5 (by decide)) (by decide) ?_
        refine s_aload_n C 0 dX5_count_56 rfl ?_
        refine gf_180 C (72 * nb + 0) (wC_tail 0) rfl dX5_count_57 ?_
        obtain ⟨g6, hf⟩ := gd_inv hf
        refine gf_158 C 0 (wC_2 g6) rfl dX5_count_60 ?_
        exact rC_I hf (vp_nar_int _) hret dX5_count_63
      rw [if_neg c5] at hf
      by_cases c7 : (x1 : Int32) = 17
      · rw [if_pos c7] at hf
        refine s_lookup (off := 51) C 64 dX5_count_13 (by decide) (lk_c c7 (by decide)) (by decide) ?_
        refine s_aload_n C 0 dX5_count_64 rfl ?_
        refine gf_180 C (72 * nb + 0) (wC_tail 0) rfl dX5_count_65 ?_
        obtain ⟨g12, hf⟩ := gd_inv hf
        obtain ⟨r8, sc9, ar10, fr11, er8, hf⟩ := bC_inv hf
        refine s_cV_I (As := []) (rest := []) (ci := 2) (q := 0) C (c_X2_isQuiet l G A ad (xP ad h a0 X) nb 0 sc ar fr _ _ _ _ er8) g_RX5_74 hd_X2_isQuiet rfl ⟨Nat.le_of_ble_eq_true rfl, Nat.le_of_ble_eq_true rfl⟩ rfl (wC_2 g12) rfl (Nat.le_of_ble_eq_true rfl) ⟨Nat.le_of_ble_eq_true rfl, Nat.le_of_ble_eq_true rfl⟩ dX5_count_68 ?_
        obtain ⟨r13, er13, hf⟩ := bx_inv hf
        refine s_cS_I (As := [.int r8]) (rest := []) C (c_X5_asNumber l G A _ r8 _ er13) g_RX5_82 hd_X5_asNumber rfl ⟨Nat.le_of_ble_eq_true rfl, Nat.le_of_ble_eq_true rfl⟩ rfl (Nat.le_of_ble_eq_true rfl) ⟨Nat.le_of_ble_eq_true rfl, Nat.le_of_ble_eq_true rfl⟩ dX5_count_71 ?_
        exact rC_I hf (vp_nar_int _) hret dX5_count_74
      rw [if_neg c7] at hf
      refine s_lookup (off := 62) C 75 dX5_count_13 (by decide) ((lv_osw (k := 0) c3 rfl).trans ((lv_osw (k := 1) c5 rfl).trans ((lv_osw (k := 17) c7 rfl).trans (rfl)))) (by decide) ?_
      refine s_aload_n C 0 dX5_count_75 rfl ?_
      refine gf_180 C (72 * nb + 0) (wC_tail 0) rfl dX5_count_76 ?_
      obtain ⟨g14, hf⟩ := gd_inv hf
      refine gf_154 C 0 (wC_2 g14) rfl dX5_count_79 ?_
      refine s_iload_n C 1 dX5_count_82 rfl ?_
      obtain ⟨v15, hkv15, hiv15, ev15, hf⟩ := rdA_inv hf
      refine s_ciald C hkv15 hiv15 dX5_count_83 ?_
      refine s_nmi ev15 ?_
      exact rC_I hf (vp_nar_int _) hret dX5_count_84
    · rw [if_neg c2] at hf
      refine s_iconst (v := (-1)) C dX5_count_10 (by decide) ?_
      exact rC_I hf (vp_nar_int _) hret dX5_count_11
theorem c_X5_count (l : Launch) (G : GG) (A : Nat → Prop) (ad : Nat → Nat) (h : Nat) (a0 : Nat) (X : va_W) (nb : Nat) (x1 : Int32) (sc : Nat → Nat → Int32) (ar : Nat → Nat → Int32) (fr : Nat → Nat → Nat) (r0 : Int32) (sc0 : Nat → Nat → Int32) (ar0 : Nat → Nat → Int32) (fr0 : Nat → Nat → Nat) (hf : f_X5_count nb x1 sc ar fr = some (r0, sc0, ar0, fr0)) : MI l yX5_count cX5_count 2 .int ({ frames := 3, cells := 0, slots := 0, locals := 60 } : Room) G A (wC G ad nb (xP ad h a0 X) sc ar fr) [.ref h, .int x1] r0 (wC G ad nb (xP ad h a0 X) sc0 ar0 fr0) :=
  e_I (by decide) (Nat.le_of_ble_eq_true rfl) (fun Γ C hret => k_X5_count C _ _ _ _ _ _ _ _ _ _ _ _ _ hf hret)
