def f_X0_waiting (nb : Nat) (x0 : Nat) (sc : Nat → Nat → Int32) (ar : Nat → Nat → Int32) (fr : Nat → Nat → Nat) : Option (Int32 × (Nat → Nat → Int32) × (Nat → Nat → Int32) × (Nat → Nat → Nat)) :=
  gd (pk nb 0 x0) <|
  some (((sc x0 3) - (sc x0 4)), sc, ar, fr)
set_option maxHeartbeats 4000000 in
set_option maxRecDepth 100000 in
theorem k_X0_waiting {l : Launch} {G : GG} {A : Nat → Prop} {Γ : Cx} (C : CX G A Γ cX0_waiting RX0 ({ frames := 0, cells := 0, slots := 0, locals := 0 } : Room) 1) (ad : Nat → Nat) (X : va_W) (nb : Nat) (x0 : Nat) (sc : Nat → Nat → Int32) (ar : Nat → Nat → Int32) (fr : Nat → Nat → Nat) (r0 : Int32) (sc0 : Nat → Nat → Int32) (ar0 : Nat → Nat → Int32) (fr0 : Nat → Nat → Nat) (hf : f_X0_waiting nb x0 sc ar fr = some (r0, sc0, ar0, fr0)) (hret : ∀ (pc : Nat) (lv : List (Nat × Value)), decode cX0_waiting pc = .ok (.ireturn, 1) → narrow .int (.int r0) = .int r0 → St l G A Γ 0 0 (wC G ad nb X sc0 ar0 fr0) pc lv [.int r0]) : St l G A Γ 0 0 (wC G ad nb X sc ar fr) 0 [(0, .ref (ad x0))] [] := by
  unfold f_X0_waiting at hf
  refine s_aload_n C 0 dX0_waiting_0 rfl ?_
  obtain ⟨g1, hf⟩ := gd_inv hf
  refine gf_53 C x0 (wC_0 g1) rfl dX0_waiting_1 ?_
  refine s_aload_n C 0 dX0_waiting_4 rfl ?_
  refine gf_55 C x0 (wC_0 g1) rfl dX0_waiting_5 ?_
  refine s_isub C dX0_waiting_8 ?_
  exact rC_I hf (vp_nar_int _) hret dX0_waiting_9
theorem c_X0_waiting (l : Launch) (G : GG) (A : Nat → Prop) (ad : Nat → Nat) (X : va_W) (nb : Nat) (x0 : Nat) (sc : Nat → Nat → Int32) (ar : Nat → Nat → Int32) (fr : Nat → Nat → Nat) (r0 : Int32) (sc0 : Nat → Nat → Int32) (ar0 : Nat → Nat → Int32) (fr0 : Nat → Nat → Nat) (hf : f_X0_waiting nb x0 sc ar fr = some (r0, sc0, ar0, fr0)) : MI l yX0_waiting cX0_waiting 1 .int ({ frames := 0, cells := 0, slots := 0, locals := 0 } : Room) G A (wC G ad nb X sc ar fr) [.ref (ad x0)] r0 (wC G ad nb X sc0 ar0 fr0) :=
  e_I (by decide) (Nat.le_of_ble_eq_true rfl) (fun Γ C hret => k_X0_waiting C _ _ _ _ _ _ _ _ _ _ _ hf hret)
def f_X0_unacked (nb : Nat) (x0 : Nat) (sc : Nat → Nat → Int32) (ar : Nat → Nat → Int32) (fr : Nat → Nat → Nat) : Option (Int32 × (Nat → Nat → Int32) × (Nat → Nat → Int32) × (Nat → Nat → Nat)) :=
  gd (pk nb 0 x0) <|
  some (((sc x0 4) - (sc x0 5)), sc, ar, fr)
set_option maxHeartbeats 4000000 in
set_option maxRecDepth 100000 in
theorem k_X0_unacked {l : Launch} {G : GG} {A : Nat → Prop} {Γ : Cx} (C : CX G A Γ cX0_unacked RX0 ({ frames := 0, cells := 0, slots := 0, locals := 0 } : Room) 1) (ad : Nat → Nat) (X : va_W) (nb : Nat) (x0 : Nat) (sc : Nat → Nat → Int32) (ar : Nat → Nat → Int32) (fr : Nat → Nat → Nat) (r0 : Int32) (sc0 : Nat → Nat → Int32) (ar0 : Nat → Nat → Int32) (fr0 : Nat → Nat → Nat) (hf : f_X0_unacked nb x0 sc ar fr = some (r0, sc0, ar0, fr0)) (hret : ∀ (pc : Nat) (lv : List (Nat × Value)), decode cX0_unacked pc = .ok (.ireturn, 1) → narrow .int (.int r0) = .int r0 → St l G A Γ 0 0 (wC G ad nb X sc0 ar0 fr0) pc lv [.int r0]) : St l G A Γ 0 0 (wC G ad nb X sc ar fr) 0 [(0, .ref (ad x0))] [] := by
  unfold f_X0_unacked at hf
  refine s_aload_n C 0 dX0_unacked_0 rfl ?_
  obtain ⟨g1, hf⟩ := gd_inv hf
  refine gf_55 C x0 (wC_0 g1) rfl dX0_unacked_1 ?_
  refine s_aload_n C 0 dX0_unacked_4 rfl ?_
  refine gf_57 C x0 (wC_0 g1) rfl dX0_unacked_5 ?_
  refine s_isub C dX0_unacked_8 ?_
  exact rC_I hf (vp_nar_int _) hret dX0_unacked_9
theorem c_X0_unacked (l : Launch) (G : GG) (A : Nat → Prop) (ad : Nat → Nat) (X : va_W) (nb : Nat) (x0 : Nat) (sc : Nat → Nat → Int32) (ar : Nat → Nat → Int32) (fr : Nat → Nat → Nat) (r0 : Int32) (sc0 : Nat → Nat → Int32) (ar0 : Nat → Nat → Int32) (fr0 : Nat → Nat → Nat) (hf : f_X0_unacked nb x0 sc ar fr = some (r0, sc0, ar0, fr0)) : MI l yX0_unacked cX0_unacked 1 .int ({ frames := 0, cells := 0, slots := 0, locals := 0 } : Room) G A (wC G ad nb X sc ar fr) [.ref (ad x0)] r0 (wC G ad nb X sc0 ar0 fr0) :=
  e_I (by decide) (Nat.le_of_ble_eq_true rfl) (fun Γ C hret => k_X0_unacked C _ _ _ _ _ _ _ _ _ _ _ hf hret)
def f_X0_nextNumber (nb : Nat) (x0 : Nat) (sc : Nat → Nat → Int32) (ar : Nat → Nat → Int32) (fr : Nat → Nat → Nat) : Option (Int32 × (Nat → Nat → Int32) × (Nat → Nat → Int32) × (Nat → Nat → Nat)) :=
  gd (pk nb 0 x0) <|
  bx (f_X5_by64 (sc x0 4)) fun r2 =>
  some (r2, sc, ar, fr)
set_option maxHeartbeats 4000000 in
set_option maxRecDepth 100000 in
theorem k_X0_nextNumber {l : Launch} {G : GG} {A : Nat → Prop} {Γ : Cx} (C : CX G A Γ cX0_nextNumber RX0 ({ frames := 1, cells := 0, slots := 0, locals := 20 } : Room) 1) (ad : Nat → Nat) (X : va_W) (nb : Nat) (x0 : Nat) (sc : Nat → Nat → Int32) (ar : Nat → Nat → Int32) (fr : Nat → Nat → Nat) (r0 : Int32) (sc0 : Nat → Nat → Int32) (ar0 : Nat → Nat → Int32) (fr0 : Nat → Nat → Nat) (hf : f_X0_nextNumber nb x0 sc ar fr = some (r0, sc0, ar0, fr0)) (hret : ∀ (pc : Nat) (lv : List (Nat × Value)), decode cX0_nextNumber pc = .ok (.ireturn, 1) → narrow .int (.int r0) = .int r0 → St l G A Γ 0 0 (wC G ad nb X sc0 ar0 fr0) pc lv [.int r0]) : St l G A Γ 0 0 (wC G ad nb X sc ar fr) 0 [(0, .ref (ad x0))] [] := by
  unfold f_X0_nextNumber at hf
  refine s_aload_n C 0 dX0_nextNumber_0 rfl ?_
  obtain ⟨g1, hf⟩ := gd_inv hf
  refine gf_55 C x0 (wC_0 g1) rfl dX0_nextNumber_1 ?_
  obtain ⟨r2, er2, hf⟩ := bx_inv hf
  refine s_cSN_I (As := [.int (sc x0 4)]) (rest := []) C (c_X5_by64 l G A _ (sc x0 4) _ er2) (gd_C tw_303) tw_1 tn_309 tw_302 hd_X5_by64.2 rfl ⟨Nat.le_of_ble_eq_true rfl, Nat.le_of_ble_eq_true rfl⟩ rfl (Nat.le_of_ble_eq_true rfl) ⟨Nat.le_of_ble_eq_true rfl, Nat.le_of_ble_eq_true rfl⟩ dX0_nextNumber_4 ?_
  exact rC_I hf (vp_nar_int _) hret dX0_nextNumber_7
theorem c_X0_nextNumber (l : Launch) (G : GG) (A : Nat → Prop) (ad : Nat → Nat) (X : va_W) (nb : Nat) (x0 : Nat) (sc : Nat → Nat → Int32) (ar : Nat → Nat → Int32) (fr : Nat → Nat → Nat) (r0 : Int32) (sc0 : Nat → Nat → Int32) (ar0 : Nat → Nat → Int32) (fr0 : Nat → Nat → Nat) (hf : f_X0_nextNumber nb x0 sc ar fr = some (r0, sc0, ar0, fr0)) : MI l yX0_nextNumber cX0_nextNumber 1 .int ({ frames := 1, cells := 0, slots := 0, locals := 20 } : Room) G A (wC G ad nb X sc ar fr) [.ref (ad x0)] r0 (wC G ad nb X sc0 ar0 fr0) :=
  e_I (by decide) (Nat.le_of_ble_eq_true rfl) (fun Γ C hret => k_X0_nextNumber C _ _ _ _ _ _ _ _ _ _ _ hf hret)
def f_X0_ackedNumber (nb : Nat) (x0 : Nat) (sc : Nat → Nat → Int32) (ar : Nat → Nat → Int32) (fr : Nat → Nat → Nat) : Option (Int32 × (Nat → Nat → Int32) × (Nat → Nat → Int32) × (Nat → Nat → Nat)) :=
  gd (pk nb 0 x0) <|
  bx (f_X5_by64 ((sc x0 5) - 1)) fun r2 =>
  some (r2, sc, ar, fr)
set_option maxHeartbeats 4000000 in
set_option maxRecDepth 100000 in
theorem k_X0_ackedNumber {l : Launch} {G : GG} {A : Nat → Prop} {Γ : Cx} (C : CX G A Γ cX0_ackedNumber RX0 ({ frames := 1, cells := 0, slots := 0, locals := 20 } : Room) 1) (ad : Nat → Nat) (X : va_W) (nb : Nat) (x0 : Nat) (sc : Nat → Nat → Int32) (ar : Nat → Nat → Int32) (fr : Nat → Nat → Nat) (r0 : Int32) (sc0 : Nat → Nat → Int32) (ar0 : Nat → Nat → Int32) (fr0 : Nat → Nat → Nat) (hf : f_X0_ackedNumber nb x0 sc ar fr = some (r0, sc0, ar0, fr0)) (hret : ∀ (pc : Nat) (lv : List (Nat × Value)), decode cX0_ackedNumber pc = .ok (.ireturn, 1) → narrow .int (.int r0) = .int r0 → St l G A Γ 0 0 (wC G ad nb X sc0 ar0 fr0) pc lv [.int r0]) : St l G A Γ 0 0 (wC G ad nb X sc ar fr) 0 [(0, .ref (ad x0))] [] := by
  unfold f_X0_ackedNumber at hf
  refine s_aload_n C 0 dX0_ackedNumber_0 rfl ?_
  obtain ⟨g1, hf⟩ := gd_inv hf
  refine gf_57 C x0 (wC_0 g1) rfl dX0_ackedNumber_1 ?_
  refine s_iconst (v := 1) C dX0_ackedNumber_4 (by decide) ?_
  refine s_isub C dX0_ackedNumber_5 ?_
  obtain ⟨r2, er2, hf⟩ := bx_inv hf
  refine s_cSN_I (As := [.int ((sc x0 5) - 1)]) (rest := []) C (c_X5_by64 l G A _ ((sc x0 5) - 1) _ er2) (gd_C tw_303) tw_1 tn_309 tw_302 hd_X5_by64.2 rfl ⟨Nat.le_of_ble_eq_true rfl, Nat.le_of_ble_eq_true rfl⟩ rfl (Nat.le_of_ble_eq_true rfl) ⟨Nat.le_of_ble_eq_true rfl, Nat.le_of_ble_eq_true rfl⟩ dX0_ackedNumber_6 ?_
  exact rC_I hf (vp_nar_int _) hret dX0_ackedNumber_9
theorem c_X0_ackedNumber (l : Launch) (G : GG) (A : Nat → Prop) (ad : Nat → Nat) (X : va_W) (nb : Nat) (x0 : Nat) (sc : Nat → Nat → Int32) (ar : Nat → Nat → Int32) (fr : Nat → Nat → Nat) (r0 : Int32) (sc0 : Nat → Nat → Int32) (ar0 : Nat → Nat → Int32) (fr0 : Nat → Nat → Nat) (hf : f_X0_ackedNumber nb x0 sc ar fr = some (r0, sc0, ar0, fr0)) : MI l yX0_ackedNumber cX0_ackedNumber 1 .int ({ frames := 1, cells := 0, slots := 0, locals := 20 } : Room) G A (wC G ad nb X sc ar fr) [.ref (ad x0)] r0 (wC G ad nb X sc0 ar0 fr0) :=
  e_I (by decide) (Nat.le_of_ble_eq_true rfl) (fun Γ C hret => k_X0_ackedNumber C _ _ _ _ _ _ _ _ _ _ _ hf hret)
def f_X0_keptUp (nb : Nat) (x0 : Nat) (sc : Nat → Nat → Int32) (ar : Nat → Nat → Int32) (fr : Nat → Nat → Nat) : Option (Int32 × (Nat → Nat → Int32) × (Nat → Nat → Int32) × (Nat → Nat → Nat)) :=
  gd (pk nb 0 x0) <|
  bd ((if 60 < (sc x0 15) then 60 else (sc x0 15))) fun y2 =>
  some (y2, sc, ar, fr)
set_option maxHeartbeats 4000000 in
set_option maxRecDepth 100000 in
theorem k_X0_keptUp {l : Launch} {G : GG} {A : Nat → Prop} {Γ : Cx} (C : CX G A Γ cX0_keptUp RX0 ({ frames := 1, cells := 0, slots := 0, locals := 13 } : Room) 1) (ad : Nat → Nat) (X : va_W) (nb : Nat) (x0 : Nat) (sc : Nat → Nat → Int32) (ar : Nat → Nat → Int32) (fr : Nat → Nat → Nat) (r0 : Int32) (sc0 : Nat → Nat → Int32) (ar0 : Nat → Nat → Int32) (fr0 : Nat → Nat → Nat) (hf : f_X0_keptUp nb x0 sc ar fr = some (r0, sc0, ar0, fr0)) (hret : ∀ (pc : Nat) (lv : List (Nat × Value)), decode cX0_keptUp pc = .ok (.ireturn, 1) → narrow .int (.int r0) = .int r0 → St l G A Γ 0 0 (wC G ad nb X sc0 ar0 fr0) pc lv [.int r0]) : St l G A Γ 0 0 (wC G ad nb X sc ar fr) 0 [(0, .ref (ad x0))] [] := by
  unfold f_X0_keptUp at hf
  refine s_aload_n C 0 dX0_keptUp_0 rfl ?_
  obtain ⟨g1, hf⟩ := gd_inv hf
  refine gf_76 C x0 (wC_0 g1) rfl dX0_keptUp_1 ?_
  refine s_bipush (v := 60) C dX0_keptUp_4 (by decide) ?_
  refine s_min C tw_338 ⟨Nat.le_of_ble_eq_true rfl, Nat.le_of_ble_eq_true rfl⟩ ⟨Nat.le_of_ble_eq_true rfl, Nat.le_of_ble_eq_true rfl⟩ dX0_keptUp_6 ?_
  obtain ⟨y2, ey2, hf⟩ := bd_inv hf
  refine s_nmi ey2 ?_
  exact rC_I hf (vp_nar_int _) hret dX0_keptUp_9
theorem c_X0_keptUp (l : Launch) (G : GG) (A : Nat → Prop) (ad : Nat → Nat) (X : va_W) (nb : Nat) (x0 : Nat) (sc : Nat → Nat → Int32) (ar : Nat → Nat → Int32) (fr : Nat → Nat → Nat) (r0 : Int32) (sc0 : Nat → Nat → Int32) (ar0 : Nat → Nat → Int32) (fr0 : Nat → Nat → Nat) (hf : f_X0_keptUp nb x0 sc ar fr = some (r0, sc0, ar0, fr0)) : MI l yX0_keptUp cX0_keptUp 1 .int ({ frames := 1, cells := 0, slots := 0, locals := 13 } : Room) G A (wC G ad nb X sc ar fr) [.ref (ad x0)] r0 (wC G ad nb X sc0 ar0 fr0) :=
  e_I (by decide) (Nat.le_of_ble_eq_true rfl) (fun Γ C hret => k_X0_keptUp C _ _ _ _ _ _ _ _ _ _ _ hf hret)
def f_X0_addToDraft_3 (nb : Nat)  : Nat → Nat → Int32 → Int64 → Int32 → (Nat → Nat → Int32) → (Nat → Nat → Int32) → (Nat → Nat → Nat) → Option ((Nat → Nat → Int32) × (Nat → Nat → Int32) × (Nat → Nat → Nat))
  | 0, _, _, _, _, _, _, _ => none
  | fu + 1, x0, x1, x2, x4, sc, ar, fr =>
    if x1 ≤ x4 then (gd (pk nb 0 x0) <|
    bd (((sc x0 1) + x1)) fun y3 =>
    bd (up2 sc x0 1 y3) fun sc4 =>
    some (sc4, ar, fr))
    else (gd (pk nb 0 x0) <|
    bd (((((((x2 : Int64).toUInt64 >>> (((8 * x4) : Int32).toInt64.toUInt64 &&& Int64.toUInt64 63)).toInt64) : Int64).toInt32) &&& 255)) fun y6 =>
    wrA nb ar (x0 + 1) ((sc x0 1) + x4) y6 fun ar7 =>
    bd (x4 + 1) fun y8 =>
    f_X0_addToDraft_3 nb fu x0 x1 x2 y8 sc ar7 fr)
def f_X0_addToDraft (nb : Nat) (x0 : Nat) (x1 : Int32) (x2 : Int64) (sc : Nat → Nat → Int32) (ar : Nat → Nat → Int32) (fr : Nat → Nat → Nat) : Option ((Nat → Nat → Int32) × (Nat → Nat → Int32) × (Nat → Nat → Nat)) :=
  f_X0_addToDraft_3 nb FU x0 x1 x2 0 sc ar fr
set_option maxHeartbeats 4000000 in
set_option maxRecDepth 100000 in
theorem k_X0_addToDraft {l : Launch} {G : GG} {A : Nat → Prop} {Γ : Cx} (C : CX G A Γ cX0_addToDraft RX0 ({ frames := 0, cells := 0, slots := 0, locals := 0 } : Room) 5) (ad : Nat → Nat) (X : va_W) (nb : Nat) (x0 : Nat) (x1 : Int32) (x2 : Int64) (sc : Nat → Nat → Int32) (ar : Nat → Nat → Int32) (fr : Nat → Nat → Nat) (sc0 : Nat → Nat → Int32) (ar0 : Nat → Nat → Int32) (fr0 : Nat → Nat → Nat) (hf : f_X0_addToDraft nb x0 x1 x2 sc ar fr = some (sc0, ar0, fr0)) (hret : ∀ (pc : Nat) (lv : List (Nat × Value)), decode cX0_addToDraft pc = .ok (.return_, 1) → St l G A Γ 0 0 (wC G ad nb X sc0 ar0 fr0) pc lv []) : St l G A Γ 0 0 (wC G ad nb X sc ar fr) 0 [(0, .ref (ad x0)), (1, .int x1), (2, .long x2)] [] := by
  have B_3 : ∀  (fu : Nat) (x0 : Nat) (x1 : Int32) (x2 : Int64) (x4 : Int32) (sc : Nat → Nat → Int32) (ar : Nat → Nat → Int32) (fr : Nat → Nat → Nat), f_X0_addToDraft_3 nb fu x0 x1 x2 x4 sc ar fr = some (sc0, ar0, fr0) → St l G A Γ 0 0 (wC G ad nb X sc ar fr) 3 [(0, .ref (ad x0)), (1, .int x1), (2, .long x2), (4, .int x4)] [] := by
    intro fu
    induction fu with
    | zero => intro x0 x1 x2 x4 sc ar fr hf ; rw [f_X0_addToDraft_3] at hf; cases hf
    | succ fu ih =>
      intro x0 x1 x2 x4 sc ar fr hf 
      rw [f_X0_addToDraft_3] at hf
      refine s_iload C 3 dX0_addToDraft_3 rfl ?_
      refine s_iload_n C 1 dX0_addToDraft_5 rfl ?_
      refine s_icmp_ge C 39 dX0_addToDraft_6 (by decide) (fun c1 => ?_) (fun c1 => ?_)
      · rw [if_pos c1] at hf
        refine s_aload_n C 0 dX0_addToDraft_39 rfl ?_
        refine s_dup C dX0_addToDraft_40 rfl ?_
        obtain ⟨g2, hf⟩ := gd_inv hf
        refine gf_51 C x0 (wC_0 g2) rfl dX0_addToDraft_41 ?_
        refine s_iload_n C 1 dX0_addToDraft_44 rfl ?_
        refine s_iadd C dX0_addToDraft_45 ?_
        obtain ⟨y3, ey3, hf⟩ := bd_inv hf
        refine s_nmi ey3 ?_
        obtain ⟨sc4, esc4, hf⟩ := bd_inv hf
        refine pf_51 C x0 (wC_0 g2) (vp_nar_int _) rfl (Nat.le_of_ble_eq_true rfl) (wC G ad nb X sc4 ar fr) (wC_s0_1 g2 esc4) dX0_addToDraft_46 ?_
        exact rC_V hf hret dX0_addToDraft_49
      · rw [if_neg c1] at hf
        refine s_aload_n C 0 dX0_addToDraft_9 rfl ?_
        obtain ⟨g5, hf⟩ := gd_inv hf
        refine gf_48 C x0 (wC_0 g5) rfl dX0_addToDraft_10 ?_
        refine s_aload_n C 0 dX0_addToDraft_13 rfl ?_
        refine gf_51 C x0 (wC_0 g5) rfl dX0_addToDraft_14 ?_
        refine s_iload C 3 dX0_addToDraft_17 rfl ?_
        refine s_iadd C dX0_addToDraft_19 ?_
        refine s_lload_n C 2 dX0_addToDraft_20 rfl ?_
        refine s_bipush (v := 8) C dX0_addToDraft_21 (by decide) ?_
        refine s_iload C 3 dX0_addToDraft_23 rfl ?_
        refine s_imul C dX0_addToDraft_25 ?_
        refine s_lushr C dX0_addToDraft_26 ?_
        refine s_l2i C dX0_addToDraft_27 ?_
        refine s_sipush (v := 255) C dX0_addToDraft_28 (by decide) ?_
        refine s_iand C dX0_addToDraft_31 ?_
        obtain ⟨y6, ey6, hf⟩ := bd_inv hf
        refine s_nmi ey6 ?_
        obtain ⟨ar7, hkar7, hiar7, ear7, hf⟩ := wrA_inv hf
        refine s_ciast C hkar7 hiar7 ear7 dX0_addToDraft_32 ?_
        obtain ⟨y8, ey8, hf⟩ := bd_inv hf
        refine s_iinc (v := y8) C 3 [(4, .int y8), (0, .ref (ad x0)), (1, .int x1), (2, .long x2)] dX0_addToDraft_33 rfl (by rw [ey8]; rfl) (by decide) rfl ?_
        refine s_goto C 3 dX0_addToDraft_36 (by decide) ?_
        refine s_lv [1, 2, 3, 0] rfl ?_
        exact ih _ _ _ _ _ _ _ hf
  unfold f_X0_addToDraft at hf
  refine s_iconst (v := 0) C dX0_addToDraft_0 (by decide) ?_
  refine s_istore C [(4, .int 0), (0, .ref (ad x0)), (1, .int x1), (2, .long x2)] dX0_addToDraft_1 (by decide) rfl ?_
  refine s_lv [1, 2, 3, 0] rfl ?_
  exact B_3 _ _ _ _ _ _ _ _ hf
theorem c_X0_addToDraft (l : Launch) (G : GG) (A : Nat → Prop) (ad : Nat → Nat) (X : va_W) (nb : Nat) (x0 : Nat) (x1 : Int32) (x2 : Int64) (sc : Nat → Nat → Int32) (ar : Nat → Nat → Int32) (fr : Nat → Nat → Nat) (sc0 : Nat → Nat → Int32) (ar0 : Nat → Nat → Int32) (fr0 : Nat → Nat → Nat) (hf : f_X0_addToDraft nb x0 x1 x2 sc ar fr = some (sc0, ar0, fr0)) : MV l yX0_addToDraft cX0_addToDraft 5 ({ frames := 0, cells := 0, slots := 0, locals := 0 } : Room) G A (wC G ad nb X sc ar fr) [.ref (ad x0), .int x1, .long x2] (wC G ad nb X sc0 ar0 fr0) :=
  e_V (by decide) (Nat.le_of_ble_eq_true rfl) (fun Γ C hret => k_X0_addToDraft C _ _ _ _ _ _ _ _ _ _ _ _ hf hret)
def f_X0_turnDraftIntoPacket (nb : Nat) (x0 : Nat) (sc : Nat → Nat → Int32) (ar : Nat → Nat → Int32) (fr : Nat → Nat → Nat) : Option ((Nat → Nat → Int32) × (Nat → Nat → Int32) × (Nat → Nat → Nat)) :=
  gd (pk nb 0 x0) <|
  gd (pk nb 3 (x0 + 2)) <|
  bCv (f_X3_put nb (x0 + 2) ((sc x0 3) - (sc x0 3) / 24 * 24) (x0 + 1) 0 (sc x0 1) sc ar fr) fun sc3 ar4 fr5 =>
  bd (((sc3 x0 3) + 1)) fun y7 =>
  bd (up2 sc3 x0 3 y7) fun sc8 =>
  bd (up2 sc8 x0 1 0) fun sc9 =>
  some (sc9, ar4, fr5)
set_option maxHeartbeats 4000000 in
set_option maxRecDepth 100000 in
theorem k_X0_turnDraftIntoPacket {l : Launch} {G : GG} {A : Nat → Prop} {Γ : Cx} (C : CX G A Γ cX0_turnDraftIntoPacket RX0 ({ frames := 2, cells := 0, slots := 0, locals := 42 } : Room) 1) (ad : Nat → Nat) (X : va_W) (nb : Nat) (x0 : Nat) (sc : Nat → Nat → Int32) (ar : Nat → Nat → Int32) (fr : Nat → Nat → Nat) (sc0 : Nat → Nat → Int32) (ar0 : Nat → Nat → Int32) (fr0 : Nat → Nat → Nat) (hf : f_X0_turnDraftIntoPacket nb x0 sc ar fr = some (sc0, ar0, fr0)) (hret : ∀ (pc : Nat) (lv : List (Nat × Value)), decode cX0_turnDraftIntoPacket pc = .ok (.return_, 1) → St l G A Γ 0 0 (wC G ad nb X sc0 ar0 fr0) pc lv []) : St l G A Γ 0 0 (wC G ad nb X sc ar fr) 0 [(0, .ref (ad x0))] [] := by
  unfold f_X0_turnDraftIntoPacket at hf
  refine s_aload_n C 0 dX0_turnDraftIntoPacket_0 rfl ?_
  obtain ⟨g1, hf⟩ := gd_inv hf
  refine gf_52 C x0 (wC_0 g1) rfl dX0_turnDraftIntoPacket_1 ?_
  refine s_aload_n C 0 dX0_turnDraftIntoPacket_4 rfl ?_
  refine gf_53 C x0 (wC_0 g1) rfl dX0_turnDraftIntoPacket_5 ?_
  refine s_bipush (v := 24) C dX0_turnDraftIntoPacket_8 (by decide) ?_
  refine s_irem C dX0_turnDraftIntoPacket_10 (by decide) ?_
  refine s_aload_n C 0 dX0_turnDraftIntoPacket_11 rfl ?_
  refine gf_48 C x0 (wC_0 g1) rfl dX0_turnDraftIntoPacket_12 ?_
  refine s_iconst (v := 0) C dX0_turnDraftIntoPacket_15 (by decide) ?_
  refine s_aload_n C 0 dX0_turnDraftIntoPacket_16 rfl ?_
  refine gf_51 C x0 (wC_0 g1) rfl dX0_turnDraftIntoPacket_17 ?_
  obtain ⟨g6, hf⟩ := gd_inv hf
  obtain ⟨sc3, ar4, fr5, er2, hf⟩ := bCv_inv hf
  refine s_cV_V (As := [.int ((sc x0 3) - (sc x0 3) / 24 * 24), .ref (ad (x0 + 1)), .int 0, .int (sc x0 1)]) (rest := []) (ci := 3) (q := (x0 + 2)) C (c_X3_put l G A ad X nb (x0 + 2) ((sc x0 3) - (sc x0 3) / 24 * 24) (x0 + 1) 0 (sc x0 1) sc ar fr _ _ _ er2) g_RX0_56 hd_X3_put rfl ⟨Nat.le_of_ble_eq_true rfl, Nat.le_of_ble_eq_true rfl⟩ rfl (wC_3 g6) rfl (Nat.le_of_ble_eq_true rfl) ⟨Nat.le_of_ble_eq_true rfl, Nat.le_of_ble_eq_true rfl⟩ dX0_turnDraftIntoPacket_20 ?_
  refine s_aload_n C 0 dX0_turnDraftIntoPacket_23 rfl ?_
  refine s_dup C dX0_turnDraftIntoPacket_24 rfl ?_
  refine gf_53 C x0 (wC_0 g1) rfl dX0_turnDraftIntoPacket_25 ?_
  refine s_iconst (v := 1) C dX0_turnDraftIntoPacket_28 (by decide) ?_
  refine s_iadd C dX0_turnDraftIntoPacket_29 ?_
  obtain ⟨y7, ey7, hf⟩ := bd_inv hf
  refine s_nmi ey7 ?_
  obtain ⟨sc8, esc8, hf⟩ := bd_inv hf
  refine pf_53 C x0 (wC_0 g1) (vp_nar_int _) rfl (Nat.le_of_ble_eq_true rfl) (wC G ad nb X sc8 ar4 fr5) (wC_s0_3 g1 esc8) dX0_turnDraftIntoPacket_30 ?_
  refine s_aload_n C 0 dX0_turnDraftIntoPacket_33 rfl ?_
  refine s_iconst (v := 0) C dX0_turnDraftIntoPacket_34 (by decide) ?_
  obtain ⟨sc9, esc9, hf⟩ := bd_inv hf
  refine pf_51 C x0 (wC_0 g1) (vp_nar_int _) rfl (Nat.le_of_ble_eq_true rfl) (wC G ad nb X sc9 ar4 fr5) (wC_s0_1 g1 esc9) dX0_turnDraftIntoPacket_35 ?_
  exact rC_V hf hret dX0_turnDraftIntoPacket_38
theorem c_X0_turnDraftIntoPacket (l : Launch) (G : GG) (A : Nat → Prop) (ad : Nat → Nat) (X : va_W) (nb : Nat) (x0 : Nat) (sc : Nat → Nat → Int32) (ar : Nat → Nat → Int32) (fr : Nat → Nat → Nat) (sc0 : Nat → Nat → Int32) (ar0 : Nat → Nat → Int32) (fr0 : Nat → Nat → Nat) (hf : f_X0_turnDraftIntoPacket nb x0 sc ar fr = some (sc0, ar0, fr0)) : MV l yX0_turnDraftIntoPacket cX0_turnDraftIntoPacket 1 ({ frames := 2, cells := 0, slots := 0, locals := 42 } : Room) G A (wC G ad nb X sc ar fr) [.ref (ad x0)] (wC G ad nb X sc0 ar0 fr0) :=
  e_V (by decide) (Nat.le_of_ble_eq_true rfl) (fun Γ C hret => k_X0_turnDraftIntoPacket C _ _ _ _ _ _ _ _ _ _ hf hret)
def f_X0_writePacket (nb : Nat) (x0 : Nat) (x1 : Nat) (x2 : Int32) (x3 : Int32) (sc : Nat → Nat → Int32) (ar : Nat → Nat → Int32) (fr : Nat → Nat → Nat) : Option ((Nat → Nat → Int32) × (Nat → Nat → Int32) × (Nat → Nat → Nat)) :=
  bx (f_X5_by64 x3) fun r1 =>
  gd (pk nb 0 x0) <|
  gd (pk nb 1 x1) <|
  bCv (f_X1_writePacket nb x1 x2 r1 (x0 + 2) (x3 - x3 / 24 * 24) sc ar fr) fun sc4 ar5 fr6 =>
  some (sc4, ar5, fr6)
set_option maxHeartbeats 4000000 in
set_option maxRecDepth 100000 in
theorem k_X0_writePacket {l : Launch} {G : GG} {A : Nat → Prop} {Γ : Cx} (C : CX G A Γ cX0_writePacket RX0 ({ frames := 2, cells := 0, slots := 0, locals := 59 } : Room) 4) (ad : Nat → Nat) (X : va_W) (nb : Nat) (x0 : Nat) (x1 : Nat) (x2 : Int32) (x3 : Int32) (sc : Nat → Nat → Int32) (ar : Nat → Nat → Int32) (fr : Nat → Nat → Nat) (sc0 : Nat → Nat → Int32) (ar0 : Nat → Nat → Int32) (fr0 : Nat → Nat → Nat) (hf : f_X0_writePacket nb x0 x1 x2 x3 sc ar fr = some (sc0, ar0, fr0)) (hret : ∀ (pc : Nat) (lv : List (Nat × Value)), decode cX0_writePacket pc = .ok (.return_, 1) → St l G A Γ 0 0 (wC G ad nb X sc0 ar0 fr0) pc lv []) : St l G A Γ 0 0 (wC G ad nb X sc ar fr) 0 [(0, .ref (ad x0)), (1, .ref (ad x1)), (2, .int x2), (3, .int x3)] [] := by
  unfold f_X0_writePacket at hf
  refine s_aload_n C 1 dX0_writePacket_0 rfl ?_
  refine s_iload_n C 2 dX0_writePacket_1 rfl ?_
  refine s_iload_n C 3 dX0_writePacket_2 rfl ?_
  obtain ⟨r1, er1, hf⟩ := bx_inv hf
  refine s_cSN_I (As := [.int x3]) (rest := [.int x2, .ref (ad x1)]) C (c_X5_by64 l G A _ x3 _ er1) (gd_C tw_303) tw_1 tn_309 tw_302 hd_X5_by64.2 rfl ⟨Nat.le_of_ble_eq_true rfl, Nat.le_of_ble_eq_true rfl⟩ rfl (Nat.le_of_ble_eq_true rfl) ⟨Nat.le_of_ble_eq_true rfl, Nat.le_of_ble_eq_true rfl⟩ dX0_writePacket_3 ?_
  refine s_aload_n C 0 dX0_writePacket_6 rfl ?_
  obtain ⟨g2, hf⟩ := gd_inv hf
  refine gf_52 C x0 (wC_0 g2) rfl dX0_writePacket_7 ?_
  refine s_iload_n C 3 dX0_writePacket_10 rfl ?_
  refine s_bipush (v := 24) C dX0_writePacket_11 (by decide) ?_
  refine s_irem C dX0_writePacket_13 (by decide) ?_
  obtain ⟨g7, hf⟩ := gd_inv hf
  obtain ⟨sc4, ar5, fr6, er3, hf⟩ := bCv_inv hf
  refine s_cV_V (As := [.int x2, .int r1, .ref (ad (x0 + 2)), .int (x3 - x3 / 24 * 24)]) (rest := []) (ci := 1) (q := x1) C (c_X1_writePacket l G A ad X nb x1 x2 r1 (x0 + 2) (x3 - x3 / 24 * 24) sc ar fr _ _ _ er3) g_RX0_60 hd_X1_writePacket rfl ⟨Nat.le_of_ble_eq_true rfl, Nat.le_of_ble_eq_true rfl⟩ rfl (wC_1 g7) rfl (Nat.le_of_ble_eq_true rfl) ⟨Nat.le_of_ble_eq_true rfl, Nat.le_of_ble_eq_true rfl⟩ dX0_writePacket_14 ?_
  exact rC_V hf hret dX0_writePacket_17
theorem c_X0_writePacket (l : Launch) (G : GG) (A : Nat → Prop) (ad : Nat → Nat) (X : va_W) (nb : Nat) (x0 : Nat) (x1 : Nat) (x2 : Int32) (x3 : Int32) (sc : Nat → Nat → Int32) (ar : Nat → Nat → Int32) (fr : Nat → Nat → Nat) (sc0 : Nat → Nat → Int32) (ar0 : Nat → Nat → Int32) (fr0 : Nat → Nat → Nat) (hf : f_X0_writePacket nb x0 x1 x2 x3 sc ar fr = some (sc0, ar0, fr0)) : MV l yX0_writePacket cX0_writePacket 4 ({ frames := 2, cells := 0, slots := 0, locals := 59 } : Room) G A (wC G ad nb X sc ar fr) [.ref (ad x0), .ref (ad x1), .int x2, .int x3] (wC G ad nb X sc0 ar0 fr0) :=
  e_V (by decide) (Nat.le_of_ble_eq_true rfl) (fun Γ C hret => k_X0_writePacket C _ _ _ _ _ _ _ _ _ _ _ _ _ hf hret)
def f_X0_writeWord (nb : Nat) (x0 : Nat) (x1 : Nat) (x2 : Int32) (sc : Nat → Nat → Int32) (ar : Nat → Nat → Int32) (fr : Nat → Nat → Nat) : Option ((Nat → Nat → Int32) × (Nat → Nat → Int32) × (Nat → Nat → Nat)) :=
  gd (pk nb 0 x0) <|
  bx (f_X5_by64 ((sc x0 10) - 1)) fun r2 =>
  gd (pk nb 1 x1) <|
  bCv (f_X1_writeWord nb x1 x2 r2 sc ar fr) fun sc4 ar5 fr6 =>
  bd (up2 sc4 x0 13 (-4)) fun sc8 =>
  if x2 = 3 then (bd (up2 sc8 x0 12 0) fun sc10 =>
  some (sc10, ar5, fr6))
  else (some (sc8, ar5, fr6))
set_option maxHeartbeats 4000000 in
set_option maxRecDepth 100000 in
theorem k_X0_writeWord {l : Launch} {G : GG} {A : Nat → Prop} {Γ : Cx} (C : CX G A Γ cX0_writeWord RX0 ({ frames := 2, cells := 0, slots := 0, locals := 53 } : Room) 3) (ad : Nat → Nat) (X : va_W) (nb : Nat) (x0 : Nat) (x1 : Nat) (x2 : Int32) (sc : Nat → Nat → Int32) (ar : Nat → Nat → Int32) (fr : Nat → Nat → Nat) (sc0 : Nat → Nat → Int32) (ar0 : Nat → Nat → Int32) (fr0 : Nat → Nat → Nat) (hf : f_X0_writeWord nb x0 x1 x2 sc ar fr = some (sc0, ar0, fr0)) (hret : ∀ (pc : Nat) (lv : List (Nat × Value)), decode cX0_writeWord pc = .ok (.return_, 1) → St l G A Γ 0 0 (wC G ad nb X sc0 ar0 fr0) pc lv []) : St l G A Γ 0 0 (wC G ad nb X sc ar fr) 0 [(0, .ref (ad x0)), (1, .ref (ad x1)), (2, .int x2)] [] := by
  unfold f_X0_writeWord at hf
  refine s_aload_n C 1 dX0_writeWord_0 rfl ?_
  refine s_iload_n C 2 dX0_writeWord_1 rfl ?_
  refine s_aload_n C 0 dX0_writeWord_2 rfl ?_
  obtain ⟨g1, hf⟩ := gd_inv hf
  refine gf_67 C x0 (wC_0 g1) rfl dX0_writeWord_3 ?_
  refine s_iconst (v := 1) C dX0_writeWord_6 (by decide) ?_
  refine s_isub C dX0_writeWord_7 ?_
  obtain ⟨r2, er2, hf⟩ := bx_inv hf
  refine s_cSN_I (As := [.int ((sc x0 10) - 1)]) (rest := [.int x2, .ref (ad x1)]) C (c_X5_by64 l G A _ ((sc x0 10) - 1) _ er2) (gd_C tw_303) tw_1 tn_309 tw_302 hd_X5_by64.2 rfl ⟨Nat.le_of_ble_eq_true rfl, Nat.le_of_ble_eq_true rfl⟩ rfl (Nat.le_of_ble_eq_true rfl) ⟨Nat.le_of_ble_eq_true rfl, Nat.le_of_ble_eq_true rfl⟩ dX0_writeWord_8 ?_
  obtain ⟨g7, hf⟩ := gd_inv hf
  obtain ⟨sc4, ar5, fr6, er3, hf⟩ := bCv_inv hf
  refine s_cV_V (As := [.int x2, .int r2]) (rest := []) (ci := 1) (q := x1) C (c_X1_writeWord l G A ad X nb x1 x2 r2 sc ar fr _ _ _ er3) g_RX0_69 hd_X1_writeWord rfl ⟨Nat.le_of_ble_eq_true rfl, Nat.le_of_ble_eq_true rfl⟩ rfl (wC_1 g7) rfl (Nat.le_of_ble_eq_true rfl) ⟨Nat.le_of_ble_eq_true rfl, Nat.le_of_ble_eq_true rfl⟩ dX0_writeWord_11 ?_
  refine s_aload_n C 0 dX0_writeWord_14 rfl ?_
  refine s_bipush (v := (-4)) C dX0_writeWord_15 (by decide) ?_
  obtain ⟨sc8, esc8, hf⟩ := bd_inv hf
  refine pf_72 C x0 (wC_0 g1) (vp_nar_int _) rfl (Nat.le_of_ble_eq_true rfl) (wC G ad nb X sc8 ar5 fr6) (wC_s0_13 g1 esc8) dX0_writeWord_17 ?_
  refine s_iload_n C 2 dX0_writeWord_20 rfl ?_
  refine s_iconst (v := 3) C dX0_writeWord_21 (by decide) ?_
  refine s_icmp_ne C 30 dX0_writeWord_22 (by decide) (fun c9 => ?_) (fun c9 => ?_)
  · rw [if_neg c9] at hf
    exact rC_V hf hret dX0_writeWord_30
  · rw [if_pos c9] at hf
    refine s_aload_n C 0 dX0_writeWord_25 rfl ?_
    refine s_iconst (v := 0) C dX0_writeWord_26 (by decide) ?_
    obtain ⟨sc10, esc10, hf⟩ := bd_inv hf
    refine pf_70 C x0 (wC_0 g1) rfl rfl (Nat.le_of_ble_eq_true rfl) (wC G ad nb X sc10 ar5 fr6) (wC_s0_12 g1 esc10) dX0_writeWord_27 ?_
    exact rC_V hf hret dX0_writeWord_30
theorem c_X0_writeWord (l : Launch) (G : GG) (A : Nat → Prop) (ad : Nat → Nat) (X : va_W) (nb : Nat) (x0 : Nat) (x1 : Nat) (x2 : Int32) (sc : Nat → Nat → Int32) (ar : Nat → Nat → Int32) (fr : Nat → Nat → Nat) (sc0 : Nat → Nat → Int32) (ar0 : Nat → Nat → Int32) (fr0 : Nat → Nat → Nat) (hf : f_X0_writeWord nb x0 x1 x2 sc ar fr = some (sc0, ar0, fr0)) : MV l yX0_writeWord cX0_writeWord 3 ({ frames := 2, cells := 0, slots := 0, locals := 53 } : Room) G A (wC G ad nb X sc ar fr) [.ref (ad x0), .ref (ad x1), .int x2] (wC G ad nb X sc0 ar0 fr0) :=
  e_V (by decide) (Nat.le_of_ble_eq_true rfl) (fun Γ C hret => k_X0_writeWord C _ _ _ _ _ _ _ _ _ _ _ _ hf hret)
def f_X0_takeAcknowledgement (nb : Nat) (x0 : Nat) (x1 : Int32) (sc : Nat → Nat → Int32) (ar : Nat → Nat → Int32) (fr : Nat → Nat → Nat) : Option ((Nat → Nat → Int32) × (Nat → Nat → Int32) × (Nat → Nat → Nat)) :=
  gd (pk nb 0 x0) <|
  bC (f_X0_ackedNumber nb x0 sc ar fr) fun r1 sc2 ar3 fr4 =>
  bx (f_X5_by64 (x1 - r1)) fun r6 =>
  if r6 < 1 then (some (sc2, ar3, fr4))
  else (bC (f_X0_unacked nb x0 sc2 ar3 fr4) fun r8 sc9 ar10 fr11 =>
  if r6 ≤ r8 then (bd (((sc9 x0 5) + r6)) fun y13 =>
  bd (up2 sc9 x0 5 y13) fun sc14 =>
  bC (f_X0_unacked nb x0 sc14 ar10 fr11) fun r15 sc16 ar17 fr18 =>
  bd ((if r15 < (sc14 x0 9) then r15 else (sc14 x0 9))) fun y19 =>
  bd (up2 sc16 x0 9 y19) fun sc20 =>
  bd (up2 sc20 x0 7 0) fun sc21 =>
  bd (up2 sc21 x0 8 0) fun sc22 =>
  some (sc22, ar17, fr18))
  else (some (sc9, ar10, fr11)))
set_option maxHeartbeats 4000000 in
set_option maxRecDepth 100000 in
theorem k_X0_takeAcknowledgement {l : Launch} {G : GG} {A : Nat → Prop} {Γ : Cx} (C : CX G A Γ cX0_takeAcknowledgement RX0 ({ frames := 2, cells := 0, slots := 0, locals := 40 } : Room) 3) (ad : Nat → Nat) (X : va_W) (nb : Nat) (x0 : Nat) (x1 : Int32) (sc : Nat → Nat → Int32) (ar : Nat → Nat → Int32) (fr : Nat → Nat → Nat) (sc0 : Nat → Nat → Int32) (ar0 : Nat → Nat → Int32) (fr0 : Nat → Nat → Nat) (hf : f_X0_takeAcknowledgement nb x0 x1 sc ar fr = some (sc0, ar0, fr0)) (hret : ∀ (pc : Nat) (lv : List (Nat × Value)), decode cX0_takeAcknowledgement pc = .ok (.return_, 1) → St l G A Γ 0 0 (wC G ad nb X sc0 ar0 fr0) pc lv []) : St l G A Γ 0 0 (wC G ad nb X sc ar fr) 0 [(0, .ref (ad x0)), (1, .int x1)] [] := by
  unfold f_X0_takeAcknowledgement at hf
  refine s_iload_n C 1 dX0_takeAcknowledgement_0 rfl ?_
  refine s_aload_n C 0 dX0_takeAcknowledgement_1 rfl ?_
  obtain ⟨g5, hf⟩ := gd_inv hf
  obtain ⟨r1, sc2, ar3, fr4, er1, hf⟩ := bC_inv hf
  refine s_cV_I (As := []) (rest := [.int x1]) (ci := 0) (q := x0) C (c_X0_ackedNumber l G A ad X nb x0 sc ar fr _ _ _ _ er1) g_RX0_77 hd_X0_ackedNumber rfl ⟨Nat.le_of_ble_eq_true rfl, Nat.le_of_ble_eq_true rfl⟩ rfl (wC_0 g5) rfl (Nat.le_of_ble_eq_true rfl) ⟨Nat.le_of_ble_eq_true rfl, Nat.le_of_ble_eq_true rfl⟩ dX0_takeAcknowledgement_2 ?_
  refine s_isub C dX0_takeAcknowledgement_5 ?_
  obtain ⟨r6, er6, hf⟩ := bx_inv hf
  refine s_cSN_I (As := [.int (x1 - r1)]) (rest := []) C (c_X5_by64 l G A _ (x1 - r1) _ er6) (gd_C tw_303) tw_1 tn_309 tw_302 hd_X5_by64.2 rfl ⟨Nat.le_of_ble_eq_true rfl, Nat.le_of_ble_eq_true rfl⟩ rfl (Nat.le_of_ble_eq_true rfl) ⟨Nat.le_of_ble_eq_true rfl, Nat.le_of_ble_eq_true rfl⟩ dX0_takeAcknowledgement_6 ?_
  refine s_istore_n C [(2, .int r6), (0, .ref (ad x0)), (1, .int x1)] dX0_takeAcknowledgement_9 (by decide) rfl ?_
  refine s_iload_n C 0 dX0_takeAcknowledgement_10 rfl ?_
  refine s_iconst (v := 1) C dX0_takeAcknowledgement_11 (by decide) ?_
  refine s_icmp_lt C 23 dX0_takeAcknowledgement_12 (by decide) (fun c7 => ?_) (fun c7 => ?_)
  · rw [if_pos c7] at hf
    exact rC_V hf hret dX0_takeAcknowledgement_23
  · rw [if_neg c7] at hf
    refine s_iload_n C 0 dX0_takeAcknowledgement_15 rfl ?_
    refine s_aload_n C 1 dX0_takeAcknowledgement_16 rfl ?_
    obtain ⟨r8, sc9, ar10, fr11, er8, hf⟩ := bC_inv hf
    refine s_cV_I (As := []) (rest := [.int r6]) (ci := 0) (q := x0) C (c_X0_unacked l G A ad X nb x0 sc2 ar3 fr4 _ _ _ _ er8) g_RX0_81 hd_X0_unacked rfl ⟨Nat.le_of_ble_eq_true rfl, Nat.le_of_ble_eq_true rfl⟩ rfl (wC_0 g5) rfl (Nat.le_of_ble_eq_true rfl) ⟨Nat.le_of_ble_eq_true rfl, Nat.le_of_ble_eq_true rfl⟩ dX0_takeAcknowledgement_17 ?_
    refine s_icmp_le C 24 dX0_takeAcknowledgement_20 (by decide) (fun c12 => ?_) (fun c12 => ?_)
    · rw [if_pos c12] at hf
      refine s_aload_n C 1 dX0_takeAcknowledgement_24 rfl ?_
      refine s_dup C dX0_takeAcknowledgement_25 rfl ?_
      refine gf_57 C x0 (wC_0 g5) rfl dX0_takeAcknowledgement_26 ?_
      refine s_iload_n C 0 dX0_takeAcknowledgement_29 rfl ?_
      refine s_iadd C dX0_takeAcknowledgement_30 ?_
      obtain ⟨y13, ey13, hf⟩ := bd_inv hf
      refine s_nmi ey13 ?_
      obtain ⟨sc14, esc14, hf⟩ := bd_inv hf
      refine pf_57 C x0 (wC_0 g5) (vp_nar_int _) rfl (Nat.le_of_ble_eq_true rfl) (wC G ad nb X sc14 ar10 fr11) (wC_s0_5 g5 esc14) dX0_takeAcknowledgement_31 ?_
      refine s_aload_n C 1 dX0_takeAcknowledgement_34 rfl ?_
      refine s_aload_n C 1 dX0_takeAcknowledgement_35 rfl ?_
      refine gf_65 C x0 (wC_0 g5) rfl dX0_takeAcknowledgement_36 ?_
      refine s_aload_n C 1 dX0_takeAcknowledgement_39 rfl ?_
      obtain ⟨r15, sc16, ar17, fr18, er15, hf⟩ := bC_inv hf
      refine s_cV_I (As := []) (rest := [.int (sc14 x0 9), .ref (ad x0)]) (ci := 0) (q := x0) C (c_X0_unacked l G A ad X nb x0 sc14 ar10 fr11 _ _ _ _ er15) g_RX0_81 hd_X0_unacked rfl ⟨Nat.le_of_ble_eq_true rfl, Nat.le_of_ble_eq_true rfl⟩ rfl (wC_0 g5) rfl (Nat.le_of_ble_eq_true rfl) ⟨Nat.le_of_ble_eq_true rfl, Nat.le_of_ble_eq_true rfl⟩ dX0_takeAcknowledgement_40 ?_
      refine s_min C tw_338 ⟨Nat.le_of_ble_eq_true rfl, Nat.le_of_ble_eq_true rfl⟩ ⟨Nat.le_of_ble_eq_true rfl, Nat.le_of_ble_eq_true rfl⟩ dX0_takeAcknowledgement_43 ?_
      obtain ⟨y19, ey19, hf⟩ := bd_inv hf
      refine s_nmi ey19 ?_
      obtain ⟨sc20, esc20, hf⟩ := bd_inv hf
      refine pf_65 C x0 (wC_0 g5) (vp_nar_int _) rfl (Nat.le_of_ble_eq_true rfl) (wC G ad nb X sc20 ar17 fr18) (wC_s0_9 g5 esc20) dX0_takeAcknowledgement_46 ?_
      refine s_aload_n C 1 dX0_takeAcknowledgement_49 rfl ?_
      refine s_iconst (v := 0) C dX0_takeAcknowledgement_50 (by decide) ?_
      obtain ⟨sc21, esc21, hf⟩ := bd_inv hf
      refine pf_61 C x0 (wC_0 g5) (vp_nar_int _) rfl (Nat.le_of_ble_eq_true rfl) (wC G ad nb X sc21 ar17 fr18) (wC_s0_7 g5 esc21) dX0_takeAcknowledgement_51 ?_
      refine s_aload_n C 1 dX0_takeAcknowledgement_54 rfl ?_
      refine s_iconst (v := 0) C dX0_takeAcknowledgement_55 (by decide) ?_
      obtain ⟨sc22, esc22, hf⟩ := bd_inv hf
      refine pf_63 C x0 (wC_0 g5) (vp_nar_int _) rfl (Nat.le_of_ble_eq_true rfl) (wC G ad nb X sc22 ar17 fr18) (wC_s0_8 g5 esc22) dX0_takeAcknowledgement_56 ?_
      exact rC_V hf hret dX0_takeAcknowledgement_59
    · rw [if_neg c12] at hf
      exact rC_V hf hret dX0_takeAcknowledgement_23
theorem c_X0_takeAcknowledgement (l : Launch) (G : GG) (A : Nat → Prop) (ad : Nat → Nat) (X : va_W) (nb : Nat) (x0 : Nat) (x1 : Int32) (sc : Nat → Nat → Int32) (ar : Nat → Nat → Int32) (fr : Nat → Nat → Nat) (sc0 : Nat → Nat → Int32) (ar0 : Nat → Nat → Int32) (fr0 : Nat → Nat → Nat) (hf : f_X0_takeAcknowledgement nb x0 x1 sc ar fr = some (sc0, ar0, fr0)) : MV l yX0_takeAcknowledgement cX0_takeAcknowledgement 3 ({ frames := 2, cells := 0, slots := 0, locals := 40 } : Room) G A (wC G ad nb X sc ar fr) [.ref (ad x0), .int x1] (wC G ad nb X sc0 ar0 fr0) :=
  e_V (by decide) (Nat.le_of_ble_eq_true rfl) (fun Γ C hret => k_X0_takeAcknowledgement C _ _ _ _ _ _ _ _ _ _ _ hf hret)
def f_X0_handUp_29 (nb : Nat)  (x0 : Nat) (sc : Nat → Nat → Int32) (ar : Nat → Nat → Int32) (fr : Nat → Nat → Nat) : Option ((Nat → Nat → Int32) × (Nat → Nat → Int32) × (Nat → Nat → Nat)) :=
  gd (pk nb 0 x0) <|
  bd (((sc x0 15) + 1)) fun y14 =>
  bd (up2 sc x0 15 y14) fun sc15 =>
  bx (f_X5_by64 ((sc15 x0 10) + 1)) fun r16 =>
  bd (up2 sc15 x0 10 r16) fun sc17 =>
  bd (up2 sc17 x0 11 0) fun sc18 =>
  some (sc18, ar, fr)
def f_X0_handUp (nb : Nat) (x0 : Nat) (x1 : Nat) (sc : Nat → Nat → Int32) (ar : Nat → Nat → Int32) (fr : Nat → Nat → Nat) : Option ((Nat → Nat → Int32) × (Nat → Nat → Int32) × (Nat → Nat → Nat)) :=
  gd (pk nb 0 x0) <|
  if 60 ≤ (sc x0 15) then (f_X0_handUp_29 nb x0 sc ar fr)
  else (gd (pk nb 1 x1) <|
  bC (f_X1_packetLength nb x1 sc ar fr) fun r4 sc5 ar6 fr7 =>
  gd (pk nb 3 (x0 + 5)) <|
  bCv (f_X3_put nb (x0 + 5) (sc x0 15) (x1 + 1) 3 r4 sc5 ar6 fr7) fun sc9 ar10 fr11 =>
  f_X0_handUp_29 nb x0 sc9 ar10 fr11)
set_option maxHeartbeats 4000000 in
set_option maxRecDepth 100000 in
theorem k_X0_handUp {l : Launch} {G : GG} {A : Nat → Prop} {Γ : Cx} (C : CX G A Γ cX0_handUp RX0 ({ frames := 2, cells := 0, slots := 0, locals := 42 } : Room) 2) (ad : Nat → Nat) (X : va_W) (nb : Nat) (x0 : Nat) (x1 : Nat) (sc : Nat → Nat → Int32) (ar : Nat → Nat → Int32) (fr : Nat → Nat → Nat) (sc0 : Nat → Nat → Int32) (ar0 : Nat → Nat → Int32) (fr0 : Nat → Nat → Nat) (hf : f_X0_handUp nb x0 x1 sc ar fr = some (sc0, ar0, fr0)) (hret : ∀ (pc : Nat) (lv : List (Nat × Value)), decode cX0_handUp pc = .ok (.return_, 1) → St l G A Γ 0 0 (wC G ad nb X sc0 ar0 fr0) pc lv []) : St l G A Γ 0 0 (wC G ad nb X sc ar fr) 0 [(0, .ref (ad x0)), (1, .ref (ad x1))] [] := by
  have B_29 : ∀  (x0 : Nat) (sc : Nat → Nat → Int32) (ar : Nat → Nat → Int32) (fr : Nat → Nat → Nat), f_X0_handUp_29 nb x0 sc ar fr = some (sc0, ar0, fr0) → St l G A Γ 0 0 (wC G ad nb X sc ar fr) 29 [(0, .ref (ad x0))] [] := by
    intro  x0 sc ar fr hf 
    unfold f_X0_handUp_29 at hf
    refine s_aload_n C 0 dX0_handUp_29 rfl ?_
    refine s_dup C dX0_handUp_30 rfl ?_
    obtain ⟨g13, hf⟩ := gd_inv hf
    refine gf_76 C x0 (wC_0 g13) rfl dX0_handUp_31 ?_
    refine s_iconst (v := 1) C dX0_handUp_34 (by decide) ?_
    refine s_iadd C dX0_handUp_35 ?_
    obtain ⟨y14, ey14, hf⟩ := bd_inv hf
    refine s_nmi ey14 ?_
    obtain ⟨sc15, esc15, hf⟩ := bd_inv hf
    refine pf_76 C x0 (wC_0 g13) (vp_nar_int _) rfl (Nat.le_of_ble_eq_true rfl) (wC G ad nb X sc15 ar fr) (wC_s0_15 g13 esc15) dX0_handUp_36 ?_
    refine s_aload_n C 0 dX0_handUp_39 rfl ?_
    refine s_aload_n C 0 dX0_handUp_40 rfl ?_
    refine gf_67 C x0 (wC_0 g13) rfl dX0_handUp_41 ?_
    refine s_iconst (v := 1) C dX0_handUp_44 (by decide) ?_
    refine s_iadd C dX0_handUp_45 ?_
    obtain ⟨r16, er16, hf⟩ := bx_inv hf
    refine s_cSN_I (As := [.int ((sc15 x0 10) + 1)]) (rest := [.ref (ad x0)]) C (c_X5_by64 l G A _ ((sc15 x0 10) + 1) _ er16) (gd_C tw_303) tw_1 tn_309 tw_302 hd_X5_by64.2 rfl ⟨Nat.le_of_ble_eq_true rfl, Nat.le_of_ble_eq_true rfl⟩ rfl (Nat.le_of_ble_eq_true rfl) ⟨Nat.le_of_ble_eq_true rfl, Nat.le_of_ble_eq_true rfl⟩ dX0_handUp_46 ?_
    obtain ⟨sc17, esc17, hf⟩ := bd_inv hf
    refine pf_67 C x0 (wC_0 g13) (vp_nar_int _) rfl (Nat.le_of_ble_eq_true rfl) (wC G ad nb X sc17 ar fr) (wC_s0_10 g13 esc17) dX0_handUp_49 ?_
    refine s_aload_n C 0 dX0_handUp_52 rfl ?_
    refine s_iconst (v := 0) C dX0_handUp_53 (by decide) ?_
    obtain ⟨sc18, esc18, hf⟩ := bd_inv hf
    refine pf_69 C x0 (wC_0 g13) rfl rfl (Nat.le_of_ble_eq_true rfl) (wC G ad nb X sc18 ar fr) (wC_s0_11 g13 esc18) dX0_handUp_54 ?_
    exact rC_V hf hret dX0_handUp_57
  unfold f_X0_handUp at hf
  refine s_aload_n C 0 dX0_handUp_0 rfl ?_
  obtain ⟨g1, hf⟩ := gd_inv hf
  refine gf_76 C x0 (wC_0 g1) rfl dX0_handUp_1 ?_
  refine s_bipush (v := 60) C dX0_handUp_4 (by decide) ?_
  refine s_icmp_ge C 29 dX0_handUp_6 (by decide) (fun c2 => ?_) (fun c2 => ?_)
  · rw [if_pos c2] at hf
    refine s_lv [0] rfl ?_
    exact B_29 _ _ _ _ hf
  · rw [if_neg c2] at hf
    refine s_aload_n C 0 dX0_handUp_9 rfl ?_
    refine gf_74 C x0 (wC_0 g1) rfl dX0_handUp_10 ?_
    refine s_aload_n C 0 dX0_handUp_13 rfl ?_
    refine gf_76 C x0 (wC_0 g1) rfl dX0_handUp_14 ?_
    refine s_aload_n C 1 dX0_handUp_17 rfl ?_
    obtain ⟨g3, hf⟩ := gd_inv hf
    refine gf_126 C x1 (wC_1 g3) rfl dX0_handUp_18 ?_
    refine s_iconst (v := 3) C dX0_handUp_21 (by decide) ?_
    refine s_aload_n C 1 dX0_handUp_22 rfl ?_
    obtain ⟨r4, sc5, ar6, fr7, er4, hf⟩ := bC_inv hf
    refine s_cV_I (As := []) (rest := [.int 3, .ref (ad (x1 + 1)), .int (sc x0 15), .ref (ad (x0 + 5))]) (ci := 1) (q := x1) C (c_X1_packetLength l G A ad X nb x1 sc ar fr _ _ _ _ er4) g_RX0_96 hd_X1_packetLength rfl ⟨Nat.le_of_ble_eq_true rfl, Nat.le_of_ble_eq_true rfl⟩ rfl (wC_1 g3) rfl (Nat.le_of_ble_eq_true rfl) ⟨Nat.le_of_ble_eq_true rfl, Nat.le_of_ble_eq_true rfl⟩ dX0_handUp_23 ?_
    obtain ⟨g12, hf⟩ := gd_inv hf
    obtain ⟨sc9, ar10, fr11, er8, hf⟩ := bCv_inv hf
    refine s_cV_V (As := [.int (sc x0 15), .ref (ad (x1 + 1)), .int 3, .int r4]) (rest := []) (ci := 3) (q := (x0 + 5)) C (c_X3_put l G A ad X nb (x0 + 5) (sc x0 15) (x1 + 1) 3 r4 sc5 ar6 fr7 _ _ _ er8) g_RX0_56 hd_X3_put rfl ⟨Nat.le_of_ble_eq_true rfl, Nat.le_of_ble_eq_true rfl⟩ rfl (wC_3 g12) rfl (Nat.le_of_ble_eq_true rfl) ⟨Nat.le_of_ble_eq_true rfl, Nat.le_of_ble_eq_true rfl⟩ dX0_handUp_26 ?_
    refine s_lv [0] rfl ?_
    exact B_29 _ _ _ _ hf
theorem c_X0_handUp (l : Launch) (G : GG) (A : Nat → Prop) (ad : Nat → Nat) (X : va_W) (nb : Nat) (x0 : Nat) (x1 : Nat) (sc : Nat → Nat → Int32) (ar : Nat → Nat → Int32) (fr : Nat → Nat → Nat) (sc0 : Nat → Nat → Int32) (ar0 : Nat → Nat → Int32) (fr0 : Nat → Nat → Nat) (hf : f_X0_handUp nb x0 x1 sc ar fr = some (sc0, ar0, fr0)) : MV l yX0_handUp cX0_handUp 2 ({ frames := 2, cells := 0, slots := 0, locals := 42 } : Room) G A (wC G ad nb X sc ar fr) [.ref (ad x0), .ref (ad x1)] (wC G ad nb X sc0 ar0 fr0) :=
  e_V (by decide) (Nat.le_of_ble_eq_true rfl) (fun Γ C hret => k_X0_handUp C _ _ _ _ _ _ _ _ _ _ _ hf hret)
def f_X0_oweAck (nb : Nat) (x0 : Nat) (x1 : Int32) (sc : Nat → Nat → Int32) (ar : Nat → Nat → Int32) (fr : Nat → Nat → Nat) : Option ((Nat → Nat → Int32) × (Nat → Nat → Int32) × (Nat → Nat → Nat)) :=
  gd (pk nb 0 x0) <|
  if (sc x0 13) = (-4) then (bd (up2 sc x0 13 x1) fun sc3 =>
  some (sc3, ar, fr))
  else (some (sc, ar, fr))
set_option maxHeartbeats 4000000 in
set_option maxRecDepth 100000 in
theorem k_X0_oweAck {l : Launch} {G : GG} {A : Nat → Prop} {Γ : Cx} (C : CX G A Γ cX0_oweAck RX0 ({ frames := 0, cells := 0, slots := 0, locals := 0 } : Room) 2) (ad : Nat → Nat) (X : va_W) (nb : Nat) (x0 : Nat) (x1 : Int32) (sc : Nat → Nat → Int32) (ar : Nat → Nat → Int32) (fr : Nat → Nat → Nat) (sc0 : Nat → Nat → Int32) (ar0 : Nat → Nat → Int32) (fr0 : Nat → Nat → Nat) (hf : f_X0_oweAck nb x0 x1 sc ar fr = some (sc0, ar0, fr0)) (hret : ∀ (pc : Nat) (lv : List (Nat × Value)), decode cX0_oweAck pc = .ok (.return_, 1) → St l G A Γ 0 0 (wC G ad nb X sc0 ar0 fr0) pc lv []) : St l G A Γ 0 0 (wC G ad nb X sc ar fr) 0 [(0, .ref (ad x0)), (1, .int x1)] [] := by
  unfold f_X0_oweAck at hf
  refine s_aload_n C 0 dX0_oweAck_0 rfl ?_
  obtain ⟨g1, hf⟩ := gd_inv hf
  refine gf_72 C x0 (wC_0 g1) rfl dX0_oweAck_1 ?_
  refine s_bipush (v := (-4)) C dX0_oweAck_4 (by decide) ?_
  refine s_icmp_ne C 14 dX0_oweAck_6 (by decide) (fun c2 => ?_) (fun c2 => ?_)
  · rw [if_neg c2] at hf
    exact rC_V hf hret dX0_oweAck_14
  · rw [if_pos c2] at hf
    refine s_aload_n C 0 dX0_oweAck_9 rfl ?_
    refine s_iload_n C 1 dX0_oweAck_10 rfl ?_
    obtain ⟨sc3, esc3, hf⟩ := bd_inv hf
    refine pf_72 C x0 (wC_0 g1) (vp_nar_int _) rfl (Nat.le_of_ble_eq_true rfl) (wC G ad nb X sc3 ar fr) (wC_s0_13 g1 esc3) dX0_oweAck_11 ?_
    exact rC_V hf hret dX0_oweAck_14
theorem c_X0_oweAck (l : Launch) (G : GG) (A : Nat → Prop) (ad : Nat → Nat) (X : va_W) (nb : Nat) (x0 : Nat) (x1 : Int32) (sc : Nat → Nat → Int32) (ar : Nat → Nat → Int32) (fr : Nat → Nat → Nat) (sc0 : Nat → Nat → Int32) (ar0 : Nat → Nat → Int32) (fr0 : Nat → Nat → Nat) (hf : f_X0_oweAck nb x0 x1 sc ar fr = some (sc0, ar0, fr0)) : MV l yX0_oweAck cX0_oweAck 2 ({ frames := 0, cells := 0, slots := 0, locals := 0 } : Room) G A (wC G ad nb X sc ar fr) [.ref (ad x0), .int x1] (wC G ad nb X sc0 ar0 fr0) :=
  e_V (by decide) (Nat.le_of_ble_eq_true rfl) (fun Γ C hret => k_X0_oweAck C _ _ _ _ _ _ _ _ _ _ _ hf hret)
def f_X0_oweNak (nb : Nat) (x0 : Nat) (sc : Nat → Nat → Int32) (ar : Nat → Nat → Int32) (fr : Nat → Nat → Nat) : Option ((Nat → Nat → Int32) × (Nat → Nat → Int32) × (Nat → Nat → Nat)) :=
  gd (pk nb 0 x0) <|
  if (sc x0 11) = 0 then (bd (up2 sc x0 11 1) fun sc3 =>
  bd (up2 sc3 x0 12 1) fun sc4 =>
  some (sc4, ar, fr))
  else (some (sc, ar, fr))
set_option maxHeartbeats 4000000 in
set_option maxRecDepth 100000 in
theorem k_X0_oweNak {l : Launch} {G : GG} {A : Nat → Prop} {Γ : Cx} (C : CX G A Γ cX0_oweNak RX0 ({ frames := 0, cells := 0, slots := 0, locals := 0 } : Room) 1) (ad : Nat → Nat) (X : va_W) (nb : Nat) (x0 : Nat) (sc : Nat → Nat → Int32) (ar : Nat → Nat → Int32) (fr : Nat → Nat → Nat) (sc0 : Nat → Nat → Int32) (ar0 : Nat → Nat → Int32) (fr0 : Nat → Nat → Nat) (hf : f_X0_oweNak nb x0 sc ar fr = some (sc0, ar0, fr0)) (hret : ∀ (pc : Nat) (lv : List (Nat × Value)), decode cX0_oweNak pc = .ok (.return_, 1) → St l G A Γ 0 0 (wC G ad nb X sc0 ar0 fr0) pc lv []) : St l G A Γ 0 0 (wC G ad nb X sc ar fr) 0 [(0, .ref (ad x0))] [] := by
  unfold f_X0_oweNak at hf
  refine s_aload_n C 0 dX0_oweNak_0 rfl ?_
  obtain ⟨g1, hf⟩ := gd_inv hf
  refine gf_69 C x0 (wC_0 g1) rfl dX0_oweNak_1 ?_
  refine s_if_ne C 17 dX0_oweNak_4 (by decide) (fun c2 => ?_) (fun c2 => ?_)
  · rw [if_neg c2] at hf
    exact rC_V hf hret dX0_oweNak_17
  · rw [if_pos c2] at hf
    refine s_aload_n C 0 dX0_oweNak_7 rfl ?_
    refine s_iconst (v := 1) C dX0_oweNak_8 (by decide) ?_
    obtain ⟨sc3, esc3, hf⟩ := bd_inv hf
    refine pf_69 C x0 (wC_0 g1) rfl rfl (Nat.le_of_ble_eq_true rfl) (wC G ad nb X sc3 ar fr) (wC_s0_11 g1 esc3) dX0_oweNak_9 ?_
    refine s_aload_n C 0 dX0_oweNak_12 rfl ?_
    refine s_iconst (v := 1) C dX0_oweNak_13 (by decide) ?_
    obtain ⟨sc4, esc4, hf⟩ := bd_inv hf
    refine pf_70 C x0 (wC_0 g1) rfl rfl (Nat.le_of_ble_eq_true rfl) (wC G ad nb X sc4 ar fr) (wC_s0_12 g1 esc4) dX0_oweNak_14 ?_
    exact rC_V hf hret dX0_oweNak_17
theorem c_X0_oweNak (l : Launch) (G : GG) (A : Nat → Prop) (ad : Nat → Nat) (X : va_W) (nb : Nat) (x0 : Nat) (sc : Nat → Nat → Int32) (ar : Nat → Nat → Int32) (fr : Nat → Nat → Nat) (sc0 : Nat → Nat → Int32) (ar0 : Nat → Nat → Int32) (fr0 : Nat → Nat → Nat) (hf : f_X0_oweNak nb x0 sc ar fr = some (sc0, ar0, fr0)) : MV l yX0_oweNak cX0_oweNak 1 ({ frames := 0, cells := 0, slots := 0, locals := 0 } : Room) G A (wC G ad nb X sc ar fr) [.ref (ad x0)] (wC G ad nb X sc0 ar0 fr0) :=
  e_V (by decide) (Nat.le_of_ble_eq_true rfl) (fun Γ C hret => k_X0_oweNak C _ _ _ _ _ _ _ _ _ _ hf hret)
def f_X0_isQuiet (nb : Nat) (x0 : Nat) (sc : Nat → Nat → Int32) (ar : Nat → Nat → Int32) (fr : Nat → Nat → Nat) : Option (Int32 × (Nat → Nat → Int32) × (Nat → Nat → Int32) × (Nat → Nat → Nat)) :=
  gd (pk nb 0 x0) <|
  bC (f_X0_waiting nb x0 sc ar fr) fun r1 sc2 ar3 fr4 =>
  if r1 = 0 then (bC (f_X0_unacked nb x0 sc2 ar3 fr4) fun r7 sc8 ar9 fr10 =>
  if r7 = 0 then (if (sc8 x0 13) = (-4) then (if (sc8 x0 12) = 0 then (some (1, sc8, ar9, fr10))
  else (some (0, sc8, ar9, fr10)))
  else (some (0, sc8, ar9, fr10)))
  else (some (0, sc8, ar9, fr10)))
  else (some (0, sc2, ar3, fr4))
set_option maxHeartbeats 4000000 in
set_option maxRecDepth 100000 in
theorem k_X0_isQuiet {l : Launch} {G : GG} {A : Nat → Prop} {Γ : Cx} (C : CX G A Γ cX0_isQuiet RX0 ({ frames := 1, cells := 0, slots := 0, locals := 20 } : Room) 1) (ad : Nat → Nat) (X : va_W) (nb : Nat) (x0 : Nat) (sc : Nat → Nat → Int32) (ar : Nat → Nat → Int32) (fr : Nat → Nat → Nat) (r0 : Int32) (sc0 : Nat → Nat → Int32) (ar0 : Nat → Nat → Int32) (fr0 : Nat → Nat → Nat) (hf : f_X0_isQuiet nb x0 sc ar fr = some (r0, sc0, ar0, fr0)) (hret : ∀ (pc : Nat) (lv : List (Nat × Value)), decode cX0_isQuiet pc = .ok (.ireturn, 1) → narrow .boolean (.int r0) = .int r0 → St l G A Γ 0 0 (wC G ad nb X sc0 ar0 fr0) pc lv [.int r0]) : St l G A Γ 0 0 (wC G ad nb X sc ar fr) 0 [(0, .ref (ad x0))] [] := by
  unfold f_X0_isQuiet at hf
  refine s_aload_n C 0 dX0_isQuiet_0 rfl ?_
  obtain ⟨g5, hf⟩ := gd_inv hf
  obtain ⟨r1, sc2, ar3, fr4, er1, hf⟩ := bC_inv hf
  refine s_cV_I (As := []) (rest := []) (ci := 0) (q := x0) C (c_X0_waiting l G A ad X nb x0 sc ar fr _ _ _ _ er1) g_RX0_102 hd_X0_waiting rfl ⟨Nat.le_of_ble_eq_true rfl, Nat.le_of_ble_eq_true rfl⟩ rfl (wC_0 g5) rfl (Nat.le_of_ble_eq_true rfl) ⟨Nat.le_of_ble_eq_true rfl, Nat.le_of_ble_eq_true rfl⟩ dX0_isQuiet_1 ?_
  refine s_if_ne C 34 dX0_isQuiet_4 (by decide) (fun c6 => ?_) (fun c6 => ?_)
  · rw [if_neg c6] at hf
    refine s_iconst (v := 0) C dX0_isQuiet_34 (by decide) ?_
    exact rC_I hf rfl hret dX0_isQuiet_35
  · rw [if_pos c6] at hf
    refine s_aload_n C 0 dX0_isQuiet_7 rfl ?_
    obtain ⟨r7, sc8, ar9, fr10, er7, hf⟩ := bC_inv hf
    refine s_cV_I (As := []) (rest := []) (ci := 0) (q := x0) C (c_X0_unacked l G A ad X nb x0 sc2 ar3 fr4 _ _ _ _ er7) g_RX0_81 hd_X0_unacked rfl ⟨Nat.le_of_ble_eq_true rfl, Nat.le_of_ble_eq_true rfl⟩ rfl (wC_0 g5) rfl (Nat.le_of_ble_eq_true rfl) ⟨Nat.le_of_ble_eq_true rfl, Nat.le_of_ble_eq_true rfl⟩ dX0_isQuiet_8 ?_
    refine s_if_ne C 34 dX0_isQuiet_11 (by decide) (fun c11 => ?_) (fun c11 => ?_)
    · rw [if_neg c11] at hf
      refine s_iconst (v := 0) C dX0_isQuiet_34 (by decide) ?_
      exact rC_I hf rfl hret dX0_isQuiet_35
    · rw [if_pos c11] at hf
      refine s_aload_n C 0 dX0_isQuiet_14 rfl ?_
      refine gf_72 C x0 (wC_0 g5) rfl dX0_isQuiet_15 ?_
      refine s_bipush (v := (-4)) C dX0_isQuiet_18 (by decide) ?_
      refine s_icmp_ne C 34 dX0_isQuiet_20 (by decide) (fun c12 => ?_) (fun c12 => ?_)
      · rw [if_neg c12] at hf
        refine s_iconst (v := 0) C dX0_isQuiet_34 (by decide) ?_
        exact rC_I hf rfl hret dX0_isQuiet_35
      · rw [if_pos c12] at hf
        refine s_aload_n C 0 dX0_isQuiet_23 rfl ?_
        refine gf_70 C x0 (wC_0 g5) rfl dX0_isQuiet_24 ?_
        refine s_if_ne C 34 dX0_isQuiet_27 (by decide) (fun c13 => ?_) (fun c13 => ?_)
        · rw [if_neg c13] at hf
          refine s_iconst (v := 0) C dX0_isQuiet_34 (by decide) ?_
          exact rC_I hf rfl hret dX0_isQuiet_35
        · rw [if_pos c13] at hf
          refine s_iconst (v := 1) C dX0_isQuiet_30 (by decide) ?_
          refine s_goto C 35 dX0_isQuiet_31 (by decide) ?_
          exact rC_I hf rfl hret dX0_isQuiet_35
theorem c_X0_isQuiet (l : Launch) (G : GG) (A : Nat → Prop) (ad : Nat → Nat) (X : va_W) (nb : Nat) (x0 : Nat) (sc : Nat → Nat → Int32) (ar : Nat → Nat → Int32) (fr : Nat → Nat → Nat) (r0 : Int32) (sc0 : Nat → Nat → Int32) (ar0 : Nat → Nat → Int32) (fr0 : Nat → Nat → Nat) (hf : f_X0_isQuiet nb x0 sc ar fr = some (r0, sc0, ar0, fr0)) : MI l yX0_isQuiet cX0_isQuiet 1 .boolean ({ frames := 1, cells := 0, slots := 0, locals := 20 } : Room) G A (wC G ad nb X sc ar fr) [.ref (ad x0)] r0 (wC G ad nb X sc0 ar0 fr0) :=
  e_I (by decide) (Nat.le_of_ble_eq_true rfl) (fun Γ C hret => k_X0_isQuiet C _ _ _ _ _ _ _ _ _ _ _ hf hret)
def f_X0_tell (nb : Nat) (x0 : Nat) (x1 : Int32) (sc : Nat → Nat → Int32) (ar : Nat → Nat → Int32) (fr : Nat → Nat → Nat) : Option (Int32 × (Nat → Nat → Int32) × (Nat → Nat → Int32) × (Nat → Nat → Nat)) :=
  if (x1 : Int32) = 0 then (gd (pk nb 0 x0) <|
  bC (f_X0_waiting nb x0 sc ar fr) fun r2 sc3 ar4 fr5 =>
  some (r2, sc3, ar4, fr5))
  else if (x1 : Int32) = 1 then (gd (pk nb 0 x0) <|
  bC (f_X0_unacked nb x0 sc ar fr) fun r8 sc9 ar10 fr11 =>
  some (r8, sc9, ar10, fr11))
  else if (x1 : Int32) = 2 then (gd (pk nb 0 x0) <|
  bC (f_X0_nextNumber nb x0 sc ar fr) fun r14 sc15 ar16 fr17 =>
  some (r14, sc15, ar16, fr17))
  else if (x1 : Int32) = 3 then (gd (pk nb 0 x0) <|
  bC (f_X0_ackedNumber nb x0 sc ar fr) fun r20 sc21 ar22 fr23 =>
  some (r20, sc21, ar22, fr23))
  else if (x1 : Int32) = 4 then (gd (pk nb 0 x0) <|
  some ((sc x0 7), sc, ar, fr))
  else if (x1 : Int32) = 5 then (gd (pk nb 0 x0) <|
  some ((sc x0 8), sc, ar, fr))
  else if (x1 : Int32) = 6 then (gd (pk nb 0 x0) <|
  some ((sc x0 9), sc, ar, fr))
  else if (x1 : Int32) = 7 then (gd (pk nb 0 x0) <|
  some ((sc x0 10), sc, ar, fr))
  else if (x1 : Int32) = 8 then (gd (pk nb 0 x0) <|
  bx (f_X5_asNumber (sc x0 11)) fun r35 =>
  some (r35, sc, ar, fr))
  else if (x1 : Int32) = 9 then (gd (pk nb 0 x0) <|
  some ((sc x0 13), sc, ar, fr))
  else if (x1 : Int32) = 10 then (gd (pk nb 0 x0) <|
  bx (f_X5_asNumber (sc x0 12)) fun r40 =>
  some (r40, sc, ar, fr))
  else if (x1 : Int32) = 11 then (gd (pk nb 0 x0) <|
  some ((sc x0 3), sc, ar, fr))
  else if (x1 : Int32) = 12 then (gd (pk nb 0 x0) <|
  some ((sc x0 15), sc, ar, fr))
  else if (x1 : Int32) = 13 then (gd (pk nb 0 x0) <|
  some ((sc x0 1), sc, ar, fr))
  else (some ((-1), sc, ar, fr))
set_option maxHeartbeats 4000000 in
set_option maxRecDepth 100000 in
theorem k_X0_tell {l : Launch} {G : GG} {A : Nat → Prop} {Γ : Cx} (C : CX G A Γ cX0_tell RX0 ({ frames := 2, cells := 0, slots := 0, locals := 40 } : Room) 2) (ad : Nat → Nat) (X : va_W) (nb : Nat) (x0 : Nat) (x1 : Int32) (sc : Nat → Nat → Int32) (ar : Nat → Nat → Int32) (fr : Nat → Nat → Nat) (r0 : Int32) (sc0 : Nat → Nat → Int32) (ar0 : Nat → Nat → Int32) (fr0 : Nat → Nat → Nat) (hf : f_X0_tell nb x0 x1 sc ar fr = some (r0, sc0, ar0, fr0)) (hret : ∀ (pc : Nat) (lv : List (Nat × Value)), decode cX0_tell pc = .ok (.ireturn, 1) → narrow .int (.int r0) = .int r0 → St l G A Γ 0 0 (wC G ad nb X sc0 ar0 fr0) pc lv [.int r0]) : St l G A Γ 0 0 (wC G ad nb X sc ar fr) 0 [(0, .ref (ad x0)), (1, .int x1)] [] := by
  unfold f_X0_tell at hf
  refine s_iload_n C 1 dX0_tell_0 rfl ?_
  by_cases c1 : (x1 : Int32) = 0
  · rw [if_pos c1] at hf
    refine s_tableIn C 72 dX0_tell_1 (by rw [c1]; decide) (by rw [c1]; decide) (by rw [c1]; rfl) (by decide) ?_
    refine s_aload_n C 0 dX0_tell_72 rfl ?_
    obtain ⟨g6, hf⟩ := gd_inv hf
    obtain ⟨r2, sc3, ar4, fr5, er2, hf⟩ := bC_inv hf
    refine s_cV_I (As := []) (rest := []) (ci := 0) (q := x0) C (c_X0_waiting l G A ad X nb x0 sc ar fr _ _ _ _ er2) g_RX0_102 hd_X0_waiting rfl ⟨Nat.le_of_ble_eq_true rfl, Nat.le_of_ble_eq_true rfl⟩ rfl (wC_0 g6) rfl (Nat.le_of_ble_eq_true rfl) ⟨Nat.le_of_ble_eq_true rfl, Nat.le_of_ble_eq_true rfl⟩ dX0_tell_73 ?_
    exact rC_I hf (vp_nar_int _) hret dX0_tell_76
  rw [if_neg c1] at hf
  by_cases c7 : (x1 : Int32) = 1
  · rw [if_pos c7] at hf
    refine s_tableIn C 77 dX0_tell_1 (by rw [c7]; decide) (by rw [c7]; decide) (by rw [c7]; rfl) (by decide) ?_
    refine s_aload_n C 0 dX0_tell_77 rfl ?_
    obtain ⟨g12, hf⟩ := gd_inv hf
    obtain ⟨r8, sc9, ar10, fr11, er8, hf⟩ := bC_inv hf
    refine s_cV_I (As := []) (rest := []) (ci := 0) (q := x0) C (c_X0_unacked l G A ad X nb x0 sc ar fr _ _ _ _ er8) g_RX0_81 hd_X0_unacked rfl ⟨Nat.le_of_ble_eq_true rfl, Nat.le_of_ble_eq_true rfl⟩ rfl (wC_0 g12) rfl (Nat.le_of_ble_eq_true rfl) ⟨Nat.le_of_ble_eq_true rfl, Nat.le_of_ble_eq_true rfl⟩ dX0_tell_78 ?_
    exact rC_I hf (vp_nar_int _) hret dX0_tell_81
  rw [if_neg c7] at hf
  by_cases c13 : (x1 : Int32) = 2
  · rw [if_pos c13] at hf
    refine s_tableIn C 82 dX0_tell_1 (by rw [c13]; decide) (by rw [c13]; decide) (by rw [c13]; rfl) (by decide) ?_
    refine s_aload_n C 0 dX0_tell_82 rfl ?_
    obtain ⟨g18, hf⟩ := gd_inv hf
    obtain ⟨r14, sc15, ar16, fr17, er14, hf⟩ := bC_inv hf
    refine s_cV_I (As := []) (rest := []) (ci := 0) (q := x0) C (c_X0_nextNumber l G A ad X nb x0 sc ar fr _ _ _ _ er14) g_RX0_105 hd_X0_nextNumber rfl ⟨Nat.le_of_ble_eq_true rfl, Nat.le_of_ble_eq_true rfl⟩ rfl (wC_0 g18) rfl (Nat.le_of_ble_eq_true rfl) ⟨Nat.le_of_ble_eq_true rfl, Nat.le_of_ble_eq_true rfl⟩ dX0_tell_83 ?_
    exact rC_I hf (vp_nar_int _) hret dX0_tell_86
  rw [if_neg c13] at hf
  by_cases c19 : (x1 : Int32) = 3
  · rw [if_pos c19] at hf
    refine s_tableIn C 87 dX0_tell_1 (by rw [c19]; decide) (by rw [c19]; decide) (by rw [c19]; rfl) (by decide) ?_
    refine s_aload_n C 0 dX0_tell_87 rfl ?_
    obtain ⟨g24, hf⟩ := gd_inv hf
    obtain ⟨r20, sc21, ar22, fr23, er20, hf⟩ := bC_inv hf
    refine s_cV_I (As := []) (rest := []) (ci := 0) (q := x0) C (c_X0_ackedNumber l G A ad X nb x0 sc ar fr _ _ _ _ er20) g_RX0_77 hd_X0_ackedNumber rfl ⟨Nat.le_of_ble_eq_true rfl, Nat.le_of_ble_eq_true rfl⟩ rfl (wC_0 g24) rfl (Nat.le_of_ble_eq_true rfl) ⟨Nat.le_of_ble_eq_true rfl, Nat.le_of_ble_eq_true rfl⟩ dX0_tell_88 ?_
    exact rC_I hf (vp_nar_int _) hret dX0_tell_91
  rw [if_neg c19] at hf
  by_cases c25 : (x1 : Int32) = 4
  · rw [if_pos c25] at hf
    refine s_tableIn C 92 dX0_tell_1 (by rw [c25]; decide) (by rw [c25]; decide) (by rw [c25]; rfl) (by decide) ?_
    refine s_aload_n C 0 dX0_tell_92 rfl ?_
    obtain ⟨g26, hf⟩ := gd_inv hf
    refine gf_61 C x0 (wC_0 g26) rfl dX0_tell_93 ?_
    exact rC_I hf (vp_nar_int _) hret dX0_tell_96
  rw [if_neg c25] at hf
  by_cases c27 : (x1 : Int32) = 5
  · rw [if_pos c27] at hf
    refine s_tableIn C 97 dX0_tell_1 (by rw [c27]; decide) (by rw [c27]; decide) (by rw [c27]; rfl) (by decide) ?_
    refine s_aload_n C 0 dX0_tell_97 rfl ?_
    obtain ⟨g28, hf⟩ := gd_inv hf
    refine gf_63 C x0 (wC_0 g28) rfl dX0_tell_98 ?_
    exact rC_I hf (vp_nar_int _) hret dX0_tell_101
  rw [if_neg c27] at hf
  by_cases c29 : (x1 : Int32) = 6
  · rw [if_pos c29] at hf
    refine s_tableIn C 102 dX0_tell_1 (by rw [c29]; decide) (by rw [c29]; decide) (by rw [c29]; rfl) (by decide) ?_
    refine s_aload_n C 0 dX0_tell_102 rfl ?_
    obtain ⟨g30, hf⟩ := gd_inv hf
    refine gf_65 C x0 (wC_0 g30) rfl dX0_tell_103 ?_
    exact rC_I hf (vp_nar_int _) hret dX0_tell_106
  rw [if_neg c29] at hf
  by_cases c31 : (x1 : Int32) = 7
  · rw [if_pos c31] at hf
    refine s_tableIn C 107 dX0_tell_1 (by rw [c31]; decide) (by rw [c31]; decide) (by rw [c31]; rfl) (by decide) ?_
    refine s_aload_n C 0 dX0_tell_107 rfl ?_
    obtain ⟨g32, hf⟩ := gd_inv hf
    refine gf_67 C x0 (wC_0 g32) rfl dX0_tell_108 ?_
    exact rC_I hf (vp_nar_int _) hret dX0_tell_111
  rw [if_neg c31] at hf
  by_cases c33 : (x1 : Int32) = 8
  · rw [if_pos c33] at hf
    refine s_tableIn C 112 dX0_tell_1 (by rw [c33]; decide) (by rw [c33]; decide) (by rw [c33]; rfl) (by decide) ?_
    refine s_aload_n C 0 dX0_tell_112 rfl ?_
    obtain ⟨g34, hf⟩ := gd_inv hf
    refine gf_69 C x0 (wC_0 g34) rfl dX0_tell_113 ?_
    obtain ⟨r35, er35, hf⟩ := bx_inv hf
    refine s_cSN_I (As := [.int (sc x0 11)]) (rest := []) C (c_X5_asNumber l G A _ (sc x0 11) _ er35) (gd_C tw_408) tw_1 tn_448 tw_407 hd_X5_asNumber.2 rfl ⟨Nat.le_of_ble_eq_true rfl, Nat.le_of_ble_eq_true rfl⟩ rfl (Nat.le_of_ble_eq_true rfl) ⟨Nat.le_of_ble_eq_true rfl, Nat.le_of_ble_eq_true rfl⟩ dX0_tell_116 ?_
    exact rC_I hf (vp_nar_int _) hret dX0_tell_119
  rw [if_neg c33] at hf
  by_cases c36 : (x1 : Int32) = 9
  · rw [if_pos c36] at hf
    refine s_tableIn C 120 dX0_tell_1 (by rw [c36]; decide) (by rw [c36]; decide) (by rw [c36]; rfl) (by decide) ?_
    refine s_aload_n C 0 dX0_tell_120 rfl ?_
    obtain ⟨g37, hf⟩ := gd_inv hf
    refine gf_72 C x0 (wC_0 g37) rfl dX0_tell_121 ?_
    exact rC_I hf (vp_nar_int _) hret dX0_tell_124
  rw [if_neg c36] at hf
  by_cases c38 : (x1 : Int32) = 10
  · rw [if_pos c38] at hf
    refine s_tableIn C 125 dX0_tell_1 (by rw [c38]; decide) (by rw [c38]; decide) (by rw [c38]; rfl) (by decide) ?_
    refine s_aload_n C 0 dX0_tell_125 rfl ?_
    obtain ⟨g39, hf⟩ := gd_inv hf
    refine gf_70 C x0 (wC_0 g39) rfl dX0_tell_126 ?_
    obtain ⟨r40, er40, hf⟩ := bx_inv hf
    refine s_cSN_I (As := [.int (sc x0 12)]) (rest := []) C (c_X5_asNumber l G A _ (sc x0 12) _ er40) (gd_C tw_408) tw_1 tn_448 tw_407 hd_X5_asNumber.2 rfl ⟨Nat.le_of_ble_eq_true rfl, Nat.le_of_ble_eq_true rfl⟩ rfl (Nat.le_of_ble_eq_true rfl) ⟨Nat.le_of_ble_eq_true rfl, Nat.le_of_ble_eq_true rfl⟩ dX0_tell_129 ?_
    exact rC_I hf (vp_nar_int _) hret dX0_tell_132
  rw [if_neg c38] at hf
  by_cases c41 : (x1 : Int32) = 11
  · rw [if_pos c41] at hf
    refine s_tableIn C 133 dX0_tell_1 (by rw [c41]; decide) (by rw [c41]; decide) (by rw [c41]; rfl) (by decide) ?_
    refine s_aload_n C 0 dX0_tell_133 rfl ?_
    obtain ⟨g42, hf⟩ := gd_inv hf
    refine gf_53 C x0 (wC_0 g42) rfl dX0_tell_134 ?_
    exact rC_I hf (vp_nar_int _) hret dX0_tell_137
  rw [if_neg c41] at hf
  by_cases c43 : (x1 : Int32) = 12
  · rw [if_pos c43] at hf
    refine s_tableIn C 138 dX0_tell_1 (by rw [c43]; decide) (by rw [c43]; decide) (by rw [c43]; rfl) (by decide) ?_
    refine s_aload_n C 0 dX0_tell_138 rfl ?_
    obtain ⟨g44, hf⟩ := gd_inv hf
    refine gf_76 C x0 (wC_0 g44) rfl dX0_tell_139 ?_
    exact rC_I hf (vp_nar_int _) hret dX0_tell_142
  rw [if_neg c43] at hf
  by_cases c45 : (x1 : Int32) = 13
  · rw [if_pos c45] at hf
    refine s_tableIn C 143 dX0_tell_1 (by rw [c45]; decide) (by rw [c45]; decide) (by rw [c45]; rfl) (by decide) ?_
    refine s_aload_n C 0 dX0_tell_143 rfl ?_
    obtain ⟨g46, hf⟩ := gd_inv hf
    refine gf_51 C x0 (wC_0 g46) rfl dX0_tell_144 ?_
    exact rC_I hf (vp_nar_int _) hret dX0_tell_147
  rw [if_neg c45] at hf
  have hout : (x1 : Int32).toInt < 0 ∨ 13 < (x1 : Int32).toInt := by
    have q0 := i32_ne c1 (0) rfl
    have q1 := i32_ne c7 (1) rfl
    have q2 := i32_ne c13 (2) rfl
    have q3 := i32_ne c19 (3) rfl
    have q4 := i32_ne c25 (4) rfl
    have q5 := i32_ne c27 (5) rfl
    have q6 := i32_ne c29 (6) rfl
    have q7 := i32_ne c31 (7) rfl
    have q8 := i32_ne c33 (8) rfl
    have q9 := i32_ne c36 (9) rfl
    have q10 := i32_ne c38 (10) rfl
    have q11 := i32_ne c41 (11) rfl
    have q12 := i32_ne c43 (12) rfl
    have q13 := i32_ne c45 (13) rfl
    omega
  refine s_tableOut C 148 dX0_tell_1 hout (by decide) ?_
  refine s_iconst (v := (-1)) C dX0_tell_148 (by decide) ?_
  exact rC_I hf (vp_nar_int _) hret dX0_tell_149
theorem c_X0_tell (l : Launch) (G : GG) (A : Nat → Prop) (ad : Nat → Nat) (X : va_W) (nb : Nat) (x0 : Nat) (x1 : Int32) (sc : Nat → Nat → Int32) (ar : Nat → Nat → Int32) (fr : Nat → Nat → Nat) (r0 : Int32) (sc0 : Nat → Nat → Int32) (ar0 : Nat → Nat → Int32) (fr0 : Nat → Nat → Nat) (hf : f_X0_tell nb x0 x1 sc ar fr = some (r0, sc0, ar0, fr0)) : MI l yX0_tell cX0_tell 2 .int ({ frames := 2, cells := 0, slots := 0, locals := 40 } : Room) G A (wC G ad nb X sc ar fr) [.ref (ad x0), .int x1] r0 (wC G ad nb X sc0 ar0 fr0) :=
  e_I (by decide) (Nat.le_of_ble_eq_true rfl) (fun Γ C hret => k_X0_tell C _ _ _ _ _ _ _ _ _ _ _ _ hf hret)
def f_X0_copyFrom (nb : Nat) (x0 : Nat) (x1 : Nat) (sc : Nat → Nat → Int32) (ar : Nat → Nat → Int32) (fr : Nat → Nat → Nat) : Option ((Nat → Nat → Int32) × (Nat → Nat → Int32) × (Nat → Nat → Nat)) :=
  gd (pk nb 0 x1) <|
  gd (pk nb 0 x0) <|
  gd (pk nb 7 (x0 + 1)) <|
  cpA nb ar (x1 + 1) 0 (x0 + 1) 0 (nI (lnA (x0 + 1))) fun ar4 =>
  bd ((sc x1 1)) fun y5 =>
  bd (up2 sc x0 1 y5) fun sc6 =>
  gd (pk nb 3 (x0 + 2)) <|
  bCv (f_X3_copyFrom nb (x0 + 2) (x1 + 2) sc6 ar4 fr) fun sc8 ar9 fr10 =>
  bd ((sc8 x1 3)) fun y12 =>
  bd (up2 sc8 x0 3 y12) fun sc13 =>
  bd ((sc13 x1 4)) fun y14 =>
  bd (up2 sc13 x0 4 y14) fun sc15 =>
  bd ((sc15 x1 5)) fun y16 =>
  bd (up2 sc15 x0 5 y16) fun sc17 =>
  bd ((sc17 x1 6)) fun y18 =>
  gd (bln y18) <|
  bd (up2 sc17 x0 6 y18) fun sc20 =>
  bd ((sc20 x1 7)) fun y21 =>
  bd (up2 sc20 x0 7 y21) fun sc22 =>
  bd ((sc22 x1 8)) fun y23 =>
  bd (up2 sc22 x0 8 y23) fun sc24 =>
  bd ((sc24 x1 9)) fun y25 =>
  bd (up2 sc24 x0 9 y25) fun sc26 =>
  bd ((sc26 x1 10)) fun y27 =>
  bd (up2 sc26 x0 10 y27) fun sc28 =>
  bd ((sc28 x1 11)) fun y29 =>
  gd (bln y29) <|
  bd (up2 sc28 x0 11 y29) fun sc31 =>
  bd ((sc31 x1 12)) fun y32 =>
  gd (bln y32) <|
  bd (up2 sc31 x0 12 y32) fun sc34 =>
  bd ((sc34 x1 13)) fun y35 =>
  bd (up2 sc34 x0 13 y35) fun sc36 =>
  gd (pk nb 3 (x0 + 5)) <|
  bCv (f_X3_copyFrom nb (x0 + 5) (x1 + 5) sc36 ar9 fr10) fun sc38 ar39 fr40 =>
  bd ((sc38 x1 15)) fun y42 =>
  bd (up2 sc38 x0 15 y42) fun sc43 =>
  some (sc43, ar39, fr40)
set_option maxHeartbeats 4000000 in
set_option maxRecDepth 100000 in
theorem k_X0_copyFrom {l : Launch} {G : GG} {A : Nat → Prop} {Γ : Cx} (C : CX G A Γ cX0_copyFrom RX0 ({ frames := 2, cells := 0, slots := 0, locals := 39 } : Room) 2) (ad : Nat → Nat) (X : va_W) (nb : Nat) (x0 : Nat) (x1 : Nat) (sc : Nat → Nat → Int32) (ar : Nat → Nat → Int32) (fr : Nat → Nat → Nat) (sc0 : Nat → Nat → Int32) (ar0 : Nat → Nat → Int32) (fr0 : Nat → Nat → Nat) (hf : f_X0_copyFrom nb x0 x1 sc ar fr = some (sc0, ar0, fr0)) (hret : ∀ (pc : Nat) (lv : List (Nat × Value)), decode cX0_copyFrom pc = .ok (.return_, 1) → St l G A Γ 0 0 (wC G ad nb X sc0 ar0 fr0) pc lv []) : St l G A Γ 0 0 (wC G ad nb X sc ar fr) 0 [(0, .ref (ad x0)), (1, .ref (ad x1))] [] := by
  unfold f_X0_copyFrom at hf
  refine s_aload_n C 1 dX0_copyFrom_0 rfl ?_
  obtain ⟨g1, hf⟩ := gd_inv hf
  refine gf_48 C x1 (wC_0 g1) rfl dX0_copyFrom_1 ?_
  refine s_iconst (v := 0) C dX0_copyFrom_4 (by decide) ?_
  refine s_aload_n C 0 dX0_copyFrom_5 rfl ?_
  obtain ⟨g2, hf⟩ := gd_inv hf
  refine gf_48 C x0 (wC_0 g2) rfl dX0_copyFrom_6 ?_
  refine s_iconst (v := 0) C dX0_copyFrom_9 (by decide) ?_
  refine s_aload_n C 0 dX0_copyFrom_10 rfl ?_
  refine gf_48 C x0 (wC_0 g2) rfl dX0_copyFrom_11 ?_
  obtain ⟨g3, hf⟩ := gd_inv hf
  refine s_calen C g3 dX0_copyFrom_14 ?_
  obtain ⟨ar4, hkar4, ear4, hf⟩ := cpA_inv hf
  refine s_copy C tw_485 hkar4 ear4 ⟨Nat.le_of_ble_eq_true rfl, Nat.le_of_ble_eq_true rfl⟩ dX0_copyFrom_15 ?_
  refine s_aload_n C 0 dX0_copyFrom_18 rfl ?_
  refine s_aload_n C 1 dX0_copyFrom_19 rfl ?_
  refine gf_51 C x1 (wC_0 g1) rfl dX0_copyFrom_20 ?_
  obtain ⟨y5, ey5, hf⟩ := bd_inv hf
  refine s_nmi ey5 ?_
  obtain ⟨sc6, esc6, hf⟩ := bd_inv hf
  refine pf_51 C x0 (wC_0 g2) (vp_nar_int _) rfl (Nat.le_of_ble_eq_true rfl) (wC G ad nb X sc6 ar4 fr) (wC_s0_1 g2 esc6) dX0_copyFrom_23 ?_
  refine s_aload_n C 0 dX0_copyFrom_26 rfl ?_
  refine gf_52 C x0 (wC_0 g2) rfl dX0_copyFrom_27 ?_
  refine s_aload_n C 1 dX0_copyFrom_30 rfl ?_
  refine gf_52 C x1 (wC_0 g1) rfl dX0_copyFrom_31 ?_
  obtain ⟨g11, hf⟩ := gd_inv hf
  obtain ⟨sc8, ar9, fr10, er7, hf⟩ := bCv_inv hf
  refine s_cV_V (As := [.ref (ad (x1 + 2))]) (rest := []) (ci := 3) (q := (x0 + 2)) C (c_X3_copyFrom l G A ad X nb (x0 + 2) (x1 + 2) sc6 ar4 fr _ _ _ er7) g_RX0_118 hd_X3_copyFrom rfl ⟨Nat.le_of_ble_eq_true rfl, Nat.le_of_ble_eq_true rfl⟩ rfl (wC_3 g11) rfl (Nat.le_of_ble_eq_true rfl) ⟨Nat.le_of_ble_eq_true rfl, Nat.le_of_ble_eq_true rfl⟩ dX0_copyFrom_34 ?_
  refine s_aload_n C 0 dX0_copyFrom_37 rfl ?_
  refine s_aload_n C 1 dX0_copyFrom_38 rfl ?_
  refine gf_53 C x1 (wC_0 g1) rfl dX0_copyFrom_39 ?_
  obtain ⟨y12, ey12, hf⟩ := bd_inv hf
  refine s_nmi ey12 ?_
  obtain ⟨sc13, esc13, hf⟩ := bd_inv hf
  refine pf_53 C x0 (wC_0 g2) (vp_nar_int _) rfl (Nat.le_of_ble_eq_true rfl) (wC G ad nb X sc13 ar9 fr10) (wC_s0_3 g2 esc13) dX0_copyFrom_42 ?_
  refine s_aload_n C 0 dX0_copyFrom_45 rfl ?_
  refine s_aload_n C 1 dX0_copyFrom_46 rfl ?_
  refine gf_55 C x1 (wC_0 g1) rfl dX0_copyFrom_47 ?_
  obtain ⟨y14, ey14, hf⟩ := bd_inv hf
  refine s_nmi ey14 ?_
  obtain ⟨sc15, esc15, hf⟩ := bd_inv hf
  refine pf_55 C x0 (wC_0 g2) (vp_nar_int _) rfl (Nat.le_of_ble_eq_true rfl) (wC G ad nb X sc15 ar9 fr10) (wC_s0_4 g2 esc15) dX0_copyFrom_50 ?_
  refine s_aload_n C 0 dX0_copyFrom_53 rfl ?_
  refine s_aload_n C 1 dX0_copyFrom_54 rfl ?_
  refine gf_57 C x1 (wC_0 g1) rfl dX0_copyFrom_55 ?_
  obtain ⟨y16, ey16, hf⟩ := bd_inv hf
  refine s_nmi ey16 ?_
  obtain ⟨sc17, esc17, hf⟩ := bd_inv hf
  refine pf_57 C x0 (wC_0 g2) (vp_nar_int _) rfl (Nat.le_of_ble_eq_true rfl) (wC G ad nb X sc17 ar9 fr10) (wC_s0_5 g2 esc17) dX0_copyFrom_58 ?_
  refine s_aload_n C 0 dX0_copyFrom_61 rfl ?_
  refine s_aload_n C 1 dX0_copyFrom_62 rfl ?_
  refine gf_60 C x1 (wC_0 g1) rfl dX0_copyFrom_63 ?_
  obtain ⟨y18, ey18, hf⟩ := bd_inv hf
  refine s_nmi ey18 ?_
  obtain ⟨b19, hf⟩ := gd_inv hf
  obtain ⟨sc20, esc20, hf⟩ := bd_inv hf
  refine pf_60 C x0 (wC_0 g2) (bln_n b19).1 (bln_n b19).2 (Nat.le_of_ble_eq_true rfl) (wC G ad nb X sc20 ar9 fr10) (wC_s0_6 g2 esc20) dX0_copyFrom_66 ?_
  refine s_aload_n C 0 dX0_copyFrom_69 rfl ?_
  refine s_aload_n C 1 dX0_copyFrom_70 rfl ?_
  refine gf_61 C x1 (wC_0 g1) rfl dX0_copyFrom_71 ?_
  obtain ⟨y21, ey21, hf⟩ := bd_inv hf
  refine s_nmi ey21 ?_
  obtain ⟨sc22, esc22, hf⟩ := bd_inv hf
  refine pf_61 C x0 (wC_0 g2) (vp_nar_int _) rfl (Nat.le_of_ble_eq_true rfl) (wC G ad nb X sc22 ar9 fr10) (wC_s0_7 g2 esc22) dX0_copyFrom_74 ?_
  refine s_aload_n C 0 dX0_copyFrom_77 rfl ?_
  refine s_aload_n C 1 dX0_copyFrom_78 rfl ?_
  refine gf_63 C x1 (wC_0 g1) rfl dX0_copyFrom_79 ?_
  obtain ⟨y23, ey23, hf⟩ := bd_inv hf
  refine s_nmi ey23 ?_
  obtain ⟨sc24, esc24, hf⟩ := bd_inv hf
  refine pf_63 C x0 (wC_0 g2) (vp_nar_int _) rfl (Nat.le_of_ble_eq_true rfl) (wC G ad nb X sc24 ar9 fr10) (wC_s0_8 g2 esc24) dX0_copyFrom_82 ?_
  refine s_aload_n C 0 dX0_copyFrom_85 rfl ?_
  refine s_aload_n C 1 dX0_copyFrom_86 rfl ?_
  refine gf_65 C x1 (wC_0 g1) rfl dX0_copyFrom_87 ?_
  obtain ⟨y25, ey25, hf⟩ := bd_inv hf
  refine s_nmi ey25 ?_
  obtain ⟨sc26, esc26, hf⟩ := bd_inv hf
  refine pf_65 C x0 (wC_0 g2) (vp_nar_int _) rfl (Nat.le_of_ble_eq_true rfl) (wC G ad nb X sc26 ar9 fr10) (wC_s0_9 g2 esc26) dX0_copyFrom_90 ?_
  refine s_aload_n C 0 dX0_copyFrom_93 rfl ?_
  refine s_aload_n C 1 dX0_copyFrom_94 rfl ?_
  refine gf_67 C x1 (wC_0 g1) rfl dX0_copyFrom_95 ?_
  obtain ⟨y27, ey27, hf⟩ := bd_inv hf
  refine s_nmi ey27 ?_
  obtain ⟨sc28, esc28, hf⟩ := bd_inv hf
  refine pf_67 C x0 (wC_0 g2) (vp_nar_int _) rfl (Nat.le_of_ble_eq_true rfl) (wC G ad nb X sc28 ar9 fr10) (wC_s0_10 g2 esc28) dX0_copyFrom_98 ?_
  refine s_aload_n C 0 dX0_copyFrom_101 rfl ?_
  refine s_aload_n C 1 dX0_copyFrom_102 rfl ?_
  refine gf_69 C x1 (wC_0 g1) rfl dX0_copyFrom_103 ?_
  obtain ⟨y29, ey29, hf⟩ := bd_inv hf
  refine s_nmi ey29 ?_
  obtain ⟨b30, hf⟩ := gd_inv hf
  obtain ⟨sc31, esc31, hf⟩ := bd_inv hf
  refine pf_69 C x0 (wC_0 g2) (bln_n b30).1 (bln_n b30).2 (Nat.le_of_ble_eq_true rfl) (wC G ad nb X sc31 ar9 fr10) (wC_s0_11 g2 esc31) dX0_copyFrom_106 ?_
  refine s_aload_n C 0 dX0_copyFrom_109 rfl ?_
  refine s_aload_n C 1 dX0_copyFrom_110 rfl ?_
  refine gf_70 C x1 (wC_0 g1) rfl dX0_copyFrom_111 ?_
  obtain ⟨y32, ey32, hf⟩ := bd_inv hf
  refine s_nmi ey32 ?_
  obtain ⟨b33, hf⟩ := gd_inv hf
  obtain ⟨sc34, esc34, hf⟩ := bd_inv hf
  refine pf_70 C x0 (wC_0 g2) (bln_n b33).1 (bln_n b33).2 (Nat.le_of_ble_eq_true rfl) (wC G ad nb X sc34 ar9 fr10) (wC_s0_12 g2 esc34) dX0_copyFrom_114 ?_
  refine s_aload_n C 0 dX0_copyFrom_117 rfl ?_
  refine s_aload_n C 1 dX0_copyFrom_118 rfl ?_
  refine gf_72 C x1 (wC_0 g1) rfl dX0_copyFrom_119 ?_
  obtain ⟨y35, ey35, hf⟩ := bd_inv hf
  refine s_nmi ey35 ?_
  obtain ⟨sc36, esc36, hf⟩ := bd_inv hf
  refine pf_72 C x0 (wC_0 g2) (vp_nar_int _) rfl (Nat.le_of_ble_eq_true rfl) (wC G ad nb X sc36 ar9 fr10) (wC_s0_13 g2 esc36) dX0_copyFrom_122 ?_
  refine s_aload_n C 0 dX0_copyFrom_125 rfl ?_
  refine gf_74 C x0 (wC_0 g2) rfl dX0_copyFrom_126 ?_
  refine s_aload_n C 1 dX0_copyFrom_129 rfl ?_
  refine gf_74 C x1 (wC_0 g1) rfl dX0_copyFrom_130 ?_
  obtain ⟨g41, hf⟩ := gd_inv hf
  obtain ⟨sc38, ar39, fr40, er37, hf⟩ := bCv_inv hf
  refine s_cV_V (As := [.ref (ad (x1 + 5))]) (rest := []) (ci := 3) (q := (x0 + 5)) C (c_X3_copyFrom l G A ad X nb (x0 + 5) (x1 + 5) sc36 ar9 fr10 _ _ _ er37) g_RX0_118 hd_X3_copyFrom rfl ⟨Nat.le_of_ble_eq_true rfl, Nat.le_of_ble_eq_true rfl⟩ rfl (wC_3 g41) rfl (Nat.le_of_ble_eq_true rfl) ⟨Nat.le_of_ble_eq_true rfl, Nat.le_of_ble_eq_true rfl⟩ dX0_copyFrom_133 ?_
  refine s_aload_n C 0 dX0_copyFrom_136 rfl ?_
  refine s_aload_n C 1 dX0_copyFrom_137 rfl ?_
  refine gf_76 C x1 (wC_0 g1) rfl dX0_copyFrom_138 ?_
  obtain ⟨y42, ey42, hf⟩ := bd_inv hf
  refine s_nmi ey42 ?_
  obtain ⟨sc43, esc43, hf⟩ := bd_inv hf
  refine pf_76 C x0 (wC_0 g2) (vp_nar_int _) rfl (Nat.le_of_ble_eq_true rfl) (wC G ad nb X sc43 ar39 fr40) (wC_s0_15 g2 esc43) dX0_copyFrom_141 ?_
  exact rC_V hf hret dX0_copyFrom_144
theorem c_X0_copyFrom (l : Launch) (G : GG) (A : Nat → Prop) (ad : Nat → Nat) (X : va_W) (nb : Nat) (x0 : Nat) (x1 : Nat) (sc : Nat → Nat → Int32) (ar : Nat → Nat → Int32) (fr : Nat → Nat → Nat) (sc0 : Nat → Nat → Int32) (ar0 : Nat → Nat → Int32) (fr0 : Nat → Nat → Nat) (hf : f_X0_copyFrom nb x0 x1 sc ar fr = some (sc0, ar0, fr0)) : MV l yX0_copyFrom cX0_copyFrom 2 ({ frames := 2, cells := 0, slots := 0, locals := 39 } : Room) G A (wC G ad nb X sc ar fr) [.ref (ad x0), .ref (ad x1)] (wC G ad nb X sc0 ar0 fr0) :=
  e_V (by decide) (Nat.le_of_ble_eq_true rfl) (fun Γ C hret => k_X0_copyFrom C _ _ _ _ _ _ _ _ _ _ _ hf hret)
