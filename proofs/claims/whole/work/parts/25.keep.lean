abbrev xK (G : GG) (ad : Nat → Nat) (h a0 : Nat) (kp : Nat → Option Nat) (X : va_W) : va_W := xP ad h a0 ((a0, .inl (G.2 4, 2, .inr (.inr (.inr (.inr (fun j => (kp j).map ad)))))) :: X)
abbrev wK (G : GG) (h a1 a2 a3 : Nat) (X : va_W) (st : Nat → Int32) (wt : Int32) (sm : Int64) (ld ln : Int32) (kp ik : Nat → Int32) : va_W := wM G h a1 a2 a3 ((a2, .inl (G.2 0, 16000, .inl kp)) :: (a3, .inl (G.2 1, 2, .inl ik)) :: X) st wt sm ld ln
theorem rK_I {l : Launch} {G : GG} {A : Nat → Prop} {Γ : Cx} {cc : ByteArray} {k n pc : Nat} {lv : List (Nat × Value)} {h a1 a2 a3 : Nat} {X : va_W} {st st0 : Nat → Int32} {wt wt0 : Int32} {sm sm0 : Int64} {ld ln ld0 ln0 : Int32} {kp ik kp0 ik0 : Nat → Int32} {rt : FieldType} {v r0 : Int32} (hf : some (v, st, wt, sm, ld, ln, kp, ik) = some (r0, st0, wt0, sm0, ld0, ln0, kp0, ik0)) (hn : narrow rt (.int v) = .int v) (hret : ∀ (pc : Nat) (lv : List (Nat × Value)), decode cc pc = .ok (.ireturn, 1) → narrow rt (.int r0) = .int r0 → St l G A Γ k n (wK G h a1 a2 a3 X st0 wt0 sm0 ld0 ln0 kp0 ik0) pc lv [.int r0]) (d : decode cc pc = .ok (.ireturn, 1)) : St l G A Γ k n (wK G h a1 a2 a3 X st wt sm ld ln kp ik) pc lv [.int v] := by
  cases hf; exact hret _ _ d hn
def f_X6_keep_26  : Nat → Int32 → Int32 → Int32 → (Nat → Int32) → Int32 → Int64 → Int32 → Int32 → (Nat → Int32) → (Nat → Int32) → Option (Int32 × (Nat → Int32) × Int32 × Int64 × Int32 × Int32 × (Nat → Int32) × (Nat → Int32))
  | 0, _, _, _, _, _, _, _, _, _, _ => none
  | fu + 1, x1, x2, x3, st, wt, sm, ld, ln, kp, ik =>
    if 8000 ≤ x3 then (wr ik 2 x1 1 fun ik6 =>
    some (x2, st, wt, sm, ld, ln, kp, ik6))
    else (rd st 8000 x3 fun v7 =>
    wr kp 16000 ((8000 * x1) + x3) v7 fun kp8 =>
    bd (x3 + 1) fun y9 =>
    f_X6_keep_26 fu x1 x2 y9 st wt sm ld ln kp8 ik)
def f_X6_keep_23  (x1 : Int32) (s0 : Int32) (st : Nat → Int32) (wt : Int32) (sm : Int64) (ld : Int32) (ln : Int32) (kp : Nat → Int32) (ik : Nat → Int32) : Option (Int32 × (Nat → Int32) × Int32 × Int64 × Int32 × Int32 × (Nat → Int32) × (Nat → Int32)) :=
  f_X6_keep_26 FU x1 s0 0 st wt sm ld ln kp ik
def f_X6_keep (x1 : Int32) (st : Nat → Int32) (wt : Int32) (sm : Int64) (ld : Int32) (ln : Int32) (kp : Nat → Int32) (ik : Nat → Int32) : Option (Int32 × (Nat → Int32) × Int32 × Int64 × Int32 × Int32 × (Nat → Int32) × (Nat → Int32)) :=
  bx (f_X6_isEnd x1) fun r1 =>
  if r1 = 0 then (some ((-1), st, wt, sm, ld, ln, kp, ik))
  else (rd ik 2 x1 fun v3 =>
  if v3 = 0 then (f_X6_keep_23 x1 0 st wt sm ld ln kp ik)
  else (f_X6_keep_23 x1 1 st wt sm ld ln kp ik))
set_option maxHeartbeats 4000000 in
set_option maxRecDepth 100000 in
theorem k_X6_keep {l : Launch} {G : GG} {A : Nat → Prop} {Γ : Cx} (C : CX G A Γ cX6_keep RX6 ({ frames := 1, cells := 0, slots := 0, locals := 20 } : Room) 4) (h : Nat) (a1 : Nat) (a2 : Nat) (a3 : Nat) (X : va_W) (x1 : Int32) (st : Nat → Int32) (wt : Int32) (sm : Int64) (ld : Int32) (ln : Int32) (kp : Nat → Int32) (ik : Nat → Int32) (r0 : Int32) (st0 : Nat → Int32) (wt0 : Int32) (sm0 : Int64) (ld0 : Int32) (ln0 : Int32) (kp0 : Nat → Int32) (ik0 : Nat → Int32) (hf : f_X6_keep x1 st wt sm ld ln kp ik = some (r0, st0, wt0, sm0, ld0, ln0, kp0, ik0)) (hret : ∀ (pc : Nat) (lv : List (Nat × Value)), decode cX6_keep pc = .ok (.ireturn, 1) → narrow .int (.int r0) = .int r0 → St l G A Γ 0 0 (wK G h a1 a2 a3 X st0 wt0 sm0 ld0 ln0 kp0 ik0) pc lv [.int r0]) : St l G A Γ 0 0 (wK G h a1 a2 a3 X st wt sm ld ln kp ik) 0 [(0, .ref h), (1, .int x1)] [] := by
  have B_26 : ∀  (fu : Nat) (x1 : Int32) (x2 : Int32) (x3 : Int32) (st : Nat → Int32) (wt : Int32) (sm : Int64) (ld : Int32) (ln : Int32) (kp : Nat → Int32) (ik : Nat → Int32), f_X6_keep_26 fu x1 x2 x3 st wt sm ld ln kp ik = some (r0, st0, wt0, sm0, ld0, ln0, kp0, ik0) → St l G A Γ 0 0 (wK G h a1 a2 a3 X st wt sm ld ln kp ik) 26 [(0, .ref h), (1, .int x1), (2, .int x2), (3, .int x3)] [] := by
    intro fu
    induction fu with
    | zero => intro x1 x2 x3 st wt sm ld ln kp ik hf ; rw [f_X6_keep_26] at hf; cases hf
    | succ fu ih =>
      intro x1 x2 x3 st wt sm ld ln kp ik hf 
      rw [f_X6_keep_26] at hf
      refine s_iload_n C 3 dX6_keep_26 rfl ?_
      refine s_sipush (v := 8000) C dX6_keep_27 (by decide) ?_
      refine s_icmp_ge C 57 dX6_keep_30 (by decide) (fun c5 => ?_) (fun c5 => ?_)
      · rw [if_pos c5] at hf
        refine s_aload_n C 0 dX6_keep_57 rfl ?_
        refine gf_510 C 0 rfl rfl dX6_keep_58 ?_
        refine s_iload_n C 1 dX6_keep_61 rfl ?_
        refine s_iconst (v := 1) C dX6_keep_62 (by decide) ?_
        obtain ⟨ik6, hiik6, eik6, hf⟩ := wr_inv hf
        refine s_zast C 3 rfl hiik6 (wK G h a1 a2 a3 X st wt sm ld ln kp ik6) (by rw [eik6]; rfl) dX6_keep_63 ?_
        refine s_iload_n C 2 dX6_keep_64 rfl ?_
        exact rK_I hf (vp_nar_int _) hret dX6_keep_65
      · rw [if_neg c5] at hf
        refine s_aload_n C 0 dX6_keep_33 rfl ?_
        refine gf_509 C 0 rfl rfl dX6_keep_34 ?_
        refine s_sipush (v := 8000) C dX6_keep_37 (by decide) ?_
        refine s_iload_n C 1 dX6_keep_40 rfl ?_
        refine s_imul C dX6_keep_41 ?_
        refine s_iload_n C 3 dX6_keep_42 rfl ?_
        refine s_iadd C dX6_keep_43 ?_
        refine s_aload_n C 0 dX6_keep_44 rfl ?_
        refine gf_508 C 0 rfl rfl dX6_keep_45 ?_
        refine s_iload_n C 3 dX6_keep_48 rfl ?_
        obtain ⟨v7, hiv7, ev7, hf⟩ := rd_inv hf
        refine s_iald C 1 rfl hiv7 dX6_keep_49 ?_
        refine s_nmi ev7 ?_
        obtain ⟨kp8, hikp8, ekp8, hf⟩ := wr_inv hf
        refine s_iast C 2 rfl hikp8 (wK G h a1 a2 a3 X st wt sm ld ln kp8 ik) (by rw [ekp8]; rfl) dX6_keep_50 ?_
        obtain ⟨y9, ey9, hf⟩ := bd_inv hf
        refine s_iinc (v := y9) C 3 [(3, .int y9), (0, .ref h), (1, .int x1), (2, .int x2)] dX6_keep_51 rfl (by rw [ey9]; rfl) (by decide) rfl ?_
        refine s_goto C 26 dX6_keep_54 (by decide) ?_
        refine s_lv [1, 2, 3, 0] rfl ?_
        exact ih _ _ _ _ _ _ _ _ _ _ hf
  have B_23 : ∀  (x1 : Int32) (s0 : Int32) (st : Nat → Int32) (wt : Int32) (sm : Int64) (ld : Int32) (ln : Int32) (kp : Nat → Int32) (ik : Nat → Int32), f_X6_keep_23 x1 s0 st wt sm ld ln kp ik = some (r0, st0, wt0, sm0, ld0, ln0, kp0, ik0) → St l G A Γ 0 0 (wK G h a1 a2 a3 X st wt sm ld ln kp ik) 23 [(0, .ref h), (1, .int x1)] [.int s0] := by
    intro  x1 s0 st wt sm ld ln kp ik hf 
    unfold f_X6_keep_23 at hf
    refine s_istore_n C [(2, .int s0), (0, .ref h), (1, .int x1)] dX6_keep_23 (by decide) rfl ?_
    refine s_iconst (v := 0) C dX6_keep_24 (by decide) ?_
    refine s_istore_n C [(3, .int 0), (2, .int s0), (0, .ref h), (1, .int x1)] dX6_keep_25 (by decide) rfl ?_
    refine s_lv [2, 3, 1, 0] rfl ?_
    exact B_26 _ _ _ _ _ _ _ _ _ _ _ hf
  unfold f_X6_keep at hf
  refine s_iload_n C 1 dX6_keep_0 rfl ?_
  obtain ⟨r1, er1, hf⟩ := bx_inv hf
  refine s_cS_I (As := [.int x1]) (rest := []) C (c_X6_isEnd l G A _ x1 _ er1) g_RX6_39 hd_X6_isEnd rfl ⟨Nat.le_of_ble_eq_true rfl, Nat.le_of_ble_eq_true rfl⟩ rfl (Nat.le_of_ble_eq_true rfl) ⟨Nat.le_of_ble_eq_true rfl, Nat.le_of_ble_eq_true rfl⟩ dX6_keep_1 ?_
  refine s_if_ne C 9 dX6_keep_4 (by decide) (fun c2 => ?_) (fun c2 => ?_)
  · rw [if_neg c2] at hf
    refine s_aload_n C 0 dX6_keep_9 rfl ?_
    refine gf_510 C 0 rfl rfl dX6_keep_10 ?_
    refine s_iload_n C 1 dX6_keep_13 rfl ?_
    obtain ⟨v3, hiv3, ev3, hf⟩ := rd_inv hf
    refine s_zald C 3 rfl hiv3 dX6_keep_14 ?_
    refine s_nmi ev3 ?_
    refine s_if_eq C 22 dX6_keep_15 (by decide) (fun c4 => ?_) (fun c4 => ?_)
    · rw [if_pos c4] at hf
      refine s_iconst (v := 0) C dX6_keep_22 (by decide) ?_
      exact B_23 _ _ _ _ _ _ _ _ _ hf
    · rw [if_neg c4] at hf
      refine s_iconst (v := 1) C dX6_keep_18 (by decide) ?_
      refine s_goto C 23 dX6_keep_19 (by decide) ?_
      exact B_23 _ _ _ _ _ _ _ _ _ hf
  · rw [if_pos c2] at hf
    refine s_iconst (v := (-1)) C dX6_keep_7 (by decide) ?_
    exact rK_I hf (vp_nar_int _) hret dX6_keep_8
theorem c_X6_keep (l : Launch) (G : GG) (A : Nat → Prop) (h : Nat) (a1 : Nat) (a2 : Nat) (a3 : Nat) (X : va_W) (x1 : Int32) (st : Nat → Int32) (wt : Int32) (sm : Int64) (ld : Int32) (ln : Int32) (kp : Nat → Int32) (ik : Nat → Int32) (r0 : Int32) (st0 : Nat → Int32) (wt0 : Int32) (sm0 : Int64) (ld0 : Int32) (ln0 : Int32) (kp0 : Nat → Int32) (ik0 : Nat → Int32) (hf : f_X6_keep x1 st wt sm ld ln kp ik = some (r0, st0, wt0, sm0, ld0, ln0, kp0, ik0)) : MI l yX6_keep cX6_keep 4 .int ({ frames := 1, cells := 0, slots := 0, locals := 20 } : Room) G A (wK G h a1 a2 a3 X st wt sm ld ln kp ik) [.ref h, .int x1] r0 (wK G h a1 a2 a3 X st0 wt0 sm0 ld0 ln0 kp0 ik0) :=
  e_I (by decide) (Nat.le_of_ble_eq_true rfl) (fun Γ C hret => k_X6_keep C _ _ _ _ _ _ _ _ _ _ _ _ _ _ _ _ _ _ _ _ _ hf hret)
def f_X6_again_23  : Nat → Int32 → Int32 → (Nat → Int32) → Int32 → Int64 → Int32 → Int32 → (Nat → Int32) → (Nat → Int32) → Option (Int32 × (Nat → Int32) × Int32 × Int64 × Int32 × Int32 × (Nat → Int32) × (Nat → Int32))
  | 0, _, _, _, _, _, _, _, _, _ => none
  | fu + 1, x1, x2, st, wt, sm, ld, ln, kp, ik =>
    if 8000 ≤ x2 then (rd st 8000 3 fun v6 =>
    some (v6, st, wt, sm, ld, ln, kp, ik))
    else (rd kp 16000 ((8000 * x1) + x2) fun v7 =>
    wr st 8000 x2 v7 fun st8 =>
    bd (x2 + 1) fun y9 =>
    f_X6_again_23 fu x1 y9 st8 wt sm ld ln kp ik)
def f_X6_again (x1 : Int32) (st : Nat → Int32) (wt : Int32) (sm : Int64) (ld : Int32) (ln : Int32) (kp : Nat → Int32) (ik : Nat → Int32) : Option (Int32 × (Nat → Int32) × Int32 × Int64 × Int32 × Int32 × (Nat → Int32) × (Nat → Int32)) :=
  bx (f_X6_isEnd x1) fun r1 =>
  if r1 = 0 then (some ((-1), st, wt, sm, ld, ln, kp, ik))
  else (rd ik 2 x1 fun v3 =>
  if v3 = 0 then (some ((-2), st, wt, sm, ld, ln, kp, ik))
  else (f_X6_again_23 FU x1 0 st wt sm ld ln kp ik))
set_option maxHeartbeats 4000000 in
set_option maxRecDepth 100000 in
theorem k_X6_again {l : Launch} {G : GG} {A : Nat → Prop} {Γ : Cx} (C : CX G A Γ cX6_again RX6 ({ frames := 1, cells := 0, slots := 0, locals := 20 } : Room) 3) (h : Nat) (a1 : Nat) (a2 : Nat) (a3 : Nat) (X : va_W) (x1 : Int32) (st : Nat → Int32) (wt : Int32) (sm : Int64) (ld : Int32) (ln : Int32) (kp : Nat → Int32) (ik : Nat → Int32) (r0 : Int32) (st0 : Nat → Int32) (wt0 : Int32) (sm0 : Int64) (ld0 : Int32) (ln0 : Int32) (kp0 : Nat → Int32) (ik0 : Nat → Int32) (hf : f_X6_again x1 st wt sm ld ln kp ik = some (r0, st0, wt0, sm0, ld0, ln0, kp0, ik0)) (hret : ∀ (pc : Nat) (lv : List (Nat × Value)), decode cX6_again pc = .ok (.ireturn, 1) → narrow .int (.int r0) = .int r0 → St l G A Γ 0 0 (wK G h a1 a2 a3 X st0 wt0 sm0 ld0 ln0 kp0 ik0) pc lv [.int r0]) : St l G A Γ 0 0 (wK G h a1 a2 a3 X st wt sm ld ln kp ik) 0 [(0, .ref h), (1, .int x1)] [] := by
  have B_23 : ∀  (fu : Nat) (x1 : Int32) (x2 : Int32) (st : Nat → Int32) (wt : Int32) (sm : Int64) (ld : Int32) (ln : Int32) (kp : Nat → Int32) (ik : Nat → Int32), f_X6_again_23 fu x1 x2 st wt sm ld ln kp ik = some (r0, st0, wt0, sm0, ld0, ln0, kp0, ik0) → St l G A Γ 0 0 (wK G h a1 a2 a3 X st wt sm ld ln kp ik) 23 [(0, .ref h), (1, .int x1), (2, .int x2)] [] := by
    intro fu
    induction fu with
    | zero => intro x1 x2 st wt sm ld ln kp ik hf ; rw [f_X6_again_23] at hf; cases hf
    | succ fu ih =>
      intro x1 x2 st wt sm ld ln kp ik hf 
      rw [f_X6_again_23] at hf
      refine s_iload_n C 2 dX6_again_23 rfl ?_
      refine s_sipush (v := 8000) C dX6_again_24 (by decide) ?_
      refine s_icmp_ge C 54 dX6_again_27 (by decide) (fun c5 => ?_) (fun c5 => ?_)
      · rw [if_pos c5] at hf
        refine s_aload_n C 0 dX6_again_54 rfl ?_
        refine gf_508 C 0 rfl rfl dX6_again_55 ?_
        refine s_iconst (v := 3) C dX6_again_58 (by decide) ?_
        obtain ⟨v6, hiv6, ev6, hf⟩ := rd_inv hf
        refine s_iald C 1 rfl hiv6 dX6_again_59 ?_
        refine s_nmi ev6 ?_
        exact rK_I hf (vp_nar_int _) hret dX6_again_60
      · rw [if_neg c5] at hf
        refine s_aload_n C 0 dX6_again_30 rfl ?_
        refine gf_508 C 0 rfl rfl dX6_again_31 ?_
        refine s_iload_n C 2 dX6_again_34 rfl ?_
        refine s_aload_n C 0 dX6_again_35 rfl ?_
        refine gf_509 C 0 rfl rfl dX6_again_36 ?_
        refine s_sipush (v := 8000) C dX6_again_39 (by decide) ?_
        refine s_iload_n C 1 dX6_again_42 rfl ?_
        refine s_imul C dX6_again_43 ?_
        refine s_iload_n C 2 dX6_again_44 rfl ?_
        refine s_iadd C dX6_again_45 ?_
        obtain ⟨v7, hiv7, ev7, hf⟩ := rd_inv hf
        refine s_iald C 2 rfl hiv7 dX6_again_46 ?_
        refine s_nmi ev7 ?_
        obtain ⟨st8, hist8, est8, hf⟩ := wr_inv hf
        refine s_iast C 1 rfl hist8 (wK G h a1 a2 a3 X st8 wt sm ld ln kp ik) (by rw [est8]; rfl) dX6_again_47 ?_
        obtain ⟨y9, ey9, hf⟩ := bd_inv hf
        refine s_iinc (v := y9) C 2 [(2, .int y9), (0, .ref h), (1, .int x1)] dX6_again_48 rfl (by rw [ey9]; rfl) (by decide) rfl ?_
        refine s_goto C 23 dX6_again_51 (by decide) ?_
        refine s_lv [1, 2, 0] rfl ?_
        exact ih _ _ _ _ _ _ _ _ _ hf
  unfold f_X6_again at hf
  refine s_iload_n C 1 dX6_again_0 rfl ?_
  obtain ⟨r1, er1, hf⟩ := bx_inv hf
  refine s_cS_I (As := [.int x1]) (rest := []) C (c_X6_isEnd l G A _ x1 _ er1) g_RX6_39 hd_X6_isEnd rfl ⟨Nat.le_of_ble_eq_true rfl, Nat.le_of_ble_eq_true rfl⟩ rfl (Nat.le_of_ble_eq_true rfl) ⟨Nat.le_of_ble_eq_true rfl, Nat.le_of_ble_eq_true rfl⟩ dX6_again_1 ?_
  refine s_if_ne C 9 dX6_again_4 (by decide) (fun c2 => ?_) (fun c2 => ?_)
  · rw [if_neg c2] at hf
    refine s_aload_n C 0 dX6_again_9 rfl ?_
    refine gf_510 C 0 rfl rfl dX6_again_10 ?_
    refine s_iload_n C 1 dX6_again_13 rfl ?_
    obtain ⟨v3, hiv3, ev3, hf⟩ := rd_inv hf
    refine s_zald C 3 rfl hiv3 dX6_again_14 ?_
    refine s_nmi ev3 ?_
    refine s_if_ne C 21 dX6_again_15 (by decide) (fun c4 => ?_) (fun c4 => ?_)
    · rw [if_neg c4] at hf
      refine s_iconst (v := 0) C dX6_again_21 (by decide) ?_
      refine s_istore_n C [(2, .int 0), (0, .ref h), (1, .int x1)] dX6_again_22 (by decide) rfl ?_
      refine s_lv [1, 2, 0] rfl ?_
      exact B_23 _ _ _ _ _ _ _ _ _ _ hf
    · rw [if_pos c4] at hf
      refine s_bipush (v := (-2)) C dX6_again_18 (by decide) ?_
      exact rK_I hf (vp_nar_int _) hret dX6_again_20
  · rw [if_pos c2] at hf
    refine s_iconst (v := (-1)) C dX6_again_7 (by decide) ?_
    exact rK_I hf (vp_nar_int _) hret dX6_again_8
theorem c_X6_again (l : Launch) (G : GG) (A : Nat → Prop) (h : Nat) (a1 : Nat) (a2 : Nat) (a3 : Nat) (X : va_W) (x1 : Int32) (st : Nat → Int32) (wt : Int32) (sm : Int64) (ld : Int32) (ln : Int32) (kp : Nat → Int32) (ik : Nat → Int32) (r0 : Int32) (st0 : Nat → Int32) (wt0 : Int32) (sm0 : Int64) (ld0 : Int32) (ln0 : Int32) (kp0 : Nat → Int32) (ik0 : Nat → Int32) (hf : f_X6_again x1 st wt sm ld ln kp ik = some (r0, st0, wt0, sm0, ld0, ln0, kp0, ik0)) : MI l yX6_again cX6_again 3 .int ({ frames := 1, cells := 0, slots := 0, locals := 20 } : Room) G A (wK G h a1 a2 a3 X st wt sm ld ln kp ik) [.ref h, .int x1] r0 (wK G h a1 a2 a3 X st0 wt0 sm0 ld0 ln0 kp0 ik0) :=
  e_I (by decide) (Nat.le_of_ble_eq_true rfl) (fun Γ C hret => k_X6_again C _ _ _ _ _ _ _ _ _ _ _ _ _ _ _ _ _ _ _ _ _ hf hret)
def f_X5_isNoPlaceToKeep (nb : Nat) (x1 : Int32) (sc : Nat → Nat → Int32) (ar : Nat → Nat → Int32) (fr : Nat → Nat → Nat) : Option (Int32 × (Nat → Nat → Int32) × (Nat → Nat → Int32) × (Nat → Nat → Nat)) :=
  if x1 < 0 then (some (1, sc, ar, fr))
  else (if x1 < 2 then (some (0, sc, ar, fr))
  else (some (1, sc, ar, fr)))
set_option maxHeartbeats 4000000 in
set_option maxRecDepth 100000 in
theorem k_X5_isNoPlaceToKeep {l : Launch} {G : GG} {A : Nat → Prop} {Γ : Cx} (C : CX G A Γ cX5_isNoPlaceToKeep RX5 ({ frames := 0, cells := 0, slots := 0, locals := 0 } : Room) 2) (ad : Nat → Nat) (h : Nat) (a0 : Nat) (kp : Nat → Option Nat) (X : va_W) (nb : Nat) (x1 : Int32) (sc : Nat → Nat → Int32) (ar : Nat → Nat → Int32) (fr : Nat → Nat → Nat) (r0 : Int32) (sc0 : Nat → Nat → Int32) (ar0 : Nat → Nat → Int32) (fr0 : Nat → Nat → Nat) (hf : f_X5_isNoPlaceToKeep nb x1 sc ar fr = some (r0, sc0, ar0, fr0)) (hret : ∀ (pc : Nat) (lv : List (Nat × Value)), decode cX5_isNoPlaceToKeep pc = .ok (.ireturn, 1) → narrow .boolean (.int r0) = .int r0 → St l G A Γ 0 0 (wC G ad nb (xK G ad h a0 kp X) sc0 ar0 fr0) pc lv [.int r0]) : St l G A Γ 0 0 (wC G ad nb (xK G ad h a0 kp X) sc ar fr) 0 [(0, .ref h), (1, .int x1)] [] := by
  unfold f_X5_isNoPlaceToKeep at hf
  refine s_iload_n C 1 dX5_isNoPlaceToKeep_0 rfl ?_
  refine s_if_lt C 13 dX5_isNoPlaceToKeep_1 (by decide) (fun c1 => ?_) (fun c1 => ?_)
  · rw [if_pos c1] at hf
    refine s_iconst (v := 1) C dX5_isNoPlaceToKeep_13 (by decide) ?_
    refine s_goto C 18 dX5_isNoPlaceToKeep_14 (by decide) ?_
    exact rC_I hf rfl hret dX5_isNoPlaceToKeep_18
  · rw [if_neg c1] at hf
    refine s_iload_n C 1 dX5_isNoPlaceToKeep_4 rfl ?_
    refine s_aload_n C 0 dX5_isNoPlaceToKeep_5 rfl ?_
    refine gf_181 C (72 * nb + 0) (wC_tail 0) rfl dX5_isNoPlaceToKeep_6 ?_
    refine s_alenq (v := 2) C 4 rfl (72 * nb + 1) (wC_tail 1) rfl dX5_isNoPlaceToKeep_9 ?_
    refine s_icmp_lt C 17 dX5_isNoPlaceToKeep_10 (by decide) (fun c2 => ?_) (fun c2 => ?_)
    · rw [if_pos c2] at hf
      refine s_iconst (v := 0) C dX5_isNoPlaceToKeep_17 (by decide) ?_
      exact rC_I hf rfl hret dX5_isNoPlaceToKeep_18
    · rw [if_neg c2] at hf
      refine s_iconst (v := 1) C dX5_isNoPlaceToKeep_13 (by decide) ?_
      refine s_goto C 18 dX5_isNoPlaceToKeep_14 (by decide) ?_
      exact rC_I hf rfl hret dX5_isNoPlaceToKeep_18
theorem c_X5_isNoPlaceToKeep (l : Launch) (G : GG) (A : Nat → Prop) (ad : Nat → Nat) (h : Nat) (a0 : Nat) (kp : Nat → Option Nat) (X : va_W) (nb : Nat) (x1 : Int32) (sc : Nat → Nat → Int32) (ar : Nat → Nat → Int32) (fr : Nat → Nat → Nat) (r0 : Int32) (sc0 : Nat → Nat → Int32) (ar0 : Nat → Nat → Int32) (fr0 : Nat → Nat → Nat) (hf : f_X5_isNoPlaceToKeep nb x1 sc ar fr = some (r0, sc0, ar0, fr0)) : MI l yX5_isNoPlaceToKeep cX5_isNoPlaceToKeep 2 .boolean ({ frames := 0, cells := 0, slots := 0, locals := 0 } : Room) G A (wC G ad nb (xK G ad h a0 kp X) sc ar fr) [.ref h, .int x1] r0 (wC G ad nb (xK G ad h a0 kp X) sc0 ar0 fr0) :=
  e_I (by decide) (Nat.le_of_ble_eq_true rfl) (fun Γ C hret => k_X5_isNoPlaceToKeep C _ _ _ _ _ _ _ _ _ _ _ _ _ _ hf hret)
