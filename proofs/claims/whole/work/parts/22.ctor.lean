theorem df_X0 : ∀ j, j < 16 → defaultValue (tyX0 j) = vp_V [.null, .int 0, .null, .int 0, .int 0, .int 0, .int 0, .int 0, .int 0, .int 0, .int 0, .int 0, .int 0, .int 0, .null, .int 0] j := by
  intro j hj
  match j, hj with
  | 0, _ => rfl
  | 1, _ => rfl
  | 2, _ => rfl
  | 3, _ => rfl
  | 4, _ => rfl
  | 5, _ => rfl
  | 6, _ => rfl
  | 7, _ => rfl
  | 8, _ => rfl
  | 9, _ => rfl
  | 10, _ => rfl
  | 11, _ => rfl
  | 12, _ => rfl
  | 13, _ => rfl
  | 14, _ => rfl
  | 15, _ => rfl
  | j + 16, h => exact absurd h (by omega)
theorem df_X1 : ∀ j, j < 3 → defaultValue (tyX1 j) = vp_V [.null, .int 0, .int 0] j := by
  intro j hj
  match j, hj with
  | 0, _ => rfl
  | 1, _ => rfl
  | 2, _ => rfl
  | j + 3, h => exact absurd h (by omega)
theorem df_X2 : ∀ j, j < 8 → defaultValue (tyX2 j) = vp_V [.null, .null, .null, .int 0, .int 0, .int 0, .int 0, .int 0] j := by
  intro j hj
  match j, hj with
  | 0, _ => rfl
  | 1, _ => rfl
  | 2, _ => rfl
  | 3, _ => rfl
  | 4, _ => rfl
  | 5, _ => rfl
  | 6, _ => rfl
  | 7, _ => rfl
  | j + 8, h => exact absurd h (by omega)
theorem df_X3 : ∀ j, j < 2 → defaultValue (tyX3 j) = vp_V [.null, .null] j := by
  intro j hj
  match j, hj with
  | 0, _ => rfl
  | 1, _ => rfl
  | j + 2, h => exact absurd h (by omega)
theorem df_X4 : ∀ j, j < 2 → defaultValue (tyX4 j) = vp_V [.null, .int 0] j := by
  intro j hj
  match j, hj with
  | 0, _ => rfl
  | 1, _ => rfl
  | j + 2, h => exact absurd h (by omega)
theorem df_X5 : ∀ j, j < 2 → defaultValue (tyX5 j) = vp_V [.null, .null] j := by
  intro j hj
  match j, hj with
  | 0, _ => rfl
  | 1, _ => rfl
  | j + 2, h => exact absurd h (by omega)
theorem df_X6 : ∀ j, j < 7 → defaultValue (tyX6 j) = vp_V [.null, .null, .null, .int 0, .long 0, .int 0, .int 0] j := by
  intro j hj
  match j, hj with
  | 0, _ => rfl
  | 1, _ => rfl
  | 2, _ => rfl
  | 3, _ => rfl
  | 4, _ => rfl
  | 5, _ => rfl
  | 6, _ => rfl
  | j + 7, h => exact absurd h (by omega)
abbrev wf_X3_init_24 (G : GG) (X : va_W) (q : Nat) (u : Nat → Nat) : va_W := X ++ [(q, .inr (3, [.ref (u 1), .ref (u 2)])), ((u 1), .inl (G.2 0, 24, .inl (fun _ => 0))), ((u 2), .inl (G.2 0, 576, .inl (fun _ => 0)))]
set_option maxHeartbeats 4000000 in
set_option maxRecDepth 100000 in
theorem k_X3_init_24 {l : Launch} {G : GG} {A : Nat → Prop} {Γ : Cx} (C : CX G A Γ cX3_init RX3 ({ frames := 1, cells := 2, slots := 600, locals := 12 } : Room) 2) (hI : isIni Γ) (X : va_W) (q : Nat) (hret : ∀ (u : Nat → Nat) (pc : Nat) (lv : List (Nat × Value)), decode cX3_init pc = .ok (.return_, 1) → St l G A Γ 2 600 (wf_X3_init_24 G X q u) pc lv []) : St l G A Γ 0 0 (X ++ [(q, .inr (3, [.null, .null]))]) 0 [(0, .ref q), (1, .int 24)] [] := by
  refine s_aload_n C 0 dX3_init_0 rfl ?_
  refine s_obj C tw_36 tw_16 tw_17 dX3_init_1 ⟨Nat.le_of_ble_eq_true rfl, Nat.le_of_ble_eq_true rfl⟩ ?_
  refine s_aload_n C 0 dX3_init_4 rfl ?_
  refine s_iload_n C 1 dX3_init_5 rfl ?_
  refine s_newI (N := 24) C tw_47 (by decide) (by decide) (by decide) ⟨Nat.le_of_ble_eq_true rfl, Nat.le_of_ble_eq_true rfl⟩ dX3_init_6 (fun q1 => ?_)
  refine s_ws (ws' := X ++ [(q, .inr (3, [.null, .null])), (q1, .inl (G.2 0, 24, .inl (fun _ => 0)))]) (List.append_assoc _ _ _) ?_
  refine s_putF (Cn := RX3) (T := TX3) (N := 2) (j := 0) C hI rfl in_X3 tyX3 tyX3_ok nmX3 (by decide) rfl rfl tw_37 rfl (X.length + 0) (xa_at 0) rfl rfl (Nat.le_of_ble_eq_true rfl) (X ++ [(q, .inr (3, [.ref q1, .null])), (q1, .inl (G.2 0, 24, .inl (fun _ => 0)))]) (xa_set 0 _) dX3_init_8 ?_
  refine s_aload_n C 0 dX3_init_11 rfl ?_
  refine s_iload_n C 1 dX3_init_12 rfl ?_
  refine s_bipush (v := 24) C dX3_init_13 (by decide) ?_
  refine s_imul C dX3_init_15 ?_
  refine s_nmi (v := 576) (by decide) ?_
  refine s_newI (N := 576) C tw_47 (by decide) (by decide) (by decide) ⟨Nat.le_of_ble_eq_true rfl, Nat.le_of_ble_eq_true rfl⟩ dX3_init_16 (fun q2 => ?_)
  refine s_ws (ws' := X ++ [(q, .inr (3, [.ref q1, .null])), (q1, .inl (G.2 0, 24, .inl (fun _ => 0))), (q2, .inl (G.2 0, 576, .inl (fun _ => 0)))]) (List.append_assoc _ _ _) ?_
  refine s_putF (Cn := RX3) (T := TX3) (N := 2) (j := 1) C hI rfl in_X3 tyX3 tyX3_ok nmX3 (by decide) rfl rfl tw_40 rfl (X.length + 0) (xa_at 0) rfl rfl (Nat.le_of_ble_eq_true rfl) (X ++ [(q, .inr (3, [.ref q1, .ref q2])), (q1, .inl (G.2 0, 24, .inl (fun _ => 0))), (q2, .inl (G.2 0, 576, .inl (fun _ => 0)))]) (xa_set 0 _) dX3_init_18 ?_
  exact hret (fun i => ([q, q1, q2] : List Nat).getD i 0) _ _ dX3_init_21
theorem c_X3_init_24 (l : Launch) (G : GG) (A : Nat → Prop) (X : va_W) (q : Nat) : MX l yX3_init cX3_init 2 ({ frames := 1, cells := 2, slots := 600, locals := 12 } : Room) G A (X ++ [(q, .inr (3, [.null, .null]))]) [.ref q, .int 24] (wf_X3_init_24 G X q) :=
  e_X (by decide) rfl (Nat.le_of_ble_eq_true rfl) (fun Γ C hI hret => k_X3_init_24 C hI X q hret)
abbrev wf_X3_init_60 (G : GG) (X : va_W) (q : Nat) (u : Nat → Nat) : va_W := X ++ [(q, .inr (3, [.ref (u 1), .ref (u 2)])), ((u 1), .inl (G.2 0, 60, .inl (fun _ => 0))), ((u 2), .inl (G.2 0, 1440, .inl (fun _ => 0)))]
set_option maxHeartbeats 4000000 in
set_option maxRecDepth 100000 in
theorem k_X3_init_60 {l : Launch} {G : GG} {A : Nat → Prop} {Γ : Cx} (C : CX G A Γ cX3_init RX3 ({ frames := 1, cells := 2, slots := 1500, locals := 12 } : Room) 2) (hI : isIni Γ) (X : va_W) (q : Nat) (hret : ∀ (u : Nat → Nat) (pc : Nat) (lv : List (Nat × Value)), decode cX3_init pc = .ok (.return_, 1) → St l G A Γ 2 1500 (wf_X3_init_60 G X q u) pc lv []) : St l G A Γ 0 0 (X ++ [(q, .inr (3, [.null, .null]))]) 0 [(0, .ref q), (1, .int 60)] [] := by
  refine s_aload_n C 0 dX3_init_0 rfl ?_
  refine s_obj C tw_36 tw_16 tw_17 dX3_init_1 ⟨Nat.le_of_ble_eq_true rfl, Nat.le_of_ble_eq_true rfl⟩ ?_
  refine s_aload_n C 0 dX3_init_4 rfl ?_
  refine s_iload_n C 1 dX3_init_5 rfl ?_
  refine s_newI (N := 60) C tw_47 (by decide) (by decide) (by decide) ⟨Nat.le_of_ble_eq_true rfl, Nat.le_of_ble_eq_true rfl⟩ dX3_init_6 (fun q1 => ?_)
  refine s_ws (ws' := X ++ [(q, .inr (3, [.null, .null])), (q1, .inl (G.2 0, 60, .inl (fun _ => 0)))]) (List.append_assoc _ _ _) ?_
  refine s_putF (Cn := RX3) (T := TX3) (N := 2) (j := 0) C hI rfl in_X3 tyX3 tyX3_ok nmX3 (by decide) rfl rfl tw_37 rfl (X.length + 0) (xa_at 0) rfl rfl (Nat.le_of_ble_eq_true rfl) (X ++ [(q, .inr (3, [.ref q1, .null])), (q1, .inl (G.2 0, 60, .inl (fun _ => 0)))]) (xa_set 0 _) dX3_init_8 ?_
  refine s_aload_n C 0 dX3_init_11 rfl ?_
  refine s_iload_n C 1 dX3_init_12 rfl ?_
  refine s_bipush (v := 24) C dX3_init_13 (by decide) ?_
  refine s_imul C dX3_init_15 ?_
  refine s_nmi (v := 1440) (by decide) ?_
  refine s_newI (N := 1440) C tw_47 (by decide) (by decide) (by decide) ⟨Nat.le_of_ble_eq_true rfl, Nat.le_of_ble_eq_true rfl⟩ dX3_init_16 (fun q2 => ?_)
  refine s_ws (ws' := X ++ [(q, .inr (3, [.ref q1, .null])), (q1, .inl (G.2 0, 60, .inl (fun _ => 0))), (q2, .inl (G.2 0, 1440, .inl (fun _ => 0)))]) (List.append_assoc _ _ _) ?_
  refine s_putF (Cn := RX3) (T := TX3) (N := 2) (j := 1) C hI rfl in_X3 tyX3 tyX3_ok nmX3 (by decide) rfl rfl tw_40 rfl (X.length + 0) (xa_at 0) rfl rfl (Nat.le_of_ble_eq_true rfl) (X ++ [(q, .inr (3, [.ref q1, .ref q2])), (q1, .inl (G.2 0, 60, .inl (fun _ => 0))), (q2, .inl (G.2 0, 1440, .inl (fun _ => 0)))]) (xa_set 0 _) dX3_init_18 ?_
  exact hret (fun i => ([q, q1, q2] : List Nat).getD i 0) _ _ dX3_init_21
theorem c_X3_init_60 (l : Launch) (G : GG) (A : Nat → Prop) (X : va_W) (q : Nat) : MX l yX3_init cX3_init 2 ({ frames := 1, cells := 2, slots := 1500, locals := 12 } : Room) G A (X ++ [(q, .inr (3, [.null, .null]))]) [.ref q, .int 60] (wf_X3_init_60 G X q) :=
  e_X (by decide) rfl (Nat.le_of_ble_eq_true rfl) (fun Γ C hI hret => k_X3_init_60 C hI X q hret)
abbrev wf_X1_init (G : GG) (X : va_W) (q : Nat) (u : Nat → Nat) : va_W := X ++ [(q, .inr (1, [.ref (u 1), .int 0, .int 0])), ((u 1), .inl (G.2 0, 32, .inl (fun _ => 0)))]
set_option maxHeartbeats 4000000 in
set_option maxRecDepth 100000 in
theorem k_X1_init {l : Launch} {G : GG} {A : Nat → Prop} {Γ : Cx} (C : CX G A Γ cX1_init RX1 ({ frames := 1, cells := 1, slots := 32, locals := 12 } : Room) 1) (hI : isIni Γ) (X : va_W) (q : Nat) (hret : ∀ (u : Nat → Nat) (pc : Nat) (lv : List (Nat × Value)), decode cX1_init pc = .ok (.return_, 1) → St l G A Γ 1 32 (wf_X1_init G X q u) pc lv []) : St l G A Γ 0 0 (X ++ [(q, .inr (1, [.null, .int 0, .int 0]))]) 0 [(0, .ref q)] [] := by
  refine s_aload_n C 0 dX1_init_0 rfl ?_
  refine s_obj C tw_123 tw_16 tw_17 dX1_init_1 ⟨Nat.le_of_ble_eq_true rfl, Nat.le_of_ble_eq_true rfl⟩ ?_
  refine s_aload_n C 0 dX1_init_4 rfl ?_
  refine s_bipush (v := 32) C dX1_init_5 (by decide) ?_
  refine s_newI (N := 32) C tw_47 (by decide) (by decide) (by decide) ⟨Nat.le_of_ble_eq_true rfl, Nat.le_of_ble_eq_true rfl⟩ dX1_init_7 (fun q1 => ?_)
  refine s_ws (ws' := X ++ [(q, .inr (1, [.null, .int 0, .int 0])), (q1, .inl (G.2 0, 32, .inl (fun _ => 0)))]) (List.append_assoc _ _ _) ?_
  refine s_putF (Cn := RX1) (T := TX1) (N := 3) (j := 0) C hI rfl in_X1 tyX1 tyX1_ok nmX1 (by decide) rfl rfl tw_124 rfl (X.length + 0) (xa_at 0) rfl rfl (Nat.le_of_ble_eq_true rfl) (X ++ [(q, .inr (1, [.ref q1, .int 0, .int 0])), (q1, .inl (G.2 0, 32, .inl (fun _ => 0)))]) (xa_set 0 _) dX1_init_9 ?_
  exact hret (fun i => ([q, q1] : List Nat).getD i 0) _ _ dX1_init_12
theorem c_X1_init (l : Launch) (G : GG) (A : Nat → Prop) (X : va_W) (q : Nat) : MX l yX1_init cX1_init 1 ({ frames := 1, cells := 1, slots := 32, locals := 12 } : Room) G A (X ++ [(q, .inr (1, [.null, .int 0, .int 0]))]) [.ref q] (wf_X1_init G X q) :=
  e_X (by decide) rfl (Nat.le_of_ble_eq_true rfl) (fun Γ C hI hret => k_X1_init C hI X q hret)
abbrev wf_X0_init (G : GG) (X : va_W) (q : Nat) (u : Nat → Nat) : va_W := X ++ [(q, .inr (0, [.ref (u 1), .int 0, .ref (u 2), .int 0, .int 0, .int 0, .int 0, .int 0, .int 0, .int 0, .int 0, .int 0, .int 0, .int (-4), .ref (u 5), .int 0])), ((u 1), .inl (G.2 0, 24, .inl (fun _ => 0))), ((u 2), .inr (3, [.ref (u 3), .ref (u 4)])), ((u 3), .inl (G.2 0, 24, .inl (fun _ => 0))), ((u 4), .inl (G.2 0, 576, .inl (fun _ => 0))), ((u 5), .inr (3, [.ref (u 6), .ref (u 7)])), ((u 6), .inl (G.2 0, 60, .inl (fun _ => 0))), ((u 7), .inl (G.2 0, 1440, .inl (fun _ => 0)))]
set_option maxHeartbeats 4000000 in
set_option maxRecDepth 100000 in
theorem k_X0_init {l : Launch} {G : GG} {A : Nat → Prop} {Γ : Cx} (C : CX G A Γ cX0_init RX0 ({ frames := 2, cells := 7, slots := 2128, locals := 33 } : Room) 1) (hI : isIni Γ) (X : va_W) (q : Nat) (hret : ∀ (u : Nat → Nat) (pc : Nat) (lv : List (Nat × Value)), decode cX0_init pc = .ok (.return_, 1) → St l G A Γ 7 2128 (wf_X0_init G X q u) pc lv []) : St l G A Γ 0 0 (X ++ [(q, .inr (0, [.null, .int 0, .null, .int 0, .int 0, .int 0, .int 0, .int 0, .int 0, .int 0, .int 0, .int 0, .int 0, .int 0, .null, .int 0]))]) 0 [(0, .ref q)] [] := by
  refine s_aload_n C 0 dX0_init_0 rfl ?_
  refine s_obj C tw_30 tw_16 tw_17 dX0_init_1 ⟨Nat.le_of_ble_eq_true rfl, Nat.le_of_ble_eq_true rfl⟩ ?_
  refine s_aload_n C 0 dX0_init_4 rfl ?_
  refine s_bipush (v := 24) C dX0_init_5 (by decide) ?_
  refine s_newI (N := 24) C tw_47 (by decide) (by decide) (by decide) ⟨Nat.le_of_ble_eq_true rfl, Nat.le_of_ble_eq_true rfl⟩ dX0_init_7 (fun q1 => ?_)
  refine s_ws (ws' := X ++ [(q, .inr (0, [.null, .int 0, .null, .int 0, .int 0, .int 0, .int 0, .int 0, .int 0, .int 0, .int 0, .int 0, .int 0, .int 0, .null, .int 0])), (q1, .inl (G.2 0, 24, .inl (fun _ => 0)))]) (List.append_assoc _ _ _) ?_
  refine s_putF (Cn := RX0) (T := TX0) (N := 16) (j := 0) C hI rfl in_X0 tyX0 tyX0_ok nmX0 (by decide) rfl rfl tw_48 rfl (X.length + 0) (xa_at 0) rfl rfl (Nat.le_of_ble_eq_true rfl) (X ++ [(q, .inr (0, [.ref q1, .int 0, .null, .int 0, .int 0, .int 0, .int 0, .int 0, .int 0, .int 0, .int 0, .int 0, .int 0, .int 0, .null, .int 0])), (q1, .inl (G.2 0, 24, .inl (fun _ => 0)))]) (xa_set 0 _) dX0_init_9 ?_
  refine s_aload_n C 0 dX0_init_12 rfl ?_
  refine s_new (ci := 3) (fs := [.null, .null]) C rfl in_X3 tyX3 tyX3_ok tw_31 tw_32 tw_4 df_X3 ⟨Nat.le_of_ble_eq_true rfl, Nat.le_of_ble_eq_true rfl⟩ dX0_init_13 (fun q2 => ?_)
  refine s_dup C dX0_init_16 rfl ?_
  refine s_bipush (v := 24) C dX0_init_17 (by decide) ?_
  refine s_cI_X (As := [.int 24]) (rest := [.ref q2, .ref q]) C (c_X3_init_24 l G A (X ++ [(q, .inr (0, [.ref q1, .int 0, .null, .int 0, .int 0, .int 0, .int 0, .int 0, .int 0, .int 0, .int 0, .int 0, .int 0, .int 0, .null, .int 0])), (q1, .inl (G.2 0, 24, .inl (fun _ => 0)))]) q2) (gd_C tw_35) tw_4 tw_33 tw_34 rfl hd_X3_init.2 rfl ⟨Nat.le_of_ble_eq_true rfl, Nat.le_of_ble_eq_true rfl⟩ rfl (Nat.le_of_ble_eq_true rfl) ⟨Nat.le_of_ble_eq_true rfl, Nat.le_of_ble_eq_true rfl⟩ dX0_init_19 (fun u3 => ?_)
  refine s_ws (ws' := X ++ [(q, .inr (0, [.ref q1, .int 0, .null, .int 0, .int 0, .int 0, .int 0, .int 0, .int 0, .int 0, .int 0, .int 0, .int 0, .int 0, .null, .int 0])), (q1, .inl (G.2 0, 24, .inl (fun _ => 0))), (q2, .inr (3, [.ref (u3 1), .ref (u3 2)])), ((u3 1), .inl (G.2 0, 24, .inl (fun _ => 0))), ((u3 2), .inl (G.2 0, 576, .inl (fun _ => 0)))]) (List.append_assoc _ _ _) ?_
  refine s_putF (Cn := RX0) (T := TX0) (N := 16) (j := 2) C hI rfl in_X0 tyX0 tyX0_ok nmX0 (by decide) rfl rfl tw_52 rfl (X.length + 0) (xa_at 0) rfl rfl (Nat.le_of_ble_eq_true rfl) (X ++ [(q, .inr (0, [.ref q1, .int 0, .ref q2, .int 0, .int 0, .int 0, .int 0, .int 0, .int 0, .int 0, .int 0, .int 0, .int 0, .int 0, .null, .int 0])), (q1, .inl (G.2 0, 24, .inl (fun _ => 0))), (q2, .inr (3, [.ref (u3 1), .ref (u3 2)])), ((u3 1), .inl (G.2 0, 24, .inl (fun _ => 0))), ((u3 2), .inl (G.2 0, 576, .inl (fun _ => 0)))]) (xa_set 0 _) dX0_init_22 ?_
  refine s_aload_n C 0 dX0_init_25 rfl ?_
  refine s_bipush (v := (-4)) C dX0_init_26 (by decide) ?_
  refine pf_72 C (X.length + 0) (xa_at 0) (vp_nar_int _) rfl (Nat.le_of_ble_eq_true rfl) (X ++ [(q, .inr (0, [.ref q1, .int 0, .ref q2, .int 0, .int 0, .int 0, .int 0, .int 0, .int 0, .int 0, .int 0, .int 0, .int 0, .int (-4), .null, .int 0])), (q1, .inl (G.2 0, 24, .inl (fun _ => 0))), (q2, .inr (3, [.ref (u3 1), .ref (u3 2)])), ((u3 1), .inl (G.2 0, 24, .inl (fun _ => 0))), ((u3 2), .inl (G.2 0, 576, .inl (fun _ => 0)))]) (xa_set 0 _) dX0_init_28 ?_
  refine s_aload_n C 0 dX0_init_31 rfl ?_
  refine s_new (ci := 3) (fs := [.null, .null]) C rfl in_X3 tyX3 tyX3_ok tw_31 tw_32 tw_4 df_X3 ⟨Nat.le_of_ble_eq_true rfl, Nat.le_of_ble_eq_true rfl⟩ dX0_init_32 (fun q4 => ?_)
  refine s_dup C dX0_init_35 rfl ?_
  refine s_bipush (v := 60) C dX0_init_36 (by decide) ?_
  refine s_cI_X (As := [.int 60]) (rest := [.ref q4, .ref q]) C (c_X3_init_60 l G A (X ++ [(q, .inr (0, [.ref q1, .int 0, .ref q2, .int 0, .int 0, .int 0, .int 0, .int 0, .int 0, .int 0, .int 0, .int 0, .int 0, .int (-4), .null, .int 0])), (q1, .inl (G.2 0, 24, .inl (fun _ => 0))), (q2, .inr (3, [.ref (u3 1), .ref (u3 2)])), ((u3 1), .inl (G.2 0, 24, .inl (fun _ => 0))), ((u3 2), .inl (G.2 0, 576, .inl (fun _ => 0)))]) q4) (gd_C tw_35) tw_4 tw_33 tw_34 rfl hd_X3_init.2 rfl ⟨Nat.le_of_ble_eq_true rfl, Nat.le_of_ble_eq_true rfl⟩ rfl (Nat.le_of_ble_eq_true rfl) ⟨Nat.le_of_ble_eq_true rfl, Nat.le_of_ble_eq_true rfl⟩ dX0_init_38 (fun u5 => ?_)
  refine s_ws (ws' := X ++ [(q, .inr (0, [.ref q1, .int 0, .ref q2, .int 0, .int 0, .int 0, .int 0, .int 0, .int 0, .int 0, .int 0, .int 0, .int 0, .int (-4), .null, .int 0])), (q1, .inl (G.2 0, 24, .inl (fun _ => 0))), (q2, .inr (3, [.ref (u3 1), .ref (u3 2)])), ((u3 1), .inl (G.2 0, 24, .inl (fun _ => 0))), ((u3 2), .inl (G.2 0, 576, .inl (fun _ => 0))), (q4, .inr (3, [.ref (u5 1), .ref (u5 2)])), ((u5 1), .inl (G.2 0, 60, .inl (fun _ => 0))), ((u5 2), .inl (G.2 0, 1440, .inl (fun _ => 0)))]) (List.append_assoc _ _ _) ?_
  refine s_putF (Cn := RX0) (T := TX0) (N := 16) (j := 14) C hI rfl in_X0 tyX0 tyX0_ok nmX0 (by decide) rfl rfl tw_74 rfl (X.length + 0) (xa_at 0) rfl rfl (Nat.le_of_ble_eq_true rfl) (X ++ [(q, .inr (0, [.ref q1, .int 0, .ref q2, .int 0, .int 0, .int 0, .int 0, .int 0, .int 0, .int 0, .int 0, .int 0, .int 0, .int (-4), .ref q4, .int 0])), (q1, .inl (G.2 0, 24, .inl (fun _ => 0))), (q2, .inr (3, [.ref (u3 1), .ref (u3 2)])), ((u3 1), .inl (G.2 0, 24, .inl (fun _ => 0))), ((u3 2), .inl (G.2 0, 576, .inl (fun _ => 0))), (q4, .inr (3, [.ref (u5 1), .ref (u5 2)])), ((u5 1), .inl (G.2 0, 60, .inl (fun _ => 0))), ((u5 2), .inl (G.2 0, 1440, .inl (fun _ => 0)))]) (xa_set 0 _) dX0_init_41 ?_
  exact hret (fun i => ([q, q1, q2, (u3 1), (u3 2), q4, (u5 1), (u5 2)] : List Nat).getD i 0) _ _ dX0_init_44
theorem c_X0_init (l : Launch) (G : GG) (A : Nat → Prop) (X : va_W) (q : Nat) : MX l yX0_init cX0_init 1 ({ frames := 2, cells := 7, slots := 2128, locals := 33 } : Room) G A (X ++ [(q, .inr (0, [.null, .int 0, .null, .int 0, .int 0, .int 0, .int 0, .int 0, .int 0, .int 0, .int 0, .int 0, .int 0, .int 0, .null, .int 0]))]) [.ref q] (wf_X0_init G X q) :=
  e_X (by decide) rfl (Nat.le_of_ble_eq_true rfl) (fun Γ C hI hret => k_X0_init C hI X q hret)
abbrev wf_X4_init (G : GG) (X : va_W) (q : Nat) (u : Nat → Nat) : va_W := X ++ [(q, .inr (4, [.ref (u 1), .int 0])), ((u 1), .inl (G.2 3, 12, .inr (.inr (.inr (.inr (va_up (va_up (va_up (va_up (va_up (va_up (va_up (va_up (va_up (va_up (va_up (va_up (fun _ => none) 0 (some (u 2))) 1 (some (u 4))) 2 (some (u 6))) 3 (some (u 8))) 4 (some (u 10))) 5 (some (u 12))) 6 (some (u 14))) 7 (some (u 16))) 8 (some (u 18))) 9 (some (u 20))) 10 (some (u 22))) 11 (some (u 24)))))))), ((u 2), .inr (1, [.ref (u 3), .int 0, .int 0])), ((u 3), .inl (G.2 0, 32, .inl (fun _ => 0))), ((u 4), .inr (1, [.ref (u 5), .int 0, .int 0])), ((u 5), .inl (G.2 0, 32, .inl (fun _ => 0))), ((u 6), .inr (1, [.ref (u 7), .int 0, .int 0])), ((u 7), .inl (G.2 0, 32, .inl (fun _ => 0))), ((u 8), .inr (1, [.ref (u 9), .int 0, .int 0])), ((u 9), .inl (G.2 0, 32, .inl (fun _ => 0))), ((u 10), .inr (1, [.ref (u 11), .int 0, .int 0])), ((u 11), .inl (G.2 0, 32, .inl (fun _ => 0))), ((u 12), .inr (1, [.ref (u 13), .int 0, .int 0])), ((u 13), .inl (G.2 0, 32, .inl (fun _ => 0))), ((u 14), .inr (1, [.ref (u 15), .int 0, .int 0])), ((u 15), .inl (G.2 0, 32, .inl (fun _ => 0))), ((u 16), .inr (1, [.ref (u 17), .int 0, .int 0])), ((u 17), .inl (G.2 0, 32, .inl (fun _ => 0))), ((u 18), .inr (1, [.ref (u 19), .int 0, .int 0])), ((u 19), .inl (G.2 0, 32, .inl (fun _ => 0))), ((u 20), .inr (1, [.ref (u 21), .int 0, .int 0])), ((u 21), .inl (G.2 0, 32, .inl (fun _ => 0))), ((u 22), .inr (1, [.ref (u 23), .int 0, .int 0])), ((u 23), .inl (G.2 0, 32, .inl (fun _ => 0))), ((u 24), .inr (1, [.ref (u 25), .int 0, .int 0])), ((u 25), .inl (G.2 0, 32, .inl (fun _ => 0)))]
set_option maxHeartbeats 4000000 in
set_option maxRecDepth 100000 in
theorem k_X4_init {l : Launch} {G : GG} {A : Nat → Prop} {Γ : Cx} (C : CX G A Γ cX4_init RX4 ({ frames := 2, cells := 25, slots := 432, locals := 32 } : Room) 2) (hI : isIni Γ) (X : va_W) (q : Nat) (hret : ∀ (u : Nat → Nat) (pc : Nat) (lv : List (Nat × Value)), decode cX4_init pc = .ok (.return_, 1) → St l G A Γ 25 432 (wf_X4_init G X q u) pc lv []) : St l G A Γ 0 0 (X ++ [(q, .inr (4, [.null, .int 0]))]) 0 [(0, .ref q)] [] := by
  refine s_aload_n C 0 dX4_init_0 rfl ?_
  refine s_obj C tw_116 tw_16 tw_17 dX4_init_1 ⟨Nat.le_of_ble_eq_true rfl, Nat.le_of_ble_eq_true rfl⟩ ?_
  refine s_aload_n C 0 dX4_init_4 rfl ?_
  refine s_bipush (v := 12) C dX4_init_5 (by decide) ?_
  refine s_newQ (N := 12) C 3 rfl (fun U h => h.2.2.2.1) tw_117 (by decide) (by decide) (by decide) ⟨Nat.le_of_ble_eq_true rfl, Nat.le_of_ble_eq_true rfl⟩ dX4_init_7 (fun q1 => ?_)
  refine s_ws (ws' := X ++ [(q, .inr (4, [.null, .int 0])), (q1, .inl (G.2 3, 12, .inr (.inr (.inr (.inr (fun _ => none))))))]) (List.append_assoc _ _ _) ?_
  refine s_putF (Cn := RX4) (T := TX4) (N := 2) (j := 0) C hI rfl in_X4 tyX4 tyX4_ok nmX4 (by decide) rfl rfl tw_139 rfl (X.length + 0) (xa_at 0) rfl rfl (Nat.le_of_ble_eq_true rfl) (X ++ [(q, .inr (4, [.ref q1, .int 0])), (q1, .inl (G.2 3, 12, .inr (.inr (.inr (.inr (fun _ => none))))))]) (xa_set 0 _) dX4_init_10 ?_
  refine s_iconst (v := 0) C dX4_init_13 (by decide) ?_
  refine s_istore_n C [(1, .int 0), (0, .ref q)] dX4_init_14 (by decide) rfl ?_
  refine s_iload_n C 0 dX4_init_15 rfl ?_
  refine s_aload_n C 1 dX4_init_16 rfl ?_
  refine gf_139 C (X.length + 0) (xa_at 0) rfl dX4_init_17 ?_
  refine s_alenq (v := 12) C 3 rfl (X.length + 1) (xa_at 1) rfl dX4_init_20 ?_
  refine s_icmp_ge C 43 dX4_init_21 (by decide) (fun c => absurd c (by decide)) (fun _ => ?_)
  refine s_aload_n C 1 dX4_init_24 rfl ?_
  refine gf_139 C (X.length + 0) (xa_at 0) rfl dX4_init_25 ?_
  refine s_iload_n C 0 dX4_init_28 rfl ?_
  refine s_new (ci := 1) (fs := [.null, .int 0, .int 0]) C rfl in_X1 tyX1 tyX1_ok tw_117 tw_119 tw_6 df_X1 ⟨Nat.le_of_ble_eq_true rfl, Nat.le_of_ble_eq_true rfl⟩ dX4_init_29 (fun q2 => ?_)
  refine s_dup C dX4_init_32 rfl ?_
  refine s_cIN_X (As := []) (rest := [.ref q2, .int 0, .ref q1]) C (c_X1_init l G A (X ++ [(q, .inr (4, [.ref q1, .int 0])), (q1, .inl (G.2 3, 12, .inr (.inr (.inr (.inr (fun _ => none))))))]) q2) (gd_C tw_122) tw_6 tn_120 tw_121 rfl hd_X1_init.2 rfl ⟨Nat.le_of_ble_eq_true rfl, Nat.le_of_ble_eq_true rfl⟩ rfl (Nat.le_of_ble_eq_true rfl) ⟨Nat.le_of_ble_eq_true rfl, Nat.le_of_ble_eq_true rfl⟩ dX4_init_33 (fun u3 => ?_)
  refine s_ws (ws' := X ++ [(q, .inr (4, [.ref q1, .int 0])), (q1, .inl (G.2 3, 12, .inr (.inr (.inr (.inr (fun _ => none)))))), (q2, .inr (1, [.ref (u3 1), .int 0, .int 0])), ((u3 1), .inl (G.2 0, 32, .inl (fun _ => 0)))]) (List.append_assoc _ _ _) ?_
  refine s_aastq (ci := 1) C 3 rfl rfl (X.length + 1) (X.length + 2) (xa_at 1) (xa_at 2) (by decide) (X ++ [(q, .inr (4, [.ref q1, .int 0])), (q1, .inl (G.2 3, 12, .inr (.inr (.inr (.inr (va_up (fun _ => none) 0 (some q2))))))), (q2, .inr (1, [.ref (u3 1), .int 0, .int 0])), ((u3 1), .inl (G.2 0, 32, .inl (fun _ => 0)))]) (xa_set 1 _) dX4_init_36 ?_
  refine s_iinc (v := 1) C 0 [(1, .int 1), (0, .ref q)] dX4_init_37 rfl (by decide) (by decide) rfl ?_
  refine s_goto C 15 dX4_init_40 (by decide) ?_
  refine s_iload_n C 0 dX4_init_15 rfl ?_
  refine s_aload_n C 1 dX4_init_16 rfl ?_
  refine gf_139 C (X.length + 0) (xa_at 0) rfl dX4_init_17 ?_
  refine s_alenq (v := 12) C 3 rfl (X.length + 1) (xa_at 1) rfl dX4_init_20 ?_
  refine s_icmp_ge C 43 dX4_init_21 (by decide) (fun c => absurd c (by decide)) (fun _ => ?_)
  refine s_aload_n C 1 dX4_init_24 rfl ?_
  refine gf_139 C (X.length + 0) (xa_at 0) rfl dX4_init_25 ?_
  refine s_iload_n C 0 dX4_init_28 rfl ?_
  refine s_new (ci := 1) (fs := [.null, .int 0, .int 0]) C rfl in_X1 tyX1 tyX1_ok tw_117 tw_119 tw_6 df_X1 ⟨Nat.le_of_ble_eq_true rfl, Nat.le_of_ble_eq_true rfl⟩ dX4_init_29 (fun q4 => ?_)
  refine s_dup C dX4_init_32 rfl ?_
  refine s_cIN_X (As := []) (rest := [.ref q4, .int 1, .ref q1]) C (c_X1_init l G A (X ++ [(q, .inr (4, [.ref q1, .int 0])), (q1, .inl (G.2 3, 12, .inr (.inr (.inr (.inr (va_up (fun _ => none) 0 (some q2))))))), (q2, .inr (1, [.ref (u3 1), .int 0, .int 0])), ((u3 1), .inl (G.2 0, 32, .inl (fun _ => 0)))]) q4) (gd_C tw_122) tw_6 tn_120 tw_121 rfl hd_X1_init.2 rfl ⟨Nat.le_of_ble_eq_true rfl, Nat.le_of_ble_eq_true rfl⟩ rfl (Nat.le_of_ble_eq_true rfl) ⟨Nat.le_of_ble_eq_true rfl, Nat.le_of_ble_eq_true rfl⟩ dX4_init_33 (fun u5 => ?_)
  refine s_ws (ws' := X ++ [(q, .inr (4, [.ref q1, .int 0])), (q1, .inl (G.2 3, 12, .inr (.inr (.inr (.inr (va_up (fun _ => none) 0 (some q2))))))), (q2, .inr (1, [.ref (u3 1), .int 0, .int 0])), ((u3 1), .inl (G.2 0, 32, .inl (fun _ => 0))), (q4, .inr (1, [.ref (u5 1), .int 0, .int 0])), ((u5 1), .inl (G.2 0, 32, .inl (fun _ => 0)))]) (List.append_assoc _ _ _) ?_
  refine s_aastq (ci := 1) C 3 rfl rfl (X.length + 1) (X.length + 4) (xa_at 1) (xa_at 4) (by decide) (X ++ [(q, .inr (4, [.ref q1, .int 0])), (q1, .inl (G.2 3, 12, .inr (.inr (.inr (.inr (va_up (va_up (fun _ => none) 0 (some q2)) 1 (some q4))))))), (q2, .inr (1, [.ref (u3 1), .int 0, .int 0])), ((u3 1), .inl (G.2 0, 32, .inl (fun _ => 0))), (q4, .inr (1, [.ref (u5 1), .int 0, .int 0])), ((u5 1), .inl (G.2 0, 32, .inl (fun _ => 0)))]) (xa_set 1 _) dX4_init_36 ?_
  refine s_iinc (v := 2) C 0 [(1, .int 2), (0, .ref q)] dX4_init_37 rfl (by decide) (by decide) rfl ?_
  refine s_goto C 15 dX4_init_40 (by decide) ?_
  refine s_iload_n C 0 dX4_init_15 rfl ?_
  refine s_aload_n C 1 dX4_init_16 rfl ?_
  refine gf_139 C (X.length + 0) (xa_at 0) rfl dX4_init_17 ?_
  refine s_alenq (v := 12) C 3 rfl (X.length + 1) (xa_at 1) rfl dX4_init_20 ?_
  refine s_icmp_ge C 43 dX4_init_21 (by decide) (fun c => absurd c (by decide)) (fun _ => ?_)
  refine s_aload_n C 1 dX4_init_24 rfl ?_
  refine gf_139 C (X.length + 0) (xa_at 0) rfl dX4_init_25 ?_
  refine s_iload_n C 0 dX4_init_28 rfl ?_
  refine s_new (ci := 1) (fs := [.null, .int 0, .int 0]) C rfl in_X1 tyX1 tyX1_ok tw_117 tw_119 tw_6 df_X1 ⟨Nat.le_of_ble_eq_true rfl, Nat.le_of_ble_eq_true rfl⟩ dX4_init_29 (fun q6 => ?_)
  refine s_dup C dX4_init_32 rfl ?_
  refine s_cIN_X (As := []) (rest := [.ref q6, .int 2, .ref q1]) C (c_X1_init l G A (X ++ [(q, .inr (4, [.ref q1, .int 0])), (q1, .inl (G.2 3, 12, .inr (.inr (.inr (.inr (va_up (va_up (fun _ => none) 0 (some q2)) 1 (some q4))))))), (q2, .inr (1, [.ref (u3 1), .int 0, .int 0])), ((u3 1), .inl (G.2 0, 32, .inl (fun _ => 0))), (q4, .inr (1, [.ref (u5 1), .int 0, .int 0])), ((u5 1), .inl (G.2 0, 32, .inl (fun _ => 0)))]) q6) (gd_C tw_122) tw_6 tn_120 tw_121 rfl hd_X1_init.2 rfl ⟨Nat.le_of_ble_eq_true rfl, Nat.le_of_ble_eq_true rfl⟩ rfl (Nat.le_of_ble_eq_true rfl) ⟨Nat.le_of_ble_eq_true rfl, Nat.le_of_ble_eq_true rfl⟩ dX4_init_33 (fun u7 => ?_)
  refine s_ws (ws' := X ++ [(q, .inr (4, [.ref q1, .int 0])), (q1, .inl (G.2 3, 12, .inr (.inr (.inr (.inr (va_up (va_up (fun _ => none) 0 (some q2)) 1 (some q4))))))), (q2, .inr (1, [.ref (u3 1), .int 0, .int 0])), ((u3 1), .inl (G.2 0, 32, .inl (fun _ => 0))), (q4, .inr (1, [.ref (u5 1), .int 0, .int 0])), ((u5 1), .inl (G.2 0, 32, .inl (fun _ => 0))), (q6, .inr (1, [.ref (u7 1), .int 0, .int 0])), ((u7 1), .inl (G.2 0, 32, .inl (fun _ => 0)))]) (List.append_assoc _ _ _) ?_
  refine s_aastq (ci := 1) C 3 rfl rfl (X.length + 1) (X.length + 6) (xa_at 1) (xa_at 6) (by decide) (X ++ [(q, .inr (4, [.ref q1, .int 0])), (q1, .inl (G.2 3, 12, .inr (.inr (.inr (.inr (va_up (va_up (va_up (fun _ => none) 0 (some q2)) 1 (some q4)) 2 (some q6))))))), (q2, .inr (1, [.ref (u3 1), .int 0, .int 0])), ((u3 1), .inl (G.2 0, 32, .inl (fun _ => 0))), (q4, .inr (1, [.ref (u5 1), .int 0, .int 0])), ((u5 1), .inl (G.2 0, 32, .inl (fun _ => 0))), (q6, .inr (1, [.ref (u7 1), .int 0, .int 0])), ((u7 1), .inl (G.2 0, 32, .inl (fun _ => 0)))]) (xa_set 1 _) dX4_init_36 ?_
  refine s_iinc (v := 3) C 0 [(1, .int 3), (0, .ref q)] dX4_init_37 rfl (by decide) (by decide) rfl ?_
  refine s_goto C 15 dX4_init_40 (by decide) ?_
  refine s_iload_n C 0 dX4_init_15 rfl ?_
  refine s_aload_n C 1 dX4_init_16 rfl ?_
  refine gf_139 C (X.length + 0) (xa_at 0) rfl dX4_init_17 ?_
  refine s_alenq (v := 12) C 3 rfl (X.length + 1) (xa_at 1) rfl dX4_init_20 ?_
  refine s_icmp_ge C 43 dX4_init_21 (by decide) (fun c => absurd c (by decide)) (fun _ => ?_)
  refine s_aload_n C 1 dX4_init_24 rfl ?_
  refine gf_139 C (X.length + 0) (xa_at 0) rfl dX4_init_25 ?_
  refine s_iload_n C 0 dX4_init_28 rfl ?_
  refine s_new (ci := 1) (fs := [.null, .int 0, .int 0]) C rfl in_X1 tyX1 tyX1_ok tw_117 tw_119 tw_6 df_X1 ⟨Nat.le_of_ble_eq_true rfl, Nat.le_of_ble_eq_true rfl⟩ dX4_init_29 (fun q8 => ?_)
  refine s_dup C dX4_init_32 rfl ?_
  refine s_cIN_X (As := []) (rest := [.ref q8, .int 3, .ref q1]) C (c_X1_init l G A (X ++ [(q, .inr (4, [.ref q1, .int 0])), (q1, .inl (G.2 3, 12, .inr (.inr (.inr (.inr (va_up (va_up (va_up (fun _ => none) 0 (some q2)) 1 (some q4)) 2 (some q6))))))), (q2, .inr (1, [.ref (u3 1), .int 0, .int 0])), ((u3 1), .inl (G.2 0, 32, .inl (fun _ => 0))), (q4, .inr (1, [.ref (u5 1), .int 0, .int 0])), ((u5 1), .inl (G.2 0, 32, .inl (fun _ => 0))), (q6, .inr (1, [.ref (u7 1), .int 0, .int 0])), ((u7 1), .inl (G.2 0, 32, .inl (fun _ => 0)))]) q8) (gd_C tw_122) tw_6 tn_120 tw_121 rfl hd_X1_init.2 rfl ⟨Nat.le_of_ble_eq_true rfl, Nat.le_of_ble_eq_true rfl⟩ rfl (Nat.le_of_ble_eq_true rfl) ⟨Nat.le_of_ble_eq_true rfl, Nat.le_of_ble_eq_true rfl⟩ dX4_init_33 (fun u9 => ?_)
  refine s_ws (ws' := X ++ [(q, .inr (4, [.ref q1, .int 0])), (q1, .inl (G.2 3, 12, .inr (.inr (.inr (.inr (va_up (va_up (va_up (fun _ => none) 0 (some q2)) 1 (some q4)) 2 (some q6))))))), (q2, .inr (1, [.ref (u3 1), .int 0, .int 0])), ((u3 1), .inl (G.2 0, 32, .inl (fun _ => 0))), (q4, .inr (1, [.ref (u5 1), .int 0, .int 0])), ((u5 1), .inl (G.2 0, 32, .inl (fun _ => 0))), (q6, .inr (1, [.ref (u7 1), .int 0, .int 0])), ((u7 1), .inl (G.2 0, 32, .inl (fun _ => 0))), (q8, .inr (1, [.ref (u9 1), .int 0, .int 0])), ((u9 1), .inl (G.2 0, 32, .inl (fun _ => 0)))]) (List.append_assoc _ _ _) ?_
  refine s_aastq (ci := 1) C 3 rfl rfl (X.length + 1) (X.length + 8) (xa_at 1) (xa_at 8) (by decide) (X ++ [(q, .inr (4, [.ref q1, .int 0])), (q1, .inl (G.2 3, 12, .inr (.inr (.inr (.inr (va_up (va_up (va_up (va_up (fun _ => none) 0 (some q2)) 1 (some q4)) 2 (some q6)) 3 (some q8))))))), (q2, .inr (1, [.ref (u3 1), .int 0, .int 0])), ((u3 1), .inl (G.2 0, 32, .inl (fun _ => 0))), (q4, .inr (1, [.ref (u5 1), .int 0, .int 0])), ((u5 1), .inl (G.2 0, 32, .inl (fun _ => 0))), (q6, .inr (1, [.ref (u7 1), .int 0, .int 0])), ((u7 1), .inl (G.2 0, 32, .inl (fun _ => 0))), (q8, .inr (1, [.ref (u9 1), .int 0, .int 0])), ((u9 1), .inl (G.2 0, 32, .inl (fun _ => 0)))]) (xa_set 1 _) dX4_init_36 ?_
  refine s_iinc (v := 4) C 0 [(1, .int 4), (0, .ref q)] dX4_init_37 rfl (by decide) (by decide) rfl ?_
  refine s_goto C 15 dX4_init_40 (by decide) ?_
  refine s_iload_n C 0 dX4_init_15 rfl ?_
  refine s_aload_n C 1 dX4_init_16 rfl ?_
  refine gf_139 C (X.length + 0) (xa_at 0) rfl dX4_init_17 ?_
  refine s_alenq (v := 12) C 3 rfl (X.length + 1) (xa_at 1) rfl dX4_init_20 ?_
  refine s_icmp_ge C 43 dX4_init_21 (by decide) (fun c => absurd c (by decide)) (fun _ => ?_)
  refine s_aload_n C 1 dX4_init_24 rfl ?_
  refine gf_139 C (X.length + 0) (xa_at 0) rfl dX4_init_25 ?_
  refine s_iload_n C 0 dX4_init_28 rfl ?_
  refine s_new (ci := 1) (fs := [.null, .int 0, .int 0]) C rfl in_X1 tyX1 tyX1_ok tw_117 tw_119 tw_6 df_X1 ⟨Nat.le_of_ble_eq_true rfl, Nat.le_of_ble_eq_true rfl⟩ dX4_init_29 (fun q10 => ?_)
  refine s_dup C dX4_init_32 rfl ?_
  refine s_cIN_X (As := []) (rest := [.ref q10, .int 4, .ref q1]) C (c_X1_init l G A (X ++ [(q, .inr (4, [.ref q1, .int 0])), (q1, .inl (G.2 3, 12, .inr (.inr (.inr (.inr (va_up (va_up (va_up (va_up (fun _ => none) 0 (some q2)) 1 (some q4)) 2 (some q6)) 3 (some q8))))))), (q2, .inr (1, [.ref (u3 1), .int 0, .int 0])), ((u3 1), .inl (G.2 0, 32, .inl (fun _ => 0))), (q4, .inr (1, [.ref (u5 1), .int 0, .int 0])), ((u5 1), .inl (G.2 0, 32, .inl (fun _ => 0))), (q6, .inr (1, [.ref (u7 1), .int 0, .int 0])), ((u7 1), .inl (G.2 0, 32, .inl (fun _ => 0))), (q8, .inr (1, [.ref (u9 1), .int 0, .int 0])), ((u9 1), .inl (G.2 0, 32, .inl (fun _ => 0)))]) q10) (gd_C tw_122) tw_6 tn_120 tw_121 rfl hd_X1_init.2 rfl ⟨Nat.le_of_ble_eq_true rfl, Nat.le_of_ble_eq_true rfl⟩ rfl (Nat.le_of_ble_eq_true rfl) ⟨Nat.le_of_ble_eq_true rfl, Nat.le_of_ble_eq_true rfl⟩ dX4_init_33 (fun u11 => ?_)
  refine s_ws (ws' := X ++ [(q, .inr (4, [.ref q1, .int 0])), (q1, .inl (G.2 3, 12, .inr (.inr (.inr (.inr (va_up (va_up (va_up (va_up (fun _ => none) 0 (some q2)) 1 (some q4)) 2 (some q6)) 3 (some q8))))))), (q2, .inr (1, [.ref (u3 1), .int 0, .int 0])), ((u3 1), .inl (G.2 0, 32, .inl (fun _ => 0))), (q4, .inr (1, [.ref (u5 1), .int 0, .int 0])), ((u5 1), .inl (G.2 0, 32, .inl (fun _ => 0))), (q6, .inr (1, [.ref (u7 1), .int 0, .int 0])), ((u7 1), .inl (G.2 0, 32, .inl (fun _ => 0))), (q8, .inr (1, [.ref (u9 1), .int 0, .int 0])), ((u9 1), .inl (G.2 0, 32, .inl (fun _ => 0))), (q10, .inr (1, [.ref (u11 1), .int 0, .int 0])), ((u11 1), .inl (G.2 0, 32, .inl (fun _ => 0)))]) (List.append_assoc _ _ _) ?_
  refine s_aastq (ci := 1) C 3 rfl rfl (X.length + 1) (X.length + 10) (xa_at 1) (xa_at 10) (by decide) (X ++ [(q, .inr (4, [.ref q1, .int 0])), (q1, .inl (G.2 3, 12, .inr (.inr (.inr (.inr (va_up (va_up (va_up (va_up (va_up (fun _ => none) 0 (some q2)) 1 (some q4)) 2 (some q6)) 3 (some q8)) 4 (some q10))))))), (q2, .inr (1, [.ref (u3 1), .int 0, .int 0])), ((u3 1), .inl (G.2 0, 32, .inl (fun _ => 0))), (q4, .inr (1, [.ref (u5 1), .int 0, .int 0])), ((u5 1), .inl (G.2 0, 32, .inl (fun _ => 0))), (q6, .inr (1, [.ref (u7 1), .int 0, .int 0])), ((u7 1), .inl (G.2 0, 32, .inl (fun _ => 0))), (q8, .inr (1, [.ref (u9 1), .int 0, .int 0])), ((u9 1), .inl (G.2 0, 32, .inl (fun _ => 0))), (q10, .inr (1, [.ref (u11 1), .int 0, .int 0])), ((u11 1), .inl (G.2 0, 32, .inl (fun _ => 0)))]) (xa_set 1 _) dX4_init_36 ?_
  refine s_iinc (v := 5) C 0 [(1, .int 5), (0, .ref q)] dX4_init_37 rfl (by decide) (by decide) rfl ?_
  refine s_goto C 15 dX4_init_40 (by decide) ?_
  refine s_iload_n C 0 dX4_init_15 rfl ?_
  refine s_aload_n C 1 dX4_init_16 rfl ?_
  refine gf_139 C (X.length + 0) (xa_at 0) rfl dX4_init_17 ?_
  refine s_alenq (v := 12) C 3 rfl (X.length + 1) (xa_at 1) rfl dX4_init_20 ?_
  refine s_icmp_ge C 43 dX4_init_21 (by decide) (fun c => absurd c (by decide)) (fun _ => ?_)
  refine s_aload_n C 1 dX4_init_24 rfl ?_
  refine gf_139 C (X.length + 0) (xa_at 0) rfl dX4_init_25 ?_
  refine s_iload_n C 0 dX4_init_28 rfl ?_
  refine s_new (ci := 1) (fs := [.null, .int 0, .int 0]) C rfl in_X1 tyX1 tyX1_ok tw_117 tw_119 tw_6 df_X1 ⟨Nat.le_of_ble_eq_true rfl, Nat.le_of_ble_eq_true rfl⟩ dX4_init_29 (fun q12 => ?_)
  refine s_dup C dX4_init_32 rfl ?_
  refine s_cIN_X (As := []) (rest := [.ref q12, .int 5, .ref q1]) C (c_X1_init l G A (X ++ [(q, .inr (4, [.ref q1, .int 0])), (q1, .inl (G.2 3, 12, .inr (.inr (.inr (.inr (va_up (va_up (va_up (va_up (va_up (fun _ => none) 0 (some q2)) 1 (some q4)) 2 (some q6)) 3 (some q8)) 4 (some q10))))))), (q2, .inr (1, [.ref (u3 1), .int 0, .int 0])), ((u3 1), .inl (G.2 0, 32, .inl (fun _ => 0))), (q4, .inr (1, [.ref (u5 1), .int 0, .int 0])), ((u5 1), .inl (G.2 0, 32, .inl (fun _ => 0))), (q6, .inr (1, [.ref (u7 1), .int 0, .int 0])), ((u7 1), .inl (G.2 0, 32, .inl (fun _ => 0))), (q8, .inr (1, [.ref (u9 1), .int 0, .int 0])), ((u9 1), .inl (G.2 0, 32, .inl (fun _ => 0))), (q10, .inr (1, [.ref (u11 1), .int 0, .int 0])), ((u11 1), .inl (G.2 0, 32, .inl (fun _ => 0)))]) q12) (gd_C tw_122) tw_6 tn_120 tw_121 rfl hd_X1_init.2 rfl ⟨Nat.le_of_ble_eq_true rfl, Nat.le_of_ble_eq_true rfl⟩ rfl (Nat.le_of_ble_eq_true rfl) ⟨Nat.le_of_ble_eq_true rfl, Nat.le_of_ble_eq_true rfl⟩ dX4_init_33 (fun u13 => ?_)
  refine s_ws (ws' := X ++ [(q, .inr (4, [.ref q1, .int 0])), (q1, .inl (G.2 3, 12, .inr (.inr (.inr (.inr (va_up (va_up (va_up (va_up (va_up (fun _ => none) 0 (some q2)) 1 (some q4)) 2 (some q6)) 3 (some q8)) 4 (some q10))))))), (q2, .inr (1, [.ref (u3 1), .int 0, .int 0])), ((u3 1), .inl (G.2 0, 32, .inl (fun _ => 0))), (q4, .inr (1, [.ref (u5 1), .int 0, .int 0])), ((u5 1), .inl (G.2 0, 32, .inl (fun _ => 0))), (q6, .inr (1, [.ref (u7 1), .int 0, .int 0])), ((u7 1), .inl (G.2 0, 32, .inl (fun _ => 0))), (q8, .inr (1, [.ref (u9 1), .int 0, .int 0])), ((u9 1), .inl (G.2 0, 32, .inl (fun _ => 0))), (q10, .inr (1, [.ref (u11 1), .int 0, .int 0])), ((u11 1), .inl (G.2 0, 32, .inl (fun _ => 0))), (q12, .inr (1, [.ref (u13 1), .int 0, .int 0])), ((u13 1), .inl (G.2 0, 32, .inl (fun _ => 0)))]) (List.append_assoc _ _ _) ?_
  refine s_aastq (ci := 1) C 3 rfl rfl (X.length + 1) (X.length + 12) (xa_at 1) (xa_at 12) (by decide) (X ++ [(q, .inr (4, [.ref q1, .int 0])), (q1, .inl (G.2 3, 12, .inr (.inr (.inr (.inr (va_up (va_up (va_up (va_up (va_up (va_up (fun _ => none) 0 (some q2)) 1 (some q4)) 2 (some q6)) 3 (some q8)) 4 (some q10)) 5 (some q12))))))), (q2, .inr (1, [.ref (u3 1), .int 0, .int 0])), ((u3 1), .inl (G.2 0, 32, .inl (fun _ => 0))), (q4, .inr (1, [.ref (u5 1), .int 0, .int 0])), ((u5 1), .inl (G.2 0, 32, .inl (fun _ => 0))), (q6, .inr (1, [.ref (u7 1), .int 0, .int 0])), ((u7 1), .inl (G.2 0, 32, .inl (fun _ => 0))), (q8, .inr (1, [.ref (u9 1), .int 0, .int 0])), ((u9 1), .inl (G.2 0, 32, .inl (fun _ => 0))), (q10, .inr (1, [.ref (u11 1), .int 0, .int 0])), ((u11 1), .inl (G.2 0, 32, .inl (fun _ => 0))), (q12, .inr (1, [.ref (u13 1), .int 0, .int 0])), ((u13 1), .inl (G.2 0, 32, .inl (fun _ => 0)))]) (xa_set 1 _) dX4_init_36 ?_
  refine s_iinc (v := 6) C 0 [(1, .int 6), (0, .ref q)] dX4_init_37 rfl (by decide) (by decide) rfl ?_
  refine s_goto C 15 dX4_init_40 (by decide) ?_
  refine s_iload_n C 0 dX4_init_15 rfl ?_
  refine s_aload_n C 1 dX4_init_16 rfl ?_
  refine gf_139 C (X.length + 0) (xa_at 0) rfl dX4_init_17 ?_
  refine s_alenq (v := 12) C 3 rfl (X.length + 1) (xa_at 1) rfl dX4_init_20 ?_
  refine s_icmp_ge C 43 dX4_init_21 (by decide) (fun c => absurd c (by decide)) (fun _ => ?_)
  refine s_aload_n C 1 dX4_init_24 rfl ?_
  refine gf_139 C (X.length + 0) (xa_at 0) rfl dX4_init_25 ?_
  refine s_iload_n C 0 dX4_init_28 rfl ?_
  refine s_new (ci := 1) (fs := [.null, .int 0, .int 0]) C rfl in_X1 tyX1 tyX1_ok tw_117 tw_119 tw_6 df_X1 ⟨Nat.le_of_ble_eq_true rfl, Nat.le_of_ble_eq_true rfl⟩ dX4_init_29 (fun q14 => ?_)
  refine s_dup C dX4_init_32 rfl ?_
  refine s_cIN_X (As := []) (rest := [.ref q14, .int 6, .ref q1]) C (c_X1_init l G A (X ++ [(q, .inr (4, [.ref q1, .int 0])), (q1, .inl (G.2 3, 12, .inr (.inr (.inr (.inr (va_up (va_up (va_up (va_up (va_up (va_up (fun _ => none) 0 (some q2)) 1 (some q4)) 2 (some q6)) 3 (some q8)) 4 (some q10)) 5 (some q12))))))), (q2, .inr (1, [.ref (u3 1), .int 0, .int 0])), ((u3 1), .inl (G.2 0, 32, .inl (fun _ => 0))), (q4, .inr (1, [.ref (u5 1), .int 0, .int 0])), ((u5 1), .inl (G.2 0, 32, .inl (fun _ => 0))), (q6, .inr (1, [.ref (u7 1), .int 0, .int 0])), ((u7 1), .inl (G.2 0, 32, .inl (fun _ => 0))), (q8, .inr (1, [.ref (u9 1), .int 0, .int 0])), ((u9 1), .inl (G.2 0, 32, .inl (fun _ => 0))), (q10, .inr (1, [.ref (u11 1), .int 0, .int 0])), ((u11 1), .inl (G.2 0, 32, .inl (fun _ => 0))), (q12, .inr (1, [.ref (u13 1), .int 0, .int 0])), ((u13 1), .inl (G.2 0, 32, .inl (fun _ => 0)))]) q14) (gd_C tw_122) tw_6 tn_120 tw_121 rfl hd_X1_init.2 rfl ⟨Nat.le_of_ble_eq_true rfl, Nat.le_of_ble_eq_true rfl⟩ rfl (Nat.le_of_ble_eq_true rfl) ⟨Nat.le_of_ble_eq_true rfl, Nat.le_of_ble_eq_true rfl⟩ dX4_init_33 (fun u15 => ?_)
  refine s_ws (ws' := X ++ [(q, .inr (4, [.ref q1, .int 0])), (q1, .inl (G.2 3, 12, .inr (.inr (.inr (.inr (va_up (va_up (va_up (va_up (va_up (va_up (fun _ => none) 0 (some q2)) 1 (some q4)) 2 (some q6)) 3 (some q8)) 4 (some q10)) 5 (some q12))))))), (q2, .inr (1, [.ref (u3 1), .int 0, .int 0])), ((u3 1), .inl (G.2 0, 32, .inl (fun _ => 0))), (q4, .inr (1, [.ref (u5 1), .int 0, .int 0])), ((u5 1), .inl (G.2 0, 32, .inl (fun _ => 0))), (q6, .inr (1, [.ref (u7 1), .int 0, .int 0])), ((u7 1), .inl (G.2 0, 32, .inl (fun _ => 0))), (q8, .inr (1, [.ref (u9 1), .int 0, .int 0])), ((u9 1), .inl (G.2 0, 32, .inl (fun _ => 0))), (q10, .inr (1, [.ref (u11 1), .int 0, .int 0])), ((u11 1), .inl (G.2 0, 32, .inl (fun _ => 0))), (q12, .inr (1, [.ref (u13 1), .int 0, .int 0])), ((u13 1), .inl (G.2 0, 32, .inl (fun _ => 0))), (q14, .inr (1, [.ref (u15 1), .int 0, .int 0])), ((u15 1), .inl (G.2 0, 32, .inl (fun _ => 0)))]) (List.append_assoc _ _ _) ?_
  refine s_aastq (ci := 1) C 3 rfl rfl (X.length + 1) (X.length + 14) (xa_at 1) (xa_at 14) (by decide) (X ++ [(q, .inr (4, [.ref q1, .int 0])), (q1, .inl (G.2 3, 12, .inr (.inr (.inr (.inr (va_up (va_up (va_up (va_up (va_up (va_up (va_up (fun _ => none) 0 (some q2)) 1 (some q4)) 2 (some q6)) 3 (some q8)) 4 (some q10)) 5 (some q12)) 6 (some q14))))))), (q2, .inr (1, [.ref (u3 1), .int 0, .int 0])), ((u3 1), .inl (G.2 0, 32, .inl (fun _ => 0))), (q4, .inr (1, [.ref (u5 1), .int 0, .int 0])), ((u5 1), .inl (G.2 0, 32, .inl (fun _ => 0))), (q6, .inr (1, [.ref (u7 1), .int 0, .int 0])), ((u7 1), .inl (G.2 0, 32, .inl (fun _ => 0))), (q8, .inr (1, [.ref (u9 1), .int 0, .int 0])), ((u9 1), .inl (G.2 0, 32, .inl (fun _ => 0))), (q10, .inr (1, [.ref (u11 1), .int 0, .int 0])), ((u11 1), .inl (G.2 0, 32, .inl (fun _ => 0))), (q12, .inr (1, [.ref (u13 1), .int 0, .int 0])), ((u13 1), .inl (G.2 0, 32, .inl (fun _ => 0))), (q14, .inr (1, [.ref (u15 1), .int 0, .int 0])), ((u15 1), .inl (G.2 0, 32, .inl (fun _ => 0)))]) (xa_set 1 _) dX4_init_36 ?_
  refine s_iinc (v := 7) C 0 [(1, .int 7), (0, .ref q)] dX4_init_37 rfl (by decide) (by decide) rfl ?_
  refine s_goto C 15 dX4_init_40 (by decide) ?_
  refine s_iload_n C 0 dX4_init_15 rfl ?_
  refine s_aload_n C 1 dX4_init_16 rfl ?_
  refine gf_139 C (X.length + 0) (xa_at 0) rfl dX4_init_17 ?_
  refine s_alenq (v := 12) C 3 rfl (X.length + 1) (xa_at 1) rfl dX4_init_20 ?_
  refine s_icmp_ge C 43 dX4_init_21 (by decide) (fun c => absurd c (by decide)) (fun _ => ?_)
  refine s_aload_n C 1 dX4_init_24 rfl ?_
  refine gf_139 C (X.length + 0) (xa_at 0) rfl dX4_init_25 ?_
  refine s_iload_n C 0 dX4_init_28 rfl ?_
  refine s_new (ci := 1) (fs := [.null, .int 0, .int 0]) C rfl in_X1 tyX1 tyX1_ok tw_117 tw_119 tw_6 df_X1 ⟨Nat.le_of_ble_eq_true rfl, Nat.le_of_ble_eq_true rfl⟩ dX4_init_29 (fun q16 => ?_)
  refine s_dup C dX4_init_32 rfl ?_
  refine s_cIN_X (As := []) (rest := [.ref q16, .int 7, .ref q1]) C (c_X1_init l G A (X ++ [(q, .inr (4, [.ref q1, .int 0])), (q1, .inl (G.2 3, 12, .inr (.inr (.inr (.inr (va_up (va_up (va_up (va_up (va_up (va_up (va_up (fun _ => none) 0 (some q2)) 1 (some q4)) 2 (some q6)) 3 (some q8)) 4 (some q10)) 5 (some q12)) 6 (some q14))))))), (q2, .inr (1, [.ref (u3 1), .int 0, .int 0])), ((u3 1), .inl (G.2 0, 32, .inl (fun _ => 0))), (q4, .inr (1, [.ref (u5 1), .int 0, .int 0])), ((u5 1), .inl (G.2 0, 32, .inl (fun _ => 0))), (q6, .inr (1, [.ref (u7 1), .int 0, .int 0])), ((u7 1), .inl (G.2 0, 32, .inl (fun _ => 0))), (q8, .inr (1, [.ref (u9 1), .int 0, .int 0])), ((u9 1), .inl (G.2 0, 32, .inl (fun _ => 0))), (q10, .inr (1, [.ref (u11 1), .int 0, .int 0])), ((u11 1), .inl (G.2 0, 32, .inl (fun _ => 0))), (q12, .inr (1, [.ref (u13 1), .int 0, .int 0])), ((u13 1), .inl (G.2 0, 32, .inl (fun _ => 0))), (q14, .inr (1, [.ref (u15 1), .int 0, .int 0])), ((u15 1), .inl (G.2 0, 32, .inl (fun _ => 0)))]) q16) (gd_C tw_122) tw_6 tn_120 tw_121 rfl hd_X1_init.2 rfl ⟨Nat.le_of_ble_eq_true rfl, Nat.le_of_ble_eq_true rfl⟩ rfl (Nat.le_of_ble_eq_true rfl) ⟨Nat.le_of_ble_eq_true rfl, Nat.le_of_ble_eq_true rfl⟩ dX4_init_33 (fun u17 => ?_)
  refine s_ws (ws' := X ++ [(q, .inr (4, [.ref q1, .int 0])), (q1, .inl (G.2 3, 12, .inr (.inr (.inr (.inr (va_up (va_up (va_up (va_up (va_up (va_up (va_up (fun _ => none) 0 (some q2)) 1 (some q4)) 2 (some q6)) 3 (some q8)) 4 (some q10)) 5 (some q12)) 6 (some q14))))))), (q2, .inr (1, [.ref (u3 1), .int 0, .int 0])), ((u3 1), .inl (G.2 0, 32, .inl (fun _ => 0))), (q4, .inr (1, [.ref (u5 1), .int 0, .int 0])), ((u5 1), .inl (G.2 0, 32, .inl (fun _ => 0))), (q6, .inr (1, [.ref (u7 1), .int 0, .int 0])), ((u7 1), .inl (G.2 0, 32, .inl (fun _ => 0))), (q8, .inr (1, [.ref (u9 1), .int 0, .int 0])), ((u9 1), .inl (G.2 0, 32, .inl (fun _ => 0))), (q10, .inr (1, [.ref (u11 1), .int 0, .int 0])), ((u11 1), .inl (G.2 0, 32, .inl (fun _ => 0))), (q12, .inr (1, [.ref (u13 1), .int 0, .int 0])), ((u13 1), .inl (G.2 0, 32, .inl (fun _ => 0))), (q14, .inr (1, [.ref (u15 1), .int 0, .int 0])), ((u15 1), .inl (G.2 0, 32, .inl (fun _ => 0))), (q16, .inr (1, [.ref (u17 1), .int 0, .int 0])), ((u17 1), .inl (G.2 0, 32, .inl (fun _ => 0)))]) (List.append_assoc _ _ _) ?_
  refine s_aastq (ci := 1) C 3 rfl rfl (X.length + 1) (X.length + 16) (xa_at 1) (xa_at 16) (by decide) (X ++ [(q, .inr (4, [.ref q1, .int 0])), (q1, .inl (G.2 3, 12, .inr (.inr (.inr (.inr (va_up (va_up (va_up (va_up (va_up (va_up (va_up (va_up (fun _ => none) 0 (some q2)) 1 (some q4)) 2 (some q6)) 3 (some q8)) 4 (some q10)) 5 (some q12)) 6 (some q14)) 7 (some q16))))))), (q2, .inr (1, [.ref (u3 1), .int 0, .int 0])), ((u3 1), .inl (G.2 0, 32, .inl (fun _ => 0))), (q4, .inr (1, [.ref (u5 1), .int 0, .int 0])), ((u5 1), .inl (G.2 0, 32, .inl (fun _ => 0))), (q6, .inr (1, [.ref (u7 1), .int 0, .int 0])), ((u7 1), .inl (G.2 0, 32, .inl (fun _ => 0))), (q8, .inr (1, [.ref (u9 1), .int 0, .int 0])), ((u9 1), .inl (G.2 0, 32, .inl (fun _ => 0))), (q10, .inr (1, [.ref (u11 1), .int 0, .int 0])), ((u11 1), .inl (G.2 0, 32, .inl (fun _ => 0))), (q12, .inr (1, [.ref (u13 1), .int 0, .int 0])), ((u13 1), .inl (G.2 0, 32, .inl (fun _ => 0))), (q14, .inr (1, [.ref (u15 1), .int 0, .int 0])), ((u15 1), .inl (G.2 0, 32, .inl (fun _ => 0))), (q16, .inr (1, [.ref (u17 1), .int 0, .int 0])), ((u17 1), .inl (G.2 0, 32, .inl (fun _ => 0)))]) (xa_set 1 _) dX4_init_36 ?_
  refine s_iinc (v := 8) C 0 [(1, .int 8), (0, .ref q)] dX4_init_37 rfl (by decide) (by decide) rfl ?_
  refine s_goto C 15 dX4_init_40 (by decide) ?_
  refine s_iload_n C 0 dX4_init_15 rfl ?_
  refine s_aload_n C 1 dX4_init_16 rfl ?_
  refine gf_139 C (X.length + 0) (xa_at 0) rfl dX4_init_17 ?_
  refine s_alenq (v := 12) C 3 rfl (X.length + 1) (xa_at 1) rfl dX4_init_20 ?_
  refine s_icmp_ge C 43 dX4_init_21 (by decide) (fun c => absurd c (by decide)) (fun _ => ?_)
  refine s_aload_n C 1 dX4_init_24 rfl ?_
  refine gf_139 C (X.length + 0) (xa_at 0) rfl dX4_init_25 ?_
  refine s_iload_n C 0 dX4_init_28 rfl ?_
  refine s_new (ci := 1) (fs := [.null, .int 0, .int 0]) C rfl in_X1 tyX1 tyX1_ok tw_117 tw_119 tw_6 df_X1 ⟨Nat.le_of_ble_eq_true rfl, Nat.le_of_ble_eq_true rfl⟩ dX4_init_29 (fun q18 => ?_)
  refine s_dup C dX4_init_32 rfl ?_
  refine s_cIN_X (As := []) (rest := [.ref q18, .int 8, .ref q1]) C (c_X1_init l G A (X ++ [(q, .inr (4, [.ref q1, .int 0])), (q1, .inl (G.2 3, 12, .inr (.inr (.inr (.inr (va_up (va_up (va_up (va_up (va_up (va_up (va_up (va_up (fun _ => none) 0 (some q2)) 1 (some q4)) 2 (some q6)) 3 (some q8)) 4 (some q10)) 5 (some q12)) 6 (some q14)) 7 (some q16))))))), (q2, .inr (1, [.ref (u3 1), .int 0, .int 0])), ((u3 1), .inl (G.2 0, 32, .inl (fun _ => 0))), (q4, .inr (1, [.ref (u5 1), .int 0, .int 0])), ((u5 1), .inl (G.2 0, 32, .inl (fun _ => 0))), (q6, .inr (1, [.ref (u7 1), .int 0, .int 0])), ((u7 1), .inl (G.2 0, 32, .inl (fun _ => 0))), (q8, .inr (1, [.ref (u9 1), .int 0, .int 0])), ((u9 1), .inl (G.2 0, 32, .inl (fun _ => 0))), (q10, .inr (1, [.ref (u11 1), .int 0, .int 0])), ((u11 1), .inl (G.2 0, 32, .inl (fun _ => 0))), (q12, .inr (1, [.ref (u13 1), .int 0, .int 0])), ((u13 1), .inl (G.2 0, 32, .inl (fun _ => 0))), (q14, .inr (1, [.ref (u15 1), .int 0, .int 0])), ((u15 1), .inl (G.2 0, 32, .inl (fun _ => 0))), (q16, .inr (1, [.ref (u17 1), .int 0, .int 0])), ((u17 1), .inl (G.2 0, 32, .inl (fun _ => 0)))]) q18) (gd_C tw_122) tw_6 tn_120 tw_121 rfl hd_X1_init.2 rfl ⟨Nat.le_of_ble_eq_true rfl, Nat.le_of_ble_eq_true rfl⟩ rfl (Nat.le_of_ble_eq_true rfl) ⟨Nat.le_of_ble_eq_true rfl, Nat.le_of_ble_eq_true rfl⟩ dX4_init_33 (fun u19 => ?_)
  refine s_ws (ws' := X ++ [(q, .inr (4, [.ref q1, .int 0])), (q1, .inl (G.2 3, 12, .inr (.inr (.inr (.inr (va_up (va_up (va_up (va_up (va_up (va_up (va_up (va_up (fun _ => none) 0 (some q2)) 1 (some q4)) 2 (some q6)) 3 (some q8)) 4 (some q10)) 5 (some q12)) 6 (some q14)) 7 (some q16))))))), (q2, .inr (1, [.ref (u3 1), .int 0, .int 0])), ((u3 1), .inl (G.2 0, 32, .inl (fun _ => 0))), (q4, .inr (1, [.ref (u5 1), .int 0, .int 0])), ((u5 1), .inl (G.2 0, 32, .inl (fun _ => 0))), (q6, .inr (1, [.ref (u7 1), .int 0, .int 0])), ((u7 1), .inl (G.2 0, 32, .inl (fun _ => 0))), (q8, .inr (1, [.ref (u9 1), .int 0, .int 0])), ((u9 1), .inl (G.2 0, 32, .inl (fun _ => 0))), (q10, .inr (1, [.ref (u11 1), .int 0, .int 0])), ((u11 1), .inl (G.2 0, 32, .inl (fun _ => 0))), (q12, .inr (1, [.ref (u13 1), .int 0, .int 0])), ((u13 1), .inl (G.2 0, 32, .inl (fun _ => 0))), (q14, .inr (1, [.ref (u15 1), .int 0, .int 0])), ((u15 1), .inl (G.2 0, 32, .inl (fun _ => 0))), (q16, .inr (1, [.ref (u17 1), .int 0, .int 0])), ((u17 1), .inl (G.2 0, 32, .inl (fun _ => 0))), (q18, .inr (1, [.ref (u19 1), .int 0, .int 0])), ((u19 1), .inl (G.2 0, 32, .inl (fun _ => 0)))]) (List.append_assoc _ _ _) ?_
  refine s_aastq (ci := 1) C 3 rfl rfl (X.length + 1) (X.length + 18) (xa_at 1) (xa_at 18) (by decide) (X ++ [(q, .inr (4, [.ref q1, .int 0])), (q1, .inl (G.2 3, 12, .inr (.inr (.inr (.inr (va_up (va_up (va_up (va_up (va_up (va_up (va_up (va_up (va_up (fun _ => none) 0 (some q2)) 1 (some q4)) 2 (some q6)) 3 (some q8)) 4 (some q10)) 5 (some q12)) 6 (some q14)) 7 (some q16)) 8 (some q18))))))), (q2, .inr (1, [.ref (u3 1), .int 0, .int 0])), ((u3 1), .inl (G.2 0, 32, .inl (fun _ => 0))), (q4, .inr (1, [.ref (u5 1), .int 0, .int 0])), ((u5 1), .inl (G.2 0, 32, .inl (fun _ => 0))), (q6, .inr (1, [.ref (u7 1), .int 0, .int 0])), ((u7 1), .inl (G.2 0, 32, .inl (fun _ => 0))), (q8, .inr (1, [.ref (u9 1), .int 0, .int 0])), ((u9 1), .inl (G.2 0, 32, .inl (fun _ => 0))), (q10, .inr (1, [.ref (u11 1), .int 0, .int 0])), ((u11 1), .inl (G.2 0, 32, .inl (fun _ => 0))), (q12, .inr (1, [.ref (u13 1), .int 0, .int 0])), ((u13 1), .inl (G.2 0, 32, .inl (fun _ => 0))), (q14, .inr (1, [.ref (u15 1), .int 0, .int 0])), ((u15 1), .inl (G.2 0, 32, .inl (fun _ => 0))), (q16, .inr (1, [.ref (u17 1), .int 0, .int 0])), ((u17 1), .inl (G.2 0, 32, .inl (fun _ => 0))), (q18, .inr (1, [.ref (u19 1), .int 0, .int 0])), ((u19 1), .inl (G.2 0, 32, .inl (fun _ => 0)))]) (xa_set 1 _) dX4_init_36 ?_
  refine s_iinc (v := 9) C 0 [(1, .int 9), (0, .ref q)] dX4_init_37 rfl (by decide) (by decide) rfl ?_
  refine s_goto C 15 dX4_init_40 (by decide) ?_
  refine s_iload_n C 0 dX4_init_15 rfl ?_
  refine s_aload_n C 1 dX4_init_16 rfl ?_
  refine gf_139 C (X.length + 0) (xa_at 0) rfl dX4_init_17 ?_
  refine s_alenq (v := 12) C 3 rfl (X.length + 1) (xa_at 1) rfl dX4_init_20 ?_
  refine s_icmp_ge C 43 dX4_init_21 (by decide) (fun c => absurd c (by decide)) (fun _ => ?_)
  refine s_aload_n C 1 dX4_init_24 rfl ?_
  refine gf_139 C (X.length + 0) (xa_at 0) rfl dX4_init_25 ?_
  refine s_iload_n C 0 dX4_init_28 rfl ?_
  refine s_new (ci := 1) (fs := [.null, .int 0, .int 0]) C rfl in_X1 tyX1 tyX1_ok tw_117 tw_119 tw_6 df_X1 ⟨Nat.le_of_ble_eq_true rfl, Nat.le_of_ble_eq_true rfl⟩ dX4_init_29 (fun q20 => ?_)
  refine s_dup C dX4_init_32 rfl ?_
  refine s_cIN_X (As := []) (rest := [.ref q20, .int 9, .ref q1]) C (c_X1_init l G A (X ++ [(q, .inr (4, [.ref q1, .int 0])), (q1, .inl (G.2 3, 12, .inr (.inr (.inr (.inr (va_up (va_up (va_up (va_up (va_up (va_up (va_up (va_up (va_up (fun _ => none) 0 (some q2)) 1 (some q4)) 2 (some q6)) 3 (some q8)) 4 (some q10)) 5 (some q12)) 6 (some q14)) 7 (some q16)) 8 (some q18))))))), (q2, .inr (1, [.ref (u3 1), .int 0, .int 0])), ((u3 1), .inl (G.2 0, 32, .inl (fun _ => 0))), (q4, .inr (1, [.ref (u5 1), .int 0, .int 0])), ((u5 1), .inl (G.2 0, 32, .inl (fun _ => 0))), (q6, .inr (1, [.ref (u7 1), .int 0, .int 0])), ((u7 1), .inl (G.2 0, 32, .inl (fun _ => 0))), (q8, .inr (1, [.ref (u9 1), .int 0, .int 0])), ((u9 1), .inl (G.2 0, 32, .inl (fun _ => 0))), (q10, .inr (1, [.ref (u11 1), .int 0, .int 0])), ((u11 1), .inl (G.2 0, 32, .inl (fun _ => 0))), (q12, .inr (1, [.ref (u13 1), .int 0, .int 0])), ((u13 1), .inl (G.2 0, 32, .inl (fun _ => 0))), (q14, .inr (1, [.ref (u15 1), .int 0, .int 0])), ((u15 1), .inl (G.2 0, 32, .inl (fun _ => 0))), (q16, .inr (1, [.ref (u17 1), .int 0, .int 0])), ((u17 1), .inl (G.2 0, 32, .inl (fun _ => 0))), (q18, .inr (1, [.ref (u19 1), .int 0, .int 0])), ((u19 1), .inl (G.2 0, 32, .inl (fun _ => 0)))]) q20) (gd_C tw_122) tw_6 tn_120 tw_121 rfl hd_X1_init.2 rfl ⟨Nat.le_of_ble_eq_true rfl, Nat.le_of_ble_eq_true rfl⟩ rfl (Nat.le_of_ble_eq_true rfl) ⟨Nat.le_of_ble_eq_true rfl, Nat.le_of_ble_eq_true rfl⟩ dX4_init_33 (fun u21 => ?_)
  refine s_ws (ws' := X ++ [(q, .inr (4, [.ref q1, .int 0])), (q1, .inl (G.2 3, 12, .inr (.inr (.inr (.inr (va_up (va_up (va_up (va_up (va_up (va_up (va_up (va_up (va_up (fun _ => none) 0 (some q2)) 1 (some q4)) 2 (some q6)) 3 (some q8)) 4 (some q10)) 5 (some q12)) 6 (some q14)) 7 (some q16)) 8 (some q18))))))), (q2, .inr (1, [.ref (u3 1), .int 0, .int 0])), ((u3 1), .inl (G.2 0, 32, .inl (fun _ => 0))), (q4, .inr (1, [.ref (u5 1), .int 0, .int 0])), ((u5 1), .inl (G.2 0, 32, .inl (fun _ => 0))), (q6, .inr (1, [.ref (u7 1), .int 0, .int 0])), ((u7 1), .inl (G.2 0, 32, .inl (fun _ => 0))), (q8, .inr (1, [.ref (u9 1), .int 0, .int 0])), ((u9 1), .inl (G.2 0, 32, .inl (fun _ => 0))), (q10, .inr (1, [.ref (u11 1), .int 0, .int 0])), ((u11 1), .inl (G.2 0, 32, .inl (fun _ => 0))), (q12, .inr (1, [.ref (u13 1), .int 0, .int 0])), ((u13 1), .inl (G.2 0, 32, .inl (fun _ => 0))), (q14, .inr (1, [.ref (u15 1), .int 0, .int 0])), ((u15 1), .inl (G.2 0, 32, .inl (fun _ => 0))), (q16, .inr (1, [.ref (u17 1), .int 0, .int 0])), ((u17 1), .inl (G.2 0, 32, .inl (fun _ => 0))), (q18, .inr (1, [.ref (u19 1), .int 0, .int 0])), ((u19 1), .inl (G.2 0, 32, .inl (fun _ => 0))), (q20, .inr (1, [.ref (u21 1), .int 0, .int 0])), ((u21 1), .inl (G.2 0, 32, .inl (fun _ => 0)))]) (List.append_assoc _ _ _) ?_
  refine s_aastq (ci := 1) C 3 rfl rfl (X.length + 1) (X.length + 20) (xa_at 1) (xa_at 20) (by decide) (X ++ [(q, .inr (4, [.ref q1, .int 0])), (q1, .inl (G.2 3, 12, .inr (.inr (.inr (.inr (va_up (va_up (va_up (va_up (va_up (va_up (va_up (va_up (va_up (va_up (fun _ => none) 0 (some q2)) 1 (some q4)) 2 (some q6)) 3 (some q8)) 4 (some q10)) 5 (some q12)) 6 (some q14)) 7 (some q16)) 8 (some q18)) 9 (some q20))))))), (q2, .inr (1, [.ref (u3 1), .int 0, .int 0])), ((u3 1), .inl (G.2 0, 32, .inl (fun _ => 0))), (q4, .inr (1, [.ref (u5 1), .int 0, .int 0])), ((u5 1), .inl (G.2 0, 32, .inl (fun _ => 0))), (q6, .inr (1, [.ref (u7 1), .int 0, .int 0])), ((u7 1), .inl (G.2 0, 32, .inl (fun _ => 0))), (q8, .inr (1, [.ref (u9 1), .int 0, .int 0])), ((u9 1), .inl (G.2 0, 32, .inl (fun _ => 0))), (q10, .inr (1, [.ref (u11 1), .int 0, .int 0])), ((u11 1), .inl (G.2 0, 32, .inl (fun _ => 0))), (q12, .inr (1, [.ref (u13 1), .int 0, .int 0])), ((u13 1), .inl (G.2 0, 32, .inl (fun _ => 0))), (q14, .inr (1, [.ref (u15 1), .int 0, .int 0])), ((u15 1), .inl (G.2 0, 32, .inl (fun _ => 0))), (q16, .inr (1, [.ref (u17 1), .int 0, .int 0])), ((u17 1), .inl (G.2 0, 32, .inl (fun _ => 0))), (q18, .inr (1, [.ref (u19 1), .int 0, .int 0])), ((u19 1), .inl (G.2 0, 32, .inl (fun _ => 0))), (q20, .inr (1, [.ref (u21 1), .int 0, .int 0])), ((u21 1), .inl (G.2 0, 32, .inl (fun _ => 0)))]) (xa_set 1 _) dX4_init_36 ?_
  refine s_iinc (v := 10) C 0 [(1, .int 10), (0, .ref q)] dX4_init_37 rfl (by decide) (by decide) rfl ?_
  refine s_goto C 15 dX4_init_40 (by decide) ?_
  refine s_iload_n C 0 dX4_init_15 rfl ?_
  refine s_aload_n C 1 dX4_init_16 rfl ?_
  refine gf_139 C (X.length + 0) (xa_at 0) rfl dX4_init_17 ?_
  refine s_alenq (v := 12) C 3 rfl (X.length + 1) (xa_at 1) rfl dX4_init_20 ?_
  refine s_icmp_ge C 43 dX4_init_21 (by decide) (fun c => absurd c (by decide)) (fun _ => ?_)
  refine s_aload_n C 1 dX4_init_24 rfl ?_
  refine gf_139 C (X.length + 0) (xa_at 0) rfl dX4_init_25 ?_
  refine s_iload_n C 0 dX4_init_28 rfl ?_
  refine s_new (ci := 1) (fs := [.null, .int 0, .int 0]) C rfl in_X1 tyX1 tyX1_ok tw_117 tw_119 tw_6 df_X1 ⟨Nat.le_of_ble_eq_true rfl, Nat.le_of_ble_eq_true rfl⟩ dX4_init_29 (fun q22 => ?_)
  refine s_dup C dX4_init_32 rfl ?_
  refine s_cIN_X (As := []) (rest := [.ref q22, .int 10, .ref q1]) C (c_X1_init l G A (X ++ [(q, .inr (4, [.ref q1, .int 0])), (q1, .inl (G.2 3, 12, .inr (.inr (.inr (.inr (va_up (va_up (va_up (va_up (va_up (va_up (va_up (va_up (va_up (va_up (fun _ => none) 0 (some q2)) 1 (some q4)) 2 (some q6)) 3 (some q8)) 4 (some q10)) 5 (some q12)) 6 (some q14)) 7 (some q16)) 8 (some q18)) 9 (some q20))))))), (q2, .inr (1, [.ref (u3 1), .int 0, .int 0])), ((u3 1), .inl (G.2 0, 32, .inl (fun _ => 0))), (q4, .inr (1, [.ref (u5 1), .int 0, .int 0])), ((u5 1), .inl (G.2 0, 32, .inl (fun _ => 0))), (q6, .inr (1, [.ref (u7 1), .int 0, .int 0])), ((u7 1), .inl (G.2 0, 32, .inl (fun _ => 0))), (q8, .inr (1, [.ref (u9 1), .int 0, .int 0])), ((u9 1), .inl (G.2 0, 32, .inl (fun _ => 0))), (q10, .inr (1, [.ref (u11 1), .int 0, .int 0])), ((u11 1), .inl (G.2 0, 32, .inl (fun _ => 0))), (q12, .inr (1, [.ref (u13 1), .int 0, .int 0])), ((u13 1), .inl (G.2 0, 32, .inl (fun _ => 0))), (q14, .inr (1, [.ref (u15 1), .int 0, .int 0])), ((u15 1), .inl (G.2 0, 32, .inl (fun _ => 0))), (q16, .inr (1, [.ref (u17 1), .int 0, .int 0])), ((u17 1), .inl (G.2 0, 32, .inl (fun _ => 0))), (q18, .inr (1, [.ref (u19 1), .int 0, .int 0])), ((u19 1), .inl (G.2 0, 32, .inl (fun _ => 0))), (q20, .inr (1, [.ref (u21 1), .int 0, .int 0])), ((u21 1), .inl (G.2 0, 32, .inl (fun _ => 0)))]) q22) (gd_C tw_122) tw_6 tn_120 tw_121 rfl hd_X1_init.2 rfl ⟨Nat.le_of_ble_eq_true rfl, Nat.le_of_ble_eq_true rfl⟩ rfl (Nat.le_of_ble_eq_true rfl) ⟨Nat.le_of_ble_eq_true rfl, Nat.le_of_ble_eq_true rfl⟩ dX4_init_33 (fun u23 => ?_)
  refine s_ws (ws' := X ++ [(q, .inr (4, [.ref q1, .int 0])), (q1, .inl (G.2 3, 12, .inr (.inr (.inr (.inr (va_up (va_up (va_up (va_up (va_up (va_up (va_up (va_up (va_up (va_up (fun _ => none) 0 (some q2)) 1 (some q4)) 2 (some q6)) 3 (some q8)) 4 (some q10)) 5 (some q12)) 6 (some q14)) 7 (some q16)) 8 (some q18)) 9 (some q20))))))), (q2, .inr (1, [.ref (u3 1), .int 0, .int 0])), ((u3 1), .inl (G.2 0, 32, .inl (fun _ => 0))), (q4, .inr (1, [.ref (u5 1), .int 0, .int 0])), ((u5 1), .inl (G.2 0, 32, .inl (fun _ => 0))), (q6, .inr (1, [.ref (u7 1), .int 0, .int 0])), ((u7 1), .inl (G.2 0, 32, .inl (fun _ => 0))), (q8, .inr (1, [.ref (u9 1), .int 0, .int 0])), ((u9 1), .inl (G.2 0, 32, .inl (fun _ => 0))), (q10, .inr (1, [.ref (u11 1), .int 0, .int 0])), ((u11 1), .inl (G.2 0, 32, .inl (fun _ => 0))), (q12, .inr (1, [.ref (u13 1), .int 0, .int 0])), ((u13 1), .inl (G.2 0, 32, .inl (fun _ => 0))), (q14, .inr (1, [.ref (u15 1), .int 0, .int 0])), ((u15 1), .inl (G.2 0, 32, .inl (fun _ => 0))), (q16, .inr (1, [.ref (u17 1), .int 0, .int 0])), ((u17 1), .inl (G.2 0, 32, .inl (fun _ => 0))), (q18, .inr (1, [.ref (u19 1), .int 0, .int 0])), ((u19 1), .inl (G.2 0, 32, .inl (fun _ => 0))), (q20, .inr (1, [.ref (u21 1), .int 0, .int 0])), ((u21 1), .inl (G.2 0, 32, .inl (fun _ => 0))), (q22, .inr (1, [.ref (u23 1), .int 0, .int 0])), ((u23 1), .inl (G.2 0, 32, .inl (fun _ => 0)))]) (List.append_assoc _ _ _) ?_
  refine s_aastq (ci := 1) C 3 rfl rfl (X.length + 1) (X.length + 22) (xa_at 1) (xa_at 22) (by decide) (X ++ [(q, .inr (4, [.ref q1, .int 0])), (q1, .inl (G.2 3, 12, .inr (.inr (.inr (.inr (va_up (va_up (va_up (va_up (va_up (va_up (va_up (va_up (va_up (va_up (va_up (fun _ => none) 0 (some q2)) 1 (some q4)) 2 (some q6)) 3 (some q8)) 4 (some q10)) 5 (some q12)) 6 (some q14)) 7 (some q16)) 8 (some q18)) 9 (some q20)) 10 (some q22))))))), (q2, .inr (1, [.ref (u3 1), .int 0, .int 0])), ((u3 1), .inl (G.2 0, 32, .inl (fun _ => 0))), (q4, .inr (1, [.ref (u5 1), .int 0, .int 0])), ((u5 1), .inl (G.2 0, 32, .inl (fun _ => 0))), (q6, .inr (1, [.ref (u7 1), .int 0, .int 0])), ((u7 1), .inl (G.2 0, 32, .inl (fun _ => 0))), (q8, .inr (1, [.ref (u9 1), .int 0, .int 0])), ((u9 1), .inl (G.2 0, 32, .inl (fun _ => 0))), (q10, .inr (1, [.ref (u11 1), .int 0, .int 0])), ((u11 1), .inl (G.2 0, 32, .inl (fun _ => 0))), (q12, .inr (1, [.ref (u13 1), .int 0, .int 0])), ((u13 1), .inl (G.2 0, 32, .inl (fun _ => 0))), (q14, .inr (1, [.ref (u15 1), .int 0, .int 0])), ((u15 1), .inl (G.2 0, 32, .inl (fun _ => 0))), (q16, .inr (1, [.ref (u17 1), .int 0, .int 0])), ((u17 1), .inl (G.2 0, 32, .inl (fun _ => 0))), (q18, .inr (1, [.ref (u19 1), .int 0, .int 0])), ((u19 1), .inl (G.2 0, 32, .inl (fun _ => 0))), (q20, .inr (1, [.ref (u21 1), .int 0, .int 0])), ((u21 1), .inl (G.2 0, 32, .inl (fun _ => 0))), (q22, .inr (1, [.ref (u23 1), .int 0, .int 0])), ((u23 1), .inl (G.2 0, 32, .inl (fun _ => 0)))]) (xa_set 1 _) dX4_init_36 ?_
  refine s_iinc (v := 11) C 0 [(1, .int 11), (0, .ref q)] dX4_init_37 rfl (by decide) (by decide) rfl ?_
  refine s_goto C 15 dX4_init_40 (by decide) ?_
  refine s_iload_n C 0 dX4_init_15 rfl ?_
  refine s_aload_n C 1 dX4_init_16 rfl ?_
  refine gf_139 C (X.length + 0) (xa_at 0) rfl dX4_init_17 ?_
  refine s_alenq (v := 12) C 3 rfl (X.length + 1) (xa_at 1) rfl dX4_init_20 ?_
  refine s_icmp_ge C 43 dX4_init_21 (by decide) (fun c => absurd c (by decide)) (fun _ => ?_)
  refine s_aload_n C 1 dX4_init_24 rfl ?_
  refine gf_139 C (X.length + 0) (xa_at 0) rfl dX4_init_25 ?_
  refine s_iload_n C 0 dX4_init_28 rfl ?_
  refine s_new (ci := 1) (fs := [.null, .int 0, .int 0]) C rfl in_X1 tyX1 tyX1_ok tw_117 tw_119 tw_6 df_X1 ⟨Nat.le_of_ble_eq_true rfl, Nat.le_of_ble_eq_true rfl⟩ dX4_init_29 (fun q24 => ?_)
  refine s_dup C dX4_init_32 rfl ?_
  refine s_cIN_X (As := []) (rest := [.ref q24, .int 11, .ref q1]) C (c_X1_init l G A (X ++ [(q, .inr (4, [.ref q1, .int 0])), (q1, .inl (G.2 3, 12, .inr (.inr (.inr (.inr (va_up (va_up (va_up (va_up (va_up (va_up (va_up (va_up (va_up (va_up (va_up (fun _ => none) 0 (some q2)) 1 (some q4)) 2 (some q6)) 3 (some q8)) 4 (some q10)) 5 (some q12)) 6 (some q14)) 7 (some q16)) 8 (some q18)) 9 (some q20)) 10 (some q22))))))), (q2, .inr (1, [.ref (u3 1), .int 0, .int 0])), ((u3 1), .inl (G.2 0, 32, .inl (fun _ => 0))), (q4, .inr (1, [.ref (u5 1), .int 0, .int 0])), ((u5 1), .inl (G.2 0, 32, .inl (fun _ => 0))), (q6, .inr (1, [.ref (u7 1), .int 0, .int 0])), ((u7 1), .inl (G.2 0, 32, .inl (fun _ => 0))), (q8, .inr (1, [.ref (u9 1), .int 0, .int 0])), ((u9 1), .inl (G.2 0, 32, .inl (fun _ => 0))), (q10, .inr (1, [.ref (u11 1), .int 0, .int 0])), ((u11 1), .inl (G.2 0, 32, .inl (fun _ => 0))), (q12, .inr (1, [.ref (u13 1), .int 0, .int 0])), ((u13 1), .inl (G.2 0, 32, .inl (fun _ => 0))), (q14, .inr (1, [.ref (u15 1), .int 0, .int 0])), ((u15 1), .inl (G.2 0, 32, .inl (fun _ => 0))), (q16, .inr (1, [.ref (u17 1), .int 0, .int 0])), ((u17 1), .inl (G.2 0, 32, .inl (fun _ => 0))), (q18, .inr (1, [.ref (u19 1), .int 0, .int 0])), ((u19 1), .inl (G.2 0, 32, .inl (fun _ => 0))), (q20, .inr (1, [.ref (u21 1), .int 0, .int 0])), ((u21 1), .inl (G.2 0, 32, .inl (fun _ => 0))), (q22, .inr (1, [.ref (u23 1), .int 0, .int 0])), ((u23 1), .inl (G.2 0, 32, .inl (fun _ => 0)))]) q24) (gd_C tw_122) tw_6 tn_120 tw_121 rfl hd_X1_init.2 rfl ⟨Nat.le_of_ble_eq_true rfl, Nat.le_of_ble_eq_true rfl⟩ rfl (Nat.le_of_ble_eq_true rfl) ⟨Nat.le_of_ble_eq_true rfl, Nat.le_of_ble_eq_true rfl⟩ dX4_init_33 (fun u25 => ?_)
  refine s_ws (ws' := X ++ [(q, .inr (4, [.ref q1, .int 0])), (q1, .inl (G.2 3, 12, .inr (.inr (.inr (.inr (va_up (va_up (va_up (va_up (va_up (va_up (va_up (va_up (va_up (va_up (va_up (fun _ => none) 0 (some q2)) 1 (some q4)) 2 (some q6)) 3 (some q8)) 4 (some q10)) 5 (some q12)) 6 (some q14)) 7 (some q16)) 8 (some q18)) 9 (some q20)) 10 (some q22))))))), (q2, .inr (1, [.ref (u3 1), .int 0, .int 0])), ((u3 1), .inl (G.2 0, 32, .inl (fun _ => 0))), (q4, .inr (1, [.ref (u5 1), .int 0, .int 0])), ((u5 1), .inl (G.2 0, 32, .inl (fun _ => 0))), (q6, .inr (1, [.ref (u7 1), .int 0, .int 0])), ((u7 1), .inl (G.2 0, 32, .inl (fun _ => 0))), (q8, .inr (1, [.ref (u9 1), .int 0, .int 0])), ((u9 1), .inl (G.2 0, 32, .inl (fun _ => 0))), (q10, .inr (1, [.ref (u11 1), .int 0, .int 0])), ((u11 1), .inl (G.2 0, 32, .inl (fun _ => 0))), (q12, .inr (1, [.ref (u13 1), .int 0, .int 0])), ((u13 1), .inl (G.2 0, 32, .inl (fun _ => 0))), (q14, .inr (1, [.ref (u15 1), .int 0, .int 0])), ((u15 1), .inl (G.2 0, 32, .inl (fun _ => 0))), (q16, .inr (1, [.ref (u17 1), .int 0, .int 0])), ((u17 1), .inl (G.2 0, 32, .inl (fun _ => 0))), (q18, .inr (1, [.ref (u19 1), .int 0, .int 0])), ((u19 1), .inl (G.2 0, 32, .inl (fun _ => 0))), (q20, .inr (1, [.ref (u21 1), .int 0, .int 0])), ((u21 1), .inl (G.2 0, 32, .inl (fun _ => 0))), (q22, .inr (1, [.ref (u23 1), .int 0, .int 0])), ((u23 1), .inl (G.2 0, 32, .inl (fun _ => 0))), (q24, .inr (1, [.ref (u25 1), .int 0, .int 0])), ((u25 1), .inl (G.2 0, 32, .inl (fun _ => 0)))]) (List.append_assoc _ _ _) ?_
  refine s_aastq (ci := 1) C 3 rfl rfl (X.length + 1) (X.length + 24) (xa_at 1) (xa_at 24) (by decide) (X ++ [(q, .inr (4, [.ref q1, .int 0])), (q1, .inl (G.2 3, 12, .inr (.inr (.inr (.inr (va_up (va_up (va_up (va_up (va_up (va_up (va_up (va_up (va_up (va_up (va_up (va_up (fun _ => none) 0 (some q2)) 1 (some q4)) 2 (some q6)) 3 (some q8)) 4 (some q10)) 5 (some q12)) 6 (some q14)) 7 (some q16)) 8 (some q18)) 9 (some q20)) 10 (some q22)) 11 (some q24))))))), (q2, .inr (1, [.ref (u3 1), .int 0, .int 0])), ((u3 1), .inl (G.2 0, 32, .inl (fun _ => 0))), (q4, .inr (1, [.ref (u5 1), .int 0, .int 0])), ((u5 1), .inl (G.2 0, 32, .inl (fun _ => 0))), (q6, .inr (1, [.ref (u7 1), .int 0, .int 0])), ((u7 1), .inl (G.2 0, 32, .inl (fun _ => 0))), (q8, .inr (1, [.ref (u9 1), .int 0, .int 0])), ((u9 1), .inl (G.2 0, 32, .inl (fun _ => 0))), (q10, .inr (1, [.ref (u11 1), .int 0, .int 0])), ((u11 1), .inl (G.2 0, 32, .inl (fun _ => 0))), (q12, .inr (1, [.ref (u13 1), .int 0, .int 0])), ((u13 1), .inl (G.2 0, 32, .inl (fun _ => 0))), (q14, .inr (1, [.ref (u15 1), .int 0, .int 0])), ((u15 1), .inl (G.2 0, 32, .inl (fun _ => 0))), (q16, .inr (1, [.ref (u17 1), .int 0, .int 0])), ((u17 1), .inl (G.2 0, 32, .inl (fun _ => 0))), (q18, .inr (1, [.ref (u19 1), .int 0, .int 0])), ((u19 1), .inl (G.2 0, 32, .inl (fun _ => 0))), (q20, .inr (1, [.ref (u21 1), .int 0, .int 0])), ((u21 1), .inl (G.2 0, 32, .inl (fun _ => 0))), (q22, .inr (1, [.ref (u23 1), .int 0, .int 0])), ((u23 1), .inl (G.2 0, 32, .inl (fun _ => 0))), (q24, .inr (1, [.ref (u25 1), .int 0, .int 0])), ((u25 1), .inl (G.2 0, 32, .inl (fun _ => 0)))]) (xa_set 1 _) dX4_init_36 ?_
  refine s_iinc (v := 12) C 0 [(1, .int 12), (0, .ref q)] dX4_init_37 rfl (by decide) (by decide) rfl ?_
  refine s_goto C 15 dX4_init_40 (by decide) ?_
  refine s_iload_n C 0 dX4_init_15 rfl ?_
  refine s_aload_n C 1 dX4_init_16 rfl ?_
  refine gf_139 C (X.length + 0) (xa_at 0) rfl dX4_init_17 ?_
  refine s_alenq (v := 12) C 3 rfl (X.length + 1) (xa_at 1) rfl dX4_init_20 ?_
  refine s_icmp_ge C 43 dX4_init_21 (by decide) (fun _ => ?_) (fun c => absurd (by decide) c)
  exact hret (fun i => ([q, q1, q2, (u3 1), q4, (u5 1), q6, (u7 1), q8, (u9 1), q10, (u11 1), q12, (u13 1), q14, (u15 1), q16, (u17 1), q18, (u19 1), q20, (u21 1), q22, (u23 1), q24, (u25 1)] : List Nat).getD i 0) _ _ dX4_init_43
theorem c_X4_init (l : Launch) (G : GG) (A : Nat → Prop) (X : va_W) (q : Nat) : MX l yX4_init cX4_init 2 ({ frames := 2, cells := 25, slots := 432, locals := 32 } : Room) G A (X ++ [(q, .inr (4, [.null, .int 0]))]) [.ref q] (wf_X4_init G X q) :=
  e_X (by decide) rfl (Nat.le_of_ble_eq_true rfl) (fun Γ C hI hret => k_X4_init C hI X q hret)
