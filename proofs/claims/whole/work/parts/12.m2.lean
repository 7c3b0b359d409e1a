def f_X6_laysWord (x1 : Int32) (x2 : Int32) (st : Nat → Int32) (wt : Int32) (sm : Int64) (ld : Int32) (ln : Int32) : Option ((Nat → Int32) × Int32 × Int64 × Int32 × Int32) :=
  bx (f_X6_endAt x1) fun r1 =>
  rd st 8000 (r1 + 7) fun v2 =>
  bx (f_X6_by64 (v2 - 1)) fun r3 =>
  bMv (f_X6_beginsFrame x1 st wt sm ld ln) fun st5 wt6 sm7 ld8 ln9 =>
  bMv (f_X6_begins 0 st5 wt6 sm7 ld8 ln9) fun st11 wt12 sm13 ld14 ln15 =>
  bMv (f_X6_adds x2 0 st11 wt12 sm13 ld14 ln15) fun st17 wt18 sm19 ld20 ln21 =>
  bMv (f_X6_adds r3 0 st17 wt18 sm19 ld20 ln21) fun st23 wt24 sm25 ld26 ln27 =>
  bM (f_X6_sumOf 0 st23 wt24 sm25 ld26 ln27) fun r28 st29 wt30 sm31 ld32 ln33 =>
  bd (((r28 : Int64).toInt32)) fun y34 =>
  bMv (f_X6_lays 92 st29 wt30 sm31 ld32 ln33) fun st36 wt37 sm38 ld39 ln40 =>
  bMv (f_X6_lays x2 st36 wt37 sm38 ld39 ln40) fun st42 wt43 sm44 ld45 ln46 =>
  bMv (f_X6_lays r3 st42 wt43 sm44 ld45 ln46) fun st48 wt49 sm50 ld51 ln52 =>
  bMv (f_X6_lays y34 st48 wt49 sm50 ld51 ln52) fun st54 wt55 sm56 ld57 ln58 =>
  bMv (f_X6_lays (y34 >>> (8 &&& 31)) st54 wt55 sm56 ld57 ln58) fun st60 wt61 sm62 ld63 ln64 =>
  bMv (f_X6_lays 253 st60 wt61 sm62 ld63 ln64) fun st66 wt67 sm68 ld69 ln70 =>
  some (st66, wt67, sm68, ld69, ln70)
set_option maxHeartbeats 4000000 in
set_option maxRecDepth 100000 in
theorem k_X6_laysWord {l : Launch} {G : GG} {A : Nat → Prop} {Γ : Cx} (C : CX G A Γ cX6_laysWord RX6 ({ frames := 4, cells := 0, slots := 0, locals := 86 } : Room) 5) (h : Nat) (a1 : Nat) (a2 : Nat) (a3 : Nat) (X : va_W) (x1 : Int32) (x2 : Int32) (st : Nat → Int32) (wt : Int32) (sm : Int64) (ld : Int32) (ln : Int32) (st0 : Nat → Int32) (wt0 : Int32) (sm0 : Int64) (ld0 : Int32) (ln0 : Int32) (hf : f_X6_laysWord x1 x2 st wt sm ld ln = some (st0, wt0, sm0, ld0, ln0)) (hret : ∀ (pc : Nat) (lv : List (Nat × Value)), decode cX6_laysWord pc = .ok (.return_, 1) → St l G A Γ 0 0 (wM G h a1 a2 a3 X st0 wt0 sm0 ld0 ln0) pc lv []) : St l G A Γ 0 0 (wM G h a1 a2 a3 X st wt sm ld ln) 0 [(0, .ref h), (1, .int x1), (2, .int x2)] [] := by
  unfold f_X6_laysWord at hf
  refine s_aload_n C 0 dX6_laysWord_0 rfl ?_
  refine gf_508 C 0 rfl rfl dX6_laysWord_1 ?_
  refine s_iload_n C 1 dX6_laysWord_4 rfl ?_
  obtain ⟨r1, er1, hf⟩ := bx_inv hf
  refine s_cS_I (As := [.int x1]) (rest := [.ref a1]) C (c_X6_endAt l G A _ x1 _ er1) g_RX6_20 hd_X6_endAt rfl ⟨Nat.le_of_ble_eq_true rfl, Nat.le_of_ble_eq_true rfl⟩ rfl (Nat.le_of_ble_eq_true rfl) ⟨Nat.le_of_ble_eq_true rfl, Nat.le_of_ble_eq_true rfl⟩ dX6_laysWord_5 ?_
  refine s_bipush (v := 7) C dX6_laysWord_8 (by decide) ?_
  refine s_iadd C dX6_laysWord_10 ?_
  obtain ⟨v2, hiv2, ev2, hf⟩ := rd_inv hf
  refine s_iald C 1 rfl hiv2 dX6_laysWord_11 ?_
  refine s_nmi ev2 ?_
  refine s_iconst (v := 1) C dX6_laysWord_12 (by decide) ?_
  refine s_isub C dX6_laysWord_13 ?_
  obtain ⟨r3, er3, hf⟩ := bx_inv hf
  refine s_cS_I (As := [.int (v2 - 1)]) (rest := []) C (c_X6_by64 l G A _ (v2 - 1) _ er3) g_RX6_95 hd_X6_by64 rfl ⟨Nat.le_of_ble_eq_true rfl, Nat.le_of_ble_eq_true rfl⟩ rfl (Nat.le_of_ble_eq_true rfl) ⟨Nat.le_of_ble_eq_true rfl, Nat.le_of_ble_eq_true rfl⟩ dX6_laysWord_14 ?_
  refine s_istore_n C [(3, .int r3), (0, .ref h), (1, .int x1), (2, .int x2)] dX6_laysWord_17 (by decide) rfl ?_
  refine s_aload_n C 1 dX6_laysWord_18 rfl ?_
  refine s_iload_n C 2 dX6_laysWord_19 rfl ?_
  obtain ⟨st5, wt6, sm7, ld8, ln9, er4, hf⟩ := bMv_inv hf
  refine s_cV_V (As := [.int x1]) (rest := []) (ci := 6) (q := 0) C (c_X6_beginsFrame l G A h a1 a2 a3 X x1 st wt sm ld ln _ _ _ _ _ er4) g_RX6_98 hd_X6_beginsFrame rfl ⟨Nat.le_of_ble_eq_true rfl, Nat.le_of_ble_eq_true rfl⟩ rfl rfl rfl (Nat.le_of_ble_eq_true rfl) ⟨Nat.le_of_ble_eq_true rfl, Nat.le_of_ble_eq_true rfl⟩ dX6_laysWord_20 ?_
  refine s_aload_n C 1 dX6_laysWord_23 rfl ?_
  refine s_iconst (v := 0) C dX6_laysWord_24 (by decide) ?_
  obtain ⟨st11, wt12, sm13, ld14, ln15, er10, hf⟩ := bMv_inv hf
  refine s_cV_V (As := [.int 0]) (rest := []) (ci := 6) (q := 0) C (c_X6_begins l G A h a1 a2 a3 X 0 st5 wt6 sm7 ld8 ln9 _ _ _ _ _ er10) g_RX6_60 hd_X6_begins rfl ⟨Nat.le_of_ble_eq_true rfl, Nat.le_of_ble_eq_true rfl⟩ rfl rfl rfl (Nat.le_of_ble_eq_true rfl) ⟨Nat.le_of_ble_eq_true rfl, Nat.le_of_ble_eq_true rfl⟩ dX6_laysWord_25 ?_
  refine s_aload_n C 1 dX6_laysWord_28 rfl ?_
  refine s_iload_n C 3 dX6_laysWord_29 rfl ?_
  refine s_iconst (v := 0) C dX6_laysWord_30 (by decide) ?_
  obtain ⟨st17, wt18, sm19, ld20, ln21, er16, hf⟩ := bMv_inv hf
  refine s_cV_V (As := [.int x2, .int 0]) (rest := []) (ci := 6) (q := 0) C (c_X6_adds l G A h a1 a2 a3 X x2 0 st11 wt12 sm13 ld14 ln15 _ _ _ _ _ er16) g_RX6_64 hd_X6_adds rfl ⟨Nat.le_of_ble_eq_true rfl, Nat.le_of_ble_eq_true rfl⟩ rfl rfl rfl (Nat.le_of_ble_eq_true rfl) ⟨Nat.le_of_ble_eq_true rfl, Nat.le_of_ble_eq_true rfl⟩ dX6_laysWord_31 ?_
  refine s_aload_n C 1 dX6_laysWord_34 rfl ?_
  refine s_iload_n C 0 dX6_laysWord_35 rfl ?_
  refine s_iconst (v := 0) C dX6_laysWord_36 (by decide) ?_
  obtain ⟨st23, wt24, sm25, ld26, ln27, er22, hf⟩ := bMv_inv hf
  refine s_cV_V (As := [.int r3, .int 0]) (rest := []) (ci := 6) (q := 0) C (c_X6_adds l G A h a1 a2 a3 X r3 0 st17 wt18 sm19 ld20 ln21 _ _ _ _ _ er22) g_RX6_64 hd_X6_adds rfl ⟨Nat.le_of_ble_eq_true rfl, Nat.le_of_ble_eq_true rfl⟩ rfl rfl rfl (Nat.le_of_ble_eq_true rfl) ⟨Nat.le_of_ble_eq_true rfl, Nat.le_of_ble_eq_true rfl⟩ dX6_laysWord_37 ?_
  refine s_aload_n C 1 dX6_laysWord_40 rfl ?_
  refine s_iconst (v := 0) C dX6_laysWord_41 (by decide) ?_
  obtain ⟨r28, st29, wt30, sm31, ld32, ln33, er28, hf⟩ := bM_inv hf
  refine s_cV_L (As := [.int 0]) (rest := []) (ci := 6) (q := 0) C (c_X6_sumOf l G A h a1 a2 a3 X 0 st23 wt24 sm25 ld26 ln27 _ _ _ _ _ _ er28) g_RX6_68 hd_X6_sumOf rfl ⟨Nat.le_of_ble_eq_true rfl, Nat.le_of_ble_eq_true rfl⟩ rfl rfl rfl (Nat.le_of_ble_eq_true rfl) ⟨Nat.le_of_ble_eq_true rfl, Nat.le_of_ble_eq_true rfl⟩ dX6_laysWord_42 ?_
  refine s_l2i C dX6_laysWord_45 ?_
  obtain ⟨y34, ey34, hf⟩ := bd_inv hf
  refine s_nmi ey34 ?_
  refine s_istore C [(4, .int y34), (3, .int r3), (0, .ref h), (1, .int x1), (2, .int x2)] dX6_laysWord_46 (by decide) rfl ?_
  refine s_aload_n C 2 dX6_laysWord_48 rfl ?_
  refine s_bipush (v := 92) C dX6_laysWord_49 (by decide) ?_
  obtain ⟨st36, wt37, sm38, ld39, ln40, er35, hf⟩ := bMv_inv hf
  refine s_cV_V (As := [.int 92]) (rest := []) (ci := 6) (q := 0) C (c_X6_lays l G A h a1 a2 a3 X 92 st29 wt30 sm31 ld32 ln33 _ _ _ _ _ er35) g_RX6_102 hd_X6_lays rfl ⟨Nat.le_of_ble_eq_true rfl, Nat.le_of_ble_eq_true rfl⟩ rfl rfl rfl (Nat.le_of_ble_eq_true rfl) ⟨Nat.le_of_ble_eq_true rfl, Nat.le_of_ble_eq_true rfl⟩ dX6_laysWord_51 ?_
  refine s_aload_n C 2 dX6_laysWord_54 rfl ?_
  refine s_iload_n C 4 dX6_laysWord_55 rfl ?_
  obtain ⟨st42, wt43, sm44, ld45, ln46, er41, hf⟩ := bMv_inv hf
  refine s_cV_V (As := [.int x2]) (rest := []) (ci := 6) (q := 0) C (c_X6_lays l G A h a1 a2 a3 X x2 st36 wt37 sm38 ld39 ln40 _ _ _ _ _ er41) g_RX6_102 hd_X6_lays rfl ⟨Nat.le_of_ble_eq_true rfl, Nat.le_of_ble_eq_true rfl⟩ rfl rfl rfl (Nat.le_of_ble_eq_true rfl) ⟨Nat.le_of_ble_eq_true rfl, Nat.le_of_ble_eq_true rfl⟩ dX6_laysWord_56 ?_
  refine s_aload_n C 2 dX6_laysWord_59 rfl ?_
  refine s_iload_n C 1 dX6_laysWord_60 rfl ?_
  obtain ⟨st48, wt49, sm50, ld51, ln52, er47, hf⟩ := bMv_inv hf
  refine s_cV_V (As := [.int r3]) (rest := []) (ci := 6) (q := 0) C (c_X6_lays l G A h a1 a2 a3 X r3 st42 wt43 sm44 ld45 ln46 _ _ _ _ _ er47) g_RX6_102 hd_X6_lays rfl ⟨Nat.le_of_ble_eq_true rfl, Nat.le_of_ble_eq_true rfl⟩ rfl rfl rfl (Nat.le_of_ble_eq_true rfl) ⟨Nat.le_of_ble_eq_true rfl, Nat.le_of_ble_eq_true rfl⟩ dX6_laysWord_61 ?_
  refine s_aload_n C 2 dX6_laysWord_64 rfl ?_
  refine s_iload C 0 dX6_laysWord_65 rfl ?_
  obtain ⟨st54, wt55, sm56, ld57, ln58, er53, hf⟩ := bMv_inv hf
  refine s_cV_V (As := [.int y34]) (rest := []) (ci := 6) (q := 0) C (c_X6_lays l G A h a1 a2 a3 X y34 st48 wt49 sm50 ld51 ln52 _ _ _ _ _ er53) g_RX6_102 hd_X6_lays rfl ⟨Nat.le_of_ble_eq_true rfl, Nat.le_of_ble_eq_true rfl⟩ rfl rfl rfl (Nat.le_of_ble_eq_true rfl) ⟨Nat.le_of_ble_eq_true rfl, Nat.le_of_ble_eq_true rfl⟩ dX6_laysWord_67 ?_
  refine s_aload_n C 2 dX6_laysWord_70 rfl ?_
  refine s_iload C 0 dX6_laysWord_71 rfl ?_
  refine s_bipush (v := 8) C dX6_laysWord_73 (by decide) ?_
  refine s_ishr C dX6_laysWord_75 ?_
  obtain ⟨st60, wt61, sm62, ld63, ln64, er59, hf⟩ := bMv_inv hf
  refine s_cV_V (As := [.int (y34 >>> (8 &&& 31))]) (rest := []) (ci := 6) (q := 0) C (c_X6_lays l G A h a1 a2 a3 X (y34 >>> (8 &&& 31)) st54 wt55 sm56 ld57 ln58 _ _ _ _ _ er59) g_RX6_102 hd_X6_lays rfl ⟨Nat.le_of_ble_eq_true rfl, Nat.le_of_ble_eq_true rfl⟩ rfl rfl rfl (Nat.le_of_ble_eq_true rfl) ⟨Nat.le_of_ble_eq_true rfl, Nat.le_of_ble_eq_true rfl⟩ dX6_laysWord_76 ?_
  refine s_aload_n C 2 dX6_laysWord_79 rfl ?_
  refine s_sipush (v := 253) C dX6_laysWord_80 (by decide) ?_
  obtain ⟨st66, wt67, sm68, ld69, ln70, er65, hf⟩ := bMv_inv hf
  refine s_cV_V (As := [.int 253]) (rest := []) (ci := 6) (q := 0) C (c_X6_lays l G A h a1 a2 a3 X 253 st60 wt61 sm62 ld63 ln64 _ _ _ _ _ er65) g_RX6_102 hd_X6_lays rfl ⟨Nat.le_of_ble_eq_true rfl, Nat.le_of_ble_eq_true rfl⟩ rfl rfl rfl (Nat.le_of_ble_eq_true rfl) ⟨Nat.le_of_ble_eq_true rfl, Nat.le_of_ble_eq_true rfl⟩ dX6_laysWord_83 ?_
  exact rM_V hf hret dX6_laysWord_86
theorem c_X6_laysWord (l : Launch) (G : GG) (A : Nat → Prop) (h : Nat) (a1 : Nat) (a2 : Nat) (a3 : Nat) (X : va_W) (x1 : Int32) (x2 : Int32) (st : Nat → Int32) (wt : Int32) (sm : Int64) (ld : Int32) (ln : Int32) (st0 : Nat → Int32) (wt0 : Int32) (sm0 : Int64) (ld0 : Int32) (ln0 : Int32) (hf : f_X6_laysWord x1 x2 st wt sm ld ln = some (st0, wt0, sm0, ld0, ln0)) : MV l yX6_laysWord cX6_laysWord 5 ({ frames := 4, cells := 0, slots := 0, locals := 86 } : Room) G A (wM G h a1 a2 a3 X st wt sm ld ln) [.ref h, .int x1, .int x2] (wM G h a1 a2 a3 X st0 wt0 sm0 ld0 ln0) :=
  e_V (by decide) (Nat.le_of_ble_eq_true rfl) (fun Γ C hret => k_X6_laysWord C _ _ _ _ _ _ _ _ _ _ _ _ _ _ _ _ _ hf hret)
def f_X6_laysData_134  : Nat → Int32 → Int64 → Int32 → (Nat → Int32) → Int32 → Int64 → Int32 → Int32 → Option ((Nat → Int32) × Int32 × Int64 × Int32 × Int32)
  | 0, _, _, _, _, _, _, _, _ => none
  | fu + 1, x3, x6, x8, st, wt, sm, ld, ln =>
    if 4 ≤ x8 then (if x3 = 0 then (bMv (f_X6_lays 253 st wt sm ld ln) fun st78 wt79 sm80 ld81 ln82 =>
    some (st78, wt79, sm80, ld81, ln82))
    else (bMv (f_X6_lays 254 st wt sm ld ln) fun st84 wt85 sm86 ld87 ln88 =>
    some (st84, wt85, sm86, ld87, ln88)))
    else (bMv (f_X6_lays (((((x6 >>> (((8 * x8) : Int32).toInt64 &&& 63))) &&& 255) : Int64).toInt32) st wt sm ld ln) fun st90 wt91 sm92 ld93 ln94 =>
    bd (x8 + 1) fun y95 =>
    f_X6_laysData_134 fu x3 x6 y95 st90 wt91 sm92 ld93 ln94)
def f_X6_laysData_129  (x3 : Int32) (s0 : Int64) (st : Nat → Int32) (wt : Int32) (sm : Int64) (ld : Int32) (ln : Int32) : Option ((Nat → Int32) × Int32 × Int64 × Int32 × Int32) :=
  f_X6_laysData_134 FU x3 s0 0 st wt sm ld ln
def f_X6_laysData_57  : Nat → Int32 → Int32 → Int32 → (Nat → Int32) → Int32 → Int64 → Int32 → Int32 → Option ((Nat → Int32) × Int32 × Int64 × Int32 × Int32)
  | 0, _, _, _, _, _, _, _, _ => none
  | fu + 1, x3, x5, x6, st, wt, sm, ld, ln =>
    rd st 8000 x5 fun v45 =>
    if v45 ≤ x6 then (if x3 = 0 then (bM (f_X6_sumOf 1 st wt sm ld ln) fun r48 st49 wt50 sm51 ld52 ln53 =>
    f_X6_laysData_129 x3 r48 st49 wt50 sm51 ld52 ln53)
    else (bM (f_X6_sumOf 1 st wt sm ld ln) fun r54 st55 wt56 sm57 ld58 ln59 =>
    f_X6_laysData_129 x3 ((r54 ^^^ 4294967295)) st55 wt56 sm57 ld58 ln59))
    else (rd st 8000 ((x5 + 1) + x6) fun v60 =>
    bMv (f_X6_lays v60 st wt sm ld ln) fun st62 wt63 sm64 ld65 ln66 =>
    rd st62 8000 ((x5 + 1) + x6) fun v67 =>
    bMv (f_X6_adds v67 1 st62 wt63 sm64 ld65 ln66) fun st69 wt70 sm71 ld72 ln73 =>
    bd (x6 + 1) fun y74 =>
    f_X6_laysData_57 fu x3 x5 y74 st69 wt70 sm71 ld72 ln73)
def f_X6_laysData (x1 : Int32) (x2 : Int32) (x3 : Int32) (st : Nat → Int32) (wt : Int32) (sm : Int64) (ld : Int32) (ln : Int32) : Option ((Nat → Int32) × Int32 × Int64 × Int32 × Int32) :=
  bd ((x2 - x2 / 64 * 64)) fun y1 =>
  bx (f_X6_packetAt x1 x2) fun r2 =>
  bMv (f_X6_beginsFrame x1 st wt sm ld ln) fun st4 wt5 sm6 ld7 ln8 =>
  bMv (f_X6_begins 1 st4 wt5 sm6 ld7 ln8) fun st10 wt11 sm12 ld13 ln14 =>
  bMv (f_X6_adds 0 1 st10 wt11 sm12 ld13 ln14) fun st16 wt17 sm18 ld19 ln20 =>
  bMv (f_X6_adds y1 1 st16 wt17 sm18 ld19 ln20) fun st22 wt23 sm24 ld25 ln26 =>
  bMv (f_X6_lays 251 st22 wt23 sm24 ld25 ln26) fun st28 wt29 sm30 ld31 ln32 =>
  bMv (f_X6_lays 0 st28 wt29 sm30 ld31 ln32) fun st34 wt35 sm36 ld37 ln38 =>
  bMv (f_X6_lays y1 st34 wt35 sm36 ld37 ln38) fun st40 wt41 sm42 ld43 ln44 =>
  f_X6_laysData_57 FU x3 r2 0 st40 wt41 sm42 ld43 ln44
set_option maxHeartbeats 4000000 in
set_option maxRecDepth 100000 in
theorem k_X6_laysData {l : Launch} {G : GG} {A : Nat → Prop} {Γ : Cx} (C : CX G A Γ cX6_laysData RX6 ({ frames := 4, cells := 0, slots := 0, locals := 86 } : Room) 9) (h : Nat) (a1 : Nat) (a2 : Nat) (a3 : Nat) (X : va_W) (x1 : Int32) (x2 : Int32) (x3 : Int32) (st : Nat → Int32) (wt : Int32) (sm : Int64) (ld : Int32) (ln : Int32) (st0 : Nat → Int32) (wt0 : Int32) (sm0 : Int64) (ld0 : Int32) (ln0 : Int32) (hf : f_X6_laysData x1 x2 x3 st wt sm ld ln = some (st0, wt0, sm0, ld0, ln0)) (hret : ∀ (pc : Nat) (lv : List (Nat × Value)), decode cX6_laysData pc = .ok (.return_, 1) → St l G A Γ 0 0 (wM G h a1 a2 a3 X st0 wt0 sm0 ld0 ln0) pc lv []) : St l G A Γ 0 0 (wM G h a1 a2 a3 X st wt sm ld ln) 0 [(0, .ref h), (1, .int x1), (2, .int x2), (3, .int x3)] [] := by
  have B_134 : ∀  (fu : Nat) (x3 : Int32) (x6 : Int64) (x8 : Int32) (st : Nat → Int32) (wt : Int32) (sm : Int64) (ld : Int32) (ln : Int32), f_X6_laysData_134 fu x3 x6 x8 st wt sm ld ln = some (st0, wt0, sm0, ld0, ln0) → St l G A Γ 0 0 (wM G h a1 a2 a3 X st wt sm ld ln) 134 [(0, .ref h), (3, .int x3), (6, .long x6), (8, .int x8)] [] := by
    intro fu
    induction fu with
    | zero => intro x3 x6 x8 st wt sm ld ln hf ; rw [f_X6_laysData_134] at hf; cases hf
    | succ fu ih =>
      intro x3 x6 x8 st wt sm ld ln hf 
      rw [f_X6_laysData_134] at hf
      refine s_iload C 3 dX6_laysData_134 rfl ?_
      refine s_iconst (v := 4) C dX6_laysData_136 (by decide) ?_
      refine s_icmp_ge C 163 dX6_laysData_137 (by decide) (fun c75 => ?_) (fun c75 => ?_)
      · rw [if_pos c75] at hf
        refine s_aload_n C 0 dX6_laysData_163 rfl ?_
        refine s_iload_n C 1 dX6_laysData_164 rfl ?_
        refine s_if_eq C 174 dX6_laysData_165 (by decide) (fun c76 => ?_) (fun c76 => ?_)
        · rw [if_pos c76] at hf
          refine s_sipush (v := 253) C dX6_laysData_174 (by decide) ?_
          obtain ⟨st78, wt79, sm80, ld81, ln82, er77, hf⟩ := bMv_inv hf
          refine s_cV_V (As := [.int 253]) (rest := []) (ci := 6) (q := 0) C (c_X6_lays l G A h a1 a2 a3 X 253 st wt sm ld ln _ _ _ _ _ er77) g_RX6_102 hd_X6_lays rfl ⟨Nat.le_of_ble_eq_true rfl, Nat.le_of_ble_eq_true rfl⟩ rfl rfl rfl (Nat.le_of_ble_eq_true rfl) ⟨Nat.le_of_ble_eq_true rfl, Nat.le_of_ble_eq_true rfl⟩ dX6_laysData_177 ?_
          exact rM_V hf hret dX6_laysData_180
        · rw [if_neg c76] at hf
          refine s_sipush (v := 254) C dX6_laysData_168 (by decide) ?_
          refine s_goto C 177 dX6_laysData_171 (by decide) ?_
          obtain ⟨st84, wt85, sm86, ld87, ln88, er83, hf⟩ := bMv_inv hf
          refine s_cV_V (As := [.int 254]) (rest := []) (ci := 6) (q := 0) C (c_X6_lays l G A h a1 a2 a3 X 254 st wt sm ld ln _ _ _ _ _ er83) g_RX6_102 hd_X6_lays rfl ⟨Nat.le_of_ble_eq_true rfl, Nat.le_of_ble_eq_true rfl⟩ rfl rfl rfl (Nat.le_of_ble_eq_true rfl) ⟨Nat.le_of_ble_eq_true rfl, Nat.le_of_ble_eq_true rfl⟩ dX6_laysData_177 ?_
          exact rM_V hf hret dX6_laysData_180
      · rw [if_neg c75] at hf
        refine s_aload_n C 0 dX6_laysData_140 rfl ?_
        refine s_lload C 2 dX6_laysData_141 rfl ?_
        refine s_bipush (v := 8) C dX6_laysData_143 (by decide) ?_
        refine s_iload C 3 dX6_laysData_145 rfl ?_
        refine s_imul C dX6_laysData_147 ?_
        refine s_lshr C dX6_laysData_148 ?_
        refine s_ldc2 C tw_542 dX6_laysData_149 ?_
        refine s_land C dX6_laysData_152 ?_
        refine s_l2i C dX6_laysData_153 ?_
        obtain ⟨st90, wt91, sm92, ld93, ln94, er89, hf⟩ := bMv_inv hf
        refine s_cV_V (As := [.int (((((x6 >>> (((8 * x8) : Int32).toInt64 &&& 63))) &&& 255) : Int64).toInt32)]) (rest := []) (ci := 6) (q := 0) C (c_X6_lays l G A h a1 a2 a3 X (((((x6 >>> (((8 * x8) : Int32).toInt64 &&& 63))) &&& 255) : Int64).toInt32) st wt sm ld ln _ _ _ _ _ er89) g_RX6_102 hd_X6_lays rfl ⟨Nat.le_of_ble_eq_true rfl, Nat.le_of_ble_eq_true rfl⟩ rfl rfl rfl (Nat.le_of_ble_eq_true rfl) ⟨Nat.le_of_ble_eq_true rfl, Nat.le_of_ble_eq_true rfl⟩ dX6_laysData_154 ?_
        obtain ⟨y95, ey95, hf⟩ := bd_inv hf
        refine s_iinc (v := y95) C 3 [(8, .int y95), (0, .ref h), (3, .int x3), (6, .long x6)] dX6_laysData_157 rfl (by rw [ey95]; rfl) (by decide) rfl ?_
        refine s_goto C 134 dX6_laysData_160 (by decide) ?_
        refine s_lv [1, 2, 3, 0] rfl ?_
        exact ih _ _ _ _ _ _ _ _ hf
  have B_129 : ∀  (x3 : Int32) (s0 : Int64) (st : Nat → Int32) (wt : Int32) (sm : Int64) (ld : Int32) (ln : Int32), f_X6_laysData_129 x3 s0 st wt sm ld ln = some (st0, wt0, sm0, ld0, ln0) → St l G A Γ 0 0 (wM G h a1 a2 a3 X st wt sm ld ln) 129 [(0, .ref h), (3, .int x3)] [.long s0] := by
    intro  x3 s0 st wt sm ld ln hf 
    unfold f_X6_laysData_129 at hf
    refine s_lstore C [(6, .long s0), (0, .ref h), (3, .int x3)] dX6_laysData_129 (by decide) rfl ?_
    refine s_iconst (v := 0) C dX6_laysData_131 (by decide) ?_
    refine s_istore C [(8, .int 0), (6, .long s0), (0, .ref h), (3, .int x3)] dX6_laysData_132 (by decide) rfl ?_
    refine s_lv [2, 3, 1, 0] rfl ?_
    exact B_134 _ _ _ _ _ _ _ _ _ hf
  have B_57 : ∀  (fu : Nat) (x3 : Int32) (x5 : Int32) (x6 : Int32) (st : Nat → Int32) (wt : Int32) (sm : Int64) (ld : Int32) (ln : Int32), f_X6_laysData_57 fu x3 x5 x6 st wt sm ld ln = some (st0, wt0, sm0, ld0, ln0) → St l G A Γ 0 0 (wM G h a1 a2 a3 X st wt sm ld ln) 57 [(0, .ref h), (3, .int x3), (5, .int x5), (6, .int x6)] [] := by
    intro fu
    induction fu with
    | zero => intro x3 x5 x6 st wt sm ld ln hf ; rw [f_X6_laysData_57] at hf; cases hf
    | succ fu ih =>
      intro x3 x5 x6 st wt sm ld ln hf 
      rw [f_X6_laysData_57] at hf
      refine s_iload C 3 dX6_laysData_57 rfl ?_
      refine s_aload_n C 0 dX6_laysData_59 rfl ?_
      refine gf_508 C 0 rfl rfl dX6_laysData_60 ?_
      refine s_iload C 2 dX6_laysData_63 rfl ?_
      obtain ⟨v45, hiv45, ev45, hf⟩ := rd_inv hf
      refine s_iald C 1 rfl hiv45 dX6_laysData_65 ?_
      refine s_nmi ev45 ?_
      refine s_icmp_ge C 108 dX6_laysData_66 (by decide) (fun c46 => ?_) (fun c46 => ?_)
      · rw [if_pos c46] at hf
        refine s_iload_n C 1 dX6_laysData_108 rfl ?_
        refine s_if_eq C 124 dX6_laysData_109 (by decide) (fun c47 => ?_) (fun c47 => ?_)
        · rw [if_pos c47] at hf
          refine s_aload_n C 0 dX6_laysData_124 rfl ?_
          refine s_iconst (v := 1) C dX6_laysData_125 (by decide) ?_
          obtain ⟨r48, st49, wt50, sm51, ld52, ln53, er48, hf⟩ := bM_inv hf
          refine s_cV_L (As := [.int 1]) (rest := []) (ci := 6) (q := 0) C (c_X6_sumOf l G A h a1 a2 a3 X 1 st wt sm ld ln _ _ _ _ _ _ er48) g_RX6_68 hd_X6_sumOf rfl ⟨Nat.le_of_ble_eq_true rfl, Nat.le_of_ble_eq_true rfl⟩ rfl rfl rfl (Nat.le_of_ble_eq_true rfl) ⟨Nat.le_of_ble_eq_true rfl, Nat.le_of_ble_eq_true rfl⟩ dX6_laysData_126 ?_
          refine s_lv [0, 1] rfl ?_
          exact B_129 _ _ _ _ _ _ _ hf
        · rw [if_neg c47] at hf
          refine s_aload_n C 0 dX6_laysData_112 rfl ?_
          refine s_iconst (v := 1) C dX6_laysData_113 (by decide) ?_
          obtain ⟨r54, st55, wt56, sm57, ld58, ln59, er54, hf⟩ := bM_inv hf
          refine s_cV_L (As := [.int 1]) (rest := []) (ci := 6) (q := 0) C (c_X6_sumOf l G A h a1 a2 a3 X 1 st wt sm ld ln _ _ _ _ _ _ er54) g_RX6_68 hd_X6_sumOf rfl ⟨Nat.le_of_ble_eq_true rfl, Nat.le_of_ble_eq_true rfl⟩ rfl rfl rfl (Nat.le_of_ble_eq_true rfl) ⟨Nat.le_of_ble_eq_true rfl, Nat.le_of_ble_eq_true rfl⟩ dX6_laysData_114 ?_
          refine s_ldc2 C tw_563 dX6_laysData_117 ?_
          refine s_lxor C dX6_laysData_120 ?_
          refine s_goto C 129 dX6_laysData_121 (by decide) ?_
          refine s_lv [0, 1] rfl ?_
          exact B_129 _ _ _ _ _ _ _ hf
      · rw [if_neg c46] at hf
        refine s_aload_n C 0 dX6_laysData_69 rfl ?_
        refine s_aload_n C 0 dX6_laysData_70 rfl ?_
        refine gf_508 C 0 rfl rfl dX6_laysData_71 ?_
        refine s_iload C 2 dX6_laysData_74 rfl ?_
        refine s_iconst (v := 1) C dX6_laysData_76 (by decide) ?_
        refine s_iadd C dX6_laysData_77 ?_
        refine s_iload C 3 dX6_laysData_78 rfl ?_
        refine s_iadd C dX6_laysData_80 ?_
        obtain ⟨v60, hiv60, ev60, hf⟩ := rd_inv hf
        refine s_iald C 1 rfl hiv60 dX6_laysData_81 ?_
        refine s_nmi ev60 ?_
        obtain ⟨st62, wt63, sm64, ld65, ln66, er61, hf⟩ := bMv_inv hf
        refine s_cV_V (As := [.int v60]) (rest := []) (ci := 6) (q := 0) C (c_X6_lays l G A h a1 a2 a3 X v60 st wt sm ld ln _ _ _ _ _ er61) g_RX6_102 hd_X6_lays rfl ⟨Nat.le_of_ble_eq_true rfl, Nat.le_of_ble_eq_true rfl⟩ rfl rfl rfl (Nat.le_of_ble_eq_true rfl) ⟨Nat.le_of_ble_eq_true rfl, Nat.le_of_ble_eq_true rfl⟩ dX6_laysData_82 ?_
        refine s_aload_n C 0 dX6_laysData_85 rfl ?_
        refine s_aload_n C 0 dX6_laysData_86 rfl ?_
        refine gf_508 C 0 rfl rfl dX6_laysData_87 ?_
        refine s_iload C 2 dX6_laysData_90 rfl ?_
        refine s_iconst (v := 1) C dX6_laysData_92 (by decide) ?_
        refine s_iadd C dX6_laysData_93 ?_
        refine s_iload C 3 dX6_laysData_94 rfl ?_
        refine s_iadd C dX6_laysData_96 ?_
        obtain ⟨v67, hiv67, ev67, hf⟩ := rd_inv hf
        refine s_iald C 1 rfl hiv67 dX6_laysData_97 ?_
        refine s_nmi ev67 ?_
        refine s_iconst (v := 1) C dX6_laysData_98 (by decide) ?_
        obtain ⟨st69, wt70, sm71, ld72, ln73, er68, hf⟩ := bMv_inv hf
        refine s_cV_V (As := [.int v67, .int 1]) (rest := []) (ci := 6) (q := 0) C (c_X6_adds l G A h a1 a2 a3 X v67 1 st62 wt63 sm64 ld65 ln66 _ _ _ _ _ er68) g_RX6_64 hd_X6_adds rfl ⟨Nat.le_of_ble_eq_true rfl, Nat.le_of_ble_eq_true rfl⟩ rfl rfl rfl (Nat.le_of_ble_eq_true rfl) ⟨Nat.le_of_ble_eq_true rfl, Nat.le_of_ble_eq_true rfl⟩ dX6_laysData_99 ?_
        obtain ⟨y74, ey74, hf⟩ := bd_inv hf
        refine s_iinc (v := y74) C 3 [(6, .int y74), (0, .ref h), (3, .int x3), (5, .int x5)] dX6_laysData_102 rfl (by rw [ey74]; rfl) (by decide) rfl ?_
        refine s_goto C 57 dX6_laysData_105 (by decide) ?_
        refine s_lv [1, 2, 3, 0] rfl ?_
        exact ih _ _ _ _ _ _ _ _ hf
  unfold f_X6_laysData at hf
  refine s_iload_n C 2 dX6_laysData_0 rfl ?_
  refine s_bipush (v := 64) C dX6_laysData_1 (by decide) ?_
  refine s_irem C dX6_laysData_3 (by decide) ?_
  obtain ⟨y1, ey1, hf⟩ := bd_inv hf
  refine s_nmi ey1 ?_
  refine s_istore C [(4, .int y1), (0, .ref h), (1, .int x1), (2, .int x2), (3, .int x3)] dX6_laysData_4 (by decide) rfl ?_
  refine s_iload_n C 2 dX6_laysData_6 rfl ?_
  refine s_iload_n C 3 dX6_laysData_7 rfl ?_
  obtain ⟨r2, er2, hf⟩ := bx_inv hf
  refine s_cS_I (As := [.int x1, .int x2]) (rest := []) C (c_X6_packetAt l G A _ x1 x2 _ er2) g_RX6_54 hd_X6_packetAt rfl ⟨Nat.le_of_ble_eq_true rfl, Nat.le_of_ble_eq_true rfl⟩ rfl (Nat.le_of_ble_eq_true rfl) ⟨Nat.le_of_ble_eq_true rfl, Nat.le_of_ble_eq_true rfl⟩ dX6_laysData_8 ?_
  refine s_istore C [(5, .int r2), (4, .int y1), (0, .ref h), (1, .int x1), (2, .int x2), (3, .int x3)] dX6_laysData_11 (by decide) rfl ?_
  refine s_aload_n C 2 dX6_laysData_13 rfl ?_
  refine s_iload_n C 3 dX6_laysData_14 rfl ?_
  obtain ⟨st4, wt5, sm6, ld7, ln8, er3, hf⟩ := bMv_inv hf
  refine s_cV_V (As := [.int x1]) (rest := []) (ci := 6) (q := 0) C (c_X6_beginsFrame l G A h a1 a2 a3 X x1 st wt sm ld ln _ _ _ _ _ er3) g_RX6_98 hd_X6_beginsFrame rfl ⟨Nat.le_of_ble_eq_true rfl, Nat.le_of_ble_eq_true rfl⟩ rfl rfl rfl (Nat.le_of_ble_eq_true rfl) ⟨Nat.le_of_ble_eq_true rfl, Nat.le_of_ble_eq_true rfl⟩ dX6_laysData_15 ?_
  refine s_aload_n C 2 dX6_laysData_18 rfl ?_
  refine s_iconst (v := 1) C dX6_laysData_19 (by decide) ?_
  obtain ⟨st10, wt11, sm12, ld13, ln14, er9, hf⟩ := bMv_inv hf
  refine s_cV_V (As := [.int 1]) (rest := []) (ci := 6) (q := 0) C (c_X6_begins l G A h a1 a2 a3 X 1 st4 wt5 sm6 ld7 ln8 _ _ _ _ _ er9) g_RX6_60 hd_X6_begins rfl ⟨Nat.le_of_ble_eq_true rfl, Nat.le_of_ble_eq_true rfl⟩ rfl rfl rfl (Nat.le_of_ble_eq_true rfl) ⟨Nat.le_of_ble_eq_true rfl, Nat.le_of_ble_eq_true rfl⟩ dX6_laysData_20 ?_
  refine s_aload_n C 2 dX6_laysData_23 rfl ?_
  refine s_iconst (v := 0) C dX6_laysData_24 (by decide) ?_
  refine s_iconst (v := 1) C dX6_laysData_25 (by decide) ?_
  obtain ⟨st16, wt17, sm18, ld19, ln20, er15, hf⟩ := bMv_inv hf
  refine s_cV_V (As := [.int 0, .int 1]) (rest := []) (ci := 6) (q := 0) C (c_X6_adds l G A h a1 a2 a3 X 0 1 st10 wt11 sm12 ld13 ln14 _ _ _ _ _ er15) g_RX6_64 hd_X6_adds rfl ⟨Nat.le_of_ble_eq_true rfl, Nat.le_of_ble_eq_true rfl⟩ rfl rfl rfl (Nat.le_of_ble_eq_true rfl) ⟨Nat.le_of_ble_eq_true rfl, Nat.le_of_ble_eq_true rfl⟩ dX6_laysData_26 ?_
  refine s_aload_n C 2 dX6_laysData_29 rfl ?_
  refine s_iload C 1 dX6_laysData_30 rfl ?_
  refine s_iconst (v := 1) C dX6_laysData_32 (by decide) ?_
  obtain ⟨st22, wt23, sm24, ld25, ln26, er21, hf⟩ := bMv_inv hf
  refine s_cV_V (As := [.int y1, .int 1]) (rest := []) (ci := 6) (q := 0) C (c_X6_adds l G A h a1 a2 a3 X y1 1 st16 wt17 sm18 ld19 ln20 _ _ _ _ _ er21) g_RX6_64 hd_X6_adds rfl ⟨Nat.le_of_ble_eq_true rfl, Nat.le_of_ble_eq_true rfl⟩ rfl rfl rfl (Nat.le_of_ble_eq_true rfl) ⟨Nat.le_of_ble_eq_true rfl, Nat.le_of_ble_eq_true rfl⟩ dX6_laysData_33 ?_
  refine s_aload_n C 2 dX6_laysData_36 rfl ?_
  refine s_sipush (v := 251) C dX6_laysData_37 (by decide) ?_
  obtain ⟨st28, wt29, sm30, ld31, ln32, er27, hf⟩ := bMv_inv hf
  refine s_cV_V (As := [.int 251]) (rest := []) (ci := 6) (q := 0) C (c_X6_lays l G A h a1 a2 a3 X 251 st22 wt23 sm24 ld25 ln26 _ _ _ _ _ er27) g_RX6_102 hd_X6_lays rfl ⟨Nat.le_of_ble_eq_true rfl, Nat.le_of_ble_eq_true rfl⟩ rfl rfl rfl (Nat.le_of_ble_eq_true rfl) ⟨Nat.le_of_ble_eq_true rfl, Nat.le_of_ble_eq_true rfl⟩ dX6_laysData_40 ?_
  refine s_aload_n C 2 dX6_laysData_43 rfl ?_
  refine s_iconst (v := 0) C dX6_laysData_44 (by decide) ?_
  obtain ⟨st34, wt35, sm36, ld37, ln38, er33, hf⟩ := bMv_inv hf
  refine s_cV_V (As := [.int 0]) (rest := []) (ci := 6) (q := 0) C (c_X6_lays l G A h a1 a2 a3 X 0 st28 wt29 sm30 ld31 ln32 _ _ _ _ _ er33) g_RX6_102 hd_X6_lays rfl ⟨Nat.le_of_ble_eq_true rfl, Nat.le_of_ble_eq_true rfl⟩ rfl rfl rfl (Nat.le_of_ble_eq_true rfl) ⟨Nat.le_of_ble_eq_true rfl, Nat.le_of_ble_eq_true rfl⟩ dX6_laysData_45 ?_
  refine s_aload_n C 2 dX6_laysData_48 rfl ?_
  refine s_iload C 1 dX6_laysData_49 rfl ?_
  obtain ⟨st40, wt41, sm42, ld43, ln44, er39, hf⟩ := bMv_inv hf
  refine s_cV_V (As := [.int y1]) (rest := []) (ci := 6) (q := 0) C (c_X6_lays l G A h a1 a2 a3 X y1 st34 wt35 sm36 ld37 ln38 _ _ _ _ _ er39) g_RX6_102 hd_X6_lays rfl ⟨Nat.le_of_ble_eq_true rfl, Nat.le_of_ble_eq_true rfl⟩ rfl rfl rfl (Nat.le_of_ble_eq_true rfl) ⟨Nat.le_of_ble_eq_true rfl, Nat.le_of_ble_eq_true rfl⟩ dX6_laysData_51 ?_
  refine s_iconst (v := 0) C dX6_laysData_54 (by decide) ?_
  refine s_istore C [(6, .int 0), (5, .int r2), (4, .int y1), (0, .ref h), (1, .int x1), (2, .int x2), (3, .int x3)] dX6_laysData_55 (by decide) rfl ?_
  refine s_lv [3, 6, 1, 0] rfl ?_
  exact B_57 _ _ _ _ _ _ _ _ _ hf
theorem c_X6_laysData (l : Launch) (G : GG) (A : Nat → Prop) (h : Nat) (a1 : Nat) (a2 : Nat) (a3 : Nat) (X : va_W) (x1 : Int32) (x2 : Int32) (x3 : Int32) (st : Nat → Int32) (wt : Int32) (sm : Int64) (ld : Int32) (ln : Int32) (st0 : Nat → Int32) (wt0 : Int32) (sm0 : Int64) (ld0 : Int32) (ln0 : Int32) (hf : f_X6_laysData x1 x2 x3 st wt sm ld ln = some (st0, wt0, sm0, ld0, ln0)) : MV l yX6_laysData cX6_laysData 9 ({ frames := 4, cells := 0, slots := 0, locals := 86 } : Room) G A (wM G h a1 a2 a3 X st wt sm ld ln) [.ref h, .int x1, .int x2, .int x3] (wM G h a1 a2 a3 X st0 wt0 sm0 ld0 ln0) :=
  e_V (by decide) (Nat.le_of_ble_eq_true rfl) (fun Γ C hret => k_X6_laysData C _ _ _ _ _ _ _ _ _ _ _ _ _ _ _ _ _ _ hf hret)
def f_X6_read_370  (x5 : Int64) (x7 : Int32) (st : Nat → Int32) (wt : Int32) (sm : Int64) (ld : Int32) (ln : Int32) : Option (Int32 × (Nat → Int32) × Int32 × Int64 × Int32 × Int32) :=
  if x7 = 254 then (bM (f_X6_sumOf 1 st wt sm ld ln) fun r99 st100 wt101 sm102 ld103 ln104 =>
  if (lg_cmp x5 (r99 ^^^ 4294967295)) = 0 then (some (1, st100, wt101, sm102, ld103, ln104))
  else (some (4, st100, wt101, sm102, ld103, ln104)))
  else (some (4, st, wt, sm, ld, ln))
def f_X6_read_303  : Nat → Int32 → Int32 → Int32 → Int64 → Int32 → (Nat → Int32) → Int32 → Int64 → Int32 → Int32 → Option (Int32 × (Nat → Int32) × Int32 × Int64 × Int32 × Int32)
  | 0, _, _, _, _, _, _, _, _, _, _ => none
  | fu + 1, x2, x3, x4, x5, x7, st, wt, sm, ld, ln =>
    if x7 < 0 then (rd st 8000 ((x3 + x2) - 1) fun v83 =>
    if v83 = 253 then (bM (f_X6_sumOf 1 st wt sm ld ln) fun r85 st86 wt87 sm88 ld89 ln90 =>
    if (lg_cmp x5 r85) = 0 then (some (0, st86, wt87, sm88, ld89, ln90))
    else (f_X6_read_370 x5 v83 st86 wt87 sm88 ld89 ln90))
    else (f_X6_read_370 x5 v83 st wt sm ld ln))
    else (rd st 8000 (((x3 + 3) + x4) + x7) fun v92 =>
    bd ((((x5 <<< ((8 : Int32).toInt64 &&& 63))) ||| ((v92 : Int32).toInt64))) fun y93 =>
    bd (x7 + (-1)) fun y94 =>
    f_X6_read_303 fu x2 x3 x4 y93 y94 st wt sm ld ln)
def f_X6_read_268  : Nat → Int32 → Int32 → Int32 → Int32 → (Nat → Int32) → Int32 → Int64 → Int32 → Int32 → Option (Int32 × (Nat → Int32) × Int32 × Int64 × Int32 × Int32)
  | 0, _, _, _, _, _, _, _, _, _ => none
  | fu + 1, x2, x3, x4, x5, st, wt, sm, ld, ln =>
    if x4 ≤ x5 then (f_X6_read_303 FU x2 x3 x4 0 3 st wt sm ld ln)
    else (rd st 8000 ((x3 + 3) + x5) fun v66 =>
    bMv (f_X6_adds v66 1 st wt sm ld ln) fun st68 wt69 sm70 ld71 ln72 =>
    bd (x5 + 1) fun y73 =>
    f_X6_read_268 fu x2 x3 x4 y73 st68 wt69 sm70 ld71 ln72)
def f_X6_read_156  (x3 : Int32) (s0 : Int32) (st : Nat → Int32) (wt : Int32) (sm : Int64) (ld : Int32) (ln : Int32) : Option (Int32 × (Nat → Int32) × Int32 × Int64 × Int32 × Int32) :=
  if s0 = 0 then (some (5, st, wt, sm, ld, ln))
  else (rd st 8000 (x3 + 1) fun v96 =>
  if v96 = 0 then (some (2, st, wt, sm, ld, ln))
  else (some (3, st, wt, sm, ld, ln)))
def f_X6_read_155  (x3 : Int32) (st : Nat → Int32) (wt : Int32) (sm : Int64) (ld : Int32) (ln : Int32) : Option (Int32 × (Nat → Int32) × Int32 × Int64 × Int32 × Int32) :=
  f_X6_read_156 x3 0 st wt sm ld ln
def f_X6_read_91  (x3 : Int32) (x4 : Int32) (st : Nat → Int32) (wt : Int32) (sm : Int64) (ld : Int32) (ln : Int32) : Option (Int32 × (Nat → Int32) × Int32 × Int64 × Int32 × Int32) :=
  rd st 8000 (x3 + 2) fun v74 =>
  if 64 ≤ v74 then (f_X6_read_155 x3 st wt sm ld ln)
  else (rd st 8000 (x3 + 3) fun v76 =>
  if v76 = (x4 &&& 255) then (rd st 8000 (x3 + 4) fun v78 =>
  if v78 = (x4 >>> (8 &&& 31)) then (rd st 8000 (x3 + 5) fun v80 =>
  if v80 = 253 then (f_X6_read_156 x3 1 st wt sm ld ln)
  else (f_X6_read_155 x3 st wt sm ld ln))
  else (f_X6_read_155 x3 st wt sm ld ln))
  else (f_X6_read_155 x3 st wt sm ld ln))
def f_X6_read (x1 : Int32) (st : Nat → Int32) (wt : Int32) (sm : Int64) (ld : Int32) (ln : Int32) : Option (Int32 × (Nat → Int32) × Int32 × Int64 × Int32 × Int32) :=
  rd st 8000 x1 fun v1 =>
  bd ((x1 + 2)) fun y2 =>
  rd st 8000 y2 fun v3 =>
  if v3 = 92 then (bMv (f_X6_begins 0 st wt sm ld ln) fun st34 wt35 sm36 ld37 ln38 =>
  rd st34 8000 (y2 + 1) fun v39 =>
  bMv (f_X6_adds v39 0 st34 wt35 sm36 ld37 ln38) fun st41 wt42 sm43 ld44 ln45 =>
  rd st41 8000 (y2 + 2) fun v46 =>
  bMv (f_X6_adds v46 0 st41 wt42 sm43 ld44 ln45) fun st48 wt49 sm50 ld51 ln52 =>
  bM (f_X6_sumOf 0 st48 wt49 sm50 ld51 ln52) fun r53 st54 wt55 sm56 ld57 ln58 =>
  bd (((r53 : Int64).toInt32)) fun y59 =>
  if v1 = 6 then (rd st54 8000 (y2 + 1) fun v61 =>
  if v61 = 0 then (f_X6_read_91 y2 y59 st54 wt55 sm56 ld57 ln58)
  else (rd st54 8000 (y2 + 1) fun v63 =>
  if v63 = 16 then (f_X6_read_91 y2 y59 st54 wt55 sm56 ld57 ln58)
  else (f_X6_read_155 y2 st54 wt55 sm56 ld57 ln58)))
  else (f_X6_read_155 y2 st54 wt55 sm56 ld57 ln58))
  else (bd ((v1 - 8)) fun y5 =>
  bx (f_X6_in ((y5 : Int32).toInt64) 1 24) fun r6 =>
  if r6 = 0 then (some (4, st, wt, sm, ld, ln))
  else (rd st 8000 y2 fun v8 =>
  if v8 = 251 then (rd st 8000 (y2 + 1) fun v10 =>
  if v10 = 0 then (rd st 8000 (y2 + 2) fun v12 =>
  if v12 ≤ 63 then (bMv (f_X6_begins 1 st wt sm ld ln) fun st15 wt16 sm17 ld18 ln19 =>
  bMv (f_X6_adds 0 1 st15 wt16 sm17 ld18 ln19) fun st21 wt22 sm23 ld24 ln25 =>
  rd st21 8000 (y2 + 2) fun v26 =>
  bMv (f_X6_adds v26 1 st21 wt22 sm23 ld24 ln25) fun st28 wt29 sm30 ld31 ln32 =>
  f_X6_read_268 FU v1 y2 y5 0 st28 wt29 sm30 ld31 ln32)
  else (some (4, st, wt, sm, ld, ln)))
  else (some (4, st, wt, sm, ld, ln)))
  else (some (4, st, wt, sm, ld, ln))))
set_option maxHeartbeats 4000000 in
set_option maxRecDepth 100000 in
theorem k_X6_read {l : Launch} {G : GG} {A : Nat → Prop} {Γ : Cx} (C : CX G A Γ cX6_read RX6 ({ frames := 1, cells := 0, slots := 0, locals := 25 } : Room) 8) (h : Nat) (a1 : Nat) (a2 : Nat) (a3 : Nat) (X : va_W) (x1 : Int32) (st : Nat → Int32) (wt : Int32) (sm : Int64) (ld : Int32) (ln : Int32) (r0 : Int32) (st0 : Nat → Int32) (wt0 : Int32) (sm0 : Int64) (ld0 : Int32) (ln0 : Int32) (hf : f_X6_read x1 st wt sm ld ln = some (r0, st0, wt0, sm0, ld0, ln0)) (hret : ∀ (pc : Nat) (lv : List (Nat × Value)), decode cX6_read pc = .ok (.ireturn, 1) → narrow .int (.int r0) = .int r0 → St l G A Γ 0 0 (wM G h a1 a2 a3 X st0 wt0 sm0 ld0 ln0) pc lv [.int r0]) : St l G A Γ 0 0 (wM G h a1 a2 a3 X st wt sm ld ln) 0 [(0, .ref h), (1, .int x1)] [] := by
  have B_370 : ∀  (x5 : Int64) (x7 : Int32) (st : Nat → Int32) (wt : Int32) (sm : Int64) (ld : Int32) (ln : Int32), f_X6_read_370 x5 x7 st wt sm ld ln = some (r0, st0, wt0, sm0, ld0, ln0) → St l G A Γ 0 0 (wM G h a1 a2 a3 X st wt sm ld ln) 370 [(0, .ref h), (5, .long x5), (7, .int x7)] [] := by
    intro  x5 x7 st wt sm ld ln hf 
    unfold f_X6_read_370 at hf
    refine s_iload C 2 dX6_read_370 rfl ?_
    refine s_sipush (v := 254) C dX6_read_372 (by decide) ?_
    refine s_icmp_ne C 397 dX6_read_375 (by decide) (fun c98 => ?_) (fun c98 => ?_)
    · rw [if_neg c98] at hf
      refine s_iconst (v := 4) C dX6_read_397 (by decide) ?_
      exact rM_I hf (vp_nar_int _) hret dX6_read_398
    · rw [if_pos c98] at hf
      refine s_lload C 1 dX6_read_378 rfl ?_
      refine s_aload_n C 0 dX6_read_380 rfl ?_
      refine s_iconst (v := 1) C dX6_read_381 (by decide) ?_
      obtain ⟨r99, st100, wt101, sm102, ld103, ln104, er99, hf⟩ := bM_inv hf
      refine s_cV_L (As := [.int 1]) (rest := [.long x5]) (ci := 6) (q := 0) C (c_X6_sumOf l G A h a1 a2 a3 X 1 st wt sm ld ln _ _ _ _ _ _ er99) g_RX6_68 hd_X6_sumOf rfl ⟨Nat.le_of_ble_eq_true rfl, Nat.le_of_ble_eq_true rfl⟩ rfl rfl rfl (Nat.le_of_ble_eq_true rfl) ⟨Nat.le_of_ble_eq_true rfl, Nat.le_of_ble_eq_true rfl⟩ dX6_read_382 ?_
      refine s_ldc2 C tw_563 dX6_read_385 ?_
      refine s_lxor C dX6_read_388 ?_
      refine s_lcmp C dX6_read_389 ?_
      refine s_if_ne C 397 dX6_read_390 (by decide) (fun c105 => ?_) (fun c105 => ?_)
      · rw [if_neg c105] at hf
        refine s_iconst (v := 4) C dX6_read_397 (by decide) ?_
        exact rM_I hf (vp_nar_int _) hret dX6_read_398
      · rw [if_pos c105] at hf
        refine s_iconst (v := 1) C dX6_read_393 (by decide) ?_
        refine s_goto C 398 dX6_read_394 (by decide) ?_
        exact rM_I hf (vp_nar_int _) hret dX6_read_398
  have B_303 : ∀  (fu : Nat) (x2 : Int32) (x3 : Int32) (x4 : Int32) (x5 : Int64) (x7 : Int32) (st : Nat → Int32) (wt : Int32) (sm : Int64) (ld : Int32) (ln : Int32), f_X6_read_303 fu x2 x3 x4 x5 x7 st wt sm ld ln = some (r0, st0, wt0, sm0, ld0, ln0) → St l G A Γ 0 0 (wM G h a1 a2 a3 X st wt sm ld ln) 303 [(0, .ref h), (2, .int x2), (3, .int x3), (4, .int x4), (5, .long x5), (7, .int x7)] [] := by
    intro fu
    induction fu with
    | zero => intro x2 x3 x4 x5 x7 st wt sm ld ln hf ; rw [f_X6_read_303] at hf; cases hf
    | succ fu ih =>
      intro x2 x3 x4 x5 x7 st wt sm ld ln hf 
      rw [f_X6_read_303] at hf
      refine s_iload C 5 dX6_read_303 rfl ?_
      refine s_if_lt C 337 dX6_read_305 (by decide) (fun c82 => ?_) (fun c82 => ?_)
      · rw [if_pos c82] at hf
        refine s_aload_n C 0 dX6_read_337 rfl ?_
        refine gf_508 C 0 rfl rfl dX6_read_338 ?_
        refine s_iload_n C 2 dX6_read_341 rfl ?_
        refine s_iload_n C 1 dX6_read_342 rfl ?_
        refine s_iadd C dX6_read_343 ?_
        refine s_iconst (v := 1) C dX6_read_344 (by decide) ?_
        refine s_isub C dX6_read_345 ?_
        obtain ⟨v83, hiv83, ev83, hf⟩ := rd_inv hf
        refine s_iald C 1 rfl hiv83 dX6_read_346 ?_
        refine s_nmi ev83 ?_
        refine s_istore C [(7, .int v83), (0, .ref h), (2, .int x2), (3, .int x3), (4, .int x4), (5, .long x5)] dX6_read_347 (by decide) rfl ?_
        refine s_iload C 0 dX6_read_349 rfl ?_
        refine s_sipush (v := 253) C dX6_read_351 (by decide) ?_
        refine s_icmp_ne C 370 dX6_read_354 (by decide) (fun c84 => ?_) (fun c84 => ?_)
        · rw [if_neg c84] at hf
          refine s_lv [1, 5, 0] rfl ?_
          exact B_370 _ _ _ _ _ _ _ hf
        · rw [if_pos c84] at hf
          refine s_lload C 5 dX6_read_357 rfl ?_
          refine s_aload_n C 1 dX6_read_359 rfl ?_
          refine s_iconst (v := 1) C dX6_read_360 (by decide) ?_
          obtain ⟨r85, st86, wt87, sm88, ld89, ln90, er85, hf⟩ := bM_inv hf
          refine s_cV_L (As := [.int 1]) (rest := [.long x5]) (ci := 6) (q := 0) C (c_X6_sumOf l G A h a1 a2 a3 X 1 st wt sm ld ln _ _ _ _ _ _ er85) g_RX6_68 hd_X6_sumOf rfl ⟨Nat.le_of_ble_eq_true rfl, Nat.le_of_ble_eq_true rfl⟩ rfl rfl rfl (Nat.le_of_ble_eq_true rfl) ⟨Nat.le_of_ble_eq_true rfl, Nat.le_of_ble_eq_true rfl⟩ dX6_read_361 ?_
          refine s_lcmp C dX6_read_364 ?_
          refine s_if_ne C 370 dX6_read_365 (by decide) (fun c91 => ?_) (fun c91 => ?_)
          · rw [if_neg c91] at hf
            refine s_lv [1, 5, 0] rfl ?_
            exact B_370 _ _ _ _ _ _ _ hf
          · rw [if_pos c91] at hf
            refine s_iconst (v := 0) C dX6_read_368 (by decide) ?_
            exact rM_I hf (vp_nar_int _) hret dX6_read_369
      · rw [if_neg c82] at hf
        refine s_lload C 4 dX6_read_308 rfl ?_
        refine s_bipush (v := 8) C dX6_read_310 (by decide) ?_
        refine s_lshl C dX6_read_312 ?_
        refine s_aload_n C 0 dX6_read_313 rfl ?_
        refine gf_508 C 0 rfl rfl dX6_read_314 ?_
        refine s_iload_n C 2 dX6_read_317 rfl ?_
        refine s_iconst (v := 3) C dX6_read_318 (by decide) ?_
        refine s_iadd C dX6_read_319 ?_
        refine s_iload C 3 dX6_read_320 rfl ?_
        refine s_iadd C dX6_read_322 ?_
        refine s_iload C 5 dX6_read_323 rfl ?_
        refine s_iadd C dX6_read_325 ?_
        obtain ⟨v92, hiv92, ev92, hf⟩ := rd_inv hf
        refine s_iald C 1 rfl hiv92 dX6_read_326 ?_
        refine s_nmi ev92 ?_
        refine s_i2l C dX6_read_327 ?_
        refine s_lor C dX6_read_328 ?_
        obtain ⟨y93, ey93, hf⟩ := bd_inv hf
        refine s_nml ey93 ?_
        refine s_lstore C [(5, .long y93), (0, .ref h), (2, .int x2), (3, .int x3), (4, .int x4), (7, .int x7)] dX6_read_329 (by decide) rfl ?_
        obtain ⟨y94, ey94, hf⟩ := bd_inv hf
        refine s_iinc (v := y94) C 5 [(7, .int y94), (5, .long y93), (0, .ref h), (2, .int x2), (3, .int x3), (4, .int x4)] dX6_read_331 rfl (by rw [ey94]; rfl) (by decide) rfl ?_
        refine s_goto C 303 dX6_read_334 (by decide) ?_
        refine s_lv [2, 3, 4, 5, 1, 0] rfl ?_
        exact ih _ _ _ _ _ _ _ _ _ _ hf
  have B_268 : ∀  (fu : Nat) (x2 : Int32) (x3 : Int32) (x4 : Int32) (x5 : Int32) (st : Nat → Int32) (wt : Int32) (sm : Int64) (ld : Int32) (ln : Int32), f_X6_read_268 fu x2 x3 x4 x5 st wt sm ld ln = some (r0, st0, wt0, sm0, ld0, ln0) → St l G A Γ 0 0 (wM G h a1 a2 a3 X st wt sm ld ln) 268 [(0, .ref h), (2, .int x2), (3, .int x3), (4, .int x4), (5, .int x5)] [] := by
    intro fu
    induction fu with
    | zero => intro x2 x3 x4 x5 st wt sm ld ln hf ; rw [f_X6_read_268] at hf; cases hf
    | succ fu ih =>
      intro x2 x3 x4 x5 st wt sm ld ln hf 
      rw [f_X6_read_268] at hf
      refine s_iload C 4 dX6_read_268 rfl ?_
      refine s_iload C 3 dX6_read_270 rfl ?_
      refine s_icmp_ge C 297 dX6_read_272 (by decide) (fun c65 => ?_) (fun c65 => ?_)
      · rw [if_pos c65] at hf
        refine s_lconst (v := 0) C dX6_read_297 (by decide) ?_
        refine s_lstore C [(5, .long 0), (0, .ref h), (2, .int x2), (3, .int x3), (4, .int x4)] dX6_read_298 (by decide) rfl ?_
        refine s_iconst (v := 3) C dX6_read_300 (by decide) ?_
        refine s_istore C [(7, .int 3), (5, .long 0), (0, .ref h), (2, .int x2), (3, .int x3), (4, .int x4)] dX6_read_301 (by decide) rfl ?_
        refine s_lv [2, 3, 4, 5, 1, 0] rfl ?_
        exact B_303 _ _ _ _ _ _ _ _ _ _ _ hf
      · rw [if_neg c65] at hf
        refine s_aload_n C 0 dX6_read_275 rfl ?_
        refine s_aload_n C 0 dX6_read_276 rfl ?_
        refine gf_508 C 0 rfl rfl dX6_read_277 ?_
        refine s_iload_n C 2 dX6_read_280 rfl ?_
        refine s_iconst (v := 3) C dX6_read_281 (by decide) ?_
        refine s_iadd C dX6_read_282 ?_
        refine s_iload C 4 dX6_read_283 rfl ?_
        refine s_iadd C dX6_read_285 ?_
        obtain ⟨v66, hiv66, ev66, hf⟩ := rd_inv hf
        refine s_iald C 1 rfl hiv66 dX6_read_286 ?_
        refine s_nmi ev66 ?_
        refine s_iconst (v := 1) C dX6_read_287 (by decide) ?_
        obtain ⟨st68, wt69, sm70, ld71, ln72, er67, hf⟩ := bMv_inv hf
        refine s_cV_V (As := [.int v66, .int 1]) (rest := []) (ci := 6) (q := 0) C (c_X6_adds l G A h a1 a2 a3 X v66 1 st wt sm ld ln _ _ _ _ _ er67) g_RX6_64 hd_X6_adds rfl ⟨Nat.le_of_ble_eq_true rfl, Nat.le_of_ble_eq_true rfl⟩ rfl rfl rfl (Nat.le_of_ble_eq_true rfl) ⟨Nat.le_of_ble_eq_true rfl, Nat.le_of_ble_eq_true rfl⟩ dX6_read_288 ?_
        obtain ⟨y73, ey73, hf⟩ := bd_inv hf
        refine s_iinc (v := y73) C 4 [(5, .int y73), (0, .ref h), (2, .int x2), (3, .int x3), (4, .int x4)] dX6_read_291 rfl (by rw [ey73]; rfl) (by decide) rfl ?_
        refine s_goto C 268 dX6_read_294 (by decide) ?_
        refine s_lv [1, 2, 3, 4, 0] rfl ?_
        exact ih _ _ _ _ _ _ _ _ _ hf
  have B_156 : ∀  (x3 : Int32) (s0 : Int32) (st : Nat → Int32) (wt : Int32) (sm : Int64) (ld : Int32) (ln : Int32), f_X6_read_156 x3 s0 st wt sm ld ln = some (r0, st0, wt0, sm0, ld0, ln0) → St l G A Γ 0 0 (wM G h a1 a2 a3 X st wt sm ld ln) 156 [(0, .ref h), (3, .int x3)] [.int s0] := by
    intro  x3 s0 st wt sm ld ln hf 
    unfold f_X6_read_156 at hf
    refine s_istore C [(5, .int s0), (0, .ref h), (3, .int x3)] dX6_read_156 (by decide) rfl ?_
    refine s_iload C 0 dX6_read_158 rfl ?_
    refine s_if_ne C 167 dX6_read_160 (by decide) (fun c95 => ?_) (fun c95 => ?_)
    · rw [if_neg c95] at hf
      refine s_aload_n C 1 dX6_read_167 rfl ?_
      refine gf_508 C 0 rfl rfl dX6_read_168 ?_
      refine s_iload_n C 2 dX6_read_171 rfl ?_
      refine s_iconst (v := 1) C dX6_read_172 (by decide) ?_
      refine s_iadd C dX6_read_173 ?_
      obtain ⟨v96, hiv96, ev96, hf⟩ := rd_inv hf
      refine s_iald C 1 rfl hiv96 dX6_read_174 ?_
      refine s_nmi ev96 ?_
      refine s_if_ne C 182 dX6_read_175 (by decide) (fun c97 => ?_) (fun c97 => ?_)
      · rw [if_neg c97] at hf
        refine s_iconst (v := 3) C dX6_read_182 (by decide) ?_
        exact rM_I hf (vp_nar_int _) hret dX6_read_183
      · rw [if_pos c97] at hf
        refine s_iconst (v := 2) C dX6_read_178 (by decide) ?_
        refine s_goto C 183 dX6_read_179 (by decide) ?_
        exact rM_I hf (vp_nar_int _) hret dX6_read_183
    · rw [if_pos c95] at hf
      refine s_iconst (v := 5) C dX6_read_163 (by decide) ?_
      refine s_goto C 183 dX6_read_164 (by decide) ?_
      exact rM_I hf (vp_nar_int _) hret dX6_read_183
  have B_155 : ∀  (x3 : Int32) (st : Nat → Int32) (wt : Int32) (sm : Int64) (ld : Int32) (ln : Int32), f_X6_read_155 x3 st wt sm ld ln = some (r0, st0, wt0, sm0, ld0, ln0) → St l G A Γ 0 0 (wM G h a1 a2 a3 X st wt sm ld ln) 155 [(0, .ref h), (3, .int x3)] [] := by
    intro  x3 st wt sm ld ln hf 
    unfold f_X6_read_155 at hf
    refine s_iconst (v := 0) C dX6_read_155 (by decide) ?_
    exact B_156 _ _ _ _ _ _ _ hf
  have B_91 : ∀  (x3 : Int32) (x4 : Int32) (st : Nat → Int32) (wt : Int32) (sm : Int64) (ld : Int32) (ln : Int32), f_X6_read_91 x3 x4 st wt sm ld ln = some (r0, st0, wt0, sm0, ld0, ln0) → St l G A Γ 0 0 (wM G h a1 a2 a3 X st wt sm ld ln) 91 [(0, .ref h), (3, .int x3), (4, .int x4)] [] := by
    intro  x3 x4 st wt sm ld ln hf 
    unfold f_X6_read_91 at hf
    refine s_aload_n C 0 dX6_read_91 rfl ?_
    refine gf_508 C 0 rfl rfl dX6_read_92 ?_
    refine s_iload_n C 1 dX6_read_95 rfl ?_
    refine s_iconst (v := 2) C dX6_read_96 (by decide) ?_
    refine s_iadd C dX6_read_97 ?_
    obtain ⟨v74, hiv74, ev74, hf⟩ := rd_inv hf
    refine s_iald C 1 rfl hiv74 dX6_read_98 ?_
    refine s_nmi ev74 ?_
    refine s_bipush (v := 64) C dX6_read_99 (by decide) ?_
    refine s_icmp_ge C 155 dX6_read_101 (by decide) (fun c75 => ?_) (fun c75 => ?_)
    · rw [if_pos c75] at hf
      refine s_lv [0, 1] rfl ?_
      exact B_155 _ _ _ _ _ _ hf
    · rw [if_neg c75] at hf
      refine s_aload_n C 0 dX6_read_104 rfl ?_
      refine gf_508 C 0 rfl rfl dX6_read_105 ?_
      refine s_iload_n C 1 dX6_read_108 rfl ?_
      refine s_iconst (v := 3) C dX6_read_109 (by decide) ?_
      refine s_iadd C dX6_read_110 ?_
      obtain ⟨v76, hiv76, ev76, hf⟩ := rd_inv hf
      refine s_iald C 1 rfl hiv76 dX6_read_111 ?_
      refine s_nmi ev76 ?_
      refine s_iload C 2 dX6_read_112 rfl ?_
      refine s_sipush (v := 255) C dX6_read_114 (by decide) ?_
      refine s_iand C dX6_read_117 ?_
      refine s_icmp_ne C 155 dX6_read_118 (by decide) (fun c77 => ?_) (fun c77 => ?_)
      · rw [if_neg c77] at hf
        refine s_lv [0, 1] rfl ?_
        exact B_155 _ _ _ _ _ _ hf
      · rw [if_pos c77] at hf
        refine s_aload_n C 0 dX6_read_121 rfl ?_
        refine gf_508 C 0 rfl rfl dX6_read_122 ?_
        refine s_iload_n C 1 dX6_read_125 rfl ?_
        refine s_iconst (v := 4) C dX6_read_126 (by decide) ?_
        refine s_iadd C dX6_read_127 ?_
        obtain ⟨v78, hiv78, ev78, hf⟩ := rd_inv hf
        refine s_iald C 1 rfl hiv78 dX6_read_128 ?_
        refine s_nmi ev78 ?_
        refine s_iload C 2 dX6_read_129 rfl ?_
        refine s_bipush (v := 8) C dX6_read_131 (by decide) ?_
        refine s_ishr C dX6_read_133 ?_
        refine s_icmp_ne C 155 dX6_read_134 (by decide) (fun c79 => ?_) (fun c79 => ?_)
        · rw [if_neg c79] at hf
          refine s_lv [0, 1] rfl ?_
          exact B_155 _ _ _ _ _ _ hf
        · rw [if_pos c79] at hf
          refine s_aload_n C 0 dX6_read_137 rfl ?_
          refine gf_508 C 0 rfl rfl dX6_read_138 ?_
          refine s_iload_n C 1 dX6_read_141 rfl ?_
          refine s_iconst (v := 5) C dX6_read_142 (by decide) ?_
          refine s_iadd C dX6_read_143 ?_
          obtain ⟨v80, hiv80, ev80, hf⟩ := rd_inv hf
          refine s_iald C 1 rfl hiv80 dX6_read_144 ?_
          refine s_nmi ev80 ?_
          refine s_sipush (v := 253) C dX6_read_145 (by decide) ?_
          refine s_icmp_ne C 155 dX6_read_148 (by decide) (fun c81 => ?_) (fun c81 => ?_)
          · rw [if_neg c81] at hf
            refine s_lv [0, 1] rfl ?_
            exact B_155 _ _ _ _ _ _ hf
          · rw [if_pos c81] at hf
            refine s_iconst (v := 1) C dX6_read_151 (by decide) ?_
            refine s_goto C 156 dX6_read_152 (by decide) ?_
            refine s_lv [0, 1] rfl ?_
            exact B_156 _ _ _ _ _ _ _ hf
  unfold f_X6_read at hf
  refine s_aload_n C 0 dX6_read_0 rfl ?_
  refine gf_508 C 0 rfl rfl dX6_read_1 ?_
  refine s_iload_n C 1 dX6_read_4 rfl ?_
  obtain ⟨v1, hiv1, ev1, hf⟩ := rd_inv hf
  refine s_iald C 1 rfl hiv1 dX6_read_5 ?_
  refine s_nmi ev1 ?_
  refine s_istore_n C [(2, .int v1), (0, .ref h), (1, .int x1)] dX6_read_6 (by decide) rfl ?_
  refine s_iload_n C 2 dX6_read_7 rfl ?_
  refine s_iconst (v := 2) C dX6_read_8 (by decide) ?_
  refine s_iadd C dX6_read_9 ?_
  obtain ⟨y2, ey2, hf⟩ := bd_inv hf
  refine s_nmi ey2 ?_
  refine s_istore_n C [(3, .int y2), (2, .int v1), (0, .ref h), (1, .int x1)] dX6_read_10 (by decide) rfl ?_
  refine s_aload_n C 2 dX6_read_11 rfl ?_
  refine gf_508 C 0 rfl rfl dX6_read_12 ?_
  refine s_iload_n C 0 dX6_read_15 rfl ?_
  obtain ⟨v3, hiv3, ev3, hf⟩ := rd_inv hf
  refine s_iald C 1 rfl hiv3 dX6_read_16 ?_
  refine s_nmi ev3 ?_
  refine s_bipush (v := 92) C dX6_read_17 (by decide) ?_
  refine s_icmp_ne C 184 dX6_read_19 (by decide) (fun c4 => ?_) (fun c4 => ?_)
  · rw [if_neg c4] at hf
    refine s_iload_n C 1 dX6_read_184 rfl ?_
    refine s_bipush (v := 8) C dX6_read_185 (by decide) ?_
    refine s_isub C dX6_read_187 ?_
    obtain ⟨y5, ey5, hf⟩ := bd_inv hf
    refine s_nmi ey5 ?_
    refine s_istore C [(4, .int y5), (3, .int y2), (2, .int v1), (0, .ref h), (1, .int x1)] dX6_read_188 (by decide) rfl ?_
    refine s_iload C 0 dX6_read_190 rfl ?_
    refine s_i2l C dX6_read_192 ?_
    refine s_lconst (v := 1) C dX6_read_193 (by decide) ?_
    refine s_ldc2 C tw_617 dX6_read_194 ?_
    obtain ⟨r6, er6, hf⟩ := bx_inv hf
    refine s_cS_I (As := [.long ((y5 : Int32).toInt64), .long 1, .long 24]) (rest := []) C (c_X6_in l G A _ ((y5 : Int32).toInt64) 1 24 _ er6) g_RX6_45 hd_X6_in rfl ⟨Nat.le_of_ble_eq_true rfl, Nat.le_of_ble_eq_true rfl⟩ rfl (Nat.le_of_ble_eq_true rfl) ⟨Nat.le_of_ble_eq_true rfl, Nat.le_of_ble_eq_true rfl⟩ dX6_read_197 ?_
    refine s_if_eq C 239 dX6_read_200 (by decide) (fun c7 => ?_) (fun c7 => ?_)
    · rw [if_pos c7] at hf
      refine s_iconst (v := 4) C dX6_read_239 (by decide) ?_
      exact rM_I hf (vp_nar_int _) hret dX6_read_240
    · rw [if_neg c7] at hf
      refine s_aload_n C 3 dX6_read_203 rfl ?_
      refine gf_508 C 0 rfl rfl dX6_read_204 ?_
      refine s_iload_n C 1 dX6_read_207 rfl ?_
      obtain ⟨v8, hiv8, ev8, hf⟩ := rd_inv hf
      refine s_iald C 1 rfl hiv8 dX6_read_208 ?_
      refine s_nmi ev8 ?_
      refine s_sipush (v := 251) C dX6_read_209 (by decide) ?_
      refine s_icmp_ne C 239 dX6_read_212 (by decide) (fun c9 => ?_) (fun c9 => ?_)
      · rw [if_neg c9] at hf
        refine s_iconst (v := 4) C dX6_read_239 (by decide) ?_
        exact rM_I hf (vp_nar_int _) hret dX6_read_240
      · rw [if_pos c9] at hf
        refine s_aload_n C 3 dX6_read_215 rfl ?_
        refine gf_508 C 0 rfl rfl dX6_read_216 ?_
        refine s_iload_n C 1 dX6_read_219 rfl ?_
        refine s_iconst (v := 1) C dX6_read_220 (by decide) ?_
        refine s_iadd C dX6_read_221 ?_
        obtain ⟨v10, hiv10, ev10, hf⟩ := rd_inv hf
        refine s_iald C 1 rfl hiv10 dX6_read_222 ?_
        refine s_nmi ev10 ?_
        refine s_if_ne C 239 dX6_read_223 (by decide) (fun c11 => ?_) (fun c11 => ?_)
        · rw [if_neg c11] at hf
          refine s_iconst (v := 4) C dX6_read_239 (by decide) ?_
          exact rM_I hf (vp_nar_int _) hret dX6_read_240
        · rw [if_pos c11] at hf
          refine s_aload_n C 3 dX6_read_226 rfl ?_
          refine gf_508 C 0 rfl rfl dX6_read_227 ?_
          refine s_iload_n C 1 dX6_read_230 rfl ?_
          refine s_iconst (v := 2) C dX6_read_231 (by decide) ?_
          refine s_iadd C dX6_read_232 ?_
          obtain ⟨v12, hiv12, ev12, hf⟩ := rd_inv hf
          refine s_iald C 1 rfl hiv12 dX6_read_233 ?_
          refine s_nmi ev12 ?_
          refine s_bipush (v := 63) C dX6_read_234 (by decide) ?_
          refine s_icmp_le C 241 dX6_read_236 (by decide) (fun c13 => ?_) (fun c13 => ?_)
          · rw [if_pos c13] at hf
            refine s_aload_n C 3 dX6_read_241 rfl ?_
            refine s_iconst (v := 1) C dX6_read_242 (by decide) ?_
            obtain ⟨st15, wt16, sm17, ld18, ln19, er14, hf⟩ := bMv_inv hf
            refine s_cV_V (As := [.int 1]) (rest := []) (ci := 6) (q := 0) C (c_X6_begins l G A h a1 a2 a3 X 1 st wt sm ld ln _ _ _ _ _ er14) g_RX6_60 hd_X6_begins rfl ⟨Nat.le_of_ble_eq_true rfl, Nat.le_of_ble_eq_true rfl⟩ rfl rfl rfl (Nat.le_of_ble_eq_true rfl) ⟨Nat.le_of_ble_eq_true rfl, Nat.le_of_ble_eq_true rfl⟩ dX6_read_243 ?_
            refine s_aload_n C 3 dX6_read_246 rfl ?_
            refine s_iconst (v := 0) C dX6_read_247 (by decide) ?_
            refine s_iconst (v := 1) C dX6_read_248 (by decide) ?_
            obtain ⟨st21, wt22, sm23, ld24, ln25, er20, hf⟩ := bMv_inv hf
            refine s_cV_V (As := [.int 0, .int 1]) (rest := []) (ci := 6) (q := 0) C (c_X6_adds l G A h a1 a2 a3 X 0 1 st15 wt16 sm17 ld18 ln19 _ _ _ _ _ er20) g_RX6_64 hd_X6_adds rfl ⟨Nat.le_of_ble_eq_true rfl, Nat.le_of_ble_eq_true rfl⟩ rfl rfl rfl (Nat.le_of_ble_eq_true rfl) ⟨Nat.le_of_ble_eq_true rfl, Nat.le_of_ble_eq_true rfl⟩ dX6_read_249 ?_
            refine s_aload_n C 3 dX6_read_252 rfl ?_
            refine s_aload_n C 3 dX6_read_253 rfl ?_
            refine gf_508 C 0 rfl rfl dX6_read_254 ?_
            refine s_iload_n C 1 dX6_read_257 rfl ?_
            refine s_iconst (v := 2) C dX6_read_258 (by decide) ?_
            refine s_iadd C dX6_read_259 ?_
            obtain ⟨v26, hiv26, ev26, hf⟩ := rd_inv hf
            refine s_iald C 1 rfl hiv26 dX6_read_260 ?_
            refine s_nmi ev26 ?_
            refine s_iconst (v := 1) C dX6_read_261 (by decide) ?_
            obtain ⟨st28, wt29, sm30, ld31, ln32, er27, hf⟩ := bMv_inv hf
            refine s_cV_V (As := [.int v26, .int 1]) (rest := []) (ci := 6) (q := 0) C (c_X6_adds l G A h a1 a2 a3 X v26 1 st21 wt22 sm23 ld24 ln25 _ _ _ _ _ er27) g_RX6_64 hd_X6_adds rfl ⟨Nat.le_of_ble_eq_true rfl, Nat.le_of_ble_eq_true rfl⟩ rfl rfl rfl (Nat.le_of_ble_eq_true rfl) ⟨Nat.le_of_ble_eq_true rfl, Nat.le_of_ble_eq_true rfl⟩ dX6_read_262 ?_
            refine s_iconst (v := 0) C dX6_read_265 (by decide) ?_
            refine s_istore C [(5, .int 0), (4, .int y5), (3, .int y2), (2, .int v1), (0, .ref h), (1, .int x1)] dX6_read_266 (by decide) rfl ?_
            refine s_lv [4, 3, 2, 1, 0] rfl ?_
            exact B_268 _ _ _ _ _ _ _ _ _ _ hf
          · rw [if_neg c13] at hf
            refine s_iconst (v := 4) C dX6_read_239 (by decide) ?_
            exact rM_I hf (vp_nar_int _) hret dX6_read_240
  · rw [if_pos c4] at hf
    refine s_aload_n C 2 dX6_read_22 rfl ?_
    refine s_iconst (v := 0) C dX6_read_23 (by decide) ?_
    obtain ⟨st34, wt35, sm36, ld37, ln38, er33, hf⟩ := bMv_inv hf
    refine s_cV_V (As := [.int 0]) (rest := []) (ci := 6) (q := 0) C (c_X6_begins l G A h a1 a2 a3 X 0 st wt sm ld ln _ _ _ _ _ er33) g_RX6_60 hd_X6_begins rfl ⟨Nat.le_of_ble_eq_true rfl, Nat.le_of_ble_eq_true rfl⟩ rfl rfl rfl (Nat.le_of_ble_eq_true rfl) ⟨Nat.le_of_ble_eq_true rfl, Nat.le_of_ble_eq_true rfl⟩ dX6_read_24 ?_
    refine s_aload_n C 2 dX6_read_27 rfl ?_
    refine s_aload_n C 2 dX6_read_28 rfl ?_
    refine gf_508 C 0 rfl rfl dX6_read_29 ?_
    refine s_iload_n C 0 dX6_read_32 rfl ?_
    refine s_iconst (v := 1) C dX6_read_33 (by decide) ?_
    refine s_iadd C dX6_read_34 ?_
    obtain ⟨v39, hiv39, ev39, hf⟩ := rd_inv hf
    refine s_iald C 1 rfl hiv39 dX6_read_35 ?_
    refine s_nmi ev39 ?_
    refine s_iconst (v := 0) C dX6_read_36 (by decide) ?_
    obtain ⟨st41, wt42, sm43, ld44, ln45, er40, hf⟩ := bMv_inv hf
    refine s_cV_V (As := [.int v39, .int 0]) (rest := []) (ci := 6) (q := 0) C (c_X6_adds l G A h a1 a2 a3 X v39 0 st34 wt35 sm36 ld37 ln38 _ _ _ _ _ er40) g_RX6_64 hd_X6_adds rfl ⟨Nat.le_of_ble_eq_true rfl, Nat.le_of_ble_eq_true rfl⟩ rfl rfl rfl (Nat.le_of_ble_eq_true rfl) ⟨Nat.le_of_ble_eq_true rfl, Nat.le_of_ble_eq_true rfl⟩ dX6_read_37 ?_
    refine s_aload_n C 2 dX6_read_40 rfl ?_
    refine s_aload_n C 2 dX6_read_41 rfl ?_
    refine gf_508 C 0 rfl rfl dX6_read_42 ?_
    refine s_iload_n C 0 dX6_read_45 rfl ?_
    refine s_iconst (v := 2) C dX6_read_46 (by decide) ?_
    refine s_iadd C dX6_read_47 ?_
    obtain ⟨v46, hiv46, ev46, hf⟩ := rd_inv hf
    refine s_iald C 1 rfl hiv46 dX6_read_48 ?_
    refine s_nmi ev46 ?_
    refine s_iconst (v := 0) C dX6_read_49 (by decide) ?_
    obtain ⟨st48, wt49, sm50, ld51, ln52, er47, hf⟩ := bMv_inv hf
    refine s_cV_V (As := [.int v46, .int 0]) (rest := []) (ci := 6) (q := 0) C (c_X6_adds l G A h a1 a2 a3 X v46 0 st41 wt42 sm43 ld44 ln45 _ _ _ _ _ er47) g_RX6_64 hd_X6_adds rfl ⟨Nat.le_of_ble_eq_true rfl, Nat.le_of_ble_eq_true rfl⟩ rfl rfl rfl (Nat.le_of_ble_eq_true rfl) ⟨Nat.le_of_ble_eq_true rfl, Nat.le_of_ble_eq_true rfl⟩ dX6_read_50 ?_
    refine s_aload_n C 2 dX6_read_53 rfl ?_
    refine s_iconst (v := 0) C dX6_read_54 (by decide) ?_
    obtain ⟨r53, st54, wt55, sm56, ld57, ln58, er53, hf⟩ := bM_inv hf
    refine s_cV_L (As := [.int 0]) (rest := []) (ci := 6) (q := 0) C (c_X6_sumOf l G A h a1 a2 a3 X 0 st48 wt49 sm50 ld51 ln52 _ _ _ _ _ _ er53) g_RX6_68 hd_X6_sumOf rfl ⟨Nat.le_of_ble_eq_true rfl, Nat.le_of_ble_eq_true rfl⟩ rfl rfl rfl (Nat.le_of_ble_eq_true rfl) ⟨Nat.le_of_ble_eq_true rfl, Nat.le_of_ble_eq_true rfl⟩ dX6_read_55 ?_
    refine s_l2i C dX6_read_58 ?_
    obtain ⟨y59, ey59, hf⟩ := bd_inv hf
    refine s_nmi ey59 ?_
    refine s_istore C [(4, .int y59), (3, .int y2), (2, .int v1), (0, .ref h), (1, .int x1)] dX6_read_59 (by decide) rfl ?_
    refine s_iload_n C 2 dX6_read_61 rfl ?_
    refine s_bipush (v := 6) C dX6_read_62 (by decide) ?_
    refine s_icmp_ne C 155 dX6_read_64 (by decide) (fun c60 => ?_) (fun c60 => ?_)
    · rw [if_neg c60] at hf
      refine s_lv [3, 1] rfl ?_
      exact B_155 _ _ _ _ _ _ hf
    · rw [if_pos c60] at hf
      refine s_aload_n C 3 dX6_read_67 rfl ?_
      refine gf_508 C 0 rfl rfl dX6_read_68 ?_
      refine s_iload_n C 1 dX6_read_71 rfl ?_
      refine s_iconst (v := 1) C dX6_read_72 (by decide) ?_
      refine s_iadd C dX6_read_73 ?_
      obtain ⟨v61, hiv61, ev61, hf⟩ := rd_inv hf
      refine s_iald C 1 rfl hiv61 dX6_read_74 ?_
      refine s_nmi ev61 ?_
      refine s_if_eq C 91 dX6_read_75 (by decide) (fun c62 => ?_) (fun c62 => ?_)
      · rw [if_pos c62] at hf
        refine s_lv [3, 1, 0] rfl ?_
        exact B_91 _ _ _ _ _ _ _ hf
      · rw [if_neg c62] at hf
        refine s_aload_n C 3 dX6_read_78 rfl ?_
        refine gf_508 C 0 rfl rfl dX6_read_79 ?_
        refine s_iload_n C 1 dX6_read_82 rfl ?_
        refine s_iconst (v := 1) C dX6_read_83 (by decide) ?_
        refine s_iadd C dX6_read_84 ?_
        obtain ⟨v63, hiv63, ev63, hf⟩ := rd_inv hf
        refine s_iald C 1 rfl hiv63 dX6_read_85 ?_
        refine s_nmi ev63 ?_
        refine s_bipush (v := 16) C dX6_read_86 (by decide) ?_
        refine s_icmp_ne C 155 dX6_read_88 (by decide) (fun c64 => ?_) (fun c64 => ?_)
        · rw [if_neg c64] at hf
          refine s_lv [3, 1] rfl ?_
          exact B_155 _ _ _ _ _ _ hf
        · rw [if_pos c64] at hf
          refine s_lv [3, 1, 0] rfl ?_
          exact B_91 _ _ _ _ _ _ _ hf
theorem c_X6_read (l : Launch) (G : GG) (A : Nat → Prop) (h : Nat) (a1 : Nat) (a2 : Nat) (a3 : Nat) (X : va_W) (x1 : Int32) (st : Nat → Int32) (wt : Int32) (sm : Int64) (ld : Int32) (ln : Int32) (r0 : Int32) (st0 : Nat → Int32) (wt0 : Int32) (sm0 : Int64) (ld0 : Int32) (ln0 : Int32) (hf : f_X6_read x1 st wt sm ld ln = some (r0, st0, wt0, sm0, ld0, ln0)) : MI l yX6_read cX6_read 8 .int ({ frames := 1, cells := 0, slots := 0, locals := 25 } : Room) G A (wM G h a1 a2 a3 X st wt sm ld ln) [.ref h, .int x1] r0 (wM G h a1 a2 a3 X st0 wt0 sm0 ld0 ln0) :=
  e_I (by decide) (Nat.le_of_ble_eq_true rfl) (fun Γ C hret => k_X6_read C _ _ _ _ _ _ _ _ _ _ _ _ _ _ _ _ _ hf hret)
def f_X6_sendsAgain_109  : Nat → (Nat → Int32) → Int32 → Int64 → Int32 → Int32 → Option ((Nat → Int32) × Int32 × Int64 × Int32 × Int32)
  | 0, _, _, _, _, _ => none
  | fu + 1, st, wt, sm, ld, ln =>
    bM (f_X6_many 1 st wt sm ld ln) fun r32 st33 wt34 sm35 ld36 ln37 =>
    if r32 ≤ 0 then (some (st33, wt34, sm35, ld36, ln37))
    else (bMv (f_X6_remove 1 0 st33 wt34 sm35 ld36 ln37) fun st40 wt41 sm42 ld43 ln44 =>
    f_X6_sendsAgain_109 fu st40 wt41 sm42 ld43 ln44)
def f_X6_sendsAgain_92  : Nat → (Nat → Int32) → Int32 → Int64 → Int32 → Int32 → Option ((Nat → Int32) × Int32 × Int64 × Int32 × Int32)
  | 0, _, _, _, _, _ => none
  | fu + 1, st, wt, sm, ld, ln =>
    bM (f_X6_many 0 st wt sm ld ln) fun r19 st20 wt21 sm22 ld23 ln24 =>
    if r19 ≤ 0 then (f_X6_sendsAgain_109 FU st20 wt21 sm22 ld23 ln24)
    else (bMv (f_X6_remove 0 0 st20 wt21 sm22 ld23 ln24) fun st27 wt28 sm29 ld30 ln31 =>
    f_X6_sendsAgain_92 fu st27 wt28 sm29 ld30 ln31)
def f_X6_sendsAgain (x1 : Int32) (st : Nat → Int32) (wt : Int32) (sm : Int64) (ld : Int32) (ln : Int32) : Option ((Nat → Int32) × Int32 × Int64 × Int32 × Int32) :=
  bx (f_X6_endAt x1) fun r1 =>
  rd st 8000 6 fun v2 =>
  bd ((v2 + 1)) fun y3 =>
  wr st 8000 6 y3 fun st4 =>
  bd ((r1 + 5)) fun y5 =>
  rd st4 8000 y5 fun v6 =>
  bd ((v6 + 1)) fun y7 =>
  wr st4 8000 y5 y7 fun st8 =>
  wr st8 8000 (r1 + 4) 0 fun st9 =>
  rd st9 8000 (r1 + 2) fun v10 =>
  wr st9 8000 (r1 + 6) v10 fun st11 =>
  rd st11 8000 (r1 + 5) fun v12 =>
  if v12 = 4 then (wr st11 8000 (r1 + 5) 0 fun st14 =>
  wr st14 8000 4 5 fun st15 =>
  rd st15 8000 5 fun v16 =>
  bd ((v16 + 1)) fun y17 =>
  wr st15 8000 5 y17 fun st18 =>
  f_X6_sendsAgain_92 FU st18 wt sm ld ln)
  else (some (st11, wt, sm, ld, ln))
set_option maxHeartbeats 4000000 in
set_option maxRecDepth 100000 in
theorem k_X6_sendsAgain {l : Launch} {G : GG} {A : Nat → Prop} {Γ : Cx} (C : CX G A Γ cX6_sendsAgain RX6 ({ frames := 3, cells := 0, slots := 0, locals := 65 } : Room) 3) (h : Nat) (a1 : Nat) (a2 : Nat) (a3 : Nat) (X : va_W) (x1 : Int32) (st : Nat → Int32) (wt : Int32) (sm : Int64) (ld : Int32) (ln : Int32) (st0 : Nat → Int32) (wt0 : Int32) (sm0 : Int64) (ld0 : Int32) (ln0 : Int32) (hf : f_X6_sendsAgain x1 st wt sm ld ln = some (st0, wt0, sm0, ld0, ln0)) (hret : ∀ (pc : Nat) (lv : List (Nat × Value)), decode cX6_sendsAgain pc = .ok (.return_, 1) → St l G A Γ 0 0 (wM G h a1 a2 a3 X st0 wt0 sm0 ld0 ln0) pc lv []) : St l G A Γ 0 0 (wM G h a1 a2 a3 X st wt sm ld ln) 0 [(0, .ref h), (1, .int x1)] [] := by
  have B_109 : ∀  (fu : Nat) (st : Nat → Int32) (wt : Int32) (sm : Int64) (ld : Int32) (ln : Int32), f_X6_sendsAgain_109 fu st wt sm ld ln = some (st0, wt0, sm0, ld0, ln0) → St l G A Γ 0 0 (wM G h a1 a2 a3 X st wt sm ld ln) 109 [(0, .ref h)] [] := by
    intro fu
    induction fu with
    | zero => intro st wt sm ld ln hf ; rw [f_X6_sendsAgain_109] at hf; cases hf
    | succ fu ih =>
      intro st wt sm ld ln hf 
      rw [f_X6_sendsAgain_109] at hf
      refine s_aload_n C 0 dX6_sendsAgain_109 rfl ?_
      refine s_iconst (v := 1) C dX6_sendsAgain_110 (by decide) ?_
      obtain ⟨r32, st33, wt34, sm35, ld36, ln37, er32, hf⟩ := bM_inv hf
      refine s_cV_I (As := [.int 1]) (rest := []) (ci := 6) (q := 0) C (c_X6_many l G A h a1 a2 a3 X 1 st wt sm ld ln _ _ _ _ _ _ er32) g_RX6_78 hd_X6_many rfl ⟨Nat.le_of_ble_eq_true rfl, Nat.le_of_ble_eq_true rfl⟩ rfl rfl rfl (Nat.le_of_ble_eq_true rfl) ⟨Nat.le_of_ble_eq_true rfl, Nat.le_of_ble_eq_true rfl⟩ dX6_sendsAgain_111 ?_
      refine s_if_le C 126 dX6_sendsAgain_114 (by decide) (fun c38 => ?_) (fun c38 => ?_)
      · rw [if_pos c38] at hf
        exact rM_V hf hret dX6_sendsAgain_126
      · rw [if_neg c38] at hf
        refine s_aload_n C 0 dX6_sendsAgain_117 rfl ?_
        refine s_iconst (v := 1) C dX6_sendsAgain_118 (by decide) ?_
        refine s_iconst (v := 0) C dX6_sendsAgain_119 (by decide) ?_
        obtain ⟨st40, wt41, sm42, ld43, ln44, er39, hf⟩ := bMv_inv hf
        refine s_cV_V (As := [.int 1, .int 0]) (rest := []) (ci := 6) (q := 0) C (c_X6_remove l G A h a1 a2 a3 X 1 0 st33 wt34 sm35 ld36 ln37 _ _ _ _ _ er39) g_RX6_84 hd_X6_remove rfl ⟨Nat.le_of_ble_eq_true rfl, Nat.le_of_ble_eq_true rfl⟩ rfl rfl rfl (Nat.le_of_ble_eq_true rfl) ⟨Nat.le_of_ble_eq_true rfl, Nat.le_of_ble_eq_true rfl⟩ dX6_sendsAgain_120 ?_
        refine s_goto C 109 dX6_sendsAgain_123 (by decide) ?_
        exact ih _ _ _ _ _ hf
  have B_92 : ∀  (fu : Nat) (st : Nat → Int32) (wt : Int32) (sm : Int64) (ld : Int32) (ln : Int32), f_X6_sendsAgain_92 fu st wt sm ld ln = some (st0, wt0, sm0, ld0, ln0) → St l G A Γ 0 0 (wM G h a1 a2 a3 X st wt sm ld ln) 92 [(0, .ref h)] [] := by
    intro fu
    induction fu with
    | zero => intro st wt sm ld ln hf ; rw [f_X6_sendsAgain_92] at hf; cases hf
    | succ fu ih =>
      intro st wt sm ld ln hf 
      rw [f_X6_sendsAgain_92] at hf
      refine s_aload_n C 0 dX6_sendsAgain_92 rfl ?_
      refine s_iconst (v := 0) C dX6_sendsAgain_93 (by decide) ?_
      obtain ⟨r19, st20, wt21, sm22, ld23, ln24, er19, hf⟩ := bM_inv hf
      refine s_cV_I (As := [.int 0]) (rest := []) (ci := 6) (q := 0) C (c_X6_many l G A h a1 a2 a3 X 0 st wt sm ld ln _ _ _ _ _ _ er19) g_RX6_78 hd_X6_many rfl ⟨Nat.le_of_ble_eq_true rfl, Nat.le_of_ble_eq_true rfl⟩ rfl rfl rfl (Nat.le_of_ble_eq_true rfl) ⟨Nat.le_of_ble_eq_true rfl, Nat.le_of_ble_eq_true rfl⟩ dX6_sendsAgain_94 ?_
      refine s_if_le C 109 dX6_sendsAgain_97 (by decide) (fun c25 => ?_) (fun c25 => ?_)
      · rw [if_pos c25] at hf
        exact B_109 _ _ _ _ _ _ hf
      · rw [if_neg c25] at hf
        refine s_aload_n C 0 dX6_sendsAgain_100 rfl ?_
        refine s_iconst (v := 0) C dX6_sendsAgain_101 (by decide) ?_
        refine s_iconst (v := 0) C dX6_sendsAgain_102 (by decide) ?_
        obtain ⟨st27, wt28, sm29, ld30, ln31, er26, hf⟩ := bMv_inv hf
        refine s_cV_V (As := [.int 0, .int 0]) (rest := []) (ci := 6) (q := 0) C (c_X6_remove l G A h a1 a2 a3 X 0 0 st20 wt21 sm22 ld23 ln24 _ _ _ _ _ er26) g_RX6_84 hd_X6_remove rfl ⟨Nat.le_of_ble_eq_true rfl, Nat.le_of_ble_eq_true rfl⟩ rfl rfl rfl (Nat.le_of_ble_eq_true rfl) ⟨Nat.le_of_ble_eq_true rfl, Nat.le_of_ble_eq_true rfl⟩ dX6_sendsAgain_103 ?_
        refine s_goto C 92 dX6_sendsAgain_106 (by decide) ?_
        exact ih _ _ _ _ _ hf
  unfold f_X6_sendsAgain at hf
  refine s_iload_n C 1 dX6_sendsAgain_0 rfl ?_
  obtain ⟨r1, er1, hf⟩ := bx_inv hf
  refine s_cS_I (As := [.int x1]) (rest := []) C (c_X6_endAt l G A _ x1 _ er1) g_RX6_20 hd_X6_endAt rfl ⟨Nat.le_of_ble_eq_true rfl, Nat.le_of_ble_eq_true rfl⟩ rfl (Nat.le_of_ble_eq_true rfl) ⟨Nat.le_of_ble_eq_true rfl, Nat.le_of_ble_eq_true rfl⟩ dX6_sendsAgain_1 ?_
  refine s_istore_n C [(2, .int r1), (0, .ref h), (1, .int x1)] dX6_sendsAgain_4 (by decide) rfl ?_
  refine s_aload_n C 1 dX6_sendsAgain_5 rfl ?_
  refine gf_508 C 0 rfl rfl dX6_sendsAgain_6 ?_
  refine s_bipush (v := 6) C dX6_sendsAgain_9 (by decide) ?_
  refine s_dup2 C dX6_sendsAgain_11 rfl rfl ?_
  obtain ⟨v2, hiv2, ev2, hf⟩ := rd_inv hf
  refine s_iald C 1 rfl hiv2 dX6_sendsAgain_12 ?_
  refine s_nmi ev2 ?_
  refine s_iconst (v := 1) C dX6_sendsAgain_13 (by decide) ?_
  refine s_iadd C dX6_sendsAgain_14 ?_
  obtain ⟨y3, ey3, hf⟩ := bd_inv hf
  refine s_nmi ey3 ?_
  obtain ⟨st4, hist4, est4, hf⟩ := wr_inv hf
  refine s_iast C 1 rfl hist4 (wM G h a1 a2 a3 X st4 wt sm ld ln) (by rw [est4]; rfl) dX6_sendsAgain_15 ?_
  refine s_aload_n C 1 dX6_sendsAgain_16 rfl ?_
  refine gf_508 C 0 rfl rfl dX6_sendsAgain_17 ?_
  refine s_iload_n C 0 dX6_sendsAgain_20 rfl ?_
  refine s_iconst (v := 5) C dX6_sendsAgain_21 (by decide) ?_
  refine s_iadd C dX6_sendsAgain_22 ?_
  obtain ⟨y5, ey5, hf⟩ := bd_inv hf
  refine s_nmi ey5 ?_
  refine s_dup2 C dX6_sendsAgain_23 rfl rfl ?_
  obtain ⟨v6, hiv6, ev6, hf⟩ := rd_inv hf
  refine s_iald C 1 rfl hiv6 dX6_sendsAgain_24 ?_
  refine s_nmi ev6 ?_
  refine s_iconst (v := 1) C dX6_sendsAgain_25 (by decide) ?_
  refine s_iadd C dX6_sendsAgain_26 ?_
  obtain ⟨y7, ey7, hf⟩ := bd_inv hf
  refine s_nmi ey7 ?_
  obtain ⟨st8, hist8, est8, hf⟩ := wr_inv hf
  refine s_iast C 1 rfl hist8 (wM G h a1 a2 a3 X st8 wt sm ld ln) (by rw [est8]; rfl) dX6_sendsAgain_27 ?_
  refine s_aload_n C 1 dX6_sendsAgain_28 rfl ?_
  refine gf_508 C 0 rfl rfl dX6_sendsAgain_29 ?_
  refine s_iload_n C 0 dX6_sendsAgain_32 rfl ?_
  refine s_iconst (v := 4) C dX6_sendsAgain_33 (by decide) ?_
  refine s_iadd C dX6_sendsAgain_34 ?_
  refine s_iconst (v := 0) C dX6_sendsAgain_35 (by decide) ?_
  obtain ⟨st9, hist9, est9, hf⟩ := wr_inv hf
  refine s_iast C 1 rfl hist9 (wM G h a1 a2 a3 X st9 wt sm ld ln) (by rw [est9]; rfl) dX6_sendsAgain_36 ?_
  refine s_aload_n C 1 dX6_sendsAgain_37 rfl ?_
  refine gf_508 C 0 rfl rfl dX6_sendsAgain_38 ?_
  refine s_iload_n C 0 dX6_sendsAgain_41 rfl ?_
  refine s_bipush (v := 6) C dX6_sendsAgain_42 (by decide) ?_
  refine s_iadd C dX6_sendsAgain_44 ?_
  refine s_aload_n C 1 dX6_sendsAgain_45 rfl ?_
  refine gf_508 C 0 rfl rfl dX6_sendsAgain_46 ?_
  refine s_iload_n C 0 dX6_sendsAgain_49 rfl ?_
  refine s_iconst (v := 2) C dX6_sendsAgain_50 (by decide) ?_
  refine s_iadd C dX6_sendsAgain_51 ?_
  obtain ⟨v10, hiv10, ev10, hf⟩ := rd_inv hf
  refine s_iald C 1 rfl hiv10 dX6_sendsAgain_52 ?_
  refine s_nmi ev10 ?_
  obtain ⟨st11, hist11, est11, hf⟩ := wr_inv hf
  refine s_iast C 1 rfl hist11 (wM G h a1 a2 a3 X st11 wt sm ld ln) (by rw [est11]; rfl) dX6_sendsAgain_53 ?_
  refine s_aload_n C 1 dX6_sendsAgain_54 rfl ?_
  refine gf_508 C 0 rfl rfl dX6_sendsAgain_55 ?_
  refine s_iload_n C 0 dX6_sendsAgain_58 rfl ?_
  refine s_iconst (v := 5) C dX6_sendsAgain_59 (by decide) ?_
  refine s_iadd C dX6_sendsAgain_60 ?_
  obtain ⟨v12, hiv12, ev12, hf⟩ := rd_inv hf
  refine s_iald C 1 rfl hiv12 dX6_sendsAgain_61 ?_
  refine s_nmi ev12 ?_
  refine s_iconst (v := 4) C dX6_sendsAgain_62 (by decide) ?_
  refine s_icmp_ne C 126 dX6_sendsAgain_63 (by decide) (fun c13 => ?_) (fun c13 => ?_)
  · rw [if_neg c13] at hf
    exact rM_V hf hret dX6_sendsAgain_126
  · rw [if_pos c13] at hf
    refine s_aload_n C 1 dX6_sendsAgain_66 rfl ?_
    refine gf_508 C 0 rfl rfl dX6_sendsAgain_67 ?_
    refine s_iload_n C 0 dX6_sendsAgain_70 rfl ?_
    refine s_iconst (v := 5) C dX6_sendsAgain_71 (by decide) ?_
    refine s_iadd C dX6_sendsAgain_72 ?_
    refine s_iconst (v := 0) C dX6_sendsAgain_73 (by decide) ?_
    obtain ⟨st14, hist14, est14, hf⟩ := wr_inv hf
    refine s_iast C 1 rfl hist14 (wM G h a1 a2 a3 X st14 wt sm ld ln) (by rw [est14]; rfl) dX6_sendsAgain_74 ?_
    refine s_aload_n C 1 dX6_sendsAgain_75 rfl ?_
    refine gf_508 C 0 rfl rfl dX6_sendsAgain_76 ?_
    refine s_iconst (v := 4) C dX6_sendsAgain_79 (by decide) ?_
    refine s_iconst (v := 5) C dX6_sendsAgain_80 (by decide) ?_
    obtain ⟨st15, hist15, est15, hf⟩ := wr_inv hf
    refine s_iast C 1 rfl hist15 (wM G h a1 a2 a3 X st15 wt sm ld ln) (by rw [est15]; rfl) dX6_sendsAgain_81 ?_
    refine s_aload_n C 1 dX6_sendsAgain_82 rfl ?_
    refine gf_508 C 0 rfl rfl dX6_sendsAgain_83 ?_
    refine s_iconst (v := 5) C dX6_sendsAgain_86 (by decide) ?_
    refine s_dup2 C dX6_sendsAgain_87 rfl rfl ?_
    obtain ⟨v16, hiv16, ev16, hf⟩ := rd_inv hf
    refine s_iald C 1 rfl hiv16 dX6_sendsAgain_88 ?_
    refine s_nmi ev16 ?_
    refine s_iconst (v := 1) C dX6_sendsAgain_89 (by decide) ?_
    refine s_iadd C dX6_sendsAgain_90 ?_
    obtain ⟨y17, ey17, hf⟩ := bd_inv hf
    refine s_nmi ey17 ?_
    obtain ⟨st18, hist18, est18, hf⟩ := wr_inv hf
    refine s_iast C 1 rfl hist18 (wM G h a1 a2 a3 X st18 wt sm ld ln) (by rw [est18]; rfl) dX6_sendsAgain_91 ?_
    refine s_lv [1] rfl ?_
    exact B_92 _ _ _ _ _ _ hf
theorem c_X6_sendsAgain (l : Launch) (G : GG) (A : Nat → Prop) (h : Nat) (a1 : Nat) (a2 : Nat) (a3 : Nat) (X : va_W) (x1 : Int32) (st : Nat → Int32) (wt : Int32) (sm : Int64) (ld : Int32) (ln : Int32) (st0 : Nat → Int32) (wt0 : Int32) (sm0 : Int64) (ld0 : Int32) (ln0 : Int32) (hf : f_X6_sendsAgain x1 st wt sm ld ln = some (st0, wt0, sm0, ld0, ln0)) : MV l yX6_sendsAgain cX6_sendsAgain 3 ({ frames := 3, cells := 0, slots := 0, locals := 65 } : Room) G A (wM G h a1 a2 a3 X st wt sm ld ln) [.ref h, .int x1] (wM G h a1 a2 a3 X st0 wt0 sm0 ld0 ln0) :=
  e_V (by decide) (Nat.le_of_ble_eq_true rfl) (fun Γ C hret => k_X6_sendsAgain C _ _ _ _ _ _ _ _ _ _ _ _ _ _ _ _ hf hret)
def f_X6_comesWord_184  (x1 : Int32) (x2 : Int32) (x4 : Int32) (st : Nat → Int32) (wt : Int32) (sm : Int64) (ld : Int32) (ln : Int32) : Option ((Nat → Int32) × Int32 × Int64 × Int32 × Int32) :=
  if x2 = 3 then (rd st 8000 (x4 + 2) fun v29 =>
  if v29 ≤ 0 then (some (st, wt, sm, ld, ln))
  else (bMv (f_X6_sendsAgain x1 st wt sm ld ln) fun st32 wt33 sm34 ld35 ln36 =>
  some (st32, wt33, sm34, ld35, ln36)))
  else (some (st, wt, sm, ld, ln))
def f_X6_comesWord_183  (x1 : Int32) (x2 : Int32) (x4 : Int32) (s0 : Int32) (s1 : Int32) (st : Nat → Int32) (wt : Int32) (sm : Int64) (ld : Int32) (ln : Int32) : Option ((Nat → Int32) × Int32 × Int64 × Int32 × Int32) :=
  wr st 8000 s1 s0 fun st37 =>
  f_X6_comesWord_184 x1 x2 x4 st37 wt sm ld ln
def f_X6_comesWord (x1 : Int32) (x2 : Int32) (x3 : Int32) (st : Nat → Int32) (wt : Int32) (sm : Int64) (ld : Int32) (ln : Int32) : Option ((Nat → Int32) × Int32 × Int64 × Int32 × Int32) :=
  bx (f_X6_endAt x1) fun r1 =>
  rd st 8000 28 fun v2 =>
  bd ((v2 + 1)) fun y3 =>
  wr st 8000 28 y3 fun st4 =>
  rd st4 8000 (r1 + 1) fun v5 =>
  bx (f_X6_by64 ((v5 - 1) - x3)) fun r6 =>
  if r6 < 32 then (rd st4 8000 (r1 + 3) fun v8 =>
  bx (f_X6_by64 (x3 - v8)) fun r9 =>
  if r9 < 1 then (f_X6_comesWord_184 x1 x2 r1 st4 wt sm ld ln)
  else (rd st4 8000 (r1 + 2) fun v11 =>
  if v11 < r9 then (f_X6_comesWord_184 x1 x2 r1 st4 wt sm ld ln)
  else (bd ((r1 + 2)) fun y13 =>
  rd st4 8000 y13 fun v14 =>
  bd ((v14 - r9)) fun y15 =>
  wr st4 8000 y13 y15 fun st16 =>
  wr st16 8000 (r1 + 3) x3 fun st17 =>
  wr st17 8000 (r1 + 4) 0 fun st18 =>
  wr st18 8000 (r1 + 5) 0 fun st19 =>
  rd st19 8000 (r1 + 6) fun v20 =>
  rd st19 8000 (r1 + 2) fun v21 =>
  if v21 ≤ v20 then (rd st19 8000 (r1 + 2) fun v23 =>
  f_X6_comesWord_183 x1 x2 r1 v23 ((r1 + 6)) st19 wt sm ld ln)
  else (rd st19 8000 (r1 + 6) fun v24 =>
  f_X6_comesWord_183 x1 x2 r1 v24 ((r1 + 6)) st19 wt sm ld ln))))
  else (rd st4 8000 29 fun v25 =>
  bd ((v25 + 1)) fun y26 =>
  wr st4 8000 29 y26 fun st27 =>
  some (st27, wt, sm, ld, ln))
set_option maxHeartbeats 4000000 in
set_option maxRecDepth 100000 in
theorem k_X6_comesWord {l : Launch} {G : GG} {A : Nat → Prop} {Γ : Cx} (C : CX G A Γ cX6_comesWord RX6 ({ frames := 4, cells := 0, slots := 0, locals := 87 } : Room) 6) (h : Nat) (a1 : Nat) (a2 : Nat) (a3 : Nat) (X : va_W) (x1 : Int32) (x2 : Int32) (x3 : Int32) (st : Nat → Int32) (wt : Int32) (sm : Int64) (ld : Int32) (ln : Int32) (st0 : Nat → Int32) (wt0 : Int32) (sm0 : Int64) (ld0 : Int32) (ln0 : Int32) (hf : f_X6_comesWord x1 x2 x3 st wt sm ld ln = some (st0, wt0, sm0, ld0, ln0)) (hret : ∀ (pc : Nat) (lv : List (Nat × Value)), decode cX6_comesWord pc = .ok (.return_, 1) → St l G A Γ 0 0 (wM G h a1 a2 a3 X st0 wt0 sm0 ld0 ln0) pc lv []) : St l G A Γ 0 0 (wM G h a1 a2 a3 X st wt sm ld ln) 0 [(0, .ref h), (1, .int x1), (2, .int x2), (3, .int x3)] [] := by
  have B_184 : ∀  (x1 : Int32) (x2 : Int32) (x4 : Int32) (st : Nat → Int32) (wt : Int32) (sm : Int64) (ld : Int32) (ln : Int32), f_X6_comesWord_184 x1 x2 x4 st wt sm ld ln = some (st0, wt0, sm0, ld0, ln0) → St l G A Γ 0 0 (wM G h a1 a2 a3 X st wt sm ld ln) 184 [(0, .ref h), (1, .int x1), (2, .int x2), (4, .int x4)] [] := by
    intro  x1 x2 x4 st wt sm ld ln hf 
    unfold f_X6_comesWord_184 at hf
    refine s_iload_n C 2 dX6_comesWord_184 rfl ?_
    refine s_iconst (v := 3) C dX6_comesWord_185 (by decide) ?_
    refine s_icmp_ne C 206 dX6_comesWord_186 (by decide) (fun c28 => ?_) (fun c28 => ?_)
    · rw [if_neg c28] at hf
      exact rM_V hf hret dX6_comesWord_206
    · rw [if_pos c28] at hf
      refine s_aload_n C 0 dX6_comesWord_189 rfl ?_
      refine gf_508 C 0 rfl rfl dX6_comesWord_190 ?_
      refine s_iload C 3 dX6_comesWord_193 rfl ?_
      refine s_iconst (v := 2) C dX6_comesWord_195 (by decide) ?_
      refine s_iadd C dX6_comesWord_196 ?_
      obtain ⟨v29, hiv29, ev29, hf⟩ := rd_inv hf
      refine s_iald C 1 rfl hiv29 dX6_comesWord_197 ?_
      refine s_nmi ev29 ?_
      refine s_if_le C 206 dX6_comesWord_198 (by decide) (fun c30 => ?_) (fun c30 => ?_)
      · rw [if_pos c30] at hf
        exact rM_V hf hret dX6_comesWord_206
      · rw [if_neg c30] at hf
        refine s_aload_n C 0 dX6_comesWord_201 rfl ?_
        refine s_iload_n C 1 dX6_comesWord_202 rfl ?_
        obtain ⟨st32, wt33, sm34, ld35, ln36, er31, hf⟩ := bMv_inv hf
        refine s_cV_V (As := [.int x1]) (rest := []) (ci := 6) (q := 0) C (c_X6_sendsAgain l G A h a1 a2 a3 X x1 st wt sm ld ln _ _ _ _ _ er31) g_RX6_107 hd_X6_sendsAgain rfl ⟨Nat.le_of_ble_eq_true rfl, Nat.le_of_ble_eq_true rfl⟩ rfl rfl rfl (Nat.le_of_ble_eq_true rfl) ⟨Nat.le_of_ble_eq_true rfl, Nat.le_of_ble_eq_true rfl⟩ dX6_comesWord_203 ?_
        exact rM_V hf hret dX6_comesWord_206
  have B_183 : ∀  (x1 : Int32) (x2 : Int32) (x4 : Int32) (s0 : Int32) (s1 : Int32) (st : Nat → Int32) (wt : Int32) (sm : Int64) (ld : Int32) (ln : Int32), f_X6_comesWord_183 x1 x2 x4 s0 s1 st wt sm ld ln = some (st0, wt0, sm0, ld0, ln0) → St l G A Γ 0 0 (wM G h a1 a2 a3 X st wt sm ld ln) 183 [(0, .ref h), (1, .int x1), (2, .int x2), (4, .int x4)] [.int s0, .int s1, .ref a1] := by
    intro  x1 x2 x4 s0 s1 st wt sm ld ln hf 
    unfold f_X6_comesWord_183 at hf
    obtain ⟨st37, hist37, est37, hf⟩ := wr_inv hf
    refine s_iast C 1 rfl hist37 (wM G h a1 a2 a3 X st37 wt sm ld ln) (by rw [est37]; rfl) dX6_comesWord_183 ?_
    exact B_184 _ _ _ _ _ _ _ _ hf
  unfold f_X6_comesWord at hf
  refine s_iload_n C 1 dX6_comesWord_0 rfl ?_
  obtain ⟨r1, er1, hf⟩ := bx_inv hf
  refine s_cS_I (As := [.int x1]) (rest := []) C (c_X6_endAt l G A _ x1 _ er1) g_RX6_20 hd_X6_endAt rfl ⟨Nat.le_of_ble_eq_true rfl, Nat.le_of_ble_eq_true rfl⟩ rfl (Nat.le_of_ble_eq_true rfl) ⟨Nat.le_of_ble_eq_true rfl, Nat.le_of_ble_eq_true rfl⟩ dX6_comesWord_1 ?_
  refine s_istore C [(4, .int r1), (0, .ref h), (1, .int x1), (2, .int x2), (3, .int x3)] dX6_comesWord_4 (by decide) rfl ?_
  refine s_aload_n C 1 dX6_comesWord_6 rfl ?_
  refine gf_508 C 0 rfl rfl dX6_comesWord_7 ?_
  refine s_bipush (v := 28) C dX6_comesWord_10 (by decide) ?_
  refine s_dup2 C dX6_comesWord_12 rfl rfl ?_
  obtain ⟨v2, hiv2, ev2, hf⟩ := rd_inv hf
  refine s_iald C 1 rfl hiv2 dX6_comesWord_13 ?_
  refine s_nmi ev2 ?_
  refine s_iconst (v := 1) C dX6_comesWord_14 (by decide) ?_
  refine s_iadd C dX6_comesWord_15 ?_
  obtain ⟨y3, ey3, hf⟩ := bd_inv hf
  refine s_nmi ey3 ?_
  obtain ⟨st4, hist4, est4, hf⟩ := wr_inv hf
  refine s_iast C 1 rfl hist4 (wM G h a1 a2 a3 X st4 wt sm ld ln) (by rw [est4]; rfl) dX6_comesWord_16 ?_
  refine s_aload_n C 1 dX6_comesWord_17 rfl ?_
  refine gf_508 C 0 rfl rfl dX6_comesWord_18 ?_
  refine s_iload C 0 dX6_comesWord_21 rfl ?_
  refine s_iconst (v := 1) C dX6_comesWord_23 (by decide) ?_
  refine s_iadd C dX6_comesWord_24 ?_
  obtain ⟨v5, hiv5, ev5, hf⟩ := rd_inv hf
  refine s_iald C 1 rfl hiv5 dX6_comesWord_25 ?_
  refine s_nmi ev5 ?_
  refine s_iconst (v := 1) C dX6_comesWord_26 (by decide) ?_
  refine s_isub C dX6_comesWord_27 ?_
  refine s_iload_n C 4 dX6_comesWord_28 rfl ?_
  refine s_isub C dX6_comesWord_29 ?_
  obtain ⟨r6, er6, hf⟩ := bx_inv hf
  refine s_cS_I (As := [.int ((v5 - 1) - x3)]) (rest := []) C (c_X6_by64 l G A _ ((v5 - 1) - x3) _ er6) g_RX6_95 hd_X6_by64 rfl ⟨Nat.le_of_ble_eq_true rfl, Nat.le_of_ble_eq_true rfl⟩ rfl (Nat.le_of_ble_eq_true rfl) ⟨Nat.le_of_ble_eq_true rfl, Nat.le_of_ble_eq_true rfl⟩ dX6_comesWord_30 ?_
  refine s_bipush (v := 32) C dX6_comesWord_33 (by decide) ?_
  refine s_icmp_lt C 50 dX6_comesWord_35 (by decide) (fun c7 => ?_) (fun c7 => ?_)
  · rw [if_pos c7] at hf
    refine s_iload_n C 4 dX6_comesWord_50 rfl ?_
    refine s_aload_n C 1 dX6_comesWord_51 rfl ?_
    refine gf_508 C 0 rfl rfl dX6_comesWord_52 ?_
    refine s_iload C 0 dX6_comesWord_55 rfl ?_
    refine s_iconst (v := 3) C dX6_comesWord_57 (by decide) ?_
    refine s_iadd C dX6_comesWord_58 ?_
    obtain ⟨v8, hiv8, ev8, hf⟩ := rd_inv hf
    refine s_iald C 1 rfl hiv8 dX6_comesWord_59 ?_
    refine s_nmi ev8 ?_
    refine s_isub C dX6_comesWord_60 ?_
    obtain ⟨r9, er9, hf⟩ := bx_inv hf
    refine s_cS_I (As := [.int (x3 - v8)]) (rest := []) C (c_X6_by64 l G A _ (x3 - v8) _ er9) g_RX6_95 hd_X6_by64 rfl ⟨Nat.le_of_ble_eq_true rfl, Nat.le_of_ble_eq_true rfl⟩ rfl (Nat.le_of_ble_eq_true rfl) ⟨Nat.le_of_ble_eq_true rfl, Nat.le_of_ble_eq_true rfl⟩ dX6_comesWord_61 ?_
    refine s_istore C [(5, .int r9), (4, .int r1), (0, .ref h), (1, .int x1), (2, .int x2), (3, .int x3)] dX6_comesWord_64 (by decide) rfl ?_
    refine s_iload C 0 dX6_comesWord_66 rfl ?_
    refine s_iconst (v := 1) C dX6_comesWord_68 (by decide) ?_
    refine s_icmp_lt C 184 dX6_comesWord_69 (by decide) (fun c10 => ?_) (fun c10 => ?_)
    · rw [if_pos c10] at hf
      refine s_lv [2, 3, 4, 1] rfl ?_
      exact B_184 _ _ _ _ _ _ _ _ hf
    · rw [if_neg c10] at hf
      refine s_iload C 0 dX6_comesWord_72 rfl ?_
      refine s_aload_n C 2 dX6_comesWord_74 rfl ?_
      refine gf_508 C 0 rfl rfl dX6_comesWord_75 ?_
      refine s_iload C 1 dX6_comesWord_78 rfl ?_
      refine s_iconst (v := 2) C dX6_comesWord_80 (by decide) ?_
      refine s_iadd C dX6_comesWord_81 ?_
      obtain ⟨v11, hiv11, ev11, hf⟩ := rd_inv hf
      refine s_iald C 1 rfl hiv11 dX6_comesWord_82 ?_
      refine s_nmi ev11 ?_
      refine s_icmp_gt C 184 dX6_comesWord_83 (by decide) (fun c12 => ?_) (fun c12 => ?_)
      · rw [if_pos c12] at hf
        refine s_lv [2, 3, 4, 1] rfl ?_
        exact B_184 _ _ _ _ _ _ _ _ hf
      · rw [if_neg c12] at hf
        refine s_aload_n C 2 dX6_comesWord_86 rfl ?_
        refine gf_508 C 0 rfl rfl dX6_comesWord_87 ?_
        refine s_iload C 1 dX6_comesWord_90 rfl ?_
        refine s_iconst (v := 2) C dX6_comesWord_92 (by decide) ?_
        refine s_iadd C dX6_comesWord_93 ?_
        obtain ⟨y13, ey13, hf⟩ := bd_inv hf
        refine s_nmi ey13 ?_
        refine s_dup2 C dX6_comesWord_94 rfl rfl ?_
        obtain ⟨v14, hiv14, ev14, hf⟩ := rd_inv hf
        refine s_iald C 1 rfl hiv14 dX6_comesWord_95 ?_
        refine s_nmi ev14 ?_
        refine s_iload C 0 dX6_comesWord_96 rfl ?_
        refine s_isub C dX6_comesWord_98 ?_
        obtain ⟨y15, ey15, hf⟩ := bd_inv hf
        refine s_nmi ey15 ?_
        obtain ⟨st16, hist16, est16, hf⟩ := wr_inv hf
        refine s_iast C 1 rfl hist16 (wM G h a1 a2 a3 X st16 wt sm ld ln) (by rw [est16]; rfl) dX6_comesWord_99 ?_
        refine s_aload_n C 2 dX6_comesWord_100 rfl ?_
        refine gf_508 C 0 rfl rfl dX6_comesWord_101 ?_
        refine s_iload C 1 dX6_comesWord_104 rfl ?_
        refine s_iconst (v := 3) C dX6_comesWord_106 (by decide) ?_
        refine s_iadd C dX6_comesWord_107 ?_
        refine s_iload_n C 5 dX6_comesWord_108 rfl ?_
        obtain ⟨st17, hist17, est17, hf⟩ := wr_inv hf
        refine s_iast C 1 rfl hist17 (wM G h a1 a2 a3 X st17 wt sm ld ln) (by rw [est17]; rfl) dX6_comesWord_109 ?_
        refine s_aload_n C 2 dX6_comesWord_110 rfl ?_
        refine gf_508 C 0 rfl rfl dX6_comesWord_111 ?_
        refine s_iload C 1 dX6_comesWord_114 rfl ?_
        refine s_iconst (v := 4) C dX6_comesWord_116 (by decide) ?_
        refine s_iadd C dX6_comesWord_117 ?_
        refine s_iconst (v := 0) C dX6_comesWord_118 (by decide) ?_
        obtain ⟨st18, hist18, est18, hf⟩ := wr_inv hf
        refine s_iast C 1 rfl hist18 (wM G h a1 a2 a3 X st18 wt sm ld ln) (by rw [est18]; rfl) dX6_comesWord_119 ?_
        refine s_aload_n C 2 dX6_comesWord_120 rfl ?_
        refine gf_508 C 0 rfl rfl dX6_comesWord_121 ?_
        refine s_iload C 1 dX6_comesWord_124 rfl ?_
        refine s_iconst (v := 5) C dX6_comesWord_126 (by decide) ?_
        refine s_iadd C dX6_comesWord_127 ?_
        refine s_iconst (v := 0) C dX6_comesWord_128 (by decide) ?_
        obtain ⟨st19, hist19, est19, hf⟩ := wr_inv hf
        refine s_iast C 1 rfl hist19 (wM G h a1 a2 a3 X st19 wt sm ld ln) (by rw [est19]; rfl) dX6_comesWord_129 ?_
        refine s_aload_n C 2 dX6_comesWord_130 rfl ?_
        refine gf_508 C 0 rfl rfl dX6_comesWord_131 ?_
        refine s_iload C 1 dX6_comesWord_134 rfl ?_
        refine s_bipush (v := 6) C dX6_comesWord_136 (by decide) ?_
        refine s_iadd C dX6_comesWord_138 ?_
        refine s_aload_n C 2 dX6_comesWord_139 rfl ?_
        refine gf_508 C 0 rfl rfl dX6_comesWord_140 ?_
        refine s_iload C 1 dX6_comesWord_143 rfl ?_
        refine s_bipush (v := 6) C dX6_comesWord_145 (by decide) ?_
        refine s_iadd C dX6_comesWord_147 ?_
        obtain ⟨v20, hiv20, ev20, hf⟩ := rd_inv hf
        refine s_iald C 1 rfl hiv20 dX6_comesWord_148 ?_
        refine s_nmi ev20 ?_
        refine s_aload_n C 2 dX6_comesWord_149 rfl ?_
        refine gf_508 C 0 rfl rfl dX6_comesWord_150 ?_
        refine s_iload C 1 dX6_comesWord_153 rfl ?_
        refine s_iconst (v := 2) C dX6_comesWord_155 (by decide) ?_
        refine s_iadd C dX6_comesWord_156 ?_
        obtain ⟨v21, hiv21, ev21, hf⟩ := rd_inv hf
        refine s_iald C 1 rfl hiv21 dX6_comesWord_157 ?_
        refine s_nmi ev21 ?_
        refine s_icmp_ge C 174 dX6_comesWord_158 (by decide) (fun c22 => ?_) (fun c22 => ?_)
        · rw [if_pos c22] at hf
          refine s_aload_n C 2 dX6_comesWord_174 rfl ?_
          refine gf_508 C 0 rfl rfl dX6_comesWord_175 ?_
          refine s_iload C 1 dX6_comesWord_178 rfl ?_
          refine s_iconst (v := 2) C dX6_comesWord_180 (by decide) ?_
          refine s_iadd C dX6_comesWord_181 ?_
          obtain ⟨v23, hiv23, ev23, hf⟩ := rd_inv hf
          refine s_iald C 1 rfl hiv23 dX6_comesWord_182 ?_
          refine s_nmi ev23 ?_
          refine s_lv [2, 3, 4, 1] rfl ?_
          exact B_183 _ _ _ _ _ _ _ _ _ _ hf
        · rw [if_neg c22] at hf
          refine s_aload_n C 2 dX6_comesWord_161 rfl ?_
          refine gf_508 C 0 rfl rfl dX6_comesWord_162 ?_
          refine s_iload C 1 dX6_comesWord_165 rfl ?_
          refine s_bipush (v := 6) C dX6_comesWord_167 (by decide) ?_
          refine s_iadd C dX6_comesWord_169 ?_
          obtain ⟨v24, hiv24, ev24, hf⟩ := rd_inv hf
          refine s_iald C 1 rfl hiv24 dX6_comesWord_170 ?_
          refine s_nmi ev24 ?_
          refine s_goto C 183 dX6_comesWord_171 (by decide) ?_
          refine s_lv [2, 3, 4, 1] rfl ?_
          exact B_183 _ _ _ _ _ _ _ _ _ _ hf
  · rw [if_neg c7] at hf
    refine s_aload_n C 1 dX6_comesWord_38 rfl ?_
    refine gf_508 C 0 rfl rfl dX6_comesWord_39 ?_
    refine s_bipush (v := 29) C dX6_comesWord_42 (by decide) ?_
    refine s_dup2 C dX6_comesWord_44 rfl rfl ?_
    obtain ⟨v25, hiv25, ev25, hf⟩ := rd_inv hf
    refine s_iald C 1 rfl hiv25 dX6_comesWord_45 ?_
    refine s_nmi ev25 ?_
    refine s_iconst (v := 1) C dX6_comesWord_46 (by decide) ?_
    refine s_iadd C dX6_comesWord_47 ?_
    obtain ⟨y26, ey26, hf⟩ := bd_inv hf
    refine s_nmi ey26 ?_
    obtain ⟨st27, hist27, est27, hf⟩ := wr_inv hf
    refine s_iast C 1 rfl hist27 (wM G h a1 a2 a3 X st27 wt sm ld ln) (by rw [est27]; rfl) dX6_comesWord_48 ?_
    exact rM_V hf hret dX6_comesWord_49
theorem c_X6_comesWord (l : Launch) (G : GG) (A : Nat → Prop) (h : Nat) (a1 : Nat) (a2 : Nat) (a3 : Nat) (X : va_W) (x1 : Int32) (x2 : Int32) (x3 : Int32) (st : Nat → Int32) (wt : Int32) (sm : Int64) (ld : Int32) (ln : Int32) (st0 : Nat → Int32) (wt0 : Int32) (sm0 : Int64) (ld0 : Int32) (ln0 : Int32) (hf : f_X6_comesWord x1 x2 x3 st wt sm ld ln = some (st0, wt0, sm0, ld0, ln0)) : MV l yX6_comesWord cX6_comesWord 6 ({ frames := 4, cells := 0, slots := 0, locals := 87 } : Room) G A (wM G h a1 a2 a3 X st wt sm ld ln) [.ref h, .int x1, .int x2, .int x3] (wM G h a1 a2 a3 X st0 wt0 sm0 ld0 ln0) :=
  e_V (by decide) (Nat.le_of_ble_eq_true rfl) (fun Γ C hret => k_X6_comesWord C _ _ _ _ _ _ _ _ _ _ _ _ _ _ _ _ _ _ hf hret)
def f_X6_dropped (x1 : Int32) (st : Nat → Int32) (wt : Int32) (sm : Int64) (ld : Int32) (ln : Int32) : Option ((Nat → Int32) × Int32 × Int64 × Int32 × Int32) :=
  bx (f_X6_endAt x1) fun r1 =>
  rd st 8000 (r1 + 8) fun v2 =>
  if v2 = 0 then (wr st 8000 (r1 + 8) 1 fun st4 =>
  wr st4 8000 (r1 + 10) 1 fun st5 =>
  some (st5, wt, sm, ld, ln))
  else (some (st, wt, sm, ld, ln))
set_option maxHeartbeats 4000000 in
set_option maxRecDepth 100000 in
theorem k_X6_dropped {l : Launch} {G : GG} {A : Nat → Prop} {Γ : Cx} (C : CX G A Γ cX6_dropped RX6 ({ frames := 1, cells := 0, slots := 0, locals := 20 } : Room) 3) (h : Nat) (a1 : Nat) (a2 : Nat) (a3 : Nat) (X : va_W) (x1 : Int32) (st : Nat → Int32) (wt : Int32) (sm : Int64) (ld : Int32) (ln : Int32) (st0 : Nat → Int32) (wt0 : Int32) (sm0 : Int64) (ld0 : Int32) (ln0 : Int32) (hf : f_X6_dropped x1 st wt sm ld ln = some (st0, wt0, sm0, ld0, ln0)) (hret : ∀ (pc : Nat) (lv : List (Nat × Value)), decode cX6_dropped pc = .ok (.return_, 1) → St l G A Γ 0 0 (wM G h a1 a2 a3 X st0 wt0 sm0 ld0 ln0) pc lv []) : St l G A Γ 0 0 (wM G h a1 a2 a3 X st wt sm ld ln) 0 [(0, .ref h), (1, .int x1)] [] := by
  unfold f_X6_dropped at hf
  refine s_iload_n C 1 dX6_dropped_0 rfl ?_
  obtain ⟨r1, er1, hf⟩ := bx_inv hf
  refine s_cS_I (As := [.int x1]) (rest := []) C (c_X6_endAt l G A _ x1 _ er1) g_RX6_20 hd_X6_endAt rfl ⟨Nat.le_of_ble_eq_true rfl, Nat.le_of_ble_eq_true rfl⟩ rfl (Nat.le_of_ble_eq_true rfl) ⟨Nat.le_of_ble_eq_true rfl, Nat.le_of_ble_eq_true rfl⟩ dX6_dropped_1 ?_
  refine s_istore_n C [(2, .int r1), (0, .ref h), (1, .int x1)] dX6_dropped_4 (by decide) rfl ?_
  refine s_aload_n C 1 dX6_dropped_5 rfl ?_
  refine gf_508 C 0 rfl rfl dX6_dropped_6 ?_
  refine s_iload_n C 0 dX6_dropped_9 rfl ?_
  refine s_bipush (v := 8) C dX6_dropped_10 (by decide) ?_
  refine s_iadd C dX6_dropped_12 ?_
  obtain ⟨v2, hiv2, ev2, hf⟩ := rd_inv hf
  refine s_iald C 1 rfl hiv2 dX6_dropped_13 ?_
  refine s_nmi ev2 ?_
  refine s_if_ne C 37 dX6_dropped_14 (by decide) (fun c3 => ?_) (fun c3 => ?_)
  · rw [if_neg c3] at hf
    exact rM_V hf hret dX6_dropped_37
  · rw [if_pos c3] at hf
    refine s_aload_n C 1 dX6_dropped_17 rfl ?_
    refine gf_508 C 0 rfl rfl dX6_dropped_18 ?_
    refine s_iload_n C 0 dX6_dropped_21 rfl ?_
    refine s_bipush (v := 8) C dX6_dropped_22 (by decide) ?_
    refine s_iadd C dX6_dropped_24 ?_
    refine s_iconst (v := 1) C dX6_dropped_25 (by decide) ?_
    obtain ⟨st4, hist4, est4, hf⟩ := wr_inv hf
    refine s_iast C 1 rfl hist4 (wM G h a1 a2 a3 X st4 wt sm ld ln) (by rw [est4]; rfl) dX6_dropped_26 ?_
    refine s_aload_n C 1 dX6_dropped_27 rfl ?_
    refine gf_508 C 0 rfl rfl dX6_dropped_28 ?_
    refine s_iload_n C 0 dX6_dropped_31 rfl ?_
    refine s_bipush (v := 10) C dX6_dropped_32 (by decide) ?_
    refine s_iadd C dX6_dropped_34 ?_
    refine s_iconst (v := 1) C dX6_dropped_35 (by decide) ?_
    obtain ⟨st5, hist5, est5, hf⟩ := wr_inv hf
    refine s_iast C 1 rfl hist5 (wM G h a1 a2 a3 X st5 wt sm ld ln) (by rw [est5]; rfl) dX6_dropped_36 ?_
    exact rM_V hf hret dX6_dropped_37
theorem c_X6_dropped (l : Launch) (G : GG) (A : Nat → Prop) (h : Nat) (a1 : Nat) (a2 : Nat) (a3 : Nat) (X : va_W) (x1 : Int32) (st : Nat → Int32) (wt : Int32) (sm : Int64) (ld : Int32) (ln : Int32) (st0 : Nat → Int32) (wt0 : Int32) (sm0 : Int64) (ld0 : Int32) (ln0 : Int32) (hf : f_X6_dropped x1 st wt sm ld ln = some (st0, wt0, sm0, ld0, ln0)) : MV l yX6_dropped cX6_dropped 3 ({ frames := 1, cells := 0, slots := 0, locals := 20 } : Room) G A (wM G h a1 a2 a3 X st wt sm ld ln) [.ref h, .int x1] (wM G h a1 a2 a3 X st0 wt0 sm0 ld0 ln0) :=
  e_V (by decide) (Nat.le_of_ble_eq_true rfl) (fun Γ C hret => k_X6_dropped C _ _ _ _ _ _ _ _ _ _ _ _ _ _ _ _ hf hret)
def f_X6_handsUp_96  (x3 : Int32) (st : Nat → Int32) (wt : Int32) (sm : Int64) (ld : Int32) (ln : Int32) : Option ((Nat → Int32) × Int32 × Int64 × Int32 × Int32) :=
  bd ((x3 + 11)) fun y9 =>
  rd st 8000 y9 fun v10 =>
  bd ((v10 + 1)) fun y11 =>
  wr st 8000 y9 y11 fun st12 =>
  some (st12, wt, sm, ld, ln)
def f_X6_handsUp_53  : Nat → Int32 → Int32 → Int32 → Int32 → (Nat → Int32) → Int32 → Int64 → Int32 → Int32 → Option ((Nat → Int32) × Int32 × Int64 × Int32 × Int32)
  | 0, _, _, _, _, _, _, _, _, _ => none
  | fu + 1, x2, x3, x4, x5, st, wt, sm, ld, ln =>
    rd st 8000 x4 fun v13 =>
    if v13 ≤ x5 then (f_X6_handsUp_96 x3 st wt sm ld ln)
    else (rd st 8000 (((x2 + 2) + 3) + x5) fun v15 =>
    wr st 8000 ((x4 + 1) + x5) v15 fun st16 =>
    bd (x5 + 1) fun y17 =>
    f_X6_handsUp_53 fu x2 x3 x4 y17 st16 wt sm ld ln)
def f_X6_handsUp (x1 : Int32) (x2 : Int32) (st : Nat → Int32) (wt : Int32) (sm : Int64) (ld : Int32) (ln : Int32) : Option ((Nat → Int32) × Int32 × Int64 × Int32 × Int32) :=
  bx (f_X6_endAt x1) fun r1 =>
  rd st 8000 (r1 + 11) fun v2 =>
  if 60 ≤ v2 then (f_X6_handsUp_96 r1 st wt sm ld ln)
  else (rd st 8000 (r1 + 11) fun v4 =>
  bx (f_X6_upAt x1 v4) fun r5 =>
  rd st 8000 x2 fun v6 =>
  bd ((v6 - 8)) fun y7 =>
  wr st 8000 r5 y7 fun st8 =>
  f_X6_handsUp_53 FU x2 r1 r5 0 st8 wt sm ld ln)
set_option maxHeartbeats 4000000 in
set_option maxRecDepth 100000 in
theorem k_X6_handsUp {l : Launch} {G : GG} {A : Nat → Prop} {Γ : Cx} (C : CX G A Γ cX6_handsUp RX6 ({ frames := 1, cells := 0, slots := 0, locals := 21 } : Room) 6) (h : Nat) (a1 : Nat) (a2 : Nat) (a3 : Nat) (X : va_W) (x1 : Int32) (x2 : Int32) (st : Nat → Int32) (wt : Int32) (sm : Int64) (ld : Int32) (ln : Int32) (st0 : Nat → Int32) (wt0 : Int32) (sm0 : Int64) (ld0 : Int32) (ln0 : Int32) (hf : f_X6_handsUp x1 x2 st wt sm ld ln = some (st0, wt0, sm0, ld0, ln0)) (hret : ∀ (pc : Nat) (lv : List (Nat × Value)), decode cX6_handsUp pc = .ok (.return_, 1) → St l G A Γ 0 0 (wM G h a1 a2 a3 X st0 wt0 sm0 ld0 ln0) pc lv []) : St l G A Γ 0 0 (wM G h a1 a2 a3 X st wt sm ld ln) 0 [(0, .ref h), (1, .int x1), (2, .int x2)] [] := by
  have B_96 : ∀  (x3 : Int32) (st : Nat → Int32) (wt : Int32) (sm : Int64) (ld : Int32) (ln : Int32), f_X6_handsUp_96 x3 st wt sm ld ln = some (st0, wt0, sm0, ld0, ln0) → St l G A Γ 0 0 (wM G h a1 a2 a3 X st wt sm ld ln) 96 [(0, .ref h), (3, .int x3)] [] := by
    intro  x3 st wt sm ld ln hf 
    unfold f_X6_handsUp_96 at hf
    refine s_aload_n C 0 dX6_handsUp_96 rfl ?_
    refine gf_508 C 0 rfl rfl dX6_handsUp_97 ?_
    refine s_iload_n C 1 dX6_handsUp_100 rfl ?_
    refine s_bipush (v := 11) C dX6_handsUp_101 (by decide) ?_
    refine s_iadd C dX6_handsUp_103 ?_
    obtain ⟨y9, ey9, hf⟩ := bd_inv hf
    refine s_nmi ey9 ?_
    refine s_dup2 C dX6_handsUp_104 rfl rfl ?_
    obtain ⟨v10, hiv10, ev10, hf⟩ := rd_inv hf
    refine s_iald C 1 rfl hiv10 dX6_handsUp_105 ?_
    refine s_nmi ev10 ?_
    refine s_iconst (v := 1) C dX6_handsUp_106 (by decide) ?_
    refine s_iadd C dX6_handsUp_107 ?_
    obtain ⟨y11, ey11, hf⟩ := bd_inv hf
    refine s_nmi ey11 ?_
    obtain ⟨st12, hist12, est12, hf⟩ := wr_inv hf
    refine s_iast C 1 rfl hist12 (wM G h a1 a2 a3 X st12 wt sm ld ln) (by rw [est12]; rfl) dX6_handsUp_108 ?_
    exact rM_V hf hret dX6_handsUp_109
  have B_53 : ∀  (fu : Nat) (x2 : Int32) (x3 : Int32) (x4 : Int32) (x5 : Int32) (st : Nat → Int32) (wt : Int32) (sm : Int64) (ld : Int32) (ln : Int32), f_X6_handsUp_53 fu x2 x3 x4 x5 st wt sm ld ln = some (st0, wt0, sm0, ld0, ln0) → St l G A Γ 0 0 (wM G h a1 a2 a3 X st wt sm ld ln) 53 [(0, .ref h), (2, .int x2), (3, .int x3), (4, .int x4), (5, .int x5)] [] := by
    intro fu
    induction fu with
    | zero => intro x2 x3 x4 x5 st wt sm ld ln hf ; rw [f_X6_handsUp_53] at hf; cases hf
    | succ fu ih =>
      intro x2 x3 x4 x5 st wt sm ld ln hf 
      rw [f_X6_handsUp_53] at hf
      refine s_iload C 4 dX6_handsUp_53 rfl ?_
      refine s_aload_n C 0 dX6_handsUp_55 rfl ?_
      refine gf_508 C 0 rfl rfl dX6_handsUp_56 ?_
      refine s_iload C 3 dX6_handsUp_59 rfl ?_
      obtain ⟨v13, hiv13, ev13, hf⟩ := rd_inv hf
      refine s_iald C 1 rfl hiv13 dX6_handsUp_61 ?_
      refine s_nmi ev13 ?_
      refine s_icmp_ge C 96 dX6_handsUp_62 (by decide) (fun c14 => ?_) (fun c14 => ?_)
      · rw [if_pos c14] at hf
        refine s_lv [0, 2] rfl ?_
        exact B_96 _ _ _ _ _ _ hf
      · rw [if_neg c14] at hf
        refine s_aload_n C 0 dX6_handsUp_65 rfl ?_
        refine gf_508 C 0 rfl rfl dX6_handsUp_66 ?_
        refine s_iload C 3 dX6_handsUp_69 rfl ?_
        refine s_iconst (v := 1) C dX6_handsUp_71 (by decide) ?_
        refine s_iadd C dX6_handsUp_72 ?_
        refine s_iload C 4 dX6_handsUp_73 rfl ?_
        refine s_iadd C dX6_handsUp_75 ?_
        refine s_aload_n C 0 dX6_handsUp_76 rfl ?_
        refine gf_508 C 0 rfl rfl dX6_handsUp_77 ?_
        refine s_iload_n C 1 dX6_handsUp_80 rfl ?_
        refine s_iconst (v := 2) C dX6_handsUp_81 (by decide) ?_
        refine s_iadd C dX6_handsUp_82 ?_
        refine s_iconst (v := 3) C dX6_handsUp_83 (by decide) ?_
        refine s_iadd C dX6_handsUp_84 ?_
        refine s_iload C 4 dX6_handsUp_85 rfl ?_
        refine s_iadd C dX6_handsUp_87 ?_
        obtain ⟨v15, hiv15, ev15, hf⟩ := rd_inv hf
        refine s_iald C 1 rfl hiv15 dX6_handsUp_88 ?_
        refine s_nmi ev15 ?_
        obtain ⟨st16, hist16, est16, hf⟩ := wr_inv hf
        refine s_iast C 1 rfl hist16 (wM G h a1 a2 a3 X st16 wt sm ld ln) (by rw [est16]; rfl) dX6_handsUp_89 ?_
        obtain ⟨y17, ey17, hf⟩ := bd_inv hf
        refine s_iinc (v := y17) C 4 [(5, .int y17), (0, .ref h), (2, .int x2), (3, .int x3), (4, .int x4)] dX6_handsUp_90 rfl (by rw [ey17]; rfl) (by decide) rfl ?_
        refine s_goto C 53 dX6_handsUp_93 (by decide) ?_
        refine s_lv [1, 2, 3, 4, 0] rfl ?_
        exact ih _ _ _ _ _ _ _ _ _ hf
  unfold f_X6_handsUp at hf
  refine s_iload_n C 1 dX6_handsUp_0 rfl ?_
  obtain ⟨r1, er1, hf⟩ := bx_inv hf
  refine s_cS_I (As := [.int x1]) (rest := []) C (c_X6_endAt l G A _ x1 _ er1) g_RX6_20 hd_X6_endAt rfl ⟨Nat.le_of_ble_eq_true rfl, Nat.le_of_ble_eq_true rfl⟩ rfl (Nat.le_of_ble_eq_true rfl) ⟨Nat.le_of_ble_eq_true rfl, Nat.le_of_ble_eq_true rfl⟩ dX6_handsUp_1 ?_
  refine s_istore_n C [(3, .int r1), (0, .ref h), (1, .int x1), (2, .int x2)] dX6_handsUp_4 (by decide) rfl ?_
  refine s_aload_n C 1 dX6_handsUp_5 rfl ?_
  refine gf_508 C 0 rfl rfl dX6_handsUp_6 ?_
  refine s_iload_n C 0 dX6_handsUp_9 rfl ?_
  refine s_bipush (v := 11) C dX6_handsUp_10 (by decide) ?_
  refine s_iadd C dX6_handsUp_12 ?_
  obtain ⟨v2, hiv2, ev2, hf⟩ := rd_inv hf
  refine s_iald C 1 rfl hiv2 dX6_handsUp_13 ?_
  refine s_nmi ev2 ?_
  refine s_bipush (v := 60) C dX6_handsUp_14 (by decide) ?_
  refine s_icmp_ge C 96 dX6_handsUp_16 (by decide) (fun c3 => ?_) (fun c3 => ?_)
  · rw [if_pos c3] at hf
    refine s_lv [1, 0] rfl ?_
    exact B_96 _ _ _ _ _ _ hf
  · rw [if_neg c3] at hf
    refine s_iload_n C 2 dX6_handsUp_19 rfl ?_
    refine s_aload_n C 1 dX6_handsUp_20 rfl ?_
    refine gf_508 C 0 rfl rfl dX6_handsUp_21 ?_
    refine s_iload_n C 0 dX6_handsUp_24 rfl ?_
    refine s_bipush (v := 11) C dX6_handsUp_25 (by decide) ?_
    refine s_iadd C dX6_handsUp_27 ?_
    obtain ⟨v4, hiv4, ev4, hf⟩ := rd_inv hf
    refine s_iald C 1 rfl hiv4 dX6_handsUp_28 ?_
    refine s_nmi ev4 ?_
    obtain ⟨r5, er5, hf⟩ := bx_inv hf
    refine s_cS_I (As := [.int x1, .int v4]) (rest := []) C (c_X6_upAt l G A _ x1 v4 _ er5) g_RX6_116 hd_X6_upAt rfl ⟨Nat.le_of_ble_eq_true rfl, Nat.le_of_ble_eq_true rfl⟩ rfl (Nat.le_of_ble_eq_true rfl) ⟨Nat.le_of_ble_eq_true rfl, Nat.le_of_ble_eq_true rfl⟩ dX6_handsUp_29 ?_
    refine s_istore C [(4, .int r5), (3, .int r1), (0, .ref h), (1, .int x1), (2, .int x2)] dX6_handsUp_32 (by decide) rfl ?_
    refine s_aload_n C 2 dX6_handsUp_34 rfl ?_
    refine gf_508 C 0 rfl rfl dX6_handsUp_35 ?_
    refine s_iload C 0 dX6_handsUp_38 rfl ?_
    refine s_aload_n C 2 dX6_handsUp_40 rfl ?_
    refine gf_508 C 0 rfl rfl dX6_handsUp_41 ?_
    refine s_iload_n C 4 dX6_handsUp_44 rfl ?_
    obtain ⟨v6, hiv6, ev6, hf⟩ := rd_inv hf
    refine s_iald C 1 rfl hiv6 dX6_handsUp_45 ?_
    refine s_nmi ev6 ?_
    refine s_bipush (v := 8) C dX6_handsUp_46 (by decide) ?_
    refine s_isub C dX6_handsUp_48 ?_
    obtain ⟨y7, ey7, hf⟩ := bd_inv hf
    refine s_nmi ey7 ?_
    obtain ⟨st8, hist8, est8, hf⟩ := wr_inv hf
    refine s_iast C 1 rfl hist8 (wM G h a1 a2 a3 X st8 wt sm ld ln) (by rw [est8]; rfl) dX6_handsUp_49 ?_
    refine s_iconst (v := 0) C dX6_handsUp_50 (by decide) ?_
    refine s_istore C [(5, .int 0), (4, .int r5), (3, .int r1), (0, .ref h), (1, .int x1), (2, .int x2)] dX6_handsUp_51 (by decide) rfl ?_
    refine s_lv [3, 5, 2, 1, 0] rfl ?_
    exact B_53 _ _ _ _ _ _ _ _ _ _ hf
theorem c_X6_handsUp (l : Launch) (G : GG) (A : Nat → Prop) (h : Nat) (a1 : Nat) (a2 : Nat) (a3 : Nat) (X : va_W) (x1 : Int32) (x2 : Int32) (st : Nat → Int32) (wt : Int32) (sm : Int64) (ld : Int32) (ln : Int32) (st0 : Nat → Int32) (wt0 : Int32) (sm0 : Int64) (ld0 : Int32) (ln0 : Int32) (hf : f_X6_handsUp x1 x2 st wt sm ld ln = some (st0, wt0, sm0, ld0, ln0)) : MV l yX6_handsUp cX6_handsUp 6 ({ frames := 1, cells := 0, slots := 0, locals := 21 } : Room) G A (wM G h a1 a2 a3 X st wt sm ld ln) [.ref h, .int x1, .int x2] (wM G h a1 a2 a3 X st0 wt0 sm0 ld0 ln0) :=
  e_V (by decide) (Nat.le_of_ble_eq_true rfl) (fun Γ C hret => k_X6_handsUp C _ _ _ _ _ _ _ _ _ _ _ _ _ _ _ _ _ hf hret)
def f_X6_comesData_129  (x3 : Int32) (st : Nat → Int32) (wt : Int32) (sm : Int64) (ld : Int32) (ln : Int32) : Option ((Nat → Int32) × Int32 × Int64 × Int32 × Int32) :=
  rd st 8000 (x3 + 9) fun v33 =>
  if v33 = (-4) then (rd st 8000 2 fun v37 =>
  wr st 8000 (x3 + 9) v37 fun st38 =>
  some (st38, wt, sm, ld, ln))
  else (rd st 8000 (x3 + 9) fun v35 =>
  wr st 8000 (x3 + 9) v35 fun st36 =>
  some (st36, wt, sm, ld, ln))
def f_X6_comesData_60  (x1 : Int32) (x2 : Int32) (x3 : Int32) (x4 : Int32) (st : Nat → Int32) (wt : Int32) (sm : Int64) (ld : Int32) (ln : Int32) : Option ((Nat → Int32) × Int32 × Int64 × Int32 × Int32) :=
  if x4 = 0 then (rd st 8000 24 fun v20 =>
  bd ((v20 + 1)) fun y21 =>
  wr st 8000 24 y21 fun st22 =>
  bMv (f_X6_handsUp x1 x2 st22 wt sm ld ln) fun st24 wt25 sm26 ld27 ln28 =>
  rd st24 8000 (x3 + 7) fun v29 =>
  bx (f_X6_by64 (v29 + 1)) fun r30 =>
  wr st24 8000 (x3 + 7) r30 fun st31 =>
  wr st31 8000 (x3 + 8) 0 fun st32 =>
  f_X6_comesData_129 x3 st32 wt25 sm26 ld27 ln28)
  else (rd st 8000 25 fun v17 =>
  bd ((v17 + 1)) fun y18 =>
  wr st 8000 25 y18 fun st19 =>
  f_X6_comesData_129 x3 st19 wt sm ld ln)
def f_X6_comesData (x1 : Int32) (x2 : Int32) (st : Nat → Int32) (wt : Int32) (sm : Int64) (ld : Int32) (ln : Int32) : Option ((Nat → Int32) × Int32 × Int64 × Int32 × Int32) :=
  bx (f_X6_endAt x1) fun r1 =>
  rd st 8000 ((x2 + 2) + 2) fun v2 =>
  rd st 8000 (r1 + 7) fun v3 =>
  bx (f_X6_by64 (v2 - v3)) fun r4 =>
  if r4 < 1 then (f_X6_comesData_60 x1 x2 r1 r4 st wt sm ld ln)
  else (if 32 ≤ r4 then (f_X6_comesData_60 x1 x2 r1 r4 st wt sm ld ln)
  else (rd st 8000 26 fun v7 =>
  bd ((v7 + 1)) fun y8 =>
  wr st 8000 26 y8 fun st9 =>
  bMv (f_X6_dropped x1 st9 wt sm ld ln) fun st11 wt12 sm13 ld14 ln15 =>
  some (st11, wt12, sm13, ld14, ln15)))
set_option maxHeartbeats 4000000 in
set_option maxRecDepth 100000 in
theorem k_X6_comesData {l : Launch} {G : GG} {A : Nat → Prop} {Γ : Cx} (C : CX G A Γ cX6_comesData RX6 ({ frames := 2, cells := 0, slots := 0, locals := 46 } : Room) 5) (h : Nat) (a1 : Nat) (a2 : Nat) (a3 : Nat) (X : va_W) (x1 : Int32) (x2 : Int32) (st : Nat → Int32) (wt : Int32) (sm : Int64) (ld : Int32) (ln : Int32) (st0 : Nat → Int32) (wt0 : Int32) (sm0 : Int64) (ld0 : Int32) (ln0 : Int32) (hf : f_X6_comesData x1 x2 st wt sm ld ln = some (st0, wt0, sm0, ld0, ln0)) (hret : ∀ (pc : Nat) (lv : List (Nat × Value)), decode cX6_comesData pc = .ok (.return_, 1) → St l G A Γ 0 0 (wM G h a1 a2 a3 X st0 wt0 sm0 ld0 ln0) pc lv []) : St l G A Γ 0 0 (wM G h a1 a2 a3 X st wt sm ld ln) 0 [(0, .ref h), (1, .int x1), (2, .int x2)] [] := by
  have B_129 : ∀  (x3 : Int32) (st : Nat → Int32) (wt : Int32) (sm : Int64) (ld : Int32) (ln : Int32), f_X6_comesData_129 x3 st wt sm ld ln = some (st0, wt0, sm0, ld0, ln0) → St l G A Γ 0 0 (wM G h a1 a2 a3 X st wt sm ld ln) 129 [(0, .ref h), (3, .int x3)] [] := by
    intro  x3 st wt sm ld ln hf 
    unfold f_X6_comesData_129 at hf
    refine s_aload_n C 0 dX6_comesData_129 rfl ?_
    refine gf_508 C 0 rfl rfl dX6_comesData_130 ?_
    refine s_iload_n C 1 dX6_comesData_133 rfl ?_
    refine s_bipush (v := 9) C dX6_comesData_134 (by decide) ?_
    refine s_iadd C dX6_comesData_136 ?_
    refine s_aload_n C 0 dX6_comesData_137 rfl ?_
    refine gf_508 C 0 rfl rfl dX6_comesData_138 ?_
    refine s_iload_n C 1 dX6_comesData_141 rfl ?_
    refine s_bipush (v := 9) C dX6_comesData_142 (by decide) ?_
    refine s_iadd C dX6_comesData_144 ?_
    obtain ⟨v33, hiv33, ev33, hf⟩ := rd_inv hf
    refine s_iald C 1 rfl hiv33 dX6_comesData_145 ?_
    refine s_nmi ev33 ?_
    refine s_bipush (v := (-4)) C dX6_comesData_146 (by decide) ?_
    refine s_icmp_ne C 160 dX6_comesData_148 (by decide) (fun c34 => ?_) (fun c34 => ?_)
    · rw [if_neg c34] at hf
      refine s_aload_n C 0 dX6_comesData_160 rfl ?_
      refine gf_508 C 0 rfl rfl dX6_comesData_161 ?_
      refine s_iload_n C 1 dX6_comesData_164 rfl ?_
      refine s_bipush (v := 9) C dX6_comesData_165 (by decide) ?_
      refine s_iadd C dX6_comesData_167 ?_
      obtain ⟨v35, hiv35, ev35, hf⟩ := rd_inv hf
      refine s_iald C 1 rfl hiv35 dX6_comesData_168 ?_
      refine s_nmi ev35 ?_
      obtain ⟨st36, hist36, est36, hf⟩ := wr_inv hf
      refine s_iast C 1 rfl hist36 (wM G h a1 a2 a3 X st36 wt sm ld ln) (by rw [est36]; rfl) dX6_comesData_169 ?_
      exact rM_V hf hret dX6_comesData_170
    · rw [if_pos c34] at hf
      refine s_aload_n C 0 dX6_comesData_151 rfl ?_
      refine gf_508 C 0 rfl rfl dX6_comesData_152 ?_
      refine s_iconst (v := 2) C dX6_comesData_155 (by decide) ?_
      obtain ⟨v37, hiv37, ev37, hf⟩ := rd_inv hf
      refine s_iald C 1 rfl hiv37 dX6_comesData_156 ?_
      refine s_nmi ev37 ?_
      refine s_goto C 169 dX6_comesData_157 (by decide) ?_
      obtain ⟨st38, hist38, est38, hf⟩ := wr_inv hf
      refine s_iast C 1 rfl hist38 (wM G h a1 a2 a3 X st38 wt sm ld ln) (by rw [est38]; rfl) dX6_comesData_169 ?_
      exact rM_V hf hret dX6_comesData_170
  have B_60 : ∀  (x1 : Int32) (x2 : Int32) (x3 : Int32) (x4 : Int32) (st : Nat → Int32) (wt : Int32) (sm : Int64) (ld : Int32) (ln : Int32), f_X6_comesData_60 x1 x2 x3 x4 st wt sm ld ln = some (st0, wt0, sm0, ld0, ln0) → St l G A Γ 0 0 (wM G h a1 a2 a3 X st wt sm ld ln) 60 [(0, .ref h), (1, .int x1), (2, .int x2), (3, .int x3), (4, .int x4)] [] := by
    intro  x1 x2 x3 x4 st wt sm ld ln hf 
    unfold f_X6_comesData_60 at hf
    refine s_iload C 4 dX6_comesData_60 rfl ?_
    refine s_if_ne C 118 dX6_comesData_62 (by decide) (fun c16 => ?_) (fun c16 => ?_)
    · rw [if_neg c16] at hf
      refine s_aload_n C 0 dX6_comesData_118 rfl ?_
      refine gf_508 C 0 rfl rfl dX6_comesData_119 ?_
      refine s_bipush (v := 25) C dX6_comesData_122 (by decide) ?_
      refine s_dup2 C dX6_comesData_124 rfl rfl ?_
      obtain ⟨v17, hiv17, ev17, hf⟩ := rd_inv hf
      refine s_iald C 1 rfl hiv17 dX6_comesData_125 ?_
      refine s_nmi ev17 ?_
      refine s_iconst (v := 1) C dX6_comesData_126 (by decide) ?_
      refine s_iadd C dX6_comesData_127 ?_
      obtain ⟨y18, ey18, hf⟩ := bd_inv hf
      refine s_nmi ey18 ?_
      obtain ⟨st19, hist19, est19, hf⟩ := wr_inv hf
      refine s_iast C 1 rfl hist19 (wM G h a1 a2 a3 X st19 wt sm ld ln) (by rw [est19]; rfl) dX6_comesData_128 ?_
      refine s_lv [0, 3] rfl ?_
      exact B_129 _ _ _ _ _ _ hf
    · rw [if_pos c16] at hf
      refine s_aload_n C 0 dX6_comesData_65 rfl ?_
      refine gf_508 C 0 rfl rfl dX6_comesData_66 ?_
      refine s_bipush (v := 24) C dX6_comesData_69 (by decide) ?_
      refine s_dup2 C dX6_comesData_71 rfl rfl ?_
      obtain ⟨v20, hiv20, ev20, hf⟩ := rd_inv hf
      refine s_iald C 1 rfl hiv20 dX6_comesData_72 ?_
      refine s_nmi ev20 ?_
      refine s_iconst (v := 1) C dX6_comesData_73 (by decide) ?_
      refine s_iadd C dX6_comesData_74 ?_
      obtain ⟨y21, ey21, hf⟩ := bd_inv hf
      refine s_nmi ey21 ?_
      obtain ⟨st22, hist22, est22, hf⟩ := wr_inv hf
      refine s_iast C 1 rfl hist22 (wM G h a1 a2 a3 X st22 wt sm ld ln) (by rw [est22]; rfl) dX6_comesData_75 ?_
      refine s_aload_n C 0 dX6_comesData_76 rfl ?_
      refine s_iload_n C 1 dX6_comesData_77 rfl ?_
      refine s_iload_n C 2 dX6_comesData_78 rfl ?_
      obtain ⟨st24, wt25, sm26, ld27, ln28, er23, hf⟩ := bMv_inv hf
      refine s_cV_V (As := [.int x1, .int x2]) (rest := []) (ci := 6) (q := 0) C (c_X6_handsUp l G A h a1 a2 a3 X x1 x2 st22 wt sm ld ln _ _ _ _ _ er23) g_RX6_113 hd_X6_handsUp rfl ⟨Nat.le_of_ble_eq_true rfl, Nat.le_of_ble_eq_true rfl⟩ rfl rfl rfl (Nat.le_of_ble_eq_true rfl) ⟨Nat.le_of_ble_eq_true rfl, Nat.le_of_ble_eq_true rfl⟩ dX6_comesData_79 ?_
      refine s_aload_n C 0 dX6_comesData_82 rfl ?_
      refine gf_508 C 0 rfl rfl dX6_comesData_83 ?_
      refine s_iload_n C 3 dX6_comesData_86 rfl ?_
      refine s_bipush (v := 7) C dX6_comesData_87 (by decide) ?_
      refine s_iadd C dX6_comesData_89 ?_
      refine s_aload_n C 0 dX6_comesData_90 rfl ?_
      refine gf_508 C 0 rfl rfl dX6_comesData_91 ?_
      refine s_iload_n C 3 dX6_comesData_94 rfl ?_
      refine s_bipush (v := 7) C dX6_comesData_95 (by decide) ?_
      refine s_iadd C dX6_comesData_97 ?_
      obtain ⟨v29, hiv29, ev29, hf⟩ := rd_inv hf
      refine s_iald C 1 rfl hiv29 dX6_comesData_98 ?_
      refine s_nmi ev29 ?_
      refine s_iconst (v := 1) C dX6_comesData_99 (by decide) ?_
      refine s_iadd C dX6_comesData_100 ?_
      obtain ⟨r30, er30, hf⟩ := bx_inv hf
      refine s_cS_I (As := [.int (v29 + 1)]) (rest := [.int (x3 + 7), .ref a1]) C (c_X6_by64 l G A _ (v29 + 1) _ er30) g_RX6_95 hd_X6_by64 rfl ⟨Nat.le_of_ble_eq_true rfl, Nat.le_of_ble_eq_true rfl⟩ rfl (Nat.le_of_ble_eq_true rfl) ⟨Nat.le_of_ble_eq_true rfl, Nat.le_of_ble_eq_true rfl⟩ dX6_comesData_101 ?_
      obtain ⟨st31, hist31, est31, hf⟩ := wr_inv hf
      refine s_iast C 1 rfl hist31 (wM G h a1 a2 a3 X st31 wt25 sm26 ld27 ln28) (by rw [est31]; rfl) dX6_comesData_104 ?_
      refine s_aload_n C 0 dX6_comesData_105 rfl ?_
      refine gf_508 C 0 rfl rfl dX6_comesData_106 ?_
      refine s_iload_n C 3 dX6_comesData_109 rfl ?_
      refine s_bipush (v := 8) C dX6_comesData_110 (by decide) ?_
      refine s_iadd C dX6_comesData_112 ?_
      refine s_iconst (v := 0) C dX6_comesData_113 (by decide) ?_
      obtain ⟨st32, hist32, est32, hf⟩ := wr_inv hf
      refine s_iast C 1 rfl hist32 (wM G h a1 a2 a3 X st32 wt25 sm26 ld27 ln28) (by rw [est32]; rfl) dX6_comesData_114 ?_
      refine s_goto C 129 dX6_comesData_115 (by decide) ?_
      refine s_lv [0, 3] rfl ?_
      exact B_129 _ _ _ _ _ _ hf
  unfold f_X6_comesData at hf
  refine s_iload_n C 1 dX6_comesData_0 rfl ?_
  obtain ⟨r1, er1, hf⟩ := bx_inv hf
  refine s_cS_I (As := [.int x1]) (rest := []) C (c_X6_endAt l G A _ x1 _ er1) g_RX6_20 hd_X6_endAt rfl ⟨Nat.le_of_ble_eq_true rfl, Nat.le_of_ble_eq_true rfl⟩ rfl (Nat.le_of_ble_eq_true rfl) ⟨Nat.le_of_ble_eq_true rfl, Nat.le_of_ble_eq_true rfl⟩ dX6_comesData_1 ?_
  refine s_istore_n C [(3, .int r1), (0, .ref h), (1, .int x1), (2, .int x2)] dX6_comesData_4 (by decide) rfl ?_
  refine s_aload_n C 1 dX6_comesData_5 rfl ?_
  refine gf_508 C 0 rfl rfl dX6_comesData_6 ?_
  refine s_iload_n C 3 dX6_comesData_9 rfl ?_
  refine s_iconst (v := 2) C dX6_comesData_10 (by decide) ?_
  refine s_iadd C dX6_comesData_11 ?_
  refine s_iconst (v := 2) C dX6_comesData_12 (by decide) ?_
  refine s_iadd C dX6_comesData_13 ?_
  obtain ⟨v2, hiv2, ev2, hf⟩ := rd_inv hf
  refine s_iald C 1 rfl hiv2 dX6_comesData_14 ?_
  refine s_nmi ev2 ?_
  refine s_aload_n C 1 dX6_comesData_15 rfl ?_
  refine gf_508 C 0 rfl rfl dX6_comesData_16 ?_
  refine s_iload_n C 0 dX6_comesData_19 rfl ?_
  refine s_bipush (v := 7) C dX6_comesData_20 (by decide) ?_
  refine s_iadd C dX6_comesData_22 ?_
  obtain ⟨v3, hiv3, ev3, hf⟩ := rd_inv hf
  refine s_iald C 1 rfl hiv3 dX6_comesData_23 ?_
  refine s_nmi ev3 ?_
  refine s_isub C dX6_comesData_24 ?_
  obtain ⟨r4, er4, hf⟩ := bx_inv hf
  refine s_cS_I (As := [.int (v2 - v3)]) (rest := []) C (c_X6_by64 l G A _ (v2 - v3) _ er4) g_RX6_95 hd_X6_by64 rfl ⟨Nat.le_of_ble_eq_true rfl, Nat.le_of_ble_eq_true rfl⟩ rfl (Nat.le_of_ble_eq_true rfl) ⟨Nat.le_of_ble_eq_true rfl, Nat.le_of_ble_eq_true rfl⟩ dX6_comesData_25 ?_
  refine s_istore C [(4, .int r4), (3, .int r1), (0, .ref h), (1, .int x1), (2, .int x2)] dX6_comesData_28 (by decide) rfl ?_
  refine s_iload C 0 dX6_comesData_30 rfl ?_
  refine s_iconst (v := 1) C dX6_comesData_32 (by decide) ?_
  refine s_icmp_lt C 60 dX6_comesData_33 (by decide) (fun c5 => ?_) (fun c5 => ?_)
  · rw [if_pos c5] at hf
    refine s_lv [2, 3, 4, 1, 0] rfl ?_
    exact B_60 _ _ _ _ _ _ _ _ _ hf
  · rw [if_neg c5] at hf
    refine s_iload C 0 dX6_comesData_36 rfl ?_
    refine s_bipush (v := 32) C dX6_comesData_38 (by decide) ?_
    refine s_icmp_ge C 60 dX6_comesData_40 (by decide) (fun c6 => ?_) (fun c6 => ?_)
    · rw [if_pos c6] at hf
      refine s_lv [2, 3, 4, 1, 0] rfl ?_
      exact B_60 _ _ _ _ _ _ _ _ _ hf
    · rw [if_neg c6] at hf
      refine s_aload_n C 2 dX6_comesData_43 rfl ?_
      refine gf_508 C 0 rfl rfl dX6_comesData_44 ?_
      refine s_bipush (v := 26) C dX6_comesData_47 (by decide) ?_
      refine s_dup2 C dX6_comesData_49 rfl rfl ?_
      obtain ⟨v7, hiv7, ev7, hf⟩ := rd_inv hf
      refine s_iald C 1 rfl hiv7 dX6_comesData_50 ?_
      refine s_nmi ev7 ?_
      refine s_iconst (v := 1) C dX6_comesData_51 (by decide) ?_
      refine s_iadd C dX6_comesData_52 ?_
      obtain ⟨y8, ey8, hf⟩ := bd_inv hf
      refine s_nmi ey8 ?_
      obtain ⟨st9, hist9, est9, hf⟩ := wr_inv hf
      refine s_iast C 1 rfl hist9 (wM G h a1 a2 a3 X st9 wt sm ld ln) (by rw [est9]; rfl) dX6_comesData_53 ?_
      refine s_aload_n C 2 dX6_comesData_54 rfl ?_
      refine s_iload_n C 3 dX6_comesData_55 rfl ?_
      obtain ⟨st11, wt12, sm13, ld14, ln15, er10, hf⟩ := bMv_inv hf
      refine s_cV_V (As := [.int x1]) (rest := []) (ci := 6) (q := 0) C (c_X6_dropped l G A h a1 a2 a3 X x1 st9 wt sm ld ln _ _ _ _ _ er10) g_RX6_110 hd_X6_dropped rfl ⟨Nat.le_of_ble_eq_true rfl, Nat.le_of_ble_eq_true rfl⟩ rfl rfl rfl (Nat.le_of_ble_eq_true rfl) ⟨Nat.le_of_ble_eq_true rfl, Nat.le_of_ble_eq_true rfl⟩ dX6_comesData_56 ?_
      exact rM_V hf hret dX6_comesData_59
theorem c_X6_comesData (l : Launch) (G : GG) (A : Nat → Prop) (h : Nat) (a1 : Nat) (a2 : Nat) (a3 : Nat) (X : va_W) (x1 : Int32) (x2 : Int32) (st : Nat → Int32) (wt : Int32) (sm : Int64) (ld : Int32) (ln : Int32) (st0 : Nat → Int32) (wt0 : Int32) (sm0 : Int64) (ld0 : Int32) (ln0 : Int32) (hf : f_X6_comesData x1 x2 st wt sm ld ln = some (st0, wt0, sm0, ld0, ln0)) : MV l yX6_comesData cX6_comesData 5 ({ frames := 2, cells := 0, slots := 0, locals := 46 } : Room) G A (wM G h a1 a2 a3 X st wt sm ld ln) [.ref h, .int x1, .int x2] (wM G h a1 a2 a3 X st0 wt0 sm0 ld0 ln0) :=
  e_V (by decide) (Nat.le_of_ble_eq_true rfl) (fun Γ C hret => k_X6_comesData C _ _ _ _ _ _ _ _ _ _ _ _ _ _ _ _ _ hf hret)
