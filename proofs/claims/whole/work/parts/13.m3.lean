def f_X6_comes_9  : Nat → Int32 → Int32 → Int32 → Int32 → (Nat → Int32) → Int32 → Int64 → Int32 → Int32 → Option ((Nat → Int32) × Int32 × Int64 × Int32 × Int32)
  | 0, _, _, _, _, _, _, _, _, _ => none
  | fu + 1, x1, x2, x3, x4, st, wt, sm, ld, ln =>
    if 36 ≤ x4 then (bMv (f_X6_remove x1 x2 st wt sm ld ln) fun st4 wt5 sm6 ld7 ln8 =>
    bd ((1 - x1)) fun y9 =>
    bM (f_X6_read 7900 st4 wt5 sm6 ld7 ln8) fun r10 st11 wt12 sm13 ld14 ln15 =>
    if r10 = 0 then (bMv (f_X6_comesData y9 7900 st11 wt12 sm13 ld14 ln15) fun st43 wt44 sm45 ld46 ln47 =>
    some (st43, wt44, sm45, ld46, ln47))
    else (if r10 = 1 then (rd st11 8000 27 fun v39 =>
    bd ((v39 + 1)) fun y40 =>
    wr st11 8000 27 y40 fun st41 =>
    some (st41, wt12, sm13, ld14, ln15))
    else (if 4 ≤ r10 then (if r10 = 4 then (rd st11 8000 30 fun v23 =>
    bd ((v23 + 1)) fun y24 =>
    wr st11 8000 30 y24 fun st25 =>
    bMv (f_X6_dropped y9 st25 wt12 sm13 ld14 ln15) fun st27 wt28 sm29 ld30 ln31 =>
    some (st27, wt28, sm29, ld30, ln31))
    else (rd st11 8000 31 fun v20 =>
    bd ((v20 + 1)) fun y21 =>
    wr st11 8000 31 y21 fun st22 =>
    some (st22, wt12, sm13, ld14, ln15)))
    else (rd st11 8000 7904 fun v32 =>
    bMv (f_X6_comesWord y9 r10 v32 st11 wt12 sm13 ld14 ln15) fun st34 wt35 sm36 ld37 ln38 =>
    some (st34, wt35, sm36, ld37, ln38)))))
    else (rd st 8000 (x3 + x4) fun v48 =>
    wr st 8000 (7900 + x4) v48 fun st49 =>
    bd (x4 + 1) fun y50 =>
    f_X6_comes_9 fu x1 x2 x3 y50 st49 wt sm ld ln)
def f_X6_comes (x1 : Int32) (x2 : Int32) (st : Nat → Int32) (wt : Int32) (sm : Int64) (ld : Int32) (ln : Int32) : Option ((Nat → Int32) × Int32 × Int64 × Int32 × Int32) :=
  bx (f_X6_frameAt x1 x2) fun r1 =>
  f_X6_comes_9 FU x1 x2 r1 0 st wt sm ld ln
set_option maxHeartbeats 4000000 in
set_option maxRecDepth 100000 in
theorem k_X6_comes {l : Launch} {G : GG} {A : Nat → Prop} {Γ : Cx} (C : CX G A Γ cX6_comes RX6 ({ frames := 5, cells := 0, slots := 0, locals := 112 } : Room) 6) (h : Nat) (a1 : Nat) (a2 : Nat) (a3 : Nat) (X : va_W) (x1 : Int32) (x2 : Int32) (st : Nat → Int32) (wt : Int32) (sm : Int64) (ld : Int32) (ln : Int32) (st0 : Nat → Int32) (wt0 : Int32) (sm0 : Int64) (ld0 : Int32) (ln0 : Int32) (hf : f_X6_comes x1 x2 st wt sm ld ln = some (st0, wt0, sm0, ld0, ln0)) (hret : ∀ (pc : Nat) (lv : List (Nat × Value)), decode cX6_comes pc = .ok (.return_, 1) → St l G A Γ 0 0 (wM G h a1 a2 a3 X st0 wt0 sm0 ld0 ln0) pc lv []) : St l G A Γ 0 0 (wM G h a1 a2 a3 X st wt sm ld ln) 0 [(0, .ref h), (1, .int x1), (2, .int x2)] [] := by
  have B_9 : ∀  (fu : Nat) (x1 : Int32) (x2 : Int32) (x3 : Int32) (x4 : Int32) (st : Nat → Int32) (wt : Int32) (sm : Int64) (ld : Int32) (ln : Int32), f_X6_comes_9 fu x1 x2 x3 x4 st wt sm ld ln = some (st0, wt0, sm0, ld0, ln0) → St l G A Γ 0 0 (wM G h a1 a2 a3 X st wt sm ld ln) 9 [(0, .ref h), (1, .int x1), (2, .int x2), (3, .int x3), (4, .int x4)] [] := by
    intro fu
    induction fu with
    | zero => intro x1 x2 x3 x4 st wt sm ld ln hf ; rw [f_X6_comes_9] at hf; cases hf
    | succ fu ih =>
      intro x1 x2 x3 x4 st wt sm ld ln hf 
      rw [f_X6_comes_9] at hf
      refine s_iload C 4 dX6_comes_9 rfl ?_
      refine s_bipush (v := 36) C dX6_comes_11 (by decide) ?_
      refine s_icmp_ge C 42 dX6_comes_13 (by decide) (fun c2 => ?_) (fun c2 => ?_)
      · rw [if_pos c2] at hf
        refine s_aload_n C 0 dX6_comes_42 rfl ?_
        refine s_iload_n C 1 dX6_comes_43 rfl ?_
        refine s_iload_n C 2 dX6_comes_44 rfl ?_
        obtain ⟨st4, wt5, sm6, ld7, ln8, er3, hf⟩ := bMv_inv hf
        refine s_cV_V (As := [.int x1, .int x2]) (rest := []) (ci := 6) (q := 0) C (c_X6_remove l G A h a1 a2 a3 X x1 x2 st wt sm ld ln _ _ _ _ _ er3) g_RX6_84 hd_X6_remove rfl ⟨Nat.le_of_ble_eq_true rfl, Nat.le_of_ble_eq_true rfl⟩ rfl rfl rfl (Nat.le_of_ble_eq_true rfl) ⟨Nat.le_of_ble_eq_true rfl, Nat.le_of_ble_eq_true rfl⟩ dX6_comes_45 ?_
        refine s_iconst (v := 1) C dX6_comes_48 (by decide) ?_
        refine s_iload_n C 1 dX6_comes_49 rfl ?_
        refine s_isub C dX6_comes_50 ?_
        obtain ⟨y9, ey9, hf⟩ := bd_inv hf
        refine s_nmi ey9 ?_
        refine s_istore C [(4, .int y9), (0, .ref h), (1, .int x1), (2, .int x2), (3, .int x3)] dX6_comes_51 (by decide) rfl ?_
        refine s_aload_n C 1 dX6_comes_53 rfl ?_
        refine s_sipush (v := 7900) C dX6_comes_54 (by decide) ?_
        obtain ⟨r10, st11, wt12, sm13, ld14, ln15, er10, hf⟩ := bM_inv hf
        refine s_cV_I (As := [.int 7900]) (rest := []) (ci := 6) (q := 0) C (c_X6_read l G A h a1 a2 a3 X 7900 st4 wt5 sm6 ld7 ln8 _ _ _ _ _ _ er10) g_RX6_119 hd_X6_read rfl ⟨Nat.le_of_ble_eq_true rfl, Nat.le_of_ble_eq_true rfl⟩ rfl rfl rfl (Nat.le_of_ble_eq_true rfl) ⟨Nat.le_of_ble_eq_true rfl, Nat.le_of_ble_eq_true rfl⟩ dX6_comes_57 ?_
        refine s_istore C [(5, .int r10), (4, .int y9), (0, .ref h), (1, .int x1), (2, .int x2), (3, .int x3)] dX6_comes_60 (by decide) rfl ?_
        refine s_iload C 0 dX6_comes_62 rfl ?_
        refine s_if_ne C 79 dX6_comes_64 (by decide) (fun c16 => ?_) (fun c16 => ?_)
        · rw [if_neg c16] at hf
          refine s_iload C 0 dX6_comes_79 rfl ?_
          refine s_iconst (v := 1) C dX6_comes_81 (by decide) ?_
          refine s_icmp_ne C 99 dX6_comes_82 (by decide) (fun c17 => ?_) (fun c17 => ?_)
          · rw [if_neg c17] at hf
            refine s_iload C 0 dX6_comes_99 rfl ?_
            refine s_iconst (v := 4) C dX6_comes_101 (by decide) ?_
            refine s_icmp_ge C 124 dX6_comes_102 (by decide) (fun c18 => ?_) (fun c18 => ?_)
            · rw [if_pos c18] at hf
              refine s_iload C 0 dX6_comes_124 rfl ?_
              refine s_iconst (v := 4) C dX6_comes_126 (by decide) ?_
              refine s_icmp_ne C 150 dX6_comes_127 (by decide) (fun c19 => ?_) (fun c19 => ?_)
              · rw [if_neg c19] at hf
                refine s_aload_n C 2 dX6_comes_150 rfl ?_
                refine gf_508 C 0 rfl rfl dX6_comes_151 ?_
                refine s_bipush (v := 31) C dX6_comes_154 (by decide) ?_
                refine s_dup2 C dX6_comes_156 rfl rfl ?_
                obtain ⟨v20, hiv20, ev20, hf⟩ := rd_inv hf
                refine s_iald C 1 rfl hiv20 dX6_comes_157 ?_
                refine s_nmi ev20 ?_
                refine s_iconst (v := 1) C dX6_comes_158 (by decide) ?_
                refine s_iadd C dX6_comes_159 ?_
                obtain ⟨y21, ey21, hf⟩ := bd_inv hf
                refine s_nmi ey21 ?_
                obtain ⟨st22, hist22, est22, hf⟩ := wr_inv hf
                refine s_iast C 1 rfl hist22 (wM G h a1 a2 a3 X st22 wt12 sm13 ld14 ln15) (by rw [est22]; rfl) dX6_comes_160 ?_
                exact rM_V hf hret dX6_comes_161
              · rw [if_pos c19] at hf
                refine s_aload_n C 2 dX6_comes_130 rfl ?_
                refine gf_508 C 0 rfl rfl dX6_comes_131 ?_
                refine s_bipush (v := 30) C dX6_comes_134 (by decide) ?_
                refine s_dup2 C dX6_comes_136 rfl rfl ?_
                obtain ⟨v23, hiv23, ev23, hf⟩ := rd_inv hf
                refine s_iald C 1 rfl hiv23 dX6_comes_137 ?_
                refine s_nmi ev23 ?_
                refine s_iconst (v := 1) C dX6_comes_138 (by decide) ?_
                refine s_iadd C dX6_comes_139 ?_
                obtain ⟨y24, ey24, hf⟩ := bd_inv hf
                refine s_nmi ey24 ?_
                obtain ⟨st25, hist25, est25, hf⟩ := wr_inv hf
                refine s_iast C 1 rfl hist25 (wM G h a1 a2 a3 X st25 wt12 sm13 ld14 ln15) (by rw [est25]; rfl) dX6_comes_140 ?_
                refine s_aload_n C 2 dX6_comes_141 rfl ?_
                refine s_iload C 1 dX6_comes_142 rfl ?_
                obtain ⟨st27, wt28, sm29, ld30, ln31, er26, hf⟩ := bMv_inv hf
                refine s_cV_V (As := [.int y9]) (rest := []) (ci := 6) (q := 0) C (c_X6_dropped l G A h a1 a2 a3 X y9 st25 wt12 sm13 ld14 ln15 _ _ _ _ _ er26) g_RX6_110 hd_X6_dropped rfl ⟨Nat.le_of_ble_eq_true rfl, Nat.le_of_ble_eq_true rfl⟩ rfl rfl rfl (Nat.le_of_ble_eq_true rfl) ⟨Nat.le_of_ble_eq_true rfl, Nat.le_of_ble_eq_true rfl⟩ dX6_comes_144 ?_
                refine s_goto C 161 dX6_comes_147 (by decide) ?_
                exact rM_V hf hret dX6_comes_161
            · rw [if_neg c18] at hf
              refine s_aload_n C 2 dX6_comes_105 rfl ?_
              refine s_iload C 1 dX6_comes_106 rfl ?_
              refine s_iload C 0 dX6_comes_108 rfl ?_
              refine s_aload_n C 2 dX6_comes_110 rfl ?_
              refine gf_508 C 0 rfl rfl dX6_comes_111 ?_
              refine s_sipush (v := 7904) C dX6_comes_114 (by decide) ?_
              obtain ⟨v32, hiv32, ev32, hf⟩ := rd_inv hf
              refine s_iald C 1 rfl hiv32 dX6_comes_117 ?_
              refine s_nmi ev32 ?_
              obtain ⟨st34, wt35, sm36, ld37, ln38, er33, hf⟩ := bMv_inv hf
              refine s_cV_V (As := [.int y9, .int r10, .int v32]) (rest := []) (ci := 6) (q := 0) C (c_X6_comesWord l G A h a1 a2 a3 X y9 r10 v32 st11 wt12 sm13 ld14 ln15 _ _ _ _ _ er33) g_RX6_125 hd_X6_comesWord rfl ⟨Nat.le_of_ble_eq_true rfl, Nat.le_of_ble_eq_true rfl⟩ rfl rfl rfl (Nat.le_of_ble_eq_true rfl) ⟨Nat.le_of_ble_eq_true rfl, Nat.le_of_ble_eq_true rfl⟩ dX6_comes_118 ?_
              refine s_goto C 161 dX6_comes_121 (by decide) ?_
              exact rM_V hf hret dX6_comes_161
          · rw [if_pos c17] at hf
            refine s_aload_n C 2 dX6_comes_85 rfl ?_
            refine gf_508 C 0 rfl rfl dX6_comes_86 ?_
            refine s_bipush (v := 27) C dX6_comes_89 (by decide) ?_
            refine s_dup2 C dX6_comes_91 rfl rfl ?_
            obtain ⟨v39, hiv39, ev39, hf⟩ := rd_inv hf
            refine s_iald C 1 rfl hiv39 dX6_comes_92 ?_
            refine s_nmi ev39 ?_
            refine s_iconst (v := 1) C dX6_comes_93 (by decide) ?_
            refine s_iadd C dX6_comes_94 ?_
            obtain ⟨y40, ey40, hf⟩ := bd_inv hf
            refine s_nmi ey40 ?_
            obtain ⟨st41, hist41, est41, hf⟩ := wr_inv hf
            refine s_iast C 1 rfl hist41 (wM G h a1 a2 a3 X st41 wt12 sm13 ld14 ln15) (by rw [est41]; rfl) dX6_comes_95 ?_
            refine s_goto C 161 dX6_comes_96 (by decide) ?_
            exact rM_V hf hret dX6_comes_161
        · rw [if_pos c16] at hf
          refine s_aload_n C 2 dX6_comes_67 rfl ?_
          refine s_iload C 1 dX6_comes_68 rfl ?_
          refine s_sipush (v := 7900) C dX6_comes_70 (by decide) ?_
          obtain ⟨st43, wt44, sm45, ld46, ln47, er42, hf⟩ := bMv_inv hf
          refine s_cV_V (As := [.int y9, .int 7900]) (rest := []) (ci := 6) (q := 0) C (c_X6_comesData l G A h a1 a2 a3 X y9 7900 st11 wt12 sm13 ld14 ln15 _ _ _ _ _ er42) g_RX6_122 hd_X6_comesData rfl ⟨Nat.le_of_ble_eq_true rfl, Nat.le_of_ble_eq_true rfl⟩ rfl rfl rfl (Nat.le_of_ble_eq_true rfl) ⟨Nat.le_of_ble_eq_true rfl, Nat.le_of_ble_eq_true rfl⟩ dX6_comes_73 ?_
          refine s_goto C 161 dX6_comes_76 (by decide) ?_
          exact rM_V hf hret dX6_comes_161
      · rw [if_neg c2] at hf
        refine s_aload_n C 0 dX6_comes_16 rfl ?_
        refine gf_508 C 0 rfl rfl dX6_comes_17 ?_
        refine s_sipush (v := 7900) C dX6_comes_20 (by decide) ?_
        refine s_iload C 4 dX6_comes_23 rfl ?_
        refine s_iadd C dX6_comes_25 ?_
        refine s_aload_n C 0 dX6_comes_26 rfl ?_
        refine gf_508 C 0 rfl rfl dX6_comes_27 ?_
        refine s_iload_n C 3 dX6_comes_30 rfl ?_
        refine s_iload C 4 dX6_comes_31 rfl ?_
        refine s_iadd C dX6_comes_33 ?_
        obtain ⟨v48, hiv48, ev48, hf⟩ := rd_inv hf
        refine s_iald C 1 rfl hiv48 dX6_comes_34 ?_
        refine s_nmi ev48 ?_
        obtain ⟨st49, hist49, est49, hf⟩ := wr_inv hf
        refine s_iast C 1 rfl hist49 (wM G h a1 a2 a3 X st49 wt sm ld ln) (by rw [est49]; rfl) dX6_comes_35 ?_
        obtain ⟨y50, ey50, hf⟩ := bd_inv hf
        refine s_iinc (v := y50) C 4 [(4, .int y50), (0, .ref h), (1, .int x1), (2, .int x2), (3, .int x3)] dX6_comes_36 rfl (by rw [ey50]; rfl) (by decide) rfl ?_
        refine s_goto C 9 dX6_comes_39 (by decide) ?_
        refine s_lv [1, 2, 3, 4, 0] rfl ?_
        exact ih _ _ _ _ _ _ _ _ _ hf
  unfold f_X6_comes at hf
  refine s_iload_n C 1 dX6_comes_0 rfl ?_
  refine s_iload_n C 2 dX6_comes_1 rfl ?_
  obtain ⟨r1, er1, hf⟩ := bx_inv hf
  refine s_cS_I (As := [.int x1, .int x2]) (rest := []) C (c_X6_frameAt l G A _ x1 x2 _ er1) g_RX6_81 hd_X6_frameAt rfl ⟨Nat.le_of_ble_eq_true rfl, Nat.le_of_ble_eq_true rfl⟩ rfl (Nat.le_of_ble_eq_true rfl) ⟨Nat.le_of_ble_eq_true rfl, Nat.le_of_ble_eq_true rfl⟩ dX6_comes_2 ?_
  refine s_istore_n C [(3, .int r1), (0, .ref h), (1, .int x1), (2, .int x2)] dX6_comes_5 (by decide) rfl ?_
  refine s_iconst (v := 0) C dX6_comes_6 (by decide) ?_
  refine s_istore C [(4, .int 0), (3, .int r1), (0, .ref h), (1, .int x1), (2, .int x2)] dX6_comes_7 (by decide) rfl ?_
  refine s_lv [2, 3, 4, 1, 0] rfl ?_
  exact B_9 _ _ _ _ _ _ _ _ _ _ hf
theorem c_X6_comes (l : Launch) (G : GG) (A : Nat → Prop) (h : Nat) (a1 : Nat) (a2 : Nat) (a3 : Nat) (X : va_W) (x1 : Int32) (x2 : Int32) (st : Nat → Int32) (wt : Int32) (sm : Int64) (ld : Int32) (ln : Int32) (st0 : Nat → Int32) (wt0 : Int32) (sm0 : Int64) (ld0 : Int32) (ln0 : Int32) (hf : f_X6_comes x1 x2 st wt sm ld ln = some (st0, wt0, sm0, ld0, ln0)) : MV l yX6_comes cX6_comes 6 ({ frames := 5, cells := 0, slots := 0, locals := 112 } : Room) G A (wM G h a1 a2 a3 X st wt sm ld ln) [.ref h, .int x1, .int x2] (wM G h a1 a2 a3 X st0 wt0 sm0 ld0 ln0) :=
  e_V (by decide) (Nat.le_of_ble_eq_true rfl) (fun Γ C hret => k_X6_comes C _ _ _ _ _ _ _ _ _ _ _ _ _ _ _ _ _ hf hret)
def f_X6_coming_11 (rec4 : Int32 → Int32 → (Nat → Int32) → Int32 → Int64 → Int32 → Int32 → Option (Int32 × (Nat → Int32) × Int32 × Int64 × Int32 × Int32)) : Nat → Int32 → Int32 → Int32 → (Nat → Int32) → Int32 → Int64 → Int32 → Int32 → Option (Int32 × (Nat → Int32) × Int32 × Int64 × Int32 × Int32)
  | 0, _, _, _, _, _, _, _, _ => none
  | fu + 1, x1, x2, x3, st, wt, sm, ld, ln =>
    bM (f_X6_many x2 st wt sm ld ln) fun r2 st3 wt4 sm5 ld6 ln7 =>
    if r2 ≤ x3 then (bd (x2 + 1) fun y9 =>
    rec4 x1 y9 st3 wt4 sm5 ld6 ln7)
    else (bx (f_X6_frameAt x2 x3) fun r10 =>
    rd st3 8000 (r10 + 1) fun v11 =>
    rd st3 8000 3 fun v12 =>
    if v12 < v11 then (bd (x3 + 1) fun y14 =>
    f_X6_coming_11 rec4 fu x1 x2 y14 st3 wt4 sm5 ld6 ln7)
    else (bMv (f_X6_comes x2 x3 st3 wt4 sm5 ld6 ln7) fun st16 wt17 sm18 ld19 ln20 =>
    bd (x1 + 1) fun y21 =>
    f_X6_coming_11 rec4 fu y21 x2 x3 st16 wt17 sm18 ld19 ln20))
def f_X6_coming_4  : Nat → Int32 → Int32 → (Nat → Int32) → Int32 → Int64 → Int32 → Int32 → Option (Int32 × (Nat → Int32) × Int32 × Int64 × Int32 × Int32)
  | 0, _, _, _, _, _, _, _ => none
  | fu + 1, x1, x2, st, wt, sm, ld, ln =>
    if 2 ≤ x2 then (some (x1, st, wt, sm, ld, ln))
    else (f_X6_coming_11 (f_X6_coming_4 fu) FU x1 x2 0 st wt sm ld ln)
def f_X6_coming (st : Nat → Int32) (wt : Int32) (sm : Int64) (ld : Int32) (ln : Int32) : Option (Int32 × (Nat → Int32) × Int32 × Int64 × Int32 × Int32) :=
  f_X6_coming_4 FU 0 0 st wt sm ld ln
set_option maxHeartbeats 4000000 in
set_option maxRecDepth 100000 in
theorem k_X6_coming {l : Launch} {G : GG} {A : Nat → Prop} {Γ : Cx} (C : CX G A Γ cX6_coming RX6 ({ frames := 6, cells := 0, slots := 0, locals := 137 } : Room) 4) (h : Nat) (a1 : Nat) (a2 : Nat) (a3 : Nat) (X : va_W) (st : Nat → Int32) (wt : Int32) (sm : Int64) (ld : Int32) (ln : Int32) (r0 : Int32) (st0 : Nat → Int32) (wt0 : Int32) (sm0 : Int64) (ld0 : Int32) (ln0 : Int32) (hf : f_X6_coming st wt sm ld ln = some (r0, st0, wt0, sm0, ld0, ln0)) (hret : ∀ (pc : Nat) (lv : List (Nat × Value)), decode cX6_coming pc = .ok (.ireturn, 1) → narrow .int (.int r0) = .int r0 → St l G A Γ 0 0 (wM G h a1 a2 a3 X st0 wt0 sm0 ld0 ln0) pc lv [.int r0]) : St l G A Γ 0 0 (wM G h a1 a2 a3 X st wt sm ld ln) 0 [(0, .ref h)] [] := by
  have B_11 : ∀ (rec4 : Int32 → Int32 → (Nat → Int32) → Int32 → Int64 → Int32 → Int32 → Option (Int32 × (Nat → Int32) × Int32 × Int64 × Int32 × Int32)) (fu : Nat) (x1 : Int32) (x2 : Int32) (x3 : Int32) (st : Nat → Int32) (wt : Int32) (sm : Int64) (ld : Int32) (ln : Int32), f_X6_coming_11 rec4 fu x1 x2 x3 st wt sm ld ln = some (r0, st0, wt0, sm0, ld0, ln0) → (∀ (x1 : Int32) (x2 : Int32) (st : Nat → Int32) (wt : Int32) (sm : Int64) (ld : Int32) (ln : Int32), rec4 x1 x2 st wt sm ld ln = some (r0, st0, wt0, sm0, ld0, ln0) → St l G A Γ 0 0 (wM G h a1 a2 a3 X st wt sm ld ln) 4 [(0, .ref h), (1, .int x1), (2, .int x2)] []) → St l G A Γ 0 0 (wM G h a1 a2 a3 X st wt sm ld ln) 11 [(0, .ref h), (1, .int x1), (2, .int x2), (3, .int x3)] [] := by
    intro rec4 fu
    induction fu with
    | zero => intro x1 x2 x3 st wt sm ld ln hf hrec4; rw [f_X6_coming_11] at hf; cases hf
    | succ fu ih =>
      intro x1 x2 x3 st wt sm ld ln hf hrec4
      replace ih := fun x1 x2 x3 st wt sm ld ln q => ih x1 x2 x3 st wt sm ld ln q hrec4
      rw [f_X6_coming_11] at hf
      refine s_iload_n C 3 dX6_coming_11 rfl ?_
      refine s_aload_n C 0 dX6_coming_12 rfl ?_
      refine s_iload_n C 2 dX6_coming_13 rfl ?_
      obtain ⟨r2, st3, wt4, sm5, ld6, ln7, er2, hf⟩ := bM_inv hf
      refine s_cV_I (As := [.int x2]) (rest := [.int x3]) (ci := 6) (q := 0) C (c_X6_many l G A h a1 a2 a3 X x2 st wt sm ld ln _ _ _ _ _ _ er2) g_RX6_78 hd_X6_many rfl ⟨Nat.le_of_ble_eq_true rfl, Nat.le_of_ble_eq_true rfl⟩ rfl rfl rfl (Nat.le_of_ble_eq_true rfl) ⟨Nat.le_of_ble_eq_true rfl, Nat.le_of_ble_eq_true rfl⟩ dX6_coming_14 ?_
      refine s_icmp_ge C 59 dX6_coming_17 (by decide) (fun c8 => ?_) (fun c8 => ?_)
      · rw [if_pos c8] at hf
        obtain ⟨y9, ey9, hf⟩ := bd_inv hf
        refine s_iinc (v := y9) C 2 [(2, .int y9), (0, .ref h), (1, .int x1), (3, .int x3)] dX6_coming_59 rfl (by rw [ey9]; rfl) (by decide) rfl ?_
        refine s_goto C 4 dX6_coming_62 (by decide) ?_
        refine s_lv [1, 2, 0] rfl ?_
        exact hrec4 _ _ _ _ _ _ _ hf
      · rw [if_neg c8] at hf
        refine s_aload_n C 0 dX6_coming_20 rfl ?_
        refine gf_508 C 0 rfl rfl dX6_coming_21 ?_
        refine s_iload_n C 2 dX6_coming_24 rfl ?_
        refine s_iload_n C 3 dX6_coming_25 rfl ?_
        obtain ⟨r10, er10, hf⟩ := bx_inv hf
        refine s_cS_I (As := [.int x2, .int x3]) (rest := [.ref a1]) C (c_X6_frameAt l G A _ x2 x3 _ er10) g_RX6_81 hd_X6_frameAt rfl ⟨Nat.le_of_ble_eq_true rfl, Nat.le_of_ble_eq_true rfl⟩ rfl (Nat.le_of_ble_eq_true rfl) ⟨Nat.le_of_ble_eq_true rfl, Nat.le_of_ble_eq_true rfl⟩ dX6_coming_26 ?_
        refine s_iconst (v := 1) C dX6_coming_29 (by decide) ?_
        refine s_iadd C dX6_coming_30 ?_
        obtain ⟨v11, hiv11, ev11, hf⟩ := rd_inv hf
        refine s_iald C 1 rfl hiv11 dX6_coming_31 ?_
        refine s_nmi ev11 ?_
        refine s_aload_n C 0 dX6_coming_32 rfl ?_
        refine gf_508 C 0 rfl rfl dX6_coming_33 ?_
        refine s_iconst (v := 3) C dX6_coming_36 (by decide) ?_
        obtain ⟨v12, hiv12, ev12, hf⟩ := rd_inv hf
        refine s_iald C 1 rfl hiv12 dX6_coming_37 ?_
        refine s_nmi ev12 ?_
        refine s_icmp_gt C 53 dX6_coming_38 (by decide) (fun c13 => ?_) (fun c13 => ?_)
        · rw [if_pos c13] at hf
          obtain ⟨y14, ey14, hf⟩ := bd_inv hf
          refine s_iinc (v := y14) C 3 [(3, .int y14), (0, .ref h), (1, .int x1), (2, .int x2)] dX6_coming_53 rfl (by rw [ey14]; rfl) (by decide) rfl ?_
          refine s_goto C 11 dX6_coming_56 (by decide) ?_
          refine s_lv [1, 2, 3, 0] rfl ?_
          exact ih _ _ _ _ _ _ _ _ hf
        · rw [if_neg c13] at hf
          refine s_aload_n C 0 dX6_coming_41 rfl ?_
          refine s_iload_n C 2 dX6_coming_42 rfl ?_
          refine s_iload_n C 3 dX6_coming_43 rfl ?_
          obtain ⟨st16, wt17, sm18, ld19, ln20, er15, hf⟩ := bMv_inv hf
          refine s_cV_V (As := [.int x2, .int x3]) (rest := []) (ci := 6) (q := 0) C (c_X6_comes l G A h a1 a2 a3 X x2 x3 st3 wt4 sm5 ld6 ln7 _ _ _ _ _ er15) g_RX6_129 hd_X6_comes rfl ⟨Nat.le_of_ble_eq_true rfl, Nat.le_of_ble_eq_true rfl⟩ rfl rfl rfl (Nat.le_of_ble_eq_true rfl) ⟨Nat.le_of_ble_eq_true rfl, Nat.le_of_ble_eq_true rfl⟩ dX6_coming_44 ?_
          obtain ⟨y21, ey21, hf⟩ := bd_inv hf
          refine s_iinc (v := y21) C 1 [(1, .int y21), (0, .ref h), (2, .int x2), (3, .int x3)] dX6_coming_47 rfl (by rw [ey21]; rfl) (by decide) rfl ?_
          refine s_goto C 11 dX6_coming_50 (by decide) ?_
          refine s_lv [1, 0, 2, 3] rfl ?_
          exact ih _ _ _ _ _ _ _ _ hf
  have B_4 : ∀  (fu : Nat) (x1 : Int32) (x2 : Int32) (st : Nat → Int32) (wt : Int32) (sm : Int64) (ld : Int32) (ln : Int32), f_X6_coming_4 fu x1 x2 st wt sm ld ln = some (r0, st0, wt0, sm0, ld0, ln0) → St l G A Γ 0 0 (wM G h a1 a2 a3 X st wt sm ld ln) 4 [(0, .ref h), (1, .int x1), (2, .int x2)] [] := by
    intro fu
    induction fu with
    | zero => intro x1 x2 st wt sm ld ln hf ; rw [f_X6_coming_4] at hf; cases hf
    | succ fu ih =>
      intro x1 x2 st wt sm ld ln hf 
      rw [f_X6_coming_4] at hf
      refine s_iload_n C 2 dX6_coming_4 rfl ?_
      refine s_iconst (v := 2) C dX6_coming_5 (by decide) ?_
      refine s_icmp_ge C 65 dX6_coming_6 (by decide) (fun c1 => ?_) (fun c1 => ?_)
      · rw [if_pos c1] at hf
        refine s_iload_n C 1 dX6_coming_65 rfl ?_
        exact rM_I hf (vp_nar_int _) hret dX6_coming_66
      · rw [if_neg c1] at hf
        refine s_iconst (v := 0) C dX6_coming_9 (by decide) ?_
        refine s_istore_n C [(3, .int 0), (0, .ref h), (1, .int x1), (2, .int x2)] dX6_coming_10 (by decide) rfl ?_
        refine s_lv [1, 2, 3, 0] rfl ?_
        exact B_11 _ _ _ _ _ _ _ _ _ _ hf ih
  unfold f_X6_coming at hf
  refine s_iconst (v := 0) C dX6_coming_0 (by decide) ?_
  refine s_istore_n C [(1, .int 0), (0, .ref h)] dX6_coming_1 (by decide) rfl ?_
  refine s_iconst (v := 0) C dX6_coming_2 (by decide) ?_
  refine s_istore_n C [(2, .int 0), (1, .int 0), (0, .ref h)] dX6_coming_3 (by decide) rfl ?_
  refine s_lv [2, 1, 0] rfl ?_
  exact B_4 _ _ _ _ _ _ _ _ hf
theorem c_X6_coming (l : Launch) (G : GG) (A : Nat → Prop) (h : Nat) (a1 : Nat) (a2 : Nat) (a3 : Nat) (X : va_W) (st : Nat → Int32) (wt : Int32) (sm : Int64) (ld : Int32) (ln : Int32) (r0 : Int32) (st0 : Nat → Int32) (wt0 : Int32) (sm0 : Int64) (ld0 : Int32) (ln0 : Int32) (hf : f_X6_coming st wt sm ld ln = some (r0, st0, wt0, sm0, ld0, ln0)) : MI l yX6_coming cX6_coming 4 .int ({ frames := 6, cells := 0, slots := 0, locals := 137 } : Room) G A (wM G h a1 a2 a3 X st wt sm ld ln) [.ref h] r0 (wM G h a1 a2 a3 X st0 wt0 sm0 ld0 ln0) :=
  e_I (by decide) (Nat.le_of_ble_eq_true rfl) (fun Γ C hret => k_X6_coming C _ _ _ _ _ _ _ _ _ _ _ _ _ _ _ _ hf hret)
def f_X6_timers_48  (x1 : Int32) (x2 : Int32) (s0 : Int32) (s1 : Int32) (st : Nat → Int32) (wt : Int32) (sm : Int64) (ld : Int32) (ln : Int32) : Option ((Nat → Int32) × Int32 × Int64 × Int32 × Int32) :=
  wr st 8000 s1 s0 fun st6 =>
  rd st6 8000 (x2 + 2) fun v7 =>
  if v7 ≤ 0 then (some (st6, wt, sm, ld, ln))
  else (rd st6 8000 (x2 + 6) fun v9 =>
  if v9 = 0 then (bd ((x2 + 4)) fun y11 =>
  rd st6 8000 y11 fun v12 =>
  bd ((v12 + 1)) fun y13 =>
  wr st6 8000 y11 y13 fun st14 =>
  rd st14 8000 (x2 + 4) fun v15 =>
  rd st14 8000 1 fun v16 =>
  if v15 < v16 then (some (st14, wt, sm, ld, ln))
  else (bMv (f_X6_sendsAgain x1 st14 wt sm ld ln) fun st19 wt20 sm21 ld22 ln23 =>
  some (st19, wt20, sm21, ld22, ln23)))
  else (some (st6, wt, sm, ld, ln)))
def f_X6_timers (x1 : Int32) (st : Nat → Int32) (wt : Int32) (sm : Int64) (ld : Int32) (ln : Int32) : Option ((Nat → Int32) × Int32 × Int64 × Int32 × Int32) :=
  bx (f_X6_endAt x1) fun r1 =>
  rd st 8000 (r1 + 9) fun v2 =>
  if v2 ≤ 0 then (rd st 8000 (r1 + 9) fun v4 =>
  f_X6_timers_48 x1 r1 v4 ((r1 + 9)) st wt sm ld ln)
  else (rd st 8000 (r1 + 9) fun v5 =>
  f_X6_timers_48 x1 r1 ((v5 - 1)) ((r1 + 9)) st wt sm ld ln)
set_option maxHeartbeats 4000000 in
set_option maxRecDepth 100000 in
theorem k_X6_timers {l : Launch} {G : GG} {A : Nat → Prop} {Γ : Cx} (C : CX G A Γ cX6_timers RX6 ({ frames := 4, cells := 0, slots := 0, locals := 87 } : Room) 3) (h : Nat) (a1 : Nat) (a2 : Nat) (a3 : Nat) (X : va_W) (x1 : Int32) (st : Nat → Int32) (wt : Int32) (sm : Int64) (ld : Int32) (ln : Int32) (st0 : Nat → Int32) (wt0 : Int32) (sm0 : Int64) (ld0 : Int32) (ln0 : Int32) (hf : f_X6_timers x1 st wt sm ld ln = some (st0, wt0, sm0, ld0, ln0)) (hret : ∀ (pc : Nat) (lv : List (Nat × Value)), decode cX6_timers pc = .ok (.return_, 1) → St l G A Γ 0 0 (wM G h a1 a2 a3 X st0 wt0 sm0 ld0 ln0) pc lv []) : St l G A Γ 0 0 (wM G h a1 a2 a3 X st wt sm ld ln) 0 [(0, .ref h), (1, .int x1)] [] := by
  have B_48 : ∀  (x1 : Int32) (x2 : Int32) (s0 : Int32) (s1 : Int32) (st : Nat → Int32) (wt : Int32) (sm : Int64) (ld : Int32) (ln : Int32), f_X6_timers_48 x1 x2 s0 s1 st wt sm ld ln = some (st0, wt0, sm0, ld0, ln0) → St l G A Γ 0 0 (wM G h a1 a2 a3 X st wt sm ld ln) 48 [(0, .ref h), (1, .int x1), (2, .int x2)] [.int s0, .int s1, .ref a1] := by
    intro  x1 x2 s0 s1 st wt sm ld ln hf 
    unfold f_X6_timers_48 at hf
    obtain ⟨st6, hist6, est6, hf⟩ := wr_inv hf
    refine s_iast C 1 rfl hist6 (wM G h a1 a2 a3 X st6 wt sm ld ln) (by rw [est6]; rfl) dX6_timers_48 ?_
    refine s_aload_n C 0 dX6_timers_49 rfl ?_
    refine gf_508 C 0 rfl rfl dX6_timers_50 ?_
    refine s_iload_n C 2 dX6_timers_53 rfl ?_
    refine s_iconst (v := 2) C dX6_timers_54 (by decide) ?_
    refine s_iadd C dX6_timers_55 ?_
    obtain ⟨v7, hiv7, ev7, hf⟩ := rd_inv hf
    refine s_iald C 1 rfl hiv7 dX6_timers_56 ?_
    refine s_nmi ev7 ?_
    refine s_if_le C 106 dX6_timers_57 (by decide) (fun c8 => ?_) (fun c8 => ?_)
    · rw [if_pos c8] at hf
      exact rM_V hf hret dX6_timers_106
    · rw [if_neg c8] at hf
      refine s_aload_n C 0 dX6_timers_60 rfl ?_
      refine gf_508 C 0 rfl rfl dX6_timers_61 ?_
      refine s_iload_n C 2 dX6_timers_64 rfl ?_
      refine s_bipush (v := 6) C dX6_timers_65 (by decide) ?_
      refine s_iadd C dX6_timers_67 ?_
      obtain ⟨v9, hiv9, ev9, hf⟩ := rd_inv hf
      refine s_iald C 1 rfl hiv9 dX6_timers_68 ?_
      refine s_nmi ev9 ?_
      refine s_if_ne C 106 dX6_timers_69 (by decide) (fun c10 => ?_) (fun c10 => ?_)
      · rw [if_neg c10] at hf
        exact rM_V hf hret dX6_timers_106
      · rw [if_pos c10] at hf
        refine s_aload_n C 0 dX6_timers_72 rfl ?_
        refine gf_508 C 0 rfl rfl dX6_timers_73 ?_
        refine s_iload_n C 2 dX6_timers_76 rfl ?_
        refine s_iconst (v := 4) C dX6_timers_77 (by decide) ?_
        refine s_iadd C dX6_timers_78 ?_
        obtain ⟨y11, ey11, hf⟩ := bd_inv hf
        refine s_nmi ey11 ?_
        refine s_dup2 C dX6_timers_79 rfl rfl ?_
        obtain ⟨v12, hiv12, ev12, hf⟩ := rd_inv hf
        refine s_iald C 1 rfl hiv12 dX6_timers_80 ?_
        refine s_nmi ev12 ?_
        refine s_iconst (v := 1) C dX6_timers_81 (by decide) ?_
        refine s_iadd C dX6_timers_82 ?_
        obtain ⟨y13, ey13, hf⟩ := bd_inv hf
        refine s_nmi ey13 ?_
        obtain ⟨st14, hist14, est14, hf⟩ := wr_inv hf
        refine s_iast C 1 rfl hist14 (wM G h a1 a2 a3 X st14 wt sm ld ln) (by rw [est14]; rfl) dX6_timers_83 ?_
        refine s_aload_n C 0 dX6_timers_84 rfl ?_
        refine gf_508 C 0 rfl rfl dX6_timers_85 ?_
        refine s_iload_n C 2 dX6_timers_88 rfl ?_
        refine s_iconst (v := 4) C dX6_timers_89 (by decide) ?_
        refine s_iadd C dX6_timers_90 ?_
        obtain ⟨v15, hiv15, ev15, hf⟩ := rd_inv hf
        refine s_iald C 1 rfl hiv15 dX6_timers_91 ?_
        refine s_nmi ev15 ?_
        refine s_aload_n C 0 dX6_timers_92 rfl ?_
        refine gf_508 C 0 rfl rfl dX6_timers_93 ?_
        refine s_iconst (v := 1) C dX6_timers_96 (by decide) ?_
        obtain ⟨v16, hiv16, ev16, hf⟩ := rd_inv hf
        refine s_iald C 1 rfl hiv16 dX6_timers_97 ?_
        refine s_nmi ev16 ?_
        refine s_icmp_lt C 106 dX6_timers_98 (by decide) (fun c17 => ?_) (fun c17 => ?_)
        · rw [if_pos c17] at hf
          exact rM_V hf hret dX6_timers_106
        · rw [if_neg c17] at hf
          refine s_aload_n C 0 dX6_timers_101 rfl ?_
          refine s_iload_n C 1 dX6_timers_102 rfl ?_
          obtain ⟨st19, wt20, sm21, ld22, ln23, er18, hf⟩ := bMv_inv hf
          refine s_cV_V (As := [.int x1]) (rest := []) (ci := 6) (q := 0) C (c_X6_sendsAgain l G A h a1 a2 a3 X x1 st14 wt sm ld ln _ _ _ _ _ er18) g_RX6_107 hd_X6_sendsAgain rfl ⟨Nat.le_of_ble_eq_true rfl, Nat.le_of_ble_eq_true rfl⟩ rfl rfl rfl (Nat.le_of_ble_eq_true rfl) ⟨Nat.le_of_ble_eq_true rfl, Nat.le_of_ble_eq_true rfl⟩ dX6_timers_103 ?_
          exact rM_V hf hret dX6_timers_106
  unfold f_X6_timers at hf
  refine s_iload_n C 1 dX6_timers_0 rfl ?_
  obtain ⟨r1, er1, hf⟩ := bx_inv hf
  refine s_cS_I (As := [.int x1]) (rest := []) C (c_X6_endAt l G A _ x1 _ er1) g_RX6_20 hd_X6_endAt rfl ⟨Nat.le_of_ble_eq_true rfl, Nat.le_of_ble_eq_true rfl⟩ rfl (Nat.le_of_ble_eq_true rfl) ⟨Nat.le_of_ble_eq_true rfl, Nat.le_of_ble_eq_true rfl⟩ dX6_timers_1 ?_
  refine s_istore_n C [(2, .int r1), (0, .ref h), (1, .int x1)] dX6_timers_4 (by decide) rfl ?_
  refine s_aload_n C 1 dX6_timers_5 rfl ?_
  refine gf_508 C 0 rfl rfl dX6_timers_6 ?_
  refine s_iload_n C 0 dX6_timers_9 rfl ?_
  refine s_bipush (v := 9) C dX6_timers_10 (by decide) ?_
  refine s_iadd C dX6_timers_12 ?_
  refine s_aload_n C 1 dX6_timers_13 rfl ?_
  refine gf_508 C 0 rfl rfl dX6_timers_14 ?_
  refine s_iload_n C 0 dX6_timers_17 rfl ?_
  refine s_bipush (v := 9) C dX6_timers_18 (by decide) ?_
  refine s_iadd C dX6_timers_20 ?_
  obtain ⟨v2, hiv2, ev2, hf⟩ := rd_inv hf
  refine s_iald C 1 rfl hiv2 dX6_timers_21 ?_
  refine s_nmi ev2 ?_
  refine s_if_le C 39 dX6_timers_22 (by decide) (fun c3 => ?_) (fun c3 => ?_)
  · rw [if_pos c3] at hf
    refine s_aload_n C 1 dX6_timers_39 rfl ?_
    refine gf_508 C 0 rfl rfl dX6_timers_40 ?_
    refine s_iload_n C 0 dX6_timers_43 rfl ?_
    refine s_bipush (v := 9) C dX6_timers_44 (by decide) ?_
    refine s_iadd C dX6_timers_46 ?_
    obtain ⟨v4, hiv4, ev4, hf⟩ := rd_inv hf
    refine s_iald C 1 rfl hiv4 dX6_timers_47 ?_
    refine s_nmi ev4 ?_
    refine s_lv [1, 2, 0] rfl ?_
    exact B_48 _ _ _ _ _ _ _ _ _ hf
  · rw [if_neg c3] at hf
    refine s_aload_n C 1 dX6_timers_25 rfl ?_
    refine gf_508 C 0 rfl rfl dX6_timers_26 ?_
    refine s_iload_n C 0 dX6_timers_29 rfl ?_
    refine s_bipush (v := 9) C dX6_timers_30 (by decide) ?_
    refine s_iadd C dX6_timers_32 ?_
    obtain ⟨v5, hiv5, ev5, hf⟩ := rd_inv hf
    refine s_iald C 1 rfl hiv5 dX6_timers_33 ?_
    refine s_nmi ev5 ?_
    refine s_iconst (v := 1) C dX6_timers_34 (by decide) ?_
    refine s_isub C dX6_timers_35 ?_
    refine s_goto C 48 dX6_timers_36 (by decide) ?_
    refine s_lv [1, 2, 0] rfl ?_
    exact B_48 _ _ _ _ _ _ _ _ _ hf
theorem c_X6_timers (l : Launch) (G : GG) (A : Nat → Prop) (h : Nat) (a1 : Nat) (a2 : Nat) (a3 : Nat) (X : va_W) (x1 : Int32) (st : Nat → Int32) (wt : Int32) (sm : Int64) (ld : Int32) (ln : Int32) (st0 : Nat → Int32) (wt0 : Int32) (sm0 : Int64) (ld0 : Int32) (ln0 : Int32) (hf : f_X6_timers x1 st wt sm ld ln = some (st0, wt0, sm0, ld0, ln0)) : MV l yX6_timers cX6_timers 3 ({ frames := 4, cells := 0, slots := 0, locals := 87 } : Room) G A (wM G h a1 a2 a3 X st wt sm ld ln) [.ref h, .int x1] (wM G h a1 a2 a3 X st0 wt0 sm0 ld0 ln0) :=
  e_V (by decide) (Nat.le_of_ble_eq_true rfl) (fun Γ C hret => k_X6_timers C _ _ _ _ _ _ _ _ _ _ _ _ _ _ _ _ hf hret)
def f_X6_laying_245  (x2 : Int32) (x3 : Int32) (s0 : Int32) (s1 : Int32) (st : Nat → Int32) (wt : Int32) (sm : Int64) (ld : Int32) (ln : Int32) : Option ((Nat → Int32) × Int32 × Int64 × Int32 × Int32) :=
  bd ((s1 + s0)) fun y64 =>
  rd st 8000 y64 fun v65 =>
  bd ((v65 + 1)) fun y66 =>
  wr st 8000 y64 y66 fun st67 =>
  if x3 = 0 then (bd ((x2 + 1)) fun y69 =>
  rd st67 8000 y69 fun v70 =>
  bd ((v70 + 1)) fun y71 =>
  wr st67 8000 y69 y71 fun st72 =>
  bd ((x2 + 2)) fun y73 =>
  rd st72 8000 y73 fun v74 =>
  bd ((v74 + 1)) fun y75 =>
  wr st72 8000 y73 y75 fun st76 =>
  some (st76, wt, sm, ld, ln))
  else (some (st67, wt, sm, ld, ln))
def f_X6_laying_205  (x1 : Int32) (x2 : Int32) (s0 : Int32) (st : Nat → Int32) (wt : Int32) (sm : Int64) (ld : Int32) (ln : Int32) : Option ((Nat → Int32) × Int32 × Int64 × Int32 × Int32) :=
  rd st 8000 (x2 + 1) fun v55 =>
  bMv (f_X6_laysData x1 v55 s0 st wt sm ld ln) fun st57 wt58 sm59 ld60 ln61 =>
  wr st57 8000 (x2 + 12) 0 fun st62 =>
  if s0 = 0 then (f_X6_laying_245 x2 s0 0 7 st62 wt58 sm59 ld60 ln61)
  else (f_X6_laying_245 x2 s0 2 7 st62 wt58 sm59 ld60 ln61)
def f_X6_laying (x1 : Int32) (st : Nat → Int32) (wt : Int32) (sm : Int64) (ld : Int32) (ln : Int32) : Option ((Nat → Int32) × Int32 × Int64 × Int32 × Int32) :=
  bx (f_X6_endAt x1) fun r1 =>
  rd st 8000 (r1 + 10) fun v2 =>
  if v2 = 1 then (wr st 8000 (r1 + 10) 0 fun st44 =>
  wr st44 8000 (r1 + 9) (-4) fun st45 =>
  bMv (f_X6_laysWord x1 16 st45 wt sm ld ln) fun st47 wt48 sm49 ld50 ln51 =>
  rd st47 8000 11 fun v52 =>
  bd ((v52 + 1)) fun y53 =>
  wr st47 8000 11 y53 fun st54 =>
  some (st54, wt48, sm49, ld50, ln51))
  else (rd st 8000 (r1 + 9) fun v4 =>
  if v4 = 0 then (wr st 8000 (r1 + 9) (-4) fun st34 =>
  bMv (f_X6_laysWord x1 0 st34 wt sm ld ln) fun st36 wt37 sm38 ld39 ln40 =>
  rd st36 8000 10 fun v41 =>
  bd ((v41 + 1)) fun y42 =>
  wr st36 8000 10 y42 fun st43 =>
  some (st43, wt37, sm38, ld39, ln40))
  else (rd st 8000 (r1 + 6) fun v6 =>
  if v6 ≤ 0 then (rd st 8000 (r1 + 2) fun v8 =>
  if 8 ≤ v8 then (some (st, wt, sm, ld, ln))
  else (bM (f_X6_waiting x1 st wt sm ld ln) fun r10 st11 wt12 sm13 ld14 ln15 =>
  if r10 ≤ 0 then (some (st11, wt12, sm13, ld14, ln15))
  else (rd st11 8000 (r1 + 12) fun v17 =>
  if v17 = 1 then (f_X6_laying_205 x1 r1 1 st11 wt12 sm13 ld14 ln15)
  else (f_X6_laying_205 x1 r1 0 st11 wt12 sm13 ld14 ln15))))
  else (rd st 8000 (r1 + 1) fun v19 =>
  rd st 8000 (r1 + 6) fun v20 =>
  bMv (f_X6_laysData x1 (v19 - v20) 0 st wt sm ld ln) fun st22 wt23 sm24 ld25 ln26 =>
  bd ((r1 + 6)) fun y27 =>
  rd st22 8000 y27 fun v28 =>
  bd ((v28 - 1)) fun y29 =>
  wr st22 8000 y27 y29 fun st30 =>
  rd st30 8000 8 fun v31 =>
  bd ((v31 + 1)) fun y32 =>
  wr st30 8000 8 y32 fun st33 =>
  some (st33, wt23, sm24, ld25, ln26))))
set_option maxHeartbeats 4000000 in
set_option maxRecDepth 100000 in
theorem k_X6_laying {l : Launch} {G : GG} {A : Nat → Prop} {Γ : Cx} (C : CX G A Γ cX6_laying RX6 ({ frames := 5, cells := 0, slots := 0, locals := 114 } : Room) 4) (h : Nat) (a1 : Nat) (a2 : Nat) (a3 : Nat) (X : va_W) (x1 : Int32) (st : Nat → Int32) (wt : Int32) (sm : Int64) (ld : Int32) (ln : Int32) (st0 : Nat → Int32) (wt0 : Int32) (sm0 : Int64) (ld0 : Int32) (ln0 : Int32) (hf : f_X6_laying x1 st wt sm ld ln = some (st0, wt0, sm0, ld0, ln0)) (hret : ∀ (pc : Nat) (lv : List (Nat × Value)), decode cX6_laying pc = .ok (.return_, 1) → St l G A Γ 0 0 (wM G h a1 a2 a3 X st0 wt0 sm0 ld0 ln0) pc lv []) : St l G A Γ 0 0 (wM G h a1 a2 a3 X st wt sm ld ln) 0 [(0, .ref h), (1, .int x1)] [] := by
  have B_245 : ∀  (x2 : Int32) (x3 : Int32) (s0 : Int32) (s1 : Int32) (st : Nat → Int32) (wt : Int32) (sm : Int64) (ld : Int32) (ln : Int32), f_X6_laying_245 x2 x3 s0 s1 st wt sm ld ln = some (st0, wt0, sm0, ld0, ln0) → St l G A Γ 0 0 (wM G h a1 a2 a3 X st wt sm ld ln) 245 [(0, .ref h), (2, .int x2), (3, .int x3)] [.int s0, .int s1, .ref a1] := by
    intro  x2 x3 s0 s1 st wt sm ld ln hf 
    unfold f_X6_laying_245 at hf
    refine s_iadd C dX6_laying_245 ?_
    obtain ⟨y64, ey64, hf⟩ := bd_inv hf
    refine s_nmi ey64 ?_
    refine s_dup2 C dX6_laying_246 rfl rfl ?_
    obtain ⟨v65, hiv65, ev65, hf⟩ := rd_inv hf
    refine s_iald C 1 rfl hiv65 dX6_laying_247 ?_
    refine s_nmi ev65 ?_
    refine s_iconst (v := 1) C dX6_laying_248 (by decide) ?_
    refine s_iadd C dX6_laying_249 ?_
    obtain ⟨y66, ey66, hf⟩ := bd_inv hf
    refine s_nmi ey66 ?_
    obtain ⟨st67, hist67, est67, hf⟩ := wr_inv hf
    refine s_iast C 1 rfl hist67 (wM G h a1 a2 a3 X st67 wt sm ld ln) (by rw [est67]; rfl) dX6_laying_250 ?_
    refine s_iload_n C 2 dX6_laying_251 rfl ?_
    refine s_if_ne C 279 dX6_laying_252 (by decide) (fun c68 => ?_) (fun c68 => ?_)
    · rw [if_neg c68] at hf
      exact rM_V hf hret dX6_laying_279
    · rw [if_pos c68] at hf
      refine s_aload_n C 0 dX6_laying_255 rfl ?_
      refine gf_508 C 0 rfl rfl dX6_laying_256 ?_
      refine s_iload_n C 1 dX6_laying_259 rfl ?_
      refine s_iconst (v := 1) C dX6_laying_260 (by decide) ?_
      refine s_iadd C dX6_laying_261 ?_
      obtain ⟨y69, ey69, hf⟩ := bd_inv hf
      refine s_nmi ey69 ?_
      refine s_dup2 C dX6_laying_262 rfl rfl ?_
      obtain ⟨v70, hiv70, ev70, hf⟩ := rd_inv hf
      refine s_iald C 1 rfl hiv70 dX6_laying_263 ?_
      refine s_nmi ev70 ?_
      refine s_iconst (v := 1) C dX6_laying_264 (by decide) ?_
      refine s_iadd C dX6_laying_265 ?_
      obtain ⟨y71, ey71, hf⟩ := bd_inv hf
      refine s_nmi ey71 ?_
      obtain ⟨st72, hist72, est72, hf⟩ := wr_inv hf
      refine s_iast C 1 rfl hist72 (wM G h a1 a2 a3 X st72 wt sm ld ln) (by rw [est72]; rfl) dX6_laying_266 ?_
      refine s_aload_n C 0 dX6_laying_267 rfl ?_
      refine gf_508 C 0 rfl rfl dX6_laying_268 ?_
      refine s_iload_n C 1 dX6_laying_271 rfl ?_
      refine s_iconst (v := 2) C dX6_laying_272 (by decide) ?_
      refine s_iadd C dX6_laying_273 ?_
      obtain ⟨y73, ey73, hf⟩ := bd_inv hf
      refine s_nmi ey73 ?_
      refine s_dup2 C dX6_laying_274 rfl rfl ?_
      obtain ⟨v74, hiv74, ev74, hf⟩ := rd_inv hf
      refine s_iald C 1 rfl hiv74 dX6_laying_275 ?_
      refine s_nmi ev74 ?_
      refine s_iconst (v := 1) C dX6_laying_276 (by decide) ?_
      refine s_iadd C dX6_laying_277 ?_
      obtain ⟨y75, ey75, hf⟩ := bd_inv hf
      refine s_nmi ey75 ?_
      obtain ⟨st76, hist76, est76, hf⟩ := wr_inv hf
      refine s_iast C 1 rfl hist76 (wM G h a1 a2 a3 X st76 wt sm ld ln) (by rw [est76]; rfl) dX6_laying_278 ?_
      exact rM_V hf hret dX6_laying_279
  have B_205 : ∀  (x1 : Int32) (x2 : Int32) (s0 : Int32) (st : Nat → Int32) (wt : Int32) (sm : Int64) (ld : Int32) (ln : Int32), f_X6_laying_205 x1 x2 s0 st wt sm ld ln = some (st0, wt0, sm0, ld0, ln0) → St l G A Γ 0 0 (wM G h a1 a2 a3 X st wt sm ld ln) 205 [(0, .ref h), (1, .int x1), (2, .int x2)] [.int s0] := by
    intro  x1 x2 s0 st wt sm ld ln hf 
    unfold f_X6_laying_205 at hf
    refine s_istore_n C [(3, .int s0), (0, .ref h), (1, .int x1), (2, .int x2)] dX6_laying_205 (by decide) rfl ?_
    refine s_aload_n C 1 dX6_laying_206 rfl ?_
    refine s_iload_n C 2 dX6_laying_207 rfl ?_
    refine s_aload_n C 1 dX6_laying_208 rfl ?_
    refine gf_508 C 0 rfl rfl dX6_laying_209 ?_
    refine s_iload_n C 3 dX6_laying_212 rfl ?_
    refine s_iconst (v := 1) C dX6_laying_213 (by decide) ?_
    refine s_iadd C dX6_laying_214 ?_
    obtain ⟨v55, hiv55, ev55, hf⟩ := rd_inv hf
    refine s_iald C 1 rfl hiv55 dX6_laying_215 ?_
    refine s_nmi ev55 ?_
    refine s_iload_n C 0 dX6_laying_216 rfl ?_
    obtain ⟨st57, wt58, sm59, ld60, ln61, er56, hf⟩ := bMv_inv hf
    refine s_cV_V (As := [.int x1, .int v55, .int s0]) (rest := []) (ci := 6) (q := 0) C (c_X6_laysData l G A h a1 a2 a3 X x1 v55 s0 st wt sm ld ln _ _ _ _ _ er56) g_RX6_135 hd_X6_laysData rfl ⟨Nat.le_of_ble_eq_true rfl, Nat.le_of_ble_eq_true rfl⟩ rfl rfl rfl (Nat.le_of_ble_eq_true rfl) ⟨Nat.le_of_ble_eq_true rfl, Nat.le_of_ble_eq_true rfl⟩ dX6_laying_217 ?_
    refine s_aload_n C 1 dX6_laying_220 rfl ?_
    refine gf_508 C 0 rfl rfl dX6_laying_221 ?_
    refine s_iload_n C 3 dX6_laying_224 rfl ?_
    refine s_bipush (v := 12) C dX6_laying_225 (by decide) ?_
    refine s_iadd C dX6_laying_227 ?_
    refine s_iconst (v := 0) C dX6_laying_228 (by decide) ?_
    obtain ⟨st62, hist62, est62, hf⟩ := wr_inv hf
    refine s_iast C 1 rfl hist62 (wM G h a1 a2 a3 X st62 wt58 sm59 ld60 ln61) (by rw [est62]; rfl) dX6_laying_229 ?_
    refine s_aload_n C 1 dX6_laying_230 rfl ?_
    refine gf_508 C 0 rfl rfl dX6_laying_231 ?_
    refine s_bipush (v := 7) C dX6_laying_234 (by decide) ?_
    refine s_iload_n C 0 dX6_laying_236 rfl ?_
    refine s_if_eq C 244 dX6_laying_237 (by decide) (fun c63 => ?_) (fun c63 => ?_)
    · rw [if_pos c63] at hf
      refine s_iconst (v := 0) C dX6_laying_244 (by decide) ?_
      refine s_lv [1, 3, 0] rfl ?_
      exact B_245 _ _ _ _ _ _ _ _ _ hf
    · rw [if_neg c63] at hf
      refine s_iconst (v := 2) C dX6_laying_240 (by decide) ?_
      refine s_goto C 245 dX6_laying_241 (by decide) ?_
      refine s_lv [1, 3, 0] rfl ?_
      exact B_245 _ _ _ _ _ _ _ _ _ hf
  unfold f_X6_laying at hf
  refine s_iload_n C 1 dX6_laying_0 rfl ?_
  obtain ⟨r1, er1, hf⟩ := bx_inv hf
  refine s_cS_I (As := [.int x1]) (rest := []) C (c_X6_endAt l G A _ x1 _ er1) g_RX6_20 hd_X6_endAt rfl ⟨Nat.le_of_ble_eq_true rfl, Nat.le_of_ble_eq_true rfl⟩ rfl (Nat.le_of_ble_eq_true rfl) ⟨Nat.le_of_ble_eq_true rfl, Nat.le_of_ble_eq_true rfl⟩ dX6_laying_1 ?_
  refine s_istore_n C [(2, .int r1), (0, .ref h), (1, .int x1)] dX6_laying_4 (by decide) rfl ?_
  refine s_aload_n C 1 dX6_laying_5 rfl ?_
  refine gf_508 C 0 rfl rfl dX6_laying_6 ?_
  refine s_iload_n C 0 dX6_laying_9 rfl ?_
  refine s_bipush (v := 10) C dX6_laying_10 (by decide) ?_
  refine s_iadd C dX6_laying_12 ?_
  obtain ⟨v2, hiv2, ev2, hf⟩ := rd_inv hf
  refine s_iald C 1 rfl hiv2 dX6_laying_13 ?_
  refine s_nmi ev2 ?_
  refine s_iconst (v := 1) C dX6_laying_14 (by decide) ?_
  refine s_icmp_ne C 60 dX6_laying_15 (by decide) (fun c3 => ?_) (fun c3 => ?_)
  · rw [if_neg c3] at hf
    refine s_aload_n C 1 dX6_laying_60 rfl ?_
    refine gf_508 C 0 rfl rfl dX6_laying_61 ?_
    refine s_iload_n C 0 dX6_laying_64 rfl ?_
    refine s_bipush (v := 9) C dX6_laying_65 (by decide) ?_
    refine s_iadd C dX6_laying_67 ?_
    obtain ⟨v4, hiv4, ev4, hf⟩ := rd_inv hf
    refine s_iald C 1 rfl hiv4 dX6_laying_68 ?_
    refine s_nmi ev4 ?_
    refine s_if_ne C 103 dX6_laying_69 (by decide) (fun c5 => ?_) (fun c5 => ?_)
    · rw [if_neg c5] at hf
      refine s_aload_n C 1 dX6_laying_103 rfl ?_
      refine gf_508 C 0 rfl rfl dX6_laying_104 ?_
      refine s_iload_n C 0 dX6_laying_107 rfl ?_
      refine s_bipush (v := 6) C dX6_laying_108 (by decide) ?_
      refine s_iadd C dX6_laying_110 ?_
      obtain ⟨v6, hiv6, ev6, hf⟩ := rd_inv hf
      refine s_iald C 1 rfl hiv6 dX6_laying_111 ?_
      refine s_nmi ev6 ?_
      refine s_if_le C 166 dX6_laying_112 (by decide) (fun c7 => ?_) (fun c7 => ?_)
      · rw [if_pos c7] at hf
        refine s_aload_n C 1 dX6_laying_166 rfl ?_
        refine gf_508 C 0 rfl rfl dX6_laying_167 ?_
        refine s_iload_n C 0 dX6_laying_170 rfl ?_
        refine s_iconst (v := 2) C dX6_laying_171 (by decide) ?_
        refine s_iadd C dX6_laying_172 ?_
        obtain ⟨v8, hiv8, ev8, hf⟩ := rd_inv hf
        refine s_iald C 1 rfl hiv8 dX6_laying_173 ?_
        refine s_nmi ev8 ?_
        refine s_bipush (v := 8) C dX6_laying_174 (by decide) ?_
        refine s_icmp_ge C 279 dX6_laying_176 (by decide) (fun c9 => ?_) (fun c9 => ?_)
        · rw [if_pos c9] at hf
          exact rM_V hf hret dX6_laying_279
        · rw [if_neg c9] at hf
          refine s_aload_n C 1 dX6_laying_179 rfl ?_
          refine s_iload_n C 2 dX6_laying_180 rfl ?_
          obtain ⟨r10, st11, wt12, sm13, ld14, ln15, er10, hf⟩ := bM_inv hf
          refine s_cV_I (As := [.int x1]) (rest := []) (ci := 6) (q := 0) C (c_X6_waiting l G A h a1 a2 a3 X x1 st wt sm ld ln _ _ _ _ _ _ er10) g_RX6_51 hd_X6_waiting rfl ⟨Nat.le_of_ble_eq_true rfl, Nat.le_of_ble_eq_true rfl⟩ rfl rfl rfl (Nat.le_of_ble_eq_true rfl) ⟨Nat.le_of_ble_eq_true rfl, Nat.le_of_ble_eq_true rfl⟩ dX6_laying_181 ?_
          refine s_if_le C 279 dX6_laying_184 (by decide) (fun c16 => ?_) (fun c16 => ?_)
          · rw [if_pos c16] at hf
            exact rM_V hf hret dX6_laying_279
          · rw [if_neg c16] at hf
            refine s_aload_n C 1 dX6_laying_187 rfl ?_
            refine gf_508 C 0 rfl rfl dX6_laying_188 ?_
            refine s_iload_n C 0 dX6_laying_191 rfl ?_
            refine s_bipush (v := 12) C dX6_laying_192 (by decide) ?_
            refine s_iadd C dX6_laying_194 ?_
            obtain ⟨v17, hiv17, ev17, hf⟩ := rd_inv hf
            refine s_iald C 1 rfl hiv17 dX6_laying_195 ?_
            refine s_nmi ev17 ?_
            refine s_iconst (v := 1) C dX6_laying_196 (by decide) ?_
            refine s_icmp_ne C 204 dX6_laying_197 (by decide) (fun c18 => ?_) (fun c18 => ?_)
            · rw [if_neg c18] at hf
              refine s_iconst (v := 0) C dX6_laying_204 (by decide) ?_
              refine s_lv [1, 2, 0] rfl ?_
              exact B_205 _ _ _ _ _ _ _ _ hf
            · rw [if_pos c18] at hf
              refine s_iconst (v := 1) C dX6_laying_200 (by decide) ?_
              refine s_goto C 205 dX6_laying_201 (by decide) ?_
              refine s_lv [1, 2, 0] rfl ?_
              exact B_205 _ _ _ _ _ _ _ _ hf
      · rw [if_neg c7] at hf
        refine s_aload_n C 1 dX6_laying_115 rfl ?_
        refine s_iload_n C 2 dX6_laying_116 rfl ?_
        refine s_aload_n C 1 dX6_laying_117 rfl ?_
        refine gf_508 C 0 rfl rfl dX6_laying_118 ?_
        refine s_iload_n C 0 dX6_laying_121 rfl ?_
        refine s_iconst (v := 1) C dX6_laying_122 (by decide) ?_
        refine s_iadd C dX6_laying_123 ?_
        obtain ⟨v19, hiv19, ev19, hf⟩ := rd_inv hf
        refine s_iald C 1 rfl hiv19 dX6_laying_124 ?_
        refine s_nmi ev19 ?_
        refine s_aload_n C 1 dX6_laying_125 rfl ?_
        refine gf_508 C 0 rfl rfl dX6_laying_126 ?_
        refine s_iload_n C 0 dX6_laying_129 rfl ?_
        refine s_bipush (v := 6) C dX6_laying_130 (by decide) ?_
        refine s_iadd C dX6_laying_132 ?_
        obtain ⟨v20, hiv20, ev20, hf⟩ := rd_inv hf
        refine s_iald C 1 rfl hiv20 dX6_laying_133 ?_
        refine s_nmi ev20 ?_
        refine s_isub C dX6_laying_134 ?_
        refine s_iconst (v := 0) C dX6_laying_135 (by decide) ?_
        obtain ⟨st22, wt23, sm24, ld25, ln26, er21, hf⟩ := bMv_inv hf
        refine s_cV_V (As := [.int x1, .int (v19 - v20), .int 0]) (rest := []) (ci := 6) (q := 0) C (c_X6_laysData l G A h a1 a2 a3 X x1 (v19 - v20) 0 st wt sm ld ln _ _ _ _ _ er21) g_RX6_135 hd_X6_laysData rfl ⟨Nat.le_of_ble_eq_true rfl, Nat.le_of_ble_eq_true rfl⟩ rfl rfl rfl (Nat.le_of_ble_eq_true rfl) ⟨Nat.le_of_ble_eq_true rfl, Nat.le_of_ble_eq_true rfl⟩ dX6_laying_136 ?_
        refine s_aload_n C 1 dX6_laying_139 rfl ?_
        refine gf_508 C 0 rfl rfl dX6_laying_140 ?_
        refine s_iload_n C 0 dX6_laying_143 rfl ?_
        refine s_bipush (v := 6) C dX6_laying_144 (by decide) ?_
        refine s_iadd C dX6_laying_146 ?_
        obtain ⟨y27, ey27, hf⟩ := bd_inv hf
        refine s_nmi ey27 ?_
        refine s_dup2 C dX6_laying_147 rfl rfl ?_
        obtain ⟨v28, hiv28, ev28, hf⟩ := rd_inv hf
        refine s_iald C 1 rfl hiv28 dX6_laying_148 ?_
        refine s_nmi ev28 ?_
        refine s_iconst (v := 1) C dX6_laying_149 (by decide) ?_
        refine s_isub C dX6_laying_150 ?_
        obtain ⟨y29, ey29, hf⟩ := bd_inv hf
        refine s_nmi ey29 ?_
        obtain ⟨st30, hist30, est30, hf⟩ := wr_inv hf
        refine s_iast C 1 rfl hist30 (wM G h a1 a2 a3 X st30 wt23 sm24 ld25 ln26) (by rw [est30]; rfl) dX6_laying_151 ?_
        refine s_aload_n C 1 dX6_laying_152 rfl ?_
        refine gf_508 C 0 rfl rfl dX6_laying_153 ?_
        refine s_bipush (v := 8) C dX6_laying_156 (by decide) ?_
        refine s_dup2 C dX6_laying_158 rfl rfl ?_
        obtain ⟨v31, hiv31, ev31, hf⟩ := rd_inv hf
        refine s_iald C 1 rfl hiv31 dX6_laying_159 ?_
        refine s_nmi ev31 ?_
        refine s_iconst (v := 1) C dX6_laying_160 (by decide) ?_
        refine s_iadd C dX6_laying_161 ?_
        obtain ⟨y32, ey32, hf⟩ := bd_inv hf
        refine s_nmi ey32 ?_
        obtain ⟨st33, hist33, est33, hf⟩ := wr_inv hf
        refine s_iast C 1 rfl hist33 (wM G h a1 a2 a3 X st33 wt23 sm24 ld25 ln26) (by rw [est33]; rfl) dX6_laying_162 ?_
        refine s_goto C 279 dX6_laying_163 (by decide) ?_
        exact rM_V hf hret dX6_laying_279
    · rw [if_pos c5] at hf
      refine s_aload_n C 1 dX6_laying_72 rfl ?_
      refine gf_508 C 0 rfl rfl dX6_laying_73 ?_
      refine s_iload_n C 0 dX6_laying_76 rfl ?_
      refine s_bipush (v := 9) C dX6_laying_77 (by decide) ?_
      refine s_iadd C dX6_laying_79 ?_
      refine s_bipush (v := (-4)) C dX6_laying_80 (by decide) ?_
      obtain ⟨st34, hist34, est34, hf⟩ := wr_inv hf
      refine s_iast C 1 rfl hist34 (wM G h a1 a2 a3 X st34 wt sm ld ln) (by rw [est34]; rfl) dX6_laying_82 ?_
      refine s_aload_n C 1 dX6_laying_83 rfl ?_
      refine s_iload_n C 2 dX6_laying_84 rfl ?_
      refine s_iconst (v := 0) C dX6_laying_85 (by decide) ?_
      obtain ⟨st36, wt37, sm38, ld39, ln40, er35, hf⟩ := bMv_inv hf
      refine s_cV_V (As := [.int x1, .int 0]) (rest := []) (ci := 6) (q := 0) C (c_X6_laysWord l G A h a1 a2 a3 X x1 0 st34 wt sm ld ln _ _ _ _ _ er35) g_RX6_132 hd_X6_laysWord rfl ⟨Nat.le_of_ble_eq_true rfl, Nat.le_of_ble_eq_true rfl⟩ rfl rfl rfl (Nat.le_of_ble_eq_true rfl) ⟨Nat.le_of_ble_eq_true rfl, Nat.le_of_ble_eq_true rfl⟩ dX6_laying_86 ?_
      refine s_aload_n C 1 dX6_laying_89 rfl ?_
      refine gf_508 C 0 rfl rfl dX6_laying_90 ?_
      refine s_bipush (v := 10) C dX6_laying_93 (by decide) ?_
      refine s_dup2 C dX6_laying_95 rfl rfl ?_
      obtain ⟨v41, hiv41, ev41, hf⟩ := rd_inv hf
      refine s_iald C 1 rfl hiv41 dX6_laying_96 ?_
      refine s_nmi ev41 ?_
      refine s_iconst (v := 1) C dX6_laying_97 (by decide) ?_
      refine s_iadd C dX6_laying_98 ?_
      obtain ⟨y42, ey42, hf⟩ := bd_inv hf
      refine s_nmi ey42 ?_
      obtain ⟨st43, hist43, est43, hf⟩ := wr_inv hf
      refine s_iast C 1 rfl hist43 (wM G h a1 a2 a3 X st43 wt37 sm38 ld39 ln40) (by rw [est43]; rfl) dX6_laying_99 ?_
      refine s_goto C 279 dX6_laying_100 (by decide) ?_
      exact rM_V hf hret dX6_laying_279
  · rw [if_pos c3] at hf
    refine s_aload_n C 1 dX6_laying_18 rfl ?_
    refine gf_508 C 0 rfl rfl dX6_laying_19 ?_
    refine s_iload_n C 0 dX6_laying_22 rfl ?_
    refine s_bipush (v := 10) C dX6_laying_23 (by decide) ?_
    refine s_iadd C dX6_laying_25 ?_
    refine s_iconst (v := 0) C dX6_laying_26 (by decide) ?_
    obtain ⟨st44, hist44, est44, hf⟩ := wr_inv hf
    refine s_iast C 1 rfl hist44 (wM G h a1 a2 a3 X st44 wt sm ld ln) (by rw [est44]; rfl) dX6_laying_27 ?_
    refine s_aload_n C 1 dX6_laying_28 rfl ?_
    refine gf_508 C 0 rfl rfl dX6_laying_29 ?_
    refine s_iload_n C 0 dX6_laying_32 rfl ?_
    refine s_bipush (v := 9) C dX6_laying_33 (by decide) ?_
    refine s_iadd C dX6_laying_35 ?_
    refine s_bipush (v := (-4)) C dX6_laying_36 (by decide) ?_
    obtain ⟨st45, hist45, est45, hf⟩ := wr_inv hf
    refine s_iast C 1 rfl hist45 (wM G h a1 a2 a3 X st45 wt sm ld ln) (by rw [est45]; rfl) dX6_laying_38 ?_
    refine s_aload_n C 1 dX6_laying_39 rfl ?_
    refine s_iload_n C 2 dX6_laying_40 rfl ?_
    refine s_bipush (v := 16) C dX6_laying_41 (by decide) ?_
    obtain ⟨st47, wt48, sm49, ld50, ln51, er46, hf⟩ := bMv_inv hf
    refine s_cV_V (As := [.int x1, .int 16]) (rest := []) (ci := 6) (q := 0) C (c_X6_laysWord l G A h a1 a2 a3 X x1 16 st45 wt sm ld ln _ _ _ _ _ er46) g_RX6_132 hd_X6_laysWord rfl ⟨Nat.le_of_ble_eq_true rfl, Nat.le_of_ble_eq_true rfl⟩ rfl rfl rfl (Nat.le_of_ble_eq_true rfl) ⟨Nat.le_of_ble_eq_true rfl, Nat.le_of_ble_eq_true rfl⟩ dX6_laying_43 ?_
    refine s_aload_n C 1 dX6_laying_46 rfl ?_
    refine gf_508 C 0 rfl rfl dX6_laying_47 ?_
    refine s_bipush (v := 11) C dX6_laying_50 (by decide) ?_
    refine s_dup2 C dX6_laying_52 rfl rfl ?_
    obtain ⟨v52, hiv52, ev52, hf⟩ := rd_inv hf
    refine s_iald C 1 rfl hiv52 dX6_laying_53 ?_
    refine s_nmi ev52 ?_
    refine s_iconst (v := 1) C dX6_laying_54 (by decide) ?_
    refine s_iadd C dX6_laying_55 ?_
    obtain ⟨y53, ey53, hf⟩ := bd_inv hf
    refine s_nmi ey53 ?_
    obtain ⟨st54, hist54, est54, hf⟩ := wr_inv hf
    refine s_iast C 1 rfl hist54 (wM G h a1 a2 a3 X st54 wt48 sm49 ld50 ln51) (by rw [est54]; rfl) dX6_laying_56 ?_
    refine s_goto C 279 dX6_laying_57 (by decide) ?_
    exact rM_V hf hret dX6_laying_279
theorem c_X6_laying (l : Launch) (G : GG) (A : Nat → Prop) (h : Nat) (a1 : Nat) (a2 : Nat) (a3 : Nat) (X : va_W) (x1 : Int32) (st : Nat → Int32) (wt : Int32) (sm : Int64) (ld : Int32) (ln : Int32) (st0 : Nat → Int32) (wt0 : Int32) (sm0 : Int64) (ld0 : Int32) (ln0 : Int32) (hf : f_X6_laying x1 st wt sm ld ln = some (st0, wt0, sm0, ld0, ln0)) : MV l yX6_laying cX6_laying 4 ({ frames := 5, cells := 0, slots := 0, locals := 114 } : Room) G A (wM G h a1 a2 a3 X st wt sm ld ln) [.ref h, .int x1] (wM G h a1 a2 a3 X st0 wt0 sm0 ld0 ln0) :=
  e_V (by decide) (Nat.le_of_ble_eq_true rfl) (fun Γ C hret => k_X6_laying C _ _ _ _ _ _ _ _ _ _ _ _ _ _ _ _ hf hret)
def f_X6_ticks_99 (rec73 : Int32 → Int32 → (Nat → Int32) → Int32 → Int64 → Int32 → Int32 → Option (Int32 × (Nat → Int32) × Int32 × Int64 × Int32 × Int32)) (x1 : Int32) (x2 : Int32) (st : Nat → Int32) (wt : Int32) (sm : Int64) (ld : Int32) (ln : Int32) : Option (Int32 × (Nat → Int32) × Int32 × Int64 × Int32 × Int32) :=
  bd (x2 + 1) fun y40 =>
  rec73 x1 y40 st wt sm ld ln
def f_X6_ticks_73  : Nat → Int32 → Int32 → (Nat → Int32) → Int32 → Int64 → Int32 → Int32 → Option (Int32 × (Nat → Int32) × Int32 × Int64 × Int32 × Int32)
  | 0, _, _, _, _, _, _, _ => none
  | fu + 1, x1, x2, st, wt, sm, ld, ln =>
    if 2 ≤ x2 then (some (x1, st, wt, sm, ld, ln))
    else (if wt = 0 then (rd st 8000 4 fun v32 =>
    if v32 = 0 then (bMv (f_X6_laying x2 st wt sm ld ln) fun st35 wt36 sm37 ld38 ln39 =>
    f_X6_ticks_99 (f_X6_ticks_73 fu) x1 x2 st35 wt36 sm37 ld38 ln39)
    else (f_X6_ticks_99 (f_X6_ticks_73 fu) x1 x2 st wt sm ld ln))
    else (f_X6_ticks_99 (f_X6_ticks_73 fu) x1 x2 st wt sm ld ln))
def f_X6_ticks_71  (x1 : Int32) (st : Nat → Int32) (wt : Int32) (sm : Int64) (ld : Int32) (ln : Int32) : Option (Int32 × (Nat → Int32) × Int32 × Int64 × Int32 × Int32) :=
  f_X6_ticks_73 FU x1 0 st wt sm ld ln
def f_X6_ticks_47  (s0 : Int32) (s1 : Int32) (s2 : Int32) (st : Nat → Int32) (wt : Int32) (sm : Int64) (ld : Int32) (ln : Int32) : Option (Int32 × (Nat → Int32) × Int32 × Int64 × Int32 × Int32) :=
  bd ((s1 - s0)) fun y9 =>
  wr st 8000 s2 y9 fun st10 =>
  bM (f_X6_coming st10 wt sm ld ln) fun r11 st12 wt13 sm14 ld15 ln16 =>
  if wt13 = 0 then (bMv (f_X6_timers 0 st12 wt13 sm14 ld15 ln16) fun st19 wt20 sm21 ld22 ln23 =>
  bMv (f_X6_timers 1 st19 wt20 sm21 ld22 ln23) fun st25 wt26 sm27 ld28 ln29 =>
  f_X6_ticks_71 r11 st25 wt26 sm27 ld28 ln29)
  else (f_X6_ticks_71 r11 st12 wt13 sm14 ld15 ln16)
def f_X6_ticks_25  (s0 : Int32) (st : Nat → Int32) (wt : Int32) (sm : Int64) (ld : Int32) (ln : Int32) : Option (Int32 × (Nat → Int32) × Int32 × Int64 × Int32 × Int32) :=
  gd (bln s0) <|
  rd st 8000 4 fun v7 =>
  if s0 = 0 then (f_X6_ticks_47 0 v7 4 st s0 sm ld ln)
  else (f_X6_ticks_47 1 v7 4 st s0 sm ld ln)
def f_X6_ticks (st : Nat → Int32) (wt : Int32) (sm : Int64) (ld : Int32) (ln : Int32) : Option (Int32 × (Nat → Int32) × Int32 × Int64 × Int32 × Int32) :=
  rd st 8000 3 fun v1 =>
  bd ((v1 + 1)) fun y2 =>
  wr st 8000 3 y2 fun st3 =>
  rd st3 8000 4 fun v4 =>
  if v4 ≤ 0 then (f_X6_ticks_25 0 st3 wt sm ld ln)
  else (f_X6_ticks_25 1 st3 wt sm ld ln)
set_option maxHeartbeats 4000000 in
set_option maxRecDepth 100000 in
theorem k_X6_ticks {l : Launch} {G : GG} {A : Nat → Prop} {Γ : Cx} (C : CX G A Γ cX6_ticks RX6 ({ frames := 7, cells := 0, slots := 0, locals := 160 } : Room) 3) (h : Nat) (a1 : Nat) (a2 : Nat) (a3 : Nat) (X : va_W) (st : Nat → Int32) (wt : Int32) (sm : Int64) (ld : Int32) (ln : Int32) (r0 : Int32) (st0 : Nat → Int32) (wt0 : Int32) (sm0 : Int64) (ld0 : Int32) (ln0 : Int32) (hf : f_X6_ticks st wt sm ld ln = some (r0, st0, wt0, sm0, ld0, ln0)) (hret : ∀ (pc : Nat) (lv : List (Nat × Value)), decode cX6_ticks pc = .ok (.ireturn, 1) → narrow .int (.int r0) = .int r0 → St l G A Γ 0 0 (wM G h a1 a2 a3 X st0 wt0 sm0 ld0 ln0) pc lv [.int r0]) : St l G A Γ 0 0 (wM G h a1 a2 a3 X st wt sm ld ln) 0 [(0, .ref h)] [] := by
  have B_99 : ∀ (rec73 : Int32 → Int32 → (Nat → Int32) → Int32 → Int64 → Int32 → Int32 → Option (Int32 × (Nat → Int32) × Int32 × Int64 × Int32 × Int32)) (x1 : Int32) (x2 : Int32) (st : Nat → Int32) (wt : Int32) (sm : Int64) (ld : Int32) (ln : Int32), f_X6_ticks_99 rec73 x1 x2 st wt sm ld ln = some (r0, st0, wt0, sm0, ld0, ln0) → (∀ (x1 : Int32) (x2 : Int32) (st : Nat → Int32) (wt : Int32) (sm : Int64) (ld : Int32) (ln : Int32), rec73 x1 x2 st wt sm ld ln = some (r0, st0, wt0, sm0, ld0, ln0) → St l G A Γ 0 0 (wM G h a1 a2 a3 X st wt sm ld ln) 73 [(0, .ref h), (1, .int x1), (2, .int x2)] []) → St l G A Γ 0 0 (wM G h a1 a2 a3 X st wt sm ld ln) 99 [(0, .ref h), (1, .int x1), (2, .int x2)] [] := by
    intro rec73 x1 x2 st wt sm ld ln hf hrec73
    unfold f_X6_ticks_99 at hf
    obtain ⟨y40, ey40, hf⟩ := bd_inv hf
    refine s_iinc (v := y40) C 2 [(2, .int y40), (0, .ref h), (1, .int x1)] dX6_ticks_99 rfl (by rw [ey40]; rfl) (by decide) rfl ?_
    refine s_goto C 73 dX6_ticks_102 (by decide) ?_
    refine s_lv [1, 2, 0] rfl ?_
    exact hrec73 _ _ _ _ _ _ _ hf
  have B_73 : ∀  (fu : Nat) (x1 : Int32) (x2 : Int32) (st : Nat → Int32) (wt : Int32) (sm : Int64) (ld : Int32) (ln : Int32), f_X6_ticks_73 fu x1 x2 st wt sm ld ln = some (r0, st0, wt0, sm0, ld0, ln0) → St l G A Γ 0 0 (wM G h a1 a2 a3 X st wt sm ld ln) 73 [(0, .ref h), (1, .int x1), (2, .int x2)] [] := by
    intro fu
    induction fu with
    | zero => intro x1 x2 st wt sm ld ln hf ; rw [f_X6_ticks_73] at hf; cases hf
    | succ fu ih =>
      intro x1 x2 st wt sm ld ln hf 
      rw [f_X6_ticks_73] at hf
      refine s_iload_n C 2 dX6_ticks_73 rfl ?_
      refine s_iconst (v := 2) C dX6_ticks_74 (by decide) ?_
      refine s_icmp_ge C 105 dX6_ticks_75 (by decide) (fun c30 => ?_) (fun c30 => ?_)
      · rw [if_pos c30] at hf
        refine s_iload_n C 1 dX6_ticks_105 rfl ?_
        exact rM_I hf (vp_nar_int _) hret dX6_ticks_106
      · rw [if_neg c30] at hf
        refine s_aload_n C 0 dX6_ticks_78 rfl ?_
        refine gf_511 C 0 rfl rfl dX6_ticks_79 ?_
        refine s_if_ne C 99 dX6_ticks_82 (by decide) (fun c31 => ?_) (fun c31 => ?_)
        · rw [if_neg c31] at hf
          exact B_99 _ _ _ _ _ _ _ _ hf ih
        · rw [if_pos c31] at hf
          refine s_aload_n C 0 dX6_ticks_85 rfl ?_
          refine gf_508 C 0 rfl rfl dX6_ticks_86 ?_
          refine s_iconst (v := 4) C dX6_ticks_89 (by decide) ?_
          obtain ⟨v32, hiv32, ev32, hf⟩ := rd_inv hf
          refine s_iald C 1 rfl hiv32 dX6_ticks_90 ?_
          refine s_nmi ev32 ?_
          refine s_if_ne C 99 dX6_ticks_91 (by decide) (fun c33 => ?_) (fun c33 => ?_)
          · rw [if_neg c33] at hf
            exact B_99 _ _ _ _ _ _ _ _ hf ih
          · rw [if_pos c33] at hf
            refine s_aload_n C 0 dX6_ticks_94 rfl ?_
            refine s_iload_n C 2 dX6_ticks_95 rfl ?_
            obtain ⟨st35, wt36, sm37, ld38, ln39, er34, hf⟩ := bMv_inv hf
            refine s_cV_V (As := [.int x2]) (rest := []) (ci := 6) (q := 0) C (c_X6_laying l G A h a1 a2 a3 X x2 st wt sm ld ln _ _ _ _ _ er34) g_RX6_150 hd_X6_laying rfl ⟨Nat.le_of_ble_eq_true rfl, Nat.le_of_ble_eq_true rfl⟩ rfl rfl rfl (Nat.le_of_ble_eq_true rfl) ⟨Nat.le_of_ble_eq_true rfl, Nat.le_of_ble_eq_true rfl⟩ dX6_ticks_96 ?_
            exact B_99 _ _ _ _ _ _ _ _ hf ih
  have B_71 : ∀  (x1 : Int32) (st : Nat → Int32) (wt : Int32) (sm : Int64) (ld : Int32) (ln : Int32), f_X6_ticks_71 x1 st wt sm ld ln = some (r0, st0, wt0, sm0, ld0, ln0) → St l G A Γ 0 0 (wM G h a1 a2 a3 X st wt sm ld ln) 71 [(0, .ref h), (1, .int x1)] [] := by
    intro  x1 st wt sm ld ln hf 
    unfold f_X6_ticks_71 at hf
    refine s_iconst (v := 0) C dX6_ticks_71 (by decide) ?_
    refine s_istore_n C [(2, .int 0), (0, .ref h), (1, .int x1)] dX6_ticks_72 (by decide) rfl ?_
    refine s_lv [1, 2, 0] rfl ?_
    exact B_73 _ _ _ _ _ _ _ _ hf
  have B_47 : ∀  (s0 : Int32) (s1 : Int32) (s2 : Int32) (st : Nat → Int32) (wt : Int32) (sm : Int64) (ld : Int32) (ln : Int32), f_X6_ticks_47 s0 s1 s2 st wt sm ld ln = some (r0, st0, wt0, sm0, ld0, ln0) → St l G A Γ 0 0 (wM G h a1 a2 a3 X st wt sm ld ln) 47 [(0, .ref h)] [.int s0, .int s1, .int s2, .ref a1] := by
    intro  s0 s1 s2 st wt sm ld ln hf 
    unfold f_X6_ticks_47 at hf
    refine s_isub C dX6_ticks_47 ?_
    obtain ⟨y9, ey9, hf⟩ := bd_inv hf
    refine s_nmi ey9 ?_
    obtain ⟨st10, hist10, est10, hf⟩ := wr_inv hf
    refine s_iast C 1 rfl hist10 (wM G h a1 a2 a3 X st10 wt sm ld ln) (by rw [est10]; rfl) dX6_ticks_48 ?_
    refine s_aload_n C 0 dX6_ticks_49 rfl ?_
    obtain ⟨r11, st12, wt13, sm14, ld15, ln16, er11, hf⟩ := bM_inv hf
    refine s_cV_I (As := []) (rest := []) (ci := 6) (q := 0) C (c_X6_coming l G A h a1 a2 a3 X st10 wt sm ld ln _ _ _ _ _ _ er11) g_RX6_143 hd_X6_coming rfl ⟨Nat.le_of_ble_eq_true rfl, Nat.le_of_ble_eq_true rfl⟩ rfl rfl rfl (Nat.le_of_ble_eq_true rfl) ⟨Nat.le_of_ble_eq_true rfl, Nat.le_of_ble_eq_true rfl⟩ dX6_ticks_50 ?_
    refine s_istore_n C [(1, .int r11), (0, .ref h)] dX6_ticks_53 (by decide) rfl ?_
    refine s_aload_n C 1 dX6_ticks_54 rfl ?_
    refine gf_511 C 0 rfl rfl dX6_ticks_55 ?_
    refine s_if_ne C 71 dX6_ticks_58 (by decide) (fun c17 => ?_) (fun c17 => ?_)
    · rw [if_neg c17] at hf
      refine s_lv [1, 0] rfl ?_
      exact B_71 _ _ _ _ _ _ hf
    · rw [if_pos c17] at hf
      refine s_aload_n C 1 dX6_ticks_61 rfl ?_
      refine s_iconst (v := 0) C dX6_ticks_62 (by decide) ?_
      obtain ⟨st19, wt20, sm21, ld22, ln23, er18, hf⟩ := bMv_inv hf
      refine s_cV_V (As := [.int 0]) (rest := []) (ci := 6) (q := 0) C (c_X6_timers l G A h a1 a2 a3 X 0 st12 wt13 sm14 ld15 ln16 _ _ _ _ _ er18) g_RX6_147 hd_X6_timers rfl ⟨Nat.le_of_ble_eq_true rfl, Nat.le_of_ble_eq_true rfl⟩ rfl rfl rfl (Nat.le_of_ble_eq_true rfl) ⟨Nat.le_of_ble_eq_true rfl, Nat.le_of_ble_eq_true rfl⟩ dX6_ticks_63 ?_
      refine s_aload_n C 1 dX6_ticks_66 rfl ?_
      refine s_iconst (v := 1) C dX6_ticks_67 (by decide) ?_
      obtain ⟨st25, wt26, sm27, ld28, ln29, er24, hf⟩ := bMv_inv hf
      refine s_cV_V (As := [.int 1]) (rest := []) (ci := 6) (q := 0) C (c_X6_timers l G A h a1 a2 a3 X 1 st19 wt20 sm21 ld22 ln23 _ _ _ _ _ er24) g_RX6_147 hd_X6_timers rfl ⟨Nat.le_of_ble_eq_true rfl, Nat.le_of_ble_eq_true rfl⟩ rfl rfl rfl (Nat.le_of_ble_eq_true rfl) ⟨Nat.le_of_ble_eq_true rfl, Nat.le_of_ble_eq_true rfl⟩ dX6_ticks_68 ?_
      refine s_lv [1, 0] rfl ?_
      exact B_71 _ _ _ _ _ _ hf
  have B_25 : ∀  (s0 : Int32) (st : Nat → Int32) (wt : Int32) (sm : Int64) (ld : Int32) (ln : Int32), f_X6_ticks_25 s0 st wt sm ld ln = some (r0, st0, wt0, sm0, ld0, ln0) → St l G A Γ 0 0 (wM G h a1 a2 a3 X st wt sm ld ln) 25 [(0, .ref h)] [.int s0, .ref h] := by
    intro  s0 st wt sm ld ln hf 
    unfold f_X6_ticks_25 at hf
    obtain ⟨b6, hf⟩ := gd_inv hf
    refine pf_511 C 0 rfl (bln_n b6).1 (bln_n b6).2 (Nat.le_of_ble_eq_true rfl) (wM G h a1 a2 a3 X st s0 sm ld ln) rfl dX6_ticks_25 ?_
    refine s_aload_n C 0 dX6_ticks_28 rfl ?_
    refine gf_508 C 0 rfl rfl dX6_ticks_29 ?_
    refine s_iconst (v := 4) C dX6_ticks_32 (by decide) ?_
    refine s_dup2 C dX6_ticks_33 rfl rfl ?_
    obtain ⟨v7, hiv7, ev7, hf⟩ := rd_inv hf
    refine s_iald C 1 rfl hiv7 dX6_ticks_34 ?_
    refine s_nmi ev7 ?_
    refine s_aload_n C 0 dX6_ticks_35 rfl ?_
    refine gf_511 C 0 rfl rfl dX6_ticks_36 ?_
    refine s_if_eq C 46 dX6_ticks_39 (by decide) (fun c8 => ?_) (fun c8 => ?_)
    · rw [if_pos c8] at hf
      refine s_iconst (v := 0) C dX6_ticks_46 (by decide) ?_
      exact B_47 _ _ _ _ _ _ _ _ hf
    · rw [if_neg c8] at hf
      refine s_iconst (v := 1) C dX6_ticks_42 (by decide) ?_
      refine s_goto C 47 dX6_ticks_43 (by decide) ?_
      exact B_47 _ _ _ _ _ _ _ _ hf
  unfold f_X6_ticks at hf
  refine s_aload_n C 0 dX6_ticks_0 rfl ?_
  refine gf_508 C 0 rfl rfl dX6_ticks_1 ?_
  refine s_iconst (v := 3) C dX6_ticks_4 (by decide) ?_
  refine s_dup2 C dX6_ticks_5 rfl rfl ?_
  obtain ⟨v1, hiv1, ev1, hf⟩ := rd_inv hf
  refine s_iald C 1 rfl hiv1 dX6_ticks_6 ?_
  refine s_nmi ev1 ?_
  refine s_iconst (v := 1) C dX6_ticks_7 (by decide) ?_
  refine s_iadd C dX6_ticks_8 ?_
  obtain ⟨y2, ey2, hf⟩ := bd_inv hf
  refine s_nmi ey2 ?_
  obtain ⟨st3, hist3, est3, hf⟩ := wr_inv hf
  refine s_iast C 1 rfl hist3 (wM G h a1 a2 a3 X st3 wt sm ld ln) (by rw [est3]; rfl) dX6_ticks_9 ?_
  refine s_aload_n C 0 dX6_ticks_10 rfl ?_
  refine s_aload_n C 0 dX6_ticks_11 rfl ?_
  refine gf_508 C 0 rfl rfl dX6_ticks_12 ?_
  refine s_iconst (v := 4) C dX6_ticks_15 (by decide) ?_
  obtain ⟨v4, hiv4, ev4, hf⟩ := rd_inv hf
  refine s_iald C 1 rfl hiv4 dX6_ticks_16 ?_
  refine s_nmi ev4 ?_
  refine s_if_le C 24 dX6_ticks_17 (by decide) (fun c5 => ?_) (fun c5 => ?_)
  · rw [if_pos c5] at hf
    refine s_iconst (v := 0) C dX6_ticks_24 (by decide) ?_
    exact B_25 _ _ _ _ _ _ hf
  · rw [if_neg c5] at hf
    refine s_iconst (v := 1) C dX6_ticks_20 (by decide) ?_
    refine s_goto C 25 dX6_ticks_21 (by decide) ?_
    exact B_25 _ _ _ _ _ _ hf
theorem c_X6_ticks (l : Launch) (G : GG) (A : Nat → Prop) (h : Nat) (a1 : Nat) (a2 : Nat) (a3 : Nat) (X : va_W) (st : Nat → Int32) (wt : Int32) (sm : Int64) (ld : Int32) (ln : Int32) (r0 : Int32) (st0 : Nat → Int32) (wt0 : Int32) (sm0 : Int64) (ld0 : Int32) (ln0 : Int32) (hf : f_X6_ticks st wt sm ld ln = some (r0, st0, wt0, sm0, ld0, ln0)) : MI l yX6_ticks cX6_ticks 3 .int ({ frames := 7, cells := 0, slots := 0, locals := 160 } : Room) G A (wM G h a1 a2 a3 X st wt sm ld ln) [.ref h] r0 (wM G h a1 a2 a3 X st0 wt0 sm0 ld0 ln0) :=
  e_I (by decide) (Nat.le_of_ble_eq_true rfl) (fun Γ C hret => k_X6_ticks C _ _ _ _ _ _ _ _ _ _ _ _ _ _ _ _ hf hret)
def f_X6_tick_35  : Nat → Int32 → Int32 → Int32 → (Nat → Int32) → Int32 → Int64 → Int32 → Int32 → Option (Int32 × (Nat → Int32) × Int32 × Int64 × Int32 × Int32)
  | 0, _, _, _, _, _, _, _, _ => none
  | fu + 1, x1, x2, x3, st, wt, sm, ld, ln =>
    if x1 ≤ x3 then (some (x2, st, wt, sm, ld, ln))
    else (bM (f_X6_ticks st wt sm ld ln) fun r6 st7 wt8 sm9 ld10 ln11 =>
    bd ((x2 + r6)) fun y12 =>
    bd (x3 + 1) fun y13 =>
    f_X6_tick_35 fu x1 y12 y13 st7 wt8 sm9 ld10 ln11)
def f_X6_tick (x1 : Int32) (st : Nat → Int32) (wt : Int32) (sm : Int64) (ld : Int32) (ln : Int32) : Option (Int32 × (Nat → Int32) × Int32 × Int64 × Int32 × Int32) :=
  bx (f_X6_in ((x1 : Int32).toInt64) 1 200) fun r1 =>
  if r1 = 0 then (some ((-1), st, wt, sm, ld, ln))
  else (rd st 8000 3 fun v3 =>
  if (v3 + x1) ≤ 20000 then (f_X6_tick_35 FU x1 0 0 st wt sm ld ln)
  else (some ((-3), st, wt, sm, ld, ln)))
set_option maxHeartbeats 4000000 in
set_option maxRecDepth 100000 in
theorem k_X6_tick {l : Launch} {G : GG} {A : Nat → Prop} {Γ : Cx} (C : CX G A Γ cX6_tick RX6 ({ frames := 8, cells := 0, slots := 0, locals := 182 } : Room) 4) (h : Nat) (a1 : Nat) (a2 : Nat) (a3 : Nat) (X : va_W) (x1 : Int32) (st : Nat → Int32) (wt : Int32) (sm : Int64) (ld : Int32) (ln : Int32) (r0 : Int32) (st0 : Nat → Int32) (wt0 : Int32) (sm0 : Int64) (ld0 : Int32) (ln0 : Int32) (hf : f_X6_tick x1 st wt sm ld ln = some (r0, st0, wt0, sm0, ld0, ln0)) (hret : ∀ (pc : Nat) (lv : List (Nat × Value)), decode cX6_tick pc = .ok (.ireturn, 1) → narrow .int (.int r0) = .int r0 → St l G A Γ 0 0 (wM G h a1 a2 a3 X st0 wt0 sm0 ld0 ln0) pc lv [.int r0]) : St l G A Γ 0 0 (wM G h a1 a2 a3 X st wt sm ld ln) 0 [(0, .ref h), (1, .int x1)] [] := by
  have B_35 : ∀  (fu : Nat) (x1 : Int32) (x2 : Int32) (x3 : Int32) (st : Nat → Int32) (wt : Int32) (sm : Int64) (ld : Int32) (ln : Int32), f_X6_tick_35 fu x1 x2 x3 st wt sm ld ln = some (r0, st0, wt0, sm0, ld0, ln0) → St l G A Γ 0 0 (wM G h a1 a2 a3 X st wt sm ld ln) 35 [(0, .ref h), (1, .int x1), (2, .int x2), (3, .int x3)] [] := by
    intro fu
    induction fu with
    | zero => intro x1 x2 x3 st wt sm ld ln hf ; rw [f_X6_tick_35] at hf; cases hf
    | succ fu ih =>
      intro x1 x2 x3 st wt sm ld ln hf 
      rw [f_X6_tick_35] at hf
      refine s_iload_n C 3 dX6_tick_35 rfl ?_
      refine s_iload_n C 1 dX6_tick_36 rfl ?_
      refine s_icmp_ge C 53 dX6_tick_37 (by decide) (fun c5 => ?_) (fun c5 => ?_)
      · rw [if_pos c5] at hf
        refine s_iload_n C 2 dX6_tick_53 rfl ?_
        exact rM_I hf (vp_nar_int _) hret dX6_tick_54
      · rw [if_neg c5] at hf
        refine s_iload_n C 2 dX6_tick_40 rfl ?_
        refine s_aload_n C 0 dX6_tick_41 rfl ?_
        obtain ⟨r6, st7, wt8, sm9, ld10, ln11, er6, hf⟩ := bM_inv hf
        refine s_cV_I (As := []) (rest := [.int x2]) (ci := 6) (q := 0) C (c_X6_ticks l G A h a1 a2 a3 X st wt sm ld ln _ _ _ _ _ _ er6) g_RX6_155 hd_X6_ticks rfl ⟨Nat.le_of_ble_eq_true rfl, Nat.le_of_ble_eq_true rfl⟩ rfl rfl rfl (Nat.le_of_ble_eq_true rfl) ⟨Nat.le_of_ble_eq_true rfl, Nat.le_of_ble_eq_true rfl⟩ dX6_tick_42 ?_
        refine s_iadd C dX6_tick_45 ?_
        obtain ⟨y12, ey12, hf⟩ := bd_inv hf
        refine s_nmi ey12 ?_
        refine s_istore_n C [(2, .int y12), (0, .ref h), (1, .int x1), (3, .int x3)] dX6_tick_46 (by decide) rfl ?_
        obtain ⟨y13, ey13, hf⟩ := bd_inv hf
        refine s_iinc (v := y13) C 3 [(3, .int y13), (2, .int y12), (0, .ref h), (1, .int x1)] dX6_tick_47 rfl (by rw [ey13]; rfl) (by decide) rfl ?_
        refine s_goto C 35 dX6_tick_50 (by decide) ?_
        refine s_lv [2, 3, 1, 0] rfl ?_
        exact ih _ _ _ _ _ _ _ _ hf
  unfold f_X6_tick at hf
  refine s_iload_n C 1 dX6_tick_0 rfl ?_
  refine s_i2l C dX6_tick_1 ?_
  refine s_lconst (v := 1) C dX6_tick_2 (by decide) ?_
  refine s_ldc2 C tw_586 dX6_tick_3 ?_
  obtain ⟨r1, er1, hf⟩ := bx_inv hf
  refine s_cS_I (As := [.long ((x1 : Int32).toInt64), .long 1, .long 200]) (rest := []) C (c_X6_in l G A _ ((x1 : Int32).toInt64) 1 200 _ er1) g_RX6_45 hd_X6_in rfl ⟨Nat.le_of_ble_eq_true rfl, Nat.le_of_ble_eq_true rfl⟩ rfl (Nat.le_of_ble_eq_true rfl) ⟨Nat.le_of_ble_eq_true rfl, Nat.le_of_ble_eq_true rfl⟩ dX6_tick_6 ?_
  refine s_if_ne C 14 dX6_tick_9 (by decide) (fun c2 => ?_) (fun c2 => ?_)
  · rw [if_neg c2] at hf
    refine s_aload_n C 0 dX6_tick_14 rfl ?_
    refine gf_508 C 0 rfl rfl dX6_tick_15 ?_
    refine s_iconst (v := 3) C dX6_tick_18 (by decide) ?_
    obtain ⟨v3, hiv3, ev3, hf⟩ := rd_inv hf
    refine s_iald C 1 rfl hiv3 dX6_tick_19 ?_
    refine s_nmi ev3 ?_
    refine s_iload_n C 1 dX6_tick_20 rfl ?_
    refine s_iadd C dX6_tick_21 ?_
    refine s_sipush (v := 20000) C dX6_tick_22 (by decide) ?_
    refine s_icmp_le C 31 dX6_tick_25 (by decide) (fun c4 => ?_) (fun c4 => ?_)
    · rw [if_pos c4] at hf
      refine s_iconst (v := 0) C dX6_tick_31 (by decide) ?_
      refine s_istore_n C [(2, .int 0), (0, .ref h), (1, .int x1)] dX6_tick_32 (by decide) rfl ?_
      refine s_iconst (v := 0) C dX6_tick_33 (by decide) ?_
      refine s_istore_n C [(3, .int 0), (2, .int 0), (0, .ref h), (1, .int x1)] dX6_tick_34 (by decide) rfl ?_
      refine s_lv [2, 3, 1, 0] rfl ?_
      exact B_35 _ _ _ _ _ _ _ _ _ hf
    · rw [if_neg c4] at hf
      refine s_bipush (v := (-3)) C dX6_tick_28 (by decide) ?_
      exact rM_I hf (vp_nar_int _) hret dX6_tick_30
  · rw [if_pos c2] at hf
    refine s_iconst (v := (-1)) C dX6_tick_12 (by decide) ?_
    exact rM_I hf (vp_nar_int _) hret dX6_tick_13
theorem c_X6_tick (l : Launch) (G : GG) (A : Nat → Prop) (h : Nat) (a1 : Nat) (a2 : Nat) (a3 : Nat) (X : va_W) (x1 : Int32) (st : Nat → Int32) (wt : Int32) (sm : Int64) (ld : Int32) (ln : Int32) (r0 : Int32) (st0 : Nat → Int32) (wt0 : Int32) (sm0 : Int64) (ld0 : Int32) (ln0 : Int32) (hf : f_X6_tick x1 st wt sm ld ln = some (r0, st0, wt0, sm0, ld0, ln0)) : MI l yX6_tick cX6_tick 4 .int ({ frames := 8, cells := 0, slots := 0, locals := 182 } : Room) G A (wM G h a1 a2 a3 X st wt sm ld ln) [.ref h, .int x1] r0 (wM G h a1 a2 a3 X st0 wt0 sm0 ld0 ln0) :=
  e_I (by decide) (Nat.le_of_ble_eq_true rfl) (fun Γ C hret => k_X6_tick C _ _ _ _ _ _ _ _ _ _ _ _ _ _ _ _ _ hf hret)
def f_X6_isQuiet_101 (rec33 : Int32 → Int32 → (Nat → Int32) → Int32 → Int64 → Int32 → Int32 → Option (Int32 × (Nat → Int32) × Int32 × Int64 × Int32 × Int32)) (x2 : Int32) (s0 : Int32) (st : Nat → Int32) (wt : Int32) (sm : Int64) (ld : Int32) (ln : Int32) : Option (Int32 × (Nat → Int32) × Int32 × Int64 × Int32 × Int32) :=
  bd (x2 + 1) fun y36 =>
  rec33 s0 y36 st wt sm ld ln
def f_X6_isQuiet_100 (rec33 : Int32 → Int32 → (Nat → Int32) → Int32 → Int64 → Int32 → Int32 → Option (Int32 × (Nat → Int32) × Int32 × Int64 × Int32 × Int32)) (x2 : Int32) (st : Nat → Int32) (wt : Int32) (sm : Int64) (ld : Int32) (ln : Int32) : Option (Int32 × (Nat → Int32) × Int32 × Int64 × Int32 × Int32) :=
  f_X6_isQuiet_101 rec33 x2 0 st wt sm ld ln
def f_X6_isQuiet_33  : Nat → Int32 → Int32 → (Nat → Int32) → Int32 → Int64 → Int32 → Int32 → Option (Int32 × (Nat → Int32) × Int32 × Int64 × Int32 × Int32)
  | 0, _, _, _, _, _, _, _ => none
  | fu + 1, x1, x2, st, wt, sm, ld, ln =>
    if 2 ≤ x2 then (gd (bln x1) <|
    some (x1, st, wt, sm, ld, ln))
    else (if x1 = 0 then (f_X6_isQuiet_100 (f_X6_isQuiet_33 fu) x2 st wt sm ld ln)
    else (bM (f_X6_waiting x2 st wt sm ld ln) fun r20 st21 wt22 sm23 ld24 ln25 =>
    if r20 = 0 then (bx (f_X6_endAt x2) fun r27 =>
    rd st21 8000 (r27 + 2) fun v28 =>
    if v28 = 0 then (bx (f_X6_endAt x2) fun r30 =>
    rd st21 8000 (r30 + 9) fun v31 =>
    if v31 = (-4) then (bx (f_X6_endAt x2) fun r33 =>
    rd st21 8000 (r33 + 10) fun v34 =>
    if v34 = 0 then (f_X6_isQuiet_101 (f_X6_isQuiet_33 fu) x2 1 st21 wt22 sm23 ld24 ln25)
    else (f_X6_isQuiet_100 (f_X6_isQuiet_33 fu) x2 st21 wt22 sm23 ld24 ln25))
    else (f_X6_isQuiet_100 (f_X6_isQuiet_33 fu) x2 st21 wt22 sm23 ld24 ln25))
    else (f_X6_isQuiet_100 (f_X6_isQuiet_33 fu) x2 st21 wt22 sm23 ld24 ln25))
    else (f_X6_isQuiet_100 (f_X6_isQuiet_33 fu) x2 st21 wt22 sm23 ld24 ln25)))
def f_X6_isQuiet_30  (s0 : Int32) (st : Nat → Int32) (wt : Int32) (sm : Int64) (ld : Int32) (ln : Int32) : Option (Int32 × (Nat → Int32) × Int32 × Int64 × Int32 × Int32) :=
  f_X6_isQuiet_33 FU s0 0 st wt sm ld ln
def f_X6_isQuiet_29  (st : Nat → Int32) (wt : Int32) (sm : Int64) (ld : Int32) (ln : Int32) : Option (Int32 × (Nat → Int32) × Int32 × Int64 × Int32 × Int32) :=
  f_X6_isQuiet_30 0 st wt sm ld ln
def f_X6_isQuiet (st : Nat → Int32) (wt : Int32) (sm : Int64) (ld : Int32) (ln : Int32) : Option (Int32 × (Nat → Int32) × Int32 × Int64 × Int32 × Int32) :=
  bM (f_X6_many 0 st wt sm ld ln) fun r1 st2 wt3 sm4 ld5 ln6 =>
  if r1 = 0 then (bM (f_X6_many 1 st2 wt3 sm4 ld5 ln6) fun r8 st9 wt10 sm11 ld12 ln13 =>
  if r8 = 0 then (rd st9 8000 4 fun v15 =>
  if v15 = 0 then (f_X6_isQuiet_30 1 st9 wt10 sm11 ld12 ln13)
  else (f_X6_isQuiet_29 st9 wt10 sm11 ld12 ln13))
  else (f_X6_isQuiet_29 st9 wt10 sm11 ld12 ln13))
  else (f_X6_isQuiet_29 st2 wt3 sm4 ld5 ln6)
set_option maxHeartbeats 4000000 in
set_option maxRecDepth 100000 in
theorem k_X6_isQuiet {l : Launch} {G : GG} {A : Nat → Prop} {Γ : Cx} (C : CX G A Γ cX6_isQuiet RX6 ({ frames := 2, cells := 0, slots := 0, locals := 41 } : Room) 3) (h : Nat) (a1 : Nat) (a2 : Nat) (a3 : Nat) (X : va_W) (st : Nat → Int32) (wt : Int32) (sm : Int64) (ld : Int32) (ln : Int32) (r0 : Int32) (st0 : Nat → Int32) (wt0 : Int32) (sm0 : Int64) (ld0 : Int32) (ln0 : Int32) (hf : f_X6_isQuiet st wt sm ld ln = some (r0, st0, wt0, sm0, ld0, ln0)) (hret : ∀ (pc : Nat) (lv : List (Nat × Value)), decode cX6_isQuiet pc = .ok (.ireturn, 1) → narrow .boolean (.int r0) = .int r0 → St l G A Γ 0 0 (wM G h a1 a2 a3 X st0 wt0 sm0 ld0 ln0) pc lv [.int r0]) : St l G A Γ 0 0 (wM G h a1 a2 a3 X st wt sm ld ln) 0 [(0, .ref h)] [] := by
  have B_101 : ∀ (rec33 : Int32 → Int32 → (Nat → Int32) → Int32 → Int64 → Int32 → Int32 → Option (Int32 × (Nat → Int32) × Int32 × Int64 × Int32 × Int32)) (x2 : Int32) (s0 : Int32) (st : Nat → Int32) (wt : Int32) (sm : Int64) (ld : Int32) (ln : Int32), f_X6_isQuiet_101 rec33 x2 s0 st wt sm ld ln = some (r0, st0, wt0, sm0, ld0, ln0) → (∀ (x1 : Int32) (x2 : Int32) (st : Nat → Int32) (wt : Int32) (sm : Int64) (ld : Int32) (ln : Int32), rec33 x1 x2 st wt sm ld ln = some (r0, st0, wt0, sm0, ld0, ln0) → St l G A Γ 0 0 (wM G h a1 a2 a3 X st wt sm ld ln) 33 [(0, .ref h), (1, .int x1), (2, .int x2)] []) → St l G A Γ 0 0 (wM G h a1 a2 a3 X st wt sm ld ln) 101 [(0, .ref h), (2, .int x2)] [.int s0] := by
    intro rec33 x2 s0 st wt sm ld ln hf hrec33
    unfold f_X6_isQuiet_101 at hf
    refine s_istore_n C [(1, .int s0), (0, .ref h), (2, .int x2)] dX6_isQuiet_101 (by decide) rfl ?_
    obtain ⟨y36, ey36, hf⟩ := bd_inv hf
    refine s_iinc (v := y36) C 2 [(2, .int y36), (1, .int s0), (0, .ref h)] dX6_isQuiet_102 rfl (by rw [ey36]; rfl) (by decide) rfl ?_
    refine s_goto C 33 dX6_isQuiet_105 (by decide) ?_
    refine s_lv [2, 1, 0] rfl ?_
    exact hrec33 _ _ _ _ _ _ _ hf
  have B_100 : ∀ (rec33 : Int32 → Int32 → (Nat → Int32) → Int32 → Int64 → Int32 → Int32 → Option (Int32 × (Nat → Int32) × Int32 × Int64 × Int32 × Int32)) (x2 : Int32) (st : Nat → Int32) (wt : Int32) (sm : Int64) (ld : Int32) (ln : Int32), f_X6_isQuiet_100 rec33 x2 st wt sm ld ln = some (r0, st0, wt0, sm0, ld0, ln0) → (∀ (x1 : Int32) (x2 : Int32) (st : Nat → Int32) (wt : Int32) (sm : Int64) (ld : Int32) (ln : Int32), rec33 x1 x2 st wt sm ld ln = some (r0, st0, wt0, sm0, ld0, ln0) → St l G A Γ 0 0 (wM G h a1 a2 a3 X st wt sm ld ln) 33 [(0, .ref h), (1, .int x1), (2, .int x2)] []) → St l G A Γ 0 0 (wM G h a1 a2 a3 X st wt sm ld ln) 100 [(0, .ref h), (2, .int x2)] [] := by
    intro rec33 x2 st wt sm ld ln hf hrec33
    unfold f_X6_isQuiet_100 at hf
    refine s_iconst (v := 0) C dX6_isQuiet_100 (by decide) ?_
    exact B_101 _ _ _ _ _ _ _ _ hf hrec33
  have B_33 : ∀  (fu : Nat) (x1 : Int32) (x2 : Int32) (st : Nat → Int32) (wt : Int32) (sm : Int64) (ld : Int32) (ln : Int32), f_X6_isQuiet_33 fu x1 x2 st wt sm ld ln = some (r0, st0, wt0, sm0, ld0, ln0) → St l G A Γ 0 0 (wM G h a1 a2 a3 X st wt sm ld ln) 33 [(0, .ref h), (1, .int x1), (2, .int x2)] [] := by
    intro fu
    induction fu with
    | zero => intro x1 x2 st wt sm ld ln hf ; rw [f_X6_isQuiet_33] at hf; cases hf
    | succ fu ih =>
      intro x1 x2 st wt sm ld ln hf 
      rw [f_X6_isQuiet_33] at hf
      refine s_iload_n C 2 dX6_isQuiet_33 rfl ?_
      refine s_iconst (v := 2) C dX6_isQuiet_34 (by decide) ?_
      refine s_icmp_ge C 108 dX6_isQuiet_35 (by decide) (fun c17 => ?_) (fun c17 => ?_)
      · rw [if_pos c17] at hf
        refine s_iload_n C 1 dX6_isQuiet_108 rfl ?_
        obtain ⟨b18, hf⟩ := gd_inv hf
        exact rM_I hf (bln_n b18).1 hret dX6_isQuiet_109
      · rw [if_neg c17] at hf
        refine s_iload_n C 1 dX6_isQuiet_38 rfl ?_
        refine s_if_eq C 100 dX6_isQuiet_39 (by decide) (fun c19 => ?_) (fun c19 => ?_)
        · rw [if_pos c19] at hf
          refine s_lv [0, 2] rfl ?_
          exact B_100 _ _ _ _ _ _ _ hf ih
        · rw [if_neg c19] at hf
          refine s_aload_n C 0 dX6_isQuiet_42 rfl ?_
          refine s_iload_n C 2 dX6_isQuiet_43 rfl ?_
          obtain ⟨r20, st21, wt22, sm23, ld24, ln25, er20, hf⟩ := bM_inv hf
          refine s_cV_I (As := [.int x2]) (rest := []) (ci := 6) (q := 0) C (c_X6_waiting l G A h a1 a2 a3 X x2 st wt sm ld ln _ _ _ _ _ _ er20) g_RX6_51 hd_X6_waiting rfl ⟨Nat.le_of_ble_eq_true rfl, Nat.le_of_ble_eq_true rfl⟩ rfl rfl rfl (Nat.le_of_ble_eq_true rfl) ⟨Nat.le_of_ble_eq_true rfl, Nat.le_of_ble_eq_true rfl⟩ dX6_isQuiet_44 ?_
          refine s_if_ne C 100 dX6_isQuiet_47 (by decide) (fun c26 => ?_) (fun c26 => ?_)
          · rw [if_neg c26] at hf
            refine s_lv [0, 2] rfl ?_
            exact B_100 _ _ _ _ _ _ _ hf ih
          · rw [if_pos c26] at hf
            refine s_aload_n C 0 dX6_isQuiet_50 rfl ?_
            refine gf_508 C 0 rfl rfl dX6_isQuiet_51 ?_
            refine s_iload_n C 2 dX6_isQuiet_54 rfl ?_
            obtain ⟨r27, er27, hf⟩ := bx_inv hf
            refine s_cS_I (As := [.int x2]) (rest := [.ref a1]) C (c_X6_endAt l G A _ x2 _ er27) g_RX6_20 hd_X6_endAt rfl ⟨Nat.le_of_ble_eq_true rfl, Nat.le_of_ble_eq_true rfl⟩ rfl (Nat.le_of_ble_eq_true rfl) ⟨Nat.le_of_ble_eq_true rfl, Nat.le_of_ble_eq_true rfl⟩ dX6_isQuiet_55 ?_
            refine s_iconst (v := 2) C dX6_isQuiet_58 (by decide) ?_
            refine s_iadd C dX6_isQuiet_59 ?_
            obtain ⟨v28, hiv28, ev28, hf⟩ := rd_inv hf
            refine s_iald C 1 rfl hiv28 dX6_isQuiet_60 ?_
            refine s_nmi ev28 ?_
            refine s_if_ne C 100 dX6_isQuiet_61 (by decide) (fun c29 => ?_) (fun c29 => ?_)
            · rw [if_neg c29] at hf
              refine s_lv [0, 2] rfl ?_
              exact B_100 _ _ _ _ _ _ _ hf ih
            · rw [if_pos c29] at hf
              refine s_aload_n C 0 dX6_isQuiet_64 rfl ?_
              refine gf_508 C 0 rfl rfl dX6_isQuiet_65 ?_
              refine s_iload_n C 2 dX6_isQuiet_68 rfl ?_
              obtain ⟨r30, er30, hf⟩ := bx_inv hf
              refine s_cS_I (As := [.int x2]) (rest := [.ref a1]) C (c_X6_endAt l G A _ x2 _ er30) g_RX6_20 hd_X6_endAt rfl ⟨Nat.le_of_ble_eq_true rfl, Nat.le_of_ble_eq_true rfl⟩ rfl (Nat.le_of_ble_eq_true rfl) ⟨Nat.le_of_ble_eq_true rfl, Nat.le_of_ble_eq_true rfl⟩ dX6_isQuiet_69 ?_
              refine s_bipush (v := 9) C dX6_isQuiet_72 (by decide) ?_
              refine s_iadd C dX6_isQuiet_74 ?_
              obtain ⟨v31, hiv31, ev31, hf⟩ := rd_inv hf
              refine s_iald C 1 rfl hiv31 dX6_isQuiet_75 ?_
              refine s_nmi ev31 ?_
              refine s_bipush (v := (-4)) C dX6_isQuiet_76 (by decide) ?_
              refine s_icmp_ne C 100 dX6_isQuiet_78 (by decide) (fun c32 => ?_) (fun c32 => ?_)
              · rw [if_neg c32] at hf
                refine s_lv [0, 2] rfl ?_
                exact B_100 _ _ _ _ _ _ _ hf ih
              · rw [if_pos c32] at hf
                refine s_aload_n C 0 dX6_isQuiet_81 rfl ?_
                refine gf_508 C 0 rfl rfl dX6_isQuiet_82 ?_
                refine s_iload_n C 2 dX6_isQuiet_85 rfl ?_
                obtain ⟨r33, er33, hf⟩ := bx_inv hf
                refine s_cS_I (As := [.int x2]) (rest := [.ref a1]) C (c_X6_endAt l G A _ x2 _ er33) g_RX6_20 hd_X6_endAt rfl ⟨Nat.le_of_ble_eq_true rfl, Nat.le_of_ble_eq_true rfl⟩ rfl (Nat.le_of_ble_eq_true rfl) ⟨Nat.le_of_ble_eq_true rfl, Nat.le_of_ble_eq_true rfl⟩ dX6_isQuiet_86 ?_
                refine s_bipush (v := 10) C dX6_isQuiet_89 (by decide) ?_
                refine s_iadd C dX6_isQuiet_91 ?_
                obtain ⟨v34, hiv34, ev34, hf⟩ := rd_inv hf
                refine s_iald C 1 rfl hiv34 dX6_isQuiet_92 ?_
                refine s_nmi ev34 ?_
                refine s_if_ne C 100 dX6_isQuiet_93 (by decide) (fun c35 => ?_) (fun c35 => ?_)
                · rw [if_neg c35] at hf
                  refine s_lv [0, 2] rfl ?_
                  exact B_100 _ _ _ _ _ _ _ hf ih
                · rw [if_pos c35] at hf
                  refine s_iconst (v := 1) C dX6_isQuiet_96 (by decide) ?_
                  refine s_goto C 101 dX6_isQuiet_97 (by decide) ?_
                  refine s_lv [0, 2] rfl ?_
                  exact B_101 _ _ _ _ _ _ _ _ hf ih
  have B_30 : ∀  (s0 : Int32) (st : Nat → Int32) (wt : Int32) (sm : Int64) (ld : Int32) (ln : Int32), f_X6_isQuiet_30 s0 st wt sm ld ln = some (r0, st0, wt0, sm0, ld0, ln0) → St l G A Γ 0 0 (wM G h a1 a2 a3 X st wt sm ld ln) 30 [(0, .ref h)] [.int s0] := by
    intro  s0 st wt sm ld ln hf 
    unfold f_X6_isQuiet_30 at hf
    refine s_istore_n C [(1, .int s0), (0, .ref h)] dX6_isQuiet_30 (by decide) rfl ?_
    refine s_iconst (v := 0) C dX6_isQuiet_31 (by decide) ?_
    refine s_istore_n C [(2, .int 0), (1, .int s0), (0, .ref h)] dX6_isQuiet_32 (by decide) rfl ?_
    refine s_lv [2, 1, 0] rfl ?_
    exact B_33 _ _ _ _ _ _ _ _ hf
  have B_29 : ∀  (st : Nat → Int32) (wt : Int32) (sm : Int64) (ld : Int32) (ln : Int32), f_X6_isQuiet_29 st wt sm ld ln = some (r0, st0, wt0, sm0, ld0, ln0) → St l G A Γ 0 0 (wM G h a1 a2 a3 X st wt sm ld ln) 29 [(0, .ref h)] [] := by
    intro  st wt sm ld ln hf 
    unfold f_X6_isQuiet_29 at hf
    refine s_iconst (v := 0) C dX6_isQuiet_29 (by decide) ?_
    exact B_30 _ _ _ _ _ _ hf
  unfold f_X6_isQuiet at hf
  refine s_aload_n C 0 dX6_isQuiet_0 rfl ?_
  refine s_iconst (v := 0) C dX6_isQuiet_1 (by decide) ?_
  obtain ⟨r1, st2, wt3, sm4, ld5, ln6, er1, hf⟩ := bM_inv hf
  refine s_cV_I (As := [.int 0]) (rest := []) (ci := 6) (q := 0) C (c_X6_many l G A h a1 a2 a3 X 0 st wt sm ld ln _ _ _ _ _ _ er1) g_RX6_78 hd_X6_many rfl ⟨Nat.le_of_ble_eq_true rfl, Nat.le_of_ble_eq_true rfl⟩ rfl rfl rfl (Nat.le_of_ble_eq_true rfl) ⟨Nat.le_of_ble_eq_true rfl, Nat.le_of_ble_eq_true rfl⟩ dX6_isQuiet_2 ?_
  refine s_if_ne C 29 dX6_isQuiet_5 (by decide) (fun c7 => ?_) (fun c7 => ?_)
  · rw [if_neg c7] at hf
    exact B_29 _ _ _ _ _ hf
  · rw [if_pos c7] at hf
    refine s_aload_n C 0 dX6_isQuiet_8 rfl ?_
    refine s_iconst (v := 1) C dX6_isQuiet_9 (by decide) ?_
    obtain ⟨r8, st9, wt10, sm11, ld12, ln13, er8, hf⟩ := bM_inv hf
    refine s_cV_I (As := [.int 1]) (rest := []) (ci := 6) (q := 0) C (c_X6_many l G A h a1 a2 a3 X 1 st2 wt3 sm4 ld5 ln6 _ _ _ _ _ _ er8) g_RX6_78 hd_X6_many rfl ⟨Nat.le_of_ble_eq_true rfl, Nat.le_of_ble_eq_true rfl⟩ rfl rfl rfl (Nat.le_of_ble_eq_true rfl) ⟨Nat.le_of_ble_eq_true rfl, Nat.le_of_ble_eq_true rfl⟩ dX6_isQuiet_10 ?_
    refine s_if_ne C 29 dX6_isQuiet_13 (by decide) (fun c14 => ?_) (fun c14 => ?_)
    · rw [if_neg c14] at hf
      exact B_29 _ _ _ _ _ hf
    · rw [if_pos c14] at hf
      refine s_aload_n C 0 dX6_isQuiet_16 rfl ?_
      refine gf_508 C 0 rfl rfl dX6_isQuiet_17 ?_
      refine s_iconst (v := 4) C dX6_isQuiet_20 (by decide) ?_
      obtain ⟨v15, hiv15, ev15, hf⟩ := rd_inv hf
      refine s_iald C 1 rfl hiv15 dX6_isQuiet_21 ?_
      refine s_nmi ev15 ?_
      refine s_if_ne C 29 dX6_isQuiet_22 (by decide) (fun c16 => ?_) (fun c16 => ?_)
      · rw [if_neg c16] at hf
        exact B_29 _ _ _ _ _ hf
      · rw [if_pos c16] at hf
        refine s_iconst (v := 1) C dX6_isQuiet_25 (by decide) ?_
        refine s_goto C 30 dX6_isQuiet_26 (by decide) ?_
        exact B_30 _ _ _ _ _ _ hf
theorem c_X6_isQuiet (l : Launch) (G : GG) (A : Nat → Prop) (h : Nat) (a1 : Nat) (a2 : Nat) (a3 : Nat) (X : va_W) (st : Nat → Int32) (wt : Int32) (sm : Int64) (ld : Int32) (ln : Int32) (r0 : Int32) (st0 : Nat → Int32) (wt0 : Int32) (sm0 : Int64) (ld0 : Int32) (ln0 : Int32) (hf : f_X6_isQuiet st wt sm ld ln = some (r0, st0, wt0, sm0, ld0, ln0)) : MI l yX6_isQuiet cX6_isQuiet 3 .boolean ({ frames := 2, cells := 0, slots := 0, locals := 41 } : Room) G A (wM G h a1 a2 a3 X st wt sm ld ln) [.ref h] r0 (wM G h a1 a2 a3 X st0 wt0 sm0 ld0 ln0) :=
  e_I (by decide) (Nat.le_of_ble_eq_true rfl) (fun Γ C hret => k_X6_isQuiet C _ _ _ _ _ _ _ _ _ _ _ _ _ _ _ _ hf hret)
def f_X6_settle_33  : Nat → Int32 → Int32 → (Nat → Int32) → Int32 → Int64 → Int32 → Int32 → Option (Int32 × (Nat → Int32) × Int32 × Int64 × Int32 × Int32)
  | 0, _, _, _, _, _, _, _ => none
  | fu + 1, x1, x2, st, wt, sm, ld, ln =>
    if x1 ≤ x2 then (some (x2, st, wt, sm, ld, ln))
    else (bM (f_X6_isQuiet st wt sm ld ln) fun r6 st7 wt8 sm9 ld10 ln11 =>
    if r6 = 0 then (bM (f_X6_ticks st7 wt8 sm9 ld10 ln11) fun r13 st14 wt15 sm16 ld17 ln18 =>
    bd (x2 + 1) fun y19 =>
    f_X6_settle_33 fu x1 y19 st14 wt15 sm16 ld17 ln18)
    else (some (x2, st7, wt8, sm9, ld10, ln11)))
def f_X6_settle (x1 : Int32) (st : Nat → Int32) (wt : Int32) (sm : Int64) (ld : Int32) (ln : Int32) : Option (Int32 × (Nat → Int32) × Int32 × Int64 × Int32 × Int32) :=
  bx (f_X6_in ((x1 : Int32).toInt64) 1 400) fun r1 =>
  if r1 = 0 then (some ((-1), st, wt, sm, ld, ln))
  else (rd st 8000 3 fun v3 =>
  if (v3 + x1) ≤ 20000 then (f_X6_settle_33 FU x1 0 st wt sm ld ln)
  else (some ((-3), st, wt, sm, ld, ln)))
set_option maxHeartbeats 4000000 in
set_option maxRecDepth 100000 in
theorem k_X6_settle {l : Launch} {G : GG} {A : Nat → Prop} {Γ : Cx} (C : CX G A Γ cX6_settle RX6 ({ frames := 8, cells := 0, slots := 0, locals := 182 } : Room) 4) (h : Nat) (a1 : Nat) (a2 : Nat) (a3 : Nat) (X : va_W) (x1 : Int32) (st : Nat → Int32) (wt : Int32) (sm : Int64) (ld : Int32) (ln : Int32) (r0 : Int32) (st0 : Nat → Int32) (wt0 : Int32) (sm0 : Int64) (ld0 : Int32) (ln0 : Int32) (hf : f_X6_settle x1 st wt sm ld ln = some (r0, st0, wt0, sm0, ld0, ln0)) (hret : ∀ (pc : Nat) (lv : List (Nat × Value)), decode cX6_settle pc = .ok (.ireturn, 1) → narrow .int (.int r0) = .int r0 → St l G A Γ 0 0 (wM G h a1 a2 a3 X st0 wt0 sm0 ld0 ln0) pc lv [.int r0]) : St l G A Γ 0 0 (wM G h a1 a2 a3 X st wt sm ld ln) 0 [(0, .ref h), (1, .int x1)] [] := by
  have B_33 : ∀  (fu : Nat) (x1 : Int32) (x2 : Int32) (st : Nat → Int32) (wt : Int32) (sm : Int64) (ld : Int32) (ln : Int32), f_X6_settle_33 fu x1 x2 st wt sm ld ln = some (r0, st0, wt0, sm0, ld0, ln0) → St l G A Γ 0 0 (wM G h a1 a2 a3 X st wt sm ld ln) 33 [(0, .ref h), (1, .int x1), (2, .int x2)] [] := by
    intro fu
    induction fu with
    | zero => intro x1 x2 st wt sm ld ln hf ; rw [f_X6_settle_33] at hf; cases hf
    | succ fu ih =>
      intro x1 x2 st wt sm ld ln hf 
      rw [f_X6_settle_33] at hf
      refine s_iload_n C 2 dX6_settle_33 rfl ?_
      refine s_iload_n C 1 dX6_settle_34 rfl ?_
      refine s_icmp_ge C 56 dX6_settle_35 (by decide) (fun c5 => ?_) (fun c5 => ?_)
      · rw [if_pos c5] at hf
        refine s_iload_n C 2 dX6_settle_56 rfl ?_
        exact rM_I hf (vp_nar_int _) hret dX6_settle_57
      · rw [if_neg c5] at hf
        refine s_aload_n C 0 dX6_settle_38 rfl ?_
        obtain ⟨r6, st7, wt8, sm9, ld10, ln11, er6, hf⟩ := bM_inv hf
        refine s_cV_I (As := []) (rest := []) (ci := 6) (q := 0) C (c_X6_isQuiet l G A h a1 a2 a3 X st wt sm ld ln _ _ _ _ _ _ er6) g_RX6_160 hd_X6_isQuiet rfl ⟨Nat.le_of_ble_eq_true rfl, Nat.le_of_ble_eq_true rfl⟩ rfl rfl rfl (Nat.le_of_ble_eq_true rfl) ⟨Nat.le_of_ble_eq_true rfl, Nat.le_of_ble_eq_true rfl⟩ dX6_settle_39 ?_
        refine s_if_ne C 56 dX6_settle_42 (by decide) (fun c12 => ?_) (fun c12 => ?_)
        · rw [if_neg c12] at hf
          refine s_iload_n C 2 dX6_settle_56 rfl ?_
          exact rM_I hf (vp_nar_int _) hret dX6_settle_57
        · rw [if_pos c12] at hf
          refine s_aload_n C 0 dX6_settle_45 rfl ?_
          obtain ⟨r13, st14, wt15, sm16, ld17, ln18, er13, hf⟩ := bM_inv hf
          refine s_cV_I (As := []) (rest := []) (ci := 6) (q := 0) C (c_X6_ticks l G A h a1 a2 a3 X st7 wt8 sm9 ld10 ln11 _ _ _ _ _ _ er13) g_RX6_155 hd_X6_ticks rfl ⟨Nat.le_of_ble_eq_true rfl, Nat.le_of_ble_eq_true rfl⟩ rfl rfl rfl (Nat.le_of_ble_eq_true rfl) ⟨Nat.le_of_ble_eq_true rfl, Nat.le_of_ble_eq_true rfl⟩ dX6_settle_46 ?_
          refine s_istore_n C [(3, .int r13), (0, .ref h), (1, .int x1), (2, .int x2)] dX6_settle_49 (by decide) rfl ?_
          obtain ⟨y19, ey19, hf⟩ := bd_inv hf
          refine s_iinc (v := y19) C 3 [(2, .int y19), (3, .int r13), (0, .ref h), (1, .int x1)] dX6_settle_50 rfl (by rw [ey19]; rfl) (by decide) rfl ?_
          refine s_goto C 33 dX6_settle_53 (by decide) ?_
          refine s_lv [2, 3, 0] rfl ?_
          exact ih _ _ _ _ _ _ _ hf
  unfold f_X6_settle at hf
  refine s_iload_n C 1 dX6_settle_0 rfl ?_
  refine s_i2l C dX6_settle_1 ?_
  refine s_lconst (v := 1) C dX6_settle_2 (by decide) ?_
  refine s_ldc2 C tw_672 dX6_settle_3 ?_
  obtain ⟨r1, er1, hf⟩ := bx_inv hf
  refine s_cS_I (As := [.long ((x1 : Int32).toInt64), .long 1, .long 400]) (rest := []) C (c_X6_in l G A _ ((x1 : Int32).toInt64) 1 400 _ er1) g_RX6_45 hd_X6_in rfl ⟨Nat.le_of_ble_eq_true rfl, Nat.le_of_ble_eq_true rfl⟩ rfl (Nat.le_of_ble_eq_true rfl) ⟨Nat.le_of_ble_eq_true rfl, Nat.le_of_ble_eq_true rfl⟩ dX6_settle_6 ?_
  refine s_if_ne C 14 dX6_settle_9 (by decide) (fun c2 => ?_) (fun c2 => ?_)
  · rw [if_neg c2] at hf
    refine s_aload_n C 0 dX6_settle_14 rfl ?_
    refine gf_508 C 0 rfl rfl dX6_settle_15 ?_
    refine s_iconst (v := 3) C dX6_settle_18 (by decide) ?_
    obtain ⟨v3, hiv3, ev3, hf⟩ := rd_inv hf
    refine s_iald C 1 rfl hiv3 dX6_settle_19 ?_
    refine s_nmi ev3 ?_
    refine s_iload_n C 1 dX6_settle_20 rfl ?_
    refine s_iadd C dX6_settle_21 ?_
    refine s_sipush (v := 20000) C dX6_settle_22 (by decide) ?_
    refine s_icmp_le C 31 dX6_settle_25 (by decide) (fun c4 => ?_) (fun c4 => ?_)
    · rw [if_pos c4] at hf
      refine s_iconst (v := 0) C dX6_settle_31 (by decide) ?_
      refine s_istore_n C [(2, .int 0), (0, .ref h), (1, .int x1)] dX6_settle_32 (by decide) rfl ?_
      refine s_lv [1, 2, 0] rfl ?_
      exact B_33 _ _ _ _ _ _ _ _ hf
    · rw [if_neg c4] at hf
      refine s_bipush (v := (-3)) C dX6_settle_28 (by decide) ?_
      exact rM_I hf (vp_nar_int _) hret dX6_settle_30
  · rw [if_pos c2] at hf
    refine s_iconst (v := (-1)) C dX6_settle_12 (by decide) ?_
    exact rM_I hf (vp_nar_int _) hret dX6_settle_13
theorem c_X6_settle (l : Launch) (G : GG) (A : Nat → Prop) (h : Nat) (a1 : Nat) (a2 : Nat) (a3 : Nat) (X : va_W) (x1 : Int32) (st : Nat → Int32) (wt : Int32) (sm : Int64) (ld : Int32) (ln : Int32) (r0 : Int32) (st0 : Nat → Int32) (wt0 : Int32) (sm0 : Int64) (ld0 : Int32) (ln0 : Int32) (hf : f_X6_settle x1 st wt sm ld ln = some (r0, st0, wt0, sm0, ld0, ln0)) : MI l yX6_settle cX6_settle 4 .int ({ frames := 8, cells := 0, slots := 0, locals := 182 } : Room) G A (wM G h a1 a2 a3 X st wt sm ld ln) [.ref h, .int x1] r0 (wM G h a1 a2 a3 X st0 wt0 sm0 ld0 ln0) :=
  e_I (by decide) (Nat.le_of_ble_eq_true rfl) (fun Γ C hret => k_X6_settle C _ _ _ _ _ _ _ _ _ _ _ _ _ _ _ _ _ hf hret)
def f_X6_voids (x1 : Int32) (st : Nat → Int32) (wt : Int32) (sm : Int64) (ld : Int32) (ln : Int32) : Option (Int32 × (Nat → Int32) × Int32 × Int64 × Int32 × Int32) :=
  bx (f_X6_isEnd x1) fun r1 =>
  if r1 = 0 then (some ((-1), st, wt, sm, ld, ln))
  else (bx (f_X6_endAt x1) fun r3 =>
  rd st 8000 (r3 + 12) fun v4 =>
  bx (f_X6_endAt x1) fun r5 =>
  wr st 8000 (r5 + 12) 1 fun st6 =>
  some (v4, st6, wt, sm, ld, ln))
set_option maxHeartbeats 4000000 in
set_option maxRecDepth 100000 in
theorem k_X6_voids {l : Launch} {G : GG} {A : Nat → Prop} {Γ : Cx} (C : CX G A Γ cX6_voids RX6 ({ frames := 1, cells := 0, slots := 0, locals := 20 } : Room) 3) (h : Nat) (a1 : Nat) (a2 : Nat) (a3 : Nat) (X : va_W) (x1 : Int32) (st : Nat → Int32) (wt : Int32) (sm : Int64) (ld : Int32) (ln : Int32) (r0 : Int32) (st0 : Nat → Int32) (wt0 : Int32) (sm0 : Int64) (ld0 : Int32) (ln0 : Int32) (hf : f_X6_voids x1 st wt sm ld ln = some (r0, st0, wt0, sm0, ld0, ln0)) (hret : ∀ (pc : Nat) (lv : List (Nat × Value)), decode cX6_voids pc = .ok (.ireturn, 1) → narrow .int (.int r0) = .int r0 → St l G A Γ 0 0 (wM G h a1 a2 a3 X st0 wt0 sm0 ld0 ln0) pc lv [.int r0]) : St l G A Γ 0 0 (wM G h a1 a2 a3 X st wt sm ld ln) 0 [(0, .ref h), (1, .int x1)] [] := by
  unfold f_X6_voids at hf
  refine s_iload_n C 1 dX6_voids_0 rfl ?_
  obtain ⟨r1, er1, hf⟩ := bx_inv hf
  refine s_cS_I (As := [.int x1]) (rest := []) C (c_X6_isEnd l G A _ x1 _ er1) g_RX6_39 hd_X6_isEnd rfl ⟨Nat.le_of_ble_eq_true rfl, Nat.le_of_ble_eq_true rfl⟩ rfl (Nat.le_of_ble_eq_true rfl) ⟨Nat.le_of_ble_eq_true rfl, Nat.le_of_ble_eq_true rfl⟩ dX6_voids_1 ?_
  refine s_if_ne C 9 dX6_voids_4 (by decide) (fun c2 => ?_) (fun c2 => ?_)
  · rw [if_neg c2] at hf
    refine s_aload_n C 0 dX6_voids_9 rfl ?_
    refine gf_508 C 0 rfl rfl dX6_voids_10 ?_
    refine s_iload_n C 1 dX6_voids_13 rfl ?_
    obtain ⟨r3, er3, hf⟩ := bx_inv hf
    refine s_cS_I (As := [.int x1]) (rest := [.ref a1]) C (c_X6_endAt l G A _ x1 _ er3) g_RX6_20 hd_X6_endAt rfl ⟨Nat.le_of_ble_eq_true rfl, Nat.le_of_ble_eq_true rfl⟩ rfl (Nat.le_of_ble_eq_true rfl) ⟨Nat.le_of_ble_eq_true rfl, Nat.le_of_ble_eq_true rfl⟩ dX6_voids_14 ?_
    refine s_bipush (v := 12) C dX6_voids_17 (by decide) ?_
    refine s_iadd C dX6_voids_19 ?_
    obtain ⟨v4, hiv4, ev4, hf⟩ := rd_inv hf
    refine s_iald C 1 rfl hiv4 dX6_voids_20 ?_
    refine s_nmi ev4 ?_
    refine s_istore_n C [(2, .int v4), (0, .ref h), (1, .int x1)] dX6_voids_21 (by decide) rfl ?_
    refine s_aload_n C 1 dX6_voids_22 rfl ?_
    refine gf_508 C 0 rfl rfl dX6_voids_23 ?_
    refine s_iload_n C 2 dX6_voids_26 rfl ?_
    obtain ⟨r5, er5, hf⟩ := bx_inv hf
    refine s_cS_I (As := [.int x1]) (rest := [.ref a1]) C (c_X6_endAt l G A _ x1 _ er5) g_RX6_20 hd_X6_endAt rfl ⟨Nat.le_of_ble_eq_true rfl, Nat.le_of_ble_eq_true rfl⟩ rfl (Nat.le_of_ble_eq_true rfl) ⟨Nat.le_of_ble_eq_true rfl, Nat.le_of_ble_eq_true rfl⟩ dX6_voids_27 ?_
    refine s_bipush (v := 12) C dX6_voids_30 (by decide) ?_
    refine s_iadd C dX6_voids_32 ?_
    refine s_iconst (v := 1) C dX6_voids_33 (by decide) ?_
    obtain ⟨st6, hist6, est6, hf⟩ := wr_inv hf
    refine s_iast C 1 rfl hist6 (wM G h a1 a2 a3 X st6 wt sm ld ln) (by rw [est6]; rfl) dX6_voids_34 ?_
    refine s_iload_n C 0 dX6_voids_35 rfl ?_
    exact rM_I hf (vp_nar_int _) hret dX6_voids_36
  · rw [if_pos c2] at hf
    refine s_iconst (v := (-1)) C dX6_voids_7 (by decide) ?_
    exact rM_I hf (vp_nar_int _) hret dX6_voids_8
theorem c_X6_voids (l : Launch) (G : GG) (A : Nat → Prop) (h : Nat) (a1 : Nat) (a2 : Nat) (a3 : Nat) (X : va_W) (x1 : Int32) (st : Nat → Int32) (wt : Int32) (sm : Int64) (ld : Int32) (ln : Int32) (r0 : Int32) (st0 : Nat → Int32) (wt0 : Int32) (sm0 : Int64) (ld0 : Int32) (ln0 : Int32) (hf : f_X6_voids x1 st wt sm ld ln = some (r0, st0, wt0, sm0, ld0, ln0)) : MI l yX6_voids cX6_voids 3 .int ({ frames := 1, cells := 0, slots := 0, locals := 20 } : Room) G A (wM G h a1 a2 a3 X st wt sm ld ln) [.ref h, .int x1] r0 (wM G h a1 a2 a3 X st0 wt0 sm0 ld0 ln0) :=
  e_I (by decide) (Nat.le_of_ble_eq_true rfl) (fun Γ C hret => k_X6_voids C _ _ _ _ _ _ _ _ _ _ _ _ _ _ _ _ _ hf hret)
def f_X6_isFrame (x1 : Int32) (x2 : Int32) (st : Nat → Int32) (wt : Int32) (sm : Int64) (ld : Int32) (ln : Int32) : Option (Int32 × (Nat → Int32) × Int32 × Int64 × Int32 × Int32) :=
  bx (f_X6_isEnd x1) fun r1 =>
  if r1 = 0 then (some (0, st, wt, sm, ld, ln))
  else (bM (f_X6_many x1 st wt sm ld ln) fun r3 st4 wt5 sm6 ld7 ln8 =>
  bx (f_X6_in ((x2 : Int32).toInt64) 0 (((r3 - 1) : Int32).toInt64)) fun r9 =>
  if r9 = 0 then (some (0, st4, wt5, sm6, ld7, ln8))
  else (some (1, st4, wt5, sm6, ld7, ln8)))
set_option maxHeartbeats 4000000 in
set_option maxRecDepth 100000 in
theorem k_X6_isFrame {l : Launch} {G : GG} {A : Nat → Prop} {Γ : Cx} (C : CX G A Γ cX6_isFrame RX6 ({ frames := 2, cells := 0, slots := 0, locals := 41 } : Room) 3) (h : Nat) (a1 : Nat) (a2 : Nat) (a3 : Nat) (X : va_W) (x1 : Int32) (x2 : Int32) (st : Nat → Int32) (wt : Int32) (sm : Int64) (ld : Int32) (ln : Int32) (r0 : Int32) (st0 : Nat → Int32) (wt0 : Int32) (sm0 : Int64) (ld0 : Int32) (ln0 : Int32) (hf : f_X6_isFrame x1 x2 st wt sm ld ln = some (r0, st0, wt0, sm0, ld0, ln0)) (hret : ∀ (pc : Nat) (lv : List (Nat × Value)), decode cX6_isFrame pc = .ok (.ireturn, 1) → narrow .boolean (.int r0) = .int r0 → St l G A Γ 0 0 (wM G h a1 a2 a3 X st0 wt0 sm0 ld0 ln0) pc lv [.int r0]) : St l G A Γ 0 0 (wM G h a1 a2 a3 X st wt sm ld ln) 0 [(0, .ref h), (1, .int x1), (2, .int x2)] [] := by
  unfold f_X6_isFrame at hf
  refine s_iload_n C 1 dX6_isFrame_0 rfl ?_
  obtain ⟨r1, er1, hf⟩ := bx_inv hf
  refine s_cS_I (As := [.int x1]) (rest := []) C (c_X6_isEnd l G A _ x1 _ er1) g_RX6_39 hd_X6_isEnd rfl ⟨Nat.le_of_ble_eq_true rfl, Nat.le_of_ble_eq_true rfl⟩ rfl (Nat.le_of_ble_eq_true rfl) ⟨Nat.le_of_ble_eq_true rfl, Nat.le_of_ble_eq_true rfl⟩ dX6_isFrame_1 ?_
  refine s_if_eq C 28 dX6_isFrame_4 (by decide) (fun c2 => ?_) (fun c2 => ?_)
  · rw [if_pos c2] at hf
    refine s_iconst (v := 0) C dX6_isFrame_28 (by decide) ?_
    exact rM_I hf rfl hret dX6_isFrame_29
  · rw [if_neg c2] at hf
    refine s_iload_n C 2 dX6_isFrame_7 rfl ?_
    refine s_i2l C dX6_isFrame_8 ?_
    refine s_lconst (v := 0) C dX6_isFrame_9 (by decide) ?_
    refine s_aload_n C 0 dX6_isFrame_10 rfl ?_
    refine s_iload_n C 1 dX6_isFrame_11 rfl ?_
    obtain ⟨r3, st4, wt5, sm6, ld7, ln8, er3, hf⟩ := bM_inv hf
    refine s_cV_I (As := [.int x1]) (rest := [.long 0, .long ((x2 : Int32).toInt64)]) (ci := 6) (q := 0) C (c_X6_many l G A h a1 a2 a3 X x1 st wt sm ld ln _ _ _ _ _ _ er3) g_RX6_78 hd_X6_many rfl ⟨Nat.le_of_ble_eq_true rfl, Nat.le_of_ble_eq_true rfl⟩ rfl rfl rfl (Nat.le_of_ble_eq_true rfl) ⟨Nat.le_of_ble_eq_true rfl, Nat.le_of_ble_eq_true rfl⟩ dX6_isFrame_12 ?_
    refine s_iconst (v := 1) C dX6_isFrame_15 (by decide) ?_
    refine s_isub C dX6_isFrame_16 ?_
    refine s_i2l C dX6_isFrame_17 ?_
    obtain ⟨r9, er9, hf⟩ := bx_inv hf
    refine s_cS_I (As := [.long ((x2 : Int32).toInt64), .long 0, .long (((r3 - 1) : Int32).toInt64)]) (rest := []) C (c_X6_in l G A _ ((x2 : Int32).toInt64) 0 (((r3 - 1) : Int32).toInt64) _ er9) g_RX6_45 hd_X6_in rfl ⟨Nat.le_of_ble_eq_true rfl, Nat.le_of_ble_eq_true rfl⟩ rfl (Nat.le_of_ble_eq_true rfl) ⟨Nat.le_of_ble_eq_true rfl, Nat.le_of_ble_eq_true rfl⟩ dX6_isFrame_18 ?_
    refine s_if_eq C 28 dX6_isFrame_21 (by decide) (fun c10 => ?_) (fun c10 => ?_)
    · rw [if_pos c10] at hf
      refine s_iconst (v := 0) C dX6_isFrame_28 (by decide) ?_
      exact rM_I hf rfl hret dX6_isFrame_29
    · rw [if_neg c10] at hf
      refine s_iconst (v := 1) C dX6_isFrame_24 (by decide) ?_
      refine s_goto C 29 dX6_isFrame_25 (by decide) ?_
      exact rM_I hf rfl hret dX6_isFrame_29
theorem c_X6_isFrame (l : Launch) (G : GG) (A : Nat → Prop) (h : Nat) (a1 : Nat) (a2 : Nat) (a3 : Nat) (X : va_W) (x1 : Int32) (x2 : Int32) (st : Nat → Int32) (wt : Int32) (sm : Int64) (ld : Int32) (ln : Int32) (r0 : Int32) (st0 : Nat → Int32) (wt0 : Int32) (sm0 : Int64) (ld0 : Int32) (ln0 : Int32) (hf : f_X6_isFrame x1 x2 st wt sm ld ln = some (r0, st0, wt0, sm0, ld0, ln0)) : MI l yX6_isFrame cX6_isFrame 3 .boolean ({ frames := 2, cells := 0, slots := 0, locals := 41 } : Room) G A (wM G h a1 a2 a3 X st wt sm ld ln) [.ref h, .int x1, .int x2] r0 (wM G h a1 a2 a3 X st0 wt0 sm0 ld0 ln0) :=
  e_I (by decide) (Nat.le_of_ble_eq_true rfl) (fun Γ C hret => k_X6_isFrame C _ _ _ _ _ _ _ _ _ _ _ _ _ _ _ _ _ _ hf hret)
