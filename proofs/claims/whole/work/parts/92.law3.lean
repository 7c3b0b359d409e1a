set_option maxHeartbeats 4000000 in
set_option maxRecDepth 100000 in
theorem law_loop {l : Launch} {G : GG} {A : Nat → Prop} {Γ : Cx} (C : CX G A Γ code RL room_1 4) {b L : Nat} {xs : Nat → Int32} (hL : L ≤ 2560) (hX : SX A Γ b L xs) {h a0 hm a1 a2 a3 : Nat} (hend : ∀ (k n : Nat) (ws : va_W) (lv : List (Nat × Value)), k ≤ 600000 → n ≤ 7302250 → St l G A Γ k n ws 695 lv [.int 1]) : ∀ (fu i : Nat), 5 * i ≤ L + 5 → L + 10 ≤ 5 * fu + 5 * i → ∀ (ad : Nat → Nat) (nb : Nat) (kp : Nat → Option Nat) (sc ar : Nat → Nat → Int32) (fr : Nat → Nat → Nat) (st : Nat → Int32) (wt : Int32) (sm : Int64) (ld ln : Int32) (kpM ik : Nat → Int32), Rel nb kp sc ar fr st kpM ik → St l G A Γ (80 + 72 * i) (30000 + 5185 * i) (wL G ad nb h a0 kp hm a1 a2 a3 sc ar fr st wt sm ld ln kpM ik) 18 [(3, .int (nI (5 * i))), (0, .ref b), (1, .ref h), (2, .ref hm)] [] := by
  intro fu
  induction fu with
  | zero =>
    intro i hi5 hfu ad nb kp sc ar fr st wt sm ld ln kpM ik hR
    exfalso
    omega
  | succ fu ih =>
    intro i hi5 hfu ad nb kp sc ar fr st wt sm ld ln kpM ik hR
    refine s_iload_n C 0 dL_law_18 rfl ?_
    refine s_aload_n C 1 dL_law_19 rfl ?_
    refine s_slen C hX dL_law_20 ?_
    refine s_iconst (v := 5) C dL_law_21 (by decide) ?_
    refine s_isub C dL_law_22 ?_
    have hcmp : (nI L - 5 < nI (5 * i)) ↔ L < 5 * i + 5 := by
      rw [Int32.lt_iff_toInt_lt, show (5 : Int32) = nI 5 from rfl, pk_sub_toInt (by omega) (by omega), nI_toInt (by omega)]
      omega
    refine s_icmp_gt C 694 dL_law_23 (by decide) (fun c => ?_) (fun c => ?_)
    · refine s_iconst (v := 1) C dL_law_694 (by decide) ?_
      exact hend _ _ _ _ (by omega) (by omega)
    · have hlt : 5 * i + 5 ≤ L := by
        rcases Nat.lt_or_ge L (5 * i + 5) with q | q
        · exact absurd (hcmp.mpr q) c
        · exact q
      refine s_aload_n C 1 dL_law_26 rfl ?_
      refine s_iload_n C 0 dL_law_27 rfl ?_
      refine s_sld C hX (j := 5 * i) rfl (by omega) (by omega) dL_law_28 ?_
      refine s_bipush (v := 31) C dL_law_29 (by decide) ?_
      refine s_iand C dL_law_31 ?_
      have K : ∀ (ad : Nat → Nat) (nb : Nat) (kp : Nat → Option Nat) (sc ar : Nat → Nat → Int32) (fr : Nat → Nat → Nat) (st : Nat → Int32) (wt : Int32) (sm : Int64) (ld ln : Int32) (kpM ik : Nat → Int32), Rel nb kp sc ar fr st kpM ik → St l G A Γ (80 + 72 * (i + 1)) (30000 + 5185 * (i + 1)) (wL G ad nb h a0 kp hm a1 a2 a3 sc ar fr st wt sm ld ln kpM ik) 688 [(3, .int (nI (5 * i))), (0, .ref b), (1, .ref h), (2, .ref hm)] [] := by
        intro ad nb kp sc ar fr st wt sm ld ln kpM ik hR
        refine s_iinc (v := nI (5 * (i + 1))) C 0 [(3, .int (nI (5 * (i + 1)))), (0, .ref b), (1, .ref h), (2, .ref hm)] dL_law_688 rfl (by rw [show 5 * (i + 1) = 5 * i + 5 by omega, ← nI_add]; rfl) (by decide) rfl ?_
        refine s_goto C 18 dL_law_691 (by decide) ?_
        exact ih (i + 1) (by omega) (by omega) ad nb kp sc ar fr st wt sm ld ln kpM ik hR
      by_cases c0 : ((xs (5 * i)) &&& 31) = 0
      · refine s_tableIn C 116 dL_law_32 (by rw [c0]; decide) (by rw [c0]; decide) (by rw [c0]; rfl) (by decide) ?_
        exact lc_draft C hL hX i hlt ad nb kp sc ar fr st wt sm ld ln kpM ik hR K
      by_cases c1 : ((xs (5 * i)) &&& 31) = 1
      · refine s_tableIn C 189 dL_law_32 (by rw [c1]; decide) (by rw [c1]; decide) (by rw [c1]; rfl) (by decide) ?_
        exact lc_offer C hL hX i hlt ad nb kp sc ar fr st wt sm ld ln kpM ik hR K
      by_cases c2 : ((xs (5 * i)) &&& 31) = 2
      · refine s_tableIn C 212 dL_law_32 (by rw [c2]; decide) (by rw [c2]; decide) (by rw [c2]; rfl) (by decide) ?_
        exact lc_check C hL hX i hlt ad nb kp sc ar fr st wt sm ld ln kpM ik hR K
      by_cases c3 : ((xs (5 * i)) &&& 31) = 3
      · refine s_tableIn C 246 dL_law_32 (by rw [c3]; decide) (by rw [c3]; decide) (by rw [c3]; rfl) (by decide) ?_
        exact lc_set C hL hX i hlt ad nb kp sc ar fr st wt sm ld ln kpM ik hR K
      by_cases c4 : ((xs (5 * i)) &&& 31) = 4
      · refine s_tableIn C 279 dL_law_32 (by rw [c4]; decide) (by rw [c4]; decide) (by rw [c4]; rfl) (by decide) ?_
        exact lc_tick C hL hX i hlt ad nb kp sc ar fr st wt sm ld ln kpM ik hR K
      by_cases c5 : ((xs (5 * i)) &&& 31) = 5
      · refine s_tableIn C 302 dL_law_32 (by rw [c5]; decide) (by rw [c5]; decide) (by rw [c5]; rfl) (by decide) ?_
        exact lc_settle C hL hX i hlt ad nb kp sc ar fr st wt sm ld ln kpM ik hR K
      by_cases c6 : ((xs (5 * i)) &&& 31) = 6
      · refine s_tableIn C 325 dL_law_32 (by rw [c6]; decide) (by rw [c6]; decide) (by rw [c6]; rfl) (by decide) ?_
        exact lc_voids C hL hX i hlt ad nb kp sc ar fr st wt sm ld ln kpM ik hR K
      by_cases c7 : ((xs (5 * i)) &&& 31) = 7
      · refine s_tableIn C 348 dL_law_32 (by rw [c7]; decide) (by rw [c7]; decide) (by rw [c7]; rfl) (by decide) ?_
        exact lc_bend C hL hX i hlt ad nb kp sc ar fr st wt sm ld ln kpM ik hR K
      by_cases c8 : ((xs (5 * i)) &&& 31) = 8
      · refine s_tableIn C 401 dL_law_32 (by rw [c8]; decide) (by rw [c8]; decide) (by rw [c8]; rfl) (by decide) ?_
        exact lc_lose C hL hX i hlt ad nb kp sc ar fr st wt sm ld ln kpM ik hR K
      by_cases c9 : ((xs (5 * i)) &&& 31) = 9
      · refine s_tableIn C 434 dL_law_32 (by rw [c9]; decide) (by rw [c9]; decide) (by rw [c9]; rfl) (by decide) ?_
        exact lc_twice C hL hX i hlt ad nb kp sc ar fr st wt sm ld ln kpM ik hR K
      by_cases c10 : ((xs (5 * i)) &&& 31) = 10
      · refine s_tableIn C 467 dL_law_32 (by rw [c10]; decide) (by rw [c10]; decide) (by rw [c10]; rfl) (by decide) ?_
        exact lc_wire C hL hX i hlt ad nb kp sc ar fr st wt sm ld ln kpM ik hR K
      by_cases c11 : ((xs (5 * i)) &&& 31) = 11
      · refine s_tableIn C 510 dL_law_32 (by rw [c11]; decide) (by rw [c11]; decide) (by rw [c11]; rfl) (by decide) ?_
        exact lc_end C hL hX i hlt ad nb kp sc ar fr st wt sm ld ln kpM ik hR K
      by_cases c12 : ((xs (5 * i)) &&& 31) = 12
      · refine s_tableIn C 543 dL_law_32 (by rw [c12]; decide) (by rw [c12]; decide) (by rw [c12]; rfl) (by decide) ?_
        exact lc_up C hL hX i hlt ad nb kp sc ar fr st wt sm ld ln kpM ik hR K
      by_cases c13 : ((xs (5 * i)) &&& 31) = 13
      · refine s_tableIn C 576 dL_law_32 (by rw [c13]; decide) (by rw [c13]; decide) (by rw [c13]; rfl) (by decide) ?_
        exact lc_upByte C hL hX i hlt ad nb kp sc ar fr st wt sm ld ln kpM ik hR K
      by_cases c14 : ((xs (5 * i)) &&& 31) = 14
      · refine s_tableIn C 619 dL_law_32 (by rw [c14]; decide) (by rw [c14]; decide) (by rw [c14]; rfl) (by decide) ?_
        exact lc_count C hL hX i hlt ad nb kp sc ar fr st wt sm ld ln kpM ik hR K
      by_cases c15 : ((xs (5 * i)) &&& 31) = 15
      · refine s_tableIn C 642 dL_law_32 (by rw [c15]; decide) (by rw [c15]; decide) (by rw [c15]; rfl) (by decide) ?_
        exact lc_keep C hL hX i hlt ad nb kp sc ar fr st wt sm ld ln kpM ik hR K
      by_cases c16 : ((xs (5 * i)) &&& 31) = 16
      · refine s_tableIn C 665 dL_law_32 (by rw [c16]; decide) (by rw [c16]; decide) (by rw [c16]; rfl) (by decide) ?_
        exact lc_again C hL hX i hlt ad nb kp sc ar fr st wt sm ld ln kpM ik hR K
      have hout : (((xs (5 * i)) &&& 31)).toInt < 0 ∨ 16 < (((xs (5 * i)) &&& 31)).toInt := by
        have q0 := i32_ne c0 0 rfl
        have q1 := i32_ne c1 1 rfl
        have q2 := i32_ne c2 2 rfl
        have q3 := i32_ne c3 3 rfl
        have q4 := i32_ne c4 4 rfl
        have q5 := i32_ne c5 5 rfl
        have q6 := i32_ne c6 6 rfl
        have q7 := i32_ne c7 7 rfl
        have q8 := i32_ne c8 8 rfl
        have q9 := i32_ne c9 9 rfl
        have q10 := i32_ne c10 10 rfl
        have q11 := i32_ne c11 11 rfl
        have q12 := i32_ne c12 12 rfl
        have q13 := i32_ne c13 13 rfl
        have q14 := i32_ne c14 14 rfl
        have q15 := i32_ne c15 15 rfl
        have q16 := i32_ne c16 16 rfl
        omega
      refine s_tableOut C 688 dL_law_32 hout (by decide) ?_
      exact St.widen (by omega) (by omega) (K ad nb kp sc ar fr st wt sm ld ln kpM ik hR)
