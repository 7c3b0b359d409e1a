/-- byte i of a long -/
def byt (v : Int64) (i : Nat) : Nat := v.toBitVec.toNat / 2 ^ (8 * i) % 256
theorem byt_lt (v : Int64) (i : Nat) : byt v i < 256 := Nat.mod_lt _ (by decide)
theorem byt_c (v : Int64) {i : Nat} (hi : i < 8) : ((v.toUInt64 >>> ((8 * nI i : Int32).toInt64.toUInt64 &&& Int64.toUInt64 63)).toInt64.toInt32) &&& 255 = nI (byt v i) := by
  obtain ⟨m, hm, rfl⟩ := wb_of v
  rw [show (8 : Int32) = nI 8 from rfl, pk_mul, wb_shr hm (by omega), lN_i, pk_and _ 8 rfl]
  unfold byt
  rw [wb_tn hm]
  congr 1
  show (BitVec.ofNat 32 (m / 2 ^ (8 * i))).toNat % 256 = _
  rw [BitVec.toNat_ofNat]
  omega
theorem sshr_i {x D : Int64} {d : Nat} (hD : (D.toBitVec.smod 64).toNat = d) : (x >>> D).toInt = x.toInt >>> d := by
  rw [← hD]
  exact BitVec.toInt_sshiftRight ..
theorem byt_m (v : Int64) {i : Nat} (hi : i < 8) : (((v >>> ((8 * nI i : Int32).toInt64 &&& 63)) &&& 255) : Int64).toInt32 = nI (byt v i) := by
  obtain ⟨m, hm, rfl⟩ := wb_of v
  have hD : (((nI (8 * i)).toInt64 &&& 63).toBitVec.smod 64).toNat = 8 * i := by
    rw [wb_c _ (by omega), wb_tb, wb_sm _ (by omega), BitVec.toNat_ofNat, Nat.mod_eq_of_lt (by omega)]
  rw [show (8 : Int32) = nI 8 from rfl, pk_mul]
  have e : (lN m >>> ((nI (8 * i)).toInt64 &&& 63)).toInt = (lN m).toInt >>> (8 * i) := sshr_i hD
  obtain ⟨z, hz, ez⟩ := wb_of (lN m >>> ((nI (8 * i)).toInt64 &&& 63))
  rw [ez] at e ⊢
  rw [show (255 : Int64) = lN (2 ^ 8 - 1) from rfl, fb_maskL, lN_i]
  congr 1
  unfold byt
  rw [wb_tn hm]
  have em : (lN m).toInt = if 2 * m < 2 ^ 64 then (m : Int) else (m : Int) - (2 ^ 64 : Nat) := by
    have := BitVec.toInt_eq_toNat_cond (lN m).toBitVec
    rw [wb_tn hm] at this
    exact this
  have ezi : (lN z).toInt = if 2 * z < 2 ^ 64 then (z : Int) else (z : Int) - (2 ^ 64 : Nat) := by
    have := BitVec.toInt_eq_toNat_cond (lN z).toBitVec
    rw [wb_tn hz] at this
    exact this
  rw [em, ezi, Int.shiftRight_eq_div_pow] at e
  rcases (show i = 0 ∨ i = 1 ∨ i = 2 ∨ i = 3 ∨ i = 4 ∨ i = 5 ∨ i = 6 ∨ i = 7 by omega) with rfl | rfl | rfl | rfl | rfl | rfl | rfl | rfl <;> (simp only [Nat.reduceMul, Nat.reducePow] at e ⊢; split at e <;> split at e <;> omega)
theorem va_uu {α : Type} (f : Nat → α) (k : Nat) (v w : α) : va_up (va_up f k v) k w = va_up f k w := bx_uu f k v w
theorem va_s {α : Type} {f : Nat → α} {k : Nat} {v : α} : va_up f k v k = v := by unfold va_up; rw [if_pos rfl]
theorem va_o {α : Type} {f : Nat → α} {k j : Nat} {v : α} (h : j ≠ k) : va_up f k v j = f j := by unfold va_up; rw [if_neg h]
section DRAFT
variable {nb s d k : Nat} {v : Int64} {sc : Nat → Nat → Int32} {fr : Nat → Nat → Nat}
theorem addD (hnb : 1 ≤ nb) (hs : s < 2) (hd : d + k ≤ 24) (hk : k ≤ 8) (h1 : sc (2 + 8 * s) 1 = nI d) : ∀ (n fu i : Nat) (ar : Nat → Nat → Int32), i + n = k → n < fu → f_X0_addToDraft_3 nb fu (2 + 8 * s) (nI k) v (nI i) sc ar fr = some (up2 sc (2 + 8 * s) 1 (nI (d + k)), va_up ar (3 + 8 * s) (fun j => if d + i ≤ j ∧ j < d + k then nI (byt v (j - d)) else ar (3 + 8 * s) j), fr) := by
  intro n
  induction n with
  | zero =>
    intro fu i ar hi hfu
    obtain ⟨fu, rfl⟩ : ∃ z, fu = z + 1 := ⟨fu - 1, by omega⟩
    rw [f_X0_addToDraft_3, if_pos (nI_le (by omega) (by omega)), gd_t (p_end hnb hs), bd_e, bd_e, h1, nI_add]
    congr 3
    funext p
    unfold va_up
    by_cases hp : p = 3 + 8 * s
    · rw [if_pos hp, hp]; funext j; rw [if_neg (by omega)]
    · rw [if_neg hp]
  | succ n ih =>
    intro fu i ar hi hfu
    obtain ⟨fu, rfl⟩ : ∃ z, fu = z + 1 := ⟨fu - 1, by omega⟩
    rw [f_X0_addToDraft_3, if_neg (nI_ge (by omega) (by omega)), gd_t (p_end hnb hs), bd_e, h1, nI_add, show 2 + 8 * s + 1 = 3 + 8 * s by omega, wrA_n (p_draft hnb hs) (by rw [l_draft hs]; omega), bd_e, ad_1, byt_c v (by omega)]
    rw [ih fu (i + 1) _ (by omega) (by omega)]
    rw [va_uu]
    congr 3
    congr 1
    funext j
    rw [va_s]
    by_cases hj : d + i = j
    · subst hj
      rw [if_neg (by omega), upd_s, if_pos (by omega), show d + i - d = i by omega]
    · rw [upd_o (by omega)]
      by_cases hr : d + i ≤ j ∧ j < d + k
      · rw [if_pos (by omega), if_pos hr]
      · rw [if_neg (by omega), if_neg hr]
theorem draft50 {wt : Int32} {sm : Int64} {ld ln : Int32} (hs : s < 2) (hd : d + k ≤ 24) (hk : k ≤ 8) : ∀ (n fu i : Nat) (st : Nat → Int32), i + n = k → n < fu → st (113 + 100 * s) = nI (d + i) → f_X6_draft_50 fu (nI k) v (nI (100 + 100 * s)) (nI i) st wt sm ld ln = some (nI (d + k), (fun j => if 120 + 100 * s + d + i ≤ j ∧ j < 120 + 100 * s + d + k then nI (byt v (j - (120 + 100 * s + d))) else if j = 113 + 100 * s then nI (d + k) else st j), wt, sm, ld, ln) := by
  intro n
  induction n with
  | zero =>
    intro fu i st hi hfu h13
    obtain ⟨fu, rfl⟩ : ∃ z, fu = z + 1 := ⟨fu - 1, by omega⟩
    rw [f_X6_draft_50, if_pos (nI_le (by omega) (by omega)), ad_13, rd_n (by omega) (by decide), show 100 + 100 * s + 13 = 113 + 100 * s by omega, h13, show d + i = d + k by omega]
    congr 3
    funext j
    rw [if_neg (by omega)]
    by_cases hj : j = 113 + 100 * s
    · rw [if_pos hj, hj, h13, show d + i = d + k by omega]
    · rw [if_neg hj]
  | succ n ih =>
    intro fu i st hi hfu h13
    obtain ⟨fu, rfl⟩ : ∃ z, fu = z + 1 := ⟨fu - 1, by omega⟩
    rw [f_X6_draft_50, if_neg (nI_ge (by omega) (by omega)), ad_13, rd_n (by omega) (by decide), show 100 + 100 * s + 13 = 113 + 100 * s by omega, h13, bd_e, ad_20, nI_add, wr_n (by omega) (by decide), bd_e, rd_n (by omega) (by decide), upd_o (by omega), h13, bd_e, wr_n (by omega) (by decide), bd_e, ad_1, ad_1, byt_m v (by omega)]
    rw [ih fu (i + 1) _ (by omega) (by omega) (by rw [upd_s, show d + i + 1 = d + (i + 1) by omega])]
    congr 3
    funext j
    by_cases hj : j = 113 + 100 * s
    · subst hj
      rw [if_neg (by omega), if_pos rfl, if_neg (by omega), if_pos rfl]
    · by_cases hr : 120 + 100 * s + d + i ≤ j ∧ j < 120 + 100 * s + d + k
      · rw [if_pos hr]
        by_cases hq : j = 120 + 100 * s + d + i
        · subst hq
          rw [if_neg (by omega), if_neg hj, upd_o (by omega), show 100 + 100 * s + 20 + (d + i) = 120 + 100 * s + d + i by omega, upd_s, show 120 + 100 * s + d + i - (120 + 100 * s + d) = i by omega]
        · rw [if_pos (by omega)]
      · rw [if_neg (by omega), if_neg hj, if_neg hr, if_neg hj, upd_o (by omega), upd_o (by omega)]
end DRAFT
theorem sim_draft {nb : Nat} {kp : Nat → Option Nat} {sc ar : Nat → Nat → Int32} {fr : Nat → Nat → Nat} {st kpM ik : Nat → Int32} (hR : Rel nb kp sc ar fr st kpM ik) (x1 : Int32) (x2 : Int32) (x3 : Int64) (wt : Int32) (sm : Int64) (ld ln : Int32) : ∃ r sc' ar' fr' st' wt' sm' ld' ln', f_X5_draft nb x1 x2 x3 sc ar fr = some (r, sc', ar', fr') ∧ f_X6_draft x1 x2 x3 st wt sm ld ln = some (r, st', wt', sm', ld', ln') ∧ Rel nb kp sc' ar' fr' st' kpM ik := by
  rcases side x1 with ⟨s, hs, rfl⟩ | ⟨e6, e5⟩
  · have hnb := hR.1
    obtain ⟨T, o, n, u, g, t, d, w, v, hT, hv, hE⟩ := hR.at hs
    have a13 : st (113 + 100 * s) = nI d := hE.2.1.2.2.2.2.2.2.2.2
    have c1 : sc (2 + 8 * s) 1 = nI d := by have := hE.2.2.2.1.1; simpa using this
    have hd : d ≤ 24 := hE.1.2.2.2.2.2.2.2.1
    rw [f_X5_draft, noSide_s hs, bx_s, if_pos rfl, f_X6_draft, isEnd_s hs, bx_s, if_neg ne10, in_spec x2 (lo := 1) (hi := 8) 1 8 rfl rfl, bx_s, endAt_s, bx_s]
    have b1 := (s32 x2 1 1 rfl).1
    have b8 := (s32 x2 8 8 rfl).2.1
    by_cases h1 : x2 < 1
    · have := b1.mp h1
      rw [if_pos h1, if_neg (show ¬ (1 ≤ x2.toInt ∧ x2.toInt ≤ 8) by omega), if_pos rfl]
      exact ⟨_, _, _, _, _, _, _, _, _, rfl, rfl, hR⟩
    have h1' : ¬ x2.toInt < 1 := fun q => h1 (b1.mpr q)
    rw [if_neg h1]
    by_cases h8 : x2 ≤ 8
    · have h8' := b8.mp h8
      obtain ⟨k, hk, rfl⟩ := nI_of (x := x2) (fun q => by rw [Int32.lt_iff_toInt_lt] at q; have : (0 : Int32).toInt = 0 := rfl; omega)
      rw [nI_toInt hk] at h1' h8'
      rw [if_pos h8, nI_toInt hk, if_pos (show 1 ≤ (k : Int) ∧ (k : Int) ≤ 8 by omega), if_neg ne10, gd_t (p_lk hnb), rdR_n (p_ends hnb) hs (by decide), nI_clamp (by omega), show 0 + 1 + 1 + 8 * s = 2 + 8 * s by omega, gd_t (p_end hnb hs), c1, nI_add, ad_13, rd_n (by omega) (by decide), show 100 + 100 * s + 13 = 113 + 100 * s by omega, a13, nI_add]
      by_cases hle : d + k ≤ 24
      · rw [if_pos (show nI (d + k) ≤ 24 from nI_le (b := 24) hle (by decide)), if_pos (show nI (d + k) ≤ 24 from nI_le (b := 24) hle (by decide))]
        have hfu : k < FU := by unfold FU; omega
        have e1 := addD (v := x3) (fr := fr) hnb hs hle (by omega) c1 k FU 0 ar (by omega) hfu
        have e2 := draft50 (v := x3) (wt := wt) (sm := sm) (ld := ld) (ln := ln) hs hle (by omega) k FU 0 st (by omega) hfu a13
        rw [f_X0_addToDraft, show (0 : Int32) = nI 0 from rfl, e1, bCv_s, up2_s, e2]
        refine ⟨_, _, _, _, _, _, _, _, _, rfl, rfl, ?_⟩
        refine hR.step (hR.2.1.setEnd (s := s) hs (fun o n u g t d' w v h => ?_) (fun i hi => ?_) (fun p hp => up2_ne hp) (fun p hp => va_o (by omega))) (fun p hp => up2_ne (by omega)) (fun p hp => va_o (by omega)) (fun p hp => rfl)
        · obtain ⟨h1, h2, h3, h4, h5, h6, h7⟩ := h
          obtain ⟨a0, a1, a2, a3, a5, a6, a7, a11, a13'⟩ := h2
          have hdd : d' = d := (nI_eq (by omega) (by omega)).mp (a13'.symm.trans a13)
          subst hdd
          obtain ⟨c1, c3, c4, c5, c6, c7, c8, c9, c10, c11, c12, c13, c15⟩ := h4
          simp only [Nat.zero_add] at c1 c3 c4 c5 c6 c7 c8 c9 c10 c11 c12 c13 c15 h5 h6 h7
          have es : ∀ j, j ≠ 113 + 100 * s → ¬ (120 + 100 * s ≤ j ∧ j < 144 + 100 * s) → (if 120 + 100 * s + d' + 0 ≤ j ∧ j < 120 + 100 * s + d' + k then nI (byt x3 (j - (120 + 100 * s + d'))) else if j = 113 + 100 * s then nI (d' + k) else st j) = st j := by
            intro j hj hr
            rw [if_neg (by omega), if_neg hj]
          refine ⟨o, n, u, g, t, d' + k, w, ⟨by omega, ?_, ?_, ?_, ?_, fun i a b => (h6 i a b).cong (by rw [va_o (by omega)]) (fun z hz => by rw [va_o (by omega)]) (fun j hj1 hj2 => es j (by omega) (by omega)), fun i a b => (h7 i a b).cong (by rw [va_o (by omega)]) (fun z hz => by rw [va_o (by omega)]) (fun j hj1 hj2 => es j (by omega) (by omega))⟩⟩
          · simp (disch := omega) only [es]
            refine ⟨a0, a1, a2, a3, a5, a6, a7, a11, ?_⟩
            rw [if_neg (by omega), if_pos trivial]
          · simp (disch := omega) only [es]; exact h3
          · simp (disch := omega) only [Nat.zero_add, es, up2_s, up2_o]
            exact ⟨trivial, c3, c4, c5, c6, c7, c8, c9, c10, c11, c12, c13, c15⟩
          · intro z hz
            simp only [Nat.zero_add, va_s]
            by_cases hzd : z < d'
            · rw [if_neg (by omega), if_neg (by omega), if_neg (by omega)]; exact h5 z hzd
            · rw [if_pos (by omega), if_pos (by omega), show 120 + 100 * s + z - (120 + 100 * s + d') = z - d' by omega]
              exact ⟨rfl, _, byt_lt _ _, rfl⟩
        · rw [if_neg (by omega), if_neg (by omega)]
      · rw [if_neg (show ¬ nI (d + k) ≤ 24 from nI_ge (a := 24) (by omega) (by omega)), if_neg (show ¬ nI (d + k) ≤ 24 from nI_ge (a := 24) (by omega) (by omega))]
        exact ⟨_, _, _, _, _, _, _, _, _, rfl, rfl, hR⟩
    · have h8' : ¬ x2.toInt ≤ 8 := fun q => h8 (b8.mpr q)
      rw [if_neg h8, if_neg (show ¬ (1 ≤ x2.toInt ∧ x2.toInt ≤ 8) by omega), if_pos rfl]
      exact ⟨_, _, _, _, _, _, _, _, _, rfl, rfl, hR⟩
  · exact ⟨-1, sc, ar, fr, st, wt, sm, ld, ln, by simp only [f_X5_draft, e5, bx_s, i10, if_false], by simp only [f_X6_draft, e6, bx_s, i00, if_true], hR⟩
