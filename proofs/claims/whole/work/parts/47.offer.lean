theorem off86 {s o nn d p : Nat} (hs : s < 2) (ho : o < 60) (hp : p = 1400 + 1600 * s + 25 * o) (hd : d ≤ 24) (hn : nn ≤ o) {wt : Int32} {sm : Int64} {ld ln : Int32} : ∀ (n fu i : Nat) (st : Nat → Int32), i + n = d → n < fu → st p = nI d → st (100 + 100 * s) = nI o → st (101 + 100 * s) = nI nn → f_X6_offer_86 fu (nI s) (nI (100 + 100 * s)) (nI p) (nI i) st wt sm ld ln = some (nI (o + 1 - nn), (fun j => if p + 1 + i ≤ j ∧ j < p + 1 + d then st (120 + 100 * s + (j - (p + 1))) else if j = 100 + 100 * s then nI (o + 1) else if j = 113 + 100 * s then 0 else st j), wt, sm, ld, ln) := by
  intro n
  induction n with
  | zero =>
    intro fu i st hi hfu h0 h1 h2
    obtain ⟨fu, rfl⟩ : ∃ z, fu = z + 1 := ⟨fu - 1, by omega⟩
    have hw : ∀ st' : Nat → Int32, st' (100 + 100 * s) = nI (o + 1) → st' (101 + 100 * s) = nI nn → f_X6_waiting (nI s) st' wt sm ld ln = some (nI (o + 1 - nn), st', wt, sm, ld, ln) := fun st' q1 q2 => waiting_m hs q1 q2 (by omega)
    rw [f_X6_offer_86, rd_n (by omega) (by decide), h0, if_pos (nI_le (by omega) (by omega)), bd_e, ad_0, Nat.add_zero, rd_n (by omega) (by decide), h1, bd_e, ad_1, wr_n (by omega) (by decide), ad_13, wr_n (by omega) (by decide)]
    rw [hw _ (by rw [upd_o (by omega), upd_s]) (by rw [upd_o (by omega), upd_o (by omega)]; exact h2), bM_s]
    congr 3
    funext j
    rw [if_neg (by omega)]
    by_cases q1 : j = 100 + 100 * s
    · subst q1; rw [if_pos rfl, upd_o (by omega), upd_s]
    · rw [if_neg q1]
      by_cases q2 : j = 113 + 100 * s
      · subst q2; rw [if_pos rfl, show 100 + 100 * s + 13 = 113 + 100 * s by omega, upd_s]
      · rw [if_neg q2, upd_o (by omega), upd_o (by omega)]
  | succ n ih =>
    intro fu i st hi hfu h0 h1 h2
    obtain ⟨fu, rfl⟩ : ∃ z, fu = z + 1 := ⟨fu - 1, by omega⟩
    rw [f_X6_offer_86, rd_n (by omega) (by decide), h0, if_neg (nI_ge (by omega) (by omega)), ad_20, nI_add, rd_n (by omega) (by decide), ad_1, nI_add, wr_n (by omega) (by decide), bd_e, ad_1]
    rw [ih fu (i + 1) _ (by omega) (by omega) (by rw [upd_o (by omega)]; exact h0) (by rw [upd_o (by omega)]; exact h1) (by rw [upd_o (by omega)]; exact h2)]
    congr 3
    funext j
    by_cases q0 : j = p + 1 + i
    · subst q0
      rw [if_neg (by omega), if_neg (by omega), if_neg (by omega), upd_s, if_pos (by omega), show 120 + 100 * s + (p + 1 + i - (p + 1)) = 100 + 100 * s + 20 + i by omega]
    · by_cases q1 : p + 1 + i ≤ j ∧ j < p + 1 + d
      · rw [if_pos (by omega), if_pos q1, upd_o (by omega)]
      · rw [if_neg (by omega), if_neg q1]
        by_cases q2 : j = 100 + 100 * s
        · rw [if_pos q2, if_pos q2]
        · rw [if_neg q2, if_neg q2]
          by_cases q3 : j = 113 + 100 * s
          · rw [if_pos q3, if_pos q3]
          · rw [if_neg q3, if_neg q3, upd_o (by omega)]
theorem sim_offer {nb : Nat} {kp : Nat → Option Nat} {sc ar : Nat → Nat → Int32} {fr : Nat → Nat → Nat} {st kpM ik : Nat → Int32} (hR : Rel nb kp sc ar fr st kpM ik) (x1 : Int32) (wt : Int32) (sm : Int64) (ld ln : Int32) : ∃ r sc' ar' fr' st' wt' sm' ld' ln', f_X5_offer nb x1 sc ar fr = some (r, sc', ar', fr') ∧ f_X6_offer x1 st wt sm ld ln = some (r, st', wt', sm', ld', ln') ∧ Rel nb kp sc' ar' fr' st' kpM ik := by
  rcases side x1 with ⟨s, hs, rfl⟩ | ⟨e6, e5⟩
  · have hnb := hR.1
    obtain ⟨T, o, n, u, g, t, d, w, v, hT, hv, hE⟩ := hR.at hs
    obtain ⟨hB, ⟨a0, a1, a2, a3, a5, a6, a7, a11, a13⟩, hb3, hc, h5, h6, h7⟩ := id hE
    obtain ⟨c1, c3, c4, c5, c6, c7, c8, c9, c10, c11, c12, c13, c15⟩ := hc
    simp only [Nat.zero_add] at c1 c3 c4 c5 c6 c7 c8 c9 c10 c11 c12 c13 c15 h5 h6 h7
    have g3 := p_end hnb hs
    rw [f_X5_offer, noSide_s hs, bx_s, if_pos rfl, gd_t (p_lk hnb), rdR_n (p_ends hnb) hs (by decide), nI_clamp (by omega), show 0 + 1 + 1 + 8 * s = 2 + 8 * s by omega, gd_t g3, c1, f_X6_offer, isEnd_s hs, bx_s, if_neg ne10, endAt_s, bx_s, ad_13, rd_n (by omega) (by decide), show 100 + 100 * s + 13 = 113 + 100 * s by omega, a13]
    by_cases hd0 : d = 0
    · subst hd0
      rw [if_pos (show nI 0 = (0 : Int32) from rfl), if_pos (show nI 0 = (0 : Int32) from rfl)]
      exact ⟨_, _, _, _, _, _, _, _, _, rfl, rfl, hR⟩
    have hdn : ¬ nI d = 0 := fun q => hd0 ((nI_eq (b := 0) (by omega) (by decide)).mp q)
    rw [if_neg hdn, if_neg hdn, waiting_c g3 c3 c4 (by omega), bC_s, waiting_m hs a0 a1 (by omega), bM_s]
    by_cases h16 : o - n = 16
    · rw [h16, if_pos (show (16 : Int32) ≤ nI 16 by decide), if_pos (show nI 16 = (16 : Int32) from rfl)]
      exact ⟨_, _, _, _, _, _, _, _, _, rfl, rfl, hR⟩
    rw [if_neg (show ¬ (16 : Int32) ≤ nI (o - n) from nI_ge (b := 16) (by omega) (by decide)), if_neg (fun q : nI (o - n) = 16 => h16 ((nI_eq (b := 16) (by omega) (by decide)).mp q)), c3, ad_0, Nat.add_zero, rd_n (by omega) (by decide), a0]
    by_cases h60 : o = 60
    · subst h60
      rw [if_neg (show ¬ nI 60 < (60 : Int32) by decide), if_pos (show nI 60 = (60 : Int32) from rfl)]
      exact ⟨_, _, _, _, _, _, _, _, _, rfl, rfl, hR⟩
    have hrem : nI o - nI o / 24 * 24 = nI (o % 24) := pk_rem (d := 24) (by omega) (by decide) (by decide)
    rw [if_pos (show nI o < (60 : Int32) from nI_lt (b := 60) (by omega) (by decide)), if_neg (fun q : nI o = 60 => h60 ((nI_eq (b := 60) (by omega) (by decide)).mp q)), rd_n (by omega) (by decide), a0, packetAt_s, bx_s, rd_n (by omega) (by decide), a13, wr_n (by omega) (by decide)]
    have hfu : d < FU := by unfold FU; omega
    have em := off86 (s := s) (o := o) (nn := n) (d := d) hs (by omega) rfl (by omega) (by omega) (wt := wt) (sm := sm) (ld := ld) (ln := ln) d FU 0 (upd st (1400 + 1600 * s + 25 * o) (nI d)) (by omega) hfu upd_s (by rw [upd_o (by omega)]; exact a0) (by rw [upd_o (by omega)]; exact a1)
    rw [show (0 : Int32) = nI 0 from rfl, em]
    have ec : f_X0_turnDraftIntoPacket nb (2 + 8 * s) sc ar fr = some (up2 (up2 sc (2 + 8 * s) 3 (nI (o + 1))) (2 + 8 * s) 1 (nI 0), va_up (va_up ar (6 + 8 * s) (va_cpy (ar (3 + 8 * s)) (ar (6 + 8 * s)) 0 (o % 24 * 24) d)) (5 + 8 * s) (upd (ar (5 + 8 * s)) (o % 24) (nI d)), fr) := by
      rw [f_X0_turnDraftIntoPacket, gd_t g3, show 2 + 8 * s + 2 = 4 + 8 * s by omega, gd_t (p_pks hnb hs), c3, hrem, f_X3_put, gd_t (p_pks hnb hs), show 4 + 8 * s + 2 = 6 + 8 * s by omega, show 4 + 8 * s + 1 = 5 + 8 * s by omega, show 2 + 8 * s + 1 = 3 + 8 * s by omega, c1, show (0 : Int32) = nI 0 from rfl, show (24 : Int32) = nI 24 from rfl, pk_mul, cpA_n (p_draft hnb hs) (p_pkb hnb hs) (by rw [l_draft hs]; omega) (by rw [l_pkb hs]; omega), wrA_n (p_pkl hnb hs) (by rw [l_pkl hs]; omega), bCv_s, bd_e, c3, ad_1, bd_e, bd_e, va_o (by omega)]
    rw [ec, bCv_s, waiting_c g3 (a := o + 1) (b := n) (by rw [up2_o (by omega), up2_s]) (by rw [up2_o (by omega), up2_o (by omega)]; exact c4) (by omega), bC_s]
    refine ⟨_, _, _, _, _, _, _, _, _, rfl, rfl, ?_⟩
    refine hR.step (hR.2.1.setEnd (s := s) hs (fun o' n' u' g' t' d' w' v' h => ?_) (fun i hi => ?_) (fun p hp => by rw [up2_ne hp, up2_ne hp]) (fun p hp => by rw [va_o (by omega), va_o (by omega)])) (fun p hp => by rw [up2_ne (by omega), up2_ne (by omega)]) (fun p hp => by rw [va_o (by omega), va_o (by omega)]) (fun p hp => rfl)
    · have hv' : v' = v' := rfl
      obtain ⟨-, ⟨-, -, -, -, -, -, -, a11', -⟩, -, hc', -, -, h7'⟩ := h
      have c15' := hc'.2.2.2.2.2.2.2.2.2.2.2.2
      simp only [Nat.zero_add] at c15' h7'
      have es : ∀ j, j ≠ 100 + 100 * s → j ≠ 113 + 100 * s → ¬ (1400 + 1600 * s + 25 * o ≤ j ∧ j < 1425 + 1600 * s + 25 * o) → (if 1400 + 1600 * s + 25 * o + 1 + 0 ≤ j ∧ j < 1400 + 1600 * s + 25 * o + 1 + d then upd st (1400 + 1600 * s + 25 * o) (nI d) (120 + 100 * s + (j - (1400 + 1600 * s + 25 * o + 1))) else if j = 100 + 100 * s then nI (o + 1) else if j = 113 + 100 * s then 0 else upd st (1400 + 1600 * s + 25 * o) (nI d) j) = st j := by
        intro j q1 q2 q3
        rw [if_neg (by omega), if_neg q1, if_neg q2, upd_o (by omega)]
      refine ⟨o + 1, n, u, g, t, 0, w, ⟨by omega, ?_, ?_, ?_, fun k hk => absurd hk (by omega), ?_, fun i a b => (h7' i a b).cong (by rw [va_o (by omega), va_o (by omega)]) (fun z hz => by rw [va_o (by omega), va_o (by omega)]) (fun j hj1 hj2 => es j (by omega) (by omega) (by omega))⟩⟩
      · simp (disch := omega) only [es]
        refine ⟨?_, a1, a2, a3, a5, a6, a7, a11', ?_⟩
        · rw [if_neg (by omega), if_pos trivial]
        · rw [if_neg (by omega), if_neg (by omega), if_pos trivial]; rfl
      · simp (disch := omega) only [es]; exact hb3
      · simp (disch := omega) only [Nat.zero_add, es, up2_s, up2_o]
        exact ⟨trivial, trivial, c4, c5, c6, c7, c8, c9, c10, c11, c12, c13, c15'⟩
      · intro i hi1 hi2
        simp only [Nat.zero_add]
        by_cases hio : i = o
        · subst hio
          refine ⟨d, by omega, by omega, ?_, ?_, fun k hk => ?_⟩
          · rw [va_s, upd_s]
          · dsimp only; rw [if_neg (by omega), if_neg (by omega), if_neg (by omega), upd_s]
          · dsimp only; rw [va_o (by omega), va_s, pk_cpy_in (by omega) (by omega), if_pos (by omega), upd_o (by omega)]
            rw [show 0 + (24 * (i % 24) + k - i % 24 * 24) = k by omega, show 1400 + 1600 * s + 25 * i + 1 + k - (1400 + 1600 * s + 25 * i + 1) = k by omega]
            exact h5 k hk
        · refine (h6 i hi1 (by omega)).cong ?_ (fun z hz => ?_) (fun j hj1 hj2 => es j (by omega) (by omega) (by omega))
          · rw [va_s, upd_o (by omega)]
          · rw [va_o (by omega), va_s, pk_cpy_out (by omega)]
    · rw [if_neg (by omega), if_neg (by omega), if_neg (by omega), upd_o (by omega)]
  · exact ⟨-1, sc, ar, fr, st, wt, sm, ld, ln, by simp only [f_X5_offer, e5, bx_s, i10, if_false], by simp only [f_X6_offer, e6, bx_s, i00, if_true], hR⟩
