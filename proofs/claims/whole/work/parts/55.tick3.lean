theorem by64_d1 {a b : Nat} (ha : a < 2 ^ 29) (hb : b < 2 ^ 29) : f_X5_by64 (nI a - 1 - nI b) = some (nI ((((a : Int) - 1 - b) % 64).toNat)) ∧ f_X6_by64 (nI a - 1 - nI b) = some (nI ((((a : Int) - 1 - b) % 64).toNat)) := by
  have e1 : (nI a - 1 : Int32).toInt = (a : Int) - 1 := by
    rw [show (1 : Int32) = nI 1 from rfl, pk_sub_toInt (by omega) (by decide)]; rfl
  have e2 : (nI b).toInt = (b : Int) := nI_toInt (by omega)
  have e : (nI a - 1 - nI b : Int32).toInt = (a : Int) - 1 - b := by
    rw [fb_subI (by rw [e1, e2]; omega) (by rw [e1, e2]; omega), e1, e2]
  rw [by64_c, by64_m, e]
  exact ⟨rfl, rfl⟩
section TK3
variable {nb T s : Nat} {K K' : Nat → Nat} {sc ar sc' ar' : Nat → Nat → Int32} {fr fr' : Nat → Nat → Nat} {st st' : Nat → Int32} {wt : Int32} {sm : Int64} {ld ln : Int32}
theorem tail_sim (hnb : 1 ≤ nb) (hs : s < 2) (h : RX T K sc ar fr st) (r : Int32) : ∃ sc' ar' st', (if r = 3 then (bC (f_X0_unacked nb (2 + 8 * s) sc ar fr) fun r17 sc18 ar19 fr20 =>
  if r17 ≤ 0 then (some (sc18, ar19, fr20))
  else (bCv (f_X2_sendAgain nb 0 (2 + 8 * s) sc18 ar19 fr20) fun sc23 ar24 fr25 =>
  some (sc23, ar24, fr25)))
  else (some (sc, ar, fr))) = some (sc', ar', fr) ∧ f_X6_comesWord_184 (nI s) r (nI (100 + 100 * s)) st wt sm ld ln = some (st', wt, sm, ld, ln) ∧ RX T K sc' ar' fr st' ∧ Out sc ar fr sc' ar' fr ∧ Wk st st' := by
  obtain ⟨o, n, u, g, t, d, w, v, hv, hE⟩ := h.2.1 s hs
  obtain ⟨h1, h2, h3, h4, h5, h6, h7⟩ := id hE
  obtain ⟨a0, a1, a2, a3, a5, a6, a7, a11, a13⟩ := h2
  obtain ⟨c1, c3, c4, c5, c6, c7, c8, c9, c10, c11, c12, c13, c15⟩ := h4
  simp only [Nat.zero_add] at c1 c3 c4 c5 c6 c7 c8 c9 c10 c11 c12 c13 c15
  rw [f_X6_comesWord_184]
  by_cases q : r = 3
  · rw [if_pos q, if_pos q, unacked_c (p_end hnb hs) c4 c5 (by omega), bC_s, ad_2, rd_n (by omega) (by decide), show 100 + 100 * s + 2 = 102 + 100 * s by omega, a2, show n - (n - u) = u by omega]
    by_cases hu : u = 0
    · rw [if_pos (show nI u ≤ (0 : Int32) by rw [hu]; decide), if_pos (show nI u ≤ (0 : Int32) by rw [hu]; decide)]
      exact ⟨_, _, _, rfl, rfl, h, Out.refl, Wk.refl⟩
    · rw [if_neg (show ¬ nI u ≤ (0 : Int32) from nI_ge (a := 0) (by omega) (by omega)), if_neg (show ¬ nI u ≤ (0 : Int32) from nI_ge (a := 0) (by omega) (by omega))]
      obtain ⟨sc', ar', st', e1, e2, e3, e4, e5⟩ := again_sim (wt := wt) (sm := sm) (ld := ld) (ln := ln) hnb hs h
      rw [e1, e2, bCv_s, bMv_s]
      exact ⟨_, _, _, rfl, rfl, e3, e4, e5⟩
  · rw [if_neg q, if_neg q]
    exact ⟨_, _, _, rfl, rfl, h, Out.refl, Wk.refl⟩
theorem word_sim (hnb : 1 ≤ nb) (hs : s < 2) (h : RX T K sc ar fr st) {c : Nat} (hc : c < 64) (r : Int32) : ∃ sc' ar' st', f_X2_takeInWord nb 0 r (nI c) (2 + 8 * s) sc ar fr = some (sc', ar', fr) ∧ f_X6_comesWord (nI s) r (nI c) st wt sm ld ln = some (st', wt, sm, ld, ln) ∧ RX T K sc' ar' fr st' ∧ Out sc ar fr sc' ar' fr ∧ Wk st st' := by
  have et := h.tal (j := 13) (j' := 28) (by omega)
  have H1 := h.tally (j := 13) (j' := 28) (x := st 28 + 1) (by omega)
  obtain ⟨o, n, u, g, t, d, w, v, hv, hE⟩ := H1.2.1 s hs
  obtain ⟨h1, h2, h3, h4, h5, h6, h7⟩ := id hE
  obtain ⟨a0, a1, a2, a3, a5, a6, a7, a11, a13⟩ := h2
  obtain ⟨c1, c3, c4, c5, c6, c7, c8, c9, c10, c11, c12, c13, c15⟩ := h4
  simp only [Nat.zero_add] at c1 c3 c4 c5 c6 c7 c8 c9 c10 c11 c12 c13 c15
  have hW1 : Wk st (upd st 28 (st 28 + 1)) := Wk.of fun i _ _ => upd_o (by omega)
  rw [f_X2_takeInWord, gd_t (p_lk hnb), talr_l hnb 13 13 rfl (by decide), bd_e, tal_l hnb 13 13 rfl (by decide), et, gd_t (p_end hnb hs), next_c (p_end hnb hs) c4 (by omega), bC_s, (by64_d1 (by omega) (by omega)).1, bx_s]
  rw [f_X6_comesWord, endAt_s, bx_s, rd_l 28 28 rfl (by decide)]
  rw [show (bd (st 28 + 1) : (Int32 → Option ((Nat → Int32) × Int32 × Int64 × Int32 × Int32)) → _) = fun k => k (st 28 + 1) from rfl]
  dsimp only
  rw [wr_l 28 28 rfl (by decide)]
  generalize hS : upd st 28 (st 28 + 1) = S at *
  generalize hA : va_up ar 71 (upd (ar 71) 13 (st 28 + 1)) = A at *
  have hO : Out sc ar fr sc A fr := by rw [← hA]; exact Out.tally
  rw [ad_1, rd_n (by omega) (by decide), show 100 + 100 * s + 1 = 101 + 100 * s by omega, a1, (by64_d1 (by omega) (by omega)).2, bx_s]
  rw [show ((((n % 64 : Nat) : Int) - 1 - c) % 64).toNat = (((n : Int) - 1 - c) % 64).toNat by omega]
  by_cases q : (((n : Int) - 1 - c) % 64).toNat < 32
  · rw [if_pos (show nI (((n : Int) - 1 - c) % 64).toNat < (32 : Int32) from nI_lt (b := 32) q (by decide)), if_pos (show nI (((n : Int) - 1 - c) % 64).toNat < (32 : Int32) from nI_lt (b := 32) q (by decide))]
    rw [f_X0_takeAcknowledgement, gd_t (p_end hnb hs), acked_c (p_end hnb hs) c5 (by omega), bC_s, (by64_d (by omega) (by omega)).1, bx_s]
    rw [ad_3, rd_n (by omega) (by decide), show 100 + 100 * s + 3 = 103 + 100 * s by omega, a3, (by64_d (by omega) (by omega)).2, bx_s]
    generalize hk : (((c : Int) - ((n - u + 63) % 64 : Nat)) % 64).toNat = k
    have hk64 : k < 64 := by omega
    by_cases k0 : k < 1
    · rw [if_pos (show nI k < (1 : Int32) from nI_lt (b := 1) k0 (by decide)), if_pos (show nI k < (1 : Int32) from nI_lt (b := 1) k0 (by decide)), bCv_s]
      obtain ⟨sc', ar', st', e1, e2, e3, e4, e5⟩ := tail_sim (wt := wt) (sm := sm) (ld := ld) (ln := ln) hnb hs H1 r
      exact ⟨_, _, _, e1, e2, e3, hO.trans e4, hW1.trans e5⟩
    rw [if_neg (show ¬ nI k < (1 : Int32) from nI_nlt (b := 1) (by omega) (by omega)), if_neg (show ¬ nI k < (1 : Int32) from nI_nlt (b := 1) (by omega) (by omega)), unacked_c (p_end hnb hs) c4 c5 (by omega), bC_s, ad_2, rd_n (by omega) (by decide), show 100 + 100 * s + 2 = 102 + 100 * s by omega, a2, show n - (n - u) = u by omega]
    by_cases ku : u < k
    · rw [if_neg (show ¬ nI k ≤ nI u from nI_ge ku (by omega)), if_pos (show nI u < nI k from nI_lt ku (by omega)), bCv_s]
      obtain ⟨sc', ar', st', e1, e2, e3, e4, e5⟩ := tail_sim (wt := wt) (sm := sm) (ld := ld) (ln := ln) hnb hs H1 r
      exact ⟨_, _, _, e1, e2, e3, hO.trans e4, hW1.trans e5⟩
    rw [if_pos (show nI k ≤ nI u from nI_le (by omega) (by omega)), if_neg (show ¬ nI u < nI k from nI_nlt (by omega) (by omega)), bd_e, bd_e, c5, nI_add]
    rw [unacked_c (p_end hnb hs) (a := n) (b := n - u + k) (by rw [up2_o (by decide)]; exact c4) (by rw [up2_s]) (by omega), bC_s, bd_e, bd_e, bd_e, bd_e, bCv_s, up2_o (by decide), c9, show n - (n - u + k) = u - k by omega]
    rw [bd_e, rd_n (by omega) (by decide), a2, bd_e, pk_sub (by omega), wr_n (by omega) (by decide), wr_n (by omega) (by decide), ad_4, show 100 + 100 * s + 4 = 104 + 100 * s by omega, wr_n (by omega) (by decide), ad_5, show 100 + 100 * s + 5 = 105 + 100 * s by omega, wr_n (by omega) (by decide), ad_6, show 100 + 100 * s + 6 = 106 + 100 * s by omega, rd_n (by omega) (by decide), rd_n (by omega) (by decide)]
    have key : ∀ g', g' ≤ u - k → RX T K (up2 (up2 (up2 (up2 sc (2 + 8 * s) 5 (nI (n - u + k))) (2 + 8 * s) 9 (nI g')) (2 + 8 * s) 7 0) (2 + 8 * s) 8 0) A fr (upd (upd (upd (upd (upd S (102 + 100 * s) (nI (u - k))) (103 + 100 * s) (nI c)) (104 + 100 * s) 0) (105 + 100 * s) 0) (106 + 100 * s) (nI g')) := by
      intro g' hg'
      refine H1.setE hs (fun _ => Nat.le_refl _) (fun o2 n2 u2 g2 t2 d2 w2 v2 hv2 hE2 => ⟨o, n, u - k, g', 0, d, w, v, hv, ?_⟩) (fun i hi => ?_) (fun p hp => by rw [up2_ne hp, up2_ne hp, up2_ne hp, up2_ne hp]) (fun _ _ => rfl)
      · refine hE.scal (by omega) (fun i hi => ?_) (fun _ _ _ => rfl) ?_ ?_ ?_
        · rw [upd_o (by omega), upd_o (by omega), upd_o (by omega), upd_o (by omega), upd_o (by omega)]
        · simp (disch := omega) only [upd_o, upd_s]
          exact ⟨a0, a1, trivial, by congr 1; omega, rfl, trivial, a7, a11, a13⟩
        · simp (disch := omega) only [upd_o, upd_s]; exact h3
        · simp (disch := omega) only [upd_o, upd_s, up2_o, up2_s]
          exact ⟨c1, c3, c4, by congr 1; omega, c6, trivial, rfl, trivial, c10, c11, c12, c13, c15⟩
      · rw [upd_o (by omega), upd_o (by omega), upd_o (by omega), upd_o (by omega), upd_o (by omega)]
    have hO2 : ∀ x y, Out sc ar fr (up2 (up2 (up2 (up2 sc (2 + 8 * s) 5 x) (2 + 8 * s) 9 y) (2 + 8 * s) 7 0) (2 + 8 * s) 8 0) A fr := fun x y p hp => ⟨by rw [up2_ne (by omega), up2_ne (by omega), up2_ne (by omega), up2_ne (by omega)], (hO p hp).2.1, rfl⟩
    have hW2 : ∀ x y, Wk st (upd (upd (upd (upd (upd S (102 + 100 * s) x) (103 + 100 * s) (nI c)) (104 + 100 * s) 0) (105 + 100 * s) 0) (106 + 100 * s) y) := fun x y => hW1.trans (Wk.of fun i _ _ => by rw [upd_o (by omega), upd_o (by omega), upd_o (by omega), upd_o (by omega), upd_o (by omega)])
    simp (disch := omega) only [upd_o, upd_s, a6]
    rcases Nat.lt_or_ge (u - k) g with hg | hg
    · rw [if_pos (show nI (u - k) < nI g from nI_lt hg (by omega)), if_pos (show nI (u - k) ≤ nI g from nI_le (by omega) (by omega)), rd_n (by omega) (by decide), f_X6_comesWord_183, wr_n (by omega) (by decide)]
      simp (disch := omega) only [upd_o, upd_s]
      obtain ⟨sc', ar', st', e1, e2, e3, e4, e5⟩ := tail_sim (wt := wt) (sm := sm) (ld := ld) (ln := ln) hnb hs (key (u - k) (Nat.le_refl _)) r
      exact ⟨_, _, _, e1, e2, e3, (hO2 _ _).trans e4, (hW2 _ _).trans e5⟩
    · rw [if_neg (show ¬ nI (u - k) < nI g from nI_nlt hg (by omega))]
      obtain ⟨sc', ar', st', e1, e2, e3, e4, e5⟩ := tail_sim (wt := wt) (sm := sm) (ld := ld) (ln := ln) hnb hs (key g hg) r
      refine ⟨_, _, _, e1, ?_, e3, (hO2 _ _).trans e4, (hW2 _ _).trans e5⟩
      rw [← e2]
      by_cases he : u - k ≤ g
      · rw [if_pos (show nI (u - k) ≤ nI g from nI_le he (by omega)), rd_n (by omega) (by decide), f_X6_comesWord_183, wr_n (by omega) (by decide)]
        simp (disch := omega) only [upd_o, upd_s]
        rw [show u - k = g by omega]
      · rw [if_neg (show ¬ nI (u - k) ≤ nI g from nI_ge (by omega) (by omega)), rd_n (by omega) (by decide), f_X6_comesWord_183, wr_n (by omega) (by decide)]
        simp (disch := omega) only [upd_o, upd_s, a6]
  · rw [if_neg (show ¬ nI (((n : Int) - 1 - c) % 64).toNat < (32 : Int32) from nI_nlt (b := 32) (by omega) (by omega)), if_neg (show ¬ nI (((n : Int) - 1 - c) % 64).toNat < (32 : Int32) from nI_nlt (b := 32) (by omega) (by omega))]
    rw [talr_l hnb 14 14 rfl (by decide), bd_e, tal_l hnb 14 14 rfl (by decide), H1.tal (j := 14) (j' := 29) (by omega), rd_l 29 29 rfl (by decide), bd_e, wr_l 29 29 rfl (by decide)]
    exact ⟨_, _, _, rfl, rfl, H1.tally (by omega), hO.trans Out.tally, hW1.trans (Wk.of fun i _ _ => upd_o (by omega))⟩
end TK3
