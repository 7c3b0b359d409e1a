theorem readS_c {n : Nat} {b : Nat → Nat} : (readS n b = 0 ∧ 9 ≤ n) ∨ readS n b = 1 ∨ (readS n b = 2 ∧ b 2 < 64) ∨ (readS n b = 3 ∧ b 2 < 64) ∨ readS n b = 4 ∨ readS n b = 5 := by
  unfold readS
  by_cases q : b 0 = 92
  · rw [if_pos q]; unfold readW
    by_cases q1 : n = 6 ∧ (b 1 = 0 ∨ b 1 = 16) ∧ b 2 < 64 ∧ told2 b 3 = crcS b 1 2 ∧ b 5 = 253
    · rw [if_pos q1]
      by_cases q2 : b 1 = 0
      · rw [if_pos q2]; exact Or.inr (Or.inr (Or.inl ⟨rfl, q1.2.2.1⟩))
      · rw [if_neg q2]; exact Or.inr (Or.inr (Or.inr (Or.inl ⟨rfl, q1.2.2.1⟩)))
    · rw [if_neg q1]; exact Or.inr (Or.inr (Or.inr (Or.inr (Or.inr rfl))))
  · rw [if_neg q]; unfold readP
    by_cases q1 : n < 9 ∨ b 0 ≠ 251 ∨ b 1 ≠ 0 ∨ 63 < b 2
    · rw [if_pos q1]; exact Or.inr (Or.inr (Or.inr (Or.inr (Or.inl rfl))))
    · rw [if_neg q1]
      by_cases q2 : b (n - 1) = 253 ∧ told4 b (n - 5) = crcL b 1 (n - 6)
      · rw [if_pos q2]; exact Or.inl ⟨rfl, by omega⟩
      · rw [if_neg q2]
        by_cases q3 : b (n - 1) = 254 ∧ told4 b (n - 5) = crcL b 1 (n - 6) ^^^ 4294967295
        · rw [if_pos q3]; exact Or.inr (Or.inl rfl)
        · rw [if_neg q3]; exact Or.inr (Or.inr (Or.inr (Or.inr (Or.inl rfl))))
section TK5
variable {nb T s : Nat} {K K' : Nat → Nat} {sc ar sc' ar' : Nat → Nat → Int32} {fr fr' : Nat → Nat → Nat} {st st' : Nat → Int32} {wt : Int32} {sm : Int64} {ld ln : Int32}
theorem RX.mono (h : RX T K sc ar fr st) (hK : ∀ s', K s' ≤ K' s') : RX T K' sc ar fr st := by
  obtain ⟨hg, he, hw⟩ := h
  refine ⟨hg, fun s hs => ?_, hw⟩
  obtain ⟨o, n, u, g, t, d, w, v, hv, h⟩ := he s hs
  exact ⟨o, n, u, g, t, d, w, v, Nat.le_trans hv (hK s), h⟩
theorem RX.congS (h : RX T K sc ar fr st) (hst : ∀ i, i < 7900 → st' i = st i) : RX T K sc ar fr st' := by
  obtain ⟨hg, he, hw⟩ := h
  refine ⟨hg.cong (fun i hi => hst i (by omega)) rfl rfl, fun s hs => ?_, fun w hw' => (hw w hw').cong hw' (fun i a b => hst i (by omega)) (fun _ _ _ => rfl) (fun _ _ _ => rfl) rfl⟩
  obtain ⟨o, n, u, g, t, d, w, v, hv, h⟩ := he s hs
  exact ⟨o, n, u, g, t, d, w, v, hv, h.cong hs (fun i hi => hst i (by omega)) rfl (fun _ _ _ => rfl)⟩
theorem RX.setW {w : Nat} (h : RX T K sc ar fr st) (hw : w < 2) (hW : RW 0 w sc' ar' fr' st') (hst : ∀ i, i < 300 + 500 * w ∨ 800 + 500 * w ≤ i → st' i = st i) (hsc : ∀ p, p < 19 + 26 * w ∨ 45 + 26 * w ≤ p → sc' p = sc p) (har : ∀ p, p < 19 + 26 * w ∨ 45 + 26 * w ≤ p → ar' p = ar p) (hfr : ∀ p, p < 19 + 26 * w ∨ 45 + 26 * w ≤ p → fr' p = fr p) : RX T K sc' ar' fr' st' := by
  obtain ⟨hg, he, hww⟩ := h
  refine ⟨hg.cong (fun i hi => hst i (by omega)) (hsc _ (by omega)) (har _ (by omega)), fun s hs => ?_, fun w' hw' => ?_⟩
  · obtain ⟨o, n, u, g, t, d, ww, v, hv, h⟩ := he s hs
    exact ⟨o, n, u, g, t, d, ww, v, hv, h.cong hs (fun i hi => hst i (by omega)) (hsc _ (by omega)) (fun p a b => har p (by omega))⟩
  · by_cases e : w' = w
    · subst e; exact hW
    · exact (hww w' hw').cong hw' (fun i a b => hst i (by omega)) (fun p a b => hsc p (by omega)) (fun p a b => har p (by omega)) (hfr _ (by omega))
theorem data_sim (hnb : 1 ≤ nb) (hs : s < 2) (h : RX T K sc ar fr st) (hK : ∀ s', K s' ≤ K' s') (hK1 : K s + 1 ≤ K' s) (hKb : K s < 2 ^ 30) {w' m n' : Nat} {b : Nat → Nat} (hw : w' < 2) (hm : m < 12) (hn : 9 ≤ n' ∧ n' ≤ 32) (f1 : sc (21 + 26 * w' + 2 * m) 1 = nI n') (f2 : st 7900 = nI n') (fk : ∀ k, k < n' → b k < 256 ∧ ar (22 + 26 * w' + 2 * m) k = nI (b k) ∧ st (7902 + k) = nI (b k)) :
  ∃ sc' ar' st', f_X2_takeInData nb 0 (21 + 26 * w' + 2 * m) (2 + 8 * s) sc ar fr = some (sc', ar', fr) ∧ f_X6_comesData (nI s) (nI 7900) st wt sm ld ln = some (st', wt, sm, ld, ln) ∧ RX T K' sc' ar' fr st' ∧ Out sc ar fr sc' ar' fr ∧ Wk st st' := by
  obtain ⟨o, n, u, g, t, d, w, v, hv, hE⟩ := h.2.1 s hs
  have a7 : st (107 + 100 * s) = nI w := hE.2.1.2.2.2.2.2.2.1
  have c10 : sc (2 + 8 * s) 10 = nI w := by have := hE.2.2.2.1.2.2.2.2.2.2.2.2.1; simpa using this
  have hw64 : w < 64 := hE.1.2.2.2.2.2.2.2.2
  obtain ⟨b1, b2, b3⟩ := fk 2 (by omega)
  rw [f_X2_takeInData, gd_t (p_frm hnb hw hm), f_X1_number, gd_t (p_frm hnb hw hm), show 21 + 26 * w' + 2 * m + 1 = 22 + 26 * w' + 2 * m by omega, show rdA nb ar (22 + 26 * w' + 2 * m) 2 = (rdA nb ar (22 + 26 * w' + 2 * m) (nI 2) : (Int32 → Option (Int32 × (Nat → Nat → Int32) × (Nat → Nat → Int32) × (Nat → Nat → Nat))) → _) from rfl, rdA_n (p_frb hnb hw hm) (by rw [l_frb hw hm]; decide), b2, bC_s, gd_t (p_end hnb hs), c10, (by64_d (by omega) (by omega)).1, bx_s]
  rw [f_X6_comesData, endAt_s, bx_s, ad_2, ad_2, rd_n (by decide) (by decide), show 7900 + 2 + 2 = 7902 + 2 by decide, b3, ad_7, rd_n (by omega) (by decide), show 100 + 100 * s + 7 = 107 + 100 * s by omega, a7, (by64_d (by omega) (by omega)).2, bx_s]
  generalize hk : (((b 2 : Nat) : Int) - w) % 64 = k at *
  have hk0 : 0 ≤ k ∧ k < 64 := by omega
  obtain ⟨k, rfl⟩ := Int.eq_ofNat_of_zero_le hk0.1
  rw [Int.toNat_natCast]
  have hk1 : k < 64 := by omega
  clear hk hk0
  by_cases k0 : k = 0
  · subst k0
    rw [if_pos (show nI 0 = (0 : Int32) from rfl), if_pos (show nI 0 < (1 : Int32) by decide), gd_t (p_lk hnb), talr_l hnb 9 9 rfl (by decide), bd_e, tal_l hnb 9 9 rfl (by decide), h.tal (j := 9) (j' := 24) (by omega)]
    rw [f_X6_comesData_60, if_pos (show nI 0 = (0 : Int32) from rfl), rd_l 24 24 rfl (by decide)]
    have H1 := h.tally (j := 9) (j' := 24) (x := st 24 + 1) (by omega)
    obtain ⟨sc1, ar1, st1, w0, hw0, e1, e2, e3, e4, e5, e6⟩ := hand_sim (wt := wt) (sm := sm) (ld := ld) (ln := ln) (b := b) hnb hs H1 hK hK1 hKb hw hm hn f1 (by rw [upd_o (by decide)]; exact f2) (fun k hk => by
      obtain ⟨q1, q2, q3⟩ := fk k hk
      exact ⟨q1, by rw [va_o (by omega)]; exact q2, by rw [upd_o (by omega)]; exact q3⟩)
    obtain ⟨sc2, st2, g1, g2, g3, g4, g5⟩ := ack_sim (wt := wt) (sm := sm) (ld := ld) (ln := ln) hnb hs e4
    rw [e1, bCv_s, g1, bCv_s, bd_e, wr_l 24 24 rfl (by decide), e2, bMv_s, ad_7, show 100 + 100 * s + 7 = 107 + 100 * s by omega, rd_n (by omega) (by decide), e3, ad_1, (by64_n (by omega)).2, bx_s, wr_n (by omega) (by decide), ad_8, show 100 + 100 * s + 8 = 108 + 100 * s by omega, wr_n (by omega) (by decide), g2]
    exact ⟨_, _, _, rfl, rfl, g3, Out.tally.trans (e5.trans g4), (Wk.of (st' := upd st 24 (st 24 + 1)) fun i _ _ => upd_o (by omega)).trans (e6.trans ((Wk.of fun i _ _ => by rw [upd_o (by omega), upd_o (by omega)]).trans g5))⟩
  have kne : ¬ nI k = (0 : Int32) := fun e => k0 ((nI_eq (b := 0) (by omega) (by decide)).mp e)
  rw [if_neg kne, if_neg (show ¬ nI k < (1 : Int32) from nI_nlt (b := 1) (by omega) (by omega))]
  by_cases k32 : k < 32
  · rw [if_pos (show nI k < (32 : Int32) from nI_lt (b := 32) k32 (by decide)), if_neg (show ¬ (32 : Int32) ≤ nI k from nI_ge (b := 32) k32 (by decide)), gd_t (p_lk hnb), talr_l hnb 11 11 rfl (by decide), bd_e, tal_l hnb 11 11 rfl (by decide), h.tal (j := 11) (j' := 26) (by omega)]
    have H1 := h.tally (j := 11) (j' := 26) (x := st 26 + 1) (by omega)
    obtain ⟨sc1, st1, e1, e2, e3, e4, e5⟩ := nak_sim (wt := wt) (sm := sm) (ld := ld) (ln := ln) hnb hs H1
    rw [e1, bCv_s, rd_l 26 26 rfl (by decide), bd_e, wr_l 26 26 rfl (by decide), e2, bMv_s]
    exact ⟨_, _, _, rfl, rfl, e3.mono hK, Out.tally.trans e4, (Wk.of (st' := upd st 26 (st 26 + 1)) fun i _ _ => upd_o (by omega)).trans e5⟩
  · rw [if_neg (show ¬ nI k < (32 : Int32) from nI_nlt (b := 32) (by omega) (by omega)), if_pos (show (32 : Int32) ≤ nI k from nI_le (a := 32) (by omega) (by omega)), gd_t (p_lk hnb), talr_l hnb 10 10 rfl (by decide), bd_e, tal_l hnb 10 10 rfl (by decide), h.tal (j := 10) (j' := 25) (by omega)]
    have H1 := h.tally (j := 10) (j' := 25) (x := st 25 + 1) (by omega)
    obtain ⟨sc1, st1, e1, e2, e3, e4, e5⟩ := ack_sim (wt := wt) (sm := sm) (ld := ld) (ln := ln) hnb hs H1
    rw [e1, bCv_s, f_X6_comesData_60, if_neg kne, rd_l 25 25 rfl (by decide), bd_e, wr_l 25 25 rfl (by decide), e2]
    exact ⟨_, _, _, rfl, rfl, e3.mono hK, Out.tally.trans e4, (Wk.of (st' := upd st 25 (st 25 + 1)) fun i _ _ => upd_o (by omega)).trans e5⟩
end TK5
