section LF
variable {nb T s w L : Nat} {K : Nat → Nat} {sc ar sc' ar' : Nat → Nat → Int32} {fr fr' : Nat → Nat → Nat} {st st' : Nat → Int32} {wt : Int32} {sm : Int64} {ld ln : Int32}
theorem outW (hs : s < 2) (hsc : ∀ q, q < 19 + 26 * s ∨ 45 + 26 * s ≤ q → q ≠ 2 + 8 * s → sc' q = sc q) (har : ∀ q, q < 19 + 26 * s ∨ 45 + 26 * s ≤ q → q ≠ 71 → ar' q = ar q) (hfr : ∀ q, q < 19 + 26 * s ∨ 45 + 26 * s ≤ q → fr' q = fr q) : Out sc ar fr sc' ar' fr' := fun p hp => ⟨hsc p (by omega) (by omega), har p (by omega) (by omega), hfr p (by omega)⟩
theorem layW_fin (hnb : 1 ≤ nb) (hs : s < 2) {x2c x2m : Int32} {kd : Nat} (hx2 : (x2c = 3 ∧ kd = 16) ∨ (x2c = 2 ∧ kd = 0)) (hm2 : x2m = nI kd) (h : RX T K sc ar fr st) {sc1 : Nat → Nat → Int32} {st1 : Nat → Int32} (H1 : RX T K sc1 ar fr st1) (hsc1 : ∀ q, q ≠ 2 + 8 * s → sc1 q = sc q) (hsc2 : ∀ j, sc1 (2 + 8 * s) j = if j = 13 then -4 else if j = 12 ∧ x2c = 3 then 0 else sc (2 + 8 * s) j) {j j' : Nat} (hj : (2 ≤ j ∧ j < 9 ∧ j' = j + 3) ∨ (9 ≤ j ∧ j < 17 ∧ j' = j + 15)) :
  ∃ p scA frA sc' ar' st' sm' ld' ln', (∀ arT, f_X4_layOneMore nb (19 + 26 * s) (sc 0 3 + sc 0 5) sc arT fr = some (p, scA, arT, frA)) ∧ f_X0_writeWord nb (2 + 8 * s) p x2c scA (va_up ar 71 (upd (ar 71) j (st1 j' + 1))) frA = some (sc', ar', frA) ∧ (bMv (f_X6_laysWord (nI s) x2m st1 wt sm ld ln) fun st47 wt48 sm49 ld50 ln51 =>
  rd st47 8000 (nI j') fun v52 =>
  bd ((v52 + 1)) fun y53 =>
  wr st47 8000 (nI j') y53 fun st54 =>
  some (st54, wt48, sm49, ld50, ln51)) = some (st', wt, sm', ld', ln') ∧ RX T K sc' ar' frA st' ∧ Out sc ar fr sc' ar' frA := by
  obtain ⟨o, n, u, g, t, d, w0, v, hv, hE⟩ := H1.2.1 s hs
  have a7 : st1 (107 + 100 * s) = nI w0 := hE.2.1.2.2.2.2.2.2.1
  have c10 : sc1 (2 + 8 * s) 10 = nI w0 := by have := hE.2.2.2.1.2.2.2.2.2.2.2.2.1; simpa using this
  have hw64 : w0 < 64 := hE.1.2.2.2.2.2.2.2.2
  have c10' : sc (2 + 8 * s) 10 = nI w0 := by
    have := hsc2 10
    rw [if_neg (by decide), if_neg (fun z => absurd z.1 (by decide))] at this
    rw [← this]; exact c10
  have g0 : sc1 0 = sc 0 := hsc1 0 (by omega)
  have hx : st1 3 + st1 0 = sc 0 3 + sc 0 5 := by
    rw [← g0, H1.1.2.1, H1.1.2.2.1, H1.1.2.2.2.2.1]
  have hW : RW 0 s sc (va_up ar 71 (upd (ar 71) j (st1 j' + 1))) fr st1 := (H1.2.2 s hs).cong hs (fun _ _ _ => rfl) (fun p _ _ => (hsc1 p (by omega)).symm) (fun p _ _ => va_o (by omega)) rfl
  obtain ⟨p, scA, frA, sc2, ar2, st2, sm2, ld2, ln2, e1, e2, e3, e4, e5, e6, e7, e8⟩ := layWord (wt := wt) (sm := sm) (ld := ld) (ln := ln) hnb hs hx2 hm2 hW hx hw64 a7 c10'
  have hj' : j' < 32 := by omega
  refine ⟨p, scA, frA, sc2, ar2, upd st2 j' (st1 j' + 1), sm2, ld2, ln2, e1, e2, ?_, ?_, ?_⟩
  · rw [e3, bMv_s, rd_n (by omega) (by decide), e8 j' (by omega), bd_e, wr_n (by omega) (by decide)]
  · refine (H1.tally (x := st1 j' + 1) hj).setW hs (e4.cong hs (fun i _ _ => upd_o (by omega)) (fun _ _ _ => rfl) (fun _ _ _ => rfl) rfl) (fun i hi => ?_) (fun q hq => ?_) (fun q hq => (e7 q hq).1) (fun q hq => (e7 q hq).2)
    · by_cases q : i = j'
      · rw [q, upd_s, upd_s]
      · rw [upd_o q, upd_o q]; exact e8 i hi
    · by_cases q2 : q = 2 + 8 * s
      · subst q2
        funext z
        rw [e6 z, hsc2 z]
      · rw [e5 q hq q2, hsc1 q q2]
  · exact outW hs e5 (fun q hq hq7 => by rw [(e7 q hq).1, va_o hq7]) (fun q hq => (e7 q hq).2)
theorem lay_sim (hnb : 1 ≤ nb) (hs : s < 2) (h : RX T K sc ar fr st) : ∃ sc' ar' fr' st' sm' ld' ln', f_X2_layOneFrame nb 0 (2 + 8 * s) (19 + 26 * s) sc ar fr = some (sc', ar', fr') ∧ f_X6_laying (nI s) st wt sm ld ln = some (st', wt, sm', ld', ln') ∧ RX T K sc' ar' fr' st' ∧ Out sc ar fr sc' ar' fr' := by
  obtain ⟨o, n, u, g, t, d, w, v, hv, hE⟩ := h.2.1 s hs
  obtain ⟨h1, h2, h3, h4, h5, h6, h7⟩ := id hE
  obtain ⟨a0, a1, a2, a3, a5, a6, a7, a11, a13⟩ := h2
  obtain ⟨b8, b10, b12⟩ := h3
  obtain ⟨c1, c3, c4, c5, c6, c7, c8, c9, c10, c11, c12, c13, c15⟩ := h4
  simp only [Nat.zero_add] at c1 c3 c4 c5 c6 c7 c8 c9 c10 c11 c12 c13 c15 h6
  have hx : st 3 + st 0 = sc 0 3 + sc 0 5 := by rw [h.1.2.1, h.1.2.2.1, h.1.2.2.2.2.1]
  rw [f_X2_layOneFrame, gd_t (p_end hnb hs), c12, c13, c9, f_X6_laying, endAt_s, bx_s, ad_10, show 100 + 100 * s + 10 = 110 + 100 * s by omega, rd_n (by omega) (by decide)]
  have q10 : st (110 + 100 * s) = 1 ∨ st (110 + 100 * s) = 0 := by
    simp only [bln, Bool.or_eq_true, decide_eq_true_eq] at b10; exact b10.symm
  rcases q10 with q10 | q10
  · -- a nak is owed
    rw [if_neg (show ¬ st (110 + 100 * s) = 0 by rw [q10]; decide), if_pos q10, gd_t (p_lk hnb), talr_l hnb 8 8 rfl (by decide), bd_e, tal_l hnb 8 8 rfl (by decide), gd_t (p_wire hnb hs), wr_n (by omega) (by decide), ad_9, show 100 + 100 * s + 9 = 109 + 100 * s by omega, wr_n (by omega) (by decide)]
    have H1 : RX T K (up2 (up2 sc (2 + 8 * s) 12 0) (2 + 8 * s) 13 (-4)) ar fr (upd (upd st (110 + 100 * s) 0) (109 + 100 * s) (-4)) := by
      refine h.setE hs (fun _ => Nat.le_refl _) (fun _ _ _ _ _ _ _ _ _ _ => ⟨o, n, u, g, t, d, w, v, hv, ?_⟩) (fun i hi => by rw [upd_o (by omega), upd_o (by omega)]) (fun p hp => by rw [up2_ne hp, up2_ne hp]) (fun _ _ => rfl)
      refine hE.scal (by omega) (fun i hi => by rw [upd_o (by omega), upd_o (by omega)]) (fun _ _ _ => rfl) ?_ ?_ ?_
      · simp (disch := omega) only [upd_o, upd_s]; exact ⟨a0, a1, a2, a3, a5, a6, a7, a11, a13⟩
      · simp (disch := omega) only [upd_o, upd_s]; exact ⟨b8, rfl, b12⟩
      · simp (disch := omega) only [upd_o, upd_s, up2_o, up2_s]; exact ⟨c1, c3, c4, c5, c6, c7, c8, c9, c10, c11, trivial, trivial, c15⟩
    obtain ⟨p, scA, frA, sc', ar', st', sm', ld', ln', e1, e2, e3, e4, e5⟩ := layW_fin (wt := wt) (sm := sm) (ld := ld) (ln := ln) (x2c := 3) (x2m := 16) (kd := 16) (j := 8) (j' := 11) hnb hs (Or.inl ⟨rfl, rfl⟩) rfl h H1 (fun q hq => by rw [up2_ne hq, up2_ne hq]) (fun j => by
      by_cases j13 : j = 13
      · rw [j13, up2_s, if_pos rfl]
      · rw [if_neg j13, up2_o j13]
        by_cases j12 : j = 12
        · rw [j12, up2_s, if_pos ⟨rfl, rfl⟩]
        · rw [if_neg (fun z => j12 z.1), up2_o j12]) (by omega)
    rw [upd_o (by omega), upd_o (by omega), ← h.tal (j := 8) (j' := 11) (by omega)] at e2
    rw [e1, bC_s, e2, bCv_s]
    exact ⟨_, _, _, _, _, _, _, rfl, e3, e4, e5⟩
  rw [if_pos q10, if_neg (show ¬ st (110 + 100 * s) = 1 by rw [q10]; decide), ad_9, show 100 + 100 * s + 9 = 109 + 100 * s by omega, rd_n (by omega) (by decide)]
  by_cases q9 : st (109 + 100 * s) = 0
  · -- an ack is due
    rw [if_pos q9, if_pos q9, gd_t (p_lk hnb), talr_l hnb 7 7 rfl (by decide), bd_e, tal_l hnb 7 7 rfl (by decide), gd_t (p_wire hnb hs), wr_n (by omega) (by decide)]
    have H1 := h.set13 hs (-4)
    obtain ⟨p, scA, frA, sc', ar', st', sm', ld', ln', e1, e2, e3, e4, e5⟩ := layW_fin (wt := wt) (sm := sm) (ld := ld) (ln := ln) (x2c := 2) (x2m := 0) (kd := 0) (j := 7) (j' := 10) hnb hs (Or.inr ⟨rfl, rfl⟩) rfl h H1 (fun q hq => by rw [up2_ne hq]) (fun j => by
      by_cases j13 : j = 13
      · rw [j13, up2_s, if_pos rfl]
      · rw [if_neg j13, up2_o j13, if_neg (fun z => absurd z.2 (by decide))]) (by omega)
    rw [upd_o (by omega), ← h.tal (j := 7) (j' := 10) (by omega)] at e2
    rw [e1, bC_s, e2, bCv_s]
    exact ⟨_, _, _, _, _, _, _, rfl, e3, e4, e5⟩
  rw [if_neg q9, if_neg q9, ad_6, show 100 + 100 * s + 6 = 106 + 100 * s by omega, rd_n (by omega) (by decide), a6]
  have hW0 := h.2.2 s hs
  by_cases hg : g = 0
  · rw [if_pos (show nI g ≤ (0 : Int32) by rw [hg]; decide), if_pos (show nI g ≤ (0 : Int32) by rw [hg]; decide), unacked_c (p_end hnb hs) c4 c5 (by omega), bC_s, show n - (n - u) = u by omega, ad_2, show 100 + 100 * s + 2 = 102 + 100 * s by omega, rd_n (by omega) (by decide), a2]
    by_cases hu : 8 ≤ u
    · rw [if_pos (show (8 : Int32) ≤ nI u from nI_le (a := 8) hu (by omega)), if_pos (show (8 : Int32) ≤ nI u from nI_le (a := 8) hu (by omega))]
      exact ⟨_, _, _, _, _, _, _, rfl, rfl, h, Out.refl⟩
    rw [if_neg (show ¬ (8 : Int32) ≤ nI u from nI_ge (b := 8) (by omega) (by decide)), if_neg (show ¬ (8 : Int32) ≤ nI u from nI_ge (b := 8) (by omega) (by decide)), waiting_c (p_end hnb hs) c3 c4 (by omega), bC_s, waiting_m hs a0 a1 (by omega), bM_s]
    by_cases hon : o - n = 0
    · rw [hon, if_pos (show nI 0 ≤ (0 : Int32) by decide), if_pos (show nI 0 ≤ (0 : Int32) by decide)]
      exact ⟨_, _, _, _, _, _, _, rfl, rfl, h, Out.refl⟩
    rw [if_neg (show ¬ nI (o - n) ≤ (0 : Int32) from nI_ge (a := 0) (by omega) (by omega)), if_neg (show ¬ nI (o - n) ≤ (0 : Int32) from nI_ge (a := 0) (by omega) (by omega)), gd_t (p_lk hnb), gd_t (p_wire hnb hs), ad_12, show 100 + 100 * s + 12 = 112 + 100 * s by omega, rd_n (by omega) (by decide)]
    have q12 : st (112 + 100 * s) = 1 ∨ st (112 + 100 * s) = 0 := by
      simp only [bln, Bool.or_eq_true, decide_eq_true_eq] at b12; exact b12.symm
    rcases q12 with q12 | q12
    · -- voided
      rw [if_pos q12, f_X6_laying_205, ad_1, show 100 + 100 * s + 1 = 101 + 100 * s by omega, rd_n (by omega) (by decide), a1]
      obtain ⟨p, sc1, fr1, sc2, ar2, st2, sm2, ld2, ln2, e1, e2, e3, e4, e5, e6, e7⟩ := layPk (wt := wt) (sm := sm) (ld := ld) (ln := ln) (x2 := 1) (ar := va_up ar 71 (upd (ar 71) 6 (st 9 + 1))) (i := n) hnb hs (Or.inl rfl) hW0 (fun q hq => va_o hq) hx (by omega) (h6 n (by omega) (by omega))
      have ss : sc1 (2 + 8 * s) = sc (2 + 8 * s) := (e5 _ (by omega)).2
      rw [e1, bC_s, f_X2_layNewPacket, gd_t (p_end hnb hs), ss, c6, if_neg (by rw [q12]; decide), gd_t (p_lk hnb), talr_l hnb 6 6 rfl (by decide), bd_e, tal_l hnb 6 6 rfl (by decide), h.tal (j := 6) (j' := 9) (by omega), c4, e2, bCv_s, bd_e, bCv_s]
      rw [e3, bMv_s, ad_12, show 100 + 100 * s + 12 = 112 + 100 * s by omega, wr_n (by omega) (by decide), if_neg ne10, f_X6_laying_245, show (7 : Int32) + 2 = nI 9 from rfl, bd_e, rd_n (by decide) (by decide), bd_e, wr_n (by decide) (by decide), if_neg ne10, upd_o (by omega), e7 9 (by omega)]
      have H1 : RX T K (up2 sc (2 + 8 * s) 6 0) ar fr (upd st (112 + 100 * s) 0) := by
        refine h.setE hs (fun _ => Nat.le_refl _) (fun _ _ _ _ _ _ _ _ _ _ => ⟨o, n, u, g, t, d, w, v, hv, ?_⟩) (fun i hi => by rw [upd_o (by omega)]) (fun p hp => by rw [up2_ne hp]) (fun _ _ => rfl)
        refine hE.scal (by omega) (fun i hi => by rw [upd_o (by omega)]) (fun _ _ _ => rfl) ?_ ?_ ?_
        · simp (disch := omega) only [upd_o, upd_s]; exact ⟨a0, a1, a2, a3, a5, a6, a7, a11, a13⟩
        · simp (disch := omega) only [upd_o, upd_s]; exact ⟨b8, b10, rfl⟩
        · simp (disch := omega) only [upd_o, upd_s, up2_o, up2_s]; exact ⟨c1, c3, c4, c5, trivial, c7, c8, c9, c10, c11, c12, c13, c15⟩
      refine ⟨_, _, _, _, _, _, _, rfl, rfl, ?_, ?_⟩
      · refine (H1.tally (j := 6) (j' := 9) (x := st 9 + 1) (by omega)).setW hs (e4.cong hs (fun i _ _ => by rw [upd_o (by omega), upd_o (by omega)]) (fun q _ _ => by rw [up2_ne (by omega)]) (fun _ _ _ => rfl) rfl) (fun i hi => ?_) (fun q hq => ?_) (fun q hq => (e6 q hq).1) (fun q hq => (e6 q hq).2)
        · by_cases i9 : i = 9
          · rw [i9, upd_s, upd_s]
          · rw [upd_o i9, upd_o i9]
            by_cases i112 : i = 112 + 100 * s
            · rw [i112, upd_s, upd_s]
            · rw [upd_o i112, upd_o i112, e7 i hi]
        · by_cases q2 : q = 2 + 8 * s
          · subst q2
            funext z
            by_cases z6 : z = 6
            · rw [z6, up2_s, up2_s]
            · rw [up2_o z6, up2_o z6, (e5 _ hq).1]
          · rw [up2_ne q2, up2_ne q2, (e5 q hq).1]
      · exact outW hs (fun q hq hq2 => by rw [up2_ne hq2, (e5 q hq).1]) (fun q hq hq7 => by rw [(e6 q hq).1, va_o hq7]) (fun q hq => (e6 q hq).2)
    · -- a new packet
      rw [if_neg (show ¬ st (112 + 100 * s) = 1 by rw [q12]; decide), f_X6_laying_205, ad_1, show 100 + 100 * s + 1 = 101 + 100 * s by omega, rd_n (by omega) (by decide), a1]
      obtain ⟨p, sc1, fr1, sc2, ar2, st2, sm2, ld2, ln2, e1, e2, e3, e4, e5, e6, e7⟩ := layPk (wt := wt) (sm := sm) (ld := ld) (ln := ln) (x2 := 0) (ar := va_up ar 71 (upd (ar 71) 4 (st 7 + 1))) (i := n) hnb hs (Or.inr rfl) hW0 (fun q hq => va_o hq) hx (by omega) (h6 n (by omega) (by omega))
      have ss : sc1 (2 + 8 * s) = sc (2 + 8 * s) := (e5 _ (by omega)).2
      have ss2 : sc2 (2 + 8 * s) = sc (2 + 8 * s) := (e5 _ (by omega)).1
      rw [e1, bC_s, f_X2_layNewPacket, gd_t (p_end hnb hs), ss, c6, if_pos q12, gd_t (p_lk hnb), talr_l hnb 4 4 rfl (by decide), bd_e, tal_l hnb 4 4 rfl (by decide), h.tal (j := 4) (j' := 7) (by omega), c4, e2, bCv_s, ss2, c4, ad_1, bd_e, bd_e, bCv_s]
      rw [e3, bMv_s, ad_12, show 100 + 100 * s + 12 = 112 + 100 * s by omega, wr_n (by omega) (by decide), if_pos rfl, f_X6_laying_245, show (7 : Int32) + 0 = nI 7 from rfl, bd_e, rd_n (by decide) (by decide), bd_e, wr_n (by decide) (by decide), if_pos rfl, upd_o (by omega), e7 7 (by omega)]
      rw [ad_1, show 100 + 100 * s + 1 = 101 + 100 * s by omega, bd_e, rd_n (by omega) (by decide), bd_e, wr_n (by omega) (by decide), ad_2, show 100 + 100 * s + 2 = 102 + 100 * s by omega, bd_e, rd_n (by omega) (by decide), bd_e, wr_n (by omega) (by decide)]
      have t1 : st2 (101 + 100 * s) = nI n := by rw [e7 _ (by omega)]; exact a1
      have t2 : st2 (102 + 100 * s) = nI u := by rw [e7 _ (by omega)]; exact a2
      simp (disch := omega) only [upd_o, t1, t2, ad_1]
      have H1 : RX T K (up2 sc (2 + 8 * s) 4 (nI (n + 1))) ar fr (upd (upd (upd st (112 + 100 * s) 0) (101 + 100 * s) (nI (n + 1))) (102 + 100 * s) (nI (u + 1))) := by
        refine h.setE hs (fun _ => Nat.le_refl _) (fun _ _ _ _ _ _ _ _ _ _ => ⟨o, n + 1, u + 1, g, t, d, w, v, hv, ?_⟩) (fun i hi => by rw [upd_o (by omega), upd_o (by omega), upd_o (by omega)]) (fun p hp => by rw [up2_ne hp]) (fun _ _ => rfl)
        refine hE.scal (by omega) (fun i hi => by rw [upd_o (by omega), upd_o (by omega), upd_o (by omega)]) (fun _ _ _ => rfl) ?_ ?_ ?_
        · simp (disch := omega) only [upd_o, upd_s]; exact ⟨a0, trivial, trivial, by rw [a3]; congr 2; omega, a5, a6, a7, a11, a13⟩
        · simp (disch := omega) only [upd_o, upd_s]; exact ⟨b8, b10, rfl⟩
        · simp (disch := omega) only [upd_o, upd_s, up2_o, up2_s]; exact ⟨c1, c3, trivial, by rw [c5]; congr 1; omega, by rw [c6]; exact q12, c7, c8, c9, c10, c11, c12, c13, c15⟩
      refine ⟨_, _, _, _, _, _, _, rfl, rfl, ?_, ?_⟩
      · refine (H1.tally (j := 4) (j' := 7) (x := st 7 + 1) (by omega)).setW hs (e4.cong hs (fun i _ _ => by rw [upd_o (by omega), upd_o (by omega), upd_o (by omega), upd_o (by omega)]) (fun q _ _ => by rw [up2_ne (by omega)]) (fun _ _ _ => rfl) rfl) (fun i hi => ?_) (fun q hq => ?_) (fun q hq => (e6 q hq).1) (fun q hq => (e6 q hq).2)
        · by_cases i7 : i = 7
          · rw [i7]; simp (disch := omega) only [upd_o, upd_s]
          · rw [upd_o (f := upd (upd (upd st (112 + 100 * s) 0) (101 + 100 * s) (nI (n + 1))) (102 + 100 * s) (nI (u + 1))) i7]
            by_cases i102 : i = 102 + 100 * s
            · rw [i102, upd_s, upd_s]
            · rw [upd_o i102, upd_o i102]
              by_cases i101 : i = 101 + 100 * s
              · rw [i101, upd_s, upd_s]
              · rw [upd_o i101, upd_o i101, upd_o i7]
                by_cases i112 : i = 112 + 100 * s
                · rw [i112, upd_s, upd_s]
                · rw [upd_o i112, upd_o i112, e7 i hi]
        · by_cases q2 : q = 2 + 8 * s
          · subst q2
            funext z
            by_cases z6 : z = 4
            · rw [z6, up2_s, up2_s]
            · rw [up2_o z6, up2_o z6, (e5 _ hq).1]
          · rw [up2_ne q2, up2_ne q2, (e5 q hq).1]
      · exact outW hs (fun q hq hq2 => by rw [up2_ne hq2, (e5 q hq).1]) (fun q hq hq7 => by rw [(e6 q hq).1, va_o hq7]) (fun q hq => (e6 q hq).2)
  · -- a packet again
    rw [if_neg (show ¬ nI g ≤ (0 : Int32) from nI_ge (a := 0) (by omega) (by omega)), if_neg (show ¬ nI g ≤ (0 : Int32) from nI_ge (a := 0) (by omega) (by omega)), gd_t (p_lk hnb), talr_l hnb 5 5 rfl (by decide), bd_e, tal_l hnb 5 5 rfl (by decide), gd_t (p_wire hnb hs), h.tal (j := 5) (j' := 8) (by omega)]
    rw [ad_1, show 100 + 100 * s + 1 = 101 + 100 * s by omega, rd_n (by omega) (by decide), a1, rd_n (by omega) (by decide), a6, pk_sub (show g ≤ n by omega)]
    obtain ⟨p, sc1, fr1, sc2, ar2, st2, sm2, ld2, ln2, e1, e2, e3, e4, e5, e6, e7⟩ := layPk (wt := wt) (sm := sm) (ld := ld) (ln := ln) (x2 := 0) (ar := va_up ar 71 (upd (ar 71) 5 (st 8 + 1))) (i := n - g) hnb hs (Or.inr rfl) hW0 (fun q hq => va_o hq) hx (by omega) (h6 (n - g) (by omega) (by omega))
    have ss : sc1 (2 + 8 * s) = sc (2 + 8 * s) := (e5 _ (by omega)).2
    have ss2 : sc2 (2 + 8 * s) = sc (2 + 8 * s) := (e5 _ (by omega)).1
    rw [e1, bC_s, ss, c4, c9, pk_sub (show g ≤ n by omega), e2, bCv_s, ss2, c9, bd_e, show nI g - 1 = nI (g - 1) from pk_sub (b := 1) (by omega), bd_e]
    rw [e3, bMv_s, bd_e, rd_n (by omega) (by decide), e7 _ (by omega), a6, bd_e, show nI g - 1 = nI (g - 1) from pk_sub (b := 1) (by omega), wr_n (by omega) (by decide), rd_l 8 8 rfl (by decide), bd_e, wr_l 8 8 rfl (by decide), upd_o (by omega), e7 8 (by omega)]
    have H1 : RX T K (up2 sc (2 + 8 * s) 9 (nI (g - 1))) ar fr (upd st (106 + 100 * s) (nI (g - 1))) := by
      refine h.setE hs (fun _ => Nat.le_refl _) (fun _ _ _ _ _ _ _ _ _ _ => ⟨o, n, u, g - 1, t, d, w, v, hv, ?_⟩) (fun i hi => by rw [upd_o (by omega)]) (fun p hp => by rw [up2_ne hp]) (fun _ _ => rfl)
      refine hE.scal (by omega) (fun i hi => by rw [upd_o (by omega)]) (fun _ _ _ => rfl) ?_ ?_ ?_
      · simp (disch := omega) only [upd_o, upd_s]; exact ⟨a0, a1, a2, a3, a5, trivial, a7, a11, a13⟩
      · simp (disch := omega) only [upd_o, upd_s]; exact ⟨b8, b10, b12⟩
      · simp (disch := omega) only [upd_o, upd_s, up2_o, up2_s]; exact ⟨c1, c3, c4, c5, c6, c7, c8, trivial, c10, c11, c12, c13, c15⟩
    refine ⟨_, _, _, _, _, _, _, rfl, rfl, ?_, ?_⟩
    · refine (H1.tally (j := 5) (j' := 8) (x := st 8 + 1) (by omega)).setW hs (e4.cong hs (fun i _ _ => by rw [upd_o (by omega), upd_o (by omega)]) (fun q _ _ => by rw [up2_ne (by omega)]) (fun _ _ _ => rfl) rfl) (fun i hi => ?_) (fun q hq => ?_) (fun q hq => (e6 q hq).1) (fun q hq => (e6 q hq).2)
      · by_cases i9 : i = 8
        · rw [i9, upd_s, upd_s]
        · rw [upd_o i9, upd_o i9]
          by_cases i112 : i = 106 + 100 * s
          · rw [i112, upd_s, upd_s]
          · rw [upd_o i112, upd_o i112, e7 i hi]
      · by_cases q2 : q = 2 + 8 * s
        · subst q2
          funext z
          by_cases z6 : z = 9
          · rw [z6, up2_s, up2_s]
          · rw [up2_o z6, up2_o z6, (e5 _ hq).1]
        · rw [up2_ne q2, up2_ne q2, (e5 q hq).1]
    · exact outW hs (fun q hq hq2 => by rw [up2_ne hq2, (e5 q hq).1]) (fun q hq hq7 => by rw [(e6 q hq).1, va_o hq7]) (fun q hq => (e6 q hq).2)
end LF
