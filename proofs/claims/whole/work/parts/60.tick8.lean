section TK8
variable {nb T s w L : Nat} {K K' : Nat → Nat} {sc ar sc' ar' : Nat → Nat → Int32} {fr fr' : Nat → Nat → Nat} {st st' : Nat → Int32} {wt : Int32} {sm : Int64} {ld ln : Int32}
theorem RX.set13 (h : RX T K sc ar fr st) (hs : s < 2) (x : Int32) : RX T K (up2 sc (2 + 8 * s) 13 x) ar fr (upd st (109 + 100 * s) x) := by
  refine h.setE hs (fun _ => Nat.le_refl _) (fun o n u g t d w v hv h => ⟨o, n, u, g, t, d, w, v, hv, ?_⟩) (fun i hi => by rw [upd_o (by omega)]) (fun p hp => by rw [up2_ne hp]) (fun _ _ => rfl)
  obtain ⟨h1, h2, h3, h4, h5, h6, h7⟩ := id h
  obtain ⟨c1, c3, c4, c5, c6, c7, c8, c9, c10, c11, c12, c13, c15⟩ := h4
  simp only [Nat.zero_add] at c1 c3 c4 c5 c6 c7 c8 c9 c10 c11 c12 c13 c15
  refine h.scal (by omega) (fun i hi => by rw [upd_o (by omega)]) (fun _ _ _ => rfl) ?_ ?_ ?_
  · simp (disch := omega) only [upd_o, upd_s]; exact h2
  · simp (disch := omega) only [upd_o, upd_s]; exact h3
  · simp (disch := omega) only [upd_o, upd_s, up2_o, up2_s]; exact ⟨c1, c3, c4, c5, c6, c7, c8, c9, c10, c11, c12, True.intro, c15⟩
theorem RX.set7 (h : RX T K sc ar fr st) (hs : s < 2) (x : Int32) : RX T K (up2 sc (2 + 8 * s) 7 x) ar fr (upd st (104 + 100 * s) x) := by
  refine h.setE hs (fun _ => Nat.le_refl _) (fun o n u g t d w v hv h => ⟨o, n, u, g, t, d, w, v, hv, ?_⟩) (fun i hi => by rw [upd_o (by omega)]) (fun p hp => by rw [up2_ne hp]) (fun _ _ => rfl)
  obtain ⟨h1, h2, h3, h4, h5, h6, h7⟩ := id h
  obtain ⟨c1, c3, c4, c5, c6, c7, c8, c9, c10, c11, c12, c13, c15⟩ := h4
  simp only [Nat.zero_add] at c1 c3 c4 c5 c6 c7 c8 c9 c10 c11 c12 c13 c15
  refine h.scal (by omega) (fun i hi => by rw [upd_o (by omega)]) (fun _ _ _ => rfl) ?_ ?_ ?_
  · simp (disch := omega) only [upd_o, upd_s]; exact h2
  · simp (disch := omega) only [upd_o, upd_s]; exact h3
  · simp (disch := omega) only [upd_o, upd_s, up2_o, up2_s]; exact ⟨c1, c3, c4, c5, c6, True.intro, c8, c9, c10, c11, c12, c13, c15⟩
theorem upd_id {x : Int32} {i : Nat} (h : st i = x) : upd st i x = st := by
  funext j
  by_cases q : j = i
  · rw [q, upd_s, h]
  · rw [upd_o q]
theorem tim17 (hnb : 1 ≤ nb) (hs : s < 2) {x : Int32} {st0 : Nat → Int32} (h : RX T K sc ar fr st) (e0 : upd st0 (109 + 100 * s) x = st) : ∃ sc' ar' st', f_X2_runTimers_17 nb 0 (2 + 8 * s) sc ar fr = some (sc', ar', fr) ∧ f_X6_timers_48 (nI s) (nI (100 + 100 * s)) x (nI (109 + 100 * s)) st0 wt sm ld ln = some (st', wt, sm, ld, ln) ∧ RX T K sc' ar' fr st' ∧ Out sc ar fr sc' ar' fr := by
  obtain ⟨o, n, u, g, t, d, w, v, hv, hE⟩ := h.2.1 s hs
  obtain ⟨h1, h2, h3, h4, h5, h6, h7⟩ := id hE
  obtain ⟨a0, a1, a2, a3, a5, a6, a7, a11, a13⟩ := h2
  obtain ⟨c1, c3, c4, c5, c6, c7, c8, c9, c10, c11, c12, c13, c15⟩ := h4
  simp only [Nat.zero_add] at c1 c3 c4 c5 c6 c7 c8 c9 c10 c11 c12 c13 c15
  rw [f_X2_runTimers_17, gd_t (p_end hnb hs), unacked_c (p_end hnb hs) c4 c5 (by omega), bC_s, show n - (n - u) = u by omega]
  rw [f_X6_timers_48, wr_n (by omega) (by decide), e0, ad_2, show 100 + 100 * s + 2 = 102 + 100 * s by omega, rd_n (by omega) (by decide), a2]
  by_cases hu : u = 0
  · rw [if_pos (show nI u = (0 : Int32) by rw [hu]; rfl), if_pos (show nI u ≤ (0 : Int32) by rw [hu]; decide)]
    exact ⟨_, _, _, rfl, rfl, h, Out.refl⟩
  rw [if_neg (show ¬ nI u = (0 : Int32) from fun e => hu ((nI_eq (b := 0) (by omega) (by decide)).mp e)), if_neg (show ¬ nI u ≤ (0 : Int32) from nI_ge (a := 0) (by omega) (by omega)), c9, ad_6, show 100 + 100 * s + 6 = 106 + 100 * s by omega, rd_n (by omega) (by decide), a6]
  by_cases hg : g = 0
  · rw [if_pos (show nI g ≤ (0 : Int32) by rw [hg]; decide), if_pos (show nI g = (0 : Int32) by rw [hg]; rfl), bd_e, bd_e, gd_t (p_lk hnb), up2_s, c7, up2_ne (by omega), show sc 0 6 = st 1 from h.1.2.2.2.2.2.1]
    rw [bd_e, ad_4, show 100 + 100 * s + 4 = 104 + 100 * s by omega, rd_n (by omega) (by decide), bd_e, wr_n (by omega) (by decide), rd_n (by omega) (by decide), upd_s, rd_l 1 1 rfl (by decide), upd_o (by omega)]
    have H := h.set7 hs (st (104 + 100 * s) + 1)
    have hO : Out sc ar fr (up2 sc (2 + 8 * s) 7 (st (104 + 100 * s) + 1)) ar fr := fun p hp => ⟨up2_ne (by omega), rfl, rfl⟩
    by_cases q : st (104 + 100 * s) + 1 < st 1
    · rw [if_pos q, if_pos q]
      exact ⟨_, _, _, rfl, rfl, H, hO⟩
    · rw [if_neg q, if_neg q]
      obtain ⟨sc', ar', st', e1, e2, e3, e4, e5⟩ := again_sim (wt := wt) (sm := sm) (ld := ld) (ln := ln) hnb hs H
      rw [e1, bCv_s, e2, bMv_s]
      exact ⟨_, _, _, rfl, rfl, e3, hO.trans e4⟩
  · rw [if_neg (show ¬ nI g ≤ (0 : Int32) from nI_ge (a := 0) (by omega) (by omega)), if_neg (show ¬ nI g = (0 : Int32) from fun e => hg ((nI_eq (b := 0) (by omega) (by decide)).mp e))]
    exact ⟨_, _, _, rfl, rfl, h, Out.refl⟩
theorem timers_sim (hnb : 1 ≤ nb) (hs : s < 2) (h : RX T K sc ar fr st) : ∃ sc' ar' st', f_X2_runTimers nb 0 (2 + 8 * s) sc ar fr = some (sc', ar', fr) ∧ f_X6_timers (nI s) st wt sm ld ln = some (st', wt, sm, ld, ln) ∧ RX T K sc' ar' fr st' ∧ Out sc ar fr sc' ar' fr := by
  obtain ⟨o, n, u, g, t, d, w, v, hv, hE⟩ := h.2.1 s hs
  have c13 : sc (2 + 8 * s) 13 = st (109 + 100 * s) := by have := hE.2.2.2.1.2.2.2.2.2.2.2.2.2.2.2.1; simpa using this
  rw [f_X2_runTimers, gd_t (p_end hnb hs), c13, f_X6_timers, endAt_s, bx_s, ad_9, show 100 + 100 * s + 9 = 109 + 100 * s by omega, rd_n (by omega) (by decide)]
  by_cases q : st (109 + 100 * s) ≤ 0
  · rw [if_pos q, if_pos q, rd_n (by omega) (by decide)]
    exact tim17 hnb hs h (upd_id rfl)
  · rw [if_neg q, if_neg q, rd_n (by omega) (by decide), bd_e, bd_e]
    obtain ⟨sc', ar', st', e1, e2, e3, e4⟩ := tim17 (wt := wt) (sm := sm) (ld := ld) (ln := ln) hnb hs (h.set13 hs (st (109 + 100 * s) - 1)) rfl
    exact ⟨_, _, _, e1, e2, e3, Out.trans (fun p hp => ⟨up2_ne (by omega), rfl, rfl⟩) e4⟩
end TK8
