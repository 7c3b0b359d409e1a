theorem rd_l {β : Type} {f : Nat → Int32} {k : Int32 → Option β} (j : Nat) (J : Int32) (hJ : J = nI j) (h : j < 8000) : rd f 8000 J k = k (f j) := by rw [hJ]; exact rd_n h (by decide)
theorem wr_l {β : Type} {f : Nat → Int32} {x : Int32} {k : (Nat → Int32) → Option β} (j : Nat) (J : Int32) (hJ : J = nI j) (h : j < 8000) : wr f 8000 J x k = k (upd f j x) := by rw [hJ]; exact wr_n h (by decide)
section TK2
variable {nb T s : Nat} {K K' : Nat → Nat} {sc ar sc' ar' : Nat → Nat → Int32} {fr fr' : Nat → Nat → Nat} {st st' : Nat → Int32} {wt : Int32} {sm : Int64} {ld ln : Int32}
theorem talr_l {β : Type} (hnb : 1 ≤ nb) (j : Nat) (J : Int32) (hJ : J = nI j) (hj : j < 17) {k : Int32 → Option β} : rdA nb ar (0 + 71) J k = k (ar 71 j) := by rw [hJ]; exact talr_c hnb hj
theorem tal_l {β : Type} (hnb : 1 ≤ nb) (j : Nat) (J : Int32) (hJ : J = nI j) (hj : j < 17) {x : Int32} {k : (Nat → Nat → Int32) → Option β} : wrA nb ar (0 + 71) J x k = k (va_up ar 71 (upd (ar 71) j x)) := by rw [hJ]; exact tal_c hnb hj
theorem rdW_c {β : Type} (hnb : 1 ≤ nb) (w : Nat) (J : Int32) (hJ : J = nI w) (hw : w < 2) {k : Nat → Option β} : rdR nb 12 2 (0 + 18) J (0 + 18 + 1 + 26 * J.toNatClampNeg) k = k (19 + 26 * w) := by
  rw [hJ, rdR_n (p_wires hnb) hw (by decide), nI_clamp (by omega)]
theorem rdE_c {β : Type} (hnb : 1 ≤ nb) (w : Nat) (J : Int32) (hJ : J = nI w) (hw : w < 2) {k : Nat → Option β} : rdR nb 9 2 (0 + 1) J (0 + 1 + 1 + 8 * J.toNatClampNeg) k = k (2 + 8 * w) := by
  rw [hJ, rdR_n (p_ends hnb) hw (by decide), nI_clamp (by omega)]
theorem RX.train (h : RX T K sc ar fr st) (e4 : st' 4 = 5) (e3 : st' 300 = 0) (e8 : st' 800 = 0) (hst : ∀ i, i ≠ 4 → (i < 300 ∨ 1300 ≤ i) → st' i = st i) : RX T K (up2 (up2 (up2 sc 0 4 5) 19 1 0) 45 1 0) ar fr st' := by
  obtain ⟨hg, he, hw⟩ := h
  obtain ⟨a0, a1, a2, a3, a4, a5, a6, a7, a8⟩ := hg
  refine ⟨⟨a0, ?_, ?_, ?_, ?_, ?_, ?_, fun i p q => ?_, fun i p q => ?_⟩, fun s hs => ?_, fun w hw' => ?_⟩
  · rw [hst _ (by decide) (by decide)]; exact a1
  · rw [up2_ne (by decide), up2_ne (by decide), up2_o (by decide)]; exact a2
  · rw [up2_ne (by decide), up2_ne (by decide), up2_s, e4]
  · rw [up2_ne (by decide), up2_ne (by decide), up2_o (by decide), hst _ (by decide) (by decide)]; exact a4
  · rw [up2_ne (by decide), up2_ne (by decide), up2_o (by decide), hst _ (by decide) (by decide)]; exact a5
  · rw [up2_ne (by decide), up2_ne (by decide), up2_o (by decide), hst _ (by decide) (by decide)]; exact a6
  · rw [hst _ (by omega) (by omega)]; exact a7 i p q
  · rw [hst _ (by omega) (by omega)]; exact a8 i p q
  · obtain ⟨o, n, u, g, t, d, w, v, hv, h⟩ := he s hs
    exact ⟨o, n, u, g, t, d, w, v, hv, h.cong hs (fun i hi => hst i (by omega) (by omega)) (by rw [up2_ne (by omega), up2_ne (by omega), up2_ne (by omega)]) (fun p _ _ => rfl)⟩
  · obtain ⟨n, h1, h2, h3, h4, h5, h6⟩ := hw w hw'
    refine ⟨0, by decide, ?_, ?_, h4, h5, fun j hj => absurd hj (by omega)⟩
    · rcases (show w = 0 ∨ w = 1 by omega) with rfl | rfl
      · rw [up2_ne (by decide), up2_s]; rfl
      · rw [up2_s]; rfl
    · rcases (show w = 0 ∨ w = 1 by omega) with rfl | rfl
      · exact e3
      · exact e8
theorem train_c (hnb : 1 ≤ nb) : f_X2_train nb 0 sc ar fr = some (up2 (up2 (up2 sc 0 4 5) 19 1 0) 45 1 0, va_up ar 71 (upd (ar 71) 2 (ar 71 2 + 1)), fr) := by
  rw [f_X2_train, gd_t (p_lk hnb), talr_l hnb 2 2 rfl (by decide), bd_e, tal_l hnb 2 2 rfl (by decide), bd_e, rdW_c hnb 0 0 rfl (by decide), gd_t (p_wire hnb (by decide)), bd_e, rdW_c hnb 1 1 rfl (by decide), gd_t (p_wire hnb (by decide)), bd_e]
/-- what a sending again does to the end's numbers -/
theorem RX.againE (h : RX T K sc ar fr st) (hs : s < 2) (hst : ∀ i, i ≠ 104 + 100 * s → i ≠ 105 + 100 * s → i ≠ 106 + 100 * s → st' i = st i) (hsc : ∀ p, p ≠ 2 + 8 * s → sc' p = sc p) (hsc2 : ∀ j, j ≠ 7 → j ≠ 8 → j ≠ 9 → sc' (2 + 8 * s) j = sc (2 + 8 * s) j) {t' : Nat} (ht : t' < 4) (m4 : sc' (2 + 8 * s) 7 = st' (104 + 100 * s)) (m5 : st' (105 + 100 * s) = nI t') (m6 : st' (106 + 100 * s) = st (102 + 100 * s)) (k8 : sc' (2 + 8 * s) 8 = nI t') (k9 : sc' (2 + 8 * s) 9 = st (102 + 100 * s)) : RX T K sc' ar fr st' := by
  refine h.setE hs (fun _ => Nat.le_refl _) (fun o n u g t d w v hv h => ⟨o, n, u, u, t', d, w, v, hv, ?_⟩) (fun i hi => hst i (by omega) (by omega) (by omega)) hsc (fun _ _ => rfl)
  obtain ⟨h1, h2, h3, h4, h5, h6, h7⟩ := id h
  obtain ⟨a0, a1, a2, a3, a5, a6, a7, a11, a13⟩ := h2
  obtain ⟨c1, c3, c4, c5, c6, c7, c8, c9, c10, c11, c12, c13, c15⟩ := h4
  simp only [Nat.zero_add] at c1 c3 c4 c5 c6 c7 c8 c9 c10 c11 c12 c13 c15
  refine h.scal (by omega) (fun i hi => hst i (by omega) (by omega) (by omega)) (fun _ _ _ => rfl) ?_ ?_ ?_
  · rw [m5, m6]
    simp (disch := omega) only [hst]
    exact ⟨a0, a1, a2, a3, trivial, a2, a7, a11, a13⟩
  · simp (disch := omega) only [hst]; exact h3
  · rw [k8, k9, m4]
    simp (disch := omega) only [hst, hsc2]
    exact ⟨c1, c3, c4, c5, c6, trivial, trivial, a2, c10, c11, c12, c13, c15⟩
theorem again_sim (hnb : 1 ≤ nb) (hs : s < 2) (h : RX T K sc ar fr st) : ∃ sc' ar' st', f_X2_sendAgain nb 0 (2 + 8 * s) sc ar fr = some (sc', ar', fr) ∧ f_X6_sendsAgain (nI s) st wt sm ld ln = some (st', wt, sm, ld, ln) ∧ RX T K sc' ar' fr st' ∧ Out sc ar fr sc' ar' fr ∧ Wk st st' := by
  obtain ⟨o, n, u, g, t, d, w, v, hv, hE⟩ := h.2.1 s hs
  obtain ⟨h1, h2, h3, h4, h5, h6, h7⟩ := id hE
  obtain ⟨a0, a1, a2, a3, a5, a6, a7, a11, a13⟩ := h2
  obtain ⟨c1, c3, c4, c5, c6, c7, c8, c9, c10, c11, c12, c13, c15⟩ := h4
  simp only [Nat.zero_add] at c1 c3 c4 c5 c6 c7 c8 c9 c10 c11 c12 c13 c15
  have et := h.tal (j := 3) (j' := 6) (by omega)
  have H1 := h.tally (j := 3) (j' := 6) (x := st 6 + 1) (by omega)
  have eC : f_X2_sendAgain nb 0 (2 + 8 * s) sc ar fr = if nI (t + 1) < 4 then some (up2 (up2 (up2 sc (2 + 8 * s) 8 (nI (t + 1))) (2 + 8 * s) 7 0) (2 + 8 * s) 9 (nI u), va_up ar 71 (upd (ar 71) 3 (st 6 + 1)), fr) else bd (up2 (up2 (up2 (up2 sc (2 + 8 * s) 8 (nI (t + 1))) (2 + 8 * s) 7 0) (2 + 8 * s) 9 (nI u)) (2 + 8 * s) 8 0) fun sc15 => bCv (f_X2_train nb 0 sc15 (va_up ar 71 (upd (ar 71) 3 (st 6 + 1))) fr) fun sc17 ar18 fr19 => some (sc17, ar18, fr19) := by
    rw [f_X2_sendAgain, gd_t (p_lk hnb), talr_l hnb 3 3 rfl (by decide), bd_e, tal_l hnb 3 3 rfl (by decide), gd_t (p_end hnb hs), c8, bd_e, bd_e, bd_e, et]
    rw [unacked_c (p_end hnb hs) (a := n) (b := n - u) (by rw [up2_o (by decide), up2_o (by decide)]; exact c4) (by rw [up2_o (by decide), up2_o (by decide)]; exact c5) (by omega), bC_s, bd_e, show n - (n - u) = u by omega]
    rw [up2_o (by decide), up2_o (by decide), up2_s, ad_1]
  rw [f_X6_sendsAgain, endAt_s, bx_s, rd_l 6 6 rfl (by decide), bd_e, wr_l 6 6 rfl (by decide), bd_e]
  rw [ad_5, rd_n (by omega) (by decide), show 100 + 100 * s + 5 = 105 + 100 * s by omega, upd_o (by omega), a5, bd_e, wr_n (by omega) (by decide), ad_4, show 100 + 100 * s + 4 = 104 + 100 * s by omega, wr_n (by omega) (by decide), ad_2, show 100 + 100 * s + 2 = 102 + 100 * s by omega, rd_n (by omega) (by decide), ad_6, show 100 + 100 * s + 6 = 106 + 100 * s by omega, wr_n (by omega) (by decide), rd_n (by omega) (by decide)]
  simp (disch := omega) only [upd_o, upd_s, a2, ad_1]
  by_cases q : t + 1 < 4
  · rw [eC, if_pos (show nI (t + 1) < (4 : Int32) from nI_lt (b := 4) q (by decide)), if_neg (show ¬ nI (t + 1) = (4 : Int32) from fun e => by have := (nI_eq (b := 4) (by omega) (by decide)).mp e; omega)]
    refine ⟨_, _, _, rfl, rfl, ?_, fun p hp => ⟨by rw [up2_ne (by omega), up2_ne (by omega), up2_ne (by omega)], va_o (by omega), rfl⟩, Wk.of fun i a b => by rw [upd_o (by omega), upd_o (by omega), upd_o (by omega), upd_o (by omega)]⟩
    refine H1.againE hs (t' := t + 1) (fun i i1 i2 i3 => by rw [upd_o i3, upd_o i1, upd_o i2]) (fun p hp => by rw [up2_ne hp, up2_ne hp, up2_ne hp]) (fun j j1 j2 j3 => by rw [up2_o j3, up2_o j1, up2_o j2]) q ?_ ?_ ?_ ?_ ?_
    · simp (disch := omega) only [upd_o, upd_s, up2_o, up2_s]
    · simp (disch := omega) only [upd_o, upd_s, up2_o, up2_s]
    · simp (disch := omega) only [upd_o, upd_s, up2_o, up2_s]; exact a2.symm
    · simp (disch := omega) only [upd_o, upd_s, up2_o, up2_s]
    · simp (disch := omega) only [upd_o, upd_s, up2_o, up2_s]; exact a2.symm
  · rw [eC, if_neg (show ¬ nI (t + 1) < (4 : Int32) from nI_nlt (b := 4) (by omega) (by omega)), bd_e, train_c hnb, bCv_s, if_pos (show nI (t + 1) = (4 : Int32) from by rw [show t + 1 = 4 by omega]; rfl)]
    rw [wr_n (by omega) (by decide), wr_l 4 4 rfl (by decide), rd_l 5 5 rfl (by decide), bd_e, wr_l 5 5 rfl (by decide)]
    obtain ⟨L0, hL0, -, l0, -⟩ := h.2.2 0 (by decide)
    obtain ⟨L1, hL1, -, l1, -⟩ := h.2.2 1 (by decide)
    have H2 : RX T K (up2 (up2 (up2 (up2 sc (2 + 8 * s) 8 (nI (t + 1))) (2 + 8 * s) 7 0) (2 + 8 * s) 9 (nI u)) (2 + 8 * s) 8 0) (va_up ar 71 (upd (ar 71) 3 (st 6 + 1))) fr (upd (upd (upd (upd (upd st 6 (st 6 + 1)) (105 + 100 * s) (nI (t + 1))) (104 + 100 * s) 0) (106 + 100 * s) (nI u)) (105 + 100 * s) 0) := by
      refine H1.againE hs (t' := 0) (fun i i1 i2 i3 => by rw [upd_o i2, upd_o i3, upd_o i1, upd_o i2]) (fun p hp => by rw [up2_ne hp, up2_ne hp, up2_ne hp, up2_ne hp]) (fun j j1 j2 j3 => by rw [up2_o j2, up2_o j3, up2_o j1, up2_o j2]) (by decide) ?_ ?_ ?_ ?_ ?_
      · simp (disch := omega) only [upd_o, upd_s, up2_o, up2_s]
      · simp (disch := omega) only [upd_o, upd_s, up2_o, up2_s]; rfl
      · simp (disch := omega) only [upd_o, upd_s, up2_o, up2_s]; exact a2.symm
      · simp (disch := omega) only [upd_o, upd_s, up2_o, up2_s]; rfl
      · simp (disch := omega) only [upd_o, upd_s, up2_o, up2_s]; exact a2.symm
    have et2 := H2.tal (j := 2) (j' := 5) (by omega)
    rw [et2]
    have H3 := H2.tally (j := 2) (j' := 5) (x := (upd (upd (upd (upd (upd st 6 (st 6 + 1)) (105 + 100 * s) (nI (t + 1))) (104 + 100 * s) 0) (106 + 100 * s) (nI u)) (105 + 100 * s) 0) 5 + 1) (by omega)
    obtain ⟨st', e1, e2, e3, e4⟩ := clear92 (wt := wt) (sm := sm) (ld := ld) (ln := ln) L0 FU (upd (upd (upd (upd (upd (upd (upd st 6 (st 6 + 1)) (105 + 100 * s) (nI (t + 1))) (104 + 100 * s) 0) (106 + 100 * s) (nI u)) (105 + 100 * s) 0) 4 5) 5 ((upd (upd (upd (upd (upd (upd st 6 (st 6 + 1)) (105 + 100 * s) (nI (t + 1))) (104 + 100 * s) 0) (106 + 100 * s) (nI u)) (105 + 100 * s) 0) 4 5) 5 + 1)) hL0 (by unfold FU; omega) (by simp (disch := omega) only [upd_o]; exact l0) ⟨L1, hL1, by simp (disch := omega) only [upd_o]; exact l1⟩
    rw [e1]
    refine ⟨_, _, _, rfl, rfl, H3.train ?_ e2 e3 (fun i i1 i2 => ?_), fun p hp => ⟨?_, ?_, rfl⟩, Or.inr ⟨e2, e3⟩⟩
    · rw [e4 _ (by decide), upd_o (by decide), upd_s]
    · rw [e4 i i2]
      by_cases i5 : i = 5
      · subst i5
        rw [upd_s, upd_s, upd_o (show (5 : Nat) ≠ 4 by decide)]
      · rw [upd_o i5, upd_o i1, upd_o i5]
    · rw [up2_ne (by omega), up2_ne (by omega), up2_ne (by omega), up2_ne (by omega), up2_ne (by omega), up2_ne (by omega), up2_ne (by omega)]
    · rw [va_o (by omega), va_o (by omega)]
end TK2
