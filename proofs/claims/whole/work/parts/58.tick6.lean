/-- the row with the frame at f laid aside -/
def tkn (f : Nat) (st : Nat → Int32) : Nat → Int32 := fun x => if 7900 ≤ x ∧ x < 7936 then st (f + (x - 7900)) else st x
section TK6
variable {nb T s : Nat} {K K' : Nat → Nat} {sc ar sc' ar' : Nat → Nat → Int32} {fr fr' : Nat → Nat → Nat} {st st' : Nat → Int32} {wt : Int32} {sm : Int64} {ld ln : Int32}
/-- what comes after the frame is laid aside -/
def cmsK (x1 x2 : Int32) (st : Nat → Int32) (wt : Int32) (sm : Int64) (ld ln : Int32) : Option ((Nat → Int32) × Int32 × Int64 × Int32 × Int32) :=
  bMv (f_X6_remove x1 x2 st wt sm ld ln) fun st4 wt5 sm6 ld7 ln8 =>
    bd ((1 - x1)) fun y9 =>
    bM (f_X6_read 7900 st4 wt5 sm6 ld7 ln8) fun r10 st11 wt12 sm13 ld14 ln15 =>
    if r10 = 0 then (bMv (f_X6_comesData y9 7900 st11 wt12 sm13 ld14 ln15) fun st43 wt44 sm45 ld46 ln47 =>
    some (st43, wt44, sm45, ld46, ln47))
    else (if r10 = 1 then (rd st11 8000 27 fun v39 =>
    bd ((v39 + 1)) fun y40 =>
    wr st11 8000 27 y40 fun st41 =>
    some (st41, wt12, sm13, ld14, ln15))
    else (if 4 ≤ r10 then (if r10 = 4 then (rd st11 8000 30 fun v23 =>
    bd ((v23 + 1)) fun y24 =>
    wr st11 8000 30 y24 fun st25 =>
    bMv (f_X6_dropped y9 st25 wt12 sm13 ld14 ln15) fun st27 wt28 sm29 ld30 ln31 =>
    some (st27, wt28, sm29, ld30, ln31))
    else (rd st11 8000 31 fun v20 =>
    bd ((v20 + 1)) fun y21 =>
    wr st11 8000 31 y21 fun st22 =>
    some (st22, wt12, sm13, ld14, ln15)))
    else (rd st11 8000 7904 fun v32 =>
    bMv (f_X6_comesWord y9 r10 v32 st11 wt12 sm13 ld14 ln15) fun st34 wt35 sm36 ld37 ln38 =>
    some (st34, wt35, sm36, ld37, ln38))))
theorem cms9 {f : Nat} (hf : f < 7800) {x1 x2 : Int32} : ∀ (m fu i : Nat) (st : Nat → Int32), i + m = 36 → m < fu → f_X6_comes_9 fu x1 x2 (nI f) (nI i) st wt sm ld ln = cmsK x1 x2 (fun x => if 7900 + i ≤ x ∧ x < 7936 then st (f + (x - 7900)) else st x) wt sm ld ln := by
  intro m
  induction m with
  | zero =>
    intro fu i st h1 h2
    obtain ⟨fu, rfl⟩ : ∃ z, fu = z + 1 := ⟨fu - 1, by omega⟩
    rw [f_X6_comes_9, if_pos (show (36 : Int32) ≤ nI i from nI_le (a := 36) (by omega) (by omega))]
    rw [show (fun x => if 7900 + i ≤ x ∧ x < 7936 then st (f + (x - 7900)) else st x) = st from funext fun x => by rw [if_neg (by omega)]]
    rfl
  | succ m ih =>
    intro fu i st h1 h2
    obtain ⟨fu, rfl⟩ : ∃ z, fu = z + 1 := ⟨fu - 1, by omega⟩
    rw [f_X6_comes_9, if_neg (show ¬ (36 : Int32) ≤ nI i from nI_ge (b := 36) (by omega) (by decide)), nI_add, rd_n (by omega) (by decide), show (7900 : Int32) = nI 7900 from rfl, nI_add, wr_n (by omega) (by decide), bd_e, ad_1, ih fu (i + 1) _ (by omega) (by omega)]
    congr 1
    funext x
    by_cases q : x = 7900 + i
    · rw [q, if_neg (by omega), upd_s, if_pos (by omega), show f + (7900 + i - 7900) = f + i by omega]
    · by_cases r : 7900 + i ≤ x ∧ x < 7936
      · rw [if_pos (by omega), if_pos r, upd_o (by omega)]
      · rw [if_neg (by omega), if_neg r, upd_o q]
theorem comes_sim (hnb : 1 ≤ nb) {w j L : Nat} (hw : w < 2) (h : RX T K sc ar fr st) (hK : ∀ s', K s' ≤ K' s') (hK1 : K (1 - w) + 1 ≤ K' (1 - w)) (hKb : K (1 - w) < 2 ^ 30) (hj : j < L) (hL : L ≤ 12) (g2 : st (300 + 500 * w) = nI L) :
  ∃ p sc1 fr1 sc' ar' st' sm', f_X4_takeOff nb (19 + 26 * w) (nI j) sc ar fr = some (p, sc1, ar, fr1) ∧ f_X2_takeIn nb 0 p (2 + 8 * (1 - w)) sc1 ar fr1 = some (sc', ar', fr1) ∧ f_X6_comes (nI w) (nI j) st wt sm ld ln = some (st', wt, sm', ld, ln) ∧ RX T K' sc' ar' fr1 st' ∧ Out sc ar fr sc' ar' fr1 ∧ ((∀ i, 300 + 500 * w ≤ i → i < 800 + 500 * w → st' i = rmv w j L st i) ∨ st' (300 + 500 * w) = 0) := by
  obtain ⟨n0, hn0, s1, s2, hp4, hp5, hp6⟩ := id (h.2.2 w hw)
  simp only [Nat.zero_add] at s1 hp4 hp5 hp6
  have hnL : n0 = L := (nI_eq (by omega) (by omega)).mp (s2.symm.trans g2)
  subst hnL
  have hpk := RW.pks (L := n0) hnb hw (by simp only [Nat.zero_add]; exact hp4)
  obtain ⟨m, hm, q1⟩ := hp4 j (by omega)
  have hRF := hp6 j hj
  rw [q1] at hRF
  have hs : 1 - w < 2 := by omega
  have eT := takeOff_c (ar := ar) hnb hw hL hj s1 hpk
  rw [q1] at eT
  have H0 : RX T K (up2 sc (19 + 26 * w) 1 (nI (n0 - 1))) ar (va_up fr (20 + 26 * w) (tkf j n0 (fr (20 + 26 * w)))) (rmv w j n0 (tkn (301 + 500 * w + 36 * j) st)) := by
    have h' : RX T K sc ar fr (tkn (301 + 500 * w + 36 * j) st) := h.congS (fun i hi => by unfold tkn; rw [if_neg (by omega)])
    refine h'.setW hw ((h'.2.2 w hw).off hw hL hj s1 (by unfold tkn; rw [if_neg (by omega)]; exact g2)) (fun i hi => rmv_o hL hj hi) (fun p hp => up2_ne (by omega)) (fun _ _ => rfl) (fun p hp => va_o (by omega))
  have hF : RF (21 + 26 * w + 2 * m) 7900 (up2 sc (19 + 26 * w) 1 (nI (n0 - 1))) ar (rmv w j n0 (tkn (301 + 500 * w + 36 * j) st)) := by
    refine hRF.move (up2_ne (by omega)) rfl (fun k hk => ?_)
    rw [rmv_o hL hj (by omega)]
    unfold tkn
    rw [if_pos (by omega), show 7900 + k - 7900 = k by omega]
  have hWk : ∀ i, 300 + 500 * w ≤ i → i < 800 + 500 * w → rmv w j n0 (tkn (301 + 500 * w + 36 * j) st) i = rmv w j n0 st i := by
    intro i i1 i2
    unfold rmv tkn
    by_cases r1 : 301 + 500 * w + 36 * j ≤ i ∧ i < 301 + 500 * w + 36 * (n0 - 1)
    · rw [if_pos r1, if_pos r1, if_neg (by omega)]
    · rw [if_neg r1, if_neg r1, show (if 7900 ≤ i ∧ i < 7936 then st (301 + 500 * w + 36 * j + (i - 7900)) else st i) = st i from if_neg (by omega)]
  have hOut0 : Out sc ar fr (up2 sc (19 + 26 * w) 1 (nI (n0 - 1))) ar (va_up fr (20 + 26 * w) (tkf j n0 (fr (20 + 26 * w)))) := fun p hp => ⟨up2_ne (by omega), rfl, va_o (by omega)⟩
  have em : f_X6_comes (nI w) (nI j) st wt sm ld ln = cmsK (nI w) (nI j) (tkn (301 + 500 * w + 36 * j) st) wt sm ld ln := by
    rw [f_X6_comes, frameAt_s, bx_s, show (0 : Int32) = nI 0 from rfl, cms9 (by omega) 36 FU 0 st (by omega) (by decide)]
    rfl
  have hp7 : pk nb 7 (21 + 26 * w + 2 * m + 1) = true := by rw [show 21 + 26 * w + 2 * m + 1 = 22 + 26 * w + 2 * m by omega]; exact p_frb hnb hw hm
  have hl : lnA (21 + 26 * w + 2 * m + 1) = 32 := by rw [show 21 + 26 * w + 2 * m + 1 = 22 + 26 * w + 2 * m by omega]; exact l_frb hw hm
  obtain ⟨n, b, sm', k1, k2, k3, k5, er, eR⟩ := hF.read (nb := nb) (fr := va_up fr (20 + 26 * w) (tkf j n0 (fr (20 + 26 * w)))) (p_frm hnb hw hm) hp7 hl (by decide) wt sm ld ln
  rw [show 21 + 26 * w + 2 * m + 1 = 22 + 26 * w + 2 * m by omega] at hp7 k5
  generalize hSC : up2 sc (19 + 26 * w) 1 (nI (n0 - 1)) = SC at *
  generalize hFR : va_up fr (20 + 26 * w) (tkf j n0 (fr (20 + 26 * w))) = FR at *
  generalize hST : rmv w j n0 (tkn (301 + 500 * w + 36 * j) st) = ST at *
  have e1w : (1 : Int32) - nI w = nI (1 - w) := pk_sub (a := 1) (by omega)
  have fin : ∀ (sc' ar' : Nat → Nat → Int32) (st' : Nat → Int32), Wk ST st' → ((∀ i, 300 + 500 * w ≤ i → i < 800 + 500 * w → st' i = rmv w j n0 st i) ∨ st' (300 + 500 * w) = 0) := by
    intro sc' ar' st' hk
    rcases hk with hk | ⟨k3, k8⟩
    · exact Or.inl fun i i1 i2 => by rw [hk i (by omega) (by omega)]; exact hWk i i1 i2
    · refine Or.inr ?_
      rcases (show w = 0 ∨ w = 1 by omega) with rfl | rfl
      · exact k3
      · exact k8
  rw [em, cmsK, remove_m hw hL hj (by unfold tkn; rw [if_neg (by omega)]; exact g2), bMv_s, hST, bd_e, e1w, show (7900 : Int32) = nI 7900 from rfl, eR, bM_s, eT]
  have num : f_X1_number nb (21 + 26 * w + 2 * m) SC ar FR = some (nI (b 2), SC, ar, FR) := by
    rw [f_X1_number, gd_t (p_frm hnb hw hm), show 21 + 26 * w + 2 * m + 1 = 22 + 26 * w + 2 * m by omega, show rdA nb ar (22 + 26 * w + 2 * m) 2 = (rdA nb ar (22 + 26 * w + 2 * m) (nI 2) : (Int32 → Option (Int32 × (Nat → Nat → Int32) × (Nat → Nat → Int32) × (Nat → Nat → Nat))) → _) from rfl, rdA_n hp7 (by rw [l_frb hw hm]; decide), (k5 2 (by omega)).2.1]
  rcases readS_c (n := n) (b := b) with ⟨hr, h9⟩ | hr | ⟨hr, hb2⟩ | ⟨hr, hb2⟩ | hr | hr
  · obtain ⟨sc', ar', st', e1, e2, e3, e4, e5⟩ := data_sim (wt := wt) (sm := sm') (ld := ld) (ln := ln) hnb hs H0 hK hK1 hKb hw hm (n' := n) (b := b) (by omega) k2 k3 k5
    refine ⟨_, SC, FR, sc', ar', st', sm', rfl, ?_, ?_, e3, hOut0.trans e4, fin sc' ar' st' e5⟩
    · rw [f_X2_takeIn, gd_t (p_frm hnb hw hm), er, bC_s, hr, if_pos rfl, gd_t (p_lk hnb), e1, bCv_s]
    · rw [hr, if_pos rfl, e2, bMv_s]
  · refine ⟨_, SC, FR, SC, _, _, sm', rfl, ?_, ?_, (H0.tally (j := 12) (j' := 27) (x := ST 27 + 1) (by omega)).mono hK, hOut0.trans Out.tally, fin SC ar _ (Wk.of fun i _ _ => upd_o (by omega))⟩
    · rw [f_X2_takeIn, gd_t (p_frm hnb hw hm), er, bC_s, hr, if_neg (by decide), if_pos rfl, gd_t (p_lk hnb), talr_l hnb 12 12 rfl (by decide), bd_e, tal_l hnb 12 12 rfl (by decide), H0.tal (j := 12) (j' := 27) (by omega)]
    · rw [hr, if_neg (by decide), if_pos rfl, rd_l 27 27 rfl (by decide), bd_e, wr_l 27 27 rfl (by decide)]
  · obtain ⟨sc', ar', st', e1, e2, e3, e4, e5⟩ := word_sim (wt := wt) (sm := sm') (ld := ld) (ln := ln) hnb hs H0 hb2 2
    refine ⟨_, SC, FR, sc', ar', st', sm', rfl, ?_, ?_, e3.mono hK, hOut0.trans e4, fin sc' ar' st' e5⟩
    · rw [f_X2_takeIn, gd_t (p_frm hnb hw hm), er, bC_s, hr, if_neg (by decide), if_neg (by decide), if_pos rfl, num, bC_s, gd_t (p_lk hnb), e1, bCv_s]
    · rw [hr, if_neg (by decide), if_neg (by decide), if_neg (by decide), rd_l 7904 7904 rfl (by decide), show ST 7904 = nI (b 2) from (k5 2 (by omega)).2.2, e2, bMv_s]
  · obtain ⟨sc', ar', st', e1, e2, e3, e4, e5⟩ := word_sim (wt := wt) (sm := sm') (ld := ld) (ln := ln) hnb hs H0 hb2 3
    refine ⟨_, SC, FR, sc', ar', st', sm', rfl, ?_, ?_, e3.mono hK, hOut0.trans e4, fin sc' ar' st' e5⟩
    · rw [f_X2_takeIn, gd_t (p_frm hnb hw hm), er, bC_s, hr, if_neg (by decide), if_neg (by decide), if_neg (by decide), if_pos rfl, num, bC_s, gd_t (p_lk hnb), e1, bCv_s]
    · rw [hr, if_neg (by decide), if_neg (by decide), if_neg (by decide), rd_l 7904 7904 rfl (by decide), show ST 7904 = nI (b 2) from (k5 2 (by omega)).2.2, e2, bMv_s]
  · have H1 := H0.tally (j := 15) (j' := 30) (x := ST 30 + 1) (by omega)
    obtain ⟨sc', st', e1, e2, e3, e4, e5⟩ := nak_sim (wt := wt) (sm := sm') (ld := ld) (ln := ln) hnb hs H1
    refine ⟨_, SC, FR, sc', _, st', sm', rfl, ?_, ?_, e3.mono hK, hOut0.trans (Out.tally.trans e4), fin sc' ar st' ((Wk.of (st' := upd ST 30 (ST 30 + 1)) fun i _ _ => upd_o (by omega)).trans e5)⟩
    · rw [f_X2_takeIn, gd_t (p_frm hnb hw hm), er, bC_s, hr, if_neg (by decide), if_neg (by decide), if_neg (by decide), if_neg (by decide), if_pos rfl, gd_t (p_lk hnb), talr_l hnb 15 15 rfl (by decide), bd_e, tal_l hnb 15 15 rfl (by decide), gd_t (p_end hnb hs), H0.tal (j := 15) (j' := 30) (by omega), e1, bCv_s]
    · rw [hr, if_neg (by decide), if_neg (by decide), if_pos (by decide), if_pos rfl, rd_l 30 30 rfl (by decide), bd_e, wr_l 30 30 rfl (by decide), e2, bMv_s]
  · refine ⟨_, SC, FR, SC, _, _, sm', rfl, ?_, ?_, (H0.tally (j := 16) (j' := 31) (x := ST 31 + 1) (by omega)).mono hK, hOut0.trans Out.tally, fin SC ar _ (Wk.of fun i _ _ => upd_o (by omega))⟩
    · rw [f_X2_takeIn, gd_t (p_frm hnb hw hm), er, bC_s, hr, if_neg (by decide), if_neg (by decide), if_neg (by decide), if_neg (by decide), if_neg (by decide), gd_t (p_lk hnb), talr_l hnb 16 16 rfl (by decide), bd_e, tal_l hnb 16 16 rfl (by decide), H0.tal (j := 16) (j' := 31) (by omega)]
    · rw [hr, if_neg (by decide), if_neg (by decide), if_pos (by decide), if_neg (by decide), rd_l 31 31 rfl (by decide), bd_e, wr_l 31 31 rfl (by decide)]
end TK6
