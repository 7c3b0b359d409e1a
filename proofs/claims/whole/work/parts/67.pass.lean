/-! a whole tick -/
section TP
variable {nb T : Nat} {K : Nat → Nat} {sc ar sc' ar' : Nat → Nat → Int32} {fr fr' : Nat → Nat → Nat} {st st' : Nat → Int32} {wt : Int32} {sm : Int64} {ld ln : Int32}
theorem RX.trn (h : RX T K sc ar fr st) (x : Int32) : RX T K (up2 sc 0 4 x) ar fr (upd st 4 x) := by
  obtain ⟨hg, he, hw⟩ := h
  obtain ⟨a0, a1, a2, a3, a4, a5, a6, a7, a8⟩ := hg
  refine ⟨⟨a0, ?_, ?_, ?_, ?_, ?_, ?_, fun i p q => ?_, fun i p q => ?_⟩, fun s hs => ?_, fun w hw' => (hw w hw').cong hw' (fun i p q => upd_o (by omega)) (fun p _ _ => up2_ne (by omega)) (fun p _ _ => rfl) rfl⟩
  · rw [upd_o (by decide)]; exact a1
  · rw [up2_o (by decide)]; exact a2
  · rw [up2_s, upd_s]
  · rw [up2_o (by decide), upd_o (by decide)]; exact a4
  · rw [up2_o (by decide), upd_o (by decide)]; exact a5
  · rw [up2_o (by decide), upd_o (by decide)]; exact a6
  · rw [upd_o (by omega)]; exact a7 i p q
  · rw [upd_o (by omega)]; exact a8 i p q
  · obtain ⟨o, n, u, g, t, d, w, v, hv, h⟩ := he s hs
    exact ⟨o, n, u, g, t, d, w, v, hv, h.cong hs (fun i hi => upd_o (by omega)) (up2_ne (by omega)) (fun p _ _ => rfl)⟩
theorem RX.tck (h : RX T K sc ar fr st) (hT : T + 1 ≤ 20000) : RX (T + 1) K (up2 sc 0 3 (nI (T + 1))) ar fr (upd st 3 (nI (T + 1))) := by
  obtain ⟨hg, he, hw⟩ := h
  obtain ⟨a0, a1, a2, a3, a4, a5, a6, a7, a8⟩ := hg
  refine ⟨⟨hT, ?_, ?_, ?_, ?_, ?_, ?_, fun i p q => ?_, fun i p q => ?_⟩, fun s hs => ?_, fun w hw' => (hw w hw').cong hw' (fun i p q => upd_o (by omega)) (fun p _ _ => up2_ne (by omega)) (fun p _ _ => rfl) rfl⟩
  · rw [upd_s]
  · rw [up2_s]
  · rw [up2_o (by decide), upd_o (by decide)]; exact a3
  · rw [up2_o (by decide), upd_o (by decide)]; exact a4
  · rw [up2_o (by decide), upd_o (by decide)]; exact a5
  · rw [up2_o (by decide), upd_o (by decide)]; exact a6
  · rw [upd_o (by omega)]; exact a7 i p q
  · rw [upd_o (by omega)]; exact a8 i p q
  · obtain ⟨o, n, u, g, t, d, w, v, hv, h⟩ := he s hs
    exact ⟨o, n, u, g, t, d, w, v, hv, h.cong hs (fun i hi => upd_o (by omega)) (up2_ne (by omega)) (fun p _ _ => rfl)⟩
theorem fu3 : ∃ z, FU = z + 1 + 1 + 1 := ⟨FU - 3, by unfold FU; omega⟩
theorem coming_sim (hnb : 1 ≤ nb) (hK : ∀ s, K s < 2 ^ 29) (h : RX T K sc ar fr st) : ∃ c sc' ar' fr' st' sm', (∀ x1, f_X2_passTick_41 nb FU 0 x1 0 0 sc ar fr = if x1 = 0 then (f_X2_passTick_81 nb FU 0 (nI c) 0 sc' ar' fr') else some (nI c, sc', ar', fr')) ∧ f_X6_coming st wt sm ld ln = some (nI c, st', wt, sm', ld, ln) ∧ RX T (fun s => K s + 12) sc' ar' fr' st' ∧ Out sc ar fr sc' ar' fr' := by
  obtain ⟨fu0, hfu⟩ := fu3
  obtain ⟨L0, hL0, -, l0, -⟩ := h.2.2 0 (by decide)
  obtain ⟨c0, sc1, ar1, fr1, st1, sm1, -, a2, a3, a4, a5⟩ := recv (T := T) (wt := wt) (ld := ld) (ln := ln) hnb (w := 0) (by decide) (rec := f_X6_coming_4 (fu0 + 1 + 1)) 12 L0 FU FU 0 0 K sc ar fr st sm hL0 h l0 (by omega) (by unfold FU; omega) (by unfold FU; omega) (by show K 1 + 12 < 2 ^ 30; have := hK 1; omega) (by decide) (fun z a b => absurd a (by omega))
  obtain ⟨L1, hL1, -, l1, -⟩ := a4.2.2 1 (by decide)
  obtain ⟨c1, sc2, ar2, fr2, st2, sm2, -, b2, b3, b4, b5⟩ := recv (T := T) (wt := wt) (ld := ld) (ln := ln) hnb (w := 1) (by decide) (rec := f_X6_coming_4 (fu0 + 1)) 12 L1 FU FU 0 0 _ sc1 ar1 fr1 st1 sm1 hL1 a4 l1 (by omega) (by unfold FU; omega) (by unfold FU; omega) (by show (if (0 : Nat) = 1 - 0 then K 0 + 12 else K 0) + 12 < 2 ^ 30; rw [if_neg (by decide)]; have := hK 0; omega) (by decide) (fun z a b => absurd a (by omega))
  have a2' : f_X2_receive nb 0 (19 + 26 * 0) (2 + 8 * 1) sc ar fr = some (nI c0, sc1, ar1, fr1) := a2
  have b2' : f_X2_receive nb 0 (19 + 26 * 1) (2 + 8 * 0) sc1 ar1 fr1 = some (nI c1, sc2, ar2, fr2) := b2
  have key : ∀ fu x1, f_X2_passTick_41 nb (fu + 1 + 1 + 1) 0 x1 (nI 0) (nI 0) sc ar fr = if x1 = 0 then (f_X2_passTick_81 nb FU 0 (nI (0 + c0 + c1)) 0 sc2 ar2 fr2) else some (nI (0 + c0 + c1), sc2, ar2, fr2) := by
    intro fu x1
    rw [f_X2_passTick_41, if_neg (show ¬ (2 : Int32) ≤ nI 0 by decide), gd_t (p_lk hnb), rdW_c hnb 0 (nI 0) rfl (by decide), rdE_c hnb 1 (1 - nI 0) (by decide) (by decide), a2', bC_s, bd_e, nI_add, bd_e, ad_1]
    rw [f_X2_passTick_41, if_neg (show ¬ (2 : Int32) ≤ nI (0 + 1) by decide), gd_t (p_lk hnb), rdW_c hnb 1 (nI (0 + 1)) rfl (by decide), rdE_c hnb 0 (1 - nI (0 + 1)) (by decide) (by decide), b2', bC_s, bd_e, nI_add, bd_e, ad_1]
    rw [f_X2_passTick_41, if_pos (show (2 : Int32) ≤ nI (0 + 1 + 1) by decide)]
  refine ⟨0 + c0 + c1, sc2, ar2, fr2, st2, sm2, fun x1 => ?_, ?_, b4.mono (fun s' => by (try dsimp only); split <;> split <;> omega), a5.trans b5⟩
  · have := key fu0 x1
    rw [← hfu] at this
    exact this
  · rw [f_X6_coming, hfu, f_X6_coming_4, if_neg (show ¬ (2 : Int32) ≤ 0 by decide)]
    refine (a3 0).trans ?_
    rw [f_X6_coming_4, if_neg (show ¬ (2 : Int32) ≤ nI (0 + 1) by decide)]
    refine (b3 (0 + (c0 - 0))).trans ?_
    rw [f_X6_coming_4, if_pos (show (2 : Int32) ≤ nI (1 + 1) by decide)]
    rfl
theorem tims_sim (hnb : 1 ≤ nb) (h : RX T K sc ar fr st) : ∃ sc' ar' st' st1, (∀ x, f_X2_passTick_81 nb FU 0 x 0 sc ar fr = f_X2_passTick_104 nb FU 0 x 0 sc' ar' fr) ∧ f_X6_timers 0 st wt sm ld ln = some (st1, wt, sm, ld, ln) ∧ f_X6_timers 1 st1 wt sm ld ln = some (st', wt, sm, ld, ln) ∧ RX T K sc' ar' fr st' ∧ Out sc ar fr sc' ar' fr := by
  obtain ⟨fu0, hfu⟩ := fu3
  obtain ⟨sc1, ar1, st1, a1, a2, a3, a4⟩ := timers_sim (wt := wt) (sm := sm) (ld := ld) (ln := ln) (s := 0) hnb (by decide) h
  obtain ⟨sc2, ar2, st2, b1, b2, b3, b4⟩ := timers_sim (wt := wt) (sm := sm) (ld := ld) (ln := ln) (s := 1) hnb (by decide) a3
  refine ⟨sc2, ar2, st2, st1, fun x => ?_, a2, b2, b3, a4.trans b4⟩
  have key : ∀ fu, f_X2_passTick_81 nb (fu + 1 + 1 + 1) 0 x (nI 0) sc ar fr = f_X2_passTick_104 nb FU 0 x 0 sc2 ar2 fr := by
    intro fu
    rw [f_X2_passTick_81, if_neg (show ¬ (2 : Int32) ≤ nI 0 by decide), gd_t (p_lk hnb), rdE_c hnb 0 (nI 0) rfl (by decide), a1, bCv_s, bd_e, ad_1]
    rw [f_X2_passTick_81, if_neg (show ¬ (2 : Int32) ≤ nI (0 + 1) by decide), gd_t (p_lk hnb), rdE_c hnb 1 (nI (0 + 1)) rfl (by decide), b1, bCv_s, bd_e, ad_1]
    rw [f_X2_passTick_81, if_pos (show (2 : Int32) ≤ nI (0 + 1 + 1) by decide)]
  have := key fu0
  rw [← hfu] at this
  exact this
theorem skip_m {x : Int32} (hq : wt ≠ 0 ∨ st 4 ≠ 0) : ∀ (m i fu : Nat), i + m = 2 → m < fu → f_X6_ticks_73 fu x (nI i) st wt sm ld ln = some (x, st, wt, sm, ld, ln) := by
  intro m
  induction m with
  | zero =>
    intro i fu h1 h2
    obtain ⟨fu, rfl⟩ : ∃ z, fu = z + 1 := ⟨fu - 1, by omega⟩
    rw [f_X6_ticks_73, if_pos (show (2 : Int32) ≤ nI i from nI_le (a := 2) (by omega) (by omega))]
  | succ m ih =>
    intro i fu h1 h2
    obtain ⟨fu, rfl⟩ : ∃ z, fu = z + 1 := ⟨fu - 1, by omega⟩
    rw [f_X6_ticks_73, if_neg (show ¬ (2 : Int32) ≤ nI i from nI_ge (b := 2) (by omega) (by decide))]
    have e' : f_X6_ticks_99 (f_X6_ticks_73 fu) x (nI i) st wt sm ld ln = some (x, st, wt, sm, ld, ln) := by
      rw [f_X6_ticks_99, bd_e, ad_1]
      exact ih (i + 1) fu (by omega) (by omega)
    by_cases w0 : wt = 0
    · rw [if_pos w0, rd_l 4 4 rfl (by decide), if_neg (hq.resolve_left (fun z => z w0)), e']
    · rw [if_neg w0, e']
theorem lays_sim (hnb : 1 ≤ nb) {x : Int32} : ∀ (m i fuC fuM : Nat) (sc ar : Nat → Nat → Int32) (fr : Nat → Nat → Nat) (st : Nat → Int32) (sm : Int64) (ld ln : Int32), i + m = 2 → m < fuC → m < fuM → RX T K sc ar fr st → ∃ sc' ar' fr' st' sm' ld' ln', f_X2_passTick_104 nb fuC 0 x (nI i) sc ar fr = some (x, sc', ar', fr') ∧ f_X6_ticks_73 fuM x (nI i) st 0 sm ld ln = some (x, st', 0, sm', ld', ln') ∧ RX T K sc' ar' fr' st' ∧ Out sc ar fr sc' ar' fr' := by
  intro m
  induction m with
  | zero =>
    intro i fuC fuM sc ar fr st sm ld ln h1 h2 h3 h
    obtain ⟨fuC, rfl⟩ : ∃ z, fuC = z + 1 := ⟨fuC - 1, by omega⟩
    obtain ⟨fuM, rfl⟩ : ∃ z, fuM = z + 1 := ⟨fuM - 1, by omega⟩
    have q : (2 : Int32) ≤ nI i := nI_le (a := 2) (by omega) (by omega)
    rw [f_X2_passTick_104, if_pos q, f_X6_ticks_73, if_pos q]
    exact ⟨_, _, _, _, _, _, _, rfl, rfl, h, Out.refl⟩
  | succ m ih =>
    intro i fuC fuM sc ar fr st sm ld ln h1 h2 h3 h
    have e4 : sc 0 4 = st 4 := h.1.2.2.2.1
    have q : ¬ (2 : Int32) ≤ nI i := nI_ge (b := 2) (by omega) (by decide)
    by_cases q4 : st 4 = 0
    · obtain ⟨fuC, rfl⟩ : ∃ z, fuC = z + 1 := ⟨fuC - 1, by omega⟩
      obtain ⟨fuM, rfl⟩ : ∃ z, fuM = z + 1 := ⟨fuM - 1, by omega⟩
      obtain ⟨sc1, ar1, fr1, st1, sm1, ld1, ln1, a1, a2, a3, a4⟩ := lay_sim (wt := 0) (sm := sm) (ld := ld) (ln := ln) hnb (s := i) (by omega) h
      obtain ⟨sc2, ar2, fr2, st2, sm2, ld2, ln2, b1, b2, b3, b4⟩ := ih (i + 1) fuC fuM sc1 ar1 fr1 st1 sm1 ld1 ln1 (by omega) (by omega) (by omega) a3
      refine ⟨sc2, ar2, fr2, st2, sm2, ld2, ln2, ?_, ?_, b3, a4.trans b4⟩
      · rw [f_X2_passTick_104, if_neg q, gd_t (p_lk hnb), e4, if_pos q4, rdE_c hnb i (nI i) rfl (by omega), rdW_c hnb i (nI i) rfl (by omega), a1, bCv_s, bd_e, ad_1, b1]
      · rw [f_X6_ticks_73, if_neg q, if_pos rfl, rd_l 4 4 rfl (by decide), if_pos q4, a2, bMv_s, f_X6_ticks_99, bd_e, ad_1, b2]
    · refine ⟨sc, ar, fr, st, sm, ld, ln, ?_, skip_m (Or.inr q4) (m + 1) i fuM h1 h3, h, Out.refl⟩
      obtain ⟨fuC, rfl⟩ : ∃ z, fuC = z + 1 := ⟨fuC - 1, by omega⟩
      rw [f_X2_passTick_104, if_neg q, gd_t (p_lk hnb), e4, if_neg q4]
theorem pass_sim (hnb : 1 ≤ nb) (hT : T + 1 ≤ 20000) (h : RX T (fun _ => 12 * T) sc ar fr st) : ∃ r sc' ar' fr' st' wt' sm' ld' ln', f_X2_passTick nb 0 sc ar fr = some (r, sc', ar', fr') ∧ f_X6_ticks st wt sm ld ln = some (r, st', wt', sm', ld', ln') ∧ RX (T + 1) (fun _ => 12 * (T + 1)) sc' ar' fr' st' ∧ Out sc ar fr sc' ar' fr' := by
  have H := h.tck hT
  have O1 : Out sc ar fr (up2 sc 0 3 (nI (T + 1))) ar fr := fun p hp => ⟨up2_ne (by omega), rfl, rfl⟩
  have e4 : sc 0 4 = st 4 := h.1.2.2.2.1
  have f4 : (up2 sc 0 3 (nI (T + 1))) 0 4 = st 4 := by rw [up2_o (by decide)]; exact e4
  have g4 : (upd st 3 (nI (T + 1))) 4 = st 4 := upd_o (by decide)
  rw [f_X2_passTick, gd_t (p_lk hnb), show sc 0 3 = nI T from h.1.2.2.1, ad_1, bd_e, bd_e, f4]
  rw [f_X6_ticks, rd_l 3 3 rfl (by decide), show st 3 = nI T from h.1.2.1, ad_1, bd_e, wr_l 3 3 rfl (by decide), rd_l 4 4 rfl (by decide), g4]
  by_cases q : st 4 ≤ 0
  · obtain ⟨c, sc1, ar1, fr1, st1, sm1, a1, a2, a3, a4⟩ := coming_sim (wt := 0) (sm := sm) (ld := ld) (ln := ln) hnb (fun s => by show 12 * T < 2 ^ 29; omega) H
    obtain ⟨sc2, ar2, st3, st2, b1, b2, b3, b4, b5⟩ := tims_sim (wt := 0) (sm := sm1) (ld := ld) (ln := ln) hnb a3
    obtain ⟨sc3, ar3, fr3, st4, sm4, ld4, ln4, d1, d2, d3, d4⟩ := lays_sim (x := nI c) hnb 2 0 FU FU sc2 ar2 fr1 st3 sm1 ld ln rfl (by decide) (by decide) b4
    have U : upd (upd st 3 (nI (T + 1))) 4 (st 4 - 0) = upd st 3 (nI (T + 1)) := upd_id (by rw [g4]; simp)
    refine ⟨nI c, sc3, ar3, fr3, st4, 0, sm4, ld4, ln4, ?_, ?_, d3.mono (fun s => ?_), (O1.trans a4).trans (b5.trans d4)⟩
    · rw [if_pos q, f_X2_passTick_22, if_pos rfl, f_X2_passTick_37, a1, if_pos rfl, b1]
      exact d1
    · rw [if_pos q, f_X6_ticks_25, gd_t (show bln 0 = true from rfl), rd_l 4 4 rfl (by decide), g4, if_pos rfl, f_X6_ticks_47, bd_e, wr_l 4 4 rfl (by decide), U, a2, bM_s, if_pos rfl, b2, bMv_s, b3, bMv_s, f_X6_ticks_71]
      exact d2
    · show 12 * T + 12 ≤ 12 * (T + 1); omega
  · have H2 := H.trn (st 4 - 1)
    obtain ⟨c, sc1, ar1, fr1, st1, sm1, a1, a2, a3, a4⟩ := coming_sim (wt := 1) (sm := sm) (ld := ld) (ln := ln) hnb (fun s => by show 12 * T < 2 ^ 29; omega) H2
    have O2 : Out (up2 sc 0 3 (nI (T + 1))) ar fr (up2 (up2 sc 0 3 (nI (T + 1))) 0 4 (st 4 - 1)) ar fr := fun p hp => ⟨up2_ne (by omega), rfl, rfl⟩
    refine ⟨nI c, sc1, ar1, fr1, st1, 1, sm1, ld, ln, ?_, ?_, a3.mono (fun s => ?_), (O1.trans O2).trans a4⟩
    · rw [if_neg q, f_X2_passTick_22, if_neg (by decide), gd_t (p_lk hnb), f4, bd_e, bd_e, f_X2_passTick_37, a1, if_neg (by decide)]
    · rw [if_neg q, f_X6_ticks_25, gd_t (show bln 1 = true from rfl), rd_l 4 4 rfl (by decide), g4, if_neg (by decide), f_X6_ticks_47, bd_e, wr_l 4 4 rfl (by decide), a2, bM_s, if_neg (by decide), f_X6_ticks_71]
      exact skip_m (Or.inl (by decide)) 2 0 FU rfl (by decide)
    · show 12 * T + 12 ≤ 12 * (T + 1); omega
end TP
