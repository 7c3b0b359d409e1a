theorem s32 (x : Int32) (y : Int32) (z : Int) (hy : y.toInt = z) : (x < y ↔ x.toInt < z) ∧ (x ≤ y ↔ x.toInt ≤ z) ∧ (y ≤ x ↔ z ≤ x.toInt) ∧ (y < x ↔ z < x.toInt) ∧ (x = y ↔ x.toInt = z) := by
  rw [Int32.lt_iff_toInt_lt, Int32.le_iff_toInt_le, Int32.le_iff_toInt_le, Int32.lt_iff_toInt_lt, ← Int32.toInt_inj, hy]
  exact ⟨Iff.rfl, Iff.rfl, Iff.rfl, Iff.rfl, Iff.rfl⟩
theorem RL_.setG {sc sc' ar : Nat → Nat → Int32} {fr : Nat → Nat → Nat} {st st' : Nat → Int32} (h : RL_ 0 sc ar fr st) (hG : ∀ T, RG 0 T sc ar st → RG 0 T sc' ar st') (hst : ∀ i, 32 ≤ i → st' i = st i) (hsc : ∀ p, p ≠ 0 → sc' p = sc p) : RL_ 0 sc' ar fr st' := by
  obtain ⟨T, hg, he, hw⟩ := h
  refine ⟨T, hG T hg, fun s hs => ?_, fun w hw' => (hw w hw').cong hw' (fun i a b => hst i (by omega)) (fun p a b => hsc p (by omega)) (fun p a b => rfl) rfl⟩
  obtain ⟨o, n, u, g, t, d, w, v, hv, h⟩ := he s hs
  exact ⟨o, n, u, g, t, d, w, v, hv, h.cong hs (fun i hi => hst i (by omega)) (hsc _ (by omega)) (fun p a b => rfl)⟩
theorem sim_set {nb : Nat} {kp : Nat → Option Nat} {sc ar : Nat → Nat → Int32} {fr : Nat → Nat → Nat} {st kpM ik : Nat → Int32} (hR : Rel nb kp sc ar fr st kpM ik) (x1 : Int32) (x2 : Int32) (wt : Int32) (sm : Int64) (ld ln : Int32) : ∃ r sc' ar' fr' st' wt' sm' ld' ln', f_X5_set nb x1 x2 sc ar fr = some (r, sc', ar', fr') ∧ f_X6_set x1 x2 st wt sm ld ln = some (r, st', wt', sm', ld', ln') ∧ Rel nb kp sc' ar' fr' st' kpM ik := by
  have g1 := p_lk hR.1
  obtain ⟨T, hg, -, -⟩ := id hR.2.1
  obtain ⟨-, -, -, -, h5, h6, h7, -, -⟩ := hg
  have i1 := in_spec x2 (lo := 1) (hi := 6) 1 6 rfl rfl
  have i2 := in_spec x2 (lo := 1) (hi := 60) 1 60 rfl rfl
  have i3 := in_spec x2 (lo := 0) (hi := 9) 0 9 rfl rfl
  have b1 := (s32 x2 1 1 rfl).1
  have b6 := (s32 x2 6 6 rfl).2.1
  have b60 := (s32 x2 60 60 rfl).2.1
  have b0 := (s32 x2 0 0 rfl).1
  have b9 := (s32 x2 9 9 rfl).2.1
  have key : ∀ (j k : Nat) (v : Int32), (k = 0 ∧ j = 5) ∨ (k = 1 ∧ j = 6) ∨ (k = 2 ∧ j = 7) → Rel nb kp (up2 sc 0 j v) ar fr (upd st k v) kpM ik := by
    intro j k v hjk
    refine hR.step (hR.2.1.setG (fun T h => ?_) (fun i hi => upd_o (by omega)) (fun p hp => up2_ne hp)) (fun p hp => up2_ne (by omega)) (fun _ _ => rfl) (fun _ _ => rfl)
    obtain ⟨a0, a1, a2, a3, a4, a5, a6, a7, a8⟩ := h
    refine ⟨a0, ?_, ?_, ?_, ?_, ?_, ?_, fun j' p q => ?_, fun j' p q => ?_⟩
    · rw [upd_o (by omega)]; exact a1
    · rw [up2_o (by omega)]; exact a2
    · rw [up2_o (by omega), upd_o (by omega)]; exact a3
    · rcases hjk with ⟨rfl, rfl⟩ | ⟨rfl, rfl⟩ | ⟨rfl, rfl⟩
      · rw [up2_s, upd_s]
      · rw [up2_o (by omega), upd_o (by omega)]; exact a4
      · rw [up2_o (by omega), upd_o (by omega)]; exact a4
    · rcases hjk with ⟨rfl, rfl⟩ | ⟨rfl, rfl⟩ | ⟨rfl, rfl⟩
      · rw [up2_o (by omega), upd_o (by omega)]; exact a5
      · rw [up2_s, upd_s]
      · rw [up2_o (by omega), upd_o (by omega)]; exact a5
    · rcases hjk with ⟨rfl, rfl⟩ | ⟨rfl, rfl⟩ | ⟨rfl, rfl⟩
      · rw [up2_o (by omega), upd_o (by omega)]; exact a6
      · rw [up2_o (by omega), upd_o (by omega)]; exact a6
      · rw [up2_s, upd_s]
    · rw [upd_o (by omega)]; exact a7 j' p q
    · rw [upd_o (by omega)]; exact a8 j' p q
  by_cases c0 : x1 = 0
  · subst c0
    by_cases hin : 1 ≤ x2.toInt ∧ x2.toInt ≤ 6
    · refine ⟨st 0, up2 sc 0 5 x2, ar, fr, upd st 0 x2, wt, sm, ld, ln, ?_, ?_, key 5 0 x2 (by omega)⟩
      · rw [f_X5_set, if_pos rfl, if_neg (fun q => by have := b1.mp q; omega), if_pos (b6.mpr hin.2), gd_t g1]
        simp only [f_X2_changeDelay, gd_t g1, bd_e, bC_s, h5]
      · rw [f_X6_set, if_pos rfl, i1, if_pos hin, bx_s, if_neg (by decide), f_X6_set_50, f_X6_set_55, if_neg (by decide)]
        rw [show (0 : Int32) = nI 0 from rfl, rd_n (by decide) (by decide), wr_n (by decide) (by decide)]
    · refine ⟨-1, sc, ar, fr, st, wt, sm, ld, ln, ?_, ?_, hR⟩
      · rw [f_X5_set, if_pos rfl]
        by_cases q : x2 < 1
        · rw [if_pos q]
        · rw [if_neg q, if_neg (fun z => hin ⟨by have := b6.mp z; have : ¬ x2.toInt < 1 := fun w => q (b1.mpr w); omega, b6.mp z⟩)]
      · rw [f_X6_set, if_pos rfl, i1, if_neg hin, bx_s, if_pos rfl, f_X6_set_16, if_neg (by decide), f_X6_set_33, if_neg (by decide), f_X6_set_54, f_X6_set_55, if_pos rfl]
  by_cases c1 : x1 = 1
  · subst c1
    by_cases hin : 1 ≤ x2.toInt ∧ x2.toInt ≤ 60
    · refine ⟨st 1, up2 sc 0 6 x2, ar, fr, upd st 1 x2, wt, sm, ld, ln, ?_, ?_, key 6 1 x2 (by omega)⟩
      · rw [f_X5_set, if_neg (by decide), if_pos rfl, if_neg (fun q => by have := b1.mp q; omega), if_pos (b60.mpr hin.2), gd_t g1]
        simp only [f_X2_changePatience, gd_t g1, bd_e, bC_s, h6]
      · rw [f_X6_set, if_neg (by decide), f_X6_set_16, if_pos rfl, i2, if_pos hin, bx_s, if_neg (by decide), f_X6_set_50, f_X6_set_55, if_neg (by decide)]
        rw [show (1 : Int32) = nI 1 from rfl, rd_n (by decide) (by decide), wr_n (by decide) (by decide)]
    · refine ⟨-1, sc, ar, fr, st, wt, sm, ld, ln, ?_, ?_, hR⟩
      · rw [f_X5_set, if_neg (by decide), if_pos rfl]
        by_cases q : x2 < 1
        · rw [if_pos q]
        · rw [if_neg q, if_neg (fun z => hin ⟨by have := b60.mp z; have : ¬ x2.toInt < 1 := fun w => q (b1.mpr w); omega, b60.mp z⟩)]
      · rw [f_X6_set, if_neg (by decide), f_X6_set_16, if_pos rfl, i2, if_neg hin, bx_s, if_pos rfl, f_X6_set_33, if_neg (by decide), f_X6_set_54, f_X6_set_55, if_pos rfl]
  by_cases c2 : x1 = 2
  · subst c2
    by_cases hin : 0 ≤ x2.toInt ∧ x2.toInt ≤ 9
    · refine ⟨st 2, up2 sc 0 7 x2, ar, fr, upd st 2 x2, wt, sm, ld, ln, ?_, ?_, key 7 2 x2 (by omega)⟩
      · rw [f_X5_set, if_neg (by decide), if_neg (by decide), if_pos rfl, if_neg (fun q => by have := b0.mp q; omega), if_pos (b9.mpr hin.2), gd_t g1]
        simp only [f_X2_changeAckDelay, gd_t g1, bd_e, bC_s, h7]
      · rw [f_X6_set, if_neg (by decide), f_X6_set_16, if_neg (by decide), f_X6_set_33, if_pos rfl, i3, if_pos hin, bx_s, if_neg (by decide), f_X6_set_50, f_X6_set_55, if_neg (by decide)]
        rw [show (2 : Int32) = nI 2 from rfl, rd_n (by decide) (by decide), wr_n (by decide) (by decide)]
    · refine ⟨-1, sc, ar, fr, st, wt, sm, ld, ln, ?_, ?_, hR⟩
      · rw [f_X5_set, if_neg (by decide), if_neg (by decide), if_pos rfl]
        by_cases q : x2 < 0
        · rw [if_pos q]
        · rw [if_neg q, if_neg (fun z => hin ⟨by have := b9.mp z; have : ¬ x2.toInt < 0 := fun w => q (b0.mpr w); omega, b9.mp z⟩)]
      · rw [f_X6_set, if_neg (by decide), f_X6_set_16, if_neg (by decide), f_X6_set_33, if_pos rfl, i3, if_neg hin, bx_s, if_pos rfl, f_X6_set_54, f_X6_set_55, if_pos rfl]
  · refine ⟨-1, sc, ar, fr, st, wt, sm, ld, ln, ?_, ?_, hR⟩
    · rw [f_X5_set, if_neg c0, if_neg c1, if_neg c2]
    · rw [f_X6_set, if_neg c0, f_X6_set_16, if_neg c1, f_X6_set_33, if_neg c2, f_X6_set_54, f_X6_set_55, if_pos rfl]
/-- an end's numbers at hand -/
theorem Rel.at {nb : Nat} {kp : Nat → Option Nat} {sc ar : Nat → Nat → Int32} {fr : Nat → Nat → Nat} {st kpM ik : Nat → Int32} (hR : Rel nb kp sc ar fr st kpM ik) {s : Nat} (hs : s < 2) : ∃ T o n u g t d w v, T ≤ 20000 ∧ v ≤ 12 * T ∧ RE 0 s o n u g t d w v sc ar st := by
  obtain ⟨T, hg, he, -⟩ := hR.2.1
  obtain ⟨o, n, u, g, t, d, w, v, hv, h⟩ := he s hs
  exact ⟨T, o, n, u, g, t, d, w, v, hg.1, hv, h⟩
theorem waiting_m {s a b : Nat} (hs : s < 2) {st : Nat → Int32} {wt : Int32} {sm : Int64} {ld ln : Int32} (h1 : st (100 + 100 * s) = nI a) (h2 : st (101 + 100 * s) = nI b) (h : b ≤ a) : f_X6_waiting (nI s) st wt sm ld ln = some (nI (a - b), st, wt, sm, ld, ln) := by
  simp (disch := omega) only [f_X6_waiting, endAt_s, bx_s, ad_0, ad_1, rd_n]
  rw [show 100 + 100 * s + 0 = 100 + 100 * s by omega, show 100 + 100 * s + 1 = 101 + 100 * s by omega, h1, h2, pk_sub h]
theorem waiting_c {nb p a b : Nat} {sc ar : Nat → Nat → Int32} {fr : Nat → Nat → Nat} (hp : pk nb 0 p = true) (h1 : sc p 3 = nI a) (h2 : sc p 4 = nI b) (h : b ≤ a) : f_X0_waiting nb p sc ar fr = some (nI (a - b), sc, ar, fr) := by
  rw [f_X0_waiting, gd_t hp, h1, h2, pk_sub h]
theorem unacked_c {nb p a b : Nat} {sc ar : Nat → Nat → Int32} {fr : Nat → Nat → Nat} (hp : pk nb 0 p = true) (h1 : sc p 4 = nI a) (h2 : sc p 5 = nI b) (h : b ≤ a) : f_X0_unacked nb p sc ar fr = some (nI (a - b), sc, ar, fr) := by
  rw [f_X0_unacked, gd_t hp, h1, h2, pk_sub h]
theorem next_c {nb p a : Nat} {sc ar : Nat → Nat → Int32} {fr : Nat → Nat → Nat} (hp : pk nb 0 p = true) (h1 : sc p 4 = nI a) (h : a < 2 ^ 31) : f_X0_nextNumber nb p sc ar fr = some (nI (a % 64), sc, ar, fr) := by
  rw [f_X0_nextNumber, gd_t hp, h1, (by64_n h).1, bx_s]
theorem acked_c {nb p a : Nat} {sc ar : Nat → Nat → Int32} {fr : Nat → Nat → Nat} (hp : pk nb 0 p = true) (h1 : sc p 5 = nI a) (h : a < 2 ^ 30) : f_X0_ackedNumber nb p sc ar fr = some (nI ((a + 63) % 64), sc, ar, fr) := by
  rw [f_X0_ackedNumber, gd_t hp, h1, show (1 : Int32) = nI 1 from rfl, (by64_d h (by decide)).1, bx_s]
  congr 3
  omega
theorem sim_end {nb : Nat} {kp : Nat → Option Nat} {sc ar : Nat → Nat → Int32} {fr : Nat → Nat → Nat} {st kpM ik : Nat → Int32} (hR : Rel nb kp sc ar fr st kpM ik) (x1 : Int32) (x2 : Int32) (wt : Int32) (sm : Int64) (ld ln : Int32) : ∃ r sc' ar' fr' st' wt' sm' ld' ln', f_X5_end nb x1 x2 sc ar fr = some (r, sc', ar', fr') ∧ f_X6_end x1 x2 st wt sm ld ln = some (r, st', wt', sm', ld', ln') ∧ Rel nb kp sc' ar' fr' st' kpM ik := by
  rcases side x1 with ⟨s, hs, rfl⟩ | ⟨e6, e5⟩
  · have hnb := hR.1
    have g1 := p_lk hnb
    have g2 := p_ends hnb
    have g3 := p_end hnb hs
    obtain ⟨T, o, n, u, g, t, d, w, v, hT, hv, h1, h2, h3, h4, h5, h6, h7⟩ := hR.at hs
    obtain ⟨a0, a1, a2, a3, a5, a6, a7, a11, a13⟩ := h2
    obtain ⟨b1, b2, b3⟩ := h3
    obtain ⟨c1, c3, c4, c5, c6, c7, c8, c9, c10, c11, c12, c13, c15⟩ := h4
    simp only [Nat.zero_add] at c1 c3 c4 c5 c6 c7 c8 c9 c10 c11 c12 c13 c15
    suffices h : ∃ r, f_X0_tell nb (2 + 8 * s) x2 sc ar fr = some (r, sc, ar, fr) ∧ f_X6_end (nI s) x2 st wt sm ld ln = some (r, st, wt, sm, ld, ln) by
      obtain ⟨r, hr1, hr2⟩ := h
      refine ⟨r, sc, ar, fr, st, wt, sm, ld, ln, ?_, hr2, hR⟩
      simp (disch := first | assumption | omega) only [f_X5_end, noSide_s, bx_s, i00, if_true, gd_t, Nat.zero_add, Nat.reduceAdd, nI_clamp, rdR_n, hr1, bC_s]
    rw [f_X6_end, isEnd_s hs, bx_s, if_neg (by decide), endAt_s, bx_s, f_X0_tell]
    by_cases k0 : x2 = 0
    · rw [if_pos k0, if_pos k0, gd_t g3, waiting_c g3 c3 c4 (by omega), waiting_m hs a0 a1 (by omega), bC_s, bM_s]
      exact ⟨_, rfl, rfl⟩
    rw [if_neg k0, if_neg k0]
    by_cases k1 : x2 = 1
    · rw [if_pos k1, if_pos k1, gd_t g3, unacked_c g3 c4 c5 (by omega), bC_s, ad_2, rd_n (by omega) (by decide), show 100 + 100 * s + 2 = 102 + 100 * s by omega, a2, show n - (n - u) = u by omega]
      exact ⟨_, rfl, rfl⟩
    rw [if_neg k1, if_neg k1]
    by_cases k2 : x2 = 2
    · rw [if_pos k2, if_pos k2, gd_t g3, next_c g3 c4 (by omega), bC_s, ad_1, rd_n (by omega) (by decide), show 100 + 100 * s + 1 = 101 + 100 * s by omega, a1, (by64_n (by omega)).2, bx_s]
      exact ⟨_, rfl, rfl⟩
    rw [if_neg k2, if_neg k2]
    by_cases k3 : x2 = 3
    · rw [if_pos k3, if_pos k3, gd_t g3, acked_c g3 c5 (by omega), bC_s, ad_3, rd_n (by omega) (by decide), show 100 + 100 * s + 3 = 103 + 100 * s by omega, a3]
      exact ⟨_, rfl, rfl⟩
    rw [if_neg k3, if_neg k3]
    by_cases k4 : x2 = 4
    · rw [if_pos k4, if_pos k4, gd_t g3, ad_4, rd_n (by omega) (by decide), show 100 + 100 * s + 4 = 104 + 100 * s by omega, c7]
      exact ⟨_, rfl, rfl⟩
    rw [if_neg k4, if_neg k4]
    by_cases k5 : x2 = 5
    · rw [if_pos k5, if_pos k5, gd_t g3, ad_5, rd_n (by omega) (by decide), show 100 + 100 * s + 5 = 105 + 100 * s by omega, c8, a5]
      exact ⟨_, rfl, rfl⟩
    rw [if_neg k5, if_neg k5]
    by_cases k6 : x2 = 6
    · rw [if_pos k6, if_pos k6, gd_t g3, ad_6, rd_n (by omega) (by decide), show 100 + 100 * s + 6 = 106 + 100 * s by omega, c9, a6]
      exact ⟨_, rfl, rfl⟩
    rw [if_neg k6, if_neg k6]
    by_cases k7 : x2 = 7
    · rw [if_pos k7, if_pos k7, gd_t g3, ad_7, rd_n (by omega) (by decide), show 100 + 100 * s + 7 = 107 + 100 * s by omega, c10, a7]
      exact ⟨_, rfl, rfl⟩
    rw [if_neg k7, if_neg k7]
    by_cases k8 : x2 = 8
    · rw [if_pos k8, if_pos k8, gd_t g3, ad_8, rd_n (by omega) (by decide), show 100 + 100 * s + 8 = 108 + 100 * s by omega, c11, asNum_b b1, bx_s]
      exact ⟨_, rfl, rfl⟩
    rw [if_neg k8, if_neg k8]
    by_cases k9 : x2 = 9
    · rw [if_pos k9, if_pos k9, gd_t g3, ad_9, rd_n (by omega) (by decide), show 100 + 100 * s + 9 = 109 + 100 * s by omega, c13]
      exact ⟨_, rfl, rfl⟩
    rw [if_neg k9, if_neg k9]
    by_cases k10 : x2 = 10
    · rw [if_pos k10, if_pos k10, gd_t g3, ad_10, rd_n (by omega) (by decide), show 100 + 100 * s + 10 = 110 + 100 * s by omega, c12, asNum_b b2, bx_s]
      exact ⟨_, rfl, rfl⟩
    rw [if_neg k10, if_neg k10]
    by_cases k11 : x2 = 11
    · rw [if_pos k11, if_pos k11, gd_t g3, ad_0, rd_n (by omega) (by decide), Nat.add_zero, c3, a0]
      exact ⟨_, rfl, rfl⟩
    rw [if_neg k11, if_neg k11]
    by_cases k12 : x2 = 12
    · rw [if_pos k12, if_pos k12, gd_t g3, ad_11, rd_n (by omega) (by decide), show 100 + 100 * s + 11 = 111 + 100 * s by omega, c15, a11]
      exact ⟨_, rfl, rfl⟩
    rw [if_neg k12, if_neg k12]
    by_cases k13 : x2 = 13
    · rw [if_pos k13, if_pos k13, gd_t g3, ad_13, rd_n (by omega) (by decide), show 100 + 100 * s + 13 = 113 + 100 * s by omega, c1, a13]
      exact ⟨_, rfl, rfl⟩
    rw [if_neg k13, if_neg k13]
    exact ⟨_, rfl, rfl⟩
  · exact ⟨-1, sc, ar, fr, st, wt, sm, ld, ln, by simp only [f_X5_end, e5, bx_s, i10, if_false], by simp only [f_X6_end, e6, bx_s, i00, if_true], hR⟩
