/-- a frame read, on both sides -/
theorem RF.read {nb p f : Nat} {sc ar : Nat → Nat → Int32} {fr : Nat → Nat → Nat} {st : Nat → Int32} (h : RF p f sc ar st) (hp : pk nb 1 p = true) (hp7 : pk nb 7 (p + 1) = true) (hl : lnA (p + 1) = 32) (hf : f + 40 < 8000) (wt : Int32) (sm : Int64) (ld ln : Int32) : ∃ (n : Nat) (b : Nat → Nat) (sm' : Int64), (n = 6 ∨ (9 ≤ n ∧ n ≤ 32)) ∧ sc p 1 = nI n ∧ st f = nI n ∧ (∀ k, k < n → b k < 256 ∧ ar (p + 1) k = nI (b k) ∧ st (f + 2 + k) = nI (b k)) ∧ f_X1_readAs nb p sc ar fr = some (readS n b, sc, ar, fr) ∧ f_X6_read (nI f) st wt sm ld ln = some (readS n b, st, wt, sm', ld, ln) := by
  obtain ⟨n, h1, h2, h3, h4, h5⟩ := h
  have hb : ∀ k, k < n → bv (st (f + 2 + k)) < 256 ∧ ar (p + 1) k = nI (bv (st (f + 2 + k))) ∧ st (f + 2 + k) = nI (bv (st (f + 2 + k))) := by
    intro k hk
    obtain ⟨q1, q2⟩ := h5 k hk
    obtain ⟨q3, q4⟩ := isB_bv q2
    exact ⟨q3, by rw [q1]; exact q4, q4⟩
  obtain ⟨sm', e⟩ := read_m (wt := wt) (sm := sm) (ld := ld) (ln := ln) (b := fun k => bv (st (f + 2 + k))) hf h1 h3 (fun k hk => ⟨(hb k hk).1, (hb k hk).2.2⟩)
  exact ⟨n, fun k => bv (st (f + 2 + k)), sm', h1, h2, h3, hb, readAs_c hp hp7 hl h1 h2 (fun k hk => ⟨(hb k hk).1, (hb k hk).2.1⟩), e⟩
theorem sim_wire {nb : Nat} {kp : Nat → Option Nat} {sc ar : Nat → Nat → Int32} {fr : Nat → Nat → Nat} {st kpM ik : Nat → Int32} (hR : Rel nb kp sc ar fr st kpM ik) (x1 : Int32) (x2 : Int32) (x3 : Int32) (wt : Int32) (sm : Int64) (ld ln : Int32) : ∃ r sc' ar' fr' st' wt' sm' ld' ln', f_X5_wire nb x1 x2 x3 sc ar fr = some (r, sc', ar', fr') ∧ f_X6_wire x1 x2 x3 st wt sm ld ln = some (r, st', wt', sm', ld', ln') ∧ Rel nb kp sc' ar' fr' st' kpM ik := by
  have hnb := hR.1
  rcases side x1 with ⟨s, hs, rfl⟩ | ⟨e6, e5⟩
  · rw [f_X5_wire, noSide_s hs, bx_s, if_pos rfl, f_X6_wire, isEnd_s hs, bx_s, if_neg ne10]
    by_cases hm1 : x2 = -1
    · obtain ⟨L, hL, g1, g2, -⟩ := hR.2.1.choose_spec.2.2 s hs
      simp only [Nat.zero_add] at g1
      rw [if_pos hm1, if_pos hm1, gd_t (p_lk hnb), rdR_n (p_wires hnb) hs (by decide), nI_clamp (by omega), show 0 + 18 + 1 + 26 * s = 19 + 26 * s by omega, gd_t (p_wire hnb hs), g1, many_m hs, bM_s, g2]
      exact ⟨_, _, _, _, _, _, _, _, _, rfl, rfl, hR⟩
    rw [if_neg hm1, if_neg hm1]
    rcases frm hR (nI s) x2 wt sm ld ln with ⟨w, j, L, hw, hj, hL, hsw, rfl, g1, g2, e5, e6⟩ | ⟨e5, e6⟩
    · have hww : s = w := (nI_eq (by omega) (by omega)).mp hsw
      subst hww
      obtain ⟨n, hn, s1, s2, hp4, hp5, hp6⟩ := hR.2.1.choose_spec.2.2 s hs
      simp only [Nat.zero_add] at s1 hp4 hp5 hp6
      have hnL : n = L := (nI_eq (by omega) (by omega)).mp (s2.symm.trans g2)
      subst hnL
      obtain ⟨m, hm, q1⟩ := hp4 j (by omega)
      have hRF := hp6 j hj
      rw [q1] at hRF
      have hp7 : pk nb 7 (21 + 26 * s + 2 * m + 1) = true := by rw [show 21 + 26 * s + 2 * m + 1 = 22 + 26 * s + 2 * m by omega]; exact p_frb hnb hs hm
      have hl : lnA (21 + 26 * s + 2 * m + 1) = 32 := by rw [show 21 + 26 * s + 2 * m + 1 = 22 + 26 * s + 2 * m by omega]; exact l_frb hs hm
      obtain ⟨len, b, sm', k1, k2, k3, k5, er, em⟩ := hRF.read (nb := nb) (fr := fr) (p_frm hnb hs hm) hp7 hl (by omega) wt sm ld ln
      have k4 : sc (21 + 26 * s + 2 * m) 2 = st (301 + 500 * s + 36 * j + 1) := hRF.choose_spec.2.2.2.1
      rw [e5, bC_s, if_pos rfl, e6, bM_s, if_neg ne10, in_spec x3 (lo := 0) (hi := 35) 0 35 rfl rfl, bx_s]
      have b0 := (s32 x3 0 0 rfl).1
      have b35 := (s32 x3 35 35 rfl).2.1
      by_cases h0 : x3 < 0
      · have := b0.mp h0
        rw [if_pos h0, if_neg (show ¬ (0 ≤ x3.toInt ∧ x3.toInt ≤ 35) by omega), if_pos rfl]
        exact ⟨_, _, _, _, _, _, _, _, _, rfl, rfl, hR⟩
      obtain ⟨k, hk, rfl⟩ := nI_of h0
      rw [if_neg h0, nI_toInt hk]
      by_cases h35 : k ≤ 35
      · rw [if_pos (show nI k ≤ 35 from nI_le (b := 35) h35 (by decide)), if_pos (show (0 : Int) ≤ k ∧ (k : Int) ≤ 35 by omega), if_neg ne10, gd_t (p_lk hnb), rdR_n (p_wires hnb) hs (by decide), nI_clamp (by omega), show 0 + 18 + 1 + 26 * s = 19 + 26 * s by omega, gd_t (p_wire hnb hs), show 19 + 26 * s + 1 = 20 + 26 * s by omega, rdR_n (p_frs hnb hs) (by omega) (by decide), nI_clamp (by omega), q1, frameAt_s, bx_s]
        have ne : ∀ c, k ≠ c → c < 100 → ¬ nI k = nI c := fun c h hc q => h ((nI_eq hk (by omega)).mp q)
        by_cases c0 : k = 0
        · subst c0
          rw [if_pos (show nI 0 = (0 : Int32) from rfl), if_pos (show nI 0 = (0 : Int32) from rfl), gd_t (p_frm hnb hs hm), k2, rd_n (by omega) (by decide), k3]
          exact ⟨_, _, _, _, _, _, _, _, _, rfl, rfl, hR⟩
        rw [if_neg (show ¬ nI k = (0 : Int32) from ne 0 c0 (by decide)), if_neg (show ¬ nI k = (0 : Int32) from ne 0 c0 (by decide))]
        by_cases c1 : k = 1
        · subst c1
          obtain ⟨T, hg, -, -⟩ := id hR.2.1
          rw [if_pos (show nI 1 = (1 : Int32) from rfl), if_pos (show nI 1 = (1 : Int32) from rfl), gd_t (p_frm hnb hs hm), k4, hg.2.2.1, ad_1, rd_n (by omega) (by decide), show (3 : Int32) = nI 3 from rfl, rd_n (by decide) (by decide), hg.2.1]
          exact ⟨_, _, _, _, _, _, _, _, _, rfl, rfl, hR⟩
        rw [if_neg (show ¬ nI k = (1 : Int32) from ne 1 c1 (by decide)), if_neg (show ¬ nI k = (1 : Int32) from ne 1 c1 (by decide))]
        by_cases c2 : k = 2
        · subst c2
          rw [if_pos (show nI 2 = (2 : Int32) from rfl), if_pos (show nI 2 = (2 : Int32) from rfl), gd_t (p_frm hnb hs hm), er, bC_s, em, bM_s]
          exact ⟨_, _, _, _, _, _, _, _, _, rfl, rfl, hR⟩
        rw [if_neg (show ¬ nI k = (2 : Int32) from ne 2 c2 (by decide)), if_neg (show ¬ nI k = (2 : Int32) from ne 2 c2 (by decide)), gd_t (p_frm hnb hs hm), k2, rd_n (by omega) (by decide), k3, show nI k - 3 = nI (k - 3) from pk_sub (b := 3) (by omega)]
        by_cases c4 : len ≤ k - 3
        · rw [if_pos (nI_le c4 (by omega)), if_pos (nI_le c4 (by omega))]
          exact ⟨_, _, _, _, _, _, _, _, _, rfl, rfl, hR⟩
        · obtain ⟨k6, k7, k8⟩ := k5 (k - 3) (by omega)
          rw [if_neg (nI_ge (by omega) (by omega)), if_neg (nI_ge (by omega) (by omega)), rdA_n hp7 (by omega), k7, ad_2, nI_add, show (3 : Int32) = nI 3 from rfl, pk_sub (by omega), rd_n (by omega) (by decide), show 301 + 500 * s + 36 * j + 2 + k - 3 = 301 + 500 * s + 36 * j + 2 + (k - 3) by omega, k8]
          exact ⟨_, _, _, _, _, _, _, _, _, rfl, rfl, hR⟩
      · rw [if_neg (show ¬ nI k ≤ 35 from nI_ge (a := 35) (by omega) (by omega)), if_neg (show ¬ ((0 : Int) ≤ k ∧ (k : Int) ≤ 35) by omega), if_pos rfl]
        exact ⟨_, _, _, _, _, _, _, _, _, rfl, rfl, hR⟩
    · rw [e5, bC_s, if_neg ne10, e6, bM_s, if_pos rfl]
      exact ⟨_, _, _, _, _, _, _, _, _, rfl, rfl, hR⟩
  · exact ⟨-1, sc, ar, fr, st, wt, sm, ld, ln, by simp only [f_X5_wire, e5, bx_s, i10, if_false], by simp only [f_X6_wire, e6, bx_s, i00, if_true], hR⟩
theorem Rel_init : Rel 1 (fun _ => none) sc0 (fun _ _ => 0) fr0 (upd (upd (upd (upd (upd (upd (upd (fun _ => 0) 0 1) 1 12) 2 2) 103 63) 109 (-4)) 203 63) 209 (-4)) (fun _ => 0) (fun _ => 0) := by
  refine ⟨Nat.le_refl _, ⟨0, ?_, fun s hs => ⟨0, 0, 0, 0, 0, 0, 0, 0, by omega, ?_⟩, fun w hw => ⟨0, by decide, ?_, ?_, fun j hj => ⟨j, hj, ?_⟩, fun i j hi hj h => ?_, fun j hj => absurd hj (by omega)⟩⟩, fun i j hi hk hj => ?_, fun _ _ => rfl, fun _ _ => Or.inl ⟨rfl, rfl⟩, fun p h => by cases h⟩
  · refine ⟨by decide, rfl, rfl, rfl, rfl, rfl, rfl, fun j a b => ?_, fun j a b => ?_⟩
    · simp (disch := omega) only [upd_o]
    · simp (disch := omega) only [upd_o]
  · rcases (show s = 0 ∨ s = 1 by omega) with rfl | rfl
    · exact ⟨by omega, ⟨rfl, rfl, rfl, rfl, rfl, rfl, rfl, rfl, rfl⟩, ⟨rfl, rfl, rfl⟩, ⟨rfl, rfl, rfl, rfl, rfl, rfl, rfl, rfl, rfl, rfl, rfl, rfl, rfl⟩, fun k hk => absurd hk (by omega), fun i _ hi => absurd hi (by omega), fun i hi _ => absurd hi (by omega)⟩
    · exact ⟨by omega, ⟨rfl, rfl, rfl, rfl, rfl, rfl, rfl, rfl, rfl⟩, ⟨rfl, rfl, rfl⟩, ⟨rfl, rfl, rfl, rfl, rfl, rfl, rfl, rfl, rfl, rfl, rfl, rfl, rfl⟩, fun k hk => absurd hk (by omega), fun i _ hi => absurd hi (by omega), fun i hi _ => absurd hi (by omega)⟩
  · rcases (show w = 0 ∨ w = 1 by omega) with rfl | rfl <;> rfl
  · rcases (show w = 0 ∨ w = 1 by omega) with rfl | rfl <;> rfl
  · unfold fr0; omega
  · unfold fr0 at h; omega
  · have hkd : ∀ r, r < 72 → kdL.getD r 99 = 10 → r = 20 ∨ r = 46 := by decide
    have hk' : kdL.getD i 99 = 10 := by unfold kd at hk; rw [Nat.mod_eq_of_lt (by omega)] at hk; exact hk
    have := hkd i (by omega) hk'
    unfold fr0; omega
