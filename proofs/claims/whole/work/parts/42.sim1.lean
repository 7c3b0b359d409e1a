theorem ad_0 (a : Nat) : nI a + 0 = nI (a + 0) := nI_add a 0
theorem ad_1 (a : Nat) : nI a + 1 = nI (a + 1) := nI_add a 1
theorem ad_2 (a : Nat) : nI a + 2 = nI (a + 2) := nI_add a 2
theorem ad_3 (a : Nat) : nI a + 3 = nI (a + 3) := nI_add a 3
theorem ad_4 (a : Nat) : nI a + 4 = nI (a + 4) := nI_add a 4
theorem ad_5 (a : Nat) : nI a + 5 = nI (a + 5) := nI_add a 5
theorem ad_6 (a : Nat) : nI a + 6 = nI (a + 6) := nI_add a 6
theorem ad_7 (a : Nat) : nI a + 7 = nI (a + 7) := nI_add a 7
theorem ad_8 (a : Nat) : nI a + 8 = nI (a + 8) := nI_add a 8
theorem ad_9 (a : Nat) : nI a + 9 = nI (a + 9) := nI_add a 9
theorem ad_10 (a : Nat) : nI a + 10 = nI (a + 10) := nI_add a 10
theorem ad_11 (a : Nat) : nI a + 11 = nI (a + 11) := nI_add a 11
theorem ad_12 (a : Nat) : nI a + 12 = nI (a + 12) := nI_add a 12
theorem ad_13 (a : Nat) : nI a + 13 = nI (a + 13) := nI_add a 13
theorem ad_14 (a : Nat) : nI a + 14 = nI (a + 14) := nI_add a 14
theorem ad_15 (a : Nat) : nI a + 15 = nI (a + 15) := nI_add a 15
theorem ad_16 (a : Nat) : nI a + 16 = nI (a + 16) := nI_add a 16
theorem ad_17 (a : Nat) : nI a + 17 = nI (a + 17) := nI_add a 17
theorem ad_18 (a : Nat) : nI a + 18 = nI (a + 18) := nI_add a 18
theorem ad_19 (a : Nat) : nI a + 19 = nI (a + 19) := nI_add a 19
theorem ad_20 (a : Nat) : nI a + 20 = nI (a + 20) := nI_add a 20
theorem ad_21 (a : Nat) : nI a + 21 = nI (a + 21) := nI_add a 21
theorem ad_22 (a : Nat) : nI a + 22 = nI (a + 22) := nI_add a 22
theorem ad_23 (a : Nat) : nI a + 23 = nI (a + 23) := nI_add a 23
theorem ad_24 (a : Nat) : nI a + 24 = nI (a + 24) := nI_add a 24
theorem ad_25 (a : Nat) : nI a + 25 = nI (a + 25) := nI_add a 25
theorem ad_26 (a : Nat) : nI a + 26 = nI (a + 26) := nI_add a 26
theorem ad_27 (a : Nat) : nI a + 27 = nI (a + 27) := nI_add a 27
theorem ad_28 (a : Nat) : nI a + 28 = nI (a + 28) := nI_add a 28
theorem ad_29 (a : Nat) : nI a + 29 = nI (a + 29) := nI_add a 29
theorem ad_30 (a : Nat) : nI a + 30 = nI (a + 30) := nI_add a 30
theorem ad_31 (a : Nat) : nI a + 31 = nI (a + 31) := nI_add a 31
theorem ad_32 (a : Nat) : nI a + 32 = nI (a + 32) := nI_add a 32
theorem ad_33 (a : Nat) : nI a + 33 = nI (a + 33) := nI_add a 33
theorem ad_34 (a : Nat) : nI a + 34 = nI (a + 34) := nI_add a 34
theorem ad_35 (a : Nat) : nI a + 35 = nI (a + 35) := nI_add a 35
theorem ad_36 (a : Nat) : nI a + 36 = nI (a + 36) := nI_add a 36
theorem i10 : ((1 : Int32) = 0) = False := by decide
theorem i00 : ((0 : Int32) = 0) = True := by decide
theorem RL_.setEnd {sc ar sc' ar' : Nat → Nat → Int32} {fr : Nat → Nat → Nat} {st st' : Nat → Int32} {s : Nat} (h : RL_ 0 sc ar fr st) (hs : s < 2) (hE : ∀ o n u g t d w v, RE 0 s o n u g t d w v sc ar st → ∃ o n u g t d w, RE 0 s o n u g t d w v sc' ar' st') (hst : ∀ i, ¬ ((100 + 100 * s ≤ i ∧ i < 200 + 100 * s) ∨ (1400 + 1600 * s ≤ i ∧ i < 3000 + 1600 * s)) → st' i = st i) (hsc : ∀ p, p ≠ 2 + 8 * s → sc' p = sc p) (har : ∀ p, ¬ (2 + 8 * s ≤ p ∧ p < 8 + 8 * s) → ar' p = ar p) : RL_ 0 sc' ar' fr st' := by
  obtain ⟨T, hg, he, hw⟩ := h
  refine ⟨T, hg.cong (fun i hi => hst i (by omega)) (hsc _ (by omega)) (har _ (by omega)), fun s' hs' => ?_, fun w hw' => (hw w hw').cong hw' (fun i a b => hst i (by omega)) (fun p a b => hsc p (by omega)) (fun p a b => har p (by omega)) rfl⟩
  obtain ⟨o, n, u, g, t, d, w, v, hv, h⟩ := he s' hs'
  by_cases e : s' = s
  · subst e
    obtain ⟨o, n, u, g, t, d, w, h⟩ := hE o n u g t d w v h
    exact ⟨o, n, u, g, t, d, w, v, hv, h⟩
  · exact ⟨o, n, u, g, t, d, w, v, hv, h.cong hs' (fun i hi => hst i (by omega)) (hsc _ (by omega)) (fun p a b => har p (by omega))⟩
theorem up2_ne {α : Type} {f : Nat → Nat → α} {i j p : Nat} {v : α} (h : p ≠ i) : up2 f i j v p = f p := by
  funext k; unfold up2; rw [if_neg (fun q => h q.1)]
theorem up2_s {α : Type} {f : Nat → Nat → α} {i j : Nat} {v : α} : up2 f i j v i j = v := by unfold up2; rw [if_pos ⟨rfl, rfl⟩]
theorem up2_o {α : Type} {f : Nat → Nat → α} {i j k : Nat} {v : α} (h : k ≠ j) : up2 f i j v i k = f i k := by unfold up2; rw [if_neg (fun q => h q.2)]
theorem upd_s {f : Nat → Int32} {k : Nat} {x : Int32} : upd f k x k = x := pk_us
theorem upd_o {f : Nat → Int32} {k j : Nat} {x : Int32} (h : j ≠ k) : upd f k x j = f j := pk_un h
theorem sim_voids {nb : Nat} {kp : Nat → Option Nat} {sc ar : Nat → Nat → Int32} {fr : Nat → Nat → Nat} {st kpM ik : Nat → Int32} (hR : Rel nb kp sc ar fr st kpM ik) (x1 : Int32) (wt : Int32) (sm : Int64) (ld ln : Int32) : ∃ r sc' ar' fr' st' wt' sm' ld' ln', f_X5_voids nb x1 sc ar fr = some (r, sc', ar', fr') ∧ f_X6_voids x1 st wt sm ld ln = some (r, st', wt', sm', ld', ln') ∧ Rel nb kp sc' ar' fr' st' kpM ik := by
  rcases side x1 with ⟨s, hs, rfl⟩ | ⟨e6, e5⟩
  · have hnb := hR.1
    have g1 := p_lk hnb
    have g2 := p_ends hnb
    have g3 := p_end hnb hs
    obtain ⟨o, n, u, g, t, d, w, v, hv, hE⟩ := hR.2.1.choose_spec.2.1 s hs
    have hb := hE.2.2.1.2.2
    have hv6 : sc (2 + 8 * s) 6 = st (112 + 100 * s) := by have := hE.2.2.2.1.2.2.2.2.1; simpa using this
    refine ⟨st (112 + 100 * s), up2 sc (2 + 8 * s) 6 1, ar, fr, upd st (112 + 100 * s) 1, wt, sm, ld, ln, ?_, ?_, ?_⟩
    · simp (disch := first | assumption | omega) only [f_X5_voids, noSide_s, bx_s, i00, if_true, gd_t, Nat.zero_add, Nat.reduceAdd, nI_clamp, rdR_n, hv6, asNum_b, bd_e]
    · simp (disch := first | assumption | omega) only [f_X6_voids, isEnd_s, bx_s, i10, if_false, endAt_s, ad_12, rd_n, wr_n]
      rw [show 100 + 100 * s + 12 = 112 + 100 * s by omega]
    · refine hR.step (hR.2.1.setEnd (s := s) hs (fun o n u g t d w v h => ⟨o, n, u, g, t, d, w, ?_⟩) (fun i hi => upd_o (by omega)) (fun p hp => up2_ne hp) (fun p hp => rfl)) (fun p hp => up2_ne (by omega)) (fun p hp => rfl) (fun p hp => rfl)
      obtain ⟨h1, h2, h3, h4, h5, h6, h7⟩ := h
      obtain ⟨b1, b2, b3⟩ := h3
      obtain ⟨c1, c3, c4, c5, c6, c7, c8, c9, c10, c11, c12, c13, c15⟩ := h4
      simp only [Nat.zero_add] at c1 c3 c4 c5 c6 c7 c8 c9 c10 c11 c12 c13 c15 h5 h6 h7
      refine ⟨h1, ?_, ?_, ?_, ?_, fun i a b => (h6 i a b).cong rfl (fun _ _ => rfl) (fun j _ _ => upd_o (by omega)), fun i a b => (h7 i a b).cong rfl (fun _ _ => rfl) (fun j _ _ => upd_o (by omega))⟩
      · simp (disch := omega) only [upd_o, upd_s]; exact h2
      · simp (disch := omega) only [upd_o, upd_s]; exact ⟨b1, b2, rfl⟩
      · simp (disch := omega) only [Nat.zero_add, upd_o, upd_s, up2_o, up2_s]; exact ⟨c1, c3, c4, c5, True.intro, c7, c8, c9, c10, c11, c12, c13, c15⟩
      · intro k hk
        simp (disch := omega) only [Nat.zero_add, upd_o]; exact h5 k hk
  · exact ⟨-1, sc, ar, fr, st, wt, sm, ld, ln, by simp only [f_X5_voids, e5, bx_s, i10, if_false], by simp only [f_X6_voids, e6, bx_s, i00, if_true], hR⟩
