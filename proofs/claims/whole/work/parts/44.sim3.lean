theorem ne10 : ¬ (1 : Int32) = 0 := by decide
theorem keptUp_c {nb p v : Nat} {sc ar : Nat → Nat → Int32} {fr : Nat → Nat → Nat} (hp : pk nb 0 p = true) (h1 : sc p 15 = nI v) (h : v < 2 ^ 31) : f_X0_keptUp nb p sc ar fr = some (nI (min v 60), sc, ar, fr) := by
  rw [f_X0_keptUp, gd_t hp, bd_e, h1]
  by_cases q : 60 < v
  · rw [if_pos (show (60 : Int32) < nI v from nI_lt (a := 60) q h), show min v 60 = 60 by omega]; rfl
  · rw [if_neg (show ¬ (60 : Int32) < nI v from nI_nlt (a := 60) (by omega) (by decide)), show min v 60 = v by omega]
theorem upMany_m {s v : Nat} (hs : s < 2) {st : Nat → Int32} {wt : Int32} {sm : Int64} {ld ln : Int32} (h1 : st (111 + 100 * s) = nI v) (h : v < 2 ^ 31) : f_X6_upMany (nI s) st wt sm ld ln = some (nI (min v 60), st, wt, sm, ld, ln) := by
  rw [f_X6_upMany, endAt_s, bx_s, ad_11, rd_n (by omega) (by decide), show 100 + 100 * s + 11 = 111 + 100 * s by omega, h1]
  by_cases q : 60 ≤ v
  · rw [if_pos (show (60 : Int32) ≤ nI v from nI_le (a := 60) q h), show min v 60 = 60 by omega]; rfl
  · rw [if_neg (show ¬ (60 : Int32) ≤ nI v from nI_ge (b := 60) (by omega) (by decide)), bx_s, ad_11, rd_n (by omega) (by decide), show 100 + 100 * s + 11 = 111 + 100 * s by omega, h1, show min v 60 = v by omega]
theorem sim_up {nb : Nat} {kp : Nat → Option Nat} {sc ar : Nat → Nat → Int32} {fr : Nat → Nat → Nat} {st kpM ik : Nat → Int32} (hR : Rel nb kp sc ar fr st kpM ik) (x1 : Int32) (x2 : Int32) (wt : Int32) (sm : Int64) (ld ln : Int32) : ∃ r sc' ar' fr' st' wt' sm' ld' ln', f_X5_up nb x1 x2 sc ar fr = some (r, sc', ar', fr') ∧ f_X6_up x1 x2 st wt sm ld ln = some (r, st', wt', sm', ld', ln') ∧ Rel nb kp sc' ar' fr' st' kpM ik := by
  rcases side x1 with ⟨s, hs, rfl⟩ | ⟨e6, e5⟩
  · have hnb := hR.1
    obtain ⟨T, o, n, u, g, t, d, w, v, hT, hv, h1, h2, h3, h4, h5, h6, h7⟩ := hR.at hs
    have a11 := h2.2.2.2.2.2.2.2.1
    have c15 := h4.2.2.2.2.2.2.2.2.2.2.2.2
    simp only [Nat.zero_add] at c15 h7
    rw [f_X5_up, noSide_s hs, bx_s, if_pos rfl, f_X6_up, isEnd_s hs, bx_s, if_neg ne10]
    by_cases h0 : 0 ≤ x2
    · obtain ⟨i, hi, rfl⟩ := nI_of (x := x2) (fun q => by rw [Int32.lt_iff_toInt_lt] at q; rw [Int32.le_iff_toInt_le] at h0; omega)
      rw [if_pos h0, if_pos h0, gd_t (p_lk hnb), rdR_n (p_ends hnb) hs (by decide), nI_clamp (by omega), show 0 + 1 + 1 + 8 * s = 2 + 8 * s by omega, gd_t (p_end hnb hs), keptUp_c (p_end hnb hs) c15 (by omega), bC_s, upMany_m hs a11 (by omega), bM_s]
      by_cases hle : min v 60 ≤ i
      · rw [if_pos (nI_le hle hi), if_pos (nI_le hle hi)]
        exact ⟨_, _, _, _, _, _, _, _, _, rfl, rfl, hR⟩
      · rw [if_neg (nI_ge (by omega) (by omega)), if_neg (nI_ge (by omega) (by omega)), show 2 + 8 * s + 5 = 7 + 8 * s by omega, gd_t (p_ups hnb hs), show 7 + 8 * s + 1 = 8 + 8 * s by omega, rdA_n (p_upl hnb hs) (by rw [l_upl hs]; omega), upAt_s, bx_s, rd_n (by omega) (by decide)]
        obtain ⟨m, m1, m2, m3, m4, -⟩ := h7 i (by omega) (by omega)
        rw [m3, m4]
        exact ⟨_, _, _, _, _, _, _, _, _, rfl, rfl, hR⟩
    · rw [if_neg h0, if_neg h0]
      exact ⟨_, _, _, _, _, _, _, _, _, rfl, rfl, hR⟩
  · exact ⟨-1, sc, ar, fr, st, wt, sm, ld, ln, by simp only [f_X5_up, e5, bx_s, i10, if_false], by simp only [f_X6_up, e6, bx_s, i00, if_true], hR⟩
theorem sim_upByte {nb : Nat} {kp : Nat → Option Nat} {sc ar : Nat → Nat → Int32} {fr : Nat → Nat → Nat} {st kpM ik : Nat → Int32} (hR : Rel nb kp sc ar fr st kpM ik) (x1 : Int32) (x2 : Int32) (x3 : Int32) (wt : Int32) (sm : Int64) (ld ln : Int32) : ∃ r sc' ar' fr' st' wt' sm' ld' ln', f_X5_upByte nb x1 x2 x3 sc ar fr = some (r, sc', ar', fr') ∧ f_X6_upByte x1 x2 x3 st wt sm ld ln = some (r, st', wt', sm', ld', ln') ∧ Rel nb kp sc' ar' fr' st' kpM ik := by
  rcases side x1 with ⟨s, hs, rfl⟩ | ⟨e6, e5⟩
  · have hnb := hR.1
    obtain ⟨T, o, n, u, g, t, d, w, v, hT, hv, h1, h2, h3, h4, h5, h6, h7⟩ := hR.at hs
    have a11 := h2.2.2.2.2.2.2.2.1
    have c15 := h4.2.2.2.2.2.2.2.2.2.2.2.2
    simp only [Nat.zero_add] at c15 h7
    rw [f_X5_upByte, noSide_s hs, bx_s, if_pos rfl, f_X6_upByte, isEnd_s hs, bx_s, if_neg ne10]
    by_cases h0 : x2 < 0
    · rw [if_pos h0, if_pos h0]
      exact ⟨_, _, _, _, _, _, _, _, _, rfl, rfl, hR⟩
    obtain ⟨i, hi, rfl⟩ := nI_of h0
    rw [if_neg h0, if_neg h0]
    by_cases hk0 : 0 ≤ x3
    · obtain ⟨k, hk, rfl⟩ := nI_of (x := x3) (fun q => by rw [Int32.lt_iff_toInt_lt] at q; rw [Int32.le_iff_toInt_le] at hk0; omega)
      rw [if_pos hk0, if_pos hk0, gd_t (p_lk hnb), rdR_n (p_ends hnb) hs (by decide), nI_clamp (by omega), show 0 + 1 + 1 + 8 * s = 2 + 8 * s by omega, gd_t (p_end hnb hs), keptUp_c (p_end hnb hs) c15 (by omega), bC_s, upMany_m hs a11 (by omega), bM_s]
      by_cases hle : min v 60 ≤ i
      · rw [if_pos (nI_le hle hi), if_pos (nI_le hle hi)]
        exact ⟨_, _, _, _, _, _, _, _, _, rfl, rfl, hR⟩
      · rw [if_neg (nI_ge (by omega) (by omega)), if_neg (nI_ge (by omega) (by omega)), show 2 + 8 * s + 5 = 7 + 8 * s by omega, gd_t (p_ups hnb hs), show 7 + 8 * s + 1 = 8 + 8 * s by omega, rdA_n (p_upl hnb hs) (by rw [l_upl hs]; omega), upAt_s, bx_s, rd_n (by omega) (by decide)]
        obtain ⟨m, m1, m2, m3, m4, m5⟩ := h7 i (by omega) (by omega)
        rw [m3, m4]
        by_cases hkm : k < m
        · rw [if_pos (nI_lt hkm (by omega)), if_neg (nI_ge hkm (by omega)), f_X3_byteOf, gd_t (p_ups hnb hs), show 7 + 8 * s + 2 = 9 + 8 * s by omega, show (24 : Int32) = nI 24 from rfl, pk_mul, nI_add, rdA_n (p_upb hnb hs) (by rw [l_upb hs]; omega), bC_s, bx_s, ad_1, nI_add, rd_n (by omega) (by decide)]
          rw [show i * 24 + k = 24 * i + k by omega, (m5 k hkm).1]
          exact ⟨_, _, _, _, _, _, _, _, _, rfl, rfl, hR⟩
        · rw [if_neg (nI_nlt (by omega) (by omega)), if_pos (nI_le (by omega) (by omega))]
          exact ⟨_, _, _, _, _, _, _, _, _, rfl, rfl, hR⟩
    · rw [if_neg hk0, if_neg hk0]
      exact ⟨_, _, _, _, _, _, _, _, _, rfl, rfl, hR⟩
  · exact ⟨-1, sc, ar, fr, st, wt, sm, ld, ln, by simp only [f_X5_upByte, e5, bx_s, i10, if_false], by simp only [f_X6_upByte, e6, bx_s, i00, if_true], hR⟩
/-! quiet -/
def qEnd (s : Nat) (st : Nat → Int32) : Prop := st (100 + 100 * s) = st (101 + 100 * s) ∧ st (102 + 100 * s) = 0 ∧ st (109 + 100 * s) = -4 ∧ st (110 + 100 * s) = 0
def qAll (st : Nat → Int32) : Prop := st 300 = 0 ∧ st 800 = 0 ∧ st 4 = 0 ∧ qEnd 0 st ∧ qEnd 1 st
theorem many_m {w : Nat} (hw : w < 2) {st : Nat → Int32} {wt : Int32} {sm : Int64} {ld ln : Int32} : f_X6_many (nI w) st wt sm ld ln = some (st (300 + 500 * w), st, wt, sm, ld, ln) := by
  rw [f_X6_many, wireAt_s, bx_s, rd_n (by omega) (by decide)]
theorem nI_sub0 {a b : Nat} (ha : a < 2 ^ 31) (h : b ≤ a) : (nI a - nI b = 0) ↔ nI a = nI b := by
  rw [pk_sub h, show (0 : Int32) = nI 0 from rfl, nI_eq (by omega) (by decide), nI_eq ha (by omega)]
  omega
section QUIET
variable {nb : Nat} {sc ar : Nat → Nat → Int32} {fr : Nat → Nat → Nat} {st : Nat → Int32} {wt : Int32} {sm : Int64} {ld ln : Int32}
theorem qEnd_c {s o n u g t d w v : Nat} (hnb : 1 ≤ nb) (hs : s < 2) (h : RE 0 s o n u g t d w v sc ar st) : ∃ r, f_X0_isQuiet nb (2 + 8 * s) sc ar fr = some (r, sc, ar, fr) ∧ ((qEnd s st ∧ r = 1) ∨ (¬ qEnd s st ∧ r = 0)) := by
  obtain ⟨h1, h2, h3, h4, -⟩ := h
  obtain ⟨a0, a1, a2, -⟩ := h2
  obtain ⟨c1, c3, c4, c5, c6, c7, c8, c9, c10, c11, c12, c13, c15⟩ := h4
  simp only [Nat.zero_add] at c3 c4 c5 c12 c13
  have g3 := p_end hnb hs
  rw [f_X0_isQuiet, gd_t g3, waiting_c g3 c3 c4 (by omega), bC_s]
  unfold qEnd
  rw [a0, a1, a2]
  have e0 : nI (o - n) = 0 ↔ nI o = nI n := by rw [← pk_sub (show n ≤ o by omega)]; exact nI_sub0 (by omega) (by omega)
  by_cases q0 : nI o = nI n
  · rw [if_pos (e0.mpr q0), unacked_c g3 c4 c5 (by omega), bC_s, show n - (n - u) = u by omega]
    by_cases q1 : nI u = 0
    · rw [if_pos q1, c13]
      by_cases q2 : st (109 + 100 * s) = -4
      · rw [if_pos q2, c12]
        by_cases q3 : st (110 + 100 * s) = 0
        · rw [if_pos q3]; exact ⟨1, rfl, Or.inl ⟨⟨q0, q1, q2, q3⟩, rfl⟩⟩
        · rw [if_neg q3]; exact ⟨0, rfl, Or.inr ⟨fun q => q3 q.2.2.2, rfl⟩⟩
      · rw [if_neg q2]; exact ⟨0, rfl, Or.inr ⟨fun q => q2 q.2.2.1, rfl⟩⟩
    · rw [if_neg q1]; exact ⟨0, rfl, Or.inr ⟨fun q => q1 q.2.1, rfl⟩⟩
  · rw [if_neg (fun q => q0 (e0.mp q))]; exact ⟨0, rfl, Or.inr ⟨fun q => q0 q.1, rfl⟩⟩
theorem quiet_c (hnb : 1 ≤ nb) (h : RL_ 0 sc ar fr st) : ∃ r, f_X2_isQuiet nb 0 sc ar fr = some (r, sc, ar, fr) ∧ ((qAll st ∧ r = 1) ∨ (¬ qAll st ∧ r = 0)) := by
  obtain ⟨T, hg, he, hw⟩ := h
  obtain ⟨n0, -, w0, w0', -⟩ := hw 0 (by decide)
  obtain ⟨n1, -, w1, w1', -⟩ := hw 1 (by decide)
  obtain ⟨o, n, u, g, t, d, w, v, -, hE0⟩ := he 0 (by decide)
  obtain ⟨o', n', u', g', t', d', w'', v', -, hE1⟩ := he 1 (by decide)
  simp only [Nat.mul_zero, Nat.mul_one, Nat.zero_add, Nat.add_zero, Nat.reduceAdd] at w0 w0' w1 w1'
  have e4 : sc 0 4 = st 4 := hg.2.2.2.1
  obtain ⟨r0, hr0, hq0⟩ := qEnd_c (fr := fr) hnb (by decide) hE0
  obtain ⟨r1, hr1, hq1⟩ := qEnd_c (fr := fr) hnb (by decide) hE1
  unfold qAll
  rw [f_X2_isQuiet, gd_t (p_lk hnb), e4]
  by_cases k4 : st 4 = 0
  · rw [if_pos k4]
    rw [show (0 : Int32) = nI 0 from rfl, show (1 : Int32) = nI 1 from rfl]
    rw [rdR_n (p_wires hnb) (by decide) (by decide), show (0 + 18) + 1 + 26 * (nI 0).toNatClampNeg = 19 from rfl, gd_t (p_wire (s := 0) hnb (by decide)), w0]
    rw [w0', w1']
    by_cases k0 : nI n0 = nI 0
    · rw [if_pos k0, rdR_n (p_wires hnb) (by decide) (by decide), show (0 + 18) + 1 + 26 * (nI 1).toNatClampNeg = 45 from rfl, gd_t (p_wire (s := 1) hnb (by decide)), w1]
      by_cases k1 : nI n1 = nI 0
      · rw [if_pos k1, rdR_n (p_ends hnb) (by decide) (by decide), show (0 + 1) + 1 + 8 * (nI 0).toNatClampNeg = 2 + 8 * 0 from rfl, gd_t (p_end (s := 0) hnb (by decide)), hr0, bC_s]
        rcases hq0 with ⟨z0, rfl⟩ | ⟨z0, rfl⟩
        · rw [if_neg (by decide), rdR_n (p_ends hnb) (by decide) (by decide), show (0 + 1) + 1 + 8 * (nI 1).toNatClampNeg = 2 + 8 * 1 from rfl, gd_t (p_end (s := 1) hnb (by decide)), hr1, bC_s]
          rcases hq1 with ⟨z1, rfl⟩ | ⟨z1, rfl⟩
          · rw [if_neg (by decide)]; exact ⟨_, rfl, Or.inl ⟨⟨k0, k1, k4, z0, z1⟩, rfl⟩⟩
          · rw [if_pos (show (0 : Int32) = nI 0 from rfl)]; exact ⟨_, rfl, Or.inr ⟨fun q => z1 q.2.2.2.2, rfl⟩⟩
        · rw [if_pos (show (0 : Int32) = nI 0 from rfl)]; exact ⟨_, rfl, Or.inr ⟨fun q => z0 q.2.2.2.1, rfl⟩⟩
      · rw [if_neg k1]; exact ⟨_, rfl, Or.inr ⟨fun q => k1 q.2.1, rfl⟩⟩
    · rw [if_neg k0]; exact ⟨_, rfl, Or.inr ⟨fun q => k0 q.1, rfl⟩⟩
  · rw [if_neg k4]; exact ⟨_, rfl, Or.inr ⟨fun q => k4 q.2.2.1, rfl⟩⟩
theorem qm_loop {o n : Nat → Nat} (ho : ∀ s, s < 2 → st (100 + 100 * s) = nI (o s) ∧ st (101 + 100 * s) = nI (n s) ∧ n s ≤ o s ∧ o s ≤ 60) : ∀ (fu i : Nat) (x : Int32), i ≤ 2 → 2 < fu + i → (x = 0 ∨ x = 1) → ∃ r, f_X6_isQuiet_33 fu x (nI i) st wt sm ld ln = some (r, st, wt, sm, ld, ln) ∧ (((x = 1 ∧ ∀ s, i ≤ s → s < 2 → qEnd s st) ∧ r = 1) ∨ (¬ (x = 1 ∧ ∀ s, i ≤ s → s < 2 → qEnd s st) ∧ r = 0)) := by
  intro fu
  induction fu with
  | zero => intro i x h1 h2; omega
  | succ fu ih =>
    intro i x h1 h2 hx
    rw [f_X6_isQuiet_33]
    by_cases hi : 2 ≤ i
    · rw [if_pos (show (2 : Int32) ≤ nI i from nI_le (a := 2) hi (by omega))]
      have hb : bln x = true := by rcases hx with rfl | rfl <;> rfl
      rw [gd_t hb]
      refine ⟨x, rfl, ?_⟩
      rcases hx with rfl | rfl
      · exact Or.inr ⟨fun q => absurd q.1 (by decide), rfl⟩
      · exact Or.inl ⟨⟨rfl, fun s a b => absurd b (by omega)⟩, rfl⟩
    · rw [if_neg (show ¬ (2 : Int32) ≤ nI i from nI_ge (b := 2) (by omega) (by decide))]
      have zero : ∃ r, f_X6_isQuiet_33 fu 0 (nI (i + 1)) st wt sm ld ln = some (r, st, wt, sm, ld, ln) ∧ r = 0 := by
        obtain ⟨r, e, z⟩ := ih (i + 1) 0 (by omega) (by omega) (Or.inl rfl)
        rcases z with ⟨⟨q, -⟩, -⟩ | ⟨-, z⟩
        · exact absurd q (by decide)
        · exact ⟨r, e, z⟩
      obtain ⟨r, e, rfl⟩ := zero
      rcases hx with rfl | rfl
      · rw [if_pos rfl, f_X6_isQuiet_100, f_X6_isQuiet_101, bd_e, ad_1, e]
        exact ⟨_, rfl, Or.inr ⟨fun q => absurd q.1 (by decide), rfl⟩⟩
      · obtain ⟨a0, a1, hno, ho60⟩ := ho i (by omega)
        have e0 : nI (o i - n i) = 0 ↔ nI (o i) = nI (n i) := by rw [← pk_sub hno]; exact nI_sub0 (by omega) hno
        have nq : ∀ P : Prop, ¬ P → (qEnd i st → P) → ¬ ((1 : Int32) = 1 ∧ ∀ s, i ≤ s → s < 2 → qEnd s st) := fun P hP h q => hP (h (q.2 i (by omega) (by omega)))
        rw [if_neg (by decide), waiting_m (by omega) a0 a1 hno, bM_s]
        by_cases q0 : nI (o i) = nI (n i)
        · rw [if_pos (e0.mpr q0), endAt_s, bx_s, ad_2, rd_n (by omega) (by decide), show 100 + 100 * i + 2 = 102 + 100 * i by omega]
          by_cases q1 : st (102 + 100 * i) = 0
          · rw [if_pos q1, bx_s, ad_9, rd_n (by omega) (by decide), show 100 + 100 * i + 9 = 109 + 100 * i by omega]
            by_cases q2 : st (109 + 100 * i) = -4
            · rw [if_pos q2, bx_s, ad_10, rd_n (by omega) (by decide), show 100 + 100 * i + 10 = 110 + 100 * i by omega]
              by_cases q3 : st (110 + 100 * i) = 0
              · rw [if_pos q3, f_X6_isQuiet_101, bd_e, ad_1]
                obtain ⟨r, e, z⟩ := ih (i + 1) 1 (by omega) (by omega) (Or.inr rfl)
                refine ⟨r, e, ?_⟩
                rcases z with ⟨⟨-, z⟩, rr⟩ | ⟨z, rr⟩
                · refine Or.inl ⟨⟨rfl, fun s a b => ?_⟩, rr⟩
                  by_cases hsi : s = i
                  · subst hsi; exact ⟨by rw [a0, a1]; exact q0, q1, q2, q3⟩
                  · exact z s (by omega) b
                · exact Or.inr ⟨fun q => z ⟨rfl, fun s a b => q.2 s (by omega) b⟩, rr⟩
              · rw [if_neg q3, f_X6_isQuiet_100, f_X6_isQuiet_101, bd_e, ad_1, e]
                exact ⟨_, rfl, Or.inr ⟨nq _ q3 (fun q => q.2.2.2), rfl⟩⟩
            · rw [if_neg q2, f_X6_isQuiet_100, f_X6_isQuiet_101, bd_e, ad_1, e]
              exact ⟨_, rfl, Or.inr ⟨nq _ q2 (fun q => q.2.2.1), rfl⟩⟩
          · rw [if_neg q1, f_X6_isQuiet_100, f_X6_isQuiet_101, bd_e, ad_1, e]
            exact ⟨_, rfl, Or.inr ⟨nq _ q1 (fun q => q.2.1), rfl⟩⟩
        · rw [if_neg (fun q => q0 (e0.mp q)), f_X6_isQuiet_100, f_X6_isQuiet_101, bd_e, ad_1, e]
          exact ⟨_, rfl, Or.inr ⟨nq _ q0 (fun q => by rw [← a0, ← a1]; exact q.1), rfl⟩⟩
theorem quiet_m (h : RL_ 0 sc ar fr st) : ∃ r, f_X6_isQuiet st wt sm ld ln = some (r, st, wt, sm, ld, ln) ∧ ((qAll st ∧ r = 1) ∨ (¬ qAll st ∧ r = 0)) := by
  obtain ⟨T, hg, he, hw⟩ := h
  obtain ⟨o, n, u, g, t, d, w, v, -, hE0⟩ := he 0 (by decide)
  obtain ⟨o', n', u', g', t', d', w', v', -, hE1⟩ := he 1 (by decide)
  have ho : ∀ s, s < 2 → st (100 + 100 * s) = nI ((fun s => if s = 0 then o else o') s) ∧ st (101 + 100 * s) = nI ((fun s => if s = 0 then n else n') s) ∧ (fun s => if s = 0 then n else n') s ≤ (fun s => if s = 0 then o else o') s ∧ (fun s => if s = 0 then o else o') s ≤ 60 := by
    intro s hs
    rcases (show s = 0 ∨ s = 1 by omega) with rfl | rfl
    · exact ⟨hE0.2.1.1, hE0.2.1.2.1, hE0.1.2.2.1, hE0.1.2.2.2.1⟩
    · exact ⟨hE1.2.1.1, hE1.2.1.2.1, hE1.1.2.2.1, hE1.1.2.2.2.1⟩
  have hfu : 2 < FU + 0 := by decide
  have zero : ∃ r, f_X6_isQuiet_33 FU 0 (nI 0) st wt sm ld ln = some (r, st, wt, sm, ld, ln) ∧ r = 0 := by
    obtain ⟨r, e, z⟩ := qm_loop (wt := wt) (sm := sm) (ld := ld) (ln := ln) ho FU 0 0 (by decide) hfu (Or.inl rfl)
    rcases z with ⟨⟨q, -⟩, -⟩ | ⟨-, z⟩
    · exact absurd q (by decide)
    · exact ⟨r, e, z⟩
  obtain ⟨r, e, rfl⟩ := zero
  unfold qAll
  rw [f_X6_isQuiet, show f_X6_many 0 st wt sm ld ln = _ from many_m (w := 0) (by decide), bM_s]
  by_cases k0 : st 300 = 0
  · rw [if_pos k0, show f_X6_many 1 st wt sm ld ln = _ from many_m (w := 1) (by decide), bM_s]
    by_cases k1 : st 800 = 0
    · rw [if_pos k1, show (4 : Int32) = nI 4 from rfl, rd_n (by decide) (by decide)]
      by_cases k4 : st 4 = 0
      · rw [if_pos k4, f_X6_isQuiet_30]
        obtain ⟨r, e, z⟩ := qm_loop (wt := wt) (sm := sm) (ld := ld) (ln := ln) ho FU 0 1 (by decide) hfu (Or.inr rfl)
        refine ⟨r, e, ?_⟩
        rcases z with ⟨⟨-, z⟩, rr⟩ | ⟨z, rr⟩
        · exact Or.inl ⟨⟨k0, k1, k4, z 0 (by decide) (by decide), z 1 (by decide) (by decide)⟩, rr⟩
        · refine Or.inr ⟨fun q => z ⟨rfl, fun s _ hs => ?_⟩, rr⟩
          rcases (show s = 0 ∨ s = 1 by omega) with rfl | rfl
          · exact q.2.2.2.1
          · exact q.2.2.2.2
      · rw [if_neg k4, f_X6_isQuiet_29, f_X6_isQuiet_30]
        exact ⟨_, e, Or.inr ⟨fun q => k4 q.2.2.1, rfl⟩⟩
    · rw [if_neg k1, f_X6_isQuiet_29, f_X6_isQuiet_30]
      exact ⟨_, e, Or.inr ⟨fun q => k1 q.2.1, rfl⟩⟩
  · rw [if_neg k0, f_X6_isQuiet_29, f_X6_isQuiet_30]
    exact ⟨_, e, Or.inr ⟨fun q => k0 q.1, rfl⟩⟩
end QUIET
theorem sim_count {nb : Nat} {kp : Nat → Option Nat} {sc ar : Nat → Nat → Int32} {fr : Nat → Nat → Nat} {st kpM ik : Nat → Int32} (hR : Rel nb kp sc ar fr st kpM ik) (x1 : Int32) (wt : Int32) (sm : Int64) (ld ln : Int32) : ∃ r sc' ar' fr' st' wt' sm' ld' ln', f_X5_count nb x1 sc ar fr = some (r, sc', ar', fr') ∧ f_X6_count x1 st wt sm ld ln = some (r, st', wt', sm', ld', ln') ∧ Rel nb kp sc' ar' fr' st' kpM ik := by
  have hnb := hR.1
  obtain ⟨T, hg, -, -⟩ := id hR.2.1
  obtain ⟨g0, g1, g2, g3, -, -, -, g7, g8⟩ := hg
  rw [f_X5_count, f_X6_count, in_spec x1 (lo := 0) (hi := 17) 0 17 rfl rfl, bx_s]
  by_cases h0 : x1 < 0
  · have := (s32 x1 0 0 rfl).1.mp h0
    rw [if_pos h0, if_neg (show ¬ (0 ≤ x1.toInt ∧ x1.toInt ≤ 17) by omega), if_pos rfl]
    exact ⟨_, _, _, _, _, _, _, _, _, rfl, rfl, hR⟩
  obtain ⟨i, hi, rfl⟩ := nI_of h0
  rw [if_neg h0, nI_toInt hi]
  by_cases h17 : i ≤ 17
  · rw [if_pos (show nI i ≤ 17 from nI_le (b := 17) h17 (by decide)), if_pos (show (0 : Int) ≤ i ∧ (i : Int) ≤ 17 by omega), if_neg (show ¬ (1 : Int32) = 0 by decide)]
    have ne : ∀ k, i ≠ k → k < 100 → ¬ nI i = nI k := fun k h hk q => h ((nI_eq hi (by omega)).mp q)
    by_cases k0 : i = 0
    · subst k0
      rw [if_pos (show nI 0 = (0 : Int32) from rfl), gd_t (p_lk hnb), if_neg (show ¬ (4 : Int32) ≤ nI 0 by decide), show (3 : Int32) + nI 0 = nI 3 from rfl, rd_n (by decide) (by decide), g1, g2]
      exact ⟨_, _, _, _, _, _, _, _, _, rfl, rfl, hR⟩
    rw [if_neg (show ¬ nI i = 0 from ne 0 k0 (by decide))]
    by_cases k1 : i = 1
    · subst k1
      rw [if_pos (show nI 1 = (1 : Int32) from rfl), gd_t (p_lk hnb), if_neg (show ¬ (4 : Int32) ≤ nI 1 by decide), show (3 : Int32) + nI 1 = nI 4 from rfl, rd_n (by decide) (by decide), g3]
      exact ⟨_, _, _, _, _, _, _, _, _, rfl, rfl, hR⟩
    rw [if_neg (show ¬ nI i = 1 from ne 1 k1 (by decide))]
    by_cases k17 : i = 17
    · subst k17
      rw [if_pos (show nI 17 = (17 : Int32) from rfl), gd_t (p_lk hnb), if_pos (show (4 : Int32) ≤ nI 17 by decide), if_pos (show (9 : Int32) ≤ nI 17 by decide), if_pos (show (17 : Int32) ≤ nI 17 by decide)]
      obtain ⟨rc, ec, zc⟩ := quiet_c hnb hR.2.1
      obtain ⟨rm, em, zm⟩ := quiet_m (wt := wt) (sm := sm) (ld := ld) (ln := ln) hR.2.1
      rw [ec, em, bC_s, bM_s]
      rcases zc with ⟨zc, rfl⟩ | ⟨zc, rfl⟩
      · rcases zm with ⟨zm, rfl⟩ | ⟨zm, rfl⟩
        · exact ⟨1, sc, ar, fr, st, wt, sm, ld, ln, rfl, rfl, hR⟩
        · exact absurd zc zm
      · rcases zm with ⟨zm, rfl⟩ | ⟨zm, rfl⟩
        · exact absurd zm zc
        · exact ⟨0, sc, ar, fr, st, wt, sm, ld, ln, rfl, rfl, hR⟩
    rw [if_neg (show ¬ nI i = 17 from ne 17 k17 (by decide)), gd_t (p_lk hnb), rdA_n (p_tal hnb) (by rw [l_tal]; omega)]
    by_cases h4 : 4 ≤ i
    · rw [if_pos (show (4 : Int32) ≤ nI i from nI_le (a := 4) h4 hi)]
      by_cases h9 : 9 ≤ i
      · rw [if_pos (show (9 : Int32) ≤ nI i from nI_le (a := 9) h9 hi), if_neg (show ¬ (17 : Int32) ≤ nI i from nI_ge (b := 17) (by omega) (by decide)), show (24 : Int32) = nI 24 from rfl, show (9 : Int32) = nI 9 from rfl, nI_add, pk_sub (by omega), rd_n (by omega) (by decide)]
        rw [show 24 + i - 9 = i + 15 by omega, ← g8 i h9 (by omega)]
        exact ⟨_, _, _, _, _, _, _, _, _, rfl, rfl, hR⟩
      · rw [if_neg (show ¬ (9 : Int32) ≤ nI i from nI_ge (b := 9) (by omega) (by decide)), show (7 : Int32) = nI 7 from rfl, show (4 : Int32) = nI 4 from rfl, nI_add, pk_sub (by omega), rd_n (by omega) (by decide)]
        rw [show 7 + i - 4 = i + 3 by omega, ← g7 i (by omega) (by omega)]
        exact ⟨_, _, _, _, _, _, _, _, _, rfl, rfl, hR⟩
    · rw [if_neg (show ¬ (4 : Int32) ≤ nI i from nI_ge (b := 4) (by omega) (by decide)), show (3 : Int32) = nI 3 from rfl, nI_add, rd_n (by omega) (by decide)]
      rw [show 3 + i = i + 3 by omega, ← g7 i (by omega) (by omega)]
      exact ⟨_, _, _, _, _, _, _, _, _, rfl, rfl, hR⟩
  · rw [if_neg (show ¬ nI i ≤ 17 from nI_ge (a := 17) (by omega) (by omega)), if_neg (show ¬ ((0 : Int) ≤ i ∧ (i : Int) ≤ 17) by omega), if_pos rfl]
    exact ⟨_, _, _, _, _, _, _, _, _, rfl, rfl, hR⟩
