section TWICE
variable {nb w : Nat} {sc ar : Nat → Nat → Int32} {fr : Nat → Nat → Nat} {st : Nat → Int32} {wt : Int32} {sm : Int64} {ld ln : Int32}
def twm (w j L : Nat) (st : Nat → Int32) : Nat → Int32 := fun x => if 301 + 500 * w + 36 * j + 36 ≤ x ∧ x < 301 + 500 * w + 36 * L + 36 then st (x - 36) else if x = 300 + 500 * w then nI (L + 1) else st x
theorem tw36 {j L : Nat} (hw : w < 2) (hL : L < 12) (hj : j < L) : ∀ (n fu i : Nat) (st : Nat → Int32), i + 1 = 301 + 500 * w + 36 * j + n → n < fu → n ≤ 36 * (L - j) → st (300 + 500 * w) = nI L → f_X6_twice_36 fu (nI w) (nI j) (nI i) st wt sm ld ln = some (nI (L + 1), (fun x => if 301 + 500 * w + 36 * j + 36 ≤ x ∧ x < i + 37 then st (x - 36) else if x = 300 + 500 * w then nI (L + 1) else st x), wt, sm, ld, ln) := by
  intro n
  induction n with
  | zero =>
    intro fu i st hi hfu hn h0
    obtain ⟨fu, rfl⟩ : ∃ z, fu = z + 1 := ⟨fu - 1, by omega⟩
    rw [f_X6_twice_36, frameAt_s, bx_s, if_pos (nI_lt (by omega) (by omega)), wireAt_s, bx_s, rd_n (by omega) (by decide), h0, bd_e, ad_1, wr_n (by omega) (by decide), many_m hw, bM_s, upd_s]
    congr 3
    funext x
    rw [if_neg (by omega)]
    by_cases q : x = 300 + 500 * w
    · subst q; rw [if_pos rfl, upd_s]
    · rw [if_neg q, upd_o q]
  | succ n ih =>
    intro fu i st hi hfu hn h0
    obtain ⟨fu, rfl⟩ : ∃ z, fu = z + 1 := ⟨fu - 1, by omega⟩
    rw [f_X6_twice_36, frameAt_s, bx_s, if_neg (nI_nlt (by omega) (by omega)), rd_n (by omega) (by decide), ad_36, wr_n (by omega) (by decide), bd_e, sb_m1 (by omega)]
    rw [ih fu (i - 1) _ (by omega) (by omega) (by omega) (by rw [upd_o (by omega)]; exact h0)]
    congr 3
    funext x
    by_cases q : x = i + 36
    · subst q
      rw [if_neg (by omega), if_neg (by omega), upd_s, if_pos (by omega), show i + 36 - 36 = i by omega]
    · by_cases r : 301 + 500 * w + 36 * j + 36 ≤ x ∧ x < i + 37
      · rw [if_pos (by omega), if_pos r, upd_o (by omega)]
      · rw [if_neg (by omega), if_neg r, upd_o q]
def twf (j L q : Nat) (g : Nat → Nat) : Nat → Nat := fun z => if z = j + 1 then q else if j + 1 < z ∧ z ≤ L then g (z - 1) else g z
theorem rp25 {j L q : Nat} (hnb : 1 ≤ nb) (hw : w < 2) (hL : L < 12) (hj : j < L) (hs : sc (19 + 26 * w) 1 = nI L) (hq : pk nb 1 q = true) : ∀ (n fu i : Nat) (fr : Nat → Nat → Nat), i = j + 1 + n → n < fu → i ≤ L → (∀ z, z < 12 → pk nb 1 (fr (20 + 26 * w) z) = true) → f_X4_repeat_25 nb fu (19 + 26 * w) (nI j) q (nI i) sc ar fr = some (up2 sc (19 + 26 * w) 1 (nI (L + 1)), ar, va_up fr (20 + 26 * w) (fun z => if z = j + 1 then q else if j + 1 < z ∧ z ≤ i then fr (20 + 26 * w) (z - 1) else fr (20 + 26 * w) z)) := by
  have g4 := p_wire (s := w) hnb hw
  have g10 := p_frs (s := w) hnb hw
  intro n
  induction n with
  | zero =>
    intro fu i fr hi hfu hiL hpk
    obtain ⟨fu, rfl⟩ : ∃ z, fu = z + 1 := ⟨fu - 1, by omega⟩
    rw [f_X4_repeat_25, ad_1, if_pos (nI_le (by omega) (by omega)), gd_t g4, show 19 + 26 * w + 1 = 20 + 26 * w by omega, wrF_n g10 (by omega) hq, bd_e, hs, ad_1, bd_e]
    congr 3
    funext p
    by_cases hp : p = 20 + 26 * w
    · subst hp
      rw [va_s]; funext z
      by_cases hz : z = j + 1
      · rw [if_pos hz, hz, up2_s]
      · rw [if_neg hz, up2_o hz, if_neg (by omega)]
    · rw [va_o hp, up2_ne hp]
  | succ n ih =>
    intro fu i fr hi hfu hiL hpk
    obtain ⟨fu, rfl⟩ : ∃ z, fu = z + 1 := ⟨fu - 1, by omega⟩
    have e1 : nI i - 1 = nI (i - 1) := pk_sub (b := 1) (by omega)
    rw [f_X4_repeat_25, ad_1, if_neg (nI_ge (by omega) (by omega)), gd_t g4, show 19 + 26 * w + 1 = 20 + 26 * w by omega, e1, rdR_n g10 (by omega) (by decide), nI_clamp (by omega), wrF_n g10 (by omega) (hpk _ (by omega)), bd_e, sb_m1 (by omega)]
    rw [ih fu (i - 1) _ (by omega) (by omega) (by omega) (fun z hz => by
      by_cases hzi : z = i
      · rw [hzi, up2_s]; exact hpk _ (by omega)
      · rw [up2_o hzi]; exact hpk z hz)]
    congr 3
    funext p
    by_cases hp : p = 20 + 26 * w
    · subst hp
      rw [va_s, va_s]; funext z
      by_cases hz : z = j + 1
      · rw [if_pos hz, if_pos hz]
      · rw [if_neg hz, if_neg hz]
        by_cases hzi : z = i
        · subst hzi
          rw [if_neg (by omega), up2_s, if_pos (by omega)]
        · by_cases hr : j + 1 < z ∧ z ≤ i
          · rw [if_pos (by omega), if_pos hr, up2_o (by omega)]
          · rw [if_neg (by omega), if_neg hr, up2_o hzi]
    · rw [va_o hp, va_o hp, up2_ne hp]
end TWICE
theorem copyF {nb w m1 m2 : Nat} {sc ar : Nat → Nat → Int32} {fr : Nat → Nat → Nat} (hnb : 1 ≤ nb) (hw : w < 2) (h1 : m1 < 12) (h2 : m2 < 12) : f_X1_copyFrom nb (21 + 26 * w + 2 * m1) (21 + 26 * w + 2 * m2) sc ar fr = some (up2 (up2 sc (21 + 26 * w + 2 * m1) 1 (sc (21 + 26 * w + 2 * m2) 1)) (21 + 26 * w + 2 * m1) 2 (up2 sc (21 + 26 * w + 2 * m1) 1 (sc (21 + 26 * w + 2 * m2) 1) (21 + 26 * w + 2 * m2) 2), va_up ar (22 + 26 * w + 2 * m1) (va_cpy (ar (22 + 26 * w + 2 * m2)) (ar (22 + 26 * w + 2 * m1)) 0 0 32), fr) := by
  rw [f_X1_copyFrom, gd_t (p_frm hnb hw h2), gd_t (p_frm hnb hw h1), show 21 + 26 * w + 2 * m1 + 1 = 22 + 26 * w + 2 * m1 by omega, show 21 + 26 * w + 2 * m2 + 1 = 22 + 26 * w + 2 * m2 by omega, gd_t (p_frb hnb hw h1), l_frb hw h1, show (0 : Int32) = nI 0 from rfl, cpA_n (p_frb hnb hw h2) (p_frb hnb hw h1) (by rw [l_frb hw h2]; omega) (by rw [l_frb hw h1]; omega), bd_e, bd_e, bd_e, bd_e]
theorem sim_twice {nb : Nat} {kp : Nat → Option Nat} {sc ar : Nat → Nat → Int32} {fr : Nat → Nat → Nat} {st kpM ik : Nat → Int32} (hR : Rel nb kp sc ar fr st kpM ik) (x1 : Int32) (x2 : Int32) (wt : Int32) (sm : Int64) (ld ln : Int32) : ∃ r sc' ar' fr' st' wt' sm' ld' ln', f_X5_twice nb x1 x2 sc ar fr = some (r, sc', ar', fr') ∧ f_X6_twice x1 x2 st wt sm ld ln = some (r, st', wt', sm', ld', ln') ∧ Rel nb kp sc' ar' fr' st' kpM ik := by
  have hnb := hR.1
  rcases frm hR x1 x2 wt sm ld ln with ⟨w, j, L, hw, hj, hL, rfl, rfl, g1, g2, e5, e6⟩ | ⟨e5, e6⟩
  · obtain ⟨n, hn, s1, s2, hp4, hp5, hp6⟩ := hR.2.1.choose_spec.2.2 w hw
    have hpk := RW.pks (L := L) hnb hw hp4
    simp only [Nat.zero_add] at s1 hp4 hp5 hp6
    have hnL : n = L := (nI_eq (by omega) (by omega)).mp (s2.symm.trans g2)
    subst hnL
    rw [f_X5_twice, e5, bC_s, if_pos rfl, gd_t (p_lk hnb), rdR_n (p_wires hnb) hw (by decide), nI_clamp (by omega), show 0 + 18 + 1 + 26 * w = 19 + 26 * w by omega, gd_t (p_wire hnb hw), g1, f_X6_twice, e6, bM_s, if_neg ne10, many_m hw, bM_s, g2]
    by_cases h12 : n = 12
    · subst h12
      rw [if_neg (show ¬ nI 12 < (12 : Int32) by decide), if_pos (show nI 12 = (12 : Int32) from rfl)]
      exact ⟨_, _, _, _, _, _, _, _, _, rfl, rfl, hR⟩
    · rw [if_pos (show nI n < (12 : Int32) from nI_lt (b := 12) (by omega) (by decide)), if_neg (fun q : nI n = 12 => h12 ((nI_eq (b := 12) (by omega) (by decide)).mp q)), many_m hw, bM_s, g2, frameAt_s, bx_s, bd_e, show (1 : Int32) = nI 1 from rfl, pk_sub (by omega)]
      have em := tw36 (w := w) (j := j) (L := n) hw (by omega) hj (wt := wt) (sm := sm) (ld := ld) (ln := ln) (36 * (n - j)) FU (301 + 500 * w + 36 * n - 1) st (by omega) (by unfold FU; omega) (by omega) g2
      rw [em]
      obtain ⟨m1, hm1, q1⟩ := hp4 n (by omega)
      obtain ⟨m2, hm2, q2⟩ := hp4 j (by omega)
      have hne : m1 ≠ m2 := by
        intro q
        have := hp5 n j (by omega) (by omega) (by rw [q1, q2, q])
        omega
      have hq : pk nb 1 (fr (20 + 26 * w) n) = true := hpk n (by omega)
      have ec := copyF (sc := sc) (ar := ar) (fr := fr) hnb hw hm1 hm2
      rw [f_X4_repeat, gd_t (p_wire hnb hw), g1, show 19 + 26 * w + 1 = 20 + 26 * w by omega, rdR_n (p_frs hnb hw) (by omega) (by decide), nI_clamp (by omega), rdR_n (p_frs hnb hw) (by omega) (by decide), nI_clamp (by omega), gd_t hq, q1, q2, ec, bCv_s, bd_e, up2_ne (by omega), up2_ne (by omega), g1]
      rw [rp25 (q := 21 + 26 * w + 2 * m1) hnb hw (by omega) hj (by rw [up2_ne (by omega), up2_ne (by omega)]; exact g1) (by rw [← q1]; exact hq) (n - (j + 1)) FU n fr (by omega) (by unfold FU; omega) (by omega) hpk, bCv_s, up2_s]
      refine ⟨_, _, _, _, _, _, _, _, _, rfl, rfl, ?_⟩
      have hst : ∀ i, i < 300 + 500 * w ∨ 800 + 500 * w ≤ i → (if 301 + 500 * w + 36 * j + 36 ≤ i ∧ i < 301 + 500 * w + 36 * n - 1 + 37 then st (i - 36) else if i = 300 + 500 * w then nI (n + 1) else st i) = st i := by
        intro i hi
        rw [if_neg (by omega), if_neg (by omega)]
      refine hR.step (hR.2.1.setW hw (fun _ => ?_) hst (fun p hp => by rw [up2_ne (by omega), up2_ne (by omega), up2_ne (by omega)]) (fun p hp => va_o (by omega)) (fun p hp => va_o (by omega))) (fun p hp => by rw [up2_ne (by omega), up2_ne (by omega), up2_ne (by omega)]) (fun p hp => va_o (by omega)) (fun p hp => va_o (by omega))
      refine ⟨n + 1, by omega, ?_, ?_, ?_, ?_, ?_⟩
      · simp only [Nat.zero_add]; rw [up2_s]
      · dsimp only; rw [if_neg (by omega), if_pos rfl]
      · intro z hz
        simp only [Nat.zero_add]; rw [va_s]
        by_cases q : z = j + 1
        · rw [if_pos q]; exact ⟨m1, hm1, rfl⟩
        · rw [if_neg q]
          by_cases q2 : j + 1 < z ∧ z ≤ n
          · rw [if_pos q2]; exact hp4 _ (by omega)
          · rw [if_neg q2]; exact hp4 _ hz
      · intro a b ha hb hab
        simp only [Nat.zero_add] at hab; rw [va_s] at hab
        rw [← q1] at hab
        by_cases qa : a = j + 1
        · rw [if_pos qa] at hab
          by_cases qb : b = j + 1
          · omega
          · rw [if_neg qb] at hab
            by_cases qb2 : j + 1 < b ∧ b ≤ n
            · rw [if_pos qb2] at hab; have := hp5 _ _ (by omega) (by omega) hab; omega
            · rw [if_neg qb2] at hab; have := hp5 _ _ (by omega) (by omega) hab; omega
        · rw [if_neg qa] at hab
          by_cases qa2 : j + 1 < a ∧ a ≤ n
          · rw [if_pos qa2] at hab
            by_cases qb : b = j + 1
            · rw [if_pos qb] at hab; have := hp5 _ _ (by omega) (by omega) hab; omega
            · rw [if_neg qb] at hab
              by_cases qb2 : j + 1 < b ∧ b ≤ n
              · rw [if_pos qb2] at hab; have := hp5 _ _ (by omega) (by omega) hab; omega
              · rw [if_neg qb2] at hab; have := hp5 _ _ (by omega) (by omega) hab; omega
          · rw [if_neg qa2] at hab
            by_cases qb : b = j + 1
            · rw [if_pos qb] at hab; have := hp5 _ _ (by omega) (by omega) hab; omega
            · rw [if_neg qb] at hab
              by_cases qb2 : j + 1 < b ∧ b ≤ n
              · rw [if_pos qb2] at hab; have := hp5 _ _ (by omega) (by omega) hab; omega
              · rw [if_neg qb2] at hab; exact hp5 _ _ (by omega) (by omega) hab
      · intro z hz
        simp only [Nat.zero_add]; rw [va_s]
        by_cases q : z = j + 1
        · rw [if_pos q]
          obtain ⟨k, k1, k2, k3, k4, k5⟩ := hp6 j hj
          rw [q2] at k2 k4 k5
          refine ⟨k, k1, ?_, ?_, ?_, fun i hi => ?_⟩
          · rw [up2_ne (by omega), up2_o (by omega), up2_s]; exact k2
          · dsimp only; rw [if_pos (by omega), show 301 + 500 * w + 36 * z - 36 = 301 + 500 * w + 36 * j by omega]; exact k3
          · dsimp only; rw [up2_ne (by omega), up2_s, up2_ne (by omega), if_pos (by omega), show 301 + 500 * w + 36 * z + 1 - 36 = 301 + 500 * w + 36 * j + 1 by omega]; exact k4
          · dsimp only; rw [show 21 + 26 * w + 2 * m1 + 1 = 22 + 26 * w + 2 * m1 by omega, va_s, pk_cpy_in (by omega) (by omega), if_pos (by omega), show 301 + 500 * w + 36 * z + 2 + i - 36 = 301 + 500 * w + 36 * j + 2 + i by omega, show 0 + (i - 0) = i by omega]
            have := k5 i hi
            rw [show 21 + 26 * w + 2 * m2 + 1 = 22 + 26 * w + 2 * m2 by omega] at this
            exact this
        · rw [if_neg q]
          by_cases q3 : j + 1 < z ∧ z ≤ n
          · rw [if_pos q3]
            obtain ⟨m, hm, e⟩ := hp4 (z - 1) (by omega)
            have hmm : m ≠ m1 := by
              intro q
              have := hp5 (z - 1) n (by omega) (by omega) (by rw [e, q1, q])
              omega
            refine (hp6 (z - 1) (by omega)).move (by rw [e, up2_ne (by omega), up2_ne (by omega), up2_ne (by omega)]) (by rw [e, va_o (by omega)]) (fun k hk => ?_)
            rw [if_pos (by omega), show 301 + 500 * w + 36 * z + k - 36 = 301 + 500 * w + 36 * (z - 1) + k by omega]
          · rw [if_neg q3]
            obtain ⟨m, hm, e⟩ := hp4 z (by omega)
            have hmm : m ≠ m1 := by
              intro q
              have := hp5 z n (by omega) (by omega) (by rw [e, q1, q])
              omega
            refine (hp6 z (by omega)).move (by rw [e, up2_ne (by omega), up2_ne (by omega), up2_ne (by omega)]) (by rw [e, va_o (by omega)]) (fun k hk => ?_)
            rw [if_neg (by omega), if_neg (by omega)]
  · rw [f_X5_twice, e5, bC_s, if_neg ne10, f_X6_twice, e6, bM_s, if_pos rfl]
    exact ⟨_, _, _, _, _, _, _, _, _, rfl, rfl, hR⟩
theorem sim_bend {nb : Nat} {kp : Nat → Option Nat} {sc ar : Nat → Nat → Int32} {fr : Nat → Nat → Nat} {st kpM ik : Nat → Int32} (hR : Rel nb kp sc ar fr st kpM ik) (x1 : Int32) (x2 : Int32) (x3 : Int32) (x4 : Int32) (wt : Int32) (sm : Int64) (ld ln : Int32) : ∃ r sc' ar' fr' st' wt' sm' ld' ln', f_X5_bend nb x1 x2 x3 x4 sc ar fr = some (r, sc', ar', fr') ∧ f_X6_bend x1 x2 x3 x4 st wt sm ld ln = some (r, st', wt', sm', ld', ln') ∧ Rel nb kp sc' ar' fr' st' kpM ik := by
  have hnb := hR.1
  rcases frm hR x1 x2 wt sm ld ln with ⟨w, j, L, hw, hj, hL, rfl, rfl, g1, g2, e5, e6⟩ | ⟨e5, e6⟩
  · obtain ⟨n, hn, s1, s2, hp4, hp5, hp6⟩ := hR.2.1.choose_spec.2.2 w hw
    have hpk := RW.pks (L := L) hnb hw hp4
    simp only [Nat.zero_add] at s1 hp4 hp5 hp6
    have hnL : n = L := (nI_eq (by omega) (by omega)).mp (s2.symm.trans g2)
    subst hnL
    obtain ⟨m, hm, q1⟩ := hp4 j (by omega)
    obtain ⟨len, k1, k2, k3, k4, k5⟩ := hp6 j hj
    rw [q1] at k2 k4 k5
    have hi : ((nI len - 1) : Int32).toInt64.toInt = (len : Int) - 1 := by
      rw [Int32.toInt_toInt64, show (1 : Int32) = nI 1 from rfl, pk_sub_toInt (by omega) (by decide)]; rfl
    have em : f_X6_bend (nI w) (nI j) x3 x4 st wt sm ld ln = if 0 ≤ x3.toInt ∧ x3.toInt ≤ (len : Int) - 1 then (if 1 ≤ x4.toInt ∧ x4.toInt ≤ 255 then (bd ((nI (301 + 500 * w + 36 * j) + 2) + x3) fun y15 => rd st 8000 y15 fun v16 => bd ((v16 ^^^ x4)) fun y17 => wr st 8000 y15 y17 fun st18 => rd st18 8000 y15 fun v19 => some (v19, st18, wt, sm, ld, ln)) else some (-1, st, wt, sm, ld, ln)) else some (-1, st, wt, sm, ld, ln) := by
      rw [f_X6_bend, e6, bM_s, if_neg ne10, frameAt_s, bx_s, rd_n (by omega) (by decide), k3, in_spec x3 (lo := 0) 0 ((len : Int) - 1) rfl hi, bx_s, in_spec x4 (lo := 1) (hi := 255) 1 255 rfl rfl, bx_s, bx_s]
      by_cases c1 : 0 ≤ x3.toInt ∧ x3.toInt ≤ (len : Int) - 1
      · rw [if_pos c1, if_pos c1, if_neg ne10]
        by_cases c2 : 1 ≤ x4.toInt ∧ x4.toInt ≤ 255
        · rw [if_pos c2, if_pos c2, if_neg ne10]
        · rw [if_neg c2, if_neg c2, if_pos rfl]
      · rw [if_neg c1, if_neg c1, if_pos rfl]
    have b1 := (s32 x4 1 1 rfl).1
    have b255 := (s32 x4 255 255 rfl).2.1
    have b0 := (s32 x3 0 0 rfl).1
    rw [f_X5_bend, e5, bC_s, if_pos rfl, em]
    by_cases c1 : x4 < 1
    · have := b1.mp c1
      rw [if_pos c1]
      by_cases z : 0 ≤ x3.toInt ∧ x3.toInt ≤ (len : Int) - 1
      · rw [if_pos z, if_neg (by omega)]; exact ⟨_, _, _, _, _, _, _, _, _, rfl, rfl, hR⟩
      · rw [if_neg z]; exact ⟨_, _, _, _, _, _, _, _, _, rfl, rfl, hR⟩
    have c1' : ¬ x4.toInt < 1 := fun q => c1 (b1.mpr q)
    rw [if_neg c1]
    by_cases c2 : x4 ≤ 255
    · have c2' := b255.mp c2
      rw [if_pos c2, gd_t (p_lk hnb), rdR_n (p_wires hnb) hw (by decide), nI_clamp (by omega), show 0 + 18 + 1 + 26 * w = 19 + 26 * w by omega, gd_t (p_wire hnb hw), show 19 + 26 * w + 1 = 20 + 26 * w by omega, rdR_n (p_frs hnb hw) (by omega) (by decide), nI_clamp (by omega), q1]
      by_cases c3 : x3 < 0
      · have := b0.mp c3
        rw [if_pos c3, if_neg (by omega)]
        exact ⟨_, _, _, _, _, _, _, _, _, rfl, rfl, hR⟩
      obtain ⟨i, hii, rfl⟩ := nI_of c3
      rw [if_neg c3, gd_t (p_frm hnb hw hm), k2, nI_toInt hii]
      by_cases c4 : i < len
      · obtain ⟨y, hy, rfl⟩ := nI_of (x := x4) (fun q => by rw [Int32.lt_iff_toInt_lt] at q; have : (0 : Int32).toInt = 0 := rfl; omega)
        rw [nI_toInt hy] at c1' c2'
        obtain ⟨k6, bb, hb1, hb2⟩ := k5 i c4
        rw [nI_toInt hy, if_pos (nI_lt c4 (by omega)), if_pos (show (0 : Int) ≤ i ∧ (i : Int) ≤ (len : Int) - 1 by omega), if_pos (show 1 ≤ (y : Int) ∧ (y : Int) ≤ 255 by omega), show 21 + 26 * w + 2 * m + 1 = 22 + 26 * w + 2 * m by omega, rdA_n (p_frb hnb hw hm) (by rw [l_frb hw hm]; omega), bd_e, wrA_n (p_frb hnb hw hm) (by rw [l_frb hw hm]; omega), rdA_n (p_frb hnb hw hm) (by rw [l_frb hw hm]; omega), va_s, upd_s, bd_e, ad_2, nI_add, rd_n (by omega) (by decide), bd_e, wr_n (by omega) (by decide), rd_n (by omega) (by decide), upd_s]
        have k6' : ar (22 + 26 * w + 2 * m) i = st (301 + 500 * w + 36 * j + 2 + i) := by rw [show 22 + 26 * w + 2 * m = 21 + 26 * w + 2 * m + 1 by omega]; exact k6
        rw [k6', hb2, fb_xorI]
        refine ⟨_, _, _, _, _, _, _, _, _, rfl, rfl, ?_⟩
        refine hR.step (hR.2.1.setW hw (fun _ => ?_) (fun i hi => upd_o (by omega)) (fun p hp => rfl) (fun p hp => va_o (by omega)) (fun p hp => rfl)) (fun p hp => rfl) (fun p hp => va_o (by omega)) (fun p hp => rfl)
        refine ⟨n, by omega, ?_, ?_, ?_, ?_, ?_⟩
        · simp only [Nat.zero_add]; exact s1
        · rw [upd_o (by omega)]; exact s2
        · simp only [Nat.zero_add]; exact hp4
        · simp only [Nat.zero_add]; exact hp5
        · intro z hz
          simp only [Nat.zero_add]
          by_cases hzj : z = j
          · subst hzj
            rw [q1]
            refine ⟨len, k1, k2, by rw [upd_o (by omega)]; exact k3, by rw [upd_o (by omega)]; exact k4, fun a ha => ?_⟩
            rw [show 21 + 26 * w + 2 * m + 1 = 22 + 26 * w + 2 * m by omega, va_s]
            by_cases hai : a = i
            · subst hai
              rw [upd_s, upd_s]
              exact ⟨rfl, _, Nat.xor_lt_two_pow (n := 8) (by omega) (by omega), rfl⟩
            · rw [upd_o hai, upd_o (by omega)]
              have := k5 a ha
              rw [show 21 + 26 * w + 2 * m + 1 = 22 + 26 * w + 2 * m by omega] at this
              exact this
          · obtain ⟨m', hm', e⟩ := hp4 z (by omega)
            have hmm : m' ≠ m := by
              intro q
              exact hzj (hp5 z j (by omega) (by omega) (by rw [e, q1, q]))
            exact (hp6 z hz).move rfl (by rw [e, va_o (by omega)]) (fun k hk => upd_o (by omega))
      · rw [if_neg (nI_nlt (by omega) (by omega)), if_neg (by omega)]
        exact ⟨_, _, _, _, _, _, _, _, _, rfl, rfl, hR⟩
    · have c2' : ¬ x4.toInt ≤ 255 := fun q => c2 (b255.mpr q)
      rw [if_neg c2]
      by_cases z : 0 ≤ x3.toInt ∧ x3.toInt ≤ (len : Int) - 1
      · rw [if_pos z, if_neg (by omega)]; exact ⟨_, _, _, _, _, _, _, _, _, rfl, rfl, hR⟩
      · rw [if_neg z]; exact ⟨_, _, _, _, _, _, _, _, _, rfl, rfl, hR⟩
  · rw [f_X5_bend, e5, bC_s, if_neg ne10, f_X6_bend, e6, bM_s, if_pos rfl]
    exact ⟨_, _, _, _, _, _, _, _, _, rfl, rfl, hR⟩
