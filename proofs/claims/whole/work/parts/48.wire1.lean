section WIRES
variable {nb w : Nat} {sc ar : Nat → Nat → Int32} {fr : Nat → Nat → Nat} {st : Nat → Int32} {wt : Int32} {sm : Int64} {ld ln : Int32}
theorem RF.move {p f f' : Nat} {sc' ar' : Nat → Nat → Int32} {st' : Nat → Int32} (h : RF p f sc ar st) (hsc : sc' p = sc p) (har : ar' (p + 1) = ar (p + 1)) (hst : ∀ k, k < 36 → st' (f' + k) = st (f + k)) : RF p f' sc' ar' st' := by
  obtain ⟨n, h1, h2, h3, h4, h5⟩ := h
  have e0 := hst 0 (by omega)
  have e1 := hst 1 (by omega)
  rw [Nat.add_zero, Nat.add_zero] at e0
  refine ⟨n, h1, by rw [hsc]; exact h2, by rw [e0]; exact h3, by rw [hsc, e1]; exact h4, fun k hk => ?_⟩
  have e2 := hst (2 + k) (by omega)
  rw [show f' + (2 + k) = f' + 2 + k by omega, show f + (2 + k) = f + 2 + k by omega] at e2
  rw [har, e2]
  exact h5 k hk
/-- what remove makes of the row -/
def rmv (w j L : Nat) (st : Nat → Int32) : Nat → Int32 := fun x => if 301 + 500 * w + 36 * j ≤ x ∧ x < 301 + 500 * w + 36 * (L - 1) then st (x + 36) else if 301 + 500 * w + 36 * (L - 1) ≤ x ∧ x < 301 + 500 * w + 36 * L then 0 else if x = 300 + 500 * w then nI (L - 1) else st x
theorem rm57 {L : Nat} (hw : w < 2) (hL : L ≤ 12) (h1 : 1 ≤ L) : ∀ (n fu i : Nat) (st : Nat → Int32), i + n = 301 + 500 * w + 36 * L → n < fu → 300 + 500 * w < i → st (300 + 500 * w) = nI L → f_X6_remove_57 fu (nI w) (nI L) (nI i) st wt sm ld ln = some ((fun x => if i ≤ x ∧ x < 301 + 500 * w + 36 * L then 0 else if x = 300 + 500 * w then nI (L - 1) else st x), wt, sm, ld, ln) := by
  intro n
  induction n with
  | zero =>
    intro fu i st hi hfu hlo h0
    obtain ⟨fu, rfl⟩ : ∃ z, fu = z + 1 := ⟨fu - 1, by omega⟩
    rw [f_X6_remove_57, frameAt_s, bx_s, if_pos (nI_le (by omega) (by omega)), wireAt_s, bx_s, rd_n (by omega) (by decide), h0, bd_e, show (1 : Int32) = nI 1 from rfl, pk_sub h1, wr_n (by omega) (by decide)]
    congr 2
    funext x
    rw [if_neg (by omega)]
    by_cases q : x = 300 + 500 * w
    · subst q; rw [if_pos rfl, upd_s]
    · rw [if_neg q, upd_o q]
  | succ n ih =>
    intro fu i st hi hfu hlo h0
    obtain ⟨fu, rfl⟩ : ∃ z, fu = z + 1 := ⟨fu - 1, by omega⟩
    rw [f_X6_remove_57, frameAt_s, bx_s, if_neg (nI_ge (by omega) (by omega)), wr_n (by omega) (by decide), bd_e, ad_1]
    rw [ih fu (i + 1) _ (by omega) (by omega) (by omega) (by rw [upd_o (by omega)]; exact h0)]
    congr 2
    funext x
    by_cases q : x = i
    · subst q; rw [if_neg (by omega), if_neg (by omega), upd_s, if_pos (by omega)]
    · by_cases r : i ≤ x ∧ x < 301 + 500 * w + 36 * L
      · rw [if_pos (by omega), if_pos r]
      · rw [if_neg (by omega), if_neg r, upd_o q]
theorem rm13 {L : Nat} (hw : w < 2) (hL : L ≤ 12) (h1 : 1 ≤ L) : ∀ (n fu i : Nat) (st : Nat → Int32), i + n = 301 + 500 * w + 36 * (L - 1) → n < fu → 300 + 500 * w < i → st (300 + 500 * w) = nI L → f_X6_remove_13 fu (nI w) (nI L) (nI i) st wt sm ld ln = some ((fun x => if i ≤ x ∧ x < 301 + 500 * w + 36 * (L - 1) then st (x + 36) else if 301 + 500 * w + 36 * (L - 1) ≤ x ∧ x < 301 + 500 * w + 36 * L then 0 else if x = 300 + 500 * w then nI (L - 1) else st x), wt, sm, ld, ln) := by
  have e1 : nI L - 1 = nI (L - 1) := pk_sub (b := 1) h1
  intro n
  induction n with
  | zero =>
    intro fu i st hi hfu hlo h0
    obtain ⟨fu, rfl⟩ : ∃ z, fu = z + 1 := ⟨fu - 1, by omega⟩
    rw [f_X6_remove_13, e1, frameAt_s, bx_s, if_pos (nI_le (by omega) (by omega)), bx_s, rm57 hw hL h1 36 FU _ st (by omega) (by decide) (by omega) h0]
    congr 2
    funext x
    rw [if_neg (show ¬ (i ≤ x ∧ x < 301 + 500 * w + 36 * (L - 1)) by omega)]
  | succ n ih =>
    intro fu i st hi hfu hlo h0
    obtain ⟨fu, rfl⟩ : ∃ z, fu = z + 1 := ⟨fu - 1, by omega⟩
    rw [f_X6_remove_13, e1, frameAt_s, bx_s, if_neg (nI_ge (by omega) (by omega)), ad_36, rd_n (by omega) (by decide), wr_n (by omega) (by decide), bd_e, ad_1]
    rw [ih fu (i + 1) _ (by omega) (by omega) (by omega) (by rw [upd_o (by omega)]; exact h0)]
    congr 2
    funext x
    by_cases q : x = i
    · subst q
      rw [if_neg (by omega), if_neg (by omega), if_neg (by omega), upd_s, if_pos (by omega)]
    · by_cases r : i ≤ x ∧ x < 301 + 500 * w + 36 * (L - 1)
      · rw [if_pos (by omega), if_pos r, upd_o (by omega)]
      · rw [if_neg (by omega), if_neg r, upd_o q]
theorem remove_m {j L : Nat} (hw : w < 2) (hL : L ≤ 12) (hj : j < L) (h0 : st (300 + 500 * w) = nI L) : f_X6_remove (nI w) (nI j) st wt sm ld ln = some (rmv w j L st, wt, sm, ld, ln) := by
  rw [f_X6_remove, many_m hw, bM_s, h0, frameAt_s, bx_s]
  exact rm13 hw hL (by omega) (36 * (L - 1 - j)) FU _ st (by omega) (by unfold FU; omega) (by omega) h0
/-- what takeOff makes of a wire's frames -/
def tkf (j L : Nat) (g : Nat → Nat) : Nat → Nat := fun z => if j ≤ z ∧ z < L - 1 then g (z + 1) else if z = L - 1 then g j else g z
theorem tk19 {L q : Nat} (hnb : 1 ≤ nb) (hw : w < 2) (hL : L ≤ 12) (h1 : 1 ≤ L) (hs : sc (19 + 26 * w) 1 = nI (L - 1)) (hq : pk nb 1 q = true) : ∀ (n fu i : Nat) (fr : Nat → Nat → Nat), i + n = L - 1 → n < fu → (∀ z, z < 12 → pk nb 1 (fr (20 + 26 * w) z) = true) → f_X4_takeOff_19 nb fu (19 + 26 * w) q (nI i) sc ar fr = some (q, sc, ar, va_up fr (20 + 26 * w) (fun z => if i ≤ z ∧ z < L - 1 then fr (20 + 26 * w) (z + 1) else if z = L - 1 then q else fr (20 + 26 * w) z)) := by
  have g4 := p_wire (s := w) hnb hw
  have g10 := p_frs (s := w) hnb hw
  intro n
  induction n with
  | zero =>
    intro fu i fr hi hfu hpk
    obtain ⟨fu, rfl⟩ : ∃ z, fu = z + 1 := ⟨fu - 1, by omega⟩
    rw [f_X4_takeOff_19, gd_t g4, hs, if_pos (nI_le (by omega) (by omega)), show 19 + 26 * w + 1 = 20 + 26 * w by omega, wrF_n g10 (by omega) hq]
    congr 4
    funext p
    by_cases hp : p = 20 + 26 * w
    · subst hp
      rw [va_s]; funext z
      rw [if_neg (by omega)]
      by_cases hz : z = L - 1
      · rw [if_pos hz, hz, up2_s]
      · rw [if_neg hz, up2_o hz]
    · rw [va_o hp, up2_ne hp]
  | succ n ih =>
    intro fu i fr hi hfu hpk
    obtain ⟨fu, rfl⟩ : ∃ z, fu = z + 1 := ⟨fu - 1, by omega⟩
    rw [f_X4_takeOff_19, gd_t g4, hs, if_neg (nI_ge (by omega) (by omega)), show 19 + 26 * w + 1 = 20 + 26 * w by omega, ad_1, rdR_n g10 (by omega) (by decide), nI_clamp (by omega), wrF_n g10 (by omega) (hpk _ (by omega)), bd_e]
    rw [ih fu (i + 1) _ (by omega) (by omega) (fun z hz => by
      by_cases hzi : z = i
      · rw [hzi, up2_s]; exact hpk _ (by omega)
      · rw [up2_o hzi]; exact hpk z hz)]
    congr 4
    funext p
    by_cases hp : p = 20 + 26 * w
    · subst hp
      rw [va_s, va_s]; funext z
      by_cases hz : z = i
      · subst hz
        rw [if_neg (by omega), if_neg (by omega), up2_s, if_pos (by omega)]
      · by_cases hr : i ≤ z ∧ z < L - 1
        · rw [if_pos (by omega), if_pos hr, up2_o (by omega)]
        · rw [if_neg (by omega), if_neg hr, up2_o hz]
    · rw [va_o hp, va_o hp, up2_ne hp]
theorem takeOff_c {j L : Nat} (hnb : 1 ≤ nb) (hw : w < 2) (hL : L ≤ 12) (hj : j < L) (hs : sc (19 + 26 * w) 1 = nI L) (hpk : ∀ z, z < 12 → pk nb 1 (fr (20 + 26 * w) z) = true) : f_X4_takeOff nb (19 + 26 * w) (nI j) sc ar fr = some (fr (20 + 26 * w) j, up2 sc (19 + 26 * w) 1 (nI (L - 1)), ar, va_up fr (20 + 26 * w) (tkf j L (fr (20 + 26 * w)))) := by
  rw [f_X4_takeOff, gd_t (p_wire hnb hw), show 19 + 26 * w + 1 = 20 + 26 * w by omega, rdR_n (p_frs hnb hw) (by omega) (by decide), nI_clamp (by omega), bd_e, hs, show (1 : Int32) = nI 1 from rfl, pk_sub (by omega), bd_e]
  exact tk19 hnb hw hL (by omega) up2_s (hpk j (by omega)) (L - 1 - j) FU j fr (by omega) (by unfold FU; omega) hpk
theorem RW.pks {L : Nat} (hnb : 1 ≤ nb) (hw : w < 2) (h : ∀ j, j < 12 → ∃ m, m < 12 ∧ fr (0 + 20 + 26 * w) j = 0 + 21 + 26 * w + 2 * m) : ∀ z, z < 12 → pk nb 1 (fr (20 + 26 * w) z) = true := by
  intro z hz
  obtain ⟨m, hm, e⟩ := h z hz
  simp only [Nat.zero_add] at e
  rw [e]
  exact p_frm hnb hw hm
/-- a frame goes off a wire, on both sides -/
theorem RW.off {j L : Nat} (hw : w < 2) (hL : L ≤ 12) (hj : j < L) (hs : sc (19 + 26 * w) 1 = nI L) (h0 : st (300 + 500 * w) = nI L) (h : RW 0 w sc ar fr st) : RW 0 w (up2 sc (19 + 26 * w) 1 (nI (L - 1))) ar (va_up fr (20 + 26 * w) (tkf j L (fr (20 + 26 * w)))) (rmv w j L st) := by
  obtain ⟨n, h1, h2, h3, h4, h5, h6⟩ := h
  simp only [Nat.zero_add] at h2 h3 h4 h5 h6
  have hnL : n = L := (nI_eq (by omega) (by omega)).mp (h3.symm.trans h0)
  subst hnL
  refine ⟨n - 1, by omega, ?_, ?_, ?_, ?_, ?_⟩
  · simp only [Nat.zero_add]; rw [up2_s]
  · unfold rmv; rw [if_neg (by omega), if_neg (by omega), if_pos rfl]
  · intro z hz
    simp only [Nat.zero_add]; rw [va_s]; unfold tkf
    by_cases q : j ≤ z ∧ z < n - 1
    · rw [if_pos q]; exact h4 _ (by omega)
    · rw [if_neg q]
      by_cases q2 : z = n - 1
      · rw [if_pos q2]; exact h4 _ (by omega)
      · rw [if_neg q2]; exact h4 _ hz
  · intro a b ha hb hab
    simp only [Nat.zero_add] at hab; rw [va_s] at hab; unfold tkf at hab
    by_cases qa : j ≤ a ∧ a < n - 1
    · rw [if_pos qa] at hab
      by_cases qb : j ≤ b ∧ b < n - 1
      · rw [if_pos qb] at hab; have := h5 _ _ (by omega) (by omega) hab; omega
      · rw [if_neg qb] at hab
        by_cases qb2 : b = n - 1
        · rw [if_pos qb2] at hab; have := h5 _ _ (by omega) (by omega) hab; omega
        · rw [if_neg qb2] at hab; have := h5 _ _ (by omega) (by omega) hab; omega
    · rw [if_neg qa] at hab
      by_cases qa2 : a = n - 1
      · rw [if_pos qa2] at hab
        by_cases qb : j ≤ b ∧ b < n - 1
        · rw [if_pos qb] at hab; have := h5 _ _ (by omega) (by omega) hab; omega
        · rw [if_neg qb] at hab
          by_cases qb2 : b = n - 1
          · omega
          · rw [if_neg qb2] at hab; have := h5 _ _ (by omega) (by omega) hab; omega
      · rw [if_neg qa2] at hab
        by_cases qb : j ≤ b ∧ b < n - 1
        · rw [if_pos qb] at hab; have := h5 _ _ (by omega) (by omega) hab; omega
        · rw [if_neg qb] at hab
          by_cases qb2 : b = n - 1
          · rw [if_pos qb2] at hab; have := h5 _ _ (by omega) (by omega) hab; omega
          · rw [if_neg qb2] at hab; exact h5 _ _ (by omega) (by omega) hab
  · intro z hz
    simp only [Nat.zero_add]; rw [va_s]; unfold tkf
    by_cases q : j ≤ z ∧ z < n - 1
    · rw [if_pos q]
      obtain ⟨m, hm, e⟩ := h4 (z + 1) (by omega)
      refine (h6 (z + 1) (by omega)).move (by rw [up2_ne (by rw [e]; omega)]) rfl (fun k hk => ?_)
      unfold rmv
      rw [if_pos (by omega), show 301 + 500 * w + 36 * z + k + 36 = 301 + 500 * w + 36 * (z + 1) + k by omega]
    · rw [if_neg q, if_neg (by omega)]
      obtain ⟨m, hm, e⟩ := h4 z (by omega)
      refine (h6 z (by omega)).move (by rw [up2_ne (by rw [e]; omega)]) rfl (fun k hk => ?_)
      unfold rmv
      rw [if_neg (by omega), if_neg (by omega), if_neg (by omega)]
theorem rmv_o {j L i : Nat} (hL : L ≤ 12) (hj : j < L) (h : i < 300 + 500 * w ∨ 800 + 500 * w ≤ i) : rmv w j L st i = st i := by
  unfold rmv
  rw [if_neg (by omega), if_neg (by omega), if_neg (by omega)]
end WIRES
/-- a wire alone changes -/
theorem RL_.setW {sc ar sc' ar' : Nat → Nat → Int32} {fr fr' : Nat → Nat → Nat} {st st' : Nat → Int32} {w : Nat} (h : RL_ 0 sc ar fr st) (hw : w < 2) (hW : RW 0 w sc ar fr st → RW 0 w sc' ar' fr' st') (hst : ∀ i, i < 300 + 500 * w ∨ 800 + 500 * w ≤ i → st' i = st i) (hsc : ∀ p, p < 19 + 26 * w ∨ 45 + 26 * w ≤ p → sc' p = sc p) (har : ∀ p, p < 19 + 26 * w ∨ 45 + 26 * w ≤ p → ar' p = ar p) (hfr : ∀ p, p < 19 + 26 * w ∨ 45 + 26 * w ≤ p → fr' p = fr p) : RL_ 0 sc' ar' fr' st' := by
  obtain ⟨T, hg, he, hww⟩ := h
  refine ⟨T, hg.cong (fun i hi => hst i (by omega)) (hsc _ (by omega)) (har _ (by omega)), fun s hs => ?_, fun w' hw' => ?_⟩
  · obtain ⟨o, n, u, g, t, d, ww, v, hv, h⟩ := he s hs
    exact ⟨o, n, u, g, t, d, ww, v, hv, h.cong hs (fun i hi => hst i (by omega)) (hsc _ (by omega)) (fun p a b => har p (by omega))⟩
  · by_cases e : w' = w
    · subst e; exact hW (hww w' hw')
    · exact (hww w' hw').cong hw' (fun i a b => hst i (by omega)) (fun p a b => hsc p (by omega)) (fun p a b => har p (by omega)) (hfr _ (by omega))
/-- is there such a frame: both sides -/
theorem frm {nb : Nat} {kp : Nat → Option Nat} {sc ar : Nat → Nat → Int32} {fr : Nat → Nat → Nat} {st kpM ik : Nat → Int32} (hR : Rel nb kp sc ar fr st kpM ik) (x1 x2 : Int32) (wt : Int32) (sm : Int64) (ld ln : Int32) : (∃ w j L, w < 2 ∧ j < L ∧ L ≤ 12 ∧ x1 = nI w ∧ x2 = nI j ∧ sc (19 + 26 * w) 1 = nI L ∧ st (300 + 500 * w) = nI L ∧ f_X5_isNoFrame nb x1 x2 sc ar fr = some (0, sc, ar, fr) ∧ f_X6_isFrame x1 x2 st wt sm ld ln = some (1, st, wt, sm, ld, ln)) ∨ (f_X5_isNoFrame nb x1 x2 sc ar fr = some (1, sc, ar, fr) ∧ f_X6_isFrame x1 x2 st wt sm ld ln = some (0, st, wt, sm, ld, ln)) := by
  have hnb := hR.1
  rcases side x1 with ⟨w, hw, rfl⟩ | ⟨e6, e5⟩
  · obtain ⟨L, hL, g1, g2, -⟩ := hR.2.1.choose_spec.2.2 w hw
    simp only [Nat.zero_add] at g1
    have hi : ((nI L - 1) : Int32).toInt64.toInt = (L : Int) - 1 := by
      rw [Int32.toInt_toInt64, show (1 : Int32) = nI 1 from rfl, pk_sub_toInt (by omega) (by decide)]; rfl
    have em : f_X6_isFrame (nI w) x2 st wt sm ld ln = if 0 ≤ x2.toInt ∧ x2.toInt ≤ (L : Int) - 1 then some (1, st, wt, sm, ld, ln) else some (0, st, wt, sm, ld, ln) := by
      rw [f_X6_isFrame, isEnd_s hw, bx_s, if_neg ne10, many_m hw, bM_s, g2, in_spec x2 (lo := 0) 0 ((L : Int) - 1) rfl hi, bx_s]
      by_cases q : 0 ≤ x2.toInt ∧ x2.toInt ≤ (L : Int) - 1
      · rw [if_pos q, if_pos q, if_neg ne10]
      · rw [if_neg q, if_neg q, if_pos rfl]
    have b0 := (s32 x2 0 0 rfl).1
    by_cases h0 : x2 < 0
    · have := b0.mp h0
      refine Or.inr ⟨?_, ?_⟩
      · rw [f_X5_isNoFrame, noSide_s hw, bx_s, if_pos rfl, if_pos h0]
      · rw [em, if_neg (by omega)]
    · obtain ⟨j, hj, rfl⟩ := nI_of h0
      rw [nI_toInt hj] at em
      have ec : f_X5_isNoFrame nb (nI w) (nI j) sc ar fr = if nI j < nI L then some (0, sc, ar, fr) else some (1, sc, ar, fr) := by
        rw [f_X5_isNoFrame, noSide_s hw, bx_s, if_pos rfl, if_neg h0, gd_t (p_lk hnb), rdR_n (p_wires hnb) hw (by decide), nI_clamp (by omega), show 0 + 18 + 1 + 26 * w = 19 + 26 * w by omega, gd_t (p_wire hnb hw), g1]
      by_cases hjL : j < L
      · exact Or.inl ⟨w, j, L, hw, hjL, hL, rfl, rfl, g1, g2, by rw [ec, if_pos (nI_lt hjL (by omega))], by rw [em, if_pos (by omega)]⟩
      · exact Or.inr ⟨by rw [ec, if_neg (nI_nlt (by omega) hj)], by rw [em, if_neg (by omega)]⟩
  · exact Or.inr ⟨by simp only [f_X5_isNoFrame, e5, bx_s, i10, if_false], by simp only [f_X6_isFrame, e6, bx_s, i00, if_true]⟩
theorem sim_lose {nb : Nat} {kp : Nat → Option Nat} {sc ar : Nat → Nat → Int32} {fr : Nat → Nat → Nat} {st kpM ik : Nat → Int32} (hR : Rel nb kp sc ar fr st kpM ik) (x1 : Int32) (x2 : Int32) (wt : Int32) (sm : Int64) (ld ln : Int32) : ∃ r sc' ar' fr' st' wt' sm' ld' ln', f_X5_lose nb x1 x2 sc ar fr = some (r, sc', ar', fr') ∧ f_X6_lose x1 x2 st wt sm ld ln = some (r, st', wt', sm', ld', ln') ∧ Rel nb kp sc' ar' fr' st' kpM ik := by
  have hnb := hR.1
  rcases frm hR x1 x2 wt sm ld ln with ⟨w, j, L, hw, hj, hL, rfl, rfl, g1, g2, e5, e6⟩ | ⟨e5, e6⟩
  · obtain ⟨n, -, -, -, hp4, -⟩ := hR.2.1.choose_spec.2.2 w hw
    have hpk := RW.pks (L := L) hnb hw hp4
    rw [f_X5_lose, e5, bC_s, if_pos rfl, gd_t (p_lk hnb), rdR_n (p_wires hnb) hw (by decide), nI_clamp (by omega), show 0 + 18 + 1 + 26 * w = 19 + 26 * w by omega, gd_t (p_wire hnb hw), takeOff_c hnb hw hL hj g1 hpk, bC_s, up2_s, f_X6_lose, e6, bM_s, if_neg ne10, remove_m hw hL hj g2, bMv_s, many_m hw, bM_s]
    have e : rmv w j L st (300 + 500 * w) = nI (L - 1) := by unfold rmv; rw [if_neg (by omega), if_neg (by omega), if_pos rfl]
    rw [e]
    refine ⟨_, _, _, _, _, _, _, _, _, rfl, rfl, ?_⟩
    exact hR.step (hR.2.1.setW hw (fun h => h.off hw hL hj g1 g2) (fun i hi => rmv_o hL hj hi) (fun p hp => up2_ne (by omega)) (fun p hp => rfl) (fun p hp => va_o (by omega))) (fun p hp => up2_ne (by omega)) (fun p hp => rfl) (fun p hp => va_o (by omega))
  · rw [f_X5_lose, e5, bC_s, if_neg ne10, f_X6_lose, e6, bM_s, if_pos rfl]
    exact ⟨_, _, _, _, _, _, _, _, _, rfl, rfl, hR⟩
