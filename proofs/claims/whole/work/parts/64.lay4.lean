section LD
variable {nb T s w L : Nat} {sc ar sc' ar' : Nat → Nat → Int32} {fr fr' : Nat → Nat → Nat} {st st' : Nat → Int32} {wt : Int32} {sm : Int64} {ld ln : Int32}
theorem ld134 {f len num : Nat} {g : Nat → Nat} {x3 : Int32} {st0 : Nat → Int32} (hf : f + 40 < 8000) (hlen : len ≤ 24) (hx : x3 = 1 ∨ x3 = 0) (hV : pVal len num g x3 < 2 ^ 32) : ∀ (m fu i : Nat) (st : Nat → Int32), i + m = 4 → m < fu → Ly f (3 + len + i) (pByt len num g x3) st0 st → ∃ st', f_X6_laysData_134 fu x3 (lN (pVal len num g x3)) (nI i) st wt sm (nI f) (nI (3 + len + i)) = some (st', wt, sm, nI f, nI (len + 8)) ∧ Ly f (len + 8) (pByt len num g x3) st0 st' := by
  intro m
  induction m with
  | zero =>
    intro fu i st h1 h2 h
    obtain ⟨fu, rfl⟩ : ∃ z, fu = z + 1 := ⟨fu - 1, by omega⟩
    have hi : i = 4 := by omega
    subst hi
    rw [f_X6_laysData_134, if_pos (show (4 : Int32) ≤ nI 4 by decide)]
    have e4 : 3 + len + 4 = 7 + len := by omega
    rcases hx with rfl | rfl
    · obtain ⟨st', e1, e2⟩ := lays_m (wt := wt) (sm := sm) (x := 254) hf (by omega) (by rw [e4, pByt_e, if_pos rfl]; decide) h
      rw [if_neg ne10, e1, bMv_s]
      rw [show 3 + len + 4 + 1 = len + 8 by omega] at e2 ⊢
      exact ⟨_, rfl, e2⟩
    · obtain ⟨st', e1, e2⟩ := lays_m (wt := wt) (sm := sm) (x := 253) hf (by omega) (by rw [e4, pByt_e, if_neg (by decide)]; decide) h
      rw [if_pos rfl, e1, bMv_s]
      rw [show 3 + len + 4 + 1 = len + 8 by omega] at e2 ⊢
      exact ⟨_, rfl, e2⟩
  | succ m ih =>
    intro fu i st h1 h2 h
    obtain ⟨fu, rfl⟩ : ∃ z, fu = z + 1 := ⟨fu - 1, by omega⟩
    rw [f_X6_laysData_134, if_neg (show ¬ (4 : Int32) ≤ nI i from nI_ge (b := 4) (by omega) (by decide)), byt_m _ (by omega)]
    obtain ⟨st1, e1, e2⟩ := lays_m (wt := wt) (sm := sm) (x := nI (byt (lN (pVal len num g x3)) i)) hf (by omega) (by rw [byte_and (byt_lt _ _), byt_n hV, pByt_v (by omega)]) h
    rw [e1, bMv_s, bd_e, ad_1]
    exact ih fu (i + 1) st1 (by omega) (by omega) e2
theorem ld57 {f len num q : Nat} {g : Nat → Nat} {x3 : Int32} {st0 : Nat → Int32} (hf : f + 40 < q) (hq : q + 30 < 8000) (hlen : len ≤ 24) (hx : x3 = 1 ∨ x3 = 0) (hn : num < 256) (hg : ∀ k, k < len → g k < 256) (s0 : st0 q = nI len) (s1 : ∀ k, k < len → st0 (q + 1 + k) = nI (g k)) : ∀ (m fu i c : Nat) (st : Nat → Int32), i + m = len → m < fu → c < 2 ^ 32 → crcF 3988292384 (pIn num g) (3 + i) m c = crcF 3988292384 (pIn num g) 1 (2 + len) 4294967295 → Ly f (3 + i) (pByt len num g x3) st0 st → ∃ st' sm', f_X6_laysData_57 fu x3 (nI q) (nI i) st wt (lN c) (nI f) (nI (3 + i)) = some (st', wt, sm', nI f, nI (len + 8)) ∧ Ly f (len + 8) (pByt len num g x3) st0 st' := by
  intro m
  induction m with
  | zero =>
    intro fu i c st h1 h2 hc hcc h
    obtain ⟨fu, rfl⟩ : ∃ z, fu = z + 1 := ⟨fu - 1, by omega⟩
    have hi : i = len := by omega
    subst hi
    have hc' : c = crcF 3988292384 (pIn num g) 1 (2 + i) 4294967295 := hcc
    have ep : lN (c ^^^ 4294967295) = lN (pSum i num g) := by rw [hc']; rfl
    rw [f_X6_laysData_57, rd_n (by omega) (by decide), h.2.2 q (by omega), s0, if_pos (nI_le (by omega) (by omega))]
    obtain ⟨st', e1, e2⟩ := ld134 (f := f) (wt := wt) (sm := lN c) (num := num) (g := g) (x3 := x3) (by omega) hlen hx (pVal_lt hn hg) 4 FU 0 st rfl (by decide) (by rw [Nat.add_zero]; exact h)
    rcases hx with rfl | rfl
    · rw [if_neg ne10, sumOf_m (o := 4294967295) (Or.inr ⟨by decide, rfl⟩), bM_s, ep, f_X6_laysData_129, show (lN (pSum i num g) ^^^ 4294967295 : Int64) = lN (pVal i num g 1) by unfold pVal; rw [if_pos rfl]; exact fb_xorL _ _]
      exact ⟨_, _, e1, e2⟩
    · rw [if_pos rfl, sumOf_m (o := 4294967295) (Or.inr ⟨by decide, rfl⟩), bM_s, ep, f_X6_laysData_129, show lN (pSum i num g) = lN (pVal i num g 0) by unfold pVal; rw [if_neg (by decide)]]
      exact ⟨_, _, e1, e2⟩
  | succ m ih =>
    intro fu i c st h1 h2 hc hcc h
    obtain ⟨fu, rfl⟩ : ∃ z, fu = z + 1 := ⟨fu - 1, by omega⟩
    have hb := hg i (by omega)
    rw [f_X6_laysData_57, rd_n (by omega) (by decide), h.2.2 q (by omega), s0, if_neg (nI_ge (by omega) (by omega)), ad_1, nI_add, rd_n (by omega) (by decide), h.2.2 (q + 1 + i) (by omega), s1 i (by omega)]
    obtain ⟨st1, e1, e2⟩ := lays_m (wt := wt) (sm := lN c) (x := nI (g i)) (by omega) (by omega) (by rw [byte_and hb, pByt_g (by omega)]) h
    rw [e1, bMv_s, rd_n (by omega) (by decide), e2.2.2 (q + 1 + i) (by omega), s1 i (by omega), adds_m (p := 3988292384) (Or.inr ⟨by decide, rfl⟩) hb hc, bMv_s, bd_e, ad_1]
    refine ih fu (i + 1) _ st1 (by omega) (by omega) (cs8_lt (by decide) 8 _ (Nat.xor_lt_two_pow hc (by omega))) ?_ e2
    rw [← hcc, crcF, show pIn num g (3 + i) = g i by unfold pIn; rw [if_neg (by omega), if_neg (by omega), show 3 + i - 3 = i by omega]]
    rfl
theorem wpk_m {f len num q : Nat} {g : Nat → Nat} {x3 : Int32} (hf : f + 40 < q) (hq : q + 30 < 8000) (hlen : len ≤ 24) (hx : x3 = 1 ∨ x3 = 0) (hn : num < 64) (hg : ∀ k, k < len → g k < 256) (s0 : st q = nI len) (s1 : ∀ k, k < len → st (q + 1 + k) = nI (g k)) : ∃ st' sm', (bMv (f_X6_begins 1 st wt sm (nI f) 0) fun st10 wt11 sm12 ld13 ln14 =>
  bMv (f_X6_adds 0 1 st10 wt11 sm12 ld13 ln14) fun st16 wt17 sm18 ld19 ln20 =>
  bMv (f_X6_adds (nI num) 1 st16 wt17 sm18 ld19 ln20) fun st22 wt23 sm24 ld25 ln26 =>
  bMv (f_X6_lays 251 st22 wt23 sm24 ld25 ln26) fun st28 wt29 sm30 ld31 ln32 =>
  bMv (f_X6_lays 0 st28 wt29 sm30 ld31 ln32) fun st34 wt35 sm36 ld37 ln38 =>
  bMv (f_X6_lays (nI num) st34 wt35 sm36 ld37 ln38) fun st40 wt41 sm42 ld43 ln44 =>
  f_X6_laysData_57 FU x3 (nI q) 0 st40 wt41 sm42 ld43 ln44) = some (st', wt, sm', nI f, nI (len + 8)) ∧ Ly f (len + 8) (pByt len num g x3) st st' := by
  have h1 : cs8 3988292384 (4294967295 ^^^ 0) 8 < 2 ^ 32 := cs8_lt (by decide) 8 _ (by decide)
  have h2 : cs8 3988292384 (cs8 3988292384 (4294967295 ^^^ 0) 8 ^^^ num) 8 < 2 ^ 32 := cs8_lt (by decide) 8 _ (Nat.xor_lt_two_pow h1 (by omega))
  rw [begins_m (o := 4294967295) (Or.inr ⟨by decide, rfl⟩), bMv_s, show f_X6_adds 0 1 = f_X6_adds (nI 0) 1 from rfl, adds_m (p := 3988292384) (b := 0) (Or.inr ⟨by decide, rfl⟩) (by decide) (by decide), bMv_s, adds_m (p := 3988292384) (Or.inr ⟨by decide, rfl⟩) (by omega) h1, bMv_s]
  generalize hC : cs8 3988292384 (cs8 3988292384 (4294967295 ^^^ 0) 8 ^^^ num) 8 = C at *
  obtain ⟨s1', e1, y1⟩ := lays_m (wt := wt) (sm := lN C) (k := 0) (x := 251) (f := f) (b := pByt len num g x3) (by omega) (by decide) (show (251 &&& 255 : Int32) = nI 251 by decide) (Ly.init (st := st))
  rw [show f_X6_lays 251 st wt (lN C) (nI f) 0 = f_X6_lays 251 st wt (lN C) (nI f) (nI 0) from rfl, e1, bMv_s]
  obtain ⟨s2', e2, y2⟩ := lays_m (wt := wt) (sm := lN C) (x := 0) (by omega) (by decide) (show (0 &&& 255 : Int32) = nI 0 by decide) y1
  rw [e2, bMv_s]
  obtain ⟨s3', e3, y3⟩ := lays_m (wt := wt) (sm := lN C) (x := nI num) (by omega) (by decide) (by rw [byte_and (by omega)]; rfl) y2
  rw [e3, bMv_s]
  refine ld57 (f := f) hf hq hlen hx (by omega) hg s0 s1 len FU 0 C s3' (by omega) (by unfold FU; omega) h2 ?_ y3
  rw [← hC, show 2 + len = len + 1 + 1 by omega, crcF, crcF]
  rfl
end LD
