section LE
variable {nb T s w L : Nat} {K : Nat → Nat} {sc ar sc' ar' : Nat → Nat → Int32} {fr fr' : Nat → Nat → Nat} {st st' : Nat → Int32} {wt : Int32} {sm : Int64} {ld ln : Int32}
theorem Ly.out {f k : Nat} {b : Nat → Nat} {st0 : Nat → Int32} (h : Ly f k b st0 st) (hw : 300 + 500 * w ≤ f ∧ f + 36 ≤ 800 + 500 * w) : ∀ i, i < 300 + 500 * w ∨ 800 + 500 * w ≤ i → st i = st0 i := fun i hi => h.2.2 i (by omega)
theorem layWord (hnb : 1 ≤ nb) (hs : s < 2) {x2c x2m : Int32} {kd : Nat} (hx2 : (x2c = 3 ∧ kd = 16) ∨ (x2c = 2 ∧ kd = 0)) (hm2 : x2m = nI kd) (hW : RW 0 s sc ar fr st) {x : Int32} (hx : st 3 + st 0 = x) {w0 : Nat} (hw0 : w0 < 64) (h107 : st (107 + 100 * s) = nI w0) (h10 : sc (2 + 8 * s) 10 = nI w0) :
  ∃ p sc1 fr1 sc2 ar2 st2 sm2 ld2 ln2, (∀ arT, f_X4_layOneMore nb (19 + 26 * s) x sc arT fr = some (p, sc1, arT, fr1)) ∧ f_X0_writeWord nb (2 + 8 * s) p x2c sc1 ar fr1 = some (sc2, ar2, fr1) ∧ f_X6_laysWord (nI s) x2m st wt sm ld ln = some (st2, wt, sm2, ld2, ln2) ∧ RW 0 s sc2 ar2 fr1 st2 ∧ (∀ q, q < 19 + 26 * s ∨ 45 + 26 * s ≤ q → q ≠ 2 + 8 * s → sc2 q = sc q) ∧ (∀ j, sc2 (2 + 8 * s) j = if j = 13 then -4 else if j = 12 ∧ x2c = 3 then 0 else sc (2 + 8 * s) j) ∧ (∀ q, q < 19 + 26 * s ∨ 45 + 26 * s ≤ q → ar2 q = ar q ∧ fr1 q = fr q) ∧ (∀ i, i < 300 + 500 * s ∨ 800 + 500 * s ≤ i → st2 i = st i) := by
  obtain ⟨L, p, sc1, fr1, st1, e1, e2, e3, e4, e5⟩ := begin_sim (wt := wt) (sm := sm) (ld := ld) (ln := ln) hnb hs hW hx
  obtain ⟨m, hm, rfl⟩ := e3.at
  have hL := e3.1
  have hL2 := e3.2.1
  have hp7 : pk nb 7 (21 + 26 * s + 2 * m + 1) = true := by rw [show 21 + 26 * s + 2 * m + 1 = 22 + 26 * s + 2 * m by omega]; exact p_frb hnb hs hm
  have hl : lnA (21 + 26 * s + 2 * m + 1) = 32 := by rw [show 21 + 26 * s + 2 * m + 1 = 22 + 26 * s + 2 * m by omega]; exact l_frb hs hm
  have hnum : (((w0 : Int) - (1 : Nat)) % 64).toNat < 64 := by omega
  generalize hnumE : (((w0 : Int) - (1 : Nat)) % 64).toNat = num at hnum
  have b5 : f_X5_by64 (nI w0 - 1) = some (nI num) := by rw [← hnumE]; exact (by64_d (b := 1) (by omega) (by decide)).1
  have b6 : f_X6_by64 (nI w0 - 1) = some (nI num) := by rw [← hnumE]; exact (by64_d (b := 1) (by omega) (by decide)).2
  obtain ⟨ar2, c1, c2, c3⟩ := wword_c (sc := sc1) (ar := ar) (fr := fr1) (num := num) hx2 (p_frm hnb hs hm) hp7 hl (by omega)
  obtain ⟨st2, sm2, m1, m2⟩ := wword_m (wt := wt) (sm := sm) (f := 301 + 500 * s + 36 * (L - 1)) (st := st1) (kd := kd) (num := num) (x := x2m) (by omega) (by omega) hnum hm2
  have h10' : sc1 (2 + 8 * s) 10 = nI w0 := by rw [(e4 _ (by omega)).1]; exact h10
  refine ⟨_, sc1, fr1, (if x2c = 3 then up2 (up2 (up2 sc1 (21 + 26 * s + 2 * m) 1 6) (2 + 8 * s) 13 (-4)) (2 + 8 * s) 12 0 else up2 (up2 sc1 (21 + 26 * s + 2 * m) 1 6) (2 + 8 * s) 13 (-4)), ar2, st2, sm2, nI (301 + 500 * s + 36 * (L - 1)), nI 6, e1, ?_, ?_, ?_, ?_, ?_, ?_, ?_⟩
  · rw [f_X0_writeWord, gd_t (p_end hnb hs), h10', b5, bx_s, gd_t (p_frm hnb hs hm), c1, bCv_s, bd_e]
    by_cases q : x2c = 3
    · rw [if_pos q, if_pos q, bd_e]
    · rw [if_neg q, if_neg q]
  · rw [f_X6_laysWord, endAt_s, bx_s, ad_7, show 100 + 100 * s + 7 = 107 + 100 * s by omega, rd_n (by omega) (by decide), h107, b6, bx_s, e2, bMv_s]
    exact m1
  · have hsc : ∀ q, q ≠ 2 + 8 * s → (if x2c = 3 then up2 (up2 (up2 sc1 (21 + 26 * s + 2 * m) 1 6) (2 + 8 * s) 13 (-4)) (2 + 8 * s) 12 0 else up2 (up2 sc1 (21 + 26 * s + 2 * m) 1 6) (2 + 8 * s) 13 (-4)) q = up2 sc1 (21 + 26 * s + 2 * m) 1 6 q := by
      intro q hq
      split
      · rw [up2_ne hq, up2_ne hq]
      · rw [up2_ne hq]
    refine e3.close (n := 6) (b := wByt kd num) (Or.inl rfl) (fun k _ => wByt_lt (by omega) (by omega)) (fun q hq _ _ => c2 q hq) c3 (fun q q1 q2 q3 => ?_) ?_ ?_ m2
    · rw [hsc q (by omega), up2_ne q1]
    · rw [hsc _ (by omega), up2_o (by decide)]
    · rw [hsc _ (by omega), up2_s]; rfl
  · intro q q1 q2
    rw [← (e4 q q1).1]
    split
    · rw [up2_ne q2, up2_ne q2, up2_ne (by omega)]
    · rw [up2_ne q2, up2_ne (by omega)]
  · intro j
    have ej : sc1 (2 + 8 * s) j = sc (2 + 8 * s) j := by rw [(e4 _ (by omega)).1]
    by_cases q : x2c = 3
    · rw [if_pos q]
      by_cases j13 : j = 13
      · rw [j13, if_pos rfl, up2_o (by decide), up2_s]
      · rw [if_neg j13]
        by_cases j12 : j = 12
        · rw [j12, if_pos ⟨rfl, q⟩, up2_s]
        · rw [if_neg (fun z => j12 z.1), up2_o j12, up2_o j13, up2_ne (by omega)]; exact ej
    · rw [if_neg q]
      by_cases j13 : j = 13
      · rw [j13, if_pos rfl, up2_s]
      · rw [if_neg j13, if_neg (fun z => q z.2), up2_o j13, up2_ne (by omega)]; exact ej
  · exact fun q hq => ⟨c2 q (by omega), (e4 q hq).2⟩
  · intro i hi
    rw [m2.out (w := s) (by omega) i hi, e5 i hi]
theorem layPk (hnb : 1 ≤ nb) (hs : s < 2) {x2 : Int32} (hx2 : x2 = 1 ∨ x2 = 0) {ar0 : Nat → Nat → Int32} (hW : RW 0 s sc ar0 fr st) (har0 : ∀ q, q ≠ 71 → ar q = ar0 q) {x : Int32} (hx : st 3 + st 0 = x) {i : Nat} (hi : i < 60) (hK : RK (ar0 (5 + 8 * s)) (ar0 (6 + 8 * s)) (i % 24) (1400 + 1600 * s + 25 * i) st) :
  ∃ p sc1 fr1 sc2 ar2 st2 sm2 ld2 ln2, (∀ arT, f_X4_layOneMore nb (19 + 26 * s) x sc arT fr = some (p, sc1, arT, fr1)) ∧ f_X0_writePacket nb (2 + 8 * s) p x2 (nI i) sc1 ar fr1 = some (sc2, ar2, fr1) ∧ f_X6_laysData (nI s) (nI i) x2 st wt sm ld ln = some (st2, wt, sm2, ld2, ln2) ∧ RW 0 s sc2 ar2 fr1 st2 ∧ (∀ q, q < 19 + 26 * s ∨ 45 + 26 * s ≤ q → sc2 q = sc q ∧ sc1 q = sc q) ∧ (∀ q, q < 19 + 26 * s ∨ 45 + 26 * s ≤ q → ar2 q = ar q ∧ fr1 q = fr q) ∧ (∀ i, i < 300 + 500 * s ∨ 800 + 500 * s ≤ i → st2 i = st i) := by
  obtain ⟨L, p, sc1, fr1, st1, e1, e2, e3, e4, e5⟩ := begin_sim (wt := wt) (sm := sm) (ld := ld) (ln := ln) hnb hs hW hx
  obtain ⟨m, hm, rfl⟩ := e3.at
  have hL := e3.1
  have hL2 := e3.2.1
  have hp7 : pk nb 7 (21 + 26 * s + 2 * m + 1) = true := by rw [show 21 + 26 * s + 2 * m + 1 = 22 + 26 * s + 2 * m by omega]; exact p_frb hnb hs hm
  have hl : lnA (21 + 26 * s + 2 * m + 1) = 32 := by rw [show 21 + 26 * s + 2 * m + 1 = 22 + 26 * s + 2 * m by omega]; exact l_frb hs hm
  obtain ⟨len, k1, k2, k3, k4, k5⟩ := hK
  have hg : ∀ k, k < len → bv (st (1400 + 1600 * s + 25 * i + 1 + k)) < 256 ∧ st (1400 + 1600 * s + 25 * i + 1 + k) = nI (bv (st (1400 + 1600 * s + 25 * i + 1 + k))) := fun k hk => isB_bv (k5 k hk).2
  generalize hgE : (fun k => bv (st (1400 + 1600 * s + 25 * i + 1 + k))) = g
  have hg' : ∀ k, k < len → g k < 256 ∧ st (1400 + 1600 * s + 25 * i + 1 + k) = nI (g k) := by rw [← hgE]; exact hg
  obtain ⟨ar2, c1, c2, c3⟩ := wpk_c (sc := sc1) (ar := ar) (fr := fr1) (num := i % 64) (len := len) (i := i % 24) (g := g) (x1 := x2) hnb hs hx2 (p_frm hnb hs hm) hp7 hl (by omega) (by omega) (by omega) (by omega) (by rw [har0 _ (by omega)]; exact k3) (fun k hk => ⟨(hg' k hk).1, by rw [har0 _ (by omega), (k5 k hk).1]; exact (hg' k hk).2⟩)
  obtain ⟨st2, sm2, m1, m2⟩ := wpk_m (wt := wt) (sm := sm) (f := 301 + 500 * s + 36 * (L - 1)) (st := st1) (len := len) (num := i % 64) (q := 1400 + 1600 * s + 25 * i) (g := g) (x3 := x2) (by omega) (by omega) (by omega) hx2 (by omega) (fun k hk => (hg' k hk).1) (by rw [e5 _ (by omega)]; exact k4) (fun k hk => by rw [e5 _ (by omega)]; exact (hg' k hk).2)
  refine ⟨_, sc1, fr1, up2 sc1 (21 + 26 * s + 2 * m) 1 (nI (len + 8)), ar2, st2, sm2, nI (301 + 500 * s + 36 * (L - 1)), nI (len + 8), e1, ?_, ?_, ?_, ?_, ?_, ?_⟩
  · rw [f_X0_writePacket, (by64_n (by omega)).1, bx_s, gd_t (p_end hnb hs), gd_t (p_frm hnb hs hm), show (24 : Int32) = nI 24 from rfl, pk_rem (by omega) (by decide) (by decide), show 2 + 8 * s + 2 = 4 + 8 * s by omega, c1, bCv_s]
  · rw [f_X6_laysData, show (64 : Int32) = nI 64 from rfl, pk_rem (by omega) (by decide) (by decide), bd_e, packetAt_s, bx_s, e2, bMv_s]
    exact m1
  · refine e3.close (n := len + 8) (b := pByt len (i % 64) g x2) (Or.inr (by omega)) (fun k _ => pByt_lt (by omega) (fun k hk => (hg' k hk).1)) (fun q hq h1 h2 => by rw [c2 q hq, har0 q (by omega)]) c3 (fun q q1 q2 q3 => up2_ne q1) (up2_o (by decide)) up2_s m2
  · intro q hq
    exact ⟨by rw [up2_ne (by omega), (e4 q hq).1], (e4 q hq).1⟩
  · exact fun q hq => ⟨c2 q (by omega), (e4 q hq).2⟩
  · intro i hi
    rw [m2.out (w := s) (by omega) i hi, e5 i hi]
end LE
