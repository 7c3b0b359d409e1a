/-- a wire whose last frame, at the place p, is only begun -/
def RWo (w L p : Nat) (sc ar : Nat → Nat → Int32) (fr : Nat → Nat → Nat) (st : Nat → Int32) : Prop :=
  1 ≤ L ∧ L ≤ 12 ∧ sc (19 + 26 * w) 1 = nI L ∧ st (300 + 500 * w) = nI L ∧ (∀ j, j < 12 → ∃ m, m < 12 ∧ fr (20 + 26 * w) j = 21 + 26 * w + 2 * m) ∧ (∀ i j, i < 12 → j < 12 → fr (20 + 26 * w) i = fr (20 + 26 * w) j → i = j) ∧ fr (20 + 26 * w) (L - 1) = p ∧ sc p 2 = st (302 + 500 * w + 36 * (L - 1)) ∧ ∀ j, j < L - 1 → RF (fr (20 + 26 * w) j) (301 + 500 * w + 36 * j) sc ar st
/-- what lays has laid -/
def Ly (f k : Nat) (b : Nat → Nat) (st0 st : Nat → Int32) : Prop := (0 < k → st f = nI k) ∧ (∀ i, i < k → st (f + 2 + i) = nI (b i)) ∧ ∀ i, (i < f ∨ f + 36 ≤ i ∨ i = f + 1) → st i = st0 i
section LA
variable {nb T s w L : Nat} {sc ar sc' ar' : Nat → Nat → Int32} {fr fr' : Nat → Nat → Nat} {st st' : Nat → Int32} {wt : Int32} {sm : Int64} {ld ln : Int32}
theorem more15 (hnb : 1 ≤ nb) (hw : w < 2) (hL : L < 12) (h : RW 0 w sc ar fr st) (s2 : st (300 + 500 * w) = nI L) {x : Int32} (hx : st 3 + st 0 = x) : ∃ sc' st', (∀ arT, f_X4_layOneMore_15 nb (19 + 26 * w) x sc arT fr = some (fr (20 + 26 * w) L, sc', arT, fr)) ∧ f_X6_beginsFrame_16 (nI w) st wt sm ld ln = some (st', wt, sm, nI (301 + 500 * w + 36 * L), 0) ∧ RWo w (L + 1) (fr (20 + 26 * w) L) sc' ar fr st' ∧ (∀ q, q < 19 + 26 * w ∨ 45 + 26 * w ≤ q → sc' q = sc q) ∧ (∀ i, i < 300 + 500 * w ∨ 800 + 500 * w ≤ i → st' i = st i) := by
  obtain ⟨n0, hn0, g1, g2, hp4, hp5, hp6⟩ := h
  simp only [Nat.zero_add] at g1 hp4 hp5 hp6
  have hnL : n0 = L := (nI_eq (by omega) (by omega)).mp (g2.symm.trans s2)
  subst hnL
  obtain ⟨m, hm, q1⟩ := hp4 n0 hL
  have eC : ∀ arT, f_X4_layOneMore_15 nb (19 + 26 * w) x sc arT fr = some (fr (20 + 26 * w) n0, up2 (up2 sc (fr (20 + 26 * w) n0) 2 x) (19 + 26 * w) 1 (nI (n0 + 1)), arT, fr) := by
    intro arT
    rw [f_X4_layOneMore_15, gd_t (p_wire hnb hw), g1, show 19 + 26 * w + 1 = 20 + 26 * w by omega, rdR_n (p_frs hnb hw) hL (by decide), nI_clamp (by omega), q1, gd_t (p_frm hnb hw hm), bd_e, up2_ne (by omega), g1, bd_e, ad_1, bd_e]
  rw [q1] at eC ⊢
  rw [f_X6_beginsFrame_16, many_m hw, bM_s, g2, frameAt_s, bx_s, wireAt_s, bx_s, rd_n (by omega) (by decide), g2, bd_e, ad_1, wr_n (by omega) (by decide), rd_l 3 3 rfl (by decide), rd_l 0 0 rfl (by decide), upd_o (by omega), upd_o (by omega), hx, bd_e, ad_1, wr_n (by omega) (by decide)]
  refine ⟨_, _, eC, rfl, ⟨by omega, by omega, ?_, ?_, hp4, hp5, ?_, ?_, fun j hj => ?_⟩, fun q hq => ?_, fun i hi => ?_⟩
  · rw [up2_s]
  · rw [upd_o (by omega), upd_s]
  · rw [show n0 + 1 - 1 = n0 by omega]; exact q1
  · rw [up2_ne (by omega), up2_s, show n0 + 1 - 1 = n0 by omega, show 302 + 500 * w + 36 * n0 = 301 + 500 * w + 36 * n0 + 1 by omega, upd_s]
  · obtain ⟨m', hm', q2⟩ := hp4 j (by omega)
    have hne : fr (20 + 26 * w) j ≠ 21 + 26 * w + 2 * m := by
      intro e
      have := hp5 j n0 (by omega) hL (by rw [e, q1])
      omega
    refine (hp6 j (by omega)).cong ?_ rfl (fun i a b => ?_)
    · rw [up2_ne (by omega), up2_ne hne]
    · rw [upd_o (by omega), upd_o (by omega)]
  · rw [up2_ne (by omega), up2_ne (by omega)]
  · rw [upd_o (by omega), upd_o (by omega)]
theorem begin_sim (hnb : 1 ≤ nb) (hw : w < 2) (h : RW 0 w sc ar fr st) {x : Int32} (hx : st 3 + st 0 = x) : ∃ L p sc' fr' st', (∀ arT, f_X4_layOneMore nb (19 + 26 * w) x sc arT fr = some (p, sc', arT, fr')) ∧ f_X6_beginsFrame (nI w) st wt sm ld ln = some (st', wt, sm, nI (301 + 500 * w + 36 * (L - 1)), 0) ∧ RWo w L p sc' ar fr' st' ∧ (∀ q, q < 19 + 26 * w ∨ 45 + 26 * w ≤ q → sc' q = sc q ∧ fr' q = fr q) ∧ (∀ i, i < 300 + 500 * w ∨ 800 + 500 * w ≤ i → st' i = st i) := by
  obtain ⟨n0, hn0, g1, g2, hp4, hp5, hp6⟩ := id h
  simp only [Nat.zero_add] at g1 hp4 hp5 hp6
  rw [f_X6_beginsFrame, many_m hw, bM_s, g2]
  by_cases q : n0 < 12
  · rw [if_neg (show ¬ nI n0 = (12 : Int32) from fun e => by have := (nI_eq (b := 12) (by omega) (by decide)).mp e; omega)]
    obtain ⟨sc', st', e1, e2, e3, e4, e5⟩ := more15 (wt := wt) (sm := sm) (ld := ld) (ln := ln) hnb hw q h g2 hx
    refine ⟨n0 + 1, _, _, _, _, fun arT => ?_, e2, e3, fun q hq => ⟨e4 q hq, rfl⟩, e5⟩
    rw [f_X4_layOneMore, gd_t (p_wire hnb hw), g1, if_pos (show nI n0 < (12 : Int32) from nI_lt (b := 12) q (by decide)), e1]
  · have h12 : n0 = 12 := by omega
    subst h12
    rw [if_pos (show nI 12 = (12 : Int32) from rfl), show (0 : Int32) = nI 0 from rfl, remove_m hw hn0 (by decide) g2, bMv_s]
    have h' := h.off hw hn0 (j := 0) (by decide) g1 g2
    obtain ⟨sc', st', e1, e2, e3, e4, e5⟩ := more15 (wt := wt) (sm := sm) (ld := ld) (ln := ln) (x := x) hnb hw (L := 11) (by decide) h' (by unfold rmv; rw [if_neg (by omega), if_neg (by omega), if_pos rfl]) (by rw [rmv_o hn0 (by decide) (by omega), rmv_o hn0 (by decide) (by omega)]; exact hx)
    refine ⟨12, _, _, _, _, fun arT => ?_, e2, e3, fun q hq => ⟨?_, va_o (by omega)⟩, fun i hi => ?_⟩
    · rw [f_X4_layOneMore, gd_t (p_wire hnb hw), g1, if_neg (show ¬ nI 12 < (12 : Int32) by decide), show (0 : Int32) = nI 0 from rfl, takeOff_c hnb hw hn0 (by decide) g1 (RW.pks (L := 12) hnb hw (by simp only [Nat.zero_add]; exact hp4)), bC_s, e1]
    · rw [e4 q hq, up2_ne (by omega)]
    · rw [e5 i hi, rmv_o hn0 (by decide) hi]
theorem RWo.at {p : Nat} (h : RWo w L p sc ar fr st) : ∃ m, m < 12 ∧ p = 21 + 26 * w + 2 * m := by
  obtain ⟨h1, h2, -, -, h5, -, h7, -⟩ := h
  obtain ⟨m, hm, e⟩ := h5 (L - 1) (by omega)
  exact ⟨m, hm, by rw [← h7, e]⟩
theorem RWo.close {p n : Nat} {b : Nat → Nat} (h : RWo w L p sc ar fr st) (hn : n = 6 ∨ (9 ≤ n ∧ n ≤ 32)) (hb : ∀ k, k < n → b k < 256) (har : ∀ q, q ≠ p + 1 → 19 + 26 * w ≤ q → q < 45 + 26 * w → ar' q = ar q) (harp : ∀ k, k < n → ar' (p + 1) k = nI (b k)) (hsc : ∀ q, q ≠ p → 19 + 26 * w ≤ q → q < 45 + 26 * w → sc' q = sc q) (hs2 : sc' p 2 = sc p 2) (hs1 : sc' p 1 = nI n) (hly : Ly (301 + 500 * w + 36 * (L - 1)) n b st st') : RW 0 w sc' ar' fr st' := by
  obtain ⟨m0, hm0, rfl⟩ := RWo.at h
  obtain ⟨h1, h2, h3, h4, h5, h6, h7, h8, h9⟩ := h
  obtain ⟨y1, y2, y3⟩ := hly
  refine ⟨L, h2, ?_, ?_, by simp only [Nat.zero_add]; exact h5, by simp only [Nat.zero_add]; exact h6, fun j hj => ?_⟩
  · simp only [Nat.zero_add]; rw [hsc _ (by omega) (by omega) (by omega)]; exact h3
  · rw [y3 _ (by omega)]; exact h4
  · simp only [Nat.zero_add]
    by_cases q : j = L - 1
    · subst q
      rw [h7]
      refine ⟨n, hn, hs1, y1 (by omega), ?_, fun k hk => ?_⟩
      · rw [hs2, h8, y3 _ (by omega)]; congr 1; omega
      · rw [harp k hk, y2 k hk]
        exact ⟨rfl, b k, hb k hk, rfl⟩
    · obtain ⟨m, hm, q2⟩ := h5 j (by omega)
      have hne : fr (20 + 26 * w) j ≠ 21 + 26 * w + 2 * m0 := by
        intro e
        exact q (h6 j (L - 1) (by omega) (by omega) (by rw [e, h7]))
      refine (h9 j (by omega)).cong ?_ ?_ (fun i a b => y3 i (by omega))
      · exact hsc _ hne (by omega) (by omega)
      · exact har _ (by omega) (by omega) (by omega)
theorem Ly.init {f : Nat} {b : Nat → Nat} : Ly f 0 b st st := ⟨fun h => absurd h (by omega), fun i hi => absurd hi (by omega), fun _ _ => rfl⟩
theorem lays_m {f k : Nat} {b : Nat → Nat} {st0 : Nat → Int32} {x : Int32} (hf : f + 40 < 8000) (hk : k < 32) (hx : x &&& 255 = nI (b k)) (h : Ly f k b st0 st) : ∃ st', f_X6_lays x st wt sm (nI f) (nI k) = some (st', wt, sm, nI f, nI (k + 1)) ∧ Ly f (k + 1) b st0 st' := by
  obtain ⟨h1, h2, h3⟩ := h
  rw [f_X6_lays, bd_e, hx, ad_2, nI_add, wr_n (by omega) (by decide), bd_e, ad_1, wr_n (by omega) (by decide)]
  refine ⟨_, rfl, fun _ => upd_s, fun i hi => ?_, fun i hi => ?_⟩
  · rw [upd_o (by omega)]
    by_cases q : i = k
    · rw [q, upd_s]
    · rw [upd_o (by omega)]; exact h2 i (by omega)
  · rw [upd_o (by omega), upd_o (by omega)]; exact h3 i hi
theorem wlf_c {p z sz : Nat} (hp : pk nb 1 p = true) (hp7 : pk nb 7 (p + 1) = true) (hl : lnA (p + 1) = 32) (hz : z + sz ≤ 32) (hsz : sz ≤ 8) {v : Int64} : ∀ (m fu i : Nat) (ar : Nat → Nat → Int32), i + m = sz → m < fu → f_X1_writeLowestFirst_3 nb fu p (nI z) (nI sz) v (nI i) sc ar fr = some (sc, va_up ar (p + 1) (fun j => if z + i ≤ j ∧ j < z + sz then nI (byt v (j - z)) else ar (p + 1) j), fr) := by
  intro m
  induction m with
  | zero =>
    intro fu i ar h1 h2
    obtain ⟨fu, rfl⟩ : ∃ z, fu = z + 1 := ⟨fu - 1, by omega⟩
    rw [f_X1_writeLowestFirst_3, if_pos (nI_le (by omega) (by omega))]
    congr 3
    funext q
    by_cases e : q = p + 1
    · rw [e, va_s]; funext j; rw [if_neg (by omega)]
    · rw [va_o e]
  | succ m ih =>
    intro fu i ar h1 h2
    obtain ⟨fu, rfl⟩ : ∃ z, fu = z + 1 := ⟨fu - 1, by omega⟩
    rw [f_X1_writeLowestFirst_3, if_neg (nI_ge (by omega) (by omega)), gd_t hp, byt_c v (by omega), bd_e, nI_add, wrA_n hp7 (by omega), bd_e, ad_1, ih fu (i + 1) _ (by omega) (by omega), va_uu, va_s]
    congr 4
    funext j
    by_cases q : j = z + i
    · rw [q, if_neg (by omega), upd_s, if_pos (by omega), show z + i - z = i by omega]
    · by_cases r : z + i ≤ j ∧ j < z + sz
      · rw [if_pos (by omega), if_pos r]
      · rw [if_neg (by omega), if_neg r, upd_o q]
end LA
