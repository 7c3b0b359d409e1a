theorem wrA_l {β : Type} {nb : Nat} {ar : Nat → Nat → Int32} {p : Nat} {x : Int32} {k : (Nat → Nat → Int32) → Option β} (j : Nat) (J : Int32) (hJ : J = nI j) (hp : pk nb 7 p = true) (h : j < lnA p) : wrA nb ar p J x k = k (va_up ar p (upd (ar p) j x)) := by rw [hJ]; exact wrA_n hp h
/-- a word's check and bytes -/
def wSum (kd num : Nat) : Nat := cs8 53256 (cs8 53256 (65535 ^^^ kd) 8 ^^^ num) 8 ^^^ 65535
def wByt (kd num : Nat) : Nat → Nat := fun k => if k = 0 then 92 else if k = 1 then kd else if k = 2 then num else if k = 3 then wSum kd num % 256 else if k = 4 then wSum kd num / 256 % 256 else 253
section LB
variable {nb T s w L : Nat} {sc ar sc' ar' : Nat → Nat → Int32} {fr fr' : Nat → Nat → Nat} {st st' : Nat → Int32} {wt : Int32} {sm : Int64} {ld ln : Int32}
theorem wSum_s {kd num : Nat} {b : Nat → Nat} (h1 : b 1 = kd) (h2 : b 2 = num) (hk : kd < 256) (hn : num < 256) : crcS b 1 2 = wSum kd num ∧ wSum kd num < 65536 := by
  have := crcS2 (b := b) (by omega) (by omega)
  rw [h1, h2] at this
  unfold wSum
  exact ⟨this.2, by rw [← this.2]; exact this.1⟩
theorem wByt_lt {kd num k : Nat} (hk : kd < 256) (hn : num < 256) : wByt kd num k < 256 := by
  unfold wByt
  split
  · decide
  · split
    · exact hk
    · split
      · exact hn
      · split
        · omega
        · split <;> omega
theorem w24_c {p kd num : Nat} (hp : pk nb 1 p = true) (hp7 : pk nb 7 (p + 1) = true) (hl : lnA (p + 1) = 32) (hk : kd < 256) (hn : num < 256) (h0 : ar (p + 1) 0 = nI 92) : ∃ ar', f_X1_writeWord_24 nb p (nI num) (nI kd) 1 (p + 1) sc ar fr = some (up2 sc p 1 6, ar', fr) ∧ (∀ q, q ≠ p + 1 → ar' q = ar q) ∧ ∀ k, k < 6 → ar' (p + 1) k = nI (wByt kd num k) := by
  have hw := wSum_s (kd := kd) (num := num) (b := wByt kd num) rfl rfl hk hn
  rw [f_X1_writeWord_24, wrA_l 1 1 rfl hp7 (by omega), gd_t hp, wrA_l 2 2 rfl hp7 (by omega), va_uu, va_s]
  rw [show f_X5_checkOf nb 16 (p + 1) 1 3 = f_X5_checkOf nb 16 (p + 1) (nI 1) (nI (1 + 2)) from rfl, crc_c (bits := 16) (p := 53256) (o := 65535) (Or.inr ⟨rfl, rfl, rfl⟩) hp7 (f := wByt kd num) (by omega) (fun k a b => ⟨wByt_lt hk hn, by
    rw [va_s]
    rcases (show k = 1 ∨ k = 2 by omega) with rfl | rfl
    · rw [upd_o (by decide), upd_s]; rfl
    · rw [upd_s]; rfl⟩), bC_s]
  rw [show crcF 53256 (wByt kd num) 1 2 65535 ^^^ 65535 = wSum kd num from hw.1]
  rw [show f_X1_writeLowestFirst nb p 3 2 = fun v s a f => f_X1_writeLowestFirst_3 nb FU p (nI 3) (nI 2) v (nI 0) s a f from rfl]
  dsimp only
  rw [wlf_c (z := 3) (sz := 2) hp hp7 hl (by decide) (by decide) 2 FU 0 _ rfl (by decide), bCv_s, va_uu, va_s, wrA_l 5 5 rfl hp7 (by omega), va_uu, va_s, bd_e]
  refine ⟨_, rfl, fun q hq => va_o hq, fun k hk6 => ?_⟩
  rw [va_s]
  have hb : ∀ i, byt (lN (wSum kd num)) i = wSum kd num / 2 ^ (8 * i) % 256 := by
    intro i; unfold byt; rw [wb_tn (by omega)]
  rcases (show k = 0 ∨ k = 1 ∨ k = 2 ∨ k = 3 ∨ k = 4 ∨ k = 5 by omega) with rfl | rfl | rfl | rfl | rfl | rfl
  · rw [upd_o (by decide), if_neg (by decide), upd_o (by decide), upd_o (by decide), h0]; rfl
  · rw [upd_o (by decide), if_neg (by decide), upd_o (by decide), upd_s]; rfl
  · rw [upd_o (by decide), if_neg (by decide), upd_s]; rfl
  · rw [upd_o (by decide), if_pos (by decide), hb]
    show nI (wSum kd num / 2 ^ 0 % 256) = nI (wSum kd num % 256)
    rw [Nat.pow_zero, Nat.div_one]
  · rw [upd_o (by decide), if_pos (by decide), hb]; rfl
  · rw [upd_s]; rfl
theorem wword_c {p num kd : Nat} {x1 : Int32} (hx : (x1 = 3 ∧ kd = 16) ∨ (x1 = 2 ∧ kd = 0)) (hp : pk nb 1 p = true) (hp7 : pk nb 7 (p + 1) = true) (hl : lnA (p + 1) = 32) (hn : num < 256) : ∃ ar', f_X1_writeWord nb p x1 (nI num) sc ar fr = some (up2 sc p 1 6, ar', fr) ∧ (∀ q, q ≠ p + 1 → ar' q = ar q) ∧ ∀ k, k < 6 → ar' (p + 1) k = nI (wByt kd num k) := by
  rw [f_X1_writeWord, gd_t hp, wrA_l 0 0 rfl hp7 (by omega)]
  rcases hx with ⟨rfl, rfl⟩ | ⟨rfl, rfl⟩
  · rw [if_pos rfl]
    obtain ⟨ar', e1, e2, e3⟩ := w24_c (sc := sc) (fr := fr) (ar := va_up ar (p + 1) (upd (ar (p + 1)) 0 92)) (kd := 16) (num := num) hp hp7 hl (by decide) hn (by rw [va_s, upd_s]; rfl)
    exact ⟨ar', e1, fun q hq => by rw [e2 q hq, va_o hq], e3⟩
  · rw [if_neg (by decide)]
    obtain ⟨ar', e1, e2, e3⟩ := w24_c (sc := sc) (fr := fr) (ar := va_up ar (p + 1) (upd (ar (p + 1)) 0 92)) (kd := 0) (num := num) hp hp7 hl (by decide) hn (by rw [va_s, upd_s]; rfl)
    exact ⟨ar', e1, fun q hq => by rw [e2 q hq, va_o hq], e3⟩
theorem wword_m {f kd num : Nat} (hf : f + 40 < 8000) (hk : kd = 0 ∨ kd = 16) (hn : num < 64) {x : Int32} (hx : x = nI kd) {st : Nat → Int32} : ∃ st' sm', (bMv (f_X6_begins 0 st wt sm (nI f) 0) fun st11 wt12 sm13 ld14 ln15 =>
  bMv (f_X6_adds x 0 st11 wt12 sm13 ld14 ln15) fun st17 wt18 sm19 ld20 ln21 =>
  bMv (f_X6_adds (nI num) 0 st17 wt18 sm19 ld20 ln21) fun st23 wt24 sm25 ld26 ln27 =>
  bM (f_X6_sumOf 0 st23 wt24 sm25 ld26 ln27) fun r28 st29 wt30 sm31 ld32 ln33 =>
  bd (((r28 : Int64).toInt32)) fun y34 =>
  bMv (f_X6_lays 92 st29 wt30 sm31 ld32 ln33) fun st36 wt37 sm38 ld39 ln40 =>
  bMv (f_X6_lays x st36 wt37 sm38 ld39 ln40) fun st42 wt43 sm44 ld45 ln46 =>
  bMv (f_X6_lays (nI num) st42 wt43 sm44 ld45 ln46) fun st48 wt49 sm50 ld51 ln52 =>
  bMv (f_X6_lays y34 st48 wt49 sm50 ld51 ln52) fun st54 wt55 sm56 ld57 ln58 =>
  bMv (f_X6_lays (y34 >>> (8 &&& 31)) st54 wt55 sm56 ld57 ln58) fun st60 wt61 sm62 ld63 ln64 =>
  bMv (f_X6_lays 253 st60 wt61 sm62 ld63 ln64) fun st66 wt67 sm68 ld69 ln70 =>
  some (st66, wt67, sm68, ld69, ln70)) = some (st', wt, sm', nI f, nI 6) ∧ Ly f 6 (wByt kd num) st st' := by
  subst hx
  have hkd : kd < 256 := by omega
  have hw := wSum_s (kd := kd) (num := num) (b := wByt kd num) rfl rfl hkd (show num < 256 by omega)
  have h1 : cs8 53256 (65535 ^^^ kd) 8 < 2 ^ 32 := cs8_lt (by decide) 8 _ (Nat.xor_lt_two_pow (by decide) (by omega))
  rw [begins_m (o := 65535) (Or.inl ⟨rfl, rfl⟩), bMv_s, adds_m (p := 53256) (Or.inl ⟨rfl, rfl⟩) hkd (by decide), bMv_s, adds_m (p := 53256) (Or.inl ⟨rfl, rfl⟩) (by omega) h1, bMv_s, sumOf_m (o := 65535) (Or.inl ⟨rfl, rfl⟩), bM_s, bd_e, lN_i]
  rw [show cs8 53256 (cs8 53256 (65535 ^^^ kd) 8 ^^^ num) 8 ^^^ 65535 = wSum kd num from rfl]
  generalize hsm : lN (cs8 53256 (cs8 53256 (65535 ^^^ kd) 8 ^^^ num) 8) = SM
  obtain ⟨s1, e1, y1⟩ := lays_m (wt := wt) (sm := SM) (k := 0) (x := 92) (b := wByt kd num) hf (by decide) (show (92 &&& 255 : Int32) = nI 92 by decide) (Ly.init (st := st))
  rw [show (0 : Int32) = nI 0 from rfl, e1, bMv_s]
  obtain ⟨s2, e2, y2⟩ := lays_m (wt := wt) (sm := SM) (x := nI kd) hf (by decide) (by rw [byte_and hkd]; rfl) y1
  rw [e2, bMv_s]
  obtain ⟨s3, e3, y3⟩ := lays_m (wt := wt) (sm := SM) (x := nI num) hf (by decide) (by rw [byte_and (by omega)]; rfl) y2
  rw [e3, bMv_s]
  obtain ⟨s4, e4, y4⟩ := lays_m (wt := wt) (sm := SM) (x := nI (wSum kd num)) hf (by decide) (by rw [pk_andN (by omega) 8 rfl]; rfl) y3
  rw [e4, bMv_s]
  obtain ⟨s5, e5, y5⟩ := lays_m (wt := wt) (sm := SM) (x := nI (wSum kd num) >>> (8 &&& 31)) hf (by decide) (by rw [pk_shrN (by omega) _ 8 (by decide), pk_andN (by omega) 8 rfl]; rfl) y4
  rw [e5, bMv_s]
  obtain ⟨s6, e6, y6⟩ := lays_m (wt := wt) (sm := SM) (x := 253) hf (by decide) (show (253 &&& 255 : Int32) = nI 253 by decide) y5
  rw [e6, bMv_s]
  exact ⟨_, _, rfl, y6⟩
end LB
