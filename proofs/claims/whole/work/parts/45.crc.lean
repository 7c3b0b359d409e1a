theorem wb_tb (n : Nat) : (lN n).toBitVec = BitVec.ofNat 64 n := rfl
theorem wb_inj {a b : Int64} (h : a.toBitVec = b.toBitVec) : a = b := Int64.toBitVec_inj.mp h
theorem wb_tn {n : Nat} (h : n < 2 ^ 64) : (lN n).toBitVec.toNat = n := by rw [wb_tb, BitVec.toNat_ofNat, Nat.mod_eq_of_lt h]
theorem wb_of (x : Int64) : ∃ n, n < 2 ^ 64 ∧ x = lN n := ⟨x.toBitVec.toNat, x.toBitVec.isLt, wb_inj (by rw [wb_tb]; simp)⟩
theorem wb_of32 (x : Int32) : ∃ n, n < 2 ^ 32 ∧ x = nI n := ⟨x.toBitVec.toNat, x.toBitVec.isLt, Int32.toBitVec_inj.mp (by show _ = BitVec.ofNat 32 _; simp)⟩
theorem wb_c : ∀ k, k < 64 → ((nI k).toInt64 &&& 63) = lN k := by decide +kernel
theorem wb_cu : ∀ k, k < 64 → ((nI k).toInt64.toUInt64 &&& Int64.toUInt64 63) = UInt64.ofNat k := by decide +kernel
theorem wb_sm : ∀ k, k < 64 → (BitVec.ofNat 64 k).smod 64 = BitVec.ofNat 64 k := by decide +kernel
theorem wb_shr {n k : Nat} (hn : n < 2 ^ 64) (hk : k < 64) : ((lN n).toUInt64 >>> ((nI k).toInt64.toUInt64 &&& Int64.toUInt64 63)).toInt64 = lN (n / 2 ^ k) := by
  rw [wb_cu k hk]
  apply wb_inj
  apply BitVec.eq_of_toNat_eq
  show ((lN n).toUInt64 >>> UInt64.ofNat k).toNat = (BitVec.ofNat 64 _).toNat
  have h1 : (UInt64.ofNat k).toNat = k := by
    show (BitVec.ofNat 64 k).toNat = k
    rw [BitVec.toNat_ofNat, Nat.mod_eq_of_lt (by omega)]
  have h2 : (lN n).toUInt64.toNat = n := wb_tn hn
  rw [UInt64.toNat_shiftRight, h1, h2, Nat.mod_eq_of_lt hk, Nat.shiftRight_eq_div_pow, BitVec.toNat_ofNat, Nat.mod_eq_of_lt (Nat.lt_of_le_of_lt (Nat.div_le_self _ _) hn)]
theorem pf_lI {a : Nat} (h : a < 2 ^ 63) : (lN a).toInt = (a : Int) := lg_ofNat_toInt h
theorem pf_shr {a d : Nat} {D : Int64} (hD : (D.toBitVec.smod 64).toNat = d) (h : a < 2 ^ 62) : lN a >>> D = lN (a / 2 ^ d) := by
  have hd : a / 2 ^ d ≤ a := Nat.div_le_self _ _
  apply Int64.toInt_inj.mp
  have e : (lN a >>> D).toInt = (lN a).toInt >>> d := by
    rw [← hD]
    exact BitVec.toInt_sshiftRight ..
  rw [e, Int.shiftRight_eq_div_pow, pf_lI (by omega), pf_lI (by omega)]
  rfl
/-! the check, over numbers -/
def cs1 (p c : Nat) : Nat := if c % 2 = 0 then c / 2 else (c / 2) ^^^ p
def cs8 (p : Nat) : Nat → Nat → Nat
  | c, 0 => c
  | c, k + 1 => cs8 p (cs1 p c) k
def crcF (p : Nat) (f : Nat → Nat) : Nat → Nat → Nat → Nat
  | _, 0, c => c
  | i, n + 1, c => crcF p f (i + 1) n (cs8 p (c ^^^ f i) 8)
theorem cs1_lt {p c : Nat} (hp : p < 2 ^ 32) (hc : c < 2 ^ 32) : cs1 p c < 2 ^ 32 := by
  unfold cs1
  by_cases h : c % 2 = 0
  · rw [if_pos h]; omega
  · rw [if_neg h]; exact Nat.xor_lt_two_pow (by omega) hp
theorem cs8_lt {p : Nat} (hp : p < 2 ^ 32) : ∀ (k c : Nat), c < 2 ^ 32 → cs8 p c k < 2 ^ 32 := by
  intro k
  induction k with
  | zero => intro c hc; exact hc
  | succ k ih => intro c hc; rw [cs8]; exact ih _ (cs1_lt hp hc)
theorem crcF_lt {p : Nat} (hp : p < 2 ^ 32) {f : Nat → Nat} : ∀ (n i c : Nat), (∀ k, i ≤ k → k < i + n → f k < 256) → c < 2 ^ 32 → crcF p f i n c < 2 ^ 32 := by
  intro n
  induction n with
  | zero => intro i c _ hc; exact hc
  | succ n ih =>
    intro i c hf hc
    rw [crcF]
    refine ih _ _ (fun k a b => hf k (by omega) (by omega)) (cs8_lt hp _ _ (Nat.xor_lt_two_pow hc ?_))
    have := hf i (Nat.le_refl _) (by omega)
    omega
theorem crcF_cong {p : Nat} {f g : Nat → Nat} : ∀ (n i j c : Nat), (∀ k, k < n → f (i + k) = g (j + k)) → crcF p f i n c = crcF p g j n c := by
  intro n
  induction n with
  | zero => intro i j c _; rfl
  | succ n ih =>
    intro i j c h
    rw [crcF, crcF]
    have h0 := h 0 (by omega)
    rw [Nat.add_zero, Nat.add_zero] at h0
    rw [h0]
    exact ih _ _ _ (fun k hk => by have := h (k + 1) (by omega); rw [show i + 1 + k = i + (k + 1) by omega, show j + 1 + k = j + (k + 1) by omega]; exact this)
theorem lg0 {c : Nat} (hc : c < 2 ^ 32) : lg_cmp (lN c &&& 1) 0 = 0 ↔ c % 2 = 0 := by
  have e : lN c &&& 1 = lN (c % 2) := fb_maskL c 1
  rw [e]
  rcases (show c % 2 = 0 ∨ c % 2 = 1 by omega) with h | h
  · rw [h]; decide
  · rw [h]; decide
theorem ush1 {c : Nat} (hc : c < 2 ^ 32) : ((lN c).toUInt64 >>> ((1 : Int32).toInt64.toUInt64 &&& Int64.toUInt64 63)).toInt64 = lN (c / 2) := wb_shr (k := 1) (by omega) (by decide)
theorem ssh1 {c : Nat} (hc : c < 2 ^ 32) : lN c >>> ((1 : Int32).toInt64 &&& 63) = lN (c / 2) := pf_shr (d := 1) (by decide) (by omega)
section CRC
variable {nb : Nat} {sc ar : Nat → Nat → Int32} {fr : Nat → Nat → Nat} {st : Nat → Int32} {wt : Int32} {ld ln : Int32}
theorem crc50 {p : Nat} (hp : p < 2 ^ 32) {rec : Nat → Int32 → Int64 → Int64 → Int64 → Int32 → (Nat → Nat → Int32) → (Nat → Nat → Int32) → (Nat → Nat → Nat) → Option (Int64 × (Nat → Nat → Int32) × (Nat → Nat → Int32) × (Nat → Nat → Nat))} {x1 : Nat} {x3 x10 : Int32} {x6 : Int64} : ∀ (k fu c : Nat), k ≤ 8 → k < fu → c < 2 ^ 32 → f_X5_checkOf_50 nb rec fu x1 x3 (lN p) x6 (lN c) x10 (nI (8 - k)) sc ar fr = rec x1 x3 (lN p) x6 (lN (cs8 p c k)) (x10 + 1) sc ar fr := by
  intro k
  induction k with
  | zero =>
    intro fu c _ hfu _
    obtain ⟨fu, rfl⟩ : ∃ z, fu = z + 1 := ⟨fu - 1, by omega⟩
    rw [f_X5_checkOf_50, if_pos (show (8 : Int32) ≤ nI (8 - 0) by decide), bd_e]
    rfl
  | succ k ih =>
    intro fu c hk hfu hc
    obtain ⟨fu, rfl⟩ : ∃ z, fu = z + 1 := ⟨fu - 1, by omega⟩
    rw [f_X5_checkOf_50, if_neg (show ¬ (8 : Int32) ≤ nI (8 - (k + 1)) from nI_ge (b := 8) (by omega) (by decide)), cs8, ush1 hc]
    by_cases h : c % 2 = 0
    · rw [if_pos ((lg0 hc).mpr h), f_X5_checkOf_80, bd_e, ad_1, show 8 - (k + 1) + 1 = 8 - k by omega]
      have e : cs1 p c = c / 2 := by unfold cs1; rw [if_pos h]
      rw [e]
      exact ih fu (c / 2) (by omega) (by omega) (by omega)
    · rw [if_neg (fun q => h ((lg0 hc).mp q)), f_X5_checkOf_80, bd_e, ad_1, show 8 - (k + 1) + 1 = 8 - k by omega, fb_xorL]
      have e : cs1 p c = c / 2 ^^^ p := by unfold cs1; rw [if_neg h]
      rw [e]
      exact ih fu _ (by omega) (by omega) (Nat.xor_lt_two_pow (by omega) hp)
theorem crc31 {p o : Nat} (hp : p < 2 ^ 32) {x1 : Nat} (hx : pk nb 7 x1 = true) {f : Nat → Nat} {to : Nat} (hto : to ≤ lnA x1) : ∀ (n fu i c : Nat), i + n = to → n < fu → c < 2 ^ 32 → (∀ k, i ≤ k → k < to → f k < 256 ∧ ar x1 k = nI (f k)) → f_X5_checkOf_31 nb fu x1 (nI to) (lN p) (lN o) (lN c) (nI i) sc ar fr = some (lN (crcF p f i n c ^^^ o), sc, ar, fr) := by
  have hl := lnA_le x1
  intro n
  induction n with
  | zero =>
    intro fu i c hi hfu _ _
    obtain ⟨fu, rfl⟩ : ∃ z, fu = z + 1 := ⟨fu - 1, by omega⟩
    rw [f_X5_checkOf_31, if_pos (nI_le (by omega) (by omega)), fb_xorL]
    rfl
  | succ n ih =>
    intro fu i c hi hfu hc hf
    obtain ⟨fu, rfl⟩ : ∃ z, fu = z + 1 := ⟨fu - 1, by omega⟩
    obtain ⟨hb, he⟩ := hf i (Nat.le_refl _) (by omega)
    rw [f_X5_checkOf_31, if_neg (nI_ge (by omega) (by omega)), rdA_n hx (by omega), bd_e, he, nI_l (by omega), fb_xorL, show (0 : Int32) = nI (8 - 8) from rfl]
    rw [crc50 hp 8 FU _ (by omega) (by decide) (Nat.xor_lt_two_pow hc (by omega)), ad_1, crcF]
    exact ih fu (i + 1) _ (by omega) (by omega) (cs8_lt hp _ _ (Nat.xor_lt_two_pow hc (by omega))) (fun k a b => hf k (by omega) b)
theorem crc_c {bits : Int32} {p o : Nat} (hb : (bits = 32 ∧ p = 3988292384 ∧ o = 4294967295) ∨ (bits = 16 ∧ p = 53256 ∧ o = 65535)) {x1 : Nat} (hx : pk nb 7 x1 = true) {f : Nat → Nat} {a n : Nat} (hto : a + n ≤ lnA x1) (hf : ∀ k, a ≤ k → k < a + n → f k < 256 ∧ ar x1 k = nI (f k)) : f_X5_checkOf nb bits x1 (nI a) (nI (a + n)) sc ar fr = some (lN (crcF p f a n o ^^^ o), sc, ar, fr) := by
  have hl := lnA_le x1
  have hfu : n < FU := by unfold FU; omega
  rcases hb with ⟨rfl, rfl, rfl⟩ | ⟨rfl, rfl, rfl⟩
  · rw [f_X5_checkOf, if_pos rfl, f_X5_checkOf_15, bd_e]
    exact crc31 (p := 3988292384) (o := 4294967295) (by decide) hx hto n FU a 4294967295 rfl hfu (by decide) hf
  · rw [f_X5_checkOf, if_neg (by decide), f_X5_checkOf_15, bd_e]
    exact crc31 (p := 53256) (o := 65535) (by decide) hx hto n FU a 65535 rfl hfu (by decide) hf
theorem adds17 {p : Nat} {x2 : Int32} (hp : (x2 = 0 ∧ p = 53256) ∨ (¬ x2 = 0 ∧ p = 3988292384)) : ∀ (k fu c : Nat), k ≤ 8 → k < fu → c < 2 ^ 32 → f_X6_adds_17 fu x2 (nI (8 - k)) st wt (lN c) ld ln = some (st, wt, lN (cs8 p c k), ld, ln) := by
  have hp32 : p < 2 ^ 32 := by omega
  intro k
  induction k with
  | zero =>
    intro fu c _ hfu _
    obtain ⟨fu, rfl⟩ : ∃ z, fu = z + 1 := ⟨fu - 1, by omega⟩
    rw [f_X6_adds_17, if_pos (show (8 : Int32) ≤ nI (8 - 0) by decide)]
    rfl
  | succ k ih =>
    intro fu c hk hfu hc
    obtain ⟨fu, rfl⟩ : ∃ z, fu = z + 1 := ⟨fu - 1, by omega⟩
    rw [f_X6_adds_17, if_neg (show ¬ (8 : Int32) ≤ nI (8 - (k + 1)) from nI_ge (b := 8) (by omega) (by decide)), cs8, ssh1 hc]
    by_cases h : c % 2 = 0
    · rw [if_pos ((lg0 hc).mpr h), f_X6_adds_64, bd_e, ad_1, show 8 - (k + 1) + 1 = 8 - k by omega]
      have e : cs1 p c = c / 2 := by unfold cs1; rw [if_pos h]
      rw [e]
      exact ih fu (c / 2) (by omega) (by omega) (by omega)
    · rw [if_neg (fun q => h ((lg0 hc).mp q))]
      have e : cs1 p c = c / 2 ^^^ p := by unfold cs1; rw [if_neg h]
      rw [e]
      have r := ih fu (c / 2 ^^^ p) (by omega) (by omega) (Nat.xor_lt_two_pow (by omega) hp32)
      rcases hp with ⟨z, rfl⟩ | ⟨z, rfl⟩
      · rw [if_pos z, f_X6_adds_63, f_X6_adds_64, bd_e, ad_1, show 8 - (k + 1) + 1 = 8 - k by omega, show (53256 : Int64) = lN 53256 from rfl, fb_xorL]
        exact r
      · rw [if_neg z, f_X6_adds_63, f_X6_adds_64, bd_e, ad_1, show 8 - (k + 1) + 1 = 8 - k by omega, show (3988292384 : Int64) = lN 3988292384 from rfl, fb_xorL]
        exact r
theorem byte_and {b : Nat} (hb : b < 256) : nI b &&& 255 = nI b := by
  rw [pk_andN (by omega) 8 rfl, Nat.mod_eq_of_lt (by omega)]
theorem adds_m {p : Nat} {x2 : Int32} (hp : (x2 = 0 ∧ p = 53256) ∨ (¬ x2 = 0 ∧ p = 3988292384)) {b c : Nat} (hb : b < 256) (hc : c < 2 ^ 32) : f_X6_adds (nI b) x2 st wt (lN c) ld ln = some (st, wt, lN (cs8 p (c ^^^ b) 8), ld, ln) := by
  rw [f_X6_adds, bd_e, byte_and hb, nI_l (by omega), fb_xorL, show (0 : Int32) = nI (8 - 8) from rfl]
  exact adds17 hp 8 FU _ (by omega) (by decide) (Nat.xor_lt_two_pow hc (by omega))
theorem sumOf_m {o : Nat} {x1 : Int32} (hp : (x1 = 0 ∧ o = 65535) ∨ (¬ x1 = 0 ∧ o = 4294967295)) {c : Nat} : f_X6_sumOf x1 st wt (lN c) ld ln = some (lN (c ^^^ o), st, wt, lN c, ld, ln) := by
  rcases hp with ⟨z, rfl⟩ | ⟨z, rfl⟩
  · rw [f_X6_sumOf, if_pos z, show (65535 : Int64) = lN 65535 from rfl, fb_xorL]
  · rw [f_X6_sumOf, if_neg z, show (4294967295 : Int64) = lN 4294967295 from rfl, fb_xorL]
theorem begins_m {o : Nat} {x1 : Int32} (hp : (x1 = 0 ∧ o = 65535) ∨ (¬ x1 = 0 ∧ o = 4294967295)) {sm : Int64} : f_X6_begins x1 st wt sm ld ln = some (st, wt, lN o, ld, ln) := by
  rcases hp with ⟨z, rfl⟩ | ⟨z, rfl⟩
  · rw [f_X6_begins, if_pos z]; rfl
  · rw [f_X6_begins, if_neg z]; rfl
end CRC
/-- bytes as numbers -/
def bv (x : Int32) : Nat := x.toBitVec.toNat
theorem bv_n {b : Nat} (h : b < 2 ^ 32) : bv (nI b) = b := pk_tn h
theorem isB_bv {x : Int32} (h : isB x) : bv x < 256 ∧ x = nI (bv x) := by
  obtain ⟨b, hb, rfl⟩ := h
  rw [bv_n (by omega)]; exact ⟨hb, rfl⟩
theorem chk42 {s d p o : Nat} (hs : s < 2) {x2 y2 : Int32} (hd : d ≤ 24) (hy : (x2 = 0 ∧ y2 = 1 ∧ p = 3988292384 ∧ o = 4294967295) ∨ (¬ x2 = 0 ∧ y2 = 0 ∧ p = 53256 ∧ o = 65535)) {st : Nat → Int32} {wt : Int32} {ld ln : Int32} (h13 : st (113 + 100 * s) = nI d) (hB : ∀ k, k < d → isB (st (120 + 100 * s + k))) : ∀ (n fu i c : Nat), i + n = d → n < fu → c < 2 ^ 32 → ∃ sm', f_X6_check_42 fu x2 (nI (100 + 100 * s)) (nI i) st wt (lN c) ld ln = some (lN (crcF p (fun k => bv (st (120 + 100 * s + k))) i n c ^^^ o), st, wt, sm', ld, ln) := by
  intro n
  induction n with
  | zero =>
    intro fu i c hi hfu hc
    obtain ⟨fu, rfl⟩ : ∃ z, fu = z + 1 := ⟨fu - 1, by omega⟩
    rw [f_X6_check_42, ad_13, rd_n (by omega) (by decide), show 100 + 100 * s + 13 = 113 + 100 * s by omega, h13, if_pos (nI_le (by omega) (by omega))]
    rcases hy with ⟨z, rfl, rfl, rfl⟩ | ⟨z, rfl, rfl, rfl⟩
    · rw [if_pos z, sumOf_m (o := 4294967295) (Or.inr ⟨by decide, rfl⟩), bM_s]; exact ⟨_, rfl⟩
    · rw [if_neg z, sumOf_m (o := 65535) (Or.inl ⟨rfl, rfl⟩), bM_s]; exact ⟨_, rfl⟩
  | succ n ih =>
    intro fu i c hi hfu hc
    obtain ⟨fu, rfl⟩ : ∃ z, fu = z + 1 := ⟨fu - 1, by omega⟩
    obtain ⟨hb, he⟩ := isB_bv (hB i (by omega))
    rw [f_X6_check_42, ad_13, rd_n (by omega) (by decide), show 100 + 100 * s + 13 = 113 + 100 * s by omega, h13, if_neg (nI_ge (by omega) (by omega)), ad_20, nI_add, rd_n (by omega) (by decide), show 100 + 100 * s + 20 + i = 120 + 100 * s + i by omega]
    have hlt := cs8_lt (p := p) (by omega) 8 (c ^^^ bv (st (120 + 100 * s + i))) (Nat.xor_lt_two_pow hc (by omega))
    obtain ⟨sm', r⟩ := ih fu (i + 1) _ (by omega) (by omega) hlt
    refine ⟨sm', ?_⟩
    rw [crcF]
    rcases hy with ⟨z, rfl, rfl, rfl⟩ | ⟨z, rfl, rfl, rfl⟩
    · rw [if_pos z, f_X6_check_78, he, adds_m (p := 3988292384) (Or.inr ⟨by decide, rfl⟩) hb hc, bMv_s, bd_e, ad_1]
      rw [← he]
      exact r
    · rw [if_neg z, f_X6_check_78, he, adds_m (p := 53256) (Or.inl ⟨rfl, rfl⟩) hb hc, bMv_s, bd_e, ad_1]
      rw [← he]
      exact r
theorem sim_check {nb : Nat} {kp : Nat → Option Nat} {sc ar : Nat → Nat → Int32} {fr : Nat → Nat → Nat} {st kpM ik : Nat → Int32} (hR : Rel nb kp sc ar fr st kpM ik) (x1 : Int32) (x2 : Int32) (wt : Int32) (sm : Int64) (ld ln : Int32) : ∃ r sc' ar' fr' st' wt' sm' ld' ln', f_X5_check nb x1 x2 sc ar fr = some (r, sc', ar', fr') ∧ f_X6_check x1 x2 st wt sm ld ln = some (r, st', wt', sm', ld', ln') ∧ Rel nb kp sc' ar' fr' st' kpM ik := by
  rcases side x1 with ⟨s, hs, rfl⟩ | ⟨e6, e5⟩
  · have hnb := hR.1
    obtain ⟨T, o, n, u, g, t, d, w, v, hT, hv, h1, h2, h3, h4, h5, h6, h7⟩ := hR.at hs
    have a13 := h2.2.2.2.2.2.2.2.2
    have c1 := h4.1
    simp only [Nat.zero_add] at c1 h5
    have hd : d ≤ 24 := by omega
    rw [f_X5_check, noSide_s hs, bx_s, if_pos rfl, f_X6_check, isEnd_s hs, bx_s, if_neg ne10, in_spec x2 (lo := 0) (hi := 1) 0 1 rfl rfl, bx_s, endAt_s, bx_s]
    have b0 := (s32 x2 0 0 rfl).1
    have b1 := (s32 x2 1 1 rfl).2.1
    have hfu : d < FU := by unfold FU; omega
    by_cases h0 : x2 < 0
    · have := b0.mp h0
      rw [if_pos h0, if_neg (show ¬ (0 ≤ x2.toInt ∧ x2.toInt ≤ 1) by omega), if_pos rfl]
      exact ⟨_, _, _, _, _, _, _, _, _, rfl, rfl, hR⟩
    have h0' : ¬ x2.toInt < 0 := fun q => h0 (b0.mpr q)
    rw [if_neg h0]
    by_cases h1 : x2 ≤ 1
    · have h1' := b1.mp h1
      rw [if_pos h1, if_pos (show 0 ≤ x2.toInt ∧ x2.toInt ≤ 1 by omega), if_neg ne10, gd_t (p_lk hnb), rdR_n (p_ends hnb) hs (by decide), nI_clamp (by omega), show 0 + 1 + 1 + 8 * s = 2 + 8 * s by omega, gd_t (p_end hnb hs), c1, show 2 + 8 * s + 1 = 3 + 8 * s by omega]
      have hf : ∀ k, 0 ≤ k → k < 0 + d → bv (st (120 + 100 * s + k)) < 256 ∧ ar (3 + 8 * s) k = nI (bv (st (120 + 100 * s + k))) := by
        intro k _ hk
        obtain ⟨q1, q2⟩ := h5 k (by omega)
        obtain ⟨q3, q4⟩ := isB_bv q2
        exact ⟨q3, by rw [q1]; exact q4⟩
      have e32 := crc_c (nb := nb) (sc := sc) (fr := fr) (bits := 32) (p := 3988292384) (o := 4294967295) (Or.inl ⟨rfl, rfl, rfl⟩) (p_draft hnb hs) (a := 0) (n := d) (by rw [l_draft hs]; omega) hf
      have e16 := crc_c (nb := nb) (sc := sc) (fr := fr) (bits := 16) (p := 53256) (o := 65535) (Or.inr ⟨rfl, rfl, rfl⟩) (p_draft hnb hs) (a := 0) (n := d) (by rw [l_draft hs]; omega) hf
      rw [show nI 0 = (0 : Int32) from rfl, Nat.zero_add] at e32 e16
      by_cases z : x2 = 0
      · obtain ⟨sm', r⟩ := chk42 (p := 3988292384) (o := 4294967295) hs hd (Or.inl ⟨z, rfl, rfl, rfl⟩) (wt := wt) (ld := ld) (ln := ln) a13 (fun k hk => (h5 k hk).2) d FU 0 4294967295 (by omega) hfu (by decide)
        rw [if_pos z, if_pos z, e32, bC_s, f_X6_check_36, begins_m (o := 4294967295) (Or.inr ⟨by decide, rfl⟩), bMv_s, show (0 : Int32) = nI 0 from rfl, r]
        exact ⟨_, _, _, _, _, _, _, _, _, rfl, rfl, hR⟩
      · obtain ⟨sm', r⟩ := chk42 (p := 53256) (o := 65535) hs hd (Or.inr ⟨z, rfl, rfl, rfl⟩) (wt := wt) (ld := ld) (ln := ln) a13 (fun k hk => (h5 k hk).2) d FU 0 65535 (by omega) hfu (by decide)
        rw [if_neg z, if_neg z, gd_t (p_end hnb hs), e16, bC_s, f_X6_check_36, begins_m (o := 65535) (Or.inl ⟨rfl, rfl⟩), bMv_s, show (0 : Int32) = nI 0 from rfl, r]
        exact ⟨_, _, _, _, _, _, _, _, _, rfl, rfl, hR⟩
    · have h1' : ¬ x2.toInt ≤ 1 := fun q => h1 (b1.mpr q)
      rw [if_neg h1, if_neg (show ¬ (0 ≤ x2.toInt ∧ x2.toInt ≤ 1) by omega), if_pos rfl]
      exact ⟨_, _, _, _, _, _, _, _, _, rfl, rfl, hR⟩
  · exact ⟨-1, sc, ar, fr, st, wt, sm, ld, ln, by simp only [f_X5_check, e5, bx_s, i10, if_false], by simp only [f_X6_check, e6, bx_s, i00, if_true], hR⟩
