/-- a packet's check and bytes -/
def pIn (num : Nat) (g : Nat → Nat) : Nat → Nat := fun k => if k = 1 then 0 else if k = 2 then num else g (k - 3)
def pSum (len num : Nat) (g : Nat → Nat) : Nat := crcL (pIn num g) 1 (2 + len)
def pVal (len num : Nat) (g : Nat → Nat) (x : Int32) : Nat := if x = 1 then pSum len num g ^^^ 4294967295 else pSum len num g
def pByt (len num : Nat) (g : Nat → Nat) (x : Int32) : Nat → Nat := fun k => if k = 0 then 251 else if k = 1 then 0 else if k = 2 then num else if k < 3 + len then g (k - 3) else if k < 7 + len then pVal len num g x / 2 ^ (8 * (k - 3 - len)) % 256 else if x = 1 then 254 else 253
section LC
variable {nb T s w L : Nat} {sc ar sc' ar' : Nat → Nat → Int32} {fr fr' : Nat → Nat → Nat} {st st' : Nat → Int32} {wt : Int32} {sm : Int64} {ld ln : Int32}
theorem pIn_lt {len num : Nat} {g : Nat → Nat} (hn : num < 256) (hg : ∀ k, k < len → g k < 256) : ∀ z, 1 ≤ z → z < 1 + (2 + len) → pIn num g z < 256 := by
  intro z h1 h2
  unfold pIn
  split
  · decide
  · split
    · exact hn
    · exact hg _ (by omega)
theorem pVal_lt {len num : Nat} {g : Nat → Nat} {x : Int32} (hn : num < 256) (hg : ∀ k, k < len → g k < 256) : pVal len num g x < 2 ^ 32 := by
  have h : pSum len num g < 2 ^ 32 := crcL_lt (pIn_lt hn hg)
  unfold pVal
  split
  · exact Nat.xor_lt_two_pow h (by decide)
  · exact h
theorem pByt_lt {len num k : Nat} {g : Nat → Nat} {x : Int32} (hn : num < 256) (hg : ∀ k, k < len → g k < 256) : pByt len num g x k < 256 := by
  unfold pByt
  split
  · decide
  · split
    · decide
    · split
      · exact hn
      · split
        · exact hg _ (by omega)
        · split
          · exact Nat.mod_lt _ (by decide)
          · split <;> decide
theorem pByt_v {len num i : Nat} {g : Nat → Nat} {x : Int32} (hi : i < 4) : pByt len num g x (3 + len + i) = pVal len num g x / 2 ^ (8 * i) % 256 := by
  unfold pByt
  rw [if_neg (by omega), if_neg (by omega), if_neg (by omega), if_neg (by omega), if_pos (by omega), show 3 + len + i - 3 - len = i by omega]
theorem pByt_e {len num : Nat} {g : Nat → Nat} {x : Int32} : pByt len num g x (7 + len) = if x = 1 then 254 else 253 := by
  unfold pByt
  rw [if_neg (by omega), if_neg (by omega), if_neg (by omega), if_neg (by omega), if_neg (by omega)]
theorem pByt_g {len num i : Nat} {g : Nat → Nat} {x : Int32} (hi : i < len) : pByt len num g x (3 + i) = g i := by
  unfold pByt
  rw [if_neg (by omega), if_neg (by omega), if_neg (by omega), if_pos (by omega), show 3 + i - 3 = i by omega]
theorem byt_n {V i : Nat} (h : V < 2 ^ 32) : byt (lN V) i = V / 2 ^ (8 * i) % 256 := by unfold byt; rw [wb_tn (by omega)]
theorem wpk_c (hnb : 1 ≤ nb) (hs : s < 2) {p num len i : Nat} {g : Nat → Nat} {x1 : Int32} (hx : x1 = 1 ∨ x1 = 0) (hp : pk nb 1 p = true) (hp7 : pk nb 7 (p + 1) = true) (hl : lnA (p + 1) = 32) (hps : p + 1 ≠ 6 + 8 * s) (hn : num < 256) (hi : i < 24) (hlen : len ≤ 24) (h5 : ar (5 + 8 * s) i = nI len) (h6 : ∀ k, k < len → g k < 256 ∧ ar (6 + 8 * s) (24 * i + k) = nI (g k)) : ∃ ar', f_X1_writePacket nb p x1 (nI num) (4 + 8 * s) (nI i) sc ar fr = some (up2 sc p 1 (nI (len + 8)), ar', fr) ∧ (∀ q, q ≠ p + 1 → ar' q = ar q) ∧ ∀ k, k < len + 8 → ar' (p + 1) k = nI (pByt len num g x1 k) := by
  have hg : ∀ k, k < len → g k < 256 := fun k hk => (h6 k hk).1
  rw [f_X1_writePacket, gd_t (p_pks hnb hs), show 4 + 8 * s + 1 = 5 + 8 * s by omega, show 4 + 8 * s + 2 = 6 + 8 * s by omega, rdA_n (p_pkl hnb hs) (by rw [l_pkl hs]; exact hi), h5, bd_e, gd_t hp, wrA_l 0 0 rfl hp7 (by omega), wrA_l 1 1 rfl hp7 (by omega), va_uu, va_s, wrA_l 2 2 rfl hp7 (by omega), va_uu, va_s]
  rw [show (24 : Int32) = nI 24 from rfl, pk_mul, show (3 : Int32) = nI 3 from rfl, nI_add, cpA_n (p_pkb hnb hs) hp7 (by rw [l_pkb hs]; omega) (by omega), va_uu, va_s, va_o (by omega)]
  rw [show f_X5_checkOf nb 32 (p + 1) 1 (nI (3 + len)) = f_X5_checkOf nb 32 (p + 1) (nI 1) (nI (1 + (2 + len))) by rw [show 1 + (2 + len) = 3 + len by omega]; rfl]
  rw [crc_c (bits := 32) (p := 3988292384) (o := 4294967295) (Or.inl ⟨rfl, rfl, rfl⟩) hp7 (f := pIn num g) (by omega) (fun k a b => ⟨pIn_lt hn hg k a b, by
    rw [va_s]
    unfold va_cpy pIn
    by_cases k1 : k = 1
    · rw [k1, if_neg (by omega), upd_o (by decide), upd_s, if_pos rfl]; rfl
    by_cases k2 : k = 2
    · rw [k2, if_neg (by omega), upd_s, if_neg (by decide), if_pos rfl]
    · rw [if_pos (by omega), if_neg k1, if_neg k2, ← (h6 (k - 3) (by omega)).2]; congr 1; omega⟩), bC_s]
  rw [show crcF 3988292384 (pIn num g) 1 (2 + len) 4294967295 ^^^ 4294967295 = pSum len num g from rfl]
  have hV := pVal_lt (x := x1) hn hg
  have e90 : ∀ (ar0 : Nat → Nat → Int32), (∀ k, k < 3 + len → ar0 (p + 1) k = nI (pByt len num g x1 k)) → (∀ q, q ≠ p + 1 → ar0 q = ar q) → ∃ ar', f_X1_writePacket_90 nb p x1 (nI (3 + len)) (lN (pVal len num g x1)) 4 (nI (3 + len)) p sc ar0 fr = some (up2 sc p 1 (nI (len + 8)), ar', fr) ∧ (∀ q, q ≠ p + 1 → ar' q = ar q) ∧ ∀ k, k < len + 8 → ar' (p + 1) k = nI (pByt len num g x1 k) := by
    intro ar0 hk0 hq0
    rw [f_X1_writePacket_90, gd_t hp, show f_X1_writeLowestFirst nb p (nI (3 + len)) 4 = fun v s a f => f_X1_writeLowestFirst_3 nb FU p (nI (3 + len)) (nI 4) v (nI 0) s a f from rfl]
    dsimp only
    rw [wlf_c (z := 3 + len) (sz := 4) hp hp7 hl (by omega) (by decide) 4 FU 0 _ rfl (by decide), bCv_s, gd_t hp, show nI (3 + len) + 4 = nI (7 + len) by rw [ad_4]; congr 1; omega, show nI (3 + len) + 5 = nI (len + 8) by rw [ad_5]; congr 1; omega]
    have fin : ∀ (E : Int32), E = nI (if x1 = 1 then 254 else 253) → ∀ k, k < len + 8 → (va_up ar0 (p + 1) (upd (fun j => if 3 + len + 0 ≤ j ∧ j < 3 + len + 4 then nI (byt (lN (pVal len num g x1)) (j - (3 + len))) else ar0 (p + 1) j) (7 + len) E)) (p + 1) k = nI (pByt len num g x1 k) := by
      intro E hE k hk
      rw [va_s]
      by_cases q : k = 7 + len
      · rw [q, upd_s, pByt_e]; exact hE
      · rw [upd_o q]
        by_cases r : 3 + len + 0 ≤ k ∧ k < 3 + len + 4
        · rw [if_pos r, byt_n hV, show k = 3 + len + (k - (3 + len)) by omega, pByt_v (by omega), show 3 + len + (k - (3 + len)) - (3 + len) = k - (3 + len) by omega]
        · rw [if_neg r]; exact hk0 k (by omega)
    by_cases q : x1 = 1
    · rw [if_pos q, wrA_n hp7 (by omega), va_uu, va_s, bd_e, bd_e]
      refine ⟨_, rfl, fun q hq => by rw [va_o hq]; exact hq0 q hq, fin 254 (by rw [if_pos q]; rfl)⟩
    · rw [if_neg q, wrA_n hp7 (by omega), va_uu, va_s, bd_e, bd_e]
      refine ⟨_, rfl, fun q hq => by rw [va_o hq]; exact hq0 q hq, fin 253 (by rw [if_neg q]; rfl)⟩
  have h0 : ∀ k, k < 3 + len → (va_up ar (p + 1) (va_cpy (ar (6 + 8 * s)) (upd (upd (upd (ar (p + 1)) 0 251) 1 0) 2 (nI num)) (i * 24) 3 len)) (p + 1) k = nI (pByt len num g x1 k) := by
    intro k hk
    rw [va_s]; unfold va_cpy
    by_cases k0 : k = 0
    · rw [k0, if_neg (by omega), upd_o (by decide), upd_o (by decide), upd_s]; rfl
    by_cases k1 : k = 1
    · rw [k1, if_neg (by omega), upd_o (by decide), upd_s]; rfl
    by_cases k2 : k = 2
    · rw [k2, if_neg (by omega), upd_s]; rfl
    · rw [if_pos (by omega), show k = 3 + (k - 3) by omega, pByt_g (by omega), ← (h6 (k - 3) (by omega)).2]; congr 1; omega
  have hq : ∀ q, q ≠ p + 1 → (va_up ar (p + 1) (va_cpy (ar (6 + 8 * s)) (upd (upd (upd (ar (p + 1)) 0 251) 1 0) 2 (nI num)) (i * 24) 3 len)) q = ar q := fun q hq => va_o hq
  obtain ⟨ar', e1, e2, e3⟩ := e90 _ h0 hq
  by_cases q : x1 = 1
  · rw [if_pos q, f_X5_turned, bx_s, show (lN (pSum len num g) ^^^ 4294967295 : Int64) = lN (pVal len num g x1) by unfold pVal; rw [if_pos q]; exact fb_xorL _ _]
    exact ⟨ar', e1, e2, e3⟩
  · rw [if_neg q, show lN (pSum len num g) = lN (pVal len num g x1) by unfold pVal; rw [if_neg q]]
    exact ⟨ar', e1, e2, e3⟩
end LC
