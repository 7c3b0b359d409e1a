theorem wb_shl (n : Nat) {k : Nat} (hk : k < 64) : lN n <<< ((nI k).toInt64 &&& 63) = lN (n * 2 ^ k) := by
  rw [wb_c k hk]
  apply wb_inj
  rw [Int64.toBitVec_shiftLeft, wb_tb, wb_tb, wb_tb, wb_sm k hk]
  apply BitVec.eq_of_toNat_eq
  rw [BitVec.shiftLeft_eq', BitVec.toNat_shiftLeft, BitVec.toNat_ofNat, BitVec.toNat_ofNat, BitVec.toNat_ofNat, Nat.mod_eq_of_lt (show k < 2 ^ 64 by omega), Nat.shiftLeft_eq, Nat.mul_mod, Nat.mod_mod, ← Nat.mul_mod]
/-- what a frame of n bytes is read as -/
def crcS (b : Nat → Nat) (i n : Nat) : Nat := crcF 53256 b i n 65535 ^^^ 65535
def crcL (b : Nat → Nat) (i n : Nat) : Nat := crcF 3988292384 b i n 4294967295 ^^^ 4294967295
def told2 (b : Nat → Nat) (i : Nat) : Nat := b i + 256 * b (i + 1)
def told4 (b : Nat → Nat) (i : Nat) : Nat := b i + 256 * b (i + 1) + 65536 * b (i + 2) + 16777216 * b (i + 3)
def readW (n : Nat) (b : Nat → Nat) : Int32 := if n = 6 ∧ (b 1 = 0 ∨ b 1 = 16) ∧ b 2 < 64 ∧ told2 b 3 = crcS b 1 2 ∧ b 5 = 253 then (if b 1 = 0 then 2 else 3) else 5
def readP (n : Nat) (b : Nat → Nat) : Int32 := if n < 9 ∨ b 0 ≠ 251 ∨ b 1 ≠ 0 ∨ 63 < b 2 then 4 else if b (n - 1) = 253 ∧ told4 b (n - 5) = crcL b 1 (n - 6) then 0 else if b (n - 1) = 254 ∧ told4 b (n - 5) = crcL b 1 (n - 6) ^^^ 4294967295 then 1 else 4
def readS (n : Nat) (b : Nat → Nat) : Int32 := if b 0 = 92 then readW n b else readP n b
theorem lgE {a b : Nat} (ha : a < 2 ^ 63) (hb : b < 2 ^ 63) : lg_cmp (lN a) (lN b) = 0 ↔ a = b := by
  rw [← fb_lN_inj ha hb]
  unfold lg_cmp
  by_cases h1 : lN a > lN b
  · rw [if_pos h1]
    constructor
    · intro q; exact absurd q (by decide)
    · intro q; rw [q] at h1; exact absurd h1 (Int64.lt_irrefl)
  · rw [if_neg h1]
    by_cases h2 : lN a = lN b
    · rw [if_pos h2]; exact ⟨fun _ => h2, fun _ => rfl⟩
    · rw [if_neg h2]
      constructor
      · intro q; exact absurd q (by decide)
      · intro q; exact absurd q h2
theorem or_add {a k : Nat} (b : Nat) (h : a < 2 ^ k) : lN a ||| lN (b * 2 ^ k) = lN (a + b * 2 ^ k) := by
  rw [fb_orL, Nat.or_comm, Nat.mul_comm b, ← Nat.two_pow_add_eq_or_of_lt h, Nat.add_comm]
theorem or_add' {a k : Nat} (b : Nat) (h : a < 2 ^ k) : lN (b * 2 ^ k) ||| lN a = lN (b * 2 ^ k + a) := by
  rw [fb_orL, Nat.mul_comm b, ← Nat.two_pow_add_eq_or_of_lt h]
section READ
variable {nb p n : Nat} {sc ar : Nat → Nat → Int32} {fr : Nat → Nat → Nat} {b : Nat → Nat}
theorem rlf_step {fu i z acc : Nat} {sz : Nat} (hp : pk nb 1 p = true) (hp7 : pk nb 7 (p + 1) = true) (hl : lnA (p + 1) = 32) (hi : i < sz) (hsz : sz ≤ 4) (hz : z + i < 32) (hb : b (z + i) < 256) (he : ar (p + 1) (z + i) = nI (b (z + i))) (ha : acc < 2 ^ (8 * i)) : f_X1_readLowestFirst_5 nb (fu + 1) p (nI z) (nI sz) (lN acc) (nI i) sc ar fr = f_X1_readLowestFirst_5 nb fu p (nI z) (nI sz) (lN (acc + b (z + i) * 2 ^ (8 * i))) (nI (i + 1)) sc ar fr := by
  rw [f_X1_readLowestFirst_5, if_neg (nI_ge hi (by omega)), gd_t hp, nI_add, rdA_n hp7 (by omega), he, bd_e, bd_e, ad_1, nI_l (by omega), show (8 : Int32) = nI 8 from rfl, pk_mul, wb_shl _ (by omega), or_add _ ha]
theorem rlf_end {fu z sz acc : Nat} (hsz : sz ≤ 4) : f_X1_readLowestFirst_5 nb (fu + 1) p (nI z) (nI sz) (lN acc) (nI sz) sc ar fr = some (lN acc, sc, ar, fr) := by
  rw [f_X1_readLowestFirst_5, if_pos (nI_le (Nat.le_refl _) (by omega))]
theorem rlf2 {z : Nat} (hp : pk nb 1 p = true) (hp7 : pk nb 7 (p + 1) = true) (hl : lnA (p + 1) = 32) (hz : z + 2 ≤ 32) (hb : ∀ k, z ≤ k → k < z + 2 → b k < 256 ∧ ar (p + 1) k = nI (b k)) : f_X1_readLowestFirst nb p (nI z) 2 sc ar fr = some (lN (told2 b z), sc, ar, fr) := by
  have b0 := hb z (by omega) (by omega)
  have b1 := hb (z + 1) (by omega) (by omega)
  rw [f_X1_readLowestFirst, show FU = 999997 + 1 + 1 + 1 from rfl, show (2 : Int32) = nI 2 from rfl, show (0 : Int64) = lN 0 from rfl, show (0 : Int32) = nI 0 from rfl]
  rw [rlf_step (i := 0) (sz := 2) hp hp7 hl (by decide) (by decide) (by omega) b0.1 b0.2 (by decide)]
  rw [rlf_step (i := 1) (sz := 2) hp hp7 hl (by decide) (by decide) (by omega) b1.1 b1.2 (by have := b0.1; simp only [Nat.add_zero, Nat.mul_zero, Nat.pow_zero, Nat.mul_one, Nat.zero_add]; omega)]
  rw [rlf_end (by decide)]
  unfold told2
  have e : 0 + b (z + 0) * 2 ^ (8 * 0) + b (z + 1) * 2 ^ (8 * 1) = b z + 256 * b (z + 1) := by
    simp only [Nat.add_zero, Nat.mul_zero, Nat.pow_zero, Nat.mul_one, Nat.zero_add, Nat.reducePow]; omega
  rw [e]
theorem rlf4 {z : Nat} (hp : pk nb 1 p = true) (hp7 : pk nb 7 (p + 1) = true) (hl : lnA (p + 1) = 32) (hz : z + 4 ≤ 32) (hb : ∀ k, z ≤ k → k < z + 4 → b k < 256 ∧ ar (p + 1) k = nI (b k)) : f_X1_readLowestFirst nb p (nI z) 4 sc ar fr = some (lN (told4 b z), sc, ar, fr) := by
  have b0 := hb z (by omega) (by omega)
  have b1 := hb (z + 1) (by omega) (by omega)
  have b2 := hb (z + 2) (by omega) (by omega)
  have b3 := hb (z + 3) (by omega) (by omega)
  have b0' := b0.1; have b1' := b1.1; have b2' := b2.1; have b3' := b3.1
  rw [f_X1_readLowestFirst, show FU = 999995 + 1 + 1 + 1 + 1 + 1 from rfl, show (4 : Int32) = nI 4 from rfl, show (0 : Int64) = lN 0 from rfl, show (0 : Int32) = nI 0 from rfl]
  rw [rlf_step (i := 0) (sz := 4) hp hp7 hl (by decide) (by decide) (by omega) b0.1 b0.2 (by decide)]
  rw [rlf_step (i := 1) (sz := 4) hp hp7 hl (by decide) (by decide) (by omega) b1.1 b1.2 (by simp only [Nat.add_zero, Nat.mul_zero, Nat.pow_zero, Nat.mul_one, Nat.zero_add]; omega)]
  rw [rlf_step (i := 2) (sz := 4) hp hp7 hl (by decide) (by decide) (by omega) b2.1 b2.2 (by simp only [Nat.add_zero, Nat.mul_zero, Nat.pow_zero, Nat.mul_one, Nat.zero_add, Nat.reduceMul, Nat.reducePow]; omega)]
  rw [rlf_step (i := 3) (sz := 4) hp hp7 hl (by decide) (by decide) (by omega) b3.1 b3.2 (by simp only [Nat.add_zero, Nat.mul_zero, Nat.pow_zero, Nat.mul_one, Nat.zero_add, Nat.reduceMul, Nat.reducePow]; omega)]
  rw [rlf_end (by decide)]
  unfold told4
  have e : 0 + b (z + 0) * 2 ^ (8 * 0) + b (z + 1) * 2 ^ (8 * 1) + b (z + 2) * 2 ^ (8 * 2) + b (z + 3) * 2 ^ (8 * 3) = b z + 256 * b (z + 1) + 65536 * b (z + 2) + 16777216 * b (z + 3) := by
    simp only [Nat.add_zero, Nat.mul_zero, Nat.pow_zero, Nat.mul_one, Nat.zero_add, Nat.reduceMul, Nat.reducePow]; omega
  rw [e]
theorem crcS_lt {i k : Nat} (h : ∀ z, i ≤ z → z < i + k → b z < 256) : crcS b i k < 2 ^ 32 := Nat.xor_lt_two_pow (crcF_lt (by decide) k i 65535 h (by decide)) (by decide)
theorem crcL_lt {i k : Nat} (h : ∀ z, i ≤ z → z < i + k → b z < 256) : crcL b i k < 2 ^ 32 := Nat.xor_lt_two_pow (crcF_lt (by decide) k i 4294967295 h (by decide)) (by decide)
theorem nIe {a k : Nat} (ha : a < 256) (hk : k < 256) : nI a = nI k ↔ a = k := nI_eq (by omega) (by omega)
theorem readAs_c (hp : pk nb 1 p = true) (hp7 : pk nb 7 (p + 1) = true) (hl : lnA (p + 1) = 32) (hn : n = 6 ∨ (9 ≤ n ∧ n ≤ 32)) (h1 : sc p 1 = nI n) (hb : ∀ k, k < n → b k < 256 ∧ ar (p + 1) k = nI (b k)) : f_X1_readAs nb p sc ar fr = some (readS n b, sc, ar, fr) := by
  have r : ∀ {β : Type} (k : Nat) (K : Int32 → Option β), k < n → rdA nb ar (p + 1) (nI k) K = K (nI (b k)) := fun k K hk => by rw [rdA_n hp7 (by omega), (hb k hk).2]
  have hB : ∀ k, k < n → b k < 256 := fun k hk => (hb k hk).1
  have hnum : f_X1_number nb p sc ar fr = some (nI (b 2), sc, ar, fr) := by
    rw [f_X1_number, gd_t hp, show (2 : Int32) = nI 2 from rfl, r 2 _ (by omega)]
  rw [f_X1_readAs, gd_t hp, show (0 : Int32) = nI 0 from rfl, r 0 _ (by omega)]
  unfold readS
  by_cases h92 : b 0 = 92
  · rw [if_pos h92, if_pos (show nI (b 0) = 92 by rw [h92]; rfl)]
    unfold readW
    rw [f_X1_readAsWord, gd_t hp, h1]
    by_cases h6 : n = 6
    · rw [if_pos (show nI n = 6 by rw [h6]; rfl), show (5 : Int32) = nI 5 from rfl, r 5 _ (by omega)]
      by_cases h253 : b 5 = 253
      · rw [if_pos (show nI (b 5) = 253 by rw [h253]; rfl), hnum, bC_s]
        by_cases h63 : b 2 < 64
        · rw [if_neg (show ¬ (63 : Int32) < nI (b 2) from nI_nlt (a := 63) (by omega) (by decide)), show (3 : Int32) = nI 3 from rfl, rlf2 (b := b) hp hp7 hl (by decide) (fun k a c => hb k (by omega)), bC_s, show (1 : Int32) = nI 1 from rfl]
          have ec := crc_c (nb := nb) (sc := sc) (ar := ar) (fr := fr) (bits := 16) (p := 53256) (o := 65535) (Or.inr ⟨rfl, rfl, rfl⟩) hp7 (f := b) (a := 1) (n := 2) (by omega) (fun k a c => hb k (by omega))
          rw [show nI (1 + 2) = nI 3 from rfl] at ec
          rw [ec, bC_s, show crcF 53256 b 1 2 65535 ^^^ 65535 = crcS b 1 2 from rfl]
          have hc := crcS_lt (b := b) (i := 1) (k := 2) (fun z a c => hB z (by omega))
          have ht : told2 b 3 < 2 ^ 32 := by unfold told2; have := hB 3 (by omega); have := hB 4 (by omega); simp only [Nat.reduceAdd]; omega
          by_cases heq : told2 b 3 = crcS b 1 2
          · rw [if_pos ((lgE (by omega) (by omega)).mpr heq), r 1 _ (by omega)]
            by_cases k0 : b 1 = 0
            · rw [if_pos (show nI (b 1) = 0 by rw [k0]; rfl), if_pos ⟨h6, Or.inl k0, h63, heq, h253⟩, if_pos k0]; rfl
            · rw [if_neg (fun q : nI (b 1) = 0 => k0 ((nIe (hB 1 (by omega)) (by decide)).mp q))]
              by_cases k16 : b 1 = 16
              · rw [if_pos (show nI (b 1) = 16 by rw [k16]; rfl), if_pos ⟨h6, Or.inr k16, h63, heq, h253⟩, if_neg k0]; rfl
              · rw [if_neg (fun q : nI (b 1) = 16 => k16 ((nIe (hB 1 (by omega)) (by decide)).mp q)), if_neg (fun q => by omega)]; rfl
          · rw [if_neg (fun q => heq ((lgE (by omega) (by omega)).mp q)), if_neg (fun q => heq q.2.2.2.1)]; rfl
        · rw [if_pos (show (63 : Int32) < nI (b 2) from nI_lt (a := 63) (by omega) (by have := hB 2 (by omega); omega)), if_neg (fun q => h63 q.2.2.1)]; rfl
      · rw [if_neg (fun q : nI (b 5) = 253 => h253 ((nIe (hB 5 (by omega)) (by decide)).mp q)), if_neg (fun q => h253 q.2.2.2.2)]; rfl
    · rw [if_neg (fun q : nI n = 6 => h6 ((nI_eq (b := 6) (by omega) (by decide)).mp q)), if_neg (fun q => h6 q.1)]; rfl
  · rw [if_neg h92, if_neg (fun q : nI (b 0) = 92 => h92 ((nIe (hB 0 (by omega)) (by decide)).mp q))]
    unfold readP
    have hpl : f_X1_packetLength nb p sc ar fr = some (nI n - 3 - 5, sc, ar, fr) := by rw [f_X1_packetLength, gd_t hp, h1]
    rw [f_X1_readAsPacket, gd_t hp, hpl, bC_s]
    by_cases h9 : n < 9
    · have hn6 : n = 6 := by omega
      rw [if_pos (show nI n - 3 - 5 < 1 by rw [hn6]; decide), if_pos (Or.inl h9)]; rfl
    · have e8 : nI n - 3 - 5 = nI (n - 3 - 5) := by rw [show (3 : Int32) = nI 3 from rfl, pk_sub (by omega), show (5 : Int32) = nI 5 from rfl, pk_sub (by omega)]
      rw [e8, if_neg (show ¬ nI (n - 3 - 5) < 1 from nI_nlt (b := 1) (by omega) (by omega)), show (0 : Int32) = nI 0 from rfl, r 0 _ (by omega)]
      by_cases k0 : b 0 = 251
      · rw [if_pos (show nI (b 0) = 251 by rw [k0]; rfl), show (1 : Int32) = nI 1 from rfl, r 1 _ (by omega)]
        by_cases k1 : b 1 = 0
        · rw [if_pos (show nI (b 1) = nI 0 by rw [k1]), hnum, bC_s]
          by_cases k2 : b 2 ≤ 63
          · have hc := crcL_lt (b := b) (i := 1) (k := n - 6) (fun z a c => hB z (by omega))
            have ht : told4 b (n - 5) < 2 ^ 32 := by
              unfold told4
              have := hB (n - 5) (by omega); have := hB (n - 5 + 1) (by omega); have := hB (n - 5 + 2) (by omega); have := hB (n - 5 + 3) (by omega); omega
            have ec := crc_c (nb := nb) (sc := sc) (ar := ar) (fr := fr) (bits := 32) (p := 3988292384) (o := 4294967295) (Or.inl ⟨rfl, rfl, rfl⟩) hp7 (f := b) (a := 1) (n := n - 6) (by omega) (fun k a c => hb k (by omega))
            rw [show 1 + (n - 6) = n - 5 by omega] at ec
            rw [if_pos (show nI (b 2) ≤ 63 from nI_le (b := 63) k2 (by decide)), bd_e, h1, show (5 : Int32) = nI 5 from rfl, pk_sub (by omega), rlf4 (b := b) hp hp7 hl (by omega) (fun k a c => hb k (by omega)), bC_s, ec, bC_s, h1, pk_sub (by omega), r (n - 1) _ (by omega), if_neg (show ¬ (n < 9 ∨ b 0 ≠ 251 ∨ b 1 ≠ 0 ∨ 63 < b 2) by omega)]
            have hcc : crcF 3988292384 b 1 (n - 6) 4294967295 ^^^ 4294967295 = crcL b 1 (n - 6) := rfl
            rw [hcc]
            by_cases k3 : b (n - 1) = 253
            · rw [if_pos (show nI (b (n - 1)) = 253 by rw [k3]; rfl)]
              by_cases heq : told4 b (n - 5) = crcL b 1 (n - 6)
              · rw [if_pos (show lg_cmp (lN (told4 b (n - 5))) (lN (crcL b 1 (n - 6))) = nI 0 from (lgE (by omega) (by omega)).mpr heq), if_pos ⟨k3, heq⟩]; rfl
              · rw [if_neg (fun q : lg_cmp (lN (told4 b (n - 5))) (lN (crcL b 1 (n - 6))) = nI 0 => heq ((lgE (by omega) (by omega)).mp q)), if_neg (fun q => heq q.2), if_neg (fun q => by omega)]; rfl
            · rw [if_neg (fun q : nI (b (n - 1)) = 253 => k3 ((nIe (hB _ (by omega)) (by decide)).mp q)), if_neg (fun q : b (n - 1) = 253 ∧ told4 b (n - 5) = crcL b 1 (n - 6) => k3 q.1)]
              by_cases k4 : b (n - 1) = 254
              · have hx : crcL b 1 (n - 6) ^^^ 4294967295 < 2 ^ 32 := Nat.xor_lt_two_pow hc (by decide)
                rw [if_pos (show nI (b (n - 1)) = 254 by rw [k4]; rfl), f_X5_turned, show (4294967295 : Int64) = lN 4294967295 from rfl, fb_xorL, bx_s]
                by_cases heq : told4 b (n - 5) = crcL b 1 (n - 6) ^^^ 4294967295
                · rw [if_pos (show lg_cmp (lN (told4 b (n - 5))) (lN (crcL b 1 (n - 6) ^^^ 4294967295)) = nI 0 from (lgE (by omega) (by omega)).mpr heq), if_pos ⟨k4, heq⟩]; rfl
                · rw [if_neg (fun q : lg_cmp (lN (told4 b (n - 5))) (lN (crcL b 1 (n - 6) ^^^ 4294967295)) = nI 0 => heq ((lgE (by omega) (by omega)).mp q)), if_neg (fun q => heq q.2)]; rfl
              · rw [if_neg (fun q : nI (b (n - 1)) = 254 => k4 ((nIe (hB _ (by omega)) (by decide)).mp q)), if_neg (fun q => k4 q.1)]; rfl
          · rw [if_neg (show ¬ nI (b 2) ≤ 63 from nI_ge (a := 63) (by omega) (by have := hB 2 (by omega); omega)), if_pos (show n < 9 ∨ b 0 ≠ 251 ∨ b 1 ≠ 0 ∨ 63 < b 2 by omega)]; rfl
        · rw [if_neg (fun q : nI (b 1) = nI 0 => k1 ((nIe (hB 1 (by omega)) (by decide)).mp q)), if_pos (Or.inr (Or.inr (Or.inl k1)))]; rfl
      · rw [if_neg (fun q : nI (b 0) = 251 => k0 ((nIe (hB 0 (by omega)) (by decide)).mp q)), if_pos (Or.inr (Or.inl k0))]; rfl
end READ
