theorem cs8_16 : ∀ (k c : Nat), c < 2 ^ 16 → cs8 53256 c k < 2 ^ 16 := by
  intro k
  induction k with
  | zero => intro c hc; exact hc
  | succ k ih =>
    intro c hc
    rw [cs8]
    refine ih _ ?_
    unfold cs1
    by_cases h : c % 2 = 0
    · rw [if_pos h]; omega
    · rw [if_neg h]; exact Nat.xor_lt_two_pow (by omega) (by decide)
theorem crcS2 {b : Nat → Nat} (h1 : b 1 < 256) (h2 : b 2 < 256) : crcS b 1 2 < 65536 ∧ crcS b 1 2 = cs8 53256 (cs8 53256 (65535 ^^^ b 1) 8 ^^^ b 2) 8 ^^^ 65535 := by
  refine ⟨?_, rfl⟩
  show cs8 53256 (cs8 53256 (65535 ^^^ b 1) 8 ^^^ b 2) 8 ^^^ 65535 < 2 ^ 16
  exact Nat.xor_lt_two_pow (cs8_16 _ _ (Nat.xor_lt_two_pow (cs8_16 _ _ (Nat.xor_lt_two_pow (by decide) (by omega))) (by omega))) (by decide)
section READM
variable {f n : Nat} {st : Nat → Int32} {b : Nat → Nat} {wt : Int32} {ld ln : Int32}
theorem r268 (hf : f + 40 < 8000) (hn : 9 ≤ n ∧ n ≤ 32) (hb : ∀ k, k < n → b k < 256 ∧ st (f + 2 + k) = nI (b k)) : ∀ (k fu i c : Nat), i + k = n - 8 → k < fu → c < 2 ^ 32 → f_X6_read_268 fu (nI n) (nI (f + 2)) (nI (n - 8)) (nI i) st wt (lN c) ld ln = f_X6_read_303 FU (nI n) (nI (f + 2)) (nI (n - 8)) 0 3 st wt (lN (crcF 3988292384 b (3 + i) k c)) ld ln := by
  intro k
  induction k with
  | zero =>
    intro fu i c hi hfu hc
    obtain ⟨fu, rfl⟩ : ∃ z, fu = z + 1 := ⟨fu - 1, by omega⟩
    rw [f_X6_read_268, if_pos (nI_le (by omega) (by omega))]
    rfl
  | succ k ih =>
    intro fu i c hi hfu hc
    obtain ⟨fu, rfl⟩ : ∃ z, fu = z + 1 := ⟨fu - 1, by omega⟩
    obtain ⟨h1, h2⟩ := hb (3 + i) (by omega)
    rw [f_X6_read_268, if_neg (nI_ge (by omega) (by omega)), ad_3, nI_add, rd_n (by omega) (by decide), show f + 2 + 3 + i = f + 2 + (3 + i) by omega, h2, adds_m (p := 3988292384) (Or.inr ⟨by decide, rfl⟩) h1 hc, bMv_s, bd_e, ad_1, crcF]
    rw [ih fu (i + 1) _ (by omega) (by omega) (cs8_lt (by decide) _ _ (Nat.xor_lt_two_pow hc (by omega)))]
    rw [show 3 + (i + 1) = 3 + i + 1 by omega]
theorem r303s {fu k a : Nat} {c : Int64} (hf : f + 40 < 8000) (hn : 9 ≤ n ∧ n ≤ 32) (hb : ∀ k, k < n → b k < 256 ∧ st (f + 2 + k) = nI (b k)) (hk : k < 4) {x7 : Int32} (hx : nI k + (-1) = x7) : f_X6_read_303 (fu + 1) (nI n) (nI (f + 2)) (nI (n - 8)) (lN a) (nI k) st wt c ld ln = f_X6_read_303 fu (nI n) (nI (f + 2)) (nI (n - 8)) (lN (a * 256 + b (n - 5 + k))) x7 st wt c ld ln := by
  obtain ⟨h1, h2⟩ := hb (n - 5 + k) (by omega)
  rw [f_X6_read_303, if_neg (nI_pos (by omega)), ad_3, nI_add, nI_add, rd_n (by omega) (by decide), show f + 2 + 3 + (n - 8) + k = f + 2 + (n - 5 + k) by omega, h2, bd_e, bd_e, hx, nI_l (by omega), show (8 : Int32) = nI 8 from rfl, wb_shl _ (by decide), or_add' (k := 8) _ (by omega)]
theorem r303 {C : Nat} (hC : C < 2 ^ 32) (hf : f + 40 < 8000) (hn : 9 ≤ n ∧ n ≤ 32) (hb : ∀ k, k < n → b k < 256 ∧ st (f + 2 + k) = nI (b k)) : f_X6_read_303 FU (nI n) (nI (f + 2)) (nI (n - 8)) 0 3 st wt (lN C) ld ln = some (if b (n - 1) = 253 ∧ told4 b (n - 5) = C ^^^ 4294967295 then 0 else if b (n - 1) = 254 ∧ told4 b (n - 5) = C ^^^ 4294967295 ^^^ 4294967295 then 1 else 4, st, wt, lN C, ld, ln) := by
  have b0 := (hb (n - 5 + 0) (by omega)).1
  have b1 := (hb (n - 5 + 1) (by omega)).1
  have b2 := (hb (n - 5 + 2) (by omega)).1
  have b3 := (hb (n - 5 + 3) (by omega)).1
  obtain ⟨hl1, hl2⟩ := hb (n - 1) (by omega)
  obtain ⟨z, hz⟩ : ∃ z, FU = z + 1 + 1 + 1 + 1 + 1 := ⟨999995, rfl⟩
  rw [hz, show (0 : Int64) = lN 0 from rfl, show (3 : Int32) = nI 3 from rfl]
  rw [r303s (x7 := nI 2) (fu := z + 1 + 1 + 1 + 1) hf hn hb (by decide) (by decide), r303s (x7 := nI 1) (fu := z + 1 + 1 + 1) hf hn hb (by decide) (by decide), r303s (x7 := nI 0) (fu := z + 1 + 1) hf hn hb (by decide) (by decide), r303s (x7 := -1) (fu := z + 1) hf hn hb (by decide) (by decide)]
  have et : (((0 * 256 + b (n - 5 + 3)) * 256 + b (n - 5 + 2)) * 256 + b (n - 5 + 1)) * 256 + b (n - 5 + 0) = told4 b (n - 5) := by unfold told4; have e0 : b (n - 5 + 0) = b (n - 5) := rfl; omega
  have ht : told4 b (n - 5) < 2 ^ 32 := by rw [← et]; omega
  have hx1 : C ^^^ 4294967295 < 2 ^ 32 := Nat.xor_lt_two_pow hC (by decide)
  have hx2 : C ^^^ 4294967295 ^^^ 4294967295 < 2 ^ 32 := Nat.xor_lt_two_pow hx1 (by decide)
  rw [et, f_X6_read_303, if_pos (by decide), nI_add, show (1 : Int32) = nI 1 from rfl, pk_sub (by omega), rd_n (by omega) (by decide), show f + 2 + n - 1 = f + 2 + (n - 1) by omega, hl2]
  have z370 : f_X6_read_370 (lN (told4 b (n - 5))) (nI (b (n - 1))) st wt (lN C) ld ln = some (if b (n - 1) = 254 ∧ told4 b (n - 5) = C ^^^ 4294967295 ^^^ 4294967295 then 1 else 4, st, wt, lN C, ld, ln) := by
    rw [f_X6_read_370]
    by_cases k4 : b (n - 1) = 254
    · rw [if_pos (show nI (b (n - 1)) = 254 by rw [k4]; rfl), sumOf_m (o := 4294967295) (Or.inr ⟨by decide, rfl⟩), bM_s, show (4294967295 : Int64) = lN 4294967295 from rfl, fb_xorL]
      by_cases heq : told4 b (n - 5) = C ^^^ 4294967295 ^^^ 4294967295
      · rw [if_pos ((lgE (by omega) (by omega)).mpr heq), if_pos ⟨k4, heq⟩]
      · rw [if_neg (fun q => heq ((lgE (by omega) (by omega)).mp q)), if_neg (fun q : b (n - 1) = 254 ∧ _ => heq q.2)]
    · rw [if_neg (fun q : nI (b (n - 1)) = 254 => k4 ((nIe hl1 (by decide)).mp q)), if_neg (fun q : b (n - 1) = 254 ∧ _ => k4 q.1)]
  by_cases k3 : b (n - 1) = 253
  · rw [if_pos (show nI (b (n - 1)) = 253 by rw [k3]; rfl), show nI 1 = (1 : Int32) from rfl, sumOf_m (o := 4294967295) (Or.inr ⟨by decide, rfl⟩), bM_s]
    by_cases heq : told4 b (n - 5) = C ^^^ 4294967295
    · rw [if_pos ((lgE (by omega) (by omega)).mpr heq), if_pos ⟨k3, heq⟩]
    · rw [if_neg (fun q => heq ((lgE (by omega) (by omega)).mp q)), z370, if_neg (fun q : b (n - 1) = 253 ∧ _ => heq q.2)]
  · rw [if_neg (fun q : nI (b (n - 1)) = 253 => k3 ((nIe hl1 (by decide)).mp q)), z370, if_neg (fun q : b (n - 1) = 253 ∧ _ => k3 q.1)]
    rfl
theorem read_m {sm : Int64} (hf : f + 40 < 8000) (hn : n = 6 ∨ (9 ≤ n ∧ n ≤ 32)) (h0 : st f = nI n) (hb : ∀ k, k < n → b k < 256 ∧ st (f + 2 + k) = nI (b k)) : ∃ sm', f_X6_read (nI f) st wt sm ld ln = some (readS n b, st, wt, sm', ld, ln) := by
  have r : ∀ {β : Type} (k : Nat) (K : Int32 → Option β), k < n → rd st 8000 (nI (f + 2 + k)) K = K (nI (b k)) := fun k K hk => by rw [rd_n (by omega) (by decide), (hb k hk).2]
  have r0 : ∀ {β : Type} (K : Int32 → Option β), rd st 8000 (nI (f + 2)) K = K (nI (b 0)) := fun K => by rw [rd_n (by omega) (by decide)]; have := (hb 0 (by omega)).2; rw [Nat.add_zero] at this; rw [this]
  have hB : ∀ k, k < n → b k < 256 := fun k hk => (hb k hk).1
  rw [f_X6_read, rd_n (by omega) (by decide), h0, bd_e, ad_2, r0]
  unfold readS
  by_cases h92 : b 0 = 92
  · obtain ⟨hs16, hse⟩ := crcS2 (hB 1 (by omega)) (hB 2 (by omega))
    have l1 := cs8_lt (p := 53256) (by decide) 8 (65535 ^^^ b 1) (Nat.xor_lt_two_pow (by decide) (by have := hB 1 (by omega); omega))
    rw [if_pos h92, if_pos (show nI (b 0) = 92 by rw [h92]; rfl), begins_m (o := 65535) (Or.inl ⟨rfl, rfl⟩), bMv_s, ad_1, r 1 _ (by omega), adds_m (p := 53256) (Or.inl ⟨rfl, rfl⟩) (hB 1 (by omega)) (by decide), bMv_s, ad_2, r 2 _ (by omega), adds_m (p := 53256) (Or.inl ⟨rfl, rfl⟩) (hB 2 (by omega)) l1, bMv_s, sumOf_m (o := 65535) (Or.inl ⟨rfl, rfl⟩), bM_s, ← hse, bd_e, lN_i]
    unfold readW
    have z155 : ∀ s', f_X6_read_155 (nI (f + 2)) st wt s' ld ln = some (5, st, wt, s', ld, ln) := fun s' => by rw [f_X6_read_155, f_X6_read_156, if_pos rfl]
    generalize lN (cs8 53256 (cs8 53256 (65535 ^^^ b 1) 8 ^^^ b 2) 8) = s'
    by_cases h6 : n = 6
    · have z91 : (b 1 = 0 ∨ b 1 = 16) → f_X6_read_91 (nI (f + 2)) (nI (crcS b 1 2)) st wt s' ld ln = some (if n = 6 ∧ (b 1 = 0 ∨ b 1 = 16) ∧ b 2 < 64 ∧ told2 b 3 = crcS b 1 2 ∧ b 5 = 253 then (if b 1 = 0 then 2 else 3) else 5, st, wt, s', ld, ln) := by
        intro hb1
        rw [f_X6_read_91, ad_2, r 2 _ (by omega)]
        have b3 := hB 3 (by omega)
        have b4 := hB 4 (by omega)
        by_cases h64 : b 2 < 64
        · have et : told2 b 3 = crcS b 1 2 ↔ b 3 = crcS b 1 2 % 256 ∧ b 4 = crcS b 1 2 / 256 := by unfold told2; simp only [Nat.reduceAdd]; omega
          rw [if_neg (show ¬ (64 : Int32) ≤ nI (b 2) from nI_ge (b := 64) h64 (by decide)), ad_3, r 3 _ (by omega), show (255 : Int32) = nI 255 from rfl, pk_andN (by omega) 8 rfl, show (2 : Nat) ^ 8 = 256 from rfl]
          by_cases e3 : b 3 = crcS b 1 2 % 256
          · rw [if_pos (show nI (b 3) = nI (crcS b 1 2 % 256) by rw [e3]), ad_4, r 4 _ (by omega), pk_shrN (by omega) _ 8 (by decide), show (2 : Nat) ^ 8 = 256 from rfl]
            by_cases e4 : b 4 = crcS b 1 2 / 256
            · rw [if_pos (show nI (b 4) = nI (crcS b 1 2 / 256) by rw [e4]), ad_5, r 5 _ (by omega)]
              by_cases e5 : b 5 = 253
              · have hall : n = 6 ∧ (b 1 = 0 ∨ b 1 = 16) ∧ b 2 < 64 ∧ told2 b 3 = crcS b 1 2 ∧ b 5 = 253 := ⟨h6, hb1, h64, et.mpr ⟨e3, e4⟩, e5⟩
                rw [if_pos (show nI (b 5) = 253 by rw [e5]; rfl), f_X6_read_156, if_neg ne10, ad_1, r 1 _ (by omega), if_pos hall]
                by_cases k0 : b 1 = 0
                · rw [if_pos (show nI (b 1) = 0 by rw [k0]; rfl), if_pos k0]
                · rw [if_neg (fun q : nI (b 1) = 0 => k0 ((nIe (hB 1 (by omega)) (by decide)).mp q)), if_neg k0]
              · rw [if_neg (fun q : nI (b 5) = 253 => e5 ((nIe (hB 5 (by omega)) (by decide)).mp q)), z155, if_neg (fun q => e5 q.2.2.2.2)]
            · rw [if_neg (fun q : nI (b 4) = nI (crcS b 1 2 / 256) => e4 ((nI_eq (by omega) (by omega)).mp q)), z155, if_neg (fun q => e4 (et.mp q.2.2.2.1).2)]
          · rw [if_neg (fun q : nI (b 3) = nI (crcS b 1 2 % 256) => e3 ((nI_eq (by omega) (by omega)).mp q)), z155, if_neg (fun q => e3 (et.mp q.2.2.2.1).1)]
        · rw [if_pos (show (64 : Int32) ≤ nI (b 2) from nI_le (a := 64) (by omega) (by have := hB 2 (by omega); omega)), z155, if_neg (fun q => h64 q.2.2.1)]
      rw [if_pos (show nI n = 6 by rw [h6]; rfl), r 1 _ (by omega)]
      by_cases k0 : b 1 = 0
      · rw [if_pos (show nI (b 1) = 0 by rw [k0]; rfl), z91 (Or.inl k0)]; exact ⟨_, rfl⟩
      · rw [if_neg (fun q : nI (b 1) = 0 => k0 ((nIe (hB 1 (by omega)) (by decide)).mp q)), r 1 _ (by omega)]
        by_cases k16 : b 1 = 16
        · rw [if_pos (show nI (b 1) = 16 by rw [k16]; rfl), z91 (Or.inr k16)]; exact ⟨_, rfl⟩
        · rw [if_neg (fun q : nI (b 1) = 16 => k16 ((nIe (hB 1 (by omega)) (by decide)).mp q)), z155, if_neg (fun q => by omega)]; exact ⟨_, rfl⟩
    · rw [if_neg (fun q : nI n = 6 => h6 ((nI_eq (b := 6) (by omega) (by decide)).mp q)), z155, if_neg (fun q => h6 q.1)]; exact ⟨_, rfl⟩
  · rw [if_neg h92, if_neg (fun q : nI (b 0) = 92 => h92 ((nIe (hB 0 (by omega)) (by decide)).mp q)), bd_e]
    unfold readP
    have hi : (nI n - 8).toInt = (n : Int) - 8 := pk_sub_toInt (b := 8) (by omega) (by decide)
    rw [in_spec (nI n - 8) (lo := 1) (hi := 24) 1 24 rfl rfl, bx_s, hi]
    by_cases h9 : n < 9
    · rw [if_neg (show ¬ (1 ≤ (n : Int) - 8 ∧ (n : Int) - 8 ≤ 24) by omega), if_pos rfl, if_pos (Or.inl h9)]; exact ⟨_, rfl⟩
    · rw [if_pos (show 1 ≤ (n : Int) - 8 ∧ (n : Int) - 8 ≤ 24 by omega), if_neg ne10, r0]
      by_cases k0 : b 0 = 251
      · rw [if_pos (show nI (b 0) = 251 by rw [k0]; rfl), ad_1, r 1 _ (by omega)]
        by_cases k1 : b 1 = 0
        · rw [if_pos (show nI (b 1) = 0 by rw [k1]; rfl), ad_2, r 2 _ (by omega)]
          by_cases k2 : b 2 ≤ 63
          · have l1 := cs8_lt (p := 3988292384) (by decide) 8 (4294967295 ^^^ 0) (Nat.xor_lt_two_pow (by decide) (by decide))
            have l2 := cs8_lt (p := 3988292384) (by decide) 8 (cs8 3988292384 (4294967295 ^^^ 0) 8 ^^^ b 2) (Nat.xor_lt_two_pow l1 (by omega))
            have ea := adds_m (st := st) (wt := wt) (ld := ld) (ln := ln) (x2 := 1) (p := 3988292384) (Or.inr ⟨by decide, rfl⟩) (b := 0) (c := 4294967295) (by decide) (by decide)
            rw [show nI 0 = (0 : Int32) from rfl] at ea
            rw [if_pos (show nI (b 2) ≤ 63 from nI_le (b := 63) k2 (by decide)), begins_m (o := 4294967295) (Or.inr ⟨by decide, rfl⟩), bMv_s, ea, bMv_s, r 2 _ (by omega), adds_m (p := 3988292384) (Or.inr ⟨by decide, rfl⟩) (hB 2 (by omega)) l1, bMv_s, show nI n - 8 = nI (n - 8) from pk_sub (b := 8) (by omega), show (0 : Int32) = nI 0 from rfl]
            rw [r268 hf (by omega) hb (n - 8) FU 0 _ (by omega) (by unfold FU; omega) l2]
            have ec : crcF 3988292384 b (3 + 0) (n - 8) (cs8 3988292384 (cs8 3988292384 (4294967295 ^^^ 0) 8 ^^^ b 2) 8) = crcF 3988292384 b 1 (n - 6) 4294967295 := by
              rw [show n - 6 = n - 8 + 1 + 1 by omega, crcF, crcF, k1]
            rw [ec, r303 (crcF_lt (by decide) _ _ _ (fun z a c => hB z (by omega)) (by decide)) hf (by omega) hb]
            rw [if_neg (show ¬ (n < 9 ∨ b 0 ≠ 251 ∨ b 1 ≠ 0 ∨ 63 < b 2) by omega)]
            exact ⟨_, rfl⟩
          · rw [if_neg (show ¬ nI (b 2) ≤ 63 from nI_ge (a := 63) (by omega) (by have := hB 2 (by omega); omega)), if_pos (show n < 9 ∨ b 0 ≠ 251 ∨ b 1 ≠ 0 ∨ 63 < b 2 by omega)]; exact ⟨_, rfl⟩
        · rw [if_neg (fun q : nI (b 1) = 0 => k1 ((nIe (hB 1 (by omega)) (by decide)).mp q)), if_pos (Or.inr (Or.inr (Or.inl k1)))]; exact ⟨_, rfl⟩
      · rw [if_neg (fun q : nI (b 0) = 251 => k0 ((nIe (hB 0 (by omega)) (by decide)).mp q)), if_pos (Or.inr (Or.inl k0))]; exact ⟨_, rfl⟩
end READM
