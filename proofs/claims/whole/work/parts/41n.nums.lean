theorem fb_andL (a b : Nat) : lN a &&& lN b = lN (a &&& b) := by
  apply Int64.toBitVec_inj.1
  show BitVec.ofNat 64 a &&& BitVec.ofNat 64 b = BitVec.ofNat 64 (a &&& b)
  apply BitVec.eq_of_getLsbD_eq
  intro i hi
  simp [hi]
theorem fb_orL (a b : Nat) : lN a ||| lN b = lN (a ||| b) := by
  apply Int64.toBitVec_inj.1
  show BitVec.ofNat 64 a ||| BitVec.ofNat 64 b = BitVec.ofNat 64 (a ||| b)
  apply BitVec.eq_of_getLsbD_eq
  intro i hi
  simp [hi]
theorem fb_xorL (a b : Nat) : lN a ^^^ lN b = lN (a ^^^ b) := by
  apply Int64.toBitVec_inj.1
  show BitVec.ofNat 64 a ^^^ BitVec.ofNat 64 b = BitVec.ofNat 64 (a ^^^ b)
  apply BitVec.eq_of_getLsbD_eq
  intro i hi
  simp [hi]
theorem fb_xorI (a b : Nat) : nI a ^^^ nI b = nI (a ^^^ b) := by
  apply Int32.toBitVec_inj.1
  show BitVec.ofNat 32 a ^^^ BitVec.ofNat 32 b = BitVec.ofNat 32 (a ^^^ b)
  apply BitVec.eq_of_getLsbD_eq
  intro i hi
  simp [hi]
theorem fb_maskL (n k : Nat) : lN n &&& lN (2 ^ k - 1) = lN (n % 2 ^ k) := by rw [fb_andL, Nat.and_two_pow_sub_one_eq_mod]
theorem fb_or_sumL {a k : Nat} (b : Nat) (h : a < 2 ^ k) : lN (2 ^ k * b) ||| lN a = lN (2 ^ k * b + a) := by rw [fb_orL, Nat.two_pow_add_eq_or_of_lt h]
theorem fb_lN_inj {a b : Nat} (ha : a < 2 ^ 63) (hb : b < 2 ^ 63) : lN a = lN b ↔ a = b := by
  constructor
  · intro h
    have h1 : (BitVec.ofNat 64 a).toNat = (BitVec.ofNat 64 b).toNat := congrArg (fun x : Int64 => x.toBitVec.toNat) h
    rw [BitVec.toNat_ofNat, BitVec.toNat_ofNat, Nat.mod_eq_of_lt (by omega), Nat.mod_eq_of_lt (by omega)] at h1
    exact h1
  · rintro rfl; rfl
theorem fb_rng (x : Int32) : -2147483648 ≤ x.toInt ∧ x.toInt < 2147483648 := by
  have h1 := Int32.le_toInt x
  have h2 := Int32.toInt_lt x
  omega
theorem fb_bmod {z : Int} (h1 : -2147483648 ≤ z) (h2 : z < 2147483648) : z.bmod (2 ^ 32) = z := by
  rw [Int.bmod_eq_of_le (by omega) (by omega)]
theorem fb_addI {x y : Int32} (h1 : -2147483648 ≤ x.toInt + y.toInt) (h2 : x.toInt + y.toInt < 2147483648) : (x + y).toInt = x.toInt + y.toInt := by
  rw [Int32.toInt_add, fb_bmod h1 h2]
theorem fb_subI {x y : Int32} (h1 : -2147483648 ≤ x.toInt - y.toInt) (h2 : x.toInt - y.toInt < 2147483648) : (x - y).toInt = x.toInt - y.toInt := by
  rw [Int32.toInt_sub, fb_bmod h1 h2]
theorem fb_mulI {x y : Int32} (h1 : -2147483648 ≤ x.toInt * y.toInt) (h2 : x.toInt * y.toInt < 2147483648) : (x * y).toInt = x.toInt * y.toInt := by
  rw [Int32.toInt_mul, fb_bmod h1 h2]
theorem in_spec (x : Int32) {lo hi : Int64} (a b : Int) (ha : lo.toInt = a) (hb : hi.toInt = b) : f_X6_in x.toInt64 lo hi = some (if a ≤ x.toInt ∧ x.toInt ≤ b then 1 else 0) := by
  have hx : x.toInt64.toInt = x.toInt := Int32.toInt_toInt64 x
  have e1 : lg_cmp x.toInt64 lo < 0 ↔ x.toInt < a := by
    unfold lg_cmp
    rw [← ha, ← hx]
    simp only [gt_iff_lt, Int64.lt_iff_toInt_lt, ← Int64.toInt_inj]
    by_cases h1 : lo.toInt < x.toInt64.toInt
    · rw [if_pos h1]; simp; omega
    · rw [if_neg h1]
      by_cases h2 : x.toInt64.toInt = lo.toInt
      · rw [if_pos h2]; simp; omega
      · rw [if_neg h2]; simp; omega
  have e2 : 0 < lg_cmp x.toInt64 hi ↔ b < x.toInt := by
    unfold lg_cmp
    rw [← hb, ← hx]
    simp only [gt_iff_lt, Int64.lt_iff_toInt_lt, ← Int64.toInt_inj]
    by_cases h1 : hi.toInt < x.toInt64.toInt
    · rw [if_pos h1]; simp; omega
    · rw [if_neg h1]
      by_cases h2 : x.toInt64.toInt = hi.toInt
      · rw [if_pos h2]; simp; omega
      · rw [if_neg h2]; simp; omega
  unfold f_X6_in
  by_cases h1 : x.toInt < a
  · rw [if_pos (e1.mpr h1), if_neg (by omega)]
  · rw [if_neg (fun q => h1 (e1.mp q))]
    by_cases h2 : b < x.toInt
    · rw [if_pos (e2.mpr h2), if_neg (by omega)]
    · rw [if_neg (fun q => h2 (e2.mp q)), if_pos (by omega)]
theorem by64_c (x : Int32) : f_X5_by64 x = some (nI ((x.toInt % 64).toNat)) := by
  unfold f_X5_by64
  rw [pk_and x 6 rfl]
  congr 2
  have e : x.toInt = if 2 * x.toBitVec.toNat < 2 ^ 32 then (x.toBitVec.toNat : Int) else (x.toBitVec.toNat : Int) - (2 ^ 32 : Nat) := by
    exact BitVec.toInt_eq_toNat_cond x.toBitVec
  rw [e]
  split <;> omega
theorem tdiv64 (z : Int) : ∃ q, z.tdiv 64 = q ∧ ((0 ≤ z ∧ q = z / 64) ∨ (z < 0 ∧ q = -((-z) / 64))) := by
  refine ⟨_, rfl, ?_⟩
  rcases (show z < 0 ∨ 0 ≤ z by omega) with h | h
  · refine Or.inr ⟨h, ?_⟩
    have e : z.tdiv 64 = -((-z).tdiv 64) := by rw [Int.neg_tdiv, Int.neg_neg]
    rw [e, Int.tdiv_eq_ediv_of_nonneg (by omega)]
  · exact Or.inl ⟨h, Int.tdiv_eq_ediv_of_nonneg h⟩
theorem by64_m (x : Int32) : f_X6_by64 x = some (nI ((x.toInt % 64).toNat)) := by
  have hr := fb_rng x
  have h64 : (64 : Int32).toInt = 64 := rfl
  obtain ⟨q, hq0, hqc⟩ := tdiv64 x.toInt
  have hq : (x / 64).toInt = q := by
    rw [Int32.toInt_div, h64, hq0]
    exact fb_bmod (by omega) (by omega)
  have hm : (x / 64 * 64).toInt = q * 64 := by
    rw [fb_mulI (by rw [hq, h64]; omega) (by rw [hq, h64]; omega), hq, h64]
  have hy : (x - x / 64 * 64).toInt = x.toInt - q * 64 := by
    rw [fb_subI (by rw [hm]; omega) (by rw [hm]; omega), hm]
  unfold f_X6_by64
  by_cases h : 0 ≤ x - x / 64 * 64
  · rw [if_pos h]
    have h' : 0 ≤ x.toInt - q * 64 := by
      rw [Int32.le_iff_toInt_le, hy] at h; exact h
    congr 1
    apply Int32.toInt_inj.mp
    rw [hy, nI_toInt (by omega)]
    omega
  · rw [if_neg h]
    have h' : ¬ 0 ≤ x.toInt - q * 64 := by
      intro q; apply h; rw [Int32.le_iff_toInt_le, hy]; exact q
    congr 1
    apply Int32.toInt_inj.mp
    rw [fb_addI (by rw [hy, h64]; omega) (by rw [hy, h64]; omega), hy, h64, nI_toInt (by omega)]
    omega
theorem by64_n {a : Nat} (h : a < 2 ^ 31) : f_X5_by64 (nI a) = some (nI (a % 64)) ∧ f_X6_by64 (nI a) = some (nI (a % 64)) := by
  have e : ((nI a).toInt % 64).toNat = a % 64 := by rw [nI_toInt h]; omega
  rw [by64_c, by64_m, e]
  exact ⟨rfl, rfl⟩
theorem by64_d {a b : Nat} (ha : a < 2 ^ 30) (hb : b < 2 ^ 30) : f_X5_by64 (nI a - nI b) = some (nI ((((a : Int) - b) % 64).toNat)) ∧ f_X6_by64 (nI a - nI b) = some (nI ((((a : Int) - b) % 64).toNat)) := by
  rw [by64_c, by64_m, pk_sub_toInt ha hb]
  exact ⟨rfl, rfl⟩
