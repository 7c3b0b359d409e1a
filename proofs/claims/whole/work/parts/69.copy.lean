/-! a link is copied -/
theorem pkB {nb b r K : Nat} (hb : b < nb) (hr : r < 72) (hk : kdL.getD r 99 = K) : pk nb K (72 * b + r) = true := by
  simp only [pk, Bool.and_eq_true, decide_eq_true_eq, beq_iff_eq]
  refine ⟨by omega, ?_⟩
  unfold kd
  rw [show (72 * b + r) % 72 = r by omega]
  exact hk
theorem lnB {b r : Nat} (hr : r < 72) : lnA (72 * b + r) = lnL.getD r 0 := by
  unfold lnA
  rw [show (72 * b + r) % 72 = r by omega]
theorem pkE {nb b s z K : Nat} (hb : b < nb) (hs : s < 2) (hz : z < 8) (hk : ∀ s, s < 2 → kdL.getD (2 + 8 * s + z) 99 = K) : pk nb K (72 * b + 2 + 8 * s + z) = true := by
  rw [show 72 * b + 2 + 8 * s + z = 72 * b + (2 + 8 * s + z) by omega]
  exact pkB hb (by omega) (hk s hs)
theorem lnE {b s z l : Nat} (hs : s < 2) (hz : z < 8) (hk : ∀ s, s < 2 → lnL.getD (2 + 8 * s + z) 0 = l) : lnA (72 * b + 2 + 8 * s + z) = l := by
  rw [show 72 * b + 2 + 8 * s + z = 72 * b + (2 + 8 * s + z) by omega, lnB (by omega)]
  exact hk s hs
theorem cpA_0 {β : Type} {nb : Nat} {ar : Nat → Nat → Int32} {p q z : Nat} {k : (Nat → Nat → Int32) → Option β} (hp : pk nb 7 p = true) (hq : pk nb 7 q = true) (h1 : z ≤ lnA p) (h2 : z ≤ lnA q) : cpA nb ar p 0 q 0 (nI z) k = k (va_up ar q (va_cpy (ar p) (ar q) 0 0 z)) := cpA_n (a := 0) (b := 0) hp hq (by omega) (by omega)
def EP (nb p : Nat) : Prop := pk nb 0 p = true ∧ pk nb 7 (p + 1) = true ∧ pk nb 3 (p + 2) = true ∧ pk nb 7 (p + 2 + 1) = true ∧ pk nb 7 (p + 2 + 2) = true ∧ pk nb 3 (p + 5) = true ∧ pk nb 7 (p + 5 + 1) = true ∧ pk nb 7 (p + 5 + 2) = true ∧ lnA (p + 1) = 24 ∧ lnA (p + 2 + 1) = 24 ∧ lnA (p + 2 + 2) = 576 ∧ lnA (p + 5 + 1) = 60 ∧ lnA (p + 5 + 2) = 1440
theorem EP_of {nb b s : Nat} (hb : b < nb) (hs : s < 2) : EP nb (72 * b + 2 + 8 * s) :=
  ⟨pkE (z := 0) hb hs (by decide) (by decide), pkE (z := 1) hb hs (by decide) (by decide), pkE (z := 2) hb hs (by decide) (by decide), pkE (z := 3) hb hs (by decide) (by decide), pkE (z := 4) hb hs (by decide) (by decide), pkE (z := 5) hb hs (by decide) (by decide), pkE (z := 6) hb hs (by decide) (by decide), pkE (z := 7) hb hs (by decide) (by decide), lnE (z := 1) hs (by decide) (by decide), lnE (z := 3) hs (by decide) (by decide), lnE (z := 4) hs (by decide) (by decide), lnE (z := 6) hs (by decide) (by decide), lnE (z := 7) hs (by decide) (by decide)⟩
section CY
variable {nb b c s w : Nat} {sc ar sc' ar' : Nat → Nat → Int32} {fr : Nat → Nat → Nat} {st : Nat → Int32}
theorem pcopy {p q x y : Nat} (hp : pk nb 3 p = true) (hq : pk nb 3 q = true) (hp1 : pk nb 7 (p + 1) = true) (hp2 : pk nb 7 (p + 2) = true) (hq1 : pk nb 7 (q + 1) = true) (hq2 : pk nb 7 (q + 2) = true) (l1 : lnA (p + 1) = x) (l2 : lnA (p + 2) = y) (m1 : lnA (q + 1) = x) (m2 : lnA (q + 2) = y) (hd : q + 2 ≠ p + 1) : f_X3_copyFrom nb p q sc ar fr = some (sc, va_up (va_up ar (p + 1) (va_cpy (ar (q + 1)) (ar (p + 1)) 0 0 x)) (p + 2) (va_cpy (ar (q + 2)) (ar (p + 2)) 0 0 y), fr) := by
  rw [f_X3_copyFrom, gd_t hq, gd_t hp, gd_t hp1, l1, cpA_0 hq1 hp1 (by omega) (by omega), gd_t hp2, l2, cpA_0 hq2 hp2 (by omega) (by omega), va_o hd, va_o (show p + 2 ≠ p + 1 by omega)]
theorem ecopy {p q : Nat} (hd : p + 8 ≤ q ∨ q + 8 ≤ p) (hP : EP nb p) (hQ : EP nb q) (b6 : bln (sc q 6) = true) (b11 : bln (sc q 11) = true) (b12 : bln (sc q 12) = true) : ∃ sc' ar', f_X0_copyFrom nb p q sc ar fr = some (sc', ar', fr) ∧ (∀ x, x ≠ p → sc' x = sc x) ∧ (∀ j, j ≠ 0 → j ≠ 2 → j ≠ 14 → j < 16 → sc' p j = sc q j) ∧ (∀ x, x < p ∨ p + 8 ≤ x → ar' x = ar x) ∧ (∀ k, k < 24 → ar' (p + 1) k = ar (q + 1) k) ∧ (∀ k, k < 24 → ar' (p + 2 + 1) k = ar (q + 2 + 1) k) ∧ (∀ k, k < 576 → ar' (p + 2 + 2) k = ar (q + 2 + 2) k) ∧ (∀ k, k < 60 → ar' (p + 5 + 1) k = ar (q + 5 + 1) k) ∧ (∀ k, k < 1440 → ar' (p + 5 + 2) k = ar (q + 5 + 2) k) := by
  obtain ⟨P0, P1, P2, P3, P4, P5, P6, P7, L1, L3, L4, L6, L7⟩ := hP
  obtain ⟨Q0, Q1, Q2, Q3, Q4, Q5, Q6, Q7, M1, M3, M4, M6, M7⟩ := hQ
  have hqp : q ≠ p := by omega
  rw [f_X0_copyFrom, gd_t Q0, gd_t P0, gd_t P1, L1, cpA_0 Q1 P1 (by omega) (by omega), bd_e, bd_e, gd_t P2, pcopy P2 Q2 P3 P4 Q3 Q4 L3 L4 M3 M4 (by omega), bCv_s]
  simp only [bd_e, up2_ne hqp]
  rw [gd_t b6, gd_t b11, gd_t b12, gd_t P5, pcopy P5 Q5 P6 P7 Q6 Q7 L6 L7 M6 M7 (by omega), bCv_s]
  simp only [up2_ne hqp]
  refine ⟨_, _, rfl, fun x hx => ?_, fun j j0 j2 j14 hj => ?_, fun x hx => ?_, fun k hk => ?_, fun k hk => ?_, fun k hk => ?_, fun k hk => ?_, fun k hk => ?_⟩
  · simp only [up2_ne hx]
  · rcases (show j = 1 ∨ j = 3 ∨ j = 4 ∨ j = 5 ∨ j = 6 ∨ j = 7 ∨ j = 8 ∨ j = 9 ∨ j = 10 ∨ j = 11 ∨ j = 12 ∨ j = 13 ∨ j = 15 by omega) with rfl | rfl | rfl | rfl | rfl | rfl | rfl | rfl | rfl | rfl | rfl | rfl | rfl <;> simp (disch := decide) only [up2_o, up2_s]
  · rw [va_o (by omega), va_o (by omega), va_o (by omega), va_o (by omega), va_o (by omega)]
  · rw [va_o (by omega), va_o (by omega), va_o (by omega), va_o (by omega), va_s, sb_cpy0 hk]
  · rw [va_o (by omega), va_o (by omega), va_o (by omega), va_s, sb_cpy0 hk, va_o (by omega)]
  · rw [va_o (by omega), va_o (by omega), va_s, sb_cpy0 hk, va_o (by omega)]
  · rw [va_o (by omega), va_s, sb_cpy0 hk, va_o (by omega), va_o (by omega), va_o (by omega)]
  · rw [va_s, sb_cpy0 hk, va_o (by omega), va_o (by omega), va_o (by omega)]
theorem RE.copy {S D o n u g t d w v : Nat} (h : RE S s o n u g t d w v sc ar st) (hsc : ∀ j, j ≠ 0 → j ≠ 2 → j ≠ 14 → j < 16 → sc' (D + 2 + 8 * s) j = sc (S + 2 + 8 * s) j) (a3 : ∀ k, k < 24 → ar' (D + 3 + 8 * s) k = ar (S + 3 + 8 * s) k) (a5 : ∀ k, k < 24 → ar' (D + 5 + 8 * s) k = ar (S + 5 + 8 * s) k) (a6 : ∀ k, k < 576 → ar' (D + 6 + 8 * s) k = ar (S + 6 + 8 * s) k) (a8 : ∀ k, k < 60 → ar' (D + 8 + 8 * s) k = ar (S + 8 + 8 * s) k) (a9 : ∀ k, k < 1440 → ar' (D + 9 + 8 * s) k = ar (S + 9 + 8 * s) k) : RE D s o n u g t d w v sc' ar' st := by
  obtain ⟨h1, h2, h3, h4, h5, h6, h7⟩ := h
  refine ⟨h1, h2, h3, ?_, ?_, ?_, ?_⟩
  · rw [hsc 1 (by decide) (by decide) (by decide) (by decide), hsc 3 (by decide) (by decide) (by decide) (by decide), hsc 4 (by decide) (by decide) (by decide) (by decide), hsc 5 (by decide) (by decide) (by decide) (by decide), hsc 6 (by decide) (by decide) (by decide) (by decide), hsc 7 (by decide) (by decide) (by decide) (by decide), hsc 8 (by decide) (by decide) (by decide) (by decide), hsc 9 (by decide) (by decide) (by decide) (by decide), hsc 10 (by decide) (by decide) (by decide) (by decide), hsc 11 (by decide) (by decide) (by decide) (by decide), hsc 12 (by decide) (by decide) (by decide) (by decide), hsc 13 (by decide) (by decide) (by decide) (by decide), hsc 15 (by decide) (by decide) (by decide) (by decide)]
    exact h4
  · intro k hk
    rw [a3 k (by omega)]; exact h5 k hk
  · intro i hi1 hi2
    obtain ⟨m, m1, m2, m3, m4, m5⟩ := h6 i hi1 hi2
    refine ⟨m, m1, m2, by rw [a5 _ (Nat.mod_lt _ (by decide))]; exact m3, m4, fun k hk => ?_⟩
    rw [a6 _ (by omega)]; exact m5 k hk
  · intro i hi1 hi2
    obtain ⟨m, m1, m2, m3, m4, m5⟩ := h7 i hi1 hi2
    refine ⟨m, m1, m2, by rw [a8 _ hi2]; exact m3, m4, fun k hk => ?_⟩
    rw [a9 _ (by omega)]; exact m5 k hk
theorem fcopy {p q : Nat} (hp : pk nb 1 p = true) (hq : pk nb 1 q = true) (hp1 : pk nb 7 (p + 1) = true) (hq1 : pk nb 7 (q + 1) = true) (lp : lnA (p + 1) = 32) (lq : lnA (q + 1) = 32) (hqp : q ≠ p) : f_X1_copyFrom nb p q sc ar fr = some (up2 (up2 sc p 1 (sc q 1)) p 2 (sc q 2), va_up ar (p + 1) (va_cpy (ar (q + 1)) (ar (p + 1)) 0 0 32), fr) := by
  rw [f_X1_copyFrom, gd_t hq, gd_t hp, gd_t hp1, lp, cpA_0 hq1 hp1 (by omega) (by omega), bd_e, bd_e, bd_e, bd_e, up2_ne hqp]
/-- the frames of a wire's row: each its own place -/
def frok (B w : Nat) (fr : Nat → Nat → Nat) : Prop := (∀ j, j < 12 → ∃ m, m < 12 ∧ fr (B + 20 + 26 * w) j = B + 21 + 26 * w + 2 * m) ∧ (∀ i j, i < 12 → j < 12 → fr (B + 20 + 26 * w) i = fr (B + 20 + 26 * w) j → i = j)
theorem frm_pk {m : Nat} (hb : b < nb) (hw : w < 2) (hm : m < 12) : pk nb 1 (72 * b + 21 + 26 * w + 2 * m) = true ∧ pk nb 7 (72 * b + 21 + 26 * w + 2 * m + 1) = true ∧ lnA (72 * b + 21 + 26 * w + 2 * m + 1) = 32 := by
  have k := fr_kd w hw m hm
  rw [show 72 * b + 21 + 26 * w + 2 * m + 1 = 72 * b + (22 + 26 * w + 2 * m) by omega, show 72 * b + 21 + 26 * w + 2 * m = 72 * b + (21 + 26 * w + 2 * m) by omega]
  exact ⟨pkB hb (by omega) k.1, pkB hb (by omega) k.2.1, by rw [lnB (by omega)]; exact k.2.2⟩
theorem wcopy_loop {n : Nat} (hb : b < nb) (hc : c < nb) (hbc : b ≠ c) (hw : w < 2) (hn : n ≤ 12) (fD : frok (72 * c) w fr) (fS : ∀ j, j < 12 → ∃ m, m < 12 ∧ fr (72 * b + 20 + 26 * w) j = 72 * b + 21 + 26 * w + 2 * m) : ∀ (m i fu : Nat) (sc ar : Nat → Nat → Int32), i + m = n → m < fu → sc (72 * c + 19 + 26 * w) 1 = nI n → (∀ j, j < n → RF (fr (72 * b + 20 + 26 * w) j) (301 + 500 * w + 36 * j) sc ar st) → (∀ j, j < i → RF (fr (72 * c + 20 + 26 * w) j) (301 + 500 * w + 36 * j) sc ar st) → ∃ sc' ar', f_X4_copyFrom_10 nb fu (72 * c + 19 + 26 * w) (72 * b + 19 + 26 * w) (nI i) sc ar fr = some (sc', ar', fr) ∧ (∀ j, j < n → RF (fr (72 * c + 20 + 26 * w) j) (301 + 500 * w + 36 * j) sc' ar' st) ∧ (∀ p, p < 72 * c + 21 + 26 * w ∨ 72 * c + 45 + 26 * w ≤ p → sc' p = sc p ∧ ar' p = ar p) := by
  have p4 : ∀ z, z < nb → pk nb 4 (72 * z + 19 + 26 * w) = true := by
    intro z hz
    rw [show 72 * z + 19 + 26 * w = 72 * z + (19 + 26 * w) by omega]
    exact pkB hz (by omega) ((by decide : ∀ w, w < 2 → kdL.getD (19 + 26 * w) 99 = 4) w hw)
  have p10 : ∀ z, z < nb → pk nb 10 (72 * z + 20 + 26 * w) = true := by
    intro z hz
    rw [show 72 * z + 20 + 26 * w = 72 * z + (20 + 26 * w) by omega]
    exact pkB hz (by omega) ((by decide : ∀ w, w < 2 → kdL.getD (20 + 26 * w) 99 = 10) w hw)
  intro m
  induction m with
  | zero =>
    intro i fu sc ar h1 h2 s1 hS hD
    obtain ⟨fu, rfl⟩ : ∃ z, fu = z + 1 := ⟨fu - 1, by omega⟩
    rw [f_X4_copyFrom_10, gd_t (p4 c hc), s1, if_pos (nI_le (by omega) (by omega))]
    exact ⟨_, _, rfl, fun j hj => hD j (by omega), fun _ _ => ⟨rfl, rfl⟩⟩
  | succ m ih =>
    intro i fu sc ar h1 h2 s1 hS hD
    obtain ⟨fu, rfl⟩ : ∃ z, fu = z + 1 := ⟨fu - 1, by omega⟩
    obtain ⟨mD, hmD, eD⟩ := fD.1 i (by omega)
    obtain ⟨mS, hmS, eS⟩ := fS i (by omega)
    obtain ⟨d1, d7, dl⟩ := frm_pk (nb := nb) hc hw hmD
    obtain ⟨z1, z7, zl⟩ := frm_pk (nb := nb) hb hw hmS
    have hne : 72 * b + 21 + 26 * w + 2 * mS ≠ 72 * c + 21 + 26 * w + 2 * mD := by omega
    have iD : ∀ j, j < 12 → j ≠ i → fr (72 * c + 20 + 26 * w) j ≠ 72 * c + 21 + 26 * w + 2 * mD := fun j hj hji e => hji (fD.2 j i hj (by omega) (by rw [e, eD]))
    have hSi := hS i (by omega)
    rw [eS] at hSi
    obtain ⟨sc2, ar2, r1, r2, r3⟩ := ih (i + 1) fu (up2 (up2 sc (72 * c + 21 + 26 * w + 2 * mD) 1 (sc (72 * b + 21 + 26 * w + 2 * mS) 1)) (72 * c + 21 + 26 * w + 2 * mD) 2 (sc (72 * b + 21 + 26 * w + 2 * mS) 2)) (va_up ar (72 * c + 21 + 26 * w + 2 * mD + 1) (va_cpy (ar (72 * b + 21 + 26 * w + 2 * mS + 1)) (ar (72 * c + 21 + 26 * w + 2 * mD + 1)) 0 0 32)) (by omega) (by omega) (by rw [up2_ne (by omega), up2_ne (by omega)]; exact s1) (fun j hj => by
        obtain ⟨mj, hmj, ej⟩ := fS j (by omega)
        refine (hS j hj).cong ?_ ?_ (fun _ _ _ => rfl)
        · rw [up2_ne (by omega), up2_ne (by omega)]
        · rw [va_o (by omega)]) (fun j hj => by
        by_cases q : j = i
        · subst q
          rw [eD]
          obtain ⟨n0, k1, k2, k3, k4, k5⟩ := hSi
          refine ⟨n0, k1, ?_, k3, ?_, fun k hk => ?_⟩
          · rw [up2_o (by decide), up2_s]; exact k2
          · rw [up2_s]; exact k4
          · rw [va_s, sb_cpy0 (by omega)]; exact k5 k hk
        · obtain ⟨mj, hmj, ej⟩ := fD.1 j (by omega)
          have := iD j (by omega) q
          refine (hD j (by omega)).cong ?_ ?_ (fun _ _ _ => rfl)
          · rw [up2_ne this, up2_ne this]
          · rw [va_o (by omega)])
    refine ⟨sc2, ar2, ?_, r2, fun p hp => ?_⟩
    · rw [f_X4_copyFrom_10, gd_t (p4 c hc), s1, if_neg (nI_ge (by omega) (by omega)), show 72 * c + 19 + 26 * w + 1 = 72 * c + 20 + 26 * w by omega, show 72 * b + 19 + 26 * w + 1 = 72 * b + 20 + 26 * w by omega, rdR_n (p10 c hc) (by omega) (by decide), gd_t (p4 b hb), rdR_n (p10 b hb) (by omega) (by decide), nI_clamp (by omega), eD, eS, gd_t d1, fcopy d1 z1 d7 z7 dl zl hne, bCv_s, bd_e, ad_1]
      exact r1
    · obtain ⟨g1, g2⟩ := r3 p hp
      rw [g1, g2, up2_ne (by omega), up2_ne (by omega), va_o (by omega)]
      exact ⟨rfl, rfl⟩
theorem wcopy (hb : b < nb) (hc : c < nb) (hbc : b ≠ c) (hw : w < 2) (h : RW (72 * b) w sc ar fr st) (fD : frok (72 * c) w fr) : ∃ sc' ar', f_X4_copyFrom nb (72 * c + 19 + 26 * w) (72 * b + 19 + 26 * w) sc ar fr = some (sc', ar', fr) ∧ RW (72 * c) w sc' ar' fr st ∧ (∀ p, p < 72 * c + 19 + 26 * w ∨ 72 * c + 45 + 26 * w ≤ p → sc' p = sc p ∧ ar' p = ar p) := by
  have p4 : ∀ z, z < nb → pk nb 4 (72 * z + 19 + 26 * w) = true := by
    intro z hz
    rw [show 72 * z + 19 + 26 * w = 72 * z + (19 + 26 * w) by omega]
    exact pkB hz (by omega) ((by decide : ∀ w, w < 2 → kdL.getD (19 + 26 * w) 99 = 4) w hw)
  obtain ⟨n, h1, h2, h3, h4, h5, h6⟩ := h
  obtain ⟨sc', ar', e1, e2, e3⟩ := wcopy_loop (st := st) hb hc hbc hw h1 fD h4 n 0 FU (up2 sc (72 * c + 19 + 26 * w) 1 (nI n)) ar (by omega) (by unfold FU; omega) up2_s (fun j hj => by
    obtain ⟨mj, hmj, ej⟩ := h4 j (by omega)
    exact (h6 j hj).cong (up2_ne (by omega)) rfl (fun _ _ _ => rfl)) (fun j hj => absurd hj (by omega))
  refine ⟨sc', ar', ?_, ⟨n, h1, ?_, h3, fD.1, fD.2, e2⟩, fun p hp => ?_⟩
  · rw [f_X4_copyFrom, gd_t (p4 b hb), h2, bd_e, gd_t (p4 c hc), bd_e]
    exact e1
  · rw [(e3 _ (by omega)).1, up2_s]
  · obtain ⟨g1, g2⟩ := e3 p (by omega)
    rw [g1, g2, up2_ne (by omega)]
    exact ⟨rfl, rfl⟩
theorem scopy {o n u g t d v w0 : Nat} (hb : b < nb) (hc : c < nb) (hbc : b ≠ c) (hs : s < 2) (hE : RE (72 * b) s o n u g t d w0 v sc ar st) (hW : RW (72 * b) s sc ar fr st) (fD : frok (72 * c) s fr) : ∃ sc' ar', (∀ fu, f_X2_copyFrom_2 nb (fu + 1) (72 * c) (72 * b) (nI s) sc ar fr = f_X2_copyFrom_2 nb fu (72 * c) (72 * b) (nI (s + 1)) sc' ar' fr) ∧ RE (72 * c) s o n u g t d w0 v sc' ar' st ∧ RW (72 * c) s sc' ar' fr st ∧ (∀ p, p < 72 * c + 2 + 8 * s ∨ 72 * c + 10 + 8 * s ≤ p → p < 72 * c + 19 + 26 * s ∨ 72 * c + 45 + 26 * s ≤ p → sc' p = sc p ∧ ar' p = ar p) := by
  have p2 : ∀ z, z < nb → pk nb 2 (72 * z) = true := fun z hz => pkB (r := 0) hz (by decide) rfl
  have p9 : ∀ z, z < nb → pk nb 9 (72 * z + 1) = true := fun z hz => pkB (r := 1) hz (by decide) rfl
  have p12 : ∀ z, z < nb → pk nb 12 (72 * z + 18) = true := fun z hz => pkB (r := 18) hz (by decide) rfl
  have p4 : pk nb 4 (72 * c + 19 + 26 * s) = true := by
    rw [show 72 * c + 19 + 26 * s = 72 * c + (19 + 26 * s) by omega]
    exact pkB hc (by omega) ((by decide : ∀ w, w < 2 → kdL.getD (19 + 26 * w) 99 = 4) s hs)
  have EPc := EP_of (nb := nb) hc hs
  have EPb := EP_of (nb := nb) hb hs
  obtain ⟨-, -, ⟨b8, b10, b12⟩, ⟨c1, c3, c4, c5, c6, c7, c8, c9, c10, c11, c12, c13, c15⟩, -⟩ := id hE
  obtain ⟨sc1, ar1, e1, e2, e3, e4, e5, e6, e7, e8, e9⟩ := ecopy (fr := fr) (sc := sc) (ar := ar) (p := 72 * c + 2 + 8 * s) (q := 72 * b + 2 + 8 * s) (by omega) EPc EPb (by rw [c6]; exact b12) (by rw [c11]; exact b8) (by rw [c12]; exact b10)
  have hE1 : RE (72 * c) s o n u g t d w0 v sc1 ar1 st := by
    refine hE.copy e3 (fun k hk => ?_) (fun k hk => ?_) (fun k hk => ?_) (fun k hk => ?_) (fun k hk => ?_)
    · have := e5 k hk; rw [show 72 * c + 2 + 8 * s + 1 = 72 * c + 3 + 8 * s by omega, show 72 * b + 2 + 8 * s + 1 = 72 * b + 3 + 8 * s by omega] at this; exact this
    · have := e6 k hk; rw [show 72 * c + 2 + 8 * s + 2 + 1 = 72 * c + 5 + 8 * s by omega, show 72 * b + 2 + 8 * s + 2 + 1 = 72 * b + 5 + 8 * s by omega] at this; exact this
    · have := e7 k hk; rw [show 72 * c + 2 + 8 * s + 2 + 2 = 72 * c + 6 + 8 * s by omega, show 72 * b + 2 + 8 * s + 2 + 2 = 72 * b + 6 + 8 * s by omega] at this; exact this
    · have := e8 k hk; rw [show 72 * c + 2 + 8 * s + 5 + 1 = 72 * c + 8 + 8 * s by omega, show 72 * b + 2 + 8 * s + 5 + 1 = 72 * b + 8 + 8 * s by omega] at this; exact this
    · have := e9 k hk; rw [show 72 * c + 2 + 8 * s + 5 + 2 = 72 * c + 9 + 8 * s by omega, show 72 * b + 2 + 8 * s + 5 + 2 = 72 * b + 9 + 8 * s by omega] at this; exact this
  have hW1 : RW (72 * b) s sc1 ar1 fr st := hW.cong hs (fun _ _ _ => rfl) (fun p _ _ => e2 p (by omega)) (fun p _ _ => e4 p (by omega)) rfl
  obtain ⟨sc2, ar2, r1, r2, r3⟩ := wcopy hb hc hbc hs hW1 fD
  refine ⟨sc2, ar2, fun fu => ?_, ?_, r2, fun p hp hp2 => ?_⟩
  · rw [f_X2_copyFrom_2, if_neg (show ¬ (2 : Int32) ≤ nI s from nI_ge (b := 2) hs (by decide)), gd_t (p2 c hc), rdR_n (p9 c hc) hs (by decide), gd_t (p2 b hb), rdR_n (p9 b hb) hs (by decide), nI_clamp (by omega), show 72 * c + 1 + 1 + 8 * s = 72 * c + 2 + 8 * s by omega, show 72 * b + 1 + 1 + 8 * s = 72 * b + 2 + 8 * s by omega, gd_t EPc.1, e1, bCv_s, rdR_n (p12 c hc) hs (by decide), rdR_n (p12 b hb) hs (by decide), show 72 * c + 18 + 1 + 26 * s = 72 * c + 19 + 26 * s by omega, show 72 * b + 18 + 1 + 26 * s = 72 * b + 19 + 26 * s by omega, gd_t p4, r1, bCv_s, bd_e, ad_1]
  · exact hE1.cong hs (fun _ _ => rfl) (r3 _ (by omega)).1 (fun p _ _ => (r3 p (by omega)).2)
  · obtain ⟨g1, g2⟩ := r3 p hp2
    rw [g1, g2]
    exact ⟨e2 p (by omega), e4 p (by omega)⟩
theorem lcopy (hb : b < nb) (hc : c < nb) (hbc : b ≠ c) (h : RL_ (72 * b) sc ar fr st) (hf : ∀ w, w < 2 → frok (72 * c) w fr) : ∃ sc' ar', f_X2_copyFrom nb (72 * c) (72 * b) sc ar fr = some (sc', ar', fr) ∧ RL_ (72 * c) sc' ar' fr st ∧ (∀ p, p < 72 * c ∨ 72 * c + 72 ≤ p → sc' p = sc p ∧ ar' p = ar p) := by
  have p2 : ∀ z, z < nb → pk nb 2 (72 * z) = true := fun z hz => pkB (r := 0) hz (by decide) rfl
  have p7 : ∀ z, z < nb → pk nb 7 (72 * z + 71) = true := fun z hz => pkB (r := 71) hz (by decide) rfl
  have l7 : ∀ z, lnA (72 * z + 71) = 17 := fun z => lnB (r := 71) (by decide)
  have hbc' : (72 * b : Nat) ≠ 72 * c := by omega
  obtain ⟨fu0, hfu⟩ := fu3
  obtain ⟨T, hg, he, hw⟩ := h
  obtain ⟨o, n, u, g, t, d, w, v, hv, hE⟩ := he 0 (by decide)
  obtain ⟨sc1, ar1, a1, a2, a3, a4⟩ := scopy (c := c) hb hc hbc (by decide) hE (hw 0 (by decide)) (hf 0 (by decide))
  have a4' : ∀ p, p < 72 * c ∨ 72 * c + 72 ≤ p → sc1 p = sc p ∧ ar1 p = ar p := fun p hp => a4 p (by omega) (by omega)
  obtain ⟨o', n', u', g', t', d', w', v', hv', hE'⟩ := he 1 (by decide)
  have hE1' : RE (72 * b) 1 o' n' u' g' t' d' w' v' sc1 ar1 st := hE'.cong (by decide) (fun _ _ => rfl) (a4' _ (by omega)).1 (fun p _ _ => (a4' p (by omega)).2)
  have hW1' : RW (72 * b) 1 sc1 ar1 fr st := (hw 1 (by decide)).cong (by decide) (fun _ _ _ => rfl) (fun p _ _ => (a4' p (by omega)).1) (fun p _ _ => (a4' p (by omega)).2) rfl
  obtain ⟨sc2, ar2, b1, b2, b3, b4⟩ := scopy (c := c) hb hc hbc (by decide) hE1' hW1' (hf 1 (by decide))
  have b4' : ∀ p, p < 72 * c ∨ 72 * c + 72 ≤ p → sc2 p = sc p ∧ ar2 p = ar p := fun p hp => by
    obtain ⟨g1, g2⟩ := b4 p (by omega) (by omega)
    obtain ⟨g3, g4⟩ := a4' p hp
    exact ⟨g1.trans g3, g2.trans g4⟩
  have a2' : RE (72 * c) 0 o n u g t d w v sc2 ar2 st := a2.cong (by decide) (fun _ _ => rfl) (b4 _ (by omega) (by omega)).1 (fun p _ _ => (b4 p (by omega) (by omega)).2)
  have a3' : RW (72 * c) 0 sc2 ar2 fr st := a3.cong (by decide) (fun _ _ _ => rfl) (fun p _ _ => (b4 p (by omega) (by omega)).1) (fun p _ _ => (b4 p (by omega) (by omega)).2) rfl
  obtain ⟨g0, g1, g2, g3, g4, g5, g6, g7, g8⟩ := hg
  have sb : sc2 (72 * b) = sc (72 * b) := (b4' _ (by omega)).1
  have rb : ar2 (72 * b + 71) = ar (72 * b + 71) := (b4' _ (by omega)).2
  have key : ∀ fu, f_X2_copyFrom_2 nb (fu + 1 + 1 + 1) (72 * c) (72 * b) (nI 0) sc ar fr = some (up2 (up2 (up2 (up2 (up2 sc2 (72 * c) 3 (sc (72 * b) 3)) (72 * c) 4 (sc (72 * b) 4)) (72 * c) 5 (sc (72 * b) 5)) (72 * c) 6 (sc (72 * b) 6)) (72 * c) 7 (sc (72 * b) 7), va_up ar2 (72 * c + 71) (va_cpy (ar (72 * b + 71)) (ar2 (72 * c + 71)) 0 0 17), fr) := by
    intro fu
    rw [a1, b1, f_X2_copyFrom_2, if_pos (show (2 : Int32) ≤ nI (1 + 1) by decide), gd_t (p2 b hb), gd_t (p2 c hc), gd_t (p7 c hc), l7, cpA_0 (p7 b hb) (p7 c hc) (by rw [l7]; decide) (by rw [l7]; decide)]
    simp only [bd_e, up2_ne hbc', sb, rb]
  refine ⟨_, _, by have := key fu0; rw [← hfu] at this; exact this, ⟨T, ⟨g0, g1, ?_, ?_, ?_, ?_, ?_, fun j j1 j2 => ?_, fun j j1 j2 => ?_⟩, two _ ⟨o, n, u, g, t, d, w, v, hv, ?_⟩ ⟨o', n', u', g', t', d', w', v', hv', ?_⟩, two _ ?_ ?_⟩, fun p hp => ?_⟩
  · simp (disch := decide) only [up2_o, up2_s]; exact g2
  · simp (disch := decide) only [up2_o, up2_s]; exact g3
  · simp (disch := decide) only [up2_o, up2_s]; exact g4
  · simp (disch := decide) only [up2_o, up2_s]; exact g5
  · simp (disch := decide) only [up2_o, up2_s]; exact g6
  · rw [va_s, sb_cpy0 (by omega)]; exact g7 j j1 j2
  · rw [va_s, sb_cpy0 (by omega)]; exact g8 j j1 j2
  · exact a2'.cong (by decide) (fun _ _ => rfl) (by simp (disch := omega) only [up2_ne]) (fun p _ _ => va_o (by omega))
  · exact b2.cong (by decide) (fun _ _ => rfl) (by simp (disch := omega) only [up2_ne]) (fun p _ _ => va_o (by omega))
  · exact a3'.cong (by decide) (fun _ _ _ => rfl) (fun p _ _ => by simp (disch := omega) only [up2_ne]) (fun p _ _ => va_o (by omega)) rfl
  · exact b3.cong (by decide) (fun _ _ _ => rfl) (fun p _ _ => by simp (disch := omega) only [up2_ne]) (fun p _ _ => va_o (by omega)) rfl
  · obtain ⟨k1, k2⟩ := b4' p hp
    refine ⟨?_, ?_⟩
    · rw [up2_ne (by omega), up2_ne (by omega), up2_ne (by omega), up2_ne (by omega), up2_ne (by omega)]; exact k1
    · rw [va_o (by omega)]; exact k2
end CY
