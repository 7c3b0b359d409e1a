theorem firstOver (P : Nat → Prop) (L : Nat) : ∀ (m i : Nat), i + m = L → ∃ j0, i ≤ j0 ∧ j0 ≤ L ∧ (∀ z, i ≤ z → z < j0 → P z) ∧ (j0 < L → ¬ P j0) := by
  intro m
  induction m with
  | zero => intro i h; exact ⟨i, Nat.le_refl _, by omega, fun z a b => absurd b (by omega), fun q => absurd q (by omega)⟩
  | succ m ih =>
    intro i h
    by_cases q : P i
    · obtain ⟨j0, h1, h2, h3, h4⟩ := ih (i + 1) (by omega)
      refine ⟨j0, by omega, h2, fun z a b => ?_, h4⟩
      by_cases e : z = i
      · rw [e]; exact q
      · exact h3 z (by omega) b
    · exact ⟨i, Nat.le_refl _, by omega, fun z a b => absurd b (by omega), fun _ => q⟩
section TK7
variable {nb T s w L : Nat} {K K' : Nat → Nat} {sc ar sc' ar' : Nat → Nat → Int32} {fr fr' : Nat → Nat → Nat} {st st' : Nat → Int32} {wt : Int32} {sm : Int64} {ld ln : Int32}
theorem eld_c (hnb : 1 ≤ nb) (hw : w < 2) (hL : L ≤ 12) (s1 : sc (19 + 26 * w) 1 = nI L) (hpk : ∀ z, z < 12 → pk nb 1 (fr (20 + 26 * w) z) = true) (hd : ∀ z, z < L → sc (fr (20 + 26 * w) z) 2 = st (302 + 500 * w + 36 * z)) {j0 : Nat} (hj0 : j0 ≤ L) (hv : j0 < L → ¬ nI T < st (302 + 500 * w + 36 * j0)) : ∀ (m fu i : Nat), i + m = j0 → m < fu → (∀ z, i ≤ z → z < j0 → nI T < st (302 + 500 * w + 36 * z)) → f_X4_eldestOver_2 nb fu (19 + 26 * w) (nI T) (nI i) sc ar fr = some (if j0 < L then nI j0 else -1, sc, ar, fr) := by
  intro m
  induction m with
  | zero =>
    intro fu i h1 h2 h3
    obtain ⟨fu, rfl⟩ : ∃ z, fu = z + 1 := ⟨fu - 1, by omega⟩
    rw [f_X4_eldestOver_2, gd_t (p_wire hnb hw), s1]
    have hij : i = j0 := by omega
    subst hij
    by_cases q : i < L
    · rw [if_neg (nI_ge q (by omega)), show 19 + 26 * w + 1 = 20 + 26 * w by omega, rdR_n (p_frs hnb hw) (by omega) (by decide), nI_clamp (by omega), gd_t (hpk i (by omega)), hd i q, if_neg (hv q), if_pos q]
    · rw [if_pos (nI_le (by omega) (by omega)), if_neg q]
  | succ m ih =>
    intro fu i h1 h2 h3
    obtain ⟨fu, rfl⟩ : ∃ z, fu = z + 1 := ⟨fu - 1, by omega⟩
    rw [f_X4_eldestOver_2, gd_t (p_wire hnb hw), s1, if_neg (nI_ge (by omega) (by omega)), show 19 + 26 * w + 1 = 20 + 26 * w by omega, rdR_n (p_frs hnb hw) (by omega) (by decide), nI_clamp (by omega), gd_t (hpk i (by omega)), hd i (by omega), if_pos (h3 i (by omega) (by omega)), bd_e, ad_1]
    exact ih fu (i + 1) (by omega) (by omega) (fun z a b => h3 z (by omega) b)
theorem scan_m (hw : w < 2) (hL : L ≤ 12) (s2 : st (300 + 500 * w) = nI L) (h3 : st 3 = nI T) {rec : Int32 → Int32 → (Nat → Int32) → Int32 → Int64 → Int32 → Int32 → Option (Int32 × (Nat → Int32) × Int32 × Int64 × Int32 × Int32)} {x1 : Int32} : ∀ (m fu i : Nat), i + m ≤ L → (∀ z, i ≤ z → z < i + m → nI T < st (302 + 500 * w + 36 * z)) → f_X6_coming_11 rec (fu + m) x1 (nI w) (nI i) st wt sm ld ln = f_X6_coming_11 rec fu x1 (nI w) (nI (i + m)) st wt sm ld ln := by
  intro m
  induction m with
  | zero => intro fu i _ _; rfl
  | succ m ih =>
    intro fu i h1 h2
    rw [show fu + (m + 1) = (fu + m) + 1 by omega, f_X6_coming_11, many_m hw, bM_s, s2, if_neg (nI_ge (by omega) (by omega)), frameAt_s, bx_s, ad_1, rd_n (by omega) (by decide), rd_l 3 3 rfl (by decide), h3, show 301 + 500 * w + 36 * i + 1 = 302 + 500 * w + 36 * i by omega, if_pos (h2 i (by omega) (by omega)), bd_e, ad_1, ih fu (i + 1) (by omega) (fun z a b => h2 z (by omega) (by omega)), show i + 1 + m = i + (m + 1) by omega]
theorem recv (hnb : 1 ≤ nb) (hw : w < 2) {rec : Int32 → Int32 → (Nat → Int32) → Int32 → Int64 → Int32 → Int32 → Option (Int32 × (Nat → Int32) × Int32 × Int64 × Int32 × Int32)} : ∀ (M L fuC fuM j c : Nat) (K : Nat → Nat) (sc ar : Nat → Nat → Int32) (fr : Nat → Nat → Nat) (st : Nat → Int32) (sm : Int64), L ≤ M → RX T K sc ar fr st → st (300 + 500 * w) = nI L → c + L ≤ 12 → 12 - c < fuC → 13 * M + 13 ≤ fuM → K (1 - w) + M < 2 ^ 30 → j ≤ 12 → (∀ z, z < j → z < L → nI T < st (302 + 500 * w + 36 * z)) →
  ∃ c' sc' ar' fr' st' sm', c ≤ c' ∧ f_X2_receive_2 nb fuC 0 (19 + 26 * w) (2 + 8 * (1 - w)) (nI c) sc ar fr = some (nI c', sc', ar', fr') ∧ (∀ x1, f_X6_coming_11 rec fuM (nI x1) (nI w) (nI j) st wt sm ld ln = rec (nI (x1 + (c' - c))) (nI (w + 1)) st' wt sm' ld ln) ∧ RX T (fun s => if s = 1 - w then K s + M else K s) sc' ar' fr' st' ∧ Out sc ar fr sc' ar' fr' := by
  intro M
  induction M with
  | zero =>
    intro L fuC fuM j c K sc ar fr st sm hLM h hst hcL hfC hfM hKb hj hb
    have hL0 : L = 0 := by omega
    subst hL0
    obtain ⟨fuC, rfl⟩ : ∃ z, fuC = z + 1 := ⟨fuC - 1, by omega⟩
    obtain ⟨fuM, rfl⟩ : ∃ z, fuM = z + 1 := ⟨fuM - 1, by omega⟩
    obtain ⟨n0, hn0, s1, s2, hp4, hp5, hp6⟩ := id (h.2.2 w hw)
    simp only [Nat.zero_add] at s1 hp4 hp5 hp6
    have hnL : n0 = 0 := (nI_eq (by omega) (by omega)).mp (s2.symm.trans hst)
    subst hnL
    have hpk := RW.pks (L := 0) hnb hw (by simp only [Nat.zero_add]; exact hp4)
    refine ⟨c, sc, ar, fr, st, sm, Nat.le_refl _, ?_, fun x1 => ?_, h.mono (fun s' => by split <;> omega), Out.refl⟩
    · rw [f_X2_receive_2]
      by_cases q : 12 ≤ c
      · rw [if_pos (show (12 : Int32) ≤ nI c from nI_le (a := 12) q (by omega)), show c = 12 by omega]; rfl
      · rw [if_neg (show ¬ (12 : Int32) ≤ nI c from nI_ge (b := 12) (by omega) (by decide)), gd_t (p_lk hnb), gd_t (p_wire hnb hw), f_X4_eldestOver, show sc 0 3 = nI T from h.1.2.2.1, show (0 : Int32) = nI 0 from rfl, eld_c (st := st) (j0 := 0) hnb hw (by omega) s1 hpk (fun z hz => absurd hz (by omega)) (by omega) (fun q => absurd q (by omega)) 0 FU 0 rfl (by decide) (fun z a b => absurd b (by omega)), bC_s, if_neg (by decide)]
    · rw [f_X6_coming_11, many_m hw, bM_s, hst, if_pos (nI_le (by omega) (by omega)), bd_e, ad_1, show x1 + (c - c) = x1 by omega]
  | succ M ih =>
    intro L fuC fuM j c K sc ar fr st sm hLM h hst hcL hfC hfM hKb hj hb
    obtain ⟨fuC, rfl⟩ : ∃ z, fuC = z + 1 := ⟨fuC - 1, by omega⟩
    obtain ⟨n0, hn0, s1, s2, hp4, hp5, hp6⟩ := id (h.2.2 w hw)
    simp only [Nat.zero_add] at s1 hp4 hp5 hp6
    have hnL : n0 = L := (nI_eq (by omega) (by omega)).mp (s2.symm.trans hst)
    subst hnL
    have hpk := RW.pks (L := n0) hnb hw (by simp only [Nat.zero_add]; exact hp4)
    have hd : ∀ z, z < n0 → sc (fr (20 + 26 * w) z) 2 = st (302 + 500 * w + 36 * z) := by
      intro z hz
      have := (hp6 z hz).choose_spec.2.2.2.1
      rw [this]; congr 1; omega
    have h3T : st 3 = nI T := h.1.2.1
    by_cases hjL : n0 ≤ j
    · -- nothing more is over
      refine ⟨c, sc, ar, fr, st, sm, Nat.le_refl _, ?_, fun x1 => ?_, h.mono (fun s' => by split <;> omega), Out.refl⟩
      · rw [f_X2_receive_2]
        by_cases q : 12 ≤ c
        · rw [if_pos (show (12 : Int32) ≤ nI c from nI_le (a := 12) q (by omega)), show c = 12 by omega]; rfl
        · rw [if_neg (show ¬ (12 : Int32) ≤ nI c from nI_ge (b := 12) (by omega) (by decide)), gd_t (p_lk hnb), gd_t (p_wire hnb hw), f_X4_eldestOver, show sc 0 3 = nI T from h.1.2.2.1, show (0 : Int32) = nI 0 from rfl, eld_c (st := st) (j0 := n0) hnb hw hn0 s1 hpk hd (Nat.le_refl _) (fun q => absurd q (by omega)) n0 FU 0 (by omega) (by unfold FU; omega) (fun z a b => hb z (by omega) b), bC_s, if_neg (Nat.lt_irrefl n0), if_neg (by decide)]
      · obtain ⟨fuM, rfl⟩ : ∃ z, fuM = z + 1 := ⟨fuM - 1, by omega⟩
        rw [f_X6_coming_11, many_m hw, bM_s, hst, if_pos (nI_le hjL (by omega)), bd_e, ad_1, show x1 + (c - c) = x1 by omega]
    · obtain ⟨j0, z1, z2, z3, z4⟩ := firstOver (fun z => nI T < st (302 + 500 * w + 36 * z)) n0 (n0 - j) j (by omega)
      obtain ⟨fuM, rfl⟩ : ∃ z, fuM = z + 1 + (j0 - j) := ⟨fuM - 1 - (j0 - j), by omega⟩
      have hall : ∀ z, 0 ≤ z → z < j0 → nI T < st (302 + 500 * w + 36 * z) := by
        intro z _ hz
        rcases Nat.lt_or_ge z j with q | q
        · exact hb z q (by omega)
        · exact z3 z q hz
      have eC : f_X4_eldestOver nb (19 + 26 * w) (nI T) sc ar fr = some (if j0 < n0 then nI j0 else -1, sc, ar, fr) := by
        rw [f_X4_eldestOver, show (0 : Int32) = nI 0 from rfl]
        exact eld_c (st := st) hnb hw hn0 s1 hpk hd z2 z4 j0 FU 0 (by omega) (by unfold FU; omega) hall
      have eM : ∀ x1, f_X6_coming_11 rec (fuM + 1 + (j0 - j)) (nI x1) (nI w) (nI j) st wt sm ld ln = f_X6_coming_11 rec (fuM + 1) (nI x1) (nI w) (nI j0) st wt sm ld ln := by
        intro x1
        rw [scan_m hw hn0 hst h3T (j0 - j) (fuM + 1) j (by omega) (fun z a b => z3 z a (by omega)), show j + (j0 - j) = j0 by omega]
      have q12 : ¬ (12 : Int32) ≤ nI c := nI_ge (b := 12) (by omega) (by decide)
      by_cases hov : j0 < n0
      · obtain ⟨p, sc1, fr1, sc', ar', st', sm', e1, e2, e3, e4, e5, e6⟩ := comes_sim (wt := wt) (sm := sm) (ld := ld) (ln := ln) (K' := fun s => if s = 1 - w then K s + 1 else K s) hnb hw h (fun s' => by (try dsimp only); split <;> omega) (by (try dsimp only); rw [if_pos rfl]; exact Nat.le_refl _) (by omega) hov hn0 hst
        have hL' : ∃ L', L' ≤ M ∧ L' + 1 ≤ n0 ∧ st' (300 + 500 * w) = nI L' ∧ ∀ z, z < j0 → z < L' → nI T < st' (302 + 500 * w + 36 * z) := by
          rcases e6 with e6 | e6
          · refine ⟨n0 - 1, by omega, by omega, ?_, fun z a b => ?_⟩
            · rw [e6 _ (by omega) (by omega)]; unfold rmv; rw [if_neg (by omega), if_neg (by omega), if_pos rfl]
            · rw [e6 _ (by omega) (by omega)]; unfold rmv; rw [if_neg (by omega), if_neg (by omega), if_neg (by omega)]
              exact hall z (by omega) a
          · exact ⟨0, by omega, by omega, e6, fun z a b => absurd b (by omega)⟩
        obtain ⟨L', l1, l2, l3, l4⟩ := hL'
        obtain ⟨c', sc2, ar2, fr2, st2, sm2, r1, r2, r3, r4, r5⟩ := ih L' fuC fuM j0 (c + 1) _ sc' ar' fr1 st' sm' l1 e4 l3 (by omega) (by omega) (by omega) (by (try dsimp only); rw [if_pos rfl]; omega) (by omega) l4
        refine ⟨c', sc2, ar2, fr2, st2, sm2, by omega, ?_, fun x1 => ?_, r4.mono (fun s' => by (try dsimp only); split <;> omega), e5.trans r5⟩
        · rw [f_X2_receive_2, if_neg q12, gd_t (p_lk hnb), gd_t (p_wire hnb hw), show sc 0 3 = nI T from h.1.2.2.1, eC, bC_s, if_pos hov, if_pos (show (0 : Int32) ≤ nI j0 from nI_le (a := 0) (by omega) (by omega)), e1, bC_s, e2, bCv_s, bd_e, ad_1, r2]
        · rw [eM, f_X6_coming_11, many_m hw, bM_s, hst, if_neg (nI_ge hov (by omega)), frameAt_s, bx_s, ad_1, rd_n (by omega) (by decide), rd_l 3 3 rfl (by decide), h3T, show 301 + 500 * w + 36 * j0 + 1 = 302 + 500 * w + 36 * j0 by omega, if_neg (z4 hov), e3, bMv_s, bd_e, ad_1, r3, show x1 + 1 + (c' - (c + 1)) = x1 + (c' - c) by omega]
      · refine ⟨c, sc, ar, fr, st, sm, Nat.le_refl _, ?_, fun x1 => ?_, h.mono (fun s' => by split <;> omega), Out.refl⟩
        · rw [f_X2_receive_2, if_neg q12, gd_t (p_lk hnb), gd_t (p_wire hnb hw), show sc 0 3 = nI T from h.1.2.2.1, eC, bC_s, if_neg hov, if_neg (by decide)]
        · rw [eM, f_X6_coming_11, many_m hw, bM_s, hst, if_pos (nI_le (by omega) (by omega)), bd_e, ad_1, show x1 + (c - c) = x1 by omega]
end TK7
