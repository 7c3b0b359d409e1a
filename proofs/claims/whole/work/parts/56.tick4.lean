section TK4
variable {nb T s : Nat} {K K' : Nat → Nat} {sc ar sc' ar' : Nat → Nat → Int32} {fr fr' : Nat → Nat → Nat} {st st' : Nat → Int32} {wt : Int32} {sm : Int64} {ld ln : Int32}
theorem hand53 {P len v : Nat} (hs : s < 2) (hv : v < 60) (hP : P = 4600 + 1600 * s + 25 * v) (hl : len ≤ 24) : ∀ (m fu i : Nat) (st : Nat → Int32), i + m = len → m < fu → st P = nI len → st (111 + 100 * s) = nI v → f_X6_handsUp_53 fu (nI 7900) (nI (100 + 100 * s)) (nI P) (nI i) st wt sm ld ln = some ((fun j => if P + 1 + i ≤ j ∧ j < P + 1 + len then st (7905 + (j - (P + 1))) else if j = 111 + 100 * s then nI (v + 1) else st j), wt, sm, ld, ln) := by
  intro m
  induction m with
  | zero =>
    intro fu i st h1 h2 h3 h4
    obtain ⟨fu, rfl⟩ : ∃ z, fu = z + 1 := ⟨fu - 1, by omega⟩
    rw [f_X6_handsUp_53, rd_n (by omega) (by decide), h3, if_pos (nI_le (by omega) (by omega)), f_X6_handsUp_96, ad_11, bd_e, show 100 + 100 * s + 11 = 111 + 100 * s by omega, rd_n (by omega) (by decide), h4, bd_e, ad_1, wr_n (by omega) (by decide)]
    congr 2
    funext j
    rw [if_neg (by omega)]
    by_cases q : j = 111 + 100 * s
    · rw [if_pos q, q, upd_s]
    · rw [if_neg q, upd_o q]
  | succ m ih =>
    intro fu i st h1 h2 h3 h4
    obtain ⟨fu, rfl⟩ : ∃ z, fu = z + 1 := ⟨fu - 1, by omega⟩
    rw [f_X6_handsUp_53, rd_n (by omega) (by decide), h3, if_neg (nI_ge (by omega) (by omega)), ad_2, ad_3, nI_add, rd_n (by omega) (by decide), ad_1, nI_add, wr_n (by omega) (by decide), bd_e, ad_1]
    rw [ih fu (i + 1) _ (by omega) (by omega) (by rw [upd_o (by omega)]; exact h3) (by rw [upd_o (by omega)]; exact h4)]
    congr 2
    funext j
    by_cases q : j = P + 1 + i
    · rw [q, if_neg (by omega), if_neg (by omega), upd_s, if_pos (by omega), show 7905 + (P + 1 + i - (P + 1)) = 7900 + 2 + 3 + i by omega]
    · by_cases r : P + 1 + i ≤ j ∧ j < P + 1 + len
      · rw [if_pos (by omega), if_pos r, upd_o (by omega)]
      · rw [if_neg (by omega), if_neg r, upd_o q]
theorem hand_sim (hnb : 1 ≤ nb) (hs : s < 2) (h : RX T K sc ar fr st) (hK : ∀ s', K s' ≤ K' s') (hK1 : K s + 1 ≤ K' s) (hKb : K s < 2 ^ 30) {w' m n' : Nat} {b : Nat → Nat} (hw : w' < 2) (hm : m < 12) (hn : 9 ≤ n' ∧ n' ≤ 32) (f1 : sc (21 + 26 * w' + 2 * m) 1 = nI n') (f2 : st 7900 = nI n') (fk : ∀ k, k < n' → b k < 256 ∧ ar (22 + 26 * w' + 2 * m) k = nI (b k) ∧ st (7902 + k) = nI (b k)) :
  ∃ sc' ar' st1 w0, w0 < 64 ∧ f_X0_handUp nb (2 + 8 * s) (21 + 26 * w' + 2 * m) sc ar fr = some (sc', ar', fr) ∧ f_X6_handsUp (nI s) (nI 7900) st wt sm ld ln = some (st1, wt, sm, ld, ln) ∧ st1 (107 + 100 * s) = nI w0 ∧ RX T K' sc' ar' fr (upd (upd st1 (107 + 100 * s) (nI ((w0 + 1) % 64))) (108 + 100 * s) 0) ∧ Out sc ar fr sc' ar' fr ∧ Wk st st1 := by
  obtain ⟨o, n, u, g, t, d, w, v, hv, hE⟩ := h.2.1 s hs
  obtain ⟨h1, h2, h3, h4, h5, h6, h7⟩ := id hE
  obtain ⟨a0, a1, a2, a3, a5, a6, a7, a11, a13⟩ := h2
  obtain ⟨c1, c3, c4, c5, c6, c7, c8, c9, c10, c11, c12, c13, c15⟩ := h4
  simp only [Nat.zero_add] at c1 c3 c4 c5 c6 c7 c8 c9 c10 c11 c12 c13 c15 h5 h6 h7
  have e29 : ∀ (ar : Nat → Nat → Int32), f_X0_handUp_29 nb (2 + 8 * s) sc ar fr = some (up2 (up2 (up2 sc (2 + 8 * s) 15 (nI (v + 1))) (2 + 8 * s) 10 (nI ((w + 1) % 64))) (2 + 8 * s) 11 0, ar, fr) := by
    intro ar
    rw [f_X0_handUp_29, gd_t (p_end hnb hs), c15, bd_e, ad_1, bd_e, up2_o (by decide), c10, ad_1, (by64_n (by omega)).1, bx_s, bd_e, bd_e]
  rw [f_X0_handUp, gd_t (p_end hnb hs), c15, f_X6_handsUp, endAt_s, bx_s, ad_11, show 100 + 100 * s + 11 = 111 + 100 * s by omega, rd_n (by omega) (by decide), a11]
  by_cases q : 60 ≤ v
  · rw [if_pos (show (60 : Int32) ≤ nI v from nI_le (a := 60) q (by omega)), if_pos (show (60 : Int32) ≤ nI v from nI_le (a := 60) q (by omega)), e29, f_X6_handsUp_96, ad_11, bd_e, show 100 + 100 * s + 11 = 111 + 100 * s by omega, rd_n (by omega) (by decide), a11, bd_e, ad_1, wr_n (by omega) (by decide)]
    refine ⟨_, _, _, w, by omega, rfl, rfl, by rw [upd_o (by omega)]; exact a7, ?_, fun p hp => ⟨by rw [up2_ne (by omega), up2_ne (by omega), up2_ne (by omega)], rfl, rfl⟩, Wk.of fun i _ _ => upd_o (by omega)⟩
    refine h.setE hs hK (fun _ _ _ _ _ _ _ _ _ _ => ⟨o, n, u, g, t, d, (w + 1) % 64, v + 1, by omega, ?_⟩) (fun i hi => by rw [upd_o (by omega), upd_o (by omega), upd_o (by omega)]) (fun p hp => by rw [up2_ne hp, up2_ne hp, up2_ne hp]) (fun _ _ => rfl)
    refine ⟨by omega, ?_, ?_, ?_, ?_, ?_, ?_⟩
    · simp (disch := omega) only [upd_o, upd_s]; exact ⟨a0, a1, a2, a3, a5, a6, trivial, trivial, a13⟩
    · simp (disch := omega) only [upd_o, upd_s]; exact ⟨rfl, h3.2⟩
    · simp (disch := omega) only [Nat.zero_add, upd_o, upd_s, up2_o, up2_s]; exact ⟨c1, c3, c4, c5, c6, c7, c8, c9, trivial, trivial, c12, c13, trivial⟩
    · intro k hk
      simp (disch := omega) only [Nat.zero_add, upd_o]; exact h5 k hk
    · intro i p1 p2
      simp only [Nat.zero_add]
      exact (h6 i p1 p2).cong rfl (fun _ _ => rfl) (fun j _ _ => by rw [upd_o (by omega), upd_o (by omega), upd_o (by omega)])
    · intro i p1 p2
      simp only [Nat.zero_add]
      exact (h7 i (by omega) p2).cong rfl (fun _ _ => rfl) (fun j _ _ => by rw [upd_o (by omega), upd_o (by omega), upd_o (by omega)])
  · have e8 : nI n' - 3 - 5 = nI (n' - 8) := by
      rw [show (3 : Int32) = nI 3 from rfl, pk_sub (by omega), show (5 : Int32) = nI 5 from rfl, pk_sub (by omega), Nat.sub_sub]
    rw [if_neg (show ¬ (60 : Int32) ≤ nI v from nI_ge (b := 60) (by omega) (by decide)), if_neg (show ¬ (60 : Int32) ≤ nI v from nI_ge (b := 60) (by omega) (by decide)), gd_t (p_frm hnb hw hm), f_X1_packetLength, gd_t (p_frm hnb hw hm), f1, e8, bC_s, show 2 + 8 * s + 5 = 7 + 8 * s by omega, gd_t (p_ups hnb hs)]
    rw [f_X3_put, gd_t (p_ups hnb hs), show 7 + 8 * s + 2 = 9 + 8 * s by omega, show 7 + 8 * s + 1 = 8 + 8 * s by omega, show 21 + 26 * w' + 2 * m + 1 = 22 + 26 * w' + 2 * m by omega, show (24 : Int32) = nI 24 from rfl, pk_mul, show (3 : Int32) = nI 3 from rfl, cpA_n (p_frb hnb hw hm) (p_upb hnb hs) (by rw [l_frb hw hm]; omega) (by rw [l_upb hs]; omega), wrA_n (p_upl hnb hs) (by rw [l_upl hs]; omega), bCv_s, e29]
    rw [rd_n (by omega) (by decide), a11, upAt_s, bx_s, rd_n (by omega) (by decide), f2, bd_e, show (8 : Int32) = nI 8 from rfl, pk_sub (by omega), wr_n (by omega) (by decide)]
    rw [show (0 : Int32) = nI 0 from rfl, hand53 (P := 4600 + 1600 * s + 25 * v) (len := n' - 8) (v := v) hs (by omega) rfl (by omega) (n' - 8) FU 0 _ (by omega) (by unfold FU; omega) (by rw [upd_s]) (by rw [upd_o (by omega)]; exact a11)]
    generalize hS : (fun j => if 4600 + 1600 * s + 25 * v + 1 + 0 ≤ j ∧ j < 4600 + 1600 * s + 25 * v + 1 + (n' - 8) then upd st (4600 + 1600 * s + 25 * v) (nI (n' - 8)) (7905 + (j - (4600 + 1600 * s + 25 * v + 1))) else if j = 111 + 100 * s then nI (v + 1) else upd st (4600 + 1600 * s + 25 * v) (nI (n' - 8)) j) = S
    have S0 : ∀ j, j ≠ 111 + 100 * s → (j < 4600 + 1600 * s + 25 * v ∨ 4625 + 1600 * s + 25 * v ≤ j) → S j = st j := by
      intro j j1 j2
      rw [← hS]; dsimp only
      rw [if_neg (by omega), if_neg j1, upd_o (by omega)]
    have S1 : S (111 + 100 * s) = nI (v + 1) := by
      rw [← hS]; dsimp only
      rw [if_neg (by omega), if_pos rfl]
    have S2 : S (4600 + 1600 * s + 25 * v) = nI (n' - 8) := by
      rw [← hS]; dsimp only
      rw [if_neg (by omega), if_neg (by omega), upd_s]
    have S3 : ∀ k, k < n' - 8 → S (4600 + 1600 * s + 25 * v + 1 + k) = nI (b (3 + k)) := by
      intro k hk
      rw [← hS]; dsimp only
      rw [if_pos (by omega), upd_o (by omega), show 7905 + (4600 + 1600 * s + 25 * v + 1 + k - (4600 + 1600 * s + 25 * v + 1)) = 7902 + (3 + k) by omega]
      exact (fk (3 + k) (by omega)).2.2
    clear hS
    refine ⟨_, _, _, w, by omega, rfl, rfl, by rw [S0 _ (by omega) (by omega)]; exact a7, ?_, fun p hp => ⟨by rw [up2_ne (by omega), up2_ne (by omega), up2_ne (by omega)], by rw [va_o (by omega), va_o (by omega)], rfl⟩, Wk.of fun i _ _ => S0 i (by omega) (by omega)⟩
    refine h.setE hs hK (fun _ _ _ _ _ _ _ _ _ _ => ⟨o, n, u, g, t, d, (w + 1) % 64, v + 1, by omega, ?_⟩) (fun i hi => by rw [upd_o (by omega), upd_o (by omega), S0 i (by omega) (by omega)]) (fun p hp => by rw [up2_ne hp, up2_ne hp, up2_ne hp]) (fun p hp => by rw [va_o (by omega), va_o (by omega)])
    refine ⟨by omega, ?_, ?_, ?_, ?_, ?_, ?_⟩
    · simp (disch := omega) only [upd_o, upd_s, S1, S0]; exact ⟨a0, a1, a2, a3, a5, a6, trivial, trivial, a13⟩
    · simp (disch := omega) only [upd_o, upd_s, S0]; exact ⟨rfl, h3.2⟩
    · simp (disch := omega) only [Nat.zero_add, upd_o, upd_s, up2_o, up2_s, S0]; exact ⟨c1, c3, c4, c5, c6, c7, c8, c9, trivial, trivial, c12, c13, trivial⟩
    · intro k hk
      simp (disch := omega) only [Nat.zero_add, upd_o, S0, va_o]; exact h5 k hk
    · intro i p1 p2
      simp only [Nat.zero_add]
      refine (h6 i p1 p2).cong ?_ (fun k _ => ?_) (fun j _ _ => by rw [upd_o (by omega), upd_o (by omega), S0 j (by omega) (by omega)])
      · rw [va_o (by omega), va_o (by omega)]
      · rw [va_o (by omega), va_o (by omega)]
    · intro i p1 p2
      simp only [Nat.zero_add]
      by_cases hiv : i = v
      · subst hiv
        refine ⟨n' - 8, by omega, by omega, ?_, ?_, fun k hk => ?_⟩
        · rw [va_s, upd_s]
        · rw [upd_o (by omega), upd_o (by omega), S2]
        · rw [upd_o (by omega), upd_o (by omega), S3 k hk, va_o (by omega), va_s]
          refine ⟨?_, b (3 + k), (fk (3 + k) (by omega)).1, rfl⟩
          unfold va_cpy
          rw [if_pos (by omega), show 3 + (24 * i + k - i * 24) = 3 + k by omega]
          exact (fk (3 + k) (by omega)).2.1
      · refine (h7 i (by omega) p2).cong ?_ (fun k hk => ?_) (fun j _ _ => by rw [upd_o (by omega), upd_o (by omega), S0 j (by omega) (by omega)])
        · rw [va_s, upd_o hiv, va_o (by omega)]
        · rw [va_o (by omega), va_s]; unfold va_cpy; rw [if_neg (by omega)]
end TK4
