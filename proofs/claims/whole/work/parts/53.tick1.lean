/-! a tick: what holds within it -/
def RX (T : Nat) (K : Nat → Nat) (sc ar : Nat → Nat → Int32) (fr : Nat → Nat → Nat) (st : Nat → Int32) : Prop :=
  RG 0 T sc ar st ∧ (∀ s, s < 2 → ∃ o n u g t d w v, v ≤ K s ∧ RE 0 s o n u g t d w v sc ar st) ∧ ∀ w, w < 2 → RW 0 w sc ar fr st
def Out (sc ar : Nat → Nat → Int32) (fr : Nat → Nat → Nat) (sc' ar' : Nat → Nat → Int32) (fr' : Nat → Nat → Nat) : Prop :=
  ∀ p, 72 ≤ p → sc' p = sc p ∧ ar' p = ar p ∧ fr' p = fr p
theorem Out.refl {sc ar : Nat → Nat → Int32} {fr : Nat → Nat → Nat} : Out sc ar fr sc ar fr := fun _ _ => ⟨rfl, rfl, rfl⟩
theorem Out.trans {sc ar sc' ar' sc2 ar2 : Nat → Nat → Int32} {fr fr' fr2 : Nat → Nat → Nat} (h : Out sc ar fr sc' ar' fr') (h' : Out sc' ar' fr' sc2 ar2 fr2) : Out sc ar fr sc2 ar2 fr2 := by
  intro p hp
  obtain ⟨a, b, c⟩ := h p hp
  obtain ⟨a', b', c'⟩ := h' p hp
  exact ⟨a'.trans a, b'.trans b, c'.trans c⟩
/-- the wires stay, or both are empty -/
def Wk (st st' : Nat → Int32) : Prop := (∀ i, 300 ≤ i → i < 1300 → st' i = st i) ∨ (st' 300 = 0 ∧ st' 800 = 0)
theorem Wk.refl {st : Nat → Int32} : Wk st st := Or.inl fun _ _ _ => rfl
theorem Wk.of {st st' : Nat → Int32} (h : ∀ i, 300 ≤ i → i < 1300 → st' i = st i) : Wk st st' := Or.inl h
theorem Wk.trans {a b c : Nat → Int32} (h : Wk a b) (h' : Wk b c) : Wk a c := by
  rcases h' with h' | h'
  · rcases h with h | ⟨h1, h2⟩
    · exact Or.inl fun i p q => (h' i p q).trans (h i p q)
    · exact Or.inr ⟨(h' 300 (by decide) (by decide)).trans h1, (h' 800 (by decide) (by decide)).trans h2⟩
  · exact Or.inr h'
section TK
variable {nb T s : Nat} {K K' : Nat → Nat} {sc ar sc' ar' : Nat → Nat → Int32} {fr fr' : Nat → Nat → Nat} {st st' : Nat → Int32} {wt : Int32} {sm : Int64} {ld ln : Int32}
theorem RX.tally {j j' : Nat} {x : Int32} (h : RX T K sc ar fr st) (hj : (2 ≤ j ∧ j < 9 ∧ j' = j + 3) ∨ (9 ≤ j ∧ j < 17 ∧ j' = j + 15)) : RX T K sc (va_up ar 71 (upd (ar 71) j x)) fr (upd st j' x) := by
  obtain ⟨hg, he, hw⟩ := h
  obtain ⟨a0, a1, a2, a3, a4, a5, a6, a7, a8⟩ := hg
  refine ⟨⟨a0, ?_, a2, ?_, ?_, ?_, ?_, fun i p q => ?_, fun i p q => ?_⟩, fun s hs => ?_, fun w hw' => (hw w hw').cong hw' (fun i p q => upd_o (by omega)) (fun p _ _ => rfl) (fun p _ _ => va_o (by omega)) rfl⟩
  · rw [upd_o (by omega)]; exact a1
  · rw [upd_o (by omega)]; exact a3
  · rw [upd_o (by omega)]; exact a4
  · rw [upd_o (by omega)]; exact a5
  · rw [upd_o (by omega)]; exact a6
  · have := a7 i p q
    simp only [Nat.zero_add] at this ⊢
    rw [va_s]
    by_cases e : i = j
    · subst e
      rw [show i + 3 = j' by omega, upd_s, upd_s]
    · rw [upd_o e, upd_o (by omega)]; exact this
  · have := a8 i p q
    simp only [Nat.zero_add] at this ⊢
    rw [va_s]
    by_cases e : i = j
    · subst e
      rw [show i + 15 = j' by omega, upd_s, upd_s]
    · rw [upd_o e, upd_o (by omega)]; exact this
  · obtain ⟨o, n, u, g, t, d, w, v, hv, h⟩ := he s hs
    exact ⟨o, n, u, g, t, d, w, v, hv, h.cong hs (fun i hi => upd_o (by omega)) rfl (fun p _ _ => va_o (by omega))⟩
theorem RX.tal {j j' : Nat} (h : RX T K sc ar fr st) (hj : (2 ≤ j ∧ j < 9 ∧ j' = j + 3) ∨ (9 ≤ j ∧ j < 17 ∧ j' = j + 15)) : ar 71 j = st j' := by
  obtain ⟨-, -, -, -, -, -, -, a7, a8⟩ := h.1
  simp only [Nat.zero_add] at a7 a8
  rcases hj with ⟨p, q, rfl⟩ | ⟨p, q, rfl⟩
  · exact a7 j p q
  · exact a8 j p q
theorem Out.tally {j : Nat} {x : Int32} : Out sc ar fr sc (va_up ar 71 (upd (ar 71) j x)) fr := fun p hp => ⟨rfl, va_o (by omega), rfl⟩
theorem RX.setE (h : RX T K sc ar fr st) (hs : s < 2) (hK : ∀ s', K s' ≤ K' s') (hE : ∀ o n u g t d w v, v ≤ K s → RE 0 s o n u g t d w v sc ar st → ∃ o n u g t d w v, v ≤ K' s ∧ RE 0 s o n u g t d w v sc' ar' st') (hst : ∀ i, ¬ ((100 + 100 * s ≤ i ∧ i < 200 + 100 * s) ∨ (1400 + 1600 * s ≤ i ∧ i < 3000 + 1600 * s) ∨ (4600 + 1600 * s ≤ i ∧ i < 6200 + 1600 * s)) → st' i = st i) (hsc : ∀ p, p ≠ 2 + 8 * s → sc' p = sc p) (har : ∀ p, p < 2 + 8 * s ∨ 10 + 8 * s ≤ p → ar' p = ar p) : RX T K' sc' ar' fr st' := by
  obtain ⟨hg, he, hw⟩ := h
  refine ⟨hg.cong (fun i hi => hst i (by omega)) (hsc _ (by omega)) (har _ (by omega)), fun s' hs' => ?_, fun w hw' => (hw w hw').cong hw' (fun i a b => hst i (by omega)) (fun p a b => hsc p (by omega)) (fun p a b => har p (by omega)) rfl⟩
  obtain ⟨o, n, u, g, t, d, w, v, hv, h⟩ := he s' hs'
  by_cases e : s' = s
  · subst e
    exact hE o n u g t d w v hv h
  · exact ⟨o, n, u, g, t, d, w, v, Nat.le_trans hv (hK s'), h.cong hs' (fun i hi => hst i (by omega)) (hsc _ (by omega)) (fun p a b => har p (by omega))⟩
theorem RE.scal {o n u g t d w v n' u' g' t' w' : Nat} (h : RE 0 s o n u g t d w v sc ar st) (hb : g' ≤ u' ∧ u' ≤ n' ∧ n' ≤ o ∧ o ≤ n' + 16 ∧ u' ≤ 8 ∧ t' < 4 ∧ w' < 64 ∧ n - u ≤ n' - u')
  (hst : ∀ i, (120 + 100 * s ≤ i ∧ i < 200 + 100 * s) ∨ (1400 + 1600 * s ≤ i ∧ i < 3000 + 1600 * s) ∨ (4600 + 1600 * s ≤ i ∧ i < 6200 + 1600 * s) → st' i = st i) (har : ∀ p, 2 + 8 * s ≤ p → p < 10 + 8 * s → ar' p = ar p)
  (m : st' (100 + 100 * s) = nI o ∧ st' (101 + 100 * s) = nI n' ∧ st' (102 + 100 * s) = nI u' ∧ st' (103 + 100 * s) = nI ((n' - u' + 63) % 64) ∧ st' (105 + 100 * s) = nI t' ∧ st' (106 + 100 * s) = nI g' ∧ st' (107 + 100 * s) = nI w' ∧ st' (111 + 100 * s) = nI v ∧ st' (113 + 100 * s) = nI d)
  (b : bln (st' (108 + 100 * s)) = true ∧ bln (st' (110 + 100 * s)) = true ∧ bln (st' (112 + 100 * s)) = true)
  (c : sc' (2 + 8 * s) 1 = nI d ∧ sc' (2 + 8 * s) 3 = nI o ∧ sc' (2 + 8 * s) 4 = nI n' ∧ sc' (2 + 8 * s) 5 = nI (n' - u') ∧ sc' (2 + 8 * s) 6 = st' (112 + 100 * s) ∧ sc' (2 + 8 * s) 7 = st' (104 + 100 * s) ∧ sc' (2 + 8 * s) 8 = nI t' ∧ sc' (2 + 8 * s) 9 = nI g' ∧ sc' (2 + 8 * s) 10 = nI w' ∧ sc' (2 + 8 * s) 11 = st' (108 + 100 * s) ∧ sc' (2 + 8 * s) 12 = st' (110 + 100 * s) ∧ sc' (2 + 8 * s) 13 = st' (109 + 100 * s) ∧ sc' (2 + 8 * s) 15 = nI v) : RE 0 s o n' u' g' t' d w' v sc' ar' st' := by
  obtain ⟨h1, h2, h3, h4, h5, h6, h7⟩ := h
  refine ⟨by omega, m, b, ?_, ?_, ?_, ?_⟩
  · simp only [Nat.zero_add]; exact c
  · intro k hk
    rw [har _ (by omega) (by omega), hst (120 + 100 * s + k) (by omega)]
    exact h5 k hk
  · intro i hi1 hi2
    refine (h6 i (by omega) hi2).cong ?_ (fun k hk => ?_) (fun j hj1 hj2 => hst j ?_)
    · rw [har _ (by omega) (by omega)]
    · rw [har _ (by omega) (by omega)]
    · obtain ⟨q1, q2, q3, q4, -⟩ := h1
      rcases Nat.lt_or_ge s 2 with q | q <;> omega
  · intro i hi1 hi2
    refine (h7 i hi1 hi2).cong ?_ (fun k hk => ?_) (fun j hj1 hj2 => hst j (by omega))
    · rw [har _ (by omega) (by omega)]
    · rw [har _ (by omega) (by omega)]
/-- the class's tally -/
theorem tal_c {β : Type} {j : Nat} (hnb : 1 ≤ nb) (hj : j < 17) {x : Int32} {k : (Nat → Nat → Int32) → Option β} : wrA nb ar 71 (nI j) x k = k (va_up ar 71 (upd (ar 71) j x)) := wrA_n (p_tal hnb) (by rw [l_tal]; exact hj)
theorem talr_c {β : Type} {j : Nat} (hnb : 1 ≤ nb) (hj : j < 17) {k : Int32 → Option β} : rdA nb ar 71 (nI j) k = k (ar 71 j) := rdA_n (p_tal hnb) (by rw [l_tal]; exact hj)
/-- oweNak, dropped -/
theorem nak_sim (hnb : 1 ≤ nb) (hs : s < 2) (h : RX T K sc ar fr st) : ∃ sc' st', f_X0_oweNak nb (2 + 8 * s) sc ar fr = some (sc', ar, fr) ∧ f_X6_dropped (nI s) st wt sm ld ln = some (st', wt, sm, ld, ln) ∧ RX T K sc' ar fr st' ∧ Out sc ar fr sc' ar fr ∧ Wk st st' := by
  obtain ⟨o, n, u, g, t, d, w, v, hv, hE⟩ := h.2.1 s hs
  have c11 : sc (2 + 8 * s) 11 = st (108 + 100 * s) := by have := hE.2.2.2.1.2.2.2.2.2.2.2.2.2.1; simpa using this
  rw [f_X0_oweNak, gd_t (p_end hnb hs), c11, f_X6_dropped, endAt_s, bx_s, ad_8, rd_n (by omega) (by decide), show 100 + 100 * s + 8 = 108 + 100 * s by omega]
  by_cases q : st (108 + 100 * s) = 0
  · rw [if_pos q, if_pos q, bd_e, bd_e, wr_n (by omega) (by decide), ad_10, wr_n (by omega) (by decide), show 100 + 100 * s + 10 = 110 + 100 * s by omega]
    refine ⟨_, _, rfl, rfl, ?_, fun p hp => ⟨by rw [up2_ne (by omega), up2_ne (by omega)], rfl, rfl⟩, Wk.of fun i a b => by rw [upd_o (by omega), upd_o (by omega)]⟩
    refine h.setE hs (fun _ => Nat.le_refl _) (fun o n u g t d w v hv h => ⟨o, n, u, g, t, d, w, v, hv, ?_⟩) (fun i hi => by rw [upd_o (by omega), upd_o (by omega)]) (fun p hp => by rw [up2_ne hp, up2_ne hp]) (fun _ _ => rfl)
    obtain ⟨h1, h2, h3, h4, h5, h6, h7⟩ := id h
    obtain ⟨b1, b2, b3⟩ := h3
    obtain ⟨c1, c3, c4, c5, c6, c7, c8, c9, c10, c11, c12, c13, c15⟩ := h4
    simp only [Nat.zero_add] at c1 c3 c4 c5 c6 c7 c8 c9 c10 c11 c12 c13 c15
    refine h.scal (by omega) (fun i hi => by rw [upd_o (by omega), upd_o (by omega)]) (fun _ _ _ => rfl) ?_ ?_ ?_
    · simp (disch := omega) only [upd_o, upd_s]; exact h2
    · simp (disch := omega) only [upd_o, upd_s]; exact ⟨rfl, rfl, b3⟩
    · simp (disch := omega) only [upd_o, upd_s, up2_o, up2_s]; exact ⟨c1, c3, c4, c5, c6, c7, c8, c9, c10, True.intro, True.intro, c13, c15⟩
  · rw [if_neg q, if_neg q]
    exact ⟨_, _, rfl, rfl, h, Out.refl, Wk.refl⟩
/-- oweAck, comesData's last words -/
theorem ack_sim (hnb : 1 ≤ nb) (hs : s < 2) (h : RX T K sc ar fr st) : ∃ sc' st', f_X0_oweAck nb (2 + 8 * s) (sc 0 7) sc ar fr = some (sc', ar, fr) ∧ f_X6_comesData_129 (nI (100 + 100 * s)) st wt sm ld ln = some (st', wt, sm, ld, ln) ∧ RX T K sc' ar fr st' ∧ Out sc ar fr sc' ar fr ∧ Wk st st' := by
  obtain ⟨o, n, u, g, t, d, w, v, hv, hE⟩ := h.2.1 s hs
  have c13 : sc (2 + 8 * s) 13 = st (109 + 100 * s) := by have := hE.2.2.2.1.2.2.2.2.2.2.2.2.2.2.2.1; simpa using this
  have g7 : sc 0 7 = st 2 := h.1.2.2.2.2.2.2.1
  have key : ∀ x, RX T K (up2 sc (2 + 8 * s) 13 x) ar fr (upd st (109 + 100 * s) x) := by
    intro x
    refine h.setE hs (fun _ => Nat.le_refl _) (fun o n u g t d w v hv h => ⟨o, n, u, g, t, d, w, v, hv, ?_⟩) (fun i hi => by rw [upd_o (by omega)]) (fun p hp => by rw [up2_ne hp]) (fun _ _ => rfl)
    obtain ⟨h1, h2, h3, h4, h5, h6, h7⟩ := id h
    obtain ⟨b1, b2, b3⟩ := h3
    obtain ⟨c1, c3, c4, c5, c6, c7, c8, c9, c10, c11, c12, c13, c15⟩ := h4
    simp only [Nat.zero_add] at c1 c3 c4 c5 c6 c7 c8 c9 c10 c11 c12 c13 c15
    refine h.scal (by omega) (fun i hi => by rw [upd_o (by omega)]) (fun _ _ _ => rfl) ?_ ?_ ?_
    · simp (disch := omega) only [upd_o, upd_s]; exact h2
    · simp (disch := omega) only [upd_o, upd_s]; exact ⟨b1, b2, b3⟩
    · simp (disch := omega) only [upd_o, upd_s, up2_o, up2_s]; exact ⟨c1, c3, c4, c5, c6, c7, c8, c9, c10, c11, c12, True.intro, c15⟩
  rw [f_X0_oweAck, gd_t (p_end hnb hs), c13, g7, f_X6_comesData_129, ad_9, rd_n (by omega) (by decide), show 100 + 100 * s + 9 = 109 + 100 * s by omega]
  by_cases q : st (109 + 100 * s) = -4
  · rw [if_pos q, if_pos q, bd_e, show (2 : Int32) = nI 2 from rfl, rd_n (by decide) (by decide), wr_n (by omega) (by decide)]
    exact ⟨_, _, rfl, rfl, key _, fun p hp => ⟨up2_ne (by omega), rfl, rfl⟩, Wk.of fun i a b => upd_o (by omega)⟩
  · rw [if_neg q, if_neg q, rd_n (by omega) (by decide), wr_n (by omega) (by decide)]
    refine ⟨_, _, rfl, rfl, ?_, Out.refl, Wk.of fun i a b => upd_o (by omega)⟩
    have e : upd st (109 + 100 * s) (st (109 + 100 * s)) = st := by
      funext i
      by_cases q : i = 109 + 100 * s
      · rw [q, upd_s]
      · rw [upd_o q]
    rw [e]; exact h
/-- all frames go -/
theorem clear109 : ∀ (L fu : Nat) (st : Nat → Int32), L ≤ 12 → L < fu → st 800 = nI L → ∃ st', f_X6_sendsAgain_109 fu st wt sm ld ln = some (st', wt, sm, ld, ln) ∧ st' 800 = 0 ∧ ∀ i, i < 800 ∨ 1300 ≤ i → st' i = st i := by
  intro L
  induction L with
  | zero =>
    intro fu st h1 h2 h3
    obtain ⟨fu, rfl⟩ : ∃ z, fu = z + 1 := ⟨fu - 1, by omega⟩
    rw [f_X6_sendsAgain_109, show (1 : Int32) = nI 1 from rfl, many_m (by decide), bM_s, h3, if_pos (by decide)]
    exact ⟨_, rfl, h3, fun _ _ => rfl⟩
  | succ L ih =>
    intro fu st h1 h2 h3
    obtain ⟨fu, rfl⟩ : ∃ z, fu = z + 1 := ⟨fu - 1, by omega⟩
    rw [f_X6_sendsAgain_109, show (1 : Int32) = nI 1 from rfl, many_m (by decide), bM_s, h3, if_neg (show ¬ nI (L + 1) ≤ (0 : Int32) from nI_ge (a := 0) (by omega) (by omega)), show (0 : Int32) = nI 0 from rfl, remove_m (w := 1) (by decide) h1 (by omega) h3, bMv_s]
    obtain ⟨st', e1, e2, e3⟩ := ih fu (rmv 1 0 (L + 1) st) (by omega) (by omega) (by unfold rmv; rw [if_neg (by omega), if_neg (by omega), if_pos (by omega)]; rfl)
    refine ⟨st', e1, e2, fun i hi => ?_⟩
    rw [e3 i hi, rmv_o h1 (by omega) (by omega)]
theorem clear92 : ∀ (L fu : Nat) (st : Nat → Int32), L ≤ 12 → L < fu → st 300 = nI L → (∃ M, M ≤ 12 ∧ st 800 = nI M) → ∃ st', f_X6_sendsAgain_92 fu st wt sm ld ln = some (st', wt, sm, ld, ln) ∧ st' 300 = 0 ∧ st' 800 = 0 ∧ ∀ i, i < 300 ∨ 1300 ≤ i → st' i = st i := by
  intro L
  induction L with
  | zero =>
    intro fu st h1 h2 h3 ⟨M, hM, h4⟩
    obtain ⟨fu, rfl⟩ : ∃ z, fu = z + 1 := ⟨fu - 1, by omega⟩
    rw [f_X6_sendsAgain_92, show f_X6_many 0 st wt sm ld ln = f_X6_many (nI 0) st wt sm ld ln from rfl, many_m (by decide), bM_s, h3, if_pos (by decide)]
    obtain ⟨st', e1, e2, e3⟩ := clear109 (wt := wt) (sm := sm) (ld := ld) (ln := ln) M FU st hM (by unfold FU; omega) h4
    exact ⟨st', e1, by rw [e3 _ (by decide)]; exact h3, e2, fun i hi => e3 i (by omega)⟩
  | succ L ih =>
    intro fu st h1 h2 h3 ⟨M, hM, h4⟩
    obtain ⟨fu, rfl⟩ : ∃ z, fu = z + 1 := ⟨fu - 1, by omega⟩
    rw [f_X6_sendsAgain_92, show f_X6_many 0 st wt sm ld ln = f_X6_many (nI 0) st wt sm ld ln from rfl, many_m (by decide), bM_s, h3, if_neg (show ¬ nI (L + 1) ≤ (0 : Int32) from nI_ge (a := 0) (by omega) (by omega)), show (0 : Int32) = nI 0 from rfl, remove_m (w := 0) (by decide) h1 (by omega) h3, bMv_s]
    obtain ⟨st', e1, e2, e3, e4⟩ := ih fu (rmv 0 0 (L + 1) st) (by omega) (by omega) (by unfold rmv; rw [if_neg (by omega), if_neg (by omega), if_pos (by omega)]; rfl) ⟨M, hM, by rw [rmv_o h1 (by omega) (by omega)]; exact h4⟩
    refine ⟨st', e1, e2, e3, fun i hi => ?_⟩
    rw [e4 i hi, rmv_o h1 (by omega) (by omega)]
end TK
