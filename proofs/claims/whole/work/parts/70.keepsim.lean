/-! keep and again -/
theorem RL_.frok {B : Nat} {sc ar : Nat → Nat → Int32} {fr : Nat → Nat → Nat} {st : Nat → Int32} (h : RL_ B sc ar fr st) : ∀ w, w < 2 → frok B w fr := by
  intro w hw'
  obtain ⟨T, -, -, hw⟩ := h
  obtain ⟨n, h1, h2, h3, h4, h5, h6⟩ := hw w hw'
  exact ⟨h4, h5⟩
theorem keep_m {k : Nat} (hk : k < 2) {x2 : Int32} {st : Nat → Int32} {wt : Int32} {sm : Int64} {ld ln : Int32} {ik : Nat → Int32} : ∀ (m i fu : Nat) (kpM : Nat → Int32), i + m = 8000 → m < fu → ∃ kp', f_X6_keep_26 fu (nI k) x2 (nI i) st wt sm ld ln kpM ik = some (x2, st, wt, sm, ld, ln, kp', upd ik k 1) ∧ ∀ z, kp' z = if 8000 * k + i ≤ z ∧ z < 8000 * k + 8000 then st (z - 8000 * k) else kpM z := by
  intro m
  induction m with
  | zero =>
    intro i fu kpM h1 h2
    obtain ⟨fu, rfl⟩ : ∃ z, fu = z + 1 := ⟨fu - 1, by omega⟩
    rw [f_X6_keep_26, if_pos (show (8000 : Int32) ≤ nI i from nI_le (a := 8000) (by omega) (by omega)), wr_n hk (by decide)]
    exact ⟨_, rfl, fun z => by rw [if_neg (by omega)]⟩
  | succ m ih =>
    intro i fu kpM h1 h2
    obtain ⟨fu, rfl⟩ : ∃ z, fu = z + 1 := ⟨fu - 1, by omega⟩
    rw [f_X6_keep_26, if_neg (show ¬ (8000 : Int32) ≤ nI i from nI_ge (b := 8000) (by omega) (by decide)), rd_n (by omega) (by decide), show (8000 : Int32) = nI 8000 from rfl, pk_mul, nI_add, wr_n (by omega) (by decide), bd_e, ad_1]
    obtain ⟨kp', e1, e2⟩ := ih (i + 1) fu (upd kpM (8000 * k + i) (st i)) (by omega) (by omega)
    refine ⟨kp', e1, fun z => ?_⟩
    rw [e2 z]
    by_cases q : z = 8000 * k + i
    · rw [if_neg (by omega), q, upd_s, if_pos (by omega), show 8000 * k + i - 8000 * k = i by omega]
    · rw [upd_o q]
      by_cases r : 8000 * k + i ≤ z ∧ z < 8000 * k + 8000
      · rw [if_pos (by omega), if_pos r]
      · rw [if_neg (by omega), if_neg r]
theorem again_m {k : Nat} (hk : k < 2) {wt : Int32} {sm : Int64} {ld ln : Int32} {kpM ik : Nat → Int32} : ∀ (m i fu : Nat) (st : Nat → Int32), i + m = 8000 → m < fu → ∃ st', f_X6_again_23 fu (nI k) (nI i) st wt sm ld ln kpM ik = some (st' 3, st', wt, sm, ld, ln, kpM, ik) ∧ ∀ z, st' z = if i ≤ z ∧ z < 8000 then kpM (8000 * k + z) else st z := by
  intro m
  induction m with
  | zero =>
    intro i fu st h1 h2
    obtain ⟨fu, rfl⟩ : ∃ z, fu = z + 1 := ⟨fu - 1, by omega⟩
    rw [f_X6_again_23, if_pos (show (8000 : Int32) ≤ nI i from nI_le (a := 8000) (by omega) (by omega)), rd_l 3 3 rfl (by decide)]
    exact ⟨_, rfl, fun z => by rw [if_neg (by omega)]⟩
  | succ m ih =>
    intro i fu st h1 h2
    obtain ⟨fu, rfl⟩ : ∃ z, fu = z + 1 := ⟨fu - 1, by omega⟩
    rw [f_X6_again_23, if_neg (show ¬ (8000 : Int32) ≤ nI i from nI_ge (b := 8000) (by omega) (by decide)), show (8000 : Int32) = nI 8000 from rfl, pk_mul, nI_add, rd_n (by omega) (by decide), wr_n (by omega) (by decide), bd_e, ad_1]
    obtain ⟨st', e1, e2⟩ := ih (i + 1) fu (upd st i (kpM (8000 * k + i))) (by omega) (by omega)
    refine ⟨st', e1, fun z => ?_⟩
    rw [e2 z]
    by_cases q : z = i
    · rw [if_neg (by omega), q, upd_s, if_pos (by omega)]
    · rw [upd_o q]
      by_cases r : i ≤ z ∧ z < 8000
      · rw [if_pos (by omega), if_pos r]
      · rw [if_neg (by omega), if_neg r]
theorem inb_of {x : Int32} (h : inb x 2 = true) : ∃ k, k < 2 ∧ x = nI k := by
  simp only [inb, Bool.and_eq_true, decide_eq_true_eq] at h
  obtain ⟨j, hj, rfl⟩ := nI_of h.1
  rw [nI_clamp hj] at h
  exact ⟨j, h.2, rfl⟩
theorem inb_no {x : Int32} (h : ¬ inb x 2 = true) : f_X6_isEnd x = some 0 := by
  rcases side x with ⟨s, hs, rfl⟩ | ⟨e, -⟩
  · exact absurd (inb_n hs (by decide)) h
  · exact e
section KS
variable {nb : Nat} {kp : Nat → Option Nat} {sc ar sc' ar' : Nat → Nat → Int32} {fr : Nat → Nat → Nat} {st kpM ik : Nat → Int32}
theorem Rel.kpne (h : Rel nb kp sc ar fr st kpM ik) {k k' p : Nat} (hk : k < 2) (hk' : k' < 2) (hne : k ≠ k') (e : kp k = some p) : kp k' ≠ some p := by
  have h6 := h.2.2.2.2.2
  rcases (show k = 0 ∧ k' = 1 ∨ k = 1 ∧ k' = 0 by omega) with ⟨rfl, rfl⟩ | ⟨rfl, rfl⟩
  · exact h6 p e
  · exact fun e' => h6 p e' e
theorem sim_again (hR : Rel nb kp sc ar fr st kpM ik) (x1 : Int32) (wt : Int32) (sm : Int64) (ld ln : Int32) : ∃ r sc' ar' fr' st' wt' sm' ld' ln' kpM' ik', f_X5_again nb kp x1 sc ar fr = some (r, sc', ar', fr') ∧ f_X6_again x1 st wt sm ld ln kpM ik = some (r, st', wt', sm', ld', ln', kpM', ik') ∧ Rel nb kp sc' ar' fr' st' kpM' ik' := by
  have hnb := hR.1
  by_cases hi : inb x1 2 = true
  · obtain ⟨k, hk, rfl⟩ := inb_of hi
    rcases hR.2.2.2.2.1 k hk with ⟨q1, q2⟩ | ⟨b, b1, b2, b3, b4, b5⟩
    · refine ⟨-2, sc, ar, fr, st, wt, sm, ld, ln, kpM, ik, ?_, ?_, hR⟩
      · unfold f_X5_again
        rw [if_pos hi, nI_clamp (by omega)]
        simp only [q1]
      · rw [f_X6_again, isEnd_s hk, bx_s, if_neg ne10, rd_n hk (by decide), q2, if_pos rfl]
    · obtain ⟨sc1, ar1, e1, e2, e3⟩ := lcopy (c := 0) b2 hnb (by omega) b5 (fun w hw => hR.2.1.frok w hw)
      have e1' : f_X2_copyFrom nb 0 (72 * b) sc ar fr = some (sc1, ar1, fr) := e1
      have e2' : RL_ 0 sc1 ar1 fr (fun i => kpM (8000 * k + i)) := e2
      obtain ⟨st1, m1, m2⟩ := again_m (wt := wt) (sm := sm) (ld := ld) (ln := ln) (kpM := kpM) (ik := ik) hk 8000 0 FU st rfl (by decide)
      have L : RL_ 0 sc1 ar1 fr st1 := e2'.cong (fun i hi => by rw [m2 i, if_pos (by omega)]) (fun _ _ _ => rfl) (fun _ _ _ => rfl) (fun _ _ _ => rfl)
      have er : sc1 0 3 = st1 3 := by
        obtain ⟨T, hg, -, -⟩ := L
        rw [hg.2.1, hg.2.2.1]
      refine ⟨st1 3, sc1, ar1, fr, st1, wt, sm, ld, ln, kpM, ik, ?_, ?_, hR.step L (fun p hp => (e3 p (by omega)).1) (fun p hp => (e3 p (by omega)).2) (fun _ _ => rfl)⟩
      · unfold f_X5_again
        rw [if_pos hi, nI_clamp (by omega)]
        simp only [b3]
        rw [gd_t (p_lk hnb), e1', bCv_s, er]
      · rw [f_X6_again, isEnd_s hk, bx_s, if_neg ne10, rd_n hk (by decide), b4, if_neg (by decide)]
        exact m1
  · refine ⟨-1, sc, ar, fr, st, wt, sm, ld, ln, kpM, ik, ?_, ?_, hR⟩
    · unfold f_X5_again
      rw [if_neg hi]
    · rw [f_X6_again, inb_no hi, bx_s, if_pos rfl]
theorem frIn_N (h : frIn nb fr) : frIn (nb + 1) (frN nb fr) := by
  intro i j hi hk hj
  unfold frN
  by_cases q : i < 72 * nb
  · rw [if_pos q]
    have := h i j q hk hj
    omega
  · rw [if_neg q]
    have hkd : ∀ r, r < 72 → kdL.getD r 99 = 10 → r = 20 ∨ r = 46 := by decide
    unfold kd at hk
    have := hkd (i % 72) (Nat.mod_lt _ (by decide)) hk
    show 72 * nb + fr0 (i - 72 * nb) j < 72 * (nb + 1)
    unfold fr0
    omega
theorem sim_keep (hR : Rel nb kp sc ar fr st kpM ik) (x1 : Int32) (wt : Int32) (sm : Int64) (ld ln : Int32) : ∃ r nb' kp' sc' ar' fr' st' wt' sm' ld' ln' kpM' ik', f_X5_keep nb kp x1 sc ar fr = some (r, nb', kp', sc', ar', fr') ∧ f_X6_keep x1 st wt sm ld ln kpM ik = some (r, st', wt', sm', ld', ln', kpM', ik') ∧ Rel nb' kp' sc' ar' fr' st' kpM' ik' := by
  have hnb := hR.1
  by_cases hi : inb x1 2 = true
  · obtain ⟨k, hk, rfl⟩ := inb_of hi
    obtain ⟨-, hL, hfr, h4, h5, h6⟩ := id hR
    rcases h5 k hk with ⟨q1, q2⟩ | ⟨b, b1, b2, b3, b4, b5⟩
    · have sN : ∀ p, p < 72 * nb → scN nb sc p = sc p := fun p hp => by unfold scN; rw [if_pos hp]
      have aN : ∀ p, p < 72 * nb → arN nb ar p = ar p := fun p hp => by unfold arN; rw [if_pos hp]
      have fN : ∀ p, p < 72 * nb → frN nb fr p = fr p := fun p hp => by unfold frN; rw [if_pos hp]
      have hLN : RL_ (72 * 0) (scN nb sc) (arN nb ar) (frN nb fr) st := hL.cong (fun _ _ => rfl) (fun p _ hp => sN p (by omega)) (fun p _ hp => aN p (by omega)) (fun p _ hp => fN p (by omega))
      have hf : ∀ w, w < 2 → frok (72 * nb) w (frN nb fr) := by
        intro w hw
        have ev : ∀ j, frN nb fr (72 * nb + 20 + 26 * w) j = 72 * nb + 21 + 26 * w + 2 * j := by
          intro j
          unfold frN
          rw [if_neg (by omega)]
          show 72 * nb + fr0 (72 * nb + 20 + 26 * w - 72 * nb) j = _
          unfold fr0
          omega
        exact ⟨fun j hj => ⟨j, hj, ev j⟩, fun i j _ _ e => by rw [ev, ev] at e; omega⟩
      obtain ⟨sc1, ar1, e1, e2, e3⟩ := lcopy (nb := nb + 1) (b := 0) (c := nb) (by omega) (by omega) (by omega) hLN hf
      have e1' : f_X2_copyFrom (nb + 1) (72 * nb) 0 (scN nb sc) (arN nb ar) (frN nb fr) = some (sc1, ar1, frN nb fr) := e1
      obtain ⟨kp1, m1, m2⟩ := keep_m (x2 := 0) (st := st) (wt := wt) (sm := sm) (ld := ld) (ln := ln) (ik := ik) hk 8000 0 FU kpM rfl (by decide)
      have s1 : ∀ p, p < 72 * nb → sc1 p = sc p := fun p hp => by rw [(e3 p (by omega)).1, sN p hp]
      have a1 : ∀ p, p < 72 * nb → ar1 p = ar p := fun p hp => by rw [(e3 p (by omega)).2, aN p hp]
      refine ⟨0, nb + 1, va_up kp k (some (72 * nb)), sc1, ar1, frN nb fr, st, wt, sm, ld, ln, kp1, upd ik k 1, ?_, ?_, by omega, ?_, frIn_N hfr, fun j hj => ?_, fun k' hk' => ?_, ?_⟩
      · unfold f_X5_keep
        rw [if_pos hi, nI_clamp (by omega)]
        simp only [q1]
        rw [e1', bCv_s]
      · rw [f_X6_keep, isEnd_s hk, bx_s, if_neg ne10, rd_n hk (by decide), q2, if_pos rfl, f_X6_keep_23]
        exact m1
      · exact hL.cong (fun _ _ => rfl) (fun p _ hp => s1 p (by omega)) (fun p _ hp => a1 p (by omega)) (fun p _ hp => fN p (by omega))
      · rw [va_o (by omega)]; exact h4 j hj
      · by_cases q : k' = k
        · subst q
          refine Or.inr ⟨nb, hnb, by omega, va_s, upd_s, e2.cong (fun i hi => ?_) (fun _ _ _ => rfl) (fun _ _ _ => rfl) (fun _ _ _ => rfl)⟩
          rw [m2, if_pos (by omega)]; congr 1; omega
        · rw [va_o q, upd_o q]
          rcases h5 k' hk' with z | ⟨b', z1, z2, z3, z4, z5⟩
          · exact Or.inl z
          · refine Or.inr ⟨b', z1, by omega, z3, z4, z5.cong (fun i hi => ?_) (fun p _ hp => s1 p (by omega)) (fun p _ hp => a1 p (by omega)) (fun p _ hp => fN p (by omega))⟩
            rw [m2, if_neg (by omega)]
      · intro p e e'
        rcases (show k = 0 ∨ k = 1 by omega) with rfl | rfl
        · rw [va_s] at e
          rw [va_o (by decide)] at e'
          have := hR.kpin _ _ e'
          cases e
          omega
        · rw [va_s] at e'
          rw [va_o (by decide)] at e
          have := hR.kpin _ _ e
          cases e'
          omega
    · obtain ⟨sc1, ar1, e1, e2, e3⟩ := lcopy (b := 0) (c := b) hnb b2 (by omega) (show RL_ (72 * 0) sc ar fr st from hL) b5.frok
      have e1' : f_X2_copyFrom nb (72 * b) 0 sc ar fr = some (sc1, ar1, fr) := e1
      obtain ⟨kp1, m1, m2⟩ := keep_m (x2 := 1) (st := st) (wt := wt) (sm := sm) (ld := ld) (ln := ln) (ik := ik) hk 8000 0 FU kpM rfl (by decide)
      refine ⟨1, nb, kp, sc1, ar1, fr, st, wt, sm, ld, ln, kp1, upd ik k 1, ?_, ?_, hnb, ?_, hfr, h4, fun k' hk' => ?_, h6⟩
      · unfold f_X5_keep
        rw [if_pos hi, nI_clamp (by omega)]
        simp only [b3]
        rw [gd_t (show pk nb 2 (72 * b) = true from pkB (r := 0) b2 (by decide) rfl), e1', bCv_s]
      · rw [f_X6_keep, isEnd_s hk, bx_s, if_neg ne10, rd_n hk (by decide), b4, if_neg (by decide), f_X6_keep_23]
        exact m1
      · exact hL.cong (fun _ _ => rfl) (fun p _ hp => (e3 p (by omega)).1) (fun p _ hp => (e3 p (by omega)).2) (fun _ _ _ => rfl)
      · by_cases q : k' = k
        · subst q
          refine Or.inr ⟨b, b1, b2, b3, upd_s, e2.cong (fun i hi => ?_) (fun _ _ _ => rfl) (fun _ _ _ => rfl) (fun _ _ _ => rfl)⟩
          rw [m2, if_pos (by omega)]; congr 1; omega
        · rw [upd_o q]
          rcases h5 k' hk' with z | ⟨b', z1, z2, z3, z4, z5⟩
          · exact Or.inl z
          · have hbb : b' ≠ b := fun e => by subst e; exact hR.kpne hk hk' (fun e => q e.symm) b3 z3
            refine Or.inr ⟨b', z1, z2, z3, z4, z5.cong (fun i hi => ?_) (fun p _ hp => (e3 p (by omega)).1) (fun p _ hp => (e3 p (by omega)).2) (fun _ _ _ => rfl)⟩
            rw [m2, if_neg (by omega)]
  · refine ⟨-1, nb, kp, sc, ar, fr, st, wt, sm, ld, ln, kpM, ik, ?_, ?_, hR⟩
    · unfold f_X5_keep
      rw [if_neg hi]
    · rw [f_X6_keep, inb_no hi, bx_s, if_pos rfl]
end KS
