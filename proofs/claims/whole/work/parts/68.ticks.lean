/-! tick and settle -/
theorem RX.toL {T : Nat} {sc ar : Nat → Nat → Int32} {fr : Nat → Nat → Nat} {st : Nat → Int32} (h : RX T (fun _ => 12 * T) sc ar fr st) : RL_ 0 sc ar fr st := ⟨T, h.1, h.2.1, h.2.2⟩
theorem RL_.toX {sc ar : Nat → Nat → Int32} {fr : Nat → Nat → Nat} {st : Nat → Int32} (h : RL_ 0 sc ar fr st) : ∃ T, RX T (fun _ => 12 * T) sc ar fr st := by
  obtain ⟨T, h1, h2, h3⟩ := h
  exact ⟨T, h1, h2, h3⟩
theorem Rel.out {nb : Nat} {kp : Nat → Option Nat} {sc ar sc' ar' : Nat → Nat → Int32} {fr fr' : Nat → Nat → Nat} {st st' kpM ik : Nat → Int32} (h : Rel nb kp sc ar fr st kpM ik) (h0 : RL_ 0 sc' ar' fr' st') (ho : Out sc ar fr sc' ar' fr') : Rel nb kp sc' ar' fr' st' kpM ik := h.step h0 (fun p hp => (ho p hp).1) (fun p hp => (ho p hp).2.1) (fun p hp => (ho p hp).2.2)
section TT
variable {nb N : Nat}
theorem tick_loop (hnb : 1 ≤ nb) (hN : N < 1000) : ∀ (m i fuC fuM T : Nat) (x2 : Int32) (sc ar : Nat → Nat → Int32) (fr : Nat → Nat → Nat) (st : Nat → Int32) (wt : Int32) (sm : Int64) (ld ln : Int32), i + m = N → m < fuC → m < fuM → T + m ≤ 20000 → RX T (fun _ => 12 * T) sc ar fr st → ∃ r sc' ar' fr' st' wt' sm' ld' ln', f_X5_tick_36 nb fuC (nI N) x2 (nI i) sc ar fr = some (r, sc', ar', fr') ∧ f_X6_tick_35 fuM (nI N) x2 (nI i) st wt sm ld ln = some (r, st', wt', sm', ld', ln') ∧ RL_ 0 sc' ar' fr' st' ∧ Out sc ar fr sc' ar' fr' := by
  intro m
  induction m with
  | zero =>
    intro i fuC fuM T x2 sc ar fr st wt sm ld ln h1 h2 h3 h4 h
    obtain ⟨fuC, rfl⟩ : ∃ z, fuC = z + 1 := ⟨fuC - 1, by omega⟩
    obtain ⟨fuM, rfl⟩ : ∃ z, fuM = z + 1 := ⟨fuM - 1, by omega⟩
    have q : nI N ≤ nI i := nI_le (by omega) (by omega)
    rw [f_X5_tick_36, if_pos q, f_X6_tick_35, if_pos q]
    exact ⟨_, _, _, _, _, _, _, _, _, rfl, rfl, h.toL, Out.refl⟩
  | succ m ih =>
    intro i fuC fuM T x2 sc ar fr st wt sm ld ln h1 h2 h3 h4 h
    obtain ⟨fuC, rfl⟩ : ∃ z, fuC = z + 1 := ⟨fuC - 1, by omega⟩
    obtain ⟨fuM, rfl⟩ : ∃ z, fuM = z + 1 := ⟨fuM - 1, by omega⟩
    have q : ¬ nI N ≤ nI i := nI_ge (by omega) (by omega)
    obtain ⟨r, sc1, ar1, fr1, st1, wt1, sm1, ld1, ln1, a1, a2, a3, a4⟩ := pass_sim (wt := wt) (sm := sm) (ld := ld) (ln := ln) hnb (by omega) h
    obtain ⟨r2, sc2, ar2, fr2, st2, wt2, sm2, ld2, ln2, b1, b2, b3, b4⟩ := ih (i + 1) fuC fuM (T + 1) (x2 + r) sc1 ar1 fr1 st1 wt1 sm1 ld1 ln1 (by omega) (by omega) (by omega) (by omega) a3
    refine ⟨r2, sc2, ar2, fr2, st2, wt2, sm2, ld2, ln2, ?_, ?_, b3, a4.trans b4⟩
    · rw [f_X5_tick_36, if_neg q, gd_t (p_lk hnb), a1, bC_s, bd_e, bd_e, ad_1, b1]
    · rw [f_X6_tick_35, if_neg q, a2, bM_s, bd_e, bd_e, ad_1, b2]
theorem settle_loop (hnb : 1 ≤ nb) (hN : N < 1000) : ∀ (m i fuC fuM T : Nat) (sc ar : Nat → Nat → Int32) (fr : Nat → Nat → Nat) (st : Nat → Int32) (wt : Int32) (sm : Int64) (ld ln : Int32), i + m = N → m < fuC → m < fuM → T + m ≤ 20000 → RX T (fun _ => 12 * T) sc ar fr st → ∃ r sc' ar' fr' st' wt' sm' ld' ln', f_X5_settle_34 nb fuC (nI N) (nI i) sc ar fr = some (r, sc', ar', fr') ∧ f_X6_settle_33 fuM (nI N) (nI i) st wt sm ld ln = some (r, st', wt', sm', ld', ln') ∧ RL_ 0 sc' ar' fr' st' ∧ Out sc ar fr sc' ar' fr' := by
  intro m
  induction m with
  | zero =>
    intro i fuC fuM T sc ar fr st wt sm ld ln h1 h2 h3 h4 h
    obtain ⟨fuC, rfl⟩ : ∃ z, fuC = z + 1 := ⟨fuC - 1, by omega⟩
    obtain ⟨fuM, rfl⟩ : ∃ z, fuM = z + 1 := ⟨fuM - 1, by omega⟩
    have hi : i = N := by omega
    subst hi
    have q : nI i ≤ nI i := nI_le (by omega) (by omega)
    rw [f_X5_settle_34, if_pos q, f_X6_settle_33, if_pos q]
    exact ⟨_, _, _, _, _, _, _, _, _, rfl, rfl, h.toL, Out.refl⟩
  | succ m ih =>
    intro i fuC fuM T sc ar fr st wt sm ld ln h1 h2 h3 h4 h
    obtain ⟨fuC, rfl⟩ : ∃ z, fuC = z + 1 := ⟨fuC - 1, by omega⟩
    obtain ⟨fuM, rfl⟩ : ∃ z, fuM = z + 1 := ⟨fuM - 1, by omega⟩
    have q : ¬ nI N ≤ nI i := nI_ge (by omega) (by omega)
    obtain ⟨rc, ec, zc⟩ := quiet_c hnb h.toL
    obtain ⟨rm, em, zm⟩ := quiet_m (wt := wt) (sm := sm) (ld := ld) (ln := ln) h.toL
    by_cases hq : qAll st
    · have rc1 : rc = 1 := by rcases zc with ⟨-, z⟩ | ⟨z, -⟩; exact z; exact absurd hq z
      have rm1 : rm = 1 := by rcases zm with ⟨-, z⟩ | ⟨z, -⟩; exact z; exact absurd hq z
      subst rc1; subst rm1
      rw [f_X5_settle_34, if_neg q, gd_t (p_lk hnb), ec, bC_s, if_neg (by decide), f_X6_settle_33, if_neg q, em, bM_s, if_neg (by decide)]
      exact ⟨_, _, _, _, _, _, _, _, _, rfl, rfl, h.toL, Out.refl⟩
    · have rc0 : rc = 0 := by rcases zc with ⟨z, -⟩ | ⟨-, z⟩; exact absurd z hq; exact z
      have rm0 : rm = 0 := by rcases zm with ⟨z, -⟩ | ⟨-, z⟩; exact absurd z hq; exact z
      subst rc0; subst rm0
      obtain ⟨r, sc1, ar1, fr1, st1, wt1, sm1, ld1, ln1, a1, a2, a3, a4⟩ := pass_sim (wt := wt) (sm := sm) (ld := ld) (ln := ln) hnb (by omega) h
      obtain ⟨r2, sc2, ar2, fr2, st2, wt2, sm2, ld2, ln2, b1, b2, b3, b4⟩ := ih (i + 1) fuC fuM (T + 1) sc1 ar1 fr1 st1 wt1 sm1 ld1 ln1 (by omega) (by omega) (by omega) (by omega) a3
      refine ⟨r2, sc2, ar2, fr2, st2, wt2, sm2, ld2, ln2, ?_, ?_, b3, a4.trans b4⟩
      · rw [f_X5_settle_34, if_neg q, gd_t (p_lk hnb), ec, bC_s, if_pos rfl, a1, bC_s, bd_e, ad_1, b1]
      · rw [f_X6_settle_33, if_neg q, em, bM_s, if_pos rfl, a2, bM_s, bd_e, ad_1, b2]
end TT
theorem sim_tick {nb : Nat} {kp : Nat → Option Nat} {sc ar : Nat → Nat → Int32} {fr : Nat → Nat → Nat} {st kpM ik : Nat → Int32} (hR : Rel nb kp sc ar fr st kpM ik) (x1 : Int32) (wt : Int32) (sm : Int64) (ld ln : Int32) : ∃ r sc' ar' fr' st' wt' sm' ld' ln', f_X5_tick nb x1 sc ar fr = some (r, sc', ar', fr') ∧ f_X6_tick x1 st wt sm ld ln = some (r, st', wt', sm', ld', ln') ∧ Rel nb kp sc' ar' fr' st' kpM ik := by
  have hnb := hR.1
  obtain ⟨T, hX⟩ := hR.2.1.toX
  have hT : T ≤ 20000 := hX.1.1
  rw [f_X5_tick, f_X6_tick, in_spec x1 (lo := 1) (hi := 200) 1 200 rfl rfl, bx_s]
  have l1 := s32 x1 1 1 rfl
  have l2 := s32 x1 200 200 rfl
  by_cases h0 : x1 < 1
  · have := l1.1.mp h0
    rw [if_pos h0, if_neg (show ¬ (1 ≤ x1.toInt ∧ x1.toInt ≤ 200) by omega), if_pos rfl]
    exact ⟨_, _, _, _, _, _, _, _, _, rfl, rfl, hR⟩
  have h0' : ¬ x1.toInt < 1 := fun q => h0 (l1.1.mpr q)
  by_cases h2 : x1 ≤ 200
  · have h2' := l2.2.1.mp h2
    rw [if_neg h0, if_pos h2, if_pos (show 1 ≤ x1.toInt ∧ x1.toInt ≤ 200 by omega), if_neg (show ¬ (1 : Int32) = 0 by decide), gd_t (p_lk hnb), show sc 0 3 = nI T from hX.1.2.2.1, rd_l 3 3 rfl (by decide), show st 3 = nI T from hX.1.2.1]
    have hneg : ¬ x1 < 0 := fun q => by have := (s32 x1 0 0 rfl).1.mp q; omega
    obtain ⟨N, hN, rfl⟩ := nI_of hneg
    rw [nI_toInt hN] at h2' h0'
    rw [nI_add]
    by_cases h3 : T + N ≤ 20000
    · have q3 : nI (T + N) ≤ (20000 : Int32) := nI_le (b := 20000) h3 (by decide)
      rw [if_pos q3, if_pos q3]
      obtain ⟨r, sc1, ar1, fr1, st1, wt1, sm1, ld1, ln1, a1, a2, a3, a4⟩ := tick_loop (N := N) hnb (by omega) N 0 FU FU T 0 sc ar fr st wt sm ld ln (by omega) (by unfold FU; omega) (by unfold FU; omega) h3 hX
      exact ⟨r, sc1, ar1, fr1, st1, wt1, sm1, ld1, ln1, a1, a2, hR.out a3 a4⟩
    · have q3 : ¬ nI (T + N) ≤ (20000 : Int32) := nI_ge (a := 20000) (by omega) (by omega)
      rw [if_neg q3, if_neg q3]
      exact ⟨_, _, _, _, _, _, _, _, _, rfl, rfl, hR⟩
  · have h2' : ¬ x1.toInt ≤ 200 := fun q => h2 (l2.2.1.mpr q)
    rw [if_neg h0, if_neg h2, if_neg (show ¬ (1 ≤ x1.toInt ∧ x1.toInt ≤ 200) by omega), if_pos rfl]
    exact ⟨_, _, _, _, _, _, _, _, _, rfl, rfl, hR⟩
theorem sim_settle {nb : Nat} {kp : Nat → Option Nat} {sc ar : Nat → Nat → Int32} {fr : Nat → Nat → Nat} {st kpM ik : Nat → Int32} (hR : Rel nb kp sc ar fr st kpM ik) (x1 : Int32) (wt : Int32) (sm : Int64) (ld ln : Int32) : ∃ r sc' ar' fr' st' wt' sm' ld' ln', f_X5_settle nb x1 sc ar fr = some (r, sc', ar', fr') ∧ f_X6_settle x1 st wt sm ld ln = some (r, st', wt', sm', ld', ln') ∧ Rel nb kp sc' ar' fr' st' kpM ik := by
  have hnb := hR.1
  obtain ⟨T, hX⟩ := hR.2.1.toX
  have hT : T ≤ 20000 := hX.1.1
  rw [f_X5_settle, f_X6_settle, in_spec x1 (lo := 1) (hi := 400) 1 400 rfl rfl, bx_s]
  have l1 := s32 x1 1 1 rfl
  have l2 := s32 x1 400 400 rfl
  by_cases h0 : x1 < 1
  · have := l1.1.mp h0
    rw [if_pos h0, if_neg (show ¬ (1 ≤ x1.toInt ∧ x1.toInt ≤ 400) by omega), if_pos rfl]
    exact ⟨_, _, _, _, _, _, _, _, _, rfl, rfl, hR⟩
  have h0' : ¬ x1.toInt < 1 := fun q => h0 (l1.1.mpr q)
  by_cases h2 : x1 ≤ 400
  · have h2' := l2.2.1.mp h2
    rw [if_neg h0, if_pos h2, if_pos (show 1 ≤ x1.toInt ∧ x1.toInt ≤ 400 by omega), if_neg (show ¬ (1 : Int32) = 0 by decide), gd_t (p_lk hnb), show sc 0 3 = nI T from hX.1.2.2.1, rd_l 3 3 rfl (by decide), show st 3 = nI T from hX.1.2.1]
    have hneg : ¬ x1 < 0 := fun q => by have := (s32 x1 0 0 rfl).1.mp q; omega
    obtain ⟨N, hN, rfl⟩ := nI_of hneg
    rw [nI_toInt hN] at h2' h0'
    rw [nI_add]
    by_cases h3 : T + N ≤ 20000
    · have q3 : nI (T + N) ≤ (20000 : Int32) := nI_le (b := 20000) h3 (by decide)
      rw [if_pos q3, if_pos q3]
      obtain ⟨r, sc1, ar1, fr1, st1, wt1, sm1, ld1, ln1, a1, a2, a3, a4⟩ := settle_loop (N := N) hnb (by omega) N 0 FU FU T sc ar fr st wt sm ld ln (by omega) (by unfold FU; omega) (by unfold FU; omega) h3 hX
      exact ⟨r, sc1, ar1, fr1, st1, wt1, sm1, ld1, ln1, a1, a2, hR.out a3 a4⟩
    · have q3 : ¬ nI (T + N) ≤ (20000 : Int32) := nI_ge (a := 20000) (by omega) (by omega)
      rw [if_neg q3, if_neg q3]
      exact ⟨_, _, _, _, _, _, _, _, _, rfl, rfl, hR⟩
  · have h2' : ¬ x1.toInt ≤ 400 := fun q => h2 (l2.2.1.mpr q)
    rw [if_neg h0, if_neg h2, if_neg (show ¬ (1 ≤ x1.toInt ∧ x1.toInt ≤ 400) by omega), if_pos rfl]
    exact ⟨_, _, _, _, _, _, _, _, _, rfl, rfl, hR⟩
