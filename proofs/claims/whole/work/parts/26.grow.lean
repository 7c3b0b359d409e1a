/-! the pool grows by a link -/
def frIn (nb : Nat) (fr : Nat → Nat → Nat) : Prop := ∀ i j, i < 72 * nb → kd i = 10 → j < 12 → fr i j < 72 * nb
theorem kd_off : ∀ r, r < 72 → (kdL.getD r 99 = 0 → r + 7 < 72) ∧ (kdL.getD r 99 = 1 → r + 1 < 72) ∧ (kdL.getD r 99 = 2 → r + 71 < 72) ∧ (kdL.getD r 99 = 3 → r + 2 < 72) ∧ (kdL.getD r 99 = 4 → r + 1 < 72) ∧ (kdL.getD r 99 = 9 → r + 9 < 72) ∧ (kdL.getD r 99 = 12 → r + 27 < 72) := by decide
theorem pool_off {nb i K z : Nat} (hi : i < 72 * nb) (hz : i % 72 + z < 72) : i + z < 72 * nb := by omega
theorem cell_cong {G : GG} {ad ad' : Nat → Nat} {nb : Nat} {sc ar sc' ar' : Nat → Nat → Int32} {fr fr' : Nat → Nat → Nat} (hfr : frIn nb fr) (had : ∀ i, i < 72 * nb → ad' i = ad i) (hsc : ∀ i, i < 72 * nb → sc' i = sc i) (har : ∀ i, i < 72 * nb → ar' i = ar i) (hf' : ∀ i, i < 72 * nb → fr' i = fr i) {i : Nat} (hi : i < 72 * nb) : cell G ad' sc' ar' fr' i = cell G ad sc ar fr i := by
  have hm : i % 72 < 72 := Nat.mod_lt _ (by decide)
  obtain ⟨k0, k1, k2, k3, k4, k9, k12⟩ := kd_off (i % 72) hm
  unfold cell
  rw [hsc i hi, har i hi, hf' i hi]
  by_cases h0 : kd i = 0
  · have := k0 h0
    rw [if_pos h0, if_pos h0, had (i + 1) (by omega), had (i + 2) (by omega), had (i + 5) (by omega)]
  rw [if_neg h0, if_neg h0]
  by_cases h1 : kd i = 1
  · have := k1 h1
    rw [if_pos h1, if_pos h1, had (i + 1) (by omega)]
  rw [if_neg h1, if_neg h1]
  by_cases h2 : kd i = 2
  · have := k2 h2
    rw [if_pos h2, if_pos h2, had (i + 1) (by omega), had (i + 18) (by omega), had (i + 71) (by omega)]
  rw [if_neg h2, if_neg h2]
  by_cases h3 : kd i = 3
  · have := k3 h3
    rw [if_pos h3, if_pos h3, had (i + 1) (by omega), had (i + 2) (by omega)]
  rw [if_neg h3, if_neg h3]
  by_cases h4 : kd i = 4
  · have := k4 h4
    rw [if_pos h4, if_pos h4, had (i + 1) (by omega)]
  rw [if_neg h4, if_neg h4]
  by_cases h9 : kd i = 9
  · have := k9 h9
    rw [if_pos h9, if_pos h9]
    refine congrArg (fun f : Nat → Option Nat => (Sum.inl (G.2 2, 2, .inr (.inr (.inr (.inr f)))) : va_E)) (funext fun j => ?_)
    by_cases hj : j < 2
    · rw [if_pos hj, if_pos hj, had _ (by omega)]
    · rw [if_neg hj, if_neg hj]
  rw [if_neg h9, if_neg h9]
  by_cases h12 : kd i = 12
  · have := k12 h12
    rw [if_pos h12, if_pos h12]
    refine congrArg (fun f : Nat → Option Nat => (Sum.inl (G.2 5, 2, .inr (.inr (.inr (.inr f)))) : va_E)) (funext fun j => ?_)
    by_cases hj : j < 2
    · rw [if_pos hj, if_pos hj, had _ (by omega)]
    · rw [if_neg hj, if_neg hj]
  rw [if_neg h12, if_neg h12]
  by_cases h10 : kd i = 10
  · rw [if_pos h10, if_pos h10]
    refine congrArg (fun f : Nat → Option Nat => (Sum.inl (G.2 3, 12, .inr (.inr (.inr (.inr f)))) : va_E)) (funext fun j => ?_)
    by_cases hj : j < 12
    · rw [if_pos hj, if_pos hj, had _ (hfr i j hi h10 hj)]
    · rw [if_neg hj, if_neg hj]
  rw [if_neg h10, if_neg h10]
theorem pool_cong {G : GG} {ad ad' : Nat → Nat} {nb : Nat} {sc ar sc' ar' : Nat → Nat → Int32} {fr fr' : Nat → Nat → Nat} (hfr : frIn nb fr) (had : ∀ i, i < 72 * nb → ad' i = ad i) (hsc : ∀ i, i < 72 * nb → sc' i = sc i) (har : ∀ i, i < 72 * nb → ar' i = ar i) (hf' : ∀ i, i < 72 * nb → fr' i = fr i) : (List.range (72 * nb)).map (fun i => (ad' i, cell G ad' sc' ar' fr' i)) = (List.range (72 * nb)).map (fun i => (ad i, cell G ad sc ar fr i)) := by
  refine List.map_congr_left (fun i hi => ?_)
  have hi := List.mem_range.mp hi
  rw [had i hi, cell_cong hfr had hsc har hf' hi]
/-- the addresses, numbers and rows behind a new link's making -/
def adN (nb : Nat) (ad : Nat → Nat) (u : Nat → Nat) : Nat → Nat := fun i => if i < 72 * nb then ad i else u (i - 72 * nb)
def scN (nb : Nat) (sc : Nat → Nat → Int32) : Nat → Nat → Int32 := fun i => if i < 72 * nb then sc i else sc0 (i - 72 * nb)
def arN (nb : Nat) (ar : Nat → Nat → Int32) : Nat → Nat → Int32 := fun i => if i < 72 * nb then ar i else fun _ => 0
def frN (nb : Nat) (fr : Nat → Nat → Nat) : Nat → Nat → Nat := fun i => if i < 72 * nb then fr i else fun j => 72 * nb + fr0 (i - 72 * nb) j
theorem wC_grow {G : GG} {ad u : Nat → Nat} {q nb : Nat} {X : va_W} {sc ar : Nat → Nat → Int32} {fr : Nat → Nat → Nat} (hfr : frIn nb fr) : (wf_X2_init G (wC G ad nb X sc ar fr) q u).Perm (wC G (adN nb ad (fun t => if t = 0 then q else u t)) (nb + 1) X (scN nb sc) (arN nb ar) (frN nb fr)) := by
  generalize hu : (fun t => if t = 0 then q else u t) = u'
  have e := lk_all (G := G) (B := 72 * nb) (q := q) (u := u) (ad := adN nb ad u') (sc := scN nb sc) (ar := arN nb ar) (fr := frN nb fr) (wC G ad nb X sc ar fr) (by omega)
    (fun t ht => by unfold adN; rw [if_neg (by omega), Nat.add_sub_cancel_left, ← hu])
    (fun t k ht => by unfold scN; rw [if_neg (by omega), Nat.add_sub_cancel_left])
    (fun t ht => by unfold arN; rw [if_neg (by omega)])
    (fun t j ht => by unfold frN; rw [if_neg (by omega), Nat.add_sub_cancel_left])
  rw [e]
  have e2 : (List.range (72 * (nb + 1))).map (fun i => (adN nb ad u' i, cell G (adN nb ad u') (scN nb sc) (arN nb ar) (frN nb fr) i)) = (List.range (72 * nb)).map (fun i => (ad i, cell G ad sc ar fr i)) ++ (List.range 72).map (fun t => (adN nb ad u' (72 * nb + t), cell G (adN nb ad u') (scN nb sc) (arN nb ar) (frN nb fr) (72 * nb + t))) := by
    rw [Nat.mul_succ, List.range_add, List.map_append, List.map_map]
    rw [pool_cong (G := G) (nb := nb) hfr (fun i hi => by unfold adN; rw [if_pos hi]) (fun i hi => by unfold scN; rw [if_pos hi]) (fun i hi => by unfold arN; rw [if_pos hi]) (fun i hi => by unfold frN; rw [if_pos hi])]
    rfl
  unfold wC
  rw [e2, List.append_assoc, List.append_assoc]
  exact List.Perm.append_left _ List.perm_append_comm
section NULLS
variable {l : Launch} {G : GG} {A : Nat → Prop} {Γ : Cx} {cc : ByteArray} {own : String} {rm : Room} {nL k n pc : Nat} {ws : va_W} {lv : List (Nat × Value)} {rest : List Value}
theorem s_astore_nN (C : CX G A Γ cc own rm nL) {z : Fin 4} (lv' : List (Nat × Value)) (d : decode cc pc = .ok (.astore_n z, 1)) (hn : (z : Nat) < nL) (hl' : ((z : Nat), Value.null) :: lv.filter (fun q => !(q.1 == (z : Nat)) && !(q.1 + 1 == (z : Nat) && q.2.category == 2)) = lv') (K : St l G A Γ k n ws (pc + 1) lv' rest) : St l G A Γ k n ws pc lv (.null :: rest) := by
  obtain ⟨p, e, R, s, m, args, below, meth, c, nL, Q⟩ := Γ
  obtain ⟨hx, hb, hml, hown, hts, hK, hA, hN, rfl, rfl⟩ := C
  intro H locs ls hP hD hS hl
  exact lv_astore_nN hx hb d rfl hl hn hl' (fun ls' h => K H locs ls' hP hD hS h)
theorem s_aload_nN (C : CX G A Γ cc own rm nL) {z : Fin 4} (q : Nat) (d : decode cc pc = .ok (.aload_n z, 1)) (hq : lv[q]? = some ((z : Nat), .null)) (K : St l G A Γ k n ws (pc + 1) lv (.null :: rest)) : St l G A Γ k n ws pc lv rest := by
  obtain ⟨p, e, R, s, m, args, below, meth, c, nL, Q⟩ := Γ
  obtain ⟨hx, hb, hml, hown, hts, hK, hA, hN, rfl, rfl⟩ := C
  intro H locs ls hP hD hS hl
  exact lv_aload_nN hx hb d rfl (lv_at hl q hq) (K H locs ls hP hD hS hl)
theorem s_ifnonnullN (C : CX G A Γ cc own rm nL) {off : Int} (d : decode cc pc = .ok (.ifnonnull off, 3)) (K : St l G A Γ k n ws (pc + 3) lv rest) : St l G A Γ k n ws pc lv (.null :: rest) := by
  obtain ⟨p, e, R, s, m, args, below, meth, c, nL, Q⟩ := Γ
  obtain ⟨hx, hb, hml, hown, hts, hK, hA, hN, rfl, rfl⟩ := C
  intro H locs ls hP hD hS hl
  exact lv_ifnonnullN hx hb d (K H locs ls hP hD hS hl)
theorem s_ifnonnull (C : CX G A Γ cc own rm nL) {x : Nat} {off : Int} (tgt : Nat) (d : decode cc pc = .ok (.ifnonnull off, 3)) (ht : (pc : Int) + off = (tgt : Int)) (K : St l G A Γ k n ws tgt lv rest) : St l G A Γ k n ws pc lv (.ref x :: rest) := by
  obtain ⟨p, e, R, s, m, args, below, meth, c, nL, Q⟩ := Γ
  obtain ⟨hx, hb, hml, hown, hts, hK, hA, hN, rfl, rfl⟩ := C
  intro H locs ls hP hD hS hl
  exact lv_ifnonnull hx hb d ht (K H locs ls hP hD hS hl)
theorem s_ifnullN (C : CX G A Γ cc own rm nL) {off : Int} (tgt : Nat) (d : decode cc pc = .ok (.ifnull off, 3)) (ht : (pc : Int) + off = (tgt : Int)) (K : St l G A Γ k n ws tgt lv rest) : St l G A Γ k n ws pc lv (.null :: rest) := by
  obtain ⟨p, e, R, s, m, args, below, meth, c, nL, Q⟩ := Γ
  obtain ⟨hx, hb, hml, hown, hts, hK, hA, hN, rfl, rfl⟩ := C
  intro H locs ls hP hD hS hl
  exact lv_ifnullN hx hb d ht (K H locs ls hP hD hS hl)
theorem s_ifnull (C : CX G A Γ cc own rm nL) {x : Nat} {off : Int} (d : decode cc pc = .ok (.ifnull off, 3)) (K : St l G A Γ k n ws (pc + 3) lv rest) : St l G A Γ k n ws pc lv (.ref x :: rest) := by
  obtain ⟨p, e, R, s, m, args, below, meth, c, nL, Q⟩ := Γ
  obtain ⟨hx, hb, hml, hown, hts, hK, hA, hN, rfl, rfl⟩ := C
  intro H locs ls hP hD hS hl
  exact lv_ifnull hx hb d (K H locs ls hP hD hS hl)
theorem St.widen {k' n' : Nat} (h1 : k ≤ k') (h2 : n ≤ n') (K : St l G A Γ k' n' ws pc lv rest) : St l G A Γ k n ws pc lv rest := by
  obtain ⟨p, e, R, s, m, args, below, meth, c, nL, Q⟩ := Γ
  intro H locs ls hP hD hS hl
  exact W.widen h1 h2 (K H locs ls hP hD hS hl)
theorem s_aaldq (C : CX G A Γ cc own rm nL) (t : Nat) {Cn : String} (ht : (tyG G)[t]? = some (G.2 t, .object Cn)) (q : Nat) {a N : Nat} {f : Nat → Option Nat} {i : Int32} (he : ws[q]? = some (a, .inl (G.2 t, N, .inr (.inr (.inr (.inr f)))))) (hi : inb i N = true) (d : decode cc pc = .ok (.aaload, 1)) {v : Value} (hv : va_rf (f i.toNatClampNeg) = v) (K : St l G A Γ k n ws (pc + 1) lv (v :: rest)) : St l G A Γ k n ws pc lv (.int i :: .ref a :: rest) := by
  obtain ⟨p, e, R, s, m, args, below, meth, c, nL, Q⟩ := Γ
  obtain ⟨hx, hb, hml, hown, hts, hK, hA, hN, rfl, rfl⟩ := C
  intro H locs ls hP hD hS hl
  subst hv
  exact va_aldq hx hb hK hP q t he ht (inb_in hi) d (K H locs ls hP hD hS hl)
end NULLS
