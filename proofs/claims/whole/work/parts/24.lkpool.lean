def sc0 (t k : Nat) : Int32 := if (t = 2 ∨ t = 10) ∧ k = 13 then -4 else if t = 0 ∧ k = 5 then 1 else if t = 0 ∧ k = 6 then 12 else if t = 0 ∧ k = 7 then 2 else 0
def fr0 (t j : Nat) : Nat := t + 1 + 2 * j
theorem kd_B {B t : Nat} (hB : B % 72 = 0) (ht : t < 72) : kd (B + t) = kdL.getD t 99 := by
  unfold kd
  rw [show (B + t) % 72 = t by omega]
theorem ln_B {B t : Nat} (hB : B % 72 = 0) (ht : t < 72) : lnA (B + t) = lnL.getD t 0 := by
  unfold lnA
  rw [show (B + t) % 72 = t by omega]
section LKP
variable {G : GG} {B q : Nat} {u ad : Nat → Nat} {sc ar : Nat → Nat → Int32} {fr : Nat → Nat → Nat}
theorem lk_0 (hB : B % 72 = 0) (had : ∀ t, t < 72 → ad (B + t) = if t = 0 then q else u t) (hsc : ∀ t k, t < 72 → sc (B + t) k = sc0 t k) (har : ∀ t, t < 72 → ar (B + t) = fun _ => 0) (hfr : ∀ t j, t < 72 → fr (B + t) j = B + fr0 t j) : cell G ad sc ar fr (B + 0) = .inr (2, [.ref (u 1), .ref (u 18), .ref (u 71), .int 0, .int 0, .int 1, .int 12, .int 2]) := by
  rw [cell_2 (kd_B hB (by decide))]
  have h0 : ∀ k, sc B k = sc0 0 k := fun k => hsc 0 k (by decide)
  simp [Nat.add_assoc, had, hsc, sc0, h0]
theorem lk_1 (hB : B % 72 = 0) (had : ∀ t, t < 72 → ad (B + t) = if t = 0 then q else u t) (hsc : ∀ t k, t < 72 → sc (B + t) k = sc0 t k) (har : ∀ t, t < 72 → ar (B + t) = fun _ => 0) (hfr : ∀ t j, t < 72 → fr (B + t) j = B + fr0 t j) : cell G ad sc ar fr (B + 1) = .inl (G.2 2, 2, .inr (.inr (.inr (.inr (va_up (va_up (fun _ => none) 0 (some (u 2))) 1 (some (u 10))))))) := by
  rw [cell_9 (kd_B hB (by decide))]
  refine congrArg (fun f : Nat → Option Nat => (Sum.inl (G.2 2, 2, .inr (.inr (.inr (.inr f)))) : va_E)) (funext fun j => ?_)
  rcases (show j = 0 ∨ j = 1 ∨ 2 ≤ j by omega) with rfl | rfl | h
  · simp [va_up, Nat.add_assoc, had]
  · simp [va_up, Nat.add_assoc, had]
  · simp [va_up, show ¬ j < 2 by omega, show j ≠ 0 by omega, show j ≠ 1 by omega]
theorem lk_2 (hB : B % 72 = 0) (had : ∀ t, t < 72 → ad (B + t) = if t = 0 then q else u t) (hsc : ∀ t k, t < 72 → sc (B + t) k = sc0 t k) (har : ∀ t, t < 72 → ar (B + t) = fun _ => 0) (hfr : ∀ t j, t < 72 → fr (B + t) j = B + fr0 t j) : cell G ad sc ar fr (B + 2) = .inr (0, [.ref (u 3), .int 0, .ref (u 4), .int 0, .int 0, .int 0, .int 0, .int 0, .int 0, .int 0, .int 0, .int 0, .int 0, .int (-4), .ref (u 7), .int 0]) := by
  rw [cell_0 (kd_B hB (by decide))]
  simp [Nat.add_assoc, had, hsc, sc0]
theorem lk_3 (hB : B % 72 = 0) (had : ∀ t, t < 72 → ad (B + t) = if t = 0 then q else u t) (hsc : ∀ t k, t < 72 → sc (B + t) k = sc0 t k) (har : ∀ t, t < 72 → ar (B + t) = fun _ => 0) (hfr : ∀ t j, t < 72 → fr (B + t) j = B + fr0 t j) : cell G ad sc ar fr (B + 3) = .inl (G.2 0, 24, .inl (fun _ => 0)) := by
  rw [cell_7 (kd_B hB (by decide)), ln_B hB (by decide), har _ (by decide)]
  rfl
theorem lk_4 (hB : B % 72 = 0) (had : ∀ t, t < 72 → ad (B + t) = if t = 0 then q else u t) (hsc : ∀ t k, t < 72 → sc (B + t) k = sc0 t k) (har : ∀ t, t < 72 → ar (B + t) = fun _ => 0) (hfr : ∀ t j, t < 72 → fr (B + t) j = B + fr0 t j) : cell G ad sc ar fr (B + 4) = .inr (3, [.ref (u 5), .ref (u 6)]) := by
  rw [cell_3 (kd_B hB (by decide))]
  simp [Nat.add_assoc, had, hsc, sc0]
theorem lk_5 (hB : B % 72 = 0) (had : ∀ t, t < 72 → ad (B + t) = if t = 0 then q else u t) (hsc : ∀ t k, t < 72 → sc (B + t) k = sc0 t k) (har : ∀ t, t < 72 → ar (B + t) = fun _ => 0) (hfr : ∀ t j, t < 72 → fr (B + t) j = B + fr0 t j) : cell G ad sc ar fr (B + 5) = .inl (G.2 0, 24, .inl (fun _ => 0)) := by
  rw [cell_7 (kd_B hB (by decide)), ln_B hB (by decide), har _ (by decide)]
  rfl
theorem lk_6 (hB : B % 72 = 0) (had : ∀ t, t < 72 → ad (B + t) = if t = 0 then q else u t) (hsc : ∀ t k, t < 72 → sc (B + t) k = sc0 t k) (har : ∀ t, t < 72 → ar (B + t) = fun _ => 0) (hfr : ∀ t j, t < 72 → fr (B + t) j = B + fr0 t j) : cell G ad sc ar fr (B + 6) = .inl (G.2 0, 576, .inl (fun _ => 0)) := by
  rw [cell_7 (kd_B hB (by decide)), ln_B hB (by decide), har _ (by decide)]
  rfl
theorem lk_7 (hB : B % 72 = 0) (had : ∀ t, t < 72 → ad (B + t) = if t = 0 then q else u t) (hsc : ∀ t k, t < 72 → sc (B + t) k = sc0 t k) (har : ∀ t, t < 72 → ar (B + t) = fun _ => 0) (hfr : ∀ t j, t < 72 → fr (B + t) j = B + fr0 t j) : cell G ad sc ar fr (B + 7) = .inr (3, [.ref (u 8), .ref (u 9)]) := by
  rw [cell_3 (kd_B hB (by decide))]
  simp [Nat.add_assoc, had, hsc, sc0]
theorem lk_8 (hB : B % 72 = 0) (had : ∀ t, t < 72 → ad (B + t) = if t = 0 then q else u t) (hsc : ∀ t k, t < 72 → sc (B + t) k = sc0 t k) (har : ∀ t, t < 72 → ar (B + t) = fun _ => 0) (hfr : ∀ t j, t < 72 → fr (B + t) j = B + fr0 t j) : cell G ad sc ar fr (B + 8) = .inl (G.2 0, 60, .inl (fun _ => 0)) := by
  rw [cell_7 (kd_B hB (by decide)), ln_B hB (by decide), har _ (by decide)]
  rfl
theorem lk_9 (hB : B % 72 = 0) (had : ∀ t, t < 72 → ad (B + t) = if t = 0 then q else u t) (hsc : ∀ t k, t < 72 → sc (B + t) k = sc0 t k) (har : ∀ t, t < 72 → ar (B + t) = fun _ => 0) (hfr : ∀ t j, t < 72 → fr (B + t) j = B + fr0 t j) : cell G ad sc ar fr (B + 9) = .inl (G.2 0, 1440, .inl (fun _ => 0)) := by
  rw [cell_7 (kd_B hB (by decide)), ln_B hB (by decide), har _ (by decide)]
  rfl
theorem lk_10 (hB : B % 72 = 0) (had : ∀ t, t < 72 → ad (B + t) = if t = 0 then q else u t) (hsc : ∀ t k, t < 72 → sc (B + t) k = sc0 t k) (har : ∀ t, t < 72 → ar (B + t) = fun _ => 0) (hfr : ∀ t j, t < 72 → fr (B + t) j = B + fr0 t j) : cell G ad sc ar fr (B + 10) = .inr (0, [.ref (u 11), .int 0, .ref (u 12), .int 0, .int 0, .int 0, .int 0, .int 0, .int 0, .int 0, .int 0, .int 0, .int 0, .int (-4), .ref (u 15), .int 0]) := by
  rw [cell_0 (kd_B hB (by decide))]
  simp [Nat.add_assoc, had, hsc, sc0]
theorem lk_11 (hB : B % 72 = 0) (had : ∀ t, t < 72 → ad (B + t) = if t = 0 then q else u t) (hsc : ∀ t k, t < 72 → sc (B + t) k = sc0 t k) (har : ∀ t, t < 72 → ar (B + t) = fun _ => 0) (hfr : ∀ t j, t < 72 → fr (B + t) j = B + fr0 t j) : cell G ad sc ar fr (B + 11) = .inl (G.2 0, 24, .inl (fun _ => 0)) := by
  rw [cell_7 (kd_B hB (by decide)), ln_B hB (by decide), har _ (by decide)]
  rfl
theorem lk_12 (hB : B % 72 = 0) (had : ∀ t, t < 72 → ad (B + t) = if t = 0 then q else u t) (hsc : ∀ t k, t < 72 → sc (B + t) k = sc0 t k) (har : ∀ t, t < 72 → ar (B + t) = fun _ => 0) (hfr : ∀ t j, t < 72 → fr (B + t) j = B + fr0 t j) : cell G ad sc ar fr (B + 12) = .inr (3, [.ref (u 13), .ref (u 14)]) := by
  rw [cell_3 (kd_B hB (by decide))]
  simp [Nat.add_assoc, had, hsc, sc0]
theorem lk_13 (hB : B % 72 = 0) (had : ∀ t, t < 72 → ad (B + t) = if t = 0 then q else u t) (hsc : ∀ t k, t < 72 → sc (B + t) k = sc0 t k) (har : ∀ t, t < 72 → ar (B + t) = fun _ => 0) (hfr : ∀ t j, t < 72 → fr (B + t) j = B + fr0 t j) : cell G ad sc ar fr (B + 13) = .inl (G.2 0, 24, .inl (fun _ => 0)) := by
  rw [cell_7 (kd_B hB (by decide)), ln_B hB (by decide), har _ (by decide)]
  rfl
theorem lk_14 (hB : B % 72 = 0) (had : ∀ t, t < 72 → ad (B + t) = if t = 0 then q else u t) (hsc : ∀ t k, t < 72 → sc (B + t) k = sc0 t k) (har : ∀ t, t < 72 → ar (B + t) = fun _ => 0) (hfr : ∀ t j, t < 72 → fr (B + t) j = B + fr0 t j) : cell G ad sc ar fr (B + 14) = .inl (G.2 0, 576, .inl (fun _ => 0)) := by
  rw [cell_7 (kd_B hB (by decide)), ln_B hB (by decide), har _ (by decide)]
  rfl
theorem lk_15 (hB : B % 72 = 0) (had : ∀ t, t < 72 → ad (B + t) = if t = 0 then q else u t) (hsc : ∀ t k, t < 72 → sc (B + t) k = sc0 t k) (har : ∀ t, t < 72 → ar (B + t) = fun _ => 0) (hfr : ∀ t j, t < 72 → fr (B + t) j = B + fr0 t j) : cell G ad sc ar fr (B + 15) = .inr (3, [.ref (u 16), .ref (u 17)]) := by
  rw [cell_3 (kd_B hB (by decide))]
  simp [Nat.add_assoc, had, hsc, sc0]
theorem lk_16 (hB : B % 72 = 0) (had : ∀ t, t < 72 → ad (B + t) = if t = 0 then q else u t) (hsc : ∀ t k, t < 72 → sc (B + t) k = sc0 t k) (har : ∀ t, t < 72 → ar (B + t) = fun _ => 0) (hfr : ∀ t j, t < 72 → fr (B + t) j = B + fr0 t j) : cell G ad sc ar fr (B + 16) = .inl (G.2 0, 60, .inl (fun _ => 0)) := by
  rw [cell_7 (kd_B hB (by decide)), ln_B hB (by decide), har _ (by decide)]
  rfl
theorem lk_17 (hB : B % 72 = 0) (had : ∀ t, t < 72 → ad (B + t) = if t = 0 then q else u t) (hsc : ∀ t k, t < 72 → sc (B + t) k = sc0 t k) (har : ∀ t, t < 72 → ar (B + t) = fun _ => 0) (hfr : ∀ t j, t < 72 → fr (B + t) j = B + fr0 t j) : cell G ad sc ar fr (B + 17) = .inl (G.2 0, 1440, .inl (fun _ => 0)) := by
  rw [cell_7 (kd_B hB (by decide)), ln_B hB (by decide), har _ (by decide)]
  rfl
theorem lk_18 (hB : B % 72 = 0) (had : ∀ t, t < 72 → ad (B + t) = if t = 0 then q else u t) (hsc : ∀ t k, t < 72 → sc (B + t) k = sc0 t k) (har : ∀ t, t < 72 → ar (B + t) = fun _ => 0) (hfr : ∀ t j, t < 72 → fr (B + t) j = B + fr0 t j) : cell G ad sc ar fr (B + 18) = .inl (G.2 5, 2, .inr (.inr (.inr (.inr (va_up (va_up (fun _ => none) 0 (some (u 19))) 1 (some (u 45))))))) := by
  rw [cell_12 (kd_B hB (by decide))]
  refine congrArg (fun f : Nat → Option Nat => (Sum.inl (G.2 5, 2, .inr (.inr (.inr (.inr f)))) : va_E)) (funext fun j => ?_)
  rcases (show j = 0 ∨ j = 1 ∨ 2 ≤ j by omega) with rfl | rfl | h
  · simp [va_up, Nat.add_assoc, had]
  · simp [va_up, Nat.add_assoc, had]
  · simp [va_up, show ¬ j < 2 by omega, show j ≠ 0 by omega, show j ≠ 1 by omega]
theorem lk_19 (hB : B % 72 = 0) (had : ∀ t, t < 72 → ad (B + t) = if t = 0 then q else u t) (hsc : ∀ t k, t < 72 → sc (B + t) k = sc0 t k) (har : ∀ t, t < 72 → ar (B + t) = fun _ => 0) (hfr : ∀ t j, t < 72 → fr (B + t) j = B + fr0 t j) : cell G ad sc ar fr (B + 19) = .inr (4, [.ref (u 20), .int 0]) := by
  rw [cell_4 (kd_B hB (by decide))]
  simp [Nat.add_assoc, had, hsc, sc0]
theorem lk_20 (hB : B % 72 = 0) (had : ∀ t, t < 72 → ad (B + t) = if t = 0 then q else u t) (hsc : ∀ t k, t < 72 → sc (B + t) k = sc0 t k) (har : ∀ t, t < 72 → ar (B + t) = fun _ => 0) (hfr : ∀ t j, t < 72 → fr (B + t) j = B + fr0 t j) : cell G ad sc ar fr (B + 20) = .inl (G.2 3, 12, .inr (.inr (.inr (.inr (va_up (va_up (va_up (va_up (va_up (va_up (va_up (va_up (va_up (va_up (va_up (va_up (fun _ => none) 0 (some (u 21))) 1 (some (u 23))) 2 (some (u 25))) 3 (some (u 27))) 4 (some (u 29))) 5 (some (u 31))) 6 (some (u 33))) 7 (some (u 35))) 8 (some (u 37))) 9 (some (u 39))) 10 (some (u 41))) 11 (some (u 43))))))) := by
  rw [cell_10 (kd_B hB (by decide))]
  refine congrArg (fun f : Nat → Option Nat => (Sum.inl (G.2 3, 12, .inr (.inr (.inr (.inr f)))) : va_E)) (funext fun j => ?_)
  rcases (show j = 0 ∨ j = 1 ∨ j = 2 ∨ j = 3 ∨ j = 4 ∨ j = 5 ∨ j = 6 ∨ j = 7 ∨ j = 8 ∨ j = 9 ∨ j = 10 ∨ j = 11 ∨ 12 ≤ j by omega) with rfl | rfl | rfl | rfl | rfl | rfl | rfl | rfl | rfl | rfl | rfl | rfl | h
  · simp [va_up, Nat.add_assoc, had, hfr, fr0]
  · simp [va_up, Nat.add_assoc, had, hfr, fr0]
  · simp [va_up, Nat.add_assoc, had, hfr, fr0]
  · simp [va_up, Nat.add_assoc, had, hfr, fr0]
  · simp [va_up, Nat.add_assoc, had, hfr, fr0]
  · simp [va_up, Nat.add_assoc, had, hfr, fr0]
  · simp [va_up, Nat.add_assoc, had, hfr, fr0]
  · simp [va_up, Nat.add_assoc, had, hfr, fr0]
  · simp [va_up, Nat.add_assoc, had, hfr, fr0]
  · simp [va_up, Nat.add_assoc, had, hfr, fr0]
  · simp [va_up, Nat.add_assoc, had, hfr, fr0]
  · simp [va_up, Nat.add_assoc, had, hfr, fr0]
  · simp [va_up, show ¬ j < 12 by omega, show j ≠ 0 by omega, show j ≠ 1 by omega, show j ≠ 2 by omega, show j ≠ 3 by omega, show j ≠ 4 by omega, show j ≠ 5 by omega, show j ≠ 6 by omega, show j ≠ 7 by omega, show j ≠ 8 by omega, show j ≠ 9 by omega, show j ≠ 10 by omega, show j ≠ 11 by omega]
theorem lk_21 (hB : B % 72 = 0) (had : ∀ t, t < 72 → ad (B + t) = if t = 0 then q else u t) (hsc : ∀ t k, t < 72 → sc (B + t) k = sc0 t k) (har : ∀ t, t < 72 → ar (B + t) = fun _ => 0) (hfr : ∀ t j, t < 72 → fr (B + t) j = B + fr0 t j) : cell G ad sc ar fr (B + 21) = .inr (1, [.ref (u 22), .int 0, .int 0]) := by
  rw [cell_1 (kd_B hB (by decide))]
  simp [Nat.add_assoc, had, hsc, sc0]
theorem lk_22 (hB : B % 72 = 0) (had : ∀ t, t < 72 → ad (B + t) = if t = 0 then q else u t) (hsc : ∀ t k, t < 72 → sc (B + t) k = sc0 t k) (har : ∀ t, t < 72 → ar (B + t) = fun _ => 0) (hfr : ∀ t j, t < 72 → fr (B + t) j = B + fr0 t j) : cell G ad sc ar fr (B + 22) = .inl (G.2 0, 32, .inl (fun _ => 0)) := by
  rw [cell_7 (kd_B hB (by decide)), ln_B hB (by decide), har _ (by decide)]
  rfl
theorem lk_23 (hB : B % 72 = 0) (had : ∀ t, t < 72 → ad (B + t) = if t = 0 then q else u t) (hsc : ∀ t k, t < 72 → sc (B + t) k = sc0 t k) (har : ∀ t, t < 72 → ar (B + t) = fun _ => 0) (hfr : ∀ t j, t < 72 → fr (B + t) j = B + fr0 t j) : cell G ad sc ar fr (B + 23) = .inr (1, [.ref (u 24), .int 0, .int 0]) := by
  rw [cell_1 (kd_B hB (by decide))]
  simp [Nat.add_assoc, had, hsc, sc0]
theorem lk_24 (hB : B % 72 = 0) (had : ∀ t, t < 72 → ad (B + t) = if t = 0 then q else u t) (hsc : ∀ t k, t < 72 → sc (B + t) k = sc0 t k) (har : ∀ t, t < 72 → ar (B + t) = fun _ => 0) (hfr : ∀ t j, t < 72 → fr (B + t) j = B + fr0 t j) : cell G ad sc ar fr (B + 24) = .inl (G.2 0, 32, .inl (fun _ => 0)) := by
  rw [cell_7 (kd_B hB (by decide)), ln_B hB (by decide), har _ (by decide)]
  rfl
theorem lk_25 (hB : B % 72 = 0) (had : ∀ t, t < 72 → ad (B + t) = if t = 0 then q else u t) (hsc : ∀ t k, t < 72 → sc (B + t) k = sc0 t k) (har : ∀ t, t < 72 → ar (B + t) = fun _ => 0) (hfr : ∀ t j, t < 72 → fr (B + t) j = B + fr0 t j) : cell G ad sc ar fr (B + 25) = .inr (1, [.ref (u 26), .int 0, .int 0]) := by
  rw [cell_1 (kd_B hB (by decide))]
  simp [Nat.add_assoc, had, hsc, sc0]
theorem lk_26 (hB : B % 72 = 0) (had : ∀ t, t < 72 → ad (B + t) = if t = 0 then q else u t) (hsc : ∀ t k, t < 72 → sc (B + t) k = sc0 t k) (har : ∀ t, t < 72 → ar (B + t) = fun _ => 0) (hfr : ∀ t j, t < 72 → fr (B + t) j = B + fr0 t j) : cell G ad sc ar fr (B + 26) = .inl (G.2 0, 32, .inl (fun _ => 0)) := by
  rw [cell_7 (kd_B hB (by decide)), ln_B hB (by decide), har _ (by decide)]
  rfl
theorem lk_27 (hB : B % 72 = 0) (had : ∀ t, t < 72 → ad (B + t) = if t = 0 then q else u t) (hsc : ∀ t k, t < 72 → sc (B + t) k = sc0 t k) (har : ∀ t, t < 72 → ar (B + t) = fun _ => 0) (hfr : ∀ t j, t < 72 → fr (B + t) j = B + fr0 t j) : cell G ad sc ar fr (B + 27) = .inr (1, [.ref (u 28), .int 0, .int 0]) := by
  rw [cell_1 (kd_B hB (by decide))]
  simp [Nat.add_assoc, had, hsc, sc0]
theorem lk_28 (hB : B % 72 = 0) (had : ∀ t, t < 72 → ad (B + t) = if t = 0 then q else u t) (hsc : ∀ t k, t < 72 → sc (B + t) k = sc0 t k) (har : ∀ t, t < 72 → ar (B + t) = fun _ => 0) (hfr : ∀ t j, t < 72 → fr (B + t) j = B + fr0 t j) : cell G ad sc ar fr (B + 28) = .inl (G.2 0, 32, .inl (fun _ => 0)) := by
  rw [cell_7 (kd_B hB (by decide)), ln_B hB (by decide), har _ (by decide)]
  rfl
theorem lk_29 (hB : B % 72 = 0) (had : ∀ t, t < 72 → ad (B + t) = if t = 0 then q else u t) (hsc : ∀ t k, t < 72 → sc (B + t) k = sc0 t k) (har : ∀ t, t < 72 → ar (B + t) = fun _ => 0) (hfr : ∀ t j, t < 72 → fr (B + t) j = B + fr0 t j) : cell G ad sc ar fr (B + 29) = .inr (1, [.ref (u 30), .int 0, .int 0]) := by
  rw [cell_1 (kd_B hB (by decide))]
  simp [Nat.add_assoc, had, hsc, sc0]
theorem lk_30 (hB : B % 72 = 0) (had : ∀ t, t < 72 → ad (B + t) = if t = 0 then q else u t) (hsc : ∀ t k, t < 72 → sc (B + t) k = sc0 t k) (har : ∀ t, t < 72 → ar (B + t) = fun _ => 0) (hfr : ∀ t j, t < 72 → fr (B + t) j = B + fr0 t j) : cell G ad sc ar fr (B + 30) = .inl (G.2 0, 32, .inl (fun _ => 0)) := by
  rw [cell_7 (kd_B hB (by decide)), ln_B hB (by decide), har _ (by decide)]
  rfl
theorem lk_31 (hB : B % 72 = 0) (had : ∀ t, t < 72 → ad (B + t) = if t = 0 then q else u t) (hsc : ∀ t k, t < 72 → sc (B + t) k = sc0 t k) (har : ∀ t, t < 72 → ar (B + t) = fun _ => 0) (hfr : ∀ t j, t < 72 → fr (B + t) j = B + fr0 t j) : cell G ad sc ar fr (B + 31) = .inr (1, [.ref (u 32), .int 0, .int 0]) := by
  rw [cell_1 (kd_B hB (by decide))]
  simp [Nat.add_assoc, had, hsc, sc0]
theorem lk_32 (hB : B % 72 = 0) (had : ∀ t, t < 72 → ad (B + t) = if t = 0 then q else u t) (hsc : ∀ t k, t < 72 → sc (B + t) k = sc0 t k) (har : ∀ t, t < 72 → ar (B + t) = fun _ => 0) (hfr : ∀ t j, t < 72 → fr (B + t) j = B + fr0 t j) : cell G ad sc ar fr (B + 32) = .inl (G.2 0, 32, .inl (fun _ => 0)) := by
  rw [cell_7 (kd_B hB (by decide)), ln_B hB (by decide), har _ (by decide)]
  rfl
theorem lk_33 (hB : B % 72 = 0) (had : ∀ t, t < 72 → ad (B + t) = if t = 0 then q else u t) (hsc : ∀ t k, t < 72 → sc (B + t) k = sc0 t k) (har : ∀ t, t < 72 → ar (B + t) = fun _ => 0) (hfr : ∀ t j, t < 72 → fr (B + t) j = B + fr0 t j) : cell G ad sc ar fr (B + 33) = .inr (1, [.ref (u 34), .int 0, .int 0]) := by
  rw [cell_1 (kd_B hB (by decide))]
  simp [Nat.add_assoc, had, hsc, sc0]
theorem lk_34 (hB : B % 72 = 0) (had : ∀ t, t < 72 → ad (B + t) = if t = 0 then q else u t) (hsc : ∀ t k, t < 72 → sc (B + t) k = sc0 t k) (har : ∀ t, t < 72 → ar (B + t) = fun _ => 0) (hfr : ∀ t j, t < 72 → fr (B + t) j = B + fr0 t j) : cell G ad sc ar fr (B + 34) = .inl (G.2 0, 32, .inl (fun _ => 0)) := by
  rw [cell_7 (kd_B hB (by decide)), ln_B hB (by decide), har _ (by decide)]
  rfl
theorem lk_35 (hB : B % 72 = 0) (had : ∀ t, t < 72 → ad (B + t) = if t = 0 then q else u t) (hsc : ∀ t k, t < 72 → sc (B + t) k = sc0 t k) (har : ∀ t, t < 72 → ar (B + t) = fun _ => 0) (hfr : ∀ t j, t < 72 → fr (B + t) j = B + fr0 t j) : cell G ad sc ar fr (B + 35) = .inr (1, [.ref (u 36), .int 0, .int 0]) := by
  rw [cell_1 (kd_B hB (by decide))]
  simp [Nat.add_assoc, had, hsc, sc0]
theorem lk_36 (hB : B % 72 = 0) (had : ∀ t, t < 72 → ad (B + t) = if t = 0 then q else u t) (hsc : ∀ t k, t < 72 → sc (B + t) k = sc0 t k) (har : ∀ t, t < 72 → ar (B + t) = fun _ => 0) (hfr : ∀ t j, t < 72 → fr (B + t) j = B + fr0 t j) : cell G ad sc ar fr (B + 36) = .inl (G.2 0, 32, .inl (fun _ => 0)) := by
  rw [cell_7 (kd_B hB (by decide)), ln_B hB (by decide), har _ (by decide)]
  rfl
theorem lk_37 (hB : B % 72 = 0) (had : ∀ t, t < 72 → ad (B + t) = if t = 0 then q else u t) (hsc : ∀ t k, t < 72 → sc (B + t) k = sc0 t k) (har : ∀ t, t < 72 → ar (B + t) = fun _ => 0) (hfr : ∀ t j, t < 72 → fr (B + t) j = B + fr0 t j) : cell G ad sc ar fr (B + 37) = .inr (1, [.ref (u 38), .int 0, .int 0]) := by
  rw [cell_1 (kd_B hB (by decide))]
  simp [Nat.add_assoc, had, hsc, sc0]
theorem lk_38 (hB : B % 72 = 0) (had : ∀ t, t < 72 → ad (B + t) = if t = 0 then q else u t) (hsc : ∀ t k, t < 72 → sc (B + t) k = sc0 t k) (har : ∀ t, t < 72 → ar (B + t) = fun _ => 0) (hfr : ∀ t j, t < 72 → fr (B + t) j = B + fr0 t j) : cell G ad sc ar fr (B + 38) = .inl (G.2 0, 32, .inl (fun _ => 0)) := by
  rw [cell_7 (kd_B hB (by decide)), ln_B hB (by decide), har _ (by decide)]
  rfl
theorem lk_39 (hB : B % 72 = 0) (had : ∀ t, t < 72 → ad (B + t) = if t = 0 then q else u t) (hsc : ∀ t k, t < 72 → sc (B + t) k = sc0 t k) (har : ∀ t, t < 72 → ar (B + t) = fun _ => 0) (hfr : ∀ t j, t < 72 → fr (B + t) j = B + fr0 t j) : cell G ad sc ar fr (B + 39) = .inr (1, [.ref (u 40), .int 0, .int 0]) := by
  rw [cell_1 (kd_B hB (by decide))]
  simp [Nat.add_assoc, had, hsc, sc0]
theorem lk_40 (hB : B % 72 = 0) (had : ∀ t, t < 72 → ad (B + t) = if t = 0 then q else u t) (hsc : ∀ t k, t < 72 → sc (B + t) k = sc0 t k) (har : ∀ t, t < 72 → ar (B + t) = fun _ => 0) (hfr : ∀ t j, t < 72 → fr (B + t) j = B + fr0 t j) : cell G ad sc ar fr (B + 40) = .inl (G.2 0, 32, .inl (fun _ => 0)) := by
  rw [cell_7 (kd_B hB (by decide)), ln_B hB (by decide), har _ (by decide)]
  rfl
theorem lk_41 (hB : B % 72 = 0) (had : ∀ t, t < 72 → ad (B + t) = if t = 0 then q else u t) (hsc : ∀ t k, t < 72 → sc (B + t) k = sc0 t k) (har : ∀ t, t < 72 → ar (B + t) = fun _ => 0) (hfr : ∀ t j, t < 72 → fr (B + t) j = B + fr0 t j) : cell G ad sc ar fr (B + 41) = .inr (1, [.ref (u 42), .int 0, .int 0]) := by
  rw [cell_1 (kd_B hB (by decide))]
  simp [Nat.add_assoc, had, hsc, sc0]
theorem lk_42 (hB : B % 72 = 0) (had : ∀ t, t < 72 → ad (B + t) = if t = 0 then q else u t) (hsc : ∀ t k, t < 72 → sc (B + t) k = sc0 t k) (har : ∀ t, t < 72 → ar (B + t) = fun _ => 0) (hfr : ∀ t j, t < 72 → fr (B + t) j = B + fr0 t j) : cell G ad sc ar fr (B + 42) = .inl (G.2 0, 32, .inl (fun _ => 0)) := by
  rw [cell_7 (kd_B hB (by decide)), ln_B hB (by decide), har _ (by decide)]
  rfl
theorem lk_43 (hB : B % 72 = 0) (had : ∀ t, t < 72 → ad (B + t) = if t = 0 then q else u t) (hsc : ∀ t k, t < 72 → sc (B + t) k = sc0 t k) (har : ∀ t, t < 72 → ar (B + t) = fun _ => 0) (hfr : ∀ t j, t < 72 → fr (B + t) j = B + fr0 t j) : cell G ad sc ar fr (B + 43) = .inr (1, [.ref (u 44), .int 0, .int 0]) := by
  rw [cell_1 (kd_B hB (by decide))]
  simp [Nat.add_assoc, had, hsc, sc0]
theorem lk_44 (hB : B % 72 = 0) (had : ∀ t, t < 72 → ad (B + t) = if t = 0 then q else u t) (hsc : ∀ t k, t < 72 → sc (B + t) k = sc0 t k) (har : ∀ t, t < 72 → ar (B + t) = fun _ => 0) (hfr : ∀ t j, t < 72 → fr (B + t) j = B + fr0 t j) : cell G ad sc ar fr (B + 44) = .inl (G.2 0, 32, .inl (fun _ => 0)) := by
  rw [cell_7 (kd_B hB (by decide)), ln_B hB (by decide), har _ (by decide)]
  rfl
theorem lk_45 (hB : B % 72 = 0) (had : ∀ t, t < 72 → ad (B + t) = if t = 0 then q else u t) (hsc : ∀ t k, t < 72 → sc (B + t) k = sc0 t k) (har : ∀ t, t < 72 → ar (B + t) = fun _ => 0) (hfr : ∀ t j, t < 72 → fr (B + t) j = B + fr0 t j) : cell G ad sc ar fr (B + 45) = .inr (4, [.ref (u 46), .int 0]) := by
  rw [cell_4 (kd_B hB (by decide))]
  simp [Nat.add_assoc, had, hsc, sc0]
theorem lk_46 (hB : B % 72 = 0) (had : ∀ t, t < 72 → ad (B + t) = if t = 0 then q else u t) (hsc : ∀ t k, t < 72 → sc (B + t) k = sc0 t k) (har : ∀ t, t < 72 → ar (B + t) = fun _ => 0) (hfr : ∀ t j, t < 72 → fr (B + t) j = B + fr0 t j) : cell G ad sc ar fr (B + 46) = .inl (G.2 3, 12, .inr (.inr (.inr (.inr (va_up (va_up (va_up (va_up (va_up (va_up (va_up (va_up (va_up (va_up (va_up (va_up (fun _ => none) 0 (some (u 47))) 1 (some (u 49))) 2 (some (u 51))) 3 (some (u 53))) 4 (some (u 55))) 5 (some (u 57))) 6 (some (u 59))) 7 (some (u 61))) 8 (some (u 63))) 9 (some (u 65))) 10 (some (u 67))) 11 (some (u 69))))))) := by
  rw [cell_10 (kd_B hB (by decide))]
  refine congrArg (fun f : Nat → Option Nat => (Sum.inl (G.2 3, 12, .inr (.inr (.inr (.inr f)))) : va_E)) (funext fun j => ?_)
  rcases (show j = 0 ∨ j = 1 ∨ j = 2 ∨ j = 3 ∨ j = 4 ∨ j = 5 ∨ j = 6 ∨ j = 7 ∨ j = 8 ∨ j = 9 ∨ j = 10 ∨ j = 11 ∨ 12 ≤ j by omega) with rfl | rfl | rfl | rfl | rfl | rfl | rfl | rfl | rfl | rfl | rfl | rfl | h
  · simp [va_up, Nat.add_assoc, had, hfr, fr0]
  · simp [va_up, Nat.add_assoc, had, hfr, fr0]
  · simp [va_up, Nat.add_assoc, had, hfr, fr0]
  · simp [va_up, Nat.add_assoc, had, hfr, fr0]
  · simp [va_up, Nat.add_assoc, had, hfr, fr0]
  · simp [va_up, Nat.add_assoc, had, hfr, fr0]
  · simp [va_up, Nat.add_assoc, had, hfr, fr0]
  · simp [va_up, Nat.add_assoc, had, hfr, fr0]
  · simp [va_up, Nat.add_assoc, had, hfr, fr0]
  · simp [va_up, Nat.add_assoc, had, hfr, fr0]
  · simp [va_up, Nat.add_assoc, had, hfr, fr0]
  · simp [va_up, Nat.add_assoc, had, hfr, fr0]
  · simp [va_up, show ¬ j < 12 by omega, show j ≠ 0 by omega, show j ≠ 1 by omega, show j ≠ 2 by omega, show j ≠ 3 by omega, show j ≠ 4 by omega, show j ≠ 5 by omega, show j ≠ 6 by omega, show j ≠ 7 by omega, show j ≠ 8 by omega, show j ≠ 9 by omega, show j ≠ 10 by omega, show j ≠ 11 by omega]
theorem lk_47 (hB : B % 72 = 0) (had : ∀ t, t < 72 → ad (B + t) = if t = 0 then q else u t) (hsc : ∀ t k, t < 72 → sc (B + t) k = sc0 t k) (har : ∀ t, t < 72 → ar (B + t) = fun _ => 0) (hfr : ∀ t j, t < 72 → fr (B + t) j = B + fr0 t j) : cell G ad sc ar fr (B + 47) = .inr (1, [.ref (u 48), .int 0, .int 0]) := by
  rw [cell_1 (kd_B hB (by decide))]
  simp [Nat.add_assoc, had, hsc, sc0]
theorem lk_48 (hB : B % 72 = 0) (had : ∀ t, t < 72 → ad (B + t) = if t = 0 then q else u t) (hsc : ∀ t k, t < 72 → sc (B + t) k = sc0 t k) (har : ∀ t, t < 72 → ar (B + t) = fun _ => 0) (hfr : ∀ t j, t < 72 → fr (B + t) j = B + fr0 t j) : cell G ad sc ar fr (B + 48) = .inl (G.2 0, 32, .inl (fun _ => 0)) := by
  rw [cell_7 (kd_B hB (by decide)), ln_B hB (by decide), har _ (by decide)]
  rfl
theorem lk_49 (hB : B % 72 = 0) (had : ∀ t, t < 72 → ad (B + t) = if t = 0 then q else u t) (hsc : ∀ t k, t < 72 → sc (B + t) k = sc0 t k) (har : ∀ t, t < 72 → ar (B + t) = fun _ => 0) (hfr : ∀ t j, t < 72 → fr (B + t) j = B + fr0 t j) : cell G ad sc ar fr (B + 49) = .inr (1, [.ref (u 50), .int 0, .int 0]) := by
  rw [cell_1 (kd_B hB (by decide))]
  simp [Nat.add_assoc, had, hsc, sc0]
theorem lk_50 (hB : B % 72 = 0) (had : ∀ t, t < 72 → ad (B + t) = if t = 0 then q else u t) (hsc : ∀ t k, t < 72 → sc (B + t) k = sc0 t k) (har : ∀ t, t < 72 → ar (B + t) = fun _ => 0) (hfr : ∀ t j, t < 72 → fr (B + t) j = B + fr0 t j) : cell G ad sc ar fr (B + 50) = .inl (G.2 0, 32, .inl (fun _ => 0)) := by
  rw [cell_7 (kd_B hB (by decide)), ln_B hB (by decide), har _ (by decide)]
  rfl
theorem lk_51 (hB : B % 72 = 0) (had : ∀ t, t < 72 → ad (B + t) = if t = 0 then q else u t) (hsc : ∀ t k, t < 72 → sc (B + t) k = sc0 t k) (har : ∀ t, t < 72 → ar (B + t) = fun _ => 0) (hfr : ∀ t j, t < 72 → fr (B + t) j = B + fr0 t j) : cell G ad sc ar fr (B + 51) = .inr (1, [.ref (u 52), .int 0, .int 0]) := by
  rw [cell_1 (kd_B hB (by decide))]
  simp [Nat.add_assoc, had, hsc, sc0]
theorem lk_52 (hB : B % 72 = 0) (had : ∀ t, t < 72 → ad (B + t) = if t = 0 then q else u t) (hsc : ∀ t k, t < 72 → sc (B + t) k = sc0 t k) (har : ∀ t, t < 72 → ar (B + t) = fun _ => 0) (hfr : ∀ t j, t < 72 → fr (B + t) j = B + fr0 t j) : cell G ad sc ar fr (B + 52) = .inl (G.2 0, 32, .inl (fun _ => 0)) := by
  rw [cell_7 (kd_B hB (by decide)), ln_B hB (by decide), har _ (by decide)]
  rfl
theorem lk_53 (hB : B % 72 = 0) (had : ∀ t, t < 72 → ad (B + t) = if t = 0 then q else u t) (hsc : ∀ t k, t < 72 → sc (B + t) k = sc0 t k) (har : ∀ t, t < 72 → ar (B + t) = fun _ => 0) (hfr : ∀ t j, t < 72 → fr (B + t) j = B + fr0 t j) : cell G ad sc ar fr (B + 53) = .inr (1, [.ref (u 54), .int 0, .int 0]) := by
  rw [cell_1 (kd_B hB (by decide))]
  simp [Nat.add_assoc, had, hsc, sc0]
theorem lk_54 (hB : B % 72 = 0) (had : ∀ t, t < 72 → ad (B + t) = if t = 0 then q else u t) (hsc : ∀ t k, t < 72 → sc (B + t) k = sc0 t k) (har : ∀ t, t < 72 → ar (B + t) = fun _ => 0) (hfr : ∀ t j, t < 72 → fr (B + t) j = B + fr0 t j) : cell G ad sc ar fr (B + 54) = .inl (G.2 0, 32, .inl (fun _ => 0)) := by
  rw [cell_7 (kd_B hB (by decide)), ln_B hB (by decide), har _ (by decide)]
  rfl
theorem lk_55 (hB : B % 72 = 0) (had : ∀ t, t < 72 → ad (B + t) = if t = 0 then q else u t) (hsc : ∀ t k, t < 72 → sc (B + t) k = sc0 t k) (har : ∀ t, t < 72 → ar (B + t) = fun _ => 0) (hfr : ∀ t j, t < 72 → fr (B + t) j = B + fr0 t j) : cell G ad sc ar fr (B + 55) = .inr (1, [.ref (u 56), .int 0, .int 0]) := by
  rw [cell_1 (kd_B hB (by decide))]
  simp [Nat.add_assoc, had, hsc, sc0]
theorem lk_56 (hB : B % 72 = 0) (had : ∀ t, t < 72 → ad (B + t) = if t = 0 then q else u t) (hsc : ∀ t k, t < 72 → sc (B + t) k = sc0 t k) (har : ∀ t, t < 72 → ar (B + t) = fun _ => 0) (hfr : ∀ t j, t < 72 → fr (B + t) j = B + fr0 t j) : cell G ad sc ar fr (B + 56) = .inl (G.2 0, 32, .inl (fun _ => 0)) := by
  rw [cell_7 (kd_B hB (by decide)), ln_B hB (by decide), har _ (by decide)]
  rfl
theorem lk_57 (hB : B % 72 = 0) (had : ∀ t, t < 72 → ad (B + t) = if t = 0 then q else u t) (hsc : ∀ t k, t < 72 → sc (B + t) k = sc0 t k) (har : ∀ t, t < 72 → ar (B + t) = fun _ => 0) (hfr : ∀ t j, t < 72 → fr (B + t) j = B + fr0 t j) : cell G ad sc ar fr (B + 57) = .inr (1, [.ref (u 58), .int 0, .int 0]) := by
  rw [cell_1 (kd_B hB (by decide))]
  simp [Nat.add_assoc, had, hsc, sc0]
theorem lk_58 (hB : B % 72 = 0) (had : ∀ t, t < 72 → ad (B + t) = if t = 0 then q else u t) (hsc : ∀ t k, t < 72 → sc (B + t) k = sc0 t k) (har : ∀ t, t < 72 → ar (B + t) = fun _ => 0) (hfr : ∀ t j, t < 72 → fr (B + t) j = B + fr0 t j) : cell G ad sc ar fr (B + 58) = .inl (G.2 0, 32, .inl (fun _ => 0)) := by
  rw [cell_7 (kd_B hB (by decide)), ln_B hB (by decide), har _ (by decide)]
  rfl
theorem lk_59 (hB : B % 72 = 0) (had : ∀ t, t < 72 → ad (B + t) = if t = 0 then q else u t) (hsc : ∀ t k, t < 72 → sc (B + t) k = sc0 t k) (har : ∀ t, t < 72 → ar (B + t) = fun _ => 0) (hfr : ∀ t j, t < 72 → fr (B + t) j = B + fr0 t j) : cell G ad sc ar fr (B + 59) = .inr (1, [.ref (u 60), .int 0, .int 0]) := by
  rw [cell_1 (kd_B hB (by decide))]
  simp [Nat.add_assoc, had, hsc, sc0]
theorem lk_60 (hB : B % 72 = 0) (had : ∀ t, t < 72 → ad (B + t) = if t = 0 then q else u t) (hsc : ∀ t k, t < 72 → sc (B + t) k = sc0 t k) (har : ∀ t, t < 72 → ar (B + t) = fun _ => 0) (hfr : ∀ t j, t < 72 → fr (B + t) j = B + fr0 t j) : cell G ad sc ar fr (B + 60) = .inl (G.2 0, 32, .inl (fun _ => 0)) := by
  rw [cell_7 (kd_B hB (by decide)), ln_B hB (by decide), har _ (by decide)]
  rfl
theorem lk_61 (hB : B % 72 = 0) (had : ∀ t, t < 72 → ad (B + t) = if t = 0 then q else u t) (hsc : ∀ t k, t < 72 → sc (B + t) k = sc0 t k) (har : ∀ t, t < 72 → ar (B + t) = fun _ => 0) (hfr : ∀ t j, t < 72 → fr (B + t) j = B + fr0 t j) : cell G ad sc ar fr (B + 61) = .inr (1, [.ref (u 62), .int 0, .int 0]) := by
  rw [cell_1 (kd_B hB (by decide))]
  simp [Nat.add_assoc, had, hsc, sc0]
theorem lk_62 (hB : B % 72 = 0) (had : ∀ t, t < 72 → ad (B + t) = if t = 0 then q else u t) (hsc : ∀ t k, t < 72 → sc (B + t) k = sc0 t k) (har : ∀ t, t < 72 → ar (B + t) = fun _ => 0) (hfr : ∀ t j, t < 72 → fr (B + t) j = B + fr0 t j) : cell G ad sc ar fr (B + 62) = .inl (G.2 0, 32, .inl (fun _ => 0)) := by
  rw [cell_7 (kd_B hB (by decide)), ln_B hB (by decide), har _ (by decide)]
  rfl
theorem lk_63 (hB : B % 72 = 0) (had : ∀ t, t < 72 → ad (B + t) = if t = 0 then q else u t) (hsc : ∀ t k, t < 72 → sc (B + t) k = sc0 t k) (har : ∀ t, t < 72 → ar (B + t) = fun _ => 0) (hfr : ∀ t j, t < 72 → fr (B + t) j = B + fr0 t j) : cell G ad sc ar fr (B + 63) = .inr (1, [.ref (u 64), .int 0, .int 0]) := by
  rw [cell_1 (kd_B hB (by decide))]
  simp [Nat.add_assoc, had, hsc, sc0]
theorem lk_64 (hB : B % 72 = 0) (had : ∀ t, t < 72 → ad (B + t) = if t = 0 then q else u t) (hsc : ∀ t k, t < 72 → sc (B + t) k = sc0 t k) (har : ∀ t, t < 72 → ar (B + t) = fun _ => 0) (hfr : ∀ t j, t < 72 → fr (B + t) j = B + fr0 t j) : cell G ad sc ar fr (B + 64) = .inl (G.2 0, 32, .inl (fun _ => 0)) := by
  rw [cell_7 (kd_B hB (by decide)), ln_B hB (by decide), har _ (by decide)]
  rfl
theorem lk_65 (hB : B % 72 = 0) (had : ∀ t, t < 72 → ad (B + t) = if t = 0 then q else u t) (hsc : ∀ t k, t < 72 → sc (B + t) k = sc0 t k) (har : ∀ t, t < 72 → ar (B + t) = fun _ => 0) (hfr : ∀ t j, t < 72 → fr (B + t) j = B + fr0 t j) : cell G ad sc ar fr (B + 65) = .inr (1, [.ref (u 66), .int 0, .int 0]) := by
  rw [cell_1 (kd_B hB (by decide))]
  simp [Nat.add_assoc, had, hsc, sc0]
theorem lk_66 (hB : B % 72 = 0) (had : ∀ t, t < 72 → ad (B + t) = if t = 0 then q else u t) (hsc : ∀ t k, t < 72 → sc (B + t) k = sc0 t k) (har : ∀ t, t < 72 → ar (B + t) = fun _ => 0) (hfr : ∀ t j, t < 72 → fr (B + t) j = B + fr0 t j) : cell G ad sc ar fr (B + 66) = .inl (G.2 0, 32, .inl (fun _ => 0)) := by
  rw [cell_7 (kd_B hB (by decide)), ln_B hB (by decide), har _ (by decide)]
  rfl
theorem lk_67 (hB : B % 72 = 0) (had : ∀ t, t < 72 → ad (B + t) = if t = 0 then q else u t) (hsc : ∀ t k, t < 72 → sc (B + t) k = sc0 t k) (har : ∀ t, t < 72 → ar (B + t) = fun _ => 0) (hfr : ∀ t j, t < 72 → fr (B + t) j = B + fr0 t j) : cell G ad sc ar fr (B + 67) = .inr (1, [.ref (u 68), .int 0, .int 0]) := by
  rw [cell_1 (kd_B hB (by decide))]
  simp [Nat.add_assoc, had, hsc, sc0]
theorem lk_68 (hB : B % 72 = 0) (had : ∀ t, t < 72 → ad (B + t) = if t = 0 then q else u t) (hsc : ∀ t k, t < 72 → sc (B + t) k = sc0 t k) (har : ∀ t, t < 72 → ar (B + t) = fun _ => 0) (hfr : ∀ t j, t < 72 → fr (B + t) j = B + fr0 t j) : cell G ad sc ar fr (B + 68) = .inl (G.2 0, 32, .inl (fun _ => 0)) := by
  rw [cell_7 (kd_B hB (by decide)), ln_B hB (by decide), har _ (by decide)]
  rfl
theorem lk_69 (hB : B % 72 = 0) (had : ∀ t, t < 72 → ad (B + t) = if t = 0 then q else u t) (hsc : ∀ t k, t < 72 → sc (B + t) k = sc0 t k) (har : ∀ t, t < 72 → ar (B + t) = fun _ => 0) (hfr : ∀ t j, t < 72 → fr (B + t) j = B + fr0 t j) : cell G ad sc ar fr (B + 69) = .inr (1, [.ref (u 70), .int 0, .int 0]) := by
  rw [cell_1 (kd_B hB (by decide))]
  simp [Nat.add_assoc, had, hsc, sc0]
theorem lk_70 (hB : B % 72 = 0) (had : ∀ t, t < 72 → ad (B + t) = if t = 0 then q else u t) (hsc : ∀ t k, t < 72 → sc (B + t) k = sc0 t k) (har : ∀ t, t < 72 → ar (B + t) = fun _ => 0) (hfr : ∀ t j, t < 72 → fr (B + t) j = B + fr0 t j) : cell G ad sc ar fr (B + 70) = .inl (G.2 0, 32, .inl (fun _ => 0)) := by
  rw [cell_7 (kd_B hB (by decide)), ln_B hB (by decide), har _ (by decide)]
  rfl
theorem lk_71 (hB : B % 72 = 0) (had : ∀ t, t < 72 → ad (B + t) = if t = 0 then q else u t) (hsc : ∀ t k, t < 72 → sc (B + t) k = sc0 t k) (har : ∀ t, t < 72 → ar (B + t) = fun _ => 0) (hfr : ∀ t j, t < 72 → fr (B + t) j = B + fr0 t j) : cell G ad sc ar fr (B + 71) = .inl (G.2 0, 17, .inl (fun _ => 0)) := by
  rw [cell_7 (kd_B hB (by decide)), ln_B hB (by decide), har _ (by decide)]
  rfl
theorem rng72 : List.range 72 = [0, 1, 2, 3, 4, 5, 6, 7, 8, 9, 10, 11, 12, 13, 14, 15, 16, 17, 18, 19, 20, 21, 22, 23, 24, 25, 26, 27, 28, 29, 30, 31, 32, 33, 34, 35, 36, 37, 38, 39, 40, 41, 42, 43, 44, 45, 46, 47, 48, 49, 50, 51, 52, 53, 54, 55, 56, 57, 58, 59, 60, 61, 62, 63, 64, 65, 66, 67, 68, 69, 70, 71] := by decide
set_option maxRecDepth 20000 in
theorem lk_all (X : va_W) (hB : B % 72 = 0) (had : ∀ t, t < 72 → ad (B + t) = if t = 0 then q else u t) (hsc : ∀ t k, t < 72 → sc (B + t) k = sc0 t k) (har : ∀ t, t < 72 → ar (B + t) = fun _ => 0) (hfr : ∀ t j, t < 72 → fr (B + t) j = B + fr0 t j) : wf_X2_init G X q u = X ++ (List.range 72).map (fun t => (ad (B + t), cell G ad sc ar fr (B + t))) := by
  rw [rng72]
  simp only [List.map_cons, List.map_nil]
  rw [lk_0 hB had hsc har hfr, lk_1 hB had hsc har hfr, lk_2 hB had hsc har hfr, lk_3 hB had hsc har hfr, lk_4 hB had hsc har hfr, lk_5 hB had hsc har hfr, lk_6 hB had hsc har hfr, lk_7 hB had hsc har hfr, lk_8 hB had hsc har hfr, lk_9 hB had hsc har hfr, lk_10 hB had hsc har hfr, lk_11 hB had hsc har hfr, lk_12 hB had hsc har hfr, lk_13 hB had hsc har hfr, lk_14 hB had hsc har hfr, lk_15 hB had hsc har hfr, lk_16 hB had hsc har hfr, lk_17 hB had hsc har hfr, lk_18 hB had hsc har hfr, lk_19 hB had hsc har hfr, lk_20 hB had hsc har hfr, lk_21 hB had hsc har hfr, lk_22 hB had hsc har hfr, lk_23 hB had hsc har hfr, lk_24 hB had hsc har hfr, lk_25 hB had hsc har hfr, lk_26 hB had hsc har hfr, lk_27 hB had hsc har hfr, lk_28 hB had hsc har hfr, lk_29 hB had hsc har hfr, lk_30 hB had hsc har hfr, lk_31 hB had hsc har hfr, lk_32 hB had hsc har hfr, lk_33 hB had hsc har hfr, lk_34 hB had hsc har hfr, lk_35 hB had hsc har hfr, lk_36 hB had hsc har hfr, lk_37 hB had hsc har hfr, lk_38 hB had hsc har hfr, lk_39 hB had hsc har hfr, lk_40 hB had hsc har hfr, lk_41 hB had hsc har hfr, lk_42 hB had hsc har hfr, lk_43 hB had hsc har hfr, lk_44 hB had hsc har hfr, lk_45 hB had hsc har hfr, lk_46 hB had hsc har hfr, lk_47 hB had hsc har hfr, lk_48 hB had hsc har hfr, lk_49 hB had hsc har hfr, lk_50 hB had hsc har hfr, lk_51 hB had hsc har hfr, lk_52 hB had hsc har hfr, lk_53 hB had hsc har hfr, lk_54 hB had hsc har hfr, lk_55 hB had hsc har hfr, lk_56 hB had hsc har hfr, lk_57 hB had hsc har hfr, lk_58 hB had hsc har hfr, lk_59 hB had hsc har hfr, lk_60 hB had hsc har hfr, lk_61 hB had hsc har hfr, lk_62 hB had hsc har hfr, lk_63 hB had hsc har hfr, lk_64 hB had hsc har hfr, lk_65 hB had hsc har hfr, lk_66 hB had hsc har hfr, lk_67 hB had hsc har hfr, lk_68 hB had hsc har hfr, lk_69 hB had hsc har hfr, lk_70 hB had hsc har hfr, lk_71 hB had hsc har hfr]
  have h0 : ad B = q := had 0 (by decide)
  simp [had, wf_X2_init, h0]
end LKP
