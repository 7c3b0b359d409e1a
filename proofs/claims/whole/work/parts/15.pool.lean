def kdL : List Nat := [2, 9, 0, 7, 3, 7, 7, 3, 7, 7, 0, 7, 3, 7, 7, 3, 7, 7, 12, 4, 10, 1, 7, 1, 7, 1, 7, 1, 7, 1, 7, 1, 7, 1, 7, 1, 7, 1, 7, 1, 7, 1, 7, 1, 7, 4, 10, 1, 7, 1, 7, 1, 7, 1, 7, 1, 7, 1, 7, 1, 7, 1, 7, 1, 7, 1, 7, 1, 7, 1, 7, 7]
def lnL : List Nat := [0, 0, 0, 24, 0, 24, 576, 0, 60, 1440, 0, 24, 0, 24, 576, 0, 60, 1440, 0, 0, 0, 0, 32, 0, 32, 0, 32, 0, 32, 0, 32, 0, 32, 0, 32, 0, 32, 0, 32, 0, 32, 0, 32, 0, 32, 0, 0, 0, 32, 0, 32, 0, 32, 0, 32, 0, 32, 0, 32, 0, 32, 0, 32, 0, 32, 0, 32, 0, 32, 0, 32, 17]
def kd (i : Nat) : Nat := kdL.getD (i % 72) 99
def lnA (i : Nat) : Nat := lnL.getD (i % 72) 0
/-- a place of the pool of nb links, of a kind -/
def pk (nb K p : Nat) : Bool := decide (p < 72 * nb) && (kd p == K)
theorem pkx_lt {nb K p : Nat} (h : pk nb K p = true) : p < 72 * nb := by
  simp only [pk, Bool.and_eq_true, decide_eq_true_eq] at h; exact h.1
theorem pkx_kd {nb K p : Nat} (h : pk nb K p = true) : kd p = K := by
  simp only [pk, Bool.and_eq_true, decide_eq_true_eq, beq_iff_eq] at h; exact h.2
def up2 {α : Type} (f : Nat → Nat → α) (i j : Nat) (v : α) : Nat → Nat → α := fun a b => if a = i ∧ b = j then v else f a b
def cell (G : GG) (ad : Nat → Nat) (sc ar : Nat → Nat → Int32) (fr : Nat → Nat → Nat) (i : Nat) : va_E :=
  if kd i = 0 then .inr (0, [.ref (ad (i + 1)), .int (sc i 1), .ref (ad (i + 2)), .int (sc i 3), .int (sc i 4), .int (sc i 5), .int (sc i 6), .int (sc i 7), .int (sc i 8), .int (sc i 9), .int (sc i 10), .int (sc i 11), .int (sc i 12), .int (sc i 13), .ref (ad (i + 5)), .int (sc i 15)])
  else if kd i = 1 then .inr (1, [.ref (ad (i + 1)), .int (sc i 1), .int (sc i 2)])
  else if kd i = 2 then .inr (2, [.ref (ad (i + 1)), .ref (ad (i + 18)), .ref (ad (i + 71)), .int (sc i 3), .int (sc i 4), .int (sc i 5), .int (sc i 6), .int (sc i 7)])
  else if kd i = 3 then .inr (3, [.ref (ad (i + 1)), .ref (ad (i + 2))])
  else if kd i = 4 then .inr (4, [.ref (ad (i + 1)), .int (sc i 1)])
  else if kd i = 9 then .inl (G.2 2, 2, .inr (.inr (.inr (.inr (fun j => if j < 2 then some (ad (i + 1 + 8 * j)) else none)))))
  else if kd i = 12 then .inl (G.2 5, 2, .inr (.inr (.inr (.inr (fun j => if j < 2 then some (ad (i + 1 + 26 * j)) else none)))))
  else if kd i = 10 then .inl (G.2 3, 12, .inr (.inr (.inr (.inr (fun j => if j < 12 then some (ad (fr i j)) else none)))))
  else .inl (G.2 0, lnA i, .inl (ar i))
def wC (G : GG) (ad : Nat → Nat) (nb : Nat) (X : va_W) (sc ar : Nat → Nat → Int32) (fr : Nat → Nat → Nat) : va_W := (List.range (72 * nb)).map (fun i => (ad i, cell G ad sc ar fr i)) ++ X
section POOL
variable {G : GG} {ad : Nat → Nat} {nb : Nat} {X : va_W} {sc ar sc' ar' : Nat → Nat → Int32} {fr fr' : Nat → Nat → Nat} {p : Nat}
theorem wC_at (h : p < 72 * nb) : (wC G ad nb X sc ar fr)[p]? = some (ad p, cell G ad sc ar fr p) := by
  unfold wC
  rw [List.getElem?_append_left (by simpa using h), List.getElem?_map, List.getElem?_range h]
  rfl
theorem wC_tail (j : Nat) : (wC G ad nb X sc ar fr)[72 * nb + j]? = X[j]? := by
  unfold wC
  rw [List.getElem?_append_right (by simp)]
  simp
theorem wC_upd (hp : p < 72 * nb) {e : va_E} (he : cell G ad sc' ar' fr' p = e) (ho : ∀ i, i ≠ p → cell G ad sc' ar' fr' i = cell G ad sc ar fr i) : (wC G ad nb X sc ar fr).set p (ad p, e) = wC G ad nb X sc' ar' fr' := by
  apply List.ext_getElem?
  intro i
  rw [List.getElem?_set]
  by_cases hi : p = i
  · subst hi
    rw [if_pos rfl, wC_at hp, he]
    rw [if_pos (by unfold wC; simp; omega)]
  · rw [if_neg hi]
    rcases Nat.lt_or_ge i (72 * nb) with h | h
    · rw [wC_at h, wC_at h, ho i (Ne.symm hi)]
    · obtain ⟨j, rfl⟩ := Nat.exists_eq_add_of_le h
      rw [wC_tail, wC_tail]
theorem wC_tset (j : Nat) (e : Nat × va_E) : (wC G ad nb X sc ar fr).set (72 * nb + j) e = wC G ad nb (X.set j e) sc ar fr := by
  apply List.ext_getElem?
  intro i
  rw [List.getElem?_set]
  rcases Nat.lt_or_ge i (72 * nb) with h | h
  · rw [if_neg (by omega), wC_at h, wC_at h]
  · obtain ⟨k, rfl⟩ := Nat.exists_eq_add_of_le h
    rw [wC_tail, wC_tail, List.getElem?_set]
    have : (72 * nb + j < (wC G ad nb X sc ar fr).length) = (j < X.length) := by unfold wC; simp
    simp only [this]
    by_cases hk : j = k
    · subst hk; simp
    · rw [if_neg (by omega), if_neg hk]

theorem cell_0 (h : kd p = 0) : cell G ad sc ar fr p = .inr (0, [.ref (ad (p + 1)), .int (sc p 1), .ref (ad (p + 2)), .int (sc p 3), .int (sc p 4), .int (sc p 5), .int (sc p 6), .int (sc p 7), .int (sc p 8), .int (sc p 9), .int (sc p 10), .int (sc p 11), .int (sc p 12), .int (sc p 13), .ref (ad (p + 5)), .int (sc p 15)]) := by simp [cell, h]
theorem wC_0 (h : pk nb 0 p = true) : (wC G ad nb X sc ar fr)[p]? = some (ad p, .inr (0, [.ref (ad (p + 1)), .int (sc p 1), .ref (ad (p + 2)), .int (sc p 3), .int (sc p 4), .int (sc p 5), .int (sc p 6), .int (sc p 7), .int (sc p 8), .int (sc p 9), .int (sc p 10), .int (sc p 11), .int (sc p 12), .int (sc p 13), .ref (ad (p + 5)), .int (sc p 15)])) := by rw [wC_at (pkx_lt h), cell_0 (pkx_kd h)]
theorem cell_1 (h : kd p = 1) : cell G ad sc ar fr p = .inr (1, [.ref (ad (p + 1)), .int (sc p 1), .int (sc p 2)]) := by simp [cell, h]
theorem wC_1 (h : pk nb 1 p = true) : (wC G ad nb X sc ar fr)[p]? = some (ad p, .inr (1, [.ref (ad (p + 1)), .int (sc p 1), .int (sc p 2)])) := by rw [wC_at (pkx_lt h), cell_1 (pkx_kd h)]
theorem cell_2 (h : kd p = 2) : cell G ad sc ar fr p = .inr (2, [.ref (ad (p + 1)), .ref (ad (p + 18)), .ref (ad (p + 71)), .int (sc p 3), .int (sc p 4), .int (sc p 5), .int (sc p 6), .int (sc p 7)]) := by simp [cell, h]
theorem wC_2 (h : pk nb 2 p = true) : (wC G ad nb X sc ar fr)[p]? = some (ad p, .inr (2, [.ref (ad (p + 1)), .ref (ad (p + 18)), .ref (ad (p + 71)), .int (sc p 3), .int (sc p 4), .int (sc p 5), .int (sc p 6), .int (sc p 7)])) := by rw [wC_at (pkx_lt h), cell_2 (pkx_kd h)]
theorem cell_3 (h : kd p = 3) : cell G ad sc ar fr p = .inr (3, [.ref (ad (p + 1)), .ref (ad (p + 2))]) := by simp [cell, h]
theorem wC_3 (h : pk nb 3 p = true) : (wC G ad nb X sc ar fr)[p]? = some (ad p, .inr (3, [.ref (ad (p + 1)), .ref (ad (p + 2))])) := by rw [wC_at (pkx_lt h), cell_3 (pkx_kd h)]
theorem cell_4 (h : kd p = 4) : cell G ad sc ar fr p = .inr (4, [.ref (ad (p + 1)), .int (sc p 1)]) := by simp [cell, h]
theorem wC_4 (h : pk nb 4 p = true) : (wC G ad nb X sc ar fr)[p]? = some (ad p, .inr (4, [.ref (ad (p + 1)), .int (sc p 1)])) := by rw [wC_at (pkx_lt h), cell_4 (pkx_kd h)]
theorem cell_9 (h : kd p = 9) : cell G ad sc ar fr p = .inl (G.2 2, 2, .inr (.inr (.inr (.inr (fun j => if j < 2 then some (ad (p + 1 + 8 * j)) else none))))) := by simp [cell, h]
theorem wC_9 (h : pk nb 9 p = true) : (wC G ad nb X sc ar fr)[p]? = some (ad p, .inl (G.2 2, 2, .inr (.inr (.inr (.inr (fun j => if j < 2 then some (ad (p + 1 + 8 * j)) else none)))))) := by rw [wC_at (pkx_lt h), cell_9 (pkx_kd h)]
theorem cell_12 (h : kd p = 12) : cell G ad sc ar fr p = .inl (G.2 5, 2, .inr (.inr (.inr (.inr (fun j => if j < 2 then some (ad (p + 1 + 26 * j)) else none))))) := by simp [cell, h]
theorem wC_12 (h : pk nb 12 p = true) : (wC G ad nb X sc ar fr)[p]? = some (ad p, .inl (G.2 5, 2, .inr (.inr (.inr (.inr (fun j => if j < 2 then some (ad (p + 1 + 26 * j)) else none)))))) := by rw [wC_at (pkx_lt h), cell_12 (pkx_kd h)]
theorem cell_10 (h : kd p = 10) : cell G ad sc ar fr p = .inl (G.2 3, 12, .inr (.inr (.inr (.inr (fun j => if j < 12 then some (ad (fr p j)) else none))))) := by simp [cell, h]
theorem wC_10 (h : pk nb 10 p = true) : (wC G ad nb X sc ar fr)[p]? = some (ad p, .inl (G.2 3, 12, .inr (.inr (.inr (.inr (fun j => if j < 12 then some (ad (fr p j)) else none)))))) := by rw [wC_at (pkx_lt h), cell_10 (pkx_kd h)]
theorem cell_7 (h : kd p = 7) : cell G ad sc ar fr p = .inl (G.2 0, lnA p, .inl (ar p)) := by simp [cell, h]
theorem wC_7 (h : pk nb 7 p = true) : (wC G ad nb X sc ar fr)[p]? = some (ad p, .inl (G.2 0, lnA p, .inl (ar p))) := by rw [wC_at (pkx_lt h), cell_7 (pkx_kd h)]
theorem cell_sc {i j : Nat} {v : Int32} (h : i ≠ p) : cell G ad (up2 sc p j v) ar fr i = cell G ad sc ar fr i := by
  have e : ∀ k, up2 sc p j v i k = sc i k := fun k => by unfold up2; rw [if_neg (fun q => h q.1)]
  simp only [cell, e]
theorem cell_ar {i : Nat} {g : Nat → Int32} (h : i ≠ p) : cell G ad sc (va_up ar p g) fr i = cell G ad sc ar fr i := by
  have e : va_up ar p g i = ar i := by unfold va_up; rw [if_neg h]
  simp only [cell, e]
theorem cell_fr {i j v : Nat} (h : i ≠ p) : cell G ad sc ar (up2 fr p j v) i = cell G ad sc ar fr i := by
  have e : ∀ k, up2 fr p j v i k = fr i k := fun k => by unfold up2; rw [if_neg (fun q => h q.1)]
  simp only [cell, e]
theorem wC_ar (h : pk nb 7 p = true) (g : Nat → Int32) (hg : ar' = va_up ar p g) : (wC G ad nb X sc ar fr).set p (ad p, .inl (G.2 0, lnA p, .inl g)) = wC G ad nb X sc ar' fr := by
  subst hg
  exact wC_upd (pkx_lt h) (by rw [cell_7 (pkx_kd h)]; simp [va_up]) (fun i hi => cell_ar hi)
theorem wC_fr (h : pk nb 10 p = true) (j v : Nat) (hj : j < 12) (hg : fr' = up2 fr p j v) : (wC G ad nb X sc ar fr).set p (ad p, .inl (G.2 3, 12, .inr (.inr (.inr (.inr (va_up (fun j => if j < 12 then some (ad (fr p j)) else none) j (some (ad v)))))))) = wC G ad nb X sc ar fr' := by
  subst hg
  refine wC_upd (pkx_lt h) ?_ (fun i hi => cell_fr hi)
  rw [cell_10 (pkx_kd h)]
  have : (fun k => if k < 12 then some (ad (up2 fr p j v p k)) else none) = va_up (fun j => if j < 12 then some (ad (fr p j)) else none) j (some (ad v)) := by
    funext k
    unfold up2 va_up
    by_cases hk : k = j
    · subst hk; simp [hj]
    · simp [hk]
  rw [this]
theorem wC_s0_1 {v : Int32} (h : pk nb 0 p = true) (hg : sc' = up2 sc p 1 v) : (wC G ad nb X sc ar fr).set p (ad p, .inr (0, [.ref (ad (p + 1)), .int v, .ref (ad (p + 2)), .int (sc p 3), .int (sc p 4), .int (sc p 5), .int (sc p 6), .int (sc p 7), .int (sc p 8), .int (sc p 9), .int (sc p 10), .int (sc p 11), .int (sc p 12), .int (sc p 13), .ref (ad (p + 5)), .int (sc p 15)])) = wC G ad nb X sc' ar fr := by
  subst hg
  exact wC_upd (pkx_lt h) (by rw [cell_0 (pkx_kd h)]; simp [up2]) (fun i hi => cell_sc hi)
theorem wC_s0_3 {v : Int32} (h : pk nb 0 p = true) (hg : sc' = up2 sc p 3 v) : (wC G ad nb X sc ar fr).set p (ad p, .inr (0, [.ref (ad (p + 1)), .int (sc p 1), .ref (ad (p + 2)), .int v, .int (sc p 4), .int (sc p 5), .int (sc p 6), .int (sc p 7), .int (sc p 8), .int (sc p 9), .int (sc p 10), .int (sc p 11), .int (sc p 12), .int (sc p 13), .ref (ad (p + 5)), .int (sc p 15)])) = wC G ad nb X sc' ar fr := by
  subst hg
  exact wC_upd (pkx_lt h) (by rw [cell_0 (pkx_kd h)]; simp [up2]) (fun i hi => cell_sc hi)
theorem wC_s0_4 {v : Int32} (h : pk nb 0 p = true) (hg : sc' = up2 sc p 4 v) : (wC G ad nb X sc ar fr).set p (ad p, .inr (0, [.ref (ad (p + 1)), .int (sc p 1), .ref (ad (p + 2)), .int (sc p 3), .int v, .int (sc p 5), .int (sc p 6), .int (sc p 7), .int (sc p 8), .int (sc p 9), .int (sc p 10), .int (sc p 11), .int (sc p 12), .int (sc p 13), .ref (ad (p + 5)), .int (sc p 15)])) = wC G ad nb X sc' ar fr := by
  subst hg
  exact wC_upd (pkx_lt h) (by rw [cell_0 (pkx_kd h)]; simp [up2]) (fun i hi => cell_sc hi)
theorem wC_s0_5 {v : Int32} (h : pk nb 0 p = true) (hg : sc' = up2 sc p 5 v) : (wC G ad nb X sc ar fr).set p (ad p, .inr (0, [.ref (ad (p + 1)), .int (sc p 1), .ref (ad (p + 2)), .int (sc p 3), .int (sc p 4), .int v, .int (sc p 6), .int (sc p 7), .int (sc p 8), .int (sc p 9), .int (sc p 10), .int (sc p 11), .int (sc p 12), .int (sc p 13), .ref (ad (p + 5)), .int (sc p 15)])) = wC G ad nb X sc' ar fr := by
  subst hg
  exact wC_upd (pkx_lt h) (by rw [cell_0 (pkx_kd h)]; simp [up2]) (fun i hi => cell_sc hi)
theorem wC_s0_6 {v : Int32} (h : pk nb 0 p = true) (hg : sc' = up2 sc p 6 v) : (wC G ad nb X sc ar fr).set p (ad p, .inr (0, [.ref (ad (p + 1)), .int (sc p 1), .ref (ad (p + 2)), .int (sc p 3), .int (sc p 4), .int (sc p 5), .int v, .int (sc p 7), .int (sc p 8), .int (sc p 9), .int (sc p 10), .int (sc p 11), .int (sc p 12), .int (sc p 13), .ref (ad (p + 5)), .int (sc p 15)])) = wC G ad nb X sc' ar fr := by
  subst hg
  exact wC_upd (pkx_lt h) (by rw [cell_0 (pkx_kd h)]; simp [up2]) (fun i hi => cell_sc hi)
theorem wC_s0_7 {v : Int32} (h : pk nb 0 p = true) (hg : sc' = up2 sc p 7 v) : (wC G ad nb X sc ar fr).set p (ad p, .inr (0, [.ref (ad (p + 1)), .int (sc p 1), .ref (ad (p + 2)), .int (sc p 3), .int (sc p 4), .int (sc p 5), .int (sc p 6), .int v, .int (sc p 8), .int (sc p 9), .int (sc p 10), .int (sc p 11), .int (sc p 12), .int (sc p 13), .ref (ad (p + 5)), .int (sc p 15)])) = wC G ad nb X sc' ar fr := by
  subst hg
  exact wC_upd (pkx_lt h) (by rw [cell_0 (pkx_kd h)]; simp [up2]) (fun i hi => cell_sc hi)
theorem wC_s0_8 {v : Int32} (h : pk nb 0 p = true) (hg : sc' = up2 sc p 8 v) : (wC G ad nb X sc ar fr).set p (ad p, .inr (0, [.ref (ad (p + 1)), .int (sc p 1), .ref (ad (p + 2)), .int (sc p 3), .int (sc p 4), .int (sc p 5), .int (sc p 6), .int (sc p 7), .int v, .int (sc p 9), .int (sc p 10), .int (sc p 11), .int (sc p 12), .int (sc p 13), .ref (ad (p + 5)), .int (sc p 15)])) = wC G ad nb X sc' ar fr := by
  subst hg
  exact wC_upd (pkx_lt h) (by rw [cell_0 (pkx_kd h)]; simp [up2]) (fun i hi => cell_sc hi)
theorem wC_s0_9 {v : Int32} (h : pk nb 0 p = true) (hg : sc' = up2 sc p 9 v) : (wC G ad nb X sc ar fr).set p (ad p, .inr (0, [.ref (ad (p + 1)), .int (sc p 1), .ref (ad (p + 2)), .int (sc p 3), .int (sc p 4), .int (sc p 5), .int (sc p 6), .int (sc p 7), .int (sc p 8), .int v, .int (sc p 10), .int (sc p 11), .int (sc p 12), .int (sc p 13), .ref (ad (p + 5)), .int (sc p 15)])) = wC G ad nb X sc' ar fr := by
  subst hg
  exact wC_upd (pkx_lt h) (by rw [cell_0 (pkx_kd h)]; simp [up2]) (fun i hi => cell_sc hi)
theorem wC_s0_10 {v : Int32} (h : pk nb 0 p = true) (hg : sc' = up2 sc p 10 v) : (wC G ad nb X sc ar fr).set p (ad p, .inr (0, [.ref (ad (p + 1)), .int (sc p 1), .ref (ad (p + 2)), .int (sc p 3), .int (sc p 4), .int (sc p 5), .int (sc p 6), .int (sc p 7), .int (sc p 8), .int (sc p 9), .int v, .int (sc p 11), .int (sc p 12), .int (sc p 13), .ref (ad (p + 5)), .int (sc p 15)])) = wC G ad nb X sc' ar fr := by
  subst hg
  exact wC_upd (pkx_lt h) (by rw [cell_0 (pkx_kd h)]; simp [up2]) (fun i hi => cell_sc hi)
theorem wC_s0_11 {v : Int32} (h : pk nb 0 p = true) (hg : sc' = up2 sc p 11 v) : (wC G ad nb X sc ar fr).set p (ad p, .inr (0, [.ref (ad (p + 1)), .int (sc p 1), .ref (ad (p + 2)), .int (sc p 3), .int (sc p 4), .int (sc p 5), .int (sc p 6), .int (sc p 7), .int (sc p 8), .int (sc p 9), .int (sc p 10), .int v, .int (sc p 12), .int (sc p 13), .ref (ad (p + 5)), .int (sc p 15)])) = wC G ad nb X sc' ar fr := by
  subst hg
  exact wC_upd (pkx_lt h) (by rw [cell_0 (pkx_kd h)]; simp [up2]) (fun i hi => cell_sc hi)
theorem wC_s0_12 {v : Int32} (h : pk nb 0 p = true) (hg : sc' = up2 sc p 12 v) : (wC G ad nb X sc ar fr).set p (ad p, .inr (0, [.ref (ad (p + 1)), .int (sc p 1), .ref (ad (p + 2)), .int (sc p 3), .int (sc p 4), .int (sc p 5), .int (sc p 6), .int (sc p 7), .int (sc p 8), .int (sc p 9), .int (sc p 10), .int (sc p 11), .int v, .int (sc p 13), .ref (ad (p + 5)), .int (sc p 15)])) = wC G ad nb X sc' ar fr := by
  subst hg
  exact wC_upd (pkx_lt h) (by rw [cell_0 (pkx_kd h)]; simp [up2]) (fun i hi => cell_sc hi)
theorem wC_s0_13 {v : Int32} (h : pk nb 0 p = true) (hg : sc' = up2 sc p 13 v) : (wC G ad nb X sc ar fr).set p (ad p, .inr (0, [.ref (ad (p + 1)), .int (sc p 1), .ref (ad (p + 2)), .int (sc p 3), .int (sc p 4), .int (sc p 5), .int (sc p 6), .int (sc p 7), .int (sc p 8), .int (sc p 9), .int (sc p 10), .int (sc p 11), .int (sc p 12), .int v, .ref (ad (p + 5)), .int (sc p 15)])) = wC G ad nb X sc' ar fr := by
  subst hg
  exact wC_upd (pkx_lt h) (by rw [cell_0 (pkx_kd h)]; simp [up2]) (fun i hi => cell_sc hi)
theorem wC_s0_15 {v : Int32} (h : pk nb 0 p = true) (hg : sc' = up2 sc p 15 v) : (wC G ad nb X sc ar fr).set p (ad p, .inr (0, [.ref (ad (p + 1)), .int (sc p 1), .ref (ad (p + 2)), .int (sc p 3), .int (sc p 4), .int (sc p 5), .int (sc p 6), .int (sc p 7), .int (sc p 8), .int (sc p 9), .int (sc p 10), .int (sc p 11), .int (sc p 12), .int (sc p 13), .ref (ad (p + 5)), .int v])) = wC G ad nb X sc' ar fr := by
  subst hg
  exact wC_upd (pkx_lt h) (by rw [cell_0 (pkx_kd h)]; simp [up2]) (fun i hi => cell_sc hi)
theorem wC_s1_1 {v : Int32} (h : pk nb 1 p = true) (hg : sc' = up2 sc p 1 v) : (wC G ad nb X sc ar fr).set p (ad p, .inr (1, [.ref (ad (p + 1)), .int v, .int (sc p 2)])) = wC G ad nb X sc' ar fr := by
  subst hg
  exact wC_upd (pkx_lt h) (by rw [cell_1 (pkx_kd h)]; simp [up2]) (fun i hi => cell_sc hi)
theorem wC_s1_2 {v : Int32} (h : pk nb 1 p = true) (hg : sc' = up2 sc p 2 v) : (wC G ad nb X sc ar fr).set p (ad p, .inr (1, [.ref (ad (p + 1)), .int (sc p 1), .int v])) = wC G ad nb X sc' ar fr := by
  subst hg
  exact wC_upd (pkx_lt h) (by rw [cell_1 (pkx_kd h)]; simp [up2]) (fun i hi => cell_sc hi)
theorem wC_s2_3 {v : Int32} (h : pk nb 2 p = true) (hg : sc' = up2 sc p 3 v) : (wC G ad nb X sc ar fr).set p (ad p, .inr (2, [.ref (ad (p + 1)), .ref (ad (p + 18)), .ref (ad (p + 71)), .int v, .int (sc p 4), .int (sc p 5), .int (sc p 6), .int (sc p 7)])) = wC G ad nb X sc' ar fr := by
  subst hg
  exact wC_upd (pkx_lt h) (by rw [cell_2 (pkx_kd h)]; simp [up2]) (fun i hi => cell_sc hi)
theorem wC_s2_4 {v : Int32} (h : pk nb 2 p = true) (hg : sc' = up2 sc p 4 v) : (wC G ad nb X sc ar fr).set p (ad p, .inr (2, [.ref (ad (p + 1)), .ref (ad (p + 18)), .ref (ad (p + 71)), .int (sc p 3), .int v, .int (sc p 5), .int (sc p 6), .int (sc p 7)])) = wC G ad nb X sc' ar fr := by
  subst hg
  exact wC_upd (pkx_lt h) (by rw [cell_2 (pkx_kd h)]; simp [up2]) (fun i hi => cell_sc hi)
theorem wC_s2_5 {v : Int32} (h : pk nb 2 p = true) (hg : sc' = up2 sc p 5 v) : (wC G ad nb X sc ar fr).set p (ad p, .inr (2, [.ref (ad (p + 1)), .ref (ad (p + 18)), .ref (ad (p + 71)), .int (sc p 3), .int (sc p 4), .int v, .int (sc p 6), .int (sc p 7)])) = wC G ad nb X sc' ar fr := by
  subst hg
  exact wC_upd (pkx_lt h) (by rw [cell_2 (pkx_kd h)]; simp [up2]) (fun i hi => cell_sc hi)
theorem wC_s2_6 {v : Int32} (h : pk nb 2 p = true) (hg : sc' = up2 sc p 6 v) : (wC G ad nb X sc ar fr).set p (ad p, .inr (2, [.ref (ad (p + 1)), .ref (ad (p + 18)), .ref (ad (p + 71)), .int (sc p 3), .int (sc p 4), .int (sc p 5), .int v, .int (sc p 7)])) = wC G ad nb X sc' ar fr := by
  subst hg
  exact wC_upd (pkx_lt h) (by rw [cell_2 (pkx_kd h)]; simp [up2]) (fun i hi => cell_sc hi)
theorem wC_s2_7 {v : Int32} (h : pk nb 2 p = true) (hg : sc' = up2 sc p 7 v) : (wC G ad nb X sc ar fr).set p (ad p, .inr (2, [.ref (ad (p + 1)), .ref (ad (p + 18)), .ref (ad (p + 71)), .int (sc p 3), .int (sc p 4), .int (sc p 5), .int (sc p 6), .int v])) = wC G ad nb X sc' ar fr := by
  subst hg
  exact wC_upd (pkx_lt h) (by rw [cell_2 (pkx_kd h)]; simp [up2]) (fun i hi => cell_sc hi)
theorem wC_s4_1 {v : Int32} (h : pk nb 4 p = true) (hg : sc' = up2 sc p 1 v) : (wC G ad nb X sc ar fr).set p (ad p, .inr (4, [.ref (ad (p + 1)), .int v])) = wC G ad nb X sc' ar fr := by
  subst hg
  exact wC_upd (pkx_lt h) (by rw [cell_4 (pkx_kd h)]; simp [up2]) (fun i hi => cell_sc hi)
end POOL
