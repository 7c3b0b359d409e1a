theorem inb_lt {i : Int32} {n : Nat} (h : inb i n = true) : i.toNatClampNeg < n := by
  simp only [inb, Bool.and_eq_true, decide_eq_true_eq] at h
  exact h.2
section CST
variable {l : Launch} {G : GG} {A : Nat → Prop} {Γ : Cx} {cc : ByteArray} {own : String} {rm : Room} {nL k n pc : Nat} {lv : List (Nat × Value)} {rest : List Value}
variable {ad : Nat → Nat} {nb : Nat} {X : va_W} {sc ar sc' ar' : Nat → Nat → Int32} {fr fr' : Nat → Nat → Nat} {p : Nat}
theorem s_nmr {q x : Nat} {ws : va_W} (h : q = x) (K : St l G A Γ k n ws pc lv (.ref (ad q) :: rest)) : St l G A Γ k n ws pc lv (.ref (ad x) :: rest) := h ▸ K
theorem s_aald9 (C : CX G A Γ cc own rm nL) {i : Int32} (hk : pk nb 9 p = true) (hi : inb i 2 = true) (d : decode cc pc = .ok (.aaload, 1)) (K : St l G A Γ k n (wC G ad nb X sc ar fr) (pc + 1) lv (.ref (ad (p + 1 + 8 * i.toNatClampNeg)) :: rest)) : St l G A Γ k n (wC G ad nb X sc ar fr) pc lv (.int i :: .ref (ad p) :: rest) := by
  obtain ⟨p, e, R, s, m, args, below, meth, c, nL, Q⟩ := Γ
  obtain ⟨hx, hb, hml, hown, hts, hK, hA, hN, rfl, rfl⟩ := C
  intro H locs ls hP hD hS hl
  refine va_aldq hx hb hK hP _ 2 (wC_9 hk) rfl (inb_in hi) d ?_
  rw [if_pos (inb_lt hi)]
  exact K H locs ls hP hD hS hl
theorem s_aald12 (C : CX G A Γ cc own rm nL) {i : Int32} (hk : pk nb 12 p = true) (hi : inb i 2 = true) (d : decode cc pc = .ok (.aaload, 1)) (K : St l G A Γ k n (wC G ad nb X sc ar fr) (pc + 1) lv (.ref (ad (p + 1 + 26 * i.toNatClampNeg)) :: rest)) : St l G A Γ k n (wC G ad nb X sc ar fr) pc lv (.int i :: .ref (ad p) :: rest) := by
  obtain ⟨p, e, R, s, m, args, below, meth, c, nL, Q⟩ := Γ
  obtain ⟨hx, hb, hml, hown, hts, hK, hA, hN, rfl, rfl⟩ := C
  intro H locs ls hP hD hS hl
  refine va_aldq hx hb hK hP _ 5 (wC_12 hk) rfl (inb_in hi) d ?_
  rw [if_pos (inb_lt hi)]
  exact K H locs ls hP hD hS hl
theorem s_aald10 (C : CX G A Γ cc own rm nL) {i : Int32} (hk : pk nb 10 p = true) (hi : inb i 12 = true) (d : decode cc pc = .ok (.aaload, 1)) (K : St l G A Γ k n (wC G ad nb X sc ar fr) (pc + 1) lv (.ref (ad (fr p i.toNatClampNeg)) :: rest)) : St l G A Γ k n (wC G ad nb X sc ar fr) pc lv (.int i :: .ref (ad p) :: rest) := by
  obtain ⟨p, e, R, s, m, args, below, meth, c, nL, Q⟩ := Γ
  obtain ⟨hx, hb, hml, hown, hts, hK, hA, hN, rfl, rfl⟩ := C
  intro H locs ls hP hD hS hl
  refine va_aldq hx hb hK hP _ 3 (wC_10 hk) rfl (inb_in hi) d ?_
  rw [if_pos (inb_lt hi)]
  exact K H locs ls hP hD hS hl
theorem s_aast10 (C : CX G A Γ cc own rm nL) {i : Int32} {v : Nat} (hk : pk nb 10 p = true) (hi : inb i 12 = true) (hv : pk nb 1 v = true) (hg : fr' = up2 fr p i.toNatClampNeg v) (d : decode cc pc = .ok (.aastore, 1)) (K : St l G A Γ k n (wC G ad nb X sc ar fr') (pc + 1) lv rest) : St l G A Γ k n (wC G ad nb X sc ar fr) pc lv (.ref (ad v) :: .int i :: .ref (ad p) :: rest) := by
  obtain ⟨p, e, R, s, m, args, below, meth, c, nL, Q⟩ := Γ
  obtain ⟨hx, hb, hml, hown, hts, hK, hA, hN, rfl, rfl⟩ := C
  intro H locs ls hP hD hS hl
  refine va_astq hx hb hK hP hD hS _ 3 _ 1 (wC_10 hk) rfl (wC_1 hv) rfl (inb_in hi) d (fun H1 locs1 hP hD hS => ?_)
  rw [wC_fr hk _ _ (inb_lt hi) hg] at hP hD
  exact K H1 locs1 ls hP hD hS hl
theorem s_ciald (C : CX G A Γ cc own rm nL) {i : Int32} (hk : pk nb 7 p = true) (hi : inb i (lnA p) = true) (d : decode cc pc = .ok (.iaload, 1)) (K : St l G A Γ k n (wC G ad nb X sc ar fr) (pc + 1) lv (.int (ar p i.toNatClampNeg) :: rest)) : St l G A Γ k n (wC G ad nb X sc ar fr) pc lv (.int i :: .ref (ad p) :: rest) := s_iald C p (wC_7 hk) hi d K
theorem s_ciast (C : CX G A Γ cc own rm nL) {i x : Int32} (hk : pk nb 7 p = true) (hi : inb i (lnA p) = true) (hg : ar' = va_up ar p (upd (ar p) i.toNatClampNeg x)) (d : decode cc pc = .ok (.iastore, 1)) (K : St l G A Γ k n (wC G ad nb X sc ar' fr) (pc + 1) lv rest) : St l G A Γ k n (wC G ad nb X sc ar fr) pc lv (.int x :: .int i :: .ref (ad p) :: rest) := s_iast C p (wC_7 hk) hi _ (wC_ar hk _ hg) d K
theorem s_calen (C : CX G A Γ cc own rm nL) (hk : pk nb 7 p = true) (d : decode cc pc = .ok (.arraylength, 1)) (K : St l G A Γ k n (wC G ad nb X sc ar fr) (pc + 1) lv (.int (nI (lnA p)) :: rest)) : St l G A Γ k n (wC G ad nb X sc ar fr) pc lv (.ref (ad p) :: rest) := s_alen C p (wC_7 hk) rfl d K
/-- System.arraycopy over two int rows of the pool -/
def cpok (nb : Nat) (p : Nat) (sp : Int32) (q : Nat) (dp z : Int32) : Bool := pk nb 7 p && pk nb 7 q && decide (¬ sp < 0) && decide (¬ dp < 0) && decide (¬ z < 0) && decide (sp.toNatClampNeg + z.toNatClampNeg ≤ lnA p) && decide (dp.toNatClampNeg + z.toNatClampNeg ≤ lnA q)
theorem s_copy (C : CX G A Γ cc own rm nL) {ix q : Nat} {sp dp z : Int32} (hl1 : Cond.methodLink own ix arraycopyName ∈ lw_g) (h : cpok nb p sp q dp z = true) (hg : ar' = va_up ar q (va_cpy (ar p) (ar q) sp.toNatClampNeg dp.toNatClampNeg z.toNatClampNeg)) (hR : 1 ≤ rm.frames ∧ (rest.map fun v => v.category).sum + 18 ≤ rm.locals) (d : decode cc pc = .ok (.invokestatic ix, 3)) (K : St l G A Γ k n (wC G ad nb X sc ar' fr) (pc + 3) lv rest) : St l G A Γ k n (wC G ad nb X sc ar fr) pc lv (.int z :: .int dp :: .ref (ad q) :: .int sp :: .ref (ad p) :: rest) := by
  obtain ⟨p, e, R, s, m, args, below, meth, c, nL, Q⟩ := Γ
  obtain ⟨hx, hb, hml, hown, hts, hK, hA, hN, rfl, rfl⟩ := C
  intro H locs ls hP hD hS hl
  simp only [cpok, Bool.and_eq_true, decide_eq_true_eq] at h
  obtain ⟨⟨⟨⟨⟨⟨h1, h2⟩, h3⟩, h4⟩, h5⟩, h6⟩, h7⟩ := h
  refine va_copyi hx hb (hml.trans hl.1.symm) hown (hts _ hl1) (hts _ tw_216) (hts _ tw_215) (hts _ tw_8) hK hP hD hS _ _ 0 0 (wC_7 h1) (wC_7 h2) rfl rfl rfl h3 h4 h5 h6 h7 (fun i _ => rfl) hR.1 (by have := hR.2; exact this) d (fun H1 locs1 hP hD hS => ?_)
  rw [wC_ar h2 _ hg] at hP hD
  exact K H1 locs1 ls hP hD hS hl
theorem s_min {ws : va_W} (C : CX G A Γ cc own rm nL) {ix : Nat} {x y : Int32} (hl1 : Cond.methodLink own ix Lib.Math.min.name ∈ lw_g) (hR : 1 ≤ rm.frames ∧ (rest.map fun v => v.category).sum + 13 ≤ rm.locals) (hc : k ≤ rm.cells ∧ n ≤ rm.slots) (d : decode cc pc = .ok (.invokestatic ix, 3)) (K : St l G A Γ k n ws (pc + 3) lv (.int (if y < x then y else x) :: rest)) : St l G A Γ k n ws pc lv (.int y :: .int x :: rest) := by
  obtain ⟨p, e, R, s, m, args, below, meth, c, nL, Q⟩ := Γ
  obtain ⟨hx, hb, hml, hown, hts, hK, hA, hN, rfl, rfl⟩ := C
  intro H locs ls hP hD hS hl
  exact va_mmin hx hb (hml.trans hl.1.symm) hown (hts _ hl1) (hts _ tw_339) (hts _ tw_9) (hts _ tw_340) hR.1 hR.2 hc.1 hc.2 d (K H locs ls hP hD hS hl)
theorem rC_I {rt : FieldType} {v r0 : Int32} (hf : some (v, sc, ar, fr) = some (r0, sc', ar', fr')) (hn : narrow rt (.int v) = .int v) (hret : ∀ (pc : Nat) (lv : List (Nat × Value)), decode cc pc = .ok (.ireturn, 1) → narrow rt (.int r0) = .int r0 → St l G A Γ k n (wC G ad nb X sc' ar' fr') pc lv [.int r0]) (d : decode cc pc = .ok (.ireturn, 1)) : St l G A Γ k n (wC G ad nb X sc ar fr) pc lv [.int v] := by
  cases hf; exact hret _ _ d hn
theorem rC_L {v r0 : Int64} (hf : some (v, sc, ar, fr) = some (r0, sc', ar', fr')) (hret : ∀ (pc : Nat) (lv : List (Nat × Value)), decode cc pc = .ok (.lreturn, 1) → St l G A Γ k n (wC G ad nb X sc' ar' fr') pc lv [.long r0]) (d : decode cc pc = .ok (.lreturn, 1)) : St l G A Γ k n (wC G ad nb X sc ar fr) pc lv [.long v] := by
  cases hf; exact hret _ _ d
theorem rC_V (hf : some (sc, ar, fr) = some (sc', ar', fr')) (hret : ∀ (pc : Nat) (lv : List (Nat × Value)), decode cc pc = .ok (.return_, 1) → St l G A Γ k n (wC G ad nb X sc' ar' fr') pc lv []) (d : decode cc pc = .ok (.return_, 1)) : St l G A Γ k n (wC G ad nb X sc ar fr) pc lv [] := by
  cases hf; exact hret _ _ d
theorem rC_R {v r0 : Nat} (hf : some (v, sc, ar, fr) = some (r0, sc', ar', fr')) (hret : ∀ (pc : Nat) (lv : List (Nat × Value)), decode cc pc = .ok (.areturn, 1) → St l G A Γ k n (wC G ad nb X sc' ar' fr') pc lv [.ref (ad r0)]) (d : decode cc pc = .ok (.areturn, 1)) : St l G A Γ k n (wC G ad nb X sc ar fr) pc lv [.ref (ad v)] := by
  cases hf; exact hret _ _ d
end CST
def rdA {β : Type} (nb : Nat) (ar : Nat → Nat → Int32) (p : Nat) (i : Int32) (k : Int32 → Option β) : Option β := if (pk nb 7 p && inb i (lnA p)) = true then k (ar p i.toNatClampNeg) else none
theorem rdA_inv {β : Type} {nb : Nat} {ar : Nat → Nat → Int32} {p : Nat} {i : Int32} {k : Int32 → Option β} {y : β} (h : rdA nb ar p i k = some y) : ∃ v, pk nb 7 p = true ∧ inb i (lnA p) = true ∧ v = ar p i.toNatClampNeg ∧ k v = some y := by
  unfold rdA at h
  split at h
  · next hb => rw [Bool.and_eq_true] at hb; exact ⟨_, hb.1, hb.2, rfl, h⟩
  · cases h
def wrA {β : Type} (nb : Nat) (ar : Nat → Nat → Int32) (p : Nat) (i x : Int32) (k : (Nat → Nat → Int32) → Option β) : Option β := if (pk nb 7 p && inb i (lnA p)) = true then k (va_up ar p (upd (ar p) i.toNatClampNeg x)) else none
theorem wrA_inv {β : Type} {nb : Nat} {ar : Nat → Nat → Int32} {p : Nat} {i x : Int32} {k : (Nat → Nat → Int32) → Option β} {y : β} (h : wrA nb ar p i x k = some y) : ∃ v, pk nb 7 p = true ∧ inb i (lnA p) = true ∧ v = va_up ar p (upd (ar p) i.toNatClampNeg x) ∧ k v = some y := by
  unfold wrA at h
  split at h
  · next hb => rw [Bool.and_eq_true] at hb; exact ⟨_, hb.1, hb.2, rfl, h⟩
  · cases h
def rdR {β : Type} (nb K m : Nat) (p : Nat) (i : Int32) (q : Nat) (k : Nat → Option β) : Option β := if (pk nb K p && inb i m) = true then k q else none
theorem rdR_inv {β : Type} {nb K m : Nat} {p : Nat} {i : Int32} {q : Nat} {k : Nat → Option β} {y : β} (h : rdR nb K m p i q k = some y) : ∃ v, pk nb K p = true ∧ inb i m = true ∧ v = q ∧ k v = some y := by
  unfold rdR at h
  split at h
  · next hb => rw [Bool.and_eq_true] at hb; exact ⟨_, hb.1, hb.2, rfl, h⟩
  · cases h
def wrF {β : Type} (nb : Nat) (fr : Nat → Nat → Nat) (p : Nat) (i : Int32) (v : Nat) (k : (Nat → Nat → Nat) → Option β) : Option β := if (pk nb 10 p && inb i 12 && pk nb 1 v) = true then k (up2 fr p i.toNatClampNeg v) else none
theorem wrF_inv {β : Type} {nb : Nat} {fr : Nat → Nat → Nat} {p : Nat} {i : Int32} {v : Nat} {k : (Nat → Nat → Nat) → Option β} {y : β} (h : wrF nb fr p i v k = some y) : ∃ f, pk nb 10 p = true ∧ inb i 12 = true ∧ pk nb 1 v = true ∧ f = up2 fr p i.toNatClampNeg v ∧ k f = some y := by
  unfold wrF at h
  split at h
  · next hb => rw [Bool.and_eq_true, Bool.and_eq_true] at hb; exact ⟨_, hb.1.1, hb.1.2, hb.2, rfl, h⟩
  · cases h
def cpA {β : Type} (nb : Nat) (ar : Nat → Nat → Int32) (p : Nat) (sp : Int32) (q : Nat) (dp z : Int32) (k : (Nat → Nat → Int32) → Option β) : Option β := if cpok nb p sp q dp z = true then k (va_up ar q (va_cpy (ar p) (ar q) sp.toNatClampNeg dp.toNatClampNeg z.toNatClampNeg)) else none
theorem cpA_inv {β : Type} {nb : Nat} {ar : Nat → Nat → Int32} {p : Nat} {sp : Int32} {q : Nat} {dp z : Int32} {k : (Nat → Nat → Int32) → Option β} {y : β} (h : cpA nb ar p sp q dp z k = some y) : ∃ v, cpok nb p sp q dp z = true ∧ v = va_up ar q (va_cpy (ar p) (ar q) sp.toNatClampNeg dp.toNatClampNeg z.toNatClampNeg) ∧ k v = some y := by
  unfold cpA at h
  split at h
  · next hb => exact ⟨_, hb, rfl, h⟩
  · cases h
def bC {α β : Type} (o : Option (α × (Nat → Nat → Int32) × (Nat → Nat → Int32) × (Nat → Nat → Nat))) (k : α → (Nat → Nat → Int32) → (Nat → Nat → Int32) → (Nat → Nat → Nat) → Option β) : Option β := match o with
  | none => none
  | some (r, a, b, c) => k r a b c
theorem bC_inv {α β : Type} {o : Option (α × (Nat → Nat → Int32) × (Nat → Nat → Int32) × (Nat → Nat → Nat))} {k : α → (Nat → Nat → Int32) → (Nat → Nat → Int32) → (Nat → Nat → Nat) → Option β} {y : β} (h : bC o k = some y) : ∃ r a b c, o = some (r, a, b, c) ∧ k r a b c = some y := by
  match o, h with
  | some (r, a, b, c), h => exact ⟨r, a, b, c, rfl, h⟩
def bCv {β : Type} (o : Option ((Nat → Nat → Int32) × (Nat → Nat → Int32) × (Nat → Nat → Nat))) (k : (Nat → Nat → Int32) → (Nat → Nat → Int32) → (Nat → Nat → Nat) → Option β) : Option β := match o with
  | none => none
  | some (a, b, c) => k a b c
theorem bCv_inv {β : Type} {o : Option ((Nat → Nat → Int32) × (Nat → Nat → Int32) × (Nat → Nat → Nat))} {k : (Nat → Nat → Int32) → (Nat → Nat → Int32) → (Nat → Nat → Nat) → Option β} {y : β} (h : bCv o k = some y) : ∃ a b c, o = some (a, b, c) ∧ k a b c = some y := by
  match o, h with
  | some (a, b, c), h => exact ⟨a, b, c, rfl, h⟩
abbrev xP (ad : Nat → Nat) (h a0 : Nat) (X : va_W) : va_W := (h, .inr (5, [.ref (ad 0), .ref a0])) :: X
theorem lk_c {ps : List (Int × Int)} {d off : Int} {x k : Int32} (c : x = k) (h : Op.lookupswitch.offset ps d k.toInt = off) : Op.lookupswitch.offset ps d x.toInt = off := by rw [c]; exact h
