def FU : Nat := 1000000
def gd {β : Type} (b : Bool) (k : Option β) : Option β := if b = true then k else none
theorem gd_inv {β : Type} {b : Bool} {k : Option β} {y : β} (h : gd b k = some y) : b = true ∧ k = some y := by
  unfold gd at h
  by_cases hb : b = true
  · rw [if_pos hb] at h; exact ⟨hb, h⟩
  · rw [if_neg hb] at h; cases h
def bd {α β : Type} (x : α) (k : α → Option β) : Option β := k x
theorem bd_inv {α β : Type} {x : α} {k : α → Option β} {y : β} (h : bd x k = some y) : ∃ v, v = x ∧ k v = some y := ⟨x, rfl, h⟩
def rd {β : Type} (f : Nat → Int32) (n : Nat) (i : Int32) (k : Int32 → Option β) : Option β := if inb i n = true then k (f i.toNatClampNeg) else none
theorem rd_inv {β : Type} {f : Nat → Int32} {n : Nat} {i : Int32} {k : Int32 → Option β} {y : β} (h : rd f n i k = some y) : ∃ v, inb i n = true ∧ v = f i.toNatClampNeg ∧ k v = some y := by
  unfold rd at h
  by_cases hb : inb i n = true
  · rw [if_pos hb] at h; exact ⟨_, hb, rfl, h⟩
  · rw [if_neg hb] at h; cases h
def wr {β : Type} (f : Nat → Int32) (n : Nat) (i x : Int32) (k : (Nat → Int32) → Option β) : Option β := if inb i n = true then k (upd f i.toNatClampNeg x) else none
theorem wr_inv {β : Type} {f : Nat → Int32} {n : Nat} {i x : Int32} {k : (Nat → Int32) → Option β} {y : β} (h : wr f n i x k = some y) : ∃ v, inb i n = true ∧ v = upd f i.toNatClampNeg x ∧ k v = some y := by
  unfold wr at h
  by_cases hb : inb i n = true
  · rw [if_pos hb] at h; exact ⟨_, hb, rfl, h⟩
  · rw [if_neg hb] at h; cases h
def bx {α β : Type} (o : Option α) (k : α → Option β) : Option β := match o with
  | none => none
  | some v => k v
theorem bx_inv {α β : Type} {o : Option α} {k : α → Option β} {y : β} (h : bx o k = some y) : ∃ v, o = some v ∧ k v = some y := by
  cases o with
  | none => cases h
  | some v => exact ⟨v, rfl, h⟩
theorem i32_ne {x y : Int32} (h : ¬ x = y) (z : Int) (hz : y.toInt = z) : x.toInt ≠ z := fun q => h (Int32.toInt_inj.mp (q.trans hz.symm))
section TSW
variable {l : Launch} {G : GG} {A : Nat → Prop} {Γ : Cx} {cc : ByteArray} {own : String} {rm : Room} {nL k n pc : Nat} {ws : va_W} {lv : List (Nat × Value)} {rest : List Value}
theorem s_tableIn (C : CX G A Γ cc own rm nL) {dflt lo hi : Int} {offs : Array Int} {len : Nat} {x : Int32} {off : Int} (tgt : Nat) (d : decode cc pc = .ok (.tableswitch dflt lo hi offs, len)) (h1 : ¬ x.toInt < lo) (h2 : ¬ hi < x.toInt) (ho : offs[(x.toInt - lo).toNat]? = some off) (ht : (pc : Int) + off = (tgt : Int)) (K : St l G A Γ k n ws tgt lv rest) : St l G A Γ k n ws pc lv (.int x :: rest) := by
  obtain ⟨p, e, R, s, m, args, below, meth, c, nL, Q⟩ := Γ
  obtain ⟨hx, hb, hml, hown, hts, hK, hA, hN, rfl, rfl⟩ := C
  intro H locs ls hP hD hS hl
  exact lv_tableIn hx hb d h1 h2 ho ht (K H locs ls hP hD hS hl)
theorem s_tableOut (C : CX G A Γ cc own rm nL) {dflt lo hi : Int} {offs : Array Int} {len : Nat} {x : Int32} (tgt : Nat) (d : decode cc pc = .ok (.tableswitch dflt lo hi offs, len)) (h : x.toInt < lo ∨ hi < x.toInt) (ht : (pc : Int) + dflt = (tgt : Int)) (K : St l G A Γ k n ws tgt lv rest) : St l G A Γ k n ws pc lv (.int x :: rest) := by
  obtain ⟨p, e, R, s, m, args, below, meth, c, nL, Q⟩ := Γ
  obtain ⟨hx, hb, hml, hown, hts, hK, hA, hN, rfl, rfl⟩ := C
  intro H locs ls hP hD hS hl
  exact lv_tableOut hx hb d h ht (K H locs ls hP hD hS hl)
theorem s_lookup (C : CX G A Γ cc own rm nL) {dflt : Int} {ps : Array (Int × Int)} {len : Nat} {x : Int32} {off : Int} (tgt : Nat) (d : decode cc pc = .ok (.lookupswitch dflt ps, len)) (hp : (ps.toList.zip (ps.toList.drop 1)).all (fun (a, next) => a.1 < next.1) = true) (ho : Op.lookupswitch.offset ps.toList dflt x.toInt = off) (ht : (pc : Int) + off = (tgt : Int)) (K : St l G A Γ k n ws tgt lv rest) : St l G A Γ k n ws pc lv (.int x :: rest) := by
  obtain ⟨p, e, R, s, m, args, below, meth, c, nL, Q⟩ := Γ
  obtain ⟨hx, hb, hml, hown, hts, hK, hA, hN, rfl, rfl⟩ := C
  intro H locs ls hP hD hS hl
  exact lv_lookup hx hb d hp ho ht (K H locs ls hP hD hS hl)
/-- returns of what has no world -/
theorem rN_I {rt : FieldType} {v r0 : Int32} (hf : some v = some r0) (hn : narrow rt (.int v) = .int v) (hret : ∀ (pc : Nat) (lv : List (Nat × Value)), decode cc pc = .ok (.ireturn, 1) → narrow rt (.int r0) = .int r0 → St l G A Γ k n ws pc lv [.int r0]) (d : decode cc pc = .ok (.ireturn, 1)) : St l G A Γ k n ws pc lv [.int v] := by
  cases hf; exact hret _ _ d hn
theorem rN_L {v r0 : Int64} (hf : some v = some r0) (hret : ∀ (pc : Nat) (lv : List (Nat × Value)), decode cc pc = .ok (.lreturn, 1) → St l G A Γ k n ws pc lv [.long r0]) (d : decode cc pc = .ok (.lreturn, 1)) : St l G A Γ k n ws pc lv [.long v] := by
  cases hf; exact hret _ _ d
end TSW
/-! the reference's world: its object and its row st; kept, isKept among the rest X -/
abbrev MS : Type := (Nat → Int32) × Int32 × Int64 × Int32 × Int32
abbrev wM (G : GG) (h a1 a2 a3 : Nat) (X : va_W) (st : Nat → Int32) (wt : Int32) (sm : Int64) (ld ln : Int32) : va_W := (h, .inr (6, [.ref a1, .ref a2, .ref a3, .int wt, .long sm, .int ld, .int ln])) :: (a1, .inl (G.2 0, 8000, .inl st)) :: X
section MRET
variable {l : Launch} {G : GG} {A : Nat → Prop} {Γ : Cx} {cc : ByteArray} {k n pc : Nat} {lv : List (Nat × Value)} {h a1 a2 a3 : Nat} {X : va_W} {st st0 : Nat → Int32} {wt wt0 : Int32} {sm sm0 : Int64} {ld ln ld0 ln0 : Int32}
theorem rM_I {rt : FieldType} {v r0 : Int32} (hf : some (v, st, wt, sm, ld, ln) = some (r0, st0, wt0, sm0, ld0, ln0)) (hn : narrow rt (.int v) = .int v) (hret : ∀ (pc : Nat) (lv : List (Nat × Value)), decode cc pc = .ok (.ireturn, 1) → narrow rt (.int r0) = .int r0 → St l G A Γ k n (wM G h a1 a2 a3 X st0 wt0 sm0 ld0 ln0) pc lv [.int r0]) (d : decode cc pc = .ok (.ireturn, 1)) : St l G A Γ k n (wM G h a1 a2 a3 X st wt sm ld ln) pc lv [.int v] := by
  cases hf; exact hret _ _ d hn
theorem rM_L {v r0 : Int64} (hf : some (v, st, wt, sm, ld, ln) = some (r0, st0, wt0, sm0, ld0, ln0)) (hret : ∀ (pc : Nat) (lv : List (Nat × Value)), decode cc pc = .ok (.lreturn, 1) → St l G A Γ k n (wM G h a1 a2 a3 X st0 wt0 sm0 ld0 ln0) pc lv [.long r0]) (d : decode cc pc = .ok (.lreturn, 1)) : St l G A Γ k n (wM G h a1 a2 a3 X st wt sm ld ln) pc lv [.long v] := by
  cases hf; exact hret _ _ d
theorem rM_V (hf : some (st, wt, sm, ld, ln) = some (st0, wt0, sm0, ld0, ln0)) (hret : ∀ (pc : Nat) (lv : List (Nat × Value)), decode cc pc = .ok (.return_, 1) → St l G A Γ k n (wM G h a1 a2 a3 X st0 wt0 sm0 ld0 ln0) pc lv []) (d : decode cc pc = .ok (.return_, 1)) : St l G A Γ k n (wM G h a1 a2 a3 X st wt sm ld ln) pc lv [] := by
  cases hf; exact hret _ _ d
end MRET
def bM {α β : Type} (o : Option (α × (Nat → Int32) × Int32 × Int64 × Int32 × Int32)) (k : α → (Nat → Int32) → Int32 → Int64 → Int32 → Int32 → Option β) : Option β := match o with
  | none => none
  | some (r, a, b, c, d, e) => k r a b c d e
theorem bM_inv {α β : Type} {o : Option (α × (Nat → Int32) × Int32 × Int64 × Int32 × Int32)} {k : α → (Nat → Int32) → Int32 → Int64 → Int32 → Int32 → Option β} {y : β} (h : bM o k = some y) : ∃ r a b c d e, o = some (r, a, b, c, d, e) ∧ k r a b c d e = some y := by
  match o, h with
  | some (r, a, b, c, d, e), h => exact ⟨r, a, b, c, d, e, rfl, h⟩
def bMv {β : Type} (o : Option ((Nat → Int32) × Int32 × Int64 × Int32 × Int32)) (k : (Nat → Int32) → Int32 → Int64 → Int32 → Int32 → Option β) : Option β := match o with
  | none => none
  | some (a, b, c, d, e) => k a b c d e
theorem bMv_inv {β : Type} {o : Option ((Nat → Int32) × Int32 × Int64 × Int32 × Int32)} {k : (Nat → Int32) → Int32 → Int64 → Int32 → Int32 → Option β} {y : β} (h : bMv o k = some y) : ∃ a b c d e, o = some (a, b, c, d, e) ∧ k a b c d e = some y := by
  match o, h with
  | some (a, b, c, d, e), h => exact ⟨a, b, c, d, e, rfl, h⟩
