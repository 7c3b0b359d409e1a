/-! the judgement St: the machine at a pc, with the world ws, the locals lv, the stack stk, comes to its goal -/
abbrev GG : Type := va_G × (Nat → ClassId)
def tyG (G : GG) : List (ClassId × FieldType) := [(G.2 0, .int), (G.2 1, .boolean), (G.2 2, .object "ReplayLink$End"), (G.2 3, .object "ReplayLink$Frame"), (G.2 4, .object "ReplayLink$Link"), (G.2 5, .object "ReplayLink$Wire")]
abbrev Cx : Type := Program × Env × Room × State × MethodId × Array Value × List Frame × Method × Code × Nat × (State → Prop)
def St (l : Launch) (G : GG) (A : Nat → Prop) (Γ : Cx) (k n : Nat) (ws : va_W) (pc : Nat) (lv : List (Nat × Value)) (stk : List Value) : Prop :=
  match Γ with
  | (p, e, R, s, m, args, below, meth, c, nL, Q) => ∀ (H : Heap) (locs : List Loc) (ls : Array Slot), va_P G.1 vwCl ws H → va_D A ws → va_S A s.heap H locs → lv_has ls nL lv → W p l e R s m args below meth c H locs k n Q (F0 m pc ls stk)
def CX (G : GG) (A : Nat → Prop) (Γ : Cx) (cc : ByteArray) (own : String) (rm : Room) (nL' : Nat) : Prop :=
  match Γ with
  | (p, _, R, s, m, args, _, _, c, nL, _) => p.tables.exec = Jvm.exec ∧ c.code = cc ∧ c.maxLocals = nL ∧ s.vm.findClass own = some m.cls ∧ (∀ w ∈ lw_g, w.before args s = true) ∧ va_K G.1 vwCl (tyG G) s ∧ (∀ q, s.heap.size ≤ q → A q) ∧ NW s ∧ R = rm ∧ nL = nL'
/-- what a method needs of the world ahead of it -/
def gB (G : GG) (A : Nat → Prop) (ws : va_W) (U : State) : Prop := va_P G.1 vwCl ws U.heap ∧ va_K G.1 vwCl (tyG G) U ∧ va_D A ws
abbrev gPc (G : GG) (A : Nat → Prop) (ws : va_W) (av : List Value) : Array Value → State → Prop := va_Pc av (fun U => (∀ q, U.heap.size ≤ q → A q) ∧ NW U ∧ gB G A ws U)
abbrev gQi (G : GG) (A : Nat → Prop) (ws : va_W) (r : Int32) : Array Value → State → Outcome → State → Prop := va_Qi (fun z (_ : Unit) => z = r) (fun _ t => gB G A ws t) A
abbrev gQl (G : GG) (A : Nat → Prop) (ws : va_W) (r : Int64) : Array Value → State → Outcome → State → Prop := va_Ql (fun z (_ : Unit) => z = r) (fun _ t => gB G A ws t) A
abbrev gQv (G : GG) (A : Nat → Prop) (ws : va_W) : Array Value → State → Outcome → State → Prop := va_Qv (fun (_ : Unit) => True) (fun _ t => gB G A ws t) A
abbrev gQr (G : GG) (A : Nat → Prop) (ws : va_W) (a : Nat) : Array Value → State → Outcome → State → Prop := va_Qr (fun (_ : Unit) => True) (fun _ b t => b = a ∧ gB G A ws t) A
/-- the contracts -/
abbrev MI (l : Launch) (y : MethodName) (cc : ByteArray) (mL : Nat) (rt : FieldType) (rm : Room) (G : GG) (A : Nat → Prop) (ws : va_W) (av : List Value) (r : Int32) (ws' : va_W) : Prop := Met l y (Cond.code y cc mL (some rt) :: lw_g) rm (gPc G A ws av) (gQi G A ws' r) rm.cells rm.slots A
abbrev ML (l : Launch) (y : MethodName) (cc : ByteArray) (mL : Nat) (rm : Room) (G : GG) (A : Nat → Prop) (ws : va_W) (av : List Value) (r : Int64) (ws' : va_W) : Prop := Met l y (Cond.code y cc mL (some .long) :: lw_g) rm (gPc G A ws av) (gQl G A ws' r) rm.cells rm.slots A
abbrev MV (l : Launch) (y : MethodName) (cc : ByteArray) (mL : Nat) (rm : Room) (G : GG) (A : Nat → Prop) (ws : va_W) (av : List Value) (ws' : va_W) : Prop := Met l y (Cond.code y cc mL none :: lw_g) rm (gPc G A ws av) (gQv G A ws') rm.cells rm.slots A
abbrev MR (l : Launch) (y : MethodName) (cc : ByteArray) (mL : Nat) (rt : FieldType) (rm : Room) (G : GG) (A : Nat → Prop) (ws : va_W) (av : List Value) (a : Nat) (ws' : va_W) : Prop := Met l y (Cond.code y cc mL (some rt) :: lw_g) rm (gPc G A ws av) (gQr G A ws' a) rm.cells rm.slots A
section STEPS
variable {l : Launch} {G : GG} {A : Nat → Prop} {Γ : Cx} {cc : ByteArray} {own : String} {rm : Room} {nL k n pc : Nat} {ws : va_W} {lv : List (Nat × Value)} {rest : List Value}
theorem s_iconst (C : CX G A Γ cc own rm nL) {z : Int} {v : Int32} (d : decode cc pc = .ok (.iconst z, 1)) (hv : Int32.ofInt z = v) (K : St l G A Γ k n ws (pc + 1) lv (.int v :: rest)) : St l G A Γ k n ws pc lv rest := by
  obtain ⟨p, e, R, s, m, args, below, meth, c, nL, Q⟩ := Γ
  obtain ⟨hx, hb, hml, hown, hts, hK, hA, hN, rfl, rfl⟩ := C
  intro H locs ls hP hD hS hl
  exact lv_iconst hx hb d hv (K H locs ls hP hD hS hl)
theorem s_bipush (C : CX G A Γ cc own rm nL) {z : Int} {v : Int32} (d : decode cc pc = .ok (.bipush z, 2)) (hv : (Int8.ofInt z).toInt32 = v) (K : St l G A Γ k n ws (pc + 2) lv (.int v :: rest)) : St l G A Γ k n ws pc lv rest := by
  obtain ⟨p, e, R, s, m, args, below, meth, c, nL, Q⟩ := Γ
  obtain ⟨hx, hb, hml, hown, hts, hK, hA, hN, rfl, rfl⟩ := C
  intro H locs ls hP hD hS hl
  exact lv_bipush hx hb d hv (K H locs ls hP hD hS hl)
theorem s_sipush (C : CX G A Γ cc own rm nL) {z : Int} {v : Int32} (d : decode cc pc = .ok (.sipush z, 3)) (hv : (Int16.ofInt z).toInt32 = v) (K : St l G A Γ k n ws (pc + 3) lv (.int v :: rest)) : St l G A Γ k n ws pc lv rest := by
  obtain ⟨p, e, R, s, m, args, below, meth, c, nL, Q⟩ := Γ
  obtain ⟨hx, hb, hml, hown, hts, hK, hA, hN, rfl, rfl⟩ := C
  intro H locs ls hP hD hS hl
  exact lv_sipush hx hb d hv (K H locs ls hP hD hS hl)
theorem s_lconst (C : CX G A Γ cc own rm nL) {z : Fin 2} {v : Int64} (d : decode cc pc = .ok (.lconst z, 1)) (hv : Int64.ofNat (z : Nat) = v) (K : St l G A Γ k n ws (pc + 1) lv (.long v :: rest)) : St l G A Γ k n ws pc lv rest := by
  obtain ⟨p, e, R, s, m, args, below, meth, c, nL, Q⟩ := Γ
  obtain ⟨hx, hb, hml, hown, hts, hK, hA, hN, rfl, rfl⟩ := C
  intro H locs ls hP hD hS hl
  exact lv_lconst hx hb d hv (K H locs ls hP hD hS hl)
theorem s_ldc2 (C : CX G A Γ cc own rm nL) {ix : Nat} {v : Int64} (hc : Cond.constantLong own ix v ∈ lw_g) (d : decode cc pc = .ok (.ldc2_w ix, 3)) (K : St l G A Γ k n ws (pc + 3) lv (.long v :: rest)) : St l G A Γ k n ws pc lv rest := by
  obtain ⟨p, e, R, s, m, args, below, meth, c, nL, Q⟩ := Γ
  obtain ⟨hx, hb, hml, hown, hts, hK, hA, hN, rfl, rfl⟩ := C
  intro H locs ls hP hD hS hl
  exact lv_ldc2 hx hb hown (hts _ hc) d (K H locs ls hP hD hS hl)
theorem s_iload_n (C : CX G A Γ cc own rm nL) {z : Fin 4} {x : Int32} (q : Nat) (d : decode cc pc = .ok (.iload_n z, 1)) (hq : lv[q]? = some ((z : Nat), .int x)) (K : St l G A Γ k n ws (pc + 1) lv (.int x :: rest)) : St l G A Γ k n ws pc lv rest := by
  obtain ⟨p, e, R, s, m, args, below, meth, c, nL, Q⟩ := Γ
  obtain ⟨hx, hb, hml, hown, hts, hK, hA, hN, rfl, rfl⟩ := C
  intro H locs ls hP hD hS hl
  exact lv_iload_n hx hb d rfl (lv_at hl q hq) (K H locs ls hP hD hS hl)
theorem s_iload (C : CX G A Γ cc own rm nL) {i : Nat} {x : Int32} (q : Nat) (d : decode cc pc = .ok (.iload i, 2)) (hq : lv[q]? = some (i, .int x)) (K : St l G A Γ k n ws (pc + 2) lv (.int x :: rest)) : St l G A Γ k n ws pc lv rest := by
  obtain ⟨p, e, R, s, m, args, below, meth, c, nL, Q⟩ := Γ
  obtain ⟨hx, hb, hml, hown, hts, hK, hA, hN, rfl, rfl⟩ := C
  intro H locs ls hP hD hS hl
  exact lv_iload hx hb d (lv_at hl q hq) (K H locs ls hP hD hS hl)
theorem s_lload_n (C : CX G A Γ cc own rm nL) {z : Fin 4} {x : Int64} (q : Nat) (d : decode cc pc = .ok (.lload_n z, 1)) (hq : lv[q]? = some ((z : Nat), .long x)) (K : St l G A Γ k n ws (pc + 1) lv (.long x :: rest)) : St l G A Γ k n ws pc lv rest := by
  obtain ⟨p, e, R, s, m, args, below, meth, c, nL, Q⟩ := Γ
  obtain ⟨hx, hb, hml, hown, hts, hK, hA, hN, rfl, rfl⟩ := C
  intro H locs ls hP hD hS hl
  exact lv_lload_n hx hb d rfl (lv_at hl q hq) (K H locs ls hP hD hS hl)
theorem s_lload (C : CX G A Γ cc own rm nL) {i : Nat} {x : Int64} (q : Nat) (d : decode cc pc = .ok (.lload i, 2)) (hq : lv[q]? = some (i, .long x)) (K : St l G A Γ k n ws (pc + 2) lv (.long x :: rest)) : St l G A Γ k n ws pc lv rest := by
  obtain ⟨p, e, R, s, m, args, below, meth, c, nL, Q⟩ := Γ
  obtain ⟨hx, hb, hml, hown, hts, hK, hA, hN, rfl, rfl⟩ := C
  intro H locs ls hP hD hS hl
  exact lv_lload hx hb d (lv_at hl q hq) (K H locs ls hP hD hS hl)
theorem s_aload_n (C : CX G A Γ cc own rm nL) {z : Fin 4} {x : Nat} (q : Nat) (d : decode cc pc = .ok (.aload_n z, 1)) (hq : lv[q]? = some ((z : Nat), .ref x)) (K : St l G A Γ k n ws (pc + 1) lv (.ref x :: rest)) : St l G A Γ k n ws pc lv rest := by
  obtain ⟨p, e, R, s, m, args, below, meth, c, nL, Q⟩ := Γ
  obtain ⟨hx, hb, hml, hown, hts, hK, hA, hN, rfl, rfl⟩ := C
  intro H locs ls hP hD hS hl
  exact lv_aload_n hx hb d rfl (lv_at hl q hq) (K H locs ls hP hD hS hl)
theorem s_aload (C : CX G A Γ cc own rm nL) {i x : Nat} (q : Nat) (d : decode cc pc = .ok (.aload i, 2)) (hq : lv[q]? = some (i, .ref x)) (K : St l G A Γ k n ws (pc + 2) lv (.ref x :: rest)) : St l G A Γ k n ws pc lv rest := by
  obtain ⟨p, e, R, s, m, args, below, meth, c, nL, Q⟩ := Γ
  obtain ⟨hx, hb, hml, hown, hts, hK, hA, hN, rfl, rfl⟩ := C
  intro H locs ls hP hD hS hl
  exact lv_aload hx hb d (lv_at hl q hq) (K H locs ls hP hD hS hl)
theorem s_istore_n (C : CX G A Γ cc own rm nL) {z : Fin 4} {x : Int32} (lv' : List (Nat × Value)) (d : decode cc pc = .ok (.istore_n z, 1)) (hn : (z : Nat) < nL) (hl' : ((z : Nat), Value.int x) :: lv.filter (fun q => !(q.1 == (z : Nat)) && !(q.1 + 1 == (z : Nat) && q.2.category == 2)) = lv') (K : St l G A Γ k n ws (pc + 1) lv' rest) : St l G A Γ k n ws pc lv (.int x :: rest) := by
  obtain ⟨p, e, R, s, m, args, below, meth, c, nL, Q⟩ := Γ
  obtain ⟨hx, hb, hml, hown, hts, hK, hA, hN, rfl, rfl⟩ := C
  intro H locs ls hP hD hS hl
  exact lv_istore_n hx hb d rfl hl hn hl' (fun ls' h => K H locs ls' hP hD hS h)
theorem s_istore (C : CX G A Γ cc own rm nL) {i : Nat} {x : Int32} (lv' : List (Nat × Value)) (d : decode cc pc = .ok (.istore i, 2)) (hn : i < nL) (hl' : (i, Value.int x) :: lv.filter (fun q => !(q.1 == i) && !(q.1 + 1 == i && q.2.category == 2)) = lv') (K : St l G A Γ k n ws (pc + 2) lv' rest) : St l G A Γ k n ws pc lv (.int x :: rest) := by
  obtain ⟨p, e, R, s, m, args, below, meth, c, nL, Q⟩ := Γ
  obtain ⟨hx, hb, hml, hown, hts, hK, hA, hN, rfl, rfl⟩ := C
  intro H locs ls hP hD hS hl
  exact lv_istore hx hb d hl hn hl' (fun ls' h => K H locs ls' hP hD hS h)
theorem s_astore_n (C : CX G A Γ cc own rm nL) {z : Fin 4} {x : Nat} (lv' : List (Nat × Value)) (d : decode cc pc = .ok (.astore_n z, 1)) (hn : (z : Nat) < nL) (hl' : ((z : Nat), Value.ref x) :: lv.filter (fun q => !(q.1 == (z : Nat)) && !(q.1 + 1 == (z : Nat) && q.2.category == 2)) = lv') (K : St l G A Γ k n ws (pc + 1) lv' rest) : St l G A Γ k n ws pc lv (.ref x :: rest) := by
  obtain ⟨p, e, R, s, m, args, below, meth, c, nL, Q⟩ := Γ
  obtain ⟨hx, hb, hml, hown, hts, hK, hA, hN, rfl, rfl⟩ := C
  intro H locs ls hP hD hS hl
  exact lv_astore_n hx hb d rfl hl hn hl' (fun ls' h => K H locs ls' hP hD hS h)
theorem s_astore (C : CX G A Γ cc own rm nL) {i : Nat} {x : Nat} (lv' : List (Nat × Value)) (d : decode cc pc = .ok (.astore i, 2)) (hn : i < nL) (hl' : (i, Value.ref x) :: lv.filter (fun q => !(q.1 == i) && !(q.1 + 1 == i && q.2.category == 2)) = lv') (K : St l G A Γ k n ws (pc + 2) lv' rest) : St l G A Γ k n ws pc lv (.ref x :: rest) := by
  obtain ⟨p, e, R, s, m, args, below, meth, c, nL, Q⟩ := Γ
  obtain ⟨hx, hb, hml, hown, hts, hK, hA, hN, rfl, rfl⟩ := C
  intro H locs ls hP hD hS hl
  exact lv_astore hx hb d hl hn hl' (fun ls' h => K H locs ls' hP hD hS h)
theorem s_lstore (C : CX G A Γ cc own rm nL) {i : Nat} {x : Int64} (lv' : List (Nat × Value)) (d : decode cc pc = .ok (.lstore i, 2)) (hn : i + 1 < nL) (hl' : (i, Value.long x) :: lv.filter (fun q => !(q.1 == i) && (!(q.1 == i + 1) && !(q.1 + 1 == i && q.2.category == 2))) = lv') (K : St l G A Γ k n ws (pc + 2) lv' rest) : St l G A Γ k n ws pc lv (.long x :: rest) := by
  obtain ⟨p, e, R, s, m, args, below, meth, c, nL, Q⟩ := Γ
  obtain ⟨hx, hb, hml, hown, hts, hK, hA, hN, rfl, rfl⟩ := C
  intro H locs ls hP hD hS hl
  exact lv_lstore hx hb d hl hn hl' (fun ls' h => K H locs ls' hP hD hS h)
theorem s_lstore_n (C : CX G A Γ cc own rm nL) {z : Fin 4} {x : Int64} (lv' : List (Nat × Value)) (d : decode cc pc = .ok (.lstore_n z, 1)) (hn : (z : Nat) + 1 < nL) (hl' : ((z : Nat), Value.long x) :: lv.filter (fun q => !(q.1 == (z : Nat)) && (!(q.1 == (z : Nat) + 1) && !(q.1 + 1 == (z : Nat) && q.2.category == 2))) = lv') (K : St l G A Γ k n ws (pc + 1) lv' rest) : St l G A Γ k n ws pc lv (.long x :: rest) := by
  obtain ⟨p, e, R, s, m, args, below, meth, c, nL, Q⟩ := Γ
  obtain ⟨hx, hb, hml, hown, hts, hK, hA, hN, rfl, rfl⟩ := C
  intro H locs ls hP hD hS hl
  exact lv_lstore_n hx hb d rfl hl hn hl' (fun ls' h => K H locs ls' hP hD hS h)
theorem s_iinc (C : CX G A Γ cc own rm nL) {i : Nat} {z : Int} {x v : Int32} (q : Nat) (lv' : List (Nat × Value)) (d : decode cc pc = .ok (.iinc i z, 3)) (hq : lv[q]? = some (i, .int x)) (hv : x + Int32.ofInt z = v) (hn : i < nL) (hl' : (i, Value.int v) :: lv.filter (fun q => !(q.1 == i) && !(q.1 + 1 == i && q.2.category == 2)) = lv') (K : St l G A Γ k n ws (pc + 3) lv' rest) : St l G A Γ k n ws pc lv rest := by
  obtain ⟨p, e, R, s, m, args, below, meth, c, nL, Q⟩ := Γ
  obtain ⟨hx, hb, hml, hown, hts, hK, hA, hN, rfl, rfl⟩ := C
  intro H locs ls hP hD hS hl
  exact lv_iinc hx hb d hl hq hv hn hl' (fun ls' h => K H locs ls' hP hD hS h)
theorem s_goto (C : CX G A Γ cc own rm nL) {off : Int} (tgt : Nat) (d : decode cc pc = .ok (.goto off, 3)) (ht : (pc : Int) + off = (tgt : Int)) (K : St l G A Γ k n ws tgt lv rest) : St l G A Γ k n ws pc lv rest := by
  obtain ⟨p, e, R, s, m, args, below, meth, c, nL, Q⟩ := Γ
  obtain ⟨hx, hb, hml, hown, hts, hK, hA, hN, rfl, rfl⟩ := C
  intro H locs ls hP hD hS hl
  exact lv_goto hx hb d ht (K H locs ls hP hD hS hl)
theorem s_lv {lv' : List (Nat × Value)} (ks : List Nat) (h : lv_pick lv ks = lv') (K : St l G A Γ k n ws pc lv' rest) : St l G A Γ k n ws pc lv rest := by
  obtain ⟨p, e, R, s, m, args, below, meth, c, nL, Q⟩ := Γ
  intro H locs ls hP hD hS hl
  exact K H locs ls hP hD hS (lv_sub hl ks h)
theorem s_nmi {v x : Int32} (h : v = x) (K : St l G A Γ k n ws pc lv (.int v :: rest)) : St l G A Γ k n ws pc lv (.int x :: rest) := h ▸ K
theorem s_nml {v x : Int64} (h : v = x) (K : St l G A Γ k n ws pc lv (.long v :: rest)) : St l G A Γ k n ws pc lv (.long x :: rest) := h ▸ K
theorem s_stk {stk stk' : List Value} (h : stk = stk') (K : St l G A Γ k n ws pc lv stk') : St l G A Γ k n ws pc lv stk := h ▸ K
theorem s_ws {ws' : va_W} (h : ws = ws') (K : St l G A Γ k n ws' pc lv rest) : St l G A Γ k n ws pc lv rest := h ▸ K
end STEPS
