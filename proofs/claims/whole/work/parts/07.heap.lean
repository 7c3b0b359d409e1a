/-- an index within a row, as a test -/
def inb (i : Int32) (n : Nat) : Bool := decide (¬ i < 0) && decide (i.toNatClampNeg < n)
theorem inb_in {i : Int32} {n : Nat} (h : inb i n = true) : vp_in i n := by
  simp only [inb, Bool.and_eq_true, decide_eq_true_eq] at h
  intro q
  rcases q with q | q
  · exact h.1 q
  · omega
/-- a truth value -/
def bln (x : Int32) : Bool := decide (x = 0) || decide (x = 1)
theorem bln_n {x : Int32} (h : bln x = true) : narrow .boolean (.int x) = .int x ∧ fits .boolean (.int x) = true := by
  simp only [bln, Bool.or_eq_true, decide_eq_true_eq] at h
  rcases h with rfl | rfl <;> exact ⟨rfl, rfl⟩
section HEAP
variable {l : Launch} {G : GG} {A : Nat → Prop} {Γ : Cx} {cc : ByteArray} {own : String} {rm : Room} {nL k n pc : Nat} {ws : va_W} {lv : List (Nat × Value)} {rest : List Value}
theorem s_get (C : CX G A Γ cc own rm nL) {Cn : String} {T : u_T} {N ci index j : Nat} (hc : vwCl[ci]? = some (Cn, T, N)) (hin : ∀ w ∈ u_ws Cn T N, w ∈ lw_g) (hj : j < N) (hcn : (T j).1 = Cn) (hlink : Cond.fieldLink own index Cn (T j).2.1 (T j).2.2.1 ∈ lw_g) (q : Nat) {a : Nat} {fs : List Value} {v : Value} (he : ws[q]? = some (a, .inr (ci, fs))) (hv : fs[j]? = some v) (d : decode cc pc = .ok (.getfield index, 3)) (K : St l G A Γ k n ws (pc + 3) lv (v :: rest)) : St l G A Γ k n ws pc lv (.ref a :: rest) := by
  obtain ⟨p, e, R, s, m, args, below, meth, c, nL, Q⟩ := Γ
  obtain ⟨hx, hb, hml, hown, hts, hK, hA, hN, rfl, rfl⟩ := C
  intro H locs ls hP hD hS hl
  exact va_get (C := Cn) (T := T) (N := N) hx hb hts hin hown hK hP q he hc j hj (hts _ hlink) (fun x h => by rw [hcn] at h; exact h) hv d (K H locs ls hP hD hS hl)
theorem s_put (C : CX G A Γ cc own rm nL) {Cn : String} {T : u_T} {N ci index j : Nat} (hc : vwCl[ci]? = some (Cn, T, N)) (hin : ∀ w ∈ u_ws Cn T N, w ∈ lw_g) (ty0 : Nat → FieldType) (hty : ∀ k, k < N → parseFieldDescriptor (T k).2.2.1 = some (ty0 k)) (hnm : ∀ a, a < N → ∀ b, b < N → a ≠ b → (T a).2.1 ≠ (T b).2.1) (hj : j < N) (hcn : (T j).1 = Cn) (hlink : Cond.fieldLink own index Cn (T j).2.1 (T j).2.2.1 ∈ lw_g) (hfin : (T j).2.2.2 = false) (q : Nat) {a : Nat} {fs : List Value} {v : Value} (he : ws[q]? = some (a, .inr (ci, fs))) (hn : narrow (ty0 j) v = v) (hfit : fits (ty0 j) v = true) (hl' : j < fs.length) (ws' : va_W) (hws : ws.set q (a, .inr (ci, fs.set j v)) = ws') (d : decode cc pc = .ok (.putfield index, 3)) (K : St l G A Γ k n ws' (pc + 3) lv rest) : St l G A Γ k n ws pc lv (v :: .ref a :: rest) := by
  obtain ⟨p, e, R, s, m, args, below, meth, c, nL, Q⟩ := Γ
  obtain ⟨hx, hb, hml, hown, hts, hK, hA, hN, rfl, rfl⟩ := C
  intro H locs ls hP hD hS hl
  subst hws
  exact va_put (C := Cn) (T := T) (N := N) hx hb hts hin ty0 hty hnm hown hK hP hD hS q he hc j hj (hts _ hlink) (fun x h => by rw [hcn] at h; exact h) hfin (hty j hj) hn hfit hl' d (fun H1 locs1 hP hD hS => K H1 locs1 ls hP hD hS hl)
theorem s_iald (C : CX G A Γ cc own rm nL) (q : Nat) {a N : Nat} {f : Nat → Int32} {i : Int32} (he : ws[q]? = some (a, .inl (G.2 0, N, .inl f))) (hi : inb i N = true) (d : decode cc pc = .ok (.iaload, 1)) (K : St l G A Γ k n ws (pc + 1) lv (.int (f i.toNatClampNeg) :: rest)) : St l G A Γ k n ws pc lv (.int i :: .ref a :: rest) := by
  obtain ⟨p, e, R, s, m, args, below, meth, c, nL, Q⟩ := Γ
  obtain ⟨hx, hb, hml, hown, hts, hK, hA, hN, rfl, rfl⟩ := C
  intro H locs ls hP hD hS hl
  exact va_iald hx hb hK hP q 0 he rfl (inb_in hi) d (K H locs ls hP hD hS hl)
theorem s_zald (C : CX G A Γ cc own rm nL) (q : Nat) {a N : Nat} {f : Nat → Int32} {i : Int32} (he : ws[q]? = some (a, .inl (G.2 1, N, .inl f))) (hi : inb i N = true) (d : decode cc pc = .ok (.baload, 1)) (K : St l G A Γ k n ws (pc + 1) lv (.int (f i.toNatClampNeg) :: rest)) : St l G A Γ k n ws pc lv (.int i :: .ref a :: rest) := by
  obtain ⟨p, e, R, s, m, args, below, meth, c, nL, Q⟩ := Γ
  obtain ⟨hx, hb, hml, hown, hts, hK, hA, hN, rfl, rfl⟩ := C
  intro H locs ls hP hD hS hl
  exact va_zald hx hb hK hP q 1 he rfl (inb_in hi) d (K H locs ls hP hD hS hl)
theorem s_iast (C : CX G A Γ cc own rm nL) (q : Nat) {a N : Nat} {f : Nat → Int32} {i x : Int32} (he : ws[q]? = some (a, .inl (G.2 0, N, .inl f))) (hi : inb i N = true) (ws' : va_W) (hws : ws.set q (a, .inl (G.2 0, N, .inl (upd f i.toNatClampNeg x))) = ws') (d : decode cc pc = .ok (.iastore, 1)) (K : St l G A Γ k n ws' (pc + 1) lv rest) : St l G A Γ k n ws pc lv (.int x :: .int i :: .ref a :: rest) := by
  obtain ⟨p, e, R, s, m, args, below, meth, c, nL, Q⟩ := Γ
  obtain ⟨hx, hb, hml, hown, hts, hK, hA, hN, rfl, rfl⟩ := C
  intro H locs ls hP hD hS hl
  subst hws
  exact va_iast hx hb hK hP hD hS q 0 he rfl (inb_in hi) d (fun H1 locs1 hP hD hS => K H1 locs1 ls hP hD hS hl)
theorem s_zast (C : CX G A Γ cc own rm nL) (q : Nat) {a N : Nat} {f : Nat → Int32} {i x : Int32} (he : ws[q]? = some (a, .inl (G.2 1, N, .inl f))) (hi : inb i N = true) (ws' : va_W) (hws : ws.set q (a, .inl (G.2 1, N, .inl (upd f i.toNatClampNeg (vp_nar .boolean x)))) = ws') (d : decode cc pc = .ok (.bastore, 1)) (K : St l G A Γ k n ws' (pc + 1) lv rest) : St l G A Γ k n ws pc lv (.int x :: .int i :: .ref a :: rest) := by
  obtain ⟨p, e, R, s, m, args, below, meth, c, nL, Q⟩ := Γ
  obtain ⟨hx, hb, hml, hown, hts, hK, hA, hN, rfl, rfl⟩ := C
  intro H locs ls hP hD hS hl
  subst hws
  exact va_zast hx hb hK hP hD hS q 1 he rfl (inb_in hi) d (fun H1 locs1 hP hD hS => K H1 locs1 ls hP hD hS hl)
theorem s_alen (C : CX G A Γ cc own rm nL) (q : Nat) {a N : Nat} {f : Nat → Int32} (he : ws[q]? = some (a, .inl (G.2 0, N, .inl f))) {v : Int32} (hv : nI N = v) (d : decode cc pc = .ok (.arraylength, 1)) (K : St l G A Γ k n ws (pc + 1) lv (.int v :: rest)) : St l G A Γ k n ws pc lv (.ref a :: rest) := by
  obtain ⟨p, e, R, s, m, args, below, meth, c, nL, Q⟩ := Γ
  obtain ⟨hx, hb, hml, hown, hts, hK, hA, hN, rfl, rfl⟩ := C
  intro H locs ls hP hD hS hl
  subst hv
  exact va_alen hx hb hK hP q 0 he rfl rfl d (K H locs ls hP hD hS hl)
end HEAP
/-- the words that a call needs are among the tables' -/
theorem gd_all {ws : List Cond} (h : ∀ w ∈ ws, w ∈ lw_g) : GoodIn lw_g ws := fun w hw => ⟨h w hw, good_of_word (tw_good w (h w hw))⟩
theorem gd_V {own C : String} {ix mL : Nat} {y : MethodName} {cc : ByteArray} {rt : Option FieldType} (h1 : Cond.methodLink own ix y ∈ lw_g) (h2 : Cond.instanceMethod y ∈ lw_g) (h3 : Cond.selects C y y ∈ lw_g) (h4 : Cond.initialized C ∈ lw_g) (h5 : Cond.code y cc mL rt ∈ lw_g) : GoodIn lw_g (wsV own ix C y (Cond.code y cc mL rt :: lw_g)) := by
  refine gd_all (fun w hw => ?_)
  simp only [wsV, List.cons_append, List.nil_append, List.mem_cons] at hw
  rcases hw with rfl | rfl | rfl | rfl | rfl | hw <;> assumption
theorem gd_S {own : String} {ix mL : Nat} {y : MethodName} {cc : ByteArray} {rt : Option FieldType} (h1 : Cond.methodLink own ix y ∈ lw_g) (h2 : Cond.static y ∈ lw_g) (h4 : Cond.initialized own ∈ lw_g) (h5 : Cond.code y cc mL rt ∈ lw_g) : GoodIn lw_g (wsS own ix y (Cond.code y cc mL rt :: lw_g)) := by
  refine gd_all (fun w hw => ?_)
  simp only [wsS, List.cons_append, List.nil_append, List.mem_cons] at hw
  rcases hw with rfl | rfl | rfl | rfl | hw <;> assumption
theorem gd_C {y : MethodName} {mL : Nat} {cc : ByteArray} {rt : Option FieldType} (h5 : Cond.code y cc mL rt ∈ lw_g) : GoodIn lw_g (Cond.code y cc mL rt :: lw_g) := by
  refine gd_all (fun w hw => ?_)
  rcases List.mem_cons.mp hw with rfl | hw <;> assumption
theorem g_blind {G : GG} {A : Nat → Prop} {ws : va_W} {av : List Value} : FrameBlind (gPc G A ws av) := by
  intro a U g mk q
  obtain ⟨q0, q4, q5, qP, qK, qD⟩ := q
  exact ⟨q0, q4, NW.same (s := U) (U := U.calling g mk a) (show U.vm = (U.calling g mk a).vm from rfl) q5, qP, va_K.moved (u := U) (U := U.calling g mk a) (Vm.Alike.refl U.vm) qK, qD⟩
