def isIni (Γ : Cx) : Prop := match Γ with
  | (_, _, _, _, _, _, _, meth, _, _, _) => meth.name = "<init>"
abbrev MX (l : Launch) (y : MethodName) (cc : ByteArray) (mL : Nat) (rm : Room) (G : GG) (A : Nat → Prop) (ws : va_W) (av : List Value) (wf : (Nat → Nat) → va_W) : Prop := Met l y (Cond.code y cc mL none :: lw_g) rm (gPc G A ws av) (va_Qv (fun (_ : Nat → Nat) => True) (fun u t => gB G A (wf u) t) A) rm.cells rm.slots A
theorem e_X {l : Launch} {y : MethodName} {cc : ByteArray} {mL : Nat} {rm : Room} {G : GG} {A : Nat → Prop} {ws : va_W} {av : List Value} {wf : (Nat → Nat) → va_W} (hy : plainName y.cls = true) (hy1 : y.name = "<init>") (hlen : (lg_sl av).length ≤ mL) (body : ∀ Γ : Cx, CX G A Γ cc y.cls rm mL → isIni Γ → (∀ (u : Nat → Nat) (pc : Nat) (lv : List (Nat × Value)), decode cc pc = .ok (.return_, 1) → St l G A Γ rm.cells rm.slots (wf u) pc lv []) → St l G A Γ 0 0 ws 0 (lv_args 0 av) []) : MX l y cc mL rm G A ws av wf := by
  refine Met.ofW (cc := cc) (maxL := mL) (ret := none) hy rfl ?_
  intro p e s m args below meth c s₁ B hml hv
  obtain ⟨rfl, hA, hN, hP, hK, hD⟩ := hv
  have hx := B.exec
  have hb := B.bytes
  have hr := B.returns
  have hts := atoms_spec (ws := Cond.code y cc mL none :: lw_g) B.pre
  have hown : s.vm.findClass y.cls = some m.cls := findClass_of_methodNamed B.named
  have hlocks := B.notSynchronized
  have hin : meth.name = "<init>" := ((name_of_methodNamed B.named B.method).1).trans hy1
  have hl := lv_entry av (n := mL) hlen
  rw [lg_entry_eq]
  exact body (p, e, rm, s, m, av.toArray, below, meth, c, mL, MQ below (va_Qv (fun (_ : Nat → Nat) => True) (fun u t => gB G A (wf u) t) A) av.toArray s rm.cells rm.slots A) ⟨hx, hb, hml, hown, fun w h => hts w (List.mem_cons_of_mem _ h), hK, hA, hN, rfl, rfl⟩ hin (fun u pc lv d H locs ls hP hD hS hl => W.vret hx hb hr (fun t ht hW => ⟨⟨u, rfl, trivial, by rw [ht]; exact hP, va_K.moved hW.alike hK, hD⟩, hS.F ht⟩) hS.2.2 d) s.heap [] _ hP hD va_S.rf hl
section ALLOC
variable {l : Launch} {G : GG} {A : Nat → Prop} {Γ : Cx} {cc : ByteArray} {own : String} {rm : Room} {nL k n pc : Nat} {ws : va_W} {lv : List (Nat × Value)} {rest stk : List Value}
variable {y : MethodName} {cb : ByteArray} {mL ix nA ci q b : Nat} {rb : Room} {As : List Value} {wf : (Nat → Nat) → va_W} {host : String}
theorem s_cI_X (C : CX G A Γ cc own rm nL) (hM : MX l y cb mL rb G A ws (.ref b :: As) wf) (gd : GoodIn lw_g (Cond.code y cb mL none :: lw_g)) (hl1 : Cond.initialized y.cls ∈ lw_g) (hl2 : Cond.methodLink own ix y ∈ lw_g) (hl3 : Cond.instanceMethod y ∈ lw_g) (hy1 : y.name = "<init>") (hd : y.cls ≠ "java/lang/invoke/MethodHandle" ∧ y.cls ≠ "java/lang/invoke/VarHandle" ∧ ((parseMethodDescriptor y.desc).map (fun d => d.parameters.length) = some nA)) (hn : As.length = nA) (hR : rb.frames + 1 ≤ rm.frames ∧ 8 + (mL + 11) + rb.locals ≤ rm.locals) (hst : stk = As.reverse ++ .ref b :: rest) (hrm : (rest.map fun v => v.category).sum ≤ 8) (hroom : k + rb.cells ≤ rm.cells ∧ n + rb.slots ≤ rm.slots) (d : decode cc pc = .ok (.invokespecial ix, 3)) (K : ∀ u : Nat → Nat, St l G A Γ (k + rb.cells) (n + rb.slots) (wf u) (pc + 3) lv rest) : St l G A Γ k n ws pc lv stk := by
  obtain ⟨p, e, R, s, m, args, below, meth, c, nL, Q⟩ := Γ
  obtain ⟨hx, hb, hml, hown, hts, hK, hA, hN, rfl, rfl⟩ := C
  intro H locs ls hP hD hS hl
  refine va_callv (va_runI (As := As) (rest := rest) ⟨hx, hb, hml, hown, hts⟩ hM (cwI nA hts gd rfl rfl rfl (hts _ hl1) (hts _ hl2) (hts _ hl3) hy1 hd hR) ⟨g_blind, fun U hU hW => ⟨rfl, fun q h => hA q (Nat.le_trans hS.1 (hU ▸ h)), hN.warm hW, by rw [hU]; exact hP, va_K.moved hW.alike hK, hD⟩⟩ rfl hn hl.1 hst (lv_room hrm) d hroom) hS (fun q _ h => h) (fun q h => h) (fun u t H1 locs1 ht hvm hw hB hz hk hS1 => ?_)
  obtain ⟨hP1, hK1, hD1⟩ := hB
  exact K u H1 locs1 ls (ht ▸ hP1) hD1 hS1 hl
theorem s_cIN_X (C : CX G A Γ cc own rm nL) (hM : MX l y cb mL rb G A ws (.ref b :: As) wf) (gd : GoodIn lw_g (Cond.code y cb mL none :: lw_g)) (hl1 : Cond.initialized y.cls ∈ lw_g) (hl2 : Cond.methodLinkNest own ix y host ∈ nestW) (hl3 : Cond.instanceMethod y ∈ lw_g) (hy1 : y.name = "<init>") (hd : y.cls ≠ "java/lang/invoke/MethodHandle" ∧ y.cls ≠ "java/lang/invoke/VarHandle" ∧ ((parseMethodDescriptor y.desc).map (fun d => d.parameters.length) = some nA)) (hn : As.length = nA) (hR : rb.frames + 1 ≤ rm.frames ∧ 8 + (mL + 11) + rb.locals ≤ rm.locals) (hst : stk = As.reverse ++ .ref b :: rest) (hrm : (rest.map fun v => v.category).sum ≤ 8) (hroom : k + rb.cells ≤ rm.cells ∧ n + rb.slots ≤ rm.slots) (d : decode cc pc = .ok (.invokespecial ix, 3)) (K : ∀ u : Nat → Nat, St l G A Γ (k + rb.cells) (n + rb.slots) (wf u) (pc + 3) lv rest) : St l G A Γ k n ws pc lv stk := by
  obtain ⟨p, e, R, s, m, args, below, meth, c, nL, Q⟩ := Γ
  obtain ⟨hx, hb, hml, hown, hts, hK, hA, hN, rfl, rfl⟩ := C
  intro H locs ls hP hD hS hl
  refine va_callv (va_runIN (As := As) (rest := rest) ⟨hx, hb, hml, hown, hts⟩ hM (⟨va_cnB nA hts gd rfl rfl rfl (hN.1 _ hl2) (hts _ hl1) hd hR, hy1, hts _ hl3⟩) ⟨g_blind, fun U hU hW => ⟨rfl, fun q h => hA q (Nat.le_trans hS.1 (hU ▸ h)), hN.warm hW, by rw [hU]; exact hP, va_K.moved hW.alike hK, hD⟩⟩ rfl hn hl.1 hst (lv_room hrm) d hroom) hS (fun q _ h => h) (fun q h => h) (fun u t H1 locs1 ht hvm hw hB hz hk hS1 => ?_)
  obtain ⟨hP1, hK1, hD1⟩ := hB
  exact K u H1 locs1 ls (ht ▸ hP1) hD1 hS1 hl
theorem s_obj (C : CX G A Γ cc own rm nL) {idx : Nat} {a : Nat} (hl1 : Cond.methodLink own idx Lib.objectInit ∈ lw_g) (hl2 : Cond.instanceMethod Lib.objectInit ∈ lw_g) (hl3 : Cond.code Lib.objectInit ⟨#[0xb1]⟩ 1 none ∈ lw_g) (d : decode cc pc = .ok (.invokespecial idx, 3)) (hR : 1 ≤ rm.frames ∧ (rest.map fun v => v.category).sum + 12 ≤ rm.locals) (K : St l G A Γ k n ws (pc + 3) lv rest) : St l G A Γ k n ws pc lv (.ref a :: rest) := by
  obtain ⟨p, e, R, s, m, args, below, meth, c, nL, Q⟩ := Γ
  obtain ⟨hx, hb, hml, hown, hts, hK, hA, hN, rfl, rfl⟩ := C
  intro H locs ls hP hD hS hl
  refine W.objInit hx hb hown (hts _ hl1) (hts _ hl2) (hts _ hl3) rfl (by rw [hml]; exact hl.1) rfl d hR.1 (by have := hR.2; simpa [JFrame.monitorRoom] using this) ?_
  exact W.eq (g2 := F0 m (pc + 3) ls rest) rfl (K H locs ls hP hD hS hl)
theorem s_newI (C : CX G A Γ cc own rm nL) {x : Int32} {N : Nat} (ha : Cond.arrayClass .int ∈ lw_g) (hn : ¬ x < 0) (hN : x.toNatClampNeg = N) (hby : N * componentBytes .int ≤ 536870912) (hroom : k + 1 ≤ rm.cells ∧ n + N ≤ rm.slots) (d : decode cc pc = .ok (.newarray .int, 2)) (K : ∀ q : Nat, St l G A Γ (k + 1) (n + N) (ws ++ [(q, .inl (G.2 0, N, .inl (fun _ => 0)))]) (pc + 2) lv (.ref q :: rest)) : St l G A Γ k n ws pc lv (.int x :: rest) := by
  obtain ⟨p, e, R, s, m, args, below, meth, c, nL, Q⟩ := Γ
  obtain ⟨hx, hb, hml, hown, hts, hK, hA, hN', rfl, rfl⟩ := C
  intro H locs ls hP hD hS hl
  refine va_newa (atype := .int) (a0 := (N, .inl (fun _ => 0))) hx hb (hts _ ha) (ty := .int) rfl hK hP hD hS hA (fun cA => rfl) hn hN hby hroom.1 hroom.2 d (fun q cA H1 hK1 hP hD hS => ?_)
  have e1 : s.vm.findClass ("[" ++ FieldType.int.toString) = some cA := (hK1.2 6 (cA, .int) rfl).2
  have e2 : s.vm.findClass ("[" ++ FieldType.int.toString) = some (G.2 0) := (hK.2 0 (G.2 0, .int) rfl).2
  cases e1.symm.trans e2
  exact K q H1 locs ls hP hD hS hl
theorem s_newZ (C : CX G A Γ cc own rm nL) {x : Int32} {N : Nat} (ha : Cond.arrayClass .boolean ∈ lw_g) (hn : ¬ x < 0) (hN : x.toNatClampNeg = N) (hby : N * componentBytes .boolean ≤ 536870912) (hroom : k + 1 ≤ rm.cells ∧ n + N ≤ rm.slots) (d : decode cc pc = .ok (.newarray .boolean, 2)) (K : ∀ q : Nat, St l G A Γ (k + 1) (n + N) (ws ++ [(q, .inl (G.2 1, N, .inl (fun _ => 0)))]) (pc + 2) lv (.ref q :: rest)) : St l G A Γ k n ws pc lv (.int x :: rest) := by
  obtain ⟨p, e, R, s, m, args, below, meth, c, nL, Q⟩ := Γ
  obtain ⟨hx, hb, hml, hown, hts, hK, hA, hN', rfl, rfl⟩ := C
  intro H locs ls hP hD hS hl
  refine va_newa (atype := .boolean) (a0 := (N, .inl (fun _ => 0))) hx hb (hts _ ha) (ty := .boolean) rfl hK hP hD hS hA (fun cA => rfl) hn hN hby hroom.1 hroom.2 d (fun q cA H1 hK1 hP hD hS => ?_)
  have e1 : s.vm.findClass ("[" ++ FieldType.boolean.toString) = some cA := (hK1.2 6 (cA, .boolean) rfl).2
  have e2 : s.vm.findClass ("[" ++ FieldType.boolean.toString) = some (G.2 1) := (hK.2 1 (G.2 1, .boolean) rfl).2
  cases e1.symm.trans e2
  exact K q H1 locs ls hP hD hS hl
theorem s_newQ (C : CX G A Γ cc own rm nL) {Cn : String} (t : Nat) (ht : (tyG G)[t]? = some (G.2 t, .object Cn)) (ho : ∀ U, NW U → va_AO Cn U) {x : Int32} {N : Nat} (hcl : Cond.classLink own ix Cn ∈ lw_g) (hn : ¬ x < 0) (hN : x.toNatClampNeg = N) (hby : N * 4 ≤ 536870912) (hroom : k + 1 ≤ rm.cells ∧ n + N ≤ rm.slots) (d : decode cc pc = .ok (.anewarray ix, 3)) (K : ∀ q : Nat, St l G A Γ (k + 1) (n + N) (ws ++ [(q, .inl (G.2 t, N, .inr (.inr (.inr (.inr (fun _ => none))))))]) (pc + 3) lv (.ref q :: rest)) : St l G A Γ k n ws pc lv (.int x :: rest) := by
  obtain ⟨p, e, R, s, m, args, below, meth, c, nL, Q⟩ := Γ
  obtain ⟨hx, hb, hml, hown, hts, hK, hA, hNw, rfl, rfl⟩ := C
  intro H locs ls hP hD hS hl
  refine va_newq hx hb hown (hts _ hcl) (ho _ hNw) hK hP hD hS hA hn hN hby hroom.1 hroom.2 d (fun q cA H1 hK1 hP hD hS => ?_)
  obtain ⟨_, _, _, _, _, e1⟩ := (hK1.2 6 (cA, .object Cn) rfl).2
  obtain ⟨_, _, _, _, _, e2⟩ := (hK.2 t (G.2 t, .object Cn) ht).2
  cases e1.symm.trans e2
  exact K q H1 locs ls hP hD hS hl
theorem s_new (C : CX G A Γ cc own rm nL) {Cn : String} {T : u_T} {N : Nat} (hc : vwCl[ci]? = some (Cn, T, N)) (hin : ∀ w ∈ u_ws Cn T N, w ∈ lw_g) (ty : Nat → FieldType) (hty : ∀ k, k < N → parseFieldDescriptor (T k).2.2.1 = some (ty k)) (hcl : Cond.classLink own ix Cn ∈ lw_g) (hins : Cond.instantiable Cn N ∈ lw_g) (hini : Cond.initialized Cn ∈ lw_g) {fs : List Value} (hfs : ∀ j, j < N → defaultValue (ty j) = vp_V fs j) (hroom : k + 1 ≤ rm.cells ∧ n + N ≤ rm.slots) (d : decode cc pc = .ok (.new ix, 3)) (K : ∀ q : Nat, St l G A Γ (k + 1) (n + N) (ws ++ [(q, .inr (ci, fs))]) (pc + 3) lv (.ref q :: rest)) : St l G A Γ k n ws pc lv rest := by
  obtain ⟨p, e, R, s, m, args, below, meth, c, nL, Q⟩ := Γ
  obtain ⟨hx, hb, hml, hown, hts, hK, hA, hNw, rfl, rfl⟩ := C
  intro H locs ls hP hD hS hl
  exact va_new hx hb hts hin ty hty hown (hts _ hcl) (hts _ hins) (hts _ hini) hK hP hD hS hA hc hfs hroom.1 hroom.2 d (fun q H1 hP hD hS => K q H1 locs ls hP hD hS hl)
theorem s_putF (C : CX G A Γ cc own rm nL) (hI : isIni Γ) {Cn : String} {T : u_T} {N index j : Nat} (hc : vwCl[ci]? = some (Cn, T, N)) (hin : ∀ w ∈ u_ws Cn T N, w ∈ lw_g) (ty0 : Nat → FieldType) (hty : ∀ k, k < N → parseFieldDescriptor (T k).2.2.1 = some (ty0 k)) (hnm : ∀ a, a < N → ∀ b, b < N → a ≠ b → (T a).2.1 ≠ (T b).2.1) (hj : j < N) (hcn : (T j).1 = Cn) (hown2 : (T j).1 = own) (hlink : Cond.fieldLink own index Cn (T j).2.1 (T j).2.2.1 ∈ lw_g) (hfin : (T j).2.2.2 = true) (q : Nat) {a : Nat} {fs : List Value} {v : Value} (he : ws[q]? = some (a, .inr (ci, fs))) (hn : narrow (ty0 j) v = v) (hfit : fits (ty0 j) v = true) (hl' : j < fs.length) (ws' : va_W) (hws : ws.set q (a, .inr (ci, fs.set j v)) = ws') (d : decode cc pc = .ok (.putfield index, 3)) (K : St l G A Γ k n ws' (pc + 3) lv rest) : St l G A Γ k n ws pc lv (v :: .ref a :: rest) := by
  obtain ⟨p, e, R, s, m, args, below, meth, c, nL, Q⟩ := Γ
  obtain ⟨hx, hb, hml, hown, hts, hK, hA, hNw, rfl, rfl⟩ := C
  intro H locs ls hP hD hS hl
  subst hws
  exact va_putF (C := Cn) (T := T) (N := N) hx hb hts hin ty0 hty hnm hown hK hP hD hS q he hc j hj (hts _ hlink) (fun x h => by rw [hcn] at h; exact h) hfin hI hown2 (hty j hj) hn hfit hl' d (fun H1 locs1 hP hD hS => K H1 locs1 ls hP hD hS hl)
theorem s_aastq (C : CX G A Γ cc own rm nL) (t : Nat) {r : vw_C} (ht : (tyG G)[t]? = some (G.2 t, .object r.1)) (hc : vwCl[ci]? = some r) (q qk : Nat) {a N v : Nat} {vs : List Value} {f : Nat → Option Nat} (he : ws[q]? = some (a, .inl (G.2 t, N, .inr (.inr (.inr (.inr f)))))) (hv : ws[qk]? = some (v, .inr (ci, vs))) {i : Int32} (hi : inb i N = true) (ws' : va_W) (hws : ws.set q (a, .inl (G.2 t, N, .inr (.inr (.inr (.inr (va_up f i.toNatClampNeg (some v))))))) = ws') (d : decode cc pc = .ok (.aastore, 1)) (K : St l G A Γ k n ws' (pc + 1) lv rest) : St l G A Γ k n ws pc lv (.ref v :: .int i :: .ref a :: rest) := by
  obtain ⟨p, e, R, s, m, args, below, meth, c, nL, Q⟩ := Γ
  obtain ⟨hx, hb, hml, hown, hts, hK, hA, hNw, rfl, rfl⟩ := C
  intro H locs ls hP hD hS hl
  subst hws
  exact va_astq hx hb hK hP hD hS q t qk ci he ht hv hc (inb_in hi) d (fun H1 locs1 hP hD hS => K H1 locs1 ls hP hD hS hl)
theorem s_alenq (C : CX G A Γ cc own rm nL) (t : Nat) {ty : FieldType} (ht : (tyG G)[t]? = some (G.2 t, ty)) (q : Nat) {a : Nat} {x : vp_A} (he : ws[q]? = some (a, .inl (G.2 t, x))) {v : Int32} (hv : Int32.ofNat x.1 = v) (d : decode cc pc = .ok (.arraylength, 1)) (K : St l G A Γ k n ws (pc + 1) lv (.int v :: rest)) : St l G A Γ k n ws pc lv (.ref a :: rest) := by
  obtain ⟨p, e, R, s, m, args, below, meth, c, nL, Q⟩ := Γ
  obtain ⟨hx, hb, hml, hown, hts, hK, hA, hNw, rfl, rfl⟩ := C
  intro H locs ls hP hD hS hl
  exact va_alen hx hb hK hP q t he ht hv d (K H locs ls hP hD hS hl)
end ALLOC
theorem xa_at {X L : va_W} (j : Nat) : (X ++ L)[X.length + j]? = L[j]? := by
  rw [List.getElem?_append_right (by omega)]
  simp
theorem xa_set {X L : va_W} (j : Nat) (e : Nat × va_E) : (X ++ L).set (X.length + j) e = X ++ L.set j e := by
  rw [List.set_append_right _ _ (by omega)]
  simp
/-- the order of a world's cells is free -/
theorem St.perm {l : Launch} {G : GG} {A : Nat → Prop} {Γ : Cx} {k n pc : Nat} {ws ws' : va_W} {lv : List (Nat × Value)} {stk : List Value} (h : ws.Perm ws') (K : St l G A Γ k n ws' pc lv stk) : St l G A Γ k n ws pc lv stk := by
  obtain ⟨p, e, R, s, m, args, below, meth, c, nL, Q⟩ := Γ
  intro H locs ls hP hD hS hl
  have hP' : va_P G.1 vwCl ws' H := fun j q hq => by
    obtain ⟨i, hi⟩ := List.getElem?_of_mem (h.mem_iff.mpr (List.mem_of_getElem? hq))
    exact hP i q hi
  have hnd : (ws.map Prod.fst).Nodup := by
    refine List.pairwise_iff_getElem.mpr (fun i j hi hj hij heq => ?_)
    rw [List.length_map] at hi hj
    rw [List.getElem_map, List.getElem_map] at heq
    exact absurd (hD.1 i j _ _ (List.getElem?_eq_getElem hi) (List.getElem?_eq_getElem hj) heq) (by omega)
  have hnd' : (ws'.map Prod.fst).Nodup := (h.map Prod.fst).nodup_iff.mp hnd
  have key : ∀ (i j : Nat) (x y : Nat × va_E), ws'[i]? = some x → ws'[j]? = some y → x.1 = y.1 → ¬ i < j := by
    intro i j x y hx hy hxy hij
    obtain ⟨hi, hx⟩ := List.getElem?_eq_some_iff.mp hx
    obtain ⟨hj, hy⟩ := List.getElem?_eq_some_iff.mp hy
    have := List.pairwise_iff_getElem.mp hnd' i j (by rw [List.length_map]; exact hi) (by rw [List.length_map]; exact hj) hij
    rw [List.getElem_map, List.getElem_map, hx, hy] at this
    exact this hxy
  have hD' : va_D A ws' := by
    refine ⟨fun i j x y hx hy hxy => ?_, fun j q hq => ?_⟩
    · have h1 := key i j x y hx hy hxy
      have h2 := key j i y x hy hx hxy.symm
      omega
    · obtain ⟨i, hi⟩ := List.getElem?_of_mem (h.mem_iff.mpr (List.mem_of_getElem? hq))
      exact hD.2 i q hi
  exact K H locs ls hP' hD' hS hl
