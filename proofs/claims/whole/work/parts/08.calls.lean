section CALLS
variable {l : Launch} {G : GG} {A : Nat → Prop} {Γ : Cx} {cc : ByteArray} {own : String} {rm : Room} {nL k n pc : Nat} {ws : va_W} {lv : List (Nat × Value)} {rest stk : List Value}
variable {y : MethodName} {cb : ByteArray} {mL ix nA ci q b : Nat} {rt : FieldType} {rb : Room} {As : List Value} {ws' : va_W} {Cn host : String} {T : u_T} {N : Nat} {fs : List Value}
theorem s_cV_I (C : CX G A Γ cc own rm nL) {r : Int32} (hM : MI l y cb mL rt rb G A ws (.ref b :: As) r ws') (gd : GoodIn lw_g (wsV own ix Cn y (Cond.code y cb mL (some rt) :: lw_g))) (hd : y.cls = Cn ∧ y.cls ≠ "java/lang/invoke/MethodHandle" ∧ y.cls ≠ "java/lang/invoke/VarHandle" ∧ ((parseMethodDescriptor y.desc).map (fun d => d.parameters.length) = some nA)) (hn : As.length = nA) (hR : rb.frames + 1 ≤ rm.frames ∧ 8 + (mL + 11) + rb.locals ≤ rm.locals) (hc : vwCl[ci]? = some (Cn, T, N)) (he : ws[q]? = some (b, .inr (ci, fs))) (hst : stk = As.reverse ++ .ref b :: rest) (hrm : (rest.map fun v => v.category).sum ≤ 8) (hroom : k + rb.cells ≤ rm.cells ∧ n + rb.slots ≤ rm.slots) (d : decode cc pc = .ok (.invokevirtual ix, 3)) (K : St l G A Γ (k + rb.cells) (n + rb.slots) ws' (pc + 3) lv (.int r :: rest)) : St l G A Γ k n ws pc lv stk := by
  obtain ⟨p, e, R, s, m, args, below, meth, c, nL, Q⟩ := Γ
  obtain ⟨hx, hb, hml, hown, hts, hK, hA, hN, rfl, rfl⟩ := C
  intro H locs ls hP hD hS hl
  refine va_calli (va_runV (As := As) (rest := rest) ⟨hx, hb, hml, hown, hts⟩ hM (cwV nA hts gd rfl rfl rfl hd hR) ⟨g_blind, va_recv hK hP hc he, fun U hU hW => ⟨rfl, fun q h => hA q (Nat.le_trans hS.1 (hU ▸ h)), hN.warm hW, by rw [hU]; exact hP, va_K.moved hW.alike hK, hD⟩⟩ rfl hn hl.1 hst (lv_room hrm) d hroom) hS (fun q _ h => h) (fun q h => h) (fun r' u t H1 locs1 ht hvm hw hB hz hk hS1 => ?_)
  obtain ⟨hP1, hK1, hD1⟩ := hB
  subst hw
  exact K H1 locs1 ls (ht ▸ hP1) hD1 hS1 hl
theorem s_cV_L (C : CX G A Γ cc own rm nL) {r : Int64} (hM : ML l y cb mL rb G A ws (.ref b :: As) r ws') (gd : GoodIn lw_g (wsV own ix Cn y (Cond.code y cb mL (some .long) :: lw_g))) (hd : y.cls = Cn ∧ y.cls ≠ "java/lang/invoke/MethodHandle" ∧ y.cls ≠ "java/lang/invoke/VarHandle" ∧ ((parseMethodDescriptor y.desc).map (fun d => d.parameters.length) = some nA)) (hn : As.length = nA) (hR : rb.frames + 1 ≤ rm.frames ∧ 8 + (mL + 11) + rb.locals ≤ rm.locals) (hc : vwCl[ci]? = some (Cn, T, N)) (he : ws[q]? = some (b, .inr (ci, fs))) (hst : stk = As.reverse ++ .ref b :: rest) (hrm : (rest.map fun v => v.category).sum ≤ 8) (hroom : k + rb.cells ≤ rm.cells ∧ n + rb.slots ≤ rm.slots) (d : decode cc pc = .ok (.invokevirtual ix, 3)) (K : St l G A Γ (k + rb.cells) (n + rb.slots) ws' (pc + 3) lv (.long r :: rest)) : St l G A Γ k n ws pc lv stk := by
  obtain ⟨p, e, R, s, m, args, below, meth, c, nL, Q⟩ := Γ
  obtain ⟨hx, hb, hml, hown, hts, hK, hA, hN, rfl, rfl⟩ := C
  intro H locs ls hP hD hS hl
  refine va_calll (va_runV (As := As) (rest := rest) ⟨hx, hb, hml, hown, hts⟩ hM (cwV nA hts gd rfl rfl rfl hd hR) ⟨g_blind, va_recv hK hP hc he, fun U hU hW => ⟨rfl, fun q h => hA q (Nat.le_trans hS.1 (hU ▸ h)), hN.warm hW, by rw [hU]; exact hP, va_K.moved hW.alike hK, hD⟩⟩ rfl hn hl.1 hst (lv_room hrm) d hroom) hS (fun q _ h => h) (fun q h => h) (fun r' u t H1 locs1 ht hvm hw hB hz hk hS1 => ?_)
  obtain ⟨hP1, hK1, hD1⟩ := hB
  subst hw
  exact K H1 locs1 ls (ht ▸ hP1) hD1 hS1 hl
theorem s_cV_V (C : CX G A Γ cc own rm nL)  (hM : MV l y cb mL rb G A ws (.ref b :: As) ws') (gd : GoodIn lw_g (wsV own ix Cn y (Cond.code y cb mL none :: lw_g))) (hd : y.cls = Cn ∧ y.cls ≠ "java/lang/invoke/MethodHandle" ∧ y.cls ≠ "java/lang/invoke/VarHandle" ∧ ((parseMethodDescriptor y.desc).map (fun d => d.parameters.length) = some nA)) (hn : As.length = nA) (hR : rb.frames + 1 ≤ rm.frames ∧ 8 + (mL + 11) + rb.locals ≤ rm.locals) (hc : vwCl[ci]? = some (Cn, T, N)) (he : ws[q]? = some (b, .inr (ci, fs))) (hst : stk = As.reverse ++ .ref b :: rest) (hrm : (rest.map fun v => v.category).sum ≤ 8) (hroom : k + rb.cells ≤ rm.cells ∧ n + rb.slots ≤ rm.slots) (d : decode cc pc = .ok (.invokevirtual ix, 3)) (K : St l G A Γ (k + rb.cells) (n + rb.slots) ws' (pc + 3) lv (rest)) : St l G A Γ k n ws pc lv stk := by
  obtain ⟨p, e, R, s, m, args, below, meth, c, nL, Q⟩ := Γ
  obtain ⟨hx, hb, hml, hown, hts, hK, hA, hN, rfl, rfl⟩ := C
  intro H locs ls hP hD hS hl
  refine va_callv (va_runV (As := As) (rest := rest) ⟨hx, hb, hml, hown, hts⟩ hM (cwV nA hts gd rfl rfl rfl hd hR) ⟨g_blind, va_recv hK hP hc he, fun U hU hW => ⟨rfl, fun q h => hA q (Nat.le_trans hS.1 (hU ▸ h)), hN.warm hW, by rw [hU]; exact hP, va_K.moved hW.alike hK, hD⟩⟩ rfl hn hl.1 hst (lv_room hrm) d hroom) hS (fun q _ h => h) (fun q h => h) (fun u t H1 locs1 ht hvm hw hB hz hk hS1 => ?_)
  obtain ⟨hP1, hK1, hD1⟩ := hB
  exact K H1 locs1 ls (ht ▸ hP1) hD1 hS1 hl
theorem s_cV_R (C : CX G A Γ cc own rm nL) {r : Nat} (hM : MR l y cb mL rt rb G A ws (.ref b :: As) r ws') (gd : GoodIn lw_g (wsV own ix Cn y (Cond.code y cb mL (some rt) :: lw_g))) (hd : y.cls = Cn ∧ y.cls ≠ "java/lang/invoke/MethodHandle" ∧ y.cls ≠ "java/lang/invoke/VarHandle" ∧ ((parseMethodDescriptor y.desc).map (fun d => d.parameters.length) = some nA)) (hn : As.length = nA) (hR : rb.frames + 1 ≤ rm.frames ∧ 8 + (mL + 11) + rb.locals ≤ rm.locals) (hc : vwCl[ci]? = some (Cn, T, N)) (he : ws[q]? = some (b, .inr (ci, fs))) (hst : stk = As.reverse ++ .ref b :: rest) (hrm : (rest.map fun v => v.category).sum ≤ 8) (hroom : k + rb.cells ≤ rm.cells ∧ n + rb.slots ≤ rm.slots) (d : decode cc pc = .ok (.invokevirtual ix, 3)) (K : St l G A Γ (k + rb.cells) (n + rb.slots) ws' (pc + 3) lv (.ref r :: rest)) : St l G A Γ k n ws pc lv stk := by
  obtain ⟨p, e, R, s, m, args, below, meth, c, nL, Q⟩ := Γ
  obtain ⟨hx, hb, hml, hown, hts, hK, hA, hN, rfl, rfl⟩ := C
  intro H locs ls hP hD hS hl
  refine va_callr (va_runV (As := As) (rest := rest) ⟨hx, hb, hml, hown, hts⟩ hM (cwV nA hts gd rfl rfl rfl hd hR) ⟨g_blind, va_recv hK hP hc he, fun U hU hW => ⟨rfl, fun q h => hA q (Nat.le_trans hS.1 (hU ▸ h)), hN.warm hW, by rw [hU]; exact hP, va_K.moved hW.alike hK, hD⟩⟩ rfl hn hl.1 hst (lv_room hrm) d hroom) hS (fun q _ h => h) (fun q h => h) (fun u r' t H1 locs1 ht hvm hw hB hz hk hS1 => ?_)
  obtain ⟨hra, hP1, hK1, hD1⟩ := hB
  subst hra
  exact K H1 locs1 ls (ht ▸ hP1) hD1 hS1 hl
theorem s_cS_I (C : CX G A Γ cc own rm nL) {r : Int32} (hM : MI l y cb mL rt rb G A ws As r ws') (gd : GoodIn lw_g (wsS own ix y (Cond.code y cb mL (some rt) :: lw_g))) (hd : y.cls = own ∧ y.cls ≠ "java/lang/invoke/MethodHandle" ∧ y.cls ≠ "java/lang/invoke/VarHandle" ∧ ((parseMethodDescriptor y.desc).map (fun d => d.parameters.length) = some nA)) (hn : As.length = nA) (hR : rb.frames + 1 ≤ rm.frames ∧ 8 + (mL + 11) + rb.locals ≤ rm.locals) (hst : stk = As.reverse ++ rest) (hrm : (rest.map fun v => v.category).sum ≤ 8) (hroom : k + rb.cells ≤ rm.cells ∧ n + rb.slots ≤ rm.slots) (d : decode cc pc = .ok (.invokestatic ix, 3)) (K : St l G A Γ (k + rb.cells) (n + rb.slots) ws' (pc + 3) lv (.int r :: rest)) : St l G A Γ k n ws pc lv stk := by
  obtain ⟨p, e, R, s, m, args, below, meth, c, nL, Q⟩ := Γ
  obtain ⟨hx, hb, hml, hown, hts, hK, hA, hN, rfl, rfl⟩ := C
  intro H locs ls hP hD hS hl
  refine va_calli (va_runS (As := As) (rest := rest) ⟨hx, hb, hml, hown, hts⟩ hM (cwS nA hts gd rfl rfl rfl hd hR) ⟨g_blind, fun U hU hW => ⟨rfl, fun q h => hA q (Nat.le_trans hS.1 (hU ▸ h)), hN.warm hW, by rw [hU]; exact hP, va_K.moved hW.alike hK, hD⟩⟩ rfl hn hl.1 hst (lv_room hrm) d hroom) hS (fun q _ h => h) (fun q h => h) (fun r' u t H1 locs1 ht hvm hw hB hz hk hS1 => ?_)
  obtain ⟨hP1, hK1, hD1⟩ := hB
  subst hw
  exact K H1 locs1 ls (ht ▸ hP1) hD1 hS1 hl
theorem s_cS_L (C : CX G A Γ cc own rm nL) {r : Int64} (hM : ML l y cb mL rb G A ws As r ws') (gd : GoodIn lw_g (wsS own ix y (Cond.code y cb mL (some .long) :: lw_g))) (hd : y.cls = own ∧ y.cls ≠ "java/lang/invoke/MethodHandle" ∧ y.cls ≠ "java/lang/invoke/VarHandle" ∧ ((parseMethodDescriptor y.desc).map (fun d => d.parameters.length) = some nA)) (hn : As.length = nA) (hR : rb.frames + 1 ≤ rm.frames ∧ 8 + (mL + 11) + rb.locals ≤ rm.locals) (hst : stk = As.reverse ++ rest) (hrm : (rest.map fun v => v.category).sum ≤ 8) (hroom : k + rb.cells ≤ rm.cells ∧ n + rb.slots ≤ rm.slots) (d : decode cc pc = .ok (.invokestatic ix, 3)) (K : St l G A Γ (k + rb.cells) (n + rb.slots) ws' (pc + 3) lv (.long r :: rest)) : St l G A Γ k n ws pc lv stk := by
  obtain ⟨p, e, R, s, m, args, below, meth, c, nL, Q⟩ := Γ
  obtain ⟨hx, hb, hml, hown, hts, hK, hA, hN, rfl, rfl⟩ := C
  intro H locs ls hP hD hS hl
  refine va_calll (va_runS (As := As) (rest := rest) ⟨hx, hb, hml, hown, hts⟩ hM (cwS nA hts gd rfl rfl rfl hd hR) ⟨g_blind, fun U hU hW => ⟨rfl, fun q h => hA q (Nat.le_trans hS.1 (hU ▸ h)), hN.warm hW, by rw [hU]; exact hP, va_K.moved hW.alike hK, hD⟩⟩ rfl hn hl.1 hst (lv_room hrm) d hroom) hS (fun q _ h => h) (fun q h => h) (fun r' u t H1 locs1 ht hvm hw hB hz hk hS1 => ?_)
  obtain ⟨hP1, hK1, hD1⟩ := hB
  subst hw
  exact K H1 locs1 ls (ht ▸ hP1) hD1 hS1 hl
theorem s_cS_V (C : CX G A Γ cc own rm nL)  (hM : MV l y cb mL rb G A ws As ws') (gd : GoodIn lw_g (wsS own ix y (Cond.code y cb mL none :: lw_g))) (hd : y.cls = own ∧ y.cls ≠ "java/lang/invoke/MethodHandle" ∧ y.cls ≠ "java/lang/invoke/VarHandle" ∧ ((parseMethodDescriptor y.desc).map (fun d => d.parameters.length) = some nA)) (hn : As.length = nA) (hR : rb.frames + 1 ≤ rm.frames ∧ 8 + (mL + 11) + rb.locals ≤ rm.locals) (hst : stk = As.reverse ++ rest) (hrm : (rest.map fun v => v.category).sum ≤ 8) (hroom : k + rb.cells ≤ rm.cells ∧ n + rb.slots ≤ rm.slots) (d : decode cc pc = .ok (.invokestatic ix, 3)) (K : St l G A Γ (k + rb.cells) (n + rb.slots) ws' (pc + 3) lv (rest)) : St l G A Γ k n ws pc lv stk := by
  obtain ⟨p, e, R, s, m, args, below, meth, c, nL, Q⟩ := Γ
  obtain ⟨hx, hb, hml, hown, hts, hK, hA, hN, rfl, rfl⟩ := C
  intro H locs ls hP hD hS hl
  refine va_callv (va_runS (As := As) (rest := rest) ⟨hx, hb, hml, hown, hts⟩ hM (cwS nA hts gd rfl rfl rfl hd hR) ⟨g_blind, fun U hU hW => ⟨rfl, fun q h => hA q (Nat.le_trans hS.1 (hU ▸ h)), hN.warm hW, by rw [hU]; exact hP, va_K.moved hW.alike hK, hD⟩⟩ rfl hn hl.1 hst (lv_room hrm) d hroom) hS (fun q _ h => h) (fun q h => h) (fun u t H1 locs1 ht hvm hw hB hz hk hS1 => ?_)
  obtain ⟨hP1, hK1, hD1⟩ := hB
  exact K H1 locs1 ls (ht ▸ hP1) hD1 hS1 hl
theorem s_cS_R (C : CX G A Γ cc own rm nL) {r : Nat} (hM : MR l y cb mL rt rb G A ws As r ws') (gd : GoodIn lw_g (wsS own ix y (Cond.code y cb mL (some rt) :: lw_g))) (hd : y.cls = own ∧ y.cls ≠ "java/lang/invoke/MethodHandle" ∧ y.cls ≠ "java/lang/invoke/VarHandle" ∧ ((parseMethodDescriptor y.desc).map (fun d => d.parameters.length) = some nA)) (hn : As.length = nA) (hR : rb.frames + 1 ≤ rm.frames ∧ 8 + (mL + 11) + rb.locals ≤ rm.locals) (hst : stk = As.reverse ++ rest) (hrm : (rest.map fun v => v.category).sum ≤ 8) (hroom : k + rb.cells ≤ rm.cells ∧ n + rb.slots ≤ rm.slots) (d : decode cc pc = .ok (.invokestatic ix, 3)) (K : St l G A Γ (k + rb.cells) (n + rb.slots) ws' (pc + 3) lv (.ref r :: rest)) : St l G A Γ k n ws pc lv stk := by
  obtain ⟨p, e, R, s, m, args, below, meth, c, nL, Q⟩ := Γ
  obtain ⟨hx, hb, hml, hown, hts, hK, hA, hN, rfl, rfl⟩ := C
  intro H locs ls hP hD hS hl
  refine va_callr (va_runS (As := As) (rest := rest) ⟨hx, hb, hml, hown, hts⟩ hM (cwS nA hts gd rfl rfl rfl hd hR) ⟨g_blind, fun U hU hW => ⟨rfl, fun q h => hA q (Nat.le_trans hS.1 (hU ▸ h)), hN.warm hW, by rw [hU]; exact hP, va_K.moved hW.alike hK, hD⟩⟩ rfl hn hl.1 hst (lv_room hrm) d hroom) hS (fun q _ h => h) (fun q h => h) (fun u r' t H1 locs1 ht hvm hw hB hz hk hS1 => ?_)
  obtain ⟨hra, hP1, hK1, hD1⟩ := hB
  subst hra
  exact K H1 locs1 ls (ht ▸ hP1) hD1 hS1 hl
theorem s_cI_V (C : CX G A Γ cc own rm nL)  (hM : MV l y cb mL rb G A ws (.ref b :: As) ws') (gd : GoodIn lw_g (Cond.code y cb mL none :: lw_g)) (hl1 : Cond.initialized y.cls ∈ lw_g) (hl2 : Cond.methodLink own ix y ∈ lw_g) (hl3 : Cond.instanceMethod y ∈ lw_g) (hy1 : y.name = "<init>") (hd : y.cls ≠ "java/lang/invoke/MethodHandle" ∧ y.cls ≠ "java/lang/invoke/VarHandle" ∧ ((parseMethodDescriptor y.desc).map (fun d => d.parameters.length) = some nA)) (hn : As.length = nA) (hR : rb.frames + 1 ≤ rm.frames ∧ 8 + (mL + 11) + rb.locals ≤ rm.locals) (hst : stk = As.reverse ++ .ref b :: rest) (hrm : (rest.map fun v => v.category).sum ≤ 8) (hroom : k + rb.cells ≤ rm.cells ∧ n + rb.slots ≤ rm.slots) (d : decode cc pc = .ok (.invokespecial ix, 3)) (K : St l G A Γ (k + rb.cells) (n + rb.slots) ws' (pc + 3) lv (rest)) : St l G A Γ k n ws pc lv stk := by
  obtain ⟨p, e, R, s, m, args, below, meth, c, nL, Q⟩ := Γ
  obtain ⟨hx, hb, hml, hown, hts, hK, hA, hN, rfl, rfl⟩ := C
  intro H locs ls hP hD hS hl
  refine va_callv (va_runI (As := As) (rest := rest) ⟨hx, hb, hml, hown, hts⟩ hM (cwI nA hts gd rfl rfl rfl (hts _ hl1) (hts _ hl2) (hts _ hl3) hy1 hd hR) ⟨g_blind, fun U hU hW => ⟨rfl, fun q h => hA q (Nat.le_trans hS.1 (hU ▸ h)), hN.warm hW, by rw [hU]; exact hP, va_K.moved hW.alike hK, hD⟩⟩ rfl hn hl.1 hst (lv_room hrm) d hroom) hS (fun q _ h => h) (fun q h => h) (fun u t H1 locs1 ht hvm hw hB hz hk hS1 => ?_)
  obtain ⟨hP1, hK1, hD1⟩ := hB
  exact K H1 locs1 ls (ht ▸ hP1) hD1 hS1 hl
theorem s_cVN_I (C : CX G A Γ cc own rm nL) {r : Int32} (hM : MI l y cb mL rt rb G A ws (.ref b :: As) r ws') (gd : GoodIn lw_g (Cond.code y cb mL (some rt) :: lw_g)) (hl1 : Cond.initialized y.cls ∈ lw_g) (hl2 : Cond.methodLinkNest own ix y host ∈ nestW) (hl3 : Cond.instanceMethod y ∈ lw_g) (hl4 : Cond.selects Cn y y ∈ lw_g) (hd : y.cls ≠ "java/lang/invoke/MethodHandle" ∧ y.cls ≠ "java/lang/invoke/VarHandle" ∧ ((parseMethodDescriptor y.desc).map (fun d => d.parameters.length) = some nA)) (hn : As.length = nA) (hR : rb.frames + 1 ≤ rm.frames ∧ 8 + (mL + 11) + rb.locals ≤ rm.locals) (hc : vwCl[ci]? = some (Cn, T, N)) (he : ws[q]? = some (b, .inr (ci, fs))) (hst : stk = As.reverse ++ .ref b :: rest) (hrm : (rest.map fun v => v.category).sum ≤ 8) (hroom : k + rb.cells ≤ rm.cells ∧ n + rb.slots ≤ rm.slots) (d : decode cc pc = .ok (.invokevirtual ix, 3)) (K : St l G A Γ (k + rb.cells) (n + rb.slots) ws' (pc + 3) lv (.int r :: rest)) : St l G A Γ k n ws pc lv stk := by
  obtain ⟨p, e, R, s, m, args, below, meth, c, nL, Q⟩ := Γ
  obtain ⟨hx, hb, hml, hown, hts, hK, hA, hN, rfl, rfl⟩ := C
  intro H locs ls hP hD hS hl
  refine va_calli (va_runVN (As := As) (rest := rest) ⟨hx, hb, hml, hown, hts⟩ hM (⟨va_cnB nA hts gd rfl rfl rfl (hN.1 _ hl2) (hts _ hl1) hd hR, hts _ hl3, hts _ hl4⟩) ⟨g_blind, va_recv hK hP hc he, fun U hU hW => ⟨rfl, fun q h => hA q (Nat.le_trans hS.1 (hU ▸ h)), hN.warm hW, by rw [hU]; exact hP, va_K.moved hW.alike hK, hD⟩⟩ rfl hn hl.1 hst (lv_room hrm) d hroom) hS (fun q _ h => h) (fun q h => h) (fun r' u t H1 locs1 ht hvm hw hB hz hk hS1 => ?_)
  obtain ⟨hP1, hK1, hD1⟩ := hB
  subst hw
  exact K H1 locs1 ls (ht ▸ hP1) hD1 hS1 hl
theorem s_cVN_L (C : CX G A Γ cc own rm nL) {r : Int64} (hM : ML l y cb mL rb G A ws (.ref b :: As) r ws') (gd : GoodIn lw_g (Cond.code y cb mL (some .long) :: lw_g)) (hl1 : Cond.initialized y.cls ∈ lw_g) (hl2 : Cond.methodLinkNest own ix y host ∈ nestW) (hl3 : Cond.instanceMethod y ∈ lw_g) (hl4 : Cond.selects Cn y y ∈ lw_g) (hd : y.cls ≠ "java/lang/invoke/MethodHandle" ∧ y.cls ≠ "java/lang/invoke/VarHandle" ∧ ((parseMethodDescriptor y.desc).map (fun d => d.parameters.length) = some nA)) (hn : As.length = nA) (hR : rb.frames + 1 ≤ rm.frames ∧ 8 + (mL + 11) + rb.locals ≤ rm.locals) (hc : vwCl[ci]? = some (Cn, T, N)) (he : ws[q]? = some (b, .inr (ci, fs))) (hst : stk = As.reverse ++ .ref b :: rest) (hrm : (rest.map fun v => v.category).sum ≤ 8) (hroom : k + rb.cells ≤ rm.cells ∧ n + rb.slots ≤ rm.slots) (d : decode cc pc = .ok (.invokevirtual ix, 3)) (K : St l G A Γ (k + rb.cells) (n + rb.slots) ws' (pc + 3) lv (.long r :: rest)) : St l G A Γ k n ws pc lv stk := by
  obtain ⟨p, e, R, s, m, args, below, meth, c, nL, Q⟩ := Γ
  obtain ⟨hx, hb, hml, hown, hts, hK, hA, hN, rfl, rfl⟩ := C
  intro H locs ls hP hD hS hl
  refine va_calll (va_runVN (As := As) (rest := rest) ⟨hx, hb, hml, hown, hts⟩ hM (⟨va_cnB nA hts gd rfl rfl rfl (hN.1 _ hl2) (hts _ hl1) hd hR, hts _ hl3, hts _ hl4⟩) ⟨g_blind, va_recv hK hP hc he, fun U hU hW => ⟨rfl, fun q h => hA q (Nat.le_trans hS.1 (hU ▸ h)), hN.warm hW, by rw [hU]; exact hP, va_K.moved hW.alike hK, hD⟩⟩ rfl hn hl.1 hst (lv_room hrm) d hroom) hS (fun q _ h => h) (fun q h => h) (fun r' u t H1 locs1 ht hvm hw hB hz hk hS1 => ?_)
  obtain ⟨hP1, hK1, hD1⟩ := hB
  subst hw
  exact K H1 locs1 ls (ht ▸ hP1) hD1 hS1 hl
theorem s_cVN_V (C : CX G A Γ cc own rm nL)  (hM : MV l y cb mL rb G A ws (.ref b :: As) ws') (gd : GoodIn lw_g (Cond.code y cb mL none :: lw_g)) (hl1 : Cond.initialized y.cls ∈ lw_g) (hl2 : Cond.methodLinkNest own ix y host ∈ nestW) (hl3 : Cond.instanceMethod y ∈ lw_g) (hl4 : Cond.selects Cn y y ∈ lw_g) (hd : y.cls ≠ "java/lang/invoke/MethodHandle" ∧ y.cls ≠ "java/lang/invoke/VarHandle" ∧ ((parseMethodDescriptor y.desc).map (fun d => d.parameters.length) = some nA)) (hn : As.length = nA) (hR : rb.frames + 1 ≤ rm.frames ∧ 8 + (mL + 11) + rb.locals ≤ rm.locals) (hc : vwCl[ci]? = some (Cn, T, N)) (he : ws[q]? = some (b, .inr (ci, fs))) (hst : stk = As.reverse ++ .ref b :: rest) (hrm : (rest.map fun v => v.category).sum ≤ 8) (hroom : k + rb.cells ≤ rm.cells ∧ n + rb.slots ≤ rm.slots) (d : decode cc pc = .ok (.invokevirtual ix, 3)) (K : St l G A Γ (k + rb.cells) (n + rb.slots) ws' (pc + 3) lv (rest)) : St l G A Γ k n ws pc lv stk := by
  obtain ⟨p, e, R, s, m, args, below, meth, c, nL, Q⟩ := Γ
  obtain ⟨hx, hb, hml, hown, hts, hK, hA, hN, rfl, rfl⟩ := C
  intro H locs ls hP hD hS hl
  refine va_callv (va_runVN (As := As) (rest := rest) ⟨hx, hb, hml, hown, hts⟩ hM (⟨va_cnB nA hts gd rfl rfl rfl (hN.1 _ hl2) (hts _ hl1) hd hR, hts _ hl3, hts _ hl4⟩) ⟨g_blind, va_recv hK hP hc he, fun U hU hW => ⟨rfl, fun q h => hA q (Nat.le_trans hS.1 (hU ▸ h)), hN.warm hW, by rw [hU]; exact hP, va_K.moved hW.alike hK, hD⟩⟩ rfl hn hl.1 hst (lv_room hrm) d hroom) hS (fun q _ h => h) (fun q h => h) (fun u t H1 locs1 ht hvm hw hB hz hk hS1 => ?_)
  obtain ⟨hP1, hK1, hD1⟩ := hB
  exact K H1 locs1 ls (ht ▸ hP1) hD1 hS1 hl
theorem s_cVN_R (C : CX G A Γ cc own rm nL) {r : Nat} (hM : MR l y cb mL rt rb G A ws (.ref b :: As) r ws') (gd : GoodIn lw_g (Cond.code y cb mL (some rt) :: lw_g)) (hl1 : Cond.initialized y.cls ∈ lw_g) (hl2 : Cond.methodLinkNest own ix y host ∈ nestW) (hl3 : Cond.instanceMethod y ∈ lw_g) (hl4 : Cond.selects Cn y y ∈ lw_g) (hd : y.cls ≠ "java/lang/invoke/MethodHandle" ∧ y.cls ≠ "java/lang/invoke/VarHandle" ∧ ((parseMethodDescriptor y.desc).map (fun d => d.parameters.length) = some nA)) (hn : As.length = nA) (hR : rb.frames + 1 ≤ rm.frames ∧ 8 + (mL + 11) + rb.locals ≤ rm.locals) (hc : vwCl[ci]? = some (Cn, T, N)) (he : ws[q]? = some (b, .inr (ci, fs))) (hst : stk = As.reverse ++ .ref b :: rest) (hrm : (rest.map fun v => v.category).sum ≤ 8) (hroom : k + rb.cells ≤ rm.cells ∧ n + rb.slots ≤ rm.slots) (d : decode cc pc = .ok (.invokevirtual ix, 3)) (K : St l G A Γ (k + rb.cells) (n + rb.slots) ws' (pc + 3) lv (.ref r :: rest)) : St l G A Γ k n ws pc lv stk := by
  obtain ⟨p, e, R, s, m, args, below, meth, c, nL, Q⟩ := Γ
  obtain ⟨hx, hb, hml, hown, hts, hK, hA, hN, rfl, rfl⟩ := C
  intro H locs ls hP hD hS hl
  refine va_callr (va_runVN (As := As) (rest := rest) ⟨hx, hb, hml, hown, hts⟩ hM (⟨va_cnB nA hts gd rfl rfl rfl (hN.1 _ hl2) (hts _ hl1) hd hR, hts _ hl3, hts _ hl4⟩) ⟨g_blind, va_recv hK hP hc he, fun U hU hW => ⟨rfl, fun q h => hA q (Nat.le_trans hS.1 (hU ▸ h)), hN.warm hW, by rw [hU]; exact hP, va_K.moved hW.alike hK, hD⟩⟩ rfl hn hl.1 hst (lv_room hrm) d hroom) hS (fun q _ h => h) (fun q h => h) (fun u r' t H1 locs1 ht hvm hw hB hz hk hS1 => ?_)
  obtain ⟨hra, hP1, hK1, hD1⟩ := hB
  subst hra
  exact K H1 locs1 ls (ht ▸ hP1) hD1 hS1 hl
theorem s_cSN_I (C : CX G A Γ cc own rm nL) {r : Int32} (hM : MI l y cb mL rt rb G A ws As r ws') (gd : GoodIn lw_g (Cond.code y cb mL (some rt) :: lw_g)) (hl1 : Cond.initialized y.cls ∈ lw_g) (hl2 : Cond.methodLinkNest own ix y host ∈ nestW) (hl3 : Cond.static y ∈ lw_g) (hd : y.cls ≠ "java/lang/invoke/MethodHandle" ∧ y.cls ≠ "java/lang/invoke/VarHandle" ∧ ((parseMethodDescriptor y.desc).map (fun d => d.parameters.length) = some nA)) (hn : As.length = nA) (hR : rb.frames + 1 ≤ rm.frames ∧ 8 + (mL + 11) + rb.locals ≤ rm.locals) (hst : stk = As.reverse ++ rest) (hrm : (rest.map fun v => v.category).sum ≤ 8) (hroom : k + rb.cells ≤ rm.cells ∧ n + rb.slots ≤ rm.slots) (d : decode cc pc = .ok (.invokestatic ix, 3)) (K : St l G A Γ (k + rb.cells) (n + rb.slots) ws' (pc + 3) lv (.int r :: rest)) : St l G A Γ k n ws pc lv stk := by
  obtain ⟨p, e, R, s, m, args, below, meth, c, nL, Q⟩ := Γ
  obtain ⟨hx, hb, hml, hown, hts, hK, hA, hN, rfl, rfl⟩ := C
  intro H locs ls hP hD hS hl
  refine va_calli (va_runSN (As := As) (rest := rest) ⟨hx, hb, hml, hown, hts⟩ hM (⟨va_cnB nA hts gd rfl rfl rfl (hN.1 _ hl2) (hts _ hl1) hd hR, hts _ hl3, trivial⟩) ⟨g_blind, fun U hU hW => ⟨rfl, fun q h => hA q (Nat.le_trans hS.1 (hU ▸ h)), hN.warm hW, by rw [hU]; exact hP, va_K.moved hW.alike hK, hD⟩⟩ rfl hn hl.1 hst (lv_room hrm) d hroom) hS (fun q _ h => h) (fun q h => h) (fun r' u t H1 locs1 ht hvm hw hB hz hk hS1 => ?_)
  obtain ⟨hP1, hK1, hD1⟩ := hB
  subst hw
  exact K H1 locs1 ls (ht ▸ hP1) hD1 hS1 hl
theorem s_cSN_L (C : CX G A Γ cc own rm nL) {r : Int64} (hM : ML l y cb mL rb G A ws As r ws') (gd : GoodIn lw_g (Cond.code y cb mL (some .long) :: lw_g)) (hl1 : Cond.initialized y.cls ∈ lw_g) (hl2 : Cond.methodLinkNest own ix y host ∈ nestW) (hl3 : Cond.static y ∈ lw_g) (hd : y.cls ≠ "java/lang/invoke/MethodHandle" ∧ y.cls ≠ "java/lang/invoke/VarHandle" ∧ ((parseMethodDescriptor y.desc).map (fun d => d.parameters.length) = some nA)) (hn : As.length = nA) (hR : rb.frames + 1 ≤ rm.frames ∧ 8 + (mL + 11) + rb.locals ≤ rm.locals) (hst : stk = As.reverse ++ rest) (hrm : (rest.map fun v => v.category).sum ≤ 8) (hroom : k + rb.cells ≤ rm.cells ∧ n + rb.slots ≤ rm.slots) (d : decode cc pc = .ok (.invokestatic ix, 3)) (K : St l G A Γ (k + rb.cells) (n + rb.slots) ws' (pc + 3) lv (.long r :: rest)) : St l G A Γ k n ws pc lv stk := by
  obtain ⟨p, e, R, s, m, args, below, meth, c, nL, Q⟩ := Γ
  obtain ⟨hx, hb, hml, hown, hts, hK, hA, hN, rfl, rfl⟩ := C
  intro H locs ls hP hD hS hl
  refine va_calll (va_runSN (As := As) (rest := rest) ⟨hx, hb, hml, hown, hts⟩ hM (⟨va_cnB nA hts gd rfl rfl rfl (hN.1 _ hl2) (hts _ hl1) hd hR, hts _ hl3, trivial⟩) ⟨g_blind, fun U hU hW => ⟨rfl, fun q h => hA q (Nat.le_trans hS.1 (hU ▸ h)), hN.warm hW, by rw [hU]; exact hP, va_K.moved hW.alike hK, hD⟩⟩ rfl hn hl.1 hst (lv_room hrm) d hroom) hS (fun q _ h => h) (fun q h => h) (fun r' u t H1 locs1 ht hvm hw hB hz hk hS1 => ?_)
  obtain ⟨hP1, hK1, hD1⟩ := hB
  subst hw
  exact K H1 locs1 ls (ht ▸ hP1) hD1 hS1 hl
theorem s_cSN_V (C : CX G A Γ cc own rm nL)  (hM : MV l y cb mL rb G A ws As ws') (gd : GoodIn lw_g (Cond.code y cb mL none :: lw_g)) (hl1 : Cond.initialized y.cls ∈ lw_g) (hl2 : Cond.methodLinkNest own ix y host ∈ nestW) (hl3 : Cond.static y ∈ lw_g) (hd : y.cls ≠ "java/lang/invoke/MethodHandle" ∧ y.cls ≠ "java/lang/invoke/VarHandle" ∧ ((parseMethodDescriptor y.desc).map (fun d => d.parameters.length) = some nA)) (hn : As.length = nA) (hR : rb.frames + 1 ≤ rm.frames ∧ 8 + (mL + 11) + rb.locals ≤ rm.locals) (hst : stk = As.reverse ++ rest) (hrm : (rest.map fun v => v.category).sum ≤ 8) (hroom : k + rb.cells ≤ rm.cells ∧ n + rb.slots ≤ rm.slots) (d : decode cc pc = .ok (.invokestatic ix, 3)) (K : St l G A Γ (k + rb.cells) (n + rb.slots) ws' (pc + 3) lv (rest)) : St l G A Γ k n ws pc lv stk := by
  obtain ⟨p, e, R, s, m, args, below, meth, c, nL, Q⟩ := Γ
  obtain ⟨hx, hb, hml, hown, hts, hK, hA, hN, rfl, rfl⟩ := C
  intro H locs ls hP hD hS hl
  refine va_callv (va_runSN (As := As) (rest := rest) ⟨hx, hb, hml, hown, hts⟩ hM (⟨va_cnB nA hts gd rfl rfl rfl (hN.1 _ hl2) (hts _ hl1) hd hR, hts _ hl3, trivial⟩) ⟨g_blind, fun U hU hW => ⟨rfl, fun q h => hA q (Nat.le_trans hS.1 (hU ▸ h)), hN.warm hW, by rw [hU]; exact hP, va_K.moved hW.alike hK, hD⟩⟩ rfl hn hl.1 hst (lv_room hrm) d hroom) hS (fun q _ h => h) (fun q h => h) (fun u t H1 locs1 ht hvm hw hB hz hk hS1 => ?_)
  obtain ⟨hP1, hK1, hD1⟩ := hB
  exact K H1 locs1 ls (ht ▸ hP1) hD1 hS1 hl
theorem s_cSN_R (C : CX G A Γ cc own rm nL) {r : Nat} (hM : MR l y cb mL rt rb G A ws As r ws') (gd : GoodIn lw_g (Cond.code y cb mL (some rt) :: lw_g)) (hl1 : Cond.initialized y.cls ∈ lw_g) (hl2 : Cond.methodLinkNest own ix y host ∈ nestW) (hl3 : Cond.static y ∈ lw_g) (hd : y.cls ≠ "java/lang/invoke/MethodHandle" ∧ y.cls ≠ "java/lang/invoke/VarHandle" ∧ ((parseMethodDescriptor y.desc).map (fun d => d.parameters.length) = some nA)) (hn : As.length = nA) (hR : rb.frames + 1 ≤ rm.frames ∧ 8 + (mL + 11) + rb.locals ≤ rm.locals) (hst : stk = As.reverse ++ rest) (hrm : (rest.map fun v => v.category).sum ≤ 8) (hroom : k + rb.cells ≤ rm.cells ∧ n + rb.slots ≤ rm.slots) (d : decode cc pc = .ok (.invokestatic ix, 3)) (K : St l G A Γ (k + rb.cells) (n + rb.slots) ws' (pc + 3) lv (.ref r :: rest)) : St l G A Γ k n ws pc lv stk := by
  obtain ⟨p, e, R, s, m, args, below, meth, c, nL, Q⟩ := Γ
  obtain ⟨hx, hb, hml, hown, hts, hK, hA, hN, rfl, rfl⟩ := C
  intro H locs ls hP hD hS hl
  refine va_callr (va_runSN (As := As) (rest := rest) ⟨hx, hb, hml, hown, hts⟩ hM (⟨va_cnB nA hts gd rfl rfl rfl (hN.1 _ hl2) (hts _ hl1) hd hR, hts _ hl3, trivial⟩) ⟨g_blind, fun U hU hW => ⟨rfl, fun q h => hA q (Nat.le_trans hS.1 (hU ▸ h)), hN.warm hW, by rw [hU]; exact hP, va_K.moved hW.alike hK, hD⟩⟩ rfl hn hl.1 hst (lv_room hrm) d hroom) hS (fun q _ h => h) (fun q h => h) (fun u r' t H1 locs1 ht hvm hw hB hz hk hS1 => ?_)
  obtain ⟨hra, hP1, hK1, hD1⟩ := hB
  subst hra
  exact K H1 locs1 ls (ht ▸ hP1) hD1 hS1 hl
theorem s_cIN_V (C : CX G A Γ cc own rm nL)  (hM : MV l y cb mL rb G A ws (.ref b :: As) ws') (gd : GoodIn lw_g (Cond.code y cb mL none :: lw_g)) (hl1 : Cond.initialized y.cls ∈ lw_g) (hl2 : Cond.methodLinkNest own ix y host ∈ nestW) (hl3 : Cond.instanceMethod y ∈ lw_g) (hy1 : y.name = "<init>") (hd : y.cls ≠ "java/lang/invoke/MethodHandle" ∧ y.cls ≠ "java/lang/invoke/VarHandle" ∧ ((parseMethodDescriptor y.desc).map (fun d => d.parameters.length) = some nA)) (hn : As.length = nA) (hR : rb.frames + 1 ≤ rm.frames ∧ 8 + (mL + 11) + rb.locals ≤ rm.locals) (hst : stk = As.reverse ++ .ref b :: rest) (hrm : (rest.map fun v => v.category).sum ≤ 8) (hroom : k + rb.cells ≤ rm.cells ∧ n + rb.slots ≤ rm.slots) (d : decode cc pc = .ok (.invokespecial ix, 3)) (K : St l G A Γ (k + rb.cells) (n + rb.slots) ws' (pc + 3) lv (rest)) : St l G A Γ k n ws pc lv stk := by
  obtain ⟨p, e, R, s, m, args, below, meth, c, nL, Q⟩ := Γ
  obtain ⟨hx, hb, hml, hown, hts, hK, hA, hN, rfl, rfl⟩ := C
  intro H locs ls hP hD hS hl
  refine va_callv (va_runIN (As := As) (rest := rest) ⟨hx, hb, hml, hown, hts⟩ hM (⟨va_cnB nA hts gd rfl rfl rfl (hN.1 _ hl2) (hts _ hl1) hd hR, hy1, hts _ hl3⟩) ⟨g_blind, fun U hU hW => ⟨rfl, fun q h => hA q (Nat.le_trans hS.1 (hU ▸ h)), hN.warm hW, by rw [hU]; exact hP, va_K.moved hW.alike hK, hD⟩⟩ rfl hn hl.1 hst (lv_room hrm) d hroom) hS (fun q _ h => h) (fun q h => h) (fun u t H1 locs1 ht hvm hw hB hz hk hS1 => ?_)
  obtain ⟨hP1, hK1, hD1⟩ := hB
  exact K H1 locs1 ls (ht ▸ hP1) hD1 hS1 hl
end CALLS
theorem e_I {l : Launch} {y : MethodName} {cc : ByteArray} {mL : Nat} {rm : Room} {G : GG} {A : Nat → Prop} {ws : va_W} {av : List Value} {ws' : va_W} {rt : FieldType} {r : Int32} (hy : plainName y.cls = true) (hlen : (lg_sl av).length ≤ mL) (body : ∀ Γ : Cx, CX G A Γ cc y.cls rm mL → (∀ (pc : Nat) (lv : List (Nat × Value)), decode cc pc = .ok (.ireturn, 1) → narrow rt (.int r) = .int r → St l G A Γ rm.cells rm.slots ws' pc lv [.int r]) → St l G A Γ 0 0 ws 0 (lv_args 0 av) []) : MI l y cc mL rt rm G A ws av r ws' := by
  refine Met.ofW (cc := cc) (maxL := mL) (ret := (some rt)) hy rfl ?_
  intro p e s m args below meth c s₁ B hml hv
  obtain ⟨rfl, hA, hN, hP, hK, hD⟩ := hv
  have hx := B.exec
  have hb := B.bytes
  have hr := B.returns
  have hts := atoms_spec (ws := Cond.code y cc mL (some rt) :: lw_g) B.pre
  have hown : s.vm.findClass y.cls = some m.cls := findClass_of_methodNamed B.named
  have hlocks := B.notSynchronized
  have hl := lv_entry av (n := mL) hlen
  rw [lg_entry_eq]
  exact body (p, e, rm, s, m, av.toArray, below, meth, c, mL, MQ below (gQi G A ws' r) av.toArray s rm.cells rm.slots A) ⟨hx, hb, hml, hown, fun w h => hts w (List.mem_cons_of_mem _ h), hK, hA, hN, rfl, rfl⟩ (fun pc lv d hrt H locs ls hP hD hS hl => W.zret hx hb hr hrt (fun t ht hW => ⟨⟨r, (), rfl, rfl, by rw [ht]; exact hP, va_K.moved hW.alike hK, hD⟩, hS.F ht⟩) hS.2.2 d) s.heap [] _ hP hD va_S.rf hl
theorem e_L {l : Launch} {y : MethodName} {cc : ByteArray} {mL : Nat} {rm : Room} {G : GG} {A : Nat → Prop} {ws : va_W} {av : List Value} {ws' : va_W} {r : Int64} (hy : plainName y.cls = true) (hlen : (lg_sl av).length ≤ mL) (body : ∀ Γ : Cx, CX G A Γ cc y.cls rm mL → (∀ (pc : Nat) (lv : List (Nat × Value)), decode cc pc = .ok (.lreturn, 1) → St l G A Γ rm.cells rm.slots ws' pc lv [.long r]) → St l G A Γ 0 0 ws 0 (lv_args 0 av) []) : ML l y cc mL rm G A ws av r ws' := by
  refine Met.ofW (cc := cc) (maxL := mL) (ret := (some .long)) hy rfl ?_
  intro p e s m args below meth c s₁ B hml hv
  obtain ⟨rfl, hA, hN, hP, hK, hD⟩ := hv
  have hx := B.exec
  have hb := B.bytes
  have hr := B.returns
  have hts := atoms_spec (ws := Cond.code y cc mL (some .long) :: lw_g) B.pre
  have hown : s.vm.findClass y.cls = some m.cls := findClass_of_methodNamed B.named
  have hlocks := B.notSynchronized
  have hl := lv_entry av (n := mL) hlen
  rw [lg_entry_eq]
  exact body (p, e, rm, s, m, av.toArray, below, meth, c, mL, MQ below (gQl G A ws' r) av.toArray s rm.cells rm.slots A) ⟨hx, hb, hml, hown, fun w h => hts w (List.mem_cons_of_mem _ h), hK, hA, hN, rfl, rfl⟩ (fun pc lv d H locs ls hP hD hS hl => W.lret hx hb hr (fun t ht hW => ⟨⟨r, (), rfl, rfl, by rw [ht]; exact hP, va_K.moved hW.alike hK, hD⟩, hS.F ht⟩) hS.2.2 d) s.heap [] _ hP hD va_S.rf hl
theorem e_V {l : Launch} {y : MethodName} {cc : ByteArray} {mL : Nat} {rm : Room} {G : GG} {A : Nat → Prop} {ws : va_W} {av : List Value} {ws' : va_W}  (hy : plainName y.cls = true) (hlen : (lg_sl av).length ≤ mL) (body : ∀ Γ : Cx, CX G A Γ cc y.cls rm mL → (∀ (pc : Nat) (lv : List (Nat × Value)), decode cc pc = .ok (.return_, 1) → St l G A Γ rm.cells rm.slots ws' pc lv []) → St l G A Γ 0 0 ws 0 (lv_args 0 av) []) : MV l y cc mL rm G A ws av ws' := by
  refine Met.ofW (cc := cc) (maxL := mL) (ret := none) hy rfl ?_
  intro p e s m args below meth c s₁ B hml hv
  obtain ⟨rfl, hA, hN, hP, hK, hD⟩ := hv
  have hx := B.exec
  have hb := B.bytes
  have hr := B.returns
  have hts := atoms_spec (ws := Cond.code y cc mL none :: lw_g) B.pre
  have hown : s.vm.findClass y.cls = some m.cls := findClass_of_methodNamed B.named
  have hlocks := B.notSynchronized
  have hl := lv_entry av (n := mL) hlen
  rw [lg_entry_eq]
  exact body (p, e, rm, s, m, av.toArray, below, meth, c, mL, MQ below (gQv G A ws') av.toArray s rm.cells rm.slots A) ⟨hx, hb, hml, hown, fun w h => hts w (List.mem_cons_of_mem _ h), hK, hA, hN, rfl, rfl⟩ (fun pc lv d H locs ls hP hD hS hl => W.vret hx hb hr (fun t ht hW => ⟨⟨(), rfl, trivial, by rw [ht]; exact hP, va_K.moved hW.alike hK, hD⟩, hS.F ht⟩) hS.2.2 d) s.heap [] _ hP hD va_S.rf hl
theorem e_R {l : Launch} {y : MethodName} {cc : ByteArray} {mL : Nat} {rm : Room} {G : GG} {A : Nat → Prop} {ws : va_W} {av : List Value} {ws' : va_W} {rt : FieldType} {r : Nat} (hrt : (∃ n, rt = .object n) ∨ ∃ t, rt = .array t) (hy : plainName y.cls = true) (hlen : (lg_sl av).length ≤ mL) (body : ∀ Γ : Cx, CX G A Γ cc y.cls rm mL → (∀ (pc : Nat) (lv : List (Nat × Value)), decode cc pc = .ok (.areturn, 1) → St l G A Γ rm.cells rm.slots ws' pc lv [.ref r]) → St l G A Γ 0 0 ws 0 (lv_args 0 av) []) : MR l y cc mL rt rm G A ws av r ws' := by
  refine Met.ofW (cc := cc) (maxL := mL) (ret := (some rt)) hy rfl ?_
  intro p e s m args below meth c s₁ B hml hv
  obtain ⟨rfl, hA, hN, hP, hK, hD⟩ := hv
  have hx := B.exec
  have hb := B.bytes
  have hr := B.returns
  have hts := atoms_spec (ws := Cond.code y cc mL (some rt) :: lw_g) B.pre
  have hown : s.vm.findClass y.cls = some m.cls := findClass_of_methodNamed B.named
  have hlocks := B.notSynchronized
  have hl := lv_entry av (n := mL) hlen
  rw [lg_entry_eq]
  exact body (p, e, rm, s, m, av.toArray, below, meth, c, mL, MQ below (gQr G A ws' r) av.toArray s rm.cells rm.slots A) ⟨hx, hb, hml, hown, fun w h => hts w (List.mem_cons_of_mem _ h), hK, hA, hN, rfl, rfl⟩ (fun pc lv d H locs ls hP hD hS hl => W.aret hx hb hr hrt (Or.inr ⟨r, rfl⟩) (fun t ht hW => ⟨⟨(), r, rfl, trivial, rfl, by rw [ht]; exact hP, va_K.moved hW.alike hK, hD⟩, hS.F ht⟩) hS.2.2 d) s.heap [] _ hP hD va_S.rf hl
