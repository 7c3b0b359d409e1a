section STEPS2
variable {l : Launch} {G : GG} {A : Nat → Prop} {Γ : Cx} {cc : ByteArray} {own : String} {rm : Room} {nL k n pc : Nat} {ws : va_W} {lv : List (Nat × Value)} {rest : List Value}
theorem s_iadd (C : CX G A Γ cc own rm nL) {x y : Int32} (d : decode cc pc = .ok (.iadd, 1)) (K : St l G A Γ k n ws (pc + 1) lv (.int (x + y) :: rest)) : St l G A Γ k n ws pc lv (.int y :: .int x :: rest) := by
  obtain ⟨p, e, R, s, m, args, below, meth, c, nL, Q⟩ := Γ
  obtain ⟨hx, hb, hml, hown, hts, hK, hA, hN, rfl, rfl⟩ := C
  intro H locs ls hP hD hS hl
  exact lv_iadd hx hb d (K H locs ls hP hD hS hl)
theorem s_isub (C : CX G A Γ cc own rm nL) {x y : Int32} (d : decode cc pc = .ok (.isub, 1)) (K : St l G A Γ k n ws (pc + 1) lv (.int (x - y) :: rest)) : St l G A Γ k n ws pc lv (.int y :: .int x :: rest) := by
  obtain ⟨p, e, R, s, m, args, below, meth, c, nL, Q⟩ := Γ
  obtain ⟨hx, hb, hml, hown, hts, hK, hA, hN, rfl, rfl⟩ := C
  intro H locs ls hP hD hS hl
  exact lv_isub hx hb d (K H locs ls hP hD hS hl)
theorem s_imul (C : CX G A Γ cc own rm nL) {x y : Int32} (d : decode cc pc = .ok (.imul, 1)) (K : St l G A Γ k n ws (pc + 1) lv (.int (x * y) :: rest)) : St l G A Γ k n ws pc lv (.int y :: .int x :: rest) := by
  obtain ⟨p, e, R, s, m, args, below, meth, c, nL, Q⟩ := Γ
  obtain ⟨hx, hb, hml, hown, hts, hK, hA, hN, rfl, rfl⟩ := C
  intro H locs ls hP hD hS hl
  exact lv_imul hx hb d (K H locs ls hP hD hS hl)
theorem s_iand (C : CX G A Γ cc own rm nL) {x y : Int32} (d : decode cc pc = .ok (.iand, 1)) (K : St l G A Γ k n ws (pc + 1) lv (.int (x &&& y) :: rest)) : St l G A Γ k n ws pc lv (.int y :: .int x :: rest) := by
  obtain ⟨p, e, R, s, m, args, below, meth, c, nL, Q⟩ := Γ
  obtain ⟨hx, hb, hml, hown, hts, hK, hA, hN, rfl, rfl⟩ := C
  intro H locs ls hP hD hS hl
  exact lv_iand hx hb d (K H locs ls hP hD hS hl)
theorem s_ior (C : CX G A Γ cc own rm nL) {x y : Int32} (d : decode cc pc = .ok (.ior, 1)) (K : St l G A Γ k n ws (pc + 1) lv (.int (x ||| y) :: rest)) : St l G A Γ k n ws pc lv (.int y :: .int x :: rest) := by
  obtain ⟨p, e, R, s, m, args, below, meth, c, nL, Q⟩ := Γ
  obtain ⟨hx, hb, hml, hown, hts, hK, hA, hN, rfl, rfl⟩ := C
  intro H locs ls hP hD hS hl
  exact lv_ior hx hb d (K H locs ls hP hD hS hl)
theorem s_ixor (C : CX G A Γ cc own rm nL) {x y : Int32} (d : decode cc pc = .ok (.ixor, 1)) (K : St l G A Γ k n ws (pc + 1) lv (.int (x ^^^ y) :: rest)) : St l G A Γ k n ws pc lv (.int y :: .int x :: rest) := by
  obtain ⟨p, e, R, s, m, args, below, meth, c, nL, Q⟩ := Γ
  obtain ⟨hx, hb, hml, hown, hts, hK, hA, hN, rfl, rfl⟩ := C
  intro H locs ls hP hD hS hl
  exact lv_ixor hx hb d (K H locs ls hP hD hS hl)
theorem s_ishl (C : CX G A Γ cc own rm nL) {x y : Int32} (d : decode cc pc = .ok (.ishl, 1)) (K : St l G A Γ k n ws (pc + 1) lv (.int (x <<< (y &&& 31)) :: rest)) : St l G A Γ k n ws pc lv (.int y :: .int x :: rest) := by
  obtain ⟨p, e, R, s, m, args, below, meth, c, nL, Q⟩ := Γ
  obtain ⟨hx, hb, hml, hown, hts, hK, hA, hN, rfl, rfl⟩ := C
  intro H locs ls hP hD hS hl
  exact lv_ishl hx hb d (K H locs ls hP hD hS hl)
theorem s_ishr (C : CX G A Γ cc own rm nL) {x y : Int32} (d : decode cc pc = .ok (.ishr, 1)) (K : St l G A Γ k n ws (pc + 1) lv (.int (x >>> (y &&& 31)) :: rest)) : St l G A Γ k n ws pc lv (.int y :: .int x :: rest) := by
  obtain ⟨p, e, R, s, m, args, below, meth, c, nL, Q⟩ := Γ
  obtain ⟨hx, hb, hml, hown, hts, hK, hA, hN, rfl, rfl⟩ := C
  intro H locs ls hP hD hS hl
  exact lv_ishr hx hb d (K H locs ls hP hD hS hl)
theorem s_irem (C : CX G A Γ cc own rm nL) {x y : Int32} (d : decode cc pc = .ok (.irem, 1)) (hne : ¬ y = 0) (K : St l G A Γ k n ws (pc + 1) lv (.int (x - x / y * y) :: rest)) : St l G A Γ k n ws pc lv (.int y :: .int x :: rest) := by
  obtain ⟨p, e, R, s, m, args, below, meth, c, nL, Q⟩ := Γ
  obtain ⟨hx, hb, hml, hown, hts, hK, hA, hN, rfl, rfl⟩ := C
  intro H locs ls hP hD hS hl
  exact lv_irem hx hb d hne (K H locs ls hP hD hS hl)
theorem s_idiv (C : CX G A Γ cc own rm nL) {x y : Int32} (d : decode cc pc = .ok (.idiv, 1)) (hne : ¬ y = 0) (K : St l G A Γ k n ws (pc + 1) lv (.int (x / y) :: rest)) : St l G A Γ k n ws pc lv (.int y :: .int x :: rest) := by
  obtain ⟨p, e, R, s, m, args, below, meth, c, nL, Q⟩ := Γ
  obtain ⟨hx, hb, hml, hown, hts, hK, hA, hN, rfl, rfl⟩ := C
  intro H locs ls hP hD hS hl
  exact lv_idiv hx hb d hne (K H locs ls hP hD hS hl)
theorem s_ladd (C : CX G A Γ cc own rm nL) {x y : Int64} (d : decode cc pc = .ok (.ladd, 1)) (K : St l G A Γ k n ws (pc + 1) lv (.long (x + y) :: rest)) : St l G A Γ k n ws pc lv (.long y :: .long x :: rest) := by
  obtain ⟨p, e, R, s, m, args, below, meth, c, nL, Q⟩ := Γ
  obtain ⟨hx, hb, hml, hown, hts, hK, hA, hN, rfl, rfl⟩ := C
  intro H locs ls hP hD hS hl
  exact lv_ladd hx hb d (K H locs ls hP hD hS hl)
theorem s_lsub (C : CX G A Γ cc own rm nL) {x y : Int64} (d : decode cc pc = .ok (.lsub, 1)) (K : St l G A Γ k n ws (pc + 1) lv (.long (x - y) :: rest)) : St l G A Γ k n ws pc lv (.long y :: .long x :: rest) := by
  obtain ⟨p, e, R, s, m, args, below, meth, c, nL, Q⟩ := Γ
  obtain ⟨hx, hb, hml, hown, hts, hK, hA, hN, rfl, rfl⟩ := C
  intro H locs ls hP hD hS hl
  exact lv_lsub hx hb d (K H locs ls hP hD hS hl)
theorem s_land (C : CX G A Γ cc own rm nL) {x y : Int64} (d : decode cc pc = .ok (.land, 1)) (K : St l G A Γ k n ws (pc + 1) lv (.long (x &&& y) :: rest)) : St l G A Γ k n ws pc lv (.long y :: .long x :: rest) := by
  obtain ⟨p, e, R, s, m, args, below, meth, c, nL, Q⟩ := Γ
  obtain ⟨hx, hb, hml, hown, hts, hK, hA, hN, rfl, rfl⟩ := C
  intro H locs ls hP hD hS hl
  exact lv_land hx hb d (K H locs ls hP hD hS hl)
theorem s_lor (C : CX G A Γ cc own rm nL) {x y : Int64} (d : decode cc pc = .ok (.lor, 1)) (K : St l G A Γ k n ws (pc + 1) lv (.long (x ||| y) :: rest)) : St l G A Γ k n ws pc lv (.long y :: .long x :: rest) := by
  obtain ⟨p, e, R, s, m, args, below, meth, c, nL, Q⟩ := Γ
  obtain ⟨hx, hb, hml, hown, hts, hK, hA, hN, rfl, rfl⟩ := C
  intro H locs ls hP hD hS hl
  exact lv_lor hx hb d (K H locs ls hP hD hS hl)
theorem s_lxor (C : CX G A Γ cc own rm nL) {x y : Int64} (d : decode cc pc = .ok (.lxor, 1)) (K : St l G A Γ k n ws (pc + 1) lv (.long (x ^^^ y) :: rest)) : St l G A Γ k n ws pc lv (.long y :: .long x :: rest) := by
  obtain ⟨p, e, R, s, m, args, below, meth, c, nL, Q⟩ := Γ
  obtain ⟨hx, hb, hml, hown, hts, hK, hA, hN, rfl, rfl⟩ := C
  intro H locs ls hP hD hS hl
  exact lv_lxor hx hb d (K H locs ls hP hD hS hl)
theorem s_lcmp (C : CX G A Γ cc own rm nL) {x y : Int64} (d : decode cc pc = .ok (.lcmp, 1)) (K : St l G A Γ k n ws (pc + 1) lv (.int (lg_cmp x y) :: rest)) : St l G A Γ k n ws pc lv (.long y :: .long x :: rest) := by
  obtain ⟨p, e, R, s, m, args, below, meth, c, nL, Q⟩ := Γ
  obtain ⟨hx, hb, hml, hown, hts, hK, hA, hN, rfl, rfl⟩ := C
  intro H locs ls hP hD hS hl
  exact W.lcmp hx hb d (K H locs ls hP hD hS hl)
theorem s_lshl (C : CX G A Γ cc own rm nL) {x : Int64} {y : Int32} (d : decode cc pc = .ok (.lshl, 1)) (K : St l G A Γ k n ws (pc + 1) lv (.long (x <<< (y.toInt64 &&& 63)) :: rest)) : St l G A Γ k n ws pc lv (.int y :: .long x :: rest) := by
  obtain ⟨p, e, R, s, m, args, below, meth, c, nL, Q⟩ := Γ
  obtain ⟨hx, hb, hml, hown, hts, hK, hA, hN, rfl, rfl⟩ := C
  intro H locs ls hP hD hS hl
  exact lv_lshl hx hb d rfl (K H locs ls hP hD hS hl)
theorem s_lshr (C : CX G A Γ cc own rm nL) {x : Int64} {y : Int32} (d : decode cc pc = .ok (.lshr, 1)) (K : St l G A Γ k n ws (pc + 1) lv (.long (x >>> (y.toInt64 &&& 63)) :: rest)) : St l G A Γ k n ws pc lv (.int y :: .long x :: rest) := by
  obtain ⟨p, e, R, s, m, args, below, meth, c, nL, Q⟩ := Γ
  obtain ⟨hx, hb, hml, hown, hts, hK, hA, hN, rfl, rfl⟩ := C
  intro H locs ls hP hD hS hl
  exact lv_lshr hx hb d rfl (K H locs ls hP hD hS hl)
theorem s_lushr (C : CX G A Γ cc own rm nL) {x : Int64} {y : Int32} (d : decode cc pc = .ok (.lushr, 1)) (K : St l G A Γ k n ws (pc + 1) lv (.long ((x.toUInt64 >>> (y.toInt64.toUInt64 &&& Int64.toUInt64 63)).toInt64) :: rest)) : St l G A Γ k n ws pc lv (.int y :: .long x :: rest) := by
  obtain ⟨p, e, R, s, m, args, below, meth, c, nL, Q⟩ := Γ
  obtain ⟨hx, hb, hml, hown, hts, hK, hA, hN, rfl, rfl⟩ := C
  intro H locs ls hP hD hS hl
  exact lv_lushr hx hb d rfl (K H locs ls hP hD hS hl)
theorem s_i2l (C : CX G A Γ cc own rm nL) {x : Int32} (d : decode cc pc = .ok (.i2l, 1)) (K : St l G A Γ k n ws (pc + 1) lv (.long x.toInt64 :: rest)) : St l G A Γ k n ws pc lv (.int x :: rest) := by
  obtain ⟨p, e, R, s, m, args, below, meth, c, nL, Q⟩ := Γ
  obtain ⟨hx, hb, hml, hown, hts, hK, hA, hN, rfl, rfl⟩ := C
  intro H locs ls hP hD hS hl
  exact lv_i2l hx hb d rfl (K H locs ls hP hD hS hl)
theorem s_l2i (C : CX G A Γ cc own rm nL) {x : Int64} (d : decode cc pc = .ok (.l2i, 1)) (K : St l G A Γ k n ws (pc + 1) lv (.int x.toInt32 :: rest)) : St l G A Γ k n ws pc lv (.long x :: rest) := by
  obtain ⟨p, e, R, s, m, args, below, meth, c, nL, Q⟩ := Γ
  obtain ⟨hx, hb, hml, hown, hts, hK, hA, hN, rfl, rfl⟩ := C
  intro H locs ls hP hD hS hl
  exact lv_l2i hx hb d rfl (K H locs ls hP hD hS hl)
theorem s_dup (C : CX G A Γ cc own rm nL) {va : Value} (d : decode cc pc = .ok (.dup, 1)) (hva : va.category = 1) (K : St l G A Γ k n ws (pc + 1) lv (va :: va :: rest)) : St l G A Γ k n ws pc lv (va :: rest) := by
  obtain ⟨p, e, R, s, m, args, below, meth, c, nL, Q⟩ := Γ
  obtain ⟨hx, hb, hml, hown, hts, hK, hA, hN, rfl, rfl⟩ := C
  intro H locs ls hP hD hS hl
  exact lv_dup hx hb d hva (K H locs ls hP hD hS hl)
theorem s_pop (C : CX G A Γ cc own rm nL) {va : Value} (d : decode cc pc = .ok (.pop, 1)) (hva : va.category = 1) (K : St l G A Γ k n ws (pc + 1) lv (rest)) : St l G A Γ k n ws pc lv (va :: rest) := by
  obtain ⟨p, e, R, s, m, args, below, meth, c, nL, Q⟩ := Γ
  obtain ⟨hx, hb, hml, hown, hts, hK, hA, hN, rfl, rfl⟩ := C
  intro H locs ls hP hD hS hl
  exact lv_pop hx hb d hva (K H locs ls hP hD hS hl)
theorem s_dup2 (C : CX G A Γ cc own rm nL) {va vb : Value} (d : decode cc pc = .ok (.dup2, 1)) (hva : va.category = 1) (hvb : vb.category = 1) (K : St l G A Γ k n ws (pc + 1) lv (va :: vb :: va :: vb :: rest)) : St l G A Γ k n ws pc lv (va :: vb :: rest) := by
  obtain ⟨p, e, R, s, m, args, below, meth, c, nL, Q⟩ := Γ
  obtain ⟨hx, hb, hml, hown, hts, hK, hA, hN, rfl, rfl⟩ := C
  intro H locs ls hP hD hS hl
  exact lv_dup2_11 hx hb d hva hvb (K H locs ls hP hD hS hl)
theorem s_dup2l (C : CX G A Γ cc own rm nL) {va : Value} (d : decode cc pc = .ok (.dup2, 1)) (hva : va.category = 2) (K : St l G A Γ k n ws (pc + 1) lv (va :: va :: rest)) : St l G A Γ k n ws pc lv (va :: rest) := by
  obtain ⟨p, e, R, s, m, args, below, meth, c, nL, Q⟩ := Γ
  obtain ⟨hx, hb, hml, hown, hts, hK, hA, hN, rfl, rfl⟩ := C
  intro H locs ls hP hD hS hl
  exact lv_dup2_2 hx hb d hva (K H locs ls hP hD hS hl)
theorem s_dup_x1 (C : CX G A Γ cc own rm nL) {va vb : Value} (d : decode cc pc = .ok (.dup_x1, 1)) (hva : va.category = 1) (hvb : vb.category = 1) (K : St l G A Γ k n ws (pc + 1) lv (va :: vb :: va :: rest)) : St l G A Γ k n ws pc lv (va :: vb :: rest) := by
  obtain ⟨p, e, R, s, m, args, below, meth, c, nL, Q⟩ := Γ
  obtain ⟨hx, hb, hml, hown, hts, hK, hA, hN, rfl, rfl⟩ := C
  intro H locs ls hP hD hS hl
  exact lv_dup_x1 hx hb d hva hvb (K H locs ls hP hD hS hl)
theorem s_icmp_eq (C : CX G A Γ cc own rm nL) {x y : Int32} {off : Int} (tgt : Nat) (d : decode cc pc = .ok (.if_icmp .eq off, 3)) (ht : (pc : Int) + off = (tgt : Int)) (KT : x = y → St l G A Γ k n ws tgt lv rest) (KF : ¬ (x = y) → St l G A Γ k n ws (pc + 3) lv rest) : St l G A Γ k n ws pc lv (.int y :: .int x :: rest) := by
  obtain ⟨p, e, R, s, m, args, below, meth, c, nL, Q⟩ := Γ
  obtain ⟨hx, hb, hml, hown, hts, hK, hA, hN, rfl, rfl⟩ := C
  intro H locs ls hP hD hS hl
  exact lv_icmp_eq hx hb d ht (fun h => KT h H locs ls hP hD hS hl) (fun h => KF h H locs ls hP hD hS hl)
theorem s_if_eq (C : CX G A Γ cc own rm nL) {x : Int32} {off : Int} (tgt : Nat) (d : decode cc pc = .ok (.ifCond .eq off, 3)) (ht : (pc : Int) + off = (tgt : Int)) (KT : x = 0 → St l G A Γ k n ws tgt lv rest) (KF : ¬ (x = 0) → St l G A Γ k n ws (pc + 3) lv rest) : St l G A Γ k n ws pc lv (.int x :: rest) := by
  obtain ⟨p, e, R, s, m, args, below, meth, c, nL, Q⟩ := Γ
  obtain ⟨hx, hb, hml, hown, hts, hK, hA, hN, rfl, rfl⟩ := C
  intro H locs ls hP hD hS hl
  exact lv_if_eq hx hb d ht (fun h => KT h H locs ls hP hD hS hl) (fun h => KF h H locs ls hP hD hS hl)
theorem s_icmp_ne (C : CX G A Γ cc own rm nL) {x y : Int32} {off : Int} (tgt : Nat) (d : decode cc pc = .ok (.if_icmp .ne off, 3)) (ht : (pc : Int) + off = (tgt : Int)) (KT : ¬ x = y → St l G A Γ k n ws tgt lv rest) (KF : x = y → St l G A Γ k n ws (pc + 3) lv rest) : St l G A Γ k n ws pc lv (.int y :: .int x :: rest) := by
  obtain ⟨p, e, R, s, m, args, below, meth, c, nL, Q⟩ := Γ
  obtain ⟨hx, hb, hml, hown, hts, hK, hA, hN, rfl, rfl⟩ := C
  intro H locs ls hP hD hS hl
  exact lv_icmp_ne hx hb d ht (fun h => KT h H locs ls hP hD hS hl) (fun h => KF h H locs ls hP hD hS hl)
theorem s_if_ne (C : CX G A Γ cc own rm nL) {x : Int32} {off : Int} (tgt : Nat) (d : decode cc pc = .ok (.ifCond .ne off, 3)) (ht : (pc : Int) + off = (tgt : Int)) (KT : ¬ x = 0 → St l G A Γ k n ws tgt lv rest) (KF : x = 0 → St l G A Γ k n ws (pc + 3) lv rest) : St l G A Γ k n ws pc lv (.int x :: rest) := by
  obtain ⟨p, e, R, s, m, args, below, meth, c, nL, Q⟩ := Γ
  obtain ⟨hx, hb, hml, hown, hts, hK, hA, hN, rfl, rfl⟩ := C
  intro H locs ls hP hD hS hl
  exact lv_if_ne hx hb d ht (fun h => KT h H locs ls hP hD hS hl) (fun h => KF h H locs ls hP hD hS hl)
theorem s_icmp_lt (C : CX G A Γ cc own rm nL) {x y : Int32} {off : Int} (tgt : Nat) (d : decode cc pc = .ok (.if_icmp .lt off, 3)) (ht : (pc : Int) + off = (tgt : Int)) (KT : x < y → St l G A Γ k n ws tgt lv rest) (KF : ¬ (x < y) → St l G A Γ k n ws (pc + 3) lv rest) : St l G A Γ k n ws pc lv (.int y :: .int x :: rest) := by
  obtain ⟨p, e, R, s, m, args, below, meth, c, nL, Q⟩ := Γ
  obtain ⟨hx, hb, hml, hown, hts, hK, hA, hN, rfl, rfl⟩ := C
  intro H locs ls hP hD hS hl
  exact lv_icmp_lt hx hb d ht (fun h => KT h H locs ls hP hD hS hl) (fun h => KF h H locs ls hP hD hS hl)
theorem s_if_lt (C : CX G A Γ cc own rm nL) {x : Int32} {off : Int} (tgt : Nat) (d : decode cc pc = .ok (.ifCond .lt off, 3)) (ht : (pc : Int) + off = (tgt : Int)) (KT : x < 0 → St l G A Γ k n ws tgt lv rest) (KF : ¬ (x < 0) → St l G A Γ k n ws (pc + 3) lv rest) : St l G A Γ k n ws pc lv (.int x :: rest) := by
  obtain ⟨p, e, R, s, m, args, below, meth, c, nL, Q⟩ := Γ
  obtain ⟨hx, hb, hml, hown, hts, hK, hA, hN, rfl, rfl⟩ := C
  intro H locs ls hP hD hS hl
  exact lv_if_lt hx hb d ht (fun h => KT h H locs ls hP hD hS hl) (fun h => KF h H locs ls hP hD hS hl)
theorem s_icmp_ge (C : CX G A Γ cc own rm nL) {x y : Int32} {off : Int} (tgt : Nat) (d : decode cc pc = .ok (.if_icmp .ge off, 3)) (ht : (pc : Int) + off = (tgt : Int)) (KT : y ≤ x → St l G A Γ k n ws tgt lv rest) (KF : ¬ (y ≤ x) → St l G A Γ k n ws (pc + 3) lv rest) : St l G A Γ k n ws pc lv (.int y :: .int x :: rest) := by
  obtain ⟨p, e, R, s, m, args, below, meth, c, nL, Q⟩ := Γ
  obtain ⟨hx, hb, hml, hown, hts, hK, hA, hN, rfl, rfl⟩ := C
  intro H locs ls hP hD hS hl
  exact lv_icmp_ge hx hb d ht (fun h => KT h H locs ls hP hD hS hl) (fun h => KF h H locs ls hP hD hS hl)
theorem s_if_ge (C : CX G A Γ cc own rm nL) {x : Int32} {off : Int} (tgt : Nat) (d : decode cc pc = .ok (.ifCond .ge off, 3)) (ht : (pc : Int) + off = (tgt : Int)) (KT : 0 ≤ x → St l G A Γ k n ws tgt lv rest) (KF : ¬ (0 ≤ x) → St l G A Γ k n ws (pc + 3) lv rest) : St l G A Γ k n ws pc lv (.int x :: rest) := by
  obtain ⟨p, e, R, s, m, args, below, meth, c, nL, Q⟩ := Γ
  obtain ⟨hx, hb, hml, hown, hts, hK, hA, hN, rfl, rfl⟩ := C
  intro H locs ls hP hD hS hl
  exact lv_if_ge hx hb d ht (fun h => KT h H locs ls hP hD hS hl) (fun h => KF h H locs ls hP hD hS hl)
theorem s_icmp_gt (C : CX G A Γ cc own rm nL) {x y : Int32} {off : Int} (tgt : Nat) (d : decode cc pc = .ok (.if_icmp .gt off, 3)) (ht : (pc : Int) + off = (tgt : Int)) (KT : y < x → St l G A Γ k n ws tgt lv rest) (KF : ¬ (y < x) → St l G A Γ k n ws (pc + 3) lv rest) : St l G A Γ k n ws pc lv (.int y :: .int x :: rest) := by
  obtain ⟨p, e, R, s, m, args, below, meth, c, nL, Q⟩ := Γ
  obtain ⟨hx, hb, hml, hown, hts, hK, hA, hN, rfl, rfl⟩ := C
  intro H locs ls hP hD hS hl
  exact lv_icmp_gt hx hb d ht (fun h => KT h H locs ls hP hD hS hl) (fun h => KF h H locs ls hP hD hS hl)
theorem s_if_gt (C : CX G A Γ cc own rm nL) {x : Int32} {off : Int} (tgt : Nat) (d : decode cc pc = .ok (.ifCond .gt off, 3)) (ht : (pc : Int) + off = (tgt : Int)) (KT : 0 < x → St l G A Γ k n ws tgt lv rest) (KF : ¬ (0 < x) → St l G A Γ k n ws (pc + 3) lv rest) : St l G A Γ k n ws pc lv (.int x :: rest) := by
  obtain ⟨p, e, R, s, m, args, below, meth, c, nL, Q⟩ := Γ
  obtain ⟨hx, hb, hml, hown, hts, hK, hA, hN, rfl, rfl⟩ := C
  intro H locs ls hP hD hS hl
  exact lv_if_gt hx hb d ht (fun h => KT h H locs ls hP hD hS hl) (fun h => KF h H locs ls hP hD hS hl)
theorem s_icmp_le (C : CX G A Γ cc own rm nL) {x y : Int32} {off : Int} (tgt : Nat) (d : decode cc pc = .ok (.if_icmp .le off, 3)) (ht : (pc : Int) + off = (tgt : Int)) (KT : x ≤ y → St l G A Γ k n ws tgt lv rest) (KF : ¬ (x ≤ y) → St l G A Γ k n ws (pc + 3) lv rest) : St l G A Γ k n ws pc lv (.int y :: .int x :: rest) := by
  obtain ⟨p, e, R, s, m, args, below, meth, c, nL, Q⟩ := Γ
  obtain ⟨hx, hb, hml, hown, hts, hK, hA, hN, rfl, rfl⟩ := C
  intro H locs ls hP hD hS hl
  exact lv_icmp_le hx hb d ht (fun h => KT h H locs ls hP hD hS hl) (fun h => KF h H locs ls hP hD hS hl)
theorem s_if_le (C : CX G A Γ cc own rm nL) {x : Int32} {off : Int} (tgt : Nat) (d : decode cc pc = .ok (.ifCond .le off, 3)) (ht : (pc : Int) + off = (tgt : Int)) (KT : x ≤ 0 → St l G A Γ k n ws tgt lv rest) (KF : ¬ (x ≤ 0) → St l G A Γ k n ws (pc + 3) lv rest) : St l G A Γ k n ws pc lv (.int x :: rest) := by
  obtain ⟨p, e, R, s, m, args, below, meth, c, nL, Q⟩ := Γ
  obtain ⟨hx, hb, hml, hown, hts, hK, hA, hN, rfl, rfl⟩ := C
  intro H locs ls hP hD hS hl
  exact lv_if_le hx hb d ht (fun h => KT h H locs ls hP hD hS hl) (fun h => KF h H locs ls hP hD hS hl)
end STEPS2
