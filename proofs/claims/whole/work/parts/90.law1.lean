/-! THE CLAIM OUT OF ONE WALK OF THE LAW'S BODY. Your part is whole_start (and what it stands on); all else here is the same for every law, but numbers. -/
def R_law : String := "ReplayLinkLaw"
def lw_P (b : Addr) (xs : List Int32) (args : Array Value) (s : State) : Prop := args = #[.ref b] ∧ s.IntsAt b xs ∧ xs.length ≤ 2560 ∧ (Jvm.Cond.and given_1 narrow_1).before args s = true
def lw_Q (_ : Array Value) (s : State) (o : Outcome) (t : State) : Prop := o = .returned (some (.int 1)) ∧ Framed s o t [] 600000 7302250
def lw_Z (below : List Frame) (a : Array Value) (s : State) : State → Prop := fun t => ∃ o, t.status = .running ∧ Ended t below o ∧ lw_Q a s o t
/-- the law's own end, with 1 on the stack, nothing written that was there before, its room as the claim has it -/
theorem lw_ret {p : Program} {l : Launch} {e : Env} {s : State} {m : MethodId} {below : List Frame} {meth : Method} {c : Code} {b : Nat} (hx : p.tables.exec = Jvm.exec) (hb : c.code = code) (hr : meth.sig.returnType = ret) (hlocks : meth.locks = false) {pc : Nat} {H : Heap} {ls : Array Slot} (hdg : decode code pc = .ok (.ireturn, 1)) : W p l e room_1 s m #[Value.ref b] below meth c H [] 600000 7302250 (lw_Z below #[Value.ref b] s) (F0 m pc ls [.int 1]) := by
  intro T hT X
  obtain ⟨fs, hret, hrun, hended, hW, hframe⟩ := X.leave (v := some (.int 1)) (hlocks := hlocks) (fun h => by rw [hr] at h; cases h)
  have hmeth' : T.vm.method? m = some meth := X.method'
  refine ⟨T.setFrames fs, ?_, .returned (some (.int 1)), hrun, hended, rfl, ⟨_, rfl⟩, hW, hframe⟩
  jvm_step X.here [X.here.top, hx, hb, hdg, hmeth', hr, ret, narrow_b1]
  (try refine ⟨rfl, ?_⟩); (try refine ⟨rfl, ?_⟩)
  first | (intro acts; rw [hret _ acts rfl rfl rfl]) | rw [hret _ _ rfl rfl rfl]
  exact Steps.refl _
/-- what holds at the law's entry: the machine, the code, the tables' words (any of lw_tbl by 'hts w (by decide +kernel)'), the script of L ints xs at the cell b, what the Statement gives of the start (any of its parts by flat_of_before) -/
def lw_At (p : Program) (s : State) (m : MethodId) (meth : Method) (c : Code) (b L : Nat) (xs : Nat → Int32) : Prop :=
  p.tables.exec = Jvm.exec ∧ c.code = code ∧ meth.sig.returnType = ret ∧ c.maxLocals = 4 ∧ s.vm.findClass R_law = some m.cls ∧ (∀ w ∈ lw_tbl, w.before #[Value.ref b] s = true) ∧ va_X b L xs s s.heap ∧ b < s.heap.size ∧ meth.locks = false ∧ (Jvm.Cond.and given_1 narrow_1).before #[Value.ref b] s = true
-- ===== YOUR PART BEGINS =====
section SCR
variable {l : Launch} {G : GG} {A : Nat → Prop} {Γ : Cx} {cc : ByteArray} {own : String} {rm : Room} {nL k n pc : Nat} {ws : va_W} {lv : List (Nat × Value)} {rest : List Value}
def SX (A : Nat → Prop) (Γ : Cx) (b L : Nat) (xs : Nat → Int32) : Prop := match Γ with
  | (_, _, _, s, _, _, _, _, _, _, _) => va_X b L xs s s.heap ∧ b < s.heap.size ∧ ¬ A b
theorem s_sld (C : CX G A Γ cc own rm nL) {b L : Nat} {xs : Nat → Int32} (hX : SX A Γ b L xs) {i : Int32} {j : Nat} (hi : i = nI j) (hj : j < L) (hL : L < 2 ^ 31) (d : decode cc pc = .ok (.iaload, 1)) (K : St l G A Γ k n ws (pc + 1) lv (.int (xs j) :: rest)) : St l G A Γ k n ws pc lv (.int i :: .ref b :: rest) := by
  obtain ⟨p, e, R, s, m, args, below, meth, c, nL, Q⟩ := Γ
  obtain ⟨hx, hb, hml, hown, hts, hK, hA, hN, rfl, rfl⟩ := C
  obtain ⟨h1, h2, h3⟩ := hX
  intro H locs ls hP hD hS hl
  subst hi
  refine va_sld hx hb h1 h2 h3 hS (vp_in_nI hj hL) d ?_
  rw [nI_clamp (by omega)]
  exact K H locs ls hP hD hS hl
theorem s_slen (C : CX G A Γ cc own rm nL) {b L : Nat} {xs : Nat → Int32} (hX : SX A Γ b L xs) (d : decode cc pc = .ok (.arraylength, 1)) (K : St l G A Γ k n ws (pc + 1) lv (.int (nI L) :: rest)) : St l G A Γ k n ws pc lv (.ref b :: rest) := by
  obtain ⟨p, e, R, s, m, args, below, meth, c, nL, Q⟩ := Γ
  obtain ⟨hx, hb, hml, hown, hts, hK, hA, hN, rfl, rfl⟩ := C
  obtain ⟨h1, h2, h3⟩ := hX
  intro H locs ls hP hD hS hl
  exact va_slen hx hb h1 h2 h3 hS d (K H locs ls hP hD hS hl)
end SCR
/-- the law's own world -/
abbrev xM (G : GG) (hm a1 a2 a3 : Nat) (st : Nat → Int32) (wt : Int32) (sm : Int64) (ld ln : Int32) (kpM ik : Nat → Int32) : va_W := wK G hm a1 a2 a3 [] st wt sm ld ln kpM ik
abbrev wL (G : GG) (ad : Nat → Nat) (nb h a0 : Nat) (kp : Nat → Option Nat) (hm a1 a2 a3 : Nat) (sc ar : Nat → Nat → Int32) (fr : Nat → Nat → Nat) (st : Nat → Int32) (wt : Int32) (sm : Int64) (ld ln : Int32) (kpM ik : Nat → Int32) : va_W := wC G ad nb (xK G ad h a0 kp (xM G hm a1 a2 a3 st wt sm ld ln kpM ik)) sc ar fr
/-- the class's cells, as the reference's rest -/
abbrev yC (G : GG) (ad : Nat → Nat) (nb h a0 : Nat) (kp : Nat → Option Nat) (sc ar : Nat → Nat → Int32) (fr : Nat → Nat → Nat) : va_W := wC G ad nb (xK G ad h a0 kp []) sc ar fr
theorem wL_perm {G : GG} {ad : Nat → Nat} {nb h a0 : Nat} {kp : Nat → Option Nat} {hm a1 a2 a3 : Nat} {sc ar : Nat → Nat → Int32} {fr : Nat → Nat → Nat} {st : Nat → Int32} {wt : Int32} {sm : Int64} {ld ln : Int32} {kpM ik : Nat → Int32} : (wL G ad nb h a0 kp hm a1 a2 a3 sc ar fr st wt sm ld ln kpM ik).Perm (wK G hm a1 a2 a3 (yC G ad nb h a0 kp sc ar fr) st wt sm ld ln kpM ik) := by
  have e1 : wL G ad nb h a0 kp hm a1 a2 a3 sc ar fr st wt sm ld ln kpM ik = yC G ad nb h a0 kp sc ar fr ++ xM G hm a1 a2 a3 st wt sm ld ln kpM ik := by
    unfold wL yC wC
    simp [xK, xP]
  have e2 : wK G hm a1 a2 a3 (yC G ad nb h a0 kp sc ar fr) st wt sm ld ln kpM ik = xM G hm a1 a2 a3 st wt sm ld ln kpM ik ++ yC G ad nb h a0 kp sc ar fr := by
    simp [wK, wM, xM]
  rw [e1, e2]
  exact List.perm_append_comm
theorem lg_same (x : Int64) : lg_cmp x x = 0 := by unfold lg_cmp; simp [Int64.lt_irrefl]
