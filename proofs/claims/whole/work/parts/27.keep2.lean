theorem inp_t {nb : Nat} {x : Int32} {sc ar : Nat → Nat → Int32} {fr : Nat → Nat → Nat} (h : inb x 2 = true) : f_X5_isNoPlaceToKeep nb x sc ar fr = some (0, sc, ar, fr) := by
  simp only [inb, Bool.and_eq_true, decide_eq_true_eq] at h
  obtain ⟨j, hj, rfl⟩ := nI_of h.1
  rw [nI_clamp hj] at h
  have h2 : nI j < 2 := nI_lt h.2 (by decide)
  unfold f_X5_isNoPlaceToKeep
  rw [if_neg h.1, if_pos h2]
theorem inp_f {nb : Nat} {x : Int32} {sc ar : Nat → Nat → Int32} {fr : Nat → Nat → Nat} (h : ¬ inb x 2 = true) : f_X5_isNoPlaceToKeep nb x sc ar fr = some (1, sc, ar, fr) := by
  unfold f_X5_isNoPlaceToKeep
  by_cases h0 : x < 0
  · rw [if_pos h0]
  · rw [if_neg h0]
    by_cases h1 : x < 2
    · exfalso
      apply h
      obtain ⟨j, hj, rfl⟩ := nI_of h0
      have h2 : j < 2 := (nI_ltI hj (by decide)).mp h1
      simp only [inb, Bool.and_eq_true, decide_eq_true_eq]
      exact ⟨h0, by rw [nI_clamp hj]; exact h2⟩
    · rw [if_neg h1]
def f_X5_again (nb : Nat) (kp : Nat → Option Nat) (x1 : Int32) (sc ar : Nat → Nat → Int32) (fr : Nat → Nat → Nat) : Option (Int32 × (Nat → Nat → Int32) × (Nat → Nat → Int32) × (Nat → Nat → Nat)) :=
  if inb x1 2 = true then (match kp x1.toNatClampNeg with
    | none => some (-2, sc, ar, fr)
    | some p => gd (pk nb 2 0) <| bCv (f_X2_copyFrom nb 0 p sc ar fr) fun sc2 ar2 fr2 => some (sc2 0 3, sc2, ar2, fr2))
  else some (-1, sc, ar, fr)
set_option maxHeartbeats 4000000 in
set_option maxRecDepth 100000 in
theorem k_X5_again {l : Launch} {G : GG} {A : Nat → Prop} {Γ : Cx} (C : CX G A Γ cX5_again RX5 ({ frames := 4, cells := 0, slots := 0, locals := 83 } : Room) 3) (ad : Nat → Nat) (h a0 : Nat) (kp : Nat → Option Nat) (X : va_W) (nb : Nat) (x1 : Int32) (sc ar : Nat → Nat → Int32) (fr : Nat → Nat → Nat) (r0 : Int32) (sc' ar' : Nat → Nat → Int32) (fr' : Nat → Nat → Nat) (hf : f_X5_again nb kp x1 sc ar fr = some (r0, sc', ar', fr')) (hret : ∀ (pc : Nat) (lv : List (Nat × Value)), decode cX5_again pc = .ok (.ireturn, 1) → narrow .int (.int r0) = .int r0 → St l G A Γ 0 0 (wC G ad nb (xK G ad h a0 kp X) sc' ar' fr') pc lv [.int r0]) : St l G A Γ 0 0 (wC G ad nb (xK G ad h a0 kp X) sc ar fr) 0 [(0, .ref h), (1, .int x1)] [] := by
  unfold f_X5_again at hf
  refine s_aload_n C 0 dX5_again_0 rfl ?_
  refine s_iload_n C 1 dX5_again_1 rfl ?_
  by_cases hi : inb x1 2 = true
  · rw [if_pos hi] at hf
    refine s_cV_I (As := [.int x1]) (rest := []) (ci := 5) (q := 72 * nb + 0) C (c_X5_isNoPlaceToKeep l G A ad h a0 kp X nb x1 sc ar fr _ _ _ _ (inp_t hi)) g_RX5_150 hd_X5_isNoPlaceToKeep rfl ⟨Nat.le_of_ble_eq_true rfl, Nat.le_of_ble_eq_true rfl⟩ rfl (wC_tail 0) rfl (Nat.le_of_ble_eq_true rfl) ⟨Nat.le_of_ble_eq_true rfl, Nat.le_of_ble_eq_true rfl⟩ dX5_again_2 ?_
    refine s_if_eq C 10 dX5_again_5 (by decide) (fun _ => ?_) (fun c => absurd rfl c)
    refine s_aload_n C 0 dX5_again_10 rfl ?_
    refine gf_181 C (72 * nb + 0) (wC_tail 0) rfl dX5_again_11 ?_
    refine s_iload_n C 1 dX5_again_14 rfl ?_
    cases hk : kp x1.toNatClampNeg with
    | none =>
      simp only [hk] at hf
      refine s_aaldq (v := .null) C 4 rfl (72 * nb + 1) (wC_tail 1) hi dX5_again_15 (by rw [hk]; rfl) ?_
      refine s_astore_nN C [(2, .null), (0, .ref h), (1, .int x1)] dX5_again_16 (by decide) rfl ?_
      refine s_aload_nN C 0 dX5_again_17 rfl ?_
      refine s_ifnonnullN C dX5_again_18 ?_
      refine s_bipush (v := -2) C dX5_again_21 (by decide) ?_
      exact rC_I hf (vp_nar_int _) hret dX5_again_23
    | some p =>
      simp only [hk] at hf
      obtain ⟨g1, hf⟩ := gd_inv hf
      obtain ⟨sc2, ar2, fr2, e2, hf⟩ := bCv_inv hf
      refine s_aaldq (v := .ref (ad p)) C 4 rfl (72 * nb + 1) (wC_tail 1) hi dX5_again_15 (by rw [hk]; rfl) ?_
      refine s_astore_n C [(2, .ref (ad p)), (0, .ref h), (1, .int x1)] dX5_again_16 (by decide) rfl ?_
      refine s_aload_n C 0 dX5_again_17 rfl ?_
      refine s_ifnonnull C 24 dX5_again_18 (by decide) ?_
      refine s_aload_n C 1 dX5_again_24 rfl ?_
      refine gf_180 C (72 * nb + 0) (wC_tail 0) rfl dX5_again_25 ?_
      refine s_aload_n C 0 dX5_again_28 rfl ?_
      refine s_cV_V (As := [.ref (ad p)]) (rest := []) (ci := 2) (q := 0) C (c_X2_copyFrom l G A ad (xK G ad h a0 kp X) nb 0 p sc ar fr _ _ _ e2) g_RX5_153 hd_X2_copyFrom rfl ⟨Nat.le_of_ble_eq_true rfl, Nat.le_of_ble_eq_true rfl⟩ rfl (wC_2 g1) rfl (Nat.le_of_ble_eq_true rfl) ⟨Nat.le_of_ble_eq_true rfl, Nat.le_of_ble_eq_true rfl⟩ dX5_again_29 ?_
      refine s_aload_n C 1 dX5_again_32 rfl ?_
      refine gf_180 C (72 * nb + 0) (wC_tail 0) rfl dX5_again_33 ?_
      refine gf_156 C 0 (wC_2 g1) rfl dX5_again_36 ?_
      exact rC_I hf (vp_nar_int _) hret dX5_again_39
  · rw [if_neg hi] at hf
    refine s_cV_I (As := [.int x1]) (rest := []) (ci := 5) (q := 72 * nb + 0) C (c_X5_isNoPlaceToKeep l G A ad h a0 kp X nb x1 sc ar fr _ _ _ _ (inp_f hi)) g_RX5_150 hd_X5_isNoPlaceToKeep rfl ⟨Nat.le_of_ble_eq_true rfl, Nat.le_of_ble_eq_true rfl⟩ rfl (wC_tail 0) rfl (Nat.le_of_ble_eq_true rfl) ⟨Nat.le_of_ble_eq_true rfl, Nat.le_of_ble_eq_true rfl⟩ dX5_again_2 ?_
    refine s_if_eq C 10 dX5_again_5 (by decide) (fun c => absurd c (by decide)) (fun _ => ?_)
    refine s_iconst (v := -1) C dX5_again_8 (by decide) ?_
    exact rC_I hf (vp_nar_int _) hret dX5_again_9
theorem c_X5_again (l : Launch) (G : GG) (A : Nat → Prop) (ad : Nat → Nat) (h a0 : Nat) (kp : Nat → Option Nat) (X : va_W) (nb : Nat) (x1 : Int32) (sc ar : Nat → Nat → Int32) (fr : Nat → Nat → Nat) (r0 : Int32) (sc' ar' : Nat → Nat → Int32) (fr' : Nat → Nat → Nat) (hf : f_X5_again nb kp x1 sc ar fr = some (r0, sc', ar', fr')) : MI l yX5_again cX5_again 3 .int ({ frames := 4, cells := 0, slots := 0, locals := 83 } : Room) G A (wC G ad nb (xK G ad h a0 kp X) sc ar fr) [.ref h, .int x1] r0 (wC G ad nb (xK G ad h a0 kp X) sc' ar' fr') :=
  e_I (by decide) (Nat.le_of_ble_eq_true rfl) (fun Γ C hret => k_X5_again C ad h a0 kp X nb x1 sc ar fr r0 sc' ar' fr' hf hret)
abbrev MKp (l : Launch) (y : MethodName) (cc : ByteArray) (mL : Nat) (rm : Room) (G : GG) (A : Nat → Prop) (ws : va_W) (av : List Value) (r : Int32) (wf : (Nat → Nat) → va_W) : Prop := Met l y (Cond.code y cc mL (some .int) :: lw_g) rm (gPc G A ws av) (va_Qi (fun z (_ : Nat → Nat) => z = r) (fun u t => gB G A (wf u) t) A) rm.cells rm.slots A
theorem e_K {l : Launch} {y : MethodName} {cc : ByteArray} {mL : Nat} {rm : Room} {G : GG} {A : Nat → Prop} {ws : va_W} {av : List Value} {r : Int32} {wf : (Nat → Nat) → va_W} (hy : plainName y.cls = true) (hlen : (lg_sl av).length ≤ mL) (body : ∀ Γ : Cx, CX G A Γ cc y.cls rm mL → (∀ (u : Nat → Nat) (pc : Nat) (lv : List (Nat × Value)), decode cc pc = .ok (.ireturn, 1) → St l G A Γ rm.cells rm.slots (wf u) pc lv [.int r]) → St l G A Γ 0 0 ws 0 (lv_args 0 av) []) : MKp l y cc mL rm G A ws av r wf := by
  refine Met.ofW (cc := cc) (maxL := mL) (ret := some .int) hy rfl ?_
  intro p e s m args below meth c s₁ B hml hv
  obtain ⟨rfl, hA, hN, hP, hK, hD⟩ := hv
  have hx := B.exec
  have hb := B.bytes
  have hr := B.returns
  have hts := atoms_spec (ws := Cond.code y cc mL (some .int) :: lw_g) B.pre
  have hown : s.vm.findClass y.cls = some m.cls := findClass_of_methodNamed B.named
  have hlocks := B.notSynchronized
  have hl := lv_entry av (n := mL) hlen
  rw [lg_entry_eq]
  exact body (p, e, rm, s, m, av.toArray, below, meth, c, mL, MQ below (va_Qi (fun z (_ : Nat → Nat) => z = r) (fun u t => gB G A (wf u) t) A) av.toArray s rm.cells rm.slots A) ⟨hx, hb, hml, hown, fun w h => hts w (List.mem_cons_of_mem _ h), hK, hA, hN, rfl, rfl⟩ (fun u pc lv d H locs ls hP hD hS hl => W.iret hx hb hr (fun t ht hW => ⟨⟨r, u, rfl, rfl, by rw [ht]; exact hP, va_K.moved hW.alike hK, hD⟩, hS.F ht⟩) hS.2.2 d) s.heap [] _ hP hD va_S.rf hl
theorem s_cV_K {l : Launch} {G : GG} {A : Nat → Prop} {Γ : Cx} {cc : ByteArray} {own : String} {rm : Room} {nL k n pc : Nat} {ws : va_W} {lv : List (Nat × Value)} {rest stk : List Value} {y : MethodName} {cb : ByteArray} {mL ix nA ci q b : Nat} {rb : Room} {As : List Value} {wf : (Nat → Nat) → va_W} {Cn : String} {T : u_T} {N : Nat} {fs : List Value} {r : Int32} (C : CX G A Γ cc own rm nL) (hM : MKp l y cb mL rb G A ws (.ref b :: As) r wf) (gd : GoodIn lw_g (wsV own ix Cn y (Cond.code y cb mL (some .int) :: lw_g))) (hd : y.cls = Cn ∧ y.cls ≠ "java/lang/invoke/MethodHandle" ∧ y.cls ≠ "java/lang/invoke/VarHandle" ∧ ((parseMethodDescriptor y.desc).map (fun d => d.parameters.length) = some nA)) (hn : As.length = nA) (hR : rb.frames + 1 ≤ rm.frames ∧ 8 + (mL + 11) + rb.locals ≤ rm.locals) (hc : vwCl[ci]? = some (Cn, T, N)) (he : ws[q]? = some (b, .inr (ci, fs))) (hst : stk = As.reverse ++ .ref b :: rest) (hrm : (rest.map fun v => v.category).sum ≤ 8) (hroom : k + rb.cells ≤ rm.cells ∧ n + rb.slots ≤ rm.slots) (d : decode cc pc = .ok (.invokevirtual ix, 3)) (K : ∀ u : Nat → Nat, St l G A Γ (k + rb.cells) (n + rb.slots) (wf u) (pc + 3) lv (.int r :: rest)) : St l G A Γ k n ws pc lv stk := by
  obtain ⟨p, e, R, s, m, args, below, meth, c, nL, Q⟩ := Γ
  obtain ⟨hx, hb, hml, hown, hts, hK, hA, hN, rfl, rfl⟩ := C
  intro H locs ls hP hD hS hl
  refine va_calli (va_runV (As := As) (rest := rest) ⟨hx, hb, hml, hown, hts⟩ hM (cwV nA hts gd rfl rfl rfl hd hR) ⟨g_blind, va_recv hK hP hc he, fun U hU hW => ⟨rfl, fun q h => hA q (Nat.le_trans hS.1 (hU ▸ h)), hN.warm hW, by rw [hU]; exact hP, va_K.moved hW.alike hK, hD⟩⟩ rfl hn hl.1 hst (lv_room hrm) d hroom) hS (fun q _ h => h) (fun q h => h) (fun r' u t H1 locs1 ht hvm hw hB hz hk hS1 => ?_)
  obtain ⟨hP1, hK1, hD1⟩ := hB
  subst hw
  exact K u H1 locs1 ls (ht ▸ hP1) hD1 hS1 hl
def f_X5_keep (nb : Nat) (kp : Nat → Option Nat) (x1 : Int32) (sc ar : Nat → Nat → Int32) (fr : Nat → Nat → Nat) : Option (Int32 × Nat × (Nat → Option Nat) × (Nat → Nat → Int32) × (Nat → Nat → Int32) × (Nat → Nat → Nat)) :=
  if inb x1 2 = true then (match kp x1.toNatClampNeg with
    | none => bCv (f_X2_copyFrom (nb + 1) (72 * nb) 0 (scN nb sc) (arN nb ar) (frN nb fr)) fun sc2 ar2 fr2 => some (0, nb + 1, va_up kp x1.toNatClampNeg (some (72 * nb)), sc2, ar2, fr2)
    | some p => gd (pk nb 2 p) <| bCv (f_X2_copyFrom nb p 0 sc ar fr) fun sc2 ar2 fr2 => some (1, nb, kp, sc2, ar2, fr2))
  else some (-1, nb, kp, sc, ar, fr)
theorem xK_ad {G : GG} {ad ad' : Nat → Nat} {h a0 nb : Nat} {kp : Nat → Option Nat} {X : va_W} (hnb : 1 ≤ nb) (had : ∀ i, i < 72 * nb → ad' i = ad i) (hkp : ∀ j p, kp j = some p → p < 72 * nb) : xK G ad' h a0 kp X = xK G ad h a0 kp X := by
  have e : (fun j => (kp j).map ad') = fun j => (kp j).map ad := by
    funext j
    cases hj : kp j with
    | none => rfl
    | some p => simp [had p (hkp j p hj)]
  simp only [xK, xP, e, had 0 (by omega)]
theorem wC_ad {G : GG} {ad u : Nat → Nat} {h a0 nb : Nat} {kp : Nat → Option Nat} {X : va_W} {sc ar : Nat → Nat → Int32} {fr : Nat → Nat → Nat} (hnb : 1 ≤ nb) (hfr : frIn nb fr) (hkp : ∀ j p, kp j = some p → p < 72 * nb) : wC G ad nb (xK G ad h a0 kp X) sc ar fr = wC G (adN nb ad u) nb (xK G (adN nb ad u) h a0 kp X) sc ar fr := by
  have had : ∀ i, i < 72 * nb → adN nb ad u i = ad i := fun i hi => by unfold adN; rw [if_pos hi]
  rw [xK_ad hnb had hkp]
  unfold wC
  rw [pool_cong (G := G) hfr had (fun _ _ => rfl) (fun _ _ => rfl) (fun _ _ => rfl)]
theorem pk_new (nb : Nat) : pk (nb + 1) 2 (72 * nb) = true := by
  simp only [pk, Bool.and_eq_true, decide_eq_true_eq, beq_iff_eq]
  refine ⟨by omega, ?_⟩
  have := kd_B (B := 72 * nb) (t := 0) (by omega) (by decide)
  exact this
theorem pk_0 {nb : Nat} (h : 1 ≤ nb) : pk nb 2 0 = true := by
  simp only [pk, Bool.and_eq_true, decide_eq_true_eq, beq_iff_eq]
  exact ⟨by omega, rfl⟩
set_option maxHeartbeats 4000000 in
set_option maxRecDepth 100000 in
theorem k_X5_keep {l : Launch} {G : GG} {A : Nat → Prop} {Γ : Cx} (C : CX G A Γ cX5_keep RX5 ({ frames := 4, cells := 72, slots := 5185, locals := 83 } : Room) 3) (ad : Nat → Nat) (h a0 : Nat) (kp : Nat → Option Nat) (X : va_W) (nb : Nat) (x1 : Int32) (sc ar : Nat → Nat → Int32) (fr : Nat → Nat → Nat) (r0 : Int32) (nb' : Nat) (kp' : Nat → Option Nat) (sc' ar' : Nat → Nat → Int32) (fr' : Nat → Nat → Nat) (hf : f_X5_keep nb kp x1 sc ar fr = some (r0, nb', kp', sc', ar', fr')) (hnb : 1 ≤ nb) (hfr : frIn nb fr) (hfr' : frIn nb' fr') (hkp : ∀ j p, kp j = some p → p < 72 * nb) (hret : ∀ (u : Nat → Nat) (pc : Nat) (lv : List (Nat × Value)), decode cX5_keep pc = .ok (.ireturn, 1) → St l G A Γ 72 5185 (wC G (adN nb ad u) nb' (xK G (adN nb ad u) h a0 kp' X) sc' ar' fr') pc lv [.int r0]) : St l G A Γ 0 0 (wC G ad nb (xK G ad h a0 kp X) sc ar fr) 0 [(0, .ref h), (1, .int x1)] [] := by
  unfold f_X5_keep at hf
  refine s_aload_n C 0 dX5_keep_0 rfl ?_
  refine s_iload_n C 1 dX5_keep_1 rfl ?_
  by_cases hi : inb x1 2 = true
  · rw [if_pos hi] at hf
    refine s_cV_I (As := [.int x1]) (rest := []) (ci := 5) (q := 72 * nb + 0) C (c_X5_isNoPlaceToKeep l G A ad h a0 kp X nb x1 sc ar fr _ _ _ _ (inp_t hi)) g_RX5_150 hd_X5_isNoPlaceToKeep rfl ⟨Nat.le_of_ble_eq_true rfl, Nat.le_of_ble_eq_true rfl⟩ rfl (wC_tail 0) rfl (Nat.le_of_ble_eq_true rfl) ⟨Nat.le_of_ble_eq_true rfl, Nat.le_of_ble_eq_true rfl⟩ dX5_keep_2 ?_
    refine s_if_eq C 10 dX5_keep_5 (by decide) (fun _ => ?_) (fun c => absurd rfl c)
    refine s_aload_n C 0 dX5_keep_10 rfl ?_
    refine gf_181 C (72 * nb + 0) (wC_tail 0) rfl dX5_keep_11 ?_
    refine s_iload_n C 1 dX5_keep_14 rfl ?_
    cases hk : kp x1.toNatClampNeg with
    | none =>
      simp only [hk] at hf
      obtain ⟨sc2, ar2, fr2, e2, hf⟩ := bCv_inv hf
      refine s_aaldq (v := .null) C 4 rfl (72 * nb + 1) (wC_tail 1) hi dX5_keep_15 (by rw [hk]; rfl) ?_
      refine s_ifnullN C 23 dX5_keep_16 (by decide) ?_
      refine s_iconst (v := 0) C dX5_keep_23 (by decide) ?_
      refine s_istore_n C [(2, .int 0), (0, .ref h), (1, .int x1)] dX5_keep_24 (by decide) rfl ?_
      refine s_iload_n C 0 dX5_keep_25 rfl ?_
      refine s_if_ne C 42 dX5_keep_26 (by decide) (fun c => absurd rfl c) (fun _ => ?_)
      refine s_aload_n C 1 dX5_keep_29 rfl ?_
      refine gf_181 C (72 * nb + 0) (wC_tail 0) rfl dX5_keep_30 ?_
      refine s_iload_n C 2 dX5_keep_33 rfl ?_
      refine s_new (ci := 2) (fs := [.null, .null, .null, .int 0, .int 0, .int 0, .int 0, .int 0]) C rfl in_X2 tyX2 tyX2_ok tw_18 tw_19 tw_2 df_X2 ⟨Nat.le_of_ble_eq_true rfl, Nat.le_of_ble_eq_true rfl⟩ dX5_keep_34 (fun q => ?_)
      refine s_dup C dX5_keep_37 rfl ?_
      refine s_cIN_X (As := []) (rest := [.ref q, .int x1, .ref a0]) C (c_X2_init l G A (wC G ad nb (xK G ad h a0 kp X) sc ar fr) q) (gd_C tw_22) tw_2 tn_20 tw_21 rfl hd_X2_init.2 rfl ⟨Nat.le_of_ble_eq_true rfl, Nat.le_of_ble_eq_true rfl⟩ rfl (Nat.le_of_ble_eq_true rfl) ⟨Nat.le_of_ble_eq_true rfl, Nat.le_of_ble_eq_true rfl⟩ dX5_keep_38 (fun u => ?_)
      refine St.perm (wC_grow hfr) ?_
      generalize hu : (fun t => if t = 0 then q else u t) = u'
      have had : ∀ i, i < 72 * nb → adN nb ad u' i = ad i := fun i hi => by unfold adN; rw [if_pos hi]
      have hq : q = adN nb ad u' (72 * nb) := by unfold adN; rw [if_neg (by omega), Nat.sub_self, ← hu]; rfl
      rw [← xK_ad (G := G) (h := h) (a0 := a0) (X := X) hnb had hkp]
      refine s_stk (stk' := [.ref (adN nb ad u' (72 * nb)), .int x1, .ref a0]) (by rw [← hq]) ?_
      have hkm : (xK G (adN nb ad u') h a0 kp X).set 1 (a0, .inl (G.2 4, 2, .inr (.inr (.inr (.inr (va_up (fun j => (kp j).map (adN nb ad u')) x1.toNatClampNeg (some (adN nb ad u' (72 * nb))))))))) = xK G (adN nb ad u') h a0 (va_up kp x1.toNatClampNeg (some (72 * nb))) X := by
        have e : va_up (fun j => (kp j).map (adN nb ad u')) x1.toNatClampNeg (some (adN nb ad u' (72 * nb))) = fun j => (va_up kp x1.toNatClampNeg (some (72 * nb)) j).map (adN nb ad u') := by
          funext j
          unfold va_up
          by_cases hj : j = x1.toNatClampNeg
          · simp [hj]
          · simp [hj]
        rw [e]
        rfl
      refine s_aastq (ci := 2) C 4 rfl rfl (72 * (nb + 1) + 1) (72 * nb) (wC_tail 1) (wC_2 (pk_new nb)) hi (wC G (adN nb ad u') (nb + 1) (xK G (adN nb ad u') h a0 (va_up kp x1.toNatClampNeg (some (72 * nb))) X) (scN nb sc) (arN nb ar) (frN nb fr)) ((wC_tset 1 _).trans (congrArg (fun Y => wC G (adN nb ad u') (nb + 1) Y (scN nb sc) (arN nb ar) (frN nb fr)) hkm)) dX5_keep_41 ?_
      refine s_aload_n C 1 dX5_keep_42 rfl ?_
      refine gf_181 C (72 * (nb + 1) + 0) (wC_tail 0) rfl dX5_keep_43 ?_
      refine s_iload_n C 2 dX5_keep_46 rfl ?_
      refine s_aaldq (v := .ref (adN nb ad u' (72 * nb))) C 4 rfl (72 * (nb + 1) + 1) (wC_tail 1) hi dX5_keep_47 (by simp [va_up, va_rf]) ?_
      refine s_aload_n C 1 dX5_keep_48 rfl ?_
      refine gf_180 C (72 * (nb + 1) + 0) (wC_tail 0) rfl dX5_keep_49 ?_
      refine s_cV_V (As := [.ref (adN nb ad u' 0)]) (rest := []) (ci := 2) (q := 72 * nb) C (c_X2_copyFrom l G A (adN nb ad u') (xK G (adN nb ad u') h a0 (va_up kp x1.toNatClampNeg (some (72 * nb))) X) (nb + 1) (72 * nb) 0 (scN nb sc) (arN nb ar) (frN nb fr) _ _ _ e2) g_RX5_153 hd_X2_copyFrom rfl ⟨Nat.le_of_ble_eq_true rfl, Nat.le_of_ble_eq_true rfl⟩ rfl (wC_2 (pk_new nb)) rfl (Nat.le_of_ble_eq_true rfl) ⟨Nat.le_of_ble_eq_true rfl, Nat.le_of_ble_eq_true rfl⟩ dX5_keep_52 ?_
      refine s_iload_n C 0 dX5_keep_55 rfl ?_
      refine s_cS_I (As := [.int 0]) (rest := []) C (c_X5_asNumber l G A _ 0 0 (by decide)) g_RX5_82 hd_X5_asNumber rfl ⟨Nat.le_of_ble_eq_true rfl, Nat.le_of_ble_eq_true rfl⟩ rfl (Nat.le_of_ble_eq_true rfl) ⟨Nat.le_of_ble_eq_true rfl, Nat.le_of_ble_eq_true rfl⟩ dX5_keep_56 ?_
      cases hf
      exact hret u' _ _ dX5_keep_59
    | some p =>
      simp only [hk] at hf
      obtain ⟨g1, hf⟩ := gd_inv hf
      obtain ⟨sc2, ar2, fr2, e2, hf⟩ := bCv_inv hf
      refine s_aaldq (v := .ref (ad p)) C 4 rfl (72 * nb + 1) (wC_tail 1) hi dX5_keep_15 (by rw [hk]; rfl) ?_
      refine s_ifnull C dX5_keep_16 ?_
      refine s_iconst (v := 1) C dX5_keep_19 (by decide) ?_
      refine s_goto C 24 dX5_keep_20 (by decide) ?_
      refine s_istore_n C [(2, .int 1), (0, .ref h), (1, .int x1)] dX5_keep_24 (by decide) rfl ?_
      refine s_iload_n C 0 dX5_keep_25 rfl ?_
      refine s_if_ne C 42 dX5_keep_26 (by decide) (fun _ => ?_) (fun c => absurd c (by decide))
      refine s_aload_n C 1 dX5_keep_42 rfl ?_
      refine gf_181 C (72 * nb + 0) (wC_tail 0) rfl dX5_keep_43 ?_
      refine s_iload_n C 2 dX5_keep_46 rfl ?_
      refine s_aaldq (v := .ref (ad p)) C 4 rfl (72 * nb + 1) (wC_tail 1) hi dX5_keep_47 (by rw [hk]; rfl) ?_
      refine s_aload_n C 1 dX5_keep_48 rfl ?_
      refine gf_180 C (72 * nb + 0) (wC_tail 0) rfl dX5_keep_49 ?_
      refine s_cV_V (As := [.ref (ad 0)]) (rest := []) (ci := 2) (q := p) C (c_X2_copyFrom l G A ad (xK G ad h a0 kp X) nb p 0 sc ar fr _ _ _ e2) g_RX5_153 hd_X2_copyFrom rfl ⟨Nat.le_of_ble_eq_true rfl, Nat.le_of_ble_eq_true rfl⟩ rfl (wC_2 g1) rfl (Nat.le_of_ble_eq_true rfl) ⟨Nat.le_of_ble_eq_true rfl, Nat.le_of_ble_eq_true rfl⟩ dX5_keep_52 ?_
      refine s_iload_n C 0 dX5_keep_55 rfl ?_
      refine s_cS_I (As := [.int 1]) (rest := []) C (c_X5_asNumber l G A _ 1 1 (by decide)) g_RX5_82 hd_X5_asNumber rfl ⟨Nat.le_of_ble_eq_true rfl, Nat.le_of_ble_eq_true rfl⟩ rfl (Nat.le_of_ble_eq_true rfl) ⟨Nat.le_of_ble_eq_true rfl, Nat.le_of_ble_eq_true rfl⟩ dX5_keep_56 ?_
      cases hf
      rw [wC_ad (u := fun _ => 0) hnb hfr' hkp]
      exact St.widen (Nat.le_of_ble_eq_true rfl) (Nat.le_of_ble_eq_true rfl) (hret (fun _ => 0) _ _ dX5_keep_59)
  · rw [if_neg hi] at hf
    refine s_cV_I (As := [.int x1]) (rest := []) (ci := 5) (q := 72 * nb + 0) C (c_X5_isNoPlaceToKeep l G A ad h a0 kp X nb x1 sc ar fr _ _ _ _ (inp_f hi)) g_RX5_150 hd_X5_isNoPlaceToKeep rfl ⟨Nat.le_of_ble_eq_true rfl, Nat.le_of_ble_eq_true rfl⟩ rfl (wC_tail 0) rfl (Nat.le_of_ble_eq_true rfl) ⟨Nat.le_of_ble_eq_true rfl, Nat.le_of_ble_eq_true rfl⟩ dX5_keep_2 ?_
    refine s_if_eq C 10 dX5_keep_5 (by decide) (fun c => absurd c (by decide)) (fun _ => ?_)
    refine s_iconst (v := -1) C dX5_keep_8 (by decide) ?_
    cases hf
    rw [wC_ad (u := fun _ => 0) hnb hfr' hkp]
    exact St.widen (Nat.le_of_ble_eq_true rfl) (Nat.le_of_ble_eq_true rfl) (hret (fun _ => 0) _ _ dX5_keep_9)
theorem c_X5_keep (l : Launch) (G : GG) (A : Nat → Prop) (ad : Nat → Nat) (h a0 : Nat) (kp : Nat → Option Nat) (X : va_W) (nb : Nat) (x1 : Int32) (sc ar : Nat → Nat → Int32) (fr : Nat → Nat → Nat) (r0 : Int32) (nb' : Nat) (kp' : Nat → Option Nat) (sc' ar' : Nat → Nat → Int32) (fr' : Nat → Nat → Nat) (hf : f_X5_keep nb kp x1 sc ar fr = some (r0, nb', kp', sc', ar', fr')) (hnb : 1 ≤ nb) (hfr : frIn nb fr) (hfr' : frIn nb' fr') (hkp : ∀ j p, kp j = some p → p < 72 * nb) : MKp l yX5_keep cX5_keep 3 ({ frames := 4, cells := 72, slots := 5185, locals := 83 } : Room) G A (wC G ad nb (xK G ad h a0 kp X) sc ar fr) [.ref h, .int x1] r0 (fun u => wC G (adN nb ad u) nb' (xK G (adN nb ad u) h a0 kp' X) sc' ar' fr') :=
  e_K (by decide) (Nat.le_of_ble_eq_true rfl) (fun Γ C hret => k_X5_keep C ad h a0 kp X nb x1 sc ar fr r0 nb' kp' sc' ar' fr' hf hnb hfr hfr' hkp hret)
