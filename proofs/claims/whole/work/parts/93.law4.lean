def stI : Nat → Int32 := (upd (upd (upd (upd (upd (upd (upd (fun _ => 0) 0 1) 1 12) 2 2) 103 63) 109 (-4)) 203 63) 209 (-4))
theorem arr_ok {s : State} {cA : ClassId} {kA : Class} {comp : ClassId} {ty : FieldType} (h2 : s.vm.classes[cA]? = some kA) (h3 : kA.kind = .array comp ty) : ArrOfT s cA ty := fun n z => ⟨fun k h => (by cases h), kA, h2, comp, h3⟩
theorem wI_perm {G : GG} {q hm : Nat} {u v : Nat → Nat} : (wf_X6_init G (wf_X5_init G [] q u) hm v).Perm (wL G (fun i => u (i + 1)) 1 q (u 73) (fun _ => none) hm (v 1) (v 2) (v 3) sc0 (fun _ _ => 0) fr0 stI 0 0 0 0 (fun _ => 0) (fun _ => 0)) := by
  have e5 : wf_X5_init G [] q u = wf_X2_init G [(q, .inr (5, [.ref (u 1), .ref (u 73)]))] (u 1) (fun i => u (i + 1)) ++ [(u 73, .inl (G.2 4, 2, .inr (.inr (.inr (.inr (fun _ => none))))))] := rfl
  have e2 := lk_all (G := G) (B := 0) (q := u 1) (u := fun i => u (i + 1)) (ad := fun i => u (i + 1)) (sc := sc0) (ar := fun _ _ => 0) (fr := fr0) [(q, .inr (5, [.ref (u 1), .ref (u 73)]))] rfl (fun t ht => by by_cases h : t = 0 <;> simp [h]) (fun t k ht => by rw [Nat.zero_add]) (fun t ht => rfl) (fun t j ht => by rw [Nat.zero_add, Nat.zero_add])
  have e3 : (List.range 72).map (fun t => ((fun i => u (i + 1)) (0 + t), cell G (fun i => u (i + 1)) sc0 (fun _ _ => 0) fr0 (0 + t))) = (List.range (72 * 1)).map (fun i => ((fun i => u (i + 1)) i, cell G (fun i => u (i + 1)) sc0 (fun _ _ => 0) fr0 i)) := by
    simp only [Nat.zero_add, Nat.mul_one]
  have e6 : wf_X6_init G (wf_X5_init G [] q u) hm v = wf_X5_init G [] q u ++ xM G hm (v 1) (v 2) (v 3) stI 0 0 0 0 (fun _ => 0) (fun _ => 0) := rfl
  rw [e6, e5, e2, e3]
  unfold wL wC
  have e7 : xK G (fun i => u (i + 1)) q (u 73) (fun _ => none) (xM G hm (v 1) (v 2) (v 3) stI 0 0 0 0 (fun _ => 0) (fun _ => 0)) = [(q, .inr (5, [.ref (u 1), .ref (u 73)]))] ++ ([(u 73, .inl (G.2 4, 2, .inr (.inr (.inr (.inr (fun _ => none))))))] ++ xM G hm (v 1) (v 2) (v 3) stI 0 0 0 0 (fun _ => 0) (fun _ => 0)) := rfl
  rw [e7, List.append_assoc, List.append_assoc]
  exact List.perm_append_comm_assoc _ _ _
set_option maxHeartbeats 4000000 in
set_option maxRecDepth 100000 in
theorem whole_start {p : Program} {e : Env} {s : State} {m : MethodId} {below : List Frame} {meth : Method} {c : Code} (l : Launch) {b L : Nat} {xs : Nat → Int32} (hL : L ≤ 2560) (C0 : lw_At p s m meth c b L xs) : W p l e room_1 s m #[Value.ref b] below meth c s.heap [] 0 0 (lw_Z below #[Value.ref b] s) (entryFrame m ([Value.ref b] : List Value).toArray 4) := by
  obtain ⟨hx, hb, hr, hml, hown, hts, hX, hbl, hlocks, hgv⟩ := id C0
  have htg : ∀ w ∈ lw_g, w.before #[Value.ref b] s = true := fun w h => hts w (tw_sub w h)
  obtain ⟨c0, i0, hKn0⟩ := u_known (C := RX0) (T := TX0) (N := 16) (n := 16) htg in_X0 (htg _ tw_26)
  obtain ⟨c1, i1, hKn1⟩ := u_known (C := RX1) (T := TX1) (N := 3) (n := 3) htg in_X1 (htg _ tw_119)
  obtain ⟨c2, i2, hKn2⟩ := u_known (C := RX2) (T := TX2) (N := 8) (n := 8) htg in_X2 (htg _ tw_19)
  obtain ⟨c3, i3, hKn3⟩ := u_known (C := RX3) (T := TX3) (N := 2) (n := 2) htg in_X3 (htg _ tw_32)
  obtain ⟨c4, i4, hKn4⟩ := u_known (C := RX4) (T := TX4) (N := 2) (n := 2) htg in_X4 (htg _ tw_112)
  obtain ⟨c5, i5, hKn5⟩ := u_known (C := RX5) (T := TX5) (N := 2) (n := 2) htg in_X5 (htg _ tw_11)
  obtain ⟨c6, i6, hKn6⟩ := u_known (C := RX6) (T := TX6) (N := 7) (n := 7) htg in_X6 (htg _ tw_500)
  obtain ⟨cI, kI, mI, fI, gI, hI⟩ := Cond.arrayClass_spec (htg _ tw_47)
  obtain ⟨cZ, kZ, mZ, fZ, gZ, hZ⟩ := Cond.arrayClass_spec (htg _ tw_530)
  have hN := NW.of hts
  obtain ⟨m2, c2a, k2a, f2, -, g2, h2, n2⟩ := Cond.arrayOver_spec hN.2.1
  obtain ⟨m5, c5a, k5a, f5, -, g5, h5, n5⟩ := Cond.arrayOver_spec hN.2.2.1
  obtain ⟨m3, c3a, k3a, f3, -, g3, h3, n3⟩ := Cond.arrayOver_spec hN.2.2.2.1
  obtain ⟨m4, c4a, k4a, f4, -, g4, h4, n4⟩ := Cond.arrayOver_spec hN.2.2.2.2
  obtain ⟨dC, dI, hKc⟩ : ∃ (dC : Nat → ClassId) (dI : Nat → Nat → Nat), ∀ (k : Nat) (q : vw_C), vwCl[k]? = some q → u_Kn s q.1 q.2.1 q.2.2 (dC k) (dI k) := by
    refine ⟨fun k => match k with | 0 => c0 | 1 => c1 | 2 => c2 | 3 => c3 | 4 => c4 | 5 => c5 | _ => c6, fun k => match k with | 0 => i0 | 1 => i1 | 2 => i2 | 3 => i3 | 4 => i4 | 5 => i5 | _ => i6, ?_⟩
    intro k q hq
    match k, hq with
    | 0, hq => cases hq; exact hKn0
    | 1, hq => cases hq; exact hKn1
    | 2, hq => cases hq; exact hKn2
    | 3, hq => cases hq; exact hKn3
    | 4, hq => cases hq; exact hKn4
    | 5, hq => cases hq; exact hKn5
    | 6, hq => cases hq; exact hKn6
    | k + 7, hq => simp [vwCl] at hq
  obtain ⟨G, hG1, hG2⟩ : ∃ G : GG, G.1 = (dC, dI) ∧ G.2 = fun t => match t with | 0 => cI | 1 => cZ | 2 => c2a | 3 => c3a | 4 => c4a | _ => c5a := ⟨((dC, dI), fun t => match t with | 0 => cI | 1 => cZ | 2 => c2a | 3 => c3a | 4 => c4a | _ => c5a), rfl, rfl⟩
  have hK : va_K G.1 vwCl (tyG G) s := by
    rw [hG1]
    refine ⟨hKc, fun k q hq => ?_⟩
    unfold tyG at hq
    rw [hG2] at hq
    match k, hq with
    | 0, hq => cases hq; exact ⟨arr_ok gI hI, fI⟩
    | 1, hq => cases hq; exact ⟨arr_ok gZ hZ, fZ⟩
    | 2, hq => cases hq; exact ⟨arr_ok g2 h2, k2a, m2, g2, h2, f2, n2⟩
    | 3, hq => cases hq; exact ⟨arr_ok g3 h3, k3a, m3, g3, h3, f3, n3⟩
    | 4, hq => cases hq; exact ⟨arr_ok g4 h4, k4a, m4, g4, h4, f4, n4⟩
    | 5, hq => cases hq; exact ⟨arr_ok g5 h5, k5a, m5, g5, h5, f5, n5⟩
    | k + 6, hq => simp at hq
  have hP : va_P G.1 vwCl [] s.heap := fun k q h => by simp at h
  have hD : va_D (fun q : Nat => s.heap.size ≤ q) [] := ⟨fun i j p q h => by simp at h, fun k q h => by simp at h⟩
  have hl := lv_entry ([.ref b]) (n := 4) (Nat.le_of_ble_eq_true rfl)
  rw [lg_entry_eq]
  have C : CX G (fun q : Nat => s.heap.size ≤ q) (p, e, room_1, s, m, #[Value.ref b], below, meth, c, 4, lw_Z below #[Value.ref b] s) code RL room_1 4 := ⟨hx, hb, hml, hown, htg, hK, fun q h => h, hN, rfl, rfl⟩
  have hSX : SX (fun q : Nat => s.heap.size ≤ q) (p, e, room_1, s, m, #[Value.ref b], below, meth, c, 4, lw_Z below #[Value.ref b] s) b L xs := ⟨hX, hbl, Nat.not_le.mpr hbl⟩
  have hend : ∀ (k n : Nat) (ws : va_W) (lv : List (Nat × Value)), k ≤ 600000 → n ≤ 7302250 → St l G (fun q : Nat => s.heap.size ≤ q) (p, e, room_1, s, m, #[Value.ref b], below, meth, c, 4, lw_Z below #[Value.ref b] s) k n ws 695 lv [.int 1] := fun k n ws lv h1 h2 H locs ls hP hD hS hl => va_forget (fun q hq => hS.2.2 q hq) (W.widen h1 h2 (lw_ret hx hb hr hlocks dL_law_695))
  have main : St l G (fun q : Nat => s.heap.size ≤ q) (p, e, room_1, s, m, #[Value.ref b], below, meth, c, 4, lw_Z below #[Value.ref b] s) 0 0 [] 0 [(0, .ref b)] [] := by
    refine s_new (ci := 5) (fs := [.null, .null]) C rfl in_X5 tyX5 tyX5_ok tw_10 tw_11 tw_1 df_X5 ⟨Nat.le_of_ble_eq_true rfl, Nat.le_of_ble_eq_true rfl⟩ dL_law_0 (fun q => ?_)
    refine s_dup C dL_law_3 rfl ?_
    refine s_cI_X (As := []) (rest := [.ref q]) C (c_X5_init l G _ [] q) (gd_C tw_14) tw_1 tw_12 tw_13 rfl hd_X5_init.2 rfl ⟨Nat.le_of_ble_eq_true rfl, Nat.le_of_ble_eq_true rfl⟩ rfl (Nat.le_of_ble_eq_true rfl) ⟨Nat.le_of_ble_eq_true rfl, Nat.le_of_ble_eq_true rfl⟩ dL_law_4 (fun u => ?_)
    refine s_astore_n C [(1, .ref q), (0, .ref b)] dL_law_7 (by decide) rfl ?_
    refine s_new (ci := 6) (fs := [.null, .null, .null, .int 0, .long 0, .int 0, .int 0]) C rfl in_X6 tyX6 tyX6_ok tw_499 tw_500 tw_7 df_X6 ⟨Nat.le_of_ble_eq_true rfl, Nat.le_of_ble_eq_true rfl⟩ dL_law_8 (fun hm => ?_)
    refine s_dup C dL_law_11 rfl ?_
    refine s_cI_X (As := []) (rest := [.ref hm]) C (c_X6_init l G _ (wf_X5_init G [] q u) hm) (gd_C tw_503) tw_7 tw_501 tw_502 rfl hd_X6_init.2 rfl ⟨Nat.le_of_ble_eq_true rfl, Nat.le_of_ble_eq_true rfl⟩ rfl (Nat.le_of_ble_eq_true rfl) ⟨Nat.le_of_ble_eq_true rfl, Nat.le_of_ble_eq_true rfl⟩ dL_law_12 (fun v => ?_)
    refine s_astore_n C [(2, .ref hm), (1, .ref q), (0, .ref b)] dL_law_15 (by decide) rfl ?_
    refine s_iconst (v := 0) C dL_law_16 (by decide) ?_
    refine s_istore_n C [(3, .int 0), (2, .ref hm), (1, .ref q), (0, .ref b)] dL_law_17 (by decide) rfl ?_
    refine St.perm wI_perm ?_
    refine s_lv [0, 3, 2, 1] rfl ?_
    refine St.widen (k' := 80 + 72 * 0) (n' := 30000 + 5185 * 0) (Nat.le_of_ble_eq_true rfl) (Nat.le_of_ble_eq_true rfl) ?_
    exact law_loop C hL hSX hend (L + 2) 0 (by omega) (by omega) _ _ _ _ _ _ _ _ _ _ _ _ _ Rel_init
  exact main s.heap [] _ hP hD va_S.rf hl
