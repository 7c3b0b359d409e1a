set_option maxHeartbeats 4000000 in
set_option maxRecDepth 100000 in
theorem lc_draft {l : Launch} {G : GG} {A : Nat → Prop} {Γ : Cx} (C : CX G A Γ code RL room_1 4) {b L : Nat} {xs : Nat → Int32} (hL : L ≤ 2560) (hX : SX A Γ b L xs) {h a0 hm a1 a2 a3 : Nat} (i : Nat) (hi5 : 5 * i + 5 ≤ L) (ad : Nat → Nat) (nb : Nat) (kp : Nat → Option Nat) (sc ar : Nat → Nat → Int32) (fr : Nat → Nat → Nat) (st : Nat → Int32) (wt : Int32) (sm : Int64) (ld ln : Int32) (kpM ik : Nat → Int32) (hR : Rel nb kp sc ar fr st kpM ik) (K : ∀ (ad : Nat → Nat) (nb : Nat) (kp : Nat → Option Nat) (sc ar : Nat → Nat → Int32) (fr : Nat → Nat → Nat) (st : Nat → Int32) (wt : Int32) (sm : Int64) (ld ln : Int32) (kpM ik : Nat → Int32), Rel nb kp sc ar fr st kpM ik → St l G A Γ (80 + 72 * (i + 1)) (30000 + 5185 * (i + 1)) (wL G ad nb h a0 kp hm a1 a2 a3 sc ar fr st wt sm ld ln kpM ik) 688 [(3, .int (nI (5 * i))), (0, .ref b), (1, .ref h), (2, .ref hm)] []) : St l G A Γ (80 + 72 * i) (30000 + 5185 * i) (wL G ad nb h a0 kp hm a1 a2 a3 sc ar fr st wt sm ld ln kpM ik) 116 [(3, .int (nI (5 * i))), (0, .ref b), (1, .ref h), (2, .ref hm)] [] := by
  obtain ⟨r, sc', ar', fr', st', wt', sm', ld', ln', e1, e2, hR'⟩ := sim_draft hR (xs (5 * i + 1)) (xs (5 * i + 2)) (((xs (5 * i + 3)).toInt64 <<< ((32 : Int32).toInt64 &&& 63)) ||| ((xs (5 * i + 4)).toInt64 &&& 4294967295)) wt sm ld ln
  refine s_aload_n C 2 dL_law_116 rfl ?_
  refine s_aload_n C 1 dL_law_117 rfl ?_
  refine s_iload_n C 0 dL_law_118 rfl ?_
  refine s_iconst (v := 1) C dL_law_119 (by decide) ?_
  refine s_iadd C dL_law_120 ?_
  refine s_sld C hX (j := 5 * i + 1) (nI_add _ _) (by omega) (by omega) dL_law_121 ?_
  refine s_aload_n C 1 dL_law_122 rfl ?_
  refine s_iload_n C 0 dL_law_123 rfl ?_
  refine s_iconst (v := 2) C dL_law_124 (by decide) ?_
  refine s_iadd C dL_law_125 ?_
  refine s_sld C hX (j := 5 * i + 2) (nI_add _ _) (by omega) (by omega) dL_law_126 ?_
  refine s_aload_n C 1 dL_law_127 rfl ?_
  refine s_iload_n C 0 dL_law_128 rfl ?_
  refine s_iconst (v := 3) C dL_law_129 (by decide) ?_
  refine s_iadd C dL_law_130 ?_
  refine s_sld C hX (j := 5 * i + 3) (nI_add _ _) (by omega) (by omega) dL_law_131 ?_
  refine s_i2l C dL_law_132 ?_
  refine s_bipush (v := 32) C dL_law_133 (by decide) ?_
  refine s_lshl C dL_law_135 ?_
  refine s_aload_n C 1 dL_law_136 rfl ?_
  refine s_iload_n C 0 dL_law_137 rfl ?_
  refine s_iconst (v := 4) C dL_law_138 (by decide) ?_
  refine s_iadd C dL_law_139 ?_
  refine s_sld C hX (j := 5 * i + 4) (nI_add _ _) (by omega) (by omega) dL_law_140 ?_
  refine s_i2l C dL_law_141 ?_
  refine s_ldc2 C tw_731 dL_law_142 ?_
  refine s_land C dL_law_145 ?_
  refine s_lor C dL_law_146 ?_
  refine s_cV_I (As := [.int (xs (5 * i + 1)), .int (xs (5 * i + 2)), .long (((xs (5 * i + 3)).toInt64 <<< ((32 : Int32).toInt64 &&& 63)) ||| ((xs (5 * i + 4)).toInt64 &&& 4294967295))]) (rest := []) (ci := 5) (q := 72 * nb + 0) C (c_X5_draft l G A ad h a0 ((a0, .inl (G.2 4, 2, .inr (.inr (.inr (.inr (fun j => (kp j).map ad)))))) :: (xM G hm a1 a2 a3 st wt sm ld ln kpM ik)) nb (xs (5 * i + 1)) (xs (5 * i + 2)) (((xs (5 * i + 3)).toInt64 <<< ((32 : Int32).toInt64 &&& 63)) ||| ((xs (5 * i + 4)).toInt64 &&& 4294967295)) sc ar fr r sc' ar' fr' e1) g_RL_15 hd_X5_draft rfl ⟨Nat.le_of_ble_eq_true rfl, Nat.le_of_ble_eq_true rfl⟩ rfl (wC_tail 0) rfl (Nat.le_of_ble_eq_true rfl) ⟨by show 80 + 72 * i + 0 ≤ 600000; omega, by show 30000 + 5185 * i + 0 ≤ 7302250; omega⟩ dL_law_147 ?_
  refine St.perm (wL_perm (G := G) (ad := ad) (nb := nb) (h := h) (a0 := a0) (kp := kp) (hm := hm) (a1 := a1) (a2 := a2) (a3 := a3) (sc := sc') (ar := ar') (fr := fr') (st := st) (wt := wt) (sm := sm) (ld := ld) (ln := ln) (kpM := kpM) (ik := ik)) ?_
  refine s_aload_n C 3 dL_law_150 rfl ?_
  refine s_aload_n C 1 dL_law_151 rfl ?_
  refine s_iload_n C 0 dL_law_152 rfl ?_
  refine s_iconst (v := 1) C dL_law_153 (by decide) ?_
  refine s_iadd C dL_law_154 ?_
  refine s_sld C hX (j := 5 * i + 1) (nI_add _ _) (by omega) (by omega) dL_law_155 ?_
  refine s_aload_n C 1 dL_law_156 rfl ?_
  refine s_iload_n C 0 dL_law_157 rfl ?_
  refine s_iconst (v := 2) C dL_law_158 (by decide) ?_
  refine s_iadd C dL_law_159 ?_
  refine s_sld C hX (j := 5 * i + 2) (nI_add _ _) (by omega) (by omega) dL_law_160 ?_
  refine s_aload_n C 1 dL_law_161 rfl ?_
  refine s_iload_n C 0 dL_law_162 rfl ?_
  refine s_iconst (v := 3) C dL_law_163 (by decide) ?_
  refine s_iadd C dL_law_164 ?_
  refine s_sld C hX (j := 5 * i + 3) (nI_add _ _) (by omega) (by omega) dL_law_165 ?_
  refine s_i2l C dL_law_166 ?_
  refine s_bipush (v := 32) C dL_law_167 (by decide) ?_
  refine s_lshl C dL_law_169 ?_
  refine s_aload_n C 1 dL_law_170 rfl ?_
  refine s_iload_n C 0 dL_law_171 rfl ?_
  refine s_iconst (v := 4) C dL_law_172 (by decide) ?_
  refine s_iadd C dL_law_173 ?_
  refine s_sld C hX (j := 5 * i + 4) (nI_add _ _) (by omega) (by omega) dL_law_174 ?_
  refine s_i2l C dL_law_175 ?_
  refine s_ldc2 C tw_731 dL_law_176 ?_
  refine s_land C dL_law_179 ?_
  refine s_lor C dL_law_180 ?_
  refine s_cV_I (As := [.int (xs (5 * i + 1)), .int (xs (5 * i + 2)), .long (((xs (5 * i + 3)).toInt64 <<< ((32 : Int32).toInt64 &&& 63)) ||| ((xs (5 * i + 4)).toInt64 &&& 4294967295))]) (rest := [.int r]) (ci := 6) (q := 0) C (c_X6_draft l G A hm a1 a2 a3 ((a2, .inl (G.2 0, 16000, .inl kpM)) :: (a3, .inl (G.2 1, 2, .inl ik)) :: (yC G ad nb h a0 kp sc' ar' fr')) (xs (5 * i + 1)) (xs (5 * i + 2)) (((xs (5 * i + 3)).toInt64 <<< ((32 : Int32).toInt64 &&& 63)) ||| ((xs (5 * i + 4)).toInt64 &&& 4294967295)) st wt sm ld ln r st' wt' sm' ld' ln' e2) g_RL_19 hd_X6_draft rfl ⟨Nat.le_of_ble_eq_true rfl, Nat.le_of_ble_eq_true rfl⟩ rfl rfl rfl (Nat.le_of_ble_eq_true rfl) ⟨by show 80 + 72 * i + 0 ≤ 600000; omega, by show 30000 + 5185 * i + 0 ≤ 7302250; omega⟩ dL_law_181 ?_
  refine St.perm (List.Perm.symm (wL_perm (G := G) (ad := ad) (nb := nb) (h := h) (a0 := a0) (kp := kp) (hm := hm) (a1 := a1) (a2 := a2) (a3 := a3) (sc := sc') (ar := ar') (fr := fr') (st := st') (wt := wt') (sm := sm') (ld := ld') (ln := ln') (kpM := kpM) (ik := ik))) ?_
  refine s_icmp_eq C 688 dL_law_184 (by decide) (fun _ => ?_) (fun c => absurd rfl c)
  exact St.widen (by show 80 + 72 * i ≤ _; omega) (by show 30000 + 5185 * i ≤ _; omega) (K ad nb kp sc' ar' fr' st' wt' sm' ld' ln' kpM ik hR')
set_option maxHeartbeats 4000000 in
set_option maxRecDepth 100000 in
theorem lc_offer {l : Launch} {G : GG} {A : Nat → Prop} {Γ : Cx} (C : CX G A Γ code RL room_1 4) {b L : Nat} {xs : Nat → Int32} (hL : L ≤ 2560) (hX : SX A Γ b L xs) {h a0 hm a1 a2 a3 : Nat} (i : Nat) (hi5 : 5 * i + 5 ≤ L) (ad : Nat → Nat) (nb : Nat) (kp : Nat → Option Nat) (sc ar : Nat → Nat → Int32) (fr : Nat → Nat → Nat) (st : Nat → Int32) (wt : Int32) (sm : Int64) (ld ln : Int32) (kpM ik : Nat → Int32) (hR : Rel nb kp sc ar fr st kpM ik) (K : ∀ (ad : Nat → Nat) (nb : Nat) (kp : Nat → Option Nat) (sc ar : Nat → Nat → Int32) (fr : Nat → Nat → Nat) (st : Nat → Int32) (wt : Int32) (sm : Int64) (ld ln : Int32) (kpM ik : Nat → Int32), Rel nb kp sc ar fr st kpM ik → St l G A Γ (80 + 72 * (i + 1)) (30000 + 5185 * (i + 1)) (wL G ad nb h a0 kp hm a1 a2 a3 sc ar fr st wt sm ld ln kpM ik) 688 [(3, .int (nI (5 * i))), (0, .ref b), (1, .ref h), (2, .ref hm)] []) : St l G A Γ (80 + 72 * i) (30000 + 5185 * i) (wL G ad nb h a0 kp hm a1 a2 a3 sc ar fr st wt sm ld ln kpM ik) 189 [(3, .int (nI (5 * i))), (0, .ref b), (1, .ref h), (2, .ref hm)] [] := by
  obtain ⟨r, sc', ar', fr', st', wt', sm', ld', ln', e1, e2, hR'⟩ := sim_offer hR (xs (5 * i + 1)) wt sm ld ln
  refine s_aload_n C 2 dL_law_189 rfl ?_
  refine s_aload_n C 1 dL_law_190 rfl ?_
  refine s_iload_n C 0 dL_law_191 rfl ?_
  refine s_iconst (v := 1) C dL_law_192 (by decide) ?_
  refine s_iadd C dL_law_193 ?_
  refine s_sld C hX (j := 5 * i + 1) (nI_add _ _) (by omega) (by omega) dL_law_194 ?_
  refine s_cV_I (As := [.int (xs (5 * i + 1))]) (rest := []) (ci := 5) (q := 72 * nb + 0) C (c_X5_offer l G A ad h a0 ((a0, .inl (G.2 4, 2, .inr (.inr (.inr (.inr (fun j => (kp j).map ad)))))) :: (xM G hm a1 a2 a3 st wt sm ld ln kpM ik)) nb (xs (5 * i + 1)) sc ar fr r sc' ar' fr' e1) g_RL_20 hd_X5_offer rfl ⟨Nat.le_of_ble_eq_true rfl, Nat.le_of_ble_eq_true rfl⟩ rfl (wC_tail 0) rfl (Nat.le_of_ble_eq_true rfl) ⟨by show 80 + 72 * i + 0 ≤ 600000; omega, by show 30000 + 5185 * i + 0 ≤ 7302250; omega⟩ dL_law_195 ?_
  refine St.perm (wL_perm (G := G) (ad := ad) (nb := nb) (h := h) (a0 := a0) (kp := kp) (hm := hm) (a1 := a1) (a2 := a2) (a3 := a3) (sc := sc') (ar := ar') (fr := fr') (st := st) (wt := wt) (sm := sm) (ld := ld) (ln := ln) (kpM := kpM) (ik := ik)) ?_
  refine s_aload_n C 3 dL_law_198 rfl ?_
  refine s_aload_n C 1 dL_law_199 rfl ?_
  refine s_iload_n C 0 dL_law_200 rfl ?_
  refine s_iconst (v := 1) C dL_law_201 (by decide) ?_
  refine s_iadd C dL_law_202 ?_
  refine s_sld C hX (j := 5 * i + 1) (nI_add _ _) (by omega) (by omega) dL_law_203 ?_
  refine s_cV_I (As := [.int (xs (5 * i + 1))]) (rest := [.int r]) (ci := 6) (q := 0) C (c_X6_offer l G A hm a1 a2 a3 ((a2, .inl (G.2 0, 16000, .inl kpM)) :: (a3, .inl (G.2 1, 2, .inl ik)) :: (yC G ad nb h a0 kp sc' ar' fr')) (xs (5 * i + 1)) st wt sm ld ln r st' wt' sm' ld' ln' e2) g_RL_24 hd_X6_offer rfl ⟨Nat.le_of_ble_eq_true rfl, Nat.le_of_ble_eq_true rfl⟩ rfl rfl rfl (Nat.le_of_ble_eq_true rfl) ⟨by show 80 + 72 * i + 0 ≤ 600000; omega, by show 30000 + 5185 * i + 0 ≤ 7302250; omega⟩ dL_law_204 ?_
  refine St.perm (List.Perm.symm (wL_perm (G := G) (ad := ad) (nb := nb) (h := h) (a0 := a0) (kp := kp) (hm := hm) (a1 := a1) (a2 := a2) (a3 := a3) (sc := sc') (ar := ar') (fr := fr') (st := st') (wt := wt') (sm := sm') (ld := ld') (ln := ln') (kpM := kpM) (ik := ik))) ?_
  refine s_icmp_eq C 688 dL_law_207 (by decide) (fun _ => ?_) (fun c => absurd rfl c)
  exact St.widen (by show 80 + 72 * i ≤ _; omega) (by show 30000 + 5185 * i ≤ _; omega) (K ad nb kp sc' ar' fr' st' wt' sm' ld' ln' kpM ik hR')
set_option maxHeartbeats 4000000 in
set_option maxRecDepth 100000 in
theorem lc_check {l : Launch} {G : GG} {A : Nat → Prop} {Γ : Cx} (C : CX G A Γ code RL room_1 4) {b L : Nat} {xs : Nat → Int32} (hL : L ≤ 2560) (hX : SX A Γ b L xs) {h a0 hm a1 a2 a3 : Nat} (i : Nat) (hi5 : 5 * i + 5 ≤ L) (ad : Nat → Nat) (nb : Nat) (kp : Nat → Option Nat) (sc ar : Nat → Nat → Int32) (fr : Nat → Nat → Nat) (st : Nat → Int32) (wt : Int32) (sm : Int64) (ld ln : Int32) (kpM ik : Nat → Int32) (hR : Rel nb kp sc ar fr st kpM ik) (K : ∀ (ad : Nat → Nat) (nb : Nat) (kp : Nat → Option Nat) (sc ar : Nat → Nat → Int32) (fr : Nat → Nat → Nat) (st : Nat → Int32) (wt : Int32) (sm : Int64) (ld ln : Int32) (kpM ik : Nat → Int32), Rel nb kp sc ar fr st kpM ik → St l G A Γ (80 + 72 * (i + 1)) (30000 + 5185 * (i + 1)) (wL G ad nb h a0 kp hm a1 a2 a3 sc ar fr st wt sm ld ln kpM ik) 688 [(3, .int (nI (5 * i))), (0, .ref b), (1, .ref h), (2, .ref hm)] []) : St l G A Γ (80 + 72 * i) (30000 + 5185 * i) (wL G ad nb h a0 kp hm a1 a2 a3 sc ar fr st wt sm ld ln kpM ik) 212 [(3, .int (nI (5 * i))), (0, .ref b), (1, .ref h), (2, .ref hm)] [] := by
  obtain ⟨r, sc', ar', fr', st', wt', sm', ld', ln', e1, e2, hR'⟩ := sim_check hR (xs (5 * i + 1)) (xs (5 * i + 2)) wt sm ld ln
  refine s_aload_n C 2 dL_law_212 rfl ?_
  refine s_aload_n C 1 dL_law_213 rfl ?_
  refine s_iload_n C 0 dL_law_214 rfl ?_
  refine s_iconst (v := 1) C dL_law_215 (by decide) ?_
  refine s_iadd C dL_law_216 ?_
  refine s_sld C hX (j := 5 * i + 1) (nI_add _ _) (by omega) (by omega) dL_law_217 ?_
  refine s_aload_n C 1 dL_law_218 rfl ?_
  refine s_iload_n C 0 dL_law_219 rfl ?_
  refine s_iconst (v := 2) C dL_law_220 (by decide) ?_
  refine s_iadd C dL_law_221 ?_
  refine s_sld C hX (j := 5 * i + 2) (nI_add _ _) (by omega) (by omega) dL_law_222 ?_
  refine s_cV_L (As := [.int (xs (5 * i + 1)), .int (xs (5 * i + 2))]) (rest := []) (ci := 5) (q := 72 * nb + 0) C (c_X5_check l G A ad h a0 ((a0, .inl (G.2 4, 2, .inr (.inr (.inr (.inr (fun j => (kp j).map ad)))))) :: (xM G hm a1 a2 a3 st wt sm ld ln kpM ik)) nb (xs (5 * i + 1)) (xs (5 * i + 2)) sc ar fr r sc' ar' fr' e1) g_RL_25 hd_X5_check rfl ⟨Nat.le_of_ble_eq_true rfl, Nat.le_of_ble_eq_true rfl⟩ rfl (wC_tail 0) rfl (Nat.le_of_ble_eq_true rfl) ⟨by show 80 + 72 * i + 0 ≤ 600000; omega, by show 30000 + 5185 * i + 0 ≤ 7302250; omega⟩ dL_law_223 ?_
  refine St.perm (wL_perm (G := G) (ad := ad) (nb := nb) (h := h) (a0 := a0) (kp := kp) (hm := hm) (a1 := a1) (a2 := a2) (a3 := a3) (sc := sc') (ar := ar') (fr := fr') (st := st) (wt := wt) (sm := sm) (ld := ld) (ln := ln) (kpM := kpM) (ik := ik)) ?_
  refine s_aload_n C 3 dL_law_226 rfl ?_
  refine s_aload_n C 1 dL_law_227 rfl ?_
  refine s_iload_n C 0 dL_law_228 rfl ?_
  refine s_iconst (v := 1) C dL_law_229 (by decide) ?_
  refine s_iadd C dL_law_230 ?_
  refine s_sld C hX (j := 5 * i + 1) (nI_add _ _) (by omega) (by omega) dL_law_231 ?_
  refine s_aload_n C 1 dL_law_232 rfl ?_
  refine s_iload_n C 0 dL_law_233 rfl ?_
  refine s_iconst (v := 2) C dL_law_234 (by decide) ?_
  refine s_iadd C dL_law_235 ?_
  refine s_sld C hX (j := 5 * i + 2) (nI_add _ _) (by omega) (by omega) dL_law_236 ?_
  refine s_cV_L (As := [.int (xs (5 * i + 1)), .int (xs (5 * i + 2))]) (rest := [.long r]) (ci := 6) (q := 0) C (c_X6_check l G A hm a1 a2 a3 ((a2, .inl (G.2 0, 16000, .inl kpM)) :: (a3, .inl (G.2 1, 2, .inl ik)) :: (yC G ad nb h a0 kp sc' ar' fr')) (xs (5 * i + 1)) (xs (5 * i + 2)) st wt sm ld ln r st' wt' sm' ld' ln' e2) g_RL_29 hd_X6_check rfl ⟨Nat.le_of_ble_eq_true rfl, Nat.le_of_ble_eq_true rfl⟩ rfl rfl rfl (Nat.le_of_ble_eq_true rfl) ⟨by show 80 + 72 * i + 0 ≤ 600000; omega, by show 30000 + 5185 * i + 0 ≤ 7302250; omega⟩ dL_law_237 ?_
  refine St.perm (List.Perm.symm (wL_perm (G := G) (ad := ad) (nb := nb) (h := h) (a0 := a0) (kp := kp) (hm := hm) (a1 := a1) (a2 := a2) (a3 := a3) (sc := sc') (ar := ar') (fr := fr') (st := st') (wt := wt') (sm := sm') (ld := ld') (ln := ln') (kpM := kpM) (ik := ik))) ?_
  refine s_lcmp C dL_law_240 ?_
  refine s_if_eq C 688 dL_law_241 (by decide) (fun _ => ?_) (fun c => absurd (lg_same r) c)
  exact St.widen (by show 80 + 72 * i ≤ _; omega) (by show 30000 + 5185 * i ≤ _; omega) (K ad nb kp sc' ar' fr' st' wt' sm' ld' ln' kpM ik hR')
set_option maxHeartbeats 4000000 in
set_option maxRecDepth 100000 in
theorem lc_set {l : Launch} {G : GG} {A : Nat → Prop} {Γ : Cx} (C : CX G A Γ code RL room_1 4) {b L : Nat} {xs : Nat → Int32} (hL : L ≤ 2560) (hX : SX A Γ b L xs) {h a0 hm a1 a2 a3 : Nat} (i : Nat) (hi5 : 5 * i + 5 ≤ L) (ad : Nat → Nat) (nb : Nat) (kp : Nat → Option Nat) (sc ar : Nat → Nat → Int32) (fr : Nat → Nat → Nat) (st : Nat → Int32) (wt : Int32) (sm : Int64) (ld ln : Int32) (kpM ik : Nat → Int32) (hR : Rel nb kp sc ar fr st kpM ik) (K : ∀ (ad : Nat → Nat) (nb : Nat) (kp : Nat → Option Nat) (sc ar : Nat → Nat → Int32) (fr : Nat → Nat → Nat) (st : Nat → Int32) (wt : Int32) (sm : Int64) (ld ln : Int32) (kpM ik : Nat → Int32), Rel nb kp sc ar fr st kpM ik → St l G A Γ (80 + 72 * (i + 1)) (30000 + 5185 * (i + 1)) (wL G ad nb h a0 kp hm a1 a2 a3 sc ar fr st wt sm ld ln kpM ik) 688 [(3, .int (nI (5 * i))), (0, .ref b), (1, .ref h), (2, .ref hm)] []) : St l G A Γ (80 + 72 * i) (30000 + 5185 * i) (wL G ad nb h a0 kp hm a1 a2 a3 sc ar fr st wt sm ld ln kpM ik) 246 [(3, .int (nI (5 * i))), (0, .ref b), (1, .ref h), (2, .ref hm)] [] := by
  obtain ⟨r, sc', ar', fr', st', wt', sm', ld', ln', e1, e2, hR'⟩ := sim_set hR (xs (5 * i + 1)) (xs (5 * i + 2)) wt sm ld ln
  refine s_aload_n C 2 dL_law_246 rfl ?_
  refine s_aload_n C 1 dL_law_247 rfl ?_
  refine s_iload_n C 0 dL_law_248 rfl ?_
  refine s_iconst (v := 1) C dL_law_249 (by decide) ?_
  refine s_iadd C dL_law_250 ?_
  refine s_sld C hX (j := 5 * i + 1) (nI_add _ _) (by omega) (by omega) dL_law_251 ?_
  refine s_aload_n C 1 dL_law_252 rfl ?_
  refine s_iload_n C 0 dL_law_253 rfl ?_
  refine s_iconst (v := 2) C dL_law_254 (by decide) ?_
  refine s_iadd C dL_law_255 ?_
  refine s_sld C hX (j := 5 * i + 2) (nI_add _ _) (by omega) (by omega) dL_law_256 ?_
  refine s_cV_I (As := [.int (xs (5 * i + 1)), .int (xs (5 * i + 2))]) (rest := []) (ci := 5) (q := 72 * nb + 0) C (c_X5_set l G A ad h a0 ((a0, .inl (G.2 4, 2, .inr (.inr (.inr (.inr (fun j => (kp j).map ad)))))) :: (xM G hm a1 a2 a3 st wt sm ld ln kpM ik)) nb (xs (5 * i + 1)) (xs (5 * i + 2)) sc ar fr r sc' ar' fr' e1) g_RL_30 hd_X5_set rfl ⟨Nat.le_of_ble_eq_true rfl, Nat.le_of_ble_eq_true rfl⟩ rfl (wC_tail 0) rfl (Nat.le_of_ble_eq_true rfl) ⟨by show 80 + 72 * i + 0 ≤ 600000; omega, by show 30000 + 5185 * i + 0 ≤ 7302250; omega⟩ dL_law_257 ?_
  refine St.perm (wL_perm (G := G) (ad := ad) (nb := nb) (h := h) (a0 := a0) (kp := kp) (hm := hm) (a1 := a1) (a2 := a2) (a3 := a3) (sc := sc') (ar := ar') (fr := fr') (st := st) (wt := wt) (sm := sm) (ld := ld) (ln := ln) (kpM := kpM) (ik := ik)) ?_
  refine s_aload_n C 3 dL_law_260 rfl ?_
  refine s_aload_n C 1 dL_law_261 rfl ?_
  refine s_iload_n C 0 dL_law_262 rfl ?_
  refine s_iconst (v := 1) C dL_law_263 (by decide) ?_
  refine s_iadd C dL_law_264 ?_
  refine s_sld C hX (j := 5 * i + 1) (nI_add _ _) (by omega) (by omega) dL_law_265 ?_
  refine s_aload_n C 1 dL_law_266 rfl ?_
  refine s_iload_n C 0 dL_law_267 rfl ?_
  refine s_iconst (v := 2) C dL_law_268 (by decide) ?_
  refine s_iadd C dL_law_269 ?_
  refine s_sld C hX (j := 5 * i + 2) (nI_add _ _) (by omega) (by omega) dL_law_270 ?_
  refine s_cV_I (As := [.int (xs (5 * i + 1)), .int (xs (5 * i + 2))]) (rest := [.int r]) (ci := 6) (q := 0) C (c_X6_set l G A hm a1 a2 a3 ((a2, .inl (G.2 0, 16000, .inl kpM)) :: (a3, .inl (G.2 1, 2, .inl ik)) :: (yC G ad nb h a0 kp sc' ar' fr')) (xs (5 * i + 1)) (xs (5 * i + 2)) st wt sm ld ln r st' wt' sm' ld' ln' e2) g_RL_34 hd_X6_set rfl ⟨Nat.le_of_ble_eq_true rfl, Nat.le_of_ble_eq_true rfl⟩ rfl rfl rfl (Nat.le_of_ble_eq_true rfl) ⟨by show 80 + 72 * i + 0 ≤ 600000; omega, by show 30000 + 5185 * i + 0 ≤ 7302250; omega⟩ dL_law_271 ?_
  refine St.perm (List.Perm.symm (wL_perm (G := G) (ad := ad) (nb := nb) (h := h) (a0 := a0) (kp := kp) (hm := hm) (a1 := a1) (a2 := a2) (a3 := a3) (sc := sc') (ar := ar') (fr := fr') (st := st') (wt := wt') (sm := sm') (ld := ld') (ln := ln') (kpM := kpM) (ik := ik))) ?_
  refine s_icmp_eq C 688 dL_law_274 (by decide) (fun _ => ?_) (fun c => absurd rfl c)
  exact St.widen (by show 80 + 72 * i ≤ _; omega) (by show 30000 + 5185 * i ≤ _; omega) (K ad nb kp sc' ar' fr' st' wt' sm' ld' ln' kpM ik hR')
set_option maxHeartbeats 4000000 in
set_option maxRecDepth 100000 in
theorem lc_tick {l : Launch} {G : GG} {A : Nat → Prop} {Γ : Cx} (C : CX G A Γ code RL room_1 4) {b L : Nat} {xs : Nat → Int32} (hL : L ≤ 2560) (hX : SX A Γ b L xs) {h a0 hm a1 a2 a3 : Nat} (i : Nat) (hi5 : 5 * i + 5 ≤ L) (ad : Nat → Nat) (nb : Nat) (kp : Nat → Option Nat) (sc ar : Nat → Nat → Int32) (fr : Nat → Nat → Nat) (st : Nat → Int32) (wt : Int32) (sm : Int64) (ld ln : Int32) (kpM ik : Nat → Int32) (hR : Rel nb kp sc ar fr st kpM ik) (K : ∀ (ad : Nat → Nat) (nb : Nat) (kp : Nat → Option Nat) (sc ar : Nat → Nat → Int32) (fr : Nat → Nat → Nat) (st : Nat → Int32) (wt : Int32) (sm : Int64) (ld ln : Int32) (kpM ik : Nat → Int32), Rel nb kp sc ar fr st kpM ik → St l G A Γ (80 + 72 * (i + 1)) (30000 + 5185 * (i + 1)) (wL G ad nb h a0 kp hm a1 a2 a3 sc ar fr st wt sm ld ln kpM ik) 688 [(3, .int (nI (5 * i))), (0, .ref b), (1, .ref h), (2, .ref hm)] []) : St l G A Γ (80 + 72 * i) (30000 + 5185 * i) (wL G ad nb h a0 kp hm a1 a2 a3 sc ar fr st wt sm ld ln kpM ik) 279 [(3, .int (nI (5 * i))), (0, .ref b), (1, .ref h), (2, .ref hm)] [] := by
  obtain ⟨r, sc', ar', fr', st', wt', sm', ld', ln', e1, e2, hR'⟩ := sim_tick hR (xs (5 * i + 1)) wt sm ld ln
  refine s_aload_n C 2 dL_law_279 rfl ?_
  refine s_aload_n C 1 dL_law_280 rfl ?_
  refine s_iload_n C 0 dL_law_281 rfl ?_
  refine s_iconst (v := 1) C dL_law_282 (by decide) ?_
  refine s_iadd C dL_law_283 ?_
  refine s_sld C hX (j := 5 * i + 1) (nI_add _ _) (by omega) (by omega) dL_law_284 ?_
  refine s_cV_I (As := [.int (xs (5 * i + 1))]) (rest := []) (ci := 5) (q := 72 * nb + 0) C (c_X5_tick l G A ad h a0 ((a0, .inl (G.2 4, 2, .inr (.inr (.inr (.inr (fun j => (kp j).map ad)))))) :: (xM G hm a1 a2 a3 st wt sm ld ln kpM ik)) nb (xs (5 * i + 1)) sc ar fr r sc' ar' fr' e1) g_RL_35 hd_X5_tick rfl ⟨Nat.le_of_ble_eq_true rfl, Nat.le_of_ble_eq_true rfl⟩ rfl (wC_tail 0) rfl (Nat.le_of_ble_eq_true rfl) ⟨by show 80 + 72 * i + 0 ≤ 600000; omega, by show 30000 + 5185 * i + 0 ≤ 7302250; omega⟩ dL_law_285 ?_
  refine St.perm (wL_perm (G := G) (ad := ad) (nb := nb) (h := h) (a0 := a0) (kp := kp) (hm := hm) (a1 := a1) (a2 := a2) (a3 := a3) (sc := sc') (ar := ar') (fr := fr') (st := st) (wt := wt) (sm := sm) (ld := ld) (ln := ln) (kpM := kpM) (ik := ik)) ?_
  refine s_aload_n C 3 dL_law_288 rfl ?_
  refine s_aload_n C 1 dL_law_289 rfl ?_
  refine s_iload_n C 0 dL_law_290 rfl ?_
  refine s_iconst (v := 1) C dL_law_291 (by decide) ?_
  refine s_iadd C dL_law_292 ?_
  refine s_sld C hX (j := 5 * i + 1) (nI_add _ _) (by omega) (by omega) dL_law_293 ?_
  refine s_cV_I (As := [.int (xs (5 * i + 1))]) (rest := [.int r]) (ci := 6) (q := 0) C (c_X6_tick l G A hm a1 a2 a3 ((a2, .inl (G.2 0, 16000, .inl kpM)) :: (a3, .inl (G.2 1, 2, .inl ik)) :: (yC G ad nb h a0 kp sc' ar' fr')) (xs (5 * i + 1)) st wt sm ld ln r st' wt' sm' ld' ln' e2) g_RL_38 hd_X6_tick rfl ⟨Nat.le_of_ble_eq_true rfl, Nat.le_of_ble_eq_true rfl⟩ rfl rfl rfl (Nat.le_of_ble_eq_true rfl) ⟨by show 80 + 72 * i + 0 ≤ 600000; omega, by show 30000 + 5185 * i + 0 ≤ 7302250; omega⟩ dL_law_294 ?_
  refine St.perm (List.Perm.symm (wL_perm (G := G) (ad := ad) (nb := nb) (h := h) (a0 := a0) (kp := kp) (hm := hm) (a1 := a1) (a2 := a2) (a3 := a3) (sc := sc') (ar := ar') (fr := fr') (st := st') (wt := wt') (sm := sm') (ld := ld') (ln := ln') (kpM := kpM) (ik := ik))) ?_
  refine s_icmp_eq C 688 dL_law_297 (by decide) (fun _ => ?_) (fun c => absurd rfl c)
  exact St.widen (by show 80 + 72 * i ≤ _; omega) (by show 30000 + 5185 * i ≤ _; omega) (K ad nb kp sc' ar' fr' st' wt' sm' ld' ln' kpM ik hR')
set_option maxHeartbeats 4000000 in
set_option maxRecDepth 100000 in
theorem lc_settle {l : Launch} {G : GG} {A : Nat → Prop} {Γ : Cx} (C : CX G A Γ code RL room_1 4) {b L : Nat} {xs : Nat → Int32} (hL : L ≤ 2560) (hX : SX A Γ b L xs) {h a0 hm a1 a2 a3 : Nat} (i : Nat) (hi5 : 5 * i + 5 ≤ L) (ad : Nat → Nat) (nb : Nat) (kp : Nat → Option Nat) (sc ar : Nat → Nat → Int32) (fr : Nat → Nat → Nat) (st : Nat → Int32) (wt : Int32) (sm : Int64) (ld ln : Int32) (kpM ik : Nat → Int32) (hR : Rel nb kp sc ar fr st kpM ik) (K : ∀ (ad : Nat → Nat) (nb : Nat) (kp : Nat → Option Nat) (sc ar : Nat → Nat → Int32) (fr : Nat → Nat → Nat) (st : Nat → Int32) (wt : Int32) (sm : Int64) (ld ln : Int32) (kpM ik : Nat → Int32), Rel nb kp sc ar fr st kpM ik → St l G A Γ (80 + 72 * (i + 1)) (30000 + 5185 * (i + 1)) (wL G ad nb h a0 kp hm a1 a2 a3 sc ar fr st wt sm ld ln kpM ik) 688 [(3, .int (nI (5 * i))), (0, .ref b), (1, .ref h), (2, .ref hm)] []) : St l G A Γ (80 + 72 * i) (30000 + 5185 * i) (wL G ad nb h a0 kp hm a1 a2 a3 sc ar fr st wt sm ld ln kpM ik) 302 [(3, .int (nI (5 * i))), (0, .ref b), (1, .ref h), (2, .ref hm)] [] := by
  obtain ⟨r, sc', ar', fr', st', wt', sm', ld', ln', e1, e2, hR'⟩ := sim_settle hR (xs (5 * i + 1)) wt sm ld ln
  refine s_aload_n C 2 dL_law_302 rfl ?_
  refine s_aload_n C 1 dL_law_303 rfl ?_
  refine s_iload_n C 0 dL_law_304 rfl ?_
  refine s_iconst (v := 1) C dL_law_305 (by decide) ?_
  refine s_iadd C dL_law_306 ?_
  refine s_sld C hX (j := 5 * i + 1) (nI_add _ _) (by omega) (by omega) dL_law_307 ?_
  refine s_cV_I (As := [.int (xs (5 * i + 1))]) (rest := []) (ci := 5) (q := 72 * nb + 0) C (c_X5_settle l G A ad h a0 ((a0, .inl (G.2 4, 2, .inr (.inr (.inr (.inr (fun j => (kp j).map ad)))))) :: (xM G hm a1 a2 a3 st wt sm ld ln kpM ik)) nb (xs (5 * i + 1)) sc ar fr r sc' ar' fr' e1) g_RL_39 hd_X5_settle rfl ⟨Nat.le_of_ble_eq_true rfl, Nat.le_of_ble_eq_true rfl⟩ rfl (wC_tail 0) rfl (Nat.le_of_ble_eq_true rfl) ⟨by show 80 + 72 * i + 0 ≤ 600000; omega, by show 30000 + 5185 * i + 0 ≤ 7302250; omega⟩ dL_law_308 ?_
  refine St.perm (wL_perm (G := G) (ad := ad) (nb := nb) (h := h) (a0 := a0) (kp := kp) (hm := hm) (a1 := a1) (a2 := a2) (a3 := a3) (sc := sc') (ar := ar') (fr := fr') (st := st) (wt := wt) (sm := sm) (ld := ld) (ln := ln) (kpM := kpM) (ik := ik)) ?_
  refine s_aload_n C 3 dL_law_311 rfl ?_
  refine s_aload_n C 1 dL_law_312 rfl ?_
  refine s_iload_n C 0 dL_law_313 rfl ?_
  refine s_iconst (v := 1) C dL_law_314 (by decide) ?_
  refine s_iadd C dL_law_315 ?_
  refine s_sld C hX (j := 5 * i + 1) (nI_add _ _) (by omega) (by omega) dL_law_316 ?_
  refine s_cV_I (As := [.int (xs (5 * i + 1))]) (rest := [.int r]) (ci := 6) (q := 0) C (c_X6_settle l G A hm a1 a2 a3 ((a2, .inl (G.2 0, 16000, .inl kpM)) :: (a3, .inl (G.2 1, 2, .inl ik)) :: (yC G ad nb h a0 kp sc' ar' fr')) (xs (5 * i + 1)) st wt sm ld ln r st' wt' sm' ld' ln' e2) g_RL_42 hd_X6_settle rfl ⟨Nat.le_of_ble_eq_true rfl, Nat.le_of_ble_eq_true rfl⟩ rfl rfl rfl (Nat.le_of_ble_eq_true rfl) ⟨by show 80 + 72 * i + 0 ≤ 600000; omega, by show 30000 + 5185 * i + 0 ≤ 7302250; omega⟩ dL_law_317 ?_
  refine St.perm (List.Perm.symm (wL_perm (G := G) (ad := ad) (nb := nb) (h := h) (a0 := a0) (kp := kp) (hm := hm) (a1 := a1) (a2 := a2) (a3 := a3) (sc := sc') (ar := ar') (fr := fr') (st := st') (wt := wt') (sm := sm') (ld := ld') (ln := ln') (kpM := kpM) (ik := ik))) ?_
  refine s_icmp_eq C 688 dL_law_320 (by decide) (fun _ => ?_) (fun c => absurd rfl c)
  exact St.widen (by show 80 + 72 * i ≤ _; omega) (by show 30000 + 5185 * i ≤ _; omega) (K ad nb kp sc' ar' fr' st' wt' sm' ld' ln' kpM ik hR')
set_option maxHeartbeats 4000000 in
set_option maxRecDepth 100000 in
theorem lc_voids {l : Launch} {G : GG} {A : Nat → Prop} {Γ : Cx} (C : CX G A Γ code RL room_1 4) {b L : Nat} {xs : Nat → Int32} (hL : L ≤ 2560) (hX : SX A Γ b L xs) {h a0 hm a1 a2 a3 : Nat} (i : Nat) (hi5 : 5 * i + 5 ≤ L) (ad : Nat → Nat) (nb : Nat) (kp : Nat → Option Nat) (sc ar : Nat → Nat → Int32) (fr : Nat → Nat → Nat) (st : Nat → Int32) (wt : Int32) (sm : Int64) (ld ln : Int32) (kpM ik : Nat → Int32) (hR : Rel nb kp sc ar fr st kpM ik) (K : ∀ (ad : Nat → Nat) (nb : Nat) (kp : Nat → Option Nat) (sc ar : Nat → Nat → Int32) (fr : Nat → Nat → Nat) (st : Nat → Int32) (wt : Int32) (sm : Int64) (ld ln : Int32) (kpM ik : Nat → Int32), Rel nb kp sc ar fr st kpM ik → St l G A Γ (80 + 72 * (i + 1)) (30000 + 5185 * (i + 1)) (wL G ad nb h a0 kp hm a1 a2 a3 sc ar fr st wt sm ld ln kpM ik) 688 [(3, .int (nI (5 * i))), (0, .ref b), (1, .ref h), (2, .ref hm)] []) : St l G A Γ (80 + 72 * i) (30000 + 5185 * i) (wL G ad nb h a0 kp hm a1 a2 a3 sc ar fr st wt sm ld ln kpM ik) 325 [(3, .int (nI (5 * i))), (0, .ref b), (1, .ref h), (2, .ref hm)] [] := by
  obtain ⟨r, sc', ar', fr', st', wt', sm', ld', ln', e1, e2, hR'⟩ := sim_voids hR (xs (5 * i + 1)) wt sm ld ln
  refine s_aload_n C 2 dL_law_325 rfl ?_
  refine s_aload_n C 1 dL_law_326 rfl ?_
  refine s_iload_n C 0 dL_law_327 rfl ?_
  refine s_iconst (v := 1) C dL_law_328 (by decide) ?_
  refine s_iadd C dL_law_329 ?_
  refine s_sld C hX (j := 5 * i + 1) (nI_add _ _) (by omega) (by omega) dL_law_330 ?_
  refine s_cV_I (As := [.int (xs (5 * i + 1))]) (rest := []) (ci := 5) (q := 72 * nb + 0) C (c_X5_voids l G A ad h a0 ((a0, .inl (G.2 4, 2, .inr (.inr (.inr (.inr (fun j => (kp j).map ad)))))) :: (xM G hm a1 a2 a3 st wt sm ld ln kpM ik)) nb (xs (5 * i + 1)) sc ar fr r sc' ar' fr' e1) g_RL_43 hd_X5_voids rfl ⟨Nat.le_of_ble_eq_true rfl, Nat.le_of_ble_eq_true rfl⟩ rfl (wC_tail 0) rfl (Nat.le_of_ble_eq_true rfl) ⟨by show 80 + 72 * i + 0 ≤ 600000; omega, by show 30000 + 5185 * i + 0 ≤ 7302250; omega⟩ dL_law_331 ?_
  refine St.perm (wL_perm (G := G) (ad := ad) (nb := nb) (h := h) (a0 := a0) (kp := kp) (hm := hm) (a1 := a1) (a2 := a2) (a3 := a3) (sc := sc') (ar := ar') (fr := fr') (st := st) (wt := wt) (sm := sm) (ld := ld) (ln := ln) (kpM := kpM) (ik := ik)) ?_
  refine s_aload_n C 3 dL_law_334 rfl ?_
  refine s_aload_n C 1 dL_law_335 rfl ?_
  refine s_iload_n C 0 dL_law_336 rfl ?_
  refine s_iconst (v := 1) C dL_law_337 (by decide) ?_
  refine s_iadd C dL_law_338 ?_
  refine s_sld C hX (j := 5 * i + 1) (nI_add _ _) (by omega) (by omega) dL_law_339 ?_
  refine s_cV_I (As := [.int (xs (5 * i + 1))]) (rest := [.int r]) (ci := 6) (q := 0) C (c_X6_voids l G A hm a1 a2 a3 ((a2, .inl (G.2 0, 16000, .inl kpM)) :: (a3, .inl (G.2 1, 2, .inl ik)) :: (yC G ad nb h a0 kp sc' ar' fr')) (xs (5 * i + 1)) st wt sm ld ln r st' wt' sm' ld' ln' e2) g_RL_46 hd_X6_voids rfl ⟨Nat.le_of_ble_eq_true rfl, Nat.le_of_ble_eq_true rfl⟩ rfl rfl rfl (Nat.le_of_ble_eq_true rfl) ⟨by show 80 + 72 * i + 0 ≤ 600000; omega, by show 30000 + 5185 * i + 0 ≤ 7302250; omega⟩ dL_law_340 ?_
  refine St.perm (List.Perm.symm (wL_perm (G := G) (ad := ad) (nb := nb) (h := h) (a0 := a0) (kp := kp) (hm := hm) (a1 := a1) (a2 := a2) (a3 := a3) (sc := sc') (ar := ar') (fr := fr') (st := st') (wt := wt') (sm := sm') (ld := ld') (ln := ln') (kpM := kpM) (ik := ik))) ?_
  refine s_icmp_eq C 688 dL_law_343 (by decide) (fun _ => ?_) (fun c => absurd rfl c)
  exact St.widen (by show 80 + 72 * i ≤ _; omega) (by show 30000 + 5185 * i ≤ _; omega) (K ad nb kp sc' ar' fr' st' wt' sm' ld' ln' kpM ik hR')
set_option maxHeartbeats 4000000 in
set_option maxRecDepth 100000 in
theorem lc_bend {l : Launch} {G : GG} {A : Nat → Prop} {Γ : Cx} (C : CX G A Γ code RL room_1 4) {b L : Nat} {xs : Nat → Int32} (hL : L ≤ 2560) (hX : SX A Γ b L xs) {h a0 hm a1 a2 a3 : Nat} (i : Nat) (hi5 : 5 * i + 5 ≤ L) (ad : Nat → Nat) (nb : Nat) (kp : Nat → Option Nat) (sc ar : Nat → Nat → Int32) (fr : Nat → Nat → Nat) (st : Nat → Int32) (wt : Int32) (sm : Int64) (ld ln : Int32) (kpM ik : Nat → Int32) (hR : Rel nb kp sc ar fr st kpM ik) (K : ∀ (ad : Nat → Nat) (nb : Nat) (kp : Nat → Option Nat) (sc ar : Nat → Nat → Int32) (fr : Nat → Nat → Nat) (st : Nat → Int32) (wt : Int32) (sm : Int64) (ld ln : Int32) (kpM ik : Nat → Int32), Rel nb kp sc ar fr st kpM ik → St l G A Γ (80 + 72 * (i + 1)) (30000 + 5185 * (i + 1)) (wL G ad nb h a0 kp hm a1 a2 a3 sc ar fr st wt sm ld ln kpM ik) 688 [(3, .int (nI (5 * i))), (0, .ref b), (1, .ref h), (2, .ref hm)] []) : St l G A Γ (80 + 72 * i) (30000 + 5185 * i) (wL G ad nb h a0 kp hm a1 a2 a3 sc ar fr st wt sm ld ln kpM ik) 348 [(3, .int (nI (5 * i))), (0, .ref b), (1, .ref h), (2, .ref hm)] [] := by
  obtain ⟨r, sc', ar', fr', st', wt', sm', ld', ln', e1, e2, hR'⟩ := sim_bend hR (xs (5 * i + 1)) (xs (5 * i + 2)) (xs (5 * i + 3)) (xs (5 * i + 4)) wt sm ld ln
  refine s_aload_n C 2 dL_law_348 rfl ?_
  refine s_aload_n C 1 dL_law_349 rfl ?_
  refine s_iload_n C 0 dL_law_350 rfl ?_
  refine s_iconst (v := 1) C dL_law_351 (by decide) ?_
  refine s_iadd C dL_law_352 ?_
  refine s_sld C hX (j := 5 * i + 1) (nI_add _ _) (by omega) (by omega) dL_law_353 ?_
  refine s_aload_n C 1 dL_law_354 rfl ?_
  refine s_iload_n C 0 dL_law_355 rfl ?_
  refine s_iconst (v := 2) C dL_law_356 (by decide) ?_
  refine s_iadd C dL_law_357 ?_
  refine s_sld C hX (j := 5 * i + 2) (nI_add _ _) (by omega) (by omega) dL_law_358 ?_
  refine s_aload_n C 1 dL_law_359 rfl ?_
  refine s_iload_n C 0 dL_law_360 rfl ?_
  refine s_iconst (v := 3) C dL_law_361 (by decide) ?_
  refine s_iadd C dL_law_362 ?_
  refine s_sld C hX (j := 5 * i + 3) (nI_add _ _) (by omega) (by omega) dL_law_363 ?_
  refine s_aload_n C 1 dL_law_364 rfl ?_
  refine s_iload_n C 0 dL_law_365 rfl ?_
  refine s_iconst (v := 4) C dL_law_366 (by decide) ?_
  refine s_iadd C dL_law_367 ?_
  refine s_sld C hX (j := 5 * i + 4) (nI_add _ _) (by omega) (by omega) dL_law_368 ?_
  refine s_cV_I (As := [.int (xs (5 * i + 1)), .int (xs (5 * i + 2)), .int (xs (5 * i + 3)), .int (xs (5 * i + 4))]) (rest := []) (ci := 5) (q := 72 * nb + 0) C (c_X5_bend l G A ad h a0 ((a0, .inl (G.2 4, 2, .inr (.inr (.inr (.inr (fun j => (kp j).map ad)))))) :: (xM G hm a1 a2 a3 st wt sm ld ln kpM ik)) nb (xs (5 * i + 1)) (xs (5 * i + 2)) (xs (5 * i + 3)) (xs (5 * i + 4)) sc ar fr r sc' ar' fr' e1) g_RL_47 hd_X5_bend rfl ⟨Nat.le_of_ble_eq_true rfl, Nat.le_of_ble_eq_true rfl⟩ rfl (wC_tail 0) rfl (Nat.le_of_ble_eq_true rfl) ⟨by show 80 + 72 * i + 0 ≤ 600000; omega, by show 30000 + 5185 * i + 0 ≤ 7302250; omega⟩ dL_law_369 ?_
  refine St.perm (wL_perm (G := G) (ad := ad) (nb := nb) (h := h) (a0 := a0) (kp := kp) (hm := hm) (a1 := a1) (a2 := a2) (a3 := a3) (sc := sc') (ar := ar') (fr := fr') (st := st) (wt := wt) (sm := sm) (ld := ld) (ln := ln) (kpM := kpM) (ik := ik)) ?_
  refine s_aload_n C 3 dL_law_372 rfl ?_
  refine s_aload_n C 1 dL_law_373 rfl ?_
  refine s_iload_n C 0 dL_law_374 rfl ?_
  refine s_iconst (v := 1) C dL_law_375 (by decide) ?_
  refine s_iadd C dL_law_376 ?_
  refine s_sld C hX (j := 5 * i + 1) (nI_add _ _) (by omega) (by omega) dL_law_377 ?_
  refine s_aload_n C 1 dL_law_378 rfl ?_
  refine s_iload_n C 0 dL_law_379 rfl ?_
  refine s_iconst (v := 2) C dL_law_380 (by decide) ?_
  refine s_iadd C dL_law_381 ?_
  refine s_sld C hX (j := 5 * i + 2) (nI_add _ _) (by omega) (by omega) dL_law_382 ?_
  refine s_aload_n C 1 dL_law_383 rfl ?_
  refine s_iload_n C 0 dL_law_384 rfl ?_
  refine s_iconst (v := 3) C dL_law_385 (by decide) ?_
  refine s_iadd C dL_law_386 ?_
  refine s_sld C hX (j := 5 * i + 3) (nI_add _ _) (by omega) (by omega) dL_law_387 ?_
  refine s_aload_n C 1 dL_law_388 rfl ?_
  refine s_iload_n C 0 dL_law_389 rfl ?_
  refine s_iconst (v := 4) C dL_law_390 (by decide) ?_
  refine s_iadd C dL_law_391 ?_
  refine s_sld C hX (j := 5 * i + 4) (nI_add _ _) (by omega) (by omega) dL_law_392 ?_
  refine s_cV_I (As := [.int (xs (5 * i + 1)), .int (xs (5 * i + 2)), .int (xs (5 * i + 3)), .int (xs (5 * i + 4))]) (rest := [.int r]) (ci := 6) (q := 0) C (c_X6_bend l G A hm a1 a2 a3 ((a2, .inl (G.2 0, 16000, .inl kpM)) :: (a3, .inl (G.2 1, 2, .inl ik)) :: (yC G ad nb h a0 kp sc' ar' fr')) (xs (5 * i + 1)) (xs (5 * i + 2)) (xs (5 * i + 3)) (xs (5 * i + 4)) st wt sm ld ln r st' wt' sm' ld' ln' e2) g_RL_51 hd_X6_bend rfl ⟨Nat.le_of_ble_eq_true rfl, Nat.le_of_ble_eq_true rfl⟩ rfl rfl rfl (Nat.le_of_ble_eq_true rfl) ⟨by show 80 + 72 * i + 0 ≤ 600000; omega, by show 30000 + 5185 * i + 0 ≤ 7302250; omega⟩ dL_law_393 ?_
  refine St.perm (List.Perm.symm (wL_perm (G := G) (ad := ad) (nb := nb) (h := h) (a0 := a0) (kp := kp) (hm := hm) (a1 := a1) (a2 := a2) (a3 := a3) (sc := sc') (ar := ar') (fr := fr') (st := st') (wt := wt') (sm := sm') (ld := ld') (ln := ln') (kpM := kpM) (ik := ik))) ?_
  refine s_icmp_eq C 688 dL_law_396 (by decide) (fun _ => ?_) (fun c => absurd rfl c)
  exact St.widen (by show 80 + 72 * i ≤ _; omega) (by show 30000 + 5185 * i ≤ _; omega) (K ad nb kp sc' ar' fr' st' wt' sm' ld' ln' kpM ik hR')
set_option maxHeartbeats 4000000 in
set_option maxRecDepth 100000 in
theorem lc_lose {l : Launch} {G : GG} {A : Nat → Prop} {Γ : Cx} (C : CX G A Γ code RL room_1 4) {b L : Nat} {xs : Nat → Int32} (hL : L ≤ 2560) (hX : SX A Γ b L xs) {h a0 hm a1 a2 a3 : Nat} (i : Nat) (hi5 : 5 * i + 5 ≤ L) (ad : Nat → Nat) (nb : Nat) (kp : Nat → Option Nat) (sc ar : Nat → Nat → Int32) (fr : Nat → Nat → Nat) (st : Nat → Int32) (wt : Int32) (sm : Int64) (ld ln : Int32) (kpM ik : Nat → Int32) (hR : Rel nb kp sc ar fr st kpM ik) (K : ∀ (ad : Nat → Nat) (nb : Nat) (kp : Nat → Option Nat) (sc ar : Nat → Nat → Int32) (fr : Nat → Nat → Nat) (st : Nat → Int32) (wt : Int32) (sm : Int64) (ld ln : Int32) (kpM ik : Nat → Int32), Rel nb kp sc ar fr st kpM ik → St l G A Γ (80 + 72 * (i + 1)) (30000 + 5185 * (i + 1)) (wL G ad nb h a0 kp hm a1 a2 a3 sc ar fr st wt sm ld ln kpM ik) 688 [(3, .int (nI (5 * i))), (0, .ref b), (1, .ref h), (2, .ref hm)] []) : St l G A Γ (80 + 72 * i) (30000 + 5185 * i) (wL G ad nb h a0 kp hm a1 a2 a3 sc ar fr st wt sm ld ln kpM ik) 401 [(3, .int (nI (5 * i))), (0, .ref b), (1, .ref h), (2, .ref hm)] [] := by
  obtain ⟨r, sc', ar', fr', st', wt', sm', ld', ln', e1, e2, hR'⟩ := sim_lose hR (xs (5 * i + 1)) (xs (5 * i + 2)) wt sm ld ln
  refine s_aload_n C 2 dL_law_401 rfl ?_
  refine s_aload_n C 1 dL_law_402 rfl ?_
  refine s_iload_n C 0 dL_law_403 rfl ?_
  refine s_iconst (v := 1) C dL_law_404 (by decide) ?_
  refine s_iadd C dL_law_405 ?_
  refine s_sld C hX (j := 5 * i + 1) (nI_add _ _) (by omega) (by omega) dL_law_406 ?_
  refine s_aload_n C 1 dL_law_407 rfl ?_
  refine s_iload_n C 0 dL_law_408 rfl ?_
  refine s_iconst (v := 2) C dL_law_409 (by decide) ?_
  refine s_iadd C dL_law_410 ?_
  refine s_sld C hX (j := 5 * i + 2) (nI_add _ _) (by omega) (by omega) dL_law_411 ?_
  refine s_cV_I (As := [.int (xs (5 * i + 1)), .int (xs (5 * i + 2))]) (rest := []) (ci := 5) (q := 72 * nb + 0) C (c_X5_lose l G A ad h a0 ((a0, .inl (G.2 4, 2, .inr (.inr (.inr (.inr (fun j => (kp j).map ad)))))) :: (xM G hm a1 a2 a3 st wt sm ld ln kpM ik)) nb (xs (5 * i + 1)) (xs (5 * i + 2)) sc ar fr r sc' ar' fr' e1) g_RL_52 hd_X5_lose rfl ⟨Nat.le_of_ble_eq_true rfl, Nat.le_of_ble_eq_true rfl⟩ rfl (wC_tail 0) rfl (Nat.le_of_ble_eq_true rfl) ⟨by show 80 + 72 * i + 0 ≤ 600000; omega, by show 30000 + 5185 * i + 0 ≤ 7302250; omega⟩ dL_law_412 ?_
  refine St.perm (wL_perm (G := G) (ad := ad) (nb := nb) (h := h) (a0 := a0) (kp := kp) (hm := hm) (a1 := a1) (a2 := a2) (a3 := a3) (sc := sc') (ar := ar') (fr := fr') (st := st) (wt := wt) (sm := sm) (ld := ld) (ln := ln) (kpM := kpM) (ik := ik)) ?_
  refine s_aload_n C 3 dL_law_415 rfl ?_
  refine s_aload_n C 1 dL_law_416 rfl ?_
  refine s_iload_n C 0 dL_law_417 rfl ?_
  refine s_iconst (v := 1) C dL_law_418 (by decide) ?_
  refine s_iadd C dL_law_419 ?_
  refine s_sld C hX (j := 5 * i + 1) (nI_add _ _) (by omega) (by omega) dL_law_420 ?_
  refine s_aload_n C 1 dL_law_421 rfl ?_
  refine s_iload_n C 0 dL_law_422 rfl ?_
  refine s_iconst (v := 2) C dL_law_423 (by decide) ?_
  refine s_iadd C dL_law_424 ?_
  refine s_sld C hX (j := 5 * i + 2) (nI_add _ _) (by omega) (by omega) dL_law_425 ?_
  refine s_cV_I (As := [.int (xs (5 * i + 1)), .int (xs (5 * i + 2))]) (rest := [.int r]) (ci := 6) (q := 0) C (c_X6_lose l G A hm a1 a2 a3 ((a2, .inl (G.2 0, 16000, .inl kpM)) :: (a3, .inl (G.2 1, 2, .inl ik)) :: (yC G ad nb h a0 kp sc' ar' fr')) (xs (5 * i + 1)) (xs (5 * i + 2)) st wt sm ld ln r st' wt' sm' ld' ln' e2) g_RL_55 hd_X6_lose rfl ⟨Nat.le_of_ble_eq_true rfl, Nat.le_of_ble_eq_true rfl⟩ rfl rfl rfl (Nat.le_of_ble_eq_true rfl) ⟨by show 80 + 72 * i + 0 ≤ 600000; omega, by show 30000 + 5185 * i + 0 ≤ 7302250; omega⟩ dL_law_426 ?_
  refine St.perm (List.Perm.symm (wL_perm (G := G) (ad := ad) (nb := nb) (h := h) (a0 := a0) (kp := kp) (hm := hm) (a1 := a1) (a2 := a2) (a3 := a3) (sc := sc') (ar := ar') (fr := fr') (st := st') (wt := wt') (sm := sm') (ld := ld') (ln := ln') (kpM := kpM) (ik := ik))) ?_
  refine s_icmp_eq C 688 dL_law_429 (by decide) (fun _ => ?_) (fun c => absurd rfl c)
  exact St.widen (by show 80 + 72 * i ≤ _; omega) (by show 30000 + 5185 * i ≤ _; omega) (K ad nb kp sc' ar' fr' st' wt' sm' ld' ln' kpM ik hR')
set_option maxHeartbeats 4000000 in
set_option maxRecDepth 100000 in
theorem lc_twice {l : Launch} {G : GG} {A : Nat → Prop} {Γ : Cx} (C : CX G A Γ code RL room_1 4) {b L : Nat} {xs : Nat → Int32} (hL : L ≤ 2560) (hX : SX A Γ b L xs) {h a0 hm a1 a2 a3 : Nat} (i : Nat) (hi5 : 5 * i + 5 ≤ L) (ad : Nat → Nat) (nb : Nat) (kp : Nat → Option Nat) (sc ar : Nat → Nat → Int32) (fr : Nat → Nat → Nat) (st : Nat → Int32) (wt : Int32) (sm : Int64) (ld ln : Int32) (kpM ik : Nat → Int32) (hR : Rel nb kp sc ar fr st kpM ik) (K : ∀ (ad : Nat → Nat) (nb : Nat) (kp : Nat → Option Nat) (sc ar : Nat → Nat → Int32) (fr : Nat → Nat → Nat) (st : Nat → Int32) (wt : Int32) (sm : Int64) (ld ln : Int32) (kpM ik : Nat → Int32), Rel nb kp sc ar fr st kpM ik → St l G A Γ (80 + 72 * (i + 1)) (30000 + 5185 * (i + 1)) (wL G ad nb h a0 kp hm a1 a2 a3 sc ar fr st wt sm ld ln kpM ik) 688 [(3, .int (nI (5 * i))), (0, .ref b), (1, .ref h), (2, .ref hm)] []) : St l G A Γ (80 + 72 * i) (30000 + 5185 * i) (wL G ad nb h a0 kp hm a1 a2 a3 sc ar fr st wt sm ld ln kpM ik) 434 [(3, .int (nI (5 * i))), (0, .ref b), (1, .ref h), (2, .ref hm)] [] := by
  obtain ⟨r, sc', ar', fr', st', wt', sm', ld', ln', e1, e2, hR'⟩ := sim_twice hR (xs (5 * i + 1)) (xs (5 * i + 2)) wt sm ld ln
  refine s_aload_n C 2 dL_law_434 rfl ?_
  refine s_aload_n C 1 dL_law_435 rfl ?_
  refine s_iload_n C 0 dL_law_436 rfl ?_
  refine s_iconst (v := 1) C dL_law_437 (by decide) ?_
  refine s_iadd C dL_law_438 ?_
  refine s_sld C hX (j := 5 * i + 1) (nI_add _ _) (by omega) (by omega) dL_law_439 ?_
  refine s_aload_n C 1 dL_law_440 rfl ?_
  refine s_iload_n C 0 dL_law_441 rfl ?_
  refine s_iconst (v := 2) C dL_law_442 (by decide) ?_
  refine s_iadd C dL_law_443 ?_
  refine s_sld C hX (j := 5 * i + 2) (nI_add _ _) (by omega) (by omega) dL_law_444 ?_
  refine s_cV_I (As := [.int (xs (5 * i + 1)), .int (xs (5 * i + 2))]) (rest := []) (ci := 5) (q := 72 * nb + 0) C (c_X5_twice l G A ad h a0 ((a0, .inl (G.2 4, 2, .inr (.inr (.inr (.inr (fun j => (kp j).map ad)))))) :: (xM G hm a1 a2 a3 st wt sm ld ln kpM ik)) nb (xs (5 * i + 1)) (xs (5 * i + 2)) sc ar fr r sc' ar' fr' e1) g_RL_56 hd_X5_twice rfl ⟨Nat.le_of_ble_eq_true rfl, Nat.le_of_ble_eq_true rfl⟩ rfl (wC_tail 0) rfl (Nat.le_of_ble_eq_true rfl) ⟨by show 80 + 72 * i + 0 ≤ 600000; omega, by show 30000 + 5185 * i + 0 ≤ 7302250; omega⟩ dL_law_445 ?_
  refine St.perm (wL_perm (G := G) (ad := ad) (nb := nb) (h := h) (a0 := a0) (kp := kp) (hm := hm) (a1 := a1) (a2 := a2) (a3 := a3) (sc := sc') (ar := ar') (fr := fr') (st := st) (wt := wt) (sm := sm) (ld := ld) (ln := ln) (kpM := kpM) (ik := ik)) ?_
  refine s_aload_n C 3 dL_law_448 rfl ?_
  refine s_aload_n C 1 dL_law_449 rfl ?_
  refine s_iload_n C 0 dL_law_450 rfl ?_
  refine s_iconst (v := 1) C dL_law_451 (by decide) ?_
  refine s_iadd C dL_law_452 ?_
  refine s_sld C hX (j := 5 * i + 1) (nI_add _ _) (by omega) (by omega) dL_law_453 ?_
  refine s_aload_n C 1 dL_law_454 rfl ?_
  refine s_iload_n C 0 dL_law_455 rfl ?_
  refine s_iconst (v := 2) C dL_law_456 (by decide) ?_
  refine s_iadd C dL_law_457 ?_
  refine s_sld C hX (j := 5 * i + 2) (nI_add _ _) (by omega) (by omega) dL_law_458 ?_
  refine s_cV_I (As := [.int (xs (5 * i + 1)), .int (xs (5 * i + 2))]) (rest := [.int r]) (ci := 6) (q := 0) C (c_X6_twice l G A hm a1 a2 a3 ((a2, .inl (G.2 0, 16000, .inl kpM)) :: (a3, .inl (G.2 1, 2, .inl ik)) :: (yC G ad nb h a0 kp sc' ar' fr')) (xs (5 * i + 1)) (xs (5 * i + 2)) st wt sm ld ln r st' wt' sm' ld' ln' e2) g_RL_59 hd_X6_twice rfl ⟨Nat.le_of_ble_eq_true rfl, Nat.le_of_ble_eq_true rfl⟩ rfl rfl rfl (Nat.le_of_ble_eq_true rfl) ⟨by show 80 + 72 * i + 0 ≤ 600000; omega, by show 30000 + 5185 * i + 0 ≤ 7302250; omega⟩ dL_law_459 ?_
  refine St.perm (List.Perm.symm (wL_perm (G := G) (ad := ad) (nb := nb) (h := h) (a0 := a0) (kp := kp) (hm := hm) (a1 := a1) (a2 := a2) (a3 := a3) (sc := sc') (ar := ar') (fr := fr') (st := st') (wt := wt') (sm := sm') (ld := ld') (ln := ln') (kpM := kpM) (ik := ik))) ?_
  refine s_icmp_eq C 688 dL_law_462 (by decide) (fun _ => ?_) (fun c => absurd rfl c)
  exact St.widen (by show 80 + 72 * i ≤ _; omega) (by show 30000 + 5185 * i ≤ _; omega) (K ad nb kp sc' ar' fr' st' wt' sm' ld' ln' kpM ik hR')
set_option maxHeartbeats 4000000 in
set_option maxRecDepth 100000 in
theorem lc_wire {l : Launch} {G : GG} {A : Nat → Prop} {Γ : Cx} (C : CX G A Γ code RL room_1 4) {b L : Nat} {xs : Nat → Int32} (hL : L ≤ 2560) (hX : SX A Γ b L xs) {h a0 hm a1 a2 a3 : Nat} (i : Nat) (hi5 : 5 * i + 5 ≤ L) (ad : Nat → Nat) (nb : Nat) (kp : Nat → Option Nat) (sc ar : Nat → Nat → Int32) (fr : Nat → Nat → Nat) (st : Nat → Int32) (wt : Int32) (sm : Int64) (ld ln : Int32) (kpM ik : Nat → Int32) (hR : Rel nb kp sc ar fr st kpM ik) (K : ∀ (ad : Nat → Nat) (nb : Nat) (kp : Nat → Option Nat) (sc ar : Nat → Nat → Int32) (fr : Nat → Nat → Nat) (st : Nat → Int32) (wt : Int32) (sm : Int64) (ld ln : Int32) (kpM ik : Nat → Int32), Rel nb kp sc ar fr st kpM ik → St l G A Γ (80 + 72 * (i + 1)) (30000 + 5185 * (i + 1)) (wL G ad nb h a0 kp hm a1 a2 a3 sc ar fr st wt sm ld ln kpM ik) 688 [(3, .int (nI (5 * i))), (0, .ref b), (1, .ref h), (2, .ref hm)] []) : St l G A Γ (80 + 72 * i) (30000 + 5185 * i) (wL G ad nb h a0 kp hm a1 a2 a3 sc ar fr st wt sm ld ln kpM ik) 467 [(3, .int (nI (5 * i))), (0, .ref b), (1, .ref h), (2, .ref hm)] [] := by
  obtain ⟨r, sc', ar', fr', st', wt', sm', ld', ln', e1, e2, hR'⟩ := sim_wire hR (xs (5 * i + 1)) (xs (5 * i + 2)) (xs (5 * i + 3)) wt sm ld ln
  refine s_aload_n C 2 dL_law_467 rfl ?_
  refine s_aload_n C 1 dL_law_468 rfl ?_
  refine s_iload_n C 0 dL_law_469 rfl ?_
  refine s_iconst (v := 1) C dL_law_470 (by decide) ?_
  refine s_iadd C dL_law_471 ?_
  refine s_sld C hX (j := 5 * i + 1) (nI_add _ _) (by omega) (by omega) dL_law_472 ?_
  refine s_aload_n C 1 dL_law_473 rfl ?_
  refine s_iload_n C 0 dL_law_474 rfl ?_
  refine s_iconst (v := 2) C dL_law_475 (by decide) ?_
  refine s_iadd C dL_law_476 ?_
  refine s_sld C hX (j := 5 * i + 2) (nI_add _ _) (by omega) (by omega) dL_law_477 ?_
  refine s_aload_n C 1 dL_law_478 rfl ?_
  refine s_iload_n C 0 dL_law_479 rfl ?_
  refine s_iconst (v := 3) C dL_law_480 (by decide) ?_
  refine s_iadd C dL_law_481 ?_
  refine s_sld C hX (j := 5 * i + 3) (nI_add _ _) (by omega) (by omega) dL_law_482 ?_
  refine s_cV_I (As := [.int (xs (5 * i + 1)), .int (xs (5 * i + 2)), .int (xs (5 * i + 3))]) (rest := []) (ci := 5) (q := 72 * nb + 0) C (c_X5_wire l G A ad h a0 ((a0, .inl (G.2 4, 2, .inr (.inr (.inr (.inr (fun j => (kp j).map ad)))))) :: (xM G hm a1 a2 a3 st wt sm ld ln kpM ik)) nb (xs (5 * i + 1)) (xs (5 * i + 2)) (xs (5 * i + 3)) sc ar fr r sc' ar' fr' e1) g_RL_60 hd_X5_wire rfl ⟨Nat.le_of_ble_eq_true rfl, Nat.le_of_ble_eq_true rfl⟩ rfl (wC_tail 0) rfl (Nat.le_of_ble_eq_true rfl) ⟨by show 80 + 72 * i + 0 ≤ 600000; omega, by show 30000 + 5185 * i + 0 ≤ 7302250; omega⟩ dL_law_483 ?_
  refine St.perm (wL_perm (G := G) (ad := ad) (nb := nb) (h := h) (a0 := a0) (kp := kp) (hm := hm) (a1 := a1) (a2 := a2) (a3 := a3) (sc := sc') (ar := ar') (fr := fr') (st := st) (wt := wt) (sm := sm) (ld := ld) (ln := ln) (kpM := kpM) (ik := ik)) ?_
  refine s_aload_n C 3 dL_law_486 rfl ?_
  refine s_aload_n C 1 dL_law_487 rfl ?_
  refine s_iload_n C 0 dL_law_488 rfl ?_
  refine s_iconst (v := 1) C dL_law_489 (by decide) ?_
  refine s_iadd C dL_law_490 ?_
  refine s_sld C hX (j := 5 * i + 1) (nI_add _ _) (by omega) (by omega) dL_law_491 ?_
  refine s_aload_n C 1 dL_law_492 rfl ?_
  refine s_iload_n C 0 dL_law_493 rfl ?_
  refine s_iconst (v := 2) C dL_law_494 (by decide) ?_
  refine s_iadd C dL_law_495 ?_
  refine s_sld C hX (j := 5 * i + 2) (nI_add _ _) (by omega) (by omega) dL_law_496 ?_
  refine s_aload_n C 1 dL_law_497 rfl ?_
  refine s_iload_n C 0 dL_law_498 rfl ?_
  refine s_iconst (v := 3) C dL_law_499 (by decide) ?_
  refine s_iadd C dL_law_500 ?_
  refine s_sld C hX (j := 5 * i + 3) (nI_add _ _) (by omega) (by omega) dL_law_501 ?_
  refine s_cV_I (As := [.int (xs (5 * i + 1)), .int (xs (5 * i + 2)), .int (xs (5 * i + 3))]) (rest := [.int r]) (ci := 6) (q := 0) C (c_X6_wire l G A hm a1 a2 a3 ((a2, .inl (G.2 0, 16000, .inl kpM)) :: (a3, .inl (G.2 1, 2, .inl ik)) :: (yC G ad nb h a0 kp sc' ar' fr')) (xs (5 * i + 1)) (xs (5 * i + 2)) (xs (5 * i + 3)) st wt sm ld ln r st' wt' sm' ld' ln' e2) g_RL_64 hd_X6_wire rfl ⟨Nat.le_of_ble_eq_true rfl, Nat.le_of_ble_eq_true rfl⟩ rfl rfl rfl (Nat.le_of_ble_eq_true rfl) ⟨by show 80 + 72 * i + 0 ≤ 600000; omega, by show 30000 + 5185 * i + 0 ≤ 7302250; omega⟩ dL_law_502 ?_
  refine St.perm (List.Perm.symm (wL_perm (G := G) (ad := ad) (nb := nb) (h := h) (a0 := a0) (kp := kp) (hm := hm) (a1 := a1) (a2 := a2) (a3 := a3) (sc := sc') (ar := ar') (fr := fr') (st := st') (wt := wt') (sm := sm') (ld := ld') (ln := ln') (kpM := kpM) (ik := ik))) ?_
  refine s_icmp_eq C 688 dL_law_505 (by decide) (fun _ => ?_) (fun c => absurd rfl c)
  exact St.widen (by show 80 + 72 * i ≤ _; omega) (by show 30000 + 5185 * i ≤ _; omega) (K ad nb kp sc' ar' fr' st' wt' sm' ld' ln' kpM ik hR')
set_option maxHeartbeats 4000000 in
set_option maxRecDepth 100000 in
theorem lc_end {l : Launch} {G : GG} {A : Nat → Prop} {Γ : Cx} (C : CX G A Γ code RL room_1 4) {b L : Nat} {xs : Nat → Int32} (hL : L ≤ 2560) (hX : SX A Γ b L xs) {h a0 hm a1 a2 a3 : Nat} (i : Nat) (hi5 : 5 * i + 5 ≤ L) (ad : Nat → Nat) (nb : Nat) (kp : Nat → Option Nat) (sc ar : Nat → Nat → Int32) (fr : Nat → Nat → Nat) (st : Nat → Int32) (wt : Int32) (sm : Int64) (ld ln : Int32) (kpM ik : Nat → Int32) (hR : Rel nb kp sc ar fr st kpM ik) (K : ∀ (ad : Nat → Nat) (nb : Nat) (kp : Nat → Option Nat) (sc ar : Nat → Nat → Int32) (fr : Nat → Nat → Nat) (st : Nat → Int32) (wt : Int32) (sm : Int64) (ld ln : Int32) (kpM ik : Nat → Int32), Rel nb kp sc ar fr st kpM ik → St l G A Γ (80 + 72 * (i + 1)) (30000 + 5185 * (i + 1)) (wL G ad nb h a0 kp hm a1 a2 a3 sc ar fr st wt sm ld ln kpM ik) 688 [(3, .int (nI (5 * i))), (0, .ref b), (1, .ref h), (2, .ref hm)] []) : St l G A Γ (80 + 72 * i) (30000 + 5185 * i) (wL G ad nb h a0 kp hm a1 a2 a3 sc ar fr st wt sm ld ln kpM ik) 510 [(3, .int (nI (5 * i))), (0, .ref b), (1, .ref h), (2, .ref hm)] [] := by
  obtain ⟨r, sc', ar', fr', st', wt', sm', ld', ln', e1, e2, hR'⟩ := sim_end hR (xs (5 * i + 1)) (xs (5 * i + 2)) wt sm ld ln
  refine s_aload_n C 2 dL_law_510 rfl ?_
  refine s_aload_n C 1 dL_law_511 rfl ?_
  refine s_iload_n C 0 dL_law_512 rfl ?_
  refine s_iconst (v := 1) C dL_law_513 (by decide) ?_
  refine s_iadd C dL_law_514 ?_
  refine s_sld C hX (j := 5 * i + 1) (nI_add _ _) (by omega) (by omega) dL_law_515 ?_
  refine s_aload_n C 1 dL_law_516 rfl ?_
  refine s_iload_n C 0 dL_law_517 rfl ?_
  refine s_iconst (v := 2) C dL_law_518 (by decide) ?_
  refine s_iadd C dL_law_519 ?_
  refine s_sld C hX (j := 5 * i + 2) (nI_add _ _) (by omega) (by omega) dL_law_520 ?_
  refine s_cV_I (As := [.int (xs (5 * i + 1)), .int (xs (5 * i + 2))]) (rest := []) (ci := 5) (q := 72 * nb + 0) C (c_X5_end l G A ad h a0 ((a0, .inl (G.2 4, 2, .inr (.inr (.inr (.inr (fun j => (kp j).map ad)))))) :: (xM G hm a1 a2 a3 st wt sm ld ln kpM ik)) nb (xs (5 * i + 1)) (xs (5 * i + 2)) sc ar fr r sc' ar' fr' e1) g_RL_65 hd_X5_end rfl ⟨Nat.le_of_ble_eq_true rfl, Nat.le_of_ble_eq_true rfl⟩ rfl (wC_tail 0) rfl (Nat.le_of_ble_eq_true rfl) ⟨by show 80 + 72 * i + 0 ≤ 600000; omega, by show 30000 + 5185 * i + 0 ≤ 7302250; omega⟩ dL_law_521 ?_
  refine St.perm (wL_perm (G := G) (ad := ad) (nb := nb) (h := h) (a0 := a0) (kp := kp) (hm := hm) (a1 := a1) (a2 := a2) (a3 := a3) (sc := sc') (ar := ar') (fr := fr') (st := st) (wt := wt) (sm := sm) (ld := ld) (ln := ln) (kpM := kpM) (ik := ik)) ?_
  refine s_aload_n C 3 dL_law_524 rfl ?_
  refine s_aload_n C 1 dL_law_525 rfl ?_
  refine s_iload_n C 0 dL_law_526 rfl ?_
  refine s_iconst (v := 1) C dL_law_527 (by decide) ?_
  refine s_iadd C dL_law_528 ?_
  refine s_sld C hX (j := 5 * i + 1) (nI_add _ _) (by omega) (by omega) dL_law_529 ?_
  refine s_aload_n C 1 dL_law_530 rfl ?_
  refine s_iload_n C 0 dL_law_531 rfl ?_
  refine s_iconst (v := 2) C dL_law_532 (by decide) ?_
  refine s_iadd C dL_law_533 ?_
  refine s_sld C hX (j := 5 * i + 2) (nI_add _ _) (by omega) (by omega) dL_law_534 ?_
  refine s_cV_I (As := [.int (xs (5 * i + 1)), .int (xs (5 * i + 2))]) (rest := [.int r]) (ci := 6) (q := 0) C (c_X6_end l G A hm a1 a2 a3 ((a2, .inl (G.2 0, 16000, .inl kpM)) :: (a3, .inl (G.2 1, 2, .inl ik)) :: (yC G ad nb h a0 kp sc' ar' fr')) (xs (5 * i + 1)) (xs (5 * i + 2)) st wt sm ld ln r st' wt' sm' ld' ln' e2) g_RL_68 hd_X6_end rfl ⟨Nat.le_of_ble_eq_true rfl, Nat.le_of_ble_eq_true rfl⟩ rfl rfl rfl (Nat.le_of_ble_eq_true rfl) ⟨by show 80 + 72 * i + 0 ≤ 600000; omega, by show 30000 + 5185 * i + 0 ≤ 7302250; omega⟩ dL_law_535 ?_
  refine St.perm (List.Perm.symm (wL_perm (G := G) (ad := ad) (nb := nb) (h := h) (a0 := a0) (kp := kp) (hm := hm) (a1 := a1) (a2 := a2) (a3 := a3) (sc := sc') (ar := ar') (fr := fr') (st := st') (wt := wt') (sm := sm') (ld := ld') (ln := ln') (kpM := kpM) (ik := ik))) ?_
  refine s_icmp_eq C 688 dL_law_538 (by decide) (fun _ => ?_) (fun c => absurd rfl c)
  exact St.widen (by show 80 + 72 * i ≤ _; omega) (by show 30000 + 5185 * i ≤ _; omega) (K ad nb kp sc' ar' fr' st' wt' sm' ld' ln' kpM ik hR')
set_option maxHeartbeats 4000000 in
set_option maxRecDepth 100000 in
theorem lc_up {l : Launch} {G : GG} {A : Nat → Prop} {Γ : Cx} (C : CX G A Γ code RL room_1 4) {b L : Nat} {xs : Nat → Int32} (hL : L ≤ 2560) (hX : SX A Γ b L xs) {h a0 hm a1 a2 a3 : Nat} (i : Nat) (hi5 : 5 * i + 5 ≤ L) (ad : Nat → Nat) (nb : Nat) (kp : Nat → Option Nat) (sc ar : Nat → Nat → Int32) (fr : Nat → Nat → Nat) (st : Nat → Int32) (wt : Int32) (sm : Int64) (ld ln : Int32) (kpM ik : Nat → Int32) (hR : Rel nb kp sc ar fr st kpM ik) (K : ∀ (ad : Nat → Nat) (nb : Nat) (kp : Nat → Option Nat) (sc ar : Nat → Nat → Int32) (fr : Nat → Nat → Nat) (st : Nat → Int32) (wt : Int32) (sm : Int64) (ld ln : Int32) (kpM ik : Nat → Int32), Rel nb kp sc ar fr st kpM ik → St l G A Γ (80 + 72 * (i + 1)) (30000 + 5185 * (i + 1)) (wL G ad nb h a0 kp hm a1 a2 a3 sc ar fr st wt sm ld ln kpM ik) 688 [(3, .int (nI (5 * i))), (0, .ref b), (1, .ref h), (2, .ref hm)] []) : St l G A Γ (80 + 72 * i) (30000 + 5185 * i) (wL G ad nb h a0 kp hm a1 a2 a3 sc ar fr st wt sm ld ln kpM ik) 543 [(3, .int (nI (5 * i))), (0, .ref b), (1, .ref h), (2, .ref hm)] [] := by
  obtain ⟨r, sc', ar', fr', st', wt', sm', ld', ln', e1, e2, hR'⟩ := sim_up hR (xs (5 * i + 1)) (xs (5 * i + 2)) wt sm ld ln
  refine s_aload_n C 2 dL_law_543 rfl ?_
  refine s_aload_n C 1 dL_law_544 rfl ?_
  refine s_iload_n C 0 dL_law_545 rfl ?_
  refine s_iconst (v := 1) C dL_law_546 (by decide) ?_
  refine s_iadd C dL_law_547 ?_
  refine s_sld C hX (j := 5 * i + 1) (nI_add _ _) (by omega) (by omega) dL_law_548 ?_
  refine s_aload_n C 1 dL_law_549 rfl ?_
  refine s_iload_n C 0 dL_law_550 rfl ?_
  refine s_iconst (v := 2) C dL_law_551 (by decide) ?_
  refine s_iadd C dL_law_552 ?_
  refine s_sld C hX (j := 5 * i + 2) (nI_add _ _) (by omega) (by omega) dL_law_553 ?_
  refine s_cV_I (As := [.int (xs (5 * i + 1)), .int (xs (5 * i + 2))]) (rest := []) (ci := 5) (q := 72 * nb + 0) C (c_X5_up l G A ad h a0 ((a0, .inl (G.2 4, 2, .inr (.inr (.inr (.inr (fun j => (kp j).map ad)))))) :: (xM G hm a1 a2 a3 st wt sm ld ln kpM ik)) nb (xs (5 * i + 1)) (xs (5 * i + 2)) sc ar fr r sc' ar' fr' e1) g_RL_69 hd_X5_up rfl ⟨Nat.le_of_ble_eq_true rfl, Nat.le_of_ble_eq_true rfl⟩ rfl (wC_tail 0) rfl (Nat.le_of_ble_eq_true rfl) ⟨by show 80 + 72 * i + 0 ≤ 600000; omega, by show 30000 + 5185 * i + 0 ≤ 7302250; omega⟩ dL_law_554 ?_
  refine St.perm (wL_perm (G := G) (ad := ad) (nb := nb) (h := h) (a0 := a0) (kp := kp) (hm := hm) (a1 := a1) (a2 := a2) (a3 := a3) (sc := sc') (ar := ar') (fr := fr') (st := st) (wt := wt) (sm := sm) (ld := ld) (ln := ln) (kpM := kpM) (ik := ik)) ?_
  refine s_aload_n C 3 dL_law_557 rfl ?_
  refine s_aload_n C 1 dL_law_558 rfl ?_
  refine s_iload_n C 0 dL_law_559 rfl ?_
  refine s_iconst (v := 1) C dL_law_560 (by decide) ?_
  refine s_iadd C dL_law_561 ?_
  refine s_sld C hX (j := 5 * i + 1) (nI_add _ _) (by omega) (by omega) dL_law_562 ?_
  refine s_aload_n C 1 dL_law_563 rfl ?_
  refine s_iload_n C 0 dL_law_564 rfl ?_
  refine s_iconst (v := 2) C dL_law_565 (by decide) ?_
  refine s_iadd C dL_law_566 ?_
  refine s_sld C hX (j := 5 * i + 2) (nI_add _ _) (by omega) (by omega) dL_law_567 ?_
  refine s_cV_I (As := [.int (xs (5 * i + 1)), .int (xs (5 * i + 2))]) (rest := [.int r]) (ci := 6) (q := 0) C (c_X6_up l G A hm a1 a2 a3 ((a2, .inl (G.2 0, 16000, .inl kpM)) :: (a3, .inl (G.2 1, 2, .inl ik)) :: (yC G ad nb h a0 kp sc' ar' fr')) (xs (5 * i + 1)) (xs (5 * i + 2)) st wt sm ld ln r st' wt' sm' ld' ln' e2) g_RL_72 hd_X6_up rfl ⟨Nat.le_of_ble_eq_true rfl, Nat.le_of_ble_eq_true rfl⟩ rfl rfl rfl (Nat.le_of_ble_eq_true rfl) ⟨by show 80 + 72 * i + 0 ≤ 600000; omega, by show 30000 + 5185 * i + 0 ≤ 7302250; omega⟩ dL_law_568 ?_
  refine St.perm (List.Perm.symm (wL_perm (G := G) (ad := ad) (nb := nb) (h := h) (a0 := a0) (kp := kp) (hm := hm) (a1 := a1) (a2 := a2) (a3 := a3) (sc := sc') (ar := ar') (fr := fr') (st := st') (wt := wt') (sm := sm') (ld := ld') (ln := ln') (kpM := kpM) (ik := ik))) ?_
  refine s_icmp_eq C 688 dL_law_571 (by decide) (fun _ => ?_) (fun c => absurd rfl c)
  exact St.widen (by show 80 + 72 * i ≤ _; omega) (by show 30000 + 5185 * i ≤ _; omega) (K ad nb kp sc' ar' fr' st' wt' sm' ld' ln' kpM ik hR')
set_option maxHeartbeats 4000000 in
set_option maxRecDepth 100000 in
theorem lc_upByte {l : Launch} {G : GG} {A : Nat → Prop} {Γ : Cx} (C : CX G A Γ code RL room_1 4) {b L : Nat} {xs : Nat → Int32} (hL : L ≤ 2560) (hX : SX A Γ b L xs) {h a0 hm a1 a2 a3 : Nat} (i : Nat) (hi5 : 5 * i + 5 ≤ L) (ad : Nat → Nat) (nb : Nat) (kp : Nat → Option Nat) (sc ar : Nat → Nat → Int32) (fr : Nat → Nat → Nat) (st : Nat → Int32) (wt : Int32) (sm : Int64) (ld ln : Int32) (kpM ik : Nat → Int32) (hR : Rel nb kp sc ar fr st kpM ik) (K : ∀ (ad : Nat → Nat) (nb : Nat) (kp : Nat → Option Nat) (sc ar : Nat → Nat → Int32) (fr : Nat → Nat → Nat) (st : Nat → Int32) (wt : Int32) (sm : Int64) (ld ln : Int32) (kpM ik : Nat → Int32), Rel nb kp sc ar fr st kpM ik → St l G A Γ (80 + 72 * (i + 1)) (30000 + 5185 * (i + 1)) (wL G ad nb h a0 kp hm a1 a2 a3 sc ar fr st wt sm ld ln kpM ik) 688 [(3, .int (nI (5 * i))), (0, .ref b), (1, .ref h), (2, .ref hm)] []) : St l G A Γ (80 + 72 * i) (30000 + 5185 * i) (wL G ad nb h a0 kp hm a1 a2 a3 sc ar fr st wt sm ld ln kpM ik) 576 [(3, .int (nI (5 * i))), (0, .ref b), (1, .ref h), (2, .ref hm)] [] := by
  obtain ⟨r, sc', ar', fr', st', wt', sm', ld', ln', e1, e2, hR'⟩ := sim_upByte hR (xs (5 * i + 1)) (xs (5 * i + 2)) (xs (5 * i + 3)) wt sm ld ln
  refine s_aload_n C 2 dL_law_576 rfl ?_
  refine s_aload_n C 1 dL_law_577 rfl ?_
  refine s_iload_n C 0 dL_law_578 rfl ?_
  refine s_iconst (v := 1) C dL_law_579 (by decide) ?_
  refine s_iadd C dL_law_580 ?_
  refine s_sld C hX (j := 5 * i + 1) (nI_add _ _) (by omega) (by omega) dL_law_581 ?_
  refine s_aload_n C 1 dL_law_582 rfl ?_
  refine s_iload_n C 0 dL_law_583 rfl ?_
  refine s_iconst (v := 2) C dL_law_584 (by decide) ?_
  refine s_iadd C dL_law_585 ?_
  refine s_sld C hX (j := 5 * i + 2) (nI_add _ _) (by omega) (by omega) dL_law_586 ?_
  refine s_aload_n C 1 dL_law_587 rfl ?_
  refine s_iload_n C 0 dL_law_588 rfl ?_
  refine s_iconst (v := 3) C dL_law_589 (by decide) ?_
  refine s_iadd C dL_law_590 ?_
  refine s_sld C hX (j := 5 * i + 3) (nI_add _ _) (by omega) (by omega) dL_law_591 ?_
  refine s_cV_I (As := [.int (xs (5 * i + 1)), .int (xs (5 * i + 2)), .int (xs (5 * i + 3))]) (rest := []) (ci := 5) (q := 72 * nb + 0) C (c_X5_upByte l G A ad h a0 ((a0, .inl (G.2 4, 2, .inr (.inr (.inr (.inr (fun j => (kp j).map ad)))))) :: (xM G hm a1 a2 a3 st wt sm ld ln kpM ik)) nb (xs (5 * i + 1)) (xs (5 * i + 2)) (xs (5 * i + 3)) sc ar fr r sc' ar' fr' e1) g_RL_73 hd_X5_upByte rfl ⟨Nat.le_of_ble_eq_true rfl, Nat.le_of_ble_eq_true rfl⟩ rfl (wC_tail 0) rfl (Nat.le_of_ble_eq_true rfl) ⟨by show 80 + 72 * i + 0 ≤ 600000; omega, by show 30000 + 5185 * i + 0 ≤ 7302250; omega⟩ dL_law_592 ?_
  refine St.perm (wL_perm (G := G) (ad := ad) (nb := nb) (h := h) (a0 := a0) (kp := kp) (hm := hm) (a1 := a1) (a2 := a2) (a3 := a3) (sc := sc') (ar := ar') (fr := fr') (st := st) (wt := wt) (sm := sm) (ld := ld) (ln := ln) (kpM := kpM) (ik := ik)) ?_
  refine s_aload_n C 3 dL_law_595 rfl ?_
  refine s_aload_n C 1 dL_law_596 rfl ?_
  refine s_iload_n C 0 dL_law_597 rfl ?_
  refine s_iconst (v := 1) C dL_law_598 (by decide) ?_
  refine s_iadd C dL_law_599 ?_
  refine s_sld C hX (j := 5 * i + 1) (nI_add _ _) (by omega) (by omega) dL_law_600 ?_
  refine s_aload_n C 1 dL_law_601 rfl ?_
  refine s_iload_n C 0 dL_law_602 rfl ?_
  refine s_iconst (v := 2) C dL_law_603 (by decide) ?_
  refine s_iadd C dL_law_604 ?_
  refine s_sld C hX (j := 5 * i + 2) (nI_add _ _) (by omega) (by omega) dL_law_605 ?_
  refine s_aload_n C 1 dL_law_606 rfl ?_
  refine s_iload_n C 0 dL_law_607 rfl ?_
  refine s_iconst (v := 3) C dL_law_608 (by decide) ?_
  refine s_iadd C dL_law_609 ?_
  refine s_sld C hX (j := 5 * i + 3) (nI_add _ _) (by omega) (by omega) dL_law_610 ?_
  refine s_cV_I (As := [.int (xs (5 * i + 1)), .int (xs (5 * i + 2)), .int (xs (5 * i + 3))]) (rest := [.int r]) (ci := 6) (q := 0) C (c_X6_upByte l G A hm a1 a2 a3 ((a2, .inl (G.2 0, 16000, .inl kpM)) :: (a3, .inl (G.2 1, 2, .inl ik)) :: (yC G ad nb h a0 kp sc' ar' fr')) (xs (5 * i + 1)) (xs (5 * i + 2)) (xs (5 * i + 3)) st wt sm ld ln r st' wt' sm' ld' ln' e2) g_RL_76 hd_X6_upByte rfl ⟨Nat.le_of_ble_eq_true rfl, Nat.le_of_ble_eq_true rfl⟩ rfl rfl rfl (Nat.le_of_ble_eq_true rfl) ⟨by show 80 + 72 * i + 0 ≤ 600000; omega, by show 30000 + 5185 * i + 0 ≤ 7302250; omega⟩ dL_law_611 ?_
  refine St.perm (List.Perm.symm (wL_perm (G := G) (ad := ad) (nb := nb) (h := h) (a0 := a0) (kp := kp) (hm := hm) (a1 := a1) (a2 := a2) (a3 := a3) (sc := sc') (ar := ar') (fr := fr') (st := st') (wt := wt') (sm := sm') (ld := ld') (ln := ln') (kpM := kpM) (ik := ik))) ?_
  refine s_icmp_eq C 688 dL_law_614 (by decide) (fun _ => ?_) (fun c => absurd rfl c)
  exact St.widen (by show 80 + 72 * i ≤ _; omega) (by show 30000 + 5185 * i ≤ _; omega) (K ad nb kp sc' ar' fr' st' wt' sm' ld' ln' kpM ik hR')
set_option maxHeartbeats 4000000 in
set_option maxRecDepth 100000 in
theorem lc_count {l : Launch} {G : GG} {A : Nat → Prop} {Γ : Cx} (C : CX G A Γ code RL room_1 4) {b L : Nat} {xs : Nat → Int32} (hL : L ≤ 2560) (hX : SX A Γ b L xs) {h a0 hm a1 a2 a3 : Nat} (i : Nat) (hi5 : 5 * i + 5 ≤ L) (ad : Nat → Nat) (nb : Nat) (kp : Nat → Option Nat) (sc ar : Nat → Nat → Int32) (fr : Nat → Nat → Nat) (st : Nat → Int32) (wt : Int32) (sm : Int64) (ld ln : Int32) (kpM ik : Nat → Int32) (hR : Rel nb kp sc ar fr st kpM ik) (K : ∀ (ad : Nat → Nat) (nb : Nat) (kp : Nat → Option Nat) (sc ar : Nat → Nat → Int32) (fr : Nat → Nat → Nat) (st : Nat → Int32) (wt : Int32) (sm : Int64) (ld ln : Int32) (kpM ik : Nat → Int32), Rel nb kp sc ar fr st kpM ik → St l G A Γ (80 + 72 * (i + 1)) (30000 + 5185 * (i + 1)) (wL G ad nb h a0 kp hm a1 a2 a3 sc ar fr st wt sm ld ln kpM ik) 688 [(3, .int (nI (5 * i))), (0, .ref b), (1, .ref h), (2, .ref hm)] []) : St l G A Γ (80 + 72 * i) (30000 + 5185 * i) (wL G ad nb h a0 kp hm a1 a2 a3 sc ar fr st wt sm ld ln kpM ik) 619 [(3, .int (nI (5 * i))), (0, .ref b), (1, .ref h), (2, .ref hm)] [] := by
  obtain ⟨r, sc', ar', fr', st', wt', sm', ld', ln', e1, e2, hR'⟩ := sim_count hR (xs (5 * i + 1)) wt sm ld ln
  refine s_aload_n C 2 dL_law_619 rfl ?_
  refine s_aload_n C 1 dL_law_620 rfl ?_
  refine s_iload_n C 0 dL_law_621 rfl ?_
  refine s_iconst (v := 1) C dL_law_622 (by decide) ?_
  refine s_iadd C dL_law_623 ?_
  refine s_sld C hX (j := 5 * i + 1) (nI_add _ _) (by omega) (by omega) dL_law_624 ?_
  refine s_cV_I (As := [.int (xs (5 * i + 1))]) (rest := []) (ci := 5) (q := 72 * nb + 0) C (c_X5_count l G A ad h a0 ((a0, .inl (G.2 4, 2, .inr (.inr (.inr (.inr (fun j => (kp j).map ad)))))) :: (xM G hm a1 a2 a3 st wt sm ld ln kpM ik)) nb (xs (5 * i + 1)) sc ar fr r sc' ar' fr' e1) g_RL_77 hd_X5_count rfl ⟨Nat.le_of_ble_eq_true rfl, Nat.le_of_ble_eq_true rfl⟩ rfl (wC_tail 0) rfl (Nat.le_of_ble_eq_true rfl) ⟨by show 80 + 72 * i + 0 ≤ 600000; omega, by show 30000 + 5185 * i + 0 ≤ 7302250; omega⟩ dL_law_625 ?_
  refine St.perm (wL_perm (G := G) (ad := ad) (nb := nb) (h := h) (a0 := a0) (kp := kp) (hm := hm) (a1 := a1) (a2 := a2) (a3 := a3) (sc := sc') (ar := ar') (fr := fr') (st := st) (wt := wt) (sm := sm) (ld := ld) (ln := ln) (kpM := kpM) (ik := ik)) ?_
  refine s_aload_n C 3 dL_law_628 rfl ?_
  refine s_aload_n C 1 dL_law_629 rfl ?_
  refine s_iload_n C 0 dL_law_630 rfl ?_
  refine s_iconst (v := 1) C dL_law_631 (by decide) ?_
  refine s_iadd C dL_law_632 ?_
  refine s_sld C hX (j := 5 * i + 1) (nI_add _ _) (by omega) (by omega) dL_law_633 ?_
  refine s_cV_I (As := [.int (xs (5 * i + 1))]) (rest := [.int r]) (ci := 6) (q := 0) C (c_X6_count l G A hm a1 a2 a3 ((a2, .inl (G.2 0, 16000, .inl kpM)) :: (a3, .inl (G.2 1, 2, .inl ik)) :: (yC G ad nb h a0 kp sc' ar' fr')) (xs (5 * i + 1)) st wt sm ld ln r st' wt' sm' ld' ln' e2) g_RL_80 hd_X6_count rfl ⟨Nat.le_of_ble_eq_true rfl, Nat.le_of_ble_eq_true rfl⟩ rfl rfl rfl (Nat.le_of_ble_eq_true rfl) ⟨by show 80 + 72 * i + 0 ≤ 600000; omega, by show 30000 + 5185 * i + 0 ≤ 7302250; omega⟩ dL_law_634 ?_
  refine St.perm (List.Perm.symm (wL_perm (G := G) (ad := ad) (nb := nb) (h := h) (a0 := a0) (kp := kp) (hm := hm) (a1 := a1) (a2 := a2) (a3 := a3) (sc := sc') (ar := ar') (fr := fr') (st := st') (wt := wt') (sm := sm') (ld := ld') (ln := ln') (kpM := kpM) (ik := ik))) ?_
  refine s_icmp_eq C 688 dL_law_637 (by decide) (fun _ => ?_) (fun c => absurd rfl c)
  exact St.widen (by show 80 + 72 * i ≤ _; omega) (by show 30000 + 5185 * i ≤ _; omega) (K ad nb kp sc' ar' fr' st' wt' sm' ld' ln' kpM ik hR')
set_option maxHeartbeats 4000000 in
set_option maxRecDepth 100000 in
theorem lc_keep {l : Launch} {G : GG} {A : Nat → Prop} {Γ : Cx} (C : CX G A Γ code RL room_1 4) {b L : Nat} {xs : Nat → Int32} (hL : L ≤ 2560) (hX : SX A Γ b L xs) {h a0 hm a1 a2 a3 : Nat} (i : Nat) (hi5 : 5 * i + 5 ≤ L) (ad : Nat → Nat) (nb : Nat) (kp : Nat → Option Nat) (sc ar : Nat → Nat → Int32) (fr : Nat → Nat → Nat) (st : Nat → Int32) (wt : Int32) (sm : Int64) (ld ln : Int32) (kpM ik : Nat → Int32) (hR : Rel nb kp sc ar fr st kpM ik) (K : ∀ (ad : Nat → Nat) (nb : Nat) (kp : Nat → Option Nat) (sc ar : Nat → Nat → Int32) (fr : Nat → Nat → Nat) (st : Nat → Int32) (wt : Int32) (sm : Int64) (ld ln : Int32) (kpM ik : Nat → Int32), Rel nb kp sc ar fr st kpM ik → St l G A Γ (80 + 72 * (i + 1)) (30000 + 5185 * (i + 1)) (wL G ad nb h a0 kp hm a1 a2 a3 sc ar fr st wt sm ld ln kpM ik) 688 [(3, .int (nI (5 * i))), (0, .ref b), (1, .ref h), (2, .ref hm)] []) : St l G A Γ (80 + 72 * i) (30000 + 5185 * i) (wL G ad nb h a0 kp hm a1 a2 a3 sc ar fr st wt sm ld ln kpM ik) 642 [(3, .int (nI (5 * i))), (0, .ref b), (1, .ref h), (2, .ref hm)] [] := by
  obtain ⟨r, nb', kp', sc', ar', fr', st', wt', sm', ld', ln', kpM', ik', e1, e2, hR'⟩ := sim_keep hR (xs (5 * i + 1)) wt sm ld ln
  refine s_aload_n C 2 dL_law_642 rfl ?_
  refine s_aload_n C 1 dL_law_643 rfl ?_
  refine s_iload_n C 0 dL_law_644 rfl ?_
  refine s_iconst (v := 1) C dL_law_645 (by decide) ?_
  refine s_iadd C dL_law_646 ?_
  refine s_sld C hX (j := 5 * i + 1) (nI_add _ _) (by omega) (by omega) dL_law_647 ?_
  refine s_cV_K (As := [.int (xs (5 * i + 1))]) (rest := []) (ci := 5) (q := 72 * nb + 0) C (c_X5_keep l G A ad h a0 kp (xM G hm a1 a2 a3 st wt sm ld ln kpM ik) nb (xs (5 * i + 1)) sc ar fr r nb' kp' sc' ar' fr' e1 hR.1 hR.2.2.1 hR'.2.2.1 hR.kpin) g_RL_81 hd_X5_keep rfl ⟨Nat.le_of_ble_eq_true rfl, Nat.le_of_ble_eq_true rfl⟩ rfl (wC_tail 0) rfl (Nat.le_of_ble_eq_true rfl) ⟨by show 80 + 72 * i + 72 ≤ 600000; omega, by show 30000 + 5185 * i + 5185 ≤ 7302250; omega⟩ dL_law_648 (fun u => ?_)
  generalize adN nb ad u = ad'
  refine St.perm (wL_perm (G := G) (ad := ad') (nb := nb') (h := h) (a0 := a0) (kp := kp') (hm := hm) (a1 := a1) (a2 := a2) (a3 := a3) (sc := sc') (ar := ar') (fr := fr') (st := st) (wt := wt) (sm := sm) (ld := ld) (ln := ln) (kpM := kpM) (ik := ik)) ?_
  refine s_aload_n C 3 dL_law_651 rfl ?_
  refine s_aload_n C 1 dL_law_652 rfl ?_
  refine s_iload_n C 0 dL_law_653 rfl ?_
  refine s_iconst (v := 1) C dL_law_654 (by decide) ?_
  refine s_iadd C dL_law_655 ?_
  refine s_sld C hX (j := 5 * i + 1) (nI_add _ _) (by omega) (by omega) dL_law_656 ?_
  refine s_cV_I (As := [.int (xs (5 * i + 1))]) (rest := [.int r]) (ci := 6) (q := 0) C (c_X6_keep l G A hm a1 a2 a3 (yC G ad' nb' h a0 kp' sc' ar' fr') (xs (5 * i + 1)) st wt sm ld ln kpM ik r st' wt' sm' ld' ln' kpM' ik' e2) g_RL_84 hd_X6_keep rfl ⟨Nat.le_of_ble_eq_true rfl, Nat.le_of_ble_eq_true rfl⟩ rfl rfl rfl (Nat.le_of_ble_eq_true rfl) ⟨by show 80 + 72 * i + 72 + 0 ≤ 600000; omega, by show 30000 + 5185 * i + 5185 + 0 ≤ 7302250; omega⟩ dL_law_657 ?_
  refine St.perm (List.Perm.symm (wL_perm (G := G) (ad := ad') (nb := nb') (h := h) (a0 := a0) (kp := kp') (hm := hm) (a1 := a1) (a2 := a2) (a3 := a3) (sc := sc') (ar := ar') (fr := fr') (st := st') (wt := wt') (sm := sm') (ld := ld') (ln := ln') (kpM := kpM') (ik := ik'))) ?_
  refine s_icmp_eq C 688 dL_law_660 (by decide) (fun _ => ?_) (fun c => absurd rfl c)
  exact St.widen (by show 80 + 72 * i + 72 ≤ _; omega) (by show 30000 + 5185 * i + 5185 ≤ _; omega) (K ad' nb' kp' sc' ar' fr' st' wt' sm' ld' ln' kpM' ik' hR')
set_option maxHeartbeats 4000000 in
set_option maxRecDepth 100000 in
theorem lc_again {l : Launch} {G : GG} {A : Nat → Prop} {Γ : Cx} (C : CX G A Γ code RL room_1 4) {b L : Nat} {xs : Nat → Int32} (hL : L ≤ 2560) (hX : SX A Γ b L xs) {h a0 hm a1 a2 a3 : Nat} (i : Nat) (hi5 : 5 * i + 5 ≤ L) (ad : Nat → Nat) (nb : Nat) (kp : Nat → Option Nat) (sc ar : Nat → Nat → Int32) (fr : Nat → Nat → Nat) (st : Nat → Int32) (wt : Int32) (sm : Int64) (ld ln : Int32) (kpM ik : Nat → Int32) (hR : Rel nb kp sc ar fr st kpM ik) (K : ∀ (ad : Nat → Nat) (nb : Nat) (kp : Nat → Option Nat) (sc ar : Nat → Nat → Int32) (fr : Nat → Nat → Nat) (st : Nat → Int32) (wt : Int32) (sm : Int64) (ld ln : Int32) (kpM ik : Nat → Int32), Rel nb kp sc ar fr st kpM ik → St l G A Γ (80 + 72 * (i + 1)) (30000 + 5185 * (i + 1)) (wL G ad nb h a0 kp hm a1 a2 a3 sc ar fr st wt sm ld ln kpM ik) 688 [(3, .int (nI (5 * i))), (0, .ref b), (1, .ref h), (2, .ref hm)] []) : St l G A Γ (80 + 72 * i) (30000 + 5185 * i) (wL G ad nb h a0 kp hm a1 a2 a3 sc ar fr st wt sm ld ln kpM ik) 665 [(3, .int (nI (5 * i))), (0, .ref b), (1, .ref h), (2, .ref hm)] [] := by
  obtain ⟨r, sc', ar', fr', st', wt', sm', ld', ln', kpM', ik', e1, e2, hR'⟩ := sim_again hR (xs (5 * i + 1)) wt sm ld ln
  refine s_aload_n C 2 dL_law_665 rfl ?_
  refine s_aload_n C 1 dL_law_666 rfl ?_
  refine s_iload_n C 0 dL_law_667 rfl ?_
  refine s_iconst (v := 1) C dL_law_668 (by decide) ?_
  refine s_iadd C dL_law_669 ?_
  refine s_sld C hX (j := 5 * i + 1) (nI_add _ _) (by omega) (by omega) dL_law_670 ?_
  refine s_cV_I (As := [.int (xs (5 * i + 1))]) (rest := []) (ci := 5) (q := 72 * nb + 0) C (c_X5_again l G A ad h a0 kp (xM G hm a1 a2 a3 st wt sm ld ln kpM ik) nb (xs (5 * i + 1)) sc ar fr r sc' ar' fr' e1) g_RL_85 hd_X5_again rfl ⟨Nat.le_of_ble_eq_true rfl, Nat.le_of_ble_eq_true rfl⟩ rfl (wC_tail 0) rfl (Nat.le_of_ble_eq_true rfl) ⟨by show 80 + 72 * i + 0 ≤ 600000; omega, by show 30000 + 5185 * i + 0 ≤ 7302250; omega⟩ dL_law_671 ?_
  refine St.perm (wL_perm (G := G) (ad := ad) (nb := nb) (h := h) (a0 := a0) (kp := kp) (hm := hm) (a1 := a1) (a2 := a2) (a3 := a3) (sc := sc') (ar := ar') (fr := fr') (st := st) (wt := wt) (sm := sm) (ld := ld) (ln := ln) (kpM := kpM) (ik := ik)) ?_
  refine s_aload_n C 3 dL_law_674 rfl ?_
  refine s_aload_n C 1 dL_law_675 rfl ?_
  refine s_iload_n C 0 dL_law_676 rfl ?_
  refine s_iconst (v := 1) C dL_law_677 (by decide) ?_
  refine s_iadd C dL_law_678 ?_
  refine s_sld C hX (j := 5 * i + 1) (nI_add _ _) (by omega) (by omega) dL_law_679 ?_
  refine s_cV_I (As := [.int (xs (5 * i + 1))]) (rest := [.int r]) (ci := 6) (q := 0) C (c_X6_again l G A hm a1 a2 a3 (yC G ad nb h a0 kp sc' ar' fr') (xs (5 * i + 1)) st wt sm ld ln kpM ik r st' wt' sm' ld' ln' kpM' ik' e2) g_RL_88 hd_X6_again rfl ⟨Nat.le_of_ble_eq_true rfl, Nat.le_of_ble_eq_true rfl⟩ rfl rfl rfl (Nat.le_of_ble_eq_true rfl) ⟨by show 80 + 72 * i + 0 ≤ 600000; omega, by show 30000 + 5185 * i + 0 ≤ 7302250; omega⟩ dL_law_680 ?_
  refine St.perm (List.Perm.symm (wL_perm (G := G) (ad := ad) (nb := nb) (h := h) (a0 := a0) (kp := kp) (hm := hm) (a1 := a1) (a2 := a2) (a3 := a3) (sc := sc') (ar := ar') (fr := fr') (st := st') (wt := wt') (sm := sm') (ld := ld') (ln := ln') (kpM := kpM') (ik := ik'))) ?_
  refine s_icmp_eq C 688 dL_law_683 (by decide) (fun _ => ?_) (fun c => absurd rfl c)
  exact St.widen (by show 80 + 72 * i ≤ _; omega) (by show 30000 + 5185 * i ≤ _; omega) (K ad nb kp sc' ar' fr' st' wt' sm' ld' ln' kpM' ik' hR')
