set_option maxHeartbeats 4000000 in
set_option maxRecDepth 100000 in
/-- Long.bitCount -/
theorem c_J13_bitCount_95d88 (l : Launch) (dC : Nat → ClassId) (dI : Nat → Nat → Nat) (w : Int64) : Met l yJ13_bitCount_95d88 wsJ13_bitCount_95d88 ({ frames := 0, cells := 0, slots := 0, locals := 0 }) (va_Pc [.long w] (fun U => va_P (dC, dI) vwCl [] U.heap ∧ va_K (dC, dI) vwCl [] U)) (vp_Si (fun r => r = nI (fb_ct (gb w) 64))) 0 0 (fun _ => False) := by
  refine Met.ofW (cc := cJ13_bitCount_95d88) (maxL := 2) (ret := (some .int)) (by decide) rfl ?_
  intro p e s m args below meth c s₁ B hml hv
  obtain ⟨rfl, hP, hK⟩ := hv
  have hx := B.exec
  have hb := B.bytes
  have hr := B.returns
  have hts := atoms_spec (ws := wsJ13_bitCount_95d88) B.pre
  have hown : s.vm.findClass RJ13 = some m.cls := findClass_of_methodNamed B.named
  have hlocks := B.notSynchronized
  have hP : va_P (dC, dI) vwCl [] s.heap := hP
  have hl := lv_entry ([.long w]) (n := 2) (Nat.le_of_ble_eq_true rfl)
  rw [lg_entry_eq]
  generalize (lg_sl ([.long w]) ++ List.replicate (2 - (lg_sl ([.long w])).length) Slot.unset).toArray = ls at hl ⊢
  have hl : lv_has ls 2 [(0, .long w)] := hl
  refine lv_lload_n hx hb dJ13_bitCount_95d88_0 rfl (lv_at hl 0 rfl) ?_
  refine lv_lload_n hx hb dJ13_bitCount_95d88_1 rfl (lv_at hl 0 rfl) ?_
  refine lv_iconst (v := nI 1) hx hb dJ13_bitCount_95d88_2 (by decide +kernel) ?_
  refine lv_lushr (v := sru w (nI 1)) hx hb dJ13_bitCount_95d88_3 rfl ?_
  refine lv_ldc2 (v := 6148914691236517205) hx hb hown (hts (.constantLong RJ13 314 (6148914691236517205)) (by decide +kernel)) dJ13_bitCount_95d88_4 ?_
  refine lv_land hx hb dJ13_bitCount_95d88_7 ?_
  refine lv_lsub hx hb dJ13_bitCount_95d88_8 ?_
  refine lv_topl (fun v1 h1 => ?_)
  refine lv_lstore_n (lv' := [(0, .long v1)]) hx hb dJ13_bitCount_95d88_9 rfl hl (by decide) rfl (fun ls hl => ?_)
  refine lv_lload_n hx hb dJ13_bitCount_95d88_10 rfl (lv_at hl 0 rfl) ?_
  refine lv_ldc2 (v := 3689348814741910323) hx hb hown (hts (.constantLong RJ13 316 (3689348814741910323)) (by decide +kernel)) dJ13_bitCount_95d88_11 ?_
  refine lv_land hx hb dJ13_bitCount_95d88_14 ?_
  refine lv_lload_n hx hb dJ13_bitCount_95d88_15 rfl (lv_at hl 0 rfl) ?_
  refine lv_iconst (v := nI 2) hx hb dJ13_bitCount_95d88_16 (by decide +kernel) ?_
  refine lv_lushr (v := sru v1 (nI 2)) hx hb dJ13_bitCount_95d88_17 rfl ?_
  refine lv_ldc2 (v := 3689348814741910323) hx hb hown (hts (.constantLong RJ13 316 (3689348814741910323)) (by decide +kernel)) dJ13_bitCount_95d88_18 ?_
  refine lv_land hx hb dJ13_bitCount_95d88_21 ?_
  refine lv_ladd hx hb dJ13_bitCount_95d88_22 ?_
  refine lv_topl (fun v2 h2 => ?_)
  refine lv_lstore_n (lv' := [(0, .long v2)]) hx hb dJ13_bitCount_95d88_23 rfl hl (by decide) rfl (fun ls hl => ?_)
  refine lv_lload_n hx hb dJ13_bitCount_95d88_24 rfl (lv_at hl 0 rfl) ?_
  refine lv_lload_n hx hb dJ13_bitCount_95d88_25 rfl (lv_at hl 0 rfl) ?_
  refine lv_iconst (v := nI 4) hx hb dJ13_bitCount_95d88_26 (by decide +kernel) ?_
  refine lv_lushr (v := sru v2 (nI 4)) hx hb dJ13_bitCount_95d88_27 rfl ?_
  refine lv_ladd hx hb dJ13_bitCount_95d88_28 ?_
  refine lv_ldc2 (v := 1085102592571150095) hx hb hown (hts (.constantLong RJ13 318 (1085102592571150095)) (by decide +kernel)) dJ13_bitCount_95d88_29 ?_
  refine lv_land hx hb dJ13_bitCount_95d88_32 ?_
  refine lv_topl (fun v3 h3 => ?_)
  refine lv_lstore_n (lv' := [(0, .long v3)]) hx hb dJ13_bitCount_95d88_33 rfl hl (by decide) rfl (fun ls hl => ?_)
  refine lv_lload_n hx hb dJ13_bitCount_95d88_34 rfl (lv_at hl 0 rfl) ?_
  refine lv_lload_n hx hb dJ13_bitCount_95d88_35 rfl (lv_at hl 0 rfl) ?_
  refine lv_bipush (v := nI 8) hx hb dJ13_bitCount_95d88_36 (by decide +kernel) ?_
  refine lv_lushr (v := sru v3 (nI 8)) hx hb dJ13_bitCount_95d88_38 rfl ?_
  refine lv_ladd hx hb dJ13_bitCount_95d88_39 ?_
  refine lv_topl (fun v4 h4 => ?_)
  refine lv_lstore_n (lv' := [(0, .long v4)]) hx hb dJ13_bitCount_95d88_40 rfl hl (by decide) rfl (fun ls hl => ?_)
  refine lv_lload_n hx hb dJ13_bitCount_95d88_41 rfl (lv_at hl 0 rfl) ?_
  refine lv_lload_n hx hb dJ13_bitCount_95d88_42 rfl (lv_at hl 0 rfl) ?_
  refine lv_bipush (v := nI 16) hx hb dJ13_bitCount_95d88_43 (by decide +kernel) ?_
  refine lv_lushr (v := sru v4 (nI 16)) hx hb dJ13_bitCount_95d88_45 rfl ?_
  refine lv_ladd hx hb dJ13_bitCount_95d88_46 ?_
  refine lv_topl (fun v5 h5 => ?_)
  refine lv_lstore_n (lv' := [(0, .long v5)]) hx hb dJ13_bitCount_95d88_47 rfl hl (by decide) rfl (fun ls hl => ?_)
  refine lv_lload_n hx hb dJ13_bitCount_95d88_48 rfl (lv_at hl 0 rfl) ?_
  refine lv_lload_n hx hb dJ13_bitCount_95d88_49 rfl (lv_at hl 0 rfl) ?_
  refine lv_bipush (v := nI 32) hx hb dJ13_bitCount_95d88_50 (by decide +kernel) ?_
  refine lv_lushr (v := sru v5 (nI 32)) hx hb dJ13_bitCount_95d88_52 rfl ?_
  refine lv_ladd hx hb dJ13_bitCount_95d88_53 ?_
  refine lv_topl (fun v6 h6 => ?_)
  refine lv_lstore_n (lv' := [(0, .long v6)]) hx hb dJ13_bitCount_95d88_54 rfl hl (by decide) rfl (fun ls hl => ?_)
  refine lv_lload_n hx hb dJ13_bitCount_95d88_55 rfl (lv_at hl 0 rfl) ?_
  refine lv_l2i (v := (v6).toInt32) hx hb dJ13_bitCount_95d88_56 rfl ?_
  refine lv_bipush (v := nI 127) hx hb dJ13_bitCount_95d88_57 (by decide +kernel) ?_
  refine lv_iand hx hb dJ13_bitCount_95d88_59 ?_
  exact W.iret (v := ((v6).toInt32) &&& (nI 127)) hx hb hr (fun t9 ht hW => ⟨((v6).toInt32) &&& (nI 127), rfl, bc_eq w h1 h2 h3 h4 h5 h6, ht⟩) (fun q h => by cases h) dJ13_bitCount_95d88_60
set_option maxHeartbeats 4000000 in
set_option maxRecDepth 100000 in
/-- Word.bit -/
theorem c_X6_bit (l : Launch) (dC : Nat → ClassId) (dI : Nat → Nat → Nat) (k : Nat) (hk : k < 2 ^ 31) : Met l yX6_bit wsX6_bit ({ frames := 0, cells := 0, slots := 0, locals := 0 }) (va_Pc [.int (nI k)] (fun U => va_P (dC, dI) vwCl [] U.heap ∧ va_K (dC, dI) vwCl [] U)) (vp_Sl (fun r => r = bit1 (k % 64))) 0 0 (fun _ => False) := by
  refine Met.ofW (cc := cX6_bit) (maxL := 1) (ret := (some .long)) (by decide) rfl ?_
  intro p e s m args below meth c s₁ B hml hv
  obtain ⟨rfl, hP, hK⟩ := hv
  have hx := B.exec
  have hb := B.bytes
  have hr := B.returns
  have hts := atoms_spec (ws := wsX6_bit) B.pre
  have hown : s.vm.findClass RX6 = some m.cls := findClass_of_methodNamed B.named
  have hlocks := B.notSynchronized
  have hP : va_P (dC, dI) vwCl [] s.heap := hP
  have hl := lv_entry ([.int (nI k)]) (n := 1) (Nat.le_of_ble_eq_true rfl)
  rw [lg_entry_eq]
  generalize (lg_sl ([.int (nI k)]) ++ List.replicate (1 - (lg_sl ([.int (nI k)])).length) Slot.unset).toArray = ls at hl ⊢
  have hl : lv_has ls 1 [(0, .int (nI k))] := hl
  refine lv_lconst (v := 1) hx hb dX6_bit_0 (by decide +kernel) ?_
  refine lv_iload_n hx hb dX6_bit_1 rfl (lv_at hl 0 rfl) ?_
  refine lv_bipush (v := nI 63) hx hb dX6_bit_2 (by decide +kernel) ?_
  refine lv_iand hx hb dX6_bit_4 ?_
  refine lv_cvi (pk_andN (by omega) 6 (by decide +kernel)) ?_
  refine lv_lshl (v := slu (1 : Int64) (nI (k % 64))) hx hb dX6_bit_5 rfl ?_
  exact W.lret (v := slu (1 : Int64) (nI (k % 64))) hx hb hr (fun t9 ht hW => ⟨slu (1 : Int64) (nI (k % 64)), rfl, slu_1 (by omega), ht⟩) (fun q h => by cases h) dX6_bit_6
set_option maxHeartbeats 4000000 in
set_option maxRecDepth 100000 in
/-- Word.least -/
theorem c_X6_least (l : Launch) (dC : Nat → ClassId) (dI : Nat → Nat → Nat) (w : Int64) : Met l yX6_least wsX6_least ({ frames := 1, cells := 0, slots := 0, locals := 21 }) (va_Pc [.long w] (fun U => va_P (dC, dI) vwCl [] U.heap ∧ va_K (dC, dI) vwCl [] U)) (vp_Si (fun r => r = oI (fst1 (gb w) 64))) 0 0 (fun _ => False) := by
  refine Met.ofW (cc := cX6_least) (maxL := 2) (ret := (some .int)) (by decide) rfl ?_
  intro p e s m args below meth c s₁ B hml hv
  obtain ⟨rfl, hP, hK⟩ := hv
  have hx := B.exec
  have hb := B.bytes
  have hr := B.returns
  have hts := atoms_spec (ws := wsX6_least) B.pre
  have hown : s.vm.findClass RX6 = some m.cls := findClass_of_methodNamed B.named
  have hlocks := B.notSynchronized
  have hP : va_P (dC, dI) vwCl [] s.heap := hP
  have hl := lv_entry ([.long w]) (n := 2) (Nat.le_of_ble_eq_true rfl)
  rw [lg_entry_eq]
  generalize (lg_sl ([.long w]) ++ List.replicate (2 - (lg_sl ([.long w])).length) Slot.unset).toArray = ls at hl ⊢
  have hl : lv_has ls 2 [(0, .long w)] := hl
  refine lv_lload_n hx hb dX6_least_0 rfl (lv_at hl 0 rfl) ?_
  refine lv_lconst (v := 0) hx hb dX6_least_1 (by decide +kernel) ?_
  refine W.lcmp hx hb dX6_least_2 ?_
  refine lv_if_ne (tgt := 10) hx hb dX6_least_3 (by decide) (fun qc_1 => ?_) (fun qc_1 => ?_)
  · have c_1 : ¬ (w = (0 : Int64)) := fun h9 => qc_1 ((lg_cmp_eq _ _).mpr h9)
    refine lv_lload_n hx hb dX6_least_10 rfl (lv_at hl 0 rfl) ?_
    refine lv_lload_n hx hb dX6_least_11 rfl (lv_at hl 0 rfl) ?_
    refine lv_lneg hx hb dX6_least_12 ?_
    refine lv_land hx hb dX6_least_13 ?_
    refine lv_lconst (v := 1) hx hb dX6_least_14 (by decide +kernel) ?_
    refine lv_lsub hx hb dX6_least_15 ?_
    have hPc := hP.sub (ws' := []) [] rfl
    have hKc := hK.sub (tys' := []) [] rfl
    refine vp_callSi (W.runS (As := [.long ((w &&& (-w)) - (1 : Int64))]) (rest := []) ⟨hx, hb, hml, hown, hts⟩ (c_J13_bitCount_95d88 l dC dI ((w &&& (-w)) - (1 : Int64)) ) (va_cwS 1 hts gX6_least_J13_bitCount_95d88 rfl rfl rfl (by decide +kernel) ⟨Nat.le_of_ble_eq_true rfl, Nat.le_of_ble_eq_true rfl⟩) ⟨fun a U g mk q => by obtain ⟨q0, qP, qK⟩ := q; exact ⟨q0, qP, va_K.moved (u := U) (U := U.calling g mk a) (Vm.Alike.refl U.vm) qK⟩, fun U hU hW => ⟨rfl, by rw [hU]; exact hPc, va_K.moved hW.alike hKc⟩⟩ rfl rfl hl.1 rfl (lv_room (Nat.le_of_ble_eq_true rfl)) dX6_least_16 ⟨Nat.le_of_ble_eq_true rfl, Nat.le_of_ble_eq_true rfl⟩) (fun r_3 hw_2 => ?_)
    subst hw_2
    exact W.iret (v := nI (fb_ct (gb ((w &&& (-w)) - (1 : Int64))) 64)) hx hb hr (fun t9 ht hW => ⟨nI (fb_ct (gb ((w &&& (-w)) - (1 : Int64))) 64), rfl, least_ne c_1, ht⟩) (fun q h => by cases h) dX6_least_19
  · have c_1 : w = (0 : Int64) := (lg_cmp_eq _ _).mp qc_1
    refine lv_iconst (v := -1) hx hb dX6_least_6 (by decide +kernel) ?_
    refine lv_goto (tgt := 19) hx hb dX6_least_7 (by decide) ?_
    exact W.iret (v := -1) hx hb hr (fun t9 ht hW => ⟨-1, rfl, least_0 c_1, ht⟩) (fun q h => by cases h) dX6_least_19
set_option maxHeartbeats 4000000 in
set_option maxRecDepth 100000 in
/-- Word.greatest -/
theorem c_X6_greatest (l : Launch) (dC : Nat → ClassId) (dI : Nat → Nat → Nat) (w : Int64) : Met l yX6_greatest wsX6_greatest ({ frames := 1, cells := 0, slots := 0, locals := 21 }) (va_Pc [.long w] (fun U => va_P (dC, dI) vwCl [] U.heap ∧ va_K (dC, dI) vwCl [] U)) (vp_Si (fun r => r = oI (lst1 (gb w) 64))) 0 0 (fun _ => False) := by
  refine Met.ofW (cc := cX6_greatest) (maxL := 4) (ret := (some .int)) (by decide) rfl ?_
  intro p e s m args below meth c s₁ B hml hv
  obtain ⟨rfl, hP, hK⟩ := hv
  have hx := B.exec
  have hb := B.bytes
  have hr := B.returns
  have hts := atoms_spec (ws := wsX6_greatest) B.pre
  have hown : s.vm.findClass RX6 = some m.cls := findClass_of_methodNamed B.named
  have hlocks := B.notSynchronized
  have hP : va_P (dC, dI) vwCl [] s.heap := hP
  have hl := lv_entry ([.long w]) (n := 4) (Nat.le_of_ble_eq_true rfl)
  rw [lg_entry_eq]
  generalize (lg_sl ([.long w]) ++ List.replicate (4 - (lg_sl ([.long w])).length) Slot.unset).toArray = ls at hl ⊢
  have hl : lv_has ls 4 [(0, .long w)] := hl
  refine lv_lload_n hx hb dX6_greatest_0 rfl (lv_at hl 0 rfl) ?_
  refine lv_lload_n hx hb dX6_greatest_1 rfl (lv_at hl 0 rfl) ?_
  refine lv_iconst (v := nI 1) hx hb dX6_greatest_2 (by decide +kernel) ?_
  refine lv_lushr (v := sru w (nI 1)) hx hb dX6_greatest_3 rfl ?_
  refine lv_lor hx hb dX6_greatest_4 ?_
  refine lv_topl (fun f1 h1 => ?_)
  refine lv_lstore_n (lv' := [(2, .long f1), (0, .long w)]) hx hb dX6_greatest_5 rfl hl (by decide) rfl (fun ls hl => ?_)
  refine lv_lload_n hx hb dX6_greatest_6 rfl (lv_at hl 0 rfl) ?_
  refine lv_lload_n hx hb dX6_greatest_7 rfl (lv_at hl 0 rfl) ?_
  refine lv_iconst (v := nI 2) hx hb dX6_greatest_8 (by decide +kernel) ?_
  refine lv_lushr (v := sru f1 (nI 2)) hx hb dX6_greatest_9 rfl ?_
  refine lv_lor hx hb dX6_greatest_10 ?_
  refine lv_topl (fun f2 h2 => ?_)
  refine lv_lstore_n (lv' := [(2, .long f2), (0, .long w)]) hx hb dX6_greatest_11 rfl hl (by decide) rfl (fun ls hl => ?_)
  refine lv_lload_n hx hb dX6_greatest_12 rfl (lv_at hl 0 rfl) ?_
  refine lv_lload_n hx hb dX6_greatest_13 rfl (lv_at hl 0 rfl) ?_
  refine lv_iconst (v := nI 4) hx hb dX6_greatest_14 (by decide +kernel) ?_
  refine lv_lushr (v := sru f2 (nI 4)) hx hb dX6_greatest_15 rfl ?_
  refine lv_lor hx hb dX6_greatest_16 ?_
  refine lv_topl (fun f3 h3 => ?_)
  refine lv_lstore_n (lv' := [(2, .long f3), (0, .long w)]) hx hb dX6_greatest_17 rfl hl (by decide) rfl (fun ls hl => ?_)
  refine lv_lload_n hx hb dX6_greatest_18 rfl (lv_at hl 0 rfl) ?_
  refine lv_lload_n hx hb dX6_greatest_19 rfl (lv_at hl 0 rfl) ?_
  refine lv_bipush (v := nI 8) hx hb dX6_greatest_20 (by decide +kernel) ?_
  refine lv_lushr (v := sru f3 (nI 8)) hx hb dX6_greatest_22 rfl ?_
  refine lv_lor hx hb dX6_greatest_23 ?_
  refine lv_topl (fun f4 h4 => ?_)
  refine lv_lstore_n (lv' := [(2, .long f4), (0, .long w)]) hx hb dX6_greatest_24 rfl hl (by decide) rfl (fun ls hl => ?_)
  refine lv_lload_n hx hb dX6_greatest_25 rfl (lv_at hl 0 rfl) ?_
  refine lv_lload_n hx hb dX6_greatest_26 rfl (lv_at hl 0 rfl) ?_
  refine lv_bipush (v := nI 16) hx hb dX6_greatest_27 (by decide +kernel) ?_
  refine lv_lushr (v := sru f4 (nI 16)) hx hb dX6_greatest_29 rfl ?_
  refine lv_lor hx hb dX6_greatest_30 ?_
  refine lv_topl (fun f5 h5 => ?_)
  refine lv_lstore_n (lv' := [(2, .long f5), (0, .long w)]) hx hb dX6_greatest_31 rfl hl (by decide) rfl (fun ls hl => ?_)
  refine lv_lload_n hx hb dX6_greatest_32 rfl (lv_at hl 0 rfl) ?_
  refine lv_lload_n hx hb dX6_greatest_33 rfl (lv_at hl 0 rfl) ?_
  refine lv_bipush (v := nI 32) hx hb dX6_greatest_34 (by decide +kernel) ?_
  refine lv_lushr (v := sru f5 (nI 32)) hx hb dX6_greatest_36 rfl ?_
  refine lv_lor hx hb dX6_greatest_37 ?_
  refine lv_topl (fun f6 h6 => ?_)
  refine lv_lstore_n (lv' := [(2, .long f6), (0, .long w)]) hx hb dX6_greatest_38 rfl hl (by decide) rfl (fun ls hl => ?_)
  refine lv_lload_n hx hb dX6_greatest_39 rfl (lv_at hl 0 rfl) ?_
  have hPc := hP.sub (ws' := []) [] rfl
  have hKc := hK.sub (tys' := []) [] rfl
  refine vp_callSi (W.runS (As := [.long f6]) (rest := []) ⟨hx, hb, hml, hown, hts⟩ (c_J13_bitCount_95d88 l dC dI f6 ) (va_cwS 1 hts gX6_greatest_J13_bitCount_95d88 rfl rfl rfl (by decide +kernel) ⟨Nat.le_of_ble_eq_true rfl, Nat.le_of_ble_eq_true rfl⟩) ⟨fun a U g mk q => by obtain ⟨q0, qP, qK⟩ := q; exact ⟨q0, qP, va_K.moved (u := U) (U := U.calling g mk a) (Vm.Alike.refl U.vm) qK⟩, fun U hU hW => ⟨rfl, by rw [hU]; exact hPc, va_K.moved hW.alike hKc⟩⟩ rfl rfl hl.1 rfl (lv_room (Nat.le_of_ble_eq_true rfl)) dX6_greatest_40 ⟨Nat.le_of_ble_eq_true rfl, Nat.le_of_ble_eq_true rfl⟩) (fun r_2 hw_1 => ?_)
  subst hw_1
  refine lv_iconst (v := nI 1) hx hb dX6_greatest_43 (by decide +kernel) ?_
  refine lv_isub hx hb dX6_greatest_44 ?_
  exact W.iret (v := (nI (fb_ct (gb f6) 64)) - (nI 1)) hx hb hr (fun t9 ht hW => ⟨(nI (fb_ct (gb f6) 64)) - (nI 1), rfl, greatest_eq (by
          have g1 : Fil w f1 2 := by rw [h1]; exact fil_s (by decide) (fil_1 w)
          have g2 : Fil w f2 4 := by rw [h2]; exact fil_s (by decide) g1
          have g3 : Fil w f3 8 := by rw [h3]; exact fil_s (by decide) g2
          have g4 : Fil w f4 16 := by rw [h4]; exact fil_s (by decide) g3
          have g5 : Fil w f5 32 := by rw [h5]; exact fil_s (by decide) g4
          have g6 : Fil w f6 64 := by rw [h6]; exact fil_s (by decide) g5
          exact g6), ht⟩) (fun q h => by cases h) dX6_greatest_45
set_option maxHeartbeats 4000000 in
set_option maxRecDepth 100000 in
/-- Word.after -/
theorem c_X6_after (l : Launch) (dC : Nat → ClassId) (dI : Nat → Nat → Nat) (w : Int64) (k : Nat) (hk : k < 64) : Met l yX6_after wsX6_after ({ frames := 2, cells := 0, slots := 0, locals := 42 }) (va_Pc [.long w, .int (nI k)] (fun U => va_P (dC, dI) vwCl [] U.heap ∧ va_K (dC, dI) vwCl [] U)) (vp_Si (fun r => r = oI (nxt1 (gb w) k 64))) 0 0 (fun _ => False) := by
  refine Met.ofW (cc := cX6_after) (maxL := 3) (ret := (some .int)) (by decide) rfl ?_
  intro p e s m args below meth c s₁ B hml hv
  obtain ⟨rfl, hP, hK⟩ := hv
  have hx := B.exec
  have hb := B.bytes
  have hr := B.returns
  have hts := atoms_spec (ws := wsX6_after) B.pre
  have hown : s.vm.findClass RX6 = some m.cls := findClass_of_methodNamed B.named
  have hlocks := B.notSynchronized
  have hP : va_P (dC, dI) vwCl [] s.heap := hP
  have hl := lv_entry ([.long w, .int (nI k)]) (n := 3) (Nat.le_of_ble_eq_true rfl)
  rw [lg_entry_eq]
  generalize (lg_sl ([.long w, .int (nI k)]) ++ List.replicate (3 - (lg_sl ([.long w, .int (nI k)])).length) Slot.unset).toArray = ls at hl ⊢
  have hl : lv_has ls 3 [(0, .long w), (2, .int (nI k))] := hl
  refine lv_lload_n hx hb dX6_after_0 rfl (lv_at hl 0 rfl) ?_
  refine lv_ldc2 (v := (-1)) hx hb hown (hts (.constantLong RX6 15 (-1)) (by decide +kernel)) dX6_after_1 ?_
  refine lv_iload_n hx hb dX6_after_4 rfl (lv_at hl 1 rfl) ?_
  refine lv_bipush (v := nI 63) hx hb dX6_after_5 (by decide +kernel) ?_
  refine lv_iand hx hb dX6_after_7 ?_
  refine lv_cvi (pk_andN (by omega) 6 (by decide +kernel)) ?_
  refine lv_lshl (v := slu (-1 : Int64) (nI (k % 64))) hx hb dX6_after_8 rfl ?_
  refine lv_iconst (v := nI 1) hx hb dX6_after_9 (by decide +kernel) ?_
  refine lv_lshl (v := slu (slu (-1 : Int64) (nI (k % 64))) (nI 1)) hx hb dX6_after_10 rfl ?_
  refine lv_land hx hb dX6_after_11 ?_
  have hPc := hP.sub (ws' := []) [] rfl
  have hKc := hK.sub (tys' := []) [] rfl
  refine vp_callSi (W.runS (As := [.long (w &&& (slu (slu (-1 : Int64) (nI (k % 64))) (nI 1)))]) (rest := []) ⟨hx, hb, hml, hown, hts⟩ (c_X6_least l dC dI (w &&& (slu (slu (-1 : Int64) (nI (k % 64))) (nI 1))) ) (va_cwS 1 hts gX6_after_X6_least rfl rfl rfl (by decide +kernel) ⟨Nat.le_of_ble_eq_true rfl, Nat.le_of_ble_eq_true rfl⟩) ⟨fun a U g mk q => by obtain ⟨q0, qP, qK⟩ := q; exact ⟨q0, qP, va_K.moved (u := U) (U := U.calling g mk a) (Vm.Alike.refl U.vm) qK⟩, fun U hU hW => ⟨rfl, by rw [hU]; exact hPc, va_K.moved hW.alike hKc⟩⟩ rfl rfl hl.1 rfl (lv_room (Nat.le_of_ble_eq_true rfl)) dX6_after_12 ⟨Nat.le_of_ble_eq_true rfl, Nat.le_of_ble_eq_true rfl⟩) (fun r_2 hw_1 => ?_)
  subst hw_1
  exact W.iret (v := oI (fst1 (gb (w &&& (slu (slu (-1 : Int64) (nI (k % 64))) (nI 1)))) 64)) hx hb hr (fun t9 ht hW => ⟨oI (fst1 (gb (w &&& (slu (slu (-1 : Int64) (nI (k % 64))) (nI 1)))) 64), rfl, by rw [Nat.mod_eq_of_lt hk]; exact congrArg oI (after_eq hk), ht⟩) (fun q h => by cases h) dX6_after_15
set_option maxHeartbeats 4000000 in
set_option maxRecDepth 100000 in
/-- Word.before -/
theorem c_X6_before (l : Launch) (dC : Nat → ClassId) (dI : Nat → Nat → Nat) (w : Int64) (k : Nat) (hk : k < 64) : Met l yX6_before wsX6_before ({ frames := 2, cells := 0, slots := 0, locals := 44 }) (va_Pc [.long w, .int (nI k)] (fun U => va_P (dC, dI) vwCl [] U.heap ∧ va_K (dC, dI) vwCl [] U)) (vp_Si (fun r => r = oI (lst1 (gb w) k))) 0 0 (fun _ => False) := by
  refine Met.ofW (cc := cX6_before) (maxL := 3) (ret := (some .int)) (by decide) rfl ?_
  intro p e s m args below meth c s₁ B hml hv
  obtain ⟨rfl, hP, hK⟩ := hv
  have hx := B.exec
  have hb := B.bytes
  have hr := B.returns
  have hts := atoms_spec (ws := wsX6_before) B.pre
  have hown : s.vm.findClass RX6 = some m.cls := findClass_of_methodNamed B.named
  have hlocks := B.notSynchronized
  have hP : va_P (dC, dI) vwCl [] s.heap := hP
  have hl := lv_entry ([.long w, .int (nI k)]) (n := 3) (Nat.le_of_ble_eq_true rfl)
  rw [lg_entry_eq]
  generalize (lg_sl ([.long w, .int (nI k)]) ++ List.replicate (3 - (lg_sl ([.long w, .int (nI k)])).length) Slot.unset).toArray = ls at hl ⊢
  have hl : lv_has ls 3 [(0, .long w), (2, .int (nI k))] := hl
  refine lv_lload_n hx hb dX6_before_0 rfl (lv_at hl 0 rfl) ?_
  refine lv_iload_n hx hb dX6_before_1 rfl (lv_at hl 1 rfl) ?_
  have hPc := hP.sub (ws' := []) [] rfl
  have hKc := hK.sub (tys' := []) [] rfl
  refine vp_callSl (W.runS (As := [.int (nI k)]) (rest := [.long w]) ⟨hx, hb, hml, hown, hts⟩ (c_X6_bit l dC dI k (by omega)) (va_cwS 1 hts gX6_before_X6_bit rfl rfl rfl (by decide +kernel) ⟨Nat.le_of_ble_eq_true rfl, Nat.le_of_ble_eq_true rfl⟩) ⟨fun a U g mk q => by obtain ⟨q0, qP, qK⟩ := q; exact ⟨q0, qP, va_K.moved (u := U) (U := U.calling g mk a) (Vm.Alike.refl U.vm) qK⟩, fun U hU hW => ⟨rfl, by rw [hU]; exact hPc, va_K.moved hW.alike hKc⟩⟩ rfl rfl hl.1 rfl (lv_room (Nat.le_of_ble_eq_true rfl)) dX6_before_2 ⟨Nat.le_of_ble_eq_true rfl, Nat.le_of_ble_eq_true rfl⟩) (fun r_2 hw_1 => ?_)
  subst hw_1
  refine lv_lconst (v := 1) hx hb dX6_before_5 (by decide +kernel) ?_
  refine lv_lsub hx hb dX6_before_6 ?_
  refine lv_land hx hb dX6_before_7 ?_
  have hPc := hP.sub (ws' := []) [] rfl
  have hKc := hK.sub (tys' := []) [] rfl
  refine vp_callSi (W.runS (As := [.long (w &&& ((bit1 (k % 64)) - (1 : Int64)))]) (rest := []) ⟨hx, hb, hml, hown, hts⟩ (c_X6_greatest l dC dI (w &&& ((bit1 (k % 64)) - (1 : Int64))) ) (va_cwS 1 hts gX6_before_X6_greatest rfl rfl rfl (by decide +kernel) ⟨Nat.le_of_ble_eq_true rfl, Nat.le_of_ble_eq_true rfl⟩) ⟨fun a U g mk q => by obtain ⟨q0, qP, qK⟩ := q; exact ⟨q0, qP, va_K.moved (u := U) (U := U.calling g mk a) (Vm.Alike.refl U.vm) qK⟩, fun U hU hW => ⟨rfl, by rw [hU]; exact hPc, va_K.moved hW.alike hKc⟩⟩ rfl rfl hl.1 rfl (lv_room (Nat.le_of_ble_eq_true rfl)) dX6_before_8 ⟨Nat.le_of_ble_eq_true rfl, Nat.le_of_ble_eq_true rfl⟩) (fun r_4 hw_3 => ?_)
  subst hw_3
  exact W.iret (v := oI (lst1 (gb (w &&& ((bit1 (k % 64)) - (1 : Int64)))) 64)) hx hb hr (fun t9 ht hW => ⟨oI (lst1 (gb (w &&& ((bit1 (k % 64)) - (1 : Int64)))) 64), rfl, by rw [Nat.mod_eq_of_lt hk]; exact congrArg oI (before_eq hk), ht⟩) (fun q h => by cases h) dX6_before_11
set_option maxHeartbeats 4000000 in
set_option maxRecDepth 100000 in
/-- Word.searchLength -/
theorem c_X6_searchLength (l : Launch) (dC : Nat → ClassId) (dI : Nat → Nat → Nat) (w : Int64) (k : Nat) (hk : k < 64) : Met l yX6_searchLength wsX6_searchLength ({ frames := 2, cells := 0, slots := 0, locals := 44 }) (va_Pc [.long w, .int (nI k)] (fun U => va_P (dC, dI) vwCl [] U.heap ∧ va_K (dC, dI) vwCl [] U)) (vp_Si (fun r => r = nI (slen (gb w) k 64))) 0 0 (fun _ => False) := by
  refine Met.ofW (cc := cX6_searchLength) (maxL := 4) (ret := (some .int)) (by decide) rfl ?_
  intro p e s m args below meth c s₁ B hml hv
  obtain ⟨rfl, hP, hK⟩ := hv
  have hx := B.exec
  have hb := B.bytes
  have hr := B.returns
  have hts := atoms_spec (ws := wsX6_searchLength) B.pre
  have hown : s.vm.findClass RX6 = some m.cls := findClass_of_methodNamed B.named
  have hlocks := B.notSynchronized
  have hP : va_P (dC, dI) vwCl [] s.heap := hP
  have hl := lv_entry ([.long w, .int (nI k)]) (n := 4) (Nat.le_of_ble_eq_true rfl)
  rw [lg_entry_eq]
  generalize (lg_sl ([.long w, .int (nI k)]) ++ List.replicate (4 - (lg_sl ([.long w, .int (nI k)])).length) Slot.unset).toArray = ls at hl ⊢
  have hl : lv_has ls 4 [(0, .long w), (2, .int (nI k))] := hl
  refine lv_iload_n hx hb dX6_searchLength_0 rfl (lv_at hl 1 rfl) ?_
  refine lv_lload_n hx hb dX6_searchLength_1 rfl (lv_at hl 0 rfl) ?_
  have hPc := hP.sub (ws' := []) [] rfl
  have hKc := hK.sub (tys' := []) [] rfl
  refine vp_callSi (W.runS (As := [.long w]) (rest := [.int (nI k)]) ⟨hx, hb, hml, hown, hts⟩ (c_X6_least l dC dI w ) (va_cwS 1 hts gX6_searchLength_X6_least rfl rfl rfl (by decide +kernel) ⟨Nat.le_of_ble_eq_true rfl, Nat.le_of_ble_eq_true rfl⟩) ⟨fun a U g mk q => by obtain ⟨q0, qP, qK⟩ := q; exact ⟨q0, qP, va_K.moved (u := U) (U := U.calling g mk a) (Vm.Alike.refl U.vm) qK⟩, fun U hU hW => ⟨rfl, by rw [hU]; exact hPc, va_K.moved hW.alike hKc⟩⟩ rfl rfl hl.1 rfl (lv_room (Nat.le_of_ble_eq_true rfl)) dX6_searchLength_2 ⟨Nat.le_of_ble_eq_true rfl, Nat.le_of_ble_eq_true rfl⟩) (fun r_2 hw_1 => ?_)
  subst hw_1
  rcases hz1 : fst1 (gb w) 64 with _ | z1
  · refine lv_cvi ((rfl : oI none = -1)) ?_
    refine lv_icmp_lt (tgt := 16) hx hb dX6_searchLength_5 (by decide) (fun qc_3 => ?_) (fun qc_3 => ?_)
    · exact absurd qc_3 (nlt_m1 (by omega))
    · refine lv_iload_n hx hb dX6_searchLength_8 rfl (lv_at hl 1 rfl) ?_
      refine lv_lload_n hx hb dX6_searchLength_9 rfl (lv_at hl 0 rfl) ?_
      have hPc := hP.sub (ws' := []) [] rfl
      have hKc := hK.sub (tys' := []) [] rfl
      refine vp_callSi (W.runS (As := [.long w]) (rest := [.int (nI k)]) ⟨hx, hb, hml, hown, hts⟩ (c_X6_greatest l dC dI w ) (va_cwS 1 hts gX6_searchLength_X6_greatest rfl rfl rfl (by decide +kernel) ⟨Nat.le_of_ble_eq_true rfl, Nat.le_of_ble_eq_true rfl⟩) ⟨fun a U g mk q => by obtain ⟨q0, qP, qK⟩ := q; exact ⟨q0, qP, va_K.moved (u := U) (U := U.calling g mk a) (Vm.Alike.refl U.vm) qK⟩, fun U hU hW => ⟨rfl, by rw [hU]; exact hPc, va_K.moved hW.alike hKc⟩⟩ rfl rfl hl.1 rfl (lv_room (Nat.le_of_ble_eq_true rfl)) dX6_searchLength_10 ⟨Nat.le_of_ble_eq_true rfl, Nat.le_of_ble_eq_true rfl⟩) (fun r_5 hw_4 => ?_)
      subst hw_4
      rcases hz2 : lst1 (gb w) 64 with _ | z2
      · refine lv_cvi ((rfl : oI none = -1)) ?_
        refine lv_icmp_lt (tgt := 20) hx hb dX6_searchLength_13 (by decide) (fun qc_6 => ?_) (fun qc_6 => ?_)
        · exact absurd qc_6 (nlt_m1 (by omega))
        · refine lv_iconst (v := nI 1) hx hb dX6_searchLength_16 (by decide +kernel) ?_
          refine lv_goto (tgt := 21) hx hb dX6_searchLength_17 (by decide) ?_
          refine lv_istore_n (lv' := [(3, .int (nI 1)), (0, .long w), (2, .int (nI k))]) hx hb dX6_searchLength_21 rfl hl (by decide) rfl (fun ls hl => ?_)
          refine lv_iload_n hx hb dX6_searchLength_22 rfl (lv_at hl 0 rfl) ?_
          refine lv_if_eq (tgt := 30) hx hb dX6_searchLength_23 (by decide) (fun qc_7 => ?_) (fun qc_7 => ?_)
          · have c_7 : 1 = 0 := (nI_eq (a := 1) (b := 0) (by omega) (by omega)).mp qc_7
            exact absurd c_7 (by decide)
          · have c_7 : ¬ 1 = 0 := fun h9 => qc_7 ((nI_eq (a := 1) (b := 0) (by omega) (by omega)).mpr h9)
            refine lv_iconst (v := nI 1) hx hb dX6_searchLength_26 (by decide +kernel) ?_
            refine lv_goto (tgt := 31) hx hb dX6_searchLength_27 (by decide) ?_
            exact W.iret (v := nI 1) hx hb hr (fun t9 ht hW => ⟨nI 1, rfl, congrArg nI (by first | exact (slen_lt hz1 (by omega)).symm | exact (slen_ge hz2 (by omega)).symm | exact (slen_n hz2).symm | exact (slen_2 hz1 (by omega) hz2 (by omega)).symm | exact absurd hz2 (fst_lst hz1)), ht⟩) (fun q h => by cases h) dX6_searchLength_31
      · refine lv_cvi ((rfl : oI (some z2) = nI z2)) ?_
        have hb_z2 := (lst1_some hz2).1
        refine lv_icmp_lt (tgt := 20) hx hb dX6_searchLength_13 (by decide) (fun qc_8 => ?_) (fun qc_8 => ?_)
        · have c_8 : k < z2 := (nI_ltI (a := k) (b := z2) (by omega) (by omega)).mp qc_8
          refine lv_iconst (v := nI 0) hx hb dX6_searchLength_20 (by decide +kernel) ?_
          refine lv_istore_n (lv' := [(3, .int (nI 0)), (0, .long w), (2, .int (nI k))]) hx hb dX6_searchLength_21 rfl hl (by decide) rfl (fun ls hl => ?_)
          refine lv_iload_n hx hb dX6_searchLength_22 rfl (lv_at hl 0 rfl) ?_
          refine lv_if_eq (tgt := 30) hx hb dX6_searchLength_23 (by decide) (fun qc_9 => ?_) (fun qc_9 => ?_)
          · have c_9 : 0 = 0 := (nI_eq (a := 0) (b := 0) (by omega) (by omega)).mp qc_9
            refine lv_iconst (v := nI 2) hx hb dX6_searchLength_30 (by decide +kernel) ?_
            exact W.iret (v := nI 2) hx hb hr (fun t9 ht hW => ⟨nI 2, rfl, congrArg nI (by first | exact (slen_lt hz1 (by omega)).symm | exact (slen_ge hz2 (by omega)).symm | exact (slen_n hz2).symm | exact (slen_2 hz1 (by omega) hz2 (by omega)).symm | exact absurd hz2 (fst_lst hz1)), ht⟩) (fun q h => by cases h) dX6_searchLength_31
          · have c_9 : ¬ 0 = 0 := fun h9 => qc_9 ((nI_eq (a := 0) (b := 0) (by omega) (by omega)).mpr h9)
            exact absurd c_9 (by decide)
        · have c_8 : ¬ k < z2 := fun h9 => qc_8 ((nI_ltI (a := k) (b := z2) (by omega) (by omega)).mpr h9)
          refine lv_iconst (v := nI 1) hx hb dX6_searchLength_16 (by decide +kernel) ?_
          refine lv_goto (tgt := 21) hx hb dX6_searchLength_17 (by decide) ?_
          refine lv_istore_n (lv' := [(3, .int (nI 1)), (0, .long w), (2, .int (nI k))]) hx hb dX6_searchLength_21 rfl hl (by decide) rfl (fun ls hl => ?_)
          refine lv_iload_n hx hb dX6_searchLength_22 rfl (lv_at hl 0 rfl) ?_
          refine lv_if_eq (tgt := 30) hx hb dX6_searchLength_23 (by decide) (fun qc_10 => ?_) (fun qc_10 => ?_)
          · have c_10 : 1 = 0 := (nI_eq (a := 1) (b := 0) (by omega) (by omega)).mp qc_10
            exact absurd c_10 (by decide)
          · have c_10 : ¬ 1 = 0 := fun h9 => qc_10 ((nI_eq (a := 1) (b := 0) (by omega) (by omega)).mpr h9)
            refine lv_iconst (v := nI 1) hx hb dX6_searchLength_26 (by decide +kernel) ?_
            refine lv_goto (tgt := 31) hx hb dX6_searchLength_27 (by decide) ?_
            exact W.iret (v := nI 1) hx hb hr (fun t9 ht hW => ⟨nI 1, rfl, congrArg nI (by first | exact (slen_lt hz1 (by omega)).symm | exact (slen_ge hz2 (by omega)).symm | exact (slen_n hz2).symm | exact (slen_2 hz1 (by omega) hz2 (by omega)).symm | exact absurd hz2 (fst_lst hz1)), ht⟩) (fun q h => by cases h) dX6_searchLength_31
  · refine lv_cvi ((rfl : oI (some z1) = nI z1)) ?_
    have hb_z1 := (fst1_some hz1).1
    refine lv_icmp_lt (tgt := 16) hx hb dX6_searchLength_5 (by decide) (fun qc_11 => ?_) (fun qc_11 => ?_)
    · have c_11 : k < z1 := (nI_ltI (a := k) (b := z1) (by omega) (by omega)).mp qc_11
      refine lv_iconst (v := nI 1) hx hb dX6_searchLength_16 (by decide +kernel) ?_
      refine lv_goto (tgt := 21) hx hb dX6_searchLength_17 (by decide) ?_
      refine lv_istore_n (lv' := [(3, .int (nI 1)), (0, .long w), (2, .int (nI k))]) hx hb dX6_searchLength_21 rfl hl (by decide) rfl (fun ls hl => ?_)
      refine lv_iload_n hx hb dX6_searchLength_22 rfl (lv_at hl 0 rfl) ?_
      refine lv_if_eq (tgt := 30) hx hb dX6_searchLength_23 (by decide) (fun qc_12 => ?_) (fun qc_12 => ?_)
      · have c_12 : 1 = 0 := (nI_eq (a := 1) (b := 0) (by omega) (by omega)).mp qc_12
        exact absurd c_12 (by decide)
      · have c_12 : ¬ 1 = 0 := fun h9 => qc_12 ((nI_eq (a := 1) (b := 0) (by omega) (by omega)).mpr h9)
        refine lv_iconst (v := nI 1) hx hb dX6_searchLength_26 (by decide +kernel) ?_
        refine lv_goto (tgt := 31) hx hb dX6_searchLength_27 (by decide) ?_
        exact W.iret (v := nI 1) hx hb hr (fun t9 ht hW => ⟨nI 1, rfl, congrArg nI (by first | exact (slen_lt hz1 (by omega)).symm | exact (slen_ge hz2 (by omega)).symm | exact (slen_n hz2).symm | exact (slen_2 hz1 (by omega) hz2 (by omega)).symm | exact absurd hz2 (fst_lst hz1)), ht⟩) (fun q h => by cases h) dX6_searchLength_31
    · have c_11 : ¬ k < z1 := fun h9 => qc_11 ((nI_ltI (a := k) (b := z1) (by omega) (by omega)).mpr h9)
      refine lv_iload_n hx hb dX6_searchLength_8 rfl (lv_at hl 1 rfl) ?_
      refine lv_lload_n hx hb dX6_searchLength_9 rfl (lv_at hl 0 rfl) ?_
      have hPc := hP.sub (ws' := []) [] rfl
      have hKc := hK.sub (tys' := []) [] rfl
      refine vp_callSi (W.runS (As := [.long w]) (rest := [.int (nI k)]) ⟨hx, hb, hml, hown, hts⟩ (c_X6_greatest l dC dI w ) (va_cwS 1 hts gX6_searchLength_X6_greatest rfl rfl rfl (by decide +kernel) ⟨Nat.le_of_ble_eq_true rfl, Nat.le_of_ble_eq_true rfl⟩) ⟨fun a U g mk q => by obtain ⟨q0, qP, qK⟩ := q; exact ⟨q0, qP, va_K.moved (u := U) (U := U.calling g mk a) (Vm.Alike.refl U.vm) qK⟩, fun U hU hW => ⟨rfl, by rw [hU]; exact hPc, va_K.moved hW.alike hKc⟩⟩ rfl rfl hl.1 rfl (lv_room (Nat.le_of_ble_eq_true rfl)) dX6_searchLength_10 ⟨Nat.le_of_ble_eq_true rfl, Nat.le_of_ble_eq_true rfl⟩) (fun r_14 hw_13 => ?_)
      subst hw_13
      rcases hz2 : lst1 (gb w) 64 with _ | z2
      · refine lv_cvi ((rfl : oI none = -1)) ?_
        refine lv_icmp_lt (tgt := 20) hx hb dX6_searchLength_13 (by decide) (fun qc_15 => ?_) (fun qc_15 => ?_)
        · exact absurd qc_15 (nlt_m1 (by omega))
        · refine lv_iconst (v := nI 1) hx hb dX6_searchLength_16 (by decide +kernel) ?_
          refine lv_goto (tgt := 21) hx hb dX6_searchLength_17 (by decide) ?_
          refine lv_istore_n (lv' := [(3, .int (nI 1)), (0, .long w), (2, .int (nI k))]) hx hb dX6_searchLength_21 rfl hl (by decide) rfl (fun ls hl => ?_)
          refine lv_iload_n hx hb dX6_searchLength_22 rfl (lv_at hl 0 rfl) ?_
          refine lv_if_eq (tgt := 30) hx hb dX6_searchLength_23 (by decide) (fun qc_16 => ?_) (fun qc_16 => ?_)
          · have c_16 : 1 = 0 := (nI_eq (a := 1) (b := 0) (by omega) (by omega)).mp qc_16
            exact absurd c_16 (by decide)
          · have c_16 : ¬ 1 = 0 := fun h9 => qc_16 ((nI_eq (a := 1) (b := 0) (by omega) (by omega)).mpr h9)
            refine lv_iconst (v := nI 1) hx hb dX6_searchLength_26 (by decide +kernel) ?_
            refine lv_goto (tgt := 31) hx hb dX6_searchLength_27 (by decide) ?_
            exact W.iret (v := nI 1) hx hb hr (fun t9 ht hW => ⟨nI 1, rfl, congrArg nI (by first | exact (slen_lt hz1 (by omega)).symm | exact (slen_ge hz2 (by omega)).symm | exact (slen_n hz2).symm | exact (slen_2 hz1 (by omega) hz2 (by omega)).symm | exact absurd hz2 (fst_lst hz1)), ht⟩) (fun q h => by cases h) dX6_searchLength_31
      · refine lv_cvi ((rfl : oI (some z2) = nI z2)) ?_
        have hb_z2 := (lst1_some hz2).1
        refine lv_icmp_lt (tgt := 20) hx hb dX6_searchLength_13 (by decide) (fun qc_17 => ?_) (fun qc_17 => ?_)
        · have c_17 : k < z2 := (nI_ltI (a := k) (b := z2) (by omega) (by omega)).mp qc_17
          refine lv_iconst (v := nI 0) hx hb dX6_searchLength_20 (by decide +kernel) ?_
          refine lv_istore_n (lv' := [(3, .int (nI 0)), (0, .long w), (2, .int (nI k))]) hx hb dX6_searchLength_21 rfl hl (by decide) rfl (fun ls hl => ?_)
          refine lv_iload_n hx hb dX6_searchLength_22 rfl (lv_at hl 0 rfl) ?_
          refine lv_if_eq (tgt := 30) hx hb dX6_searchLength_23 (by decide) (fun qc_18 => ?_) (fun qc_18 => ?_)
          · have c_18 : 0 = 0 := (nI_eq (a := 0) (b := 0) (by omega) (by omega)).mp qc_18
            refine lv_iconst (v := nI 2) hx hb dX6_searchLength_30 (by decide +kernel) ?_
            exact W.iret (v := nI 2) hx hb hr (fun t9 ht hW => ⟨nI 2, rfl, congrArg nI (by first | exact (slen_lt hz1 (by omega)).symm | exact (slen_ge hz2 (by omega)).symm | exact (slen_n hz2).symm | exact (slen_2 hz1 (by omega) hz2 (by omega)).symm | exact absurd hz2 (fst_lst hz1)), ht⟩) (fun q h => by cases h) dX6_searchLength_31
          · have c_18 : ¬ 0 = 0 := fun h9 => qc_18 ((nI_eq (a := 0) (b := 0) (by omega) (by omega)).mpr h9)
            exact absurd c_18 (by decide)
        · have c_17 : ¬ k < z2 := fun h9 => qc_17 ((nI_ltI (a := k) (b := z2) (by omega) (by omega)).mpr h9)
          refine lv_iconst (v := nI 1) hx hb dX6_searchLength_16 (by decide +kernel) ?_
          refine lv_goto (tgt := 21) hx hb dX6_searchLength_17 (by decide) ?_
          refine lv_istore_n (lv' := [(3, .int (nI 1)), (0, .long w), (2, .int (nI k))]) hx hb dX6_searchLength_21 rfl hl (by decide) rfl (fun ls hl => ?_)
          refine lv_iload_n hx hb dX6_searchLength_22 rfl (lv_at hl 0 rfl) ?_
          refine lv_if_eq (tgt := 30) hx hb dX6_searchLength_23 (by decide) (fun qc_19 => ?_) (fun qc_19 => ?_)
          · have c_19 : 1 = 0 := (nI_eq (a := 1) (b := 0) (by omega) (by omega)).mp qc_19
            exact absurd c_19 (by decide)
          · have c_19 : ¬ 1 = 0 := fun h9 => qc_19 ((nI_eq (a := 1) (b := 0) (by omega) (by omega)).mpr h9)
            refine lv_iconst (v := nI 1) hx hb dX6_searchLength_26 (by decide +kernel) ?_
            refine lv_goto (tgt := 31) hx hb dX6_searchLength_27 (by decide) ?_
            exact W.iret (v := nI 1) hx hb hr (fun t9 ht hW => ⟨nI 1, rfl, congrArg nI (by first | exact (slen_lt hz1 (by omega)).symm | exact (slen_ge hz2 (by omega)).symm | exact (slen_n hz2).symm | exact (slen_2 hz1 (by omega) hz2 (by omega)).symm | exact absurd hz2 (fst_lst hz1)), ht⟩) (fun q h => by cases h) dX6_searchLength_31
set_option maxHeartbeats 4000000 in
set_option maxRecDepth 100000 in
/-- Word.treeCount -/
theorem c_X6_treeCount (l : Launch) (dC : Nat → ClassId) (dI : Nat → Nat → Nat) (w : Int64) : Met l yX6_treeCount wsX6_treeCount ({ frames := 0, cells := 0, slots := 0, locals := 0 }) (va_Pc [.long w] (fun U => va_P (dC, dI) vwCl [] U.heap ∧ va_K (dC, dI) vwCl [] U)) (vp_Si (fun r => r = nI (tcw w))) 0 0 (fun _ => False) := by
  refine Met.ofW (cc := cX6_treeCount) (maxL := 6) (ret := (some .int)) (by decide) rfl ?_
  intro p e s m args below meth c s₁ B hml hv
  obtain ⟨rfl, hP, hK⟩ := hv
  have hx := B.exec
  have hb := B.bytes
  have hr := B.returns
  have hts := atoms_spec (ws := wsX6_treeCount) B.pre
  have hown : s.vm.findClass RX6 = some m.cls := findClass_of_methodNamed B.named
  have hlocks := B.notSynchronized
  have hP : va_P (dC, dI) vwCl [] s.heap := hP
  have hl := lv_entry ([.long w]) (n := 6) (Nat.le_of_ble_eq_true rfl)
  rw [lg_entry_eq]
  generalize (lg_sl ([.long w]) ++ List.replicate (6 - (lg_sl ([.long w])).length) Slot.unset).toArray = ls at hl ⊢
  have hl : lv_has ls 6 [(0, .long w)] := hl
  refine lv_lload_n hx hb dX6_treeCount_0 rfl (lv_at hl 0 rfl) ?_
  refine lv_lconst (v := 0) hx hb dX6_treeCount_1 (by decide +kernel) ?_
  refine W.lcmp hx hb dX6_treeCount_2 ?_
  refine lv_if_ne (tgt := 8) hx hb dX6_treeCount_3 (by decide) (fun qc_1 => ?_) (fun qc_1 => ?_)
  · have c_1 : ¬ (w = (0 : Int64)) := fun h9 => qc_1 ((lg_cmp_eq _ _).mpr h9)
    refine lv_lload_n hx hb dX6_treeCount_8 rfl (lv_at hl 0 rfl) ?_
    refine lv_lload_n hx hb dX6_treeCount_9 rfl (lv_at hl 0 rfl) ?_
    refine lv_lconst (v := 1) hx hb dX6_treeCount_10 (by decide +kernel) ?_
    refine lv_lsub hx hb dX6_treeCount_11 ?_
    refine lv_land hx hb dX6_treeCount_12 ?_
    refine lv_topl (fun v hv => ?_)
    refine lv_lstore_n (lv' := [(2, .long v), (0, .long w)]) hx hb dX6_treeCount_13 rfl hl (by decide) rfl (fun ls hl => ?_)
    refine lv_iconst (v := nI 0) hx hb dX6_treeCount_14 (by decide +kernel) ?_
    refine lv_istore (lv' := [(4, .int (nI 0)), (2, .long v), (0, .long w)]) hx hb dX6_treeCount_15 hl (by decide) rfl (fun ls hl => ?_)
    refine lv_iconst (v := nI 0) hx hb dX6_treeCount_17 (by decide +kernel) ?_
    refine lv_istore (lv' := [(5, .int (nI 0)), (4, .int (nI 0)), (2, .long v), (0, .long w)]) hx hb dX6_treeCount_18 hl (by decide) rfl (fun ls hl => ?_)
    have key_20_2 : ∀ (fu : Nat) (i : Nat) (n : Nat) (hi : i ≤ 8) (hn : n = fb_ct (blk v) i) (hfu : 8 - i < fu) (ls : Array Slot) (hl : lv_has ls 6 [(5, .int (nI i)), (4, .int (nI n)), (2, .long v), (0, .long w)]), W p l e (headSpec wsX6_treeCount ({ frames := 0, cells := 0, slots := 0, locals := 0 })).room s m ([.long w] : List Value).toArray below meth c s.heap [] 0 0 (MQ below (vp_Si (fun r => r = nI (tcw w))) ([.long w] : List Value).toArray s 0 0 (fun _ => False)) (F0 m 20 ls []) := by
      intro fu
      induction fu with
      | zero =>
        intro i n hi hn hfu ls hl
        exact absurd hfu (Nat.not_lt_zero _)
      | succ fu ih =>
        intro i n hi hn hfu ls hl
        refine lv_iload hx hb dX6_treeCount_20 (lv_at hl 0 rfl) ?_
        refine lv_bipush (v := nI 8) hx hb dX6_treeCount_22 (by decide +kernel) ?_
        refine lv_icmp_ge (tgt := 52) hx hb dX6_treeCount_24 (by decide) (fun qc_3 => ?_) (fun qc_3 => ?_)
        · have c_3 : 8 ≤ i := (nI_leI (a := 8) (b := i) (by omega) (by omega)).mp qc_3
          have hb9 := fb_ct_le (blk v) i
          refine lv_iload hx hb dX6_treeCount_52 (lv_at hl 1 rfl) ?_
          refine lv_if_ne (tgt := 61) hx hb dX6_treeCount_54 (by decide) (fun qc_4 => ?_) (fun qc_4 => ?_)
          · have c_4 : ¬ n = 0 := fun h9 => qc_4 ((nI_eq (a := n) (b := 0) (by omega) (by omega)).mpr h9)
            refine lv_iconst (v := nI 1) hx hb dX6_treeCount_61 (by decide +kernel) ?_
            refine lv_istore (lv' := [(5, .int (nI 1)), (4, .int (nI n)), (2, .long v), (0, .long w)]) hx hb dX6_treeCount_62 hl (by decide) rfl (fun ls hl => ?_)
            refine lv_iconst (v := nI 1) hx hb dX6_treeCount_64 (by decide +kernel) ?_
            refine lv_iload hx hb dX6_treeCount_65 (lv_at hl 1 rfl) ?_
            refine lv_iadd hx hb dX6_treeCount_67 ?_
            refine lv_cvi (nI_add _ _) ?_
            refine lv_iload hx hb dX6_treeCount_68 (lv_at hl 0 rfl) ?_
            refine lv_iadd hx hb dX6_treeCount_70 ?_
            refine lv_cvi (nI_add _ _) ?_
            exact W.iret (v := nI ((1 + n) + 1)) hx hb hr (fun t9 ht hW => ⟨nI ((1 + n) + 1), rfl, congrArg nI (tcw_of c_1 hv (by rw [hn, show i = 8 by omega]) (by simp [c_4])), ht⟩) (fun q h => by cases h) dX6_treeCount_71
          · have c_4 : n = 0 := (nI_eq (a := n) (b := 0) (by omega) (by omega)).mp qc_4
            refine lv_iconst (v := nI 0) hx hb dX6_treeCount_57 (by decide +kernel) ?_
            refine lv_goto (tgt := 62) hx hb dX6_treeCount_58 (by decide) ?_
            refine lv_istore (lv' := [(5, .int (nI 0)), (4, .int (nI n)), (2, .long v), (0, .long w)]) hx hb dX6_treeCount_62 hl (by decide) rfl (fun ls hl => ?_)
            refine lv_iconst (v := nI 1) hx hb dX6_treeCount_64 (by decide +kernel) ?_
            refine lv_iload hx hb dX6_treeCount_65 (lv_at hl 1 rfl) ?_
            refine lv_iadd hx hb dX6_treeCount_67 ?_
            refine lv_cvi (nI_add _ _) ?_
            refine lv_iload hx hb dX6_treeCount_68 (lv_at hl 0 rfl) ?_
            refine lv_iadd hx hb dX6_treeCount_70 ?_
            refine lv_cvi (nI_add _ _) ?_
            exact W.iret (v := nI ((1 + n) + 0)) hx hb hr (fun t9 ht hW => ⟨nI ((1 + n) + 0), rfl, congrArg nI (tcw_of c_1 hv (by rw [hn, show i = 8 by omega]) (by simp [c_4])), ht⟩) (fun q h => by cases h) dX6_treeCount_71
        · have c_3 : ¬ 8 ≤ i := fun h9 => qc_3 ((nI_leI (a := 8) (b := i) (by omega) (by omega)).mpr h9)
          refine lv_lload_n hx hb dX6_treeCount_27 rfl (lv_at hl 2 rfl) ?_
          refine lv_iload hx hb dX6_treeCount_28 (lv_at hl 0 rfl) ?_
          refine lv_bipush (v := nI 8) hx hb dX6_treeCount_30 (by decide +kernel) ?_
          refine lv_imul hx hb dX6_treeCount_32 ?_
          refine lv_cvi (pk_mul _ _) ?_
          refine lv_lushr (v := sru v (nI (i * 8))) hx hb dX6_treeCount_33 rfl ?_
          refine lv_ldc2 (v := 255) hx hb hown (hts (.constantLong RX6 29 (255)) (by decide +kernel)) dX6_treeCount_34 ?_
          refine lv_land hx hb dX6_treeCount_37 ?_
          refine lv_lconst (v := 0) hx hb dX6_treeCount_38 (by decide +kernel) ?_
          refine W.lcmp hx hb dX6_treeCount_39 ?_
          refine lv_if_eq (tgt := 46) hx hb dX6_treeCount_40 (by decide) (fun qc_5 => ?_) (fun qc_5 => ?_)
          · have c_5 : (sru v (nI (i * 8))) &&& (255 : Int64) = (0 : Int64) := (lg_cmp_eq _ _).mp qc_5
            refine lv_iinc (v := nI (i + 1)) (lv' := [(5, .int (nI (i + 1))), (4, .int (nI n)), (2, .long v), (0, .long w)]) hx hb dX6_treeCount_46 hl (k := 0) rfl (nI_1 _) (by decide) rfl (fun ls hl => ?_)
            refine lv_goto (tgt := 20) hx hb dX6_treeCount_49 (by decide) ?_
            exact ih (i + 1) n (by omega) (by rw [fb_ct_succ, ← hn]; simp [blk, c_5]) (by omega) ls (lv_sub hl [0, 1, 2, 3] rfl)
          · have c_5 : ¬ ((sru v (nI (i * 8))) &&& (255 : Int64) = (0 : Int64)) := fun h9 => qc_5 ((lg_cmp_eq _ _).mpr h9)
            refine lv_iinc (v := nI (n + 1)) (lv' := [(4, .int (nI (n + 1))), (5, .int (nI i)), (2, .long v), (0, .long w)]) hx hb dX6_treeCount_43 hl (k := 1) rfl (nI_1 _) (by decide) rfl (fun ls hl => ?_)
            refine lv_iinc (v := nI (i + 1)) (lv' := [(5, .int (nI (i + 1))), (4, .int (nI (n + 1))), (2, .long v), (0, .long w)]) hx hb dX6_treeCount_46 hl (k := 1) rfl (nI_1 _) (by decide) rfl (fun ls hl => ?_)
            refine lv_goto (tgt := 20) hx hb dX6_treeCount_49 (by decide) ?_
            exact ih (i + 1) (n + 1) (by omega) (by rw [fb_ct_succ, ← hn]; simp [blk, c_5]) (by omega) ls (lv_sub hl [0, 1, 2, 3] rfl)
    exact key_20_2 _ 0 0 (by decide) rfl (Nat.lt_succ_self _) ls (lv_sub hl [0, 1, 2, 3] rfl)
  · have c_1 : w = (0 : Int64) := (lg_cmp_eq _ _).mp qc_1
    refine lv_iconst (v := nI 0) hx hb dX6_treeCount_6 (by decide +kernel) ?_
    exact W.iret (v := nI 0) hx hb hr (fun t9 ht hW => ⟨nI 0, rfl, congrArg nI (tcw_0 c_1).symm, ht⟩) (fun q h => by cases h) dX6_treeCount_7
