set_option maxHeartbeats 4000000 in
set_option maxRecDepth 100000 in
/-- Buckets.has -/
theorem c_X1_has (l : Launch) (dC : Nat → ClassId) (dI : Nat → Nat → Nat) (q : Nat) (bm : Nat) (am : Nat) (bs : Nat) (ap : Nat) (cJ : ClassId) (fm : Nat → Int64) (fs : Nat → Int64) (k : Nat) (hk : k < 4096) : Met l yX1_has wsX1_has ({ frames := 2, cells := 0, slots := 0, locals := 42 }) (va_Pc [.ref q, .int (nI k)] (fun U => va_P (dC, dI) vwCl [(q, .inr (1, [.ref bm, .ref bs])), (bm, .inr (0, [.ref am])), (am, .inl (cJ, 64, .inr (.inl fm))), (bs, .inr (0, [.ref ap])), (ap, .inl (cJ, 64, .inr (.inl fs)))] U.heap ∧ va_K (dC, dI) vwCl [(cJ, .long)] U)) (vp_Si (fun r => r = b2i (bo fm k))) 0 0 (fun _ => False) := by
  refine Met.ofW (cc := cX1_has) (maxL := 2) (ret := (some .boolean)) (by decide) rfl ?_
  intro p e s m args below meth c s₁ B hml hv
  obtain ⟨rfl, hP, hK⟩ := hv
  have hx := B.exec
  have hb := B.bytes
  have hr := B.returns
  have hts := atoms_spec (ws := wsX1_has) B.pre
  have hown : s.vm.findClass RX1 = some m.cls := findClass_of_methodNamed B.named
  have hlocks := B.notSynchronized
  have hP : va_P (dC, dI) vwCl [(q, .inr (1, [.ref bm, .ref bs])), (bm, .inr (0, [.ref am])), (am, .inl (cJ, 64, .inr (.inl fm))), (bs, .inr (0, [.ref ap])), (ap, .inl (cJ, 64, .inr (.inl fs)))] s.heap := hP
  have hl := lv_entry ([.ref q, .int (nI k)]) (n := 2) (Nat.le_of_ble_eq_true rfl)
  rw [lg_entry_eq]
  generalize (lg_sl ([.ref q, .int (nI k)]) ++ List.replicate (2 - (lg_sl ([.ref q, .int (nI k)])).length) Slot.unset).toArray = ls at hl ⊢
  have hl : lv_has ls 2 [(0, .ref q), (1, .int (nI k))] := hl
  refine lv_aload_n hx hb dX1_has_0 rfl (lv_at hl 0 rfl) ?_
  refine va_get (D := (dC, dI)) (ci := 1) (v := .ref bm) (C := RX1) (T := TX1) (N := 2) hx hb hts (by decide +kernel) hown hK hP 0 rfl rfl 0 (by decide) (hts (.fieldLink RX1 14 "SmallNumberSets$Buckets" "members" "LSmallNumberSets$Bits;") (by decide +kernel)) (fun _ h9 => h9) rfl dX1_has_1 ?_
  refine lv_iload_n hx hb dX1_has_4 rfl (lv_at hl 1 rfl) ?_
  have hPc := hP.sub (ws' := [(bm, .inr (0, [.ref am])), (am, .inl (cJ, 64, .inr (.inl fm)))]) [1, 2] rfl
  have hKc := hK.sub (tys' := [(cJ, .long)]) [0] rfl
  refine vp_callSi (W.runV (As := [.int (nI k)]) (rest := []) ⟨hx, hb, hml, hown, hts⟩ (c_X0_has l dC dI bm am cJ 64 fm k (by omega) (by omega)) (cwV 1 hts gX1_has_X0_has rfl rfl rfl (by decide +kernel) ⟨Nat.le_of_ble_eq_true rfl, Nat.le_of_ble_eq_true rfl⟩) ⟨fun a U g mk q => by obtain ⟨q0, qP, qK⟩ := q; exact ⟨q0, qP, va_K.moved (u := U) (U := U.calling g mk a) (Vm.Alike.refl U.vm) qK⟩, va_recv hKc hPc (ci := 0) (q0 := 0) rfl rfl, fun U hU hW => ⟨rfl, by rw [hU]; exact hPc, va_K.moved hW.alike hKc⟩⟩ rfl rfl hl.1 rfl (lv_room (Nat.le_of_ble_eq_true rfl)) dX1_has_5 ⟨Nat.le_of_ble_eq_true rfl, Nat.le_of_ble_eq_true rfl⟩) (fun r_2 hw_1 => ?_)
  subst hw_1
  exact W.zret (v := b2i (bo fm k)) hx hb hr (b2i_nar _) (fun t9 ht hW => ⟨b2i (bo fm k), rfl, rfl, ht⟩) (fun q h => by cases h) dX1_has_8
set_option maxHeartbeats 4000000 in
set_option maxRecDepth 100000 in
/-- Buckets.memberCount -/
theorem c_X1_memberCount (l : Launch) (dC : Nat → ClassId) (dI : Nat → Nat → Nat) (q : Nat) (bm : Nat) (am : Nat) (bs : Nat) (ap : Nat) (cJ : ClassId) (fm : Nat → Int64) (fs : Nat → Int64) : Met l yX1_memberCount wsX1_memberCount ({ frames := 2, cells := 0, slots := 0, locals := 45 }) (va_Pc [.ref q] (fun U => va_P (dC, dI) vwCl [(q, .inr (1, [.ref bm, .ref bs])), (bm, .inr (0, [.ref am])), (am, .inl (cJ, 64, .inr (.inl fm))), (bs, .inr (0, [.ref ap])), (ap, .inl (cJ, 64, .inr (.inl fs)))] U.heap ∧ va_K (dC, dI) vwCl [(cJ, .long)] U)) (vp_Si (fun r => r = nI (fb_ct (bo fm) 4096))) 0 0 (fun _ => False) := by
  refine Met.ofW (cc := cX1_memberCount) (maxL := 1) (ret := (some .int)) (by decide) rfl ?_
  intro p e s m args below meth c s₁ B hml hv
  obtain ⟨rfl, hP, hK⟩ := hv
  have hx := B.exec
  have hb := B.bytes
  have hr := B.returns
  have hts := atoms_spec (ws := wsX1_memberCount) B.pre
  have hown : s.vm.findClass RX1 = some m.cls := findClass_of_methodNamed B.named
  have hlocks := B.notSynchronized
  have hP : va_P (dC, dI) vwCl [(q, .inr (1, [.ref bm, .ref bs])), (bm, .inr (0, [.ref am])), (am, .inl (cJ, 64, .inr (.inl fm))), (bs, .inr (0, [.ref ap])), (ap, .inl (cJ, 64, .inr (.inl fs)))] s.heap := hP
  have hl := lv_entry ([.ref q]) (n := 1) (Nat.le_of_ble_eq_true rfl)
  rw [lg_entry_eq]
  generalize (lg_sl ([.ref q]) ++ List.replicate (1 - (lg_sl ([.ref q])).length) Slot.unset).toArray = ls at hl ⊢
  have hl : lv_has ls 1 [(0, .ref q)] := hl
  refine lv_aload_n hx hb dX1_memberCount_0 rfl (lv_at hl 0 rfl) ?_
  refine va_get (D := (dC, dI)) (ci := 1) (v := .ref bm) (C := RX1) (T := TX1) (N := 2) hx hb hts (by decide +kernel) hown hK hP 0 rfl rfl 0 (by decide) (hts (.fieldLink RX1 14 "SmallNumberSets$Buckets" "members" "LSmallNumberSets$Bits;") (by decide +kernel)) (fun _ h9 => h9) rfl dX1_memberCount_1 ?_
  refine lv_sipush (v := nI 4096) hx hb dX1_memberCount_4 (by decide +kernel) ?_
  have hPc := hP.sub (ws' := [(bm, .inr (0, [.ref am])), (am, .inl (cJ, 64, .inr (.inl fm)))]) [1, 2] rfl
  have hKc := hK.sub (tys' := [(cJ, .long)]) [0] rfl
  refine vp_callSi (W.runV (As := [.int (nI 4096)]) (rest := []) ⟨hx, hb, hml, hown, hts⟩ (c_X0_countBelow l dC dI bm am cJ 64 fm 4096 (by omega) (by omega)) (cwV 1 hts gX1_memberCount_X0_countBelow rfl rfl rfl (by decide +kernel) ⟨Nat.le_of_ble_eq_true rfl, Nat.le_of_ble_eq_true rfl⟩) ⟨fun a U g mk q => by obtain ⟨q0, qP, qK⟩ := q; exact ⟨q0, qP, va_K.moved (u := U) (U := U.calling g mk a) (Vm.Alike.refl U.vm) qK⟩, va_recv hKc hPc (ci := 0) (q0 := 0) rfl rfl, fun U hU hW => ⟨rfl, by rw [hU]; exact hPc, va_K.moved hW.alike hKc⟩⟩ rfl rfl hl.1 rfl (lv_room (Nat.le_of_ble_eq_true rfl)) dX1_memberCount_7 ⟨Nat.le_of_ble_eq_true rfl, Nat.le_of_ble_eq_true rfl⟩) (fun r_2 hw_1 => ?_)
  subst hw_1
  exact W.iret (v := nI (fb_ct (bo fm) 4096)) hx hb hr (fun t9 ht hW => ⟨nI (fb_ct (bo fm) 4096), rfl, rfl, ht⟩) (fun q h => by cases h) dX1_memberCount_10
set_option maxHeartbeats 4000000 in
set_option maxRecDepth 100000 in
/-- Buckets.membersBelow -/
theorem c_X1_membersBelow (l : Launch) (dC : Nat → ClassId) (dI : Nat → Nat → Nat) (q : Nat) (bm : Nat) (am : Nat) (bs : Nat) (ap : Nat) (cJ : ClassId) (fm : Nat → Int64) (fs : Nat → Int64) (k : Nat) (hk : k ≤ 4096) : Met l yX1_membersBelow wsX1_membersBelow ({ frames := 2, cells := 0, slots := 0, locals := 45 }) (va_Pc [.ref q, .int (nI k)] (fun U => va_P (dC, dI) vwCl [(q, .inr (1, [.ref bm, .ref bs])), (bm, .inr (0, [.ref am])), (am, .inl (cJ, 64, .inr (.inl fm))), (bs, .inr (0, [.ref ap])), (ap, .inl (cJ, 64, .inr (.inl fs)))] U.heap ∧ va_K (dC, dI) vwCl [(cJ, .long)] U)) (vp_Si (fun r => r = nI (fb_ct (bo fm) k))) 0 0 (fun _ => False) := by
  refine Met.ofW (cc := cX1_membersBelow) (maxL := 2) (ret := (some .int)) (by decide) rfl ?_
  intro p e s m args below meth c s₁ B hml hv
  obtain ⟨rfl, hP, hK⟩ := hv
  have hx := B.exec
  have hb := B.bytes
  have hr := B.returns
  have hts := atoms_spec (ws := wsX1_membersBelow) B.pre
  have hown : s.vm.findClass RX1 = some m.cls := findClass_of_methodNamed B.named
  have hlocks := B.notSynchronized
  have hP : va_P (dC, dI) vwCl [(q, .inr (1, [.ref bm, .ref bs])), (bm, .inr (0, [.ref am])), (am, .inl (cJ, 64, .inr (.inl fm))), (bs, .inr (0, [.ref ap])), (ap, .inl (cJ, 64, .inr (.inl fs)))] s.heap := hP
  have hl := lv_entry ([.ref q, .int (nI k)]) (n := 2) (Nat.le_of_ble_eq_true rfl)
  rw [lg_entry_eq]
  generalize (lg_sl ([.ref q, .int (nI k)]) ++ List.replicate (2 - (lg_sl ([.ref q, .int (nI k)])).length) Slot.unset).toArray = ls at hl ⊢
  have hl : lv_has ls 2 [(0, .ref q), (1, .int (nI k))] := hl
  refine lv_aload_n hx hb dX1_membersBelow_0 rfl (lv_at hl 0 rfl) ?_
  refine va_get (D := (dC, dI)) (ci := 1) (v := .ref bm) (C := RX1) (T := TX1) (N := 2) hx hb hts (by decide +kernel) hown hK hP 0 rfl rfl 0 (by decide) (hts (.fieldLink RX1 14 "SmallNumberSets$Buckets" "members" "LSmallNumberSets$Bits;") (by decide +kernel)) (fun _ h9 => h9) rfl dX1_membersBelow_1 ?_
  refine lv_iload_n hx hb dX1_membersBelow_4 rfl (lv_at hl 1 rfl) ?_
  have hPc := hP.sub (ws' := [(bm, .inr (0, [.ref am])), (am, .inl (cJ, 64, .inr (.inl fm)))]) [1, 2] rfl
  have hKc := hK.sub (tys' := [(cJ, .long)]) [0] rfl
  refine vp_callSi (W.runV (As := [.int (nI k)]) (rest := []) ⟨hx, hb, hml, hown, hts⟩ (c_X0_countBelow l dC dI bm am cJ 64 fm k (by omega) (by omega)) (cwV 1 hts gX1_membersBelow_X0_countBelow rfl rfl rfl (by decide +kernel) ⟨Nat.le_of_ble_eq_true rfl, Nat.le_of_ble_eq_true rfl⟩) ⟨fun a U g mk q => by obtain ⟨q0, qP, qK⟩ := q; exact ⟨q0, qP, va_K.moved (u := U) (U := U.calling g mk a) (Vm.Alike.refl U.vm) qK⟩, va_recv hKc hPc (ci := 0) (q0 := 0) rfl rfl, fun U hU hW => ⟨rfl, by rw [hU]; exact hPc, va_K.moved hW.alike hKc⟩⟩ rfl rfl hl.1 rfl (lv_room (Nat.le_of_ble_eq_true rfl)) dX1_membersBelow_5 ⟨Nat.le_of_ble_eq_true rfl, Nat.le_of_ble_eq_true rfl⟩) (fun r_2 hw_1 => ?_)
  subst hw_1
  exact W.iret (v := nI (fb_ct (bo fm) k)) hx hb hr (fun t9 ht hW => ⟨nI (fb_ct (bo fm) k), rfl, rfl, ht⟩) (fun q h => by cases h) dX1_membersBelow_8
set_option maxHeartbeats 4000000 in
set_option maxRecDepth 100000 in
/-- Buckets.memberAt -/
theorem c_X1_memberAt (l : Launch) (dC : Nat → ClassId) (dI : Nat → Nat → Nat) (q : Nat) (bm : Nat) (am : Nat) (bs : Nat) (ap : Nat) (cJ : ClassId) (fm : Nat → Int64) (fs : Nat → Int64) (k : Nat) (hk : k < 2 ^ 31) : Met l yX1_memberAt wsX1_memberAt ({ frames := 3, cells := 0, slots := 0, locals := 69 }) (va_Pc [.ref q, .int (nI k)] (fun U => va_P (dC, dI) vwCl [(q, .inr (1, [.ref bm, .ref bs])), (bm, .inr (0, [.ref am])), (am, .inl (cJ, 64, .inr (.inl fm))), (bs, .inr (0, [.ref ap])), (ap, .inl (cJ, 64, .inr (.inl fs)))] U.heap ∧ va_K (dC, dI) vwCl [(cJ, .long)] U)) (vp_Si (fun r => r = oI (kth (bo fm) k 4096))) 0 0 (fun _ => False) := by
  refine Met.ofW (cc := cX1_memberAt) (maxL := 2) (ret := (some .int)) (by decide) rfl ?_
  intro p e s m args below meth c s₁ B hml hv
  obtain ⟨rfl, hP, hK⟩ := hv
  have hx := B.exec
  have hb := B.bytes
  have hr := B.returns
  have hts := atoms_spec (ws := wsX1_memberAt) B.pre
  have hown : s.vm.findClass RX1 = some m.cls := findClass_of_methodNamed B.named
  have hlocks := B.notSynchronized
  have hP : va_P (dC, dI) vwCl [(q, .inr (1, [.ref bm, .ref bs])), (bm, .inr (0, [.ref am])), (am, .inl (cJ, 64, .inr (.inl fm))), (bs, .inr (0, [.ref ap])), (ap, .inl (cJ, 64, .inr (.inl fs)))] s.heap := hP
  have hl := lv_entry ([.ref q, .int (nI k)]) (n := 2) (Nat.le_of_ble_eq_true rfl)
  rw [lg_entry_eq]
  generalize (lg_sl ([.ref q, .int (nI k)]) ++ List.replicate (2 - (lg_sl ([.ref q, .int (nI k)])).length) Slot.unset).toArray = ls at hl ⊢
  have hl : lv_has ls 2 [(0, .ref q), (1, .int (nI k))] := hl
  refine lv_aload_n hx hb dX1_memberAt_0 rfl (lv_at hl 0 rfl) ?_
  refine va_get (D := (dC, dI)) (ci := 1) (v := .ref bm) (C := RX1) (T := TX1) (N := 2) hx hb hts (by decide +kernel) hown hK hP 0 rfl rfl 0 (by decide) (hts (.fieldLink RX1 14 "SmallNumberSets$Buckets" "members" "LSmallNumberSets$Bits;") (by decide +kernel)) (fun _ h9 => h9) rfl dX1_memberAt_1 ?_
  refine lv_iload_n hx hb dX1_memberAt_4 rfl (lv_at hl 1 rfl) ?_
  have hPc := hP.sub (ws' := [(bm, .inr (0, [.ref am])), (am, .inl (cJ, 64, .inr (.inl fm)))]) [1, 2] rfl
  have hKc := hK.sub (tys' := [(cJ, .long)]) [0] rfl
  refine vp_callSi (W.runV (As := [.int (nI k)]) (rest := []) ⟨hx, hb, hml, hown, hts⟩ (c_X0_numberAt l dC dI bm am cJ 64 fm k (by omega) (by omega)) (cwV 1 hts gX1_memberAt_X0_numberAt rfl rfl rfl (by decide +kernel) ⟨Nat.le_of_ble_eq_true rfl, Nat.le_of_ble_eq_true rfl⟩) ⟨fun a U g mk q => by obtain ⟨q0, qP, qK⟩ := q; exact ⟨q0, qP, va_K.moved (u := U) (U := U.calling g mk a) (Vm.Alike.refl U.vm) qK⟩, va_recv hKc hPc (ci := 0) (q0 := 0) rfl rfl, fun U hU hW => ⟨rfl, by rw [hU]; exact hPc, va_K.moved hW.alike hKc⟩⟩ rfl rfl hl.1 rfl (lv_room (Nat.le_of_ble_eq_true rfl)) dX1_memberAt_5 ⟨Nat.le_of_ble_eq_true rfl, Nat.le_of_ble_eq_true rfl⟩) (fun r_2 hw_1 => ?_)
  subst hw_1
  exact W.iret (v := oI (kth (bo fm) k (64 * 64))) hx hb hr (fun t9 ht hW => ⟨oI (kth (bo fm) k (64 * 64)), rfl, rfl, ht⟩) (fun q h => by cases h) dX1_memberAt_8
set_option maxHeartbeats 4000000 in
set_option maxRecDepth 100000 in
/-- Buckets.bucketCount -/
theorem c_X1_bucketCount (l : Launch) (dC : Nat → ClassId) (dI : Nat → Nat → Nat) (q : Nat) (bm : Nat) (am : Nat) (bs : Nat) (ap : Nat) (cJ : ClassId) (fm : Nat → Int64) (fs : Nat → Int64) : Met l yX1_bucketCount wsX1_bucketCount ({ frames := 2, cells := 0, slots := 0, locals := 45 }) (va_Pc [.ref q] (fun U => va_P (dC, dI) vwCl [(q, .inr (1, [.ref bm, .ref bs])), (bm, .inr (0, [.ref am])), (am, .inl (cJ, 64, .inr (.inl fm))), (bs, .inr (0, [.ref ap])), (ap, .inl (cJ, 64, .inr (.inl fs)))] U.heap ∧ va_K (dC, dI) vwCl [(cJ, .long)] U)) (vp_Si (fun r => r = nI (fb_ct (bo fs) 4096))) 0 0 (fun _ => False) := by
  refine Met.ofW (cc := cX1_bucketCount) (maxL := 1) (ret := (some .int)) (by decide) rfl ?_
  intro p e s m args below meth c s₁ B hml hv
  obtain ⟨rfl, hP, hK⟩ := hv
  have hx := B.exec
  have hb := B.bytes
  have hr := B.returns
  have hts := atoms_spec (ws := wsX1_bucketCount) B.pre
  have hown : s.vm.findClass RX1 = some m.cls := findClass_of_methodNamed B.named
  have hlocks := B.notSynchronized
  have hP : va_P (dC, dI) vwCl [(q, .inr (1, [.ref bm, .ref bs])), (bm, .inr (0, [.ref am])), (am, .inl (cJ, 64, .inr (.inl fm))), (bs, .inr (0, [.ref ap])), (ap, .inl (cJ, 64, .inr (.inl fs)))] s.heap := hP
  have hl := lv_entry ([.ref q]) (n := 1) (Nat.le_of_ble_eq_true rfl)
  rw [lg_entry_eq]
  generalize (lg_sl ([.ref q]) ++ List.replicate (1 - (lg_sl ([.ref q])).length) Slot.unset).toArray = ls at hl ⊢
  have hl : lv_has ls 1 [(0, .ref q)] := hl
  refine lv_aload_n hx hb dX1_bucketCount_0 rfl (lv_at hl 0 rfl) ?_
  refine va_get (D := (dC, dI)) (ci := 1) (v := .ref bs) (C := RX1) (T := TX1) (N := 2) hx hb hts (by decide +kernel) hown hK hP 0 rfl rfl 1 (by decide) (hts (.fieldLink RX1 20 "SmallNumberSets$Buckets" "separators" "LSmallNumberSets$Bits;") (by decide +kernel)) (fun _ h9 => h9) rfl dX1_bucketCount_1 ?_
  refine lv_sipush (v := nI 4096) hx hb dX1_bucketCount_4 (by decide +kernel) ?_
  have hPc := hP.sub (ws' := [(bs, .inr (0, [.ref ap])), (ap, .inl (cJ, 64, .inr (.inl fs)))]) [3, 4] rfl
  have hKc := hK.sub (tys' := [(cJ, .long)]) [0] rfl
  refine vp_callSi (W.runV (As := [.int (nI 4096)]) (rest := []) ⟨hx, hb, hml, hown, hts⟩ (c_X0_countBelow l dC dI bs ap cJ 64 fs 4096 (by omega) (by omega)) (cwV 1 hts gX1_bucketCount_X0_countBelow rfl rfl rfl (by decide +kernel) ⟨Nat.le_of_ble_eq_true rfl, Nat.le_of_ble_eq_true rfl⟩) ⟨fun a U g mk q => by obtain ⟨q0, qP, qK⟩ := q; exact ⟨q0, qP, va_K.moved (u := U) (U := U.calling g mk a) (Vm.Alike.refl U.vm) qK⟩, va_recv hKc hPc (ci := 0) (q0 := 0) rfl rfl, fun U hU hW => ⟨rfl, by rw [hU]; exact hPc, va_K.moved hW.alike hKc⟩⟩ rfl rfl hl.1 rfl (lv_room (Nat.le_of_ble_eq_true rfl)) dX1_bucketCount_7 ⟨Nat.le_of_ble_eq_true rfl, Nat.le_of_ble_eq_true rfl⟩) (fun r_2 hw_1 => ?_)
  subst hw_1
  exact W.iret (v := nI (fb_ct (bo fs) 4096)) hx hb hr (fun t9 ht hW => ⟨nI (fb_ct (bo fs) 4096), rfl, rfl, ht⟩) (fun q h => by cases h) dX1_bucketCount_10
set_option maxHeartbeats 4000000 in
set_option maxRecDepth 100000 in
/-- Buckets.separatorAt -/
theorem c_X1_separatorAt (l : Launch) (dC : Nat → ClassId) (dI : Nat → Nat → Nat) (q : Nat) (bm : Nat) (am : Nat) (bs : Nat) (ap : Nat) (cJ : ClassId) (fm : Nat → Int64) (fs : Nat → Int64) (k : Nat) (hk : k < 2 ^ 31) : Met l yX1_separatorAt wsX1_separatorAt ({ frames := 3, cells := 0, slots := 0, locals := 69 }) (va_Pc [.ref q, .int (nI k)] (fun U => va_P (dC, dI) vwCl [(q, .inr (1, [.ref bm, .ref bs])), (bm, .inr (0, [.ref am])), (am, .inl (cJ, 64, .inr (.inl fm))), (bs, .inr (0, [.ref ap])), (ap, .inl (cJ, 64, .inr (.inl fs)))] U.heap ∧ va_K (dC, dI) vwCl [(cJ, .long)] U)) (vp_Si (fun r => r = oI (kth (bo fs) k 4096))) 0 0 (fun _ => False) := by
  refine Met.ofW (cc := cX1_separatorAt) (maxL := 2) (ret := (some .int)) (by decide) rfl ?_
  intro p e s m args below meth c s₁ B hml hv
  obtain ⟨rfl, hP, hK⟩ := hv
  have hx := B.exec
  have hb := B.bytes
  have hr := B.returns
  have hts := atoms_spec (ws := wsX1_separatorAt) B.pre
  have hown : s.vm.findClass RX1 = some m.cls := findClass_of_methodNamed B.named
  have hlocks := B.notSynchronized
  have hP : va_P (dC, dI) vwCl [(q, .inr (1, [.ref bm, .ref bs])), (bm, .inr (0, [.ref am])), (am, .inl (cJ, 64, .inr (.inl fm))), (bs, .inr (0, [.ref ap])), (ap, .inl (cJ, 64, .inr (.inl fs)))] s.heap := hP
  have hl := lv_entry ([.ref q, .int (nI k)]) (n := 2) (Nat.le_of_ble_eq_true rfl)
  rw [lg_entry_eq]
  generalize (lg_sl ([.ref q, .int (nI k)]) ++ List.replicate (2 - (lg_sl ([.ref q, .int (nI k)])).length) Slot.unset).toArray = ls at hl ⊢
  have hl : lv_has ls 2 [(0, .ref q), (1, .int (nI k))] := hl
  refine lv_aload_n hx hb dX1_separatorAt_0 rfl (lv_at hl 0 rfl) ?_
  refine va_get (D := (dC, dI)) (ci := 1) (v := .ref bs) (C := RX1) (T := TX1) (N := 2) hx hb hts (by decide +kernel) hown hK hP 0 rfl rfl 1 (by decide) (hts (.fieldLink RX1 20 "SmallNumberSets$Buckets" "separators" "LSmallNumberSets$Bits;") (by decide +kernel)) (fun _ h9 => h9) rfl dX1_separatorAt_1 ?_
  refine lv_iload_n hx hb dX1_separatorAt_4 rfl (lv_at hl 1 rfl) ?_
  have hPc := hP.sub (ws' := [(bs, .inr (0, [.ref ap])), (ap, .inl (cJ, 64, .inr (.inl fs)))]) [3, 4] rfl
  have hKc := hK.sub (tys' := [(cJ, .long)]) [0] rfl
  refine vp_callSi (W.runV (As := [.int (nI k)]) (rest := []) ⟨hx, hb, hml, hown, hts⟩ (c_X0_numberAt l dC dI bs ap cJ 64 fs k (by omega) (by omega)) (cwV 1 hts gX1_separatorAt_X0_numberAt rfl rfl rfl (by decide +kernel) ⟨Nat.le_of_ble_eq_true rfl, Nat.le_of_ble_eq_true rfl⟩) ⟨fun a U g mk q => by obtain ⟨q0, qP, qK⟩ := q; exact ⟨q0, qP, va_K.moved (u := U) (U := U.calling g mk a) (Vm.Alike.refl U.vm) qK⟩, va_recv hKc hPc (ci := 0) (q0 := 0) rfl rfl, fun U hU hW => ⟨rfl, by rw [hU]; exact hPc, va_K.moved hW.alike hKc⟩⟩ rfl rfl hl.1 rfl (lv_room (Nat.le_of_ble_eq_true rfl)) dX1_separatorAt_5 ⟨Nat.le_of_ble_eq_true rfl, Nat.le_of_ble_eq_true rfl⟩) (fun r_2 hw_1 => ?_)
  subst hw_1
  exact W.iret (v := oI (kth (bo fs) k (64 * 64))) hx hb hr (fun t9 ht hW => ⟨oI (kth (bo fs) k (64 * 64)), rfl, rfl, ht⟩) (fun q h => by cases h) dX1_separatorAt_8
set_option maxHeartbeats 4000000 in
set_option maxRecDepth 100000 in
/-- Buckets.bucketHolding -/
theorem c_X1_bucketHolding (l : Launch) (dC : Nat → ClassId) (dI : Nat → Nat → Nat) (q : Nat) (bm : Nat) (am : Nat) (bs : Nat) (ap : Nat) (cJ : ClassId) (fm : Nat → Int64) (fs : Nat → Int64) (k : Nat) (hk : k < 4096) (h0 : bo fs 0 = true) : Met l yX1_bucketHolding wsX1_bucketHolding ({ frames := 2, cells := 0, slots := 0, locals := 45 }) (va_Pc [.ref q, .int (nI k)] (fun U => va_P (dC, dI) vwCl [(q, .inr (1, [.ref bm, .ref bs])), (bm, .inr (0, [.ref am])), (am, .inl (cJ, 64, .inr (.inl fm))), (bs, .inr (0, [.ref ap])), (ap, .inl (cJ, 64, .inr (.inl fs)))] U.heap ∧ va_K (dC, dI) vwCl [(cJ, .long)] U)) (vp_Si (fun r => r = nI (bk (bo fs) k))) 0 0 (fun _ => False) := by
  refine Met.ofW (cc := cX1_bucketHolding) (maxL := 2) (ret := (some .int)) (by decide) rfl ?_
  intro p e s m args below meth c s₁ B hml hv
  obtain ⟨rfl, hP, hK⟩ := hv
  have hx := B.exec
  have hb := B.bytes
  have hr := B.returns
  have hts := atoms_spec (ws := wsX1_bucketHolding) B.pre
  have hown : s.vm.findClass RX1 = some m.cls := findClass_of_methodNamed B.named
  have hlocks := B.notSynchronized
  have hP : va_P (dC, dI) vwCl [(q, .inr (1, [.ref bm, .ref bs])), (bm, .inr (0, [.ref am])), (am, .inl (cJ, 64, .inr (.inl fm))), (bs, .inr (0, [.ref ap])), (ap, .inl (cJ, 64, .inr (.inl fs)))] s.heap := hP
  have hl := lv_entry ([.ref q, .int (nI k)]) (n := 2) (Nat.le_of_ble_eq_true rfl)
  rw [lg_entry_eq]
  generalize (lg_sl ([.ref q, .int (nI k)]) ++ List.replicate (2 - (lg_sl ([.ref q, .int (nI k)])).length) Slot.unset).toArray = ls at hl ⊢
  have hl : lv_has ls 2 [(0, .ref q), (1, .int (nI k))] := hl
  refine lv_aload_n hx hb dX1_bucketHolding_0 rfl (lv_at hl 0 rfl) ?_
  refine va_get (D := (dC, dI)) (ci := 1) (v := .ref bs) (C := RX1) (T := TX1) (N := 2) hx hb hts (by decide +kernel) hown hK hP 0 rfl rfl 1 (by decide) (hts (.fieldLink RX1 20 "SmallNumberSets$Buckets" "separators" "LSmallNumberSets$Bits;") (by decide +kernel)) (fun _ h9 => h9) rfl dX1_bucketHolding_1 ?_
  refine lv_iload_n hx hb dX1_bucketHolding_4 rfl (lv_at hl 1 rfl) ?_
  refine lv_iconst (v := nI 1) hx hb dX1_bucketHolding_5 (by decide +kernel) ?_
  refine lv_iadd hx hb dX1_bucketHolding_6 ?_
  refine lv_cvi (nI_add _ _) ?_
  have hPc := hP.sub (ws' := [(bs, .inr (0, [.ref ap])), (ap, .inl (cJ, 64, .inr (.inl fs)))]) [3, 4] rfl
  have hKc := hK.sub (tys' := [(cJ, .long)]) [0] rfl
  refine vp_callSi (W.runV (As := [.int (nI (k + 1))]) (rest := []) ⟨hx, hb, hml, hown, hts⟩ (c_X0_countBelow l dC dI bs ap cJ 64 fs (k + 1) (by omega) (by omega)) (cwV 1 hts gX1_bucketHolding_X0_countBelow rfl rfl rfl (by decide +kernel) ⟨Nat.le_of_ble_eq_true rfl, Nat.le_of_ble_eq_true rfl⟩) ⟨fun a U g mk q => by obtain ⟨q0, qP, qK⟩ := q; exact ⟨q0, qP, va_K.moved (u := U) (U := U.calling g mk a) (Vm.Alike.refl U.vm) qK⟩, va_recv hKc hPc (ci := 0) (q0 := 0) rfl rfl, fun U hU hW => ⟨rfl, by rw [hU]; exact hPc, va_K.moved hW.alike hKc⟩⟩ rfl rfl hl.1 rfl (lv_room (Nat.le_of_ble_eq_true rfl)) dX1_bucketHolding_7 ⟨Nat.le_of_ble_eq_true rfl, Nat.le_of_ble_eq_true rfl⟩) (fun r_2 hw_1 => ?_)
  subst hw_1
  have hc1 := ct_0 h0 k
  refine lv_iconst (v := nI 1) hx hb dX1_bucketHolding_10 (by decide +kernel) ?_
  refine lv_isub hx hb dX1_bucketHolding_11 ?_
  refine lv_cvi (pk_sub (by omega)) ?_
  exact W.iret (v := nI ((fb_ct (bo fs) (k + 1)) - 1)) hx hb hr (fun t9 ht hW => ⟨nI ((fb_ct (bo fs) (k + 1)) - 1), rfl, rfl, ht⟩) (fun q h => by cases h) dX1_bucketHolding_12
set_option maxHeartbeats 4000000 in
set_option maxRecDepth 100000 in
/-- Buckets.membersFrom -/
theorem c_X1_membersFrom (l : Launch) (dC : Nat → ClassId) (dI : Nat → Nat → Nat) (q : Nat) (bm : Nat) (am : Nat) (bs : Nat) (ap : Nat) (cJ : ClassId) (fm : Nat → Int64) (fs : Nat → Int64) (k : Nat) (hk : k < 4096) : Met l yX1_membersFrom wsX1_membersFrom ({ frames := 3, cells := 0, slots := 0, locals := 69 }) (va_Pc [.ref q, .int (nI k)] (fun U => va_P (dC, dI) vwCl [(q, .inr (1, [.ref bm, .ref bs])), (bm, .inr (0, [.ref am])), (am, .inl (cJ, 64, .inr (.inl fm))), (bs, .inr (0, [.ref ap])), (ap, .inl (cJ, 64, .inr (.inl fs)))] U.heap ∧ va_K (dC, dI) vwCl [(cJ, .long)] U)) (vp_Si (fun r => r = nI (heldc (bo fm) (bo fs) k))) 0 0 (fun _ => False) := by
  refine Met.ofW (cc := cX1_membersFrom) (maxL := 4) (ret := (some .int)) (by decide) rfl ?_
  intro p e s m args below meth c s₁ B hml hv
  obtain ⟨rfl, hP, hK⟩ := hv
  have hx := B.exec
  have hb := B.bytes
  have hr := B.returns
  have hts := atoms_spec (ws := wsX1_membersFrom) B.pre
  have hown : s.vm.findClass RX1 = some m.cls := findClass_of_methodNamed B.named
  have hlocks := B.notSynchronized
  have hP : va_P (dC, dI) vwCl [(q, .inr (1, [.ref bm, .ref bs])), (bm, .inr (0, [.ref am])), (am, .inl (cJ, 64, .inr (.inl fm))), (bs, .inr (0, [.ref ap])), (ap, .inl (cJ, 64, .inr (.inl fs)))] s.heap := hP
  have hl := lv_entry ([.ref q, .int (nI k)]) (n := 4) (Nat.le_of_ble_eq_true rfl)
  rw [lg_entry_eq]
  generalize (lg_sl ([.ref q, .int (nI k)]) ++ List.replicate (4 - (lg_sl ([.ref q, .int (nI k)])).length) Slot.unset).toArray = ls at hl ⊢
  have hl : lv_has ls 4 [(0, .ref q), (1, .int (nI k))] := hl
  refine lv_aload_n hx hb dX1_membersFrom_0 rfl (lv_at hl 0 rfl) ?_
  refine va_get (D := (dC, dI)) (ci := 1) (v := .ref bs) (C := RX1) (T := TX1) (N := 2) hx hb hts (by decide +kernel) hown hK hP 0 rfl rfl 1 (by decide) (hts (.fieldLink RX1 20 "SmallNumberSets$Buckets" "separators" "LSmallNumberSets$Bits;") (by decide +kernel)) (fun _ h9 => h9) rfl dX1_membersFrom_1 ?_
  refine lv_aload_n hx hb dX1_membersFrom_4 rfl (lv_at hl 0 rfl) ?_
  refine va_get (D := (dC, dI)) (ci := 1) (v := .ref bs) (C := RX1) (T := TX1) (N := 2) hx hb hts (by decide +kernel) hown hK hP 0 rfl rfl 1 (by decide) (hts (.fieldLink RX1 20 "SmallNumberSets$Buckets" "separators" "LSmallNumberSets$Bits;") (by decide +kernel)) (fun _ h9 => h9) rfl dX1_membersFrom_5 ?_
  refine lv_iload_n hx hb dX1_membersFrom_8 rfl (lv_at hl 1 rfl) ?_
  refine lv_iconst (v := nI 1) hx hb dX1_membersFrom_9 (by decide +kernel) ?_
  refine lv_iadd hx hb dX1_membersFrom_10 ?_
  refine lv_cvi (nI_add _ _) ?_
  have hc1 := fb_ct_le (bo fs) (k + 1)
  have hPc := hP.sub (ws' := [(bs, .inr (0, [.ref ap])), (ap, .inl (cJ, 64, .inr (.inl fs)))]) [3, 4] rfl
  have hKc := hK.sub (tys' := [(cJ, .long)]) [0] rfl
  refine vp_callSi (W.runV (As := [.int (nI (k + 1))]) (rest := [.ref bs]) ⟨hx, hb, hml, hown, hts⟩ (c_X0_countBelow l dC dI bs ap cJ 64 fs (k + 1) (by omega) (by omega)) (cwV 1 hts gX1_membersFrom_X0_countBelow rfl rfl rfl (by decide +kernel) ⟨Nat.le_of_ble_eq_true rfl, Nat.le_of_ble_eq_true rfl⟩) ⟨fun a U g mk q => by obtain ⟨q0, qP, qK⟩ := q; exact ⟨q0, qP, va_K.moved (u := U) (U := U.calling g mk a) (Vm.Alike.refl U.vm) qK⟩, va_recv hKc hPc (ci := 0) (q0 := 0) rfl rfl, fun U hU hW => ⟨rfl, by rw [hU]; exact hPc, va_K.moved hW.alike hKc⟩⟩ rfl rfl hl.1 rfl (lv_room (Nat.le_of_ble_eq_true rfl)) dX1_membersFrom_11 ⟨Nat.le_of_ble_eq_true rfl, Nat.le_of_ble_eq_true rfl⟩) (fun r_2 hw_1 => ?_)
  subst hw_1
  have hPc := hP.sub (ws' := [(bs, .inr (0, [.ref ap])), (ap, .inl (cJ, 64, .inr (.inl fs)))]) [3, 4] rfl
  have hKc := hK.sub (tys' := [(cJ, .long)]) [0] rfl
  refine vp_callSi (W.runV (As := [.int (nI (fb_ct (bo fs) (k + 1)))]) (rest := []) ⟨hx, hb, hml, hown, hts⟩ (c_X0_numberAt l dC dI bs ap cJ 64 fs (fb_ct (bo fs) (k + 1)) (by omega) (by omega)) (cwV 1 hts gX1_membersFrom_X0_numberAt rfl rfl rfl (by decide +kernel) ⟨Nat.le_of_ble_eq_true rfl, Nat.le_of_ble_eq_true rfl⟩) ⟨fun a U g mk q => by obtain ⟨q0, qP, qK⟩ := q; exact ⟨q0, qP, va_K.moved (u := U) (U := U.calling g mk a) (Vm.Alike.refl U.vm) qK⟩, va_recv hKc hPc (ci := 0) (q0 := 0) rfl rfl, fun U hU hW => ⟨rfl, by rw [hU]; exact hPc, va_K.moved hW.alike hKc⟩⟩ rfl rfl hl.1 rfl (lv_room (Nat.le_of_ble_eq_true rfl)) dX1_membersFrom_14 ⟨Nat.le_of_ble_eq_true rfl, Nat.le_of_ble_eq_true rfl⟩) (fun r_4 hw_3 => ?_)
  subst hw_3
  refine lv_cvi (rfl) ?_
  rcases hz : kth (bo fs) (fb_ct (bo fs) (k + 1)) 4096 with _ | z
  · refine lv_cvi ((rfl : oI none = -1)) ?_
    refine lv_istore_n (lv' := [(2, .int (-1)), (0, .ref q), (1, .int (nI k))]) hx hb dX1_membersFrom_17 rfl hl (by decide) rfl (fun ls hl => ?_)
    refine lv_iload_n hx hb dX1_membersFrom_18 rfl (lv_at hl 0 rfl) ?_
    refine lv_iconst (v := -1) hx hb dX1_membersFrom_19 (by decide +kernel) ?_
    refine lv_icmp_ne (tgt := 29) hx hb dX1_membersFrom_20 (by decide) (fun qc_5 => ?_) (fun qc_5 => ?_)
    · exact absurd qc_5 (by decide)
    · refine lv_sipush (v := nI 4096) hx hb dX1_membersFrom_23 (by decide +kernel) ?_
      refine lv_goto (tgt := 30) hx hb dX1_membersFrom_26 (by decide) ?_
      refine lv_istore_n (lv' := [(3, .int (nI 4096)), (2, .int (-1)), (0, .ref q), (1, .int (nI k))]) hx hb dX1_membersFrom_30 rfl hl (by decide) rfl (fun ls hl => ?_)
      have hns := nsep_none hz
      have hnl := nsep_le (P := bo fs) hk
      have hmo := fb_ct_mono (bo fm) (show k ≤ nsep (bo fs) k by omega)
      rw [hns] at hmo hnl
      refine lv_aload_n hx hb dX1_membersFrom_31 rfl (lv_at hl 2 rfl) ?_
      refine va_get (D := (dC, dI)) (ci := 1) (v := .ref bm) (C := RX1) (T := TX1) (N := 2) hx hb hts (by decide +kernel) hown hK hP 0 rfl rfl 0 (by decide) (hts (.fieldLink RX1 14 "SmallNumberSets$Buckets" "members" "LSmallNumberSets$Bits;") (by decide +kernel)) (fun _ h9 => h9) rfl dX1_membersFrom_32 ?_
      refine lv_iload_n hx hb dX1_membersFrom_35 rfl (lv_at hl 0 rfl) ?_
      have hPc := hP.sub (ws' := [(bm, .inr (0, [.ref am])), (am, .inl (cJ, 64, .inr (.inl fm)))]) [1, 2] rfl
      have hKc := hK.sub (tys' := [(cJ, .long)]) [0] rfl
      refine vp_callSi (W.runV (As := [.int (nI 4096)]) (rest := []) ⟨hx, hb, hml, hown, hts⟩ (c_X0_countBelow l dC dI bm am cJ 64 fm 4096 (by omega) (by omega)) (cwV 1 hts gX1_membersFrom_X0_countBelow rfl rfl rfl (by decide +kernel) ⟨Nat.le_of_ble_eq_true rfl, Nat.le_of_ble_eq_true rfl⟩) ⟨fun a U g mk q => by obtain ⟨q0, qP, qK⟩ := q; exact ⟨q0, qP, va_K.moved (u := U) (U := U.calling g mk a) (Vm.Alike.refl U.vm) qK⟩, va_recv hKc hPc (ci := 0) (q0 := 0) rfl rfl, fun U hU hW => ⟨rfl, by rw [hU]; exact hPc, va_K.moved hW.alike hKc⟩⟩ rfl rfl hl.1 rfl (lv_room (Nat.le_of_ble_eq_true rfl)) dX1_membersFrom_36 ⟨Nat.le_of_ble_eq_true rfl, Nat.le_of_ble_eq_true rfl⟩) (fun r_7 hw_6 => ?_)
      subst hw_6
      refine lv_aload_n hx hb dX1_membersFrom_39 rfl (lv_at hl 2 rfl) ?_
      refine va_get (D := (dC, dI)) (ci := 1) (v := .ref bm) (C := RX1) (T := TX1) (N := 2) hx hb hts (by decide +kernel) hown hK hP 0 rfl rfl 0 (by decide) (hts (.fieldLink RX1 14 "SmallNumberSets$Buckets" "members" "LSmallNumberSets$Bits;") (by decide +kernel)) (fun _ h9 => h9) rfl dX1_membersFrom_40 ?_
      refine lv_iload_n hx hb dX1_membersFrom_43 rfl (lv_at hl 3 rfl) ?_
      have hPc := hP.sub (ws' := [(bm, .inr (0, [.ref am])), (am, .inl (cJ, 64, .inr (.inl fm)))]) [1, 2] rfl
      have hKc := hK.sub (tys' := [(cJ, .long)]) [0] rfl
      refine vp_callSi (W.runV (As := [.int (nI k)]) (rest := [.int (nI (fb_ct (bo fm) 4096))]) ⟨hx, hb, hml, hown, hts⟩ (c_X0_countBelow l dC dI bm am cJ 64 fm k (by omega) (by omega)) (cwV 1 hts gX1_membersFrom_X0_countBelow rfl rfl rfl (by decide +kernel) ⟨Nat.le_of_ble_eq_true rfl, Nat.le_of_ble_eq_true rfl⟩) ⟨fun a U g mk q => by obtain ⟨q0, qP, qK⟩ := q; exact ⟨q0, qP, va_K.moved (u := U) (U := U.calling g mk a) (Vm.Alike.refl U.vm) qK⟩, va_recv hKc hPc (ci := 0) (q0 := 0) rfl rfl, fun U hU hW => ⟨rfl, by rw [hU]; exact hPc, va_K.moved hW.alike hKc⟩⟩ rfl rfl hl.1 rfl (lv_room (Nat.le_of_ble_eq_true rfl)) dX1_membersFrom_44 ⟨Nat.le_of_ble_eq_true rfl, Nat.le_of_ble_eq_true rfl⟩) (fun r_9 hw_8 => ?_)
      subst hw_8
      refine lv_isub hx hb dX1_membersFrom_47 ?_
      refine lv_cvi (pk_sub (by omega)) ?_
      exact W.iret (v := nI ((fb_ct (bo fm) 4096) - (fb_ct (bo fm) k))) hx hb hr (fun t9 ht hW => ⟨nI ((fb_ct (bo fm) 4096) - (fb_ct (bo fm) k)), rfl, congrArg nI (by unfold heldc; rw [hns]), ht⟩) (fun q h => by cases h) dX1_membersFrom_48
  · refine lv_cvi ((rfl : oI (some z) = nI z)) ?_
    have hz1 := (kth_some hz).1
    refine lv_istore_n (lv' := [(2, .int (nI z)), (0, .ref q), (1, .int (nI k))]) hx hb dX1_membersFrom_17 rfl hl (by decide) rfl (fun ls hl => ?_)
    refine lv_iload_n hx hb dX1_membersFrom_18 rfl (lv_at hl 0 rfl) ?_
    refine lv_iconst (v := -1) hx hb dX1_membersFrom_19 (by decide +kernel) ?_
    refine lv_icmp_ne (tgt := 29) hx hb dX1_membersFrom_20 (by decide) (fun qc_10 => ?_) (fun qc_10 => ?_)
    · refine lv_iload_n hx hb dX1_membersFrom_29 rfl (lv_at hl 0 rfl) ?_
      refine lv_istore_n (lv' := [(3, .int (nI z)), (2, .int (nI z)), (0, .ref q), (1, .int (nI k))]) hx hb dX1_membersFrom_30 rfl hl (by decide) rfl (fun ls hl => ?_)
      have hns := nsep_some hz
      have hnl := nsep_le (P := bo fs) hk
      have hmo := fb_ct_mono (bo fm) (show k ≤ nsep (bo fs) k by omega)
      rw [hns] at hmo hnl
      refine lv_aload_n hx hb dX1_membersFrom_31 rfl (lv_at hl 2 rfl) ?_
      refine va_get (D := (dC, dI)) (ci := 1) (v := .ref bm) (C := RX1) (T := TX1) (N := 2) hx hb hts (by decide +kernel) hown hK hP 0 rfl rfl 0 (by decide) (hts (.fieldLink RX1 14 "SmallNumberSets$Buckets" "members" "LSmallNumberSets$Bits;") (by decide +kernel)) (fun _ h9 => h9) rfl dX1_membersFrom_32 ?_
      refine lv_iload_n hx hb dX1_membersFrom_35 rfl (lv_at hl 0 rfl) ?_
      have hPc := hP.sub (ws' := [(bm, .inr (0, [.ref am])), (am, .inl (cJ, 64, .inr (.inl fm)))]) [1, 2] rfl
      have hKc := hK.sub (tys' := [(cJ, .long)]) [0] rfl
      refine vp_callSi (W.runV (As := [.int (nI z)]) (rest := []) ⟨hx, hb, hml, hown, hts⟩ (c_X0_countBelow l dC dI bm am cJ 64 fm z (by omega) (by omega)) (cwV 1 hts gX1_membersFrom_X0_countBelow rfl rfl rfl (by decide +kernel) ⟨Nat.le_of_ble_eq_true rfl, Nat.le_of_ble_eq_true rfl⟩) ⟨fun a U g mk q => by obtain ⟨q0, qP, qK⟩ := q; exact ⟨q0, qP, va_K.moved (u := U) (U := U.calling g mk a) (Vm.Alike.refl U.vm) qK⟩, va_recv hKc hPc (ci := 0) (q0 := 0) rfl rfl, fun U hU hW => ⟨rfl, by rw [hU]; exact hPc, va_K.moved hW.alike hKc⟩⟩ rfl rfl hl.1 rfl (lv_room (Nat.le_of_ble_eq_true rfl)) dX1_membersFrom_36 ⟨Nat.le_of_ble_eq_true rfl, Nat.le_of_ble_eq_true rfl⟩) (fun r_12 hw_11 => ?_)
      subst hw_11
      refine lv_aload_n hx hb dX1_membersFrom_39 rfl (lv_at hl 2 rfl) ?_
      refine va_get (D := (dC, dI)) (ci := 1) (v := .ref bm) (C := RX1) (T := TX1) (N := 2) hx hb hts (by decide +kernel) hown hK hP 0 rfl rfl 0 (by decide) (hts (.fieldLink RX1 14 "SmallNumberSets$Buckets" "members" "LSmallNumberSets$Bits;") (by decide +kernel)) (fun _ h9 => h9) rfl dX1_membersFrom_40 ?_
      refine lv_iload_n hx hb dX1_membersFrom_43 rfl (lv_at hl 3 rfl) ?_
      have hPc := hP.sub (ws' := [(bm, .inr (0, [.ref am])), (am, .inl (cJ, 64, .inr (.inl fm)))]) [1, 2] rfl
      have hKc := hK.sub (tys' := [(cJ, .long)]) [0] rfl
      refine vp_callSi (W.runV (As := [.int (nI k)]) (rest := [.int (nI (fb_ct (bo fm) z))]) ⟨hx, hb, hml, hown, hts⟩ (c_X0_countBelow l dC dI bm am cJ 64 fm k (by omega) (by omega)) (cwV 1 hts gX1_membersFrom_X0_countBelow rfl rfl rfl (by decide +kernel) ⟨Nat.le_of_ble_eq_true rfl, Nat.le_of_ble_eq_true rfl⟩) ⟨fun a U g mk q => by obtain ⟨q0, qP, qK⟩ := q; exact ⟨q0, qP, va_K.moved (u := U) (U := U.calling g mk a) (Vm.Alike.refl U.vm) qK⟩, va_recv hKc hPc (ci := 0) (q0 := 0) rfl rfl, fun U hU hW => ⟨rfl, by rw [hU]; exact hPc, va_K.moved hW.alike hKc⟩⟩ rfl rfl hl.1 rfl (lv_room (Nat.le_of_ble_eq_true rfl)) dX1_membersFrom_44 ⟨Nat.le_of_ble_eq_true rfl, Nat.le_of_ble_eq_true rfl⟩) (fun r_14 hw_13 => ?_)
      subst hw_13
      refine lv_isub hx hb dX1_membersFrom_47 ?_
      refine lv_cvi (pk_sub (by omega)) ?_
      exact W.iret (v := nI ((fb_ct (bo fm) z) - (fb_ct (bo fm) k))) hx hb hr (fun t9 ht hW => ⟨nI ((fb_ct (bo fm) z) - (fb_ct (bo fm) k)), rfl, congrArg nI (by unfold heldc; rw [hns]), ht⟩) (fun q h => by cases h) dX1_membersFrom_48
    · exact absurd qc_10 (nI_nem1 (by omega))
set_option maxHeartbeats 4000000 in
set_option maxRecDepth 100000 in
/-- Buckets.splitIfLarge -/
theorem c_X1_splitIfLarge (l : Launch) (dC : Nat → ClassId) (dI : Nat → Nat → Nat) (q : Nat) (bm : Nat) (am : Nat) (bs : Nat) (ap : Nat) (cJ : ClassId) (fm : Nat → Int64) (fs : Nat → Int64) (k : Nat) (sz : Nat) (hk : k < 4096) : Met l yX1_splitIfLarge wsX1_splitIfLarge ({ frames := 4, cells := 0, slots := 0, locals := 92 }) (va_Pc [.ref q, .int (nI k)] (fun U => U.heap.size = sz ∧ va_P (dC, dI) vwCl [(q, .inr (1, [.ref bm, .ref bs])), (bm, .inr (0, [.ref am])), (am, .inl (cJ, 64, .inr (.inl fm))), (bs, .inr (0, [.ref ap])), (ap, .inl (cJ, 64, .inr (.inl fs)))] U.heap ∧ va_K (dC, dI) vwCl [(cJ, .long)] U ∧ va_D (fun _ => True) [(q, .inr (1, [.ref bm, .ref bs])), (bm, .inr (0, [.ref am])), (am, .inl (cJ, 64, .inr (.inl fm))), (bs, .inr (0, [.ref ap])), (ap, .inl (cJ, 64, .inr (.inl fs)))])) (va_Qv (fun (u : (Nat → Int64)) => ∀ x, bo u x = spl (bo fm) (bo fs) k x) (fun (u : (Nat → Int64)) (t : State) => va_P (dC, dI) vwCl [(q, .inr (1, [.ref bm, .ref bs])), (bm, .inr (0, [.ref am])), (am, .inl (cJ, 64, .inr (.inl fm))), (bs, .inr (0, [.ref ap])), (ap, .inl (cJ, 64, .inr (.inl u)))] t.heap ∧ va_K (dC, dI) vwCl [(cJ, .long)] t ∧ va_D (va_A [(q, .inr (1, [.ref bm, .ref bs])), (bm, .inr (0, [.ref am])), (am, .inl (cJ, 64, .inr (.inl fm))), (bs, .inr (0, [.ref ap])), (ap, .inl (cJ, 64, .inr (.inl fs)))] sz) [(q, .inr (1, [.ref bm, .ref bs])), (bm, .inr (0, [.ref am])), (am, .inl (cJ, 64, .inr (.inl fm))), (bs, .inr (0, [.ref ap])), (ap, .inl (cJ, 64, .inr (.inl u)))]) (va_A [(q, .inr (1, [.ref bm, .ref bs])), (bm, .inr (0, [.ref am])), (am, .inl (cJ, 64, .inr (.inl fm))), (bs, .inr (0, [.ref ap])), (ap, .inl (cJ, 64, .inr (.inl fs)))] sz)) 0 0 (va_A [(q, .inr (1, [.ref bm, .ref bs])), (bm, .inr (0, [.ref am])), (am, .inl (cJ, 64, .inr (.inl fm))), (bs, .inr (0, [.ref ap])), (ap, .inl (cJ, 64, .inr (.inl fs)))] sz) := by
  refine Met.ofW (cc := cX1_splitIfLarge) (maxL := 3) (ret := none) (by decide) rfl ?_
  intro p e s m args below meth c s₁ B hml hv
  obtain ⟨rfl, hsz, hP, hK, hD0⟩ := hv
  have hx := B.exec
  have hb := B.bytes
  have hr := B.returns
  have hts := atoms_spec (ws := wsX1_splitIfLarge) B.pre
  have hown : s.vm.findClass RX1 = some m.cls := findClass_of_methodNamed B.named
  have hlocks := B.notSynchronized
  subst hsz
  have hD := hD0.self (sz := s.heap.size)
  generalize hAe : va_A [(q, .inr (1, [.ref bm, .ref bs])), (bm, .inr (0, [.ref am])), (am, .inl (cJ, 64, .inr (.inl fm))), (bs, .inr (0, [.ref ap])), (ap, .inl (cJ, 64, .inr (.inl fs)))] s.heap.size = A at hD ⊢
  have hA : ∀ q : Nat, s.heap.size ≤ q → A q := fun q h => by rw [← hAe]; exact Or.inr h
  have hS : va_S A s.heap s.heap [] := va_S.rf
  have hP : va_P (dC, dI) vwCl [(q, .inr (1, [.ref bm, .ref bs])), (bm, .inr (0, [.ref am])), (am, .inl (cJ, 64, .inr (.inl fm))), (bs, .inr (0, [.ref ap])), (ap, .inl (cJ, 64, .inr (.inl fs)))] s.heap := hP
  have hl := lv_entry ([.ref q, .int (nI k)]) (n := 3) (Nat.le_of_ble_eq_true rfl)
  rw [lg_entry_eq]
  generalize (lg_sl ([.ref q, .int (nI k)]) ++ List.replicate (3 - (lg_sl ([.ref q, .int (nI k)])).length) Slot.unset).toArray = ls at hl ⊢
  have hl : lv_has ls 3 [(0, .ref q), (1, .int (nI k))] := hl
  refine lv_aload_n hx hb dX1_splitIfLarge_0 rfl (lv_at hl 0 rfl) ?_
  refine lv_iload_n hx hb dX1_splitIfLarge_1 rfl (lv_at hl 1 rfl) ?_
  have hPc := hP.sub (ws' := [(q, .inr (1, [.ref bm, .ref bs])), (bm, .inr (0, [.ref am])), (am, .inl (cJ, 64, .inr (.inl fm))), (bs, .inr (0, [.ref ap])), (ap, .inl (cJ, 64, .inr (.inl fs)))]) [0, 1, 2, 3, 4] rfl
  have hKc := hK.sub (tys' := [(cJ, .long)]) [0] rfl
  refine vp_callSi (W.runV (As := [.int (nI k)]) (rest := []) ⟨hx, hb, hml, hown, hts⟩ (c_X1_membersFrom l dC dI q bm am bs ap cJ fm fs k (by omega)) (cwV 1 hts gX1_splitIfLarge_X1_membersFrom rfl rfl rfl (by decide +kernel) ⟨Nat.le_of_ble_eq_true rfl, Nat.le_of_ble_eq_true rfl⟩) ⟨fun a U g mk q => by obtain ⟨q0, qP, qK⟩ := q; exact ⟨q0, qP, va_K.moved (u := U) (U := U.calling g mk a) (Vm.Alike.refl U.vm) qK⟩, va_recv hKc hPc (ci := 1) (q0 := 0) rfl rfl, fun U hU hW => ⟨rfl, by rw [hU]; exact hPc, va_K.moved hW.alike hKc⟩⟩ rfl rfl hl.1 rfl (lv_room (Nat.le_of_ble_eq_true rfl)) dX1_splitIfLarge_2 ⟨Nat.le_of_ble_eq_true rfl, Nat.le_of_ble_eq_true rfl⟩) (fun r_2 hw_1 => ?_)
  subst hw_1
  have hh9 := heldc_b (bo fm) (bo fs) k
  refine lv_istore_n (lv' := [(2, .int (nI (heldc (bo fm) (bo fs) k))), (0, .ref q), (1, .int (nI k))]) hx hb dX1_splitIfLarge_5 rfl hl (by decide) rfl (fun ls hl => ?_)
  refine lv_iload_n hx hb dX1_splitIfLarge_6 rfl (lv_at hl 0 rfl) ?_
  refine lv_bipush (v := nI 8) hx hb dX1_splitIfLarge_7 (by decide +kernel) ?_
  refine lv_icmp_le (tgt := 32) hx hb dX1_splitIfLarge_9 (by decide) (fun qc_3 => ?_) (fun qc_3 => ?_)
  · have c_3 : (heldc (bo fm) (bo fs) k) ≤ 8 := (nI_leI (a := heldc (bo fm) (bo fs) k) (b := 8) (by omega) (by omega)).mp qc_3
    have hP9 := hP.sub (ws' := [(q, .inr (1, [.ref bm, .ref bs])), (bm, .inr (0, [.ref am])), (am, .inl (cJ, 64, .inr (.inl fm))), (bs, .inr (0, [.ref ap])), (ap, .inl (cJ, 64, .inr (.inl fs)))]) [0, 1, 2, 3, 4] rfl
    have hD9 := hD.sub (ws' := [(q, .inr (1, [.ref bm, .ref bs])), (bm, .inr (0, [.ref am])), (am, .inl (cJ, 64, .inr (.inl fm))), (bs, .inr (0, [.ref ap])), (ap, .inl (cJ, 64, .inr (.inl fs)))]) [0, 1, 2, 3, 4] (by decide) rfl
    have hK9 := hK.sub (tys' := [(cJ, .long)]) [0] rfl
    exact W.vret hx hb hr (fun t9 ht hW => ⟨⟨fs, rfl, fun x => spl_id (by omega) x, by rw [ht]; exact hP9, va_K.moved hW.alike hK9, hD9⟩, hS.F ht⟩) hS.2.2 dX1_splitIfLarge_32
  · have c_3 : ¬ (heldc (bo fm) (bo fs) k) ≤ 8 := fun h9 => qc_3 ((nI_leI (a := heldc (bo fm) (bo fs) k) (b := 8) (by omega) (by omega)).mpr h9)
    have hgt : 8 < heldc (bo fm) (bo fs) k := by omega
    obtain ⟨z, hz, hz1⟩ := spl_kth (M := bo fm) (P := bo fs) hk hgt
    have hc1 := fb_ct_le (bo fm) k
    have hc2 := fb_ct_le (bo fm) (nsep (bo fs) k)
    have hc3 := heldc_le (M := bo fm) (P := bo fs) hk
    have hc4 := nsep_le (P := bo fs) hk
    refine lv_aload_n hx hb dX1_splitIfLarge_12 rfl (lv_at hl 1 rfl) ?_
    refine va_get (D := (dC, dI)) (ci := 1) (v := .ref bs) (C := RX1) (T := TX1) (N := 2) hx hb hts (by decide +kernel) hown hK hP 0 rfl rfl 1 (by decide) (hts (.fieldLink RX1 20 "SmallNumberSets$Buckets" "separators" "LSmallNumberSets$Bits;") (by decide +kernel)) (fun _ h9 => h9) rfl dX1_splitIfLarge_13 ?_
    refine lv_aload_n hx hb dX1_splitIfLarge_16 rfl (lv_at hl 1 rfl) ?_
    refine lv_aload_n hx hb dX1_splitIfLarge_17 rfl (lv_at hl 1 rfl) ?_
    refine lv_iload_n hx hb dX1_splitIfLarge_18 rfl (lv_at hl 2 rfl) ?_
    have hPc := hP.sub (ws' := [(q, .inr (1, [.ref bm, .ref bs])), (bm, .inr (0, [.ref am])), (am, .inl (cJ, 64, .inr (.inl fm))), (bs, .inr (0, [.ref ap])), (ap, .inl (cJ, 64, .inr (.inl fs)))]) [0, 1, 2, 3, 4] rfl
    have hKc := hK.sub (tys' := [(cJ, .long)]) [0] rfl
    refine vp_callSi (W.runV (As := [.int (nI k)]) (rest := [.ref q, .ref bs]) ⟨hx, hb, hml, hown, hts⟩ (c_X1_membersBelow l dC dI q bm am bs ap cJ fm fs k (by omega)) (cwV 1 hts gX1_splitIfLarge_X1_membersBelow rfl rfl rfl (by decide +kernel) ⟨Nat.le_of_ble_eq_true rfl, Nat.le_of_ble_eq_true rfl⟩) ⟨fun a U g mk q => by obtain ⟨q0, qP, qK⟩ := q; exact ⟨q0, qP, va_K.moved (u := U) (U := U.calling g mk a) (Vm.Alike.refl U.vm) qK⟩, va_recv hKc hPc (ci := 1) (q0 := 0) rfl rfl, fun U hU hW => ⟨rfl, by rw [hU]; exact hPc, va_K.moved hW.alike hKc⟩⟩ rfl rfl hl.1 rfl (lv_room (Nat.le_of_ble_eq_true rfl)) dX1_splitIfLarge_19 ⟨Nat.le_of_ble_eq_true rfl, Nat.le_of_ble_eq_true rfl⟩) (fun r_5 hw_4 => ?_)
    subst hw_4
    refine lv_iload_n hx hb dX1_splitIfLarge_22 rfl (lv_at hl 0 rfl) ?_
    refine lv_iconst (v := nI 2) hx hb dX1_splitIfLarge_23 (by decide +kernel) ?_
    refine lv_idiv hx hb dX1_splitIfLarge_24 (by decide +kernel) ?_
    refine lv_cvi (pk_div (by omega) (by decide) (by decide)) ?_
    refine lv_iadd hx hb dX1_splitIfLarge_25 ?_
    refine lv_cvi (nI_add _ _) ?_
    have hPc := hP.sub (ws' := [(q, .inr (1, [.ref bm, .ref bs])), (bm, .inr (0, [.ref am])), (am, .inl (cJ, 64, .inr (.inl fm))), (bs, .inr (0, [.ref ap])), (ap, .inl (cJ, 64, .inr (.inl fs)))]) [0, 1, 2, 3, 4] rfl
    have hKc := hK.sub (tys' := [(cJ, .long)]) [0] rfl
    refine vp_callSi (W.runV (As := [.int (nI ((fb_ct (bo fm) k) + ((heldc (bo fm) (bo fs) k) / 2)))]) (rest := [.ref bs]) ⟨hx, hb, hml, hown, hts⟩ (c_X1_memberAt l dC dI q bm am bs ap cJ fm fs ((fb_ct (bo fm) k) + ((heldc (bo fm) (bo fs) k) / 2)) (by omega)) (cwV 1 hts gX1_splitIfLarge_X1_memberAt rfl rfl rfl (by decide +kernel) ⟨Nat.le_of_ble_eq_true rfl, Nat.le_of_ble_eq_true rfl⟩) ⟨fun a U g mk q => by obtain ⟨q0, qP, qK⟩ := q; exact ⟨q0, qP, va_K.moved (u := U) (U := U.calling g mk a) (Vm.Alike.refl U.vm) qK⟩, va_recv hKc hPc (ci := 1) (q0 := 0) rfl rfl, fun U hU hW => ⟨rfl, by rw [hU]; exact hPc, va_K.moved hW.alike hKc⟩⟩ rfl rfl hl.1 rfl (lv_room (Nat.le_of_ble_eq_true rfl)) dX1_splitIfLarge_26 ⟨Nat.le_of_ble_eq_true rfl, Nat.le_of_ble_eq_true rfl⟩) (fun r_7 hw_6 => ?_)
    subst hw_6
    refine lv_cvi (congrArg oI hz) ?_
    refine lv_cvi ((rfl : oI (some z) = nI z)) ?_
    have hPc := hP.sub (ws' := [(bs, .inr (0, [.ref ap])), (ap, .inl (cJ, 64, .inr (.inl fs)))]) [3, 4] rfl
    have hKc := hK.sub (tys' := [(cJ, .long)]) [0] rfl
    have hDc := hD.sub (ws' := [(bs, .inr (0, [.ref ap])), (ap, .inl (cJ, 64, .inr (.inl fs)))]) [3, 4] (by decide) rfl
    have hFc := va_free (wc := [(bs, .inr (0, [.ref ap])), (ap, .inl (cJ, 64, .inr (.inl fs)))]) hD hS hA [3, 4] rfl
    refine va_callv (va_runV (As := [.int (nI z)]) (rest := []) ⟨hx, hb, hml, hown, hts⟩ (c_X0_put l dC dI bs ap cJ 64 fs z s.heap.size (by omega) (by omega)) (cwV 1 hts gX1_splitIfLarge_X0_put rfl rfl rfl (by decide +kernel) ⟨Nat.le_of_ble_eq_true rfl, Nat.le_of_ble_eq_true rfl⟩) ⟨fun a U g mk q => by obtain ⟨q0, q1, qP, qK, qD⟩ := q; exact ⟨q0, q1, qP, va_K.moved (u := U) (U := U.calling g mk a) (Vm.Alike.refl U.vm) qK, qD⟩, va_recv hKc hPc (ci := 0) (q0 := 0) rfl rfl, fun U hU hW => ⟨rfl, by rw [hU], by rw [hU]; exact hPc, va_K.moved hW.alike hKc, hDc.weaken (fun _ _ _ _ => trivial)⟩⟩ rfl rfl hl.1 rfl (lv_room (Nat.le_of_ble_eq_true rfl)) dX1_splitIfLarge_29 ⟨Nat.le_of_ble_eq_true rfl, Nat.le_of_ble_eq_true rfl⟩) hS (fun q _ h => hFc q h) hFc (fun u_9 t9 H1 locs ht hvm hw_8 hB hz1 hk1 hS => ?_)
    obtain ⟨f'_11, rfl⟩ : ∃ z, z = u_9 := ⟨_, rfl⟩
    obtain ⟨hP1, hK1, hD1⟩ := hB
    rw [ht] at hP1
    have hK1 := va_K.moved hvm.symm hK1
    try dsimp only at hw_8 hP1 hK1 hD1
    obtain ⟨hP, hD⟩ := va_join (wr := [(q, .inr (1, [.ref bm, .ref bs])), (bm, .inr (0, [.ref am])), (am, .inl (cJ, 64, .inr (.inl fm)))]) (w1 := [(bs, .inr (0, [.ref ap])), (ap, .inl (cJ, 64, .inr (.inl f'_11)))]) hP hD [3, 4] [0, 1, 2] rfl rfl (by decide) (by decide) hk1 hFc hP1 hD1
    generalize H1 = H at hP hS ⊢
    have hP : va_P (dC, dI) vwCl [(q, .inr (1, [.ref bm, .ref bs])), (bm, .inr (0, [.ref am])), (am, .inl (cJ, 64, .inr (.inl fm))), (bs, .inr (0, [.ref ap])), (ap, .inl (cJ, 64, .inr (.inl f'_11)))] H := hP
    have hD : va_D A [(q, .inr (1, [.ref bm, .ref bs])), (bm, .inr (0, [.ref am])), (am, .inl (cJ, 64, .inr (.inl fm))), (bs, .inr (0, [.ref ap])), (ap, .inl (cJ, 64, .inr (.inl f'_11)))] := hD
    have hP9 := hP.sub (ws' := [(q, .inr (1, [.ref bm, .ref bs])), (bm, .inr (0, [.ref am])), (am, .inl (cJ, 64, .inr (.inl fm))), (bs, .inr (0, [.ref ap])), (ap, .inl (cJ, 64, .inr (.inl f'_11)))]) [0, 1, 2, 3, 4] rfl
    have hD9 := hD.sub (ws' := [(q, .inr (1, [.ref bm, .ref bs])), (bm, .inr (0, [.ref am])), (am, .inl (cJ, 64, .inr (.inl fm))), (bs, .inr (0, [.ref ap])), (ap, .inl (cJ, 64, .inr (.inl f'_11)))]) [0, 1, 2, 3, 4] (by decide) rfl
    have hK9 := hK.sub (tys' := [(cJ, .long)]) [0] rfl
    exact W.vret hx hb hr (fun t9 ht hW => ⟨⟨f'_11, rfl, fun x => (hw_8 x).trans (spl_at hgt hz x), by rw [ht]; exact hP9, va_K.moved hW.alike hK9, hD9⟩, hS.F ht⟩) hS.2.2 dX1_splitIfLarge_32
set_option maxHeartbeats 4000000 in
set_option maxRecDepth 100000 in
/-- Buckets.put -/
theorem c_X1_put (l : Launch) (dC : Nat → ClassId) (dI : Nat → Nat → Nat) (q : Nat) (bm : Nat) (am : Nat) (bs : Nat) (ap : Nat) (cJ : ClassId) (fm : Nat → Int64) (fs : Nat → Int64) (k : Nat) (sz : Nat) (hk : k < 4096) (h0 : bo fs 0 = true) : Met l yX1_put wsX1_put ({ frames := 5, cells := 0, slots := 0, locals := 114 }) (va_Pc [.ref q, .int (nI k)] (fun U => U.heap.size = sz ∧ va_P (dC, dI) vwCl [(q, .inr (1, [.ref bm, .ref bs])), (bm, .inr (0, [.ref am])), (am, .inl (cJ, 64, .inr (.inl fm))), (bs, .inr (0, [.ref ap])), (ap, .inl (cJ, 64, .inr (.inl fs)))] U.heap ∧ va_K (dC, dI) vwCl [(cJ, .long)] U ∧ va_D (fun _ => True) [(q, .inr (1, [.ref bm, .ref bs])), (bm, .inr (0, [.ref am])), (am, .inl (cJ, 64, .inr (.inl fm))), (bs, .inr (0, [.ref ap])), (ap, .inl (cJ, 64, .inr (.inl fs)))])) (va_Qv (fun (u : (Nat → Int64) × (Nat → Int64)) => (∀ x, bo u.1 x = ins (bo fm) k x) ∧ ∀ x, bo u.2 x = spl (bo u.1) (bo fs) (sp (bo fs) (bk (bo fs) k)) x) (fun (u : (Nat → Int64) × (Nat → Int64)) (t : State) => va_P (dC, dI) vwCl [(q, .inr (1, [.ref bm, .ref bs])), (bm, .inr (0, [.ref am])), (am, .inl (cJ, 64, .inr (.inl u.1))), (bs, .inr (0, [.ref ap])), (ap, .inl (cJ, 64, .inr (.inl u.2)))] t.heap ∧ va_K (dC, dI) vwCl [(cJ, .long)] t ∧ va_D (va_A [(q, .inr (1, [.ref bm, .ref bs])), (bm, .inr (0, [.ref am])), (am, .inl (cJ, 64, .inr (.inl fm))), (bs, .inr (0, [.ref ap])), (ap, .inl (cJ, 64, .inr (.inl fs)))] sz) [(q, .inr (1, [.ref bm, .ref bs])), (bm, .inr (0, [.ref am])), (am, .inl (cJ, 64, .inr (.inl u.1))), (bs, .inr (0, [.ref ap])), (ap, .inl (cJ, 64, .inr (.inl u.2)))]) (va_A [(q, .inr (1, [.ref bm, .ref bs])), (bm, .inr (0, [.ref am])), (am, .inl (cJ, 64, .inr (.inl fm))), (bs, .inr (0, [.ref ap])), (ap, .inl (cJ, 64, .inr (.inl fs)))] sz)) 0 0 (va_A [(q, .inr (1, [.ref bm, .ref bs])), (bm, .inr (0, [.ref am])), (am, .inl (cJ, 64, .inr (.inl fm))), (bs, .inr (0, [.ref ap])), (ap, .inl (cJ, 64, .inr (.inl fs)))] sz) := by
  refine Met.ofW (cc := cX1_put) (maxL := 2) (ret := none) (by decide) rfl ?_
  intro p e s m args below meth c s₁ B hml hv
  obtain ⟨rfl, hsz, hP, hK, hD0⟩ := hv
  have hx := B.exec
  have hb := B.bytes
  have hr := B.returns
  have hts := atoms_spec (ws := wsX1_put) B.pre
  have hown : s.vm.findClass RX1 = some m.cls := findClass_of_methodNamed B.named
  have hlocks := B.notSynchronized
  subst hsz
  have hD := hD0.self (sz := s.heap.size)
  generalize hAe : va_A [(q, .inr (1, [.ref bm, .ref bs])), (bm, .inr (0, [.ref am])), (am, .inl (cJ, 64, .inr (.inl fm))), (bs, .inr (0, [.ref ap])), (ap, .inl (cJ, 64, .inr (.inl fs)))] s.heap.size = A at hD ⊢
  have hA : ∀ q : Nat, s.heap.size ≤ q → A q := fun q h => by rw [← hAe]; exact Or.inr h
  have hS : va_S A s.heap s.heap [] := va_S.rf
  have hP : va_P (dC, dI) vwCl [(q, .inr (1, [.ref bm, .ref bs])), (bm, .inr (0, [.ref am])), (am, .inl (cJ, 64, .inr (.inl fm))), (bs, .inr (0, [.ref ap])), (ap, .inl (cJ, 64, .inr (.inl fs)))] s.heap := hP
  have hl := lv_entry ([.ref q, .int (nI k)]) (n := 2) (Nat.le_of_ble_eq_true rfl)
  rw [lg_entry_eq]
  generalize (lg_sl ([.ref q, .int (nI k)]) ++ List.replicate (2 - (lg_sl ([.ref q, .int (nI k)])).length) Slot.unset).toArray = ls at hl ⊢
  have hl : lv_has ls 2 [(0, .ref q), (1, .int (nI k))] := hl
  refine lv_aload_n hx hb dX1_put_0 rfl (lv_at hl 0 rfl) ?_
  refine va_get (D := (dC, dI)) (ci := 1) (v := .ref bm) (C := RX1) (T := TX1) (N := 2) hx hb hts (by decide +kernel) hown hK hP 0 rfl rfl 0 (by decide) (hts (.fieldLink RX1 14 "SmallNumberSets$Buckets" "members" "LSmallNumberSets$Bits;") (by decide +kernel)) (fun _ h9 => h9) rfl dX1_put_1 ?_
  refine lv_iload_n hx hb dX1_put_4 rfl (lv_at hl 1 rfl) ?_
  have hPc := hP.sub (ws' := [(bm, .inr (0, [.ref am])), (am, .inl (cJ, 64, .inr (.inl fm)))]) [1, 2] rfl
  have hKc := hK.sub (tys' := [(cJ, .long)]) [0] rfl
  have hDc := hD.sub (ws' := [(bm, .inr (0, [.ref am])), (am, .inl (cJ, 64, .inr (.inl fm)))]) [1, 2] (by decide) rfl
  have hFc := va_free (wc := [(bm, .inr (0, [.ref am])), (am, .inl (cJ, 64, .inr (.inl fm)))]) hD hS hA [1, 2] rfl
  refine va_callv (va_runV (As := [.int (nI k)]) (rest := []) ⟨hx, hb, hml, hown, hts⟩ (c_X0_put l dC dI bm am cJ 64 fm k s.heap.size (by omega) (by omega)) (cwV 1 hts gX1_put_X0_put rfl rfl rfl (by decide +kernel) ⟨Nat.le_of_ble_eq_true rfl, Nat.le_of_ble_eq_true rfl⟩) ⟨fun a U g mk q => by obtain ⟨q0, q1, qP, qK, qD⟩ := q; exact ⟨q0, q1, qP, va_K.moved (u := U) (U := U.calling g mk a) (Vm.Alike.refl U.vm) qK, qD⟩, va_recv hKc hPc (ci := 0) (q0 := 0) rfl rfl, fun U hU hW => ⟨rfl, by rw [hU], by rw [hU]; exact hPc, va_K.moved hW.alike hKc, hDc.weaken (fun _ _ _ _ => trivial)⟩⟩ rfl rfl hl.1 rfl (lv_room (Nat.le_of_ble_eq_true rfl)) dX1_put_5 ⟨Nat.le_of_ble_eq_true rfl, Nat.le_of_ble_eq_true rfl⟩) hS (fun q _ h => hFc q h) hFc (fun u_2 t9 H1 locs ht hvm hw_1 hB hz1 hk1 hS => ?_)
  obtain ⟨f'_4, rfl⟩ : ∃ z, z = u_2 := ⟨_, rfl⟩
  obtain ⟨hP1, hK1, hD1⟩ := hB
  rw [ht] at hP1
  have hK1 := va_K.moved hvm.symm hK1
  try dsimp only at hw_1 hP1 hK1 hD1
  obtain ⟨hP, hD⟩ := va_join (wr := [(q, .inr (1, [.ref bm, .ref bs])), (bs, .inr (0, [.ref ap])), (ap, .inl (cJ, 64, .inr (.inl fs)))]) (w1 := [(bm, .inr (0, [.ref am])), (am, .inl (cJ, 64, .inr (.inl f'_4)))]) hP hD [1, 2] [0, 3, 4] rfl rfl (by decide) (by decide) hk1 hFc hP1 hD1
  generalize H1 = H at hP hS ⊢
  have hP := hP.sub (ws' := [(q, .inr (1, [.ref bm, .ref bs])), (bm, .inr (0, [.ref am])), (am, .inl (cJ, 64, .inr (.inl f'_4))), (bs, .inr (0, [.ref ap])), (ap, .inl (cJ, 64, .inr (.inl fs)))]) [0, 3, 4, 1, 2] rfl
  have hD := hD.sub (ws' := [(q, .inr (1, [.ref bm, .ref bs])), (bm, .inr (0, [.ref am])), (am, .inl (cJ, 64, .inr (.inl f'_4))), (bs, .inr (0, [.ref ap])), (ap, .inl (cJ, 64, .inr (.inl fs)))]) [0, 3, 4, 1, 2] (by decide) rfl
  have hP : va_P (dC, dI) vwCl [(q, .inr (1, [.ref bm, .ref bs])), (bm, .inr (0, [.ref am])), (am, .inl (cJ, 64, .inr (.inl f'_4))), (bs, .inr (0, [.ref ap])), (ap, .inl (cJ, 64, .inr (.inl fs)))] H := hP
  have hD : va_D A [(q, .inr (1, [.ref bm, .ref bs])), (bm, .inr (0, [.ref am])), (am, .inl (cJ, 64, .inr (.inl f'_4))), (bs, .inr (0, [.ref ap])), (ap, .inl (cJ, 64, .inr (.inl fs)))] := hD
  have hA1 := hw_1
  refine lv_aload_n hx hb dX1_put_8 rfl (lv_at hl 0 rfl) ?_
  refine lv_aload_n hx hb dX1_put_9 rfl (lv_at hl 0 rfl) ?_
  refine lv_aload_n hx hb dX1_put_10 rfl (lv_at hl 0 rfl) ?_
  refine lv_iload_n hx hb dX1_put_11 rfl (lv_at hl 1 rfl) ?_
  have hPc := hP.sub (ws' := [(q, .inr (1, [.ref bm, .ref bs])), (bm, .inr (0, [.ref am])), (am, .inl (cJ, 64, .inr (.inl f'_4))), (bs, .inr (0, [.ref ap])), (ap, .inl (cJ, 64, .inr (.inl fs)))]) [0, 1, 2, 3, 4] rfl
  have hKc := hK.sub (tys' := [(cJ, .long)]) [0] rfl
  refine vp_callSi (W.runV (As := [.int (nI k)]) (rest := [.ref q, .ref q]) ⟨hx, hb, hml, hown, hts⟩ (c_X1_bucketHolding l dC dI q bm am bs ap cJ f'_4 fs k (by omega) (by omega)) (cwV 1 hts gX1_put_X1_bucketHolding rfl rfl rfl (by decide +kernel) ⟨Nat.le_of_ble_eq_true rfl, Nat.le_of_ble_eq_true rfl⟩) ⟨fun a U g mk q => by obtain ⟨q0, qP, qK⟩ := q; exact ⟨q0, qP, va_K.moved (u := U) (U := U.calling g mk a) (Vm.Alike.refl U.vm) qK⟩, va_recv hKc hPc (ci := 1) (q0 := 0) rfl rfl, fun U hU hW => ⟨rfl, by rw [hU]; exact hPc, va_K.moved hW.alike hKc⟩⟩ rfl rfl hl.1 rfl (lv_room (Nat.le_of_ble_eq_true rfl)) dX1_put_12 ⟨Nat.le_of_ble_eq_true rfl, Nat.le_of_ble_eq_true rfl⟩) (fun r_6 hw_5 => ?_)
  subst hw_5
  have hb1 := bk_lt h0 hk
  obtain ⟨hs1, hs2, -, -⟩ := sp_lt hb1
  have hb2 := fb_ct_le (bo fs) 4096
  have hPc := hP.sub (ws' := [(q, .inr (1, [.ref bm, .ref bs])), (bm, .inr (0, [.ref am])), (am, .inl (cJ, 64, .inr (.inl f'_4))), (bs, .inr (0, [.ref ap])), (ap, .inl (cJ, 64, .inr (.inl fs)))]) [0, 1, 2, 3, 4] rfl
  have hKc := hK.sub (tys' := [(cJ, .long)]) [0] rfl
  refine vp_callSi (W.runV (As := [.int (nI (bk (bo fs) k))]) (rest := [.ref q]) ⟨hx, hb, hml, hown, hts⟩ (c_X1_separatorAt l dC dI q bm am bs ap cJ f'_4 fs (bk (bo fs) k) (by omega)) (cwV 1 hts gX1_put_X1_separatorAt rfl rfl rfl (by decide +kernel) ⟨Nat.le_of_ble_eq_true rfl, Nat.le_of_ble_eq_true rfl⟩) ⟨fun a U g mk q => by obtain ⟨q0, qP, qK⟩ := q; exact ⟨q0, qP, va_K.moved (u := U) (U := U.calling g mk a) (Vm.Alike.refl U.vm) qK⟩, va_recv hKc hPc (ci := 1) (q0 := 0) rfl rfl, fun U hU hW => ⟨rfl, by rw [hU]; exact hPc, va_K.moved hW.alike hKc⟩⟩ rfl rfl hl.1 rfl (lv_room (Nat.le_of_ble_eq_true rfl)) dX1_put_15 ⟨Nat.le_of_ble_eq_true rfl, Nat.le_of_ble_eq_true rfl⟩) (fun r_8 hw_7 => ?_)
  subst hw_7
  refine lv_cvi (congrArg oI hs1) ?_
  refine lv_cvi (rfl) ?_
  have hPc := hP.sub (ws' := [(q, .inr (1, [.ref bm, .ref bs])), (bm, .inr (0, [.ref am])), (am, .inl (cJ, 64, .inr (.inl f'_4))), (bs, .inr (0, [.ref ap])), (ap, .inl (cJ, 64, .inr (.inl fs)))]) [0, 1, 2, 3, 4] rfl
  have hKc := hK.sub (tys' := [(cJ, .long)]) [0] rfl
  have hDc := hD.sub (ws' := [(q, .inr (1, [.ref bm, .ref bs])), (bm, .inr (0, [.ref am])), (am, .inl (cJ, 64, .inr (.inl f'_4))), (bs, .inr (0, [.ref ap])), (ap, .inl (cJ, 64, .inr (.inl fs)))]) [0, 1, 2, 3, 4] (by decide) rfl
  have hFc := va_free (wc := [(q, .inr (1, [.ref bm, .ref bs])), (bm, .inr (0, [.ref am])), (am, .inl (cJ, 64, .inr (.inl f'_4))), (bs, .inr (0, [.ref ap])), (ap, .inl (cJ, 64, .inr (.inl fs)))]) hD hS hA [0, 1, 2, 3, 4] rfl
  refine va_callv (va_runV (As := [.int (nI (sp (bo fs) (bk (bo fs) k)))]) (rest := []) ⟨hx, hb, hml, hown, hts⟩ (c_X1_splitIfLarge l dC dI q bm am bs ap cJ f'_4 fs (sp (bo fs) (bk (bo fs) k)) H.size (by omega)) (cwV 1 hts gX1_put_X1_splitIfLarge rfl rfl rfl (by decide +kernel) ⟨Nat.le_of_ble_eq_true rfl, Nat.le_of_ble_eq_true rfl⟩) ⟨fun a U g mk q => by obtain ⟨q0, q1, qP, qK, qD⟩ := q; exact ⟨q0, q1, qP, va_K.moved (u := U) (U := U.calling g mk a) (Vm.Alike.refl U.vm) qK, qD⟩, va_recv hKc hPc (ci := 1) (q0 := 0) rfl rfl, fun U hU hW => ⟨rfl, by rw [hU], by rw [hU]; exact hPc, va_K.moved hW.alike hKc, hDc.weaken (fun _ _ _ _ => trivial)⟩⟩ rfl rfl hl.1 rfl (lv_room (Nat.le_of_ble_eq_true rfl)) dX1_put_18 ⟨Nat.le_of_ble_eq_true rfl, Nat.le_of_ble_eq_true rfl⟩) hS (fun q _ h => hFc q h) hFc (fun u_10 t9 H1 locs ht hvm hw_9 hB hz1 hk1 hS => ?_)
  obtain ⟨fs'_12, rfl⟩ : ∃ z, z = u_10 := ⟨_, rfl⟩
  obtain ⟨hP1, hK1, hD1⟩ := hB
  rw [ht] at hP1
  have hK1 := va_K.moved hvm.symm hK1
  try dsimp only at hw_9 hP1 hK1 hD1
  obtain ⟨hP, hD⟩ := va_join (wr := []) (w1 := [(q, .inr (1, [.ref bm, .ref bs])), (bm, .inr (0, [.ref am])), (am, .inl (cJ, 64, .inr (.inl f'_4))), (bs, .inr (0, [.ref ap])), (ap, .inl (cJ, 64, .inr (.inl fs'_12)))]) hP hD [0, 1, 2, 3, 4] [] rfl rfl (by decide) (by decide) hk1 hFc hP1 hD1
  generalize H1 = H at hP hS ⊢
  have hP : va_P (dC, dI) vwCl [(q, .inr (1, [.ref bm, .ref bs])), (bm, .inr (0, [.ref am])), (am, .inl (cJ, 64, .inr (.inl f'_4))), (bs, .inr (0, [.ref ap])), (ap, .inl (cJ, 64, .inr (.inl fs'_12)))] H := hP
  have hD : va_D A [(q, .inr (1, [.ref bm, .ref bs])), (bm, .inr (0, [.ref am])), (am, .inl (cJ, 64, .inr (.inl f'_4))), (bs, .inr (0, [.ref ap])), (ap, .inl (cJ, 64, .inr (.inl fs'_12)))] := hD
  have hP9 := hP.sub (ws' := [(q, .inr (1, [.ref bm, .ref bs])), (bm, .inr (0, [.ref am])), (am, .inl (cJ, 64, .inr (.inl f'_4))), (bs, .inr (0, [.ref ap])), (ap, .inl (cJ, 64, .inr (.inl fs'_12)))]) [0, 1, 2, 3, 4] rfl
  have hD9 := hD.sub (ws' := [(q, .inr (1, [.ref bm, .ref bs])), (bm, .inr (0, [.ref am])), (am, .inl (cJ, 64, .inr (.inl f'_4))), (bs, .inr (0, [.ref ap])), (ap, .inl (cJ, 64, .inr (.inl fs'_12)))]) [0, 1, 2, 3, 4] (by decide) rfl
  have hK9 := hK.sub (tys' := [(cJ, .long)]) [0] rfl
  exact W.vret hx hb hr (fun t9 ht hW => ⟨⟨⟨f'_4, fs'_12⟩, rfl, (show (∀ x, bo f'_4 x = ins (bo fm) k x) ∧ ∀ x, bo fs'_12 x = spl (bo f'_4) (bo fs) (sp (bo fs) (bk (bo fs) k)) x from ⟨hA1, hw_9⟩), by rw [ht]; exact hP9, va_K.moved hW.alike hK9, hD9⟩, hS.F ht⟩) hS.2.2 dX1_put_21
set_option maxHeartbeats 4000000 in
set_option maxRecDepth 100000 in
/-- Buckets.take -/
theorem c_X1_take (l : Launch) (dC : Nat → ClassId) (dI : Nat → Nat → Nat) (q : Nat) (bm : Nat) (am : Nat) (bs : Nat) (ap : Nat) (cJ : ClassId) (fm : Nat → Int64) (fs : Nat → Int64) (k : Nat) (sz : Nat) (hk : k < 4096) (h0 : bo fs 0 = true) : Met l yX1_take wsX1_take ({ frames := 5, cells := 0, slots := 0, locals := 114 }) (va_Pc [.ref q, .int (nI k)] (fun U => U.heap.size = sz ∧ va_P (dC, dI) vwCl [(q, .inr (1, [.ref bm, .ref bs])), (bm, .inr (0, [.ref am])), (am, .inl (cJ, 64, .inr (.inl fm))), (bs, .inr (0, [.ref ap])), (ap, .inl (cJ, 64, .inr (.inl fs)))] U.heap ∧ va_K (dC, dI) vwCl [(cJ, .long)] U ∧ va_D (fun _ => True) [(q, .inr (1, [.ref bm, .ref bs])), (bm, .inr (0, [.ref am])), (am, .inl (cJ, 64, .inr (.inl fm))), (bs, .inr (0, [.ref ap])), (ap, .inl (cJ, 64, .inr (.inl fs)))])) (va_Qv (fun (u : (Nat → Int64) × (Nat → Int64)) => (∀ x, bo u.1 x = del (bo fm) k x) ∧ ∀ x, bo u.2 x = mrg (bo u.1) (bo fs) (bk (bo fs) k) x) (fun (u : (Nat → Int64) × (Nat → Int64)) (t : State) => va_P (dC, dI) vwCl [(q, .inr (1, [.ref bm, .ref bs])), (bm, .inr (0, [.ref am])), (am, .inl (cJ, 64, .inr (.inl u.1))), (bs, .inr (0, [.ref ap])), (ap, .inl (cJ, 64, .inr (.inl u.2)))] t.heap ∧ va_K (dC, dI) vwCl [(cJ, .long)] t ∧ va_D (va_A [(q, .inr (1, [.ref bm, .ref bs])), (bm, .inr (0, [.ref am])), (am, .inl (cJ, 64, .inr (.inl fm))), (bs, .inr (0, [.ref ap])), (ap, .inl (cJ, 64, .inr (.inl fs)))] sz) [(q, .inr (1, [.ref bm, .ref bs])), (bm, .inr (0, [.ref am])), (am, .inl (cJ, 64, .inr (.inl u.1))), (bs, .inr (0, [.ref ap])), (ap, .inl (cJ, 64, .inr (.inl u.2)))]) (va_A [(q, .inr (1, [.ref bm, .ref bs])), (bm, .inr (0, [.ref am])), (am, .inl (cJ, 64, .inr (.inl fm))), (bs, .inr (0, [.ref ap])), (ap, .inl (cJ, 64, .inr (.inl fs)))] sz)) 0 0 (va_A [(q, .inr (1, [.ref bm, .ref bs])), (bm, .inr (0, [.ref am])), (am, .inl (cJ, 64, .inr (.inl fm))), (bs, .inr (0, [.ref ap])), (ap, .inl (cJ, 64, .inr (.inl fs)))] sz) := by
  refine Met.ofW (cc := cX1_take) (maxL := 5) (ret := none) (by decide) rfl ?_
  intro p e s m args below meth c s₁ B hml hv
  obtain ⟨rfl, hsz, hP, hK, hD0⟩ := hv
  have hx := B.exec
  have hb := B.bytes
  have hr := B.returns
  have hts := atoms_spec (ws := wsX1_take) B.pre
  have hown : s.vm.findClass RX1 = some m.cls := findClass_of_methodNamed B.named
  have hlocks := B.notSynchronized
  subst hsz
  have hD := hD0.self (sz := s.heap.size)
  generalize hAe : va_A [(q, .inr (1, [.ref bm, .ref bs])), (bm, .inr (0, [.ref am])), (am, .inl (cJ, 64, .inr (.inl fm))), (bs, .inr (0, [.ref ap])), (ap, .inl (cJ, 64, .inr (.inl fs)))] s.heap.size = A at hD ⊢
  have hA : ∀ q : Nat, s.heap.size ≤ q → A q := fun q h => by rw [← hAe]; exact Or.inr h
  have hS : va_S A s.heap s.heap [] := va_S.rf
  have hP : va_P (dC, dI) vwCl [(q, .inr (1, [.ref bm, .ref bs])), (bm, .inr (0, [.ref am])), (am, .inl (cJ, 64, .inr (.inl fm))), (bs, .inr (0, [.ref ap])), (ap, .inl (cJ, 64, .inr (.inl fs)))] s.heap := hP
  have hl := lv_entry ([.ref q, .int (nI k)]) (n := 5) (Nat.le_of_ble_eq_true rfl)
  rw [lg_entry_eq]
  generalize (lg_sl ([.ref q, .int (nI k)]) ++ List.replicate (5 - (lg_sl ([.ref q, .int (nI k)])).length) Slot.unset).toArray = ls at hl ⊢
  have hl : lv_has ls 5 [(0, .ref q), (1, .int (nI k))] := hl
  refine lv_aload_n hx hb dX1_take_0 rfl (lv_at hl 0 rfl) ?_
  refine va_get (D := (dC, dI)) (ci := 1) (v := .ref bm) (C := RX1) (T := TX1) (N := 2) hx hb hts (by decide +kernel) hown hK hP 0 rfl rfl 0 (by decide) (hts (.fieldLink RX1 14 "SmallNumberSets$Buckets" "members" "LSmallNumberSets$Bits;") (by decide +kernel)) (fun _ h9 => h9) rfl dX1_take_1 ?_
  refine lv_iload_n hx hb dX1_take_4 rfl (lv_at hl 1 rfl) ?_
  have hPc := hP.sub (ws' := [(bm, .inr (0, [.ref am])), (am, .inl (cJ, 64, .inr (.inl fm)))]) [1, 2] rfl
  have hKc := hK.sub (tys' := [(cJ, .long)]) [0] rfl
  have hDc := hD.sub (ws' := [(bm, .inr (0, [.ref am])), (am, .inl (cJ, 64, .inr (.inl fm)))]) [1, 2] (by decide) rfl
  have hFc := va_free (wc := [(bm, .inr (0, [.ref am])), (am, .inl (cJ, 64, .inr (.inl fm)))]) hD hS hA [1, 2] rfl
  refine va_callv (va_runV (As := [.int (nI k)]) (rest := []) ⟨hx, hb, hml, hown, hts⟩ (c_X0_take l dC dI bm am cJ 64 fm k s.heap.size (by omega) (by omega)) (cwV 1 hts gX1_take_X0_take rfl rfl rfl (by decide +kernel) ⟨Nat.le_of_ble_eq_true rfl, Nat.le_of_ble_eq_true rfl⟩) ⟨fun a U g mk q => by obtain ⟨q0, q1, qP, qK, qD⟩ := q; exact ⟨q0, q1, qP, va_K.moved (u := U) (U := U.calling g mk a) (Vm.Alike.refl U.vm) qK, qD⟩, va_recv hKc hPc (ci := 0) (q0 := 0) rfl rfl, fun U hU hW => ⟨rfl, by rw [hU], by rw [hU]; exact hPc, va_K.moved hW.alike hKc, hDc.weaken (fun _ _ _ _ => trivial)⟩⟩ rfl rfl hl.1 rfl (lv_room (Nat.le_of_ble_eq_true rfl)) dX1_take_5 ⟨Nat.le_of_ble_eq_true rfl, Nat.le_of_ble_eq_true rfl⟩) hS (fun q _ h => hFc q h) hFc (fun u_2 t9 H1 locs ht hvm hw_1 hB hz1 hk1 hS => ?_)
  obtain ⟨f'_4, rfl⟩ : ∃ z, z = u_2 := ⟨_, rfl⟩
  obtain ⟨hP1, hK1, hD1⟩ := hB
  rw [ht] at hP1
  have hK1 := va_K.moved hvm.symm hK1
  try dsimp only at hw_1 hP1 hK1 hD1
  obtain ⟨hP, hD⟩ := va_join (wr := [(q, .inr (1, [.ref bm, .ref bs])), (bs, .inr (0, [.ref ap])), (ap, .inl (cJ, 64, .inr (.inl fs)))]) (w1 := [(bm, .inr (0, [.ref am])), (am, .inl (cJ, 64, .inr (.inl f'_4)))]) hP hD [1, 2] [0, 3, 4] rfl rfl (by decide) (by decide) hk1 hFc hP1 hD1
  generalize H1 = H at hP hS ⊢
  have hP := hP.sub (ws' := [(q, .inr (1, [.ref bm, .ref bs])), (bm, .inr (0, [.ref am])), (am, .inl (cJ, 64, .inr (.inl f'_4))), (bs, .inr (0, [.ref ap])), (ap, .inl (cJ, 64, .inr (.inl fs)))]) [0, 3, 4, 1, 2] rfl
  have hD := hD.sub (ws' := [(q, .inr (1, [.ref bm, .ref bs])), (bm, .inr (0, [.ref am])), (am, .inl (cJ, 64, .inr (.inl f'_4))), (bs, .inr (0, [.ref ap])), (ap, .inl (cJ, 64, .inr (.inl fs)))]) [0, 3, 4, 1, 2] (by decide) rfl
  have hP : va_P (dC, dI) vwCl [(q, .inr (1, [.ref bm, .ref bs])), (bm, .inr (0, [.ref am])), (am, .inl (cJ, 64, .inr (.inl f'_4))), (bs, .inr (0, [.ref ap])), (ap, .inl (cJ, 64, .inr (.inl fs)))] H := hP
  have hD : va_D A [(q, .inr (1, [.ref bm, .ref bs])), (bm, .inr (0, [.ref am])), (am, .inl (cJ, 64, .inr (.inl f'_4))), (bs, .inr (0, [.ref ap])), (ap, .inl (cJ, 64, .inr (.inl fs)))] := hD
  have hA1 := hw_1
  refine lv_aload_n hx hb dX1_take_8 rfl (lv_at hl 0 rfl) ?_
  refine lv_iload_n hx hb dX1_take_9 rfl (lv_at hl 1 rfl) ?_
  have hPc := hP.sub (ws' := [(q, .inr (1, [.ref bm, .ref bs])), (bm, .inr (0, [.ref am])), (am, .inl (cJ, 64, .inr (.inl f'_4))), (bs, .inr (0, [.ref ap])), (ap, .inl (cJ, 64, .inr (.inl fs)))]) [0, 1, 2, 3, 4] rfl
  have hKc := hK.sub (tys' := [(cJ, .long)]) [0] rfl
  refine vp_callSi (W.runV (As := [.int (nI k)]) (rest := []) ⟨hx, hb, hml, hown, hts⟩ (c_X1_bucketHolding l dC dI q bm am bs ap cJ f'_4 fs k (by omega) (by omega)) (cwV 1 hts gX1_take_X1_bucketHolding rfl rfl rfl (by decide +kernel) ⟨Nat.le_of_ble_eq_true rfl, Nat.le_of_ble_eq_true rfl⟩) ⟨fun a U g mk q => by obtain ⟨q0, qP, qK⟩ := q; exact ⟨q0, qP, va_K.moved (u := U) (U := U.calling g mk a) (Vm.Alike.refl U.vm) qK⟩, va_recv hKc hPc (ci := 1) (q0 := 0) rfl rfl, fun U hU hW => ⟨rfl, by rw [hU]; exact hPc, va_K.moved hW.alike hKc⟩⟩ rfl rfl hl.1 rfl (lv_room (Nat.le_of_ble_eq_true rfl)) dX1_take_10 ⟨Nat.le_of_ble_eq_true rfl, Nat.le_of_ble_eq_true rfl⟩) (fun r_6 hw_5 => ?_)
  subst hw_5
  refine lv_istore_n (lv' := [(2, .int (nI (bk (bo fs) k))), (0, .ref q), (1, .int (nI k))]) hx hb dX1_take_13 rfl hl (by decide) rfl (fun ls hl => ?_)
  have hb1 := bk_lt h0 hk
  obtain ⟨hs1, hs2, -, -⟩ := sp_lt hb1
  have hb2 := fb_ct_le (bo fs) 4096
  refine lv_aload_n hx hb dX1_take_14 rfl (lv_at hl 1 rfl) ?_
  refine lv_aload_n hx hb dX1_take_15 rfl (lv_at hl 1 rfl) ?_
  refine lv_iload_n hx hb dX1_take_16 rfl (lv_at hl 0 rfl) ?_
  have hPc := hP.sub (ws' := [(q, .inr (1, [.ref bm, .ref bs])), (bm, .inr (0, [.ref am])), (am, .inl (cJ, 64, .inr (.inl f'_4))), (bs, .inr (0, [.ref ap])), (ap, .inl (cJ, 64, .inr (.inl fs)))]) [0, 1, 2, 3, 4] rfl
  have hKc := hK.sub (tys' := [(cJ, .long)]) [0] rfl
  refine vp_callSi (W.runV (As := [.int (nI (bk (bo fs) k))]) (rest := [.ref q]) ⟨hx, hb, hml, hown, hts⟩ (c_X1_separatorAt l dC dI q bm am bs ap cJ f'_4 fs (bk (bo fs) k) (by omega)) (cwV 1 hts gX1_take_X1_separatorAt rfl rfl rfl (by decide +kernel) ⟨Nat.le_of_ble_eq_true rfl, Nat.le_of_ble_eq_true rfl⟩) ⟨fun a U g mk q => by obtain ⟨q0, qP, qK⟩ := q; exact ⟨q0, qP, va_K.moved (u := U) (U := U.calling g mk a) (Vm.Alike.refl U.vm) qK⟩, va_recv hKc hPc (ci := 1) (q0 := 0) rfl rfl, fun U hU hW => ⟨rfl, by rw [hU]; exact hPc, va_K.moved hW.alike hKc⟩⟩ rfl rfl hl.1 rfl (lv_room (Nat.le_of_ble_eq_true rfl)) dX1_take_17 ⟨Nat.le_of_ble_eq_true rfl, Nat.le_of_ble_eq_true rfl⟩) (fun r_8 hw_7 => ?_)
  subst hw_7
  refine lv_cvi (congrArg oI hs1) ?_
  refine lv_cvi (rfl) ?_
  have hPc := hP.sub (ws' := [(q, .inr (1, [.ref bm, .ref bs])), (bm, .inr (0, [.ref am])), (am, .inl (cJ, 64, .inr (.inl f'_4))), (bs, .inr (0, [.ref ap])), (ap, .inl (cJ, 64, .inr (.inl fs)))]) [0, 1, 2, 3, 4] rfl
  have hKc := hK.sub (tys' := [(cJ, .long)]) [0] rfl
  refine vp_callSi (W.runV (As := [.int (nI (sp (bo fs) (bk (bo fs) k)))]) (rest := []) ⟨hx, hb, hml, hown, hts⟩ (c_X1_membersFrom l dC dI q bm am bs ap cJ f'_4 fs (sp (bo fs) (bk (bo fs) k)) (by omega)) (cwV 1 hts gX1_take_X1_membersFrom rfl rfl rfl (by decide +kernel) ⟨Nat.le_of_ble_eq_true rfl, Nat.le_of_ble_eq_true rfl⟩) ⟨fun a U g mk q => by obtain ⟨q0, qP, qK⟩ := q; exact ⟨q0, qP, va_K.moved (u := U) (U := U.calling g mk a) (Vm.Alike.refl U.vm) qK⟩, va_recv hKc hPc (ci := 1) (q0 := 0) rfl rfl, fun U hU hW => ⟨rfl, by rw [hU]; exact hPc, va_K.moved hW.alike hKc⟩⟩ rfl rfl hl.1 rfl (lv_room (Nat.le_of_ble_eq_true rfl)) dX1_take_20 ⟨Nat.le_of_ble_eq_true rfl, Nat.le_of_ble_eq_true rfl⟩) (fun r_10 hw_9 => ?_)
  subst hw_9
  have hh9 := heldc_b (bo f'_4) (bo fs) (sp (bo fs) (bk (bo fs) k))
  refine lv_iconst (v := nI 2) hx hb dX1_take_23 (by decide +kernel) ?_
  refine lv_icmp_ge (tgt := 35) hx hb dX1_take_24 (by decide) (fun qc_11 => ?_) (fun qc_11 => ?_)
  · have c_11 : 2 ≤ (heldc (bo f'_4) (bo fs) (sp (bo fs) (bk (bo fs) k))) := (nI_leI (a := 2) (b := heldc (bo f'_4) (bo fs) (sp (bo fs) (bk (bo fs) k))) (by omega) (by omega)).mp qc_11
    have hP9 := hP.sub (ws' := [(q, .inr (1, [.ref bm, .ref bs])), (bm, .inr (0, [.ref am])), (am, .inl (cJ, 64, .inr (.inl f'_4))), (bs, .inr (0, [.ref ap])), (ap, .inl (cJ, 64, .inr (.inl fs)))]) [0, 1, 2, 3, 4] rfl
    have hD9 := hD.sub (ws' := [(q, .inr (1, [.ref bm, .ref bs])), (bm, .inr (0, [.ref am])), (am, .inl (cJ, 64, .inr (.inl f'_4))), (bs, .inr (0, [.ref ap])), (ap, .inl (cJ, 64, .inr (.inl fs)))]) [0, 1, 2, 3, 4] (by decide) rfl
    have hK9 := hK.sub (tys' := [(cJ, .long)]) [0] rfl
    exact W.vret hx hb hr (fun t9 ht hW => ⟨⟨⟨f'_4, fs⟩, rfl, (show (∀ x, bo f'_4 x = del (bo fm) k x) ∧ ∀ x, bo fs x = mrg (bo f'_4) (bo fs) (bk (bo fs) k) x from ⟨hA1, fun x => by rw [mrg, if_pos (by omega)]⟩), by rw [ht]; exact hP9, va_K.moved hW.alike hK9, hD9⟩, hS.F ht⟩) hS.2.2 dX1_take_35
  · have c_11 : ¬ 2 ≤ (heldc (bo f'_4) (bo fs) (sp (bo fs) (bk (bo fs) k))) := fun h9 => qc_11 ((nI_leI (a := 2) (b := heldc (bo f'_4) (bo fs) (sp (bo fs) (bk (bo fs) k))) (by omega) (by omega)).mpr h9)
    refine lv_aload_n hx hb dX1_take_27 rfl (lv_at hl 1 rfl) ?_
    have hPc := hP.sub (ws' := [(q, .inr (1, [.ref bm, .ref bs])), (bm, .inr (0, [.ref am])), (am, .inl (cJ, 64, .inr (.inl f'_4))), (bs, .inr (0, [.ref ap])), (ap, .inl (cJ, 64, .inr (.inl fs)))]) [0, 1, 2, 3, 4] rfl
    have hKc := hK.sub (tys' := [(cJ, .long)]) [0] rfl
    refine vp_callSi (W.runV (As := []) (rest := []) ⟨hx, hb, hml, hown, hts⟩ (c_X1_bucketCount l dC dI q bm am bs ap cJ f'_4 fs ) (cwV 0 hts gX1_take_X1_bucketCount rfl rfl rfl (by decide +kernel) ⟨Nat.le_of_ble_eq_true rfl, Nat.le_of_ble_eq_true rfl⟩) ⟨fun a U g mk q => by obtain ⟨q0, qP, qK⟩ := q; exact ⟨q0, qP, va_K.moved (u := U) (U := U.calling g mk a) (Vm.Alike.refl U.vm) qK⟩, va_recv hKc hPc (ci := 1) (q0 := 0) rfl rfl, fun U hU hW => ⟨rfl, by rw [hU]; exact hPc, va_K.moved hW.alike hKc⟩⟩ rfl rfl hl.1 rfl (lv_room (Nat.le_of_ble_eq_true rfl)) dX1_take_28 ⟨Nat.le_of_ble_eq_true rfl, Nat.le_of_ble_eq_true rfl⟩) (fun r_13 hw_12 => ?_)
    subst hw_12
    refine lv_iconst (v := nI 1) hx hb dX1_take_31 (by decide +kernel) ?_
    refine lv_icmp_ne (tgt := 36) hx hb dX1_take_32 (by decide) (fun qc_14 => ?_) (fun qc_14 => ?_)
    · have c_14 : ¬ (fb_ct (bo fs) 4096) = 1 := fun h9 => qc_14 ((nI_eq (a := fb_ct (bo fs) 4096) (b := 1) (by omega) (by omega)).mpr h9)
      refine lv_iload_n hx hb dX1_take_36 rfl (lv_at hl 0 rfl) ?_
      refine lv_aload_n hx hb dX1_take_37 rfl (lv_at hl 1 rfl) ?_
      have hPc := hP.sub (ws' := [(q, .inr (1, [.ref bm, .ref bs])), (bm, .inr (0, [.ref am])), (am, .inl (cJ, 64, .inr (.inl f'_4))), (bs, .inr (0, [.ref ap])), (ap, .inl (cJ, 64, .inr (.inl fs)))]) [0, 1, 2, 3, 4] rfl
      have hKc := hK.sub (tys' := [(cJ, .long)]) [0] rfl
      refine vp_callSi (W.runV (As := []) (rest := [.int (nI (bk (bo fs) k))]) ⟨hx, hb, hml, hown, hts⟩ (c_X1_bucketCount l dC dI q bm am bs ap cJ f'_4 fs ) (cwV 0 hts gX1_take_X1_bucketCount rfl rfl rfl (by decide +kernel) ⟨Nat.le_of_ble_eq_true rfl, Nat.le_of_ble_eq_true rfl⟩) ⟨fun a U g mk q => by obtain ⟨q0, qP, qK⟩ := q; exact ⟨q0, qP, va_K.moved (u := U) (U := U.calling g mk a) (Vm.Alike.refl U.vm) qK⟩, va_recv hKc hPc (ci := 1) (q0 := 0) rfl rfl, fun U hU hW => ⟨rfl, by rw [hU]; exact hPc, va_K.moved hW.alike hKc⟩⟩ rfl rfl hl.1 rfl (lv_room (Nat.le_of_ble_eq_true rfl)) dX1_take_38 ⟨Nat.le_of_ble_eq_true rfl, Nat.le_of_ble_eq_true rfl⟩) (fun r_16 hw_15 => ?_)
      subst hw_15
      refine lv_iconst (v := nI 1) hx hb dX1_take_41 (by decide +kernel) ?_
      refine lv_isub hx hb dX1_take_42 ?_
      refine lv_cvi (pk_sub (by omega)) ?_
      refine lv_icmp_ne (tgt := 50) hx hb dX1_take_43 (by decide) (fun qc_17 => ?_) (fun qc_17 => ?_)
      · have c_17 : ¬ (bk (bo fs) k) = ((fb_ct (bo fs) 4096) - 1) := fun h9 => qc_17 ((nI_eq (a := bk (bo fs) k) (b := (fb_ct (bo fs) 4096) - 1) (by omega) (by omega)).mpr h9)
        refine lv_iconst (v := nI 0) hx hb dX1_take_50 (by decide +kernel) ?_
        refine lv_istore_n (lv' := [(3, .int (nI 0)), (2, .int (nI (bk (bo fs) k))), (0, .ref q), (1, .int (nI k))]) hx hb dX1_take_51 rfl hl (by decide) rfl (fun ls hl => ?_)
        refine lv_iload_n hx hb dX1_take_52 rfl (lv_at hl 0 rfl) ?_
        refine lv_if_eq (tgt := 62) hx hb dX1_take_53 (by decide) (fun qc_18 => ?_) (fun qc_18 => ?_)
        · have c_18 : 0 = 0 := (nI_eq (a := 0) (b := 0) (by omega) (by omega)).mp qc_18
          refine lv_iload_n hx hb dX1_take_62 rfl (lv_at hl 1 rfl) ?_
          have hel : bk (bo fs) k = erl (bo fs) (bk (bo fs) k) := by unfold erl; first | (rw [if_pos (by omega)]; done) | (rw [if_neg (by omega)]; done)
          have her := erl_lt hb1 (by omega)
          obtain ⟨he1, he2, he3, he4⟩ := sp_lt her
          refine lv_cvi (congrArg nI hel) ?_
          clear hel
          have hel : erl (bo fs) (bk (bo fs) k) = erl (bo fs) (bk (bo fs) k) := rfl
          refine lv_istore (lv' := [(4, .int (nI (erl (bo fs) (bk (bo fs) k)))), (3, .int (nI 0)), (2, .int (nI (bk (bo fs) k))), (0, .ref q), (1, .int (nI k))]) hx hb dX1_take_63 hl (by decide) rfl (fun ls hl => ?_)
          refine lv_aload_n hx hb dX1_take_65 rfl (lv_at hl 3 rfl) ?_
          refine va_get (D := (dC, dI)) (ci := 1) (v := .ref bs) (C := RX1) (T := TX1) (N := 2) hx hb hts (by decide +kernel) hown hK hP 0 rfl rfl 1 (by decide) (hts (.fieldLink RX1 20 "SmallNumberSets$Buckets" "separators" "LSmallNumberSets$Bits;") (by decide +kernel)) (fun _ h9 => h9) rfl dX1_take_66 ?_
          refine lv_aload_n hx hb dX1_take_69 rfl (lv_at hl 3 rfl) ?_
          refine lv_iload hx hb dX1_take_70 (lv_at hl 0 rfl) ?_
          refine lv_iconst (v := nI 1) hx hb dX1_take_72 (by decide +kernel) ?_
          refine lv_iadd hx hb dX1_take_73 ?_
          refine lv_cvi (nI_add _ _) ?_
          have hPc := hP.sub (ws' := [(q, .inr (1, [.ref bm, .ref bs])), (bm, .inr (0, [.ref am])), (am, .inl (cJ, 64, .inr (.inl f'_4))), (bs, .inr (0, [.ref ap])), (ap, .inl (cJ, 64, .inr (.inl fs)))]) [0, 1, 2, 3, 4] rfl
          have hKc := hK.sub (tys' := [(cJ, .long)]) [0] rfl
          refine vp_callSi (W.runV (As := [.int (nI ((erl (bo fs) (bk (bo fs) k)) + 1))]) (rest := [.ref bs]) ⟨hx, hb, hml, hown, hts⟩ (c_X1_separatorAt l dC dI q bm am bs ap cJ f'_4 fs ((erl (bo fs) (bk (bo fs) k)) + 1) (by omega)) (cwV 1 hts gX1_take_X1_separatorAt rfl rfl rfl (by decide +kernel) ⟨Nat.le_of_ble_eq_true rfl, Nat.le_of_ble_eq_true rfl⟩) ⟨fun a U g mk q => by obtain ⟨q0, qP, qK⟩ := q; exact ⟨q0, qP, va_K.moved (u := U) (U := U.calling g mk a) (Vm.Alike.refl U.vm) qK⟩, va_recv hKc hPc (ci := 1) (q0 := 0) rfl rfl, fun U hU hW => ⟨rfl, by rw [hU]; exact hPc, va_K.moved hW.alike hKc⟩⟩ rfl rfl hl.1 rfl (lv_room (Nat.le_of_ble_eq_true rfl)) dX1_take_74 ⟨Nat.le_of_ble_eq_true rfl, Nat.le_of_ble_eq_true rfl⟩) (fun r_20 hw_19 => ?_)
          subst hw_19
          refine lv_cvi (congrArg oI he1) ?_
          refine lv_cvi (rfl) ?_
          have hPc := hP.sub (ws' := [(bs, .inr (0, [.ref ap])), (ap, .inl (cJ, 64, .inr (.inl fs)))]) [3, 4] rfl
          have hKc := hK.sub (tys' := [(cJ, .long)]) [0] rfl
          have hDc := hD.sub (ws' := [(bs, .inr (0, [.ref ap])), (ap, .inl (cJ, 64, .inr (.inl fs)))]) [3, 4] (by decide) rfl
          have hFc := va_free (wc := [(bs, .inr (0, [.ref ap])), (ap, .inl (cJ, 64, .inr (.inl fs)))]) hD hS hA [3, 4] rfl
          refine va_callv (va_runV (As := [.int (nI (sp (bo fs) (erl (bo fs) (bk (bo fs) k) + 1)))]) (rest := []) ⟨hx, hb, hml, hown, hts⟩ (c_X0_take l dC dI bs ap cJ 64 fs (sp (bo fs) (erl (bo fs) (bk (bo fs) k) + 1)) H.size (by omega) (by omega)) (cwV 1 hts gX1_take_X0_take rfl rfl rfl (by decide +kernel) ⟨Nat.le_of_ble_eq_true rfl, Nat.le_of_ble_eq_true rfl⟩) ⟨fun a U g mk q => by obtain ⟨q0, q1, qP, qK, qD⟩ := q; exact ⟨q0, q1, qP, va_K.moved (u := U) (U := U.calling g mk a) (Vm.Alike.refl U.vm) qK, qD⟩, va_recv hKc hPc (ci := 0) (q0 := 0) rfl rfl, fun U hU hW => ⟨rfl, by rw [hU], by rw [hU]; exact hPc, va_K.moved hW.alike hKc, hDc.weaken (fun _ _ _ _ => trivial)⟩⟩ rfl rfl hl.1 rfl (lv_room (Nat.le_of_ble_eq_true rfl)) dX1_take_77 ⟨Nat.le_of_ble_eq_true rfl, Nat.le_of_ble_eq_true rfl⟩) hS (fun q _ h => hFc q h) hFc (fun u_22 t9 H1 locs ht hvm hw_21 hB hz1 hk1 hS => ?_)
          obtain ⟨f'_24, rfl⟩ : ∃ z, z = u_22 := ⟨_, rfl⟩
          obtain ⟨hP1, hK1, hD1⟩ := hB
          rw [ht] at hP1
          have hK1 := va_K.moved hvm.symm hK1
          try dsimp only at hw_21 hP1 hK1 hD1
          obtain ⟨hP, hD⟩ := va_join (wr := [(q, .inr (1, [.ref bm, .ref bs])), (bm, .inr (0, [.ref am])), (am, .inl (cJ, 64, .inr (.inl f'_4)))]) (w1 := [(bs, .inr (0, [.ref ap])), (ap, .inl (cJ, 64, .inr (.inl f'_24)))]) hP hD [3, 4] [0, 1, 2] rfl rfl (by decide) (by decide) hk1 hFc hP1 hD1
          generalize H1 = H at hP hS ⊢
          have hP : va_P (dC, dI) vwCl [(q, .inr (1, [.ref bm, .ref bs])), (bm, .inr (0, [.ref am])), (am, .inl (cJ, 64, .inr (.inl f'_4))), (bs, .inr (0, [.ref ap])), (ap, .inl (cJ, 64, .inr (.inl f'_24)))] H := hP
          have hD : va_D A [(q, .inr (1, [.ref bm, .ref bs])), (bm, .inr (0, [.ref am])), (am, .inl (cJ, 64, .inr (.inl f'_4))), (bs, .inr (0, [.ref ap])), (ap, .inl (cJ, 64, .inr (.inl f'_24)))] := hD
          have hdl : bo f'_24 = del (bo fs) (sp (bo fs) (erl (bo fs) (bk (bo fs) k) + 1)) := funext hw_21
          have hct := ct_del_lt her
          rw [← hdl] at hct
          obtain ⟨hf1, hf2, hf3, hf4⟩ := sp_lt hct
          have hb4 := fb_ct_le (bo f'_24) 4096
          refine lv_aload_n hx hb dX1_take_80 rfl (lv_at hl 3 rfl) ?_
          refine lv_aload_n hx hb dX1_take_81 rfl (lv_at hl 3 rfl) ?_
          refine lv_iload hx hb dX1_take_82 (lv_at hl 0 rfl) ?_
          have hPc := hP.sub (ws' := [(q, .inr (1, [.ref bm, .ref bs])), (bm, .inr (0, [.ref am])), (am, .inl (cJ, 64, .inr (.inl f'_4))), (bs, .inr (0, [.ref ap])), (ap, .inl (cJ, 64, .inr (.inl f'_24)))]) [0, 1, 2, 3, 4] rfl
          have hKc := hK.sub (tys' := [(cJ, .long)]) [0] rfl
          refine vp_callSi (W.runV (As := [.int (nI (erl (bo fs) (bk (bo fs) k)))]) (rest := [.ref q]) ⟨hx, hb, hml, hown, hts⟩ (c_X1_separatorAt l dC dI q bm am bs ap cJ f'_4 f'_24 (erl (bo fs) (bk (bo fs) k)) (by omega)) (cwV 1 hts gX1_take_X1_separatorAt rfl rfl rfl (by decide +kernel) ⟨Nat.le_of_ble_eq_true rfl, Nat.le_of_ble_eq_true rfl⟩) ⟨fun a U g mk q => by obtain ⟨q0, qP, qK⟩ := q; exact ⟨q0, qP, va_K.moved (u := U) (U := U.calling g mk a) (Vm.Alike.refl U.vm) qK⟩, va_recv hKc hPc (ci := 1) (q0 := 0) rfl rfl, fun U hU hW => ⟨rfl, by rw [hU]; exact hPc, va_K.moved hW.alike hKc⟩⟩ rfl rfl hl.1 rfl (lv_room (Nat.le_of_ble_eq_true rfl)) dX1_take_84 ⟨Nat.le_of_ble_eq_true rfl, Nat.le_of_ble_eq_true rfl⟩) (fun r_26 hw_25 => ?_)
          subst hw_25
          refine lv_cvi (congrArg oI hf1) ?_
          refine lv_cvi (rfl) ?_
          have hPc := hP.sub (ws' := [(q, .inr (1, [.ref bm, .ref bs])), (bm, .inr (0, [.ref am])), (am, .inl (cJ, 64, .inr (.inl f'_4))), (bs, .inr (0, [.ref ap])), (ap, .inl (cJ, 64, .inr (.inl f'_24)))]) [0, 1, 2, 3, 4] rfl
          have hKc := hK.sub (tys' := [(cJ, .long)]) [0] rfl
          have hDc := hD.sub (ws' := [(q, .inr (1, [.ref bm, .ref bs])), (bm, .inr (0, [.ref am])), (am, .inl (cJ, 64, .inr (.inl f'_4))), (bs, .inr (0, [.ref ap])), (ap, .inl (cJ, 64, .inr (.inl f'_24)))]) [0, 1, 2, 3, 4] (by decide) rfl
          have hFc := va_free (wc := [(q, .inr (1, [.ref bm, .ref bs])), (bm, .inr (0, [.ref am])), (am, .inl (cJ, 64, .inr (.inl f'_4))), (bs, .inr (0, [.ref ap])), (ap, .inl (cJ, 64, .inr (.inl f'_24)))]) hD hS hA [0, 1, 2, 3, 4] rfl
          refine va_callv (va_runV (As := [.int (nI (sp (bo f'_24) (erl (bo fs) (bk (bo fs) k))))]) (rest := []) ⟨hx, hb, hml, hown, hts⟩ (c_X1_splitIfLarge l dC dI q bm am bs ap cJ f'_4 f'_24 (sp (bo f'_24) (erl (bo fs) (bk (bo fs) k))) H.size (by omega)) (cwV 1 hts gX1_take_X1_splitIfLarge rfl rfl rfl (by decide +kernel) ⟨Nat.le_of_ble_eq_true rfl, Nat.le_of_ble_eq_true rfl⟩) ⟨fun a U g mk q => by obtain ⟨q0, q1, qP, qK, qD⟩ := q; exact ⟨q0, q1, qP, va_K.moved (u := U) (U := U.calling g mk a) (Vm.Alike.refl U.vm) qK, qD⟩, va_recv hKc hPc (ci := 1) (q0 := 0) rfl rfl, fun U hU hW => ⟨rfl, by rw [hU], by rw [hU]; exact hPc, va_K.moved hW.alike hKc, hDc.weaken (fun _ _ _ _ => trivial)⟩⟩ rfl rfl hl.1 rfl (lv_room (Nat.le_of_ble_eq_true rfl)) dX1_take_87 ⟨Nat.le_of_ble_eq_true rfl, Nat.le_of_ble_eq_true rfl⟩) hS (fun q _ h => hFc q h) hFc (fun u_28 t9 H1 locs ht hvm hw_27 hB hz1 hk1 hS => ?_)
          obtain ⟨fs'_30, rfl⟩ : ∃ z, z = u_28 := ⟨_, rfl⟩
          obtain ⟨hP1, hK1, hD1⟩ := hB
          rw [ht] at hP1
          have hK1 := va_K.moved hvm.symm hK1
          try dsimp only at hw_27 hP1 hK1 hD1
          obtain ⟨hP, hD⟩ := va_join (wr := []) (w1 := [(q, .inr (1, [.ref bm, .ref bs])), (bm, .inr (0, [.ref am])), (am, .inl (cJ, 64, .inr (.inl f'_4))), (bs, .inr (0, [.ref ap])), (ap, .inl (cJ, 64, .inr (.inl fs'_30)))]) hP hD [0, 1, 2, 3, 4] [] rfl rfl (by decide) (by decide) hk1 hFc hP1 hD1
          generalize H1 = H at hP hS ⊢
          have hP : va_P (dC, dI) vwCl [(q, .inr (1, [.ref bm, .ref bs])), (bm, .inr (0, [.ref am])), (am, .inl (cJ, 64, .inr (.inl f'_4))), (bs, .inr (0, [.ref ap])), (ap, .inl (cJ, 64, .inr (.inl fs'_30)))] H := hP
          have hD : va_D A [(q, .inr (1, [.ref bm, .ref bs])), (bm, .inr (0, [.ref am])), (am, .inl (cJ, 64, .inr (.inl f'_4))), (bs, .inr (0, [.ref ap])), (ap, .inl (cJ, 64, .inr (.inl fs'_30)))] := hD
          have hP9 := hP.sub (ws' := [(q, .inr (1, [.ref bm, .ref bs])), (bm, .inr (0, [.ref am])), (am, .inl (cJ, 64, .inr (.inl f'_4))), (bs, .inr (0, [.ref ap])), (ap, .inl (cJ, 64, .inr (.inl fs'_30)))]) [0, 1, 2, 3, 4] rfl
          have hD9 := hD.sub (ws' := [(q, .inr (1, [.ref bm, .ref bs])), (bm, .inr (0, [.ref am])), (am, .inl (cJ, 64, .inr (.inl f'_4))), (bs, .inr (0, [.ref ap])), (ap, .inl (cJ, 64, .inr (.inl fs'_30)))]) [0, 1, 2, 3, 4] (by decide) rfl
          have hK9 := hK.sub (tys' := [(cJ, .long)]) [0] rfl
          exact W.vret hx hb hr (fun t9 ht hW => ⟨⟨⟨f'_4, fs'_30⟩, rfl, (show (∀ x, bo f'_4 x = del (bo fm) k x) ∧ ∀ x, bo fs'_30 x = mrg (bo f'_4) (bo fs) (bk (bo fs) k) x from ⟨hA1, fun x => (hw_27 x).trans (by rw [mrg, if_neg (by omega), ← hel, ← hdl])⟩), by rw [ht]; exact hP9, va_K.moved hW.alike hK9, hD9⟩, hS.F ht⟩) hS.2.2 dX1_take_90
        · have c_18 : ¬ 0 = 0 := fun h9 => qc_18 ((nI_eq (a := 0) (b := 0) (by omega) (by omega)).mpr h9)
          exact absurd c_18 (by decide)
      · have c_17 : (bk (bo fs) k) = ((fb_ct (bo fs) 4096) - 1) := (nI_eq (a := bk (bo fs) k) (b := (fb_ct (bo fs) 4096) - 1) (by omega) (by omega)).mp qc_17
        refine lv_iconst (v := nI 1) hx hb dX1_take_46 (by decide +kernel) ?_
        refine lv_goto (tgt := 51) hx hb dX1_take_47 (by decide) ?_
        refine lv_istore_n (lv' := [(3, .int (nI 1)), (2, .int (nI (bk (bo fs) k))), (0, .ref q), (1, .int (nI k))]) hx hb dX1_take_51 rfl hl (by decide) rfl (fun ls hl => ?_)
        refine lv_iload_n hx hb dX1_take_52 rfl (lv_at hl 0 rfl) ?_
        refine lv_if_eq (tgt := 62) hx hb dX1_take_53 (by decide) (fun qc_31 => ?_) (fun qc_31 => ?_)
        · have c_31 : 1 = 0 := (nI_eq (a := 1) (b := 0) (by omega) (by omega)).mp qc_31
          exact absurd c_31 (by decide)
        · have c_31 : ¬ 1 = 0 := fun h9 => qc_31 ((nI_eq (a := 1) (b := 0) (by omega) (by omega)).mpr h9)
          refine lv_iload_n hx hb dX1_take_56 rfl (lv_at hl 1 rfl) ?_
          refine lv_iconst (v := nI 1) hx hb dX1_take_57 (by decide +kernel) ?_
          refine lv_isub hx hb dX1_take_58 ?_
          refine lv_cvi (pk_sub (by omega)) ?_
          refine lv_goto (tgt := 63) hx hb dX1_take_59 (by decide) ?_
          have hel : (bk (bo fs) k) - 1 = erl (bo fs) (bk (bo fs) k) := by unfold erl; first | (rw [if_pos (by omega)]; done) | (rw [if_neg (by omega)]; done)
          have her := erl_lt hb1 (by omega)
          obtain ⟨he1, he2, he3, he4⟩ := sp_lt her
          refine lv_cvi (congrArg nI hel) ?_
          clear hel
          have hel : erl (bo fs) (bk (bo fs) k) = erl (bo fs) (bk (bo fs) k) := rfl
          refine lv_istore (lv' := [(4, .int (nI (erl (bo fs) (bk (bo fs) k)))), (3, .int (nI 1)), (2, .int (nI (bk (bo fs) k))), (0, .ref q), (1, .int (nI k))]) hx hb dX1_take_63 hl (by decide) rfl (fun ls hl => ?_)
          refine lv_aload_n hx hb dX1_take_65 rfl (lv_at hl 3 rfl) ?_
          refine va_get (D := (dC, dI)) (ci := 1) (v := .ref bs) (C := RX1) (T := TX1) (N := 2) hx hb hts (by decide +kernel) hown hK hP 0 rfl rfl 1 (by decide) (hts (.fieldLink RX1 20 "SmallNumberSets$Buckets" "separators" "LSmallNumberSets$Bits;") (by decide +kernel)) (fun _ h9 => h9) rfl dX1_take_66 ?_
          refine lv_aload_n hx hb dX1_take_69 rfl (lv_at hl 3 rfl) ?_
          refine lv_iload hx hb dX1_take_70 (lv_at hl 0 rfl) ?_
          refine lv_iconst (v := nI 1) hx hb dX1_take_72 (by decide +kernel) ?_
          refine lv_iadd hx hb dX1_take_73 ?_
          refine lv_cvi (nI_add _ _) ?_
          have hPc := hP.sub (ws' := [(q, .inr (1, [.ref bm, .ref bs])), (bm, .inr (0, [.ref am])), (am, .inl (cJ, 64, .inr (.inl f'_4))), (bs, .inr (0, [.ref ap])), (ap, .inl (cJ, 64, .inr (.inl fs)))]) [0, 1, 2, 3, 4] rfl
          have hKc := hK.sub (tys' := [(cJ, .long)]) [0] rfl
          refine vp_callSi (W.runV (As := [.int (nI ((erl (bo fs) (bk (bo fs) k)) + 1))]) (rest := [.ref bs]) ⟨hx, hb, hml, hown, hts⟩ (c_X1_separatorAt l dC dI q bm am bs ap cJ f'_4 fs ((erl (bo fs) (bk (bo fs) k)) + 1) (by omega)) (cwV 1 hts gX1_take_X1_separatorAt rfl rfl rfl (by decide +kernel) ⟨Nat.le_of_ble_eq_true rfl, Nat.le_of_ble_eq_true rfl⟩) ⟨fun a U g mk q => by obtain ⟨q0, qP, qK⟩ := q; exact ⟨q0, qP, va_K.moved (u := U) (U := U.calling g mk a) (Vm.Alike.refl U.vm) qK⟩, va_recv hKc hPc (ci := 1) (q0 := 0) rfl rfl, fun U hU hW => ⟨rfl, by rw [hU]; exact hPc, va_K.moved hW.alike hKc⟩⟩ rfl rfl hl.1 rfl (lv_room (Nat.le_of_ble_eq_true rfl)) dX1_take_74 ⟨Nat.le_of_ble_eq_true rfl, Nat.le_of_ble_eq_true rfl⟩) (fun r_33 hw_32 => ?_)
          subst hw_32
          refine lv_cvi (congrArg oI he1) ?_
          refine lv_cvi (rfl) ?_
          have hPc := hP.sub (ws' := [(bs, .inr (0, [.ref ap])), (ap, .inl (cJ, 64, .inr (.inl fs)))]) [3, 4] rfl
          have hKc := hK.sub (tys' := [(cJ, .long)]) [0] rfl
          have hDc := hD.sub (ws' := [(bs, .inr (0, [.ref ap])), (ap, .inl (cJ, 64, .inr (.inl fs)))]) [3, 4] (by decide) rfl
          have hFc := va_free (wc := [(bs, .inr (0, [.ref ap])), (ap, .inl (cJ, 64, .inr (.inl fs)))]) hD hS hA [3, 4] rfl
          refine va_callv (va_runV (As := [.int (nI (sp (bo fs) (erl (bo fs) (bk (bo fs) k) + 1)))]) (rest := []) ⟨hx, hb, hml, hown, hts⟩ (c_X0_take l dC dI bs ap cJ 64 fs (sp (bo fs) (erl (bo fs) (bk (bo fs) k) + 1)) H.size (by omega) (by omega)) (cwV 1 hts gX1_take_X0_take rfl rfl rfl (by decide +kernel) ⟨Nat.le_of_ble_eq_true rfl, Nat.le_of_ble_eq_true rfl⟩) ⟨fun a U g mk q => by obtain ⟨q0, q1, qP, qK, qD⟩ := q; exact ⟨q0, q1, qP, va_K.moved (u := U) (U := U.calling g mk a) (Vm.Alike.refl U.vm) qK, qD⟩, va_recv hKc hPc (ci := 0) (q0 := 0) rfl rfl, fun U hU hW => ⟨rfl, by rw [hU], by rw [hU]; exact hPc, va_K.moved hW.alike hKc, hDc.weaken (fun _ _ _ _ => trivial)⟩⟩ rfl rfl hl.1 rfl (lv_room (Nat.le_of_ble_eq_true rfl)) dX1_take_77 ⟨Nat.le_of_ble_eq_true rfl, Nat.le_of_ble_eq_true rfl⟩) hS (fun q _ h => hFc q h) hFc (fun u_35 t9 H1 locs ht hvm hw_34 hB hz1 hk1 hS => ?_)
          obtain ⟨f'_37, rfl⟩ : ∃ z, z = u_35 := ⟨_, rfl⟩
          obtain ⟨hP1, hK1, hD1⟩ := hB
          rw [ht] at hP1
          have hK1 := va_K.moved hvm.symm hK1
          try dsimp only at hw_34 hP1 hK1 hD1
          obtain ⟨hP, hD⟩ := va_join (wr := [(q, .inr (1, [.ref bm, .ref bs])), (bm, .inr (0, [.ref am])), (am, .inl (cJ, 64, .inr (.inl f'_4)))]) (w1 := [(bs, .inr (0, [.ref ap])), (ap, .inl (cJ, 64, .inr (.inl f'_37)))]) hP hD [3, 4] [0, 1, 2] rfl rfl (by decide) (by decide) hk1 hFc hP1 hD1
          generalize H1 = H at hP hS ⊢
          have hP : va_P (dC, dI) vwCl [(q, .inr (1, [.ref bm, .ref bs])), (bm, .inr (0, [.ref am])), (am, .inl (cJ, 64, .inr (.inl f'_4))), (bs, .inr (0, [.ref ap])), (ap, .inl (cJ, 64, .inr (.inl f'_37)))] H := hP
          have hD : va_D A [(q, .inr (1, [.ref bm, .ref bs])), (bm, .inr (0, [.ref am])), (am, .inl (cJ, 64, .inr (.inl f'_4))), (bs, .inr (0, [.ref ap])), (ap, .inl (cJ, 64, .inr (.inl f'_37)))] := hD
          have hdl : bo f'_37 = del (bo fs) (sp (bo fs) (erl (bo fs) (bk (bo fs) k) + 1)) := funext hw_34
          have hct := ct_del_lt her
          rw [← hdl] at hct
          obtain ⟨hf1, hf2, hf3, hf4⟩ := sp_lt hct
          have hb4 := fb_ct_le (bo f'_37) 4096
          refine lv_aload_n hx hb dX1_take_80 rfl (lv_at hl 3 rfl) ?_
          refine lv_aload_n hx hb dX1_take_81 rfl (lv_at hl 3 rfl) ?_
          refine lv_iload hx hb dX1_take_82 (lv_at hl 0 rfl) ?_
          have hPc := hP.sub (ws' := [(q, .inr (1, [.ref bm, .ref bs])), (bm, .inr (0, [.ref am])), (am, .inl (cJ, 64, .inr (.inl f'_4))), (bs, .inr (0, [.ref ap])), (ap, .inl (cJ, 64, .inr (.inl f'_37)))]) [0, 1, 2, 3, 4] rfl
          have hKc := hK.sub (tys' := [(cJ, .long)]) [0] rfl
          refine vp_callSi (W.runV (As := [.int (nI (erl (bo fs) (bk (bo fs) k)))]) (rest := [.ref q]) ⟨hx, hb, hml, hown, hts⟩ (c_X1_separatorAt l dC dI q bm am bs ap cJ f'_4 f'_37 (erl (bo fs) (bk (bo fs) k)) (by omega)) (cwV 1 hts gX1_take_X1_separatorAt rfl rfl rfl (by decide +kernel) ⟨Nat.le_of_ble_eq_true rfl, Nat.le_of_ble_eq_true rfl⟩) ⟨fun a U g mk q => by obtain ⟨q0, qP, qK⟩ := q; exact ⟨q0, qP, va_K.moved (u := U) (U := U.calling g mk a) (Vm.Alike.refl U.vm) qK⟩, va_recv hKc hPc (ci := 1) (q0 := 0) rfl rfl, fun U hU hW => ⟨rfl, by rw [hU]; exact hPc, va_K.moved hW.alike hKc⟩⟩ rfl rfl hl.1 rfl (lv_room (Nat.le_of_ble_eq_true rfl)) dX1_take_84 ⟨Nat.le_of_ble_eq_true rfl, Nat.le_of_ble_eq_true rfl⟩) (fun r_39 hw_38 => ?_)
          subst hw_38
          refine lv_cvi (congrArg oI hf1) ?_
          refine lv_cvi (rfl) ?_
          have hPc := hP.sub (ws' := [(q, .inr (1, [.ref bm, .ref bs])), (bm, .inr (0, [.ref am])), (am, .inl (cJ, 64, .inr (.inl f'_4))), (bs, .inr (0, [.ref ap])), (ap, .inl (cJ, 64, .inr (.inl f'_37)))]) [0, 1, 2, 3, 4] rfl
          have hKc := hK.sub (tys' := [(cJ, .long)]) [0] rfl
          have hDc := hD.sub (ws' := [(q, .inr (1, [.ref bm, .ref bs])), (bm, .inr (0, [.ref am])), (am, .inl (cJ, 64, .inr (.inl f'_4))), (bs, .inr (0, [.ref ap])), (ap, .inl (cJ, 64, .inr (.inl f'_37)))]) [0, 1, 2, 3, 4] (by decide) rfl
          have hFc := va_free (wc := [(q, .inr (1, [.ref bm, .ref bs])), (bm, .inr (0, [.ref am])), (am, .inl (cJ, 64, .inr (.inl f'_4))), (bs, .inr (0, [.ref ap])), (ap, .inl (cJ, 64, .inr (.inl f'_37)))]) hD hS hA [0, 1, 2, 3, 4] rfl
          refine va_callv (va_runV (As := [.int (nI (sp (bo f'_37) (erl (bo fs) (bk (bo fs) k))))]) (rest := []) ⟨hx, hb, hml, hown, hts⟩ (c_X1_splitIfLarge l dC dI q bm am bs ap cJ f'_4 f'_37 (sp (bo f'_37) (erl (bo fs) (bk (bo fs) k))) H.size (by omega)) (cwV 1 hts gX1_take_X1_splitIfLarge rfl rfl rfl (by decide +kernel) ⟨Nat.le_of_ble_eq_true rfl, Nat.le_of_ble_eq_true rfl⟩) ⟨fun a U g mk q => by obtain ⟨q0, q1, qP, qK, qD⟩ := q; exact ⟨q0, q1, qP, va_K.moved (u := U) (U := U.calling g mk a) (Vm.Alike.refl U.vm) qK, qD⟩, va_recv hKc hPc (ci := 1) (q0 := 0) rfl rfl, fun U hU hW => ⟨rfl, by rw [hU], by rw [hU]; exact hPc, va_K.moved hW.alike hKc, hDc.weaken (fun _ _ _ _ => trivial)⟩⟩ rfl rfl hl.1 rfl (lv_room (Nat.le_of_ble_eq_true rfl)) dX1_take_87 ⟨Nat.le_of_ble_eq_true rfl, Nat.le_of_ble_eq_true rfl⟩) hS (fun q _ h => hFc q h) hFc (fun u_41 t9 H1 locs ht hvm hw_40 hB hz1 hk1 hS => ?_)
          obtain ⟨fs'_43, rfl⟩ : ∃ z, z = u_41 := ⟨_, rfl⟩
          obtain ⟨hP1, hK1, hD1⟩ := hB
          rw [ht] at hP1
          have hK1 := va_K.moved hvm.symm hK1
          try dsimp only at hw_40 hP1 hK1 hD1
          obtain ⟨hP, hD⟩ := va_join (wr := []) (w1 := [(q, .inr (1, [.ref bm, .ref bs])), (bm, .inr (0, [.ref am])), (am, .inl (cJ, 64, .inr (.inl f'_4))), (bs, .inr (0, [.ref ap])), (ap, .inl (cJ, 64, .inr (.inl fs'_43)))]) hP hD [0, 1, 2, 3, 4] [] rfl rfl (by decide) (by decide) hk1 hFc hP1 hD1
          generalize H1 = H at hP hS ⊢
          have hP : va_P (dC, dI) vwCl [(q, .inr (1, [.ref bm, .ref bs])), (bm, .inr (0, [.ref am])), (am, .inl (cJ, 64, .inr (.inl f'_4))), (bs, .inr (0, [.ref ap])), (ap, .inl (cJ, 64, .inr (.inl fs'_43)))] H := hP
          have hD : va_D A [(q, .inr (1, [.ref bm, .ref bs])), (bm, .inr (0, [.ref am])), (am, .inl (cJ, 64, .inr (.inl f'_4))), (bs, .inr (0, [.ref ap])), (ap, .inl (cJ, 64, .inr (.inl fs'_43)))] := hD
          have hP9 := hP.sub (ws' := [(q, .inr (1, [.ref bm, .ref bs])), (bm, .inr (0, [.ref am])), (am, .inl (cJ, 64, .inr (.inl f'_4))), (bs, .inr (0, [.ref ap])), (ap, .inl (cJ, 64, .inr (.inl fs'_43)))]) [0, 1, 2, 3, 4] rfl
          have hD9 := hD.sub (ws' := [(q, .inr (1, [.ref bm, .ref bs])), (bm, .inr (0, [.ref am])), (am, .inl (cJ, 64, .inr (.inl f'_4))), (bs, .inr (0, [.ref ap])), (ap, .inl (cJ, 64, .inr (.inl fs'_43)))]) [0, 1, 2, 3, 4] (by decide) rfl
          have hK9 := hK.sub (tys' := [(cJ, .long)]) [0] rfl
          exact W.vret hx hb hr (fun t9 ht hW => ⟨⟨⟨f'_4, fs'_43⟩, rfl, (show (∀ x, bo f'_4 x = del (bo fm) k x) ∧ ∀ x, bo fs'_43 x = mrg (bo f'_4) (bo fs) (bk (bo fs) k) x from ⟨hA1, fun x => (hw_40 x).trans (by rw [mrg, if_neg (by omega), ← hel, ← hdl])⟩), by rw [ht]; exact hP9, va_K.moved hW.alike hK9, hD9⟩, hS.F ht⟩) hS.2.2 dX1_take_90
    · have c_14 : (fb_ct (bo fs) 4096) = 1 := (nI_eq (a := fb_ct (bo fs) 4096) (b := 1) (by omega) (by omega)).mp qc_14
      have hP9 := hP.sub (ws' := [(q, .inr (1, [.ref bm, .ref bs])), (bm, .inr (0, [.ref am])), (am, .inl (cJ, 64, .inr (.inl f'_4))), (bs, .inr (0, [.ref ap])), (ap, .inl (cJ, 64, .inr (.inl fs)))]) [0, 1, 2, 3, 4] rfl
      have hD9 := hD.sub (ws' := [(q, .inr (1, [.ref bm, .ref bs])), (bm, .inr (0, [.ref am])), (am, .inl (cJ, 64, .inr (.inl f'_4))), (bs, .inr (0, [.ref ap])), (ap, .inl (cJ, 64, .inr (.inl fs)))]) [0, 1, 2, 3, 4] (by decide) rfl
      have hK9 := hK.sub (tys' := [(cJ, .long)]) [0] rfl
      exact W.vret hx hb hr (fun t9 ht hW => ⟨⟨⟨f'_4, fs⟩, rfl, (show (∀ x, bo f'_4 x = del (bo fm) k x) ∧ ∀ x, bo fs x = mrg (bo f'_4) (bo fs) (bk (bo fs) k) x from ⟨hA1, fun x => by rw [mrg, if_pos (by omega)]⟩), by rw [ht]; exact hP9, va_K.moved hW.alike hK9, hD9⟩, hS.F ht⟩) hS.2.2 dX1_take_35
