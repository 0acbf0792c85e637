set_option maxHeartbeats 4000000 in
set_option maxRecDepth 100000 in
/-- reference: thrown -/
theorem c_X8_thrown (l : Launch) (dC : Nat → ClassId) (dI : Nat → Nat → Nat) (q : Nat) (mq : Nat) (zq : Nat) (sq : Nat) (bq : Nat) (cq : Nat) (pq : Nat) (cZ : ClassId) (cI : ClassId) (cJ : ClassId) (fM : Nat → Int32) (fS : Nat → Int32) (fP : Nat → Int32) (fB : Nat → Int32) (fC : Nat → Int64) (sm : Int64) (fT : Nat → Int32) (ps : Int32) (th : Int32) : Met l yX8_thrown wsX8_thrown ({ frames := 0, cells := 0, slots := 0, locals := 0 }) (va_Pc [.ref q] (fun U => va_P (dC, dI) vwCl [(q, .inr (7, [.ref mq, .ref zq, .ref sq, .ref bq, .ref cq, .long sm, .ref pq, .int ps, .int th])), (mq, .inl (cZ, 12288, .inl fM)), (zq, .inl (cI, 3, .inl fS)), (sq, .inl (cI, 6156, .inl fP)), (bq, .inl (cI, 3, .inl fB)), (cq, .inl (cJ, 64, .inr (.inl fC))), (pq, .inl (cI, 8, .inl fT))] U.heap ∧ va_K (dC, dI) vwCl [(cZ, .boolean), (cI, .int), (cJ, .long)] U)) (vp_Si (fun r => r = th)) 0 0 (fun _ => False) := by
  refine Met.ofW (cc := cX8_thrown) (maxL := 1) (ret := (some .int)) (by decide) rfl ?_
  intro p e s m args below meth c s₁ B hml hv
  obtain ⟨rfl, hP, hK⟩ := hv
  have hx := B.exec
  have hb := B.bytes
  have hr := B.returns
  have hts := atoms_spec (ws := wsX8_thrown) B.pre
  have hown : s.vm.findClass RX8 = some m.cls := findClass_of_methodNamed B.named
  have hlocks := B.notSynchronized
  have hP : va_P (dC, dI) vwCl [(q, .inr (7, [.ref mq, .ref zq, .ref sq, .ref bq, .ref cq, .long sm, .ref pq, .int ps, .int th])), (mq, .inl (cZ, 12288, .inl fM)), (zq, .inl (cI, 3, .inl fS)), (sq, .inl (cI, 6156, .inl fP)), (bq, .inl (cI, 3, .inl fB)), (cq, .inl (cJ, 64, .inr (.inl fC))), (pq, .inl (cI, 8, .inl fT))] s.heap := hP
  have hl := lv_entry ([.ref q]) (n := 1) (Nat.le_of_ble_eq_true rfl)
  rw [lg_entry_eq]
  generalize (lg_sl ([.ref q]) ++ List.replicate (1 - (lg_sl ([.ref q])).length) Slot.unset).toArray = ls at hl ⊢
  have hl : lv_has ls 1 [(0, .ref q)] := hl
  refine lv_aload_n hx hb dX8_thrown_0 rfl (lv_at hl 0 rfl) ?_
  refine va_get (D := (dC, dI)) (ci := 7) (v := .int th) (C := RX8) (T := TX8) (N := 9) hx hb hts (by decide +kernel) hown hK hP 0 rfl rfl 8 (by decide) (hts (.fieldLink RX8 30 "SmallNumberSetsModel" "thrown" "I") (by decide +kernel)) (fun _ h9 => h9) rfl dX8_thrown_1 ?_
  exact W.iret (v := th) hx hb hr (fun t9 ht hW => ⟨th, rfl, rfl, ht⟩) (fun q h => by cases h) dX8_thrown_4
set_option maxHeartbeats 4000000 in
set_option maxRecDepth 100000 in
/-- reference: in -/
theorem c_X8_in (l : Launch) (dC : Nat → ClassId) (dI : Nat → Nat → Nat) (v : Int32) (l0 : Int32) (h0 : Int32) : Met l yX8_in wsX8_in ({ frames := 0, cells := 0, slots := 0, locals := 0 }) (va_Pc [.int v, .int l0, .int h0] (fun U => va_P (dC, dI) vwCl [] U.heap ∧ va_K (dC, dI) vwCl [] U)) (vp_Si (fun r => r = b2i (decide (l0 ≤ v ∧ v ≤ h0)))) 0 0 (fun _ => False) := by
  refine Met.ofW (cc := cX8_in) (maxL := 3) (ret := (some .boolean)) (by decide) rfl ?_
  intro p e s m args below meth c s₁ B hml hv
  obtain ⟨rfl, hP, hK⟩ := hv
  have hx := B.exec
  have hb := B.bytes
  have hr := B.returns
  have hts := atoms_spec (ws := wsX8_in) B.pre
  have hown : s.vm.findClass RX8 = some m.cls := findClass_of_methodNamed B.named
  have hlocks := B.notSynchronized
  have hP : va_P (dC, dI) vwCl [] s.heap := hP
  have hl := lv_entry ([.int v, .int l0, .int h0]) (n := 3) (Nat.le_of_ble_eq_true rfl)
  rw [lg_entry_eq]
  generalize (lg_sl ([.int v, .int l0, .int h0]) ++ List.replicate (3 - (lg_sl ([.int v, .int l0, .int h0])).length) Slot.unset).toArray = ls at hl ⊢
  have hl : lv_has ls 3 [(0, .int v), (1, .int l0), (2, .int h0)] := hl
  refine lv_iload_n hx hb dX8_in_0 rfl (lv_at hl 0 rfl) ?_
  refine lv_iload_n hx hb dX8_in_1 rfl (lv_at hl 1 rfl) ?_
  refine lv_icmp_lt (tgt := 14) hx hb dX8_in_2 (by decide) (fun qc_1 => ?_) (fun qc_1 => ?_)
  · refine lv_iconst (v := nI 0) hx hb dX8_in_14 (by decide +kernel) ?_
    exact W.zret (v := nI 0) hx hb hr (by first | exact narrow_b1 | exact narrow_b0) (fun t9 ht hW => ⟨nI 0, rfl, by rw [decide_eq_false fun h9 => (fa_of_lt qc_1).2.1 h9.1]; rfl, ht⟩) (fun q h => by cases h) dX8_in_15
  · refine lv_iload_n hx hb dX8_in_5 rfl (lv_at hl 0 rfl) ?_
    refine lv_iload_n hx hb dX8_in_6 rfl (lv_at hl 2 rfl) ?_
    refine lv_icmp_gt (tgt := 14) hx hb dX8_in_7 (by decide) (fun qc_2 => ?_) (fun qc_2 => ?_)
    · refine lv_iconst (v := nI 0) hx hb dX8_in_14 (by decide +kernel) ?_
      exact W.zret (v := nI 0) hx hb hr (by first | exact narrow_b1 | exact narrow_b0) (fun t9 ht hW => ⟨nI 0, rfl, by rw [decide_eq_false fun h9 => (fa_of_lt qc_2).2.1 h9.2]; rfl, ht⟩) (fun q h => by cases h) dX8_in_15
    · refine lv_iconst (v := nI 1) hx hb dX8_in_10 (by decide +kernel) ?_
      refine lv_goto (tgt := 15) hx hb dX8_in_11 (by decide) ?_
      exact W.zret (v := nI 1) hx hb hr (by first | exact narrow_b1 | exact narrow_b0) (fun t9 ht hW => ⟨nI 1, rfl, by rw [decide_eq_true ⟨fa_of_nlt qc_1, fa_of_nlt qc_2⟩]; rfl, ht⟩) (fun q h => by cases h) dX8_in_15
set_option maxHeartbeats 4000000 in
set_option maxRecDepth 100000 in
/-- reference: isSet -/
theorem c_X8_isSet (l : Launch) (dC : Nat → ClassId) (dI : Nat → Nat → Nat) (v : Int32) : Met l yX8_isSet wsX8_isSet ({ frames := 1, cells := 0, slots := 0, locals := 22 }) (va_Pc [.int v] (fun U => va_P (dC, dI) vwCl [] U.heap ∧ va_K (dC, dI) vwCl [] U)) (vp_Si (fun r => r = b2i (isS v))) 0 0 (fun _ => False) := by
  refine Met.ofW (cc := cX8_isSet) (maxL := 1) (ret := (some .boolean)) (by decide) rfl ?_
  intro p e s m args below meth c s₁ B hml hv
  obtain ⟨rfl, hP, hK⟩ := hv
  have hx := B.exec
  have hb := B.bytes
  have hr := B.returns
  have hts := atoms_spec (ws := wsX8_isSet) B.pre
  have hown : s.vm.findClass RX8 = some m.cls := findClass_of_methodNamed B.named
  have hlocks := B.notSynchronized
  have hP : va_P (dC, dI) vwCl [] s.heap := hP
  have hl := lv_entry ([.int v]) (n := 1) (Nat.le_of_ble_eq_true rfl)
  rw [lg_entry_eq]
  generalize (lg_sl ([.int v]) ++ List.replicate (1 - (lg_sl ([.int v])).length) Slot.unset).toArray = ls at hl ⊢
  have hl : lv_has ls 1 [(0, .int v)] := hl
  refine lv_iload_n hx hb dX8_isSet_0 rfl (lv_at hl 0 rfl) ?_
  refine lv_iconst (v := nI 0) hx hb dX8_isSet_1 (by decide +kernel) ?_
  refine lv_iconst (v := nI 2) hx hb dX8_isSet_2 (by decide +kernel) ?_
  have hPc := hP.sub (ws' := []) [] rfl
  have hKc := hK.sub (tys' := []) [] rfl
  refine vp_callSi (W.runS (As := [.int v, .int (nI 0), .int (nI 2)]) (rest := []) ⟨hx, hb, hml, hown, hts⟩ (c_X8_in l dC dI v (nI 0) (nI 2) ) (va_cwS 3 hts gX8_isSet_X8_in rfl rfl rfl (by decide +kernel) ⟨Nat.le_of_ble_eq_true rfl, Nat.le_of_ble_eq_true rfl⟩) ⟨fun a U g mk q => by obtain ⟨q0, qP, qK⟩ := q; exact ⟨q0, qP, va_K.moved (u := U) (U := U.calling g mk a) (Vm.Alike.refl U.vm) qK⟩, fun U hU hW => ⟨rfl, by rw [hU]; exact hPc, va_K.moved hW.alike hKc⟩⟩ rfl rfl hl.1 rfl (lv_room (Nat.le_of_ble_eq_true rfl)) dX8_isSet_3 ⟨Nat.le_of_ble_eq_true rfl, Nat.le_of_ble_eq_true rfl⟩) (fun r_2 hw_1 => ?_)
  subst hw_1
  exact W.zret (v := b2i (decide ((nI 0) ≤ v ∧ v ≤ (nI 2)))) hx hb hr (b2i_nar _) (fun t9 ht hW => ⟨b2i (decide ((nI 0) ≤ v ∧ v ≤ (nI 2))), rfl, rfl, ht⟩) (fun q h => by cases h) dX8_isSet_6
set_option maxHeartbeats 4000000 in
set_option maxRecDepth 100000 in
/-- reference: asked -/
theorem c_X8_asked (l : Launch) (dC : Nat → ClassId) (dI : Nat → Nat → Nat) (q : Nat) (mq : Nat) (zq : Nat) (sq : Nat) (bq : Nat) (cq : Nat) (pq : Nat) (cZ : ClassId) (cI : ClassId) (cJ : ClassId) (fM : Nat → Int32) (fS : Nat → Int32) (fP : Nat → Int32) (fB : Nat → Int32) (fC : Nat → Int64) (sm : Int64) (fT : Nat → Int32) (ps : Int32) (th : Int32) (bb : Bool) (sz : Nat) : Met l yX8_asked wsX8_asked ({ frames := 0, cells := 0, slots := 0, locals := 0 }) (va_Pc [.ref q, .int (b2i bb)] (fun U => U.heap.size = sz ∧ va_P (dC, dI) vwCl [(q, .inr (7, [.ref mq, .ref zq, .ref sq, .ref bq, .ref cq, .long sm, .ref pq, .int ps, .int th])), (mq, .inl (cZ, 12288, .inl fM)), (zq, .inl (cI, 3, .inl fS)), (sq, .inl (cI, 6156, .inl fP)), (bq, .inl (cI, 3, .inl fB)), (cq, .inl (cJ, 64, .inr (.inl fC))), (pq, .inl (cI, 8, .inl fT))] U.heap ∧ va_K (dC, dI) vwCl [(cZ, .boolean), (cI, .int), (cJ, .long)] U ∧ va_D (fun _ => True) [(q, .inr (7, [.ref mq, .ref zq, .ref sq, .ref bq, .ref cq, .long sm, .ref pq, .int ps, .int th])), (mq, .inl (cZ, 12288, .inl fM)), (zq, .inl (cI, 3, .inl fS)), (sq, .inl (cI, 6156, .inl fP)), (bq, .inl (cI, 3, .inl fB)), (cq, .inl (cJ, 64, .inr (.inl fC))), (pq, .inl (cI, 8, .inl fT))])) (va_Qi (fun (r : Int32) (u : Int32) => r = b2i bb ∧ u = thr1 bb) (fun (u : Int32) (t : State) => va_P (dC, dI) vwCl [(q, .inr (7, [.ref mq, .ref zq, .ref sq, .ref bq, .ref cq, .long sm, .ref pq, .int ps, .int u])), (mq, .inl (cZ, 12288, .inl fM)), (zq, .inl (cI, 3, .inl fS)), (sq, .inl (cI, 6156, .inl fP)), (bq, .inl (cI, 3, .inl fB)), (cq, .inl (cJ, 64, .inr (.inl fC))), (pq, .inl (cI, 8, .inl fT))] t.heap ∧ va_K (dC, dI) vwCl [(cZ, .boolean), (cI, .int), (cJ, .long)] t ∧ va_D (va_A [(q, .inr (7, [.ref mq, .ref zq, .ref sq, .ref bq, .ref cq, .long sm, .ref pq, .int ps, .int th])), (mq, .inl (cZ, 12288, .inl fM)), (zq, .inl (cI, 3, .inl fS)), (sq, .inl (cI, 6156, .inl fP)), (bq, .inl (cI, 3, .inl fB)), (cq, .inl (cJ, 64, .inr (.inl fC))), (pq, .inl (cI, 8, .inl fT))] sz) [(q, .inr (7, [.ref mq, .ref zq, .ref sq, .ref bq, .ref cq, .long sm, .ref pq, .int ps, .int u])), (mq, .inl (cZ, 12288, .inl fM)), (zq, .inl (cI, 3, .inl fS)), (sq, .inl (cI, 6156, .inl fP)), (bq, .inl (cI, 3, .inl fB)), (cq, .inl (cJ, 64, .inr (.inl fC))), (pq, .inl (cI, 8, .inl fT))]) (va_A [(q, .inr (7, [.ref mq, .ref zq, .ref sq, .ref bq, .ref cq, .long sm, .ref pq, .int ps, .int th])), (mq, .inl (cZ, 12288, .inl fM)), (zq, .inl (cI, 3, .inl fS)), (sq, .inl (cI, 6156, .inl fP)), (bq, .inl (cI, 3, .inl fB)), (cq, .inl (cJ, 64, .inr (.inl fC))), (pq, .inl (cI, 8, .inl fT))] sz)) 0 0 (va_A [(q, .inr (7, [.ref mq, .ref zq, .ref sq, .ref bq, .ref cq, .long sm, .ref pq, .int ps, .int th])), (mq, .inl (cZ, 12288, .inl fM)), (zq, .inl (cI, 3, .inl fS)), (sq, .inl (cI, 6156, .inl fP)), (bq, .inl (cI, 3, .inl fB)), (cq, .inl (cJ, 64, .inr (.inl fC))), (pq, .inl (cI, 8, .inl fT))] sz) := by
  refine Met.ofW (cc := cX8_asked) (maxL := 2) (ret := (some .boolean)) (by decide) rfl ?_
  intro p e s m args below meth c s₁ B hml hv
  obtain ⟨rfl, hsz, hP, hK, hD0⟩ := hv
  have hx := B.exec
  have hb := B.bytes
  have hr := B.returns
  have hts := atoms_spec (ws := wsX8_asked) B.pre
  have hown : s.vm.findClass RX8 = some m.cls := findClass_of_methodNamed B.named
  have hlocks := B.notSynchronized
  subst hsz
  have hD := hD0.self (sz := s.heap.size)
  generalize hAe : va_A [(q, .inr (7, [.ref mq, .ref zq, .ref sq, .ref bq, .ref cq, .long sm, .ref pq, .int ps, .int th])), (mq, .inl (cZ, 12288, .inl fM)), (zq, .inl (cI, 3, .inl fS)), (sq, .inl (cI, 6156, .inl fP)), (bq, .inl (cI, 3, .inl fB)), (cq, .inl (cJ, 64, .inr (.inl fC))), (pq, .inl (cI, 8, .inl fT))] s.heap.size = A at hD ⊢
  have hA : ∀ q : Nat, s.heap.size ≤ q → A q := fun q h => by rw [← hAe]; exact Or.inr h
  have hS : va_S A s.heap s.heap [] := va_S.rf
  have hP : va_P (dC, dI) vwCl [(q, .inr (7, [.ref mq, .ref zq, .ref sq, .ref bq, .ref cq, .long sm, .ref pq, .int ps, .int th])), (mq, .inl (cZ, 12288, .inl fM)), (zq, .inl (cI, 3, .inl fS)), (sq, .inl (cI, 6156, .inl fP)), (bq, .inl (cI, 3, .inl fB)), (cq, .inl (cJ, 64, .inr (.inl fC))), (pq, .inl (cI, 8, .inl fT))] s.heap := hP
  have hl := lv_entry ([.ref q, .int (b2i bb)]) (n := 2) (Nat.le_of_ble_eq_true rfl)
  rw [lg_entry_eq]
  generalize (lg_sl ([.ref q, .int (b2i bb)]) ++ List.replicate (2 - (lg_sl ([.ref q, .int (b2i bb)])).length) Slot.unset).toArray = ls at hl ⊢
  have hl : lv_has ls 2 [(0, .ref q), (1, .int (b2i bb))] := hl
  refine lv_aload_n hx hb dX8_asked_0 rfl (lv_at hl 0 rfl) ?_
  refine lv_iload_n hx hb dX8_asked_1 rfl (lv_at hl 1 rfl) ?_
  refine lv_if_eq (tgt := 9) hx hb dX8_asked_2 (by decide) (fun qc_1 => ?_) (fun qc_1 => ?_)
  · have c_1 : bb = false := b2i_f qc_1
    refine lv_iconst (v := nI 1) hx hb dX8_asked_9 (by decide +kernel) ?_
    refine va_put (D := (dC, dI)) (ci := 7) (v := .int (nI 1)) (ty := .int) (C := RX8) (T := TX8) (N := 9) hx hb hts (by decide +kernel) tyX8 tyX8_ok nmX8 hown hK hP hD hS 0 rfl rfl 8 (by decide) (hts (.fieldLink RX8 30 "SmallNumberSetsModel" "thrown" "I") (by decide +kernel)) (fun _ h9 => h9) rfl (by decide +kernel) rfl rfl (Nat.le_of_ble_eq_true rfl) dX8_asked_10 (fun H locs hP hD hS => ?_)
    have hP : va_P (dC, dI) vwCl [(q, .inr (7, [.ref mq, .ref zq, .ref sq, .ref bq, .ref cq, .long sm, .ref pq, .int ps, .int (nI 1)])), (mq, .inl (cZ, 12288, .inl fM)), (zq, .inl (cI, 3, .inl fS)), (sq, .inl (cI, 6156, .inl fP)), (bq, .inl (cI, 3, .inl fB)), (cq, .inl (cJ, 64, .inr (.inl fC))), (pq, .inl (cI, 8, .inl fT))] H := hP
    have hD : va_D A [(q, .inr (7, [.ref mq, .ref zq, .ref sq, .ref bq, .ref cq, .long sm, .ref pq, .int ps, .int (nI 1)])), (mq, .inl (cZ, 12288, .inl fM)), (zq, .inl (cI, 3, .inl fS)), (sq, .inl (cI, 6156, .inl fP)), (bq, .inl (cI, 3, .inl fB)), (cq, .inl (cJ, 64, .inr (.inl fC))), (pq, .inl (cI, 8, .inl fT))] := hD
    refine lv_iload_n hx hb dX8_asked_13 rfl (lv_at hl 1 rfl) ?_
    have hP9 := hP.sub (ws' := [(q, .inr (7, [.ref mq, .ref zq, .ref sq, .ref bq, .ref cq, .long sm, .ref pq, .int ps, .int (nI 1)])), (mq, .inl (cZ, 12288, .inl fM)), (zq, .inl (cI, 3, .inl fS)), (sq, .inl (cI, 6156, .inl fP)), (bq, .inl (cI, 3, .inl fB)), (cq, .inl (cJ, 64, .inr (.inl fC))), (pq, .inl (cI, 8, .inl fT))]) [0, 1, 2, 3, 4, 5, 6] rfl
    have hD9 := hD.sub (ws' := [(q, .inr (7, [.ref mq, .ref zq, .ref sq, .ref bq, .ref cq, .long sm, .ref pq, .int ps, .int (nI 1)])), (mq, .inl (cZ, 12288, .inl fM)), (zq, .inl (cI, 3, .inl fS)), (sq, .inl (cI, 6156, .inl fP)), (bq, .inl (cI, 3, .inl fB)), (cq, .inl (cJ, 64, .inr (.inl fC))), (pq, .inl (cI, 8, .inl fT))]) [0, 1, 2, 3, 4, 5, 6] (by decide) rfl
    have hK9 := hK.sub (tys' := [(cZ, .boolean), (cI, .int), (cJ, .long)]) [0, 1, 2] rfl
    exact W.zret (v := b2i bb) hx hb hr (b2i_nar _) (fun t9 ht hW => ⟨⟨b2i bb, nI 1, rfl, ⟨rfl, by rw [c_1]; rfl⟩, by rw [ht]; exact hP9, va_K.moved hW.alike hK9, hD9⟩, hS.F ht⟩) hS.2.2 dX8_asked_14
  · have c_1 : bb = true := b2i_t qc_1
    refine lv_iconst (v := nI 0) hx hb dX8_asked_5 (by decide +kernel) ?_
    refine lv_goto (tgt := 10) hx hb dX8_asked_6 (by decide) ?_
    refine va_put (D := (dC, dI)) (ci := 7) (v := .int (nI 0)) (ty := .int) (C := RX8) (T := TX8) (N := 9) hx hb hts (by decide +kernel) tyX8 tyX8_ok nmX8 hown hK hP hD hS 0 rfl rfl 8 (by decide) (hts (.fieldLink RX8 30 "SmallNumberSetsModel" "thrown" "I") (by decide +kernel)) (fun _ h9 => h9) rfl (by decide +kernel) rfl rfl (Nat.le_of_ble_eq_true rfl) dX8_asked_10 (fun H locs hP hD hS => ?_)
    have hP : va_P (dC, dI) vwCl [(q, .inr (7, [.ref mq, .ref zq, .ref sq, .ref bq, .ref cq, .long sm, .ref pq, .int ps, .int (nI 0)])), (mq, .inl (cZ, 12288, .inl fM)), (zq, .inl (cI, 3, .inl fS)), (sq, .inl (cI, 6156, .inl fP)), (bq, .inl (cI, 3, .inl fB)), (cq, .inl (cJ, 64, .inr (.inl fC))), (pq, .inl (cI, 8, .inl fT))] H := hP
    have hD : va_D A [(q, .inr (7, [.ref mq, .ref zq, .ref sq, .ref bq, .ref cq, .long sm, .ref pq, .int ps, .int (nI 0)])), (mq, .inl (cZ, 12288, .inl fM)), (zq, .inl (cI, 3, .inl fS)), (sq, .inl (cI, 6156, .inl fP)), (bq, .inl (cI, 3, .inl fB)), (cq, .inl (cJ, 64, .inr (.inl fC))), (pq, .inl (cI, 8, .inl fT))] := hD
    refine lv_iload_n hx hb dX8_asked_13 rfl (lv_at hl 1 rfl) ?_
    have hP9 := hP.sub (ws' := [(q, .inr (7, [.ref mq, .ref zq, .ref sq, .ref bq, .ref cq, .long sm, .ref pq, .int ps, .int (nI 0)])), (mq, .inl (cZ, 12288, .inl fM)), (zq, .inl (cI, 3, .inl fS)), (sq, .inl (cI, 6156, .inl fP)), (bq, .inl (cI, 3, .inl fB)), (cq, .inl (cJ, 64, .inr (.inl fC))), (pq, .inl (cI, 8, .inl fT))]) [0, 1, 2, 3, 4, 5, 6] rfl
    have hD9 := hD.sub (ws' := [(q, .inr (7, [.ref mq, .ref zq, .ref sq, .ref bq, .ref cq, .long sm, .ref pq, .int ps, .int (nI 0)])), (mq, .inl (cZ, 12288, .inl fM)), (zq, .inl (cI, 3, .inl fS)), (sq, .inl (cI, 6156, .inl fP)), (bq, .inl (cI, 3, .inl fB)), (cq, .inl (cJ, 64, .inr (.inl fC))), (pq, .inl (cI, 8, .inl fT))]) [0, 1, 2, 3, 4, 5, 6] (by decide) rfl
    have hK9 := hK.sub (tys' := [(cZ, .boolean), (cI, .int), (cJ, .long)]) [0, 1, 2] rfl
    exact W.zret (v := b2i bb) hx hb hr (b2i_nar _) (fun t9 ht hW => ⟨⟨b2i bb, nI 0, rfl, ⟨rfl, by rw [c_1]; rfl⟩, by rw [ht]; exact hP9, va_K.moved hW.alike hK9, hD9⟩, hS.F ht⟩) hS.2.2 dX8_asked_14
set_option maxHeartbeats 4000000 in
set_option maxRecDepth 100000 in
/-- reference: asked_ -/
theorem c_X8_asked_ (l : Launch) (dC : Nat → ClassId) (dI : Nat → Nat → Nat) (q : Nat) (mq : Nat) (zq : Nat) (sq : Nat) (bq : Nat) (cq : Nat) (pq : Nat) (cZ : ClassId) (cI : ClassId) (cJ : ClassId) (fM : Nat → Int32) (fS : Nat → Int32) (fP : Nat → Int32) (fB : Nat → Int32) (fC : Nat → Int64) (sm : Int64) (fT : Nat → Int32) (ps : Int32) (th : Int32) (bb : Bool) (b2 : Bool) (sz : Nat) : Met l yX8_asked_ wsX8_asked_ ({ frames := 0, cells := 0, slots := 0, locals := 0 }) (va_Pc [.ref q, .int (b2i bb), .int (b2i b2)] (fun U => U.heap.size = sz ∧ va_P (dC, dI) vwCl [(q, .inr (7, [.ref mq, .ref zq, .ref sq, .ref bq, .ref cq, .long sm, .ref pq, .int ps, .int th])), (mq, .inl (cZ, 12288, .inl fM)), (zq, .inl (cI, 3, .inl fS)), (sq, .inl (cI, 6156, .inl fP)), (bq, .inl (cI, 3, .inl fB)), (cq, .inl (cJ, 64, .inr (.inl fC))), (pq, .inl (cI, 8, .inl fT))] U.heap ∧ va_K (dC, dI) vwCl [(cZ, .boolean), (cI, .int), (cJ, .long)] U ∧ va_D (fun _ => True) [(q, .inr (7, [.ref mq, .ref zq, .ref sq, .ref bq, .ref cq, .long sm, .ref pq, .int ps, .int th])), (mq, .inl (cZ, 12288, .inl fM)), (zq, .inl (cI, 3, .inl fS)), (sq, .inl (cI, 6156, .inl fP)), (bq, .inl (cI, 3, .inl fB)), (cq, .inl (cJ, 64, .inr (.inl fC))), (pq, .inl (cI, 8, .inl fT))])) (va_Qi (fun (r : Int32) (u : Int32) => r = b2i (bb && b2) ∧ u = thr2 bb b2) (fun (u : Int32) (t : State) => va_P (dC, dI) vwCl [(q, .inr (7, [.ref mq, .ref zq, .ref sq, .ref bq, .ref cq, .long sm, .ref pq, .int ps, .int u])), (mq, .inl (cZ, 12288, .inl fM)), (zq, .inl (cI, 3, .inl fS)), (sq, .inl (cI, 6156, .inl fP)), (bq, .inl (cI, 3, .inl fB)), (cq, .inl (cJ, 64, .inr (.inl fC))), (pq, .inl (cI, 8, .inl fT))] t.heap ∧ va_K (dC, dI) vwCl [(cZ, .boolean), (cI, .int), (cJ, .long)] t ∧ va_D (va_A [(q, .inr (7, [.ref mq, .ref zq, .ref sq, .ref bq, .ref cq, .long sm, .ref pq, .int ps, .int th])), (mq, .inl (cZ, 12288, .inl fM)), (zq, .inl (cI, 3, .inl fS)), (sq, .inl (cI, 6156, .inl fP)), (bq, .inl (cI, 3, .inl fB)), (cq, .inl (cJ, 64, .inr (.inl fC))), (pq, .inl (cI, 8, .inl fT))] sz) [(q, .inr (7, [.ref mq, .ref zq, .ref sq, .ref bq, .ref cq, .long sm, .ref pq, .int ps, .int u])), (mq, .inl (cZ, 12288, .inl fM)), (zq, .inl (cI, 3, .inl fS)), (sq, .inl (cI, 6156, .inl fP)), (bq, .inl (cI, 3, .inl fB)), (cq, .inl (cJ, 64, .inr (.inl fC))), (pq, .inl (cI, 8, .inl fT))]) (va_A [(q, .inr (7, [.ref mq, .ref zq, .ref sq, .ref bq, .ref cq, .long sm, .ref pq, .int ps, .int th])), (mq, .inl (cZ, 12288, .inl fM)), (zq, .inl (cI, 3, .inl fS)), (sq, .inl (cI, 6156, .inl fP)), (bq, .inl (cI, 3, .inl fB)), (cq, .inl (cJ, 64, .inr (.inl fC))), (pq, .inl (cI, 8, .inl fT))] sz)) 0 0 (va_A [(q, .inr (7, [.ref mq, .ref zq, .ref sq, .ref bq, .ref cq, .long sm, .ref pq, .int ps, .int th])), (mq, .inl (cZ, 12288, .inl fM)), (zq, .inl (cI, 3, .inl fS)), (sq, .inl (cI, 6156, .inl fP)), (bq, .inl (cI, 3, .inl fB)), (cq, .inl (cJ, 64, .inr (.inl fC))), (pq, .inl (cI, 8, .inl fT))] sz) := by
  refine Met.ofW (cc := cX8_asked_) (maxL := 3) (ret := (some .boolean)) (by decide) rfl ?_
  intro p e s m args below meth c s₁ B hml hv
  obtain ⟨rfl, hsz, hP, hK, hD0⟩ := hv
  have hx := B.exec
  have hb := B.bytes
  have hr := B.returns
  have hts := atoms_spec (ws := wsX8_asked_) B.pre
  have hown : s.vm.findClass RX8 = some m.cls := findClass_of_methodNamed B.named
  have hlocks := B.notSynchronized
  subst hsz
  have hD := hD0.self (sz := s.heap.size)
  generalize hAe : va_A [(q, .inr (7, [.ref mq, .ref zq, .ref sq, .ref bq, .ref cq, .long sm, .ref pq, .int ps, .int th])), (mq, .inl (cZ, 12288, .inl fM)), (zq, .inl (cI, 3, .inl fS)), (sq, .inl (cI, 6156, .inl fP)), (bq, .inl (cI, 3, .inl fB)), (cq, .inl (cJ, 64, .inr (.inl fC))), (pq, .inl (cI, 8, .inl fT))] s.heap.size = A at hD ⊢
  have hA : ∀ q : Nat, s.heap.size ≤ q → A q := fun q h => by rw [← hAe]; exact Or.inr h
  have hS : va_S A s.heap s.heap [] := va_S.rf
  have hP : va_P (dC, dI) vwCl [(q, .inr (7, [.ref mq, .ref zq, .ref sq, .ref bq, .ref cq, .long sm, .ref pq, .int ps, .int th])), (mq, .inl (cZ, 12288, .inl fM)), (zq, .inl (cI, 3, .inl fS)), (sq, .inl (cI, 6156, .inl fP)), (bq, .inl (cI, 3, .inl fB)), (cq, .inl (cJ, 64, .inr (.inl fC))), (pq, .inl (cI, 8, .inl fT))] s.heap := hP
  have hl := lv_entry ([.ref q, .int (b2i bb), .int (b2i b2)]) (n := 3) (Nat.le_of_ble_eq_true rfl)
  rw [lg_entry_eq]
  generalize (lg_sl ([.ref q, .int (b2i bb), .int (b2i b2)]) ++ List.replicate (3 - (lg_sl ([.ref q, .int (b2i bb), .int (b2i b2)])).length) Slot.unset).toArray = ls at hl ⊢
  have hl : lv_has ls 3 [(0, .ref q), (1, .int (b2i bb)), (2, .int (b2i b2))] := hl
  refine lv_aload_n hx hb dX8_asked__0 rfl (lv_at hl 0 rfl) ?_
  refine lv_iload_n hx hb dX8_asked__1 rfl (lv_at hl 1 rfl) ?_
  refine lv_if_ne (tgt := 9) hx hb dX8_asked__2 (by decide) (fun qc_1 => ?_) (fun qc_1 => ?_)
  · have c_1 : bb = true := b2i_t qc_1
    refine lv_iload_n hx hb dX8_asked__9 rfl (lv_at hl 2 rfl) ?_
    refine lv_if_eq (tgt := 17) hx hb dX8_asked__10 (by decide) (fun qc_2 => ?_) (fun qc_2 => ?_)
    · have c_2 : b2 = false := b2i_f qc_2
      refine lv_iconst (v := nI 2) hx hb dX8_asked__17 (by decide +kernel) ?_
      refine va_put (D := (dC, dI)) (ci := 7) (v := .int (nI 2)) (ty := .int) (C := RX8) (T := TX8) (N := 9) hx hb hts (by decide +kernel) tyX8 tyX8_ok nmX8 hown hK hP hD hS 0 rfl rfl 8 (by decide) (hts (.fieldLink RX8 30 "SmallNumberSetsModel" "thrown" "I") (by decide +kernel)) (fun _ h9 => h9) rfl (by decide +kernel) rfl rfl (Nat.le_of_ble_eq_true rfl) dX8_asked__18 (fun H locs hP hD hS => ?_)
      have hP : va_P (dC, dI) vwCl [(q, .inr (7, [.ref mq, .ref zq, .ref sq, .ref bq, .ref cq, .long sm, .ref pq, .int ps, .int (nI 2)])), (mq, .inl (cZ, 12288, .inl fM)), (zq, .inl (cI, 3, .inl fS)), (sq, .inl (cI, 6156, .inl fP)), (bq, .inl (cI, 3, .inl fB)), (cq, .inl (cJ, 64, .inr (.inl fC))), (pq, .inl (cI, 8, .inl fT))] H := hP
      have hD : va_D A [(q, .inr (7, [.ref mq, .ref zq, .ref sq, .ref bq, .ref cq, .long sm, .ref pq, .int ps, .int (nI 2)])), (mq, .inl (cZ, 12288, .inl fM)), (zq, .inl (cI, 3, .inl fS)), (sq, .inl (cI, 6156, .inl fP)), (bq, .inl (cI, 3, .inl fB)), (cq, .inl (cJ, 64, .inr (.inl fC))), (pq, .inl (cI, 8, .inl fT))] := hD
      refine lv_aload_n hx hb dX8_asked__21 rfl (lv_at hl 0 rfl) ?_
      refine va_get (D := (dC, dI)) (ci := 7) (v := .int (nI 2)) (C := RX8) (T := TX8) (N := 9) hx hb hts (by decide +kernel) hown hK hP 0 rfl rfl 8 (by decide) (hts (.fieldLink RX8 30 "SmallNumberSetsModel" "thrown" "I") (by decide +kernel)) (fun _ h9 => h9) rfl dX8_asked__22 ?_
      refine lv_if_ne (tgt := 32) hx hb dX8_asked__25 (by decide) (fun qc_3 => ?_) (fun qc_3 => ?_)
      · have c_3 : ¬ 2 = 0 := fun h9 => qc_3 ((nI_eq (a := 2) (b := 0) (by omega) (by omega)).mpr h9)
        refine lv_iconst (v := nI 0) hx hb dX8_asked__32 (by decide +kernel) ?_
        have hP9 := hP.sub (ws' := [(q, .inr (7, [.ref mq, .ref zq, .ref sq, .ref bq, .ref cq, .long sm, .ref pq, .int ps, .int (nI 2)])), (mq, .inl (cZ, 12288, .inl fM)), (zq, .inl (cI, 3, .inl fS)), (sq, .inl (cI, 6156, .inl fP)), (bq, .inl (cI, 3, .inl fB)), (cq, .inl (cJ, 64, .inr (.inl fC))), (pq, .inl (cI, 8, .inl fT))]) [0, 1, 2, 3, 4, 5, 6] rfl
        have hD9 := hD.sub (ws' := [(q, .inr (7, [.ref mq, .ref zq, .ref sq, .ref bq, .ref cq, .long sm, .ref pq, .int ps, .int (nI 2)])), (mq, .inl (cZ, 12288, .inl fM)), (zq, .inl (cI, 3, .inl fS)), (sq, .inl (cI, 6156, .inl fP)), (bq, .inl (cI, 3, .inl fB)), (cq, .inl (cJ, 64, .inr (.inl fC))), (pq, .inl (cI, 8, .inl fT))]) [0, 1, 2, 3, 4, 5, 6] (by decide) rfl
        have hK9 := hK.sub (tys' := [(cZ, .boolean), (cI, .int), (cJ, .long)]) [0, 1, 2] rfl
        exact W.zret (v := nI 0) hx hb hr (by first | exact narrow_b1 | exact narrow_b0) (fun t9 ht hW => ⟨⟨nI 0, nI 2, rfl, ⟨by rw [c_1, c_2]; rfl, by rw [c_1, c_2]; rfl⟩, by rw [ht]; exact hP9, va_K.moved hW.alike hK9, hD9⟩, hS.F ht⟩) hS.2.2 dX8_asked__33
      · have c_3 : 2 = 0 := (nI_eq (a := 2) (b := 0) (by omega) (by omega)).mp qc_3
        exact absurd c_3 (by decide)
    · have c_2 : b2 = true := b2i_t qc_2
      refine lv_iconst (v := nI 0) hx hb dX8_asked__13 (by decide +kernel) ?_
      refine lv_goto (tgt := 18) hx hb dX8_asked__14 (by decide) ?_
      refine va_put (D := (dC, dI)) (ci := 7) (v := .int (nI 0)) (ty := .int) (C := RX8) (T := TX8) (N := 9) hx hb hts (by decide +kernel) tyX8 tyX8_ok nmX8 hown hK hP hD hS 0 rfl rfl 8 (by decide) (hts (.fieldLink RX8 30 "SmallNumberSetsModel" "thrown" "I") (by decide +kernel)) (fun _ h9 => h9) rfl (by decide +kernel) rfl rfl (Nat.le_of_ble_eq_true rfl) dX8_asked__18 (fun H locs hP hD hS => ?_)
      have hP : va_P (dC, dI) vwCl [(q, .inr (7, [.ref mq, .ref zq, .ref sq, .ref bq, .ref cq, .long sm, .ref pq, .int ps, .int (nI 0)])), (mq, .inl (cZ, 12288, .inl fM)), (zq, .inl (cI, 3, .inl fS)), (sq, .inl (cI, 6156, .inl fP)), (bq, .inl (cI, 3, .inl fB)), (cq, .inl (cJ, 64, .inr (.inl fC))), (pq, .inl (cI, 8, .inl fT))] H := hP
      have hD : va_D A [(q, .inr (7, [.ref mq, .ref zq, .ref sq, .ref bq, .ref cq, .long sm, .ref pq, .int ps, .int (nI 0)])), (mq, .inl (cZ, 12288, .inl fM)), (zq, .inl (cI, 3, .inl fS)), (sq, .inl (cI, 6156, .inl fP)), (bq, .inl (cI, 3, .inl fB)), (cq, .inl (cJ, 64, .inr (.inl fC))), (pq, .inl (cI, 8, .inl fT))] := hD
      refine lv_aload_n hx hb dX8_asked__21 rfl (lv_at hl 0 rfl) ?_
      refine va_get (D := (dC, dI)) (ci := 7) (v := .int (nI 0)) (C := RX8) (T := TX8) (N := 9) hx hb hts (by decide +kernel) hown hK hP 0 rfl rfl 8 (by decide) (hts (.fieldLink RX8 30 "SmallNumberSetsModel" "thrown" "I") (by decide +kernel)) (fun _ h9 => h9) rfl dX8_asked__22 ?_
      refine lv_if_ne (tgt := 32) hx hb dX8_asked__25 (by decide) (fun qc_4 => ?_) (fun qc_4 => ?_)
      · have c_4 : ¬ 0 = 0 := fun h9 => qc_4 ((nI_eq (a := 0) (b := 0) (by omega) (by omega)).mpr h9)
        exact absurd c_4 (by decide)
      · have c_4 : 0 = 0 := (nI_eq (a := 0) (b := 0) (by omega) (by omega)).mp qc_4
        refine lv_iconst (v := nI 1) hx hb dX8_asked__28 (by decide +kernel) ?_
        refine lv_goto (tgt := 33) hx hb dX8_asked__29 (by decide) ?_
        have hP9 := hP.sub (ws' := [(q, .inr (7, [.ref mq, .ref zq, .ref sq, .ref bq, .ref cq, .long sm, .ref pq, .int ps, .int (nI 0)])), (mq, .inl (cZ, 12288, .inl fM)), (zq, .inl (cI, 3, .inl fS)), (sq, .inl (cI, 6156, .inl fP)), (bq, .inl (cI, 3, .inl fB)), (cq, .inl (cJ, 64, .inr (.inl fC))), (pq, .inl (cI, 8, .inl fT))]) [0, 1, 2, 3, 4, 5, 6] rfl
        have hD9 := hD.sub (ws' := [(q, .inr (7, [.ref mq, .ref zq, .ref sq, .ref bq, .ref cq, .long sm, .ref pq, .int ps, .int (nI 0)])), (mq, .inl (cZ, 12288, .inl fM)), (zq, .inl (cI, 3, .inl fS)), (sq, .inl (cI, 6156, .inl fP)), (bq, .inl (cI, 3, .inl fB)), (cq, .inl (cJ, 64, .inr (.inl fC))), (pq, .inl (cI, 8, .inl fT))]) [0, 1, 2, 3, 4, 5, 6] (by decide) rfl
        have hK9 := hK.sub (tys' := [(cZ, .boolean), (cI, .int), (cJ, .long)]) [0, 1, 2] rfl
        exact W.zret (v := nI 1) hx hb hr (by first | exact narrow_b1 | exact narrow_b0) (fun t9 ht hW => ⟨⟨nI 1, nI 0, rfl, ⟨by rw [c_1, c_2]; rfl, by rw [c_1, c_2]; rfl⟩, by rw [ht]; exact hP9, va_K.moved hW.alike hK9, hD9⟩, hS.F ht⟩) hS.2.2 dX8_asked__33
  · have c_1 : bb = false := b2i_f qc_1
    refine lv_iconst (v := nI 1) hx hb dX8_asked__5 (by decide +kernel) ?_
    refine lv_goto (tgt := 18) hx hb dX8_asked__6 (by decide) ?_
    refine va_put (D := (dC, dI)) (ci := 7) (v := .int (nI 1)) (ty := .int) (C := RX8) (T := TX8) (N := 9) hx hb hts (by decide +kernel) tyX8 tyX8_ok nmX8 hown hK hP hD hS 0 rfl rfl 8 (by decide) (hts (.fieldLink RX8 30 "SmallNumberSetsModel" "thrown" "I") (by decide +kernel)) (fun _ h9 => h9) rfl (by decide +kernel) rfl rfl (Nat.le_of_ble_eq_true rfl) dX8_asked__18 (fun H locs hP hD hS => ?_)
    have hP : va_P (dC, dI) vwCl [(q, .inr (7, [.ref mq, .ref zq, .ref sq, .ref bq, .ref cq, .long sm, .ref pq, .int ps, .int (nI 1)])), (mq, .inl (cZ, 12288, .inl fM)), (zq, .inl (cI, 3, .inl fS)), (sq, .inl (cI, 6156, .inl fP)), (bq, .inl (cI, 3, .inl fB)), (cq, .inl (cJ, 64, .inr (.inl fC))), (pq, .inl (cI, 8, .inl fT))] H := hP
    have hD : va_D A [(q, .inr (7, [.ref mq, .ref zq, .ref sq, .ref bq, .ref cq, .long sm, .ref pq, .int ps, .int (nI 1)])), (mq, .inl (cZ, 12288, .inl fM)), (zq, .inl (cI, 3, .inl fS)), (sq, .inl (cI, 6156, .inl fP)), (bq, .inl (cI, 3, .inl fB)), (cq, .inl (cJ, 64, .inr (.inl fC))), (pq, .inl (cI, 8, .inl fT))] := hD
    refine lv_aload_n hx hb dX8_asked__21 rfl (lv_at hl 0 rfl) ?_
    refine va_get (D := (dC, dI)) (ci := 7) (v := .int (nI 1)) (C := RX8) (T := TX8) (N := 9) hx hb hts (by decide +kernel) hown hK hP 0 rfl rfl 8 (by decide) (hts (.fieldLink RX8 30 "SmallNumberSetsModel" "thrown" "I") (by decide +kernel)) (fun _ h9 => h9) rfl dX8_asked__22 ?_
    refine lv_if_ne (tgt := 32) hx hb dX8_asked__25 (by decide) (fun qc_5 => ?_) (fun qc_5 => ?_)
    · have c_5 : ¬ 1 = 0 := fun h9 => qc_5 ((nI_eq (a := 1) (b := 0) (by omega) (by omega)).mpr h9)
      refine lv_iconst (v := nI 0) hx hb dX8_asked__32 (by decide +kernel) ?_
      have hP9 := hP.sub (ws' := [(q, .inr (7, [.ref mq, .ref zq, .ref sq, .ref bq, .ref cq, .long sm, .ref pq, .int ps, .int (nI 1)])), (mq, .inl (cZ, 12288, .inl fM)), (zq, .inl (cI, 3, .inl fS)), (sq, .inl (cI, 6156, .inl fP)), (bq, .inl (cI, 3, .inl fB)), (cq, .inl (cJ, 64, .inr (.inl fC))), (pq, .inl (cI, 8, .inl fT))]) [0, 1, 2, 3, 4, 5, 6] rfl
      have hD9 := hD.sub (ws' := [(q, .inr (7, [.ref mq, .ref zq, .ref sq, .ref bq, .ref cq, .long sm, .ref pq, .int ps, .int (nI 1)])), (mq, .inl (cZ, 12288, .inl fM)), (zq, .inl (cI, 3, .inl fS)), (sq, .inl (cI, 6156, .inl fP)), (bq, .inl (cI, 3, .inl fB)), (cq, .inl (cJ, 64, .inr (.inl fC))), (pq, .inl (cI, 8, .inl fT))]) [0, 1, 2, 3, 4, 5, 6] (by decide) rfl
      have hK9 := hK.sub (tys' := [(cZ, .boolean), (cI, .int), (cJ, .long)]) [0, 1, 2] rfl
      exact W.zret (v := nI 0) hx hb hr (by first | exact narrow_b1 | exact narrow_b0) (fun t9 ht hW => ⟨⟨nI 0, nI 1, rfl, ⟨by rw [c_1]; rfl, by rw [c_1]; rfl⟩, by rw [ht]; exact hP9, va_K.moved hW.alike hK9, hD9⟩, hS.F ht⟩) hS.2.2 dX8_asked__33
    · have c_5 : 1 = 0 := (nI_eq (a := 1) (b := 0) (by omega) (by omega)).mp qc_5
      exact absurd c_5 (by decide)
set_option maxHeartbeats 4000000 in
set_option maxRecDepth 100000 in
/-- reference: isRight -/
theorem c_X8_isRight (l : Launch) (dC : Nat → ClassId) (dI : Nat → Nat → Nat) (q : Nat) (mq : Nat) (zq : Nat) (sq : Nat) (bq : Nat) (cq : Nat) (pq : Nat) (cZ : ClassId) (cI : ClassId) (cJ : ClassId) (fM : Nat → Int32) (fS : Nat → Int32) (fP : Nat → Int32) (fB : Nat → Int32) (fC : Nat → Int64) (sm : Int64) (fT : Nat → Int32) (ps : Int32) (th : Int32) (v : Int32) (w : Int32) (sz : Nat) : Met l yX8_isRight wsX8_isRight ({ frames := 2, cells := 0, slots := 0, locals := 42 }) (va_Pc [.ref q, .int v, .int w] (fun U => U.heap.size = sz ∧ va_P (dC, dI) vwCl [(q, .inr (7, [.ref mq, .ref zq, .ref sq, .ref bq, .ref cq, .long sm, .ref pq, .int ps, .int th])), (mq, .inl (cZ, 12288, .inl fM)), (zq, .inl (cI, 3, .inl fS)), (sq, .inl (cI, 6156, .inl fP)), (bq, .inl (cI, 3, .inl fB)), (cq, .inl (cJ, 64, .inr (.inl fC))), (pq, .inl (cI, 8, .inl fT))] U.heap ∧ va_K (dC, dI) vwCl [(cZ, .boolean), (cI, .int), (cJ, .long)] U ∧ va_D (fun _ => True) [(q, .inr (7, [.ref mq, .ref zq, .ref sq, .ref bq, .ref cq, .long sm, .ref pq, .int ps, .int th])), (mq, .inl (cZ, 12288, .inl fM)), (zq, .inl (cI, 3, .inl fS)), (sq, .inl (cI, 6156, .inl fP)), (bq, .inl (cI, 3, .inl fB)), (cq, .inl (cJ, 64, .inr (.inl fC))), (pq, .inl (cI, 8, .inl fT))])) (va_Qi (fun (r : Int32) (u : Int32) => r = b2i (isS v && isN w) ∧ u = thr2 (isS v) (isN w)) (fun (u : Int32) (t : State) => va_P (dC, dI) vwCl [(q, .inr (7, [.ref mq, .ref zq, .ref sq, .ref bq, .ref cq, .long sm, .ref pq, .int ps, .int u])), (mq, .inl (cZ, 12288, .inl fM)), (zq, .inl (cI, 3, .inl fS)), (sq, .inl (cI, 6156, .inl fP)), (bq, .inl (cI, 3, .inl fB)), (cq, .inl (cJ, 64, .inr (.inl fC))), (pq, .inl (cI, 8, .inl fT))] t.heap ∧ va_K (dC, dI) vwCl [(cZ, .boolean), (cI, .int), (cJ, .long)] t ∧ va_D (va_A [(q, .inr (7, [.ref mq, .ref zq, .ref sq, .ref bq, .ref cq, .long sm, .ref pq, .int ps, .int th])), (mq, .inl (cZ, 12288, .inl fM)), (zq, .inl (cI, 3, .inl fS)), (sq, .inl (cI, 6156, .inl fP)), (bq, .inl (cI, 3, .inl fB)), (cq, .inl (cJ, 64, .inr (.inl fC))), (pq, .inl (cI, 8, .inl fT))] sz) [(q, .inr (7, [.ref mq, .ref zq, .ref sq, .ref bq, .ref cq, .long sm, .ref pq, .int ps, .int u])), (mq, .inl (cZ, 12288, .inl fM)), (zq, .inl (cI, 3, .inl fS)), (sq, .inl (cI, 6156, .inl fP)), (bq, .inl (cI, 3, .inl fB)), (cq, .inl (cJ, 64, .inr (.inl fC))), (pq, .inl (cI, 8, .inl fT))]) (va_A [(q, .inr (7, [.ref mq, .ref zq, .ref sq, .ref bq, .ref cq, .long sm, .ref pq, .int ps, .int th])), (mq, .inl (cZ, 12288, .inl fM)), (zq, .inl (cI, 3, .inl fS)), (sq, .inl (cI, 6156, .inl fP)), (bq, .inl (cI, 3, .inl fB)), (cq, .inl (cJ, 64, .inr (.inl fC))), (pq, .inl (cI, 8, .inl fT))] sz)) 0 0 (va_A [(q, .inr (7, [.ref mq, .ref zq, .ref sq, .ref bq, .ref cq, .long sm, .ref pq, .int ps, .int th])), (mq, .inl (cZ, 12288, .inl fM)), (zq, .inl (cI, 3, .inl fS)), (sq, .inl (cI, 6156, .inl fP)), (bq, .inl (cI, 3, .inl fB)), (cq, .inl (cJ, 64, .inr (.inl fC))), (pq, .inl (cI, 8, .inl fT))] sz) := by
  refine Met.ofW (cc := cX8_isRight) (maxL := 3) (ret := (some .boolean)) (by decide) rfl ?_
  intro p e s m args below meth c s₁ B hml hv
  obtain ⟨rfl, hsz, hP, hK, hD0⟩ := hv
  have hx := B.exec
  have hb := B.bytes
  have hr := B.returns
  have hts := atoms_spec (ws := wsX8_isRight) B.pre
  have hown : s.vm.findClass RX8 = some m.cls := findClass_of_methodNamed B.named
  have hlocks := B.notSynchronized
  subst hsz
  have hD := hD0.self (sz := s.heap.size)
  generalize hAe : va_A [(q, .inr (7, [.ref mq, .ref zq, .ref sq, .ref bq, .ref cq, .long sm, .ref pq, .int ps, .int th])), (mq, .inl (cZ, 12288, .inl fM)), (zq, .inl (cI, 3, .inl fS)), (sq, .inl (cI, 6156, .inl fP)), (bq, .inl (cI, 3, .inl fB)), (cq, .inl (cJ, 64, .inr (.inl fC))), (pq, .inl (cI, 8, .inl fT))] s.heap.size = A at hD ⊢
  have hA : ∀ q : Nat, s.heap.size ≤ q → A q := fun q h => by rw [← hAe]; exact Or.inr h
  have hS : va_S A s.heap s.heap [] := va_S.rf
  have hP : va_P (dC, dI) vwCl [(q, .inr (7, [.ref mq, .ref zq, .ref sq, .ref bq, .ref cq, .long sm, .ref pq, .int ps, .int th])), (mq, .inl (cZ, 12288, .inl fM)), (zq, .inl (cI, 3, .inl fS)), (sq, .inl (cI, 6156, .inl fP)), (bq, .inl (cI, 3, .inl fB)), (cq, .inl (cJ, 64, .inr (.inl fC))), (pq, .inl (cI, 8, .inl fT))] s.heap := hP
  have hl := lv_entry ([.ref q, .int v, .int w]) (n := 3) (Nat.le_of_ble_eq_true rfl)
  rw [lg_entry_eq]
  generalize (lg_sl ([.ref q, .int v, .int w]) ++ List.replicate (3 - (lg_sl ([.ref q, .int v, .int w])).length) Slot.unset).toArray = ls at hl ⊢
  have hl : lv_has ls 3 [(0, .ref q), (1, .int v), (2, .int w)] := hl
  refine lv_aload_n hx hb dX8_isRight_0 rfl (lv_at hl 0 rfl) ?_
  refine lv_iload_n hx hb dX8_isRight_1 rfl (lv_at hl 1 rfl) ?_
  have hPc := hP.sub (ws' := []) [] rfl
  have hKc := hK.sub (tys' := []) [] rfl
  refine vp_callSi (W.runS (As := [.int v]) (rest := [.ref q]) ⟨hx, hb, hml, hown, hts⟩ (c_X8_isSet l dC dI v ) (va_cwS 1 hts gX8_isRight_X8_isSet rfl rfl rfl (by decide +kernel) ⟨Nat.le_of_ble_eq_true rfl, Nat.le_of_ble_eq_true rfl⟩) ⟨fun a U g mk q => by obtain ⟨q0, qP, qK⟩ := q; exact ⟨q0, qP, va_K.moved (u := U) (U := U.calling g mk a) (Vm.Alike.refl U.vm) qK⟩, fun U hU hW => ⟨rfl, by rw [hU]; exact hPc, va_K.moved hW.alike hKc⟩⟩ rfl rfl hl.1 rfl (lv_room (Nat.le_of_ble_eq_true rfl)) dX8_isRight_2 ⟨Nat.le_of_ble_eq_true rfl, Nat.le_of_ble_eq_true rfl⟩) (fun r_2 hw_1 => ?_)
  subst hw_1
  refine lv_iload_n hx hb dX8_isRight_5 rfl (lv_at hl 2 rfl) ?_
  refine lv_iconst (v := nI 0) hx hb dX8_isRight_6 (by decide +kernel) ?_
  refine lv_sipush (v := nI 4095) hx hb dX8_isRight_7 (by decide +kernel) ?_
  have hPc := hP.sub (ws' := []) [] rfl
  have hKc := hK.sub (tys' := []) [] rfl
  refine vp_callSi (W.runS (As := [.int w, .int (nI 0), .int (nI 4095)]) (rest := [.int (b2i (isS v)), .ref q]) ⟨hx, hb, hml, hown, hts⟩ (c_X8_in l dC dI w (nI 0) (nI 4095) ) (va_cwS 3 hts gX8_isRight_X8_in rfl rfl rfl (by decide +kernel) ⟨Nat.le_of_ble_eq_true rfl, Nat.le_of_ble_eq_true rfl⟩) ⟨fun a U g mk q => by obtain ⟨q0, qP, qK⟩ := q; exact ⟨q0, qP, va_K.moved (u := U) (U := U.calling g mk a) (Vm.Alike.refl U.vm) qK⟩, fun U hU hW => ⟨rfl, by rw [hU]; exact hPc, va_K.moved hW.alike hKc⟩⟩ rfl rfl hl.1 rfl (lv_room (Nat.le_of_ble_eq_true rfl)) dX8_isRight_10 ⟨Nat.le_of_ble_eq_true rfl, Nat.le_of_ble_eq_true rfl⟩) (fun r_4 hw_3 => ?_)
  subst hw_3
  have hPc := hP.sub (ws' := [(q, .inr (7, [.ref mq, .ref zq, .ref sq, .ref bq, .ref cq, .long sm, .ref pq, .int ps, .int th])), (mq, .inl (cZ, 12288, .inl fM)), (zq, .inl (cI, 3, .inl fS)), (sq, .inl (cI, 6156, .inl fP)), (bq, .inl (cI, 3, .inl fB)), (cq, .inl (cJ, 64, .inr (.inl fC))), (pq, .inl (cI, 8, .inl fT))]) [0, 1, 2, 3, 4, 5, 6] rfl
  have hKc := hK.sub (tys' := [(cZ, .boolean), (cI, .int), (cJ, .long)]) [0, 1, 2] rfl
  have hDc := hD.sub (ws' := [(q, .inr (7, [.ref mq, .ref zq, .ref sq, .ref bq, .ref cq, .long sm, .ref pq, .int ps, .int th])), (mq, .inl (cZ, 12288, .inl fM)), (zq, .inl (cI, 3, .inl fS)), (sq, .inl (cI, 6156, .inl fP)), (bq, .inl (cI, 3, .inl fB)), (cq, .inl (cJ, 64, .inr (.inl fC))), (pq, .inl (cI, 8, .inl fT))]) [0, 1, 2, 3, 4, 5, 6] (by decide) rfl
  have hFc := va_free (wc := [(q, .inr (7, [.ref mq, .ref zq, .ref sq, .ref bq, .ref cq, .long sm, .ref pq, .int ps, .int th])), (mq, .inl (cZ, 12288, .inl fM)), (zq, .inl (cI, 3, .inl fS)), (sq, .inl (cI, 6156, .inl fP)), (bq, .inl (cI, 3, .inl fB)), (cq, .inl (cJ, 64, .inr (.inl fC))), (pq, .inl (cI, 8, .inl fT))]) hD hS hA [0, 1, 2, 3, 4, 5, 6] rfl
  refine va_calli (va_runV (As := [.int (b2i (isS v)), .int (b2i (decide ((nI 0) ≤ w ∧ w ≤ (nI 4095))))]) (rest := []) ⟨hx, hb, hml, hown, hts⟩ (c_X8_asked_ l dC dI q mq zq sq bq cq pq cZ cI cJ fM fS fP fB fC sm fT ps th (isS v) (decide ((nI 0) ≤ w ∧ w ≤ (nI 4095))) s.heap.size ) (cwV 2 hts gX8_isRight_X8_asked_ rfl rfl rfl (by decide +kernel) ⟨Nat.le_of_ble_eq_true rfl, Nat.le_of_ble_eq_true rfl⟩) ⟨fun a U g mk q => by obtain ⟨q0, q1, qP, qK, qD⟩ := q; exact ⟨q0, q1, qP, va_K.moved (u := U) (U := U.calling g mk a) (Vm.Alike.refl U.vm) qK, qD⟩, va_recv hKc hPc (ci := 7) (q0 := 0) rfl rfl, fun U hU hW => ⟨rfl, by rw [hU], by rw [hU]; exact hPc, va_K.moved hW.alike hKc, hDc.weaken (fun _ _ _ _ => trivial)⟩⟩ rfl rfl hl.1 rfl (lv_room (Nat.le_of_ble_eq_true rfl)) dX8_isRight_13 ⟨Nat.le_of_ble_eq_true rfl, Nat.le_of_ble_eq_true rfl⟩) hS (fun q _ h => hFc q h) hFc (fun r_7 u_6 t9 H1 locs ht hvm hw_5 hB hz1 hk1 hS => ?_)
  obtain ⟨th'_8, rfl⟩ : ∃ z, z = u_6 := ⟨_, rfl⟩
  obtain ⟨hP1, hK1, hD1⟩ := hB
  rw [ht] at hP1
  have hK1 := va_K.moved hvm.symm hK1
  try dsimp only at hw_5 hP1 hK1 hD1
  obtain ⟨hP, hD⟩ := va_join (wr := []) (w1 := [(q, .inr (7, [.ref mq, .ref zq, .ref sq, .ref bq, .ref cq, .long sm, .ref pq, .int ps, .int th'_8])), (mq, .inl (cZ, 12288, .inl fM)), (zq, .inl (cI, 3, .inl fS)), (sq, .inl (cI, 6156, .inl fP)), (bq, .inl (cI, 3, .inl fB)), (cq, .inl (cJ, 64, .inr (.inl fC))), (pq, .inl (cI, 8, .inl fT))]) hP hD [0, 1, 2, 3, 4, 5, 6] [] rfl rfl (by decide) (by decide) hk1 hFc hP1 hD1
  generalize H1 = H at hP hS ⊢
  have hP : va_P (dC, dI) vwCl [(q, .inr (7, [.ref mq, .ref zq, .ref sq, .ref bq, .ref cq, .long sm, .ref pq, .int ps, .int th'_8])), (mq, .inl (cZ, 12288, .inl fM)), (zq, .inl (cI, 3, .inl fS)), (sq, .inl (cI, 6156, .inl fP)), (bq, .inl (cI, 3, .inl fB)), (cq, .inl (cJ, 64, .inr (.inl fC))), (pq, .inl (cI, 8, .inl fT))] H := hP
  have hD : va_D A [(q, .inr (7, [.ref mq, .ref zq, .ref sq, .ref bq, .ref cq, .long sm, .ref pq, .int ps, .int th'_8])), (mq, .inl (cZ, 12288, .inl fM)), (zq, .inl (cI, 3, .inl fS)), (sq, .inl (cI, 6156, .inl fP)), (bq, .inl (cI, 3, .inl fB)), (cq, .inl (cJ, 64, .inr (.inl fC))), (pq, .inl (cI, 8, .inl fT))] := hD
  obtain ⟨he, hw_5⟩ := hw_5
  subst he
  have hP9 := hP.sub (ws' := [(q, .inr (7, [.ref mq, .ref zq, .ref sq, .ref bq, .ref cq, .long sm, .ref pq, .int ps, .int th'_8])), (mq, .inl (cZ, 12288, .inl fM)), (zq, .inl (cI, 3, .inl fS)), (sq, .inl (cI, 6156, .inl fP)), (bq, .inl (cI, 3, .inl fB)), (cq, .inl (cJ, 64, .inr (.inl fC))), (pq, .inl (cI, 8, .inl fT))]) [0, 1, 2, 3, 4, 5, 6] rfl
  have hD9 := hD.sub (ws' := [(q, .inr (7, [.ref mq, .ref zq, .ref sq, .ref bq, .ref cq, .long sm, .ref pq, .int ps, .int th'_8])), (mq, .inl (cZ, 12288, .inl fM)), (zq, .inl (cI, 3, .inl fS)), (sq, .inl (cI, 6156, .inl fP)), (bq, .inl (cI, 3, .inl fB)), (cq, .inl (cJ, 64, .inr (.inl fC))), (pq, .inl (cI, 8, .inl fT))]) [0, 1, 2, 3, 4, 5, 6] (by decide) rfl
  have hK9 := hK.sub (tys' := [(cZ, .boolean), (cI, .int), (cJ, .long)]) [0, 1, 2] rfl
  exact W.zret (v := b2i ((isS v) && (decide ((nI 0) ≤ w ∧ w ≤ (nI 4095))))) hx hb hr (b2i_nar _) (fun t9 ht hW => ⟨⟨b2i ((isS v) && (decide ((nI 0) ≤ w ∧ w ≤ (nI 4095)))), th'_8, rfl, ⟨rfl, hw_5⟩, by rw [ht]; exact hP9, va_K.moved hW.alike hK9, hD9⟩, hS.F ht⟩) hS.2.2 dX8_isRight_16
set_option maxHeartbeats 4000000 in
set_option maxRecDepth 100000 in
/-- reference: has -/
theorem c_X8_has (l : Launch) (dC : Nat → ClassId) (dI : Nat → Nat → Nat) (q : Nat) (mq : Nat) (zq : Nat) (sq : Nat) (bq : Nat) (cq : Nat) (pq : Nat) (cZ : ClassId) (cI : ClassId) (cJ : ClassId) (fM : Nat → Int32) (fS : Nat → Int32) (fP : Nat → Int32) (fB : Nat → Int32) (fC : Nat → Int64) (sm : Int64) (fT : Nat → Int32) (ps : Int32) (th : Int32) (M : Nat → Nat → Bool) (k : Nat) (x : Nat) (hM : MM fM M) (hk : k < 3) (hxx : x < 4096) : Met l yX8_has wsX8_has ({ frames := 0, cells := 0, slots := 0, locals := 0 }) (va_Pc [.ref q, .int (nI k), .int (nI x)] (fun U => va_P (dC, dI) vwCl [(q, .inr (7, [.ref mq, .ref zq, .ref sq, .ref bq, .ref cq, .long sm, .ref pq, .int ps, .int th])), (mq, .inl (cZ, 12288, .inl fM)), (zq, .inl (cI, 3, .inl fS)), (sq, .inl (cI, 6156, .inl fP)), (bq, .inl (cI, 3, .inl fB)), (cq, .inl (cJ, 64, .inr (.inl fC))), (pq, .inl (cI, 8, .inl fT))] U.heap ∧ va_K (dC, dI) vwCl [(cZ, .boolean), (cI, .int), (cJ, .long)] U)) (vp_Si (fun r => r = b2i (M k x))) 0 0 (fun _ => False) := by
  refine Met.ofW (cc := cX8_has) (maxL := 3) (ret := (some .boolean)) (by decide) rfl ?_
  intro p e s m args below meth c s₁ B hml hv
  obtain ⟨rfl, hP, hK⟩ := hv
  have hx := B.exec
  have hb := B.bytes
  have hr := B.returns
  have hts := atoms_spec (ws := wsX8_has) B.pre
  have hown : s.vm.findClass RX8 = some m.cls := findClass_of_methodNamed B.named
  have hlocks := B.notSynchronized
  have hP : va_P (dC, dI) vwCl [(q, .inr (7, [.ref mq, .ref zq, .ref sq, .ref bq, .ref cq, .long sm, .ref pq, .int ps, .int th])), (mq, .inl (cZ, 12288, .inl fM)), (zq, .inl (cI, 3, .inl fS)), (sq, .inl (cI, 6156, .inl fP)), (bq, .inl (cI, 3, .inl fB)), (cq, .inl (cJ, 64, .inr (.inl fC))), (pq, .inl (cI, 8, .inl fT))] s.heap := hP
  have hl := lv_entry ([.ref q, .int (nI k), .int (nI x)]) (n := 3) (Nat.le_of_ble_eq_true rfl)
  rw [lg_entry_eq]
  generalize (lg_sl ([.ref q, .int (nI k), .int (nI x)]) ++ List.replicate (3 - (lg_sl ([.ref q, .int (nI k), .int (nI x)])).length) Slot.unset).toArray = ls at hl ⊢
  have hl : lv_has ls 3 [(0, .ref q), (1, .int (nI k)), (2, .int (nI x))] := hl
  refine lv_aload_n hx hb dX8_has_0 rfl (lv_at hl 0 rfl) ?_
  refine va_get (D := (dC, dI)) (ci := 7) (v := .ref mq) (C := RX8) (T := TX8) (N := 9) hx hb hts (by decide +kernel) hown hK hP 0 rfl rfl 0 (by decide) (hts (.fieldLink RX8 7 "SmallNumberSetsModel" "member" "[Z") (by decide +kernel)) (fun _ h9 => h9) rfl dX8_has_1 ?_
  refine lv_sipush (v := nI 4096) hx hb dX8_has_4 (by decide +kernel) ?_
  refine lv_iload_n hx hb dX8_has_7 rfl (lv_at hl 1 rfl) ?_
  refine lv_imul hx hb dX8_has_8 ?_
  refine lv_cvi (pk_mul _ _) ?_
  refine lv_iload_n hx hb dX8_has_9 rfl (lv_at hl 2 rfl) ?_
  refine lv_iadd hx hb dX8_has_10 ?_
  refine lv_cvi (nI_add _ _) ?_
  refine va_zald hx hb hK hP 1 0 rfl rfl (vp_in_nI (by omega) (by omega)) dX8_has_11 ?_
  refine lv_cvi (congrArg fM (nI_clamp (by omega))) ?_
  refine lv_cvi (hM k hk x hxx) ?_
  exact W.zret (v := b2i (M k x)) hx hb hr (b2i_nar _) (fun t9 ht hW => ⟨b2i (M k x), rfl, rfl, ht⟩) (fun q h => by cases h) dX8_has_12
set_option maxHeartbeats 4000000 in
set_option maxRecDepth 100000 in
/-- reference: separatorOf -/
theorem c_X8_separatorOf (l : Launch) (dC : Nat → ClassId) (dI : Nat → Nat → Nat) (q : Nat) (mq : Nat) (zq : Nat) (sq : Nat) (bq : Nat) (cq : Nat) (pq : Nat) (cZ : ClassId) (cI : ClassId) (cJ : ClassId) (fM : Nat → Int32) (fS : Nat → Int32) (fP : Nat → Int32) (fB : Nat → Int32) (fC : Nat → Int64) (sm : Int64) (fT : Nat → Int32) (ps : Int32) (th : Int32) (P : Nat → Nat → Bool) (k : Nat) (b : Nat) (hX : MX fP fB P) (hk : k < 3) (hb9 : b ≤ fb_ct (P k) 4096) : Met l yX8_separatorOf wsX8_separatorOf ({ frames := 0, cells := 0, slots := 0, locals := 0 }) (va_Pc [.ref q, .int (nI k), .int (nI b)] (fun U => va_P (dC, dI) vwCl [(q, .inr (7, [.ref mq, .ref zq, .ref sq, .ref bq, .ref cq, .long sm, .ref pq, .int ps, .int th])), (mq, .inl (cZ, 12288, .inl fM)), (zq, .inl (cI, 3, .inl fS)), (sq, .inl (cI, 6156, .inl fP)), (bq, .inl (cI, 3, .inl fB)), (cq, .inl (cJ, 64, .inr (.inl fC))), (pq, .inl (cI, 8, .inl fT))] U.heap ∧ va_K (dC, dI) vwCl [(cZ, .boolean), (cI, .int), (cJ, .long)] U)) (vp_Si (fun r => r = nI (sepm (P k) b))) 0 0 (fun _ => False) := by
  refine Met.ofW (cc := cX8_separatorOf) (maxL := 3) (ret := (some .int)) (by decide) rfl ?_
  intro p e s m args below meth c s₁ B hml hv
  obtain ⟨rfl, hP, hK⟩ := hv
  have hx := B.exec
  have hb := B.bytes
  have hr := B.returns
  have hts := atoms_spec (ws := wsX8_separatorOf) B.pre
  have hown : s.vm.findClass RX8 = some m.cls := findClass_of_methodNamed B.named
  have hlocks := B.notSynchronized
  have hP : va_P (dC, dI) vwCl [(q, .inr (7, [.ref mq, .ref zq, .ref sq, .ref bq, .ref cq, .long sm, .ref pq, .int ps, .int th])), (mq, .inl (cZ, 12288, .inl fM)), (zq, .inl (cI, 3, .inl fS)), (sq, .inl (cI, 6156, .inl fP)), (bq, .inl (cI, 3, .inl fB)), (cq, .inl (cJ, 64, .inr (.inl fC))), (pq, .inl (cI, 8, .inl fT))] s.heap := hP
  have hl := lv_entry ([.ref q, .int (nI k), .int (nI b)]) (n := 3) (Nat.le_of_ble_eq_true rfl)
  rw [lg_entry_eq]
  generalize (lg_sl ([.ref q, .int (nI k), .int (nI b)]) ++ List.replicate (3 - (lg_sl ([.ref q, .int (nI k), .int (nI b)])).length) Slot.unset).toArray = ls at hl ⊢
  have hl : lv_has ls 3 [(0, .ref q), (1, .int (nI k)), (2, .int (nI b))] := hl
  have hcnt := (hX k hk).2.2.2
  refine lv_iload_n hx hb dX8_separatorOf_0 rfl (lv_at hl 2 rfl) ?_
  refine lv_aload_n hx hb dX8_separatorOf_1 rfl (lv_at hl 0 rfl) ?_
  refine va_get (D := (dC, dI)) (ci := 7) (v := .ref bq) (C := RX8) (T := TX8) (N := 9) hx hb hts (by decide +kernel) hown hK hP 0 rfl rfl 3 (by decide) (hts (.fieldLink RX8 20 "SmallNumberSetsModel" "buckets" "[I") (by decide +kernel)) (fun _ h9 => h9) rfl dX8_separatorOf_2 ?_
  refine lv_iload_n hx hb dX8_separatorOf_5 rfl (lv_at hl 1 rfl) ?_
  refine va_iald hx hb hK hP 4 1 rfl rfl (vp_in_nI (by omega) (by omega)) dX8_separatorOf_6 ?_
  refine lv_cvi (congrArg fB (nI_clamp (by omega))) ?_
  refine lv_cvi ((hX k hk).1) ?_
  refine lv_icmp_ne (tgt := 16) hx hb dX8_separatorOf_7 (by decide) (fun qc_1 => ?_) (fun qc_1 => ?_)
  · have c_1 : ¬ b = (fb_ct (P k) 4096) := fun h9 => qc_1 ((nI_eq (a := b) (b := fb_ct (P k) 4096) (by omega) (by omega)).mpr h9)
    refine lv_aload_n hx hb dX8_separatorOf_16 rfl (lv_at hl 0 rfl) ?_
    refine va_get (D := (dC, dI)) (ci := 7) (v := .ref sq) (C := RX8) (T := TX8) (N := 9) hx hb hts (by decide +kernel) hown hK hP 0 rfl rfl 2 (by decide) (hts (.fieldLink RX8 17 "SmallNumberSetsModel" "separators" "[I") (by decide +kernel)) (fun _ h9 => h9) rfl dX8_separatorOf_17 ?_
    refine lv_sipush (v := nI 2052) hx hb dX8_separatorOf_20 (by decide +kernel) ?_
    refine lv_iload_n hx hb dX8_separatorOf_23 rfl (lv_at hl 1 rfl) ?_
    refine lv_imul hx hb dX8_separatorOf_24 ?_
    refine lv_cvi (pk_mul _ _) ?_
    refine lv_iload_n hx hb dX8_separatorOf_25 rfl (lv_at hl 2 rfl) ?_
    refine lv_iadd hx hb dX8_separatorOf_26 ?_
    refine lv_cvi (nI_add _ _) ?_
    refine va_iald hx hb hK hP 3 1 rfl rfl (vp_in_nI (by omega) (by omega)) dX8_separatorOf_27 ?_
    refine lv_cvi (congrArg fP (nI_clamp (by omega))) ?_
    refine lv_cvi ((hX k hk).2.1 b (by omega)) ?_
    exact W.iret (v := nI (sp (P k) b)) hx hb hr (fun t9 ht hW => ⟨nI (sp (P k) b), rfl, congrArg nI (by unfold sepm; rw [if_neg c_1]), ht⟩) (fun q h => by cases h) dX8_separatorOf_28
  · have c_1 : b = (fb_ct (P k) 4096) := (nI_eq (a := b) (b := fb_ct (P k) 4096) (by omega) (by omega)).mp qc_1
    refine lv_sipush (v := nI 4096) hx hb dX8_separatorOf_10 (by decide +kernel) ?_
    refine lv_goto (tgt := 28) hx hb dX8_separatorOf_13 (by decide) ?_
    exact W.iret (v := nI 4096) hx hb hr (fun t9 ht hW => ⟨nI 4096, rfl, congrArg nI (by unfold sepm; rw [if_pos c_1]), ht⟩) (fun q h => by cases h) dX8_separatorOf_28
set_option maxHeartbeats 4000000 in
set_option maxRecDepth 100000 in
/-- reference: belongs -/
theorem c_X8_belongs (l : Launch) (dC : Nat → ClassId) (dI : Nat → Nat → Nat) (q : Nat) (mq : Nat) (zq : Nat) (sq : Nat) (bq : Nat) (cq : Nat) (pq : Nat) (cZ : ClassId) (cI : ClassId) (cJ : ClassId) (fM : Nat → Int32) (fS : Nat → Int32) (fP : Nat → Int32) (fB : Nat → Int32) (fC : Nat → Int64) (sm : Int64) (fT : Nat → Int32) (ps : Int32) (th : Int32) (P : Nat → Nat → Bool) (k : Nat) (x : Nat) (hX : MX fP fB P) (hk : k < 3) (hxx : x < 4096) : Met l yX8_belongs wsX8_belongs ({ frames := 1, cells := 0, slots := 0, locals := 22 }) (va_Pc [.ref q, .int (nI k), .int (nI x)] (fun U => va_P (dC, dI) vwCl [(q, .inr (7, [.ref mq, .ref zq, .ref sq, .ref bq, .ref cq, .long sm, .ref pq, .int ps, .int th])), (mq, .inl (cZ, 12288, .inl fM)), (zq, .inl (cI, 3, .inl fS)), (sq, .inl (cI, 6156, .inl fP)), (bq, .inl (cI, 3, .inl fB)), (cq, .inl (cJ, 64, .inr (.inl fC))), (pq, .inl (cI, 8, .inl fT))] U.heap ∧ va_K (dC, dI) vwCl [(cZ, .boolean), (cI, .int), (cJ, .long)] U)) (vp_Si (fun r => r = nI (bk (P k) x))) 0 0 (fun _ => False) := by
  refine Met.ofW (cc := cX8_belongs) (maxL := 4) (ret := (some .int)) (by decide) rfl ?_
  intro p e s m args below meth c s₁ B hml hv
  obtain ⟨rfl, hP, hK⟩ := hv
  have hx := B.exec
  have hb := B.bytes
  have hr := B.returns
  have hts := atoms_spec (ws := wsX8_belongs) B.pre
  have hown : s.vm.findClass RX8 = some m.cls := findClass_of_methodNamed B.named
  have hlocks := B.notSynchronized
  have hP : va_P (dC, dI) vwCl [(q, .inr (7, [.ref mq, .ref zq, .ref sq, .ref bq, .ref cq, .long sm, .ref pq, .int ps, .int th])), (mq, .inl (cZ, 12288, .inl fM)), (zq, .inl (cI, 3, .inl fS)), (sq, .inl (cI, 6156, .inl fP)), (bq, .inl (cI, 3, .inl fB)), (cq, .inl (cJ, 64, .inr (.inl fC))), (pq, .inl (cI, 8, .inl fT))] s.heap := hP
  have hl := lv_entry ([.ref q, .int (nI k), .int (nI x)]) (n := 4) (Nat.le_of_ble_eq_true rfl)
  rw [lg_entry_eq]
  generalize (lg_sl ([.ref q, .int (nI k), .int (nI x)]) ++ List.replicate (4 - (lg_sl ([.ref q, .int (nI k), .int (nI x)])).length) Slot.unset).toArray = ls at hl ⊢
  have hl : lv_has ls 4 [(0, .ref q), (1, .int (nI k)), (2, .int (nI x))] := hl
  have hcnt := (hX k hk).2.2.2
  have h0c := ct_0 (hX k hk).2.2.1 4095
  have hsp0 := sp_0 (hX k hk).2.2.1
  refine lv_iconst (v := nI 0) hx hb dX8_belongs_0 (by decide +kernel) ?_
  refine lv_istore_n (lv' := [(3, .int (nI 0)), (0, .ref q), (1, .int (nI k)), (2, .int (nI x))]) hx hb dX8_belongs_1 rfl hl (by decide) rfl (fun ls hl => ?_)
  have key_2_1 : ∀ (fu : Nat) (b : Nat) (hb1 : b < fb_ct (P k) 4096) (hb2 : sp (P k) b ≤ x) (hfu : fb_ct (P k) 4096 - b < fu) (ls : Array Slot) (hl : lv_has ls 4 [(3, .int (nI b)), (0, .ref q), (1, .int (nI k)), (2, .int (nI x))]), W p l e (headSpec wsX8_belongs ({ frames := 1, cells := 0, slots := 0, locals := 22 })).room s m ([.ref q, .int (nI k), .int (nI x)] : List Value).toArray below meth c s.heap [] 0 0 (MQ below (vp_Si (fun r => r = nI (bk (P k) x))) ([.ref q, .int (nI k), .int (nI x)] : List Value).toArray s 0 0 (fun _ => False)) (F0 m 2 ls []) := by
    intro fu
    induction fu with
    | zero =>
      intro b hb1 hb2 hfu ls hl
      exact absurd hfu (Nat.not_lt_zero _)
    | succ fu ih =>
      intro b hb1 hb2 hfu ls hl
      refine lv_aload_n hx hb dX8_belongs_2 rfl (lv_at hl 1 rfl) ?_
      refine lv_iload_n hx hb dX8_belongs_3 rfl (lv_at hl 2 rfl) ?_
      refine lv_iload_n hx hb dX8_belongs_4 rfl (lv_at hl 0 rfl) ?_
      refine lv_iconst (v := nI 1) hx hb dX8_belongs_5 (by decide +kernel) ?_
      refine lv_iadd hx hb dX8_belongs_6 ?_
      refine lv_cvi (nI_add _ _) ?_
      have hPc := hP.sub (ws' := [(q, .inr (7, [.ref mq, .ref zq, .ref sq, .ref bq, .ref cq, .long sm, .ref pq, .int ps, .int th])), (mq, .inl (cZ, 12288, .inl fM)), (zq, .inl (cI, 3, .inl fS)), (sq, .inl (cI, 6156, .inl fP)), (bq, .inl (cI, 3, .inl fB)), (cq, .inl (cJ, 64, .inr (.inl fC))), (pq, .inl (cI, 8, .inl fT))]) [0, 1, 2, 3, 4, 5, 6] rfl
      have hKc := hK.sub (tys' := [(cZ, .boolean), (cI, .int), (cJ, .long)]) [0, 1, 2] rfl
      refine vp_callSi (W.runV (As := [.int (nI k), .int (nI (b + 1))]) (rest := []) ⟨hx, hb, hml, hown, hts⟩ (c_X8_separatorOf l dC dI q mq zq sq bq cq pq cZ cI cJ fM fS fP fB fC sm fT ps th P k (b + 1) (by first | assumption | omega) (by first | assumption | omega) (by first | assumption | omega)) (cwV 2 hts gX8_belongs_X8_separatorOf rfl rfl rfl (by decide +kernel) ⟨Nat.le_of_ble_eq_true rfl, Nat.le_of_ble_eq_true rfl⟩) ⟨fun a U g mk q => by obtain ⟨q0, qP, qK⟩ := q; exact ⟨q0, qP, va_K.moved (u := U) (U := U.calling g mk a) (Vm.Alike.refl U.vm) qK⟩, va_recv hKc hPc (ci := 7) (q0 := 0) rfl rfl, fun U hU hW => ⟨rfl, by rw [hU]; exact hPc, va_K.moved hW.alike hKc⟩⟩ rfl rfl hl.1 rfl (lv_room (Nat.le_of_ble_eq_true rfl)) dX8_belongs_7 ⟨Nat.le_of_ble_eq_true rfl, Nat.le_of_ble_eq_true rfl⟩) (fun r_3 hw_2 => ?_)
      subst hw_2
      have hsm := sepm_le (P k) (b + 1)
      refine lv_iload_n hx hb dX8_belongs_10 rfl (lv_at hl 3 rfl) ?_
      refine lv_icmp_gt (tgt := 20) hx hb dX8_belongs_11 (by decide) (fun qc_4 => ?_) (fun qc_4 => ?_)
      · have c_4 : x < (sepm (P k) (b + 1)) := (nI_ltI (a := x) (b := sepm (P k) (b + 1)) (by omega) (by omega)).mp qc_4
        refine lv_iload_n hx hb dX8_belongs_20 rfl (lv_at hl 0 rfl) ?_
        exact W.iret (v := nI b) hx hb hr (fun t9 ht hW => ⟨nI b, rfl, congrArg nI (bk_of hb1 hb2 (by omega) hxx), ht⟩) (fun q h => by cases h) dX8_belongs_21
      · have c_4 : ¬ x < (sepm (P k) (b + 1)) := fun h9 => qc_4 ((nI_ltI (a := x) (b := sepm (P k) (b + 1)) (by omega) (by omega)).mpr h9)
        have hb3 : b + 1 < fb_ct (P k) 4096 := by
          rcases Nat.lt_or_ge (b + 1) (fb_ct (P k) 4096) with q9 | q9
          · exact q9
          · have e9 : sepm (P k) (b + 1) = 4096 := if_pos (by omega)
            omega
        refine lv_iinc (v := nI (b + 1)) (lv' := [(3, .int (nI (b + 1))), (0, .ref q), (1, .int (nI k)), (2, .int (nI x))]) hx hb dX8_belongs_14 hl (k := 0) rfl (nI_1 _) (by decide) rfl (fun ls hl => ?_)
        refine lv_goto (tgt := 2) hx hb dX8_belongs_17 (by decide) ?_
        exact ih (b + 1) hb3 (by rw [← sepm_lt hb3]; omega) (by omega) ls (lv_sub hl [0, 1, 2, 3] rfl)
  exact key_2_1 _ 0 h0c (by omega) (Nat.lt_succ_self _) ls (lv_sub hl [0, 1, 2, 3] rfl)
set_option maxHeartbeats 4000000 in
set_option maxRecDepth 100000 in
/-- reference: held -/
theorem c_X8_held (l : Launch) (dC : Nat → ClassId) (dI : Nat → Nat → Nat) (q : Nat) (mq : Nat) (zq : Nat) (sq : Nat) (bq : Nat) (cq : Nat) (pq : Nat) (cZ : ClassId) (cI : ClassId) (cJ : ClassId) (fM : Nat → Int32) (fS : Nat → Int32) (fP : Nat → Int32) (fB : Nat → Int32) (fC : Nat → Int64) (sm : Int64) (fT : Nat → Int32) (ps : Int32) (th : Int32) (M : Nat → Nat → Bool) (P : Nat → Nat → Bool) (k : Nat) (b : Nat) (hM : MM fM M) (hX : MX fP fB P) (hk : k < 3) (hb9 : b < fb_ct (P k) 4096) : Met l yX8_held wsX8_held ({ frames := 1, cells := 0, slots := 0, locals := 22 }) (va_Pc [.ref q, .int (nI k), .int (nI b)] (fun U => va_P (dC, dI) vwCl [(q, .inr (7, [.ref mq, .ref zq, .ref sq, .ref bq, .ref cq, .long sm, .ref pq, .int ps, .int th])), (mq, .inl (cZ, 12288, .inl fM)), (zq, .inl (cI, 3, .inl fS)), (sq, .inl (cI, 6156, .inl fP)), (bq, .inl (cI, 3, .inl fB)), (cq, .inl (cJ, 64, .inr (.inl fC))), (pq, .inl (cI, 8, .inl fT))] U.heap ∧ va_K (dC, dI) vwCl [(cZ, .boolean), (cI, .int), (cJ, .long)] U)) (vp_Si (fun r => r = nI (heldc (M k) (P k) (sp (P k) b)))) 0 0 (fun _ => False) := by
  refine Met.ofW (cc := cX8_held) (maxL := 5) (ret := (some .int)) (by decide) rfl ?_
  intro p e s m args below meth c s₁ B hml hv
  obtain ⟨rfl, hP, hK⟩ := hv
  have hx := B.exec
  have hb := B.bytes
  have hr := B.returns
  have hts := atoms_spec (ws := wsX8_held) B.pre
  have hown : s.vm.findClass RX8 = some m.cls := findClass_of_methodNamed B.named
  have hlocks := B.notSynchronized
  have hP : va_P (dC, dI) vwCl [(q, .inr (7, [.ref mq, .ref zq, .ref sq, .ref bq, .ref cq, .long sm, .ref pq, .int ps, .int th])), (mq, .inl (cZ, 12288, .inl fM)), (zq, .inl (cI, 3, .inl fS)), (sq, .inl (cI, 6156, .inl fP)), (bq, .inl (cI, 3, .inl fB)), (cq, .inl (cJ, 64, .inr (.inl fC))), (pq, .inl (cI, 8, .inl fT))] s.heap := hP
  have hl := lv_entry ([.ref q, .int (nI k), .int (nI b)]) (n := 5) (Nat.le_of_ble_eq_true rfl)
  rw [lg_entry_eq]
  generalize (lg_sl ([.ref q, .int (nI k), .int (nI b)]) ++ List.replicate (5 - (lg_sl ([.ref q, .int (nI k), .int (nI b)])).length) Slot.unset).toArray = ls at hl ⊢
  have hl : lv_has ls 5 [(0, .ref q), (1, .int (nI k)), (2, .int (nI b))] := hl
  have hcnt := (hX k hk).2.2.2
  have hs1 := sepm_le (P k) b
  have hs2 := sepm_le (P k) (b + 1)
  have hs3 := (nsep_le (P := P k) (sp_lt' (P k) b)).1
  rw [nsep_sp hb9, ← sepm_lt hb9] at hs3
  refine lv_iconst (v := nI 0) hx hb dX8_held_0 (by decide +kernel) ?_
  refine lv_istore_n (lv' := [(3, .int (nI 0)), (0, .ref q), (1, .int (nI k)), (2, .int (nI b))]) hx hb dX8_held_1 rfl hl (by decide) rfl (fun ls hl => ?_)
  refine lv_aload_n hx hb dX8_held_2 rfl (lv_at hl 1 rfl) ?_
  refine lv_iload_n hx hb dX8_held_3 rfl (lv_at hl 2 rfl) ?_
  refine lv_iload_n hx hb dX8_held_4 rfl (lv_at hl 3 rfl) ?_
  have hPc := hP.sub (ws' := [(q, .inr (7, [.ref mq, .ref zq, .ref sq, .ref bq, .ref cq, .long sm, .ref pq, .int ps, .int th])), (mq, .inl (cZ, 12288, .inl fM)), (zq, .inl (cI, 3, .inl fS)), (sq, .inl (cI, 6156, .inl fP)), (bq, .inl (cI, 3, .inl fB)), (cq, .inl (cJ, 64, .inr (.inl fC))), (pq, .inl (cI, 8, .inl fT))]) [0, 1, 2, 3, 4, 5, 6] rfl
  have hKc := hK.sub (tys' := [(cZ, .boolean), (cI, .int), (cJ, .long)]) [0, 1, 2] rfl
  refine vp_callSi (W.runV (As := [.int (nI k), .int (nI b)]) (rest := []) ⟨hx, hb, hml, hown, hts⟩ (c_X8_separatorOf l dC dI q mq zq sq bq cq pq cZ cI cJ fM fS fP fB fC sm fT ps th P k b (by first | assumption | omega) (by first | assumption | omega) (by first | assumption | omega)) (cwV 2 hts gX8_held_X8_separatorOf rfl rfl rfl (by decide +kernel) ⟨Nat.le_of_ble_eq_true rfl, Nat.le_of_ble_eq_true rfl⟩) ⟨fun a U g mk q => by obtain ⟨q0, qP, qK⟩ := q; exact ⟨q0, qP, va_K.moved (u := U) (U := U.calling g mk a) (Vm.Alike.refl U.vm) qK⟩, va_recv hKc hPc (ci := 7) (q0 := 0) rfl rfl, fun U hU hW => ⟨rfl, by rw [hU]; exact hPc, va_K.moved hW.alike hKc⟩⟩ rfl rfl hl.1 rfl (lv_room (Nat.le_of_ble_eq_true rfl)) dX8_held_5 ⟨Nat.le_of_ble_eq_true rfl, Nat.le_of_ble_eq_true rfl⟩) (fun r_2 hw_1 => ?_)
  subst hw_1
  refine lv_istore (lv' := [(4, .int (nI (sepm (P k) b))), (3, .int (nI 0)), (0, .ref q), (1, .int (nI k)), (2, .int (nI b))]) hx hb dX8_held_8 hl (by decide) rfl (fun ls hl => ?_)
  have key_10_3 : ∀ (fu : Nat) (i : Nat) (t : Nat) (hi1 : i ≤ sepm (P k) (b + 1)) (hti : t + fb_ct (M k) (sepm (P k) b) = fb_ct (M k) i) (hfu : sepm (P k) (b + 1) - i < fu) (ls : Array Slot) (hl : lv_has ls 5 [(4, .int (nI i)), (3, .int (nI t)), (0, .ref q), (1, .int (nI k)), (2, .int (nI b))]), W p l e (headSpec wsX8_held ({ frames := 1, cells := 0, slots := 0, locals := 22 })).room s m ([.ref q, .int (nI k), .int (nI b)] : List Value).toArray below meth c s.heap [] 0 0 (MQ below (vp_Si (fun r => r = nI (heldc (M k) (P k) (sp (P k) b)))) ([.ref q, .int (nI k), .int (nI b)] : List Value).toArray s 0 0 (fun _ => False)) (F0 m 10 ls []) := by
    intro fu
    induction fu with
    | zero =>
      intro i t hi1 hti hfu ls hl
      exact absurd hfu (Nat.not_lt_zero _)
    | succ fu ih =>
      intro i t hi1 hti hfu ls hl
      refine lv_iload hx hb dX8_held_10 (lv_at hl 0 rfl) ?_
      refine lv_aload_n hx hb dX8_held_12 rfl (lv_at hl 2 rfl) ?_
      refine lv_iload_n hx hb dX8_held_13 rfl (lv_at hl 3 rfl) ?_
      refine lv_iload_n hx hb dX8_held_14 rfl (lv_at hl 4 rfl) ?_
      refine lv_iconst (v := nI 1) hx hb dX8_held_15 (by decide +kernel) ?_
      refine lv_iadd hx hb dX8_held_16 ?_
      refine lv_cvi (nI_add _ _) ?_
      have hPc := hP.sub (ws' := [(q, .inr (7, [.ref mq, .ref zq, .ref sq, .ref bq, .ref cq, .long sm, .ref pq, .int ps, .int th])), (mq, .inl (cZ, 12288, .inl fM)), (zq, .inl (cI, 3, .inl fS)), (sq, .inl (cI, 6156, .inl fP)), (bq, .inl (cI, 3, .inl fB)), (cq, .inl (cJ, 64, .inr (.inl fC))), (pq, .inl (cI, 8, .inl fT))]) [0, 1, 2, 3, 4, 5, 6] rfl
      have hKc := hK.sub (tys' := [(cZ, .boolean), (cI, .int), (cJ, .long)]) [0, 1, 2] rfl
      refine vp_callSi (W.runV (As := [.int (nI k), .int (nI (b + 1))]) (rest := [.int (nI i)]) ⟨hx, hb, hml, hown, hts⟩ (c_X8_separatorOf l dC dI q mq zq sq bq cq pq cZ cI cJ fM fS fP fB fC sm fT ps th P k (b + 1) (by first | assumption | omega) (by first | assumption | omega) (by first | assumption | omega)) (cwV 2 hts gX8_held_X8_separatorOf rfl rfl rfl (by decide +kernel) ⟨Nat.le_of_ble_eq_true rfl, Nat.le_of_ble_eq_true rfl⟩) ⟨fun a U g mk q => by obtain ⟨q0, qP, qK⟩ := q; exact ⟨q0, qP, va_K.moved (u := U) (U := U.calling g mk a) (Vm.Alike.refl U.vm) qK⟩, va_recv hKc hPc (ci := 7) (q0 := 0) rfl rfl, fun U hU hW => ⟨rfl, by rw [hU]; exact hPc, va_K.moved hW.alike hKc⟩⟩ rfl rfl hl.1 rfl (lv_room (Nat.le_of_ble_eq_true rfl)) dX8_held_17 ⟨Nat.le_of_ble_eq_true rfl, Nat.le_of_ble_eq_true rfl⟩) (fun r_5 hw_4 => ?_)
      subst hw_4
      refine lv_icmp_ge (tgt := 47) hx hb dX8_held_20 (by decide) (fun qc_6 => ?_) (fun qc_6 => ?_)
      · have c_6 : (sepm (P k) (b + 1)) ≤ i := (nI_leI (a := sepm (P k) (b + 1)) (b := i) (by omega) (by omega)).mp qc_6
        refine lv_iload_n hx hb dX8_held_47 rfl (lv_at hl 1 rfl) ?_
        exact W.iret (v := nI t) hx hb hr (fun t9 ht hW => ⟨nI t, rfl, congrArg nI (held_end hb9 hti (by omega)), ht⟩) (fun q h => by cases h) dX8_held_48
      · have c_6 : ¬ (sepm (P k) (b + 1)) ≤ i := fun h9 => qc_6 ((nI_leI (a := sepm (P k) (b + 1)) (b := i) (by omega) (by omega)).mpr h9)
        refine lv_iload_n hx hb dX8_held_23 rfl (lv_at hl 1 rfl) ?_
        refine lv_aload_n hx hb dX8_held_24 rfl (lv_at hl 2 rfl) ?_
        refine lv_iload_n hx hb dX8_held_25 rfl (lv_at hl 3 rfl) ?_
        refine lv_iload hx hb dX8_held_26 (lv_at hl 0 rfl) ?_
        have hPc := hP.sub (ws' := [(q, .inr (7, [.ref mq, .ref zq, .ref sq, .ref bq, .ref cq, .long sm, .ref pq, .int ps, .int th])), (mq, .inl (cZ, 12288, .inl fM)), (zq, .inl (cI, 3, .inl fS)), (sq, .inl (cI, 6156, .inl fP)), (bq, .inl (cI, 3, .inl fB)), (cq, .inl (cJ, 64, .inr (.inl fC))), (pq, .inl (cI, 8, .inl fT))]) [0, 1, 2, 3, 4, 5, 6] rfl
        have hKc := hK.sub (tys' := [(cZ, .boolean), (cI, .int), (cJ, .long)]) [0, 1, 2] rfl
        refine vp_callSi (W.runV (As := [.int (nI k), .int (nI i)]) (rest := [.int (nI t)]) ⟨hx, hb, hml, hown, hts⟩ (c_X8_has l dC dI q mq zq sq bq cq pq cZ cI cJ fM fS fP fB fC sm fT ps th M k i (by first | assumption | omega) (by first | assumption | omega) (by first | assumption | omega)) (cwV 2 hts gX8_held_X8_has rfl rfl rfl (by decide +kernel) ⟨Nat.le_of_ble_eq_true rfl, Nat.le_of_ble_eq_true rfl⟩) ⟨fun a U g mk q => by obtain ⟨q0, qP, qK⟩ := q; exact ⟨q0, qP, va_K.moved (u := U) (U := U.calling g mk a) (Vm.Alike.refl U.vm) qK⟩, va_recv hKc hPc (ci := 7) (q0 := 0) rfl rfl, fun U hU hW => ⟨rfl, by rw [hU]; exact hPc, va_K.moved hW.alike hKc⟩⟩ rfl rfl hl.1 rfl (lv_room (Nat.le_of_ble_eq_true rfl)) dX8_held_28 ⟨Nat.le_of_ble_eq_true rfl, Nat.le_of_ble_eq_true rfl⟩) (fun r_8 hw_7 => ?_)
        subst hw_7
        refine lv_if_eq (tgt := 38) hx hb dX8_held_31 (by decide) (fun qc_9 => ?_) (fun qc_9 => ?_)
        · have c_9 : (M k i) = false := b2i_f qc_9
          refine lv_iconst (v := nI 0) hx hb dX8_held_38 (by decide +kernel) ?_
          refine lv_iadd hx hb dX8_held_39 ?_
          refine lv_cvi (nI_add _ _) ?_
          refine lv_istore_n (lv' := [(3, .int (nI (t + 0))), (4, .int (nI i)), (0, .ref q), (1, .int (nI k)), (2, .int (nI b))]) hx hb dX8_held_40 rfl hl (by decide) rfl (fun ls hl => ?_)
          refine lv_iinc (v := nI (i + 1)) (lv' := [(4, .int (nI (i + 1))), (3, .int (nI (t + 0))), (0, .ref q), (1, .int (nI k)), (2, .int (nI b))]) hx hb dX8_held_41 hl (k := 1) rfl (nI_1 _) (by decide) rfl (fun ls hl => ?_)
          refine lv_goto (tgt := 10) hx hb dX8_held_44 (by decide) ?_
          exact ih (i + 1) (t + 0) (by omega) (ct_un hti c_9) (by omega) ls (lv_sub hl [0, 1, 2, 3, 4] rfl)
        · have c_9 : (M k i) = true := b2i_t qc_9
          refine lv_iconst (v := nI 1) hx hb dX8_held_34 (by decide +kernel) ?_
          refine lv_goto (tgt := 39) hx hb dX8_held_35 (by decide) ?_
          refine lv_iadd hx hb dX8_held_39 ?_
          refine lv_cvi (nI_add _ _) ?_
          refine lv_istore_n (lv' := [(3, .int (nI (t + 1))), (4, .int (nI i)), (0, .ref q), (1, .int (nI k)), (2, .int (nI b))]) hx hb dX8_held_40 rfl hl (by decide) rfl (fun ls hl => ?_)
          refine lv_iinc (v := nI (i + 1)) (lv' := [(4, .int (nI (i + 1))), (3, .int (nI (t + 1))), (0, .ref q), (1, .int (nI k)), (2, .int (nI b))]) hx hb dX8_held_41 hl (k := 1) rfl (nI_1 _) (by decide) rfl (fun ls hl => ?_)
          refine lv_goto (tgt := 10) hx hb dX8_held_44 (by decide) ?_
          exact ih (i + 1) (t + 1) (by omega) (ct_up hti c_9) (by omega) ls (lv_sub hl [0, 1, 2, 3, 4] rfl)
  exact key_10_3 _ (sepm (P k) b) 0 (by omega) (Nat.zero_add _) (Nat.lt_succ_self _) ls (lv_sub hl [0, 1, 2, 3, 4] rfl)
set_option maxHeartbeats 4000000 in
set_option maxRecDepth 100000 in
/-- reference: nth -/
theorem c_X8_nth (l : Launch) (dC : Nat → ClassId) (dI : Nat → Nat → Nat) (q : Nat) (mq : Nat) (zq : Nat) (sq : Nat) (bq : Nat) (cq : Nat) (pq : Nat) (cZ : ClassId) (cI : ClassId) (cJ : ClassId) (fM : Nat → Int32) (fS : Nat → Int32) (fP : Nat → Int32) (fB : Nat → Int32) (fC : Nat → Int64) (sm : Int64) (fT : Nat → Int32) (ps : Int32) (th : Int32) (M : Nat → Nat → Bool) (P : Nat → Nat → Bool) (k : Nat) (b : Nat) (pl : Nat) (z : Nat) (hM : MM fM M) (hX : MX fP fB P) (hk : k < 3) (hb9 : b < fb_ct (P k) 4096) (hz : kth (M k) (fb_ct (M k) (sp (P k) b) + pl) 4096 = some z) (hpl : pl < 2 ^ 20) : Met l yX8_nth wsX8_nth ({ frames := 1, cells := 0, slots := 0, locals := 22 }) (va_Pc [.ref q, .int (nI k), .int (nI b), .int (nI pl)] (fun U => va_P (dC, dI) vwCl [(q, .inr (7, [.ref mq, .ref zq, .ref sq, .ref bq, .ref cq, .long sm, .ref pq, .int ps, .int th])), (mq, .inl (cZ, 12288, .inl fM)), (zq, .inl (cI, 3, .inl fS)), (sq, .inl (cI, 6156, .inl fP)), (bq, .inl (cI, 3, .inl fB)), (cq, .inl (cJ, 64, .inr (.inl fC))), (pq, .inl (cI, 8, .inl fT))] U.heap ∧ va_K (dC, dI) vwCl [(cZ, .boolean), (cI, .int), (cJ, .long)] U)) (vp_Si (fun r => r = nI z)) 0 0 (fun _ => False) := by
  refine Met.ofW (cc := cX8_nth) (maxL := 6) (ret := (some .int)) (by decide) rfl ?_
  intro p e s m args below meth c s₁ B hml hv
  obtain ⟨rfl, hP, hK⟩ := hv
  have hx := B.exec
  have hb := B.bytes
  have hr := B.returns
  have hts := atoms_spec (ws := wsX8_nth) B.pre
  have hown : s.vm.findClass RX8 = some m.cls := findClass_of_methodNamed B.named
  have hlocks := B.notSynchronized
  have hP : va_P (dC, dI) vwCl [(q, .inr (7, [.ref mq, .ref zq, .ref sq, .ref bq, .ref cq, .long sm, .ref pq, .int ps, .int th])), (mq, .inl (cZ, 12288, .inl fM)), (zq, .inl (cI, 3, .inl fS)), (sq, .inl (cI, 6156, .inl fP)), (bq, .inl (cI, 3, .inl fB)), (cq, .inl (cJ, 64, .inr (.inl fC))), (pq, .inl (cI, 8, .inl fT))] s.heap := hP
  have hl := lv_entry ([.ref q, .int (nI k), .int (nI b), .int (nI pl)]) (n := 6) (Nat.le_of_ble_eq_true rfl)
  rw [lg_entry_eq]
  generalize (lg_sl ([.ref q, .int (nI k), .int (nI b), .int (nI pl)]) ++ List.replicate (6 - (lg_sl ([.ref q, .int (nI k), .int (nI b), .int (nI pl)])).length) Slot.unset).toArray = ls at hl ⊢
  have hl : lv_has ls 6 [(0, .ref q), (1, .int (nI k)), (2, .int (nI b)), (3, .int (nI pl))] := hl
  have hcnt := (hX k hk).2.2.2
  obtain ⟨hz1, hz2, hz3⟩ := kth_some hz
  have hs1 := sp_le_kth hz
  refine lv_aload_n hx hb dX8_nth_0 rfl (lv_at hl 0 rfl) ?_
  refine lv_iload_n hx hb dX8_nth_1 rfl (lv_at hl 1 rfl) ?_
  refine lv_iload_n hx hb dX8_nth_2 rfl (lv_at hl 2 rfl) ?_
  have hPc := hP.sub (ws' := [(q, .inr (7, [.ref mq, .ref zq, .ref sq, .ref bq, .ref cq, .long sm, .ref pq, .int ps, .int th])), (mq, .inl (cZ, 12288, .inl fM)), (zq, .inl (cI, 3, .inl fS)), (sq, .inl (cI, 6156, .inl fP)), (bq, .inl (cI, 3, .inl fB)), (cq, .inl (cJ, 64, .inr (.inl fC))), (pq, .inl (cI, 8, .inl fT))]) [0, 1, 2, 3, 4, 5, 6] rfl
  have hKc := hK.sub (tys' := [(cZ, .boolean), (cI, .int), (cJ, .long)]) [0, 1, 2] rfl
  refine vp_callSi (W.runV (As := [.int (nI k), .int (nI b)]) (rest := []) ⟨hx, hb, hml, hown, hts⟩ (c_X8_separatorOf l dC dI q mq zq sq bq cq pq cZ cI cJ fM fS fP fB fC sm fT ps th P k b (by first | assumption | omega) (by first | assumption | omega) (by first | assumption | omega)) (cwV 2 hts gX8_nth_X8_separatorOf rfl rfl rfl (by decide +kernel) ⟨Nat.le_of_ble_eq_true rfl, Nat.le_of_ble_eq_true rfl⟩) ⟨fun a U g mk q => by obtain ⟨q0, qP, qK⟩ := q; exact ⟨q0, qP, va_K.moved (u := U) (U := U.calling g mk a) (Vm.Alike.refl U.vm) qK⟩, va_recv hKc hPc (ci := 7) (q0 := 0) rfl rfl, fun U hU hW => ⟨rfl, by rw [hU]; exact hPc, va_K.moved hW.alike hKc⟩⟩ rfl rfl hl.1 rfl (lv_room (Nat.le_of_ble_eq_true rfl)) dX8_nth_3 ⟨Nat.le_of_ble_eq_true rfl, Nat.le_of_ble_eq_true rfl⟩) (fun r_2 hw_1 => ?_)
  subst hw_1
  refine lv_istore (lv' := [(4, .int (nI (sepm (P k) b))), (0, .ref q), (1, .int (nI k)), (2, .int (nI b)), (3, .int (nI pl))]) hx hb dX8_nth_6 hl (by decide) rfl (fun ls hl => ?_)
  refine lv_iload_n hx hb dX8_nth_8 rfl (lv_at hl 4 rfl) ?_
  refine lv_istore (lv' := [(5, .int (nI pl)), (4, .int (nI (sepm (P k) b))), (0, .ref q), (1, .int (nI k)), (2, .int (nI b)), (3, .int (nI pl))]) hx hb dX8_nth_9 hl (by decide) rfl (fun ls hl => ?_)
  have key_11_3 : ∀ (fu : Nat) (i : Nat) (lf : Nat) (hi1 : i ≤ z) (hl9 : lf + fb_ct (M k) i = fb_ct (M k) (sp (P k) b) + pl) (hfu : 4096 - i < fu) (ls : Array Slot) (hl : lv_has ls 6 [(5, .int (nI lf)), (4, .int (nI i)), (0, .ref q), (1, .int (nI k)), (2, .int (nI b)), (3, .int (nI pl))]), W p l e (headSpec wsX8_nth ({ frames := 1, cells := 0, slots := 0, locals := 22 })).room s m ([.ref q, .int (nI k), .int (nI b), .int (nI pl)] : List Value).toArray below meth c s.heap [] 0 0 (MQ below (vp_Si (fun r => r = nI z)) ([.ref q, .int (nI k), .int (nI b), .int (nI pl)] : List Value).toArray s 0 0 (fun _ => False)) (F0 m 11 ls []) := by
    intro fu
    induction fu with
    | zero =>
      intro i lf hi1 hl9 hfu ls hl
      exact absurd hfu (Nat.not_lt_zero _)
    | succ fu ih =>
      intro i lf hi1 hl9 hfu ls hl
      refine lv_aload_n hx hb dX8_nth_11 rfl (lv_at hl 2 rfl) ?_
      refine lv_iload_n hx hb dX8_nth_12 rfl (lv_at hl 3 rfl) ?_
      refine lv_iload hx hb dX8_nth_13 (lv_at hl 1 rfl) ?_
      have hPc := hP.sub (ws' := [(q, .inr (7, [.ref mq, .ref zq, .ref sq, .ref bq, .ref cq, .long sm, .ref pq, .int ps, .int th])), (mq, .inl (cZ, 12288, .inl fM)), (zq, .inl (cI, 3, .inl fS)), (sq, .inl (cI, 6156, .inl fP)), (bq, .inl (cI, 3, .inl fB)), (cq, .inl (cJ, 64, .inr (.inl fC))), (pq, .inl (cI, 8, .inl fT))]) [0, 1, 2, 3, 4, 5, 6] rfl
      have hKc := hK.sub (tys' := [(cZ, .boolean), (cI, .int), (cJ, .long)]) [0, 1, 2] rfl
      refine vp_callSi (W.runV (As := [.int (nI k), .int (nI i)]) (rest := []) ⟨hx, hb, hml, hown, hts⟩ (c_X8_has l dC dI q mq zq sq bq cq pq cZ cI cJ fM fS fP fB fC sm fT ps th M k i (by first | assumption | omega) (by first | assumption | omega) (by first | assumption | omega)) (cwV 2 hts gX8_nth_X8_has rfl rfl rfl (by decide +kernel) ⟨Nat.le_of_ble_eq_true rfl, Nat.le_of_ble_eq_true rfl⟩) ⟨fun a U g mk q => by obtain ⟨q0, qP, qK⟩ := q; exact ⟨q0, qP, va_K.moved (u := U) (U := U.calling g mk a) (Vm.Alike.refl U.vm) qK⟩, va_recv hKc hPc (ci := 7) (q0 := 0) rfl rfl, fun U hU hW => ⟨rfl, by rw [hU]; exact hPc, va_K.moved hW.alike hKc⟩⟩ rfl rfl hl.1 rfl (lv_room (Nat.le_of_ble_eq_true rfl)) dX8_nth_15 ⟨Nat.le_of_ble_eq_true rfl, Nat.le_of_ble_eq_true rfl⟩) (fun r_5 hw_4 => ?_)
      subst hw_4
      have hct9 := fb_ct_le (M k) i
      have hct8 := fb_ct_le (M k) (sp (P k) b)
      have hct7 := sp_lt' (P k) b
      refine lv_if_eq (tgt := 26) hx hb dX8_nth_18 (by decide) (fun qc_6 => ?_) (fun qc_6 => ?_)
      · have c_6 : (M k i) = false := b2i_f qc_6
        refine lv_iload hx hb dX8_nth_26 (lv_at hl 0 rfl) ?_
        refine lv_aload_n hx hb dX8_nth_28 rfl (lv_at hl 2 rfl) ?_
        refine lv_iload_n hx hb dX8_nth_29 rfl (lv_at hl 3 rfl) ?_
        refine lv_iload hx hb dX8_nth_30 (lv_at hl 1 rfl) ?_
        have hPc := hP.sub (ws' := [(q, .inr (7, [.ref mq, .ref zq, .ref sq, .ref bq, .ref cq, .long sm, .ref pq, .int ps, .int th])), (mq, .inl (cZ, 12288, .inl fM)), (zq, .inl (cI, 3, .inl fS)), (sq, .inl (cI, 6156, .inl fP)), (bq, .inl (cI, 3, .inl fB)), (cq, .inl (cJ, 64, .inr (.inl fC))), (pq, .inl (cI, 8, .inl fT))]) [0, 1, 2, 3, 4, 5, 6] rfl
        have hKc := hK.sub (tys' := [(cZ, .boolean), (cI, .int), (cJ, .long)]) [0, 1, 2] rfl
        refine vp_callSi (W.runV (As := [.int (nI k), .int (nI i)]) (rest := [.int (nI lf)]) ⟨hx, hb, hml, hown, hts⟩ (c_X8_has l dC dI q mq zq sq bq cq pq cZ cI cJ fM fS fP fB fC sm fT ps th M k i (by first | assumption | omega) (by first | assumption | omega) (by first | assumption | omega)) (cwV 2 hts gX8_nth_X8_has rfl rfl rfl (by decide +kernel) ⟨Nat.le_of_ble_eq_true rfl, Nat.le_of_ble_eq_true rfl⟩) ⟨fun a U g mk q => by obtain ⟨q0, qP, qK⟩ := q; exact ⟨q0, qP, va_K.moved (u := U) (U := U.calling g mk a) (Vm.Alike.refl U.vm) qK⟩, va_recv hKc hPc (ci := 7) (q0 := 0) rfl rfl, fun U hU hW => ⟨rfl, by rw [hU]; exact hPc, va_K.moved hW.alike hKc⟩⟩ rfl rfl hl.1 rfl (lv_room (Nat.le_of_ble_eq_true rfl)) dX8_nth_32 ⟨Nat.le_of_ble_eq_true rfl, Nat.le_of_ble_eq_true rfl⟩) (fun r_8 hw_7 => ?_)
        subst hw_7
        refine lv_if_eq (tgt := 42) hx hb dX8_nth_35 (by decide) (fun qc_9 => ?_) (fun qc_9 => ?_)
        · have c_9 : (M k i) = false := b2i_f qc_9
          refine lv_iconst (v := nI 0) hx hb dX8_nth_42 (by decide +kernel) ?_
          refine lv_isub hx hb dX8_nth_43 ?_
          refine lv_cvi (pk_sub (by omega)) ?_
          refine lv_istore (lv' := [(5, .int (nI (lf - 0))), (4, .int (nI i)), (0, .ref q), (1, .int (nI k)), (2, .int (nI b)), (3, .int (nI pl))]) hx hb dX8_nth_44 hl (by decide) rfl (fun ls hl => ?_)
          refine lv_iinc (v := nI (i + 1)) (lv' := [(4, .int (nI (i + 1))), (5, .int (nI (lf - 0))), (0, .ref q), (1, .int (nI k)), (2, .int (nI b)), (3, .int (nI pl))]) hx hb dX8_nth_46 hl (k := 1) rfl (nI_1 _) (by decide) rfl (fun ls hl => ?_)
          refine lv_goto (tgt := 11) hx hb dX8_nth_49 (by decide) ?_
          exact ih (i + 1) (lf - 0) (by
            rcases Nat.lt_or_ge i z with q9 | q9
            · exact q9
            · rw [show i = z by omega, hz2] at c_6
              cases c_6) (by rw [fb_ct_succ, if_neg (by rw [c_6]; decide)]; omega) (by omega) ls (lv_sub hl [1, 0, 2, 3, 4, 5] rfl)
        · have c_9 : (M k i) = true := b2i_t qc_9
          rw [c_6] at c_9
          cases c_9
      · have c_6 : (M k i) = true := b2i_t qc_6
        refine lv_iload hx hb dX8_nth_21 (lv_at hl 0 rfl) ?_
        refine lv_if_le (tgt := 52) hx hb dX8_nth_23 (by decide) (fun qc_10 => ?_) (fun qc_10 => ?_)
        · have c_10 : lf ≤ 0 := (nI_leI (a := lf) (b := 0) (by omega) (by omega)).mp qc_10
          refine lv_iload hx hb dX8_nth_52 (lv_at hl 1 rfl) ?_
          exact W.iret (v := nI i) hx hb hr (fun t9 ht hW => ⟨nI i, rfl, congrArg nI (fb_ct_kth_one c_6 hz2 (by omega)), ht⟩) (fun q h => by cases h) dX8_nth_54
        · have c_10 : ¬ lf ≤ 0 := fun h9 => qc_10 ((nI_leI (a := lf) (b := 0) (by omega) (by omega)).mpr h9)
          refine lv_iload hx hb dX8_nth_26 (lv_at hl 0 rfl) ?_
          refine lv_aload_n hx hb dX8_nth_28 rfl (lv_at hl 2 rfl) ?_
          refine lv_iload_n hx hb dX8_nth_29 rfl (lv_at hl 3 rfl) ?_
          refine lv_iload hx hb dX8_nth_30 (lv_at hl 1 rfl) ?_
          have hPc := hP.sub (ws' := [(q, .inr (7, [.ref mq, .ref zq, .ref sq, .ref bq, .ref cq, .long sm, .ref pq, .int ps, .int th])), (mq, .inl (cZ, 12288, .inl fM)), (zq, .inl (cI, 3, .inl fS)), (sq, .inl (cI, 6156, .inl fP)), (bq, .inl (cI, 3, .inl fB)), (cq, .inl (cJ, 64, .inr (.inl fC))), (pq, .inl (cI, 8, .inl fT))]) [0, 1, 2, 3, 4, 5, 6] rfl
          have hKc := hK.sub (tys' := [(cZ, .boolean), (cI, .int), (cJ, .long)]) [0, 1, 2] rfl
          refine vp_callSi (W.runV (As := [.int (nI k), .int (nI i)]) (rest := [.int (nI lf)]) ⟨hx, hb, hml, hown, hts⟩ (c_X8_has l dC dI q mq zq sq bq cq pq cZ cI cJ fM fS fP fB fC sm fT ps th M k i (by first | assumption | omega) (by first | assumption | omega) (by first | assumption | omega)) (cwV 2 hts gX8_nth_X8_has rfl rfl rfl (by decide +kernel) ⟨Nat.le_of_ble_eq_true rfl, Nat.le_of_ble_eq_true rfl⟩) ⟨fun a U g mk q => by obtain ⟨q0, qP, qK⟩ := q; exact ⟨q0, qP, va_K.moved (u := U) (U := U.calling g mk a) (Vm.Alike.refl U.vm) qK⟩, va_recv hKc hPc (ci := 7) (q0 := 0) rfl rfl, fun U hU hW => ⟨rfl, by rw [hU]; exact hPc, va_K.moved hW.alike hKc⟩⟩ rfl rfl hl.1 rfl (lv_room (Nat.le_of_ble_eq_true rfl)) dX8_nth_32 ⟨Nat.le_of_ble_eq_true rfl, Nat.le_of_ble_eq_true rfl⟩) (fun r_12 hw_11 => ?_)
          subst hw_11
          refine lv_if_eq (tgt := 42) hx hb dX8_nth_35 (by decide) (fun qc_13 => ?_) (fun qc_13 => ?_)
          · have c_13 : (M k i) = false := b2i_f qc_13
            rw [c_6] at c_13
            cases c_13
          · have c_13 : (M k i) = true := b2i_t qc_13
            refine lv_iconst (v := nI 1) hx hb dX8_nth_38 (by decide +kernel) ?_
            refine lv_goto (tgt := 43) hx hb dX8_nth_39 (by decide) ?_
            refine lv_isub hx hb dX8_nth_43 ?_
            refine lv_cvi (pk_sub (by omega)) ?_
            refine lv_istore (lv' := [(5, .int (nI (lf - 1))), (4, .int (nI i)), (0, .ref q), (1, .int (nI k)), (2, .int (nI b)), (3, .int (nI pl))]) hx hb dX8_nth_44 hl (by decide) rfl (fun ls hl => ?_)
            refine lv_iinc (v := nI (i + 1)) (lv' := [(4, .int (nI (i + 1))), (5, .int (nI (lf - 1))), (0, .ref q), (1, .int (nI k)), (2, .int (nI b)), (3, .int (nI pl))]) hx hb dX8_nth_46 hl (k := 1) rfl (nI_1 _) (by decide) rfl (fun ls hl => ?_)
            refine lv_goto (tgt := 11) hx hb dX8_nth_49 (by decide) ?_
            exact ih (i + 1) (lf - 1) (by
              rcases Nat.lt_or_ge i z with q9 | q9
              · exact q9
              · have e9 : i = z := by omega
                rw [e9] at hl9
                omega) (by rw [fb_ct_succ, if_pos c_6]; omega) (by omega) ls (lv_sub hl [1, 0, 2, 3, 4, 5] rfl)
  exact key_11_3 _ (sepm (P k) b) pl (by rw [sepm_lt hb9]; exact hs1) (by rw [sepm_lt hb9, Nat.add_comm]) (Nat.lt_succ_self _) ls (lv_sub hl [0, 1, 2, 3, 4, 5] rfl)
set_option maxHeartbeats 4000000 in
set_option maxRecDepth 100000 in
/-- reference: splits -/
theorem c_X8_splits (l : Launch) (dC : Nat → ClassId) (dI : Nat → Nat → Nat) (q : Nat) (mq : Nat) (zq : Nat) (sq : Nat) (bq : Nat) (cq : Nat) (pq : Nat) (cZ : ClassId) (cI : ClassId) (cJ : ClassId) (fM : Nat → Int32) (fS : Nat → Int32) (fP : Nat → Int32) (fB : Nat → Int32) (fC : Nat → Int64) (sm : Int64) (fT : Nat → Int32) (ps : Int32) (th : Int32) (M : Nat → Nat → Bool) (P : Nat → Nat → Bool) (k : Nat) (b : Nat) (sz : Nat) (hM : MM fM M) (hX : MX fP fB P) (hk : k < 3) (hb9 : b < fb_ct (P k) 4096) (hc9 : fb_ct (P k) 4096 ≤ 2049) : Met l yX8_splits wsX8_splits ({ frames := 2, cells := 0, slots := 0, locals := 47 }) (va_Pc [.ref q, .int (nI k), .int (nI b)] (fun U => U.heap.size = sz ∧ va_P (dC, dI) vwCl [(q, .inr (7, [.ref mq, .ref zq, .ref sq, .ref bq, .ref cq, .long sm, .ref pq, .int ps, .int th])), (mq, .inl (cZ, 12288, .inl fM)), (zq, .inl (cI, 3, .inl fS)), (sq, .inl (cI, 6156, .inl fP)), (bq, .inl (cI, 3, .inl fB)), (cq, .inl (cJ, 64, .inr (.inl fC))), (pq, .inl (cI, 8, .inl fT))] U.heap ∧ va_K (dC, dI) vwCl [(cZ, .boolean), (cI, .int), (cJ, .long)] U ∧ va_D (fun _ => True) [(q, .inr (7, [.ref mq, .ref zq, .ref sq, .ref bq, .ref cq, .long sm, .ref pq, .int ps, .int th])), (mq, .inl (cZ, 12288, .inl fM)), (zq, .inl (cI, 3, .inl fS)), (sq, .inl (cI, 6156, .inl fP)), (bq, .inl (cI, 3, .inl fB)), (cq, .inl (cJ, 64, .inr (.inl fC))), (pq, .inl (cI, 8, .inl fT))])) (va_Qv (fun (u : (Nat → Int32) × (Nat → Int32)) => MX u.1 u.2 (upF P k (spl (M k) (P k) (sp (P k) b)))) (fun (u : (Nat → Int32) × (Nat → Int32)) (t : State) => va_P (dC, dI) vwCl [(q, .inr (7, [.ref mq, .ref zq, .ref sq, .ref bq, .ref cq, .long sm, .ref pq, .int ps, .int th])), (mq, .inl (cZ, 12288, .inl fM)), (zq, .inl (cI, 3, .inl fS)), (sq, .inl (cI, 6156, .inl u.1)), (bq, .inl (cI, 3, .inl u.2)), (cq, .inl (cJ, 64, .inr (.inl fC))), (pq, .inl (cI, 8, .inl fT))] t.heap ∧ va_K (dC, dI) vwCl [(cZ, .boolean), (cI, .int), (cJ, .long)] t ∧ va_D (va_A [(q, .inr (7, [.ref mq, .ref zq, .ref sq, .ref bq, .ref cq, .long sm, .ref pq, .int ps, .int th])), (mq, .inl (cZ, 12288, .inl fM)), (zq, .inl (cI, 3, .inl fS)), (sq, .inl (cI, 6156, .inl fP)), (bq, .inl (cI, 3, .inl fB)), (cq, .inl (cJ, 64, .inr (.inl fC))), (pq, .inl (cI, 8, .inl fT))] sz) [(q, .inr (7, [.ref mq, .ref zq, .ref sq, .ref bq, .ref cq, .long sm, .ref pq, .int ps, .int th])), (mq, .inl (cZ, 12288, .inl fM)), (zq, .inl (cI, 3, .inl fS)), (sq, .inl (cI, 6156, .inl u.1)), (bq, .inl (cI, 3, .inl u.2)), (cq, .inl (cJ, 64, .inr (.inl fC))), (pq, .inl (cI, 8, .inl fT))]) (va_A [(q, .inr (7, [.ref mq, .ref zq, .ref sq, .ref bq, .ref cq, .long sm, .ref pq, .int ps, .int th])), (mq, .inl (cZ, 12288, .inl fM)), (zq, .inl (cI, 3, .inl fS)), (sq, .inl (cI, 6156, .inl fP)), (bq, .inl (cI, 3, .inl fB)), (cq, .inl (cJ, 64, .inr (.inl fC))), (pq, .inl (cI, 8, .inl fT))] sz)) 0 0 (va_A [(q, .inr (7, [.ref mq, .ref zq, .ref sq, .ref bq, .ref cq, .long sm, .ref pq, .int ps, .int th])), (mq, .inl (cZ, 12288, .inl fM)), (zq, .inl (cI, 3, .inl fS)), (sq, .inl (cI, 6156, .inl fP)), (bq, .inl (cI, 3, .inl fB)), (cq, .inl (cJ, 64, .inr (.inl fC))), (pq, .inl (cI, 8, .inl fT))] sz) := by
  refine Met.ofW (cc := cX8_splits) (maxL := 6) (ret := none) (by decide) rfl ?_
  intro p e s m args below meth c s₁ B hml hv
  obtain ⟨rfl, hsz, hP, hK, hD0⟩ := hv
  have hx := B.exec
  have hb := B.bytes
  have hr := B.returns
  have hts := atoms_spec (ws := wsX8_splits) B.pre
  have hown : s.vm.findClass RX8 = some m.cls := findClass_of_methodNamed B.named
  have hlocks := B.notSynchronized
  subst hsz
  have hD := hD0.self (sz := s.heap.size)
  generalize hAe : va_A [(q, .inr (7, [.ref mq, .ref zq, .ref sq, .ref bq, .ref cq, .long sm, .ref pq, .int ps, .int th])), (mq, .inl (cZ, 12288, .inl fM)), (zq, .inl (cI, 3, .inl fS)), (sq, .inl (cI, 6156, .inl fP)), (bq, .inl (cI, 3, .inl fB)), (cq, .inl (cJ, 64, .inr (.inl fC))), (pq, .inl (cI, 8, .inl fT))] s.heap.size = A at hD ⊢
  have hA : ∀ q : Nat, s.heap.size ≤ q → A q := fun q h => by rw [← hAe]; exact Or.inr h
  have hS : va_S A s.heap s.heap [] := va_S.rf
  have hP : va_P (dC, dI) vwCl [(q, .inr (7, [.ref mq, .ref zq, .ref sq, .ref bq, .ref cq, .long sm, .ref pq, .int ps, .int th])), (mq, .inl (cZ, 12288, .inl fM)), (zq, .inl (cI, 3, .inl fS)), (sq, .inl (cI, 6156, .inl fP)), (bq, .inl (cI, 3, .inl fB)), (cq, .inl (cJ, 64, .inr (.inl fC))), (pq, .inl (cI, 8, .inl fT))] s.heap := hP
  have hl := lv_entry ([.ref q, .int (nI k), .int (nI b)]) (n := 6) (Nat.le_of_ble_eq_true rfl)
  rw [lg_entry_eq]
  generalize (lg_sl ([.ref q, .int (nI k), .int (nI b)]) ++ List.replicate (6 - (lg_sl ([.ref q, .int (nI k), .int (nI b)])).length) Slot.unset).toArray = ls at hl ⊢
  have hl : lv_has ls 6 [(0, .ref q), (1, .int (nI k)), (2, .int (nI b))] := hl
  have hcnt := (hX k hk).2.2.2
  refine lv_aload_n hx hb dX8_splits_0 rfl (lv_at hl 0 rfl) ?_
  refine lv_iload_n hx hb dX8_splits_1 rfl (lv_at hl 1 rfl) ?_
  refine lv_iload_n hx hb dX8_splits_2 rfl (lv_at hl 2 rfl) ?_
  have hPc := hP.sub (ws' := [(q, .inr (7, [.ref mq, .ref zq, .ref sq, .ref bq, .ref cq, .long sm, .ref pq, .int ps, .int th])), (mq, .inl (cZ, 12288, .inl fM)), (zq, .inl (cI, 3, .inl fS)), (sq, .inl (cI, 6156, .inl fP)), (bq, .inl (cI, 3, .inl fB)), (cq, .inl (cJ, 64, .inr (.inl fC))), (pq, .inl (cI, 8, .inl fT))]) [0, 1, 2, 3, 4, 5, 6] rfl
  have hKc := hK.sub (tys' := [(cZ, .boolean), (cI, .int), (cJ, .long)]) [0, 1, 2] rfl
  refine vp_callSi (W.runV (As := [.int (nI k), .int (nI b)]) (rest := []) ⟨hx, hb, hml, hown, hts⟩ (c_X8_held l dC dI q mq zq sq bq cq pq cZ cI cJ fM fS fP fB fC sm fT ps th M P k b (by first | assumption | omega) (by first | assumption | omega) (by first | assumption | omega) (by first | assumption | omega)) (cwV 2 hts gX8_splits_X8_held rfl rfl rfl (by decide +kernel) ⟨Nat.le_of_ble_eq_true rfl, Nat.le_of_ble_eq_true rfl⟩) ⟨fun a U g mk q => by obtain ⟨q0, qP, qK⟩ := q; exact ⟨q0, qP, va_K.moved (u := U) (U := U.calling g mk a) (Vm.Alike.refl U.vm) qK⟩, va_recv hKc hPc (ci := 7) (q0 := 0) rfl rfl, fun U hU hW => ⟨rfl, by rw [hU]; exact hPc, va_K.moved hW.alike hKc⟩⟩ rfl rfl hl.1 rfl (lv_room (Nat.le_of_ble_eq_true rfl)) dX8_splits_3 ⟨Nat.le_of_ble_eq_true rfl, Nat.le_of_ble_eq_true rfl⟩) (fun r_2 hw_1 => ?_)
  subst hw_1
  have hh9 := heldc_b (M k) (P k) (sp (P k) b)
  refine lv_istore_n (lv' := [(3, .int (nI (heldc (M k) (P k) (sp (P k) b)))), (0, .ref q), (1, .int (nI k)), (2, .int (nI b))]) hx hb dX8_splits_6 rfl hl (by decide) rfl (fun ls hl => ?_)
  refine lv_iload_n hx hb dX8_splits_7 rfl (lv_at hl 0 rfl) ?_
  refine lv_bipush (v := nI 8) hx hb dX8_splits_8 (by decide +kernel) ?_
  refine lv_icmp_gt (tgt := 14) hx hb dX8_splits_10 (by decide) (fun qc_3 => ?_) (fun qc_3 => ?_)
  · have c_3 : 8 < (heldc (M k) (P k) (sp (P k) b)) := (nI_ltI (a := 8) (b := heldc (M k) (P k) (sp (P k) b)) (by omega) (by omega)).mp qc_3
    have hgt : 8 < heldc (M k) (P k) (sp (P k) b) := by omega
    obtain ⟨z, hz, hz1⟩ := spl_kth (M := M k) (P := P k) (sp_lt' (P k) b) hgt
    refine lv_aload_n hx hb dX8_splits_14 rfl (lv_at hl 1 rfl) ?_
    refine lv_iload_n hx hb dX8_splits_15 rfl (lv_at hl 2 rfl) ?_
    refine lv_iload_n hx hb dX8_splits_16 rfl (lv_at hl 3 rfl) ?_
    refine lv_iload_n hx hb dX8_splits_17 rfl (lv_at hl 0 rfl) ?_
    refine lv_iconst (v := nI 2) hx hb dX8_splits_18 (by decide +kernel) ?_
    refine lv_idiv hx hb dX8_splits_19 (by decide +kernel) ?_
    refine lv_cvi (pk_div (by omega) (by decide) (by decide)) ?_
    have hPc := hP.sub (ws' := [(q, .inr (7, [.ref mq, .ref zq, .ref sq, .ref bq, .ref cq, .long sm, .ref pq, .int ps, .int th])), (mq, .inl (cZ, 12288, .inl fM)), (zq, .inl (cI, 3, .inl fS)), (sq, .inl (cI, 6156, .inl fP)), (bq, .inl (cI, 3, .inl fB)), (cq, .inl (cJ, 64, .inr (.inl fC))), (pq, .inl (cI, 8, .inl fT))]) [0, 1, 2, 3, 4, 5, 6] rfl
    have hKc := hK.sub (tys' := [(cZ, .boolean), (cI, .int), (cJ, .long)]) [0, 1, 2] rfl
    refine vp_callSi (W.runV (As := [.int (nI k), .int (nI b), .int (nI ((heldc (M k) (P k) (sp (P k) b)) / 2))]) (rest := []) ⟨hx, hb, hml, hown, hts⟩ (c_X8_nth l dC dI q mq zq sq bq cq pq cZ cI cJ fM fS fP fB fC sm fT ps th M P k b ((heldc (M k) (P k) (sp (P k) b)) / 2) z (by first | assumption | omega) (by first | assumption | omega) (by first | assumption | omega) (by first | assumption | omega) hz (by first | assumption | omega)) (cwV 3 hts gX8_splits_X8_nth rfl rfl rfl (by decide +kernel) ⟨Nat.le_of_ble_eq_true rfl, Nat.le_of_ble_eq_true rfl⟩) ⟨fun a U g mk q => by obtain ⟨q0, qP, qK⟩ := q; exact ⟨q0, qP, va_K.moved (u := U) (U := U.calling g mk a) (Vm.Alike.refl U.vm) qK⟩, va_recv hKc hPc (ci := 7) (q0 := 0) rfl rfl, fun U hU hW => ⟨rfl, by rw [hU]; exact hPc, va_K.moved hW.alike hKc⟩⟩ rfl rfl hl.1 rfl (lv_room (Nat.le_of_ble_eq_true rfl)) dX8_splits_20 ⟨Nat.le_of_ble_eq_true rfl, Nat.le_of_ble_eq_true rfl⟩) (fun r_5 hw_4 => ?_)
    subst hw_4
    refine lv_istore (lv' := [(4, .int (nI z)), (3, .int (nI (heldc (M k) (P k) (sp (P k) b)))), (0, .ref q), (1, .int (nI k)), (2, .int (nI b))]) hx hb dX8_splits_23 hl (by decide) rfl (fun ls hl => ?_)
    refine lv_aload_n hx hb dX8_splits_25 rfl (lv_at hl 2 rfl) ?_
    refine va_get (D := (dC, dI)) (ci := 7) (v := .ref bq) (C := RX8) (T := TX8) (N := 9) hx hb hts (by decide +kernel) hown hK hP 0 rfl rfl 3 (by decide) (hts (.fieldLink RX8 20 "SmallNumberSetsModel" "buckets" "[I") (by decide +kernel)) (fun _ h9 => h9) rfl dX8_splits_26 ?_
    refine lv_iload_n hx hb dX8_splits_29 rfl (lv_at hl 3 rfl) ?_
    refine va_iald hx hb hK hP 4 1 rfl rfl (vp_in_nI (by omega) (by omega)) dX8_splits_30 ?_
    refine lv_cvi (congrArg fB (nI_clamp (by omega))) ?_
    refine lv_cvi ((hX k hk).1) ?_
    refine lv_istore (lv' := [(5, .int (nI (fb_ct (P k) 4096))), (4, .int (nI z)), (3, .int (nI (heldc (M k) (P k) (sp (P k) b)))), (0, .ref q), (1, .int (nI k)), (2, .int (nI b))]) hx hb dX8_splits_31 hl (by decide) rfl (fun ls hl => ?_)
    have key_33_6 : ∀ (fu : Nat) (j : Nat) (g : Nat → Int32) (hj1 : b + 1 ≤ j ∧ j ≤ fb_ct (P k) 4096) (hg : g = fun i => if 2052 * k + j < i ∧ i ≤ 2052 * k + fb_ct (P k) 4096 then fP (i - 1) else fP i) (hfu : j < fu) (H : Heap) (locs : List Loc) (hP : va_P (dC, dI) vwCl [(q, .inr (7, [.ref mq, .ref zq, .ref sq, .ref bq, .ref cq, .long sm, .ref pq, .int ps, .int th])), (mq, .inl (cZ, 12288, .inl fM)), (zq, .inl (cI, 3, .inl fS)), (sq, .inl (cI, 6156, .inl g)), (bq, .inl (cI, 3, .inl fB)), (cq, .inl (cJ, 64, .inr (.inl fC))), (pq, .inl (cI, 8, .inl fT))] H) (hD : va_D A [(q, .inr (7, [.ref mq, .ref zq, .ref sq, .ref bq, .ref cq, .long sm, .ref pq, .int ps, .int th])), (mq, .inl (cZ, 12288, .inl fM)), (zq, .inl (cI, 3, .inl fS)), (sq, .inl (cI, 6156, .inl g)), (bq, .inl (cI, 3, .inl fB)), (cq, .inl (cJ, 64, .inr (.inl fC))), (pq, .inl (cI, 8, .inl fT))]) (hS : va_S A s.heap H locs) (ls : Array Slot) (hl : lv_has ls 6 [(5, .int (nI j)), (4, .int (nI z)), (3, .int (nI (heldc (M k) (P k) (sp (P k) b)))), (0, .ref q), (1, .int (nI k)), (2, .int (nI b))]), W p l e (headSpec wsX8_splits ({ frames := 2, cells := 0, slots := 0, locals := 47 })).room s m ([.ref q, .int (nI k), .int (nI b)] : List Value).toArray below meth c H locs 0 0 (MQ below (va_Qv (fun (u : (Nat → Int32) × (Nat → Int32)) => MX u.1 u.2 (upF P k (spl (M k) (P k) (sp (P k) b)))) (fun (u : (Nat → Int32) × (Nat → Int32)) (t : State) => va_P (dC, dI) vwCl [(q, .inr (7, [.ref mq, .ref zq, .ref sq, .ref bq, .ref cq, .long sm, .ref pq, .int ps, .int th])), (mq, .inl (cZ, 12288, .inl fM)), (zq, .inl (cI, 3, .inl fS)), (sq, .inl (cI, 6156, .inl u.1)), (bq, .inl (cI, 3, .inl u.2)), (cq, .inl (cJ, 64, .inr (.inl fC))), (pq, .inl (cI, 8, .inl fT))] t.heap ∧ va_K (dC, dI) vwCl [(cZ, .boolean), (cI, .int), (cJ, .long)] t ∧ va_D A [(q, .inr (7, [.ref mq, .ref zq, .ref sq, .ref bq, .ref cq, .long sm, .ref pq, .int ps, .int th])), (mq, .inl (cZ, 12288, .inl fM)), (zq, .inl (cI, 3, .inl fS)), (sq, .inl (cI, 6156, .inl u.1)), (bq, .inl (cI, 3, .inl u.2)), (cq, .inl (cJ, 64, .inr (.inl fC))), (pq, .inl (cI, 8, .inl fT))]) A) ([.ref q, .int (nI k), .int (nI b)] : List Value).toArray s 0 0 A) (F0 m 33 ls []) := by
      intro fu
      induction fu with
      | zero =>
        intro j g hj1 hg hfu H locs hP hD hS ls hl
        exact absurd hfu (Nat.not_lt_zero _)
      | succ fu ih =>
        intro j g hj1 hg hfu H locs hP hD hS ls hl
        refine lv_iload hx hb dX8_splits_33 (lv_at hl 0 rfl) ?_
        refine lv_iload_n hx hb dX8_splits_35 rfl (lv_at hl 5 rfl) ?_
        refine lv_iconst (v := nI 1) hx hb dX8_splits_36 (by decide +kernel) ?_
        refine lv_iadd hx hb dX8_splits_37 ?_
        refine lv_cvi (nI_add _ _) ?_
        refine lv_icmp_le (tgt := 75) hx hb dX8_splits_38 (by decide) (fun qc_7 => ?_) (fun qc_7 => ?_)
        · have c_7 : j ≤ (b + 1) := (nI_leI (a := j) (b := b + 1) (by omega) (by omega)).mp qc_7
          refine lv_aload_n hx hb dX8_splits_75 rfl (lv_at hl 3 rfl) ?_
          refine va_get (D := (dC, dI)) (ci := 7) (v := .ref sq) (C := RX8) (T := TX8) (N := 9) hx hb hts (by decide +kernel) hown hK hP 0 rfl rfl 2 (by decide) (hts (.fieldLink RX8 17 "SmallNumberSetsModel" "separators" "[I") (by decide +kernel)) (fun _ h9 => h9) rfl dX8_splits_76 ?_
          refine lv_sipush (v := nI 2052) hx hb dX8_splits_79 (by decide +kernel) ?_
          refine lv_iload_n hx hb dX8_splits_82 rfl (lv_at hl 4 rfl) ?_
          refine lv_imul hx hb dX8_splits_83 ?_
          refine lv_cvi (pk_mul _ _) ?_
          refine lv_iload_n hx hb dX8_splits_84 rfl (lv_at hl 5 rfl) ?_
          refine lv_iadd hx hb dX8_splits_85 ?_
          refine lv_cvi (nI_add _ _) ?_
          refine lv_iconst (v := nI 1) hx hb dX8_splits_86 (by decide +kernel) ?_
          refine lv_iadd hx hb dX8_splits_87 ?_
          refine lv_cvi (nI_add _ _) ?_
          refine lv_iload hx hb dX8_splits_88 (lv_at hl 1 rfl) ?_
          refine va_iast hx hb hK hP hD hS 3 1 rfl rfl (vp_in_nI (by omega) (by omega)) dX8_splits_90 (fun H locs hP hD hS => ?_)
          rw [nI_clamp (n := ((2052 * k) + b) + 1) (by omega)] at hP hD
          have hP : va_P (dC, dI) vwCl [(q, .inr (7, [.ref mq, .ref zq, .ref sq, .ref bq, .ref cq, .long sm, .ref pq, .int ps, .int th])), (mq, .inl (cZ, 12288, .inl fM)), (zq, .inl (cI, 3, .inl fS)), (sq, .inl (cI, 6156, .inl (upd g (((2052 * k) + b) + 1) (nI z)))), (bq, .inl (cI, 3, .inl fB)), (cq, .inl (cJ, 64, .inr (.inl fC))), (pq, .inl (cI, 8, .inl fT))] H := hP
          have hD : va_D A [(q, .inr (7, [.ref mq, .ref zq, .ref sq, .ref bq, .ref cq, .long sm, .ref pq, .int ps, .int th])), (mq, .inl (cZ, 12288, .inl fM)), (zq, .inl (cI, 3, .inl fS)), (sq, .inl (cI, 6156, .inl (upd g (((2052 * k) + b) + 1) (nI z)))), (bq, .inl (cI, 3, .inl fB)), (cq, .inl (cJ, 64, .inr (.inl fC))), (pq, .inl (cI, 8, .inl fT))] := hD
          refine lv_aload_n hx hb dX8_splits_91 rfl (lv_at hl 3 rfl) ?_
          refine va_get (D := (dC, dI)) (ci := 7) (v := .ref bq) (C := RX8) (T := TX8) (N := 9) hx hb hts (by decide +kernel) hown hK hP 0 rfl rfl 3 (by decide) (hts (.fieldLink RX8 20 "SmallNumberSetsModel" "buckets" "[I") (by decide +kernel)) (fun _ h9 => h9) rfl dX8_splits_92 ?_
          refine lv_iload_n hx hb dX8_splits_95 rfl (lv_at hl 4 rfl) ?_
          refine lv_dup2_11 hx hb dX8_splits_96 rfl rfl ?_
          refine va_iald hx hb hK hP 4 1 rfl rfl (vp_in_nI (by omega) (by omega)) dX8_splits_97 ?_
          refine lv_cvi (congrArg fB (nI_clamp (by omega))) ?_
          refine lv_cvi ((hX k hk).1) ?_
          refine lv_iconst (v := nI 1) hx hb dX8_splits_98 (by decide +kernel) ?_
          refine lv_iadd hx hb dX8_splits_99 ?_
          refine lv_cvi (nI_add _ _) ?_
          refine va_iast hx hb hK hP hD hS 4 1 rfl rfl (vp_in_nI (by omega) (by omega)) dX8_splits_100 (fun H locs hP hD hS => ?_)
          rw [nI_clamp (n := k) (by omega)] at hP hD
          have hP : va_P (dC, dI) vwCl [(q, .inr (7, [.ref mq, .ref zq, .ref sq, .ref bq, .ref cq, .long sm, .ref pq, .int ps, .int th])), (mq, .inl (cZ, 12288, .inl fM)), (zq, .inl (cI, 3, .inl fS)), (sq, .inl (cI, 6156, .inl (upd g (((2052 * k) + b) + 1) (nI z)))), (bq, .inl (cI, 3, .inl (upd fB k (nI ((fb_ct (P k) 4096) + 1))))), (cq, .inl (cJ, 64, .inr (.inl fC))), (pq, .inl (cI, 8, .inl fT))] H := hP
          have hD : va_D A [(q, .inr (7, [.ref mq, .ref zq, .ref sq, .ref bq, .ref cq, .long sm, .ref pq, .int ps, .int th])), (mq, .inl (cZ, 12288, .inl fM)), (zq, .inl (cI, 3, .inl fS)), (sq, .inl (cI, 6156, .inl (upd g (((2052 * k) + b) + 1) (nI z)))), (bq, .inl (cI, 3, .inl (upd fB k (nI ((fb_ct (P k) 4096) + 1))))), (cq, .inl (cJ, 64, .inr (.inl fC))), (pq, .inl (cI, 8, .inl fT))] := hD
          have hP9 := hP.sub (ws' := [(q, .inr (7, [.ref mq, .ref zq, .ref sq, .ref bq, .ref cq, .long sm, .ref pq, .int ps, .int th])), (mq, .inl (cZ, 12288, .inl fM)), (zq, .inl (cI, 3, .inl fS)), (sq, .inl (cI, 6156, .inl (upd g (((2052 * k) + b) + 1) (nI z)))), (bq, .inl (cI, 3, .inl (upd fB k (nI ((fb_ct (P k) 4096) + 1))))), (cq, .inl (cJ, 64, .inr (.inl fC))), (pq, .inl (cI, 8, .inl fT))]) [0, 1, 2, 3, 4, 5, 6] rfl
          have hD9 := hD.sub (ws' := [(q, .inr (7, [.ref mq, .ref zq, .ref sq, .ref bq, .ref cq, .long sm, .ref pq, .int ps, .int th])), (mq, .inl (cZ, 12288, .inl fM)), (zq, .inl (cI, 3, .inl fS)), (sq, .inl (cI, 6156, .inl (upd g (((2052 * k) + b) + 1) (nI z)))), (bq, .inl (cI, 3, .inl (upd fB k (nI ((fb_ct (P k) 4096) + 1))))), (cq, .inl (cJ, 64, .inr (.inl fC))), (pq, .inl (cI, 8, .inl fT))]) [0, 1, 2, 3, 4, 5, 6] (by decide) rfl
          have hK9 := hK.sub (tys' := [(cZ, .boolean), (cI, .int), (cJ, .long)]) [0, 1, 2] rfl
          exact W.vret hx hb hr (fun t9 ht hW => ⟨⟨⟨upd g (((2052 * k) + b) + 1) (nI z), upd fB k (nI ((fb_ct (P k) 4096) + 1))⟩, rfl, (show MX (upd g (((2052 * k) + b) + 1) (nI z)) (upd fB k (nI ((fb_ct (P k) 4096) + 1))) (upF P k (spl (M k) (P k) (sp (P k) b))) from mx_split hX hk hb9 hc9 hgt hz (show j = b + 1 by omega) (fun i => congrFun hg i)), by rw [ht]; exact hP9, va_K.moved hW.alike hK9, hD9⟩, hS.F ht⟩) hS.2.2 dX8_splits_101
        · have c_7 : ¬ j ≤ (b + 1) := fun h9 => qc_7 ((nI_leI (a := j) (b := b + 1) (by omega) (by omega)).mpr h9)
          refine lv_aload_n hx hb dX8_splits_41 rfl (lv_at hl 3 rfl) ?_
          refine va_get (D := (dC, dI)) (ci := 7) (v := .ref sq) (C := RX8) (T := TX8) (N := 9) hx hb hts (by decide +kernel) hown hK hP 0 rfl rfl 2 (by decide) (hts (.fieldLink RX8 17 "SmallNumberSetsModel" "separators" "[I") (by decide +kernel)) (fun _ h9 => h9) rfl dX8_splits_42 ?_
          refine lv_sipush (v := nI 2052) hx hb dX8_splits_45 (by decide +kernel) ?_
          refine lv_iload_n hx hb dX8_splits_48 rfl (lv_at hl 4 rfl) ?_
          refine lv_imul hx hb dX8_splits_49 ?_
          refine lv_cvi (pk_mul _ _) ?_
          refine lv_iload hx hb dX8_splits_50 (lv_at hl 0 rfl) ?_
          refine lv_iadd hx hb dX8_splits_52 ?_
          refine lv_cvi (nI_add _ _) ?_
          refine lv_aload_n hx hb dX8_splits_53 rfl (lv_at hl 3 rfl) ?_
          refine va_get (D := (dC, dI)) (ci := 7) (v := .ref sq) (C := RX8) (T := TX8) (N := 9) hx hb hts (by decide +kernel) hown hK hP 0 rfl rfl 2 (by decide) (hts (.fieldLink RX8 17 "SmallNumberSetsModel" "separators" "[I") (by decide +kernel)) (fun _ h9 => h9) rfl dX8_splits_54 ?_
          refine lv_sipush (v := nI 2052) hx hb dX8_splits_57 (by decide +kernel) ?_
          refine lv_iload_n hx hb dX8_splits_60 rfl (lv_at hl 4 rfl) ?_
          refine lv_imul hx hb dX8_splits_61 ?_
          refine lv_cvi (pk_mul _ _) ?_
          refine lv_iload hx hb dX8_splits_62 (lv_at hl 0 rfl) ?_
          refine lv_iadd hx hb dX8_splits_64 ?_
          refine lv_cvi (nI_add _ _) ?_
          refine lv_iconst (v := nI 1) hx hb dX8_splits_65 (by decide +kernel) ?_
          refine lv_isub hx hb dX8_splits_66 ?_
          refine lv_cvi (pk_sub (by omega)) ?_
          refine va_iald hx hb hK hP 3 1 rfl rfl (vp_in_nI (by omega) (by omega)) dX8_splits_67 ?_
          refine lv_cvi (congrArg g (nI_clamp (by omega))) ?_
          refine va_iast hx hb hK hP hD hS 3 1 rfl rfl (vp_in_nI (by omega) (by omega)) dX8_splits_68 (fun H locs hP hD hS => ?_)
          rw [nI_clamp (n := (2052 * k) + j) (by omega)] at hP hD
          have hP : va_P (dC, dI) vwCl [(q, .inr (7, [.ref mq, .ref zq, .ref sq, .ref bq, .ref cq, .long sm, .ref pq, .int ps, .int th])), (mq, .inl (cZ, 12288, .inl fM)), (zq, .inl (cI, 3, .inl fS)), (sq, .inl (cI, 6156, .inl (upd g ((2052 * k) + j) (g (((2052 * k) + j) - 1))))), (bq, .inl (cI, 3, .inl fB)), (cq, .inl (cJ, 64, .inr (.inl fC))), (pq, .inl (cI, 8, .inl fT))] H := hP
          have hD : va_D A [(q, .inr (7, [.ref mq, .ref zq, .ref sq, .ref bq, .ref cq, .long sm, .ref pq, .int ps, .int th])), (mq, .inl (cZ, 12288, .inl fM)), (zq, .inl (cI, 3, .inl fS)), (sq, .inl (cI, 6156, .inl (upd g ((2052 * k) + j) (g (((2052 * k) + j) - 1))))), (bq, .inl (cI, 3, .inl fB)), (cq, .inl (cJ, 64, .inr (.inl fC))), (pq, .inl (cI, 8, .inl fT))] := hD
          refine lv_iinc (v := nI (j - 1)) (lv' := [(5, .int (nI (j - 1))), (4, .int (nI z)), (3, .int (nI (heldc (M k) (P k) (sp (P k) b)))), (0, .ref q), (1, .int (nI k)), (2, .int (nI b))]) hx hb dX8_splits_69 hl (k := 0) rfl (i_pred (by omega)) (by decide) rfl (fun ls hl => ?_)
          refine lv_goto (tgt := 33) hx hb dX8_splits_72 (by decide) ?_
          exact ih (j - 1) (upd g ((2052 * k) + j) (g (((2052 * k) + j) - 1))) (by omega) (funext (shl_step (by omega) (fun i => congrFun hg i) (by omega))) (by omega) _ _ hP hD hS ls (lv_sub hl [0, 1, 2, 3, 4, 5] rfl)
    exact key_33_6 _ (fb_ct (P k) 4096) fP (by omega) (funext fun i => (if_neg (by omega)).symm) (Nat.lt_succ_self _) _ _ hP hD hS ls (lv_sub hl [0, 1, 2, 3, 4, 5] rfl)
  · have c_3 : ¬ 8 < (heldc (M k) (P k) (sp (P k) b)) := fun h9 => qc_3 ((nI_ltI (a := 8) (b := heldc (M k) (P k) (sp (P k) b)) (by omega) (by omega)).mpr h9)
    have hP9 := hP.sub (ws' := [(q, .inr (7, [.ref mq, .ref zq, .ref sq, .ref bq, .ref cq, .long sm, .ref pq, .int ps, .int th])), (mq, .inl (cZ, 12288, .inl fM)), (zq, .inl (cI, 3, .inl fS)), (sq, .inl (cI, 6156, .inl fP)), (bq, .inl (cI, 3, .inl fB)), (cq, .inl (cJ, 64, .inr (.inl fC))), (pq, .inl (cI, 8, .inl fT))]) [0, 1, 2, 3, 4, 5, 6] rfl
    have hD9 := hD.sub (ws' := [(q, .inr (7, [.ref mq, .ref zq, .ref sq, .ref bq, .ref cq, .long sm, .ref pq, .int ps, .int th])), (mq, .inl (cZ, 12288, .inl fM)), (zq, .inl (cI, 3, .inl fS)), (sq, .inl (cI, 6156, .inl fP)), (bq, .inl (cI, 3, .inl fB)), (cq, .inl (cJ, 64, .inr (.inl fC))), (pq, .inl (cI, 8, .inl fT))]) [0, 1, 2, 3, 4, 5, 6] (by decide) rfl
    have hK9 := hK.sub (tys' := [(cZ, .boolean), (cI, .int), (cJ, .long)]) [0, 1, 2] rfl
    exact W.vret hx hb hr (fun t9 ht hW => ⟨⟨⟨fP, fB⟩, rfl, (show MX fP fB (upF P k (spl (M k) (P k) (sp (P k) b))) from mx_same hX (funext fun x => (spl_id (by omega) x).symm)), by rw [ht]; exact hP9, va_K.moved hW.alike hK9, hD9⟩, hS.F ht⟩) hS.2.2 dX8_splits_13
set_option maxHeartbeats 4000000 in
set_option maxRecDepth 100000 in
/-- reference: merges -/
theorem c_X8_merges (l : Launch) (dC : Nat → ClassId) (dI : Nat → Nat → Nat) (q : Nat) (mq : Nat) (zq : Nat) (sq : Nat) (bq : Nat) (cq : Nat) (pq : Nat) (cZ : ClassId) (cI : ClassId) (cJ : ClassId) (fM : Nat → Int32) (fS : Nat → Int32) (fP : Nat → Int32) (fB : Nat → Int32) (fC : Nat → Int64) (sm : Int64) (fT : Nat → Int32) (ps : Int32) (th : Int32) (M : Nat → Nat → Bool) (P : Nat → Nat → Bool) (k : Nat) (b : Nat) (sz : Nat) (hM : MM fM M) (hX : MX fP fB P) (hk : k < 3) (hb9 : b < fb_ct (P k) 4096) (hc9 : fb_ct (P k) 4096 ≤ 2049) : Met l yX8_merges wsX8_merges ({ frames := 3, cells := 0, slots := 0, locals := 72 }) (va_Pc [.ref q, .int (nI k), .int (nI b)] (fun U => U.heap.size = sz ∧ va_P (dC, dI) vwCl [(q, .inr (7, [.ref mq, .ref zq, .ref sq, .ref bq, .ref cq, .long sm, .ref pq, .int ps, .int th])), (mq, .inl (cZ, 12288, .inl fM)), (zq, .inl (cI, 3, .inl fS)), (sq, .inl (cI, 6156, .inl fP)), (bq, .inl (cI, 3, .inl fB)), (cq, .inl (cJ, 64, .inr (.inl fC))), (pq, .inl (cI, 8, .inl fT))] U.heap ∧ va_K (dC, dI) vwCl [(cZ, .boolean), (cI, .int), (cJ, .long)] U ∧ va_D (fun _ => True) [(q, .inr (7, [.ref mq, .ref zq, .ref sq, .ref bq, .ref cq, .long sm, .ref pq, .int ps, .int th])), (mq, .inl (cZ, 12288, .inl fM)), (zq, .inl (cI, 3, .inl fS)), (sq, .inl (cI, 6156, .inl fP)), (bq, .inl (cI, 3, .inl fB)), (cq, .inl (cJ, 64, .inr (.inl fC))), (pq, .inl (cI, 8, .inl fT))])) (va_Qv (fun (u : (Nat → Int32) × (Nat → Int32)) => MX u.1 u.2 (upF P k (mrg (M k) (P k) b))) (fun (u : (Nat → Int32) × (Nat → Int32)) (t : State) => va_P (dC, dI) vwCl [(q, .inr (7, [.ref mq, .ref zq, .ref sq, .ref bq, .ref cq, .long sm, .ref pq, .int ps, .int th])), (mq, .inl (cZ, 12288, .inl fM)), (zq, .inl (cI, 3, .inl fS)), (sq, .inl (cI, 6156, .inl u.1)), (bq, .inl (cI, 3, .inl u.2)), (cq, .inl (cJ, 64, .inr (.inl fC))), (pq, .inl (cI, 8, .inl fT))] t.heap ∧ va_K (dC, dI) vwCl [(cZ, .boolean), (cI, .int), (cJ, .long)] t ∧ va_D (va_A [(q, .inr (7, [.ref mq, .ref zq, .ref sq, .ref bq, .ref cq, .long sm, .ref pq, .int ps, .int th])), (mq, .inl (cZ, 12288, .inl fM)), (zq, .inl (cI, 3, .inl fS)), (sq, .inl (cI, 6156, .inl fP)), (bq, .inl (cI, 3, .inl fB)), (cq, .inl (cJ, 64, .inr (.inl fC))), (pq, .inl (cI, 8, .inl fT))] sz) [(q, .inr (7, [.ref mq, .ref zq, .ref sq, .ref bq, .ref cq, .long sm, .ref pq, .int ps, .int th])), (mq, .inl (cZ, 12288, .inl fM)), (zq, .inl (cI, 3, .inl fS)), (sq, .inl (cI, 6156, .inl u.1)), (bq, .inl (cI, 3, .inl u.2)), (cq, .inl (cJ, 64, .inr (.inl fC))), (pq, .inl (cI, 8, .inl fT))]) (va_A [(q, .inr (7, [.ref mq, .ref zq, .ref sq, .ref bq, .ref cq, .long sm, .ref pq, .int ps, .int th])), (mq, .inl (cZ, 12288, .inl fM)), (zq, .inl (cI, 3, .inl fS)), (sq, .inl (cI, 6156, .inl fP)), (bq, .inl (cI, 3, .inl fB)), (cq, .inl (cJ, 64, .inr (.inl fC))), (pq, .inl (cI, 8, .inl fT))] sz)) 0 0 (va_A [(q, .inr (7, [.ref mq, .ref zq, .ref sq, .ref bq, .ref cq, .long sm, .ref pq, .int ps, .int th])), (mq, .inl (cZ, 12288, .inl fM)), (zq, .inl (cI, 3, .inl fS)), (sq, .inl (cI, 6156, .inl fP)), (bq, .inl (cI, 3, .inl fB)), (cq, .inl (cJ, 64, .inr (.inl fC))), (pq, .inl (cI, 8, .inl fT))] sz) := by
  refine Met.ofW (cc := cX8_merges) (maxL := 5) (ret := none) (by decide) rfl ?_
  intro p e s m args below meth c s₁ B hml hv
  obtain ⟨rfl, hsz, hP, hK, hD0⟩ := hv
  have hx := B.exec
  have hb := B.bytes
  have hr := B.returns
  have hts := atoms_spec (ws := wsX8_merges) B.pre
  have hown : s.vm.findClass RX8 = some m.cls := findClass_of_methodNamed B.named
  have hlocks := B.notSynchronized
  subst hsz
  have hD := hD0.self (sz := s.heap.size)
  generalize hAe : va_A [(q, .inr (7, [.ref mq, .ref zq, .ref sq, .ref bq, .ref cq, .long sm, .ref pq, .int ps, .int th])), (mq, .inl (cZ, 12288, .inl fM)), (zq, .inl (cI, 3, .inl fS)), (sq, .inl (cI, 6156, .inl fP)), (bq, .inl (cI, 3, .inl fB)), (cq, .inl (cJ, 64, .inr (.inl fC))), (pq, .inl (cI, 8, .inl fT))] s.heap.size = A at hD ⊢
  have hA : ∀ q : Nat, s.heap.size ≤ q → A q := fun q h => by rw [← hAe]; exact Or.inr h
  have hS : va_S A s.heap s.heap [] := va_S.rf
  have hP : va_P (dC, dI) vwCl [(q, .inr (7, [.ref mq, .ref zq, .ref sq, .ref bq, .ref cq, .long sm, .ref pq, .int ps, .int th])), (mq, .inl (cZ, 12288, .inl fM)), (zq, .inl (cI, 3, .inl fS)), (sq, .inl (cI, 6156, .inl fP)), (bq, .inl (cI, 3, .inl fB)), (cq, .inl (cJ, 64, .inr (.inl fC))), (pq, .inl (cI, 8, .inl fT))] s.heap := hP
  have hl := lv_entry ([.ref q, .int (nI k), .int (nI b)]) (n := 5) (Nat.le_of_ble_eq_true rfl)
  rw [lg_entry_eq]
  generalize (lg_sl ([.ref q, .int (nI k), .int (nI b)]) ++ List.replicate (5 - (lg_sl ([.ref q, .int (nI k), .int (nI b)])).length) Slot.unset).toArray = ls at hl ⊢
  have hl : lv_has ls 5 [(0, .ref q), (1, .int (nI k)), (2, .int (nI b))] := hl
  have hcnt := (hX k hk).2.2.2
  refine lv_aload_n hx hb dX8_merges_0 rfl (lv_at hl 0 rfl) ?_
  refine lv_iload_n hx hb dX8_merges_1 rfl (lv_at hl 1 rfl) ?_
  refine lv_iload_n hx hb dX8_merges_2 rfl (lv_at hl 2 rfl) ?_
  have hPc := hP.sub (ws' := [(q, .inr (7, [.ref mq, .ref zq, .ref sq, .ref bq, .ref cq, .long sm, .ref pq, .int ps, .int th])), (mq, .inl (cZ, 12288, .inl fM)), (zq, .inl (cI, 3, .inl fS)), (sq, .inl (cI, 6156, .inl fP)), (bq, .inl (cI, 3, .inl fB)), (cq, .inl (cJ, 64, .inr (.inl fC))), (pq, .inl (cI, 8, .inl fT))]) [0, 1, 2, 3, 4, 5, 6] rfl
  have hKc := hK.sub (tys' := [(cZ, .boolean), (cI, .int), (cJ, .long)]) [0, 1, 2] rfl
  refine vp_callSi (W.runV (As := [.int (nI k), .int (nI b)]) (rest := []) ⟨hx, hb, hml, hown, hts⟩ (c_X8_held l dC dI q mq zq sq bq cq pq cZ cI cJ fM fS fP fB fC sm fT ps th M P k b (by first | assumption | omega) (by first | assumption | omega) (by first | assumption | omega) (by first | assumption | omega)) (cwV 2 hts gX8_merges_X8_held rfl rfl rfl (by decide +kernel) ⟨Nat.le_of_ble_eq_true rfl, Nat.le_of_ble_eq_true rfl⟩) ⟨fun a U g mk q => by obtain ⟨q0, qP, qK⟩ := q; exact ⟨q0, qP, va_K.moved (u := U) (U := U.calling g mk a) (Vm.Alike.refl U.vm) qK⟩, va_recv hKc hPc (ci := 7) (q0 := 0) rfl rfl, fun U hU hW => ⟨rfl, by rw [hU]; exact hPc, va_K.moved hW.alike hKc⟩⟩ rfl rfl hl.1 rfl (lv_room (Nat.le_of_ble_eq_true rfl)) dX8_merges_3 ⟨Nat.le_of_ble_eq_true rfl, Nat.le_of_ble_eq_true rfl⟩) (fun r_2 hw_1 => ?_)
  subst hw_1
  have hh9 := heldc_b (M k) (P k) (sp (P k) b)
  refine lv_iconst (v := nI 1) hx hb dX8_merges_6 (by decide +kernel) ?_
  refine lv_icmp_gt (tgt := 20) hx hb dX8_merges_7 (by decide) (fun qc_3 => ?_) (fun qc_3 => ?_)
  · have c_3 : 1 < (heldc (M k) (P k) (sp (P k) b)) := (nI_ltI (a := 1) (b := heldc (M k) (P k) (sp (P k) b)) (by omega) (by omega)).mp qc_3
    have hP9 := hP.sub (ws' := [(q, .inr (7, [.ref mq, .ref zq, .ref sq, .ref bq, .ref cq, .long sm, .ref pq, .int ps, .int th])), (mq, .inl (cZ, 12288, .inl fM)), (zq, .inl (cI, 3, .inl fS)), (sq, .inl (cI, 6156, .inl fP)), (bq, .inl (cI, 3, .inl fB)), (cq, .inl (cJ, 64, .inr (.inl fC))), (pq, .inl (cI, 8, .inl fT))]) [0, 1, 2, 3, 4, 5, 6] rfl
    have hD9 := hD.sub (ws' := [(q, .inr (7, [.ref mq, .ref zq, .ref sq, .ref bq, .ref cq, .long sm, .ref pq, .int ps, .int th])), (mq, .inl (cZ, 12288, .inl fM)), (zq, .inl (cI, 3, .inl fS)), (sq, .inl (cI, 6156, .inl fP)), (bq, .inl (cI, 3, .inl fB)), (cq, .inl (cJ, 64, .inr (.inl fC))), (pq, .inl (cI, 8, .inl fT))]) [0, 1, 2, 3, 4, 5, 6] (by decide) rfl
    have hK9 := hK.sub (tys' := [(cZ, .boolean), (cI, .int), (cJ, .long)]) [0, 1, 2] rfl
    exact W.vret hx hb hr (fun t9 ht hW => ⟨⟨⟨fP, fB⟩, rfl, (show MX fP fB (upF P k (mrg (M k) (P k) b)) from mx_same hX (by unfold mrg; rw [if_pos (by omega)])), by rw [ht]; exact hP9, va_K.moved hW.alike hK9, hD9⟩, hS.F ht⟩) hS.2.2 dX8_merges_20
  · have c_3 : ¬ 1 < (heldc (M k) (P k) (sp (P k) b)) := fun h9 => qc_3 ((nI_ltI (a := 1) (b := heldc (M k) (P k) (sp (P k) b)) (by omega) (by omega)).mpr h9)
    refine lv_aload_n hx hb dX8_merges_10 rfl (lv_at hl 0 rfl) ?_
    refine va_get (D := (dC, dI)) (ci := 7) (v := .ref bq) (C := RX8) (T := TX8) (N := 9) hx hb hts (by decide +kernel) hown hK hP 0 rfl rfl 3 (by decide) (hts (.fieldLink RX8 20 "SmallNumberSetsModel" "buckets" "[I") (by decide +kernel)) (fun _ h9 => h9) rfl dX8_merges_11 ?_
    refine lv_iload_n hx hb dX8_merges_14 rfl (lv_at hl 1 rfl) ?_
    refine va_iald hx hb hK hP 4 1 rfl rfl (vp_in_nI (by omega) (by omega)) dX8_merges_15 ?_
    refine lv_cvi (congrArg fB (nI_clamp (by omega))) ?_
    refine lv_cvi ((hX k hk).1) ?_
    refine lv_iconst (v := nI 1) hx hb dX8_merges_16 (by decide +kernel) ?_
    refine lv_icmp_ne (tgt := 21) hx hb dX8_merges_17 (by decide) (fun qc_4 => ?_) (fun qc_4 => ?_)
    · have c_4 : ¬ (fb_ct (P k) 4096) = 1 := fun h9 => qc_4 ((nI_eq (a := fb_ct (P k) 4096) (b := 1) (by omega) (by omega)).mpr h9)
      refine lv_iload_n hx hb dX8_merges_21 rfl (lv_at hl 2 rfl) ?_
      refine lv_aload_n hx hb dX8_merges_22 rfl (lv_at hl 0 rfl) ?_
      refine va_get (D := (dC, dI)) (ci := 7) (v := .ref bq) (C := RX8) (T := TX8) (N := 9) hx hb hts (by decide +kernel) hown hK hP 0 rfl rfl 3 (by decide) (hts (.fieldLink RX8 20 "SmallNumberSetsModel" "buckets" "[I") (by decide +kernel)) (fun _ h9 => h9) rfl dX8_merges_23 ?_
      refine lv_iload_n hx hb dX8_merges_26 rfl (lv_at hl 1 rfl) ?_
      refine va_iald hx hb hK hP 4 1 rfl rfl (vp_in_nI (by omega) (by omega)) dX8_merges_27 ?_
      refine lv_cvi (congrArg fB (nI_clamp (by omega))) ?_
      refine lv_cvi ((hX k hk).1) ?_
      refine lv_iconst (v := nI 1) hx hb dX8_merges_28 (by decide +kernel) ?_
      refine lv_isub hx hb dX8_merges_29 ?_
      refine lv_cvi (pk_sub (by omega)) ?_
      refine lv_icmp_ne (tgt := 39) hx hb dX8_merges_30 (by decide) (fun qc_5 => ?_) (fun qc_5 => ?_)
      · have c_5 : ¬ b = ((fb_ct (P k) 4096) - 1) := fun h9 => qc_5 ((nI_eq (a := b) (b := (fb_ct (P k) 4096) - 1) (by omega) (by omega)).mpr h9)
        refine lv_iload_n hx hb dX8_merges_39 rfl (lv_at hl 2 rfl) ?_
        have hel : b = erl (P k) b := by unfold erl; first | (rw [if_pos (by omega)]; done) | (rw [if_neg (by omega)]; done)
        have her := erl_lt hb9 (by omega)
        refine lv_cvi (congrArg nI hel) ?_
        clear hel
        refine lv_istore_n (lv' := [(3, .int (nI (erl (P k) b))), (0, .ref q), (1, .int (nI k)), (2, .int (nI b))]) hx hb dX8_merges_40 rfl hl (by decide) rfl (fun ls hl => ?_)
        refine lv_aload_n hx hb dX8_merges_41 rfl (lv_at hl 1 rfl) ?_
        refine va_get (D := (dC, dI)) (ci := 7) (v := .ref bq) (C := RX8) (T := TX8) (N := 9) hx hb hts (by decide +kernel) hown hK hP 0 rfl rfl 3 (by decide) (hts (.fieldLink RX8 20 "SmallNumberSetsModel" "buckets" "[I") (by decide +kernel)) (fun _ h9 => h9) rfl dX8_merges_42 ?_
        refine lv_iload_n hx hb dX8_merges_45 rfl (lv_at hl 2 rfl) ?_
        refine lv_dup2_11 hx hb dX8_merges_46 rfl rfl ?_
        refine va_iald hx hb hK hP 4 1 rfl rfl (vp_in_nI (by omega) (by omega)) dX8_merges_47 ?_
        refine lv_cvi (congrArg fB (nI_clamp (by omega))) ?_
        refine lv_cvi ((hX k hk).1) ?_
        refine lv_iconst (v := nI 1) hx hb dX8_merges_48 (by decide +kernel) ?_
        refine lv_isub hx hb dX8_merges_49 ?_
        refine lv_cvi (pk_sub (by omega)) ?_
        refine va_iast hx hb hK hP hD hS 4 1 rfl rfl (vp_in_nI (by omega) (by omega)) dX8_merges_50 (fun H locs hP hD hS => ?_)
        rw [nI_clamp (n := k) (by omega)] at hP hD
        have hP : va_P (dC, dI) vwCl [(q, .inr (7, [.ref mq, .ref zq, .ref sq, .ref bq, .ref cq, .long sm, .ref pq, .int ps, .int th])), (mq, .inl (cZ, 12288, .inl fM)), (zq, .inl (cI, 3, .inl fS)), (sq, .inl (cI, 6156, .inl fP)), (bq, .inl (cI, 3, .inl (upd fB k (nI ((fb_ct (P k) 4096) - 1))))), (cq, .inl (cJ, 64, .inr (.inl fC))), (pq, .inl (cI, 8, .inl fT))] H := hP
        have hD : va_D A [(q, .inr (7, [.ref mq, .ref zq, .ref sq, .ref bq, .ref cq, .long sm, .ref pq, .int ps, .int th])), (mq, .inl (cZ, 12288, .inl fM)), (zq, .inl (cI, 3, .inl fS)), (sq, .inl (cI, 6156, .inl fP)), (bq, .inl (cI, 3, .inl (upd fB k (nI ((fb_ct (P k) 4096) - 1))))), (cq, .inl (cJ, 64, .inr (.inl fC))), (pq, .inl (cI, 8, .inl fT))] := hD
        refine lv_iload_n hx hb dX8_merges_51 rfl (lv_at hl 0 rfl) ?_
        refine lv_iconst (v := nI 1) hx hb dX8_merges_52 (by decide +kernel) ?_
        refine lv_iadd hx hb dX8_merges_53 ?_
        refine lv_cvi (nI_add _ _) ?_
        refine lv_istore (lv' := [(4, .int (nI ((erl (P k) b) + 1))), (3, .int (nI (erl (P k) b))), (0, .ref q), (1, .int (nI k)), (2, .int (nI b))]) hx hb dX8_merges_54 hl (by decide) rfl (fun ls hl => ?_)
        have key_56_6 : ∀ (fu : Nat) (j : Nat) (g : Nat → Int32) (hj1 : erl (P k) b + 1 ≤ j ∧ j ≤ fb_ct (P k) 4096 - 1) (hg : g = fun i => if 2052 * k + (erl (P k) b + 1) ≤ i ∧ i < 2052 * k + j then fP (i + 1) else fP i) (hfu : fb_ct (P k) 4096 - j < fu) (H : Heap) (locs : List Loc) (hP : va_P (dC, dI) vwCl [(q, .inr (7, [.ref mq, .ref zq, .ref sq, .ref bq, .ref cq, .long sm, .ref pq, .int ps, .int th])), (mq, .inl (cZ, 12288, .inl fM)), (zq, .inl (cI, 3, .inl fS)), (sq, .inl (cI, 6156, .inl g)), (bq, .inl (cI, 3, .inl (upd fB k (nI ((fb_ct (P k) 4096) - 1))))), (cq, .inl (cJ, 64, .inr (.inl fC))), (pq, .inl (cI, 8, .inl fT))] H) (hD : va_D A [(q, .inr (7, [.ref mq, .ref zq, .ref sq, .ref bq, .ref cq, .long sm, .ref pq, .int ps, .int th])), (mq, .inl (cZ, 12288, .inl fM)), (zq, .inl (cI, 3, .inl fS)), (sq, .inl (cI, 6156, .inl g)), (bq, .inl (cI, 3, .inl (upd fB k (nI ((fb_ct (P k) 4096) - 1))))), (cq, .inl (cJ, 64, .inr (.inl fC))), (pq, .inl (cI, 8, .inl fT))]) (hS : va_S A s.heap H locs) (ls : Array Slot) (hl : lv_has ls 5 [(4, .int (nI j)), (3, .int (nI (erl (P k) b))), (0, .ref q), (1, .int (nI k)), (2, .int (nI b))]), W p l e (headSpec wsX8_merges ({ frames := 3, cells := 0, slots := 0, locals := 72 })).room s m ([.ref q, .int (nI k), .int (nI b)] : List Value).toArray below meth c H locs 0 0 (MQ below (va_Qv (fun (u : (Nat → Int32) × (Nat → Int32)) => MX u.1 u.2 (upF P k (mrg (M k) (P k) b))) (fun (u : (Nat → Int32) × (Nat → Int32)) (t : State) => va_P (dC, dI) vwCl [(q, .inr (7, [.ref mq, .ref zq, .ref sq, .ref bq, .ref cq, .long sm, .ref pq, .int ps, .int th])), (mq, .inl (cZ, 12288, .inl fM)), (zq, .inl (cI, 3, .inl fS)), (sq, .inl (cI, 6156, .inl u.1)), (bq, .inl (cI, 3, .inl u.2)), (cq, .inl (cJ, 64, .inr (.inl fC))), (pq, .inl (cI, 8, .inl fT))] t.heap ∧ va_K (dC, dI) vwCl [(cZ, .boolean), (cI, .int), (cJ, .long)] t ∧ va_D A [(q, .inr (7, [.ref mq, .ref zq, .ref sq, .ref bq, .ref cq, .long sm, .ref pq, .int ps, .int th])), (mq, .inl (cZ, 12288, .inl fM)), (zq, .inl (cI, 3, .inl fS)), (sq, .inl (cI, 6156, .inl u.1)), (bq, .inl (cI, 3, .inl u.2)), (cq, .inl (cJ, 64, .inr (.inl fC))), (pq, .inl (cI, 8, .inl fT))]) A) ([.ref q, .int (nI k), .int (nI b)] : List Value).toArray s 0 0 A) (F0 m 56 ls []) := by
          intro fu
          induction fu with
          | zero =>
            intro j g hj1 hg hfu H locs hP hD hS ls hl
            exact absurd hfu (Nat.not_lt_zero _)
          | succ fu ih =>
            intro j g hj1 hg hfu H locs hP hD hS ls hl
            refine lv_iload hx hb dX8_merges_56 (lv_at hl 0 rfl) ?_
            refine lv_aload_n hx hb dX8_merges_58 rfl (lv_at hl 2 rfl) ?_
            refine va_get (D := (dC, dI)) (ci := 7) (v := .ref bq) (C := RX8) (T := TX8) (N := 9) hx hb hts (by decide +kernel) hown hK hP 0 rfl rfl 3 (by decide) (hts (.fieldLink RX8 20 "SmallNumberSetsModel" "buckets" "[I") (by decide +kernel)) (fun _ h9 => h9) rfl dX8_merges_59 ?_
            refine lv_iload_n hx hb dX8_merges_62 rfl (lv_at hl 3 rfl) ?_
            refine va_iald hx hb hK hP 4 1 rfl rfl (vp_in_nI (by omega) (by omega)) dX8_merges_63 ?_
            refine lv_cvi (congrArg (upd fB k (nI ((fb_ct (P k) 4096) - 1))) (nI_clamp (by omega))) ?_
            refine lv_cvi (pk_us) ?_
            refine lv_icmp_ge (tgt := 101) hx hb dX8_merges_64 (by decide) (fun qc_7 => ?_) (fun qc_7 => ?_)
            · have c_7 : (fb_ct (P k) 4096 - 1) ≤ j := (nI_leI (a := fb_ct (P k) 4096 - 1) (b := j) (by omega) (by omega)).mp qc_7
              have hX2 := mx_del hX hk her (show j = fb_ct (P k) 4096 - 1 by omega) (fun i => congrFun hg i)
              have hct := ct_del_lt her
              have hdc := ct_del (sp_lt her).2.2.1 4096
              refine lv_aload_n hx hb dX8_merges_101 rfl (lv_at hl 2 rfl) ?_
              refine lv_iload_n hx hb dX8_merges_102 rfl (lv_at hl 3 rfl) ?_
              refine lv_iload_n hx hb dX8_merges_103 rfl (lv_at hl 1 rfl) ?_
              have hPc := hP.sub (ws' := [(q, .inr (7, [.ref mq, .ref zq, .ref sq, .ref bq, .ref cq, .long sm, .ref pq, .int ps, .int th])), (mq, .inl (cZ, 12288, .inl fM)), (zq, .inl (cI, 3, .inl fS)), (sq, .inl (cI, 6156, .inl g)), (bq, .inl (cI, 3, .inl (upd fB k (nI ((fb_ct (P k) 4096) - 1))))), (cq, .inl (cJ, 64, .inr (.inl fC))), (pq, .inl (cI, 8, .inl fT))]) [0, 1, 2, 3, 4, 5, 6] rfl
              have hKc := hK.sub (tys' := [(cZ, .boolean), (cI, .int), (cJ, .long)]) [0, 1, 2] rfl
              have hDc := hD.sub (ws' := [(q, .inr (7, [.ref mq, .ref zq, .ref sq, .ref bq, .ref cq, .long sm, .ref pq, .int ps, .int th])), (mq, .inl (cZ, 12288, .inl fM)), (zq, .inl (cI, 3, .inl fS)), (sq, .inl (cI, 6156, .inl g)), (bq, .inl (cI, 3, .inl (upd fB k (nI ((fb_ct (P k) 4096) - 1))))), (cq, .inl (cJ, 64, .inr (.inl fC))), (pq, .inl (cI, 8, .inl fT))]) [0, 1, 2, 3, 4, 5, 6] (by decide) rfl
              have hFc := va_free (wc := [(q, .inr (7, [.ref mq, .ref zq, .ref sq, .ref bq, .ref cq, .long sm, .ref pq, .int ps, .int th])), (mq, .inl (cZ, 12288, .inl fM)), (zq, .inl (cI, 3, .inl fS)), (sq, .inl (cI, 6156, .inl g)), (bq, .inl (cI, 3, .inl (upd fB k (nI ((fb_ct (P k) 4096) - 1))))), (cq, .inl (cJ, 64, .inr (.inl fC))), (pq, .inl (cI, 8, .inl fT))]) hD hS hA [0, 1, 2, 3, 4, 5, 6] rfl
              refine va_callv (va_runV (As := [.int (nI k), .int (nI (erl (P k) b))]) (rest := []) ⟨hx, hb, hml, hown, hts⟩ (c_X8_splits l dC dI q mq zq sq bq cq pq cZ cI cJ fM fS g (upd fB k (nI ((fb_ct (P k) 4096) - 1))) fC sm fT ps th M (upF P k (del (P k) (sp (P k) (erl (P k) b + 1)))) k (erl (P k) b) H.size (by first | assumption | omega) hX2 (by first | assumption | omega) (by rw [upF_s]; exact hct) (by rw [upF_s]; omega)) (cwV 2 hts gX8_merges_X8_splits rfl rfl rfl (by decide +kernel) ⟨Nat.le_of_ble_eq_true rfl, Nat.le_of_ble_eq_true rfl⟩) ⟨fun a U g mk q => by obtain ⟨q0, q1, qP, qK, qD⟩ := q; exact ⟨q0, q1, qP, va_K.moved (u := U) (U := U.calling g mk a) (Vm.Alike.refl U.vm) qK, qD⟩, va_recv hKc hPc (ci := 7) (q0 := 0) rfl rfl, fun U hU hW => ⟨rfl, by rw [hU], by rw [hU]; exact hPc, va_K.moved hW.alike hKc, hDc.weaken (fun _ _ _ _ => trivial)⟩⟩ rfl rfl hl.1 rfl (lv_room (Nat.le_of_ble_eq_true rfl)) dX8_merges_104 ⟨Nat.le_of_ble_eq_true rfl, Nat.le_of_ble_eq_true rfl⟩) hS (fun q _ h => hFc q h) hFc (fun u_9 t9 H1 locs ht hvm hw_8 hB hz1 hk1 hS => ?_)
              obtain ⟨fP'_11, fB'_12⟩ := u_9
              obtain ⟨hP1, hK1, hD1⟩ := hB
              rw [ht] at hP1
              have hK1 := va_K.moved hvm.symm hK1
              try dsimp only at hw_8 hP1 hK1 hD1
              obtain ⟨hP, hD⟩ := va_join (wr := []) (w1 := [(q, .inr (7, [.ref mq, .ref zq, .ref sq, .ref bq, .ref cq, .long sm, .ref pq, .int ps, .int th])), (mq, .inl (cZ, 12288, .inl fM)), (zq, .inl (cI, 3, .inl fS)), (sq, .inl (cI, 6156, .inl fP'_11)), (bq, .inl (cI, 3, .inl fB'_12)), (cq, .inl (cJ, 64, .inr (.inl fC))), (pq, .inl (cI, 8, .inl fT))]) hP hD [0, 1, 2, 3, 4, 5, 6] [] rfl rfl (by decide) (by decide) hk1 hFc hP1 hD1
              generalize H1 = H at hP hS ⊢
              have hP : va_P (dC, dI) vwCl [(q, .inr (7, [.ref mq, .ref zq, .ref sq, .ref bq, .ref cq, .long sm, .ref pq, .int ps, .int th])), (mq, .inl (cZ, 12288, .inl fM)), (zq, .inl (cI, 3, .inl fS)), (sq, .inl (cI, 6156, .inl fP'_11)), (bq, .inl (cI, 3, .inl fB'_12)), (cq, .inl (cJ, 64, .inr (.inl fC))), (pq, .inl (cI, 8, .inl fT))] H := hP
              have hD : va_D A [(q, .inr (7, [.ref mq, .ref zq, .ref sq, .ref bq, .ref cq, .long sm, .ref pq, .int ps, .int th])), (mq, .inl (cZ, 12288, .inl fM)), (zq, .inl (cI, 3, .inl fS)), (sq, .inl (cI, 6156, .inl fP'_11)), (bq, .inl (cI, 3, .inl fB'_12)), (cq, .inl (cJ, 64, .inr (.inl fC))), (pq, .inl (cI, 8, .inl fT))] := hD
              have hP9 := hP.sub (ws' := [(q, .inr (7, [.ref mq, .ref zq, .ref sq, .ref bq, .ref cq, .long sm, .ref pq, .int ps, .int th])), (mq, .inl (cZ, 12288, .inl fM)), (zq, .inl (cI, 3, .inl fS)), (sq, .inl (cI, 6156, .inl fP'_11)), (bq, .inl (cI, 3, .inl fB'_12)), (cq, .inl (cJ, 64, .inr (.inl fC))), (pq, .inl (cI, 8, .inl fT))]) [0, 1, 2, 3, 4, 5, 6] rfl
              have hD9 := hD.sub (ws' := [(q, .inr (7, [.ref mq, .ref zq, .ref sq, .ref bq, .ref cq, .long sm, .ref pq, .int ps, .int th])), (mq, .inl (cZ, 12288, .inl fM)), (zq, .inl (cI, 3, .inl fS)), (sq, .inl (cI, 6156, .inl fP'_11)), (bq, .inl (cI, 3, .inl fB'_12)), (cq, .inl (cJ, 64, .inr (.inl fC))), (pq, .inl (cI, 8, .inl fT))]) [0, 1, 2, 3, 4, 5, 6] (by decide) rfl
              have hK9 := hK.sub (tys' := [(cZ, .boolean), (cI, .int), (cJ, .long)]) [0, 1, 2] rfl
              exact W.vret hx hb hr (fun t9 ht hW => ⟨⟨⟨fP'_11, fB'_12⟩, rfl, (show MX fP'_11 fB'_12 (upF P k (mrg (M k) (P k) b)) from by
                have h9 := hw_8
                rw [upF_2, upF_s] at h9
                rw [show mrg (M k) (P k) b = _ from if_neg (by omega)]
                exact h9), by rw [ht]; exact hP9, va_K.moved hW.alike hK9, hD9⟩, hS.F ht⟩) hS.2.2 dX8_merges_107
            · have c_7 : ¬ (fb_ct (P k) 4096 - 1) ≤ j := fun h9 => qc_7 ((nI_leI (a := fb_ct (P k) 4096 - 1) (b := j) (by omega) (by omega)).mpr h9)
              refine lv_aload_n hx hb dX8_merges_67 rfl (lv_at hl 2 rfl) ?_
              refine va_get (D := (dC, dI)) (ci := 7) (v := .ref sq) (C := RX8) (T := TX8) (N := 9) hx hb hts (by decide +kernel) hown hK hP 0 rfl rfl 2 (by decide) (hts (.fieldLink RX8 17 "SmallNumberSetsModel" "separators" "[I") (by decide +kernel)) (fun _ h9 => h9) rfl dX8_merges_68 ?_
              refine lv_sipush (v := nI 2052) hx hb dX8_merges_71 (by decide +kernel) ?_
              refine lv_iload_n hx hb dX8_merges_74 rfl (lv_at hl 3 rfl) ?_
              refine lv_imul hx hb dX8_merges_75 ?_
              refine lv_cvi (pk_mul _ _) ?_
              refine lv_iload hx hb dX8_merges_76 (lv_at hl 0 rfl) ?_
              refine lv_iadd hx hb dX8_merges_78 ?_
              refine lv_cvi (nI_add _ _) ?_
              refine lv_aload_n hx hb dX8_merges_79 rfl (lv_at hl 2 rfl) ?_
              refine va_get (D := (dC, dI)) (ci := 7) (v := .ref sq) (C := RX8) (T := TX8) (N := 9) hx hb hts (by decide +kernel) hown hK hP 0 rfl rfl 2 (by decide) (hts (.fieldLink RX8 17 "SmallNumberSetsModel" "separators" "[I") (by decide +kernel)) (fun _ h9 => h9) rfl dX8_merges_80 ?_
              refine lv_sipush (v := nI 2052) hx hb dX8_merges_83 (by decide +kernel) ?_
              refine lv_iload_n hx hb dX8_merges_86 rfl (lv_at hl 3 rfl) ?_
              refine lv_imul hx hb dX8_merges_87 ?_
              refine lv_cvi (pk_mul _ _) ?_
              refine lv_iload hx hb dX8_merges_88 (lv_at hl 0 rfl) ?_
              refine lv_iadd hx hb dX8_merges_90 ?_
              refine lv_cvi (nI_add _ _) ?_
              refine lv_iconst (v := nI 1) hx hb dX8_merges_91 (by decide +kernel) ?_
              refine lv_iadd hx hb dX8_merges_92 ?_
              refine lv_cvi (nI_add _ _) ?_
              refine va_iald hx hb hK hP 3 1 rfl rfl (vp_in_nI (by omega) (by omega)) dX8_merges_93 ?_
              refine lv_cvi (congrArg g (nI_clamp (by omega))) ?_
              refine va_iast hx hb hK hP hD hS 3 1 rfl rfl (vp_in_nI (by omega) (by omega)) dX8_merges_94 (fun H locs hP hD hS => ?_)
              rw [nI_clamp (n := (2052 * k) + j) (by omega)] at hP hD
              have hP : va_P (dC, dI) vwCl [(q, .inr (7, [.ref mq, .ref zq, .ref sq, .ref bq, .ref cq, .long sm, .ref pq, .int ps, .int th])), (mq, .inl (cZ, 12288, .inl fM)), (zq, .inl (cI, 3, .inl fS)), (sq, .inl (cI, 6156, .inl (upd g ((2052 * k) + j) (g (((2052 * k) + j) + 1))))), (bq, .inl (cI, 3, .inl (upd fB k (nI ((fb_ct (P k) 4096) - 1))))), (cq, .inl (cJ, 64, .inr (.inl fC))), (pq, .inl (cI, 8, .inl fT))] H := hP
              have hD : va_D A [(q, .inr (7, [.ref mq, .ref zq, .ref sq, .ref bq, .ref cq, .long sm, .ref pq, .int ps, .int th])), (mq, .inl (cZ, 12288, .inl fM)), (zq, .inl (cI, 3, .inl fS)), (sq, .inl (cI, 6156, .inl (upd g ((2052 * k) + j) (g (((2052 * k) + j) + 1))))), (bq, .inl (cI, 3, .inl (upd fB k (nI ((fb_ct (P k) 4096) - 1))))), (cq, .inl (cJ, 64, .inr (.inl fC))), (pq, .inl (cI, 8, .inl fT))] := hD
              refine lv_iinc (v := nI (j + 1)) (lv' := [(4, .int (nI (j + 1))), (3, .int (nI (erl (P k) b))), (0, .ref q), (1, .int (nI k)), (2, .int (nI b))]) hx hb dX8_merges_95 hl (k := 0) rfl (nI_1 _) (by decide) rfl (fun ls hl => ?_)
              refine lv_goto (tgt := 56) hx hb dX8_merges_98 (by decide) ?_
              exact ih (j + 1) (upd g ((2052 * k) + j) (g (((2052 * k) + j) + 1))) (by omega) (funext (shr_step (by omega) (fun i => congrFun hg i))) (by omega) _ _ hP hD hS ls (lv_sub hl [0, 1, 2, 3, 4] rfl)
        exact key_56_6 _ (erl (P k) b + 1) fP (by omega) (funext fun i => (if_neg (by omega)).symm) (Nat.lt_succ_self _) _ _ hP hD hS ls (lv_sub hl [0, 1, 2, 3, 4] rfl)
      · have c_5 : b = ((fb_ct (P k) 4096) - 1) := (nI_eq (a := b) (b := (fb_ct (P k) 4096) - 1) (by omega) (by omega)).mp qc_5
        refine lv_iload_n hx hb dX8_merges_33 rfl (lv_at hl 2 rfl) ?_
        refine lv_iconst (v := nI 1) hx hb dX8_merges_34 (by decide +kernel) ?_
        refine lv_isub hx hb dX8_merges_35 ?_
        refine lv_cvi (pk_sub (by omega)) ?_
        refine lv_goto (tgt := 40) hx hb dX8_merges_36 (by decide) ?_
        have hel : b - 1 = erl (P k) b := by unfold erl; first | (rw [if_pos (by omega)]; done) | (rw [if_neg (by omega)]; done)
        have her := erl_lt hb9 (by omega)
        refine lv_cvi (congrArg nI hel) ?_
        clear hel
        refine lv_istore_n (lv' := [(3, .int (nI (erl (P k) b))), (0, .ref q), (1, .int (nI k)), (2, .int (nI b))]) hx hb dX8_merges_40 rfl hl (by decide) rfl (fun ls hl => ?_)
        refine lv_aload_n hx hb dX8_merges_41 rfl (lv_at hl 1 rfl) ?_
        refine va_get (D := (dC, dI)) (ci := 7) (v := .ref bq) (C := RX8) (T := TX8) (N := 9) hx hb hts (by decide +kernel) hown hK hP 0 rfl rfl 3 (by decide) (hts (.fieldLink RX8 20 "SmallNumberSetsModel" "buckets" "[I") (by decide +kernel)) (fun _ h9 => h9) rfl dX8_merges_42 ?_
        refine lv_iload_n hx hb dX8_merges_45 rfl (lv_at hl 2 rfl) ?_
        refine lv_dup2_11 hx hb dX8_merges_46 rfl rfl ?_
        refine va_iald hx hb hK hP 4 1 rfl rfl (vp_in_nI (by omega) (by omega)) dX8_merges_47 ?_
        refine lv_cvi (congrArg fB (nI_clamp (by omega))) ?_
        refine lv_cvi ((hX k hk).1) ?_
        refine lv_iconst (v := nI 1) hx hb dX8_merges_48 (by decide +kernel) ?_
        refine lv_isub hx hb dX8_merges_49 ?_
        refine lv_cvi (pk_sub (by omega)) ?_
        refine va_iast hx hb hK hP hD hS 4 1 rfl rfl (vp_in_nI (by omega) (by omega)) dX8_merges_50 (fun H locs hP hD hS => ?_)
        rw [nI_clamp (n := k) (by omega)] at hP hD
        have hP : va_P (dC, dI) vwCl [(q, .inr (7, [.ref mq, .ref zq, .ref sq, .ref bq, .ref cq, .long sm, .ref pq, .int ps, .int th])), (mq, .inl (cZ, 12288, .inl fM)), (zq, .inl (cI, 3, .inl fS)), (sq, .inl (cI, 6156, .inl fP)), (bq, .inl (cI, 3, .inl (upd fB k (nI ((fb_ct (P k) 4096) - 1))))), (cq, .inl (cJ, 64, .inr (.inl fC))), (pq, .inl (cI, 8, .inl fT))] H := hP
        have hD : va_D A [(q, .inr (7, [.ref mq, .ref zq, .ref sq, .ref bq, .ref cq, .long sm, .ref pq, .int ps, .int th])), (mq, .inl (cZ, 12288, .inl fM)), (zq, .inl (cI, 3, .inl fS)), (sq, .inl (cI, 6156, .inl fP)), (bq, .inl (cI, 3, .inl (upd fB k (nI ((fb_ct (P k) 4096) - 1))))), (cq, .inl (cJ, 64, .inr (.inl fC))), (pq, .inl (cI, 8, .inl fT))] := hD
        refine lv_iload_n hx hb dX8_merges_51 rfl (lv_at hl 0 rfl) ?_
        refine lv_iconst (v := nI 1) hx hb dX8_merges_52 (by decide +kernel) ?_
        refine lv_iadd hx hb dX8_merges_53 ?_
        refine lv_cvi (nI_add _ _) ?_
        refine lv_istore (lv' := [(4, .int (nI ((erl (P k) b) + 1))), (3, .int (nI (erl (P k) b))), (0, .ref q), (1, .int (nI k)), (2, .int (nI b))]) hx hb dX8_merges_54 hl (by decide) rfl (fun ls hl => ?_)
        have key_56_13 : ∀ (fu : Nat) (j : Nat) (g : Nat → Int32) (hj1 : erl (P k) b + 1 ≤ j ∧ j ≤ fb_ct (P k) 4096 - 1) (hg : g = fun i => if 2052 * k + (erl (P k) b + 1) ≤ i ∧ i < 2052 * k + j then fP (i + 1) else fP i) (hfu : fb_ct (P k) 4096 - j < fu) (H : Heap) (locs : List Loc) (hP : va_P (dC, dI) vwCl [(q, .inr (7, [.ref mq, .ref zq, .ref sq, .ref bq, .ref cq, .long sm, .ref pq, .int ps, .int th])), (mq, .inl (cZ, 12288, .inl fM)), (zq, .inl (cI, 3, .inl fS)), (sq, .inl (cI, 6156, .inl g)), (bq, .inl (cI, 3, .inl (upd fB k (nI ((fb_ct (P k) 4096) - 1))))), (cq, .inl (cJ, 64, .inr (.inl fC))), (pq, .inl (cI, 8, .inl fT))] H) (hD : va_D A [(q, .inr (7, [.ref mq, .ref zq, .ref sq, .ref bq, .ref cq, .long sm, .ref pq, .int ps, .int th])), (mq, .inl (cZ, 12288, .inl fM)), (zq, .inl (cI, 3, .inl fS)), (sq, .inl (cI, 6156, .inl g)), (bq, .inl (cI, 3, .inl (upd fB k (nI ((fb_ct (P k) 4096) - 1))))), (cq, .inl (cJ, 64, .inr (.inl fC))), (pq, .inl (cI, 8, .inl fT))]) (hS : va_S A s.heap H locs) (ls : Array Slot) (hl : lv_has ls 5 [(4, .int (nI j)), (3, .int (nI (erl (P k) b))), (0, .ref q), (1, .int (nI k)), (2, .int (nI b))]), W p l e (headSpec wsX8_merges ({ frames := 3, cells := 0, slots := 0, locals := 72 })).room s m ([.ref q, .int (nI k), .int (nI b)] : List Value).toArray below meth c H locs 0 0 (MQ below (va_Qv (fun (u : (Nat → Int32) × (Nat → Int32)) => MX u.1 u.2 (upF P k (mrg (M k) (P k) b))) (fun (u : (Nat → Int32) × (Nat → Int32)) (t : State) => va_P (dC, dI) vwCl [(q, .inr (7, [.ref mq, .ref zq, .ref sq, .ref bq, .ref cq, .long sm, .ref pq, .int ps, .int th])), (mq, .inl (cZ, 12288, .inl fM)), (zq, .inl (cI, 3, .inl fS)), (sq, .inl (cI, 6156, .inl u.1)), (bq, .inl (cI, 3, .inl u.2)), (cq, .inl (cJ, 64, .inr (.inl fC))), (pq, .inl (cI, 8, .inl fT))] t.heap ∧ va_K (dC, dI) vwCl [(cZ, .boolean), (cI, .int), (cJ, .long)] t ∧ va_D A [(q, .inr (7, [.ref mq, .ref zq, .ref sq, .ref bq, .ref cq, .long sm, .ref pq, .int ps, .int th])), (mq, .inl (cZ, 12288, .inl fM)), (zq, .inl (cI, 3, .inl fS)), (sq, .inl (cI, 6156, .inl u.1)), (bq, .inl (cI, 3, .inl u.2)), (cq, .inl (cJ, 64, .inr (.inl fC))), (pq, .inl (cI, 8, .inl fT))]) A) ([.ref q, .int (nI k), .int (nI b)] : List Value).toArray s 0 0 A) (F0 m 56 ls []) := by
          intro fu
          induction fu with
          | zero =>
            intro j g hj1 hg hfu H locs hP hD hS ls hl
            exact absurd hfu (Nat.not_lt_zero _)
          | succ fu ih =>
            intro j g hj1 hg hfu H locs hP hD hS ls hl
            refine lv_iload hx hb dX8_merges_56 (lv_at hl 0 rfl) ?_
            refine lv_aload_n hx hb dX8_merges_58 rfl (lv_at hl 2 rfl) ?_
            refine va_get (D := (dC, dI)) (ci := 7) (v := .ref bq) (C := RX8) (T := TX8) (N := 9) hx hb hts (by decide +kernel) hown hK hP 0 rfl rfl 3 (by decide) (hts (.fieldLink RX8 20 "SmallNumberSetsModel" "buckets" "[I") (by decide +kernel)) (fun _ h9 => h9) rfl dX8_merges_59 ?_
            refine lv_iload_n hx hb dX8_merges_62 rfl (lv_at hl 3 rfl) ?_
            refine va_iald hx hb hK hP 4 1 rfl rfl (vp_in_nI (by omega) (by omega)) dX8_merges_63 ?_
            refine lv_cvi (congrArg (upd fB k (nI ((fb_ct (P k) 4096) - 1))) (nI_clamp (by omega))) ?_
            refine lv_cvi (pk_us) ?_
            refine lv_icmp_ge (tgt := 101) hx hb dX8_merges_64 (by decide) (fun qc_14 => ?_) (fun qc_14 => ?_)
            · have c_14 : (fb_ct (P k) 4096 - 1) ≤ j := (nI_leI (a := fb_ct (P k) 4096 - 1) (b := j) (by omega) (by omega)).mp qc_14
              have hX2 := mx_del hX hk her (show j = fb_ct (P k) 4096 - 1 by omega) (fun i => congrFun hg i)
              have hct := ct_del_lt her
              have hdc := ct_del (sp_lt her).2.2.1 4096
              refine lv_aload_n hx hb dX8_merges_101 rfl (lv_at hl 2 rfl) ?_
              refine lv_iload_n hx hb dX8_merges_102 rfl (lv_at hl 3 rfl) ?_
              refine lv_iload_n hx hb dX8_merges_103 rfl (lv_at hl 1 rfl) ?_
              have hPc := hP.sub (ws' := [(q, .inr (7, [.ref mq, .ref zq, .ref sq, .ref bq, .ref cq, .long sm, .ref pq, .int ps, .int th])), (mq, .inl (cZ, 12288, .inl fM)), (zq, .inl (cI, 3, .inl fS)), (sq, .inl (cI, 6156, .inl g)), (bq, .inl (cI, 3, .inl (upd fB k (nI ((fb_ct (P k) 4096) - 1))))), (cq, .inl (cJ, 64, .inr (.inl fC))), (pq, .inl (cI, 8, .inl fT))]) [0, 1, 2, 3, 4, 5, 6] rfl
              have hKc := hK.sub (tys' := [(cZ, .boolean), (cI, .int), (cJ, .long)]) [0, 1, 2] rfl
              have hDc := hD.sub (ws' := [(q, .inr (7, [.ref mq, .ref zq, .ref sq, .ref bq, .ref cq, .long sm, .ref pq, .int ps, .int th])), (mq, .inl (cZ, 12288, .inl fM)), (zq, .inl (cI, 3, .inl fS)), (sq, .inl (cI, 6156, .inl g)), (bq, .inl (cI, 3, .inl (upd fB k (nI ((fb_ct (P k) 4096) - 1))))), (cq, .inl (cJ, 64, .inr (.inl fC))), (pq, .inl (cI, 8, .inl fT))]) [0, 1, 2, 3, 4, 5, 6] (by decide) rfl
              have hFc := va_free (wc := [(q, .inr (7, [.ref mq, .ref zq, .ref sq, .ref bq, .ref cq, .long sm, .ref pq, .int ps, .int th])), (mq, .inl (cZ, 12288, .inl fM)), (zq, .inl (cI, 3, .inl fS)), (sq, .inl (cI, 6156, .inl g)), (bq, .inl (cI, 3, .inl (upd fB k (nI ((fb_ct (P k) 4096) - 1))))), (cq, .inl (cJ, 64, .inr (.inl fC))), (pq, .inl (cI, 8, .inl fT))]) hD hS hA [0, 1, 2, 3, 4, 5, 6] rfl
              refine va_callv (va_runV (As := [.int (nI k), .int (nI (erl (P k) b))]) (rest := []) ⟨hx, hb, hml, hown, hts⟩ (c_X8_splits l dC dI q mq zq sq bq cq pq cZ cI cJ fM fS g (upd fB k (nI ((fb_ct (P k) 4096) - 1))) fC sm fT ps th M (upF P k (del (P k) (sp (P k) (erl (P k) b + 1)))) k (erl (P k) b) H.size (by first | assumption | omega) hX2 (by first | assumption | omega) (by rw [upF_s]; exact hct) (by rw [upF_s]; omega)) (cwV 2 hts gX8_merges_X8_splits rfl rfl rfl (by decide +kernel) ⟨Nat.le_of_ble_eq_true rfl, Nat.le_of_ble_eq_true rfl⟩) ⟨fun a U g mk q => by obtain ⟨q0, q1, qP, qK, qD⟩ := q; exact ⟨q0, q1, qP, va_K.moved (u := U) (U := U.calling g mk a) (Vm.Alike.refl U.vm) qK, qD⟩, va_recv hKc hPc (ci := 7) (q0 := 0) rfl rfl, fun U hU hW => ⟨rfl, by rw [hU], by rw [hU]; exact hPc, va_K.moved hW.alike hKc, hDc.weaken (fun _ _ _ _ => trivial)⟩⟩ rfl rfl hl.1 rfl (lv_room (Nat.le_of_ble_eq_true rfl)) dX8_merges_104 ⟨Nat.le_of_ble_eq_true rfl, Nat.le_of_ble_eq_true rfl⟩) hS (fun q _ h => hFc q h) hFc (fun u_16 t9 H1 locs ht hvm hw_15 hB hz1 hk1 hS => ?_)
              obtain ⟨fP'_18, fB'_19⟩ := u_16
              obtain ⟨hP1, hK1, hD1⟩ := hB
              rw [ht] at hP1
              have hK1 := va_K.moved hvm.symm hK1
              try dsimp only at hw_15 hP1 hK1 hD1
              obtain ⟨hP, hD⟩ := va_join (wr := []) (w1 := [(q, .inr (7, [.ref mq, .ref zq, .ref sq, .ref bq, .ref cq, .long sm, .ref pq, .int ps, .int th])), (mq, .inl (cZ, 12288, .inl fM)), (zq, .inl (cI, 3, .inl fS)), (sq, .inl (cI, 6156, .inl fP'_18)), (bq, .inl (cI, 3, .inl fB'_19)), (cq, .inl (cJ, 64, .inr (.inl fC))), (pq, .inl (cI, 8, .inl fT))]) hP hD [0, 1, 2, 3, 4, 5, 6] [] rfl rfl (by decide) (by decide) hk1 hFc hP1 hD1
              generalize H1 = H at hP hS ⊢
              have hP : va_P (dC, dI) vwCl [(q, .inr (7, [.ref mq, .ref zq, .ref sq, .ref bq, .ref cq, .long sm, .ref pq, .int ps, .int th])), (mq, .inl (cZ, 12288, .inl fM)), (zq, .inl (cI, 3, .inl fS)), (sq, .inl (cI, 6156, .inl fP'_18)), (bq, .inl (cI, 3, .inl fB'_19)), (cq, .inl (cJ, 64, .inr (.inl fC))), (pq, .inl (cI, 8, .inl fT))] H := hP
              have hD : va_D A [(q, .inr (7, [.ref mq, .ref zq, .ref sq, .ref bq, .ref cq, .long sm, .ref pq, .int ps, .int th])), (mq, .inl (cZ, 12288, .inl fM)), (zq, .inl (cI, 3, .inl fS)), (sq, .inl (cI, 6156, .inl fP'_18)), (bq, .inl (cI, 3, .inl fB'_19)), (cq, .inl (cJ, 64, .inr (.inl fC))), (pq, .inl (cI, 8, .inl fT))] := hD
              have hP9 := hP.sub (ws' := [(q, .inr (7, [.ref mq, .ref zq, .ref sq, .ref bq, .ref cq, .long sm, .ref pq, .int ps, .int th])), (mq, .inl (cZ, 12288, .inl fM)), (zq, .inl (cI, 3, .inl fS)), (sq, .inl (cI, 6156, .inl fP'_18)), (bq, .inl (cI, 3, .inl fB'_19)), (cq, .inl (cJ, 64, .inr (.inl fC))), (pq, .inl (cI, 8, .inl fT))]) [0, 1, 2, 3, 4, 5, 6] rfl
              have hD9 := hD.sub (ws' := [(q, .inr (7, [.ref mq, .ref zq, .ref sq, .ref bq, .ref cq, .long sm, .ref pq, .int ps, .int th])), (mq, .inl (cZ, 12288, .inl fM)), (zq, .inl (cI, 3, .inl fS)), (sq, .inl (cI, 6156, .inl fP'_18)), (bq, .inl (cI, 3, .inl fB'_19)), (cq, .inl (cJ, 64, .inr (.inl fC))), (pq, .inl (cI, 8, .inl fT))]) [0, 1, 2, 3, 4, 5, 6] (by decide) rfl
              have hK9 := hK.sub (tys' := [(cZ, .boolean), (cI, .int), (cJ, .long)]) [0, 1, 2] rfl
              exact W.vret hx hb hr (fun t9 ht hW => ⟨⟨⟨fP'_18, fB'_19⟩, rfl, (show MX fP'_18 fB'_19 (upF P k (mrg (M k) (P k) b)) from by
                have h9 := hw_15
                rw [upF_2, upF_s] at h9
                rw [show mrg (M k) (P k) b = _ from if_neg (by omega)]
                exact h9), by rw [ht]; exact hP9, va_K.moved hW.alike hK9, hD9⟩, hS.F ht⟩) hS.2.2 dX8_merges_107
            · have c_14 : ¬ (fb_ct (P k) 4096 - 1) ≤ j := fun h9 => qc_14 ((nI_leI (a := fb_ct (P k) 4096 - 1) (b := j) (by omega) (by omega)).mpr h9)
              refine lv_aload_n hx hb dX8_merges_67 rfl (lv_at hl 2 rfl) ?_
              refine va_get (D := (dC, dI)) (ci := 7) (v := .ref sq) (C := RX8) (T := TX8) (N := 9) hx hb hts (by decide +kernel) hown hK hP 0 rfl rfl 2 (by decide) (hts (.fieldLink RX8 17 "SmallNumberSetsModel" "separators" "[I") (by decide +kernel)) (fun _ h9 => h9) rfl dX8_merges_68 ?_
              refine lv_sipush (v := nI 2052) hx hb dX8_merges_71 (by decide +kernel) ?_
              refine lv_iload_n hx hb dX8_merges_74 rfl (lv_at hl 3 rfl) ?_
              refine lv_imul hx hb dX8_merges_75 ?_
              refine lv_cvi (pk_mul _ _) ?_
              refine lv_iload hx hb dX8_merges_76 (lv_at hl 0 rfl) ?_
              refine lv_iadd hx hb dX8_merges_78 ?_
              refine lv_cvi (nI_add _ _) ?_
              refine lv_aload_n hx hb dX8_merges_79 rfl (lv_at hl 2 rfl) ?_
              refine va_get (D := (dC, dI)) (ci := 7) (v := .ref sq) (C := RX8) (T := TX8) (N := 9) hx hb hts (by decide +kernel) hown hK hP 0 rfl rfl 2 (by decide) (hts (.fieldLink RX8 17 "SmallNumberSetsModel" "separators" "[I") (by decide +kernel)) (fun _ h9 => h9) rfl dX8_merges_80 ?_
              refine lv_sipush (v := nI 2052) hx hb dX8_merges_83 (by decide +kernel) ?_
              refine lv_iload_n hx hb dX8_merges_86 rfl (lv_at hl 3 rfl) ?_
              refine lv_imul hx hb dX8_merges_87 ?_
              refine lv_cvi (pk_mul _ _) ?_
              refine lv_iload hx hb dX8_merges_88 (lv_at hl 0 rfl) ?_
              refine lv_iadd hx hb dX8_merges_90 ?_
              refine lv_cvi (nI_add _ _) ?_
              refine lv_iconst (v := nI 1) hx hb dX8_merges_91 (by decide +kernel) ?_
              refine lv_iadd hx hb dX8_merges_92 ?_
              refine lv_cvi (nI_add _ _) ?_
              refine va_iald hx hb hK hP 3 1 rfl rfl (vp_in_nI (by omega) (by omega)) dX8_merges_93 ?_
              refine lv_cvi (congrArg g (nI_clamp (by omega))) ?_
              refine va_iast hx hb hK hP hD hS 3 1 rfl rfl (vp_in_nI (by omega) (by omega)) dX8_merges_94 (fun H locs hP hD hS => ?_)
              rw [nI_clamp (n := (2052 * k) + j) (by omega)] at hP hD
              have hP : va_P (dC, dI) vwCl [(q, .inr (7, [.ref mq, .ref zq, .ref sq, .ref bq, .ref cq, .long sm, .ref pq, .int ps, .int th])), (mq, .inl (cZ, 12288, .inl fM)), (zq, .inl (cI, 3, .inl fS)), (sq, .inl (cI, 6156, .inl (upd g ((2052 * k) + j) (g (((2052 * k) + j) + 1))))), (bq, .inl (cI, 3, .inl (upd fB k (nI ((fb_ct (P k) 4096) - 1))))), (cq, .inl (cJ, 64, .inr (.inl fC))), (pq, .inl (cI, 8, .inl fT))] H := hP
              have hD : va_D A [(q, .inr (7, [.ref mq, .ref zq, .ref sq, .ref bq, .ref cq, .long sm, .ref pq, .int ps, .int th])), (mq, .inl (cZ, 12288, .inl fM)), (zq, .inl (cI, 3, .inl fS)), (sq, .inl (cI, 6156, .inl (upd g ((2052 * k) + j) (g (((2052 * k) + j) + 1))))), (bq, .inl (cI, 3, .inl (upd fB k (nI ((fb_ct (P k) 4096) - 1))))), (cq, .inl (cJ, 64, .inr (.inl fC))), (pq, .inl (cI, 8, .inl fT))] := hD
              refine lv_iinc (v := nI (j + 1)) (lv' := [(4, .int (nI (j + 1))), (3, .int (nI (erl (P k) b))), (0, .ref q), (1, .int (nI k)), (2, .int (nI b))]) hx hb dX8_merges_95 hl (k := 0) rfl (nI_1 _) (by decide) rfl (fun ls hl => ?_)
              refine lv_goto (tgt := 56) hx hb dX8_merges_98 (by decide) ?_
              exact ih (j + 1) (upd g ((2052 * k) + j) (g (((2052 * k) + j) + 1))) (by omega) (funext (shr_step (by omega) (fun i => congrFun hg i))) (by omega) _ _ hP hD hS ls (lv_sub hl [0, 1, 2, 3, 4] rfl)
        exact key_56_13 _ (erl (P k) b + 1) fP (by omega) (funext fun i => (if_neg (by omega)).symm) (Nat.lt_succ_self _) _ _ hP hD hS ls (lv_sub hl [0, 1, 2, 3, 4] rfl)
    · have c_4 : (fb_ct (P k) 4096) = 1 := (nI_eq (a := fb_ct (P k) 4096) (b := 1) (by omega) (by omega)).mp qc_4
      have hP9 := hP.sub (ws' := [(q, .inr (7, [.ref mq, .ref zq, .ref sq, .ref bq, .ref cq, .long sm, .ref pq, .int ps, .int th])), (mq, .inl (cZ, 12288, .inl fM)), (zq, .inl (cI, 3, .inl fS)), (sq, .inl (cI, 6156, .inl fP)), (bq, .inl (cI, 3, .inl fB)), (cq, .inl (cJ, 64, .inr (.inl fC))), (pq, .inl (cI, 8, .inl fT))]) [0, 1, 2, 3, 4, 5, 6] rfl
      have hD9 := hD.sub (ws' := [(q, .inr (7, [.ref mq, .ref zq, .ref sq, .ref bq, .ref cq, .long sm, .ref pq, .int ps, .int th])), (mq, .inl (cZ, 12288, .inl fM)), (zq, .inl (cI, 3, .inl fS)), (sq, .inl (cI, 6156, .inl fP)), (bq, .inl (cI, 3, .inl fB)), (cq, .inl (cJ, 64, .inr (.inl fC))), (pq, .inl (cI, 8, .inl fT))]) [0, 1, 2, 3, 4, 5, 6] (by decide) rfl
      have hK9 := hK.sub (tys' := [(cZ, .boolean), (cI, .int), (cJ, .long)]) [0, 1, 2] rfl
      exact W.vret hx hb hr (fun t9 ht hW => ⟨⟨⟨fP, fB⟩, rfl, (show MX fP fB (upF P k (mrg (M k) (P k) b)) from mx_same hX (by unfold mrg; rw [if_pos (by omega)])), by rw [ht]; exact hP9, va_K.moved hW.alike hK9, hD9⟩, hS.F ht⟩) hS.2.2 dX8_merges_20
set_option maxHeartbeats 4000000 in
set_option maxRecDepth 100000 in
/-- reference: puts -/
theorem c_X8_puts (l : Launch) (dC : Nat → ClassId) (dI : Nat → Nat → Nat) (q : Nat) (mq : Nat) (zq : Nat) (sq : Nat) (bq : Nat) (cq : Nat) (pq : Nat) (cZ : ClassId) (cI : ClassId) (cJ : ClassId) (fM : Nat → Int32) (fS : Nat → Int32) (fP : Nat → Int32) (fB : Nat → Int32) (fC : Nat → Int64) (sm : Int64) (fT : Nat → Int32) (ps : Int32) (th : Int32) (M : Nat → Nat → Bool) (P : Nat → Nat → Bool) (k : Nat) (x : Nat) (sz : Nat) (hM : MM fM M) (hZ : MZ fS M) (hX : MX fP fB P) (hk : k < 3) (hxx : x < 4096) (hc9 : fb_ct (P k) 4096 ≤ 2048) : Met l yX8_puts wsX8_puts ({ frames := 3, cells := 0, slots := 0, locals := 72 }) (va_Pc [.ref q, .int (nI k), .int (nI x)] (fun U => U.heap.size = sz ∧ va_P (dC, dI) vwCl [(q, .inr (7, [.ref mq, .ref zq, .ref sq, .ref bq, .ref cq, .long sm, .ref pq, .int ps, .int th])), (mq, .inl (cZ, 12288, .inl fM)), (zq, .inl (cI, 3, .inl fS)), (sq, .inl (cI, 6156, .inl fP)), (bq, .inl (cI, 3, .inl fB)), (cq, .inl (cJ, 64, .inr (.inl fC))), (pq, .inl (cI, 8, .inl fT))] U.heap ∧ va_K (dC, dI) vwCl [(cZ, .boolean), (cI, .int), (cJ, .long)] U ∧ va_D (fun _ => True) [(q, .inr (7, [.ref mq, .ref zq, .ref sq, .ref bq, .ref cq, .long sm, .ref pq, .int ps, .int th])), (mq, .inl (cZ, 12288, .inl fM)), (zq, .inl (cI, 3, .inl fS)), (sq, .inl (cI, 6156, .inl fP)), (bq, .inl (cI, 3, .inl fB)), (cq, .inl (cJ, 64, .inr (.inl fC))), (pq, .inl (cI, 8, .inl fT))])) (va_Qi (fun (r : Int32) (u : (Nat → Int32) × (Nat → Int32) × (Nat → Int32) × (Nat → Int32)) => r = b2i (!M k x) ∧ MM u.1 (upF M k (ins (M k) x)) ∧ MZ u.2.1 (upF M k (ins (M k) x)) ∧ MX u.2.2.1 u.2.2.2 (upF P k (putP (M k) (P k) x))) (fun (u : (Nat → Int32) × (Nat → Int32) × (Nat → Int32) × (Nat → Int32)) (t : State) => va_P (dC, dI) vwCl [(q, .inr (7, [.ref mq, .ref zq, .ref sq, .ref bq, .ref cq, .long sm, .ref pq, .int ps, .int th])), (mq, .inl (cZ, 12288, .inl u.1)), (zq, .inl (cI, 3, .inl u.2.1)), (sq, .inl (cI, 6156, .inl u.2.2.1)), (bq, .inl (cI, 3, .inl u.2.2.2)), (cq, .inl (cJ, 64, .inr (.inl fC))), (pq, .inl (cI, 8, .inl fT))] t.heap ∧ va_K (dC, dI) vwCl [(cZ, .boolean), (cI, .int), (cJ, .long)] t ∧ va_D (va_A [(q, .inr (7, [.ref mq, .ref zq, .ref sq, .ref bq, .ref cq, .long sm, .ref pq, .int ps, .int th])), (mq, .inl (cZ, 12288, .inl fM)), (zq, .inl (cI, 3, .inl fS)), (sq, .inl (cI, 6156, .inl fP)), (bq, .inl (cI, 3, .inl fB)), (cq, .inl (cJ, 64, .inr (.inl fC))), (pq, .inl (cI, 8, .inl fT))] sz) [(q, .inr (7, [.ref mq, .ref zq, .ref sq, .ref bq, .ref cq, .long sm, .ref pq, .int ps, .int th])), (mq, .inl (cZ, 12288, .inl u.1)), (zq, .inl (cI, 3, .inl u.2.1)), (sq, .inl (cI, 6156, .inl u.2.2.1)), (bq, .inl (cI, 3, .inl u.2.2.2)), (cq, .inl (cJ, 64, .inr (.inl fC))), (pq, .inl (cI, 8, .inl fT))]) (va_A [(q, .inr (7, [.ref mq, .ref zq, .ref sq, .ref bq, .ref cq, .long sm, .ref pq, .int ps, .int th])), (mq, .inl (cZ, 12288, .inl fM)), (zq, .inl (cI, 3, .inl fS)), (sq, .inl (cI, 6156, .inl fP)), (bq, .inl (cI, 3, .inl fB)), (cq, .inl (cJ, 64, .inr (.inl fC))), (pq, .inl (cI, 8, .inl fT))] sz)) 0 0 (va_A [(q, .inr (7, [.ref mq, .ref zq, .ref sq, .ref bq, .ref cq, .long sm, .ref pq, .int ps, .int th])), (mq, .inl (cZ, 12288, .inl fM)), (zq, .inl (cI, 3, .inl fS)), (sq, .inl (cI, 6156, .inl fP)), (bq, .inl (cI, 3, .inl fB)), (cq, .inl (cJ, 64, .inr (.inl fC))), (pq, .inl (cI, 8, .inl fT))] sz) := by
  refine Met.ofW (cc := cX8_puts) (maxL := 3) (ret := (some .boolean)) (by decide) rfl ?_
  intro p e s m args below meth c s₁ B hml hv
  obtain ⟨rfl, hsz, hP, hK, hD0⟩ := hv
  have hx := B.exec
  have hb := B.bytes
  have hr := B.returns
  have hts := atoms_spec (ws := wsX8_puts) B.pre
  have hown : s.vm.findClass RX8 = some m.cls := findClass_of_methodNamed B.named
  have hlocks := B.notSynchronized
  subst hsz
  have hD := hD0.self (sz := s.heap.size)
  generalize hAe : va_A [(q, .inr (7, [.ref mq, .ref zq, .ref sq, .ref bq, .ref cq, .long sm, .ref pq, .int ps, .int th])), (mq, .inl (cZ, 12288, .inl fM)), (zq, .inl (cI, 3, .inl fS)), (sq, .inl (cI, 6156, .inl fP)), (bq, .inl (cI, 3, .inl fB)), (cq, .inl (cJ, 64, .inr (.inl fC))), (pq, .inl (cI, 8, .inl fT))] s.heap.size = A at hD ⊢
  have hA : ∀ q : Nat, s.heap.size ≤ q → A q := fun q h => by rw [← hAe]; exact Or.inr h
  have hS : va_S A s.heap s.heap [] := va_S.rf
  have hP : va_P (dC, dI) vwCl [(q, .inr (7, [.ref mq, .ref zq, .ref sq, .ref bq, .ref cq, .long sm, .ref pq, .int ps, .int th])), (mq, .inl (cZ, 12288, .inl fM)), (zq, .inl (cI, 3, .inl fS)), (sq, .inl (cI, 6156, .inl fP)), (bq, .inl (cI, 3, .inl fB)), (cq, .inl (cJ, 64, .inr (.inl fC))), (pq, .inl (cI, 8, .inl fT))] s.heap := hP
  have hl := lv_entry ([.ref q, .int (nI k), .int (nI x)]) (n := 3) (Nat.le_of_ble_eq_true rfl)
  rw [lg_entry_eq]
  generalize (lg_sl ([.ref q, .int (nI k), .int (nI x)]) ++ List.replicate (3 - (lg_sl ([.ref q, .int (nI k), .int (nI x)])).length) Slot.unset).toArray = ls at hl ⊢
  have hl : lv_has ls 3 [(0, .ref q), (1, .int (nI k)), (2, .int (nI x))] := hl
  have hcnt := (hX k hk).2.2.2
  refine lv_aload_n hx hb dX8_puts_0 rfl (lv_at hl 0 rfl) ?_
  refine lv_iload_n hx hb dX8_puts_1 rfl (lv_at hl 1 rfl) ?_
  refine lv_iload_n hx hb dX8_puts_2 rfl (lv_at hl 2 rfl) ?_
  have hPc := hP.sub (ws' := [(q, .inr (7, [.ref mq, .ref zq, .ref sq, .ref bq, .ref cq, .long sm, .ref pq, .int ps, .int th])), (mq, .inl (cZ, 12288, .inl fM)), (zq, .inl (cI, 3, .inl fS)), (sq, .inl (cI, 6156, .inl fP)), (bq, .inl (cI, 3, .inl fB)), (cq, .inl (cJ, 64, .inr (.inl fC))), (pq, .inl (cI, 8, .inl fT))]) [0, 1, 2, 3, 4, 5, 6] rfl
  have hKc := hK.sub (tys' := [(cZ, .boolean), (cI, .int), (cJ, .long)]) [0, 1, 2] rfl
  refine vp_callSi (W.runV (As := [.int (nI k), .int (nI x)]) (rest := []) ⟨hx, hb, hml, hown, hts⟩ (c_X8_has l dC dI q mq zq sq bq cq pq cZ cI cJ fM fS fP fB fC sm fT ps th M k x (by first | assumption | omega) (by first | assumption | omega) (by first | assumption | omega)) (cwV 2 hts gX8_puts_X8_has rfl rfl rfl (by decide +kernel) ⟨Nat.le_of_ble_eq_true rfl, Nat.le_of_ble_eq_true rfl⟩) ⟨fun a U g mk q => by obtain ⟨q0, qP, qK⟩ := q; exact ⟨q0, qP, va_K.moved (u := U) (U := U.calling g mk a) (Vm.Alike.refl U.vm) qK⟩, va_recv hKc hPc (ci := 7) (q0 := 0) rfl rfl, fun U hU hW => ⟨rfl, by rw [hU]; exact hPc, va_K.moved hW.alike hKc⟩⟩ rfl rfl hl.1 rfl (lv_room (Nat.le_of_ble_eq_true rfl)) dX8_puts_3 ⟨Nat.le_of_ble_eq_true rfl, Nat.le_of_ble_eq_true rfl⟩) (fun r_2 hw_1 => ?_)
  subst hw_1
  refine lv_if_eq (tgt := 11) hx hb dX8_puts_6 (by decide) (fun qc_3 => ?_) (fun qc_3 => ?_)
  · have c_3 : (M k x) = false := b2i_f qc_3
    refine lv_aload_n hx hb dX8_puts_11 rfl (lv_at hl 0 rfl) ?_
    refine va_get (D := (dC, dI)) (ci := 7) (v := .ref mq) (C := RX8) (T := TX8) (N := 9) hx hb hts (by decide +kernel) hown hK hP 0 rfl rfl 0 (by decide) (hts (.fieldLink RX8 7 "SmallNumberSetsModel" "member" "[Z") (by decide +kernel)) (fun _ h9 => h9) rfl dX8_puts_12 ?_
    refine lv_sipush (v := nI 4096) hx hb dX8_puts_15 (by decide +kernel) ?_
    refine lv_iload_n hx hb dX8_puts_18 rfl (lv_at hl 1 rfl) ?_
    refine lv_imul hx hb dX8_puts_19 ?_
    refine lv_cvi (pk_mul _ _) ?_
    refine lv_iload_n hx hb dX8_puts_20 rfl (lv_at hl 2 rfl) ?_
    refine lv_iadd hx hb dX8_puts_21 ?_
    refine lv_cvi (nI_add _ _) ?_
    refine lv_iconst (v := nI 1) hx hb dX8_puts_22 (by decide +kernel) ?_
    refine va_zast hx hb hK hP hD hS 1 0 rfl rfl (vp_in_nI (by omega) (by omega)) dX8_puts_23 (fun H locs hP hD hS => ?_)
    rw [nI_clamp (n := (4096 * k) + x) (by omega)] at hP hD
    have hP : va_P (dC, dI) vwCl [(q, .inr (7, [.ref mq, .ref zq, .ref sq, .ref bq, .ref cq, .long sm, .ref pq, .int ps, .int th])), (mq, .inl (cZ, 12288, .inl (upd fM ((4096 * k) + x) (vp_nar .boolean (nI 1))))), (zq, .inl (cI, 3, .inl fS)), (sq, .inl (cI, 6156, .inl fP)), (bq, .inl (cI, 3, .inl fB)), (cq, .inl (cJ, 64, .inr (.inl fC))), (pq, .inl (cI, 8, .inl fT))] H := hP
    have hD : va_D A [(q, .inr (7, [.ref mq, .ref zq, .ref sq, .ref bq, .ref cq, .long sm, .ref pq, .int ps, .int th])), (mq, .inl (cZ, 12288, .inl (upd fM ((4096 * k) + x) (vp_nar .boolean (nI 1))))), (zq, .inl (cI, 3, .inl fS)), (sq, .inl (cI, 6156, .inl fP)), (bq, .inl (cI, 3, .inl fB)), (cq, .inl (cJ, 64, .inr (.inl fC))), (pq, .inl (cI, 8, .inl fT))] := hD
    have hM2 := mm_ins hM hk hxx
    have hsz : fb_ct (M k) 4096 + 1 = fb_ct (ins (M k) x) 4096 := by rw [ct_insP c_3, if_pos hxx]
    have hcm := fb_ct_le (M k) 4096
    have hbk := bk_lt (hX k hk).2.2.1 hxx
    refine lv_aload_n hx hb dX8_puts_24 rfl (lv_at hl 0 rfl) ?_
    refine va_get (D := (dC, dI)) (ci := 7) (v := .ref zq) (C := RX8) (T := TX8) (N := 9) hx hb hts (by decide +kernel) hown hK hP 0 rfl rfl 1 (by decide) (hts (.fieldLink RX8 13 "SmallNumberSetsModel" "size" "[I") (by decide +kernel)) (fun _ h9 => h9) rfl dX8_puts_25 ?_
    refine lv_iload_n hx hb dX8_puts_28 rfl (lv_at hl 1 rfl) ?_
    refine lv_dup2_11 hx hb dX8_puts_29 rfl rfl ?_
    refine va_iald hx hb hK hP 2 1 rfl rfl (vp_in_nI (by omega) (by omega)) dX8_puts_30 ?_
    refine lv_cvi (congrArg fS (nI_clamp (by omega))) ?_
    refine lv_cvi (hZ k hk) ?_
    refine lv_iconst (v := nI 1) hx hb dX8_puts_31 (by decide +kernel) ?_
    refine lv_iadd hx hb dX8_puts_32 ?_
    refine lv_cvi (nI_add _ _) ?_
    refine va_iast hx hb hK hP hD hS 2 1 rfl rfl (vp_in_nI (by omega) (by omega)) dX8_puts_33 (fun H locs hP hD hS => ?_)
    rw [nI_clamp (n := k) (by omega)] at hP hD
    have hP : va_P (dC, dI) vwCl [(q, .inr (7, [.ref mq, .ref zq, .ref sq, .ref bq, .ref cq, .long sm, .ref pq, .int ps, .int th])), (mq, .inl (cZ, 12288, .inl (upd fM ((4096 * k) + x) (vp_nar .boolean (nI 1))))), (zq, .inl (cI, 3, .inl (upd fS k (nI ((fb_ct (M k) 4096) + 1))))), (sq, .inl (cI, 6156, .inl fP)), (bq, .inl (cI, 3, .inl fB)), (cq, .inl (cJ, 64, .inr (.inl fC))), (pq, .inl (cI, 8, .inl fT))] H := hP
    have hD : va_D A [(q, .inr (7, [.ref mq, .ref zq, .ref sq, .ref bq, .ref cq, .long sm, .ref pq, .int ps, .int th])), (mq, .inl (cZ, 12288, .inl (upd fM ((4096 * k) + x) (vp_nar .boolean (nI 1))))), (zq, .inl (cI, 3, .inl (upd fS k (nI ((fb_ct (M k) 4096) + 1))))), (sq, .inl (cI, 6156, .inl fP)), (bq, .inl (cI, 3, .inl fB)), (cq, .inl (cJ, 64, .inr (.inl fC))), (pq, .inl (cI, 8, .inl fT))] := hD
    refine lv_aload_n hx hb dX8_puts_34 rfl (lv_at hl 0 rfl) ?_
    refine lv_iload_n hx hb dX8_puts_35 rfl (lv_at hl 1 rfl) ?_
    refine lv_aload_n hx hb dX8_puts_36 rfl (lv_at hl 0 rfl) ?_
    refine lv_iload_n hx hb dX8_puts_37 rfl (lv_at hl 1 rfl) ?_
    refine lv_iload_n hx hb dX8_puts_38 rfl (lv_at hl 2 rfl) ?_
    have hPc := hP.sub (ws' := [(q, .inr (7, [.ref mq, .ref zq, .ref sq, .ref bq, .ref cq, .long sm, .ref pq, .int ps, .int th])), (mq, .inl (cZ, 12288, .inl (upd fM ((4096 * k) + x) (vp_nar .boolean (nI 1))))), (zq, .inl (cI, 3, .inl (upd fS k (nI ((fb_ct (M k) 4096) + 1))))), (sq, .inl (cI, 6156, .inl fP)), (bq, .inl (cI, 3, .inl fB)), (cq, .inl (cJ, 64, .inr (.inl fC))), (pq, .inl (cI, 8, .inl fT))]) [0, 1, 2, 3, 4, 5, 6] rfl
    have hKc := hK.sub (tys' := [(cZ, .boolean), (cI, .int), (cJ, .long)]) [0, 1, 2] rfl
    refine vp_callSi (W.runV (As := [.int (nI k), .int (nI x)]) (rest := [.int (nI k), .ref q]) ⟨hx, hb, hml, hown, hts⟩ (c_X8_belongs l dC dI q mq zq sq bq cq pq cZ cI cJ (upd fM ((4096 * k) + x) (vp_nar .boolean (nI 1))) (upd fS k (nI ((fb_ct (M k) 4096) + 1))) fP fB fC sm fT ps th P k x (by first | assumption | omega) (by first | assumption | omega) (by first | assumption | omega)) (cwV 2 hts gX8_puts_X8_belongs rfl rfl rfl (by decide +kernel) ⟨Nat.le_of_ble_eq_true rfl, Nat.le_of_ble_eq_true rfl⟩) ⟨fun a U g mk q => by obtain ⟨q0, qP, qK⟩ := q; exact ⟨q0, qP, va_K.moved (u := U) (U := U.calling g mk a) (Vm.Alike.refl U.vm) qK⟩, va_recv hKc hPc (ci := 7) (q0 := 0) rfl rfl, fun U hU hW => ⟨rfl, by rw [hU]; exact hPc, va_K.moved hW.alike hKc⟩⟩ rfl rfl hl.1 rfl (lv_room (Nat.le_of_ble_eq_true rfl)) dX8_puts_39 ⟨Nat.le_of_ble_eq_true rfl, Nat.le_of_ble_eq_true rfl⟩) (fun r_5 hw_4 => ?_)
    subst hw_4
    have hPc := hP.sub (ws' := [(q, .inr (7, [.ref mq, .ref zq, .ref sq, .ref bq, .ref cq, .long sm, .ref pq, .int ps, .int th])), (mq, .inl (cZ, 12288, .inl (upd fM ((4096 * k) + x) (vp_nar .boolean (nI 1))))), (zq, .inl (cI, 3, .inl (upd fS k (nI ((fb_ct (M k) 4096) + 1))))), (sq, .inl (cI, 6156, .inl fP)), (bq, .inl (cI, 3, .inl fB)), (cq, .inl (cJ, 64, .inr (.inl fC))), (pq, .inl (cI, 8, .inl fT))]) [0, 1, 2, 3, 4, 5, 6] rfl
    have hKc := hK.sub (tys' := [(cZ, .boolean), (cI, .int), (cJ, .long)]) [0, 1, 2] rfl
    have hDc := hD.sub (ws' := [(q, .inr (7, [.ref mq, .ref zq, .ref sq, .ref bq, .ref cq, .long sm, .ref pq, .int ps, .int th])), (mq, .inl (cZ, 12288, .inl (upd fM ((4096 * k) + x) (vp_nar .boolean (nI 1))))), (zq, .inl (cI, 3, .inl (upd fS k (nI ((fb_ct (M k) 4096) + 1))))), (sq, .inl (cI, 6156, .inl fP)), (bq, .inl (cI, 3, .inl fB)), (cq, .inl (cJ, 64, .inr (.inl fC))), (pq, .inl (cI, 8, .inl fT))]) [0, 1, 2, 3, 4, 5, 6] (by decide) rfl
    have hFc := va_free (wc := [(q, .inr (7, [.ref mq, .ref zq, .ref sq, .ref bq, .ref cq, .long sm, .ref pq, .int ps, .int th])), (mq, .inl (cZ, 12288, .inl (upd fM ((4096 * k) + x) (vp_nar .boolean (nI 1))))), (zq, .inl (cI, 3, .inl (upd fS k (nI ((fb_ct (M k) 4096) + 1))))), (sq, .inl (cI, 6156, .inl fP)), (bq, .inl (cI, 3, .inl fB)), (cq, .inl (cJ, 64, .inr (.inl fC))), (pq, .inl (cI, 8, .inl fT))]) hD hS hA [0, 1, 2, 3, 4, 5, 6] rfl
    refine va_callv (va_runV (As := [.int (nI k), .int (nI (bk (P k) x))]) (rest := []) ⟨hx, hb, hml, hown, hts⟩ (c_X8_splits l dC dI q mq zq sq bq cq pq cZ cI cJ (upd fM ((4096 * k) + x) (vp_nar .boolean (nI 1))) (upd fS k (nI ((fb_ct (M k) 4096) + 1))) fP fB fC sm fT ps th (upF M k (ins (M k) x)) P k (bk (P k) x) H.size hM2 (by first | assumption | omega) (by first | assumption | omega) (by first | assumption | omega) (by first | assumption | omega)) (cwV 2 hts gX8_puts_X8_splits rfl rfl rfl (by decide +kernel) ⟨Nat.le_of_ble_eq_true rfl, Nat.le_of_ble_eq_true rfl⟩) ⟨fun a U g mk q => by obtain ⟨q0, q1, qP, qK, qD⟩ := q; exact ⟨q0, q1, qP, va_K.moved (u := U) (U := U.calling g mk a) (Vm.Alike.refl U.vm) qK, qD⟩, va_recv hKc hPc (ci := 7) (q0 := 0) rfl rfl, fun U hU hW => ⟨rfl, by rw [hU], by rw [hU]; exact hPc, va_K.moved hW.alike hKc, hDc.weaken (fun _ _ _ _ => trivial)⟩⟩ rfl rfl hl.1 rfl (lv_room (Nat.le_of_ble_eq_true rfl)) dX8_puts_42 ⟨Nat.le_of_ble_eq_true rfl, Nat.le_of_ble_eq_true rfl⟩) hS (fun q _ h => hFc q h) hFc (fun u_7 t9 H1 locs ht hvm hw_6 hB hz1 hk1 hS => ?_)
    obtain ⟨fP'_9, fB'_10⟩ := u_7
    obtain ⟨hP1, hK1, hD1⟩ := hB
    rw [ht] at hP1
    have hK1 := va_K.moved hvm.symm hK1
    try dsimp only at hw_6 hP1 hK1 hD1
    obtain ⟨hP, hD⟩ := va_join (wr := []) (w1 := [(q, .inr (7, [.ref mq, .ref zq, .ref sq, .ref bq, .ref cq, .long sm, .ref pq, .int ps, .int th])), (mq, .inl (cZ, 12288, .inl (upd fM ((4096 * k) + x) (vp_nar .boolean (nI 1))))), (zq, .inl (cI, 3, .inl (upd fS k (nI ((fb_ct (M k) 4096) + 1))))), (sq, .inl (cI, 6156, .inl fP'_9)), (bq, .inl (cI, 3, .inl fB'_10)), (cq, .inl (cJ, 64, .inr (.inl fC))), (pq, .inl (cI, 8, .inl fT))]) hP hD [0, 1, 2, 3, 4, 5, 6] [] rfl rfl (by decide) (by decide) hk1 hFc hP1 hD1
    generalize H1 = H at hP hS ⊢
    have hP : va_P (dC, dI) vwCl [(q, .inr (7, [.ref mq, .ref zq, .ref sq, .ref bq, .ref cq, .long sm, .ref pq, .int ps, .int th])), (mq, .inl (cZ, 12288, .inl (upd fM ((4096 * k) + x) (vp_nar .boolean (nI 1))))), (zq, .inl (cI, 3, .inl (upd fS k (nI ((fb_ct (M k) 4096) + 1))))), (sq, .inl (cI, 6156, .inl fP'_9)), (bq, .inl (cI, 3, .inl fB'_10)), (cq, .inl (cJ, 64, .inr (.inl fC))), (pq, .inl (cI, 8, .inl fT))] H := hP
    have hD : va_D A [(q, .inr (7, [.ref mq, .ref zq, .ref sq, .ref bq, .ref cq, .long sm, .ref pq, .int ps, .int th])), (mq, .inl (cZ, 12288, .inl (upd fM ((4096 * k) + x) (vp_nar .boolean (nI 1))))), (zq, .inl (cI, 3, .inl (upd fS k (nI ((fb_ct (M k) 4096) + 1))))), (sq, .inl (cI, 6156, .inl fP'_9)), (bq, .inl (cI, 3, .inl fB'_10)), (cq, .inl (cJ, 64, .inr (.inl fC))), (pq, .inl (cI, 8, .inl fT))] := hD
    refine lv_iconst (v := nI 1) hx hb dX8_puts_45 (by decide +kernel) ?_
    have hP9 := hP.sub (ws' := [(q, .inr (7, [.ref mq, .ref zq, .ref sq, .ref bq, .ref cq, .long sm, .ref pq, .int ps, .int th])), (mq, .inl (cZ, 12288, .inl (upd fM ((4096 * k) + x) (vp_nar .boolean (nI 1))))), (zq, .inl (cI, 3, .inl (upd fS k (nI ((fb_ct (M k) 4096) + 1))))), (sq, .inl (cI, 6156, .inl fP'_9)), (bq, .inl (cI, 3, .inl fB'_10)), (cq, .inl (cJ, 64, .inr (.inl fC))), (pq, .inl (cI, 8, .inl fT))]) [0, 1, 2, 3, 4, 5, 6] rfl
    have hD9 := hD.sub (ws' := [(q, .inr (7, [.ref mq, .ref zq, .ref sq, .ref bq, .ref cq, .long sm, .ref pq, .int ps, .int th])), (mq, .inl (cZ, 12288, .inl (upd fM ((4096 * k) + x) (vp_nar .boolean (nI 1))))), (zq, .inl (cI, 3, .inl (upd fS k (nI ((fb_ct (M k) 4096) + 1))))), (sq, .inl (cI, 6156, .inl fP'_9)), (bq, .inl (cI, 3, .inl fB'_10)), (cq, .inl (cJ, 64, .inr (.inl fC))), (pq, .inl (cI, 8, .inl fT))]) [0, 1, 2, 3, 4, 5, 6] (by decide) rfl
    have hK9 := hK.sub (tys' := [(cZ, .boolean), (cI, .int), (cJ, .long)]) [0, 1, 2] rfl
    exact W.zret (v := nI 1) hx hb hr (by first | exact narrow_b1 | exact narrow_b0) (fun t9 ht hW => ⟨⟨nI 1, ⟨upd fM ((4096 * k) + x) (vp_nar .boolean (nI 1)), upd fS k (nI ((fb_ct (M k) 4096) + 1)), fP'_9, fB'_10⟩, rfl, (show (nI 1) = b2i (!M k x) ∧ MM (upd fM ((4096 * k) + x) (vp_nar .boolean (nI 1))) (upF M k (ins (M k) x)) ∧ MZ (upd fS k (nI ((fb_ct (M k) 4096) + 1))) (upF M k (ins (M k) x)) ∧ MX fP'_9 fB'_10 (upF P k (putP (M k) (P k) x)) from ⟨by rw [c_3]; rfl, hM2, mz_set hZ (congrArg nI hsz), by
      have h9 := hw_6
      rw [upF_s] at h9
      rw [show putP (M k) (P k) x = _ from funext fun y => if_neg (by rw [c_3]; decide)]
      exact h9⟩), by rw [ht]; exact hP9, va_K.moved hW.alike hK9, hD9⟩, hS.F ht⟩) hS.2.2 dX8_puts_46
  · have c_3 : (M k x) = true := b2i_t qc_3
    refine lv_iconst (v := nI 0) hx hb dX8_puts_9 (by decide +kernel) ?_
    have hP9 := hP.sub (ws' := [(q, .inr (7, [.ref mq, .ref zq, .ref sq, .ref bq, .ref cq, .long sm, .ref pq, .int ps, .int th])), (mq, .inl (cZ, 12288, .inl fM)), (zq, .inl (cI, 3, .inl fS)), (sq, .inl (cI, 6156, .inl fP)), (bq, .inl (cI, 3, .inl fB)), (cq, .inl (cJ, 64, .inr (.inl fC))), (pq, .inl (cI, 8, .inl fT))]) [0, 1, 2, 3, 4, 5, 6] rfl
    have hD9 := hD.sub (ws' := [(q, .inr (7, [.ref mq, .ref zq, .ref sq, .ref bq, .ref cq, .long sm, .ref pq, .int ps, .int th])), (mq, .inl (cZ, 12288, .inl fM)), (zq, .inl (cI, 3, .inl fS)), (sq, .inl (cI, 6156, .inl fP)), (bq, .inl (cI, 3, .inl fB)), (cq, .inl (cJ, 64, .inr (.inl fC))), (pq, .inl (cI, 8, .inl fT))]) [0, 1, 2, 3, 4, 5, 6] (by decide) rfl
    have hK9 := hK.sub (tys' := [(cZ, .boolean), (cI, .int), (cJ, .long)]) [0, 1, 2] rfl
    exact W.zret (v := nI 0) hx hb hr (by first | exact narrow_b1 | exact narrow_b0) (fun t9 ht hW => ⟨⟨nI 0, ⟨fM, fS, fP, fB⟩, rfl, (show (nI 0) = b2i (!M k x) ∧ MM fM (upF M k (ins (M k) x)) ∧ MZ fS (upF M k (ins (M k) x)) ∧ MX fP fB (upF P k (putP (M k) (P k) x)) from ⟨by rw [c_3]; rfl, puts_same hM hZ hX c_3⟩), by rw [ht]; exact hP9, va_K.moved hW.alike hK9, hD9⟩, hS.F ht⟩) hS.2.2 dX8_puts_10
set_option maxHeartbeats 4000000 in
set_option maxRecDepth 100000 in
/-- reference: takes -/
theorem c_X8_takes (l : Launch) (dC : Nat → ClassId) (dI : Nat → Nat → Nat) (q : Nat) (mq : Nat) (zq : Nat) (sq : Nat) (bq : Nat) (cq : Nat) (pq : Nat) (cZ : ClassId) (cI : ClassId) (cJ : ClassId) (fM : Nat → Int32) (fS : Nat → Int32) (fP : Nat → Int32) (fB : Nat → Int32) (fC : Nat → Int64) (sm : Int64) (fT : Nat → Int32) (ps : Int32) (th : Int32) (M : Nat → Nat → Bool) (P : Nat → Nat → Bool) (k : Nat) (x : Nat) (sz : Nat) (hM : MM fM M) (hZ : MZ fS M) (hX : MX fP fB P) (hk : k < 3) (hxx : x < 4096) (hc9 : fb_ct (P k) 4096 ≤ 2048) : Met l yX8_takes wsX8_takes ({ frames := 4, cells := 0, slots := 0, locals := 96 }) (va_Pc [.ref q, .int (nI k), .int (nI x)] (fun U => U.heap.size = sz ∧ va_P (dC, dI) vwCl [(q, .inr (7, [.ref mq, .ref zq, .ref sq, .ref bq, .ref cq, .long sm, .ref pq, .int ps, .int th])), (mq, .inl (cZ, 12288, .inl fM)), (zq, .inl (cI, 3, .inl fS)), (sq, .inl (cI, 6156, .inl fP)), (bq, .inl (cI, 3, .inl fB)), (cq, .inl (cJ, 64, .inr (.inl fC))), (pq, .inl (cI, 8, .inl fT))] U.heap ∧ va_K (dC, dI) vwCl [(cZ, .boolean), (cI, .int), (cJ, .long)] U ∧ va_D (fun _ => True) [(q, .inr (7, [.ref mq, .ref zq, .ref sq, .ref bq, .ref cq, .long sm, .ref pq, .int ps, .int th])), (mq, .inl (cZ, 12288, .inl fM)), (zq, .inl (cI, 3, .inl fS)), (sq, .inl (cI, 6156, .inl fP)), (bq, .inl (cI, 3, .inl fB)), (cq, .inl (cJ, 64, .inr (.inl fC))), (pq, .inl (cI, 8, .inl fT))])) (va_Qi (fun (r : Int32) (u : (Nat → Int32) × (Nat → Int32) × (Nat → Int32) × (Nat → Int32)) => r = b2i (M k x) ∧ MM u.1 (upF M k (del (M k) x)) ∧ MZ u.2.1 (upF M k (del (M k) x)) ∧ MX u.2.2.1 u.2.2.2 (upF P k (takeP (M k) (P k) x))) (fun (u : (Nat → Int32) × (Nat → Int32) × (Nat → Int32) × (Nat → Int32)) (t : State) => va_P (dC, dI) vwCl [(q, .inr (7, [.ref mq, .ref zq, .ref sq, .ref bq, .ref cq, .long sm, .ref pq, .int ps, .int th])), (mq, .inl (cZ, 12288, .inl u.1)), (zq, .inl (cI, 3, .inl u.2.1)), (sq, .inl (cI, 6156, .inl u.2.2.1)), (bq, .inl (cI, 3, .inl u.2.2.2)), (cq, .inl (cJ, 64, .inr (.inl fC))), (pq, .inl (cI, 8, .inl fT))] t.heap ∧ va_K (dC, dI) vwCl [(cZ, .boolean), (cI, .int), (cJ, .long)] t ∧ va_D (va_A [(q, .inr (7, [.ref mq, .ref zq, .ref sq, .ref bq, .ref cq, .long sm, .ref pq, .int ps, .int th])), (mq, .inl (cZ, 12288, .inl fM)), (zq, .inl (cI, 3, .inl fS)), (sq, .inl (cI, 6156, .inl fP)), (bq, .inl (cI, 3, .inl fB)), (cq, .inl (cJ, 64, .inr (.inl fC))), (pq, .inl (cI, 8, .inl fT))] sz) [(q, .inr (7, [.ref mq, .ref zq, .ref sq, .ref bq, .ref cq, .long sm, .ref pq, .int ps, .int th])), (mq, .inl (cZ, 12288, .inl u.1)), (zq, .inl (cI, 3, .inl u.2.1)), (sq, .inl (cI, 6156, .inl u.2.2.1)), (bq, .inl (cI, 3, .inl u.2.2.2)), (cq, .inl (cJ, 64, .inr (.inl fC))), (pq, .inl (cI, 8, .inl fT))]) (va_A [(q, .inr (7, [.ref mq, .ref zq, .ref sq, .ref bq, .ref cq, .long sm, .ref pq, .int ps, .int th])), (mq, .inl (cZ, 12288, .inl fM)), (zq, .inl (cI, 3, .inl fS)), (sq, .inl (cI, 6156, .inl fP)), (bq, .inl (cI, 3, .inl fB)), (cq, .inl (cJ, 64, .inr (.inl fC))), (pq, .inl (cI, 8, .inl fT))] sz)) 0 0 (va_A [(q, .inr (7, [.ref mq, .ref zq, .ref sq, .ref bq, .ref cq, .long sm, .ref pq, .int ps, .int th])), (mq, .inl (cZ, 12288, .inl fM)), (zq, .inl (cI, 3, .inl fS)), (sq, .inl (cI, 6156, .inl fP)), (bq, .inl (cI, 3, .inl fB)), (cq, .inl (cJ, 64, .inr (.inl fC))), (pq, .inl (cI, 8, .inl fT))] sz) := by
  refine Met.ofW (cc := cX8_takes) (maxL := 3) (ret := (some .boolean)) (by decide) rfl ?_
  intro p e s m args below meth c s₁ B hml hv
  obtain ⟨rfl, hsz, hP, hK, hD0⟩ := hv
  have hx := B.exec
  have hb := B.bytes
  have hr := B.returns
  have hts := atoms_spec (ws := wsX8_takes) B.pre
  have hown : s.vm.findClass RX8 = some m.cls := findClass_of_methodNamed B.named
  have hlocks := B.notSynchronized
  subst hsz
  have hD := hD0.self (sz := s.heap.size)
  generalize hAe : va_A [(q, .inr (7, [.ref mq, .ref zq, .ref sq, .ref bq, .ref cq, .long sm, .ref pq, .int ps, .int th])), (mq, .inl (cZ, 12288, .inl fM)), (zq, .inl (cI, 3, .inl fS)), (sq, .inl (cI, 6156, .inl fP)), (bq, .inl (cI, 3, .inl fB)), (cq, .inl (cJ, 64, .inr (.inl fC))), (pq, .inl (cI, 8, .inl fT))] s.heap.size = A at hD ⊢
  have hA : ∀ q : Nat, s.heap.size ≤ q → A q := fun q h => by rw [← hAe]; exact Or.inr h
  have hS : va_S A s.heap s.heap [] := va_S.rf
  have hP : va_P (dC, dI) vwCl [(q, .inr (7, [.ref mq, .ref zq, .ref sq, .ref bq, .ref cq, .long sm, .ref pq, .int ps, .int th])), (mq, .inl (cZ, 12288, .inl fM)), (zq, .inl (cI, 3, .inl fS)), (sq, .inl (cI, 6156, .inl fP)), (bq, .inl (cI, 3, .inl fB)), (cq, .inl (cJ, 64, .inr (.inl fC))), (pq, .inl (cI, 8, .inl fT))] s.heap := hP
  have hl := lv_entry ([.ref q, .int (nI k), .int (nI x)]) (n := 3) (Nat.le_of_ble_eq_true rfl)
  rw [lg_entry_eq]
  generalize (lg_sl ([.ref q, .int (nI k), .int (nI x)]) ++ List.replicate (3 - (lg_sl ([.ref q, .int (nI k), .int (nI x)])).length) Slot.unset).toArray = ls at hl ⊢
  have hl : lv_has ls 3 [(0, .ref q), (1, .int (nI k)), (2, .int (nI x))] := hl
  have hcnt := (hX k hk).2.2.2
  refine lv_aload_n hx hb dX8_takes_0 rfl (lv_at hl 0 rfl) ?_
  refine lv_iload_n hx hb dX8_takes_1 rfl (lv_at hl 1 rfl) ?_
  refine lv_iload_n hx hb dX8_takes_2 rfl (lv_at hl 2 rfl) ?_
  have hPc := hP.sub (ws' := [(q, .inr (7, [.ref mq, .ref zq, .ref sq, .ref bq, .ref cq, .long sm, .ref pq, .int ps, .int th])), (mq, .inl (cZ, 12288, .inl fM)), (zq, .inl (cI, 3, .inl fS)), (sq, .inl (cI, 6156, .inl fP)), (bq, .inl (cI, 3, .inl fB)), (cq, .inl (cJ, 64, .inr (.inl fC))), (pq, .inl (cI, 8, .inl fT))]) [0, 1, 2, 3, 4, 5, 6] rfl
  have hKc := hK.sub (tys' := [(cZ, .boolean), (cI, .int), (cJ, .long)]) [0, 1, 2] rfl
  refine vp_callSi (W.runV (As := [.int (nI k), .int (nI x)]) (rest := []) ⟨hx, hb, hml, hown, hts⟩ (c_X8_has l dC dI q mq zq sq bq cq pq cZ cI cJ fM fS fP fB fC sm fT ps th M k x (by first | assumption | omega) (by first | assumption | omega) (by first | assumption | omega)) (cwV 2 hts gX8_takes_X8_has rfl rfl rfl (by decide +kernel) ⟨Nat.le_of_ble_eq_true rfl, Nat.le_of_ble_eq_true rfl⟩) ⟨fun a U g mk q => by obtain ⟨q0, qP, qK⟩ := q; exact ⟨q0, qP, va_K.moved (u := U) (U := U.calling g mk a) (Vm.Alike.refl U.vm) qK⟩, va_recv hKc hPc (ci := 7) (q0 := 0) rfl rfl, fun U hU hW => ⟨rfl, by rw [hU]; exact hPc, va_K.moved hW.alike hKc⟩⟩ rfl rfl hl.1 rfl (lv_room (Nat.le_of_ble_eq_true rfl)) dX8_takes_3 ⟨Nat.le_of_ble_eq_true rfl, Nat.le_of_ble_eq_true rfl⟩) (fun r_2 hw_1 => ?_)
  subst hw_1
  refine lv_if_ne (tgt := 11) hx hb dX8_takes_6 (by decide) (fun qc_3 => ?_) (fun qc_3 => ?_)
  · have c_3 : (M k x) = true := b2i_t qc_3
    refine lv_aload_n hx hb dX8_takes_11 rfl (lv_at hl 0 rfl) ?_
    refine va_get (D := (dC, dI)) (ci := 7) (v := .ref mq) (C := RX8) (T := TX8) (N := 9) hx hb hts (by decide +kernel) hown hK hP 0 rfl rfl 0 (by decide) (hts (.fieldLink RX8 7 "SmallNumberSetsModel" "member" "[Z") (by decide +kernel)) (fun _ h9 => h9) rfl dX8_takes_12 ?_
    refine lv_sipush (v := nI 4096) hx hb dX8_takes_15 (by decide +kernel) ?_
    refine lv_iload_n hx hb dX8_takes_18 rfl (lv_at hl 1 rfl) ?_
    refine lv_imul hx hb dX8_takes_19 ?_
    refine lv_cvi (pk_mul _ _) ?_
    refine lv_iload_n hx hb dX8_takes_20 rfl (lv_at hl 2 rfl) ?_
    refine lv_iadd hx hb dX8_takes_21 ?_
    refine lv_cvi (nI_add _ _) ?_
    refine lv_iconst (v := nI 0) hx hb dX8_takes_22 (by decide +kernel) ?_
    refine va_zast hx hb hK hP hD hS 1 0 rfl rfl (vp_in_nI (by omega) (by omega)) dX8_takes_23 (fun H locs hP hD hS => ?_)
    rw [nI_clamp (n := (4096 * k) + x) (by omega)] at hP hD
    have hP : va_P (dC, dI) vwCl [(q, .inr (7, [.ref mq, .ref zq, .ref sq, .ref bq, .ref cq, .long sm, .ref pq, .int ps, .int th])), (mq, .inl (cZ, 12288, .inl (upd fM ((4096 * k) + x) (vp_nar .boolean (nI 0))))), (zq, .inl (cI, 3, .inl fS)), (sq, .inl (cI, 6156, .inl fP)), (bq, .inl (cI, 3, .inl fB)), (cq, .inl (cJ, 64, .inr (.inl fC))), (pq, .inl (cI, 8, .inl fT))] H := hP
    have hD : va_D A [(q, .inr (7, [.ref mq, .ref zq, .ref sq, .ref bq, .ref cq, .long sm, .ref pq, .int ps, .int th])), (mq, .inl (cZ, 12288, .inl (upd fM ((4096 * k) + x) (vp_nar .boolean (nI 0))))), (zq, .inl (cI, 3, .inl fS)), (sq, .inl (cI, 6156, .inl fP)), (bq, .inl (cI, 3, .inl fB)), (cq, .inl (cJ, 64, .inr (.inl fC))), (pq, .inl (cI, 8, .inl fT))] := hD
    have hM2 := mm_del hM hk hxx
    have hsz : fb_ct (M k) 4096 - 1 = fb_ct (del (M k) x) 4096 := by have h9 := ct_del c_3 4096; rw [if_pos hxx] at h9; omega
    have hcm := fb_ct_le (M k) 4096
    have hbk := bk_lt (hX k hk).2.2.1 hxx
    refine lv_aload_n hx hb dX8_takes_24 rfl (lv_at hl 0 rfl) ?_
    refine va_get (D := (dC, dI)) (ci := 7) (v := .ref zq) (C := RX8) (T := TX8) (N := 9) hx hb hts (by decide +kernel) hown hK hP 0 rfl rfl 1 (by decide) (hts (.fieldLink RX8 13 "SmallNumberSetsModel" "size" "[I") (by decide +kernel)) (fun _ h9 => h9) rfl dX8_takes_25 ?_
    refine lv_iload_n hx hb dX8_takes_28 rfl (lv_at hl 1 rfl) ?_
    refine lv_dup2_11 hx hb dX8_takes_29 rfl rfl ?_
    refine va_iald hx hb hK hP 2 1 rfl rfl (vp_in_nI (by omega) (by omega)) dX8_takes_30 ?_
    refine lv_cvi (congrArg fS (nI_clamp (by omega))) ?_
    refine lv_cvi (hZ k hk) ?_
    have hps : 0 < fb_ct (M k) 4096 := fb_ct_pos.mpr ⟨x, hxx, c_3⟩
    refine lv_iconst (v := nI 1) hx hb dX8_takes_31 (by decide +kernel) ?_
    refine lv_isub hx hb dX8_takes_32 ?_
    refine lv_cvi (pk_sub (by omega)) ?_
    refine va_iast hx hb hK hP hD hS 2 1 rfl rfl (vp_in_nI (by omega) (by omega)) dX8_takes_33 (fun H locs hP hD hS => ?_)
    rw [nI_clamp (n := k) (by omega)] at hP hD
    have hP : va_P (dC, dI) vwCl [(q, .inr (7, [.ref mq, .ref zq, .ref sq, .ref bq, .ref cq, .long sm, .ref pq, .int ps, .int th])), (mq, .inl (cZ, 12288, .inl (upd fM ((4096 * k) + x) (vp_nar .boolean (nI 0))))), (zq, .inl (cI, 3, .inl (upd fS k (nI ((fb_ct (M k) 4096) - 1))))), (sq, .inl (cI, 6156, .inl fP)), (bq, .inl (cI, 3, .inl fB)), (cq, .inl (cJ, 64, .inr (.inl fC))), (pq, .inl (cI, 8, .inl fT))] H := hP
    have hD : va_D A [(q, .inr (7, [.ref mq, .ref zq, .ref sq, .ref bq, .ref cq, .long sm, .ref pq, .int ps, .int th])), (mq, .inl (cZ, 12288, .inl (upd fM ((4096 * k) + x) (vp_nar .boolean (nI 0))))), (zq, .inl (cI, 3, .inl (upd fS k (nI ((fb_ct (M k) 4096) - 1))))), (sq, .inl (cI, 6156, .inl fP)), (bq, .inl (cI, 3, .inl fB)), (cq, .inl (cJ, 64, .inr (.inl fC))), (pq, .inl (cI, 8, .inl fT))] := hD
    refine lv_aload_n hx hb dX8_takes_34 rfl (lv_at hl 0 rfl) ?_
    refine lv_iload_n hx hb dX8_takes_35 rfl (lv_at hl 1 rfl) ?_
    refine lv_aload_n hx hb dX8_takes_36 rfl (lv_at hl 0 rfl) ?_
    refine lv_iload_n hx hb dX8_takes_37 rfl (lv_at hl 1 rfl) ?_
    refine lv_iload_n hx hb dX8_takes_38 rfl (lv_at hl 2 rfl) ?_
    have hPc := hP.sub (ws' := [(q, .inr (7, [.ref mq, .ref zq, .ref sq, .ref bq, .ref cq, .long sm, .ref pq, .int ps, .int th])), (mq, .inl (cZ, 12288, .inl (upd fM ((4096 * k) + x) (vp_nar .boolean (nI 0))))), (zq, .inl (cI, 3, .inl (upd fS k (nI ((fb_ct (M k) 4096) - 1))))), (sq, .inl (cI, 6156, .inl fP)), (bq, .inl (cI, 3, .inl fB)), (cq, .inl (cJ, 64, .inr (.inl fC))), (pq, .inl (cI, 8, .inl fT))]) [0, 1, 2, 3, 4, 5, 6] rfl
    have hKc := hK.sub (tys' := [(cZ, .boolean), (cI, .int), (cJ, .long)]) [0, 1, 2] rfl
    refine vp_callSi (W.runV (As := [.int (nI k), .int (nI x)]) (rest := [.int (nI k), .ref q]) ⟨hx, hb, hml, hown, hts⟩ (c_X8_belongs l dC dI q mq zq sq bq cq pq cZ cI cJ (upd fM ((4096 * k) + x) (vp_nar .boolean (nI 0))) (upd fS k (nI ((fb_ct (M k) 4096) - 1))) fP fB fC sm fT ps th P k x (by first | assumption | omega) (by first | assumption | omega) (by first | assumption | omega)) (cwV 2 hts gX8_takes_X8_belongs rfl rfl rfl (by decide +kernel) ⟨Nat.le_of_ble_eq_true rfl, Nat.le_of_ble_eq_true rfl⟩) ⟨fun a U g mk q => by obtain ⟨q0, qP, qK⟩ := q; exact ⟨q0, qP, va_K.moved (u := U) (U := U.calling g mk a) (Vm.Alike.refl U.vm) qK⟩, va_recv hKc hPc (ci := 7) (q0 := 0) rfl rfl, fun U hU hW => ⟨rfl, by rw [hU]; exact hPc, va_K.moved hW.alike hKc⟩⟩ rfl rfl hl.1 rfl (lv_room (Nat.le_of_ble_eq_true rfl)) dX8_takes_39 ⟨Nat.le_of_ble_eq_true rfl, Nat.le_of_ble_eq_true rfl⟩) (fun r_5 hw_4 => ?_)
    subst hw_4
    have hPc := hP.sub (ws' := [(q, .inr (7, [.ref mq, .ref zq, .ref sq, .ref bq, .ref cq, .long sm, .ref pq, .int ps, .int th])), (mq, .inl (cZ, 12288, .inl (upd fM ((4096 * k) + x) (vp_nar .boolean (nI 0))))), (zq, .inl (cI, 3, .inl (upd fS k (nI ((fb_ct (M k) 4096) - 1))))), (sq, .inl (cI, 6156, .inl fP)), (bq, .inl (cI, 3, .inl fB)), (cq, .inl (cJ, 64, .inr (.inl fC))), (pq, .inl (cI, 8, .inl fT))]) [0, 1, 2, 3, 4, 5, 6] rfl
    have hKc := hK.sub (tys' := [(cZ, .boolean), (cI, .int), (cJ, .long)]) [0, 1, 2] rfl
    have hDc := hD.sub (ws' := [(q, .inr (7, [.ref mq, .ref zq, .ref sq, .ref bq, .ref cq, .long sm, .ref pq, .int ps, .int th])), (mq, .inl (cZ, 12288, .inl (upd fM ((4096 * k) + x) (vp_nar .boolean (nI 0))))), (zq, .inl (cI, 3, .inl (upd fS k (nI ((fb_ct (M k) 4096) - 1))))), (sq, .inl (cI, 6156, .inl fP)), (bq, .inl (cI, 3, .inl fB)), (cq, .inl (cJ, 64, .inr (.inl fC))), (pq, .inl (cI, 8, .inl fT))]) [0, 1, 2, 3, 4, 5, 6] (by decide) rfl
    have hFc := va_free (wc := [(q, .inr (7, [.ref mq, .ref zq, .ref sq, .ref bq, .ref cq, .long sm, .ref pq, .int ps, .int th])), (mq, .inl (cZ, 12288, .inl (upd fM ((4096 * k) + x) (vp_nar .boolean (nI 0))))), (zq, .inl (cI, 3, .inl (upd fS k (nI ((fb_ct (M k) 4096) - 1))))), (sq, .inl (cI, 6156, .inl fP)), (bq, .inl (cI, 3, .inl fB)), (cq, .inl (cJ, 64, .inr (.inl fC))), (pq, .inl (cI, 8, .inl fT))]) hD hS hA [0, 1, 2, 3, 4, 5, 6] rfl
    refine va_callv (va_runV (As := [.int (nI k), .int (nI (bk (P k) x))]) (rest := []) ⟨hx, hb, hml, hown, hts⟩ (c_X8_merges l dC dI q mq zq sq bq cq pq cZ cI cJ (upd fM ((4096 * k) + x) (vp_nar .boolean (nI 0))) (upd fS k (nI ((fb_ct (M k) 4096) - 1))) fP fB fC sm fT ps th (upF M k (del (M k) x)) P k (bk (P k) x) H.size hM2 (by first | assumption | omega) (by first | assumption | omega) (by first | assumption | omega) (by first | assumption | omega)) (cwV 2 hts gX8_takes_X8_merges rfl rfl rfl (by decide +kernel) ⟨Nat.le_of_ble_eq_true rfl, Nat.le_of_ble_eq_true rfl⟩) ⟨fun a U g mk q => by obtain ⟨q0, q1, qP, qK, qD⟩ := q; exact ⟨q0, q1, qP, va_K.moved (u := U) (U := U.calling g mk a) (Vm.Alike.refl U.vm) qK, qD⟩, va_recv hKc hPc (ci := 7) (q0 := 0) rfl rfl, fun U hU hW => ⟨rfl, by rw [hU], by rw [hU]; exact hPc, va_K.moved hW.alike hKc, hDc.weaken (fun _ _ _ _ => trivial)⟩⟩ rfl rfl hl.1 rfl (lv_room (Nat.le_of_ble_eq_true rfl)) dX8_takes_42 ⟨Nat.le_of_ble_eq_true rfl, Nat.le_of_ble_eq_true rfl⟩) hS (fun q _ h => hFc q h) hFc (fun u_7 t9 H1 locs ht hvm hw_6 hB hz1 hk1 hS => ?_)
    obtain ⟨fP'_9, fB'_10⟩ := u_7
    obtain ⟨hP1, hK1, hD1⟩ := hB
    rw [ht] at hP1
    have hK1 := va_K.moved hvm.symm hK1
    try dsimp only at hw_6 hP1 hK1 hD1
    obtain ⟨hP, hD⟩ := va_join (wr := []) (w1 := [(q, .inr (7, [.ref mq, .ref zq, .ref sq, .ref bq, .ref cq, .long sm, .ref pq, .int ps, .int th])), (mq, .inl (cZ, 12288, .inl (upd fM ((4096 * k) + x) (vp_nar .boolean (nI 0))))), (zq, .inl (cI, 3, .inl (upd fS k (nI ((fb_ct (M k) 4096) - 1))))), (sq, .inl (cI, 6156, .inl fP'_9)), (bq, .inl (cI, 3, .inl fB'_10)), (cq, .inl (cJ, 64, .inr (.inl fC))), (pq, .inl (cI, 8, .inl fT))]) hP hD [0, 1, 2, 3, 4, 5, 6] [] rfl rfl (by decide) (by decide) hk1 hFc hP1 hD1
    generalize H1 = H at hP hS ⊢
    have hP : va_P (dC, dI) vwCl [(q, .inr (7, [.ref mq, .ref zq, .ref sq, .ref bq, .ref cq, .long sm, .ref pq, .int ps, .int th])), (mq, .inl (cZ, 12288, .inl (upd fM ((4096 * k) + x) (vp_nar .boolean (nI 0))))), (zq, .inl (cI, 3, .inl (upd fS k (nI ((fb_ct (M k) 4096) - 1))))), (sq, .inl (cI, 6156, .inl fP'_9)), (bq, .inl (cI, 3, .inl fB'_10)), (cq, .inl (cJ, 64, .inr (.inl fC))), (pq, .inl (cI, 8, .inl fT))] H := hP
    have hD : va_D A [(q, .inr (7, [.ref mq, .ref zq, .ref sq, .ref bq, .ref cq, .long sm, .ref pq, .int ps, .int th])), (mq, .inl (cZ, 12288, .inl (upd fM ((4096 * k) + x) (vp_nar .boolean (nI 0))))), (zq, .inl (cI, 3, .inl (upd fS k (nI ((fb_ct (M k) 4096) - 1))))), (sq, .inl (cI, 6156, .inl fP'_9)), (bq, .inl (cI, 3, .inl fB'_10)), (cq, .inl (cJ, 64, .inr (.inl fC))), (pq, .inl (cI, 8, .inl fT))] := hD
    refine lv_iconst (v := nI 1) hx hb dX8_takes_45 (by decide +kernel) ?_
    have hP9 := hP.sub (ws' := [(q, .inr (7, [.ref mq, .ref zq, .ref sq, .ref bq, .ref cq, .long sm, .ref pq, .int ps, .int th])), (mq, .inl (cZ, 12288, .inl (upd fM ((4096 * k) + x) (vp_nar .boolean (nI 0))))), (zq, .inl (cI, 3, .inl (upd fS k (nI ((fb_ct (M k) 4096) - 1))))), (sq, .inl (cI, 6156, .inl fP'_9)), (bq, .inl (cI, 3, .inl fB'_10)), (cq, .inl (cJ, 64, .inr (.inl fC))), (pq, .inl (cI, 8, .inl fT))]) [0, 1, 2, 3, 4, 5, 6] rfl
    have hD9 := hD.sub (ws' := [(q, .inr (7, [.ref mq, .ref zq, .ref sq, .ref bq, .ref cq, .long sm, .ref pq, .int ps, .int th])), (mq, .inl (cZ, 12288, .inl (upd fM ((4096 * k) + x) (vp_nar .boolean (nI 0))))), (zq, .inl (cI, 3, .inl (upd fS k (nI ((fb_ct (M k) 4096) - 1))))), (sq, .inl (cI, 6156, .inl fP'_9)), (bq, .inl (cI, 3, .inl fB'_10)), (cq, .inl (cJ, 64, .inr (.inl fC))), (pq, .inl (cI, 8, .inl fT))]) [0, 1, 2, 3, 4, 5, 6] (by decide) rfl
    have hK9 := hK.sub (tys' := [(cZ, .boolean), (cI, .int), (cJ, .long)]) [0, 1, 2] rfl
    exact W.zret (v := nI 1) hx hb hr (by first | exact narrow_b1 | exact narrow_b0) (fun t9 ht hW => ⟨⟨nI 1, ⟨upd fM ((4096 * k) + x) (vp_nar .boolean (nI 0)), upd fS k (nI ((fb_ct (M k) 4096) - 1)), fP'_9, fB'_10⟩, rfl, (show (nI 1) = b2i (M k x) ∧ MM (upd fM ((4096 * k) + x) (vp_nar .boolean (nI 0))) (upF M k (del (M k) x)) ∧ MZ (upd fS k (nI ((fb_ct (M k) 4096) - 1))) (upF M k (del (M k) x)) ∧ MX fP'_9 fB'_10 (upF P k (takeP (M k) (P k) x)) from ⟨by rw [c_3]; rfl, hM2, mz_set hZ (congrArg nI hsz), by
      have h9 := hw_6
      rw [upF_s] at h9
      rw [show takeP (M k) (P k) x = _ from funext fun y => if_pos c_3]
      exact h9⟩), by rw [ht]; exact hP9, va_K.moved hW.alike hK9, hD9⟩, hS.F ht⟩) hS.2.2 dX8_takes_46
  · have c_3 : (M k x) = false := b2i_f qc_3
    refine lv_iconst (v := nI 0) hx hb dX8_takes_9 (by decide +kernel) ?_
    have hP9 := hP.sub (ws' := [(q, .inr (7, [.ref mq, .ref zq, .ref sq, .ref bq, .ref cq, .long sm, .ref pq, .int ps, .int th])), (mq, .inl (cZ, 12288, .inl fM)), (zq, .inl (cI, 3, .inl fS)), (sq, .inl (cI, 6156, .inl fP)), (bq, .inl (cI, 3, .inl fB)), (cq, .inl (cJ, 64, .inr (.inl fC))), (pq, .inl (cI, 8, .inl fT))]) [0, 1, 2, 3, 4, 5, 6] rfl
    have hD9 := hD.sub (ws' := [(q, .inr (7, [.ref mq, .ref zq, .ref sq, .ref bq, .ref cq, .long sm, .ref pq, .int ps, .int th])), (mq, .inl (cZ, 12288, .inl fM)), (zq, .inl (cI, 3, .inl fS)), (sq, .inl (cI, 6156, .inl fP)), (bq, .inl (cI, 3, .inl fB)), (cq, .inl (cJ, 64, .inr (.inl fC))), (pq, .inl (cI, 8, .inl fT))]) [0, 1, 2, 3, 4, 5, 6] (by decide) rfl
    have hK9 := hK.sub (tys' := [(cZ, .boolean), (cI, .int), (cJ, .long)]) [0, 1, 2] rfl
    exact W.zret (v := nI 0) hx hb hr (by first | exact narrow_b1 | exact narrow_b0) (fun t9 ht hW => ⟨⟨nI 0, ⟨fM, fS, fP, fB⟩, rfl, (show (nI 0) = b2i (M k x) ∧ MM fM (upF M k (del (M k) x)) ∧ MZ fS (upF M k (del (M k) x)) ∧ MX fP fB (upF P k (takeP (M k) (P k) x)) from ⟨by rw [c_3]; rfl, takes_same hM hZ hX c_3⟩), by rw [ht]; exact hP9, va_K.moved hW.alike hK9, hD9⟩, hS.F ht⟩) hS.2.2 dX8_takes_10
