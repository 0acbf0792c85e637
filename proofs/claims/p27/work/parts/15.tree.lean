set_option maxHeartbeats 4000000 in
set_option maxRecDepth 100000 in
/-- Tree.cluster -/
theorem c_X4_cluster (l : Launch) (dC : Nat → ClassId) (dI : Nat → Nat → Nat) (q : Nat) (ca : Nat) (cJ : ClassId) (f : Nat → Int64) (sm : Int64) (lo : Option Nat) (k : Nat) (hk : k < 64) : Met l yX4_cluster wsX4_cluster ({ frames := 0, cells := 0, slots := 0, locals := 0 }) (va_Pc [.ref q, .int (nI k)] (fun U => va_P (dC, dI) vwCl [(q, .inr (4, [.ref ca, .long sm, .int (oI lo)])), (ca, .inl (cJ, 64, .inr (.inl f)))] U.heap ∧ va_K (dC, dI) vwCl [(cJ, .long)] U)) (vp_Sl (fun r => r = f k)) 0 0 (fun _ => False) := by
  refine Met.ofW (cc := cX4_cluster) (maxL := 2) (ret := (some .long)) (by decide) rfl ?_
  intro p e s m args below meth c s₁ B hml hv
  obtain ⟨rfl, hP, hK⟩ := hv
  have hx := B.exec
  have hb := B.bytes
  have hr := B.returns
  have hts := atoms_spec (ws := wsX4_cluster) B.pre
  have hown : s.vm.findClass RX4 = some m.cls := findClass_of_methodNamed B.named
  have hlocks := B.notSynchronized
  have hP : va_P (dC, dI) vwCl [(q, .inr (4, [.ref ca, .long sm, .int (oI lo)])), (ca, .inl (cJ, 64, .inr (.inl f)))] s.heap := hP
  have hl := lv_entry ([.ref q, .int (nI k)]) (n := 2) (Nat.le_of_ble_eq_true rfl)
  rw [lg_entry_eq]
  generalize (lg_sl ([.ref q, .int (nI k)]) ++ List.replicate (2 - (lg_sl ([.ref q, .int (nI k)])).length) Slot.unset).toArray = ls at hl ⊢
  have hl : lv_has ls 2 [(0, .ref q), (1, .int (nI k))] := hl
  refine lv_iload_n hx hb dX4_cluster_0 rfl (lv_at hl 1 rfl) ?_
  refine lv_if_lt (tgt := 13) hx hb dX4_cluster_1 (by decide) (fun qc_1 => ?_) (fun qc_1 => ?_)
  · have c_1 : k < 0 := (nI_ltI (a := k) (b := 0) (by omega) (by omega)).mp qc_1
    exact absurd c_1 (Nat.not_lt_zero _)
  · have c_1 : ¬ k < 0 := fun h9 => qc_1 ((nI_ltI (a := k) (b := 0) (by omega) (by omega)).mpr h9)
    refine lv_iload_n hx hb dX4_cluster_4 rfl (lv_at hl 1 rfl) ?_
    refine lv_aload_n hx hb dX4_cluster_5 rfl (lv_at hl 0 rfl) ?_
    refine va_get (D := (dC, dI)) (ci := 4) (v := .ref ca) (C := RX4) (T := TX4) (N := 3) hx hb hts (by decide +kernel) hown hK hP 0 rfl rfl 0 (by decide) (hts (.fieldLink RX4 9 "SmallNumberSets$Tree" "clusters" "[J") (by decide +kernel)) (fun _ h9 => h9) rfl dX4_cluster_6 ?_
    refine va_alen hx hb hK hP 1 0 rfl rfl (v := nI 64) rfl dX4_cluster_9 ?_
    refine lv_icmp_lt (tgt := 17) hx hb dX4_cluster_10 (by decide) (fun qc_2 => ?_) (fun qc_2 => ?_)
    · have c_2 : k < 64 := (nI_ltI (a := k) (b := 64) (by omega) (by omega)).mp qc_2
      refine lv_aload_n hx hb dX4_cluster_17 rfl (lv_at hl 0 rfl) ?_
      refine va_get (D := (dC, dI)) (ci := 4) (v := .ref ca) (C := RX4) (T := TX4) (N := 3) hx hb hts (by decide +kernel) hown hK hP 0 rfl rfl 0 (by decide) (hts (.fieldLink RX4 9 "SmallNumberSets$Tree" "clusters" "[J") (by decide +kernel)) (fun _ h9 => h9) rfl dX4_cluster_18 ?_
      refine lv_iload_n hx hb dX4_cluster_21 rfl (lv_at hl 1 rfl) ?_
      refine va_lald hx hb hK hP 1 0 rfl rfl (vp_in_nI (by omega) (by omega)) dX4_cluster_22 ?_
      refine lv_cvl (congrArg f (nI_clamp (by omega))) ?_
      exact W.lret (v := f k) hx hb hr (fun t9 ht hW => ⟨f k, rfl, rfl, ht⟩) (fun q h => by cases h) dX4_cluster_23
    · have c_2 : ¬ k < 64 := fun h9 => qc_2 ((nI_ltI (a := k) (b := 64) (by omega) (by omega)).mpr h9)
      exact absurd hk c_2
set_option maxHeartbeats 4000000 in
set_option maxRecDepth 100000 in
/-- Tree.setCluster -/
theorem c_X4_setCluster (l : Launch) (dC : Nat → ClassId) (dI : Nat → Nat → Nat) (q : Nat) (ca : Nat) (cJ : ClassId) (f : Nat → Int64) (sm : Int64) (lo : Option Nat) (k : Nat) (w : Int64) (sz : Nat) (hk : k < 64) : Met l yX4_setCluster wsX4_setCluster ({ frames := 1, cells := 0, slots := 0, locals := 20 }) (va_Pc [.ref q, .int (nI k), .long w] (fun U => U.heap.size = sz ∧ va_P (dC, dI) vwCl [(q, .inr (4, [.ref ca, .long sm, .int (oI lo)])), (ca, .inl (cJ, 64, .inr (.inl f)))] U.heap ∧ va_K (dC, dI) vwCl [(cJ, .long)] U ∧ va_D (fun _ => True) [(q, .inr (4, [.ref ca, .long sm, .int (oI lo)])), (ca, .inl (cJ, 64, .inr (.inl f)))])) (va_Qv (fun (u : (Nat → Int64) × Int64) => u.1 = vp_updL f k w ∧ ∀ i, i < 64 → gb u.2 i = (if i = k then decide (¬ w = 0) else gb sm i)) (fun (u : (Nat → Int64) × Int64) (t : State) => va_P (dC, dI) vwCl [(q, .inr (4, [.ref ca, .long u.2, .int (oI lo)])), (ca, .inl (cJ, 64, .inr (.inl u.1)))] t.heap ∧ va_K (dC, dI) vwCl [(cJ, .long)] t ∧ va_D (va_A [(q, .inr (4, [.ref ca, .long sm, .int (oI lo)])), (ca, .inl (cJ, 64, .inr (.inl f)))] sz) [(q, .inr (4, [.ref ca, .long u.2, .int (oI lo)])), (ca, .inl (cJ, 64, .inr (.inl u.1)))]) (va_A [(q, .inr (4, [.ref ca, .long sm, .int (oI lo)])), (ca, .inl (cJ, 64, .inr (.inl f)))] sz)) 0 0 (va_A [(q, .inr (4, [.ref ca, .long sm, .int (oI lo)])), (ca, .inl (cJ, 64, .inr (.inl f)))] sz) := by
  refine Met.ofW (cc := cX4_setCluster) (maxL := 4) (ret := none) (by decide) rfl ?_
  intro p e s m args below meth c s₁ B hml hv
  obtain ⟨rfl, hsz, hP, hK, hD0⟩ := hv
  have hx := B.exec
  have hb := B.bytes
  have hr := B.returns
  have hts := atoms_spec (ws := wsX4_setCluster) B.pre
  have hown : s.vm.findClass RX4 = some m.cls := findClass_of_methodNamed B.named
  have hlocks := B.notSynchronized
  subst hsz
  have hD := hD0.self (sz := s.heap.size)
  generalize hAe : va_A [(q, .inr (4, [.ref ca, .long sm, .int (oI lo)])), (ca, .inl (cJ, 64, .inr (.inl f)))] s.heap.size = A at hD ⊢
  have hA : ∀ q : Nat, s.heap.size ≤ q → A q := fun q h => by rw [← hAe]; exact Or.inr h
  have hS : va_S A s.heap s.heap [] := va_S.rf
  have hP : va_P (dC, dI) vwCl [(q, .inr (4, [.ref ca, .long sm, .int (oI lo)])), (ca, .inl (cJ, 64, .inr (.inl f)))] s.heap := hP
  have hl := lv_entry ([.ref q, .int (nI k), .long w]) (n := 4) (Nat.le_of_ble_eq_true rfl)
  rw [lg_entry_eq]
  generalize (lg_sl ([.ref q, .int (nI k), .long w]) ++ List.replicate (4 - (lg_sl ([.ref q, .int (nI k), .long w])).length) Slot.unset).toArray = ls at hl ⊢
  have hl : lv_has ls 4 [(0, .ref q), (1, .int (nI k)), (2, .long w)] := hl
  refine lv_iload_n hx hb dX4_setCluster_0 rfl (lv_at hl 1 rfl) ?_
  refine lv_if_lt (tgt := 13) hx hb dX4_setCluster_1 (by decide) (fun qc_1 => ?_) (fun qc_1 => ?_)
  · have c_1 : k < 0 := (nI_ltI (a := k) (b := 0) (by omega) (by omega)).mp qc_1
    exact absurd c_1 (Nat.not_lt_zero _)
  · have c_1 : ¬ k < 0 := fun h9 => qc_1 ((nI_ltI (a := k) (b := 0) (by omega) (by omega)).mpr h9)
    refine lv_iload_n hx hb dX4_setCluster_4 rfl (lv_at hl 1 rfl) ?_
    refine lv_aload_n hx hb dX4_setCluster_5 rfl (lv_at hl 0 rfl) ?_
    refine va_get (D := (dC, dI)) (ci := 4) (v := .ref ca) (C := RX4) (T := TX4) (N := 3) hx hb hts (by decide +kernel) hown hK hP 0 rfl rfl 0 (by decide) (hts (.fieldLink RX4 9 "SmallNumberSets$Tree" "clusters" "[J") (by decide +kernel)) (fun _ h9 => h9) rfl dX4_setCluster_6 ?_
    refine va_alen hx hb hK hP 1 0 rfl rfl (v := nI 64) rfl dX4_setCluster_9 ?_
    refine lv_icmp_lt (tgt := 14) hx hb dX4_setCluster_10 (by decide) (fun qc_2 => ?_) (fun qc_2 => ?_)
    · have c_2 : k < 64 := (nI_ltI (a := k) (b := 64) (by omega) (by omega)).mp qc_2
      refine lv_aload_n hx hb dX4_setCluster_14 rfl (lv_at hl 0 rfl) ?_
      refine va_get (D := (dC, dI)) (ci := 4) (v := .ref ca) (C := RX4) (T := TX4) (N := 3) hx hb hts (by decide +kernel) hown hK hP 0 rfl rfl 0 (by decide) (hts (.fieldLink RX4 9 "SmallNumberSets$Tree" "clusters" "[J") (by decide +kernel)) (fun _ h9 => h9) rfl dX4_setCluster_15 ?_
      refine lv_iload_n hx hb dX4_setCluster_18 rfl (lv_at hl 1 rfl) ?_
      refine lv_lload_n hx hb dX4_setCluster_19 rfl (lv_at hl 2 rfl) ?_
      refine va_last hx hb hK hP hD hS 1 0 rfl rfl (vp_in_nI (by omega) (by omega)) dX4_setCluster_20 (fun H locs hP hD hS => ?_)
      rw [nI_clamp (n := k) (by omega)] at hP hD
      have hP : va_P (dC, dI) vwCl [(q, .inr (4, [.ref ca, .long sm, .int (oI lo)])), (ca, .inl (cJ, 64, .inr (.inl (vp_updL f k w))))] H := hP
      have hD : va_D A [(q, .inr (4, [.ref ca, .long sm, .int (oI lo)])), (ca, .inl (cJ, 64, .inr (.inl (vp_updL f k w))))] := hD
      refine lv_lload_n hx hb dX4_setCluster_21 rfl (lv_at hl 2 rfl) ?_
      refine lv_lconst (v := 0) hx hb dX4_setCluster_22 (by decide +kernel) ?_
      refine W.lcmp hx hb dX4_setCluster_23 ?_
      refine lv_if_ne (tgt := 47) hx hb dX4_setCluster_24 (by decide) (fun qc_3 => ?_) (fun qc_3 => ?_)
      · have c_3 : ¬ (w = (0 : Int64)) := fun h9 => qc_3 ((lg_cmp_eq _ _).mpr h9)
        refine lv_aload_n hx hb dX4_setCluster_47 rfl (lv_at hl 0 rfl) ?_
        refine lv_dup hx hb dX4_setCluster_48 rfl ?_
        refine va_get (D := (dC, dI)) (ci := 4) (v := .long sm) (C := RX4) (T := TX4) (N := 3) hx hb hts (by decide +kernel) hown hK hP 0 rfl rfl 1 (by decide) (hts (.fieldLink RX4 15 "SmallNumberSets$Tree" "summary" "J") (by decide +kernel)) (fun _ h9 => h9) rfl dX4_setCluster_49 ?_
        refine lv_iload_n hx hb dX4_setCluster_52 rfl (lv_at hl 1 rfl) ?_
        have hPc := hP.sub (ws' := []) [] rfl
        have hKc := hK.sub (tys' := []) [] rfl
        refine vp_callSl (W.runS (As := [.int (nI k)]) (rest := [.long sm, .ref q]) ⟨hx, hb, hml, hown, hts⟩ (c_X6_bit l dC dI k (by omega)) (va_cwS 1 hts gX4_setCluster_X6_bit rfl rfl rfl (by decide +kernel) ⟨Nat.le_of_ble_eq_true rfl, Nat.le_of_ble_eq_true rfl⟩) ⟨fun a U g mk q => by obtain ⟨q0, qP, qK⟩ := q; exact ⟨q0, qP, va_K.moved (u := U) (U := U.calling g mk a) (Vm.Alike.refl U.vm) qK⟩, fun U hU hW => ⟨rfl, by rw [hU]; exact hPc, va_K.moved hW.alike hKc⟩⟩ rfl rfl hl.1 rfl (lv_room (Nat.le_of_ble_eq_true rfl)) dX4_setCluster_53 ⟨Nat.le_of_ble_eq_true rfl, Nat.le_of_ble_eq_true rfl⟩) (fun r_5 hw_4 => ?_)
        subst hw_4
        refine lv_lor hx hb dX4_setCluster_56 ?_
        refine va_put (D := (dC, dI)) (ci := 4) (v := .long (sm ||| (bit1 (k % 64)))) (ty := .long) (C := RX4) (T := TX4) (N := 3) hx hb hts (by decide +kernel) tyX4 tyX4_ok nmX4 hown hK hP hD hS 0 rfl rfl 1 (by decide) (hts (.fieldLink RX4 15 "SmallNumberSets$Tree" "summary" "J") (by decide +kernel)) (fun _ h9 => h9) rfl (by decide +kernel) rfl rfl (Nat.le_of_ble_eq_true rfl) dX4_setCluster_57 (fun H locs hP hD hS => ?_)
        have hP : va_P (dC, dI) vwCl [(q, .inr (4, [.ref ca, .long (sm ||| (bit1 (k % 64))), .int (oI lo)])), (ca, .inl (cJ, 64, .inr (.inl (vp_updL f k w))))] H := hP
        have hD : va_D A [(q, .inr (4, [.ref ca, .long (sm ||| (bit1 (k % 64))), .int (oI lo)])), (ca, .inl (cJ, 64, .inr (.inl (vp_updL f k w))))] := hD
        have hP9 := hP.sub (ws' := [(q, .inr (4, [.ref ca, .long (sm ||| (bit1 (k % 64))), .int (oI lo)])), (ca, .inl (cJ, 64, .inr (.inl (vp_updL f k w))))]) [0, 1] rfl
        have hD9 := hD.sub (ws' := [(q, .inr (4, [.ref ca, .long (sm ||| (bit1 (k % 64))), .int (oI lo)])), (ca, .inl (cJ, 64, .inr (.inl (vp_updL f k w))))]) [0, 1] (by decide) rfl
        have hK9 := hK.sub (tys' := [(cJ, .long)]) [0] rfl
        exact W.vret hx hb hr (fun t9 ht hW => ⟨⟨⟨vp_updL f k w, sm ||| (bit1 (k % 64))⟩, rfl, (show (vp_updL f k w) = vp_updL f k w ∧ ∀ i, i < 64 → gb (sm ||| (bit1 (k % 64))) i = (if i = k then decide (¬ w = 0) else gb sm i) from ⟨rfl, sm_or hk c_3⟩), by rw [ht]; exact hP9, va_K.moved hW.alike hK9, hD9⟩, hS.F ht⟩) hS.2.2 dX4_setCluster_60
      · have c_3 : w = (0 : Int64) := (lg_cmp_eq _ _).mp qc_3
        refine lv_aload_n hx hb dX4_setCluster_27 rfl (lv_at hl 0 rfl) ?_
        refine lv_dup hx hb dX4_setCluster_28 rfl ?_
        refine va_get (D := (dC, dI)) (ci := 4) (v := .long sm) (C := RX4) (T := TX4) (N := 3) hx hb hts (by decide +kernel) hown hK hP 0 rfl rfl 1 (by decide) (hts (.fieldLink RX4 15 "SmallNumberSets$Tree" "summary" "J") (by decide +kernel)) (fun _ h9 => h9) rfl dX4_setCluster_29 ?_
        refine lv_iload_n hx hb dX4_setCluster_32 rfl (lv_at hl 1 rfl) ?_
        have hPc := hP.sub (ws' := []) [] rfl
        have hKc := hK.sub (tys' := []) [] rfl
        refine vp_callSl (W.runS (As := [.int (nI k)]) (rest := [.long sm, .ref q]) ⟨hx, hb, hml, hown, hts⟩ (c_X6_bit l dC dI k (by omega)) (va_cwS 1 hts gX4_setCluster_X6_bit rfl rfl rfl (by decide +kernel) ⟨Nat.le_of_ble_eq_true rfl, Nat.le_of_ble_eq_true rfl⟩) ⟨fun a U g mk q => by obtain ⟨q0, qP, qK⟩ := q; exact ⟨q0, qP, va_K.moved (u := U) (U := U.calling g mk a) (Vm.Alike.refl U.vm) qK⟩, fun U hU hW => ⟨rfl, by rw [hU]; exact hPc, va_K.moved hW.alike hKc⟩⟩ rfl rfl hl.1 rfl (lv_room (Nat.le_of_ble_eq_true rfl)) dX4_setCluster_33 ⟨Nat.le_of_ble_eq_true rfl, Nat.le_of_ble_eq_true rfl⟩) (fun r_7 hw_6 => ?_)
        subst hw_6
        refine lv_ldc2 (v := (-1)) hx hb hown (hts (.constantLong RX4 29 (-1)) (by decide +kernel)) dX4_setCluster_36 ?_
        refine lv_lxor hx hb dX4_setCluster_39 ?_
        refine lv_land hx hb dX4_setCluster_40 ?_
        refine va_put (D := (dC, dI)) (ci := 4) (v := .long (sm &&& ((bit1 (k % 64)) ^^^ (-1 : Int64)))) (ty := .long) (C := RX4) (T := TX4) (N := 3) hx hb hts (by decide +kernel) tyX4 tyX4_ok nmX4 hown hK hP hD hS 0 rfl rfl 1 (by decide) (hts (.fieldLink RX4 15 "SmallNumberSets$Tree" "summary" "J") (by decide +kernel)) (fun _ h9 => h9) rfl (by decide +kernel) rfl rfl (Nat.le_of_ble_eq_true rfl) dX4_setCluster_41 (fun H locs hP hD hS => ?_)
        have hP : va_P (dC, dI) vwCl [(q, .inr (4, [.ref ca, .long (sm &&& ((bit1 (k % 64)) ^^^ (-1 : Int64))), .int (oI lo)])), (ca, .inl (cJ, 64, .inr (.inl (vp_updL f k w))))] H := hP
        have hD : va_D A [(q, .inr (4, [.ref ca, .long (sm &&& ((bit1 (k % 64)) ^^^ (-1 : Int64))), .int (oI lo)])), (ca, .inl (cJ, 64, .inr (.inl (vp_updL f k w))))] := hD
        refine lv_goto (tgt := 60) hx hb dX4_setCluster_44 (by decide) ?_
        have hP9 := hP.sub (ws' := [(q, .inr (4, [.ref ca, .long (sm &&& ((bit1 (k % 64)) ^^^ (-1 : Int64))), .int (oI lo)])), (ca, .inl (cJ, 64, .inr (.inl (vp_updL f k w))))]) [0, 1] rfl
        have hD9 := hD.sub (ws' := [(q, .inr (4, [.ref ca, .long (sm &&& ((bit1 (k % 64)) ^^^ (-1 : Int64))), .int (oI lo)])), (ca, .inl (cJ, 64, .inr (.inl (vp_updL f k w))))]) [0, 1] (by decide) rfl
        have hK9 := hK.sub (tys' := [(cJ, .long)]) [0] rfl
        exact W.vret hx hb hr (fun t9 ht hW => ⟨⟨⟨vp_updL f k w, sm &&& ((bit1 (k % 64)) ^^^ (-1 : Int64))⟩, rfl, (show (vp_updL f k w) = vp_updL f k w ∧ ∀ i, i < 64 → gb (sm &&& ((bit1 (k % 64)) ^^^ (-1 : Int64))) i = (if i = k then decide (¬ w = 0) else gb sm i) from ⟨rfl, sm_and hk c_3⟩), by rw [ht]; exact hP9, va_K.moved hW.alike hK9, hD9⟩, hS.F ht⟩) hS.2.2 dX4_setCluster_60
    · have c_2 : ¬ k < 64 := fun h9 => qc_2 ((nI_ltI (a := k) (b := 64) (by omega) (by omega)).mpr h9)
      exact absurd hk c_2
set_option maxHeartbeats 4000000 in
set_option maxRecDepth 100000 in
/-- Tree.least -/
theorem c_X4_least (l : Launch) (dC : Nat → ClassId) (dI : Nat → Nat → Nat) (q : Nat) (ca : Nat) (cJ : ClassId) (f : Nat → Int64) (sm : Int64) (lo : Option Nat) : Met l yX4_least wsX4_least ({ frames := 0, cells := 0, slots := 0, locals := 0 }) (va_Pc [.ref q] (fun U => va_P (dC, dI) vwCl [(q, .inr (4, [.ref ca, .long sm, .int (oI lo)])), (ca, .inl (cJ, 64, .inr (.inl f)))] U.heap ∧ va_K (dC, dI) vwCl [(cJ, .long)] U)) (vp_Si (fun r => r = oI lo)) 0 0 (fun _ => False) := by
  refine Met.ofW (cc := cX4_least) (maxL := 1) (ret := (some .int)) (by decide) rfl ?_
  intro p e s m args below meth c s₁ B hml hv
  obtain ⟨rfl, hP, hK⟩ := hv
  have hx := B.exec
  have hb := B.bytes
  have hr := B.returns
  have hts := atoms_spec (ws := wsX4_least) B.pre
  have hown : s.vm.findClass RX4 = some m.cls := findClass_of_methodNamed B.named
  have hlocks := B.notSynchronized
  have hP : va_P (dC, dI) vwCl [(q, .inr (4, [.ref ca, .long sm, .int (oI lo)])), (ca, .inl (cJ, 64, .inr (.inl f)))] s.heap := hP
  have hl := lv_entry ([.ref q]) (n := 1) (Nat.le_of_ble_eq_true rfl)
  rw [lg_entry_eq]
  generalize (lg_sl ([.ref q]) ++ List.replicate (1 - (lg_sl ([.ref q])).length) Slot.unset).toArray = ls at hl ⊢
  have hl : lv_has ls 1 [(0, .ref q)] := hl
  refine lv_aload_n hx hb dX4_least_0 rfl (lv_at hl 0 rfl) ?_
  refine va_get (D := (dC, dI)) (ci := 4) (v := .int (oI lo)) (C := RX4) (T := TX4) (N := 3) hx hb hts (by decide +kernel) hown hK hP 0 rfl rfl 2 (by decide) (hts (.fieldLink RX4 19 "SmallNumberSets$Tree" "least" "I") (by decide +kernel)) (fun _ h9 => h9) rfl dX4_least_1 ?_
  exact W.iret (v := oI lo) hx hb hr (fun t9 ht hW => ⟨oI lo, rfl, rfl, ht⟩) (fun q h => by cases h) dX4_least_4
set_option maxHeartbeats 4000000 in
set_option maxRecDepth 100000 in
/-- Tree.leastOf -/
theorem c_X4_leastOf (l : Launch) (dC : Nat → ClassId) (dI : Nat → Nat → Nat) (q : Nat) (ca : Nat) (cJ : ClassId) (f : Nat → Int64) (sm : Int64) (lo : Option Nat) (k : Nat) (z : Nat) (hk : k < 64) (hz : fst1 (gb (f k)) 64 = some z) : Met l yX4_leastOf wsX4_leastOf ({ frames := 2, cells := 0, slots := 0, locals := 42 }) (va_Pc [.ref q, .int (nI k)] (fun U => va_P (dC, dI) vwCl [(q, .inr (4, [.ref ca, .long sm, .int (oI lo)])), (ca, .inl (cJ, 64, .inr (.inl f)))] U.heap ∧ va_K (dC, dI) vwCl [(cJ, .long)] U)) (vp_Si (fun r => r = nI (k * 64 + z))) 0 0 (fun _ => False) := by
  refine Met.ofW (cc := cX4_leastOf) (maxL := 2) (ret := (some .int)) (by decide) rfl ?_
  intro p e s m args below meth c s₁ B hml hv
  obtain ⟨rfl, hP, hK⟩ := hv
  have hx := B.exec
  have hb := B.bytes
  have hr := B.returns
  have hts := atoms_spec (ws := wsX4_leastOf) B.pre
  have hown : s.vm.findClass RX4 = some m.cls := findClass_of_methodNamed B.named
  have hlocks := B.notSynchronized
  have hP : va_P (dC, dI) vwCl [(q, .inr (4, [.ref ca, .long sm, .int (oI lo)])), (ca, .inl (cJ, 64, .inr (.inl f)))] s.heap := hP
  have hl := lv_entry ([.ref q, .int (nI k)]) (n := 2) (Nat.le_of_ble_eq_true rfl)
  rw [lg_entry_eq]
  generalize (lg_sl ([.ref q, .int (nI k)]) ++ List.replicate (2 - (lg_sl ([.ref q, .int (nI k)])).length) Slot.unset).toArray = ls at hl ⊢
  have hl : lv_has ls 2 [(0, .ref q), (1, .int (nI k))] := hl
  refine lv_iload_n hx hb dX4_leastOf_0 rfl (lv_at hl 1 rfl) ?_
  refine lv_bipush (v := nI 64) hx hb dX4_leastOf_1 (by decide +kernel) ?_
  refine lv_imul hx hb dX4_leastOf_3 ?_
  refine lv_cvi (pk_mul _ _) ?_
  refine lv_aload_n hx hb dX4_leastOf_4 rfl (lv_at hl 0 rfl) ?_
  refine lv_iload_n hx hb dX4_leastOf_5 rfl (lv_at hl 1 rfl) ?_
  have hPc := hP.sub (ws' := [(q, .inr (4, [.ref ca, .long sm, .int (oI lo)])), (ca, .inl (cJ, 64, .inr (.inl f)))]) [0, 1] rfl
  have hKc := hK.sub (tys' := [(cJ, .long)]) [0] rfl
  refine vp_callSl (W.runV (As := [.int (nI k)]) (rest := [.int (nI (k * 64))]) ⟨hx, hb, hml, hown, hts⟩ (c_X4_cluster l dC dI q ca cJ f sm lo k (by omega)) (cwV 1 hts gX4_leastOf_X4_cluster rfl rfl rfl (by decide +kernel) ⟨Nat.le_of_ble_eq_true rfl, Nat.le_of_ble_eq_true rfl⟩) ⟨fun a U g mk q => by obtain ⟨q0, qP, qK⟩ := q; exact ⟨q0, qP, va_K.moved (u := U) (U := U.calling g mk a) (Vm.Alike.refl U.vm) qK⟩, va_recv hKc hPc (ci := 4) (q0 := 0) rfl rfl, fun U hU hW => ⟨rfl, by rw [hU]; exact hPc, va_K.moved hW.alike hKc⟩⟩ rfl rfl hl.1 rfl (lv_room (Nat.le_of_ble_eq_true rfl)) dX4_leastOf_6 ⟨Nat.le_of_ble_eq_true rfl, Nat.le_of_ble_eq_true rfl⟩) (fun r_2 hw_1 => ?_)
  subst hw_1
  have hPc := hP.sub (ws' := []) [] rfl
  have hKc := hK.sub (tys' := []) [] rfl
  refine vp_callSi (W.runS (As := [.long (f k)]) (rest := [.int (nI (k * 64))]) ⟨hx, hb, hml, hown, hts⟩ (c_X6_least l dC dI (f k) ) (va_cwS 1 hts gX4_leastOf_X6_least rfl rfl rfl (by decide +kernel) ⟨Nat.le_of_ble_eq_true rfl, Nat.le_of_ble_eq_true rfl⟩) ⟨fun a U g mk q => by obtain ⟨q0, qP, qK⟩ := q; exact ⟨q0, qP, va_K.moved (u := U) (U := U.calling g mk a) (Vm.Alike.refl U.vm) qK⟩, fun U hU hW => ⟨rfl, by rw [hU]; exact hPc, va_K.moved hW.alike hKc⟩⟩ rfl rfl hl.1 rfl (lv_room (Nat.le_of_ble_eq_true rfl)) dX4_leastOf_9 ⟨Nat.le_of_ble_eq_true rfl, Nat.le_of_ble_eq_true rfl⟩) (fun r_4 hw_3 => ?_)
  subst hw_3
  refine lv_cvi (congrArg oI hz) ?_
  refine lv_cvi ((rfl : oI (some z) = nI z)) ?_
  refine lv_iadd hx hb dX4_leastOf_12 ?_
  refine lv_cvi (nI_add _ _) ?_
  exact W.iret (v := nI ((k * 64) + z)) hx hb hr (fun t9 ht hW => ⟨nI ((k * 64) + z), rfl, rfl, ht⟩) (fun q h => by cases h) dX4_leastOf_13
set_option maxHeartbeats 4000000 in
set_option maxRecDepth 100000 in
/-- Tree.greatestOf -/
theorem c_X4_greatestOf (l : Launch) (dC : Nat → ClassId) (dI : Nat → Nat → Nat) (q : Nat) (ca : Nat) (cJ : ClassId) (f : Nat → Int64) (sm : Int64) (lo : Option Nat) (k : Nat) (z : Nat) (hk : k < 64) (hz : lst1 (gb (f k)) 64 = some z) : Met l yX4_greatestOf wsX4_greatestOf ({ frames := 2, cells := 0, slots := 0, locals := 44 }) (va_Pc [.ref q, .int (nI k)] (fun U => va_P (dC, dI) vwCl [(q, .inr (4, [.ref ca, .long sm, .int (oI lo)])), (ca, .inl (cJ, 64, .inr (.inl f)))] U.heap ∧ va_K (dC, dI) vwCl [(cJ, .long)] U)) (vp_Si (fun r => r = nI (k * 64 + z))) 0 0 (fun _ => False) := by
  refine Met.ofW (cc := cX4_greatestOf) (maxL := 2) (ret := (some .int)) (by decide) rfl ?_
  intro p e s m args below meth c s₁ B hml hv
  obtain ⟨rfl, hP, hK⟩ := hv
  have hx := B.exec
  have hb := B.bytes
  have hr := B.returns
  have hts := atoms_spec (ws := wsX4_greatestOf) B.pre
  have hown : s.vm.findClass RX4 = some m.cls := findClass_of_methodNamed B.named
  have hlocks := B.notSynchronized
  have hP : va_P (dC, dI) vwCl [(q, .inr (4, [.ref ca, .long sm, .int (oI lo)])), (ca, .inl (cJ, 64, .inr (.inl f)))] s.heap := hP
  have hl := lv_entry ([.ref q, .int (nI k)]) (n := 2) (Nat.le_of_ble_eq_true rfl)
  rw [lg_entry_eq]
  generalize (lg_sl ([.ref q, .int (nI k)]) ++ List.replicate (2 - (lg_sl ([.ref q, .int (nI k)])).length) Slot.unset).toArray = ls at hl ⊢
  have hl : lv_has ls 2 [(0, .ref q), (1, .int (nI k))] := hl
  refine lv_iload_n hx hb dX4_greatestOf_0 rfl (lv_at hl 1 rfl) ?_
  refine lv_bipush (v := nI 64) hx hb dX4_greatestOf_1 (by decide +kernel) ?_
  refine lv_imul hx hb dX4_greatestOf_3 ?_
  refine lv_cvi (pk_mul _ _) ?_
  refine lv_aload_n hx hb dX4_greatestOf_4 rfl (lv_at hl 0 rfl) ?_
  refine lv_iload_n hx hb dX4_greatestOf_5 rfl (lv_at hl 1 rfl) ?_
  have hPc := hP.sub (ws' := [(q, .inr (4, [.ref ca, .long sm, .int (oI lo)])), (ca, .inl (cJ, 64, .inr (.inl f)))]) [0, 1] rfl
  have hKc := hK.sub (tys' := [(cJ, .long)]) [0] rfl
  refine vp_callSl (W.runV (As := [.int (nI k)]) (rest := [.int (nI (k * 64))]) ⟨hx, hb, hml, hown, hts⟩ (c_X4_cluster l dC dI q ca cJ f sm lo k (by omega)) (cwV 1 hts gX4_greatestOf_X4_cluster rfl rfl rfl (by decide +kernel) ⟨Nat.le_of_ble_eq_true rfl, Nat.le_of_ble_eq_true rfl⟩) ⟨fun a U g mk q => by obtain ⟨q0, qP, qK⟩ := q; exact ⟨q0, qP, va_K.moved (u := U) (U := U.calling g mk a) (Vm.Alike.refl U.vm) qK⟩, va_recv hKc hPc (ci := 4) (q0 := 0) rfl rfl, fun U hU hW => ⟨rfl, by rw [hU]; exact hPc, va_K.moved hW.alike hKc⟩⟩ rfl rfl hl.1 rfl (lv_room (Nat.le_of_ble_eq_true rfl)) dX4_greatestOf_6 ⟨Nat.le_of_ble_eq_true rfl, Nat.le_of_ble_eq_true rfl⟩) (fun r_2 hw_1 => ?_)
  subst hw_1
  have hPc := hP.sub (ws' := []) [] rfl
  have hKc := hK.sub (tys' := []) [] rfl
  refine vp_callSi (W.runS (As := [.long (f k)]) (rest := [.int (nI (k * 64))]) ⟨hx, hb, hml, hown, hts⟩ (c_X6_greatest l dC dI (f k) ) (va_cwS 1 hts gX4_greatestOf_X6_greatest rfl rfl rfl (by decide +kernel) ⟨Nat.le_of_ble_eq_true rfl, Nat.le_of_ble_eq_true rfl⟩) ⟨fun a U g mk q => by obtain ⟨q0, qP, qK⟩ := q; exact ⟨q0, qP, va_K.moved (u := U) (U := U.calling g mk a) (Vm.Alike.refl U.vm) qK⟩, fun U hU hW => ⟨rfl, by rw [hU]; exact hPc, va_K.moved hW.alike hKc⟩⟩ rfl rfl hl.1 rfl (lv_room (Nat.le_of_ble_eq_true rfl)) dX4_greatestOf_9 ⟨Nat.le_of_ble_eq_true rfl, Nat.le_of_ble_eq_true rfl⟩) (fun r_4 hw_3 => ?_)
  subst hw_3
  refine lv_cvi (congrArg oI hz) ?_
  refine lv_cvi ((rfl : oI (some z) = nI z)) ?_
  refine lv_iadd hx hb dX4_greatestOf_12 ?_
  refine lv_cvi (nI_add _ _) ?_
  exact W.iret (v := nI ((k * 64) + z)) hx hb hr (fun t9 ht hW => ⟨nI ((k * 64) + z), rfl, rfl, ht⟩) (fun q h => by cases h) dX4_greatestOf_13
set_option maxHeartbeats 4000000 in
set_option maxRecDepth 100000 in
/-- Tree.greatest -/
theorem c_X4_greatest (l : Launch) (dC : Nat → ClassId) (dI : Nat → Nat → Nat) (q : Nat) (ca : Nat) (cJ : ClassId) (f : Nat → Int64) (sm : Int64) (lo : Option Nat) (M : Nat → Bool) (hT : TR M f sm lo) : Met l yX4_greatest wsX4_greatest ({ frames := 3, cells := 0, slots := 0, locals := 65 }) (va_Pc [.ref q] (fun U => va_P (dC, dI) vwCl [(q, .inr (4, [.ref ca, .long sm, .int (oI lo)])), (ca, .inl (cJ, 64, .inr (.inl f)))] U.heap ∧ va_K (dC, dI) vwCl [(cJ, .long)] U)) (vp_Si (fun r => r = oI (lst1 M 4096))) 0 0 (fun _ => False) := by
  refine Met.ofW (cc := cX4_greatest) (maxL := 1) (ret := (some .int)) (by decide) rfl ?_
  intro p e s m args below meth c s₁ B hml hv
  obtain ⟨rfl, hP, hK⟩ := hv
  have hx := B.exec
  have hb := B.bytes
  have hr := B.returns
  have hts := atoms_spec (ws := wsX4_greatest) B.pre
  have hown : s.vm.findClass RX4 = some m.cls := findClass_of_methodNamed B.named
  have hlocks := B.notSynchronized
  have hP : va_P (dC, dI) vwCl [(q, .inr (4, [.ref ca, .long sm, .int (oI lo)])), (ca, .inl (cJ, 64, .inr (.inl f)))] s.heap := hP
  have hl := lv_entry ([.ref q]) (n := 1) (Nat.le_of_ble_eq_true rfl)
  rw [lg_entry_eq]
  generalize (lg_sl ([.ref q]) ++ List.replicate (1 - (lg_sl ([.ref q])).length) Slot.unset).toArray = ls at hl ⊢
  have hl : lv_has ls 1 [(0, .ref q)] := hl
  refine lv_aload_n hx hb dX4_greatest_0 rfl (lv_at hl 0 rfl) ?_
  refine va_get (D := (dC, dI)) (ci := 4) (v := .long sm) (C := RX4) (T := TX4) (N := 3) hx hb hts (by decide +kernel) hown hK hP 0 rfl rfl 1 (by decide) (hts (.fieldLink RX4 15 "SmallNumberSets$Tree" "summary" "J") (by decide +kernel)) (fun _ h9 => h9) rfl dX4_greatest_1 ?_
  refine lv_lconst (v := 0) hx hb dX4_greatest_4 (by decide +kernel) ?_
  refine W.lcmp hx hb dX4_greatest_5 ?_
  refine lv_if_ne (tgt := 16) hx hb dX4_greatest_6 (by decide) (fun qc_1 => ?_) (fun qc_1 => ?_)
  · have c_1 : ¬ (sm = (0 : Int64)) := fun h9 => qc_1 ((lg_cmp_eq _ _).mpr h9)
    refine lv_aload_n hx hb dX4_greatest_16 rfl (lv_at hl 0 rfl) ?_
    refine lv_aload_n hx hb dX4_greatest_17 rfl (lv_at hl 0 rfl) ?_
    refine va_get (D := (dC, dI)) (ci := 4) (v := .long sm) (C := RX4) (T := TX4) (N := 3) hx hb hts (by decide +kernel) hown hK hP 0 rfl rfl 1 (by decide) (hts (.fieldLink RX4 15 "SmallNumberSets$Tree" "summary" "J") (by decide +kernel)) (fun _ h9 => h9) rfl dX4_greatest_18 ?_
    have hPc := hP.sub (ws' := []) [] rfl
    have hKc := hK.sub (tys' := []) [] rfl
    refine vp_callSi (W.runS (As := [.long sm]) (rest := [.ref q]) ⟨hx, hb, hml, hown, hts⟩ (c_X6_greatest l dC dI sm ) (va_cwS 1 hts gX4_greatest_X6_greatest rfl rfl rfl (by decide +kernel) ⟨Nat.le_of_ble_eq_true rfl, Nat.le_of_ble_eq_true rfl⟩) ⟨fun a U g mk q => by obtain ⟨q0, qP, qK⟩ := q; exact ⟨q0, qP, va_K.moved (u := U) (U := U.calling g mk a) (Vm.Alike.refl U.vm) qK⟩, fun U hU hW => ⟨rfl, by rw [hU]; exact hPc, va_K.moved hW.alike hKc⟩⟩ rfl rfl hl.1 rfl (lv_room (Nat.le_of_ble_eq_true rfl)) dX4_greatest_21 ⟨Nat.le_of_ble_eq_true rfl, Nat.le_of_ble_eq_true rfl⟩) (fun r_3 hw_2 => ?_)
    subst hw_2
    obtain ⟨h, z, hh0, hh1, hh2, hh3, hh4⟩ := tr_g1 hT c_1
    refine lv_cvi (congrArg oI hh0) ?_
    refine lv_cvi ((rfl : oI (some h) = nI h)) ?_
    have hPc := hP.sub (ws' := [(q, .inr (4, [.ref ca, .long sm, .int (oI lo)])), (ca, .inl (cJ, 64, .inr (.inl f)))]) [0, 1] rfl
    have hKc := hK.sub (tys' := [(cJ, .long)]) [0] rfl
    refine vp_callSi (W.runV (As := [.int (nI h)]) (rest := []) ⟨hx, hb, hml, hown, hts⟩ (c_X4_greatestOf l dC dI q ca cJ f sm lo h z (by omega) hh3) (cwV 1 hts gX4_greatest_X4_greatestOf rfl rfl rfl (by decide +kernel) ⟨Nat.le_of_ble_eq_true rfl, Nat.le_of_ble_eq_true rfl⟩) ⟨fun a U g mk q => by obtain ⟨q0, qP, qK⟩ := q; exact ⟨q0, qP, va_K.moved (u := U) (U := U.calling g mk a) (Vm.Alike.refl U.vm) qK⟩, va_recv hKc hPc (ci := 4) (q0 := 0) rfl rfl, fun U hU hW => ⟨rfl, by rw [hU]; exact hPc, va_K.moved hW.alike hKc⟩⟩ rfl rfl hl.1 rfl (lv_room (Nat.le_of_ble_eq_true rfl)) dX4_greatest_24 ⟨Nat.le_of_ble_eq_true rfl, Nat.le_of_ble_eq_true rfl⟩) (fun r_5 hw_4 => ?_)
    subst hw_4
    exact W.iret (v := nI (h * 64 + z)) hx hb hr (fun t9 ht hW => ⟨nI (h * 64 + z), rfl, by rw [hh4]; rfl, ht⟩) (fun q h => by cases h) dX4_greatest_27
  · have c_1 : sm = (0 : Int64) := (lg_cmp_eq _ _).mp qc_1
    refine lv_aload_n hx hb dX4_greatest_9 rfl (lv_at hl 0 rfl) ?_
    refine va_get (D := (dC, dI)) (ci := 4) (v := .int (oI lo)) (C := RX4) (T := TX4) (N := 3) hx hb hts (by decide +kernel) hown hK hP 0 rfl rfl 2 (by decide) (hts (.fieldLink RX4 19 "SmallNumberSets$Tree" "least" "I") (by decide +kernel)) (fun _ h9 => h9) rfl dX4_greatest_10 ?_
    refine lv_goto (tgt := 27) hx hb dX4_greatest_13 (by decide) ?_
    exact W.iret (v := oI lo) hx hb hr (fun t9 ht hW => ⟨oI lo, rfl, congrArg oI (tr_g0 hT c_1), ht⟩) (fun q h => by cases h) dX4_greatest_27
set_option maxHeartbeats 4000000 in
set_option maxRecDepth 100000 in
/-- Tree.leastInClusters -/
theorem c_X4_leastInClusters (l : Launch) (dC : Nat → ClassId) (dI : Nat → Nat → Nat) (q : Nat) (ca : Nat) (cJ : ClassId) (f : Nat → Int64) (sm : Int64) (lo : Option Nat) (hs : SMc f sm) : Met l yX4_leastInClusters wsX4_leastInClusters ({ frames := 3, cells := 0, slots := 0, locals := 63 }) (va_Pc [.ref q] (fun U => va_P (dC, dI) vwCl [(q, .inr (4, [.ref ca, .long sm, .int (oI lo)])), (ca, .inl (cJ, 64, .inr (.inl f)))] U.heap ∧ va_K (dC, dI) vwCl [(cJ, .long)] U)) (vp_Si (fun r => r = oI (fst1 (bo f) 4096))) 0 0 (fun _ => False) := by
  refine Met.ofW (cc := cX4_leastInClusters) (maxL := 1) (ret := (some .int)) (by decide) rfl ?_
  intro p e s m args below meth c s₁ B hml hv
  obtain ⟨rfl, hP, hK⟩ := hv
  have hx := B.exec
  have hb := B.bytes
  have hr := B.returns
  have hts := atoms_spec (ws := wsX4_leastInClusters) B.pre
  have hown : s.vm.findClass RX4 = some m.cls := findClass_of_methodNamed B.named
  have hlocks := B.notSynchronized
  have hP : va_P (dC, dI) vwCl [(q, .inr (4, [.ref ca, .long sm, .int (oI lo)])), (ca, .inl (cJ, 64, .inr (.inl f)))] s.heap := hP
  have hl := lv_entry ([.ref q]) (n := 1) (Nat.le_of_ble_eq_true rfl)
  rw [lg_entry_eq]
  generalize (lg_sl ([.ref q]) ++ List.replicate (1 - (lg_sl ([.ref q])).length) Slot.unset).toArray = ls at hl ⊢
  have hl : lv_has ls 1 [(0, .ref q)] := hl
  refine lv_aload_n hx hb dX4_leastInClusters_0 rfl (lv_at hl 0 rfl) ?_
  refine va_get (D := (dC, dI)) (ci := 4) (v := .long sm) (C := RX4) (T := TX4) (N := 3) hx hb hts (by decide +kernel) hown hK hP 0 rfl rfl 1 (by decide) (hts (.fieldLink RX4 15 "SmallNumberSets$Tree" "summary" "J") (by decide +kernel)) (fun _ h9 => h9) rfl dX4_leastInClusters_1 ?_
  refine lv_lconst (v := 0) hx hb dX4_leastInClusters_4 (by decide +kernel) ?_
  refine W.lcmp hx hb dX4_leastInClusters_5 ?_
  refine lv_if_ne (tgt := 13) hx hb dX4_leastInClusters_6 (by decide) (fun qc_1 => ?_) (fun qc_1 => ?_)
  · have c_1 : ¬ (sm = (0 : Int64)) := fun h9 => qc_1 ((lg_cmp_eq _ _).mpr h9)
    refine lv_aload_n hx hb dX4_leastInClusters_13 rfl (lv_at hl 0 rfl) ?_
    refine lv_aload_n hx hb dX4_leastInClusters_14 rfl (lv_at hl 0 rfl) ?_
    refine va_get (D := (dC, dI)) (ci := 4) (v := .long sm) (C := RX4) (T := TX4) (N := 3) hx hb hts (by decide +kernel) hown hK hP 0 rfl rfl 1 (by decide) (hts (.fieldLink RX4 15 "SmallNumberSets$Tree" "summary" "J") (by decide +kernel)) (fun _ h9 => h9) rfl dX4_leastInClusters_15 ?_
    have hPc := hP.sub (ws' := []) [] rfl
    have hKc := hK.sub (tys' := []) [] rfl
    refine vp_callSi (W.runS (As := [.long sm]) (rest := [.ref q]) ⟨hx, hb, hml, hown, hts⟩ (c_X6_least l dC dI sm ) (va_cwS 1 hts gX4_leastInClusters_X6_least rfl rfl rfl (by decide +kernel) ⟨Nat.le_of_ble_eq_true rfl, Nat.le_of_ble_eq_true rfl⟩) ⟨fun a U g mk q => by obtain ⟨q0, qP, qK⟩ := q; exact ⟨q0, qP, va_K.moved (u := U) (U := U.calling g mk a) (Vm.Alike.refl U.vm) qK⟩, fun U hU hW => ⟨rfl, by rw [hU]; exact hPc, va_K.moved hW.alike hKc⟩⟩ rfl rfl hl.1 rfl (lv_room (Nat.le_of_ble_eq_true rfl)) dX4_leastInClusters_18 ⟨Nat.le_of_ble_eq_true rfl, Nat.le_of_ble_eq_true rfl⟩) (fun r_3 hw_2 => ?_)
    subst hw_2
    obtain ⟨h, z, hh0, hh1, hh2, hh3, hh4⟩ := lic_1 hs c_1
    refine lv_cvi (congrArg oI hh0) ?_
    refine lv_cvi ((rfl : oI (some h) = nI h)) ?_
    have hPc := hP.sub (ws' := [(q, .inr (4, [.ref ca, .long sm, .int (oI lo)])), (ca, .inl (cJ, 64, .inr (.inl f)))]) [0, 1] rfl
    have hKc := hK.sub (tys' := [(cJ, .long)]) [0] rfl
    refine vp_callSi (W.runV (As := [.int (nI h)]) (rest := []) ⟨hx, hb, hml, hown, hts⟩ (c_X4_leastOf l dC dI q ca cJ f sm lo h z (by omega) hh3) (cwV 1 hts gX4_leastInClusters_X4_leastOf rfl rfl rfl (by decide +kernel) ⟨Nat.le_of_ble_eq_true rfl, Nat.le_of_ble_eq_true rfl⟩) ⟨fun a U g mk q => by obtain ⟨q0, qP, qK⟩ := q; exact ⟨q0, qP, va_K.moved (u := U) (U := U.calling g mk a) (Vm.Alike.refl U.vm) qK⟩, va_recv hKc hPc (ci := 4) (q0 := 0) rfl rfl, fun U hU hW => ⟨rfl, by rw [hU]; exact hPc, va_K.moved hW.alike hKc⟩⟩ rfl rfl hl.1 rfl (lv_room (Nat.le_of_ble_eq_true rfl)) dX4_leastInClusters_21 ⟨Nat.le_of_ble_eq_true rfl, Nat.le_of_ble_eq_true rfl⟩) (fun r_5 hw_4 => ?_)
    subst hw_4
    exact W.iret (v := nI (h * 64 + z)) hx hb hr (fun t9 ht hW => ⟨nI (h * 64 + z), rfl, by rw [hh4]; rfl, ht⟩) (fun q h => by cases h) dX4_leastInClusters_24
  · have c_1 : sm = (0 : Int64) := (lg_cmp_eq _ _).mp qc_1
    refine lv_iconst (v := -1) hx hb dX4_leastInClusters_9 (by decide +kernel) ?_
    refine lv_goto (tgt := 24) hx hb dX4_leastInClusters_10 (by decide) ?_
    exact W.iret (v := -1) hx hb hr (fun t9 ht hW => ⟨-1, rfl, by rw [lic_0 hs c_1]; rfl, ht⟩) (fun q h => by cases h) dX4_leastInClusters_24
set_option maxHeartbeats 4000000 in
set_option maxRecDepth 100000 in
/-- Tree.goesOnInCluster -/
theorem c_X4_goesOnInCluster (l : Launch) (dC : Nat → ClassId) (dI : Nat → Nat → Nat) (q : Nat) (ca : Nat) (cJ : ClassId) (f : Nat → Int64) (sm : Int64) (lo : Option Nat) (k : Nat) (hk : k < 4096) : Met l yX4_goesOnInCluster wsX4_goesOnInCluster ({ frames := 2, cells := 0, slots := 0, locals := 44 }) (va_Pc [.ref q, .int (nI k)] (fun U => va_P (dC, dI) vwCl [(q, .inr (4, [.ref ca, .long sm, .int (oI lo)])), (ca, .inl (cJ, 64, .inr (.inl f)))] U.heap ∧ va_K (dC, dI) vwCl [(cJ, .long)] U)) (vp_Si (fun r => r = b2i (goes (f (k / 64)) (k % 64)))) 0 0 (fun _ => False) := by
  refine Met.ofW (cc := cX4_goesOnInCluster) (maxL := 2) (ret := (some .boolean)) (by decide) rfl ?_
  intro p e s m args below meth c s₁ B hml hv
  obtain ⟨rfl, hP, hK⟩ := hv
  have hx := B.exec
  have hb := B.bytes
  have hr := B.returns
  have hts := atoms_spec (ws := wsX4_goesOnInCluster) B.pre
  have hown : s.vm.findClass RX4 = some m.cls := findClass_of_methodNamed B.named
  have hlocks := B.notSynchronized
  have hP : va_P (dC, dI) vwCl [(q, .inr (4, [.ref ca, .long sm, .int (oI lo)])), (ca, .inl (cJ, 64, .inr (.inl f)))] s.heap := hP
  have hl := lv_entry ([.ref q, .int (nI k)]) (n := 2) (Nat.le_of_ble_eq_true rfl)
  rw [lg_entry_eq]
  generalize (lg_sl ([.ref q, .int (nI k)]) ++ List.replicate (2 - (lg_sl ([.ref q, .int (nI k)])).length) Slot.unset).toArray = ls at hl ⊢
  have hl : lv_has ls 2 [(0, .ref q), (1, .int (nI k))] := hl
  refine lv_iload_n hx hb dX4_goesOnInCluster_0 rfl (lv_at hl 1 rfl) ?_
  refine lv_bipush (v := nI 64) hx hb dX4_goesOnInCluster_1 (by decide +kernel) ?_
  refine lv_irem hx hb dX4_goesOnInCluster_3 (by decide +kernel) ?_
  refine lv_cvi (pk_rem (by omega) (by decide) (by decide)) ?_
  refine lv_aload_n hx hb dX4_goesOnInCluster_4 rfl (lv_at hl 0 rfl) ?_
  refine lv_iload_n hx hb dX4_goesOnInCluster_5 rfl (lv_at hl 1 rfl) ?_
  refine lv_bipush (v := nI 64) hx hb dX4_goesOnInCluster_6 (by decide +kernel) ?_
  refine lv_idiv hx hb dX4_goesOnInCluster_8 (by decide +kernel) ?_
  refine lv_cvi (pk_div (by omega) (by decide) (by decide)) ?_
  have hPc := hP.sub (ws' := [(q, .inr (4, [.ref ca, .long sm, .int (oI lo)])), (ca, .inl (cJ, 64, .inr (.inl f)))]) [0, 1] rfl
  have hKc := hK.sub (tys' := [(cJ, .long)]) [0] rfl
  refine vp_callSl (W.runV (As := [.int (nI (k / 64))]) (rest := [.int (nI (k % 64))]) ⟨hx, hb, hml, hown, hts⟩ (c_X4_cluster l dC dI q ca cJ f sm lo (k / 64) (by omega)) (cwV 1 hts gX4_goesOnInCluster_X4_cluster rfl rfl rfl (by decide +kernel) ⟨Nat.le_of_ble_eq_true rfl, Nat.le_of_ble_eq_true rfl⟩) ⟨fun a U g mk q => by obtain ⟨q0, qP, qK⟩ := q; exact ⟨q0, qP, va_K.moved (u := U) (U := U.calling g mk a) (Vm.Alike.refl U.vm) qK⟩, va_recv hKc hPc (ci := 4) (q0 := 0) rfl rfl, fun U hU hW => ⟨rfl, by rw [hU]; exact hPc, va_K.moved hW.alike hKc⟩⟩ rfl rfl hl.1 rfl (lv_room (Nat.le_of_ble_eq_true rfl)) dX4_goesOnInCluster_9 ⟨Nat.le_of_ble_eq_true rfl, Nat.le_of_ble_eq_true rfl⟩) (fun r_2 hw_1 => ?_)
  subst hw_1
  have hPc := hP.sub (ws' := []) [] rfl
  have hKc := hK.sub (tys' := []) [] rfl
  refine vp_callSi (W.runS (As := [.long (f (k / 64))]) (rest := [.int (nI (k % 64))]) ⟨hx, hb, hml, hown, hts⟩ (c_X6_greatest l dC dI (f (k / 64)) ) (va_cwS 1 hts gX4_goesOnInCluster_X6_greatest rfl rfl rfl (by decide +kernel) ⟨Nat.le_of_ble_eq_true rfl, Nat.le_of_ble_eq_true rfl⟩) ⟨fun a U g mk q => by obtain ⟨q0, qP, qK⟩ := q; exact ⟨q0, qP, va_K.moved (u := U) (U := U.calling g mk a) (Vm.Alike.refl U.vm) qK⟩, fun U hU hW => ⟨rfl, by rw [hU]; exact hPc, va_K.moved hW.alike hKc⟩⟩ rfl rfl hl.1 rfl (lv_room (Nat.le_of_ble_eq_true rfl)) dX4_goesOnInCluster_12 ⟨Nat.le_of_ble_eq_true rfl, Nat.le_of_ble_eq_true rfl⟩) (fun r_4 hw_3 => ?_)
  subst hw_3
  rcases hz : lst1 (gb (f (k / 64))) 64 with _ | z
  · refine lv_cvi ((rfl : oI none = -1)) ?_
    refine lv_icmp_ge (tgt := 22) hx hb dX4_goesOnInCluster_15 (by decide) (fun qc_5 => ?_) (fun qc_5 => ?_)
    · refine lv_iconst (v := nI 0) hx hb dX4_goesOnInCluster_22 (by decide +kernel) ?_
      exact W.zret (v := nI 0) hx hb hr (by first | exact narrow_b1 | exact narrow_b0) (fun t9 ht hW => ⟨nI 0, rfl, by rw [goes_n hz _ (by omega)]; rfl, ht⟩) (fun q h => by cases h) dX4_goesOnInCluster_23
    · exact absurd (m1_le (by omega)) qc_5
  · refine lv_cvi ((rfl : oI (some z) = nI z)) ?_
    have hzb := (lst1_some hz).1
    refine lv_icmp_ge (tgt := 22) hx hb dX4_goesOnInCluster_15 (by decide) (fun qc_6 => ?_) (fun qc_6 => ?_)
    · have c_6 : z ≤ (k % 64) := (nI_leI (a := z) (b := k % 64) (by omega) (by omega)).mp qc_6
      refine lv_iconst (v := nI 0) hx hb dX4_goesOnInCluster_22 (by decide +kernel) ?_
      exact W.zret (v := nI 0) hx hb hr (by first | exact narrow_b1 | exact narrow_b0) (fun t9 ht hW => ⟨nI 0, rfl, by rw [goes_s hz _ (by omega), decide_eq_false (by omega)]; rfl, ht⟩) (fun q h => by cases h) dX4_goesOnInCluster_23
    · have c_6 : ¬ z ≤ (k % 64) := fun h9 => qc_6 ((nI_leI (a := z) (b := k % 64) (by omega) (by omega)).mpr h9)
      refine lv_iconst (v := nI 1) hx hb dX4_goesOnInCluster_18 (by decide +kernel) ?_
      refine lv_goto (tgt := 23) hx hb dX4_goesOnInCluster_19 (by decide) ?_
      exact W.zret (v := nI 1) hx hb hr (by first | exact narrow_b1 | exact narrow_b0) (fun t9 ht hW => ⟨nI 1, rfl, by rw [goes_s hz _ (by omega), decide_eq_true (by omega)]; rfl, ht⟩) (fun q h => by cases h) dX4_goesOnInCluster_23
set_option maxHeartbeats 4000000 in
set_option maxRecDepth 100000 in
/-- Tree.after -/
theorem c_X4_after (l : Launch) (dC : Nat → ClassId) (dI : Nat → Nat → Nat) (q : Nat) (ca : Nat) (cJ : ClassId) (f : Nat → Int64) (sm : Int64) (lo : Option Nat) (M : Nat → Bool) (k : Nat) (hT : TR M f sm lo) (hk : k < 4096) : Met l yX4_after wsX4_after ({ frames := 4, cells := 0, slots := 0, locals := 85 }) (va_Pc [.ref q, .int (nI k)] (fun U => va_P (dC, dI) vwCl [(q, .inr (4, [.ref ca, .long sm, .int (oI lo)])), (ca, .inl (cJ, 64, .inr (.inl f)))] U.heap ∧ va_K (dC, dI) vwCl [(cJ, .long)] U)) (vp_Si (fun r => r = oI (nxt1 M k 4096))) 0 0 (fun _ => False) := by
  refine Met.ofW (cc := cX4_after) (maxL := 3) (ret := (some .int)) (by decide) rfl ?_
  intro p e s m args below meth c s₁ B hml hv
  obtain ⟨rfl, hP, hK⟩ := hv
  have hx := B.exec
  have hb := B.bytes
  have hr := B.returns
  have hts := atoms_spec (ws := wsX4_after) B.pre
  have hown : s.vm.findClass RX4 = some m.cls := findClass_of_methodNamed B.named
  have hlocks := B.notSynchronized
  have hP : va_P (dC, dI) vwCl [(q, .inr (4, [.ref ca, .long sm, .int (oI lo)])), (ca, .inl (cJ, 64, .inr (.inl f)))] s.heap := hP
  have hl := lv_entry ([.ref q, .int (nI k)]) (n := 3) (Nat.le_of_ble_eq_true rfl)
  rw [lg_entry_eq]
  generalize (lg_sl ([.ref q, .int (nI k)]) ++ List.replicate (3 - (lg_sl ([.ref q, .int (nI k)])).length) Slot.unset).toArray = ls at hl ⊢
  have hl : lv_has ls 3 [(0, .ref q), (1, .int (nI k))] := hl
  refine lv_iload_n hx hb dX4_after_0 rfl (lv_at hl 1 rfl) ?_
  refine lv_aload_n hx hb dX4_after_1 rfl (lv_at hl 0 rfl) ?_
  have hPc := hP.sub (ws' := [(q, .inr (4, [.ref ca, .long sm, .int (oI lo)])), (ca, .inl (cJ, 64, .inr (.inl f)))]) [0, 1] rfl
  have hKc := hK.sub (tys' := [(cJ, .long)]) [0] rfl
  refine vp_callSi (W.runV (As := []) (rest := [.int (nI k)]) ⟨hx, hb, hml, hown, hts⟩ (c_X4_greatest l dC dI q ca cJ f sm lo M hT) (cwV 0 hts gX4_after_X4_greatest rfl rfl rfl (by decide +kernel) ⟨Nat.le_of_ble_eq_true rfl, Nat.le_of_ble_eq_true rfl⟩) ⟨fun a U g mk q => by obtain ⟨q0, qP, qK⟩ := q; exact ⟨q0, qP, va_K.moved (u := U) (U := U.calling g mk a) (Vm.Alike.refl U.vm) qK⟩, va_recv hKc hPc (ci := 4) (q0 := 0) rfl rfl, fun U hU hW => ⟨rfl, by rw [hU]; exact hPc, va_K.moved hW.alike hKc⟩⟩ rfl rfl hl.1 rfl (lv_room (Nat.le_of_ble_eq_true rfl)) dX4_after_2 ⟨Nat.le_of_ble_eq_true rfl, Nat.le_of_ble_eq_true rfl⟩) (fun r_2 hw_1 => ?_)
  subst hw_1
  rcases hg : lst1 M 4096 with _ | g
  · refine lv_cvi ((rfl : oI none = -1)) ?_
    refine lv_icmp_lt (tgt := 10) hx hb dX4_after_5 (by decide) (fun qc_3 => ?_) (fun qc_3 => ?_)
    · exact absurd qc_3 (nlt_m1 (by omega))
    · refine lv_iconst (v := -1) hx hb dX4_after_8 (by decide +kernel) ?_
      exact W.iret (v := -1) hx hb hr (fun t9 ht hW => ⟨-1, rfl, nx_0 hg, ht⟩) (fun q h => by cases h) dX4_after_9
  · refine lv_cvi ((rfl : oI (some g) = nI g)) ?_
    have hgb := lst1_some hg
    refine lv_icmp_lt (tgt := 10) hx hb dX4_after_5 (by decide) (fun qc_4 => ?_) (fun qc_4 => ?_)
    · have c_4 : k < g := (nI_ltI (a := k) (b := g) (by omega) (by omega)).mp qc_4
      obtain ⟨z, hz, hz1, hz2, hz4, hz3⟩ := tr_lo hT hgb.1 hgb.2.1
      refine lv_iload_n hx hb dX4_after_10 rfl (lv_at hl 1 rfl) ?_
      refine lv_aload_n hx hb dX4_after_11 rfl (lv_at hl 0 rfl) ?_
      refine va_get (D := (dC, dI)) (ci := 4) (v := .int (oI lo)) (C := RX4) (T := TX4) (N := 3) hx hb hts (by decide +kernel) hown hK hP 0 rfl rfl 2 (by decide) (hts (.fieldLink RX4 19 "SmallNumberSets$Tree" "least" "I") (by decide +kernel)) (fun _ h9 => h9) rfl dX4_after_12 ?_
      refine lv_cvi (congrArg oI hz) ?_
      refine lv_cvi ((rfl : oI (some z) = nI z)) ?_
      refine lv_icmp_ge (tgt := 23) hx hb dX4_after_15 (by decide) (fun qc_5 => ?_) (fun qc_5 => ?_)
      · have c_5 : z ≤ k := (nI_leI (a := z) (b := k) (by omega) (by omega)).mp qc_5
        refine lv_iload_n hx hb dX4_after_23 rfl (lv_at hl 1 rfl) ?_
        refine lv_bipush (v := nI 64) hx hb dX4_after_24 (by decide +kernel) ?_
        refine lv_idiv hx hb dX4_after_26 (by decide +kernel) ?_
        refine lv_cvi (pk_div (by omega) (by decide) (by decide)) ?_
        refine lv_istore_n (lv' := [(2, .int (nI (k / 64))), (0, .ref q), (1, .int (nI k))]) hx hb dX4_after_27 rfl hl (by decide) rfl (fun ls hl => ?_)
        refine lv_aload_n hx hb dX4_after_28 rfl (lv_at hl 1 rfl) ?_
        refine lv_iload_n hx hb dX4_after_29 rfl (lv_at hl 2 rfl) ?_
        have hPc := hP.sub (ws' := [(q, .inr (4, [.ref ca, .long sm, .int (oI lo)])), (ca, .inl (cJ, 64, .inr (.inl f)))]) [0, 1] rfl
        have hKc := hK.sub (tys' := [(cJ, .long)]) [0] rfl
        refine vp_callSi (W.runV (As := [.int (nI k)]) (rest := []) ⟨hx, hb, hml, hown, hts⟩ (c_X4_goesOnInCluster l dC dI q ca cJ f sm lo k (by omega)) (cwV 1 hts gX4_after_X4_goesOnInCluster rfl rfl rfl (by decide +kernel) ⟨Nat.le_of_ble_eq_true rfl, Nat.le_of_ble_eq_true rfl⟩) ⟨fun a U g mk q => by obtain ⟨q0, qP, qK⟩ := q; exact ⟨q0, qP, va_K.moved (u := U) (U := U.calling g mk a) (Vm.Alike.refl U.vm) qK⟩, va_recv hKc hPc (ci := 4) (q0 := 0) rfl rfl, fun U hU hW => ⟨rfl, by rw [hU]; exact hPc, va_K.moved hW.alike hKc⟩⟩ rfl rfl hl.1 rfl (lv_room (Nat.le_of_ble_eq_true rfl)) dX4_after_30 ⟨Nat.le_of_ble_eq_true rfl, Nat.le_of_ble_eq_true rfl⟩) (fun r_7 hw_6 => ?_)
        subst hw_6
        refine lv_if_eq (tgt := 54) hx hb dX4_after_33 (by decide) (fun qc_8 => ?_) (fun qc_8 => ?_)
        · have c_8 : (goes (f (k / 64)) (k % 64)) = false := b2i_f qc_8
          refine lv_aload_n hx hb dX4_after_54 rfl (lv_at hl 1 rfl) ?_
          refine lv_aload_n hx hb dX4_after_55 rfl (lv_at hl 1 rfl) ?_
          refine va_get (D := (dC, dI)) (ci := 4) (v := .long sm) (C := RX4) (T := TX4) (N := 3) hx hb hts (by decide +kernel) hown hK hP 0 rfl rfl 1 (by decide) (hts (.fieldLink RX4 15 "SmallNumberSets$Tree" "summary" "J") (by decide +kernel)) (fun _ h9 => h9) rfl dX4_after_56 ?_
          refine lv_iload_n hx hb dX4_after_59 rfl (lv_at hl 0 rfl) ?_
          have hPc := hP.sub (ws' := []) [] rfl
          have hKc := hK.sub (tys' := []) [] rfl
          refine vp_callSi (W.runS (As := [.long sm, .int (nI (k / 64))]) (rest := [.ref q]) ⟨hx, hb, hml, hown, hts⟩ (c_X6_after l dC dI sm (k / 64) (by omega)) (va_cwS 2 hts gX4_after_X6_after rfl rfl rfl (by decide +kernel) ⟨Nat.le_of_ble_eq_true rfl, Nat.le_of_ble_eq_true rfl⟩) ⟨fun a U g mk q => by obtain ⟨q0, qP, qK⟩ := q; exact ⟨q0, qP, va_K.moved (u := U) (U := U.calling g mk a) (Vm.Alike.refl U.vm) qK⟩, fun U hU hW => ⟨rfl, by rw [hU]; exact hPc, va_K.moved hW.alike hKc⟩⟩ rfl rfl hl.1 rfl (lv_room (Nat.le_of_ble_eq_true rfl)) dX4_after_60 ⟨Nat.le_of_ble_eq_true rfl, Nat.le_of_ble_eq_true rfl⟩) (fun r_10 hw_9 => ?_)
          subst hw_9
          obtain ⟨h, y, hh1, hh2, hh3, hh4, ha9⟩ := tr_a2 hT hk hz (by omega) hg (by omega) c_8
          refine lv_cvi (congrArg oI hh1) ?_
          refine lv_cvi ((rfl : oI (some h) = nI h)) ?_
          have hPc := hP.sub (ws' := [(q, .inr (4, [.ref ca, .long sm, .int (oI lo)])), (ca, .inl (cJ, 64, .inr (.inl f)))]) [0, 1] rfl
          have hKc := hK.sub (tys' := [(cJ, .long)]) [0] rfl
          refine vp_callSi (W.runV (As := [.int (nI h)]) (rest := []) ⟨hx, hb, hml, hown, hts⟩ (c_X4_leastOf l dC dI q ca cJ f sm lo h y (by omega) hh4) (cwV 1 hts gX4_after_X4_leastOf rfl rfl rfl (by decide +kernel) ⟨Nat.le_of_ble_eq_true rfl, Nat.le_of_ble_eq_true rfl⟩) ⟨fun a U g mk q => by obtain ⟨q0, qP, qK⟩ := q; exact ⟨q0, qP, va_K.moved (u := U) (U := U.calling g mk a) (Vm.Alike.refl U.vm) qK⟩, va_recv hKc hPc (ci := 4) (q0 := 0) rfl rfl, fun U hU hW => ⟨rfl, by rw [hU]; exact hPc, va_K.moved hW.alike hKc⟩⟩ rfl rfl hl.1 rfl (lv_room (Nat.le_of_ble_eq_true rfl)) dX4_after_63 ⟨Nat.le_of_ble_eq_true rfl, Nat.le_of_ble_eq_true rfl⟩) (fun r_12 hw_11 => ?_)
          subst hw_11
          exact W.iret (v := nI (h * 64 + y)) hx hb hr (fun t9 ht hW => ⟨nI (h * 64 + y), rfl, by rw [ha9]; rfl, ht⟩) (fun q h => by cases h) dX4_after_66
        · have c_8 : (goes (f (k / 64)) (k % 64)) = true := b2i_t qc_8
          refine lv_iload_n hx hb dX4_after_36 rfl (lv_at hl 0 rfl) ?_
          refine lv_bipush (v := nI 64) hx hb dX4_after_37 (by decide +kernel) ?_
          refine lv_imul hx hb dX4_after_39 ?_
          refine lv_cvi (pk_mul _ _) ?_
          refine lv_aload_n hx hb dX4_after_40 rfl (lv_at hl 1 rfl) ?_
          refine lv_iload_n hx hb dX4_after_41 rfl (lv_at hl 0 rfl) ?_
          have hPc := hP.sub (ws' := [(q, .inr (4, [.ref ca, .long sm, .int (oI lo)])), (ca, .inl (cJ, 64, .inr (.inl f)))]) [0, 1] rfl
          have hKc := hK.sub (tys' := [(cJ, .long)]) [0] rfl
          refine vp_callSl (W.runV (As := [.int (nI (k / 64))]) (rest := [.int (nI ((k / 64) * 64))]) ⟨hx, hb, hml, hown, hts⟩ (c_X4_cluster l dC dI q ca cJ f sm lo (k / 64) (by omega)) (cwV 1 hts gX4_after_X4_cluster rfl rfl rfl (by decide +kernel) ⟨Nat.le_of_ble_eq_true rfl, Nat.le_of_ble_eq_true rfl⟩) ⟨fun a U g mk q => by obtain ⟨q0, qP, qK⟩ := q; exact ⟨q0, qP, va_K.moved (u := U) (U := U.calling g mk a) (Vm.Alike.refl U.vm) qK⟩, va_recv hKc hPc (ci := 4) (q0 := 0) rfl rfl, fun U hU hW => ⟨rfl, by rw [hU]; exact hPc, va_K.moved hW.alike hKc⟩⟩ rfl rfl hl.1 rfl (lv_room (Nat.le_of_ble_eq_true rfl)) dX4_after_42 ⟨Nat.le_of_ble_eq_true rfl, Nat.le_of_ble_eq_true rfl⟩) (fun r_14 hw_13 => ?_)
          subst hw_13
          refine lv_iload_n hx hb dX4_after_45 rfl (lv_at hl 2 rfl) ?_
          refine lv_bipush (v := nI 64) hx hb dX4_after_46 (by decide +kernel) ?_
          refine lv_irem hx hb dX4_after_48 (by decide +kernel) ?_
          refine lv_cvi (pk_rem (by omega) (by decide) (by decide)) ?_
          have hPc := hP.sub (ws' := []) [] rfl
          have hKc := hK.sub (tys' := []) [] rfl
          refine vp_callSi (W.runS (As := [.long (f (k / 64)), .int (nI (k % 64))]) (rest := [.int (nI ((k / 64) * 64))]) ⟨hx, hb, hml, hown, hts⟩ (c_X6_after l dC dI (f (k / 64)) (k % 64) (by omega)) (va_cwS 2 hts gX4_after_X6_after rfl rfl rfl (by decide +kernel) ⟨Nat.le_of_ble_eq_true rfl, Nat.le_of_ble_eq_true rfl⟩) ⟨fun a U g mk q => by obtain ⟨q0, qP, qK⟩ := q; exact ⟨q0, qP, va_K.moved (u := U) (U := U.calling g mk a) (Vm.Alike.refl U.vm) qK⟩, fun U hU hW => ⟨rfl, by rw [hU]; exact hPc, va_K.moved hW.alike hKc⟩⟩ rfl rfl hl.1 rfl (lv_room (Nat.le_of_ble_eq_true rfl)) dX4_after_49 ⟨Nat.le_of_ble_eq_true rfl, Nat.le_of_ble_eq_true rfl⟩) (fun r_16 hw_15 => ?_)
          subst hw_15
          obtain ⟨y, hy1, hy2, ha9⟩ := tr_a1 hT hk hz (by omega) c_8
          refine lv_cvi (congrArg oI hy2) ?_
          refine lv_cvi ((rfl : oI (some y) = nI y)) ?_
          refine lv_iadd hx hb dX4_after_52 ?_
          refine lv_cvi (nI_add _ _) ?_
          exact W.iret (v := nI (((k / 64) * 64) + y)) hx hb hr (fun t9 ht hW => ⟨nI (((k / 64) * 64) + y), rfl, by rw [ha9]; rfl, ht⟩) (fun q h => by cases h) dX4_after_53
      · have c_5 : ¬ z ≤ k := fun h9 => qc_5 ((nI_leI (a := z) (b := k) (by omega) (by omega)).mpr h9)
        refine lv_aload_n hx hb dX4_after_18 rfl (lv_at hl 0 rfl) ?_
        refine va_get (D := (dC, dI)) (ci := 4) (v := .int (oI lo)) (C := RX4) (T := TX4) (N := 3) hx hb hts (by decide +kernel) hown hK hP 0 rfl rfl 2 (by decide) (hts (.fieldLink RX4 19 "SmallNumberSets$Tree" "least" "I") (by decide +kernel)) (fun _ h9 => h9) rfl dX4_after_19 ?_
        refine lv_cvi (congrArg oI hz) ?_
        refine lv_cvi ((rfl : oI (some z) = nI z)) ?_
        exact W.iret (v := nI z) hx hb hr (fun t9 ht hW => ⟨nI z, rfl, nx_lt hz1 hz2 hz3 (by omega), ht⟩) (fun q h => by cases h) dX4_after_22
    · have c_4 : ¬ k < g := fun h9 => qc_4 ((nI_ltI (a := k) (b := g) (by omega) (by omega)).mpr h9)
      refine lv_iconst (v := -1) hx hb dX4_after_8 (by decide +kernel) ?_
      exact W.iret (v := -1) hx hb hr (fun t9 ht hW => ⟨-1, rfl, nx_ge hg (by omega), ht⟩) (fun q h => by cases h) dX4_after_9
set_option maxHeartbeats 4000000 in
set_option maxRecDepth 100000 in
/-- Tree.before -/
theorem c_X4_before (l : Launch) (dC : Nat → ClassId) (dI : Nat → Nat → Nat) (q : Nat) (ca : Nat) (cJ : ClassId) (f : Nat → Int64) (sm : Int64) (lo : Option Nat) (M : Nat → Bool) (k : Nat) (hT : TR M f sm lo) (hk : k < 4096) : Met l yX4_before wsX4_before ({ frames := 3, cells := 0, slots := 0, locals := 89 }) (va_Pc [.ref q, .int (nI k)] (fun U => va_P (dC, dI) vwCl [(q, .inr (4, [.ref ca, .long sm, .int (oI lo)])), (ca, .inl (cJ, 64, .inr (.inl f)))] U.heap ∧ va_K (dC, dI) vwCl [(cJ, .long)] U)) (vp_Si (fun r => r = oI (lst1 M k))) 0 0 (fun _ => False) := by
  refine Met.ofW (cc := cX4_before) (maxL := 5) (ret := (some .int)) (by decide) rfl ?_
  intro p e s m args below meth c s₁ B hml hv
  obtain ⟨rfl, hP, hK⟩ := hv
  have hx := B.exec
  have hb := B.bytes
  have hr := B.returns
  have hts := atoms_spec (ws := wsX4_before) B.pre
  have hown : s.vm.findClass RX4 = some m.cls := findClass_of_methodNamed B.named
  have hlocks := B.notSynchronized
  have hP : va_P (dC, dI) vwCl [(q, .inr (4, [.ref ca, .long sm, .int (oI lo)])), (ca, .inl (cJ, 64, .inr (.inl f)))] s.heap := hP
  have hl := lv_entry ([.ref q, .int (nI k)]) (n := 5) (Nat.le_of_ble_eq_true rfl)
  rw [lg_entry_eq]
  generalize (lg_sl ([.ref q, .int (nI k)]) ++ List.replicate (5 - (lg_sl ([.ref q, .int (nI k)])).length) Slot.unset).toArray = ls at hl ⊢
  have hl : lv_has ls 5 [(0, .ref q), (1, .int (nI k))] := hl
  refine lv_aload_n hx hb dX4_before_0 rfl (lv_at hl 0 rfl) ?_
  refine va_get (D := (dC, dI)) (ci := 4) (v := .int (oI lo)) (C := RX4) (T := TX4) (N := 3) hx hb hts (by decide +kernel) hown hK hP 0 rfl rfl 2 (by decide) (hts (.fieldLink RX4 19 "SmallNumberSets$Tree" "least" "I") (by decide +kernel)) (fun _ h9 => h9) rfl dX4_before_1 ?_
  rcases hz : lo with _ | z
  · refine lv_cvi ((rfl : oI none = -1)) ?_
    refine lv_iconst (v := -1) hx hb dX4_before_4 (by decide +kernel) ?_
    refine lv_icmp_eq (tgt := 16) hx hb dX4_before_5 (by decide) (fun qc_1 => ?_) (fun qc_1 => ?_)
    · refine lv_iconst (v := -1) hx hb dX4_before_16 (by decide +kernel) ?_
      exact W.iret (v := -1) hx hb hr (fun t9 ht hW => ⟨-1, rfl, pr_0 hk (tr_none hT hz), ht⟩) (fun q h => by cases h) dX4_before_17
    · exact absurd (by decide) qc_1
  · obtain ⟨hz1, hz2, hz3⟩ := tr_some hT hz
    refine lv_cvi ((rfl : oI (some z) = nI z)) ?_
    refine lv_iconst (v := -1) hx hb dX4_before_4 (by decide +kernel) ?_
    refine lv_icmp_eq (tgt := 16) hx hb dX4_before_5 (by decide) (fun qc_2 => ?_) (fun qc_2 => ?_)
    · exact absurd qc_2 (nI_nem1 (by omega))
    · refine lv_iload_n hx hb dX4_before_8 rfl (lv_at hl 1 rfl) ?_
      refine lv_aload_n hx hb dX4_before_9 rfl (lv_at hl 0 rfl) ?_
      refine va_get (D := (dC, dI)) (ci := 4) (v := .int (oI lo)) (C := RX4) (T := TX4) (N := 3) hx hb hts (by decide +kernel) hown hK hP 0 rfl rfl 2 (by decide) (hts (.fieldLink RX4 19 "SmallNumberSets$Tree" "least" "I") (by decide +kernel)) (fun _ h9 => h9) rfl dX4_before_10 ?_
      refine lv_cvi (congrArg oI hz) ?_
      refine lv_icmp_gt (tgt := 18) hx hb dX4_before_13 (by decide) (fun qc_3 => ?_) (fun qc_3 => ?_)
      · have c_3 : z < k := (nI_ltI (a := z) (b := k) (by omega) (by omega)).mp qc_3
        refine lv_iload_n hx hb dX4_before_18 rfl (lv_at hl 1 rfl) ?_
        refine lv_bipush (v := nI 64) hx hb dX4_before_19 (by decide +kernel) ?_
        refine lv_idiv hx hb dX4_before_21 (by decide +kernel) ?_
        refine lv_cvi (pk_div (by omega) (by decide) (by decide)) ?_
        refine lv_istore_n (lv' := [(2, .int (nI (k / 64))), (0, .ref q), (1, .int (nI k))]) hx hb dX4_before_22 rfl hl (by decide) rfl (fun ls hl => ?_)
        refine lv_aload_n hx hb dX4_before_23 rfl (lv_at hl 1 rfl) ?_
        refine lv_iload_n hx hb dX4_before_24 rfl (lv_at hl 0 rfl) ?_
        have hPc := hP.sub (ws' := [(q, .inr (4, [.ref ca, .long sm, .int (oI lo)])), (ca, .inl (cJ, 64, .inr (.inl f)))]) [0, 1] rfl
        have hKc := hK.sub (tys' := [(cJ, .long)]) [0] rfl
        refine vp_callSl (W.runV (As := [.int (nI (k / 64))]) (rest := []) ⟨hx, hb, hml, hown, hts⟩ (c_X4_cluster l dC dI q ca cJ f sm lo (k / 64) (by omega)) (cwV 1 hts gX4_before_X4_cluster rfl rfl rfl (by decide +kernel) ⟨Nat.le_of_ble_eq_true rfl, Nat.le_of_ble_eq_true rfl⟩) ⟨fun a U g mk q => by obtain ⟨q0, qP, qK⟩ := q; exact ⟨q0, qP, va_K.moved (u := U) (U := U.calling g mk a) (Vm.Alike.refl U.vm) qK⟩, va_recv hKc hPc (ci := 4) (q0 := 0) rfl rfl, fun U hU hW => ⟨rfl, by rw [hU]; exact hPc, va_K.moved hW.alike hKc⟩⟩ rfl rfl hl.1 rfl (lv_room (Nat.le_of_ble_eq_true rfl)) dX4_before_25 ⟨Nat.le_of_ble_eq_true rfl, Nat.le_of_ble_eq_true rfl⟩) (fun r_5 hw_4 => ?_)
        subst hw_4
        refine lv_iload_n hx hb dX4_before_28 rfl (lv_at hl 2 rfl) ?_
        refine lv_bipush (v := nI 64) hx hb dX4_before_29 (by decide +kernel) ?_
        refine lv_irem hx hb dX4_before_31 (by decide +kernel) ?_
        refine lv_cvi (pk_rem (by omega) (by decide) (by decide)) ?_
        have hPc := hP.sub (ws' := []) [] rfl
        have hKc := hK.sub (tys' := []) [] rfl
        refine vp_callSi (W.runS (As := [.long (f (k / 64)), .int (nI (k % 64))]) (rest := []) ⟨hx, hb, hml, hown, hts⟩ (c_X6_before l dC dI (f (k / 64)) (k % 64) (by omega)) (va_cwS 2 hts gX4_before_X6_before rfl rfl rfl (by decide +kernel) ⟨Nat.le_of_ble_eq_true rfl, Nat.le_of_ble_eq_true rfl⟩) ⟨fun a U g mk q => by obtain ⟨q0, qP, qK⟩ := q; exact ⟨q0, qP, va_K.moved (u := U) (U := U.calling g mk a) (Vm.Alike.refl U.vm) qK⟩, fun U hU hW => ⟨rfl, by rw [hU]; exact hPc, va_K.moved hW.alike hKc⟩⟩ rfl rfl hl.1 rfl (lv_room (Nat.le_of_ble_eq_true rfl)) dX4_before_32 ⟨Nat.le_of_ble_eq_true rfl, Nat.le_of_ble_eq_true rfl⟩) (fun r_7 hw_6 => ?_)
        subst hw_6
        rcases hy : lst1 (gb (f (k / 64))) (k % 64) with _ | y
        · refine lv_cvi ((rfl : oI none = -1)) ?_
          refine lv_istore_n (lv' := [(3, .int (-1)), (2, .int (nI (k / 64))), (0, .ref q), (1, .int (nI k))]) hx hb dX4_before_35 rfl hl (by decide) rfl (fun ls hl => ?_)
          refine lv_iload_n hx hb dX4_before_36 rfl (lv_at hl 0 rfl) ?_
          refine lv_iconst (v := -1) hx hb dX4_before_37 (by decide +kernel) ?_
          refine lv_icmp_eq (tgt := 48) hx hb dX4_before_38 (by decide) (fun qc_8 => ?_) (fun qc_8 => ?_)
          · refine lv_aload_n hx hb dX4_before_48 rfl (lv_at hl 2 rfl) ?_
            refine va_get (D := (dC, dI)) (ci := 4) (v := .long sm) (C := RX4) (T := TX4) (N := 3) hx hb hts (by decide +kernel) hown hK hP 0 rfl rfl 1 (by decide) (hts (.fieldLink RX4 15 "SmallNumberSets$Tree" "summary" "J") (by decide +kernel)) (fun _ h9 => h9) rfl dX4_before_49 ?_
            refine lv_iload_n hx hb dX4_before_52 rfl (lv_at hl 1 rfl) ?_
            have hPc := hP.sub (ws' := []) [] rfl
            have hKc := hK.sub (tys' := []) [] rfl
            refine vp_callSi (W.runS (As := [.long sm, .int (nI (k / 64))]) (rest := []) ⟨hx, hb, hml, hown, hts⟩ (c_X6_before l dC dI sm (k / 64) (by omega)) (va_cwS 2 hts gX4_before_X6_before rfl rfl rfl (by decide +kernel) ⟨Nat.le_of_ble_eq_true rfl, Nat.le_of_ble_eq_true rfl⟩) ⟨fun a U g mk q => by obtain ⟨q0, qP, qK⟩ := q; exact ⟨q0, qP, va_K.moved (u := U) (U := U.calling g mk a) (Vm.Alike.refl U.vm) qK⟩, fun U hU hW => ⟨rfl, by rw [hU]; exact hPc, va_K.moved hW.alike hKc⟩⟩ rfl rfl hl.1 rfl (lv_room (Nat.le_of_ble_eq_true rfl)) dX4_before_53 ⟨Nat.le_of_ble_eq_true rfl, Nat.le_of_ble_eq_true rfl⟩) (fun r_10 hw_9 => ?_)
            subst hw_9
            rcases hh : lst1 (gb sm) (k / 64) with _ | h
            · refine lv_cvi ((rfl : oI none = -1)) ?_
              refine lv_istore (lv' := [(4, .int (-1)), (3, .int (-1)), (2, .int (nI (k / 64))), (0, .ref q), (1, .int (nI k))]) hx hb dX4_before_56 hl (by decide) rfl (fun ls hl => ?_)
              refine lv_iload hx hb dX4_before_58 (lv_at hl 0 rfl) ?_
              refine lv_iconst (v := -1) hx hb dX4_before_60 (by decide +kernel) ?_
              refine lv_icmp_ne (tgt := 71) hx hb dX4_before_61 (by decide) (fun qc_11 => ?_) (fun qc_11 => ?_)
              · exact absurd qc_11 (by decide)
              · refine lv_aload_n hx hb dX4_before_64 rfl (lv_at hl 3 rfl) ?_
                refine va_get (D := (dC, dI)) (ci := 4) (v := .int (oI lo)) (C := RX4) (T := TX4) (N := 3) hx hb hts (by decide +kernel) hown hK hP 0 rfl rfl 2 (by decide) (hts (.fieldLink RX4 19 "SmallNumberSets$Tree" "least" "I") (by decide +kernel)) (fun _ h9 => h9) rfl dX4_before_65 ?_
                refine lv_cvi (congrArg oI hz) ?_
                refine lv_goto (tgt := 77) hx hb dX4_before_68 (by decide) ?_
                exact W.iret (v := nI z) hx hb hr (fun t9 ht hW => ⟨nI z, rfl, by rw [tr_b2 hT hk hz (by omega) hy hh]; rfl, ht⟩) (fun q h => by cases h) dX4_before_77
            · refine lv_cvi ((rfl : oI (some h) = nI h)) ?_
              have hhb := (lst1_some hh).1
              refine lv_istore (lv' := [(4, .int (nI h)), (3, .int (-1)), (2, .int (nI (k / 64))), (0, .ref q), (1, .int (nI k))]) hx hb dX4_before_56 hl (by decide) rfl (fun ls hl => ?_)
              refine lv_iload hx hb dX4_before_58 (lv_at hl 0 rfl) ?_
              refine lv_iconst (v := -1) hx hb dX4_before_60 (by decide +kernel) ?_
              refine lv_icmp_ne (tgt := 71) hx hb dX4_before_61 (by decide) (fun qc_12 => ?_) (fun qc_12 => ?_)
              · refine lv_aload_n hx hb dX4_before_71 rfl (lv_at hl 3 rfl) ?_
                refine lv_iload hx hb dX4_before_72 (lv_at hl 0 rfl) ?_
                obtain ⟨hh0, y, hy0, hy1, hb9⟩ := tr_b3 hT hk hz hy hh
                have hPc := hP.sub (ws' := [(q, .inr (4, [.ref ca, .long sm, .int (oI lo)])), (ca, .inl (cJ, 64, .inr (.inl f)))]) [0, 1] rfl
                have hKc := hK.sub (tys' := [(cJ, .long)]) [0] rfl
                refine vp_callSi (W.runV (As := [.int (nI h)]) (rest := []) ⟨hx, hb, hml, hown, hts⟩ (c_X4_greatestOf l dC dI q ca cJ f sm lo h y (by omega) hy1) (cwV 1 hts gX4_before_X4_greatestOf rfl rfl rfl (by decide +kernel) ⟨Nat.le_of_ble_eq_true rfl, Nat.le_of_ble_eq_true rfl⟩) ⟨fun a U g mk q => by obtain ⟨q0, qP, qK⟩ := q; exact ⟨q0, qP, va_K.moved (u := U) (U := U.calling g mk a) (Vm.Alike.refl U.vm) qK⟩, va_recv hKc hPc (ci := 4) (q0 := 0) rfl rfl, fun U hU hW => ⟨rfl, by rw [hU]; exact hPc, va_K.moved hW.alike hKc⟩⟩ rfl rfl hl.1 rfl (lv_room (Nat.le_of_ble_eq_true rfl)) dX4_before_74 ⟨Nat.le_of_ble_eq_true rfl, Nat.le_of_ble_eq_true rfl⟩) (fun r_14 hw_13 => ?_)
                subst hw_13
                exact W.iret (v := nI (h * 64 + y)) hx hb hr (fun t9 ht hW => ⟨nI (h * 64 + y), rfl, by rw [hb9]; rfl, ht⟩) (fun q h => by cases h) dX4_before_77
              · exact absurd qc_12 (nI_nem1 (by omega))
          · exact absurd (by decide) qc_8
        · refine lv_cvi ((rfl : oI (some y) = nI y)) ?_
          have hyb := (lst1_some hy).1
          refine lv_istore_n (lv' := [(3, .int (nI y)), (2, .int (nI (k / 64))), (0, .ref q), (1, .int (nI k))]) hx hb dX4_before_35 rfl hl (by decide) rfl (fun ls hl => ?_)
          refine lv_iload_n hx hb dX4_before_36 rfl (lv_at hl 0 rfl) ?_
          refine lv_iconst (v := -1) hx hb dX4_before_37 (by decide +kernel) ?_
          refine lv_icmp_eq (tgt := 48) hx hb dX4_before_38 (by decide) (fun qc_15 => ?_) (fun qc_15 => ?_)
          · exact absurd qc_15 (nI_nem1 (by omega))
          · refine lv_iload_n hx hb dX4_before_41 rfl (lv_at hl 1 rfl) ?_
            refine lv_bipush (v := nI 64) hx hb dX4_before_42 (by decide +kernel) ?_
            refine lv_imul hx hb dX4_before_44 ?_
            refine lv_cvi (pk_mul _ _) ?_
            refine lv_iload_n hx hb dX4_before_45 rfl (lv_at hl 0 rfl) ?_
            refine lv_iadd hx hb dX4_before_46 ?_
            refine lv_cvi (nI_add _ _) ?_
            exact W.iret (v := nI (((k / 64) * 64) + y)) hx hb hr (fun t9 ht hW => ⟨nI (((k / 64) * 64) + y), rfl, by rw [tr_b1 hT hk hz hy]; rfl, ht⟩) (fun q h => by cases h) dX4_before_47
      · have c_3 : ¬ z < k := fun h9 => qc_3 ((nI_ltI (a := z) (b := k) (by omega) (by omega)).mpr h9)
        refine lv_iconst (v := -1) hx hb dX4_before_16 (by decide +kernel) ?_
        exact W.iret (v := -1) hx hb hr (fun t9 ht hW => ⟨-1, rfl, pr_le hz3 (by omega), ht⟩) (fun q h => by cases h) dX4_before_17
set_option maxHeartbeats 4000000 in
set_option maxRecDepth 100000 in
/-- Tree.searchLength -/
theorem c_X4_searchLength (l : Launch) (dC : Nat → ClassId) (dI : Nat → Nat → Nat) (q : Nat) (ca : Nat) (cJ : ClassId) (f : Nat → Int64) (sm : Int64) (lo : Option Nat) (M : Nat → Bool) (k : Nat) (hT : TR M f sm lo) (hk : k < 4096) : Met l yX4_searchLength wsX4_searchLength ({ frames := 4, cells := 0, slots := 0, locals := 85 }) (va_Pc [.ref q, .int (nI k)] (fun U => va_P (dC, dI) vwCl [(q, .inr (4, [.ref ca, .long sm, .int (oI lo)])), (ca, .inl (cJ, 64, .inr (.inl f)))] U.heap ∧ va_K (dC, dI) vwCl [(cJ, .long)] U)) (vp_Si (fun r => r = nI (stp M k))) 0 0 (fun _ => False) := by
  refine Met.ofW (cc := cX4_searchLength) (maxL := 3) (ret := (some .int)) (by decide) rfl ?_
  intro p e s m args below meth c s₁ B hml hv
  obtain ⟨rfl, hP, hK⟩ := hv
  have hx := B.exec
  have hb := B.bytes
  have hr := B.returns
  have hts := atoms_spec (ws := wsX4_searchLength) B.pre
  have hown : s.vm.findClass RX4 = some m.cls := findClass_of_methodNamed B.named
  have hlocks := B.notSynchronized
  have hP : va_P (dC, dI) vwCl [(q, .inr (4, [.ref ca, .long sm, .int (oI lo)])), (ca, .inl (cJ, 64, .inr (.inl f)))] s.heap := hP
  have hl := lv_entry ([.ref q, .int (nI k)]) (n := 3) (Nat.le_of_ble_eq_true rfl)
  rw [lg_entry_eq]
  generalize (lg_sl ([.ref q, .int (nI k)]) ++ List.replicate (3 - (lg_sl ([.ref q, .int (nI k)])).length) Slot.unset).toArray = ls at hl ⊢
  have hl : lv_has ls 3 [(0, .ref q), (1, .int (nI k))] := hl
  refine lv_iload_n hx hb dX4_searchLength_0 rfl (lv_at hl 1 rfl) ?_
  refine lv_aload_n hx hb dX4_searchLength_1 rfl (lv_at hl 0 rfl) ?_
  have hPc := hP.sub (ws' := [(q, .inr (4, [.ref ca, .long sm, .int (oI lo)])), (ca, .inl (cJ, 64, .inr (.inl f)))]) [0, 1] rfl
  have hKc := hK.sub (tys' := [(cJ, .long)]) [0] rfl
  refine vp_callSi (W.runV (As := []) (rest := [.int (nI k)]) ⟨hx, hb, hml, hown, hts⟩ (c_X4_greatest l dC dI q ca cJ f sm lo M hT) (cwV 0 hts gX4_searchLength_X4_greatest rfl rfl rfl (by decide +kernel) ⟨Nat.le_of_ble_eq_true rfl, Nat.le_of_ble_eq_true rfl⟩) ⟨fun a U g mk q => by obtain ⟨q0, qP, qK⟩ := q; exact ⟨q0, qP, va_K.moved (u := U) (U := U.calling g mk a) (Vm.Alike.refl U.vm) qK⟩, va_recv hKc hPc (ci := 4) (q0 := 0) rfl rfl, fun U hU hW => ⟨rfl, by rw [hU]; exact hPc, va_K.moved hW.alike hKc⟩⟩ rfl rfl hl.1 rfl (lv_room (Nat.le_of_ble_eq_true rfl)) dX4_searchLength_2 ⟨Nat.le_of_ble_eq_true rfl, Nat.le_of_ble_eq_true rfl⟩) (fun r_2 hw_1 => ?_)
  subst hw_1
  rcases hg : lst1 M 4096 with _ | g
  · refine lv_cvi ((rfl : oI none = -1)) ?_
    refine lv_icmp_ge (tgt := 16) hx hb dX4_searchLength_5 (by decide) (fun qc_3 => ?_) (fun qc_3 => ?_)
    · refine lv_iconst (v := nI 1) hx hb dX4_searchLength_16 (by decide +kernel) ?_
      exact W.iret (v := nI 1) hx hb hr (fun t9 ht hW => ⟨nI 1, rfl, congrArg nI (stp_0 hk hg).symm, ht⟩) (fun q h => by cases h) dX4_searchLength_17
    · exact absurd (m1_le (by omega)) qc_3
  · refine lv_cvi ((rfl : oI (some g) = nI g)) ?_
    have hgb := lst1_some hg
    refine lv_icmp_ge (tgt := 16) hx hb dX4_searchLength_5 (by decide) (fun qc_4 => ?_) (fun qc_4 => ?_)
    · have c_4 : g ≤ k := (nI_leI (a := g) (b := k) (by omega) (by omega)).mp qc_4
      refine lv_iconst (v := nI 1) hx hb dX4_searchLength_16 (by decide +kernel) ?_
      exact W.iret (v := nI 1) hx hb hr (fun t9 ht hW => ⟨nI 1, rfl, congrArg nI (by first | exact (stp_ge hk hg (by omega)).symm | exact (stp_lt hz3 (by omega)).symm), ht⟩) (fun q h => by cases h) dX4_searchLength_17
    · have c_4 : ¬ g ≤ k := fun h9 => qc_4 ((nI_leI (a := g) (b := k) (by omega) (by omega)).mpr h9)
      obtain ⟨z, hz, hz1, hz2, hz4, hz3⟩ := tr_lo hT hgb.1 hgb.2.1
      refine lv_iload_n hx hb dX4_searchLength_8 rfl (lv_at hl 1 rfl) ?_
      refine lv_aload_n hx hb dX4_searchLength_9 rfl (lv_at hl 0 rfl) ?_
      refine va_get (D := (dC, dI)) (ci := 4) (v := .int (oI lo)) (C := RX4) (T := TX4) (N := 3) hx hb hts (by decide +kernel) hown hK hP 0 rfl rfl 2 (by decide) (hts (.fieldLink RX4 19 "SmallNumberSets$Tree" "least" "I") (by decide +kernel)) (fun _ h9 => h9) rfl dX4_searchLength_10 ?_
      refine lv_cvi (congrArg oI hz) ?_
      refine lv_cvi ((rfl : oI (some z) = nI z)) ?_
      refine lv_icmp_ge (tgt := 18) hx hb dX4_searchLength_13 (by decide) (fun qc_5 => ?_) (fun qc_5 => ?_)
      · have c_5 : z ≤ k := (nI_leI (a := z) (b := k) (by omega) (by omega)).mp qc_5
        refine lv_iload_n hx hb dX4_searchLength_18 rfl (lv_at hl 1 rfl) ?_
        refine lv_bipush (v := nI 64) hx hb dX4_searchLength_19 (by decide +kernel) ?_
        refine lv_idiv hx hb dX4_searchLength_21 (by decide +kernel) ?_
        refine lv_cvi (pk_div (by omega) (by decide) (by decide)) ?_
        refine lv_istore_n (lv' := [(2, .int (nI (k / 64))), (0, .ref q), (1, .int (nI k))]) hx hb dX4_searchLength_22 rfl hl (by decide) rfl (fun ls hl => ?_)
        refine lv_aload_n hx hb dX4_searchLength_23 rfl (lv_at hl 1 rfl) ?_
        refine lv_iload_n hx hb dX4_searchLength_24 rfl (lv_at hl 2 rfl) ?_
        have hPc := hP.sub (ws' := [(q, .inr (4, [.ref ca, .long sm, .int (oI lo)])), (ca, .inl (cJ, 64, .inr (.inl f)))]) [0, 1] rfl
        have hKc := hK.sub (tys' := [(cJ, .long)]) [0] rfl
        refine vp_callSi (W.runV (As := [.int (nI k)]) (rest := []) ⟨hx, hb, hml, hown, hts⟩ (c_X4_goesOnInCluster l dC dI q ca cJ f sm lo k (by omega)) (cwV 1 hts gX4_searchLength_X4_goesOnInCluster rfl rfl rfl (by decide +kernel) ⟨Nat.le_of_ble_eq_true rfl, Nat.le_of_ble_eq_true rfl⟩) ⟨fun a U g mk q => by obtain ⟨q0, qP, qK⟩ := q; exact ⟨q0, qP, va_K.moved (u := U) (U := U.calling g mk a) (Vm.Alike.refl U.vm) qK⟩, va_recv hKc hPc (ci := 4) (q0 := 0) rfl rfl, fun U hU hW => ⟨rfl, by rw [hU]; exact hPc, va_K.moved hW.alike hKc⟩⟩ rfl rfl hl.1 rfl (lv_room (Nat.le_of_ble_eq_true rfl)) dX4_searchLength_25 ⟨Nat.le_of_ble_eq_true rfl, Nat.le_of_ble_eq_true rfl⟩) (fun r_7 hw_6 => ?_)
        subst hw_6
        refine lv_if_eq (tgt := 46) hx hb dX4_searchLength_28 (by decide) (fun qc_8 => ?_) (fun qc_8 => ?_)
        · have c_8 : (goes (f (k / 64)) (k % 64)) = false := b2i_f qc_8
          refine lv_iconst (v := nI 1) hx hb dX4_searchLength_46 (by decide +kernel) ?_
          refine lv_aload_n hx hb dX4_searchLength_47 rfl (lv_at hl 1 rfl) ?_
          refine va_get (D := (dC, dI)) (ci := 4) (v := .long sm) (C := RX4) (T := TX4) (N := 3) hx hb hts (by decide +kernel) hown hK hP 0 rfl rfl 1 (by decide) (hts (.fieldLink RX4 15 "SmallNumberSets$Tree" "summary" "J") (by decide +kernel)) (fun _ h9 => h9) rfl dX4_searchLength_48 ?_
          refine lv_iload_n hx hb dX4_searchLength_51 rfl (lv_at hl 0 rfl) ?_
          have hPc := hP.sub (ws' := []) [] rfl
          have hKc := hK.sub (tys' := []) [] rfl
          refine vp_callSi (W.runS (As := [.long sm, .int (nI (k / 64))]) (rest := [.int (nI 1)]) ⟨hx, hb, hml, hown, hts⟩ (c_X6_searchLength l dC dI sm (k / 64) (by omega)) (va_cwS 2 hts gX4_searchLength_X6_searchLength rfl rfl rfl (by decide +kernel) ⟨Nat.le_of_ble_eq_true rfl, Nat.le_of_ble_eq_true rfl⟩) ⟨fun a U g mk q => by obtain ⟨q0, qP, qK⟩ := q; exact ⟨q0, qP, va_K.moved (u := U) (U := U.calling g mk a) (Vm.Alike.refl U.vm) qK⟩, fun U hU hW => ⟨rfl, by rw [hU]; exact hPc, va_K.moved hW.alike hKc⟩⟩ rfl rfl hl.1 rfl (lv_room (Nat.le_of_ble_eq_true rfl)) dX4_searchLength_52 ⟨Nat.le_of_ble_eq_true rfl, Nat.le_of_ble_eq_true rfl⟩) (fun r_10 hw_9 => ?_)
          subst hw_9
          refine lv_iadd hx hb dX4_searchLength_55 ?_
          refine lv_cvi (nI_add _ _) ?_
          exact W.iret (v := nI (1 + (slen (gb sm) (k / 64) 64))) hx hb hr (fun t9 ht hW => ⟨nI (1 + (slen (gb sm) (k / 64) 64)), rfl, congrArg nI (by rw [stp_in hz2 (by omega) hg (by omega), ← tr_clw hT (by omega), ← tr_smw hT, c_8]; rfl), ht⟩) (fun q h => by cases h) dX4_searchLength_56
        · have c_8 : (goes (f (k / 64)) (k % 64)) = true := b2i_t qc_8
          refine lv_iconst (v := nI 1) hx hb dX4_searchLength_31 (by decide +kernel) ?_
          refine lv_aload_n hx hb dX4_searchLength_32 rfl (lv_at hl 1 rfl) ?_
          refine lv_iload_n hx hb dX4_searchLength_33 rfl (lv_at hl 0 rfl) ?_
          have hPc := hP.sub (ws' := [(q, .inr (4, [.ref ca, .long sm, .int (oI lo)])), (ca, .inl (cJ, 64, .inr (.inl f)))]) [0, 1] rfl
          have hKc := hK.sub (tys' := [(cJ, .long)]) [0] rfl
          refine vp_callSl (W.runV (As := [.int (nI (k / 64))]) (rest := [.int (nI 1)]) ⟨hx, hb, hml, hown, hts⟩ (c_X4_cluster l dC dI q ca cJ f sm lo (k / 64) (by omega)) (cwV 1 hts gX4_searchLength_X4_cluster rfl rfl rfl (by decide +kernel) ⟨Nat.le_of_ble_eq_true rfl, Nat.le_of_ble_eq_true rfl⟩) ⟨fun a U g mk q => by obtain ⟨q0, qP, qK⟩ := q; exact ⟨q0, qP, va_K.moved (u := U) (U := U.calling g mk a) (Vm.Alike.refl U.vm) qK⟩, va_recv hKc hPc (ci := 4) (q0 := 0) rfl rfl, fun U hU hW => ⟨rfl, by rw [hU]; exact hPc, va_K.moved hW.alike hKc⟩⟩ rfl rfl hl.1 rfl (lv_room (Nat.le_of_ble_eq_true rfl)) dX4_searchLength_34 ⟨Nat.le_of_ble_eq_true rfl, Nat.le_of_ble_eq_true rfl⟩) (fun r_12 hw_11 => ?_)
          subst hw_11
          refine lv_iload_n hx hb dX4_searchLength_37 rfl (lv_at hl 2 rfl) ?_
          refine lv_bipush (v := nI 64) hx hb dX4_searchLength_38 (by decide +kernel) ?_
          refine lv_irem hx hb dX4_searchLength_40 (by decide +kernel) ?_
          refine lv_cvi (pk_rem (by omega) (by decide) (by decide)) ?_
          have hPc := hP.sub (ws' := []) [] rfl
          have hKc := hK.sub (tys' := []) [] rfl
          refine vp_callSi (W.runS (As := [.long (f (k / 64)), .int (nI (k % 64))]) (rest := [.int (nI 1)]) ⟨hx, hb, hml, hown, hts⟩ (c_X6_searchLength l dC dI (f (k / 64)) (k % 64) (by omega)) (va_cwS 2 hts gX4_searchLength_X6_searchLength rfl rfl rfl (by decide +kernel) ⟨Nat.le_of_ble_eq_true rfl, Nat.le_of_ble_eq_true rfl⟩) ⟨fun a U g mk q => by obtain ⟨q0, qP, qK⟩ := q; exact ⟨q0, qP, va_K.moved (u := U) (U := U.calling g mk a) (Vm.Alike.refl U.vm) qK⟩, fun U hU hW => ⟨rfl, by rw [hU]; exact hPc, va_K.moved hW.alike hKc⟩⟩ rfl rfl hl.1 rfl (lv_room (Nat.le_of_ble_eq_true rfl)) dX4_searchLength_41 ⟨Nat.le_of_ble_eq_true rfl, Nat.le_of_ble_eq_true rfl⟩) (fun r_14 hw_13 => ?_)
          subst hw_13
          refine lv_iadd hx hb dX4_searchLength_44 ?_
          refine lv_cvi (nI_add _ _) ?_
          exact W.iret (v := nI (1 + (slen (gb (f (k / 64))) (k % 64) 64))) hx hb hr (fun t9 ht hW => ⟨nI (1 + (slen (gb (f (k / 64))) (k % 64) 64)), rfl, congrArg nI (by rw [stp_in hz2 (by omega) hg (by omega), ← tr_clw hT (by omega), ← tr_smw hT, c_8]; rfl), ht⟩) (fun q h => by cases h) dX4_searchLength_45
      · have c_5 : ¬ z ≤ k := fun h9 => qc_5 ((nI_leI (a := z) (b := k) (by omega) (by omega)).mpr h9)
        refine lv_iconst (v := nI 1) hx hb dX4_searchLength_16 (by decide +kernel) ?_
        exact W.iret (v := nI 1) hx hb hr (fun t9 ht hW => ⟨nI 1, rfl, congrArg nI (by first | exact (stp_ge hk hg (by omega)).symm | exact (stp_lt hz3 (by omega)).symm), ht⟩) (fun q h => by cases h) dX4_searchLength_17
set_option maxHeartbeats 4000000 in
set_option maxRecDepth 100000 in
/-- Tree.treeCount -/
theorem c_X4_treeCount (l : Launch) (dC : Nat → ClassId) (dI : Nat → Nat → Nat) (q : Nat) (ca : Nat) (cJ : ClassId) (f : Nat → Int64) (sm : Int64) (lo : Option Nat) (M : Nat → Bool) (hT : TR M f sm lo) : Met l yX4_treeCount wsX4_treeCount ({ frames := 1, cells := 0, slots := 0, locals := 25 }) (va_Pc [.ref q] (fun U => va_P (dC, dI) vwCl [(q, .inr (4, [.ref ca, .long sm, .int (oI lo)])), (ca, .inl (cJ, 64, .inr (.inl f)))] U.heap ∧ va_K (dC, dI) vwCl [(cJ, .long)] U)) (vp_Si (fun r => r = nI (trs M))) 0 0 (fun _ => False) := by
  refine Met.ofW (cc := cX4_treeCount) (maxL := 3) (ret := (some .int)) (by decide) rfl ?_
  intro p e s m args below meth c s₁ B hml hv
  obtain ⟨rfl, hP, hK⟩ := hv
  have hx := B.exec
  have hb := B.bytes
  have hr := B.returns
  have hts := atoms_spec (ws := wsX4_treeCount) B.pre
  have hown : s.vm.findClass RX4 = some m.cls := findClass_of_methodNamed B.named
  have hlocks := B.notSynchronized
  have hP : va_P (dC, dI) vwCl [(q, .inr (4, [.ref ca, .long sm, .int (oI lo)])), (ca, .inl (cJ, 64, .inr (.inl f)))] s.heap := hP
  have hl := lv_entry ([.ref q]) (n := 3) (Nat.le_of_ble_eq_true rfl)
  rw [lg_entry_eq]
  generalize (lg_sl ([.ref q]) ++ List.replicate (3 - (lg_sl ([.ref q])).length) Slot.unset).toArray = ls at hl ⊢
  have hl : lv_has ls 3 [(0, .ref q)] := hl
  refine lv_aload_n hx hb dX4_treeCount_0 rfl (lv_at hl 0 rfl) ?_
  refine va_get (D := (dC, dI)) (ci := 4) (v := .int (oI lo)) (C := RX4) (T := TX4) (N := 3) hx hb hts (by decide +kernel) hown hK hP 0 rfl rfl 2 (by decide) (hts (.fieldLink RX4 19 "SmallNumberSets$Tree" "least" "I") (by decide +kernel)) (fun _ h9 => h9) rfl dX4_treeCount_1 ?_
  rcases hz : lo with _ | z
  · refine lv_cvi ((rfl : oI none = -1)) ?_
    refine lv_iconst (v := -1) hx hb dX4_treeCount_4 (by decide +kernel) ?_
    refine lv_icmp_ne (tgt := 10) hx hb dX4_treeCount_5 (by decide) (fun qc_1 => ?_) (fun qc_1 => ?_)
    · exact absurd qc_1 (by decide)
    · refine lv_iconst (v := nI 0) hx hb dX4_treeCount_8 (by decide +kernel) ?_
      exact W.iret (v := nI 0) hx hb hr (fun t9 ht hW => ⟨nI 0, rfl, congrArg nI (by unfold trs; rw [if_pos (by rw [← hT.1]; exact hz)]), ht⟩) (fun q h => by cases h) dX4_treeCount_9
  · obtain ⟨hz1, hz2, hz3⟩ := tr_some hT hz
    refine lv_cvi ((rfl : oI (some z) = nI z)) ?_
    refine lv_iconst (v := -1) hx hb dX4_treeCount_4 (by decide +kernel) ?_
    refine lv_icmp_ne (tgt := 10) hx hb dX4_treeCount_5 (by decide) (fun qc_2 => ?_) (fun qc_2 => ?_)
    · refine lv_iconst (v := nI 1) hx hb dX4_treeCount_10 (by decide +kernel) ?_
      refine lv_aload_n hx hb dX4_treeCount_11 rfl (lv_at hl 0 rfl) ?_
      refine va_get (D := (dC, dI)) (ci := 4) (v := .long sm) (C := RX4) (T := TX4) (N := 3) hx hb hts (by decide +kernel) hown hK hP 0 rfl rfl 1 (by decide) (hts (.fieldLink RX4 15 "SmallNumberSets$Tree" "summary" "J") (by decide +kernel)) (fun _ h9 => h9) rfl dX4_treeCount_12 ?_
      have hPc := hP.sub (ws' := []) [] rfl
      have hKc := hK.sub (tys' := []) [] rfl
      refine vp_callSi (W.runS (As := [.long sm]) (rest := [.int (nI 1)]) ⟨hx, hb, hml, hown, hts⟩ (c_X6_treeCount l dC dI sm ) (va_cwS 1 hts gX4_treeCount_X6_treeCount rfl rfl rfl (by decide +kernel) ⟨Nat.le_of_ble_eq_true rfl, Nat.le_of_ble_eq_true rfl⟩) ⟨fun a U g mk q => by obtain ⟨q0, qP, qK⟩ := q; exact ⟨q0, qP, va_K.moved (u := U) (U := U.calling g mk a) (Vm.Alike.refl U.vm) qK⟩, fun U hU hW => ⟨rfl, by rw [hU]; exact hPc, va_K.moved hW.alike hKc⟩⟩ rfl rfl hl.1 rfl (lv_room (Nat.le_of_ble_eq_true rfl)) dX4_treeCount_15 ⟨Nat.le_of_ble_eq_true rfl, Nat.le_of_ble_eq_true rfl⟩) (fun r_4 hw_3 => ?_)
      subst hw_3
      refine lv_iadd hx hb dX4_treeCount_18 ?_
      refine lv_cvi (nI_add _ _) ?_
      refine lv_istore_n (lv' := [(1, .int (nI (1 + (tcw sm)))), (0, .ref q)]) hx hb dX4_treeCount_19 rfl hl (by decide) rfl (fun ls hl => ?_)
      refine lv_iconst (v := nI 0) hx hb dX4_treeCount_20 (by decide +kernel) ?_
      refine lv_istore_n (lv' := [(2, .int (nI 0)), (1, .int (nI (1 + (tcw sm)))), (0, .ref q)]) hx hb dX4_treeCount_21 rfl hl (by decide) rfl (fun ls hl => ?_)
      have key_22_5 : ∀ (fu : Nat) (i : Nat) (t : Nat) (hi : i ≤ 64) (hs : t = 1 + tcw sm + sm1 (fun h => tcw (f h)) i) (hfu : 64 - i < fu) (ls : Array Slot) (hl : lv_has ls 3 [(2, .int (nI i)), (1, .int (nI t)), (0, .ref q)]), W p l e (headSpec wsX4_treeCount ({ frames := 1, cells := 0, slots := 0, locals := 25 })).room s m ([.ref q] : List Value).toArray below meth c s.heap [] 0 0 (MQ below (vp_Si (fun r => r = nI (trs M))) ([.ref q] : List Value).toArray s 0 0 (fun _ => False)) (F0 m 22 ls []) := by
        intro fu
        induction fu with
        | zero =>
          intro i t hi hs hfu ls hl
          exact absurd hfu (Nat.not_lt_zero _)
        | succ fu ih =>
          intro i t hi hs hfu ls hl
          refine lv_iload_n hx hb dX4_treeCount_22 rfl (lv_at hl 0 rfl) ?_
          refine lv_bipush (v := nI 64) hx hb dX4_treeCount_23 (by decide +kernel) ?_
          refine lv_icmp_ge (tgt := 45) hx hb dX4_treeCount_25 (by decide) (fun qc_6 => ?_) (fun qc_6 => ?_)
          · have c_6 : 64 ≤ i := (nI_leI (a := 64) (b := i) (by omega) (by omega)).mp qc_6
            refine lv_iload_n hx hb dX4_treeCount_45 rfl (lv_at hl 1 rfl) ?_
            exact W.iret (v := nI t) hx hb hr (fun t9 ht hW => ⟨nI t, rfl, congrArg nI (by rw [trs, if_neg (by rw [← hT.1, hz]; exact fun h9 => by cases h9), hs, show i = 64 by omega, ← tr_smw hT]; congr 1; exact sm1_cong fun h hh => by rw [tr_clw hT hh]), ht⟩) (fun q h => by cases h) dX4_treeCount_46
          · have c_6 : ¬ 64 ≤ i := fun h9 => qc_6 ((nI_leI (a := 64) (b := i) (by omega) (by omega)).mpr h9)
            refine lv_iload_n hx hb dX4_treeCount_28 rfl (lv_at hl 1 rfl) ?_
            refine lv_aload_n hx hb dX4_treeCount_29 rfl (lv_at hl 2 rfl) ?_
            refine lv_iload_n hx hb dX4_treeCount_30 rfl (lv_at hl 0 rfl) ?_
            have hPc := hP.sub (ws' := [(q, .inr (4, [.ref ca, .long sm, .int (oI lo)])), (ca, .inl (cJ, 64, .inr (.inl f)))]) [0, 1] rfl
            have hKc := hK.sub (tys' := [(cJ, .long)]) [0] rfl
            refine vp_callSl (W.runV (As := [.int (nI i)]) (rest := [.int (nI t)]) ⟨hx, hb, hml, hown, hts⟩ (c_X4_cluster l dC dI q ca cJ f sm lo i (by omega)) (cwV 1 hts gX4_treeCount_X4_cluster rfl rfl rfl (by decide +kernel) ⟨Nat.le_of_ble_eq_true rfl, Nat.le_of_ble_eq_true rfl⟩) ⟨fun a U g mk q => by obtain ⟨q0, qP, qK⟩ := q; exact ⟨q0, qP, va_K.moved (u := U) (U := U.calling g mk a) (Vm.Alike.refl U.vm) qK⟩, va_recv hKc hPc (ci := 4) (q0 := 0) rfl rfl, fun U hU hW => ⟨rfl, by rw [hU]; exact hPc, va_K.moved hW.alike hKc⟩⟩ rfl rfl hl.1 rfl (lv_room (Nat.le_of_ble_eq_true rfl)) dX4_treeCount_31 ⟨Nat.le_of_ble_eq_true rfl, Nat.le_of_ble_eq_true rfl⟩) (fun r_8 hw_7 => ?_)
            subst hw_7
            have hPc := hP.sub (ws' := []) [] rfl
            have hKc := hK.sub (tys' := []) [] rfl
            refine vp_callSi (W.runS (As := [.long (f i)]) (rest := [.int (nI t)]) ⟨hx, hb, hml, hown, hts⟩ (c_X6_treeCount l dC dI (f i) ) (va_cwS 1 hts gX4_treeCount_X6_treeCount rfl rfl rfl (by decide +kernel) ⟨Nat.le_of_ble_eq_true rfl, Nat.le_of_ble_eq_true rfl⟩) ⟨fun a U g mk q => by obtain ⟨q0, qP, qK⟩ := q; exact ⟨q0, qP, va_K.moved (u := U) (U := U.calling g mk a) (Vm.Alike.refl U.vm) qK⟩, fun U hU hW => ⟨rfl, by rw [hU]; exact hPc, va_K.moved hW.alike hKc⟩⟩ rfl rfl hl.1 rfl (lv_room (Nat.le_of_ble_eq_true rfl)) dX4_treeCount_34 ⟨Nat.le_of_ble_eq_true rfl, Nat.le_of_ble_eq_true rfl⟩) (fun r_10 hw_9 => ?_)
            subst hw_9
            refine lv_iadd hx hb dX4_treeCount_37 ?_
            refine lv_cvi (nI_add _ _) ?_
            refine lv_istore_n (lv' := [(1, .int (nI (t + (tcw (f i))))), (2, .int (nI i)), (0, .ref q)]) hx hb dX4_treeCount_38 rfl hl (by decide) rfl (fun ls hl => ?_)
            refine lv_iinc (v := nI (i + 1)) (lv' := [(2, .int (nI (i + 1))), (1, .int (nI (t + (tcw (f i))))), (0, .ref q)]) hx hb dX4_treeCount_39 hl (k := 1) rfl (nI_1 _) (by decide) rfl (fun ls hl => ?_)
            refine lv_goto (tgt := 22) hx hb dX4_treeCount_42 (by decide) ?_
            exact ih (i + 1) (t + (tcw (f i))) (by omega) (by rw [hs]; exact Nat.add_assoc _ _ _) (by omega) ls (lv_sub hl [0, 1, 2] rfl)
      exact key_22_5 _ 0 (1 + tcw sm) (by decide) rfl (Nat.lt_succ_self _) ls (lv_sub hl [0, 1, 2] rfl)
    · exact absurd qc_2 (nI_nem1 (by omega))
set_option maxHeartbeats 4000000 in
set_option maxRecDepth 100000 in
/-- Tree.put -/
theorem c_X4_put (l : Launch) (dC : Nat → ClassId) (dI : Nat → Nat → Nat) (q : Nat) (ca : Nat) (cJ : ClassId) (f : Nat → Int64) (sm : Int64) (lo : Option Nat) (M : Nat → Bool) (k : Nat) (sz : Nat) (hT : TR M f sm lo) (hk : k < 4096) (hM : M k = false) : Met l yX4_put wsX4_put ({ frames := 2, cells := 0, slots := 0, locals := 43 }) (va_Pc [.ref q, .int (nI k)] (fun U => U.heap.size = sz ∧ va_P (dC, dI) vwCl [(q, .inr (4, [.ref ca, .long sm, .int (oI lo)])), (ca, .inl (cJ, 64, .inr (.inl f)))] U.heap ∧ va_K (dC, dI) vwCl [(cJ, .long)] U ∧ va_D (fun _ => True) [(q, .inr (4, [.ref ca, .long sm, .int (oI lo)])), (ca, .inl (cJ, 64, .inr (.inl f)))])) (va_Qv (fun (u : (Nat → Int64) × Int64 × (Option Nat)) => TR (ins M k) u.1 u.2.1 u.2.2) (fun (u : (Nat → Int64) × Int64 × (Option Nat)) (t : State) => va_P (dC, dI) vwCl [(q, .inr (4, [.ref ca, .long u.2.1, .int (oI u.2.2)])), (ca, .inl (cJ, 64, .inr (.inl u.1)))] t.heap ∧ va_K (dC, dI) vwCl [(cJ, .long)] t ∧ va_D (va_A [(q, .inr (4, [.ref ca, .long sm, .int (oI lo)])), (ca, .inl (cJ, 64, .inr (.inl f)))] sz) [(q, .inr (4, [.ref ca, .long u.2.1, .int (oI u.2.2)])), (ca, .inl (cJ, 64, .inr (.inl u.1)))]) (va_A [(q, .inr (4, [.ref ca, .long sm, .int (oI lo)])), (ca, .inl (cJ, 64, .inr (.inl f)))] sz)) 0 0 (va_A [(q, .inr (4, [.ref ca, .long sm, .int (oI lo)])), (ca, .inl (cJ, 64, .inr (.inl f)))] sz) := by
  refine Met.ofW (cc := cX4_put) (maxL := 4) (ret := none) (by decide) rfl ?_
  intro p e s m args below meth c s₁ B hml hv
  obtain ⟨rfl, hsz, hP, hK, hD0⟩ := hv
  have hx := B.exec
  have hb := B.bytes
  have hr := B.returns
  have hts := atoms_spec (ws := wsX4_put) B.pre
  have hown : s.vm.findClass RX4 = some m.cls := findClass_of_methodNamed B.named
  have hlocks := B.notSynchronized
  subst hsz
  have hD := hD0.self (sz := s.heap.size)
  generalize hAe : va_A [(q, .inr (4, [.ref ca, .long sm, .int (oI lo)])), (ca, .inl (cJ, 64, .inr (.inl f)))] s.heap.size = A at hD ⊢
  have hA : ∀ q : Nat, s.heap.size ≤ q → A q := fun q h => by rw [← hAe]; exact Or.inr h
  have hS : va_S A s.heap s.heap [] := va_S.rf
  have hP : va_P (dC, dI) vwCl [(q, .inr (4, [.ref ca, .long sm, .int (oI lo)])), (ca, .inl (cJ, 64, .inr (.inl f)))] s.heap := hP
  have hl := lv_entry ([.ref q, .int (nI k)]) (n := 4) (Nat.le_of_ble_eq_true rfl)
  rw [lg_entry_eq]
  generalize (lg_sl ([.ref q, .int (nI k)]) ++ List.replicate (4 - (lg_sl ([.ref q, .int (nI k)])).length) Slot.unset).toArray = ls at hl ⊢
  have hl : lv_has ls 4 [(0, .ref q), (1, .int (nI k))] := hl
  refine lv_aload_n hx hb dX4_put_0 rfl (lv_at hl 0 rfl) ?_
  refine va_get (D := (dC, dI)) (ci := 4) (v := .int (oI lo)) (C := RX4) (T := TX4) (N := 3) hx hb hts (by decide +kernel) hown hK hP 0 rfl rfl 2 (by decide) (hts (.fieldLink RX4 19 "SmallNumberSets$Tree" "least" "I") (by decide +kernel)) (fun _ h9 => h9) rfl dX4_put_1 ?_
  rcases hz : lo with _ | z
  · refine lv_cvi ((rfl : oI none = -1)) ?_
    refine lv_iconst (v := -1) hx hb dX4_put_4 (by decide +kernel) ?_
    refine lv_icmp_ne (tgt := 14) hx hb dX4_put_5 (by decide) (fun qc_1 => ?_) (fun qc_1 => ?_)
    · exact absurd qc_1 (by decide)
    · refine lv_aload_n hx hb dX4_put_8 rfl (lv_at hl 0 rfl) ?_
      refine lv_iload_n hx hb dX4_put_9 rfl (lv_at hl 1 rfl) ?_
      refine va_put (D := (dC, dI)) (ci := 4) (v := .int (nI k)) (ty := .int) (C := RX4) (T := TX4) (N := 3) hx hb hts (by decide +kernel) tyX4 tyX4_ok nmX4 hown hK hP hD hS 0 rfl rfl 2 (by decide) (hts (.fieldLink RX4 19 "SmallNumberSets$Tree" "least" "I") (by decide +kernel)) (fun _ h9 => h9) rfl (by decide +kernel) rfl rfl (Nat.le_of_ble_eq_true rfl) dX4_put_10 (fun H locs hP hD hS => ?_)
      have hP : va_P (dC, dI) vwCl [(q, .inr (4, [.ref ca, .long sm, .int (nI k)])), (ca, .inl (cJ, 64, .inr (.inl f)))] H := hP
      have hD : va_D A [(q, .inr (4, [.ref ca, .long sm, .int (nI k)])), (ca, .inl (cJ, 64, .inr (.inl f)))] := hD
      have hP9 := hP.sub (ws' := [(q, .inr (4, [.ref ca, .long sm, .int (nI k)])), (ca, .inl (cJ, 64, .inr (.inl f)))]) [0, 1] rfl
      have hD9 := hD.sub (ws' := [(q, .inr (4, [.ref ca, .long sm, .int (nI k)])), (ca, .inl (cJ, 64, .inr (.inl f)))]) [0, 1] (by decide) rfl
      have hK9 := hK.sub (tys' := [(cJ, .long)]) [0] rfl
      exact W.vret hx hb hr (fun t9 ht hW => ⟨⟨⟨f, sm, some k⟩, rfl, (show TR (ins M k) f sm (some k) from tr_put0 hT hk hz), by rw [ht]; exact hP9, va_K.moved hW.alike hK9, hD9⟩, hS.F ht⟩) hS.2.2 dX4_put_13
  · obtain ⟨hz1, hz2, hz3⟩ := tr_some hT hz
    refine lv_cvi ((rfl : oI (some z) = nI z)) ?_
    refine lv_iconst (v := -1) hx hb dX4_put_4 (by decide +kernel) ?_
    refine lv_icmp_ne (tgt := 14) hx hb dX4_put_5 (by decide) (fun qc_2 => ?_) (fun qc_2 => ?_)
    · refine lv_aload_n hx hb dX4_put_14 rfl (lv_at hl 0 rfl) ?_
      refine va_get (D := (dC, dI)) (ci := 4) (v := .int (oI lo)) (C := RX4) (T := TX4) (N := 3) hx hb hts (by decide +kernel) hown hK hP 0 rfl rfl 2 (by decide) (hts (.fieldLink RX4 19 "SmallNumberSets$Tree" "least" "I") (by decide +kernel)) (fun _ h9 => h9) rfl dX4_put_15 ?_
      refine lv_cvi (congrArg oI hz) ?_
      refine lv_iload_n hx hb dX4_put_18 rfl (lv_at hl 1 rfl) ?_
      refine va_mmax hx hb (by rw [hml]; exact hl.1.symm) hown (hts (.methodLink RX4 31 Lib.Math.max.name) (by decide +kernel)) (hts (.static Lib.Math.max.name) (by decide +kernel)) (hts (.initialized "java/lang/Math") (by decide +kernel)) (hts (.code Lib.Math.max.name Lib.Math.max.code 2 (some .int)) (by decide +kernel)) (Nat.le_of_ble_eq_true rfl) (Nat.le_of_ble_eq_true rfl) (Nat.le_of_ble_eq_true rfl) (Nat.le_of_ble_eq_true rfl) dX4_put_19 ?_
      refine lv_cvi (mx_N (by omega) (by omega)) ?_
      refine lv_istore_n (lv' := [(2, .int (nI (max z k))), (0, .ref q), (1, .int (nI k))]) hx hb dX4_put_22 rfl hl (by decide) rfl (fun ls hl => ?_)
      refine lv_aload_n hx hb dX4_put_23 rfl (lv_at hl 1 rfl) ?_
      refine lv_aload_n hx hb dX4_put_24 rfl (lv_at hl 1 rfl) ?_
      refine va_get (D := (dC, dI)) (ci := 4) (v := .int (oI lo)) (C := RX4) (T := TX4) (N := 3) hx hb hts (by decide +kernel) hown hK hP 0 rfl rfl 2 (by decide) (hts (.fieldLink RX4 19 "SmallNumberSets$Tree" "least" "I") (by decide +kernel)) (fun _ h9 => h9) rfl dX4_put_25 ?_
      refine lv_cvi (congrArg oI hz) ?_
      refine lv_iload_n hx hb dX4_put_28 rfl (lv_at hl 2 rfl) ?_
      refine va_mmin hx hb (by rw [hml]; exact hl.1.symm) hown (hts (.methodLink RX4 37 Lib.Math.min.name) (by decide +kernel)) (hts (.static Lib.Math.min.name) (by decide +kernel)) (hts (.initialized "java/lang/Math") (by decide +kernel)) (hts (.code Lib.Math.min.name Lib.Math.min.code 2 (some .int)) (by decide +kernel)) (Nat.le_of_ble_eq_true rfl) (Nat.le_of_ble_eq_true rfl) (Nat.le_of_ble_eq_true rfl) (Nat.le_of_ble_eq_true rfl) dX4_put_29 ?_
      refine lv_cvi (mn_N (by omega) (by omega)) ?_
      refine va_put (D := (dC, dI)) (ci := 4) (v := .int (nI (min z k))) (ty := .int) (C := RX4) (T := TX4) (N := 3) hx hb hts (by decide +kernel) tyX4 tyX4_ok nmX4 hown hK hP hD hS 0 rfl rfl 2 (by decide) (hts (.fieldLink RX4 19 "SmallNumberSets$Tree" "least" "I") (by decide +kernel)) (fun _ h9 => h9) rfl (by decide +kernel) rfl rfl (Nat.le_of_ble_eq_true rfl) dX4_put_32 (fun H locs hP hD hS => ?_)
      have hP : va_P (dC, dI) vwCl [(q, .inr (4, [.ref ca, .long sm, .int (nI (min z k))])), (ca, .inl (cJ, 64, .inr (.inl f)))] H := hP
      have hD : va_D A [(q, .inr (4, [.ref ca, .long sm, .int (nI (min z k))])), (ca, .inl (cJ, 64, .inr (.inl f)))] := hD
      refine lv_iload_n hx hb dX4_put_35 rfl (lv_at hl 0 rfl) ?_
      refine lv_bipush (v := nI 64) hx hb dX4_put_36 (by decide +kernel) ?_
      refine lv_idiv hx hb dX4_put_38 (by decide +kernel) ?_
      refine lv_cvi (pk_div (by omega) (by decide) (by decide)) ?_
      refine lv_istore_n (lv' := [(3, .int (nI ((max z k) / 64))), (2, .int (nI (max z k))), (0, .ref q), (1, .int (nI k))]) hx hb dX4_put_39 rfl hl (by decide) rfl (fun ls hl => ?_)
      refine lv_aload_n hx hb dX4_put_40 rfl (lv_at hl 2 rfl) ?_
      refine lv_iload_n hx hb dX4_put_41 rfl (lv_at hl 0 rfl) ?_
      refine lv_aload_n hx hb dX4_put_42 rfl (lv_at hl 2 rfl) ?_
      refine lv_iload_n hx hb dX4_put_43 rfl (lv_at hl 0 rfl) ?_
      have hPc := hP.sub (ws' := [(q, .inr (4, [.ref ca, .long sm, .int (nI (min z k))])), (ca, .inl (cJ, 64, .inr (.inl f)))]) [0, 1] rfl
      have hKc := hK.sub (tys' := [(cJ, .long)]) [0] rfl
      refine vp_callSl (W.runV (As := [.int (nI ((max z k) / 64))]) (rest := [.int (nI ((max z k) / 64)), .ref q]) ⟨hx, hb, hml, hown, hts⟩ (c_X4_cluster l dC dI q ca cJ f sm (some (min z k)) ((max z k) / 64) (by omega)) (cwV 1 hts gX4_put_X4_cluster rfl rfl rfl (by decide +kernel) ⟨Nat.le_of_ble_eq_true rfl, Nat.le_of_ble_eq_true rfl⟩) ⟨fun a U g mk q => by obtain ⟨q0, qP, qK⟩ := q; exact ⟨q0, qP, va_K.moved (u := U) (U := U.calling g mk a) (Vm.Alike.refl U.vm) qK⟩, va_recv hKc hPc (ci := 4) (q0 := 0) rfl rfl, fun U hU hW => ⟨rfl, by rw [hU]; exact hPc, va_K.moved hW.alike hKc⟩⟩ rfl rfl hl.1 rfl (lv_room (Nat.le_of_ble_eq_true rfl)) dX4_put_44 ⟨Nat.le_of_ble_eq_true rfl, Nat.le_of_ble_eq_true rfl⟩) (fun r_4 hw_3 => ?_)
      subst hw_3
      refine lv_iload_n hx hb dX4_put_47 rfl (lv_at hl 1 rfl) ?_
      refine lv_bipush (v := nI 64) hx hb dX4_put_48 (by decide +kernel) ?_
      refine lv_irem hx hb dX4_put_50 (by decide +kernel) ?_
      refine lv_cvi (pk_rem (by omega) (by decide) (by decide)) ?_
      have hPc := hP.sub (ws' := []) [] rfl
      have hKc := hK.sub (tys' := []) [] rfl
      refine vp_callSl (W.runS (As := [.int (nI ((max z k) % 64))]) (rest := [.long (f ((max z k) / 64)), .int (nI ((max z k) / 64)), .ref q]) ⟨hx, hb, hml, hown, hts⟩ (c_X6_bit l dC dI ((max z k) % 64) (by omega)) (va_cwS 1 hts gX4_put_X6_bit rfl rfl rfl (by decide +kernel) ⟨Nat.le_of_ble_eq_true rfl, Nat.le_of_ble_eq_true rfl⟩) ⟨fun a U g mk q => by obtain ⟨q0, qP, qK⟩ := q; exact ⟨q0, qP, va_K.moved (u := U) (U := U.calling g mk a) (Vm.Alike.refl U.vm) qK⟩, fun U hU hW => ⟨rfl, by rw [hU]; exact hPc, va_K.moved hW.alike hKc⟩⟩ rfl rfl hl.1 rfl (lv_room (Nat.le_of_ble_eq_true rfl)) dX4_put_51 ⟨Nat.le_of_ble_eq_true rfl, Nat.le_of_ble_eq_true rfl⟩) (fun r_6 hw_5 => ?_)
      subst hw_5
      refine lv_lor hx hb dX4_put_54 ?_
      have hPc := hP.sub (ws' := [(q, .inr (4, [.ref ca, .long sm, .int (nI (min z k))])), (ca, .inl (cJ, 64, .inr (.inl f)))]) [0, 1] rfl
      have hKc := hK.sub (tys' := [(cJ, .long)]) [0] rfl
      have hDc := hD.sub (ws' := [(q, .inr (4, [.ref ca, .long sm, .int (nI (min z k))])), (ca, .inl (cJ, 64, .inr (.inl f)))]) [0, 1] (by decide) rfl
      have hFc := va_free (wc := [(q, .inr (4, [.ref ca, .long sm, .int (nI (min z k))])), (ca, .inl (cJ, 64, .inr (.inl f)))]) hD hS hA [0, 1] rfl
      refine va_callv (va_runV (As := [.int (nI ((max z k) / 64)), .long ((f ((max z k) / 64)) ||| (bit1 (((max z k) % 64) % 64)))]) (rest := []) ⟨hx, hb, hml, hown, hts⟩ (c_X4_setCluster l dC dI q ca cJ f sm (some (min z k)) ((max z k) / 64) ((f ((max z k) / 64)) ||| (bit1 (((max z k) % 64) % 64))) H.size (by omega)) (cwV 2 hts gX4_put_X4_setCluster rfl rfl rfl (by decide +kernel) ⟨Nat.le_of_ble_eq_true rfl, Nat.le_of_ble_eq_true rfl⟩) ⟨fun a U g mk q => by obtain ⟨q0, q1, qP, qK, qD⟩ := q; exact ⟨q0, q1, qP, va_K.moved (u := U) (U := U.calling g mk a) (Vm.Alike.refl U.vm) qK, qD⟩, va_recv hKc hPc (ci := 4) (q0 := 0) rfl rfl, fun U hU hW => ⟨rfl, by rw [hU], by rw [hU]; exact hPc, va_K.moved hW.alike hKc, hDc.weaken (fun _ _ _ _ => trivial)⟩⟩ rfl rfl hl.1 rfl (lv_room (Nat.le_of_ble_eq_true rfl)) dX4_put_55 ⟨Nat.le_of_ble_eq_true rfl, Nat.le_of_ble_eq_true rfl⟩) hS (fun q _ h => hFc q h) hFc (fun u_8 t9 H1 locs ht hvm hw_7 hB hz1 hk1 hS => ?_)
      obtain ⟨f'_10, sm'_11⟩ := u_8
      obtain ⟨hP1, hK1, hD1⟩ := hB
      rw [ht] at hP1
      have hK1 := va_K.moved hvm.symm hK1
      try dsimp only at hw_7 hP1 hK1 hD1
      obtain ⟨hP, hD⟩ := va_join (wr := []) (w1 := [(q, .inr (4, [.ref ca, .long sm'_11, .int (oI (some (min z k)))])), (ca, .inl (cJ, 64, .inr (.inl f'_10)))]) hP hD [0, 1] [] rfl rfl (by decide) (by decide) hk1 hFc hP1 hD1
      generalize H1 = H at hP hS ⊢
      have hP : va_P (dC, dI) vwCl [(q, .inr (4, [.ref ca, .long sm'_11, .int (oI (some (min z k)))])), (ca, .inl (cJ, 64, .inr (.inl f'_10)))] H := hP
      have hD : va_D A [(q, .inr (4, [.ref ca, .long sm'_11, .int (oI (some (min z k)))])), (ca, .inl (cJ, 64, .inr (.inl f'_10)))] := hD
      have hP9 := hP.sub (ws' := [(q, .inr (4, [.ref ca, .long sm'_11, .int (oI (some (min z k)))])), (ca, .inl (cJ, 64, .inr (.inl f'_10)))]) [0, 1] rfl
      have hD9 := hD.sub (ws' := [(q, .inr (4, [.ref ca, .long sm'_11, .int (oI (some (min z k)))])), (ca, .inl (cJ, 64, .inr (.inl f'_10)))]) [0, 1] (by decide) rfl
      have hK9 := hK.sub (tys' := [(cJ, .long)]) [0] rfl
      exact W.vret hx hb hr (fun t9 ht hW => ⟨⟨⟨f'_10, sm'_11, some (min z k)⟩, rfl, (show TR (ins M k) f'_10 sm'_11 (some (min z k)) from tr_put1 hT hk hM hz hw_7.1 hw_7.2), by rw [ht]; exact hP9, va_K.moved hW.alike hK9, hD9⟩, hS.F ht⟩) hS.2.2 dX4_put_58
    · exact absurd qc_2 (nI_nem1 (by omega))
set_option maxHeartbeats 4000000 in
set_option maxRecDepth 100000 in
/-- Tree.take -/
theorem c_X4_take (l : Launch) (dC : Nat → ClassId) (dI : Nat → Nat → Nat) (q : Nat) (ca : Nat) (cJ : ClassId) (f : Nat → Int64) (sm : Int64) (lo : Option Nat) (M : Nat → Bool) (k : Nat) (sz : Nat) (hT : TR M f sm lo) (hk : k < 4096) (hM : M k = true) : Met l yX4_take wsX4_take ({ frames := 4, cells := 0, slots := 0, locals := 83 }) (va_Pc [.ref q, .int (nI k)] (fun U => U.heap.size = sz ∧ va_P (dC, dI) vwCl [(q, .inr (4, [.ref ca, .long sm, .int (oI lo)])), (ca, .inl (cJ, 64, .inr (.inl f)))] U.heap ∧ va_K (dC, dI) vwCl [(cJ, .long)] U ∧ va_D (fun _ => True) [(q, .inr (4, [.ref ca, .long sm, .int (oI lo)])), (ca, .inl (cJ, 64, .inr (.inl f)))])) (va_Qv (fun (u : (Nat → Int64) × Int64 × (Option Nat)) => TR (del M k) u.1 u.2.1 u.2.2) (fun (u : (Nat → Int64) × Int64 × (Option Nat)) (t : State) => va_P (dC, dI) vwCl [(q, .inr (4, [.ref ca, .long u.2.1, .int (oI u.2.2)])), (ca, .inl (cJ, 64, .inr (.inl u.1)))] t.heap ∧ va_K (dC, dI) vwCl [(cJ, .long)] t ∧ va_D (va_A [(q, .inr (4, [.ref ca, .long sm, .int (oI lo)])), (ca, .inl (cJ, 64, .inr (.inl f)))] sz) [(q, .inr (4, [.ref ca, .long u.2.1, .int (oI u.2.2)])), (ca, .inl (cJ, 64, .inr (.inl u.1)))]) (va_A [(q, .inr (4, [.ref ca, .long sm, .int (oI lo)])), (ca, .inl (cJ, 64, .inr (.inl f)))] sz)) 0 0 (va_A [(q, .inr (4, [.ref ca, .long sm, .int (oI lo)])), (ca, .inl (cJ, 64, .inr (.inl f)))] sz) := by
  refine Met.ofW (cc := cX4_take) (maxL := 4) (ret := none) (by decide) rfl ?_
  intro p e s m args below meth c s₁ B hml hv
  obtain ⟨rfl, hsz, hP, hK, hD0⟩ := hv
  have hx := B.exec
  have hb := B.bytes
  have hr := B.returns
  have hts := atoms_spec (ws := wsX4_take) B.pre
  have hown : s.vm.findClass RX4 = some m.cls := findClass_of_methodNamed B.named
  have hlocks := B.notSynchronized
  subst hsz
  have hD := hD0.self (sz := s.heap.size)
  generalize hAe : va_A [(q, .inr (4, [.ref ca, .long sm, .int (oI lo)])), (ca, .inl (cJ, 64, .inr (.inl f)))] s.heap.size = A at hD ⊢
  have hA : ∀ q : Nat, s.heap.size ≤ q → A q := fun q h => by rw [← hAe]; exact Or.inr h
  have hS : va_S A s.heap s.heap [] := va_S.rf
  have hP : va_P (dC, dI) vwCl [(q, .inr (4, [.ref ca, .long sm, .int (oI lo)])), (ca, .inl (cJ, 64, .inr (.inl f)))] s.heap := hP
  have hl := lv_entry ([.ref q, .int (nI k)]) (n := 4) (Nat.le_of_ble_eq_true rfl)
  rw [lg_entry_eq]
  generalize (lg_sl ([.ref q, .int (nI k)]) ++ List.replicate (4 - (lg_sl ([.ref q, .int (nI k)])).length) Slot.unset).toArray = ls at hl ⊢
  have hl : lv_has ls 4 [(0, .ref q), (1, .int (nI k))] := hl
  refine lv_iload_n hx hb dX4_take_0 rfl (lv_at hl 1 rfl) ?_
  refine lv_istore_n (lv' := [(2, .int (nI k)), (0, .ref q), (1, .int (nI k))]) hx hb dX4_take_1 rfl hl (by decide) rfl (fun ls hl => ?_)
  refine lv_iload_n hx hb dX4_take_2 rfl (lv_at hl 2 rfl) ?_
  refine lv_aload_n hx hb dX4_take_3 rfl (lv_at hl 1 rfl) ?_
  refine va_get (D := (dC, dI)) (ci := 4) (v := .int (oI lo)) (C := RX4) (T := TX4) (N := 3) hx hb hts (by decide +kernel) hown hK hP 0 rfl rfl 2 (by decide) (hts (.fieldLink RX4 19 "SmallNumberSets$Tree" "least" "I") (by decide +kernel)) (fun _ h9 => h9) rfl dX4_take_4 ?_
  rcases hz : lo with _ | z
  · refine lv_cvi ((rfl : oI none = -1)) ?_
    rw [tr_none hT hz k hk] at hM
    cases hM
  · obtain ⟨hz1, hz2, hz3⟩ := tr_some hT hz
    refine lv_cvi ((rfl : oI (some z) = nI z)) ?_
    refine lv_icmp_ne (tgt := 20) hx hb dX4_take_7 (by decide) (fun qc_1 => ?_) (fun qc_1 => ?_)
    · have c_1 : ¬ k = z := fun h9 => qc_1 ((nI_eq (a := k) (b := z) (by omega) (by omega)).mpr h9)
      refine lv_iload_n hx hb dX4_take_20 rfl (lv_at hl 0 rfl) ?_
      refine lv_iconst (v := -1) hx hb dX4_take_21 (by decide +kernel) ?_
      refine lv_icmp_ne (tgt := 26) hx hb dX4_take_22 (by decide) (fun qc_2 => ?_) (fun qc_2 => ?_)
      · refine lv_iload_n hx hb dX4_take_26 rfl (lv_at hl 0 rfl) ?_
        refine lv_bipush (v := nI 64) hx hb dX4_take_27 (by decide +kernel) ?_
        refine lv_idiv hx hb dX4_take_29 (by decide +kernel) ?_
        refine lv_cvi (pk_div (by omega) (by decide) (by decide)) ?_
        refine lv_istore_n (lv' := [(3, .int (nI (k / 64))), (2, .int (nI k)), (0, .ref q), (1, .int (nI k))]) hx hb dX4_take_30 rfl hl (by decide) rfl (fun ls hl => ?_)
        refine lv_aload_n hx hb dX4_take_31 rfl (lv_at hl 2 rfl) ?_
        refine lv_iload_n hx hb dX4_take_32 rfl (lv_at hl 0 rfl) ?_
        refine lv_aload_n hx hb dX4_take_33 rfl (lv_at hl 2 rfl) ?_
        refine lv_iload_n hx hb dX4_take_34 rfl (lv_at hl 0 rfl) ?_
        have hPc := hP.sub (ws' := [(q, .inr (4, [.ref ca, .long sm, .int (oI lo)])), (ca, .inl (cJ, 64, .inr (.inl f)))]) [0, 1] rfl
        have hKc := hK.sub (tys' := [(cJ, .long)]) [0] rfl
        refine vp_callSl (W.runV (As := [.int (nI (k / 64))]) (rest := [.int (nI (k / 64)), .ref q]) ⟨hx, hb, hml, hown, hts⟩ (c_X4_cluster l dC dI q ca cJ f sm lo (k / 64) (by omega)) (cwV 1 hts gX4_take_X4_cluster rfl rfl rfl (by decide +kernel) ⟨Nat.le_of_ble_eq_true rfl, Nat.le_of_ble_eq_true rfl⟩) ⟨fun a U g mk q => by obtain ⟨q0, qP, qK⟩ := q; exact ⟨q0, qP, va_K.moved (u := U) (U := U.calling g mk a) (Vm.Alike.refl U.vm) qK⟩, va_recv hKc hPc (ci := 4) (q0 := 0) rfl rfl, fun U hU hW => ⟨rfl, by rw [hU]; exact hPc, va_K.moved hW.alike hKc⟩⟩ rfl rfl hl.1 rfl (lv_room (Nat.le_of_ble_eq_true rfl)) dX4_take_35 ⟨Nat.le_of_ble_eq_true rfl, Nat.le_of_ble_eq_true rfl⟩) (fun r_4 hw_3 => ?_)
        subst hw_3
        refine lv_iload_n hx hb dX4_take_38 rfl (lv_at hl 1 rfl) ?_
        refine lv_bipush (v := nI 64) hx hb dX4_take_39 (by decide +kernel) ?_
        refine lv_irem hx hb dX4_take_41 (by decide +kernel) ?_
        refine lv_cvi (pk_rem (by omega) (by decide) (by decide)) ?_
        have hPc := hP.sub (ws' := []) [] rfl
        have hKc := hK.sub (tys' := []) [] rfl
        refine vp_callSl (W.runS (As := [.int (nI (k % 64))]) (rest := [.long (f (k / 64)), .int (nI (k / 64)), .ref q]) ⟨hx, hb, hml, hown, hts⟩ (c_X6_bit l dC dI (k % 64) (by omega)) (va_cwS 1 hts gX4_take_X6_bit rfl rfl rfl (by decide +kernel) ⟨Nat.le_of_ble_eq_true rfl, Nat.le_of_ble_eq_true rfl⟩) ⟨fun a U g mk q => by obtain ⟨q0, qP, qK⟩ := q; exact ⟨q0, qP, va_K.moved (u := U) (U := U.calling g mk a) (Vm.Alike.refl U.vm) qK⟩, fun U hU hW => ⟨rfl, by rw [hU]; exact hPc, va_K.moved hW.alike hKc⟩⟩ rfl rfl hl.1 rfl (lv_room (Nat.le_of_ble_eq_true rfl)) dX4_take_42 ⟨Nat.le_of_ble_eq_true rfl, Nat.le_of_ble_eq_true rfl⟩) (fun r_6 hw_5 => ?_)
        subst hw_5
        refine lv_ldc2 (v := (-1)) hx hb hown (hts (.constantLong RX4 29 (-1)) (by decide +kernel)) dX4_take_45 ?_
        refine lv_lxor hx hb dX4_take_48 ?_
        refine lv_land hx hb dX4_take_49 ?_
        have hPc := hP.sub (ws' := [(q, .inr (4, [.ref ca, .long sm, .int (oI lo)])), (ca, .inl (cJ, 64, .inr (.inl f)))]) [0, 1] rfl
        have hKc := hK.sub (tys' := [(cJ, .long)]) [0] rfl
        have hDc := hD.sub (ws' := [(q, .inr (4, [.ref ca, .long sm, .int (oI lo)])), (ca, .inl (cJ, 64, .inr (.inl f)))]) [0, 1] (by decide) rfl
        have hFc := va_free (wc := [(q, .inr (4, [.ref ca, .long sm, .int (oI lo)])), (ca, .inl (cJ, 64, .inr (.inl f)))]) hD hS hA [0, 1] rfl
        refine va_callv (va_runV (As := [.int (nI (k / 64)), .long ((f (k / 64)) &&& ((bit1 ((k % 64) % 64)) ^^^ (-1 : Int64)))]) (rest := []) ⟨hx, hb, hml, hown, hts⟩ (c_X4_setCluster l dC dI q ca cJ f sm lo (k / 64) ((f (k / 64)) &&& ((bit1 ((k % 64) % 64)) ^^^ (-1 : Int64))) s.heap.size (by omega)) (cwV 2 hts gX4_take_X4_setCluster rfl rfl rfl (by decide +kernel) ⟨Nat.le_of_ble_eq_true rfl, Nat.le_of_ble_eq_true rfl⟩) ⟨fun a U g mk q => by obtain ⟨q0, q1, qP, qK, qD⟩ := q; exact ⟨q0, q1, qP, va_K.moved (u := U) (U := U.calling g mk a) (Vm.Alike.refl U.vm) qK, qD⟩, va_recv hKc hPc (ci := 4) (q0 := 0) rfl rfl, fun U hU hW => ⟨rfl, by rw [hU], by rw [hU]; exact hPc, va_K.moved hW.alike hKc, hDc.weaken (fun _ _ _ _ => trivial)⟩⟩ rfl rfl hl.1 rfl (lv_room (Nat.le_of_ble_eq_true rfl)) dX4_take_50 ⟨Nat.le_of_ble_eq_true rfl, Nat.le_of_ble_eq_true rfl⟩) hS (fun q _ h => hFc q h) hFc (fun u_8 t9 H1 locs ht hvm hw_7 hB hz1 hk1 hS => ?_)
        obtain ⟨f'_10, sm'_11⟩ := u_8
        obtain ⟨hP1, hK1, hD1⟩ := hB
        rw [ht] at hP1
        have hK1 := va_K.moved hvm.symm hK1
        try dsimp only at hw_7 hP1 hK1 hD1
        obtain ⟨hP, hD⟩ := va_join (wr := []) (w1 := [(q, .inr (4, [.ref ca, .long sm'_11, .int (oI lo)])), (ca, .inl (cJ, 64, .inr (.inl f'_10)))]) hP hD [0, 1] [] rfl rfl (by decide) (by decide) hk1 hFc hP1 hD1
        generalize H1 = H at hP hS ⊢
        have hP : va_P (dC, dI) vwCl [(q, .inr (4, [.ref ca, .long sm'_11, .int (oI lo)])), (ca, .inl (cJ, 64, .inr (.inl f'_10)))] H := hP
        have hD : va_D A [(q, .inr (4, [.ref ca, .long sm'_11, .int (oI lo)])), (ca, .inl (cJ, 64, .inr (.inl f'_10)))] := hD
        have hP9 := hP.sub (ws' := [(q, .inr (4, [.ref ca, .long sm'_11, .int (oI lo)])), (ca, .inl (cJ, 64, .inr (.inl f'_10)))]) [0, 1] rfl
        have hD9 := hD.sub (ws' := [(q, .inr (4, [.ref ca, .long sm'_11, .int (oI lo)])), (ca, .inl (cJ, 64, .inr (.inl f'_10)))]) [0, 1] (by decide) rfl
        have hK9 := hK.sub (tys' := [(cJ, .long)]) [0] rfl
        exact W.vret hx hb hr (fun t9 ht hW => ⟨⟨⟨f'_10, sm'_11, lo⟩, rfl, (show TR (del M k) f'_10 sm'_11 lo from by rw [hz]; exact tr_tk3 hT hz (by omega) hw_7.1 hw_7.2), by rw [ht]; exact hP9, va_K.moved hW.alike hK9, hD9⟩, hS.F ht⟩) hS.2.2 dX4_take_53
      · exact absurd qc_2 (nI_nem1 (by omega))
    · have c_1 : k = z := (nI_eq (a := k) (b := z) (by omega) (by omega)).mp qc_1
      refine lv_aload_n hx hb dX4_take_10 rfl (lv_at hl 1 rfl) ?_
      have hPc := hP.sub (ws' := [(q, .inr (4, [.ref ca, .long sm, .int (oI lo)])), (ca, .inl (cJ, 64, .inr (.inl f)))]) [0, 1] rfl
      have hKc := hK.sub (tys' := [(cJ, .long)]) [0] rfl
      refine vp_callSi (W.runV (As := []) (rest := []) ⟨hx, hb, hml, hown, hts⟩ (c_X4_leastInClusters l dC dI q ca cJ f sm lo hT.2.2) (cwV 0 hts gX4_take_X4_leastInClusters rfl rfl rfl (by decide +kernel) ⟨Nat.le_of_ble_eq_true rfl, Nat.le_of_ble_eq_true rfl⟩) ⟨fun a U g mk q => by obtain ⟨q0, qP, qK⟩ := q; exact ⟨q0, qP, va_K.moved (u := U) (U := U.calling g mk a) (Vm.Alike.refl U.vm) qK⟩, va_recv hKc hPc (ci := 4) (q0 := 0) rfl rfl, fun U hU hW => ⟨rfl, by rw [hU]; exact hPc, va_K.moved hW.alike hKc⟩⟩ rfl rfl hl.1 rfl (lv_room (Nat.le_of_ble_eq_true rfl)) dX4_take_11 ⟨Nat.le_of_ble_eq_true rfl, Nat.le_of_ble_eq_true rfl⟩) (fun r_13 hw_12 => ?_)
      subst hw_12
      rcases hy : fst1 (bo f) 4096 with _ | y
      · refine lv_cvi ((rfl : oI none = -1)) ?_
        refine lv_istore_n (lv' := [(2, .int (-1)), (0, .ref q), (1, .int (nI k))]) hx hb dX4_take_14 rfl hl (by decide) rfl (fun ls hl => ?_)
        refine lv_aload_n hx hb dX4_take_15 rfl (lv_at hl 1 rfl) ?_
        refine lv_iload_n hx hb dX4_take_16 rfl (lv_at hl 0 rfl) ?_
        refine va_put (D := (dC, dI)) (ci := 4) (v := .int (-1)) (ty := .int) (C := RX4) (T := TX4) (N := 3) hx hb hts (by decide +kernel) tyX4 tyX4_ok nmX4 hown hK hP hD hS 0 rfl rfl 2 (by decide) (hts (.fieldLink RX4 19 "SmallNumberSets$Tree" "least" "I") (by decide +kernel)) (fun _ h9 => h9) rfl (by decide +kernel) rfl rfl (Nat.le_of_ble_eq_true rfl) dX4_take_17 (fun H locs hP hD hS => ?_)
        have hP : va_P (dC, dI) vwCl [(q, .inr (4, [.ref ca, .long sm, .int (-1)])), (ca, .inl (cJ, 64, .inr (.inl f)))] H := hP
        have hD : va_D A [(q, .inr (4, [.ref ca, .long sm, .int (-1)])), (ca, .inl (cJ, 64, .inr (.inl f)))] := hD
        refine lv_iload_n hx hb dX4_take_20 rfl (lv_at hl 0 rfl) ?_
        refine lv_iconst (v := -1) hx hb dX4_take_21 (by decide +kernel) ?_
        refine lv_icmp_ne (tgt := 26) hx hb dX4_take_22 (by decide) (fun qc_14 => ?_) (fun qc_14 => ?_)
        · exact absurd qc_14 (by decide)
        · have hP9 := hP.sub (ws' := [(q, .inr (4, [.ref ca, .long sm, .int (-1)])), (ca, .inl (cJ, 64, .inr (.inl f)))]) [0, 1] rfl
          have hD9 := hD.sub (ws' := [(q, .inr (4, [.ref ca, .long sm, .int (-1)])), (ca, .inl (cJ, 64, .inr (.inl f)))]) [0, 1] (by decide) rfl
          have hK9 := hK.sub (tys' := [(cJ, .long)]) [0] rfl
          exact W.vret hx hb hr (fun t9 ht hW => ⟨⟨⟨f, sm, none⟩, rfl, (show TR (del M k) f sm none from tr_tk1 hT hz (by omega) hy), by rw [ht]; exact hP9, va_K.moved hW.alike hK9, hD9⟩, hS.F ht⟩) hS.2.2 dX4_take_25
      · refine lv_cvi ((rfl : oI (some y) = nI y)) ?_
        have hyb := (fst1_some hy).1
        refine lv_istore_n (lv' := [(2, .int (nI y)), (0, .ref q), (1, .int (nI k))]) hx hb dX4_take_14 rfl hl (by decide) rfl (fun ls hl => ?_)
        refine lv_aload_n hx hb dX4_take_15 rfl (lv_at hl 1 rfl) ?_
        refine lv_iload_n hx hb dX4_take_16 rfl (lv_at hl 0 rfl) ?_
        refine va_put (D := (dC, dI)) (ci := 4) (v := .int (nI y)) (ty := .int) (C := RX4) (T := TX4) (N := 3) hx hb hts (by decide +kernel) tyX4 tyX4_ok nmX4 hown hK hP hD hS 0 rfl rfl 2 (by decide) (hts (.fieldLink RX4 19 "SmallNumberSets$Tree" "least" "I") (by decide +kernel)) (fun _ h9 => h9) rfl (by decide +kernel) rfl rfl (Nat.le_of_ble_eq_true rfl) dX4_take_17 (fun H locs hP hD hS => ?_)
        have hP : va_P (dC, dI) vwCl [(q, .inr (4, [.ref ca, .long sm, .int (nI y)])), (ca, .inl (cJ, 64, .inr (.inl f)))] H := hP
        have hD : va_D A [(q, .inr (4, [.ref ca, .long sm, .int (nI y)])), (ca, .inl (cJ, 64, .inr (.inl f)))] := hD
        refine lv_iload_n hx hb dX4_take_20 rfl (lv_at hl 0 rfl) ?_
        refine lv_iconst (v := -1) hx hb dX4_take_21 (by decide +kernel) ?_
        refine lv_icmp_ne (tgt := 26) hx hb dX4_take_22 (by decide) (fun qc_15 => ?_) (fun qc_15 => ?_)
        · refine lv_iload_n hx hb dX4_take_26 rfl (lv_at hl 0 rfl) ?_
          refine lv_bipush (v := nI 64) hx hb dX4_take_27 (by decide +kernel) ?_
          refine lv_idiv hx hb dX4_take_29 (by decide +kernel) ?_
          refine lv_cvi (pk_div (by omega) (by decide) (by decide)) ?_
          refine lv_istore_n (lv' := [(3, .int (nI (y / 64))), (2, .int (nI y)), (0, .ref q), (1, .int (nI k))]) hx hb dX4_take_30 rfl hl (by decide) rfl (fun ls hl => ?_)
          refine lv_aload_n hx hb dX4_take_31 rfl (lv_at hl 2 rfl) ?_
          refine lv_iload_n hx hb dX4_take_32 rfl (lv_at hl 0 rfl) ?_
          refine lv_aload_n hx hb dX4_take_33 rfl (lv_at hl 2 rfl) ?_
          refine lv_iload_n hx hb dX4_take_34 rfl (lv_at hl 0 rfl) ?_
          have hPc := hP.sub (ws' := [(q, .inr (4, [.ref ca, .long sm, .int (nI y)])), (ca, .inl (cJ, 64, .inr (.inl f)))]) [0, 1] rfl
          have hKc := hK.sub (tys' := [(cJ, .long)]) [0] rfl
          refine vp_callSl (W.runV (As := [.int (nI (y / 64))]) (rest := [.int (nI (y / 64)), .ref q]) ⟨hx, hb, hml, hown, hts⟩ (c_X4_cluster l dC dI q ca cJ f sm (some y) (y / 64) (by omega)) (cwV 1 hts gX4_take_X4_cluster rfl rfl rfl (by decide +kernel) ⟨Nat.le_of_ble_eq_true rfl, Nat.le_of_ble_eq_true rfl⟩) ⟨fun a U g mk q => by obtain ⟨q0, qP, qK⟩ := q; exact ⟨q0, qP, va_K.moved (u := U) (U := U.calling g mk a) (Vm.Alike.refl U.vm) qK⟩, va_recv hKc hPc (ci := 4) (q0 := 0) rfl rfl, fun U hU hW => ⟨rfl, by rw [hU]; exact hPc, va_K.moved hW.alike hKc⟩⟩ rfl rfl hl.1 rfl (lv_room (Nat.le_of_ble_eq_true rfl)) dX4_take_35 ⟨Nat.le_of_ble_eq_true rfl, Nat.le_of_ble_eq_true rfl⟩) (fun r_17 hw_16 => ?_)
          subst hw_16
          refine lv_iload_n hx hb dX4_take_38 rfl (lv_at hl 1 rfl) ?_
          refine lv_bipush (v := nI 64) hx hb dX4_take_39 (by decide +kernel) ?_
          refine lv_irem hx hb dX4_take_41 (by decide +kernel) ?_
          refine lv_cvi (pk_rem (by omega) (by decide) (by decide)) ?_
          have hPc := hP.sub (ws' := []) [] rfl
          have hKc := hK.sub (tys' := []) [] rfl
          refine vp_callSl (W.runS (As := [.int (nI (y % 64))]) (rest := [.long (f (y / 64)), .int (nI (y / 64)), .ref q]) ⟨hx, hb, hml, hown, hts⟩ (c_X6_bit l dC dI (y % 64) (by omega)) (va_cwS 1 hts gX4_take_X6_bit rfl rfl rfl (by decide +kernel) ⟨Nat.le_of_ble_eq_true rfl, Nat.le_of_ble_eq_true rfl⟩) ⟨fun a U g mk q => by obtain ⟨q0, qP, qK⟩ := q; exact ⟨q0, qP, va_K.moved (u := U) (U := U.calling g mk a) (Vm.Alike.refl U.vm) qK⟩, fun U hU hW => ⟨rfl, by rw [hU]; exact hPc, va_K.moved hW.alike hKc⟩⟩ rfl rfl hl.1 rfl (lv_room (Nat.le_of_ble_eq_true rfl)) dX4_take_42 ⟨Nat.le_of_ble_eq_true rfl, Nat.le_of_ble_eq_true rfl⟩) (fun r_19 hw_18 => ?_)
          subst hw_18
          refine lv_ldc2 (v := (-1)) hx hb hown (hts (.constantLong RX4 29 (-1)) (by decide +kernel)) dX4_take_45 ?_
          refine lv_lxor hx hb dX4_take_48 ?_
          refine lv_land hx hb dX4_take_49 ?_
          have hPc := hP.sub (ws' := [(q, .inr (4, [.ref ca, .long sm, .int (nI y)])), (ca, .inl (cJ, 64, .inr (.inl f)))]) [0, 1] rfl
          have hKc := hK.sub (tys' := [(cJ, .long)]) [0] rfl
          have hDc := hD.sub (ws' := [(q, .inr (4, [.ref ca, .long sm, .int (nI y)])), (ca, .inl (cJ, 64, .inr (.inl f)))]) [0, 1] (by decide) rfl
          have hFc := va_free (wc := [(q, .inr (4, [.ref ca, .long sm, .int (nI y)])), (ca, .inl (cJ, 64, .inr (.inl f)))]) hD hS hA [0, 1] rfl
          refine va_callv (va_runV (As := [.int (nI (y / 64)), .long ((f (y / 64)) &&& ((bit1 ((y % 64) % 64)) ^^^ (-1 : Int64)))]) (rest := []) ⟨hx, hb, hml, hown, hts⟩ (c_X4_setCluster l dC dI q ca cJ f sm (some y) (y / 64) ((f (y / 64)) &&& ((bit1 ((y % 64) % 64)) ^^^ (-1 : Int64))) H.size (by omega)) (cwV 2 hts gX4_take_X4_setCluster rfl rfl rfl (by decide +kernel) ⟨Nat.le_of_ble_eq_true rfl, Nat.le_of_ble_eq_true rfl⟩) ⟨fun a U g mk q => by obtain ⟨q0, q1, qP, qK, qD⟩ := q; exact ⟨q0, q1, qP, va_K.moved (u := U) (U := U.calling g mk a) (Vm.Alike.refl U.vm) qK, qD⟩, va_recv hKc hPc (ci := 4) (q0 := 0) rfl rfl, fun U hU hW => ⟨rfl, by rw [hU], by rw [hU]; exact hPc, va_K.moved hW.alike hKc, hDc.weaken (fun _ _ _ _ => trivial)⟩⟩ rfl rfl hl.1 rfl (lv_room (Nat.le_of_ble_eq_true rfl)) dX4_take_50 ⟨Nat.le_of_ble_eq_true rfl, Nat.le_of_ble_eq_true rfl⟩) hS (fun q _ h => hFc q h) hFc (fun u_21 t9 H1 locs ht hvm hw_20 hB hz1 hk1 hS => ?_)
          obtain ⟨f'_23, sm'_24⟩ := u_21
          obtain ⟨hP1, hK1, hD1⟩ := hB
          rw [ht] at hP1
          have hK1 := va_K.moved hvm.symm hK1
          try dsimp only at hw_20 hP1 hK1 hD1
          obtain ⟨hP, hD⟩ := va_join (wr := []) (w1 := [(q, .inr (4, [.ref ca, .long sm'_24, .int (oI (some y))])), (ca, .inl (cJ, 64, .inr (.inl f'_23)))]) hP hD [0, 1] [] rfl rfl (by decide) (by decide) hk1 hFc hP1 hD1
          generalize H1 = H at hP hS ⊢
          have hP : va_P (dC, dI) vwCl [(q, .inr (4, [.ref ca, .long sm'_24, .int (oI (some y))])), (ca, .inl (cJ, 64, .inr (.inl f'_23)))] H := hP
          have hD : va_D A [(q, .inr (4, [.ref ca, .long sm'_24, .int (oI (some y))])), (ca, .inl (cJ, 64, .inr (.inl f'_23)))] := hD
          have hP9 := hP.sub (ws' := [(q, .inr (4, [.ref ca, .long sm'_24, .int (oI (some y))])), (ca, .inl (cJ, 64, .inr (.inl f'_23)))]) [0, 1] rfl
          have hD9 := hD.sub (ws' := [(q, .inr (4, [.ref ca, .long sm'_24, .int (oI (some y))])), (ca, .inl (cJ, 64, .inr (.inl f'_23)))]) [0, 1] (by decide) rfl
          have hK9 := hK.sub (tys' := [(cJ, .long)]) [0] rfl
          exact W.vret hx hb hr (fun t9 ht hW => ⟨⟨⟨f'_23, sm'_24, some y⟩, rfl, (show TR (del M k) f'_23 sm'_24 (some y) from tr_tk2 hT hz (by omega) hy hw_20.1 hw_20.2), by rw [ht]; exact hP9, va_K.moved hW.alike hK9, hD9⟩, hS.F ht⟩) hS.2.2 dX4_take_53
        · exact absurd qc_15 (nI_nem1 (by omega))
