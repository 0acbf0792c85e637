set_option maxHeartbeats 4000000 in
set_option maxRecDepth 100000 in
/-- Bits.word -/
theorem c_X0_word (l : Launch) (dC : Nat → ClassId) (dI : Nat → Nat → Nat) (q : Nat) (a : Nat) (cJ : ClassId) (n : Nat) (f : Nat → Int64) (k : Nat) (hn : n < 2 ^ 24) (hk : k < 2 ^ 31) : Met l yX0_word wsX0_word ({ frames := 0, cells := 0, slots := 0, locals := 0 }) (va_Pc [.ref q, .int (nI k)] (fun U => va_P (dC, dI) vwCl [(q, .inr (0, [.ref a])), (a, .inl (cJ, n, .inr (.inl f)))] U.heap ∧ va_K (dC, dI) vwCl [(cJ, .long)] U)) (vp_Sl (fun r => r = if k < n then f k else 0)) 0 0 (fun _ => False) := by
  refine Met.ofW (cc := cX0_word) (maxL := 2) (ret := (some .long)) (by decide) rfl ?_
  intro p e s m args below meth c s₁ B hml hv
  obtain ⟨rfl, hP, hK⟩ := hv
  have hx := B.exec
  have hb := B.bytes
  have hr := B.returns
  have hts := atoms_spec (ws := wsX0_word) B.pre
  have hown : s.vm.findClass RX0 = some m.cls := findClass_of_methodNamed B.named
  have hlocks := B.notSynchronized
  have hP : va_P (dC, dI) vwCl [(q, .inr (0, [.ref a])), (a, .inl (cJ, n, .inr (.inl f)))] s.heap := hP
  have hl := lv_entry ([.ref q, .int (nI k)]) (n := 2) (Nat.le_of_ble_eq_true rfl)
  rw [lg_entry_eq]
  generalize (lg_sl ([.ref q, .int (nI k)]) ++ List.replicate (2 - (lg_sl ([.ref q, .int (nI k)])).length) Slot.unset).toArray = ls at hl ⊢
  have hl : lv_has ls 2 [(0, .ref q), (1, .int (nI k))] := hl
  refine lv_iload_n hx hb dX0_word_0 rfl (lv_at hl 1 rfl) ?_
  refine lv_if_lt (tgt := 13) hx hb dX0_word_1 (by decide) (fun qc_1 => ?_) (fun qc_1 => ?_)
  · have c_1 : k < 0 := (nI_ltI (a := k) (b := 0) (by omega) (by omega)).mp qc_1
    exact absurd c_1 (Nat.not_lt_zero _)
  · have c_1 : ¬ k < 0 := fun h9 => qc_1 ((nI_ltI (a := k) (b := 0) (by omega) (by omega)).mpr h9)
    refine lv_iload_n hx hb dX0_word_4 rfl (lv_at hl 1 rfl) ?_
    refine lv_aload_n hx hb dX0_word_5 rfl (lv_at hl 0 rfl) ?_
    refine va_get (D := (dC, dI)) (ci := 0) (v := .ref a) (C := RX0) (T := TX0) (N := 1) hx hb hts (by decide +kernel) hown hK hP 0 rfl rfl 0 (by decide) (hts (.fieldLink RX0 15 "SmallNumberSets$Bits" "words" "[J") (by decide +kernel)) (fun _ h9 => h9) rfl dX0_word_6 ?_
    refine va_alen hx hb hK hP 1 0 rfl rfl (v := nI n) rfl dX0_word_9 ?_
    refine lv_icmp_lt (tgt := 17) hx hb dX0_word_10 (by decide) (fun qc_2 => ?_) (fun qc_2 => ?_)
    · have c_2 : k < n := (nI_ltI (a := k) (b := n) (by omega) (by omega)).mp qc_2
      refine lv_aload_n hx hb dX0_word_17 rfl (lv_at hl 0 rfl) ?_
      refine va_get (D := (dC, dI)) (ci := 0) (v := .ref a) (C := RX0) (T := TX0) (N := 1) hx hb hts (by decide +kernel) hown hK hP 0 rfl rfl 0 (by decide) (hts (.fieldLink RX0 15 "SmallNumberSets$Bits" "words" "[J") (by decide +kernel)) (fun _ h9 => h9) rfl dX0_word_18 ?_
      refine lv_iload_n hx hb dX0_word_21 rfl (lv_at hl 1 rfl) ?_
      refine va_lald hx hb hK hP 1 0 rfl rfl (vp_in_nI (by omega) (by omega)) dX0_word_22 ?_
      refine lv_cvl (congrArg f (nI_clamp (by omega))) ?_
      exact W.lret (v := f k) hx hb hr (fun t9 ht hW => ⟨f k, rfl, (if_pos c_2).symm, ht⟩) (fun q h => by cases h) dX0_word_23
    · have c_2 : ¬ k < n := fun h9 => qc_2 ((nI_ltI (a := k) (b := n) (by omega) (by omega)).mpr h9)
      refine lv_lconst (v := 0) hx hb dX0_word_13 (by decide +kernel) ?_
      refine lv_goto (tgt := 23) hx hb dX0_word_14 (by decide) ?_
      exact W.lret (v := (0 : Int64)) hx hb hr (fun t9 ht hW => ⟨(0 : Int64), rfl, (if_neg c_2).symm, ht⟩) (fun q h => by cases h) dX0_word_23
set_option maxHeartbeats 4000000 in
set_option maxRecDepth 100000 in
/-- Bits.has -/
theorem c_X0_has (l : Launch) (dC : Nat → ClassId) (dI : Nat → Nat → Nat) (q : Nat) (a : Nat) (cJ : ClassId) (n : Nat) (f : Nat → Int64) (k : Nat) (hn : n < 2 ^ 24) (hk : k < 64 * n) : Met l yX0_has wsX0_has ({ frames := 1, cells := 0, slots := 0, locals := 21 }) (va_Pc [.ref q, .int (nI k)] (fun U => va_P (dC, dI) vwCl [(q, .inr (0, [.ref a])), (a, .inl (cJ, n, .inr (.inl f)))] U.heap ∧ va_K (dC, dI) vwCl [(cJ, .long)] U)) (vp_Si (fun r => r = b2i (bo f k))) 0 0 (fun _ => False) := by
  refine Met.ofW (cc := cX0_has) (maxL := 2) (ret := (some .boolean)) (by decide) rfl ?_
  intro p e s m args below meth c s₁ B hml hv
  obtain ⟨rfl, hP, hK⟩ := hv
  have hx := B.exec
  have hb := B.bytes
  have hr := B.returns
  have hts := atoms_spec (ws := wsX0_has) B.pre
  have hown : s.vm.findClass RX0 = some m.cls := findClass_of_methodNamed B.named
  have hlocks := B.notSynchronized
  have hP : va_P (dC, dI) vwCl [(q, .inr (0, [.ref a])), (a, .inl (cJ, n, .inr (.inl f)))] s.heap := hP
  have hl := lv_entry ([.ref q, .int (nI k)]) (n := 2) (Nat.le_of_ble_eq_true rfl)
  rw [lg_entry_eq]
  generalize (lg_sl ([.ref q, .int (nI k)]) ++ List.replicate (2 - (lg_sl ([.ref q, .int (nI k)])).length) Slot.unset).toArray = ls at hl ⊢
  have hl : lv_has ls 2 [(0, .ref q), (1, .int (nI k))] := hl
  refine lv_aload_n hx hb dX0_has_0 rfl (lv_at hl 0 rfl) ?_
  refine lv_iload_n hx hb dX0_has_1 rfl (lv_at hl 1 rfl) ?_
  refine lv_bipush (v := nI 6) hx hb dX0_has_2 (by decide +kernel) ?_
  refine lv_ishr hx hb dX0_has_4 ?_
  refine lv_cvi (pk_shrN (by omega) _ 6 (by decide +kernel)) ?_
  have hPc := hP.sub (ws' := [(q, .inr (0, [.ref a])), (a, .inl (cJ, n, .inr (.inl f)))]) [0, 1] rfl
  have hKc := hK.sub (tys' := [(cJ, .long)]) [0] rfl
  refine vp_callSl (W.runV (As := [.int (nI (k / 64))]) (rest := []) ⟨hx, hb, hml, hown, hts⟩ (c_X0_word l dC dI q a cJ n f (k / 64) (by omega) (by omega)) (cwV 1 hts gX0_has_X0_word rfl rfl rfl (by decide +kernel) ⟨Nat.le_of_ble_eq_true rfl, Nat.le_of_ble_eq_true rfl⟩) ⟨fun a U g mk q => by obtain ⟨q0, qP, qK⟩ := q; exact ⟨q0, qP, va_K.moved (u := U) (U := U.calling g mk a) (Vm.Alike.refl U.vm) qK⟩, va_recv hKc hPc (ci := 0) (q0 := 0) rfl rfl, fun U hU hW => ⟨rfl, by rw [hU]; exact hPc, va_K.moved hW.alike hKc⟩⟩ rfl rfl hl.1 rfl (lv_room (Nat.le_of_ble_eq_true rfl)) dX0_has_5 ⟨Nat.le_of_ble_eq_true rfl, Nat.le_of_ble_eq_true rfl⟩) (fun r_2 hw_1 => ?_)
  subst hw_1
  refine lv_cvl (if_pos (by omega)) ?_
  refine lv_iload_n hx hb dX0_has_8 rfl (lv_at hl 1 rfl) ?_
  have hPc := hP.sub (ws' := []) [] rfl
  have hKc := hK.sub (tys' := []) [] rfl
  refine vp_callSl (W.runS (As := [.int (nI k)]) (rest := [.long (f (k / 64))]) ⟨hx, hb, hml, hown, hts⟩ (c_X6_bit l dC dI k (by omega)) (va_cwS 1 hts gX0_has_X6_bit rfl rfl rfl (by decide +kernel) ⟨Nat.le_of_ble_eq_true rfl, Nat.le_of_ble_eq_true rfl⟩) ⟨fun a U g mk q => by obtain ⟨q0, qP, qK⟩ := q; exact ⟨q0, qP, va_K.moved (u := U) (U := U.calling g mk a) (Vm.Alike.refl U.vm) qK⟩, fun U hU hW => ⟨rfl, by rw [hU]; exact hPc, va_K.moved hW.alike hKc⟩⟩ rfl rfl hl.1 rfl (lv_room (Nat.le_of_ble_eq_true rfl)) dX0_has_9 ⟨Nat.le_of_ble_eq_true rfl, Nat.le_of_ble_eq_true rfl⟩) (fun r_4 hw_3 => ?_)
  subst hw_3
  refine lv_land hx hb dX0_has_12 ?_
  refine lv_lconst (v := 0) hx hb dX0_has_13 (by decide +kernel) ?_
  refine W.lcmp hx hb dX0_has_14 ?_
  refine lv_if_eq (tgt := 22) hx hb dX0_has_15 (by decide) (fun qc_5 => ?_) (fun qc_5 => ?_)
  · have c_5 : (f (k / 64)) &&& (bit1 (k % 64)) = (0 : Int64) := (lg_cmp_eq _ _).mp qc_5
    refine lv_iconst (v := nI 0) hx hb dX0_has_22 (by decide +kernel) ?_
    exact W.zret (v := nI 0) hx hb hr (by first | exact narrow_b1 | exact narrow_b0) (fun t9 ht hW => ⟨nI 0, rfl, bo_f c_5, ht⟩) (fun q h => by cases h) dX0_has_23
  · have c_5 : ¬ ((f (k / 64)) &&& (bit1 (k % 64)) = (0 : Int64)) := fun h9 => qc_5 ((lg_cmp_eq _ _).mpr h9)
    refine lv_iconst (v := nI 1) hx hb dX0_has_18 (by decide +kernel) ?_
    refine lv_goto (tgt := 23) hx hb dX0_has_19 (by decide) ?_
    exact W.zret (v := nI 1) hx hb hr (by first | exact narrow_b1 | exact narrow_b0) (fun t9 ht hW => ⟨nI 1, rfl, bo_t c_5, ht⟩) (fun q h => by cases h) dX0_has_23
set_option maxHeartbeats 4000000 in
set_option maxRecDepth 100000 in
/-- Bits.put -/
theorem c_X0_put (l : Launch) (dC : Nat → ClassId) (dI : Nat → Nat → Nat) (q : Nat) (a : Nat) (cJ : ClassId) (n : Nat) (f : Nat → Int64) (k : Nat) (sz : Nat) (hn : n < 2 ^ 24) (hk : k < 64 * n) : Met l yX0_put wsX0_put ({ frames := 1, cells := 0, slots := 0, locals := 20 }) (va_Pc [.ref q, .int (nI k)] (fun U => U.heap.size = sz ∧ va_P (dC, dI) vwCl [(q, .inr (0, [.ref a])), (a, .inl (cJ, n, .inr (.inl f)))] U.heap ∧ va_K (dC, dI) vwCl [(cJ, .long)] U ∧ va_D (fun _ => True) [(q, .inr (0, [.ref a])), (a, .inl (cJ, n, .inr (.inl f)))])) (va_Qv (fun (u : (Nat → Int64)) => ∀ x, bo u x = (decide (x = k) || bo f x)) (fun (u : (Nat → Int64)) (t : State) => va_P (dC, dI) vwCl [(q, .inr (0, [.ref a])), (a, .inl (cJ, n, .inr (.inl u)))] t.heap ∧ va_K (dC, dI) vwCl [(cJ, .long)] t ∧ va_D (va_A [(q, .inr (0, [.ref a])), (a, .inl (cJ, n, .inr (.inl f)))] sz) [(q, .inr (0, [.ref a])), (a, .inl (cJ, n, .inr (.inl u)))]) (va_A [(q, .inr (0, [.ref a])), (a, .inl (cJ, n, .inr (.inl f)))] sz)) 0 0 (va_A [(q, .inr (0, [.ref a])), (a, .inl (cJ, n, .inr (.inl f)))] sz) := by
  refine Met.ofW (cc := cX0_put) (maxL := 3) (ret := none) (by decide) rfl ?_
  intro p e s m args below meth c s₁ B hml hv
  obtain ⟨rfl, hsz, hP, hK, hD0⟩ := hv
  have hx := B.exec
  have hb := B.bytes
  have hr := B.returns
  have hts := atoms_spec (ws := wsX0_put) B.pre
  have hown : s.vm.findClass RX0 = some m.cls := findClass_of_methodNamed B.named
  have hlocks := B.notSynchronized
  subst hsz
  have hD := hD0.self (sz := s.heap.size)
  generalize hAe : va_A [(q, .inr (0, [.ref a])), (a, .inl (cJ, n, .inr (.inl f)))] s.heap.size = A at hD ⊢
  have hA : ∀ q : Nat, s.heap.size ≤ q → A q := fun q h => by rw [← hAe]; exact Or.inr h
  have hS : va_S A s.heap s.heap [] := va_S.rf
  have hP : va_P (dC, dI) vwCl [(q, .inr (0, [.ref a])), (a, .inl (cJ, n, .inr (.inl f)))] s.heap := hP
  have hl := lv_entry ([.ref q, .int (nI k)]) (n := 3) (Nat.le_of_ble_eq_true rfl)
  rw [lg_entry_eq]
  generalize (lg_sl ([.ref q, .int (nI k)]) ++ List.replicate (3 - (lg_sl ([.ref q, .int (nI k)])).length) Slot.unset).toArray = ls at hl ⊢
  have hl : lv_has ls 3 [(0, .ref q), (1, .int (nI k))] := hl
  refine lv_iload_n hx hb dX0_put_0 rfl (lv_at hl 1 rfl) ?_
  refine lv_bipush (v := nI 6) hx hb dX0_put_1 (by decide +kernel) ?_
  refine lv_ishr hx hb dX0_put_3 ?_
  refine lv_cvi (pk_shrN (by omega) _ 6 (by decide +kernel)) ?_
  refine lv_istore_n (lv' := [(2, .int (nI (k / 64))), (0, .ref q), (1, .int (nI k))]) hx hb dX0_put_4 rfl hl (by decide) rfl (fun ls hl => ?_)
  refine lv_iload_n hx hb dX0_put_5 rfl (lv_at hl 0 rfl) ?_
  refine lv_if_lt (tgt := 31) hx hb dX0_put_6 (by decide) (fun qc_1 => ?_) (fun qc_1 => ?_)
  · have c_1 : (k / 64) < 0 := (nI_ltI (a := k / 64) (b := 0) (by omega) (by omega)).mp qc_1
    exact absurd c_1 (Nat.not_lt_zero _)
  · have c_1 : ¬ (k / 64) < 0 := fun h9 => qc_1 ((nI_ltI (a := k / 64) (b := 0) (by omega) (by omega)).mpr h9)
    refine lv_iload_n hx hb dX0_put_9 rfl (lv_at hl 0 rfl) ?_
    refine lv_aload_n hx hb dX0_put_10 rfl (lv_at hl 1 rfl) ?_
    refine va_get (D := (dC, dI)) (ci := 0) (v := .ref a) (C := RX0) (T := TX0) (N := 1) hx hb hts (by decide +kernel) hown hK hP 0 rfl rfl 0 (by decide) (hts (.fieldLink RX0 15 "SmallNumberSets$Bits" "words" "[J") (by decide +kernel)) (fun _ h9 => h9) rfl dX0_put_11 ?_
    refine va_alen hx hb hK hP 1 0 rfl rfl (v := nI n) rfl dX0_put_14 ?_
    refine lv_icmp_ge (tgt := 31) hx hb dX0_put_15 (by decide) (fun qc_2 => ?_) (fun qc_2 => ?_)
    · have c_2 : n ≤ (k / 64) := (nI_leI (a := n) (b := k / 64) (by omega) (by omega)).mp qc_2
      exact absurd c_2 (by omega)
    · have c_2 : ¬ n ≤ (k / 64) := fun h9 => qc_2 ((nI_leI (a := n) (b := k / 64) (by omega) (by omega)).mpr h9)
      refine lv_aload_n hx hb dX0_put_18 rfl (lv_at hl 1 rfl) ?_
      refine va_get (D := (dC, dI)) (ci := 0) (v := .ref a) (C := RX0) (T := TX0) (N := 1) hx hb hts (by decide +kernel) hown hK hP 0 rfl rfl 0 (by decide) (hts (.fieldLink RX0 15 "SmallNumberSets$Bits" "words" "[J") (by decide +kernel)) (fun _ h9 => h9) rfl dX0_put_19 ?_
      refine lv_iload_n hx hb dX0_put_22 rfl (lv_at hl 0 rfl) ?_
      refine lv_dup2_11 hx hb dX0_put_23 rfl rfl ?_
      refine va_lald hx hb hK hP 1 0 rfl rfl (vp_in_nI (by omega) (by omega)) dX0_put_24 ?_
      refine lv_cvl (congrArg f (nI_clamp (by omega))) ?_
      refine lv_iload_n hx hb dX0_put_25 rfl (lv_at hl 2 rfl) ?_
      have hPc := hP.sub (ws' := []) [] rfl
      have hKc := hK.sub (tys' := []) [] rfl
      refine vp_callSl (W.runS (As := [.int (nI k)]) (rest := [.long (f (k / 64)), .int (nI (k / 64)), .ref a]) ⟨hx, hb, hml, hown, hts⟩ (c_X6_bit l dC dI k (by omega)) (va_cwS 1 hts gX0_put_X6_bit rfl rfl rfl (by decide +kernel) ⟨Nat.le_of_ble_eq_true rfl, Nat.le_of_ble_eq_true rfl⟩) ⟨fun a U g mk q => by obtain ⟨q0, qP, qK⟩ := q; exact ⟨q0, qP, va_K.moved (u := U) (U := U.calling g mk a) (Vm.Alike.refl U.vm) qK⟩, fun U hU hW => ⟨rfl, by rw [hU]; exact hPc, va_K.moved hW.alike hKc⟩⟩ rfl rfl hl.1 rfl (lv_room (Nat.le_of_ble_eq_true rfl)) dX0_put_26 ⟨Nat.le_of_ble_eq_true rfl, Nat.le_of_ble_eq_true rfl⟩) (fun r_4 hw_3 => ?_)
      subst hw_3
      refine lv_lor hx hb dX0_put_29 ?_
      refine va_last hx hb hK hP hD hS 1 0 rfl rfl (vp_in_nI (by omega) (by omega)) dX0_put_30 (fun H locs hP hD hS => ?_)
      rw [nI_clamp (n := k / 64) (by omega)] at hP hD
      have hP : va_P (dC, dI) vwCl [(q, .inr (0, [.ref a])), (a, .inl (cJ, n, .inr (.inl (vp_updL f (k / 64) ((f (k / 64)) ||| (bit1 (k % 64)))))))] H := hP
      have hD : va_D A [(q, .inr (0, [.ref a])), (a, .inl (cJ, n, .inr (.inl (vp_updL f (k / 64) ((f (k / 64)) ||| (bit1 (k % 64)))))))] := hD
      have hP9 := hP.sub (ws' := [(q, .inr (0, [.ref a])), (a, .inl (cJ, n, .inr (.inl (vp_updL f (k / 64) ((f (k / 64)) ||| (bit1 (k % 64)))))))]) [0, 1] rfl
      have hD9 := hD.sub (ws' := [(q, .inr (0, [.ref a])), (a, .inl (cJ, n, .inr (.inl (vp_updL f (k / 64) ((f (k / 64)) ||| (bit1 (k % 64)))))))]) [0, 1] (by decide) rfl
      have hK9 := hK.sub (tys' := [(cJ, .long)]) [0] rfl
      exact W.vret hx hb hr (fun t9 ht hW => ⟨⟨vp_updL f (k / 64) (f (k / 64) ||| bit1 (k % 64)), rfl, bo_put f k, by rw [ht]; exact hP9, va_K.moved hW.alike hK9, hD9⟩, hS.F ht⟩) hS.2.2 dX0_put_31
set_option maxHeartbeats 4000000 in
set_option maxRecDepth 100000 in
/-- Bits.take -/
theorem c_X0_take (l : Launch) (dC : Nat → ClassId) (dI : Nat → Nat → Nat) (q : Nat) (a : Nat) (cJ : ClassId) (n : Nat) (f : Nat → Int64) (k : Nat) (sz : Nat) (hn : n < 2 ^ 24) (hk : k < 64 * n) : Met l yX0_take wsX0_take ({ frames := 1, cells := 0, slots := 0, locals := 20 }) (va_Pc [.ref q, .int (nI k)] (fun U => U.heap.size = sz ∧ va_P (dC, dI) vwCl [(q, .inr (0, [.ref a])), (a, .inl (cJ, n, .inr (.inl f)))] U.heap ∧ va_K (dC, dI) vwCl [(cJ, .long)] U ∧ va_D (fun _ => True) [(q, .inr (0, [.ref a])), (a, .inl (cJ, n, .inr (.inl f)))])) (va_Qv (fun (u : (Nat → Int64)) => ∀ x, bo u x = (decide (x ≠ k) && bo f x)) (fun (u : (Nat → Int64)) (t : State) => va_P (dC, dI) vwCl [(q, .inr (0, [.ref a])), (a, .inl (cJ, n, .inr (.inl u)))] t.heap ∧ va_K (dC, dI) vwCl [(cJ, .long)] t ∧ va_D (va_A [(q, .inr (0, [.ref a])), (a, .inl (cJ, n, .inr (.inl f)))] sz) [(q, .inr (0, [.ref a])), (a, .inl (cJ, n, .inr (.inl u)))]) (va_A [(q, .inr (0, [.ref a])), (a, .inl (cJ, n, .inr (.inl f)))] sz)) 0 0 (va_A [(q, .inr (0, [.ref a])), (a, .inl (cJ, n, .inr (.inl f)))] sz) := by
  refine Met.ofW (cc := cX0_take) (maxL := 3) (ret := none) (by decide) rfl ?_
  intro p e s m args below meth c s₁ B hml hv
  obtain ⟨rfl, hsz, hP, hK, hD0⟩ := hv
  have hx := B.exec
  have hb := B.bytes
  have hr := B.returns
  have hts := atoms_spec (ws := wsX0_take) B.pre
  have hown : s.vm.findClass RX0 = some m.cls := findClass_of_methodNamed B.named
  have hlocks := B.notSynchronized
  subst hsz
  have hD := hD0.self (sz := s.heap.size)
  generalize hAe : va_A [(q, .inr (0, [.ref a])), (a, .inl (cJ, n, .inr (.inl f)))] s.heap.size = A at hD ⊢
  have hA : ∀ q : Nat, s.heap.size ≤ q → A q := fun q h => by rw [← hAe]; exact Or.inr h
  have hS : va_S A s.heap s.heap [] := va_S.rf
  have hP : va_P (dC, dI) vwCl [(q, .inr (0, [.ref a])), (a, .inl (cJ, n, .inr (.inl f)))] s.heap := hP
  have hl := lv_entry ([.ref q, .int (nI k)]) (n := 3) (Nat.le_of_ble_eq_true rfl)
  rw [lg_entry_eq]
  generalize (lg_sl ([.ref q, .int (nI k)]) ++ List.replicate (3 - (lg_sl ([.ref q, .int (nI k)])).length) Slot.unset).toArray = ls at hl ⊢
  have hl : lv_has ls 3 [(0, .ref q), (1, .int (nI k))] := hl
  refine lv_iload_n hx hb dX0_take_0 rfl (lv_at hl 1 rfl) ?_
  refine lv_bipush (v := nI 6) hx hb dX0_take_1 (by decide +kernel) ?_
  refine lv_ishr hx hb dX0_take_3 ?_
  refine lv_cvi (pk_shrN (by omega) _ 6 (by decide +kernel)) ?_
  refine lv_istore_n (lv' := [(2, .int (nI (k / 64))), (0, .ref q), (1, .int (nI k))]) hx hb dX0_take_4 rfl hl (by decide) rfl (fun ls hl => ?_)
  refine lv_iload_n hx hb dX0_take_5 rfl (lv_at hl 0 rfl) ?_
  refine lv_if_lt (tgt := 35) hx hb dX0_take_6 (by decide) (fun qc_1 => ?_) (fun qc_1 => ?_)
  · have c_1 : (k / 64) < 0 := (nI_ltI (a := k / 64) (b := 0) (by omega) (by omega)).mp qc_1
    exact absurd c_1 (Nat.not_lt_zero _)
  · have c_1 : ¬ (k / 64) < 0 := fun h9 => qc_1 ((nI_ltI (a := k / 64) (b := 0) (by omega) (by omega)).mpr h9)
    refine lv_iload_n hx hb dX0_take_9 rfl (lv_at hl 0 rfl) ?_
    refine lv_aload_n hx hb dX0_take_10 rfl (lv_at hl 1 rfl) ?_
    refine va_get (D := (dC, dI)) (ci := 0) (v := .ref a) (C := RX0) (T := TX0) (N := 1) hx hb hts (by decide +kernel) hown hK hP 0 rfl rfl 0 (by decide) (hts (.fieldLink RX0 15 "SmallNumberSets$Bits" "words" "[J") (by decide +kernel)) (fun _ h9 => h9) rfl dX0_take_11 ?_
    refine va_alen hx hb hK hP 1 0 rfl rfl (v := nI n) rfl dX0_take_14 ?_
    refine lv_icmp_ge (tgt := 35) hx hb dX0_take_15 (by decide) (fun qc_2 => ?_) (fun qc_2 => ?_)
    · have c_2 : n ≤ (k / 64) := (nI_leI (a := n) (b := k / 64) (by omega) (by omega)).mp qc_2
      exact absurd c_2 (by omega)
    · have c_2 : ¬ n ≤ (k / 64) := fun h9 => qc_2 ((nI_leI (a := n) (b := k / 64) (by omega) (by omega)).mpr h9)
      refine lv_aload_n hx hb dX0_take_18 rfl (lv_at hl 1 rfl) ?_
      refine va_get (D := (dC, dI)) (ci := 0) (v := .ref a) (C := RX0) (T := TX0) (N := 1) hx hb hts (by decide +kernel) hown hK hP 0 rfl rfl 0 (by decide) (hts (.fieldLink RX0 15 "SmallNumberSets$Bits" "words" "[J") (by decide +kernel)) (fun _ h9 => h9) rfl dX0_take_19 ?_
      refine lv_iload_n hx hb dX0_take_22 rfl (lv_at hl 0 rfl) ?_
      refine lv_dup2_11 hx hb dX0_take_23 rfl rfl ?_
      refine va_lald hx hb hK hP 1 0 rfl rfl (vp_in_nI (by omega) (by omega)) dX0_take_24 ?_
      refine lv_cvl (congrArg f (nI_clamp (by omega))) ?_
      refine lv_iload_n hx hb dX0_take_25 rfl (lv_at hl 2 rfl) ?_
      have hPc := hP.sub (ws' := []) [] rfl
      have hKc := hK.sub (tys' := []) [] rfl
      refine vp_callSl (W.runS (As := [.int (nI k)]) (rest := [.long (f (k / 64)), .int (nI (k / 64)), .ref a]) ⟨hx, hb, hml, hown, hts⟩ (c_X6_bit l dC dI k (by omega)) (va_cwS 1 hts gX0_take_X6_bit rfl rfl rfl (by decide +kernel) ⟨Nat.le_of_ble_eq_true rfl, Nat.le_of_ble_eq_true rfl⟩) ⟨fun a U g mk q => by obtain ⟨q0, qP, qK⟩ := q; exact ⟨q0, qP, va_K.moved (u := U) (U := U.calling g mk a) (Vm.Alike.refl U.vm) qK⟩, fun U hU hW => ⟨rfl, by rw [hU]; exact hPc, va_K.moved hW.alike hKc⟩⟩ rfl rfl hl.1 rfl (lv_room (Nat.le_of_ble_eq_true rfl)) dX0_take_26 ⟨Nat.le_of_ble_eq_true rfl, Nat.le_of_ble_eq_true rfl⟩) (fun r_4 hw_3 => ?_)
      subst hw_3
      refine lv_ldc2 (v := (-1)) hx hb hown (hts (.constantLong RX0 30 (-1)) (by decide +kernel)) dX0_take_29 ?_
      refine lv_lxor hx hb dX0_take_32 ?_
      refine lv_land hx hb dX0_take_33 ?_
      refine va_last hx hb hK hP hD hS 1 0 rfl rfl (vp_in_nI (by omega) (by omega)) dX0_take_34 (fun H locs hP hD hS => ?_)
      rw [nI_clamp (n := k / 64) (by omega)] at hP hD
      have hP : va_P (dC, dI) vwCl [(q, .inr (0, [.ref a])), (a, .inl (cJ, n, .inr (.inl (vp_updL f (k / 64) ((f (k / 64)) &&& ((bit1 (k % 64)) ^^^ (-1 : Int64)))))))] H := hP
      have hD : va_D A [(q, .inr (0, [.ref a])), (a, .inl (cJ, n, .inr (.inl (vp_updL f (k / 64) ((f (k / 64)) &&& ((bit1 (k % 64)) ^^^ (-1 : Int64)))))))] := hD
      have hP9 := hP.sub (ws' := [(q, .inr (0, [.ref a])), (a, .inl (cJ, n, .inr (.inl (vp_updL f (k / 64) ((f (k / 64)) &&& ((bit1 (k % 64)) ^^^ (-1 : Int64)))))))]) [0, 1] rfl
      have hD9 := hD.sub (ws' := [(q, .inr (0, [.ref a])), (a, .inl (cJ, n, .inr (.inl (vp_updL f (k / 64) ((f (k / 64)) &&& ((bit1 (k % 64)) ^^^ (-1 : Int64)))))))]) [0, 1] (by decide) rfl
      have hK9 := hK.sub (tys' := [(cJ, .long)]) [0] rfl
      exact W.vret hx hb hr (fun t9 ht hW => ⟨⟨vp_updL f (k / 64) (f (k / 64) &&& (bit1 (k % 64) ^^^ (-1 : Int64))), rfl, bo_take f k, by rw [ht]; exact hP9, va_K.moved hW.alike hK9, hD9⟩, hS.F ht⟩) hS.2.2 dX0_take_35
set_option maxHeartbeats 4000000 in
set_option maxRecDepth 100000 in
/-- Bits.countBelow -/
theorem c_X0_countBelow (l : Launch) (dC : Nat → ClassId) (dI : Nat → Nat → Nat) (q : Nat) (a : Nat) (cJ : ClassId) (n : Nat) (f : Nat → Int64) (k : Nat) (hn : n < 2 ^ 24) (hk : k ≤ 64 * n) : Met l yX0_countBelow wsX0_countBelow ({ frames := 1, cells := 0, slots := 0, locals := 21 }) (va_Pc [.ref q, .int (nI k)] (fun U => va_P (dC, dI) vwCl [(q, .inr (0, [.ref a])), (a, .inl (cJ, n, .inr (.inl f)))] U.heap ∧ va_K (dC, dI) vwCl [(cJ, .long)] U)) (vp_Si (fun r => r = nI (fb_ct (bo f) k))) 0 0 (fun _ => False) := by
  refine Met.ofW (cc := cX0_countBelow) (maxL := 5) (ret := (some .int)) (by decide) rfl ?_
  intro p e s m args below meth c s₁ B hml hv
  obtain ⟨rfl, hP, hK⟩ := hv
  have hx := B.exec
  have hb := B.bytes
  have hr := B.returns
  have hts := atoms_spec (ws := wsX0_countBelow) B.pre
  have hown : s.vm.findClass RX0 = some m.cls := findClass_of_methodNamed B.named
  have hlocks := B.notSynchronized
  have hP : va_P (dC, dI) vwCl [(q, .inr (0, [.ref a])), (a, .inl (cJ, n, .inr (.inl f)))] s.heap := hP
  have hl := lv_entry ([.ref q, .int (nI k)]) (n := 5) (Nat.le_of_ble_eq_true rfl)
  rw [lg_entry_eq]
  generalize (lg_sl ([.ref q, .int (nI k)]) ++ List.replicate (5 - (lg_sl ([.ref q, .int (nI k)])).length) Slot.unset).toArray = ls at hl ⊢
  have hl : lv_has ls 5 [(0, .ref q), (1, .int (nI k))] := hl
  refine lv_iload_n hx hb dX0_countBelow_0 rfl (lv_at hl 1 rfl) ?_
  refine lv_bipush (v := nI 6) hx hb dX0_countBelow_1 (by decide +kernel) ?_
  refine lv_ishr hx hb dX0_countBelow_3 ?_
  refine lv_cvi (pk_shrN (by omega) _ 6 (by decide +kernel)) ?_
  refine lv_aload_n hx hb dX0_countBelow_4 rfl (lv_at hl 0 rfl) ?_
  refine va_get (D := (dC, dI)) (ci := 0) (v := .ref a) (C := RX0) (T := TX0) (N := 1) hx hb hts (by decide +kernel) hown hK hP 0 rfl rfl 0 (by decide) (hts (.fieldLink RX0 15 "SmallNumberSets$Bits" "words" "[J") (by decide +kernel)) (fun _ h9 => h9) rfl dX0_countBelow_5 ?_
  refine va_alen hx hb hK hP 1 0 rfl rfl (v := nI n) rfl dX0_countBelow_8 ?_
  refine va_mmin hx hb (by rw [hml]; exact hl.1.symm) hown (hts (.methodLink RX0 38 Lib.Math.min.name) (by decide +kernel)) (hts (.static Lib.Math.min.name) (by decide +kernel)) (hts (.initialized "java/lang/Math") (by decide +kernel)) (hts (.code Lib.Math.min.name Lib.Math.min.code 2 (some .int)) (by decide +kernel)) (Nat.le_of_ble_eq_true rfl) (Nat.le_of_ble_eq_true rfl) (Nat.le_of_ble_eq_true rfl) (Nat.le_of_ble_eq_true rfl) dX0_countBelow_9 ?_
  refine lv_cvi (mn_N (by omega) (by omega)) ?_
  refine lv_istore_n (lv' := [(2, .int (nI (min (k / 64) n))), (0, .ref q), (1, .int (nI k))]) hx hb dX0_countBelow_12 rfl hl (by decide) rfl (fun ls hl => ?_)
  refine lv_aload_n hx hb dX0_countBelow_13 rfl (lv_at hl 1 rfl) ?_
  refine lv_iload_n hx hb dX0_countBelow_14 rfl (lv_at hl 0 rfl) ?_
  have hPc := hP.sub (ws' := [(q, .inr (0, [.ref a])), (a, .inl (cJ, n, .inr (.inl f)))]) [0, 1] rfl
  have hKc := hK.sub (tys' := [(cJ, .long)]) [0] rfl
  refine vp_callSl (W.runV (As := [.int (nI (min (k / 64) n))]) (rest := []) ⟨hx, hb, hml, hown, hts⟩ (c_X0_word l dC dI q a cJ n f (min (k / 64) n) (by omega) (by omega)) (cwV 1 hts gX0_countBelow_X0_word rfl rfl rfl (by decide +kernel) ⟨Nat.le_of_ble_eq_true rfl, Nat.le_of_ble_eq_true rfl⟩) ⟨fun a U g mk q => by obtain ⟨q0, qP, qK⟩ := q; exact ⟨q0, qP, va_K.moved (u := U) (U := U.calling g mk a) (Vm.Alike.refl U.vm) qK⟩, va_recv hKc hPc (ci := 0) (q0 := 0) rfl rfl, fun U hU hW => ⟨rfl, by rw [hU]; exact hPc, va_K.moved hW.alike hKc⟩⟩ rfl rfl hl.1 rfl (lv_room (Nat.le_of_ble_eq_true rfl)) dX0_countBelow_15 ⟨Nat.le_of_ble_eq_true rfl, Nat.le_of_ble_eq_true rfl⟩) (fun r_2 hw_1 => ?_)
  subst hw_1
  refine lv_iload_n hx hb dX0_countBelow_18 rfl (lv_at hl 2 rfl) ?_
  have hPc := hP.sub (ws' := []) [] rfl
  have hKc := hK.sub (tys' := []) [] rfl
  refine vp_callSl (W.runS (As := [.int (nI k)]) (rest := [.long (if (min (k / 64) n) < n then f (min (k / 64) n) else 0)]) ⟨hx, hb, hml, hown, hts⟩ (c_X6_bit l dC dI k (by omega)) (va_cwS 1 hts gX0_countBelow_X6_bit rfl rfl rfl (by decide +kernel) ⟨Nat.le_of_ble_eq_true rfl, Nat.le_of_ble_eq_true rfl⟩) ⟨fun a U g mk q => by obtain ⟨q0, qP, qK⟩ := q; exact ⟨q0, qP, va_K.moved (u := U) (U := U.calling g mk a) (Vm.Alike.refl U.vm) qK⟩, fun U hU hW => ⟨rfl, by rw [hU]; exact hPc, va_K.moved hW.alike hKc⟩⟩ rfl rfl hl.1 rfl (lv_room (Nat.le_of_ble_eq_true rfl)) dX0_countBelow_19 ⟨Nat.le_of_ble_eq_true rfl, Nat.le_of_ble_eq_true rfl⟩) (fun r_4 hw_3 => ?_)
  subst hw_3
  refine lv_lconst (v := 1) hx hb dX0_countBelow_22 (by decide +kernel) ?_
  refine lv_lsub hx hb dX0_countBelow_23 ?_
  refine lv_land hx hb dX0_countBelow_24 ?_
  have hPc := hP.sub (ws' := []) [] rfl
  have hKc := hK.sub (tys' := []) [] rfl
  refine vp_callSi (W.runS (As := [.long ((if (min (k / 64) n) < n then f (min (k / 64) n) else 0) &&& ((bit1 (k % 64)) - (1 : Int64)))]) (rest := []) ⟨hx, hb, hml, hown, hts⟩ (c_J13_bitCount_95d88 l dC dI ((if (min (k / 64) n) < n then f (min (k / 64) n) else 0) &&& ((bit1 (k % 64)) - (1 : Int64))) ) (va_cwS 1 hts gX0_countBelow_J13_bitCount_95d88 rfl rfl rfl (by decide +kernel) ⟨Nat.le_of_ble_eq_true rfl, Nat.le_of_ble_eq_true rfl⟩) ⟨fun a U g mk q => by obtain ⟨q0, qP, qK⟩ := q; exact ⟨q0, qP, va_K.moved (u := U) (U := U.calling g mk a) (Vm.Alike.refl U.vm) qK⟩, fun U hU hW => ⟨rfl, by rw [hU]; exact hPc, va_K.moved hW.alike hKc⟩⟩ rfl rfl hl.1 rfl (lv_room (Nat.le_of_ble_eq_true rfl)) dX0_countBelow_25 ⟨Nat.le_of_ble_eq_true rfl, Nat.le_of_ble_eq_true rfl⟩) (fun r_6 hw_5 => ?_)
  subst hw_5
  obtain ⟨c0, hc0⟩ : ∃ z : Nat, z = fb_ct (gb ((if (min (k / 64) n) < n then f (min (k / 64) n) else 0) &&& ((bit1 (k % 64)) - (1 : Int64)))) 64 := ⟨_, rfl⟩
  refine lv_cvi (congrArg nI hc0.symm) ?_
  refine lv_istore_n (lv' := [(3, .int (nI c0)), (2, .int (nI (min (k / 64) n))), (0, .ref q), (1, .int (nI k))]) hx hb dX0_countBelow_28 rfl hl (by decide) rfl (fun ls hl => ?_)
  refine lv_iconst (v := nI 0) hx hb dX0_countBelow_29 (by decide +kernel) ?_
  refine lv_istore (lv' := [(4, .int (nI 0)), (3, .int (nI c0)), (2, .int (nI (min (k / 64) n))), (0, .ref q), (1, .int (nI k))]) hx hb dX0_countBelow_30 hl (by decide) rfl (fun ls hl => ?_)
  have key_32_7 : ∀ (fu : Nat) (j : Nat) (t : Nat) (hj : j ≤ min (k / 64) n) (hs : t = c0 + fb_ct (bo f) (64 * j)) (hfu : min (k / 64) n - j < fu) (ls : Array Slot) (hl : lv_has ls 5 [(4, .int (nI j)), (3, .int (nI t)), (2, .int (nI (min (k / 64) n))), (0, .ref q), (1, .int (nI k))]), W p l e (headSpec wsX0_countBelow ({ frames := 1, cells := 0, slots := 0, locals := 21 })).room s m ([.ref q, .int (nI k)] : List Value).toArray below meth c s.heap [] 0 0 (MQ below (vp_Si (fun r => r = nI (fb_ct (bo f) k))) ([.ref q, .int (nI k)] : List Value).toArray s 0 0 (fun _ => False)) (F0 m 32 ls []) := by
    intro fu
    induction fu with
    | zero =>
      intro j t hj hs hfu ls hl
      exact absurd hfu (Nat.not_lt_zero _)
    | succ fu ih =>
      intro j t hj hs hfu ls hl
      refine lv_iload hx hb dX0_countBelow_32 (lv_at hl 0 rfl) ?_
      refine lv_iload_n hx hb dX0_countBelow_34 rfl (lv_at hl 2 rfl) ?_
      refine lv_icmp_ge (tgt := 56) hx hb dX0_countBelow_35 (by decide) (fun qc_8 => ?_) (fun qc_8 => ?_)
      · have c_8 : (min (k / 64) n) ≤ j := (nI_leI (a := min (k / 64) n) (b := j) (by omega) (by omega)).mp qc_8
        refine lv_iload_n hx hb dX0_countBelow_56 rfl (lv_at hl 1 rfl) ?_
        exact W.iret (v := nI t) hx hb hr (fun t9 ht hW => ⟨nI t, rfl, congrArg nI (cb_end hk (by omega) hj hc0 hs), ht⟩) (fun q h => by cases h) dX0_countBelow_57
      · have c_8 : ¬ (min (k / 64) n) ≤ j := fun h9 => qc_8 ((nI_leI (a := min (k / 64) n) (b := j) (by omega) (by omega)).mpr h9)
        refine lv_iload_n hx hb dX0_countBelow_38 rfl (lv_at hl 1 rfl) ?_
        refine lv_aload_n hx hb dX0_countBelow_39 rfl (lv_at hl 3 rfl) ?_
        refine lv_iload hx hb dX0_countBelow_40 (lv_at hl 0 rfl) ?_
        have hPc := hP.sub (ws' := [(q, .inr (0, [.ref a])), (a, .inl (cJ, n, .inr (.inl f)))]) [0, 1] rfl
        have hKc := hK.sub (tys' := [(cJ, .long)]) [0] rfl
        refine vp_callSl (W.runV (As := [.int (nI j)]) (rest := [.int (nI t)]) ⟨hx, hb, hml, hown, hts⟩ (c_X0_word l dC dI q a cJ n f j (by omega) (by omega)) (cwV 1 hts gX0_countBelow_X0_word rfl rfl rfl (by decide +kernel) ⟨Nat.le_of_ble_eq_true rfl, Nat.le_of_ble_eq_true rfl⟩) ⟨fun a U g mk q => by obtain ⟨q0, qP, qK⟩ := q; exact ⟨q0, qP, va_K.moved (u := U) (U := U.calling g mk a) (Vm.Alike.refl U.vm) qK⟩, va_recv hKc hPc (ci := 0) (q0 := 0) rfl rfl, fun U hU hW => ⟨rfl, by rw [hU]; exact hPc, va_K.moved hW.alike hKc⟩⟩ rfl rfl hl.1 rfl (lv_room (Nat.le_of_ble_eq_true rfl)) dX0_countBelow_42 ⟨Nat.le_of_ble_eq_true rfl, Nat.le_of_ble_eq_true rfl⟩) (fun r_10 hw_9 => ?_)
        subst hw_9
        refine lv_cvl (if_pos (by omega)) ?_
        have hPc := hP.sub (ws' := []) [] rfl
        have hKc := hK.sub (tys' := []) [] rfl
        refine vp_callSi (W.runS (As := [.long (f j)]) (rest := [.int (nI t)]) ⟨hx, hb, hml, hown, hts⟩ (c_J13_bitCount_95d88 l dC dI (f j) ) (va_cwS 1 hts gX0_countBelow_J13_bitCount_95d88 rfl rfl rfl (by decide +kernel) ⟨Nat.le_of_ble_eq_true rfl, Nat.le_of_ble_eq_true rfl⟩) ⟨fun a U g mk q => by obtain ⟨q0, qP, qK⟩ := q; exact ⟨q0, qP, va_K.moved (u := U) (U := U.calling g mk a) (Vm.Alike.refl U.vm) qK⟩, fun U hU hW => ⟨rfl, by rw [hU]; exact hPc, va_K.moved hW.alike hKc⟩⟩ rfl rfl hl.1 rfl (lv_room (Nat.le_of_ble_eq_true rfl)) dX0_countBelow_45 ⟨Nat.le_of_ble_eq_true rfl, Nat.le_of_ble_eq_true rfl⟩) (fun r_12 hw_11 => ?_)
        subst hw_11
        refine lv_iadd hx hb dX0_countBelow_48 ?_
        refine lv_cvi (nI_add _ _) ?_
        refine lv_istore_n (lv' := [(3, .int (nI (t + (fb_ct (gb (f j)) 64)))), (4, .int (nI j)), (2, .int (nI (min (k / 64) n))), (0, .ref q), (1, .int (nI k))]) hx hb dX0_countBelow_49 rfl hl (by decide) rfl (fun ls hl => ?_)
        refine lv_iinc (v := nI (j + 1)) (lv' := [(4, .int (nI (j + 1))), (3, .int (nI (t + (fb_ct (gb (f j)) 64)))), (2, .int (nI (min (k / 64) n))), (0, .ref q), (1, .int (nI k))]) hx hb dX0_countBelow_50 hl (k := 1) rfl (nI_1 _) (by decide) rfl (fun ls hl => ?_)
        refine lv_goto (tgt := 32) hx hb dX0_countBelow_53 (by decide) ?_
        exact ih (j + 1) (t + (fb_ct (gb (f j)) 64)) (by omega) (by rw [hs, ct_word]; omega) (by omega) ls (lv_sub hl [0, 1, 2, 3, 4] rfl)
  exact key_32_7 _ 0 c0 (Nat.zero_le _) rfl (Nat.lt_succ_self _) ls (lv_sub hl [0, 1, 2, 3, 4] rfl)
set_option maxHeartbeats 4000000 in
set_option maxRecDepth 100000 in
/-- Bits.numberAt -/
theorem c_X0_numberAt (l : Launch) (dC : Nat → ClassId) (dI : Nat → Nat → Nat) (q : Nat) (a : Nat) (cJ : ClassId) (n : Nat) (f : Nat → Int64) (k : Nat) (hn : n < 2 ^ 24) (hk : k < 2 ^ 31) : Met l yX0_numberAt wsX0_numberAt ({ frames := 2, cells := 0, slots := 0, locals := 42 }) (va_Pc [.ref q, .int (nI k)] (fun U => va_P (dC, dI) vwCl [(q, .inr (0, [.ref a])), (a, .inl (cJ, n, .inr (.inl f)))] U.heap ∧ va_K (dC, dI) vwCl [(cJ, .long)] U)) (vp_Si (fun r => r = oI (kth (bo f) k (64 * n)))) 0 0 (fun _ => False) := by
  refine Met.ofW (cc := cX0_numberAt) (maxL := 8) (ret := (some .int)) (by decide) rfl ?_
  intro p e s m args below meth c s₁ B hml hv
  obtain ⟨rfl, hP, hK⟩ := hv
  have hx := B.exec
  have hb := B.bytes
  have hr := B.returns
  have hts := atoms_spec (ws := wsX0_numberAt) B.pre
  have hown : s.vm.findClass RX0 = some m.cls := findClass_of_methodNamed B.named
  have hlocks := B.notSynchronized
  have hP : va_P (dC, dI) vwCl [(q, .inr (0, [.ref a])), (a, .inl (cJ, n, .inr (.inl f)))] s.heap := hP
  have hl := lv_entry ([.ref q, .int (nI k)]) (n := 8) (Nat.le_of_ble_eq_true rfl)
  rw [lg_entry_eq]
  generalize (lg_sl ([.ref q, .int (nI k)]) ++ List.replicate (8 - (lg_sl ([.ref q, .int (nI k)])).length) Slot.unset).toArray = ls at hl ⊢
  have hl : lv_has ls 8 [(0, .ref q), (1, .int (nI k))] := hl
  refine lv_iload_n hx hb dX0_numberAt_0 rfl (lv_at hl 1 rfl) ?_
  refine lv_if_ge (tgt := 6) hx hb dX0_numberAt_1 (by decide) (fun qc_1 => ?_) (fun qc_1 => ?_)
  · have c_1 : 0 ≤ k := (nI_leI (a := 0) (b := k) (by omega) (by omega)).mp qc_1
    refine lv_iload_n hx hb dX0_numberAt_6 rfl (lv_at hl 1 rfl) ?_
    refine lv_istore_n (lv' := [(2, .int (nI k)), (0, .ref q), (1, .int (nI k))]) hx hb dX0_numberAt_7 rfl hl (by decide) rfl (fun ls hl => ?_)
    refine lv_iconst (v := nI 0) hx hb dX0_numberAt_8 (by decide +kernel) ?_
    refine lv_istore_n (lv' := [(3, .int (nI 0)), (2, .int (nI k)), (0, .ref q), (1, .int (nI k))]) hx hb dX0_numberAt_9 rfl hl (by decide) rfl (fun ls hl => ?_)
    have key_10_2 : ∀ (fu : Nat) (j : Nat) (lf : Nat) (hj : j ≤ n) (hl0 : lf + fb_ct (bo f) (64 * j) = k) (hfu : n - j < fu) (ls : Array Slot) (hl : lv_has ls 8 [(3, .int (nI j)), (2, .int (nI lf)), (0, .ref q), (1, .int (nI k))]), W p l e (headSpec wsX0_numberAt ({ frames := 2, cells := 0, slots := 0, locals := 42 })).room s m ([.ref q, .int (nI k)] : List Value).toArray below meth c s.heap [] 0 0 (MQ below (vp_Si (fun r => r = oI (kth (bo f) k (64 * n)))) ([.ref q, .int (nI k)] : List Value).toArray s 0 0 (fun _ => False)) (F0 m 10 ls []) := by
      intro fu
      induction fu with
      | zero =>
        intro j lf hj hl0 hfu ls hl
        exact absurd hfu (Nat.not_lt_zero _)
      | succ fu ih =>
        intro j lf hj hl0 hfu ls hl
        refine lv_iload_n hx hb dX0_numberAt_10 rfl (lv_at hl 0 rfl) ?_
        refine lv_aload_n hx hb dX0_numberAt_11 rfl (lv_at hl 2 rfl) ?_
        refine va_get (D := (dC, dI)) (ci := 0) (v := .ref a) (C := RX0) (T := TX0) (N := 1) hx hb hts (by decide +kernel) hown hK hP 0 rfl rfl 0 (by decide) (hts (.fieldLink RX0 15 "SmallNumberSets$Bits" "words" "[J") (by decide +kernel)) (fun _ h9 => h9) rfl dX0_numberAt_12 ?_
        refine va_alen hx hb hK hP 1 0 rfl rfl (v := nI n) rfl dX0_numberAt_15 ?_
        refine lv_icmp_ge (tgt := 85) hx hb dX0_numberAt_16 (by decide) (fun qc_3 => ?_) (fun qc_3 => ?_)
        · have c_3 : n ≤ j := (nI_leI (a := n) (b := j) (by omega) (by omega)).mp qc_3
          refine lv_iconst (v := -1) hx hb dX0_numberAt_85 (by decide +kernel) ?_
          exact W.iret (v := -1) hx hb hr (fun t9 ht hW => ⟨-1, rfl, by rw [kth_none.mpr (by rw [← hl0, show j = n by omega]; omega)]; rfl, ht⟩) (fun q h => by cases h) dX0_numberAt_86
        · have c_3 : ¬ n ≤ j := fun h9 => qc_3 ((nI_leI (a := n) (b := j) (by omega) (by omega)).mpr h9)
          refine lv_aload_n hx hb dX0_numberAt_19 rfl (lv_at hl 2 rfl) ?_
          refine lv_iload_n hx hb dX0_numberAt_20 rfl (lv_at hl 0 rfl) ?_
          have hPc := hP.sub (ws' := [(q, .inr (0, [.ref a])), (a, .inl (cJ, n, .inr (.inl f)))]) [0, 1] rfl
          have hKc := hK.sub (tys' := [(cJ, .long)]) [0] rfl
          refine vp_callSl (W.runV (As := [.int (nI j)]) (rest := []) ⟨hx, hb, hml, hown, hts⟩ (c_X0_word l dC dI q a cJ n f j (by omega) (by omega)) (cwV 1 hts gX0_numberAt_X0_word rfl rfl rfl (by decide +kernel) ⟨Nat.le_of_ble_eq_true rfl, Nat.le_of_ble_eq_true rfl⟩) ⟨fun a U g mk q => by obtain ⟨q0, qP, qK⟩ := q; exact ⟨q0, qP, va_K.moved (u := U) (U := U.calling g mk a) (Vm.Alike.refl U.vm) qK⟩, va_recv hKc hPc (ci := 0) (q0 := 0) rfl rfl, fun U hU hW => ⟨rfl, by rw [hU]; exact hPc, va_K.moved hW.alike hKc⟩⟩ rfl rfl hl.1 rfl (lv_room (Nat.le_of_ble_eq_true rfl)) dX0_numberAt_21 ⟨Nat.le_of_ble_eq_true rfl, Nat.le_of_ble_eq_true rfl⟩) (fun r_5 hw_4 => ?_)
          subst hw_4
          refine lv_cvl (if_pos (by omega)) ?_
          refine lv_lstore (lv' := [(4, .long (f j)), (3, .int (nI j)), (2, .int (nI lf)), (0, .ref q), (1, .int (nI k))]) hx hb dX0_numberAt_24 hl (by decide) rfl (fun ls hl => ?_)
          refine lv_lload hx hb dX0_numberAt_26 (lv_at hl 0 rfl) ?_
          have hPc := hP.sub (ws' := []) [] rfl
          have hKc := hK.sub (tys' := []) [] rfl
          refine vp_callSi (W.runS (As := [.long (f j)]) (rest := []) ⟨hx, hb, hml, hown, hts⟩ (c_J13_bitCount_95d88 l dC dI (f j) ) (va_cwS 1 hts gX0_numberAt_J13_bitCount_95d88 rfl rfl rfl (by decide +kernel) ⟨Nat.le_of_ble_eq_true rfl, Nat.le_of_ble_eq_true rfl⟩) ⟨fun a U g mk q => by obtain ⟨q0, qP, qK⟩ := q; exact ⟨q0, qP, va_K.moved (u := U) (U := U.calling g mk a) (Vm.Alike.refl U.vm) qK⟩, fun U hU hW => ⟨rfl, by rw [hU]; exact hPc, va_K.moved hW.alike hKc⟩⟩ rfl rfl hl.1 rfl (lv_room (Nat.le_of_ble_eq_true rfl)) dX0_numberAt_28 ⟨Nat.le_of_ble_eq_true rfl, Nat.le_of_ble_eq_true rfl⟩) (fun r_7 hw_6 => ?_)
          subst hw_6
          have hw0 : fb_ct (gb (f j)) 64 ≤ 64 := fb_ct_le _ _
          refine lv_istore (lv' := [(6, .int (nI (fb_ct (gb (f j)) 64))), (4, .long (f j)), (3, .int (nI j)), (2, .int (nI lf)), (0, .ref q), (1, .int (nI k))]) hx hb dX0_numberAt_31 hl (by decide) rfl (fun ls hl => ?_)
          refine lv_iload_n hx hb dX0_numberAt_33 rfl (lv_at hl 3 rfl) ?_
          refine lv_iload hx hb dX0_numberAt_34 (lv_at hl 0 rfl) ?_
          refine lv_icmp_ge (tgt := 74) hx hb dX0_numberAt_36 (by decide) (fun qc_8 => ?_) (fun qc_8 => ?_)
          · have c_8 : (fb_ct (gb (f j)) 64) ≤ lf := (nI_leI (a := fb_ct (gb (f j)) 64) (b := lf) (by omega) (by omega)).mp qc_8
            refine lv_iload_n hx hb dX0_numberAt_74 rfl (lv_at hl 3 rfl) ?_
            refine lv_iload hx hb dX0_numberAt_75 (lv_at hl 0 rfl) ?_
            refine lv_isub hx hb dX0_numberAt_77 ?_
            refine lv_cvi (pk_sub (by omega)) ?_
            refine lv_istore_n (lv' := [(2, .int (nI (lf - (fb_ct (gb (f j)) 64)))), (6, .int (nI (fb_ct (gb (f j)) 64))), (4, .long (f j)), (3, .int (nI j)), (0, .ref q), (1, .int (nI k))]) hx hb dX0_numberAt_78 rfl hl (by decide) rfl (fun ls hl => ?_)
            refine lv_iinc (v := nI (j + 1)) (lv' := [(3, .int (nI (j + 1))), (2, .int (nI (lf - (fb_ct (gb (f j)) 64)))), (6, .int (nI (fb_ct (gb (f j)) 64))), (4, .long (f j)), (0, .ref q), (1, .int (nI k))]) hx hb dX0_numberAt_79 hl (k := 3) rfl (nI_1 _) (by decide) rfl (fun ls hl => ?_)
            refine lv_goto (tgt := 10) hx hb dX0_numberAt_82 (by decide) ?_
            exact ih (j + 1) (lf - (fb_ct (gb (f j)) 64)) (by omega) (by rw [ct_word]; omega) (by omega) ls (lv_sub hl [0, 1, 4, 5] rfl)
          · have c_8 : ¬ (fb_ct (gb (f j)) 64) ≤ lf := fun h9 => qc_8 ((nI_leI (a := fb_ct (gb (f j)) 64) (b := lf) (by omega) (by omega)).mpr h9)
            refine lv_iconst (v := nI 0) hx hb dX0_numberAt_39 (by decide +kernel) ?_
            refine lv_istore (lv' := [(7, .int (nI 0)), (6, .int (nI (fb_ct (gb (f j)) 64))), (4, .long (f j)), (3, .int (nI j)), (2, .int (nI lf)), (0, .ref q), (1, .int (nI k))]) hx hb dX0_numberAt_40 hl (by decide) rfl (fun ls hl => ?_)
            have key_42_9 : ∀ (fu : Nat) (i : Nat) (v : Int64) (hi : i ≤ lf) (hv : ∀ x, gb v x = (gb (f j) x && decide (i ≤ fb_ct (gb (f j)) x))) (hfu : lf - i < fu) (ls : Array Slot) (hl : lv_has ls 8 [(7, .int (nI i)), (6, .int (nI (fb_ct (gb (f j)) 64))), (4, .long v), (3, .int (nI j)), (2, .int (nI lf)), (0, .ref q), (1, .int (nI k))]), W p l e (headSpec wsX0_numberAt ({ frames := 2, cells := 0, slots := 0, locals := 42 })).room s m ([.ref q, .int (nI k)] : List Value).toArray below meth c s.heap [] 0 0 (MQ below (vp_Si (fun r => r = oI (kth (bo f) k (64 * n)))) ([.ref q, .int (nI k)] : List Value).toArray s 0 0 (fun _ => False)) (F0 m 42 ls []) := by
              intro fu
              induction fu with
              | zero =>
                intro i v hi hv hfu ls hl
                exact absurd hfu (Nat.not_lt_zero _)
              | succ fu ih =>
                intro i v hi hv hfu ls hl
                refine lv_iload hx hb dX0_numberAt_42 (lv_at hl 0 rfl) ?_
                refine lv_iload_n hx hb dX0_numberAt_44 rfl (lv_at hl 4 rfl) ?_
                refine lv_icmp_ge (tgt := 63) hx hb dX0_numberAt_45 (by decide) (fun qc_10 => ?_) (fun qc_10 => ?_)
                · have c_10 : lf ≤ i := (nI_leI (a := lf) (b := i) (by omega) (by omega)).mp qc_10
                  refine lv_iload_n hx hb dX0_numberAt_63 rfl (lv_at hl 3 rfl) ?_
                  refine lv_bipush (v := nI 64) hx hb dX0_numberAt_64 (by decide +kernel) ?_
                  refine lv_imul hx hb dX0_numberAt_66 ?_
                  refine lv_cvi (pk_mul _ _) ?_
                  refine lv_lload hx hb dX0_numberAt_67 (lv_at hl 2 rfl) ?_
                  have hPc := hP.sub (ws' := []) [] rfl
                  have hKc := hK.sub (tys' := []) [] rfl
                  refine vp_callSi (W.runS (As := [.long v]) (rest := [.int (nI (j * 64))]) ⟨hx, hb, hml, hown, hts⟩ (c_X6_least l dC dI v ) (va_cwS 1 hts gX0_numberAt_X6_least rfl rfl rfl (by decide +kernel) ⟨Nat.le_of_ble_eq_true rfl, Nat.le_of_ble_eq_true rfl⟩) ⟨fun a U g mk q => by obtain ⟨q0, qP, qK⟩ := q; exact ⟨q0, qP, va_K.moved (u := U) (U := U.calling g mk a) (Vm.Alike.refl U.vm) qK⟩, fun U hU hW => ⟨rfl, by rw [hU]; exact hPc, va_K.moved hW.alike hKc⟩⟩ rfl rfl hl.1 rfl (lv_room (Nat.le_of_ble_eq_true rfl)) dX0_numberAt_69 ⟨Nat.le_of_ble_eq_true rfl, Nat.le_of_ble_eq_true rfl⟩) (fun r_12 hw_11 => ?_)
                  subst hw_11
                  obtain ⟨z, hz1, hz2, hz3, hz4⟩ := kth_word (show lf < fb_ct (gb (f j)) 64 by omega) (show i = lf by omega) hv
                  refine lv_cvi (congrArg oI hz1) ?_
                  refine lv_cvi ((rfl : oI (some z) = nI z)) ?_
                  refine lv_iadd hx hb dX0_numberAt_72 ?_
                  refine lv_cvi (nI_add _ _) ?_
                  exact W.iret (v := nI ((j * 64) + z)) hx hb hr (fun t9 ht hW => ⟨nI ((j * 64) + z), rfl, by rw [kth_of (q := bo f) (k := k) (n := 64 * n) (i := j * 64 + z) (by omega) (at_word hz2 hz3) (by rw [← hl0]; exact ct_at hz2 hz4)]; rfl, ht⟩) (fun q h => by cases h) dX0_numberAt_73
                · have c_10 : ¬ lf ≤ i := fun h9 => qc_10 ((nI_leI (a := lf) (b := i) (by omega) (by omega)).mpr h9)
                  refine lv_lload hx hb dX0_numberAt_48 (lv_at hl 2 rfl) ?_
                  refine lv_lload hx hb dX0_numberAt_50 (lv_at hl 2 rfl) ?_
                  refine lv_lconst (v := 1) hx hb dX0_numberAt_52 (by decide +kernel) ?_
                  refine lv_lsub hx hb dX0_numberAt_53 ?_
                  refine lv_land hx hb dX0_numberAt_54 ?_
                  refine lv_lstore (lv' := [(4, .long (v &&& (v - (1 : Int64)))), (7, .int (nI i)), (6, .int (nI (fb_ct (gb (f j)) 64))), (3, .int (nI j)), (2, .int (nI lf)), (0, .ref q), (1, .int (nI k))]) hx hb dX0_numberAt_55 hl (by decide) rfl (fun ls hl => ?_)
                  refine lv_iinc (v := nI (i + 1)) (lv' := [(7, .int (nI (i + 1))), (4, .long (v &&& (v - (1 : Int64)))), (6, .int (nI (fb_ct (gb (f j)) 64))), (3, .int (nI j)), (2, .int (nI lf)), (0, .ref q), (1, .int (nI k))]) hx hb dX0_numberAt_57 hl (k := 1) rfl (nI_1 _) (by decide) rfl (fun ls hl => ?_)
                  refine lv_goto (tgt := 42) hx hb dX0_numberAt_60 (by decide) ?_
                  exact ih (i + 1) (v &&& (v - (1 : Int64))) (by omega) (clr_step (show i < fb_ct (gb (f j)) 64 by omega) hv) (by omega) ls (lv_sub hl [0, 2, 1, 3, 4, 5, 6] rfl)
            exact key_42_9 _ 0 (f j) (Nat.zero_le _) (fun x => by simp) (Nat.lt_succ_self _) ls (lv_sub hl [0, 1, 2, 3, 4, 5, 6] rfl)
    exact key_10_2 _ 0 k (Nat.zero_le _) rfl (Nat.lt_succ_self _) ls (lv_sub hl [0, 1, 2, 3] rfl)
  · have c_1 : ¬ 0 ≤ k := fun h9 => qc_1 ((nI_leI (a := 0) (b := k) (by omega) (by omega)).mpr h9)
    exact absurd (Nat.zero_le _) c_1
