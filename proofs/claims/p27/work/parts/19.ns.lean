set_option maxHeartbeats 4000000 in
set_option maxRecDepth 100000 in
/-- Bits(4096) -/
theorem c_X0_init_64 (l : Launch) (dC : Nat → ClassId) (dI : Nat → Nat → Nat) (q : Nat) (sz : Nat) : Met l yX0_init wsX0_init ({ frames := 1, cells := 1, slots := 64, locals := 16 }) (va_Pc [.ref q, .int (nI 4096)] (fun U => U.heap.size = sz ∧ va_P (dC, dI) vwCl [(q, .inr (0, [.null]))] U.heap ∧ va_K (dC, dI) vwCl [] U ∧ va_D (fun _ => True) [(q, .inr (0, [.null]))])) (va_Qv (fun (u : Unit) => True) (fun (u : Unit) (t : State) => ∃ (a : Nat), ∃ (cJ : ClassId), va_P (dC, dI) vwCl [(q, .inr (0, [.ref a])), (a, .inl (cJ, 64, .inr (.inl (fun _ => 0))))] t.heap ∧ va_K (dC, dI) vwCl [(cJ, .long)] t ∧ va_D (va_A [(q, .inr (0, [.null]))] sz) [(q, .inr (0, [.ref a])), (a, .inl (cJ, 64, .inr (.inl (fun _ => 0))))]) (va_A [(q, .inr (0, [.null]))] sz)) 1 64 (va_A [(q, .inr (0, [.null]))] sz) := by
  refine Met.ofW (cc := cX0_init) (maxL := 2) (ret := none) (by decide) rfl ?_
  intro p e s m args below meth c s₁ B hml hv
  obtain ⟨rfl, hsz, hP, hK, hD0⟩ := hv
  have hx := B.exec
  have hb := B.bytes
  have hr := B.returns
  have hts := atoms_spec (ws := wsX0_init) B.pre
  have hown : s.vm.findClass RX0 = some m.cls := findClass_of_methodNamed B.named
  have hlocks := B.notSynchronized
  have hin : meth.name = "<init>" := (name_of_methodNamed B.named B.method).1
  subst hsz
  have hD := hD0.self (sz := s.heap.size)
  generalize hAe : va_A [(q, .inr (0, [.null]))] s.heap.size = A at hD ⊢
  have hA : ∀ q : Nat, s.heap.size ≤ q → A q := fun q h => by rw [← hAe]; exact Or.inr h
  have hS : va_S A s.heap s.heap [] := va_S.rf
  have hP : va_P (dC, dI) vwCl [(q, .inr (0, [.null]))] s.heap := hP
  have hl := lv_entry ([.ref q, .int (nI 4096)]) (n := 2) (Nat.le_of_ble_eq_true rfl)
  rw [lg_entry_eq]
  generalize (lg_sl ([.ref q, .int (nI 4096)]) ++ List.replicate (2 - (lg_sl ([.ref q, .int (nI 4096)])).length) Slot.unset).toArray = ls at hl ⊢
  have hl : lv_has ls 2 [(0, .ref q), (1, .int (nI 4096))] := hl
  refine lv_aload_n hx hb dX0_init_0 rfl (lv_at hl 0 rfl) ?_
  refine W.objInit hx hb hown (hts (.methodLink RX0 3 objectInit) (by decide +kernel)) (hts (.instanceMethod objectInit) (by decide +kernel)) (hts (.code objectInit ⟨#[0xb1]⟩ 1 none) (by decide +kernel)) rfl (by rw [hml]; exact hl.1) rfl dX0_init_1 (Nat.le_of_ble_eq_true rfl) (Nat.le_of_ble_eq_true rfl) ?_
  refine W.eq (g2 := F0 m 4 ls []) rfl ?_
  refine lv_aload_n hx hb dX0_init_4 rfl (lv_at hl 0 rfl) ?_
  refine lv_iload_n hx hb dX0_init_5 rfl (lv_at hl 1 rfl) ?_
  refine lv_iconst (v := nI 0) hx hb dX0_init_6 (by decide +kernel) ?_
  refine va_mmax hx hb (by rw [hml]; exact hl.1.symm) hown (hts (.methodLink RX0 9 Lib.Math.max.name) (by decide +kernel)) (hts (.static Lib.Math.max.name) (by decide +kernel)) (hts (.initialized "java/lang/Math") (by decide +kernel)) (hts (.code Lib.Math.max.name Lib.Math.max.code 2 (some .int)) (by decide +kernel)) (Nat.le_of_ble_eq_true rfl) (Nat.le_of_ble_eq_true rfl) (Nat.le_of_ble_eq_true rfl) (Nat.le_of_ble_eq_true rfl) dX0_init_7 ?_
  refine lv_cvi (mx_N (by omega) (by omega)) ?_
  refine lv_bipush (v := nI 64) hx hb dX0_init_10 (by decide +kernel) ?_
  refine lv_idiv hx hb dX0_init_12 (by decide +kernel) ?_
  refine lv_cvi (pk_div (by omega) (by decide) (by decide)) ?_
  refine lv_cvi (y := nI 64) (by decide +kernel) ?_
  refine va_newa (atype := .long) (ty := .long) (N' := 64) (a0 := (64, .inr (.inl (fun _ => 0)))) hx hb (hts (.arrayClass .long) (by decide +kernel)) rfl hK hP hD hS hA (fun _ => rfl) (nI_pos (by omega)) (nI_clamp (by omega)) (by decide) (by decide) (by decide) dX0_init_13 (fun q_1 cA_2 H hK hP hD hS => ?_)
  have hP : va_P (dC, dI) vwCl [(q, .inr (0, [.null])), (q_1, .inl (cA_2, 64, .inr (.inl (fun _ => 0))))] H := hP
  have hD : va_D A [(q, .inr (0, [.null])), (q_1, .inl (cA_2, 64, .inr (.inl (fun _ => 0))))] := hD
  have hK : va_K (dC, dI) vwCl [(cA_2, .long)] s := hK
  refine W.cs (cells' := 1) (slots' := 64) rfl rfl ?_
  refine va_putF (D := (dC, dI)) (ci := 0) (v := .ref q_1) (ty := .array .long) (C := RX0) (T := TX0) (N := 1) hx hb hts (by decide +kernel) tyX0 tyX0_ok nmX0 hown hK hP hD hS 0 rfl rfl 0 (by decide) (hts (.fieldLink RX0 15 "SmallNumberSets$Bits" "words" "[J") (by decide +kernel)) (fun _ h9 => h9) rfl hin rfl (by decide +kernel) rfl rfl (Nat.le_of_ble_eq_true rfl) dX0_init_15 (fun H locs hP hD hS => ?_)
  have hP : va_P (dC, dI) vwCl [(q, .inr (0, [.ref q_1])), (q_1, .inl (cA_2, 64, .inr (.inl (fun _ => 0))))] H := hP
  have hD : va_D A [(q, .inr (0, [.ref q_1])), (q_1, .inl (cA_2, 64, .inr (.inl (fun _ => 0))))] := hD
  have hP9 := hP.sub (ws' := [(q, .inr (0, [.ref q_1])), (q_1, .inl (cA_2, 64, .inr (.inl (fun _ => 0))))]) [0, 1] rfl
  have hD9 := hD.sub (ws' := [(q, .inr (0, [.ref q_1])), (q_1, .inl (cA_2, 64, .inr (.inl (fun _ => 0))))]) [0, 1] (by decide) rfl
  have hK9 := hK.sub (tys' := [(cA_2, .long)]) [0] rfl
  exact W.vret hx hb hr (fun t9 ht hW => ⟨⟨(), rfl, trivial, q_1, cA_2, by rw [ht]; exact hP9, va_K.moved hW.alike hK9, hD9⟩, hS.F ht⟩) hS.2.2 dX0_init_18
set_option maxHeartbeats 4000000 in
set_option maxRecDepth 100000 in
/-- Bits(8192) -/
theorem c_X0_init_128 (l : Launch) (dC : Nat → ClassId) (dI : Nat → Nat → Nat) (q : Nat) (sz : Nat) : Met l yX0_init wsX0_init ({ frames := 1, cells := 1, slots := 128, locals := 16 }) (va_Pc [.ref q, .int (nI 8192)] (fun U => U.heap.size = sz ∧ va_P (dC, dI) vwCl [(q, .inr (0, [.null]))] U.heap ∧ va_K (dC, dI) vwCl [] U ∧ va_D (fun _ => True) [(q, .inr (0, [.null]))])) (va_Qv (fun (u : Unit) => True) (fun (u : Unit) (t : State) => ∃ (a : Nat), ∃ (cJ : ClassId), va_P (dC, dI) vwCl [(q, .inr (0, [.ref a])), (a, .inl (cJ, 128, .inr (.inl (fun _ => 0))))] t.heap ∧ va_K (dC, dI) vwCl [(cJ, .long)] t ∧ va_D (va_A [(q, .inr (0, [.null]))] sz) [(q, .inr (0, [.ref a])), (a, .inl (cJ, 128, .inr (.inl (fun _ => 0))))]) (va_A [(q, .inr (0, [.null]))] sz)) 1 128 (va_A [(q, .inr (0, [.null]))] sz) := by
  refine Met.ofW (cc := cX0_init) (maxL := 2) (ret := none) (by decide) rfl ?_
  intro p e s m args below meth c s₁ B hml hv
  obtain ⟨rfl, hsz, hP, hK, hD0⟩ := hv
  have hx := B.exec
  have hb := B.bytes
  have hr := B.returns
  have hts := atoms_spec (ws := wsX0_init) B.pre
  have hown : s.vm.findClass RX0 = some m.cls := findClass_of_methodNamed B.named
  have hlocks := B.notSynchronized
  have hin : meth.name = "<init>" := (name_of_methodNamed B.named B.method).1
  subst hsz
  have hD := hD0.self (sz := s.heap.size)
  generalize hAe : va_A [(q, .inr (0, [.null]))] s.heap.size = A at hD ⊢
  have hA : ∀ q : Nat, s.heap.size ≤ q → A q := fun q h => by rw [← hAe]; exact Or.inr h
  have hS : va_S A s.heap s.heap [] := va_S.rf
  have hP : va_P (dC, dI) vwCl [(q, .inr (0, [.null]))] s.heap := hP
  have hl := lv_entry ([.ref q, .int (nI 8192)]) (n := 2) (Nat.le_of_ble_eq_true rfl)
  rw [lg_entry_eq]
  generalize (lg_sl ([.ref q, .int (nI 8192)]) ++ List.replicate (2 - (lg_sl ([.ref q, .int (nI 8192)])).length) Slot.unset).toArray = ls at hl ⊢
  have hl : lv_has ls 2 [(0, .ref q), (1, .int (nI 8192))] := hl
  refine lv_aload_n hx hb dX0_init_0 rfl (lv_at hl 0 rfl) ?_
  refine W.objInit hx hb hown (hts (.methodLink RX0 3 objectInit) (by decide +kernel)) (hts (.instanceMethod objectInit) (by decide +kernel)) (hts (.code objectInit ⟨#[0xb1]⟩ 1 none) (by decide +kernel)) rfl (by rw [hml]; exact hl.1) rfl dX0_init_1 (Nat.le_of_ble_eq_true rfl) (Nat.le_of_ble_eq_true rfl) ?_
  refine W.eq (g2 := F0 m 4 ls []) rfl ?_
  refine lv_aload_n hx hb dX0_init_4 rfl (lv_at hl 0 rfl) ?_
  refine lv_iload_n hx hb dX0_init_5 rfl (lv_at hl 1 rfl) ?_
  refine lv_iconst (v := nI 0) hx hb dX0_init_6 (by decide +kernel) ?_
  refine va_mmax hx hb (by rw [hml]; exact hl.1.symm) hown (hts (.methodLink RX0 9 Lib.Math.max.name) (by decide +kernel)) (hts (.static Lib.Math.max.name) (by decide +kernel)) (hts (.initialized "java/lang/Math") (by decide +kernel)) (hts (.code Lib.Math.max.name Lib.Math.max.code 2 (some .int)) (by decide +kernel)) (Nat.le_of_ble_eq_true rfl) (Nat.le_of_ble_eq_true rfl) (Nat.le_of_ble_eq_true rfl) (Nat.le_of_ble_eq_true rfl) dX0_init_7 ?_
  refine lv_cvi (mx_N (by omega) (by omega)) ?_
  refine lv_bipush (v := nI 64) hx hb dX0_init_10 (by decide +kernel) ?_
  refine lv_idiv hx hb dX0_init_12 (by decide +kernel) ?_
  refine lv_cvi (pk_div (by omega) (by decide) (by decide)) ?_
  refine lv_cvi (y := nI 128) (by decide +kernel) ?_
  refine va_newa (atype := .long) (ty := .long) (N' := 128) (a0 := (128, .inr (.inl (fun _ => 0)))) hx hb (hts (.arrayClass .long) (by decide +kernel)) rfl hK hP hD hS hA (fun _ => rfl) (nI_pos (by omega)) (nI_clamp (by omega)) (by decide) (by decide) (by decide) dX0_init_13 (fun q_1 cA_2 H hK hP hD hS => ?_)
  have hP : va_P (dC, dI) vwCl [(q, .inr (0, [.null])), (q_1, .inl (cA_2, 128, .inr (.inl (fun _ => 0))))] H := hP
  have hD : va_D A [(q, .inr (0, [.null])), (q_1, .inl (cA_2, 128, .inr (.inl (fun _ => 0))))] := hD
  have hK : va_K (dC, dI) vwCl [(cA_2, .long)] s := hK
  refine W.cs (cells' := 1) (slots' := 128) rfl rfl ?_
  refine va_putF (D := (dC, dI)) (ci := 0) (v := .ref q_1) (ty := .array .long) (C := RX0) (T := TX0) (N := 1) hx hb hts (by decide +kernel) tyX0 tyX0_ok nmX0 hown hK hP hD hS 0 rfl rfl 0 (by decide) (hts (.fieldLink RX0 15 "SmallNumberSets$Bits" "words" "[J") (by decide +kernel)) (fun _ h9 => h9) rfl hin rfl (by decide +kernel) rfl rfl (Nat.le_of_ble_eq_true rfl) dX0_init_15 (fun H locs hP hD hS => ?_)
  have hP : va_P (dC, dI) vwCl [(q, .inr (0, [.ref q_1])), (q_1, .inl (cA_2, 128, .inr (.inl (fun _ => 0))))] H := hP
  have hD : va_D A [(q, .inr (0, [.ref q_1])), (q_1, .inl (cA_2, 128, .inr (.inl (fun _ => 0))))] := hD
  have hP9 := hP.sub (ws' := [(q, .inr (0, [.ref q_1])), (q_1, .inl (cA_2, 128, .inr (.inl (fun _ => 0))))]) [0, 1] rfl
  have hD9 := hD.sub (ws' := [(q, .inr (0, [.ref q_1])), (q_1, .inl (cA_2, 128, .inr (.inl (fun _ => 0))))]) [0, 1] (by decide) rfl
  have hK9 := hK.sub (tys' := [(cA_2, .long)]) [0] rfl
  exact W.vret hx hb hr (fun t9 ht hW => ⟨⟨(), rfl, trivial, q_1, cA_2, by rw [ht]; exact hP9, va_K.moved hW.alike hK9, hD9⟩, hS.F ht⟩) hS.2.2 dX0_init_18
set_option maxHeartbeats 4000000 in
set_option maxRecDepth 100000 in
/-- Buckets() -/
theorem c_X1_init (l : Launch) (dC : Nat → ClassId) (dI : Nat → Nat → Nat) (q : Nat) (sz : Nat) : Met l yX1_init wsX1_init ({ frames := 2, cells := 4, slots := 130, locals := 42 }) (va_Pc [.ref q] (fun U => U.heap.size = sz ∧ va_P (dC, dI) vwCl [(q, .inr (1, [.null, .null]))] U.heap ∧ va_K (dC, dI) vwCl [] U ∧ va_D (fun _ => True) [(q, .inr (1, [.null, .null]))])) (va_Qv (fun (u : (Nat → Int64)) => ∀ x, bo u x = decide (x = 0)) (fun (u : (Nat → Int64)) (t : State) => ∃ (bm : Nat), ∃ (am : Nat), ∃ (bs : Nat), ∃ (ap : Nat), ∃ (cJ : ClassId), va_P (dC, dI) vwCl [(q, .inr (1, [.ref bm, .ref bs])), (bm, .inr (0, [.ref am])), (am, .inl (cJ, 64, .inr (.inl (fun _ => 0)))), (bs, .inr (0, [.ref ap])), (ap, .inl (cJ, 64, .inr (.inl u)))] t.heap ∧ va_K (dC, dI) vwCl [(cJ, .long)] t ∧ va_D (va_A [(q, .inr (1, [.null, .null]))] sz) [(q, .inr (1, [.ref bm, .ref bs])), (bm, .inr (0, [.ref am])), (am, .inl (cJ, 64, .inr (.inl (fun _ => 0)))), (bs, .inr (0, [.ref ap])), (ap, .inl (cJ, 64, .inr (.inl u)))]) (va_A [(q, .inr (1, [.null, .null]))] sz)) 4 130 (va_A [(q, .inr (1, [.null, .null]))] sz) := by
  refine Met.ofW (cc := cX1_init) (maxL := 1) (ret := none) (by decide) rfl ?_
  intro p e s m args below meth c s₁ B hml hv
  obtain ⟨rfl, hsz, hP, hK, hD0⟩ := hv
  have hx := B.exec
  have hb := B.bytes
  have hr := B.returns
  have hts := atoms_spec (ws := wsX1_init) B.pre
  have hown : s.vm.findClass RX1 = some m.cls := findClass_of_methodNamed B.named
  have hlocks := B.notSynchronized
  have hin : meth.name = "<init>" := (name_of_methodNamed B.named B.method).1
  subst hsz
  have hD := hD0.self (sz := s.heap.size)
  generalize hAe : va_A [(q, .inr (1, [.null, .null]))] s.heap.size = A at hD ⊢
  have hA : ∀ q : Nat, s.heap.size ≤ q → A q := fun q h => by rw [← hAe]; exact Or.inr h
  have hS : va_S A s.heap s.heap [] := va_S.rf
  have hP : va_P (dC, dI) vwCl [(q, .inr (1, [.null, .null]))] s.heap := hP
  have hl := lv_entry ([.ref q]) (n := 1) (Nat.le_of_ble_eq_true rfl)
  rw [lg_entry_eq]
  generalize (lg_sl ([.ref q]) ++ List.replicate (1 - (lg_sl ([.ref q])).length) Slot.unset).toArray = ls at hl ⊢
  have hl : lv_has ls 1 [(0, .ref q)] := hl
  refine lv_aload_n hx hb dX1_init_0 rfl (lv_at hl 0 rfl) ?_
  refine W.objInit hx hb hown (hts (.methodLink RX1 3 objectInit) (by decide +kernel)) (hts (.instanceMethod objectInit) (by decide +kernel)) (hts (.code objectInit ⟨#[0xb1]⟩ 1 none) (by decide +kernel)) rfl (by rw [hml]; exact hl.1) rfl dX1_init_1 (Nat.le_of_ble_eq_true rfl) (Nat.le_of_ble_eq_true rfl) ?_
  refine W.eq (g2 := F0 m 4 ls []) rfl ?_
  refine lv_aload_n hx hb dX1_init_4 rfl (lv_at hl 0 rfl) ?_
  have hkc : 0 + 1 ≤ (4 : Nat) := by decide
  have hks : 0 + 1 ≤ (130 : Nat) := by decide
  refine va_new (ci := 0) (fs := [.null]) (C := RX0) (T := TX0) (N := 1) hx hb hts (by decide +kernel) tyX0 tyX0_ok hown (hts (.classLink RX1 9 RX0) (by decide +kernel)) (hts (.instantiable RX0 1) (by decide +kernel)) (hts (.initialized RX0) (by decide +kernel)) hK hP hD hS hA rfl (fun j hj => by rcases (show j = 0 by omega) with rfl <;> rfl) hkc hks dX1_init_5 (fun q_1 H hP hD hS => ?_)
  have hP : va_P (dC, dI) vwCl [(q, .inr (1, [.null, .null])), (q_1, .inr (0, [.null]))] H := hP
  have hD : va_D A [(q, .inr (1, [.null, .null])), (q_1, .inr (0, [.null]))] := hD
  refine W.cs (cells' := 1) (slots' := 1) rfl rfl ?_
  refine lv_dup hx hb dX1_init_8 rfl ?_
  refine lv_sipush (v := nI 4096) hx hb dX1_init_9 (by decide +kernel) ?_
  have hPc := hP.sub (ws' := [(q_1, .inr (0, [.null]))]) [1] rfl
  have hKc := hK.sub (tys' := []) [] rfl
  have hDc := hD.sub (ws' := [(q_1, .inr (0, [.null]))]) [1] (by decide) rfl
  have hFc := va_free (wc := [(q_1, .inr (0, [.null]))]) hD hS hA [1] rfl
  refine va_callv (va_runI (As := [.int (nI 4096)]) (rest := [.ref q_1, .ref q]) ⟨hx, hb, hml, hown, hts⟩ (c_X0_init_64 l dC dI q_1 H.size ) (cwI 1 hts gX1_init_X0_init rfl rfl rfl (hts (.initialized RX0) (by decide +kernel)) (hts (.methodLink RX1 11 yX0_init) (by decide +kernel)) (hts (.instanceMethod yX0_init) (by decide +kernel)) rfl (by decide +kernel) ⟨Nat.le_of_ble_eq_true rfl, Nat.le_of_ble_eq_true rfl⟩) ⟨fun a U g mk q => by obtain ⟨q0, q1, qP, qK, qD⟩ := q; exact ⟨q0, q1, qP, va_K.moved (u := U) (U := U.calling g mk a) (Vm.Alike.refl U.vm) qK, qD⟩, fun U hU hW => ⟨rfl, by rw [hU], by rw [hU]; exact hPc, va_K.moved hW.alike hKc, hDc.weaken (fun _ _ _ _ => trivial)⟩⟩ rfl rfl hl.1 rfl (lv_room (Nat.le_of_ble_eq_true rfl)) dX1_init_12 ⟨Nat.le_of_ble_eq_true rfl, Nat.le_of_ble_eq_true rfl⟩) hS (fun q _ h => hFc q h) hFc (fun u_3 t9 H1 locs ht hvm hw_2 hB hz1 hk1 hS => ?_)
  obtain ⟨a_5, cJ_6, hP1, hK1, hD1⟩ := hB
  rw [ht] at hP1
  have hK1 := va_K.moved hvm.symm hK1
  try dsimp only at hw_2 hP1 hK1 hD1
  obtain ⟨hP, hD⟩ := va_join (wr := [(q, .inr (1, [.null, .null]))]) (w1 := [(q_1, .inr (0, [.ref a_5])), (a_5, .inl (cJ_6, 64, .inr (.inl (fun _ => 0))))]) hP hD [1] [0] rfl rfl (by decide) (by decide) hk1 hFc hP1 hD1
  have hK := hK.app (hK1.sub (tys' := [(cJ_6, .long)]) [0] rfl)
  generalize H1 = H at hP hS ⊢
  have hP : va_P (dC, dI) vwCl [(q, .inr (1, [.null, .null])), (q_1, .inr (0, [.ref a_5])), (a_5, .inl (cJ_6, 64, .inr (.inl (fun _ => 0))))] H := hP
  have hD : va_D A [(q, .inr (1, [.null, .null])), (q_1, .inr (0, [.ref a_5])), (a_5, .inl (cJ_6, 64, .inr (.inl (fun _ => 0))))] := hD
  have hK : va_K (dC, dI) vwCl [(cJ_6, .long)] s := hK
  refine W.cs (cells' := 2) (slots' := 65) rfl rfl ?_
  refine va_putF (D := (dC, dI)) (ci := 1) (v := .ref q_1) (ty := .object "SmallNumberSets$Bits") (C := RX1) (T := TX1) (N := 2) hx hb hts (by decide +kernel) tyX1 tyX1_ok nmX1 hown hK hP hD hS 0 rfl rfl 0 (by decide) (hts (.fieldLink RX1 14 "SmallNumberSets$Buckets" "members" "LSmallNumberSets$Bits;") (by decide +kernel)) (fun _ h9 => h9) rfl hin rfl (by decide +kernel) rfl rfl (Nat.le_of_ble_eq_true rfl) dX1_init_15 (fun H locs hP hD hS => ?_)
  have hP : va_P (dC, dI) vwCl [(q, .inr (1, [.ref q_1, .null])), (q_1, .inr (0, [.ref a_5])), (a_5, .inl (cJ_6, 64, .inr (.inl (fun _ => 0))))] H := hP
  have hD : va_D A [(q, .inr (1, [.ref q_1, .null])), (q_1, .inr (0, [.ref a_5])), (a_5, .inl (cJ_6, 64, .inr (.inl (fun _ => 0))))] := hD
  refine lv_aload_n hx hb dX1_init_18 rfl (lv_at hl 0 rfl) ?_
  have hkc : 2 + 1 ≤ (4 : Nat) := by decide
  have hks : 65 + 1 ≤ (130 : Nat) := by decide
  refine va_new (ci := 0) (fs := [.null]) (C := RX0) (T := TX0) (N := 1) hx hb hts (by decide +kernel) tyX0 tyX0_ok hown (hts (.classLink RX1 9 RX0) (by decide +kernel)) (hts (.instantiable RX0 1) (by decide +kernel)) (hts (.initialized RX0) (by decide +kernel)) hK hP hD hS hA rfl (fun j hj => by rcases (show j = 0 by omega) with rfl <;> rfl) hkc hks dX1_init_19 (fun q_7 H hP hD hS => ?_)
  have hP : va_P (dC, dI) vwCl [(q, .inr (1, [.ref q_1, .null])), (q_1, .inr (0, [.ref a_5])), (a_5, .inl (cJ_6, 64, .inr (.inl (fun _ => 0)))), (q_7, .inr (0, [.null]))] H := hP
  have hD : va_D A [(q, .inr (1, [.ref q_1, .null])), (q_1, .inr (0, [.ref a_5])), (a_5, .inl (cJ_6, 64, .inr (.inl (fun _ => 0)))), (q_7, .inr (0, [.null]))] := hD
  refine W.cs (cells' := 3) (slots' := 66) rfl rfl ?_
  refine lv_dup hx hb dX1_init_22 rfl ?_
  refine lv_sipush (v := nI 4096) hx hb dX1_init_23 (by decide +kernel) ?_
  have hPc := hP.sub (ws' := [(q_7, .inr (0, [.null]))]) [3] rfl
  have hKc := hK.sub (tys' := []) [] rfl
  have hDc := hD.sub (ws' := [(q_7, .inr (0, [.null]))]) [3] (by decide) rfl
  have hFc := va_free (wc := [(q_7, .inr (0, [.null]))]) hD hS hA [3] rfl
  refine va_callv (va_runI (As := [.int (nI 4096)]) (rest := [.ref q_7, .ref q]) ⟨hx, hb, hml, hown, hts⟩ (c_X0_init_64 l dC dI q_7 H.size ) (cwI 1 hts gX1_init_X0_init rfl rfl rfl (hts (.initialized RX0) (by decide +kernel)) (hts (.methodLink RX1 11 yX0_init) (by decide +kernel)) (hts (.instanceMethod yX0_init) (by decide +kernel)) rfl (by decide +kernel) ⟨Nat.le_of_ble_eq_true rfl, Nat.le_of_ble_eq_true rfl⟩) ⟨fun a U g mk q => by obtain ⟨q0, q1, qP, qK, qD⟩ := q; exact ⟨q0, q1, qP, va_K.moved (u := U) (U := U.calling g mk a) (Vm.Alike.refl U.vm) qK, qD⟩, fun U hU hW => ⟨rfl, by rw [hU], by rw [hU]; exact hPc, va_K.moved hW.alike hKc, hDc.weaken (fun _ _ _ _ => trivial)⟩⟩ rfl rfl hl.1 rfl (lv_room (Nat.le_of_ble_eq_true rfl)) dX1_init_26 ⟨Nat.le_of_ble_eq_true rfl, Nat.le_of_ble_eq_true rfl⟩) hS (fun q _ h => hFc q h) hFc (fun u_9 t9 H1 locs ht hvm hw_8 hB hz1 hk1 hS => ?_)
  obtain ⟨a_11, cJ_12, hP1, hK1, hD1⟩ := hB
  rw [ht] at hP1
  have hK1 := va_K.moved hvm.symm hK1
  try dsimp only at hw_8 hP1 hK1 hD1
  obtain ⟨hP, hD⟩ := va_join (wr := [(q, .inr (1, [.ref q_1, .null])), (q_1, .inr (0, [.ref a_5])), (a_5, .inl (cJ_6, 64, .inr (.inl (fun _ => 0))))]) (w1 := [(q_7, .inr (0, [.ref a_11])), (a_11, .inl (cJ_12, 64, .inr (.inl (fun _ => 0))))]) hP hD [3] [0, 1, 2] rfl rfl (by decide) (by decide) hk1 hFc hP1 hD1
  have hcc : cJ_6 = cJ_12 := ra_one (hK.2 0 _ rfl).2 (hK1.2 0 _ rfl).2 (fun C h9 => by cases h9)
  subst hcc
  have hP1 : va_P (dC, dI) vwCl [(q_7, .inr (0, [.ref a_11])), (a_11, .inl (cJ_6, 64, .inr (.inl (fun _ => 0))))] H1 := hP1
  generalize H1 = H at hP hS ⊢
  have hP : va_P (dC, dI) vwCl [(q, .inr (1, [.ref q_1, .null])), (q_1, .inr (0, [.ref a_5])), (a_5, .inl (cJ_6, 64, .inr (.inl (fun _ => 0)))), (q_7, .inr (0, [.ref a_11])), (a_11, .inl (cJ_6, 64, .inr (.inl (fun _ => 0))))] H := hP
  have hD : va_D A [(q, .inr (1, [.ref q_1, .null])), (q_1, .inr (0, [.ref a_5])), (a_5, .inl (cJ_6, 64, .inr (.inl (fun _ => 0)))), (q_7, .inr (0, [.ref a_11])), (a_11, .inl (cJ_6, 64, .inr (.inl (fun _ => 0))))] := hD
  refine W.cs (cells' := 4) (slots' := 130) rfl rfl ?_
  refine va_putF (D := (dC, dI)) (ci := 1) (v := .ref q_7) (ty := .object "SmallNumberSets$Bits") (C := RX1) (T := TX1) (N := 2) hx hb hts (by decide +kernel) tyX1 tyX1_ok nmX1 hown hK hP hD hS 0 rfl rfl 1 (by decide) (hts (.fieldLink RX1 20 "SmallNumberSets$Buckets" "separators" "LSmallNumberSets$Bits;") (by decide +kernel)) (fun _ h9 => h9) rfl hin rfl (by decide +kernel) rfl rfl (Nat.le_of_ble_eq_true rfl) dX1_init_29 (fun H locs hP hD hS => ?_)
  have hP : va_P (dC, dI) vwCl [(q, .inr (1, [.ref q_1, .ref q_7])), (q_1, .inr (0, [.ref a_5])), (a_5, .inl (cJ_6, 64, .inr (.inl (fun _ => 0)))), (q_7, .inr (0, [.ref a_11])), (a_11, .inl (cJ_6, 64, .inr (.inl (fun _ => 0))))] H := hP
  have hD : va_D A [(q, .inr (1, [.ref q_1, .ref q_7])), (q_1, .inr (0, [.ref a_5])), (a_5, .inl (cJ_6, 64, .inr (.inl (fun _ => 0)))), (q_7, .inr (0, [.ref a_11])), (a_11, .inl (cJ_6, 64, .inr (.inl (fun _ => 0))))] := hD
  refine lv_aload_n hx hb dX1_init_32 rfl (lv_at hl 0 rfl) ?_
  refine va_get (D := (dC, dI)) (ci := 1) (v := .ref q_7) (C := RX1) (T := TX1) (N := 2) hx hb hts (by decide +kernel) hown hK hP 0 rfl rfl 1 (by decide) (hts (.fieldLink RX1 20 "SmallNumberSets$Buckets" "separators" "LSmallNumberSets$Bits;") (by decide +kernel)) (fun _ h9 => h9) rfl dX1_init_33 ?_
  refine lv_iconst (v := nI 0) hx hb dX1_init_36 (by decide +kernel) ?_
  have hPc := hP.sub (ws' := [(q_7, .inr (0, [.ref a_11])), (a_11, .inl (cJ_6, 64, .inr (.inl (fun _ => 0))))]) [3, 4] rfl
  have hKc := hK.sub (tys' := [(cJ_6, .long)]) [0] rfl
  have hDc := hD.sub (ws' := [(q_7, .inr (0, [.ref a_11])), (a_11, .inl (cJ_6, 64, .inr (.inl (fun _ => 0))))]) [3, 4] (by decide) rfl
  have hFc := va_free (wc := [(q_7, .inr (0, [.ref a_11])), (a_11, .inl (cJ_6, 64, .inr (.inl (fun _ => 0))))]) hD hS hA [3, 4] rfl
  refine va_callv (va_runV (As := [.int (nI 0)]) (rest := []) ⟨hx, hb, hml, hown, hts⟩ (c_X0_put l dC dI q_7 a_11 cJ_6 64 (fun _ => 0) 0 H.size (by omega) (by omega)) (cwV 1 hts gX1_init_X0_put rfl rfl rfl (by decide +kernel) ⟨Nat.le_of_ble_eq_true rfl, Nat.le_of_ble_eq_true rfl⟩) ⟨fun a U g mk q => by obtain ⟨q0, q1, qP, qK, qD⟩ := q; exact ⟨q0, q1, qP, va_K.moved (u := U) (U := U.calling g mk a) (Vm.Alike.refl U.vm) qK, qD⟩, va_recv hKc hPc (ci := 0) (q0 := 0) rfl rfl, fun U hU hW => ⟨rfl, by rw [hU], by rw [hU]; exact hPc, va_K.moved hW.alike hKc, hDc.weaken (fun _ _ _ _ => trivial)⟩⟩ rfl rfl hl.1 rfl (lv_room (Nat.le_of_ble_eq_true rfl)) dX1_init_37 ⟨Nat.le_of_ble_eq_true rfl, Nat.le_of_ble_eq_true rfl⟩) hS (fun q _ h => hFc q h) hFc (fun u_14 t9 H1 locs ht hvm hw_13 hB hz1 hk1 hS => ?_)
  obtain ⟨f'_16, rfl⟩ : ∃ z, z = u_14 := ⟨_, rfl⟩
  obtain ⟨hP1, hK1, hD1⟩ := hB
  rw [ht] at hP1
  have hK1 := va_K.moved hvm.symm hK1
  try dsimp only at hw_13 hP1 hK1 hD1
  obtain ⟨hP, hD⟩ := va_join (wr := [(q, .inr (1, [.ref q_1, .ref q_7])), (q_1, .inr (0, [.ref a_5])), (a_5, .inl (cJ_6, 64, .inr (.inl (fun _ => 0))))]) (w1 := [(q_7, .inr (0, [.ref a_11])), (a_11, .inl (cJ_6, 64, .inr (.inl f'_16)))]) hP hD [3, 4] [0, 1, 2] rfl rfl (by decide) (by decide) hk1 hFc hP1 hD1
  generalize H1 = H at hP hS ⊢
  have hP : va_P (dC, dI) vwCl [(q, .inr (1, [.ref q_1, .ref q_7])), (q_1, .inr (0, [.ref a_5])), (a_5, .inl (cJ_6, 64, .inr (.inl (fun _ => 0)))), (q_7, .inr (0, [.ref a_11])), (a_11, .inl (cJ_6, 64, .inr (.inl f'_16)))] H := hP
  have hD : va_D A [(q, .inr (1, [.ref q_1, .ref q_7])), (q_1, .inr (0, [.ref a_5])), (a_5, .inl (cJ_6, 64, .inr (.inl (fun _ => 0)))), (q_7, .inr (0, [.ref a_11])), (a_11, .inl (cJ_6, 64, .inr (.inl f'_16)))] := hD
  have hP9 := hP.sub (ws' := [(q, .inr (1, [.ref q_1, .ref q_7])), (q_1, .inr (0, [.ref a_5])), (a_5, .inl (cJ_6, 64, .inr (.inl (fun _ => 0)))), (q_7, .inr (0, [.ref a_11])), (a_11, .inl (cJ_6, 64, .inr (.inl f'_16)))]) [0, 1, 2, 3, 4] rfl
  have hD9 := hD.sub (ws' := [(q, .inr (1, [.ref q_1, .ref q_7])), (q_1, .inr (0, [.ref a_5])), (a_5, .inl (cJ_6, 64, .inr (.inl (fun _ => 0)))), (q_7, .inr (0, [.ref a_11])), (a_11, .inl (cJ_6, 64, .inr (.inl f'_16)))]) [0, 1, 2, 3, 4] (by decide) rfl
  have hK9 := hK.sub (tys' := [(cJ_6, .long)]) [0] rfl
  exact W.vret hx hb hr (fun t9 ht hW => ⟨⟨f'_16, rfl, fun x => by rw [hw_13 x, bo_0, Bool.or_false], q_1, a_5, q_7, a_11, cJ_6, by rw [ht]; exact hP9, va_K.moved hW.alike hK9, hD9⟩, hS.F ht⟩) hS.2.2 dX1_init_40
set_option maxHeartbeats 4000000 in
set_option maxRecDepth 100000 in
/-- Tree() -/
theorem c_X4_init (l : Launch) (dC : Nat → ClassId) (dI : Nat → Nat → Nat) (q : Nat) (s0 : Int64) (l0 : Int32) (sz : Nat) : Met l yX4_init wsX4_init ({ frames := 1, cells := 1, slots := 64, locals := 12 }) (va_Pc [.ref q] (fun U => U.heap.size = sz ∧ va_P (dC, dI) vwCl [(q, .inr (4, [.null, .long s0, .int l0]))] U.heap ∧ va_K (dC, dI) vwCl [] U ∧ va_D (fun _ => True) [(q, .inr (4, [.null, .long s0, .int l0]))])) (va_Qv (fun (u : Unit) => True) (fun (u : Unit) (t : State) => ∃ (ca : Nat), ∃ (cJ : ClassId), va_P (dC, dI) vwCl [(q, .inr (4, [.ref ca, .long 0, .int (oI none)])), (ca, .inl (cJ, 64, .inr (.inl (fun _ => 0))))] t.heap ∧ va_K (dC, dI) vwCl [(cJ, .long)] t ∧ va_D (va_A [(q, .inr (4, [.null, .long s0, .int l0]))] sz) [(q, .inr (4, [.ref ca, .long 0, .int (oI none)])), (ca, .inl (cJ, 64, .inr (.inl (fun _ => 0))))]) (va_A [(q, .inr (4, [.null, .long s0, .int l0]))] sz)) 1 64 (va_A [(q, .inr (4, [.null, .long s0, .int l0]))] sz) := by
  refine Met.ofW (cc := cX4_init) (maxL := 1) (ret := none) (by decide) rfl ?_
  intro p e s m args below meth c s₁ B hml hv
  obtain ⟨rfl, hsz, hP, hK, hD0⟩ := hv
  have hx := B.exec
  have hb := B.bytes
  have hr := B.returns
  have hts := atoms_spec (ws := wsX4_init) B.pre
  have hown : s.vm.findClass RX4 = some m.cls := findClass_of_methodNamed B.named
  have hlocks := B.notSynchronized
  have hin : meth.name = "<init>" := (name_of_methodNamed B.named B.method).1
  subst hsz
  have hD := hD0.self (sz := s.heap.size)
  generalize hAe : va_A [(q, .inr (4, [.null, .long s0, .int l0]))] s.heap.size = A at hD ⊢
  have hA : ∀ q : Nat, s.heap.size ≤ q → A q := fun q h => by rw [← hAe]; exact Or.inr h
  have hS : va_S A s.heap s.heap [] := va_S.rf
  have hP : va_P (dC, dI) vwCl [(q, .inr (4, [.null, .long s0, .int l0]))] s.heap := hP
  have hl := lv_entry ([.ref q]) (n := 1) (Nat.le_of_ble_eq_true rfl)
  rw [lg_entry_eq]
  generalize (lg_sl ([.ref q]) ++ List.replicate (1 - (lg_sl ([.ref q])).length) Slot.unset).toArray = ls at hl ⊢
  have hl : lv_has ls 1 [(0, .ref q)] := hl
  refine lv_aload_n hx hb dX4_init_0 rfl (lv_at hl 0 rfl) ?_
  refine W.objInit hx hb hown (hts (.methodLink RX4 3 objectInit) (by decide +kernel)) (hts (.instanceMethod objectInit) (by decide +kernel)) (hts (.code objectInit ⟨#[0xb1]⟩ 1 none) (by decide +kernel)) rfl (by rw [hml]; exact hl.1) rfl dX4_init_1 (Nat.le_of_ble_eq_true rfl) (Nat.le_of_ble_eq_true rfl) ?_
  refine W.eq (g2 := F0 m 4 ls []) rfl ?_
  refine lv_aload_n hx hb dX4_init_4 rfl (lv_at hl 0 rfl) ?_
  refine lv_bipush (v := nI 64) hx hb dX4_init_5 (by decide +kernel) ?_
  refine va_newa (atype := .long) (ty := .long) (N' := 64) (a0 := (64, .inr (.inl (fun _ => 0)))) hx hb (hts (.arrayClass .long) (by decide +kernel)) rfl hK hP hD hS hA (fun _ => rfl) (nI_pos (by omega)) (nI_clamp (by omega)) (by decide) (by decide) (by decide) dX4_init_7 (fun q_1 cA_2 H hK hP hD hS => ?_)
  have hP : va_P (dC, dI) vwCl [(q, .inr (4, [.null, .long s0, .int l0])), (q_1, .inl (cA_2, 64, .inr (.inl (fun _ => 0))))] H := hP
  have hD : va_D A [(q, .inr (4, [.null, .long s0, .int l0])), (q_1, .inl (cA_2, 64, .inr (.inl (fun _ => 0))))] := hD
  have hK : va_K (dC, dI) vwCl [(cA_2, .long)] s := hK
  refine W.cs (cells' := 1) (slots' := 64) rfl rfl ?_
  refine va_putF (D := (dC, dI)) (ci := 4) (v := .ref q_1) (ty := .array .long) (C := RX4) (T := TX4) (N := 3) hx hb hts (by decide +kernel) tyX4 tyX4_ok nmX4 hown hK hP hD hS 0 rfl rfl 0 (by decide) (hts (.fieldLink RX4 9 "SmallNumberSets$Tree" "clusters" "[J") (by decide +kernel)) (fun _ h9 => h9) rfl hin rfl (by decide +kernel) rfl rfl (Nat.le_of_ble_eq_true rfl) dX4_init_9 (fun H locs hP hD hS => ?_)
  have hP : va_P (dC, dI) vwCl [(q, .inr (4, [.ref q_1, .long s0, .int l0])), (q_1, .inl (cA_2, 64, .inr (.inl (fun _ => 0))))] H := hP
  have hD : va_D A [(q, .inr (4, [.ref q_1, .long s0, .int l0])), (q_1, .inl (cA_2, 64, .inr (.inl (fun _ => 0))))] := hD
  refine lv_aload_n hx hb dX4_init_12 rfl (lv_at hl 0 rfl) ?_
  refine lv_lconst (v := 0) hx hb dX4_init_13 (by decide +kernel) ?_
  refine va_put (D := (dC, dI)) (ci := 4) (v := .long (0 : Int64)) (ty := .long) (C := RX4) (T := TX4) (N := 3) hx hb hts (by decide +kernel) tyX4 tyX4_ok nmX4 hown hK hP hD hS 0 rfl rfl 1 (by decide) (hts (.fieldLink RX4 15 "SmallNumberSets$Tree" "summary" "J") (by decide +kernel)) (fun _ h9 => h9) rfl (by decide +kernel) rfl rfl (Nat.le_of_ble_eq_true rfl) dX4_init_14 (fun H locs hP hD hS => ?_)
  have hP : va_P (dC, dI) vwCl [(q, .inr (4, [.ref q_1, .long (0 : Int64), .int l0])), (q_1, .inl (cA_2, 64, .inr (.inl (fun _ => 0))))] H := hP
  have hD : va_D A [(q, .inr (4, [.ref q_1, .long (0 : Int64), .int l0])), (q_1, .inl (cA_2, 64, .inr (.inl (fun _ => 0))))] := hD
  refine lv_aload_n hx hb dX4_init_17 rfl (lv_at hl 0 rfl) ?_
  refine lv_iconst (v := -1) hx hb dX4_init_18 (by decide +kernel) ?_
  refine va_put (D := (dC, dI)) (ci := 4) (v := .int (-1)) (ty := .int) (C := RX4) (T := TX4) (N := 3) hx hb hts (by decide +kernel) tyX4 tyX4_ok nmX4 hown hK hP hD hS 0 rfl rfl 2 (by decide) (hts (.fieldLink RX4 19 "SmallNumberSets$Tree" "least" "I") (by decide +kernel)) (fun _ h9 => h9) rfl (by decide +kernel) rfl rfl (Nat.le_of_ble_eq_true rfl) dX4_init_19 (fun H locs hP hD hS => ?_)
  have hP : va_P (dC, dI) vwCl [(q, .inr (4, [.ref q_1, .long (0 : Int64), .int (-1)])), (q_1, .inl (cA_2, 64, .inr (.inl (fun _ => 0))))] H := hP
  have hD : va_D A [(q, .inr (4, [.ref q_1, .long (0 : Int64), .int (-1)])), (q_1, .inl (cA_2, 64, .inr (.inl (fun _ => 0))))] := hD
  have hP9 := hP.sub (ws' := [(q, .inr (4, [.ref q_1, .long (0 : Int64), .int (-1)])), (q_1, .inl (cA_2, 64, .inr (.inl (fun _ => 0))))]) [0, 1] rfl
  have hD9 := hD.sub (ws' := [(q, .inr (4, [.ref q_1, .long (0 : Int64), .int (-1)])), (q_1, .inl (cA_2, 64, .inr (.inl (fun _ => 0))))]) [0, 1] (by decide) rfl
  have hK9 := hK.sub (tys' := [(cA_2, .long)]) [0] rfl
  exact W.vret hx hb hr (fun t9 ht hW => ⟨⟨(), rfl, trivial, q_1, cA_2, by rw [ht]; exact hP9, va_K.moved hW.alike hK9, hD9⟩, hS.F ht⟩) hS.2.2 dX4_init_22
set_option maxHeartbeats 4000000 in
set_option maxRecDepth 100000 in
/-- Trie() -/
theorem c_X5_init (l : Launch) (dC : Nat → ClassId) (dI : Nat → Nat → Nat) (q : Nat) (sz : Nat) : Met l yX5_init wsX5_init ({ frames := 2, cells := 2, slots := 129, locals := 37 }) (va_Pc [.ref q] (fun U => U.heap.size = sz ∧ va_P (dC, dI) vwCl [(q, .inr (5, [.null]))] U.heap ∧ va_K (dC, dI) vwCl [] U ∧ va_D (fun _ => True) [(q, .inr (5, [.null]))])) (va_Qv (fun (u : Unit) => True) (fun (u : Unit) (t : State) => ∃ (b : Nat), ∃ (a : Nat), ∃ (cJ : ClassId), va_P (dC, dI) vwCl [(q, .inr (5, [.ref b])), (b, .inr (0, [.ref a])), (a, .inl (cJ, 128, .inr (.inl (fun _ => 0))))] t.heap ∧ va_K (dC, dI) vwCl [(cJ, .long)] t ∧ va_D (va_A [(q, .inr (5, [.null]))] sz) [(q, .inr (5, [.ref b])), (b, .inr (0, [.ref a])), (a, .inl (cJ, 128, .inr (.inl (fun _ => 0))))]) (va_A [(q, .inr (5, [.null]))] sz)) 2 129 (va_A [(q, .inr (5, [.null]))] sz) := by
  refine Met.ofW (cc := cX5_init) (maxL := 1) (ret := none) (by decide) rfl ?_
  intro p e s m args below meth c s₁ B hml hv
  obtain ⟨rfl, hsz, hP, hK, hD0⟩ := hv
  have hx := B.exec
  have hb := B.bytes
  have hr := B.returns
  have hts := atoms_spec (ws := wsX5_init) B.pre
  have hown : s.vm.findClass RX5 = some m.cls := findClass_of_methodNamed B.named
  have hlocks := B.notSynchronized
  have hin : meth.name = "<init>" := (name_of_methodNamed B.named B.method).1
  subst hsz
  have hD := hD0.self (sz := s.heap.size)
  generalize hAe : va_A [(q, .inr (5, [.null]))] s.heap.size = A at hD ⊢
  have hA : ∀ q : Nat, s.heap.size ≤ q → A q := fun q h => by rw [← hAe]; exact Or.inr h
  have hS : va_S A s.heap s.heap [] := va_S.rf
  have hP : va_P (dC, dI) vwCl [(q, .inr (5, [.null]))] s.heap := hP
  have hl := lv_entry ([.ref q]) (n := 1) (Nat.le_of_ble_eq_true rfl)
  rw [lg_entry_eq]
  generalize (lg_sl ([.ref q]) ++ List.replicate (1 - (lg_sl ([.ref q])).length) Slot.unset).toArray = ls at hl ⊢
  have hl : lv_has ls 1 [(0, .ref q)] := hl
  refine lv_aload_n hx hb dX5_init_0 rfl (lv_at hl 0 rfl) ?_
  refine W.objInit hx hb hown (hts (.methodLink RX5 3 objectInit) (by decide +kernel)) (hts (.instanceMethod objectInit) (by decide +kernel)) (hts (.code objectInit ⟨#[0xb1]⟩ 1 none) (by decide +kernel)) rfl (by rw [hml]; exact hl.1) rfl dX5_init_1 (Nat.le_of_ble_eq_true rfl) (Nat.le_of_ble_eq_true rfl) ?_
  refine W.eq (g2 := F0 m 4 ls []) rfl ?_
  refine lv_aload_n hx hb dX5_init_4 rfl (lv_at hl 0 rfl) ?_
  have hkc : 0 + 1 ≤ (2 : Nat) := by decide
  have hks : 0 + 1 ≤ (129 : Nat) := by decide
  refine va_new (ci := 0) (fs := [.null]) (C := RX0) (T := TX0) (N := 1) hx hb hts (by decide +kernel) tyX0 tyX0_ok hown (hts (.classLink RX5 9 RX0) (by decide +kernel)) (hts (.instantiable RX0 1) (by decide +kernel)) (hts (.initialized RX0) (by decide +kernel)) hK hP hD hS hA rfl (fun j hj => by rcases (show j = 0 by omega) with rfl <;> rfl) hkc hks dX5_init_5 (fun q_1 H hP hD hS => ?_)
  have hP : va_P (dC, dI) vwCl [(q, .inr (5, [.null])), (q_1, .inr (0, [.null]))] H := hP
  have hD : va_D A [(q, .inr (5, [.null])), (q_1, .inr (0, [.null]))] := hD
  refine W.cs (cells' := 1) (slots' := 1) rfl rfl ?_
  refine lv_dup hx hb dX5_init_8 rfl ?_
  refine lv_sipush (v := nI 8192) hx hb dX5_init_9 (by decide +kernel) ?_
  have hPc := hP.sub (ws' := [(q_1, .inr (0, [.null]))]) [1] rfl
  have hKc := hK.sub (tys' := []) [] rfl
  have hDc := hD.sub (ws' := [(q_1, .inr (0, [.null]))]) [1] (by decide) rfl
  have hFc := va_free (wc := [(q_1, .inr (0, [.null]))]) hD hS hA [1] rfl
  refine va_callv (va_runI (As := [.int (nI 8192)]) (rest := [.ref q_1, .ref q]) ⟨hx, hb, hml, hown, hts⟩ (c_X0_init_128 l dC dI q_1 H.size ) (cwI 1 hts gX5_init_X0_init rfl rfl rfl (hts (.initialized RX0) (by decide +kernel)) (hts (.methodLink RX5 11 yX0_init) (by decide +kernel)) (hts (.instanceMethod yX0_init) (by decide +kernel)) rfl (by decide +kernel) ⟨Nat.le_of_ble_eq_true rfl, Nat.le_of_ble_eq_true rfl⟩) ⟨fun a U g mk q => by obtain ⟨q0, q1, qP, qK, qD⟩ := q; exact ⟨q0, q1, qP, va_K.moved (u := U) (U := U.calling g mk a) (Vm.Alike.refl U.vm) qK, qD⟩, fun U hU hW => ⟨rfl, by rw [hU], by rw [hU]; exact hPc, va_K.moved hW.alike hKc, hDc.weaken (fun _ _ _ _ => trivial)⟩⟩ rfl rfl hl.1 rfl (lv_room (Nat.le_of_ble_eq_true rfl)) dX5_init_12 ⟨Nat.le_of_ble_eq_true rfl, Nat.le_of_ble_eq_true rfl⟩) hS (fun q _ h => hFc q h) hFc (fun u_3 t9 H1 locs ht hvm hw_2 hB hz1 hk1 hS => ?_)
  obtain ⟨a_5, cJ_6, hP1, hK1, hD1⟩ := hB
  rw [ht] at hP1
  have hK1 := va_K.moved hvm.symm hK1
  try dsimp only at hw_2 hP1 hK1 hD1
  obtain ⟨hP, hD⟩ := va_join (wr := [(q, .inr (5, [.null]))]) (w1 := [(q_1, .inr (0, [.ref a_5])), (a_5, .inl (cJ_6, 128, .inr (.inl (fun _ => 0))))]) hP hD [1] [0] rfl rfl (by decide) (by decide) hk1 hFc hP1 hD1
  have hK := hK.app (hK1.sub (tys' := [(cJ_6, .long)]) [0] rfl)
  generalize H1 = H at hP hS ⊢
  have hP : va_P (dC, dI) vwCl [(q, .inr (5, [.null])), (q_1, .inr (0, [.ref a_5])), (a_5, .inl (cJ_6, 128, .inr (.inl (fun _ => 0))))] H := hP
  have hD : va_D A [(q, .inr (5, [.null])), (q_1, .inr (0, [.ref a_5])), (a_5, .inl (cJ_6, 128, .inr (.inl (fun _ => 0))))] := hD
  have hK : va_K (dC, dI) vwCl [(cJ_6, .long)] s := hK
  refine W.cs (cells' := 2) (slots' := 129) rfl rfl ?_
  refine va_putF (D := (dC, dI)) (ci := 5) (v := .ref q_1) (ty := .object "SmallNumberSets$Bits") (C := RX5) (T := TX5) (N := 1) hx hb hts (by decide +kernel) tyX5 tyX5_ok nmX5 hown hK hP hD hS 0 rfl rfl 0 (by decide) (hts (.fieldLink RX5 14 "SmallNumberSets$Trie" "nodes" "LSmallNumberSets$Bits;") (by decide +kernel)) (fun _ h9 => h9) rfl hin rfl (by decide +kernel) rfl rfl (Nat.le_of_ble_eq_true rfl) dX5_init_15 (fun H locs hP hD hS => ?_)
  have hP : va_P (dC, dI) vwCl [(q, .inr (5, [.ref q_1])), (q_1, .inr (0, [.ref a_5])), (a_5, .inl (cJ_6, 128, .inr (.inl (fun _ => 0))))] H := hP
  have hD : va_D A [(q, .inr (5, [.ref q_1])), (q_1, .inr (0, [.ref a_5])), (a_5, .inl (cJ_6, 128, .inr (.inl (fun _ => 0))))] := hD
  have hP9 := hP.sub (ws' := [(q, .inr (5, [.ref q_1])), (q_1, .inr (0, [.ref a_5])), (a_5, .inl (cJ_6, 128, .inr (.inl (fun _ => 0))))]) [0, 1, 2] rfl
  have hD9 := hD.sub (ws' := [(q, .inr (5, [.ref q_1])), (q_1, .inr (0, [.ref a_5])), (a_5, .inl (cJ_6, 128, .inr (.inl (fun _ => 0))))]) [0, 1, 2] (by decide) rfl
  have hK9 := hK.sub (tys' := [(cJ_6, .long)]) [0] rfl
  exact W.vret hx hb hr (fun t9 ht hW => ⟨⟨(), rfl, trivial, q_1, a_5, cJ_6, by rw [ht]; exact hP9, va_K.moved hW.alike hK9, hD9⟩, hS.F ht⟩) hS.2.2 dX5_init_18
set_option maxHeartbeats 4000000 in
set_option maxRecDepth 100000 in
/-- NumberSet.put -/
theorem c_X3_put (l : Launch) (dC : Nat → ClassId) (dI : Nat → Nat → Nat) (q : Nat) (tq : Nat) (ca : Nat) (rq : Nat) (rb : Nat) (rd : Nat) (uq : Nat) (bm : Nat) (am : Nat) (bs : Nat) (ap : Nat) (cJ : ClassId) (fm : Nat → Int64) (fs : Nat → Int64) (ft : Nat → Int64) (fc : Nat → Int64) (sm : Int64) (lo : Option Nat) (k : Nat) (sz : Nat) (hN : NI fm fs ft fc sm lo) (hk : k < 4096) : Met l yX3_put wsX3_put ({ frames := 6, cells := 0, slots := 0, locals := 135 }) (va_Pc [.ref q, .int (nI k)] (fun U => U.heap.size = sz ∧ va_P (dC, dI) vwCl [(q, .inr (3, [.ref tq, .ref rq, .ref uq])), (tq, .inr (4, [.ref ca, .long sm, .int (oI lo)])), (ca, .inl (cJ, 64, .inr (.inl fc))), (rq, .inr (5, [.ref rb])), (rb, .inr (0, [.ref rd])), (rd, .inl (cJ, 128, .inr (.inl ft))), (uq, .inr (1, [.ref bm, .ref bs])), (bm, .inr (0, [.ref am])), (am, .inl (cJ, 64, .inr (.inl fm))), (bs, .inr (0, [.ref ap])), (ap, .inl (cJ, 64, .inr (.inl fs)))] U.heap ∧ va_K (dC, dI) vwCl [(cJ, .long)] U ∧ va_D (fun _ => True) [(q, .inr (3, [.ref tq, .ref rq, .ref uq])), (tq, .inr (4, [.ref ca, .long sm, .int (oI lo)])), (ca, .inl (cJ, 64, .inr (.inl fc))), (rq, .inr (5, [.ref rb])), (rb, .inr (0, [.ref rd])), (rd, .inl (cJ, 128, .inr (.inl ft))), (uq, .inr (1, [.ref bm, .ref bs])), (bm, .inr (0, [.ref am])), (am, .inl (cJ, 64, .inr (.inl fm))), (bs, .inr (0, [.ref ap])), (ap, .inl (cJ, 64, .inr (.inl fs)))])) (va_Qi (fun (r : Int32) (u : (Nat → Int64) × (Nat → Int64) × (Nat → Int64) × (Nat → Int64) × Int64 × (Option Nat)) => r = b2i (!bo fm k) ∧ NI u.1 u.2.1 u.2.2.1 u.2.2.2.1 u.2.2.2.2.1 u.2.2.2.2.2 ∧ (∀ x, x < 4096 → bo u.1 x = ins (bo fm) k x) ∧ ∀ x, x < 4096 → bo u.2.1 x = putP (bo fm) (bo fs) k x) (fun (u : (Nat → Int64) × (Nat → Int64) × (Nat → Int64) × (Nat → Int64) × Int64 × (Option Nat)) (t : State) => va_P (dC, dI) vwCl [(q, .inr (3, [.ref tq, .ref rq, .ref uq])), (tq, .inr (4, [.ref ca, .long u.2.2.2.2.1, .int (oI u.2.2.2.2.2)])), (ca, .inl (cJ, 64, .inr (.inl u.2.2.2.1))), (rq, .inr (5, [.ref rb])), (rb, .inr (0, [.ref rd])), (rd, .inl (cJ, 128, .inr (.inl u.2.2.1))), (uq, .inr (1, [.ref bm, .ref bs])), (bm, .inr (0, [.ref am])), (am, .inl (cJ, 64, .inr (.inl u.1))), (bs, .inr (0, [.ref ap])), (ap, .inl (cJ, 64, .inr (.inl u.2.1)))] t.heap ∧ va_K (dC, dI) vwCl [(cJ, .long)] t ∧ va_D (va_A [(q, .inr (3, [.ref tq, .ref rq, .ref uq])), (tq, .inr (4, [.ref ca, .long sm, .int (oI lo)])), (ca, .inl (cJ, 64, .inr (.inl fc))), (rq, .inr (5, [.ref rb])), (rb, .inr (0, [.ref rd])), (rd, .inl (cJ, 128, .inr (.inl ft))), (uq, .inr (1, [.ref bm, .ref bs])), (bm, .inr (0, [.ref am])), (am, .inl (cJ, 64, .inr (.inl fm))), (bs, .inr (0, [.ref ap])), (ap, .inl (cJ, 64, .inr (.inl fs)))] sz) [(q, .inr (3, [.ref tq, .ref rq, .ref uq])), (tq, .inr (4, [.ref ca, .long u.2.2.2.2.1, .int (oI u.2.2.2.2.2)])), (ca, .inl (cJ, 64, .inr (.inl u.2.2.2.1))), (rq, .inr (5, [.ref rb])), (rb, .inr (0, [.ref rd])), (rd, .inl (cJ, 128, .inr (.inl u.2.2.1))), (uq, .inr (1, [.ref bm, .ref bs])), (bm, .inr (0, [.ref am])), (am, .inl (cJ, 64, .inr (.inl u.1))), (bs, .inr (0, [.ref ap])), (ap, .inl (cJ, 64, .inr (.inl u.2.1)))]) (va_A [(q, .inr (3, [.ref tq, .ref rq, .ref uq])), (tq, .inr (4, [.ref ca, .long sm, .int (oI lo)])), (ca, .inl (cJ, 64, .inr (.inl fc))), (rq, .inr (5, [.ref rb])), (rb, .inr (0, [.ref rd])), (rd, .inl (cJ, 128, .inr (.inl ft))), (uq, .inr (1, [.ref bm, .ref bs])), (bm, .inr (0, [.ref am])), (am, .inl (cJ, 64, .inr (.inl fm))), (bs, .inr (0, [.ref ap])), (ap, .inl (cJ, 64, .inr (.inl fs)))] sz)) 0 0 (va_A [(q, .inr (3, [.ref tq, .ref rq, .ref uq])), (tq, .inr (4, [.ref ca, .long sm, .int (oI lo)])), (ca, .inl (cJ, 64, .inr (.inl fc))), (rq, .inr (5, [.ref rb])), (rb, .inr (0, [.ref rd])), (rd, .inl (cJ, 128, .inr (.inl ft))), (uq, .inr (1, [.ref bm, .ref bs])), (bm, .inr (0, [.ref am])), (am, .inl (cJ, 64, .inr (.inl fm))), (bs, .inr (0, [.ref ap])), (ap, .inl (cJ, 64, .inr (.inl fs)))] sz) := by
  refine Met.ofW (cc := cX3_put) (maxL := 2) (ret := (some .boolean)) (by decide) rfl ?_
  intro p e s m args below meth c s₁ B hml hv
  obtain ⟨rfl, hsz, hP, hK, hD0⟩ := hv
  have hx := B.exec
  have hb := B.bytes
  have hr := B.returns
  have hts := atoms_spec (ws := wsX3_put) B.pre
  have hown : s.vm.findClass RX3 = some m.cls := findClass_of_methodNamed B.named
  have hlocks := B.notSynchronized
  subst hsz
  have hD := hD0.self (sz := s.heap.size)
  generalize hAe : va_A [(q, .inr (3, [.ref tq, .ref rq, .ref uq])), (tq, .inr (4, [.ref ca, .long sm, .int (oI lo)])), (ca, .inl (cJ, 64, .inr (.inl fc))), (rq, .inr (5, [.ref rb])), (rb, .inr (0, [.ref rd])), (rd, .inl (cJ, 128, .inr (.inl ft))), (uq, .inr (1, [.ref bm, .ref bs])), (bm, .inr (0, [.ref am])), (am, .inl (cJ, 64, .inr (.inl fm))), (bs, .inr (0, [.ref ap])), (ap, .inl (cJ, 64, .inr (.inl fs)))] s.heap.size = A at hD ⊢
  have hA : ∀ q : Nat, s.heap.size ≤ q → A q := fun q h => by rw [← hAe]; exact Or.inr h
  have hS : va_S A s.heap s.heap [] := va_S.rf
  have hP : va_P (dC, dI) vwCl [(q, .inr (3, [.ref tq, .ref rq, .ref uq])), (tq, .inr (4, [.ref ca, .long sm, .int (oI lo)])), (ca, .inl (cJ, 64, .inr (.inl fc))), (rq, .inr (5, [.ref rb])), (rb, .inr (0, [.ref rd])), (rd, .inl (cJ, 128, .inr (.inl ft))), (uq, .inr (1, [.ref bm, .ref bs])), (bm, .inr (0, [.ref am])), (am, .inl (cJ, 64, .inr (.inl fm))), (bs, .inr (0, [.ref ap])), (ap, .inl (cJ, 64, .inr (.inl fs)))] s.heap := hP
  have hl := lv_entry ([.ref q, .int (nI k)]) (n := 2) (Nat.le_of_ble_eq_true rfl)
  rw [lg_entry_eq]
  generalize (lg_sl ([.ref q, .int (nI k)]) ++ List.replicate (2 - (lg_sl ([.ref q, .int (nI k)])).length) Slot.unset).toArray = ls at hl ⊢
  have hl : lv_has ls 2 [(0, .ref q), (1, .int (nI k))] := hl
  refine lv_aload_n hx hb dX3_put_0 rfl (lv_at hl 0 rfl) ?_
  refine va_get (D := (dC, dI)) (ci := 3) (v := .ref uq) (C := RX3) (T := TX3) (N := 3) hx hb hts (by decide +kernel) hown hK hP 0 rfl rfl 2 (by decide) (hts (.fieldLink RX3 26 "SmallNumberSets$NumberSet" "buckets" "LSmallNumberSets$Buckets;") (by decide +kernel)) (fun _ h9 => h9) rfl dX3_put_1 ?_
  refine lv_iload_n hx hb dX3_put_4 rfl (lv_at hl 1 rfl) ?_
  have hPc := hP.sub (ws' := [(uq, .inr (1, [.ref bm, .ref bs])), (bm, .inr (0, [.ref am])), (am, .inl (cJ, 64, .inr (.inl fm))), (bs, .inr (0, [.ref ap])), (ap, .inl (cJ, 64, .inr (.inl fs)))]) [6, 7, 8, 9, 10] rfl
  have hKc := hK.sub (tys' := [(cJ, .long)]) [0] rfl
  refine vp_callSi (W.runV (As := [.int (nI k)]) (rest := []) ⟨hx, hb, hml, hown, hts⟩ (c_X1_has l dC dI uq bm am bs ap cJ fm fs k (by omega)) (cwV 1 hts gX3_put_X1_has rfl rfl rfl (by decide +kernel) ⟨Nat.le_of_ble_eq_true rfl, Nat.le_of_ble_eq_true rfl⟩) ⟨fun a U g mk q => by obtain ⟨q0, qP, qK⟩ := q; exact ⟨q0, qP, va_K.moved (u := U) (U := U.calling g mk a) (Vm.Alike.refl U.vm) qK⟩, va_recv hKc hPc (ci := 1) (q0 := 0) rfl rfl, fun U hU hW => ⟨rfl, by rw [hU]; exact hPc, va_K.moved hW.alike hKc⟩⟩ rfl rfl hl.1 rfl (lv_room (Nat.le_of_ble_eq_true rfl)) dX3_put_5 ⟨Nat.le_of_ble_eq_true rfl, Nat.le_of_ble_eq_true rfl⟩) (fun r_2 hw_1 => ?_)
  subst hw_1
  refine lv_if_eq (tgt := 13) hx hb dX3_put_8 (by decide) (fun qc_3 => ?_) (fun qc_3 => ?_)
  · have c_3 : (bo fm k) = false := b2i_f qc_3
    refine lv_aload_n hx hb dX3_put_13 rfl (lv_at hl 0 rfl) ?_
    refine va_get (D := (dC, dI)) (ci := 3) (v := .ref tq) (C := RX3) (T := TX3) (N := 3) hx hb hts (by decide +kernel) hown hK hP 0 rfl rfl 0 (by decide) (hts (.fieldLink RX3 10 "SmallNumberSets$NumberSet" "tree" "LSmallNumberSets$Tree;") (by decide +kernel)) (fun _ h9 => h9) rfl dX3_put_14 ?_
    refine lv_iload_n hx hb dX3_put_17 rfl (lv_at hl 1 rfl) ?_
    have hPc := hP.sub (ws' := [(tq, .inr (4, [.ref ca, .long sm, .int (oI lo)])), (ca, .inl (cJ, 64, .inr (.inl fc)))]) [1, 2] rfl
    have hKc := hK.sub (tys' := [(cJ, .long)]) [0] rfl
    have hDc := hD.sub (ws' := [(tq, .inr (4, [.ref ca, .long sm, .int (oI lo)])), (ca, .inl (cJ, 64, .inr (.inl fc)))]) [1, 2] (by decide) rfl
    have hFc := va_free (wc := [(tq, .inr (4, [.ref ca, .long sm, .int (oI lo)])), (ca, .inl (cJ, 64, .inr (.inl fc)))]) hD hS hA [1, 2] rfl
    refine va_callv (va_runV (As := [.int (nI k)]) (rest := []) ⟨hx, hb, hml, hown, hts⟩ (c_X4_put l dC dI tq ca cJ fc sm lo (bo fm) k s.heap.size hN.2.2 (by omega) c_3) (cwV 1 hts gX3_put_X4_put rfl rfl rfl (by decide +kernel) ⟨Nat.le_of_ble_eq_true rfl, Nat.le_of_ble_eq_true rfl⟩) ⟨fun a U g mk q => by obtain ⟨q0, q1, qP, qK, qD⟩ := q; exact ⟨q0, q1, qP, va_K.moved (u := U) (U := U.calling g mk a) (Vm.Alike.refl U.vm) qK, qD⟩, va_recv hKc hPc (ci := 4) (q0 := 0) rfl rfl, fun U hU hW => ⟨rfl, by rw [hU], by rw [hU]; exact hPc, va_K.moved hW.alike hKc, hDc.weaken (fun _ _ _ _ => trivial)⟩⟩ rfl rfl hl.1 rfl (lv_room (Nat.le_of_ble_eq_true rfl)) dX3_put_18 ⟨Nat.le_of_ble_eq_true rfl, Nat.le_of_ble_eq_true rfl⟩) hS (fun q _ h => hFc q h) hFc (fun u_5 t9 H1 locs ht hvm hw_4 hB hz1 hk1 hS => ?_)
    obtain ⟨f'_7, sm'_8, lo'_9⟩ := u_5
    obtain ⟨hP1, hK1, hD1⟩ := hB
    rw [ht] at hP1
    have hK1 := va_K.moved hvm.symm hK1
    try dsimp only at hw_4 hP1 hK1 hD1
    obtain ⟨hP, hD⟩ := va_join (wr := [(q, .inr (3, [.ref tq, .ref rq, .ref uq])), (rq, .inr (5, [.ref rb])), (rb, .inr (0, [.ref rd])), (rd, .inl (cJ, 128, .inr (.inl ft))), (uq, .inr (1, [.ref bm, .ref bs])), (bm, .inr (0, [.ref am])), (am, .inl (cJ, 64, .inr (.inl fm))), (bs, .inr (0, [.ref ap])), (ap, .inl (cJ, 64, .inr (.inl fs)))]) (w1 := [(tq, .inr (4, [.ref ca, .long sm'_8, .int (oI lo'_9)])), (ca, .inl (cJ, 64, .inr (.inl f'_7)))]) hP hD [1, 2] [0, 3, 4, 5, 6, 7, 8, 9, 10] rfl rfl (by decide) (by decide) hk1 hFc hP1 hD1
    generalize H1 = H at hP hS ⊢
    have hP := hP.sub (ws' := [(q, .inr (3, [.ref tq, .ref rq, .ref uq])), (tq, .inr (4, [.ref ca, .long sm'_8, .int (oI lo'_9)])), (ca, .inl (cJ, 64, .inr (.inl f'_7))), (rq, .inr (5, [.ref rb])), (rb, .inr (0, [.ref rd])), (rd, .inl (cJ, 128, .inr (.inl ft))), (uq, .inr (1, [.ref bm, .ref bs])), (bm, .inr (0, [.ref am])), (am, .inl (cJ, 64, .inr (.inl fm))), (bs, .inr (0, [.ref ap])), (ap, .inl (cJ, 64, .inr (.inl fs)))]) [0, 9, 10, 1, 2, 3, 4, 5, 6, 7, 8] rfl
    have hD := hD.sub (ws' := [(q, .inr (3, [.ref tq, .ref rq, .ref uq])), (tq, .inr (4, [.ref ca, .long sm'_8, .int (oI lo'_9)])), (ca, .inl (cJ, 64, .inr (.inl f'_7))), (rq, .inr (5, [.ref rb])), (rb, .inr (0, [.ref rd])), (rd, .inl (cJ, 128, .inr (.inl ft))), (uq, .inr (1, [.ref bm, .ref bs])), (bm, .inr (0, [.ref am])), (am, .inl (cJ, 64, .inr (.inl fm))), (bs, .inr (0, [.ref ap])), (ap, .inl (cJ, 64, .inr (.inl fs)))]) [0, 9, 10, 1, 2, 3, 4, 5, 6, 7, 8] (by decide) rfl
    have hP : va_P (dC, dI) vwCl [(q, .inr (3, [.ref tq, .ref rq, .ref uq])), (tq, .inr (4, [.ref ca, .long sm'_8, .int (oI lo'_9)])), (ca, .inl (cJ, 64, .inr (.inl f'_7))), (rq, .inr (5, [.ref rb])), (rb, .inr (0, [.ref rd])), (rd, .inl (cJ, 128, .inr (.inl ft))), (uq, .inr (1, [.ref bm, .ref bs])), (bm, .inr (0, [.ref am])), (am, .inl (cJ, 64, .inr (.inl fm))), (bs, .inr (0, [.ref ap])), (ap, .inl (cJ, 64, .inr (.inl fs)))] H := hP
    have hD : va_D A [(q, .inr (3, [.ref tq, .ref rq, .ref uq])), (tq, .inr (4, [.ref ca, .long sm'_8, .int (oI lo'_9)])), (ca, .inl (cJ, 64, .inr (.inl f'_7))), (rq, .inr (5, [.ref rb])), (rb, .inr (0, [.ref rd])), (rd, .inl (cJ, 128, .inr (.inl ft))), (uq, .inr (1, [.ref bm, .ref bs])), (bm, .inr (0, [.ref am])), (am, .inl (cJ, 64, .inr (.inl fm))), (bs, .inr (0, [.ref ap])), (ap, .inl (cJ, 64, .inr (.inl fs)))] := hD
    have h1 := hw_4
    refine lv_aload_n hx hb dX3_put_21 rfl (lv_at hl 0 rfl) ?_
    refine va_get (D := (dC, dI)) (ci := 3) (v := .ref rq) (C := RX3) (T := TX3) (N := 3) hx hb hts (by decide +kernel) hown hK hP 0 rfl rfl 1 (by decide) (hts (.fieldLink RX3 19 "SmallNumberSets$NumberSet" "trie" "LSmallNumberSets$Trie;") (by decide +kernel)) (fun _ h9 => h9) rfl dX3_put_22 ?_
    refine lv_iload_n hx hb dX3_put_25 rfl (lv_at hl 1 rfl) ?_
    have hPc := hP.sub (ws' := [(rq, .inr (5, [.ref rb])), (rb, .inr (0, [.ref rd])), (rd, .inl (cJ, 128, .inr (.inl ft)))]) [3, 4, 5] rfl
    have hKc := hK.sub (tys' := [(cJ, .long)]) [0] rfl
    have hDc := hD.sub (ws' := [(rq, .inr (5, [.ref rb])), (rb, .inr (0, [.ref rd])), (rd, .inl (cJ, 128, .inr (.inl ft)))]) [3, 4, 5] (by decide) rfl
    have hFc := va_free (wc := [(rq, .inr (5, [.ref rb])), (rb, .inr (0, [.ref rd])), (rd, .inl (cJ, 128, .inr (.inl ft)))]) hD hS hA [3, 4, 5] rfl
    refine va_callv (va_runV (As := [.int (nI k)]) (rest := []) ⟨hx, hb, hml, hown, hts⟩ (c_X5_put l dC dI rq rb rd cJ ft (bo fm) k H.size hN.2.1 (by omega)) (cwV 1 hts gX3_put_X5_put rfl rfl rfl (by decide +kernel) ⟨Nat.le_of_ble_eq_true rfl, Nat.le_of_ble_eq_true rfl⟩) ⟨fun a U g mk q => by obtain ⟨q0, q1, qP, qK, qD⟩ := q; exact ⟨q0, q1, qP, va_K.moved (u := U) (U := U.calling g mk a) (Vm.Alike.refl U.vm) qK, qD⟩, va_recv hKc hPc (ci := 5) (q0 := 0) rfl rfl, fun U hU hW => ⟨rfl, by rw [hU], by rw [hU]; exact hPc, va_K.moved hW.alike hKc, hDc.weaken (fun _ _ _ _ => trivial)⟩⟩ rfl rfl hl.1 rfl (lv_room (Nat.le_of_ble_eq_true rfl)) dX3_put_26 ⟨Nat.le_of_ble_eq_true rfl, Nat.le_of_ble_eq_true rfl⟩) hS (fun q _ h => hFc q h) hFc (fun u_11 t9 H1 locs ht hvm hw_10 hB hz1 hk1 hS => ?_)
    obtain ⟨f'_13, rfl⟩ : ∃ z, z = u_11 := ⟨_, rfl⟩
    obtain ⟨hP1, hK1, hD1⟩ := hB
    rw [ht] at hP1
    have hK1 := va_K.moved hvm.symm hK1
    try dsimp only at hw_10 hP1 hK1 hD1
    obtain ⟨hP, hD⟩ := va_join (wr := [(q, .inr (3, [.ref tq, .ref rq, .ref uq])), (tq, .inr (4, [.ref ca, .long sm'_8, .int (oI lo'_9)])), (ca, .inl (cJ, 64, .inr (.inl f'_7))), (uq, .inr (1, [.ref bm, .ref bs])), (bm, .inr (0, [.ref am])), (am, .inl (cJ, 64, .inr (.inl fm))), (bs, .inr (0, [.ref ap])), (ap, .inl (cJ, 64, .inr (.inl fs)))]) (w1 := [(rq, .inr (5, [.ref rb])), (rb, .inr (0, [.ref rd])), (rd, .inl (cJ, 128, .inr (.inl f'_13)))]) hP hD [3, 4, 5] [0, 1, 2, 6, 7, 8, 9, 10] rfl rfl (by decide) (by decide) hk1 hFc hP1 hD1
    generalize H1 = H at hP hS ⊢
    have hP := hP.sub (ws' := [(q, .inr (3, [.ref tq, .ref rq, .ref uq])), (tq, .inr (4, [.ref ca, .long sm'_8, .int (oI lo'_9)])), (ca, .inl (cJ, 64, .inr (.inl f'_7))), (rq, .inr (5, [.ref rb])), (rb, .inr (0, [.ref rd])), (rd, .inl (cJ, 128, .inr (.inl f'_13))), (uq, .inr (1, [.ref bm, .ref bs])), (bm, .inr (0, [.ref am])), (am, .inl (cJ, 64, .inr (.inl fm))), (bs, .inr (0, [.ref ap])), (ap, .inl (cJ, 64, .inr (.inl fs)))]) [0, 1, 2, 8, 9, 10, 3, 4, 5, 6, 7] rfl
    have hD := hD.sub (ws' := [(q, .inr (3, [.ref tq, .ref rq, .ref uq])), (tq, .inr (4, [.ref ca, .long sm'_8, .int (oI lo'_9)])), (ca, .inl (cJ, 64, .inr (.inl f'_7))), (rq, .inr (5, [.ref rb])), (rb, .inr (0, [.ref rd])), (rd, .inl (cJ, 128, .inr (.inl f'_13))), (uq, .inr (1, [.ref bm, .ref bs])), (bm, .inr (0, [.ref am])), (am, .inl (cJ, 64, .inr (.inl fm))), (bs, .inr (0, [.ref ap])), (ap, .inl (cJ, 64, .inr (.inl fs)))]) [0, 1, 2, 8, 9, 10, 3, 4, 5, 6, 7] (by decide) rfl
    have hP : va_P (dC, dI) vwCl [(q, .inr (3, [.ref tq, .ref rq, .ref uq])), (tq, .inr (4, [.ref ca, .long sm'_8, .int (oI lo'_9)])), (ca, .inl (cJ, 64, .inr (.inl f'_7))), (rq, .inr (5, [.ref rb])), (rb, .inr (0, [.ref rd])), (rd, .inl (cJ, 128, .inr (.inl f'_13))), (uq, .inr (1, [.ref bm, .ref bs])), (bm, .inr (0, [.ref am])), (am, .inl (cJ, 64, .inr (.inl fm))), (bs, .inr (0, [.ref ap])), (ap, .inl (cJ, 64, .inr (.inl fs)))] H := hP
    have hD : va_D A [(q, .inr (3, [.ref tq, .ref rq, .ref uq])), (tq, .inr (4, [.ref ca, .long sm'_8, .int (oI lo'_9)])), (ca, .inl (cJ, 64, .inr (.inl f'_7))), (rq, .inr (5, [.ref rb])), (rb, .inr (0, [.ref rd])), (rd, .inl (cJ, 128, .inr (.inl f'_13))), (uq, .inr (1, [.ref bm, .ref bs])), (bm, .inr (0, [.ref am])), (am, .inl (cJ, 64, .inr (.inl fm))), (bs, .inr (0, [.ref ap])), (ap, .inl (cJ, 64, .inr (.inl fs)))] := hD
    have h2 := hw_10
    refine lv_aload_n hx hb dX3_put_29 rfl (lv_at hl 0 rfl) ?_
    refine va_get (D := (dC, dI)) (ci := 3) (v := .ref uq) (C := RX3) (T := TX3) (N := 3) hx hb hts (by decide +kernel) hown hK hP 0 rfl rfl 2 (by decide) (hts (.fieldLink RX3 26 "SmallNumberSets$NumberSet" "buckets" "LSmallNumberSets$Buckets;") (by decide +kernel)) (fun _ h9 => h9) rfl dX3_put_30 ?_
    refine lv_iload_n hx hb dX3_put_33 rfl (lv_at hl 1 rfl) ?_
    have hPc := hP.sub (ws' := [(uq, .inr (1, [.ref bm, .ref bs])), (bm, .inr (0, [.ref am])), (am, .inl (cJ, 64, .inr (.inl fm))), (bs, .inr (0, [.ref ap])), (ap, .inl (cJ, 64, .inr (.inl fs)))]) [6, 7, 8, 9, 10] rfl
    have hKc := hK.sub (tys' := [(cJ, .long)]) [0] rfl
    have hDc := hD.sub (ws' := [(uq, .inr (1, [.ref bm, .ref bs])), (bm, .inr (0, [.ref am])), (am, .inl (cJ, 64, .inr (.inl fm))), (bs, .inr (0, [.ref ap])), (ap, .inl (cJ, 64, .inr (.inl fs)))]) [6, 7, 8, 9, 10] (by decide) rfl
    have hFc := va_free (wc := [(uq, .inr (1, [.ref bm, .ref bs])), (bm, .inr (0, [.ref am])), (am, .inl (cJ, 64, .inr (.inl fm))), (bs, .inr (0, [.ref ap])), (ap, .inl (cJ, 64, .inr (.inl fs)))]) hD hS hA [6, 7, 8, 9, 10] rfl
    refine va_callv (va_runV (As := [.int (nI k)]) (rest := []) ⟨hx, hb, hml, hown, hts⟩ (c_X1_put l dC dI uq bm am bs ap cJ fm fs k H.size (by omega) hN.1) (cwV 1 hts gX3_put_X1_put rfl rfl rfl (by decide +kernel) ⟨Nat.le_of_ble_eq_true rfl, Nat.le_of_ble_eq_true rfl⟩) ⟨fun a U g mk q => by obtain ⟨q0, q1, qP, qK, qD⟩ := q; exact ⟨q0, q1, qP, va_K.moved (u := U) (U := U.calling g mk a) (Vm.Alike.refl U.vm) qK, qD⟩, va_recv hKc hPc (ci := 1) (q0 := 0) rfl rfl, fun U hU hW => ⟨rfl, by rw [hU], by rw [hU]; exact hPc, va_K.moved hW.alike hKc, hDc.weaken (fun _ _ _ _ => trivial)⟩⟩ rfl rfl hl.1 rfl (lv_room (Nat.le_of_ble_eq_true rfl)) dX3_put_34 ⟨Nat.le_of_ble_eq_true rfl, Nat.le_of_ble_eq_true rfl⟩) hS (fun q _ h => hFc q h) hFc (fun u_15 t9 H1 locs ht hvm hw_14 hB hz1 hk1 hS => ?_)
    obtain ⟨fm'_17, fs'_18⟩ := u_15
    obtain ⟨hP1, hK1, hD1⟩ := hB
    rw [ht] at hP1
    have hK1 := va_K.moved hvm.symm hK1
    try dsimp only at hw_14 hP1 hK1 hD1
    obtain ⟨hP, hD⟩ := va_join (wr := [(q, .inr (3, [.ref tq, .ref rq, .ref uq])), (tq, .inr (4, [.ref ca, .long sm'_8, .int (oI lo'_9)])), (ca, .inl (cJ, 64, .inr (.inl f'_7))), (rq, .inr (5, [.ref rb])), (rb, .inr (0, [.ref rd])), (rd, .inl (cJ, 128, .inr (.inl f'_13)))]) (w1 := [(uq, .inr (1, [.ref bm, .ref bs])), (bm, .inr (0, [.ref am])), (am, .inl (cJ, 64, .inr (.inl fm'_17))), (bs, .inr (0, [.ref ap])), (ap, .inl (cJ, 64, .inr (.inl fs'_18)))]) hP hD [6, 7, 8, 9, 10] [0, 1, 2, 3, 4, 5] rfl rfl (by decide) (by decide) hk1 hFc hP1 hD1
    generalize H1 = H at hP hS ⊢
    have hP : va_P (dC, dI) vwCl [(q, .inr (3, [.ref tq, .ref rq, .ref uq])), (tq, .inr (4, [.ref ca, .long sm'_8, .int (oI lo'_9)])), (ca, .inl (cJ, 64, .inr (.inl f'_7))), (rq, .inr (5, [.ref rb])), (rb, .inr (0, [.ref rd])), (rd, .inl (cJ, 128, .inr (.inl f'_13))), (uq, .inr (1, [.ref bm, .ref bs])), (bm, .inr (0, [.ref am])), (am, .inl (cJ, 64, .inr (.inl fm'_17))), (bs, .inr (0, [.ref ap])), (ap, .inl (cJ, 64, .inr (.inl fs'_18)))] H := hP
    have hD : va_D A [(q, .inr (3, [.ref tq, .ref rq, .ref uq])), (tq, .inr (4, [.ref ca, .long sm'_8, .int (oI lo'_9)])), (ca, .inl (cJ, 64, .inr (.inl f'_7))), (rq, .inr (5, [.ref rb])), (rb, .inr (0, [.ref rd])), (rd, .inl (cJ, 128, .inr (.inl f'_13))), (uq, .inr (1, [.ref bm, .ref bs])), (bm, .inr (0, [.ref am])), (am, .inl (cJ, 64, .inr (.inl fm'_17))), (bs, .inr (0, [.ref ap])), (ap, .inl (cJ, 64, .inr (.inl fs'_18)))] := hD
    refine lv_iconst (v := nI 1) hx hb dX3_put_37 (by decide +kernel) ?_
    have hP9 := hP.sub (ws' := [(q, .inr (3, [.ref tq, .ref rq, .ref uq])), (tq, .inr (4, [.ref ca, .long sm'_8, .int (oI lo'_9)])), (ca, .inl (cJ, 64, .inr (.inl f'_7))), (rq, .inr (5, [.ref rb])), (rb, .inr (0, [.ref rd])), (rd, .inl (cJ, 128, .inr (.inl f'_13))), (uq, .inr (1, [.ref bm, .ref bs])), (bm, .inr (0, [.ref am])), (am, .inl (cJ, 64, .inr (.inl fm'_17))), (bs, .inr (0, [.ref ap])), (ap, .inl (cJ, 64, .inr (.inl fs'_18)))]) [0, 1, 2, 3, 4, 5, 6, 7, 8, 9, 10] rfl
    have hD9 := hD.sub (ws' := [(q, .inr (3, [.ref tq, .ref rq, .ref uq])), (tq, .inr (4, [.ref ca, .long sm'_8, .int (oI lo'_9)])), (ca, .inl (cJ, 64, .inr (.inl f'_7))), (rq, .inr (5, [.ref rb])), (rb, .inr (0, [.ref rd])), (rd, .inl (cJ, 128, .inr (.inl f'_13))), (uq, .inr (1, [.ref bm, .ref bs])), (bm, .inr (0, [.ref am])), (am, .inl (cJ, 64, .inr (.inl fm'_17))), (bs, .inr (0, [.ref ap])), (ap, .inl (cJ, 64, .inr (.inl fs'_18)))]) [0, 1, 2, 3, 4, 5, 6, 7, 8, 9, 10] (by decide) rfl
    have hK9 := hK.sub (tys' := [(cJ, .long)]) [0] rfl
    exact W.zret (v := nI 1) hx hb hr (by first | exact narrow_b1 | exact narrow_b0) (fun t9 ht hW => ⟨⟨nI 1, ⟨fm'_17, fs'_18, f'_13, f'_7, sm'_8, lo'_9⟩, rfl, (show (nI 1) = b2i (!bo fm k) ∧ NI fm'_17 fs'_18 f'_13 f'_7 sm'_8 lo'_9 ∧ (∀ x, x < 4096 → bo fm'_17 x = ins (bo fm) k x) ∧ ∀ x, x < 4096 → bo fs'_18 x = putP (bo fm) (bo fs) k x from ⟨by rw [c_3]; rfl, ni_put hN c_3 h1 h2 hw_14⟩), by rw [ht]; exact hP9, va_K.moved hW.alike hK9, hD9⟩, hS.F ht⟩) hS.2.2 dX3_put_38
  · have c_3 : (bo fm k) = true := b2i_t qc_3
    refine lv_iconst (v := nI 0) hx hb dX3_put_11 (by decide +kernel) ?_
    have hP9 := hP.sub (ws' := [(q, .inr (3, [.ref tq, .ref rq, .ref uq])), (tq, .inr (4, [.ref ca, .long sm, .int (oI lo)])), (ca, .inl (cJ, 64, .inr (.inl fc))), (rq, .inr (5, [.ref rb])), (rb, .inr (0, [.ref rd])), (rd, .inl (cJ, 128, .inr (.inl ft))), (uq, .inr (1, [.ref bm, .ref bs])), (bm, .inr (0, [.ref am])), (am, .inl (cJ, 64, .inr (.inl fm))), (bs, .inr (0, [.ref ap])), (ap, .inl (cJ, 64, .inr (.inl fs)))]) [0, 1, 2, 3, 4, 5, 6, 7, 8, 9, 10] rfl
    have hD9 := hD.sub (ws' := [(q, .inr (3, [.ref tq, .ref rq, .ref uq])), (tq, .inr (4, [.ref ca, .long sm, .int (oI lo)])), (ca, .inl (cJ, 64, .inr (.inl fc))), (rq, .inr (5, [.ref rb])), (rb, .inr (0, [.ref rd])), (rd, .inl (cJ, 128, .inr (.inl ft))), (uq, .inr (1, [.ref bm, .ref bs])), (bm, .inr (0, [.ref am])), (am, .inl (cJ, 64, .inr (.inl fm))), (bs, .inr (0, [.ref ap])), (ap, .inl (cJ, 64, .inr (.inl fs)))]) [0, 1, 2, 3, 4, 5, 6, 7, 8, 9, 10] (by decide) rfl
    have hK9 := hK.sub (tys' := [(cJ, .long)]) [0] rfl
    exact W.zret (v := nI 0) hx hb hr (by first | exact narrow_b1 | exact narrow_b0) (fun t9 ht hW => ⟨⟨nI 0, ⟨fm, fs, ft, fc, sm, lo⟩, rfl, (show (nI 0) = b2i (!bo fm k) ∧ NI fm fs ft fc sm lo ∧ (∀ x, x < 4096 → bo fm x = ins (bo fm) k x) ∧ ∀ x, x < 4096 → bo fs x = putP (bo fm) (bo fs) k x from ⟨by rw [c_3]; rfl, hN, ni_same c_3⟩), by rw [ht]; exact hP9, va_K.moved hW.alike hK9, hD9⟩, hS.F ht⟩) hS.2.2 dX3_put_12
set_option maxHeartbeats 4000000 in
set_option maxRecDepth 100000 in
/-- NumberSet.take -/
theorem c_X3_take (l : Launch) (dC : Nat → ClassId) (dI : Nat → Nat → Nat) (q : Nat) (tq : Nat) (ca : Nat) (rq : Nat) (rb : Nat) (rd : Nat) (uq : Nat) (bm : Nat) (am : Nat) (bs : Nat) (ap : Nat) (cJ : ClassId) (fm : Nat → Int64) (fs : Nat → Int64) (ft : Nat → Int64) (fc : Nat → Int64) (sm : Int64) (lo : Option Nat) (k : Nat) (sz : Nat) (hN : NI fm fs ft fc sm lo) (hk : k < 4096) : Met l yX3_take wsX3_take ({ frames := 6, cells := 0, slots := 0, locals := 138 }) (va_Pc [.ref q, .int (nI k)] (fun U => U.heap.size = sz ∧ va_P (dC, dI) vwCl [(q, .inr (3, [.ref tq, .ref rq, .ref uq])), (tq, .inr (4, [.ref ca, .long sm, .int (oI lo)])), (ca, .inl (cJ, 64, .inr (.inl fc))), (rq, .inr (5, [.ref rb])), (rb, .inr (0, [.ref rd])), (rd, .inl (cJ, 128, .inr (.inl ft))), (uq, .inr (1, [.ref bm, .ref bs])), (bm, .inr (0, [.ref am])), (am, .inl (cJ, 64, .inr (.inl fm))), (bs, .inr (0, [.ref ap])), (ap, .inl (cJ, 64, .inr (.inl fs)))] U.heap ∧ va_K (dC, dI) vwCl [(cJ, .long)] U ∧ va_D (fun _ => True) [(q, .inr (3, [.ref tq, .ref rq, .ref uq])), (tq, .inr (4, [.ref ca, .long sm, .int (oI lo)])), (ca, .inl (cJ, 64, .inr (.inl fc))), (rq, .inr (5, [.ref rb])), (rb, .inr (0, [.ref rd])), (rd, .inl (cJ, 128, .inr (.inl ft))), (uq, .inr (1, [.ref bm, .ref bs])), (bm, .inr (0, [.ref am])), (am, .inl (cJ, 64, .inr (.inl fm))), (bs, .inr (0, [.ref ap])), (ap, .inl (cJ, 64, .inr (.inl fs)))])) (va_Qi (fun (r : Int32) (u : (Nat → Int64) × (Nat → Int64) × (Nat → Int64) × (Nat → Int64) × Int64 × (Option Nat)) => r = b2i (bo fm k) ∧ NI u.1 u.2.1 u.2.2.1 u.2.2.2.1 u.2.2.2.2.1 u.2.2.2.2.2 ∧ (∀ x, x < 4096 → bo u.1 x = del (bo fm) k x) ∧ ∀ x, x < 4096 → bo u.2.1 x = takeP (bo fm) (bo fs) k x) (fun (u : (Nat → Int64) × (Nat → Int64) × (Nat → Int64) × (Nat → Int64) × Int64 × (Option Nat)) (t : State) => va_P (dC, dI) vwCl [(q, .inr (3, [.ref tq, .ref rq, .ref uq])), (tq, .inr (4, [.ref ca, .long u.2.2.2.2.1, .int (oI u.2.2.2.2.2)])), (ca, .inl (cJ, 64, .inr (.inl u.2.2.2.1))), (rq, .inr (5, [.ref rb])), (rb, .inr (0, [.ref rd])), (rd, .inl (cJ, 128, .inr (.inl u.2.2.1))), (uq, .inr (1, [.ref bm, .ref bs])), (bm, .inr (0, [.ref am])), (am, .inl (cJ, 64, .inr (.inl u.1))), (bs, .inr (0, [.ref ap])), (ap, .inl (cJ, 64, .inr (.inl u.2.1)))] t.heap ∧ va_K (dC, dI) vwCl [(cJ, .long)] t ∧ va_D (va_A [(q, .inr (3, [.ref tq, .ref rq, .ref uq])), (tq, .inr (4, [.ref ca, .long sm, .int (oI lo)])), (ca, .inl (cJ, 64, .inr (.inl fc))), (rq, .inr (5, [.ref rb])), (rb, .inr (0, [.ref rd])), (rd, .inl (cJ, 128, .inr (.inl ft))), (uq, .inr (1, [.ref bm, .ref bs])), (bm, .inr (0, [.ref am])), (am, .inl (cJ, 64, .inr (.inl fm))), (bs, .inr (0, [.ref ap])), (ap, .inl (cJ, 64, .inr (.inl fs)))] sz) [(q, .inr (3, [.ref tq, .ref rq, .ref uq])), (tq, .inr (4, [.ref ca, .long u.2.2.2.2.1, .int (oI u.2.2.2.2.2)])), (ca, .inl (cJ, 64, .inr (.inl u.2.2.2.1))), (rq, .inr (5, [.ref rb])), (rb, .inr (0, [.ref rd])), (rd, .inl (cJ, 128, .inr (.inl u.2.2.1))), (uq, .inr (1, [.ref bm, .ref bs])), (bm, .inr (0, [.ref am])), (am, .inl (cJ, 64, .inr (.inl u.1))), (bs, .inr (0, [.ref ap])), (ap, .inl (cJ, 64, .inr (.inl u.2.1)))]) (va_A [(q, .inr (3, [.ref tq, .ref rq, .ref uq])), (tq, .inr (4, [.ref ca, .long sm, .int (oI lo)])), (ca, .inl (cJ, 64, .inr (.inl fc))), (rq, .inr (5, [.ref rb])), (rb, .inr (0, [.ref rd])), (rd, .inl (cJ, 128, .inr (.inl ft))), (uq, .inr (1, [.ref bm, .ref bs])), (bm, .inr (0, [.ref am])), (am, .inl (cJ, 64, .inr (.inl fm))), (bs, .inr (0, [.ref ap])), (ap, .inl (cJ, 64, .inr (.inl fs)))] sz)) 0 0 (va_A [(q, .inr (3, [.ref tq, .ref rq, .ref uq])), (tq, .inr (4, [.ref ca, .long sm, .int (oI lo)])), (ca, .inl (cJ, 64, .inr (.inl fc))), (rq, .inr (5, [.ref rb])), (rb, .inr (0, [.ref rd])), (rd, .inl (cJ, 128, .inr (.inl ft))), (uq, .inr (1, [.ref bm, .ref bs])), (bm, .inr (0, [.ref am])), (am, .inl (cJ, 64, .inr (.inl fm))), (bs, .inr (0, [.ref ap])), (ap, .inl (cJ, 64, .inr (.inl fs)))] sz) := by
  refine Met.ofW (cc := cX3_take) (maxL := 2) (ret := (some .boolean)) (by decide) rfl ?_
  intro p e s m args below meth c s₁ B hml hv
  obtain ⟨rfl, hsz, hP, hK, hD0⟩ := hv
  have hx := B.exec
  have hb := B.bytes
  have hr := B.returns
  have hts := atoms_spec (ws := wsX3_take) B.pre
  have hown : s.vm.findClass RX3 = some m.cls := findClass_of_methodNamed B.named
  have hlocks := B.notSynchronized
  subst hsz
  have hD := hD0.self (sz := s.heap.size)
  generalize hAe : va_A [(q, .inr (3, [.ref tq, .ref rq, .ref uq])), (tq, .inr (4, [.ref ca, .long sm, .int (oI lo)])), (ca, .inl (cJ, 64, .inr (.inl fc))), (rq, .inr (5, [.ref rb])), (rb, .inr (0, [.ref rd])), (rd, .inl (cJ, 128, .inr (.inl ft))), (uq, .inr (1, [.ref bm, .ref bs])), (bm, .inr (0, [.ref am])), (am, .inl (cJ, 64, .inr (.inl fm))), (bs, .inr (0, [.ref ap])), (ap, .inl (cJ, 64, .inr (.inl fs)))] s.heap.size = A at hD ⊢
  have hA : ∀ q : Nat, s.heap.size ≤ q → A q := fun q h => by rw [← hAe]; exact Or.inr h
  have hS : va_S A s.heap s.heap [] := va_S.rf
  have hP : va_P (dC, dI) vwCl [(q, .inr (3, [.ref tq, .ref rq, .ref uq])), (tq, .inr (4, [.ref ca, .long sm, .int (oI lo)])), (ca, .inl (cJ, 64, .inr (.inl fc))), (rq, .inr (5, [.ref rb])), (rb, .inr (0, [.ref rd])), (rd, .inl (cJ, 128, .inr (.inl ft))), (uq, .inr (1, [.ref bm, .ref bs])), (bm, .inr (0, [.ref am])), (am, .inl (cJ, 64, .inr (.inl fm))), (bs, .inr (0, [.ref ap])), (ap, .inl (cJ, 64, .inr (.inl fs)))] s.heap := hP
  have hl := lv_entry ([.ref q, .int (nI k)]) (n := 2) (Nat.le_of_ble_eq_true rfl)
  rw [lg_entry_eq]
  generalize (lg_sl ([.ref q, .int (nI k)]) ++ List.replicate (2 - (lg_sl ([.ref q, .int (nI k)])).length) Slot.unset).toArray = ls at hl ⊢
  have hl : lv_has ls 2 [(0, .ref q), (1, .int (nI k))] := hl
  refine lv_aload_n hx hb dX3_take_0 rfl (lv_at hl 0 rfl) ?_
  refine va_get (D := (dC, dI)) (ci := 3) (v := .ref uq) (C := RX3) (T := TX3) (N := 3) hx hb hts (by decide +kernel) hown hK hP 0 rfl rfl 2 (by decide) (hts (.fieldLink RX3 26 "SmallNumberSets$NumberSet" "buckets" "LSmallNumberSets$Buckets;") (by decide +kernel)) (fun _ h9 => h9) rfl dX3_take_1 ?_
  refine lv_iload_n hx hb dX3_take_4 rfl (lv_at hl 1 rfl) ?_
  have hPc := hP.sub (ws' := [(uq, .inr (1, [.ref bm, .ref bs])), (bm, .inr (0, [.ref am])), (am, .inl (cJ, 64, .inr (.inl fm))), (bs, .inr (0, [.ref ap])), (ap, .inl (cJ, 64, .inr (.inl fs)))]) [6, 7, 8, 9, 10] rfl
  have hKc := hK.sub (tys' := [(cJ, .long)]) [0] rfl
  refine vp_callSi (W.runV (As := [.int (nI k)]) (rest := []) ⟨hx, hb, hml, hown, hts⟩ (c_X1_has l dC dI uq bm am bs ap cJ fm fs k (by omega)) (cwV 1 hts gX3_take_X1_has rfl rfl rfl (by decide +kernel) ⟨Nat.le_of_ble_eq_true rfl, Nat.le_of_ble_eq_true rfl⟩) ⟨fun a U g mk q => by obtain ⟨q0, qP, qK⟩ := q; exact ⟨q0, qP, va_K.moved (u := U) (U := U.calling g mk a) (Vm.Alike.refl U.vm) qK⟩, va_recv hKc hPc (ci := 1) (q0 := 0) rfl rfl, fun U hU hW => ⟨rfl, by rw [hU]; exact hPc, va_K.moved hW.alike hKc⟩⟩ rfl rfl hl.1 rfl (lv_room (Nat.le_of_ble_eq_true rfl)) dX3_take_5 ⟨Nat.le_of_ble_eq_true rfl, Nat.le_of_ble_eq_true rfl⟩) (fun r_2 hw_1 => ?_)
  subst hw_1
  refine lv_if_ne (tgt := 13) hx hb dX3_take_8 (by decide) (fun qc_3 => ?_) (fun qc_3 => ?_)
  · have c_3 : (bo fm k) = true := b2i_t qc_3
    refine lv_aload_n hx hb dX3_take_13 rfl (lv_at hl 0 rfl) ?_
    refine va_get (D := (dC, dI)) (ci := 3) (v := .ref tq) (C := RX3) (T := TX3) (N := 3) hx hb hts (by decide +kernel) hown hK hP 0 rfl rfl 0 (by decide) (hts (.fieldLink RX3 10 "SmallNumberSets$NumberSet" "tree" "LSmallNumberSets$Tree;") (by decide +kernel)) (fun _ h9 => h9) rfl dX3_take_14 ?_
    refine lv_iload_n hx hb dX3_take_17 rfl (lv_at hl 1 rfl) ?_
    have hPc := hP.sub (ws' := [(tq, .inr (4, [.ref ca, .long sm, .int (oI lo)])), (ca, .inl (cJ, 64, .inr (.inl fc)))]) [1, 2] rfl
    have hKc := hK.sub (tys' := [(cJ, .long)]) [0] rfl
    have hDc := hD.sub (ws' := [(tq, .inr (4, [.ref ca, .long sm, .int (oI lo)])), (ca, .inl (cJ, 64, .inr (.inl fc)))]) [1, 2] (by decide) rfl
    have hFc := va_free (wc := [(tq, .inr (4, [.ref ca, .long sm, .int (oI lo)])), (ca, .inl (cJ, 64, .inr (.inl fc)))]) hD hS hA [1, 2] rfl
    refine va_callv (va_runV (As := [.int (nI k)]) (rest := []) ⟨hx, hb, hml, hown, hts⟩ (c_X4_take l dC dI tq ca cJ fc sm lo (bo fm) k s.heap.size hN.2.2 (by omega) c_3) (cwV 1 hts gX3_take_X4_take rfl rfl rfl (by decide +kernel) ⟨Nat.le_of_ble_eq_true rfl, Nat.le_of_ble_eq_true rfl⟩) ⟨fun a U g mk q => by obtain ⟨q0, q1, qP, qK, qD⟩ := q; exact ⟨q0, q1, qP, va_K.moved (u := U) (U := U.calling g mk a) (Vm.Alike.refl U.vm) qK, qD⟩, va_recv hKc hPc (ci := 4) (q0 := 0) rfl rfl, fun U hU hW => ⟨rfl, by rw [hU], by rw [hU]; exact hPc, va_K.moved hW.alike hKc, hDc.weaken (fun _ _ _ _ => trivial)⟩⟩ rfl rfl hl.1 rfl (lv_room (Nat.le_of_ble_eq_true rfl)) dX3_take_18 ⟨Nat.le_of_ble_eq_true rfl, Nat.le_of_ble_eq_true rfl⟩) hS (fun q _ h => hFc q h) hFc (fun u_5 t9 H1 locs ht hvm hw_4 hB hz1 hk1 hS => ?_)
    obtain ⟨f'_7, sm'_8, lo'_9⟩ := u_5
    obtain ⟨hP1, hK1, hD1⟩ := hB
    rw [ht] at hP1
    have hK1 := va_K.moved hvm.symm hK1
    try dsimp only at hw_4 hP1 hK1 hD1
    obtain ⟨hP, hD⟩ := va_join (wr := [(q, .inr (3, [.ref tq, .ref rq, .ref uq])), (rq, .inr (5, [.ref rb])), (rb, .inr (0, [.ref rd])), (rd, .inl (cJ, 128, .inr (.inl ft))), (uq, .inr (1, [.ref bm, .ref bs])), (bm, .inr (0, [.ref am])), (am, .inl (cJ, 64, .inr (.inl fm))), (bs, .inr (0, [.ref ap])), (ap, .inl (cJ, 64, .inr (.inl fs)))]) (w1 := [(tq, .inr (4, [.ref ca, .long sm'_8, .int (oI lo'_9)])), (ca, .inl (cJ, 64, .inr (.inl f'_7)))]) hP hD [1, 2] [0, 3, 4, 5, 6, 7, 8, 9, 10] rfl rfl (by decide) (by decide) hk1 hFc hP1 hD1
    generalize H1 = H at hP hS ⊢
    have hP := hP.sub (ws' := [(q, .inr (3, [.ref tq, .ref rq, .ref uq])), (tq, .inr (4, [.ref ca, .long sm'_8, .int (oI lo'_9)])), (ca, .inl (cJ, 64, .inr (.inl f'_7))), (rq, .inr (5, [.ref rb])), (rb, .inr (0, [.ref rd])), (rd, .inl (cJ, 128, .inr (.inl ft))), (uq, .inr (1, [.ref bm, .ref bs])), (bm, .inr (0, [.ref am])), (am, .inl (cJ, 64, .inr (.inl fm))), (bs, .inr (0, [.ref ap])), (ap, .inl (cJ, 64, .inr (.inl fs)))]) [0, 9, 10, 1, 2, 3, 4, 5, 6, 7, 8] rfl
    have hD := hD.sub (ws' := [(q, .inr (3, [.ref tq, .ref rq, .ref uq])), (tq, .inr (4, [.ref ca, .long sm'_8, .int (oI lo'_9)])), (ca, .inl (cJ, 64, .inr (.inl f'_7))), (rq, .inr (5, [.ref rb])), (rb, .inr (0, [.ref rd])), (rd, .inl (cJ, 128, .inr (.inl ft))), (uq, .inr (1, [.ref bm, .ref bs])), (bm, .inr (0, [.ref am])), (am, .inl (cJ, 64, .inr (.inl fm))), (bs, .inr (0, [.ref ap])), (ap, .inl (cJ, 64, .inr (.inl fs)))]) [0, 9, 10, 1, 2, 3, 4, 5, 6, 7, 8] (by decide) rfl
    have hP : va_P (dC, dI) vwCl [(q, .inr (3, [.ref tq, .ref rq, .ref uq])), (tq, .inr (4, [.ref ca, .long sm'_8, .int (oI lo'_9)])), (ca, .inl (cJ, 64, .inr (.inl f'_7))), (rq, .inr (5, [.ref rb])), (rb, .inr (0, [.ref rd])), (rd, .inl (cJ, 128, .inr (.inl ft))), (uq, .inr (1, [.ref bm, .ref bs])), (bm, .inr (0, [.ref am])), (am, .inl (cJ, 64, .inr (.inl fm))), (bs, .inr (0, [.ref ap])), (ap, .inl (cJ, 64, .inr (.inl fs)))] H := hP
    have hD : va_D A [(q, .inr (3, [.ref tq, .ref rq, .ref uq])), (tq, .inr (4, [.ref ca, .long sm'_8, .int (oI lo'_9)])), (ca, .inl (cJ, 64, .inr (.inl f'_7))), (rq, .inr (5, [.ref rb])), (rb, .inr (0, [.ref rd])), (rd, .inl (cJ, 128, .inr (.inl ft))), (uq, .inr (1, [.ref bm, .ref bs])), (bm, .inr (0, [.ref am])), (am, .inl (cJ, 64, .inr (.inl fm))), (bs, .inr (0, [.ref ap])), (ap, .inl (cJ, 64, .inr (.inl fs)))] := hD
    have h1 := hw_4
    refine lv_aload_n hx hb dX3_take_21 rfl (lv_at hl 0 rfl) ?_
    refine va_get (D := (dC, dI)) (ci := 3) (v := .ref rq) (C := RX3) (T := TX3) (N := 3) hx hb hts (by decide +kernel) hown hK hP 0 rfl rfl 1 (by decide) (hts (.fieldLink RX3 19 "SmallNumberSets$NumberSet" "trie" "LSmallNumberSets$Trie;") (by decide +kernel)) (fun _ h9 => h9) rfl dX3_take_22 ?_
    refine lv_iload_n hx hb dX3_take_25 rfl (lv_at hl 1 rfl) ?_
    have hPc := hP.sub (ws' := [(rq, .inr (5, [.ref rb])), (rb, .inr (0, [.ref rd])), (rd, .inl (cJ, 128, .inr (.inl ft)))]) [3, 4, 5] rfl
    have hKc := hK.sub (tys' := [(cJ, .long)]) [0] rfl
    have hDc := hD.sub (ws' := [(rq, .inr (5, [.ref rb])), (rb, .inr (0, [.ref rd])), (rd, .inl (cJ, 128, .inr (.inl ft)))]) [3, 4, 5] (by decide) rfl
    have hFc := va_free (wc := [(rq, .inr (5, [.ref rb])), (rb, .inr (0, [.ref rd])), (rd, .inl (cJ, 128, .inr (.inl ft)))]) hD hS hA [3, 4, 5] rfl
    refine va_callv (va_runV (As := [.int (nI k)]) (rest := []) ⟨hx, hb, hml, hown, hts⟩ (c_X5_take l dC dI rq rb rd cJ ft (bo fm) k H.size hN.2.1 (by omega)) (cwV 1 hts gX3_take_X5_take rfl rfl rfl (by decide +kernel) ⟨Nat.le_of_ble_eq_true rfl, Nat.le_of_ble_eq_true rfl⟩) ⟨fun a U g mk q => by obtain ⟨q0, q1, qP, qK, qD⟩ := q; exact ⟨q0, q1, qP, va_K.moved (u := U) (U := U.calling g mk a) (Vm.Alike.refl U.vm) qK, qD⟩, va_recv hKc hPc (ci := 5) (q0 := 0) rfl rfl, fun U hU hW => ⟨rfl, by rw [hU], by rw [hU]; exact hPc, va_K.moved hW.alike hKc, hDc.weaken (fun _ _ _ _ => trivial)⟩⟩ rfl rfl hl.1 rfl (lv_room (Nat.le_of_ble_eq_true rfl)) dX3_take_26 ⟨Nat.le_of_ble_eq_true rfl, Nat.le_of_ble_eq_true rfl⟩) hS (fun q _ h => hFc q h) hFc (fun u_11 t9 H1 locs ht hvm hw_10 hB hz1 hk1 hS => ?_)
    obtain ⟨f'_13, rfl⟩ : ∃ z, z = u_11 := ⟨_, rfl⟩
    obtain ⟨hP1, hK1, hD1⟩ := hB
    rw [ht] at hP1
    have hK1 := va_K.moved hvm.symm hK1
    try dsimp only at hw_10 hP1 hK1 hD1
    obtain ⟨hP, hD⟩ := va_join (wr := [(q, .inr (3, [.ref tq, .ref rq, .ref uq])), (tq, .inr (4, [.ref ca, .long sm'_8, .int (oI lo'_9)])), (ca, .inl (cJ, 64, .inr (.inl f'_7))), (uq, .inr (1, [.ref bm, .ref bs])), (bm, .inr (0, [.ref am])), (am, .inl (cJ, 64, .inr (.inl fm))), (bs, .inr (0, [.ref ap])), (ap, .inl (cJ, 64, .inr (.inl fs)))]) (w1 := [(rq, .inr (5, [.ref rb])), (rb, .inr (0, [.ref rd])), (rd, .inl (cJ, 128, .inr (.inl f'_13)))]) hP hD [3, 4, 5] [0, 1, 2, 6, 7, 8, 9, 10] rfl rfl (by decide) (by decide) hk1 hFc hP1 hD1
    generalize H1 = H at hP hS ⊢
    have hP := hP.sub (ws' := [(q, .inr (3, [.ref tq, .ref rq, .ref uq])), (tq, .inr (4, [.ref ca, .long sm'_8, .int (oI lo'_9)])), (ca, .inl (cJ, 64, .inr (.inl f'_7))), (rq, .inr (5, [.ref rb])), (rb, .inr (0, [.ref rd])), (rd, .inl (cJ, 128, .inr (.inl f'_13))), (uq, .inr (1, [.ref bm, .ref bs])), (bm, .inr (0, [.ref am])), (am, .inl (cJ, 64, .inr (.inl fm))), (bs, .inr (0, [.ref ap])), (ap, .inl (cJ, 64, .inr (.inl fs)))]) [0, 1, 2, 8, 9, 10, 3, 4, 5, 6, 7] rfl
    have hD := hD.sub (ws' := [(q, .inr (3, [.ref tq, .ref rq, .ref uq])), (tq, .inr (4, [.ref ca, .long sm'_8, .int (oI lo'_9)])), (ca, .inl (cJ, 64, .inr (.inl f'_7))), (rq, .inr (5, [.ref rb])), (rb, .inr (0, [.ref rd])), (rd, .inl (cJ, 128, .inr (.inl f'_13))), (uq, .inr (1, [.ref bm, .ref bs])), (bm, .inr (0, [.ref am])), (am, .inl (cJ, 64, .inr (.inl fm))), (bs, .inr (0, [.ref ap])), (ap, .inl (cJ, 64, .inr (.inl fs)))]) [0, 1, 2, 8, 9, 10, 3, 4, 5, 6, 7] (by decide) rfl
    have hP : va_P (dC, dI) vwCl [(q, .inr (3, [.ref tq, .ref rq, .ref uq])), (tq, .inr (4, [.ref ca, .long sm'_8, .int (oI lo'_9)])), (ca, .inl (cJ, 64, .inr (.inl f'_7))), (rq, .inr (5, [.ref rb])), (rb, .inr (0, [.ref rd])), (rd, .inl (cJ, 128, .inr (.inl f'_13))), (uq, .inr (1, [.ref bm, .ref bs])), (bm, .inr (0, [.ref am])), (am, .inl (cJ, 64, .inr (.inl fm))), (bs, .inr (0, [.ref ap])), (ap, .inl (cJ, 64, .inr (.inl fs)))] H := hP
    have hD : va_D A [(q, .inr (3, [.ref tq, .ref rq, .ref uq])), (tq, .inr (4, [.ref ca, .long sm'_8, .int (oI lo'_9)])), (ca, .inl (cJ, 64, .inr (.inl f'_7))), (rq, .inr (5, [.ref rb])), (rb, .inr (0, [.ref rd])), (rd, .inl (cJ, 128, .inr (.inl f'_13))), (uq, .inr (1, [.ref bm, .ref bs])), (bm, .inr (0, [.ref am])), (am, .inl (cJ, 64, .inr (.inl fm))), (bs, .inr (0, [.ref ap])), (ap, .inl (cJ, 64, .inr (.inl fs)))] := hD
    have h2 := hw_10
    refine lv_aload_n hx hb dX3_take_29 rfl (lv_at hl 0 rfl) ?_
    refine va_get (D := (dC, dI)) (ci := 3) (v := .ref uq) (C := RX3) (T := TX3) (N := 3) hx hb hts (by decide +kernel) hown hK hP 0 rfl rfl 2 (by decide) (hts (.fieldLink RX3 26 "SmallNumberSets$NumberSet" "buckets" "LSmallNumberSets$Buckets;") (by decide +kernel)) (fun _ h9 => h9) rfl dX3_take_30 ?_
    refine lv_iload_n hx hb dX3_take_33 rfl (lv_at hl 1 rfl) ?_
    have hPc := hP.sub (ws' := [(uq, .inr (1, [.ref bm, .ref bs])), (bm, .inr (0, [.ref am])), (am, .inl (cJ, 64, .inr (.inl fm))), (bs, .inr (0, [.ref ap])), (ap, .inl (cJ, 64, .inr (.inl fs)))]) [6, 7, 8, 9, 10] rfl
    have hKc := hK.sub (tys' := [(cJ, .long)]) [0] rfl
    have hDc := hD.sub (ws' := [(uq, .inr (1, [.ref bm, .ref bs])), (bm, .inr (0, [.ref am])), (am, .inl (cJ, 64, .inr (.inl fm))), (bs, .inr (0, [.ref ap])), (ap, .inl (cJ, 64, .inr (.inl fs)))]) [6, 7, 8, 9, 10] (by decide) rfl
    have hFc := va_free (wc := [(uq, .inr (1, [.ref bm, .ref bs])), (bm, .inr (0, [.ref am])), (am, .inl (cJ, 64, .inr (.inl fm))), (bs, .inr (0, [.ref ap])), (ap, .inl (cJ, 64, .inr (.inl fs)))]) hD hS hA [6, 7, 8, 9, 10] rfl
    refine va_callv (va_runV (As := [.int (nI k)]) (rest := []) ⟨hx, hb, hml, hown, hts⟩ (c_X1_take l dC dI uq bm am bs ap cJ fm fs k H.size (by omega) hN.1) (cwV 1 hts gX3_take_X1_take rfl rfl rfl (by decide +kernel) ⟨Nat.le_of_ble_eq_true rfl, Nat.le_of_ble_eq_true rfl⟩) ⟨fun a U g mk q => by obtain ⟨q0, q1, qP, qK, qD⟩ := q; exact ⟨q0, q1, qP, va_K.moved (u := U) (U := U.calling g mk a) (Vm.Alike.refl U.vm) qK, qD⟩, va_recv hKc hPc (ci := 1) (q0 := 0) rfl rfl, fun U hU hW => ⟨rfl, by rw [hU], by rw [hU]; exact hPc, va_K.moved hW.alike hKc, hDc.weaken (fun _ _ _ _ => trivial)⟩⟩ rfl rfl hl.1 rfl (lv_room (Nat.le_of_ble_eq_true rfl)) dX3_take_34 ⟨Nat.le_of_ble_eq_true rfl, Nat.le_of_ble_eq_true rfl⟩) hS (fun q _ h => hFc q h) hFc (fun u_15 t9 H1 locs ht hvm hw_14 hB hz1 hk1 hS => ?_)
    obtain ⟨fm'_17, fs'_18⟩ := u_15
    obtain ⟨hP1, hK1, hD1⟩ := hB
    rw [ht] at hP1
    have hK1 := va_K.moved hvm.symm hK1
    try dsimp only at hw_14 hP1 hK1 hD1
    obtain ⟨hP, hD⟩ := va_join (wr := [(q, .inr (3, [.ref tq, .ref rq, .ref uq])), (tq, .inr (4, [.ref ca, .long sm'_8, .int (oI lo'_9)])), (ca, .inl (cJ, 64, .inr (.inl f'_7))), (rq, .inr (5, [.ref rb])), (rb, .inr (0, [.ref rd])), (rd, .inl (cJ, 128, .inr (.inl f'_13)))]) (w1 := [(uq, .inr (1, [.ref bm, .ref bs])), (bm, .inr (0, [.ref am])), (am, .inl (cJ, 64, .inr (.inl fm'_17))), (bs, .inr (0, [.ref ap])), (ap, .inl (cJ, 64, .inr (.inl fs'_18)))]) hP hD [6, 7, 8, 9, 10] [0, 1, 2, 3, 4, 5] rfl rfl (by decide) (by decide) hk1 hFc hP1 hD1
    generalize H1 = H at hP hS ⊢
    have hP : va_P (dC, dI) vwCl [(q, .inr (3, [.ref tq, .ref rq, .ref uq])), (tq, .inr (4, [.ref ca, .long sm'_8, .int (oI lo'_9)])), (ca, .inl (cJ, 64, .inr (.inl f'_7))), (rq, .inr (5, [.ref rb])), (rb, .inr (0, [.ref rd])), (rd, .inl (cJ, 128, .inr (.inl f'_13))), (uq, .inr (1, [.ref bm, .ref bs])), (bm, .inr (0, [.ref am])), (am, .inl (cJ, 64, .inr (.inl fm'_17))), (bs, .inr (0, [.ref ap])), (ap, .inl (cJ, 64, .inr (.inl fs'_18)))] H := hP
    have hD : va_D A [(q, .inr (3, [.ref tq, .ref rq, .ref uq])), (tq, .inr (4, [.ref ca, .long sm'_8, .int (oI lo'_9)])), (ca, .inl (cJ, 64, .inr (.inl f'_7))), (rq, .inr (5, [.ref rb])), (rb, .inr (0, [.ref rd])), (rd, .inl (cJ, 128, .inr (.inl f'_13))), (uq, .inr (1, [.ref bm, .ref bs])), (bm, .inr (0, [.ref am])), (am, .inl (cJ, 64, .inr (.inl fm'_17))), (bs, .inr (0, [.ref ap])), (ap, .inl (cJ, 64, .inr (.inl fs'_18)))] := hD
    refine lv_iconst (v := nI 1) hx hb dX3_take_37 (by decide +kernel) ?_
    have hP9 := hP.sub (ws' := [(q, .inr (3, [.ref tq, .ref rq, .ref uq])), (tq, .inr (4, [.ref ca, .long sm'_8, .int (oI lo'_9)])), (ca, .inl (cJ, 64, .inr (.inl f'_7))), (rq, .inr (5, [.ref rb])), (rb, .inr (0, [.ref rd])), (rd, .inl (cJ, 128, .inr (.inl f'_13))), (uq, .inr (1, [.ref bm, .ref bs])), (bm, .inr (0, [.ref am])), (am, .inl (cJ, 64, .inr (.inl fm'_17))), (bs, .inr (0, [.ref ap])), (ap, .inl (cJ, 64, .inr (.inl fs'_18)))]) [0, 1, 2, 3, 4, 5, 6, 7, 8, 9, 10] rfl
    have hD9 := hD.sub (ws' := [(q, .inr (3, [.ref tq, .ref rq, .ref uq])), (tq, .inr (4, [.ref ca, .long sm'_8, .int (oI lo'_9)])), (ca, .inl (cJ, 64, .inr (.inl f'_7))), (rq, .inr (5, [.ref rb])), (rb, .inr (0, [.ref rd])), (rd, .inl (cJ, 128, .inr (.inl f'_13))), (uq, .inr (1, [.ref bm, .ref bs])), (bm, .inr (0, [.ref am])), (am, .inl (cJ, 64, .inr (.inl fm'_17))), (bs, .inr (0, [.ref ap])), (ap, .inl (cJ, 64, .inr (.inl fs'_18)))]) [0, 1, 2, 3, 4, 5, 6, 7, 8, 9, 10] (by decide) rfl
    have hK9 := hK.sub (tys' := [(cJ, .long)]) [0] rfl
    exact W.zret (v := nI 1) hx hb hr (by first | exact narrow_b1 | exact narrow_b0) (fun t9 ht hW => ⟨⟨nI 1, ⟨fm'_17, fs'_18, f'_13, f'_7, sm'_8, lo'_9⟩, rfl, (show (nI 1) = b2i (bo fm k) ∧ NI fm'_17 fs'_18 f'_13 f'_7 sm'_8 lo'_9 ∧ (∀ x, x < 4096 → bo fm'_17 x = del (bo fm) k x) ∧ ∀ x, x < 4096 → bo fs'_18 x = takeP (bo fm) (bo fs) k x from ⟨by rw [c_3]; rfl, ni_take hN hk c_3 h1 h2 hw_14⟩), by rw [ht]; exact hP9, va_K.moved hW.alike hK9, hD9⟩, hS.F ht⟩) hS.2.2 dX3_take_38
  · have c_3 : (bo fm k) = false := b2i_f qc_3
    refine lv_iconst (v := nI 0) hx hb dX3_take_11 (by decide +kernel) ?_
    have hP9 := hP.sub (ws' := [(q, .inr (3, [.ref tq, .ref rq, .ref uq])), (tq, .inr (4, [.ref ca, .long sm, .int (oI lo)])), (ca, .inl (cJ, 64, .inr (.inl fc))), (rq, .inr (5, [.ref rb])), (rb, .inr (0, [.ref rd])), (rd, .inl (cJ, 128, .inr (.inl ft))), (uq, .inr (1, [.ref bm, .ref bs])), (bm, .inr (0, [.ref am])), (am, .inl (cJ, 64, .inr (.inl fm))), (bs, .inr (0, [.ref ap])), (ap, .inl (cJ, 64, .inr (.inl fs)))]) [0, 1, 2, 3, 4, 5, 6, 7, 8, 9, 10] rfl
    have hD9 := hD.sub (ws' := [(q, .inr (3, [.ref tq, .ref rq, .ref uq])), (tq, .inr (4, [.ref ca, .long sm, .int (oI lo)])), (ca, .inl (cJ, 64, .inr (.inl fc))), (rq, .inr (5, [.ref rb])), (rb, .inr (0, [.ref rd])), (rd, .inl (cJ, 128, .inr (.inl ft))), (uq, .inr (1, [.ref bm, .ref bs])), (bm, .inr (0, [.ref am])), (am, .inl (cJ, 64, .inr (.inl fm))), (bs, .inr (0, [.ref ap])), (ap, .inl (cJ, 64, .inr (.inl fs)))]) [0, 1, 2, 3, 4, 5, 6, 7, 8, 9, 10] (by decide) rfl
    have hK9 := hK.sub (tys' := [(cJ, .long)]) [0] rfl
    exact W.zret (v := nI 0) hx hb hr (by first | exact narrow_b1 | exact narrow_b0) (fun t9 ht hW => ⟨⟨nI 0, ⟨fm, fs, ft, fc, sm, lo⟩, rfl, (show (nI 0) = b2i (bo fm k) ∧ NI fm fs ft fc sm lo ∧ (∀ x, x < 4096 → bo fm x = del (bo fm) k x) ∧ ∀ x, x < 4096 → bo fs x = takeP (bo fm) (bo fs) k x from ⟨by rw [c_3]; rfl, hN, ni_same2 c_3⟩), by rw [ht]; exact hP9, va_K.moved hW.alike hK9, hD9⟩, hS.F ht⟩) hS.2.2 dX3_take_12
set_option maxHeartbeats 4000000 in
set_option maxRecDepth 100000 in
/-- NumberSet() -/
theorem c_X3_init (l : Launch) (dC : Nat → ClassId) (dI : Nat → Nat → Nat) (q : Nat) (sz : Nat) : Met l yX3_init wsX3_init ({ frames := 3, cells := 10, slots := 329, locals := 62 }) (va_Pc [.ref q] (fun U => va_Nw (.methodLinkNest RX3 9 yX4_init "SmallNumberSets") U ∧ va_Nw (.methodLinkNest RX3 18 yX5_init "SmallNumberSets") U ∧ U.heap.size = sz ∧ va_P (dC, dI) vwCl [(q, .inr (3, [.null, .null, .null]))] U.heap ∧ va_K (dC, dI) vwCl [] U ∧ va_D (fun _ => True) [(q, .inr (3, [.null, .null, .null]))])) (va_Qv (fun (u : (Nat → Int64) × (Nat → Int64) × (Nat → Int64) × (Nat → Int64) × Int64 × (Option Nat)) => NI u.1 u.2.1 u.2.2.1 u.2.2.2.1 u.2.2.2.2.1 u.2.2.2.2.2 ∧ (∀ x, x < 4096 → bo u.1 x = false) ∧ ∀ x, x < 4096 → bo u.2.1 x = decide (x = 0)) (fun (u : (Nat → Int64) × (Nat → Int64) × (Nat → Int64) × (Nat → Int64) × Int64 × (Option Nat)) (t : State) => ∃ (tq : Nat), ∃ (ca : Nat), ∃ (rq : Nat), ∃ (rb : Nat), ∃ (rd : Nat), ∃ (uq : Nat), ∃ (bm : Nat), ∃ (am : Nat), ∃ (bs : Nat), ∃ (ap : Nat), ∃ (cJ : ClassId), va_P (dC, dI) vwCl [(q, .inr (3, [.ref tq, .ref rq, .ref uq])), (tq, .inr (4, [.ref ca, .long u.2.2.2.2.1, .int (oI u.2.2.2.2.2)])), (ca, .inl (cJ, 64, .inr (.inl u.2.2.2.1))), (rq, .inr (5, [.ref rb])), (rb, .inr (0, [.ref rd])), (rd, .inl (cJ, 128, .inr (.inl u.2.2.1))), (uq, .inr (1, [.ref bm, .ref bs])), (bm, .inr (0, [.ref am])), (am, .inl (cJ, 64, .inr (.inl u.1))), (bs, .inr (0, [.ref ap])), (ap, .inl (cJ, 64, .inr (.inl u.2.1)))] t.heap ∧ va_K (dC, dI) vwCl [(cJ, .long)] t ∧ va_D (va_A [(q, .inr (3, [.null, .null, .null]))] sz) [(q, .inr (3, [.ref tq, .ref rq, .ref uq])), (tq, .inr (4, [.ref ca, .long u.2.2.2.2.1, .int (oI u.2.2.2.2.2)])), (ca, .inl (cJ, 64, .inr (.inl u.2.2.2.1))), (rq, .inr (5, [.ref rb])), (rb, .inr (0, [.ref rd])), (rd, .inl (cJ, 128, .inr (.inl u.2.2.1))), (uq, .inr (1, [.ref bm, .ref bs])), (bm, .inr (0, [.ref am])), (am, .inl (cJ, 64, .inr (.inl u.1))), (bs, .inr (0, [.ref ap])), (ap, .inl (cJ, 64, .inr (.inl u.2.1)))]) (va_A [(q, .inr (3, [.null, .null, .null]))] sz)) 10 329 (va_A [(q, .inr (3, [.null, .null, .null]))] sz) := by
  refine Met.ofW (cc := cX3_init) (maxL := 1) (ret := none) (by decide) rfl ?_
  intro p e s m args below meth c s₁ B hml hv
  obtain ⟨rfl, nw0, nw1, hsz, hP, hK, hD0⟩ := hv
  have hx := B.exec
  have hb := B.bytes
  have hr := B.returns
  have hts := atoms_spec (ws := wsX3_init) B.pre
  have hown : s.vm.findClass RX3 = some m.cls := findClass_of_methodNamed B.named
  have hlocks := B.notSynchronized
  have hin : meth.name = "<init>" := (name_of_methodNamed B.named B.method).1
  subst hsz
  have hD := hD0.self (sz := s.heap.size)
  generalize hAe : va_A [(q, .inr (3, [.null, .null, .null]))] s.heap.size = A at hD ⊢
  have hA : ∀ q : Nat, s.heap.size ≤ q → A q := fun q h => by rw [← hAe]; exact Or.inr h
  have hS : va_S A s.heap s.heap [] := va_S.rf
  have hP : va_P (dC, dI) vwCl [(q, .inr (3, [.null, .null, .null]))] s.heap := hP
  have hl := lv_entry ([.ref q]) (n := 1) (Nat.le_of_ble_eq_true rfl)
  rw [lg_entry_eq]
  generalize (lg_sl ([.ref q]) ++ List.replicate (1 - (lg_sl ([.ref q])).length) Slot.unset).toArray = ls at hl ⊢
  have hl : lv_has ls 1 [(0, .ref q)] := hl
  refine lv_aload_n hx hb dX3_init_0 rfl (lv_at hl 0 rfl) ?_
  refine W.objInit hx hb hown (hts (.methodLink RX3 1 objectInit) (by decide +kernel)) (hts (.instanceMethod objectInit) (by decide +kernel)) (hts (.code objectInit ⟨#[0xb1]⟩ 1 none) (by decide +kernel)) rfl (by rw [hml]; exact hl.1) rfl dX3_init_1 (Nat.le_of_ble_eq_true rfl) (Nat.le_of_ble_eq_true rfl) ?_
  refine W.eq (g2 := F0 m 4 ls []) rfl ?_
  refine lv_aload_n hx hb dX3_init_4 rfl (lv_at hl 0 rfl) ?_
  have hkc : 0 + 1 ≤ (10 : Nat) := by decide
  have hks : 0 + 3 ≤ (329 : Nat) := by decide
  refine va_new (ci := 4) (fs := [.null, .long 0, .int 0]) (C := RX4) (T := TX4) (N := 3) hx hb hts (by decide +kernel) tyX4 tyX4_ok hown (hts (.classLink RX3 7 RX4) (by decide +kernel)) (hts (.instantiable RX4 3) (by decide +kernel)) (hts (.initialized RX4) (by decide +kernel)) hK hP hD hS hA rfl (fun j hj => by rcases (show j = 0 ∨ j = 1 ∨ j = 2 by omega) with rfl | rfl | rfl <;> rfl) hkc hks dX3_init_5 (fun q_1 H hP hD hS => ?_)
  have hP : va_P (dC, dI) vwCl [(q, .inr (3, [.null, .null, .null])), (q_1, .inr (4, [.null, .long 0, .int 0]))] H := hP
  have hD : va_D A [(q, .inr (3, [.null, .null, .null])), (q_1, .inr (4, [.null, .long 0, .int 0]))] := hD
  refine W.cs (cells' := 1) (slots' := 3) rfl rfl ?_
  refine lv_dup hx hb dX3_init_8 rfl ?_
  have hPc := hP.sub (ws' := [(q_1, .inr (4, [.null, .long 0, .int 0]))]) [1] rfl
  have hKc := hK.sub (tys' := []) [] rfl
  have hDc := hD.sub (ws' := [(q_1, .inr (4, [.null, .long 0, .int 0]))]) [1] (by decide) rfl
  have hFc := va_free (wc := [(q_1, .inr (4, [.null, .long 0, .int 0]))]) hD hS hA [1] rfl
  refine va_callv (va_runIN (As := []) (rest := [.ref q_1, .ref q]) ⟨hx, hb, hml, hown, hts⟩ (c_X4_init l dC dI q_1 0 0 H.size ) ⟨va_cnB 0 hts gX3_init_X4_init_n9 rfl rfl rfl nw0 (hts (.initialized RX4) (by decide +kernel)) (by decide +kernel) ⟨Nat.le_of_ble_eq_true rfl, Nat.le_of_ble_eq_true rfl⟩, rfl, hts (.instanceMethod yX4_init) (by decide +kernel)⟩ ⟨fun a U g mk q => by obtain ⟨q0, q1, qP, qK, qD⟩ := q; exact ⟨q0, q1, qP, va_K.moved (u := U) (U := U.calling g mk a) (Vm.Alike.refl U.vm) qK, qD⟩, fun U hU hW => ⟨rfl, by rw [hU], by rw [hU]; exact hPc, va_K.moved hW.alike hKc, hDc.weaken (fun _ _ _ _ => trivial)⟩⟩ rfl rfl hl.1 rfl (lv_room (Nat.le_of_ble_eq_true rfl)) dX3_init_9 ⟨Nat.le_of_ble_eq_true rfl, Nat.le_of_ble_eq_true rfl⟩) hS (fun q _ h => hFc q h) hFc (fun u_3 t9 H1 locs ht hvm hw_2 hB hz1 hk1 hS => ?_)
  obtain ⟨ca_5, cJ_6, hP1, hK1, hD1⟩ := hB
  rw [ht] at hP1
  have hK1 := va_K.moved hvm.symm hK1
  try dsimp only at hw_2 hP1 hK1 hD1
  obtain ⟨hP, hD⟩ := va_join (wr := [(q, .inr (3, [.null, .null, .null]))]) (w1 := [(q_1, .inr (4, [.ref ca_5, .long 0, .int (oI none)])), (ca_5, .inl (cJ_6, 64, .inr (.inl (fun _ => 0))))]) hP hD [1] [0] rfl rfl (by decide) (by decide) hk1 hFc hP1 hD1
  have hK := hK.app (hK1.sub (tys' := [(cJ_6, .long)]) [0] rfl)
  generalize H1 = H at hP hS ⊢
  have hP : va_P (dC, dI) vwCl [(q, .inr (3, [.null, .null, .null])), (q_1, .inr (4, [.ref ca_5, .long 0, .int (oI none)])), (ca_5, .inl (cJ_6, 64, .inr (.inl (fun _ => 0))))] H := hP
  have hD : va_D A [(q, .inr (3, [.null, .null, .null])), (q_1, .inr (4, [.ref ca_5, .long 0, .int (oI none)])), (ca_5, .inl (cJ_6, 64, .inr (.inl (fun _ => 0))))] := hD
  have hK : va_K (dC, dI) vwCl [(cJ_6, .long)] s := hK
  refine W.cs (cells' := 2) (slots' := 67) rfl rfl ?_
  refine va_putF (D := (dC, dI)) (ci := 3) (v := .ref q_1) (ty := .object "SmallNumberSets$Tree") (C := RX3) (T := TX3) (N := 3) hx hb hts (by decide +kernel) tyX3 tyX3_ok nmX3 hown hK hP hD hS 0 rfl rfl 0 (by decide) (hts (.fieldLink RX3 10 "SmallNumberSets$NumberSet" "tree" "LSmallNumberSets$Tree;") (by decide +kernel)) (fun _ h9 => h9) rfl hin rfl (by decide +kernel) rfl rfl (Nat.le_of_ble_eq_true rfl) dX3_init_12 (fun H locs hP hD hS => ?_)
  have hP : va_P (dC, dI) vwCl [(q, .inr (3, [.ref q_1, .null, .null])), (q_1, .inr (4, [.ref ca_5, .long 0, .int (oI none)])), (ca_5, .inl (cJ_6, 64, .inr (.inl (fun _ => 0))))] H := hP
  have hD : va_D A [(q, .inr (3, [.ref q_1, .null, .null])), (q_1, .inr (4, [.ref ca_5, .long 0, .int (oI none)])), (ca_5, .inl (cJ_6, 64, .inr (.inl (fun _ => 0))))] := hD
  refine lv_aload_n hx hb dX3_init_15 rfl (lv_at hl 0 rfl) ?_
  have hkc : 2 + 1 ≤ (10 : Nat) := by decide
  have hks : 67 + 1 ≤ (329 : Nat) := by decide
  refine va_new (ci := 5) (fs := [.null]) (C := RX5) (T := TX5) (N := 1) hx hb hts (by decide +kernel) tyX5 tyX5_ok hown (hts (.classLink RX3 16 RX5) (by decide +kernel)) (hts (.instantiable RX5 1) (by decide +kernel)) (hts (.initialized RX5) (by decide +kernel)) hK hP hD hS hA rfl (fun j hj => by rcases (show j = 0 by omega) with rfl <;> rfl) hkc hks dX3_init_16 (fun q_7 H hP hD hS => ?_)
  have hP : va_P (dC, dI) vwCl [(q, .inr (3, [.ref q_1, .null, .null])), (q_1, .inr (4, [.ref ca_5, .long 0, .int (oI none)])), (ca_5, .inl (cJ_6, 64, .inr (.inl (fun _ => 0)))), (q_7, .inr (5, [.null]))] H := hP
  have hD : va_D A [(q, .inr (3, [.ref q_1, .null, .null])), (q_1, .inr (4, [.ref ca_5, .long 0, .int (oI none)])), (ca_5, .inl (cJ_6, 64, .inr (.inl (fun _ => 0)))), (q_7, .inr (5, [.null]))] := hD
  refine W.cs (cells' := 3) (slots' := 68) rfl rfl ?_
  refine lv_dup hx hb dX3_init_19 rfl ?_
  have hPc := hP.sub (ws' := [(q_7, .inr (5, [.null]))]) [3] rfl
  have hKc := hK.sub (tys' := []) [] rfl
  have hDc := hD.sub (ws' := [(q_7, .inr (5, [.null]))]) [3] (by decide) rfl
  have hFc := va_free (wc := [(q_7, .inr (5, [.null]))]) hD hS hA [3] rfl
  refine va_callv (va_runIN (As := []) (rest := [.ref q_7, .ref q]) ⟨hx, hb, hml, hown, hts⟩ (c_X5_init l dC dI q_7 H.size ) ⟨va_cnB 0 hts gX3_init_X5_init_n18 rfl rfl rfl nw1 (hts (.initialized RX5) (by decide +kernel)) (by decide +kernel) ⟨Nat.le_of_ble_eq_true rfl, Nat.le_of_ble_eq_true rfl⟩, rfl, hts (.instanceMethod yX5_init) (by decide +kernel)⟩ ⟨fun a U g mk q => by obtain ⟨q0, q1, qP, qK, qD⟩ := q; exact ⟨q0, q1, qP, va_K.moved (u := U) (U := U.calling g mk a) (Vm.Alike.refl U.vm) qK, qD⟩, fun U hU hW => ⟨rfl, by rw [hU], by rw [hU]; exact hPc, va_K.moved hW.alike hKc, hDc.weaken (fun _ _ _ _ => trivial)⟩⟩ rfl rfl hl.1 rfl (lv_room (Nat.le_of_ble_eq_true rfl)) dX3_init_20 ⟨Nat.le_of_ble_eq_true rfl, Nat.le_of_ble_eq_true rfl⟩) hS (fun q _ h => hFc q h) hFc (fun u_9 t9 H1 locs ht hvm hw_8 hB hz1 hk1 hS => ?_)
  obtain ⟨b_11, a_12, cJ_13, hP1, hK1, hD1⟩ := hB
  rw [ht] at hP1
  have hK1 := va_K.moved hvm.symm hK1
  try dsimp only at hw_8 hP1 hK1 hD1
  obtain ⟨hP, hD⟩ := va_join (wr := [(q, .inr (3, [.ref q_1, .null, .null])), (q_1, .inr (4, [.ref ca_5, .long 0, .int (oI none)])), (ca_5, .inl (cJ_6, 64, .inr (.inl (fun _ => 0))))]) (w1 := [(q_7, .inr (5, [.ref b_11])), (b_11, .inr (0, [.ref a_12])), (a_12, .inl (cJ_13, 128, .inr (.inl (fun _ => 0))))]) hP hD [3] [0, 1, 2] rfl rfl (by decide) (by decide) hk1 hFc hP1 hD1
  have hcc : cJ_6 = cJ_13 := ra_one (hK.2 0 _ rfl).2 (hK1.2 0 _ rfl).2 (fun C h9 => by cases h9)
  subst hcc
  have hP1 : va_P (dC, dI) vwCl [(q_7, .inr (5, [.ref b_11])), (b_11, .inr (0, [.ref a_12])), (a_12, .inl (cJ_6, 128, .inr (.inl (fun _ => 0))))] H1 := hP1
  generalize H1 = H at hP hS ⊢
  have hP : va_P (dC, dI) vwCl [(q, .inr (3, [.ref q_1, .null, .null])), (q_1, .inr (4, [.ref ca_5, .long 0, .int (oI none)])), (ca_5, .inl (cJ_6, 64, .inr (.inl (fun _ => 0)))), (q_7, .inr (5, [.ref b_11])), (b_11, .inr (0, [.ref a_12])), (a_12, .inl (cJ_6, 128, .inr (.inl (fun _ => 0))))] H := hP
  have hD : va_D A [(q, .inr (3, [.ref q_1, .null, .null])), (q_1, .inr (4, [.ref ca_5, .long 0, .int (oI none)])), (ca_5, .inl (cJ_6, 64, .inr (.inl (fun _ => 0)))), (q_7, .inr (5, [.ref b_11])), (b_11, .inr (0, [.ref a_12])), (a_12, .inl (cJ_6, 128, .inr (.inl (fun _ => 0))))] := hD
  refine W.cs (cells' := 5) (slots' := 197) rfl rfl ?_
  refine va_putF (D := (dC, dI)) (ci := 3) (v := .ref q_7) (ty := .object "SmallNumberSets$Trie") (C := RX3) (T := TX3) (N := 3) hx hb hts (by decide +kernel) tyX3 tyX3_ok nmX3 hown hK hP hD hS 0 rfl rfl 1 (by decide) (hts (.fieldLink RX3 19 "SmallNumberSets$NumberSet" "trie" "LSmallNumberSets$Trie;") (by decide +kernel)) (fun _ h9 => h9) rfl hin rfl (by decide +kernel) rfl rfl (Nat.le_of_ble_eq_true rfl) dX3_init_23 (fun H locs hP hD hS => ?_)
  have hP : va_P (dC, dI) vwCl [(q, .inr (3, [.ref q_1, .ref q_7, .null])), (q_1, .inr (4, [.ref ca_5, .long 0, .int (oI none)])), (ca_5, .inl (cJ_6, 64, .inr (.inl (fun _ => 0)))), (q_7, .inr (5, [.ref b_11])), (b_11, .inr (0, [.ref a_12])), (a_12, .inl (cJ_6, 128, .inr (.inl (fun _ => 0))))] H := hP
  have hD : va_D A [(q, .inr (3, [.ref q_1, .ref q_7, .null])), (q_1, .inr (4, [.ref ca_5, .long 0, .int (oI none)])), (ca_5, .inl (cJ_6, 64, .inr (.inl (fun _ => 0)))), (q_7, .inr (5, [.ref b_11])), (b_11, .inr (0, [.ref a_12])), (a_12, .inl (cJ_6, 128, .inr (.inl (fun _ => 0))))] := hD
  refine lv_aload_n hx hb dX3_init_26 rfl (lv_at hl 0 rfl) ?_
  have hkc : 5 + 1 ≤ (10 : Nat) := by decide
  have hks : 197 + 2 ≤ (329 : Nat) := by decide
  refine va_new (ci := 1) (fs := [.null, .null]) (C := RX1) (T := TX1) (N := 2) hx hb hts (by decide +kernel) tyX1 tyX1_ok hown (hts (.classLink RX3 23 RX1) (by decide +kernel)) (hts (.instantiable RX1 2) (by decide +kernel)) (hts (.initialized RX1) (by decide +kernel)) hK hP hD hS hA rfl (fun j hj => by rcases (show j = 0 ∨ j = 1 by omega) with rfl | rfl <;> rfl) hkc hks dX3_init_27 (fun q_14 H hP hD hS => ?_)
  have hP : va_P (dC, dI) vwCl [(q, .inr (3, [.ref q_1, .ref q_7, .null])), (q_1, .inr (4, [.ref ca_5, .long 0, .int (oI none)])), (ca_5, .inl (cJ_6, 64, .inr (.inl (fun _ => 0)))), (q_7, .inr (5, [.ref b_11])), (b_11, .inr (0, [.ref a_12])), (a_12, .inl (cJ_6, 128, .inr (.inl (fun _ => 0)))), (q_14, .inr (1, [.null, .null]))] H := hP
  have hD : va_D A [(q, .inr (3, [.ref q_1, .ref q_7, .null])), (q_1, .inr (4, [.ref ca_5, .long 0, .int (oI none)])), (ca_5, .inl (cJ_6, 64, .inr (.inl (fun _ => 0)))), (q_7, .inr (5, [.ref b_11])), (b_11, .inr (0, [.ref a_12])), (a_12, .inl (cJ_6, 128, .inr (.inl (fun _ => 0)))), (q_14, .inr (1, [.null, .null]))] := hD
  refine W.cs (cells' := 6) (slots' := 199) rfl rfl ?_
  refine lv_dup hx hb dX3_init_30 rfl ?_
  have hPc := hP.sub (ws' := [(q_14, .inr (1, [.null, .null]))]) [6] rfl
  have hKc := hK.sub (tys' := []) [] rfl
  have hDc := hD.sub (ws' := [(q_14, .inr (1, [.null, .null]))]) [6] (by decide) rfl
  have hFc := va_free (wc := [(q_14, .inr (1, [.null, .null]))]) hD hS hA [6] rfl
  refine va_callv (va_runI (As := []) (rest := [.ref q_14, .ref q]) ⟨hx, hb, hml, hown, hts⟩ (c_X1_init l dC dI q_14 H.size ) (cwI 0 hts gX3_init_X1_init rfl rfl rfl (hts (.initialized RX1) (by decide +kernel)) (hts (.methodLink RX3 25 yX1_init) (by decide +kernel)) (hts (.instanceMethod yX1_init) (by decide +kernel)) rfl (by decide +kernel) ⟨Nat.le_of_ble_eq_true rfl, Nat.le_of_ble_eq_true rfl⟩) ⟨fun a U g mk q => by obtain ⟨q0, q1, qP, qK, qD⟩ := q; exact ⟨q0, q1, qP, va_K.moved (u := U) (U := U.calling g mk a) (Vm.Alike.refl U.vm) qK, qD⟩, fun U hU hW => ⟨rfl, by rw [hU], by rw [hU]; exact hPc, va_K.moved hW.alike hKc, hDc.weaken (fun _ _ _ _ => trivial)⟩⟩ rfl rfl hl.1 rfl (lv_room (Nat.le_of_ble_eq_true rfl)) dX3_init_31 ⟨Nat.le_of_ble_eq_true rfl, Nat.le_of_ble_eq_true rfl⟩) hS (fun q _ h => hFc q h) hFc (fun u_16 t9 H1 locs ht hvm hw_15 hB hz1 hk1 hS => ?_)
  obtain ⟨fs'_18, rfl⟩ : ∃ z, z = u_16 := ⟨_, rfl⟩
  obtain ⟨bm_19, am_20, bs_21, ap_22, cJ_23, hP1, hK1, hD1⟩ := hB
  rw [ht] at hP1
  have hK1 := va_K.moved hvm.symm hK1
  try dsimp only at hw_15 hP1 hK1 hD1
  obtain ⟨hP, hD⟩ := va_join (wr := [(q, .inr (3, [.ref q_1, .ref q_7, .null])), (q_1, .inr (4, [.ref ca_5, .long 0, .int (oI none)])), (ca_5, .inl (cJ_6, 64, .inr (.inl (fun _ => 0)))), (q_7, .inr (5, [.ref b_11])), (b_11, .inr (0, [.ref a_12])), (a_12, .inl (cJ_6, 128, .inr (.inl (fun _ => 0))))]) (w1 := [(q_14, .inr (1, [.ref bm_19, .ref bs_21])), (bm_19, .inr (0, [.ref am_20])), (am_20, .inl (cJ_23, 64, .inr (.inl (fun _ => 0)))), (bs_21, .inr (0, [.ref ap_22])), (ap_22, .inl (cJ_23, 64, .inr (.inl fs'_18)))]) hP hD [6] [0, 1, 2, 3, 4, 5] rfl rfl (by decide) (by decide) hk1 hFc hP1 hD1
  have hcc : cJ_6 = cJ_23 := ra_one (hK.2 0 _ rfl).2 (hK1.2 0 _ rfl).2 (fun C h9 => by cases h9)
  subst hcc
  have hP1 : va_P (dC, dI) vwCl [(q_14, .inr (1, [.ref bm_19, .ref bs_21])), (bm_19, .inr (0, [.ref am_20])), (am_20, .inl (cJ_6, 64, .inr (.inl (fun _ => 0)))), (bs_21, .inr (0, [.ref ap_22])), (ap_22, .inl (cJ_6, 64, .inr (.inl fs'_18)))] H1 := hP1
  generalize H1 = H at hP hS ⊢
  have hP : va_P (dC, dI) vwCl [(q, .inr (3, [.ref q_1, .ref q_7, .null])), (q_1, .inr (4, [.ref ca_5, .long 0, .int (oI none)])), (ca_5, .inl (cJ_6, 64, .inr (.inl (fun _ => 0)))), (q_7, .inr (5, [.ref b_11])), (b_11, .inr (0, [.ref a_12])), (a_12, .inl (cJ_6, 128, .inr (.inl (fun _ => 0)))), (q_14, .inr (1, [.ref bm_19, .ref bs_21])), (bm_19, .inr (0, [.ref am_20])), (am_20, .inl (cJ_6, 64, .inr (.inl (fun _ => 0)))), (bs_21, .inr (0, [.ref ap_22])), (ap_22, .inl (cJ_6, 64, .inr (.inl fs'_18)))] H := hP
  have hD : va_D A [(q, .inr (3, [.ref q_1, .ref q_7, .null])), (q_1, .inr (4, [.ref ca_5, .long 0, .int (oI none)])), (ca_5, .inl (cJ_6, 64, .inr (.inl (fun _ => 0)))), (q_7, .inr (5, [.ref b_11])), (b_11, .inr (0, [.ref a_12])), (a_12, .inl (cJ_6, 128, .inr (.inl (fun _ => 0)))), (q_14, .inr (1, [.ref bm_19, .ref bs_21])), (bm_19, .inr (0, [.ref am_20])), (am_20, .inl (cJ_6, 64, .inr (.inl (fun _ => 0)))), (bs_21, .inr (0, [.ref ap_22])), (ap_22, .inl (cJ_6, 64, .inr (.inl fs'_18)))] := hD
  refine W.cs (cells' := 10) (slots' := 329) rfl rfl ?_
  refine va_putF (D := (dC, dI)) (ci := 3) (v := .ref q_14) (ty := .object "SmallNumberSets$Buckets") (C := RX3) (T := TX3) (N := 3) hx hb hts (by decide +kernel) tyX3 tyX3_ok nmX3 hown hK hP hD hS 0 rfl rfl 2 (by decide) (hts (.fieldLink RX3 26 "SmallNumberSets$NumberSet" "buckets" "LSmallNumberSets$Buckets;") (by decide +kernel)) (fun _ h9 => h9) rfl hin rfl (by decide +kernel) rfl rfl (Nat.le_of_ble_eq_true rfl) dX3_init_34 (fun H locs hP hD hS => ?_)
  have hP : va_P (dC, dI) vwCl [(q, .inr (3, [.ref q_1, .ref q_7, .ref q_14])), (q_1, .inr (4, [.ref ca_5, .long 0, .int (oI none)])), (ca_5, .inl (cJ_6, 64, .inr (.inl (fun _ => 0)))), (q_7, .inr (5, [.ref b_11])), (b_11, .inr (0, [.ref a_12])), (a_12, .inl (cJ_6, 128, .inr (.inl (fun _ => 0)))), (q_14, .inr (1, [.ref bm_19, .ref bs_21])), (bm_19, .inr (0, [.ref am_20])), (am_20, .inl (cJ_6, 64, .inr (.inl (fun _ => 0)))), (bs_21, .inr (0, [.ref ap_22])), (ap_22, .inl (cJ_6, 64, .inr (.inl fs'_18)))] H := hP
  have hD : va_D A [(q, .inr (3, [.ref q_1, .ref q_7, .ref q_14])), (q_1, .inr (4, [.ref ca_5, .long 0, .int (oI none)])), (ca_5, .inl (cJ_6, 64, .inr (.inl (fun _ => 0)))), (q_7, .inr (5, [.ref b_11])), (b_11, .inr (0, [.ref a_12])), (a_12, .inl (cJ_6, 128, .inr (.inl (fun _ => 0)))), (q_14, .inr (1, [.ref bm_19, .ref bs_21])), (bm_19, .inr (0, [.ref am_20])), (am_20, .inl (cJ_6, 64, .inr (.inl (fun _ => 0)))), (bs_21, .inr (0, [.ref ap_22])), (ap_22, .inl (cJ_6, 64, .inr (.inl fs'_18)))] := hD
  have hP9 := hP.sub (ws' := [(q, .inr (3, [.ref q_1, .ref q_7, .ref q_14])), (q_1, .inr (4, [.ref ca_5, .long 0, .int (oI none)])), (ca_5, .inl (cJ_6, 64, .inr (.inl (fun _ => 0)))), (q_7, .inr (5, [.ref b_11])), (b_11, .inr (0, [.ref a_12])), (a_12, .inl (cJ_6, 128, .inr (.inl (fun _ => 0)))), (q_14, .inr (1, [.ref bm_19, .ref bs_21])), (bm_19, .inr (0, [.ref am_20])), (am_20, .inl (cJ_6, 64, .inr (.inl (fun _ => 0)))), (bs_21, .inr (0, [.ref ap_22])), (ap_22, .inl (cJ_6, 64, .inr (.inl fs'_18)))]) [0, 1, 2, 3, 4, 5, 6, 7, 8, 9, 10] rfl
  have hD9 := hD.sub (ws' := [(q, .inr (3, [.ref q_1, .ref q_7, .ref q_14])), (q_1, .inr (4, [.ref ca_5, .long 0, .int (oI none)])), (ca_5, .inl (cJ_6, 64, .inr (.inl (fun _ => 0)))), (q_7, .inr (5, [.ref b_11])), (b_11, .inr (0, [.ref a_12])), (a_12, .inl (cJ_6, 128, .inr (.inl (fun _ => 0)))), (q_14, .inr (1, [.ref bm_19, .ref bs_21])), (bm_19, .inr (0, [.ref am_20])), (am_20, .inl (cJ_6, 64, .inr (.inl (fun _ => 0)))), (bs_21, .inr (0, [.ref ap_22])), (ap_22, .inl (cJ_6, 64, .inr (.inl fs'_18)))]) [0, 1, 2, 3, 4, 5, 6, 7, 8, 9, 10] (by decide) rfl
  have hK9 := hK.sub (tys' := [(cJ_6, .long)]) [0] rfl
  exact W.vret hx hb hr (fun t9 ht hW => ⟨⟨⟨fun _ => 0, fs'_18, fun _ => 0, fun _ => 0, 0, none⟩, rfl, (show NI (fun _ => 0) fs'_18 (fun _ => 0) (fun _ => 0) 0 none ∧ (∀ x, x < 4096 → bo (fun _ => 0) x = false) ∧ ∀ x, x < 4096 → bo fs'_18 x = decide (x = 0) from ni_wipe (tr_wipe (f := fun _ => 0) fun _ _ => rfl) (ti_wipe fun x _ => bo_0 x) ⟨fun x _ => bo_0 x, fun x _ => hw_15 x⟩), q_1, ca_5, q_7, b_11, a_12, q_14, bm_19, am_20, bs_21, ap_22, cJ_6, by rw [ht]; exact hP9, va_K.moved hW.alike hK9, hD9⟩, hS.F ht⟩) hS.2.2 dX3_init_37
