set_option maxHeartbeats 4000000 in
set_option maxRecDepth 100000 in
/-- law: insert, insert_s -/
theorem c_L_insert_s (l : Launch) (hls : l.stackTraces = false) (dC : Nat → ClassId) (dI : Nat → Nat → Nat) (q : Nat) (s0 : Nat) (s1 : Nat) (s2 : Nat) (v : Int32) (w0 : Int32) (oq : Nat) (sa : Nat) (sz : Nat) (hSf : isS v = false) : Met l yL_insert wsL_insert ({ frames := 8, cells := 1, slots := 6, locals := 126 }) (va_Pc [.ref q, .int v, .int w0, .ref oq] (fun U => TW "java/lang/IndexOutOfBoundsException" 148 "no such set" sa (fun q => sz ≤ q) U U.heap ∧ U.heap.size = sz ∧ va_P (dC, dI) vwCl [(q, .inr (6, [.ref s0, .ref s1, .ref s2]))] U.heap ∧ va_K (dC, dI) vwCl [] U ∧ va_D (fun _ => True) [(q, .inr (6, [.ref s0, .ref s1, .ref s2]))])) (va_Qi (fun (r : Int32) (u : Unit) => r = nI 1) (fun (u : Unit) (t : State) => va_P (dC, dI) vwCl [(q, .inr (6, [.ref s0, .ref s1, .ref s2]))] t.heap ∧ va_K (dC, dI) vwCl [] t ∧ va_D (va_A [(q, .inr (6, [.ref s0, .ref s1, .ref s2]))] sz) [(q, .inr (6, [.ref s0, .ref s1, .ref s2]))]) (va_A [(q, .inr (6, [.ref s0, .ref s1, .ref s2]))] sz)) 1 6 (va_A [(q, .inr (6, [.ref s0, .ref s1, .ref s2]))] sz) := by
  refine va_MetW (cc := cL_insert) (maxL := 5) (ret := (some .int)) (hh := [(0, 17, 20, 13), (0, 17, 24, 15)]) (by decide) rfl ?_
  intro p e s m args below meth c s₁ B hml hv
  obtain ⟨rfl, hT, hsz, hP, hK, hD0⟩ := hv
  have hx := B.exec
  have hb := B.bytes
  have hr := B.returns
  have hts := atoms_spec (ws := wsL_insert) B.pre
  have hown : s.vm.findClass RL = some m.cls := findClass_of_methodNamed B.named
  have hlocks := B.notSynchronized
  have htab : c.exceptionTable.toList = tableOf [(0, 17, 20, 13), (0, 17, 24, 15)] := vx_table (x := yL_insert) B (hts _ List.mem_cons_self)
  subst hsz
  have hD := hD0.self (sz := s.heap.size)
  generalize hAe : va_A [(q, .inr (6, [.ref s0, .ref s1, .ref s2]))] s.heap.size = A at hD ⊢
  have hA : ∀ q : Nat, s.heap.size ≤ q → A q := fun q h => by rw [← hAe]; exact Or.inr h
  have hS : va_S A s.heap s.heap [] := va_S.rf
  have hP : va_P (dC, dI) vwCl [(q, .inr (6, [.ref s0, .ref s1, .ref s2]))] s.heap := hP
  have hl := lv_entry ([.ref q, .int v, .int w0, .ref oq]) (n := 5) (Nat.le_of_ble_eq_true rfl)
  rw [lg_entry_eq]
  generalize (lg_sl ([.ref q, .int v, .int w0, .ref oq]) ++ List.replicate (5 - (lg_sl ([.ref q, .int v, .int w0, .ref oq])).length) Slot.unset).toArray = ls at hl ⊢
  have hl : lv_has ls 5 [(0, .ref q), (1, .int v), (2, .int w0), (3, .ref oq)] := hl
  refine lv_aload_n hx hb dL_insert_0 rfl (lv_at hl 3 rfl) ?_
  refine lv_iconst (v := nI 0) hx hb dL_insert_1 (by decide +kernel) ?_
  refine lv_aload_n hx hb dL_insert_2 rfl (lv_at hl 0 rfl) ?_
  refine lv_iload_n hx hb dL_insert_3 rfl (lv_at hl 1 rfl) ?_
  refine lv_iload_n hx hb dL_insert_4 rfl (lv_at hl 2 rfl) ?_
  have hPc := hP.sub (ws' := [(q, .inr (6, [.ref s0, .ref s1, .ref s2]))]) [0] rfl
  have hKc := hK.sub (tys' := []) [] rfl
  have hDc := hD.sub (ws' := [(q, .inr (6, [.ref s0, .ref s1, .ref s2]))]) [0] (by decide) rfl
  refine vx_callv (vx_runV (As := [.int v, .int w0]) (rest := [.int (nI 0), .ref oq]) ⟨hx, hb, hml, hown, hts⟩ (x_X7_insert_s l hls dC dI q s0 s1 s2 v w0 sa s.heap.size (by first | assumption | omega)) (cwV 2 hts gL_insert_X7_insert rfl rfl rfl (by decide +kernel) ⟨Nat.le_of_ble_eq_true rfl, Nat.le_of_ble_eq_true rfl⟩) ⟨fun a U g mk q => by obtain ⟨q0, q1, qT, qP, qK, qD⟩ := q; exact ⟨q0, q1, TW.same (u := U) (U := U.calling g mk a) rfl qT, qP, va_K.moved (u := U) (U := U.calling g mk a) (Vm.Alike.refl U.vm) qK, qD⟩, va_recv hKc hPc (ci := 6) (q0 := 0) rfl rfl, fun U hU hW => ⟨rfl, by rw [hU], by rw [hU]; exact TW.warm hW hT, by rw [hU]; exact hPc, va_K.moved hW.alike hKc, hDc.weaken (fun _ _ _ _ => trivial)⟩⟩ rfl rfl hl.1 rfl (lv_room (Nat.le_of_ble_eq_true rfl)) dL_insert_5 ⟨Nat.le_of_ble_eq_true rfl, Nat.le_of_ble_eq_true rfl⟩) hS (fun q h9 h8 => absurd h8 (Nat.not_le_of_lt h9)) (fun q h8 => hA q (Nat.le_trans hS.1 h8)) (fun q h9 h8 => absurd h8 (Nat.not_le_of_lt h9)) (fun E9 ce9 q9 u9 t9 H locs ht9 hvm9 hu9 hE9 hz9 hk9 hS hce9 hcv9 hcl9 => ?_) (fun u9 t9 H9 l9 ht9 hvm9 hu9 hB9 hz9 hk9 hS9 => hu9.elim)
  subst hE9
  have hP := hP.kept (H1 := H) (fun k q hk => hk9 _ (vx_lt hP hk) (Nat.not_le_of_lt (vx_lt hP hk)))
  refine vx_catch (name := "java/lang/IndexOutOfBoundsException") hown [] ⟨0, 17, 20, 13⟩ [⟨0, 17, 24, 15⟩] (htab.trans rfl) (fun z hz => nomatch hz) rfl (by decide) (hts (.classLink RL 13 "java/lang/IndexOutOfBoundsException") (by decide +kernel)) (va_Nw.use rfl hT.2.2.2.2.2.2) hce9 hcv9 hcl9 ?_
  refine W.cs (cells' := 1) (slots' := 6) rfl rfl ?_
  refine lv_astore (lv' := [(4, .ref q9), (0, .ref q), (1, .int v), (2, .int w0), (3, .ref oq)]) hx hb dL_insert_20 hl (by decide) rfl (fun ls hl => ?_)
  refine lv_iconst (v := nI 1) hx hb dL_insert_22 (by decide +kernel) ?_
  have hP9 := hP.sub (ws' := [(q, .inr (6, [.ref s0, .ref s1, .ref s2]))]) [0] rfl
  have hD9 := hD.sub (ws' := [(q, .inr (6, [.ref s0, .ref s1, .ref s2]))]) [0] (by decide) rfl
  have hK9 := hK.sub (tys' := []) [] rfl
  exact W.iret (v := nI 1) hx hb hr (fun t9 ht hW => ⟨⟨nI 1, (), rfl, rfl, by rw [ht]; exact hP9, va_K.moved hW.alike hK9, hD9⟩, hS.F ht⟩) hS.2.2 dL_insert_23
set_option maxHeartbeats 4000000 in
set_option maxRecDepth 100000 in
/-- law: insertRange, insertRange_s -/
theorem c_L_insertRange_s (l : Launch) (hls : l.stackTraces = false) (dC : Nat → ClassId) (dI : Nat → Nat → Nat) (q : Nat) (s0 : Nat) (s1 : Nat) (s2 : Nat) (v : Int32) (w0 : Int32) (w1 : Int32) (w2 : Int32) (oq : Nat) (sa : Nat) (sz : Nat) (hSf : isS v = false) : Met l yL_insertRange wsL_insertRange ({ frames := 8, cells := 1, slots := 6, locals := 130 }) (va_Pc [.ref q, .int v, .int w0, .int w1, .int w2, .ref oq] (fun U => TW "java/lang/IndexOutOfBoundsException" 148 "no such set" sa (fun q => sz ≤ q) U U.heap ∧ U.heap.size = sz ∧ va_P (dC, dI) vwCl [(q, .inr (6, [.ref s0, .ref s1, .ref s2]))] U.heap ∧ va_K (dC, dI) vwCl [] U ∧ va_D (fun _ => True) [(q, .inr (6, [.ref s0, .ref s1, .ref s2]))])) (va_Qi (fun (r : Int32) (u : Unit) => r = nI 1) (fun (u : Unit) (t : State) => va_P (dC, dI) vwCl [(q, .inr (6, [.ref s0, .ref s1, .ref s2]))] t.heap ∧ va_K (dC, dI) vwCl [] t ∧ va_D (va_A [(q, .inr (6, [.ref s0, .ref s1, .ref s2]))] sz) [(q, .inr (6, [.ref s0, .ref s1, .ref s2]))]) (va_A [(q, .inr (6, [.ref s0, .ref s1, .ref s2]))] sz)) 1 6 (va_A [(q, .inr (6, [.ref s0, .ref s1, .ref s2]))] sz) := by
  refine va_MetW (cc := cL_insertRange) (maxL := 7) (ret := (some .int)) (hh := [(0, 14, 17, 13), (0, 14, 21, 15)]) (by decide) rfl ?_
  intro p e s m args below meth c s₁ B hml hv
  obtain ⟨rfl, hT, hsz, hP, hK, hD0⟩ := hv
  have hx := B.exec
  have hb := B.bytes
  have hr := B.returns
  have hts := atoms_spec (ws := wsL_insertRange) B.pre
  have hown : s.vm.findClass RL = some m.cls := findClass_of_methodNamed B.named
  have hlocks := B.notSynchronized
  have htab : c.exceptionTable.toList = tableOf [(0, 14, 17, 13), (0, 14, 21, 15)] := vx_table (x := yL_insertRange) B (hts _ List.mem_cons_self)
  subst hsz
  have hD := hD0.self (sz := s.heap.size)
  generalize hAe : va_A [(q, .inr (6, [.ref s0, .ref s1, .ref s2]))] s.heap.size = A at hD ⊢
  have hA : ∀ q : Nat, s.heap.size ≤ q → A q := fun q h => by rw [← hAe]; exact Or.inr h
  have hS : va_S A s.heap s.heap [] := va_S.rf
  have hP : va_P (dC, dI) vwCl [(q, .inr (6, [.ref s0, .ref s1, .ref s2]))] s.heap := hP
  have hl := lv_entry ([.ref q, .int v, .int w0, .int w1, .int w2, .ref oq]) (n := 7) (Nat.le_of_ble_eq_true rfl)
  rw [lg_entry_eq]
  generalize (lg_sl ([.ref q, .int v, .int w0, .int w1, .int w2, .ref oq]) ++ List.replicate (7 - (lg_sl ([.ref q, .int v, .int w0, .int w1, .int w2, .ref oq])).length) Slot.unset).toArray = ls at hl ⊢
  have hl : lv_has ls 7 [(0, .ref q), (1, .int v), (2, .int w0), (3, .int w1), (4, .int w2), (5, .ref oq)] := hl
  refine lv_aload hx hb dL_insertRange_0 (lv_at hl 5 rfl) ?_
  refine lv_iconst (v := nI 0) hx hb dL_insertRange_2 (by decide +kernel) ?_
  refine lv_aload_n hx hb dL_insertRange_3 rfl (lv_at hl 0 rfl) ?_
  refine lv_iload_n hx hb dL_insertRange_4 rfl (lv_at hl 1 rfl) ?_
  refine lv_iload_n hx hb dL_insertRange_5 rfl (lv_at hl 2 rfl) ?_
  refine lv_iload_n hx hb dL_insertRange_6 rfl (lv_at hl 3 rfl) ?_
  refine lv_iload hx hb dL_insertRange_7 (lv_at hl 4 rfl) ?_
  have hPc := hP.sub (ws' := [(q, .inr (6, [.ref s0, .ref s1, .ref s2]))]) [0] rfl
  have hKc := hK.sub (tys' := []) [] rfl
  have hDc := hD.sub (ws' := [(q, .inr (6, [.ref s0, .ref s1, .ref s2]))]) [0] (by decide) rfl
  refine vx_callv (vx_runV (As := [.int v, .int w0, .int w1, .int w2]) (rest := [.int (nI 0), .ref oq]) ⟨hx, hb, hml, hown, hts⟩ (x_X7_insertRange_s l hls dC dI q s0 s1 s2 v w0 w1 w2 sa s.heap.size (by first | assumption | omega)) (cwV 4 hts gL_insertRange_X7_insertRange rfl rfl rfl (by decide +kernel) ⟨Nat.le_of_ble_eq_true rfl, Nat.le_of_ble_eq_true rfl⟩) ⟨fun a U g mk q => by obtain ⟨q0, q1, qT, qP, qK, qD⟩ := q; exact ⟨q0, q1, TW.same (u := U) (U := U.calling g mk a) rfl qT, qP, va_K.moved (u := U) (U := U.calling g mk a) (Vm.Alike.refl U.vm) qK, qD⟩, va_recv hKc hPc (ci := 6) (q0 := 0) rfl rfl, fun U hU hW => ⟨rfl, by rw [hU], by rw [hU]; exact TW.warm hW hT, by rw [hU]; exact hPc, va_K.moved hW.alike hKc, hDc.weaken (fun _ _ _ _ => trivial)⟩⟩ rfl rfl hl.1 rfl (lv_room (Nat.le_of_ble_eq_true rfl)) dL_insertRange_9 ⟨Nat.le_of_ble_eq_true rfl, Nat.le_of_ble_eq_true rfl⟩) hS (fun q h9 h8 => absurd h8 (Nat.not_le_of_lt h9)) (fun q h8 => hA q (Nat.le_trans hS.1 h8)) (fun q h9 h8 => absurd h8 (Nat.not_le_of_lt h9)) (fun E9 ce9 q9 u9 t9 H locs ht9 hvm9 hu9 hE9 hz9 hk9 hS hce9 hcv9 hcl9 => ?_) (fun u9 t9 H9 l9 ht9 hvm9 hu9 hB9 hz9 hk9 hS9 => hu9.elim)
  subst hE9
  have hP := hP.kept (H1 := H) (fun k q hk => hk9 _ (vx_lt hP hk) (Nat.not_le_of_lt (vx_lt hP hk)))
  refine vx_catch (name := "java/lang/IndexOutOfBoundsException") hown [] ⟨0, 14, 17, 13⟩ [⟨0, 14, 21, 15⟩] (htab.trans rfl) (fun z hz => nomatch hz) rfl (by decide) (hts (.classLink RL 13 "java/lang/IndexOutOfBoundsException") (by decide +kernel)) (va_Nw.use rfl hT.2.2.2.2.2.2) hce9 hcv9 hcl9 ?_
  refine W.cs (cells' := 1) (slots' := 6) rfl rfl ?_
  refine lv_astore (lv' := [(6, .ref q9), (0, .ref q), (1, .int v), (2, .int w0), (3, .int w1), (4, .int w2), (5, .ref oq)]) hx hb dL_insertRange_17 hl (by decide) rfl (fun ls hl => ?_)
  refine lv_iconst (v := nI 1) hx hb dL_insertRange_19 (by decide +kernel) ?_
  have hP9 := hP.sub (ws' := [(q, .inr (6, [.ref s0, .ref s1, .ref s2]))]) [0] rfl
  have hD9 := hD.sub (ws' := [(q, .inr (6, [.ref s0, .ref s1, .ref s2]))]) [0] (by decide) rfl
  have hK9 := hK.sub (tys' := []) [] rfl
  exact W.iret (v := nI 1) hx hb hr (fun t9 ht hW => ⟨⟨nI 1, (), rfl, rfl, by rw [ht]; exact hP9, va_K.moved hW.alike hK9, hD9⟩, hS.F ht⟩) hS.2.2 dL_insertRange_20
set_option maxHeartbeats 4000000 in
set_option maxRecDepth 100000 in
/-- law: insertAll, insertAll_s -/
theorem c_L_insertAll_s (l : Launch) (hls : l.stackTraces = false) (dC : Nat → ClassId) (dI : Nat → Nat → Nat) (q : Nat) (s0 : Nat) (s1 : Nat) (s2 : Nat) (v : Int32) (w0 : Int32) (oq : Nat) (sa : Nat) (sz : Nat) (hSf : isS v = false) : Met l yL_insertAll wsL_insertAll ({ frames := 8, cells := 1, slots := 6, locals := 130 }) (va_Pc [.ref q, .int v, .int w0, .ref oq] (fun U => TW "java/lang/IndexOutOfBoundsException" 148 "no such set" sa (fun q => sz ≤ q) U U.heap ∧ U.heap.size = sz ∧ va_P (dC, dI) vwCl [(q, .inr (6, [.ref s0, .ref s1, .ref s2]))] U.heap ∧ va_K (dC, dI) vwCl [] U ∧ va_D (fun _ => True) [(q, .inr (6, [.ref s0, .ref s1, .ref s2]))])) (va_Qi (fun (r : Int32) (u : Unit) => r = nI 1) (fun (u : Unit) (t : State) => va_P (dC, dI) vwCl [(q, .inr (6, [.ref s0, .ref s1, .ref s2]))] t.heap ∧ va_K (dC, dI) vwCl [] t ∧ va_D (va_A [(q, .inr (6, [.ref s0, .ref s1, .ref s2]))] sz) [(q, .inr (6, [.ref s0, .ref s1, .ref s2]))]) (va_A [(q, .inr (6, [.ref s0, .ref s1, .ref s2]))] sz)) 1 6 (va_A [(q, .inr (6, [.ref s0, .ref s1, .ref s2]))] sz) := by
  refine va_MetW (cc := cL_insertAll) (maxL := 5) (ret := (some .int)) (hh := [(0, 10, 13, 13), (0, 10, 17, 25)]) (by decide) rfl ?_
  intro p e s m args below meth c s₁ B hml hv
  obtain ⟨rfl, hT, hsz, hP, hK, hD0⟩ := hv
  have hx := B.exec
  have hb := B.bytes
  have hr := B.returns
  have hts := atoms_spec (ws := wsL_insertAll) B.pre
  have hown : s.vm.findClass RL = some m.cls := findClass_of_methodNamed B.named
  have hlocks := B.notSynchronized
  have htab : c.exceptionTable.toList = tableOf [(0, 10, 13, 13), (0, 10, 17, 25)] := vx_table (x := yL_insertAll) B (hts _ List.mem_cons_self)
  subst hsz
  have hD := hD0.self (sz := s.heap.size)
  generalize hAe : va_A [(q, .inr (6, [.ref s0, .ref s1, .ref s2]))] s.heap.size = A at hD ⊢
  have hA : ∀ q : Nat, s.heap.size ≤ q → A q := fun q h => by rw [← hAe]; exact Or.inr h
  have hS : va_S A s.heap s.heap [] := va_S.rf
  have hP : va_P (dC, dI) vwCl [(q, .inr (6, [.ref s0, .ref s1, .ref s2]))] s.heap := hP
  have hl := lv_entry ([.ref q, .int v, .int w0, .ref oq]) (n := 5) (Nat.le_of_ble_eq_true rfl)
  rw [lg_entry_eq]
  generalize (lg_sl ([.ref q, .int v, .int w0, .ref oq]) ++ List.replicate (5 - (lg_sl ([.ref q, .int v, .int w0, .ref oq])).length) Slot.unset).toArray = ls at hl ⊢
  have hl : lv_has ls 5 [(0, .ref q), (1, .int v), (2, .int w0), (3, .ref oq)] := hl
  refine lv_aload_n hx hb dL_insertAll_0 rfl (lv_at hl 3 rfl) ?_
  refine lv_iconst (v := nI 0) hx hb dL_insertAll_1 (by decide +kernel) ?_
  refine lv_aload_n hx hb dL_insertAll_2 rfl (lv_at hl 0 rfl) ?_
  refine lv_iload_n hx hb dL_insertAll_3 rfl (lv_at hl 1 rfl) ?_
  refine lv_iload_n hx hb dL_insertAll_4 rfl (lv_at hl 2 rfl) ?_
  have hPc := hP.sub (ws' := [(q, .inr (6, [.ref s0, .ref s1, .ref s2]))]) [0] rfl
  have hKc := hK.sub (tys' := []) [] rfl
  have hDc := hD.sub (ws' := [(q, .inr (6, [.ref s0, .ref s1, .ref s2]))]) [0] (by decide) rfl
  refine vx_callv (vx_runV (As := [.int v, .int w0]) (rest := [.int (nI 0), .ref oq]) ⟨hx, hb, hml, hown, hts⟩ (x_X7_insertAll_s l hls dC dI q s0 s1 s2 v w0 sa s.heap.size (by first | assumption | omega)) (cwV 2 hts gL_insertAll_X7_insertAll rfl rfl rfl (by decide +kernel) ⟨Nat.le_of_ble_eq_true rfl, Nat.le_of_ble_eq_true rfl⟩) ⟨fun a U g mk q => by obtain ⟨q0, q1, qT, qP, qK, qD⟩ := q; exact ⟨q0, q1, TW.same (u := U) (U := U.calling g mk a) rfl qT, qP, va_K.moved (u := U) (U := U.calling g mk a) (Vm.Alike.refl U.vm) qK, qD⟩, va_recv hKc hPc (ci := 6) (q0 := 0) rfl rfl, fun U hU hW => ⟨rfl, by rw [hU], by rw [hU]; exact TW.warm hW hT, by rw [hU]; exact hPc, va_K.moved hW.alike hKc, hDc.weaken (fun _ _ _ _ => trivial)⟩⟩ rfl rfl hl.1 rfl (lv_room (Nat.le_of_ble_eq_true rfl)) dL_insertAll_5 ⟨Nat.le_of_ble_eq_true rfl, Nat.le_of_ble_eq_true rfl⟩) hS (fun q h9 h8 => absurd h8 (Nat.not_le_of_lt h9)) (fun q h8 => hA q (Nat.le_trans hS.1 h8)) (fun q h9 h8 => absurd h8 (Nat.not_le_of_lt h9)) (fun E9 ce9 q9 u9 t9 H locs ht9 hvm9 hu9 hE9 hz9 hk9 hS hce9 hcv9 hcl9 => ?_) (fun u9 t9 H9 l9 ht9 hvm9 hu9 hB9 hz9 hk9 hS9 => hu9.elim)
  subst hE9
  have hP := hP.kept (H1 := H) (fun k q hk => hk9 _ (vx_lt hP hk) (Nat.not_le_of_lt (vx_lt hP hk)))
  refine vx_catch (name := "java/lang/IndexOutOfBoundsException") hown [] ⟨0, 10, 13, 13⟩ [⟨0, 10, 17, 25⟩] (htab.trans rfl) (fun z hz => nomatch hz) rfl (by decide) (hts (.classLink RL 13 "java/lang/IndexOutOfBoundsException") (by decide +kernel)) (va_Nw.use rfl hT.2.2.2.2.2.2) hce9 hcv9 hcl9 ?_
  refine W.cs (cells' := 1) (slots' := 6) rfl rfl ?_
  refine lv_astore (lv' := [(4, .ref q9), (0, .ref q), (1, .int v), (2, .int w0), (3, .ref oq)]) hx hb dL_insertAll_13 hl (by decide) rfl (fun ls hl => ?_)
  refine lv_iconst (v := nI 1) hx hb dL_insertAll_15 (by decide +kernel) ?_
  have hP9 := hP.sub (ws' := [(q, .inr (6, [.ref s0, .ref s1, .ref s2]))]) [0] rfl
  have hD9 := hD.sub (ws' := [(q, .inr (6, [.ref s0, .ref s1, .ref s2]))]) [0] (by decide) rfl
  have hK9 := hK.sub (tys' := []) [] rfl
  exact W.iret (v := nI 1) hx hb hr (fun t9 ht hW => ⟨⟨nI 1, (), rfl, rfl, by rw [ht]; exact hP9, va_K.moved hW.alike hK9, hD9⟩, hS.F ht⟩) hS.2.2 dL_insertAll_16
set_option maxHeartbeats 4000000 in
set_option maxRecDepth 100000 in
/-- law: delete, delete_s -/
theorem c_L_delete_s (l : Launch) (hls : l.stackTraces = false) (dC : Nat → ClassId) (dI : Nat → Nat → Nat) (q : Nat) (s0 : Nat) (s1 : Nat) (s2 : Nat) (v : Int32) (w0 : Int32) (oq : Nat) (sa : Nat) (sz : Nat) (hSf : isS v = false) : Met l yL_delete wsL_delete ({ frames := 8, cells := 1, slots := 6, locals := 126 }) (va_Pc [.ref q, .int v, .int w0, .ref oq] (fun U => TW "java/lang/IndexOutOfBoundsException" 148 "no such set" sa (fun q => sz ≤ q) U U.heap ∧ U.heap.size = sz ∧ va_P (dC, dI) vwCl [(q, .inr (6, [.ref s0, .ref s1, .ref s2]))] U.heap ∧ va_K (dC, dI) vwCl [] U ∧ va_D (fun _ => True) [(q, .inr (6, [.ref s0, .ref s1, .ref s2]))])) (va_Qi (fun (r : Int32) (u : Unit) => r = nI 1) (fun (u : Unit) (t : State) => va_P (dC, dI) vwCl [(q, .inr (6, [.ref s0, .ref s1, .ref s2]))] t.heap ∧ va_K (dC, dI) vwCl [] t ∧ va_D (va_A [(q, .inr (6, [.ref s0, .ref s1, .ref s2]))] sz) [(q, .inr (6, [.ref s0, .ref s1, .ref s2]))]) (va_A [(q, .inr (6, [.ref s0, .ref s1, .ref s2]))] sz)) 1 6 (va_A [(q, .inr (6, [.ref s0, .ref s1, .ref s2]))] sz) := by
  refine va_MetW (cc := cL_delete) (maxL := 5) (ret := (some .int)) (hh := [(0, 17, 20, 13), (0, 17, 24, 15)]) (by decide) rfl ?_
  intro p e s m args below meth c s₁ B hml hv
  obtain ⟨rfl, hT, hsz, hP, hK, hD0⟩ := hv
  have hx := B.exec
  have hb := B.bytes
  have hr := B.returns
  have hts := atoms_spec (ws := wsL_delete) B.pre
  have hown : s.vm.findClass RL = some m.cls := findClass_of_methodNamed B.named
  have hlocks := B.notSynchronized
  have htab : c.exceptionTable.toList = tableOf [(0, 17, 20, 13), (0, 17, 24, 15)] := vx_table (x := yL_delete) B (hts _ List.mem_cons_self)
  subst hsz
  have hD := hD0.self (sz := s.heap.size)
  generalize hAe : va_A [(q, .inr (6, [.ref s0, .ref s1, .ref s2]))] s.heap.size = A at hD ⊢
  have hA : ∀ q : Nat, s.heap.size ≤ q → A q := fun q h => by rw [← hAe]; exact Or.inr h
  have hS : va_S A s.heap s.heap [] := va_S.rf
  have hP : va_P (dC, dI) vwCl [(q, .inr (6, [.ref s0, .ref s1, .ref s2]))] s.heap := hP
  have hl := lv_entry ([.ref q, .int v, .int w0, .ref oq]) (n := 5) (Nat.le_of_ble_eq_true rfl)
  rw [lg_entry_eq]
  generalize (lg_sl ([.ref q, .int v, .int w0, .ref oq]) ++ List.replicate (5 - (lg_sl ([.ref q, .int v, .int w0, .ref oq])).length) Slot.unset).toArray = ls at hl ⊢
  have hl : lv_has ls 5 [(0, .ref q), (1, .int v), (2, .int w0), (3, .ref oq)] := hl
  refine lv_aload_n hx hb dL_delete_0 rfl (lv_at hl 3 rfl) ?_
  refine lv_iconst (v := nI 0) hx hb dL_delete_1 (by decide +kernel) ?_
  refine lv_aload_n hx hb dL_delete_2 rfl (lv_at hl 0 rfl) ?_
  refine lv_iload_n hx hb dL_delete_3 rfl (lv_at hl 1 rfl) ?_
  refine lv_iload_n hx hb dL_delete_4 rfl (lv_at hl 2 rfl) ?_
  have hPc := hP.sub (ws' := [(q, .inr (6, [.ref s0, .ref s1, .ref s2]))]) [0] rfl
  have hKc := hK.sub (tys' := []) [] rfl
  have hDc := hD.sub (ws' := [(q, .inr (6, [.ref s0, .ref s1, .ref s2]))]) [0] (by decide) rfl
  refine vx_callv (vx_runV (As := [.int v, .int w0]) (rest := [.int (nI 0), .ref oq]) ⟨hx, hb, hml, hown, hts⟩ (x_X7_delete_s l hls dC dI q s0 s1 s2 v w0 sa s.heap.size (by first | assumption | omega)) (cwV 2 hts gL_delete_X7_delete rfl rfl rfl (by decide +kernel) ⟨Nat.le_of_ble_eq_true rfl, Nat.le_of_ble_eq_true rfl⟩) ⟨fun a U g mk q => by obtain ⟨q0, q1, qT, qP, qK, qD⟩ := q; exact ⟨q0, q1, TW.same (u := U) (U := U.calling g mk a) rfl qT, qP, va_K.moved (u := U) (U := U.calling g mk a) (Vm.Alike.refl U.vm) qK, qD⟩, va_recv hKc hPc (ci := 6) (q0 := 0) rfl rfl, fun U hU hW => ⟨rfl, by rw [hU], by rw [hU]; exact TW.warm hW hT, by rw [hU]; exact hPc, va_K.moved hW.alike hKc, hDc.weaken (fun _ _ _ _ => trivial)⟩⟩ rfl rfl hl.1 rfl (lv_room (Nat.le_of_ble_eq_true rfl)) dL_delete_5 ⟨Nat.le_of_ble_eq_true rfl, Nat.le_of_ble_eq_true rfl⟩) hS (fun q h9 h8 => absurd h8 (Nat.not_le_of_lt h9)) (fun q h8 => hA q (Nat.le_trans hS.1 h8)) (fun q h9 h8 => absurd h8 (Nat.not_le_of_lt h9)) (fun E9 ce9 q9 u9 t9 H locs ht9 hvm9 hu9 hE9 hz9 hk9 hS hce9 hcv9 hcl9 => ?_) (fun u9 t9 H9 l9 ht9 hvm9 hu9 hB9 hz9 hk9 hS9 => hu9.elim)
  subst hE9
  have hP := hP.kept (H1 := H) (fun k q hk => hk9 _ (vx_lt hP hk) (Nat.not_le_of_lt (vx_lt hP hk)))
  refine vx_catch (name := "java/lang/IndexOutOfBoundsException") hown [] ⟨0, 17, 20, 13⟩ [⟨0, 17, 24, 15⟩] (htab.trans rfl) (fun z hz => nomatch hz) rfl (by decide) (hts (.classLink RL 13 "java/lang/IndexOutOfBoundsException") (by decide +kernel)) (va_Nw.use rfl hT.2.2.2.2.2.2) hce9 hcv9 hcl9 ?_
  refine W.cs (cells' := 1) (slots' := 6) rfl rfl ?_
  refine lv_astore (lv' := [(4, .ref q9), (0, .ref q), (1, .int v), (2, .int w0), (3, .ref oq)]) hx hb dL_delete_20 hl (by decide) rfl (fun ls hl => ?_)
  refine lv_iconst (v := nI 1) hx hb dL_delete_22 (by decide +kernel) ?_
  have hP9 := hP.sub (ws' := [(q, .inr (6, [.ref s0, .ref s1, .ref s2]))]) [0] rfl
  have hD9 := hD.sub (ws' := [(q, .inr (6, [.ref s0, .ref s1, .ref s2]))]) [0] (by decide) rfl
  have hK9 := hK.sub (tys' := []) [] rfl
  exact W.iret (v := nI 1) hx hb hr (fun t9 ht hW => ⟨⟨nI 1, (), rfl, rfl, by rw [ht]; exact hP9, va_K.moved hW.alike hK9, hD9⟩, hS.F ht⟩) hS.2.2 dL_delete_23
set_option maxHeartbeats 4000000 in
set_option maxRecDepth 100000 in
/-- law: pollFirst, pollFirst_s -/
theorem c_L_pollFirst_s (l : Launch) (hls : l.stackTraces = false) (dC : Nat → ClassId) (dI : Nat → Nat → Nat) (q : Nat) (s0 : Nat) (s1 : Nat) (s2 : Nat) (v : Int32) (oq : Nat) (sa : Nat) (sz : Nat) (hSf : isS v = false) : Met l yL_pollFirst wsL_pollFirst ({ frames := 8, cells := 1, slots := 6, locals := 126 }) (va_Pc [.ref q, .int v, .ref oq] (fun U => TW "java/lang/IndexOutOfBoundsException" 148 "no such set" sa (fun q => sz ≤ q) U U.heap ∧ U.heap.size = sz ∧ va_P (dC, dI) vwCl [(q, .inr (6, [.ref s0, .ref s1, .ref s2]))] U.heap ∧ va_K (dC, dI) vwCl [] U ∧ va_D (fun _ => True) [(q, .inr (6, [.ref s0, .ref s1, .ref s2]))])) (va_Qi (fun (r : Int32) (u : Unit) => r = nI 1) (fun (u : Unit) (t : State) => va_P (dC, dI) vwCl [(q, .inr (6, [.ref s0, .ref s1, .ref s2]))] t.heap ∧ va_K (dC, dI) vwCl [] t ∧ va_D (va_A [(q, .inr (6, [.ref s0, .ref s1, .ref s2]))] sz) [(q, .inr (6, [.ref s0, .ref s1, .ref s2]))]) (va_A [(q, .inr (6, [.ref s0, .ref s1, .ref s2]))] sz)) 1 6 (va_A [(q, .inr (6, [.ref s0, .ref s1, .ref s2]))] sz) := by
  refine va_MetW (cc := cL_pollFirst) (maxL := 4) (ret := (some .int)) (hh := [(0, 9, 12, 13), (0, 9, 15, 34)]) (by decide) rfl ?_
  intro p e s m args below meth c s₁ B hml hv
  obtain ⟨rfl, hT, hsz, hP, hK, hD0⟩ := hv
  have hx := B.exec
  have hb := B.bytes
  have hr := B.returns
  have hts := atoms_spec (ws := wsL_pollFirst) B.pre
  have hown : s.vm.findClass RL = some m.cls := findClass_of_methodNamed B.named
  have hlocks := B.notSynchronized
  have htab : c.exceptionTable.toList = tableOf [(0, 9, 12, 13), (0, 9, 15, 34)] := vx_table (x := yL_pollFirst) B (hts _ List.mem_cons_self)
  subst hsz
  have hD := hD0.self (sz := s.heap.size)
  generalize hAe : va_A [(q, .inr (6, [.ref s0, .ref s1, .ref s2]))] s.heap.size = A at hD ⊢
  have hA : ∀ q : Nat, s.heap.size ≤ q → A q := fun q h => by rw [← hAe]; exact Or.inr h
  have hS : va_S A s.heap s.heap [] := va_S.rf
  have hP : va_P (dC, dI) vwCl [(q, .inr (6, [.ref s0, .ref s1, .ref s2]))] s.heap := hP
  have hl := lv_entry ([.ref q, .int v, .ref oq]) (n := 4) (Nat.le_of_ble_eq_true rfl)
  rw [lg_entry_eq]
  generalize (lg_sl ([.ref q, .int v, .ref oq]) ++ List.replicate (4 - (lg_sl ([.ref q, .int v, .ref oq])).length) Slot.unset).toArray = ls at hl ⊢
  have hl : lv_has ls 4 [(0, .ref q), (1, .int v), (2, .ref oq)] := hl
  refine lv_aload_n hx hb dL_pollFirst_0 rfl (lv_at hl 2 rfl) ?_
  refine lv_iconst (v := nI 0) hx hb dL_pollFirst_1 (by decide +kernel) ?_
  refine lv_aload_n hx hb dL_pollFirst_2 rfl (lv_at hl 0 rfl) ?_
  refine lv_iload_n hx hb dL_pollFirst_3 rfl (lv_at hl 1 rfl) ?_
  have hPc := hP.sub (ws' := [(q, .inr (6, [.ref s0, .ref s1, .ref s2]))]) [0] rfl
  have hKc := hK.sub (tys' := []) [] rfl
  have hDc := hD.sub (ws' := [(q, .inr (6, [.ref s0, .ref s1, .ref s2]))]) [0] (by decide) rfl
  refine vx_callv (vx_runV (As := [.int v]) (rest := [.int (nI 0), .ref oq]) ⟨hx, hb, hml, hown, hts⟩ (x_X7_pollFirst_s l hls dC dI q s0 s1 s2 v sa s.heap.size (by first | assumption | omega)) (cwV 1 hts gL_pollFirst_X7_pollFirst rfl rfl rfl (by decide +kernel) ⟨Nat.le_of_ble_eq_true rfl, Nat.le_of_ble_eq_true rfl⟩) ⟨fun a U g mk q => by obtain ⟨q0, q1, qT, qP, qK, qD⟩ := q; exact ⟨q0, q1, TW.same (u := U) (U := U.calling g mk a) rfl qT, qP, va_K.moved (u := U) (U := U.calling g mk a) (Vm.Alike.refl U.vm) qK, qD⟩, va_recv hKc hPc (ci := 6) (q0 := 0) rfl rfl, fun U hU hW => ⟨rfl, by rw [hU], by rw [hU]; exact TW.warm hW hT, by rw [hU]; exact hPc, va_K.moved hW.alike hKc, hDc.weaken (fun _ _ _ _ => trivial)⟩⟩ rfl rfl hl.1 rfl (lv_room (Nat.le_of_ble_eq_true rfl)) dL_pollFirst_4 ⟨Nat.le_of_ble_eq_true rfl, Nat.le_of_ble_eq_true rfl⟩) hS (fun q h9 h8 => absurd h8 (Nat.not_le_of_lt h9)) (fun q h8 => hA q (Nat.le_trans hS.1 h8)) (fun q h9 h8 => absurd h8 (Nat.not_le_of_lt h9)) (fun E9 ce9 q9 u9 t9 H locs ht9 hvm9 hu9 hE9 hz9 hk9 hS hce9 hcv9 hcl9 => ?_) (fun u9 t9 H9 l9 ht9 hvm9 hu9 hB9 hz9 hk9 hS9 => hu9.elim)
  subst hE9
  have hP := hP.kept (H1 := H) (fun k q hk => hk9 _ (vx_lt hP hk) (Nat.not_le_of_lt (vx_lt hP hk)))
  refine vx_catch (name := "java/lang/IndexOutOfBoundsException") hown [] ⟨0, 9, 12, 13⟩ [⟨0, 9, 15, 34⟩] (htab.trans rfl) (fun z hz => nomatch hz) rfl (by decide) (hts (.classLink RL 13 "java/lang/IndexOutOfBoundsException") (by decide +kernel)) (va_Nw.use rfl hT.2.2.2.2.2.2) hce9 hcv9 hcl9 ?_
  refine W.cs (cells' := 1) (slots' := 6) rfl rfl ?_
  refine lv_astore_n (lv' := [(3, .ref q9), (0, .ref q), (1, .int v), (2, .ref oq)]) hx hb dL_pollFirst_12 rfl hl (by decide) rfl (fun ls hl => ?_)
  refine lv_iconst (v := nI 1) hx hb dL_pollFirst_13 (by decide +kernel) ?_
  have hP9 := hP.sub (ws' := [(q, .inr (6, [.ref s0, .ref s1, .ref s2]))]) [0] rfl
  have hD9 := hD.sub (ws' := [(q, .inr (6, [.ref s0, .ref s1, .ref s2]))]) [0] (by decide) rfl
  have hK9 := hK.sub (tys' := []) [] rfl
  exact W.iret (v := nI 1) hx hb hr (fun t9 ht hW => ⟨⟨nI 1, (), rfl, rfl, by rw [ht]; exact hP9, va_K.moved hW.alike hK9, hD9⟩, hS.F ht⟩) hS.2.2 dL_pollFirst_14
set_option maxHeartbeats 4000000 in
set_option maxRecDepth 100000 in
/-- law: pollLast, pollLast_s -/
theorem c_L_pollLast_s (l : Launch) (hls : l.stackTraces = false) (dC : Nat → ClassId) (dI : Nat → Nat → Nat) (q : Nat) (s0 : Nat) (s1 : Nat) (s2 : Nat) (v : Int32) (oq : Nat) (sa : Nat) (sz : Nat) (hSf : isS v = false) : Met l yL_pollLast wsL_pollLast ({ frames := 8, cells := 1, slots := 6, locals := 126 }) (va_Pc [.ref q, .int v, .ref oq] (fun U => TW "java/lang/IndexOutOfBoundsException" 148 "no such set" sa (fun q => sz ≤ q) U U.heap ∧ U.heap.size = sz ∧ va_P (dC, dI) vwCl [(q, .inr (6, [.ref s0, .ref s1, .ref s2]))] U.heap ∧ va_K (dC, dI) vwCl [] U ∧ va_D (fun _ => True) [(q, .inr (6, [.ref s0, .ref s1, .ref s2]))])) (va_Qi (fun (r : Int32) (u : Unit) => r = nI 1) (fun (u : Unit) (t : State) => va_P (dC, dI) vwCl [(q, .inr (6, [.ref s0, .ref s1, .ref s2]))] t.heap ∧ va_K (dC, dI) vwCl [] t ∧ va_D (va_A [(q, .inr (6, [.ref s0, .ref s1, .ref s2]))] sz) [(q, .inr (6, [.ref s0, .ref s1, .ref s2]))]) (va_A [(q, .inr (6, [.ref s0, .ref s1, .ref s2]))] sz)) 1 6 (va_A [(q, .inr (6, [.ref s0, .ref s1, .ref s2]))] sz) := by
  refine va_MetW (cc := cL_pollLast) (maxL := 4) (ret := (some .int)) (hh := [(0, 9, 12, 13), (0, 9, 15, 34)]) (by decide) rfl ?_
  intro p e s m args below meth c s₁ B hml hv
  obtain ⟨rfl, hT, hsz, hP, hK, hD0⟩ := hv
  have hx := B.exec
  have hb := B.bytes
  have hr := B.returns
  have hts := atoms_spec (ws := wsL_pollLast) B.pre
  have hown : s.vm.findClass RL = some m.cls := findClass_of_methodNamed B.named
  have hlocks := B.notSynchronized
  have htab : c.exceptionTable.toList = tableOf [(0, 9, 12, 13), (0, 9, 15, 34)] := vx_table (x := yL_pollLast) B (hts _ List.mem_cons_self)
  subst hsz
  have hD := hD0.self (sz := s.heap.size)
  generalize hAe : va_A [(q, .inr (6, [.ref s0, .ref s1, .ref s2]))] s.heap.size = A at hD ⊢
  have hA : ∀ q : Nat, s.heap.size ≤ q → A q := fun q h => by rw [← hAe]; exact Or.inr h
  have hS : va_S A s.heap s.heap [] := va_S.rf
  have hP : va_P (dC, dI) vwCl [(q, .inr (6, [.ref s0, .ref s1, .ref s2]))] s.heap := hP
  have hl := lv_entry ([.ref q, .int v, .ref oq]) (n := 4) (Nat.le_of_ble_eq_true rfl)
  rw [lg_entry_eq]
  generalize (lg_sl ([.ref q, .int v, .ref oq]) ++ List.replicate (4 - (lg_sl ([.ref q, .int v, .ref oq])).length) Slot.unset).toArray = ls at hl ⊢
  have hl : lv_has ls 4 [(0, .ref q), (1, .int v), (2, .ref oq)] := hl
  refine lv_aload_n hx hb dL_pollLast_0 rfl (lv_at hl 2 rfl) ?_
  refine lv_iconst (v := nI 0) hx hb dL_pollLast_1 (by decide +kernel) ?_
  refine lv_aload_n hx hb dL_pollLast_2 rfl (lv_at hl 0 rfl) ?_
  refine lv_iload_n hx hb dL_pollLast_3 rfl (lv_at hl 1 rfl) ?_
  have hPc := hP.sub (ws' := [(q, .inr (6, [.ref s0, .ref s1, .ref s2]))]) [0] rfl
  have hKc := hK.sub (tys' := []) [] rfl
  have hDc := hD.sub (ws' := [(q, .inr (6, [.ref s0, .ref s1, .ref s2]))]) [0] (by decide) rfl
  refine vx_callv (vx_runV (As := [.int v]) (rest := [.int (nI 0), .ref oq]) ⟨hx, hb, hml, hown, hts⟩ (x_X7_pollLast_s l hls dC dI q s0 s1 s2 v sa s.heap.size (by first | assumption | omega)) (cwV 1 hts gL_pollLast_X7_pollLast rfl rfl rfl (by decide +kernel) ⟨Nat.le_of_ble_eq_true rfl, Nat.le_of_ble_eq_true rfl⟩) ⟨fun a U g mk q => by obtain ⟨q0, q1, qT, qP, qK, qD⟩ := q; exact ⟨q0, q1, TW.same (u := U) (U := U.calling g mk a) rfl qT, qP, va_K.moved (u := U) (U := U.calling g mk a) (Vm.Alike.refl U.vm) qK, qD⟩, va_recv hKc hPc (ci := 6) (q0 := 0) rfl rfl, fun U hU hW => ⟨rfl, by rw [hU], by rw [hU]; exact TW.warm hW hT, by rw [hU]; exact hPc, va_K.moved hW.alike hKc, hDc.weaken (fun _ _ _ _ => trivial)⟩⟩ rfl rfl hl.1 rfl (lv_room (Nat.le_of_ble_eq_true rfl)) dL_pollLast_4 ⟨Nat.le_of_ble_eq_true rfl, Nat.le_of_ble_eq_true rfl⟩) hS (fun q h9 h8 => absurd h8 (Nat.not_le_of_lt h9)) (fun q h8 => hA q (Nat.le_trans hS.1 h8)) (fun q h9 h8 => absurd h8 (Nat.not_le_of_lt h9)) (fun E9 ce9 q9 u9 t9 H locs ht9 hvm9 hu9 hE9 hz9 hk9 hS hce9 hcv9 hcl9 => ?_) (fun u9 t9 H9 l9 ht9 hvm9 hu9 hB9 hz9 hk9 hS9 => hu9.elim)
  subst hE9
  have hP := hP.kept (H1 := H) (fun k q hk => hk9 _ (vx_lt hP hk) (Nat.not_le_of_lt (vx_lt hP hk)))
  refine vx_catch (name := "java/lang/IndexOutOfBoundsException") hown [] ⟨0, 9, 12, 13⟩ [⟨0, 9, 15, 34⟩] (htab.trans rfl) (fun z hz => nomatch hz) rfl (by decide) (hts (.classLink RL 13 "java/lang/IndexOutOfBoundsException") (by decide +kernel)) (va_Nw.use rfl hT.2.2.2.2.2.2) hce9 hcv9 hcl9 ?_
  refine W.cs (cells' := 1) (slots' := 6) rfl rfl ?_
  refine lv_astore_n (lv' := [(3, .ref q9), (0, .ref q), (1, .int v), (2, .ref oq)]) hx hb dL_pollLast_12 rfl hl (by decide) rfl (fun ls hl => ?_)
  refine lv_iconst (v := nI 1) hx hb dL_pollLast_13 (by decide +kernel) ?_
  have hP9 := hP.sub (ws' := [(q, .inr (6, [.ref s0, .ref s1, .ref s2]))]) [0] rfl
  have hD9 := hD.sub (ws' := [(q, .inr (6, [.ref s0, .ref s1, .ref s2]))]) [0] (by decide) rfl
  have hK9 := hK.sub (tys' := []) [] rfl
  exact W.iret (v := nI 1) hx hb hr (fun t9 ht hW => ⟨⟨nI 1, (), rfl, rfl, by rw [ht]; exact hP9, va_K.moved hW.alike hK9, hD9⟩, hS.F ht⟩) hS.2.2 dL_pollLast_14
set_option maxHeartbeats 4000000 in
set_option maxRecDepth 100000 in
/-- law: clear, clear_s -/
theorem c_L_clear_s (l : Launch) (hls : l.stackTraces = false) (dC : Nat → ClassId) (dI : Nat → Nat → Nat) (q : Nat) (s0 : Nat) (s1 : Nat) (s2 : Nat) (v : Int32) (oq : Nat) (sa : Nat) (sz : Nat) (hSf : isS v = false) : Met l yL_clear wsL_clear ({ frames := 8, cells := 1, slots := 6, locals := 126 }) (va_Pc [.ref q, .int v, .ref oq] (fun U => TW "java/lang/IndexOutOfBoundsException" 148 "no such set" sa (fun q => sz ≤ q) U U.heap ∧ U.heap.size = sz ∧ va_P (dC, dI) vwCl [(q, .inr (6, [.ref s0, .ref s1, .ref s2]))] U.heap ∧ va_K (dC, dI) vwCl [] U ∧ va_D (fun _ => True) [(q, .inr (6, [.ref s0, .ref s1, .ref s2]))])) (va_Qi (fun (r : Int32) (u : Unit) => r = nI 1) (fun (u : Unit) (t : State) => va_P (dC, dI) vwCl [(q, .inr (6, [.ref s0, .ref s1, .ref s2]))] t.heap ∧ va_K (dC, dI) vwCl [] t ∧ va_D (va_A [(q, .inr (6, [.ref s0, .ref s1, .ref s2]))] sz) [(q, .inr (6, [.ref s0, .ref s1, .ref s2]))]) (va_A [(q, .inr (6, [.ref s0, .ref s1, .ref s2]))] sz)) 1 6 (va_A [(q, .inr (6, [.ref s0, .ref s1, .ref s2]))] sz) := by
  refine va_MetW (cc := cL_clear) (maxL := 4) (ret := (some .int)) (hh := [(0, 9, 12, 13)]) (by decide) rfl ?_
  intro p e s m args below meth c s₁ B hml hv
  obtain ⟨rfl, hT, hsz, hP, hK, hD0⟩ := hv
  have hx := B.exec
  have hb := B.bytes
  have hr := B.returns
  have hts := atoms_spec (ws := wsL_clear) B.pre
  have hown : s.vm.findClass RL = some m.cls := findClass_of_methodNamed B.named
  have hlocks := B.notSynchronized
  have htab : c.exceptionTable.toList = tableOf [(0, 9, 12, 13)] := vx_table (x := yL_clear) B (hts _ List.mem_cons_self)
  subst hsz
  have hD := hD0.self (sz := s.heap.size)
  generalize hAe : va_A [(q, .inr (6, [.ref s0, .ref s1, .ref s2]))] s.heap.size = A at hD ⊢
  have hA : ∀ q : Nat, s.heap.size ≤ q → A q := fun q h => by rw [← hAe]; exact Or.inr h
  have hS : va_S A s.heap s.heap [] := va_S.rf
  have hP : va_P (dC, dI) vwCl [(q, .inr (6, [.ref s0, .ref s1, .ref s2]))] s.heap := hP
  have hl := lv_entry ([.ref q, .int v, .ref oq]) (n := 4) (Nat.le_of_ble_eq_true rfl)
  rw [lg_entry_eq]
  generalize (lg_sl ([.ref q, .int v, .ref oq]) ++ List.replicate (4 - (lg_sl ([.ref q, .int v, .ref oq])).length) Slot.unset).toArray = ls at hl ⊢
  have hl : lv_has ls 4 [(0, .ref q), (1, .int v), (2, .ref oq)] := hl
  refine lv_aload_n hx hb dL_clear_0 rfl (lv_at hl 2 rfl) ?_
  refine lv_iconst (v := nI 0) hx hb dL_clear_1 (by decide +kernel) ?_
  refine lv_aload_n hx hb dL_clear_2 rfl (lv_at hl 0 rfl) ?_
  refine lv_iload_n hx hb dL_clear_3 rfl (lv_at hl 1 rfl) ?_
  have hPc := hP.sub (ws' := [(q, .inr (6, [.ref s0, .ref s1, .ref s2]))]) [0] rfl
  have hKc := hK.sub (tys' := []) [] rfl
  have hDc := hD.sub (ws' := [(q, .inr (6, [.ref s0, .ref s1, .ref s2]))]) [0] (by decide) rfl
  refine vx_callv (vx_runV (As := [.int v]) (rest := [.int (nI 0), .ref oq]) ⟨hx, hb, hml, hown, hts⟩ (x_X7_clear_s l hls dC dI q s0 s1 s2 v sa s.heap.size (by first | assumption | omega)) (cwV 1 hts gL_clear_X7_clear rfl rfl rfl (by decide +kernel) ⟨Nat.le_of_ble_eq_true rfl, Nat.le_of_ble_eq_true rfl⟩) ⟨fun a U g mk q => by obtain ⟨q0, q1, qT, qP, qK, qD⟩ := q; exact ⟨q0, q1, TW.same (u := U) (U := U.calling g mk a) rfl qT, qP, va_K.moved (u := U) (U := U.calling g mk a) (Vm.Alike.refl U.vm) qK, qD⟩, va_recv hKc hPc (ci := 6) (q0 := 0) rfl rfl, fun U hU hW => ⟨rfl, by rw [hU], by rw [hU]; exact TW.warm hW hT, by rw [hU]; exact hPc, va_K.moved hW.alike hKc, hDc.weaken (fun _ _ _ _ => trivial)⟩⟩ rfl rfl hl.1 rfl (lv_room (Nat.le_of_ble_eq_true rfl)) dL_clear_4 ⟨Nat.le_of_ble_eq_true rfl, Nat.le_of_ble_eq_true rfl⟩) hS (fun q h9 h8 => absurd h8 (Nat.not_le_of_lt h9)) (fun q h8 => hA q (Nat.le_trans hS.1 h8)) (fun q h9 h8 => absurd h8 (Nat.not_le_of_lt h9)) (fun E9 ce9 q9 u9 t9 H locs ht9 hvm9 hu9 hE9 hz9 hk9 hS hce9 hcv9 hcl9 => ?_) (fun u9 t9 H9 l9 ht9 hvm9 hu9 hB9 hz9 hk9 hS9 => hu9.elim)
  subst hE9
  have hP := hP.kept (H1 := H) (fun k q hk => hk9 _ (vx_lt hP hk) (Nat.not_le_of_lt (vx_lt hP hk)))
  refine vx_catch (name := "java/lang/IndexOutOfBoundsException") hown [] ⟨0, 9, 12, 13⟩ [] (htab.trans rfl) (fun z hz => nomatch hz) rfl (by decide) (hts (.classLink RL 13 "java/lang/IndexOutOfBoundsException") (by decide +kernel)) (va_Nw.use rfl hT.2.2.2.2.2.2) hce9 hcv9 hcl9 ?_
  refine W.cs (cells' := 1) (slots' := 6) rfl rfl ?_
  refine lv_astore_n (lv' := [(3, .ref q9), (0, .ref q), (1, .int v), (2, .ref oq)]) hx hb dL_clear_12 rfl hl (by decide) rfl (fun ls hl => ?_)
  refine lv_iconst (v := nI 1) hx hb dL_clear_13 (by decide +kernel) ?_
  have hP9 := hP.sub (ws' := [(q, .inr (6, [.ref s0, .ref s1, .ref s2]))]) [0] rfl
  have hD9 := hD.sub (ws' := [(q, .inr (6, [.ref s0, .ref s1, .ref s2]))]) [0] (by decide) rfl
  have hK9 := hK.sub (tys' := []) [] rfl
  exact W.iret (v := nI 1) hx hb hr (fun t9 ht hW => ⟨⟨nI 1, (), rfl, rfl, by rw [ht]; exact hP9, va_K.moved hW.alike hK9, hD9⟩, hS.F ht⟩) hS.2.2 dL_clear_14
set_option maxHeartbeats 4000000 in
set_option maxRecDepth 100000 in
/-- law: size, size_s -/
theorem c_L_size_s (l : Launch) (hls : l.stackTraces = false) (dC : Nat → ClassId) (dI : Nat → Nat → Nat) (q : Nat) (s0 : Nat) (s1 : Nat) (s2 : Nat) (v : Int32) (oq : Nat) (sa : Nat) (sz : Nat) (hSf : isS v = false) : Met l yL_size wsL_size ({ frames := 8, cells := 1, slots := 6, locals := 124 }) (va_Pc [.ref q, .int v, .ref oq] (fun U => TW "java/lang/IndexOutOfBoundsException" 148 "no such set" sa (fun q => sz ≤ q) U U.heap ∧ U.heap.size = sz ∧ va_P (dC, dI) vwCl [(q, .inr (6, [.ref s0, .ref s1, .ref s2]))] U.heap ∧ va_K (dC, dI) vwCl [] U ∧ va_D (fun _ => True) [(q, .inr (6, [.ref s0, .ref s1, .ref s2]))])) (va_Qi (fun (r : Int32) (u : Unit) => r = nI 1) (fun (u : Unit) (t : State) => va_P (dC, dI) vwCl [(q, .inr (6, [.ref s0, .ref s1, .ref s2]))] t.heap ∧ va_K (dC, dI) vwCl [] t ∧ va_D (va_A [(q, .inr (6, [.ref s0, .ref s1, .ref s2]))] sz) [(q, .inr (6, [.ref s0, .ref s1, .ref s2]))]) (va_A [(q, .inr (6, [.ref s0, .ref s1, .ref s2]))] sz)) 1 6 (va_A [(q, .inr (6, [.ref s0, .ref s1, .ref s2]))] sz) := by
  refine va_MetW (cc := cL_size) (maxL := 4) (ret := (some .int)) (hh := [(0, 9, 12, 13)]) (by decide) rfl ?_
  intro p e s m args below meth c s₁ B hml hv
  obtain ⟨rfl, hT, hsz, hP, hK, hD0⟩ := hv
  have hx := B.exec
  have hb := B.bytes
  have hr := B.returns
  have hts := atoms_spec (ws := wsL_size) B.pre
  have hown : s.vm.findClass RL = some m.cls := findClass_of_methodNamed B.named
  have hlocks := B.notSynchronized
  have htab : c.exceptionTable.toList = tableOf [(0, 9, 12, 13)] := vx_table (x := yL_size) B (hts _ List.mem_cons_self)
  subst hsz
  have hD := hD0.self (sz := s.heap.size)
  generalize hAe : va_A [(q, .inr (6, [.ref s0, .ref s1, .ref s2]))] s.heap.size = A at hD ⊢
  have hA : ∀ q : Nat, s.heap.size ≤ q → A q := fun q h => by rw [← hAe]; exact Or.inr h
  have hS : va_S A s.heap s.heap [] := va_S.rf
  have hP : va_P (dC, dI) vwCl [(q, .inr (6, [.ref s0, .ref s1, .ref s2]))] s.heap := hP
  have hl := lv_entry ([.ref q, .int v, .ref oq]) (n := 4) (Nat.le_of_ble_eq_true rfl)
  rw [lg_entry_eq]
  generalize (lg_sl ([.ref q, .int v, .ref oq]) ++ List.replicate (4 - (lg_sl ([.ref q, .int v, .ref oq])).length) Slot.unset).toArray = ls at hl ⊢
  have hl : lv_has ls 4 [(0, .ref q), (1, .int v), (2, .ref oq)] := hl
  refine lv_aload_n hx hb dL_size_0 rfl (lv_at hl 2 rfl) ?_
  refine lv_iconst (v := nI 0) hx hb dL_size_1 (by decide +kernel) ?_
  refine lv_aload_n hx hb dL_size_2 rfl (lv_at hl 0 rfl) ?_
  refine lv_iload_n hx hb dL_size_3 rfl (lv_at hl 1 rfl) ?_
  have hPc := hP.sub (ws' := [(q, .inr (6, [.ref s0, .ref s1, .ref s2]))]) [0] rfl
  have hKc := hK.sub (tys' := []) [] rfl
  have hDc := hD.sub (ws' := [(q, .inr (6, [.ref s0, .ref s1, .ref s2]))]) [0] (by decide) rfl
  refine vx_callv (vx_runV (As := [.int v]) (rest := [.int (nI 0), .ref oq]) ⟨hx, hb, hml, hown, hts⟩ (x_X7_size_s l hls dC dI q s0 s1 s2 v sa s.heap.size (by first | assumption | omega)) (cwV 1 hts gL_size_X7_size rfl rfl rfl (by decide +kernel) ⟨Nat.le_of_ble_eq_true rfl, Nat.le_of_ble_eq_true rfl⟩) ⟨fun a U g mk q => by obtain ⟨q0, q1, qT, qP, qK, qD⟩ := q; exact ⟨q0, q1, TW.same (u := U) (U := U.calling g mk a) rfl qT, qP, va_K.moved (u := U) (U := U.calling g mk a) (Vm.Alike.refl U.vm) qK, qD⟩, va_recv hKc hPc (ci := 6) (q0 := 0) rfl rfl, fun U hU hW => ⟨rfl, by rw [hU], by rw [hU]; exact TW.warm hW hT, by rw [hU]; exact hPc, va_K.moved hW.alike hKc, hDc.weaken (fun _ _ _ _ => trivial)⟩⟩ rfl rfl hl.1 rfl (lv_room (Nat.le_of_ble_eq_true rfl)) dL_size_4 ⟨Nat.le_of_ble_eq_true rfl, Nat.le_of_ble_eq_true rfl⟩) hS (fun q h9 h8 => absurd h8 (Nat.not_le_of_lt h9)) (fun q h8 => hA q (Nat.le_trans hS.1 h8)) (fun q h9 h8 => absurd h8 (Nat.not_le_of_lt h9)) (fun E9 ce9 q9 u9 t9 H locs ht9 hvm9 hu9 hE9 hz9 hk9 hS hce9 hcv9 hcl9 => ?_) (fun u9 t9 H9 l9 ht9 hvm9 hu9 hB9 hz9 hk9 hS9 => hu9.elim)
  subst hE9
  have hP := hP.kept (H1 := H) (fun k q hk => hk9 _ (vx_lt hP hk) (Nat.not_le_of_lt (vx_lt hP hk)))
  refine vx_catch (name := "java/lang/IndexOutOfBoundsException") hown [] ⟨0, 9, 12, 13⟩ [] (htab.trans rfl) (fun z hz => nomatch hz) rfl (by decide) (hts (.classLink RL 13 "java/lang/IndexOutOfBoundsException") (by decide +kernel)) (va_Nw.use rfl hT.2.2.2.2.2.2) hce9 hcv9 hcl9 ?_
  refine W.cs (cells' := 1) (slots' := 6) rfl rfl ?_
  refine lv_astore_n (lv' := [(3, .ref q9), (0, .ref q), (1, .int v), (2, .ref oq)]) hx hb dL_size_12 rfl hl (by decide) rfl (fun ls hl => ?_)
  refine lv_iconst (v := nI 1) hx hb dL_size_13 (by decide +kernel) ?_
  have hP9 := hP.sub (ws' := [(q, .inr (6, [.ref s0, .ref s1, .ref s2]))]) [0] rfl
  have hD9 := hD.sub (ws' := [(q, .inr (6, [.ref s0, .ref s1, .ref s2]))]) [0] (by decide) rfl
  have hK9 := hK.sub (tys' := []) [] rfl
  exact W.iret (v := nI 1) hx hb hr (fun t9 ht hW => ⟨⟨nI 1, (), rfl, rfl, by rw [ht]; exact hP9, va_K.moved hW.alike hK9, hD9⟩, hS.F ht⟩) hS.2.2 dL_size_14
set_option maxHeartbeats 4000000 in
set_option maxRecDepth 100000 in
/-- law: contains, contains_s -/
theorem c_L_contains_s (l : Launch) (hls : l.stackTraces = false) (dC : Nat → ClassId) (dI : Nat → Nat → Nat) (q : Nat) (s0 : Nat) (s1 : Nat) (s2 : Nat) (v : Int32) (w0 : Int32) (oq : Nat) (sa : Nat) (sz : Nat) (hSf : isS v = false) : Met l yL_contains wsL_contains ({ frames := 8, cells := 1, slots := 6, locals := 126 }) (va_Pc [.ref q, .int v, .int w0, .ref oq] (fun U => TW "java/lang/IndexOutOfBoundsException" 148 "no such set" sa (fun q => sz ≤ q) U U.heap ∧ U.heap.size = sz ∧ va_P (dC, dI) vwCl [(q, .inr (6, [.ref s0, .ref s1, .ref s2]))] U.heap ∧ va_K (dC, dI) vwCl [] U ∧ va_D (fun _ => True) [(q, .inr (6, [.ref s0, .ref s1, .ref s2]))])) (va_Qi (fun (r : Int32) (u : Unit) => r = nI 1) (fun (u : Unit) (t : State) => va_P (dC, dI) vwCl [(q, .inr (6, [.ref s0, .ref s1, .ref s2]))] t.heap ∧ va_K (dC, dI) vwCl [] t ∧ va_D (va_A [(q, .inr (6, [.ref s0, .ref s1, .ref s2]))] sz) [(q, .inr (6, [.ref s0, .ref s1, .ref s2]))]) (va_A [(q, .inr (6, [.ref s0, .ref s1, .ref s2]))] sz)) 1 6 (va_A [(q, .inr (6, [.ref s0, .ref s1, .ref s2]))] sz) := by
  refine va_MetW (cc := cL_contains) (maxL := 5) (ret := (some .int)) (hh := [(0, 17, 20, 13), (0, 17, 24, 15)]) (by decide) rfl ?_
  intro p e s m args below meth c s₁ B hml hv
  obtain ⟨rfl, hT, hsz, hP, hK, hD0⟩ := hv
  have hx := B.exec
  have hb := B.bytes
  have hr := B.returns
  have hts := atoms_spec (ws := wsL_contains) B.pre
  have hown : s.vm.findClass RL = some m.cls := findClass_of_methodNamed B.named
  have hlocks := B.notSynchronized
  have htab : c.exceptionTable.toList = tableOf [(0, 17, 20, 13), (0, 17, 24, 15)] := vx_table (x := yL_contains) B (hts _ List.mem_cons_self)
  subst hsz
  have hD := hD0.self (sz := s.heap.size)
  generalize hAe : va_A [(q, .inr (6, [.ref s0, .ref s1, .ref s2]))] s.heap.size = A at hD ⊢
  have hA : ∀ q : Nat, s.heap.size ≤ q → A q := fun q h => by rw [← hAe]; exact Or.inr h
  have hS : va_S A s.heap s.heap [] := va_S.rf
  have hP : va_P (dC, dI) vwCl [(q, .inr (6, [.ref s0, .ref s1, .ref s2]))] s.heap := hP
  have hl := lv_entry ([.ref q, .int v, .int w0, .ref oq]) (n := 5) (Nat.le_of_ble_eq_true rfl)
  rw [lg_entry_eq]
  generalize (lg_sl ([.ref q, .int v, .int w0, .ref oq]) ++ List.replicate (5 - (lg_sl ([.ref q, .int v, .int w0, .ref oq])).length) Slot.unset).toArray = ls at hl ⊢
  have hl : lv_has ls 5 [(0, .ref q), (1, .int v), (2, .int w0), (3, .ref oq)] := hl
  refine lv_aload_n hx hb dL_contains_0 rfl (lv_at hl 3 rfl) ?_
  refine lv_iconst (v := nI 0) hx hb dL_contains_1 (by decide +kernel) ?_
  refine lv_aload_n hx hb dL_contains_2 rfl (lv_at hl 0 rfl) ?_
  refine lv_iload_n hx hb dL_contains_3 rfl (lv_at hl 1 rfl) ?_
  refine lv_iload_n hx hb dL_contains_4 rfl (lv_at hl 2 rfl) ?_
  have hPc := hP.sub (ws' := [(q, .inr (6, [.ref s0, .ref s1, .ref s2]))]) [0] rfl
  have hKc := hK.sub (tys' := []) [] rfl
  have hDc := hD.sub (ws' := [(q, .inr (6, [.ref s0, .ref s1, .ref s2]))]) [0] (by decide) rfl
  refine vx_callv (vx_runV (As := [.int v, .int w0]) (rest := [.int (nI 0), .ref oq]) ⟨hx, hb, hml, hown, hts⟩ (x_X7_contains_s l hls dC dI q s0 s1 s2 v w0 sa s.heap.size (by first | assumption | omega)) (cwV 2 hts gL_contains_X7_contains rfl rfl rfl (by decide +kernel) ⟨Nat.le_of_ble_eq_true rfl, Nat.le_of_ble_eq_true rfl⟩) ⟨fun a U g mk q => by obtain ⟨q0, q1, qT, qP, qK, qD⟩ := q; exact ⟨q0, q1, TW.same (u := U) (U := U.calling g mk a) rfl qT, qP, va_K.moved (u := U) (U := U.calling g mk a) (Vm.Alike.refl U.vm) qK, qD⟩, va_recv hKc hPc (ci := 6) (q0 := 0) rfl rfl, fun U hU hW => ⟨rfl, by rw [hU], by rw [hU]; exact TW.warm hW hT, by rw [hU]; exact hPc, va_K.moved hW.alike hKc, hDc.weaken (fun _ _ _ _ => trivial)⟩⟩ rfl rfl hl.1 rfl (lv_room (Nat.le_of_ble_eq_true rfl)) dL_contains_5 ⟨Nat.le_of_ble_eq_true rfl, Nat.le_of_ble_eq_true rfl⟩) hS (fun q h9 h8 => absurd h8 (Nat.not_le_of_lt h9)) (fun q h8 => hA q (Nat.le_trans hS.1 h8)) (fun q h9 h8 => absurd h8 (Nat.not_le_of_lt h9)) (fun E9 ce9 q9 u9 t9 H locs ht9 hvm9 hu9 hE9 hz9 hk9 hS hce9 hcv9 hcl9 => ?_) (fun u9 t9 H9 l9 ht9 hvm9 hu9 hB9 hz9 hk9 hS9 => hu9.elim)
  subst hE9
  have hP := hP.kept (H1 := H) (fun k q hk => hk9 _ (vx_lt hP hk) (Nat.not_le_of_lt (vx_lt hP hk)))
  refine vx_catch (name := "java/lang/IndexOutOfBoundsException") hown [] ⟨0, 17, 20, 13⟩ [⟨0, 17, 24, 15⟩] (htab.trans rfl) (fun z hz => nomatch hz) rfl (by decide) (hts (.classLink RL 13 "java/lang/IndexOutOfBoundsException") (by decide +kernel)) (va_Nw.use rfl hT.2.2.2.2.2.2) hce9 hcv9 hcl9 ?_
  refine W.cs (cells' := 1) (slots' := 6) rfl rfl ?_
  refine lv_astore (lv' := [(4, .ref q9), (0, .ref q), (1, .int v), (2, .int w0), (3, .ref oq)]) hx hb dL_contains_20 hl (by decide) rfl (fun ls hl => ?_)
  refine lv_iconst (v := nI 1) hx hb dL_contains_22 (by decide +kernel) ?_
  have hP9 := hP.sub (ws' := [(q, .inr (6, [.ref s0, .ref s1, .ref s2]))]) [0] rfl
  have hD9 := hD.sub (ws' := [(q, .inr (6, [.ref s0, .ref s1, .ref s2]))]) [0] (by decide) rfl
  have hK9 := hK.sub (tys' := []) [] rfl
  exact W.iret (v := nI 1) hx hb hr (fun t9 ht hW => ⟨⟨nI 1, (), rfl, rfl, by rw [ht]; exact hP9, va_K.moved hW.alike hK9, hD9⟩, hS.F ht⟩) hS.2.2 dL_contains_23
set_option maxHeartbeats 4000000 in
set_option maxRecDepth 100000 in
/-- law: successor, successor_s -/
theorem c_L_successor_s (l : Launch) (hls : l.stackTraces = false) (dC : Nat → ClassId) (dI : Nat → Nat → Nat) (q : Nat) (s0 : Nat) (s1 : Nat) (s2 : Nat) (v : Int32) (w0 : Int32) (oq : Nat) (sa : Nat) (sz : Nat) (hSf : isS v = false) : Met l yL_successor wsL_successor ({ frames := 8, cells := 1, slots := 6, locals := 126 }) (va_Pc [.ref q, .int v, .int w0, .ref oq] (fun U => TW "java/lang/IndexOutOfBoundsException" 148 "no such set" sa (fun q => sz ≤ q) U U.heap ∧ U.heap.size = sz ∧ va_P (dC, dI) vwCl [(q, .inr (6, [.ref s0, .ref s1, .ref s2]))] U.heap ∧ va_K (dC, dI) vwCl [] U ∧ va_D (fun _ => True) [(q, .inr (6, [.ref s0, .ref s1, .ref s2]))])) (va_Qi (fun (r : Int32) (u : Unit) => r = nI 1) (fun (u : Unit) (t : State) => va_P (dC, dI) vwCl [(q, .inr (6, [.ref s0, .ref s1, .ref s2]))] t.heap ∧ va_K (dC, dI) vwCl [] t ∧ va_D (va_A [(q, .inr (6, [.ref s0, .ref s1, .ref s2]))] sz) [(q, .inr (6, [.ref s0, .ref s1, .ref s2]))]) (va_A [(q, .inr (6, [.ref s0, .ref s1, .ref s2]))] sz)) 1 6 (va_A [(q, .inr (6, [.ref s0, .ref s1, .ref s2]))] sz) := by
  refine va_MetW (cc := cL_successor) (maxL := 5) (ret := (some .int)) (hh := [(0, 10, 13, 13), (0, 10, 17, 15)]) (by decide) rfl ?_
  intro p e s m args below meth c s₁ B hml hv
  obtain ⟨rfl, hT, hsz, hP, hK, hD0⟩ := hv
  have hx := B.exec
  have hb := B.bytes
  have hr := B.returns
  have hts := atoms_spec (ws := wsL_successor) B.pre
  have hown : s.vm.findClass RL = some m.cls := findClass_of_methodNamed B.named
  have hlocks := B.notSynchronized
  have htab : c.exceptionTable.toList = tableOf [(0, 10, 13, 13), (0, 10, 17, 15)] := vx_table (x := yL_successor) B (hts _ List.mem_cons_self)
  subst hsz
  have hD := hD0.self (sz := s.heap.size)
  generalize hAe : va_A [(q, .inr (6, [.ref s0, .ref s1, .ref s2]))] s.heap.size = A at hD ⊢
  have hA : ∀ q : Nat, s.heap.size ≤ q → A q := fun q h => by rw [← hAe]; exact Or.inr h
  have hS : va_S A s.heap s.heap [] := va_S.rf
  have hP : va_P (dC, dI) vwCl [(q, .inr (6, [.ref s0, .ref s1, .ref s2]))] s.heap := hP
  have hl := lv_entry ([.ref q, .int v, .int w0, .ref oq]) (n := 5) (Nat.le_of_ble_eq_true rfl)
  rw [lg_entry_eq]
  generalize (lg_sl ([.ref q, .int v, .int w0, .ref oq]) ++ List.replicate (5 - (lg_sl ([.ref q, .int v, .int w0, .ref oq])).length) Slot.unset).toArray = ls at hl ⊢
  have hl : lv_has ls 5 [(0, .ref q), (1, .int v), (2, .int w0), (3, .ref oq)] := hl
  refine lv_aload_n hx hb dL_successor_0 rfl (lv_at hl 3 rfl) ?_
  refine lv_iconst (v := nI 0) hx hb dL_successor_1 (by decide +kernel) ?_
  refine lv_aload_n hx hb dL_successor_2 rfl (lv_at hl 0 rfl) ?_
  refine lv_iload_n hx hb dL_successor_3 rfl (lv_at hl 1 rfl) ?_
  refine lv_iload_n hx hb dL_successor_4 rfl (lv_at hl 2 rfl) ?_
  have hPc := hP.sub (ws' := [(q, .inr (6, [.ref s0, .ref s1, .ref s2]))]) [0] rfl
  have hKc := hK.sub (tys' := []) [] rfl
  have hDc := hD.sub (ws' := [(q, .inr (6, [.ref s0, .ref s1, .ref s2]))]) [0] (by decide) rfl
  refine vx_callv (vx_runV (As := [.int v, .int w0]) (rest := [.int (nI 0), .ref oq]) ⟨hx, hb, hml, hown, hts⟩ (x_X7_successor_s l hls dC dI q s0 s1 s2 v w0 sa s.heap.size (by first | assumption | omega)) (cwV 2 hts gL_successor_X7_successor rfl rfl rfl (by decide +kernel) ⟨Nat.le_of_ble_eq_true rfl, Nat.le_of_ble_eq_true rfl⟩) ⟨fun a U g mk q => by obtain ⟨q0, q1, qT, qP, qK, qD⟩ := q; exact ⟨q0, q1, TW.same (u := U) (U := U.calling g mk a) rfl qT, qP, va_K.moved (u := U) (U := U.calling g mk a) (Vm.Alike.refl U.vm) qK, qD⟩, va_recv hKc hPc (ci := 6) (q0 := 0) rfl rfl, fun U hU hW => ⟨rfl, by rw [hU], by rw [hU]; exact TW.warm hW hT, by rw [hU]; exact hPc, va_K.moved hW.alike hKc, hDc.weaken (fun _ _ _ _ => trivial)⟩⟩ rfl rfl hl.1 rfl (lv_room (Nat.le_of_ble_eq_true rfl)) dL_successor_5 ⟨Nat.le_of_ble_eq_true rfl, Nat.le_of_ble_eq_true rfl⟩) hS (fun q h9 h8 => absurd h8 (Nat.not_le_of_lt h9)) (fun q h8 => hA q (Nat.le_trans hS.1 h8)) (fun q h9 h8 => absurd h8 (Nat.not_le_of_lt h9)) (fun E9 ce9 q9 u9 t9 H locs ht9 hvm9 hu9 hE9 hz9 hk9 hS hce9 hcv9 hcl9 => ?_) (fun u9 t9 H9 l9 ht9 hvm9 hu9 hB9 hz9 hk9 hS9 => hu9.elim)
  subst hE9
  have hP := hP.kept (H1 := H) (fun k q hk => hk9 _ (vx_lt hP hk) (Nat.not_le_of_lt (vx_lt hP hk)))
  refine vx_catch (name := "java/lang/IndexOutOfBoundsException") hown [] ⟨0, 10, 13, 13⟩ [⟨0, 10, 17, 15⟩] (htab.trans rfl) (fun z hz => nomatch hz) rfl (by decide) (hts (.classLink RL 13 "java/lang/IndexOutOfBoundsException") (by decide +kernel)) (va_Nw.use rfl hT.2.2.2.2.2.2) hce9 hcv9 hcl9 ?_
  refine W.cs (cells' := 1) (slots' := 6) rfl rfl ?_
  refine lv_astore (lv' := [(4, .ref q9), (0, .ref q), (1, .int v), (2, .int w0), (3, .ref oq)]) hx hb dL_successor_13 hl (by decide) rfl (fun ls hl => ?_)
  refine lv_iconst (v := nI 1) hx hb dL_successor_15 (by decide +kernel) ?_
  have hP9 := hP.sub (ws' := [(q, .inr (6, [.ref s0, .ref s1, .ref s2]))]) [0] rfl
  have hD9 := hD.sub (ws' := [(q, .inr (6, [.ref s0, .ref s1, .ref s2]))]) [0] (by decide) rfl
  have hK9 := hK.sub (tys' := []) [] rfl
  exact W.iret (v := nI 1) hx hb hr (fun t9 ht hW => ⟨⟨nI 1, (), rfl, rfl, by rw [ht]; exact hP9, va_K.moved hW.alike hK9, hD9⟩, hS.F ht⟩) hS.2.2 dL_successor_16
set_option maxHeartbeats 4000000 in
set_option maxRecDepth 100000 in
/-- law: predecessor, predecessor_s -/
theorem c_L_predecessor_s (l : Launch) (hls : l.stackTraces = false) (dC : Nat → ClassId) (dI : Nat → Nat → Nat) (q : Nat) (s0 : Nat) (s1 : Nat) (s2 : Nat) (v : Int32) (w0 : Int32) (oq : Nat) (sa : Nat) (sz : Nat) (hSf : isS v = false) : Met l yL_predecessor wsL_predecessor ({ frames := 8, cells := 1, slots := 6, locals := 126 }) (va_Pc [.ref q, .int v, .int w0, .ref oq] (fun U => TW "java/lang/IndexOutOfBoundsException" 148 "no such set" sa (fun q => sz ≤ q) U U.heap ∧ U.heap.size = sz ∧ va_P (dC, dI) vwCl [(q, .inr (6, [.ref s0, .ref s1, .ref s2]))] U.heap ∧ va_K (dC, dI) vwCl [] U ∧ va_D (fun _ => True) [(q, .inr (6, [.ref s0, .ref s1, .ref s2]))])) (va_Qi (fun (r : Int32) (u : Unit) => r = nI 1) (fun (u : Unit) (t : State) => va_P (dC, dI) vwCl [(q, .inr (6, [.ref s0, .ref s1, .ref s2]))] t.heap ∧ va_K (dC, dI) vwCl [] t ∧ va_D (va_A [(q, .inr (6, [.ref s0, .ref s1, .ref s2]))] sz) [(q, .inr (6, [.ref s0, .ref s1, .ref s2]))]) (va_A [(q, .inr (6, [.ref s0, .ref s1, .ref s2]))] sz)) 1 6 (va_A [(q, .inr (6, [.ref s0, .ref s1, .ref s2]))] sz) := by
  refine va_MetW (cc := cL_predecessor) (maxL := 5) (ret := (some .int)) (hh := [(0, 10, 13, 13), (0, 10, 17, 15)]) (by decide) rfl ?_
  intro p e s m args below meth c s₁ B hml hv
  obtain ⟨rfl, hT, hsz, hP, hK, hD0⟩ := hv
  have hx := B.exec
  have hb := B.bytes
  have hr := B.returns
  have hts := atoms_spec (ws := wsL_predecessor) B.pre
  have hown : s.vm.findClass RL = some m.cls := findClass_of_methodNamed B.named
  have hlocks := B.notSynchronized
  have htab : c.exceptionTable.toList = tableOf [(0, 10, 13, 13), (0, 10, 17, 15)] := vx_table (x := yL_predecessor) B (hts _ List.mem_cons_self)
  subst hsz
  have hD := hD0.self (sz := s.heap.size)
  generalize hAe : va_A [(q, .inr (6, [.ref s0, .ref s1, .ref s2]))] s.heap.size = A at hD ⊢
  have hA : ∀ q : Nat, s.heap.size ≤ q → A q := fun q h => by rw [← hAe]; exact Or.inr h
  have hS : va_S A s.heap s.heap [] := va_S.rf
  have hP : va_P (dC, dI) vwCl [(q, .inr (6, [.ref s0, .ref s1, .ref s2]))] s.heap := hP
  have hl := lv_entry ([.ref q, .int v, .int w0, .ref oq]) (n := 5) (Nat.le_of_ble_eq_true rfl)
  rw [lg_entry_eq]
  generalize (lg_sl ([.ref q, .int v, .int w0, .ref oq]) ++ List.replicate (5 - (lg_sl ([.ref q, .int v, .int w0, .ref oq])).length) Slot.unset).toArray = ls at hl ⊢
  have hl : lv_has ls 5 [(0, .ref q), (1, .int v), (2, .int w0), (3, .ref oq)] := hl
  refine lv_aload_n hx hb dL_predecessor_0 rfl (lv_at hl 3 rfl) ?_
  refine lv_iconst (v := nI 0) hx hb dL_predecessor_1 (by decide +kernel) ?_
  refine lv_aload_n hx hb dL_predecessor_2 rfl (lv_at hl 0 rfl) ?_
  refine lv_iload_n hx hb dL_predecessor_3 rfl (lv_at hl 1 rfl) ?_
  refine lv_iload_n hx hb dL_predecessor_4 rfl (lv_at hl 2 rfl) ?_
  have hPc := hP.sub (ws' := [(q, .inr (6, [.ref s0, .ref s1, .ref s2]))]) [0] rfl
  have hKc := hK.sub (tys' := []) [] rfl
  have hDc := hD.sub (ws' := [(q, .inr (6, [.ref s0, .ref s1, .ref s2]))]) [0] (by decide) rfl
  refine vx_callv (vx_runV (As := [.int v, .int w0]) (rest := [.int (nI 0), .ref oq]) ⟨hx, hb, hml, hown, hts⟩ (x_X7_predecessor_s l hls dC dI q s0 s1 s2 v w0 sa s.heap.size (by first | assumption | omega)) (cwV 2 hts gL_predecessor_X7_predecessor rfl rfl rfl (by decide +kernel) ⟨Nat.le_of_ble_eq_true rfl, Nat.le_of_ble_eq_true rfl⟩) ⟨fun a U g mk q => by obtain ⟨q0, q1, qT, qP, qK, qD⟩ := q; exact ⟨q0, q1, TW.same (u := U) (U := U.calling g mk a) rfl qT, qP, va_K.moved (u := U) (U := U.calling g mk a) (Vm.Alike.refl U.vm) qK, qD⟩, va_recv hKc hPc (ci := 6) (q0 := 0) rfl rfl, fun U hU hW => ⟨rfl, by rw [hU], by rw [hU]; exact TW.warm hW hT, by rw [hU]; exact hPc, va_K.moved hW.alike hKc, hDc.weaken (fun _ _ _ _ => trivial)⟩⟩ rfl rfl hl.1 rfl (lv_room (Nat.le_of_ble_eq_true rfl)) dL_predecessor_5 ⟨Nat.le_of_ble_eq_true rfl, Nat.le_of_ble_eq_true rfl⟩) hS (fun q h9 h8 => absurd h8 (Nat.not_le_of_lt h9)) (fun q h8 => hA q (Nat.le_trans hS.1 h8)) (fun q h9 h8 => absurd h8 (Nat.not_le_of_lt h9)) (fun E9 ce9 q9 u9 t9 H locs ht9 hvm9 hu9 hE9 hz9 hk9 hS hce9 hcv9 hcl9 => ?_) (fun u9 t9 H9 l9 ht9 hvm9 hu9 hB9 hz9 hk9 hS9 => hu9.elim)
  subst hE9
  have hP := hP.kept (H1 := H) (fun k q hk => hk9 _ (vx_lt hP hk) (Nat.not_le_of_lt (vx_lt hP hk)))
  refine vx_catch (name := "java/lang/IndexOutOfBoundsException") hown [] ⟨0, 10, 13, 13⟩ [⟨0, 10, 17, 15⟩] (htab.trans rfl) (fun z hz => nomatch hz) rfl (by decide) (hts (.classLink RL 13 "java/lang/IndexOutOfBoundsException") (by decide +kernel)) (va_Nw.use rfl hT.2.2.2.2.2.2) hce9 hcv9 hcl9 ?_
  refine W.cs (cells' := 1) (slots' := 6) rfl rfl ?_
  refine lv_astore (lv' := [(4, .ref q9), (0, .ref q), (1, .int v), (2, .int w0), (3, .ref oq)]) hx hb dL_predecessor_13 hl (by decide) rfl (fun ls hl => ?_)
  refine lv_iconst (v := nI 1) hx hb dL_predecessor_15 (by decide +kernel) ?_
  have hP9 := hP.sub (ws' := [(q, .inr (6, [.ref s0, .ref s1, .ref s2]))]) [0] rfl
  have hD9 := hD.sub (ws' := [(q, .inr (6, [.ref s0, .ref s1, .ref s2]))]) [0] (by decide) rfl
  have hK9 := hK.sub (tys' := []) [] rfl
  exact W.iret (v := nI 1) hx hb hr (fun t9 ht hW => ⟨⟨nI 1, (), rfl, rfl, by rw [ht]; exact hP9, va_K.moved hW.alike hK9, hD9⟩, hS.F ht⟩) hS.2.2 dL_predecessor_16
set_option maxHeartbeats 4000000 in
set_option maxRecDepth 100000 in
/-- law: rank, rank_s -/
theorem c_L_rank_s (l : Launch) (hls : l.stackTraces = false) (dC : Nat → ClassId) (dI : Nat → Nat → Nat) (q : Nat) (s0 : Nat) (s1 : Nat) (s2 : Nat) (v : Int32) (w0 : Int32) (oq : Nat) (sa : Nat) (sz : Nat) (hSf : isS v = false) : Met l yL_rank wsL_rank ({ frames := 8, cells := 1, slots := 6, locals := 126 }) (va_Pc [.ref q, .int v, .int w0, .ref oq] (fun U => TW "java/lang/IndexOutOfBoundsException" 148 "no such set" sa (fun q => sz ≤ q) U U.heap ∧ U.heap.size = sz ∧ va_P (dC, dI) vwCl [(q, .inr (6, [.ref s0, .ref s1, .ref s2]))] U.heap ∧ va_K (dC, dI) vwCl [] U ∧ va_D (fun _ => True) [(q, .inr (6, [.ref s0, .ref s1, .ref s2]))])) (va_Qi (fun (r : Int32) (u : Unit) => r = nI 1) (fun (u : Unit) (t : State) => va_P (dC, dI) vwCl [(q, .inr (6, [.ref s0, .ref s1, .ref s2]))] t.heap ∧ va_K (dC, dI) vwCl [] t ∧ va_D (va_A [(q, .inr (6, [.ref s0, .ref s1, .ref s2]))] sz) [(q, .inr (6, [.ref s0, .ref s1, .ref s2]))]) (va_A [(q, .inr (6, [.ref s0, .ref s1, .ref s2]))] sz)) 1 6 (va_A [(q, .inr (6, [.ref s0, .ref s1, .ref s2]))] sz) := by
  refine va_MetW (cc := cL_rank) (maxL := 5) (ret := (some .int)) (hh := [(0, 10, 13, 13), (0, 10, 17, 15)]) (by decide) rfl ?_
  intro p e s m args below meth c s₁ B hml hv
  obtain ⟨rfl, hT, hsz, hP, hK, hD0⟩ := hv
  have hx := B.exec
  have hb := B.bytes
  have hr := B.returns
  have hts := atoms_spec (ws := wsL_rank) B.pre
  have hown : s.vm.findClass RL = some m.cls := findClass_of_methodNamed B.named
  have hlocks := B.notSynchronized
  have htab : c.exceptionTable.toList = tableOf [(0, 10, 13, 13), (0, 10, 17, 15)] := vx_table (x := yL_rank) B (hts _ List.mem_cons_self)
  subst hsz
  have hD := hD0.self (sz := s.heap.size)
  generalize hAe : va_A [(q, .inr (6, [.ref s0, .ref s1, .ref s2]))] s.heap.size = A at hD ⊢
  have hA : ∀ q : Nat, s.heap.size ≤ q → A q := fun q h => by rw [← hAe]; exact Or.inr h
  have hS : va_S A s.heap s.heap [] := va_S.rf
  have hP : va_P (dC, dI) vwCl [(q, .inr (6, [.ref s0, .ref s1, .ref s2]))] s.heap := hP
  have hl := lv_entry ([.ref q, .int v, .int w0, .ref oq]) (n := 5) (Nat.le_of_ble_eq_true rfl)
  rw [lg_entry_eq]
  generalize (lg_sl ([.ref q, .int v, .int w0, .ref oq]) ++ List.replicate (5 - (lg_sl ([.ref q, .int v, .int w0, .ref oq])).length) Slot.unset).toArray = ls at hl ⊢
  have hl : lv_has ls 5 [(0, .ref q), (1, .int v), (2, .int w0), (3, .ref oq)] := hl
  refine lv_aload_n hx hb dL_rank_0 rfl (lv_at hl 3 rfl) ?_
  refine lv_iconst (v := nI 0) hx hb dL_rank_1 (by decide +kernel) ?_
  refine lv_aload_n hx hb dL_rank_2 rfl (lv_at hl 0 rfl) ?_
  refine lv_iload_n hx hb dL_rank_3 rfl (lv_at hl 1 rfl) ?_
  refine lv_iload_n hx hb dL_rank_4 rfl (lv_at hl 2 rfl) ?_
  have hPc := hP.sub (ws' := [(q, .inr (6, [.ref s0, .ref s1, .ref s2]))]) [0] rfl
  have hKc := hK.sub (tys' := []) [] rfl
  have hDc := hD.sub (ws' := [(q, .inr (6, [.ref s0, .ref s1, .ref s2]))]) [0] (by decide) rfl
  refine vx_callv (vx_runV (As := [.int v, .int w0]) (rest := [.int (nI 0), .ref oq]) ⟨hx, hb, hml, hown, hts⟩ (x_X7_rank_s l hls dC dI q s0 s1 s2 v w0 sa s.heap.size (by first | assumption | omega)) (cwV 2 hts gL_rank_X7_rank rfl rfl rfl (by decide +kernel) ⟨Nat.le_of_ble_eq_true rfl, Nat.le_of_ble_eq_true rfl⟩) ⟨fun a U g mk q => by obtain ⟨q0, q1, qT, qP, qK, qD⟩ := q; exact ⟨q0, q1, TW.same (u := U) (U := U.calling g mk a) rfl qT, qP, va_K.moved (u := U) (U := U.calling g mk a) (Vm.Alike.refl U.vm) qK, qD⟩, va_recv hKc hPc (ci := 6) (q0 := 0) rfl rfl, fun U hU hW => ⟨rfl, by rw [hU], by rw [hU]; exact TW.warm hW hT, by rw [hU]; exact hPc, va_K.moved hW.alike hKc, hDc.weaken (fun _ _ _ _ => trivial)⟩⟩ rfl rfl hl.1 rfl (lv_room (Nat.le_of_ble_eq_true rfl)) dL_rank_5 ⟨Nat.le_of_ble_eq_true rfl, Nat.le_of_ble_eq_true rfl⟩) hS (fun q h9 h8 => absurd h8 (Nat.not_le_of_lt h9)) (fun q h8 => hA q (Nat.le_trans hS.1 h8)) (fun q h9 h8 => absurd h8 (Nat.not_le_of_lt h9)) (fun E9 ce9 q9 u9 t9 H locs ht9 hvm9 hu9 hE9 hz9 hk9 hS hce9 hcv9 hcl9 => ?_) (fun u9 t9 H9 l9 ht9 hvm9 hu9 hB9 hz9 hk9 hS9 => hu9.elim)
  subst hE9
  have hP := hP.kept (H1 := H) (fun k q hk => hk9 _ (vx_lt hP hk) (Nat.not_le_of_lt (vx_lt hP hk)))
  refine vx_catch (name := "java/lang/IndexOutOfBoundsException") hown [] ⟨0, 10, 13, 13⟩ [⟨0, 10, 17, 15⟩] (htab.trans rfl) (fun z hz => nomatch hz) rfl (by decide) (hts (.classLink RL 13 "java/lang/IndexOutOfBoundsException") (by decide +kernel)) (va_Nw.use rfl hT.2.2.2.2.2.2) hce9 hcv9 hcl9 ?_
  refine W.cs (cells' := 1) (slots' := 6) rfl rfl ?_
  refine lv_astore (lv' := [(4, .ref q9), (0, .ref q), (1, .int v), (2, .int w0), (3, .ref oq)]) hx hb dL_rank_13 hl (by decide) rfl (fun ls hl => ?_)
  refine lv_iconst (v := nI 1) hx hb dL_rank_15 (by decide +kernel) ?_
  have hP9 := hP.sub (ws' := [(q, .inr (6, [.ref s0, .ref s1, .ref s2]))]) [0] rfl
  have hD9 := hD.sub (ws' := [(q, .inr (6, [.ref s0, .ref s1, .ref s2]))]) [0] (by decide) rfl
  have hK9 := hK.sub (tys' := []) [] rfl
  exact W.iret (v := nI 1) hx hb hr (fun t9 ht hW => ⟨⟨nI 1, (), rfl, rfl, by rw [ht]; exact hP9, va_K.moved hW.alike hK9, hD9⟩, hS.F ht⟩) hS.2.2 dL_rank_16
set_option maxHeartbeats 4000000 in
set_option maxRecDepth 100000 in
/-- law: select, select_s -/
theorem c_L_select_s (l : Launch) (hls : l.stackTraces = false) (dC : Nat → ClassId) (dI : Nat → Nat → Nat) (q : Nat) (s0 : Nat) (s1 : Nat) (s2 : Nat) (v : Int32) (w0 : Int32) (oq : Nat) (sa : Nat) (sz : Nat) (hSf : isS v = false) : Met l yL_select wsL_select ({ frames := 8, cells := 1, slots := 6, locals := 126 }) (va_Pc [.ref q, .int v, .int w0, .ref oq] (fun U => TW "java/lang/IndexOutOfBoundsException" 148 "no such set" sa (fun q => sz ≤ q) U U.heap ∧ U.heap.size = sz ∧ va_P (dC, dI) vwCl [(q, .inr (6, [.ref s0, .ref s1, .ref s2]))] U.heap ∧ va_K (dC, dI) vwCl [] U ∧ va_D (fun _ => True) [(q, .inr (6, [.ref s0, .ref s1, .ref s2]))])) (va_Qi (fun (r : Int32) (u : Unit) => r = nI 1) (fun (u : Unit) (t : State) => va_P (dC, dI) vwCl [(q, .inr (6, [.ref s0, .ref s1, .ref s2]))] t.heap ∧ va_K (dC, dI) vwCl [] t ∧ va_D (va_A [(q, .inr (6, [.ref s0, .ref s1, .ref s2]))] sz) [(q, .inr (6, [.ref s0, .ref s1, .ref s2]))]) (va_A [(q, .inr (6, [.ref s0, .ref s1, .ref s2]))] sz)) 1 6 (va_A [(q, .inr (6, [.ref s0, .ref s1, .ref s2]))] sz) := by
  refine va_MetW (cc := cL_select) (maxL := 5) (ret := (some .int)) (hh := [(0, 10, 13, 13)]) (by decide) rfl ?_
  intro p e s m args below meth c s₁ B hml hv
  obtain ⟨rfl, hT, hsz, hP, hK, hD0⟩ := hv
  have hx := B.exec
  have hb := B.bytes
  have hr := B.returns
  have hts := atoms_spec (ws := wsL_select) B.pre
  have hown : s.vm.findClass RL = some m.cls := findClass_of_methodNamed B.named
  have hlocks := B.notSynchronized
  have htab : c.exceptionTable.toList = tableOf [(0, 10, 13, 13)] := vx_table (x := yL_select) B (hts _ List.mem_cons_self)
  subst hsz
  have hD := hD0.self (sz := s.heap.size)
  generalize hAe : va_A [(q, .inr (6, [.ref s0, .ref s1, .ref s2]))] s.heap.size = A at hD ⊢
  have hA : ∀ q : Nat, s.heap.size ≤ q → A q := fun q h => by rw [← hAe]; exact Or.inr h
  have hS : va_S A s.heap s.heap [] := va_S.rf
  have hP : va_P (dC, dI) vwCl [(q, .inr (6, [.ref s0, .ref s1, .ref s2]))] s.heap := hP
  have hl := lv_entry ([.ref q, .int v, .int w0, .ref oq]) (n := 5) (Nat.le_of_ble_eq_true rfl)
  rw [lg_entry_eq]
  generalize (lg_sl ([.ref q, .int v, .int w0, .ref oq]) ++ List.replicate (5 - (lg_sl ([.ref q, .int v, .int w0, .ref oq])).length) Slot.unset).toArray = ls at hl ⊢
  have hl : lv_has ls 5 [(0, .ref q), (1, .int v), (2, .int w0), (3, .ref oq)] := hl
  refine lv_aload_n hx hb dL_select_0 rfl (lv_at hl 3 rfl) ?_
  refine lv_iconst (v := nI 0) hx hb dL_select_1 (by decide +kernel) ?_
  refine lv_aload_n hx hb dL_select_2 rfl (lv_at hl 0 rfl) ?_
  refine lv_iload_n hx hb dL_select_3 rfl (lv_at hl 1 rfl) ?_
  refine lv_iload_n hx hb dL_select_4 rfl (lv_at hl 2 rfl) ?_
  have hPc := hP.sub (ws' := [(q, .inr (6, [.ref s0, .ref s1, .ref s2]))]) [0] rfl
  have hKc := hK.sub (tys' := []) [] rfl
  have hDc := hD.sub (ws' := [(q, .inr (6, [.ref s0, .ref s1, .ref s2]))]) [0] (by decide) rfl
  refine vx_callv (vx_runV (As := [.int v, .int w0]) (rest := [.int (nI 0), .ref oq]) ⟨hx, hb, hml, hown, hts⟩ (x_X7_select_s l hls dC dI q s0 s1 s2 v w0 sa s.heap.size (by first | assumption | omega)) (cwV 2 hts gL_select_X7_select rfl rfl rfl (by decide +kernel) ⟨Nat.le_of_ble_eq_true rfl, Nat.le_of_ble_eq_true rfl⟩) ⟨fun a U g mk q => by obtain ⟨q0, q1, qT, qP, qK, qD⟩ := q; exact ⟨q0, q1, TW.same (u := U) (U := U.calling g mk a) rfl qT, qP, va_K.moved (u := U) (U := U.calling g mk a) (Vm.Alike.refl U.vm) qK, qD⟩, va_recv hKc hPc (ci := 6) (q0 := 0) rfl rfl, fun U hU hW => ⟨rfl, by rw [hU], by rw [hU]; exact TW.warm hW hT, by rw [hU]; exact hPc, va_K.moved hW.alike hKc, hDc.weaken (fun _ _ _ _ => trivial)⟩⟩ rfl rfl hl.1 rfl (lv_room (Nat.le_of_ble_eq_true rfl)) dL_select_5 ⟨Nat.le_of_ble_eq_true rfl, Nat.le_of_ble_eq_true rfl⟩) hS (fun q h9 h8 => absurd h8 (Nat.not_le_of_lt h9)) (fun q h8 => hA q (Nat.le_trans hS.1 h8)) (fun q h9 h8 => absurd h8 (Nat.not_le_of_lt h9)) (fun E9 ce9 q9 u9 t9 H locs ht9 hvm9 hu9 hE9 hz9 hk9 hS hce9 hcv9 hcl9 => ?_) (fun u9 t9 H9 l9 ht9 hvm9 hu9 hB9 hz9 hk9 hS9 => hu9.elim)
  subst hE9
  have hP := hP.kept (H1 := H) (fun k q hk => hk9 _ (vx_lt hP hk) (Nat.not_le_of_lt (vx_lt hP hk)))
  refine vx_catch (name := "java/lang/IndexOutOfBoundsException") hown [] ⟨0, 10, 13, 13⟩ [] (htab.trans rfl) (fun z hz => nomatch hz) rfl (by decide) (hts (.classLink RL 13 "java/lang/IndexOutOfBoundsException") (by decide +kernel)) (va_Nw.use rfl hT.2.2.2.2.2.2) hce9 hcv9 hcl9 ?_
  refine W.cs (cells' := 1) (slots' := 6) rfl rfl ?_
  refine lv_astore (lv' := [(4, .ref q9), (0, .ref q), (1, .int v), (2, .int w0), (3, .ref oq)]) hx hb dL_select_13 hl (by decide) rfl (fun ls hl => ?_)
  refine lv_iconst (v := nI 1) hx hb dL_select_15 (by decide +kernel) ?_
  have hP9 := hP.sub (ws' := [(q, .inr (6, [.ref s0, .ref s1, .ref s2]))]) [0] rfl
  have hD9 := hD.sub (ws' := [(q, .inr (6, [.ref s0, .ref s1, .ref s2]))]) [0] (by decide) rfl
  have hK9 := hK.sub (tys' := []) [] rfl
  exact W.iret (v := nI 1) hx hb hr (fun t9 ht hW => ⟨⟨nI 1, (), rfl, rfl, by rw [ht]; exact hP9, va_K.moved hW.alike hK9, hD9⟩, hS.F ht⟩) hS.2.2 dL_select_16
set_option maxHeartbeats 4000000 in
set_option maxRecDepth 100000 in
/-- law: steps, steps_s -/
theorem c_L_steps_s (l : Launch) (hls : l.stackTraces = false) (dC : Nat → ClassId) (dI : Nat → Nat → Nat) (q : Nat) (s0 : Nat) (s1 : Nat) (s2 : Nat) (v : Int32) (w0 : Int32) (oq : Nat) (sa : Nat) (sz : Nat) (hSf : isS v = false) : Met l yL_steps wsL_steps ({ frames := 8, cells := 1, slots := 6, locals := 126 }) (va_Pc [.ref q, .int v, .int w0, .ref oq] (fun U => TW "java/lang/IndexOutOfBoundsException" 148 "no such set" sa (fun q => sz ≤ q) U U.heap ∧ U.heap.size = sz ∧ va_P (dC, dI) vwCl [(q, .inr (6, [.ref s0, .ref s1, .ref s2]))] U.heap ∧ va_K (dC, dI) vwCl [] U ∧ va_D (fun _ => True) [(q, .inr (6, [.ref s0, .ref s1, .ref s2]))])) (va_Qi (fun (r : Int32) (u : Unit) => r = nI 1) (fun (u : Unit) (t : State) => va_P (dC, dI) vwCl [(q, .inr (6, [.ref s0, .ref s1, .ref s2]))] t.heap ∧ va_K (dC, dI) vwCl [] t ∧ va_D (va_A [(q, .inr (6, [.ref s0, .ref s1, .ref s2]))] sz) [(q, .inr (6, [.ref s0, .ref s1, .ref s2]))]) (va_A [(q, .inr (6, [.ref s0, .ref s1, .ref s2]))] sz)) 1 6 (va_A [(q, .inr (6, [.ref s0, .ref s1, .ref s2]))] sz) := by
  refine va_MetW (cc := cL_steps) (maxL := 5) (ret := (some .int)) (hh := [(0, 10, 13, 13), (0, 10, 17, 15)]) (by decide) rfl ?_
  intro p e s m args below meth c s₁ B hml hv
  obtain ⟨rfl, hT, hsz, hP, hK, hD0⟩ := hv
  have hx := B.exec
  have hb := B.bytes
  have hr := B.returns
  have hts := atoms_spec (ws := wsL_steps) B.pre
  have hown : s.vm.findClass RL = some m.cls := findClass_of_methodNamed B.named
  have hlocks := B.notSynchronized
  have htab : c.exceptionTable.toList = tableOf [(0, 10, 13, 13), (0, 10, 17, 15)] := vx_table (x := yL_steps) B (hts _ List.mem_cons_self)
  subst hsz
  have hD := hD0.self (sz := s.heap.size)
  generalize hAe : va_A [(q, .inr (6, [.ref s0, .ref s1, .ref s2]))] s.heap.size = A at hD ⊢
  have hA : ∀ q : Nat, s.heap.size ≤ q → A q := fun q h => by rw [← hAe]; exact Or.inr h
  have hS : va_S A s.heap s.heap [] := va_S.rf
  have hP : va_P (dC, dI) vwCl [(q, .inr (6, [.ref s0, .ref s1, .ref s2]))] s.heap := hP
  have hl := lv_entry ([.ref q, .int v, .int w0, .ref oq]) (n := 5) (Nat.le_of_ble_eq_true rfl)
  rw [lg_entry_eq]
  generalize (lg_sl ([.ref q, .int v, .int w0, .ref oq]) ++ List.replicate (5 - (lg_sl ([.ref q, .int v, .int w0, .ref oq])).length) Slot.unset).toArray = ls at hl ⊢
  have hl : lv_has ls 5 [(0, .ref q), (1, .int v), (2, .int w0), (3, .ref oq)] := hl
  refine lv_aload_n hx hb dL_steps_0 rfl (lv_at hl 3 rfl) ?_
  refine lv_iconst (v := nI 0) hx hb dL_steps_1 (by decide +kernel) ?_
  refine lv_aload_n hx hb dL_steps_2 rfl (lv_at hl 0 rfl) ?_
  refine lv_iload_n hx hb dL_steps_3 rfl (lv_at hl 1 rfl) ?_
  refine lv_iload_n hx hb dL_steps_4 rfl (lv_at hl 2 rfl) ?_
  have hPc := hP.sub (ws' := [(q, .inr (6, [.ref s0, .ref s1, .ref s2]))]) [0] rfl
  have hKc := hK.sub (tys' := []) [] rfl
  have hDc := hD.sub (ws' := [(q, .inr (6, [.ref s0, .ref s1, .ref s2]))]) [0] (by decide) rfl
  refine vx_callv (vx_runV (As := [.int v, .int w0]) (rest := [.int (nI 0), .ref oq]) ⟨hx, hb, hml, hown, hts⟩ (x_X7_steps_s l hls dC dI q s0 s1 s2 v w0 sa s.heap.size (by first | assumption | omega)) (cwV 2 hts gL_steps_X7_steps rfl rfl rfl (by decide +kernel) ⟨Nat.le_of_ble_eq_true rfl, Nat.le_of_ble_eq_true rfl⟩) ⟨fun a U g mk q => by obtain ⟨q0, q1, qT, qP, qK, qD⟩ := q; exact ⟨q0, q1, TW.same (u := U) (U := U.calling g mk a) rfl qT, qP, va_K.moved (u := U) (U := U.calling g mk a) (Vm.Alike.refl U.vm) qK, qD⟩, va_recv hKc hPc (ci := 6) (q0 := 0) rfl rfl, fun U hU hW => ⟨rfl, by rw [hU], by rw [hU]; exact TW.warm hW hT, by rw [hU]; exact hPc, va_K.moved hW.alike hKc, hDc.weaken (fun _ _ _ _ => trivial)⟩⟩ rfl rfl hl.1 rfl (lv_room (Nat.le_of_ble_eq_true rfl)) dL_steps_5 ⟨Nat.le_of_ble_eq_true rfl, Nat.le_of_ble_eq_true rfl⟩) hS (fun q h9 h8 => absurd h8 (Nat.not_le_of_lt h9)) (fun q h8 => hA q (Nat.le_trans hS.1 h8)) (fun q h9 h8 => absurd h8 (Nat.not_le_of_lt h9)) (fun E9 ce9 q9 u9 t9 H locs ht9 hvm9 hu9 hE9 hz9 hk9 hS hce9 hcv9 hcl9 => ?_) (fun u9 t9 H9 l9 ht9 hvm9 hu9 hB9 hz9 hk9 hS9 => hu9.elim)
  subst hE9
  have hP := hP.kept (H1 := H) (fun k q hk => hk9 _ (vx_lt hP hk) (Nat.not_le_of_lt (vx_lt hP hk)))
  refine vx_catch (name := "java/lang/IndexOutOfBoundsException") hown [] ⟨0, 10, 13, 13⟩ [⟨0, 10, 17, 15⟩] (htab.trans rfl) (fun z hz => nomatch hz) rfl (by decide) (hts (.classLink RL 13 "java/lang/IndexOutOfBoundsException") (by decide +kernel)) (va_Nw.use rfl hT.2.2.2.2.2.2) hce9 hcv9 hcl9 ?_
  refine W.cs (cells' := 1) (slots' := 6) rfl rfl ?_
  refine lv_astore (lv' := [(4, .ref q9), (0, .ref q), (1, .int v), (2, .int w0), (3, .ref oq)]) hx hb dL_steps_13 hl (by decide) rfl (fun ls hl => ?_)
  refine lv_iconst (v := nI 1) hx hb dL_steps_15 (by decide +kernel) ?_
  have hP9 := hP.sub (ws' := [(q, .inr (6, [.ref s0, .ref s1, .ref s2]))]) [0] rfl
  have hD9 := hD.sub (ws' := [(q, .inr (6, [.ref s0, .ref s1, .ref s2]))]) [0] (by decide) rfl
  have hK9 := hK.sub (tys' := []) [] rfl
  exact W.iret (v := nI 1) hx hb hr (fun t9 ht hW => ⟨⟨nI 1, (), rfl, rfl, by rw [ht]; exact hP9, va_K.moved hW.alike hK9, hD9⟩, hS.F ht⟩) hS.2.2 dL_steps_16
set_option maxHeartbeats 4000000 in
set_option maxRecDepth 100000 in
/-- law: trees, trees_s -/
theorem c_L_trees_s (l : Launch) (hls : l.stackTraces = false) (dC : Nat → ClassId) (dI : Nat → Nat → Nat) (q : Nat) (s0 : Nat) (s1 : Nat) (s2 : Nat) (v : Int32) (oq : Nat) (sa : Nat) (sz : Nat) (hSf : isS v = false) : Met l yL_trees wsL_trees ({ frames := 8, cells := 1, slots := 6, locals := 124 }) (va_Pc [.ref q, .int v, .ref oq] (fun U => TW "java/lang/IndexOutOfBoundsException" 148 "no such set" sa (fun q => sz ≤ q) U U.heap ∧ U.heap.size = sz ∧ va_P (dC, dI) vwCl [(q, .inr (6, [.ref s0, .ref s1, .ref s2]))] U.heap ∧ va_K (dC, dI) vwCl [] U ∧ va_D (fun _ => True) [(q, .inr (6, [.ref s0, .ref s1, .ref s2]))])) (va_Qi (fun (r : Int32) (u : Unit) => r = nI 1) (fun (u : Unit) (t : State) => va_P (dC, dI) vwCl [(q, .inr (6, [.ref s0, .ref s1, .ref s2]))] t.heap ∧ va_K (dC, dI) vwCl [] t ∧ va_D (va_A [(q, .inr (6, [.ref s0, .ref s1, .ref s2]))] sz) [(q, .inr (6, [.ref s0, .ref s1, .ref s2]))]) (va_A [(q, .inr (6, [.ref s0, .ref s1, .ref s2]))] sz)) 1 6 (va_A [(q, .inr (6, [.ref s0, .ref s1, .ref s2]))] sz) := by
  refine va_MetW (cc := cL_trees) (maxL := 4) (ret := (some .int)) (hh := [(0, 9, 12, 13)]) (by decide) rfl ?_
  intro p e s m args below meth c s₁ B hml hv
  obtain ⟨rfl, hT, hsz, hP, hK, hD0⟩ := hv
  have hx := B.exec
  have hb := B.bytes
  have hr := B.returns
  have hts := atoms_spec (ws := wsL_trees) B.pre
  have hown : s.vm.findClass RL = some m.cls := findClass_of_methodNamed B.named
  have hlocks := B.notSynchronized
  have htab : c.exceptionTable.toList = tableOf [(0, 9, 12, 13)] := vx_table (x := yL_trees) B (hts _ List.mem_cons_self)
  subst hsz
  have hD := hD0.self (sz := s.heap.size)
  generalize hAe : va_A [(q, .inr (6, [.ref s0, .ref s1, .ref s2]))] s.heap.size = A at hD ⊢
  have hA : ∀ q : Nat, s.heap.size ≤ q → A q := fun q h => by rw [← hAe]; exact Or.inr h
  have hS : va_S A s.heap s.heap [] := va_S.rf
  have hP : va_P (dC, dI) vwCl [(q, .inr (6, [.ref s0, .ref s1, .ref s2]))] s.heap := hP
  have hl := lv_entry ([.ref q, .int v, .ref oq]) (n := 4) (Nat.le_of_ble_eq_true rfl)
  rw [lg_entry_eq]
  generalize (lg_sl ([.ref q, .int v, .ref oq]) ++ List.replicate (4 - (lg_sl ([.ref q, .int v, .ref oq])).length) Slot.unset).toArray = ls at hl ⊢
  have hl : lv_has ls 4 [(0, .ref q), (1, .int v), (2, .ref oq)] := hl
  refine lv_aload_n hx hb dL_trees_0 rfl (lv_at hl 2 rfl) ?_
  refine lv_iconst (v := nI 0) hx hb dL_trees_1 (by decide +kernel) ?_
  refine lv_aload_n hx hb dL_trees_2 rfl (lv_at hl 0 rfl) ?_
  refine lv_iload_n hx hb dL_trees_3 rfl (lv_at hl 1 rfl) ?_
  have hPc := hP.sub (ws' := [(q, .inr (6, [.ref s0, .ref s1, .ref s2]))]) [0] rfl
  have hKc := hK.sub (tys' := []) [] rfl
  have hDc := hD.sub (ws' := [(q, .inr (6, [.ref s0, .ref s1, .ref s2]))]) [0] (by decide) rfl
  refine vx_callv (vx_runV (As := [.int v]) (rest := [.int (nI 0), .ref oq]) ⟨hx, hb, hml, hown, hts⟩ (x_X7_trees_s l hls dC dI q s0 s1 s2 v sa s.heap.size (by first | assumption | omega)) (cwV 1 hts gL_trees_X7_trees rfl rfl rfl (by decide +kernel) ⟨Nat.le_of_ble_eq_true rfl, Nat.le_of_ble_eq_true rfl⟩) ⟨fun a U g mk q => by obtain ⟨q0, q1, qT, qP, qK, qD⟩ := q; exact ⟨q0, q1, TW.same (u := U) (U := U.calling g mk a) rfl qT, qP, va_K.moved (u := U) (U := U.calling g mk a) (Vm.Alike.refl U.vm) qK, qD⟩, va_recv hKc hPc (ci := 6) (q0 := 0) rfl rfl, fun U hU hW => ⟨rfl, by rw [hU], by rw [hU]; exact TW.warm hW hT, by rw [hU]; exact hPc, va_K.moved hW.alike hKc, hDc.weaken (fun _ _ _ _ => trivial)⟩⟩ rfl rfl hl.1 rfl (lv_room (Nat.le_of_ble_eq_true rfl)) dL_trees_4 ⟨Nat.le_of_ble_eq_true rfl, Nat.le_of_ble_eq_true rfl⟩) hS (fun q h9 h8 => absurd h8 (Nat.not_le_of_lt h9)) (fun q h8 => hA q (Nat.le_trans hS.1 h8)) (fun q h9 h8 => absurd h8 (Nat.not_le_of_lt h9)) (fun E9 ce9 q9 u9 t9 H locs ht9 hvm9 hu9 hE9 hz9 hk9 hS hce9 hcv9 hcl9 => ?_) (fun u9 t9 H9 l9 ht9 hvm9 hu9 hB9 hz9 hk9 hS9 => hu9.elim)
  subst hE9
  have hP := hP.kept (H1 := H) (fun k q hk => hk9 _ (vx_lt hP hk) (Nat.not_le_of_lt (vx_lt hP hk)))
  refine vx_catch (name := "java/lang/IndexOutOfBoundsException") hown [] ⟨0, 9, 12, 13⟩ [] (htab.trans rfl) (fun z hz => nomatch hz) rfl (by decide) (hts (.classLink RL 13 "java/lang/IndexOutOfBoundsException") (by decide +kernel)) (va_Nw.use rfl hT.2.2.2.2.2.2) hce9 hcv9 hcl9 ?_
  refine W.cs (cells' := 1) (slots' := 6) rfl rfl ?_
  refine lv_astore_n (lv' := [(3, .ref q9), (0, .ref q), (1, .int v), (2, .ref oq)]) hx hb dL_trees_12 rfl hl (by decide) rfl (fun ls hl => ?_)
  refine lv_iconst (v := nI 1) hx hb dL_trees_13 (by decide +kernel) ?_
  have hP9 := hP.sub (ws' := [(q, .inr (6, [.ref s0, .ref s1, .ref s2]))]) [0] rfl
  have hD9 := hD.sub (ws' := [(q, .inr (6, [.ref s0, .ref s1, .ref s2]))]) [0] (by decide) rfl
  have hK9 := hK.sub (tys' := []) [] rfl
  exact W.iret (v := nI 1) hx hb hr (fun t9 ht hW => ⟨⟨nI 1, (), rfl, rfl, by rw [ht]; exact hP9, va_K.moved hW.alike hK9, hD9⟩, hS.F ht⟩) hS.2.2 dL_trees_14
set_option maxHeartbeats 4000000 in
set_option maxRecDepth 100000 in
/-- law: clusterMinimum, clusterMinimum_s -/
theorem c_L_clusterMinimum_s (l : Launch) (hls : l.stackTraces = false) (dC : Nat → ClassId) (dI : Nat → Nat → Nat) (q : Nat) (s0 : Nat) (s1 : Nat) (s2 : Nat) (v : Int32) (w0 : Int32) (oq : Nat) (sa : Nat) (sz : Nat) (hSf : isS v = false) : Met l yL_clusterMinimum wsL_clusterMinimum ({ frames := 8, cells := 1, slots := 6, locals := 126 }) (va_Pc [.ref q, .int v, .int w0, .ref oq] (fun U => TW "java/lang/IndexOutOfBoundsException" 148 "no such set" sa (fun q => sz ≤ q) U U.heap ∧ U.heap.size = sz ∧ va_P (dC, dI) vwCl [(q, .inr (6, [.ref s0, .ref s1, .ref s2]))] U.heap ∧ va_K (dC, dI) vwCl [] U ∧ va_D (fun _ => True) [(q, .inr (6, [.ref s0, .ref s1, .ref s2]))])) (va_Qi (fun (r : Int32) (u : Unit) => r = nI 1) (fun (u : Unit) (t : State) => va_P (dC, dI) vwCl [(q, .inr (6, [.ref s0, .ref s1, .ref s2]))] t.heap ∧ va_K (dC, dI) vwCl [] t ∧ va_D (va_A [(q, .inr (6, [.ref s0, .ref s1, .ref s2]))] sz) [(q, .inr (6, [.ref s0, .ref s1, .ref s2]))]) (va_A [(q, .inr (6, [.ref s0, .ref s1, .ref s2]))] sz)) 1 6 (va_A [(q, .inr (6, [.ref s0, .ref s1, .ref s2]))] sz) := by
  refine va_MetW (cc := cL_clusterMinimum) (maxL := 5) (ret := (some .int)) (hh := [(0, 10, 13, 13)]) (by decide) rfl ?_
  intro p e s m args below meth c s₁ B hml hv
  obtain ⟨rfl, hT, hsz, hP, hK, hD0⟩ := hv
  have hx := B.exec
  have hb := B.bytes
  have hr := B.returns
  have hts := atoms_spec (ws := wsL_clusterMinimum) B.pre
  have hown : s.vm.findClass RL = some m.cls := findClass_of_methodNamed B.named
  have hlocks := B.notSynchronized
  have htab : c.exceptionTable.toList = tableOf [(0, 10, 13, 13)] := vx_table (x := yL_clusterMinimum) B (hts _ List.mem_cons_self)
  subst hsz
  have hD := hD0.self (sz := s.heap.size)
  generalize hAe : va_A [(q, .inr (6, [.ref s0, .ref s1, .ref s2]))] s.heap.size = A at hD ⊢
  have hA : ∀ q : Nat, s.heap.size ≤ q → A q := fun q h => by rw [← hAe]; exact Or.inr h
  have hS : va_S A s.heap s.heap [] := va_S.rf
  have hP : va_P (dC, dI) vwCl [(q, .inr (6, [.ref s0, .ref s1, .ref s2]))] s.heap := hP
  have hl := lv_entry ([.ref q, .int v, .int w0, .ref oq]) (n := 5) (Nat.le_of_ble_eq_true rfl)
  rw [lg_entry_eq]
  generalize (lg_sl ([.ref q, .int v, .int w0, .ref oq]) ++ List.replicate (5 - (lg_sl ([.ref q, .int v, .int w0, .ref oq])).length) Slot.unset).toArray = ls at hl ⊢
  have hl : lv_has ls 5 [(0, .ref q), (1, .int v), (2, .int w0), (3, .ref oq)] := hl
  refine lv_aload_n hx hb dL_clusterMinimum_0 rfl (lv_at hl 3 rfl) ?_
  refine lv_iconst (v := nI 0) hx hb dL_clusterMinimum_1 (by decide +kernel) ?_
  refine lv_aload_n hx hb dL_clusterMinimum_2 rfl (lv_at hl 0 rfl) ?_
  refine lv_iload_n hx hb dL_clusterMinimum_3 rfl (lv_at hl 1 rfl) ?_
  refine lv_iload_n hx hb dL_clusterMinimum_4 rfl (lv_at hl 2 rfl) ?_
  have hPc := hP.sub (ws' := [(q, .inr (6, [.ref s0, .ref s1, .ref s2]))]) [0] rfl
  have hKc := hK.sub (tys' := []) [] rfl
  have hDc := hD.sub (ws' := [(q, .inr (6, [.ref s0, .ref s1, .ref s2]))]) [0] (by decide) rfl
  refine vx_callv (vx_runV (As := [.int v, .int w0]) (rest := [.int (nI 0), .ref oq]) ⟨hx, hb, hml, hown, hts⟩ (x_X7_clusterMinimum_s l hls dC dI q s0 s1 s2 v w0 sa s.heap.size (by first | assumption | omega)) (cwV 2 hts gL_clusterMinimum_X7_clusterMinimum rfl rfl rfl (by decide +kernel) ⟨Nat.le_of_ble_eq_true rfl, Nat.le_of_ble_eq_true rfl⟩) ⟨fun a U g mk q => by obtain ⟨q0, q1, qT, qP, qK, qD⟩ := q; exact ⟨q0, q1, TW.same (u := U) (U := U.calling g mk a) rfl qT, qP, va_K.moved (u := U) (U := U.calling g mk a) (Vm.Alike.refl U.vm) qK, qD⟩, va_recv hKc hPc (ci := 6) (q0 := 0) rfl rfl, fun U hU hW => ⟨rfl, by rw [hU], by rw [hU]; exact TW.warm hW hT, by rw [hU]; exact hPc, va_K.moved hW.alike hKc, hDc.weaken (fun _ _ _ _ => trivial)⟩⟩ rfl rfl hl.1 rfl (lv_room (Nat.le_of_ble_eq_true rfl)) dL_clusterMinimum_5 ⟨Nat.le_of_ble_eq_true rfl, Nat.le_of_ble_eq_true rfl⟩) hS (fun q h9 h8 => absurd h8 (Nat.not_le_of_lt h9)) (fun q h8 => hA q (Nat.le_trans hS.1 h8)) (fun q h9 h8 => absurd h8 (Nat.not_le_of_lt h9)) (fun E9 ce9 q9 u9 t9 H locs ht9 hvm9 hu9 hE9 hz9 hk9 hS hce9 hcv9 hcl9 => ?_) (fun u9 t9 H9 l9 ht9 hvm9 hu9 hB9 hz9 hk9 hS9 => hu9.elim)
  subst hE9
  have hP := hP.kept (H1 := H) (fun k q hk => hk9 _ (vx_lt hP hk) (Nat.not_le_of_lt (vx_lt hP hk)))
  refine vx_catch (name := "java/lang/IndexOutOfBoundsException") hown [] ⟨0, 10, 13, 13⟩ [] (htab.trans rfl) (fun z hz => nomatch hz) rfl (by decide) (hts (.classLink RL 13 "java/lang/IndexOutOfBoundsException") (by decide +kernel)) (va_Nw.use rfl hT.2.2.2.2.2.2) hce9 hcv9 hcl9 ?_
  refine W.cs (cells' := 1) (slots' := 6) rfl rfl ?_
  refine lv_astore (lv' := [(4, .ref q9), (0, .ref q), (1, .int v), (2, .int w0), (3, .ref oq)]) hx hb dL_clusterMinimum_13 hl (by decide) rfl (fun ls hl => ?_)
  refine lv_iconst (v := nI 1) hx hb dL_clusterMinimum_15 (by decide +kernel) ?_
  have hP9 := hP.sub (ws' := [(q, .inr (6, [.ref s0, .ref s1, .ref s2]))]) [0] rfl
  have hD9 := hD.sub (ws' := [(q, .inr (6, [.ref s0, .ref s1, .ref s2]))]) [0] (by decide) rfl
  have hK9 := hK.sub (tys' := []) [] rfl
  exact W.iret (v := nI 1) hx hb hr (fun t9 ht hW => ⟨⟨nI 1, (), rfl, rfl, by rw [ht]; exact hP9, va_K.moved hW.alike hK9, hD9⟩, hS.F ht⟩) hS.2.2 dL_clusterMinimum_16
set_option maxHeartbeats 4000000 in
set_option maxRecDepth 100000 in
/-- law: clusterMaximum, clusterMaximum_s -/
theorem c_L_clusterMaximum_s (l : Launch) (hls : l.stackTraces = false) (dC : Nat → ClassId) (dI : Nat → Nat → Nat) (q : Nat) (s0 : Nat) (s1 : Nat) (s2 : Nat) (v : Int32) (w0 : Int32) (oq : Nat) (sa : Nat) (sz : Nat) (hSf : isS v = false) : Met l yL_clusterMaximum wsL_clusterMaximum ({ frames := 8, cells := 1, slots := 6, locals := 126 }) (va_Pc [.ref q, .int v, .int w0, .ref oq] (fun U => TW "java/lang/IndexOutOfBoundsException" 148 "no such set" sa (fun q => sz ≤ q) U U.heap ∧ U.heap.size = sz ∧ va_P (dC, dI) vwCl [(q, .inr (6, [.ref s0, .ref s1, .ref s2]))] U.heap ∧ va_K (dC, dI) vwCl [] U ∧ va_D (fun _ => True) [(q, .inr (6, [.ref s0, .ref s1, .ref s2]))])) (va_Qi (fun (r : Int32) (u : Unit) => r = nI 1) (fun (u : Unit) (t : State) => va_P (dC, dI) vwCl [(q, .inr (6, [.ref s0, .ref s1, .ref s2]))] t.heap ∧ va_K (dC, dI) vwCl [] t ∧ va_D (va_A [(q, .inr (6, [.ref s0, .ref s1, .ref s2]))] sz) [(q, .inr (6, [.ref s0, .ref s1, .ref s2]))]) (va_A [(q, .inr (6, [.ref s0, .ref s1, .ref s2]))] sz)) 1 6 (va_A [(q, .inr (6, [.ref s0, .ref s1, .ref s2]))] sz) := by
  refine va_MetW (cc := cL_clusterMaximum) (maxL := 5) (ret := (some .int)) (hh := [(0, 10, 13, 13)]) (by decide) rfl ?_
  intro p e s m args below meth c s₁ B hml hv
  obtain ⟨rfl, hT, hsz, hP, hK, hD0⟩ := hv
  have hx := B.exec
  have hb := B.bytes
  have hr := B.returns
  have hts := atoms_spec (ws := wsL_clusterMaximum) B.pre
  have hown : s.vm.findClass RL = some m.cls := findClass_of_methodNamed B.named
  have hlocks := B.notSynchronized
  have htab : c.exceptionTable.toList = tableOf [(0, 10, 13, 13)] := vx_table (x := yL_clusterMaximum) B (hts _ List.mem_cons_self)
  subst hsz
  have hD := hD0.self (sz := s.heap.size)
  generalize hAe : va_A [(q, .inr (6, [.ref s0, .ref s1, .ref s2]))] s.heap.size = A at hD ⊢
  have hA : ∀ q : Nat, s.heap.size ≤ q → A q := fun q h => by rw [← hAe]; exact Or.inr h
  have hS : va_S A s.heap s.heap [] := va_S.rf
  have hP : va_P (dC, dI) vwCl [(q, .inr (6, [.ref s0, .ref s1, .ref s2]))] s.heap := hP
  have hl := lv_entry ([.ref q, .int v, .int w0, .ref oq]) (n := 5) (Nat.le_of_ble_eq_true rfl)
  rw [lg_entry_eq]
  generalize (lg_sl ([.ref q, .int v, .int w0, .ref oq]) ++ List.replicate (5 - (lg_sl ([.ref q, .int v, .int w0, .ref oq])).length) Slot.unset).toArray = ls at hl ⊢
  have hl : lv_has ls 5 [(0, .ref q), (1, .int v), (2, .int w0), (3, .ref oq)] := hl
  refine lv_aload_n hx hb dL_clusterMaximum_0 rfl (lv_at hl 3 rfl) ?_
  refine lv_iconst (v := nI 0) hx hb dL_clusterMaximum_1 (by decide +kernel) ?_
  refine lv_aload_n hx hb dL_clusterMaximum_2 rfl (lv_at hl 0 rfl) ?_
  refine lv_iload_n hx hb dL_clusterMaximum_3 rfl (lv_at hl 1 rfl) ?_
  refine lv_iload_n hx hb dL_clusterMaximum_4 rfl (lv_at hl 2 rfl) ?_
  have hPc := hP.sub (ws' := [(q, .inr (6, [.ref s0, .ref s1, .ref s2]))]) [0] rfl
  have hKc := hK.sub (tys' := []) [] rfl
  have hDc := hD.sub (ws' := [(q, .inr (6, [.ref s0, .ref s1, .ref s2]))]) [0] (by decide) rfl
  refine vx_callv (vx_runV (As := [.int v, .int w0]) (rest := [.int (nI 0), .ref oq]) ⟨hx, hb, hml, hown, hts⟩ (x_X7_clusterMaximum_s l hls dC dI q s0 s1 s2 v w0 sa s.heap.size (by first | assumption | omega)) (cwV 2 hts gL_clusterMaximum_X7_clusterMaximum rfl rfl rfl (by decide +kernel) ⟨Nat.le_of_ble_eq_true rfl, Nat.le_of_ble_eq_true rfl⟩) ⟨fun a U g mk q => by obtain ⟨q0, q1, qT, qP, qK, qD⟩ := q; exact ⟨q0, q1, TW.same (u := U) (U := U.calling g mk a) rfl qT, qP, va_K.moved (u := U) (U := U.calling g mk a) (Vm.Alike.refl U.vm) qK, qD⟩, va_recv hKc hPc (ci := 6) (q0 := 0) rfl rfl, fun U hU hW => ⟨rfl, by rw [hU], by rw [hU]; exact TW.warm hW hT, by rw [hU]; exact hPc, va_K.moved hW.alike hKc, hDc.weaken (fun _ _ _ _ => trivial)⟩⟩ rfl rfl hl.1 rfl (lv_room (Nat.le_of_ble_eq_true rfl)) dL_clusterMaximum_5 ⟨Nat.le_of_ble_eq_true rfl, Nat.le_of_ble_eq_true rfl⟩) hS (fun q h9 h8 => absurd h8 (Nat.not_le_of_lt h9)) (fun q h8 => hA q (Nat.le_trans hS.1 h8)) (fun q h9 h8 => absurd h8 (Nat.not_le_of_lt h9)) (fun E9 ce9 q9 u9 t9 H locs ht9 hvm9 hu9 hE9 hz9 hk9 hS hce9 hcv9 hcl9 => ?_) (fun u9 t9 H9 l9 ht9 hvm9 hu9 hB9 hz9 hk9 hS9 => hu9.elim)
  subst hE9
  have hP := hP.kept (H1 := H) (fun k q hk => hk9 _ (vx_lt hP hk) (Nat.not_le_of_lt (vx_lt hP hk)))
  refine vx_catch (name := "java/lang/IndexOutOfBoundsException") hown [] ⟨0, 10, 13, 13⟩ [] (htab.trans rfl) (fun z hz => nomatch hz) rfl (by decide) (hts (.classLink RL 13 "java/lang/IndexOutOfBoundsException") (by decide +kernel)) (va_Nw.use rfl hT.2.2.2.2.2.2) hce9 hcv9 hcl9 ?_
  refine W.cs (cells' := 1) (slots' := 6) rfl rfl ?_
  refine lv_astore (lv' := [(4, .ref q9), (0, .ref q), (1, .int v), (2, .int w0), (3, .ref oq)]) hx hb dL_clusterMaximum_13 hl (by decide) rfl (fun ls hl => ?_)
  refine lv_iconst (v := nI 1) hx hb dL_clusterMaximum_15 (by decide +kernel) ?_
  have hP9 := hP.sub (ws' := [(q, .inr (6, [.ref s0, .ref s1, .ref s2]))]) [0] rfl
  have hD9 := hD.sub (ws' := [(q, .inr (6, [.ref s0, .ref s1, .ref s2]))]) [0] (by decide) rfl
  have hK9 := hK.sub (tys' := []) [] rfl
  exact W.iret (v := nI 1) hx hb hr (fun t9 ht hW => ⟨⟨nI 1, (), rfl, rfl, by rw [ht]; exact hP9, va_K.moved hW.alike hK9, hD9⟩, hS.F ht⟩) hS.2.2 dL_clusterMaximum_16
set_option maxHeartbeats 4000000 in
set_option maxRecDepth 100000 in
/-- law: prefixes, prefixes_s -/
theorem c_L_prefixes_s (l : Launch) (hls : l.stackTraces = false) (dC : Nat → ClassId) (dI : Nat → Nat → Nat) (q : Nat) (s0 : Nat) (s1 : Nat) (s2 : Nat) (v : Int32) (w0 : Int32) (oq : Nat) (sa : Nat) (sz : Nat) (hSf : isS v = false) : Met l yL_prefixes wsL_prefixes ({ frames := 8, cells := 1, slots := 6, locals := 126 }) (va_Pc [.ref q, .int v, .int w0, .ref oq] (fun U => TW "java/lang/IndexOutOfBoundsException" 148 "no such set" sa (fun q => sz ≤ q) U U.heap ∧ U.heap.size = sz ∧ va_P (dC, dI) vwCl [(q, .inr (6, [.ref s0, .ref s1, .ref s2]))] U.heap ∧ va_K (dC, dI) vwCl [] U ∧ va_D (fun _ => True) [(q, .inr (6, [.ref s0, .ref s1, .ref s2]))])) (va_Qi (fun (r : Int32) (u : Unit) => r = nI 1) (fun (u : Unit) (t : State) => va_P (dC, dI) vwCl [(q, .inr (6, [.ref s0, .ref s1, .ref s2]))] t.heap ∧ va_K (dC, dI) vwCl [] t ∧ va_D (va_A [(q, .inr (6, [.ref s0, .ref s1, .ref s2]))] sz) [(q, .inr (6, [.ref s0, .ref s1, .ref s2]))]) (va_A [(q, .inr (6, [.ref s0, .ref s1, .ref s2]))] sz)) 1 6 (va_A [(q, .inr (6, [.ref s0, .ref s1, .ref s2]))] sz) := by
  refine va_MetW (cc := cL_prefixes) (maxL := 5) (ret := (some .int)) (hh := [(0, 10, 13, 13)]) (by decide) rfl ?_
  intro p e s m args below meth c s₁ B hml hv
  obtain ⟨rfl, hT, hsz, hP, hK, hD0⟩ := hv
  have hx := B.exec
  have hb := B.bytes
  have hr := B.returns
  have hts := atoms_spec (ws := wsL_prefixes) B.pre
  have hown : s.vm.findClass RL = some m.cls := findClass_of_methodNamed B.named
  have hlocks := B.notSynchronized
  have htab : c.exceptionTable.toList = tableOf [(0, 10, 13, 13)] := vx_table (x := yL_prefixes) B (hts _ List.mem_cons_self)
  subst hsz
  have hD := hD0.self (sz := s.heap.size)
  generalize hAe : va_A [(q, .inr (6, [.ref s0, .ref s1, .ref s2]))] s.heap.size = A at hD ⊢
  have hA : ∀ q : Nat, s.heap.size ≤ q → A q := fun q h => by rw [← hAe]; exact Or.inr h
  have hS : va_S A s.heap s.heap [] := va_S.rf
  have hP : va_P (dC, dI) vwCl [(q, .inr (6, [.ref s0, .ref s1, .ref s2]))] s.heap := hP
  have hl := lv_entry ([.ref q, .int v, .int w0, .ref oq]) (n := 5) (Nat.le_of_ble_eq_true rfl)
  rw [lg_entry_eq]
  generalize (lg_sl ([.ref q, .int v, .int w0, .ref oq]) ++ List.replicate (5 - (lg_sl ([.ref q, .int v, .int w0, .ref oq])).length) Slot.unset).toArray = ls at hl ⊢
  have hl : lv_has ls 5 [(0, .ref q), (1, .int v), (2, .int w0), (3, .ref oq)] := hl
  refine lv_aload_n hx hb dL_prefixes_0 rfl (lv_at hl 3 rfl) ?_
  refine lv_iconst (v := nI 0) hx hb dL_prefixes_1 (by decide +kernel) ?_
  refine lv_aload_n hx hb dL_prefixes_2 rfl (lv_at hl 0 rfl) ?_
  refine lv_iload_n hx hb dL_prefixes_3 rfl (lv_at hl 1 rfl) ?_
  refine lv_iload_n hx hb dL_prefixes_4 rfl (lv_at hl 2 rfl) ?_
  have hPc := hP.sub (ws' := [(q, .inr (6, [.ref s0, .ref s1, .ref s2]))]) [0] rfl
  have hKc := hK.sub (tys' := []) [] rfl
  have hDc := hD.sub (ws' := [(q, .inr (6, [.ref s0, .ref s1, .ref s2]))]) [0] (by decide) rfl
  refine vx_callv (vx_runV (As := [.int v, .int w0]) (rest := [.int (nI 0), .ref oq]) ⟨hx, hb, hml, hown, hts⟩ (x_X7_prefixes_s l hls dC dI q s0 s1 s2 v w0 sa s.heap.size (by first | assumption | omega)) (cwV 2 hts gL_prefixes_X7_prefixes rfl rfl rfl (by decide +kernel) ⟨Nat.le_of_ble_eq_true rfl, Nat.le_of_ble_eq_true rfl⟩) ⟨fun a U g mk q => by obtain ⟨q0, q1, qT, qP, qK, qD⟩ := q; exact ⟨q0, q1, TW.same (u := U) (U := U.calling g mk a) rfl qT, qP, va_K.moved (u := U) (U := U.calling g mk a) (Vm.Alike.refl U.vm) qK, qD⟩, va_recv hKc hPc (ci := 6) (q0 := 0) rfl rfl, fun U hU hW => ⟨rfl, by rw [hU], by rw [hU]; exact TW.warm hW hT, by rw [hU]; exact hPc, va_K.moved hW.alike hKc, hDc.weaken (fun _ _ _ _ => trivial)⟩⟩ rfl rfl hl.1 rfl (lv_room (Nat.le_of_ble_eq_true rfl)) dL_prefixes_5 ⟨Nat.le_of_ble_eq_true rfl, Nat.le_of_ble_eq_true rfl⟩) hS (fun q h9 h8 => absurd h8 (Nat.not_le_of_lt h9)) (fun q h8 => hA q (Nat.le_trans hS.1 h8)) (fun q h9 h8 => absurd h8 (Nat.not_le_of_lt h9)) (fun E9 ce9 q9 u9 t9 H locs ht9 hvm9 hu9 hE9 hz9 hk9 hS hce9 hcv9 hcl9 => ?_) (fun u9 t9 H9 l9 ht9 hvm9 hu9 hB9 hz9 hk9 hS9 => hu9.elim)
  subst hE9
  have hP := hP.kept (H1 := H) (fun k q hk => hk9 _ (vx_lt hP hk) (Nat.not_le_of_lt (vx_lt hP hk)))
  refine vx_catch (name := "java/lang/IndexOutOfBoundsException") hown [] ⟨0, 10, 13, 13⟩ [] (htab.trans rfl) (fun z hz => nomatch hz) rfl (by decide) (hts (.classLink RL 13 "java/lang/IndexOutOfBoundsException") (by decide +kernel)) (va_Nw.use rfl hT.2.2.2.2.2.2) hce9 hcv9 hcl9 ?_
  refine W.cs (cells' := 1) (slots' := 6) rfl rfl ?_
  refine lv_astore (lv' := [(4, .ref q9), (0, .ref q), (1, .int v), (2, .int w0), (3, .ref oq)]) hx hb dL_prefixes_13 hl (by decide) rfl (fun ls hl => ?_)
  refine lv_iconst (v := nI 1) hx hb dL_prefixes_15 (by decide +kernel) ?_
  have hP9 := hP.sub (ws' := [(q, .inr (6, [.ref s0, .ref s1, .ref s2]))]) [0] rfl
  have hD9 := hD.sub (ws' := [(q, .inr (6, [.ref s0, .ref s1, .ref s2]))]) [0] (by decide) rfl
  have hK9 := hK.sub (tys' := []) [] rfl
  exact W.iret (v := nI 1) hx hb hr (fun t9 ht hW => ⟨⟨nI 1, (), rfl, rfl, by rw [ht]; exact hP9, va_K.moved hW.alike hK9, hD9⟩, hS.F ht⟩) hS.2.2 dL_prefixes_16
set_option maxHeartbeats 4000000 in
set_option maxRecDepth 100000 in
/-- law: longestMatch, longestMatch_s -/
theorem c_L_longestMatch_s (l : Launch) (hls : l.stackTraces = false) (dC : Nat → ClassId) (dI : Nat → Nat → Nat) (q : Nat) (s0 : Nat) (s1 : Nat) (s2 : Nat) (v : Int32) (w0 : Int32) (oq : Nat) (sa : Nat) (sz : Nat) (hSf : isS v = false) : Met l yL_longestMatch wsL_longestMatch ({ frames := 8, cells := 1, slots := 6, locals := 126 }) (va_Pc [.ref q, .int v, .int w0, .ref oq] (fun U => TW "java/lang/IndexOutOfBoundsException" 148 "no such set" sa (fun q => sz ≤ q) U U.heap ∧ U.heap.size = sz ∧ va_P (dC, dI) vwCl [(q, .inr (6, [.ref s0, .ref s1, .ref s2]))] U.heap ∧ va_K (dC, dI) vwCl [] U ∧ va_D (fun _ => True) [(q, .inr (6, [.ref s0, .ref s1, .ref s2]))])) (va_Qi (fun (r : Int32) (u : Unit) => r = nI 1) (fun (u : Unit) (t : State) => va_P (dC, dI) vwCl [(q, .inr (6, [.ref s0, .ref s1, .ref s2]))] t.heap ∧ va_K (dC, dI) vwCl [] t ∧ va_D (va_A [(q, .inr (6, [.ref s0, .ref s1, .ref s2]))] sz) [(q, .inr (6, [.ref s0, .ref s1, .ref s2]))]) (va_A [(q, .inr (6, [.ref s0, .ref s1, .ref s2]))] sz)) 1 6 (va_A [(q, .inr (6, [.ref s0, .ref s1, .ref s2]))] sz) := by
  refine va_MetW (cc := cL_longestMatch) (maxL := 5) (ret := (some .int)) (hh := [(0, 10, 13, 13), (0, 10, 17, 15)]) (by decide) rfl ?_
  intro p e s m args below meth c s₁ B hml hv
  obtain ⟨rfl, hT, hsz, hP, hK, hD0⟩ := hv
  have hx := B.exec
  have hb := B.bytes
  have hr := B.returns
  have hts := atoms_spec (ws := wsL_longestMatch) B.pre
  have hown : s.vm.findClass RL = some m.cls := findClass_of_methodNamed B.named
  have hlocks := B.notSynchronized
  have htab : c.exceptionTable.toList = tableOf [(0, 10, 13, 13), (0, 10, 17, 15)] := vx_table (x := yL_longestMatch) B (hts _ List.mem_cons_self)
  subst hsz
  have hD := hD0.self (sz := s.heap.size)
  generalize hAe : va_A [(q, .inr (6, [.ref s0, .ref s1, .ref s2]))] s.heap.size = A at hD ⊢
  have hA : ∀ q : Nat, s.heap.size ≤ q → A q := fun q h => by rw [← hAe]; exact Or.inr h
  have hS : va_S A s.heap s.heap [] := va_S.rf
  have hP : va_P (dC, dI) vwCl [(q, .inr (6, [.ref s0, .ref s1, .ref s2]))] s.heap := hP
  have hl := lv_entry ([.ref q, .int v, .int w0, .ref oq]) (n := 5) (Nat.le_of_ble_eq_true rfl)
  rw [lg_entry_eq]
  generalize (lg_sl ([.ref q, .int v, .int w0, .ref oq]) ++ List.replicate (5 - (lg_sl ([.ref q, .int v, .int w0, .ref oq])).length) Slot.unset).toArray = ls at hl ⊢
  have hl : lv_has ls 5 [(0, .ref q), (1, .int v), (2, .int w0), (3, .ref oq)] := hl
  refine lv_aload_n hx hb dL_longestMatch_0 rfl (lv_at hl 3 rfl) ?_
  refine lv_iconst (v := nI 0) hx hb dL_longestMatch_1 (by decide +kernel) ?_
  refine lv_aload_n hx hb dL_longestMatch_2 rfl (lv_at hl 0 rfl) ?_
  refine lv_iload_n hx hb dL_longestMatch_3 rfl (lv_at hl 1 rfl) ?_
  refine lv_iload_n hx hb dL_longestMatch_4 rfl (lv_at hl 2 rfl) ?_
  have hPc := hP.sub (ws' := [(q, .inr (6, [.ref s0, .ref s1, .ref s2]))]) [0] rfl
  have hKc := hK.sub (tys' := []) [] rfl
  have hDc := hD.sub (ws' := [(q, .inr (6, [.ref s0, .ref s1, .ref s2]))]) [0] (by decide) rfl
  refine vx_callv (vx_runV (As := [.int v, .int w0]) (rest := [.int (nI 0), .ref oq]) ⟨hx, hb, hml, hown, hts⟩ (x_X7_longestMatch_s l hls dC dI q s0 s1 s2 v w0 sa s.heap.size (by first | assumption | omega)) (cwV 2 hts gL_longestMatch_X7_longestMatch rfl rfl rfl (by decide +kernel) ⟨Nat.le_of_ble_eq_true rfl, Nat.le_of_ble_eq_true rfl⟩) ⟨fun a U g mk q => by obtain ⟨q0, q1, qT, qP, qK, qD⟩ := q; exact ⟨q0, q1, TW.same (u := U) (U := U.calling g mk a) rfl qT, qP, va_K.moved (u := U) (U := U.calling g mk a) (Vm.Alike.refl U.vm) qK, qD⟩, va_recv hKc hPc (ci := 6) (q0 := 0) rfl rfl, fun U hU hW => ⟨rfl, by rw [hU], by rw [hU]; exact TW.warm hW hT, by rw [hU]; exact hPc, va_K.moved hW.alike hKc, hDc.weaken (fun _ _ _ _ => trivial)⟩⟩ rfl rfl hl.1 rfl (lv_room (Nat.le_of_ble_eq_true rfl)) dL_longestMatch_5 ⟨Nat.le_of_ble_eq_true rfl, Nat.le_of_ble_eq_true rfl⟩) hS (fun q h9 h8 => absurd h8 (Nat.not_le_of_lt h9)) (fun q h8 => hA q (Nat.le_trans hS.1 h8)) (fun q h9 h8 => absurd h8 (Nat.not_le_of_lt h9)) (fun E9 ce9 q9 u9 t9 H locs ht9 hvm9 hu9 hE9 hz9 hk9 hS hce9 hcv9 hcl9 => ?_) (fun u9 t9 H9 l9 ht9 hvm9 hu9 hB9 hz9 hk9 hS9 => hu9.elim)
  subst hE9
  have hP := hP.kept (H1 := H) (fun k q hk => hk9 _ (vx_lt hP hk) (Nat.not_le_of_lt (vx_lt hP hk)))
  refine vx_catch (name := "java/lang/IndexOutOfBoundsException") hown [] ⟨0, 10, 13, 13⟩ [⟨0, 10, 17, 15⟩] (htab.trans rfl) (fun z hz => nomatch hz) rfl (by decide) (hts (.classLink RL 13 "java/lang/IndexOutOfBoundsException") (by decide +kernel)) (va_Nw.use rfl hT.2.2.2.2.2.2) hce9 hcv9 hcl9 ?_
  refine W.cs (cells' := 1) (slots' := 6) rfl rfl ?_
  refine lv_astore (lv' := [(4, .ref q9), (0, .ref q), (1, .int v), (2, .int w0), (3, .ref oq)]) hx hb dL_longestMatch_13 hl (by decide) rfl (fun ls hl => ?_)
  refine lv_iconst (v := nI 1) hx hb dL_longestMatch_15 (by decide +kernel) ?_
  have hP9 := hP.sub (ws' := [(q, .inr (6, [.ref s0, .ref s1, .ref s2]))]) [0] rfl
  have hD9 := hD.sub (ws' := [(q, .inr (6, [.ref s0, .ref s1, .ref s2]))]) [0] (by decide) rfl
  have hK9 := hK.sub (tys' := []) [] rfl
  exact W.iret (v := nI 1) hx hb hr (fun t9 ht hW => ⟨⟨nI 1, (), rfl, rfl, by rw [ht]; exact hP9, va_K.moved hW.alike hK9, hD9⟩, hS.F ht⟩) hS.2.2 dL_longestMatch_16
set_option maxHeartbeats 4000000 in
set_option maxRecDepth 100000 in
/-- law: probes, probes_s -/
theorem c_L_probes_s (l : Launch) (hls : l.stackTraces = false) (dC : Nat → ClassId) (dI : Nat → Nat → Nat) (q : Nat) (s0 : Nat) (s1 : Nat) (s2 : Nat) (v : Int32) (w0 : Int32) (oq : Nat) (sa : Nat) (sz : Nat) (hSf : isS v = false) : Met l yL_probes wsL_probes ({ frames := 8, cells := 1, slots := 6, locals := 126 }) (va_Pc [.ref q, .int v, .int w0, .ref oq] (fun U => TW "java/lang/IndexOutOfBoundsException" 148 "no such set" sa (fun q => sz ≤ q) U U.heap ∧ U.heap.size = sz ∧ va_P (dC, dI) vwCl [(q, .inr (6, [.ref s0, .ref s1, .ref s2]))] U.heap ∧ va_K (dC, dI) vwCl [] U ∧ va_D (fun _ => True) [(q, .inr (6, [.ref s0, .ref s1, .ref s2]))])) (va_Qi (fun (r : Int32) (u : Unit) => r = nI 1) (fun (u : Unit) (t : State) => va_P (dC, dI) vwCl [(q, .inr (6, [.ref s0, .ref s1, .ref s2]))] t.heap ∧ va_K (dC, dI) vwCl [] t ∧ va_D (va_A [(q, .inr (6, [.ref s0, .ref s1, .ref s2]))] sz) [(q, .inr (6, [.ref s0, .ref s1, .ref s2]))]) (va_A [(q, .inr (6, [.ref s0, .ref s1, .ref s2]))] sz)) 1 6 (va_A [(q, .inr (6, [.ref s0, .ref s1, .ref s2]))] sz) := by
  refine va_MetW (cc := cL_probes) (maxL := 5) (ret := (some .int)) (hh := [(0, 10, 13, 13), (0, 10, 17, 15)]) (by decide) rfl ?_
  intro p e s m args below meth c s₁ B hml hv
  obtain ⟨rfl, hT, hsz, hP, hK, hD0⟩ := hv
  have hx := B.exec
  have hb := B.bytes
  have hr := B.returns
  have hts := atoms_spec (ws := wsL_probes) B.pre
  have hown : s.vm.findClass RL = some m.cls := findClass_of_methodNamed B.named
  have hlocks := B.notSynchronized
  have htab : c.exceptionTable.toList = tableOf [(0, 10, 13, 13), (0, 10, 17, 15)] := vx_table (x := yL_probes) B (hts _ List.mem_cons_self)
  subst hsz
  have hD := hD0.self (sz := s.heap.size)
  generalize hAe : va_A [(q, .inr (6, [.ref s0, .ref s1, .ref s2]))] s.heap.size = A at hD ⊢
  have hA : ∀ q : Nat, s.heap.size ≤ q → A q := fun q h => by rw [← hAe]; exact Or.inr h
  have hS : va_S A s.heap s.heap [] := va_S.rf
  have hP : va_P (dC, dI) vwCl [(q, .inr (6, [.ref s0, .ref s1, .ref s2]))] s.heap := hP
  have hl := lv_entry ([.ref q, .int v, .int w0, .ref oq]) (n := 5) (Nat.le_of_ble_eq_true rfl)
  rw [lg_entry_eq]
  generalize (lg_sl ([.ref q, .int v, .int w0, .ref oq]) ++ List.replicate (5 - (lg_sl ([.ref q, .int v, .int w0, .ref oq])).length) Slot.unset).toArray = ls at hl ⊢
  have hl : lv_has ls 5 [(0, .ref q), (1, .int v), (2, .int w0), (3, .ref oq)] := hl
  refine lv_aload_n hx hb dL_probes_0 rfl (lv_at hl 3 rfl) ?_
  refine lv_iconst (v := nI 0) hx hb dL_probes_1 (by decide +kernel) ?_
  refine lv_aload_n hx hb dL_probes_2 rfl (lv_at hl 0 rfl) ?_
  refine lv_iload_n hx hb dL_probes_3 rfl (lv_at hl 1 rfl) ?_
  refine lv_iload_n hx hb dL_probes_4 rfl (lv_at hl 2 rfl) ?_
  have hPc := hP.sub (ws' := [(q, .inr (6, [.ref s0, .ref s1, .ref s2]))]) [0] rfl
  have hKc := hK.sub (tys' := []) [] rfl
  have hDc := hD.sub (ws' := [(q, .inr (6, [.ref s0, .ref s1, .ref s2]))]) [0] (by decide) rfl
  refine vx_callv (vx_runV (As := [.int v, .int w0]) (rest := [.int (nI 0), .ref oq]) ⟨hx, hb, hml, hown, hts⟩ (x_X7_probes_s l hls dC dI q s0 s1 s2 v w0 sa s.heap.size (by first | assumption | omega)) (cwV 2 hts gL_probes_X7_probes rfl rfl rfl (by decide +kernel) ⟨Nat.le_of_ble_eq_true rfl, Nat.le_of_ble_eq_true rfl⟩) ⟨fun a U g mk q => by obtain ⟨q0, q1, qT, qP, qK, qD⟩ := q; exact ⟨q0, q1, TW.same (u := U) (U := U.calling g mk a) rfl qT, qP, va_K.moved (u := U) (U := U.calling g mk a) (Vm.Alike.refl U.vm) qK, qD⟩, va_recv hKc hPc (ci := 6) (q0 := 0) rfl rfl, fun U hU hW => ⟨rfl, by rw [hU], by rw [hU]; exact TW.warm hW hT, by rw [hU]; exact hPc, va_K.moved hW.alike hKc, hDc.weaken (fun _ _ _ _ => trivial)⟩⟩ rfl rfl hl.1 rfl (lv_room (Nat.le_of_ble_eq_true rfl)) dL_probes_5 ⟨Nat.le_of_ble_eq_true rfl, Nat.le_of_ble_eq_true rfl⟩) hS (fun q h9 h8 => absurd h8 (Nat.not_le_of_lt h9)) (fun q h8 => hA q (Nat.le_trans hS.1 h8)) (fun q h9 h8 => absurd h8 (Nat.not_le_of_lt h9)) (fun E9 ce9 q9 u9 t9 H locs ht9 hvm9 hu9 hE9 hz9 hk9 hS hce9 hcv9 hcl9 => ?_) (fun u9 t9 H9 l9 ht9 hvm9 hu9 hB9 hz9 hk9 hS9 => hu9.elim)
  subst hE9
  have hP := hP.kept (H1 := H) (fun k q hk => hk9 _ (vx_lt hP hk) (Nat.not_le_of_lt (vx_lt hP hk)))
  refine vx_catch (name := "java/lang/IndexOutOfBoundsException") hown [] ⟨0, 10, 13, 13⟩ [⟨0, 10, 17, 15⟩] (htab.trans rfl) (fun z hz => nomatch hz) rfl (by decide) (hts (.classLink RL 13 "java/lang/IndexOutOfBoundsException") (by decide +kernel)) (va_Nw.use rfl hT.2.2.2.2.2.2) hce9 hcv9 hcl9 ?_
  refine W.cs (cells' := 1) (slots' := 6) rfl rfl ?_
  refine lv_astore (lv' := [(4, .ref q9), (0, .ref q), (1, .int v), (2, .int w0), (3, .ref oq)]) hx hb dL_probes_13 hl (by decide) rfl (fun ls hl => ?_)
  refine lv_iconst (v := nI 1) hx hb dL_probes_15 (by decide +kernel) ?_
  have hP9 := hP.sub (ws' := [(q, .inr (6, [.ref s0, .ref s1, .ref s2]))]) [0] rfl
  have hD9 := hD.sub (ws' := [(q, .inr (6, [.ref s0, .ref s1, .ref s2]))]) [0] (by decide) rfl
  have hK9 := hK.sub (tys' := []) [] rfl
  exact W.iret (v := nI 1) hx hb hr (fun t9 ht hW => ⟨⟨nI 1, (), rfl, rfl, by rw [ht]; exact hP9, va_K.moved hW.alike hK9, hD9⟩, hS.F ht⟩) hS.2.2 dL_probes_16
set_option maxHeartbeats 4000000 in
set_option maxRecDepth 100000 in
/-- law: buckets, buckets_s -/
theorem c_L_buckets_s (l : Launch) (hls : l.stackTraces = false) (dC : Nat → ClassId) (dI : Nat → Nat → Nat) (q : Nat) (s0 : Nat) (s1 : Nat) (s2 : Nat) (v : Int32) (oq : Nat) (sa : Nat) (sz : Nat) (hSf : isS v = false) : Met l yL_buckets wsL_buckets ({ frames := 8, cells := 1, slots := 6, locals := 124 }) (va_Pc [.ref q, .int v, .ref oq] (fun U => TW "java/lang/IndexOutOfBoundsException" 148 "no such set" sa (fun q => sz ≤ q) U U.heap ∧ U.heap.size = sz ∧ va_P (dC, dI) vwCl [(q, .inr (6, [.ref s0, .ref s1, .ref s2]))] U.heap ∧ va_K (dC, dI) vwCl [] U ∧ va_D (fun _ => True) [(q, .inr (6, [.ref s0, .ref s1, .ref s2]))])) (va_Qi (fun (r : Int32) (u : Unit) => r = nI 1) (fun (u : Unit) (t : State) => va_P (dC, dI) vwCl [(q, .inr (6, [.ref s0, .ref s1, .ref s2]))] t.heap ∧ va_K (dC, dI) vwCl [] t ∧ va_D (va_A [(q, .inr (6, [.ref s0, .ref s1, .ref s2]))] sz) [(q, .inr (6, [.ref s0, .ref s1, .ref s2]))]) (va_A [(q, .inr (6, [.ref s0, .ref s1, .ref s2]))] sz)) 1 6 (va_A [(q, .inr (6, [.ref s0, .ref s1, .ref s2]))] sz) := by
  refine va_MetW (cc := cL_buckets) (maxL := 4) (ret := (some .int)) (hh := [(0, 9, 12, 13)]) (by decide) rfl ?_
  intro p e s m args below meth c s₁ B hml hv
  obtain ⟨rfl, hT, hsz, hP, hK, hD0⟩ := hv
  have hx := B.exec
  have hb := B.bytes
  have hr := B.returns
  have hts := atoms_spec (ws := wsL_buckets) B.pre
  have hown : s.vm.findClass RL = some m.cls := findClass_of_methodNamed B.named
  have hlocks := B.notSynchronized
  have htab : c.exceptionTable.toList = tableOf [(0, 9, 12, 13)] := vx_table (x := yL_buckets) B (hts _ List.mem_cons_self)
  subst hsz
  have hD := hD0.self (sz := s.heap.size)
  generalize hAe : va_A [(q, .inr (6, [.ref s0, .ref s1, .ref s2]))] s.heap.size = A at hD ⊢
  have hA : ∀ q : Nat, s.heap.size ≤ q → A q := fun q h => by rw [← hAe]; exact Or.inr h
  have hS : va_S A s.heap s.heap [] := va_S.rf
  have hP : va_P (dC, dI) vwCl [(q, .inr (6, [.ref s0, .ref s1, .ref s2]))] s.heap := hP
  have hl := lv_entry ([.ref q, .int v, .ref oq]) (n := 4) (Nat.le_of_ble_eq_true rfl)
  rw [lg_entry_eq]
  generalize (lg_sl ([.ref q, .int v, .ref oq]) ++ List.replicate (4 - (lg_sl ([.ref q, .int v, .ref oq])).length) Slot.unset).toArray = ls at hl ⊢
  have hl : lv_has ls 4 [(0, .ref q), (1, .int v), (2, .ref oq)] := hl
  refine lv_aload_n hx hb dL_buckets_0 rfl (lv_at hl 2 rfl) ?_
  refine lv_iconst (v := nI 0) hx hb dL_buckets_1 (by decide +kernel) ?_
  refine lv_aload_n hx hb dL_buckets_2 rfl (lv_at hl 0 rfl) ?_
  refine lv_iload_n hx hb dL_buckets_3 rfl (lv_at hl 1 rfl) ?_
  have hPc := hP.sub (ws' := [(q, .inr (6, [.ref s0, .ref s1, .ref s2]))]) [0] rfl
  have hKc := hK.sub (tys' := []) [] rfl
  have hDc := hD.sub (ws' := [(q, .inr (6, [.ref s0, .ref s1, .ref s2]))]) [0] (by decide) rfl
  refine vx_callv (vx_runV (As := [.int v]) (rest := [.int (nI 0), .ref oq]) ⟨hx, hb, hml, hown, hts⟩ (x_X7_buckets_s l hls dC dI q s0 s1 s2 v sa s.heap.size (by first | assumption | omega)) (cwV 1 hts gL_buckets_X7_buckets rfl rfl rfl (by decide +kernel) ⟨Nat.le_of_ble_eq_true rfl, Nat.le_of_ble_eq_true rfl⟩) ⟨fun a U g mk q => by obtain ⟨q0, q1, qT, qP, qK, qD⟩ := q; exact ⟨q0, q1, TW.same (u := U) (U := U.calling g mk a) rfl qT, qP, va_K.moved (u := U) (U := U.calling g mk a) (Vm.Alike.refl U.vm) qK, qD⟩, va_recv hKc hPc (ci := 6) (q0 := 0) rfl rfl, fun U hU hW => ⟨rfl, by rw [hU], by rw [hU]; exact TW.warm hW hT, by rw [hU]; exact hPc, va_K.moved hW.alike hKc, hDc.weaken (fun _ _ _ _ => trivial)⟩⟩ rfl rfl hl.1 rfl (lv_room (Nat.le_of_ble_eq_true rfl)) dL_buckets_4 ⟨Nat.le_of_ble_eq_true rfl, Nat.le_of_ble_eq_true rfl⟩) hS (fun q h9 h8 => absurd h8 (Nat.not_le_of_lt h9)) (fun q h8 => hA q (Nat.le_trans hS.1 h8)) (fun q h9 h8 => absurd h8 (Nat.not_le_of_lt h9)) (fun E9 ce9 q9 u9 t9 H locs ht9 hvm9 hu9 hE9 hz9 hk9 hS hce9 hcv9 hcl9 => ?_) (fun u9 t9 H9 l9 ht9 hvm9 hu9 hB9 hz9 hk9 hS9 => hu9.elim)
  subst hE9
  have hP := hP.kept (H1 := H) (fun k q hk => hk9 _ (vx_lt hP hk) (Nat.not_le_of_lt (vx_lt hP hk)))
  refine vx_catch (name := "java/lang/IndexOutOfBoundsException") hown [] ⟨0, 9, 12, 13⟩ [] (htab.trans rfl) (fun z hz => nomatch hz) rfl (by decide) (hts (.classLink RL 13 "java/lang/IndexOutOfBoundsException") (by decide +kernel)) (va_Nw.use rfl hT.2.2.2.2.2.2) hce9 hcv9 hcl9 ?_
  refine W.cs (cells' := 1) (slots' := 6) rfl rfl ?_
  refine lv_astore_n (lv' := [(3, .ref q9), (0, .ref q), (1, .int v), (2, .ref oq)]) hx hb dL_buckets_12 rfl hl (by decide) rfl (fun ls hl => ?_)
  refine lv_iconst (v := nI 1) hx hb dL_buckets_13 (by decide +kernel) ?_
  have hP9 := hP.sub (ws' := [(q, .inr (6, [.ref s0, .ref s1, .ref s2]))]) [0] rfl
  have hD9 := hD.sub (ws' := [(q, .inr (6, [.ref s0, .ref s1, .ref s2]))]) [0] (by decide) rfl
  have hK9 := hK.sub (tys' := []) [] rfl
  exact W.iret (v := nI 1) hx hb hr (fun t9 ht hW => ⟨⟨nI 1, (), rfl, rfl, by rw [ht]; exact hP9, va_K.moved hW.alike hK9, hD9⟩, hS.F ht⟩) hS.2.2 dL_buckets_14
set_option maxHeartbeats 4000000 in
set_option maxRecDepth 100000 in
/-- law: separator, separator_s -/
theorem c_L_separator_s (l : Launch) (hls : l.stackTraces = false) (dC : Nat → ClassId) (dI : Nat → Nat → Nat) (q : Nat) (s0 : Nat) (s1 : Nat) (s2 : Nat) (v : Int32) (w0 : Int32) (oq : Nat) (sa : Nat) (sz : Nat) (hSf : isS v = false) : Met l yL_separator wsL_separator ({ frames := 8, cells := 1, slots := 6, locals := 126 }) (va_Pc [.ref q, .int v, .int w0, .ref oq] (fun U => TW "java/lang/IndexOutOfBoundsException" 148 "no such set" sa (fun q => sz ≤ q) U U.heap ∧ U.heap.size = sz ∧ va_P (dC, dI) vwCl [(q, .inr (6, [.ref s0, .ref s1, .ref s2]))] U.heap ∧ va_K (dC, dI) vwCl [] U ∧ va_D (fun _ => True) [(q, .inr (6, [.ref s0, .ref s1, .ref s2]))])) (va_Qi (fun (r : Int32) (u : Unit) => r = nI 1) (fun (u : Unit) (t : State) => va_P (dC, dI) vwCl [(q, .inr (6, [.ref s0, .ref s1, .ref s2]))] t.heap ∧ va_K (dC, dI) vwCl [] t ∧ va_D (va_A [(q, .inr (6, [.ref s0, .ref s1, .ref s2]))] sz) [(q, .inr (6, [.ref s0, .ref s1, .ref s2]))]) (va_A [(q, .inr (6, [.ref s0, .ref s1, .ref s2]))] sz)) 1 6 (va_A [(q, .inr (6, [.ref s0, .ref s1, .ref s2]))] sz) := by
  refine va_MetW (cc := cL_separator) (maxL := 5) (ret := (some .int)) (hh := [(0, 10, 13, 13)]) (by decide) rfl ?_
  intro p e s m args below meth c s₁ B hml hv
  obtain ⟨rfl, hT, hsz, hP, hK, hD0⟩ := hv
  have hx := B.exec
  have hb := B.bytes
  have hr := B.returns
  have hts := atoms_spec (ws := wsL_separator) B.pre
  have hown : s.vm.findClass RL = some m.cls := findClass_of_methodNamed B.named
  have hlocks := B.notSynchronized
  have htab : c.exceptionTable.toList = tableOf [(0, 10, 13, 13)] := vx_table (x := yL_separator) B (hts _ List.mem_cons_self)
  subst hsz
  have hD := hD0.self (sz := s.heap.size)
  generalize hAe : va_A [(q, .inr (6, [.ref s0, .ref s1, .ref s2]))] s.heap.size = A at hD ⊢
  have hA : ∀ q : Nat, s.heap.size ≤ q → A q := fun q h => by rw [← hAe]; exact Or.inr h
  have hS : va_S A s.heap s.heap [] := va_S.rf
  have hP : va_P (dC, dI) vwCl [(q, .inr (6, [.ref s0, .ref s1, .ref s2]))] s.heap := hP
  have hl := lv_entry ([.ref q, .int v, .int w0, .ref oq]) (n := 5) (Nat.le_of_ble_eq_true rfl)
  rw [lg_entry_eq]
  generalize (lg_sl ([.ref q, .int v, .int w0, .ref oq]) ++ List.replicate (5 - (lg_sl ([.ref q, .int v, .int w0, .ref oq])).length) Slot.unset).toArray = ls at hl ⊢
  have hl : lv_has ls 5 [(0, .ref q), (1, .int v), (2, .int w0), (3, .ref oq)] := hl
  refine lv_aload_n hx hb dL_separator_0 rfl (lv_at hl 3 rfl) ?_
  refine lv_iconst (v := nI 0) hx hb dL_separator_1 (by decide +kernel) ?_
  refine lv_aload_n hx hb dL_separator_2 rfl (lv_at hl 0 rfl) ?_
  refine lv_iload_n hx hb dL_separator_3 rfl (lv_at hl 1 rfl) ?_
  refine lv_iload_n hx hb dL_separator_4 rfl (lv_at hl 2 rfl) ?_
  have hPc := hP.sub (ws' := [(q, .inr (6, [.ref s0, .ref s1, .ref s2]))]) [0] rfl
  have hKc := hK.sub (tys' := []) [] rfl
  have hDc := hD.sub (ws' := [(q, .inr (6, [.ref s0, .ref s1, .ref s2]))]) [0] (by decide) rfl
  refine vx_callv (vx_runV (As := [.int v, .int w0]) (rest := [.int (nI 0), .ref oq]) ⟨hx, hb, hml, hown, hts⟩ (x_X7_separator_s l hls dC dI q s0 s1 s2 v w0 sa s.heap.size (by first | assumption | omega)) (cwV 2 hts gL_separator_X7_separator rfl rfl rfl (by decide +kernel) ⟨Nat.le_of_ble_eq_true rfl, Nat.le_of_ble_eq_true rfl⟩) ⟨fun a U g mk q => by obtain ⟨q0, q1, qT, qP, qK, qD⟩ := q; exact ⟨q0, q1, TW.same (u := U) (U := U.calling g mk a) rfl qT, qP, va_K.moved (u := U) (U := U.calling g mk a) (Vm.Alike.refl U.vm) qK, qD⟩, va_recv hKc hPc (ci := 6) (q0 := 0) rfl rfl, fun U hU hW => ⟨rfl, by rw [hU], by rw [hU]; exact TW.warm hW hT, by rw [hU]; exact hPc, va_K.moved hW.alike hKc, hDc.weaken (fun _ _ _ _ => trivial)⟩⟩ rfl rfl hl.1 rfl (lv_room (Nat.le_of_ble_eq_true rfl)) dL_separator_5 ⟨Nat.le_of_ble_eq_true rfl, Nat.le_of_ble_eq_true rfl⟩) hS (fun q h9 h8 => absurd h8 (Nat.not_le_of_lt h9)) (fun q h8 => hA q (Nat.le_trans hS.1 h8)) (fun q h9 h8 => absurd h8 (Nat.not_le_of_lt h9)) (fun E9 ce9 q9 u9 t9 H locs ht9 hvm9 hu9 hE9 hz9 hk9 hS hce9 hcv9 hcl9 => ?_) (fun u9 t9 H9 l9 ht9 hvm9 hu9 hB9 hz9 hk9 hS9 => hu9.elim)
  subst hE9
  have hP := hP.kept (H1 := H) (fun k q hk => hk9 _ (vx_lt hP hk) (Nat.not_le_of_lt (vx_lt hP hk)))
  refine vx_catch (name := "java/lang/IndexOutOfBoundsException") hown [] ⟨0, 10, 13, 13⟩ [] (htab.trans rfl) (fun z hz => nomatch hz) rfl (by decide) (hts (.classLink RL 13 "java/lang/IndexOutOfBoundsException") (by decide +kernel)) (va_Nw.use rfl hT.2.2.2.2.2.2) hce9 hcv9 hcl9 ?_
  refine W.cs (cells' := 1) (slots' := 6) rfl rfl ?_
  refine lv_astore (lv' := [(4, .ref q9), (0, .ref q), (1, .int v), (2, .int w0), (3, .ref oq)]) hx hb dL_separator_13 hl (by decide) rfl (fun ls hl => ?_)
  refine lv_iconst (v := nI 1) hx hb dL_separator_15 (by decide +kernel) ?_
  have hP9 := hP.sub (ws' := [(q, .inr (6, [.ref s0, .ref s1, .ref s2]))]) [0] rfl
  have hD9 := hD.sub (ws' := [(q, .inr (6, [.ref s0, .ref s1, .ref s2]))]) [0] (by decide) rfl
  have hK9 := hK.sub (tys' := []) [] rfl
  exact W.iret (v := nI 1) hx hb hr (fun t9 ht hW => ⟨⟨nI 1, (), rfl, rfl, by rw [ht]; exact hP9, va_K.moved hW.alike hK9, hD9⟩, hS.F ht⟩) hS.2.2 dL_separator_16
set_option maxHeartbeats 4000000 in
set_option maxRecDepth 100000 in
/-- law: bucketSize, bucketSize_s -/
theorem c_L_bucketSize_s (l : Launch) (hls : l.stackTraces = false) (dC : Nat → ClassId) (dI : Nat → Nat → Nat) (q : Nat) (s0 : Nat) (s1 : Nat) (s2 : Nat) (v : Int32) (w0 : Int32) (oq : Nat) (sa : Nat) (sz : Nat) (hSf : isS v = false) : Met l yL_bucketSize wsL_bucketSize ({ frames := 8, cells := 1, slots := 6, locals := 126 }) (va_Pc [.ref q, .int v, .int w0, .ref oq] (fun U => TW "java/lang/IndexOutOfBoundsException" 148 "no such set" sa (fun q => sz ≤ q) U U.heap ∧ U.heap.size = sz ∧ va_P (dC, dI) vwCl [(q, .inr (6, [.ref s0, .ref s1, .ref s2]))] U.heap ∧ va_K (dC, dI) vwCl [] U ∧ va_D (fun _ => True) [(q, .inr (6, [.ref s0, .ref s1, .ref s2]))])) (va_Qi (fun (r : Int32) (u : Unit) => r = nI 1) (fun (u : Unit) (t : State) => va_P (dC, dI) vwCl [(q, .inr (6, [.ref s0, .ref s1, .ref s2]))] t.heap ∧ va_K (dC, dI) vwCl [] t ∧ va_D (va_A [(q, .inr (6, [.ref s0, .ref s1, .ref s2]))] sz) [(q, .inr (6, [.ref s0, .ref s1, .ref s2]))]) (va_A [(q, .inr (6, [.ref s0, .ref s1, .ref s2]))] sz)) 1 6 (va_A [(q, .inr (6, [.ref s0, .ref s1, .ref s2]))] sz) := by
  refine va_MetW (cc := cL_bucketSize) (maxL := 5) (ret := (some .int)) (hh := [(0, 10, 13, 13)]) (by decide) rfl ?_
  intro p e s m args below meth c s₁ B hml hv
  obtain ⟨rfl, hT, hsz, hP, hK, hD0⟩ := hv
  have hx := B.exec
  have hb := B.bytes
  have hr := B.returns
  have hts := atoms_spec (ws := wsL_bucketSize) B.pre
  have hown : s.vm.findClass RL = some m.cls := findClass_of_methodNamed B.named
  have hlocks := B.notSynchronized
  have htab : c.exceptionTable.toList = tableOf [(0, 10, 13, 13)] := vx_table (x := yL_bucketSize) B (hts _ List.mem_cons_self)
  subst hsz
  have hD := hD0.self (sz := s.heap.size)
  generalize hAe : va_A [(q, .inr (6, [.ref s0, .ref s1, .ref s2]))] s.heap.size = A at hD ⊢
  have hA : ∀ q : Nat, s.heap.size ≤ q → A q := fun q h => by rw [← hAe]; exact Or.inr h
  have hS : va_S A s.heap s.heap [] := va_S.rf
  have hP : va_P (dC, dI) vwCl [(q, .inr (6, [.ref s0, .ref s1, .ref s2]))] s.heap := hP
  have hl := lv_entry ([.ref q, .int v, .int w0, .ref oq]) (n := 5) (Nat.le_of_ble_eq_true rfl)
  rw [lg_entry_eq]
  generalize (lg_sl ([.ref q, .int v, .int w0, .ref oq]) ++ List.replicate (5 - (lg_sl ([.ref q, .int v, .int w0, .ref oq])).length) Slot.unset).toArray = ls at hl ⊢
  have hl : lv_has ls 5 [(0, .ref q), (1, .int v), (2, .int w0), (3, .ref oq)] := hl
  refine lv_aload_n hx hb dL_bucketSize_0 rfl (lv_at hl 3 rfl) ?_
  refine lv_iconst (v := nI 0) hx hb dL_bucketSize_1 (by decide +kernel) ?_
  refine lv_aload_n hx hb dL_bucketSize_2 rfl (lv_at hl 0 rfl) ?_
  refine lv_iload_n hx hb dL_bucketSize_3 rfl (lv_at hl 1 rfl) ?_
  refine lv_iload_n hx hb dL_bucketSize_4 rfl (lv_at hl 2 rfl) ?_
  have hPc := hP.sub (ws' := [(q, .inr (6, [.ref s0, .ref s1, .ref s2]))]) [0] rfl
  have hKc := hK.sub (tys' := []) [] rfl
  have hDc := hD.sub (ws' := [(q, .inr (6, [.ref s0, .ref s1, .ref s2]))]) [0] (by decide) rfl
  refine vx_callv (vx_runV (As := [.int v, .int w0]) (rest := [.int (nI 0), .ref oq]) ⟨hx, hb, hml, hown, hts⟩ (x_X7_bucketSize_s l hls dC dI q s0 s1 s2 v w0 sa s.heap.size (by first | assumption | omega)) (cwV 2 hts gL_bucketSize_X7_bucketSize rfl rfl rfl (by decide +kernel) ⟨Nat.le_of_ble_eq_true rfl, Nat.le_of_ble_eq_true rfl⟩) ⟨fun a U g mk q => by obtain ⟨q0, q1, qT, qP, qK, qD⟩ := q; exact ⟨q0, q1, TW.same (u := U) (U := U.calling g mk a) rfl qT, qP, va_K.moved (u := U) (U := U.calling g mk a) (Vm.Alike.refl U.vm) qK, qD⟩, va_recv hKc hPc (ci := 6) (q0 := 0) rfl rfl, fun U hU hW => ⟨rfl, by rw [hU], by rw [hU]; exact TW.warm hW hT, by rw [hU]; exact hPc, va_K.moved hW.alike hKc, hDc.weaken (fun _ _ _ _ => trivial)⟩⟩ rfl rfl hl.1 rfl (lv_room (Nat.le_of_ble_eq_true rfl)) dL_bucketSize_5 ⟨Nat.le_of_ble_eq_true rfl, Nat.le_of_ble_eq_true rfl⟩) hS (fun q h9 h8 => absurd h8 (Nat.not_le_of_lt h9)) (fun q h8 => hA q (Nat.le_trans hS.1 h8)) (fun q h9 h8 => absurd h8 (Nat.not_le_of_lt h9)) (fun E9 ce9 q9 u9 t9 H locs ht9 hvm9 hu9 hE9 hz9 hk9 hS hce9 hcv9 hcl9 => ?_) (fun u9 t9 H9 l9 ht9 hvm9 hu9 hB9 hz9 hk9 hS9 => hu9.elim)
  subst hE9
  have hP := hP.kept (H1 := H) (fun k q hk => hk9 _ (vx_lt hP hk) (Nat.not_le_of_lt (vx_lt hP hk)))
  refine vx_catch (name := "java/lang/IndexOutOfBoundsException") hown [] ⟨0, 10, 13, 13⟩ [] (htab.trans rfl) (fun z hz => nomatch hz) rfl (by decide) (hts (.classLink RL 13 "java/lang/IndexOutOfBoundsException") (by decide +kernel)) (va_Nw.use rfl hT.2.2.2.2.2.2) hce9 hcv9 hcl9 ?_
  refine W.cs (cells' := 1) (slots' := 6) rfl rfl ?_
  refine lv_astore (lv' := [(4, .ref q9), (0, .ref q), (1, .int v), (2, .int w0), (3, .ref oq)]) hx hb dL_bucketSize_13 hl (by decide) rfl (fun ls hl => ?_)
  refine lv_iconst (v := nI 1) hx hb dL_bucketSize_15 (by decide +kernel) ?_
  have hP9 := hP.sub (ws' := [(q, .inr (6, [.ref s0, .ref s1, .ref s2]))]) [0] rfl
  have hD9 := hD.sub (ws' := [(q, .inr (6, [.ref s0, .ref s1, .ref s2]))]) [0] (by decide) rfl
  have hK9 := hK.sub (tys' := []) [] rfl
  exact W.iret (v := nI 1) hx hb hr (fun t9 ht hW => ⟨⟨nI 1, (), rfl, rfl, by rw [ht]; exact hP9, va_K.moved hW.alike hK9, hD9⟩, hS.F ht⟩) hS.2.2 dL_bucketSize_16
set_option maxHeartbeats 4000000 in
set_option maxRecDepth 100000 in
/-- law: bucketOf, bucketOf_s -/
theorem c_L_bucketOf_s (l : Launch) (hls : l.stackTraces = false) (dC : Nat → ClassId) (dI : Nat → Nat → Nat) (q : Nat) (s0 : Nat) (s1 : Nat) (s2 : Nat) (v : Int32) (w0 : Int32) (oq : Nat) (sa : Nat) (sz : Nat) (hSf : isS v = false) : Met l yL_bucketOf wsL_bucketOf ({ frames := 8, cells := 1, slots := 6, locals := 126 }) (va_Pc [.ref q, .int v, .int w0, .ref oq] (fun U => TW "java/lang/IndexOutOfBoundsException" 148 "no such set" sa (fun q => sz ≤ q) U U.heap ∧ U.heap.size = sz ∧ va_P (dC, dI) vwCl [(q, .inr (6, [.ref s0, .ref s1, .ref s2]))] U.heap ∧ va_K (dC, dI) vwCl [] U ∧ va_D (fun _ => True) [(q, .inr (6, [.ref s0, .ref s1, .ref s2]))])) (va_Qi (fun (r : Int32) (u : Unit) => r = nI 1) (fun (u : Unit) (t : State) => va_P (dC, dI) vwCl [(q, .inr (6, [.ref s0, .ref s1, .ref s2]))] t.heap ∧ va_K (dC, dI) vwCl [] t ∧ va_D (va_A [(q, .inr (6, [.ref s0, .ref s1, .ref s2]))] sz) [(q, .inr (6, [.ref s0, .ref s1, .ref s2]))]) (va_A [(q, .inr (6, [.ref s0, .ref s1, .ref s2]))] sz)) 1 6 (va_A [(q, .inr (6, [.ref s0, .ref s1, .ref s2]))] sz) := by
  refine va_MetW (cc := cL_bucketOf) (maxL := 5) (ret := (some .int)) (hh := [(0, 10, 13, 13), (0, 10, 17, 15)]) (by decide) rfl ?_
  intro p e s m args below meth c s₁ B hml hv
  obtain ⟨rfl, hT, hsz, hP, hK, hD0⟩ := hv
  have hx := B.exec
  have hb := B.bytes
  have hr := B.returns
  have hts := atoms_spec (ws := wsL_bucketOf) B.pre
  have hown : s.vm.findClass RL = some m.cls := findClass_of_methodNamed B.named
  have hlocks := B.notSynchronized
  have htab : c.exceptionTable.toList = tableOf [(0, 10, 13, 13), (0, 10, 17, 15)] := vx_table (x := yL_bucketOf) B (hts _ List.mem_cons_self)
  subst hsz
  have hD := hD0.self (sz := s.heap.size)
  generalize hAe : va_A [(q, .inr (6, [.ref s0, .ref s1, .ref s2]))] s.heap.size = A at hD ⊢
  have hA : ∀ q : Nat, s.heap.size ≤ q → A q := fun q h => by rw [← hAe]; exact Or.inr h
  have hS : va_S A s.heap s.heap [] := va_S.rf
  have hP : va_P (dC, dI) vwCl [(q, .inr (6, [.ref s0, .ref s1, .ref s2]))] s.heap := hP
  have hl := lv_entry ([.ref q, .int v, .int w0, .ref oq]) (n := 5) (Nat.le_of_ble_eq_true rfl)
  rw [lg_entry_eq]
  generalize (lg_sl ([.ref q, .int v, .int w0, .ref oq]) ++ List.replicate (5 - (lg_sl ([.ref q, .int v, .int w0, .ref oq])).length) Slot.unset).toArray = ls at hl ⊢
  have hl : lv_has ls 5 [(0, .ref q), (1, .int v), (2, .int w0), (3, .ref oq)] := hl
  refine lv_aload_n hx hb dL_bucketOf_0 rfl (lv_at hl 3 rfl) ?_
  refine lv_iconst (v := nI 0) hx hb dL_bucketOf_1 (by decide +kernel) ?_
  refine lv_aload_n hx hb dL_bucketOf_2 rfl (lv_at hl 0 rfl) ?_
  refine lv_iload_n hx hb dL_bucketOf_3 rfl (lv_at hl 1 rfl) ?_
  refine lv_iload_n hx hb dL_bucketOf_4 rfl (lv_at hl 2 rfl) ?_
  have hPc := hP.sub (ws' := [(q, .inr (6, [.ref s0, .ref s1, .ref s2]))]) [0] rfl
  have hKc := hK.sub (tys' := []) [] rfl
  have hDc := hD.sub (ws' := [(q, .inr (6, [.ref s0, .ref s1, .ref s2]))]) [0] (by decide) rfl
  refine vx_callv (vx_runV (As := [.int v, .int w0]) (rest := [.int (nI 0), .ref oq]) ⟨hx, hb, hml, hown, hts⟩ (x_X7_bucketOf_s l hls dC dI q s0 s1 s2 v w0 sa s.heap.size (by first | assumption | omega)) (cwV 2 hts gL_bucketOf_X7_bucketOf rfl rfl rfl (by decide +kernel) ⟨Nat.le_of_ble_eq_true rfl, Nat.le_of_ble_eq_true rfl⟩) ⟨fun a U g mk q => by obtain ⟨q0, q1, qT, qP, qK, qD⟩ := q; exact ⟨q0, q1, TW.same (u := U) (U := U.calling g mk a) rfl qT, qP, va_K.moved (u := U) (U := U.calling g mk a) (Vm.Alike.refl U.vm) qK, qD⟩, va_recv hKc hPc (ci := 6) (q0 := 0) rfl rfl, fun U hU hW => ⟨rfl, by rw [hU], by rw [hU]; exact TW.warm hW hT, by rw [hU]; exact hPc, va_K.moved hW.alike hKc, hDc.weaken (fun _ _ _ _ => trivial)⟩⟩ rfl rfl hl.1 rfl (lv_room (Nat.le_of_ble_eq_true rfl)) dL_bucketOf_5 ⟨Nat.le_of_ble_eq_true rfl, Nat.le_of_ble_eq_true rfl⟩) hS (fun q h9 h8 => absurd h8 (Nat.not_le_of_lt h9)) (fun q h8 => hA q (Nat.le_trans hS.1 h8)) (fun q h9 h8 => absurd h8 (Nat.not_le_of_lt h9)) (fun E9 ce9 q9 u9 t9 H locs ht9 hvm9 hu9 hE9 hz9 hk9 hS hce9 hcv9 hcl9 => ?_) (fun u9 t9 H9 l9 ht9 hvm9 hu9 hB9 hz9 hk9 hS9 => hu9.elim)
  subst hE9
  have hP := hP.kept (H1 := H) (fun k q hk => hk9 _ (vx_lt hP hk) (Nat.not_le_of_lt (vx_lt hP hk)))
  refine vx_catch (name := "java/lang/IndexOutOfBoundsException") hown [] ⟨0, 10, 13, 13⟩ [⟨0, 10, 17, 15⟩] (htab.trans rfl) (fun z hz => nomatch hz) rfl (by decide) (hts (.classLink RL 13 "java/lang/IndexOutOfBoundsException") (by decide +kernel)) (va_Nw.use rfl hT.2.2.2.2.2.2) hce9 hcv9 hcl9 ?_
  refine W.cs (cells' := 1) (slots' := 6) rfl rfl ?_
  refine lv_astore (lv' := [(4, .ref q9), (0, .ref q), (1, .int v), (2, .int w0), (3, .ref oq)]) hx hb dL_bucketOf_13 hl (by decide) rfl (fun ls hl => ?_)
  refine lv_iconst (v := nI 1) hx hb dL_bucketOf_15 (by decide +kernel) ?_
  have hP9 := hP.sub (ws' := [(q, .inr (6, [.ref s0, .ref s1, .ref s2]))]) [0] rfl
  have hD9 := hD.sub (ws' := [(q, .inr (6, [.ref s0, .ref s1, .ref s2]))]) [0] (by decide) rfl
  have hK9 := hK.sub (tys' := []) [] rfl
  exact W.iret (v := nI 1) hx hb hr (fun t9 ht hW => ⟨⟨nI 1, (), rfl, rfl, by rw [ht]; exact hP9, va_K.moved hW.alike hK9, hD9⟩, hS.F ht⟩) hS.2.2 dL_bucketOf_16
set_option maxHeartbeats 4000000 in
set_option maxRecDepth 100000 in
/-- law: insert, insert_n0 -/
theorem c_L_insert_n0 (l : Launch) (hls : l.stackTraces = false) (dC : Nat → ClassId) (dI : Nat → Nat → Nat) (q : Nat) (s0 : Nat) (s1 : Nat) (s2 : Nat) (w : Int32) (oq : Nat) (sa : Nat) (sz : Nat) (hW : isN w = false) : Met l yL_insert wsL_insert ({ frames := 8, cells := 1, slots := 6, locals := 125 }) (va_Pc [.ref q, .int (nI 0), .int w, .ref oq] (fun U => TW "java/lang/IllegalArgumentException" 153 "the number is out of range" sa (fun q => sz ≤ q) U U.heap ∧ va_Nc "java/lang/IllegalArgumentException" "java/lang/IndexOutOfBoundsException" U ∧ U.heap.size = sz ∧ va_P (dC, dI) vwCl [(q, .inr (6, [.ref s0, .ref s1, .ref s2]))] U.heap ∧ va_K (dC, dI) vwCl [] U ∧ va_D (fun _ => True) [(q, .inr (6, [.ref s0, .ref s1, .ref s2]))])) (va_Qi (fun (r : Int32) (u : Unit) => r = nI 2) (fun (u : Unit) (t : State) => va_P (dC, dI) vwCl [(q, .inr (6, [.ref s0, .ref s1, .ref s2]))] t.heap ∧ va_K (dC, dI) vwCl [] t ∧ va_D (va_A [(q, .inr (6, [.ref s0, .ref s1, .ref s2]))] sz) [(q, .inr (6, [.ref s0, .ref s1, .ref s2]))]) (va_A [(q, .inr (6, [.ref s0, .ref s1, .ref s2]))] sz)) 1 6 (va_A [(q, .inr (6, [.ref s0, .ref s1, .ref s2]))] sz) := by
  refine va_MetW (cc := cL_insert) (maxL := 5) (ret := (some .int)) (hh := [(0, 17, 20, 13), (0, 17, 24, 15)]) (by decide) rfl ?_
  intro p e s m args below meth c s₁ B hml hv
  obtain ⟨rfl, hT, hNc0, hsz, hP, hK, hD0⟩ := hv
  have hx := B.exec
  have hb := B.bytes
  have hr := B.returns
  have hts := atoms_spec (ws := wsL_insert) B.pre
  have hown : s.vm.findClass RL = some m.cls := findClass_of_methodNamed B.named
  have hlocks := B.notSynchronized
  have htab : c.exceptionTable.toList = tableOf [(0, 17, 20, 13), (0, 17, 24, 15)] := vx_table (x := yL_insert) B (hts _ List.mem_cons_self)
  subst hsz
  have hD := hD0.self (sz := s.heap.size)
  generalize hAe : va_A [(q, .inr (6, [.ref s0, .ref s1, .ref s2]))] s.heap.size = A at hD ⊢
  have hA : ∀ q : Nat, s.heap.size ≤ q → A q := fun q h => by rw [← hAe]; exact Or.inr h
  have hS : va_S A s.heap s.heap [] := va_S.rf
  have hP : va_P (dC, dI) vwCl [(q, .inr (6, [.ref s0, .ref s1, .ref s2]))] s.heap := hP
  have hl := lv_entry ([.ref q, .int (nI 0), .int w, .ref oq]) (n := 5) (Nat.le_of_ble_eq_true rfl)
  rw [lg_entry_eq]
  generalize (lg_sl ([.ref q, .int (nI 0), .int w, .ref oq]) ++ List.replicate (5 - (lg_sl ([.ref q, .int (nI 0), .int w, .ref oq])).length) Slot.unset).toArray = ls at hl ⊢
  have hl : lv_has ls 5 [(0, .ref q), (1, .int (nI 0)), (2, .int w), (3, .ref oq)] := hl
  refine lv_aload_n hx hb dL_insert_0 rfl (lv_at hl 3 rfl) ?_
  refine lv_iconst (v := nI 0) hx hb dL_insert_1 (by decide +kernel) ?_
  refine lv_aload_n hx hb dL_insert_2 rfl (lv_at hl 0 rfl) ?_
  refine lv_iload_n hx hb dL_insert_3 rfl (lv_at hl 1 rfl) ?_
  refine lv_iload_n hx hb dL_insert_4 rfl (lv_at hl 2 rfl) ?_
  have hPc := hP.sub (ws' := [(q, .inr (6, [.ref s0, .ref s1, .ref s2]))]) [0] rfl
  have hKc := hK.sub (tys' := []) [] rfl
  have hDc := hD.sub (ws' := [(q, .inr (6, [.ref s0, .ref s1, .ref s2]))]) [0] (by decide) rfl
  refine vx_callv (vx_runV (As := [.int (nI 0), .int w]) (rest := [.int (nI 0), .ref oq]) ⟨hx, hb, hml, hown, hts⟩ (x_X7_insert_n0 l hls dC dI q s0 s1 s2 w sa s.heap.size (by first | assumption | omega)) (cwV 2 hts gL_insert_X7_insert rfl rfl rfl (by decide +kernel) ⟨Nat.le_of_ble_eq_true rfl, Nat.le_of_ble_eq_true rfl⟩) ⟨fun a U g mk q => by obtain ⟨q0, q1, qT, qP, qK, qD⟩ := q; exact ⟨q0, q1, TW.same (u := U) (U := U.calling g mk a) rfl qT, qP, va_K.moved (u := U) (U := U.calling g mk a) (Vm.Alike.refl U.vm) qK, qD⟩, va_recv hKc hPc (ci := 6) (q0 := 0) rfl rfl, fun U hU hW => ⟨rfl, by rw [hU], by rw [hU]; exact TW.warm hW hT, by rw [hU]; exact hPc, va_K.moved hW.alike hKc, hDc.weaken (fun _ _ _ _ => trivial)⟩⟩ rfl rfl hl.1 rfl (lv_room (Nat.le_of_ble_eq_true rfl)) dL_insert_5 ⟨Nat.le_of_ble_eq_true rfl, Nat.le_of_ble_eq_true rfl⟩) hS (fun q h9 h8 => absurd h8 (Nat.not_le_of_lt h9)) (fun q h8 => hA q (Nat.le_trans hS.1 h8)) (fun q h9 h8 => absurd h8 (Nat.not_le_of_lt h9)) (fun E9 ce9 q9 u9 t9 H locs ht9 hvm9 hu9 hE9 hz9 hk9 hS hce9 hcv9 hcl9 => ?_) (fun u9 t9 H9 l9 ht9 hvm9 hu9 hB9 hz9 hk9 hS9 => hu9.elim)
  subst hE9
  have hP := hP.kept (H1 := H) (fun k q hk => hk9 _ (vx_lt hP hk) (Nat.not_le_of_lt (vx_lt hP hk)))
  refine vx_catch (name := "java/lang/IllegalArgumentException") hown [⟨0, 17, 20, 13⟩] ⟨0, 17, 24, 15⟩ [] (htab.trans rfl) (fun z hz => by rcases List.mem_cons.mp hz with rfl | hz; exact Or.inr ⟨by decide, "java/lang/IndexOutOfBoundsException", hts (.classLink RL 13 "java/lang/IndexOutOfBoundsException") (by decide +kernel), hNc0⟩; exact nomatch hz) rfl (by decide) (hts (.classLink RL 15 "java/lang/IllegalArgumentException") (by decide +kernel)) (va_Nw.use rfl hT.2.2.2.2.2.2) hce9 hcv9 hcl9 ?_
  refine W.cs (cells' := 1) (slots' := 6) rfl rfl ?_
  refine lv_astore (lv' := [(4, .ref q9), (0, .ref q), (1, .int (nI 0)), (2, .int w), (3, .ref oq)]) hx hb dL_insert_24 hl (by decide) rfl (fun ls hl => ?_)
  refine lv_iconst (v := nI 2) hx hb dL_insert_26 (by decide +kernel) ?_
  have hP9 := hP.sub (ws' := [(q, .inr (6, [.ref s0, .ref s1, .ref s2]))]) [0] rfl
  have hD9 := hD.sub (ws' := [(q, .inr (6, [.ref s0, .ref s1, .ref s2]))]) [0] (by decide) rfl
  have hK9 := hK.sub (tys' := []) [] rfl
  exact W.iret (v := nI 2) hx hb hr (fun t9 ht hW => ⟨⟨nI 2, (), rfl, rfl, by rw [ht]; exact hP9, va_K.moved hW.alike hK9, hD9⟩, hS.F ht⟩) hS.2.2 dL_insert_27
set_option maxHeartbeats 4000000 in
set_option maxRecDepth 100000 in
/-- law: delete, delete_n0 -/
theorem c_L_delete_n0 (l : Launch) (hls : l.stackTraces = false) (dC : Nat → ClassId) (dI : Nat → Nat → Nat) (q : Nat) (s0 : Nat) (s1 : Nat) (s2 : Nat) (w : Int32) (oq : Nat) (sa : Nat) (sz : Nat) (hW : isN w = false) : Met l yL_delete wsL_delete ({ frames := 8, cells := 1, slots := 6, locals := 125 }) (va_Pc [.ref q, .int (nI 0), .int w, .ref oq] (fun U => TW "java/lang/IllegalArgumentException" 153 "the number is out of range" sa (fun q => sz ≤ q) U U.heap ∧ va_Nc "java/lang/IllegalArgumentException" "java/lang/IndexOutOfBoundsException" U ∧ U.heap.size = sz ∧ va_P (dC, dI) vwCl [(q, .inr (6, [.ref s0, .ref s1, .ref s2]))] U.heap ∧ va_K (dC, dI) vwCl [] U ∧ va_D (fun _ => True) [(q, .inr (6, [.ref s0, .ref s1, .ref s2]))])) (va_Qi (fun (r : Int32) (u : Unit) => r = nI 2) (fun (u : Unit) (t : State) => va_P (dC, dI) vwCl [(q, .inr (6, [.ref s0, .ref s1, .ref s2]))] t.heap ∧ va_K (dC, dI) vwCl [] t ∧ va_D (va_A [(q, .inr (6, [.ref s0, .ref s1, .ref s2]))] sz) [(q, .inr (6, [.ref s0, .ref s1, .ref s2]))]) (va_A [(q, .inr (6, [.ref s0, .ref s1, .ref s2]))] sz)) 1 6 (va_A [(q, .inr (6, [.ref s0, .ref s1, .ref s2]))] sz) := by
  refine va_MetW (cc := cL_delete) (maxL := 5) (ret := (some .int)) (hh := [(0, 17, 20, 13), (0, 17, 24, 15)]) (by decide) rfl ?_
  intro p e s m args below meth c s₁ B hml hv
  obtain ⟨rfl, hT, hNc0, hsz, hP, hK, hD0⟩ := hv
  have hx := B.exec
  have hb := B.bytes
  have hr := B.returns
  have hts := atoms_spec (ws := wsL_delete) B.pre
  have hown : s.vm.findClass RL = some m.cls := findClass_of_methodNamed B.named
  have hlocks := B.notSynchronized
  have htab : c.exceptionTable.toList = tableOf [(0, 17, 20, 13), (0, 17, 24, 15)] := vx_table (x := yL_delete) B (hts _ List.mem_cons_self)
  subst hsz
  have hD := hD0.self (sz := s.heap.size)
  generalize hAe : va_A [(q, .inr (6, [.ref s0, .ref s1, .ref s2]))] s.heap.size = A at hD ⊢
  have hA : ∀ q : Nat, s.heap.size ≤ q → A q := fun q h => by rw [← hAe]; exact Or.inr h
  have hS : va_S A s.heap s.heap [] := va_S.rf
  have hP : va_P (dC, dI) vwCl [(q, .inr (6, [.ref s0, .ref s1, .ref s2]))] s.heap := hP
  have hl := lv_entry ([.ref q, .int (nI 0), .int w, .ref oq]) (n := 5) (Nat.le_of_ble_eq_true rfl)
  rw [lg_entry_eq]
  generalize (lg_sl ([.ref q, .int (nI 0), .int w, .ref oq]) ++ List.replicate (5 - (lg_sl ([.ref q, .int (nI 0), .int w, .ref oq])).length) Slot.unset).toArray = ls at hl ⊢
  have hl : lv_has ls 5 [(0, .ref q), (1, .int (nI 0)), (2, .int w), (3, .ref oq)] := hl
  refine lv_aload_n hx hb dL_delete_0 rfl (lv_at hl 3 rfl) ?_
  refine lv_iconst (v := nI 0) hx hb dL_delete_1 (by decide +kernel) ?_
  refine lv_aload_n hx hb dL_delete_2 rfl (lv_at hl 0 rfl) ?_
  refine lv_iload_n hx hb dL_delete_3 rfl (lv_at hl 1 rfl) ?_
  refine lv_iload_n hx hb dL_delete_4 rfl (lv_at hl 2 rfl) ?_
  have hPc := hP.sub (ws' := [(q, .inr (6, [.ref s0, .ref s1, .ref s2]))]) [0] rfl
  have hKc := hK.sub (tys' := []) [] rfl
  have hDc := hD.sub (ws' := [(q, .inr (6, [.ref s0, .ref s1, .ref s2]))]) [0] (by decide) rfl
  refine vx_callv (vx_runV (As := [.int (nI 0), .int w]) (rest := [.int (nI 0), .ref oq]) ⟨hx, hb, hml, hown, hts⟩ (x_X7_delete_n0 l hls dC dI q s0 s1 s2 w sa s.heap.size (by first | assumption | omega)) (cwV 2 hts gL_delete_X7_delete rfl rfl rfl (by decide +kernel) ⟨Nat.le_of_ble_eq_true rfl, Nat.le_of_ble_eq_true rfl⟩) ⟨fun a U g mk q => by obtain ⟨q0, q1, qT, qP, qK, qD⟩ := q; exact ⟨q0, q1, TW.same (u := U) (U := U.calling g mk a) rfl qT, qP, va_K.moved (u := U) (U := U.calling g mk a) (Vm.Alike.refl U.vm) qK, qD⟩, va_recv hKc hPc (ci := 6) (q0 := 0) rfl rfl, fun U hU hW => ⟨rfl, by rw [hU], by rw [hU]; exact TW.warm hW hT, by rw [hU]; exact hPc, va_K.moved hW.alike hKc, hDc.weaken (fun _ _ _ _ => trivial)⟩⟩ rfl rfl hl.1 rfl (lv_room (Nat.le_of_ble_eq_true rfl)) dL_delete_5 ⟨Nat.le_of_ble_eq_true rfl, Nat.le_of_ble_eq_true rfl⟩) hS (fun q h9 h8 => absurd h8 (Nat.not_le_of_lt h9)) (fun q h8 => hA q (Nat.le_trans hS.1 h8)) (fun q h9 h8 => absurd h8 (Nat.not_le_of_lt h9)) (fun E9 ce9 q9 u9 t9 H locs ht9 hvm9 hu9 hE9 hz9 hk9 hS hce9 hcv9 hcl9 => ?_) (fun u9 t9 H9 l9 ht9 hvm9 hu9 hB9 hz9 hk9 hS9 => hu9.elim)
  subst hE9
  have hP := hP.kept (H1 := H) (fun k q hk => hk9 _ (vx_lt hP hk) (Nat.not_le_of_lt (vx_lt hP hk)))
  refine vx_catch (name := "java/lang/IllegalArgumentException") hown [⟨0, 17, 20, 13⟩] ⟨0, 17, 24, 15⟩ [] (htab.trans rfl) (fun z hz => by rcases List.mem_cons.mp hz with rfl | hz; exact Or.inr ⟨by decide, "java/lang/IndexOutOfBoundsException", hts (.classLink RL 13 "java/lang/IndexOutOfBoundsException") (by decide +kernel), hNc0⟩; exact nomatch hz) rfl (by decide) (hts (.classLink RL 15 "java/lang/IllegalArgumentException") (by decide +kernel)) (va_Nw.use rfl hT.2.2.2.2.2.2) hce9 hcv9 hcl9 ?_
  refine W.cs (cells' := 1) (slots' := 6) rfl rfl ?_
  refine lv_astore (lv' := [(4, .ref q9), (0, .ref q), (1, .int (nI 0)), (2, .int w), (3, .ref oq)]) hx hb dL_delete_24 hl (by decide) rfl (fun ls hl => ?_)
  refine lv_iconst (v := nI 2) hx hb dL_delete_26 (by decide +kernel) ?_
  have hP9 := hP.sub (ws' := [(q, .inr (6, [.ref s0, .ref s1, .ref s2]))]) [0] rfl
  have hD9 := hD.sub (ws' := [(q, .inr (6, [.ref s0, .ref s1, .ref s2]))]) [0] (by decide) rfl
  have hK9 := hK.sub (tys' := []) [] rfl
  exact W.iret (v := nI 2) hx hb hr (fun t9 ht hW => ⟨⟨nI 2, (), rfl, rfl, by rw [ht]; exact hP9, va_K.moved hW.alike hK9, hD9⟩, hS.F ht⟩) hS.2.2 dL_delete_27
set_option maxHeartbeats 4000000 in
set_option maxRecDepth 100000 in
/-- law: contains, contains_n0 -/
theorem c_L_contains_n0 (l : Launch) (hls : l.stackTraces = false) (dC : Nat → ClassId) (dI : Nat → Nat → Nat) (q : Nat) (s0 : Nat) (s1 : Nat) (s2 : Nat) (w : Int32) (oq : Nat) (sa : Nat) (sz : Nat) (hW : isN w = false) : Met l yL_contains wsL_contains ({ frames := 8, cells := 1, slots := 6, locals := 125 }) (va_Pc [.ref q, .int (nI 0), .int w, .ref oq] (fun U => TW "java/lang/IllegalArgumentException" 153 "the number is out of range" sa (fun q => sz ≤ q) U U.heap ∧ va_Nc "java/lang/IllegalArgumentException" "java/lang/IndexOutOfBoundsException" U ∧ U.heap.size = sz ∧ va_P (dC, dI) vwCl [(q, .inr (6, [.ref s0, .ref s1, .ref s2]))] U.heap ∧ va_K (dC, dI) vwCl [] U ∧ va_D (fun _ => True) [(q, .inr (6, [.ref s0, .ref s1, .ref s2]))])) (va_Qi (fun (r : Int32) (u : Unit) => r = nI 2) (fun (u : Unit) (t : State) => va_P (dC, dI) vwCl [(q, .inr (6, [.ref s0, .ref s1, .ref s2]))] t.heap ∧ va_K (dC, dI) vwCl [] t ∧ va_D (va_A [(q, .inr (6, [.ref s0, .ref s1, .ref s2]))] sz) [(q, .inr (6, [.ref s0, .ref s1, .ref s2]))]) (va_A [(q, .inr (6, [.ref s0, .ref s1, .ref s2]))] sz)) 1 6 (va_A [(q, .inr (6, [.ref s0, .ref s1, .ref s2]))] sz) := by
  refine va_MetW (cc := cL_contains) (maxL := 5) (ret := (some .int)) (hh := [(0, 17, 20, 13), (0, 17, 24, 15)]) (by decide) rfl ?_
  intro p e s m args below meth c s₁ B hml hv
  obtain ⟨rfl, hT, hNc0, hsz, hP, hK, hD0⟩ := hv
  have hx := B.exec
  have hb := B.bytes
  have hr := B.returns
  have hts := atoms_spec (ws := wsL_contains) B.pre
  have hown : s.vm.findClass RL = some m.cls := findClass_of_methodNamed B.named
  have hlocks := B.notSynchronized
  have htab : c.exceptionTable.toList = tableOf [(0, 17, 20, 13), (0, 17, 24, 15)] := vx_table (x := yL_contains) B (hts _ List.mem_cons_self)
  subst hsz
  have hD := hD0.self (sz := s.heap.size)
  generalize hAe : va_A [(q, .inr (6, [.ref s0, .ref s1, .ref s2]))] s.heap.size = A at hD ⊢
  have hA : ∀ q : Nat, s.heap.size ≤ q → A q := fun q h => by rw [← hAe]; exact Or.inr h
  have hS : va_S A s.heap s.heap [] := va_S.rf
  have hP : va_P (dC, dI) vwCl [(q, .inr (6, [.ref s0, .ref s1, .ref s2]))] s.heap := hP
  have hl := lv_entry ([.ref q, .int (nI 0), .int w, .ref oq]) (n := 5) (Nat.le_of_ble_eq_true rfl)
  rw [lg_entry_eq]
  generalize (lg_sl ([.ref q, .int (nI 0), .int w, .ref oq]) ++ List.replicate (5 - (lg_sl ([.ref q, .int (nI 0), .int w, .ref oq])).length) Slot.unset).toArray = ls at hl ⊢
  have hl : lv_has ls 5 [(0, .ref q), (1, .int (nI 0)), (2, .int w), (3, .ref oq)] := hl
  refine lv_aload_n hx hb dL_contains_0 rfl (lv_at hl 3 rfl) ?_
  refine lv_iconst (v := nI 0) hx hb dL_contains_1 (by decide +kernel) ?_
  refine lv_aload_n hx hb dL_contains_2 rfl (lv_at hl 0 rfl) ?_
  refine lv_iload_n hx hb dL_contains_3 rfl (lv_at hl 1 rfl) ?_
  refine lv_iload_n hx hb dL_contains_4 rfl (lv_at hl 2 rfl) ?_
  have hPc := hP.sub (ws' := [(q, .inr (6, [.ref s0, .ref s1, .ref s2]))]) [0] rfl
  have hKc := hK.sub (tys' := []) [] rfl
  have hDc := hD.sub (ws' := [(q, .inr (6, [.ref s0, .ref s1, .ref s2]))]) [0] (by decide) rfl
  refine vx_callv (vx_runV (As := [.int (nI 0), .int w]) (rest := [.int (nI 0), .ref oq]) ⟨hx, hb, hml, hown, hts⟩ (x_X7_contains_n0 l hls dC dI q s0 s1 s2 w sa s.heap.size (by first | assumption | omega)) (cwV 2 hts gL_contains_X7_contains rfl rfl rfl (by decide +kernel) ⟨Nat.le_of_ble_eq_true rfl, Nat.le_of_ble_eq_true rfl⟩) ⟨fun a U g mk q => by obtain ⟨q0, q1, qT, qP, qK, qD⟩ := q; exact ⟨q0, q1, TW.same (u := U) (U := U.calling g mk a) rfl qT, qP, va_K.moved (u := U) (U := U.calling g mk a) (Vm.Alike.refl U.vm) qK, qD⟩, va_recv hKc hPc (ci := 6) (q0 := 0) rfl rfl, fun U hU hW => ⟨rfl, by rw [hU], by rw [hU]; exact TW.warm hW hT, by rw [hU]; exact hPc, va_K.moved hW.alike hKc, hDc.weaken (fun _ _ _ _ => trivial)⟩⟩ rfl rfl hl.1 rfl (lv_room (Nat.le_of_ble_eq_true rfl)) dL_contains_5 ⟨Nat.le_of_ble_eq_true rfl, Nat.le_of_ble_eq_true rfl⟩) hS (fun q h9 h8 => absurd h8 (Nat.not_le_of_lt h9)) (fun q h8 => hA q (Nat.le_trans hS.1 h8)) (fun q h9 h8 => absurd h8 (Nat.not_le_of_lt h9)) (fun E9 ce9 q9 u9 t9 H locs ht9 hvm9 hu9 hE9 hz9 hk9 hS hce9 hcv9 hcl9 => ?_) (fun u9 t9 H9 l9 ht9 hvm9 hu9 hB9 hz9 hk9 hS9 => hu9.elim)
  subst hE9
  have hP := hP.kept (H1 := H) (fun k q hk => hk9 _ (vx_lt hP hk) (Nat.not_le_of_lt (vx_lt hP hk)))
  refine vx_catch (name := "java/lang/IllegalArgumentException") hown [⟨0, 17, 20, 13⟩] ⟨0, 17, 24, 15⟩ [] (htab.trans rfl) (fun z hz => by rcases List.mem_cons.mp hz with rfl | hz; exact Or.inr ⟨by decide, "java/lang/IndexOutOfBoundsException", hts (.classLink RL 13 "java/lang/IndexOutOfBoundsException") (by decide +kernel), hNc0⟩; exact nomatch hz) rfl (by decide) (hts (.classLink RL 15 "java/lang/IllegalArgumentException") (by decide +kernel)) (va_Nw.use rfl hT.2.2.2.2.2.2) hce9 hcv9 hcl9 ?_
  refine W.cs (cells' := 1) (slots' := 6) rfl rfl ?_
  refine lv_astore (lv' := [(4, .ref q9), (0, .ref q), (1, .int (nI 0)), (2, .int w), (3, .ref oq)]) hx hb dL_contains_24 hl (by decide) rfl (fun ls hl => ?_)
  refine lv_iconst (v := nI 2) hx hb dL_contains_26 (by decide +kernel) ?_
  have hP9 := hP.sub (ws' := [(q, .inr (6, [.ref s0, .ref s1, .ref s2]))]) [0] rfl
  have hD9 := hD.sub (ws' := [(q, .inr (6, [.ref s0, .ref s1, .ref s2]))]) [0] (by decide) rfl
  have hK9 := hK.sub (tys' := []) [] rfl
  exact W.iret (v := nI 2) hx hb hr (fun t9 ht hW => ⟨⟨nI 2, (), rfl, rfl, by rw [ht]; exact hP9, va_K.moved hW.alike hK9, hD9⟩, hS.F ht⟩) hS.2.2 dL_contains_27
set_option maxHeartbeats 4000000 in
set_option maxRecDepth 100000 in
/-- law: successor, successor_n0 -/
theorem c_L_successor_n0 (l : Launch) (hls : l.stackTraces = false) (dC : Nat → ClassId) (dI : Nat → Nat → Nat) (q : Nat) (s0 : Nat) (s1 : Nat) (s2 : Nat) (w : Int32) (oq : Nat) (sa : Nat) (sz : Nat) (hW : isN w = false) : Met l yL_successor wsL_successor ({ frames := 8, cells := 1, slots := 6, locals := 125 }) (va_Pc [.ref q, .int (nI 0), .int w, .ref oq] (fun U => TW "java/lang/IllegalArgumentException" 153 "the number is out of range" sa (fun q => sz ≤ q) U U.heap ∧ va_Nc "java/lang/IllegalArgumentException" "java/lang/IndexOutOfBoundsException" U ∧ U.heap.size = sz ∧ va_P (dC, dI) vwCl [(q, .inr (6, [.ref s0, .ref s1, .ref s2]))] U.heap ∧ va_K (dC, dI) vwCl [] U ∧ va_D (fun _ => True) [(q, .inr (6, [.ref s0, .ref s1, .ref s2]))])) (va_Qi (fun (r : Int32) (u : Unit) => r = nI 2) (fun (u : Unit) (t : State) => va_P (dC, dI) vwCl [(q, .inr (6, [.ref s0, .ref s1, .ref s2]))] t.heap ∧ va_K (dC, dI) vwCl [] t ∧ va_D (va_A [(q, .inr (6, [.ref s0, .ref s1, .ref s2]))] sz) [(q, .inr (6, [.ref s0, .ref s1, .ref s2]))]) (va_A [(q, .inr (6, [.ref s0, .ref s1, .ref s2]))] sz)) 1 6 (va_A [(q, .inr (6, [.ref s0, .ref s1, .ref s2]))] sz) := by
  refine va_MetW (cc := cL_successor) (maxL := 5) (ret := (some .int)) (hh := [(0, 10, 13, 13), (0, 10, 17, 15)]) (by decide) rfl ?_
  intro p e s m args below meth c s₁ B hml hv
  obtain ⟨rfl, hT, hNc0, hsz, hP, hK, hD0⟩ := hv
  have hx := B.exec
  have hb := B.bytes
  have hr := B.returns
  have hts := atoms_spec (ws := wsL_successor) B.pre
  have hown : s.vm.findClass RL = some m.cls := findClass_of_methodNamed B.named
  have hlocks := B.notSynchronized
  have htab : c.exceptionTable.toList = tableOf [(0, 10, 13, 13), (0, 10, 17, 15)] := vx_table (x := yL_successor) B (hts _ List.mem_cons_self)
  subst hsz
  have hD := hD0.self (sz := s.heap.size)
  generalize hAe : va_A [(q, .inr (6, [.ref s0, .ref s1, .ref s2]))] s.heap.size = A at hD ⊢
  have hA : ∀ q : Nat, s.heap.size ≤ q → A q := fun q h => by rw [← hAe]; exact Or.inr h
  have hS : va_S A s.heap s.heap [] := va_S.rf
  have hP : va_P (dC, dI) vwCl [(q, .inr (6, [.ref s0, .ref s1, .ref s2]))] s.heap := hP
  have hl := lv_entry ([.ref q, .int (nI 0), .int w, .ref oq]) (n := 5) (Nat.le_of_ble_eq_true rfl)
  rw [lg_entry_eq]
  generalize (lg_sl ([.ref q, .int (nI 0), .int w, .ref oq]) ++ List.replicate (5 - (lg_sl ([.ref q, .int (nI 0), .int w, .ref oq])).length) Slot.unset).toArray = ls at hl ⊢
  have hl : lv_has ls 5 [(0, .ref q), (1, .int (nI 0)), (2, .int w), (3, .ref oq)] := hl
  refine lv_aload_n hx hb dL_successor_0 rfl (lv_at hl 3 rfl) ?_
  refine lv_iconst (v := nI 0) hx hb dL_successor_1 (by decide +kernel) ?_
  refine lv_aload_n hx hb dL_successor_2 rfl (lv_at hl 0 rfl) ?_
  refine lv_iload_n hx hb dL_successor_3 rfl (lv_at hl 1 rfl) ?_
  refine lv_iload_n hx hb dL_successor_4 rfl (lv_at hl 2 rfl) ?_
  have hPc := hP.sub (ws' := [(q, .inr (6, [.ref s0, .ref s1, .ref s2]))]) [0] rfl
  have hKc := hK.sub (tys' := []) [] rfl
  have hDc := hD.sub (ws' := [(q, .inr (6, [.ref s0, .ref s1, .ref s2]))]) [0] (by decide) rfl
  refine vx_callv (vx_runV (As := [.int (nI 0), .int w]) (rest := [.int (nI 0), .ref oq]) ⟨hx, hb, hml, hown, hts⟩ (x_X7_successor_n0 l hls dC dI q s0 s1 s2 w sa s.heap.size (by first | assumption | omega)) (cwV 2 hts gL_successor_X7_successor rfl rfl rfl (by decide +kernel) ⟨Nat.le_of_ble_eq_true rfl, Nat.le_of_ble_eq_true rfl⟩) ⟨fun a U g mk q => by obtain ⟨q0, q1, qT, qP, qK, qD⟩ := q; exact ⟨q0, q1, TW.same (u := U) (U := U.calling g mk a) rfl qT, qP, va_K.moved (u := U) (U := U.calling g mk a) (Vm.Alike.refl U.vm) qK, qD⟩, va_recv hKc hPc (ci := 6) (q0 := 0) rfl rfl, fun U hU hW => ⟨rfl, by rw [hU], by rw [hU]; exact TW.warm hW hT, by rw [hU]; exact hPc, va_K.moved hW.alike hKc, hDc.weaken (fun _ _ _ _ => trivial)⟩⟩ rfl rfl hl.1 rfl (lv_room (Nat.le_of_ble_eq_true rfl)) dL_successor_5 ⟨Nat.le_of_ble_eq_true rfl, Nat.le_of_ble_eq_true rfl⟩) hS (fun q h9 h8 => absurd h8 (Nat.not_le_of_lt h9)) (fun q h8 => hA q (Nat.le_trans hS.1 h8)) (fun q h9 h8 => absurd h8 (Nat.not_le_of_lt h9)) (fun E9 ce9 q9 u9 t9 H locs ht9 hvm9 hu9 hE9 hz9 hk9 hS hce9 hcv9 hcl9 => ?_) (fun u9 t9 H9 l9 ht9 hvm9 hu9 hB9 hz9 hk9 hS9 => hu9.elim)
  subst hE9
  have hP := hP.kept (H1 := H) (fun k q hk => hk9 _ (vx_lt hP hk) (Nat.not_le_of_lt (vx_lt hP hk)))
  refine vx_catch (name := "java/lang/IllegalArgumentException") hown [⟨0, 10, 13, 13⟩] ⟨0, 10, 17, 15⟩ [] (htab.trans rfl) (fun z hz => by rcases List.mem_cons.mp hz with rfl | hz; exact Or.inr ⟨by decide, "java/lang/IndexOutOfBoundsException", hts (.classLink RL 13 "java/lang/IndexOutOfBoundsException") (by decide +kernel), hNc0⟩; exact nomatch hz) rfl (by decide) (hts (.classLink RL 15 "java/lang/IllegalArgumentException") (by decide +kernel)) (va_Nw.use rfl hT.2.2.2.2.2.2) hce9 hcv9 hcl9 ?_
  refine W.cs (cells' := 1) (slots' := 6) rfl rfl ?_
  refine lv_astore (lv' := [(4, .ref q9), (0, .ref q), (1, .int (nI 0)), (2, .int w), (3, .ref oq)]) hx hb dL_successor_17 hl (by decide) rfl (fun ls hl => ?_)
  refine lv_iconst (v := nI 2) hx hb dL_successor_19 (by decide +kernel) ?_
  have hP9 := hP.sub (ws' := [(q, .inr (6, [.ref s0, .ref s1, .ref s2]))]) [0] rfl
  have hD9 := hD.sub (ws' := [(q, .inr (6, [.ref s0, .ref s1, .ref s2]))]) [0] (by decide) rfl
  have hK9 := hK.sub (tys' := []) [] rfl
  exact W.iret (v := nI 2) hx hb hr (fun t9 ht hW => ⟨⟨nI 2, (), rfl, rfl, by rw [ht]; exact hP9, va_K.moved hW.alike hK9, hD9⟩, hS.F ht⟩) hS.2.2 dL_successor_20
set_option maxHeartbeats 4000000 in
set_option maxRecDepth 100000 in
/-- law: predecessor, predecessor_n0 -/
theorem c_L_predecessor_n0 (l : Launch) (hls : l.stackTraces = false) (dC : Nat → ClassId) (dI : Nat → Nat → Nat) (q : Nat) (s0 : Nat) (s1 : Nat) (s2 : Nat) (w : Int32) (oq : Nat) (sa : Nat) (sz : Nat) (hW : isN w = false) : Met l yL_predecessor wsL_predecessor ({ frames := 8, cells := 1, slots := 6, locals := 125 }) (va_Pc [.ref q, .int (nI 0), .int w, .ref oq] (fun U => TW "java/lang/IllegalArgumentException" 153 "the number is out of range" sa (fun q => sz ≤ q) U U.heap ∧ va_Nc "java/lang/IllegalArgumentException" "java/lang/IndexOutOfBoundsException" U ∧ U.heap.size = sz ∧ va_P (dC, dI) vwCl [(q, .inr (6, [.ref s0, .ref s1, .ref s2]))] U.heap ∧ va_K (dC, dI) vwCl [] U ∧ va_D (fun _ => True) [(q, .inr (6, [.ref s0, .ref s1, .ref s2]))])) (va_Qi (fun (r : Int32) (u : Unit) => r = nI 2) (fun (u : Unit) (t : State) => va_P (dC, dI) vwCl [(q, .inr (6, [.ref s0, .ref s1, .ref s2]))] t.heap ∧ va_K (dC, dI) vwCl [] t ∧ va_D (va_A [(q, .inr (6, [.ref s0, .ref s1, .ref s2]))] sz) [(q, .inr (6, [.ref s0, .ref s1, .ref s2]))]) (va_A [(q, .inr (6, [.ref s0, .ref s1, .ref s2]))] sz)) 1 6 (va_A [(q, .inr (6, [.ref s0, .ref s1, .ref s2]))] sz) := by
  refine va_MetW (cc := cL_predecessor) (maxL := 5) (ret := (some .int)) (hh := [(0, 10, 13, 13), (0, 10, 17, 15)]) (by decide) rfl ?_
  intro p e s m args below meth c s₁ B hml hv
  obtain ⟨rfl, hT, hNc0, hsz, hP, hK, hD0⟩ := hv
  have hx := B.exec
  have hb := B.bytes
  have hr := B.returns
  have hts := atoms_spec (ws := wsL_predecessor) B.pre
  have hown : s.vm.findClass RL = some m.cls := findClass_of_methodNamed B.named
  have hlocks := B.notSynchronized
  have htab : c.exceptionTable.toList = tableOf [(0, 10, 13, 13), (0, 10, 17, 15)] := vx_table (x := yL_predecessor) B (hts _ List.mem_cons_self)
  subst hsz
  have hD := hD0.self (sz := s.heap.size)
  generalize hAe : va_A [(q, .inr (6, [.ref s0, .ref s1, .ref s2]))] s.heap.size = A at hD ⊢
  have hA : ∀ q : Nat, s.heap.size ≤ q → A q := fun q h => by rw [← hAe]; exact Or.inr h
  have hS : va_S A s.heap s.heap [] := va_S.rf
  have hP : va_P (dC, dI) vwCl [(q, .inr (6, [.ref s0, .ref s1, .ref s2]))] s.heap := hP
  have hl := lv_entry ([.ref q, .int (nI 0), .int w, .ref oq]) (n := 5) (Nat.le_of_ble_eq_true rfl)
  rw [lg_entry_eq]
  generalize (lg_sl ([.ref q, .int (nI 0), .int w, .ref oq]) ++ List.replicate (5 - (lg_sl ([.ref q, .int (nI 0), .int w, .ref oq])).length) Slot.unset).toArray = ls at hl ⊢
  have hl : lv_has ls 5 [(0, .ref q), (1, .int (nI 0)), (2, .int w), (3, .ref oq)] := hl
  refine lv_aload_n hx hb dL_predecessor_0 rfl (lv_at hl 3 rfl) ?_
  refine lv_iconst (v := nI 0) hx hb dL_predecessor_1 (by decide +kernel) ?_
  refine lv_aload_n hx hb dL_predecessor_2 rfl (lv_at hl 0 rfl) ?_
  refine lv_iload_n hx hb dL_predecessor_3 rfl (lv_at hl 1 rfl) ?_
  refine lv_iload_n hx hb dL_predecessor_4 rfl (lv_at hl 2 rfl) ?_
  have hPc := hP.sub (ws' := [(q, .inr (6, [.ref s0, .ref s1, .ref s2]))]) [0] rfl
  have hKc := hK.sub (tys' := []) [] rfl
  have hDc := hD.sub (ws' := [(q, .inr (6, [.ref s0, .ref s1, .ref s2]))]) [0] (by decide) rfl
  refine vx_callv (vx_runV (As := [.int (nI 0), .int w]) (rest := [.int (nI 0), .ref oq]) ⟨hx, hb, hml, hown, hts⟩ (x_X7_predecessor_n0 l hls dC dI q s0 s1 s2 w sa s.heap.size (by first | assumption | omega)) (cwV 2 hts gL_predecessor_X7_predecessor rfl rfl rfl (by decide +kernel) ⟨Nat.le_of_ble_eq_true rfl, Nat.le_of_ble_eq_true rfl⟩) ⟨fun a U g mk q => by obtain ⟨q0, q1, qT, qP, qK, qD⟩ := q; exact ⟨q0, q1, TW.same (u := U) (U := U.calling g mk a) rfl qT, qP, va_K.moved (u := U) (U := U.calling g mk a) (Vm.Alike.refl U.vm) qK, qD⟩, va_recv hKc hPc (ci := 6) (q0 := 0) rfl rfl, fun U hU hW => ⟨rfl, by rw [hU], by rw [hU]; exact TW.warm hW hT, by rw [hU]; exact hPc, va_K.moved hW.alike hKc, hDc.weaken (fun _ _ _ _ => trivial)⟩⟩ rfl rfl hl.1 rfl (lv_room (Nat.le_of_ble_eq_true rfl)) dL_predecessor_5 ⟨Nat.le_of_ble_eq_true rfl, Nat.le_of_ble_eq_true rfl⟩) hS (fun q h9 h8 => absurd h8 (Nat.not_le_of_lt h9)) (fun q h8 => hA q (Nat.le_trans hS.1 h8)) (fun q h9 h8 => absurd h8 (Nat.not_le_of_lt h9)) (fun E9 ce9 q9 u9 t9 H locs ht9 hvm9 hu9 hE9 hz9 hk9 hS hce9 hcv9 hcl9 => ?_) (fun u9 t9 H9 l9 ht9 hvm9 hu9 hB9 hz9 hk9 hS9 => hu9.elim)
  subst hE9
  have hP := hP.kept (H1 := H) (fun k q hk => hk9 _ (vx_lt hP hk) (Nat.not_le_of_lt (vx_lt hP hk)))
  refine vx_catch (name := "java/lang/IllegalArgumentException") hown [⟨0, 10, 13, 13⟩] ⟨0, 10, 17, 15⟩ [] (htab.trans rfl) (fun z hz => by rcases List.mem_cons.mp hz with rfl | hz; exact Or.inr ⟨by decide, "java/lang/IndexOutOfBoundsException", hts (.classLink RL 13 "java/lang/IndexOutOfBoundsException") (by decide +kernel), hNc0⟩; exact nomatch hz) rfl (by decide) (hts (.classLink RL 15 "java/lang/IllegalArgumentException") (by decide +kernel)) (va_Nw.use rfl hT.2.2.2.2.2.2) hce9 hcv9 hcl9 ?_
  refine W.cs (cells' := 1) (slots' := 6) rfl rfl ?_
  refine lv_astore (lv' := [(4, .ref q9), (0, .ref q), (1, .int (nI 0)), (2, .int w), (3, .ref oq)]) hx hb dL_predecessor_17 hl (by decide) rfl (fun ls hl => ?_)
  refine lv_iconst (v := nI 2) hx hb dL_predecessor_19 (by decide +kernel) ?_
  have hP9 := hP.sub (ws' := [(q, .inr (6, [.ref s0, .ref s1, .ref s2]))]) [0] rfl
  have hD9 := hD.sub (ws' := [(q, .inr (6, [.ref s0, .ref s1, .ref s2]))]) [0] (by decide) rfl
  have hK9 := hK.sub (tys' := []) [] rfl
  exact W.iret (v := nI 2) hx hb hr (fun t9 ht hW => ⟨⟨nI 2, (), rfl, rfl, by rw [ht]; exact hP9, va_K.moved hW.alike hK9, hD9⟩, hS.F ht⟩) hS.2.2 dL_predecessor_20
set_option maxHeartbeats 4000000 in
set_option maxRecDepth 100000 in
/-- law: rank, rank_n0 -/
theorem c_L_rank_n0 (l : Launch) (hls : l.stackTraces = false) (dC : Nat → ClassId) (dI : Nat → Nat → Nat) (q : Nat) (s0 : Nat) (s1 : Nat) (s2 : Nat) (w : Int32) (oq : Nat) (sa : Nat) (sz : Nat) (hW : isN w = false) : Met l yL_rank wsL_rank ({ frames := 8, cells := 1, slots := 6, locals := 125 }) (va_Pc [.ref q, .int (nI 0), .int w, .ref oq] (fun U => TW "java/lang/IllegalArgumentException" 153 "the number is out of range" sa (fun q => sz ≤ q) U U.heap ∧ va_Nc "java/lang/IllegalArgumentException" "java/lang/IndexOutOfBoundsException" U ∧ U.heap.size = sz ∧ va_P (dC, dI) vwCl [(q, .inr (6, [.ref s0, .ref s1, .ref s2]))] U.heap ∧ va_K (dC, dI) vwCl [] U ∧ va_D (fun _ => True) [(q, .inr (6, [.ref s0, .ref s1, .ref s2]))])) (va_Qi (fun (r : Int32) (u : Unit) => r = nI 2) (fun (u : Unit) (t : State) => va_P (dC, dI) vwCl [(q, .inr (6, [.ref s0, .ref s1, .ref s2]))] t.heap ∧ va_K (dC, dI) vwCl [] t ∧ va_D (va_A [(q, .inr (6, [.ref s0, .ref s1, .ref s2]))] sz) [(q, .inr (6, [.ref s0, .ref s1, .ref s2]))]) (va_A [(q, .inr (6, [.ref s0, .ref s1, .ref s2]))] sz)) 1 6 (va_A [(q, .inr (6, [.ref s0, .ref s1, .ref s2]))] sz) := by
  refine va_MetW (cc := cL_rank) (maxL := 5) (ret := (some .int)) (hh := [(0, 10, 13, 13), (0, 10, 17, 15)]) (by decide) rfl ?_
  intro p e s m args below meth c s₁ B hml hv
  obtain ⟨rfl, hT, hNc0, hsz, hP, hK, hD0⟩ := hv
  have hx := B.exec
  have hb := B.bytes
  have hr := B.returns
  have hts := atoms_spec (ws := wsL_rank) B.pre
  have hown : s.vm.findClass RL = some m.cls := findClass_of_methodNamed B.named
  have hlocks := B.notSynchronized
  have htab : c.exceptionTable.toList = tableOf [(0, 10, 13, 13), (0, 10, 17, 15)] := vx_table (x := yL_rank) B (hts _ List.mem_cons_self)
  subst hsz
  have hD := hD0.self (sz := s.heap.size)
  generalize hAe : va_A [(q, .inr (6, [.ref s0, .ref s1, .ref s2]))] s.heap.size = A at hD ⊢
  have hA : ∀ q : Nat, s.heap.size ≤ q → A q := fun q h => by rw [← hAe]; exact Or.inr h
  have hS : va_S A s.heap s.heap [] := va_S.rf
  have hP : va_P (dC, dI) vwCl [(q, .inr (6, [.ref s0, .ref s1, .ref s2]))] s.heap := hP
  have hl := lv_entry ([.ref q, .int (nI 0), .int w, .ref oq]) (n := 5) (Nat.le_of_ble_eq_true rfl)
  rw [lg_entry_eq]
  generalize (lg_sl ([.ref q, .int (nI 0), .int w, .ref oq]) ++ List.replicate (5 - (lg_sl ([.ref q, .int (nI 0), .int w, .ref oq])).length) Slot.unset).toArray = ls at hl ⊢
  have hl : lv_has ls 5 [(0, .ref q), (1, .int (nI 0)), (2, .int w), (3, .ref oq)] := hl
  refine lv_aload_n hx hb dL_rank_0 rfl (lv_at hl 3 rfl) ?_
  refine lv_iconst (v := nI 0) hx hb dL_rank_1 (by decide +kernel) ?_
  refine lv_aload_n hx hb dL_rank_2 rfl (lv_at hl 0 rfl) ?_
  refine lv_iload_n hx hb dL_rank_3 rfl (lv_at hl 1 rfl) ?_
  refine lv_iload_n hx hb dL_rank_4 rfl (lv_at hl 2 rfl) ?_
  have hPc := hP.sub (ws' := [(q, .inr (6, [.ref s0, .ref s1, .ref s2]))]) [0] rfl
  have hKc := hK.sub (tys' := []) [] rfl
  have hDc := hD.sub (ws' := [(q, .inr (6, [.ref s0, .ref s1, .ref s2]))]) [0] (by decide) rfl
  refine vx_callv (vx_runV (As := [.int (nI 0), .int w]) (rest := [.int (nI 0), .ref oq]) ⟨hx, hb, hml, hown, hts⟩ (x_X7_rank_n0 l hls dC dI q s0 s1 s2 w sa s.heap.size (by first | assumption | omega)) (cwV 2 hts gL_rank_X7_rank rfl rfl rfl (by decide +kernel) ⟨Nat.le_of_ble_eq_true rfl, Nat.le_of_ble_eq_true rfl⟩) ⟨fun a U g mk q => by obtain ⟨q0, q1, qT, qP, qK, qD⟩ := q; exact ⟨q0, q1, TW.same (u := U) (U := U.calling g mk a) rfl qT, qP, va_K.moved (u := U) (U := U.calling g mk a) (Vm.Alike.refl U.vm) qK, qD⟩, va_recv hKc hPc (ci := 6) (q0 := 0) rfl rfl, fun U hU hW => ⟨rfl, by rw [hU], by rw [hU]; exact TW.warm hW hT, by rw [hU]; exact hPc, va_K.moved hW.alike hKc, hDc.weaken (fun _ _ _ _ => trivial)⟩⟩ rfl rfl hl.1 rfl (lv_room (Nat.le_of_ble_eq_true rfl)) dL_rank_5 ⟨Nat.le_of_ble_eq_true rfl, Nat.le_of_ble_eq_true rfl⟩) hS (fun q h9 h8 => absurd h8 (Nat.not_le_of_lt h9)) (fun q h8 => hA q (Nat.le_trans hS.1 h8)) (fun q h9 h8 => absurd h8 (Nat.not_le_of_lt h9)) (fun E9 ce9 q9 u9 t9 H locs ht9 hvm9 hu9 hE9 hz9 hk9 hS hce9 hcv9 hcl9 => ?_) (fun u9 t9 H9 l9 ht9 hvm9 hu9 hB9 hz9 hk9 hS9 => hu9.elim)
  subst hE9
  have hP := hP.kept (H1 := H) (fun k q hk => hk9 _ (vx_lt hP hk) (Nat.not_le_of_lt (vx_lt hP hk)))
  refine vx_catch (name := "java/lang/IllegalArgumentException") hown [⟨0, 10, 13, 13⟩] ⟨0, 10, 17, 15⟩ [] (htab.trans rfl) (fun z hz => by rcases List.mem_cons.mp hz with rfl | hz; exact Or.inr ⟨by decide, "java/lang/IndexOutOfBoundsException", hts (.classLink RL 13 "java/lang/IndexOutOfBoundsException") (by decide +kernel), hNc0⟩; exact nomatch hz) rfl (by decide) (hts (.classLink RL 15 "java/lang/IllegalArgumentException") (by decide +kernel)) (va_Nw.use rfl hT.2.2.2.2.2.2) hce9 hcv9 hcl9 ?_
  refine W.cs (cells' := 1) (slots' := 6) rfl rfl ?_
  refine lv_astore (lv' := [(4, .ref q9), (0, .ref q), (1, .int (nI 0)), (2, .int w), (3, .ref oq)]) hx hb dL_rank_17 hl (by decide) rfl (fun ls hl => ?_)
  refine lv_iconst (v := nI 2) hx hb dL_rank_19 (by decide +kernel) ?_
  have hP9 := hP.sub (ws' := [(q, .inr (6, [.ref s0, .ref s1, .ref s2]))]) [0] rfl
  have hD9 := hD.sub (ws' := [(q, .inr (6, [.ref s0, .ref s1, .ref s2]))]) [0] (by decide) rfl
  have hK9 := hK.sub (tys' := []) [] rfl
  exact W.iret (v := nI 2) hx hb hr (fun t9 ht hW => ⟨⟨nI 2, (), rfl, rfl, by rw [ht]; exact hP9, va_K.moved hW.alike hK9, hD9⟩, hS.F ht⟩) hS.2.2 dL_rank_20
set_option maxHeartbeats 4000000 in
set_option maxRecDepth 100000 in
/-- law: steps, steps_n0 -/
theorem c_L_steps_n0 (l : Launch) (hls : l.stackTraces = false) (dC : Nat → ClassId) (dI : Nat → Nat → Nat) (q : Nat) (s0 : Nat) (s1 : Nat) (s2 : Nat) (w : Int32) (oq : Nat) (sa : Nat) (sz : Nat) (hW : isN w = false) : Met l yL_steps wsL_steps ({ frames := 8, cells := 1, slots := 6, locals := 125 }) (va_Pc [.ref q, .int (nI 0), .int w, .ref oq] (fun U => TW "java/lang/IllegalArgumentException" 153 "the number is out of range" sa (fun q => sz ≤ q) U U.heap ∧ va_Nc "java/lang/IllegalArgumentException" "java/lang/IndexOutOfBoundsException" U ∧ U.heap.size = sz ∧ va_P (dC, dI) vwCl [(q, .inr (6, [.ref s0, .ref s1, .ref s2]))] U.heap ∧ va_K (dC, dI) vwCl [] U ∧ va_D (fun _ => True) [(q, .inr (6, [.ref s0, .ref s1, .ref s2]))])) (va_Qi (fun (r : Int32) (u : Unit) => r = nI 2) (fun (u : Unit) (t : State) => va_P (dC, dI) vwCl [(q, .inr (6, [.ref s0, .ref s1, .ref s2]))] t.heap ∧ va_K (dC, dI) vwCl [] t ∧ va_D (va_A [(q, .inr (6, [.ref s0, .ref s1, .ref s2]))] sz) [(q, .inr (6, [.ref s0, .ref s1, .ref s2]))]) (va_A [(q, .inr (6, [.ref s0, .ref s1, .ref s2]))] sz)) 1 6 (va_A [(q, .inr (6, [.ref s0, .ref s1, .ref s2]))] sz) := by
  refine va_MetW (cc := cL_steps) (maxL := 5) (ret := (some .int)) (hh := [(0, 10, 13, 13), (0, 10, 17, 15)]) (by decide) rfl ?_
  intro p e s m args below meth c s₁ B hml hv
  obtain ⟨rfl, hT, hNc0, hsz, hP, hK, hD0⟩ := hv
  have hx := B.exec
  have hb := B.bytes
  have hr := B.returns
  have hts := atoms_spec (ws := wsL_steps) B.pre
  have hown : s.vm.findClass RL = some m.cls := findClass_of_methodNamed B.named
  have hlocks := B.notSynchronized
  have htab : c.exceptionTable.toList = tableOf [(0, 10, 13, 13), (0, 10, 17, 15)] := vx_table (x := yL_steps) B (hts _ List.mem_cons_self)
  subst hsz
  have hD := hD0.self (sz := s.heap.size)
  generalize hAe : va_A [(q, .inr (6, [.ref s0, .ref s1, .ref s2]))] s.heap.size = A at hD ⊢
  have hA : ∀ q : Nat, s.heap.size ≤ q → A q := fun q h => by rw [← hAe]; exact Or.inr h
  have hS : va_S A s.heap s.heap [] := va_S.rf
  have hP : va_P (dC, dI) vwCl [(q, .inr (6, [.ref s0, .ref s1, .ref s2]))] s.heap := hP
  have hl := lv_entry ([.ref q, .int (nI 0), .int w, .ref oq]) (n := 5) (Nat.le_of_ble_eq_true rfl)
  rw [lg_entry_eq]
  generalize (lg_sl ([.ref q, .int (nI 0), .int w, .ref oq]) ++ List.replicate (5 - (lg_sl ([.ref q, .int (nI 0), .int w, .ref oq])).length) Slot.unset).toArray = ls at hl ⊢
  have hl : lv_has ls 5 [(0, .ref q), (1, .int (nI 0)), (2, .int w), (3, .ref oq)] := hl
  refine lv_aload_n hx hb dL_steps_0 rfl (lv_at hl 3 rfl) ?_
  refine lv_iconst (v := nI 0) hx hb dL_steps_1 (by decide +kernel) ?_
  refine lv_aload_n hx hb dL_steps_2 rfl (lv_at hl 0 rfl) ?_
  refine lv_iload_n hx hb dL_steps_3 rfl (lv_at hl 1 rfl) ?_
  refine lv_iload_n hx hb dL_steps_4 rfl (lv_at hl 2 rfl) ?_
  have hPc := hP.sub (ws' := [(q, .inr (6, [.ref s0, .ref s1, .ref s2]))]) [0] rfl
  have hKc := hK.sub (tys' := []) [] rfl
  have hDc := hD.sub (ws' := [(q, .inr (6, [.ref s0, .ref s1, .ref s2]))]) [0] (by decide) rfl
  refine vx_callv (vx_runV (As := [.int (nI 0), .int w]) (rest := [.int (nI 0), .ref oq]) ⟨hx, hb, hml, hown, hts⟩ (x_X7_steps_n0 l hls dC dI q s0 s1 s2 w sa s.heap.size (by first | assumption | omega)) (cwV 2 hts gL_steps_X7_steps rfl rfl rfl (by decide +kernel) ⟨Nat.le_of_ble_eq_true rfl, Nat.le_of_ble_eq_true rfl⟩) ⟨fun a U g mk q => by obtain ⟨q0, q1, qT, qP, qK, qD⟩ := q; exact ⟨q0, q1, TW.same (u := U) (U := U.calling g mk a) rfl qT, qP, va_K.moved (u := U) (U := U.calling g mk a) (Vm.Alike.refl U.vm) qK, qD⟩, va_recv hKc hPc (ci := 6) (q0 := 0) rfl rfl, fun U hU hW => ⟨rfl, by rw [hU], by rw [hU]; exact TW.warm hW hT, by rw [hU]; exact hPc, va_K.moved hW.alike hKc, hDc.weaken (fun _ _ _ _ => trivial)⟩⟩ rfl rfl hl.1 rfl (lv_room (Nat.le_of_ble_eq_true rfl)) dL_steps_5 ⟨Nat.le_of_ble_eq_true rfl, Nat.le_of_ble_eq_true rfl⟩) hS (fun q h9 h8 => absurd h8 (Nat.not_le_of_lt h9)) (fun q h8 => hA q (Nat.le_trans hS.1 h8)) (fun q h9 h8 => absurd h8 (Nat.not_le_of_lt h9)) (fun E9 ce9 q9 u9 t9 H locs ht9 hvm9 hu9 hE9 hz9 hk9 hS hce9 hcv9 hcl9 => ?_) (fun u9 t9 H9 l9 ht9 hvm9 hu9 hB9 hz9 hk9 hS9 => hu9.elim)
  subst hE9
  have hP := hP.kept (H1 := H) (fun k q hk => hk9 _ (vx_lt hP hk) (Nat.not_le_of_lt (vx_lt hP hk)))
  refine vx_catch (name := "java/lang/IllegalArgumentException") hown [⟨0, 10, 13, 13⟩] ⟨0, 10, 17, 15⟩ [] (htab.trans rfl) (fun z hz => by rcases List.mem_cons.mp hz with rfl | hz; exact Or.inr ⟨by decide, "java/lang/IndexOutOfBoundsException", hts (.classLink RL 13 "java/lang/IndexOutOfBoundsException") (by decide +kernel), hNc0⟩; exact nomatch hz) rfl (by decide) (hts (.classLink RL 15 "java/lang/IllegalArgumentException") (by decide +kernel)) (va_Nw.use rfl hT.2.2.2.2.2.2) hce9 hcv9 hcl9 ?_
  refine W.cs (cells' := 1) (slots' := 6) rfl rfl ?_
  refine lv_astore (lv' := [(4, .ref q9), (0, .ref q), (1, .int (nI 0)), (2, .int w), (3, .ref oq)]) hx hb dL_steps_17 hl (by decide) rfl (fun ls hl => ?_)
  refine lv_iconst (v := nI 2) hx hb dL_steps_19 (by decide +kernel) ?_
  have hP9 := hP.sub (ws' := [(q, .inr (6, [.ref s0, .ref s1, .ref s2]))]) [0] rfl
  have hD9 := hD.sub (ws' := [(q, .inr (6, [.ref s0, .ref s1, .ref s2]))]) [0] (by decide) rfl
  have hK9 := hK.sub (tys' := []) [] rfl
  exact W.iret (v := nI 2) hx hb hr (fun t9 ht hW => ⟨⟨nI 2, (), rfl, rfl, by rw [ht]; exact hP9, va_K.moved hW.alike hK9, hD9⟩, hS.F ht⟩) hS.2.2 dL_steps_20
set_option maxHeartbeats 4000000 in
set_option maxRecDepth 100000 in
/-- law: longestMatch, longestMatch_n0 -/
theorem c_L_longestMatch_n0 (l : Launch) (hls : l.stackTraces = false) (dC : Nat → ClassId) (dI : Nat → Nat → Nat) (q : Nat) (s0 : Nat) (s1 : Nat) (s2 : Nat) (w : Int32) (oq : Nat) (sa : Nat) (sz : Nat) (hW : isN w = false) : Met l yL_longestMatch wsL_longestMatch ({ frames := 8, cells := 1, slots := 6, locals := 125 }) (va_Pc [.ref q, .int (nI 0), .int w, .ref oq] (fun U => TW "java/lang/IllegalArgumentException" 153 "the number is out of range" sa (fun q => sz ≤ q) U U.heap ∧ va_Nc "java/lang/IllegalArgumentException" "java/lang/IndexOutOfBoundsException" U ∧ U.heap.size = sz ∧ va_P (dC, dI) vwCl [(q, .inr (6, [.ref s0, .ref s1, .ref s2]))] U.heap ∧ va_K (dC, dI) vwCl [] U ∧ va_D (fun _ => True) [(q, .inr (6, [.ref s0, .ref s1, .ref s2]))])) (va_Qi (fun (r : Int32) (u : Unit) => r = nI 2) (fun (u : Unit) (t : State) => va_P (dC, dI) vwCl [(q, .inr (6, [.ref s0, .ref s1, .ref s2]))] t.heap ∧ va_K (dC, dI) vwCl [] t ∧ va_D (va_A [(q, .inr (6, [.ref s0, .ref s1, .ref s2]))] sz) [(q, .inr (6, [.ref s0, .ref s1, .ref s2]))]) (va_A [(q, .inr (6, [.ref s0, .ref s1, .ref s2]))] sz)) 1 6 (va_A [(q, .inr (6, [.ref s0, .ref s1, .ref s2]))] sz) := by
  refine va_MetW (cc := cL_longestMatch) (maxL := 5) (ret := (some .int)) (hh := [(0, 10, 13, 13), (0, 10, 17, 15)]) (by decide) rfl ?_
  intro p e s m args below meth c s₁ B hml hv
  obtain ⟨rfl, hT, hNc0, hsz, hP, hK, hD0⟩ := hv
  have hx := B.exec
  have hb := B.bytes
  have hr := B.returns
  have hts := atoms_spec (ws := wsL_longestMatch) B.pre
  have hown : s.vm.findClass RL = some m.cls := findClass_of_methodNamed B.named
  have hlocks := B.notSynchronized
  have htab : c.exceptionTable.toList = tableOf [(0, 10, 13, 13), (0, 10, 17, 15)] := vx_table (x := yL_longestMatch) B (hts _ List.mem_cons_self)
  subst hsz
  have hD := hD0.self (sz := s.heap.size)
  generalize hAe : va_A [(q, .inr (6, [.ref s0, .ref s1, .ref s2]))] s.heap.size = A at hD ⊢
  have hA : ∀ q : Nat, s.heap.size ≤ q → A q := fun q h => by rw [← hAe]; exact Or.inr h
  have hS : va_S A s.heap s.heap [] := va_S.rf
  have hP : va_P (dC, dI) vwCl [(q, .inr (6, [.ref s0, .ref s1, .ref s2]))] s.heap := hP
  have hl := lv_entry ([.ref q, .int (nI 0), .int w, .ref oq]) (n := 5) (Nat.le_of_ble_eq_true rfl)
  rw [lg_entry_eq]
  generalize (lg_sl ([.ref q, .int (nI 0), .int w, .ref oq]) ++ List.replicate (5 - (lg_sl ([.ref q, .int (nI 0), .int w, .ref oq])).length) Slot.unset).toArray = ls at hl ⊢
  have hl : lv_has ls 5 [(0, .ref q), (1, .int (nI 0)), (2, .int w), (3, .ref oq)] := hl
  refine lv_aload_n hx hb dL_longestMatch_0 rfl (lv_at hl 3 rfl) ?_
  refine lv_iconst (v := nI 0) hx hb dL_longestMatch_1 (by decide +kernel) ?_
  refine lv_aload_n hx hb dL_longestMatch_2 rfl (lv_at hl 0 rfl) ?_
  refine lv_iload_n hx hb dL_longestMatch_3 rfl (lv_at hl 1 rfl) ?_
  refine lv_iload_n hx hb dL_longestMatch_4 rfl (lv_at hl 2 rfl) ?_
  have hPc := hP.sub (ws' := [(q, .inr (6, [.ref s0, .ref s1, .ref s2]))]) [0] rfl
  have hKc := hK.sub (tys' := []) [] rfl
  have hDc := hD.sub (ws' := [(q, .inr (6, [.ref s0, .ref s1, .ref s2]))]) [0] (by decide) rfl
  refine vx_callv (vx_runV (As := [.int (nI 0), .int w]) (rest := [.int (nI 0), .ref oq]) ⟨hx, hb, hml, hown, hts⟩ (x_X7_longestMatch_n0 l hls dC dI q s0 s1 s2 w sa s.heap.size (by first | assumption | omega)) (cwV 2 hts gL_longestMatch_X7_longestMatch rfl rfl rfl (by decide +kernel) ⟨Nat.le_of_ble_eq_true rfl, Nat.le_of_ble_eq_true rfl⟩) ⟨fun a U g mk q => by obtain ⟨q0, q1, qT, qP, qK, qD⟩ := q; exact ⟨q0, q1, TW.same (u := U) (U := U.calling g mk a) rfl qT, qP, va_K.moved (u := U) (U := U.calling g mk a) (Vm.Alike.refl U.vm) qK, qD⟩, va_recv hKc hPc (ci := 6) (q0 := 0) rfl rfl, fun U hU hW => ⟨rfl, by rw [hU], by rw [hU]; exact TW.warm hW hT, by rw [hU]; exact hPc, va_K.moved hW.alike hKc, hDc.weaken (fun _ _ _ _ => trivial)⟩⟩ rfl rfl hl.1 rfl (lv_room (Nat.le_of_ble_eq_true rfl)) dL_longestMatch_5 ⟨Nat.le_of_ble_eq_true rfl, Nat.le_of_ble_eq_true rfl⟩) hS (fun q h9 h8 => absurd h8 (Nat.not_le_of_lt h9)) (fun q h8 => hA q (Nat.le_trans hS.1 h8)) (fun q h9 h8 => absurd h8 (Nat.not_le_of_lt h9)) (fun E9 ce9 q9 u9 t9 H locs ht9 hvm9 hu9 hE9 hz9 hk9 hS hce9 hcv9 hcl9 => ?_) (fun u9 t9 H9 l9 ht9 hvm9 hu9 hB9 hz9 hk9 hS9 => hu9.elim)
  subst hE9
  have hP := hP.kept (H1 := H) (fun k q hk => hk9 _ (vx_lt hP hk) (Nat.not_le_of_lt (vx_lt hP hk)))
  refine vx_catch (name := "java/lang/IllegalArgumentException") hown [⟨0, 10, 13, 13⟩] ⟨0, 10, 17, 15⟩ [] (htab.trans rfl) (fun z hz => by rcases List.mem_cons.mp hz with rfl | hz; exact Or.inr ⟨by decide, "java/lang/IndexOutOfBoundsException", hts (.classLink RL 13 "java/lang/IndexOutOfBoundsException") (by decide +kernel), hNc0⟩; exact nomatch hz) rfl (by decide) (hts (.classLink RL 15 "java/lang/IllegalArgumentException") (by decide +kernel)) (va_Nw.use rfl hT.2.2.2.2.2.2) hce9 hcv9 hcl9 ?_
  refine W.cs (cells' := 1) (slots' := 6) rfl rfl ?_
  refine lv_astore (lv' := [(4, .ref q9), (0, .ref q), (1, .int (nI 0)), (2, .int w), (3, .ref oq)]) hx hb dL_longestMatch_17 hl (by decide) rfl (fun ls hl => ?_)
  refine lv_iconst (v := nI 2) hx hb dL_longestMatch_19 (by decide +kernel) ?_
  have hP9 := hP.sub (ws' := [(q, .inr (6, [.ref s0, .ref s1, .ref s2]))]) [0] rfl
  have hD9 := hD.sub (ws' := [(q, .inr (6, [.ref s0, .ref s1, .ref s2]))]) [0] (by decide) rfl
  have hK9 := hK.sub (tys' := []) [] rfl
  exact W.iret (v := nI 2) hx hb hr (fun t9 ht hW => ⟨⟨nI 2, (), rfl, rfl, by rw [ht]; exact hP9, va_K.moved hW.alike hK9, hD9⟩, hS.F ht⟩) hS.2.2 dL_longestMatch_20
set_option maxHeartbeats 4000000 in
set_option maxRecDepth 100000 in
/-- law: probes, probes_n0 -/
theorem c_L_probes_n0 (l : Launch) (hls : l.stackTraces = false) (dC : Nat → ClassId) (dI : Nat → Nat → Nat) (q : Nat) (s0 : Nat) (s1 : Nat) (s2 : Nat) (w : Int32) (oq : Nat) (sa : Nat) (sz : Nat) (hW : isN w = false) : Met l yL_probes wsL_probes ({ frames := 8, cells := 1, slots := 6, locals := 125 }) (va_Pc [.ref q, .int (nI 0), .int w, .ref oq] (fun U => TW "java/lang/IllegalArgumentException" 153 "the number is out of range" sa (fun q => sz ≤ q) U U.heap ∧ va_Nc "java/lang/IllegalArgumentException" "java/lang/IndexOutOfBoundsException" U ∧ U.heap.size = sz ∧ va_P (dC, dI) vwCl [(q, .inr (6, [.ref s0, .ref s1, .ref s2]))] U.heap ∧ va_K (dC, dI) vwCl [] U ∧ va_D (fun _ => True) [(q, .inr (6, [.ref s0, .ref s1, .ref s2]))])) (va_Qi (fun (r : Int32) (u : Unit) => r = nI 2) (fun (u : Unit) (t : State) => va_P (dC, dI) vwCl [(q, .inr (6, [.ref s0, .ref s1, .ref s2]))] t.heap ∧ va_K (dC, dI) vwCl [] t ∧ va_D (va_A [(q, .inr (6, [.ref s0, .ref s1, .ref s2]))] sz) [(q, .inr (6, [.ref s0, .ref s1, .ref s2]))]) (va_A [(q, .inr (6, [.ref s0, .ref s1, .ref s2]))] sz)) 1 6 (va_A [(q, .inr (6, [.ref s0, .ref s1, .ref s2]))] sz) := by
  refine va_MetW (cc := cL_probes) (maxL := 5) (ret := (some .int)) (hh := [(0, 10, 13, 13), (0, 10, 17, 15)]) (by decide) rfl ?_
  intro p e s m args below meth c s₁ B hml hv
  obtain ⟨rfl, hT, hNc0, hsz, hP, hK, hD0⟩ := hv
  have hx := B.exec
  have hb := B.bytes
  have hr := B.returns
  have hts := atoms_spec (ws := wsL_probes) B.pre
  have hown : s.vm.findClass RL = some m.cls := findClass_of_methodNamed B.named
  have hlocks := B.notSynchronized
  have htab : c.exceptionTable.toList = tableOf [(0, 10, 13, 13), (0, 10, 17, 15)] := vx_table (x := yL_probes) B (hts _ List.mem_cons_self)
  subst hsz
  have hD := hD0.self (sz := s.heap.size)
  generalize hAe : va_A [(q, .inr (6, [.ref s0, .ref s1, .ref s2]))] s.heap.size = A at hD ⊢
  have hA : ∀ q : Nat, s.heap.size ≤ q → A q := fun q h => by rw [← hAe]; exact Or.inr h
  have hS : va_S A s.heap s.heap [] := va_S.rf
  have hP : va_P (dC, dI) vwCl [(q, .inr (6, [.ref s0, .ref s1, .ref s2]))] s.heap := hP
  have hl := lv_entry ([.ref q, .int (nI 0), .int w, .ref oq]) (n := 5) (Nat.le_of_ble_eq_true rfl)
  rw [lg_entry_eq]
  generalize (lg_sl ([.ref q, .int (nI 0), .int w, .ref oq]) ++ List.replicate (5 - (lg_sl ([.ref q, .int (nI 0), .int w, .ref oq])).length) Slot.unset).toArray = ls at hl ⊢
  have hl : lv_has ls 5 [(0, .ref q), (1, .int (nI 0)), (2, .int w), (3, .ref oq)] := hl
  refine lv_aload_n hx hb dL_probes_0 rfl (lv_at hl 3 rfl) ?_
  refine lv_iconst (v := nI 0) hx hb dL_probes_1 (by decide +kernel) ?_
  refine lv_aload_n hx hb dL_probes_2 rfl (lv_at hl 0 rfl) ?_
  refine lv_iload_n hx hb dL_probes_3 rfl (lv_at hl 1 rfl) ?_
  refine lv_iload_n hx hb dL_probes_4 rfl (lv_at hl 2 rfl) ?_
  have hPc := hP.sub (ws' := [(q, .inr (6, [.ref s0, .ref s1, .ref s2]))]) [0] rfl
  have hKc := hK.sub (tys' := []) [] rfl
  have hDc := hD.sub (ws' := [(q, .inr (6, [.ref s0, .ref s1, .ref s2]))]) [0] (by decide) rfl
  refine vx_callv (vx_runV (As := [.int (nI 0), .int w]) (rest := [.int (nI 0), .ref oq]) ⟨hx, hb, hml, hown, hts⟩ (x_X7_probes_n0 l hls dC dI q s0 s1 s2 w sa s.heap.size (by first | assumption | omega)) (cwV 2 hts gL_probes_X7_probes rfl rfl rfl (by decide +kernel) ⟨Nat.le_of_ble_eq_true rfl, Nat.le_of_ble_eq_true rfl⟩) ⟨fun a U g mk q => by obtain ⟨q0, q1, qT, qP, qK, qD⟩ := q; exact ⟨q0, q1, TW.same (u := U) (U := U.calling g mk a) rfl qT, qP, va_K.moved (u := U) (U := U.calling g mk a) (Vm.Alike.refl U.vm) qK, qD⟩, va_recv hKc hPc (ci := 6) (q0 := 0) rfl rfl, fun U hU hW => ⟨rfl, by rw [hU], by rw [hU]; exact TW.warm hW hT, by rw [hU]; exact hPc, va_K.moved hW.alike hKc, hDc.weaken (fun _ _ _ _ => trivial)⟩⟩ rfl rfl hl.1 rfl (lv_room (Nat.le_of_ble_eq_true rfl)) dL_probes_5 ⟨Nat.le_of_ble_eq_true rfl, Nat.le_of_ble_eq_true rfl⟩) hS (fun q h9 h8 => absurd h8 (Nat.not_le_of_lt h9)) (fun q h8 => hA q (Nat.le_trans hS.1 h8)) (fun q h9 h8 => absurd h8 (Nat.not_le_of_lt h9)) (fun E9 ce9 q9 u9 t9 H locs ht9 hvm9 hu9 hE9 hz9 hk9 hS hce9 hcv9 hcl9 => ?_) (fun u9 t9 H9 l9 ht9 hvm9 hu9 hB9 hz9 hk9 hS9 => hu9.elim)
  subst hE9
  have hP := hP.kept (H1 := H) (fun k q hk => hk9 _ (vx_lt hP hk) (Nat.not_le_of_lt (vx_lt hP hk)))
  refine vx_catch (name := "java/lang/IllegalArgumentException") hown [⟨0, 10, 13, 13⟩] ⟨0, 10, 17, 15⟩ [] (htab.trans rfl) (fun z hz => by rcases List.mem_cons.mp hz with rfl | hz; exact Or.inr ⟨by decide, "java/lang/IndexOutOfBoundsException", hts (.classLink RL 13 "java/lang/IndexOutOfBoundsException") (by decide +kernel), hNc0⟩; exact nomatch hz) rfl (by decide) (hts (.classLink RL 15 "java/lang/IllegalArgumentException") (by decide +kernel)) (va_Nw.use rfl hT.2.2.2.2.2.2) hce9 hcv9 hcl9 ?_
  refine W.cs (cells' := 1) (slots' := 6) rfl rfl ?_
  refine lv_astore (lv' := [(4, .ref q9), (0, .ref q), (1, .int (nI 0)), (2, .int w), (3, .ref oq)]) hx hb dL_probes_17 hl (by decide) rfl (fun ls hl => ?_)
  refine lv_iconst (v := nI 2) hx hb dL_probes_19 (by decide +kernel) ?_
  have hP9 := hP.sub (ws' := [(q, .inr (6, [.ref s0, .ref s1, .ref s2]))]) [0] rfl
  have hD9 := hD.sub (ws' := [(q, .inr (6, [.ref s0, .ref s1, .ref s2]))]) [0] (by decide) rfl
  have hK9 := hK.sub (tys' := []) [] rfl
  exact W.iret (v := nI 2) hx hb hr (fun t9 ht hW => ⟨⟨nI 2, (), rfl, rfl, by rw [ht]; exact hP9, va_K.moved hW.alike hK9, hD9⟩, hS.F ht⟩) hS.2.2 dL_probes_20
set_option maxHeartbeats 4000000 in
set_option maxRecDepth 100000 in
/-- law: bucketOf, bucketOf_n0 -/
theorem c_L_bucketOf_n0 (l : Launch) (hls : l.stackTraces = false) (dC : Nat → ClassId) (dI : Nat → Nat → Nat) (q : Nat) (s0 : Nat) (s1 : Nat) (s2 : Nat) (w : Int32) (oq : Nat) (sa : Nat) (sz : Nat) (hW : isN w = false) : Met l yL_bucketOf wsL_bucketOf ({ frames := 8, cells := 1, slots := 6, locals := 125 }) (va_Pc [.ref q, .int (nI 0), .int w, .ref oq] (fun U => TW "java/lang/IllegalArgumentException" 153 "the number is out of range" sa (fun q => sz ≤ q) U U.heap ∧ va_Nc "java/lang/IllegalArgumentException" "java/lang/IndexOutOfBoundsException" U ∧ U.heap.size = sz ∧ va_P (dC, dI) vwCl [(q, .inr (6, [.ref s0, .ref s1, .ref s2]))] U.heap ∧ va_K (dC, dI) vwCl [] U ∧ va_D (fun _ => True) [(q, .inr (6, [.ref s0, .ref s1, .ref s2]))])) (va_Qi (fun (r : Int32) (u : Unit) => r = nI 2) (fun (u : Unit) (t : State) => va_P (dC, dI) vwCl [(q, .inr (6, [.ref s0, .ref s1, .ref s2]))] t.heap ∧ va_K (dC, dI) vwCl [] t ∧ va_D (va_A [(q, .inr (6, [.ref s0, .ref s1, .ref s2]))] sz) [(q, .inr (6, [.ref s0, .ref s1, .ref s2]))]) (va_A [(q, .inr (6, [.ref s0, .ref s1, .ref s2]))] sz)) 1 6 (va_A [(q, .inr (6, [.ref s0, .ref s1, .ref s2]))] sz) := by
  refine va_MetW (cc := cL_bucketOf) (maxL := 5) (ret := (some .int)) (hh := [(0, 10, 13, 13), (0, 10, 17, 15)]) (by decide) rfl ?_
  intro p e s m args below meth c s₁ B hml hv
  obtain ⟨rfl, hT, hNc0, hsz, hP, hK, hD0⟩ := hv
  have hx := B.exec
  have hb := B.bytes
  have hr := B.returns
  have hts := atoms_spec (ws := wsL_bucketOf) B.pre
  have hown : s.vm.findClass RL = some m.cls := findClass_of_methodNamed B.named
  have hlocks := B.notSynchronized
  have htab : c.exceptionTable.toList = tableOf [(0, 10, 13, 13), (0, 10, 17, 15)] := vx_table (x := yL_bucketOf) B (hts _ List.mem_cons_self)
  subst hsz
  have hD := hD0.self (sz := s.heap.size)
  generalize hAe : va_A [(q, .inr (6, [.ref s0, .ref s1, .ref s2]))] s.heap.size = A at hD ⊢
  have hA : ∀ q : Nat, s.heap.size ≤ q → A q := fun q h => by rw [← hAe]; exact Or.inr h
  have hS : va_S A s.heap s.heap [] := va_S.rf
  have hP : va_P (dC, dI) vwCl [(q, .inr (6, [.ref s0, .ref s1, .ref s2]))] s.heap := hP
  have hl := lv_entry ([.ref q, .int (nI 0), .int w, .ref oq]) (n := 5) (Nat.le_of_ble_eq_true rfl)
  rw [lg_entry_eq]
  generalize (lg_sl ([.ref q, .int (nI 0), .int w, .ref oq]) ++ List.replicate (5 - (lg_sl ([.ref q, .int (nI 0), .int w, .ref oq])).length) Slot.unset).toArray = ls at hl ⊢
  have hl : lv_has ls 5 [(0, .ref q), (1, .int (nI 0)), (2, .int w), (3, .ref oq)] := hl
  refine lv_aload_n hx hb dL_bucketOf_0 rfl (lv_at hl 3 rfl) ?_
  refine lv_iconst (v := nI 0) hx hb dL_bucketOf_1 (by decide +kernel) ?_
  refine lv_aload_n hx hb dL_bucketOf_2 rfl (lv_at hl 0 rfl) ?_
  refine lv_iload_n hx hb dL_bucketOf_3 rfl (lv_at hl 1 rfl) ?_
  refine lv_iload_n hx hb dL_bucketOf_4 rfl (lv_at hl 2 rfl) ?_
  have hPc := hP.sub (ws' := [(q, .inr (6, [.ref s0, .ref s1, .ref s2]))]) [0] rfl
  have hKc := hK.sub (tys' := []) [] rfl
  have hDc := hD.sub (ws' := [(q, .inr (6, [.ref s0, .ref s1, .ref s2]))]) [0] (by decide) rfl
  refine vx_callv (vx_runV (As := [.int (nI 0), .int w]) (rest := [.int (nI 0), .ref oq]) ⟨hx, hb, hml, hown, hts⟩ (x_X7_bucketOf_n0 l hls dC dI q s0 s1 s2 w sa s.heap.size (by first | assumption | omega)) (cwV 2 hts gL_bucketOf_X7_bucketOf rfl rfl rfl (by decide +kernel) ⟨Nat.le_of_ble_eq_true rfl, Nat.le_of_ble_eq_true rfl⟩) ⟨fun a U g mk q => by obtain ⟨q0, q1, qT, qP, qK, qD⟩ := q; exact ⟨q0, q1, TW.same (u := U) (U := U.calling g mk a) rfl qT, qP, va_K.moved (u := U) (U := U.calling g mk a) (Vm.Alike.refl U.vm) qK, qD⟩, va_recv hKc hPc (ci := 6) (q0 := 0) rfl rfl, fun U hU hW => ⟨rfl, by rw [hU], by rw [hU]; exact TW.warm hW hT, by rw [hU]; exact hPc, va_K.moved hW.alike hKc, hDc.weaken (fun _ _ _ _ => trivial)⟩⟩ rfl rfl hl.1 rfl (lv_room (Nat.le_of_ble_eq_true rfl)) dL_bucketOf_5 ⟨Nat.le_of_ble_eq_true rfl, Nat.le_of_ble_eq_true rfl⟩) hS (fun q h9 h8 => absurd h8 (Nat.not_le_of_lt h9)) (fun q h8 => hA q (Nat.le_trans hS.1 h8)) (fun q h9 h8 => absurd h8 (Nat.not_le_of_lt h9)) (fun E9 ce9 q9 u9 t9 H locs ht9 hvm9 hu9 hE9 hz9 hk9 hS hce9 hcv9 hcl9 => ?_) (fun u9 t9 H9 l9 ht9 hvm9 hu9 hB9 hz9 hk9 hS9 => hu9.elim)
  subst hE9
  have hP := hP.kept (H1 := H) (fun k q hk => hk9 _ (vx_lt hP hk) (Nat.not_le_of_lt (vx_lt hP hk)))
  refine vx_catch (name := "java/lang/IllegalArgumentException") hown [⟨0, 10, 13, 13⟩] ⟨0, 10, 17, 15⟩ [] (htab.trans rfl) (fun z hz => by rcases List.mem_cons.mp hz with rfl | hz; exact Or.inr ⟨by decide, "java/lang/IndexOutOfBoundsException", hts (.classLink RL 13 "java/lang/IndexOutOfBoundsException") (by decide +kernel), hNc0⟩; exact nomatch hz) rfl (by decide) (hts (.classLink RL 15 "java/lang/IllegalArgumentException") (by decide +kernel)) (va_Nw.use rfl hT.2.2.2.2.2.2) hce9 hcv9 hcl9 ?_
  refine W.cs (cells' := 1) (slots' := 6) rfl rfl ?_
  refine lv_astore (lv' := [(4, .ref q9), (0, .ref q), (1, .int (nI 0)), (2, .int w), (3, .ref oq)]) hx hb dL_bucketOf_17 hl (by decide) rfl (fun ls hl => ?_)
  refine lv_iconst (v := nI 2) hx hb dL_bucketOf_19 (by decide +kernel) ?_
  have hP9 := hP.sub (ws' := [(q, .inr (6, [.ref s0, .ref s1, .ref s2]))]) [0] rfl
  have hD9 := hD.sub (ws' := [(q, .inr (6, [.ref s0, .ref s1, .ref s2]))]) [0] (by decide) rfl
  have hK9 := hK.sub (tys' := []) [] rfl
  exact W.iret (v := nI 2) hx hb hr (fun t9 ht hW => ⟨⟨nI 2, (), rfl, rfl, by rw [ht]; exact hP9, va_K.moved hW.alike hK9, hD9⟩, hS.F ht⟩) hS.2.2 dL_bucketOf_20
set_option maxHeartbeats 4000000 in
set_option maxRecDepth 100000 in
/-- law: insertRange, insertRange_f0 -/
theorem c_L_insertRange_f0 (l : Launch) (hls : l.stackTraces = false) (dC : Nat → ClassId) (dI : Nat → Nat → Nat) (q : Nat) (s0 : Nat) (s1 : Nat) (s2 : Nat) (f : Int32) (d : Int32) (n : Int32) (oq : Nat) (sa : Nat) (sz : Nat) (hW : isN f = false) : Met l yL_insertRange wsL_insertRange ({ frames := 8, cells := 1, slots := 6, locals := 129 }) (va_Pc [.ref q, .int (nI 0), .int f, .int d, .int n, .ref oq] (fun U => TW "java/lang/IllegalArgumentException" 153 "the number is out of range" sa (fun q => sz ≤ q) U U.heap ∧ va_Nc "java/lang/IllegalArgumentException" "java/lang/IndexOutOfBoundsException" U ∧ U.heap.size = sz ∧ va_P (dC, dI) vwCl [(q, .inr (6, [.ref s0, .ref s1, .ref s2]))] U.heap ∧ va_K (dC, dI) vwCl [] U ∧ va_D (fun _ => True) [(q, .inr (6, [.ref s0, .ref s1, .ref s2]))])) (va_Qi (fun (r : Int32) (u : Unit) => r = nI 2) (fun (u : Unit) (t : State) => va_P (dC, dI) vwCl [(q, .inr (6, [.ref s0, .ref s1, .ref s2]))] t.heap ∧ va_K (dC, dI) vwCl [] t ∧ va_D (va_A [(q, .inr (6, [.ref s0, .ref s1, .ref s2]))] sz) [(q, .inr (6, [.ref s0, .ref s1, .ref s2]))]) (va_A [(q, .inr (6, [.ref s0, .ref s1, .ref s2]))] sz)) 1 6 (va_A [(q, .inr (6, [.ref s0, .ref s1, .ref s2]))] sz) := by
  refine va_MetW (cc := cL_insertRange) (maxL := 7) (ret := (some .int)) (hh := [(0, 14, 17, 13), (0, 14, 21, 15)]) (by decide) rfl ?_
  intro p e s m args below meth c s₁ B hml hv
  obtain ⟨rfl, hT, hNc0, hsz, hP, hK, hD0⟩ := hv
  have hx := B.exec
  have hb := B.bytes
  have hr := B.returns
  have hts := atoms_spec (ws := wsL_insertRange) B.pre
  have hown : s.vm.findClass RL = some m.cls := findClass_of_methodNamed B.named
  have hlocks := B.notSynchronized
  have htab : c.exceptionTable.toList = tableOf [(0, 14, 17, 13), (0, 14, 21, 15)] := vx_table (x := yL_insertRange) B (hts _ List.mem_cons_self)
  subst hsz
  have hD := hD0.self (sz := s.heap.size)
  generalize hAe : va_A [(q, .inr (6, [.ref s0, .ref s1, .ref s2]))] s.heap.size = A at hD ⊢
  have hA : ∀ q : Nat, s.heap.size ≤ q → A q := fun q h => by rw [← hAe]; exact Or.inr h
  have hS : va_S A s.heap s.heap [] := va_S.rf
  have hP : va_P (dC, dI) vwCl [(q, .inr (6, [.ref s0, .ref s1, .ref s2]))] s.heap := hP
  have hl := lv_entry ([.ref q, .int (nI 0), .int f, .int d, .int n, .ref oq]) (n := 7) (Nat.le_of_ble_eq_true rfl)
  rw [lg_entry_eq]
  generalize (lg_sl ([.ref q, .int (nI 0), .int f, .int d, .int n, .ref oq]) ++ List.replicate (7 - (lg_sl ([.ref q, .int (nI 0), .int f, .int d, .int n, .ref oq])).length) Slot.unset).toArray = ls at hl ⊢
  have hl : lv_has ls 7 [(0, .ref q), (1, .int (nI 0)), (2, .int f), (3, .int d), (4, .int n), (5, .ref oq)] := hl
  refine lv_aload hx hb dL_insertRange_0 (lv_at hl 5 rfl) ?_
  refine lv_iconst (v := nI 0) hx hb dL_insertRange_2 (by decide +kernel) ?_
  refine lv_aload_n hx hb dL_insertRange_3 rfl (lv_at hl 0 rfl) ?_
  refine lv_iload_n hx hb dL_insertRange_4 rfl (lv_at hl 1 rfl) ?_
  refine lv_iload_n hx hb dL_insertRange_5 rfl (lv_at hl 2 rfl) ?_
  refine lv_iload_n hx hb dL_insertRange_6 rfl (lv_at hl 3 rfl) ?_
  refine lv_iload hx hb dL_insertRange_7 (lv_at hl 4 rfl) ?_
  have hPc := hP.sub (ws' := [(q, .inr (6, [.ref s0, .ref s1, .ref s2]))]) [0] rfl
  have hKc := hK.sub (tys' := []) [] rfl
  have hDc := hD.sub (ws' := [(q, .inr (6, [.ref s0, .ref s1, .ref s2]))]) [0] (by decide) rfl
  refine vx_callv (vx_runV (As := [.int (nI 0), .int f, .int d, .int n]) (rest := [.int (nI 0), .ref oq]) ⟨hx, hb, hml, hown, hts⟩ (x_X7_insertRange_f0 l hls dC dI q s0 s1 s2 f d n sa s.heap.size (by first | assumption | omega)) (cwV 4 hts gL_insertRange_X7_insertRange rfl rfl rfl (by decide +kernel) ⟨Nat.le_of_ble_eq_true rfl, Nat.le_of_ble_eq_true rfl⟩) ⟨fun a U g mk q => by obtain ⟨q0, q1, qT, qP, qK, qD⟩ := q; exact ⟨q0, q1, TW.same (u := U) (U := U.calling g mk a) rfl qT, qP, va_K.moved (u := U) (U := U.calling g mk a) (Vm.Alike.refl U.vm) qK, qD⟩, va_recv hKc hPc (ci := 6) (q0 := 0) rfl rfl, fun U hU hW => ⟨rfl, by rw [hU], by rw [hU]; exact TW.warm hW hT, by rw [hU]; exact hPc, va_K.moved hW.alike hKc, hDc.weaken (fun _ _ _ _ => trivial)⟩⟩ rfl rfl hl.1 rfl (lv_room (Nat.le_of_ble_eq_true rfl)) dL_insertRange_9 ⟨Nat.le_of_ble_eq_true rfl, Nat.le_of_ble_eq_true rfl⟩) hS (fun q h9 h8 => absurd h8 (Nat.not_le_of_lt h9)) (fun q h8 => hA q (Nat.le_trans hS.1 h8)) (fun q h9 h8 => absurd h8 (Nat.not_le_of_lt h9)) (fun E9 ce9 q9 u9 t9 H locs ht9 hvm9 hu9 hE9 hz9 hk9 hS hce9 hcv9 hcl9 => ?_) (fun u9 t9 H9 l9 ht9 hvm9 hu9 hB9 hz9 hk9 hS9 => hu9.elim)
  subst hE9
  have hP := hP.kept (H1 := H) (fun k q hk => hk9 _ (vx_lt hP hk) (Nat.not_le_of_lt (vx_lt hP hk)))
  refine vx_catch (name := "java/lang/IllegalArgumentException") hown [⟨0, 14, 17, 13⟩] ⟨0, 14, 21, 15⟩ [] (htab.trans rfl) (fun z hz => by rcases List.mem_cons.mp hz with rfl | hz; exact Or.inr ⟨by decide, "java/lang/IndexOutOfBoundsException", hts (.classLink RL 13 "java/lang/IndexOutOfBoundsException") (by decide +kernel), hNc0⟩; exact nomatch hz) rfl (by decide) (hts (.classLink RL 15 "java/lang/IllegalArgumentException") (by decide +kernel)) (va_Nw.use rfl hT.2.2.2.2.2.2) hce9 hcv9 hcl9 ?_
  refine W.cs (cells' := 1) (slots' := 6) rfl rfl ?_
  refine lv_astore (lv' := [(6, .ref q9), (0, .ref q), (1, .int (nI 0)), (2, .int f), (3, .int d), (4, .int n), (5, .ref oq)]) hx hb dL_insertRange_21 hl (by decide) rfl (fun ls hl => ?_)
  refine lv_iconst (v := nI 2) hx hb dL_insertRange_23 (by decide +kernel) ?_
  have hP9 := hP.sub (ws' := [(q, .inr (6, [.ref s0, .ref s1, .ref s2]))]) [0] rfl
  have hD9 := hD.sub (ws' := [(q, .inr (6, [.ref s0, .ref s1, .ref s2]))]) [0] (by decide) rfl
  have hK9 := hK.sub (tys' := []) [] rfl
  exact W.iret (v := nI 2) hx hb hr (fun t9 ht hW => ⟨⟨nI 2, (), rfl, rfl, by rw [ht]; exact hP9, va_K.moved hW.alike hK9, hD9⟩, hS.F ht⟩) hS.2.2 dL_insertRange_24
set_option maxHeartbeats 4000000 in
set_option maxRecDepth 100000 in
/-- law: insertRange, insertRange_d0 -/
theorem c_L_insertRange_d0 (l : Launch) (hls : l.stackTraces = false) (dC : Nat → ClassId) (dI : Nat → Nat → Nat) (q : Nat) (s0 : Nat) (s1 : Nat) (s2 : Nat) (a : Nat) (d : Int32) (n : Int32) (oq : Nat) (sa : Nat) (sz : Nat) (ha : a < 4096) (hW : inB d 1 1000 = false) : Met l yL_insertRange wsL_insertRange ({ frames := 8, cells := 1, slots := 6, locals := 130 }) (va_Pc [.ref q, .int (nI 0), .int (nI a), .int d, .int n, .ref oq] (fun U => TW "java/lang/IllegalArgumentException" 156 "the step is out of range" sa (fun q => sz ≤ q) U U.heap ∧ va_Nc "java/lang/IllegalArgumentException" "java/lang/IndexOutOfBoundsException" U ∧ U.heap.size = sz ∧ va_P (dC, dI) vwCl [(q, .inr (6, [.ref s0, .ref s1, .ref s2]))] U.heap ∧ va_K (dC, dI) vwCl [] U ∧ va_D (fun _ => True) [(q, .inr (6, [.ref s0, .ref s1, .ref s2]))])) (va_Qi (fun (r : Int32) (u : Unit) => r = nI 2) (fun (u : Unit) (t : State) => va_P (dC, dI) vwCl [(q, .inr (6, [.ref s0, .ref s1, .ref s2]))] t.heap ∧ va_K (dC, dI) vwCl [] t ∧ va_D (va_A [(q, .inr (6, [.ref s0, .ref s1, .ref s2]))] sz) [(q, .inr (6, [.ref s0, .ref s1, .ref s2]))]) (va_A [(q, .inr (6, [.ref s0, .ref s1, .ref s2]))] sz)) 1 6 (va_A [(q, .inr (6, [.ref s0, .ref s1, .ref s2]))] sz) := by
  refine va_MetW (cc := cL_insertRange) (maxL := 7) (ret := (some .int)) (hh := [(0, 14, 17, 13), (0, 14, 21, 15)]) (by decide) rfl ?_
  intro p e s m args below meth c s₁ B hml hv
  obtain ⟨rfl, hT, hNc0, hsz, hP, hK, hD0⟩ := hv
  have hx := B.exec
  have hb := B.bytes
  have hr := B.returns
  have hts := atoms_spec (ws := wsL_insertRange) B.pre
  have hown : s.vm.findClass RL = some m.cls := findClass_of_methodNamed B.named
  have hlocks := B.notSynchronized
  have htab : c.exceptionTable.toList = tableOf [(0, 14, 17, 13), (0, 14, 21, 15)] := vx_table (x := yL_insertRange) B (hts _ List.mem_cons_self)
  subst hsz
  have hD := hD0.self (sz := s.heap.size)
  generalize hAe : va_A [(q, .inr (6, [.ref s0, .ref s1, .ref s2]))] s.heap.size = A at hD ⊢
  have hA : ∀ q : Nat, s.heap.size ≤ q → A q := fun q h => by rw [← hAe]; exact Or.inr h
  have hS : va_S A s.heap s.heap [] := va_S.rf
  have hP : va_P (dC, dI) vwCl [(q, .inr (6, [.ref s0, .ref s1, .ref s2]))] s.heap := hP
  have hl := lv_entry ([.ref q, .int (nI 0), .int (nI a), .int d, .int n, .ref oq]) (n := 7) (Nat.le_of_ble_eq_true rfl)
  rw [lg_entry_eq]
  generalize (lg_sl ([.ref q, .int (nI 0), .int (nI a), .int d, .int n, .ref oq]) ++ List.replicate (7 - (lg_sl ([.ref q, .int (nI 0), .int (nI a), .int d, .int n, .ref oq])).length) Slot.unset).toArray = ls at hl ⊢
  have hl : lv_has ls 7 [(0, .ref q), (1, .int (nI 0)), (2, .int (nI a)), (3, .int d), (4, .int n), (5, .ref oq)] := hl
  refine lv_aload hx hb dL_insertRange_0 (lv_at hl 5 rfl) ?_
  refine lv_iconst (v := nI 0) hx hb dL_insertRange_2 (by decide +kernel) ?_
  refine lv_aload_n hx hb dL_insertRange_3 rfl (lv_at hl 0 rfl) ?_
  refine lv_iload_n hx hb dL_insertRange_4 rfl (lv_at hl 1 rfl) ?_
  refine lv_iload_n hx hb dL_insertRange_5 rfl (lv_at hl 2 rfl) ?_
  refine lv_iload_n hx hb dL_insertRange_6 rfl (lv_at hl 3 rfl) ?_
  refine lv_iload hx hb dL_insertRange_7 (lv_at hl 4 rfl) ?_
  have hPc := hP.sub (ws' := [(q, .inr (6, [.ref s0, .ref s1, .ref s2]))]) [0] rfl
  have hKc := hK.sub (tys' := []) [] rfl
  have hDc := hD.sub (ws' := [(q, .inr (6, [.ref s0, .ref s1, .ref s2]))]) [0] (by decide) rfl
  refine vx_callv (vx_runV (As := [.int (nI 0), .int (nI a), .int d, .int n]) (rest := [.int (nI 0), .ref oq]) ⟨hx, hb, hml, hown, hts⟩ (x_X7_insertRange_d0 l hls dC dI q s0 s1 s2 a d n sa s.heap.size (by first | assumption | omega) (by first | assumption | omega)) (cwV 4 hts gL_insertRange_X7_insertRange rfl rfl rfl (by decide +kernel) ⟨Nat.le_of_ble_eq_true rfl, Nat.le_of_ble_eq_true rfl⟩) ⟨fun a U g mk q => by obtain ⟨q0, q1, qT, qP, qK, qD⟩ := q; exact ⟨q0, q1, TW.same (u := U) (U := U.calling g mk a) rfl qT, qP, va_K.moved (u := U) (U := U.calling g mk a) (Vm.Alike.refl U.vm) qK, qD⟩, va_recv hKc hPc (ci := 6) (q0 := 0) rfl rfl, fun U hU hW => ⟨rfl, by rw [hU], by rw [hU]; exact TW.warm hW hT, by rw [hU]; exact hPc, va_K.moved hW.alike hKc, hDc.weaken (fun _ _ _ _ => trivial)⟩⟩ rfl rfl hl.1 rfl (lv_room (Nat.le_of_ble_eq_true rfl)) dL_insertRange_9 ⟨Nat.le_of_ble_eq_true rfl, Nat.le_of_ble_eq_true rfl⟩) hS (fun q h9 h8 => absurd h8 (Nat.not_le_of_lt h9)) (fun q h8 => hA q (Nat.le_trans hS.1 h8)) (fun q h9 h8 => absurd h8 (Nat.not_le_of_lt h9)) (fun E9 ce9 q9 u9 t9 H locs ht9 hvm9 hu9 hE9 hz9 hk9 hS hce9 hcv9 hcl9 => ?_) (fun u9 t9 H9 l9 ht9 hvm9 hu9 hB9 hz9 hk9 hS9 => hu9.elim)
  subst hE9
  have hP := hP.kept (H1 := H) (fun k q hk => hk9 _ (vx_lt hP hk) (Nat.not_le_of_lt (vx_lt hP hk)))
  refine vx_catch (name := "java/lang/IllegalArgumentException") hown [⟨0, 14, 17, 13⟩] ⟨0, 14, 21, 15⟩ [] (htab.trans rfl) (fun z hz => by rcases List.mem_cons.mp hz with rfl | hz; exact Or.inr ⟨by decide, "java/lang/IndexOutOfBoundsException", hts (.classLink RL 13 "java/lang/IndexOutOfBoundsException") (by decide +kernel), hNc0⟩; exact nomatch hz) rfl (by decide) (hts (.classLink RL 15 "java/lang/IllegalArgumentException") (by decide +kernel)) (va_Nw.use rfl hT.2.2.2.2.2.2) hce9 hcv9 hcl9 ?_
  refine W.cs (cells' := 1) (slots' := 6) rfl rfl ?_
  refine lv_astore (lv' := [(6, .ref q9), (0, .ref q), (1, .int (nI 0)), (2, .int (nI a)), (3, .int d), (4, .int n), (5, .ref oq)]) hx hb dL_insertRange_21 hl (by decide) rfl (fun ls hl => ?_)
  refine lv_iconst (v := nI 2) hx hb dL_insertRange_23 (by decide +kernel) ?_
  have hP9 := hP.sub (ws' := [(q, .inr (6, [.ref s0, .ref s1, .ref s2]))]) [0] rfl
  have hD9 := hD.sub (ws' := [(q, .inr (6, [.ref s0, .ref s1, .ref s2]))]) [0] (by decide) rfl
  have hK9 := hK.sub (tys' := []) [] rfl
  exact W.iret (v := nI 2) hx hb hr (fun t9 ht hW => ⟨⟨nI 2, (), rfl, rfl, by rw [ht]; exact hP9, va_K.moved hW.alike hK9, hD9⟩, hS.F ht⟩) hS.2.2 dL_insertRange_24
set_option maxHeartbeats 4000000 in
set_option maxRecDepth 100000 in
/-- law: insertRange, insertRange_c0 -/
theorem c_L_insertRange_c0 (l : Launch) (hls : l.stackTraces = false) (dC : Nat → ClassId) (dI : Nat → Nat → Nat) (q : Nat) (s0 : Nat) (s1 : Nat) (s2 : Nat) (a : Nat) (d : Nat) (n : Int32) (oq : Nat) (sa : Nat) (sz : Nat) (ha : a < 4096) (hd : 1 ≤ d ∧ d ≤ 1000) (hW : inB n 1 30 = false) : Met l yL_insertRange wsL_insertRange ({ frames := 8, cells := 1, slots := 6, locals := 130 }) (va_Pc [.ref q, .int (nI 0), .int (nI a), .int (nI d), .int n, .ref oq] (fun U => TW "java/lang/IllegalArgumentException" 158 "the count is out of range" sa (fun q => sz ≤ q) U U.heap ∧ va_Nc "java/lang/IllegalArgumentException" "java/lang/IndexOutOfBoundsException" U ∧ U.heap.size = sz ∧ va_P (dC, dI) vwCl [(q, .inr (6, [.ref s0, .ref s1, .ref s2]))] U.heap ∧ va_K (dC, dI) vwCl [] U ∧ va_D (fun _ => True) [(q, .inr (6, [.ref s0, .ref s1, .ref s2]))])) (va_Qi (fun (r : Int32) (u : Unit) => r = nI 2) (fun (u : Unit) (t : State) => va_P (dC, dI) vwCl [(q, .inr (6, [.ref s0, .ref s1, .ref s2]))] t.heap ∧ va_K (dC, dI) vwCl [] t ∧ va_D (va_A [(q, .inr (6, [.ref s0, .ref s1, .ref s2]))] sz) [(q, .inr (6, [.ref s0, .ref s1, .ref s2]))]) (va_A [(q, .inr (6, [.ref s0, .ref s1, .ref s2]))] sz)) 1 6 (va_A [(q, .inr (6, [.ref s0, .ref s1, .ref s2]))] sz) := by
  refine va_MetW (cc := cL_insertRange) (maxL := 7) (ret := (some .int)) (hh := [(0, 14, 17, 13), (0, 14, 21, 15)]) (by decide) rfl ?_
  intro p e s m args below meth c s₁ B hml hv
  obtain ⟨rfl, hT, hNc0, hsz, hP, hK, hD0⟩ := hv
  have hx := B.exec
  have hb := B.bytes
  have hr := B.returns
  have hts := atoms_spec (ws := wsL_insertRange) B.pre
  have hown : s.vm.findClass RL = some m.cls := findClass_of_methodNamed B.named
  have hlocks := B.notSynchronized
  have htab : c.exceptionTable.toList = tableOf [(0, 14, 17, 13), (0, 14, 21, 15)] := vx_table (x := yL_insertRange) B (hts _ List.mem_cons_self)
  subst hsz
  have hD := hD0.self (sz := s.heap.size)
  generalize hAe : va_A [(q, .inr (6, [.ref s0, .ref s1, .ref s2]))] s.heap.size = A at hD ⊢
  have hA : ∀ q : Nat, s.heap.size ≤ q → A q := fun q h => by rw [← hAe]; exact Or.inr h
  have hS : va_S A s.heap s.heap [] := va_S.rf
  have hP : va_P (dC, dI) vwCl [(q, .inr (6, [.ref s0, .ref s1, .ref s2]))] s.heap := hP
  have hl := lv_entry ([.ref q, .int (nI 0), .int (nI a), .int (nI d), .int n, .ref oq]) (n := 7) (Nat.le_of_ble_eq_true rfl)
  rw [lg_entry_eq]
  generalize (lg_sl ([.ref q, .int (nI 0), .int (nI a), .int (nI d), .int n, .ref oq]) ++ List.replicate (7 - (lg_sl ([.ref q, .int (nI 0), .int (nI a), .int (nI d), .int n, .ref oq])).length) Slot.unset).toArray = ls at hl ⊢
  have hl : lv_has ls 7 [(0, .ref q), (1, .int (nI 0)), (2, .int (nI a)), (3, .int (nI d)), (4, .int n), (5, .ref oq)] := hl
  refine lv_aload hx hb dL_insertRange_0 (lv_at hl 5 rfl) ?_
  refine lv_iconst (v := nI 0) hx hb dL_insertRange_2 (by decide +kernel) ?_
  refine lv_aload_n hx hb dL_insertRange_3 rfl (lv_at hl 0 rfl) ?_
  refine lv_iload_n hx hb dL_insertRange_4 rfl (lv_at hl 1 rfl) ?_
  refine lv_iload_n hx hb dL_insertRange_5 rfl (lv_at hl 2 rfl) ?_
  refine lv_iload_n hx hb dL_insertRange_6 rfl (lv_at hl 3 rfl) ?_
  refine lv_iload hx hb dL_insertRange_7 (lv_at hl 4 rfl) ?_
  have hPc := hP.sub (ws' := [(q, .inr (6, [.ref s0, .ref s1, .ref s2]))]) [0] rfl
  have hKc := hK.sub (tys' := []) [] rfl
  have hDc := hD.sub (ws' := [(q, .inr (6, [.ref s0, .ref s1, .ref s2]))]) [0] (by decide) rfl
  refine vx_callv (vx_runV (As := [.int (nI 0), .int (nI a), .int (nI d), .int n]) (rest := [.int (nI 0), .ref oq]) ⟨hx, hb, hml, hown, hts⟩ (x_X7_insertRange_c0 l hls dC dI q s0 s1 s2 a d n sa s.heap.size (by first | assumption | omega) (by first | assumption | omega) (by first | assumption | omega)) (cwV 4 hts gL_insertRange_X7_insertRange rfl rfl rfl (by decide +kernel) ⟨Nat.le_of_ble_eq_true rfl, Nat.le_of_ble_eq_true rfl⟩) ⟨fun a U g mk q => by obtain ⟨q0, q1, qT, qP, qK, qD⟩ := q; exact ⟨q0, q1, TW.same (u := U) (U := U.calling g mk a) rfl qT, qP, va_K.moved (u := U) (U := U.calling g mk a) (Vm.Alike.refl U.vm) qK, qD⟩, va_recv hKc hPc (ci := 6) (q0 := 0) rfl rfl, fun U hU hW => ⟨rfl, by rw [hU], by rw [hU]; exact TW.warm hW hT, by rw [hU]; exact hPc, va_K.moved hW.alike hKc, hDc.weaken (fun _ _ _ _ => trivial)⟩⟩ rfl rfl hl.1 rfl (lv_room (Nat.le_of_ble_eq_true rfl)) dL_insertRange_9 ⟨Nat.le_of_ble_eq_true rfl, Nat.le_of_ble_eq_true rfl⟩) hS (fun q h9 h8 => absurd h8 (Nat.not_le_of_lt h9)) (fun q h8 => hA q (Nat.le_trans hS.1 h8)) (fun q h9 h8 => absurd h8 (Nat.not_le_of_lt h9)) (fun E9 ce9 q9 u9 t9 H locs ht9 hvm9 hu9 hE9 hz9 hk9 hS hce9 hcv9 hcl9 => ?_) (fun u9 t9 H9 l9 ht9 hvm9 hu9 hB9 hz9 hk9 hS9 => hu9.elim)
  subst hE9
  have hP := hP.kept (H1 := H) (fun k q hk => hk9 _ (vx_lt hP hk) (Nat.not_le_of_lt (vx_lt hP hk)))
  refine vx_catch (name := "java/lang/IllegalArgumentException") hown [⟨0, 14, 17, 13⟩] ⟨0, 14, 21, 15⟩ [] (htab.trans rfl) (fun z hz => by rcases List.mem_cons.mp hz with rfl | hz; exact Or.inr ⟨by decide, "java/lang/IndexOutOfBoundsException", hts (.classLink RL 13 "java/lang/IndexOutOfBoundsException") (by decide +kernel), hNc0⟩; exact nomatch hz) rfl (by decide) (hts (.classLink RL 15 "java/lang/IllegalArgumentException") (by decide +kernel)) (va_Nw.use rfl hT.2.2.2.2.2.2) hce9 hcv9 hcl9 ?_
  refine W.cs (cells' := 1) (slots' := 6) rfl rfl ?_
  refine lv_astore (lv' := [(6, .ref q9), (0, .ref q), (1, .int (nI 0)), (2, .int (nI a)), (3, .int (nI d)), (4, .int n), (5, .ref oq)]) hx hb dL_insertRange_21 hl (by decide) rfl (fun ls hl => ?_)
  refine lv_iconst (v := nI 2) hx hb dL_insertRange_23 (by decide +kernel) ?_
  have hP9 := hP.sub (ws' := [(q, .inr (6, [.ref s0, .ref s1, .ref s2]))]) [0] rfl
  have hD9 := hD.sub (ws' := [(q, .inr (6, [.ref s0, .ref s1, .ref s2]))]) [0] (by decide) rfl
  have hK9 := hK.sub (tys' := []) [] rfl
  exact W.iret (v := nI 2) hx hb hr (fun t9 ht hW => ⟨⟨nI 2, (), rfl, rfl, by rw [ht]; exact hP9, va_K.moved hW.alike hK9, hD9⟩, hS.F ht⟩) hS.2.2 dL_insertRange_24
set_option maxHeartbeats 4000000 in
set_option maxRecDepth 100000 in
/-- law: insertRange, insertRange_e0 -/
theorem c_L_insertRange_e0 (l : Launch) (hls : l.stackTraces = false) (dC : Nat → ClassId) (dI : Nat → Nat → Nat) (q : Nat) (s0 : Nat) (s1 : Nat) (s2 : Nat) (a : Nat) (d : Nat) (n : Nat) (oq : Nat) (sa : Nat) (sz : Nat) (ha : a < 4096) (hd : 1 ≤ d ∧ d ≤ 1000) (hn : 1 ≤ n ∧ n ≤ 30) (hW : isN (nI (a + (n - 1) * d)) = false) : Met l yL_insertRange wsL_insertRange ({ frames := 8, cells := 1, slots := 6, locals := 129 }) (va_Pc [.ref q, .int (nI 0), .int (nI a), .int (nI d), .int (nI n), .ref oq] (fun U => TW "java/lang/IllegalArgumentException" 153 "the number is out of range" sa (fun q => sz ≤ q) U U.heap ∧ va_Nc "java/lang/IllegalArgumentException" "java/lang/IndexOutOfBoundsException" U ∧ U.heap.size = sz ∧ va_P (dC, dI) vwCl [(q, .inr (6, [.ref s0, .ref s1, .ref s2]))] U.heap ∧ va_K (dC, dI) vwCl [] U ∧ va_D (fun _ => True) [(q, .inr (6, [.ref s0, .ref s1, .ref s2]))])) (va_Qi (fun (r : Int32) (u : Unit) => r = nI 2) (fun (u : Unit) (t : State) => va_P (dC, dI) vwCl [(q, .inr (6, [.ref s0, .ref s1, .ref s2]))] t.heap ∧ va_K (dC, dI) vwCl [] t ∧ va_D (va_A [(q, .inr (6, [.ref s0, .ref s1, .ref s2]))] sz) [(q, .inr (6, [.ref s0, .ref s1, .ref s2]))]) (va_A [(q, .inr (6, [.ref s0, .ref s1, .ref s2]))] sz)) 1 6 (va_A [(q, .inr (6, [.ref s0, .ref s1, .ref s2]))] sz) := by
  refine va_MetW (cc := cL_insertRange) (maxL := 7) (ret := (some .int)) (hh := [(0, 14, 17, 13), (0, 14, 21, 15)]) (by decide) rfl ?_
  intro p e s m args below meth c s₁ B hml hv
  obtain ⟨rfl, hT, hNc0, hsz, hP, hK, hD0⟩ := hv
  have hx := B.exec
  have hb := B.bytes
  have hr := B.returns
  have hts := atoms_spec (ws := wsL_insertRange) B.pre
  have hown : s.vm.findClass RL = some m.cls := findClass_of_methodNamed B.named
  have hlocks := B.notSynchronized
  have htab : c.exceptionTable.toList = tableOf [(0, 14, 17, 13), (0, 14, 21, 15)] := vx_table (x := yL_insertRange) B (hts _ List.mem_cons_self)
  subst hsz
  have hD := hD0.self (sz := s.heap.size)
  generalize hAe : va_A [(q, .inr (6, [.ref s0, .ref s1, .ref s2]))] s.heap.size = A at hD ⊢
  have hA : ∀ q : Nat, s.heap.size ≤ q → A q := fun q h => by rw [← hAe]; exact Or.inr h
  have hS : va_S A s.heap s.heap [] := va_S.rf
  have hP : va_P (dC, dI) vwCl [(q, .inr (6, [.ref s0, .ref s1, .ref s2]))] s.heap := hP
  have hl := lv_entry ([.ref q, .int (nI 0), .int (nI a), .int (nI d), .int (nI n), .ref oq]) (n := 7) (Nat.le_of_ble_eq_true rfl)
  rw [lg_entry_eq]
  generalize (lg_sl ([.ref q, .int (nI 0), .int (nI a), .int (nI d), .int (nI n), .ref oq]) ++ List.replicate (7 - (lg_sl ([.ref q, .int (nI 0), .int (nI a), .int (nI d), .int (nI n), .ref oq])).length) Slot.unset).toArray = ls at hl ⊢
  have hl : lv_has ls 7 [(0, .ref q), (1, .int (nI 0)), (2, .int (nI a)), (3, .int (nI d)), (4, .int (nI n)), (5, .ref oq)] := hl
  refine lv_aload hx hb dL_insertRange_0 (lv_at hl 5 rfl) ?_
  refine lv_iconst (v := nI 0) hx hb dL_insertRange_2 (by decide +kernel) ?_
  refine lv_aload_n hx hb dL_insertRange_3 rfl (lv_at hl 0 rfl) ?_
  refine lv_iload_n hx hb dL_insertRange_4 rfl (lv_at hl 1 rfl) ?_
  refine lv_iload_n hx hb dL_insertRange_5 rfl (lv_at hl 2 rfl) ?_
  refine lv_iload_n hx hb dL_insertRange_6 rfl (lv_at hl 3 rfl) ?_
  refine lv_iload hx hb dL_insertRange_7 (lv_at hl 4 rfl) ?_
  have hPc := hP.sub (ws' := [(q, .inr (6, [.ref s0, .ref s1, .ref s2]))]) [0] rfl
  have hKc := hK.sub (tys' := []) [] rfl
  have hDc := hD.sub (ws' := [(q, .inr (6, [.ref s0, .ref s1, .ref s2]))]) [0] (by decide) rfl
  refine vx_callv (vx_runV (As := [.int (nI 0), .int (nI a), .int (nI d), .int (nI n)]) (rest := [.int (nI 0), .ref oq]) ⟨hx, hb, hml, hown, hts⟩ (x_X7_insertRange_e0 l hls dC dI q s0 s1 s2 a d n sa s.heap.size (by first | assumption | omega) (by first | assumption | omega) (by first | assumption | omega) (by first | assumption | omega)) (cwV 4 hts gL_insertRange_X7_insertRange rfl rfl rfl (by decide +kernel) ⟨Nat.le_of_ble_eq_true rfl, Nat.le_of_ble_eq_true rfl⟩) ⟨fun a U g mk q => by obtain ⟨q0, q1, qT, qP, qK, qD⟩ := q; exact ⟨q0, q1, TW.same (u := U) (U := U.calling g mk a) rfl qT, qP, va_K.moved (u := U) (U := U.calling g mk a) (Vm.Alike.refl U.vm) qK, qD⟩, va_recv hKc hPc (ci := 6) (q0 := 0) rfl rfl, fun U hU hW => ⟨rfl, by rw [hU], by rw [hU]; exact TW.warm hW hT, by rw [hU]; exact hPc, va_K.moved hW.alike hKc, hDc.weaken (fun _ _ _ _ => trivial)⟩⟩ rfl rfl hl.1 rfl (lv_room (Nat.le_of_ble_eq_true rfl)) dL_insertRange_9 ⟨Nat.le_of_ble_eq_true rfl, Nat.le_of_ble_eq_true rfl⟩) hS (fun q h9 h8 => absurd h8 (Nat.not_le_of_lt h9)) (fun q h8 => hA q (Nat.le_trans hS.1 h8)) (fun q h9 h8 => absurd h8 (Nat.not_le_of_lt h9)) (fun E9 ce9 q9 u9 t9 H locs ht9 hvm9 hu9 hE9 hz9 hk9 hS hce9 hcv9 hcl9 => ?_) (fun u9 t9 H9 l9 ht9 hvm9 hu9 hB9 hz9 hk9 hS9 => hu9.elim)
  subst hE9
  have hP := hP.kept (H1 := H) (fun k q hk => hk9 _ (vx_lt hP hk) (Nat.not_le_of_lt (vx_lt hP hk)))
  refine vx_catch (name := "java/lang/IllegalArgumentException") hown [⟨0, 14, 17, 13⟩] ⟨0, 14, 21, 15⟩ [] (htab.trans rfl) (fun z hz => by rcases List.mem_cons.mp hz with rfl | hz; exact Or.inr ⟨by decide, "java/lang/IndexOutOfBoundsException", hts (.classLink RL 13 "java/lang/IndexOutOfBoundsException") (by decide +kernel), hNc0⟩; exact nomatch hz) rfl (by decide) (hts (.classLink RL 15 "java/lang/IllegalArgumentException") (by decide +kernel)) (va_Nw.use rfl hT.2.2.2.2.2.2) hce9 hcv9 hcl9 ?_
  refine W.cs (cells' := 1) (slots' := 6) rfl rfl ?_
  refine lv_astore (lv' := [(6, .ref q9), (0, .ref q), (1, .int (nI 0)), (2, .int (nI a)), (3, .int (nI d)), (4, .int (nI n)), (5, .ref oq)]) hx hb dL_insertRange_21 hl (by decide) rfl (fun ls hl => ?_)
  refine lv_iconst (v := nI 2) hx hb dL_insertRange_23 (by decide +kernel) ?_
  have hP9 := hP.sub (ws' := [(q, .inr (6, [.ref s0, .ref s1, .ref s2]))]) [0] rfl
  have hD9 := hD.sub (ws' := [(q, .inr (6, [.ref s0, .ref s1, .ref s2]))]) [0] (by decide) rfl
  have hK9 := hK.sub (tys' := []) [] rfl
  exact W.iret (v := nI 2) hx hb hr (fun t9 ht hW => ⟨⟨nI 2, (), rfl, rfl, by rw [ht]; exact hP9, va_K.moved hW.alike hK9, hD9⟩, hS.F ht⟩) hS.2.2 dL_insertRange_24
set_option maxHeartbeats 4000000 in
set_option maxRecDepth 100000 in
/-- law: insertAll, insertAll_t0 -/
theorem c_L_insertAll_t0 (l : Launch) (hls : l.stackTraces = false) (dC : Nat → ClassId) (dI : Nat → Nat → Nat) (q : Nat) (s0 : Nat) (s1 : Nat) (s2 : Nat) (w : Int32) (oq : Nat) (sa : Nat) (sz : Nat) (hW : isS w = false) : Met l yL_insertAll wsL_insertAll ({ frames := 8, cells := 1, slots := 6, locals := 130 }) (va_Pc [.ref q, .int (nI 0), .int w, .ref oq] (fun U => TW "java/lang/IndexOutOfBoundsException" 148 "no such set" sa (fun q => sz ≤ q) U U.heap ∧ U.heap.size = sz ∧ va_P (dC, dI) vwCl [(q, .inr (6, [.ref s0, .ref s1, .ref s2]))] U.heap ∧ va_K (dC, dI) vwCl [] U ∧ va_D (fun _ => True) [(q, .inr (6, [.ref s0, .ref s1, .ref s2]))])) (va_Qi (fun (r : Int32) (u : Unit) => r = nI 1) (fun (u : Unit) (t : State) => va_P (dC, dI) vwCl [(q, .inr (6, [.ref s0, .ref s1, .ref s2]))] t.heap ∧ va_K (dC, dI) vwCl [] t ∧ va_D (va_A [(q, .inr (6, [.ref s0, .ref s1, .ref s2]))] sz) [(q, .inr (6, [.ref s0, .ref s1, .ref s2]))]) (va_A [(q, .inr (6, [.ref s0, .ref s1, .ref s2]))] sz)) 1 6 (va_A [(q, .inr (6, [.ref s0, .ref s1, .ref s2]))] sz) := by
  refine va_MetW (cc := cL_insertAll) (maxL := 5) (ret := (some .int)) (hh := [(0, 10, 13, 13), (0, 10, 17, 25)]) (by decide) rfl ?_
  intro p e s m args below meth c s₁ B hml hv
  obtain ⟨rfl, hT, hsz, hP, hK, hD0⟩ := hv
  have hx := B.exec
  have hb := B.bytes
  have hr := B.returns
  have hts := atoms_spec (ws := wsL_insertAll) B.pre
  have hown : s.vm.findClass RL = some m.cls := findClass_of_methodNamed B.named
  have hlocks := B.notSynchronized
  have htab : c.exceptionTable.toList = tableOf [(0, 10, 13, 13), (0, 10, 17, 25)] := vx_table (x := yL_insertAll) B (hts _ List.mem_cons_self)
  subst hsz
  have hD := hD0.self (sz := s.heap.size)
  generalize hAe : va_A [(q, .inr (6, [.ref s0, .ref s1, .ref s2]))] s.heap.size = A at hD ⊢
  have hA : ∀ q : Nat, s.heap.size ≤ q → A q := fun q h => by rw [← hAe]; exact Or.inr h
  have hS : va_S A s.heap s.heap [] := va_S.rf
  have hP : va_P (dC, dI) vwCl [(q, .inr (6, [.ref s0, .ref s1, .ref s2]))] s.heap := hP
  have hl := lv_entry ([.ref q, .int (nI 0), .int w, .ref oq]) (n := 5) (Nat.le_of_ble_eq_true rfl)
  rw [lg_entry_eq]
  generalize (lg_sl ([.ref q, .int (nI 0), .int w, .ref oq]) ++ List.replicate (5 - (lg_sl ([.ref q, .int (nI 0), .int w, .ref oq])).length) Slot.unset).toArray = ls at hl ⊢
  have hl : lv_has ls 5 [(0, .ref q), (1, .int (nI 0)), (2, .int w), (3, .ref oq)] := hl
  refine lv_aload_n hx hb dL_insertAll_0 rfl (lv_at hl 3 rfl) ?_
  refine lv_iconst (v := nI 0) hx hb dL_insertAll_1 (by decide +kernel) ?_
  refine lv_aload_n hx hb dL_insertAll_2 rfl (lv_at hl 0 rfl) ?_
  refine lv_iload_n hx hb dL_insertAll_3 rfl (lv_at hl 1 rfl) ?_
  refine lv_iload_n hx hb dL_insertAll_4 rfl (lv_at hl 2 rfl) ?_
  have hPc := hP.sub (ws' := [(q, .inr (6, [.ref s0, .ref s1, .ref s2]))]) [0] rfl
  have hKc := hK.sub (tys' := []) [] rfl
  have hDc := hD.sub (ws' := [(q, .inr (6, [.ref s0, .ref s1, .ref s2]))]) [0] (by decide) rfl
  refine vx_callv (vx_runV (As := [.int (nI 0), .int w]) (rest := [.int (nI 0), .ref oq]) ⟨hx, hb, hml, hown, hts⟩ (x_X7_insertAll_t0 l hls dC dI q s0 s1 s2 w sa s.heap.size (by first | assumption | omega)) (cwV 2 hts gL_insertAll_X7_insertAll rfl rfl rfl (by decide +kernel) ⟨Nat.le_of_ble_eq_true rfl, Nat.le_of_ble_eq_true rfl⟩) ⟨fun a U g mk q => by obtain ⟨q0, q1, qT, qP, qK, qD⟩ := q; exact ⟨q0, q1, TW.same (u := U) (U := U.calling g mk a) rfl qT, qP, va_K.moved (u := U) (U := U.calling g mk a) (Vm.Alike.refl U.vm) qK, qD⟩, va_recv hKc hPc (ci := 6) (q0 := 0) rfl rfl, fun U hU hW => ⟨rfl, by rw [hU], by rw [hU]; exact TW.warm hW hT, by rw [hU]; exact hPc, va_K.moved hW.alike hKc, hDc.weaken (fun _ _ _ _ => trivial)⟩⟩ rfl rfl hl.1 rfl (lv_room (Nat.le_of_ble_eq_true rfl)) dL_insertAll_5 ⟨Nat.le_of_ble_eq_true rfl, Nat.le_of_ble_eq_true rfl⟩) hS (fun q h9 h8 => absurd h8 (Nat.not_le_of_lt h9)) (fun q h8 => hA q (Nat.le_trans hS.1 h8)) (fun q h9 h8 => absurd h8 (Nat.not_le_of_lt h9)) (fun E9 ce9 q9 u9 t9 H locs ht9 hvm9 hu9 hE9 hz9 hk9 hS hce9 hcv9 hcl9 => ?_) (fun u9 t9 H9 l9 ht9 hvm9 hu9 hB9 hz9 hk9 hS9 => hu9.elim)
  subst hE9
  have hP := hP.kept (H1 := H) (fun k q hk => hk9 _ (vx_lt hP hk) (Nat.not_le_of_lt (vx_lt hP hk)))
  refine vx_catch (name := "java/lang/IndexOutOfBoundsException") hown [] ⟨0, 10, 13, 13⟩ [⟨0, 10, 17, 25⟩] (htab.trans rfl) (fun z hz => nomatch hz) rfl (by decide) (hts (.classLink RL 13 "java/lang/IndexOutOfBoundsException") (by decide +kernel)) (va_Nw.use rfl hT.2.2.2.2.2.2) hce9 hcv9 hcl9 ?_
  refine W.cs (cells' := 1) (slots' := 6) rfl rfl ?_
  refine lv_astore (lv' := [(4, .ref q9), (0, .ref q), (1, .int (nI 0)), (2, .int w), (3, .ref oq)]) hx hb dL_insertAll_13 hl (by decide) rfl (fun ls hl => ?_)
  refine lv_iconst (v := nI 1) hx hb dL_insertAll_15 (by decide +kernel) ?_
  have hP9 := hP.sub (ws' := [(q, .inr (6, [.ref s0, .ref s1, .ref s2]))]) [0] rfl
  have hD9 := hD.sub (ws' := [(q, .inr (6, [.ref s0, .ref s1, .ref s2]))]) [0] (by decide) rfl
  have hK9 := hK.sub (tys' := []) [] rfl
  exact W.iret (v := nI 1) hx hb hr (fun t9 ht hW => ⟨⟨nI 1, (), rfl, rfl, by rw [ht]; exact hP9, va_K.moved hW.alike hK9, hD9⟩, hS.F ht⟩) hS.2.2 dL_insertAll_16
set_option maxHeartbeats 4000000 in
set_option maxRecDepth 100000 in
/-- law: insertAll, insertAll_e00 -/
theorem c_L_insertAll_e00 (l : Launch) (hls : l.stackTraces = false) (dC : Nat → ClassId) (dI : Nat → Nat → Nat) (q : Nat) (s0 : Nat) (s1 : Nat) (s2 : Nat) (tq : Nat) (ca : Nat) (rq : Nat) (rb : Nat) (rd : Nat) (uq : Nat) (bm : Nat) (am : Nat) (bs : Nat) (ap : Nat) (cJ : ClassId) (fm : Nat → Int64) (fs : Nat → Int64) (ft : Nat → Int64) (fc : Nat → Int64) (sm : Int64) (lo : Option Nat) (oq : Nat) (sa : Nat) (sz : Nat) (hN : NI fm fs ft fc sm lo) (hn30 : 30 < fb_ct (bo fm) 4096) : Met l yL_insertAll wsL_insertAll ({ frames := 7, cells := 1, slots := 6, locals := 109 }) (va_Pc [.ref q, .int (nI 0), .int (nI 0), .ref oq] (fun U => va_Nw (.fieldLinkNest RX7 38 "SmallNumberSets$NumberSet" "buckets" "LSmallNumberSets$Buckets;" "SmallNumberSets") U ∧ TW "java/lang/IllegalStateException" 50 "the other set has too many members" sa (fun q => sz ≤ q) U U.heap ∧ va_Nc "java/lang/IllegalStateException" "java/lang/IndexOutOfBoundsException" U ∧ U.heap.size = sz ∧ va_P (dC, dI) vwCl [(q, .inr (6, [.ref s0, .ref s1, .ref s2])), (s0, .inr (3, [.ref tq, .ref rq, .ref uq])), (tq, .inr (4, [.ref ca, .long sm, .int (oI lo)])), (ca, .inl (cJ, 64, .inr (.inl fc))), (rq, .inr (5, [.ref rb])), (rb, .inr (0, [.ref rd])), (rd, .inl (cJ, 128, .inr (.inl ft))), (uq, .inr (1, [.ref bm, .ref bs])), (bm, .inr (0, [.ref am])), (am, .inl (cJ, 64, .inr (.inl fm))), (bs, .inr (0, [.ref ap])), (ap, .inl (cJ, 64, .inr (.inl fs)))] U.heap ∧ va_K (dC, dI) vwCl [(cJ, .long)] U ∧ va_D (fun _ => True) [(q, .inr (6, [.ref s0, .ref s1, .ref s2])), (s0, .inr (3, [.ref tq, .ref rq, .ref uq])), (tq, .inr (4, [.ref ca, .long sm, .int (oI lo)])), (ca, .inl (cJ, 64, .inr (.inl fc))), (rq, .inr (5, [.ref rb])), (rb, .inr (0, [.ref rd])), (rd, .inl (cJ, 128, .inr (.inl ft))), (uq, .inr (1, [.ref bm, .ref bs])), (bm, .inr (0, [.ref am])), (am, .inl (cJ, 64, .inr (.inl fm))), (bs, .inr (0, [.ref ap])), (ap, .inl (cJ, 64, .inr (.inl fs)))])) (va_Qi (fun (r : Int32) (u : Unit) => r = nI 2) (fun (u : Unit) (t : State) => va_P (dC, dI) vwCl [(q, .inr (6, [.ref s0, .ref s1, .ref s2])), (s0, .inr (3, [.ref tq, .ref rq, .ref uq])), (tq, .inr (4, [.ref ca, .long sm, .int (oI lo)])), (ca, .inl (cJ, 64, .inr (.inl fc))), (rq, .inr (5, [.ref rb])), (rb, .inr (0, [.ref rd])), (rd, .inl (cJ, 128, .inr (.inl ft))), (uq, .inr (1, [.ref bm, .ref bs])), (bm, .inr (0, [.ref am])), (am, .inl (cJ, 64, .inr (.inl fm))), (bs, .inr (0, [.ref ap])), (ap, .inl (cJ, 64, .inr (.inl fs)))] t.heap ∧ va_K (dC, dI) vwCl [(cJ, .long)] t ∧ va_D (va_A [(q, .inr (6, [.ref s0, .ref s1, .ref s2])), (s0, .inr (3, [.ref tq, .ref rq, .ref uq])), (tq, .inr (4, [.ref ca, .long sm, .int (oI lo)])), (ca, .inl (cJ, 64, .inr (.inl fc))), (rq, .inr (5, [.ref rb])), (rb, .inr (0, [.ref rd])), (rd, .inl (cJ, 128, .inr (.inl ft))), (uq, .inr (1, [.ref bm, .ref bs])), (bm, .inr (0, [.ref am])), (am, .inl (cJ, 64, .inr (.inl fm))), (bs, .inr (0, [.ref ap])), (ap, .inl (cJ, 64, .inr (.inl fs)))] sz) [(q, .inr (6, [.ref s0, .ref s1, .ref s2])), (s0, .inr (3, [.ref tq, .ref rq, .ref uq])), (tq, .inr (4, [.ref ca, .long sm, .int (oI lo)])), (ca, .inl (cJ, 64, .inr (.inl fc))), (rq, .inr (5, [.ref rb])), (rb, .inr (0, [.ref rd])), (rd, .inl (cJ, 128, .inr (.inl ft))), (uq, .inr (1, [.ref bm, .ref bs])), (bm, .inr (0, [.ref am])), (am, .inl (cJ, 64, .inr (.inl fm))), (bs, .inr (0, [.ref ap])), (ap, .inl (cJ, 64, .inr (.inl fs)))]) (va_A [(q, .inr (6, [.ref s0, .ref s1, .ref s2])), (s0, .inr (3, [.ref tq, .ref rq, .ref uq])), (tq, .inr (4, [.ref ca, .long sm, .int (oI lo)])), (ca, .inl (cJ, 64, .inr (.inl fc))), (rq, .inr (5, [.ref rb])), (rb, .inr (0, [.ref rd])), (rd, .inl (cJ, 128, .inr (.inl ft))), (uq, .inr (1, [.ref bm, .ref bs])), (bm, .inr (0, [.ref am])), (am, .inl (cJ, 64, .inr (.inl fm))), (bs, .inr (0, [.ref ap])), (ap, .inl (cJ, 64, .inr (.inl fs)))] sz)) 1 6 (va_A [(q, .inr (6, [.ref s0, .ref s1, .ref s2])), (s0, .inr (3, [.ref tq, .ref rq, .ref uq])), (tq, .inr (4, [.ref ca, .long sm, .int (oI lo)])), (ca, .inl (cJ, 64, .inr (.inl fc))), (rq, .inr (5, [.ref rb])), (rb, .inr (0, [.ref rd])), (rd, .inl (cJ, 128, .inr (.inl ft))), (uq, .inr (1, [.ref bm, .ref bs])), (bm, .inr (0, [.ref am])), (am, .inl (cJ, 64, .inr (.inl fm))), (bs, .inr (0, [.ref ap])), (ap, .inl (cJ, 64, .inr (.inl fs)))] sz) := by
  refine va_MetW (cc := cL_insertAll) (maxL := 5) (ret := (some .int)) (hh := [(0, 10, 13, 13), (0, 10, 17, 25)]) (by decide) rfl ?_
  intro p e s m args below meth c s₁ B hml hv
  obtain ⟨rfl, nw0, hT, hNc0, hsz, hP, hK, hD0⟩ := hv
  have hx := B.exec
  have hb := B.bytes
  have hr := B.returns
  have hts := atoms_spec (ws := wsL_insertAll) B.pre
  have hown : s.vm.findClass RL = some m.cls := findClass_of_methodNamed B.named
  have hlocks := B.notSynchronized
  have htab : c.exceptionTable.toList = tableOf [(0, 10, 13, 13), (0, 10, 17, 25)] := vx_table (x := yL_insertAll) B (hts _ List.mem_cons_self)
  subst hsz
  have hD := hD0.self (sz := s.heap.size)
  generalize hAe : va_A [(q, .inr (6, [.ref s0, .ref s1, .ref s2])), (s0, .inr (3, [.ref tq, .ref rq, .ref uq])), (tq, .inr (4, [.ref ca, .long sm, .int (oI lo)])), (ca, .inl (cJ, 64, .inr (.inl fc))), (rq, .inr (5, [.ref rb])), (rb, .inr (0, [.ref rd])), (rd, .inl (cJ, 128, .inr (.inl ft))), (uq, .inr (1, [.ref bm, .ref bs])), (bm, .inr (0, [.ref am])), (am, .inl (cJ, 64, .inr (.inl fm))), (bs, .inr (0, [.ref ap])), (ap, .inl (cJ, 64, .inr (.inl fs)))] s.heap.size = A at hD ⊢
  have hA : ∀ q : Nat, s.heap.size ≤ q → A q := fun q h => by rw [← hAe]; exact Or.inr h
  have hS : va_S A s.heap s.heap [] := va_S.rf
  have hP : va_P (dC, dI) vwCl [(q, .inr (6, [.ref s0, .ref s1, .ref s2])), (s0, .inr (3, [.ref tq, .ref rq, .ref uq])), (tq, .inr (4, [.ref ca, .long sm, .int (oI lo)])), (ca, .inl (cJ, 64, .inr (.inl fc))), (rq, .inr (5, [.ref rb])), (rb, .inr (0, [.ref rd])), (rd, .inl (cJ, 128, .inr (.inl ft))), (uq, .inr (1, [.ref bm, .ref bs])), (bm, .inr (0, [.ref am])), (am, .inl (cJ, 64, .inr (.inl fm))), (bs, .inr (0, [.ref ap])), (ap, .inl (cJ, 64, .inr (.inl fs)))] s.heap := hP
  have hl := lv_entry ([.ref q, .int (nI 0), .int (nI 0), .ref oq]) (n := 5) (Nat.le_of_ble_eq_true rfl)
  rw [lg_entry_eq]
  generalize (lg_sl ([.ref q, .int (nI 0), .int (nI 0), .ref oq]) ++ List.replicate (5 - (lg_sl ([.ref q, .int (nI 0), .int (nI 0), .ref oq])).length) Slot.unset).toArray = ls at hl ⊢
  have hl : lv_has ls 5 [(0, .ref q), (1, .int (nI 0)), (2, .int (nI 0)), (3, .ref oq)] := hl
  refine lv_aload_n hx hb dL_insertAll_0 rfl (lv_at hl 3 rfl) ?_
  refine lv_iconst (v := nI 0) hx hb dL_insertAll_1 (by decide +kernel) ?_
  refine lv_aload_n hx hb dL_insertAll_2 rfl (lv_at hl 0 rfl) ?_
  refine lv_iload_n hx hb dL_insertAll_3 rfl (lv_at hl 1 rfl) ?_
  refine lv_iload_n hx hb dL_insertAll_4 rfl (lv_at hl 2 rfl) ?_
  have hPc := hP.sub (ws' := [(q, .inr (6, [.ref s0, .ref s1, .ref s2])), (s0, .inr (3, [.ref tq, .ref rq, .ref uq])), (tq, .inr (4, [.ref ca, .long sm, .int (oI lo)])), (ca, .inl (cJ, 64, .inr (.inl fc))), (rq, .inr (5, [.ref rb])), (rb, .inr (0, [.ref rd])), (rd, .inl (cJ, 128, .inr (.inl ft))), (uq, .inr (1, [.ref bm, .ref bs])), (bm, .inr (0, [.ref am])), (am, .inl (cJ, 64, .inr (.inl fm))), (bs, .inr (0, [.ref ap])), (ap, .inl (cJ, 64, .inr (.inl fs)))]) [0, 1, 2, 3, 4, 5, 6, 7, 8, 9, 10, 11] rfl
  have hKc := hK.sub (tys' := [(cJ, .long)]) [0] rfl
  have hDc := hD.sub (ws' := [(q, .inr (6, [.ref s0, .ref s1, .ref s2])), (s0, .inr (3, [.ref tq, .ref rq, .ref uq])), (tq, .inr (4, [.ref ca, .long sm, .int (oI lo)])), (ca, .inl (cJ, 64, .inr (.inl fc))), (rq, .inr (5, [.ref rb])), (rb, .inr (0, [.ref rd])), (rd, .inl (cJ, 128, .inr (.inl ft))), (uq, .inr (1, [.ref bm, .ref bs])), (bm, .inr (0, [.ref am])), (am, .inl (cJ, 64, .inr (.inl fm))), (bs, .inr (0, [.ref ap])), (ap, .inl (cJ, 64, .inr (.inl fs)))]) [0, 1, 2, 3, 4, 5, 6, 7, 8, 9, 10, 11] (by decide) rfl
  refine vx_callv (vx_runV (As := [.int (nI 0), .int (nI 0)]) (rest := [.int (nI 0), .ref oq]) ⟨hx, hb, hml, hown, hts⟩ (x_X7_insertAll_e00 l hls dC dI q s0 s1 s2 tq ca rq rb rd uq bm am bs ap cJ fm fs ft fc sm lo sa s.heap.size (by first | assumption | omega) (by first | assumption | omega)) (cwV 2 hts gL_insertAll_X7_insertAll rfl rfl rfl (by decide +kernel) ⟨Nat.le_of_ble_eq_true rfl, Nat.le_of_ble_eq_true rfl⟩) ⟨fun a U g mk q => by obtain ⟨q0, nq0, q1, qT, qP, qK, qD⟩ := q; exact ⟨q0, va_Nw.same rfl (U := U.calling g mk a) rfl nq0, q1, TW.same (u := U) (U := U.calling g mk a) rfl qT, qP, va_K.moved (u := U) (U := U.calling g mk a) (Vm.Alike.refl U.vm) qK, qD⟩, va_recv hKc hPc (ci := 6) (q0 := 0) rfl rfl, fun U hU hW => ⟨rfl, va_Nw.warmF hW nw0, by rw [hU], by rw [hU]; exact TW.warm hW hT, by rw [hU]; exact hPc, va_K.moved hW.alike hKc, hDc.weaken (fun _ _ _ _ => trivial)⟩⟩ rfl rfl hl.1 rfl (lv_room (Nat.le_of_ble_eq_true rfl)) dL_insertAll_5 ⟨Nat.le_of_ble_eq_true rfl, Nat.le_of_ble_eq_true rfl⟩) hS (fun q h9 h8 => absurd h8 (Nat.not_le_of_lt h9)) (fun q h8 => hA q (Nat.le_trans hS.1 h8)) (fun q h9 h8 => absurd h8 (Nat.not_le_of_lt h9)) (fun E9 ce9 q9 u9 t9 H locs ht9 hvm9 hu9 hE9 hz9 hk9 hS hce9 hcv9 hcl9 => ?_) (fun u9 t9 H9 l9 ht9 hvm9 hu9 hB9 hz9 hk9 hS9 => hu9.elim)
  subst hE9
  have hP := hP.kept (H1 := H) (fun k q hk => hk9 _ (vx_lt hP hk) (Nat.not_le_of_lt (vx_lt hP hk)))
  refine vx_catch (name := "java/lang/IllegalStateException") hown [⟨0, 10, 13, 13⟩] ⟨0, 10, 17, 25⟩ [] (htab.trans rfl) (fun z hz => by rcases List.mem_cons.mp hz with rfl | hz; exact Or.inr ⟨by decide, "java/lang/IndexOutOfBoundsException", hts (.classLink RL 13 "java/lang/IndexOutOfBoundsException") (by decide +kernel), hNc0⟩; exact nomatch hz) rfl (by decide) (hts (.classLink RL 25 "java/lang/IllegalStateException") (by decide +kernel)) (va_Nw.use rfl hT.2.2.2.2.2.2) hce9 hcv9 hcl9 ?_
  refine W.cs (cells' := 1) (slots' := 6) rfl rfl ?_
  refine lv_astore (lv' := [(4, .ref q9), (0, .ref q), (1, .int (nI 0)), (2, .int (nI 0)), (3, .ref oq)]) hx hb dL_insertAll_17 hl (by decide) rfl (fun ls hl => ?_)
  refine lv_iconst (v := nI 2) hx hb dL_insertAll_19 (by decide +kernel) ?_
  have hP9 := hP.sub (ws' := [(q, .inr (6, [.ref s0, .ref s1, .ref s2])), (s0, .inr (3, [.ref tq, .ref rq, .ref uq])), (tq, .inr (4, [.ref ca, .long sm, .int (oI lo)])), (ca, .inl (cJ, 64, .inr (.inl fc))), (rq, .inr (5, [.ref rb])), (rb, .inr (0, [.ref rd])), (rd, .inl (cJ, 128, .inr (.inl ft))), (uq, .inr (1, [.ref bm, .ref bs])), (bm, .inr (0, [.ref am])), (am, .inl (cJ, 64, .inr (.inl fm))), (bs, .inr (0, [.ref ap])), (ap, .inl (cJ, 64, .inr (.inl fs)))]) [0, 1, 2, 3, 4, 5, 6, 7, 8, 9, 10, 11] rfl
  have hD9 := hD.sub (ws' := [(q, .inr (6, [.ref s0, .ref s1, .ref s2])), (s0, .inr (3, [.ref tq, .ref rq, .ref uq])), (tq, .inr (4, [.ref ca, .long sm, .int (oI lo)])), (ca, .inl (cJ, 64, .inr (.inl fc))), (rq, .inr (5, [.ref rb])), (rb, .inr (0, [.ref rd])), (rd, .inl (cJ, 128, .inr (.inl ft))), (uq, .inr (1, [.ref bm, .ref bs])), (bm, .inr (0, [.ref am])), (am, .inl (cJ, 64, .inr (.inl fm))), (bs, .inr (0, [.ref ap])), (ap, .inl (cJ, 64, .inr (.inl fs)))]) [0, 1, 2, 3, 4, 5, 6, 7, 8, 9, 10, 11] (by decide) rfl
  have hK9 := hK.sub (tys' := [(cJ, .long)]) [0] rfl
  exact W.iret (v := nI 2) hx hb hr (fun t9 ht hW => ⟨⟨nI 2, (), rfl, rfl, by rw [ht]; exact hP9, va_K.moved hW.alike hK9, hD9⟩, hS.F ht⟩) hS.2.2 dL_insertAll_20
set_option maxHeartbeats 4000000 in
set_option maxRecDepth 100000 in
/-- law: insertAll, insertAll_e01 -/
theorem c_L_insertAll_e01 (l : Launch) (hls : l.stackTraces = false) (dC : Nat → ClassId) (dI : Nat → Nat → Nat) (q : Nat) (s0 : Nat) (s1 : Nat) (s2 : Nat) (tq : Nat) (ca : Nat) (rq : Nat) (rb : Nat) (rd : Nat) (uq : Nat) (bm : Nat) (am : Nat) (bs : Nat) (ap : Nat) (cJ : ClassId) (fm : Nat → Int64) (fs : Nat → Int64) (ft : Nat → Int64) (fc : Nat → Int64) (sm : Int64) (lo : Option Nat) (tq_o : Nat) (ca_o : Nat) (rq_o : Nat) (rb_o : Nat) (rd_o : Nat) (uq_o : Nat) (bm_o : Nat) (am_o : Nat) (bs_o : Nat) (ap_o : Nat) (om : Nat → Int64) (os : Nat → Int64) (ot : Nat → Int64) (oc : Nat → Int64) (osm : Int64) (olo : Option Nat) (oq : Nat) (sa : Nat) (sz : Nat) (hN : NI fm fs ft fc sm lo) (hn30 : 30 < fb_ct (bo om) 4096) : Met l yL_insertAll wsL_insertAll ({ frames := 7, cells := 1, slots := 6, locals := 109 }) (va_Pc [.ref q, .int (nI 0), .int (nI 1), .ref oq] (fun U => va_Nw (.fieldLinkNest RX7 38 "SmallNumberSets$NumberSet" "buckets" "LSmallNumberSets$Buckets;" "SmallNumberSets") U ∧ TW "java/lang/IllegalStateException" 50 "the other set has too many members" sa (fun q => sz ≤ q) U U.heap ∧ va_Nc "java/lang/IllegalStateException" "java/lang/IndexOutOfBoundsException" U ∧ U.heap.size = sz ∧ va_P (dC, dI) vwCl [(q, .inr (6, [.ref s0, .ref s1, .ref s2])), (s0, .inr (3, [.ref tq, .ref rq, .ref uq])), (tq, .inr (4, [.ref ca, .long sm, .int (oI lo)])), (ca, .inl (cJ, 64, .inr (.inl fc))), (rq, .inr (5, [.ref rb])), (rb, .inr (0, [.ref rd])), (rd, .inl (cJ, 128, .inr (.inl ft))), (uq, .inr (1, [.ref bm, .ref bs])), (bm, .inr (0, [.ref am])), (am, .inl (cJ, 64, .inr (.inl fm))), (bs, .inr (0, [.ref ap])), (ap, .inl (cJ, 64, .inr (.inl fs))), (s1, .inr (3, [.ref tq_o, .ref rq_o, .ref uq_o])), (tq_o, .inr (4, [.ref ca_o, .long osm, .int (oI olo)])), (ca_o, .inl (cJ, 64, .inr (.inl oc))), (rq_o, .inr (5, [.ref rb_o])), (rb_o, .inr (0, [.ref rd_o])), (rd_o, .inl (cJ, 128, .inr (.inl ot))), (uq_o, .inr (1, [.ref bm_o, .ref bs_o])), (bm_o, .inr (0, [.ref am_o])), (am_o, .inl (cJ, 64, .inr (.inl om))), (bs_o, .inr (0, [.ref ap_o])), (ap_o, .inl (cJ, 64, .inr (.inl os)))] U.heap ∧ va_K (dC, dI) vwCl [(cJ, .long)] U ∧ va_D (fun _ => True) [(q, .inr (6, [.ref s0, .ref s1, .ref s2])), (s0, .inr (3, [.ref tq, .ref rq, .ref uq])), (tq, .inr (4, [.ref ca, .long sm, .int (oI lo)])), (ca, .inl (cJ, 64, .inr (.inl fc))), (rq, .inr (5, [.ref rb])), (rb, .inr (0, [.ref rd])), (rd, .inl (cJ, 128, .inr (.inl ft))), (uq, .inr (1, [.ref bm, .ref bs])), (bm, .inr (0, [.ref am])), (am, .inl (cJ, 64, .inr (.inl fm))), (bs, .inr (0, [.ref ap])), (ap, .inl (cJ, 64, .inr (.inl fs))), (s1, .inr (3, [.ref tq_o, .ref rq_o, .ref uq_o])), (tq_o, .inr (4, [.ref ca_o, .long osm, .int (oI olo)])), (ca_o, .inl (cJ, 64, .inr (.inl oc))), (rq_o, .inr (5, [.ref rb_o])), (rb_o, .inr (0, [.ref rd_o])), (rd_o, .inl (cJ, 128, .inr (.inl ot))), (uq_o, .inr (1, [.ref bm_o, .ref bs_o])), (bm_o, .inr (0, [.ref am_o])), (am_o, .inl (cJ, 64, .inr (.inl om))), (bs_o, .inr (0, [.ref ap_o])), (ap_o, .inl (cJ, 64, .inr (.inl os)))])) (va_Qi (fun (r : Int32) (u : Unit) => r = nI 2) (fun (u : Unit) (t : State) => va_P (dC, dI) vwCl [(q, .inr (6, [.ref s0, .ref s1, .ref s2])), (s0, .inr (3, [.ref tq, .ref rq, .ref uq])), (tq, .inr (4, [.ref ca, .long sm, .int (oI lo)])), (ca, .inl (cJ, 64, .inr (.inl fc))), (rq, .inr (5, [.ref rb])), (rb, .inr (0, [.ref rd])), (rd, .inl (cJ, 128, .inr (.inl ft))), (uq, .inr (1, [.ref bm, .ref bs])), (bm, .inr (0, [.ref am])), (am, .inl (cJ, 64, .inr (.inl fm))), (bs, .inr (0, [.ref ap])), (ap, .inl (cJ, 64, .inr (.inl fs))), (s1, .inr (3, [.ref tq_o, .ref rq_o, .ref uq_o])), (tq_o, .inr (4, [.ref ca_o, .long osm, .int (oI olo)])), (ca_o, .inl (cJ, 64, .inr (.inl oc))), (rq_o, .inr (5, [.ref rb_o])), (rb_o, .inr (0, [.ref rd_o])), (rd_o, .inl (cJ, 128, .inr (.inl ot))), (uq_o, .inr (1, [.ref bm_o, .ref bs_o])), (bm_o, .inr (0, [.ref am_o])), (am_o, .inl (cJ, 64, .inr (.inl om))), (bs_o, .inr (0, [.ref ap_o])), (ap_o, .inl (cJ, 64, .inr (.inl os)))] t.heap ∧ va_K (dC, dI) vwCl [(cJ, .long)] t ∧ va_D (va_A [(q, .inr (6, [.ref s0, .ref s1, .ref s2])), (s0, .inr (3, [.ref tq, .ref rq, .ref uq])), (tq, .inr (4, [.ref ca, .long sm, .int (oI lo)])), (ca, .inl (cJ, 64, .inr (.inl fc))), (rq, .inr (5, [.ref rb])), (rb, .inr (0, [.ref rd])), (rd, .inl (cJ, 128, .inr (.inl ft))), (uq, .inr (1, [.ref bm, .ref bs])), (bm, .inr (0, [.ref am])), (am, .inl (cJ, 64, .inr (.inl fm))), (bs, .inr (0, [.ref ap])), (ap, .inl (cJ, 64, .inr (.inl fs))), (s1, .inr (3, [.ref tq_o, .ref rq_o, .ref uq_o])), (tq_o, .inr (4, [.ref ca_o, .long osm, .int (oI olo)])), (ca_o, .inl (cJ, 64, .inr (.inl oc))), (rq_o, .inr (5, [.ref rb_o])), (rb_o, .inr (0, [.ref rd_o])), (rd_o, .inl (cJ, 128, .inr (.inl ot))), (uq_o, .inr (1, [.ref bm_o, .ref bs_o])), (bm_o, .inr (0, [.ref am_o])), (am_o, .inl (cJ, 64, .inr (.inl om))), (bs_o, .inr (0, [.ref ap_o])), (ap_o, .inl (cJ, 64, .inr (.inl os)))] sz) [(q, .inr (6, [.ref s0, .ref s1, .ref s2])), (s0, .inr (3, [.ref tq, .ref rq, .ref uq])), (tq, .inr (4, [.ref ca, .long sm, .int (oI lo)])), (ca, .inl (cJ, 64, .inr (.inl fc))), (rq, .inr (5, [.ref rb])), (rb, .inr (0, [.ref rd])), (rd, .inl (cJ, 128, .inr (.inl ft))), (uq, .inr (1, [.ref bm, .ref bs])), (bm, .inr (0, [.ref am])), (am, .inl (cJ, 64, .inr (.inl fm))), (bs, .inr (0, [.ref ap])), (ap, .inl (cJ, 64, .inr (.inl fs))), (s1, .inr (3, [.ref tq_o, .ref rq_o, .ref uq_o])), (tq_o, .inr (4, [.ref ca_o, .long osm, .int (oI olo)])), (ca_o, .inl (cJ, 64, .inr (.inl oc))), (rq_o, .inr (5, [.ref rb_o])), (rb_o, .inr (0, [.ref rd_o])), (rd_o, .inl (cJ, 128, .inr (.inl ot))), (uq_o, .inr (1, [.ref bm_o, .ref bs_o])), (bm_o, .inr (0, [.ref am_o])), (am_o, .inl (cJ, 64, .inr (.inl om))), (bs_o, .inr (0, [.ref ap_o])), (ap_o, .inl (cJ, 64, .inr (.inl os)))]) (va_A [(q, .inr (6, [.ref s0, .ref s1, .ref s2])), (s0, .inr (3, [.ref tq, .ref rq, .ref uq])), (tq, .inr (4, [.ref ca, .long sm, .int (oI lo)])), (ca, .inl (cJ, 64, .inr (.inl fc))), (rq, .inr (5, [.ref rb])), (rb, .inr (0, [.ref rd])), (rd, .inl (cJ, 128, .inr (.inl ft))), (uq, .inr (1, [.ref bm, .ref bs])), (bm, .inr (0, [.ref am])), (am, .inl (cJ, 64, .inr (.inl fm))), (bs, .inr (0, [.ref ap])), (ap, .inl (cJ, 64, .inr (.inl fs))), (s1, .inr (3, [.ref tq_o, .ref rq_o, .ref uq_o])), (tq_o, .inr (4, [.ref ca_o, .long osm, .int (oI olo)])), (ca_o, .inl (cJ, 64, .inr (.inl oc))), (rq_o, .inr (5, [.ref rb_o])), (rb_o, .inr (0, [.ref rd_o])), (rd_o, .inl (cJ, 128, .inr (.inl ot))), (uq_o, .inr (1, [.ref bm_o, .ref bs_o])), (bm_o, .inr (0, [.ref am_o])), (am_o, .inl (cJ, 64, .inr (.inl om))), (bs_o, .inr (0, [.ref ap_o])), (ap_o, .inl (cJ, 64, .inr (.inl os)))] sz)) 1 6 (va_A [(q, .inr (6, [.ref s0, .ref s1, .ref s2])), (s0, .inr (3, [.ref tq, .ref rq, .ref uq])), (tq, .inr (4, [.ref ca, .long sm, .int (oI lo)])), (ca, .inl (cJ, 64, .inr (.inl fc))), (rq, .inr (5, [.ref rb])), (rb, .inr (0, [.ref rd])), (rd, .inl (cJ, 128, .inr (.inl ft))), (uq, .inr (1, [.ref bm, .ref bs])), (bm, .inr (0, [.ref am])), (am, .inl (cJ, 64, .inr (.inl fm))), (bs, .inr (0, [.ref ap])), (ap, .inl (cJ, 64, .inr (.inl fs))), (s1, .inr (3, [.ref tq_o, .ref rq_o, .ref uq_o])), (tq_o, .inr (4, [.ref ca_o, .long osm, .int (oI olo)])), (ca_o, .inl (cJ, 64, .inr (.inl oc))), (rq_o, .inr (5, [.ref rb_o])), (rb_o, .inr (0, [.ref rd_o])), (rd_o, .inl (cJ, 128, .inr (.inl ot))), (uq_o, .inr (1, [.ref bm_o, .ref bs_o])), (bm_o, .inr (0, [.ref am_o])), (am_o, .inl (cJ, 64, .inr (.inl om))), (bs_o, .inr (0, [.ref ap_o])), (ap_o, .inl (cJ, 64, .inr (.inl os)))] sz) := by
  refine va_MetW (cc := cL_insertAll) (maxL := 5) (ret := (some .int)) (hh := [(0, 10, 13, 13), (0, 10, 17, 25)]) (by decide) rfl ?_
  intro p e s m args below meth c s₁ B hml hv
  obtain ⟨rfl, nw0, hT, hNc0, hsz, hP, hK, hD0⟩ := hv
  have hx := B.exec
  have hb := B.bytes
  have hr := B.returns
  have hts := atoms_spec (ws := wsL_insertAll) B.pre
  have hown : s.vm.findClass RL = some m.cls := findClass_of_methodNamed B.named
  have hlocks := B.notSynchronized
  have htab : c.exceptionTable.toList = tableOf [(0, 10, 13, 13), (0, 10, 17, 25)] := vx_table (x := yL_insertAll) B (hts _ List.mem_cons_self)
  subst hsz
  have hD := hD0.self (sz := s.heap.size)
  generalize hAe : va_A [(q, .inr (6, [.ref s0, .ref s1, .ref s2])), (s0, .inr (3, [.ref tq, .ref rq, .ref uq])), (tq, .inr (4, [.ref ca, .long sm, .int (oI lo)])), (ca, .inl (cJ, 64, .inr (.inl fc))), (rq, .inr (5, [.ref rb])), (rb, .inr (0, [.ref rd])), (rd, .inl (cJ, 128, .inr (.inl ft))), (uq, .inr (1, [.ref bm, .ref bs])), (bm, .inr (0, [.ref am])), (am, .inl (cJ, 64, .inr (.inl fm))), (bs, .inr (0, [.ref ap])), (ap, .inl (cJ, 64, .inr (.inl fs))), (s1, .inr (3, [.ref tq_o, .ref rq_o, .ref uq_o])), (tq_o, .inr (4, [.ref ca_o, .long osm, .int (oI olo)])), (ca_o, .inl (cJ, 64, .inr (.inl oc))), (rq_o, .inr (5, [.ref rb_o])), (rb_o, .inr (0, [.ref rd_o])), (rd_o, .inl (cJ, 128, .inr (.inl ot))), (uq_o, .inr (1, [.ref bm_o, .ref bs_o])), (bm_o, .inr (0, [.ref am_o])), (am_o, .inl (cJ, 64, .inr (.inl om))), (bs_o, .inr (0, [.ref ap_o])), (ap_o, .inl (cJ, 64, .inr (.inl os)))] s.heap.size = A at hD ⊢
  have hA : ∀ q : Nat, s.heap.size ≤ q → A q := fun q h => by rw [← hAe]; exact Or.inr h
  have hS : va_S A s.heap s.heap [] := va_S.rf
  have hP : va_P (dC, dI) vwCl [(q, .inr (6, [.ref s0, .ref s1, .ref s2])), (s0, .inr (3, [.ref tq, .ref rq, .ref uq])), (tq, .inr (4, [.ref ca, .long sm, .int (oI lo)])), (ca, .inl (cJ, 64, .inr (.inl fc))), (rq, .inr (5, [.ref rb])), (rb, .inr (0, [.ref rd])), (rd, .inl (cJ, 128, .inr (.inl ft))), (uq, .inr (1, [.ref bm, .ref bs])), (bm, .inr (0, [.ref am])), (am, .inl (cJ, 64, .inr (.inl fm))), (bs, .inr (0, [.ref ap])), (ap, .inl (cJ, 64, .inr (.inl fs))), (s1, .inr (3, [.ref tq_o, .ref rq_o, .ref uq_o])), (tq_o, .inr (4, [.ref ca_o, .long osm, .int (oI olo)])), (ca_o, .inl (cJ, 64, .inr (.inl oc))), (rq_o, .inr (5, [.ref rb_o])), (rb_o, .inr (0, [.ref rd_o])), (rd_o, .inl (cJ, 128, .inr (.inl ot))), (uq_o, .inr (1, [.ref bm_o, .ref bs_o])), (bm_o, .inr (0, [.ref am_o])), (am_o, .inl (cJ, 64, .inr (.inl om))), (bs_o, .inr (0, [.ref ap_o])), (ap_o, .inl (cJ, 64, .inr (.inl os)))] s.heap := hP
  have hl := lv_entry ([.ref q, .int (nI 0), .int (nI 1), .ref oq]) (n := 5) (Nat.le_of_ble_eq_true rfl)
  rw [lg_entry_eq]
  generalize (lg_sl ([.ref q, .int (nI 0), .int (nI 1), .ref oq]) ++ List.replicate (5 - (lg_sl ([.ref q, .int (nI 0), .int (nI 1), .ref oq])).length) Slot.unset).toArray = ls at hl ⊢
  have hl : lv_has ls 5 [(0, .ref q), (1, .int (nI 0)), (2, .int (nI 1)), (3, .ref oq)] := hl
  refine lv_aload_n hx hb dL_insertAll_0 rfl (lv_at hl 3 rfl) ?_
  refine lv_iconst (v := nI 0) hx hb dL_insertAll_1 (by decide +kernel) ?_
  refine lv_aload_n hx hb dL_insertAll_2 rfl (lv_at hl 0 rfl) ?_
  refine lv_iload_n hx hb dL_insertAll_3 rfl (lv_at hl 1 rfl) ?_
  refine lv_iload_n hx hb dL_insertAll_4 rfl (lv_at hl 2 rfl) ?_
  have hPc := hP.sub (ws' := [(q, .inr (6, [.ref s0, .ref s1, .ref s2])), (s0, .inr (3, [.ref tq, .ref rq, .ref uq])), (tq, .inr (4, [.ref ca, .long sm, .int (oI lo)])), (ca, .inl (cJ, 64, .inr (.inl fc))), (rq, .inr (5, [.ref rb])), (rb, .inr (0, [.ref rd])), (rd, .inl (cJ, 128, .inr (.inl ft))), (uq, .inr (1, [.ref bm, .ref bs])), (bm, .inr (0, [.ref am])), (am, .inl (cJ, 64, .inr (.inl fm))), (bs, .inr (0, [.ref ap])), (ap, .inl (cJ, 64, .inr (.inl fs))), (s1, .inr (3, [.ref tq_o, .ref rq_o, .ref uq_o])), (tq_o, .inr (4, [.ref ca_o, .long osm, .int (oI olo)])), (ca_o, .inl (cJ, 64, .inr (.inl oc))), (rq_o, .inr (5, [.ref rb_o])), (rb_o, .inr (0, [.ref rd_o])), (rd_o, .inl (cJ, 128, .inr (.inl ot))), (uq_o, .inr (1, [.ref bm_o, .ref bs_o])), (bm_o, .inr (0, [.ref am_o])), (am_o, .inl (cJ, 64, .inr (.inl om))), (bs_o, .inr (0, [.ref ap_o])), (ap_o, .inl (cJ, 64, .inr (.inl os)))]) [0, 1, 2, 3, 4, 5, 6, 7, 8, 9, 10, 11, 12, 13, 14, 15, 16, 17, 18, 19, 20, 21, 22] rfl
  have hKc := hK.sub (tys' := [(cJ, .long)]) [0] rfl
  have hDc := hD.sub (ws' := [(q, .inr (6, [.ref s0, .ref s1, .ref s2])), (s0, .inr (3, [.ref tq, .ref rq, .ref uq])), (tq, .inr (4, [.ref ca, .long sm, .int (oI lo)])), (ca, .inl (cJ, 64, .inr (.inl fc))), (rq, .inr (5, [.ref rb])), (rb, .inr (0, [.ref rd])), (rd, .inl (cJ, 128, .inr (.inl ft))), (uq, .inr (1, [.ref bm, .ref bs])), (bm, .inr (0, [.ref am])), (am, .inl (cJ, 64, .inr (.inl fm))), (bs, .inr (0, [.ref ap])), (ap, .inl (cJ, 64, .inr (.inl fs))), (s1, .inr (3, [.ref tq_o, .ref rq_o, .ref uq_o])), (tq_o, .inr (4, [.ref ca_o, .long osm, .int (oI olo)])), (ca_o, .inl (cJ, 64, .inr (.inl oc))), (rq_o, .inr (5, [.ref rb_o])), (rb_o, .inr (0, [.ref rd_o])), (rd_o, .inl (cJ, 128, .inr (.inl ot))), (uq_o, .inr (1, [.ref bm_o, .ref bs_o])), (bm_o, .inr (0, [.ref am_o])), (am_o, .inl (cJ, 64, .inr (.inl om))), (bs_o, .inr (0, [.ref ap_o])), (ap_o, .inl (cJ, 64, .inr (.inl os)))]) [0, 1, 2, 3, 4, 5, 6, 7, 8, 9, 10, 11, 12, 13, 14, 15, 16, 17, 18, 19, 20, 21, 22] (by decide) rfl
  refine vx_callv (vx_runV (As := [.int (nI 0), .int (nI 1)]) (rest := [.int (nI 0), .ref oq]) ⟨hx, hb, hml, hown, hts⟩ (x_X7_insertAll_e01 l hls dC dI q s0 s1 s2 tq ca rq rb rd uq bm am bs ap cJ fm fs ft fc sm lo tq_o ca_o rq_o rb_o rd_o uq_o bm_o am_o bs_o ap_o om os ot oc osm olo sa s.heap.size (by first | assumption | omega) (by first | assumption | omega)) (cwV 2 hts gL_insertAll_X7_insertAll rfl rfl rfl (by decide +kernel) ⟨Nat.le_of_ble_eq_true rfl, Nat.le_of_ble_eq_true rfl⟩) ⟨fun a U g mk q => by obtain ⟨q0, nq0, q1, qT, qP, qK, qD⟩ := q; exact ⟨q0, va_Nw.same rfl (U := U.calling g mk a) rfl nq0, q1, TW.same (u := U) (U := U.calling g mk a) rfl qT, qP, va_K.moved (u := U) (U := U.calling g mk a) (Vm.Alike.refl U.vm) qK, qD⟩, va_recv hKc hPc (ci := 6) (q0 := 0) rfl rfl, fun U hU hW => ⟨rfl, va_Nw.warmF hW nw0, by rw [hU], by rw [hU]; exact TW.warm hW hT, by rw [hU]; exact hPc, va_K.moved hW.alike hKc, hDc.weaken (fun _ _ _ _ => trivial)⟩⟩ rfl rfl hl.1 rfl (lv_room (Nat.le_of_ble_eq_true rfl)) dL_insertAll_5 ⟨Nat.le_of_ble_eq_true rfl, Nat.le_of_ble_eq_true rfl⟩) hS (fun q h9 h8 => absurd h8 (Nat.not_le_of_lt h9)) (fun q h8 => hA q (Nat.le_trans hS.1 h8)) (fun q h9 h8 => absurd h8 (Nat.not_le_of_lt h9)) (fun E9 ce9 q9 u9 t9 H locs ht9 hvm9 hu9 hE9 hz9 hk9 hS hce9 hcv9 hcl9 => ?_) (fun u9 t9 H9 l9 ht9 hvm9 hu9 hB9 hz9 hk9 hS9 => hu9.elim)
  subst hE9
  have hP := hP.kept (H1 := H) (fun k q hk => hk9 _ (vx_lt hP hk) (Nat.not_le_of_lt (vx_lt hP hk)))
  refine vx_catch (name := "java/lang/IllegalStateException") hown [⟨0, 10, 13, 13⟩] ⟨0, 10, 17, 25⟩ [] (htab.trans rfl) (fun z hz => by rcases List.mem_cons.mp hz with rfl | hz; exact Or.inr ⟨by decide, "java/lang/IndexOutOfBoundsException", hts (.classLink RL 13 "java/lang/IndexOutOfBoundsException") (by decide +kernel), hNc0⟩; exact nomatch hz) rfl (by decide) (hts (.classLink RL 25 "java/lang/IllegalStateException") (by decide +kernel)) (va_Nw.use rfl hT.2.2.2.2.2.2) hce9 hcv9 hcl9 ?_
  refine W.cs (cells' := 1) (slots' := 6) rfl rfl ?_
  refine lv_astore (lv' := [(4, .ref q9), (0, .ref q), (1, .int (nI 0)), (2, .int (nI 1)), (3, .ref oq)]) hx hb dL_insertAll_17 hl (by decide) rfl (fun ls hl => ?_)
  refine lv_iconst (v := nI 2) hx hb dL_insertAll_19 (by decide +kernel) ?_
  have hP9 := hP.sub (ws' := [(q, .inr (6, [.ref s0, .ref s1, .ref s2])), (s0, .inr (3, [.ref tq, .ref rq, .ref uq])), (tq, .inr (4, [.ref ca, .long sm, .int (oI lo)])), (ca, .inl (cJ, 64, .inr (.inl fc))), (rq, .inr (5, [.ref rb])), (rb, .inr (0, [.ref rd])), (rd, .inl (cJ, 128, .inr (.inl ft))), (uq, .inr (1, [.ref bm, .ref bs])), (bm, .inr (0, [.ref am])), (am, .inl (cJ, 64, .inr (.inl fm))), (bs, .inr (0, [.ref ap])), (ap, .inl (cJ, 64, .inr (.inl fs))), (s1, .inr (3, [.ref tq_o, .ref rq_o, .ref uq_o])), (tq_o, .inr (4, [.ref ca_o, .long osm, .int (oI olo)])), (ca_o, .inl (cJ, 64, .inr (.inl oc))), (rq_o, .inr (5, [.ref rb_o])), (rb_o, .inr (0, [.ref rd_o])), (rd_o, .inl (cJ, 128, .inr (.inl ot))), (uq_o, .inr (1, [.ref bm_o, .ref bs_o])), (bm_o, .inr (0, [.ref am_o])), (am_o, .inl (cJ, 64, .inr (.inl om))), (bs_o, .inr (0, [.ref ap_o])), (ap_o, .inl (cJ, 64, .inr (.inl os)))]) [0, 1, 2, 3, 4, 5, 6, 7, 8, 9, 10, 11, 12, 13, 14, 15, 16, 17, 18, 19, 20, 21, 22] rfl
  have hD9 := hD.sub (ws' := [(q, .inr (6, [.ref s0, .ref s1, .ref s2])), (s0, .inr (3, [.ref tq, .ref rq, .ref uq])), (tq, .inr (4, [.ref ca, .long sm, .int (oI lo)])), (ca, .inl (cJ, 64, .inr (.inl fc))), (rq, .inr (5, [.ref rb])), (rb, .inr (0, [.ref rd])), (rd, .inl (cJ, 128, .inr (.inl ft))), (uq, .inr (1, [.ref bm, .ref bs])), (bm, .inr (0, [.ref am])), (am, .inl (cJ, 64, .inr (.inl fm))), (bs, .inr (0, [.ref ap])), (ap, .inl (cJ, 64, .inr (.inl fs))), (s1, .inr (3, [.ref tq_o, .ref rq_o, .ref uq_o])), (tq_o, .inr (4, [.ref ca_o, .long osm, .int (oI olo)])), (ca_o, .inl (cJ, 64, .inr (.inl oc))), (rq_o, .inr (5, [.ref rb_o])), (rb_o, .inr (0, [.ref rd_o])), (rd_o, .inl (cJ, 128, .inr (.inl ot))), (uq_o, .inr (1, [.ref bm_o, .ref bs_o])), (bm_o, .inr (0, [.ref am_o])), (am_o, .inl (cJ, 64, .inr (.inl om))), (bs_o, .inr (0, [.ref ap_o])), (ap_o, .inl (cJ, 64, .inr (.inl os)))]) [0, 1, 2, 3, 4, 5, 6, 7, 8, 9, 10, 11, 12, 13, 14, 15, 16, 17, 18, 19, 20, 21, 22] (by decide) rfl
  have hK9 := hK.sub (tys' := [(cJ, .long)]) [0] rfl
  exact W.iret (v := nI 2) hx hb hr (fun t9 ht hW => ⟨⟨nI 2, (), rfl, rfl, by rw [ht]; exact hP9, va_K.moved hW.alike hK9, hD9⟩, hS.F ht⟩) hS.2.2 dL_insertAll_20
set_option maxHeartbeats 4000000 in
set_option maxRecDepth 100000 in
/-- law: insertAll, insertAll_e02 -/
theorem c_L_insertAll_e02 (l : Launch) (hls : l.stackTraces = false) (dC : Nat → ClassId) (dI : Nat → Nat → Nat) (q : Nat) (s0 : Nat) (s1 : Nat) (s2 : Nat) (tq : Nat) (ca : Nat) (rq : Nat) (rb : Nat) (rd : Nat) (uq : Nat) (bm : Nat) (am : Nat) (bs : Nat) (ap : Nat) (cJ : ClassId) (fm : Nat → Int64) (fs : Nat → Int64) (ft : Nat → Int64) (fc : Nat → Int64) (sm : Int64) (lo : Option Nat) (tq_o : Nat) (ca_o : Nat) (rq_o : Nat) (rb_o : Nat) (rd_o : Nat) (uq_o : Nat) (bm_o : Nat) (am_o : Nat) (bs_o : Nat) (ap_o : Nat) (om : Nat → Int64) (os : Nat → Int64) (ot : Nat → Int64) (oc : Nat → Int64) (osm : Int64) (olo : Option Nat) (oq : Nat) (sa : Nat) (sz : Nat) (hN : NI fm fs ft fc sm lo) (hn30 : 30 < fb_ct (bo om) 4096) : Met l yL_insertAll wsL_insertAll ({ frames := 7, cells := 1, slots := 6, locals := 109 }) (va_Pc [.ref q, .int (nI 0), .int (nI 2), .ref oq] (fun U => va_Nw (.fieldLinkNest RX7 38 "SmallNumberSets$NumberSet" "buckets" "LSmallNumberSets$Buckets;" "SmallNumberSets") U ∧ TW "java/lang/IllegalStateException" 50 "the other set has too many members" sa (fun q => sz ≤ q) U U.heap ∧ va_Nc "java/lang/IllegalStateException" "java/lang/IndexOutOfBoundsException" U ∧ U.heap.size = sz ∧ va_P (dC, dI) vwCl [(q, .inr (6, [.ref s0, .ref s1, .ref s2])), (s0, .inr (3, [.ref tq, .ref rq, .ref uq])), (tq, .inr (4, [.ref ca, .long sm, .int (oI lo)])), (ca, .inl (cJ, 64, .inr (.inl fc))), (rq, .inr (5, [.ref rb])), (rb, .inr (0, [.ref rd])), (rd, .inl (cJ, 128, .inr (.inl ft))), (uq, .inr (1, [.ref bm, .ref bs])), (bm, .inr (0, [.ref am])), (am, .inl (cJ, 64, .inr (.inl fm))), (bs, .inr (0, [.ref ap])), (ap, .inl (cJ, 64, .inr (.inl fs))), (s2, .inr (3, [.ref tq_o, .ref rq_o, .ref uq_o])), (tq_o, .inr (4, [.ref ca_o, .long osm, .int (oI olo)])), (ca_o, .inl (cJ, 64, .inr (.inl oc))), (rq_o, .inr (5, [.ref rb_o])), (rb_o, .inr (0, [.ref rd_o])), (rd_o, .inl (cJ, 128, .inr (.inl ot))), (uq_o, .inr (1, [.ref bm_o, .ref bs_o])), (bm_o, .inr (0, [.ref am_o])), (am_o, .inl (cJ, 64, .inr (.inl om))), (bs_o, .inr (0, [.ref ap_o])), (ap_o, .inl (cJ, 64, .inr (.inl os)))] U.heap ∧ va_K (dC, dI) vwCl [(cJ, .long)] U ∧ va_D (fun _ => True) [(q, .inr (6, [.ref s0, .ref s1, .ref s2])), (s0, .inr (3, [.ref tq, .ref rq, .ref uq])), (tq, .inr (4, [.ref ca, .long sm, .int (oI lo)])), (ca, .inl (cJ, 64, .inr (.inl fc))), (rq, .inr (5, [.ref rb])), (rb, .inr (0, [.ref rd])), (rd, .inl (cJ, 128, .inr (.inl ft))), (uq, .inr (1, [.ref bm, .ref bs])), (bm, .inr (0, [.ref am])), (am, .inl (cJ, 64, .inr (.inl fm))), (bs, .inr (0, [.ref ap])), (ap, .inl (cJ, 64, .inr (.inl fs))), (s2, .inr (3, [.ref tq_o, .ref rq_o, .ref uq_o])), (tq_o, .inr (4, [.ref ca_o, .long osm, .int (oI olo)])), (ca_o, .inl (cJ, 64, .inr (.inl oc))), (rq_o, .inr (5, [.ref rb_o])), (rb_o, .inr (0, [.ref rd_o])), (rd_o, .inl (cJ, 128, .inr (.inl ot))), (uq_o, .inr (1, [.ref bm_o, .ref bs_o])), (bm_o, .inr (0, [.ref am_o])), (am_o, .inl (cJ, 64, .inr (.inl om))), (bs_o, .inr (0, [.ref ap_o])), (ap_o, .inl (cJ, 64, .inr (.inl os)))])) (va_Qi (fun (r : Int32) (u : Unit) => r = nI 2) (fun (u : Unit) (t : State) => va_P (dC, dI) vwCl [(q, .inr (6, [.ref s0, .ref s1, .ref s2])), (s0, .inr (3, [.ref tq, .ref rq, .ref uq])), (tq, .inr (4, [.ref ca, .long sm, .int (oI lo)])), (ca, .inl (cJ, 64, .inr (.inl fc))), (rq, .inr (5, [.ref rb])), (rb, .inr (0, [.ref rd])), (rd, .inl (cJ, 128, .inr (.inl ft))), (uq, .inr (1, [.ref bm, .ref bs])), (bm, .inr (0, [.ref am])), (am, .inl (cJ, 64, .inr (.inl fm))), (bs, .inr (0, [.ref ap])), (ap, .inl (cJ, 64, .inr (.inl fs))), (s2, .inr (3, [.ref tq_o, .ref rq_o, .ref uq_o])), (tq_o, .inr (4, [.ref ca_o, .long osm, .int (oI olo)])), (ca_o, .inl (cJ, 64, .inr (.inl oc))), (rq_o, .inr (5, [.ref rb_o])), (rb_o, .inr (0, [.ref rd_o])), (rd_o, .inl (cJ, 128, .inr (.inl ot))), (uq_o, .inr (1, [.ref bm_o, .ref bs_o])), (bm_o, .inr (0, [.ref am_o])), (am_o, .inl (cJ, 64, .inr (.inl om))), (bs_o, .inr (0, [.ref ap_o])), (ap_o, .inl (cJ, 64, .inr (.inl os)))] t.heap ∧ va_K (dC, dI) vwCl [(cJ, .long)] t ∧ va_D (va_A [(q, .inr (6, [.ref s0, .ref s1, .ref s2])), (s0, .inr (3, [.ref tq, .ref rq, .ref uq])), (tq, .inr (4, [.ref ca, .long sm, .int (oI lo)])), (ca, .inl (cJ, 64, .inr (.inl fc))), (rq, .inr (5, [.ref rb])), (rb, .inr (0, [.ref rd])), (rd, .inl (cJ, 128, .inr (.inl ft))), (uq, .inr (1, [.ref bm, .ref bs])), (bm, .inr (0, [.ref am])), (am, .inl (cJ, 64, .inr (.inl fm))), (bs, .inr (0, [.ref ap])), (ap, .inl (cJ, 64, .inr (.inl fs))), (s2, .inr (3, [.ref tq_o, .ref rq_o, .ref uq_o])), (tq_o, .inr (4, [.ref ca_o, .long osm, .int (oI olo)])), (ca_o, .inl (cJ, 64, .inr (.inl oc))), (rq_o, .inr (5, [.ref rb_o])), (rb_o, .inr (0, [.ref rd_o])), (rd_o, .inl (cJ, 128, .inr (.inl ot))), (uq_o, .inr (1, [.ref bm_o, .ref bs_o])), (bm_o, .inr (0, [.ref am_o])), (am_o, .inl (cJ, 64, .inr (.inl om))), (bs_o, .inr (0, [.ref ap_o])), (ap_o, .inl (cJ, 64, .inr (.inl os)))] sz) [(q, .inr (6, [.ref s0, .ref s1, .ref s2])), (s0, .inr (3, [.ref tq, .ref rq, .ref uq])), (tq, .inr (4, [.ref ca, .long sm, .int (oI lo)])), (ca, .inl (cJ, 64, .inr (.inl fc))), (rq, .inr (5, [.ref rb])), (rb, .inr (0, [.ref rd])), (rd, .inl (cJ, 128, .inr (.inl ft))), (uq, .inr (1, [.ref bm, .ref bs])), (bm, .inr (0, [.ref am])), (am, .inl (cJ, 64, .inr (.inl fm))), (bs, .inr (0, [.ref ap])), (ap, .inl (cJ, 64, .inr (.inl fs))), (s2, .inr (3, [.ref tq_o, .ref rq_o, .ref uq_o])), (tq_o, .inr (4, [.ref ca_o, .long osm, .int (oI olo)])), (ca_o, .inl (cJ, 64, .inr (.inl oc))), (rq_o, .inr (5, [.ref rb_o])), (rb_o, .inr (0, [.ref rd_o])), (rd_o, .inl (cJ, 128, .inr (.inl ot))), (uq_o, .inr (1, [.ref bm_o, .ref bs_o])), (bm_o, .inr (0, [.ref am_o])), (am_o, .inl (cJ, 64, .inr (.inl om))), (bs_o, .inr (0, [.ref ap_o])), (ap_o, .inl (cJ, 64, .inr (.inl os)))]) (va_A [(q, .inr (6, [.ref s0, .ref s1, .ref s2])), (s0, .inr (3, [.ref tq, .ref rq, .ref uq])), (tq, .inr (4, [.ref ca, .long sm, .int (oI lo)])), (ca, .inl (cJ, 64, .inr (.inl fc))), (rq, .inr (5, [.ref rb])), (rb, .inr (0, [.ref rd])), (rd, .inl (cJ, 128, .inr (.inl ft))), (uq, .inr (1, [.ref bm, .ref bs])), (bm, .inr (0, [.ref am])), (am, .inl (cJ, 64, .inr (.inl fm))), (bs, .inr (0, [.ref ap])), (ap, .inl (cJ, 64, .inr (.inl fs))), (s2, .inr (3, [.ref tq_o, .ref rq_o, .ref uq_o])), (tq_o, .inr (4, [.ref ca_o, .long osm, .int (oI olo)])), (ca_o, .inl (cJ, 64, .inr (.inl oc))), (rq_o, .inr (5, [.ref rb_o])), (rb_o, .inr (0, [.ref rd_o])), (rd_o, .inl (cJ, 128, .inr (.inl ot))), (uq_o, .inr (1, [.ref bm_o, .ref bs_o])), (bm_o, .inr (0, [.ref am_o])), (am_o, .inl (cJ, 64, .inr (.inl om))), (bs_o, .inr (0, [.ref ap_o])), (ap_o, .inl (cJ, 64, .inr (.inl os)))] sz)) 1 6 (va_A [(q, .inr (6, [.ref s0, .ref s1, .ref s2])), (s0, .inr (3, [.ref tq, .ref rq, .ref uq])), (tq, .inr (4, [.ref ca, .long sm, .int (oI lo)])), (ca, .inl (cJ, 64, .inr (.inl fc))), (rq, .inr (5, [.ref rb])), (rb, .inr (0, [.ref rd])), (rd, .inl (cJ, 128, .inr (.inl ft))), (uq, .inr (1, [.ref bm, .ref bs])), (bm, .inr (0, [.ref am])), (am, .inl (cJ, 64, .inr (.inl fm))), (bs, .inr (0, [.ref ap])), (ap, .inl (cJ, 64, .inr (.inl fs))), (s2, .inr (3, [.ref tq_o, .ref rq_o, .ref uq_o])), (tq_o, .inr (4, [.ref ca_o, .long osm, .int (oI olo)])), (ca_o, .inl (cJ, 64, .inr (.inl oc))), (rq_o, .inr (5, [.ref rb_o])), (rb_o, .inr (0, [.ref rd_o])), (rd_o, .inl (cJ, 128, .inr (.inl ot))), (uq_o, .inr (1, [.ref bm_o, .ref bs_o])), (bm_o, .inr (0, [.ref am_o])), (am_o, .inl (cJ, 64, .inr (.inl om))), (bs_o, .inr (0, [.ref ap_o])), (ap_o, .inl (cJ, 64, .inr (.inl os)))] sz) := by
  refine va_MetW (cc := cL_insertAll) (maxL := 5) (ret := (some .int)) (hh := [(0, 10, 13, 13), (0, 10, 17, 25)]) (by decide) rfl ?_
  intro p e s m args below meth c s₁ B hml hv
  obtain ⟨rfl, nw0, hT, hNc0, hsz, hP, hK, hD0⟩ := hv
  have hx := B.exec
  have hb := B.bytes
  have hr := B.returns
  have hts := atoms_spec (ws := wsL_insertAll) B.pre
  have hown : s.vm.findClass RL = some m.cls := findClass_of_methodNamed B.named
  have hlocks := B.notSynchronized
  have htab : c.exceptionTable.toList = tableOf [(0, 10, 13, 13), (0, 10, 17, 25)] := vx_table (x := yL_insertAll) B (hts _ List.mem_cons_self)
  subst hsz
  have hD := hD0.self (sz := s.heap.size)
  generalize hAe : va_A [(q, .inr (6, [.ref s0, .ref s1, .ref s2])), (s0, .inr (3, [.ref tq, .ref rq, .ref uq])), (tq, .inr (4, [.ref ca, .long sm, .int (oI lo)])), (ca, .inl (cJ, 64, .inr (.inl fc))), (rq, .inr (5, [.ref rb])), (rb, .inr (0, [.ref rd])), (rd, .inl (cJ, 128, .inr (.inl ft))), (uq, .inr (1, [.ref bm, .ref bs])), (bm, .inr (0, [.ref am])), (am, .inl (cJ, 64, .inr (.inl fm))), (bs, .inr (0, [.ref ap])), (ap, .inl (cJ, 64, .inr (.inl fs))), (s2, .inr (3, [.ref tq_o, .ref rq_o, .ref uq_o])), (tq_o, .inr (4, [.ref ca_o, .long osm, .int (oI olo)])), (ca_o, .inl (cJ, 64, .inr (.inl oc))), (rq_o, .inr (5, [.ref rb_o])), (rb_o, .inr (0, [.ref rd_o])), (rd_o, .inl (cJ, 128, .inr (.inl ot))), (uq_o, .inr (1, [.ref bm_o, .ref bs_o])), (bm_o, .inr (0, [.ref am_o])), (am_o, .inl (cJ, 64, .inr (.inl om))), (bs_o, .inr (0, [.ref ap_o])), (ap_o, .inl (cJ, 64, .inr (.inl os)))] s.heap.size = A at hD ⊢
  have hA : ∀ q : Nat, s.heap.size ≤ q → A q := fun q h => by rw [← hAe]; exact Or.inr h
  have hS : va_S A s.heap s.heap [] := va_S.rf
  have hP : va_P (dC, dI) vwCl [(q, .inr (6, [.ref s0, .ref s1, .ref s2])), (s0, .inr (3, [.ref tq, .ref rq, .ref uq])), (tq, .inr (4, [.ref ca, .long sm, .int (oI lo)])), (ca, .inl (cJ, 64, .inr (.inl fc))), (rq, .inr (5, [.ref rb])), (rb, .inr (0, [.ref rd])), (rd, .inl (cJ, 128, .inr (.inl ft))), (uq, .inr (1, [.ref bm, .ref bs])), (bm, .inr (0, [.ref am])), (am, .inl (cJ, 64, .inr (.inl fm))), (bs, .inr (0, [.ref ap])), (ap, .inl (cJ, 64, .inr (.inl fs))), (s2, .inr (3, [.ref tq_o, .ref rq_o, .ref uq_o])), (tq_o, .inr (4, [.ref ca_o, .long osm, .int (oI olo)])), (ca_o, .inl (cJ, 64, .inr (.inl oc))), (rq_o, .inr (5, [.ref rb_o])), (rb_o, .inr (0, [.ref rd_o])), (rd_o, .inl (cJ, 128, .inr (.inl ot))), (uq_o, .inr (1, [.ref bm_o, .ref bs_o])), (bm_o, .inr (0, [.ref am_o])), (am_o, .inl (cJ, 64, .inr (.inl om))), (bs_o, .inr (0, [.ref ap_o])), (ap_o, .inl (cJ, 64, .inr (.inl os)))] s.heap := hP
  have hl := lv_entry ([.ref q, .int (nI 0), .int (nI 2), .ref oq]) (n := 5) (Nat.le_of_ble_eq_true rfl)
  rw [lg_entry_eq]
  generalize (lg_sl ([.ref q, .int (nI 0), .int (nI 2), .ref oq]) ++ List.replicate (5 - (lg_sl ([.ref q, .int (nI 0), .int (nI 2), .ref oq])).length) Slot.unset).toArray = ls at hl ⊢
  have hl : lv_has ls 5 [(0, .ref q), (1, .int (nI 0)), (2, .int (nI 2)), (3, .ref oq)] := hl
  refine lv_aload_n hx hb dL_insertAll_0 rfl (lv_at hl 3 rfl) ?_
  refine lv_iconst (v := nI 0) hx hb dL_insertAll_1 (by decide +kernel) ?_
  refine lv_aload_n hx hb dL_insertAll_2 rfl (lv_at hl 0 rfl) ?_
  refine lv_iload_n hx hb dL_insertAll_3 rfl (lv_at hl 1 rfl) ?_
  refine lv_iload_n hx hb dL_insertAll_4 rfl (lv_at hl 2 rfl) ?_
  have hPc := hP.sub (ws' := [(q, .inr (6, [.ref s0, .ref s1, .ref s2])), (s0, .inr (3, [.ref tq, .ref rq, .ref uq])), (tq, .inr (4, [.ref ca, .long sm, .int (oI lo)])), (ca, .inl (cJ, 64, .inr (.inl fc))), (rq, .inr (5, [.ref rb])), (rb, .inr (0, [.ref rd])), (rd, .inl (cJ, 128, .inr (.inl ft))), (uq, .inr (1, [.ref bm, .ref bs])), (bm, .inr (0, [.ref am])), (am, .inl (cJ, 64, .inr (.inl fm))), (bs, .inr (0, [.ref ap])), (ap, .inl (cJ, 64, .inr (.inl fs))), (s2, .inr (3, [.ref tq_o, .ref rq_o, .ref uq_o])), (tq_o, .inr (4, [.ref ca_o, .long osm, .int (oI olo)])), (ca_o, .inl (cJ, 64, .inr (.inl oc))), (rq_o, .inr (5, [.ref rb_o])), (rb_o, .inr (0, [.ref rd_o])), (rd_o, .inl (cJ, 128, .inr (.inl ot))), (uq_o, .inr (1, [.ref bm_o, .ref bs_o])), (bm_o, .inr (0, [.ref am_o])), (am_o, .inl (cJ, 64, .inr (.inl om))), (bs_o, .inr (0, [.ref ap_o])), (ap_o, .inl (cJ, 64, .inr (.inl os)))]) [0, 1, 2, 3, 4, 5, 6, 7, 8, 9, 10, 11, 12, 13, 14, 15, 16, 17, 18, 19, 20, 21, 22] rfl
  have hKc := hK.sub (tys' := [(cJ, .long)]) [0] rfl
  have hDc := hD.sub (ws' := [(q, .inr (6, [.ref s0, .ref s1, .ref s2])), (s0, .inr (3, [.ref tq, .ref rq, .ref uq])), (tq, .inr (4, [.ref ca, .long sm, .int (oI lo)])), (ca, .inl (cJ, 64, .inr (.inl fc))), (rq, .inr (5, [.ref rb])), (rb, .inr (0, [.ref rd])), (rd, .inl (cJ, 128, .inr (.inl ft))), (uq, .inr (1, [.ref bm, .ref bs])), (bm, .inr (0, [.ref am])), (am, .inl (cJ, 64, .inr (.inl fm))), (bs, .inr (0, [.ref ap])), (ap, .inl (cJ, 64, .inr (.inl fs))), (s2, .inr (3, [.ref tq_o, .ref rq_o, .ref uq_o])), (tq_o, .inr (4, [.ref ca_o, .long osm, .int (oI olo)])), (ca_o, .inl (cJ, 64, .inr (.inl oc))), (rq_o, .inr (5, [.ref rb_o])), (rb_o, .inr (0, [.ref rd_o])), (rd_o, .inl (cJ, 128, .inr (.inl ot))), (uq_o, .inr (1, [.ref bm_o, .ref bs_o])), (bm_o, .inr (0, [.ref am_o])), (am_o, .inl (cJ, 64, .inr (.inl om))), (bs_o, .inr (0, [.ref ap_o])), (ap_o, .inl (cJ, 64, .inr (.inl os)))]) [0, 1, 2, 3, 4, 5, 6, 7, 8, 9, 10, 11, 12, 13, 14, 15, 16, 17, 18, 19, 20, 21, 22] (by decide) rfl
  refine vx_callv (vx_runV (As := [.int (nI 0), .int (nI 2)]) (rest := [.int (nI 0), .ref oq]) ⟨hx, hb, hml, hown, hts⟩ (x_X7_insertAll_e02 l hls dC dI q s0 s1 s2 tq ca rq rb rd uq bm am bs ap cJ fm fs ft fc sm lo tq_o ca_o rq_o rb_o rd_o uq_o bm_o am_o bs_o ap_o om os ot oc osm olo sa s.heap.size (by first | assumption | omega) (by first | assumption | omega)) (cwV 2 hts gL_insertAll_X7_insertAll rfl rfl rfl (by decide +kernel) ⟨Nat.le_of_ble_eq_true rfl, Nat.le_of_ble_eq_true rfl⟩) ⟨fun a U g mk q => by obtain ⟨q0, nq0, q1, qT, qP, qK, qD⟩ := q; exact ⟨q0, va_Nw.same rfl (U := U.calling g mk a) rfl nq0, q1, TW.same (u := U) (U := U.calling g mk a) rfl qT, qP, va_K.moved (u := U) (U := U.calling g mk a) (Vm.Alike.refl U.vm) qK, qD⟩, va_recv hKc hPc (ci := 6) (q0 := 0) rfl rfl, fun U hU hW => ⟨rfl, va_Nw.warmF hW nw0, by rw [hU], by rw [hU]; exact TW.warm hW hT, by rw [hU]; exact hPc, va_K.moved hW.alike hKc, hDc.weaken (fun _ _ _ _ => trivial)⟩⟩ rfl rfl hl.1 rfl (lv_room (Nat.le_of_ble_eq_true rfl)) dL_insertAll_5 ⟨Nat.le_of_ble_eq_true rfl, Nat.le_of_ble_eq_true rfl⟩) hS (fun q h9 h8 => absurd h8 (Nat.not_le_of_lt h9)) (fun q h8 => hA q (Nat.le_trans hS.1 h8)) (fun q h9 h8 => absurd h8 (Nat.not_le_of_lt h9)) (fun E9 ce9 q9 u9 t9 H locs ht9 hvm9 hu9 hE9 hz9 hk9 hS hce9 hcv9 hcl9 => ?_) (fun u9 t9 H9 l9 ht9 hvm9 hu9 hB9 hz9 hk9 hS9 => hu9.elim)
  subst hE9
  have hP := hP.kept (H1 := H) (fun k q hk => hk9 _ (vx_lt hP hk) (Nat.not_le_of_lt (vx_lt hP hk)))
  refine vx_catch (name := "java/lang/IllegalStateException") hown [⟨0, 10, 13, 13⟩] ⟨0, 10, 17, 25⟩ [] (htab.trans rfl) (fun z hz => by rcases List.mem_cons.mp hz with rfl | hz; exact Or.inr ⟨by decide, "java/lang/IndexOutOfBoundsException", hts (.classLink RL 13 "java/lang/IndexOutOfBoundsException") (by decide +kernel), hNc0⟩; exact nomatch hz) rfl (by decide) (hts (.classLink RL 25 "java/lang/IllegalStateException") (by decide +kernel)) (va_Nw.use rfl hT.2.2.2.2.2.2) hce9 hcv9 hcl9 ?_
  refine W.cs (cells' := 1) (slots' := 6) rfl rfl ?_
  refine lv_astore (lv' := [(4, .ref q9), (0, .ref q), (1, .int (nI 0)), (2, .int (nI 2)), (3, .ref oq)]) hx hb dL_insertAll_17 hl (by decide) rfl (fun ls hl => ?_)
  refine lv_iconst (v := nI 2) hx hb dL_insertAll_19 (by decide +kernel) ?_
  have hP9 := hP.sub (ws' := [(q, .inr (6, [.ref s0, .ref s1, .ref s2])), (s0, .inr (3, [.ref tq, .ref rq, .ref uq])), (tq, .inr (4, [.ref ca, .long sm, .int (oI lo)])), (ca, .inl (cJ, 64, .inr (.inl fc))), (rq, .inr (5, [.ref rb])), (rb, .inr (0, [.ref rd])), (rd, .inl (cJ, 128, .inr (.inl ft))), (uq, .inr (1, [.ref bm, .ref bs])), (bm, .inr (0, [.ref am])), (am, .inl (cJ, 64, .inr (.inl fm))), (bs, .inr (0, [.ref ap])), (ap, .inl (cJ, 64, .inr (.inl fs))), (s2, .inr (3, [.ref tq_o, .ref rq_o, .ref uq_o])), (tq_o, .inr (4, [.ref ca_o, .long osm, .int (oI olo)])), (ca_o, .inl (cJ, 64, .inr (.inl oc))), (rq_o, .inr (5, [.ref rb_o])), (rb_o, .inr (0, [.ref rd_o])), (rd_o, .inl (cJ, 128, .inr (.inl ot))), (uq_o, .inr (1, [.ref bm_o, .ref bs_o])), (bm_o, .inr (0, [.ref am_o])), (am_o, .inl (cJ, 64, .inr (.inl om))), (bs_o, .inr (0, [.ref ap_o])), (ap_o, .inl (cJ, 64, .inr (.inl os)))]) [0, 1, 2, 3, 4, 5, 6, 7, 8, 9, 10, 11, 12, 13, 14, 15, 16, 17, 18, 19, 20, 21, 22] rfl
  have hD9 := hD.sub (ws' := [(q, .inr (6, [.ref s0, .ref s1, .ref s2])), (s0, .inr (3, [.ref tq, .ref rq, .ref uq])), (tq, .inr (4, [.ref ca, .long sm, .int (oI lo)])), (ca, .inl (cJ, 64, .inr (.inl fc))), (rq, .inr (5, [.ref rb])), (rb, .inr (0, [.ref rd])), (rd, .inl (cJ, 128, .inr (.inl ft))), (uq, .inr (1, [.ref bm, .ref bs])), (bm, .inr (0, [.ref am])), (am, .inl (cJ, 64, .inr (.inl fm))), (bs, .inr (0, [.ref ap])), (ap, .inl (cJ, 64, .inr (.inl fs))), (s2, .inr (3, [.ref tq_o, .ref rq_o, .ref uq_o])), (tq_o, .inr (4, [.ref ca_o, .long osm, .int (oI olo)])), (ca_o, .inl (cJ, 64, .inr (.inl oc))), (rq_o, .inr (5, [.ref rb_o])), (rb_o, .inr (0, [.ref rd_o])), (rd_o, .inl (cJ, 128, .inr (.inl ot))), (uq_o, .inr (1, [.ref bm_o, .ref bs_o])), (bm_o, .inr (0, [.ref am_o])), (am_o, .inl (cJ, 64, .inr (.inl om))), (bs_o, .inr (0, [.ref ap_o])), (ap_o, .inl (cJ, 64, .inr (.inl os)))]) [0, 1, 2, 3, 4, 5, 6, 7, 8, 9, 10, 11, 12, 13, 14, 15, 16, 17, 18, 19, 20, 21, 22] (by decide) rfl
  have hK9 := hK.sub (tys' := [(cJ, .long)]) [0] rfl
  exact W.iret (v := nI 2) hx hb hr (fun t9 ht hW => ⟨⟨nI 2, (), rfl, rfl, by rw [ht]; exact hP9, va_K.moved hW.alike hK9, hD9⟩, hS.F ht⟩) hS.2.2 dL_insertAll_20
set_option maxHeartbeats 4000000 in
set_option maxRecDepth 100000 in
/-- law: clusterMinimum, clusterMinimum_p0 -/
theorem c_L_clusterMinimum_p0 (l : Launch) (hls : l.stackTraces = false) (dC : Nat → ClassId) (dI : Nat → Nat → Nat) (q : Nat) (s0 : Nat) (s1 : Nat) (s2 : Nat) (w : Int32) (oq : Nat) (sa : Nat) (sz : Nat) (hW : pl w 64 = false) : Met l yL_clusterMinimum wsL_clusterMinimum ({ frames := 8, cells := 1, slots := 6, locals := 126 }) (va_Pc [.ref q, .int (nI 0), .int w, .ref oq] (fun U => TW "java/lang/IndexOutOfBoundsException" 165 "no such cluster, level, place or bucket" sa (fun q => sz ≤ q) U U.heap ∧ U.heap.size = sz ∧ va_P (dC, dI) vwCl [(q, .inr (6, [.ref s0, .ref s1, .ref s2]))] U.heap ∧ va_K (dC, dI) vwCl [] U ∧ va_D (fun _ => True) [(q, .inr (6, [.ref s0, .ref s1, .ref s2]))])) (va_Qi (fun (r : Int32) (u : Unit) => r = nI 1) (fun (u : Unit) (t : State) => va_P (dC, dI) vwCl [(q, .inr (6, [.ref s0, .ref s1, .ref s2]))] t.heap ∧ va_K (dC, dI) vwCl [] t ∧ va_D (va_A [(q, .inr (6, [.ref s0, .ref s1, .ref s2]))] sz) [(q, .inr (6, [.ref s0, .ref s1, .ref s2]))]) (va_A [(q, .inr (6, [.ref s0, .ref s1, .ref s2]))] sz)) 1 6 (va_A [(q, .inr (6, [.ref s0, .ref s1, .ref s2]))] sz) := by
  refine va_MetW (cc := cL_clusterMinimum) (maxL := 5) (ret := (some .int)) (hh := [(0, 10, 13, 13)]) (by decide) rfl ?_
  intro p e s m args below meth c s₁ B hml hv
  obtain ⟨rfl, hT, hsz, hP, hK, hD0⟩ := hv
  have hx := B.exec
  have hb := B.bytes
  have hr := B.returns
  have hts := atoms_spec (ws := wsL_clusterMinimum) B.pre
  have hown : s.vm.findClass RL = some m.cls := findClass_of_methodNamed B.named
  have hlocks := B.notSynchronized
  have htab : c.exceptionTable.toList = tableOf [(0, 10, 13, 13)] := vx_table (x := yL_clusterMinimum) B (hts _ List.mem_cons_self)
  subst hsz
  have hD := hD0.self (sz := s.heap.size)
  generalize hAe : va_A [(q, .inr (6, [.ref s0, .ref s1, .ref s2]))] s.heap.size = A at hD ⊢
  have hA : ∀ q : Nat, s.heap.size ≤ q → A q := fun q h => by rw [← hAe]; exact Or.inr h
  have hS : va_S A s.heap s.heap [] := va_S.rf
  have hP : va_P (dC, dI) vwCl [(q, .inr (6, [.ref s0, .ref s1, .ref s2]))] s.heap := hP
  have hl := lv_entry ([.ref q, .int (nI 0), .int w, .ref oq]) (n := 5) (Nat.le_of_ble_eq_true rfl)
  rw [lg_entry_eq]
  generalize (lg_sl ([.ref q, .int (nI 0), .int w, .ref oq]) ++ List.replicate (5 - (lg_sl ([.ref q, .int (nI 0), .int w, .ref oq])).length) Slot.unset).toArray = ls at hl ⊢
  have hl : lv_has ls 5 [(0, .ref q), (1, .int (nI 0)), (2, .int w), (3, .ref oq)] := hl
  refine lv_aload_n hx hb dL_clusterMinimum_0 rfl (lv_at hl 3 rfl) ?_
  refine lv_iconst (v := nI 0) hx hb dL_clusterMinimum_1 (by decide +kernel) ?_
  refine lv_aload_n hx hb dL_clusterMinimum_2 rfl (lv_at hl 0 rfl) ?_
  refine lv_iload_n hx hb dL_clusterMinimum_3 rfl (lv_at hl 1 rfl) ?_
  refine lv_iload_n hx hb dL_clusterMinimum_4 rfl (lv_at hl 2 rfl) ?_
  have hPc := hP.sub (ws' := [(q, .inr (6, [.ref s0, .ref s1, .ref s2]))]) [0] rfl
  have hKc := hK.sub (tys' := []) [] rfl
  have hDc := hD.sub (ws' := [(q, .inr (6, [.ref s0, .ref s1, .ref s2]))]) [0] (by decide) rfl
  refine vx_callv (vx_runV (As := [.int (nI 0), .int w]) (rest := [.int (nI 0), .ref oq]) ⟨hx, hb, hml, hown, hts⟩ (x_X7_clusterMinimum_p0 l hls dC dI q s0 s1 s2 w sa s.heap.size (by first | assumption | omega)) (cwV 2 hts gL_clusterMinimum_X7_clusterMinimum rfl rfl rfl (by decide +kernel) ⟨Nat.le_of_ble_eq_true rfl, Nat.le_of_ble_eq_true rfl⟩) ⟨fun a U g mk q => by obtain ⟨q0, q1, qT, qP, qK, qD⟩ := q; exact ⟨q0, q1, TW.same (u := U) (U := U.calling g mk a) rfl qT, qP, va_K.moved (u := U) (U := U.calling g mk a) (Vm.Alike.refl U.vm) qK, qD⟩, va_recv hKc hPc (ci := 6) (q0 := 0) rfl rfl, fun U hU hW => ⟨rfl, by rw [hU], by rw [hU]; exact TW.warm hW hT, by rw [hU]; exact hPc, va_K.moved hW.alike hKc, hDc.weaken (fun _ _ _ _ => trivial)⟩⟩ rfl rfl hl.1 rfl (lv_room (Nat.le_of_ble_eq_true rfl)) dL_clusterMinimum_5 ⟨Nat.le_of_ble_eq_true rfl, Nat.le_of_ble_eq_true rfl⟩) hS (fun q h9 h8 => absurd h8 (Nat.not_le_of_lt h9)) (fun q h8 => hA q (Nat.le_trans hS.1 h8)) (fun q h9 h8 => absurd h8 (Nat.not_le_of_lt h9)) (fun E9 ce9 q9 u9 t9 H locs ht9 hvm9 hu9 hE9 hz9 hk9 hS hce9 hcv9 hcl9 => ?_) (fun u9 t9 H9 l9 ht9 hvm9 hu9 hB9 hz9 hk9 hS9 => hu9.elim)
  subst hE9
  have hP := hP.kept (H1 := H) (fun k q hk => hk9 _ (vx_lt hP hk) (Nat.not_le_of_lt (vx_lt hP hk)))
  refine vx_catch (name := "java/lang/IndexOutOfBoundsException") hown [] ⟨0, 10, 13, 13⟩ [] (htab.trans rfl) (fun z hz => nomatch hz) rfl (by decide) (hts (.classLink RL 13 "java/lang/IndexOutOfBoundsException") (by decide +kernel)) (va_Nw.use rfl hT.2.2.2.2.2.2) hce9 hcv9 hcl9 ?_
  refine W.cs (cells' := 1) (slots' := 6) rfl rfl ?_
  refine lv_astore (lv' := [(4, .ref q9), (0, .ref q), (1, .int (nI 0)), (2, .int w), (3, .ref oq)]) hx hb dL_clusterMinimum_13 hl (by decide) rfl (fun ls hl => ?_)
  refine lv_iconst (v := nI 1) hx hb dL_clusterMinimum_15 (by decide +kernel) ?_
  have hP9 := hP.sub (ws' := [(q, .inr (6, [.ref s0, .ref s1, .ref s2]))]) [0] rfl
  have hD9 := hD.sub (ws' := [(q, .inr (6, [.ref s0, .ref s1, .ref s2]))]) [0] (by decide) rfl
  have hK9 := hK.sub (tys' := []) [] rfl
  exact W.iret (v := nI 1) hx hb hr (fun t9 ht hW => ⟨⟨nI 1, (), rfl, rfl, by rw [ht]; exact hP9, va_K.moved hW.alike hK9, hD9⟩, hS.F ht⟩) hS.2.2 dL_clusterMinimum_16
set_option maxHeartbeats 4000000 in
set_option maxRecDepth 100000 in
/-- law: clusterMaximum, clusterMaximum_p0 -/
theorem c_L_clusterMaximum_p0 (l : Launch) (hls : l.stackTraces = false) (dC : Nat → ClassId) (dI : Nat → Nat → Nat) (q : Nat) (s0 : Nat) (s1 : Nat) (s2 : Nat) (w : Int32) (oq : Nat) (sa : Nat) (sz : Nat) (hW : pl w 64 = false) : Met l yL_clusterMaximum wsL_clusterMaximum ({ frames := 8, cells := 1, slots := 6, locals := 126 }) (va_Pc [.ref q, .int (nI 0), .int w, .ref oq] (fun U => TW "java/lang/IndexOutOfBoundsException" 165 "no such cluster, level, place or bucket" sa (fun q => sz ≤ q) U U.heap ∧ U.heap.size = sz ∧ va_P (dC, dI) vwCl [(q, .inr (6, [.ref s0, .ref s1, .ref s2]))] U.heap ∧ va_K (dC, dI) vwCl [] U ∧ va_D (fun _ => True) [(q, .inr (6, [.ref s0, .ref s1, .ref s2]))])) (va_Qi (fun (r : Int32) (u : Unit) => r = nI 1) (fun (u : Unit) (t : State) => va_P (dC, dI) vwCl [(q, .inr (6, [.ref s0, .ref s1, .ref s2]))] t.heap ∧ va_K (dC, dI) vwCl [] t ∧ va_D (va_A [(q, .inr (6, [.ref s0, .ref s1, .ref s2]))] sz) [(q, .inr (6, [.ref s0, .ref s1, .ref s2]))]) (va_A [(q, .inr (6, [.ref s0, .ref s1, .ref s2]))] sz)) 1 6 (va_A [(q, .inr (6, [.ref s0, .ref s1, .ref s2]))] sz) := by
  refine va_MetW (cc := cL_clusterMaximum) (maxL := 5) (ret := (some .int)) (hh := [(0, 10, 13, 13)]) (by decide) rfl ?_
  intro p e s m args below meth c s₁ B hml hv
  obtain ⟨rfl, hT, hsz, hP, hK, hD0⟩ := hv
  have hx := B.exec
  have hb := B.bytes
  have hr := B.returns
  have hts := atoms_spec (ws := wsL_clusterMaximum) B.pre
  have hown : s.vm.findClass RL = some m.cls := findClass_of_methodNamed B.named
  have hlocks := B.notSynchronized
  have htab : c.exceptionTable.toList = tableOf [(0, 10, 13, 13)] := vx_table (x := yL_clusterMaximum) B (hts _ List.mem_cons_self)
  subst hsz
  have hD := hD0.self (sz := s.heap.size)
  generalize hAe : va_A [(q, .inr (6, [.ref s0, .ref s1, .ref s2]))] s.heap.size = A at hD ⊢
  have hA : ∀ q : Nat, s.heap.size ≤ q → A q := fun q h => by rw [← hAe]; exact Or.inr h
  have hS : va_S A s.heap s.heap [] := va_S.rf
  have hP : va_P (dC, dI) vwCl [(q, .inr (6, [.ref s0, .ref s1, .ref s2]))] s.heap := hP
  have hl := lv_entry ([.ref q, .int (nI 0), .int w, .ref oq]) (n := 5) (Nat.le_of_ble_eq_true rfl)
  rw [lg_entry_eq]
  generalize (lg_sl ([.ref q, .int (nI 0), .int w, .ref oq]) ++ List.replicate (5 - (lg_sl ([.ref q, .int (nI 0), .int w, .ref oq])).length) Slot.unset).toArray = ls at hl ⊢
  have hl : lv_has ls 5 [(0, .ref q), (1, .int (nI 0)), (2, .int w), (3, .ref oq)] := hl
  refine lv_aload_n hx hb dL_clusterMaximum_0 rfl (lv_at hl 3 rfl) ?_
  refine lv_iconst (v := nI 0) hx hb dL_clusterMaximum_1 (by decide +kernel) ?_
  refine lv_aload_n hx hb dL_clusterMaximum_2 rfl (lv_at hl 0 rfl) ?_
  refine lv_iload_n hx hb dL_clusterMaximum_3 rfl (lv_at hl 1 rfl) ?_
  refine lv_iload_n hx hb dL_clusterMaximum_4 rfl (lv_at hl 2 rfl) ?_
  have hPc := hP.sub (ws' := [(q, .inr (6, [.ref s0, .ref s1, .ref s2]))]) [0] rfl
  have hKc := hK.sub (tys' := []) [] rfl
  have hDc := hD.sub (ws' := [(q, .inr (6, [.ref s0, .ref s1, .ref s2]))]) [0] (by decide) rfl
  refine vx_callv (vx_runV (As := [.int (nI 0), .int w]) (rest := [.int (nI 0), .ref oq]) ⟨hx, hb, hml, hown, hts⟩ (x_X7_clusterMaximum_p0 l hls dC dI q s0 s1 s2 w sa s.heap.size (by first | assumption | omega)) (cwV 2 hts gL_clusterMaximum_X7_clusterMaximum rfl rfl rfl (by decide +kernel) ⟨Nat.le_of_ble_eq_true rfl, Nat.le_of_ble_eq_true rfl⟩) ⟨fun a U g mk q => by obtain ⟨q0, q1, qT, qP, qK, qD⟩ := q; exact ⟨q0, q1, TW.same (u := U) (U := U.calling g mk a) rfl qT, qP, va_K.moved (u := U) (U := U.calling g mk a) (Vm.Alike.refl U.vm) qK, qD⟩, va_recv hKc hPc (ci := 6) (q0 := 0) rfl rfl, fun U hU hW => ⟨rfl, by rw [hU], by rw [hU]; exact TW.warm hW hT, by rw [hU]; exact hPc, va_K.moved hW.alike hKc, hDc.weaken (fun _ _ _ _ => trivial)⟩⟩ rfl rfl hl.1 rfl (lv_room (Nat.le_of_ble_eq_true rfl)) dL_clusterMaximum_5 ⟨Nat.le_of_ble_eq_true rfl, Nat.le_of_ble_eq_true rfl⟩) hS (fun q h9 h8 => absurd h8 (Nat.not_le_of_lt h9)) (fun q h8 => hA q (Nat.le_trans hS.1 h8)) (fun q h9 h8 => absurd h8 (Nat.not_le_of_lt h9)) (fun E9 ce9 q9 u9 t9 H locs ht9 hvm9 hu9 hE9 hz9 hk9 hS hce9 hcv9 hcl9 => ?_) (fun u9 t9 H9 l9 ht9 hvm9 hu9 hB9 hz9 hk9 hS9 => hu9.elim)
  subst hE9
  have hP := hP.kept (H1 := H) (fun k q hk => hk9 _ (vx_lt hP hk) (Nat.not_le_of_lt (vx_lt hP hk)))
  refine vx_catch (name := "java/lang/IndexOutOfBoundsException") hown [] ⟨0, 10, 13, 13⟩ [] (htab.trans rfl) (fun z hz => nomatch hz) rfl (by decide) (hts (.classLink RL 13 "java/lang/IndexOutOfBoundsException") (by decide +kernel)) (va_Nw.use rfl hT.2.2.2.2.2.2) hce9 hcv9 hcl9 ?_
  refine W.cs (cells' := 1) (slots' := 6) rfl rfl ?_
  refine lv_astore (lv' := [(4, .ref q9), (0, .ref q), (1, .int (nI 0)), (2, .int w), (3, .ref oq)]) hx hb dL_clusterMaximum_13 hl (by decide) rfl (fun ls hl => ?_)
  refine lv_iconst (v := nI 1) hx hb dL_clusterMaximum_15 (by decide +kernel) ?_
  have hP9 := hP.sub (ws' := [(q, .inr (6, [.ref s0, .ref s1, .ref s2]))]) [0] rfl
  have hD9 := hD.sub (ws' := [(q, .inr (6, [.ref s0, .ref s1, .ref s2]))]) [0] (by decide) rfl
  have hK9 := hK.sub (tys' := []) [] rfl
  exact W.iret (v := nI 1) hx hb hr (fun t9 ht hW => ⟨⟨nI 1, (), rfl, rfl, by rw [ht]; exact hP9, va_K.moved hW.alike hK9, hD9⟩, hS.F ht⟩) hS.2.2 dL_clusterMaximum_16
set_option maxHeartbeats 4000000 in
set_option maxRecDepth 100000 in
/-- law: prefixes, prefixes_p0 -/
theorem c_L_prefixes_p0 (l : Launch) (hls : l.stackTraces = false) (dC : Nat → ClassId) (dI : Nat → Nat → Nat) (q : Nat) (s0 : Nat) (s1 : Nat) (s2 : Nat) (w : Int32) (oq : Nat) (sa : Nat) (sz : Nat) (hW : pl w 13 = false) : Met l yL_prefixes wsL_prefixes ({ frames := 8, cells := 1, slots := 6, locals := 126 }) (va_Pc [.ref q, .int (nI 0), .int w, .ref oq] (fun U => TW "java/lang/IndexOutOfBoundsException" 165 "no such cluster, level, place or bucket" sa (fun q => sz ≤ q) U U.heap ∧ U.heap.size = sz ∧ va_P (dC, dI) vwCl [(q, .inr (6, [.ref s0, .ref s1, .ref s2]))] U.heap ∧ va_K (dC, dI) vwCl [] U ∧ va_D (fun _ => True) [(q, .inr (6, [.ref s0, .ref s1, .ref s2]))])) (va_Qi (fun (r : Int32) (u : Unit) => r = nI 1) (fun (u : Unit) (t : State) => va_P (dC, dI) vwCl [(q, .inr (6, [.ref s0, .ref s1, .ref s2]))] t.heap ∧ va_K (dC, dI) vwCl [] t ∧ va_D (va_A [(q, .inr (6, [.ref s0, .ref s1, .ref s2]))] sz) [(q, .inr (6, [.ref s0, .ref s1, .ref s2]))]) (va_A [(q, .inr (6, [.ref s0, .ref s1, .ref s2]))] sz)) 1 6 (va_A [(q, .inr (6, [.ref s0, .ref s1, .ref s2]))] sz) := by
  refine va_MetW (cc := cL_prefixes) (maxL := 5) (ret := (some .int)) (hh := [(0, 10, 13, 13)]) (by decide) rfl ?_
  intro p e s m args below meth c s₁ B hml hv
  obtain ⟨rfl, hT, hsz, hP, hK, hD0⟩ := hv
  have hx := B.exec
  have hb := B.bytes
  have hr := B.returns
  have hts := atoms_spec (ws := wsL_prefixes) B.pre
  have hown : s.vm.findClass RL = some m.cls := findClass_of_methodNamed B.named
  have hlocks := B.notSynchronized
  have htab : c.exceptionTable.toList = tableOf [(0, 10, 13, 13)] := vx_table (x := yL_prefixes) B (hts _ List.mem_cons_self)
  subst hsz
  have hD := hD0.self (sz := s.heap.size)
  generalize hAe : va_A [(q, .inr (6, [.ref s0, .ref s1, .ref s2]))] s.heap.size = A at hD ⊢
  have hA : ∀ q : Nat, s.heap.size ≤ q → A q := fun q h => by rw [← hAe]; exact Or.inr h
  have hS : va_S A s.heap s.heap [] := va_S.rf
  have hP : va_P (dC, dI) vwCl [(q, .inr (6, [.ref s0, .ref s1, .ref s2]))] s.heap := hP
  have hl := lv_entry ([.ref q, .int (nI 0), .int w, .ref oq]) (n := 5) (Nat.le_of_ble_eq_true rfl)
  rw [lg_entry_eq]
  generalize (lg_sl ([.ref q, .int (nI 0), .int w, .ref oq]) ++ List.replicate (5 - (lg_sl ([.ref q, .int (nI 0), .int w, .ref oq])).length) Slot.unset).toArray = ls at hl ⊢
  have hl : lv_has ls 5 [(0, .ref q), (1, .int (nI 0)), (2, .int w), (3, .ref oq)] := hl
  refine lv_aload_n hx hb dL_prefixes_0 rfl (lv_at hl 3 rfl) ?_
  refine lv_iconst (v := nI 0) hx hb dL_prefixes_1 (by decide +kernel) ?_
  refine lv_aload_n hx hb dL_prefixes_2 rfl (lv_at hl 0 rfl) ?_
  refine lv_iload_n hx hb dL_prefixes_3 rfl (lv_at hl 1 rfl) ?_
  refine lv_iload_n hx hb dL_prefixes_4 rfl (lv_at hl 2 rfl) ?_
  have hPc := hP.sub (ws' := [(q, .inr (6, [.ref s0, .ref s1, .ref s2]))]) [0] rfl
  have hKc := hK.sub (tys' := []) [] rfl
  have hDc := hD.sub (ws' := [(q, .inr (6, [.ref s0, .ref s1, .ref s2]))]) [0] (by decide) rfl
  refine vx_callv (vx_runV (As := [.int (nI 0), .int w]) (rest := [.int (nI 0), .ref oq]) ⟨hx, hb, hml, hown, hts⟩ (x_X7_prefixes_p0 l hls dC dI q s0 s1 s2 w sa s.heap.size (by first | assumption | omega)) (cwV 2 hts gL_prefixes_X7_prefixes rfl rfl rfl (by decide +kernel) ⟨Nat.le_of_ble_eq_true rfl, Nat.le_of_ble_eq_true rfl⟩) ⟨fun a U g mk q => by obtain ⟨q0, q1, qT, qP, qK, qD⟩ := q; exact ⟨q0, q1, TW.same (u := U) (U := U.calling g mk a) rfl qT, qP, va_K.moved (u := U) (U := U.calling g mk a) (Vm.Alike.refl U.vm) qK, qD⟩, va_recv hKc hPc (ci := 6) (q0 := 0) rfl rfl, fun U hU hW => ⟨rfl, by rw [hU], by rw [hU]; exact TW.warm hW hT, by rw [hU]; exact hPc, va_K.moved hW.alike hKc, hDc.weaken (fun _ _ _ _ => trivial)⟩⟩ rfl rfl hl.1 rfl (lv_room (Nat.le_of_ble_eq_true rfl)) dL_prefixes_5 ⟨Nat.le_of_ble_eq_true rfl, Nat.le_of_ble_eq_true rfl⟩) hS (fun q h9 h8 => absurd h8 (Nat.not_le_of_lt h9)) (fun q h8 => hA q (Nat.le_trans hS.1 h8)) (fun q h9 h8 => absurd h8 (Nat.not_le_of_lt h9)) (fun E9 ce9 q9 u9 t9 H locs ht9 hvm9 hu9 hE9 hz9 hk9 hS hce9 hcv9 hcl9 => ?_) (fun u9 t9 H9 l9 ht9 hvm9 hu9 hB9 hz9 hk9 hS9 => hu9.elim)
  subst hE9
  have hP := hP.kept (H1 := H) (fun k q hk => hk9 _ (vx_lt hP hk) (Nat.not_le_of_lt (vx_lt hP hk)))
  refine vx_catch (name := "java/lang/IndexOutOfBoundsException") hown [] ⟨0, 10, 13, 13⟩ [] (htab.trans rfl) (fun z hz => nomatch hz) rfl (by decide) (hts (.classLink RL 13 "java/lang/IndexOutOfBoundsException") (by decide +kernel)) (va_Nw.use rfl hT.2.2.2.2.2.2) hce9 hcv9 hcl9 ?_
  refine W.cs (cells' := 1) (slots' := 6) rfl rfl ?_
  refine lv_astore (lv' := [(4, .ref q9), (0, .ref q), (1, .int (nI 0)), (2, .int w), (3, .ref oq)]) hx hb dL_prefixes_13 hl (by decide) rfl (fun ls hl => ?_)
  refine lv_iconst (v := nI 1) hx hb dL_prefixes_15 (by decide +kernel) ?_
  have hP9 := hP.sub (ws' := [(q, .inr (6, [.ref s0, .ref s1, .ref s2]))]) [0] rfl
  have hD9 := hD.sub (ws' := [(q, .inr (6, [.ref s0, .ref s1, .ref s2]))]) [0] (by decide) rfl
  have hK9 := hK.sub (tys' := []) [] rfl
  exact W.iret (v := nI 1) hx hb hr (fun t9 ht hW => ⟨⟨nI 1, (), rfl, rfl, by rw [ht]; exact hP9, va_K.moved hW.alike hK9, hD9⟩, hS.F ht⟩) hS.2.2 dL_prefixes_16
set_option maxHeartbeats 4000000 in
set_option maxRecDepth 100000 in
/-- law: select, select_p0 -/
theorem c_L_select_p0 (l : Launch) (hls : l.stackTraces = false) (dC : Nat → ClassId) (dI : Nat → Nat → Nat) (q : Nat) (s0 : Nat) (s1 : Nat) (s2 : Nat) (tq : Nat) (ca : Nat) (rq : Nat) (rb : Nat) (rd : Nat) (uq : Nat) (bm : Nat) (am : Nat) (bs : Nat) (ap : Nat) (cJ : ClassId) (fm : Nat → Int64) (fs : Nat → Int64) (ft : Nat → Int64) (fc : Nat → Int64) (sm : Int64) (lo : Option Nat) (w : Int32) (oq : Nat) (sa : Nat) (sz : Nat) (hN : NI fm fs ft fc sm lo) (hW : pl w (fb_ct (bo fm) 4096) = false) : Met l yL_select wsL_select ({ frames := 8, cells := 1, slots := 6, locals := 126 }) (va_Pc [.ref q, .int (nI 0), .int w, .ref oq] (fun U => va_Nw (.fieldLinkNest RX7 38 "SmallNumberSets$NumberSet" "buckets" "LSmallNumberSets$Buckets;" "SmallNumberSets") U ∧ TW "java/lang/IndexOutOfBoundsException" 165 "no such cluster, level, place or bucket" sa (fun q => sz ≤ q) U U.heap ∧ U.heap.size = sz ∧ va_P (dC, dI) vwCl [(q, .inr (6, [.ref s0, .ref s1, .ref s2])), (s0, .inr (3, [.ref tq, .ref rq, .ref uq])), (tq, .inr (4, [.ref ca, .long sm, .int (oI lo)])), (ca, .inl (cJ, 64, .inr (.inl fc))), (rq, .inr (5, [.ref rb])), (rb, .inr (0, [.ref rd])), (rd, .inl (cJ, 128, .inr (.inl ft))), (uq, .inr (1, [.ref bm, .ref bs])), (bm, .inr (0, [.ref am])), (am, .inl (cJ, 64, .inr (.inl fm))), (bs, .inr (0, [.ref ap])), (ap, .inl (cJ, 64, .inr (.inl fs)))] U.heap ∧ va_K (dC, dI) vwCl [(cJ, .long)] U ∧ va_D (fun _ => True) [(q, .inr (6, [.ref s0, .ref s1, .ref s2])), (s0, .inr (3, [.ref tq, .ref rq, .ref uq])), (tq, .inr (4, [.ref ca, .long sm, .int (oI lo)])), (ca, .inl (cJ, 64, .inr (.inl fc))), (rq, .inr (5, [.ref rb])), (rb, .inr (0, [.ref rd])), (rd, .inl (cJ, 128, .inr (.inl ft))), (uq, .inr (1, [.ref bm, .ref bs])), (bm, .inr (0, [.ref am])), (am, .inl (cJ, 64, .inr (.inl fm))), (bs, .inr (0, [.ref ap])), (ap, .inl (cJ, 64, .inr (.inl fs)))])) (va_Qi (fun (r : Int32) (u : Unit) => r = nI 1) (fun (u : Unit) (t : State) => va_P (dC, dI) vwCl [(q, .inr (6, [.ref s0, .ref s1, .ref s2])), (s0, .inr (3, [.ref tq, .ref rq, .ref uq])), (tq, .inr (4, [.ref ca, .long sm, .int (oI lo)])), (ca, .inl (cJ, 64, .inr (.inl fc))), (rq, .inr (5, [.ref rb])), (rb, .inr (0, [.ref rd])), (rd, .inl (cJ, 128, .inr (.inl ft))), (uq, .inr (1, [.ref bm, .ref bs])), (bm, .inr (0, [.ref am])), (am, .inl (cJ, 64, .inr (.inl fm))), (bs, .inr (0, [.ref ap])), (ap, .inl (cJ, 64, .inr (.inl fs)))] t.heap ∧ va_K (dC, dI) vwCl [(cJ, .long)] t ∧ va_D (va_A [(q, .inr (6, [.ref s0, .ref s1, .ref s2])), (s0, .inr (3, [.ref tq, .ref rq, .ref uq])), (tq, .inr (4, [.ref ca, .long sm, .int (oI lo)])), (ca, .inl (cJ, 64, .inr (.inl fc))), (rq, .inr (5, [.ref rb])), (rb, .inr (0, [.ref rd])), (rd, .inl (cJ, 128, .inr (.inl ft))), (uq, .inr (1, [.ref bm, .ref bs])), (bm, .inr (0, [.ref am])), (am, .inl (cJ, 64, .inr (.inl fm))), (bs, .inr (0, [.ref ap])), (ap, .inl (cJ, 64, .inr (.inl fs)))] sz) [(q, .inr (6, [.ref s0, .ref s1, .ref s2])), (s0, .inr (3, [.ref tq, .ref rq, .ref uq])), (tq, .inr (4, [.ref ca, .long sm, .int (oI lo)])), (ca, .inl (cJ, 64, .inr (.inl fc))), (rq, .inr (5, [.ref rb])), (rb, .inr (0, [.ref rd])), (rd, .inl (cJ, 128, .inr (.inl ft))), (uq, .inr (1, [.ref bm, .ref bs])), (bm, .inr (0, [.ref am])), (am, .inl (cJ, 64, .inr (.inl fm))), (bs, .inr (0, [.ref ap])), (ap, .inl (cJ, 64, .inr (.inl fs)))]) (va_A [(q, .inr (6, [.ref s0, .ref s1, .ref s2])), (s0, .inr (3, [.ref tq, .ref rq, .ref uq])), (tq, .inr (4, [.ref ca, .long sm, .int (oI lo)])), (ca, .inl (cJ, 64, .inr (.inl fc))), (rq, .inr (5, [.ref rb])), (rb, .inr (0, [.ref rd])), (rd, .inl (cJ, 128, .inr (.inl ft))), (uq, .inr (1, [.ref bm, .ref bs])), (bm, .inr (0, [.ref am])), (am, .inl (cJ, 64, .inr (.inl fm))), (bs, .inr (0, [.ref ap])), (ap, .inl (cJ, 64, .inr (.inl fs)))] sz)) 1 6 (va_A [(q, .inr (6, [.ref s0, .ref s1, .ref s2])), (s0, .inr (3, [.ref tq, .ref rq, .ref uq])), (tq, .inr (4, [.ref ca, .long sm, .int (oI lo)])), (ca, .inl (cJ, 64, .inr (.inl fc))), (rq, .inr (5, [.ref rb])), (rb, .inr (0, [.ref rd])), (rd, .inl (cJ, 128, .inr (.inl ft))), (uq, .inr (1, [.ref bm, .ref bs])), (bm, .inr (0, [.ref am])), (am, .inl (cJ, 64, .inr (.inl fm))), (bs, .inr (0, [.ref ap])), (ap, .inl (cJ, 64, .inr (.inl fs)))] sz) := by
  refine va_MetW (cc := cL_select) (maxL := 5) (ret := (some .int)) (hh := [(0, 10, 13, 13)]) (by decide) rfl ?_
  intro p e s m args below meth c s₁ B hml hv
  obtain ⟨rfl, nw0, hT, hsz, hP, hK, hD0⟩ := hv
  have hx := B.exec
  have hb := B.bytes
  have hr := B.returns
  have hts := atoms_spec (ws := wsL_select) B.pre
  have hown : s.vm.findClass RL = some m.cls := findClass_of_methodNamed B.named
  have hlocks := B.notSynchronized
  have htab : c.exceptionTable.toList = tableOf [(0, 10, 13, 13)] := vx_table (x := yL_select) B (hts _ List.mem_cons_self)
  subst hsz
  have hD := hD0.self (sz := s.heap.size)
  generalize hAe : va_A [(q, .inr (6, [.ref s0, .ref s1, .ref s2])), (s0, .inr (3, [.ref tq, .ref rq, .ref uq])), (tq, .inr (4, [.ref ca, .long sm, .int (oI lo)])), (ca, .inl (cJ, 64, .inr (.inl fc))), (rq, .inr (5, [.ref rb])), (rb, .inr (0, [.ref rd])), (rd, .inl (cJ, 128, .inr (.inl ft))), (uq, .inr (1, [.ref bm, .ref bs])), (bm, .inr (0, [.ref am])), (am, .inl (cJ, 64, .inr (.inl fm))), (bs, .inr (0, [.ref ap])), (ap, .inl (cJ, 64, .inr (.inl fs)))] s.heap.size = A at hD ⊢
  have hA : ∀ q : Nat, s.heap.size ≤ q → A q := fun q h => by rw [← hAe]; exact Or.inr h
  have hS : va_S A s.heap s.heap [] := va_S.rf
  have hP : va_P (dC, dI) vwCl [(q, .inr (6, [.ref s0, .ref s1, .ref s2])), (s0, .inr (3, [.ref tq, .ref rq, .ref uq])), (tq, .inr (4, [.ref ca, .long sm, .int (oI lo)])), (ca, .inl (cJ, 64, .inr (.inl fc))), (rq, .inr (5, [.ref rb])), (rb, .inr (0, [.ref rd])), (rd, .inl (cJ, 128, .inr (.inl ft))), (uq, .inr (1, [.ref bm, .ref bs])), (bm, .inr (0, [.ref am])), (am, .inl (cJ, 64, .inr (.inl fm))), (bs, .inr (0, [.ref ap])), (ap, .inl (cJ, 64, .inr (.inl fs)))] s.heap := hP
  have hl := lv_entry ([.ref q, .int (nI 0), .int w, .ref oq]) (n := 5) (Nat.le_of_ble_eq_true rfl)
  rw [lg_entry_eq]
  generalize (lg_sl ([.ref q, .int (nI 0), .int w, .ref oq]) ++ List.replicate (5 - (lg_sl ([.ref q, .int (nI 0), .int w, .ref oq])).length) Slot.unset).toArray = ls at hl ⊢
  have hl : lv_has ls 5 [(0, .ref q), (1, .int (nI 0)), (2, .int w), (3, .ref oq)] := hl
  refine lv_aload_n hx hb dL_select_0 rfl (lv_at hl 3 rfl) ?_
  refine lv_iconst (v := nI 0) hx hb dL_select_1 (by decide +kernel) ?_
  refine lv_aload_n hx hb dL_select_2 rfl (lv_at hl 0 rfl) ?_
  refine lv_iload_n hx hb dL_select_3 rfl (lv_at hl 1 rfl) ?_
  refine lv_iload_n hx hb dL_select_4 rfl (lv_at hl 2 rfl) ?_
  have hPc := hP.sub (ws' := [(q, .inr (6, [.ref s0, .ref s1, .ref s2])), (s0, .inr (3, [.ref tq, .ref rq, .ref uq])), (tq, .inr (4, [.ref ca, .long sm, .int (oI lo)])), (ca, .inl (cJ, 64, .inr (.inl fc))), (rq, .inr (5, [.ref rb])), (rb, .inr (0, [.ref rd])), (rd, .inl (cJ, 128, .inr (.inl ft))), (uq, .inr (1, [.ref bm, .ref bs])), (bm, .inr (0, [.ref am])), (am, .inl (cJ, 64, .inr (.inl fm))), (bs, .inr (0, [.ref ap])), (ap, .inl (cJ, 64, .inr (.inl fs)))]) [0, 1, 2, 3, 4, 5, 6, 7, 8, 9, 10, 11] rfl
  have hKc := hK.sub (tys' := [(cJ, .long)]) [0] rfl
  have hDc := hD.sub (ws' := [(q, .inr (6, [.ref s0, .ref s1, .ref s2])), (s0, .inr (3, [.ref tq, .ref rq, .ref uq])), (tq, .inr (4, [.ref ca, .long sm, .int (oI lo)])), (ca, .inl (cJ, 64, .inr (.inl fc))), (rq, .inr (5, [.ref rb])), (rb, .inr (0, [.ref rd])), (rd, .inl (cJ, 128, .inr (.inl ft))), (uq, .inr (1, [.ref bm, .ref bs])), (bm, .inr (0, [.ref am])), (am, .inl (cJ, 64, .inr (.inl fm))), (bs, .inr (0, [.ref ap])), (ap, .inl (cJ, 64, .inr (.inl fs)))]) [0, 1, 2, 3, 4, 5, 6, 7, 8, 9, 10, 11] (by decide) rfl
  refine vx_callv (vx_runV (As := [.int (nI 0), .int w]) (rest := [.int (nI 0), .ref oq]) ⟨hx, hb, hml, hown, hts⟩ (x_X7_select_p0 l hls dC dI q s0 s1 s2 tq ca rq rb rd uq bm am bs ap cJ fm fs ft fc sm lo w sa s.heap.size (by first | assumption | omega) (by first | assumption | omega)) (cwV 2 hts gL_select_X7_select rfl rfl rfl (by decide +kernel) ⟨Nat.le_of_ble_eq_true rfl, Nat.le_of_ble_eq_true rfl⟩) ⟨fun a U g mk q => by obtain ⟨q0, nq0, q1, qT, qP, qK, qD⟩ := q; exact ⟨q0, va_Nw.same rfl (U := U.calling g mk a) rfl nq0, q1, TW.same (u := U) (U := U.calling g mk a) rfl qT, qP, va_K.moved (u := U) (U := U.calling g mk a) (Vm.Alike.refl U.vm) qK, qD⟩, va_recv hKc hPc (ci := 6) (q0 := 0) rfl rfl, fun U hU hW => ⟨rfl, va_Nw.warmF hW nw0, by rw [hU], by rw [hU]; exact TW.warm hW hT, by rw [hU]; exact hPc, va_K.moved hW.alike hKc, hDc.weaken (fun _ _ _ _ => trivial)⟩⟩ rfl rfl hl.1 rfl (lv_room (Nat.le_of_ble_eq_true rfl)) dL_select_5 ⟨Nat.le_of_ble_eq_true rfl, Nat.le_of_ble_eq_true rfl⟩) hS (fun q h9 h8 => absurd h8 (Nat.not_le_of_lt h9)) (fun q h8 => hA q (Nat.le_trans hS.1 h8)) (fun q h9 h8 => absurd h8 (Nat.not_le_of_lt h9)) (fun E9 ce9 q9 u9 t9 H locs ht9 hvm9 hu9 hE9 hz9 hk9 hS hce9 hcv9 hcl9 => ?_) (fun u9 t9 H9 l9 ht9 hvm9 hu9 hB9 hz9 hk9 hS9 => hu9.elim)
  subst hE9
  have hP := hP.kept (H1 := H) (fun k q hk => hk9 _ (vx_lt hP hk) (Nat.not_le_of_lt (vx_lt hP hk)))
  refine vx_catch (name := "java/lang/IndexOutOfBoundsException") hown [] ⟨0, 10, 13, 13⟩ [] (htab.trans rfl) (fun z hz => nomatch hz) rfl (by decide) (hts (.classLink RL 13 "java/lang/IndexOutOfBoundsException") (by decide +kernel)) (va_Nw.use rfl hT.2.2.2.2.2.2) hce9 hcv9 hcl9 ?_
  refine W.cs (cells' := 1) (slots' := 6) rfl rfl ?_
  refine lv_astore (lv' := [(4, .ref q9), (0, .ref q), (1, .int (nI 0)), (2, .int w), (3, .ref oq)]) hx hb dL_select_13 hl (by decide) rfl (fun ls hl => ?_)
  refine lv_iconst (v := nI 1) hx hb dL_select_15 (by decide +kernel) ?_
  have hP9 := hP.sub (ws' := [(q, .inr (6, [.ref s0, .ref s1, .ref s2])), (s0, .inr (3, [.ref tq, .ref rq, .ref uq])), (tq, .inr (4, [.ref ca, .long sm, .int (oI lo)])), (ca, .inl (cJ, 64, .inr (.inl fc))), (rq, .inr (5, [.ref rb])), (rb, .inr (0, [.ref rd])), (rd, .inl (cJ, 128, .inr (.inl ft))), (uq, .inr (1, [.ref bm, .ref bs])), (bm, .inr (0, [.ref am])), (am, .inl (cJ, 64, .inr (.inl fm))), (bs, .inr (0, [.ref ap])), (ap, .inl (cJ, 64, .inr (.inl fs)))]) [0, 1, 2, 3, 4, 5, 6, 7, 8, 9, 10, 11] rfl
  have hD9 := hD.sub (ws' := [(q, .inr (6, [.ref s0, .ref s1, .ref s2])), (s0, .inr (3, [.ref tq, .ref rq, .ref uq])), (tq, .inr (4, [.ref ca, .long sm, .int (oI lo)])), (ca, .inl (cJ, 64, .inr (.inl fc))), (rq, .inr (5, [.ref rb])), (rb, .inr (0, [.ref rd])), (rd, .inl (cJ, 128, .inr (.inl ft))), (uq, .inr (1, [.ref bm, .ref bs])), (bm, .inr (0, [.ref am])), (am, .inl (cJ, 64, .inr (.inl fm))), (bs, .inr (0, [.ref ap])), (ap, .inl (cJ, 64, .inr (.inl fs)))]) [0, 1, 2, 3, 4, 5, 6, 7, 8, 9, 10, 11] (by decide) rfl
  have hK9 := hK.sub (tys' := [(cJ, .long)]) [0] rfl
  exact W.iret (v := nI 1) hx hb hr (fun t9 ht hW => ⟨⟨nI 1, (), rfl, rfl, by rw [ht]; exact hP9, va_K.moved hW.alike hK9, hD9⟩, hS.F ht⟩) hS.2.2 dL_select_16
set_option maxHeartbeats 4000000 in
set_option maxRecDepth 100000 in
/-- law: separator, separator_p0 -/
theorem c_L_separator_p0 (l : Launch) (hls : l.stackTraces = false) (dC : Nat → ClassId) (dI : Nat → Nat → Nat) (q : Nat) (s0 : Nat) (s1 : Nat) (s2 : Nat) (tq : Nat) (ca : Nat) (rq : Nat) (rb : Nat) (rd : Nat) (uq : Nat) (bm : Nat) (am : Nat) (bs : Nat) (ap : Nat) (cJ : ClassId) (fm : Nat → Int64) (fs : Nat → Int64) (ft : Nat → Int64) (fc : Nat → Int64) (sm : Int64) (lo : Option Nat) (w : Int32) (oq : Nat) (sa : Nat) (sz : Nat) (hN : NI fm fs ft fc sm lo) (hW : pl w (fb_ct (bo fs) 4096) = false) : Met l yL_separator wsL_separator ({ frames := 8, cells := 1, slots := 6, locals := 126 }) (va_Pc [.ref q, .int (nI 0), .int w, .ref oq] (fun U => va_Nw (.fieldLinkNest RX7 38 "SmallNumberSets$NumberSet" "buckets" "LSmallNumberSets$Buckets;" "SmallNumberSets") U ∧ TW "java/lang/IndexOutOfBoundsException" 165 "no such cluster, level, place or bucket" sa (fun q => sz ≤ q) U U.heap ∧ U.heap.size = sz ∧ va_P (dC, dI) vwCl [(q, .inr (6, [.ref s0, .ref s1, .ref s2])), (s0, .inr (3, [.ref tq, .ref rq, .ref uq])), (tq, .inr (4, [.ref ca, .long sm, .int (oI lo)])), (ca, .inl (cJ, 64, .inr (.inl fc))), (rq, .inr (5, [.ref rb])), (rb, .inr (0, [.ref rd])), (rd, .inl (cJ, 128, .inr (.inl ft))), (uq, .inr (1, [.ref bm, .ref bs])), (bm, .inr (0, [.ref am])), (am, .inl (cJ, 64, .inr (.inl fm))), (bs, .inr (0, [.ref ap])), (ap, .inl (cJ, 64, .inr (.inl fs)))] U.heap ∧ va_K (dC, dI) vwCl [(cJ, .long)] U ∧ va_D (fun _ => True) [(q, .inr (6, [.ref s0, .ref s1, .ref s2])), (s0, .inr (3, [.ref tq, .ref rq, .ref uq])), (tq, .inr (4, [.ref ca, .long sm, .int (oI lo)])), (ca, .inl (cJ, 64, .inr (.inl fc))), (rq, .inr (5, [.ref rb])), (rb, .inr (0, [.ref rd])), (rd, .inl (cJ, 128, .inr (.inl ft))), (uq, .inr (1, [.ref bm, .ref bs])), (bm, .inr (0, [.ref am])), (am, .inl (cJ, 64, .inr (.inl fm))), (bs, .inr (0, [.ref ap])), (ap, .inl (cJ, 64, .inr (.inl fs)))])) (va_Qi (fun (r : Int32) (u : Unit) => r = nI 1) (fun (u : Unit) (t : State) => va_P (dC, dI) vwCl [(q, .inr (6, [.ref s0, .ref s1, .ref s2])), (s0, .inr (3, [.ref tq, .ref rq, .ref uq])), (tq, .inr (4, [.ref ca, .long sm, .int (oI lo)])), (ca, .inl (cJ, 64, .inr (.inl fc))), (rq, .inr (5, [.ref rb])), (rb, .inr (0, [.ref rd])), (rd, .inl (cJ, 128, .inr (.inl ft))), (uq, .inr (1, [.ref bm, .ref bs])), (bm, .inr (0, [.ref am])), (am, .inl (cJ, 64, .inr (.inl fm))), (bs, .inr (0, [.ref ap])), (ap, .inl (cJ, 64, .inr (.inl fs)))] t.heap ∧ va_K (dC, dI) vwCl [(cJ, .long)] t ∧ va_D (va_A [(q, .inr (6, [.ref s0, .ref s1, .ref s2])), (s0, .inr (3, [.ref tq, .ref rq, .ref uq])), (tq, .inr (4, [.ref ca, .long sm, .int (oI lo)])), (ca, .inl (cJ, 64, .inr (.inl fc))), (rq, .inr (5, [.ref rb])), (rb, .inr (0, [.ref rd])), (rd, .inl (cJ, 128, .inr (.inl ft))), (uq, .inr (1, [.ref bm, .ref bs])), (bm, .inr (0, [.ref am])), (am, .inl (cJ, 64, .inr (.inl fm))), (bs, .inr (0, [.ref ap])), (ap, .inl (cJ, 64, .inr (.inl fs)))] sz) [(q, .inr (6, [.ref s0, .ref s1, .ref s2])), (s0, .inr (3, [.ref tq, .ref rq, .ref uq])), (tq, .inr (4, [.ref ca, .long sm, .int (oI lo)])), (ca, .inl (cJ, 64, .inr (.inl fc))), (rq, .inr (5, [.ref rb])), (rb, .inr (0, [.ref rd])), (rd, .inl (cJ, 128, .inr (.inl ft))), (uq, .inr (1, [.ref bm, .ref bs])), (bm, .inr (0, [.ref am])), (am, .inl (cJ, 64, .inr (.inl fm))), (bs, .inr (0, [.ref ap])), (ap, .inl (cJ, 64, .inr (.inl fs)))]) (va_A [(q, .inr (6, [.ref s0, .ref s1, .ref s2])), (s0, .inr (3, [.ref tq, .ref rq, .ref uq])), (tq, .inr (4, [.ref ca, .long sm, .int (oI lo)])), (ca, .inl (cJ, 64, .inr (.inl fc))), (rq, .inr (5, [.ref rb])), (rb, .inr (0, [.ref rd])), (rd, .inl (cJ, 128, .inr (.inl ft))), (uq, .inr (1, [.ref bm, .ref bs])), (bm, .inr (0, [.ref am])), (am, .inl (cJ, 64, .inr (.inl fm))), (bs, .inr (0, [.ref ap])), (ap, .inl (cJ, 64, .inr (.inl fs)))] sz)) 1 6 (va_A [(q, .inr (6, [.ref s0, .ref s1, .ref s2])), (s0, .inr (3, [.ref tq, .ref rq, .ref uq])), (tq, .inr (4, [.ref ca, .long sm, .int (oI lo)])), (ca, .inl (cJ, 64, .inr (.inl fc))), (rq, .inr (5, [.ref rb])), (rb, .inr (0, [.ref rd])), (rd, .inl (cJ, 128, .inr (.inl ft))), (uq, .inr (1, [.ref bm, .ref bs])), (bm, .inr (0, [.ref am])), (am, .inl (cJ, 64, .inr (.inl fm))), (bs, .inr (0, [.ref ap])), (ap, .inl (cJ, 64, .inr (.inl fs)))] sz) := by
  refine va_MetW (cc := cL_separator) (maxL := 5) (ret := (some .int)) (hh := [(0, 10, 13, 13)]) (by decide) rfl ?_
  intro p e s m args below meth c s₁ B hml hv
  obtain ⟨rfl, nw0, hT, hsz, hP, hK, hD0⟩ := hv
  have hx := B.exec
  have hb := B.bytes
  have hr := B.returns
  have hts := atoms_spec (ws := wsL_separator) B.pre
  have hown : s.vm.findClass RL = some m.cls := findClass_of_methodNamed B.named
  have hlocks := B.notSynchronized
  have htab : c.exceptionTable.toList = tableOf [(0, 10, 13, 13)] := vx_table (x := yL_separator) B (hts _ List.mem_cons_self)
  subst hsz
  have hD := hD0.self (sz := s.heap.size)
  generalize hAe : va_A [(q, .inr (6, [.ref s0, .ref s1, .ref s2])), (s0, .inr (3, [.ref tq, .ref rq, .ref uq])), (tq, .inr (4, [.ref ca, .long sm, .int (oI lo)])), (ca, .inl (cJ, 64, .inr (.inl fc))), (rq, .inr (5, [.ref rb])), (rb, .inr (0, [.ref rd])), (rd, .inl (cJ, 128, .inr (.inl ft))), (uq, .inr (1, [.ref bm, .ref bs])), (bm, .inr (0, [.ref am])), (am, .inl (cJ, 64, .inr (.inl fm))), (bs, .inr (0, [.ref ap])), (ap, .inl (cJ, 64, .inr (.inl fs)))] s.heap.size = A at hD ⊢
  have hA : ∀ q : Nat, s.heap.size ≤ q → A q := fun q h => by rw [← hAe]; exact Or.inr h
  have hS : va_S A s.heap s.heap [] := va_S.rf
  have hP : va_P (dC, dI) vwCl [(q, .inr (6, [.ref s0, .ref s1, .ref s2])), (s0, .inr (3, [.ref tq, .ref rq, .ref uq])), (tq, .inr (4, [.ref ca, .long sm, .int (oI lo)])), (ca, .inl (cJ, 64, .inr (.inl fc))), (rq, .inr (5, [.ref rb])), (rb, .inr (0, [.ref rd])), (rd, .inl (cJ, 128, .inr (.inl ft))), (uq, .inr (1, [.ref bm, .ref bs])), (bm, .inr (0, [.ref am])), (am, .inl (cJ, 64, .inr (.inl fm))), (bs, .inr (0, [.ref ap])), (ap, .inl (cJ, 64, .inr (.inl fs)))] s.heap := hP
  have hl := lv_entry ([.ref q, .int (nI 0), .int w, .ref oq]) (n := 5) (Nat.le_of_ble_eq_true rfl)
  rw [lg_entry_eq]
  generalize (lg_sl ([.ref q, .int (nI 0), .int w, .ref oq]) ++ List.replicate (5 - (lg_sl ([.ref q, .int (nI 0), .int w, .ref oq])).length) Slot.unset).toArray = ls at hl ⊢
  have hl : lv_has ls 5 [(0, .ref q), (1, .int (nI 0)), (2, .int w), (3, .ref oq)] := hl
  refine lv_aload_n hx hb dL_separator_0 rfl (lv_at hl 3 rfl) ?_
  refine lv_iconst (v := nI 0) hx hb dL_separator_1 (by decide +kernel) ?_
  refine lv_aload_n hx hb dL_separator_2 rfl (lv_at hl 0 rfl) ?_
  refine lv_iload_n hx hb dL_separator_3 rfl (lv_at hl 1 rfl) ?_
  refine lv_iload_n hx hb dL_separator_4 rfl (lv_at hl 2 rfl) ?_
  have hPc := hP.sub (ws' := [(q, .inr (6, [.ref s0, .ref s1, .ref s2])), (s0, .inr (3, [.ref tq, .ref rq, .ref uq])), (tq, .inr (4, [.ref ca, .long sm, .int (oI lo)])), (ca, .inl (cJ, 64, .inr (.inl fc))), (rq, .inr (5, [.ref rb])), (rb, .inr (0, [.ref rd])), (rd, .inl (cJ, 128, .inr (.inl ft))), (uq, .inr (1, [.ref bm, .ref bs])), (bm, .inr (0, [.ref am])), (am, .inl (cJ, 64, .inr (.inl fm))), (bs, .inr (0, [.ref ap])), (ap, .inl (cJ, 64, .inr (.inl fs)))]) [0, 1, 2, 3, 4, 5, 6, 7, 8, 9, 10, 11] rfl
  have hKc := hK.sub (tys' := [(cJ, .long)]) [0] rfl
  have hDc := hD.sub (ws' := [(q, .inr (6, [.ref s0, .ref s1, .ref s2])), (s0, .inr (3, [.ref tq, .ref rq, .ref uq])), (tq, .inr (4, [.ref ca, .long sm, .int (oI lo)])), (ca, .inl (cJ, 64, .inr (.inl fc))), (rq, .inr (5, [.ref rb])), (rb, .inr (0, [.ref rd])), (rd, .inl (cJ, 128, .inr (.inl ft))), (uq, .inr (1, [.ref bm, .ref bs])), (bm, .inr (0, [.ref am])), (am, .inl (cJ, 64, .inr (.inl fm))), (bs, .inr (0, [.ref ap])), (ap, .inl (cJ, 64, .inr (.inl fs)))]) [0, 1, 2, 3, 4, 5, 6, 7, 8, 9, 10, 11] (by decide) rfl
  refine vx_callv (vx_runV (As := [.int (nI 0), .int w]) (rest := [.int (nI 0), .ref oq]) ⟨hx, hb, hml, hown, hts⟩ (x_X7_separator_p0 l hls dC dI q s0 s1 s2 tq ca rq rb rd uq bm am bs ap cJ fm fs ft fc sm lo w sa s.heap.size (by first | assumption | omega) (by first | assumption | omega)) (cwV 2 hts gL_separator_X7_separator rfl rfl rfl (by decide +kernel) ⟨Nat.le_of_ble_eq_true rfl, Nat.le_of_ble_eq_true rfl⟩) ⟨fun a U g mk q => by obtain ⟨q0, nq0, q1, qT, qP, qK, qD⟩ := q; exact ⟨q0, va_Nw.same rfl (U := U.calling g mk a) rfl nq0, q1, TW.same (u := U) (U := U.calling g mk a) rfl qT, qP, va_K.moved (u := U) (U := U.calling g mk a) (Vm.Alike.refl U.vm) qK, qD⟩, va_recv hKc hPc (ci := 6) (q0 := 0) rfl rfl, fun U hU hW => ⟨rfl, va_Nw.warmF hW nw0, by rw [hU], by rw [hU]; exact TW.warm hW hT, by rw [hU]; exact hPc, va_K.moved hW.alike hKc, hDc.weaken (fun _ _ _ _ => trivial)⟩⟩ rfl rfl hl.1 rfl (lv_room (Nat.le_of_ble_eq_true rfl)) dL_separator_5 ⟨Nat.le_of_ble_eq_true rfl, Nat.le_of_ble_eq_true rfl⟩) hS (fun q h9 h8 => absurd h8 (Nat.not_le_of_lt h9)) (fun q h8 => hA q (Nat.le_trans hS.1 h8)) (fun q h9 h8 => absurd h8 (Nat.not_le_of_lt h9)) (fun E9 ce9 q9 u9 t9 H locs ht9 hvm9 hu9 hE9 hz9 hk9 hS hce9 hcv9 hcl9 => ?_) (fun u9 t9 H9 l9 ht9 hvm9 hu9 hB9 hz9 hk9 hS9 => hu9.elim)
  subst hE9
  have hP := hP.kept (H1 := H) (fun k q hk => hk9 _ (vx_lt hP hk) (Nat.not_le_of_lt (vx_lt hP hk)))
  refine vx_catch (name := "java/lang/IndexOutOfBoundsException") hown [] ⟨0, 10, 13, 13⟩ [] (htab.trans rfl) (fun z hz => nomatch hz) rfl (by decide) (hts (.classLink RL 13 "java/lang/IndexOutOfBoundsException") (by decide +kernel)) (va_Nw.use rfl hT.2.2.2.2.2.2) hce9 hcv9 hcl9 ?_
  refine W.cs (cells' := 1) (slots' := 6) rfl rfl ?_
  refine lv_astore (lv' := [(4, .ref q9), (0, .ref q), (1, .int (nI 0)), (2, .int w), (3, .ref oq)]) hx hb dL_separator_13 hl (by decide) rfl (fun ls hl => ?_)
  refine lv_iconst (v := nI 1) hx hb dL_separator_15 (by decide +kernel) ?_
  have hP9 := hP.sub (ws' := [(q, .inr (6, [.ref s0, .ref s1, .ref s2])), (s0, .inr (3, [.ref tq, .ref rq, .ref uq])), (tq, .inr (4, [.ref ca, .long sm, .int (oI lo)])), (ca, .inl (cJ, 64, .inr (.inl fc))), (rq, .inr (5, [.ref rb])), (rb, .inr (0, [.ref rd])), (rd, .inl (cJ, 128, .inr (.inl ft))), (uq, .inr (1, [.ref bm, .ref bs])), (bm, .inr (0, [.ref am])), (am, .inl (cJ, 64, .inr (.inl fm))), (bs, .inr (0, [.ref ap])), (ap, .inl (cJ, 64, .inr (.inl fs)))]) [0, 1, 2, 3, 4, 5, 6, 7, 8, 9, 10, 11] rfl
  have hD9 := hD.sub (ws' := [(q, .inr (6, [.ref s0, .ref s1, .ref s2])), (s0, .inr (3, [.ref tq, .ref rq, .ref uq])), (tq, .inr (4, [.ref ca, .long sm, .int (oI lo)])), (ca, .inl (cJ, 64, .inr (.inl fc))), (rq, .inr (5, [.ref rb])), (rb, .inr (0, [.ref rd])), (rd, .inl (cJ, 128, .inr (.inl ft))), (uq, .inr (1, [.ref bm, .ref bs])), (bm, .inr (0, [.ref am])), (am, .inl (cJ, 64, .inr (.inl fm))), (bs, .inr (0, [.ref ap])), (ap, .inl (cJ, 64, .inr (.inl fs)))]) [0, 1, 2, 3, 4, 5, 6, 7, 8, 9, 10, 11] (by decide) rfl
  have hK9 := hK.sub (tys' := [(cJ, .long)]) [0] rfl
  exact W.iret (v := nI 1) hx hb hr (fun t9 ht hW => ⟨⟨nI 1, (), rfl, rfl, by rw [ht]; exact hP9, va_K.moved hW.alike hK9, hD9⟩, hS.F ht⟩) hS.2.2 dL_separator_16
set_option maxHeartbeats 4000000 in
set_option maxRecDepth 100000 in
/-- law: bucketSize, bucketSize_p0 -/
theorem c_L_bucketSize_p0 (l : Launch) (hls : l.stackTraces = false) (dC : Nat → ClassId) (dI : Nat → Nat → Nat) (q : Nat) (s0 : Nat) (s1 : Nat) (s2 : Nat) (tq : Nat) (ca : Nat) (rq : Nat) (rb : Nat) (rd : Nat) (uq : Nat) (bm : Nat) (am : Nat) (bs : Nat) (ap : Nat) (cJ : ClassId) (fm : Nat → Int64) (fs : Nat → Int64) (ft : Nat → Int64) (fc : Nat → Int64) (sm : Int64) (lo : Option Nat) (w : Int32) (oq : Nat) (sa : Nat) (sz : Nat) (hN : NI fm fs ft fc sm lo) (hW : pl w (fb_ct (bo fs) 4096) = false) : Met l yL_bucketSize wsL_bucketSize ({ frames := 8, cells := 1, slots := 6, locals := 126 }) (va_Pc [.ref q, .int (nI 0), .int w, .ref oq] (fun U => va_Nw (.fieldLinkNest RX7 38 "SmallNumberSets$NumberSet" "buckets" "LSmallNumberSets$Buckets;" "SmallNumberSets") U ∧ TW "java/lang/IndexOutOfBoundsException" 165 "no such cluster, level, place or bucket" sa (fun q => sz ≤ q) U U.heap ∧ U.heap.size = sz ∧ va_P (dC, dI) vwCl [(q, .inr (6, [.ref s0, .ref s1, .ref s2])), (s0, .inr (3, [.ref tq, .ref rq, .ref uq])), (tq, .inr (4, [.ref ca, .long sm, .int (oI lo)])), (ca, .inl (cJ, 64, .inr (.inl fc))), (rq, .inr (5, [.ref rb])), (rb, .inr (0, [.ref rd])), (rd, .inl (cJ, 128, .inr (.inl ft))), (uq, .inr (1, [.ref bm, .ref bs])), (bm, .inr (0, [.ref am])), (am, .inl (cJ, 64, .inr (.inl fm))), (bs, .inr (0, [.ref ap])), (ap, .inl (cJ, 64, .inr (.inl fs)))] U.heap ∧ va_K (dC, dI) vwCl [(cJ, .long)] U ∧ va_D (fun _ => True) [(q, .inr (6, [.ref s0, .ref s1, .ref s2])), (s0, .inr (3, [.ref tq, .ref rq, .ref uq])), (tq, .inr (4, [.ref ca, .long sm, .int (oI lo)])), (ca, .inl (cJ, 64, .inr (.inl fc))), (rq, .inr (5, [.ref rb])), (rb, .inr (0, [.ref rd])), (rd, .inl (cJ, 128, .inr (.inl ft))), (uq, .inr (1, [.ref bm, .ref bs])), (bm, .inr (0, [.ref am])), (am, .inl (cJ, 64, .inr (.inl fm))), (bs, .inr (0, [.ref ap])), (ap, .inl (cJ, 64, .inr (.inl fs)))])) (va_Qi (fun (r : Int32) (u : Unit) => r = nI 1) (fun (u : Unit) (t : State) => va_P (dC, dI) vwCl [(q, .inr (6, [.ref s0, .ref s1, .ref s2])), (s0, .inr (3, [.ref tq, .ref rq, .ref uq])), (tq, .inr (4, [.ref ca, .long sm, .int (oI lo)])), (ca, .inl (cJ, 64, .inr (.inl fc))), (rq, .inr (5, [.ref rb])), (rb, .inr (0, [.ref rd])), (rd, .inl (cJ, 128, .inr (.inl ft))), (uq, .inr (1, [.ref bm, .ref bs])), (bm, .inr (0, [.ref am])), (am, .inl (cJ, 64, .inr (.inl fm))), (bs, .inr (0, [.ref ap])), (ap, .inl (cJ, 64, .inr (.inl fs)))] t.heap ∧ va_K (dC, dI) vwCl [(cJ, .long)] t ∧ va_D (va_A [(q, .inr (6, [.ref s0, .ref s1, .ref s2])), (s0, .inr (3, [.ref tq, .ref rq, .ref uq])), (tq, .inr (4, [.ref ca, .long sm, .int (oI lo)])), (ca, .inl (cJ, 64, .inr (.inl fc))), (rq, .inr (5, [.ref rb])), (rb, .inr (0, [.ref rd])), (rd, .inl (cJ, 128, .inr (.inl ft))), (uq, .inr (1, [.ref bm, .ref bs])), (bm, .inr (0, [.ref am])), (am, .inl (cJ, 64, .inr (.inl fm))), (bs, .inr (0, [.ref ap])), (ap, .inl (cJ, 64, .inr (.inl fs)))] sz) [(q, .inr (6, [.ref s0, .ref s1, .ref s2])), (s0, .inr (3, [.ref tq, .ref rq, .ref uq])), (tq, .inr (4, [.ref ca, .long sm, .int (oI lo)])), (ca, .inl (cJ, 64, .inr (.inl fc))), (rq, .inr (5, [.ref rb])), (rb, .inr (0, [.ref rd])), (rd, .inl (cJ, 128, .inr (.inl ft))), (uq, .inr (1, [.ref bm, .ref bs])), (bm, .inr (0, [.ref am])), (am, .inl (cJ, 64, .inr (.inl fm))), (bs, .inr (0, [.ref ap])), (ap, .inl (cJ, 64, .inr (.inl fs)))]) (va_A [(q, .inr (6, [.ref s0, .ref s1, .ref s2])), (s0, .inr (3, [.ref tq, .ref rq, .ref uq])), (tq, .inr (4, [.ref ca, .long sm, .int (oI lo)])), (ca, .inl (cJ, 64, .inr (.inl fc))), (rq, .inr (5, [.ref rb])), (rb, .inr (0, [.ref rd])), (rd, .inl (cJ, 128, .inr (.inl ft))), (uq, .inr (1, [.ref bm, .ref bs])), (bm, .inr (0, [.ref am])), (am, .inl (cJ, 64, .inr (.inl fm))), (bs, .inr (0, [.ref ap])), (ap, .inl (cJ, 64, .inr (.inl fs)))] sz)) 1 6 (va_A [(q, .inr (6, [.ref s0, .ref s1, .ref s2])), (s0, .inr (3, [.ref tq, .ref rq, .ref uq])), (tq, .inr (4, [.ref ca, .long sm, .int (oI lo)])), (ca, .inl (cJ, 64, .inr (.inl fc))), (rq, .inr (5, [.ref rb])), (rb, .inr (0, [.ref rd])), (rd, .inl (cJ, 128, .inr (.inl ft))), (uq, .inr (1, [.ref bm, .ref bs])), (bm, .inr (0, [.ref am])), (am, .inl (cJ, 64, .inr (.inl fm))), (bs, .inr (0, [.ref ap])), (ap, .inl (cJ, 64, .inr (.inl fs)))] sz) := by
  refine va_MetW (cc := cL_bucketSize) (maxL := 5) (ret := (some .int)) (hh := [(0, 10, 13, 13)]) (by decide) rfl ?_
  intro p e s m args below meth c s₁ B hml hv
  obtain ⟨rfl, nw0, hT, hsz, hP, hK, hD0⟩ := hv
  have hx := B.exec
  have hb := B.bytes
  have hr := B.returns
  have hts := atoms_spec (ws := wsL_bucketSize) B.pre
  have hown : s.vm.findClass RL = some m.cls := findClass_of_methodNamed B.named
  have hlocks := B.notSynchronized
  have htab : c.exceptionTable.toList = tableOf [(0, 10, 13, 13)] := vx_table (x := yL_bucketSize) B (hts _ List.mem_cons_self)
  subst hsz
  have hD := hD0.self (sz := s.heap.size)
  generalize hAe : va_A [(q, .inr (6, [.ref s0, .ref s1, .ref s2])), (s0, .inr (3, [.ref tq, .ref rq, .ref uq])), (tq, .inr (4, [.ref ca, .long sm, .int (oI lo)])), (ca, .inl (cJ, 64, .inr (.inl fc))), (rq, .inr (5, [.ref rb])), (rb, .inr (0, [.ref rd])), (rd, .inl (cJ, 128, .inr (.inl ft))), (uq, .inr (1, [.ref bm, .ref bs])), (bm, .inr (0, [.ref am])), (am, .inl (cJ, 64, .inr (.inl fm))), (bs, .inr (0, [.ref ap])), (ap, .inl (cJ, 64, .inr (.inl fs)))] s.heap.size = A at hD ⊢
  have hA : ∀ q : Nat, s.heap.size ≤ q → A q := fun q h => by rw [← hAe]; exact Or.inr h
  have hS : va_S A s.heap s.heap [] := va_S.rf
  have hP : va_P (dC, dI) vwCl [(q, .inr (6, [.ref s0, .ref s1, .ref s2])), (s0, .inr (3, [.ref tq, .ref rq, .ref uq])), (tq, .inr (4, [.ref ca, .long sm, .int (oI lo)])), (ca, .inl (cJ, 64, .inr (.inl fc))), (rq, .inr (5, [.ref rb])), (rb, .inr (0, [.ref rd])), (rd, .inl (cJ, 128, .inr (.inl ft))), (uq, .inr (1, [.ref bm, .ref bs])), (bm, .inr (0, [.ref am])), (am, .inl (cJ, 64, .inr (.inl fm))), (bs, .inr (0, [.ref ap])), (ap, .inl (cJ, 64, .inr (.inl fs)))] s.heap := hP
  have hl := lv_entry ([.ref q, .int (nI 0), .int w, .ref oq]) (n := 5) (Nat.le_of_ble_eq_true rfl)
  rw [lg_entry_eq]
  generalize (lg_sl ([.ref q, .int (nI 0), .int w, .ref oq]) ++ List.replicate (5 - (lg_sl ([.ref q, .int (nI 0), .int w, .ref oq])).length) Slot.unset).toArray = ls at hl ⊢
  have hl : lv_has ls 5 [(0, .ref q), (1, .int (nI 0)), (2, .int w), (3, .ref oq)] := hl
  refine lv_aload_n hx hb dL_bucketSize_0 rfl (lv_at hl 3 rfl) ?_
  refine lv_iconst (v := nI 0) hx hb dL_bucketSize_1 (by decide +kernel) ?_
  refine lv_aload_n hx hb dL_bucketSize_2 rfl (lv_at hl 0 rfl) ?_
  refine lv_iload_n hx hb dL_bucketSize_3 rfl (lv_at hl 1 rfl) ?_
  refine lv_iload_n hx hb dL_bucketSize_4 rfl (lv_at hl 2 rfl) ?_
  have hPc := hP.sub (ws' := [(q, .inr (6, [.ref s0, .ref s1, .ref s2])), (s0, .inr (3, [.ref tq, .ref rq, .ref uq])), (tq, .inr (4, [.ref ca, .long sm, .int (oI lo)])), (ca, .inl (cJ, 64, .inr (.inl fc))), (rq, .inr (5, [.ref rb])), (rb, .inr (0, [.ref rd])), (rd, .inl (cJ, 128, .inr (.inl ft))), (uq, .inr (1, [.ref bm, .ref bs])), (bm, .inr (0, [.ref am])), (am, .inl (cJ, 64, .inr (.inl fm))), (bs, .inr (0, [.ref ap])), (ap, .inl (cJ, 64, .inr (.inl fs)))]) [0, 1, 2, 3, 4, 5, 6, 7, 8, 9, 10, 11] rfl
  have hKc := hK.sub (tys' := [(cJ, .long)]) [0] rfl
  have hDc := hD.sub (ws' := [(q, .inr (6, [.ref s0, .ref s1, .ref s2])), (s0, .inr (3, [.ref tq, .ref rq, .ref uq])), (tq, .inr (4, [.ref ca, .long sm, .int (oI lo)])), (ca, .inl (cJ, 64, .inr (.inl fc))), (rq, .inr (5, [.ref rb])), (rb, .inr (0, [.ref rd])), (rd, .inl (cJ, 128, .inr (.inl ft))), (uq, .inr (1, [.ref bm, .ref bs])), (bm, .inr (0, [.ref am])), (am, .inl (cJ, 64, .inr (.inl fm))), (bs, .inr (0, [.ref ap])), (ap, .inl (cJ, 64, .inr (.inl fs)))]) [0, 1, 2, 3, 4, 5, 6, 7, 8, 9, 10, 11] (by decide) rfl
  refine vx_callv (vx_runV (As := [.int (nI 0), .int w]) (rest := [.int (nI 0), .ref oq]) ⟨hx, hb, hml, hown, hts⟩ (x_X7_bucketSize_p0 l hls dC dI q s0 s1 s2 tq ca rq rb rd uq bm am bs ap cJ fm fs ft fc sm lo w sa s.heap.size (by first | assumption | omega) (by first | assumption | omega)) (cwV 2 hts gL_bucketSize_X7_bucketSize rfl rfl rfl (by decide +kernel) ⟨Nat.le_of_ble_eq_true rfl, Nat.le_of_ble_eq_true rfl⟩) ⟨fun a U g mk q => by obtain ⟨q0, nq0, q1, qT, qP, qK, qD⟩ := q; exact ⟨q0, va_Nw.same rfl (U := U.calling g mk a) rfl nq0, q1, TW.same (u := U) (U := U.calling g mk a) rfl qT, qP, va_K.moved (u := U) (U := U.calling g mk a) (Vm.Alike.refl U.vm) qK, qD⟩, va_recv hKc hPc (ci := 6) (q0 := 0) rfl rfl, fun U hU hW => ⟨rfl, va_Nw.warmF hW nw0, by rw [hU], by rw [hU]; exact TW.warm hW hT, by rw [hU]; exact hPc, va_K.moved hW.alike hKc, hDc.weaken (fun _ _ _ _ => trivial)⟩⟩ rfl rfl hl.1 rfl (lv_room (Nat.le_of_ble_eq_true rfl)) dL_bucketSize_5 ⟨Nat.le_of_ble_eq_true rfl, Nat.le_of_ble_eq_true rfl⟩) hS (fun q h9 h8 => absurd h8 (Nat.not_le_of_lt h9)) (fun q h8 => hA q (Nat.le_trans hS.1 h8)) (fun q h9 h8 => absurd h8 (Nat.not_le_of_lt h9)) (fun E9 ce9 q9 u9 t9 H locs ht9 hvm9 hu9 hE9 hz9 hk9 hS hce9 hcv9 hcl9 => ?_) (fun u9 t9 H9 l9 ht9 hvm9 hu9 hB9 hz9 hk9 hS9 => hu9.elim)
  subst hE9
  have hP := hP.kept (H1 := H) (fun k q hk => hk9 _ (vx_lt hP hk) (Nat.not_le_of_lt (vx_lt hP hk)))
  refine vx_catch (name := "java/lang/IndexOutOfBoundsException") hown [] ⟨0, 10, 13, 13⟩ [] (htab.trans rfl) (fun z hz => nomatch hz) rfl (by decide) (hts (.classLink RL 13 "java/lang/IndexOutOfBoundsException") (by decide +kernel)) (va_Nw.use rfl hT.2.2.2.2.2.2) hce9 hcv9 hcl9 ?_
  refine W.cs (cells' := 1) (slots' := 6) rfl rfl ?_
  refine lv_astore (lv' := [(4, .ref q9), (0, .ref q), (1, .int (nI 0)), (2, .int w), (3, .ref oq)]) hx hb dL_bucketSize_13 hl (by decide) rfl (fun ls hl => ?_)
  refine lv_iconst (v := nI 1) hx hb dL_bucketSize_15 (by decide +kernel) ?_
  have hP9 := hP.sub (ws' := [(q, .inr (6, [.ref s0, .ref s1, .ref s2])), (s0, .inr (3, [.ref tq, .ref rq, .ref uq])), (tq, .inr (4, [.ref ca, .long sm, .int (oI lo)])), (ca, .inl (cJ, 64, .inr (.inl fc))), (rq, .inr (5, [.ref rb])), (rb, .inr (0, [.ref rd])), (rd, .inl (cJ, 128, .inr (.inl ft))), (uq, .inr (1, [.ref bm, .ref bs])), (bm, .inr (0, [.ref am])), (am, .inl (cJ, 64, .inr (.inl fm))), (bs, .inr (0, [.ref ap])), (ap, .inl (cJ, 64, .inr (.inl fs)))]) [0, 1, 2, 3, 4, 5, 6, 7, 8, 9, 10, 11] rfl
  have hD9 := hD.sub (ws' := [(q, .inr (6, [.ref s0, .ref s1, .ref s2])), (s0, .inr (3, [.ref tq, .ref rq, .ref uq])), (tq, .inr (4, [.ref ca, .long sm, .int (oI lo)])), (ca, .inl (cJ, 64, .inr (.inl fc))), (rq, .inr (5, [.ref rb])), (rb, .inr (0, [.ref rd])), (rd, .inl (cJ, 128, .inr (.inl ft))), (uq, .inr (1, [.ref bm, .ref bs])), (bm, .inr (0, [.ref am])), (am, .inl (cJ, 64, .inr (.inl fm))), (bs, .inr (0, [.ref ap])), (ap, .inl (cJ, 64, .inr (.inl fs)))]) [0, 1, 2, 3, 4, 5, 6, 7, 8, 9, 10, 11] (by decide) rfl
  have hK9 := hK.sub (tys' := [(cJ, .long)]) [0] rfl
  exact W.iret (v := nI 1) hx hb hr (fun t9 ht hW => ⟨⟨nI 1, (), rfl, rfl, by rw [ht]; exact hP9, va_K.moved hW.alike hK9, hD9⟩, hS.F ht⟩) hS.2.2 dL_bucketSize_16
set_option maxHeartbeats 4000000 in
set_option maxRecDepth 100000 in
/-- law: pollFirst, pollFirst_e0 -/
theorem c_L_pollFirst_e0 (l : Launch) (hls : l.stackTraces = false) (dC : Nat → ClassId) (dI : Nat → Nat → Nat) (q : Nat) (s0 : Nat) (s1 : Nat) (s2 : Nat) (tq : Nat) (ca : Nat) (rq : Nat) (rb : Nat) (rd : Nat) (uq : Nat) (bm : Nat) (am : Nat) (bs : Nat) (ap : Nat) (cJ : ClassId) (fm : Nat → Int64) (fs : Nat → Int64) (ft : Nat → Int64) (fc : Nat → Int64) (sm : Int64) (lo : Option Nat) (oq : Nat) (sa : Nat) (sz : Nat) (hN : NI fm fs ft fc sm lo) (hz : fst1 (bo fm) 4096 = none) : Met l yL_pollFirst wsL_pollFirst ({ frames := 8, cells := 1, slots := 6, locals := 125 }) (va_Pc [.ref q, .int (nI 0), .ref oq] (fun U => va_Nw (.fieldLinkNest RX7 62 "SmallNumberSets$NumberSet" "tree" "LSmallNumberSets$Tree;" "SmallNumberSets") U ∧ TW "java/util/NoSuchElementException" 162 "the set is empty" sa (fun q => sz ≤ q) U U.heap ∧ va_Nc "java/util/NoSuchElementException" "java/lang/IndexOutOfBoundsException" U ∧ U.heap.size = sz ∧ va_P (dC, dI) vwCl [(q, .inr (6, [.ref s0, .ref s1, .ref s2])), (s0, .inr (3, [.ref tq, .ref rq, .ref uq])), (tq, .inr (4, [.ref ca, .long sm, .int (oI lo)])), (ca, .inl (cJ, 64, .inr (.inl fc))), (rq, .inr (5, [.ref rb])), (rb, .inr (0, [.ref rd])), (rd, .inl (cJ, 128, .inr (.inl ft))), (uq, .inr (1, [.ref bm, .ref bs])), (bm, .inr (0, [.ref am])), (am, .inl (cJ, 64, .inr (.inl fm))), (bs, .inr (0, [.ref ap])), (ap, .inl (cJ, 64, .inr (.inl fs)))] U.heap ∧ va_K (dC, dI) vwCl [(cJ, .long)] U ∧ va_D (fun _ => True) [(q, .inr (6, [.ref s0, .ref s1, .ref s2])), (s0, .inr (3, [.ref tq, .ref rq, .ref uq])), (tq, .inr (4, [.ref ca, .long sm, .int (oI lo)])), (ca, .inl (cJ, 64, .inr (.inl fc))), (rq, .inr (5, [.ref rb])), (rb, .inr (0, [.ref rd])), (rd, .inl (cJ, 128, .inr (.inl ft))), (uq, .inr (1, [.ref bm, .ref bs])), (bm, .inr (0, [.ref am])), (am, .inl (cJ, 64, .inr (.inl fm))), (bs, .inr (0, [.ref ap])), (ap, .inl (cJ, 64, .inr (.inl fs)))])) (va_Qi (fun (r : Int32) (u : Unit) => r = nI 2) (fun (u : Unit) (t : State) => va_P (dC, dI) vwCl [(q, .inr (6, [.ref s0, .ref s1, .ref s2])), (s0, .inr (3, [.ref tq, .ref rq, .ref uq])), (tq, .inr (4, [.ref ca, .long sm, .int (oI lo)])), (ca, .inl (cJ, 64, .inr (.inl fc))), (rq, .inr (5, [.ref rb])), (rb, .inr (0, [.ref rd])), (rd, .inl (cJ, 128, .inr (.inl ft))), (uq, .inr (1, [.ref bm, .ref bs])), (bm, .inr (0, [.ref am])), (am, .inl (cJ, 64, .inr (.inl fm))), (bs, .inr (0, [.ref ap])), (ap, .inl (cJ, 64, .inr (.inl fs)))] t.heap ∧ va_K (dC, dI) vwCl [(cJ, .long)] t ∧ va_D (va_A [(q, .inr (6, [.ref s0, .ref s1, .ref s2])), (s0, .inr (3, [.ref tq, .ref rq, .ref uq])), (tq, .inr (4, [.ref ca, .long sm, .int (oI lo)])), (ca, .inl (cJ, 64, .inr (.inl fc))), (rq, .inr (5, [.ref rb])), (rb, .inr (0, [.ref rd])), (rd, .inl (cJ, 128, .inr (.inl ft))), (uq, .inr (1, [.ref bm, .ref bs])), (bm, .inr (0, [.ref am])), (am, .inl (cJ, 64, .inr (.inl fm))), (bs, .inr (0, [.ref ap])), (ap, .inl (cJ, 64, .inr (.inl fs)))] sz) [(q, .inr (6, [.ref s0, .ref s1, .ref s2])), (s0, .inr (3, [.ref tq, .ref rq, .ref uq])), (tq, .inr (4, [.ref ca, .long sm, .int (oI lo)])), (ca, .inl (cJ, 64, .inr (.inl fc))), (rq, .inr (5, [.ref rb])), (rb, .inr (0, [.ref rd])), (rd, .inl (cJ, 128, .inr (.inl ft))), (uq, .inr (1, [.ref bm, .ref bs])), (bm, .inr (0, [.ref am])), (am, .inl (cJ, 64, .inr (.inl fm))), (bs, .inr (0, [.ref ap])), (ap, .inl (cJ, 64, .inr (.inl fs)))]) (va_A [(q, .inr (6, [.ref s0, .ref s1, .ref s2])), (s0, .inr (3, [.ref tq, .ref rq, .ref uq])), (tq, .inr (4, [.ref ca, .long sm, .int (oI lo)])), (ca, .inl (cJ, 64, .inr (.inl fc))), (rq, .inr (5, [.ref rb])), (rb, .inr (0, [.ref rd])), (rd, .inl (cJ, 128, .inr (.inl ft))), (uq, .inr (1, [.ref bm, .ref bs])), (bm, .inr (0, [.ref am])), (am, .inl (cJ, 64, .inr (.inl fm))), (bs, .inr (0, [.ref ap])), (ap, .inl (cJ, 64, .inr (.inl fs)))] sz)) 1 6 (va_A [(q, .inr (6, [.ref s0, .ref s1, .ref s2])), (s0, .inr (3, [.ref tq, .ref rq, .ref uq])), (tq, .inr (4, [.ref ca, .long sm, .int (oI lo)])), (ca, .inl (cJ, 64, .inr (.inl fc))), (rq, .inr (5, [.ref rb])), (rb, .inr (0, [.ref rd])), (rd, .inl (cJ, 128, .inr (.inl ft))), (uq, .inr (1, [.ref bm, .ref bs])), (bm, .inr (0, [.ref am])), (am, .inl (cJ, 64, .inr (.inl fm))), (bs, .inr (0, [.ref ap])), (ap, .inl (cJ, 64, .inr (.inl fs)))] sz) := by
  refine va_MetW (cc := cL_pollFirst) (maxL := 4) (ret := (some .int)) (hh := [(0, 9, 12, 13), (0, 9, 15, 34)]) (by decide) rfl ?_
  intro p e s m args below meth c s₁ B hml hv
  obtain ⟨rfl, nw0, hT, hNc0, hsz, hP, hK, hD0⟩ := hv
  have hx := B.exec
  have hb := B.bytes
  have hr := B.returns
  have hts := atoms_spec (ws := wsL_pollFirst) B.pre
  have hown : s.vm.findClass RL = some m.cls := findClass_of_methodNamed B.named
  have hlocks := B.notSynchronized
  have htab : c.exceptionTable.toList = tableOf [(0, 9, 12, 13), (0, 9, 15, 34)] := vx_table (x := yL_pollFirst) B (hts _ List.mem_cons_self)
  subst hsz
  have hD := hD0.self (sz := s.heap.size)
  generalize hAe : va_A [(q, .inr (6, [.ref s0, .ref s1, .ref s2])), (s0, .inr (3, [.ref tq, .ref rq, .ref uq])), (tq, .inr (4, [.ref ca, .long sm, .int (oI lo)])), (ca, .inl (cJ, 64, .inr (.inl fc))), (rq, .inr (5, [.ref rb])), (rb, .inr (0, [.ref rd])), (rd, .inl (cJ, 128, .inr (.inl ft))), (uq, .inr (1, [.ref bm, .ref bs])), (bm, .inr (0, [.ref am])), (am, .inl (cJ, 64, .inr (.inl fm))), (bs, .inr (0, [.ref ap])), (ap, .inl (cJ, 64, .inr (.inl fs)))] s.heap.size = A at hD ⊢
  have hA : ∀ q : Nat, s.heap.size ≤ q → A q := fun q h => by rw [← hAe]; exact Or.inr h
  have hS : va_S A s.heap s.heap [] := va_S.rf
  have hP : va_P (dC, dI) vwCl [(q, .inr (6, [.ref s0, .ref s1, .ref s2])), (s0, .inr (3, [.ref tq, .ref rq, .ref uq])), (tq, .inr (4, [.ref ca, .long sm, .int (oI lo)])), (ca, .inl (cJ, 64, .inr (.inl fc))), (rq, .inr (5, [.ref rb])), (rb, .inr (0, [.ref rd])), (rd, .inl (cJ, 128, .inr (.inl ft))), (uq, .inr (1, [.ref bm, .ref bs])), (bm, .inr (0, [.ref am])), (am, .inl (cJ, 64, .inr (.inl fm))), (bs, .inr (0, [.ref ap])), (ap, .inl (cJ, 64, .inr (.inl fs)))] s.heap := hP
  have hl := lv_entry ([.ref q, .int (nI 0), .ref oq]) (n := 4) (Nat.le_of_ble_eq_true rfl)
  rw [lg_entry_eq]
  generalize (lg_sl ([.ref q, .int (nI 0), .ref oq]) ++ List.replicate (4 - (lg_sl ([.ref q, .int (nI 0), .ref oq])).length) Slot.unset).toArray = ls at hl ⊢
  have hl : lv_has ls 4 [(0, .ref q), (1, .int (nI 0)), (2, .ref oq)] := hl
  refine lv_aload_n hx hb dL_pollFirst_0 rfl (lv_at hl 2 rfl) ?_
  refine lv_iconst (v := nI 0) hx hb dL_pollFirst_1 (by decide +kernel) ?_
  refine lv_aload_n hx hb dL_pollFirst_2 rfl (lv_at hl 0 rfl) ?_
  refine lv_iload_n hx hb dL_pollFirst_3 rfl (lv_at hl 1 rfl) ?_
  have hPc := hP.sub (ws' := [(q, .inr (6, [.ref s0, .ref s1, .ref s2])), (s0, .inr (3, [.ref tq, .ref rq, .ref uq])), (tq, .inr (4, [.ref ca, .long sm, .int (oI lo)])), (ca, .inl (cJ, 64, .inr (.inl fc))), (rq, .inr (5, [.ref rb])), (rb, .inr (0, [.ref rd])), (rd, .inl (cJ, 128, .inr (.inl ft))), (uq, .inr (1, [.ref bm, .ref bs])), (bm, .inr (0, [.ref am])), (am, .inl (cJ, 64, .inr (.inl fm))), (bs, .inr (0, [.ref ap])), (ap, .inl (cJ, 64, .inr (.inl fs)))]) [0, 1, 2, 3, 4, 5, 6, 7, 8, 9, 10, 11] rfl
  have hKc := hK.sub (tys' := [(cJ, .long)]) [0] rfl
  have hDc := hD.sub (ws' := [(q, .inr (6, [.ref s0, .ref s1, .ref s2])), (s0, .inr (3, [.ref tq, .ref rq, .ref uq])), (tq, .inr (4, [.ref ca, .long sm, .int (oI lo)])), (ca, .inl (cJ, 64, .inr (.inl fc))), (rq, .inr (5, [.ref rb])), (rb, .inr (0, [.ref rd])), (rd, .inl (cJ, 128, .inr (.inl ft))), (uq, .inr (1, [.ref bm, .ref bs])), (bm, .inr (0, [.ref am])), (am, .inl (cJ, 64, .inr (.inl fm))), (bs, .inr (0, [.ref ap])), (ap, .inl (cJ, 64, .inr (.inl fs)))]) [0, 1, 2, 3, 4, 5, 6, 7, 8, 9, 10, 11] (by decide) rfl
  refine vx_callv (vx_runV (As := [.int (nI 0)]) (rest := [.int (nI 0), .ref oq]) ⟨hx, hb, hml, hown, hts⟩ (x_X7_pollFirst_e0 l hls dC dI q s0 s1 s2 tq ca rq rb rd uq bm am bs ap cJ fm fs ft fc sm lo sa s.heap.size (by first | assumption | omega) (by first | assumption | omega)) (cwV 1 hts gL_pollFirst_X7_pollFirst rfl rfl rfl (by decide +kernel) ⟨Nat.le_of_ble_eq_true rfl, Nat.le_of_ble_eq_true rfl⟩) ⟨fun a U g mk q => by obtain ⟨q0, nq0, q1, qT, qP, qK, qD⟩ := q; exact ⟨q0, va_Nw.same rfl (U := U.calling g mk a) rfl nq0, q1, TW.same (u := U) (U := U.calling g mk a) rfl qT, qP, va_K.moved (u := U) (U := U.calling g mk a) (Vm.Alike.refl U.vm) qK, qD⟩, va_recv hKc hPc (ci := 6) (q0 := 0) rfl rfl, fun U hU hW => ⟨rfl, va_Nw.warmF hW nw0, by rw [hU], by rw [hU]; exact TW.warm hW hT, by rw [hU]; exact hPc, va_K.moved hW.alike hKc, hDc.weaken (fun _ _ _ _ => trivial)⟩⟩ rfl rfl hl.1 rfl (lv_room (Nat.le_of_ble_eq_true rfl)) dL_pollFirst_4 ⟨Nat.le_of_ble_eq_true rfl, Nat.le_of_ble_eq_true rfl⟩) hS (fun q h9 h8 => absurd h8 (Nat.not_le_of_lt h9)) (fun q h8 => hA q (Nat.le_trans hS.1 h8)) (fun q h9 h8 => absurd h8 (Nat.not_le_of_lt h9)) (fun E9 ce9 q9 u9 t9 H locs ht9 hvm9 hu9 hE9 hz9 hk9 hS hce9 hcv9 hcl9 => ?_) (fun u9 t9 H9 l9 ht9 hvm9 hu9 hB9 hz9 hk9 hS9 => hu9.elim)
  subst hE9
  have hP := hP.kept (H1 := H) (fun k q hk => hk9 _ (vx_lt hP hk) (Nat.not_le_of_lt (vx_lt hP hk)))
  refine vx_catch (name := "java/util/NoSuchElementException") hown [⟨0, 9, 12, 13⟩] ⟨0, 9, 15, 34⟩ [] (htab.trans rfl) (fun z hz => by rcases List.mem_cons.mp hz with rfl | hz; exact Or.inr ⟨by decide, "java/lang/IndexOutOfBoundsException", hts (.classLink RL 13 "java/lang/IndexOutOfBoundsException") (by decide +kernel), hNc0⟩; exact nomatch hz) rfl (by decide) (hts (.classLink RL 34 "java/util/NoSuchElementException") (by decide +kernel)) (va_Nw.use rfl hT.2.2.2.2.2.2) hce9 hcv9 hcl9 ?_
  refine W.cs (cells' := 1) (slots' := 6) rfl rfl ?_
  refine lv_astore_n (lv' := [(3, .ref q9), (0, .ref q), (1, .int (nI 0)), (2, .ref oq)]) hx hb dL_pollFirst_15 rfl hl (by decide) rfl (fun ls hl => ?_)
  refine lv_iconst (v := nI 2) hx hb dL_pollFirst_16 (by decide +kernel) ?_
  have hP9 := hP.sub (ws' := [(q, .inr (6, [.ref s0, .ref s1, .ref s2])), (s0, .inr (3, [.ref tq, .ref rq, .ref uq])), (tq, .inr (4, [.ref ca, .long sm, .int (oI lo)])), (ca, .inl (cJ, 64, .inr (.inl fc))), (rq, .inr (5, [.ref rb])), (rb, .inr (0, [.ref rd])), (rd, .inl (cJ, 128, .inr (.inl ft))), (uq, .inr (1, [.ref bm, .ref bs])), (bm, .inr (0, [.ref am])), (am, .inl (cJ, 64, .inr (.inl fm))), (bs, .inr (0, [.ref ap])), (ap, .inl (cJ, 64, .inr (.inl fs)))]) [0, 1, 2, 3, 4, 5, 6, 7, 8, 9, 10, 11] rfl
  have hD9 := hD.sub (ws' := [(q, .inr (6, [.ref s0, .ref s1, .ref s2])), (s0, .inr (3, [.ref tq, .ref rq, .ref uq])), (tq, .inr (4, [.ref ca, .long sm, .int (oI lo)])), (ca, .inl (cJ, 64, .inr (.inl fc))), (rq, .inr (5, [.ref rb])), (rb, .inr (0, [.ref rd])), (rd, .inl (cJ, 128, .inr (.inl ft))), (uq, .inr (1, [.ref bm, .ref bs])), (bm, .inr (0, [.ref am])), (am, .inl (cJ, 64, .inr (.inl fm))), (bs, .inr (0, [.ref ap])), (ap, .inl (cJ, 64, .inr (.inl fs)))]) [0, 1, 2, 3, 4, 5, 6, 7, 8, 9, 10, 11] (by decide) rfl
  have hK9 := hK.sub (tys' := [(cJ, .long)]) [0] rfl
  exact W.iret (v := nI 2) hx hb hr (fun t9 ht hW => ⟨⟨nI 2, (), rfl, rfl, by rw [ht]; exact hP9, va_K.moved hW.alike hK9, hD9⟩, hS.F ht⟩) hS.2.2 dL_pollFirst_17
set_option maxHeartbeats 4000000 in
set_option maxRecDepth 100000 in
/-- law: pollLast, pollLast_e0 -/
theorem c_L_pollLast_e0 (l : Launch) (hls : l.stackTraces = false) (dC : Nat → ClassId) (dI : Nat → Nat → Nat) (q : Nat) (s0 : Nat) (s1 : Nat) (s2 : Nat) (tq : Nat) (ca : Nat) (rq : Nat) (rb : Nat) (rd : Nat) (uq : Nat) (bm : Nat) (am : Nat) (bs : Nat) (ap : Nat) (cJ : ClassId) (fm : Nat → Int64) (fs : Nat → Int64) (ft : Nat → Int64) (fc : Nat → Int64) (sm : Int64) (lo : Option Nat) (oq : Nat) (sa : Nat) (sz : Nat) (hN : NI fm fs ft fc sm lo) (hz : lst1 (bo fm) 4096 = none) : Met l yL_pollLast wsL_pollLast ({ frames := 8, cells := 1, slots := 6, locals := 125 }) (va_Pc [.ref q, .int (nI 0), .ref oq] (fun U => va_Nw (.fieldLinkNest RX7 62 "SmallNumberSets$NumberSet" "tree" "LSmallNumberSets$Tree;" "SmallNumberSets") U ∧ TW "java/util/NoSuchElementException" 162 "the set is empty" sa (fun q => sz ≤ q) U U.heap ∧ va_Nc "java/util/NoSuchElementException" "java/lang/IndexOutOfBoundsException" U ∧ U.heap.size = sz ∧ va_P (dC, dI) vwCl [(q, .inr (6, [.ref s0, .ref s1, .ref s2])), (s0, .inr (3, [.ref tq, .ref rq, .ref uq])), (tq, .inr (4, [.ref ca, .long sm, .int (oI lo)])), (ca, .inl (cJ, 64, .inr (.inl fc))), (rq, .inr (5, [.ref rb])), (rb, .inr (0, [.ref rd])), (rd, .inl (cJ, 128, .inr (.inl ft))), (uq, .inr (1, [.ref bm, .ref bs])), (bm, .inr (0, [.ref am])), (am, .inl (cJ, 64, .inr (.inl fm))), (bs, .inr (0, [.ref ap])), (ap, .inl (cJ, 64, .inr (.inl fs)))] U.heap ∧ va_K (dC, dI) vwCl [(cJ, .long)] U ∧ va_D (fun _ => True) [(q, .inr (6, [.ref s0, .ref s1, .ref s2])), (s0, .inr (3, [.ref tq, .ref rq, .ref uq])), (tq, .inr (4, [.ref ca, .long sm, .int (oI lo)])), (ca, .inl (cJ, 64, .inr (.inl fc))), (rq, .inr (5, [.ref rb])), (rb, .inr (0, [.ref rd])), (rd, .inl (cJ, 128, .inr (.inl ft))), (uq, .inr (1, [.ref bm, .ref bs])), (bm, .inr (0, [.ref am])), (am, .inl (cJ, 64, .inr (.inl fm))), (bs, .inr (0, [.ref ap])), (ap, .inl (cJ, 64, .inr (.inl fs)))])) (va_Qi (fun (r : Int32) (u : Unit) => r = nI 2) (fun (u : Unit) (t : State) => va_P (dC, dI) vwCl [(q, .inr (6, [.ref s0, .ref s1, .ref s2])), (s0, .inr (3, [.ref tq, .ref rq, .ref uq])), (tq, .inr (4, [.ref ca, .long sm, .int (oI lo)])), (ca, .inl (cJ, 64, .inr (.inl fc))), (rq, .inr (5, [.ref rb])), (rb, .inr (0, [.ref rd])), (rd, .inl (cJ, 128, .inr (.inl ft))), (uq, .inr (1, [.ref bm, .ref bs])), (bm, .inr (0, [.ref am])), (am, .inl (cJ, 64, .inr (.inl fm))), (bs, .inr (0, [.ref ap])), (ap, .inl (cJ, 64, .inr (.inl fs)))] t.heap ∧ va_K (dC, dI) vwCl [(cJ, .long)] t ∧ va_D (va_A [(q, .inr (6, [.ref s0, .ref s1, .ref s2])), (s0, .inr (3, [.ref tq, .ref rq, .ref uq])), (tq, .inr (4, [.ref ca, .long sm, .int (oI lo)])), (ca, .inl (cJ, 64, .inr (.inl fc))), (rq, .inr (5, [.ref rb])), (rb, .inr (0, [.ref rd])), (rd, .inl (cJ, 128, .inr (.inl ft))), (uq, .inr (1, [.ref bm, .ref bs])), (bm, .inr (0, [.ref am])), (am, .inl (cJ, 64, .inr (.inl fm))), (bs, .inr (0, [.ref ap])), (ap, .inl (cJ, 64, .inr (.inl fs)))] sz) [(q, .inr (6, [.ref s0, .ref s1, .ref s2])), (s0, .inr (3, [.ref tq, .ref rq, .ref uq])), (tq, .inr (4, [.ref ca, .long sm, .int (oI lo)])), (ca, .inl (cJ, 64, .inr (.inl fc))), (rq, .inr (5, [.ref rb])), (rb, .inr (0, [.ref rd])), (rd, .inl (cJ, 128, .inr (.inl ft))), (uq, .inr (1, [.ref bm, .ref bs])), (bm, .inr (0, [.ref am])), (am, .inl (cJ, 64, .inr (.inl fm))), (bs, .inr (0, [.ref ap])), (ap, .inl (cJ, 64, .inr (.inl fs)))]) (va_A [(q, .inr (6, [.ref s0, .ref s1, .ref s2])), (s0, .inr (3, [.ref tq, .ref rq, .ref uq])), (tq, .inr (4, [.ref ca, .long sm, .int (oI lo)])), (ca, .inl (cJ, 64, .inr (.inl fc))), (rq, .inr (5, [.ref rb])), (rb, .inr (0, [.ref rd])), (rd, .inl (cJ, 128, .inr (.inl ft))), (uq, .inr (1, [.ref bm, .ref bs])), (bm, .inr (0, [.ref am])), (am, .inl (cJ, 64, .inr (.inl fm))), (bs, .inr (0, [.ref ap])), (ap, .inl (cJ, 64, .inr (.inl fs)))] sz)) 1 6 (va_A [(q, .inr (6, [.ref s0, .ref s1, .ref s2])), (s0, .inr (3, [.ref tq, .ref rq, .ref uq])), (tq, .inr (4, [.ref ca, .long sm, .int (oI lo)])), (ca, .inl (cJ, 64, .inr (.inl fc))), (rq, .inr (5, [.ref rb])), (rb, .inr (0, [.ref rd])), (rd, .inl (cJ, 128, .inr (.inl ft))), (uq, .inr (1, [.ref bm, .ref bs])), (bm, .inr (0, [.ref am])), (am, .inl (cJ, 64, .inr (.inl fm))), (bs, .inr (0, [.ref ap])), (ap, .inl (cJ, 64, .inr (.inl fs)))] sz) := by
  refine va_MetW (cc := cL_pollLast) (maxL := 4) (ret := (some .int)) (hh := [(0, 9, 12, 13), (0, 9, 15, 34)]) (by decide) rfl ?_
  intro p e s m args below meth c s₁ B hml hv
  obtain ⟨rfl, nw0, hT, hNc0, hsz, hP, hK, hD0⟩ := hv
  have hx := B.exec
  have hb := B.bytes
  have hr := B.returns
  have hts := atoms_spec (ws := wsL_pollLast) B.pre
  have hown : s.vm.findClass RL = some m.cls := findClass_of_methodNamed B.named
  have hlocks := B.notSynchronized
  have htab : c.exceptionTable.toList = tableOf [(0, 9, 12, 13), (0, 9, 15, 34)] := vx_table (x := yL_pollLast) B (hts _ List.mem_cons_self)
  subst hsz
  have hD := hD0.self (sz := s.heap.size)
  generalize hAe : va_A [(q, .inr (6, [.ref s0, .ref s1, .ref s2])), (s0, .inr (3, [.ref tq, .ref rq, .ref uq])), (tq, .inr (4, [.ref ca, .long sm, .int (oI lo)])), (ca, .inl (cJ, 64, .inr (.inl fc))), (rq, .inr (5, [.ref rb])), (rb, .inr (0, [.ref rd])), (rd, .inl (cJ, 128, .inr (.inl ft))), (uq, .inr (1, [.ref bm, .ref bs])), (bm, .inr (0, [.ref am])), (am, .inl (cJ, 64, .inr (.inl fm))), (bs, .inr (0, [.ref ap])), (ap, .inl (cJ, 64, .inr (.inl fs)))] s.heap.size = A at hD ⊢
  have hA : ∀ q : Nat, s.heap.size ≤ q → A q := fun q h => by rw [← hAe]; exact Or.inr h
  have hS : va_S A s.heap s.heap [] := va_S.rf
  have hP : va_P (dC, dI) vwCl [(q, .inr (6, [.ref s0, .ref s1, .ref s2])), (s0, .inr (3, [.ref tq, .ref rq, .ref uq])), (tq, .inr (4, [.ref ca, .long sm, .int (oI lo)])), (ca, .inl (cJ, 64, .inr (.inl fc))), (rq, .inr (5, [.ref rb])), (rb, .inr (0, [.ref rd])), (rd, .inl (cJ, 128, .inr (.inl ft))), (uq, .inr (1, [.ref bm, .ref bs])), (bm, .inr (0, [.ref am])), (am, .inl (cJ, 64, .inr (.inl fm))), (bs, .inr (0, [.ref ap])), (ap, .inl (cJ, 64, .inr (.inl fs)))] s.heap := hP
  have hl := lv_entry ([.ref q, .int (nI 0), .ref oq]) (n := 4) (Nat.le_of_ble_eq_true rfl)
  rw [lg_entry_eq]
  generalize (lg_sl ([.ref q, .int (nI 0), .ref oq]) ++ List.replicate (4 - (lg_sl ([.ref q, .int (nI 0), .ref oq])).length) Slot.unset).toArray = ls at hl ⊢
  have hl : lv_has ls 4 [(0, .ref q), (1, .int (nI 0)), (2, .ref oq)] := hl
  refine lv_aload_n hx hb dL_pollLast_0 rfl (lv_at hl 2 rfl) ?_
  refine lv_iconst (v := nI 0) hx hb dL_pollLast_1 (by decide +kernel) ?_
  refine lv_aload_n hx hb dL_pollLast_2 rfl (lv_at hl 0 rfl) ?_
  refine lv_iload_n hx hb dL_pollLast_3 rfl (lv_at hl 1 rfl) ?_
  have hPc := hP.sub (ws' := [(q, .inr (6, [.ref s0, .ref s1, .ref s2])), (s0, .inr (3, [.ref tq, .ref rq, .ref uq])), (tq, .inr (4, [.ref ca, .long sm, .int (oI lo)])), (ca, .inl (cJ, 64, .inr (.inl fc))), (rq, .inr (5, [.ref rb])), (rb, .inr (0, [.ref rd])), (rd, .inl (cJ, 128, .inr (.inl ft))), (uq, .inr (1, [.ref bm, .ref bs])), (bm, .inr (0, [.ref am])), (am, .inl (cJ, 64, .inr (.inl fm))), (bs, .inr (0, [.ref ap])), (ap, .inl (cJ, 64, .inr (.inl fs)))]) [0, 1, 2, 3, 4, 5, 6, 7, 8, 9, 10, 11] rfl
  have hKc := hK.sub (tys' := [(cJ, .long)]) [0] rfl
  have hDc := hD.sub (ws' := [(q, .inr (6, [.ref s0, .ref s1, .ref s2])), (s0, .inr (3, [.ref tq, .ref rq, .ref uq])), (tq, .inr (4, [.ref ca, .long sm, .int (oI lo)])), (ca, .inl (cJ, 64, .inr (.inl fc))), (rq, .inr (5, [.ref rb])), (rb, .inr (0, [.ref rd])), (rd, .inl (cJ, 128, .inr (.inl ft))), (uq, .inr (1, [.ref bm, .ref bs])), (bm, .inr (0, [.ref am])), (am, .inl (cJ, 64, .inr (.inl fm))), (bs, .inr (0, [.ref ap])), (ap, .inl (cJ, 64, .inr (.inl fs)))]) [0, 1, 2, 3, 4, 5, 6, 7, 8, 9, 10, 11] (by decide) rfl
  refine vx_callv (vx_runV (As := [.int (nI 0)]) (rest := [.int (nI 0), .ref oq]) ⟨hx, hb, hml, hown, hts⟩ (x_X7_pollLast_e0 l hls dC dI q s0 s1 s2 tq ca rq rb rd uq bm am bs ap cJ fm fs ft fc sm lo sa s.heap.size (by first | assumption | omega) (by first | assumption | omega)) (cwV 1 hts gL_pollLast_X7_pollLast rfl rfl rfl (by decide +kernel) ⟨Nat.le_of_ble_eq_true rfl, Nat.le_of_ble_eq_true rfl⟩) ⟨fun a U g mk q => by obtain ⟨q0, nq0, q1, qT, qP, qK, qD⟩ := q; exact ⟨q0, va_Nw.same rfl (U := U.calling g mk a) rfl nq0, q1, TW.same (u := U) (U := U.calling g mk a) rfl qT, qP, va_K.moved (u := U) (U := U.calling g mk a) (Vm.Alike.refl U.vm) qK, qD⟩, va_recv hKc hPc (ci := 6) (q0 := 0) rfl rfl, fun U hU hW => ⟨rfl, va_Nw.warmF hW nw0, by rw [hU], by rw [hU]; exact TW.warm hW hT, by rw [hU]; exact hPc, va_K.moved hW.alike hKc, hDc.weaken (fun _ _ _ _ => trivial)⟩⟩ rfl rfl hl.1 rfl (lv_room (Nat.le_of_ble_eq_true rfl)) dL_pollLast_4 ⟨Nat.le_of_ble_eq_true rfl, Nat.le_of_ble_eq_true rfl⟩) hS (fun q h9 h8 => absurd h8 (Nat.not_le_of_lt h9)) (fun q h8 => hA q (Nat.le_trans hS.1 h8)) (fun q h9 h8 => absurd h8 (Nat.not_le_of_lt h9)) (fun E9 ce9 q9 u9 t9 H locs ht9 hvm9 hu9 hE9 hz9 hk9 hS hce9 hcv9 hcl9 => ?_) (fun u9 t9 H9 l9 ht9 hvm9 hu9 hB9 hz9 hk9 hS9 => hu9.elim)
  subst hE9
  have hP := hP.kept (H1 := H) (fun k q hk => hk9 _ (vx_lt hP hk) (Nat.not_le_of_lt (vx_lt hP hk)))
  refine vx_catch (name := "java/util/NoSuchElementException") hown [⟨0, 9, 12, 13⟩] ⟨0, 9, 15, 34⟩ [] (htab.trans rfl) (fun z hz => by rcases List.mem_cons.mp hz with rfl | hz; exact Or.inr ⟨by decide, "java/lang/IndexOutOfBoundsException", hts (.classLink RL 13 "java/lang/IndexOutOfBoundsException") (by decide +kernel), hNc0⟩; exact nomatch hz) rfl (by decide) (hts (.classLink RL 34 "java/util/NoSuchElementException") (by decide +kernel)) (va_Nw.use rfl hT.2.2.2.2.2.2) hce9 hcv9 hcl9 ?_
  refine W.cs (cells' := 1) (slots' := 6) rfl rfl ?_
  refine lv_astore_n (lv' := [(3, .ref q9), (0, .ref q), (1, .int (nI 0)), (2, .ref oq)]) hx hb dL_pollLast_15 rfl hl (by decide) rfl (fun ls hl => ?_)
  refine lv_iconst (v := nI 2) hx hb dL_pollLast_16 (by decide +kernel) ?_
  have hP9 := hP.sub (ws' := [(q, .inr (6, [.ref s0, .ref s1, .ref s2])), (s0, .inr (3, [.ref tq, .ref rq, .ref uq])), (tq, .inr (4, [.ref ca, .long sm, .int (oI lo)])), (ca, .inl (cJ, 64, .inr (.inl fc))), (rq, .inr (5, [.ref rb])), (rb, .inr (0, [.ref rd])), (rd, .inl (cJ, 128, .inr (.inl ft))), (uq, .inr (1, [.ref bm, .ref bs])), (bm, .inr (0, [.ref am])), (am, .inl (cJ, 64, .inr (.inl fm))), (bs, .inr (0, [.ref ap])), (ap, .inl (cJ, 64, .inr (.inl fs)))]) [0, 1, 2, 3, 4, 5, 6, 7, 8, 9, 10, 11] rfl
  have hD9 := hD.sub (ws' := [(q, .inr (6, [.ref s0, .ref s1, .ref s2])), (s0, .inr (3, [.ref tq, .ref rq, .ref uq])), (tq, .inr (4, [.ref ca, .long sm, .int (oI lo)])), (ca, .inl (cJ, 64, .inr (.inl fc))), (rq, .inr (5, [.ref rb])), (rb, .inr (0, [.ref rd])), (rd, .inl (cJ, 128, .inr (.inl ft))), (uq, .inr (1, [.ref bm, .ref bs])), (bm, .inr (0, [.ref am])), (am, .inl (cJ, 64, .inr (.inl fm))), (bs, .inr (0, [.ref ap])), (ap, .inl (cJ, 64, .inr (.inl fs)))]) [0, 1, 2, 3, 4, 5, 6, 7, 8, 9, 10, 11] (by decide) rfl
  have hK9 := hK.sub (tys' := [(cJ, .long)]) [0] rfl
  exact W.iret (v := nI 2) hx hb hr (fun t9 ht hW => ⟨⟨nI 2, (), rfl, rfl, by rw [ht]; exact hP9, va_K.moved hW.alike hK9, hD9⟩, hS.F ht⟩) hS.2.2 dL_pollLast_17
set_option maxHeartbeats 4000000 in
set_option maxRecDepth 100000 in
/-- law: insert, insert_n1 -/
theorem c_L_insert_n1 (l : Launch) (hls : l.stackTraces = false) (dC : Nat → ClassId) (dI : Nat → Nat → Nat) (q : Nat) (s0 : Nat) (s1 : Nat) (s2 : Nat) (w : Int32) (oq : Nat) (sa : Nat) (sz : Nat) (hW : isN w = false) : Met l yL_insert wsL_insert ({ frames := 8, cells := 1, slots := 6, locals := 125 }) (va_Pc [.ref q, .int (nI 1), .int w, .ref oq] (fun U => TW "java/lang/IllegalArgumentException" 153 "the number is out of range" sa (fun q => sz ≤ q) U U.heap ∧ va_Nc "java/lang/IllegalArgumentException" "java/lang/IndexOutOfBoundsException" U ∧ U.heap.size = sz ∧ va_P (dC, dI) vwCl [(q, .inr (6, [.ref s0, .ref s1, .ref s2]))] U.heap ∧ va_K (dC, dI) vwCl [] U ∧ va_D (fun _ => True) [(q, .inr (6, [.ref s0, .ref s1, .ref s2]))])) (va_Qi (fun (r : Int32) (u : Unit) => r = nI 2) (fun (u : Unit) (t : State) => va_P (dC, dI) vwCl [(q, .inr (6, [.ref s0, .ref s1, .ref s2]))] t.heap ∧ va_K (dC, dI) vwCl [] t ∧ va_D (va_A [(q, .inr (6, [.ref s0, .ref s1, .ref s2]))] sz) [(q, .inr (6, [.ref s0, .ref s1, .ref s2]))]) (va_A [(q, .inr (6, [.ref s0, .ref s1, .ref s2]))] sz)) 1 6 (va_A [(q, .inr (6, [.ref s0, .ref s1, .ref s2]))] sz) := by
  refine va_MetW (cc := cL_insert) (maxL := 5) (ret := (some .int)) (hh := [(0, 17, 20, 13), (0, 17, 24, 15)]) (by decide) rfl ?_
  intro p e s m args below meth c s₁ B hml hv
  obtain ⟨rfl, hT, hNc0, hsz, hP, hK, hD0⟩ := hv
  have hx := B.exec
  have hb := B.bytes
  have hr := B.returns
  have hts := atoms_spec (ws := wsL_insert) B.pre
  have hown : s.vm.findClass RL = some m.cls := findClass_of_methodNamed B.named
  have hlocks := B.notSynchronized
  have htab : c.exceptionTable.toList = tableOf [(0, 17, 20, 13), (0, 17, 24, 15)] := vx_table (x := yL_insert) B (hts _ List.mem_cons_self)
  subst hsz
  have hD := hD0.self (sz := s.heap.size)
  generalize hAe : va_A [(q, .inr (6, [.ref s0, .ref s1, .ref s2]))] s.heap.size = A at hD ⊢
  have hA : ∀ q : Nat, s.heap.size ≤ q → A q := fun q h => by rw [← hAe]; exact Or.inr h
  have hS : va_S A s.heap s.heap [] := va_S.rf
  have hP : va_P (dC, dI) vwCl [(q, .inr (6, [.ref s0, .ref s1, .ref s2]))] s.heap := hP
  have hl := lv_entry ([.ref q, .int (nI 1), .int w, .ref oq]) (n := 5) (Nat.le_of_ble_eq_true rfl)
  rw [lg_entry_eq]
  generalize (lg_sl ([.ref q, .int (nI 1), .int w, .ref oq]) ++ List.replicate (5 - (lg_sl ([.ref q, .int (nI 1), .int w, .ref oq])).length) Slot.unset).toArray = ls at hl ⊢
  have hl : lv_has ls 5 [(0, .ref q), (1, .int (nI 1)), (2, .int w), (3, .ref oq)] := hl
  refine lv_aload_n hx hb dL_insert_0 rfl (lv_at hl 3 rfl) ?_
  refine lv_iconst (v := nI 0) hx hb dL_insert_1 (by decide +kernel) ?_
  refine lv_aload_n hx hb dL_insert_2 rfl (lv_at hl 0 rfl) ?_
  refine lv_iload_n hx hb dL_insert_3 rfl (lv_at hl 1 rfl) ?_
  refine lv_iload_n hx hb dL_insert_4 rfl (lv_at hl 2 rfl) ?_
  have hPc := hP.sub (ws' := [(q, .inr (6, [.ref s0, .ref s1, .ref s2]))]) [0] rfl
  have hKc := hK.sub (tys' := []) [] rfl
  have hDc := hD.sub (ws' := [(q, .inr (6, [.ref s0, .ref s1, .ref s2]))]) [0] (by decide) rfl
  refine vx_callv (vx_runV (As := [.int (nI 1), .int w]) (rest := [.int (nI 0), .ref oq]) ⟨hx, hb, hml, hown, hts⟩ (x_X7_insert_n1 l hls dC dI q s0 s1 s2 w sa s.heap.size (by first | assumption | omega)) (cwV 2 hts gL_insert_X7_insert rfl rfl rfl (by decide +kernel) ⟨Nat.le_of_ble_eq_true rfl, Nat.le_of_ble_eq_true rfl⟩) ⟨fun a U g mk q => by obtain ⟨q0, q1, qT, qP, qK, qD⟩ := q; exact ⟨q0, q1, TW.same (u := U) (U := U.calling g mk a) rfl qT, qP, va_K.moved (u := U) (U := U.calling g mk a) (Vm.Alike.refl U.vm) qK, qD⟩, va_recv hKc hPc (ci := 6) (q0 := 0) rfl rfl, fun U hU hW => ⟨rfl, by rw [hU], by rw [hU]; exact TW.warm hW hT, by rw [hU]; exact hPc, va_K.moved hW.alike hKc, hDc.weaken (fun _ _ _ _ => trivial)⟩⟩ rfl rfl hl.1 rfl (lv_room (Nat.le_of_ble_eq_true rfl)) dL_insert_5 ⟨Nat.le_of_ble_eq_true rfl, Nat.le_of_ble_eq_true rfl⟩) hS (fun q h9 h8 => absurd h8 (Nat.not_le_of_lt h9)) (fun q h8 => hA q (Nat.le_trans hS.1 h8)) (fun q h9 h8 => absurd h8 (Nat.not_le_of_lt h9)) (fun E9 ce9 q9 u9 t9 H locs ht9 hvm9 hu9 hE9 hz9 hk9 hS hce9 hcv9 hcl9 => ?_) (fun u9 t9 H9 l9 ht9 hvm9 hu9 hB9 hz9 hk9 hS9 => hu9.elim)
  subst hE9
  have hP := hP.kept (H1 := H) (fun k q hk => hk9 _ (vx_lt hP hk) (Nat.not_le_of_lt (vx_lt hP hk)))
  refine vx_catch (name := "java/lang/IllegalArgumentException") hown [⟨0, 17, 20, 13⟩] ⟨0, 17, 24, 15⟩ [] (htab.trans rfl) (fun z hz => by rcases List.mem_cons.mp hz with rfl | hz; exact Or.inr ⟨by decide, "java/lang/IndexOutOfBoundsException", hts (.classLink RL 13 "java/lang/IndexOutOfBoundsException") (by decide +kernel), hNc0⟩; exact nomatch hz) rfl (by decide) (hts (.classLink RL 15 "java/lang/IllegalArgumentException") (by decide +kernel)) (va_Nw.use rfl hT.2.2.2.2.2.2) hce9 hcv9 hcl9 ?_
  refine W.cs (cells' := 1) (slots' := 6) rfl rfl ?_
  refine lv_astore (lv' := [(4, .ref q9), (0, .ref q), (1, .int (nI 1)), (2, .int w), (3, .ref oq)]) hx hb dL_insert_24 hl (by decide) rfl (fun ls hl => ?_)
  refine lv_iconst (v := nI 2) hx hb dL_insert_26 (by decide +kernel) ?_
  have hP9 := hP.sub (ws' := [(q, .inr (6, [.ref s0, .ref s1, .ref s2]))]) [0] rfl
  have hD9 := hD.sub (ws' := [(q, .inr (6, [.ref s0, .ref s1, .ref s2]))]) [0] (by decide) rfl
  have hK9 := hK.sub (tys' := []) [] rfl
  exact W.iret (v := nI 2) hx hb hr (fun t9 ht hW => ⟨⟨nI 2, (), rfl, rfl, by rw [ht]; exact hP9, va_K.moved hW.alike hK9, hD9⟩, hS.F ht⟩) hS.2.2 dL_insert_27
set_option maxHeartbeats 4000000 in
set_option maxRecDepth 100000 in
/-- law: delete, delete_n1 -/
theorem c_L_delete_n1 (l : Launch) (hls : l.stackTraces = false) (dC : Nat → ClassId) (dI : Nat → Nat → Nat) (q : Nat) (s0 : Nat) (s1 : Nat) (s2 : Nat) (w : Int32) (oq : Nat) (sa : Nat) (sz : Nat) (hW : isN w = false) : Met l yL_delete wsL_delete ({ frames := 8, cells := 1, slots := 6, locals := 125 }) (va_Pc [.ref q, .int (nI 1), .int w, .ref oq] (fun U => TW "java/lang/IllegalArgumentException" 153 "the number is out of range" sa (fun q => sz ≤ q) U U.heap ∧ va_Nc "java/lang/IllegalArgumentException" "java/lang/IndexOutOfBoundsException" U ∧ U.heap.size = sz ∧ va_P (dC, dI) vwCl [(q, .inr (6, [.ref s0, .ref s1, .ref s2]))] U.heap ∧ va_K (dC, dI) vwCl [] U ∧ va_D (fun _ => True) [(q, .inr (6, [.ref s0, .ref s1, .ref s2]))])) (va_Qi (fun (r : Int32) (u : Unit) => r = nI 2) (fun (u : Unit) (t : State) => va_P (dC, dI) vwCl [(q, .inr (6, [.ref s0, .ref s1, .ref s2]))] t.heap ∧ va_K (dC, dI) vwCl [] t ∧ va_D (va_A [(q, .inr (6, [.ref s0, .ref s1, .ref s2]))] sz) [(q, .inr (6, [.ref s0, .ref s1, .ref s2]))]) (va_A [(q, .inr (6, [.ref s0, .ref s1, .ref s2]))] sz)) 1 6 (va_A [(q, .inr (6, [.ref s0, .ref s1, .ref s2]))] sz) := by
  refine va_MetW (cc := cL_delete) (maxL := 5) (ret := (some .int)) (hh := [(0, 17, 20, 13), (0, 17, 24, 15)]) (by decide) rfl ?_
  intro p e s m args below meth c s₁ B hml hv
  obtain ⟨rfl, hT, hNc0, hsz, hP, hK, hD0⟩ := hv
  have hx := B.exec
  have hb := B.bytes
  have hr := B.returns
  have hts := atoms_spec (ws := wsL_delete) B.pre
  have hown : s.vm.findClass RL = some m.cls := findClass_of_methodNamed B.named
  have hlocks := B.notSynchronized
  have htab : c.exceptionTable.toList = tableOf [(0, 17, 20, 13), (0, 17, 24, 15)] := vx_table (x := yL_delete) B (hts _ List.mem_cons_self)
  subst hsz
  have hD := hD0.self (sz := s.heap.size)
  generalize hAe : va_A [(q, .inr (6, [.ref s0, .ref s1, .ref s2]))] s.heap.size = A at hD ⊢
  have hA : ∀ q : Nat, s.heap.size ≤ q → A q := fun q h => by rw [← hAe]; exact Or.inr h
  have hS : va_S A s.heap s.heap [] := va_S.rf
  have hP : va_P (dC, dI) vwCl [(q, .inr (6, [.ref s0, .ref s1, .ref s2]))] s.heap := hP
  have hl := lv_entry ([.ref q, .int (nI 1), .int w, .ref oq]) (n := 5) (Nat.le_of_ble_eq_true rfl)
  rw [lg_entry_eq]
  generalize (lg_sl ([.ref q, .int (nI 1), .int w, .ref oq]) ++ List.replicate (5 - (lg_sl ([.ref q, .int (nI 1), .int w, .ref oq])).length) Slot.unset).toArray = ls at hl ⊢
  have hl : lv_has ls 5 [(0, .ref q), (1, .int (nI 1)), (2, .int w), (3, .ref oq)] := hl
  refine lv_aload_n hx hb dL_delete_0 rfl (lv_at hl 3 rfl) ?_
  refine lv_iconst (v := nI 0) hx hb dL_delete_1 (by decide +kernel) ?_
  refine lv_aload_n hx hb dL_delete_2 rfl (lv_at hl 0 rfl) ?_
  refine lv_iload_n hx hb dL_delete_3 rfl (lv_at hl 1 rfl) ?_
  refine lv_iload_n hx hb dL_delete_4 rfl (lv_at hl 2 rfl) ?_
  have hPc := hP.sub (ws' := [(q, .inr (6, [.ref s0, .ref s1, .ref s2]))]) [0] rfl
  have hKc := hK.sub (tys' := []) [] rfl
  have hDc := hD.sub (ws' := [(q, .inr (6, [.ref s0, .ref s1, .ref s2]))]) [0] (by decide) rfl
  refine vx_callv (vx_runV (As := [.int (nI 1), .int w]) (rest := [.int (nI 0), .ref oq]) ⟨hx, hb, hml, hown, hts⟩ (x_X7_delete_n1 l hls dC dI q s0 s1 s2 w sa s.heap.size (by first | assumption | omega)) (cwV 2 hts gL_delete_X7_delete rfl rfl rfl (by decide +kernel) ⟨Nat.le_of_ble_eq_true rfl, Nat.le_of_ble_eq_true rfl⟩) ⟨fun a U g mk q => by obtain ⟨q0, q1, qT, qP, qK, qD⟩ := q; exact ⟨q0, q1, TW.same (u := U) (U := U.calling g mk a) rfl qT, qP, va_K.moved (u := U) (U := U.calling g mk a) (Vm.Alike.refl U.vm) qK, qD⟩, va_recv hKc hPc (ci := 6) (q0 := 0) rfl rfl, fun U hU hW => ⟨rfl, by rw [hU], by rw [hU]; exact TW.warm hW hT, by rw [hU]; exact hPc, va_K.moved hW.alike hKc, hDc.weaken (fun _ _ _ _ => trivial)⟩⟩ rfl rfl hl.1 rfl (lv_room (Nat.le_of_ble_eq_true rfl)) dL_delete_5 ⟨Nat.le_of_ble_eq_true rfl, Nat.le_of_ble_eq_true rfl⟩) hS (fun q h9 h8 => absurd h8 (Nat.not_le_of_lt h9)) (fun q h8 => hA q (Nat.le_trans hS.1 h8)) (fun q h9 h8 => absurd h8 (Nat.not_le_of_lt h9)) (fun E9 ce9 q9 u9 t9 H locs ht9 hvm9 hu9 hE9 hz9 hk9 hS hce9 hcv9 hcl9 => ?_) (fun u9 t9 H9 l9 ht9 hvm9 hu9 hB9 hz9 hk9 hS9 => hu9.elim)
  subst hE9
  have hP := hP.kept (H1 := H) (fun k q hk => hk9 _ (vx_lt hP hk) (Nat.not_le_of_lt (vx_lt hP hk)))
  refine vx_catch (name := "java/lang/IllegalArgumentException") hown [⟨0, 17, 20, 13⟩] ⟨0, 17, 24, 15⟩ [] (htab.trans rfl) (fun z hz => by rcases List.mem_cons.mp hz with rfl | hz; exact Or.inr ⟨by decide, "java/lang/IndexOutOfBoundsException", hts (.classLink RL 13 "java/lang/IndexOutOfBoundsException") (by decide +kernel), hNc0⟩; exact nomatch hz) rfl (by decide) (hts (.classLink RL 15 "java/lang/IllegalArgumentException") (by decide +kernel)) (va_Nw.use rfl hT.2.2.2.2.2.2) hce9 hcv9 hcl9 ?_
  refine W.cs (cells' := 1) (slots' := 6) rfl rfl ?_
  refine lv_astore (lv' := [(4, .ref q9), (0, .ref q), (1, .int (nI 1)), (2, .int w), (3, .ref oq)]) hx hb dL_delete_24 hl (by decide) rfl (fun ls hl => ?_)
  refine lv_iconst (v := nI 2) hx hb dL_delete_26 (by decide +kernel) ?_
  have hP9 := hP.sub (ws' := [(q, .inr (6, [.ref s0, .ref s1, .ref s2]))]) [0] rfl
  have hD9 := hD.sub (ws' := [(q, .inr (6, [.ref s0, .ref s1, .ref s2]))]) [0] (by decide) rfl
  have hK9 := hK.sub (tys' := []) [] rfl
  exact W.iret (v := nI 2) hx hb hr (fun t9 ht hW => ⟨⟨nI 2, (), rfl, rfl, by rw [ht]; exact hP9, va_K.moved hW.alike hK9, hD9⟩, hS.F ht⟩) hS.2.2 dL_delete_27
set_option maxHeartbeats 4000000 in
set_option maxRecDepth 100000 in
/-- law: contains, contains_n1 -/
theorem c_L_contains_n1 (l : Launch) (hls : l.stackTraces = false) (dC : Nat → ClassId) (dI : Nat → Nat → Nat) (q : Nat) (s0 : Nat) (s1 : Nat) (s2 : Nat) (w : Int32) (oq : Nat) (sa : Nat) (sz : Nat) (hW : isN w = false) : Met l yL_contains wsL_contains ({ frames := 8, cells := 1, slots := 6, locals := 125 }) (va_Pc [.ref q, .int (nI 1), .int w, .ref oq] (fun U => TW "java/lang/IllegalArgumentException" 153 "the number is out of range" sa (fun q => sz ≤ q) U U.heap ∧ va_Nc "java/lang/IllegalArgumentException" "java/lang/IndexOutOfBoundsException" U ∧ U.heap.size = sz ∧ va_P (dC, dI) vwCl [(q, .inr (6, [.ref s0, .ref s1, .ref s2]))] U.heap ∧ va_K (dC, dI) vwCl [] U ∧ va_D (fun _ => True) [(q, .inr (6, [.ref s0, .ref s1, .ref s2]))])) (va_Qi (fun (r : Int32) (u : Unit) => r = nI 2) (fun (u : Unit) (t : State) => va_P (dC, dI) vwCl [(q, .inr (6, [.ref s0, .ref s1, .ref s2]))] t.heap ∧ va_K (dC, dI) vwCl [] t ∧ va_D (va_A [(q, .inr (6, [.ref s0, .ref s1, .ref s2]))] sz) [(q, .inr (6, [.ref s0, .ref s1, .ref s2]))]) (va_A [(q, .inr (6, [.ref s0, .ref s1, .ref s2]))] sz)) 1 6 (va_A [(q, .inr (6, [.ref s0, .ref s1, .ref s2]))] sz) := by
  refine va_MetW (cc := cL_contains) (maxL := 5) (ret := (some .int)) (hh := [(0, 17, 20, 13), (0, 17, 24, 15)]) (by decide) rfl ?_
  intro p e s m args below meth c s₁ B hml hv
  obtain ⟨rfl, hT, hNc0, hsz, hP, hK, hD0⟩ := hv
  have hx := B.exec
  have hb := B.bytes
  have hr := B.returns
  have hts := atoms_spec (ws := wsL_contains) B.pre
  have hown : s.vm.findClass RL = some m.cls := findClass_of_methodNamed B.named
  have hlocks := B.notSynchronized
  have htab : c.exceptionTable.toList = tableOf [(0, 17, 20, 13), (0, 17, 24, 15)] := vx_table (x := yL_contains) B (hts _ List.mem_cons_self)
  subst hsz
  have hD := hD0.self (sz := s.heap.size)
  generalize hAe : va_A [(q, .inr (6, [.ref s0, .ref s1, .ref s2]))] s.heap.size = A at hD ⊢
  have hA : ∀ q : Nat, s.heap.size ≤ q → A q := fun q h => by rw [← hAe]; exact Or.inr h
  have hS : va_S A s.heap s.heap [] := va_S.rf
  have hP : va_P (dC, dI) vwCl [(q, .inr (6, [.ref s0, .ref s1, .ref s2]))] s.heap := hP
  have hl := lv_entry ([.ref q, .int (nI 1), .int w, .ref oq]) (n := 5) (Nat.le_of_ble_eq_true rfl)
  rw [lg_entry_eq]
  generalize (lg_sl ([.ref q, .int (nI 1), .int w, .ref oq]) ++ List.replicate (5 - (lg_sl ([.ref q, .int (nI 1), .int w, .ref oq])).length) Slot.unset).toArray = ls at hl ⊢
  have hl : lv_has ls 5 [(0, .ref q), (1, .int (nI 1)), (2, .int w), (3, .ref oq)] := hl
  refine lv_aload_n hx hb dL_contains_0 rfl (lv_at hl 3 rfl) ?_
  refine lv_iconst (v := nI 0) hx hb dL_contains_1 (by decide +kernel) ?_
  refine lv_aload_n hx hb dL_contains_2 rfl (lv_at hl 0 rfl) ?_
  refine lv_iload_n hx hb dL_contains_3 rfl (lv_at hl 1 rfl) ?_
  refine lv_iload_n hx hb dL_contains_4 rfl (lv_at hl 2 rfl) ?_
  have hPc := hP.sub (ws' := [(q, .inr (6, [.ref s0, .ref s1, .ref s2]))]) [0] rfl
  have hKc := hK.sub (tys' := []) [] rfl
  have hDc := hD.sub (ws' := [(q, .inr (6, [.ref s0, .ref s1, .ref s2]))]) [0] (by decide) rfl
  refine vx_callv (vx_runV (As := [.int (nI 1), .int w]) (rest := [.int (nI 0), .ref oq]) ⟨hx, hb, hml, hown, hts⟩ (x_X7_contains_n1 l hls dC dI q s0 s1 s2 w sa s.heap.size (by first | assumption | omega)) (cwV 2 hts gL_contains_X7_contains rfl rfl rfl (by decide +kernel) ⟨Nat.le_of_ble_eq_true rfl, Nat.le_of_ble_eq_true rfl⟩) ⟨fun a U g mk q => by obtain ⟨q0, q1, qT, qP, qK, qD⟩ := q; exact ⟨q0, q1, TW.same (u := U) (U := U.calling g mk a) rfl qT, qP, va_K.moved (u := U) (U := U.calling g mk a) (Vm.Alike.refl U.vm) qK, qD⟩, va_recv hKc hPc (ci := 6) (q0 := 0) rfl rfl, fun U hU hW => ⟨rfl, by rw [hU], by rw [hU]; exact TW.warm hW hT, by rw [hU]; exact hPc, va_K.moved hW.alike hKc, hDc.weaken (fun _ _ _ _ => trivial)⟩⟩ rfl rfl hl.1 rfl (lv_room (Nat.le_of_ble_eq_true rfl)) dL_contains_5 ⟨Nat.le_of_ble_eq_true rfl, Nat.le_of_ble_eq_true rfl⟩) hS (fun q h9 h8 => absurd h8 (Nat.not_le_of_lt h9)) (fun q h8 => hA q (Nat.le_trans hS.1 h8)) (fun q h9 h8 => absurd h8 (Nat.not_le_of_lt h9)) (fun E9 ce9 q9 u9 t9 H locs ht9 hvm9 hu9 hE9 hz9 hk9 hS hce9 hcv9 hcl9 => ?_) (fun u9 t9 H9 l9 ht9 hvm9 hu9 hB9 hz9 hk9 hS9 => hu9.elim)
  subst hE9
  have hP := hP.kept (H1 := H) (fun k q hk => hk9 _ (vx_lt hP hk) (Nat.not_le_of_lt (vx_lt hP hk)))
  refine vx_catch (name := "java/lang/IllegalArgumentException") hown [⟨0, 17, 20, 13⟩] ⟨0, 17, 24, 15⟩ [] (htab.trans rfl) (fun z hz => by rcases List.mem_cons.mp hz with rfl | hz; exact Or.inr ⟨by decide, "java/lang/IndexOutOfBoundsException", hts (.classLink RL 13 "java/lang/IndexOutOfBoundsException") (by decide +kernel), hNc0⟩; exact nomatch hz) rfl (by decide) (hts (.classLink RL 15 "java/lang/IllegalArgumentException") (by decide +kernel)) (va_Nw.use rfl hT.2.2.2.2.2.2) hce9 hcv9 hcl9 ?_
  refine W.cs (cells' := 1) (slots' := 6) rfl rfl ?_
  refine lv_astore (lv' := [(4, .ref q9), (0, .ref q), (1, .int (nI 1)), (2, .int w), (3, .ref oq)]) hx hb dL_contains_24 hl (by decide) rfl (fun ls hl => ?_)
  refine lv_iconst (v := nI 2) hx hb dL_contains_26 (by decide +kernel) ?_
  have hP9 := hP.sub (ws' := [(q, .inr (6, [.ref s0, .ref s1, .ref s2]))]) [0] rfl
  have hD9 := hD.sub (ws' := [(q, .inr (6, [.ref s0, .ref s1, .ref s2]))]) [0] (by decide) rfl
  have hK9 := hK.sub (tys' := []) [] rfl
  exact W.iret (v := nI 2) hx hb hr (fun t9 ht hW => ⟨⟨nI 2, (), rfl, rfl, by rw [ht]; exact hP9, va_K.moved hW.alike hK9, hD9⟩, hS.F ht⟩) hS.2.2 dL_contains_27
set_option maxHeartbeats 4000000 in
set_option maxRecDepth 100000 in
/-- law: successor, successor_n1 -/
theorem c_L_successor_n1 (l : Launch) (hls : l.stackTraces = false) (dC : Nat → ClassId) (dI : Nat → Nat → Nat) (q : Nat) (s0 : Nat) (s1 : Nat) (s2 : Nat) (w : Int32) (oq : Nat) (sa : Nat) (sz : Nat) (hW : isN w = false) : Met l yL_successor wsL_successor ({ frames := 8, cells := 1, slots := 6, locals := 125 }) (va_Pc [.ref q, .int (nI 1), .int w, .ref oq] (fun U => TW "java/lang/IllegalArgumentException" 153 "the number is out of range" sa (fun q => sz ≤ q) U U.heap ∧ va_Nc "java/lang/IllegalArgumentException" "java/lang/IndexOutOfBoundsException" U ∧ U.heap.size = sz ∧ va_P (dC, dI) vwCl [(q, .inr (6, [.ref s0, .ref s1, .ref s2]))] U.heap ∧ va_K (dC, dI) vwCl [] U ∧ va_D (fun _ => True) [(q, .inr (6, [.ref s0, .ref s1, .ref s2]))])) (va_Qi (fun (r : Int32) (u : Unit) => r = nI 2) (fun (u : Unit) (t : State) => va_P (dC, dI) vwCl [(q, .inr (6, [.ref s0, .ref s1, .ref s2]))] t.heap ∧ va_K (dC, dI) vwCl [] t ∧ va_D (va_A [(q, .inr (6, [.ref s0, .ref s1, .ref s2]))] sz) [(q, .inr (6, [.ref s0, .ref s1, .ref s2]))]) (va_A [(q, .inr (6, [.ref s0, .ref s1, .ref s2]))] sz)) 1 6 (va_A [(q, .inr (6, [.ref s0, .ref s1, .ref s2]))] sz) := by
  refine va_MetW (cc := cL_successor) (maxL := 5) (ret := (some .int)) (hh := [(0, 10, 13, 13), (0, 10, 17, 15)]) (by decide) rfl ?_
  intro p e s m args below meth c s₁ B hml hv
  obtain ⟨rfl, hT, hNc0, hsz, hP, hK, hD0⟩ := hv
  have hx := B.exec
  have hb := B.bytes
  have hr := B.returns
  have hts := atoms_spec (ws := wsL_successor) B.pre
  have hown : s.vm.findClass RL = some m.cls := findClass_of_methodNamed B.named
  have hlocks := B.notSynchronized
  have htab : c.exceptionTable.toList = tableOf [(0, 10, 13, 13), (0, 10, 17, 15)] := vx_table (x := yL_successor) B (hts _ List.mem_cons_self)
  subst hsz
  have hD := hD0.self (sz := s.heap.size)
  generalize hAe : va_A [(q, .inr (6, [.ref s0, .ref s1, .ref s2]))] s.heap.size = A at hD ⊢
  have hA : ∀ q : Nat, s.heap.size ≤ q → A q := fun q h => by rw [← hAe]; exact Or.inr h
  have hS : va_S A s.heap s.heap [] := va_S.rf
  have hP : va_P (dC, dI) vwCl [(q, .inr (6, [.ref s0, .ref s1, .ref s2]))] s.heap := hP
  have hl := lv_entry ([.ref q, .int (nI 1), .int w, .ref oq]) (n := 5) (Nat.le_of_ble_eq_true rfl)
  rw [lg_entry_eq]
  generalize (lg_sl ([.ref q, .int (nI 1), .int w, .ref oq]) ++ List.replicate (5 - (lg_sl ([.ref q, .int (nI 1), .int w, .ref oq])).length) Slot.unset).toArray = ls at hl ⊢
  have hl : lv_has ls 5 [(0, .ref q), (1, .int (nI 1)), (2, .int w), (3, .ref oq)] := hl
  refine lv_aload_n hx hb dL_successor_0 rfl (lv_at hl 3 rfl) ?_
  refine lv_iconst (v := nI 0) hx hb dL_successor_1 (by decide +kernel) ?_
  refine lv_aload_n hx hb dL_successor_2 rfl (lv_at hl 0 rfl) ?_
  refine lv_iload_n hx hb dL_successor_3 rfl (lv_at hl 1 rfl) ?_
  refine lv_iload_n hx hb dL_successor_4 rfl (lv_at hl 2 rfl) ?_
  have hPc := hP.sub (ws' := [(q, .inr (6, [.ref s0, .ref s1, .ref s2]))]) [0] rfl
  have hKc := hK.sub (tys' := []) [] rfl
  have hDc := hD.sub (ws' := [(q, .inr (6, [.ref s0, .ref s1, .ref s2]))]) [0] (by decide) rfl
  refine vx_callv (vx_runV (As := [.int (nI 1), .int w]) (rest := [.int (nI 0), .ref oq]) ⟨hx, hb, hml, hown, hts⟩ (x_X7_successor_n1 l hls dC dI q s0 s1 s2 w sa s.heap.size (by first | assumption | omega)) (cwV 2 hts gL_successor_X7_successor rfl rfl rfl (by decide +kernel) ⟨Nat.le_of_ble_eq_true rfl, Nat.le_of_ble_eq_true rfl⟩) ⟨fun a U g mk q => by obtain ⟨q0, q1, qT, qP, qK, qD⟩ := q; exact ⟨q0, q1, TW.same (u := U) (U := U.calling g mk a) rfl qT, qP, va_K.moved (u := U) (U := U.calling g mk a) (Vm.Alike.refl U.vm) qK, qD⟩, va_recv hKc hPc (ci := 6) (q0 := 0) rfl rfl, fun U hU hW => ⟨rfl, by rw [hU], by rw [hU]; exact TW.warm hW hT, by rw [hU]; exact hPc, va_K.moved hW.alike hKc, hDc.weaken (fun _ _ _ _ => trivial)⟩⟩ rfl rfl hl.1 rfl (lv_room (Nat.le_of_ble_eq_true rfl)) dL_successor_5 ⟨Nat.le_of_ble_eq_true rfl, Nat.le_of_ble_eq_true rfl⟩) hS (fun q h9 h8 => absurd h8 (Nat.not_le_of_lt h9)) (fun q h8 => hA q (Nat.le_trans hS.1 h8)) (fun q h9 h8 => absurd h8 (Nat.not_le_of_lt h9)) (fun E9 ce9 q9 u9 t9 H locs ht9 hvm9 hu9 hE9 hz9 hk9 hS hce9 hcv9 hcl9 => ?_) (fun u9 t9 H9 l9 ht9 hvm9 hu9 hB9 hz9 hk9 hS9 => hu9.elim)
  subst hE9
  have hP := hP.kept (H1 := H) (fun k q hk => hk9 _ (vx_lt hP hk) (Nat.not_le_of_lt (vx_lt hP hk)))
  refine vx_catch (name := "java/lang/IllegalArgumentException") hown [⟨0, 10, 13, 13⟩] ⟨0, 10, 17, 15⟩ [] (htab.trans rfl) (fun z hz => by rcases List.mem_cons.mp hz with rfl | hz; exact Or.inr ⟨by decide, "java/lang/IndexOutOfBoundsException", hts (.classLink RL 13 "java/lang/IndexOutOfBoundsException") (by decide +kernel), hNc0⟩; exact nomatch hz) rfl (by decide) (hts (.classLink RL 15 "java/lang/IllegalArgumentException") (by decide +kernel)) (va_Nw.use rfl hT.2.2.2.2.2.2) hce9 hcv9 hcl9 ?_
  refine W.cs (cells' := 1) (slots' := 6) rfl rfl ?_
  refine lv_astore (lv' := [(4, .ref q9), (0, .ref q), (1, .int (nI 1)), (2, .int w), (3, .ref oq)]) hx hb dL_successor_17 hl (by decide) rfl (fun ls hl => ?_)
  refine lv_iconst (v := nI 2) hx hb dL_successor_19 (by decide +kernel) ?_
  have hP9 := hP.sub (ws' := [(q, .inr (6, [.ref s0, .ref s1, .ref s2]))]) [0] rfl
  have hD9 := hD.sub (ws' := [(q, .inr (6, [.ref s0, .ref s1, .ref s2]))]) [0] (by decide) rfl
  have hK9 := hK.sub (tys' := []) [] rfl
  exact W.iret (v := nI 2) hx hb hr (fun t9 ht hW => ⟨⟨nI 2, (), rfl, rfl, by rw [ht]; exact hP9, va_K.moved hW.alike hK9, hD9⟩, hS.F ht⟩) hS.2.2 dL_successor_20
set_option maxHeartbeats 4000000 in
set_option maxRecDepth 100000 in
/-- law: predecessor, predecessor_n1 -/
theorem c_L_predecessor_n1 (l : Launch) (hls : l.stackTraces = false) (dC : Nat → ClassId) (dI : Nat → Nat → Nat) (q : Nat) (s0 : Nat) (s1 : Nat) (s2 : Nat) (w : Int32) (oq : Nat) (sa : Nat) (sz : Nat) (hW : isN w = false) : Met l yL_predecessor wsL_predecessor ({ frames := 8, cells := 1, slots := 6, locals := 125 }) (va_Pc [.ref q, .int (nI 1), .int w, .ref oq] (fun U => TW "java/lang/IllegalArgumentException" 153 "the number is out of range" sa (fun q => sz ≤ q) U U.heap ∧ va_Nc "java/lang/IllegalArgumentException" "java/lang/IndexOutOfBoundsException" U ∧ U.heap.size = sz ∧ va_P (dC, dI) vwCl [(q, .inr (6, [.ref s0, .ref s1, .ref s2]))] U.heap ∧ va_K (dC, dI) vwCl [] U ∧ va_D (fun _ => True) [(q, .inr (6, [.ref s0, .ref s1, .ref s2]))])) (va_Qi (fun (r : Int32) (u : Unit) => r = nI 2) (fun (u : Unit) (t : State) => va_P (dC, dI) vwCl [(q, .inr (6, [.ref s0, .ref s1, .ref s2]))] t.heap ∧ va_K (dC, dI) vwCl [] t ∧ va_D (va_A [(q, .inr (6, [.ref s0, .ref s1, .ref s2]))] sz) [(q, .inr (6, [.ref s0, .ref s1, .ref s2]))]) (va_A [(q, .inr (6, [.ref s0, .ref s1, .ref s2]))] sz)) 1 6 (va_A [(q, .inr (6, [.ref s0, .ref s1, .ref s2]))] sz) := by
  refine va_MetW (cc := cL_predecessor) (maxL := 5) (ret := (some .int)) (hh := [(0, 10, 13, 13), (0, 10, 17, 15)]) (by decide) rfl ?_
  intro p e s m args below meth c s₁ B hml hv
  obtain ⟨rfl, hT, hNc0, hsz, hP, hK, hD0⟩ := hv
  have hx := B.exec
  have hb := B.bytes
  have hr := B.returns
  have hts := atoms_spec (ws := wsL_predecessor) B.pre
  have hown : s.vm.findClass RL = some m.cls := findClass_of_methodNamed B.named
  have hlocks := B.notSynchronized
  have htab : c.exceptionTable.toList = tableOf [(0, 10, 13, 13), (0, 10, 17, 15)] := vx_table (x := yL_predecessor) B (hts _ List.mem_cons_self)
  subst hsz
  have hD := hD0.self (sz := s.heap.size)
  generalize hAe : va_A [(q, .inr (6, [.ref s0, .ref s1, .ref s2]))] s.heap.size = A at hD ⊢
  have hA : ∀ q : Nat, s.heap.size ≤ q → A q := fun q h => by rw [← hAe]; exact Or.inr h
  have hS : va_S A s.heap s.heap [] := va_S.rf
  have hP : va_P (dC, dI) vwCl [(q, .inr (6, [.ref s0, .ref s1, .ref s2]))] s.heap := hP
  have hl := lv_entry ([.ref q, .int (nI 1), .int w, .ref oq]) (n := 5) (Nat.le_of_ble_eq_true rfl)
  rw [lg_entry_eq]
  generalize (lg_sl ([.ref q, .int (nI 1), .int w, .ref oq]) ++ List.replicate (5 - (lg_sl ([.ref q, .int (nI 1), .int w, .ref oq])).length) Slot.unset).toArray = ls at hl ⊢
  have hl : lv_has ls 5 [(0, .ref q), (1, .int (nI 1)), (2, .int w), (3, .ref oq)] := hl
  refine lv_aload_n hx hb dL_predecessor_0 rfl (lv_at hl 3 rfl) ?_
  refine lv_iconst (v := nI 0) hx hb dL_predecessor_1 (by decide +kernel) ?_
  refine lv_aload_n hx hb dL_predecessor_2 rfl (lv_at hl 0 rfl) ?_
  refine lv_iload_n hx hb dL_predecessor_3 rfl (lv_at hl 1 rfl) ?_
  refine lv_iload_n hx hb dL_predecessor_4 rfl (lv_at hl 2 rfl) ?_
  have hPc := hP.sub (ws' := [(q, .inr (6, [.ref s0, .ref s1, .ref s2]))]) [0] rfl
  have hKc := hK.sub (tys' := []) [] rfl
  have hDc := hD.sub (ws' := [(q, .inr (6, [.ref s0, .ref s1, .ref s2]))]) [0] (by decide) rfl
  refine vx_callv (vx_runV (As := [.int (nI 1), .int w]) (rest := [.int (nI 0), .ref oq]) ⟨hx, hb, hml, hown, hts⟩ (x_X7_predecessor_n1 l hls dC dI q s0 s1 s2 w sa s.heap.size (by first | assumption | omega)) (cwV 2 hts gL_predecessor_X7_predecessor rfl rfl rfl (by decide +kernel) ⟨Nat.le_of_ble_eq_true rfl, Nat.le_of_ble_eq_true rfl⟩) ⟨fun a U g mk q => by obtain ⟨q0, q1, qT, qP, qK, qD⟩ := q; exact ⟨q0, q1, TW.same (u := U) (U := U.calling g mk a) rfl qT, qP, va_K.moved (u := U) (U := U.calling g mk a) (Vm.Alike.refl U.vm) qK, qD⟩, va_recv hKc hPc (ci := 6) (q0 := 0) rfl rfl, fun U hU hW => ⟨rfl, by rw [hU], by rw [hU]; exact TW.warm hW hT, by rw [hU]; exact hPc, va_K.moved hW.alike hKc, hDc.weaken (fun _ _ _ _ => trivial)⟩⟩ rfl rfl hl.1 rfl (lv_room (Nat.le_of_ble_eq_true rfl)) dL_predecessor_5 ⟨Nat.le_of_ble_eq_true rfl, Nat.le_of_ble_eq_true rfl⟩) hS (fun q h9 h8 => absurd h8 (Nat.not_le_of_lt h9)) (fun q h8 => hA q (Nat.le_trans hS.1 h8)) (fun q h9 h8 => absurd h8 (Nat.not_le_of_lt h9)) (fun E9 ce9 q9 u9 t9 H locs ht9 hvm9 hu9 hE9 hz9 hk9 hS hce9 hcv9 hcl9 => ?_) (fun u9 t9 H9 l9 ht9 hvm9 hu9 hB9 hz9 hk9 hS9 => hu9.elim)
  subst hE9
  have hP := hP.kept (H1 := H) (fun k q hk => hk9 _ (vx_lt hP hk) (Nat.not_le_of_lt (vx_lt hP hk)))
  refine vx_catch (name := "java/lang/IllegalArgumentException") hown [⟨0, 10, 13, 13⟩] ⟨0, 10, 17, 15⟩ [] (htab.trans rfl) (fun z hz => by rcases List.mem_cons.mp hz with rfl | hz; exact Or.inr ⟨by decide, "java/lang/IndexOutOfBoundsException", hts (.classLink RL 13 "java/lang/IndexOutOfBoundsException") (by decide +kernel), hNc0⟩; exact nomatch hz) rfl (by decide) (hts (.classLink RL 15 "java/lang/IllegalArgumentException") (by decide +kernel)) (va_Nw.use rfl hT.2.2.2.2.2.2) hce9 hcv9 hcl9 ?_
  refine W.cs (cells' := 1) (slots' := 6) rfl rfl ?_
  refine lv_astore (lv' := [(4, .ref q9), (0, .ref q), (1, .int (nI 1)), (2, .int w), (3, .ref oq)]) hx hb dL_predecessor_17 hl (by decide) rfl (fun ls hl => ?_)
  refine lv_iconst (v := nI 2) hx hb dL_predecessor_19 (by decide +kernel) ?_
  have hP9 := hP.sub (ws' := [(q, .inr (6, [.ref s0, .ref s1, .ref s2]))]) [0] rfl
  have hD9 := hD.sub (ws' := [(q, .inr (6, [.ref s0, .ref s1, .ref s2]))]) [0] (by decide) rfl
  have hK9 := hK.sub (tys' := []) [] rfl
  exact W.iret (v := nI 2) hx hb hr (fun t9 ht hW => ⟨⟨nI 2, (), rfl, rfl, by rw [ht]; exact hP9, va_K.moved hW.alike hK9, hD9⟩, hS.F ht⟩) hS.2.2 dL_predecessor_20
set_option maxHeartbeats 4000000 in
set_option maxRecDepth 100000 in
/-- law: rank, rank_n1 -/
theorem c_L_rank_n1 (l : Launch) (hls : l.stackTraces = false) (dC : Nat → ClassId) (dI : Nat → Nat → Nat) (q : Nat) (s0 : Nat) (s1 : Nat) (s2 : Nat) (w : Int32) (oq : Nat) (sa : Nat) (sz : Nat) (hW : isN w = false) : Met l yL_rank wsL_rank ({ frames := 8, cells := 1, slots := 6, locals := 125 }) (va_Pc [.ref q, .int (nI 1), .int w, .ref oq] (fun U => TW "java/lang/IllegalArgumentException" 153 "the number is out of range" sa (fun q => sz ≤ q) U U.heap ∧ va_Nc "java/lang/IllegalArgumentException" "java/lang/IndexOutOfBoundsException" U ∧ U.heap.size = sz ∧ va_P (dC, dI) vwCl [(q, .inr (6, [.ref s0, .ref s1, .ref s2]))] U.heap ∧ va_K (dC, dI) vwCl [] U ∧ va_D (fun _ => True) [(q, .inr (6, [.ref s0, .ref s1, .ref s2]))])) (va_Qi (fun (r : Int32) (u : Unit) => r = nI 2) (fun (u : Unit) (t : State) => va_P (dC, dI) vwCl [(q, .inr (6, [.ref s0, .ref s1, .ref s2]))] t.heap ∧ va_K (dC, dI) vwCl [] t ∧ va_D (va_A [(q, .inr (6, [.ref s0, .ref s1, .ref s2]))] sz) [(q, .inr (6, [.ref s0, .ref s1, .ref s2]))]) (va_A [(q, .inr (6, [.ref s0, .ref s1, .ref s2]))] sz)) 1 6 (va_A [(q, .inr (6, [.ref s0, .ref s1, .ref s2]))] sz) := by
  refine va_MetW (cc := cL_rank) (maxL := 5) (ret := (some .int)) (hh := [(0, 10, 13, 13), (0, 10, 17, 15)]) (by decide) rfl ?_
  intro p e s m args below meth c s₁ B hml hv
  obtain ⟨rfl, hT, hNc0, hsz, hP, hK, hD0⟩ := hv
  have hx := B.exec
  have hb := B.bytes
  have hr := B.returns
  have hts := atoms_spec (ws := wsL_rank) B.pre
  have hown : s.vm.findClass RL = some m.cls := findClass_of_methodNamed B.named
  have hlocks := B.notSynchronized
  have htab : c.exceptionTable.toList = tableOf [(0, 10, 13, 13), (0, 10, 17, 15)] := vx_table (x := yL_rank) B (hts _ List.mem_cons_self)
  subst hsz
  have hD := hD0.self (sz := s.heap.size)
  generalize hAe : va_A [(q, .inr (6, [.ref s0, .ref s1, .ref s2]))] s.heap.size = A at hD ⊢
  have hA : ∀ q : Nat, s.heap.size ≤ q → A q := fun q h => by rw [← hAe]; exact Or.inr h
  have hS : va_S A s.heap s.heap [] := va_S.rf
  have hP : va_P (dC, dI) vwCl [(q, .inr (6, [.ref s0, .ref s1, .ref s2]))] s.heap := hP
  have hl := lv_entry ([.ref q, .int (nI 1), .int w, .ref oq]) (n := 5) (Nat.le_of_ble_eq_true rfl)
  rw [lg_entry_eq]
  generalize (lg_sl ([.ref q, .int (nI 1), .int w, .ref oq]) ++ List.replicate (5 - (lg_sl ([.ref q, .int (nI 1), .int w, .ref oq])).length) Slot.unset).toArray = ls at hl ⊢
  have hl : lv_has ls 5 [(0, .ref q), (1, .int (nI 1)), (2, .int w), (3, .ref oq)] := hl
  refine lv_aload_n hx hb dL_rank_0 rfl (lv_at hl 3 rfl) ?_
  refine lv_iconst (v := nI 0) hx hb dL_rank_1 (by decide +kernel) ?_
  refine lv_aload_n hx hb dL_rank_2 rfl (lv_at hl 0 rfl) ?_
  refine lv_iload_n hx hb dL_rank_3 rfl (lv_at hl 1 rfl) ?_
  refine lv_iload_n hx hb dL_rank_4 rfl (lv_at hl 2 rfl) ?_
  have hPc := hP.sub (ws' := [(q, .inr (6, [.ref s0, .ref s1, .ref s2]))]) [0] rfl
  have hKc := hK.sub (tys' := []) [] rfl
  have hDc := hD.sub (ws' := [(q, .inr (6, [.ref s0, .ref s1, .ref s2]))]) [0] (by decide) rfl
  refine vx_callv (vx_runV (As := [.int (nI 1), .int w]) (rest := [.int (nI 0), .ref oq]) ⟨hx, hb, hml, hown, hts⟩ (x_X7_rank_n1 l hls dC dI q s0 s1 s2 w sa s.heap.size (by first | assumption | omega)) (cwV 2 hts gL_rank_X7_rank rfl rfl rfl (by decide +kernel) ⟨Nat.le_of_ble_eq_true rfl, Nat.le_of_ble_eq_true rfl⟩) ⟨fun a U g mk q => by obtain ⟨q0, q1, qT, qP, qK, qD⟩ := q; exact ⟨q0, q1, TW.same (u := U) (U := U.calling g mk a) rfl qT, qP, va_K.moved (u := U) (U := U.calling g mk a) (Vm.Alike.refl U.vm) qK, qD⟩, va_recv hKc hPc (ci := 6) (q0 := 0) rfl rfl, fun U hU hW => ⟨rfl, by rw [hU], by rw [hU]; exact TW.warm hW hT, by rw [hU]; exact hPc, va_K.moved hW.alike hKc, hDc.weaken (fun _ _ _ _ => trivial)⟩⟩ rfl rfl hl.1 rfl (lv_room (Nat.le_of_ble_eq_true rfl)) dL_rank_5 ⟨Nat.le_of_ble_eq_true rfl, Nat.le_of_ble_eq_true rfl⟩) hS (fun q h9 h8 => absurd h8 (Nat.not_le_of_lt h9)) (fun q h8 => hA q (Nat.le_trans hS.1 h8)) (fun q h9 h8 => absurd h8 (Nat.not_le_of_lt h9)) (fun E9 ce9 q9 u9 t9 H locs ht9 hvm9 hu9 hE9 hz9 hk9 hS hce9 hcv9 hcl9 => ?_) (fun u9 t9 H9 l9 ht9 hvm9 hu9 hB9 hz9 hk9 hS9 => hu9.elim)
  subst hE9
  have hP := hP.kept (H1 := H) (fun k q hk => hk9 _ (vx_lt hP hk) (Nat.not_le_of_lt (vx_lt hP hk)))
  refine vx_catch (name := "java/lang/IllegalArgumentException") hown [⟨0, 10, 13, 13⟩] ⟨0, 10, 17, 15⟩ [] (htab.trans rfl) (fun z hz => by rcases List.mem_cons.mp hz with rfl | hz; exact Or.inr ⟨by decide, "java/lang/IndexOutOfBoundsException", hts (.classLink RL 13 "java/lang/IndexOutOfBoundsException") (by decide +kernel), hNc0⟩; exact nomatch hz) rfl (by decide) (hts (.classLink RL 15 "java/lang/IllegalArgumentException") (by decide +kernel)) (va_Nw.use rfl hT.2.2.2.2.2.2) hce9 hcv9 hcl9 ?_
  refine W.cs (cells' := 1) (slots' := 6) rfl rfl ?_
  refine lv_astore (lv' := [(4, .ref q9), (0, .ref q), (1, .int (nI 1)), (2, .int w), (3, .ref oq)]) hx hb dL_rank_17 hl (by decide) rfl (fun ls hl => ?_)
  refine lv_iconst (v := nI 2) hx hb dL_rank_19 (by decide +kernel) ?_
  have hP9 := hP.sub (ws' := [(q, .inr (6, [.ref s0, .ref s1, .ref s2]))]) [0] rfl
  have hD9 := hD.sub (ws' := [(q, .inr (6, [.ref s0, .ref s1, .ref s2]))]) [0] (by decide) rfl
  have hK9 := hK.sub (tys' := []) [] rfl
  exact W.iret (v := nI 2) hx hb hr (fun t9 ht hW => ⟨⟨nI 2, (), rfl, rfl, by rw [ht]; exact hP9, va_K.moved hW.alike hK9, hD9⟩, hS.F ht⟩) hS.2.2 dL_rank_20
set_option maxHeartbeats 4000000 in
set_option maxRecDepth 100000 in
/-- law: steps, steps_n1 -/
theorem c_L_steps_n1 (l : Launch) (hls : l.stackTraces = false) (dC : Nat → ClassId) (dI : Nat → Nat → Nat) (q : Nat) (s0 : Nat) (s1 : Nat) (s2 : Nat) (w : Int32) (oq : Nat) (sa : Nat) (sz : Nat) (hW : isN w = false) : Met l yL_steps wsL_steps ({ frames := 8, cells := 1, slots := 6, locals := 125 }) (va_Pc [.ref q, .int (nI 1), .int w, .ref oq] (fun U => TW "java/lang/IllegalArgumentException" 153 "the number is out of range" sa (fun q => sz ≤ q) U U.heap ∧ va_Nc "java/lang/IllegalArgumentException" "java/lang/IndexOutOfBoundsException" U ∧ U.heap.size = sz ∧ va_P (dC, dI) vwCl [(q, .inr (6, [.ref s0, .ref s1, .ref s2]))] U.heap ∧ va_K (dC, dI) vwCl [] U ∧ va_D (fun _ => True) [(q, .inr (6, [.ref s0, .ref s1, .ref s2]))])) (va_Qi (fun (r : Int32) (u : Unit) => r = nI 2) (fun (u : Unit) (t : State) => va_P (dC, dI) vwCl [(q, .inr (6, [.ref s0, .ref s1, .ref s2]))] t.heap ∧ va_K (dC, dI) vwCl [] t ∧ va_D (va_A [(q, .inr (6, [.ref s0, .ref s1, .ref s2]))] sz) [(q, .inr (6, [.ref s0, .ref s1, .ref s2]))]) (va_A [(q, .inr (6, [.ref s0, .ref s1, .ref s2]))] sz)) 1 6 (va_A [(q, .inr (6, [.ref s0, .ref s1, .ref s2]))] sz) := by
  refine va_MetW (cc := cL_steps) (maxL := 5) (ret := (some .int)) (hh := [(0, 10, 13, 13), (0, 10, 17, 15)]) (by decide) rfl ?_
  intro p e s m args below meth c s₁ B hml hv
  obtain ⟨rfl, hT, hNc0, hsz, hP, hK, hD0⟩ := hv
  have hx := B.exec
  have hb := B.bytes
  have hr := B.returns
  have hts := atoms_spec (ws := wsL_steps) B.pre
  have hown : s.vm.findClass RL = some m.cls := findClass_of_methodNamed B.named
  have hlocks := B.notSynchronized
  have htab : c.exceptionTable.toList = tableOf [(0, 10, 13, 13), (0, 10, 17, 15)] := vx_table (x := yL_steps) B (hts _ List.mem_cons_self)
  subst hsz
  have hD := hD0.self (sz := s.heap.size)
  generalize hAe : va_A [(q, .inr (6, [.ref s0, .ref s1, .ref s2]))] s.heap.size = A at hD ⊢
  have hA : ∀ q : Nat, s.heap.size ≤ q → A q := fun q h => by rw [← hAe]; exact Or.inr h
  have hS : va_S A s.heap s.heap [] := va_S.rf
  have hP : va_P (dC, dI) vwCl [(q, .inr (6, [.ref s0, .ref s1, .ref s2]))] s.heap := hP
  have hl := lv_entry ([.ref q, .int (nI 1), .int w, .ref oq]) (n := 5) (Nat.le_of_ble_eq_true rfl)
  rw [lg_entry_eq]
  generalize (lg_sl ([.ref q, .int (nI 1), .int w, .ref oq]) ++ List.replicate (5 - (lg_sl ([.ref q, .int (nI 1), .int w, .ref oq])).length) Slot.unset).toArray = ls at hl ⊢
  have hl : lv_has ls 5 [(0, .ref q), (1, .int (nI 1)), (2, .int w), (3, .ref oq)] := hl
  refine lv_aload_n hx hb dL_steps_0 rfl (lv_at hl 3 rfl) ?_
  refine lv_iconst (v := nI 0) hx hb dL_steps_1 (by decide +kernel) ?_
  refine lv_aload_n hx hb dL_steps_2 rfl (lv_at hl 0 rfl) ?_
  refine lv_iload_n hx hb dL_steps_3 rfl (lv_at hl 1 rfl) ?_
  refine lv_iload_n hx hb dL_steps_4 rfl (lv_at hl 2 rfl) ?_
  have hPc := hP.sub (ws' := [(q, .inr (6, [.ref s0, .ref s1, .ref s2]))]) [0] rfl
  have hKc := hK.sub (tys' := []) [] rfl
  have hDc := hD.sub (ws' := [(q, .inr (6, [.ref s0, .ref s1, .ref s2]))]) [0] (by decide) rfl
  refine vx_callv (vx_runV (As := [.int (nI 1), .int w]) (rest := [.int (nI 0), .ref oq]) ⟨hx, hb, hml, hown, hts⟩ (x_X7_steps_n1 l hls dC dI q s0 s1 s2 w sa s.heap.size (by first | assumption | omega)) (cwV 2 hts gL_steps_X7_steps rfl rfl rfl (by decide +kernel) ⟨Nat.le_of_ble_eq_true rfl, Nat.le_of_ble_eq_true rfl⟩) ⟨fun a U g mk q => by obtain ⟨q0, q1, qT, qP, qK, qD⟩ := q; exact ⟨q0, q1, TW.same (u := U) (U := U.calling g mk a) rfl qT, qP, va_K.moved (u := U) (U := U.calling g mk a) (Vm.Alike.refl U.vm) qK, qD⟩, va_recv hKc hPc (ci := 6) (q0 := 0) rfl rfl, fun U hU hW => ⟨rfl, by rw [hU], by rw [hU]; exact TW.warm hW hT, by rw [hU]; exact hPc, va_K.moved hW.alike hKc, hDc.weaken (fun _ _ _ _ => trivial)⟩⟩ rfl rfl hl.1 rfl (lv_room (Nat.le_of_ble_eq_true rfl)) dL_steps_5 ⟨Nat.le_of_ble_eq_true rfl, Nat.le_of_ble_eq_true rfl⟩) hS (fun q h9 h8 => absurd h8 (Nat.not_le_of_lt h9)) (fun q h8 => hA q (Nat.le_trans hS.1 h8)) (fun q h9 h8 => absurd h8 (Nat.not_le_of_lt h9)) (fun E9 ce9 q9 u9 t9 H locs ht9 hvm9 hu9 hE9 hz9 hk9 hS hce9 hcv9 hcl9 => ?_) (fun u9 t9 H9 l9 ht9 hvm9 hu9 hB9 hz9 hk9 hS9 => hu9.elim)
  subst hE9
  have hP := hP.kept (H1 := H) (fun k q hk => hk9 _ (vx_lt hP hk) (Nat.not_le_of_lt (vx_lt hP hk)))
  refine vx_catch (name := "java/lang/IllegalArgumentException") hown [⟨0, 10, 13, 13⟩] ⟨0, 10, 17, 15⟩ [] (htab.trans rfl) (fun z hz => by rcases List.mem_cons.mp hz with rfl | hz; exact Or.inr ⟨by decide, "java/lang/IndexOutOfBoundsException", hts (.classLink RL 13 "java/lang/IndexOutOfBoundsException") (by decide +kernel), hNc0⟩; exact nomatch hz) rfl (by decide) (hts (.classLink RL 15 "java/lang/IllegalArgumentException") (by decide +kernel)) (va_Nw.use rfl hT.2.2.2.2.2.2) hce9 hcv9 hcl9 ?_
  refine W.cs (cells' := 1) (slots' := 6) rfl rfl ?_
  refine lv_astore (lv' := [(4, .ref q9), (0, .ref q), (1, .int (nI 1)), (2, .int w), (3, .ref oq)]) hx hb dL_steps_17 hl (by decide) rfl (fun ls hl => ?_)
  refine lv_iconst (v := nI 2) hx hb dL_steps_19 (by decide +kernel) ?_
  have hP9 := hP.sub (ws' := [(q, .inr (6, [.ref s0, .ref s1, .ref s2]))]) [0] rfl
  have hD9 := hD.sub (ws' := [(q, .inr (6, [.ref s0, .ref s1, .ref s2]))]) [0] (by decide) rfl
  have hK9 := hK.sub (tys' := []) [] rfl
  exact W.iret (v := nI 2) hx hb hr (fun t9 ht hW => ⟨⟨nI 2, (), rfl, rfl, by rw [ht]; exact hP9, va_K.moved hW.alike hK9, hD9⟩, hS.F ht⟩) hS.2.2 dL_steps_20
set_option maxHeartbeats 4000000 in
set_option maxRecDepth 100000 in
/-- law: longestMatch, longestMatch_n1 -/
theorem c_L_longestMatch_n1 (l : Launch) (hls : l.stackTraces = false) (dC : Nat → ClassId) (dI : Nat → Nat → Nat) (q : Nat) (s0 : Nat) (s1 : Nat) (s2 : Nat) (w : Int32) (oq : Nat) (sa : Nat) (sz : Nat) (hW : isN w = false) : Met l yL_longestMatch wsL_longestMatch ({ frames := 8, cells := 1, slots := 6, locals := 125 }) (va_Pc [.ref q, .int (nI 1), .int w, .ref oq] (fun U => TW "java/lang/IllegalArgumentException" 153 "the number is out of range" sa (fun q => sz ≤ q) U U.heap ∧ va_Nc "java/lang/IllegalArgumentException" "java/lang/IndexOutOfBoundsException" U ∧ U.heap.size = sz ∧ va_P (dC, dI) vwCl [(q, .inr (6, [.ref s0, .ref s1, .ref s2]))] U.heap ∧ va_K (dC, dI) vwCl [] U ∧ va_D (fun _ => True) [(q, .inr (6, [.ref s0, .ref s1, .ref s2]))])) (va_Qi (fun (r : Int32) (u : Unit) => r = nI 2) (fun (u : Unit) (t : State) => va_P (dC, dI) vwCl [(q, .inr (6, [.ref s0, .ref s1, .ref s2]))] t.heap ∧ va_K (dC, dI) vwCl [] t ∧ va_D (va_A [(q, .inr (6, [.ref s0, .ref s1, .ref s2]))] sz) [(q, .inr (6, [.ref s0, .ref s1, .ref s2]))]) (va_A [(q, .inr (6, [.ref s0, .ref s1, .ref s2]))] sz)) 1 6 (va_A [(q, .inr (6, [.ref s0, .ref s1, .ref s2]))] sz) := by
  refine va_MetW (cc := cL_longestMatch) (maxL := 5) (ret := (some .int)) (hh := [(0, 10, 13, 13), (0, 10, 17, 15)]) (by decide) rfl ?_
  intro p e s m args below meth c s₁ B hml hv
  obtain ⟨rfl, hT, hNc0, hsz, hP, hK, hD0⟩ := hv
  have hx := B.exec
  have hb := B.bytes
  have hr := B.returns
  have hts := atoms_spec (ws := wsL_longestMatch) B.pre
  have hown : s.vm.findClass RL = some m.cls := findClass_of_methodNamed B.named
  have hlocks := B.notSynchronized
  have htab : c.exceptionTable.toList = tableOf [(0, 10, 13, 13), (0, 10, 17, 15)] := vx_table (x := yL_longestMatch) B (hts _ List.mem_cons_self)
  subst hsz
  have hD := hD0.self (sz := s.heap.size)
  generalize hAe : va_A [(q, .inr (6, [.ref s0, .ref s1, .ref s2]))] s.heap.size = A at hD ⊢
  have hA : ∀ q : Nat, s.heap.size ≤ q → A q := fun q h => by rw [← hAe]; exact Or.inr h
  have hS : va_S A s.heap s.heap [] := va_S.rf
  have hP : va_P (dC, dI) vwCl [(q, .inr (6, [.ref s0, .ref s1, .ref s2]))] s.heap := hP
  have hl := lv_entry ([.ref q, .int (nI 1), .int w, .ref oq]) (n := 5) (Nat.le_of_ble_eq_true rfl)
  rw [lg_entry_eq]
  generalize (lg_sl ([.ref q, .int (nI 1), .int w, .ref oq]) ++ List.replicate (5 - (lg_sl ([.ref q, .int (nI 1), .int w, .ref oq])).length) Slot.unset).toArray = ls at hl ⊢
  have hl : lv_has ls 5 [(0, .ref q), (1, .int (nI 1)), (2, .int w), (3, .ref oq)] := hl
  refine lv_aload_n hx hb dL_longestMatch_0 rfl (lv_at hl 3 rfl) ?_
  refine lv_iconst (v := nI 0) hx hb dL_longestMatch_1 (by decide +kernel) ?_
  refine lv_aload_n hx hb dL_longestMatch_2 rfl (lv_at hl 0 rfl) ?_
  refine lv_iload_n hx hb dL_longestMatch_3 rfl (lv_at hl 1 rfl) ?_
  refine lv_iload_n hx hb dL_longestMatch_4 rfl (lv_at hl 2 rfl) ?_
  have hPc := hP.sub (ws' := [(q, .inr (6, [.ref s0, .ref s1, .ref s2]))]) [0] rfl
  have hKc := hK.sub (tys' := []) [] rfl
  have hDc := hD.sub (ws' := [(q, .inr (6, [.ref s0, .ref s1, .ref s2]))]) [0] (by decide) rfl
  refine vx_callv (vx_runV (As := [.int (nI 1), .int w]) (rest := [.int (nI 0), .ref oq]) ⟨hx, hb, hml, hown, hts⟩ (x_X7_longestMatch_n1 l hls dC dI q s0 s1 s2 w sa s.heap.size (by first | assumption | omega)) (cwV 2 hts gL_longestMatch_X7_longestMatch rfl rfl rfl (by decide +kernel) ⟨Nat.le_of_ble_eq_true rfl, Nat.le_of_ble_eq_true rfl⟩) ⟨fun a U g mk q => by obtain ⟨q0, q1, qT, qP, qK, qD⟩ := q; exact ⟨q0, q1, TW.same (u := U) (U := U.calling g mk a) rfl qT, qP, va_K.moved (u := U) (U := U.calling g mk a) (Vm.Alike.refl U.vm) qK, qD⟩, va_recv hKc hPc (ci := 6) (q0 := 0) rfl rfl, fun U hU hW => ⟨rfl, by rw [hU], by rw [hU]; exact TW.warm hW hT, by rw [hU]; exact hPc, va_K.moved hW.alike hKc, hDc.weaken (fun _ _ _ _ => trivial)⟩⟩ rfl rfl hl.1 rfl (lv_room (Nat.le_of_ble_eq_true rfl)) dL_longestMatch_5 ⟨Nat.le_of_ble_eq_true rfl, Nat.le_of_ble_eq_true rfl⟩) hS (fun q h9 h8 => absurd h8 (Nat.not_le_of_lt h9)) (fun q h8 => hA q (Nat.le_trans hS.1 h8)) (fun q h9 h8 => absurd h8 (Nat.not_le_of_lt h9)) (fun E9 ce9 q9 u9 t9 H locs ht9 hvm9 hu9 hE9 hz9 hk9 hS hce9 hcv9 hcl9 => ?_) (fun u9 t9 H9 l9 ht9 hvm9 hu9 hB9 hz9 hk9 hS9 => hu9.elim)
  subst hE9
  have hP := hP.kept (H1 := H) (fun k q hk => hk9 _ (vx_lt hP hk) (Nat.not_le_of_lt (vx_lt hP hk)))
  refine vx_catch (name := "java/lang/IllegalArgumentException") hown [⟨0, 10, 13, 13⟩] ⟨0, 10, 17, 15⟩ [] (htab.trans rfl) (fun z hz => by rcases List.mem_cons.mp hz with rfl | hz; exact Or.inr ⟨by decide, "java/lang/IndexOutOfBoundsException", hts (.classLink RL 13 "java/lang/IndexOutOfBoundsException") (by decide +kernel), hNc0⟩; exact nomatch hz) rfl (by decide) (hts (.classLink RL 15 "java/lang/IllegalArgumentException") (by decide +kernel)) (va_Nw.use rfl hT.2.2.2.2.2.2) hce9 hcv9 hcl9 ?_
  refine W.cs (cells' := 1) (slots' := 6) rfl rfl ?_
  refine lv_astore (lv' := [(4, .ref q9), (0, .ref q), (1, .int (nI 1)), (2, .int w), (3, .ref oq)]) hx hb dL_longestMatch_17 hl (by decide) rfl (fun ls hl => ?_)
  refine lv_iconst (v := nI 2) hx hb dL_longestMatch_19 (by decide +kernel) ?_
  have hP9 := hP.sub (ws' := [(q, .inr (6, [.ref s0, .ref s1, .ref s2]))]) [0] rfl
  have hD9 := hD.sub (ws' := [(q, .inr (6, [.ref s0, .ref s1, .ref s2]))]) [0] (by decide) rfl
  have hK9 := hK.sub (tys' := []) [] rfl
  exact W.iret (v := nI 2) hx hb hr (fun t9 ht hW => ⟨⟨nI 2, (), rfl, rfl, by rw [ht]; exact hP9, va_K.moved hW.alike hK9, hD9⟩, hS.F ht⟩) hS.2.2 dL_longestMatch_20
set_option maxHeartbeats 4000000 in
set_option maxRecDepth 100000 in
/-- law: probes, probes_n1 -/
theorem c_L_probes_n1 (l : Launch) (hls : l.stackTraces = false) (dC : Nat → ClassId) (dI : Nat → Nat → Nat) (q : Nat) (s0 : Nat) (s1 : Nat) (s2 : Nat) (w : Int32) (oq : Nat) (sa : Nat) (sz : Nat) (hW : isN w = false) : Met l yL_probes wsL_probes ({ frames := 8, cells := 1, slots := 6, locals := 125 }) (va_Pc [.ref q, .int (nI 1), .int w, .ref oq] (fun U => TW "java/lang/IllegalArgumentException" 153 "the number is out of range" sa (fun q => sz ≤ q) U U.heap ∧ va_Nc "java/lang/IllegalArgumentException" "java/lang/IndexOutOfBoundsException" U ∧ U.heap.size = sz ∧ va_P (dC, dI) vwCl [(q, .inr (6, [.ref s0, .ref s1, .ref s2]))] U.heap ∧ va_K (dC, dI) vwCl [] U ∧ va_D (fun _ => True) [(q, .inr (6, [.ref s0, .ref s1, .ref s2]))])) (va_Qi (fun (r : Int32) (u : Unit) => r = nI 2) (fun (u : Unit) (t : State) => va_P (dC, dI) vwCl [(q, .inr (6, [.ref s0, .ref s1, .ref s2]))] t.heap ∧ va_K (dC, dI) vwCl [] t ∧ va_D (va_A [(q, .inr (6, [.ref s0, .ref s1, .ref s2]))] sz) [(q, .inr (6, [.ref s0, .ref s1, .ref s2]))]) (va_A [(q, .inr (6, [.ref s0, .ref s1, .ref s2]))] sz)) 1 6 (va_A [(q, .inr (6, [.ref s0, .ref s1, .ref s2]))] sz) := by
  refine va_MetW (cc := cL_probes) (maxL := 5) (ret := (some .int)) (hh := [(0, 10, 13, 13), (0, 10, 17, 15)]) (by decide) rfl ?_
  intro p e s m args below meth c s₁ B hml hv
  obtain ⟨rfl, hT, hNc0, hsz, hP, hK, hD0⟩ := hv
  have hx := B.exec
  have hb := B.bytes
  have hr := B.returns
  have hts := atoms_spec (ws := wsL_probes) B.pre
  have hown : s.vm.findClass RL = some m.cls := findClass_of_methodNamed B.named
  have hlocks := B.notSynchronized
  have htab : c.exceptionTable.toList = tableOf [(0, 10, 13, 13), (0, 10, 17, 15)] := vx_table (x := yL_probes) B (hts _ List.mem_cons_self)
  subst hsz
  have hD := hD0.self (sz := s.heap.size)
  generalize hAe : va_A [(q, .inr (6, [.ref s0, .ref s1, .ref s2]))] s.heap.size = A at hD ⊢
  have hA : ∀ q : Nat, s.heap.size ≤ q → A q := fun q h => by rw [← hAe]; exact Or.inr h
  have hS : va_S A s.heap s.heap [] := va_S.rf
  have hP : va_P (dC, dI) vwCl [(q, .inr (6, [.ref s0, .ref s1, .ref s2]))] s.heap := hP
  have hl := lv_entry ([.ref q, .int (nI 1), .int w, .ref oq]) (n := 5) (Nat.le_of_ble_eq_true rfl)
  rw [lg_entry_eq]
  generalize (lg_sl ([.ref q, .int (nI 1), .int w, .ref oq]) ++ List.replicate (5 - (lg_sl ([.ref q, .int (nI 1), .int w, .ref oq])).length) Slot.unset).toArray = ls at hl ⊢
  have hl : lv_has ls 5 [(0, .ref q), (1, .int (nI 1)), (2, .int w), (3, .ref oq)] := hl
  refine lv_aload_n hx hb dL_probes_0 rfl (lv_at hl 3 rfl) ?_
  refine lv_iconst (v := nI 0) hx hb dL_probes_1 (by decide +kernel) ?_
  refine lv_aload_n hx hb dL_probes_2 rfl (lv_at hl 0 rfl) ?_
  refine lv_iload_n hx hb dL_probes_3 rfl (lv_at hl 1 rfl) ?_
  refine lv_iload_n hx hb dL_probes_4 rfl (lv_at hl 2 rfl) ?_
  have hPc := hP.sub (ws' := [(q, .inr (6, [.ref s0, .ref s1, .ref s2]))]) [0] rfl
  have hKc := hK.sub (tys' := []) [] rfl
  have hDc := hD.sub (ws' := [(q, .inr (6, [.ref s0, .ref s1, .ref s2]))]) [0] (by decide) rfl
  refine vx_callv (vx_runV (As := [.int (nI 1), .int w]) (rest := [.int (nI 0), .ref oq]) ⟨hx, hb, hml, hown, hts⟩ (x_X7_probes_n1 l hls dC dI q s0 s1 s2 w sa s.heap.size (by first | assumption | omega)) (cwV 2 hts gL_probes_X7_probes rfl rfl rfl (by decide +kernel) ⟨Nat.le_of_ble_eq_true rfl, Nat.le_of_ble_eq_true rfl⟩) ⟨fun a U g mk q => by obtain ⟨q0, q1, qT, qP, qK, qD⟩ := q; exact ⟨q0, q1, TW.same (u := U) (U := U.calling g mk a) rfl qT, qP, va_K.moved (u := U) (U := U.calling g mk a) (Vm.Alike.refl U.vm) qK, qD⟩, va_recv hKc hPc (ci := 6) (q0 := 0) rfl rfl, fun U hU hW => ⟨rfl, by rw [hU], by rw [hU]; exact TW.warm hW hT, by rw [hU]; exact hPc, va_K.moved hW.alike hKc, hDc.weaken (fun _ _ _ _ => trivial)⟩⟩ rfl rfl hl.1 rfl (lv_room (Nat.le_of_ble_eq_true rfl)) dL_probes_5 ⟨Nat.le_of_ble_eq_true rfl, Nat.le_of_ble_eq_true rfl⟩) hS (fun q h9 h8 => absurd h8 (Nat.not_le_of_lt h9)) (fun q h8 => hA q (Nat.le_trans hS.1 h8)) (fun q h9 h8 => absurd h8 (Nat.not_le_of_lt h9)) (fun E9 ce9 q9 u9 t9 H locs ht9 hvm9 hu9 hE9 hz9 hk9 hS hce9 hcv9 hcl9 => ?_) (fun u9 t9 H9 l9 ht9 hvm9 hu9 hB9 hz9 hk9 hS9 => hu9.elim)
  subst hE9
  have hP := hP.kept (H1 := H) (fun k q hk => hk9 _ (vx_lt hP hk) (Nat.not_le_of_lt (vx_lt hP hk)))
  refine vx_catch (name := "java/lang/IllegalArgumentException") hown [⟨0, 10, 13, 13⟩] ⟨0, 10, 17, 15⟩ [] (htab.trans rfl) (fun z hz => by rcases List.mem_cons.mp hz with rfl | hz; exact Or.inr ⟨by decide, "java/lang/IndexOutOfBoundsException", hts (.classLink RL 13 "java/lang/IndexOutOfBoundsException") (by decide +kernel), hNc0⟩; exact nomatch hz) rfl (by decide) (hts (.classLink RL 15 "java/lang/IllegalArgumentException") (by decide +kernel)) (va_Nw.use rfl hT.2.2.2.2.2.2) hce9 hcv9 hcl9 ?_
  refine W.cs (cells' := 1) (slots' := 6) rfl rfl ?_
  refine lv_astore (lv' := [(4, .ref q9), (0, .ref q), (1, .int (nI 1)), (2, .int w), (3, .ref oq)]) hx hb dL_probes_17 hl (by decide) rfl (fun ls hl => ?_)
  refine lv_iconst (v := nI 2) hx hb dL_probes_19 (by decide +kernel) ?_
  have hP9 := hP.sub (ws' := [(q, .inr (6, [.ref s0, .ref s1, .ref s2]))]) [0] rfl
  have hD9 := hD.sub (ws' := [(q, .inr (6, [.ref s0, .ref s1, .ref s2]))]) [0] (by decide) rfl
  have hK9 := hK.sub (tys' := []) [] rfl
  exact W.iret (v := nI 2) hx hb hr (fun t9 ht hW => ⟨⟨nI 2, (), rfl, rfl, by rw [ht]; exact hP9, va_K.moved hW.alike hK9, hD9⟩, hS.F ht⟩) hS.2.2 dL_probes_20
set_option maxHeartbeats 4000000 in
set_option maxRecDepth 100000 in
/-- law: bucketOf, bucketOf_n1 -/
theorem c_L_bucketOf_n1 (l : Launch) (hls : l.stackTraces = false) (dC : Nat → ClassId) (dI : Nat → Nat → Nat) (q : Nat) (s0 : Nat) (s1 : Nat) (s2 : Nat) (w : Int32) (oq : Nat) (sa : Nat) (sz : Nat) (hW : isN w = false) : Met l yL_bucketOf wsL_bucketOf ({ frames := 8, cells := 1, slots := 6, locals := 125 }) (va_Pc [.ref q, .int (nI 1), .int w, .ref oq] (fun U => TW "java/lang/IllegalArgumentException" 153 "the number is out of range" sa (fun q => sz ≤ q) U U.heap ∧ va_Nc "java/lang/IllegalArgumentException" "java/lang/IndexOutOfBoundsException" U ∧ U.heap.size = sz ∧ va_P (dC, dI) vwCl [(q, .inr (6, [.ref s0, .ref s1, .ref s2]))] U.heap ∧ va_K (dC, dI) vwCl [] U ∧ va_D (fun _ => True) [(q, .inr (6, [.ref s0, .ref s1, .ref s2]))])) (va_Qi (fun (r : Int32) (u : Unit) => r = nI 2) (fun (u : Unit) (t : State) => va_P (dC, dI) vwCl [(q, .inr (6, [.ref s0, .ref s1, .ref s2]))] t.heap ∧ va_K (dC, dI) vwCl [] t ∧ va_D (va_A [(q, .inr (6, [.ref s0, .ref s1, .ref s2]))] sz) [(q, .inr (6, [.ref s0, .ref s1, .ref s2]))]) (va_A [(q, .inr (6, [.ref s0, .ref s1, .ref s2]))] sz)) 1 6 (va_A [(q, .inr (6, [.ref s0, .ref s1, .ref s2]))] sz) := by
  refine va_MetW (cc := cL_bucketOf) (maxL := 5) (ret := (some .int)) (hh := [(0, 10, 13, 13), (0, 10, 17, 15)]) (by decide) rfl ?_
  intro p e s m args below meth c s₁ B hml hv
  obtain ⟨rfl, hT, hNc0, hsz, hP, hK, hD0⟩ := hv
  have hx := B.exec
  have hb := B.bytes
  have hr := B.returns
  have hts := atoms_spec (ws := wsL_bucketOf) B.pre
  have hown : s.vm.findClass RL = some m.cls := findClass_of_methodNamed B.named
  have hlocks := B.notSynchronized
  have htab : c.exceptionTable.toList = tableOf [(0, 10, 13, 13), (0, 10, 17, 15)] := vx_table (x := yL_bucketOf) B (hts _ List.mem_cons_self)
  subst hsz
  have hD := hD0.self (sz := s.heap.size)
  generalize hAe : va_A [(q, .inr (6, [.ref s0, .ref s1, .ref s2]))] s.heap.size = A at hD ⊢
  have hA : ∀ q : Nat, s.heap.size ≤ q → A q := fun q h => by rw [← hAe]; exact Or.inr h
  have hS : va_S A s.heap s.heap [] := va_S.rf
  have hP : va_P (dC, dI) vwCl [(q, .inr (6, [.ref s0, .ref s1, .ref s2]))] s.heap := hP
  have hl := lv_entry ([.ref q, .int (nI 1), .int w, .ref oq]) (n := 5) (Nat.le_of_ble_eq_true rfl)
  rw [lg_entry_eq]
  generalize (lg_sl ([.ref q, .int (nI 1), .int w, .ref oq]) ++ List.replicate (5 - (lg_sl ([.ref q, .int (nI 1), .int w, .ref oq])).length) Slot.unset).toArray = ls at hl ⊢
  have hl : lv_has ls 5 [(0, .ref q), (1, .int (nI 1)), (2, .int w), (3, .ref oq)] := hl
  refine lv_aload_n hx hb dL_bucketOf_0 rfl (lv_at hl 3 rfl) ?_
  refine lv_iconst (v := nI 0) hx hb dL_bucketOf_1 (by decide +kernel) ?_
  refine lv_aload_n hx hb dL_bucketOf_2 rfl (lv_at hl 0 rfl) ?_
  refine lv_iload_n hx hb dL_bucketOf_3 rfl (lv_at hl 1 rfl) ?_
  refine lv_iload_n hx hb dL_bucketOf_4 rfl (lv_at hl 2 rfl) ?_
  have hPc := hP.sub (ws' := [(q, .inr (6, [.ref s0, .ref s1, .ref s2]))]) [0] rfl
  have hKc := hK.sub (tys' := []) [] rfl
  have hDc := hD.sub (ws' := [(q, .inr (6, [.ref s0, .ref s1, .ref s2]))]) [0] (by decide) rfl
  refine vx_callv (vx_runV (As := [.int (nI 1), .int w]) (rest := [.int (nI 0), .ref oq]) ⟨hx, hb, hml, hown, hts⟩ (x_X7_bucketOf_n1 l hls dC dI q s0 s1 s2 w sa s.heap.size (by first | assumption | omega)) (cwV 2 hts gL_bucketOf_X7_bucketOf rfl rfl rfl (by decide +kernel) ⟨Nat.le_of_ble_eq_true rfl, Nat.le_of_ble_eq_true rfl⟩) ⟨fun a U g mk q => by obtain ⟨q0, q1, qT, qP, qK, qD⟩ := q; exact ⟨q0, q1, TW.same (u := U) (U := U.calling g mk a) rfl qT, qP, va_K.moved (u := U) (U := U.calling g mk a) (Vm.Alike.refl U.vm) qK, qD⟩, va_recv hKc hPc (ci := 6) (q0 := 0) rfl rfl, fun U hU hW => ⟨rfl, by rw [hU], by rw [hU]; exact TW.warm hW hT, by rw [hU]; exact hPc, va_K.moved hW.alike hKc, hDc.weaken (fun _ _ _ _ => trivial)⟩⟩ rfl rfl hl.1 rfl (lv_room (Nat.le_of_ble_eq_true rfl)) dL_bucketOf_5 ⟨Nat.le_of_ble_eq_true rfl, Nat.le_of_ble_eq_true rfl⟩) hS (fun q h9 h8 => absurd h8 (Nat.not_le_of_lt h9)) (fun q h8 => hA q (Nat.le_trans hS.1 h8)) (fun q h9 h8 => absurd h8 (Nat.not_le_of_lt h9)) (fun E9 ce9 q9 u9 t9 H locs ht9 hvm9 hu9 hE9 hz9 hk9 hS hce9 hcv9 hcl9 => ?_) (fun u9 t9 H9 l9 ht9 hvm9 hu9 hB9 hz9 hk9 hS9 => hu9.elim)
  subst hE9
  have hP := hP.kept (H1 := H) (fun k q hk => hk9 _ (vx_lt hP hk) (Nat.not_le_of_lt (vx_lt hP hk)))
  refine vx_catch (name := "java/lang/IllegalArgumentException") hown [⟨0, 10, 13, 13⟩] ⟨0, 10, 17, 15⟩ [] (htab.trans rfl) (fun z hz => by rcases List.mem_cons.mp hz with rfl | hz; exact Or.inr ⟨by decide, "java/lang/IndexOutOfBoundsException", hts (.classLink RL 13 "java/lang/IndexOutOfBoundsException") (by decide +kernel), hNc0⟩; exact nomatch hz) rfl (by decide) (hts (.classLink RL 15 "java/lang/IllegalArgumentException") (by decide +kernel)) (va_Nw.use rfl hT.2.2.2.2.2.2) hce9 hcv9 hcl9 ?_
  refine W.cs (cells' := 1) (slots' := 6) rfl rfl ?_
  refine lv_astore (lv' := [(4, .ref q9), (0, .ref q), (1, .int (nI 1)), (2, .int w), (3, .ref oq)]) hx hb dL_bucketOf_17 hl (by decide) rfl (fun ls hl => ?_)
  refine lv_iconst (v := nI 2) hx hb dL_bucketOf_19 (by decide +kernel) ?_
  have hP9 := hP.sub (ws' := [(q, .inr (6, [.ref s0, .ref s1, .ref s2]))]) [0] rfl
  have hD9 := hD.sub (ws' := [(q, .inr (6, [.ref s0, .ref s1, .ref s2]))]) [0] (by decide) rfl
  have hK9 := hK.sub (tys' := []) [] rfl
  exact W.iret (v := nI 2) hx hb hr (fun t9 ht hW => ⟨⟨nI 2, (), rfl, rfl, by rw [ht]; exact hP9, va_K.moved hW.alike hK9, hD9⟩, hS.F ht⟩) hS.2.2 dL_bucketOf_20
set_option maxHeartbeats 4000000 in
set_option maxRecDepth 100000 in
/-- law: insertRange, insertRange_f1 -/
theorem c_L_insertRange_f1 (l : Launch) (hls : l.stackTraces = false) (dC : Nat → ClassId) (dI : Nat → Nat → Nat) (q : Nat) (s0 : Nat) (s1 : Nat) (s2 : Nat) (f : Int32) (d : Int32) (n : Int32) (oq : Nat) (sa : Nat) (sz : Nat) (hW : isN f = false) : Met l yL_insertRange wsL_insertRange ({ frames := 8, cells := 1, slots := 6, locals := 129 }) (va_Pc [.ref q, .int (nI 1), .int f, .int d, .int n, .ref oq] (fun U => TW "java/lang/IllegalArgumentException" 153 "the number is out of range" sa (fun q => sz ≤ q) U U.heap ∧ va_Nc "java/lang/IllegalArgumentException" "java/lang/IndexOutOfBoundsException" U ∧ U.heap.size = sz ∧ va_P (dC, dI) vwCl [(q, .inr (6, [.ref s0, .ref s1, .ref s2]))] U.heap ∧ va_K (dC, dI) vwCl [] U ∧ va_D (fun _ => True) [(q, .inr (6, [.ref s0, .ref s1, .ref s2]))])) (va_Qi (fun (r : Int32) (u : Unit) => r = nI 2) (fun (u : Unit) (t : State) => va_P (dC, dI) vwCl [(q, .inr (6, [.ref s0, .ref s1, .ref s2]))] t.heap ∧ va_K (dC, dI) vwCl [] t ∧ va_D (va_A [(q, .inr (6, [.ref s0, .ref s1, .ref s2]))] sz) [(q, .inr (6, [.ref s0, .ref s1, .ref s2]))]) (va_A [(q, .inr (6, [.ref s0, .ref s1, .ref s2]))] sz)) 1 6 (va_A [(q, .inr (6, [.ref s0, .ref s1, .ref s2]))] sz) := by
  refine va_MetW (cc := cL_insertRange) (maxL := 7) (ret := (some .int)) (hh := [(0, 14, 17, 13), (0, 14, 21, 15)]) (by decide) rfl ?_
  intro p e s m args below meth c s₁ B hml hv
  obtain ⟨rfl, hT, hNc0, hsz, hP, hK, hD0⟩ := hv
  have hx := B.exec
  have hb := B.bytes
  have hr := B.returns
  have hts := atoms_spec (ws := wsL_insertRange) B.pre
  have hown : s.vm.findClass RL = some m.cls := findClass_of_methodNamed B.named
  have hlocks := B.notSynchronized
  have htab : c.exceptionTable.toList = tableOf [(0, 14, 17, 13), (0, 14, 21, 15)] := vx_table (x := yL_insertRange) B (hts _ List.mem_cons_self)
  subst hsz
  have hD := hD0.self (sz := s.heap.size)
  generalize hAe : va_A [(q, .inr (6, [.ref s0, .ref s1, .ref s2]))] s.heap.size = A at hD ⊢
  have hA : ∀ q : Nat, s.heap.size ≤ q → A q := fun q h => by rw [← hAe]; exact Or.inr h
  have hS : va_S A s.heap s.heap [] := va_S.rf
  have hP : va_P (dC, dI) vwCl [(q, .inr (6, [.ref s0, .ref s1, .ref s2]))] s.heap := hP
  have hl := lv_entry ([.ref q, .int (nI 1), .int f, .int d, .int n, .ref oq]) (n := 7) (Nat.le_of_ble_eq_true rfl)
  rw [lg_entry_eq]
  generalize (lg_sl ([.ref q, .int (nI 1), .int f, .int d, .int n, .ref oq]) ++ List.replicate (7 - (lg_sl ([.ref q, .int (nI 1), .int f, .int d, .int n, .ref oq])).length) Slot.unset).toArray = ls at hl ⊢
  have hl : lv_has ls 7 [(0, .ref q), (1, .int (nI 1)), (2, .int f), (3, .int d), (4, .int n), (5, .ref oq)] := hl
  refine lv_aload hx hb dL_insertRange_0 (lv_at hl 5 rfl) ?_
  refine lv_iconst (v := nI 0) hx hb dL_insertRange_2 (by decide +kernel) ?_
  refine lv_aload_n hx hb dL_insertRange_3 rfl (lv_at hl 0 rfl) ?_
  refine lv_iload_n hx hb dL_insertRange_4 rfl (lv_at hl 1 rfl) ?_
  refine lv_iload_n hx hb dL_insertRange_5 rfl (lv_at hl 2 rfl) ?_
  refine lv_iload_n hx hb dL_insertRange_6 rfl (lv_at hl 3 rfl) ?_
  refine lv_iload hx hb dL_insertRange_7 (lv_at hl 4 rfl) ?_
  have hPc := hP.sub (ws' := [(q, .inr (6, [.ref s0, .ref s1, .ref s2]))]) [0] rfl
  have hKc := hK.sub (tys' := []) [] rfl
  have hDc := hD.sub (ws' := [(q, .inr (6, [.ref s0, .ref s1, .ref s2]))]) [0] (by decide) rfl
  refine vx_callv (vx_runV (As := [.int (nI 1), .int f, .int d, .int n]) (rest := [.int (nI 0), .ref oq]) ⟨hx, hb, hml, hown, hts⟩ (x_X7_insertRange_f1 l hls dC dI q s0 s1 s2 f d n sa s.heap.size (by first | assumption | omega)) (cwV 4 hts gL_insertRange_X7_insertRange rfl rfl rfl (by decide +kernel) ⟨Nat.le_of_ble_eq_true rfl, Nat.le_of_ble_eq_true rfl⟩) ⟨fun a U g mk q => by obtain ⟨q0, q1, qT, qP, qK, qD⟩ := q; exact ⟨q0, q1, TW.same (u := U) (U := U.calling g mk a) rfl qT, qP, va_K.moved (u := U) (U := U.calling g mk a) (Vm.Alike.refl U.vm) qK, qD⟩, va_recv hKc hPc (ci := 6) (q0 := 0) rfl rfl, fun U hU hW => ⟨rfl, by rw [hU], by rw [hU]; exact TW.warm hW hT, by rw [hU]; exact hPc, va_K.moved hW.alike hKc, hDc.weaken (fun _ _ _ _ => trivial)⟩⟩ rfl rfl hl.1 rfl (lv_room (Nat.le_of_ble_eq_true rfl)) dL_insertRange_9 ⟨Nat.le_of_ble_eq_true rfl, Nat.le_of_ble_eq_true rfl⟩) hS (fun q h9 h8 => absurd h8 (Nat.not_le_of_lt h9)) (fun q h8 => hA q (Nat.le_trans hS.1 h8)) (fun q h9 h8 => absurd h8 (Nat.not_le_of_lt h9)) (fun E9 ce9 q9 u9 t9 H locs ht9 hvm9 hu9 hE9 hz9 hk9 hS hce9 hcv9 hcl9 => ?_) (fun u9 t9 H9 l9 ht9 hvm9 hu9 hB9 hz9 hk9 hS9 => hu9.elim)
  subst hE9
  have hP := hP.kept (H1 := H) (fun k q hk => hk9 _ (vx_lt hP hk) (Nat.not_le_of_lt (vx_lt hP hk)))
  refine vx_catch (name := "java/lang/IllegalArgumentException") hown [⟨0, 14, 17, 13⟩] ⟨0, 14, 21, 15⟩ [] (htab.trans rfl) (fun z hz => by rcases List.mem_cons.mp hz with rfl | hz; exact Or.inr ⟨by decide, "java/lang/IndexOutOfBoundsException", hts (.classLink RL 13 "java/lang/IndexOutOfBoundsException") (by decide +kernel), hNc0⟩; exact nomatch hz) rfl (by decide) (hts (.classLink RL 15 "java/lang/IllegalArgumentException") (by decide +kernel)) (va_Nw.use rfl hT.2.2.2.2.2.2) hce9 hcv9 hcl9 ?_
  refine W.cs (cells' := 1) (slots' := 6) rfl rfl ?_
  refine lv_astore (lv' := [(6, .ref q9), (0, .ref q), (1, .int (nI 1)), (2, .int f), (3, .int d), (4, .int n), (5, .ref oq)]) hx hb dL_insertRange_21 hl (by decide) rfl (fun ls hl => ?_)
  refine lv_iconst (v := nI 2) hx hb dL_insertRange_23 (by decide +kernel) ?_
  have hP9 := hP.sub (ws' := [(q, .inr (6, [.ref s0, .ref s1, .ref s2]))]) [0] rfl
  have hD9 := hD.sub (ws' := [(q, .inr (6, [.ref s0, .ref s1, .ref s2]))]) [0] (by decide) rfl
  have hK9 := hK.sub (tys' := []) [] rfl
  exact W.iret (v := nI 2) hx hb hr (fun t9 ht hW => ⟨⟨nI 2, (), rfl, rfl, by rw [ht]; exact hP9, va_K.moved hW.alike hK9, hD9⟩, hS.F ht⟩) hS.2.2 dL_insertRange_24
set_option maxHeartbeats 4000000 in
set_option maxRecDepth 100000 in
/-- law: insertRange, insertRange_d1 -/
theorem c_L_insertRange_d1 (l : Launch) (hls : l.stackTraces = false) (dC : Nat → ClassId) (dI : Nat → Nat → Nat) (q : Nat) (s0 : Nat) (s1 : Nat) (s2 : Nat) (a : Nat) (d : Int32) (n : Int32) (oq : Nat) (sa : Nat) (sz : Nat) (ha : a < 4096) (hW : inB d 1 1000 = false) : Met l yL_insertRange wsL_insertRange ({ frames := 8, cells := 1, slots := 6, locals := 130 }) (va_Pc [.ref q, .int (nI 1), .int (nI a), .int d, .int n, .ref oq] (fun U => TW "java/lang/IllegalArgumentException" 156 "the step is out of range" sa (fun q => sz ≤ q) U U.heap ∧ va_Nc "java/lang/IllegalArgumentException" "java/lang/IndexOutOfBoundsException" U ∧ U.heap.size = sz ∧ va_P (dC, dI) vwCl [(q, .inr (6, [.ref s0, .ref s1, .ref s2]))] U.heap ∧ va_K (dC, dI) vwCl [] U ∧ va_D (fun _ => True) [(q, .inr (6, [.ref s0, .ref s1, .ref s2]))])) (va_Qi (fun (r : Int32) (u : Unit) => r = nI 2) (fun (u : Unit) (t : State) => va_P (dC, dI) vwCl [(q, .inr (6, [.ref s0, .ref s1, .ref s2]))] t.heap ∧ va_K (dC, dI) vwCl [] t ∧ va_D (va_A [(q, .inr (6, [.ref s0, .ref s1, .ref s2]))] sz) [(q, .inr (6, [.ref s0, .ref s1, .ref s2]))]) (va_A [(q, .inr (6, [.ref s0, .ref s1, .ref s2]))] sz)) 1 6 (va_A [(q, .inr (6, [.ref s0, .ref s1, .ref s2]))] sz) := by
  refine va_MetW (cc := cL_insertRange) (maxL := 7) (ret := (some .int)) (hh := [(0, 14, 17, 13), (0, 14, 21, 15)]) (by decide) rfl ?_
  intro p e s m args below meth c s₁ B hml hv
  obtain ⟨rfl, hT, hNc0, hsz, hP, hK, hD0⟩ := hv
  have hx := B.exec
  have hb := B.bytes
  have hr := B.returns
  have hts := atoms_spec (ws := wsL_insertRange) B.pre
  have hown : s.vm.findClass RL = some m.cls := findClass_of_methodNamed B.named
  have hlocks := B.notSynchronized
  have htab : c.exceptionTable.toList = tableOf [(0, 14, 17, 13), (0, 14, 21, 15)] := vx_table (x := yL_insertRange) B (hts _ List.mem_cons_self)
  subst hsz
  have hD := hD0.self (sz := s.heap.size)
  generalize hAe : va_A [(q, .inr (6, [.ref s0, .ref s1, .ref s2]))] s.heap.size = A at hD ⊢
  have hA : ∀ q : Nat, s.heap.size ≤ q → A q := fun q h => by rw [← hAe]; exact Or.inr h
  have hS : va_S A s.heap s.heap [] := va_S.rf
  have hP : va_P (dC, dI) vwCl [(q, .inr (6, [.ref s0, .ref s1, .ref s2]))] s.heap := hP
  have hl := lv_entry ([.ref q, .int (nI 1), .int (nI a), .int d, .int n, .ref oq]) (n := 7) (Nat.le_of_ble_eq_true rfl)
  rw [lg_entry_eq]
  generalize (lg_sl ([.ref q, .int (nI 1), .int (nI a), .int d, .int n, .ref oq]) ++ List.replicate (7 - (lg_sl ([.ref q, .int (nI 1), .int (nI a), .int d, .int n, .ref oq])).length) Slot.unset).toArray = ls at hl ⊢
  have hl : lv_has ls 7 [(0, .ref q), (1, .int (nI 1)), (2, .int (nI a)), (3, .int d), (4, .int n), (5, .ref oq)] := hl
  refine lv_aload hx hb dL_insertRange_0 (lv_at hl 5 rfl) ?_
  refine lv_iconst (v := nI 0) hx hb dL_insertRange_2 (by decide +kernel) ?_
  refine lv_aload_n hx hb dL_insertRange_3 rfl (lv_at hl 0 rfl) ?_
  refine lv_iload_n hx hb dL_insertRange_4 rfl (lv_at hl 1 rfl) ?_
  refine lv_iload_n hx hb dL_insertRange_5 rfl (lv_at hl 2 rfl) ?_
  refine lv_iload_n hx hb dL_insertRange_6 rfl (lv_at hl 3 rfl) ?_
  refine lv_iload hx hb dL_insertRange_7 (lv_at hl 4 rfl) ?_
  have hPc := hP.sub (ws' := [(q, .inr (6, [.ref s0, .ref s1, .ref s2]))]) [0] rfl
  have hKc := hK.sub (tys' := []) [] rfl
  have hDc := hD.sub (ws' := [(q, .inr (6, [.ref s0, .ref s1, .ref s2]))]) [0] (by decide) rfl
  refine vx_callv (vx_runV (As := [.int (nI 1), .int (nI a), .int d, .int n]) (rest := [.int (nI 0), .ref oq]) ⟨hx, hb, hml, hown, hts⟩ (x_X7_insertRange_d1 l hls dC dI q s0 s1 s2 a d n sa s.heap.size (by first | assumption | omega) (by first | assumption | omega)) (cwV 4 hts gL_insertRange_X7_insertRange rfl rfl rfl (by decide +kernel) ⟨Nat.le_of_ble_eq_true rfl, Nat.le_of_ble_eq_true rfl⟩) ⟨fun a U g mk q => by obtain ⟨q0, q1, qT, qP, qK, qD⟩ := q; exact ⟨q0, q1, TW.same (u := U) (U := U.calling g mk a) rfl qT, qP, va_K.moved (u := U) (U := U.calling g mk a) (Vm.Alike.refl U.vm) qK, qD⟩, va_recv hKc hPc (ci := 6) (q0 := 0) rfl rfl, fun U hU hW => ⟨rfl, by rw [hU], by rw [hU]; exact TW.warm hW hT, by rw [hU]; exact hPc, va_K.moved hW.alike hKc, hDc.weaken (fun _ _ _ _ => trivial)⟩⟩ rfl rfl hl.1 rfl (lv_room (Nat.le_of_ble_eq_true rfl)) dL_insertRange_9 ⟨Nat.le_of_ble_eq_true rfl, Nat.le_of_ble_eq_true rfl⟩) hS (fun q h9 h8 => absurd h8 (Nat.not_le_of_lt h9)) (fun q h8 => hA q (Nat.le_trans hS.1 h8)) (fun q h9 h8 => absurd h8 (Nat.not_le_of_lt h9)) (fun E9 ce9 q9 u9 t9 H locs ht9 hvm9 hu9 hE9 hz9 hk9 hS hce9 hcv9 hcl9 => ?_) (fun u9 t9 H9 l9 ht9 hvm9 hu9 hB9 hz9 hk9 hS9 => hu9.elim)
  subst hE9
  have hP := hP.kept (H1 := H) (fun k q hk => hk9 _ (vx_lt hP hk) (Nat.not_le_of_lt (vx_lt hP hk)))
  refine vx_catch (name := "java/lang/IllegalArgumentException") hown [⟨0, 14, 17, 13⟩] ⟨0, 14, 21, 15⟩ [] (htab.trans rfl) (fun z hz => by rcases List.mem_cons.mp hz with rfl | hz; exact Or.inr ⟨by decide, "java/lang/IndexOutOfBoundsException", hts (.classLink RL 13 "java/lang/IndexOutOfBoundsException") (by decide +kernel), hNc0⟩; exact nomatch hz) rfl (by decide) (hts (.classLink RL 15 "java/lang/IllegalArgumentException") (by decide +kernel)) (va_Nw.use rfl hT.2.2.2.2.2.2) hce9 hcv9 hcl9 ?_
  refine W.cs (cells' := 1) (slots' := 6) rfl rfl ?_
  refine lv_astore (lv' := [(6, .ref q9), (0, .ref q), (1, .int (nI 1)), (2, .int (nI a)), (3, .int d), (4, .int n), (5, .ref oq)]) hx hb dL_insertRange_21 hl (by decide) rfl (fun ls hl => ?_)
  refine lv_iconst (v := nI 2) hx hb dL_insertRange_23 (by decide +kernel) ?_
  have hP9 := hP.sub (ws' := [(q, .inr (6, [.ref s0, .ref s1, .ref s2]))]) [0] rfl
  have hD9 := hD.sub (ws' := [(q, .inr (6, [.ref s0, .ref s1, .ref s2]))]) [0] (by decide) rfl
  have hK9 := hK.sub (tys' := []) [] rfl
  exact W.iret (v := nI 2) hx hb hr (fun t9 ht hW => ⟨⟨nI 2, (), rfl, rfl, by rw [ht]; exact hP9, va_K.moved hW.alike hK9, hD9⟩, hS.F ht⟩) hS.2.2 dL_insertRange_24
set_option maxHeartbeats 4000000 in
set_option maxRecDepth 100000 in
/-- law: insertRange, insertRange_c1 -/
theorem c_L_insertRange_c1 (l : Launch) (hls : l.stackTraces = false) (dC : Nat → ClassId) (dI : Nat → Nat → Nat) (q : Nat) (s0 : Nat) (s1 : Nat) (s2 : Nat) (a : Nat) (d : Nat) (n : Int32) (oq : Nat) (sa : Nat) (sz : Nat) (ha : a < 4096) (hd : 1 ≤ d ∧ d ≤ 1000) (hW : inB n 1 30 = false) : Met l yL_insertRange wsL_insertRange ({ frames := 8, cells := 1, slots := 6, locals := 130 }) (va_Pc [.ref q, .int (nI 1), .int (nI a), .int (nI d), .int n, .ref oq] (fun U => TW "java/lang/IllegalArgumentException" 158 "the count is out of range" sa (fun q => sz ≤ q) U U.heap ∧ va_Nc "java/lang/IllegalArgumentException" "java/lang/IndexOutOfBoundsException" U ∧ U.heap.size = sz ∧ va_P (dC, dI) vwCl [(q, .inr (6, [.ref s0, .ref s1, .ref s2]))] U.heap ∧ va_K (dC, dI) vwCl [] U ∧ va_D (fun _ => True) [(q, .inr (6, [.ref s0, .ref s1, .ref s2]))])) (va_Qi (fun (r : Int32) (u : Unit) => r = nI 2) (fun (u : Unit) (t : State) => va_P (dC, dI) vwCl [(q, .inr (6, [.ref s0, .ref s1, .ref s2]))] t.heap ∧ va_K (dC, dI) vwCl [] t ∧ va_D (va_A [(q, .inr (6, [.ref s0, .ref s1, .ref s2]))] sz) [(q, .inr (6, [.ref s0, .ref s1, .ref s2]))]) (va_A [(q, .inr (6, [.ref s0, .ref s1, .ref s2]))] sz)) 1 6 (va_A [(q, .inr (6, [.ref s0, .ref s1, .ref s2]))] sz) := by
  refine va_MetW (cc := cL_insertRange) (maxL := 7) (ret := (some .int)) (hh := [(0, 14, 17, 13), (0, 14, 21, 15)]) (by decide) rfl ?_
  intro p e s m args below meth c s₁ B hml hv
  obtain ⟨rfl, hT, hNc0, hsz, hP, hK, hD0⟩ := hv
  have hx := B.exec
  have hb := B.bytes
  have hr := B.returns
  have hts := atoms_spec (ws := wsL_insertRange) B.pre
  have hown : s.vm.findClass RL = some m.cls := findClass_of_methodNamed B.named
  have hlocks := B.notSynchronized
  have htab : c.exceptionTable.toList = tableOf [(0, 14, 17, 13), (0, 14, 21, 15)] := vx_table (x := yL_insertRange) B (hts _ List.mem_cons_self)
  subst hsz
  have hD := hD0.self (sz := s.heap.size)
  generalize hAe : va_A [(q, .inr (6, [.ref s0, .ref s1, .ref s2]))] s.heap.size = A at hD ⊢
  have hA : ∀ q : Nat, s.heap.size ≤ q → A q := fun q h => by rw [← hAe]; exact Or.inr h
  have hS : va_S A s.heap s.heap [] := va_S.rf
  have hP : va_P (dC, dI) vwCl [(q, .inr (6, [.ref s0, .ref s1, .ref s2]))] s.heap := hP
  have hl := lv_entry ([.ref q, .int (nI 1), .int (nI a), .int (nI d), .int n, .ref oq]) (n := 7) (Nat.le_of_ble_eq_true rfl)
  rw [lg_entry_eq]
  generalize (lg_sl ([.ref q, .int (nI 1), .int (nI a), .int (nI d), .int n, .ref oq]) ++ List.replicate (7 - (lg_sl ([.ref q, .int (nI 1), .int (nI a), .int (nI d), .int n, .ref oq])).length) Slot.unset).toArray = ls at hl ⊢
  have hl : lv_has ls 7 [(0, .ref q), (1, .int (nI 1)), (2, .int (nI a)), (3, .int (nI d)), (4, .int n), (5, .ref oq)] := hl
  refine lv_aload hx hb dL_insertRange_0 (lv_at hl 5 rfl) ?_
  refine lv_iconst (v := nI 0) hx hb dL_insertRange_2 (by decide +kernel) ?_
  refine lv_aload_n hx hb dL_insertRange_3 rfl (lv_at hl 0 rfl) ?_
  refine lv_iload_n hx hb dL_insertRange_4 rfl (lv_at hl 1 rfl) ?_
  refine lv_iload_n hx hb dL_insertRange_5 rfl (lv_at hl 2 rfl) ?_
  refine lv_iload_n hx hb dL_insertRange_6 rfl (lv_at hl 3 rfl) ?_
  refine lv_iload hx hb dL_insertRange_7 (lv_at hl 4 rfl) ?_
  have hPc := hP.sub (ws' := [(q, .inr (6, [.ref s0, .ref s1, .ref s2]))]) [0] rfl
  have hKc := hK.sub (tys' := []) [] rfl
  have hDc := hD.sub (ws' := [(q, .inr (6, [.ref s0, .ref s1, .ref s2]))]) [0] (by decide) rfl
  refine vx_callv (vx_runV (As := [.int (nI 1), .int (nI a), .int (nI d), .int n]) (rest := [.int (nI 0), .ref oq]) ⟨hx, hb, hml, hown, hts⟩ (x_X7_insertRange_c1 l hls dC dI q s0 s1 s2 a d n sa s.heap.size (by first | assumption | omega) (by first | assumption | omega) (by first | assumption | omega)) (cwV 4 hts gL_insertRange_X7_insertRange rfl rfl rfl (by decide +kernel) ⟨Nat.le_of_ble_eq_true rfl, Nat.le_of_ble_eq_true rfl⟩) ⟨fun a U g mk q => by obtain ⟨q0, q1, qT, qP, qK, qD⟩ := q; exact ⟨q0, q1, TW.same (u := U) (U := U.calling g mk a) rfl qT, qP, va_K.moved (u := U) (U := U.calling g mk a) (Vm.Alike.refl U.vm) qK, qD⟩, va_recv hKc hPc (ci := 6) (q0 := 0) rfl rfl, fun U hU hW => ⟨rfl, by rw [hU], by rw [hU]; exact TW.warm hW hT, by rw [hU]; exact hPc, va_K.moved hW.alike hKc, hDc.weaken (fun _ _ _ _ => trivial)⟩⟩ rfl rfl hl.1 rfl (lv_room (Nat.le_of_ble_eq_true rfl)) dL_insertRange_9 ⟨Nat.le_of_ble_eq_true rfl, Nat.le_of_ble_eq_true rfl⟩) hS (fun q h9 h8 => absurd h8 (Nat.not_le_of_lt h9)) (fun q h8 => hA q (Nat.le_trans hS.1 h8)) (fun q h9 h8 => absurd h8 (Nat.not_le_of_lt h9)) (fun E9 ce9 q9 u9 t9 H locs ht9 hvm9 hu9 hE9 hz9 hk9 hS hce9 hcv9 hcl9 => ?_) (fun u9 t9 H9 l9 ht9 hvm9 hu9 hB9 hz9 hk9 hS9 => hu9.elim)
  subst hE9
  have hP := hP.kept (H1 := H) (fun k q hk => hk9 _ (vx_lt hP hk) (Nat.not_le_of_lt (vx_lt hP hk)))
  refine vx_catch (name := "java/lang/IllegalArgumentException") hown [⟨0, 14, 17, 13⟩] ⟨0, 14, 21, 15⟩ [] (htab.trans rfl) (fun z hz => by rcases List.mem_cons.mp hz with rfl | hz; exact Or.inr ⟨by decide, "java/lang/IndexOutOfBoundsException", hts (.classLink RL 13 "java/lang/IndexOutOfBoundsException") (by decide +kernel), hNc0⟩; exact nomatch hz) rfl (by decide) (hts (.classLink RL 15 "java/lang/IllegalArgumentException") (by decide +kernel)) (va_Nw.use rfl hT.2.2.2.2.2.2) hce9 hcv9 hcl9 ?_
  refine W.cs (cells' := 1) (slots' := 6) rfl rfl ?_
  refine lv_astore (lv' := [(6, .ref q9), (0, .ref q), (1, .int (nI 1)), (2, .int (nI a)), (3, .int (nI d)), (4, .int n), (5, .ref oq)]) hx hb dL_insertRange_21 hl (by decide) rfl (fun ls hl => ?_)
  refine lv_iconst (v := nI 2) hx hb dL_insertRange_23 (by decide +kernel) ?_
  have hP9 := hP.sub (ws' := [(q, .inr (6, [.ref s0, .ref s1, .ref s2]))]) [0] rfl
  have hD9 := hD.sub (ws' := [(q, .inr (6, [.ref s0, .ref s1, .ref s2]))]) [0] (by decide) rfl
  have hK9 := hK.sub (tys' := []) [] rfl
  exact W.iret (v := nI 2) hx hb hr (fun t9 ht hW => ⟨⟨nI 2, (), rfl, rfl, by rw [ht]; exact hP9, va_K.moved hW.alike hK9, hD9⟩, hS.F ht⟩) hS.2.2 dL_insertRange_24
set_option maxHeartbeats 4000000 in
set_option maxRecDepth 100000 in
/-- law: insertRange, insertRange_e1 -/
theorem c_L_insertRange_e1 (l : Launch) (hls : l.stackTraces = false) (dC : Nat → ClassId) (dI : Nat → Nat → Nat) (q : Nat) (s0 : Nat) (s1 : Nat) (s2 : Nat) (a : Nat) (d : Nat) (n : Nat) (oq : Nat) (sa : Nat) (sz : Nat) (ha : a < 4096) (hd : 1 ≤ d ∧ d ≤ 1000) (hn : 1 ≤ n ∧ n ≤ 30) (hW : isN (nI (a + (n - 1) * d)) = false) : Met l yL_insertRange wsL_insertRange ({ frames := 8, cells := 1, slots := 6, locals := 129 }) (va_Pc [.ref q, .int (nI 1), .int (nI a), .int (nI d), .int (nI n), .ref oq] (fun U => TW "java/lang/IllegalArgumentException" 153 "the number is out of range" sa (fun q => sz ≤ q) U U.heap ∧ va_Nc "java/lang/IllegalArgumentException" "java/lang/IndexOutOfBoundsException" U ∧ U.heap.size = sz ∧ va_P (dC, dI) vwCl [(q, .inr (6, [.ref s0, .ref s1, .ref s2]))] U.heap ∧ va_K (dC, dI) vwCl [] U ∧ va_D (fun _ => True) [(q, .inr (6, [.ref s0, .ref s1, .ref s2]))])) (va_Qi (fun (r : Int32) (u : Unit) => r = nI 2) (fun (u : Unit) (t : State) => va_P (dC, dI) vwCl [(q, .inr (6, [.ref s0, .ref s1, .ref s2]))] t.heap ∧ va_K (dC, dI) vwCl [] t ∧ va_D (va_A [(q, .inr (6, [.ref s0, .ref s1, .ref s2]))] sz) [(q, .inr (6, [.ref s0, .ref s1, .ref s2]))]) (va_A [(q, .inr (6, [.ref s0, .ref s1, .ref s2]))] sz)) 1 6 (va_A [(q, .inr (6, [.ref s0, .ref s1, .ref s2]))] sz) := by
  refine va_MetW (cc := cL_insertRange) (maxL := 7) (ret := (some .int)) (hh := [(0, 14, 17, 13), (0, 14, 21, 15)]) (by decide) rfl ?_
  intro p e s m args below meth c s₁ B hml hv
  obtain ⟨rfl, hT, hNc0, hsz, hP, hK, hD0⟩ := hv
  have hx := B.exec
  have hb := B.bytes
  have hr := B.returns
  have hts := atoms_spec (ws := wsL_insertRange) B.pre
  have hown : s.vm.findClass RL = some m.cls := findClass_of_methodNamed B.named
  have hlocks := B.notSynchronized
  have htab : c.exceptionTable.toList = tableOf [(0, 14, 17, 13), (0, 14, 21, 15)] := vx_table (x := yL_insertRange) B (hts _ List.mem_cons_self)
  subst hsz
  have hD := hD0.self (sz := s.heap.size)
  generalize hAe : va_A [(q, .inr (6, [.ref s0, .ref s1, .ref s2]))] s.heap.size = A at hD ⊢
  have hA : ∀ q : Nat, s.heap.size ≤ q → A q := fun q h => by rw [← hAe]; exact Or.inr h
  have hS : va_S A s.heap s.heap [] := va_S.rf
  have hP : va_P (dC, dI) vwCl [(q, .inr (6, [.ref s0, .ref s1, .ref s2]))] s.heap := hP
  have hl := lv_entry ([.ref q, .int (nI 1), .int (nI a), .int (nI d), .int (nI n), .ref oq]) (n := 7) (Nat.le_of_ble_eq_true rfl)
  rw [lg_entry_eq]
  generalize (lg_sl ([.ref q, .int (nI 1), .int (nI a), .int (nI d), .int (nI n), .ref oq]) ++ List.replicate (7 - (lg_sl ([.ref q, .int (nI 1), .int (nI a), .int (nI d), .int (nI n), .ref oq])).length) Slot.unset).toArray = ls at hl ⊢
  have hl : lv_has ls 7 [(0, .ref q), (1, .int (nI 1)), (2, .int (nI a)), (3, .int (nI d)), (4, .int (nI n)), (5, .ref oq)] := hl
  refine lv_aload hx hb dL_insertRange_0 (lv_at hl 5 rfl) ?_
  refine lv_iconst (v := nI 0) hx hb dL_insertRange_2 (by decide +kernel) ?_
  refine lv_aload_n hx hb dL_insertRange_3 rfl (lv_at hl 0 rfl) ?_
  refine lv_iload_n hx hb dL_insertRange_4 rfl (lv_at hl 1 rfl) ?_
  refine lv_iload_n hx hb dL_insertRange_5 rfl (lv_at hl 2 rfl) ?_
  refine lv_iload_n hx hb dL_insertRange_6 rfl (lv_at hl 3 rfl) ?_
  refine lv_iload hx hb dL_insertRange_7 (lv_at hl 4 rfl) ?_
  have hPc := hP.sub (ws' := [(q, .inr (6, [.ref s0, .ref s1, .ref s2]))]) [0] rfl
  have hKc := hK.sub (tys' := []) [] rfl
  have hDc := hD.sub (ws' := [(q, .inr (6, [.ref s0, .ref s1, .ref s2]))]) [0] (by decide) rfl
  refine vx_callv (vx_runV (As := [.int (nI 1), .int (nI a), .int (nI d), .int (nI n)]) (rest := [.int (nI 0), .ref oq]) ⟨hx, hb, hml, hown, hts⟩ (x_X7_insertRange_e1 l hls dC dI q s0 s1 s2 a d n sa s.heap.size (by first | assumption | omega) (by first | assumption | omega) (by first | assumption | omega) (by first | assumption | omega)) (cwV 4 hts gL_insertRange_X7_insertRange rfl rfl rfl (by decide +kernel) ⟨Nat.le_of_ble_eq_true rfl, Nat.le_of_ble_eq_true rfl⟩) ⟨fun a U g mk q => by obtain ⟨q0, q1, qT, qP, qK, qD⟩ := q; exact ⟨q0, q1, TW.same (u := U) (U := U.calling g mk a) rfl qT, qP, va_K.moved (u := U) (U := U.calling g mk a) (Vm.Alike.refl U.vm) qK, qD⟩, va_recv hKc hPc (ci := 6) (q0 := 0) rfl rfl, fun U hU hW => ⟨rfl, by rw [hU], by rw [hU]; exact TW.warm hW hT, by rw [hU]; exact hPc, va_K.moved hW.alike hKc, hDc.weaken (fun _ _ _ _ => trivial)⟩⟩ rfl rfl hl.1 rfl (lv_room (Nat.le_of_ble_eq_true rfl)) dL_insertRange_9 ⟨Nat.le_of_ble_eq_true rfl, Nat.le_of_ble_eq_true rfl⟩) hS (fun q h9 h8 => absurd h8 (Nat.not_le_of_lt h9)) (fun q h8 => hA q (Nat.le_trans hS.1 h8)) (fun q h9 h8 => absurd h8 (Nat.not_le_of_lt h9)) (fun E9 ce9 q9 u9 t9 H locs ht9 hvm9 hu9 hE9 hz9 hk9 hS hce9 hcv9 hcl9 => ?_) (fun u9 t9 H9 l9 ht9 hvm9 hu9 hB9 hz9 hk9 hS9 => hu9.elim)
  subst hE9
  have hP := hP.kept (H1 := H) (fun k q hk => hk9 _ (vx_lt hP hk) (Nat.not_le_of_lt (vx_lt hP hk)))
  refine vx_catch (name := "java/lang/IllegalArgumentException") hown [⟨0, 14, 17, 13⟩] ⟨0, 14, 21, 15⟩ [] (htab.trans rfl) (fun z hz => by rcases List.mem_cons.mp hz with rfl | hz; exact Or.inr ⟨by decide, "java/lang/IndexOutOfBoundsException", hts (.classLink RL 13 "java/lang/IndexOutOfBoundsException") (by decide +kernel), hNc0⟩; exact nomatch hz) rfl (by decide) (hts (.classLink RL 15 "java/lang/IllegalArgumentException") (by decide +kernel)) (va_Nw.use rfl hT.2.2.2.2.2.2) hce9 hcv9 hcl9 ?_
  refine W.cs (cells' := 1) (slots' := 6) rfl rfl ?_
  refine lv_astore (lv' := [(6, .ref q9), (0, .ref q), (1, .int (nI 1)), (2, .int (nI a)), (3, .int (nI d)), (4, .int (nI n)), (5, .ref oq)]) hx hb dL_insertRange_21 hl (by decide) rfl (fun ls hl => ?_)
  refine lv_iconst (v := nI 2) hx hb dL_insertRange_23 (by decide +kernel) ?_
  have hP9 := hP.sub (ws' := [(q, .inr (6, [.ref s0, .ref s1, .ref s2]))]) [0] rfl
  have hD9 := hD.sub (ws' := [(q, .inr (6, [.ref s0, .ref s1, .ref s2]))]) [0] (by decide) rfl
  have hK9 := hK.sub (tys' := []) [] rfl
  exact W.iret (v := nI 2) hx hb hr (fun t9 ht hW => ⟨⟨nI 2, (), rfl, rfl, by rw [ht]; exact hP9, va_K.moved hW.alike hK9, hD9⟩, hS.F ht⟩) hS.2.2 dL_insertRange_24
set_option maxHeartbeats 4000000 in
set_option maxRecDepth 100000 in
/-- law: insertAll, insertAll_t1 -/
theorem c_L_insertAll_t1 (l : Launch) (hls : l.stackTraces = false) (dC : Nat → ClassId) (dI : Nat → Nat → Nat) (q : Nat) (s0 : Nat) (s1 : Nat) (s2 : Nat) (w : Int32) (oq : Nat) (sa : Nat) (sz : Nat) (hW : isS w = false) : Met l yL_insertAll wsL_insertAll ({ frames := 8, cells := 1, slots := 6, locals := 130 }) (va_Pc [.ref q, .int (nI 1), .int w, .ref oq] (fun U => TW "java/lang/IndexOutOfBoundsException" 148 "no such set" sa (fun q => sz ≤ q) U U.heap ∧ U.heap.size = sz ∧ va_P (dC, dI) vwCl [(q, .inr (6, [.ref s0, .ref s1, .ref s2]))] U.heap ∧ va_K (dC, dI) vwCl [] U ∧ va_D (fun _ => True) [(q, .inr (6, [.ref s0, .ref s1, .ref s2]))])) (va_Qi (fun (r : Int32) (u : Unit) => r = nI 1) (fun (u : Unit) (t : State) => va_P (dC, dI) vwCl [(q, .inr (6, [.ref s0, .ref s1, .ref s2]))] t.heap ∧ va_K (dC, dI) vwCl [] t ∧ va_D (va_A [(q, .inr (6, [.ref s0, .ref s1, .ref s2]))] sz) [(q, .inr (6, [.ref s0, .ref s1, .ref s2]))]) (va_A [(q, .inr (6, [.ref s0, .ref s1, .ref s2]))] sz)) 1 6 (va_A [(q, .inr (6, [.ref s0, .ref s1, .ref s2]))] sz) := by
  refine va_MetW (cc := cL_insertAll) (maxL := 5) (ret := (some .int)) (hh := [(0, 10, 13, 13), (0, 10, 17, 25)]) (by decide) rfl ?_
  intro p e s m args below meth c s₁ B hml hv
  obtain ⟨rfl, hT, hsz, hP, hK, hD0⟩ := hv
  have hx := B.exec
  have hb := B.bytes
  have hr := B.returns
  have hts := atoms_spec (ws := wsL_insertAll) B.pre
  have hown : s.vm.findClass RL = some m.cls := findClass_of_methodNamed B.named
  have hlocks := B.notSynchronized
  have htab : c.exceptionTable.toList = tableOf [(0, 10, 13, 13), (0, 10, 17, 25)] := vx_table (x := yL_insertAll) B (hts _ List.mem_cons_self)
  subst hsz
  have hD := hD0.self (sz := s.heap.size)
  generalize hAe : va_A [(q, .inr (6, [.ref s0, .ref s1, .ref s2]))] s.heap.size = A at hD ⊢
  have hA : ∀ q : Nat, s.heap.size ≤ q → A q := fun q h => by rw [← hAe]; exact Or.inr h
  have hS : va_S A s.heap s.heap [] := va_S.rf
  have hP : va_P (dC, dI) vwCl [(q, .inr (6, [.ref s0, .ref s1, .ref s2]))] s.heap := hP
  have hl := lv_entry ([.ref q, .int (nI 1), .int w, .ref oq]) (n := 5) (Nat.le_of_ble_eq_true rfl)
  rw [lg_entry_eq]
  generalize (lg_sl ([.ref q, .int (nI 1), .int w, .ref oq]) ++ List.replicate (5 - (lg_sl ([.ref q, .int (nI 1), .int w, .ref oq])).length) Slot.unset).toArray = ls at hl ⊢
  have hl : lv_has ls 5 [(0, .ref q), (1, .int (nI 1)), (2, .int w), (3, .ref oq)] := hl
  refine lv_aload_n hx hb dL_insertAll_0 rfl (lv_at hl 3 rfl) ?_
  refine lv_iconst (v := nI 0) hx hb dL_insertAll_1 (by decide +kernel) ?_
  refine lv_aload_n hx hb dL_insertAll_2 rfl (lv_at hl 0 rfl) ?_
  refine lv_iload_n hx hb dL_insertAll_3 rfl (lv_at hl 1 rfl) ?_
  refine lv_iload_n hx hb dL_insertAll_4 rfl (lv_at hl 2 rfl) ?_
  have hPc := hP.sub (ws' := [(q, .inr (6, [.ref s0, .ref s1, .ref s2]))]) [0] rfl
  have hKc := hK.sub (tys' := []) [] rfl
  have hDc := hD.sub (ws' := [(q, .inr (6, [.ref s0, .ref s1, .ref s2]))]) [0] (by decide) rfl
  refine vx_callv (vx_runV (As := [.int (nI 1), .int w]) (rest := [.int (nI 0), .ref oq]) ⟨hx, hb, hml, hown, hts⟩ (x_X7_insertAll_t1 l hls dC dI q s0 s1 s2 w sa s.heap.size (by first | assumption | omega)) (cwV 2 hts gL_insertAll_X7_insertAll rfl rfl rfl (by decide +kernel) ⟨Nat.le_of_ble_eq_true rfl, Nat.le_of_ble_eq_true rfl⟩) ⟨fun a U g mk q => by obtain ⟨q0, q1, qT, qP, qK, qD⟩ := q; exact ⟨q0, q1, TW.same (u := U) (U := U.calling g mk a) rfl qT, qP, va_K.moved (u := U) (U := U.calling g mk a) (Vm.Alike.refl U.vm) qK, qD⟩, va_recv hKc hPc (ci := 6) (q0 := 0) rfl rfl, fun U hU hW => ⟨rfl, by rw [hU], by rw [hU]; exact TW.warm hW hT, by rw [hU]; exact hPc, va_K.moved hW.alike hKc, hDc.weaken (fun _ _ _ _ => trivial)⟩⟩ rfl rfl hl.1 rfl (lv_room (Nat.le_of_ble_eq_true rfl)) dL_insertAll_5 ⟨Nat.le_of_ble_eq_true rfl, Nat.le_of_ble_eq_true rfl⟩) hS (fun q h9 h8 => absurd h8 (Nat.not_le_of_lt h9)) (fun q h8 => hA q (Nat.le_trans hS.1 h8)) (fun q h9 h8 => absurd h8 (Nat.not_le_of_lt h9)) (fun E9 ce9 q9 u9 t9 H locs ht9 hvm9 hu9 hE9 hz9 hk9 hS hce9 hcv9 hcl9 => ?_) (fun u9 t9 H9 l9 ht9 hvm9 hu9 hB9 hz9 hk9 hS9 => hu9.elim)
  subst hE9
  have hP := hP.kept (H1 := H) (fun k q hk => hk9 _ (vx_lt hP hk) (Nat.not_le_of_lt (vx_lt hP hk)))
  refine vx_catch (name := "java/lang/IndexOutOfBoundsException") hown [] ⟨0, 10, 13, 13⟩ [⟨0, 10, 17, 25⟩] (htab.trans rfl) (fun z hz => nomatch hz) rfl (by decide) (hts (.classLink RL 13 "java/lang/IndexOutOfBoundsException") (by decide +kernel)) (va_Nw.use rfl hT.2.2.2.2.2.2) hce9 hcv9 hcl9 ?_
  refine W.cs (cells' := 1) (slots' := 6) rfl rfl ?_
  refine lv_astore (lv' := [(4, .ref q9), (0, .ref q), (1, .int (nI 1)), (2, .int w), (3, .ref oq)]) hx hb dL_insertAll_13 hl (by decide) rfl (fun ls hl => ?_)
  refine lv_iconst (v := nI 1) hx hb dL_insertAll_15 (by decide +kernel) ?_
  have hP9 := hP.sub (ws' := [(q, .inr (6, [.ref s0, .ref s1, .ref s2]))]) [0] rfl
  have hD9 := hD.sub (ws' := [(q, .inr (6, [.ref s0, .ref s1, .ref s2]))]) [0] (by decide) rfl
  have hK9 := hK.sub (tys' := []) [] rfl
  exact W.iret (v := nI 1) hx hb hr (fun t9 ht hW => ⟨⟨nI 1, (), rfl, rfl, by rw [ht]; exact hP9, va_K.moved hW.alike hK9, hD9⟩, hS.F ht⟩) hS.2.2 dL_insertAll_16
set_option maxHeartbeats 4000000 in
set_option maxRecDepth 100000 in
/-- law: insertAll, insertAll_e10 -/
theorem c_L_insertAll_e10 (l : Launch) (hls : l.stackTraces = false) (dC : Nat → ClassId) (dI : Nat → Nat → Nat) (q : Nat) (s0 : Nat) (s1 : Nat) (s2 : Nat) (tq : Nat) (ca : Nat) (rq : Nat) (rb : Nat) (rd : Nat) (uq : Nat) (bm : Nat) (am : Nat) (bs : Nat) (ap : Nat) (cJ : ClassId) (fm : Nat → Int64) (fs : Nat → Int64) (ft : Nat → Int64) (fc : Nat → Int64) (sm : Int64) (lo : Option Nat) (tq_o : Nat) (ca_o : Nat) (rq_o : Nat) (rb_o : Nat) (rd_o : Nat) (uq_o : Nat) (bm_o : Nat) (am_o : Nat) (bs_o : Nat) (ap_o : Nat) (om : Nat → Int64) (os : Nat → Int64) (ot : Nat → Int64) (oc : Nat → Int64) (osm : Int64) (olo : Option Nat) (oq : Nat) (sa : Nat) (sz : Nat) (hN : NI fm fs ft fc sm lo) (hn30 : 30 < fb_ct (bo om) 4096) : Met l yL_insertAll wsL_insertAll ({ frames := 7, cells := 1, slots := 6, locals := 109 }) (va_Pc [.ref q, .int (nI 1), .int (nI 0), .ref oq] (fun U => va_Nw (.fieldLinkNest RX7 38 "SmallNumberSets$NumberSet" "buckets" "LSmallNumberSets$Buckets;" "SmallNumberSets") U ∧ TW "java/lang/IllegalStateException" 50 "the other set has too many members" sa (fun q => sz ≤ q) U U.heap ∧ va_Nc "java/lang/IllegalStateException" "java/lang/IndexOutOfBoundsException" U ∧ U.heap.size = sz ∧ va_P (dC, dI) vwCl [(q, .inr (6, [.ref s0, .ref s1, .ref s2])), (s1, .inr (3, [.ref tq, .ref rq, .ref uq])), (tq, .inr (4, [.ref ca, .long sm, .int (oI lo)])), (ca, .inl (cJ, 64, .inr (.inl fc))), (rq, .inr (5, [.ref rb])), (rb, .inr (0, [.ref rd])), (rd, .inl (cJ, 128, .inr (.inl ft))), (uq, .inr (1, [.ref bm, .ref bs])), (bm, .inr (0, [.ref am])), (am, .inl (cJ, 64, .inr (.inl fm))), (bs, .inr (0, [.ref ap])), (ap, .inl (cJ, 64, .inr (.inl fs))), (s0, .inr (3, [.ref tq_o, .ref rq_o, .ref uq_o])), (tq_o, .inr (4, [.ref ca_o, .long osm, .int (oI olo)])), (ca_o, .inl (cJ, 64, .inr (.inl oc))), (rq_o, .inr (5, [.ref rb_o])), (rb_o, .inr (0, [.ref rd_o])), (rd_o, .inl (cJ, 128, .inr (.inl ot))), (uq_o, .inr (1, [.ref bm_o, .ref bs_o])), (bm_o, .inr (0, [.ref am_o])), (am_o, .inl (cJ, 64, .inr (.inl om))), (bs_o, .inr (0, [.ref ap_o])), (ap_o, .inl (cJ, 64, .inr (.inl os)))] U.heap ∧ va_K (dC, dI) vwCl [(cJ, .long)] U ∧ va_D (fun _ => True) [(q, .inr (6, [.ref s0, .ref s1, .ref s2])), (s1, .inr (3, [.ref tq, .ref rq, .ref uq])), (tq, .inr (4, [.ref ca, .long sm, .int (oI lo)])), (ca, .inl (cJ, 64, .inr (.inl fc))), (rq, .inr (5, [.ref rb])), (rb, .inr (0, [.ref rd])), (rd, .inl (cJ, 128, .inr (.inl ft))), (uq, .inr (1, [.ref bm, .ref bs])), (bm, .inr (0, [.ref am])), (am, .inl (cJ, 64, .inr (.inl fm))), (bs, .inr (0, [.ref ap])), (ap, .inl (cJ, 64, .inr (.inl fs))), (s0, .inr (3, [.ref tq_o, .ref rq_o, .ref uq_o])), (tq_o, .inr (4, [.ref ca_o, .long osm, .int (oI olo)])), (ca_o, .inl (cJ, 64, .inr (.inl oc))), (rq_o, .inr (5, [.ref rb_o])), (rb_o, .inr (0, [.ref rd_o])), (rd_o, .inl (cJ, 128, .inr (.inl ot))), (uq_o, .inr (1, [.ref bm_o, .ref bs_o])), (bm_o, .inr (0, [.ref am_o])), (am_o, .inl (cJ, 64, .inr (.inl om))), (bs_o, .inr (0, [.ref ap_o])), (ap_o, .inl (cJ, 64, .inr (.inl os)))])) (va_Qi (fun (r : Int32) (u : Unit) => r = nI 2) (fun (u : Unit) (t : State) => va_P (dC, dI) vwCl [(q, .inr (6, [.ref s0, .ref s1, .ref s2])), (s1, .inr (3, [.ref tq, .ref rq, .ref uq])), (tq, .inr (4, [.ref ca, .long sm, .int (oI lo)])), (ca, .inl (cJ, 64, .inr (.inl fc))), (rq, .inr (5, [.ref rb])), (rb, .inr (0, [.ref rd])), (rd, .inl (cJ, 128, .inr (.inl ft))), (uq, .inr (1, [.ref bm, .ref bs])), (bm, .inr (0, [.ref am])), (am, .inl (cJ, 64, .inr (.inl fm))), (bs, .inr (0, [.ref ap])), (ap, .inl (cJ, 64, .inr (.inl fs))), (s0, .inr (3, [.ref tq_o, .ref rq_o, .ref uq_o])), (tq_o, .inr (4, [.ref ca_o, .long osm, .int (oI olo)])), (ca_o, .inl (cJ, 64, .inr (.inl oc))), (rq_o, .inr (5, [.ref rb_o])), (rb_o, .inr (0, [.ref rd_o])), (rd_o, .inl (cJ, 128, .inr (.inl ot))), (uq_o, .inr (1, [.ref bm_o, .ref bs_o])), (bm_o, .inr (0, [.ref am_o])), (am_o, .inl (cJ, 64, .inr (.inl om))), (bs_o, .inr (0, [.ref ap_o])), (ap_o, .inl (cJ, 64, .inr (.inl os)))] t.heap ∧ va_K (dC, dI) vwCl [(cJ, .long)] t ∧ va_D (va_A [(q, .inr (6, [.ref s0, .ref s1, .ref s2])), (s1, .inr (3, [.ref tq, .ref rq, .ref uq])), (tq, .inr (4, [.ref ca, .long sm, .int (oI lo)])), (ca, .inl (cJ, 64, .inr (.inl fc))), (rq, .inr (5, [.ref rb])), (rb, .inr (0, [.ref rd])), (rd, .inl (cJ, 128, .inr (.inl ft))), (uq, .inr (1, [.ref bm, .ref bs])), (bm, .inr (0, [.ref am])), (am, .inl (cJ, 64, .inr (.inl fm))), (bs, .inr (0, [.ref ap])), (ap, .inl (cJ, 64, .inr (.inl fs))), (s0, .inr (3, [.ref tq_o, .ref rq_o, .ref uq_o])), (tq_o, .inr (4, [.ref ca_o, .long osm, .int (oI olo)])), (ca_o, .inl (cJ, 64, .inr (.inl oc))), (rq_o, .inr (5, [.ref rb_o])), (rb_o, .inr (0, [.ref rd_o])), (rd_o, .inl (cJ, 128, .inr (.inl ot))), (uq_o, .inr (1, [.ref bm_o, .ref bs_o])), (bm_o, .inr (0, [.ref am_o])), (am_o, .inl (cJ, 64, .inr (.inl om))), (bs_o, .inr (0, [.ref ap_o])), (ap_o, .inl (cJ, 64, .inr (.inl os)))] sz) [(q, .inr (6, [.ref s0, .ref s1, .ref s2])), (s1, .inr (3, [.ref tq, .ref rq, .ref uq])), (tq, .inr (4, [.ref ca, .long sm, .int (oI lo)])), (ca, .inl (cJ, 64, .inr (.inl fc))), (rq, .inr (5, [.ref rb])), (rb, .inr (0, [.ref rd])), (rd, .inl (cJ, 128, .inr (.inl ft))), (uq, .inr (1, [.ref bm, .ref bs])), (bm, .inr (0, [.ref am])), (am, .inl (cJ, 64, .inr (.inl fm))), (bs, .inr (0, [.ref ap])), (ap, .inl (cJ, 64, .inr (.inl fs))), (s0, .inr (3, [.ref tq_o, .ref rq_o, .ref uq_o])), (tq_o, .inr (4, [.ref ca_o, .long osm, .int (oI olo)])), (ca_o, .inl (cJ, 64, .inr (.inl oc))), (rq_o, .inr (5, [.ref rb_o])), (rb_o, .inr (0, [.ref rd_o])), (rd_o, .inl (cJ, 128, .inr (.inl ot))), (uq_o, .inr (1, [.ref bm_o, .ref bs_o])), (bm_o, .inr (0, [.ref am_o])), (am_o, .inl (cJ, 64, .inr (.inl om))), (bs_o, .inr (0, [.ref ap_o])), (ap_o, .inl (cJ, 64, .inr (.inl os)))]) (va_A [(q, .inr (6, [.ref s0, .ref s1, .ref s2])), (s1, .inr (3, [.ref tq, .ref rq, .ref uq])), (tq, .inr (4, [.ref ca, .long sm, .int (oI lo)])), (ca, .inl (cJ, 64, .inr (.inl fc))), (rq, .inr (5, [.ref rb])), (rb, .inr (0, [.ref rd])), (rd, .inl (cJ, 128, .inr (.inl ft))), (uq, .inr (1, [.ref bm, .ref bs])), (bm, .inr (0, [.ref am])), (am, .inl (cJ, 64, .inr (.inl fm))), (bs, .inr (0, [.ref ap])), (ap, .inl (cJ, 64, .inr (.inl fs))), (s0, .inr (3, [.ref tq_o, .ref rq_o, .ref uq_o])), (tq_o, .inr (4, [.ref ca_o, .long osm, .int (oI olo)])), (ca_o, .inl (cJ, 64, .inr (.inl oc))), (rq_o, .inr (5, [.ref rb_o])), (rb_o, .inr (0, [.ref rd_o])), (rd_o, .inl (cJ, 128, .inr (.inl ot))), (uq_o, .inr (1, [.ref bm_o, .ref bs_o])), (bm_o, .inr (0, [.ref am_o])), (am_o, .inl (cJ, 64, .inr (.inl om))), (bs_o, .inr (0, [.ref ap_o])), (ap_o, .inl (cJ, 64, .inr (.inl os)))] sz)) 1 6 (va_A [(q, .inr (6, [.ref s0, .ref s1, .ref s2])), (s1, .inr (3, [.ref tq, .ref rq, .ref uq])), (tq, .inr (4, [.ref ca, .long sm, .int (oI lo)])), (ca, .inl (cJ, 64, .inr (.inl fc))), (rq, .inr (5, [.ref rb])), (rb, .inr (0, [.ref rd])), (rd, .inl (cJ, 128, .inr (.inl ft))), (uq, .inr (1, [.ref bm, .ref bs])), (bm, .inr (0, [.ref am])), (am, .inl (cJ, 64, .inr (.inl fm))), (bs, .inr (0, [.ref ap])), (ap, .inl (cJ, 64, .inr (.inl fs))), (s0, .inr (3, [.ref tq_o, .ref rq_o, .ref uq_o])), (tq_o, .inr (4, [.ref ca_o, .long osm, .int (oI olo)])), (ca_o, .inl (cJ, 64, .inr (.inl oc))), (rq_o, .inr (5, [.ref rb_o])), (rb_o, .inr (0, [.ref rd_o])), (rd_o, .inl (cJ, 128, .inr (.inl ot))), (uq_o, .inr (1, [.ref bm_o, .ref bs_o])), (bm_o, .inr (0, [.ref am_o])), (am_o, .inl (cJ, 64, .inr (.inl om))), (bs_o, .inr (0, [.ref ap_o])), (ap_o, .inl (cJ, 64, .inr (.inl os)))] sz) := by
  refine va_MetW (cc := cL_insertAll) (maxL := 5) (ret := (some .int)) (hh := [(0, 10, 13, 13), (0, 10, 17, 25)]) (by decide) rfl ?_
  intro p e s m args below meth c s₁ B hml hv
  obtain ⟨rfl, nw0, hT, hNc0, hsz, hP, hK, hD0⟩ := hv
  have hx := B.exec
  have hb := B.bytes
  have hr := B.returns
  have hts := atoms_spec (ws := wsL_insertAll) B.pre
  have hown : s.vm.findClass RL = some m.cls := findClass_of_methodNamed B.named
  have hlocks := B.notSynchronized
  have htab : c.exceptionTable.toList = tableOf [(0, 10, 13, 13), (0, 10, 17, 25)] := vx_table (x := yL_insertAll) B (hts _ List.mem_cons_self)
  subst hsz
  have hD := hD0.self (sz := s.heap.size)
  generalize hAe : va_A [(q, .inr (6, [.ref s0, .ref s1, .ref s2])), (s1, .inr (3, [.ref tq, .ref rq, .ref uq])), (tq, .inr (4, [.ref ca, .long sm, .int (oI lo)])), (ca, .inl (cJ, 64, .inr (.inl fc))), (rq, .inr (5, [.ref rb])), (rb, .inr (0, [.ref rd])), (rd, .inl (cJ, 128, .inr (.inl ft))), (uq, .inr (1, [.ref bm, .ref bs])), (bm, .inr (0, [.ref am])), (am, .inl (cJ, 64, .inr (.inl fm))), (bs, .inr (0, [.ref ap])), (ap, .inl (cJ, 64, .inr (.inl fs))), (s0, .inr (3, [.ref tq_o, .ref rq_o, .ref uq_o])), (tq_o, .inr (4, [.ref ca_o, .long osm, .int (oI olo)])), (ca_o, .inl (cJ, 64, .inr (.inl oc))), (rq_o, .inr (5, [.ref rb_o])), (rb_o, .inr (0, [.ref rd_o])), (rd_o, .inl (cJ, 128, .inr (.inl ot))), (uq_o, .inr (1, [.ref bm_o, .ref bs_o])), (bm_o, .inr (0, [.ref am_o])), (am_o, .inl (cJ, 64, .inr (.inl om))), (bs_o, .inr (0, [.ref ap_o])), (ap_o, .inl (cJ, 64, .inr (.inl os)))] s.heap.size = A at hD ⊢
  have hA : ∀ q : Nat, s.heap.size ≤ q → A q := fun q h => by rw [← hAe]; exact Or.inr h
  have hS : va_S A s.heap s.heap [] := va_S.rf
  have hP : va_P (dC, dI) vwCl [(q, .inr (6, [.ref s0, .ref s1, .ref s2])), (s1, .inr (3, [.ref tq, .ref rq, .ref uq])), (tq, .inr (4, [.ref ca, .long sm, .int (oI lo)])), (ca, .inl (cJ, 64, .inr (.inl fc))), (rq, .inr (5, [.ref rb])), (rb, .inr (0, [.ref rd])), (rd, .inl (cJ, 128, .inr (.inl ft))), (uq, .inr (1, [.ref bm, .ref bs])), (bm, .inr (0, [.ref am])), (am, .inl (cJ, 64, .inr (.inl fm))), (bs, .inr (0, [.ref ap])), (ap, .inl (cJ, 64, .inr (.inl fs))), (s0, .inr (3, [.ref tq_o, .ref rq_o, .ref uq_o])), (tq_o, .inr (4, [.ref ca_o, .long osm, .int (oI olo)])), (ca_o, .inl (cJ, 64, .inr (.inl oc))), (rq_o, .inr (5, [.ref rb_o])), (rb_o, .inr (0, [.ref rd_o])), (rd_o, .inl (cJ, 128, .inr (.inl ot))), (uq_o, .inr (1, [.ref bm_o, .ref bs_o])), (bm_o, .inr (0, [.ref am_o])), (am_o, .inl (cJ, 64, .inr (.inl om))), (bs_o, .inr (0, [.ref ap_o])), (ap_o, .inl (cJ, 64, .inr (.inl os)))] s.heap := hP
  have hl := lv_entry ([.ref q, .int (nI 1), .int (nI 0), .ref oq]) (n := 5) (Nat.le_of_ble_eq_true rfl)
  rw [lg_entry_eq]
  generalize (lg_sl ([.ref q, .int (nI 1), .int (nI 0), .ref oq]) ++ List.replicate (5 - (lg_sl ([.ref q, .int (nI 1), .int (nI 0), .ref oq])).length) Slot.unset).toArray = ls at hl ⊢
  have hl : lv_has ls 5 [(0, .ref q), (1, .int (nI 1)), (2, .int (nI 0)), (3, .ref oq)] := hl
  refine lv_aload_n hx hb dL_insertAll_0 rfl (lv_at hl 3 rfl) ?_
  refine lv_iconst (v := nI 0) hx hb dL_insertAll_1 (by decide +kernel) ?_
  refine lv_aload_n hx hb dL_insertAll_2 rfl (lv_at hl 0 rfl) ?_
  refine lv_iload_n hx hb dL_insertAll_3 rfl (lv_at hl 1 rfl) ?_
  refine lv_iload_n hx hb dL_insertAll_4 rfl (lv_at hl 2 rfl) ?_
  have hPc := hP.sub (ws' := [(q, .inr (6, [.ref s0, .ref s1, .ref s2])), (s1, .inr (3, [.ref tq, .ref rq, .ref uq])), (tq, .inr (4, [.ref ca, .long sm, .int (oI lo)])), (ca, .inl (cJ, 64, .inr (.inl fc))), (rq, .inr (5, [.ref rb])), (rb, .inr (0, [.ref rd])), (rd, .inl (cJ, 128, .inr (.inl ft))), (uq, .inr (1, [.ref bm, .ref bs])), (bm, .inr (0, [.ref am])), (am, .inl (cJ, 64, .inr (.inl fm))), (bs, .inr (0, [.ref ap])), (ap, .inl (cJ, 64, .inr (.inl fs))), (s0, .inr (3, [.ref tq_o, .ref rq_o, .ref uq_o])), (tq_o, .inr (4, [.ref ca_o, .long osm, .int (oI olo)])), (ca_o, .inl (cJ, 64, .inr (.inl oc))), (rq_o, .inr (5, [.ref rb_o])), (rb_o, .inr (0, [.ref rd_o])), (rd_o, .inl (cJ, 128, .inr (.inl ot))), (uq_o, .inr (1, [.ref bm_o, .ref bs_o])), (bm_o, .inr (0, [.ref am_o])), (am_o, .inl (cJ, 64, .inr (.inl om))), (bs_o, .inr (0, [.ref ap_o])), (ap_o, .inl (cJ, 64, .inr (.inl os)))]) [0, 1, 2, 3, 4, 5, 6, 7, 8, 9, 10, 11, 12, 13, 14, 15, 16, 17, 18, 19, 20, 21, 22] rfl
  have hKc := hK.sub (tys' := [(cJ, .long)]) [0] rfl
  have hDc := hD.sub (ws' := [(q, .inr (6, [.ref s0, .ref s1, .ref s2])), (s1, .inr (3, [.ref tq, .ref rq, .ref uq])), (tq, .inr (4, [.ref ca, .long sm, .int (oI lo)])), (ca, .inl (cJ, 64, .inr (.inl fc))), (rq, .inr (5, [.ref rb])), (rb, .inr (0, [.ref rd])), (rd, .inl (cJ, 128, .inr (.inl ft))), (uq, .inr (1, [.ref bm, .ref bs])), (bm, .inr (0, [.ref am])), (am, .inl (cJ, 64, .inr (.inl fm))), (bs, .inr (0, [.ref ap])), (ap, .inl (cJ, 64, .inr (.inl fs))), (s0, .inr (3, [.ref tq_o, .ref rq_o, .ref uq_o])), (tq_o, .inr (4, [.ref ca_o, .long osm, .int (oI olo)])), (ca_o, .inl (cJ, 64, .inr (.inl oc))), (rq_o, .inr (5, [.ref rb_o])), (rb_o, .inr (0, [.ref rd_o])), (rd_o, .inl (cJ, 128, .inr (.inl ot))), (uq_o, .inr (1, [.ref bm_o, .ref bs_o])), (bm_o, .inr (0, [.ref am_o])), (am_o, .inl (cJ, 64, .inr (.inl om))), (bs_o, .inr (0, [.ref ap_o])), (ap_o, .inl (cJ, 64, .inr (.inl os)))]) [0, 1, 2, 3, 4, 5, 6, 7, 8, 9, 10, 11, 12, 13, 14, 15, 16, 17, 18, 19, 20, 21, 22] (by decide) rfl
  refine vx_callv (vx_runV (As := [.int (nI 1), .int (nI 0)]) (rest := [.int (nI 0), .ref oq]) ⟨hx, hb, hml, hown, hts⟩ (x_X7_insertAll_e10 l hls dC dI q s0 s1 s2 tq ca rq rb rd uq bm am bs ap cJ fm fs ft fc sm lo tq_o ca_o rq_o rb_o rd_o uq_o bm_o am_o bs_o ap_o om os ot oc osm olo sa s.heap.size (by first | assumption | omega) (by first | assumption | omega)) (cwV 2 hts gL_insertAll_X7_insertAll rfl rfl rfl (by decide +kernel) ⟨Nat.le_of_ble_eq_true rfl, Nat.le_of_ble_eq_true rfl⟩) ⟨fun a U g mk q => by obtain ⟨q0, nq0, q1, qT, qP, qK, qD⟩ := q; exact ⟨q0, va_Nw.same rfl (U := U.calling g mk a) rfl nq0, q1, TW.same (u := U) (U := U.calling g mk a) rfl qT, qP, va_K.moved (u := U) (U := U.calling g mk a) (Vm.Alike.refl U.vm) qK, qD⟩, va_recv hKc hPc (ci := 6) (q0 := 0) rfl rfl, fun U hU hW => ⟨rfl, va_Nw.warmF hW nw0, by rw [hU], by rw [hU]; exact TW.warm hW hT, by rw [hU]; exact hPc, va_K.moved hW.alike hKc, hDc.weaken (fun _ _ _ _ => trivial)⟩⟩ rfl rfl hl.1 rfl (lv_room (Nat.le_of_ble_eq_true rfl)) dL_insertAll_5 ⟨Nat.le_of_ble_eq_true rfl, Nat.le_of_ble_eq_true rfl⟩) hS (fun q h9 h8 => absurd h8 (Nat.not_le_of_lt h9)) (fun q h8 => hA q (Nat.le_trans hS.1 h8)) (fun q h9 h8 => absurd h8 (Nat.not_le_of_lt h9)) (fun E9 ce9 q9 u9 t9 H locs ht9 hvm9 hu9 hE9 hz9 hk9 hS hce9 hcv9 hcl9 => ?_) (fun u9 t9 H9 l9 ht9 hvm9 hu9 hB9 hz9 hk9 hS9 => hu9.elim)
  subst hE9
  have hP := hP.kept (H1 := H) (fun k q hk => hk9 _ (vx_lt hP hk) (Nat.not_le_of_lt (vx_lt hP hk)))
  refine vx_catch (name := "java/lang/IllegalStateException") hown [⟨0, 10, 13, 13⟩] ⟨0, 10, 17, 25⟩ [] (htab.trans rfl) (fun z hz => by rcases List.mem_cons.mp hz with rfl | hz; exact Or.inr ⟨by decide, "java/lang/IndexOutOfBoundsException", hts (.classLink RL 13 "java/lang/IndexOutOfBoundsException") (by decide +kernel), hNc0⟩; exact nomatch hz) rfl (by decide) (hts (.classLink RL 25 "java/lang/IllegalStateException") (by decide +kernel)) (va_Nw.use rfl hT.2.2.2.2.2.2) hce9 hcv9 hcl9 ?_
  refine W.cs (cells' := 1) (slots' := 6) rfl rfl ?_
  refine lv_astore (lv' := [(4, .ref q9), (0, .ref q), (1, .int (nI 1)), (2, .int (nI 0)), (3, .ref oq)]) hx hb dL_insertAll_17 hl (by decide) rfl (fun ls hl => ?_)
  refine lv_iconst (v := nI 2) hx hb dL_insertAll_19 (by decide +kernel) ?_
  have hP9 := hP.sub (ws' := [(q, .inr (6, [.ref s0, .ref s1, .ref s2])), (s1, .inr (3, [.ref tq, .ref rq, .ref uq])), (tq, .inr (4, [.ref ca, .long sm, .int (oI lo)])), (ca, .inl (cJ, 64, .inr (.inl fc))), (rq, .inr (5, [.ref rb])), (rb, .inr (0, [.ref rd])), (rd, .inl (cJ, 128, .inr (.inl ft))), (uq, .inr (1, [.ref bm, .ref bs])), (bm, .inr (0, [.ref am])), (am, .inl (cJ, 64, .inr (.inl fm))), (bs, .inr (0, [.ref ap])), (ap, .inl (cJ, 64, .inr (.inl fs))), (s0, .inr (3, [.ref tq_o, .ref rq_o, .ref uq_o])), (tq_o, .inr (4, [.ref ca_o, .long osm, .int (oI olo)])), (ca_o, .inl (cJ, 64, .inr (.inl oc))), (rq_o, .inr (5, [.ref rb_o])), (rb_o, .inr (0, [.ref rd_o])), (rd_o, .inl (cJ, 128, .inr (.inl ot))), (uq_o, .inr (1, [.ref bm_o, .ref bs_o])), (bm_o, .inr (0, [.ref am_o])), (am_o, .inl (cJ, 64, .inr (.inl om))), (bs_o, .inr (0, [.ref ap_o])), (ap_o, .inl (cJ, 64, .inr (.inl os)))]) [0, 1, 2, 3, 4, 5, 6, 7, 8, 9, 10, 11, 12, 13, 14, 15, 16, 17, 18, 19, 20, 21, 22] rfl
  have hD9 := hD.sub (ws' := [(q, .inr (6, [.ref s0, .ref s1, .ref s2])), (s1, .inr (3, [.ref tq, .ref rq, .ref uq])), (tq, .inr (4, [.ref ca, .long sm, .int (oI lo)])), (ca, .inl (cJ, 64, .inr (.inl fc))), (rq, .inr (5, [.ref rb])), (rb, .inr (0, [.ref rd])), (rd, .inl (cJ, 128, .inr (.inl ft))), (uq, .inr (1, [.ref bm, .ref bs])), (bm, .inr (0, [.ref am])), (am, .inl (cJ, 64, .inr (.inl fm))), (bs, .inr (0, [.ref ap])), (ap, .inl (cJ, 64, .inr (.inl fs))), (s0, .inr (3, [.ref tq_o, .ref rq_o, .ref uq_o])), (tq_o, .inr (4, [.ref ca_o, .long osm, .int (oI olo)])), (ca_o, .inl (cJ, 64, .inr (.inl oc))), (rq_o, .inr (5, [.ref rb_o])), (rb_o, .inr (0, [.ref rd_o])), (rd_o, .inl (cJ, 128, .inr (.inl ot))), (uq_o, .inr (1, [.ref bm_o, .ref bs_o])), (bm_o, .inr (0, [.ref am_o])), (am_o, .inl (cJ, 64, .inr (.inl om))), (bs_o, .inr (0, [.ref ap_o])), (ap_o, .inl (cJ, 64, .inr (.inl os)))]) [0, 1, 2, 3, 4, 5, 6, 7, 8, 9, 10, 11, 12, 13, 14, 15, 16, 17, 18, 19, 20, 21, 22] (by decide) rfl
  have hK9 := hK.sub (tys' := [(cJ, .long)]) [0] rfl
  exact W.iret (v := nI 2) hx hb hr (fun t9 ht hW => ⟨⟨nI 2, (), rfl, rfl, by rw [ht]; exact hP9, va_K.moved hW.alike hK9, hD9⟩, hS.F ht⟩) hS.2.2 dL_insertAll_20
set_option maxHeartbeats 4000000 in
set_option maxRecDepth 100000 in
/-- law: insertAll, insertAll_e11 -/
theorem c_L_insertAll_e11 (l : Launch) (hls : l.stackTraces = false) (dC : Nat → ClassId) (dI : Nat → Nat → Nat) (q : Nat) (s0 : Nat) (s1 : Nat) (s2 : Nat) (tq : Nat) (ca : Nat) (rq : Nat) (rb : Nat) (rd : Nat) (uq : Nat) (bm : Nat) (am : Nat) (bs : Nat) (ap : Nat) (cJ : ClassId) (fm : Nat → Int64) (fs : Nat → Int64) (ft : Nat → Int64) (fc : Nat → Int64) (sm : Int64) (lo : Option Nat) (oq : Nat) (sa : Nat) (sz : Nat) (hN : NI fm fs ft fc sm lo) (hn30 : 30 < fb_ct (bo fm) 4096) : Met l yL_insertAll wsL_insertAll ({ frames := 7, cells := 1, slots := 6, locals := 109 }) (va_Pc [.ref q, .int (nI 1), .int (nI 1), .ref oq] (fun U => va_Nw (.fieldLinkNest RX7 38 "SmallNumberSets$NumberSet" "buckets" "LSmallNumberSets$Buckets;" "SmallNumberSets") U ∧ TW "java/lang/IllegalStateException" 50 "the other set has too many members" sa (fun q => sz ≤ q) U U.heap ∧ va_Nc "java/lang/IllegalStateException" "java/lang/IndexOutOfBoundsException" U ∧ U.heap.size = sz ∧ va_P (dC, dI) vwCl [(q, .inr (6, [.ref s0, .ref s1, .ref s2])), (s1, .inr (3, [.ref tq, .ref rq, .ref uq])), (tq, .inr (4, [.ref ca, .long sm, .int (oI lo)])), (ca, .inl (cJ, 64, .inr (.inl fc))), (rq, .inr (5, [.ref rb])), (rb, .inr (0, [.ref rd])), (rd, .inl (cJ, 128, .inr (.inl ft))), (uq, .inr (1, [.ref bm, .ref bs])), (bm, .inr (0, [.ref am])), (am, .inl (cJ, 64, .inr (.inl fm))), (bs, .inr (0, [.ref ap])), (ap, .inl (cJ, 64, .inr (.inl fs)))] U.heap ∧ va_K (dC, dI) vwCl [(cJ, .long)] U ∧ va_D (fun _ => True) [(q, .inr (6, [.ref s0, .ref s1, .ref s2])), (s1, .inr (3, [.ref tq, .ref rq, .ref uq])), (tq, .inr (4, [.ref ca, .long sm, .int (oI lo)])), (ca, .inl (cJ, 64, .inr (.inl fc))), (rq, .inr (5, [.ref rb])), (rb, .inr (0, [.ref rd])), (rd, .inl (cJ, 128, .inr (.inl ft))), (uq, .inr (1, [.ref bm, .ref bs])), (bm, .inr (0, [.ref am])), (am, .inl (cJ, 64, .inr (.inl fm))), (bs, .inr (0, [.ref ap])), (ap, .inl (cJ, 64, .inr (.inl fs)))])) (va_Qi (fun (r : Int32) (u : Unit) => r = nI 2) (fun (u : Unit) (t : State) => va_P (dC, dI) vwCl [(q, .inr (6, [.ref s0, .ref s1, .ref s2])), (s1, .inr (3, [.ref tq, .ref rq, .ref uq])), (tq, .inr (4, [.ref ca, .long sm, .int (oI lo)])), (ca, .inl (cJ, 64, .inr (.inl fc))), (rq, .inr (5, [.ref rb])), (rb, .inr (0, [.ref rd])), (rd, .inl (cJ, 128, .inr (.inl ft))), (uq, .inr (1, [.ref bm, .ref bs])), (bm, .inr (0, [.ref am])), (am, .inl (cJ, 64, .inr (.inl fm))), (bs, .inr (0, [.ref ap])), (ap, .inl (cJ, 64, .inr (.inl fs)))] t.heap ∧ va_K (dC, dI) vwCl [(cJ, .long)] t ∧ va_D (va_A [(q, .inr (6, [.ref s0, .ref s1, .ref s2])), (s1, .inr (3, [.ref tq, .ref rq, .ref uq])), (tq, .inr (4, [.ref ca, .long sm, .int (oI lo)])), (ca, .inl (cJ, 64, .inr (.inl fc))), (rq, .inr (5, [.ref rb])), (rb, .inr (0, [.ref rd])), (rd, .inl (cJ, 128, .inr (.inl ft))), (uq, .inr (1, [.ref bm, .ref bs])), (bm, .inr (0, [.ref am])), (am, .inl (cJ, 64, .inr (.inl fm))), (bs, .inr (0, [.ref ap])), (ap, .inl (cJ, 64, .inr (.inl fs)))] sz) [(q, .inr (6, [.ref s0, .ref s1, .ref s2])), (s1, .inr (3, [.ref tq, .ref rq, .ref uq])), (tq, .inr (4, [.ref ca, .long sm, .int (oI lo)])), (ca, .inl (cJ, 64, .inr (.inl fc))), (rq, .inr (5, [.ref rb])), (rb, .inr (0, [.ref rd])), (rd, .inl (cJ, 128, .inr (.inl ft))), (uq, .inr (1, [.ref bm, .ref bs])), (bm, .inr (0, [.ref am])), (am, .inl (cJ, 64, .inr (.inl fm))), (bs, .inr (0, [.ref ap])), (ap, .inl (cJ, 64, .inr (.inl fs)))]) (va_A [(q, .inr (6, [.ref s0, .ref s1, .ref s2])), (s1, .inr (3, [.ref tq, .ref rq, .ref uq])), (tq, .inr (4, [.ref ca, .long sm, .int (oI lo)])), (ca, .inl (cJ, 64, .inr (.inl fc))), (rq, .inr (5, [.ref rb])), (rb, .inr (0, [.ref rd])), (rd, .inl (cJ, 128, .inr (.inl ft))), (uq, .inr (1, [.ref bm, .ref bs])), (bm, .inr (0, [.ref am])), (am, .inl (cJ, 64, .inr (.inl fm))), (bs, .inr (0, [.ref ap])), (ap, .inl (cJ, 64, .inr (.inl fs)))] sz)) 1 6 (va_A [(q, .inr (6, [.ref s0, .ref s1, .ref s2])), (s1, .inr (3, [.ref tq, .ref rq, .ref uq])), (tq, .inr (4, [.ref ca, .long sm, .int (oI lo)])), (ca, .inl (cJ, 64, .inr (.inl fc))), (rq, .inr (5, [.ref rb])), (rb, .inr (0, [.ref rd])), (rd, .inl (cJ, 128, .inr (.inl ft))), (uq, .inr (1, [.ref bm, .ref bs])), (bm, .inr (0, [.ref am])), (am, .inl (cJ, 64, .inr (.inl fm))), (bs, .inr (0, [.ref ap])), (ap, .inl (cJ, 64, .inr (.inl fs)))] sz) := by
  refine va_MetW (cc := cL_insertAll) (maxL := 5) (ret := (some .int)) (hh := [(0, 10, 13, 13), (0, 10, 17, 25)]) (by decide) rfl ?_
  intro p e s m args below meth c s₁ B hml hv
  obtain ⟨rfl, nw0, hT, hNc0, hsz, hP, hK, hD0⟩ := hv
  have hx := B.exec
  have hb := B.bytes
  have hr := B.returns
  have hts := atoms_spec (ws := wsL_insertAll) B.pre
  have hown : s.vm.findClass RL = some m.cls := findClass_of_methodNamed B.named
  have hlocks := B.notSynchronized
  have htab : c.exceptionTable.toList = tableOf [(0, 10, 13, 13), (0, 10, 17, 25)] := vx_table (x := yL_insertAll) B (hts _ List.mem_cons_self)
  subst hsz
  have hD := hD0.self (sz := s.heap.size)
  generalize hAe : va_A [(q, .inr (6, [.ref s0, .ref s1, .ref s2])), (s1, .inr (3, [.ref tq, .ref rq, .ref uq])), (tq, .inr (4, [.ref ca, .long sm, .int (oI lo)])), (ca, .inl (cJ, 64, .inr (.inl fc))), (rq, .inr (5, [.ref rb])), (rb, .inr (0, [.ref rd])), (rd, .inl (cJ, 128, .inr (.inl ft))), (uq, .inr (1, [.ref bm, .ref bs])), (bm, .inr (0, [.ref am])), (am, .inl (cJ, 64, .inr (.inl fm))), (bs, .inr (0, [.ref ap])), (ap, .inl (cJ, 64, .inr (.inl fs)))] s.heap.size = A at hD ⊢
  have hA : ∀ q : Nat, s.heap.size ≤ q → A q := fun q h => by rw [← hAe]; exact Or.inr h
  have hS : va_S A s.heap s.heap [] := va_S.rf
  have hP : va_P (dC, dI) vwCl [(q, .inr (6, [.ref s0, .ref s1, .ref s2])), (s1, .inr (3, [.ref tq, .ref rq, .ref uq])), (tq, .inr (4, [.ref ca, .long sm, .int (oI lo)])), (ca, .inl (cJ, 64, .inr (.inl fc))), (rq, .inr (5, [.ref rb])), (rb, .inr (0, [.ref rd])), (rd, .inl (cJ, 128, .inr (.inl ft))), (uq, .inr (1, [.ref bm, .ref bs])), (bm, .inr (0, [.ref am])), (am, .inl (cJ, 64, .inr (.inl fm))), (bs, .inr (0, [.ref ap])), (ap, .inl (cJ, 64, .inr (.inl fs)))] s.heap := hP
  have hl := lv_entry ([.ref q, .int (nI 1), .int (nI 1), .ref oq]) (n := 5) (Nat.le_of_ble_eq_true rfl)
  rw [lg_entry_eq]
  generalize (lg_sl ([.ref q, .int (nI 1), .int (nI 1), .ref oq]) ++ List.replicate (5 - (lg_sl ([.ref q, .int (nI 1), .int (nI 1), .ref oq])).length) Slot.unset).toArray = ls at hl ⊢
  have hl : lv_has ls 5 [(0, .ref q), (1, .int (nI 1)), (2, .int (nI 1)), (3, .ref oq)] := hl
  refine lv_aload_n hx hb dL_insertAll_0 rfl (lv_at hl 3 rfl) ?_
  refine lv_iconst (v := nI 0) hx hb dL_insertAll_1 (by decide +kernel) ?_
  refine lv_aload_n hx hb dL_insertAll_2 rfl (lv_at hl 0 rfl) ?_
  refine lv_iload_n hx hb dL_insertAll_3 rfl (lv_at hl 1 rfl) ?_
  refine lv_iload_n hx hb dL_insertAll_4 rfl (lv_at hl 2 rfl) ?_
  have hPc := hP.sub (ws' := [(q, .inr (6, [.ref s0, .ref s1, .ref s2])), (s1, .inr (3, [.ref tq, .ref rq, .ref uq])), (tq, .inr (4, [.ref ca, .long sm, .int (oI lo)])), (ca, .inl (cJ, 64, .inr (.inl fc))), (rq, .inr (5, [.ref rb])), (rb, .inr (0, [.ref rd])), (rd, .inl (cJ, 128, .inr (.inl ft))), (uq, .inr (1, [.ref bm, .ref bs])), (bm, .inr (0, [.ref am])), (am, .inl (cJ, 64, .inr (.inl fm))), (bs, .inr (0, [.ref ap])), (ap, .inl (cJ, 64, .inr (.inl fs)))]) [0, 1, 2, 3, 4, 5, 6, 7, 8, 9, 10, 11] rfl
  have hKc := hK.sub (tys' := [(cJ, .long)]) [0] rfl
  have hDc := hD.sub (ws' := [(q, .inr (6, [.ref s0, .ref s1, .ref s2])), (s1, .inr (3, [.ref tq, .ref rq, .ref uq])), (tq, .inr (4, [.ref ca, .long sm, .int (oI lo)])), (ca, .inl (cJ, 64, .inr (.inl fc))), (rq, .inr (5, [.ref rb])), (rb, .inr (0, [.ref rd])), (rd, .inl (cJ, 128, .inr (.inl ft))), (uq, .inr (1, [.ref bm, .ref bs])), (bm, .inr (0, [.ref am])), (am, .inl (cJ, 64, .inr (.inl fm))), (bs, .inr (0, [.ref ap])), (ap, .inl (cJ, 64, .inr (.inl fs)))]) [0, 1, 2, 3, 4, 5, 6, 7, 8, 9, 10, 11] (by decide) rfl
  refine vx_callv (vx_runV (As := [.int (nI 1), .int (nI 1)]) (rest := [.int (nI 0), .ref oq]) ⟨hx, hb, hml, hown, hts⟩ (x_X7_insertAll_e11 l hls dC dI q s0 s1 s2 tq ca rq rb rd uq bm am bs ap cJ fm fs ft fc sm lo sa s.heap.size (by first | assumption | omega) (by first | assumption | omega)) (cwV 2 hts gL_insertAll_X7_insertAll rfl rfl rfl (by decide +kernel) ⟨Nat.le_of_ble_eq_true rfl, Nat.le_of_ble_eq_true rfl⟩) ⟨fun a U g mk q => by obtain ⟨q0, nq0, q1, qT, qP, qK, qD⟩ := q; exact ⟨q0, va_Nw.same rfl (U := U.calling g mk a) rfl nq0, q1, TW.same (u := U) (U := U.calling g mk a) rfl qT, qP, va_K.moved (u := U) (U := U.calling g mk a) (Vm.Alike.refl U.vm) qK, qD⟩, va_recv hKc hPc (ci := 6) (q0 := 0) rfl rfl, fun U hU hW => ⟨rfl, va_Nw.warmF hW nw0, by rw [hU], by rw [hU]; exact TW.warm hW hT, by rw [hU]; exact hPc, va_K.moved hW.alike hKc, hDc.weaken (fun _ _ _ _ => trivial)⟩⟩ rfl rfl hl.1 rfl (lv_room (Nat.le_of_ble_eq_true rfl)) dL_insertAll_5 ⟨Nat.le_of_ble_eq_true rfl, Nat.le_of_ble_eq_true rfl⟩) hS (fun q h9 h8 => absurd h8 (Nat.not_le_of_lt h9)) (fun q h8 => hA q (Nat.le_trans hS.1 h8)) (fun q h9 h8 => absurd h8 (Nat.not_le_of_lt h9)) (fun E9 ce9 q9 u9 t9 H locs ht9 hvm9 hu9 hE9 hz9 hk9 hS hce9 hcv9 hcl9 => ?_) (fun u9 t9 H9 l9 ht9 hvm9 hu9 hB9 hz9 hk9 hS9 => hu9.elim)
  subst hE9
  have hP := hP.kept (H1 := H) (fun k q hk => hk9 _ (vx_lt hP hk) (Nat.not_le_of_lt (vx_lt hP hk)))
  refine vx_catch (name := "java/lang/IllegalStateException") hown [⟨0, 10, 13, 13⟩] ⟨0, 10, 17, 25⟩ [] (htab.trans rfl) (fun z hz => by rcases List.mem_cons.mp hz with rfl | hz; exact Or.inr ⟨by decide, "java/lang/IndexOutOfBoundsException", hts (.classLink RL 13 "java/lang/IndexOutOfBoundsException") (by decide +kernel), hNc0⟩; exact nomatch hz) rfl (by decide) (hts (.classLink RL 25 "java/lang/IllegalStateException") (by decide +kernel)) (va_Nw.use rfl hT.2.2.2.2.2.2) hce9 hcv9 hcl9 ?_
  refine W.cs (cells' := 1) (slots' := 6) rfl rfl ?_
  refine lv_astore (lv' := [(4, .ref q9), (0, .ref q), (1, .int (nI 1)), (2, .int (nI 1)), (3, .ref oq)]) hx hb dL_insertAll_17 hl (by decide) rfl (fun ls hl => ?_)
  refine lv_iconst (v := nI 2) hx hb dL_insertAll_19 (by decide +kernel) ?_
  have hP9 := hP.sub (ws' := [(q, .inr (6, [.ref s0, .ref s1, .ref s2])), (s1, .inr (3, [.ref tq, .ref rq, .ref uq])), (tq, .inr (4, [.ref ca, .long sm, .int (oI lo)])), (ca, .inl (cJ, 64, .inr (.inl fc))), (rq, .inr (5, [.ref rb])), (rb, .inr (0, [.ref rd])), (rd, .inl (cJ, 128, .inr (.inl ft))), (uq, .inr (1, [.ref bm, .ref bs])), (bm, .inr (0, [.ref am])), (am, .inl (cJ, 64, .inr (.inl fm))), (bs, .inr (0, [.ref ap])), (ap, .inl (cJ, 64, .inr (.inl fs)))]) [0, 1, 2, 3, 4, 5, 6, 7, 8, 9, 10, 11] rfl
  have hD9 := hD.sub (ws' := [(q, .inr (6, [.ref s0, .ref s1, .ref s2])), (s1, .inr (3, [.ref tq, .ref rq, .ref uq])), (tq, .inr (4, [.ref ca, .long sm, .int (oI lo)])), (ca, .inl (cJ, 64, .inr (.inl fc))), (rq, .inr (5, [.ref rb])), (rb, .inr (0, [.ref rd])), (rd, .inl (cJ, 128, .inr (.inl ft))), (uq, .inr (1, [.ref bm, .ref bs])), (bm, .inr (0, [.ref am])), (am, .inl (cJ, 64, .inr (.inl fm))), (bs, .inr (0, [.ref ap])), (ap, .inl (cJ, 64, .inr (.inl fs)))]) [0, 1, 2, 3, 4, 5, 6, 7, 8, 9, 10, 11] (by decide) rfl
  have hK9 := hK.sub (tys' := [(cJ, .long)]) [0] rfl
  exact W.iret (v := nI 2) hx hb hr (fun t9 ht hW => ⟨⟨nI 2, (), rfl, rfl, by rw [ht]; exact hP9, va_K.moved hW.alike hK9, hD9⟩, hS.F ht⟩) hS.2.2 dL_insertAll_20
set_option maxHeartbeats 4000000 in
set_option maxRecDepth 100000 in
/-- law: insertAll, insertAll_e12 -/
theorem c_L_insertAll_e12 (l : Launch) (hls : l.stackTraces = false) (dC : Nat → ClassId) (dI : Nat → Nat → Nat) (q : Nat) (s0 : Nat) (s1 : Nat) (s2 : Nat) (tq : Nat) (ca : Nat) (rq : Nat) (rb : Nat) (rd : Nat) (uq : Nat) (bm : Nat) (am : Nat) (bs : Nat) (ap : Nat) (cJ : ClassId) (fm : Nat → Int64) (fs : Nat → Int64) (ft : Nat → Int64) (fc : Nat → Int64) (sm : Int64) (lo : Option Nat) (tq_o : Nat) (ca_o : Nat) (rq_o : Nat) (rb_o : Nat) (rd_o : Nat) (uq_o : Nat) (bm_o : Nat) (am_o : Nat) (bs_o : Nat) (ap_o : Nat) (om : Nat → Int64) (os : Nat → Int64) (ot : Nat → Int64) (oc : Nat → Int64) (osm : Int64) (olo : Option Nat) (oq : Nat) (sa : Nat) (sz : Nat) (hN : NI fm fs ft fc sm lo) (hn30 : 30 < fb_ct (bo om) 4096) : Met l yL_insertAll wsL_insertAll ({ frames := 7, cells := 1, slots := 6, locals := 109 }) (va_Pc [.ref q, .int (nI 1), .int (nI 2), .ref oq] (fun U => va_Nw (.fieldLinkNest RX7 38 "SmallNumberSets$NumberSet" "buckets" "LSmallNumberSets$Buckets;" "SmallNumberSets") U ∧ TW "java/lang/IllegalStateException" 50 "the other set has too many members" sa (fun q => sz ≤ q) U U.heap ∧ va_Nc "java/lang/IllegalStateException" "java/lang/IndexOutOfBoundsException" U ∧ U.heap.size = sz ∧ va_P (dC, dI) vwCl [(q, .inr (6, [.ref s0, .ref s1, .ref s2])), (s1, .inr (3, [.ref tq, .ref rq, .ref uq])), (tq, .inr (4, [.ref ca, .long sm, .int (oI lo)])), (ca, .inl (cJ, 64, .inr (.inl fc))), (rq, .inr (5, [.ref rb])), (rb, .inr (0, [.ref rd])), (rd, .inl (cJ, 128, .inr (.inl ft))), (uq, .inr (1, [.ref bm, .ref bs])), (bm, .inr (0, [.ref am])), (am, .inl (cJ, 64, .inr (.inl fm))), (bs, .inr (0, [.ref ap])), (ap, .inl (cJ, 64, .inr (.inl fs))), (s2, .inr (3, [.ref tq_o, .ref rq_o, .ref uq_o])), (tq_o, .inr (4, [.ref ca_o, .long osm, .int (oI olo)])), (ca_o, .inl (cJ, 64, .inr (.inl oc))), (rq_o, .inr (5, [.ref rb_o])), (rb_o, .inr (0, [.ref rd_o])), (rd_o, .inl (cJ, 128, .inr (.inl ot))), (uq_o, .inr (1, [.ref bm_o, .ref bs_o])), (bm_o, .inr (0, [.ref am_o])), (am_o, .inl (cJ, 64, .inr (.inl om))), (bs_o, .inr (0, [.ref ap_o])), (ap_o, .inl (cJ, 64, .inr (.inl os)))] U.heap ∧ va_K (dC, dI) vwCl [(cJ, .long)] U ∧ va_D (fun _ => True) [(q, .inr (6, [.ref s0, .ref s1, .ref s2])), (s1, .inr (3, [.ref tq, .ref rq, .ref uq])), (tq, .inr (4, [.ref ca, .long sm, .int (oI lo)])), (ca, .inl (cJ, 64, .inr (.inl fc))), (rq, .inr (5, [.ref rb])), (rb, .inr (0, [.ref rd])), (rd, .inl (cJ, 128, .inr (.inl ft))), (uq, .inr (1, [.ref bm, .ref bs])), (bm, .inr (0, [.ref am])), (am, .inl (cJ, 64, .inr (.inl fm))), (bs, .inr (0, [.ref ap])), (ap, .inl (cJ, 64, .inr (.inl fs))), (s2, .inr (3, [.ref tq_o, .ref rq_o, .ref uq_o])), (tq_o, .inr (4, [.ref ca_o, .long osm, .int (oI olo)])), (ca_o, .inl (cJ, 64, .inr (.inl oc))), (rq_o, .inr (5, [.ref rb_o])), (rb_o, .inr (0, [.ref rd_o])), (rd_o, .inl (cJ, 128, .inr (.inl ot))), (uq_o, .inr (1, [.ref bm_o, .ref bs_o])), (bm_o, .inr (0, [.ref am_o])), (am_o, .inl (cJ, 64, .inr (.inl om))), (bs_o, .inr (0, [.ref ap_o])), (ap_o, .inl (cJ, 64, .inr (.inl os)))])) (va_Qi (fun (r : Int32) (u : Unit) => r = nI 2) (fun (u : Unit) (t : State) => va_P (dC, dI) vwCl [(q, .inr (6, [.ref s0, .ref s1, .ref s2])), (s1, .inr (3, [.ref tq, .ref rq, .ref uq])), (tq, .inr (4, [.ref ca, .long sm, .int (oI lo)])), (ca, .inl (cJ, 64, .inr (.inl fc))), (rq, .inr (5, [.ref rb])), (rb, .inr (0, [.ref rd])), (rd, .inl (cJ, 128, .inr (.inl ft))), (uq, .inr (1, [.ref bm, .ref bs])), (bm, .inr (0, [.ref am])), (am, .inl (cJ, 64, .inr (.inl fm))), (bs, .inr (0, [.ref ap])), (ap, .inl (cJ, 64, .inr (.inl fs))), (s2, .inr (3, [.ref tq_o, .ref rq_o, .ref uq_o])), (tq_o, .inr (4, [.ref ca_o, .long osm, .int (oI olo)])), (ca_o, .inl (cJ, 64, .inr (.inl oc))), (rq_o, .inr (5, [.ref rb_o])), (rb_o, .inr (0, [.ref rd_o])), (rd_o, .inl (cJ, 128, .inr (.inl ot))), (uq_o, .inr (1, [.ref bm_o, .ref bs_o])), (bm_o, .inr (0, [.ref am_o])), (am_o, .inl (cJ, 64, .inr (.inl om))), (bs_o, .inr (0, [.ref ap_o])), (ap_o, .inl (cJ, 64, .inr (.inl os)))] t.heap ∧ va_K (dC, dI) vwCl [(cJ, .long)] t ∧ va_D (va_A [(q, .inr (6, [.ref s0, .ref s1, .ref s2])), (s1, .inr (3, [.ref tq, .ref rq, .ref uq])), (tq, .inr (4, [.ref ca, .long sm, .int (oI lo)])), (ca, .inl (cJ, 64, .inr (.inl fc))), (rq, .inr (5, [.ref rb])), (rb, .inr (0, [.ref rd])), (rd, .inl (cJ, 128, .inr (.inl ft))), (uq, .inr (1, [.ref bm, .ref bs])), (bm, .inr (0, [.ref am])), (am, .inl (cJ, 64, .inr (.inl fm))), (bs, .inr (0, [.ref ap])), (ap, .inl (cJ, 64, .inr (.inl fs))), (s2, .inr (3, [.ref tq_o, .ref rq_o, .ref uq_o])), (tq_o, .inr (4, [.ref ca_o, .long osm, .int (oI olo)])), (ca_o, .inl (cJ, 64, .inr (.inl oc))), (rq_o, .inr (5, [.ref rb_o])), (rb_o, .inr (0, [.ref rd_o])), (rd_o, .inl (cJ, 128, .inr (.inl ot))), (uq_o, .inr (1, [.ref bm_o, .ref bs_o])), (bm_o, .inr (0, [.ref am_o])), (am_o, .inl (cJ, 64, .inr (.inl om))), (bs_o, .inr (0, [.ref ap_o])), (ap_o, .inl (cJ, 64, .inr (.inl os)))] sz) [(q, .inr (6, [.ref s0, .ref s1, .ref s2])), (s1, .inr (3, [.ref tq, .ref rq, .ref uq])), (tq, .inr (4, [.ref ca, .long sm, .int (oI lo)])), (ca, .inl (cJ, 64, .inr (.inl fc))), (rq, .inr (5, [.ref rb])), (rb, .inr (0, [.ref rd])), (rd, .inl (cJ, 128, .inr (.inl ft))), (uq, .inr (1, [.ref bm, .ref bs])), (bm, .inr (0, [.ref am])), (am, .inl (cJ, 64, .inr (.inl fm))), (bs, .inr (0, [.ref ap])), (ap, .inl (cJ, 64, .inr (.inl fs))), (s2, .inr (3, [.ref tq_o, .ref rq_o, .ref uq_o])), (tq_o, .inr (4, [.ref ca_o, .long osm, .int (oI olo)])), (ca_o, .inl (cJ, 64, .inr (.inl oc))), (rq_o, .inr (5, [.ref rb_o])), (rb_o, .inr (0, [.ref rd_o])), (rd_o, .inl (cJ, 128, .inr (.inl ot))), (uq_o, .inr (1, [.ref bm_o, .ref bs_o])), (bm_o, .inr (0, [.ref am_o])), (am_o, .inl (cJ, 64, .inr (.inl om))), (bs_o, .inr (0, [.ref ap_o])), (ap_o, .inl (cJ, 64, .inr (.inl os)))]) (va_A [(q, .inr (6, [.ref s0, .ref s1, .ref s2])), (s1, .inr (3, [.ref tq, .ref rq, .ref uq])), (tq, .inr (4, [.ref ca, .long sm, .int (oI lo)])), (ca, .inl (cJ, 64, .inr (.inl fc))), (rq, .inr (5, [.ref rb])), (rb, .inr (0, [.ref rd])), (rd, .inl (cJ, 128, .inr (.inl ft))), (uq, .inr (1, [.ref bm, .ref bs])), (bm, .inr (0, [.ref am])), (am, .inl (cJ, 64, .inr (.inl fm))), (bs, .inr (0, [.ref ap])), (ap, .inl (cJ, 64, .inr (.inl fs))), (s2, .inr (3, [.ref tq_o, .ref rq_o, .ref uq_o])), (tq_o, .inr (4, [.ref ca_o, .long osm, .int (oI olo)])), (ca_o, .inl (cJ, 64, .inr (.inl oc))), (rq_o, .inr (5, [.ref rb_o])), (rb_o, .inr (0, [.ref rd_o])), (rd_o, .inl (cJ, 128, .inr (.inl ot))), (uq_o, .inr (1, [.ref bm_o, .ref bs_o])), (bm_o, .inr (0, [.ref am_o])), (am_o, .inl (cJ, 64, .inr (.inl om))), (bs_o, .inr (0, [.ref ap_o])), (ap_o, .inl (cJ, 64, .inr (.inl os)))] sz)) 1 6 (va_A [(q, .inr (6, [.ref s0, .ref s1, .ref s2])), (s1, .inr (3, [.ref tq, .ref rq, .ref uq])), (tq, .inr (4, [.ref ca, .long sm, .int (oI lo)])), (ca, .inl (cJ, 64, .inr (.inl fc))), (rq, .inr (5, [.ref rb])), (rb, .inr (0, [.ref rd])), (rd, .inl (cJ, 128, .inr (.inl ft))), (uq, .inr (1, [.ref bm, .ref bs])), (bm, .inr (0, [.ref am])), (am, .inl (cJ, 64, .inr (.inl fm))), (bs, .inr (0, [.ref ap])), (ap, .inl (cJ, 64, .inr (.inl fs))), (s2, .inr (3, [.ref tq_o, .ref rq_o, .ref uq_o])), (tq_o, .inr (4, [.ref ca_o, .long osm, .int (oI olo)])), (ca_o, .inl (cJ, 64, .inr (.inl oc))), (rq_o, .inr (5, [.ref rb_o])), (rb_o, .inr (0, [.ref rd_o])), (rd_o, .inl (cJ, 128, .inr (.inl ot))), (uq_o, .inr (1, [.ref bm_o, .ref bs_o])), (bm_o, .inr (0, [.ref am_o])), (am_o, .inl (cJ, 64, .inr (.inl om))), (bs_o, .inr (0, [.ref ap_o])), (ap_o, .inl (cJ, 64, .inr (.inl os)))] sz) := by
  refine va_MetW (cc := cL_insertAll) (maxL := 5) (ret := (some .int)) (hh := [(0, 10, 13, 13), (0, 10, 17, 25)]) (by decide) rfl ?_
  intro p e s m args below meth c s₁ B hml hv
  obtain ⟨rfl, nw0, hT, hNc0, hsz, hP, hK, hD0⟩ := hv
  have hx := B.exec
  have hb := B.bytes
  have hr := B.returns
  have hts := atoms_spec (ws := wsL_insertAll) B.pre
  have hown : s.vm.findClass RL = some m.cls := findClass_of_methodNamed B.named
  have hlocks := B.notSynchronized
  have htab : c.exceptionTable.toList = tableOf [(0, 10, 13, 13), (0, 10, 17, 25)] := vx_table (x := yL_insertAll) B (hts _ List.mem_cons_self)
  subst hsz
  have hD := hD0.self (sz := s.heap.size)
  generalize hAe : va_A [(q, .inr (6, [.ref s0, .ref s1, .ref s2])), (s1, .inr (3, [.ref tq, .ref rq, .ref uq])), (tq, .inr (4, [.ref ca, .long sm, .int (oI lo)])), (ca, .inl (cJ, 64, .inr (.inl fc))), (rq, .inr (5, [.ref rb])), (rb, .inr (0, [.ref rd])), (rd, .inl (cJ, 128, .inr (.inl ft))), (uq, .inr (1, [.ref bm, .ref bs])), (bm, .inr (0, [.ref am])), (am, .inl (cJ, 64, .inr (.inl fm))), (bs, .inr (0, [.ref ap])), (ap, .inl (cJ, 64, .inr (.inl fs))), (s2, .inr (3, [.ref tq_o, .ref rq_o, .ref uq_o])), (tq_o, .inr (4, [.ref ca_o, .long osm, .int (oI olo)])), (ca_o, .inl (cJ, 64, .inr (.inl oc))), (rq_o, .inr (5, [.ref rb_o])), (rb_o, .inr (0, [.ref rd_o])), (rd_o, .inl (cJ, 128, .inr (.inl ot))), (uq_o, .inr (1, [.ref bm_o, .ref bs_o])), (bm_o, .inr (0, [.ref am_o])), (am_o, .inl (cJ, 64, .inr (.inl om))), (bs_o, .inr (0, [.ref ap_o])), (ap_o, .inl (cJ, 64, .inr (.inl os)))] s.heap.size = A at hD ⊢
  have hA : ∀ q : Nat, s.heap.size ≤ q → A q := fun q h => by rw [← hAe]; exact Or.inr h
  have hS : va_S A s.heap s.heap [] := va_S.rf
  have hP : va_P (dC, dI) vwCl [(q, .inr (6, [.ref s0, .ref s1, .ref s2])), (s1, .inr (3, [.ref tq, .ref rq, .ref uq])), (tq, .inr (4, [.ref ca, .long sm, .int (oI lo)])), (ca, .inl (cJ, 64, .inr (.inl fc))), (rq, .inr (5, [.ref rb])), (rb, .inr (0, [.ref rd])), (rd, .inl (cJ, 128, .inr (.inl ft))), (uq, .inr (1, [.ref bm, .ref bs])), (bm, .inr (0, [.ref am])), (am, .inl (cJ, 64, .inr (.inl fm))), (bs, .inr (0, [.ref ap])), (ap, .inl (cJ, 64, .inr (.inl fs))), (s2, .inr (3, [.ref tq_o, .ref rq_o, .ref uq_o])), (tq_o, .inr (4, [.ref ca_o, .long osm, .int (oI olo)])), (ca_o, .inl (cJ, 64, .inr (.inl oc))), (rq_o, .inr (5, [.ref rb_o])), (rb_o, .inr (0, [.ref rd_o])), (rd_o, .inl (cJ, 128, .inr (.inl ot))), (uq_o, .inr (1, [.ref bm_o, .ref bs_o])), (bm_o, .inr (0, [.ref am_o])), (am_o, .inl (cJ, 64, .inr (.inl om))), (bs_o, .inr (0, [.ref ap_o])), (ap_o, .inl (cJ, 64, .inr (.inl os)))] s.heap := hP
  have hl := lv_entry ([.ref q, .int (nI 1), .int (nI 2), .ref oq]) (n := 5) (Nat.le_of_ble_eq_true rfl)
  rw [lg_entry_eq]
  generalize (lg_sl ([.ref q, .int (nI 1), .int (nI 2), .ref oq]) ++ List.replicate (5 - (lg_sl ([.ref q, .int (nI 1), .int (nI 2), .ref oq])).length) Slot.unset).toArray = ls at hl ⊢
  have hl : lv_has ls 5 [(0, .ref q), (1, .int (nI 1)), (2, .int (nI 2)), (3, .ref oq)] := hl
  refine lv_aload_n hx hb dL_insertAll_0 rfl (lv_at hl 3 rfl) ?_
  refine lv_iconst (v := nI 0) hx hb dL_insertAll_1 (by decide +kernel) ?_
  refine lv_aload_n hx hb dL_insertAll_2 rfl (lv_at hl 0 rfl) ?_
  refine lv_iload_n hx hb dL_insertAll_3 rfl (lv_at hl 1 rfl) ?_
  refine lv_iload_n hx hb dL_insertAll_4 rfl (lv_at hl 2 rfl) ?_
  have hPc := hP.sub (ws' := [(q, .inr (6, [.ref s0, .ref s1, .ref s2])), (s1, .inr (3, [.ref tq, .ref rq, .ref uq])), (tq, .inr (4, [.ref ca, .long sm, .int (oI lo)])), (ca, .inl (cJ, 64, .inr (.inl fc))), (rq, .inr (5, [.ref rb])), (rb, .inr (0, [.ref rd])), (rd, .inl (cJ, 128, .inr (.inl ft))), (uq, .inr (1, [.ref bm, .ref bs])), (bm, .inr (0, [.ref am])), (am, .inl (cJ, 64, .inr (.inl fm))), (bs, .inr (0, [.ref ap])), (ap, .inl (cJ, 64, .inr (.inl fs))), (s2, .inr (3, [.ref tq_o, .ref rq_o, .ref uq_o])), (tq_o, .inr (4, [.ref ca_o, .long osm, .int (oI olo)])), (ca_o, .inl (cJ, 64, .inr (.inl oc))), (rq_o, .inr (5, [.ref rb_o])), (rb_o, .inr (0, [.ref rd_o])), (rd_o, .inl (cJ, 128, .inr (.inl ot))), (uq_o, .inr (1, [.ref bm_o, .ref bs_o])), (bm_o, .inr (0, [.ref am_o])), (am_o, .inl (cJ, 64, .inr (.inl om))), (bs_o, .inr (0, [.ref ap_o])), (ap_o, .inl (cJ, 64, .inr (.inl os)))]) [0, 1, 2, 3, 4, 5, 6, 7, 8, 9, 10, 11, 12, 13, 14, 15, 16, 17, 18, 19, 20, 21, 22] rfl
  have hKc := hK.sub (tys' := [(cJ, .long)]) [0] rfl
  have hDc := hD.sub (ws' := [(q, .inr (6, [.ref s0, .ref s1, .ref s2])), (s1, .inr (3, [.ref tq, .ref rq, .ref uq])), (tq, .inr (4, [.ref ca, .long sm, .int (oI lo)])), (ca, .inl (cJ, 64, .inr (.inl fc))), (rq, .inr (5, [.ref rb])), (rb, .inr (0, [.ref rd])), (rd, .inl (cJ, 128, .inr (.inl ft))), (uq, .inr (1, [.ref bm, .ref bs])), (bm, .inr (0, [.ref am])), (am, .inl (cJ, 64, .inr (.inl fm))), (bs, .inr (0, [.ref ap])), (ap, .inl (cJ, 64, .inr (.inl fs))), (s2, .inr (3, [.ref tq_o, .ref rq_o, .ref uq_o])), (tq_o, .inr (4, [.ref ca_o, .long osm, .int (oI olo)])), (ca_o, .inl (cJ, 64, .inr (.inl oc))), (rq_o, .inr (5, [.ref rb_o])), (rb_o, .inr (0, [.ref rd_o])), (rd_o, .inl (cJ, 128, .inr (.inl ot))), (uq_o, .inr (1, [.ref bm_o, .ref bs_o])), (bm_o, .inr (0, [.ref am_o])), (am_o, .inl (cJ, 64, .inr (.inl om))), (bs_o, .inr (0, [.ref ap_o])), (ap_o, .inl (cJ, 64, .inr (.inl os)))]) [0, 1, 2, 3, 4, 5, 6, 7, 8, 9, 10, 11, 12, 13, 14, 15, 16, 17, 18, 19, 20, 21, 22] (by decide) rfl
  refine vx_callv (vx_runV (As := [.int (nI 1), .int (nI 2)]) (rest := [.int (nI 0), .ref oq]) ⟨hx, hb, hml, hown, hts⟩ (x_X7_insertAll_e12 l hls dC dI q s0 s1 s2 tq ca rq rb rd uq bm am bs ap cJ fm fs ft fc sm lo tq_o ca_o rq_o rb_o rd_o uq_o bm_o am_o bs_o ap_o om os ot oc osm olo sa s.heap.size (by first | assumption | omega) (by first | assumption | omega)) (cwV 2 hts gL_insertAll_X7_insertAll rfl rfl rfl (by decide +kernel) ⟨Nat.le_of_ble_eq_true rfl, Nat.le_of_ble_eq_true rfl⟩) ⟨fun a U g mk q => by obtain ⟨q0, nq0, q1, qT, qP, qK, qD⟩ := q; exact ⟨q0, va_Nw.same rfl (U := U.calling g mk a) rfl nq0, q1, TW.same (u := U) (U := U.calling g mk a) rfl qT, qP, va_K.moved (u := U) (U := U.calling g mk a) (Vm.Alike.refl U.vm) qK, qD⟩, va_recv hKc hPc (ci := 6) (q0 := 0) rfl rfl, fun U hU hW => ⟨rfl, va_Nw.warmF hW nw0, by rw [hU], by rw [hU]; exact TW.warm hW hT, by rw [hU]; exact hPc, va_K.moved hW.alike hKc, hDc.weaken (fun _ _ _ _ => trivial)⟩⟩ rfl rfl hl.1 rfl (lv_room (Nat.le_of_ble_eq_true rfl)) dL_insertAll_5 ⟨Nat.le_of_ble_eq_true rfl, Nat.le_of_ble_eq_true rfl⟩) hS (fun q h9 h8 => absurd h8 (Nat.not_le_of_lt h9)) (fun q h8 => hA q (Nat.le_trans hS.1 h8)) (fun q h9 h8 => absurd h8 (Nat.not_le_of_lt h9)) (fun E9 ce9 q9 u9 t9 H locs ht9 hvm9 hu9 hE9 hz9 hk9 hS hce9 hcv9 hcl9 => ?_) (fun u9 t9 H9 l9 ht9 hvm9 hu9 hB9 hz9 hk9 hS9 => hu9.elim)
  subst hE9
  have hP := hP.kept (H1 := H) (fun k q hk => hk9 _ (vx_lt hP hk) (Nat.not_le_of_lt (vx_lt hP hk)))
  refine vx_catch (name := "java/lang/IllegalStateException") hown [⟨0, 10, 13, 13⟩] ⟨0, 10, 17, 25⟩ [] (htab.trans rfl) (fun z hz => by rcases List.mem_cons.mp hz with rfl | hz; exact Or.inr ⟨by decide, "java/lang/IndexOutOfBoundsException", hts (.classLink RL 13 "java/lang/IndexOutOfBoundsException") (by decide +kernel), hNc0⟩; exact nomatch hz) rfl (by decide) (hts (.classLink RL 25 "java/lang/IllegalStateException") (by decide +kernel)) (va_Nw.use rfl hT.2.2.2.2.2.2) hce9 hcv9 hcl9 ?_
  refine W.cs (cells' := 1) (slots' := 6) rfl rfl ?_
  refine lv_astore (lv' := [(4, .ref q9), (0, .ref q), (1, .int (nI 1)), (2, .int (nI 2)), (3, .ref oq)]) hx hb dL_insertAll_17 hl (by decide) rfl (fun ls hl => ?_)
  refine lv_iconst (v := nI 2) hx hb dL_insertAll_19 (by decide +kernel) ?_
  have hP9 := hP.sub (ws' := [(q, .inr (6, [.ref s0, .ref s1, .ref s2])), (s1, .inr (3, [.ref tq, .ref rq, .ref uq])), (tq, .inr (4, [.ref ca, .long sm, .int (oI lo)])), (ca, .inl (cJ, 64, .inr (.inl fc))), (rq, .inr (5, [.ref rb])), (rb, .inr (0, [.ref rd])), (rd, .inl (cJ, 128, .inr (.inl ft))), (uq, .inr (1, [.ref bm, .ref bs])), (bm, .inr (0, [.ref am])), (am, .inl (cJ, 64, .inr (.inl fm))), (bs, .inr (0, [.ref ap])), (ap, .inl (cJ, 64, .inr (.inl fs))), (s2, .inr (3, [.ref tq_o, .ref rq_o, .ref uq_o])), (tq_o, .inr (4, [.ref ca_o, .long osm, .int (oI olo)])), (ca_o, .inl (cJ, 64, .inr (.inl oc))), (rq_o, .inr (5, [.ref rb_o])), (rb_o, .inr (0, [.ref rd_o])), (rd_o, .inl (cJ, 128, .inr (.inl ot))), (uq_o, .inr (1, [.ref bm_o, .ref bs_o])), (bm_o, .inr (0, [.ref am_o])), (am_o, .inl (cJ, 64, .inr (.inl om))), (bs_o, .inr (0, [.ref ap_o])), (ap_o, .inl (cJ, 64, .inr (.inl os)))]) [0, 1, 2, 3, 4, 5, 6, 7, 8, 9, 10, 11, 12, 13, 14, 15, 16, 17, 18, 19, 20, 21, 22] rfl
  have hD9 := hD.sub (ws' := [(q, .inr (6, [.ref s0, .ref s1, .ref s2])), (s1, .inr (3, [.ref tq, .ref rq, .ref uq])), (tq, .inr (4, [.ref ca, .long sm, .int (oI lo)])), (ca, .inl (cJ, 64, .inr (.inl fc))), (rq, .inr (5, [.ref rb])), (rb, .inr (0, [.ref rd])), (rd, .inl (cJ, 128, .inr (.inl ft))), (uq, .inr (1, [.ref bm, .ref bs])), (bm, .inr (0, [.ref am])), (am, .inl (cJ, 64, .inr (.inl fm))), (bs, .inr (0, [.ref ap])), (ap, .inl (cJ, 64, .inr (.inl fs))), (s2, .inr (3, [.ref tq_o, .ref rq_o, .ref uq_o])), (tq_o, .inr (4, [.ref ca_o, .long osm, .int (oI olo)])), (ca_o, .inl (cJ, 64, .inr (.inl oc))), (rq_o, .inr (5, [.ref rb_o])), (rb_o, .inr (0, [.ref rd_o])), (rd_o, .inl (cJ, 128, .inr (.inl ot))), (uq_o, .inr (1, [.ref bm_o, .ref bs_o])), (bm_o, .inr (0, [.ref am_o])), (am_o, .inl (cJ, 64, .inr (.inl om))), (bs_o, .inr (0, [.ref ap_o])), (ap_o, .inl (cJ, 64, .inr (.inl os)))]) [0, 1, 2, 3, 4, 5, 6, 7, 8, 9, 10, 11, 12, 13, 14, 15, 16, 17, 18, 19, 20, 21, 22] (by decide) rfl
  have hK9 := hK.sub (tys' := [(cJ, .long)]) [0] rfl
  exact W.iret (v := nI 2) hx hb hr (fun t9 ht hW => ⟨⟨nI 2, (), rfl, rfl, by rw [ht]; exact hP9, va_K.moved hW.alike hK9, hD9⟩, hS.F ht⟩) hS.2.2 dL_insertAll_20
set_option maxHeartbeats 4000000 in
set_option maxRecDepth 100000 in
/-- law: clusterMinimum, clusterMinimum_p1 -/
theorem c_L_clusterMinimum_p1 (l : Launch) (hls : l.stackTraces = false) (dC : Nat → ClassId) (dI : Nat → Nat → Nat) (q : Nat) (s0 : Nat) (s1 : Nat) (s2 : Nat) (w : Int32) (oq : Nat) (sa : Nat) (sz : Nat) (hW : pl w 64 = false) : Met l yL_clusterMinimum wsL_clusterMinimum ({ frames := 8, cells := 1, slots := 6, locals := 126 }) (va_Pc [.ref q, .int (nI 1), .int w, .ref oq] (fun U => TW "java/lang/IndexOutOfBoundsException" 165 "no such cluster, level, place or bucket" sa (fun q => sz ≤ q) U U.heap ∧ U.heap.size = sz ∧ va_P (dC, dI) vwCl [(q, .inr (6, [.ref s0, .ref s1, .ref s2]))] U.heap ∧ va_K (dC, dI) vwCl [] U ∧ va_D (fun _ => True) [(q, .inr (6, [.ref s0, .ref s1, .ref s2]))])) (va_Qi (fun (r : Int32) (u : Unit) => r = nI 1) (fun (u : Unit) (t : State) => va_P (dC, dI) vwCl [(q, .inr (6, [.ref s0, .ref s1, .ref s2]))] t.heap ∧ va_K (dC, dI) vwCl [] t ∧ va_D (va_A [(q, .inr (6, [.ref s0, .ref s1, .ref s2]))] sz) [(q, .inr (6, [.ref s0, .ref s1, .ref s2]))]) (va_A [(q, .inr (6, [.ref s0, .ref s1, .ref s2]))] sz)) 1 6 (va_A [(q, .inr (6, [.ref s0, .ref s1, .ref s2]))] sz) := by
  refine va_MetW (cc := cL_clusterMinimum) (maxL := 5) (ret := (some .int)) (hh := [(0, 10, 13, 13)]) (by decide) rfl ?_
  intro p e s m args below meth c s₁ B hml hv
  obtain ⟨rfl, hT, hsz, hP, hK, hD0⟩ := hv
  have hx := B.exec
  have hb := B.bytes
  have hr := B.returns
  have hts := atoms_spec (ws := wsL_clusterMinimum) B.pre
  have hown : s.vm.findClass RL = some m.cls := findClass_of_methodNamed B.named
  have hlocks := B.notSynchronized
  have htab : c.exceptionTable.toList = tableOf [(0, 10, 13, 13)] := vx_table (x := yL_clusterMinimum) B (hts _ List.mem_cons_self)
  subst hsz
  have hD := hD0.self (sz := s.heap.size)
  generalize hAe : va_A [(q, .inr (6, [.ref s0, .ref s1, .ref s2]))] s.heap.size = A at hD ⊢
  have hA : ∀ q : Nat, s.heap.size ≤ q → A q := fun q h => by rw [← hAe]; exact Or.inr h
  have hS : va_S A s.heap s.heap [] := va_S.rf
  have hP : va_P (dC, dI) vwCl [(q, .inr (6, [.ref s0, .ref s1, .ref s2]))] s.heap := hP
  have hl := lv_entry ([.ref q, .int (nI 1), .int w, .ref oq]) (n := 5) (Nat.le_of_ble_eq_true rfl)
  rw [lg_entry_eq]
  generalize (lg_sl ([.ref q, .int (nI 1), .int w, .ref oq]) ++ List.replicate (5 - (lg_sl ([.ref q, .int (nI 1), .int w, .ref oq])).length) Slot.unset).toArray = ls at hl ⊢
  have hl : lv_has ls 5 [(0, .ref q), (1, .int (nI 1)), (2, .int w), (3, .ref oq)] := hl
  refine lv_aload_n hx hb dL_clusterMinimum_0 rfl (lv_at hl 3 rfl) ?_
  refine lv_iconst (v := nI 0) hx hb dL_clusterMinimum_1 (by decide +kernel) ?_
  refine lv_aload_n hx hb dL_clusterMinimum_2 rfl (lv_at hl 0 rfl) ?_
  refine lv_iload_n hx hb dL_clusterMinimum_3 rfl (lv_at hl 1 rfl) ?_
  refine lv_iload_n hx hb dL_clusterMinimum_4 rfl (lv_at hl 2 rfl) ?_
  have hPc := hP.sub (ws' := [(q, .inr (6, [.ref s0, .ref s1, .ref s2]))]) [0] rfl
  have hKc := hK.sub (tys' := []) [] rfl
  have hDc := hD.sub (ws' := [(q, .inr (6, [.ref s0, .ref s1, .ref s2]))]) [0] (by decide) rfl
  refine vx_callv (vx_runV (As := [.int (nI 1), .int w]) (rest := [.int (nI 0), .ref oq]) ⟨hx, hb, hml, hown, hts⟩ (x_X7_clusterMinimum_p1 l hls dC dI q s0 s1 s2 w sa s.heap.size (by first | assumption | omega)) (cwV 2 hts gL_clusterMinimum_X7_clusterMinimum rfl rfl rfl (by decide +kernel) ⟨Nat.le_of_ble_eq_true rfl, Nat.le_of_ble_eq_true rfl⟩) ⟨fun a U g mk q => by obtain ⟨q0, q1, qT, qP, qK, qD⟩ := q; exact ⟨q0, q1, TW.same (u := U) (U := U.calling g mk a) rfl qT, qP, va_K.moved (u := U) (U := U.calling g mk a) (Vm.Alike.refl U.vm) qK, qD⟩, va_recv hKc hPc (ci := 6) (q0 := 0) rfl rfl, fun U hU hW => ⟨rfl, by rw [hU], by rw [hU]; exact TW.warm hW hT, by rw [hU]; exact hPc, va_K.moved hW.alike hKc, hDc.weaken (fun _ _ _ _ => trivial)⟩⟩ rfl rfl hl.1 rfl (lv_room (Nat.le_of_ble_eq_true rfl)) dL_clusterMinimum_5 ⟨Nat.le_of_ble_eq_true rfl, Nat.le_of_ble_eq_true rfl⟩) hS (fun q h9 h8 => absurd h8 (Nat.not_le_of_lt h9)) (fun q h8 => hA q (Nat.le_trans hS.1 h8)) (fun q h9 h8 => absurd h8 (Nat.not_le_of_lt h9)) (fun E9 ce9 q9 u9 t9 H locs ht9 hvm9 hu9 hE9 hz9 hk9 hS hce9 hcv9 hcl9 => ?_) (fun u9 t9 H9 l9 ht9 hvm9 hu9 hB9 hz9 hk9 hS9 => hu9.elim)
  subst hE9
  have hP := hP.kept (H1 := H) (fun k q hk => hk9 _ (vx_lt hP hk) (Nat.not_le_of_lt (vx_lt hP hk)))
  refine vx_catch (name := "java/lang/IndexOutOfBoundsException") hown [] ⟨0, 10, 13, 13⟩ [] (htab.trans rfl) (fun z hz => nomatch hz) rfl (by decide) (hts (.classLink RL 13 "java/lang/IndexOutOfBoundsException") (by decide +kernel)) (va_Nw.use rfl hT.2.2.2.2.2.2) hce9 hcv9 hcl9 ?_
  refine W.cs (cells' := 1) (slots' := 6) rfl rfl ?_
  refine lv_astore (lv' := [(4, .ref q9), (0, .ref q), (1, .int (nI 1)), (2, .int w), (3, .ref oq)]) hx hb dL_clusterMinimum_13 hl (by decide) rfl (fun ls hl => ?_)
  refine lv_iconst (v := nI 1) hx hb dL_clusterMinimum_15 (by decide +kernel) ?_
  have hP9 := hP.sub (ws' := [(q, .inr (6, [.ref s0, .ref s1, .ref s2]))]) [0] rfl
  have hD9 := hD.sub (ws' := [(q, .inr (6, [.ref s0, .ref s1, .ref s2]))]) [0] (by decide) rfl
  have hK9 := hK.sub (tys' := []) [] rfl
  exact W.iret (v := nI 1) hx hb hr (fun t9 ht hW => ⟨⟨nI 1, (), rfl, rfl, by rw [ht]; exact hP9, va_K.moved hW.alike hK9, hD9⟩, hS.F ht⟩) hS.2.2 dL_clusterMinimum_16
set_option maxHeartbeats 4000000 in
set_option maxRecDepth 100000 in
/-- law: clusterMaximum, clusterMaximum_p1 -/
theorem c_L_clusterMaximum_p1 (l : Launch) (hls : l.stackTraces = false) (dC : Nat → ClassId) (dI : Nat → Nat → Nat) (q : Nat) (s0 : Nat) (s1 : Nat) (s2 : Nat) (w : Int32) (oq : Nat) (sa : Nat) (sz : Nat) (hW : pl w 64 = false) : Met l yL_clusterMaximum wsL_clusterMaximum ({ frames := 8, cells := 1, slots := 6, locals := 126 }) (va_Pc [.ref q, .int (nI 1), .int w, .ref oq] (fun U => TW "java/lang/IndexOutOfBoundsException" 165 "no such cluster, level, place or bucket" sa (fun q => sz ≤ q) U U.heap ∧ U.heap.size = sz ∧ va_P (dC, dI) vwCl [(q, .inr (6, [.ref s0, .ref s1, .ref s2]))] U.heap ∧ va_K (dC, dI) vwCl [] U ∧ va_D (fun _ => True) [(q, .inr (6, [.ref s0, .ref s1, .ref s2]))])) (va_Qi (fun (r : Int32) (u : Unit) => r = nI 1) (fun (u : Unit) (t : State) => va_P (dC, dI) vwCl [(q, .inr (6, [.ref s0, .ref s1, .ref s2]))] t.heap ∧ va_K (dC, dI) vwCl [] t ∧ va_D (va_A [(q, .inr (6, [.ref s0, .ref s1, .ref s2]))] sz) [(q, .inr (6, [.ref s0, .ref s1, .ref s2]))]) (va_A [(q, .inr (6, [.ref s0, .ref s1, .ref s2]))] sz)) 1 6 (va_A [(q, .inr (6, [.ref s0, .ref s1, .ref s2]))] sz) := by
  refine va_MetW (cc := cL_clusterMaximum) (maxL := 5) (ret := (some .int)) (hh := [(0, 10, 13, 13)]) (by decide) rfl ?_
  intro p e s m args below meth c s₁ B hml hv
  obtain ⟨rfl, hT, hsz, hP, hK, hD0⟩ := hv
  have hx := B.exec
  have hb := B.bytes
  have hr := B.returns
  have hts := atoms_spec (ws := wsL_clusterMaximum) B.pre
  have hown : s.vm.findClass RL = some m.cls := findClass_of_methodNamed B.named
  have hlocks := B.notSynchronized
  have htab : c.exceptionTable.toList = tableOf [(0, 10, 13, 13)] := vx_table (x := yL_clusterMaximum) B (hts _ List.mem_cons_self)
  subst hsz
  have hD := hD0.self (sz := s.heap.size)
  generalize hAe : va_A [(q, .inr (6, [.ref s0, .ref s1, .ref s2]))] s.heap.size = A at hD ⊢
  have hA : ∀ q : Nat, s.heap.size ≤ q → A q := fun q h => by rw [← hAe]; exact Or.inr h
  have hS : va_S A s.heap s.heap [] := va_S.rf
  have hP : va_P (dC, dI) vwCl [(q, .inr (6, [.ref s0, .ref s1, .ref s2]))] s.heap := hP
  have hl := lv_entry ([.ref q, .int (nI 1), .int w, .ref oq]) (n := 5) (Nat.le_of_ble_eq_true rfl)
  rw [lg_entry_eq]
  generalize (lg_sl ([.ref q, .int (nI 1), .int w, .ref oq]) ++ List.replicate (5 - (lg_sl ([.ref q, .int (nI 1), .int w, .ref oq])).length) Slot.unset).toArray = ls at hl ⊢
  have hl : lv_has ls 5 [(0, .ref q), (1, .int (nI 1)), (2, .int w), (3, .ref oq)] := hl
  refine lv_aload_n hx hb dL_clusterMaximum_0 rfl (lv_at hl 3 rfl) ?_
  refine lv_iconst (v := nI 0) hx hb dL_clusterMaximum_1 (by decide +kernel) ?_
  refine lv_aload_n hx hb dL_clusterMaximum_2 rfl (lv_at hl 0 rfl) ?_
  refine lv_iload_n hx hb dL_clusterMaximum_3 rfl (lv_at hl 1 rfl) ?_
  refine lv_iload_n hx hb dL_clusterMaximum_4 rfl (lv_at hl 2 rfl) ?_
  have hPc := hP.sub (ws' := [(q, .inr (6, [.ref s0, .ref s1, .ref s2]))]) [0] rfl
  have hKc := hK.sub (tys' := []) [] rfl
  have hDc := hD.sub (ws' := [(q, .inr (6, [.ref s0, .ref s1, .ref s2]))]) [0] (by decide) rfl
  refine vx_callv (vx_runV (As := [.int (nI 1), .int w]) (rest := [.int (nI 0), .ref oq]) ⟨hx, hb, hml, hown, hts⟩ (x_X7_clusterMaximum_p1 l hls dC dI q s0 s1 s2 w sa s.heap.size (by first | assumption | omega)) (cwV 2 hts gL_clusterMaximum_X7_clusterMaximum rfl rfl rfl (by decide +kernel) ⟨Nat.le_of_ble_eq_true rfl, Nat.le_of_ble_eq_true rfl⟩) ⟨fun a U g mk q => by obtain ⟨q0, q1, qT, qP, qK, qD⟩ := q; exact ⟨q0, q1, TW.same (u := U) (U := U.calling g mk a) rfl qT, qP, va_K.moved (u := U) (U := U.calling g mk a) (Vm.Alike.refl U.vm) qK, qD⟩, va_recv hKc hPc (ci := 6) (q0 := 0) rfl rfl, fun U hU hW => ⟨rfl, by rw [hU], by rw [hU]; exact TW.warm hW hT, by rw [hU]; exact hPc, va_K.moved hW.alike hKc, hDc.weaken (fun _ _ _ _ => trivial)⟩⟩ rfl rfl hl.1 rfl (lv_room (Nat.le_of_ble_eq_true rfl)) dL_clusterMaximum_5 ⟨Nat.le_of_ble_eq_true rfl, Nat.le_of_ble_eq_true rfl⟩) hS (fun q h9 h8 => absurd h8 (Nat.not_le_of_lt h9)) (fun q h8 => hA q (Nat.le_trans hS.1 h8)) (fun q h9 h8 => absurd h8 (Nat.not_le_of_lt h9)) (fun E9 ce9 q9 u9 t9 H locs ht9 hvm9 hu9 hE9 hz9 hk9 hS hce9 hcv9 hcl9 => ?_) (fun u9 t9 H9 l9 ht9 hvm9 hu9 hB9 hz9 hk9 hS9 => hu9.elim)
  subst hE9
  have hP := hP.kept (H1 := H) (fun k q hk => hk9 _ (vx_lt hP hk) (Nat.not_le_of_lt (vx_lt hP hk)))
  refine vx_catch (name := "java/lang/IndexOutOfBoundsException") hown [] ⟨0, 10, 13, 13⟩ [] (htab.trans rfl) (fun z hz => nomatch hz) rfl (by decide) (hts (.classLink RL 13 "java/lang/IndexOutOfBoundsException") (by decide +kernel)) (va_Nw.use rfl hT.2.2.2.2.2.2) hce9 hcv9 hcl9 ?_
  refine W.cs (cells' := 1) (slots' := 6) rfl rfl ?_
  refine lv_astore (lv' := [(4, .ref q9), (0, .ref q), (1, .int (nI 1)), (2, .int w), (3, .ref oq)]) hx hb dL_clusterMaximum_13 hl (by decide) rfl (fun ls hl => ?_)
  refine lv_iconst (v := nI 1) hx hb dL_clusterMaximum_15 (by decide +kernel) ?_
  have hP9 := hP.sub (ws' := [(q, .inr (6, [.ref s0, .ref s1, .ref s2]))]) [0] rfl
  have hD9 := hD.sub (ws' := [(q, .inr (6, [.ref s0, .ref s1, .ref s2]))]) [0] (by decide) rfl
  have hK9 := hK.sub (tys' := []) [] rfl
  exact W.iret (v := nI 1) hx hb hr (fun t9 ht hW => ⟨⟨nI 1, (), rfl, rfl, by rw [ht]; exact hP9, va_K.moved hW.alike hK9, hD9⟩, hS.F ht⟩) hS.2.2 dL_clusterMaximum_16
set_option maxHeartbeats 4000000 in
set_option maxRecDepth 100000 in
/-- law: prefixes, prefixes_p1 -/
theorem c_L_prefixes_p1 (l : Launch) (hls : l.stackTraces = false) (dC : Nat → ClassId) (dI : Nat → Nat → Nat) (q : Nat) (s0 : Nat) (s1 : Nat) (s2 : Nat) (w : Int32) (oq : Nat) (sa : Nat) (sz : Nat) (hW : pl w 13 = false) : Met l yL_prefixes wsL_prefixes ({ frames := 8, cells := 1, slots := 6, locals := 126 }) (va_Pc [.ref q, .int (nI 1), .int w, .ref oq] (fun U => TW "java/lang/IndexOutOfBoundsException" 165 "no such cluster, level, place or bucket" sa (fun q => sz ≤ q) U U.heap ∧ U.heap.size = sz ∧ va_P (dC, dI) vwCl [(q, .inr (6, [.ref s0, .ref s1, .ref s2]))] U.heap ∧ va_K (dC, dI) vwCl [] U ∧ va_D (fun _ => True) [(q, .inr (6, [.ref s0, .ref s1, .ref s2]))])) (va_Qi (fun (r : Int32) (u : Unit) => r = nI 1) (fun (u : Unit) (t : State) => va_P (dC, dI) vwCl [(q, .inr (6, [.ref s0, .ref s1, .ref s2]))] t.heap ∧ va_K (dC, dI) vwCl [] t ∧ va_D (va_A [(q, .inr (6, [.ref s0, .ref s1, .ref s2]))] sz) [(q, .inr (6, [.ref s0, .ref s1, .ref s2]))]) (va_A [(q, .inr (6, [.ref s0, .ref s1, .ref s2]))] sz)) 1 6 (va_A [(q, .inr (6, [.ref s0, .ref s1, .ref s2]))] sz) := by
  refine va_MetW (cc := cL_prefixes) (maxL := 5) (ret := (some .int)) (hh := [(0, 10, 13, 13)]) (by decide) rfl ?_
  intro p e s m args below meth c s₁ B hml hv
  obtain ⟨rfl, hT, hsz, hP, hK, hD0⟩ := hv
  have hx := B.exec
  have hb := B.bytes
  have hr := B.returns
  have hts := atoms_spec (ws := wsL_prefixes) B.pre
  have hown : s.vm.findClass RL = some m.cls := findClass_of_methodNamed B.named
  have hlocks := B.notSynchronized
  have htab : c.exceptionTable.toList = tableOf [(0, 10, 13, 13)] := vx_table (x := yL_prefixes) B (hts _ List.mem_cons_self)
  subst hsz
  have hD := hD0.self (sz := s.heap.size)
  generalize hAe : va_A [(q, .inr (6, [.ref s0, .ref s1, .ref s2]))] s.heap.size = A at hD ⊢
  have hA : ∀ q : Nat, s.heap.size ≤ q → A q := fun q h => by rw [← hAe]; exact Or.inr h
  have hS : va_S A s.heap s.heap [] := va_S.rf
  have hP : va_P (dC, dI) vwCl [(q, .inr (6, [.ref s0, .ref s1, .ref s2]))] s.heap := hP
  have hl := lv_entry ([.ref q, .int (nI 1), .int w, .ref oq]) (n := 5) (Nat.le_of_ble_eq_true rfl)
  rw [lg_entry_eq]
  generalize (lg_sl ([.ref q, .int (nI 1), .int w, .ref oq]) ++ List.replicate (5 - (lg_sl ([.ref q, .int (nI 1), .int w, .ref oq])).length) Slot.unset).toArray = ls at hl ⊢
  have hl : lv_has ls 5 [(0, .ref q), (1, .int (nI 1)), (2, .int w), (3, .ref oq)] := hl
  refine lv_aload_n hx hb dL_prefixes_0 rfl (lv_at hl 3 rfl) ?_
  refine lv_iconst (v := nI 0) hx hb dL_prefixes_1 (by decide +kernel) ?_
  refine lv_aload_n hx hb dL_prefixes_2 rfl (lv_at hl 0 rfl) ?_
  refine lv_iload_n hx hb dL_prefixes_3 rfl (lv_at hl 1 rfl) ?_
  refine lv_iload_n hx hb dL_prefixes_4 rfl (lv_at hl 2 rfl) ?_
  have hPc := hP.sub (ws' := [(q, .inr (6, [.ref s0, .ref s1, .ref s2]))]) [0] rfl
  have hKc := hK.sub (tys' := []) [] rfl
  have hDc := hD.sub (ws' := [(q, .inr (6, [.ref s0, .ref s1, .ref s2]))]) [0] (by decide) rfl
  refine vx_callv (vx_runV (As := [.int (nI 1), .int w]) (rest := [.int (nI 0), .ref oq]) ⟨hx, hb, hml, hown, hts⟩ (x_X7_prefixes_p1 l hls dC dI q s0 s1 s2 w sa s.heap.size (by first | assumption | omega)) (cwV 2 hts gL_prefixes_X7_prefixes rfl rfl rfl (by decide +kernel) ⟨Nat.le_of_ble_eq_true rfl, Nat.le_of_ble_eq_true rfl⟩) ⟨fun a U g mk q => by obtain ⟨q0, q1, qT, qP, qK, qD⟩ := q; exact ⟨q0, q1, TW.same (u := U) (U := U.calling g mk a) rfl qT, qP, va_K.moved (u := U) (U := U.calling g mk a) (Vm.Alike.refl U.vm) qK, qD⟩, va_recv hKc hPc (ci := 6) (q0 := 0) rfl rfl, fun U hU hW => ⟨rfl, by rw [hU], by rw [hU]; exact TW.warm hW hT, by rw [hU]; exact hPc, va_K.moved hW.alike hKc, hDc.weaken (fun _ _ _ _ => trivial)⟩⟩ rfl rfl hl.1 rfl (lv_room (Nat.le_of_ble_eq_true rfl)) dL_prefixes_5 ⟨Nat.le_of_ble_eq_true rfl, Nat.le_of_ble_eq_true rfl⟩) hS (fun q h9 h8 => absurd h8 (Nat.not_le_of_lt h9)) (fun q h8 => hA q (Nat.le_trans hS.1 h8)) (fun q h9 h8 => absurd h8 (Nat.not_le_of_lt h9)) (fun E9 ce9 q9 u9 t9 H locs ht9 hvm9 hu9 hE9 hz9 hk9 hS hce9 hcv9 hcl9 => ?_) (fun u9 t9 H9 l9 ht9 hvm9 hu9 hB9 hz9 hk9 hS9 => hu9.elim)
  subst hE9
  have hP := hP.kept (H1 := H) (fun k q hk => hk9 _ (vx_lt hP hk) (Nat.not_le_of_lt (vx_lt hP hk)))
  refine vx_catch (name := "java/lang/IndexOutOfBoundsException") hown [] ⟨0, 10, 13, 13⟩ [] (htab.trans rfl) (fun z hz => nomatch hz) rfl (by decide) (hts (.classLink RL 13 "java/lang/IndexOutOfBoundsException") (by decide +kernel)) (va_Nw.use rfl hT.2.2.2.2.2.2) hce9 hcv9 hcl9 ?_
  refine W.cs (cells' := 1) (slots' := 6) rfl rfl ?_
  refine lv_astore (lv' := [(4, .ref q9), (0, .ref q), (1, .int (nI 1)), (2, .int w), (3, .ref oq)]) hx hb dL_prefixes_13 hl (by decide) rfl (fun ls hl => ?_)
  refine lv_iconst (v := nI 1) hx hb dL_prefixes_15 (by decide +kernel) ?_
  have hP9 := hP.sub (ws' := [(q, .inr (6, [.ref s0, .ref s1, .ref s2]))]) [0] rfl
  have hD9 := hD.sub (ws' := [(q, .inr (6, [.ref s0, .ref s1, .ref s2]))]) [0] (by decide) rfl
  have hK9 := hK.sub (tys' := []) [] rfl
  exact W.iret (v := nI 1) hx hb hr (fun t9 ht hW => ⟨⟨nI 1, (), rfl, rfl, by rw [ht]; exact hP9, va_K.moved hW.alike hK9, hD9⟩, hS.F ht⟩) hS.2.2 dL_prefixes_16
set_option maxHeartbeats 4000000 in
set_option maxRecDepth 100000 in
/-- law: select, select_p1 -/
theorem c_L_select_p1 (l : Launch) (hls : l.stackTraces = false) (dC : Nat → ClassId) (dI : Nat → Nat → Nat) (q : Nat) (s0 : Nat) (s1 : Nat) (s2 : Nat) (tq : Nat) (ca : Nat) (rq : Nat) (rb : Nat) (rd : Nat) (uq : Nat) (bm : Nat) (am : Nat) (bs : Nat) (ap : Nat) (cJ : ClassId) (fm : Nat → Int64) (fs : Nat → Int64) (ft : Nat → Int64) (fc : Nat → Int64) (sm : Int64) (lo : Option Nat) (w : Int32) (oq : Nat) (sa : Nat) (sz : Nat) (hN : NI fm fs ft fc sm lo) (hW : pl w (fb_ct (bo fm) 4096) = false) : Met l yL_select wsL_select ({ frames := 8, cells := 1, slots := 6, locals := 126 }) (va_Pc [.ref q, .int (nI 1), .int w, .ref oq] (fun U => va_Nw (.fieldLinkNest RX7 38 "SmallNumberSets$NumberSet" "buckets" "LSmallNumberSets$Buckets;" "SmallNumberSets") U ∧ TW "java/lang/IndexOutOfBoundsException" 165 "no such cluster, level, place or bucket" sa (fun q => sz ≤ q) U U.heap ∧ U.heap.size = sz ∧ va_P (dC, dI) vwCl [(q, .inr (6, [.ref s0, .ref s1, .ref s2])), (s1, .inr (3, [.ref tq, .ref rq, .ref uq])), (tq, .inr (4, [.ref ca, .long sm, .int (oI lo)])), (ca, .inl (cJ, 64, .inr (.inl fc))), (rq, .inr (5, [.ref rb])), (rb, .inr (0, [.ref rd])), (rd, .inl (cJ, 128, .inr (.inl ft))), (uq, .inr (1, [.ref bm, .ref bs])), (bm, .inr (0, [.ref am])), (am, .inl (cJ, 64, .inr (.inl fm))), (bs, .inr (0, [.ref ap])), (ap, .inl (cJ, 64, .inr (.inl fs)))] U.heap ∧ va_K (dC, dI) vwCl [(cJ, .long)] U ∧ va_D (fun _ => True) [(q, .inr (6, [.ref s0, .ref s1, .ref s2])), (s1, .inr (3, [.ref tq, .ref rq, .ref uq])), (tq, .inr (4, [.ref ca, .long sm, .int (oI lo)])), (ca, .inl (cJ, 64, .inr (.inl fc))), (rq, .inr (5, [.ref rb])), (rb, .inr (0, [.ref rd])), (rd, .inl (cJ, 128, .inr (.inl ft))), (uq, .inr (1, [.ref bm, .ref bs])), (bm, .inr (0, [.ref am])), (am, .inl (cJ, 64, .inr (.inl fm))), (bs, .inr (0, [.ref ap])), (ap, .inl (cJ, 64, .inr (.inl fs)))])) (va_Qi (fun (r : Int32) (u : Unit) => r = nI 1) (fun (u : Unit) (t : State) => va_P (dC, dI) vwCl [(q, .inr (6, [.ref s0, .ref s1, .ref s2])), (s1, .inr (3, [.ref tq, .ref rq, .ref uq])), (tq, .inr (4, [.ref ca, .long sm, .int (oI lo)])), (ca, .inl (cJ, 64, .inr (.inl fc))), (rq, .inr (5, [.ref rb])), (rb, .inr (0, [.ref rd])), (rd, .inl (cJ, 128, .inr (.inl ft))), (uq, .inr (1, [.ref bm, .ref bs])), (bm, .inr (0, [.ref am])), (am, .inl (cJ, 64, .inr (.inl fm))), (bs, .inr (0, [.ref ap])), (ap, .inl (cJ, 64, .inr (.inl fs)))] t.heap ∧ va_K (dC, dI) vwCl [(cJ, .long)] t ∧ va_D (va_A [(q, .inr (6, [.ref s0, .ref s1, .ref s2])), (s1, .inr (3, [.ref tq, .ref rq, .ref uq])), (tq, .inr (4, [.ref ca, .long sm, .int (oI lo)])), (ca, .inl (cJ, 64, .inr (.inl fc))), (rq, .inr (5, [.ref rb])), (rb, .inr (0, [.ref rd])), (rd, .inl (cJ, 128, .inr (.inl ft))), (uq, .inr (1, [.ref bm, .ref bs])), (bm, .inr (0, [.ref am])), (am, .inl (cJ, 64, .inr (.inl fm))), (bs, .inr (0, [.ref ap])), (ap, .inl (cJ, 64, .inr (.inl fs)))] sz) [(q, .inr (6, [.ref s0, .ref s1, .ref s2])), (s1, .inr (3, [.ref tq, .ref rq, .ref uq])), (tq, .inr (4, [.ref ca, .long sm, .int (oI lo)])), (ca, .inl (cJ, 64, .inr (.inl fc))), (rq, .inr (5, [.ref rb])), (rb, .inr (0, [.ref rd])), (rd, .inl (cJ, 128, .inr (.inl ft))), (uq, .inr (1, [.ref bm, .ref bs])), (bm, .inr (0, [.ref am])), (am, .inl (cJ, 64, .inr (.inl fm))), (bs, .inr (0, [.ref ap])), (ap, .inl (cJ, 64, .inr (.inl fs)))]) (va_A [(q, .inr (6, [.ref s0, .ref s1, .ref s2])), (s1, .inr (3, [.ref tq, .ref rq, .ref uq])), (tq, .inr (4, [.ref ca, .long sm, .int (oI lo)])), (ca, .inl (cJ, 64, .inr (.inl fc))), (rq, .inr (5, [.ref rb])), (rb, .inr (0, [.ref rd])), (rd, .inl (cJ, 128, .inr (.inl ft))), (uq, .inr (1, [.ref bm, .ref bs])), (bm, .inr (0, [.ref am])), (am, .inl (cJ, 64, .inr (.inl fm))), (bs, .inr (0, [.ref ap])), (ap, .inl (cJ, 64, .inr (.inl fs)))] sz)) 1 6 (va_A [(q, .inr (6, [.ref s0, .ref s1, .ref s2])), (s1, .inr (3, [.ref tq, .ref rq, .ref uq])), (tq, .inr (4, [.ref ca, .long sm, .int (oI lo)])), (ca, .inl (cJ, 64, .inr (.inl fc))), (rq, .inr (5, [.ref rb])), (rb, .inr (0, [.ref rd])), (rd, .inl (cJ, 128, .inr (.inl ft))), (uq, .inr (1, [.ref bm, .ref bs])), (bm, .inr (0, [.ref am])), (am, .inl (cJ, 64, .inr (.inl fm))), (bs, .inr (0, [.ref ap])), (ap, .inl (cJ, 64, .inr (.inl fs)))] sz) := by
  refine va_MetW (cc := cL_select) (maxL := 5) (ret := (some .int)) (hh := [(0, 10, 13, 13)]) (by decide) rfl ?_
  intro p e s m args below meth c s₁ B hml hv
  obtain ⟨rfl, nw0, hT, hsz, hP, hK, hD0⟩ := hv
  have hx := B.exec
  have hb := B.bytes
  have hr := B.returns
  have hts := atoms_spec (ws := wsL_select) B.pre
  have hown : s.vm.findClass RL = some m.cls := findClass_of_methodNamed B.named
  have hlocks := B.notSynchronized
  have htab : c.exceptionTable.toList = tableOf [(0, 10, 13, 13)] := vx_table (x := yL_select) B (hts _ List.mem_cons_self)
  subst hsz
  have hD := hD0.self (sz := s.heap.size)
  generalize hAe : va_A [(q, .inr (6, [.ref s0, .ref s1, .ref s2])), (s1, .inr (3, [.ref tq, .ref rq, .ref uq])), (tq, .inr (4, [.ref ca, .long sm, .int (oI lo)])), (ca, .inl (cJ, 64, .inr (.inl fc))), (rq, .inr (5, [.ref rb])), (rb, .inr (0, [.ref rd])), (rd, .inl (cJ, 128, .inr (.inl ft))), (uq, .inr (1, [.ref bm, .ref bs])), (bm, .inr (0, [.ref am])), (am, .inl (cJ, 64, .inr (.inl fm))), (bs, .inr (0, [.ref ap])), (ap, .inl (cJ, 64, .inr (.inl fs)))] s.heap.size = A at hD ⊢
  have hA : ∀ q : Nat, s.heap.size ≤ q → A q := fun q h => by rw [← hAe]; exact Or.inr h
  have hS : va_S A s.heap s.heap [] := va_S.rf
  have hP : va_P (dC, dI) vwCl [(q, .inr (6, [.ref s0, .ref s1, .ref s2])), (s1, .inr (3, [.ref tq, .ref rq, .ref uq])), (tq, .inr (4, [.ref ca, .long sm, .int (oI lo)])), (ca, .inl (cJ, 64, .inr (.inl fc))), (rq, .inr (5, [.ref rb])), (rb, .inr (0, [.ref rd])), (rd, .inl (cJ, 128, .inr (.inl ft))), (uq, .inr (1, [.ref bm, .ref bs])), (bm, .inr (0, [.ref am])), (am, .inl (cJ, 64, .inr (.inl fm))), (bs, .inr (0, [.ref ap])), (ap, .inl (cJ, 64, .inr (.inl fs)))] s.heap := hP
  have hl := lv_entry ([.ref q, .int (nI 1), .int w, .ref oq]) (n := 5) (Nat.le_of_ble_eq_true rfl)
  rw [lg_entry_eq]
  generalize (lg_sl ([.ref q, .int (nI 1), .int w, .ref oq]) ++ List.replicate (5 - (lg_sl ([.ref q, .int (nI 1), .int w, .ref oq])).length) Slot.unset).toArray = ls at hl ⊢
  have hl : lv_has ls 5 [(0, .ref q), (1, .int (nI 1)), (2, .int w), (3, .ref oq)] := hl
  refine lv_aload_n hx hb dL_select_0 rfl (lv_at hl 3 rfl) ?_
  refine lv_iconst (v := nI 0) hx hb dL_select_1 (by decide +kernel) ?_
  refine lv_aload_n hx hb dL_select_2 rfl (lv_at hl 0 rfl) ?_
  refine lv_iload_n hx hb dL_select_3 rfl (lv_at hl 1 rfl) ?_
  refine lv_iload_n hx hb dL_select_4 rfl (lv_at hl 2 rfl) ?_
  have hPc := hP.sub (ws' := [(q, .inr (6, [.ref s0, .ref s1, .ref s2])), (s1, .inr (3, [.ref tq, .ref rq, .ref uq])), (tq, .inr (4, [.ref ca, .long sm, .int (oI lo)])), (ca, .inl (cJ, 64, .inr (.inl fc))), (rq, .inr (5, [.ref rb])), (rb, .inr (0, [.ref rd])), (rd, .inl (cJ, 128, .inr (.inl ft))), (uq, .inr (1, [.ref bm, .ref bs])), (bm, .inr (0, [.ref am])), (am, .inl (cJ, 64, .inr (.inl fm))), (bs, .inr (0, [.ref ap])), (ap, .inl (cJ, 64, .inr (.inl fs)))]) [0, 1, 2, 3, 4, 5, 6, 7, 8, 9, 10, 11] rfl
  have hKc := hK.sub (tys' := [(cJ, .long)]) [0] rfl
  have hDc := hD.sub (ws' := [(q, .inr (6, [.ref s0, .ref s1, .ref s2])), (s1, .inr (3, [.ref tq, .ref rq, .ref uq])), (tq, .inr (4, [.ref ca, .long sm, .int (oI lo)])), (ca, .inl (cJ, 64, .inr (.inl fc))), (rq, .inr (5, [.ref rb])), (rb, .inr (0, [.ref rd])), (rd, .inl (cJ, 128, .inr (.inl ft))), (uq, .inr (1, [.ref bm, .ref bs])), (bm, .inr (0, [.ref am])), (am, .inl (cJ, 64, .inr (.inl fm))), (bs, .inr (0, [.ref ap])), (ap, .inl (cJ, 64, .inr (.inl fs)))]) [0, 1, 2, 3, 4, 5, 6, 7, 8, 9, 10, 11] (by decide) rfl
  refine vx_callv (vx_runV (As := [.int (nI 1), .int w]) (rest := [.int (nI 0), .ref oq]) ⟨hx, hb, hml, hown, hts⟩ (x_X7_select_p1 l hls dC dI q s0 s1 s2 tq ca rq rb rd uq bm am bs ap cJ fm fs ft fc sm lo w sa s.heap.size (by first | assumption | omega) (by first | assumption | omega)) (cwV 2 hts gL_select_X7_select rfl rfl rfl (by decide +kernel) ⟨Nat.le_of_ble_eq_true rfl, Nat.le_of_ble_eq_true rfl⟩) ⟨fun a U g mk q => by obtain ⟨q0, nq0, q1, qT, qP, qK, qD⟩ := q; exact ⟨q0, va_Nw.same rfl (U := U.calling g mk a) rfl nq0, q1, TW.same (u := U) (U := U.calling g mk a) rfl qT, qP, va_K.moved (u := U) (U := U.calling g mk a) (Vm.Alike.refl U.vm) qK, qD⟩, va_recv hKc hPc (ci := 6) (q0 := 0) rfl rfl, fun U hU hW => ⟨rfl, va_Nw.warmF hW nw0, by rw [hU], by rw [hU]; exact TW.warm hW hT, by rw [hU]; exact hPc, va_K.moved hW.alike hKc, hDc.weaken (fun _ _ _ _ => trivial)⟩⟩ rfl rfl hl.1 rfl (lv_room (Nat.le_of_ble_eq_true rfl)) dL_select_5 ⟨Nat.le_of_ble_eq_true rfl, Nat.le_of_ble_eq_true rfl⟩) hS (fun q h9 h8 => absurd h8 (Nat.not_le_of_lt h9)) (fun q h8 => hA q (Nat.le_trans hS.1 h8)) (fun q h9 h8 => absurd h8 (Nat.not_le_of_lt h9)) (fun E9 ce9 q9 u9 t9 H locs ht9 hvm9 hu9 hE9 hz9 hk9 hS hce9 hcv9 hcl9 => ?_) (fun u9 t9 H9 l9 ht9 hvm9 hu9 hB9 hz9 hk9 hS9 => hu9.elim)
  subst hE9
  have hP := hP.kept (H1 := H) (fun k q hk => hk9 _ (vx_lt hP hk) (Nat.not_le_of_lt (vx_lt hP hk)))
  refine vx_catch (name := "java/lang/IndexOutOfBoundsException") hown [] ⟨0, 10, 13, 13⟩ [] (htab.trans rfl) (fun z hz => nomatch hz) rfl (by decide) (hts (.classLink RL 13 "java/lang/IndexOutOfBoundsException") (by decide +kernel)) (va_Nw.use rfl hT.2.2.2.2.2.2) hce9 hcv9 hcl9 ?_
  refine W.cs (cells' := 1) (slots' := 6) rfl rfl ?_
  refine lv_astore (lv' := [(4, .ref q9), (0, .ref q), (1, .int (nI 1)), (2, .int w), (3, .ref oq)]) hx hb dL_select_13 hl (by decide) rfl (fun ls hl => ?_)
  refine lv_iconst (v := nI 1) hx hb dL_select_15 (by decide +kernel) ?_
  have hP9 := hP.sub (ws' := [(q, .inr (6, [.ref s0, .ref s1, .ref s2])), (s1, .inr (3, [.ref tq, .ref rq, .ref uq])), (tq, .inr (4, [.ref ca, .long sm, .int (oI lo)])), (ca, .inl (cJ, 64, .inr (.inl fc))), (rq, .inr (5, [.ref rb])), (rb, .inr (0, [.ref rd])), (rd, .inl (cJ, 128, .inr (.inl ft))), (uq, .inr (1, [.ref bm, .ref bs])), (bm, .inr (0, [.ref am])), (am, .inl (cJ, 64, .inr (.inl fm))), (bs, .inr (0, [.ref ap])), (ap, .inl (cJ, 64, .inr (.inl fs)))]) [0, 1, 2, 3, 4, 5, 6, 7, 8, 9, 10, 11] rfl
  have hD9 := hD.sub (ws' := [(q, .inr (6, [.ref s0, .ref s1, .ref s2])), (s1, .inr (3, [.ref tq, .ref rq, .ref uq])), (tq, .inr (4, [.ref ca, .long sm, .int (oI lo)])), (ca, .inl (cJ, 64, .inr (.inl fc))), (rq, .inr (5, [.ref rb])), (rb, .inr (0, [.ref rd])), (rd, .inl (cJ, 128, .inr (.inl ft))), (uq, .inr (1, [.ref bm, .ref bs])), (bm, .inr (0, [.ref am])), (am, .inl (cJ, 64, .inr (.inl fm))), (bs, .inr (0, [.ref ap])), (ap, .inl (cJ, 64, .inr (.inl fs)))]) [0, 1, 2, 3, 4, 5, 6, 7, 8, 9, 10, 11] (by decide) rfl
  have hK9 := hK.sub (tys' := [(cJ, .long)]) [0] rfl
  exact W.iret (v := nI 1) hx hb hr (fun t9 ht hW => ⟨⟨nI 1, (), rfl, rfl, by rw [ht]; exact hP9, va_K.moved hW.alike hK9, hD9⟩, hS.F ht⟩) hS.2.2 dL_select_16
set_option maxHeartbeats 4000000 in
set_option maxRecDepth 100000 in
/-- law: separator, separator_p1 -/
theorem c_L_separator_p1 (l : Launch) (hls : l.stackTraces = false) (dC : Nat → ClassId) (dI : Nat → Nat → Nat) (q : Nat) (s0 : Nat) (s1 : Nat) (s2 : Nat) (tq : Nat) (ca : Nat) (rq : Nat) (rb : Nat) (rd : Nat) (uq : Nat) (bm : Nat) (am : Nat) (bs : Nat) (ap : Nat) (cJ : ClassId) (fm : Nat → Int64) (fs : Nat → Int64) (ft : Nat → Int64) (fc : Nat → Int64) (sm : Int64) (lo : Option Nat) (w : Int32) (oq : Nat) (sa : Nat) (sz : Nat) (hN : NI fm fs ft fc sm lo) (hW : pl w (fb_ct (bo fs) 4096) = false) : Met l yL_separator wsL_separator ({ frames := 8, cells := 1, slots := 6, locals := 126 }) (va_Pc [.ref q, .int (nI 1), .int w, .ref oq] (fun U => va_Nw (.fieldLinkNest RX7 38 "SmallNumberSets$NumberSet" "buckets" "LSmallNumberSets$Buckets;" "SmallNumberSets") U ∧ TW "java/lang/IndexOutOfBoundsException" 165 "no such cluster, level, place or bucket" sa (fun q => sz ≤ q) U U.heap ∧ U.heap.size = sz ∧ va_P (dC, dI) vwCl [(q, .inr (6, [.ref s0, .ref s1, .ref s2])), (s1, .inr (3, [.ref tq, .ref rq, .ref uq])), (tq, .inr (4, [.ref ca, .long sm, .int (oI lo)])), (ca, .inl (cJ, 64, .inr (.inl fc))), (rq, .inr (5, [.ref rb])), (rb, .inr (0, [.ref rd])), (rd, .inl (cJ, 128, .inr (.inl ft))), (uq, .inr (1, [.ref bm, .ref bs])), (bm, .inr (0, [.ref am])), (am, .inl (cJ, 64, .inr (.inl fm))), (bs, .inr (0, [.ref ap])), (ap, .inl (cJ, 64, .inr (.inl fs)))] U.heap ∧ va_K (dC, dI) vwCl [(cJ, .long)] U ∧ va_D (fun _ => True) [(q, .inr (6, [.ref s0, .ref s1, .ref s2])), (s1, .inr (3, [.ref tq, .ref rq, .ref uq])), (tq, .inr (4, [.ref ca, .long sm, .int (oI lo)])), (ca, .inl (cJ, 64, .inr (.inl fc))), (rq, .inr (5, [.ref rb])), (rb, .inr (0, [.ref rd])), (rd, .inl (cJ, 128, .inr (.inl ft))), (uq, .inr (1, [.ref bm, .ref bs])), (bm, .inr (0, [.ref am])), (am, .inl (cJ, 64, .inr (.inl fm))), (bs, .inr (0, [.ref ap])), (ap, .inl (cJ, 64, .inr (.inl fs)))])) (va_Qi (fun (r : Int32) (u : Unit) => r = nI 1) (fun (u : Unit) (t : State) => va_P (dC, dI) vwCl [(q, .inr (6, [.ref s0, .ref s1, .ref s2])), (s1, .inr (3, [.ref tq, .ref rq, .ref uq])), (tq, .inr (4, [.ref ca, .long sm, .int (oI lo)])), (ca, .inl (cJ, 64, .inr (.inl fc))), (rq, .inr (5, [.ref rb])), (rb, .inr (0, [.ref rd])), (rd, .inl (cJ, 128, .inr (.inl ft))), (uq, .inr (1, [.ref bm, .ref bs])), (bm, .inr (0, [.ref am])), (am, .inl (cJ, 64, .inr (.inl fm))), (bs, .inr (0, [.ref ap])), (ap, .inl (cJ, 64, .inr (.inl fs)))] t.heap ∧ va_K (dC, dI) vwCl [(cJ, .long)] t ∧ va_D (va_A [(q, .inr (6, [.ref s0, .ref s1, .ref s2])), (s1, .inr (3, [.ref tq, .ref rq, .ref uq])), (tq, .inr (4, [.ref ca, .long sm, .int (oI lo)])), (ca, .inl (cJ, 64, .inr (.inl fc))), (rq, .inr (5, [.ref rb])), (rb, .inr (0, [.ref rd])), (rd, .inl (cJ, 128, .inr (.inl ft))), (uq, .inr (1, [.ref bm, .ref bs])), (bm, .inr (0, [.ref am])), (am, .inl (cJ, 64, .inr (.inl fm))), (bs, .inr (0, [.ref ap])), (ap, .inl (cJ, 64, .inr (.inl fs)))] sz) [(q, .inr (6, [.ref s0, .ref s1, .ref s2])), (s1, .inr (3, [.ref tq, .ref rq, .ref uq])), (tq, .inr (4, [.ref ca, .long sm, .int (oI lo)])), (ca, .inl (cJ, 64, .inr (.inl fc))), (rq, .inr (5, [.ref rb])), (rb, .inr (0, [.ref rd])), (rd, .inl (cJ, 128, .inr (.inl ft))), (uq, .inr (1, [.ref bm, .ref bs])), (bm, .inr (0, [.ref am])), (am, .inl (cJ, 64, .inr (.inl fm))), (bs, .inr (0, [.ref ap])), (ap, .inl (cJ, 64, .inr (.inl fs)))]) (va_A [(q, .inr (6, [.ref s0, .ref s1, .ref s2])), (s1, .inr (3, [.ref tq, .ref rq, .ref uq])), (tq, .inr (4, [.ref ca, .long sm, .int (oI lo)])), (ca, .inl (cJ, 64, .inr (.inl fc))), (rq, .inr (5, [.ref rb])), (rb, .inr (0, [.ref rd])), (rd, .inl (cJ, 128, .inr (.inl ft))), (uq, .inr (1, [.ref bm, .ref bs])), (bm, .inr (0, [.ref am])), (am, .inl (cJ, 64, .inr (.inl fm))), (bs, .inr (0, [.ref ap])), (ap, .inl (cJ, 64, .inr (.inl fs)))] sz)) 1 6 (va_A [(q, .inr (6, [.ref s0, .ref s1, .ref s2])), (s1, .inr (3, [.ref tq, .ref rq, .ref uq])), (tq, .inr (4, [.ref ca, .long sm, .int (oI lo)])), (ca, .inl (cJ, 64, .inr (.inl fc))), (rq, .inr (5, [.ref rb])), (rb, .inr (0, [.ref rd])), (rd, .inl (cJ, 128, .inr (.inl ft))), (uq, .inr (1, [.ref bm, .ref bs])), (bm, .inr (0, [.ref am])), (am, .inl (cJ, 64, .inr (.inl fm))), (bs, .inr (0, [.ref ap])), (ap, .inl (cJ, 64, .inr (.inl fs)))] sz) := by
  refine va_MetW (cc := cL_separator) (maxL := 5) (ret := (some .int)) (hh := [(0, 10, 13, 13)]) (by decide) rfl ?_
  intro p e s m args below meth c s₁ B hml hv
  obtain ⟨rfl, nw0, hT, hsz, hP, hK, hD0⟩ := hv
  have hx := B.exec
  have hb := B.bytes
  have hr := B.returns
  have hts := atoms_spec (ws := wsL_separator) B.pre
  have hown : s.vm.findClass RL = some m.cls := findClass_of_methodNamed B.named
  have hlocks := B.notSynchronized
  have htab : c.exceptionTable.toList = tableOf [(0, 10, 13, 13)] := vx_table (x := yL_separator) B (hts _ List.mem_cons_self)
  subst hsz
  have hD := hD0.self (sz := s.heap.size)
  generalize hAe : va_A [(q, .inr (6, [.ref s0, .ref s1, .ref s2])), (s1, .inr (3, [.ref tq, .ref rq, .ref uq])), (tq, .inr (4, [.ref ca, .long sm, .int (oI lo)])), (ca, .inl (cJ, 64, .inr (.inl fc))), (rq, .inr (5, [.ref rb])), (rb, .inr (0, [.ref rd])), (rd, .inl (cJ, 128, .inr (.inl ft))), (uq, .inr (1, [.ref bm, .ref bs])), (bm, .inr (0, [.ref am])), (am, .inl (cJ, 64, .inr (.inl fm))), (bs, .inr (0, [.ref ap])), (ap, .inl (cJ, 64, .inr (.inl fs)))] s.heap.size = A at hD ⊢
  have hA : ∀ q : Nat, s.heap.size ≤ q → A q := fun q h => by rw [← hAe]; exact Or.inr h
  have hS : va_S A s.heap s.heap [] := va_S.rf
  have hP : va_P (dC, dI) vwCl [(q, .inr (6, [.ref s0, .ref s1, .ref s2])), (s1, .inr (3, [.ref tq, .ref rq, .ref uq])), (tq, .inr (4, [.ref ca, .long sm, .int (oI lo)])), (ca, .inl (cJ, 64, .inr (.inl fc))), (rq, .inr (5, [.ref rb])), (rb, .inr (0, [.ref rd])), (rd, .inl (cJ, 128, .inr (.inl ft))), (uq, .inr (1, [.ref bm, .ref bs])), (bm, .inr (0, [.ref am])), (am, .inl (cJ, 64, .inr (.inl fm))), (bs, .inr (0, [.ref ap])), (ap, .inl (cJ, 64, .inr (.inl fs)))] s.heap := hP
  have hl := lv_entry ([.ref q, .int (nI 1), .int w, .ref oq]) (n := 5) (Nat.le_of_ble_eq_true rfl)
  rw [lg_entry_eq]
  generalize (lg_sl ([.ref q, .int (nI 1), .int w, .ref oq]) ++ List.replicate (5 - (lg_sl ([.ref q, .int (nI 1), .int w, .ref oq])).length) Slot.unset).toArray = ls at hl ⊢
  have hl : lv_has ls 5 [(0, .ref q), (1, .int (nI 1)), (2, .int w), (3, .ref oq)] := hl
  refine lv_aload_n hx hb dL_separator_0 rfl (lv_at hl 3 rfl) ?_
  refine lv_iconst (v := nI 0) hx hb dL_separator_1 (by decide +kernel) ?_
  refine lv_aload_n hx hb dL_separator_2 rfl (lv_at hl 0 rfl) ?_
  refine lv_iload_n hx hb dL_separator_3 rfl (lv_at hl 1 rfl) ?_
  refine lv_iload_n hx hb dL_separator_4 rfl (lv_at hl 2 rfl) ?_
  have hPc := hP.sub (ws' := [(q, .inr (6, [.ref s0, .ref s1, .ref s2])), (s1, .inr (3, [.ref tq, .ref rq, .ref uq])), (tq, .inr (4, [.ref ca, .long sm, .int (oI lo)])), (ca, .inl (cJ, 64, .inr (.inl fc))), (rq, .inr (5, [.ref rb])), (rb, .inr (0, [.ref rd])), (rd, .inl (cJ, 128, .inr (.inl ft))), (uq, .inr (1, [.ref bm, .ref bs])), (bm, .inr (0, [.ref am])), (am, .inl (cJ, 64, .inr (.inl fm))), (bs, .inr (0, [.ref ap])), (ap, .inl (cJ, 64, .inr (.inl fs)))]) [0, 1, 2, 3, 4, 5, 6, 7, 8, 9, 10, 11] rfl
  have hKc := hK.sub (tys' := [(cJ, .long)]) [0] rfl
  have hDc := hD.sub (ws' := [(q, .inr (6, [.ref s0, .ref s1, .ref s2])), (s1, .inr (3, [.ref tq, .ref rq, .ref uq])), (tq, .inr (4, [.ref ca, .long sm, .int (oI lo)])), (ca, .inl (cJ, 64, .inr (.inl fc))), (rq, .inr (5, [.ref rb])), (rb, .inr (0, [.ref rd])), (rd, .inl (cJ, 128, .inr (.inl ft))), (uq, .inr (1, [.ref bm, .ref bs])), (bm, .inr (0, [.ref am])), (am, .inl (cJ, 64, .inr (.inl fm))), (bs, .inr (0, [.ref ap])), (ap, .inl (cJ, 64, .inr (.inl fs)))]) [0, 1, 2, 3, 4, 5, 6, 7, 8, 9, 10, 11] (by decide) rfl
  refine vx_callv (vx_runV (As := [.int (nI 1), .int w]) (rest := [.int (nI 0), .ref oq]) ⟨hx, hb, hml, hown, hts⟩ (x_X7_separator_p1 l hls dC dI q s0 s1 s2 tq ca rq rb rd uq bm am bs ap cJ fm fs ft fc sm lo w sa s.heap.size (by first | assumption | omega) (by first | assumption | omega)) (cwV 2 hts gL_separator_X7_separator rfl rfl rfl (by decide +kernel) ⟨Nat.le_of_ble_eq_true rfl, Nat.le_of_ble_eq_true rfl⟩) ⟨fun a U g mk q => by obtain ⟨q0, nq0, q1, qT, qP, qK, qD⟩ := q; exact ⟨q0, va_Nw.same rfl (U := U.calling g mk a) rfl nq0, q1, TW.same (u := U) (U := U.calling g mk a) rfl qT, qP, va_K.moved (u := U) (U := U.calling g mk a) (Vm.Alike.refl U.vm) qK, qD⟩, va_recv hKc hPc (ci := 6) (q0 := 0) rfl rfl, fun U hU hW => ⟨rfl, va_Nw.warmF hW nw0, by rw [hU], by rw [hU]; exact TW.warm hW hT, by rw [hU]; exact hPc, va_K.moved hW.alike hKc, hDc.weaken (fun _ _ _ _ => trivial)⟩⟩ rfl rfl hl.1 rfl (lv_room (Nat.le_of_ble_eq_true rfl)) dL_separator_5 ⟨Nat.le_of_ble_eq_true rfl, Nat.le_of_ble_eq_true rfl⟩) hS (fun q h9 h8 => absurd h8 (Nat.not_le_of_lt h9)) (fun q h8 => hA q (Nat.le_trans hS.1 h8)) (fun q h9 h8 => absurd h8 (Nat.not_le_of_lt h9)) (fun E9 ce9 q9 u9 t9 H locs ht9 hvm9 hu9 hE9 hz9 hk9 hS hce9 hcv9 hcl9 => ?_) (fun u9 t9 H9 l9 ht9 hvm9 hu9 hB9 hz9 hk9 hS9 => hu9.elim)
  subst hE9
  have hP := hP.kept (H1 := H) (fun k q hk => hk9 _ (vx_lt hP hk) (Nat.not_le_of_lt (vx_lt hP hk)))
  refine vx_catch (name := "java/lang/IndexOutOfBoundsException") hown [] ⟨0, 10, 13, 13⟩ [] (htab.trans rfl) (fun z hz => nomatch hz) rfl (by decide) (hts (.classLink RL 13 "java/lang/IndexOutOfBoundsException") (by decide +kernel)) (va_Nw.use rfl hT.2.2.2.2.2.2) hce9 hcv9 hcl9 ?_
  refine W.cs (cells' := 1) (slots' := 6) rfl rfl ?_
  refine lv_astore (lv' := [(4, .ref q9), (0, .ref q), (1, .int (nI 1)), (2, .int w), (3, .ref oq)]) hx hb dL_separator_13 hl (by decide) rfl (fun ls hl => ?_)
  refine lv_iconst (v := nI 1) hx hb dL_separator_15 (by decide +kernel) ?_
  have hP9 := hP.sub (ws' := [(q, .inr (6, [.ref s0, .ref s1, .ref s2])), (s1, .inr (3, [.ref tq, .ref rq, .ref uq])), (tq, .inr (4, [.ref ca, .long sm, .int (oI lo)])), (ca, .inl (cJ, 64, .inr (.inl fc))), (rq, .inr (5, [.ref rb])), (rb, .inr (0, [.ref rd])), (rd, .inl (cJ, 128, .inr (.inl ft))), (uq, .inr (1, [.ref bm, .ref bs])), (bm, .inr (0, [.ref am])), (am, .inl (cJ, 64, .inr (.inl fm))), (bs, .inr (0, [.ref ap])), (ap, .inl (cJ, 64, .inr (.inl fs)))]) [0, 1, 2, 3, 4, 5, 6, 7, 8, 9, 10, 11] rfl
  have hD9 := hD.sub (ws' := [(q, .inr (6, [.ref s0, .ref s1, .ref s2])), (s1, .inr (3, [.ref tq, .ref rq, .ref uq])), (tq, .inr (4, [.ref ca, .long sm, .int (oI lo)])), (ca, .inl (cJ, 64, .inr (.inl fc))), (rq, .inr (5, [.ref rb])), (rb, .inr (0, [.ref rd])), (rd, .inl (cJ, 128, .inr (.inl ft))), (uq, .inr (1, [.ref bm, .ref bs])), (bm, .inr (0, [.ref am])), (am, .inl (cJ, 64, .inr (.inl fm))), (bs, .inr (0, [.ref ap])), (ap, .inl (cJ, 64, .inr (.inl fs)))]) [0, 1, 2, 3, 4, 5, 6, 7, 8, 9, 10, 11] (by decide) rfl
  have hK9 := hK.sub (tys' := [(cJ, .long)]) [0] rfl
  exact W.iret (v := nI 1) hx hb hr (fun t9 ht hW => ⟨⟨nI 1, (), rfl, rfl, by rw [ht]; exact hP9, va_K.moved hW.alike hK9, hD9⟩, hS.F ht⟩) hS.2.2 dL_separator_16
set_option maxHeartbeats 4000000 in
set_option maxRecDepth 100000 in
/-- law: bucketSize, bucketSize_p1 -/
theorem c_L_bucketSize_p1 (l : Launch) (hls : l.stackTraces = false) (dC : Nat → ClassId) (dI : Nat → Nat → Nat) (q : Nat) (s0 : Nat) (s1 : Nat) (s2 : Nat) (tq : Nat) (ca : Nat) (rq : Nat) (rb : Nat) (rd : Nat) (uq : Nat) (bm : Nat) (am : Nat) (bs : Nat) (ap : Nat) (cJ : ClassId) (fm : Nat → Int64) (fs : Nat → Int64) (ft : Nat → Int64) (fc : Nat → Int64) (sm : Int64) (lo : Option Nat) (w : Int32) (oq : Nat) (sa : Nat) (sz : Nat) (hN : NI fm fs ft fc sm lo) (hW : pl w (fb_ct (bo fs) 4096) = false) : Met l yL_bucketSize wsL_bucketSize ({ frames := 8, cells := 1, slots := 6, locals := 126 }) (va_Pc [.ref q, .int (nI 1), .int w, .ref oq] (fun U => va_Nw (.fieldLinkNest RX7 38 "SmallNumberSets$NumberSet" "buckets" "LSmallNumberSets$Buckets;" "SmallNumberSets") U ∧ TW "java/lang/IndexOutOfBoundsException" 165 "no such cluster, level, place or bucket" sa (fun q => sz ≤ q) U U.heap ∧ U.heap.size = sz ∧ va_P (dC, dI) vwCl [(q, .inr (6, [.ref s0, .ref s1, .ref s2])), (s1, .inr (3, [.ref tq, .ref rq, .ref uq])), (tq, .inr (4, [.ref ca, .long sm, .int (oI lo)])), (ca, .inl (cJ, 64, .inr (.inl fc))), (rq, .inr (5, [.ref rb])), (rb, .inr (0, [.ref rd])), (rd, .inl (cJ, 128, .inr (.inl ft))), (uq, .inr (1, [.ref bm, .ref bs])), (bm, .inr (0, [.ref am])), (am, .inl (cJ, 64, .inr (.inl fm))), (bs, .inr (0, [.ref ap])), (ap, .inl (cJ, 64, .inr (.inl fs)))] U.heap ∧ va_K (dC, dI) vwCl [(cJ, .long)] U ∧ va_D (fun _ => True) [(q, .inr (6, [.ref s0, .ref s1, .ref s2])), (s1, .inr (3, [.ref tq, .ref rq, .ref uq])), (tq, .inr (4, [.ref ca, .long sm, .int (oI lo)])), (ca, .inl (cJ, 64, .inr (.inl fc))), (rq, .inr (5, [.ref rb])), (rb, .inr (0, [.ref rd])), (rd, .inl (cJ, 128, .inr (.inl ft))), (uq, .inr (1, [.ref bm, .ref bs])), (bm, .inr (0, [.ref am])), (am, .inl (cJ, 64, .inr (.inl fm))), (bs, .inr (0, [.ref ap])), (ap, .inl (cJ, 64, .inr (.inl fs)))])) (va_Qi (fun (r : Int32) (u : Unit) => r = nI 1) (fun (u : Unit) (t : State) => va_P (dC, dI) vwCl [(q, .inr (6, [.ref s0, .ref s1, .ref s2])), (s1, .inr (3, [.ref tq, .ref rq, .ref uq])), (tq, .inr (4, [.ref ca, .long sm, .int (oI lo)])), (ca, .inl (cJ, 64, .inr (.inl fc))), (rq, .inr (5, [.ref rb])), (rb, .inr (0, [.ref rd])), (rd, .inl (cJ, 128, .inr (.inl ft))), (uq, .inr (1, [.ref bm, .ref bs])), (bm, .inr (0, [.ref am])), (am, .inl (cJ, 64, .inr (.inl fm))), (bs, .inr (0, [.ref ap])), (ap, .inl (cJ, 64, .inr (.inl fs)))] t.heap ∧ va_K (dC, dI) vwCl [(cJ, .long)] t ∧ va_D (va_A [(q, .inr (6, [.ref s0, .ref s1, .ref s2])), (s1, .inr (3, [.ref tq, .ref rq, .ref uq])), (tq, .inr (4, [.ref ca, .long sm, .int (oI lo)])), (ca, .inl (cJ, 64, .inr (.inl fc))), (rq, .inr (5, [.ref rb])), (rb, .inr (0, [.ref rd])), (rd, .inl (cJ, 128, .inr (.inl ft))), (uq, .inr (1, [.ref bm, .ref bs])), (bm, .inr (0, [.ref am])), (am, .inl (cJ, 64, .inr (.inl fm))), (bs, .inr (0, [.ref ap])), (ap, .inl (cJ, 64, .inr (.inl fs)))] sz) [(q, .inr (6, [.ref s0, .ref s1, .ref s2])), (s1, .inr (3, [.ref tq, .ref rq, .ref uq])), (tq, .inr (4, [.ref ca, .long sm, .int (oI lo)])), (ca, .inl (cJ, 64, .inr (.inl fc))), (rq, .inr (5, [.ref rb])), (rb, .inr (0, [.ref rd])), (rd, .inl (cJ, 128, .inr (.inl ft))), (uq, .inr (1, [.ref bm, .ref bs])), (bm, .inr (0, [.ref am])), (am, .inl (cJ, 64, .inr (.inl fm))), (bs, .inr (0, [.ref ap])), (ap, .inl (cJ, 64, .inr (.inl fs)))]) (va_A [(q, .inr (6, [.ref s0, .ref s1, .ref s2])), (s1, .inr (3, [.ref tq, .ref rq, .ref uq])), (tq, .inr (4, [.ref ca, .long sm, .int (oI lo)])), (ca, .inl (cJ, 64, .inr (.inl fc))), (rq, .inr (5, [.ref rb])), (rb, .inr (0, [.ref rd])), (rd, .inl (cJ, 128, .inr (.inl ft))), (uq, .inr (1, [.ref bm, .ref bs])), (bm, .inr (0, [.ref am])), (am, .inl (cJ, 64, .inr (.inl fm))), (bs, .inr (0, [.ref ap])), (ap, .inl (cJ, 64, .inr (.inl fs)))] sz)) 1 6 (va_A [(q, .inr (6, [.ref s0, .ref s1, .ref s2])), (s1, .inr (3, [.ref tq, .ref rq, .ref uq])), (tq, .inr (4, [.ref ca, .long sm, .int (oI lo)])), (ca, .inl (cJ, 64, .inr (.inl fc))), (rq, .inr (5, [.ref rb])), (rb, .inr (0, [.ref rd])), (rd, .inl (cJ, 128, .inr (.inl ft))), (uq, .inr (1, [.ref bm, .ref bs])), (bm, .inr (0, [.ref am])), (am, .inl (cJ, 64, .inr (.inl fm))), (bs, .inr (0, [.ref ap])), (ap, .inl (cJ, 64, .inr (.inl fs)))] sz) := by
  refine va_MetW (cc := cL_bucketSize) (maxL := 5) (ret := (some .int)) (hh := [(0, 10, 13, 13)]) (by decide) rfl ?_
  intro p e s m args below meth c s₁ B hml hv
  obtain ⟨rfl, nw0, hT, hsz, hP, hK, hD0⟩ := hv
  have hx := B.exec
  have hb := B.bytes
  have hr := B.returns
  have hts := atoms_spec (ws := wsL_bucketSize) B.pre
  have hown : s.vm.findClass RL = some m.cls := findClass_of_methodNamed B.named
  have hlocks := B.notSynchronized
  have htab : c.exceptionTable.toList = tableOf [(0, 10, 13, 13)] := vx_table (x := yL_bucketSize) B (hts _ List.mem_cons_self)
  subst hsz
  have hD := hD0.self (sz := s.heap.size)
  generalize hAe : va_A [(q, .inr (6, [.ref s0, .ref s1, .ref s2])), (s1, .inr (3, [.ref tq, .ref rq, .ref uq])), (tq, .inr (4, [.ref ca, .long sm, .int (oI lo)])), (ca, .inl (cJ, 64, .inr (.inl fc))), (rq, .inr (5, [.ref rb])), (rb, .inr (0, [.ref rd])), (rd, .inl (cJ, 128, .inr (.inl ft))), (uq, .inr (1, [.ref bm, .ref bs])), (bm, .inr (0, [.ref am])), (am, .inl (cJ, 64, .inr (.inl fm))), (bs, .inr (0, [.ref ap])), (ap, .inl (cJ, 64, .inr (.inl fs)))] s.heap.size = A at hD ⊢
  have hA : ∀ q : Nat, s.heap.size ≤ q → A q := fun q h => by rw [← hAe]; exact Or.inr h
  have hS : va_S A s.heap s.heap [] := va_S.rf
  have hP : va_P (dC, dI) vwCl [(q, .inr (6, [.ref s0, .ref s1, .ref s2])), (s1, .inr (3, [.ref tq, .ref rq, .ref uq])), (tq, .inr (4, [.ref ca, .long sm, .int (oI lo)])), (ca, .inl (cJ, 64, .inr (.inl fc))), (rq, .inr (5, [.ref rb])), (rb, .inr (0, [.ref rd])), (rd, .inl (cJ, 128, .inr (.inl ft))), (uq, .inr (1, [.ref bm, .ref bs])), (bm, .inr (0, [.ref am])), (am, .inl (cJ, 64, .inr (.inl fm))), (bs, .inr (0, [.ref ap])), (ap, .inl (cJ, 64, .inr (.inl fs)))] s.heap := hP
  have hl := lv_entry ([.ref q, .int (nI 1), .int w, .ref oq]) (n := 5) (Nat.le_of_ble_eq_true rfl)
  rw [lg_entry_eq]
  generalize (lg_sl ([.ref q, .int (nI 1), .int w, .ref oq]) ++ List.replicate (5 - (lg_sl ([.ref q, .int (nI 1), .int w, .ref oq])).length) Slot.unset).toArray = ls at hl ⊢
  have hl : lv_has ls 5 [(0, .ref q), (1, .int (nI 1)), (2, .int w), (3, .ref oq)] := hl
  refine lv_aload_n hx hb dL_bucketSize_0 rfl (lv_at hl 3 rfl) ?_
  refine lv_iconst (v := nI 0) hx hb dL_bucketSize_1 (by decide +kernel) ?_
  refine lv_aload_n hx hb dL_bucketSize_2 rfl (lv_at hl 0 rfl) ?_
  refine lv_iload_n hx hb dL_bucketSize_3 rfl (lv_at hl 1 rfl) ?_
  refine lv_iload_n hx hb dL_bucketSize_4 rfl (lv_at hl 2 rfl) ?_
  have hPc := hP.sub (ws' := [(q, .inr (6, [.ref s0, .ref s1, .ref s2])), (s1, .inr (3, [.ref tq, .ref rq, .ref uq])), (tq, .inr (4, [.ref ca, .long sm, .int (oI lo)])), (ca, .inl (cJ, 64, .inr (.inl fc))), (rq, .inr (5, [.ref rb])), (rb, .inr (0, [.ref rd])), (rd, .inl (cJ, 128, .inr (.inl ft))), (uq, .inr (1, [.ref bm, .ref bs])), (bm, .inr (0, [.ref am])), (am, .inl (cJ, 64, .inr (.inl fm))), (bs, .inr (0, [.ref ap])), (ap, .inl (cJ, 64, .inr (.inl fs)))]) [0, 1, 2, 3, 4, 5, 6, 7, 8, 9, 10, 11] rfl
  have hKc := hK.sub (tys' := [(cJ, .long)]) [0] rfl
  have hDc := hD.sub (ws' := [(q, .inr (6, [.ref s0, .ref s1, .ref s2])), (s1, .inr (3, [.ref tq, .ref rq, .ref uq])), (tq, .inr (4, [.ref ca, .long sm, .int (oI lo)])), (ca, .inl (cJ, 64, .inr (.inl fc))), (rq, .inr (5, [.ref rb])), (rb, .inr (0, [.ref rd])), (rd, .inl (cJ, 128, .inr (.inl ft))), (uq, .inr (1, [.ref bm, .ref bs])), (bm, .inr (0, [.ref am])), (am, .inl (cJ, 64, .inr (.inl fm))), (bs, .inr (0, [.ref ap])), (ap, .inl (cJ, 64, .inr (.inl fs)))]) [0, 1, 2, 3, 4, 5, 6, 7, 8, 9, 10, 11] (by decide) rfl
  refine vx_callv (vx_runV (As := [.int (nI 1), .int w]) (rest := [.int (nI 0), .ref oq]) ⟨hx, hb, hml, hown, hts⟩ (x_X7_bucketSize_p1 l hls dC dI q s0 s1 s2 tq ca rq rb rd uq bm am bs ap cJ fm fs ft fc sm lo w sa s.heap.size (by first | assumption | omega) (by first | assumption | omega)) (cwV 2 hts gL_bucketSize_X7_bucketSize rfl rfl rfl (by decide +kernel) ⟨Nat.le_of_ble_eq_true rfl, Nat.le_of_ble_eq_true rfl⟩) ⟨fun a U g mk q => by obtain ⟨q0, nq0, q1, qT, qP, qK, qD⟩ := q; exact ⟨q0, va_Nw.same rfl (U := U.calling g mk a) rfl nq0, q1, TW.same (u := U) (U := U.calling g mk a) rfl qT, qP, va_K.moved (u := U) (U := U.calling g mk a) (Vm.Alike.refl U.vm) qK, qD⟩, va_recv hKc hPc (ci := 6) (q0 := 0) rfl rfl, fun U hU hW => ⟨rfl, va_Nw.warmF hW nw0, by rw [hU], by rw [hU]; exact TW.warm hW hT, by rw [hU]; exact hPc, va_K.moved hW.alike hKc, hDc.weaken (fun _ _ _ _ => trivial)⟩⟩ rfl rfl hl.1 rfl (lv_room (Nat.le_of_ble_eq_true rfl)) dL_bucketSize_5 ⟨Nat.le_of_ble_eq_true rfl, Nat.le_of_ble_eq_true rfl⟩) hS (fun q h9 h8 => absurd h8 (Nat.not_le_of_lt h9)) (fun q h8 => hA q (Nat.le_trans hS.1 h8)) (fun q h9 h8 => absurd h8 (Nat.not_le_of_lt h9)) (fun E9 ce9 q9 u9 t9 H locs ht9 hvm9 hu9 hE9 hz9 hk9 hS hce9 hcv9 hcl9 => ?_) (fun u9 t9 H9 l9 ht9 hvm9 hu9 hB9 hz9 hk9 hS9 => hu9.elim)
  subst hE9
  have hP := hP.kept (H1 := H) (fun k q hk => hk9 _ (vx_lt hP hk) (Nat.not_le_of_lt (vx_lt hP hk)))
  refine vx_catch (name := "java/lang/IndexOutOfBoundsException") hown [] ⟨0, 10, 13, 13⟩ [] (htab.trans rfl) (fun z hz => nomatch hz) rfl (by decide) (hts (.classLink RL 13 "java/lang/IndexOutOfBoundsException") (by decide +kernel)) (va_Nw.use rfl hT.2.2.2.2.2.2) hce9 hcv9 hcl9 ?_
  refine W.cs (cells' := 1) (slots' := 6) rfl rfl ?_
  refine lv_astore (lv' := [(4, .ref q9), (0, .ref q), (1, .int (nI 1)), (2, .int w), (3, .ref oq)]) hx hb dL_bucketSize_13 hl (by decide) rfl (fun ls hl => ?_)
  refine lv_iconst (v := nI 1) hx hb dL_bucketSize_15 (by decide +kernel) ?_
  have hP9 := hP.sub (ws' := [(q, .inr (6, [.ref s0, .ref s1, .ref s2])), (s1, .inr (3, [.ref tq, .ref rq, .ref uq])), (tq, .inr (4, [.ref ca, .long sm, .int (oI lo)])), (ca, .inl (cJ, 64, .inr (.inl fc))), (rq, .inr (5, [.ref rb])), (rb, .inr (0, [.ref rd])), (rd, .inl (cJ, 128, .inr (.inl ft))), (uq, .inr (1, [.ref bm, .ref bs])), (bm, .inr (0, [.ref am])), (am, .inl (cJ, 64, .inr (.inl fm))), (bs, .inr (0, [.ref ap])), (ap, .inl (cJ, 64, .inr (.inl fs)))]) [0, 1, 2, 3, 4, 5, 6, 7, 8, 9, 10, 11] rfl
  have hD9 := hD.sub (ws' := [(q, .inr (6, [.ref s0, .ref s1, .ref s2])), (s1, .inr (3, [.ref tq, .ref rq, .ref uq])), (tq, .inr (4, [.ref ca, .long sm, .int (oI lo)])), (ca, .inl (cJ, 64, .inr (.inl fc))), (rq, .inr (5, [.ref rb])), (rb, .inr (0, [.ref rd])), (rd, .inl (cJ, 128, .inr (.inl ft))), (uq, .inr (1, [.ref bm, .ref bs])), (bm, .inr (0, [.ref am])), (am, .inl (cJ, 64, .inr (.inl fm))), (bs, .inr (0, [.ref ap])), (ap, .inl (cJ, 64, .inr (.inl fs)))]) [0, 1, 2, 3, 4, 5, 6, 7, 8, 9, 10, 11] (by decide) rfl
  have hK9 := hK.sub (tys' := [(cJ, .long)]) [0] rfl
  exact W.iret (v := nI 1) hx hb hr (fun t9 ht hW => ⟨⟨nI 1, (), rfl, rfl, by rw [ht]; exact hP9, va_K.moved hW.alike hK9, hD9⟩, hS.F ht⟩) hS.2.2 dL_bucketSize_16
set_option maxHeartbeats 4000000 in
set_option maxRecDepth 100000 in
/-- law: pollFirst, pollFirst_e1 -/
theorem c_L_pollFirst_e1 (l : Launch) (hls : l.stackTraces = false) (dC : Nat → ClassId) (dI : Nat → Nat → Nat) (q : Nat) (s0 : Nat) (s1 : Nat) (s2 : Nat) (tq : Nat) (ca : Nat) (rq : Nat) (rb : Nat) (rd : Nat) (uq : Nat) (bm : Nat) (am : Nat) (bs : Nat) (ap : Nat) (cJ : ClassId) (fm : Nat → Int64) (fs : Nat → Int64) (ft : Nat → Int64) (fc : Nat → Int64) (sm : Int64) (lo : Option Nat) (oq : Nat) (sa : Nat) (sz : Nat) (hN : NI fm fs ft fc sm lo) (hz : fst1 (bo fm) 4096 = none) : Met l yL_pollFirst wsL_pollFirst ({ frames := 8, cells := 1, slots := 6, locals := 125 }) (va_Pc [.ref q, .int (nI 1), .ref oq] (fun U => va_Nw (.fieldLinkNest RX7 62 "SmallNumberSets$NumberSet" "tree" "LSmallNumberSets$Tree;" "SmallNumberSets") U ∧ TW "java/util/NoSuchElementException" 162 "the set is empty" sa (fun q => sz ≤ q) U U.heap ∧ va_Nc "java/util/NoSuchElementException" "java/lang/IndexOutOfBoundsException" U ∧ U.heap.size = sz ∧ va_P (dC, dI) vwCl [(q, .inr (6, [.ref s0, .ref s1, .ref s2])), (s1, .inr (3, [.ref tq, .ref rq, .ref uq])), (tq, .inr (4, [.ref ca, .long sm, .int (oI lo)])), (ca, .inl (cJ, 64, .inr (.inl fc))), (rq, .inr (5, [.ref rb])), (rb, .inr (0, [.ref rd])), (rd, .inl (cJ, 128, .inr (.inl ft))), (uq, .inr (1, [.ref bm, .ref bs])), (bm, .inr (0, [.ref am])), (am, .inl (cJ, 64, .inr (.inl fm))), (bs, .inr (0, [.ref ap])), (ap, .inl (cJ, 64, .inr (.inl fs)))] U.heap ∧ va_K (dC, dI) vwCl [(cJ, .long)] U ∧ va_D (fun _ => True) [(q, .inr (6, [.ref s0, .ref s1, .ref s2])), (s1, .inr (3, [.ref tq, .ref rq, .ref uq])), (tq, .inr (4, [.ref ca, .long sm, .int (oI lo)])), (ca, .inl (cJ, 64, .inr (.inl fc))), (rq, .inr (5, [.ref rb])), (rb, .inr (0, [.ref rd])), (rd, .inl (cJ, 128, .inr (.inl ft))), (uq, .inr (1, [.ref bm, .ref bs])), (bm, .inr (0, [.ref am])), (am, .inl (cJ, 64, .inr (.inl fm))), (bs, .inr (0, [.ref ap])), (ap, .inl (cJ, 64, .inr (.inl fs)))])) (va_Qi (fun (r : Int32) (u : Unit) => r = nI 2) (fun (u : Unit) (t : State) => va_P (dC, dI) vwCl [(q, .inr (6, [.ref s0, .ref s1, .ref s2])), (s1, .inr (3, [.ref tq, .ref rq, .ref uq])), (tq, .inr (4, [.ref ca, .long sm, .int (oI lo)])), (ca, .inl (cJ, 64, .inr (.inl fc))), (rq, .inr (5, [.ref rb])), (rb, .inr (0, [.ref rd])), (rd, .inl (cJ, 128, .inr (.inl ft))), (uq, .inr (1, [.ref bm, .ref bs])), (bm, .inr (0, [.ref am])), (am, .inl (cJ, 64, .inr (.inl fm))), (bs, .inr (0, [.ref ap])), (ap, .inl (cJ, 64, .inr (.inl fs)))] t.heap ∧ va_K (dC, dI) vwCl [(cJ, .long)] t ∧ va_D (va_A [(q, .inr (6, [.ref s0, .ref s1, .ref s2])), (s1, .inr (3, [.ref tq, .ref rq, .ref uq])), (tq, .inr (4, [.ref ca, .long sm, .int (oI lo)])), (ca, .inl (cJ, 64, .inr (.inl fc))), (rq, .inr (5, [.ref rb])), (rb, .inr (0, [.ref rd])), (rd, .inl (cJ, 128, .inr (.inl ft))), (uq, .inr (1, [.ref bm, .ref bs])), (bm, .inr (0, [.ref am])), (am, .inl (cJ, 64, .inr (.inl fm))), (bs, .inr (0, [.ref ap])), (ap, .inl (cJ, 64, .inr (.inl fs)))] sz) [(q, .inr (6, [.ref s0, .ref s1, .ref s2])), (s1, .inr (3, [.ref tq, .ref rq, .ref uq])), (tq, .inr (4, [.ref ca, .long sm, .int (oI lo)])), (ca, .inl (cJ, 64, .inr (.inl fc))), (rq, .inr (5, [.ref rb])), (rb, .inr (0, [.ref rd])), (rd, .inl (cJ, 128, .inr (.inl ft))), (uq, .inr (1, [.ref bm, .ref bs])), (bm, .inr (0, [.ref am])), (am, .inl (cJ, 64, .inr (.inl fm))), (bs, .inr (0, [.ref ap])), (ap, .inl (cJ, 64, .inr (.inl fs)))]) (va_A [(q, .inr (6, [.ref s0, .ref s1, .ref s2])), (s1, .inr (3, [.ref tq, .ref rq, .ref uq])), (tq, .inr (4, [.ref ca, .long sm, .int (oI lo)])), (ca, .inl (cJ, 64, .inr (.inl fc))), (rq, .inr (5, [.ref rb])), (rb, .inr (0, [.ref rd])), (rd, .inl (cJ, 128, .inr (.inl ft))), (uq, .inr (1, [.ref bm, .ref bs])), (bm, .inr (0, [.ref am])), (am, .inl (cJ, 64, .inr (.inl fm))), (bs, .inr (0, [.ref ap])), (ap, .inl (cJ, 64, .inr (.inl fs)))] sz)) 1 6 (va_A [(q, .inr (6, [.ref s0, .ref s1, .ref s2])), (s1, .inr (3, [.ref tq, .ref rq, .ref uq])), (tq, .inr (4, [.ref ca, .long sm, .int (oI lo)])), (ca, .inl (cJ, 64, .inr (.inl fc))), (rq, .inr (5, [.ref rb])), (rb, .inr (0, [.ref rd])), (rd, .inl (cJ, 128, .inr (.inl ft))), (uq, .inr (1, [.ref bm, .ref bs])), (bm, .inr (0, [.ref am])), (am, .inl (cJ, 64, .inr (.inl fm))), (bs, .inr (0, [.ref ap])), (ap, .inl (cJ, 64, .inr (.inl fs)))] sz) := by
  refine va_MetW (cc := cL_pollFirst) (maxL := 4) (ret := (some .int)) (hh := [(0, 9, 12, 13), (0, 9, 15, 34)]) (by decide) rfl ?_
  intro p e s m args below meth c s₁ B hml hv
  obtain ⟨rfl, nw0, hT, hNc0, hsz, hP, hK, hD0⟩ := hv
  have hx := B.exec
  have hb := B.bytes
  have hr := B.returns
  have hts := atoms_spec (ws := wsL_pollFirst) B.pre
  have hown : s.vm.findClass RL = some m.cls := findClass_of_methodNamed B.named
  have hlocks := B.notSynchronized
  have htab : c.exceptionTable.toList = tableOf [(0, 9, 12, 13), (0, 9, 15, 34)] := vx_table (x := yL_pollFirst) B (hts _ List.mem_cons_self)
  subst hsz
  have hD := hD0.self (sz := s.heap.size)
  generalize hAe : va_A [(q, .inr (6, [.ref s0, .ref s1, .ref s2])), (s1, .inr (3, [.ref tq, .ref rq, .ref uq])), (tq, .inr (4, [.ref ca, .long sm, .int (oI lo)])), (ca, .inl (cJ, 64, .inr (.inl fc))), (rq, .inr (5, [.ref rb])), (rb, .inr (0, [.ref rd])), (rd, .inl (cJ, 128, .inr (.inl ft))), (uq, .inr (1, [.ref bm, .ref bs])), (bm, .inr (0, [.ref am])), (am, .inl (cJ, 64, .inr (.inl fm))), (bs, .inr (0, [.ref ap])), (ap, .inl (cJ, 64, .inr (.inl fs)))] s.heap.size = A at hD ⊢
  have hA : ∀ q : Nat, s.heap.size ≤ q → A q := fun q h => by rw [← hAe]; exact Or.inr h
  have hS : va_S A s.heap s.heap [] := va_S.rf
  have hP : va_P (dC, dI) vwCl [(q, .inr (6, [.ref s0, .ref s1, .ref s2])), (s1, .inr (3, [.ref tq, .ref rq, .ref uq])), (tq, .inr (4, [.ref ca, .long sm, .int (oI lo)])), (ca, .inl (cJ, 64, .inr (.inl fc))), (rq, .inr (5, [.ref rb])), (rb, .inr (0, [.ref rd])), (rd, .inl (cJ, 128, .inr (.inl ft))), (uq, .inr (1, [.ref bm, .ref bs])), (bm, .inr (0, [.ref am])), (am, .inl (cJ, 64, .inr (.inl fm))), (bs, .inr (0, [.ref ap])), (ap, .inl (cJ, 64, .inr (.inl fs)))] s.heap := hP
  have hl := lv_entry ([.ref q, .int (nI 1), .ref oq]) (n := 4) (Nat.le_of_ble_eq_true rfl)
  rw [lg_entry_eq]
  generalize (lg_sl ([.ref q, .int (nI 1), .ref oq]) ++ List.replicate (4 - (lg_sl ([.ref q, .int (nI 1), .ref oq])).length) Slot.unset).toArray = ls at hl ⊢
  have hl : lv_has ls 4 [(0, .ref q), (1, .int (nI 1)), (2, .ref oq)] := hl
  refine lv_aload_n hx hb dL_pollFirst_0 rfl (lv_at hl 2 rfl) ?_
  refine lv_iconst (v := nI 0) hx hb dL_pollFirst_1 (by decide +kernel) ?_
  refine lv_aload_n hx hb dL_pollFirst_2 rfl (lv_at hl 0 rfl) ?_
  refine lv_iload_n hx hb dL_pollFirst_3 rfl (lv_at hl 1 rfl) ?_
  have hPc := hP.sub (ws' := [(q, .inr (6, [.ref s0, .ref s1, .ref s2])), (s1, .inr (3, [.ref tq, .ref rq, .ref uq])), (tq, .inr (4, [.ref ca, .long sm, .int (oI lo)])), (ca, .inl (cJ, 64, .inr (.inl fc))), (rq, .inr (5, [.ref rb])), (rb, .inr (0, [.ref rd])), (rd, .inl (cJ, 128, .inr (.inl ft))), (uq, .inr (1, [.ref bm, .ref bs])), (bm, .inr (0, [.ref am])), (am, .inl (cJ, 64, .inr (.inl fm))), (bs, .inr (0, [.ref ap])), (ap, .inl (cJ, 64, .inr (.inl fs)))]) [0, 1, 2, 3, 4, 5, 6, 7, 8, 9, 10, 11] rfl
  have hKc := hK.sub (tys' := [(cJ, .long)]) [0] rfl
  have hDc := hD.sub (ws' := [(q, .inr (6, [.ref s0, .ref s1, .ref s2])), (s1, .inr (3, [.ref tq, .ref rq, .ref uq])), (tq, .inr (4, [.ref ca, .long sm, .int (oI lo)])), (ca, .inl (cJ, 64, .inr (.inl fc))), (rq, .inr (5, [.ref rb])), (rb, .inr (0, [.ref rd])), (rd, .inl (cJ, 128, .inr (.inl ft))), (uq, .inr (1, [.ref bm, .ref bs])), (bm, .inr (0, [.ref am])), (am, .inl (cJ, 64, .inr (.inl fm))), (bs, .inr (0, [.ref ap])), (ap, .inl (cJ, 64, .inr (.inl fs)))]) [0, 1, 2, 3, 4, 5, 6, 7, 8, 9, 10, 11] (by decide) rfl
  refine vx_callv (vx_runV (As := [.int (nI 1)]) (rest := [.int (nI 0), .ref oq]) ⟨hx, hb, hml, hown, hts⟩ (x_X7_pollFirst_e1 l hls dC dI q s0 s1 s2 tq ca rq rb rd uq bm am bs ap cJ fm fs ft fc sm lo sa s.heap.size (by first | assumption | omega) (by first | assumption | omega)) (cwV 1 hts gL_pollFirst_X7_pollFirst rfl rfl rfl (by decide +kernel) ⟨Nat.le_of_ble_eq_true rfl, Nat.le_of_ble_eq_true rfl⟩) ⟨fun a U g mk q => by obtain ⟨q0, nq0, q1, qT, qP, qK, qD⟩ := q; exact ⟨q0, va_Nw.same rfl (U := U.calling g mk a) rfl nq0, q1, TW.same (u := U) (U := U.calling g mk a) rfl qT, qP, va_K.moved (u := U) (U := U.calling g mk a) (Vm.Alike.refl U.vm) qK, qD⟩, va_recv hKc hPc (ci := 6) (q0 := 0) rfl rfl, fun U hU hW => ⟨rfl, va_Nw.warmF hW nw0, by rw [hU], by rw [hU]; exact TW.warm hW hT, by rw [hU]; exact hPc, va_K.moved hW.alike hKc, hDc.weaken (fun _ _ _ _ => trivial)⟩⟩ rfl rfl hl.1 rfl (lv_room (Nat.le_of_ble_eq_true rfl)) dL_pollFirst_4 ⟨Nat.le_of_ble_eq_true rfl, Nat.le_of_ble_eq_true rfl⟩) hS (fun q h9 h8 => absurd h8 (Nat.not_le_of_lt h9)) (fun q h8 => hA q (Nat.le_trans hS.1 h8)) (fun q h9 h8 => absurd h8 (Nat.not_le_of_lt h9)) (fun E9 ce9 q9 u9 t9 H locs ht9 hvm9 hu9 hE9 hz9 hk9 hS hce9 hcv9 hcl9 => ?_) (fun u9 t9 H9 l9 ht9 hvm9 hu9 hB9 hz9 hk9 hS9 => hu9.elim)
  subst hE9
  have hP := hP.kept (H1 := H) (fun k q hk => hk9 _ (vx_lt hP hk) (Nat.not_le_of_lt (vx_lt hP hk)))
  refine vx_catch (name := "java/util/NoSuchElementException") hown [⟨0, 9, 12, 13⟩] ⟨0, 9, 15, 34⟩ [] (htab.trans rfl) (fun z hz => by rcases List.mem_cons.mp hz with rfl | hz; exact Or.inr ⟨by decide, "java/lang/IndexOutOfBoundsException", hts (.classLink RL 13 "java/lang/IndexOutOfBoundsException") (by decide +kernel), hNc0⟩; exact nomatch hz) rfl (by decide) (hts (.classLink RL 34 "java/util/NoSuchElementException") (by decide +kernel)) (va_Nw.use rfl hT.2.2.2.2.2.2) hce9 hcv9 hcl9 ?_
  refine W.cs (cells' := 1) (slots' := 6) rfl rfl ?_
  refine lv_astore_n (lv' := [(3, .ref q9), (0, .ref q), (1, .int (nI 1)), (2, .ref oq)]) hx hb dL_pollFirst_15 rfl hl (by decide) rfl (fun ls hl => ?_)
  refine lv_iconst (v := nI 2) hx hb dL_pollFirst_16 (by decide +kernel) ?_
  have hP9 := hP.sub (ws' := [(q, .inr (6, [.ref s0, .ref s1, .ref s2])), (s1, .inr (3, [.ref tq, .ref rq, .ref uq])), (tq, .inr (4, [.ref ca, .long sm, .int (oI lo)])), (ca, .inl (cJ, 64, .inr (.inl fc))), (rq, .inr (5, [.ref rb])), (rb, .inr (0, [.ref rd])), (rd, .inl (cJ, 128, .inr (.inl ft))), (uq, .inr (1, [.ref bm, .ref bs])), (bm, .inr (0, [.ref am])), (am, .inl (cJ, 64, .inr (.inl fm))), (bs, .inr (0, [.ref ap])), (ap, .inl (cJ, 64, .inr (.inl fs)))]) [0, 1, 2, 3, 4, 5, 6, 7, 8, 9, 10, 11] rfl
  have hD9 := hD.sub (ws' := [(q, .inr (6, [.ref s0, .ref s1, .ref s2])), (s1, .inr (3, [.ref tq, .ref rq, .ref uq])), (tq, .inr (4, [.ref ca, .long sm, .int (oI lo)])), (ca, .inl (cJ, 64, .inr (.inl fc))), (rq, .inr (5, [.ref rb])), (rb, .inr (0, [.ref rd])), (rd, .inl (cJ, 128, .inr (.inl ft))), (uq, .inr (1, [.ref bm, .ref bs])), (bm, .inr (0, [.ref am])), (am, .inl (cJ, 64, .inr (.inl fm))), (bs, .inr (0, [.ref ap])), (ap, .inl (cJ, 64, .inr (.inl fs)))]) [0, 1, 2, 3, 4, 5, 6, 7, 8, 9, 10, 11] (by decide) rfl
  have hK9 := hK.sub (tys' := [(cJ, .long)]) [0] rfl
  exact W.iret (v := nI 2) hx hb hr (fun t9 ht hW => ⟨⟨nI 2, (), rfl, rfl, by rw [ht]; exact hP9, va_K.moved hW.alike hK9, hD9⟩, hS.F ht⟩) hS.2.2 dL_pollFirst_17
set_option maxHeartbeats 4000000 in
set_option maxRecDepth 100000 in
/-- law: pollLast, pollLast_e1 -/
theorem c_L_pollLast_e1 (l : Launch) (hls : l.stackTraces = false) (dC : Nat → ClassId) (dI : Nat → Nat → Nat) (q : Nat) (s0 : Nat) (s1 : Nat) (s2 : Nat) (tq : Nat) (ca : Nat) (rq : Nat) (rb : Nat) (rd : Nat) (uq : Nat) (bm : Nat) (am : Nat) (bs : Nat) (ap : Nat) (cJ : ClassId) (fm : Nat → Int64) (fs : Nat → Int64) (ft : Nat → Int64) (fc : Nat → Int64) (sm : Int64) (lo : Option Nat) (oq : Nat) (sa : Nat) (sz : Nat) (hN : NI fm fs ft fc sm lo) (hz : lst1 (bo fm) 4096 = none) : Met l yL_pollLast wsL_pollLast ({ frames := 8, cells := 1, slots := 6, locals := 125 }) (va_Pc [.ref q, .int (nI 1), .ref oq] (fun U => va_Nw (.fieldLinkNest RX7 62 "SmallNumberSets$NumberSet" "tree" "LSmallNumberSets$Tree;" "SmallNumberSets") U ∧ TW "java/util/NoSuchElementException" 162 "the set is empty" sa (fun q => sz ≤ q) U U.heap ∧ va_Nc "java/util/NoSuchElementException" "java/lang/IndexOutOfBoundsException" U ∧ U.heap.size = sz ∧ va_P (dC, dI) vwCl [(q, .inr (6, [.ref s0, .ref s1, .ref s2])), (s1, .inr (3, [.ref tq, .ref rq, .ref uq])), (tq, .inr (4, [.ref ca, .long sm, .int (oI lo)])), (ca, .inl (cJ, 64, .inr (.inl fc))), (rq, .inr (5, [.ref rb])), (rb, .inr (0, [.ref rd])), (rd, .inl (cJ, 128, .inr (.inl ft))), (uq, .inr (1, [.ref bm, .ref bs])), (bm, .inr (0, [.ref am])), (am, .inl (cJ, 64, .inr (.inl fm))), (bs, .inr (0, [.ref ap])), (ap, .inl (cJ, 64, .inr (.inl fs)))] U.heap ∧ va_K (dC, dI) vwCl [(cJ, .long)] U ∧ va_D (fun _ => True) [(q, .inr (6, [.ref s0, .ref s1, .ref s2])), (s1, .inr (3, [.ref tq, .ref rq, .ref uq])), (tq, .inr (4, [.ref ca, .long sm, .int (oI lo)])), (ca, .inl (cJ, 64, .inr (.inl fc))), (rq, .inr (5, [.ref rb])), (rb, .inr (0, [.ref rd])), (rd, .inl (cJ, 128, .inr (.inl ft))), (uq, .inr (1, [.ref bm, .ref bs])), (bm, .inr (0, [.ref am])), (am, .inl (cJ, 64, .inr (.inl fm))), (bs, .inr (0, [.ref ap])), (ap, .inl (cJ, 64, .inr (.inl fs)))])) (va_Qi (fun (r : Int32) (u : Unit) => r = nI 2) (fun (u : Unit) (t : State) => va_P (dC, dI) vwCl [(q, .inr (6, [.ref s0, .ref s1, .ref s2])), (s1, .inr (3, [.ref tq, .ref rq, .ref uq])), (tq, .inr (4, [.ref ca, .long sm, .int (oI lo)])), (ca, .inl (cJ, 64, .inr (.inl fc))), (rq, .inr (5, [.ref rb])), (rb, .inr (0, [.ref rd])), (rd, .inl (cJ, 128, .inr (.inl ft))), (uq, .inr (1, [.ref bm, .ref bs])), (bm, .inr (0, [.ref am])), (am, .inl (cJ, 64, .inr (.inl fm))), (bs, .inr (0, [.ref ap])), (ap, .inl (cJ, 64, .inr (.inl fs)))] t.heap ∧ va_K (dC, dI) vwCl [(cJ, .long)] t ∧ va_D (va_A [(q, .inr (6, [.ref s0, .ref s1, .ref s2])), (s1, .inr (3, [.ref tq, .ref rq, .ref uq])), (tq, .inr (4, [.ref ca, .long sm, .int (oI lo)])), (ca, .inl (cJ, 64, .inr (.inl fc))), (rq, .inr (5, [.ref rb])), (rb, .inr (0, [.ref rd])), (rd, .inl (cJ, 128, .inr (.inl ft))), (uq, .inr (1, [.ref bm, .ref bs])), (bm, .inr (0, [.ref am])), (am, .inl (cJ, 64, .inr (.inl fm))), (bs, .inr (0, [.ref ap])), (ap, .inl (cJ, 64, .inr (.inl fs)))] sz) [(q, .inr (6, [.ref s0, .ref s1, .ref s2])), (s1, .inr (3, [.ref tq, .ref rq, .ref uq])), (tq, .inr (4, [.ref ca, .long sm, .int (oI lo)])), (ca, .inl (cJ, 64, .inr (.inl fc))), (rq, .inr (5, [.ref rb])), (rb, .inr (0, [.ref rd])), (rd, .inl (cJ, 128, .inr (.inl ft))), (uq, .inr (1, [.ref bm, .ref bs])), (bm, .inr (0, [.ref am])), (am, .inl (cJ, 64, .inr (.inl fm))), (bs, .inr (0, [.ref ap])), (ap, .inl (cJ, 64, .inr (.inl fs)))]) (va_A [(q, .inr (6, [.ref s0, .ref s1, .ref s2])), (s1, .inr (3, [.ref tq, .ref rq, .ref uq])), (tq, .inr (4, [.ref ca, .long sm, .int (oI lo)])), (ca, .inl (cJ, 64, .inr (.inl fc))), (rq, .inr (5, [.ref rb])), (rb, .inr (0, [.ref rd])), (rd, .inl (cJ, 128, .inr (.inl ft))), (uq, .inr (1, [.ref bm, .ref bs])), (bm, .inr (0, [.ref am])), (am, .inl (cJ, 64, .inr (.inl fm))), (bs, .inr (0, [.ref ap])), (ap, .inl (cJ, 64, .inr (.inl fs)))] sz)) 1 6 (va_A [(q, .inr (6, [.ref s0, .ref s1, .ref s2])), (s1, .inr (3, [.ref tq, .ref rq, .ref uq])), (tq, .inr (4, [.ref ca, .long sm, .int (oI lo)])), (ca, .inl (cJ, 64, .inr (.inl fc))), (rq, .inr (5, [.ref rb])), (rb, .inr (0, [.ref rd])), (rd, .inl (cJ, 128, .inr (.inl ft))), (uq, .inr (1, [.ref bm, .ref bs])), (bm, .inr (0, [.ref am])), (am, .inl (cJ, 64, .inr (.inl fm))), (bs, .inr (0, [.ref ap])), (ap, .inl (cJ, 64, .inr (.inl fs)))] sz) := by
  refine va_MetW (cc := cL_pollLast) (maxL := 4) (ret := (some .int)) (hh := [(0, 9, 12, 13), (0, 9, 15, 34)]) (by decide) rfl ?_
  intro p e s m args below meth c s₁ B hml hv
  obtain ⟨rfl, nw0, hT, hNc0, hsz, hP, hK, hD0⟩ := hv
  have hx := B.exec
  have hb := B.bytes
  have hr := B.returns
  have hts := atoms_spec (ws := wsL_pollLast) B.pre
  have hown : s.vm.findClass RL = some m.cls := findClass_of_methodNamed B.named
  have hlocks := B.notSynchronized
  have htab : c.exceptionTable.toList = tableOf [(0, 9, 12, 13), (0, 9, 15, 34)] := vx_table (x := yL_pollLast) B (hts _ List.mem_cons_self)
  subst hsz
  have hD := hD0.self (sz := s.heap.size)
  generalize hAe : va_A [(q, .inr (6, [.ref s0, .ref s1, .ref s2])), (s1, .inr (3, [.ref tq, .ref rq, .ref uq])), (tq, .inr (4, [.ref ca, .long sm, .int (oI lo)])), (ca, .inl (cJ, 64, .inr (.inl fc))), (rq, .inr (5, [.ref rb])), (rb, .inr (0, [.ref rd])), (rd, .inl (cJ, 128, .inr (.inl ft))), (uq, .inr (1, [.ref bm, .ref bs])), (bm, .inr (0, [.ref am])), (am, .inl (cJ, 64, .inr (.inl fm))), (bs, .inr (0, [.ref ap])), (ap, .inl (cJ, 64, .inr (.inl fs)))] s.heap.size = A at hD ⊢
  have hA : ∀ q : Nat, s.heap.size ≤ q → A q := fun q h => by rw [← hAe]; exact Or.inr h
  have hS : va_S A s.heap s.heap [] := va_S.rf
  have hP : va_P (dC, dI) vwCl [(q, .inr (6, [.ref s0, .ref s1, .ref s2])), (s1, .inr (3, [.ref tq, .ref rq, .ref uq])), (tq, .inr (4, [.ref ca, .long sm, .int (oI lo)])), (ca, .inl (cJ, 64, .inr (.inl fc))), (rq, .inr (5, [.ref rb])), (rb, .inr (0, [.ref rd])), (rd, .inl (cJ, 128, .inr (.inl ft))), (uq, .inr (1, [.ref bm, .ref bs])), (bm, .inr (0, [.ref am])), (am, .inl (cJ, 64, .inr (.inl fm))), (bs, .inr (0, [.ref ap])), (ap, .inl (cJ, 64, .inr (.inl fs)))] s.heap := hP
  have hl := lv_entry ([.ref q, .int (nI 1), .ref oq]) (n := 4) (Nat.le_of_ble_eq_true rfl)
  rw [lg_entry_eq]
  generalize (lg_sl ([.ref q, .int (nI 1), .ref oq]) ++ List.replicate (4 - (lg_sl ([.ref q, .int (nI 1), .ref oq])).length) Slot.unset).toArray = ls at hl ⊢
  have hl : lv_has ls 4 [(0, .ref q), (1, .int (nI 1)), (2, .ref oq)] := hl
  refine lv_aload_n hx hb dL_pollLast_0 rfl (lv_at hl 2 rfl) ?_
  refine lv_iconst (v := nI 0) hx hb dL_pollLast_1 (by decide +kernel) ?_
  refine lv_aload_n hx hb dL_pollLast_2 rfl (lv_at hl 0 rfl) ?_
  refine lv_iload_n hx hb dL_pollLast_3 rfl (lv_at hl 1 rfl) ?_
  have hPc := hP.sub (ws' := [(q, .inr (6, [.ref s0, .ref s1, .ref s2])), (s1, .inr (3, [.ref tq, .ref rq, .ref uq])), (tq, .inr (4, [.ref ca, .long sm, .int (oI lo)])), (ca, .inl (cJ, 64, .inr (.inl fc))), (rq, .inr (5, [.ref rb])), (rb, .inr (0, [.ref rd])), (rd, .inl (cJ, 128, .inr (.inl ft))), (uq, .inr (1, [.ref bm, .ref bs])), (bm, .inr (0, [.ref am])), (am, .inl (cJ, 64, .inr (.inl fm))), (bs, .inr (0, [.ref ap])), (ap, .inl (cJ, 64, .inr (.inl fs)))]) [0, 1, 2, 3, 4, 5, 6, 7, 8, 9, 10, 11] rfl
  have hKc := hK.sub (tys' := [(cJ, .long)]) [0] rfl
  have hDc := hD.sub (ws' := [(q, .inr (6, [.ref s0, .ref s1, .ref s2])), (s1, .inr (3, [.ref tq, .ref rq, .ref uq])), (tq, .inr (4, [.ref ca, .long sm, .int (oI lo)])), (ca, .inl (cJ, 64, .inr (.inl fc))), (rq, .inr (5, [.ref rb])), (rb, .inr (0, [.ref rd])), (rd, .inl (cJ, 128, .inr (.inl ft))), (uq, .inr (1, [.ref bm, .ref bs])), (bm, .inr (0, [.ref am])), (am, .inl (cJ, 64, .inr (.inl fm))), (bs, .inr (0, [.ref ap])), (ap, .inl (cJ, 64, .inr (.inl fs)))]) [0, 1, 2, 3, 4, 5, 6, 7, 8, 9, 10, 11] (by decide) rfl
  refine vx_callv (vx_runV (As := [.int (nI 1)]) (rest := [.int (nI 0), .ref oq]) ⟨hx, hb, hml, hown, hts⟩ (x_X7_pollLast_e1 l hls dC dI q s0 s1 s2 tq ca rq rb rd uq bm am bs ap cJ fm fs ft fc sm lo sa s.heap.size (by first | assumption | omega) (by first | assumption | omega)) (cwV 1 hts gL_pollLast_X7_pollLast rfl rfl rfl (by decide +kernel) ⟨Nat.le_of_ble_eq_true rfl, Nat.le_of_ble_eq_true rfl⟩) ⟨fun a U g mk q => by obtain ⟨q0, nq0, q1, qT, qP, qK, qD⟩ := q; exact ⟨q0, va_Nw.same rfl (U := U.calling g mk a) rfl nq0, q1, TW.same (u := U) (U := U.calling g mk a) rfl qT, qP, va_K.moved (u := U) (U := U.calling g mk a) (Vm.Alike.refl U.vm) qK, qD⟩, va_recv hKc hPc (ci := 6) (q0 := 0) rfl rfl, fun U hU hW => ⟨rfl, va_Nw.warmF hW nw0, by rw [hU], by rw [hU]; exact TW.warm hW hT, by rw [hU]; exact hPc, va_K.moved hW.alike hKc, hDc.weaken (fun _ _ _ _ => trivial)⟩⟩ rfl rfl hl.1 rfl (lv_room (Nat.le_of_ble_eq_true rfl)) dL_pollLast_4 ⟨Nat.le_of_ble_eq_true rfl, Nat.le_of_ble_eq_true rfl⟩) hS (fun q h9 h8 => absurd h8 (Nat.not_le_of_lt h9)) (fun q h8 => hA q (Nat.le_trans hS.1 h8)) (fun q h9 h8 => absurd h8 (Nat.not_le_of_lt h9)) (fun E9 ce9 q9 u9 t9 H locs ht9 hvm9 hu9 hE9 hz9 hk9 hS hce9 hcv9 hcl9 => ?_) (fun u9 t9 H9 l9 ht9 hvm9 hu9 hB9 hz9 hk9 hS9 => hu9.elim)
  subst hE9
  have hP := hP.kept (H1 := H) (fun k q hk => hk9 _ (vx_lt hP hk) (Nat.not_le_of_lt (vx_lt hP hk)))
  refine vx_catch (name := "java/util/NoSuchElementException") hown [⟨0, 9, 12, 13⟩] ⟨0, 9, 15, 34⟩ [] (htab.trans rfl) (fun z hz => by rcases List.mem_cons.mp hz with rfl | hz; exact Or.inr ⟨by decide, "java/lang/IndexOutOfBoundsException", hts (.classLink RL 13 "java/lang/IndexOutOfBoundsException") (by decide +kernel), hNc0⟩; exact nomatch hz) rfl (by decide) (hts (.classLink RL 34 "java/util/NoSuchElementException") (by decide +kernel)) (va_Nw.use rfl hT.2.2.2.2.2.2) hce9 hcv9 hcl9 ?_
  refine W.cs (cells' := 1) (slots' := 6) rfl rfl ?_
  refine lv_astore_n (lv' := [(3, .ref q9), (0, .ref q), (1, .int (nI 1)), (2, .ref oq)]) hx hb dL_pollLast_15 rfl hl (by decide) rfl (fun ls hl => ?_)
  refine lv_iconst (v := nI 2) hx hb dL_pollLast_16 (by decide +kernel) ?_
  have hP9 := hP.sub (ws' := [(q, .inr (6, [.ref s0, .ref s1, .ref s2])), (s1, .inr (3, [.ref tq, .ref rq, .ref uq])), (tq, .inr (4, [.ref ca, .long sm, .int (oI lo)])), (ca, .inl (cJ, 64, .inr (.inl fc))), (rq, .inr (5, [.ref rb])), (rb, .inr (0, [.ref rd])), (rd, .inl (cJ, 128, .inr (.inl ft))), (uq, .inr (1, [.ref bm, .ref bs])), (bm, .inr (0, [.ref am])), (am, .inl (cJ, 64, .inr (.inl fm))), (bs, .inr (0, [.ref ap])), (ap, .inl (cJ, 64, .inr (.inl fs)))]) [0, 1, 2, 3, 4, 5, 6, 7, 8, 9, 10, 11] rfl
  have hD9 := hD.sub (ws' := [(q, .inr (6, [.ref s0, .ref s1, .ref s2])), (s1, .inr (3, [.ref tq, .ref rq, .ref uq])), (tq, .inr (4, [.ref ca, .long sm, .int (oI lo)])), (ca, .inl (cJ, 64, .inr (.inl fc))), (rq, .inr (5, [.ref rb])), (rb, .inr (0, [.ref rd])), (rd, .inl (cJ, 128, .inr (.inl ft))), (uq, .inr (1, [.ref bm, .ref bs])), (bm, .inr (0, [.ref am])), (am, .inl (cJ, 64, .inr (.inl fm))), (bs, .inr (0, [.ref ap])), (ap, .inl (cJ, 64, .inr (.inl fs)))]) [0, 1, 2, 3, 4, 5, 6, 7, 8, 9, 10, 11] (by decide) rfl
  have hK9 := hK.sub (tys' := [(cJ, .long)]) [0] rfl
  exact W.iret (v := nI 2) hx hb hr (fun t9 ht hW => ⟨⟨nI 2, (), rfl, rfl, by rw [ht]; exact hP9, va_K.moved hW.alike hK9, hD9⟩, hS.F ht⟩) hS.2.2 dL_pollLast_17
set_option maxHeartbeats 4000000 in
set_option maxRecDepth 100000 in
/-- law: insert, insert_n2 -/
theorem c_L_insert_n2 (l : Launch) (hls : l.stackTraces = false) (dC : Nat → ClassId) (dI : Nat → Nat → Nat) (q : Nat) (s0 : Nat) (s1 : Nat) (s2 : Nat) (w : Int32) (oq : Nat) (sa : Nat) (sz : Nat) (hW : isN w = false) : Met l yL_insert wsL_insert ({ frames := 8, cells := 1, slots := 6, locals := 125 }) (va_Pc [.ref q, .int (nI 2), .int w, .ref oq] (fun U => TW "java/lang/IllegalArgumentException" 153 "the number is out of range" sa (fun q => sz ≤ q) U U.heap ∧ va_Nc "java/lang/IllegalArgumentException" "java/lang/IndexOutOfBoundsException" U ∧ U.heap.size = sz ∧ va_P (dC, dI) vwCl [(q, .inr (6, [.ref s0, .ref s1, .ref s2]))] U.heap ∧ va_K (dC, dI) vwCl [] U ∧ va_D (fun _ => True) [(q, .inr (6, [.ref s0, .ref s1, .ref s2]))])) (va_Qi (fun (r : Int32) (u : Unit) => r = nI 2) (fun (u : Unit) (t : State) => va_P (dC, dI) vwCl [(q, .inr (6, [.ref s0, .ref s1, .ref s2]))] t.heap ∧ va_K (dC, dI) vwCl [] t ∧ va_D (va_A [(q, .inr (6, [.ref s0, .ref s1, .ref s2]))] sz) [(q, .inr (6, [.ref s0, .ref s1, .ref s2]))]) (va_A [(q, .inr (6, [.ref s0, .ref s1, .ref s2]))] sz)) 1 6 (va_A [(q, .inr (6, [.ref s0, .ref s1, .ref s2]))] sz) := by
  refine va_MetW (cc := cL_insert) (maxL := 5) (ret := (some .int)) (hh := [(0, 17, 20, 13), (0, 17, 24, 15)]) (by decide) rfl ?_
  intro p e s m args below meth c s₁ B hml hv
  obtain ⟨rfl, hT, hNc0, hsz, hP, hK, hD0⟩ := hv
  have hx := B.exec
  have hb := B.bytes
  have hr := B.returns
  have hts := atoms_spec (ws := wsL_insert) B.pre
  have hown : s.vm.findClass RL = some m.cls := findClass_of_methodNamed B.named
  have hlocks := B.notSynchronized
  have htab : c.exceptionTable.toList = tableOf [(0, 17, 20, 13), (0, 17, 24, 15)] := vx_table (x := yL_insert) B (hts _ List.mem_cons_self)
  subst hsz
  have hD := hD0.self (sz := s.heap.size)
  generalize hAe : va_A [(q, .inr (6, [.ref s0, .ref s1, .ref s2]))] s.heap.size = A at hD ⊢
  have hA : ∀ q : Nat, s.heap.size ≤ q → A q := fun q h => by rw [← hAe]; exact Or.inr h
  have hS : va_S A s.heap s.heap [] := va_S.rf
  have hP : va_P (dC, dI) vwCl [(q, .inr (6, [.ref s0, .ref s1, .ref s2]))] s.heap := hP
  have hl := lv_entry ([.ref q, .int (nI 2), .int w, .ref oq]) (n := 5) (Nat.le_of_ble_eq_true rfl)
  rw [lg_entry_eq]
  generalize (lg_sl ([.ref q, .int (nI 2), .int w, .ref oq]) ++ List.replicate (5 - (lg_sl ([.ref q, .int (nI 2), .int w, .ref oq])).length) Slot.unset).toArray = ls at hl ⊢
  have hl : lv_has ls 5 [(0, .ref q), (1, .int (nI 2)), (2, .int w), (3, .ref oq)] := hl
  refine lv_aload_n hx hb dL_insert_0 rfl (lv_at hl 3 rfl) ?_
  refine lv_iconst (v := nI 0) hx hb dL_insert_1 (by decide +kernel) ?_
  refine lv_aload_n hx hb dL_insert_2 rfl (lv_at hl 0 rfl) ?_
  refine lv_iload_n hx hb dL_insert_3 rfl (lv_at hl 1 rfl) ?_
  refine lv_iload_n hx hb dL_insert_4 rfl (lv_at hl 2 rfl) ?_
  have hPc := hP.sub (ws' := [(q, .inr (6, [.ref s0, .ref s1, .ref s2]))]) [0] rfl
  have hKc := hK.sub (tys' := []) [] rfl
  have hDc := hD.sub (ws' := [(q, .inr (6, [.ref s0, .ref s1, .ref s2]))]) [0] (by decide) rfl
  refine vx_callv (vx_runV (As := [.int (nI 2), .int w]) (rest := [.int (nI 0), .ref oq]) ⟨hx, hb, hml, hown, hts⟩ (x_X7_insert_n2 l hls dC dI q s0 s1 s2 w sa s.heap.size (by first | assumption | omega)) (cwV 2 hts gL_insert_X7_insert rfl rfl rfl (by decide +kernel) ⟨Nat.le_of_ble_eq_true rfl, Nat.le_of_ble_eq_true rfl⟩) ⟨fun a U g mk q => by obtain ⟨q0, q1, qT, qP, qK, qD⟩ := q; exact ⟨q0, q1, TW.same (u := U) (U := U.calling g mk a) rfl qT, qP, va_K.moved (u := U) (U := U.calling g mk a) (Vm.Alike.refl U.vm) qK, qD⟩, va_recv hKc hPc (ci := 6) (q0 := 0) rfl rfl, fun U hU hW => ⟨rfl, by rw [hU], by rw [hU]; exact TW.warm hW hT, by rw [hU]; exact hPc, va_K.moved hW.alike hKc, hDc.weaken (fun _ _ _ _ => trivial)⟩⟩ rfl rfl hl.1 rfl (lv_room (Nat.le_of_ble_eq_true rfl)) dL_insert_5 ⟨Nat.le_of_ble_eq_true rfl, Nat.le_of_ble_eq_true rfl⟩) hS (fun q h9 h8 => absurd h8 (Nat.not_le_of_lt h9)) (fun q h8 => hA q (Nat.le_trans hS.1 h8)) (fun q h9 h8 => absurd h8 (Nat.not_le_of_lt h9)) (fun E9 ce9 q9 u9 t9 H locs ht9 hvm9 hu9 hE9 hz9 hk9 hS hce9 hcv9 hcl9 => ?_) (fun u9 t9 H9 l9 ht9 hvm9 hu9 hB9 hz9 hk9 hS9 => hu9.elim)
  subst hE9
  have hP := hP.kept (H1 := H) (fun k q hk => hk9 _ (vx_lt hP hk) (Nat.not_le_of_lt (vx_lt hP hk)))
  refine vx_catch (name := "java/lang/IllegalArgumentException") hown [⟨0, 17, 20, 13⟩] ⟨0, 17, 24, 15⟩ [] (htab.trans rfl) (fun z hz => by rcases List.mem_cons.mp hz with rfl | hz; exact Or.inr ⟨by decide, "java/lang/IndexOutOfBoundsException", hts (.classLink RL 13 "java/lang/IndexOutOfBoundsException") (by decide +kernel), hNc0⟩; exact nomatch hz) rfl (by decide) (hts (.classLink RL 15 "java/lang/IllegalArgumentException") (by decide +kernel)) (va_Nw.use rfl hT.2.2.2.2.2.2) hce9 hcv9 hcl9 ?_
  refine W.cs (cells' := 1) (slots' := 6) rfl rfl ?_
  refine lv_astore (lv' := [(4, .ref q9), (0, .ref q), (1, .int (nI 2)), (2, .int w), (3, .ref oq)]) hx hb dL_insert_24 hl (by decide) rfl (fun ls hl => ?_)
  refine lv_iconst (v := nI 2) hx hb dL_insert_26 (by decide +kernel) ?_
  have hP9 := hP.sub (ws' := [(q, .inr (6, [.ref s0, .ref s1, .ref s2]))]) [0] rfl
  have hD9 := hD.sub (ws' := [(q, .inr (6, [.ref s0, .ref s1, .ref s2]))]) [0] (by decide) rfl
  have hK9 := hK.sub (tys' := []) [] rfl
  exact W.iret (v := nI 2) hx hb hr (fun t9 ht hW => ⟨⟨nI 2, (), rfl, rfl, by rw [ht]; exact hP9, va_K.moved hW.alike hK9, hD9⟩, hS.F ht⟩) hS.2.2 dL_insert_27
set_option maxHeartbeats 4000000 in
set_option maxRecDepth 100000 in
/-- law: delete, delete_n2 -/
theorem c_L_delete_n2 (l : Launch) (hls : l.stackTraces = false) (dC : Nat → ClassId) (dI : Nat → Nat → Nat) (q : Nat) (s0 : Nat) (s1 : Nat) (s2 : Nat) (w : Int32) (oq : Nat) (sa : Nat) (sz : Nat) (hW : isN w = false) : Met l yL_delete wsL_delete ({ frames := 8, cells := 1, slots := 6, locals := 125 }) (va_Pc [.ref q, .int (nI 2), .int w, .ref oq] (fun U => TW "java/lang/IllegalArgumentException" 153 "the number is out of range" sa (fun q => sz ≤ q) U U.heap ∧ va_Nc "java/lang/IllegalArgumentException" "java/lang/IndexOutOfBoundsException" U ∧ U.heap.size = sz ∧ va_P (dC, dI) vwCl [(q, .inr (6, [.ref s0, .ref s1, .ref s2]))] U.heap ∧ va_K (dC, dI) vwCl [] U ∧ va_D (fun _ => True) [(q, .inr (6, [.ref s0, .ref s1, .ref s2]))])) (va_Qi (fun (r : Int32) (u : Unit) => r = nI 2) (fun (u : Unit) (t : State) => va_P (dC, dI) vwCl [(q, .inr (6, [.ref s0, .ref s1, .ref s2]))] t.heap ∧ va_K (dC, dI) vwCl [] t ∧ va_D (va_A [(q, .inr (6, [.ref s0, .ref s1, .ref s2]))] sz) [(q, .inr (6, [.ref s0, .ref s1, .ref s2]))]) (va_A [(q, .inr (6, [.ref s0, .ref s1, .ref s2]))] sz)) 1 6 (va_A [(q, .inr (6, [.ref s0, .ref s1, .ref s2]))] sz) := by
  refine va_MetW (cc := cL_delete) (maxL := 5) (ret := (some .int)) (hh := [(0, 17, 20, 13), (0, 17, 24, 15)]) (by decide) rfl ?_
  intro p e s m args below meth c s₁ B hml hv
  obtain ⟨rfl, hT, hNc0, hsz, hP, hK, hD0⟩ := hv
  have hx := B.exec
  have hb := B.bytes
  have hr := B.returns
  have hts := atoms_spec (ws := wsL_delete) B.pre
  have hown : s.vm.findClass RL = some m.cls := findClass_of_methodNamed B.named
  have hlocks := B.notSynchronized
  have htab : c.exceptionTable.toList = tableOf [(0, 17, 20, 13), (0, 17, 24, 15)] := vx_table (x := yL_delete) B (hts _ List.mem_cons_self)
  subst hsz
  have hD := hD0.self (sz := s.heap.size)
  generalize hAe : va_A [(q, .inr (6, [.ref s0, .ref s1, .ref s2]))] s.heap.size = A at hD ⊢
  have hA : ∀ q : Nat, s.heap.size ≤ q → A q := fun q h => by rw [← hAe]; exact Or.inr h
  have hS : va_S A s.heap s.heap [] := va_S.rf
  have hP : va_P (dC, dI) vwCl [(q, .inr (6, [.ref s0, .ref s1, .ref s2]))] s.heap := hP
  have hl := lv_entry ([.ref q, .int (nI 2), .int w, .ref oq]) (n := 5) (Nat.le_of_ble_eq_true rfl)
  rw [lg_entry_eq]
  generalize (lg_sl ([.ref q, .int (nI 2), .int w, .ref oq]) ++ List.replicate (5 - (lg_sl ([.ref q, .int (nI 2), .int w, .ref oq])).length) Slot.unset).toArray = ls at hl ⊢
  have hl : lv_has ls 5 [(0, .ref q), (1, .int (nI 2)), (2, .int w), (3, .ref oq)] := hl
  refine lv_aload_n hx hb dL_delete_0 rfl (lv_at hl 3 rfl) ?_
  refine lv_iconst (v := nI 0) hx hb dL_delete_1 (by decide +kernel) ?_
  refine lv_aload_n hx hb dL_delete_2 rfl (lv_at hl 0 rfl) ?_
  refine lv_iload_n hx hb dL_delete_3 rfl (lv_at hl 1 rfl) ?_
  refine lv_iload_n hx hb dL_delete_4 rfl (lv_at hl 2 rfl) ?_
  have hPc := hP.sub (ws' := [(q, .inr (6, [.ref s0, .ref s1, .ref s2]))]) [0] rfl
  have hKc := hK.sub (tys' := []) [] rfl
  have hDc := hD.sub (ws' := [(q, .inr (6, [.ref s0, .ref s1, .ref s2]))]) [0] (by decide) rfl
  refine vx_callv (vx_runV (As := [.int (nI 2), .int w]) (rest := [.int (nI 0), .ref oq]) ⟨hx, hb, hml, hown, hts⟩ (x_X7_delete_n2 l hls dC dI q s0 s1 s2 w sa s.heap.size (by first | assumption | omega)) (cwV 2 hts gL_delete_X7_delete rfl rfl rfl (by decide +kernel) ⟨Nat.le_of_ble_eq_true rfl, Nat.le_of_ble_eq_true rfl⟩) ⟨fun a U g mk q => by obtain ⟨q0, q1, qT, qP, qK, qD⟩ := q; exact ⟨q0, q1, TW.same (u := U) (U := U.calling g mk a) rfl qT, qP, va_K.moved (u := U) (U := U.calling g mk a) (Vm.Alike.refl U.vm) qK, qD⟩, va_recv hKc hPc (ci := 6) (q0 := 0) rfl rfl, fun U hU hW => ⟨rfl, by rw [hU], by rw [hU]; exact TW.warm hW hT, by rw [hU]; exact hPc, va_K.moved hW.alike hKc, hDc.weaken (fun _ _ _ _ => trivial)⟩⟩ rfl rfl hl.1 rfl (lv_room (Nat.le_of_ble_eq_true rfl)) dL_delete_5 ⟨Nat.le_of_ble_eq_true rfl, Nat.le_of_ble_eq_true rfl⟩) hS (fun q h9 h8 => absurd h8 (Nat.not_le_of_lt h9)) (fun q h8 => hA q (Nat.le_trans hS.1 h8)) (fun q h9 h8 => absurd h8 (Nat.not_le_of_lt h9)) (fun E9 ce9 q9 u9 t9 H locs ht9 hvm9 hu9 hE9 hz9 hk9 hS hce9 hcv9 hcl9 => ?_) (fun u9 t9 H9 l9 ht9 hvm9 hu9 hB9 hz9 hk9 hS9 => hu9.elim)
  subst hE9
  have hP := hP.kept (H1 := H) (fun k q hk => hk9 _ (vx_lt hP hk) (Nat.not_le_of_lt (vx_lt hP hk)))
  refine vx_catch (name := "java/lang/IllegalArgumentException") hown [⟨0, 17, 20, 13⟩] ⟨0, 17, 24, 15⟩ [] (htab.trans rfl) (fun z hz => by rcases List.mem_cons.mp hz with rfl | hz; exact Or.inr ⟨by decide, "java/lang/IndexOutOfBoundsException", hts (.classLink RL 13 "java/lang/IndexOutOfBoundsException") (by decide +kernel), hNc0⟩; exact nomatch hz) rfl (by decide) (hts (.classLink RL 15 "java/lang/IllegalArgumentException") (by decide +kernel)) (va_Nw.use rfl hT.2.2.2.2.2.2) hce9 hcv9 hcl9 ?_
  refine W.cs (cells' := 1) (slots' := 6) rfl rfl ?_
  refine lv_astore (lv' := [(4, .ref q9), (0, .ref q), (1, .int (nI 2)), (2, .int w), (3, .ref oq)]) hx hb dL_delete_24 hl (by decide) rfl (fun ls hl => ?_)
  refine lv_iconst (v := nI 2) hx hb dL_delete_26 (by decide +kernel) ?_
  have hP9 := hP.sub (ws' := [(q, .inr (6, [.ref s0, .ref s1, .ref s2]))]) [0] rfl
  have hD9 := hD.sub (ws' := [(q, .inr (6, [.ref s0, .ref s1, .ref s2]))]) [0] (by decide) rfl
  have hK9 := hK.sub (tys' := []) [] rfl
  exact W.iret (v := nI 2) hx hb hr (fun t9 ht hW => ⟨⟨nI 2, (), rfl, rfl, by rw [ht]; exact hP9, va_K.moved hW.alike hK9, hD9⟩, hS.F ht⟩) hS.2.2 dL_delete_27
set_option maxHeartbeats 4000000 in
set_option maxRecDepth 100000 in
/-- law: contains, contains_n2 -/
theorem c_L_contains_n2 (l : Launch) (hls : l.stackTraces = false) (dC : Nat → ClassId) (dI : Nat → Nat → Nat) (q : Nat) (s0 : Nat) (s1 : Nat) (s2 : Nat) (w : Int32) (oq : Nat) (sa : Nat) (sz : Nat) (hW : isN w = false) : Met l yL_contains wsL_contains ({ frames := 8, cells := 1, slots := 6, locals := 125 }) (va_Pc [.ref q, .int (nI 2), .int w, .ref oq] (fun U => TW "java/lang/IllegalArgumentException" 153 "the number is out of range" sa (fun q => sz ≤ q) U U.heap ∧ va_Nc "java/lang/IllegalArgumentException" "java/lang/IndexOutOfBoundsException" U ∧ U.heap.size = sz ∧ va_P (dC, dI) vwCl [(q, .inr (6, [.ref s0, .ref s1, .ref s2]))] U.heap ∧ va_K (dC, dI) vwCl [] U ∧ va_D (fun _ => True) [(q, .inr (6, [.ref s0, .ref s1, .ref s2]))])) (va_Qi (fun (r : Int32) (u : Unit) => r = nI 2) (fun (u : Unit) (t : State) => va_P (dC, dI) vwCl [(q, .inr (6, [.ref s0, .ref s1, .ref s2]))] t.heap ∧ va_K (dC, dI) vwCl [] t ∧ va_D (va_A [(q, .inr (6, [.ref s0, .ref s1, .ref s2]))] sz) [(q, .inr (6, [.ref s0, .ref s1, .ref s2]))]) (va_A [(q, .inr (6, [.ref s0, .ref s1, .ref s2]))] sz)) 1 6 (va_A [(q, .inr (6, [.ref s0, .ref s1, .ref s2]))] sz) := by
  refine va_MetW (cc := cL_contains) (maxL := 5) (ret := (some .int)) (hh := [(0, 17, 20, 13), (0, 17, 24, 15)]) (by decide) rfl ?_
  intro p e s m args below meth c s₁ B hml hv
  obtain ⟨rfl, hT, hNc0, hsz, hP, hK, hD0⟩ := hv
  have hx := B.exec
  have hb := B.bytes
  have hr := B.returns
  have hts := atoms_spec (ws := wsL_contains) B.pre
  have hown : s.vm.findClass RL = some m.cls := findClass_of_methodNamed B.named
  have hlocks := B.notSynchronized
  have htab : c.exceptionTable.toList = tableOf [(0, 17, 20, 13), (0, 17, 24, 15)] := vx_table (x := yL_contains) B (hts _ List.mem_cons_self)
  subst hsz
  have hD := hD0.self (sz := s.heap.size)
  generalize hAe : va_A [(q, .inr (6, [.ref s0, .ref s1, .ref s2]))] s.heap.size = A at hD ⊢
  have hA : ∀ q : Nat, s.heap.size ≤ q → A q := fun q h => by rw [← hAe]; exact Or.inr h
  have hS : va_S A s.heap s.heap [] := va_S.rf
  have hP : va_P (dC, dI) vwCl [(q, .inr (6, [.ref s0, .ref s1, .ref s2]))] s.heap := hP
  have hl := lv_entry ([.ref q, .int (nI 2), .int w, .ref oq]) (n := 5) (Nat.le_of_ble_eq_true rfl)
  rw [lg_entry_eq]
  generalize (lg_sl ([.ref q, .int (nI 2), .int w, .ref oq]) ++ List.replicate (5 - (lg_sl ([.ref q, .int (nI 2), .int w, .ref oq])).length) Slot.unset).toArray = ls at hl ⊢
  have hl : lv_has ls 5 [(0, .ref q), (1, .int (nI 2)), (2, .int w), (3, .ref oq)] := hl
  refine lv_aload_n hx hb dL_contains_0 rfl (lv_at hl 3 rfl) ?_
  refine lv_iconst (v := nI 0) hx hb dL_contains_1 (by decide +kernel) ?_
  refine lv_aload_n hx hb dL_contains_2 rfl (lv_at hl 0 rfl) ?_
  refine lv_iload_n hx hb dL_contains_3 rfl (lv_at hl 1 rfl) ?_
  refine lv_iload_n hx hb dL_contains_4 rfl (lv_at hl 2 rfl) ?_
  have hPc := hP.sub (ws' := [(q, .inr (6, [.ref s0, .ref s1, .ref s2]))]) [0] rfl
  have hKc := hK.sub (tys' := []) [] rfl
  have hDc := hD.sub (ws' := [(q, .inr (6, [.ref s0, .ref s1, .ref s2]))]) [0] (by decide) rfl
  refine vx_callv (vx_runV (As := [.int (nI 2), .int w]) (rest := [.int (nI 0), .ref oq]) ⟨hx, hb, hml, hown, hts⟩ (x_X7_contains_n2 l hls dC dI q s0 s1 s2 w sa s.heap.size (by first | assumption | omega)) (cwV 2 hts gL_contains_X7_contains rfl rfl rfl (by decide +kernel) ⟨Nat.le_of_ble_eq_true rfl, Nat.le_of_ble_eq_true rfl⟩) ⟨fun a U g mk q => by obtain ⟨q0, q1, qT, qP, qK, qD⟩ := q; exact ⟨q0, q1, TW.same (u := U) (U := U.calling g mk a) rfl qT, qP, va_K.moved (u := U) (U := U.calling g mk a) (Vm.Alike.refl U.vm) qK, qD⟩, va_recv hKc hPc (ci := 6) (q0 := 0) rfl rfl, fun U hU hW => ⟨rfl, by rw [hU], by rw [hU]; exact TW.warm hW hT, by rw [hU]; exact hPc, va_K.moved hW.alike hKc, hDc.weaken (fun _ _ _ _ => trivial)⟩⟩ rfl rfl hl.1 rfl (lv_room (Nat.le_of_ble_eq_true rfl)) dL_contains_5 ⟨Nat.le_of_ble_eq_true rfl, Nat.le_of_ble_eq_true rfl⟩) hS (fun q h9 h8 => absurd h8 (Nat.not_le_of_lt h9)) (fun q h8 => hA q (Nat.le_trans hS.1 h8)) (fun q h9 h8 => absurd h8 (Nat.not_le_of_lt h9)) (fun E9 ce9 q9 u9 t9 H locs ht9 hvm9 hu9 hE9 hz9 hk9 hS hce9 hcv9 hcl9 => ?_) (fun u9 t9 H9 l9 ht9 hvm9 hu9 hB9 hz9 hk9 hS9 => hu9.elim)
  subst hE9
  have hP := hP.kept (H1 := H) (fun k q hk => hk9 _ (vx_lt hP hk) (Nat.not_le_of_lt (vx_lt hP hk)))
  refine vx_catch (name := "java/lang/IllegalArgumentException") hown [⟨0, 17, 20, 13⟩] ⟨0, 17, 24, 15⟩ [] (htab.trans rfl) (fun z hz => by rcases List.mem_cons.mp hz with rfl | hz; exact Or.inr ⟨by decide, "java/lang/IndexOutOfBoundsException", hts (.classLink RL 13 "java/lang/IndexOutOfBoundsException") (by decide +kernel), hNc0⟩; exact nomatch hz) rfl (by decide) (hts (.classLink RL 15 "java/lang/IllegalArgumentException") (by decide +kernel)) (va_Nw.use rfl hT.2.2.2.2.2.2) hce9 hcv9 hcl9 ?_
  refine W.cs (cells' := 1) (slots' := 6) rfl rfl ?_
  refine lv_astore (lv' := [(4, .ref q9), (0, .ref q), (1, .int (nI 2)), (2, .int w), (3, .ref oq)]) hx hb dL_contains_24 hl (by decide) rfl (fun ls hl => ?_)
  refine lv_iconst (v := nI 2) hx hb dL_contains_26 (by decide +kernel) ?_
  have hP9 := hP.sub (ws' := [(q, .inr (6, [.ref s0, .ref s1, .ref s2]))]) [0] rfl
  have hD9 := hD.sub (ws' := [(q, .inr (6, [.ref s0, .ref s1, .ref s2]))]) [0] (by decide) rfl
  have hK9 := hK.sub (tys' := []) [] rfl
  exact W.iret (v := nI 2) hx hb hr (fun t9 ht hW => ⟨⟨nI 2, (), rfl, rfl, by rw [ht]; exact hP9, va_K.moved hW.alike hK9, hD9⟩, hS.F ht⟩) hS.2.2 dL_contains_27
set_option maxHeartbeats 4000000 in
set_option maxRecDepth 100000 in
/-- law: successor, successor_n2 -/
theorem c_L_successor_n2 (l : Launch) (hls : l.stackTraces = false) (dC : Nat → ClassId) (dI : Nat → Nat → Nat) (q : Nat) (s0 : Nat) (s1 : Nat) (s2 : Nat) (w : Int32) (oq : Nat) (sa : Nat) (sz : Nat) (hW : isN w = false) : Met l yL_successor wsL_successor ({ frames := 8, cells := 1, slots := 6, locals := 125 }) (va_Pc [.ref q, .int (nI 2), .int w, .ref oq] (fun U => TW "java/lang/IllegalArgumentException" 153 "the number is out of range" sa (fun q => sz ≤ q) U U.heap ∧ va_Nc "java/lang/IllegalArgumentException" "java/lang/IndexOutOfBoundsException" U ∧ U.heap.size = sz ∧ va_P (dC, dI) vwCl [(q, .inr (6, [.ref s0, .ref s1, .ref s2]))] U.heap ∧ va_K (dC, dI) vwCl [] U ∧ va_D (fun _ => True) [(q, .inr (6, [.ref s0, .ref s1, .ref s2]))])) (va_Qi (fun (r : Int32) (u : Unit) => r = nI 2) (fun (u : Unit) (t : State) => va_P (dC, dI) vwCl [(q, .inr (6, [.ref s0, .ref s1, .ref s2]))] t.heap ∧ va_K (dC, dI) vwCl [] t ∧ va_D (va_A [(q, .inr (6, [.ref s0, .ref s1, .ref s2]))] sz) [(q, .inr (6, [.ref s0, .ref s1, .ref s2]))]) (va_A [(q, .inr (6, [.ref s0, .ref s1, .ref s2]))] sz)) 1 6 (va_A [(q, .inr (6, [.ref s0, .ref s1, .ref s2]))] sz) := by
  refine va_MetW (cc := cL_successor) (maxL := 5) (ret := (some .int)) (hh := [(0, 10, 13, 13), (0, 10, 17, 15)]) (by decide) rfl ?_
  intro p e s m args below meth c s₁ B hml hv
  obtain ⟨rfl, hT, hNc0, hsz, hP, hK, hD0⟩ := hv
  have hx := B.exec
  have hb := B.bytes
  have hr := B.returns
  have hts := atoms_spec (ws := wsL_successor) B.pre
  have hown : s.vm.findClass RL = some m.cls := findClass_of_methodNamed B.named
  have hlocks := B.notSynchronized
  have htab : c.exceptionTable.toList = tableOf [(0, 10, 13, 13), (0, 10, 17, 15)] := vx_table (x := yL_successor) B (hts _ List.mem_cons_self)
  subst hsz
  have hD := hD0.self (sz := s.heap.size)
  generalize hAe : va_A [(q, .inr (6, [.ref s0, .ref s1, .ref s2]))] s.heap.size = A at hD ⊢
  have hA : ∀ q : Nat, s.heap.size ≤ q → A q := fun q h => by rw [← hAe]; exact Or.inr h
  have hS : va_S A s.heap s.heap [] := va_S.rf
  have hP : va_P (dC, dI) vwCl [(q, .inr (6, [.ref s0, .ref s1, .ref s2]))] s.heap := hP
  have hl := lv_entry ([.ref q, .int (nI 2), .int w, .ref oq]) (n := 5) (Nat.le_of_ble_eq_true rfl)
  rw [lg_entry_eq]
  generalize (lg_sl ([.ref q, .int (nI 2), .int w, .ref oq]) ++ List.replicate (5 - (lg_sl ([.ref q, .int (nI 2), .int w, .ref oq])).length) Slot.unset).toArray = ls at hl ⊢
  have hl : lv_has ls 5 [(0, .ref q), (1, .int (nI 2)), (2, .int w), (3, .ref oq)] := hl
  refine lv_aload_n hx hb dL_successor_0 rfl (lv_at hl 3 rfl) ?_
  refine lv_iconst (v := nI 0) hx hb dL_successor_1 (by decide +kernel) ?_
  refine lv_aload_n hx hb dL_successor_2 rfl (lv_at hl 0 rfl) ?_
  refine lv_iload_n hx hb dL_successor_3 rfl (lv_at hl 1 rfl) ?_
  refine lv_iload_n hx hb dL_successor_4 rfl (lv_at hl 2 rfl) ?_
  have hPc := hP.sub (ws' := [(q, .inr (6, [.ref s0, .ref s1, .ref s2]))]) [0] rfl
  have hKc := hK.sub (tys' := []) [] rfl
  have hDc := hD.sub (ws' := [(q, .inr (6, [.ref s0, .ref s1, .ref s2]))]) [0] (by decide) rfl
  refine vx_callv (vx_runV (As := [.int (nI 2), .int w]) (rest := [.int (nI 0), .ref oq]) ⟨hx, hb, hml, hown, hts⟩ (x_X7_successor_n2 l hls dC dI q s0 s1 s2 w sa s.heap.size (by first | assumption | omega)) (cwV 2 hts gL_successor_X7_successor rfl rfl rfl (by decide +kernel) ⟨Nat.le_of_ble_eq_true rfl, Nat.le_of_ble_eq_true rfl⟩) ⟨fun a U g mk q => by obtain ⟨q0, q1, qT, qP, qK, qD⟩ := q; exact ⟨q0, q1, TW.same (u := U) (U := U.calling g mk a) rfl qT, qP, va_K.moved (u := U) (U := U.calling g mk a) (Vm.Alike.refl U.vm) qK, qD⟩, va_recv hKc hPc (ci := 6) (q0 := 0) rfl rfl, fun U hU hW => ⟨rfl, by rw [hU], by rw [hU]; exact TW.warm hW hT, by rw [hU]; exact hPc, va_K.moved hW.alike hKc, hDc.weaken (fun _ _ _ _ => trivial)⟩⟩ rfl rfl hl.1 rfl (lv_room (Nat.le_of_ble_eq_true rfl)) dL_successor_5 ⟨Nat.le_of_ble_eq_true rfl, Nat.le_of_ble_eq_true rfl⟩) hS (fun q h9 h8 => absurd h8 (Nat.not_le_of_lt h9)) (fun q h8 => hA q (Nat.le_trans hS.1 h8)) (fun q h9 h8 => absurd h8 (Nat.not_le_of_lt h9)) (fun E9 ce9 q9 u9 t9 H locs ht9 hvm9 hu9 hE9 hz9 hk9 hS hce9 hcv9 hcl9 => ?_) (fun u9 t9 H9 l9 ht9 hvm9 hu9 hB9 hz9 hk9 hS9 => hu9.elim)
  subst hE9
  have hP := hP.kept (H1 := H) (fun k q hk => hk9 _ (vx_lt hP hk) (Nat.not_le_of_lt (vx_lt hP hk)))
  refine vx_catch (name := "java/lang/IllegalArgumentException") hown [⟨0, 10, 13, 13⟩] ⟨0, 10, 17, 15⟩ [] (htab.trans rfl) (fun z hz => by rcases List.mem_cons.mp hz with rfl | hz; exact Or.inr ⟨by decide, "java/lang/IndexOutOfBoundsException", hts (.classLink RL 13 "java/lang/IndexOutOfBoundsException") (by decide +kernel), hNc0⟩; exact nomatch hz) rfl (by decide) (hts (.classLink RL 15 "java/lang/IllegalArgumentException") (by decide +kernel)) (va_Nw.use rfl hT.2.2.2.2.2.2) hce9 hcv9 hcl9 ?_
  refine W.cs (cells' := 1) (slots' := 6) rfl rfl ?_
  refine lv_astore (lv' := [(4, .ref q9), (0, .ref q), (1, .int (nI 2)), (2, .int w), (3, .ref oq)]) hx hb dL_successor_17 hl (by decide) rfl (fun ls hl => ?_)
  refine lv_iconst (v := nI 2) hx hb dL_successor_19 (by decide +kernel) ?_
  have hP9 := hP.sub (ws' := [(q, .inr (6, [.ref s0, .ref s1, .ref s2]))]) [0] rfl
  have hD9 := hD.sub (ws' := [(q, .inr (6, [.ref s0, .ref s1, .ref s2]))]) [0] (by decide) rfl
  have hK9 := hK.sub (tys' := []) [] rfl
  exact W.iret (v := nI 2) hx hb hr (fun t9 ht hW => ⟨⟨nI 2, (), rfl, rfl, by rw [ht]; exact hP9, va_K.moved hW.alike hK9, hD9⟩, hS.F ht⟩) hS.2.2 dL_successor_20
set_option maxHeartbeats 4000000 in
set_option maxRecDepth 100000 in
/-- law: predecessor, predecessor_n2 -/
theorem c_L_predecessor_n2 (l : Launch) (hls : l.stackTraces = false) (dC : Nat → ClassId) (dI : Nat → Nat → Nat) (q : Nat) (s0 : Nat) (s1 : Nat) (s2 : Nat) (w : Int32) (oq : Nat) (sa : Nat) (sz : Nat) (hW : isN w = false) : Met l yL_predecessor wsL_predecessor ({ frames := 8, cells := 1, slots := 6, locals := 125 }) (va_Pc [.ref q, .int (nI 2), .int w, .ref oq] (fun U => TW "java/lang/IllegalArgumentException" 153 "the number is out of range" sa (fun q => sz ≤ q) U U.heap ∧ va_Nc "java/lang/IllegalArgumentException" "java/lang/IndexOutOfBoundsException" U ∧ U.heap.size = sz ∧ va_P (dC, dI) vwCl [(q, .inr (6, [.ref s0, .ref s1, .ref s2]))] U.heap ∧ va_K (dC, dI) vwCl [] U ∧ va_D (fun _ => True) [(q, .inr (6, [.ref s0, .ref s1, .ref s2]))])) (va_Qi (fun (r : Int32) (u : Unit) => r = nI 2) (fun (u : Unit) (t : State) => va_P (dC, dI) vwCl [(q, .inr (6, [.ref s0, .ref s1, .ref s2]))] t.heap ∧ va_K (dC, dI) vwCl [] t ∧ va_D (va_A [(q, .inr (6, [.ref s0, .ref s1, .ref s2]))] sz) [(q, .inr (6, [.ref s0, .ref s1, .ref s2]))]) (va_A [(q, .inr (6, [.ref s0, .ref s1, .ref s2]))] sz)) 1 6 (va_A [(q, .inr (6, [.ref s0, .ref s1, .ref s2]))] sz) := by
  refine va_MetW (cc := cL_predecessor) (maxL := 5) (ret := (some .int)) (hh := [(0, 10, 13, 13), (0, 10, 17, 15)]) (by decide) rfl ?_
  intro p e s m args below meth c s₁ B hml hv
  obtain ⟨rfl, hT, hNc0, hsz, hP, hK, hD0⟩ := hv
  have hx := B.exec
  have hb := B.bytes
  have hr := B.returns
  have hts := atoms_spec (ws := wsL_predecessor) B.pre
  have hown : s.vm.findClass RL = some m.cls := findClass_of_methodNamed B.named
  have hlocks := B.notSynchronized
  have htab : c.exceptionTable.toList = tableOf [(0, 10, 13, 13), (0, 10, 17, 15)] := vx_table (x := yL_predecessor) B (hts _ List.mem_cons_self)
  subst hsz
  have hD := hD0.self (sz := s.heap.size)
  generalize hAe : va_A [(q, .inr (6, [.ref s0, .ref s1, .ref s2]))] s.heap.size = A at hD ⊢
  have hA : ∀ q : Nat, s.heap.size ≤ q → A q := fun q h => by rw [← hAe]; exact Or.inr h
  have hS : va_S A s.heap s.heap [] := va_S.rf
  have hP : va_P (dC, dI) vwCl [(q, .inr (6, [.ref s0, .ref s1, .ref s2]))] s.heap := hP
  have hl := lv_entry ([.ref q, .int (nI 2), .int w, .ref oq]) (n := 5) (Nat.le_of_ble_eq_true rfl)
  rw [lg_entry_eq]
  generalize (lg_sl ([.ref q, .int (nI 2), .int w, .ref oq]) ++ List.replicate (5 - (lg_sl ([.ref q, .int (nI 2), .int w, .ref oq])).length) Slot.unset).toArray = ls at hl ⊢
  have hl : lv_has ls 5 [(0, .ref q), (1, .int (nI 2)), (2, .int w), (3, .ref oq)] := hl
  refine lv_aload_n hx hb dL_predecessor_0 rfl (lv_at hl 3 rfl) ?_
  refine lv_iconst (v := nI 0) hx hb dL_predecessor_1 (by decide +kernel) ?_
  refine lv_aload_n hx hb dL_predecessor_2 rfl (lv_at hl 0 rfl) ?_
  refine lv_iload_n hx hb dL_predecessor_3 rfl (lv_at hl 1 rfl) ?_
  refine lv_iload_n hx hb dL_predecessor_4 rfl (lv_at hl 2 rfl) ?_
  have hPc := hP.sub (ws' := [(q, .inr (6, [.ref s0, .ref s1, .ref s2]))]) [0] rfl
  have hKc := hK.sub (tys' := []) [] rfl
  have hDc := hD.sub (ws' := [(q, .inr (6, [.ref s0, .ref s1, .ref s2]))]) [0] (by decide) rfl
  refine vx_callv (vx_runV (As := [.int (nI 2), .int w]) (rest := [.int (nI 0), .ref oq]) ⟨hx, hb, hml, hown, hts⟩ (x_X7_predecessor_n2 l hls dC dI q s0 s1 s2 w sa s.heap.size (by first | assumption | omega)) (cwV 2 hts gL_predecessor_X7_predecessor rfl rfl rfl (by decide +kernel) ⟨Nat.le_of_ble_eq_true rfl, Nat.le_of_ble_eq_true rfl⟩) ⟨fun a U g mk q => by obtain ⟨q0, q1, qT, qP, qK, qD⟩ := q; exact ⟨q0, q1, TW.same (u := U) (U := U.calling g mk a) rfl qT, qP, va_K.moved (u := U) (U := U.calling g mk a) (Vm.Alike.refl U.vm) qK, qD⟩, va_recv hKc hPc (ci := 6) (q0 := 0) rfl rfl, fun U hU hW => ⟨rfl, by rw [hU], by rw [hU]; exact TW.warm hW hT, by rw [hU]; exact hPc, va_K.moved hW.alike hKc, hDc.weaken (fun _ _ _ _ => trivial)⟩⟩ rfl rfl hl.1 rfl (lv_room (Nat.le_of_ble_eq_true rfl)) dL_predecessor_5 ⟨Nat.le_of_ble_eq_true rfl, Nat.le_of_ble_eq_true rfl⟩) hS (fun q h9 h8 => absurd h8 (Nat.not_le_of_lt h9)) (fun q h8 => hA q (Nat.le_trans hS.1 h8)) (fun q h9 h8 => absurd h8 (Nat.not_le_of_lt h9)) (fun E9 ce9 q9 u9 t9 H locs ht9 hvm9 hu9 hE9 hz9 hk9 hS hce9 hcv9 hcl9 => ?_) (fun u9 t9 H9 l9 ht9 hvm9 hu9 hB9 hz9 hk9 hS9 => hu9.elim)
  subst hE9
  have hP := hP.kept (H1 := H) (fun k q hk => hk9 _ (vx_lt hP hk) (Nat.not_le_of_lt (vx_lt hP hk)))
  refine vx_catch (name := "java/lang/IllegalArgumentException") hown [⟨0, 10, 13, 13⟩] ⟨0, 10, 17, 15⟩ [] (htab.trans rfl) (fun z hz => by rcases List.mem_cons.mp hz with rfl | hz; exact Or.inr ⟨by decide, "java/lang/IndexOutOfBoundsException", hts (.classLink RL 13 "java/lang/IndexOutOfBoundsException") (by decide +kernel), hNc0⟩; exact nomatch hz) rfl (by decide) (hts (.classLink RL 15 "java/lang/IllegalArgumentException") (by decide +kernel)) (va_Nw.use rfl hT.2.2.2.2.2.2) hce9 hcv9 hcl9 ?_
  refine W.cs (cells' := 1) (slots' := 6) rfl rfl ?_
  refine lv_astore (lv' := [(4, .ref q9), (0, .ref q), (1, .int (nI 2)), (2, .int w), (3, .ref oq)]) hx hb dL_predecessor_17 hl (by decide) rfl (fun ls hl => ?_)
  refine lv_iconst (v := nI 2) hx hb dL_predecessor_19 (by decide +kernel) ?_
  have hP9 := hP.sub (ws' := [(q, .inr (6, [.ref s0, .ref s1, .ref s2]))]) [0] rfl
  have hD9 := hD.sub (ws' := [(q, .inr (6, [.ref s0, .ref s1, .ref s2]))]) [0] (by decide) rfl
  have hK9 := hK.sub (tys' := []) [] rfl
  exact W.iret (v := nI 2) hx hb hr (fun t9 ht hW => ⟨⟨nI 2, (), rfl, rfl, by rw [ht]; exact hP9, va_K.moved hW.alike hK9, hD9⟩, hS.F ht⟩) hS.2.2 dL_predecessor_20
set_option maxHeartbeats 4000000 in
set_option maxRecDepth 100000 in
/-- law: rank, rank_n2 -/
theorem c_L_rank_n2 (l : Launch) (hls : l.stackTraces = false) (dC : Nat → ClassId) (dI : Nat → Nat → Nat) (q : Nat) (s0 : Nat) (s1 : Nat) (s2 : Nat) (w : Int32) (oq : Nat) (sa : Nat) (sz : Nat) (hW : isN w = false) : Met l yL_rank wsL_rank ({ frames := 8, cells := 1, slots := 6, locals := 125 }) (va_Pc [.ref q, .int (nI 2), .int w, .ref oq] (fun U => TW "java/lang/IllegalArgumentException" 153 "the number is out of range" sa (fun q => sz ≤ q) U U.heap ∧ va_Nc "java/lang/IllegalArgumentException" "java/lang/IndexOutOfBoundsException" U ∧ U.heap.size = sz ∧ va_P (dC, dI) vwCl [(q, .inr (6, [.ref s0, .ref s1, .ref s2]))] U.heap ∧ va_K (dC, dI) vwCl [] U ∧ va_D (fun _ => True) [(q, .inr (6, [.ref s0, .ref s1, .ref s2]))])) (va_Qi (fun (r : Int32) (u : Unit) => r = nI 2) (fun (u : Unit) (t : State) => va_P (dC, dI) vwCl [(q, .inr (6, [.ref s0, .ref s1, .ref s2]))] t.heap ∧ va_K (dC, dI) vwCl [] t ∧ va_D (va_A [(q, .inr (6, [.ref s0, .ref s1, .ref s2]))] sz) [(q, .inr (6, [.ref s0, .ref s1, .ref s2]))]) (va_A [(q, .inr (6, [.ref s0, .ref s1, .ref s2]))] sz)) 1 6 (va_A [(q, .inr (6, [.ref s0, .ref s1, .ref s2]))] sz) := by
  refine va_MetW (cc := cL_rank) (maxL := 5) (ret := (some .int)) (hh := [(0, 10, 13, 13), (0, 10, 17, 15)]) (by decide) rfl ?_
  intro p e s m args below meth c s₁ B hml hv
  obtain ⟨rfl, hT, hNc0, hsz, hP, hK, hD0⟩ := hv
  have hx := B.exec
  have hb := B.bytes
  have hr := B.returns
  have hts := atoms_spec (ws := wsL_rank) B.pre
  have hown : s.vm.findClass RL = some m.cls := findClass_of_methodNamed B.named
  have hlocks := B.notSynchronized
  have htab : c.exceptionTable.toList = tableOf [(0, 10, 13, 13), (0, 10, 17, 15)] := vx_table (x := yL_rank) B (hts _ List.mem_cons_self)
  subst hsz
  have hD := hD0.self (sz := s.heap.size)
  generalize hAe : va_A [(q, .inr (6, [.ref s0, .ref s1, .ref s2]))] s.heap.size = A at hD ⊢
  have hA : ∀ q : Nat, s.heap.size ≤ q → A q := fun q h => by rw [← hAe]; exact Or.inr h
  have hS : va_S A s.heap s.heap [] := va_S.rf
  have hP : va_P (dC, dI) vwCl [(q, .inr (6, [.ref s0, .ref s1, .ref s2]))] s.heap := hP
  have hl := lv_entry ([.ref q, .int (nI 2), .int w, .ref oq]) (n := 5) (Nat.le_of_ble_eq_true rfl)
  rw [lg_entry_eq]
  generalize (lg_sl ([.ref q, .int (nI 2), .int w, .ref oq]) ++ List.replicate (5 - (lg_sl ([.ref q, .int (nI 2), .int w, .ref oq])).length) Slot.unset).toArray = ls at hl ⊢
  have hl : lv_has ls 5 [(0, .ref q), (1, .int (nI 2)), (2, .int w), (3, .ref oq)] := hl
  refine lv_aload_n hx hb dL_rank_0 rfl (lv_at hl 3 rfl) ?_
  refine lv_iconst (v := nI 0) hx hb dL_rank_1 (by decide +kernel) ?_
  refine lv_aload_n hx hb dL_rank_2 rfl (lv_at hl 0 rfl) ?_
  refine lv_iload_n hx hb dL_rank_3 rfl (lv_at hl 1 rfl) ?_
  refine lv_iload_n hx hb dL_rank_4 rfl (lv_at hl 2 rfl) ?_
  have hPc := hP.sub (ws' := [(q, .inr (6, [.ref s0, .ref s1, .ref s2]))]) [0] rfl
  have hKc := hK.sub (tys' := []) [] rfl
  have hDc := hD.sub (ws' := [(q, .inr (6, [.ref s0, .ref s1, .ref s2]))]) [0] (by decide) rfl
  refine vx_callv (vx_runV (As := [.int (nI 2), .int w]) (rest := [.int (nI 0), .ref oq]) ⟨hx, hb, hml, hown, hts⟩ (x_X7_rank_n2 l hls dC dI q s0 s1 s2 w sa s.heap.size (by first | assumption | omega)) (cwV 2 hts gL_rank_X7_rank rfl rfl rfl (by decide +kernel) ⟨Nat.le_of_ble_eq_true rfl, Nat.le_of_ble_eq_true rfl⟩) ⟨fun a U g mk q => by obtain ⟨q0, q1, qT, qP, qK, qD⟩ := q; exact ⟨q0, q1, TW.same (u := U) (U := U.calling g mk a) rfl qT, qP, va_K.moved (u := U) (U := U.calling g mk a) (Vm.Alike.refl U.vm) qK, qD⟩, va_recv hKc hPc (ci := 6) (q0 := 0) rfl rfl, fun U hU hW => ⟨rfl, by rw [hU], by rw [hU]; exact TW.warm hW hT, by rw [hU]; exact hPc, va_K.moved hW.alike hKc, hDc.weaken (fun _ _ _ _ => trivial)⟩⟩ rfl rfl hl.1 rfl (lv_room (Nat.le_of_ble_eq_true rfl)) dL_rank_5 ⟨Nat.le_of_ble_eq_true rfl, Nat.le_of_ble_eq_true rfl⟩) hS (fun q h9 h8 => absurd h8 (Nat.not_le_of_lt h9)) (fun q h8 => hA q (Nat.le_trans hS.1 h8)) (fun q h9 h8 => absurd h8 (Nat.not_le_of_lt h9)) (fun E9 ce9 q9 u9 t9 H locs ht9 hvm9 hu9 hE9 hz9 hk9 hS hce9 hcv9 hcl9 => ?_) (fun u9 t9 H9 l9 ht9 hvm9 hu9 hB9 hz9 hk9 hS9 => hu9.elim)
  subst hE9
  have hP := hP.kept (H1 := H) (fun k q hk => hk9 _ (vx_lt hP hk) (Nat.not_le_of_lt (vx_lt hP hk)))
  refine vx_catch (name := "java/lang/IllegalArgumentException") hown [⟨0, 10, 13, 13⟩] ⟨0, 10, 17, 15⟩ [] (htab.trans rfl) (fun z hz => by rcases List.mem_cons.mp hz with rfl | hz; exact Or.inr ⟨by decide, "java/lang/IndexOutOfBoundsException", hts (.classLink RL 13 "java/lang/IndexOutOfBoundsException") (by decide +kernel), hNc0⟩; exact nomatch hz) rfl (by decide) (hts (.classLink RL 15 "java/lang/IllegalArgumentException") (by decide +kernel)) (va_Nw.use rfl hT.2.2.2.2.2.2) hce9 hcv9 hcl9 ?_
  refine W.cs (cells' := 1) (slots' := 6) rfl rfl ?_
  refine lv_astore (lv' := [(4, .ref q9), (0, .ref q), (1, .int (nI 2)), (2, .int w), (3, .ref oq)]) hx hb dL_rank_17 hl (by decide) rfl (fun ls hl => ?_)
  refine lv_iconst (v := nI 2) hx hb dL_rank_19 (by decide +kernel) ?_
  have hP9 := hP.sub (ws' := [(q, .inr (6, [.ref s0, .ref s1, .ref s2]))]) [0] rfl
  have hD9 := hD.sub (ws' := [(q, .inr (6, [.ref s0, .ref s1, .ref s2]))]) [0] (by decide) rfl
  have hK9 := hK.sub (tys' := []) [] rfl
  exact W.iret (v := nI 2) hx hb hr (fun t9 ht hW => ⟨⟨nI 2, (), rfl, rfl, by rw [ht]; exact hP9, va_K.moved hW.alike hK9, hD9⟩, hS.F ht⟩) hS.2.2 dL_rank_20
set_option maxHeartbeats 4000000 in
set_option maxRecDepth 100000 in
/-- law: steps, steps_n2 -/
theorem c_L_steps_n2 (l : Launch) (hls : l.stackTraces = false) (dC : Nat → ClassId) (dI : Nat → Nat → Nat) (q : Nat) (s0 : Nat) (s1 : Nat) (s2 : Nat) (w : Int32) (oq : Nat) (sa : Nat) (sz : Nat) (hW : isN w = false) : Met l yL_steps wsL_steps ({ frames := 8, cells := 1, slots := 6, locals := 125 }) (va_Pc [.ref q, .int (nI 2), .int w, .ref oq] (fun U => TW "java/lang/IllegalArgumentException" 153 "the number is out of range" sa (fun q => sz ≤ q) U U.heap ∧ va_Nc "java/lang/IllegalArgumentException" "java/lang/IndexOutOfBoundsException" U ∧ U.heap.size = sz ∧ va_P (dC, dI) vwCl [(q, .inr (6, [.ref s0, .ref s1, .ref s2]))] U.heap ∧ va_K (dC, dI) vwCl [] U ∧ va_D (fun _ => True) [(q, .inr (6, [.ref s0, .ref s1, .ref s2]))])) (va_Qi (fun (r : Int32) (u : Unit) => r = nI 2) (fun (u : Unit) (t : State) => va_P (dC, dI) vwCl [(q, .inr (6, [.ref s0, .ref s1, .ref s2]))] t.heap ∧ va_K (dC, dI) vwCl [] t ∧ va_D (va_A [(q, .inr (6, [.ref s0, .ref s1, .ref s2]))] sz) [(q, .inr (6, [.ref s0, .ref s1, .ref s2]))]) (va_A [(q, .inr (6, [.ref s0, .ref s1, .ref s2]))] sz)) 1 6 (va_A [(q, .inr (6, [.ref s0, .ref s1, .ref s2]))] sz) := by
  refine va_MetW (cc := cL_steps) (maxL := 5) (ret := (some .int)) (hh := [(0, 10, 13, 13), (0, 10, 17, 15)]) (by decide) rfl ?_
  intro p e s m args below meth c s₁ B hml hv
  obtain ⟨rfl, hT, hNc0, hsz, hP, hK, hD0⟩ := hv
  have hx := B.exec
  have hb := B.bytes
  have hr := B.returns
  have hts := atoms_spec (ws := wsL_steps) B.pre
  have hown : s.vm.findClass RL = some m.cls := findClass_of_methodNamed B.named
  have hlocks := B.notSynchronized
  have htab : c.exceptionTable.toList = tableOf [(0, 10, 13, 13), (0, 10, 17, 15)] := vx_table (x := yL_steps) B (hts _ List.mem_cons_self)
  subst hsz
  have hD := hD0.self (sz := s.heap.size)
  generalize hAe : va_A [(q, .inr (6, [.ref s0, .ref s1, .ref s2]))] s.heap.size = A at hD ⊢
  have hA : ∀ q : Nat, s.heap.size ≤ q → A q := fun q h => by rw [← hAe]; exact Or.inr h
  have hS : va_S A s.heap s.heap [] := va_S.rf
  have hP : va_P (dC, dI) vwCl [(q, .inr (6, [.ref s0, .ref s1, .ref s2]))] s.heap := hP
  have hl := lv_entry ([.ref q, .int (nI 2), .int w, .ref oq]) (n := 5) (Nat.le_of_ble_eq_true rfl)
  rw [lg_entry_eq]
  generalize (lg_sl ([.ref q, .int (nI 2), .int w, .ref oq]) ++ List.replicate (5 - (lg_sl ([.ref q, .int (nI 2), .int w, .ref oq])).length) Slot.unset).toArray = ls at hl ⊢
  have hl : lv_has ls 5 [(0, .ref q), (1, .int (nI 2)), (2, .int w), (3, .ref oq)] := hl
  refine lv_aload_n hx hb dL_steps_0 rfl (lv_at hl 3 rfl) ?_
  refine lv_iconst (v := nI 0) hx hb dL_steps_1 (by decide +kernel) ?_
  refine lv_aload_n hx hb dL_steps_2 rfl (lv_at hl 0 rfl) ?_
  refine lv_iload_n hx hb dL_steps_3 rfl (lv_at hl 1 rfl) ?_
  refine lv_iload_n hx hb dL_steps_4 rfl (lv_at hl 2 rfl) ?_
  have hPc := hP.sub (ws' := [(q, .inr (6, [.ref s0, .ref s1, .ref s2]))]) [0] rfl
  have hKc := hK.sub (tys' := []) [] rfl
  have hDc := hD.sub (ws' := [(q, .inr (6, [.ref s0, .ref s1, .ref s2]))]) [0] (by decide) rfl
  refine vx_callv (vx_runV (As := [.int (nI 2), .int w]) (rest := [.int (nI 0), .ref oq]) ⟨hx, hb, hml, hown, hts⟩ (x_X7_steps_n2 l hls dC dI q s0 s1 s2 w sa s.heap.size (by first | assumption | omega)) (cwV 2 hts gL_steps_X7_steps rfl rfl rfl (by decide +kernel) ⟨Nat.le_of_ble_eq_true rfl, Nat.le_of_ble_eq_true rfl⟩) ⟨fun a U g mk q => by obtain ⟨q0, q1, qT, qP, qK, qD⟩ := q; exact ⟨q0, q1, TW.same (u := U) (U := U.calling g mk a) rfl qT, qP, va_K.moved (u := U) (U := U.calling g mk a) (Vm.Alike.refl U.vm) qK, qD⟩, va_recv hKc hPc (ci := 6) (q0 := 0) rfl rfl, fun U hU hW => ⟨rfl, by rw [hU], by rw [hU]; exact TW.warm hW hT, by rw [hU]; exact hPc, va_K.moved hW.alike hKc, hDc.weaken (fun _ _ _ _ => trivial)⟩⟩ rfl rfl hl.1 rfl (lv_room (Nat.le_of_ble_eq_true rfl)) dL_steps_5 ⟨Nat.le_of_ble_eq_true rfl, Nat.le_of_ble_eq_true rfl⟩) hS (fun q h9 h8 => absurd h8 (Nat.not_le_of_lt h9)) (fun q h8 => hA q (Nat.le_trans hS.1 h8)) (fun q h9 h8 => absurd h8 (Nat.not_le_of_lt h9)) (fun E9 ce9 q9 u9 t9 H locs ht9 hvm9 hu9 hE9 hz9 hk9 hS hce9 hcv9 hcl9 => ?_) (fun u9 t9 H9 l9 ht9 hvm9 hu9 hB9 hz9 hk9 hS9 => hu9.elim)
  subst hE9
  have hP := hP.kept (H1 := H) (fun k q hk => hk9 _ (vx_lt hP hk) (Nat.not_le_of_lt (vx_lt hP hk)))
  refine vx_catch (name := "java/lang/IllegalArgumentException") hown [⟨0, 10, 13, 13⟩] ⟨0, 10, 17, 15⟩ [] (htab.trans rfl) (fun z hz => by rcases List.mem_cons.mp hz with rfl | hz; exact Or.inr ⟨by decide, "java/lang/IndexOutOfBoundsException", hts (.classLink RL 13 "java/lang/IndexOutOfBoundsException") (by decide +kernel), hNc0⟩; exact nomatch hz) rfl (by decide) (hts (.classLink RL 15 "java/lang/IllegalArgumentException") (by decide +kernel)) (va_Nw.use rfl hT.2.2.2.2.2.2) hce9 hcv9 hcl9 ?_
  refine W.cs (cells' := 1) (slots' := 6) rfl rfl ?_
  refine lv_astore (lv' := [(4, .ref q9), (0, .ref q), (1, .int (nI 2)), (2, .int w), (3, .ref oq)]) hx hb dL_steps_17 hl (by decide) rfl (fun ls hl => ?_)
  refine lv_iconst (v := nI 2) hx hb dL_steps_19 (by decide +kernel) ?_
  have hP9 := hP.sub (ws' := [(q, .inr (6, [.ref s0, .ref s1, .ref s2]))]) [0] rfl
  have hD9 := hD.sub (ws' := [(q, .inr (6, [.ref s0, .ref s1, .ref s2]))]) [0] (by decide) rfl
  have hK9 := hK.sub (tys' := []) [] rfl
  exact W.iret (v := nI 2) hx hb hr (fun t9 ht hW => ⟨⟨nI 2, (), rfl, rfl, by rw [ht]; exact hP9, va_K.moved hW.alike hK9, hD9⟩, hS.F ht⟩) hS.2.2 dL_steps_20
set_option maxHeartbeats 4000000 in
set_option maxRecDepth 100000 in
/-- law: longestMatch, longestMatch_n2 -/
theorem c_L_longestMatch_n2 (l : Launch) (hls : l.stackTraces = false) (dC : Nat → ClassId) (dI : Nat → Nat → Nat) (q : Nat) (s0 : Nat) (s1 : Nat) (s2 : Nat) (w : Int32) (oq : Nat) (sa : Nat) (sz : Nat) (hW : isN w = false) : Met l yL_longestMatch wsL_longestMatch ({ frames := 8, cells := 1, slots := 6, locals := 125 }) (va_Pc [.ref q, .int (nI 2), .int w, .ref oq] (fun U => TW "java/lang/IllegalArgumentException" 153 "the number is out of range" sa (fun q => sz ≤ q) U U.heap ∧ va_Nc "java/lang/IllegalArgumentException" "java/lang/IndexOutOfBoundsException" U ∧ U.heap.size = sz ∧ va_P (dC, dI) vwCl [(q, .inr (6, [.ref s0, .ref s1, .ref s2]))] U.heap ∧ va_K (dC, dI) vwCl [] U ∧ va_D (fun _ => True) [(q, .inr (6, [.ref s0, .ref s1, .ref s2]))])) (va_Qi (fun (r : Int32) (u : Unit) => r = nI 2) (fun (u : Unit) (t : State) => va_P (dC, dI) vwCl [(q, .inr (6, [.ref s0, .ref s1, .ref s2]))] t.heap ∧ va_K (dC, dI) vwCl [] t ∧ va_D (va_A [(q, .inr (6, [.ref s0, .ref s1, .ref s2]))] sz) [(q, .inr (6, [.ref s0, .ref s1, .ref s2]))]) (va_A [(q, .inr (6, [.ref s0, .ref s1, .ref s2]))] sz)) 1 6 (va_A [(q, .inr (6, [.ref s0, .ref s1, .ref s2]))] sz) := by
  refine va_MetW (cc := cL_longestMatch) (maxL := 5) (ret := (some .int)) (hh := [(0, 10, 13, 13), (0, 10, 17, 15)]) (by decide) rfl ?_
  intro p e s m args below meth c s₁ B hml hv
  obtain ⟨rfl, hT, hNc0, hsz, hP, hK, hD0⟩ := hv
  have hx := B.exec
  have hb := B.bytes
  have hr := B.returns
  have hts := atoms_spec (ws := wsL_longestMatch) B.pre
  have hown : s.vm.findClass RL = some m.cls := findClass_of_methodNamed B.named
  have hlocks := B.notSynchronized
  have htab : c.exceptionTable.toList = tableOf [(0, 10, 13, 13), (0, 10, 17, 15)] := vx_table (x := yL_longestMatch) B (hts _ List.mem_cons_self)
  subst hsz
  have hD := hD0.self (sz := s.heap.size)
  generalize hAe : va_A [(q, .inr (6, [.ref s0, .ref s1, .ref s2]))] s.heap.size = A at hD ⊢
  have hA : ∀ q : Nat, s.heap.size ≤ q → A q := fun q h => by rw [← hAe]; exact Or.inr h
  have hS : va_S A s.heap s.heap [] := va_S.rf
  have hP : va_P (dC, dI) vwCl [(q, .inr (6, [.ref s0, .ref s1, .ref s2]))] s.heap := hP
  have hl := lv_entry ([.ref q, .int (nI 2), .int w, .ref oq]) (n := 5) (Nat.le_of_ble_eq_true rfl)
  rw [lg_entry_eq]
  generalize (lg_sl ([.ref q, .int (nI 2), .int w, .ref oq]) ++ List.replicate (5 - (lg_sl ([.ref q, .int (nI 2), .int w, .ref oq])).length) Slot.unset).toArray = ls at hl ⊢
  have hl : lv_has ls 5 [(0, .ref q), (1, .int (nI 2)), (2, .int w), (3, .ref oq)] := hl
  refine lv_aload_n hx hb dL_longestMatch_0 rfl (lv_at hl 3 rfl) ?_
  refine lv_iconst (v := nI 0) hx hb dL_longestMatch_1 (by decide +kernel) ?_
  refine lv_aload_n hx hb dL_longestMatch_2 rfl (lv_at hl 0 rfl) ?_
  refine lv_iload_n hx hb dL_longestMatch_3 rfl (lv_at hl 1 rfl) ?_
  refine lv_iload_n hx hb dL_longestMatch_4 rfl (lv_at hl 2 rfl) ?_
  have hPc := hP.sub (ws' := [(q, .inr (6, [.ref s0, .ref s1, .ref s2]))]) [0] rfl
  have hKc := hK.sub (tys' := []) [] rfl
  have hDc := hD.sub (ws' := [(q, .inr (6, [.ref s0, .ref s1, .ref s2]))]) [0] (by decide) rfl
  refine vx_callv (vx_runV (As := [.int (nI 2), .int w]) (rest := [.int (nI 0), .ref oq]) ⟨hx, hb, hml, hown, hts⟩ (x_X7_longestMatch_n2 l hls dC dI q s0 s1 s2 w sa s.heap.size (by first | assumption | omega)) (cwV 2 hts gL_longestMatch_X7_longestMatch rfl rfl rfl (by decide +kernel) ⟨Nat.le_of_ble_eq_true rfl, Nat.le_of_ble_eq_true rfl⟩) ⟨fun a U g mk q => by obtain ⟨q0, q1, qT, qP, qK, qD⟩ := q; exact ⟨q0, q1, TW.same (u := U) (U := U.calling g mk a) rfl qT, qP, va_K.moved (u := U) (U := U.calling g mk a) (Vm.Alike.refl U.vm) qK, qD⟩, va_recv hKc hPc (ci := 6) (q0 := 0) rfl rfl, fun U hU hW => ⟨rfl, by rw [hU], by rw [hU]; exact TW.warm hW hT, by rw [hU]; exact hPc, va_K.moved hW.alike hKc, hDc.weaken (fun _ _ _ _ => trivial)⟩⟩ rfl rfl hl.1 rfl (lv_room (Nat.le_of_ble_eq_true rfl)) dL_longestMatch_5 ⟨Nat.le_of_ble_eq_true rfl, Nat.le_of_ble_eq_true rfl⟩) hS (fun q h9 h8 => absurd h8 (Nat.not_le_of_lt h9)) (fun q h8 => hA q (Nat.le_trans hS.1 h8)) (fun q h9 h8 => absurd h8 (Nat.not_le_of_lt h9)) (fun E9 ce9 q9 u9 t9 H locs ht9 hvm9 hu9 hE9 hz9 hk9 hS hce9 hcv9 hcl9 => ?_) (fun u9 t9 H9 l9 ht9 hvm9 hu9 hB9 hz9 hk9 hS9 => hu9.elim)
  subst hE9
  have hP := hP.kept (H1 := H) (fun k q hk => hk9 _ (vx_lt hP hk) (Nat.not_le_of_lt (vx_lt hP hk)))
  refine vx_catch (name := "java/lang/IllegalArgumentException") hown [⟨0, 10, 13, 13⟩] ⟨0, 10, 17, 15⟩ [] (htab.trans rfl) (fun z hz => by rcases List.mem_cons.mp hz with rfl | hz; exact Or.inr ⟨by decide, "java/lang/IndexOutOfBoundsException", hts (.classLink RL 13 "java/lang/IndexOutOfBoundsException") (by decide +kernel), hNc0⟩; exact nomatch hz) rfl (by decide) (hts (.classLink RL 15 "java/lang/IllegalArgumentException") (by decide +kernel)) (va_Nw.use rfl hT.2.2.2.2.2.2) hce9 hcv9 hcl9 ?_
  refine W.cs (cells' := 1) (slots' := 6) rfl rfl ?_
  refine lv_astore (lv' := [(4, .ref q9), (0, .ref q), (1, .int (nI 2)), (2, .int w), (3, .ref oq)]) hx hb dL_longestMatch_17 hl (by decide) rfl (fun ls hl => ?_)
  refine lv_iconst (v := nI 2) hx hb dL_longestMatch_19 (by decide +kernel) ?_
  have hP9 := hP.sub (ws' := [(q, .inr (6, [.ref s0, .ref s1, .ref s2]))]) [0] rfl
  have hD9 := hD.sub (ws' := [(q, .inr (6, [.ref s0, .ref s1, .ref s2]))]) [0] (by decide) rfl
  have hK9 := hK.sub (tys' := []) [] rfl
  exact W.iret (v := nI 2) hx hb hr (fun t9 ht hW => ⟨⟨nI 2, (), rfl, rfl, by rw [ht]; exact hP9, va_K.moved hW.alike hK9, hD9⟩, hS.F ht⟩) hS.2.2 dL_longestMatch_20
set_option maxHeartbeats 4000000 in
set_option maxRecDepth 100000 in
/-- law: probes, probes_n2 -/
theorem c_L_probes_n2 (l : Launch) (hls : l.stackTraces = false) (dC : Nat → ClassId) (dI : Nat → Nat → Nat) (q : Nat) (s0 : Nat) (s1 : Nat) (s2 : Nat) (w : Int32) (oq : Nat) (sa : Nat) (sz : Nat) (hW : isN w = false) : Met l yL_probes wsL_probes ({ frames := 8, cells := 1, slots := 6, locals := 125 }) (va_Pc [.ref q, .int (nI 2), .int w, .ref oq] (fun U => TW "java/lang/IllegalArgumentException" 153 "the number is out of range" sa (fun q => sz ≤ q) U U.heap ∧ va_Nc "java/lang/IllegalArgumentException" "java/lang/IndexOutOfBoundsException" U ∧ U.heap.size = sz ∧ va_P (dC, dI) vwCl [(q, .inr (6, [.ref s0, .ref s1, .ref s2]))] U.heap ∧ va_K (dC, dI) vwCl [] U ∧ va_D (fun _ => True) [(q, .inr (6, [.ref s0, .ref s1, .ref s2]))])) (va_Qi (fun (r : Int32) (u : Unit) => r = nI 2) (fun (u : Unit) (t : State) => va_P (dC, dI) vwCl [(q, .inr (6, [.ref s0, .ref s1, .ref s2]))] t.heap ∧ va_K (dC, dI) vwCl [] t ∧ va_D (va_A [(q, .inr (6, [.ref s0, .ref s1, .ref s2]))] sz) [(q, .inr (6, [.ref s0, .ref s1, .ref s2]))]) (va_A [(q, .inr (6, [.ref s0, .ref s1, .ref s2]))] sz)) 1 6 (va_A [(q, .inr (6, [.ref s0, .ref s1, .ref s2]))] sz) := by
  refine va_MetW (cc := cL_probes) (maxL := 5) (ret := (some .int)) (hh := [(0, 10, 13, 13), (0, 10, 17, 15)]) (by decide) rfl ?_
  intro p e s m args below meth c s₁ B hml hv
  obtain ⟨rfl, hT, hNc0, hsz, hP, hK, hD0⟩ := hv
  have hx := B.exec
  have hb := B.bytes
  have hr := B.returns
  have hts := atoms_spec (ws := wsL_probes) B.pre
  have hown : s.vm.findClass RL = some m.cls := findClass_of_methodNamed B.named
  have hlocks := B.notSynchronized
  have htab : c.exceptionTable.toList = tableOf [(0, 10, 13, 13), (0, 10, 17, 15)] := vx_table (x := yL_probes) B (hts _ List.mem_cons_self)
  subst hsz
  have hD := hD0.self (sz := s.heap.size)
  generalize hAe : va_A [(q, .inr (6, [.ref s0, .ref s1, .ref s2]))] s.heap.size = A at hD ⊢
  have hA : ∀ q : Nat, s.heap.size ≤ q → A q := fun q h => by rw [← hAe]; exact Or.inr h
  have hS : va_S A s.heap s.heap [] := va_S.rf
  have hP : va_P (dC, dI) vwCl [(q, .inr (6, [.ref s0, .ref s1, .ref s2]))] s.heap := hP
  have hl := lv_entry ([.ref q, .int (nI 2), .int w, .ref oq]) (n := 5) (Nat.le_of_ble_eq_true rfl)
  rw [lg_entry_eq]
  generalize (lg_sl ([.ref q, .int (nI 2), .int w, .ref oq]) ++ List.replicate (5 - (lg_sl ([.ref q, .int (nI 2), .int w, .ref oq])).length) Slot.unset).toArray = ls at hl ⊢
  have hl : lv_has ls 5 [(0, .ref q), (1, .int (nI 2)), (2, .int w), (3, .ref oq)] := hl
  refine lv_aload_n hx hb dL_probes_0 rfl (lv_at hl 3 rfl) ?_
  refine lv_iconst (v := nI 0) hx hb dL_probes_1 (by decide +kernel) ?_
  refine lv_aload_n hx hb dL_probes_2 rfl (lv_at hl 0 rfl) ?_
  refine lv_iload_n hx hb dL_probes_3 rfl (lv_at hl 1 rfl) ?_
  refine lv_iload_n hx hb dL_probes_4 rfl (lv_at hl 2 rfl) ?_
  have hPc := hP.sub (ws' := [(q, .inr (6, [.ref s0, .ref s1, .ref s2]))]) [0] rfl
  have hKc := hK.sub (tys' := []) [] rfl
  have hDc := hD.sub (ws' := [(q, .inr (6, [.ref s0, .ref s1, .ref s2]))]) [0] (by decide) rfl
  refine vx_callv (vx_runV (As := [.int (nI 2), .int w]) (rest := [.int (nI 0), .ref oq]) ⟨hx, hb, hml, hown, hts⟩ (x_X7_probes_n2 l hls dC dI q s0 s1 s2 w sa s.heap.size (by first | assumption | omega)) (cwV 2 hts gL_probes_X7_probes rfl rfl rfl (by decide +kernel) ⟨Nat.le_of_ble_eq_true rfl, Nat.le_of_ble_eq_true rfl⟩) ⟨fun a U g mk q => by obtain ⟨q0, q1, qT, qP, qK, qD⟩ := q; exact ⟨q0, q1, TW.same (u := U) (U := U.calling g mk a) rfl qT, qP, va_K.moved (u := U) (U := U.calling g mk a) (Vm.Alike.refl U.vm) qK, qD⟩, va_recv hKc hPc (ci := 6) (q0 := 0) rfl rfl, fun U hU hW => ⟨rfl, by rw [hU], by rw [hU]; exact TW.warm hW hT, by rw [hU]; exact hPc, va_K.moved hW.alike hKc, hDc.weaken (fun _ _ _ _ => trivial)⟩⟩ rfl rfl hl.1 rfl (lv_room (Nat.le_of_ble_eq_true rfl)) dL_probes_5 ⟨Nat.le_of_ble_eq_true rfl, Nat.le_of_ble_eq_true rfl⟩) hS (fun q h9 h8 => absurd h8 (Nat.not_le_of_lt h9)) (fun q h8 => hA q (Nat.le_trans hS.1 h8)) (fun q h9 h8 => absurd h8 (Nat.not_le_of_lt h9)) (fun E9 ce9 q9 u9 t9 H locs ht9 hvm9 hu9 hE9 hz9 hk9 hS hce9 hcv9 hcl9 => ?_) (fun u9 t9 H9 l9 ht9 hvm9 hu9 hB9 hz9 hk9 hS9 => hu9.elim)
  subst hE9
  have hP := hP.kept (H1 := H) (fun k q hk => hk9 _ (vx_lt hP hk) (Nat.not_le_of_lt (vx_lt hP hk)))
  refine vx_catch (name := "java/lang/IllegalArgumentException") hown [⟨0, 10, 13, 13⟩] ⟨0, 10, 17, 15⟩ [] (htab.trans rfl) (fun z hz => by rcases List.mem_cons.mp hz with rfl | hz; exact Or.inr ⟨by decide, "java/lang/IndexOutOfBoundsException", hts (.classLink RL 13 "java/lang/IndexOutOfBoundsException") (by decide +kernel), hNc0⟩; exact nomatch hz) rfl (by decide) (hts (.classLink RL 15 "java/lang/IllegalArgumentException") (by decide +kernel)) (va_Nw.use rfl hT.2.2.2.2.2.2) hce9 hcv9 hcl9 ?_
  refine W.cs (cells' := 1) (slots' := 6) rfl rfl ?_
  refine lv_astore (lv' := [(4, .ref q9), (0, .ref q), (1, .int (nI 2)), (2, .int w), (3, .ref oq)]) hx hb dL_probes_17 hl (by decide) rfl (fun ls hl => ?_)
  refine lv_iconst (v := nI 2) hx hb dL_probes_19 (by decide +kernel) ?_
  have hP9 := hP.sub (ws' := [(q, .inr (6, [.ref s0, .ref s1, .ref s2]))]) [0] rfl
  have hD9 := hD.sub (ws' := [(q, .inr (6, [.ref s0, .ref s1, .ref s2]))]) [0] (by decide) rfl
  have hK9 := hK.sub (tys' := []) [] rfl
  exact W.iret (v := nI 2) hx hb hr (fun t9 ht hW => ⟨⟨nI 2, (), rfl, rfl, by rw [ht]; exact hP9, va_K.moved hW.alike hK9, hD9⟩, hS.F ht⟩) hS.2.2 dL_probes_20
set_option maxHeartbeats 4000000 in
set_option maxRecDepth 100000 in
/-- law: bucketOf, bucketOf_n2 -/
theorem c_L_bucketOf_n2 (l : Launch) (hls : l.stackTraces = false) (dC : Nat → ClassId) (dI : Nat → Nat → Nat) (q : Nat) (s0 : Nat) (s1 : Nat) (s2 : Nat) (w : Int32) (oq : Nat) (sa : Nat) (sz : Nat) (hW : isN w = false) : Met l yL_bucketOf wsL_bucketOf ({ frames := 8, cells := 1, slots := 6, locals := 125 }) (va_Pc [.ref q, .int (nI 2), .int w, .ref oq] (fun U => TW "java/lang/IllegalArgumentException" 153 "the number is out of range" sa (fun q => sz ≤ q) U U.heap ∧ va_Nc "java/lang/IllegalArgumentException" "java/lang/IndexOutOfBoundsException" U ∧ U.heap.size = sz ∧ va_P (dC, dI) vwCl [(q, .inr (6, [.ref s0, .ref s1, .ref s2]))] U.heap ∧ va_K (dC, dI) vwCl [] U ∧ va_D (fun _ => True) [(q, .inr (6, [.ref s0, .ref s1, .ref s2]))])) (va_Qi (fun (r : Int32) (u : Unit) => r = nI 2) (fun (u : Unit) (t : State) => va_P (dC, dI) vwCl [(q, .inr (6, [.ref s0, .ref s1, .ref s2]))] t.heap ∧ va_K (dC, dI) vwCl [] t ∧ va_D (va_A [(q, .inr (6, [.ref s0, .ref s1, .ref s2]))] sz) [(q, .inr (6, [.ref s0, .ref s1, .ref s2]))]) (va_A [(q, .inr (6, [.ref s0, .ref s1, .ref s2]))] sz)) 1 6 (va_A [(q, .inr (6, [.ref s0, .ref s1, .ref s2]))] sz) := by
  refine va_MetW (cc := cL_bucketOf) (maxL := 5) (ret := (some .int)) (hh := [(0, 10, 13, 13), (0, 10, 17, 15)]) (by decide) rfl ?_
  intro p e s m args below meth c s₁ B hml hv
  obtain ⟨rfl, hT, hNc0, hsz, hP, hK, hD0⟩ := hv
  have hx := B.exec
  have hb := B.bytes
  have hr := B.returns
  have hts := atoms_spec (ws := wsL_bucketOf) B.pre
  have hown : s.vm.findClass RL = some m.cls := findClass_of_methodNamed B.named
  have hlocks := B.notSynchronized
  have htab : c.exceptionTable.toList = tableOf [(0, 10, 13, 13), (0, 10, 17, 15)] := vx_table (x := yL_bucketOf) B (hts _ List.mem_cons_self)
  subst hsz
  have hD := hD0.self (sz := s.heap.size)
  generalize hAe : va_A [(q, .inr (6, [.ref s0, .ref s1, .ref s2]))] s.heap.size = A at hD ⊢
  have hA : ∀ q : Nat, s.heap.size ≤ q → A q := fun q h => by rw [← hAe]; exact Or.inr h
  have hS : va_S A s.heap s.heap [] := va_S.rf
  have hP : va_P (dC, dI) vwCl [(q, .inr (6, [.ref s0, .ref s1, .ref s2]))] s.heap := hP
  have hl := lv_entry ([.ref q, .int (nI 2), .int w, .ref oq]) (n := 5) (Nat.le_of_ble_eq_true rfl)
  rw [lg_entry_eq]
  generalize (lg_sl ([.ref q, .int (nI 2), .int w, .ref oq]) ++ List.replicate (5 - (lg_sl ([.ref q, .int (nI 2), .int w, .ref oq])).length) Slot.unset).toArray = ls at hl ⊢
  have hl : lv_has ls 5 [(0, .ref q), (1, .int (nI 2)), (2, .int w), (3, .ref oq)] := hl
  refine lv_aload_n hx hb dL_bucketOf_0 rfl (lv_at hl 3 rfl) ?_
  refine lv_iconst (v := nI 0) hx hb dL_bucketOf_1 (by decide +kernel) ?_
  refine lv_aload_n hx hb dL_bucketOf_2 rfl (lv_at hl 0 rfl) ?_
  refine lv_iload_n hx hb dL_bucketOf_3 rfl (lv_at hl 1 rfl) ?_
  refine lv_iload_n hx hb dL_bucketOf_4 rfl (lv_at hl 2 rfl) ?_
  have hPc := hP.sub (ws' := [(q, .inr (6, [.ref s0, .ref s1, .ref s2]))]) [0] rfl
  have hKc := hK.sub (tys' := []) [] rfl
  have hDc := hD.sub (ws' := [(q, .inr (6, [.ref s0, .ref s1, .ref s2]))]) [0] (by decide) rfl
  refine vx_callv (vx_runV (As := [.int (nI 2), .int w]) (rest := [.int (nI 0), .ref oq]) ⟨hx, hb, hml, hown, hts⟩ (x_X7_bucketOf_n2 l hls dC dI q s0 s1 s2 w sa s.heap.size (by first | assumption | omega)) (cwV 2 hts gL_bucketOf_X7_bucketOf rfl rfl rfl (by decide +kernel) ⟨Nat.le_of_ble_eq_true rfl, Nat.le_of_ble_eq_true rfl⟩) ⟨fun a U g mk q => by obtain ⟨q0, q1, qT, qP, qK, qD⟩ := q; exact ⟨q0, q1, TW.same (u := U) (U := U.calling g mk a) rfl qT, qP, va_K.moved (u := U) (U := U.calling g mk a) (Vm.Alike.refl U.vm) qK, qD⟩, va_recv hKc hPc (ci := 6) (q0 := 0) rfl rfl, fun U hU hW => ⟨rfl, by rw [hU], by rw [hU]; exact TW.warm hW hT, by rw [hU]; exact hPc, va_K.moved hW.alike hKc, hDc.weaken (fun _ _ _ _ => trivial)⟩⟩ rfl rfl hl.1 rfl (lv_room (Nat.le_of_ble_eq_true rfl)) dL_bucketOf_5 ⟨Nat.le_of_ble_eq_true rfl, Nat.le_of_ble_eq_true rfl⟩) hS (fun q h9 h8 => absurd h8 (Nat.not_le_of_lt h9)) (fun q h8 => hA q (Nat.le_trans hS.1 h8)) (fun q h9 h8 => absurd h8 (Nat.not_le_of_lt h9)) (fun E9 ce9 q9 u9 t9 H locs ht9 hvm9 hu9 hE9 hz9 hk9 hS hce9 hcv9 hcl9 => ?_) (fun u9 t9 H9 l9 ht9 hvm9 hu9 hB9 hz9 hk9 hS9 => hu9.elim)
  subst hE9
  have hP := hP.kept (H1 := H) (fun k q hk => hk9 _ (vx_lt hP hk) (Nat.not_le_of_lt (vx_lt hP hk)))
  refine vx_catch (name := "java/lang/IllegalArgumentException") hown [⟨0, 10, 13, 13⟩] ⟨0, 10, 17, 15⟩ [] (htab.trans rfl) (fun z hz => by rcases List.mem_cons.mp hz with rfl | hz; exact Or.inr ⟨by decide, "java/lang/IndexOutOfBoundsException", hts (.classLink RL 13 "java/lang/IndexOutOfBoundsException") (by decide +kernel), hNc0⟩; exact nomatch hz) rfl (by decide) (hts (.classLink RL 15 "java/lang/IllegalArgumentException") (by decide +kernel)) (va_Nw.use rfl hT.2.2.2.2.2.2) hce9 hcv9 hcl9 ?_
  refine W.cs (cells' := 1) (slots' := 6) rfl rfl ?_
  refine lv_astore (lv' := [(4, .ref q9), (0, .ref q), (1, .int (nI 2)), (2, .int w), (3, .ref oq)]) hx hb dL_bucketOf_17 hl (by decide) rfl (fun ls hl => ?_)
  refine lv_iconst (v := nI 2) hx hb dL_bucketOf_19 (by decide +kernel) ?_
  have hP9 := hP.sub (ws' := [(q, .inr (6, [.ref s0, .ref s1, .ref s2]))]) [0] rfl
  have hD9 := hD.sub (ws' := [(q, .inr (6, [.ref s0, .ref s1, .ref s2]))]) [0] (by decide) rfl
  have hK9 := hK.sub (tys' := []) [] rfl
  exact W.iret (v := nI 2) hx hb hr (fun t9 ht hW => ⟨⟨nI 2, (), rfl, rfl, by rw [ht]; exact hP9, va_K.moved hW.alike hK9, hD9⟩, hS.F ht⟩) hS.2.2 dL_bucketOf_20
set_option maxHeartbeats 4000000 in
set_option maxRecDepth 100000 in
/-- law: insertRange, insertRange_f2 -/
theorem c_L_insertRange_f2 (l : Launch) (hls : l.stackTraces = false) (dC : Nat → ClassId) (dI : Nat → Nat → Nat) (q : Nat) (s0 : Nat) (s1 : Nat) (s2 : Nat) (f : Int32) (d : Int32) (n : Int32) (oq : Nat) (sa : Nat) (sz : Nat) (hW : isN f = false) : Met l yL_insertRange wsL_insertRange ({ frames := 8, cells := 1, slots := 6, locals := 129 }) (va_Pc [.ref q, .int (nI 2), .int f, .int d, .int n, .ref oq] (fun U => TW "java/lang/IllegalArgumentException" 153 "the number is out of range" sa (fun q => sz ≤ q) U U.heap ∧ va_Nc "java/lang/IllegalArgumentException" "java/lang/IndexOutOfBoundsException" U ∧ U.heap.size = sz ∧ va_P (dC, dI) vwCl [(q, .inr (6, [.ref s0, .ref s1, .ref s2]))] U.heap ∧ va_K (dC, dI) vwCl [] U ∧ va_D (fun _ => True) [(q, .inr (6, [.ref s0, .ref s1, .ref s2]))])) (va_Qi (fun (r : Int32) (u : Unit) => r = nI 2) (fun (u : Unit) (t : State) => va_P (dC, dI) vwCl [(q, .inr (6, [.ref s0, .ref s1, .ref s2]))] t.heap ∧ va_K (dC, dI) vwCl [] t ∧ va_D (va_A [(q, .inr (6, [.ref s0, .ref s1, .ref s2]))] sz) [(q, .inr (6, [.ref s0, .ref s1, .ref s2]))]) (va_A [(q, .inr (6, [.ref s0, .ref s1, .ref s2]))] sz)) 1 6 (va_A [(q, .inr (6, [.ref s0, .ref s1, .ref s2]))] sz) := by
  refine va_MetW (cc := cL_insertRange) (maxL := 7) (ret := (some .int)) (hh := [(0, 14, 17, 13), (0, 14, 21, 15)]) (by decide) rfl ?_
  intro p e s m args below meth c s₁ B hml hv
  obtain ⟨rfl, hT, hNc0, hsz, hP, hK, hD0⟩ := hv
  have hx := B.exec
  have hb := B.bytes
  have hr := B.returns
  have hts := atoms_spec (ws := wsL_insertRange) B.pre
  have hown : s.vm.findClass RL = some m.cls := findClass_of_methodNamed B.named
  have hlocks := B.notSynchronized
  have htab : c.exceptionTable.toList = tableOf [(0, 14, 17, 13), (0, 14, 21, 15)] := vx_table (x := yL_insertRange) B (hts _ List.mem_cons_self)
  subst hsz
  have hD := hD0.self (sz := s.heap.size)
  generalize hAe : va_A [(q, .inr (6, [.ref s0, .ref s1, .ref s2]))] s.heap.size = A at hD ⊢
  have hA : ∀ q : Nat, s.heap.size ≤ q → A q := fun q h => by rw [← hAe]; exact Or.inr h
  have hS : va_S A s.heap s.heap [] := va_S.rf
  have hP : va_P (dC, dI) vwCl [(q, .inr (6, [.ref s0, .ref s1, .ref s2]))] s.heap := hP
  have hl := lv_entry ([.ref q, .int (nI 2), .int f, .int d, .int n, .ref oq]) (n := 7) (Nat.le_of_ble_eq_true rfl)
  rw [lg_entry_eq]
  generalize (lg_sl ([.ref q, .int (nI 2), .int f, .int d, .int n, .ref oq]) ++ List.replicate (7 - (lg_sl ([.ref q, .int (nI 2), .int f, .int d, .int n, .ref oq])).length) Slot.unset).toArray = ls at hl ⊢
  have hl : lv_has ls 7 [(0, .ref q), (1, .int (nI 2)), (2, .int f), (3, .int d), (4, .int n), (5, .ref oq)] := hl
  refine lv_aload hx hb dL_insertRange_0 (lv_at hl 5 rfl) ?_
  refine lv_iconst (v := nI 0) hx hb dL_insertRange_2 (by decide +kernel) ?_
  refine lv_aload_n hx hb dL_insertRange_3 rfl (lv_at hl 0 rfl) ?_
  refine lv_iload_n hx hb dL_insertRange_4 rfl (lv_at hl 1 rfl) ?_
  refine lv_iload_n hx hb dL_insertRange_5 rfl (lv_at hl 2 rfl) ?_
  refine lv_iload_n hx hb dL_insertRange_6 rfl (lv_at hl 3 rfl) ?_
  refine lv_iload hx hb dL_insertRange_7 (lv_at hl 4 rfl) ?_
  have hPc := hP.sub (ws' := [(q, .inr (6, [.ref s0, .ref s1, .ref s2]))]) [0] rfl
  have hKc := hK.sub (tys' := []) [] rfl
  have hDc := hD.sub (ws' := [(q, .inr (6, [.ref s0, .ref s1, .ref s2]))]) [0] (by decide) rfl
  refine vx_callv (vx_runV (As := [.int (nI 2), .int f, .int d, .int n]) (rest := [.int (nI 0), .ref oq]) ⟨hx, hb, hml, hown, hts⟩ (x_X7_insertRange_f2 l hls dC dI q s0 s1 s2 f d n sa s.heap.size (by first | assumption | omega)) (cwV 4 hts gL_insertRange_X7_insertRange rfl rfl rfl (by decide +kernel) ⟨Nat.le_of_ble_eq_true rfl, Nat.le_of_ble_eq_true rfl⟩) ⟨fun a U g mk q => by obtain ⟨q0, q1, qT, qP, qK, qD⟩ := q; exact ⟨q0, q1, TW.same (u := U) (U := U.calling g mk a) rfl qT, qP, va_K.moved (u := U) (U := U.calling g mk a) (Vm.Alike.refl U.vm) qK, qD⟩, va_recv hKc hPc (ci := 6) (q0 := 0) rfl rfl, fun U hU hW => ⟨rfl, by rw [hU], by rw [hU]; exact TW.warm hW hT, by rw [hU]; exact hPc, va_K.moved hW.alike hKc, hDc.weaken (fun _ _ _ _ => trivial)⟩⟩ rfl rfl hl.1 rfl (lv_room (Nat.le_of_ble_eq_true rfl)) dL_insertRange_9 ⟨Nat.le_of_ble_eq_true rfl, Nat.le_of_ble_eq_true rfl⟩) hS (fun q h9 h8 => absurd h8 (Nat.not_le_of_lt h9)) (fun q h8 => hA q (Nat.le_trans hS.1 h8)) (fun q h9 h8 => absurd h8 (Nat.not_le_of_lt h9)) (fun E9 ce9 q9 u9 t9 H locs ht9 hvm9 hu9 hE9 hz9 hk9 hS hce9 hcv9 hcl9 => ?_) (fun u9 t9 H9 l9 ht9 hvm9 hu9 hB9 hz9 hk9 hS9 => hu9.elim)
  subst hE9
  have hP := hP.kept (H1 := H) (fun k q hk => hk9 _ (vx_lt hP hk) (Nat.not_le_of_lt (vx_lt hP hk)))
  refine vx_catch (name := "java/lang/IllegalArgumentException") hown [⟨0, 14, 17, 13⟩] ⟨0, 14, 21, 15⟩ [] (htab.trans rfl) (fun z hz => by rcases List.mem_cons.mp hz with rfl | hz; exact Or.inr ⟨by decide, "java/lang/IndexOutOfBoundsException", hts (.classLink RL 13 "java/lang/IndexOutOfBoundsException") (by decide +kernel), hNc0⟩; exact nomatch hz) rfl (by decide) (hts (.classLink RL 15 "java/lang/IllegalArgumentException") (by decide +kernel)) (va_Nw.use rfl hT.2.2.2.2.2.2) hce9 hcv9 hcl9 ?_
  refine W.cs (cells' := 1) (slots' := 6) rfl rfl ?_
  refine lv_astore (lv' := [(6, .ref q9), (0, .ref q), (1, .int (nI 2)), (2, .int f), (3, .int d), (4, .int n), (5, .ref oq)]) hx hb dL_insertRange_21 hl (by decide) rfl (fun ls hl => ?_)
  refine lv_iconst (v := nI 2) hx hb dL_insertRange_23 (by decide +kernel) ?_
  have hP9 := hP.sub (ws' := [(q, .inr (6, [.ref s0, .ref s1, .ref s2]))]) [0] rfl
  have hD9 := hD.sub (ws' := [(q, .inr (6, [.ref s0, .ref s1, .ref s2]))]) [0] (by decide) rfl
  have hK9 := hK.sub (tys' := []) [] rfl
  exact W.iret (v := nI 2) hx hb hr (fun t9 ht hW => ⟨⟨nI 2, (), rfl, rfl, by rw [ht]; exact hP9, va_K.moved hW.alike hK9, hD9⟩, hS.F ht⟩) hS.2.2 dL_insertRange_24
set_option maxHeartbeats 4000000 in
set_option maxRecDepth 100000 in
/-- law: insertRange, insertRange_d2 -/
theorem c_L_insertRange_d2 (l : Launch) (hls : l.stackTraces = false) (dC : Nat → ClassId) (dI : Nat → Nat → Nat) (q : Nat) (s0 : Nat) (s1 : Nat) (s2 : Nat) (a : Nat) (d : Int32) (n : Int32) (oq : Nat) (sa : Nat) (sz : Nat) (ha : a < 4096) (hW : inB d 1 1000 = false) : Met l yL_insertRange wsL_insertRange ({ frames := 8, cells := 1, slots := 6, locals := 130 }) (va_Pc [.ref q, .int (nI 2), .int (nI a), .int d, .int n, .ref oq] (fun U => TW "java/lang/IllegalArgumentException" 156 "the step is out of range" sa (fun q => sz ≤ q) U U.heap ∧ va_Nc "java/lang/IllegalArgumentException" "java/lang/IndexOutOfBoundsException" U ∧ U.heap.size = sz ∧ va_P (dC, dI) vwCl [(q, .inr (6, [.ref s0, .ref s1, .ref s2]))] U.heap ∧ va_K (dC, dI) vwCl [] U ∧ va_D (fun _ => True) [(q, .inr (6, [.ref s0, .ref s1, .ref s2]))])) (va_Qi (fun (r : Int32) (u : Unit) => r = nI 2) (fun (u : Unit) (t : State) => va_P (dC, dI) vwCl [(q, .inr (6, [.ref s0, .ref s1, .ref s2]))] t.heap ∧ va_K (dC, dI) vwCl [] t ∧ va_D (va_A [(q, .inr (6, [.ref s0, .ref s1, .ref s2]))] sz) [(q, .inr (6, [.ref s0, .ref s1, .ref s2]))]) (va_A [(q, .inr (6, [.ref s0, .ref s1, .ref s2]))] sz)) 1 6 (va_A [(q, .inr (6, [.ref s0, .ref s1, .ref s2]))] sz) := by
  refine va_MetW (cc := cL_insertRange) (maxL := 7) (ret := (some .int)) (hh := [(0, 14, 17, 13), (0, 14, 21, 15)]) (by decide) rfl ?_
  intro p e s m args below meth c s₁ B hml hv
  obtain ⟨rfl, hT, hNc0, hsz, hP, hK, hD0⟩ := hv
  have hx := B.exec
  have hb := B.bytes
  have hr := B.returns
  have hts := atoms_spec (ws := wsL_insertRange) B.pre
  have hown : s.vm.findClass RL = some m.cls := findClass_of_methodNamed B.named
  have hlocks := B.notSynchronized
  have htab : c.exceptionTable.toList = tableOf [(0, 14, 17, 13), (0, 14, 21, 15)] := vx_table (x := yL_insertRange) B (hts _ List.mem_cons_self)
  subst hsz
  have hD := hD0.self (sz := s.heap.size)
  generalize hAe : va_A [(q, .inr (6, [.ref s0, .ref s1, .ref s2]))] s.heap.size = A at hD ⊢
  have hA : ∀ q : Nat, s.heap.size ≤ q → A q := fun q h => by rw [← hAe]; exact Or.inr h
  have hS : va_S A s.heap s.heap [] := va_S.rf
  have hP : va_P (dC, dI) vwCl [(q, .inr (6, [.ref s0, .ref s1, .ref s2]))] s.heap := hP
  have hl := lv_entry ([.ref q, .int (nI 2), .int (nI a), .int d, .int n, .ref oq]) (n := 7) (Nat.le_of_ble_eq_true rfl)
  rw [lg_entry_eq]
  generalize (lg_sl ([.ref q, .int (nI 2), .int (nI a), .int d, .int n, .ref oq]) ++ List.replicate (7 - (lg_sl ([.ref q, .int (nI 2), .int (nI a), .int d, .int n, .ref oq])).length) Slot.unset).toArray = ls at hl ⊢
  have hl : lv_has ls 7 [(0, .ref q), (1, .int (nI 2)), (2, .int (nI a)), (3, .int d), (4, .int n), (5, .ref oq)] := hl
  refine lv_aload hx hb dL_insertRange_0 (lv_at hl 5 rfl) ?_
  refine lv_iconst (v := nI 0) hx hb dL_insertRange_2 (by decide +kernel) ?_
  refine lv_aload_n hx hb dL_insertRange_3 rfl (lv_at hl 0 rfl) ?_
  refine lv_iload_n hx hb dL_insertRange_4 rfl (lv_at hl 1 rfl) ?_
  refine lv_iload_n hx hb dL_insertRange_5 rfl (lv_at hl 2 rfl) ?_
  refine lv_iload_n hx hb dL_insertRange_6 rfl (lv_at hl 3 rfl) ?_
  refine lv_iload hx hb dL_insertRange_7 (lv_at hl 4 rfl) ?_
  have hPc := hP.sub (ws' := [(q, .inr (6, [.ref s0, .ref s1, .ref s2]))]) [0] rfl
  have hKc := hK.sub (tys' := []) [] rfl
  have hDc := hD.sub (ws' := [(q, .inr (6, [.ref s0, .ref s1, .ref s2]))]) [0] (by decide) rfl
  refine vx_callv (vx_runV (As := [.int (nI 2), .int (nI a), .int d, .int n]) (rest := [.int (nI 0), .ref oq]) ⟨hx, hb, hml, hown, hts⟩ (x_X7_insertRange_d2 l hls dC dI q s0 s1 s2 a d n sa s.heap.size (by first | assumption | omega) (by first | assumption | omega)) (cwV 4 hts gL_insertRange_X7_insertRange rfl rfl rfl (by decide +kernel) ⟨Nat.le_of_ble_eq_true rfl, Nat.le_of_ble_eq_true rfl⟩) ⟨fun a U g mk q => by obtain ⟨q0, q1, qT, qP, qK, qD⟩ := q; exact ⟨q0, q1, TW.same (u := U) (U := U.calling g mk a) rfl qT, qP, va_K.moved (u := U) (U := U.calling g mk a) (Vm.Alike.refl U.vm) qK, qD⟩, va_recv hKc hPc (ci := 6) (q0 := 0) rfl rfl, fun U hU hW => ⟨rfl, by rw [hU], by rw [hU]; exact TW.warm hW hT, by rw [hU]; exact hPc, va_K.moved hW.alike hKc, hDc.weaken (fun _ _ _ _ => trivial)⟩⟩ rfl rfl hl.1 rfl (lv_room (Nat.le_of_ble_eq_true rfl)) dL_insertRange_9 ⟨Nat.le_of_ble_eq_true rfl, Nat.le_of_ble_eq_true rfl⟩) hS (fun q h9 h8 => absurd h8 (Nat.not_le_of_lt h9)) (fun q h8 => hA q (Nat.le_trans hS.1 h8)) (fun q h9 h8 => absurd h8 (Nat.not_le_of_lt h9)) (fun E9 ce9 q9 u9 t9 H locs ht9 hvm9 hu9 hE9 hz9 hk9 hS hce9 hcv9 hcl9 => ?_) (fun u9 t9 H9 l9 ht9 hvm9 hu9 hB9 hz9 hk9 hS9 => hu9.elim)
  subst hE9
  have hP := hP.kept (H1 := H) (fun k q hk => hk9 _ (vx_lt hP hk) (Nat.not_le_of_lt (vx_lt hP hk)))
  refine vx_catch (name := "java/lang/IllegalArgumentException") hown [⟨0, 14, 17, 13⟩] ⟨0, 14, 21, 15⟩ [] (htab.trans rfl) (fun z hz => by rcases List.mem_cons.mp hz with rfl | hz; exact Or.inr ⟨by decide, "java/lang/IndexOutOfBoundsException", hts (.classLink RL 13 "java/lang/IndexOutOfBoundsException") (by decide +kernel), hNc0⟩; exact nomatch hz) rfl (by decide) (hts (.classLink RL 15 "java/lang/IllegalArgumentException") (by decide +kernel)) (va_Nw.use rfl hT.2.2.2.2.2.2) hce9 hcv9 hcl9 ?_
  refine W.cs (cells' := 1) (slots' := 6) rfl rfl ?_
  refine lv_astore (lv' := [(6, .ref q9), (0, .ref q), (1, .int (nI 2)), (2, .int (nI a)), (3, .int d), (4, .int n), (5, .ref oq)]) hx hb dL_insertRange_21 hl (by decide) rfl (fun ls hl => ?_)
  refine lv_iconst (v := nI 2) hx hb dL_insertRange_23 (by decide +kernel) ?_
  have hP9 := hP.sub (ws' := [(q, .inr (6, [.ref s0, .ref s1, .ref s2]))]) [0] rfl
  have hD9 := hD.sub (ws' := [(q, .inr (6, [.ref s0, .ref s1, .ref s2]))]) [0] (by decide) rfl
  have hK9 := hK.sub (tys' := []) [] rfl
  exact W.iret (v := nI 2) hx hb hr (fun t9 ht hW => ⟨⟨nI 2, (), rfl, rfl, by rw [ht]; exact hP9, va_K.moved hW.alike hK9, hD9⟩, hS.F ht⟩) hS.2.2 dL_insertRange_24
set_option maxHeartbeats 4000000 in
set_option maxRecDepth 100000 in
/-- law: insertRange, insertRange_c2 -/
theorem c_L_insertRange_c2 (l : Launch) (hls : l.stackTraces = false) (dC : Nat → ClassId) (dI : Nat → Nat → Nat) (q : Nat) (s0 : Nat) (s1 : Nat) (s2 : Nat) (a : Nat) (d : Nat) (n : Int32) (oq : Nat) (sa : Nat) (sz : Nat) (ha : a < 4096) (hd : 1 ≤ d ∧ d ≤ 1000) (hW : inB n 1 30 = false) : Met l yL_insertRange wsL_insertRange ({ frames := 8, cells := 1, slots := 6, locals := 130 }) (va_Pc [.ref q, .int (nI 2), .int (nI a), .int (nI d), .int n, .ref oq] (fun U => TW "java/lang/IllegalArgumentException" 158 "the count is out of range" sa (fun q => sz ≤ q) U U.heap ∧ va_Nc "java/lang/IllegalArgumentException" "java/lang/IndexOutOfBoundsException" U ∧ U.heap.size = sz ∧ va_P (dC, dI) vwCl [(q, .inr (6, [.ref s0, .ref s1, .ref s2]))] U.heap ∧ va_K (dC, dI) vwCl [] U ∧ va_D (fun _ => True) [(q, .inr (6, [.ref s0, .ref s1, .ref s2]))])) (va_Qi (fun (r : Int32) (u : Unit) => r = nI 2) (fun (u : Unit) (t : State) => va_P (dC, dI) vwCl [(q, .inr (6, [.ref s0, .ref s1, .ref s2]))] t.heap ∧ va_K (dC, dI) vwCl [] t ∧ va_D (va_A [(q, .inr (6, [.ref s0, .ref s1, .ref s2]))] sz) [(q, .inr (6, [.ref s0, .ref s1, .ref s2]))]) (va_A [(q, .inr (6, [.ref s0, .ref s1, .ref s2]))] sz)) 1 6 (va_A [(q, .inr (6, [.ref s0, .ref s1, .ref s2]))] sz) := by
  refine va_MetW (cc := cL_insertRange) (maxL := 7) (ret := (some .int)) (hh := [(0, 14, 17, 13), (0, 14, 21, 15)]) (by decide) rfl ?_
  intro p e s m args below meth c s₁ B hml hv
  obtain ⟨rfl, hT, hNc0, hsz, hP, hK, hD0⟩ := hv
  have hx := B.exec
  have hb := B.bytes
  have hr := B.returns
  have hts := atoms_spec (ws := wsL_insertRange) B.pre
  have hown : s.vm.findClass RL = some m.cls := findClass_of_methodNamed B.named
  have hlocks := B.notSynchronized
  have htab : c.exceptionTable.toList = tableOf [(0, 14, 17, 13), (0, 14, 21, 15)] := vx_table (x := yL_insertRange) B (hts _ List.mem_cons_self)
  subst hsz
  have hD := hD0.self (sz := s.heap.size)
  generalize hAe : va_A [(q, .inr (6, [.ref s0, .ref s1, .ref s2]))] s.heap.size = A at hD ⊢
  have hA : ∀ q : Nat, s.heap.size ≤ q → A q := fun q h => by rw [← hAe]; exact Or.inr h
  have hS : va_S A s.heap s.heap [] := va_S.rf
  have hP : va_P (dC, dI) vwCl [(q, .inr (6, [.ref s0, .ref s1, .ref s2]))] s.heap := hP
  have hl := lv_entry ([.ref q, .int (nI 2), .int (nI a), .int (nI d), .int n, .ref oq]) (n := 7) (Nat.le_of_ble_eq_true rfl)
  rw [lg_entry_eq]
  generalize (lg_sl ([.ref q, .int (nI 2), .int (nI a), .int (nI d), .int n, .ref oq]) ++ List.replicate (7 - (lg_sl ([.ref q, .int (nI 2), .int (nI a), .int (nI d), .int n, .ref oq])).length) Slot.unset).toArray = ls at hl ⊢
  have hl : lv_has ls 7 [(0, .ref q), (1, .int (nI 2)), (2, .int (nI a)), (3, .int (nI d)), (4, .int n), (5, .ref oq)] := hl
  refine lv_aload hx hb dL_insertRange_0 (lv_at hl 5 rfl) ?_
  refine lv_iconst (v := nI 0) hx hb dL_insertRange_2 (by decide +kernel) ?_
  refine lv_aload_n hx hb dL_insertRange_3 rfl (lv_at hl 0 rfl) ?_
  refine lv_iload_n hx hb dL_insertRange_4 rfl (lv_at hl 1 rfl) ?_
  refine lv_iload_n hx hb dL_insertRange_5 rfl (lv_at hl 2 rfl) ?_
  refine lv_iload_n hx hb dL_insertRange_6 rfl (lv_at hl 3 rfl) ?_
  refine lv_iload hx hb dL_insertRange_7 (lv_at hl 4 rfl) ?_
  have hPc := hP.sub (ws' := [(q, .inr (6, [.ref s0, .ref s1, .ref s2]))]) [0] rfl
  have hKc := hK.sub (tys' := []) [] rfl
  have hDc := hD.sub (ws' := [(q, .inr (6, [.ref s0, .ref s1, .ref s2]))]) [0] (by decide) rfl
  refine vx_callv (vx_runV (As := [.int (nI 2), .int (nI a), .int (nI d), .int n]) (rest := [.int (nI 0), .ref oq]) ⟨hx, hb, hml, hown, hts⟩ (x_X7_insertRange_c2 l hls dC dI q s0 s1 s2 a d n sa s.heap.size (by first | assumption | omega) (by first | assumption | omega) (by first | assumption | omega)) (cwV 4 hts gL_insertRange_X7_insertRange rfl rfl rfl (by decide +kernel) ⟨Nat.le_of_ble_eq_true rfl, Nat.le_of_ble_eq_true rfl⟩) ⟨fun a U g mk q => by obtain ⟨q0, q1, qT, qP, qK, qD⟩ := q; exact ⟨q0, q1, TW.same (u := U) (U := U.calling g mk a) rfl qT, qP, va_K.moved (u := U) (U := U.calling g mk a) (Vm.Alike.refl U.vm) qK, qD⟩, va_recv hKc hPc (ci := 6) (q0 := 0) rfl rfl, fun U hU hW => ⟨rfl, by rw [hU], by rw [hU]; exact TW.warm hW hT, by rw [hU]; exact hPc, va_K.moved hW.alike hKc, hDc.weaken (fun _ _ _ _ => trivial)⟩⟩ rfl rfl hl.1 rfl (lv_room (Nat.le_of_ble_eq_true rfl)) dL_insertRange_9 ⟨Nat.le_of_ble_eq_true rfl, Nat.le_of_ble_eq_true rfl⟩) hS (fun q h9 h8 => absurd h8 (Nat.not_le_of_lt h9)) (fun q h8 => hA q (Nat.le_trans hS.1 h8)) (fun q h9 h8 => absurd h8 (Nat.not_le_of_lt h9)) (fun E9 ce9 q9 u9 t9 H locs ht9 hvm9 hu9 hE9 hz9 hk9 hS hce9 hcv9 hcl9 => ?_) (fun u9 t9 H9 l9 ht9 hvm9 hu9 hB9 hz9 hk9 hS9 => hu9.elim)
  subst hE9
  have hP := hP.kept (H1 := H) (fun k q hk => hk9 _ (vx_lt hP hk) (Nat.not_le_of_lt (vx_lt hP hk)))
  refine vx_catch (name := "java/lang/IllegalArgumentException") hown [⟨0, 14, 17, 13⟩] ⟨0, 14, 21, 15⟩ [] (htab.trans rfl) (fun z hz => by rcases List.mem_cons.mp hz with rfl | hz; exact Or.inr ⟨by decide, "java/lang/IndexOutOfBoundsException", hts (.classLink RL 13 "java/lang/IndexOutOfBoundsException") (by decide +kernel), hNc0⟩; exact nomatch hz) rfl (by decide) (hts (.classLink RL 15 "java/lang/IllegalArgumentException") (by decide +kernel)) (va_Nw.use rfl hT.2.2.2.2.2.2) hce9 hcv9 hcl9 ?_
  refine W.cs (cells' := 1) (slots' := 6) rfl rfl ?_
  refine lv_astore (lv' := [(6, .ref q9), (0, .ref q), (1, .int (nI 2)), (2, .int (nI a)), (3, .int (nI d)), (4, .int n), (5, .ref oq)]) hx hb dL_insertRange_21 hl (by decide) rfl (fun ls hl => ?_)
  refine lv_iconst (v := nI 2) hx hb dL_insertRange_23 (by decide +kernel) ?_
  have hP9 := hP.sub (ws' := [(q, .inr (6, [.ref s0, .ref s1, .ref s2]))]) [0] rfl
  have hD9 := hD.sub (ws' := [(q, .inr (6, [.ref s0, .ref s1, .ref s2]))]) [0] (by decide) rfl
  have hK9 := hK.sub (tys' := []) [] rfl
  exact W.iret (v := nI 2) hx hb hr (fun t9 ht hW => ⟨⟨nI 2, (), rfl, rfl, by rw [ht]; exact hP9, va_K.moved hW.alike hK9, hD9⟩, hS.F ht⟩) hS.2.2 dL_insertRange_24
set_option maxHeartbeats 4000000 in
set_option maxRecDepth 100000 in
/-- law: insertRange, insertRange_e2 -/
theorem c_L_insertRange_e2 (l : Launch) (hls : l.stackTraces = false) (dC : Nat → ClassId) (dI : Nat → Nat → Nat) (q : Nat) (s0 : Nat) (s1 : Nat) (s2 : Nat) (a : Nat) (d : Nat) (n : Nat) (oq : Nat) (sa : Nat) (sz : Nat) (ha : a < 4096) (hd : 1 ≤ d ∧ d ≤ 1000) (hn : 1 ≤ n ∧ n ≤ 30) (hW : isN (nI (a + (n - 1) * d)) = false) : Met l yL_insertRange wsL_insertRange ({ frames := 8, cells := 1, slots := 6, locals := 129 }) (va_Pc [.ref q, .int (nI 2), .int (nI a), .int (nI d), .int (nI n), .ref oq] (fun U => TW "java/lang/IllegalArgumentException" 153 "the number is out of range" sa (fun q => sz ≤ q) U U.heap ∧ va_Nc "java/lang/IllegalArgumentException" "java/lang/IndexOutOfBoundsException" U ∧ U.heap.size = sz ∧ va_P (dC, dI) vwCl [(q, .inr (6, [.ref s0, .ref s1, .ref s2]))] U.heap ∧ va_K (dC, dI) vwCl [] U ∧ va_D (fun _ => True) [(q, .inr (6, [.ref s0, .ref s1, .ref s2]))])) (va_Qi (fun (r : Int32) (u : Unit) => r = nI 2) (fun (u : Unit) (t : State) => va_P (dC, dI) vwCl [(q, .inr (6, [.ref s0, .ref s1, .ref s2]))] t.heap ∧ va_K (dC, dI) vwCl [] t ∧ va_D (va_A [(q, .inr (6, [.ref s0, .ref s1, .ref s2]))] sz) [(q, .inr (6, [.ref s0, .ref s1, .ref s2]))]) (va_A [(q, .inr (6, [.ref s0, .ref s1, .ref s2]))] sz)) 1 6 (va_A [(q, .inr (6, [.ref s0, .ref s1, .ref s2]))] sz) := by
  refine va_MetW (cc := cL_insertRange) (maxL := 7) (ret := (some .int)) (hh := [(0, 14, 17, 13), (0, 14, 21, 15)]) (by decide) rfl ?_
  intro p e s m args below meth c s₁ B hml hv
  obtain ⟨rfl, hT, hNc0, hsz, hP, hK, hD0⟩ := hv
  have hx := B.exec
  have hb := B.bytes
  have hr := B.returns
  have hts := atoms_spec (ws := wsL_insertRange) B.pre
  have hown : s.vm.findClass RL = some m.cls := findClass_of_methodNamed B.named
  have hlocks := B.notSynchronized
  have htab : c.exceptionTable.toList = tableOf [(0, 14, 17, 13), (0, 14, 21, 15)] := vx_table (x := yL_insertRange) B (hts _ List.mem_cons_self)
  subst hsz
  have hD := hD0.self (sz := s.heap.size)
  generalize hAe : va_A [(q, .inr (6, [.ref s0, .ref s1, .ref s2]))] s.heap.size = A at hD ⊢
  have hA : ∀ q : Nat, s.heap.size ≤ q → A q := fun q h => by rw [← hAe]; exact Or.inr h
  have hS : va_S A s.heap s.heap [] := va_S.rf
  have hP : va_P (dC, dI) vwCl [(q, .inr (6, [.ref s0, .ref s1, .ref s2]))] s.heap := hP
  have hl := lv_entry ([.ref q, .int (nI 2), .int (nI a), .int (nI d), .int (nI n), .ref oq]) (n := 7) (Nat.le_of_ble_eq_true rfl)
  rw [lg_entry_eq]
  generalize (lg_sl ([.ref q, .int (nI 2), .int (nI a), .int (nI d), .int (nI n), .ref oq]) ++ List.replicate (7 - (lg_sl ([.ref q, .int (nI 2), .int (nI a), .int (nI d), .int (nI n), .ref oq])).length) Slot.unset).toArray = ls at hl ⊢
  have hl : lv_has ls 7 [(0, .ref q), (1, .int (nI 2)), (2, .int (nI a)), (3, .int (nI d)), (4, .int (nI n)), (5, .ref oq)] := hl
  refine lv_aload hx hb dL_insertRange_0 (lv_at hl 5 rfl) ?_
  refine lv_iconst (v := nI 0) hx hb dL_insertRange_2 (by decide +kernel) ?_
  refine lv_aload_n hx hb dL_insertRange_3 rfl (lv_at hl 0 rfl) ?_
  refine lv_iload_n hx hb dL_insertRange_4 rfl (lv_at hl 1 rfl) ?_
  refine lv_iload_n hx hb dL_insertRange_5 rfl (lv_at hl 2 rfl) ?_
  refine lv_iload_n hx hb dL_insertRange_6 rfl (lv_at hl 3 rfl) ?_
  refine lv_iload hx hb dL_insertRange_7 (lv_at hl 4 rfl) ?_
  have hPc := hP.sub (ws' := [(q, .inr (6, [.ref s0, .ref s1, .ref s2]))]) [0] rfl
  have hKc := hK.sub (tys' := []) [] rfl
  have hDc := hD.sub (ws' := [(q, .inr (6, [.ref s0, .ref s1, .ref s2]))]) [0] (by decide) rfl
  refine vx_callv (vx_runV (As := [.int (nI 2), .int (nI a), .int (nI d), .int (nI n)]) (rest := [.int (nI 0), .ref oq]) ⟨hx, hb, hml, hown, hts⟩ (x_X7_insertRange_e2 l hls dC dI q s0 s1 s2 a d n sa s.heap.size (by first | assumption | omega) (by first | assumption | omega) (by first | assumption | omega) (by first | assumption | omega)) (cwV 4 hts gL_insertRange_X7_insertRange rfl rfl rfl (by decide +kernel) ⟨Nat.le_of_ble_eq_true rfl, Nat.le_of_ble_eq_true rfl⟩) ⟨fun a U g mk q => by obtain ⟨q0, q1, qT, qP, qK, qD⟩ := q; exact ⟨q0, q1, TW.same (u := U) (U := U.calling g mk a) rfl qT, qP, va_K.moved (u := U) (U := U.calling g mk a) (Vm.Alike.refl U.vm) qK, qD⟩, va_recv hKc hPc (ci := 6) (q0 := 0) rfl rfl, fun U hU hW => ⟨rfl, by rw [hU], by rw [hU]; exact TW.warm hW hT, by rw [hU]; exact hPc, va_K.moved hW.alike hKc, hDc.weaken (fun _ _ _ _ => trivial)⟩⟩ rfl rfl hl.1 rfl (lv_room (Nat.le_of_ble_eq_true rfl)) dL_insertRange_9 ⟨Nat.le_of_ble_eq_true rfl, Nat.le_of_ble_eq_true rfl⟩) hS (fun q h9 h8 => absurd h8 (Nat.not_le_of_lt h9)) (fun q h8 => hA q (Nat.le_trans hS.1 h8)) (fun q h9 h8 => absurd h8 (Nat.not_le_of_lt h9)) (fun E9 ce9 q9 u9 t9 H locs ht9 hvm9 hu9 hE9 hz9 hk9 hS hce9 hcv9 hcl9 => ?_) (fun u9 t9 H9 l9 ht9 hvm9 hu9 hB9 hz9 hk9 hS9 => hu9.elim)
  subst hE9
  have hP := hP.kept (H1 := H) (fun k q hk => hk9 _ (vx_lt hP hk) (Nat.not_le_of_lt (vx_lt hP hk)))
  refine vx_catch (name := "java/lang/IllegalArgumentException") hown [⟨0, 14, 17, 13⟩] ⟨0, 14, 21, 15⟩ [] (htab.trans rfl) (fun z hz => by rcases List.mem_cons.mp hz with rfl | hz; exact Or.inr ⟨by decide, "java/lang/IndexOutOfBoundsException", hts (.classLink RL 13 "java/lang/IndexOutOfBoundsException") (by decide +kernel), hNc0⟩; exact nomatch hz) rfl (by decide) (hts (.classLink RL 15 "java/lang/IllegalArgumentException") (by decide +kernel)) (va_Nw.use rfl hT.2.2.2.2.2.2) hce9 hcv9 hcl9 ?_
  refine W.cs (cells' := 1) (slots' := 6) rfl rfl ?_
  refine lv_astore (lv' := [(6, .ref q9), (0, .ref q), (1, .int (nI 2)), (2, .int (nI a)), (3, .int (nI d)), (4, .int (nI n)), (5, .ref oq)]) hx hb dL_insertRange_21 hl (by decide) rfl (fun ls hl => ?_)
  refine lv_iconst (v := nI 2) hx hb dL_insertRange_23 (by decide +kernel) ?_
  have hP9 := hP.sub (ws' := [(q, .inr (6, [.ref s0, .ref s1, .ref s2]))]) [0] rfl
  have hD9 := hD.sub (ws' := [(q, .inr (6, [.ref s0, .ref s1, .ref s2]))]) [0] (by decide) rfl
  have hK9 := hK.sub (tys' := []) [] rfl
  exact W.iret (v := nI 2) hx hb hr (fun t9 ht hW => ⟨⟨nI 2, (), rfl, rfl, by rw [ht]; exact hP9, va_K.moved hW.alike hK9, hD9⟩, hS.F ht⟩) hS.2.2 dL_insertRange_24
set_option maxHeartbeats 4000000 in
set_option maxRecDepth 100000 in
/-- law: insertAll, insertAll_t2 -/
theorem c_L_insertAll_t2 (l : Launch) (hls : l.stackTraces = false) (dC : Nat → ClassId) (dI : Nat → Nat → Nat) (q : Nat) (s0 : Nat) (s1 : Nat) (s2 : Nat) (w : Int32) (oq : Nat) (sa : Nat) (sz : Nat) (hW : isS w = false) : Met l yL_insertAll wsL_insertAll ({ frames := 8, cells := 1, slots := 6, locals := 130 }) (va_Pc [.ref q, .int (nI 2), .int w, .ref oq] (fun U => TW "java/lang/IndexOutOfBoundsException" 148 "no such set" sa (fun q => sz ≤ q) U U.heap ∧ U.heap.size = sz ∧ va_P (dC, dI) vwCl [(q, .inr (6, [.ref s0, .ref s1, .ref s2]))] U.heap ∧ va_K (dC, dI) vwCl [] U ∧ va_D (fun _ => True) [(q, .inr (6, [.ref s0, .ref s1, .ref s2]))])) (va_Qi (fun (r : Int32) (u : Unit) => r = nI 1) (fun (u : Unit) (t : State) => va_P (dC, dI) vwCl [(q, .inr (6, [.ref s0, .ref s1, .ref s2]))] t.heap ∧ va_K (dC, dI) vwCl [] t ∧ va_D (va_A [(q, .inr (6, [.ref s0, .ref s1, .ref s2]))] sz) [(q, .inr (6, [.ref s0, .ref s1, .ref s2]))]) (va_A [(q, .inr (6, [.ref s0, .ref s1, .ref s2]))] sz)) 1 6 (va_A [(q, .inr (6, [.ref s0, .ref s1, .ref s2]))] sz) := by
  refine va_MetW (cc := cL_insertAll) (maxL := 5) (ret := (some .int)) (hh := [(0, 10, 13, 13), (0, 10, 17, 25)]) (by decide) rfl ?_
  intro p e s m args below meth c s₁ B hml hv
  obtain ⟨rfl, hT, hsz, hP, hK, hD0⟩ := hv
  have hx := B.exec
  have hb := B.bytes
  have hr := B.returns
  have hts := atoms_spec (ws := wsL_insertAll) B.pre
  have hown : s.vm.findClass RL = some m.cls := findClass_of_methodNamed B.named
  have hlocks := B.notSynchronized
  have htab : c.exceptionTable.toList = tableOf [(0, 10, 13, 13), (0, 10, 17, 25)] := vx_table (x := yL_insertAll) B (hts _ List.mem_cons_self)
  subst hsz
  have hD := hD0.self (sz := s.heap.size)
  generalize hAe : va_A [(q, .inr (6, [.ref s0, .ref s1, .ref s2]))] s.heap.size = A at hD ⊢
  have hA : ∀ q : Nat, s.heap.size ≤ q → A q := fun q h => by rw [← hAe]; exact Or.inr h
  have hS : va_S A s.heap s.heap [] := va_S.rf
  have hP : va_P (dC, dI) vwCl [(q, .inr (6, [.ref s0, .ref s1, .ref s2]))] s.heap := hP
  have hl := lv_entry ([.ref q, .int (nI 2), .int w, .ref oq]) (n := 5) (Nat.le_of_ble_eq_true rfl)
  rw [lg_entry_eq]
  generalize (lg_sl ([.ref q, .int (nI 2), .int w, .ref oq]) ++ List.replicate (5 - (lg_sl ([.ref q, .int (nI 2), .int w, .ref oq])).length) Slot.unset).toArray = ls at hl ⊢
  have hl : lv_has ls 5 [(0, .ref q), (1, .int (nI 2)), (2, .int w), (3, .ref oq)] := hl
  refine lv_aload_n hx hb dL_insertAll_0 rfl (lv_at hl 3 rfl) ?_
  refine lv_iconst (v := nI 0) hx hb dL_insertAll_1 (by decide +kernel) ?_
  refine lv_aload_n hx hb dL_insertAll_2 rfl (lv_at hl 0 rfl) ?_
  refine lv_iload_n hx hb dL_insertAll_3 rfl (lv_at hl 1 rfl) ?_
  refine lv_iload_n hx hb dL_insertAll_4 rfl (lv_at hl 2 rfl) ?_
  have hPc := hP.sub (ws' := [(q, .inr (6, [.ref s0, .ref s1, .ref s2]))]) [0] rfl
  have hKc := hK.sub (tys' := []) [] rfl
  have hDc := hD.sub (ws' := [(q, .inr (6, [.ref s0, .ref s1, .ref s2]))]) [0] (by decide) rfl
  refine vx_callv (vx_runV (As := [.int (nI 2), .int w]) (rest := [.int (nI 0), .ref oq]) ⟨hx, hb, hml, hown, hts⟩ (x_X7_insertAll_t2 l hls dC dI q s0 s1 s2 w sa s.heap.size (by first | assumption | omega)) (cwV 2 hts gL_insertAll_X7_insertAll rfl rfl rfl (by decide +kernel) ⟨Nat.le_of_ble_eq_true rfl, Nat.le_of_ble_eq_true rfl⟩) ⟨fun a U g mk q => by obtain ⟨q0, q1, qT, qP, qK, qD⟩ := q; exact ⟨q0, q1, TW.same (u := U) (U := U.calling g mk a) rfl qT, qP, va_K.moved (u := U) (U := U.calling g mk a) (Vm.Alike.refl U.vm) qK, qD⟩, va_recv hKc hPc (ci := 6) (q0 := 0) rfl rfl, fun U hU hW => ⟨rfl, by rw [hU], by rw [hU]; exact TW.warm hW hT, by rw [hU]; exact hPc, va_K.moved hW.alike hKc, hDc.weaken (fun _ _ _ _ => trivial)⟩⟩ rfl rfl hl.1 rfl (lv_room (Nat.le_of_ble_eq_true rfl)) dL_insertAll_5 ⟨Nat.le_of_ble_eq_true rfl, Nat.le_of_ble_eq_true rfl⟩) hS (fun q h9 h8 => absurd h8 (Nat.not_le_of_lt h9)) (fun q h8 => hA q (Nat.le_trans hS.1 h8)) (fun q h9 h8 => absurd h8 (Nat.not_le_of_lt h9)) (fun E9 ce9 q9 u9 t9 H locs ht9 hvm9 hu9 hE9 hz9 hk9 hS hce9 hcv9 hcl9 => ?_) (fun u9 t9 H9 l9 ht9 hvm9 hu9 hB9 hz9 hk9 hS9 => hu9.elim)
  subst hE9
  have hP := hP.kept (H1 := H) (fun k q hk => hk9 _ (vx_lt hP hk) (Nat.not_le_of_lt (vx_lt hP hk)))
  refine vx_catch (name := "java/lang/IndexOutOfBoundsException") hown [] ⟨0, 10, 13, 13⟩ [⟨0, 10, 17, 25⟩] (htab.trans rfl) (fun z hz => nomatch hz) rfl (by decide) (hts (.classLink RL 13 "java/lang/IndexOutOfBoundsException") (by decide +kernel)) (va_Nw.use rfl hT.2.2.2.2.2.2) hce9 hcv9 hcl9 ?_
  refine W.cs (cells' := 1) (slots' := 6) rfl rfl ?_
  refine lv_astore (lv' := [(4, .ref q9), (0, .ref q), (1, .int (nI 2)), (2, .int w), (3, .ref oq)]) hx hb dL_insertAll_13 hl (by decide) rfl (fun ls hl => ?_)
  refine lv_iconst (v := nI 1) hx hb dL_insertAll_15 (by decide +kernel) ?_
  have hP9 := hP.sub (ws' := [(q, .inr (6, [.ref s0, .ref s1, .ref s2]))]) [0] rfl
  have hD9 := hD.sub (ws' := [(q, .inr (6, [.ref s0, .ref s1, .ref s2]))]) [0] (by decide) rfl
  have hK9 := hK.sub (tys' := []) [] rfl
  exact W.iret (v := nI 1) hx hb hr (fun t9 ht hW => ⟨⟨nI 1, (), rfl, rfl, by rw [ht]; exact hP9, va_K.moved hW.alike hK9, hD9⟩, hS.F ht⟩) hS.2.2 dL_insertAll_16
set_option maxHeartbeats 4000000 in
set_option maxRecDepth 100000 in
/-- law: insertAll, insertAll_e20 -/
theorem c_L_insertAll_e20 (l : Launch) (hls : l.stackTraces = false) (dC : Nat → ClassId) (dI : Nat → Nat → Nat) (q : Nat) (s0 : Nat) (s1 : Nat) (s2 : Nat) (tq : Nat) (ca : Nat) (rq : Nat) (rb : Nat) (rd : Nat) (uq : Nat) (bm : Nat) (am : Nat) (bs : Nat) (ap : Nat) (cJ : ClassId) (fm : Nat → Int64) (fs : Nat → Int64) (ft : Nat → Int64) (fc : Nat → Int64) (sm : Int64) (lo : Option Nat) (tq_o : Nat) (ca_o : Nat) (rq_o : Nat) (rb_o : Nat) (rd_o : Nat) (uq_o : Nat) (bm_o : Nat) (am_o : Nat) (bs_o : Nat) (ap_o : Nat) (om : Nat → Int64) (os : Nat → Int64) (ot : Nat → Int64) (oc : Nat → Int64) (osm : Int64) (olo : Option Nat) (oq : Nat) (sa : Nat) (sz : Nat) (hN : NI fm fs ft fc sm lo) (hn30 : 30 < fb_ct (bo om) 4096) : Met l yL_insertAll wsL_insertAll ({ frames := 7, cells := 1, slots := 6, locals := 109 }) (va_Pc [.ref q, .int (nI 2), .int (nI 0), .ref oq] (fun U => va_Nw (.fieldLinkNest RX7 38 "SmallNumberSets$NumberSet" "buckets" "LSmallNumberSets$Buckets;" "SmallNumberSets") U ∧ TW "java/lang/IllegalStateException" 50 "the other set has too many members" sa (fun q => sz ≤ q) U U.heap ∧ va_Nc "java/lang/IllegalStateException" "java/lang/IndexOutOfBoundsException" U ∧ U.heap.size = sz ∧ va_P (dC, dI) vwCl [(q, .inr (6, [.ref s0, .ref s1, .ref s2])), (s2, .inr (3, [.ref tq, .ref rq, .ref uq])), (tq, .inr (4, [.ref ca, .long sm, .int (oI lo)])), (ca, .inl (cJ, 64, .inr (.inl fc))), (rq, .inr (5, [.ref rb])), (rb, .inr (0, [.ref rd])), (rd, .inl (cJ, 128, .inr (.inl ft))), (uq, .inr (1, [.ref bm, .ref bs])), (bm, .inr (0, [.ref am])), (am, .inl (cJ, 64, .inr (.inl fm))), (bs, .inr (0, [.ref ap])), (ap, .inl (cJ, 64, .inr (.inl fs))), (s0, .inr (3, [.ref tq_o, .ref rq_o, .ref uq_o])), (tq_o, .inr (4, [.ref ca_o, .long osm, .int (oI olo)])), (ca_o, .inl (cJ, 64, .inr (.inl oc))), (rq_o, .inr (5, [.ref rb_o])), (rb_o, .inr (0, [.ref rd_o])), (rd_o, .inl (cJ, 128, .inr (.inl ot))), (uq_o, .inr (1, [.ref bm_o, .ref bs_o])), (bm_o, .inr (0, [.ref am_o])), (am_o, .inl (cJ, 64, .inr (.inl om))), (bs_o, .inr (0, [.ref ap_o])), (ap_o, .inl (cJ, 64, .inr (.inl os)))] U.heap ∧ va_K (dC, dI) vwCl [(cJ, .long)] U ∧ va_D (fun _ => True) [(q, .inr (6, [.ref s0, .ref s1, .ref s2])), (s2, .inr (3, [.ref tq, .ref rq, .ref uq])), (tq, .inr (4, [.ref ca, .long sm, .int (oI lo)])), (ca, .inl (cJ, 64, .inr (.inl fc))), (rq, .inr (5, [.ref rb])), (rb, .inr (0, [.ref rd])), (rd, .inl (cJ, 128, .inr (.inl ft))), (uq, .inr (1, [.ref bm, .ref bs])), (bm, .inr (0, [.ref am])), (am, .inl (cJ, 64, .inr (.inl fm))), (bs, .inr (0, [.ref ap])), (ap, .inl (cJ, 64, .inr (.inl fs))), (s0, .inr (3, [.ref tq_o, .ref rq_o, .ref uq_o])), (tq_o, .inr (4, [.ref ca_o, .long osm, .int (oI olo)])), (ca_o, .inl (cJ, 64, .inr (.inl oc))), (rq_o, .inr (5, [.ref rb_o])), (rb_o, .inr (0, [.ref rd_o])), (rd_o, .inl (cJ, 128, .inr (.inl ot))), (uq_o, .inr (1, [.ref bm_o, .ref bs_o])), (bm_o, .inr (0, [.ref am_o])), (am_o, .inl (cJ, 64, .inr (.inl om))), (bs_o, .inr (0, [.ref ap_o])), (ap_o, .inl (cJ, 64, .inr (.inl os)))])) (va_Qi (fun (r : Int32) (u : Unit) => r = nI 2) (fun (u : Unit) (t : State) => va_P (dC, dI) vwCl [(q, .inr (6, [.ref s0, .ref s1, .ref s2])), (s2, .inr (3, [.ref tq, .ref rq, .ref uq])), (tq, .inr (4, [.ref ca, .long sm, .int (oI lo)])), (ca, .inl (cJ, 64, .inr (.inl fc))), (rq, .inr (5, [.ref rb])), (rb, .inr (0, [.ref rd])), (rd, .inl (cJ, 128, .inr (.inl ft))), (uq, .inr (1, [.ref bm, .ref bs])), (bm, .inr (0, [.ref am])), (am, .inl (cJ, 64, .inr (.inl fm))), (bs, .inr (0, [.ref ap])), (ap, .inl (cJ, 64, .inr (.inl fs))), (s0, .inr (3, [.ref tq_o, .ref rq_o, .ref uq_o])), (tq_o, .inr (4, [.ref ca_o, .long osm, .int (oI olo)])), (ca_o, .inl (cJ, 64, .inr (.inl oc))), (rq_o, .inr (5, [.ref rb_o])), (rb_o, .inr (0, [.ref rd_o])), (rd_o, .inl (cJ, 128, .inr (.inl ot))), (uq_o, .inr (1, [.ref bm_o, .ref bs_o])), (bm_o, .inr (0, [.ref am_o])), (am_o, .inl (cJ, 64, .inr (.inl om))), (bs_o, .inr (0, [.ref ap_o])), (ap_o, .inl (cJ, 64, .inr (.inl os)))] t.heap ∧ va_K (dC, dI) vwCl [(cJ, .long)] t ∧ va_D (va_A [(q, .inr (6, [.ref s0, .ref s1, .ref s2])), (s2, .inr (3, [.ref tq, .ref rq, .ref uq])), (tq, .inr (4, [.ref ca, .long sm, .int (oI lo)])), (ca, .inl (cJ, 64, .inr (.inl fc))), (rq, .inr (5, [.ref rb])), (rb, .inr (0, [.ref rd])), (rd, .inl (cJ, 128, .inr (.inl ft))), (uq, .inr (1, [.ref bm, .ref bs])), (bm, .inr (0, [.ref am])), (am, .inl (cJ, 64, .inr (.inl fm))), (bs, .inr (0, [.ref ap])), (ap, .inl (cJ, 64, .inr (.inl fs))), (s0, .inr (3, [.ref tq_o, .ref rq_o, .ref uq_o])), (tq_o, .inr (4, [.ref ca_o, .long osm, .int (oI olo)])), (ca_o, .inl (cJ, 64, .inr (.inl oc))), (rq_o, .inr (5, [.ref rb_o])), (rb_o, .inr (0, [.ref rd_o])), (rd_o, .inl (cJ, 128, .inr (.inl ot))), (uq_o, .inr (1, [.ref bm_o, .ref bs_o])), (bm_o, .inr (0, [.ref am_o])), (am_o, .inl (cJ, 64, .inr (.inl om))), (bs_o, .inr (0, [.ref ap_o])), (ap_o, .inl (cJ, 64, .inr (.inl os)))] sz) [(q, .inr (6, [.ref s0, .ref s1, .ref s2])), (s2, .inr (3, [.ref tq, .ref rq, .ref uq])), (tq, .inr (4, [.ref ca, .long sm, .int (oI lo)])), (ca, .inl (cJ, 64, .inr (.inl fc))), (rq, .inr (5, [.ref rb])), (rb, .inr (0, [.ref rd])), (rd, .inl (cJ, 128, .inr (.inl ft))), (uq, .inr (1, [.ref bm, .ref bs])), (bm, .inr (0, [.ref am])), (am, .inl (cJ, 64, .inr (.inl fm))), (bs, .inr (0, [.ref ap])), (ap, .inl (cJ, 64, .inr (.inl fs))), (s0, .inr (3, [.ref tq_o, .ref rq_o, .ref uq_o])), (tq_o, .inr (4, [.ref ca_o, .long osm, .int (oI olo)])), (ca_o, .inl (cJ, 64, .inr (.inl oc))), (rq_o, .inr (5, [.ref rb_o])), (rb_o, .inr (0, [.ref rd_o])), (rd_o, .inl (cJ, 128, .inr (.inl ot))), (uq_o, .inr (1, [.ref bm_o, .ref bs_o])), (bm_o, .inr (0, [.ref am_o])), (am_o, .inl (cJ, 64, .inr (.inl om))), (bs_o, .inr (0, [.ref ap_o])), (ap_o, .inl (cJ, 64, .inr (.inl os)))]) (va_A [(q, .inr (6, [.ref s0, .ref s1, .ref s2])), (s2, .inr (3, [.ref tq, .ref rq, .ref uq])), (tq, .inr (4, [.ref ca, .long sm, .int (oI lo)])), (ca, .inl (cJ, 64, .inr (.inl fc))), (rq, .inr (5, [.ref rb])), (rb, .inr (0, [.ref rd])), (rd, .inl (cJ, 128, .inr (.inl ft))), (uq, .inr (1, [.ref bm, .ref bs])), (bm, .inr (0, [.ref am])), (am, .inl (cJ, 64, .inr (.inl fm))), (bs, .inr (0, [.ref ap])), (ap, .inl (cJ, 64, .inr (.inl fs))), (s0, .inr (3, [.ref tq_o, .ref rq_o, .ref uq_o])), (tq_o, .inr (4, [.ref ca_o, .long osm, .int (oI olo)])), (ca_o, .inl (cJ, 64, .inr (.inl oc))), (rq_o, .inr (5, [.ref rb_o])), (rb_o, .inr (0, [.ref rd_o])), (rd_o, .inl (cJ, 128, .inr (.inl ot))), (uq_o, .inr (1, [.ref bm_o, .ref bs_o])), (bm_o, .inr (0, [.ref am_o])), (am_o, .inl (cJ, 64, .inr (.inl om))), (bs_o, .inr (0, [.ref ap_o])), (ap_o, .inl (cJ, 64, .inr (.inl os)))] sz)) 1 6 (va_A [(q, .inr (6, [.ref s0, .ref s1, .ref s2])), (s2, .inr (3, [.ref tq, .ref rq, .ref uq])), (tq, .inr (4, [.ref ca, .long sm, .int (oI lo)])), (ca, .inl (cJ, 64, .inr (.inl fc))), (rq, .inr (5, [.ref rb])), (rb, .inr (0, [.ref rd])), (rd, .inl (cJ, 128, .inr (.inl ft))), (uq, .inr (1, [.ref bm, .ref bs])), (bm, .inr (0, [.ref am])), (am, .inl (cJ, 64, .inr (.inl fm))), (bs, .inr (0, [.ref ap])), (ap, .inl (cJ, 64, .inr (.inl fs))), (s0, .inr (3, [.ref tq_o, .ref rq_o, .ref uq_o])), (tq_o, .inr (4, [.ref ca_o, .long osm, .int (oI olo)])), (ca_o, .inl (cJ, 64, .inr (.inl oc))), (rq_o, .inr (5, [.ref rb_o])), (rb_o, .inr (0, [.ref rd_o])), (rd_o, .inl (cJ, 128, .inr (.inl ot))), (uq_o, .inr (1, [.ref bm_o, .ref bs_o])), (bm_o, .inr (0, [.ref am_o])), (am_o, .inl (cJ, 64, .inr (.inl om))), (bs_o, .inr (0, [.ref ap_o])), (ap_o, .inl (cJ, 64, .inr (.inl os)))] sz) := by
  refine va_MetW (cc := cL_insertAll) (maxL := 5) (ret := (some .int)) (hh := [(0, 10, 13, 13), (0, 10, 17, 25)]) (by decide) rfl ?_
  intro p e s m args below meth c s₁ B hml hv
  obtain ⟨rfl, nw0, hT, hNc0, hsz, hP, hK, hD0⟩ := hv
  have hx := B.exec
  have hb := B.bytes
  have hr := B.returns
  have hts := atoms_spec (ws := wsL_insertAll) B.pre
  have hown : s.vm.findClass RL = some m.cls := findClass_of_methodNamed B.named
  have hlocks := B.notSynchronized
  have htab : c.exceptionTable.toList = tableOf [(0, 10, 13, 13), (0, 10, 17, 25)] := vx_table (x := yL_insertAll) B (hts _ List.mem_cons_self)
  subst hsz
  have hD := hD0.self (sz := s.heap.size)
  generalize hAe : va_A [(q, .inr (6, [.ref s0, .ref s1, .ref s2])), (s2, .inr (3, [.ref tq, .ref rq, .ref uq])), (tq, .inr (4, [.ref ca, .long sm, .int (oI lo)])), (ca, .inl (cJ, 64, .inr (.inl fc))), (rq, .inr (5, [.ref rb])), (rb, .inr (0, [.ref rd])), (rd, .inl (cJ, 128, .inr (.inl ft))), (uq, .inr (1, [.ref bm, .ref bs])), (bm, .inr (0, [.ref am])), (am, .inl (cJ, 64, .inr (.inl fm))), (bs, .inr (0, [.ref ap])), (ap, .inl (cJ, 64, .inr (.inl fs))), (s0, .inr (3, [.ref tq_o, .ref rq_o, .ref uq_o])), (tq_o, .inr (4, [.ref ca_o, .long osm, .int (oI olo)])), (ca_o, .inl (cJ, 64, .inr (.inl oc))), (rq_o, .inr (5, [.ref rb_o])), (rb_o, .inr (0, [.ref rd_o])), (rd_o, .inl (cJ, 128, .inr (.inl ot))), (uq_o, .inr (1, [.ref bm_o, .ref bs_o])), (bm_o, .inr (0, [.ref am_o])), (am_o, .inl (cJ, 64, .inr (.inl om))), (bs_o, .inr (0, [.ref ap_o])), (ap_o, .inl (cJ, 64, .inr (.inl os)))] s.heap.size = A at hD ⊢
  have hA : ∀ q : Nat, s.heap.size ≤ q → A q := fun q h => by rw [← hAe]; exact Or.inr h
  have hS : va_S A s.heap s.heap [] := va_S.rf
  have hP : va_P (dC, dI) vwCl [(q, .inr (6, [.ref s0, .ref s1, .ref s2])), (s2, .inr (3, [.ref tq, .ref rq, .ref uq])), (tq, .inr (4, [.ref ca, .long sm, .int (oI lo)])), (ca, .inl (cJ, 64, .inr (.inl fc))), (rq, .inr (5, [.ref rb])), (rb, .inr (0, [.ref rd])), (rd, .inl (cJ, 128, .inr (.inl ft))), (uq, .inr (1, [.ref bm, .ref bs])), (bm, .inr (0, [.ref am])), (am, .inl (cJ, 64, .inr (.inl fm))), (bs, .inr (0, [.ref ap])), (ap, .inl (cJ, 64, .inr (.inl fs))), (s0, .inr (3, [.ref tq_o, .ref rq_o, .ref uq_o])), (tq_o, .inr (4, [.ref ca_o, .long osm, .int (oI olo)])), (ca_o, .inl (cJ, 64, .inr (.inl oc))), (rq_o, .inr (5, [.ref rb_o])), (rb_o, .inr (0, [.ref rd_o])), (rd_o, .inl (cJ, 128, .inr (.inl ot))), (uq_o, .inr (1, [.ref bm_o, .ref bs_o])), (bm_o, .inr (0, [.ref am_o])), (am_o, .inl (cJ, 64, .inr (.inl om))), (bs_o, .inr (0, [.ref ap_o])), (ap_o, .inl (cJ, 64, .inr (.inl os)))] s.heap := hP
  have hl := lv_entry ([.ref q, .int (nI 2), .int (nI 0), .ref oq]) (n := 5) (Nat.le_of_ble_eq_true rfl)
  rw [lg_entry_eq]
  generalize (lg_sl ([.ref q, .int (nI 2), .int (nI 0), .ref oq]) ++ List.replicate (5 - (lg_sl ([.ref q, .int (nI 2), .int (nI 0), .ref oq])).length) Slot.unset).toArray = ls at hl ⊢
  have hl : lv_has ls 5 [(0, .ref q), (1, .int (nI 2)), (2, .int (nI 0)), (3, .ref oq)] := hl
  refine lv_aload_n hx hb dL_insertAll_0 rfl (lv_at hl 3 rfl) ?_
  refine lv_iconst (v := nI 0) hx hb dL_insertAll_1 (by decide +kernel) ?_
  refine lv_aload_n hx hb dL_insertAll_2 rfl (lv_at hl 0 rfl) ?_
  refine lv_iload_n hx hb dL_insertAll_3 rfl (lv_at hl 1 rfl) ?_
  refine lv_iload_n hx hb dL_insertAll_4 rfl (lv_at hl 2 rfl) ?_
  have hPc := hP.sub (ws' := [(q, .inr (6, [.ref s0, .ref s1, .ref s2])), (s2, .inr (3, [.ref tq, .ref rq, .ref uq])), (tq, .inr (4, [.ref ca, .long sm, .int (oI lo)])), (ca, .inl (cJ, 64, .inr (.inl fc))), (rq, .inr (5, [.ref rb])), (rb, .inr (0, [.ref rd])), (rd, .inl (cJ, 128, .inr (.inl ft))), (uq, .inr (1, [.ref bm, .ref bs])), (bm, .inr (0, [.ref am])), (am, .inl (cJ, 64, .inr (.inl fm))), (bs, .inr (0, [.ref ap])), (ap, .inl (cJ, 64, .inr (.inl fs))), (s0, .inr (3, [.ref tq_o, .ref rq_o, .ref uq_o])), (tq_o, .inr (4, [.ref ca_o, .long osm, .int (oI olo)])), (ca_o, .inl (cJ, 64, .inr (.inl oc))), (rq_o, .inr (5, [.ref rb_o])), (rb_o, .inr (0, [.ref rd_o])), (rd_o, .inl (cJ, 128, .inr (.inl ot))), (uq_o, .inr (1, [.ref bm_o, .ref bs_o])), (bm_o, .inr (0, [.ref am_o])), (am_o, .inl (cJ, 64, .inr (.inl om))), (bs_o, .inr (0, [.ref ap_o])), (ap_o, .inl (cJ, 64, .inr (.inl os)))]) [0, 1, 2, 3, 4, 5, 6, 7, 8, 9, 10, 11, 12, 13, 14, 15, 16, 17, 18, 19, 20, 21, 22] rfl
  have hKc := hK.sub (tys' := [(cJ, .long)]) [0] rfl
  have hDc := hD.sub (ws' := [(q, .inr (6, [.ref s0, .ref s1, .ref s2])), (s2, .inr (3, [.ref tq, .ref rq, .ref uq])), (tq, .inr (4, [.ref ca, .long sm, .int (oI lo)])), (ca, .inl (cJ, 64, .inr (.inl fc))), (rq, .inr (5, [.ref rb])), (rb, .inr (0, [.ref rd])), (rd, .inl (cJ, 128, .inr (.inl ft))), (uq, .inr (1, [.ref bm, .ref bs])), (bm, .inr (0, [.ref am])), (am, .inl (cJ, 64, .inr (.inl fm))), (bs, .inr (0, [.ref ap])), (ap, .inl (cJ, 64, .inr (.inl fs))), (s0, .inr (3, [.ref tq_o, .ref rq_o, .ref uq_o])), (tq_o, .inr (4, [.ref ca_o, .long osm, .int (oI olo)])), (ca_o, .inl (cJ, 64, .inr (.inl oc))), (rq_o, .inr (5, [.ref rb_o])), (rb_o, .inr (0, [.ref rd_o])), (rd_o, .inl (cJ, 128, .inr (.inl ot))), (uq_o, .inr (1, [.ref bm_o, .ref bs_o])), (bm_o, .inr (0, [.ref am_o])), (am_o, .inl (cJ, 64, .inr (.inl om))), (bs_o, .inr (0, [.ref ap_o])), (ap_o, .inl (cJ, 64, .inr (.inl os)))]) [0, 1, 2, 3, 4, 5, 6, 7, 8, 9, 10, 11, 12, 13, 14, 15, 16, 17, 18, 19, 20, 21, 22] (by decide) rfl
  refine vx_callv (vx_runV (As := [.int (nI 2), .int (nI 0)]) (rest := [.int (nI 0), .ref oq]) ⟨hx, hb, hml, hown, hts⟩ (x_X7_insertAll_e20 l hls dC dI q s0 s1 s2 tq ca rq rb rd uq bm am bs ap cJ fm fs ft fc sm lo tq_o ca_o rq_o rb_o rd_o uq_o bm_o am_o bs_o ap_o om os ot oc osm olo sa s.heap.size (by first | assumption | omega) (by first | assumption | omega)) (cwV 2 hts gL_insertAll_X7_insertAll rfl rfl rfl (by decide +kernel) ⟨Nat.le_of_ble_eq_true rfl, Nat.le_of_ble_eq_true rfl⟩) ⟨fun a U g mk q => by obtain ⟨q0, nq0, q1, qT, qP, qK, qD⟩ := q; exact ⟨q0, va_Nw.same rfl (U := U.calling g mk a) rfl nq0, q1, TW.same (u := U) (U := U.calling g mk a) rfl qT, qP, va_K.moved (u := U) (U := U.calling g mk a) (Vm.Alike.refl U.vm) qK, qD⟩, va_recv hKc hPc (ci := 6) (q0 := 0) rfl rfl, fun U hU hW => ⟨rfl, va_Nw.warmF hW nw0, by rw [hU], by rw [hU]; exact TW.warm hW hT, by rw [hU]; exact hPc, va_K.moved hW.alike hKc, hDc.weaken (fun _ _ _ _ => trivial)⟩⟩ rfl rfl hl.1 rfl (lv_room (Nat.le_of_ble_eq_true rfl)) dL_insertAll_5 ⟨Nat.le_of_ble_eq_true rfl, Nat.le_of_ble_eq_true rfl⟩) hS (fun q h9 h8 => absurd h8 (Nat.not_le_of_lt h9)) (fun q h8 => hA q (Nat.le_trans hS.1 h8)) (fun q h9 h8 => absurd h8 (Nat.not_le_of_lt h9)) (fun E9 ce9 q9 u9 t9 H locs ht9 hvm9 hu9 hE9 hz9 hk9 hS hce9 hcv9 hcl9 => ?_) (fun u9 t9 H9 l9 ht9 hvm9 hu9 hB9 hz9 hk9 hS9 => hu9.elim)
  subst hE9
  have hP := hP.kept (H1 := H) (fun k q hk => hk9 _ (vx_lt hP hk) (Nat.not_le_of_lt (vx_lt hP hk)))
  refine vx_catch (name := "java/lang/IllegalStateException") hown [⟨0, 10, 13, 13⟩] ⟨0, 10, 17, 25⟩ [] (htab.trans rfl) (fun z hz => by rcases List.mem_cons.mp hz with rfl | hz; exact Or.inr ⟨by decide, "java/lang/IndexOutOfBoundsException", hts (.classLink RL 13 "java/lang/IndexOutOfBoundsException") (by decide +kernel), hNc0⟩; exact nomatch hz) rfl (by decide) (hts (.classLink RL 25 "java/lang/IllegalStateException") (by decide +kernel)) (va_Nw.use rfl hT.2.2.2.2.2.2) hce9 hcv9 hcl9 ?_
  refine W.cs (cells' := 1) (slots' := 6) rfl rfl ?_
  refine lv_astore (lv' := [(4, .ref q9), (0, .ref q), (1, .int (nI 2)), (2, .int (nI 0)), (3, .ref oq)]) hx hb dL_insertAll_17 hl (by decide) rfl (fun ls hl => ?_)
  refine lv_iconst (v := nI 2) hx hb dL_insertAll_19 (by decide +kernel) ?_
  have hP9 := hP.sub (ws' := [(q, .inr (6, [.ref s0, .ref s1, .ref s2])), (s2, .inr (3, [.ref tq, .ref rq, .ref uq])), (tq, .inr (4, [.ref ca, .long sm, .int (oI lo)])), (ca, .inl (cJ, 64, .inr (.inl fc))), (rq, .inr (5, [.ref rb])), (rb, .inr (0, [.ref rd])), (rd, .inl (cJ, 128, .inr (.inl ft))), (uq, .inr (1, [.ref bm, .ref bs])), (bm, .inr (0, [.ref am])), (am, .inl (cJ, 64, .inr (.inl fm))), (bs, .inr (0, [.ref ap])), (ap, .inl (cJ, 64, .inr (.inl fs))), (s0, .inr (3, [.ref tq_o, .ref rq_o, .ref uq_o])), (tq_o, .inr (4, [.ref ca_o, .long osm, .int (oI olo)])), (ca_o, .inl (cJ, 64, .inr (.inl oc))), (rq_o, .inr (5, [.ref rb_o])), (rb_o, .inr (0, [.ref rd_o])), (rd_o, .inl (cJ, 128, .inr (.inl ot))), (uq_o, .inr (1, [.ref bm_o, .ref bs_o])), (bm_o, .inr (0, [.ref am_o])), (am_o, .inl (cJ, 64, .inr (.inl om))), (bs_o, .inr (0, [.ref ap_o])), (ap_o, .inl (cJ, 64, .inr (.inl os)))]) [0, 1, 2, 3, 4, 5, 6, 7, 8, 9, 10, 11, 12, 13, 14, 15, 16, 17, 18, 19, 20, 21, 22] rfl
  have hD9 := hD.sub (ws' := [(q, .inr (6, [.ref s0, .ref s1, .ref s2])), (s2, .inr (3, [.ref tq, .ref rq, .ref uq])), (tq, .inr (4, [.ref ca, .long sm, .int (oI lo)])), (ca, .inl (cJ, 64, .inr (.inl fc))), (rq, .inr (5, [.ref rb])), (rb, .inr (0, [.ref rd])), (rd, .inl (cJ, 128, .inr (.inl ft))), (uq, .inr (1, [.ref bm, .ref bs])), (bm, .inr (0, [.ref am])), (am, .inl (cJ, 64, .inr (.inl fm))), (bs, .inr (0, [.ref ap])), (ap, .inl (cJ, 64, .inr (.inl fs))), (s0, .inr (3, [.ref tq_o, .ref rq_o, .ref uq_o])), (tq_o, .inr (4, [.ref ca_o, .long osm, .int (oI olo)])), (ca_o, .inl (cJ, 64, .inr (.inl oc))), (rq_o, .inr (5, [.ref rb_o])), (rb_o, .inr (0, [.ref rd_o])), (rd_o, .inl (cJ, 128, .inr (.inl ot))), (uq_o, .inr (1, [.ref bm_o, .ref bs_o])), (bm_o, .inr (0, [.ref am_o])), (am_o, .inl (cJ, 64, .inr (.inl om))), (bs_o, .inr (0, [.ref ap_o])), (ap_o, .inl (cJ, 64, .inr (.inl os)))]) [0, 1, 2, 3, 4, 5, 6, 7, 8, 9, 10, 11, 12, 13, 14, 15, 16, 17, 18, 19, 20, 21, 22] (by decide) rfl
  have hK9 := hK.sub (tys' := [(cJ, .long)]) [0] rfl
  exact W.iret (v := nI 2) hx hb hr (fun t9 ht hW => ⟨⟨nI 2, (), rfl, rfl, by rw [ht]; exact hP9, va_K.moved hW.alike hK9, hD9⟩, hS.F ht⟩) hS.2.2 dL_insertAll_20
set_option maxHeartbeats 4000000 in
set_option maxRecDepth 100000 in
/-- law: insertAll, insertAll_e21 -/
theorem c_L_insertAll_e21 (l : Launch) (hls : l.stackTraces = false) (dC : Nat → ClassId) (dI : Nat → Nat → Nat) (q : Nat) (s0 : Nat) (s1 : Nat) (s2 : Nat) (tq : Nat) (ca : Nat) (rq : Nat) (rb : Nat) (rd : Nat) (uq : Nat) (bm : Nat) (am : Nat) (bs : Nat) (ap : Nat) (cJ : ClassId) (fm : Nat → Int64) (fs : Nat → Int64) (ft : Nat → Int64) (fc : Nat → Int64) (sm : Int64) (lo : Option Nat) (tq_o : Nat) (ca_o : Nat) (rq_o : Nat) (rb_o : Nat) (rd_o : Nat) (uq_o : Nat) (bm_o : Nat) (am_o : Nat) (bs_o : Nat) (ap_o : Nat) (om : Nat → Int64) (os : Nat → Int64) (ot : Nat → Int64) (oc : Nat → Int64) (osm : Int64) (olo : Option Nat) (oq : Nat) (sa : Nat) (sz : Nat) (hN : NI fm fs ft fc sm lo) (hn30 : 30 < fb_ct (bo om) 4096) : Met l yL_insertAll wsL_insertAll ({ frames := 7, cells := 1, slots := 6, locals := 109 }) (va_Pc [.ref q, .int (nI 2), .int (nI 1), .ref oq] (fun U => va_Nw (.fieldLinkNest RX7 38 "SmallNumberSets$NumberSet" "buckets" "LSmallNumberSets$Buckets;" "SmallNumberSets") U ∧ TW "java/lang/IllegalStateException" 50 "the other set has too many members" sa (fun q => sz ≤ q) U U.heap ∧ va_Nc "java/lang/IllegalStateException" "java/lang/IndexOutOfBoundsException" U ∧ U.heap.size = sz ∧ va_P (dC, dI) vwCl [(q, .inr (6, [.ref s0, .ref s1, .ref s2])), (s2, .inr (3, [.ref tq, .ref rq, .ref uq])), (tq, .inr (4, [.ref ca, .long sm, .int (oI lo)])), (ca, .inl (cJ, 64, .inr (.inl fc))), (rq, .inr (5, [.ref rb])), (rb, .inr (0, [.ref rd])), (rd, .inl (cJ, 128, .inr (.inl ft))), (uq, .inr (1, [.ref bm, .ref bs])), (bm, .inr (0, [.ref am])), (am, .inl (cJ, 64, .inr (.inl fm))), (bs, .inr (0, [.ref ap])), (ap, .inl (cJ, 64, .inr (.inl fs))), (s1, .inr (3, [.ref tq_o, .ref rq_o, .ref uq_o])), (tq_o, .inr (4, [.ref ca_o, .long osm, .int (oI olo)])), (ca_o, .inl (cJ, 64, .inr (.inl oc))), (rq_o, .inr (5, [.ref rb_o])), (rb_o, .inr (0, [.ref rd_o])), (rd_o, .inl (cJ, 128, .inr (.inl ot))), (uq_o, .inr (1, [.ref bm_o, .ref bs_o])), (bm_o, .inr (0, [.ref am_o])), (am_o, .inl (cJ, 64, .inr (.inl om))), (bs_o, .inr (0, [.ref ap_o])), (ap_o, .inl (cJ, 64, .inr (.inl os)))] U.heap ∧ va_K (dC, dI) vwCl [(cJ, .long)] U ∧ va_D (fun _ => True) [(q, .inr (6, [.ref s0, .ref s1, .ref s2])), (s2, .inr (3, [.ref tq, .ref rq, .ref uq])), (tq, .inr (4, [.ref ca, .long sm, .int (oI lo)])), (ca, .inl (cJ, 64, .inr (.inl fc))), (rq, .inr (5, [.ref rb])), (rb, .inr (0, [.ref rd])), (rd, .inl (cJ, 128, .inr (.inl ft))), (uq, .inr (1, [.ref bm, .ref bs])), (bm, .inr (0, [.ref am])), (am, .inl (cJ, 64, .inr (.inl fm))), (bs, .inr (0, [.ref ap])), (ap, .inl (cJ, 64, .inr (.inl fs))), (s1, .inr (3, [.ref tq_o, .ref rq_o, .ref uq_o])), (tq_o, .inr (4, [.ref ca_o, .long osm, .int (oI olo)])), (ca_o, .inl (cJ, 64, .inr (.inl oc))), (rq_o, .inr (5, [.ref rb_o])), (rb_o, .inr (0, [.ref rd_o])), (rd_o, .inl (cJ, 128, .inr (.inl ot))), (uq_o, .inr (1, [.ref bm_o, .ref bs_o])), (bm_o, .inr (0, [.ref am_o])), (am_o, .inl (cJ, 64, .inr (.inl om))), (bs_o, .inr (0, [.ref ap_o])), (ap_o, .inl (cJ, 64, .inr (.inl os)))])) (va_Qi (fun (r : Int32) (u : Unit) => r = nI 2) (fun (u : Unit) (t : State) => va_P (dC, dI) vwCl [(q, .inr (6, [.ref s0, .ref s1, .ref s2])), (s2, .inr (3, [.ref tq, .ref rq, .ref uq])), (tq, .inr (4, [.ref ca, .long sm, .int (oI lo)])), (ca, .inl (cJ, 64, .inr (.inl fc))), (rq, .inr (5, [.ref rb])), (rb, .inr (0, [.ref rd])), (rd, .inl (cJ, 128, .inr (.inl ft))), (uq, .inr (1, [.ref bm, .ref bs])), (bm, .inr (0, [.ref am])), (am, .inl (cJ, 64, .inr (.inl fm))), (bs, .inr (0, [.ref ap])), (ap, .inl (cJ, 64, .inr (.inl fs))), (s1, .inr (3, [.ref tq_o, .ref rq_o, .ref uq_o])), (tq_o, .inr (4, [.ref ca_o, .long osm, .int (oI olo)])), (ca_o, .inl (cJ, 64, .inr (.inl oc))), (rq_o, .inr (5, [.ref rb_o])), (rb_o, .inr (0, [.ref rd_o])), (rd_o, .inl (cJ, 128, .inr (.inl ot))), (uq_o, .inr (1, [.ref bm_o, .ref bs_o])), (bm_o, .inr (0, [.ref am_o])), (am_o, .inl (cJ, 64, .inr (.inl om))), (bs_o, .inr (0, [.ref ap_o])), (ap_o, .inl (cJ, 64, .inr (.inl os)))] t.heap ∧ va_K (dC, dI) vwCl [(cJ, .long)] t ∧ va_D (va_A [(q, .inr (6, [.ref s0, .ref s1, .ref s2])), (s2, .inr (3, [.ref tq, .ref rq, .ref uq])), (tq, .inr (4, [.ref ca, .long sm, .int (oI lo)])), (ca, .inl (cJ, 64, .inr (.inl fc))), (rq, .inr (5, [.ref rb])), (rb, .inr (0, [.ref rd])), (rd, .inl (cJ, 128, .inr (.inl ft))), (uq, .inr (1, [.ref bm, .ref bs])), (bm, .inr (0, [.ref am])), (am, .inl (cJ, 64, .inr (.inl fm))), (bs, .inr (0, [.ref ap])), (ap, .inl (cJ, 64, .inr (.inl fs))), (s1, .inr (3, [.ref tq_o, .ref rq_o, .ref uq_o])), (tq_o, .inr (4, [.ref ca_o, .long osm, .int (oI olo)])), (ca_o, .inl (cJ, 64, .inr (.inl oc))), (rq_o, .inr (5, [.ref rb_o])), (rb_o, .inr (0, [.ref rd_o])), (rd_o, .inl (cJ, 128, .inr (.inl ot))), (uq_o, .inr (1, [.ref bm_o, .ref bs_o])), (bm_o, .inr (0, [.ref am_o])), (am_o, .inl (cJ, 64, .inr (.inl om))), (bs_o, .inr (0, [.ref ap_o])), (ap_o, .inl (cJ, 64, .inr (.inl os)))] sz) [(q, .inr (6, [.ref s0, .ref s1, .ref s2])), (s2, .inr (3, [.ref tq, .ref rq, .ref uq])), (tq, .inr (4, [.ref ca, .long sm, .int (oI lo)])), (ca, .inl (cJ, 64, .inr (.inl fc))), (rq, .inr (5, [.ref rb])), (rb, .inr (0, [.ref rd])), (rd, .inl (cJ, 128, .inr (.inl ft))), (uq, .inr (1, [.ref bm, .ref bs])), (bm, .inr (0, [.ref am])), (am, .inl (cJ, 64, .inr (.inl fm))), (bs, .inr (0, [.ref ap])), (ap, .inl (cJ, 64, .inr (.inl fs))), (s1, .inr (3, [.ref tq_o, .ref rq_o, .ref uq_o])), (tq_o, .inr (4, [.ref ca_o, .long osm, .int (oI olo)])), (ca_o, .inl (cJ, 64, .inr (.inl oc))), (rq_o, .inr (5, [.ref rb_o])), (rb_o, .inr (0, [.ref rd_o])), (rd_o, .inl (cJ, 128, .inr (.inl ot))), (uq_o, .inr (1, [.ref bm_o, .ref bs_o])), (bm_o, .inr (0, [.ref am_o])), (am_o, .inl (cJ, 64, .inr (.inl om))), (bs_o, .inr (0, [.ref ap_o])), (ap_o, .inl (cJ, 64, .inr (.inl os)))]) (va_A [(q, .inr (6, [.ref s0, .ref s1, .ref s2])), (s2, .inr (3, [.ref tq, .ref rq, .ref uq])), (tq, .inr (4, [.ref ca, .long sm, .int (oI lo)])), (ca, .inl (cJ, 64, .inr (.inl fc))), (rq, .inr (5, [.ref rb])), (rb, .inr (0, [.ref rd])), (rd, .inl (cJ, 128, .inr (.inl ft))), (uq, .inr (1, [.ref bm, .ref bs])), (bm, .inr (0, [.ref am])), (am, .inl (cJ, 64, .inr (.inl fm))), (bs, .inr (0, [.ref ap])), (ap, .inl (cJ, 64, .inr (.inl fs))), (s1, .inr (3, [.ref tq_o, .ref rq_o, .ref uq_o])), (tq_o, .inr (4, [.ref ca_o, .long osm, .int (oI olo)])), (ca_o, .inl (cJ, 64, .inr (.inl oc))), (rq_o, .inr (5, [.ref rb_o])), (rb_o, .inr (0, [.ref rd_o])), (rd_o, .inl (cJ, 128, .inr (.inl ot))), (uq_o, .inr (1, [.ref bm_o, .ref bs_o])), (bm_o, .inr (0, [.ref am_o])), (am_o, .inl (cJ, 64, .inr (.inl om))), (bs_o, .inr (0, [.ref ap_o])), (ap_o, .inl (cJ, 64, .inr (.inl os)))] sz)) 1 6 (va_A [(q, .inr (6, [.ref s0, .ref s1, .ref s2])), (s2, .inr (3, [.ref tq, .ref rq, .ref uq])), (tq, .inr (4, [.ref ca, .long sm, .int (oI lo)])), (ca, .inl (cJ, 64, .inr (.inl fc))), (rq, .inr (5, [.ref rb])), (rb, .inr (0, [.ref rd])), (rd, .inl (cJ, 128, .inr (.inl ft))), (uq, .inr (1, [.ref bm, .ref bs])), (bm, .inr (0, [.ref am])), (am, .inl (cJ, 64, .inr (.inl fm))), (bs, .inr (0, [.ref ap])), (ap, .inl (cJ, 64, .inr (.inl fs))), (s1, .inr (3, [.ref tq_o, .ref rq_o, .ref uq_o])), (tq_o, .inr (4, [.ref ca_o, .long osm, .int (oI olo)])), (ca_o, .inl (cJ, 64, .inr (.inl oc))), (rq_o, .inr (5, [.ref rb_o])), (rb_o, .inr (0, [.ref rd_o])), (rd_o, .inl (cJ, 128, .inr (.inl ot))), (uq_o, .inr (1, [.ref bm_o, .ref bs_o])), (bm_o, .inr (0, [.ref am_o])), (am_o, .inl (cJ, 64, .inr (.inl om))), (bs_o, .inr (0, [.ref ap_o])), (ap_o, .inl (cJ, 64, .inr (.inl os)))] sz) := by
  refine va_MetW (cc := cL_insertAll) (maxL := 5) (ret := (some .int)) (hh := [(0, 10, 13, 13), (0, 10, 17, 25)]) (by decide) rfl ?_
  intro p e s m args below meth c s₁ B hml hv
  obtain ⟨rfl, nw0, hT, hNc0, hsz, hP, hK, hD0⟩ := hv
  have hx := B.exec
  have hb := B.bytes
  have hr := B.returns
  have hts := atoms_spec (ws := wsL_insertAll) B.pre
  have hown : s.vm.findClass RL = some m.cls := findClass_of_methodNamed B.named
  have hlocks := B.notSynchronized
  have htab : c.exceptionTable.toList = tableOf [(0, 10, 13, 13), (0, 10, 17, 25)] := vx_table (x := yL_insertAll) B (hts _ List.mem_cons_self)
  subst hsz
  have hD := hD0.self (sz := s.heap.size)
  generalize hAe : va_A [(q, .inr (6, [.ref s0, .ref s1, .ref s2])), (s2, .inr (3, [.ref tq, .ref rq, .ref uq])), (tq, .inr (4, [.ref ca, .long sm, .int (oI lo)])), (ca, .inl (cJ, 64, .inr (.inl fc))), (rq, .inr (5, [.ref rb])), (rb, .inr (0, [.ref rd])), (rd, .inl (cJ, 128, .inr (.inl ft))), (uq, .inr (1, [.ref bm, .ref bs])), (bm, .inr (0, [.ref am])), (am, .inl (cJ, 64, .inr (.inl fm))), (bs, .inr (0, [.ref ap])), (ap, .inl (cJ, 64, .inr (.inl fs))), (s1, .inr (3, [.ref tq_o, .ref rq_o, .ref uq_o])), (tq_o, .inr (4, [.ref ca_o, .long osm, .int (oI olo)])), (ca_o, .inl (cJ, 64, .inr (.inl oc))), (rq_o, .inr (5, [.ref rb_o])), (rb_o, .inr (0, [.ref rd_o])), (rd_o, .inl (cJ, 128, .inr (.inl ot))), (uq_o, .inr (1, [.ref bm_o, .ref bs_o])), (bm_o, .inr (0, [.ref am_o])), (am_o, .inl (cJ, 64, .inr (.inl om))), (bs_o, .inr (0, [.ref ap_o])), (ap_o, .inl (cJ, 64, .inr (.inl os)))] s.heap.size = A at hD ⊢
  have hA : ∀ q : Nat, s.heap.size ≤ q → A q := fun q h => by rw [← hAe]; exact Or.inr h
  have hS : va_S A s.heap s.heap [] := va_S.rf
  have hP : va_P (dC, dI) vwCl [(q, .inr (6, [.ref s0, .ref s1, .ref s2])), (s2, .inr (3, [.ref tq, .ref rq, .ref uq])), (tq, .inr (4, [.ref ca, .long sm, .int (oI lo)])), (ca, .inl (cJ, 64, .inr (.inl fc))), (rq, .inr (5, [.ref rb])), (rb, .inr (0, [.ref rd])), (rd, .inl (cJ, 128, .inr (.inl ft))), (uq, .inr (1, [.ref bm, .ref bs])), (bm, .inr (0, [.ref am])), (am, .inl (cJ, 64, .inr (.inl fm))), (bs, .inr (0, [.ref ap])), (ap, .inl (cJ, 64, .inr (.inl fs))), (s1, .inr (3, [.ref tq_o, .ref rq_o, .ref uq_o])), (tq_o, .inr (4, [.ref ca_o, .long osm, .int (oI olo)])), (ca_o, .inl (cJ, 64, .inr (.inl oc))), (rq_o, .inr (5, [.ref rb_o])), (rb_o, .inr (0, [.ref rd_o])), (rd_o, .inl (cJ, 128, .inr (.inl ot))), (uq_o, .inr (1, [.ref bm_o, .ref bs_o])), (bm_o, .inr (0, [.ref am_o])), (am_o, .inl (cJ, 64, .inr (.inl om))), (bs_o, .inr (0, [.ref ap_o])), (ap_o, .inl (cJ, 64, .inr (.inl os)))] s.heap := hP
  have hl := lv_entry ([.ref q, .int (nI 2), .int (nI 1), .ref oq]) (n := 5) (Nat.le_of_ble_eq_true rfl)
  rw [lg_entry_eq]
  generalize (lg_sl ([.ref q, .int (nI 2), .int (nI 1), .ref oq]) ++ List.replicate (5 - (lg_sl ([.ref q, .int (nI 2), .int (nI 1), .ref oq])).length) Slot.unset).toArray = ls at hl ⊢
  have hl : lv_has ls 5 [(0, .ref q), (1, .int (nI 2)), (2, .int (nI 1)), (3, .ref oq)] := hl
  refine lv_aload_n hx hb dL_insertAll_0 rfl (lv_at hl 3 rfl) ?_
  refine lv_iconst (v := nI 0) hx hb dL_insertAll_1 (by decide +kernel) ?_
  refine lv_aload_n hx hb dL_insertAll_2 rfl (lv_at hl 0 rfl) ?_
  refine lv_iload_n hx hb dL_insertAll_3 rfl (lv_at hl 1 rfl) ?_
  refine lv_iload_n hx hb dL_insertAll_4 rfl (lv_at hl 2 rfl) ?_
  have hPc := hP.sub (ws' := [(q, .inr (6, [.ref s0, .ref s1, .ref s2])), (s2, .inr (3, [.ref tq, .ref rq, .ref uq])), (tq, .inr (4, [.ref ca, .long sm, .int (oI lo)])), (ca, .inl (cJ, 64, .inr (.inl fc))), (rq, .inr (5, [.ref rb])), (rb, .inr (0, [.ref rd])), (rd, .inl (cJ, 128, .inr (.inl ft))), (uq, .inr (1, [.ref bm, .ref bs])), (bm, .inr (0, [.ref am])), (am, .inl (cJ, 64, .inr (.inl fm))), (bs, .inr (0, [.ref ap])), (ap, .inl (cJ, 64, .inr (.inl fs))), (s1, .inr (3, [.ref tq_o, .ref rq_o, .ref uq_o])), (tq_o, .inr (4, [.ref ca_o, .long osm, .int (oI olo)])), (ca_o, .inl (cJ, 64, .inr (.inl oc))), (rq_o, .inr (5, [.ref rb_o])), (rb_o, .inr (0, [.ref rd_o])), (rd_o, .inl (cJ, 128, .inr (.inl ot))), (uq_o, .inr (1, [.ref bm_o, .ref bs_o])), (bm_o, .inr (0, [.ref am_o])), (am_o, .inl (cJ, 64, .inr (.inl om))), (bs_o, .inr (0, [.ref ap_o])), (ap_o, .inl (cJ, 64, .inr (.inl os)))]) [0, 1, 2, 3, 4, 5, 6, 7, 8, 9, 10, 11, 12, 13, 14, 15, 16, 17, 18, 19, 20, 21, 22] rfl
  have hKc := hK.sub (tys' := [(cJ, .long)]) [0] rfl
  have hDc := hD.sub (ws' := [(q, .inr (6, [.ref s0, .ref s1, .ref s2])), (s2, .inr (3, [.ref tq, .ref rq, .ref uq])), (tq, .inr (4, [.ref ca, .long sm, .int (oI lo)])), (ca, .inl (cJ, 64, .inr (.inl fc))), (rq, .inr (5, [.ref rb])), (rb, .inr (0, [.ref rd])), (rd, .inl (cJ, 128, .inr (.inl ft))), (uq, .inr (1, [.ref bm, .ref bs])), (bm, .inr (0, [.ref am])), (am, .inl (cJ, 64, .inr (.inl fm))), (bs, .inr (0, [.ref ap])), (ap, .inl (cJ, 64, .inr (.inl fs))), (s1, .inr (3, [.ref tq_o, .ref rq_o, .ref uq_o])), (tq_o, .inr (4, [.ref ca_o, .long osm, .int (oI olo)])), (ca_o, .inl (cJ, 64, .inr (.inl oc))), (rq_o, .inr (5, [.ref rb_o])), (rb_o, .inr (0, [.ref rd_o])), (rd_o, .inl (cJ, 128, .inr (.inl ot))), (uq_o, .inr (1, [.ref bm_o, .ref bs_o])), (bm_o, .inr (0, [.ref am_o])), (am_o, .inl (cJ, 64, .inr (.inl om))), (bs_o, .inr (0, [.ref ap_o])), (ap_o, .inl (cJ, 64, .inr (.inl os)))]) [0, 1, 2, 3, 4, 5, 6, 7, 8, 9, 10, 11, 12, 13, 14, 15, 16, 17, 18, 19, 20, 21, 22] (by decide) rfl
  refine vx_callv (vx_runV (As := [.int (nI 2), .int (nI 1)]) (rest := [.int (nI 0), .ref oq]) ⟨hx, hb, hml, hown, hts⟩ (x_X7_insertAll_e21 l hls dC dI q s0 s1 s2 tq ca rq rb rd uq bm am bs ap cJ fm fs ft fc sm lo tq_o ca_o rq_o rb_o rd_o uq_o bm_o am_o bs_o ap_o om os ot oc osm olo sa s.heap.size (by first | assumption | omega) (by first | assumption | omega)) (cwV 2 hts gL_insertAll_X7_insertAll rfl rfl rfl (by decide +kernel) ⟨Nat.le_of_ble_eq_true rfl, Nat.le_of_ble_eq_true rfl⟩) ⟨fun a U g mk q => by obtain ⟨q0, nq0, q1, qT, qP, qK, qD⟩ := q; exact ⟨q0, va_Nw.same rfl (U := U.calling g mk a) rfl nq0, q1, TW.same (u := U) (U := U.calling g mk a) rfl qT, qP, va_K.moved (u := U) (U := U.calling g mk a) (Vm.Alike.refl U.vm) qK, qD⟩, va_recv hKc hPc (ci := 6) (q0 := 0) rfl rfl, fun U hU hW => ⟨rfl, va_Nw.warmF hW nw0, by rw [hU], by rw [hU]; exact TW.warm hW hT, by rw [hU]; exact hPc, va_K.moved hW.alike hKc, hDc.weaken (fun _ _ _ _ => trivial)⟩⟩ rfl rfl hl.1 rfl (lv_room (Nat.le_of_ble_eq_true rfl)) dL_insertAll_5 ⟨Nat.le_of_ble_eq_true rfl, Nat.le_of_ble_eq_true rfl⟩) hS (fun q h9 h8 => absurd h8 (Nat.not_le_of_lt h9)) (fun q h8 => hA q (Nat.le_trans hS.1 h8)) (fun q h9 h8 => absurd h8 (Nat.not_le_of_lt h9)) (fun E9 ce9 q9 u9 t9 H locs ht9 hvm9 hu9 hE9 hz9 hk9 hS hce9 hcv9 hcl9 => ?_) (fun u9 t9 H9 l9 ht9 hvm9 hu9 hB9 hz9 hk9 hS9 => hu9.elim)
  subst hE9
  have hP := hP.kept (H1 := H) (fun k q hk => hk9 _ (vx_lt hP hk) (Nat.not_le_of_lt (vx_lt hP hk)))
  refine vx_catch (name := "java/lang/IllegalStateException") hown [⟨0, 10, 13, 13⟩] ⟨0, 10, 17, 25⟩ [] (htab.trans rfl) (fun z hz => by rcases List.mem_cons.mp hz with rfl | hz; exact Or.inr ⟨by decide, "java/lang/IndexOutOfBoundsException", hts (.classLink RL 13 "java/lang/IndexOutOfBoundsException") (by decide +kernel), hNc0⟩; exact nomatch hz) rfl (by decide) (hts (.classLink RL 25 "java/lang/IllegalStateException") (by decide +kernel)) (va_Nw.use rfl hT.2.2.2.2.2.2) hce9 hcv9 hcl9 ?_
  refine W.cs (cells' := 1) (slots' := 6) rfl rfl ?_
  refine lv_astore (lv' := [(4, .ref q9), (0, .ref q), (1, .int (nI 2)), (2, .int (nI 1)), (3, .ref oq)]) hx hb dL_insertAll_17 hl (by decide) rfl (fun ls hl => ?_)
  refine lv_iconst (v := nI 2) hx hb dL_insertAll_19 (by decide +kernel) ?_
  have hP9 := hP.sub (ws' := [(q, .inr (6, [.ref s0, .ref s1, .ref s2])), (s2, .inr (3, [.ref tq, .ref rq, .ref uq])), (tq, .inr (4, [.ref ca, .long sm, .int (oI lo)])), (ca, .inl (cJ, 64, .inr (.inl fc))), (rq, .inr (5, [.ref rb])), (rb, .inr (0, [.ref rd])), (rd, .inl (cJ, 128, .inr (.inl ft))), (uq, .inr (1, [.ref bm, .ref bs])), (bm, .inr (0, [.ref am])), (am, .inl (cJ, 64, .inr (.inl fm))), (bs, .inr (0, [.ref ap])), (ap, .inl (cJ, 64, .inr (.inl fs))), (s1, .inr (3, [.ref tq_o, .ref rq_o, .ref uq_o])), (tq_o, .inr (4, [.ref ca_o, .long osm, .int (oI olo)])), (ca_o, .inl (cJ, 64, .inr (.inl oc))), (rq_o, .inr (5, [.ref rb_o])), (rb_o, .inr (0, [.ref rd_o])), (rd_o, .inl (cJ, 128, .inr (.inl ot))), (uq_o, .inr (1, [.ref bm_o, .ref bs_o])), (bm_o, .inr (0, [.ref am_o])), (am_o, .inl (cJ, 64, .inr (.inl om))), (bs_o, .inr (0, [.ref ap_o])), (ap_o, .inl (cJ, 64, .inr (.inl os)))]) [0, 1, 2, 3, 4, 5, 6, 7, 8, 9, 10, 11, 12, 13, 14, 15, 16, 17, 18, 19, 20, 21, 22] rfl
  have hD9 := hD.sub (ws' := [(q, .inr (6, [.ref s0, .ref s1, .ref s2])), (s2, .inr (3, [.ref tq, .ref rq, .ref uq])), (tq, .inr (4, [.ref ca, .long sm, .int (oI lo)])), (ca, .inl (cJ, 64, .inr (.inl fc))), (rq, .inr (5, [.ref rb])), (rb, .inr (0, [.ref rd])), (rd, .inl (cJ, 128, .inr (.inl ft))), (uq, .inr (1, [.ref bm, .ref bs])), (bm, .inr (0, [.ref am])), (am, .inl (cJ, 64, .inr (.inl fm))), (bs, .inr (0, [.ref ap])), (ap, .inl (cJ, 64, .inr (.inl fs))), (s1, .inr (3, [.ref tq_o, .ref rq_o, .ref uq_o])), (tq_o, .inr (4, [.ref ca_o, .long osm, .int (oI olo)])), (ca_o, .inl (cJ, 64, .inr (.inl oc))), (rq_o, .inr (5, [.ref rb_o])), (rb_o, .inr (0, [.ref rd_o])), (rd_o, .inl (cJ, 128, .inr (.inl ot))), (uq_o, .inr (1, [.ref bm_o, .ref bs_o])), (bm_o, .inr (0, [.ref am_o])), (am_o, .inl (cJ, 64, .inr (.inl om))), (bs_o, .inr (0, [.ref ap_o])), (ap_o, .inl (cJ, 64, .inr (.inl os)))]) [0, 1, 2, 3, 4, 5, 6, 7, 8, 9, 10, 11, 12, 13, 14, 15, 16, 17, 18, 19, 20, 21, 22] (by decide) rfl
  have hK9 := hK.sub (tys' := [(cJ, .long)]) [0] rfl
  exact W.iret (v := nI 2) hx hb hr (fun t9 ht hW => ⟨⟨nI 2, (), rfl, rfl, by rw [ht]; exact hP9, va_K.moved hW.alike hK9, hD9⟩, hS.F ht⟩) hS.2.2 dL_insertAll_20
set_option maxHeartbeats 4000000 in
set_option maxRecDepth 100000 in
/-- law: insertAll, insertAll_e22 -/
theorem c_L_insertAll_e22 (l : Launch) (hls : l.stackTraces = false) (dC : Nat → ClassId) (dI : Nat → Nat → Nat) (q : Nat) (s0 : Nat) (s1 : Nat) (s2 : Nat) (tq : Nat) (ca : Nat) (rq : Nat) (rb : Nat) (rd : Nat) (uq : Nat) (bm : Nat) (am : Nat) (bs : Nat) (ap : Nat) (cJ : ClassId) (fm : Nat → Int64) (fs : Nat → Int64) (ft : Nat → Int64) (fc : Nat → Int64) (sm : Int64) (lo : Option Nat) (oq : Nat) (sa : Nat) (sz : Nat) (hN : NI fm fs ft fc sm lo) (hn30 : 30 < fb_ct (bo fm) 4096) : Met l yL_insertAll wsL_insertAll ({ frames := 7, cells := 1, slots := 6, locals := 109 }) (va_Pc [.ref q, .int (nI 2), .int (nI 2), .ref oq] (fun U => va_Nw (.fieldLinkNest RX7 38 "SmallNumberSets$NumberSet" "buckets" "LSmallNumberSets$Buckets;" "SmallNumberSets") U ∧ TW "java/lang/IllegalStateException" 50 "the other set has too many members" sa (fun q => sz ≤ q) U U.heap ∧ va_Nc "java/lang/IllegalStateException" "java/lang/IndexOutOfBoundsException" U ∧ U.heap.size = sz ∧ va_P (dC, dI) vwCl [(q, .inr (6, [.ref s0, .ref s1, .ref s2])), (s2, .inr (3, [.ref tq, .ref rq, .ref uq])), (tq, .inr (4, [.ref ca, .long sm, .int (oI lo)])), (ca, .inl (cJ, 64, .inr (.inl fc))), (rq, .inr (5, [.ref rb])), (rb, .inr (0, [.ref rd])), (rd, .inl (cJ, 128, .inr (.inl ft))), (uq, .inr (1, [.ref bm, .ref bs])), (bm, .inr (0, [.ref am])), (am, .inl (cJ, 64, .inr (.inl fm))), (bs, .inr (0, [.ref ap])), (ap, .inl (cJ, 64, .inr (.inl fs)))] U.heap ∧ va_K (dC, dI) vwCl [(cJ, .long)] U ∧ va_D (fun _ => True) [(q, .inr (6, [.ref s0, .ref s1, .ref s2])), (s2, .inr (3, [.ref tq, .ref rq, .ref uq])), (tq, .inr (4, [.ref ca, .long sm, .int (oI lo)])), (ca, .inl (cJ, 64, .inr (.inl fc))), (rq, .inr (5, [.ref rb])), (rb, .inr (0, [.ref rd])), (rd, .inl (cJ, 128, .inr (.inl ft))), (uq, .inr (1, [.ref bm, .ref bs])), (bm, .inr (0, [.ref am])), (am, .inl (cJ, 64, .inr (.inl fm))), (bs, .inr (0, [.ref ap])), (ap, .inl (cJ, 64, .inr (.inl fs)))])) (va_Qi (fun (r : Int32) (u : Unit) => r = nI 2) (fun (u : Unit) (t : State) => va_P (dC, dI) vwCl [(q, .inr (6, [.ref s0, .ref s1, .ref s2])), (s2, .inr (3, [.ref tq, .ref rq, .ref uq])), (tq, .inr (4, [.ref ca, .long sm, .int (oI lo)])), (ca, .inl (cJ, 64, .inr (.inl fc))), (rq, .inr (5, [.ref rb])), (rb, .inr (0, [.ref rd])), (rd, .inl (cJ, 128, .inr (.inl ft))), (uq, .inr (1, [.ref bm, .ref bs])), (bm, .inr (0, [.ref am])), (am, .inl (cJ, 64, .inr (.inl fm))), (bs, .inr (0, [.ref ap])), (ap, .inl (cJ, 64, .inr (.inl fs)))] t.heap ∧ va_K (dC, dI) vwCl [(cJ, .long)] t ∧ va_D (va_A [(q, .inr (6, [.ref s0, .ref s1, .ref s2])), (s2, .inr (3, [.ref tq, .ref rq, .ref uq])), (tq, .inr (4, [.ref ca, .long sm, .int (oI lo)])), (ca, .inl (cJ, 64, .inr (.inl fc))), (rq, .inr (5, [.ref rb])), (rb, .inr (0, [.ref rd])), (rd, .inl (cJ, 128, .inr (.inl ft))), (uq, .inr (1, [.ref bm, .ref bs])), (bm, .inr (0, [.ref am])), (am, .inl (cJ, 64, .inr (.inl fm))), (bs, .inr (0, [.ref ap])), (ap, .inl (cJ, 64, .inr (.inl fs)))] sz) [(q, .inr (6, [.ref s0, .ref s1, .ref s2])), (s2, .inr (3, [.ref tq, .ref rq, .ref uq])), (tq, .inr (4, [.ref ca, .long sm, .int (oI lo)])), (ca, .inl (cJ, 64, .inr (.inl fc))), (rq, .inr (5, [.ref rb])), (rb, .inr (0, [.ref rd])), (rd, .inl (cJ, 128, .inr (.inl ft))), (uq, .inr (1, [.ref bm, .ref bs])), (bm, .inr (0, [.ref am])), (am, .inl (cJ, 64, .inr (.inl fm))), (bs, .inr (0, [.ref ap])), (ap, .inl (cJ, 64, .inr (.inl fs)))]) (va_A [(q, .inr (6, [.ref s0, .ref s1, .ref s2])), (s2, .inr (3, [.ref tq, .ref rq, .ref uq])), (tq, .inr (4, [.ref ca, .long sm, .int (oI lo)])), (ca, .inl (cJ, 64, .inr (.inl fc))), (rq, .inr (5, [.ref rb])), (rb, .inr (0, [.ref rd])), (rd, .inl (cJ, 128, .inr (.inl ft))), (uq, .inr (1, [.ref bm, .ref bs])), (bm, .inr (0, [.ref am])), (am, .inl (cJ, 64, .inr (.inl fm))), (bs, .inr (0, [.ref ap])), (ap, .inl (cJ, 64, .inr (.inl fs)))] sz)) 1 6 (va_A [(q, .inr (6, [.ref s0, .ref s1, .ref s2])), (s2, .inr (3, [.ref tq, .ref rq, .ref uq])), (tq, .inr (4, [.ref ca, .long sm, .int (oI lo)])), (ca, .inl (cJ, 64, .inr (.inl fc))), (rq, .inr (5, [.ref rb])), (rb, .inr (0, [.ref rd])), (rd, .inl (cJ, 128, .inr (.inl ft))), (uq, .inr (1, [.ref bm, .ref bs])), (bm, .inr (0, [.ref am])), (am, .inl (cJ, 64, .inr (.inl fm))), (bs, .inr (0, [.ref ap])), (ap, .inl (cJ, 64, .inr (.inl fs)))] sz) := by
  refine va_MetW (cc := cL_insertAll) (maxL := 5) (ret := (some .int)) (hh := [(0, 10, 13, 13), (0, 10, 17, 25)]) (by decide) rfl ?_
  intro p e s m args below meth c s₁ B hml hv
  obtain ⟨rfl, nw0, hT, hNc0, hsz, hP, hK, hD0⟩ := hv
  have hx := B.exec
  have hb := B.bytes
  have hr := B.returns
  have hts := atoms_spec (ws := wsL_insertAll) B.pre
  have hown : s.vm.findClass RL = some m.cls := findClass_of_methodNamed B.named
  have hlocks := B.notSynchronized
  have htab : c.exceptionTable.toList = tableOf [(0, 10, 13, 13), (0, 10, 17, 25)] := vx_table (x := yL_insertAll) B (hts _ List.mem_cons_self)
  subst hsz
  have hD := hD0.self (sz := s.heap.size)
  generalize hAe : va_A [(q, .inr (6, [.ref s0, .ref s1, .ref s2])), (s2, .inr (3, [.ref tq, .ref rq, .ref uq])), (tq, .inr (4, [.ref ca, .long sm, .int (oI lo)])), (ca, .inl (cJ, 64, .inr (.inl fc))), (rq, .inr (5, [.ref rb])), (rb, .inr (0, [.ref rd])), (rd, .inl (cJ, 128, .inr (.inl ft))), (uq, .inr (1, [.ref bm, .ref bs])), (bm, .inr (0, [.ref am])), (am, .inl (cJ, 64, .inr (.inl fm))), (bs, .inr (0, [.ref ap])), (ap, .inl (cJ, 64, .inr (.inl fs)))] s.heap.size = A at hD ⊢
  have hA : ∀ q : Nat, s.heap.size ≤ q → A q := fun q h => by rw [← hAe]; exact Or.inr h
  have hS : va_S A s.heap s.heap [] := va_S.rf
  have hP : va_P (dC, dI) vwCl [(q, .inr (6, [.ref s0, .ref s1, .ref s2])), (s2, .inr (3, [.ref tq, .ref rq, .ref uq])), (tq, .inr (4, [.ref ca, .long sm, .int (oI lo)])), (ca, .inl (cJ, 64, .inr (.inl fc))), (rq, .inr (5, [.ref rb])), (rb, .inr (0, [.ref rd])), (rd, .inl (cJ, 128, .inr (.inl ft))), (uq, .inr (1, [.ref bm, .ref bs])), (bm, .inr (0, [.ref am])), (am, .inl (cJ, 64, .inr (.inl fm))), (bs, .inr (0, [.ref ap])), (ap, .inl (cJ, 64, .inr (.inl fs)))] s.heap := hP
  have hl := lv_entry ([.ref q, .int (nI 2), .int (nI 2), .ref oq]) (n := 5) (Nat.le_of_ble_eq_true rfl)
  rw [lg_entry_eq]
  generalize (lg_sl ([.ref q, .int (nI 2), .int (nI 2), .ref oq]) ++ List.replicate (5 - (lg_sl ([.ref q, .int (nI 2), .int (nI 2), .ref oq])).length) Slot.unset).toArray = ls at hl ⊢
  have hl : lv_has ls 5 [(0, .ref q), (1, .int (nI 2)), (2, .int (nI 2)), (3, .ref oq)] := hl
  refine lv_aload_n hx hb dL_insertAll_0 rfl (lv_at hl 3 rfl) ?_
  refine lv_iconst (v := nI 0) hx hb dL_insertAll_1 (by decide +kernel) ?_
  refine lv_aload_n hx hb dL_insertAll_2 rfl (lv_at hl 0 rfl) ?_
  refine lv_iload_n hx hb dL_insertAll_3 rfl (lv_at hl 1 rfl) ?_
  refine lv_iload_n hx hb dL_insertAll_4 rfl (lv_at hl 2 rfl) ?_
  have hPc := hP.sub (ws' := [(q, .inr (6, [.ref s0, .ref s1, .ref s2])), (s2, .inr (3, [.ref tq, .ref rq, .ref uq])), (tq, .inr (4, [.ref ca, .long sm, .int (oI lo)])), (ca, .inl (cJ, 64, .inr (.inl fc))), (rq, .inr (5, [.ref rb])), (rb, .inr (0, [.ref rd])), (rd, .inl (cJ, 128, .inr (.inl ft))), (uq, .inr (1, [.ref bm, .ref bs])), (bm, .inr (0, [.ref am])), (am, .inl (cJ, 64, .inr (.inl fm))), (bs, .inr (0, [.ref ap])), (ap, .inl (cJ, 64, .inr (.inl fs)))]) [0, 1, 2, 3, 4, 5, 6, 7, 8, 9, 10, 11] rfl
  have hKc := hK.sub (tys' := [(cJ, .long)]) [0] rfl
  have hDc := hD.sub (ws' := [(q, .inr (6, [.ref s0, .ref s1, .ref s2])), (s2, .inr (3, [.ref tq, .ref rq, .ref uq])), (tq, .inr (4, [.ref ca, .long sm, .int (oI lo)])), (ca, .inl (cJ, 64, .inr (.inl fc))), (rq, .inr (5, [.ref rb])), (rb, .inr (0, [.ref rd])), (rd, .inl (cJ, 128, .inr (.inl ft))), (uq, .inr (1, [.ref bm, .ref bs])), (bm, .inr (0, [.ref am])), (am, .inl (cJ, 64, .inr (.inl fm))), (bs, .inr (0, [.ref ap])), (ap, .inl (cJ, 64, .inr (.inl fs)))]) [0, 1, 2, 3, 4, 5, 6, 7, 8, 9, 10, 11] (by decide) rfl
  refine vx_callv (vx_runV (As := [.int (nI 2), .int (nI 2)]) (rest := [.int (nI 0), .ref oq]) ⟨hx, hb, hml, hown, hts⟩ (x_X7_insertAll_e22 l hls dC dI q s0 s1 s2 tq ca rq rb rd uq bm am bs ap cJ fm fs ft fc sm lo sa s.heap.size (by first | assumption | omega) (by first | assumption | omega)) (cwV 2 hts gL_insertAll_X7_insertAll rfl rfl rfl (by decide +kernel) ⟨Nat.le_of_ble_eq_true rfl, Nat.le_of_ble_eq_true rfl⟩) ⟨fun a U g mk q => by obtain ⟨q0, nq0, q1, qT, qP, qK, qD⟩ := q; exact ⟨q0, va_Nw.same rfl (U := U.calling g mk a) rfl nq0, q1, TW.same (u := U) (U := U.calling g mk a) rfl qT, qP, va_K.moved (u := U) (U := U.calling g mk a) (Vm.Alike.refl U.vm) qK, qD⟩, va_recv hKc hPc (ci := 6) (q0 := 0) rfl rfl, fun U hU hW => ⟨rfl, va_Nw.warmF hW nw0, by rw [hU], by rw [hU]; exact TW.warm hW hT, by rw [hU]; exact hPc, va_K.moved hW.alike hKc, hDc.weaken (fun _ _ _ _ => trivial)⟩⟩ rfl rfl hl.1 rfl (lv_room (Nat.le_of_ble_eq_true rfl)) dL_insertAll_5 ⟨Nat.le_of_ble_eq_true rfl, Nat.le_of_ble_eq_true rfl⟩) hS (fun q h9 h8 => absurd h8 (Nat.not_le_of_lt h9)) (fun q h8 => hA q (Nat.le_trans hS.1 h8)) (fun q h9 h8 => absurd h8 (Nat.not_le_of_lt h9)) (fun E9 ce9 q9 u9 t9 H locs ht9 hvm9 hu9 hE9 hz9 hk9 hS hce9 hcv9 hcl9 => ?_) (fun u9 t9 H9 l9 ht9 hvm9 hu9 hB9 hz9 hk9 hS9 => hu9.elim)
  subst hE9
  have hP := hP.kept (H1 := H) (fun k q hk => hk9 _ (vx_lt hP hk) (Nat.not_le_of_lt (vx_lt hP hk)))
  refine vx_catch (name := "java/lang/IllegalStateException") hown [⟨0, 10, 13, 13⟩] ⟨0, 10, 17, 25⟩ [] (htab.trans rfl) (fun z hz => by rcases List.mem_cons.mp hz with rfl | hz; exact Or.inr ⟨by decide, "java/lang/IndexOutOfBoundsException", hts (.classLink RL 13 "java/lang/IndexOutOfBoundsException") (by decide +kernel), hNc0⟩; exact nomatch hz) rfl (by decide) (hts (.classLink RL 25 "java/lang/IllegalStateException") (by decide +kernel)) (va_Nw.use rfl hT.2.2.2.2.2.2) hce9 hcv9 hcl9 ?_
  refine W.cs (cells' := 1) (slots' := 6) rfl rfl ?_
  refine lv_astore (lv' := [(4, .ref q9), (0, .ref q), (1, .int (nI 2)), (2, .int (nI 2)), (3, .ref oq)]) hx hb dL_insertAll_17 hl (by decide) rfl (fun ls hl => ?_)
  refine lv_iconst (v := nI 2) hx hb dL_insertAll_19 (by decide +kernel) ?_
  have hP9 := hP.sub (ws' := [(q, .inr (6, [.ref s0, .ref s1, .ref s2])), (s2, .inr (3, [.ref tq, .ref rq, .ref uq])), (tq, .inr (4, [.ref ca, .long sm, .int (oI lo)])), (ca, .inl (cJ, 64, .inr (.inl fc))), (rq, .inr (5, [.ref rb])), (rb, .inr (0, [.ref rd])), (rd, .inl (cJ, 128, .inr (.inl ft))), (uq, .inr (1, [.ref bm, .ref bs])), (bm, .inr (0, [.ref am])), (am, .inl (cJ, 64, .inr (.inl fm))), (bs, .inr (0, [.ref ap])), (ap, .inl (cJ, 64, .inr (.inl fs)))]) [0, 1, 2, 3, 4, 5, 6, 7, 8, 9, 10, 11] rfl
  have hD9 := hD.sub (ws' := [(q, .inr (6, [.ref s0, .ref s1, .ref s2])), (s2, .inr (3, [.ref tq, .ref rq, .ref uq])), (tq, .inr (4, [.ref ca, .long sm, .int (oI lo)])), (ca, .inl (cJ, 64, .inr (.inl fc))), (rq, .inr (5, [.ref rb])), (rb, .inr (0, [.ref rd])), (rd, .inl (cJ, 128, .inr (.inl ft))), (uq, .inr (1, [.ref bm, .ref bs])), (bm, .inr (0, [.ref am])), (am, .inl (cJ, 64, .inr (.inl fm))), (bs, .inr (0, [.ref ap])), (ap, .inl (cJ, 64, .inr (.inl fs)))]) [0, 1, 2, 3, 4, 5, 6, 7, 8, 9, 10, 11] (by decide) rfl
  have hK9 := hK.sub (tys' := [(cJ, .long)]) [0] rfl
  exact W.iret (v := nI 2) hx hb hr (fun t9 ht hW => ⟨⟨nI 2, (), rfl, rfl, by rw [ht]; exact hP9, va_K.moved hW.alike hK9, hD9⟩, hS.F ht⟩) hS.2.2 dL_insertAll_20
set_option maxHeartbeats 4000000 in
set_option maxRecDepth 100000 in
/-- law: clusterMinimum, clusterMinimum_p2 -/
theorem c_L_clusterMinimum_p2 (l : Launch) (hls : l.stackTraces = false) (dC : Nat → ClassId) (dI : Nat → Nat → Nat) (q : Nat) (s0 : Nat) (s1 : Nat) (s2 : Nat) (w : Int32) (oq : Nat) (sa : Nat) (sz : Nat) (hW : pl w 64 = false) : Met l yL_clusterMinimum wsL_clusterMinimum ({ frames := 8, cells := 1, slots := 6, locals := 126 }) (va_Pc [.ref q, .int (nI 2), .int w, .ref oq] (fun U => TW "java/lang/IndexOutOfBoundsException" 165 "no such cluster, level, place or bucket" sa (fun q => sz ≤ q) U U.heap ∧ U.heap.size = sz ∧ va_P (dC, dI) vwCl [(q, .inr (6, [.ref s0, .ref s1, .ref s2]))] U.heap ∧ va_K (dC, dI) vwCl [] U ∧ va_D (fun _ => True) [(q, .inr (6, [.ref s0, .ref s1, .ref s2]))])) (va_Qi (fun (r : Int32) (u : Unit) => r = nI 1) (fun (u : Unit) (t : State) => va_P (dC, dI) vwCl [(q, .inr (6, [.ref s0, .ref s1, .ref s2]))] t.heap ∧ va_K (dC, dI) vwCl [] t ∧ va_D (va_A [(q, .inr (6, [.ref s0, .ref s1, .ref s2]))] sz) [(q, .inr (6, [.ref s0, .ref s1, .ref s2]))]) (va_A [(q, .inr (6, [.ref s0, .ref s1, .ref s2]))] sz)) 1 6 (va_A [(q, .inr (6, [.ref s0, .ref s1, .ref s2]))] sz) := by
  refine va_MetW (cc := cL_clusterMinimum) (maxL := 5) (ret := (some .int)) (hh := [(0, 10, 13, 13)]) (by decide) rfl ?_
  intro p e s m args below meth c s₁ B hml hv
  obtain ⟨rfl, hT, hsz, hP, hK, hD0⟩ := hv
  have hx := B.exec
  have hb := B.bytes
  have hr := B.returns
  have hts := atoms_spec (ws := wsL_clusterMinimum) B.pre
  have hown : s.vm.findClass RL = some m.cls := findClass_of_methodNamed B.named
  have hlocks := B.notSynchronized
  have htab : c.exceptionTable.toList = tableOf [(0, 10, 13, 13)] := vx_table (x := yL_clusterMinimum) B (hts _ List.mem_cons_self)
  subst hsz
  have hD := hD0.self (sz := s.heap.size)
  generalize hAe : va_A [(q, .inr (6, [.ref s0, .ref s1, .ref s2]))] s.heap.size = A at hD ⊢
  have hA : ∀ q : Nat, s.heap.size ≤ q → A q := fun q h => by rw [← hAe]; exact Or.inr h
  have hS : va_S A s.heap s.heap [] := va_S.rf
  have hP : va_P (dC, dI) vwCl [(q, .inr (6, [.ref s0, .ref s1, .ref s2]))] s.heap := hP
  have hl := lv_entry ([.ref q, .int (nI 2), .int w, .ref oq]) (n := 5) (Nat.le_of_ble_eq_true rfl)
  rw [lg_entry_eq]
  generalize (lg_sl ([.ref q, .int (nI 2), .int w, .ref oq]) ++ List.replicate (5 - (lg_sl ([.ref q, .int (nI 2), .int w, .ref oq])).length) Slot.unset).toArray = ls at hl ⊢
  have hl : lv_has ls 5 [(0, .ref q), (1, .int (nI 2)), (2, .int w), (3, .ref oq)] := hl
  refine lv_aload_n hx hb dL_clusterMinimum_0 rfl (lv_at hl 3 rfl) ?_
  refine lv_iconst (v := nI 0) hx hb dL_clusterMinimum_1 (by decide +kernel) ?_
  refine lv_aload_n hx hb dL_clusterMinimum_2 rfl (lv_at hl 0 rfl) ?_
  refine lv_iload_n hx hb dL_clusterMinimum_3 rfl (lv_at hl 1 rfl) ?_
  refine lv_iload_n hx hb dL_clusterMinimum_4 rfl (lv_at hl 2 rfl) ?_
  have hPc := hP.sub (ws' := [(q, .inr (6, [.ref s0, .ref s1, .ref s2]))]) [0] rfl
  have hKc := hK.sub (tys' := []) [] rfl
  have hDc := hD.sub (ws' := [(q, .inr (6, [.ref s0, .ref s1, .ref s2]))]) [0] (by decide) rfl
  refine vx_callv (vx_runV (As := [.int (nI 2), .int w]) (rest := [.int (nI 0), .ref oq]) ⟨hx, hb, hml, hown, hts⟩ (x_X7_clusterMinimum_p2 l hls dC dI q s0 s1 s2 w sa s.heap.size (by first | assumption | omega)) (cwV 2 hts gL_clusterMinimum_X7_clusterMinimum rfl rfl rfl (by decide +kernel) ⟨Nat.le_of_ble_eq_true rfl, Nat.le_of_ble_eq_true rfl⟩) ⟨fun a U g mk q => by obtain ⟨q0, q1, qT, qP, qK, qD⟩ := q; exact ⟨q0, q1, TW.same (u := U) (U := U.calling g mk a) rfl qT, qP, va_K.moved (u := U) (U := U.calling g mk a) (Vm.Alike.refl U.vm) qK, qD⟩, va_recv hKc hPc (ci := 6) (q0 := 0) rfl rfl, fun U hU hW => ⟨rfl, by rw [hU], by rw [hU]; exact TW.warm hW hT, by rw [hU]; exact hPc, va_K.moved hW.alike hKc, hDc.weaken (fun _ _ _ _ => trivial)⟩⟩ rfl rfl hl.1 rfl (lv_room (Nat.le_of_ble_eq_true rfl)) dL_clusterMinimum_5 ⟨Nat.le_of_ble_eq_true rfl, Nat.le_of_ble_eq_true rfl⟩) hS (fun q h9 h8 => absurd h8 (Nat.not_le_of_lt h9)) (fun q h8 => hA q (Nat.le_trans hS.1 h8)) (fun q h9 h8 => absurd h8 (Nat.not_le_of_lt h9)) (fun E9 ce9 q9 u9 t9 H locs ht9 hvm9 hu9 hE9 hz9 hk9 hS hce9 hcv9 hcl9 => ?_) (fun u9 t9 H9 l9 ht9 hvm9 hu9 hB9 hz9 hk9 hS9 => hu9.elim)
  subst hE9
  have hP := hP.kept (H1 := H) (fun k q hk => hk9 _ (vx_lt hP hk) (Nat.not_le_of_lt (vx_lt hP hk)))
  refine vx_catch (name := "java/lang/IndexOutOfBoundsException") hown [] ⟨0, 10, 13, 13⟩ [] (htab.trans rfl) (fun z hz => nomatch hz) rfl (by decide) (hts (.classLink RL 13 "java/lang/IndexOutOfBoundsException") (by decide +kernel)) (va_Nw.use rfl hT.2.2.2.2.2.2) hce9 hcv9 hcl9 ?_
  refine W.cs (cells' := 1) (slots' := 6) rfl rfl ?_
  refine lv_astore (lv' := [(4, .ref q9), (0, .ref q), (1, .int (nI 2)), (2, .int w), (3, .ref oq)]) hx hb dL_clusterMinimum_13 hl (by decide) rfl (fun ls hl => ?_)
  refine lv_iconst (v := nI 1) hx hb dL_clusterMinimum_15 (by decide +kernel) ?_
  have hP9 := hP.sub (ws' := [(q, .inr (6, [.ref s0, .ref s1, .ref s2]))]) [0] rfl
  have hD9 := hD.sub (ws' := [(q, .inr (6, [.ref s0, .ref s1, .ref s2]))]) [0] (by decide) rfl
  have hK9 := hK.sub (tys' := []) [] rfl
  exact W.iret (v := nI 1) hx hb hr (fun t9 ht hW => ⟨⟨nI 1, (), rfl, rfl, by rw [ht]; exact hP9, va_K.moved hW.alike hK9, hD9⟩, hS.F ht⟩) hS.2.2 dL_clusterMinimum_16
set_option maxHeartbeats 4000000 in
set_option maxRecDepth 100000 in
/-- law: clusterMaximum, clusterMaximum_p2 -/
theorem c_L_clusterMaximum_p2 (l : Launch) (hls : l.stackTraces = false) (dC : Nat → ClassId) (dI : Nat → Nat → Nat) (q : Nat) (s0 : Nat) (s1 : Nat) (s2 : Nat) (w : Int32) (oq : Nat) (sa : Nat) (sz : Nat) (hW : pl w 64 = false) : Met l yL_clusterMaximum wsL_clusterMaximum ({ frames := 8, cells := 1, slots := 6, locals := 126 }) (va_Pc [.ref q, .int (nI 2), .int w, .ref oq] (fun U => TW "java/lang/IndexOutOfBoundsException" 165 "no such cluster, level, place or bucket" sa (fun q => sz ≤ q) U U.heap ∧ U.heap.size = sz ∧ va_P (dC, dI) vwCl [(q, .inr (6, [.ref s0, .ref s1, .ref s2]))] U.heap ∧ va_K (dC, dI) vwCl [] U ∧ va_D (fun _ => True) [(q, .inr (6, [.ref s0, .ref s1, .ref s2]))])) (va_Qi (fun (r : Int32) (u : Unit) => r = nI 1) (fun (u : Unit) (t : State) => va_P (dC, dI) vwCl [(q, .inr (6, [.ref s0, .ref s1, .ref s2]))] t.heap ∧ va_K (dC, dI) vwCl [] t ∧ va_D (va_A [(q, .inr (6, [.ref s0, .ref s1, .ref s2]))] sz) [(q, .inr (6, [.ref s0, .ref s1, .ref s2]))]) (va_A [(q, .inr (6, [.ref s0, .ref s1, .ref s2]))] sz)) 1 6 (va_A [(q, .inr (6, [.ref s0, .ref s1, .ref s2]))] sz) := by
  refine va_MetW (cc := cL_clusterMaximum) (maxL := 5) (ret := (some .int)) (hh := [(0, 10, 13, 13)]) (by decide) rfl ?_
  intro p e s m args below meth c s₁ B hml hv
  obtain ⟨rfl, hT, hsz, hP, hK, hD0⟩ := hv
  have hx := B.exec
  have hb := B.bytes
  have hr := B.returns
  have hts := atoms_spec (ws := wsL_clusterMaximum) B.pre
  have hown : s.vm.findClass RL = some m.cls := findClass_of_methodNamed B.named
  have hlocks := B.notSynchronized
  have htab : c.exceptionTable.toList = tableOf [(0, 10, 13, 13)] := vx_table (x := yL_clusterMaximum) B (hts _ List.mem_cons_self)
  subst hsz
  have hD := hD0.self (sz := s.heap.size)
  generalize hAe : va_A [(q, .inr (6, [.ref s0, .ref s1, .ref s2]))] s.heap.size = A at hD ⊢
  have hA : ∀ q : Nat, s.heap.size ≤ q → A q := fun q h => by rw [← hAe]; exact Or.inr h
  have hS : va_S A s.heap s.heap [] := va_S.rf
  have hP : va_P (dC, dI) vwCl [(q, .inr (6, [.ref s0, .ref s1, .ref s2]))] s.heap := hP
  have hl := lv_entry ([.ref q, .int (nI 2), .int w, .ref oq]) (n := 5) (Nat.le_of_ble_eq_true rfl)
  rw [lg_entry_eq]
  generalize (lg_sl ([.ref q, .int (nI 2), .int w, .ref oq]) ++ List.replicate (5 - (lg_sl ([.ref q, .int (nI 2), .int w, .ref oq])).length) Slot.unset).toArray = ls at hl ⊢
  have hl : lv_has ls 5 [(0, .ref q), (1, .int (nI 2)), (2, .int w), (3, .ref oq)] := hl
  refine lv_aload_n hx hb dL_clusterMaximum_0 rfl (lv_at hl 3 rfl) ?_
  refine lv_iconst (v := nI 0) hx hb dL_clusterMaximum_1 (by decide +kernel) ?_
  refine lv_aload_n hx hb dL_clusterMaximum_2 rfl (lv_at hl 0 rfl) ?_
  refine lv_iload_n hx hb dL_clusterMaximum_3 rfl (lv_at hl 1 rfl) ?_
  refine lv_iload_n hx hb dL_clusterMaximum_4 rfl (lv_at hl 2 rfl) ?_
  have hPc := hP.sub (ws' := [(q, .inr (6, [.ref s0, .ref s1, .ref s2]))]) [0] rfl
  have hKc := hK.sub (tys' := []) [] rfl
  have hDc := hD.sub (ws' := [(q, .inr (6, [.ref s0, .ref s1, .ref s2]))]) [0] (by decide) rfl
  refine vx_callv (vx_runV (As := [.int (nI 2), .int w]) (rest := [.int (nI 0), .ref oq]) ⟨hx, hb, hml, hown, hts⟩ (x_X7_clusterMaximum_p2 l hls dC dI q s0 s1 s2 w sa s.heap.size (by first | assumption | omega)) (cwV 2 hts gL_clusterMaximum_X7_clusterMaximum rfl rfl rfl (by decide +kernel) ⟨Nat.le_of_ble_eq_true rfl, Nat.le_of_ble_eq_true rfl⟩) ⟨fun a U g mk q => by obtain ⟨q0, q1, qT, qP, qK, qD⟩ := q; exact ⟨q0, q1, TW.same (u := U) (U := U.calling g mk a) rfl qT, qP, va_K.moved (u := U) (U := U.calling g mk a) (Vm.Alike.refl U.vm) qK, qD⟩, va_recv hKc hPc (ci := 6) (q0 := 0) rfl rfl, fun U hU hW => ⟨rfl, by rw [hU], by rw [hU]; exact TW.warm hW hT, by rw [hU]; exact hPc, va_K.moved hW.alike hKc, hDc.weaken (fun _ _ _ _ => trivial)⟩⟩ rfl rfl hl.1 rfl (lv_room (Nat.le_of_ble_eq_true rfl)) dL_clusterMaximum_5 ⟨Nat.le_of_ble_eq_true rfl, Nat.le_of_ble_eq_true rfl⟩) hS (fun q h9 h8 => absurd h8 (Nat.not_le_of_lt h9)) (fun q h8 => hA q (Nat.le_trans hS.1 h8)) (fun q h9 h8 => absurd h8 (Nat.not_le_of_lt h9)) (fun E9 ce9 q9 u9 t9 H locs ht9 hvm9 hu9 hE9 hz9 hk9 hS hce9 hcv9 hcl9 => ?_) (fun u9 t9 H9 l9 ht9 hvm9 hu9 hB9 hz9 hk9 hS9 => hu9.elim)
  subst hE9
  have hP := hP.kept (H1 := H) (fun k q hk => hk9 _ (vx_lt hP hk) (Nat.not_le_of_lt (vx_lt hP hk)))
  refine vx_catch (name := "java/lang/IndexOutOfBoundsException") hown [] ⟨0, 10, 13, 13⟩ [] (htab.trans rfl) (fun z hz => nomatch hz) rfl (by decide) (hts (.classLink RL 13 "java/lang/IndexOutOfBoundsException") (by decide +kernel)) (va_Nw.use rfl hT.2.2.2.2.2.2) hce9 hcv9 hcl9 ?_
  refine W.cs (cells' := 1) (slots' := 6) rfl rfl ?_
  refine lv_astore (lv' := [(4, .ref q9), (0, .ref q), (1, .int (nI 2)), (2, .int w), (3, .ref oq)]) hx hb dL_clusterMaximum_13 hl (by decide) rfl (fun ls hl => ?_)
  refine lv_iconst (v := nI 1) hx hb dL_clusterMaximum_15 (by decide +kernel) ?_
  have hP9 := hP.sub (ws' := [(q, .inr (6, [.ref s0, .ref s1, .ref s2]))]) [0] rfl
  have hD9 := hD.sub (ws' := [(q, .inr (6, [.ref s0, .ref s1, .ref s2]))]) [0] (by decide) rfl
  have hK9 := hK.sub (tys' := []) [] rfl
  exact W.iret (v := nI 1) hx hb hr (fun t9 ht hW => ⟨⟨nI 1, (), rfl, rfl, by rw [ht]; exact hP9, va_K.moved hW.alike hK9, hD9⟩, hS.F ht⟩) hS.2.2 dL_clusterMaximum_16
set_option maxHeartbeats 4000000 in
set_option maxRecDepth 100000 in
/-- law: prefixes, prefixes_p2 -/
theorem c_L_prefixes_p2 (l : Launch) (hls : l.stackTraces = false) (dC : Nat → ClassId) (dI : Nat → Nat → Nat) (q : Nat) (s0 : Nat) (s1 : Nat) (s2 : Nat) (w : Int32) (oq : Nat) (sa : Nat) (sz : Nat) (hW : pl w 13 = false) : Met l yL_prefixes wsL_prefixes ({ frames := 8, cells := 1, slots := 6, locals := 126 }) (va_Pc [.ref q, .int (nI 2), .int w, .ref oq] (fun U => TW "java/lang/IndexOutOfBoundsException" 165 "no such cluster, level, place or bucket" sa (fun q => sz ≤ q) U U.heap ∧ U.heap.size = sz ∧ va_P (dC, dI) vwCl [(q, .inr (6, [.ref s0, .ref s1, .ref s2]))] U.heap ∧ va_K (dC, dI) vwCl [] U ∧ va_D (fun _ => True) [(q, .inr (6, [.ref s0, .ref s1, .ref s2]))])) (va_Qi (fun (r : Int32) (u : Unit) => r = nI 1) (fun (u : Unit) (t : State) => va_P (dC, dI) vwCl [(q, .inr (6, [.ref s0, .ref s1, .ref s2]))] t.heap ∧ va_K (dC, dI) vwCl [] t ∧ va_D (va_A [(q, .inr (6, [.ref s0, .ref s1, .ref s2]))] sz) [(q, .inr (6, [.ref s0, .ref s1, .ref s2]))]) (va_A [(q, .inr (6, [.ref s0, .ref s1, .ref s2]))] sz)) 1 6 (va_A [(q, .inr (6, [.ref s0, .ref s1, .ref s2]))] sz) := by
  refine va_MetW (cc := cL_prefixes) (maxL := 5) (ret := (some .int)) (hh := [(0, 10, 13, 13)]) (by decide) rfl ?_
  intro p e s m args below meth c s₁ B hml hv
  obtain ⟨rfl, hT, hsz, hP, hK, hD0⟩ := hv
  have hx := B.exec
  have hb := B.bytes
  have hr := B.returns
  have hts := atoms_spec (ws := wsL_prefixes) B.pre
  have hown : s.vm.findClass RL = some m.cls := findClass_of_methodNamed B.named
  have hlocks := B.notSynchronized
  have htab : c.exceptionTable.toList = tableOf [(0, 10, 13, 13)] := vx_table (x := yL_prefixes) B (hts _ List.mem_cons_self)
  subst hsz
  have hD := hD0.self (sz := s.heap.size)
  generalize hAe : va_A [(q, .inr (6, [.ref s0, .ref s1, .ref s2]))] s.heap.size = A at hD ⊢
  have hA : ∀ q : Nat, s.heap.size ≤ q → A q := fun q h => by rw [← hAe]; exact Or.inr h
  have hS : va_S A s.heap s.heap [] := va_S.rf
  have hP : va_P (dC, dI) vwCl [(q, .inr (6, [.ref s0, .ref s1, .ref s2]))] s.heap := hP
  have hl := lv_entry ([.ref q, .int (nI 2), .int w, .ref oq]) (n := 5) (Nat.le_of_ble_eq_true rfl)
  rw [lg_entry_eq]
  generalize (lg_sl ([.ref q, .int (nI 2), .int w, .ref oq]) ++ List.replicate (5 - (lg_sl ([.ref q, .int (nI 2), .int w, .ref oq])).length) Slot.unset).toArray = ls at hl ⊢
  have hl : lv_has ls 5 [(0, .ref q), (1, .int (nI 2)), (2, .int w), (3, .ref oq)] := hl
  refine lv_aload_n hx hb dL_prefixes_0 rfl (lv_at hl 3 rfl) ?_
  refine lv_iconst (v := nI 0) hx hb dL_prefixes_1 (by decide +kernel) ?_
  refine lv_aload_n hx hb dL_prefixes_2 rfl (lv_at hl 0 rfl) ?_
  refine lv_iload_n hx hb dL_prefixes_3 rfl (lv_at hl 1 rfl) ?_
  refine lv_iload_n hx hb dL_prefixes_4 rfl (lv_at hl 2 rfl) ?_
  have hPc := hP.sub (ws' := [(q, .inr (6, [.ref s0, .ref s1, .ref s2]))]) [0] rfl
  have hKc := hK.sub (tys' := []) [] rfl
  have hDc := hD.sub (ws' := [(q, .inr (6, [.ref s0, .ref s1, .ref s2]))]) [0] (by decide) rfl
  refine vx_callv (vx_runV (As := [.int (nI 2), .int w]) (rest := [.int (nI 0), .ref oq]) ⟨hx, hb, hml, hown, hts⟩ (x_X7_prefixes_p2 l hls dC dI q s0 s1 s2 w sa s.heap.size (by first | assumption | omega)) (cwV 2 hts gL_prefixes_X7_prefixes rfl rfl rfl (by decide +kernel) ⟨Nat.le_of_ble_eq_true rfl, Nat.le_of_ble_eq_true rfl⟩) ⟨fun a U g mk q => by obtain ⟨q0, q1, qT, qP, qK, qD⟩ := q; exact ⟨q0, q1, TW.same (u := U) (U := U.calling g mk a) rfl qT, qP, va_K.moved (u := U) (U := U.calling g mk a) (Vm.Alike.refl U.vm) qK, qD⟩, va_recv hKc hPc (ci := 6) (q0 := 0) rfl rfl, fun U hU hW => ⟨rfl, by rw [hU], by rw [hU]; exact TW.warm hW hT, by rw [hU]; exact hPc, va_K.moved hW.alike hKc, hDc.weaken (fun _ _ _ _ => trivial)⟩⟩ rfl rfl hl.1 rfl (lv_room (Nat.le_of_ble_eq_true rfl)) dL_prefixes_5 ⟨Nat.le_of_ble_eq_true rfl, Nat.le_of_ble_eq_true rfl⟩) hS (fun q h9 h8 => absurd h8 (Nat.not_le_of_lt h9)) (fun q h8 => hA q (Nat.le_trans hS.1 h8)) (fun q h9 h8 => absurd h8 (Nat.not_le_of_lt h9)) (fun E9 ce9 q9 u9 t9 H locs ht9 hvm9 hu9 hE9 hz9 hk9 hS hce9 hcv9 hcl9 => ?_) (fun u9 t9 H9 l9 ht9 hvm9 hu9 hB9 hz9 hk9 hS9 => hu9.elim)
  subst hE9
  have hP := hP.kept (H1 := H) (fun k q hk => hk9 _ (vx_lt hP hk) (Nat.not_le_of_lt (vx_lt hP hk)))
  refine vx_catch (name := "java/lang/IndexOutOfBoundsException") hown [] ⟨0, 10, 13, 13⟩ [] (htab.trans rfl) (fun z hz => nomatch hz) rfl (by decide) (hts (.classLink RL 13 "java/lang/IndexOutOfBoundsException") (by decide +kernel)) (va_Nw.use rfl hT.2.2.2.2.2.2) hce9 hcv9 hcl9 ?_
  refine W.cs (cells' := 1) (slots' := 6) rfl rfl ?_
  refine lv_astore (lv' := [(4, .ref q9), (0, .ref q), (1, .int (nI 2)), (2, .int w), (3, .ref oq)]) hx hb dL_prefixes_13 hl (by decide) rfl (fun ls hl => ?_)
  refine lv_iconst (v := nI 1) hx hb dL_prefixes_15 (by decide +kernel) ?_
  have hP9 := hP.sub (ws' := [(q, .inr (6, [.ref s0, .ref s1, .ref s2]))]) [0] rfl
  have hD9 := hD.sub (ws' := [(q, .inr (6, [.ref s0, .ref s1, .ref s2]))]) [0] (by decide) rfl
  have hK9 := hK.sub (tys' := []) [] rfl
  exact W.iret (v := nI 1) hx hb hr (fun t9 ht hW => ⟨⟨nI 1, (), rfl, rfl, by rw [ht]; exact hP9, va_K.moved hW.alike hK9, hD9⟩, hS.F ht⟩) hS.2.2 dL_prefixes_16
set_option maxHeartbeats 4000000 in
set_option maxRecDepth 100000 in
/-- law: select, select_p2 -/
theorem c_L_select_p2 (l : Launch) (hls : l.stackTraces = false) (dC : Nat → ClassId) (dI : Nat → Nat → Nat) (q : Nat) (s0 : Nat) (s1 : Nat) (s2 : Nat) (tq : Nat) (ca : Nat) (rq : Nat) (rb : Nat) (rd : Nat) (uq : Nat) (bm : Nat) (am : Nat) (bs : Nat) (ap : Nat) (cJ : ClassId) (fm : Nat → Int64) (fs : Nat → Int64) (ft : Nat → Int64) (fc : Nat → Int64) (sm : Int64) (lo : Option Nat) (w : Int32) (oq : Nat) (sa : Nat) (sz : Nat) (hN : NI fm fs ft fc sm lo) (hW : pl w (fb_ct (bo fm) 4096) = false) : Met l yL_select wsL_select ({ frames := 8, cells := 1, slots := 6, locals := 126 }) (va_Pc [.ref q, .int (nI 2), .int w, .ref oq] (fun U => va_Nw (.fieldLinkNest RX7 38 "SmallNumberSets$NumberSet" "buckets" "LSmallNumberSets$Buckets;" "SmallNumberSets") U ∧ TW "java/lang/IndexOutOfBoundsException" 165 "no such cluster, level, place or bucket" sa (fun q => sz ≤ q) U U.heap ∧ U.heap.size = sz ∧ va_P (dC, dI) vwCl [(q, .inr (6, [.ref s0, .ref s1, .ref s2])), (s2, .inr (3, [.ref tq, .ref rq, .ref uq])), (tq, .inr (4, [.ref ca, .long sm, .int (oI lo)])), (ca, .inl (cJ, 64, .inr (.inl fc))), (rq, .inr (5, [.ref rb])), (rb, .inr (0, [.ref rd])), (rd, .inl (cJ, 128, .inr (.inl ft))), (uq, .inr (1, [.ref bm, .ref bs])), (bm, .inr (0, [.ref am])), (am, .inl (cJ, 64, .inr (.inl fm))), (bs, .inr (0, [.ref ap])), (ap, .inl (cJ, 64, .inr (.inl fs)))] U.heap ∧ va_K (dC, dI) vwCl [(cJ, .long)] U ∧ va_D (fun _ => True) [(q, .inr (6, [.ref s0, .ref s1, .ref s2])), (s2, .inr (3, [.ref tq, .ref rq, .ref uq])), (tq, .inr (4, [.ref ca, .long sm, .int (oI lo)])), (ca, .inl (cJ, 64, .inr (.inl fc))), (rq, .inr (5, [.ref rb])), (rb, .inr (0, [.ref rd])), (rd, .inl (cJ, 128, .inr (.inl ft))), (uq, .inr (1, [.ref bm, .ref bs])), (bm, .inr (0, [.ref am])), (am, .inl (cJ, 64, .inr (.inl fm))), (bs, .inr (0, [.ref ap])), (ap, .inl (cJ, 64, .inr (.inl fs)))])) (va_Qi (fun (r : Int32) (u : Unit) => r = nI 1) (fun (u : Unit) (t : State) => va_P (dC, dI) vwCl [(q, .inr (6, [.ref s0, .ref s1, .ref s2])), (s2, .inr (3, [.ref tq, .ref rq, .ref uq])), (tq, .inr (4, [.ref ca, .long sm, .int (oI lo)])), (ca, .inl (cJ, 64, .inr (.inl fc))), (rq, .inr (5, [.ref rb])), (rb, .inr (0, [.ref rd])), (rd, .inl (cJ, 128, .inr (.inl ft))), (uq, .inr (1, [.ref bm, .ref bs])), (bm, .inr (0, [.ref am])), (am, .inl (cJ, 64, .inr (.inl fm))), (bs, .inr (0, [.ref ap])), (ap, .inl (cJ, 64, .inr (.inl fs)))] t.heap ∧ va_K (dC, dI) vwCl [(cJ, .long)] t ∧ va_D (va_A [(q, .inr (6, [.ref s0, .ref s1, .ref s2])), (s2, .inr (3, [.ref tq, .ref rq, .ref uq])), (tq, .inr (4, [.ref ca, .long sm, .int (oI lo)])), (ca, .inl (cJ, 64, .inr (.inl fc))), (rq, .inr (5, [.ref rb])), (rb, .inr (0, [.ref rd])), (rd, .inl (cJ, 128, .inr (.inl ft))), (uq, .inr (1, [.ref bm, .ref bs])), (bm, .inr (0, [.ref am])), (am, .inl (cJ, 64, .inr (.inl fm))), (bs, .inr (0, [.ref ap])), (ap, .inl (cJ, 64, .inr (.inl fs)))] sz) [(q, .inr (6, [.ref s0, .ref s1, .ref s2])), (s2, .inr (3, [.ref tq, .ref rq, .ref uq])), (tq, .inr (4, [.ref ca, .long sm, .int (oI lo)])), (ca, .inl (cJ, 64, .inr (.inl fc))), (rq, .inr (5, [.ref rb])), (rb, .inr (0, [.ref rd])), (rd, .inl (cJ, 128, .inr (.inl ft))), (uq, .inr (1, [.ref bm, .ref bs])), (bm, .inr (0, [.ref am])), (am, .inl (cJ, 64, .inr (.inl fm))), (bs, .inr (0, [.ref ap])), (ap, .inl (cJ, 64, .inr (.inl fs)))]) (va_A [(q, .inr (6, [.ref s0, .ref s1, .ref s2])), (s2, .inr (3, [.ref tq, .ref rq, .ref uq])), (tq, .inr (4, [.ref ca, .long sm, .int (oI lo)])), (ca, .inl (cJ, 64, .inr (.inl fc))), (rq, .inr (5, [.ref rb])), (rb, .inr (0, [.ref rd])), (rd, .inl (cJ, 128, .inr (.inl ft))), (uq, .inr (1, [.ref bm, .ref bs])), (bm, .inr (0, [.ref am])), (am, .inl (cJ, 64, .inr (.inl fm))), (bs, .inr (0, [.ref ap])), (ap, .inl (cJ, 64, .inr (.inl fs)))] sz)) 1 6 (va_A [(q, .inr (6, [.ref s0, .ref s1, .ref s2])), (s2, .inr (3, [.ref tq, .ref rq, .ref uq])), (tq, .inr (4, [.ref ca, .long sm, .int (oI lo)])), (ca, .inl (cJ, 64, .inr (.inl fc))), (rq, .inr (5, [.ref rb])), (rb, .inr (0, [.ref rd])), (rd, .inl (cJ, 128, .inr (.inl ft))), (uq, .inr (1, [.ref bm, .ref bs])), (bm, .inr (0, [.ref am])), (am, .inl (cJ, 64, .inr (.inl fm))), (bs, .inr (0, [.ref ap])), (ap, .inl (cJ, 64, .inr (.inl fs)))] sz) := by
  refine va_MetW (cc := cL_select) (maxL := 5) (ret := (some .int)) (hh := [(0, 10, 13, 13)]) (by decide) rfl ?_
  intro p e s m args below meth c s₁ B hml hv
  obtain ⟨rfl, nw0, hT, hsz, hP, hK, hD0⟩ := hv
  have hx := B.exec
  have hb := B.bytes
  have hr := B.returns
  have hts := atoms_spec (ws := wsL_select) B.pre
  have hown : s.vm.findClass RL = some m.cls := findClass_of_methodNamed B.named
  have hlocks := B.notSynchronized
  have htab : c.exceptionTable.toList = tableOf [(0, 10, 13, 13)] := vx_table (x := yL_select) B (hts _ List.mem_cons_self)
  subst hsz
  have hD := hD0.self (sz := s.heap.size)
  generalize hAe : va_A [(q, .inr (6, [.ref s0, .ref s1, .ref s2])), (s2, .inr (3, [.ref tq, .ref rq, .ref uq])), (tq, .inr (4, [.ref ca, .long sm, .int (oI lo)])), (ca, .inl (cJ, 64, .inr (.inl fc))), (rq, .inr (5, [.ref rb])), (rb, .inr (0, [.ref rd])), (rd, .inl (cJ, 128, .inr (.inl ft))), (uq, .inr (1, [.ref bm, .ref bs])), (bm, .inr (0, [.ref am])), (am, .inl (cJ, 64, .inr (.inl fm))), (bs, .inr (0, [.ref ap])), (ap, .inl (cJ, 64, .inr (.inl fs)))] s.heap.size = A at hD ⊢
  have hA : ∀ q : Nat, s.heap.size ≤ q → A q := fun q h => by rw [← hAe]; exact Or.inr h
  have hS : va_S A s.heap s.heap [] := va_S.rf
  have hP : va_P (dC, dI) vwCl [(q, .inr (6, [.ref s0, .ref s1, .ref s2])), (s2, .inr (3, [.ref tq, .ref rq, .ref uq])), (tq, .inr (4, [.ref ca, .long sm, .int (oI lo)])), (ca, .inl (cJ, 64, .inr (.inl fc))), (rq, .inr (5, [.ref rb])), (rb, .inr (0, [.ref rd])), (rd, .inl (cJ, 128, .inr (.inl ft))), (uq, .inr (1, [.ref bm, .ref bs])), (bm, .inr (0, [.ref am])), (am, .inl (cJ, 64, .inr (.inl fm))), (bs, .inr (0, [.ref ap])), (ap, .inl (cJ, 64, .inr (.inl fs)))] s.heap := hP
  have hl := lv_entry ([.ref q, .int (nI 2), .int w, .ref oq]) (n := 5) (Nat.le_of_ble_eq_true rfl)
  rw [lg_entry_eq]
  generalize (lg_sl ([.ref q, .int (nI 2), .int w, .ref oq]) ++ List.replicate (5 - (lg_sl ([.ref q, .int (nI 2), .int w, .ref oq])).length) Slot.unset).toArray = ls at hl ⊢
  have hl : lv_has ls 5 [(0, .ref q), (1, .int (nI 2)), (2, .int w), (3, .ref oq)] := hl
  refine lv_aload_n hx hb dL_select_0 rfl (lv_at hl 3 rfl) ?_
  refine lv_iconst (v := nI 0) hx hb dL_select_1 (by decide +kernel) ?_
  refine lv_aload_n hx hb dL_select_2 rfl (lv_at hl 0 rfl) ?_
  refine lv_iload_n hx hb dL_select_3 rfl (lv_at hl 1 rfl) ?_
  refine lv_iload_n hx hb dL_select_4 rfl (lv_at hl 2 rfl) ?_
  have hPc := hP.sub (ws' := [(q, .inr (6, [.ref s0, .ref s1, .ref s2])), (s2, .inr (3, [.ref tq, .ref rq, .ref uq])), (tq, .inr (4, [.ref ca, .long sm, .int (oI lo)])), (ca, .inl (cJ, 64, .inr (.inl fc))), (rq, .inr (5, [.ref rb])), (rb, .inr (0, [.ref rd])), (rd, .inl (cJ, 128, .inr (.inl ft))), (uq, .inr (1, [.ref bm, .ref bs])), (bm, .inr (0, [.ref am])), (am, .inl (cJ, 64, .inr (.inl fm))), (bs, .inr (0, [.ref ap])), (ap, .inl (cJ, 64, .inr (.inl fs)))]) [0, 1, 2, 3, 4, 5, 6, 7, 8, 9, 10, 11] rfl
  have hKc := hK.sub (tys' := [(cJ, .long)]) [0] rfl
  have hDc := hD.sub (ws' := [(q, .inr (6, [.ref s0, .ref s1, .ref s2])), (s2, .inr (3, [.ref tq, .ref rq, .ref uq])), (tq, .inr (4, [.ref ca, .long sm, .int (oI lo)])), (ca, .inl (cJ, 64, .inr (.inl fc))), (rq, .inr (5, [.ref rb])), (rb, .inr (0, [.ref rd])), (rd, .inl (cJ, 128, .inr (.inl ft))), (uq, .inr (1, [.ref bm, .ref bs])), (bm, .inr (0, [.ref am])), (am, .inl (cJ, 64, .inr (.inl fm))), (bs, .inr (0, [.ref ap])), (ap, .inl (cJ, 64, .inr (.inl fs)))]) [0, 1, 2, 3, 4, 5, 6, 7, 8, 9, 10, 11] (by decide) rfl
  refine vx_callv (vx_runV (As := [.int (nI 2), .int w]) (rest := [.int (nI 0), .ref oq]) ⟨hx, hb, hml, hown, hts⟩ (x_X7_select_p2 l hls dC dI q s0 s1 s2 tq ca rq rb rd uq bm am bs ap cJ fm fs ft fc sm lo w sa s.heap.size (by first | assumption | omega) (by first | assumption | omega)) (cwV 2 hts gL_select_X7_select rfl rfl rfl (by decide +kernel) ⟨Nat.le_of_ble_eq_true rfl, Nat.le_of_ble_eq_true rfl⟩) ⟨fun a U g mk q => by obtain ⟨q0, nq0, q1, qT, qP, qK, qD⟩ := q; exact ⟨q0, va_Nw.same rfl (U := U.calling g mk a) rfl nq0, q1, TW.same (u := U) (U := U.calling g mk a) rfl qT, qP, va_K.moved (u := U) (U := U.calling g mk a) (Vm.Alike.refl U.vm) qK, qD⟩, va_recv hKc hPc (ci := 6) (q0 := 0) rfl rfl, fun U hU hW => ⟨rfl, va_Nw.warmF hW nw0, by rw [hU], by rw [hU]; exact TW.warm hW hT, by rw [hU]; exact hPc, va_K.moved hW.alike hKc, hDc.weaken (fun _ _ _ _ => trivial)⟩⟩ rfl rfl hl.1 rfl (lv_room (Nat.le_of_ble_eq_true rfl)) dL_select_5 ⟨Nat.le_of_ble_eq_true rfl, Nat.le_of_ble_eq_true rfl⟩) hS (fun q h9 h8 => absurd h8 (Nat.not_le_of_lt h9)) (fun q h8 => hA q (Nat.le_trans hS.1 h8)) (fun q h9 h8 => absurd h8 (Nat.not_le_of_lt h9)) (fun E9 ce9 q9 u9 t9 H locs ht9 hvm9 hu9 hE9 hz9 hk9 hS hce9 hcv9 hcl9 => ?_) (fun u9 t9 H9 l9 ht9 hvm9 hu9 hB9 hz9 hk9 hS9 => hu9.elim)
  subst hE9
  have hP := hP.kept (H1 := H) (fun k q hk => hk9 _ (vx_lt hP hk) (Nat.not_le_of_lt (vx_lt hP hk)))
  refine vx_catch (name := "java/lang/IndexOutOfBoundsException") hown [] ⟨0, 10, 13, 13⟩ [] (htab.trans rfl) (fun z hz => nomatch hz) rfl (by decide) (hts (.classLink RL 13 "java/lang/IndexOutOfBoundsException") (by decide +kernel)) (va_Nw.use rfl hT.2.2.2.2.2.2) hce9 hcv9 hcl9 ?_
  refine W.cs (cells' := 1) (slots' := 6) rfl rfl ?_
  refine lv_astore (lv' := [(4, .ref q9), (0, .ref q), (1, .int (nI 2)), (2, .int w), (3, .ref oq)]) hx hb dL_select_13 hl (by decide) rfl (fun ls hl => ?_)
  refine lv_iconst (v := nI 1) hx hb dL_select_15 (by decide +kernel) ?_
  have hP9 := hP.sub (ws' := [(q, .inr (6, [.ref s0, .ref s1, .ref s2])), (s2, .inr (3, [.ref tq, .ref rq, .ref uq])), (tq, .inr (4, [.ref ca, .long sm, .int (oI lo)])), (ca, .inl (cJ, 64, .inr (.inl fc))), (rq, .inr (5, [.ref rb])), (rb, .inr (0, [.ref rd])), (rd, .inl (cJ, 128, .inr (.inl ft))), (uq, .inr (1, [.ref bm, .ref bs])), (bm, .inr (0, [.ref am])), (am, .inl (cJ, 64, .inr (.inl fm))), (bs, .inr (0, [.ref ap])), (ap, .inl (cJ, 64, .inr (.inl fs)))]) [0, 1, 2, 3, 4, 5, 6, 7, 8, 9, 10, 11] rfl
  have hD9 := hD.sub (ws' := [(q, .inr (6, [.ref s0, .ref s1, .ref s2])), (s2, .inr (3, [.ref tq, .ref rq, .ref uq])), (tq, .inr (4, [.ref ca, .long sm, .int (oI lo)])), (ca, .inl (cJ, 64, .inr (.inl fc))), (rq, .inr (5, [.ref rb])), (rb, .inr (0, [.ref rd])), (rd, .inl (cJ, 128, .inr (.inl ft))), (uq, .inr (1, [.ref bm, .ref bs])), (bm, .inr (0, [.ref am])), (am, .inl (cJ, 64, .inr (.inl fm))), (bs, .inr (0, [.ref ap])), (ap, .inl (cJ, 64, .inr (.inl fs)))]) [0, 1, 2, 3, 4, 5, 6, 7, 8, 9, 10, 11] (by decide) rfl
  have hK9 := hK.sub (tys' := [(cJ, .long)]) [0] rfl
  exact W.iret (v := nI 1) hx hb hr (fun t9 ht hW => ⟨⟨nI 1, (), rfl, rfl, by rw [ht]; exact hP9, va_K.moved hW.alike hK9, hD9⟩, hS.F ht⟩) hS.2.2 dL_select_16
set_option maxHeartbeats 4000000 in
set_option maxRecDepth 100000 in
/-- law: separator, separator_p2 -/
theorem c_L_separator_p2 (l : Launch) (hls : l.stackTraces = false) (dC : Nat → ClassId) (dI : Nat → Nat → Nat) (q : Nat) (s0 : Nat) (s1 : Nat) (s2 : Nat) (tq : Nat) (ca : Nat) (rq : Nat) (rb : Nat) (rd : Nat) (uq : Nat) (bm : Nat) (am : Nat) (bs : Nat) (ap : Nat) (cJ : ClassId) (fm : Nat → Int64) (fs : Nat → Int64) (ft : Nat → Int64) (fc : Nat → Int64) (sm : Int64) (lo : Option Nat) (w : Int32) (oq : Nat) (sa : Nat) (sz : Nat) (hN : NI fm fs ft fc sm lo) (hW : pl w (fb_ct (bo fs) 4096) = false) : Met l yL_separator wsL_separator ({ frames := 8, cells := 1, slots := 6, locals := 126 }) (va_Pc [.ref q, .int (nI 2), .int w, .ref oq] (fun U => va_Nw (.fieldLinkNest RX7 38 "SmallNumberSets$NumberSet" "buckets" "LSmallNumberSets$Buckets;" "SmallNumberSets") U ∧ TW "java/lang/IndexOutOfBoundsException" 165 "no such cluster, level, place or bucket" sa (fun q => sz ≤ q) U U.heap ∧ U.heap.size = sz ∧ va_P (dC, dI) vwCl [(q, .inr (6, [.ref s0, .ref s1, .ref s2])), (s2, .inr (3, [.ref tq, .ref rq, .ref uq])), (tq, .inr (4, [.ref ca, .long sm, .int (oI lo)])), (ca, .inl (cJ, 64, .inr (.inl fc))), (rq, .inr (5, [.ref rb])), (rb, .inr (0, [.ref rd])), (rd, .inl (cJ, 128, .inr (.inl ft))), (uq, .inr (1, [.ref bm, .ref bs])), (bm, .inr (0, [.ref am])), (am, .inl (cJ, 64, .inr (.inl fm))), (bs, .inr (0, [.ref ap])), (ap, .inl (cJ, 64, .inr (.inl fs)))] U.heap ∧ va_K (dC, dI) vwCl [(cJ, .long)] U ∧ va_D (fun _ => True) [(q, .inr (6, [.ref s0, .ref s1, .ref s2])), (s2, .inr (3, [.ref tq, .ref rq, .ref uq])), (tq, .inr (4, [.ref ca, .long sm, .int (oI lo)])), (ca, .inl (cJ, 64, .inr (.inl fc))), (rq, .inr (5, [.ref rb])), (rb, .inr (0, [.ref rd])), (rd, .inl (cJ, 128, .inr (.inl ft))), (uq, .inr (1, [.ref bm, .ref bs])), (bm, .inr (0, [.ref am])), (am, .inl (cJ, 64, .inr (.inl fm))), (bs, .inr (0, [.ref ap])), (ap, .inl (cJ, 64, .inr (.inl fs)))])) (va_Qi (fun (r : Int32) (u : Unit) => r = nI 1) (fun (u : Unit) (t : State) => va_P (dC, dI) vwCl [(q, .inr (6, [.ref s0, .ref s1, .ref s2])), (s2, .inr (3, [.ref tq, .ref rq, .ref uq])), (tq, .inr (4, [.ref ca, .long sm, .int (oI lo)])), (ca, .inl (cJ, 64, .inr (.inl fc))), (rq, .inr (5, [.ref rb])), (rb, .inr (0, [.ref rd])), (rd, .inl (cJ, 128, .inr (.inl ft))), (uq, .inr (1, [.ref bm, .ref bs])), (bm, .inr (0, [.ref am])), (am, .inl (cJ, 64, .inr (.inl fm))), (bs, .inr (0, [.ref ap])), (ap, .inl (cJ, 64, .inr (.inl fs)))] t.heap ∧ va_K (dC, dI) vwCl [(cJ, .long)] t ∧ va_D (va_A [(q, .inr (6, [.ref s0, .ref s1, .ref s2])), (s2, .inr (3, [.ref tq, .ref rq, .ref uq])), (tq, .inr (4, [.ref ca, .long sm, .int (oI lo)])), (ca, .inl (cJ, 64, .inr (.inl fc))), (rq, .inr (5, [.ref rb])), (rb, .inr (0, [.ref rd])), (rd, .inl (cJ, 128, .inr (.inl ft))), (uq, .inr (1, [.ref bm, .ref bs])), (bm, .inr (0, [.ref am])), (am, .inl (cJ, 64, .inr (.inl fm))), (bs, .inr (0, [.ref ap])), (ap, .inl (cJ, 64, .inr (.inl fs)))] sz) [(q, .inr (6, [.ref s0, .ref s1, .ref s2])), (s2, .inr (3, [.ref tq, .ref rq, .ref uq])), (tq, .inr (4, [.ref ca, .long sm, .int (oI lo)])), (ca, .inl (cJ, 64, .inr (.inl fc))), (rq, .inr (5, [.ref rb])), (rb, .inr (0, [.ref rd])), (rd, .inl (cJ, 128, .inr (.inl ft))), (uq, .inr (1, [.ref bm, .ref bs])), (bm, .inr (0, [.ref am])), (am, .inl (cJ, 64, .inr (.inl fm))), (bs, .inr (0, [.ref ap])), (ap, .inl (cJ, 64, .inr (.inl fs)))]) (va_A [(q, .inr (6, [.ref s0, .ref s1, .ref s2])), (s2, .inr (3, [.ref tq, .ref rq, .ref uq])), (tq, .inr (4, [.ref ca, .long sm, .int (oI lo)])), (ca, .inl (cJ, 64, .inr (.inl fc))), (rq, .inr (5, [.ref rb])), (rb, .inr (0, [.ref rd])), (rd, .inl (cJ, 128, .inr (.inl ft))), (uq, .inr (1, [.ref bm, .ref bs])), (bm, .inr (0, [.ref am])), (am, .inl (cJ, 64, .inr (.inl fm))), (bs, .inr (0, [.ref ap])), (ap, .inl (cJ, 64, .inr (.inl fs)))] sz)) 1 6 (va_A [(q, .inr (6, [.ref s0, .ref s1, .ref s2])), (s2, .inr (3, [.ref tq, .ref rq, .ref uq])), (tq, .inr (4, [.ref ca, .long sm, .int (oI lo)])), (ca, .inl (cJ, 64, .inr (.inl fc))), (rq, .inr (5, [.ref rb])), (rb, .inr (0, [.ref rd])), (rd, .inl (cJ, 128, .inr (.inl ft))), (uq, .inr (1, [.ref bm, .ref bs])), (bm, .inr (0, [.ref am])), (am, .inl (cJ, 64, .inr (.inl fm))), (bs, .inr (0, [.ref ap])), (ap, .inl (cJ, 64, .inr (.inl fs)))] sz) := by
  refine va_MetW (cc := cL_separator) (maxL := 5) (ret := (some .int)) (hh := [(0, 10, 13, 13)]) (by decide) rfl ?_
  intro p e s m args below meth c s₁ B hml hv
  obtain ⟨rfl, nw0, hT, hsz, hP, hK, hD0⟩ := hv
  have hx := B.exec
  have hb := B.bytes
  have hr := B.returns
  have hts := atoms_spec (ws := wsL_separator) B.pre
  have hown : s.vm.findClass RL = some m.cls := findClass_of_methodNamed B.named
  have hlocks := B.notSynchronized
  have htab : c.exceptionTable.toList = tableOf [(0, 10, 13, 13)] := vx_table (x := yL_separator) B (hts _ List.mem_cons_self)
  subst hsz
  have hD := hD0.self (sz := s.heap.size)
  generalize hAe : va_A [(q, .inr (6, [.ref s0, .ref s1, .ref s2])), (s2, .inr (3, [.ref tq, .ref rq, .ref uq])), (tq, .inr (4, [.ref ca, .long sm, .int (oI lo)])), (ca, .inl (cJ, 64, .inr (.inl fc))), (rq, .inr (5, [.ref rb])), (rb, .inr (0, [.ref rd])), (rd, .inl (cJ, 128, .inr (.inl ft))), (uq, .inr (1, [.ref bm, .ref bs])), (bm, .inr (0, [.ref am])), (am, .inl (cJ, 64, .inr (.inl fm))), (bs, .inr (0, [.ref ap])), (ap, .inl (cJ, 64, .inr (.inl fs)))] s.heap.size = A at hD ⊢
  have hA : ∀ q : Nat, s.heap.size ≤ q → A q := fun q h => by rw [← hAe]; exact Or.inr h
  have hS : va_S A s.heap s.heap [] := va_S.rf
  have hP : va_P (dC, dI) vwCl [(q, .inr (6, [.ref s0, .ref s1, .ref s2])), (s2, .inr (3, [.ref tq, .ref rq, .ref uq])), (tq, .inr (4, [.ref ca, .long sm, .int (oI lo)])), (ca, .inl (cJ, 64, .inr (.inl fc))), (rq, .inr (5, [.ref rb])), (rb, .inr (0, [.ref rd])), (rd, .inl (cJ, 128, .inr (.inl ft))), (uq, .inr (1, [.ref bm, .ref bs])), (bm, .inr (0, [.ref am])), (am, .inl (cJ, 64, .inr (.inl fm))), (bs, .inr (0, [.ref ap])), (ap, .inl (cJ, 64, .inr (.inl fs)))] s.heap := hP
  have hl := lv_entry ([.ref q, .int (nI 2), .int w, .ref oq]) (n := 5) (Nat.le_of_ble_eq_true rfl)
  rw [lg_entry_eq]
  generalize (lg_sl ([.ref q, .int (nI 2), .int w, .ref oq]) ++ List.replicate (5 - (lg_sl ([.ref q, .int (nI 2), .int w, .ref oq])).length) Slot.unset).toArray = ls at hl ⊢
  have hl : lv_has ls 5 [(0, .ref q), (1, .int (nI 2)), (2, .int w), (3, .ref oq)] := hl
  refine lv_aload_n hx hb dL_separator_0 rfl (lv_at hl 3 rfl) ?_
  refine lv_iconst (v := nI 0) hx hb dL_separator_1 (by decide +kernel) ?_
  refine lv_aload_n hx hb dL_separator_2 rfl (lv_at hl 0 rfl) ?_
  refine lv_iload_n hx hb dL_separator_3 rfl (lv_at hl 1 rfl) ?_
  refine lv_iload_n hx hb dL_separator_4 rfl (lv_at hl 2 rfl) ?_
  have hPc := hP.sub (ws' := [(q, .inr (6, [.ref s0, .ref s1, .ref s2])), (s2, .inr (3, [.ref tq, .ref rq, .ref uq])), (tq, .inr (4, [.ref ca, .long sm, .int (oI lo)])), (ca, .inl (cJ, 64, .inr (.inl fc))), (rq, .inr (5, [.ref rb])), (rb, .inr (0, [.ref rd])), (rd, .inl (cJ, 128, .inr (.inl ft))), (uq, .inr (1, [.ref bm, .ref bs])), (bm, .inr (0, [.ref am])), (am, .inl (cJ, 64, .inr (.inl fm))), (bs, .inr (0, [.ref ap])), (ap, .inl (cJ, 64, .inr (.inl fs)))]) [0, 1, 2, 3, 4, 5, 6, 7, 8, 9, 10, 11] rfl
  have hKc := hK.sub (tys' := [(cJ, .long)]) [0] rfl
  have hDc := hD.sub (ws' := [(q, .inr (6, [.ref s0, .ref s1, .ref s2])), (s2, .inr (3, [.ref tq, .ref rq, .ref uq])), (tq, .inr (4, [.ref ca, .long sm, .int (oI lo)])), (ca, .inl (cJ, 64, .inr (.inl fc))), (rq, .inr (5, [.ref rb])), (rb, .inr (0, [.ref rd])), (rd, .inl (cJ, 128, .inr (.inl ft))), (uq, .inr (1, [.ref bm, .ref bs])), (bm, .inr (0, [.ref am])), (am, .inl (cJ, 64, .inr (.inl fm))), (bs, .inr (0, [.ref ap])), (ap, .inl (cJ, 64, .inr (.inl fs)))]) [0, 1, 2, 3, 4, 5, 6, 7, 8, 9, 10, 11] (by decide) rfl
  refine vx_callv (vx_runV (As := [.int (nI 2), .int w]) (rest := [.int (nI 0), .ref oq]) ⟨hx, hb, hml, hown, hts⟩ (x_X7_separator_p2 l hls dC dI q s0 s1 s2 tq ca rq rb rd uq bm am bs ap cJ fm fs ft fc sm lo w sa s.heap.size (by first | assumption | omega) (by first | assumption | omega)) (cwV 2 hts gL_separator_X7_separator rfl rfl rfl (by decide +kernel) ⟨Nat.le_of_ble_eq_true rfl, Nat.le_of_ble_eq_true rfl⟩) ⟨fun a U g mk q => by obtain ⟨q0, nq0, q1, qT, qP, qK, qD⟩ := q; exact ⟨q0, va_Nw.same rfl (U := U.calling g mk a) rfl nq0, q1, TW.same (u := U) (U := U.calling g mk a) rfl qT, qP, va_K.moved (u := U) (U := U.calling g mk a) (Vm.Alike.refl U.vm) qK, qD⟩, va_recv hKc hPc (ci := 6) (q0 := 0) rfl rfl, fun U hU hW => ⟨rfl, va_Nw.warmF hW nw0, by rw [hU], by rw [hU]; exact TW.warm hW hT, by rw [hU]; exact hPc, va_K.moved hW.alike hKc, hDc.weaken (fun _ _ _ _ => trivial)⟩⟩ rfl rfl hl.1 rfl (lv_room (Nat.le_of_ble_eq_true rfl)) dL_separator_5 ⟨Nat.le_of_ble_eq_true rfl, Nat.le_of_ble_eq_true rfl⟩) hS (fun q h9 h8 => absurd h8 (Nat.not_le_of_lt h9)) (fun q h8 => hA q (Nat.le_trans hS.1 h8)) (fun q h9 h8 => absurd h8 (Nat.not_le_of_lt h9)) (fun E9 ce9 q9 u9 t9 H locs ht9 hvm9 hu9 hE9 hz9 hk9 hS hce9 hcv9 hcl9 => ?_) (fun u9 t9 H9 l9 ht9 hvm9 hu9 hB9 hz9 hk9 hS9 => hu9.elim)
  subst hE9
  have hP := hP.kept (H1 := H) (fun k q hk => hk9 _ (vx_lt hP hk) (Nat.not_le_of_lt (vx_lt hP hk)))
  refine vx_catch (name := "java/lang/IndexOutOfBoundsException") hown [] ⟨0, 10, 13, 13⟩ [] (htab.trans rfl) (fun z hz => nomatch hz) rfl (by decide) (hts (.classLink RL 13 "java/lang/IndexOutOfBoundsException") (by decide +kernel)) (va_Nw.use rfl hT.2.2.2.2.2.2) hce9 hcv9 hcl9 ?_
  refine W.cs (cells' := 1) (slots' := 6) rfl rfl ?_
  refine lv_astore (lv' := [(4, .ref q9), (0, .ref q), (1, .int (nI 2)), (2, .int w), (3, .ref oq)]) hx hb dL_separator_13 hl (by decide) rfl (fun ls hl => ?_)
  refine lv_iconst (v := nI 1) hx hb dL_separator_15 (by decide +kernel) ?_
  have hP9 := hP.sub (ws' := [(q, .inr (6, [.ref s0, .ref s1, .ref s2])), (s2, .inr (3, [.ref tq, .ref rq, .ref uq])), (tq, .inr (4, [.ref ca, .long sm, .int (oI lo)])), (ca, .inl (cJ, 64, .inr (.inl fc))), (rq, .inr (5, [.ref rb])), (rb, .inr (0, [.ref rd])), (rd, .inl (cJ, 128, .inr (.inl ft))), (uq, .inr (1, [.ref bm, .ref bs])), (bm, .inr (0, [.ref am])), (am, .inl (cJ, 64, .inr (.inl fm))), (bs, .inr (0, [.ref ap])), (ap, .inl (cJ, 64, .inr (.inl fs)))]) [0, 1, 2, 3, 4, 5, 6, 7, 8, 9, 10, 11] rfl
  have hD9 := hD.sub (ws' := [(q, .inr (6, [.ref s0, .ref s1, .ref s2])), (s2, .inr (3, [.ref tq, .ref rq, .ref uq])), (tq, .inr (4, [.ref ca, .long sm, .int (oI lo)])), (ca, .inl (cJ, 64, .inr (.inl fc))), (rq, .inr (5, [.ref rb])), (rb, .inr (0, [.ref rd])), (rd, .inl (cJ, 128, .inr (.inl ft))), (uq, .inr (1, [.ref bm, .ref bs])), (bm, .inr (0, [.ref am])), (am, .inl (cJ, 64, .inr (.inl fm))), (bs, .inr (0, [.ref ap])), (ap, .inl (cJ, 64, .inr (.inl fs)))]) [0, 1, 2, 3, 4, 5, 6, 7, 8, 9, 10, 11] (by decide) rfl
  have hK9 := hK.sub (tys' := [(cJ, .long)]) [0] rfl
  exact W.iret (v := nI 1) hx hb hr (fun t9 ht hW => ⟨⟨nI 1, (), rfl, rfl, by rw [ht]; exact hP9, va_K.moved hW.alike hK9, hD9⟩, hS.F ht⟩) hS.2.2 dL_separator_16
set_option maxHeartbeats 4000000 in
set_option maxRecDepth 100000 in
/-- law: bucketSize, bucketSize_p2 -/
theorem c_L_bucketSize_p2 (l : Launch) (hls : l.stackTraces = false) (dC : Nat → ClassId) (dI : Nat → Nat → Nat) (q : Nat) (s0 : Nat) (s1 : Nat) (s2 : Nat) (tq : Nat) (ca : Nat) (rq : Nat) (rb : Nat) (rd : Nat) (uq : Nat) (bm : Nat) (am : Nat) (bs : Nat) (ap : Nat) (cJ : ClassId) (fm : Nat → Int64) (fs : Nat → Int64) (ft : Nat → Int64) (fc : Nat → Int64) (sm : Int64) (lo : Option Nat) (w : Int32) (oq : Nat) (sa : Nat) (sz : Nat) (hN : NI fm fs ft fc sm lo) (hW : pl w (fb_ct (bo fs) 4096) = false) : Met l yL_bucketSize wsL_bucketSize ({ frames := 8, cells := 1, slots := 6, locals := 126 }) (va_Pc [.ref q, .int (nI 2), .int w, .ref oq] (fun U => va_Nw (.fieldLinkNest RX7 38 "SmallNumberSets$NumberSet" "buckets" "LSmallNumberSets$Buckets;" "SmallNumberSets") U ∧ TW "java/lang/IndexOutOfBoundsException" 165 "no such cluster, level, place or bucket" sa (fun q => sz ≤ q) U U.heap ∧ U.heap.size = sz ∧ va_P (dC, dI) vwCl [(q, .inr (6, [.ref s0, .ref s1, .ref s2])), (s2, .inr (3, [.ref tq, .ref rq, .ref uq])), (tq, .inr (4, [.ref ca, .long sm, .int (oI lo)])), (ca, .inl (cJ, 64, .inr (.inl fc))), (rq, .inr (5, [.ref rb])), (rb, .inr (0, [.ref rd])), (rd, .inl (cJ, 128, .inr (.inl ft))), (uq, .inr (1, [.ref bm, .ref bs])), (bm, .inr (0, [.ref am])), (am, .inl (cJ, 64, .inr (.inl fm))), (bs, .inr (0, [.ref ap])), (ap, .inl (cJ, 64, .inr (.inl fs)))] U.heap ∧ va_K (dC, dI) vwCl [(cJ, .long)] U ∧ va_D (fun _ => True) [(q, .inr (6, [.ref s0, .ref s1, .ref s2])), (s2, .inr (3, [.ref tq, .ref rq, .ref uq])), (tq, .inr (4, [.ref ca, .long sm, .int (oI lo)])), (ca, .inl (cJ, 64, .inr (.inl fc))), (rq, .inr (5, [.ref rb])), (rb, .inr (0, [.ref rd])), (rd, .inl (cJ, 128, .inr (.inl ft))), (uq, .inr (1, [.ref bm, .ref bs])), (bm, .inr (0, [.ref am])), (am, .inl (cJ, 64, .inr (.inl fm))), (bs, .inr (0, [.ref ap])), (ap, .inl (cJ, 64, .inr (.inl fs)))])) (va_Qi (fun (r : Int32) (u : Unit) => r = nI 1) (fun (u : Unit) (t : State) => va_P (dC, dI) vwCl [(q, .inr (6, [.ref s0, .ref s1, .ref s2])), (s2, .inr (3, [.ref tq, .ref rq, .ref uq])), (tq, .inr (4, [.ref ca, .long sm, .int (oI lo)])), (ca, .inl (cJ, 64, .inr (.inl fc))), (rq, .inr (5, [.ref rb])), (rb, .inr (0, [.ref rd])), (rd, .inl (cJ, 128, .inr (.inl ft))), (uq, .inr (1, [.ref bm, .ref bs])), (bm, .inr (0, [.ref am])), (am, .inl (cJ, 64, .inr (.inl fm))), (bs, .inr (0, [.ref ap])), (ap, .inl (cJ, 64, .inr (.inl fs)))] t.heap ∧ va_K (dC, dI) vwCl [(cJ, .long)] t ∧ va_D (va_A [(q, .inr (6, [.ref s0, .ref s1, .ref s2])), (s2, .inr (3, [.ref tq, .ref rq, .ref uq])), (tq, .inr (4, [.ref ca, .long sm, .int (oI lo)])), (ca, .inl (cJ, 64, .inr (.inl fc))), (rq, .inr (5, [.ref rb])), (rb, .inr (0, [.ref rd])), (rd, .inl (cJ, 128, .inr (.inl ft))), (uq, .inr (1, [.ref bm, .ref bs])), (bm, .inr (0, [.ref am])), (am, .inl (cJ, 64, .inr (.inl fm))), (bs, .inr (0, [.ref ap])), (ap, .inl (cJ, 64, .inr (.inl fs)))] sz) [(q, .inr (6, [.ref s0, .ref s1, .ref s2])), (s2, .inr (3, [.ref tq, .ref rq, .ref uq])), (tq, .inr (4, [.ref ca, .long sm, .int (oI lo)])), (ca, .inl (cJ, 64, .inr (.inl fc))), (rq, .inr (5, [.ref rb])), (rb, .inr (0, [.ref rd])), (rd, .inl (cJ, 128, .inr (.inl ft))), (uq, .inr (1, [.ref bm, .ref bs])), (bm, .inr (0, [.ref am])), (am, .inl (cJ, 64, .inr (.inl fm))), (bs, .inr (0, [.ref ap])), (ap, .inl (cJ, 64, .inr (.inl fs)))]) (va_A [(q, .inr (6, [.ref s0, .ref s1, .ref s2])), (s2, .inr (3, [.ref tq, .ref rq, .ref uq])), (tq, .inr (4, [.ref ca, .long sm, .int (oI lo)])), (ca, .inl (cJ, 64, .inr (.inl fc))), (rq, .inr (5, [.ref rb])), (rb, .inr (0, [.ref rd])), (rd, .inl (cJ, 128, .inr (.inl ft))), (uq, .inr (1, [.ref bm, .ref bs])), (bm, .inr (0, [.ref am])), (am, .inl (cJ, 64, .inr (.inl fm))), (bs, .inr (0, [.ref ap])), (ap, .inl (cJ, 64, .inr (.inl fs)))] sz)) 1 6 (va_A [(q, .inr (6, [.ref s0, .ref s1, .ref s2])), (s2, .inr (3, [.ref tq, .ref rq, .ref uq])), (tq, .inr (4, [.ref ca, .long sm, .int (oI lo)])), (ca, .inl (cJ, 64, .inr (.inl fc))), (rq, .inr (5, [.ref rb])), (rb, .inr (0, [.ref rd])), (rd, .inl (cJ, 128, .inr (.inl ft))), (uq, .inr (1, [.ref bm, .ref bs])), (bm, .inr (0, [.ref am])), (am, .inl (cJ, 64, .inr (.inl fm))), (bs, .inr (0, [.ref ap])), (ap, .inl (cJ, 64, .inr (.inl fs)))] sz) := by
  refine va_MetW (cc := cL_bucketSize) (maxL := 5) (ret := (some .int)) (hh := [(0, 10, 13, 13)]) (by decide) rfl ?_
  intro p e s m args below meth c s₁ B hml hv
  obtain ⟨rfl, nw0, hT, hsz, hP, hK, hD0⟩ := hv
  have hx := B.exec
  have hb := B.bytes
  have hr := B.returns
  have hts := atoms_spec (ws := wsL_bucketSize) B.pre
  have hown : s.vm.findClass RL = some m.cls := findClass_of_methodNamed B.named
  have hlocks := B.notSynchronized
  have htab : c.exceptionTable.toList = tableOf [(0, 10, 13, 13)] := vx_table (x := yL_bucketSize) B (hts _ List.mem_cons_self)
  subst hsz
  have hD := hD0.self (sz := s.heap.size)
  generalize hAe : va_A [(q, .inr (6, [.ref s0, .ref s1, .ref s2])), (s2, .inr (3, [.ref tq, .ref rq, .ref uq])), (tq, .inr (4, [.ref ca, .long sm, .int (oI lo)])), (ca, .inl (cJ, 64, .inr (.inl fc))), (rq, .inr (5, [.ref rb])), (rb, .inr (0, [.ref rd])), (rd, .inl (cJ, 128, .inr (.inl ft))), (uq, .inr (1, [.ref bm, .ref bs])), (bm, .inr (0, [.ref am])), (am, .inl (cJ, 64, .inr (.inl fm))), (bs, .inr (0, [.ref ap])), (ap, .inl (cJ, 64, .inr (.inl fs)))] s.heap.size = A at hD ⊢
  have hA : ∀ q : Nat, s.heap.size ≤ q → A q := fun q h => by rw [← hAe]; exact Or.inr h
  have hS : va_S A s.heap s.heap [] := va_S.rf
  have hP : va_P (dC, dI) vwCl [(q, .inr (6, [.ref s0, .ref s1, .ref s2])), (s2, .inr (3, [.ref tq, .ref rq, .ref uq])), (tq, .inr (4, [.ref ca, .long sm, .int (oI lo)])), (ca, .inl (cJ, 64, .inr (.inl fc))), (rq, .inr (5, [.ref rb])), (rb, .inr (0, [.ref rd])), (rd, .inl (cJ, 128, .inr (.inl ft))), (uq, .inr (1, [.ref bm, .ref bs])), (bm, .inr (0, [.ref am])), (am, .inl (cJ, 64, .inr (.inl fm))), (bs, .inr (0, [.ref ap])), (ap, .inl (cJ, 64, .inr (.inl fs)))] s.heap := hP
  have hl := lv_entry ([.ref q, .int (nI 2), .int w, .ref oq]) (n := 5) (Nat.le_of_ble_eq_true rfl)
  rw [lg_entry_eq]
  generalize (lg_sl ([.ref q, .int (nI 2), .int w, .ref oq]) ++ List.replicate (5 - (lg_sl ([.ref q, .int (nI 2), .int w, .ref oq])).length) Slot.unset).toArray = ls at hl ⊢
  have hl : lv_has ls 5 [(0, .ref q), (1, .int (nI 2)), (2, .int w), (3, .ref oq)] := hl
  refine lv_aload_n hx hb dL_bucketSize_0 rfl (lv_at hl 3 rfl) ?_
  refine lv_iconst (v := nI 0) hx hb dL_bucketSize_1 (by decide +kernel) ?_
  refine lv_aload_n hx hb dL_bucketSize_2 rfl (lv_at hl 0 rfl) ?_
  refine lv_iload_n hx hb dL_bucketSize_3 rfl (lv_at hl 1 rfl) ?_
  refine lv_iload_n hx hb dL_bucketSize_4 rfl (lv_at hl 2 rfl) ?_
  have hPc := hP.sub (ws' := [(q, .inr (6, [.ref s0, .ref s1, .ref s2])), (s2, .inr (3, [.ref tq, .ref rq, .ref uq])), (tq, .inr (4, [.ref ca, .long sm, .int (oI lo)])), (ca, .inl (cJ, 64, .inr (.inl fc))), (rq, .inr (5, [.ref rb])), (rb, .inr (0, [.ref rd])), (rd, .inl (cJ, 128, .inr (.inl ft))), (uq, .inr (1, [.ref bm, .ref bs])), (bm, .inr (0, [.ref am])), (am, .inl (cJ, 64, .inr (.inl fm))), (bs, .inr (0, [.ref ap])), (ap, .inl (cJ, 64, .inr (.inl fs)))]) [0, 1, 2, 3, 4, 5, 6, 7, 8, 9, 10, 11] rfl
  have hKc := hK.sub (tys' := [(cJ, .long)]) [0] rfl
  have hDc := hD.sub (ws' := [(q, .inr (6, [.ref s0, .ref s1, .ref s2])), (s2, .inr (3, [.ref tq, .ref rq, .ref uq])), (tq, .inr (4, [.ref ca, .long sm, .int (oI lo)])), (ca, .inl (cJ, 64, .inr (.inl fc))), (rq, .inr (5, [.ref rb])), (rb, .inr (0, [.ref rd])), (rd, .inl (cJ, 128, .inr (.inl ft))), (uq, .inr (1, [.ref bm, .ref bs])), (bm, .inr (0, [.ref am])), (am, .inl (cJ, 64, .inr (.inl fm))), (bs, .inr (0, [.ref ap])), (ap, .inl (cJ, 64, .inr (.inl fs)))]) [0, 1, 2, 3, 4, 5, 6, 7, 8, 9, 10, 11] (by decide) rfl
  refine vx_callv (vx_runV (As := [.int (nI 2), .int w]) (rest := [.int (nI 0), .ref oq]) ⟨hx, hb, hml, hown, hts⟩ (x_X7_bucketSize_p2 l hls dC dI q s0 s1 s2 tq ca rq rb rd uq bm am bs ap cJ fm fs ft fc sm lo w sa s.heap.size (by first | assumption | omega) (by first | assumption | omega)) (cwV 2 hts gL_bucketSize_X7_bucketSize rfl rfl rfl (by decide +kernel) ⟨Nat.le_of_ble_eq_true rfl, Nat.le_of_ble_eq_true rfl⟩) ⟨fun a U g mk q => by obtain ⟨q0, nq0, q1, qT, qP, qK, qD⟩ := q; exact ⟨q0, va_Nw.same rfl (U := U.calling g mk a) rfl nq0, q1, TW.same (u := U) (U := U.calling g mk a) rfl qT, qP, va_K.moved (u := U) (U := U.calling g mk a) (Vm.Alike.refl U.vm) qK, qD⟩, va_recv hKc hPc (ci := 6) (q0 := 0) rfl rfl, fun U hU hW => ⟨rfl, va_Nw.warmF hW nw0, by rw [hU], by rw [hU]; exact TW.warm hW hT, by rw [hU]; exact hPc, va_K.moved hW.alike hKc, hDc.weaken (fun _ _ _ _ => trivial)⟩⟩ rfl rfl hl.1 rfl (lv_room (Nat.le_of_ble_eq_true rfl)) dL_bucketSize_5 ⟨Nat.le_of_ble_eq_true rfl, Nat.le_of_ble_eq_true rfl⟩) hS (fun q h9 h8 => absurd h8 (Nat.not_le_of_lt h9)) (fun q h8 => hA q (Nat.le_trans hS.1 h8)) (fun q h9 h8 => absurd h8 (Nat.not_le_of_lt h9)) (fun E9 ce9 q9 u9 t9 H locs ht9 hvm9 hu9 hE9 hz9 hk9 hS hce9 hcv9 hcl9 => ?_) (fun u9 t9 H9 l9 ht9 hvm9 hu9 hB9 hz9 hk9 hS9 => hu9.elim)
  subst hE9
  have hP := hP.kept (H1 := H) (fun k q hk => hk9 _ (vx_lt hP hk) (Nat.not_le_of_lt (vx_lt hP hk)))
  refine vx_catch (name := "java/lang/IndexOutOfBoundsException") hown [] ⟨0, 10, 13, 13⟩ [] (htab.trans rfl) (fun z hz => nomatch hz) rfl (by decide) (hts (.classLink RL 13 "java/lang/IndexOutOfBoundsException") (by decide +kernel)) (va_Nw.use rfl hT.2.2.2.2.2.2) hce9 hcv9 hcl9 ?_
  refine W.cs (cells' := 1) (slots' := 6) rfl rfl ?_
  refine lv_astore (lv' := [(4, .ref q9), (0, .ref q), (1, .int (nI 2)), (2, .int w), (3, .ref oq)]) hx hb dL_bucketSize_13 hl (by decide) rfl (fun ls hl => ?_)
  refine lv_iconst (v := nI 1) hx hb dL_bucketSize_15 (by decide +kernel) ?_
  have hP9 := hP.sub (ws' := [(q, .inr (6, [.ref s0, .ref s1, .ref s2])), (s2, .inr (3, [.ref tq, .ref rq, .ref uq])), (tq, .inr (4, [.ref ca, .long sm, .int (oI lo)])), (ca, .inl (cJ, 64, .inr (.inl fc))), (rq, .inr (5, [.ref rb])), (rb, .inr (0, [.ref rd])), (rd, .inl (cJ, 128, .inr (.inl ft))), (uq, .inr (1, [.ref bm, .ref bs])), (bm, .inr (0, [.ref am])), (am, .inl (cJ, 64, .inr (.inl fm))), (bs, .inr (0, [.ref ap])), (ap, .inl (cJ, 64, .inr (.inl fs)))]) [0, 1, 2, 3, 4, 5, 6, 7, 8, 9, 10, 11] rfl
  have hD9 := hD.sub (ws' := [(q, .inr (6, [.ref s0, .ref s1, .ref s2])), (s2, .inr (3, [.ref tq, .ref rq, .ref uq])), (tq, .inr (4, [.ref ca, .long sm, .int (oI lo)])), (ca, .inl (cJ, 64, .inr (.inl fc))), (rq, .inr (5, [.ref rb])), (rb, .inr (0, [.ref rd])), (rd, .inl (cJ, 128, .inr (.inl ft))), (uq, .inr (1, [.ref bm, .ref bs])), (bm, .inr (0, [.ref am])), (am, .inl (cJ, 64, .inr (.inl fm))), (bs, .inr (0, [.ref ap])), (ap, .inl (cJ, 64, .inr (.inl fs)))]) [0, 1, 2, 3, 4, 5, 6, 7, 8, 9, 10, 11] (by decide) rfl
  have hK9 := hK.sub (tys' := [(cJ, .long)]) [0] rfl
  exact W.iret (v := nI 1) hx hb hr (fun t9 ht hW => ⟨⟨nI 1, (), rfl, rfl, by rw [ht]; exact hP9, va_K.moved hW.alike hK9, hD9⟩, hS.F ht⟩) hS.2.2 dL_bucketSize_16
set_option maxHeartbeats 4000000 in
set_option maxRecDepth 100000 in
/-- law: pollFirst, pollFirst_e2 -/
theorem c_L_pollFirst_e2 (l : Launch) (hls : l.stackTraces = false) (dC : Nat → ClassId) (dI : Nat → Nat → Nat) (q : Nat) (s0 : Nat) (s1 : Nat) (s2 : Nat) (tq : Nat) (ca : Nat) (rq : Nat) (rb : Nat) (rd : Nat) (uq : Nat) (bm : Nat) (am : Nat) (bs : Nat) (ap : Nat) (cJ : ClassId) (fm : Nat → Int64) (fs : Nat → Int64) (ft : Nat → Int64) (fc : Nat → Int64) (sm : Int64) (lo : Option Nat) (oq : Nat) (sa : Nat) (sz : Nat) (hN : NI fm fs ft fc sm lo) (hz : fst1 (bo fm) 4096 = none) : Met l yL_pollFirst wsL_pollFirst ({ frames := 8, cells := 1, slots := 6, locals := 125 }) (va_Pc [.ref q, .int (nI 2), .ref oq] (fun U => va_Nw (.fieldLinkNest RX7 62 "SmallNumberSets$NumberSet" "tree" "LSmallNumberSets$Tree;" "SmallNumberSets") U ∧ TW "java/util/NoSuchElementException" 162 "the set is empty" sa (fun q => sz ≤ q) U U.heap ∧ va_Nc "java/util/NoSuchElementException" "java/lang/IndexOutOfBoundsException" U ∧ U.heap.size = sz ∧ va_P (dC, dI) vwCl [(q, .inr (6, [.ref s0, .ref s1, .ref s2])), (s2, .inr (3, [.ref tq, .ref rq, .ref uq])), (tq, .inr (4, [.ref ca, .long sm, .int (oI lo)])), (ca, .inl (cJ, 64, .inr (.inl fc))), (rq, .inr (5, [.ref rb])), (rb, .inr (0, [.ref rd])), (rd, .inl (cJ, 128, .inr (.inl ft))), (uq, .inr (1, [.ref bm, .ref bs])), (bm, .inr (0, [.ref am])), (am, .inl (cJ, 64, .inr (.inl fm))), (bs, .inr (0, [.ref ap])), (ap, .inl (cJ, 64, .inr (.inl fs)))] U.heap ∧ va_K (dC, dI) vwCl [(cJ, .long)] U ∧ va_D (fun _ => True) [(q, .inr (6, [.ref s0, .ref s1, .ref s2])), (s2, .inr (3, [.ref tq, .ref rq, .ref uq])), (tq, .inr (4, [.ref ca, .long sm, .int (oI lo)])), (ca, .inl (cJ, 64, .inr (.inl fc))), (rq, .inr (5, [.ref rb])), (rb, .inr (0, [.ref rd])), (rd, .inl (cJ, 128, .inr (.inl ft))), (uq, .inr (1, [.ref bm, .ref bs])), (bm, .inr (0, [.ref am])), (am, .inl (cJ, 64, .inr (.inl fm))), (bs, .inr (0, [.ref ap])), (ap, .inl (cJ, 64, .inr (.inl fs)))])) (va_Qi (fun (r : Int32) (u : Unit) => r = nI 2) (fun (u : Unit) (t : State) => va_P (dC, dI) vwCl [(q, .inr (6, [.ref s0, .ref s1, .ref s2])), (s2, .inr (3, [.ref tq, .ref rq, .ref uq])), (tq, .inr (4, [.ref ca, .long sm, .int (oI lo)])), (ca, .inl (cJ, 64, .inr (.inl fc))), (rq, .inr (5, [.ref rb])), (rb, .inr (0, [.ref rd])), (rd, .inl (cJ, 128, .inr (.inl ft))), (uq, .inr (1, [.ref bm, .ref bs])), (bm, .inr (0, [.ref am])), (am, .inl (cJ, 64, .inr (.inl fm))), (bs, .inr (0, [.ref ap])), (ap, .inl (cJ, 64, .inr (.inl fs)))] t.heap ∧ va_K (dC, dI) vwCl [(cJ, .long)] t ∧ va_D (va_A [(q, .inr (6, [.ref s0, .ref s1, .ref s2])), (s2, .inr (3, [.ref tq, .ref rq, .ref uq])), (tq, .inr (4, [.ref ca, .long sm, .int (oI lo)])), (ca, .inl (cJ, 64, .inr (.inl fc))), (rq, .inr (5, [.ref rb])), (rb, .inr (0, [.ref rd])), (rd, .inl (cJ, 128, .inr (.inl ft))), (uq, .inr (1, [.ref bm, .ref bs])), (bm, .inr (0, [.ref am])), (am, .inl (cJ, 64, .inr (.inl fm))), (bs, .inr (0, [.ref ap])), (ap, .inl (cJ, 64, .inr (.inl fs)))] sz) [(q, .inr (6, [.ref s0, .ref s1, .ref s2])), (s2, .inr (3, [.ref tq, .ref rq, .ref uq])), (tq, .inr (4, [.ref ca, .long sm, .int (oI lo)])), (ca, .inl (cJ, 64, .inr (.inl fc))), (rq, .inr (5, [.ref rb])), (rb, .inr (0, [.ref rd])), (rd, .inl (cJ, 128, .inr (.inl ft))), (uq, .inr (1, [.ref bm, .ref bs])), (bm, .inr (0, [.ref am])), (am, .inl (cJ, 64, .inr (.inl fm))), (bs, .inr (0, [.ref ap])), (ap, .inl (cJ, 64, .inr (.inl fs)))]) (va_A [(q, .inr (6, [.ref s0, .ref s1, .ref s2])), (s2, .inr (3, [.ref tq, .ref rq, .ref uq])), (tq, .inr (4, [.ref ca, .long sm, .int (oI lo)])), (ca, .inl (cJ, 64, .inr (.inl fc))), (rq, .inr (5, [.ref rb])), (rb, .inr (0, [.ref rd])), (rd, .inl (cJ, 128, .inr (.inl ft))), (uq, .inr (1, [.ref bm, .ref bs])), (bm, .inr (0, [.ref am])), (am, .inl (cJ, 64, .inr (.inl fm))), (bs, .inr (0, [.ref ap])), (ap, .inl (cJ, 64, .inr (.inl fs)))] sz)) 1 6 (va_A [(q, .inr (6, [.ref s0, .ref s1, .ref s2])), (s2, .inr (3, [.ref tq, .ref rq, .ref uq])), (tq, .inr (4, [.ref ca, .long sm, .int (oI lo)])), (ca, .inl (cJ, 64, .inr (.inl fc))), (rq, .inr (5, [.ref rb])), (rb, .inr (0, [.ref rd])), (rd, .inl (cJ, 128, .inr (.inl ft))), (uq, .inr (1, [.ref bm, .ref bs])), (bm, .inr (0, [.ref am])), (am, .inl (cJ, 64, .inr (.inl fm))), (bs, .inr (0, [.ref ap])), (ap, .inl (cJ, 64, .inr (.inl fs)))] sz) := by
  refine va_MetW (cc := cL_pollFirst) (maxL := 4) (ret := (some .int)) (hh := [(0, 9, 12, 13), (0, 9, 15, 34)]) (by decide) rfl ?_
  intro p e s m args below meth c s₁ B hml hv
  obtain ⟨rfl, nw0, hT, hNc0, hsz, hP, hK, hD0⟩ := hv
  have hx := B.exec
  have hb := B.bytes
  have hr := B.returns
  have hts := atoms_spec (ws := wsL_pollFirst) B.pre
  have hown : s.vm.findClass RL = some m.cls := findClass_of_methodNamed B.named
  have hlocks := B.notSynchronized
  have htab : c.exceptionTable.toList = tableOf [(0, 9, 12, 13), (0, 9, 15, 34)] := vx_table (x := yL_pollFirst) B (hts _ List.mem_cons_self)
  subst hsz
  have hD := hD0.self (sz := s.heap.size)
  generalize hAe : va_A [(q, .inr (6, [.ref s0, .ref s1, .ref s2])), (s2, .inr (3, [.ref tq, .ref rq, .ref uq])), (tq, .inr (4, [.ref ca, .long sm, .int (oI lo)])), (ca, .inl (cJ, 64, .inr (.inl fc))), (rq, .inr (5, [.ref rb])), (rb, .inr (0, [.ref rd])), (rd, .inl (cJ, 128, .inr (.inl ft))), (uq, .inr (1, [.ref bm, .ref bs])), (bm, .inr (0, [.ref am])), (am, .inl (cJ, 64, .inr (.inl fm))), (bs, .inr (0, [.ref ap])), (ap, .inl (cJ, 64, .inr (.inl fs)))] s.heap.size = A at hD ⊢
  have hA : ∀ q : Nat, s.heap.size ≤ q → A q := fun q h => by rw [← hAe]; exact Or.inr h
  have hS : va_S A s.heap s.heap [] := va_S.rf
  have hP : va_P (dC, dI) vwCl [(q, .inr (6, [.ref s0, .ref s1, .ref s2])), (s2, .inr (3, [.ref tq, .ref rq, .ref uq])), (tq, .inr (4, [.ref ca, .long sm, .int (oI lo)])), (ca, .inl (cJ, 64, .inr (.inl fc))), (rq, .inr (5, [.ref rb])), (rb, .inr (0, [.ref rd])), (rd, .inl (cJ, 128, .inr (.inl ft))), (uq, .inr (1, [.ref bm, .ref bs])), (bm, .inr (0, [.ref am])), (am, .inl (cJ, 64, .inr (.inl fm))), (bs, .inr (0, [.ref ap])), (ap, .inl (cJ, 64, .inr (.inl fs)))] s.heap := hP
  have hl := lv_entry ([.ref q, .int (nI 2), .ref oq]) (n := 4) (Nat.le_of_ble_eq_true rfl)
  rw [lg_entry_eq]
  generalize (lg_sl ([.ref q, .int (nI 2), .ref oq]) ++ List.replicate (4 - (lg_sl ([.ref q, .int (nI 2), .ref oq])).length) Slot.unset).toArray = ls at hl ⊢
  have hl : lv_has ls 4 [(0, .ref q), (1, .int (nI 2)), (2, .ref oq)] := hl
  refine lv_aload_n hx hb dL_pollFirst_0 rfl (lv_at hl 2 rfl) ?_
  refine lv_iconst (v := nI 0) hx hb dL_pollFirst_1 (by decide +kernel) ?_
  refine lv_aload_n hx hb dL_pollFirst_2 rfl (lv_at hl 0 rfl) ?_
  refine lv_iload_n hx hb dL_pollFirst_3 rfl (lv_at hl 1 rfl) ?_
  have hPc := hP.sub (ws' := [(q, .inr (6, [.ref s0, .ref s1, .ref s2])), (s2, .inr (3, [.ref tq, .ref rq, .ref uq])), (tq, .inr (4, [.ref ca, .long sm, .int (oI lo)])), (ca, .inl (cJ, 64, .inr (.inl fc))), (rq, .inr (5, [.ref rb])), (rb, .inr (0, [.ref rd])), (rd, .inl (cJ, 128, .inr (.inl ft))), (uq, .inr (1, [.ref bm, .ref bs])), (bm, .inr (0, [.ref am])), (am, .inl (cJ, 64, .inr (.inl fm))), (bs, .inr (0, [.ref ap])), (ap, .inl (cJ, 64, .inr (.inl fs)))]) [0, 1, 2, 3, 4, 5, 6, 7, 8, 9, 10, 11] rfl
  have hKc := hK.sub (tys' := [(cJ, .long)]) [0] rfl
  have hDc := hD.sub (ws' := [(q, .inr (6, [.ref s0, .ref s1, .ref s2])), (s2, .inr (3, [.ref tq, .ref rq, .ref uq])), (tq, .inr (4, [.ref ca, .long sm, .int (oI lo)])), (ca, .inl (cJ, 64, .inr (.inl fc))), (rq, .inr (5, [.ref rb])), (rb, .inr (0, [.ref rd])), (rd, .inl (cJ, 128, .inr (.inl ft))), (uq, .inr (1, [.ref bm, .ref bs])), (bm, .inr (0, [.ref am])), (am, .inl (cJ, 64, .inr (.inl fm))), (bs, .inr (0, [.ref ap])), (ap, .inl (cJ, 64, .inr (.inl fs)))]) [0, 1, 2, 3, 4, 5, 6, 7, 8, 9, 10, 11] (by decide) rfl
  refine vx_callv (vx_runV (As := [.int (nI 2)]) (rest := [.int (nI 0), .ref oq]) ⟨hx, hb, hml, hown, hts⟩ (x_X7_pollFirst_e2 l hls dC dI q s0 s1 s2 tq ca rq rb rd uq bm am bs ap cJ fm fs ft fc sm lo sa s.heap.size (by first | assumption | omega) (by first | assumption | omega)) (cwV 1 hts gL_pollFirst_X7_pollFirst rfl rfl rfl (by decide +kernel) ⟨Nat.le_of_ble_eq_true rfl, Nat.le_of_ble_eq_true rfl⟩) ⟨fun a U g mk q => by obtain ⟨q0, nq0, q1, qT, qP, qK, qD⟩ := q; exact ⟨q0, va_Nw.same rfl (U := U.calling g mk a) rfl nq0, q1, TW.same (u := U) (U := U.calling g mk a) rfl qT, qP, va_K.moved (u := U) (U := U.calling g mk a) (Vm.Alike.refl U.vm) qK, qD⟩, va_recv hKc hPc (ci := 6) (q0 := 0) rfl rfl, fun U hU hW => ⟨rfl, va_Nw.warmF hW nw0, by rw [hU], by rw [hU]; exact TW.warm hW hT, by rw [hU]; exact hPc, va_K.moved hW.alike hKc, hDc.weaken (fun _ _ _ _ => trivial)⟩⟩ rfl rfl hl.1 rfl (lv_room (Nat.le_of_ble_eq_true rfl)) dL_pollFirst_4 ⟨Nat.le_of_ble_eq_true rfl, Nat.le_of_ble_eq_true rfl⟩) hS (fun q h9 h8 => absurd h8 (Nat.not_le_of_lt h9)) (fun q h8 => hA q (Nat.le_trans hS.1 h8)) (fun q h9 h8 => absurd h8 (Nat.not_le_of_lt h9)) (fun E9 ce9 q9 u9 t9 H locs ht9 hvm9 hu9 hE9 hz9 hk9 hS hce9 hcv9 hcl9 => ?_) (fun u9 t9 H9 l9 ht9 hvm9 hu9 hB9 hz9 hk9 hS9 => hu9.elim)
  subst hE9
  have hP := hP.kept (H1 := H) (fun k q hk => hk9 _ (vx_lt hP hk) (Nat.not_le_of_lt (vx_lt hP hk)))
  refine vx_catch (name := "java/util/NoSuchElementException") hown [⟨0, 9, 12, 13⟩] ⟨0, 9, 15, 34⟩ [] (htab.trans rfl) (fun z hz => by rcases List.mem_cons.mp hz with rfl | hz; exact Or.inr ⟨by decide, "java/lang/IndexOutOfBoundsException", hts (.classLink RL 13 "java/lang/IndexOutOfBoundsException") (by decide +kernel), hNc0⟩; exact nomatch hz) rfl (by decide) (hts (.classLink RL 34 "java/util/NoSuchElementException") (by decide +kernel)) (va_Nw.use rfl hT.2.2.2.2.2.2) hce9 hcv9 hcl9 ?_
  refine W.cs (cells' := 1) (slots' := 6) rfl rfl ?_
  refine lv_astore_n (lv' := [(3, .ref q9), (0, .ref q), (1, .int (nI 2)), (2, .ref oq)]) hx hb dL_pollFirst_15 rfl hl (by decide) rfl (fun ls hl => ?_)
  refine lv_iconst (v := nI 2) hx hb dL_pollFirst_16 (by decide +kernel) ?_
  have hP9 := hP.sub (ws' := [(q, .inr (6, [.ref s0, .ref s1, .ref s2])), (s2, .inr (3, [.ref tq, .ref rq, .ref uq])), (tq, .inr (4, [.ref ca, .long sm, .int (oI lo)])), (ca, .inl (cJ, 64, .inr (.inl fc))), (rq, .inr (5, [.ref rb])), (rb, .inr (0, [.ref rd])), (rd, .inl (cJ, 128, .inr (.inl ft))), (uq, .inr (1, [.ref bm, .ref bs])), (bm, .inr (0, [.ref am])), (am, .inl (cJ, 64, .inr (.inl fm))), (bs, .inr (0, [.ref ap])), (ap, .inl (cJ, 64, .inr (.inl fs)))]) [0, 1, 2, 3, 4, 5, 6, 7, 8, 9, 10, 11] rfl
  have hD9 := hD.sub (ws' := [(q, .inr (6, [.ref s0, .ref s1, .ref s2])), (s2, .inr (3, [.ref tq, .ref rq, .ref uq])), (tq, .inr (4, [.ref ca, .long sm, .int (oI lo)])), (ca, .inl (cJ, 64, .inr (.inl fc))), (rq, .inr (5, [.ref rb])), (rb, .inr (0, [.ref rd])), (rd, .inl (cJ, 128, .inr (.inl ft))), (uq, .inr (1, [.ref bm, .ref bs])), (bm, .inr (0, [.ref am])), (am, .inl (cJ, 64, .inr (.inl fm))), (bs, .inr (0, [.ref ap])), (ap, .inl (cJ, 64, .inr (.inl fs)))]) [0, 1, 2, 3, 4, 5, 6, 7, 8, 9, 10, 11] (by decide) rfl
  have hK9 := hK.sub (tys' := [(cJ, .long)]) [0] rfl
  exact W.iret (v := nI 2) hx hb hr (fun t9 ht hW => ⟨⟨nI 2, (), rfl, rfl, by rw [ht]; exact hP9, va_K.moved hW.alike hK9, hD9⟩, hS.F ht⟩) hS.2.2 dL_pollFirst_17
set_option maxHeartbeats 4000000 in
set_option maxRecDepth 100000 in
/-- law: pollLast, pollLast_e2 -/
theorem c_L_pollLast_e2 (l : Launch) (hls : l.stackTraces = false) (dC : Nat → ClassId) (dI : Nat → Nat → Nat) (q : Nat) (s0 : Nat) (s1 : Nat) (s2 : Nat) (tq : Nat) (ca : Nat) (rq : Nat) (rb : Nat) (rd : Nat) (uq : Nat) (bm : Nat) (am : Nat) (bs : Nat) (ap : Nat) (cJ : ClassId) (fm : Nat → Int64) (fs : Nat → Int64) (ft : Nat → Int64) (fc : Nat → Int64) (sm : Int64) (lo : Option Nat) (oq : Nat) (sa : Nat) (sz : Nat) (hN : NI fm fs ft fc sm lo) (hz : lst1 (bo fm) 4096 = none) : Met l yL_pollLast wsL_pollLast ({ frames := 8, cells := 1, slots := 6, locals := 125 }) (va_Pc [.ref q, .int (nI 2), .ref oq] (fun U => va_Nw (.fieldLinkNest RX7 62 "SmallNumberSets$NumberSet" "tree" "LSmallNumberSets$Tree;" "SmallNumberSets") U ∧ TW "java/util/NoSuchElementException" 162 "the set is empty" sa (fun q => sz ≤ q) U U.heap ∧ va_Nc "java/util/NoSuchElementException" "java/lang/IndexOutOfBoundsException" U ∧ U.heap.size = sz ∧ va_P (dC, dI) vwCl [(q, .inr (6, [.ref s0, .ref s1, .ref s2])), (s2, .inr (3, [.ref tq, .ref rq, .ref uq])), (tq, .inr (4, [.ref ca, .long sm, .int (oI lo)])), (ca, .inl (cJ, 64, .inr (.inl fc))), (rq, .inr (5, [.ref rb])), (rb, .inr (0, [.ref rd])), (rd, .inl (cJ, 128, .inr (.inl ft))), (uq, .inr (1, [.ref bm, .ref bs])), (bm, .inr (0, [.ref am])), (am, .inl (cJ, 64, .inr (.inl fm))), (bs, .inr (0, [.ref ap])), (ap, .inl (cJ, 64, .inr (.inl fs)))] U.heap ∧ va_K (dC, dI) vwCl [(cJ, .long)] U ∧ va_D (fun _ => True) [(q, .inr (6, [.ref s0, .ref s1, .ref s2])), (s2, .inr (3, [.ref tq, .ref rq, .ref uq])), (tq, .inr (4, [.ref ca, .long sm, .int (oI lo)])), (ca, .inl (cJ, 64, .inr (.inl fc))), (rq, .inr (5, [.ref rb])), (rb, .inr (0, [.ref rd])), (rd, .inl (cJ, 128, .inr (.inl ft))), (uq, .inr (1, [.ref bm, .ref bs])), (bm, .inr (0, [.ref am])), (am, .inl (cJ, 64, .inr (.inl fm))), (bs, .inr (0, [.ref ap])), (ap, .inl (cJ, 64, .inr (.inl fs)))])) (va_Qi (fun (r : Int32) (u : Unit) => r = nI 2) (fun (u : Unit) (t : State) => va_P (dC, dI) vwCl [(q, .inr (6, [.ref s0, .ref s1, .ref s2])), (s2, .inr (3, [.ref tq, .ref rq, .ref uq])), (tq, .inr (4, [.ref ca, .long sm, .int (oI lo)])), (ca, .inl (cJ, 64, .inr (.inl fc))), (rq, .inr (5, [.ref rb])), (rb, .inr (0, [.ref rd])), (rd, .inl (cJ, 128, .inr (.inl ft))), (uq, .inr (1, [.ref bm, .ref bs])), (bm, .inr (0, [.ref am])), (am, .inl (cJ, 64, .inr (.inl fm))), (bs, .inr (0, [.ref ap])), (ap, .inl (cJ, 64, .inr (.inl fs)))] t.heap ∧ va_K (dC, dI) vwCl [(cJ, .long)] t ∧ va_D (va_A [(q, .inr (6, [.ref s0, .ref s1, .ref s2])), (s2, .inr (3, [.ref tq, .ref rq, .ref uq])), (tq, .inr (4, [.ref ca, .long sm, .int (oI lo)])), (ca, .inl (cJ, 64, .inr (.inl fc))), (rq, .inr (5, [.ref rb])), (rb, .inr (0, [.ref rd])), (rd, .inl (cJ, 128, .inr (.inl ft))), (uq, .inr (1, [.ref bm, .ref bs])), (bm, .inr (0, [.ref am])), (am, .inl (cJ, 64, .inr (.inl fm))), (bs, .inr (0, [.ref ap])), (ap, .inl (cJ, 64, .inr (.inl fs)))] sz) [(q, .inr (6, [.ref s0, .ref s1, .ref s2])), (s2, .inr (3, [.ref tq, .ref rq, .ref uq])), (tq, .inr (4, [.ref ca, .long sm, .int (oI lo)])), (ca, .inl (cJ, 64, .inr (.inl fc))), (rq, .inr (5, [.ref rb])), (rb, .inr (0, [.ref rd])), (rd, .inl (cJ, 128, .inr (.inl ft))), (uq, .inr (1, [.ref bm, .ref bs])), (bm, .inr (0, [.ref am])), (am, .inl (cJ, 64, .inr (.inl fm))), (bs, .inr (0, [.ref ap])), (ap, .inl (cJ, 64, .inr (.inl fs)))]) (va_A [(q, .inr (6, [.ref s0, .ref s1, .ref s2])), (s2, .inr (3, [.ref tq, .ref rq, .ref uq])), (tq, .inr (4, [.ref ca, .long sm, .int (oI lo)])), (ca, .inl (cJ, 64, .inr (.inl fc))), (rq, .inr (5, [.ref rb])), (rb, .inr (0, [.ref rd])), (rd, .inl (cJ, 128, .inr (.inl ft))), (uq, .inr (1, [.ref bm, .ref bs])), (bm, .inr (0, [.ref am])), (am, .inl (cJ, 64, .inr (.inl fm))), (bs, .inr (0, [.ref ap])), (ap, .inl (cJ, 64, .inr (.inl fs)))] sz)) 1 6 (va_A [(q, .inr (6, [.ref s0, .ref s1, .ref s2])), (s2, .inr (3, [.ref tq, .ref rq, .ref uq])), (tq, .inr (4, [.ref ca, .long sm, .int (oI lo)])), (ca, .inl (cJ, 64, .inr (.inl fc))), (rq, .inr (5, [.ref rb])), (rb, .inr (0, [.ref rd])), (rd, .inl (cJ, 128, .inr (.inl ft))), (uq, .inr (1, [.ref bm, .ref bs])), (bm, .inr (0, [.ref am])), (am, .inl (cJ, 64, .inr (.inl fm))), (bs, .inr (0, [.ref ap])), (ap, .inl (cJ, 64, .inr (.inl fs)))] sz) := by
  refine va_MetW (cc := cL_pollLast) (maxL := 4) (ret := (some .int)) (hh := [(0, 9, 12, 13), (0, 9, 15, 34)]) (by decide) rfl ?_
  intro p e s m args below meth c s₁ B hml hv
  obtain ⟨rfl, nw0, hT, hNc0, hsz, hP, hK, hD0⟩ := hv
  have hx := B.exec
  have hb := B.bytes
  have hr := B.returns
  have hts := atoms_spec (ws := wsL_pollLast) B.pre
  have hown : s.vm.findClass RL = some m.cls := findClass_of_methodNamed B.named
  have hlocks := B.notSynchronized
  have htab : c.exceptionTable.toList = tableOf [(0, 9, 12, 13), (0, 9, 15, 34)] := vx_table (x := yL_pollLast) B (hts _ List.mem_cons_self)
  subst hsz
  have hD := hD0.self (sz := s.heap.size)
  generalize hAe : va_A [(q, .inr (6, [.ref s0, .ref s1, .ref s2])), (s2, .inr (3, [.ref tq, .ref rq, .ref uq])), (tq, .inr (4, [.ref ca, .long sm, .int (oI lo)])), (ca, .inl (cJ, 64, .inr (.inl fc))), (rq, .inr (5, [.ref rb])), (rb, .inr (0, [.ref rd])), (rd, .inl (cJ, 128, .inr (.inl ft))), (uq, .inr (1, [.ref bm, .ref bs])), (bm, .inr (0, [.ref am])), (am, .inl (cJ, 64, .inr (.inl fm))), (bs, .inr (0, [.ref ap])), (ap, .inl (cJ, 64, .inr (.inl fs)))] s.heap.size = A at hD ⊢
  have hA : ∀ q : Nat, s.heap.size ≤ q → A q := fun q h => by rw [← hAe]; exact Or.inr h
  have hS : va_S A s.heap s.heap [] := va_S.rf
  have hP : va_P (dC, dI) vwCl [(q, .inr (6, [.ref s0, .ref s1, .ref s2])), (s2, .inr (3, [.ref tq, .ref rq, .ref uq])), (tq, .inr (4, [.ref ca, .long sm, .int (oI lo)])), (ca, .inl (cJ, 64, .inr (.inl fc))), (rq, .inr (5, [.ref rb])), (rb, .inr (0, [.ref rd])), (rd, .inl (cJ, 128, .inr (.inl ft))), (uq, .inr (1, [.ref bm, .ref bs])), (bm, .inr (0, [.ref am])), (am, .inl (cJ, 64, .inr (.inl fm))), (bs, .inr (0, [.ref ap])), (ap, .inl (cJ, 64, .inr (.inl fs)))] s.heap := hP
  have hl := lv_entry ([.ref q, .int (nI 2), .ref oq]) (n := 4) (Nat.le_of_ble_eq_true rfl)
  rw [lg_entry_eq]
  generalize (lg_sl ([.ref q, .int (nI 2), .ref oq]) ++ List.replicate (4 - (lg_sl ([.ref q, .int (nI 2), .ref oq])).length) Slot.unset).toArray = ls at hl ⊢
  have hl : lv_has ls 4 [(0, .ref q), (1, .int (nI 2)), (2, .ref oq)] := hl
  refine lv_aload_n hx hb dL_pollLast_0 rfl (lv_at hl 2 rfl) ?_
  refine lv_iconst (v := nI 0) hx hb dL_pollLast_1 (by decide +kernel) ?_
  refine lv_aload_n hx hb dL_pollLast_2 rfl (lv_at hl 0 rfl) ?_
  refine lv_iload_n hx hb dL_pollLast_3 rfl (lv_at hl 1 rfl) ?_
  have hPc := hP.sub (ws' := [(q, .inr (6, [.ref s0, .ref s1, .ref s2])), (s2, .inr (3, [.ref tq, .ref rq, .ref uq])), (tq, .inr (4, [.ref ca, .long sm, .int (oI lo)])), (ca, .inl (cJ, 64, .inr (.inl fc))), (rq, .inr (5, [.ref rb])), (rb, .inr (0, [.ref rd])), (rd, .inl (cJ, 128, .inr (.inl ft))), (uq, .inr (1, [.ref bm, .ref bs])), (bm, .inr (0, [.ref am])), (am, .inl (cJ, 64, .inr (.inl fm))), (bs, .inr (0, [.ref ap])), (ap, .inl (cJ, 64, .inr (.inl fs)))]) [0, 1, 2, 3, 4, 5, 6, 7, 8, 9, 10, 11] rfl
  have hKc := hK.sub (tys' := [(cJ, .long)]) [0] rfl
  have hDc := hD.sub (ws' := [(q, .inr (6, [.ref s0, .ref s1, .ref s2])), (s2, .inr (3, [.ref tq, .ref rq, .ref uq])), (tq, .inr (4, [.ref ca, .long sm, .int (oI lo)])), (ca, .inl (cJ, 64, .inr (.inl fc))), (rq, .inr (5, [.ref rb])), (rb, .inr (0, [.ref rd])), (rd, .inl (cJ, 128, .inr (.inl ft))), (uq, .inr (1, [.ref bm, .ref bs])), (bm, .inr (0, [.ref am])), (am, .inl (cJ, 64, .inr (.inl fm))), (bs, .inr (0, [.ref ap])), (ap, .inl (cJ, 64, .inr (.inl fs)))]) [0, 1, 2, 3, 4, 5, 6, 7, 8, 9, 10, 11] (by decide) rfl
  refine vx_callv (vx_runV (As := [.int (nI 2)]) (rest := [.int (nI 0), .ref oq]) ⟨hx, hb, hml, hown, hts⟩ (x_X7_pollLast_e2 l hls dC dI q s0 s1 s2 tq ca rq rb rd uq bm am bs ap cJ fm fs ft fc sm lo sa s.heap.size (by first | assumption | omega) (by first | assumption | omega)) (cwV 1 hts gL_pollLast_X7_pollLast rfl rfl rfl (by decide +kernel) ⟨Nat.le_of_ble_eq_true rfl, Nat.le_of_ble_eq_true rfl⟩) ⟨fun a U g mk q => by obtain ⟨q0, nq0, q1, qT, qP, qK, qD⟩ := q; exact ⟨q0, va_Nw.same rfl (U := U.calling g mk a) rfl nq0, q1, TW.same (u := U) (U := U.calling g mk a) rfl qT, qP, va_K.moved (u := U) (U := U.calling g mk a) (Vm.Alike.refl U.vm) qK, qD⟩, va_recv hKc hPc (ci := 6) (q0 := 0) rfl rfl, fun U hU hW => ⟨rfl, va_Nw.warmF hW nw0, by rw [hU], by rw [hU]; exact TW.warm hW hT, by rw [hU]; exact hPc, va_K.moved hW.alike hKc, hDc.weaken (fun _ _ _ _ => trivial)⟩⟩ rfl rfl hl.1 rfl (lv_room (Nat.le_of_ble_eq_true rfl)) dL_pollLast_4 ⟨Nat.le_of_ble_eq_true rfl, Nat.le_of_ble_eq_true rfl⟩) hS (fun q h9 h8 => absurd h8 (Nat.not_le_of_lt h9)) (fun q h8 => hA q (Nat.le_trans hS.1 h8)) (fun q h9 h8 => absurd h8 (Nat.not_le_of_lt h9)) (fun E9 ce9 q9 u9 t9 H locs ht9 hvm9 hu9 hE9 hz9 hk9 hS hce9 hcv9 hcl9 => ?_) (fun u9 t9 H9 l9 ht9 hvm9 hu9 hB9 hz9 hk9 hS9 => hu9.elim)
  subst hE9
  have hP := hP.kept (H1 := H) (fun k q hk => hk9 _ (vx_lt hP hk) (Nat.not_le_of_lt (vx_lt hP hk)))
  refine vx_catch (name := "java/util/NoSuchElementException") hown [⟨0, 9, 12, 13⟩] ⟨0, 9, 15, 34⟩ [] (htab.trans rfl) (fun z hz => by rcases List.mem_cons.mp hz with rfl | hz; exact Or.inr ⟨by decide, "java/lang/IndexOutOfBoundsException", hts (.classLink RL 13 "java/lang/IndexOutOfBoundsException") (by decide +kernel), hNc0⟩; exact nomatch hz) rfl (by decide) (hts (.classLink RL 34 "java/util/NoSuchElementException") (by decide +kernel)) (va_Nw.use rfl hT.2.2.2.2.2.2) hce9 hcv9 hcl9 ?_
  refine W.cs (cells' := 1) (slots' := 6) rfl rfl ?_
  refine lv_astore_n (lv' := [(3, .ref q9), (0, .ref q), (1, .int (nI 2)), (2, .ref oq)]) hx hb dL_pollLast_15 rfl hl (by decide) rfl (fun ls hl => ?_)
  refine lv_iconst (v := nI 2) hx hb dL_pollLast_16 (by decide +kernel) ?_
  have hP9 := hP.sub (ws' := [(q, .inr (6, [.ref s0, .ref s1, .ref s2])), (s2, .inr (3, [.ref tq, .ref rq, .ref uq])), (tq, .inr (4, [.ref ca, .long sm, .int (oI lo)])), (ca, .inl (cJ, 64, .inr (.inl fc))), (rq, .inr (5, [.ref rb])), (rb, .inr (0, [.ref rd])), (rd, .inl (cJ, 128, .inr (.inl ft))), (uq, .inr (1, [.ref bm, .ref bs])), (bm, .inr (0, [.ref am])), (am, .inl (cJ, 64, .inr (.inl fm))), (bs, .inr (0, [.ref ap])), (ap, .inl (cJ, 64, .inr (.inl fs)))]) [0, 1, 2, 3, 4, 5, 6, 7, 8, 9, 10, 11] rfl
  have hD9 := hD.sub (ws' := [(q, .inr (6, [.ref s0, .ref s1, .ref s2])), (s2, .inr (3, [.ref tq, .ref rq, .ref uq])), (tq, .inr (4, [.ref ca, .long sm, .int (oI lo)])), (ca, .inl (cJ, 64, .inr (.inl fc))), (rq, .inr (5, [.ref rb])), (rb, .inr (0, [.ref rd])), (rd, .inl (cJ, 128, .inr (.inl ft))), (uq, .inr (1, [.ref bm, .ref bs])), (bm, .inr (0, [.ref am])), (am, .inl (cJ, 64, .inr (.inl fm))), (bs, .inr (0, [.ref ap])), (ap, .inl (cJ, 64, .inr (.inl fs)))]) [0, 1, 2, 3, 4, 5, 6, 7, 8, 9, 10, 11] (by decide) rfl
  have hK9 := hK.sub (tys' := [(cJ, .long)]) [0] rfl
  exact W.iret (v := nI 2) hx hb hr (fun t9 ht hW => ⟨⟨nI 2, (), rfl, rfl, by rw [ht]; exact hP9, va_K.moved hW.alike hK9, hD9⟩, hS.F ht⟩) hS.2.2 dL_pollLast_17
