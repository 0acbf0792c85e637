set_option maxHeartbeats 4000000 in
set_option maxRecDepth 100000 in
/-- needNumber throws IllegalArgumentException -/
theorem x_X7_needNumber (l : Launch) (hls : l.stackTraces = false) (dC : Nat → ClassId) (dI : Nat → Nat → Nat) (w : Int32) (sa sz : Nat) (hW : isN w = false) : vx_Met l yX7_needNumber wsX7_needNumber ({ frames := 6, cells := 1, slots := 6, locals := 82 }) (va_Pc [.int w] (fun U => U.heap.size = sz ∧ TW "java/lang/IllegalArgumentException" 153 "the number is out of range" sa (fun q => sz ≤ q) U U.heap ∧ va_P (dC, dI) vwCl [] U.heap ∧ va_K (dC, dI) vwCl [] U ∧ va_D (fun _ => True) [])) (va_Qv (fun _ : Unit => False) (fun _ _ => True) (fun q => sz ≤ q)) (vx_X (fun _ : Unit => True) (fun E _ _ => E = "java/lang/IllegalArgumentException") (fun q => sz ≤ q)) 1 6 (fun q => sz ≤ q) := by
  refine vx_ofW (cc := cX7_needNumber) (maxL := 1) (ret := none) (by decide) rfl ?_
  intro p e s m args below meth c s₁ B hml hcat hv
  obtain ⟨rfl, hsz, hT, hP, hK, hD⟩ := hv
  have hx := B.exec
  have hb := B.bytes
  have hr := B.returns
  have hts := atoms_spec (ws := wsX7_needNumber) B.pre
  have hown : s.vm.findClass RX7 = some m.cls := findClass_of_methodNamed B.named
  have hlocks := B.notSynchronized
  subst hsz
  have hS : va_S (fun q => s.heap.size ≤ q) s.heap s.heap [] := va_S.rf
  have hP : va_P (dC, dI) vwCl [] s.heap := hP
  have hl := lv_entry ([.int w]) (n := 1) (Nat.le_of_ble_eq_true rfl)
  rw [lg_entry_eq]
  generalize (lg_sl ([.int w]) ++ List.replicate (1 - (lg_sl ([.int w])).length) Slot.unset).toArray = ls at hl ⊢
  have hl : lv_has ls 1 [(0, .int w)] := hl
  refine lv_iload_n hx hb dX7_needNumber_0 rfl (lv_at hl 0 rfl) ?_
  refine lv_if_lt (tgt := 11) hx hb dX7_needNumber_1 (by decide) (fun qc_1 => ?_) (fun qc_1 => ?_)
  · exact vx_throwS hx hb hls (own := RX7) (cls := "java/lang/IllegalArgumentException") (text := "the number is out of range") (names := ["java/lang/RuntimeException", "java/lang/Exception"]) (ik := 151) (is := 153) (ic := 155) (sa := sa) hown (by decide) (by decide) (hts (.classLink RX7 151 "java/lang/IllegalArgumentException") (by decide +kernel)) (hts (.initialized "java/lang/IllegalArgumentException") (by decide +kernel)) hT.1 (vx_hat (L := (vx_atS RX7 155 "java/lang/IllegalArgumentException" ["java/lang/RuntimeException", "java/lang/Exception"])) (B := [.declares (Bundle.initS tw_r), .declares (Bundle.initS tw_e), .declares (Bundle.initS Bundle.tN), .castable "java/lang/IllegalArgumentException" "java/lang/IllegalArgumentException"]) (fun w hw => hts w (List.mem_cons_of_mem _ (List.mem_append_right _ hw))) (by decide +kernel) (vx_c (va_Nw.use rfl hT.2.2.2.1) (vx_c (va_Nw.use rfl hT.2.2.2.2.1) (vx_c (va_Nw.use rfl hT.2.2.2.2.2.1) (vx_c (va_Nw.use rfl hT.2.2.2.2.2.2) vx_n))))) (List.all_eq_true.mp (by decide +kernel)) hT.2.1 hT.2.2.1 hS (by rw [hml]; exact hl.1) dX7_needNumber_11 dX7_needNumber_14 dX7_needNumber_15 dX7_needNumber_17 dX7_needNumber_20 (fun x h => (hcat x h).elim) (Nat.le_of_ble_eq_true rfl) (Nat.le_of_ble_eq_true rfl) (Nat.le_of_ble_eq_true rfl) (Nat.le_of_ble_eq_true rfl) hlocks (fun t _ h1 h2 => ⟨(), trivial, rfl, h1, fun q h3 _ => h2 q h3⟩) (fun z h => nomatch h) (Nat.le_of_ble_eq_true rfl) (Nat.le_of_ble_eq_true rfl)
  · refine lv_iload_n hx hb dX7_needNumber_4 rfl (lv_at hl 0 rfl) ?_
    refine lv_sipush (v := nI 4096) hx hb dX7_needNumber_5 (by decide +kernel) ?_
    refine lv_icmp_lt (tgt := 21) hx hb dX7_needNumber_8 (by decide) (fun qc_2 => ?_) (fun qc_2 => ?_)
    · exact absurd (isN_lt qc_1 qc_2) (by rw [hW]; decide)
    · exact vx_throwS hx hb hls (own := RX7) (cls := "java/lang/IllegalArgumentException") (text := "the number is out of range") (names := ["java/lang/RuntimeException", "java/lang/Exception"]) (ik := 151) (is := 153) (ic := 155) (sa := sa) hown (by decide) (by decide) (hts (.classLink RX7 151 "java/lang/IllegalArgumentException") (by decide +kernel)) (hts (.initialized "java/lang/IllegalArgumentException") (by decide +kernel)) hT.1 (vx_hat (L := (vx_atS RX7 155 "java/lang/IllegalArgumentException" ["java/lang/RuntimeException", "java/lang/Exception"])) (B := [.declares (Bundle.initS tw_r), .declares (Bundle.initS tw_e), .declares (Bundle.initS Bundle.tN), .castable "java/lang/IllegalArgumentException" "java/lang/IllegalArgumentException"]) (fun w hw => hts w (List.mem_cons_of_mem _ (List.mem_append_right _ hw))) (by decide +kernel) (vx_c (va_Nw.use rfl hT.2.2.2.1) (vx_c (va_Nw.use rfl hT.2.2.2.2.1) (vx_c (va_Nw.use rfl hT.2.2.2.2.2.1) (vx_c (va_Nw.use rfl hT.2.2.2.2.2.2) vx_n))))) (List.all_eq_true.mp (by decide +kernel)) hT.2.1 hT.2.2.1 hS (by rw [hml]; exact hl.1) dX7_needNumber_11 dX7_needNumber_14 dX7_needNumber_15 dX7_needNumber_17 dX7_needNumber_20 (fun x h => (hcat x h).elim) (Nat.le_of_ble_eq_true rfl) (Nat.le_of_ble_eq_true rfl) (Nat.le_of_ble_eq_true rfl) (Nat.le_of_ble_eq_true rfl) hlocks (fun t _ h1 h2 => ⟨(), trivial, rfl, h1, fun q h3 _ => h2 q h3⟩) (fun z h => nomatch h) (Nat.le_of_ble_eq_true rfl) (Nat.le_of_ble_eq_true rfl)
set_option maxHeartbeats 4000000 in
set_option maxRecDepth 100000 in
/-- needPlace throws IndexOutOfBoundsException -/
theorem x_X7_needPlace (l : Launch) (hls : l.stackTraces = false) (dC : Nat → ClassId) (dI : Nat → Nat → Nat) (w : Int32) (n : Nat) (sa sz : Nat) (hW : pl w n = false) : vx_Met l yX7_needPlace wsX7_needPlace ({ frames := 6, cells := 1, slots := 6, locals := 82 }) (va_Pc [.int w, .int (nI n)] (fun U => U.heap.size = sz ∧ TW "java/lang/IndexOutOfBoundsException" 165 "no such cluster, level, place or bucket" sa (fun q => sz ≤ q) U U.heap ∧ va_P (dC, dI) vwCl [] U.heap ∧ va_K (dC, dI) vwCl [] U ∧ va_D (fun _ => True) [])) (va_Qv (fun _ : Unit => False) (fun _ _ => True) (fun q => sz ≤ q)) (vx_X (fun _ : Unit => True) (fun E _ _ => E = "java/lang/IndexOutOfBoundsException") (fun q => sz ≤ q)) 1 6 (fun q => sz ≤ q) := by
  refine vx_ofW (cc := cX7_needPlace) (maxL := 2) (ret := none) (by decide) rfl ?_
  intro p e s m args below meth c s₁ B hml hcat hv
  obtain ⟨rfl, hsz, hT, hP, hK, hD⟩ := hv
  have hx := B.exec
  have hb := B.bytes
  have hr := B.returns
  have hts := atoms_spec (ws := wsX7_needPlace) B.pre
  have hown : s.vm.findClass RX7 = some m.cls := findClass_of_methodNamed B.named
  have hlocks := B.notSynchronized
  subst hsz
  have hS : va_S (fun q => s.heap.size ≤ q) s.heap s.heap [] := va_S.rf
  have hP : va_P (dC, dI) vwCl [] s.heap := hP
  have hl := lv_entry ([.int w, .int (nI n)]) (n := 2) (Nat.le_of_ble_eq_true rfl)
  rw [lg_entry_eq]
  generalize (lg_sl ([.int w, .int (nI n)]) ++ List.replicate (2 - (lg_sl ([.int w, .int (nI n)])).length) Slot.unset).toArray = ls at hl ⊢
  have hl : lv_has ls 2 [(0, .int w), (1, .int (nI n))] := hl
  refine lv_iload_n hx hb dX7_needPlace_0 rfl (lv_at hl 0 rfl) ?_
  refine lv_if_lt (tgt := 9) hx hb dX7_needPlace_1 (by decide) (fun qc_1 => ?_) (fun qc_1 => ?_)
  · exact vx_throwS hx hb hls (own := RX7) (cls := "java/lang/IndexOutOfBoundsException") (text := "no such cluster, level, place or bucket") (names := ["java/lang/RuntimeException", "java/lang/Exception"]) (ik := 146) (is := 165) (ic := 150) (sa := sa) hown (by decide) (by decide) (hts (.classLink RX7 146 "java/lang/IndexOutOfBoundsException") (by decide +kernel)) (hts (.initialized "java/lang/IndexOutOfBoundsException") (by decide +kernel)) hT.1 (vx_hat (L := (vx_atS RX7 150 "java/lang/IndexOutOfBoundsException" ["java/lang/RuntimeException", "java/lang/Exception"])) (B := [.declares (Bundle.initS tw_r), .declares (Bundle.initS tw_e), .declares (Bundle.initS Bundle.tN), .castable "java/lang/IndexOutOfBoundsException" "java/lang/IndexOutOfBoundsException"]) (fun w hw => hts w (List.mem_cons_of_mem _ (List.mem_append_right _ hw))) (by decide +kernel) (vx_c (va_Nw.use rfl hT.2.2.2.1) (vx_c (va_Nw.use rfl hT.2.2.2.2.1) (vx_c (va_Nw.use rfl hT.2.2.2.2.2.1) (vx_c (va_Nw.use rfl hT.2.2.2.2.2.2) vx_n))))) (List.all_eq_true.mp (by decide +kernel)) hT.2.1 hT.2.2.1 hS (by rw [hml]; exact hl.1) dX7_needPlace_9 dX7_needPlace_12 dX7_needPlace_13 dX7_needPlace_15 dX7_needPlace_18 (fun x h => (hcat x h).elim) (Nat.le_of_ble_eq_true rfl) (Nat.le_of_ble_eq_true rfl) (Nat.le_of_ble_eq_true rfl) (Nat.le_of_ble_eq_true rfl) hlocks (fun t _ h1 h2 => ⟨(), trivial, rfl, h1, fun q h3 _ => h2 q h3⟩) (fun z h => nomatch h) (Nat.le_of_ble_eq_true rfl) (Nat.le_of_ble_eq_true rfl)
  · refine lv_iload_n hx hb dX7_needPlace_4 rfl (lv_at hl 0 rfl) ?_
    refine lv_iload_n hx hb dX7_needPlace_5 rfl (lv_at hl 1 rfl) ?_
    refine lv_icmp_lt (tgt := 19) hx hb dX7_needPlace_6 (by decide) (fun qc_2 => ?_) (fun qc_2 => ?_)
    · exact absurd (show pl w n = true from decide_eq_true ⟨qc_1, qc_2⟩) (by rw [hW]; decide)
    · exact vx_throwS hx hb hls (own := RX7) (cls := "java/lang/IndexOutOfBoundsException") (text := "no such cluster, level, place or bucket") (names := ["java/lang/RuntimeException", "java/lang/Exception"]) (ik := 146) (is := 165) (ic := 150) (sa := sa) hown (by decide) (by decide) (hts (.classLink RX7 146 "java/lang/IndexOutOfBoundsException") (by decide +kernel)) (hts (.initialized "java/lang/IndexOutOfBoundsException") (by decide +kernel)) hT.1 (vx_hat (L := (vx_atS RX7 150 "java/lang/IndexOutOfBoundsException" ["java/lang/RuntimeException", "java/lang/Exception"])) (B := [.declares (Bundle.initS tw_r), .declares (Bundle.initS tw_e), .declares (Bundle.initS Bundle.tN), .castable "java/lang/IndexOutOfBoundsException" "java/lang/IndexOutOfBoundsException"]) (fun w hw => hts w (List.mem_cons_of_mem _ (List.mem_append_right _ hw))) (by decide +kernel) (vx_c (va_Nw.use rfl hT.2.2.2.1) (vx_c (va_Nw.use rfl hT.2.2.2.2.1) (vx_c (va_Nw.use rfl hT.2.2.2.2.2.1) (vx_c (va_Nw.use rfl hT.2.2.2.2.2.2) vx_n))))) (List.all_eq_true.mp (by decide +kernel)) hT.2.1 hT.2.2.1 hS (by rw [hml]; exact hl.1) dX7_needPlace_9 dX7_needPlace_12 dX7_needPlace_13 dX7_needPlace_15 dX7_needPlace_18 (fun x h => (hcat x h).elim) (Nat.le_of_ble_eq_true rfl) (Nat.le_of_ble_eq_true rfl) (Nat.le_of_ble_eq_true rfl) (Nat.le_of_ble_eq_true rfl) hlocks (fun t _ h1 h2 => ⟨(), trivial, rfl, h1, fun q h3 _ => h2 q h3⟩) (fun z h => nomatch h) (Nat.le_of_ble_eq_true rfl) (Nat.le_of_ble_eq_true rfl)
set_option maxHeartbeats 4000000 in
set_option maxRecDepth 100000 in
/-- contains_n0 throws IllegalArgumentException -/
theorem x_X7_contains_n0 (l : Launch) (hls : l.stackTraces = false) (dC : Nat → ClassId) (dI : Nat → Nat → Nat) (q : Nat) (s0 : Nat) (s1 : Nat) (s2 : Nat) (w : Int32) (sa sz : Nat) (hW : isN w = false) : vx_Met l yX7_contains wsX7_contains ({ frames := 7, cells := 1, slots := 6, locals := 102 }) (va_Pc [.ref q, .int (nI 0), .int w] (fun U => U.heap.size = sz ∧ TW "java/lang/IllegalArgumentException" 153 "the number is out of range" sa (fun q => sz ≤ q) U U.heap ∧ va_P (dC, dI) vwCl [(q, .inr (6, [.ref s0, .ref s1, .ref s2]))] U.heap ∧ va_K (dC, dI) vwCl [] U ∧ va_D (fun _ => True) [(q, .inr (6, [.ref s0, .ref s1, .ref s2]))])) (va_Qv (fun _ : Unit => False) (fun _ _ => True) (fun q => sz ≤ q)) (vx_X (fun _ : Unit => True) (fun E _ _ => E = "java/lang/IllegalArgumentException") (fun q => sz ≤ q)) 1 6 (fun q => sz ≤ q) := by
  refine vx_ofW (cc := cX7_contains) (maxL := 4) (ret := (some .boolean)) (by decide) rfl ?_
  intro p e s m args below meth c s₁ B hml hcat hv
  obtain ⟨rfl, hsz, hT, hP, hK, hD⟩ := hv
  have hx := B.exec
  have hb := B.bytes
  have hr := B.returns
  have hts := atoms_spec (ws := wsX7_contains) B.pre
  have hown : s.vm.findClass RX7 = some m.cls := findClass_of_methodNamed B.named
  have hlocks := B.notSynchronized
  subst hsz
  have hS : va_S (fun q => s.heap.size ≤ q) s.heap s.heap [] := va_S.rf
  have hP : va_P (dC, dI) vwCl [(q, .inr (6, [.ref s0, .ref s1, .ref s2]))] s.heap := hP
  have hl := lv_entry ([.ref q, .int (nI 0), .int w]) (n := 4) (Nat.le_of_ble_eq_true rfl)
  rw [lg_entry_eq]
  generalize (lg_sl ([.ref q, .int (nI 0), .int w]) ++ List.replicate (4 - (lg_sl ([.ref q, .int (nI 0), .int w])).length) Slot.unset).toArray = ls at hl ⊢
  have hl : lv_has ls 4 [(0, .ref q), (1, .int (nI 0)), (2, .int w)] := hl
  refine lv_aload_n hx hb dX7_contains_0 rfl (lv_at hl 0 rfl) ?_
  refine lv_iload_n hx hb dX7_contains_1 rfl (lv_at hl 1 rfl) ?_
  have hPc := hP.sub (ws' := [(q, .inr (6, [.ref s0, .ref s1, .ref s2]))]) [0] rfl
  have hKc := hK.sub (tys' := []) [] rfl
  refine va_csr (W.runV (As := [.int (nI 0)]) (rest := []) ⟨hx, hb, hml, hown, hts⟩ (c_X7_chosenSet_0 l dC dI q s0 s1 s2 ) (cwV 1 hts gX7_contains_X7_chosenSet rfl rfl rfl (by decide +kernel) ⟨Nat.le_of_ble_eq_true rfl, Nat.le_of_ble_eq_true rfl⟩) ⟨fun a U g mk q => by obtain ⟨q0, qP, qK⟩ := q; exact ⟨q0, qP, va_K.moved (u := U) (U := U.calling g mk a) (Vm.Alike.refl U.vm) qK⟩, va_recv hKc hPc (ci := 6) (q0 := 0) rfl rfl, fun U hU hW => ⟨rfl, by rw [hU]; exact hPc, va_K.moved hW.alike hKc⟩⟩ rfl rfl hl.1 rfl (lv_room (Nat.le_of_ble_eq_true rfl)) dX7_contains_2 ⟨Nat.le_of_ble_eq_true rfl, Nat.le_of_ble_eq_true rfl⟩) (fun r_2 hw_1 => ?_)
  have hw_1 := hw_1.symm
  subst hw_1
  refine lv_astore_n (lv' := [(3, .ref s0), (0, .ref q), (1, .int (nI 0)), (2, .int w)]) hx hb dX7_contains_5 rfl hl (by decide) rfl (fun ls hl => ?_)
  refine lv_iload_n hx hb dX7_contains_6 rfl (lv_at hl 3 rfl) ?_
  have hPc := hP.sub (ws' := []) [] rfl
  have hKc := hK.sub (tys' := []) [] rfl
  have hDc := hD.sub (ws' := []) [] (by decide) rfl
  exact vx_callv (vx_runS (As := [.int w]) (rest := []) ⟨hx, hb, hml, hown, hts⟩ (x_X7_needNumber l hls dC dI w sa s.heap.size (by first | assumption | omega)) (va_cwS 1 hts gX7_contains_X7_needNumber rfl rfl rfl (by decide +kernel) ⟨Nat.le_of_ble_eq_true rfl, Nat.le_of_ble_eq_true rfl⟩) ⟨fun a U g mk q => by obtain ⟨q0, q1, qT, qP, qK, qD⟩ := q; exact ⟨q0, q1, TW.same (u := U) (U := U.calling g mk a) rfl qT, qP, va_K.moved (u := U) (U := U.calling g mk a) (Vm.Alike.refl U.vm) qK, qD⟩, fun U hU hW => ⟨rfl, by rw [hU], by rw [hU]; exact TW.warm hW hT, by rw [hU]; exact hPc, va_K.moved hW.alike hKc, hDc.weaken (fun _ _ _ _ => trivial)⟩⟩ rfl rfl hl.1 rfl (lv_room (Nat.le_of_ble_eq_true rfl)) dX7_contains_7 ⟨Nat.le_of_ble_eq_true rfl, Nat.le_of_ble_eq_true rfl⟩) hS (fun q h9 h8 => absurd h8 (Nat.not_le_of_lt h9)) (fun q h8 => Nat.le_trans hS.1 h8) (fun q h9 h8 => absurd h8 (Nat.not_le_of_lt h9)) (fun E9 ce9 q9 u9 t9 H9 l9 ht9 hvm9 hu9 hE9 hz9 hk9 hS9 hce9 hcv9 hcl9 => vx_out (fun x h => (hcat x h).elim) hlocks hce9 hcv9 hcl9 (fun t8 ht8 ha8 => ⟨(), trivial, hE9, by rw [ht8]; exact hz9, fun q h1 h2 => by rw [ht8]; exact hk9 q h1 h2⟩) hS9.2.2 (Nat.le_of_ble_eq_true rfl) (Nat.le_of_ble_eq_true rfl)) (fun u9 t9 H9 l9 ht9 hvm9 hu9 hB9 hz9 hk9 hS9 => hu9.elim)
set_option maxHeartbeats 4000000 in
set_option maxRecDepth 100000 in
/-- successor_n0 throws IllegalArgumentException -/
theorem x_X7_successor_n0 (l : Launch) (hls : l.stackTraces = false) (dC : Nat → ClassId) (dI : Nat → Nat → Nat) (q : Nat) (s0 : Nat) (s1 : Nat) (s2 : Nat) (w : Int32) (sa sz : Nat) (hW : isN w = false) : vx_Met l yX7_successor wsX7_successor ({ frames := 7, cells := 1, slots := 6, locals := 102 }) (va_Pc [.ref q, .int (nI 0), .int w] (fun U => U.heap.size = sz ∧ TW "java/lang/IllegalArgumentException" 153 "the number is out of range" sa (fun q => sz ≤ q) U U.heap ∧ va_P (dC, dI) vwCl [(q, .inr (6, [.ref s0, .ref s1, .ref s2]))] U.heap ∧ va_K (dC, dI) vwCl [] U ∧ va_D (fun _ => True) [(q, .inr (6, [.ref s0, .ref s1, .ref s2]))])) (va_Qv (fun _ : Unit => False) (fun _ _ => True) (fun q => sz ≤ q)) (vx_X (fun _ : Unit => True) (fun E _ _ => E = "java/lang/IllegalArgumentException") (fun q => sz ≤ q)) 1 6 (fun q => sz ≤ q) := by
  refine vx_ofW (cc := cX7_successor) (maxL := 4) (ret := (some .int)) (by decide) rfl ?_
  intro p e s m args below meth c s₁ B hml hcat hv
  obtain ⟨rfl, hsz, hT, hP, hK, hD⟩ := hv
  have hx := B.exec
  have hb := B.bytes
  have hr := B.returns
  have hts := atoms_spec (ws := wsX7_successor) B.pre
  have hown : s.vm.findClass RX7 = some m.cls := findClass_of_methodNamed B.named
  have hlocks := B.notSynchronized
  subst hsz
  have hS : va_S (fun q => s.heap.size ≤ q) s.heap s.heap [] := va_S.rf
  have hP : va_P (dC, dI) vwCl [(q, .inr (6, [.ref s0, .ref s1, .ref s2]))] s.heap := hP
  have hl := lv_entry ([.ref q, .int (nI 0), .int w]) (n := 4) (Nat.le_of_ble_eq_true rfl)
  rw [lg_entry_eq]
  generalize (lg_sl ([.ref q, .int (nI 0), .int w]) ++ List.replicate (4 - (lg_sl ([.ref q, .int (nI 0), .int w])).length) Slot.unset).toArray = ls at hl ⊢
  have hl : lv_has ls 4 [(0, .ref q), (1, .int (nI 0)), (2, .int w)] := hl
  refine lv_aload_n hx hb dX7_successor_0 rfl (lv_at hl 0 rfl) ?_
  refine lv_iload_n hx hb dX7_successor_1 rfl (lv_at hl 1 rfl) ?_
  have hPc := hP.sub (ws' := [(q, .inr (6, [.ref s0, .ref s1, .ref s2]))]) [0] rfl
  have hKc := hK.sub (tys' := []) [] rfl
  refine va_csr (W.runV (As := [.int (nI 0)]) (rest := []) ⟨hx, hb, hml, hown, hts⟩ (c_X7_chosenSet_0 l dC dI q s0 s1 s2 ) (cwV 1 hts gX7_successor_X7_chosenSet rfl rfl rfl (by decide +kernel) ⟨Nat.le_of_ble_eq_true rfl, Nat.le_of_ble_eq_true rfl⟩) ⟨fun a U g mk q => by obtain ⟨q0, qP, qK⟩ := q; exact ⟨q0, qP, va_K.moved (u := U) (U := U.calling g mk a) (Vm.Alike.refl U.vm) qK⟩, va_recv hKc hPc (ci := 6) (q0 := 0) rfl rfl, fun U hU hW => ⟨rfl, by rw [hU]; exact hPc, va_K.moved hW.alike hKc⟩⟩ rfl rfl hl.1 rfl (lv_room (Nat.le_of_ble_eq_true rfl)) dX7_successor_2 ⟨Nat.le_of_ble_eq_true rfl, Nat.le_of_ble_eq_true rfl⟩) (fun r_2 hw_1 => ?_)
  have hw_1 := hw_1.symm
  subst hw_1
  refine lv_astore_n (lv' := [(3, .ref s0), (0, .ref q), (1, .int (nI 0)), (2, .int w)]) hx hb dX7_successor_5 rfl hl (by decide) rfl (fun ls hl => ?_)
  refine lv_iload_n hx hb dX7_successor_6 rfl (lv_at hl 3 rfl) ?_
  have hPc := hP.sub (ws' := []) [] rfl
  have hKc := hK.sub (tys' := []) [] rfl
  have hDc := hD.sub (ws' := []) [] (by decide) rfl
  exact vx_callv (vx_runS (As := [.int w]) (rest := []) ⟨hx, hb, hml, hown, hts⟩ (x_X7_needNumber l hls dC dI w sa s.heap.size (by first | assumption | omega)) (va_cwS 1 hts gX7_successor_X7_needNumber rfl rfl rfl (by decide +kernel) ⟨Nat.le_of_ble_eq_true rfl, Nat.le_of_ble_eq_true rfl⟩) ⟨fun a U g mk q => by obtain ⟨q0, q1, qT, qP, qK, qD⟩ := q; exact ⟨q0, q1, TW.same (u := U) (U := U.calling g mk a) rfl qT, qP, va_K.moved (u := U) (U := U.calling g mk a) (Vm.Alike.refl U.vm) qK, qD⟩, fun U hU hW => ⟨rfl, by rw [hU], by rw [hU]; exact TW.warm hW hT, by rw [hU]; exact hPc, va_K.moved hW.alike hKc, hDc.weaken (fun _ _ _ _ => trivial)⟩⟩ rfl rfl hl.1 rfl (lv_room (Nat.le_of_ble_eq_true rfl)) dX7_successor_7 ⟨Nat.le_of_ble_eq_true rfl, Nat.le_of_ble_eq_true rfl⟩) hS (fun q h9 h8 => absurd h8 (Nat.not_le_of_lt h9)) (fun q h8 => Nat.le_trans hS.1 h8) (fun q h9 h8 => absurd h8 (Nat.not_le_of_lt h9)) (fun E9 ce9 q9 u9 t9 H9 l9 ht9 hvm9 hu9 hE9 hz9 hk9 hS9 hce9 hcv9 hcl9 => vx_out (fun x h => (hcat x h).elim) hlocks hce9 hcv9 hcl9 (fun t8 ht8 ha8 => ⟨(), trivial, hE9, by rw [ht8]; exact hz9, fun q h1 h2 => by rw [ht8]; exact hk9 q h1 h2⟩) hS9.2.2 (Nat.le_of_ble_eq_true rfl) (Nat.le_of_ble_eq_true rfl)) (fun u9 t9 H9 l9 ht9 hvm9 hu9 hB9 hz9 hk9 hS9 => hu9.elim)
set_option maxHeartbeats 4000000 in
set_option maxRecDepth 100000 in
/-- predecessor_n0 throws IllegalArgumentException -/
theorem x_X7_predecessor_n0 (l : Launch) (hls : l.stackTraces = false) (dC : Nat → ClassId) (dI : Nat → Nat → Nat) (q : Nat) (s0 : Nat) (s1 : Nat) (s2 : Nat) (w : Int32) (sa sz : Nat) (hW : isN w = false) : vx_Met l yX7_predecessor wsX7_predecessor ({ frames := 7, cells := 1, slots := 6, locals := 102 }) (va_Pc [.ref q, .int (nI 0), .int w] (fun U => U.heap.size = sz ∧ TW "java/lang/IllegalArgumentException" 153 "the number is out of range" sa (fun q => sz ≤ q) U U.heap ∧ va_P (dC, dI) vwCl [(q, .inr (6, [.ref s0, .ref s1, .ref s2]))] U.heap ∧ va_K (dC, dI) vwCl [] U ∧ va_D (fun _ => True) [(q, .inr (6, [.ref s0, .ref s1, .ref s2]))])) (va_Qv (fun _ : Unit => False) (fun _ _ => True) (fun q => sz ≤ q)) (vx_X (fun _ : Unit => True) (fun E _ _ => E = "java/lang/IllegalArgumentException") (fun q => sz ≤ q)) 1 6 (fun q => sz ≤ q) := by
  refine vx_ofW (cc := cX7_predecessor) (maxL := 4) (ret := (some .int)) (by decide) rfl ?_
  intro p e s m args below meth c s₁ B hml hcat hv
  obtain ⟨rfl, hsz, hT, hP, hK, hD⟩ := hv
  have hx := B.exec
  have hb := B.bytes
  have hr := B.returns
  have hts := atoms_spec (ws := wsX7_predecessor) B.pre
  have hown : s.vm.findClass RX7 = some m.cls := findClass_of_methodNamed B.named
  have hlocks := B.notSynchronized
  subst hsz
  have hS : va_S (fun q => s.heap.size ≤ q) s.heap s.heap [] := va_S.rf
  have hP : va_P (dC, dI) vwCl [(q, .inr (6, [.ref s0, .ref s1, .ref s2]))] s.heap := hP
  have hl := lv_entry ([.ref q, .int (nI 0), .int w]) (n := 4) (Nat.le_of_ble_eq_true rfl)
  rw [lg_entry_eq]
  generalize (lg_sl ([.ref q, .int (nI 0), .int w]) ++ List.replicate (4 - (lg_sl ([.ref q, .int (nI 0), .int w])).length) Slot.unset).toArray = ls at hl ⊢
  have hl : lv_has ls 4 [(0, .ref q), (1, .int (nI 0)), (2, .int w)] := hl
  refine lv_aload_n hx hb dX7_predecessor_0 rfl (lv_at hl 0 rfl) ?_
  refine lv_iload_n hx hb dX7_predecessor_1 rfl (lv_at hl 1 rfl) ?_
  have hPc := hP.sub (ws' := [(q, .inr (6, [.ref s0, .ref s1, .ref s2]))]) [0] rfl
  have hKc := hK.sub (tys' := []) [] rfl
  refine va_csr (W.runV (As := [.int (nI 0)]) (rest := []) ⟨hx, hb, hml, hown, hts⟩ (c_X7_chosenSet_0 l dC dI q s0 s1 s2 ) (cwV 1 hts gX7_predecessor_X7_chosenSet rfl rfl rfl (by decide +kernel) ⟨Nat.le_of_ble_eq_true rfl, Nat.le_of_ble_eq_true rfl⟩) ⟨fun a U g mk q => by obtain ⟨q0, qP, qK⟩ := q; exact ⟨q0, qP, va_K.moved (u := U) (U := U.calling g mk a) (Vm.Alike.refl U.vm) qK⟩, va_recv hKc hPc (ci := 6) (q0 := 0) rfl rfl, fun U hU hW => ⟨rfl, by rw [hU]; exact hPc, va_K.moved hW.alike hKc⟩⟩ rfl rfl hl.1 rfl (lv_room (Nat.le_of_ble_eq_true rfl)) dX7_predecessor_2 ⟨Nat.le_of_ble_eq_true rfl, Nat.le_of_ble_eq_true rfl⟩) (fun r_2 hw_1 => ?_)
  have hw_1 := hw_1.symm
  subst hw_1
  refine lv_astore_n (lv' := [(3, .ref s0), (0, .ref q), (1, .int (nI 0)), (2, .int w)]) hx hb dX7_predecessor_5 rfl hl (by decide) rfl (fun ls hl => ?_)
  refine lv_iload_n hx hb dX7_predecessor_6 rfl (lv_at hl 3 rfl) ?_
  have hPc := hP.sub (ws' := []) [] rfl
  have hKc := hK.sub (tys' := []) [] rfl
  have hDc := hD.sub (ws' := []) [] (by decide) rfl
  exact vx_callv (vx_runS (As := [.int w]) (rest := []) ⟨hx, hb, hml, hown, hts⟩ (x_X7_needNumber l hls dC dI w sa s.heap.size (by first | assumption | omega)) (va_cwS 1 hts gX7_predecessor_X7_needNumber rfl rfl rfl (by decide +kernel) ⟨Nat.le_of_ble_eq_true rfl, Nat.le_of_ble_eq_true rfl⟩) ⟨fun a U g mk q => by obtain ⟨q0, q1, qT, qP, qK, qD⟩ := q; exact ⟨q0, q1, TW.same (u := U) (U := U.calling g mk a) rfl qT, qP, va_K.moved (u := U) (U := U.calling g mk a) (Vm.Alike.refl U.vm) qK, qD⟩, fun U hU hW => ⟨rfl, by rw [hU], by rw [hU]; exact TW.warm hW hT, by rw [hU]; exact hPc, va_K.moved hW.alike hKc, hDc.weaken (fun _ _ _ _ => trivial)⟩⟩ rfl rfl hl.1 rfl (lv_room (Nat.le_of_ble_eq_true rfl)) dX7_predecessor_7 ⟨Nat.le_of_ble_eq_true rfl, Nat.le_of_ble_eq_true rfl⟩) hS (fun q h9 h8 => absurd h8 (Nat.not_le_of_lt h9)) (fun q h8 => Nat.le_trans hS.1 h8) (fun q h9 h8 => absurd h8 (Nat.not_le_of_lt h9)) (fun E9 ce9 q9 u9 t9 H9 l9 ht9 hvm9 hu9 hE9 hz9 hk9 hS9 hce9 hcv9 hcl9 => vx_out (fun x h => (hcat x h).elim) hlocks hce9 hcv9 hcl9 (fun t8 ht8 ha8 => ⟨(), trivial, hE9, by rw [ht8]; exact hz9, fun q h1 h2 => by rw [ht8]; exact hk9 q h1 h2⟩) hS9.2.2 (Nat.le_of_ble_eq_true rfl) (Nat.le_of_ble_eq_true rfl)) (fun u9 t9 H9 l9 ht9 hvm9 hu9 hB9 hz9 hk9 hS9 => hu9.elim)
set_option maxHeartbeats 4000000 in
set_option maxRecDepth 100000 in
/-- rank_n0 throws IllegalArgumentException -/
theorem x_X7_rank_n0 (l : Launch) (hls : l.stackTraces = false) (dC : Nat → ClassId) (dI : Nat → Nat → Nat) (q : Nat) (s0 : Nat) (s1 : Nat) (s2 : Nat) (w : Int32) (sa sz : Nat) (hW : isN w = false) : vx_Met l yX7_rank wsX7_rank ({ frames := 7, cells := 1, slots := 6, locals := 102 }) (va_Pc [.ref q, .int (nI 0), .int w] (fun U => U.heap.size = sz ∧ TW "java/lang/IllegalArgumentException" 153 "the number is out of range" sa (fun q => sz ≤ q) U U.heap ∧ va_P (dC, dI) vwCl [(q, .inr (6, [.ref s0, .ref s1, .ref s2]))] U.heap ∧ va_K (dC, dI) vwCl [] U ∧ va_D (fun _ => True) [(q, .inr (6, [.ref s0, .ref s1, .ref s2]))])) (va_Qv (fun _ : Unit => False) (fun _ _ => True) (fun q => sz ≤ q)) (vx_X (fun _ : Unit => True) (fun E _ _ => E = "java/lang/IllegalArgumentException") (fun q => sz ≤ q)) 1 6 (fun q => sz ≤ q) := by
  refine vx_ofW (cc := cX7_rank) (maxL := 4) (ret := (some .int)) (by decide) rfl ?_
  intro p e s m args below meth c s₁ B hml hcat hv
  obtain ⟨rfl, hsz, hT, hP, hK, hD⟩ := hv
  have hx := B.exec
  have hb := B.bytes
  have hr := B.returns
  have hts := atoms_spec (ws := wsX7_rank) B.pre
  have hown : s.vm.findClass RX7 = some m.cls := findClass_of_methodNamed B.named
  have hlocks := B.notSynchronized
  subst hsz
  have hS : va_S (fun q => s.heap.size ≤ q) s.heap s.heap [] := va_S.rf
  have hP : va_P (dC, dI) vwCl [(q, .inr (6, [.ref s0, .ref s1, .ref s2]))] s.heap := hP
  have hl := lv_entry ([.ref q, .int (nI 0), .int w]) (n := 4) (Nat.le_of_ble_eq_true rfl)
  rw [lg_entry_eq]
  generalize (lg_sl ([.ref q, .int (nI 0), .int w]) ++ List.replicate (4 - (lg_sl ([.ref q, .int (nI 0), .int w])).length) Slot.unset).toArray = ls at hl ⊢
  have hl : lv_has ls 4 [(0, .ref q), (1, .int (nI 0)), (2, .int w)] := hl
  refine lv_aload_n hx hb dX7_rank_0 rfl (lv_at hl 0 rfl) ?_
  refine lv_iload_n hx hb dX7_rank_1 rfl (lv_at hl 1 rfl) ?_
  have hPc := hP.sub (ws' := [(q, .inr (6, [.ref s0, .ref s1, .ref s2]))]) [0] rfl
  have hKc := hK.sub (tys' := []) [] rfl
  refine va_csr (W.runV (As := [.int (nI 0)]) (rest := []) ⟨hx, hb, hml, hown, hts⟩ (c_X7_chosenSet_0 l dC dI q s0 s1 s2 ) (cwV 1 hts gX7_rank_X7_chosenSet rfl rfl rfl (by decide +kernel) ⟨Nat.le_of_ble_eq_true rfl, Nat.le_of_ble_eq_true rfl⟩) ⟨fun a U g mk q => by obtain ⟨q0, qP, qK⟩ := q; exact ⟨q0, qP, va_K.moved (u := U) (U := U.calling g mk a) (Vm.Alike.refl U.vm) qK⟩, va_recv hKc hPc (ci := 6) (q0 := 0) rfl rfl, fun U hU hW => ⟨rfl, by rw [hU]; exact hPc, va_K.moved hW.alike hKc⟩⟩ rfl rfl hl.1 rfl (lv_room (Nat.le_of_ble_eq_true rfl)) dX7_rank_2 ⟨Nat.le_of_ble_eq_true rfl, Nat.le_of_ble_eq_true rfl⟩) (fun r_2 hw_1 => ?_)
  have hw_1 := hw_1.symm
  subst hw_1
  refine lv_astore_n (lv' := [(3, .ref s0), (0, .ref q), (1, .int (nI 0)), (2, .int w)]) hx hb dX7_rank_5 rfl hl (by decide) rfl (fun ls hl => ?_)
  refine lv_iload_n hx hb dX7_rank_6 rfl (lv_at hl 3 rfl) ?_
  have hPc := hP.sub (ws' := []) [] rfl
  have hKc := hK.sub (tys' := []) [] rfl
  have hDc := hD.sub (ws' := []) [] (by decide) rfl
  exact vx_callv (vx_runS (As := [.int w]) (rest := []) ⟨hx, hb, hml, hown, hts⟩ (x_X7_needNumber l hls dC dI w sa s.heap.size (by first | assumption | omega)) (va_cwS 1 hts gX7_rank_X7_needNumber rfl rfl rfl (by decide +kernel) ⟨Nat.le_of_ble_eq_true rfl, Nat.le_of_ble_eq_true rfl⟩) ⟨fun a U g mk q => by obtain ⟨q0, q1, qT, qP, qK, qD⟩ := q; exact ⟨q0, q1, TW.same (u := U) (U := U.calling g mk a) rfl qT, qP, va_K.moved (u := U) (U := U.calling g mk a) (Vm.Alike.refl U.vm) qK, qD⟩, fun U hU hW => ⟨rfl, by rw [hU], by rw [hU]; exact TW.warm hW hT, by rw [hU]; exact hPc, va_K.moved hW.alike hKc, hDc.weaken (fun _ _ _ _ => trivial)⟩⟩ rfl rfl hl.1 rfl (lv_room (Nat.le_of_ble_eq_true rfl)) dX7_rank_7 ⟨Nat.le_of_ble_eq_true rfl, Nat.le_of_ble_eq_true rfl⟩) hS (fun q h9 h8 => absurd h8 (Nat.not_le_of_lt h9)) (fun q h8 => Nat.le_trans hS.1 h8) (fun q h9 h8 => absurd h8 (Nat.not_le_of_lt h9)) (fun E9 ce9 q9 u9 t9 H9 l9 ht9 hvm9 hu9 hE9 hz9 hk9 hS9 hce9 hcv9 hcl9 => vx_out (fun x h => (hcat x h).elim) hlocks hce9 hcv9 hcl9 (fun t8 ht8 ha8 => ⟨(), trivial, hE9, by rw [ht8]; exact hz9, fun q h1 h2 => by rw [ht8]; exact hk9 q h1 h2⟩) hS9.2.2 (Nat.le_of_ble_eq_true rfl) (Nat.le_of_ble_eq_true rfl)) (fun u9 t9 H9 l9 ht9 hvm9 hu9 hB9 hz9 hk9 hS9 => hu9.elim)
set_option maxHeartbeats 4000000 in
set_option maxRecDepth 100000 in
/-- steps_n0 throws IllegalArgumentException -/
theorem x_X7_steps_n0 (l : Launch) (hls : l.stackTraces = false) (dC : Nat → ClassId) (dI : Nat → Nat → Nat) (q : Nat) (s0 : Nat) (s1 : Nat) (s2 : Nat) (w : Int32) (sa sz : Nat) (hW : isN w = false) : vx_Met l yX7_steps wsX7_steps ({ frames := 7, cells := 1, slots := 6, locals := 102 }) (va_Pc [.ref q, .int (nI 0), .int w] (fun U => U.heap.size = sz ∧ TW "java/lang/IllegalArgumentException" 153 "the number is out of range" sa (fun q => sz ≤ q) U U.heap ∧ va_P (dC, dI) vwCl [(q, .inr (6, [.ref s0, .ref s1, .ref s2]))] U.heap ∧ va_K (dC, dI) vwCl [] U ∧ va_D (fun _ => True) [(q, .inr (6, [.ref s0, .ref s1, .ref s2]))])) (va_Qv (fun _ : Unit => False) (fun _ _ => True) (fun q => sz ≤ q)) (vx_X (fun _ : Unit => True) (fun E _ _ => E = "java/lang/IllegalArgumentException") (fun q => sz ≤ q)) 1 6 (fun q => sz ≤ q) := by
  refine vx_ofW (cc := cX7_steps) (maxL := 4) (ret := (some .int)) (by decide) rfl ?_
  intro p e s m args below meth c s₁ B hml hcat hv
  obtain ⟨rfl, hsz, hT, hP, hK, hD⟩ := hv
  have hx := B.exec
  have hb := B.bytes
  have hr := B.returns
  have hts := atoms_spec (ws := wsX7_steps) B.pre
  have hown : s.vm.findClass RX7 = some m.cls := findClass_of_methodNamed B.named
  have hlocks := B.notSynchronized
  subst hsz
  have hS : va_S (fun q => s.heap.size ≤ q) s.heap s.heap [] := va_S.rf
  have hP : va_P (dC, dI) vwCl [(q, .inr (6, [.ref s0, .ref s1, .ref s2]))] s.heap := hP
  have hl := lv_entry ([.ref q, .int (nI 0), .int w]) (n := 4) (Nat.le_of_ble_eq_true rfl)
  rw [lg_entry_eq]
  generalize (lg_sl ([.ref q, .int (nI 0), .int w]) ++ List.replicate (4 - (lg_sl ([.ref q, .int (nI 0), .int w])).length) Slot.unset).toArray = ls at hl ⊢
  have hl : lv_has ls 4 [(0, .ref q), (1, .int (nI 0)), (2, .int w)] := hl
  refine lv_aload_n hx hb dX7_steps_0 rfl (lv_at hl 0 rfl) ?_
  refine lv_iload_n hx hb dX7_steps_1 rfl (lv_at hl 1 rfl) ?_
  have hPc := hP.sub (ws' := [(q, .inr (6, [.ref s0, .ref s1, .ref s2]))]) [0] rfl
  have hKc := hK.sub (tys' := []) [] rfl
  refine va_csr (W.runV (As := [.int (nI 0)]) (rest := []) ⟨hx, hb, hml, hown, hts⟩ (c_X7_chosenSet_0 l dC dI q s0 s1 s2 ) (cwV 1 hts gX7_steps_X7_chosenSet rfl rfl rfl (by decide +kernel) ⟨Nat.le_of_ble_eq_true rfl, Nat.le_of_ble_eq_true rfl⟩) ⟨fun a U g mk q => by obtain ⟨q0, qP, qK⟩ := q; exact ⟨q0, qP, va_K.moved (u := U) (U := U.calling g mk a) (Vm.Alike.refl U.vm) qK⟩, va_recv hKc hPc (ci := 6) (q0 := 0) rfl rfl, fun U hU hW => ⟨rfl, by rw [hU]; exact hPc, va_K.moved hW.alike hKc⟩⟩ rfl rfl hl.1 rfl (lv_room (Nat.le_of_ble_eq_true rfl)) dX7_steps_2 ⟨Nat.le_of_ble_eq_true rfl, Nat.le_of_ble_eq_true rfl⟩) (fun r_2 hw_1 => ?_)
  have hw_1 := hw_1.symm
  subst hw_1
  refine lv_astore_n (lv' := [(3, .ref s0), (0, .ref q), (1, .int (nI 0)), (2, .int w)]) hx hb dX7_steps_5 rfl hl (by decide) rfl (fun ls hl => ?_)
  refine lv_iload_n hx hb dX7_steps_6 rfl (lv_at hl 3 rfl) ?_
  have hPc := hP.sub (ws' := []) [] rfl
  have hKc := hK.sub (tys' := []) [] rfl
  have hDc := hD.sub (ws' := []) [] (by decide) rfl
  exact vx_callv (vx_runS (As := [.int w]) (rest := []) ⟨hx, hb, hml, hown, hts⟩ (x_X7_needNumber l hls dC dI w sa s.heap.size (by first | assumption | omega)) (va_cwS 1 hts gX7_steps_X7_needNumber rfl rfl rfl (by decide +kernel) ⟨Nat.le_of_ble_eq_true rfl, Nat.le_of_ble_eq_true rfl⟩) ⟨fun a U g mk q => by obtain ⟨q0, q1, qT, qP, qK, qD⟩ := q; exact ⟨q0, q1, TW.same (u := U) (U := U.calling g mk a) rfl qT, qP, va_K.moved (u := U) (U := U.calling g mk a) (Vm.Alike.refl U.vm) qK, qD⟩, fun U hU hW => ⟨rfl, by rw [hU], by rw [hU]; exact TW.warm hW hT, by rw [hU]; exact hPc, va_K.moved hW.alike hKc, hDc.weaken (fun _ _ _ _ => trivial)⟩⟩ rfl rfl hl.1 rfl (lv_room (Nat.le_of_ble_eq_true rfl)) dX7_steps_7 ⟨Nat.le_of_ble_eq_true rfl, Nat.le_of_ble_eq_true rfl⟩) hS (fun q h9 h8 => absurd h8 (Nat.not_le_of_lt h9)) (fun q h8 => Nat.le_trans hS.1 h8) (fun q h9 h8 => absurd h8 (Nat.not_le_of_lt h9)) (fun E9 ce9 q9 u9 t9 H9 l9 ht9 hvm9 hu9 hE9 hz9 hk9 hS9 hce9 hcv9 hcl9 => vx_out (fun x h => (hcat x h).elim) hlocks hce9 hcv9 hcl9 (fun t8 ht8 ha8 => ⟨(), trivial, hE9, by rw [ht8]; exact hz9, fun q h1 h2 => by rw [ht8]; exact hk9 q h1 h2⟩) hS9.2.2 (Nat.le_of_ble_eq_true rfl) (Nat.le_of_ble_eq_true rfl)) (fun u9 t9 H9 l9 ht9 hvm9 hu9 hB9 hz9 hk9 hS9 => hu9.elim)
set_option maxHeartbeats 4000000 in
set_option maxRecDepth 100000 in
/-- longestMatch_n0 throws IllegalArgumentException -/
theorem x_X7_longestMatch_n0 (l : Launch) (hls : l.stackTraces = false) (dC : Nat → ClassId) (dI : Nat → Nat → Nat) (q : Nat) (s0 : Nat) (s1 : Nat) (s2 : Nat) (w : Int32) (sa sz : Nat) (hW : isN w = false) : vx_Met l yX7_longestMatch wsX7_longestMatch ({ frames := 7, cells := 1, slots := 6, locals := 102 }) (va_Pc [.ref q, .int (nI 0), .int w] (fun U => U.heap.size = sz ∧ TW "java/lang/IllegalArgumentException" 153 "the number is out of range" sa (fun q => sz ≤ q) U U.heap ∧ va_P (dC, dI) vwCl [(q, .inr (6, [.ref s0, .ref s1, .ref s2]))] U.heap ∧ va_K (dC, dI) vwCl [] U ∧ va_D (fun _ => True) [(q, .inr (6, [.ref s0, .ref s1, .ref s2]))])) (va_Qv (fun _ : Unit => False) (fun _ _ => True) (fun q => sz ≤ q)) (vx_X (fun _ : Unit => True) (fun E _ _ => E = "java/lang/IllegalArgumentException") (fun q => sz ≤ q)) 1 6 (fun q => sz ≤ q) := by
  refine vx_ofW (cc := cX7_longestMatch) (maxL := 4) (ret := (some .int)) (by decide) rfl ?_
  intro p e s m args below meth c s₁ B hml hcat hv
  obtain ⟨rfl, hsz, hT, hP, hK, hD⟩ := hv
  have hx := B.exec
  have hb := B.bytes
  have hr := B.returns
  have hts := atoms_spec (ws := wsX7_longestMatch) B.pre
  have hown : s.vm.findClass RX7 = some m.cls := findClass_of_methodNamed B.named
  have hlocks := B.notSynchronized
  subst hsz
  have hS : va_S (fun q => s.heap.size ≤ q) s.heap s.heap [] := va_S.rf
  have hP : va_P (dC, dI) vwCl [(q, .inr (6, [.ref s0, .ref s1, .ref s2]))] s.heap := hP
  have hl := lv_entry ([.ref q, .int (nI 0), .int w]) (n := 4) (Nat.le_of_ble_eq_true rfl)
  rw [lg_entry_eq]
  generalize (lg_sl ([.ref q, .int (nI 0), .int w]) ++ List.replicate (4 - (lg_sl ([.ref q, .int (nI 0), .int w])).length) Slot.unset).toArray = ls at hl ⊢
  have hl : lv_has ls 4 [(0, .ref q), (1, .int (nI 0)), (2, .int w)] := hl
  refine lv_aload_n hx hb dX7_longestMatch_0 rfl (lv_at hl 0 rfl) ?_
  refine lv_iload_n hx hb dX7_longestMatch_1 rfl (lv_at hl 1 rfl) ?_
  have hPc := hP.sub (ws' := [(q, .inr (6, [.ref s0, .ref s1, .ref s2]))]) [0] rfl
  have hKc := hK.sub (tys' := []) [] rfl
  refine va_csr (W.runV (As := [.int (nI 0)]) (rest := []) ⟨hx, hb, hml, hown, hts⟩ (c_X7_chosenSet_0 l dC dI q s0 s1 s2 ) (cwV 1 hts gX7_longestMatch_X7_chosenSet rfl rfl rfl (by decide +kernel) ⟨Nat.le_of_ble_eq_true rfl, Nat.le_of_ble_eq_true rfl⟩) ⟨fun a U g mk q => by obtain ⟨q0, qP, qK⟩ := q; exact ⟨q0, qP, va_K.moved (u := U) (U := U.calling g mk a) (Vm.Alike.refl U.vm) qK⟩, va_recv hKc hPc (ci := 6) (q0 := 0) rfl rfl, fun U hU hW => ⟨rfl, by rw [hU]; exact hPc, va_K.moved hW.alike hKc⟩⟩ rfl rfl hl.1 rfl (lv_room (Nat.le_of_ble_eq_true rfl)) dX7_longestMatch_2 ⟨Nat.le_of_ble_eq_true rfl, Nat.le_of_ble_eq_true rfl⟩) (fun r_2 hw_1 => ?_)
  have hw_1 := hw_1.symm
  subst hw_1
  refine lv_astore_n (lv' := [(3, .ref s0), (0, .ref q), (1, .int (nI 0)), (2, .int w)]) hx hb dX7_longestMatch_5 rfl hl (by decide) rfl (fun ls hl => ?_)
  refine lv_iload_n hx hb dX7_longestMatch_6 rfl (lv_at hl 3 rfl) ?_
  have hPc := hP.sub (ws' := []) [] rfl
  have hKc := hK.sub (tys' := []) [] rfl
  have hDc := hD.sub (ws' := []) [] (by decide) rfl
  exact vx_callv (vx_runS (As := [.int w]) (rest := []) ⟨hx, hb, hml, hown, hts⟩ (x_X7_needNumber l hls dC dI w sa s.heap.size (by first | assumption | omega)) (va_cwS 1 hts gX7_longestMatch_X7_needNumber rfl rfl rfl (by decide +kernel) ⟨Nat.le_of_ble_eq_true rfl, Nat.le_of_ble_eq_true rfl⟩) ⟨fun a U g mk q => by obtain ⟨q0, q1, qT, qP, qK, qD⟩ := q; exact ⟨q0, q1, TW.same (u := U) (U := U.calling g mk a) rfl qT, qP, va_K.moved (u := U) (U := U.calling g mk a) (Vm.Alike.refl U.vm) qK, qD⟩, fun U hU hW => ⟨rfl, by rw [hU], by rw [hU]; exact TW.warm hW hT, by rw [hU]; exact hPc, va_K.moved hW.alike hKc, hDc.weaken (fun _ _ _ _ => trivial)⟩⟩ rfl rfl hl.1 rfl (lv_room (Nat.le_of_ble_eq_true rfl)) dX7_longestMatch_7 ⟨Nat.le_of_ble_eq_true rfl, Nat.le_of_ble_eq_true rfl⟩) hS (fun q h9 h8 => absurd h8 (Nat.not_le_of_lt h9)) (fun q h8 => Nat.le_trans hS.1 h8) (fun q h9 h8 => absurd h8 (Nat.not_le_of_lt h9)) (fun E9 ce9 q9 u9 t9 H9 l9 ht9 hvm9 hu9 hE9 hz9 hk9 hS9 hce9 hcv9 hcl9 => vx_out (fun x h => (hcat x h).elim) hlocks hce9 hcv9 hcl9 (fun t8 ht8 ha8 => ⟨(), trivial, hE9, by rw [ht8]; exact hz9, fun q h1 h2 => by rw [ht8]; exact hk9 q h1 h2⟩) hS9.2.2 (Nat.le_of_ble_eq_true rfl) (Nat.le_of_ble_eq_true rfl)) (fun u9 t9 H9 l9 ht9 hvm9 hu9 hB9 hz9 hk9 hS9 => hu9.elim)
set_option maxHeartbeats 4000000 in
set_option maxRecDepth 100000 in
/-- probes_n0 throws IllegalArgumentException -/
theorem x_X7_probes_n0 (l : Launch) (hls : l.stackTraces = false) (dC : Nat → ClassId) (dI : Nat → Nat → Nat) (q : Nat) (s0 : Nat) (s1 : Nat) (s2 : Nat) (w : Int32) (sa sz : Nat) (hW : isN w = false) : vx_Met l yX7_probes wsX7_probes ({ frames := 7, cells := 1, slots := 6, locals := 102 }) (va_Pc [.ref q, .int (nI 0), .int w] (fun U => U.heap.size = sz ∧ TW "java/lang/IllegalArgumentException" 153 "the number is out of range" sa (fun q => sz ≤ q) U U.heap ∧ va_P (dC, dI) vwCl [(q, .inr (6, [.ref s0, .ref s1, .ref s2]))] U.heap ∧ va_K (dC, dI) vwCl [] U ∧ va_D (fun _ => True) [(q, .inr (6, [.ref s0, .ref s1, .ref s2]))])) (va_Qv (fun _ : Unit => False) (fun _ _ => True) (fun q => sz ≤ q)) (vx_X (fun _ : Unit => True) (fun E _ _ => E = "java/lang/IllegalArgumentException") (fun q => sz ≤ q)) 1 6 (fun q => sz ≤ q) := by
  refine vx_ofW (cc := cX7_probes) (maxL := 4) (ret := (some .int)) (by decide) rfl ?_
  intro p e s m args below meth c s₁ B hml hcat hv
  obtain ⟨rfl, hsz, hT, hP, hK, hD⟩ := hv
  have hx := B.exec
  have hb := B.bytes
  have hr := B.returns
  have hts := atoms_spec (ws := wsX7_probes) B.pre
  have hown : s.vm.findClass RX7 = some m.cls := findClass_of_methodNamed B.named
  have hlocks := B.notSynchronized
  subst hsz
  have hS : va_S (fun q => s.heap.size ≤ q) s.heap s.heap [] := va_S.rf
  have hP : va_P (dC, dI) vwCl [(q, .inr (6, [.ref s0, .ref s1, .ref s2]))] s.heap := hP
  have hl := lv_entry ([.ref q, .int (nI 0), .int w]) (n := 4) (Nat.le_of_ble_eq_true rfl)
  rw [lg_entry_eq]
  generalize (lg_sl ([.ref q, .int (nI 0), .int w]) ++ List.replicate (4 - (lg_sl ([.ref q, .int (nI 0), .int w])).length) Slot.unset).toArray = ls at hl ⊢
  have hl : lv_has ls 4 [(0, .ref q), (1, .int (nI 0)), (2, .int w)] := hl
  refine lv_aload_n hx hb dX7_probes_0 rfl (lv_at hl 0 rfl) ?_
  refine lv_iload_n hx hb dX7_probes_1 rfl (lv_at hl 1 rfl) ?_
  have hPc := hP.sub (ws' := [(q, .inr (6, [.ref s0, .ref s1, .ref s2]))]) [0] rfl
  have hKc := hK.sub (tys' := []) [] rfl
  refine va_csr (W.runV (As := [.int (nI 0)]) (rest := []) ⟨hx, hb, hml, hown, hts⟩ (c_X7_chosenSet_0 l dC dI q s0 s1 s2 ) (cwV 1 hts gX7_probes_X7_chosenSet rfl rfl rfl (by decide +kernel) ⟨Nat.le_of_ble_eq_true rfl, Nat.le_of_ble_eq_true rfl⟩) ⟨fun a U g mk q => by obtain ⟨q0, qP, qK⟩ := q; exact ⟨q0, qP, va_K.moved (u := U) (U := U.calling g mk a) (Vm.Alike.refl U.vm) qK⟩, va_recv hKc hPc (ci := 6) (q0 := 0) rfl rfl, fun U hU hW => ⟨rfl, by rw [hU]; exact hPc, va_K.moved hW.alike hKc⟩⟩ rfl rfl hl.1 rfl (lv_room (Nat.le_of_ble_eq_true rfl)) dX7_probes_2 ⟨Nat.le_of_ble_eq_true rfl, Nat.le_of_ble_eq_true rfl⟩) (fun r_2 hw_1 => ?_)
  have hw_1 := hw_1.symm
  subst hw_1
  refine lv_astore_n (lv' := [(3, .ref s0), (0, .ref q), (1, .int (nI 0)), (2, .int w)]) hx hb dX7_probes_5 rfl hl (by decide) rfl (fun ls hl => ?_)
  refine lv_iload_n hx hb dX7_probes_6 rfl (lv_at hl 3 rfl) ?_
  have hPc := hP.sub (ws' := []) [] rfl
  have hKc := hK.sub (tys' := []) [] rfl
  have hDc := hD.sub (ws' := []) [] (by decide) rfl
  exact vx_callv (vx_runS (As := [.int w]) (rest := []) ⟨hx, hb, hml, hown, hts⟩ (x_X7_needNumber l hls dC dI w sa s.heap.size (by first | assumption | omega)) (va_cwS 1 hts gX7_probes_X7_needNumber rfl rfl rfl (by decide +kernel) ⟨Nat.le_of_ble_eq_true rfl, Nat.le_of_ble_eq_true rfl⟩) ⟨fun a U g mk q => by obtain ⟨q0, q1, qT, qP, qK, qD⟩ := q; exact ⟨q0, q1, TW.same (u := U) (U := U.calling g mk a) rfl qT, qP, va_K.moved (u := U) (U := U.calling g mk a) (Vm.Alike.refl U.vm) qK, qD⟩, fun U hU hW => ⟨rfl, by rw [hU], by rw [hU]; exact TW.warm hW hT, by rw [hU]; exact hPc, va_K.moved hW.alike hKc, hDc.weaken (fun _ _ _ _ => trivial)⟩⟩ rfl rfl hl.1 rfl (lv_room (Nat.le_of_ble_eq_true rfl)) dX7_probes_7 ⟨Nat.le_of_ble_eq_true rfl, Nat.le_of_ble_eq_true rfl⟩) hS (fun q h9 h8 => absurd h8 (Nat.not_le_of_lt h9)) (fun q h8 => Nat.le_trans hS.1 h8) (fun q h9 h8 => absurd h8 (Nat.not_le_of_lt h9)) (fun E9 ce9 q9 u9 t9 H9 l9 ht9 hvm9 hu9 hE9 hz9 hk9 hS9 hce9 hcv9 hcl9 => vx_out (fun x h => (hcat x h).elim) hlocks hce9 hcv9 hcl9 (fun t8 ht8 ha8 => ⟨(), trivial, hE9, by rw [ht8]; exact hz9, fun q h1 h2 => by rw [ht8]; exact hk9 q h1 h2⟩) hS9.2.2 (Nat.le_of_ble_eq_true rfl) (Nat.le_of_ble_eq_true rfl)) (fun u9 t9 H9 l9 ht9 hvm9 hu9 hB9 hz9 hk9 hS9 => hu9.elim)
set_option maxHeartbeats 4000000 in
set_option maxRecDepth 100000 in
/-- select_p0 throws IndexOutOfBoundsException -/
theorem x_X7_select_p0 (l : Launch) (hls : l.stackTraces = false) (dC : Nat → ClassId) (dI : Nat → Nat → Nat) (q : Nat) (s0 : Nat) (s1 : Nat) (s2 : Nat) (tq : Nat) (ca : Nat) (rq : Nat) (rb : Nat) (rd : Nat) (uq : Nat) (bm : Nat) (am : Nat) (bs : Nat) (ap : Nat) (cJ : ClassId) (fm : Nat → Int64) (fs : Nat → Int64) (ft : Nat → Int64) (fc : Nat → Int64) (sm : Int64) (lo : Option Nat) (w : Int32) (sa sz : Nat) (hN : NI fm fs ft fc sm lo) (hW : pl w (fb_ct (bo fm) 4096) = false) : vx_Met l yX7_select wsX7_select ({ frames := 7, cells := 1, slots := 6, locals := 103 }) (va_Pc [.ref q, .int (nI 0), .int w] (fun U => va_Nw (.fieldLinkNest RX7 38 "SmallNumberSets$NumberSet" "buckets" "LSmallNumberSets$Buckets;" "SmallNumberSets") U ∧ U.heap.size = sz ∧ TW "java/lang/IndexOutOfBoundsException" 165 "no such cluster, level, place or bucket" sa (fun q => sz ≤ q) U U.heap ∧ va_P (dC, dI) vwCl [(q, .inr (6, [.ref s0, .ref s1, .ref s2])), (s0, .inr (3, [.ref tq, .ref rq, .ref uq])), (tq, .inr (4, [.ref ca, .long sm, .int (oI lo)])), (ca, .inl (cJ, 64, .inr (.inl fc))), (rq, .inr (5, [.ref rb])), (rb, .inr (0, [.ref rd])), (rd, .inl (cJ, 128, .inr (.inl ft))), (uq, .inr (1, [.ref bm, .ref bs])), (bm, .inr (0, [.ref am])), (am, .inl (cJ, 64, .inr (.inl fm))), (bs, .inr (0, [.ref ap])), (ap, .inl (cJ, 64, .inr (.inl fs)))] U.heap ∧ va_K (dC, dI) vwCl [(cJ, .long)] U ∧ va_D (fun _ => True) [(q, .inr (6, [.ref s0, .ref s1, .ref s2])), (s0, .inr (3, [.ref tq, .ref rq, .ref uq])), (tq, .inr (4, [.ref ca, .long sm, .int (oI lo)])), (ca, .inl (cJ, 64, .inr (.inl fc))), (rq, .inr (5, [.ref rb])), (rb, .inr (0, [.ref rd])), (rd, .inl (cJ, 128, .inr (.inl ft))), (uq, .inr (1, [.ref bm, .ref bs])), (bm, .inr (0, [.ref am])), (am, .inl (cJ, 64, .inr (.inl fm))), (bs, .inr (0, [.ref ap])), (ap, .inl (cJ, 64, .inr (.inl fs)))])) (va_Qv (fun _ : Unit => False) (fun _ _ => True) (fun q => sz ≤ q)) (vx_X (fun _ : Unit => True) (fun E _ _ => E = "java/lang/IndexOutOfBoundsException") (fun q => sz ≤ q)) 1 6 (fun q => sz ≤ q) := by
  refine vx_ofW (cc := cX7_select) (maxL := 4) (ret := (some .int)) (by decide) rfl ?_
  intro p e s m args below meth c s₁ B hml hcat hv
  obtain ⟨rfl, nw0, hsz, hT, hP, hK, hD⟩ := hv
  have hx := B.exec
  have hb := B.bytes
  have hr := B.returns
  have hts := atoms_spec (ws := wsX7_select) B.pre
  have hown : s.vm.findClass RX7 = some m.cls := findClass_of_methodNamed B.named
  have hlocks := B.notSynchronized
  subst hsz
  have hS : va_S (fun q => s.heap.size ≤ q) s.heap s.heap [] := va_S.rf
  have hP : va_P (dC, dI) vwCl [(q, .inr (6, [.ref s0, .ref s1, .ref s2])), (s0, .inr (3, [.ref tq, .ref rq, .ref uq])), (tq, .inr (4, [.ref ca, .long sm, .int (oI lo)])), (ca, .inl (cJ, 64, .inr (.inl fc))), (rq, .inr (5, [.ref rb])), (rb, .inr (0, [.ref rd])), (rd, .inl (cJ, 128, .inr (.inl ft))), (uq, .inr (1, [.ref bm, .ref bs])), (bm, .inr (0, [.ref am])), (am, .inl (cJ, 64, .inr (.inl fm))), (bs, .inr (0, [.ref ap])), (ap, .inl (cJ, 64, .inr (.inl fs)))] s.heap := hP
  have hl := lv_entry ([.ref q, .int (nI 0), .int w]) (n := 4) (Nat.le_of_ble_eq_true rfl)
  rw [lg_entry_eq]
  generalize (lg_sl ([.ref q, .int (nI 0), .int w]) ++ List.replicate (4 - (lg_sl ([.ref q, .int (nI 0), .int w])).length) Slot.unset).toArray = ls at hl ⊢
  have hl : lv_has ls 4 [(0, .ref q), (1, .int (nI 0)), (2, .int w)] := hl
  refine lv_aload_n hx hb dX7_select_0 rfl (lv_at hl 0 rfl) ?_
  refine lv_iload_n hx hb dX7_select_1 rfl (lv_at hl 1 rfl) ?_
  have hPc := hP.sub (ws' := [(q, .inr (6, [.ref s0, .ref s1, .ref s2]))]) [0] rfl
  have hKc := hK.sub (tys' := []) [] rfl
  refine va_csr (W.runV (As := [.int (nI 0)]) (rest := []) ⟨hx, hb, hml, hown, hts⟩ (c_X7_chosenSet_0 l dC dI q s0 s1 s2 ) (cwV 1 hts gX7_select_X7_chosenSet rfl rfl rfl (by decide +kernel) ⟨Nat.le_of_ble_eq_true rfl, Nat.le_of_ble_eq_true rfl⟩) ⟨fun a U g mk q => by obtain ⟨q0, qP, qK⟩ := q; exact ⟨q0, qP, va_K.moved (u := U) (U := U.calling g mk a) (Vm.Alike.refl U.vm) qK⟩, va_recv hKc hPc (ci := 6) (q0 := 0) rfl rfl, fun U hU hW => ⟨rfl, by rw [hU]; exact hPc, va_K.moved hW.alike hKc⟩⟩ rfl rfl hl.1 rfl (lv_room (Nat.le_of_ble_eq_true rfl)) dX7_select_2 ⟨Nat.le_of_ble_eq_true rfl, Nat.le_of_ble_eq_true rfl⟩) (fun r_2 hw_1 => ?_)
  have hw_1 := hw_1.symm
  subst hw_1
  refine lv_astore_n (lv' := [(3, .ref s0), (0, .ref q), (1, .int (nI 0)), (2, .int w)]) hx hb dX7_select_5 rfl hl (by decide) rfl (fun ls hl => ?_)
  refine lv_iload_n hx hb dX7_select_6 rfl (lv_at hl 3 rfl) ?_
  refine lv_aload_n hx hb dX7_select_7 rfl (lv_at hl 0 rfl) ?_
  refine va_getN (D := (dC, dI)) (ci := 3) (v := .ref uq) (C := RX3) (T := TX3) (N := 3) hx hb hts (by decide +kernel) hown hK hP 1 rfl rfl 2 (by decide) (va_Nw.use rfl nw0) (fun _ h9 => h9) rfl dX7_select_8 ?_
  have hPc := hP.sub (ws' := [(uq, .inr (1, [.ref bm, .ref bs])), (bm, .inr (0, [.ref am])), (am, .inl (cJ, 64, .inr (.inl fm))), (bs, .inr (0, [.ref ap])), (ap, .inl (cJ, 64, .inr (.inl fs)))]) [7, 8, 9, 10, 11] rfl
  have hKc := hK.sub (tys' := [(cJ, .long)]) [0] rfl
  refine vp_callSi (W.runV (As := []) (rest := [.int w]) ⟨hx, hb, hml, hown, hts⟩ (c_X1_memberCount l dC dI uq bm am bs ap cJ fm fs ) (cwV 0 hts gX7_select_X1_memberCount rfl rfl rfl (by decide +kernel) ⟨Nat.le_of_ble_eq_true rfl, Nat.le_of_ble_eq_true rfl⟩) ⟨fun a U g mk q => by obtain ⟨q0, qP, qK⟩ := q; exact ⟨q0, qP, va_K.moved (u := U) (U := U.calling g mk a) (Vm.Alike.refl U.vm) qK⟩, va_recv hKc hPc (ci := 1) (q0 := 0) rfl rfl, fun U hU hW => ⟨rfl, by rw [hU]; exact hPc, va_K.moved hW.alike hKc⟩⟩ rfl rfl hl.1 rfl (lv_room (Nat.le_of_ble_eq_true rfl)) dX7_select_11 ⟨Nat.le_of_ble_eq_true rfl, Nat.le_of_ble_eq_true rfl⟩) (fun r_4 hw_3 => ?_)
  subst hw_3
  have hPc := hP.sub (ws' := []) [] rfl
  have hKc := hK.sub (tys' := []) [] rfl
  have hDc := hD.sub (ws' := []) [] (by decide) rfl
  exact vx_callv (vx_runS (As := [.int w, .int (nI (fb_ct (bo fm) 4096))]) (rest := []) ⟨hx, hb, hml, hown, hts⟩ (x_X7_needPlace l hls dC dI w (fb_ct (bo fm) 4096) sa s.heap.size (by first | assumption | omega)) (va_cwS 2 hts gX7_select_X7_needPlace rfl rfl rfl (by decide +kernel) ⟨Nat.le_of_ble_eq_true rfl, Nat.le_of_ble_eq_true rfl⟩) ⟨fun a U g mk q => by obtain ⟨q0, q1, qT, qP, qK, qD⟩ := q; exact ⟨q0, q1, TW.same (u := U) (U := U.calling g mk a) rfl qT, qP, va_K.moved (u := U) (U := U.calling g mk a) (Vm.Alike.refl U.vm) qK, qD⟩, fun U hU hW => ⟨rfl, by rw [hU], by rw [hU]; exact TW.warm hW hT, by rw [hU]; exact hPc, va_K.moved hW.alike hKc, hDc.weaken (fun _ _ _ _ => trivial)⟩⟩ rfl rfl hl.1 rfl (lv_room (Nat.le_of_ble_eq_true rfl)) dX7_select_14 ⟨Nat.le_of_ble_eq_true rfl, Nat.le_of_ble_eq_true rfl⟩) hS (fun q h9 h8 => absurd h8 (Nat.not_le_of_lt h9)) (fun q h8 => Nat.le_trans hS.1 h8) (fun q h9 h8 => absurd h8 (Nat.not_le_of_lt h9)) (fun E9 ce9 q9 u9 t9 H9 l9 ht9 hvm9 hu9 hE9 hz9 hk9 hS9 hce9 hcv9 hcl9 => vx_out (fun x h => (hcat x h).elim) hlocks hce9 hcv9 hcl9 (fun t8 ht8 ha8 => ⟨(), trivial, hE9, by rw [ht8]; exact hz9, fun q h1 h2 => by rw [ht8]; exact hk9 q h1 h2⟩) hS9.2.2 (Nat.le_of_ble_eq_true rfl) (Nat.le_of_ble_eq_true rfl)) (fun u9 t9 H9 l9 ht9 hvm9 hu9 hB9 hz9 hk9 hS9 => hu9.elim)
set_option maxHeartbeats 4000000 in
set_option maxRecDepth 100000 in
/-- contains_n1 throws IllegalArgumentException -/
theorem x_X7_contains_n1 (l : Launch) (hls : l.stackTraces = false) (dC : Nat → ClassId) (dI : Nat → Nat → Nat) (q : Nat) (s0 : Nat) (s1 : Nat) (s2 : Nat) (w : Int32) (sa sz : Nat) (hW : isN w = false) : vx_Met l yX7_contains wsX7_contains ({ frames := 7, cells := 1, slots := 6, locals := 102 }) (va_Pc [.ref q, .int (nI 1), .int w] (fun U => U.heap.size = sz ∧ TW "java/lang/IllegalArgumentException" 153 "the number is out of range" sa (fun q => sz ≤ q) U U.heap ∧ va_P (dC, dI) vwCl [(q, .inr (6, [.ref s0, .ref s1, .ref s2]))] U.heap ∧ va_K (dC, dI) vwCl [] U ∧ va_D (fun _ => True) [(q, .inr (6, [.ref s0, .ref s1, .ref s2]))])) (va_Qv (fun _ : Unit => False) (fun _ _ => True) (fun q => sz ≤ q)) (vx_X (fun _ : Unit => True) (fun E _ _ => E = "java/lang/IllegalArgumentException") (fun q => sz ≤ q)) 1 6 (fun q => sz ≤ q) := by
  refine vx_ofW (cc := cX7_contains) (maxL := 4) (ret := (some .boolean)) (by decide) rfl ?_
  intro p e s m args below meth c s₁ B hml hcat hv
  obtain ⟨rfl, hsz, hT, hP, hK, hD⟩ := hv
  have hx := B.exec
  have hb := B.bytes
  have hr := B.returns
  have hts := atoms_spec (ws := wsX7_contains) B.pre
  have hown : s.vm.findClass RX7 = some m.cls := findClass_of_methodNamed B.named
  have hlocks := B.notSynchronized
  subst hsz
  have hS : va_S (fun q => s.heap.size ≤ q) s.heap s.heap [] := va_S.rf
  have hP : va_P (dC, dI) vwCl [(q, .inr (6, [.ref s0, .ref s1, .ref s2]))] s.heap := hP
  have hl := lv_entry ([.ref q, .int (nI 1), .int w]) (n := 4) (Nat.le_of_ble_eq_true rfl)
  rw [lg_entry_eq]
  generalize (lg_sl ([.ref q, .int (nI 1), .int w]) ++ List.replicate (4 - (lg_sl ([.ref q, .int (nI 1), .int w])).length) Slot.unset).toArray = ls at hl ⊢
  have hl : lv_has ls 4 [(0, .ref q), (1, .int (nI 1)), (2, .int w)] := hl
  refine lv_aload_n hx hb dX7_contains_0 rfl (lv_at hl 0 rfl) ?_
  refine lv_iload_n hx hb dX7_contains_1 rfl (lv_at hl 1 rfl) ?_
  have hPc := hP.sub (ws' := [(q, .inr (6, [.ref s0, .ref s1, .ref s2]))]) [0] rfl
  have hKc := hK.sub (tys' := []) [] rfl
  refine va_csr (W.runV (As := [.int (nI 1)]) (rest := []) ⟨hx, hb, hml, hown, hts⟩ (c_X7_chosenSet_1 l dC dI q s0 s1 s2 ) (cwV 1 hts gX7_contains_X7_chosenSet rfl rfl rfl (by decide +kernel) ⟨Nat.le_of_ble_eq_true rfl, Nat.le_of_ble_eq_true rfl⟩) ⟨fun a U g mk q => by obtain ⟨q0, qP, qK⟩ := q; exact ⟨q0, qP, va_K.moved (u := U) (U := U.calling g mk a) (Vm.Alike.refl U.vm) qK⟩, va_recv hKc hPc (ci := 6) (q0 := 0) rfl rfl, fun U hU hW => ⟨rfl, by rw [hU]; exact hPc, va_K.moved hW.alike hKc⟩⟩ rfl rfl hl.1 rfl (lv_room (Nat.le_of_ble_eq_true rfl)) dX7_contains_2 ⟨Nat.le_of_ble_eq_true rfl, Nat.le_of_ble_eq_true rfl⟩) (fun r_2 hw_1 => ?_)
  have hw_1 := hw_1.symm
  subst hw_1
  refine lv_astore_n (lv' := [(3, .ref s1), (0, .ref q), (1, .int (nI 1)), (2, .int w)]) hx hb dX7_contains_5 rfl hl (by decide) rfl (fun ls hl => ?_)
  refine lv_iload_n hx hb dX7_contains_6 rfl (lv_at hl 3 rfl) ?_
  have hPc := hP.sub (ws' := []) [] rfl
  have hKc := hK.sub (tys' := []) [] rfl
  have hDc := hD.sub (ws' := []) [] (by decide) rfl
  exact vx_callv (vx_runS (As := [.int w]) (rest := []) ⟨hx, hb, hml, hown, hts⟩ (x_X7_needNumber l hls dC dI w sa s.heap.size (by first | assumption | omega)) (va_cwS 1 hts gX7_contains_X7_needNumber rfl rfl rfl (by decide +kernel) ⟨Nat.le_of_ble_eq_true rfl, Nat.le_of_ble_eq_true rfl⟩) ⟨fun a U g mk q => by obtain ⟨q0, q1, qT, qP, qK, qD⟩ := q; exact ⟨q0, q1, TW.same (u := U) (U := U.calling g mk a) rfl qT, qP, va_K.moved (u := U) (U := U.calling g mk a) (Vm.Alike.refl U.vm) qK, qD⟩, fun U hU hW => ⟨rfl, by rw [hU], by rw [hU]; exact TW.warm hW hT, by rw [hU]; exact hPc, va_K.moved hW.alike hKc, hDc.weaken (fun _ _ _ _ => trivial)⟩⟩ rfl rfl hl.1 rfl (lv_room (Nat.le_of_ble_eq_true rfl)) dX7_contains_7 ⟨Nat.le_of_ble_eq_true rfl, Nat.le_of_ble_eq_true rfl⟩) hS (fun q h9 h8 => absurd h8 (Nat.not_le_of_lt h9)) (fun q h8 => Nat.le_trans hS.1 h8) (fun q h9 h8 => absurd h8 (Nat.not_le_of_lt h9)) (fun E9 ce9 q9 u9 t9 H9 l9 ht9 hvm9 hu9 hE9 hz9 hk9 hS9 hce9 hcv9 hcl9 => vx_out (fun x h => (hcat x h).elim) hlocks hce9 hcv9 hcl9 (fun t8 ht8 ha8 => ⟨(), trivial, hE9, by rw [ht8]; exact hz9, fun q h1 h2 => by rw [ht8]; exact hk9 q h1 h2⟩) hS9.2.2 (Nat.le_of_ble_eq_true rfl) (Nat.le_of_ble_eq_true rfl)) (fun u9 t9 H9 l9 ht9 hvm9 hu9 hB9 hz9 hk9 hS9 => hu9.elim)
set_option maxHeartbeats 4000000 in
set_option maxRecDepth 100000 in
/-- successor_n1 throws IllegalArgumentException -/
theorem x_X7_successor_n1 (l : Launch) (hls : l.stackTraces = false) (dC : Nat → ClassId) (dI : Nat → Nat → Nat) (q : Nat) (s0 : Nat) (s1 : Nat) (s2 : Nat) (w : Int32) (sa sz : Nat) (hW : isN w = false) : vx_Met l yX7_successor wsX7_successor ({ frames := 7, cells := 1, slots := 6, locals := 102 }) (va_Pc [.ref q, .int (nI 1), .int w] (fun U => U.heap.size = sz ∧ TW "java/lang/IllegalArgumentException" 153 "the number is out of range" sa (fun q => sz ≤ q) U U.heap ∧ va_P (dC, dI) vwCl [(q, .inr (6, [.ref s0, .ref s1, .ref s2]))] U.heap ∧ va_K (dC, dI) vwCl [] U ∧ va_D (fun _ => True) [(q, .inr (6, [.ref s0, .ref s1, .ref s2]))])) (va_Qv (fun _ : Unit => False) (fun _ _ => True) (fun q => sz ≤ q)) (vx_X (fun _ : Unit => True) (fun E _ _ => E = "java/lang/IllegalArgumentException") (fun q => sz ≤ q)) 1 6 (fun q => sz ≤ q) := by
  refine vx_ofW (cc := cX7_successor) (maxL := 4) (ret := (some .int)) (by decide) rfl ?_
  intro p e s m args below meth c s₁ B hml hcat hv
  obtain ⟨rfl, hsz, hT, hP, hK, hD⟩ := hv
  have hx := B.exec
  have hb := B.bytes
  have hr := B.returns
  have hts := atoms_spec (ws := wsX7_successor) B.pre
  have hown : s.vm.findClass RX7 = some m.cls := findClass_of_methodNamed B.named
  have hlocks := B.notSynchronized
  subst hsz
  have hS : va_S (fun q => s.heap.size ≤ q) s.heap s.heap [] := va_S.rf
  have hP : va_P (dC, dI) vwCl [(q, .inr (6, [.ref s0, .ref s1, .ref s2]))] s.heap := hP
  have hl := lv_entry ([.ref q, .int (nI 1), .int w]) (n := 4) (Nat.le_of_ble_eq_true rfl)
  rw [lg_entry_eq]
  generalize (lg_sl ([.ref q, .int (nI 1), .int w]) ++ List.replicate (4 - (lg_sl ([.ref q, .int (nI 1), .int w])).length) Slot.unset).toArray = ls at hl ⊢
  have hl : lv_has ls 4 [(0, .ref q), (1, .int (nI 1)), (2, .int w)] := hl
  refine lv_aload_n hx hb dX7_successor_0 rfl (lv_at hl 0 rfl) ?_
  refine lv_iload_n hx hb dX7_successor_1 rfl (lv_at hl 1 rfl) ?_
  have hPc := hP.sub (ws' := [(q, .inr (6, [.ref s0, .ref s1, .ref s2]))]) [0] rfl
  have hKc := hK.sub (tys' := []) [] rfl
  refine va_csr (W.runV (As := [.int (nI 1)]) (rest := []) ⟨hx, hb, hml, hown, hts⟩ (c_X7_chosenSet_1 l dC dI q s0 s1 s2 ) (cwV 1 hts gX7_successor_X7_chosenSet rfl rfl rfl (by decide +kernel) ⟨Nat.le_of_ble_eq_true rfl, Nat.le_of_ble_eq_true rfl⟩) ⟨fun a U g mk q => by obtain ⟨q0, qP, qK⟩ := q; exact ⟨q0, qP, va_K.moved (u := U) (U := U.calling g mk a) (Vm.Alike.refl U.vm) qK⟩, va_recv hKc hPc (ci := 6) (q0 := 0) rfl rfl, fun U hU hW => ⟨rfl, by rw [hU]; exact hPc, va_K.moved hW.alike hKc⟩⟩ rfl rfl hl.1 rfl (lv_room (Nat.le_of_ble_eq_true rfl)) dX7_successor_2 ⟨Nat.le_of_ble_eq_true rfl, Nat.le_of_ble_eq_true rfl⟩) (fun r_2 hw_1 => ?_)
  have hw_1 := hw_1.symm
  subst hw_1
  refine lv_astore_n (lv' := [(3, .ref s1), (0, .ref q), (1, .int (nI 1)), (2, .int w)]) hx hb dX7_successor_5 rfl hl (by decide) rfl (fun ls hl => ?_)
  refine lv_iload_n hx hb dX7_successor_6 rfl (lv_at hl 3 rfl) ?_
  have hPc := hP.sub (ws' := []) [] rfl
  have hKc := hK.sub (tys' := []) [] rfl
  have hDc := hD.sub (ws' := []) [] (by decide) rfl
  exact vx_callv (vx_runS (As := [.int w]) (rest := []) ⟨hx, hb, hml, hown, hts⟩ (x_X7_needNumber l hls dC dI w sa s.heap.size (by first | assumption | omega)) (va_cwS 1 hts gX7_successor_X7_needNumber rfl rfl rfl (by decide +kernel) ⟨Nat.le_of_ble_eq_true rfl, Nat.le_of_ble_eq_true rfl⟩) ⟨fun a U g mk q => by obtain ⟨q0, q1, qT, qP, qK, qD⟩ := q; exact ⟨q0, q1, TW.same (u := U) (U := U.calling g mk a) rfl qT, qP, va_K.moved (u := U) (U := U.calling g mk a) (Vm.Alike.refl U.vm) qK, qD⟩, fun U hU hW => ⟨rfl, by rw [hU], by rw [hU]; exact TW.warm hW hT, by rw [hU]; exact hPc, va_K.moved hW.alike hKc, hDc.weaken (fun _ _ _ _ => trivial)⟩⟩ rfl rfl hl.1 rfl (lv_room (Nat.le_of_ble_eq_true rfl)) dX7_successor_7 ⟨Nat.le_of_ble_eq_true rfl, Nat.le_of_ble_eq_true rfl⟩) hS (fun q h9 h8 => absurd h8 (Nat.not_le_of_lt h9)) (fun q h8 => Nat.le_trans hS.1 h8) (fun q h9 h8 => absurd h8 (Nat.not_le_of_lt h9)) (fun E9 ce9 q9 u9 t9 H9 l9 ht9 hvm9 hu9 hE9 hz9 hk9 hS9 hce9 hcv9 hcl9 => vx_out (fun x h => (hcat x h).elim) hlocks hce9 hcv9 hcl9 (fun t8 ht8 ha8 => ⟨(), trivial, hE9, by rw [ht8]; exact hz9, fun q h1 h2 => by rw [ht8]; exact hk9 q h1 h2⟩) hS9.2.2 (Nat.le_of_ble_eq_true rfl) (Nat.le_of_ble_eq_true rfl)) (fun u9 t9 H9 l9 ht9 hvm9 hu9 hB9 hz9 hk9 hS9 => hu9.elim)
set_option maxHeartbeats 4000000 in
set_option maxRecDepth 100000 in
/-- predecessor_n1 throws IllegalArgumentException -/
theorem x_X7_predecessor_n1 (l : Launch) (hls : l.stackTraces = false) (dC : Nat → ClassId) (dI : Nat → Nat → Nat) (q : Nat) (s0 : Nat) (s1 : Nat) (s2 : Nat) (w : Int32) (sa sz : Nat) (hW : isN w = false) : vx_Met l yX7_predecessor wsX7_predecessor ({ frames := 7, cells := 1, slots := 6, locals := 102 }) (va_Pc [.ref q, .int (nI 1), .int w] (fun U => U.heap.size = sz ∧ TW "java/lang/IllegalArgumentException" 153 "the number is out of range" sa (fun q => sz ≤ q) U U.heap ∧ va_P (dC, dI) vwCl [(q, .inr (6, [.ref s0, .ref s1, .ref s2]))] U.heap ∧ va_K (dC, dI) vwCl [] U ∧ va_D (fun _ => True) [(q, .inr (6, [.ref s0, .ref s1, .ref s2]))])) (va_Qv (fun _ : Unit => False) (fun _ _ => True) (fun q => sz ≤ q)) (vx_X (fun _ : Unit => True) (fun E _ _ => E = "java/lang/IllegalArgumentException") (fun q => sz ≤ q)) 1 6 (fun q => sz ≤ q) := by
  refine vx_ofW (cc := cX7_predecessor) (maxL := 4) (ret := (some .int)) (by decide) rfl ?_
  intro p e s m args below meth c s₁ B hml hcat hv
  obtain ⟨rfl, hsz, hT, hP, hK, hD⟩ := hv
  have hx := B.exec
  have hb := B.bytes
  have hr := B.returns
  have hts := atoms_spec (ws := wsX7_predecessor) B.pre
  have hown : s.vm.findClass RX7 = some m.cls := findClass_of_methodNamed B.named
  have hlocks := B.notSynchronized
  subst hsz
  have hS : va_S (fun q => s.heap.size ≤ q) s.heap s.heap [] := va_S.rf
  have hP : va_P (dC, dI) vwCl [(q, .inr (6, [.ref s0, .ref s1, .ref s2]))] s.heap := hP
  have hl := lv_entry ([.ref q, .int (nI 1), .int w]) (n := 4) (Nat.le_of_ble_eq_true rfl)
  rw [lg_entry_eq]
  generalize (lg_sl ([.ref q, .int (nI 1), .int w]) ++ List.replicate (4 - (lg_sl ([.ref q, .int (nI 1), .int w])).length) Slot.unset).toArray = ls at hl ⊢
  have hl : lv_has ls 4 [(0, .ref q), (1, .int (nI 1)), (2, .int w)] := hl
  refine lv_aload_n hx hb dX7_predecessor_0 rfl (lv_at hl 0 rfl) ?_
  refine lv_iload_n hx hb dX7_predecessor_1 rfl (lv_at hl 1 rfl) ?_
  have hPc := hP.sub (ws' := [(q, .inr (6, [.ref s0, .ref s1, .ref s2]))]) [0] rfl
  have hKc := hK.sub (tys' := []) [] rfl
  refine va_csr (W.runV (As := [.int (nI 1)]) (rest := []) ⟨hx, hb, hml, hown, hts⟩ (c_X7_chosenSet_1 l dC dI q s0 s1 s2 ) (cwV 1 hts gX7_predecessor_X7_chosenSet rfl rfl rfl (by decide +kernel) ⟨Nat.le_of_ble_eq_true rfl, Nat.le_of_ble_eq_true rfl⟩) ⟨fun a U g mk q => by obtain ⟨q0, qP, qK⟩ := q; exact ⟨q0, qP, va_K.moved (u := U) (U := U.calling g mk a) (Vm.Alike.refl U.vm) qK⟩, va_recv hKc hPc (ci := 6) (q0 := 0) rfl rfl, fun U hU hW => ⟨rfl, by rw [hU]; exact hPc, va_K.moved hW.alike hKc⟩⟩ rfl rfl hl.1 rfl (lv_room (Nat.le_of_ble_eq_true rfl)) dX7_predecessor_2 ⟨Nat.le_of_ble_eq_true rfl, Nat.le_of_ble_eq_true rfl⟩) (fun r_2 hw_1 => ?_)
  have hw_1 := hw_1.symm
  subst hw_1
  refine lv_astore_n (lv' := [(3, .ref s1), (0, .ref q), (1, .int (nI 1)), (2, .int w)]) hx hb dX7_predecessor_5 rfl hl (by decide) rfl (fun ls hl => ?_)
  refine lv_iload_n hx hb dX7_predecessor_6 rfl (lv_at hl 3 rfl) ?_
  have hPc := hP.sub (ws' := []) [] rfl
  have hKc := hK.sub (tys' := []) [] rfl
  have hDc := hD.sub (ws' := []) [] (by decide) rfl
  exact vx_callv (vx_runS (As := [.int w]) (rest := []) ⟨hx, hb, hml, hown, hts⟩ (x_X7_needNumber l hls dC dI w sa s.heap.size (by first | assumption | omega)) (va_cwS 1 hts gX7_predecessor_X7_needNumber rfl rfl rfl (by decide +kernel) ⟨Nat.le_of_ble_eq_true rfl, Nat.le_of_ble_eq_true rfl⟩) ⟨fun a U g mk q => by obtain ⟨q0, q1, qT, qP, qK, qD⟩ := q; exact ⟨q0, q1, TW.same (u := U) (U := U.calling g mk a) rfl qT, qP, va_K.moved (u := U) (U := U.calling g mk a) (Vm.Alike.refl U.vm) qK, qD⟩, fun U hU hW => ⟨rfl, by rw [hU], by rw [hU]; exact TW.warm hW hT, by rw [hU]; exact hPc, va_K.moved hW.alike hKc, hDc.weaken (fun _ _ _ _ => trivial)⟩⟩ rfl rfl hl.1 rfl (lv_room (Nat.le_of_ble_eq_true rfl)) dX7_predecessor_7 ⟨Nat.le_of_ble_eq_true rfl, Nat.le_of_ble_eq_true rfl⟩) hS (fun q h9 h8 => absurd h8 (Nat.not_le_of_lt h9)) (fun q h8 => Nat.le_trans hS.1 h8) (fun q h9 h8 => absurd h8 (Nat.not_le_of_lt h9)) (fun E9 ce9 q9 u9 t9 H9 l9 ht9 hvm9 hu9 hE9 hz9 hk9 hS9 hce9 hcv9 hcl9 => vx_out (fun x h => (hcat x h).elim) hlocks hce9 hcv9 hcl9 (fun t8 ht8 ha8 => ⟨(), trivial, hE9, by rw [ht8]; exact hz9, fun q h1 h2 => by rw [ht8]; exact hk9 q h1 h2⟩) hS9.2.2 (Nat.le_of_ble_eq_true rfl) (Nat.le_of_ble_eq_true rfl)) (fun u9 t9 H9 l9 ht9 hvm9 hu9 hB9 hz9 hk9 hS9 => hu9.elim)
set_option maxHeartbeats 4000000 in
set_option maxRecDepth 100000 in
/-- rank_n1 throws IllegalArgumentException -/
theorem x_X7_rank_n1 (l : Launch) (hls : l.stackTraces = false) (dC : Nat → ClassId) (dI : Nat → Nat → Nat) (q : Nat) (s0 : Nat) (s1 : Nat) (s2 : Nat) (w : Int32) (sa sz : Nat) (hW : isN w = false) : vx_Met l yX7_rank wsX7_rank ({ frames := 7, cells := 1, slots := 6, locals := 102 }) (va_Pc [.ref q, .int (nI 1), .int w] (fun U => U.heap.size = sz ∧ TW "java/lang/IllegalArgumentException" 153 "the number is out of range" sa (fun q => sz ≤ q) U U.heap ∧ va_P (dC, dI) vwCl [(q, .inr (6, [.ref s0, .ref s1, .ref s2]))] U.heap ∧ va_K (dC, dI) vwCl [] U ∧ va_D (fun _ => True) [(q, .inr (6, [.ref s0, .ref s1, .ref s2]))])) (va_Qv (fun _ : Unit => False) (fun _ _ => True) (fun q => sz ≤ q)) (vx_X (fun _ : Unit => True) (fun E _ _ => E = "java/lang/IllegalArgumentException") (fun q => sz ≤ q)) 1 6 (fun q => sz ≤ q) := by
  refine vx_ofW (cc := cX7_rank) (maxL := 4) (ret := (some .int)) (by decide) rfl ?_
  intro p e s m args below meth c s₁ B hml hcat hv
  obtain ⟨rfl, hsz, hT, hP, hK, hD⟩ := hv
  have hx := B.exec
  have hb := B.bytes
  have hr := B.returns
  have hts := atoms_spec (ws := wsX7_rank) B.pre
  have hown : s.vm.findClass RX7 = some m.cls := findClass_of_methodNamed B.named
  have hlocks := B.notSynchronized
  subst hsz
  have hS : va_S (fun q => s.heap.size ≤ q) s.heap s.heap [] := va_S.rf
  have hP : va_P (dC, dI) vwCl [(q, .inr (6, [.ref s0, .ref s1, .ref s2]))] s.heap := hP
  have hl := lv_entry ([.ref q, .int (nI 1), .int w]) (n := 4) (Nat.le_of_ble_eq_true rfl)
  rw [lg_entry_eq]
  generalize (lg_sl ([.ref q, .int (nI 1), .int w]) ++ List.replicate (4 - (lg_sl ([.ref q, .int (nI 1), .int w])).length) Slot.unset).toArray = ls at hl ⊢
  have hl : lv_has ls 4 [(0, .ref q), (1, .int (nI 1)), (2, .int w)] := hl
  refine lv_aload_n hx hb dX7_rank_0 rfl (lv_at hl 0 rfl) ?_
  refine lv_iload_n hx hb dX7_rank_1 rfl (lv_at hl 1 rfl) ?_
  have hPc := hP.sub (ws' := [(q, .inr (6, [.ref s0, .ref s1, .ref s2]))]) [0] rfl
  have hKc := hK.sub (tys' := []) [] rfl
  refine va_csr (W.runV (As := [.int (nI 1)]) (rest := []) ⟨hx, hb, hml, hown, hts⟩ (c_X7_chosenSet_1 l dC dI q s0 s1 s2 ) (cwV 1 hts gX7_rank_X7_chosenSet rfl rfl rfl (by decide +kernel) ⟨Nat.le_of_ble_eq_true rfl, Nat.le_of_ble_eq_true rfl⟩) ⟨fun a U g mk q => by obtain ⟨q0, qP, qK⟩ := q; exact ⟨q0, qP, va_K.moved (u := U) (U := U.calling g mk a) (Vm.Alike.refl U.vm) qK⟩, va_recv hKc hPc (ci := 6) (q0 := 0) rfl rfl, fun U hU hW => ⟨rfl, by rw [hU]; exact hPc, va_K.moved hW.alike hKc⟩⟩ rfl rfl hl.1 rfl (lv_room (Nat.le_of_ble_eq_true rfl)) dX7_rank_2 ⟨Nat.le_of_ble_eq_true rfl, Nat.le_of_ble_eq_true rfl⟩) (fun r_2 hw_1 => ?_)
  have hw_1 := hw_1.symm
  subst hw_1
  refine lv_astore_n (lv' := [(3, .ref s1), (0, .ref q), (1, .int (nI 1)), (2, .int w)]) hx hb dX7_rank_5 rfl hl (by decide) rfl (fun ls hl => ?_)
  refine lv_iload_n hx hb dX7_rank_6 rfl (lv_at hl 3 rfl) ?_
  have hPc := hP.sub (ws' := []) [] rfl
  have hKc := hK.sub (tys' := []) [] rfl
  have hDc := hD.sub (ws' := []) [] (by decide) rfl
  exact vx_callv (vx_runS (As := [.int w]) (rest := []) ⟨hx, hb, hml, hown, hts⟩ (x_X7_needNumber l hls dC dI w sa s.heap.size (by first | assumption | omega)) (va_cwS 1 hts gX7_rank_X7_needNumber rfl rfl rfl (by decide +kernel) ⟨Nat.le_of_ble_eq_true rfl, Nat.le_of_ble_eq_true rfl⟩) ⟨fun a U g mk q => by obtain ⟨q0, q1, qT, qP, qK, qD⟩ := q; exact ⟨q0, q1, TW.same (u := U) (U := U.calling g mk a) rfl qT, qP, va_K.moved (u := U) (U := U.calling g mk a) (Vm.Alike.refl U.vm) qK, qD⟩, fun U hU hW => ⟨rfl, by rw [hU], by rw [hU]; exact TW.warm hW hT, by rw [hU]; exact hPc, va_K.moved hW.alike hKc, hDc.weaken (fun _ _ _ _ => trivial)⟩⟩ rfl rfl hl.1 rfl (lv_room (Nat.le_of_ble_eq_true rfl)) dX7_rank_7 ⟨Nat.le_of_ble_eq_true rfl, Nat.le_of_ble_eq_true rfl⟩) hS (fun q h9 h8 => absurd h8 (Nat.not_le_of_lt h9)) (fun q h8 => Nat.le_trans hS.1 h8) (fun q h9 h8 => absurd h8 (Nat.not_le_of_lt h9)) (fun E9 ce9 q9 u9 t9 H9 l9 ht9 hvm9 hu9 hE9 hz9 hk9 hS9 hce9 hcv9 hcl9 => vx_out (fun x h => (hcat x h).elim) hlocks hce9 hcv9 hcl9 (fun t8 ht8 ha8 => ⟨(), trivial, hE9, by rw [ht8]; exact hz9, fun q h1 h2 => by rw [ht8]; exact hk9 q h1 h2⟩) hS9.2.2 (Nat.le_of_ble_eq_true rfl) (Nat.le_of_ble_eq_true rfl)) (fun u9 t9 H9 l9 ht9 hvm9 hu9 hB9 hz9 hk9 hS9 => hu9.elim)
set_option maxHeartbeats 4000000 in
set_option maxRecDepth 100000 in
/-- steps_n1 throws IllegalArgumentException -/
theorem x_X7_steps_n1 (l : Launch) (hls : l.stackTraces = false) (dC : Nat → ClassId) (dI : Nat → Nat → Nat) (q : Nat) (s0 : Nat) (s1 : Nat) (s2 : Nat) (w : Int32) (sa sz : Nat) (hW : isN w = false) : vx_Met l yX7_steps wsX7_steps ({ frames := 7, cells := 1, slots := 6, locals := 102 }) (va_Pc [.ref q, .int (nI 1), .int w] (fun U => U.heap.size = sz ∧ TW "java/lang/IllegalArgumentException" 153 "the number is out of range" sa (fun q => sz ≤ q) U U.heap ∧ va_P (dC, dI) vwCl [(q, .inr (6, [.ref s0, .ref s1, .ref s2]))] U.heap ∧ va_K (dC, dI) vwCl [] U ∧ va_D (fun _ => True) [(q, .inr (6, [.ref s0, .ref s1, .ref s2]))])) (va_Qv (fun _ : Unit => False) (fun _ _ => True) (fun q => sz ≤ q)) (vx_X (fun _ : Unit => True) (fun E _ _ => E = "java/lang/IllegalArgumentException") (fun q => sz ≤ q)) 1 6 (fun q => sz ≤ q) := by
  refine vx_ofW (cc := cX7_steps) (maxL := 4) (ret := (some .int)) (by decide) rfl ?_
  intro p e s m args below meth c s₁ B hml hcat hv
  obtain ⟨rfl, hsz, hT, hP, hK, hD⟩ := hv
  have hx := B.exec
  have hb := B.bytes
  have hr := B.returns
  have hts := atoms_spec (ws := wsX7_steps) B.pre
  have hown : s.vm.findClass RX7 = some m.cls := findClass_of_methodNamed B.named
  have hlocks := B.notSynchronized
  subst hsz
  have hS : va_S (fun q => s.heap.size ≤ q) s.heap s.heap [] := va_S.rf
  have hP : va_P (dC, dI) vwCl [(q, .inr (6, [.ref s0, .ref s1, .ref s2]))] s.heap := hP
  have hl := lv_entry ([.ref q, .int (nI 1), .int w]) (n := 4) (Nat.le_of_ble_eq_true rfl)
  rw [lg_entry_eq]
  generalize (lg_sl ([.ref q, .int (nI 1), .int w]) ++ List.replicate (4 - (lg_sl ([.ref q, .int (nI 1), .int w])).length) Slot.unset).toArray = ls at hl ⊢
  have hl : lv_has ls 4 [(0, .ref q), (1, .int (nI 1)), (2, .int w)] := hl
  refine lv_aload_n hx hb dX7_steps_0 rfl (lv_at hl 0 rfl) ?_
  refine lv_iload_n hx hb dX7_steps_1 rfl (lv_at hl 1 rfl) ?_
  have hPc := hP.sub (ws' := [(q, .inr (6, [.ref s0, .ref s1, .ref s2]))]) [0] rfl
  have hKc := hK.sub (tys' := []) [] rfl
  refine va_csr (W.runV (As := [.int (nI 1)]) (rest := []) ⟨hx, hb, hml, hown, hts⟩ (c_X7_chosenSet_1 l dC dI q s0 s1 s2 ) (cwV 1 hts gX7_steps_X7_chosenSet rfl rfl rfl (by decide +kernel) ⟨Nat.le_of_ble_eq_true rfl, Nat.le_of_ble_eq_true rfl⟩) ⟨fun a U g mk q => by obtain ⟨q0, qP, qK⟩ := q; exact ⟨q0, qP, va_K.moved (u := U) (U := U.calling g mk a) (Vm.Alike.refl U.vm) qK⟩, va_recv hKc hPc (ci := 6) (q0 := 0) rfl rfl, fun U hU hW => ⟨rfl, by rw [hU]; exact hPc, va_K.moved hW.alike hKc⟩⟩ rfl rfl hl.1 rfl (lv_room (Nat.le_of_ble_eq_true rfl)) dX7_steps_2 ⟨Nat.le_of_ble_eq_true rfl, Nat.le_of_ble_eq_true rfl⟩) (fun r_2 hw_1 => ?_)
  have hw_1 := hw_1.symm
  subst hw_1
  refine lv_astore_n (lv' := [(3, .ref s1), (0, .ref q), (1, .int (nI 1)), (2, .int w)]) hx hb dX7_steps_5 rfl hl (by decide) rfl (fun ls hl => ?_)
  refine lv_iload_n hx hb dX7_steps_6 rfl (lv_at hl 3 rfl) ?_
  have hPc := hP.sub (ws' := []) [] rfl
  have hKc := hK.sub (tys' := []) [] rfl
  have hDc := hD.sub (ws' := []) [] (by decide) rfl
  exact vx_callv (vx_runS (As := [.int w]) (rest := []) ⟨hx, hb, hml, hown, hts⟩ (x_X7_needNumber l hls dC dI w sa s.heap.size (by first | assumption | omega)) (va_cwS 1 hts gX7_steps_X7_needNumber rfl rfl rfl (by decide +kernel) ⟨Nat.le_of_ble_eq_true rfl, Nat.le_of_ble_eq_true rfl⟩) ⟨fun a U g mk q => by obtain ⟨q0, q1, qT, qP, qK, qD⟩ := q; exact ⟨q0, q1, TW.same (u := U) (U := U.calling g mk a) rfl qT, qP, va_K.moved (u := U) (U := U.calling g mk a) (Vm.Alike.refl U.vm) qK, qD⟩, fun U hU hW => ⟨rfl, by rw [hU], by rw [hU]; exact TW.warm hW hT, by rw [hU]; exact hPc, va_K.moved hW.alike hKc, hDc.weaken (fun _ _ _ _ => trivial)⟩⟩ rfl rfl hl.1 rfl (lv_room (Nat.le_of_ble_eq_true rfl)) dX7_steps_7 ⟨Nat.le_of_ble_eq_true rfl, Nat.le_of_ble_eq_true rfl⟩) hS (fun q h9 h8 => absurd h8 (Nat.not_le_of_lt h9)) (fun q h8 => Nat.le_trans hS.1 h8) (fun q h9 h8 => absurd h8 (Nat.not_le_of_lt h9)) (fun E9 ce9 q9 u9 t9 H9 l9 ht9 hvm9 hu9 hE9 hz9 hk9 hS9 hce9 hcv9 hcl9 => vx_out (fun x h => (hcat x h).elim) hlocks hce9 hcv9 hcl9 (fun t8 ht8 ha8 => ⟨(), trivial, hE9, by rw [ht8]; exact hz9, fun q h1 h2 => by rw [ht8]; exact hk9 q h1 h2⟩) hS9.2.2 (Nat.le_of_ble_eq_true rfl) (Nat.le_of_ble_eq_true rfl)) (fun u9 t9 H9 l9 ht9 hvm9 hu9 hB9 hz9 hk9 hS9 => hu9.elim)
set_option maxHeartbeats 4000000 in
set_option maxRecDepth 100000 in
/-- longestMatch_n1 throws IllegalArgumentException -/
theorem x_X7_longestMatch_n1 (l : Launch) (hls : l.stackTraces = false) (dC : Nat → ClassId) (dI : Nat → Nat → Nat) (q : Nat) (s0 : Nat) (s1 : Nat) (s2 : Nat) (w : Int32) (sa sz : Nat) (hW : isN w = false) : vx_Met l yX7_longestMatch wsX7_longestMatch ({ frames := 7, cells := 1, slots := 6, locals := 102 }) (va_Pc [.ref q, .int (nI 1), .int w] (fun U => U.heap.size = sz ∧ TW "java/lang/IllegalArgumentException" 153 "the number is out of range" sa (fun q => sz ≤ q) U U.heap ∧ va_P (dC, dI) vwCl [(q, .inr (6, [.ref s0, .ref s1, .ref s2]))] U.heap ∧ va_K (dC, dI) vwCl [] U ∧ va_D (fun _ => True) [(q, .inr (6, [.ref s0, .ref s1, .ref s2]))])) (va_Qv (fun _ : Unit => False) (fun _ _ => True) (fun q => sz ≤ q)) (vx_X (fun _ : Unit => True) (fun E _ _ => E = "java/lang/IllegalArgumentException") (fun q => sz ≤ q)) 1 6 (fun q => sz ≤ q) := by
  refine vx_ofW (cc := cX7_longestMatch) (maxL := 4) (ret := (some .int)) (by decide) rfl ?_
  intro p e s m args below meth c s₁ B hml hcat hv
  obtain ⟨rfl, hsz, hT, hP, hK, hD⟩ := hv
  have hx := B.exec
  have hb := B.bytes
  have hr := B.returns
  have hts := atoms_spec (ws := wsX7_longestMatch) B.pre
  have hown : s.vm.findClass RX7 = some m.cls := findClass_of_methodNamed B.named
  have hlocks := B.notSynchronized
  subst hsz
  have hS : va_S (fun q => s.heap.size ≤ q) s.heap s.heap [] := va_S.rf
  have hP : va_P (dC, dI) vwCl [(q, .inr (6, [.ref s0, .ref s1, .ref s2]))] s.heap := hP
  have hl := lv_entry ([.ref q, .int (nI 1), .int w]) (n := 4) (Nat.le_of_ble_eq_true rfl)
  rw [lg_entry_eq]
  generalize (lg_sl ([.ref q, .int (nI 1), .int w]) ++ List.replicate (4 - (lg_sl ([.ref q, .int (nI 1), .int w])).length) Slot.unset).toArray = ls at hl ⊢
  have hl : lv_has ls 4 [(0, .ref q), (1, .int (nI 1)), (2, .int w)] := hl
  refine lv_aload_n hx hb dX7_longestMatch_0 rfl (lv_at hl 0 rfl) ?_
  refine lv_iload_n hx hb dX7_longestMatch_1 rfl (lv_at hl 1 rfl) ?_
  have hPc := hP.sub (ws' := [(q, .inr (6, [.ref s0, .ref s1, .ref s2]))]) [0] rfl
  have hKc := hK.sub (tys' := []) [] rfl
  refine va_csr (W.runV (As := [.int (nI 1)]) (rest := []) ⟨hx, hb, hml, hown, hts⟩ (c_X7_chosenSet_1 l dC dI q s0 s1 s2 ) (cwV 1 hts gX7_longestMatch_X7_chosenSet rfl rfl rfl (by decide +kernel) ⟨Nat.le_of_ble_eq_true rfl, Nat.le_of_ble_eq_true rfl⟩) ⟨fun a U g mk q => by obtain ⟨q0, qP, qK⟩ := q; exact ⟨q0, qP, va_K.moved (u := U) (U := U.calling g mk a) (Vm.Alike.refl U.vm) qK⟩, va_recv hKc hPc (ci := 6) (q0 := 0) rfl rfl, fun U hU hW => ⟨rfl, by rw [hU]; exact hPc, va_K.moved hW.alike hKc⟩⟩ rfl rfl hl.1 rfl (lv_room (Nat.le_of_ble_eq_true rfl)) dX7_longestMatch_2 ⟨Nat.le_of_ble_eq_true rfl, Nat.le_of_ble_eq_true rfl⟩) (fun r_2 hw_1 => ?_)
  have hw_1 := hw_1.symm
  subst hw_1
  refine lv_astore_n (lv' := [(3, .ref s1), (0, .ref q), (1, .int (nI 1)), (2, .int w)]) hx hb dX7_longestMatch_5 rfl hl (by decide) rfl (fun ls hl => ?_)
  refine lv_iload_n hx hb dX7_longestMatch_6 rfl (lv_at hl 3 rfl) ?_
  have hPc := hP.sub (ws' := []) [] rfl
  have hKc := hK.sub (tys' := []) [] rfl
  have hDc := hD.sub (ws' := []) [] (by decide) rfl
  exact vx_callv (vx_runS (As := [.int w]) (rest := []) ⟨hx, hb, hml, hown, hts⟩ (x_X7_needNumber l hls dC dI w sa s.heap.size (by first | assumption | omega)) (va_cwS 1 hts gX7_longestMatch_X7_needNumber rfl rfl rfl (by decide +kernel) ⟨Nat.le_of_ble_eq_true rfl, Nat.le_of_ble_eq_true rfl⟩) ⟨fun a U g mk q => by obtain ⟨q0, q1, qT, qP, qK, qD⟩ := q; exact ⟨q0, q1, TW.same (u := U) (U := U.calling g mk a) rfl qT, qP, va_K.moved (u := U) (U := U.calling g mk a) (Vm.Alike.refl U.vm) qK, qD⟩, fun U hU hW => ⟨rfl, by rw [hU], by rw [hU]; exact TW.warm hW hT, by rw [hU]; exact hPc, va_K.moved hW.alike hKc, hDc.weaken (fun _ _ _ _ => trivial)⟩⟩ rfl rfl hl.1 rfl (lv_room (Nat.le_of_ble_eq_true rfl)) dX7_longestMatch_7 ⟨Nat.le_of_ble_eq_true rfl, Nat.le_of_ble_eq_true rfl⟩) hS (fun q h9 h8 => absurd h8 (Nat.not_le_of_lt h9)) (fun q h8 => Nat.le_trans hS.1 h8) (fun q h9 h8 => absurd h8 (Nat.not_le_of_lt h9)) (fun E9 ce9 q9 u9 t9 H9 l9 ht9 hvm9 hu9 hE9 hz9 hk9 hS9 hce9 hcv9 hcl9 => vx_out (fun x h => (hcat x h).elim) hlocks hce9 hcv9 hcl9 (fun t8 ht8 ha8 => ⟨(), trivial, hE9, by rw [ht8]; exact hz9, fun q h1 h2 => by rw [ht8]; exact hk9 q h1 h2⟩) hS9.2.2 (Nat.le_of_ble_eq_true rfl) (Nat.le_of_ble_eq_true rfl)) (fun u9 t9 H9 l9 ht9 hvm9 hu9 hB9 hz9 hk9 hS9 => hu9.elim)
set_option maxHeartbeats 4000000 in
set_option maxRecDepth 100000 in
/-- probes_n1 throws IllegalArgumentException -/
theorem x_X7_probes_n1 (l : Launch) (hls : l.stackTraces = false) (dC : Nat → ClassId) (dI : Nat → Nat → Nat) (q : Nat) (s0 : Nat) (s1 : Nat) (s2 : Nat) (w : Int32) (sa sz : Nat) (hW : isN w = false) : vx_Met l yX7_probes wsX7_probes ({ frames := 7, cells := 1, slots := 6, locals := 102 }) (va_Pc [.ref q, .int (nI 1), .int w] (fun U => U.heap.size = sz ∧ TW "java/lang/IllegalArgumentException" 153 "the number is out of range" sa (fun q => sz ≤ q) U U.heap ∧ va_P (dC, dI) vwCl [(q, .inr (6, [.ref s0, .ref s1, .ref s2]))] U.heap ∧ va_K (dC, dI) vwCl [] U ∧ va_D (fun _ => True) [(q, .inr (6, [.ref s0, .ref s1, .ref s2]))])) (va_Qv (fun _ : Unit => False) (fun _ _ => True) (fun q => sz ≤ q)) (vx_X (fun _ : Unit => True) (fun E _ _ => E = "java/lang/IllegalArgumentException") (fun q => sz ≤ q)) 1 6 (fun q => sz ≤ q) := by
  refine vx_ofW (cc := cX7_probes) (maxL := 4) (ret := (some .int)) (by decide) rfl ?_
  intro p e s m args below meth c s₁ B hml hcat hv
  obtain ⟨rfl, hsz, hT, hP, hK, hD⟩ := hv
  have hx := B.exec
  have hb := B.bytes
  have hr := B.returns
  have hts := atoms_spec (ws := wsX7_probes) B.pre
  have hown : s.vm.findClass RX7 = some m.cls := findClass_of_methodNamed B.named
  have hlocks := B.notSynchronized
  subst hsz
  have hS : va_S (fun q => s.heap.size ≤ q) s.heap s.heap [] := va_S.rf
  have hP : va_P (dC, dI) vwCl [(q, .inr (6, [.ref s0, .ref s1, .ref s2]))] s.heap := hP
  have hl := lv_entry ([.ref q, .int (nI 1), .int w]) (n := 4) (Nat.le_of_ble_eq_true rfl)
  rw [lg_entry_eq]
  generalize (lg_sl ([.ref q, .int (nI 1), .int w]) ++ List.replicate (4 - (lg_sl ([.ref q, .int (nI 1), .int w])).length) Slot.unset).toArray = ls at hl ⊢
  have hl : lv_has ls 4 [(0, .ref q), (1, .int (nI 1)), (2, .int w)] := hl
  refine lv_aload_n hx hb dX7_probes_0 rfl (lv_at hl 0 rfl) ?_
  refine lv_iload_n hx hb dX7_probes_1 rfl (lv_at hl 1 rfl) ?_
  have hPc := hP.sub (ws' := [(q, .inr (6, [.ref s0, .ref s1, .ref s2]))]) [0] rfl
  have hKc := hK.sub (tys' := []) [] rfl
  refine va_csr (W.runV (As := [.int (nI 1)]) (rest := []) ⟨hx, hb, hml, hown, hts⟩ (c_X7_chosenSet_1 l dC dI q s0 s1 s2 ) (cwV 1 hts gX7_probes_X7_chosenSet rfl rfl rfl (by decide +kernel) ⟨Nat.le_of_ble_eq_true rfl, Nat.le_of_ble_eq_true rfl⟩) ⟨fun a U g mk q => by obtain ⟨q0, qP, qK⟩ := q; exact ⟨q0, qP, va_K.moved (u := U) (U := U.calling g mk a) (Vm.Alike.refl U.vm) qK⟩, va_recv hKc hPc (ci := 6) (q0 := 0) rfl rfl, fun U hU hW => ⟨rfl, by rw [hU]; exact hPc, va_K.moved hW.alike hKc⟩⟩ rfl rfl hl.1 rfl (lv_room (Nat.le_of_ble_eq_true rfl)) dX7_probes_2 ⟨Nat.le_of_ble_eq_true rfl, Nat.le_of_ble_eq_true rfl⟩) (fun r_2 hw_1 => ?_)
  have hw_1 := hw_1.symm
  subst hw_1
  refine lv_astore_n (lv' := [(3, .ref s1), (0, .ref q), (1, .int (nI 1)), (2, .int w)]) hx hb dX7_probes_5 rfl hl (by decide) rfl (fun ls hl => ?_)
  refine lv_iload_n hx hb dX7_probes_6 rfl (lv_at hl 3 rfl) ?_
  have hPc := hP.sub (ws' := []) [] rfl
  have hKc := hK.sub (tys' := []) [] rfl
  have hDc := hD.sub (ws' := []) [] (by decide) rfl
  exact vx_callv (vx_runS (As := [.int w]) (rest := []) ⟨hx, hb, hml, hown, hts⟩ (x_X7_needNumber l hls dC dI w sa s.heap.size (by first | assumption | omega)) (va_cwS 1 hts gX7_probes_X7_needNumber rfl rfl rfl (by decide +kernel) ⟨Nat.le_of_ble_eq_true rfl, Nat.le_of_ble_eq_true rfl⟩) ⟨fun a U g mk q => by obtain ⟨q0, q1, qT, qP, qK, qD⟩ := q; exact ⟨q0, q1, TW.same (u := U) (U := U.calling g mk a) rfl qT, qP, va_K.moved (u := U) (U := U.calling g mk a) (Vm.Alike.refl U.vm) qK, qD⟩, fun U hU hW => ⟨rfl, by rw [hU], by rw [hU]; exact TW.warm hW hT, by rw [hU]; exact hPc, va_K.moved hW.alike hKc, hDc.weaken (fun _ _ _ _ => trivial)⟩⟩ rfl rfl hl.1 rfl (lv_room (Nat.le_of_ble_eq_true rfl)) dX7_probes_7 ⟨Nat.le_of_ble_eq_true rfl, Nat.le_of_ble_eq_true rfl⟩) hS (fun q h9 h8 => absurd h8 (Nat.not_le_of_lt h9)) (fun q h8 => Nat.le_trans hS.1 h8) (fun q h9 h8 => absurd h8 (Nat.not_le_of_lt h9)) (fun E9 ce9 q9 u9 t9 H9 l9 ht9 hvm9 hu9 hE9 hz9 hk9 hS9 hce9 hcv9 hcl9 => vx_out (fun x h => (hcat x h).elim) hlocks hce9 hcv9 hcl9 (fun t8 ht8 ha8 => ⟨(), trivial, hE9, by rw [ht8]; exact hz9, fun q h1 h2 => by rw [ht8]; exact hk9 q h1 h2⟩) hS9.2.2 (Nat.le_of_ble_eq_true rfl) (Nat.le_of_ble_eq_true rfl)) (fun u9 t9 H9 l9 ht9 hvm9 hu9 hB9 hz9 hk9 hS9 => hu9.elim)
set_option maxHeartbeats 4000000 in
set_option maxRecDepth 100000 in
/-- select_p1 throws IndexOutOfBoundsException -/
theorem x_X7_select_p1 (l : Launch) (hls : l.stackTraces = false) (dC : Nat → ClassId) (dI : Nat → Nat → Nat) (q : Nat) (s0 : Nat) (s1 : Nat) (s2 : Nat) (tq : Nat) (ca : Nat) (rq : Nat) (rb : Nat) (rd : Nat) (uq : Nat) (bm : Nat) (am : Nat) (bs : Nat) (ap : Nat) (cJ : ClassId) (fm : Nat → Int64) (fs : Nat → Int64) (ft : Nat → Int64) (fc : Nat → Int64) (sm : Int64) (lo : Option Nat) (w : Int32) (sa sz : Nat) (hN : NI fm fs ft fc sm lo) (hW : pl w (fb_ct (bo fm) 4096) = false) : vx_Met l yX7_select wsX7_select ({ frames := 7, cells := 1, slots := 6, locals := 103 }) (va_Pc [.ref q, .int (nI 1), .int w] (fun U => va_Nw (.fieldLinkNest RX7 38 "SmallNumberSets$NumberSet" "buckets" "LSmallNumberSets$Buckets;" "SmallNumberSets") U ∧ U.heap.size = sz ∧ TW "java/lang/IndexOutOfBoundsException" 165 "no such cluster, level, place or bucket" sa (fun q => sz ≤ q) U U.heap ∧ va_P (dC, dI) vwCl [(q, .inr (6, [.ref s0, .ref s1, .ref s2])), (s1, .inr (3, [.ref tq, .ref rq, .ref uq])), (tq, .inr (4, [.ref ca, .long sm, .int (oI lo)])), (ca, .inl (cJ, 64, .inr (.inl fc))), (rq, .inr (5, [.ref rb])), (rb, .inr (0, [.ref rd])), (rd, .inl (cJ, 128, .inr (.inl ft))), (uq, .inr (1, [.ref bm, .ref bs])), (bm, .inr (0, [.ref am])), (am, .inl (cJ, 64, .inr (.inl fm))), (bs, .inr (0, [.ref ap])), (ap, .inl (cJ, 64, .inr (.inl fs)))] U.heap ∧ va_K (dC, dI) vwCl [(cJ, .long)] U ∧ va_D (fun _ => True) [(q, .inr (6, [.ref s0, .ref s1, .ref s2])), (s1, .inr (3, [.ref tq, .ref rq, .ref uq])), (tq, .inr (4, [.ref ca, .long sm, .int (oI lo)])), (ca, .inl (cJ, 64, .inr (.inl fc))), (rq, .inr (5, [.ref rb])), (rb, .inr (0, [.ref rd])), (rd, .inl (cJ, 128, .inr (.inl ft))), (uq, .inr (1, [.ref bm, .ref bs])), (bm, .inr (0, [.ref am])), (am, .inl (cJ, 64, .inr (.inl fm))), (bs, .inr (0, [.ref ap])), (ap, .inl (cJ, 64, .inr (.inl fs)))])) (va_Qv (fun _ : Unit => False) (fun _ _ => True) (fun q => sz ≤ q)) (vx_X (fun _ : Unit => True) (fun E _ _ => E = "java/lang/IndexOutOfBoundsException") (fun q => sz ≤ q)) 1 6 (fun q => sz ≤ q) := by
  refine vx_ofW (cc := cX7_select) (maxL := 4) (ret := (some .int)) (by decide) rfl ?_
  intro p e s m args below meth c s₁ B hml hcat hv
  obtain ⟨rfl, nw0, hsz, hT, hP, hK, hD⟩ := hv
  have hx := B.exec
  have hb := B.bytes
  have hr := B.returns
  have hts := atoms_spec (ws := wsX7_select) B.pre
  have hown : s.vm.findClass RX7 = some m.cls := findClass_of_methodNamed B.named
  have hlocks := B.notSynchronized
  subst hsz
  have hS : va_S (fun q => s.heap.size ≤ q) s.heap s.heap [] := va_S.rf
  have hP : va_P (dC, dI) vwCl [(q, .inr (6, [.ref s0, .ref s1, .ref s2])), (s1, .inr (3, [.ref tq, .ref rq, .ref uq])), (tq, .inr (4, [.ref ca, .long sm, .int (oI lo)])), (ca, .inl (cJ, 64, .inr (.inl fc))), (rq, .inr (5, [.ref rb])), (rb, .inr (0, [.ref rd])), (rd, .inl (cJ, 128, .inr (.inl ft))), (uq, .inr (1, [.ref bm, .ref bs])), (bm, .inr (0, [.ref am])), (am, .inl (cJ, 64, .inr (.inl fm))), (bs, .inr (0, [.ref ap])), (ap, .inl (cJ, 64, .inr (.inl fs)))] s.heap := hP
  have hl := lv_entry ([.ref q, .int (nI 1), .int w]) (n := 4) (Nat.le_of_ble_eq_true rfl)
  rw [lg_entry_eq]
  generalize (lg_sl ([.ref q, .int (nI 1), .int w]) ++ List.replicate (4 - (lg_sl ([.ref q, .int (nI 1), .int w])).length) Slot.unset).toArray = ls at hl ⊢
  have hl : lv_has ls 4 [(0, .ref q), (1, .int (nI 1)), (2, .int w)] := hl
  refine lv_aload_n hx hb dX7_select_0 rfl (lv_at hl 0 rfl) ?_
  refine lv_iload_n hx hb dX7_select_1 rfl (lv_at hl 1 rfl) ?_
  have hPc := hP.sub (ws' := [(q, .inr (6, [.ref s0, .ref s1, .ref s2]))]) [0] rfl
  have hKc := hK.sub (tys' := []) [] rfl
  refine va_csr (W.runV (As := [.int (nI 1)]) (rest := []) ⟨hx, hb, hml, hown, hts⟩ (c_X7_chosenSet_1 l dC dI q s0 s1 s2 ) (cwV 1 hts gX7_select_X7_chosenSet rfl rfl rfl (by decide +kernel) ⟨Nat.le_of_ble_eq_true rfl, Nat.le_of_ble_eq_true rfl⟩) ⟨fun a U g mk q => by obtain ⟨q0, qP, qK⟩ := q; exact ⟨q0, qP, va_K.moved (u := U) (U := U.calling g mk a) (Vm.Alike.refl U.vm) qK⟩, va_recv hKc hPc (ci := 6) (q0 := 0) rfl rfl, fun U hU hW => ⟨rfl, by rw [hU]; exact hPc, va_K.moved hW.alike hKc⟩⟩ rfl rfl hl.1 rfl (lv_room (Nat.le_of_ble_eq_true rfl)) dX7_select_2 ⟨Nat.le_of_ble_eq_true rfl, Nat.le_of_ble_eq_true rfl⟩) (fun r_2 hw_1 => ?_)
  have hw_1 := hw_1.symm
  subst hw_1
  refine lv_astore_n (lv' := [(3, .ref s1), (0, .ref q), (1, .int (nI 1)), (2, .int w)]) hx hb dX7_select_5 rfl hl (by decide) rfl (fun ls hl => ?_)
  refine lv_iload_n hx hb dX7_select_6 rfl (lv_at hl 3 rfl) ?_
  refine lv_aload_n hx hb dX7_select_7 rfl (lv_at hl 0 rfl) ?_
  refine va_getN (D := (dC, dI)) (ci := 3) (v := .ref uq) (C := RX3) (T := TX3) (N := 3) hx hb hts (by decide +kernel) hown hK hP 1 rfl rfl 2 (by decide) (va_Nw.use rfl nw0) (fun _ h9 => h9) rfl dX7_select_8 ?_
  have hPc := hP.sub (ws' := [(uq, .inr (1, [.ref bm, .ref bs])), (bm, .inr (0, [.ref am])), (am, .inl (cJ, 64, .inr (.inl fm))), (bs, .inr (0, [.ref ap])), (ap, .inl (cJ, 64, .inr (.inl fs)))]) [7, 8, 9, 10, 11] rfl
  have hKc := hK.sub (tys' := [(cJ, .long)]) [0] rfl
  refine vp_callSi (W.runV (As := []) (rest := [.int w]) ⟨hx, hb, hml, hown, hts⟩ (c_X1_memberCount l dC dI uq bm am bs ap cJ fm fs ) (cwV 0 hts gX7_select_X1_memberCount rfl rfl rfl (by decide +kernel) ⟨Nat.le_of_ble_eq_true rfl, Nat.le_of_ble_eq_true rfl⟩) ⟨fun a U g mk q => by obtain ⟨q0, qP, qK⟩ := q; exact ⟨q0, qP, va_K.moved (u := U) (U := U.calling g mk a) (Vm.Alike.refl U.vm) qK⟩, va_recv hKc hPc (ci := 1) (q0 := 0) rfl rfl, fun U hU hW => ⟨rfl, by rw [hU]; exact hPc, va_K.moved hW.alike hKc⟩⟩ rfl rfl hl.1 rfl (lv_room (Nat.le_of_ble_eq_true rfl)) dX7_select_11 ⟨Nat.le_of_ble_eq_true rfl, Nat.le_of_ble_eq_true rfl⟩) (fun r_4 hw_3 => ?_)
  subst hw_3
  have hPc := hP.sub (ws' := []) [] rfl
  have hKc := hK.sub (tys' := []) [] rfl
  have hDc := hD.sub (ws' := []) [] (by decide) rfl
  exact vx_callv (vx_runS (As := [.int w, .int (nI (fb_ct (bo fm) 4096))]) (rest := []) ⟨hx, hb, hml, hown, hts⟩ (x_X7_needPlace l hls dC dI w (fb_ct (bo fm) 4096) sa s.heap.size (by first | assumption | omega)) (va_cwS 2 hts gX7_select_X7_needPlace rfl rfl rfl (by decide +kernel) ⟨Nat.le_of_ble_eq_true rfl, Nat.le_of_ble_eq_true rfl⟩) ⟨fun a U g mk q => by obtain ⟨q0, q1, qT, qP, qK, qD⟩ := q; exact ⟨q0, q1, TW.same (u := U) (U := U.calling g mk a) rfl qT, qP, va_K.moved (u := U) (U := U.calling g mk a) (Vm.Alike.refl U.vm) qK, qD⟩, fun U hU hW => ⟨rfl, by rw [hU], by rw [hU]; exact TW.warm hW hT, by rw [hU]; exact hPc, va_K.moved hW.alike hKc, hDc.weaken (fun _ _ _ _ => trivial)⟩⟩ rfl rfl hl.1 rfl (lv_room (Nat.le_of_ble_eq_true rfl)) dX7_select_14 ⟨Nat.le_of_ble_eq_true rfl, Nat.le_of_ble_eq_true rfl⟩) hS (fun q h9 h8 => absurd h8 (Nat.not_le_of_lt h9)) (fun q h8 => Nat.le_trans hS.1 h8) (fun q h9 h8 => absurd h8 (Nat.not_le_of_lt h9)) (fun E9 ce9 q9 u9 t9 H9 l9 ht9 hvm9 hu9 hE9 hz9 hk9 hS9 hce9 hcv9 hcl9 => vx_out (fun x h => (hcat x h).elim) hlocks hce9 hcv9 hcl9 (fun t8 ht8 ha8 => ⟨(), trivial, hE9, by rw [ht8]; exact hz9, fun q h1 h2 => by rw [ht8]; exact hk9 q h1 h2⟩) hS9.2.2 (Nat.le_of_ble_eq_true rfl) (Nat.le_of_ble_eq_true rfl)) (fun u9 t9 H9 l9 ht9 hvm9 hu9 hB9 hz9 hk9 hS9 => hu9.elim)
set_option maxHeartbeats 4000000 in
set_option maxRecDepth 100000 in
/-- contains_n2 throws IllegalArgumentException -/
theorem x_X7_contains_n2 (l : Launch) (hls : l.stackTraces = false) (dC : Nat → ClassId) (dI : Nat → Nat → Nat) (q : Nat) (s0 : Nat) (s1 : Nat) (s2 : Nat) (w : Int32) (sa sz : Nat) (hW : isN w = false) : vx_Met l yX7_contains wsX7_contains ({ frames := 7, cells := 1, slots := 6, locals := 102 }) (va_Pc [.ref q, .int (nI 2), .int w] (fun U => U.heap.size = sz ∧ TW "java/lang/IllegalArgumentException" 153 "the number is out of range" sa (fun q => sz ≤ q) U U.heap ∧ va_P (dC, dI) vwCl [(q, .inr (6, [.ref s0, .ref s1, .ref s2]))] U.heap ∧ va_K (dC, dI) vwCl [] U ∧ va_D (fun _ => True) [(q, .inr (6, [.ref s0, .ref s1, .ref s2]))])) (va_Qv (fun _ : Unit => False) (fun _ _ => True) (fun q => sz ≤ q)) (vx_X (fun _ : Unit => True) (fun E _ _ => E = "java/lang/IllegalArgumentException") (fun q => sz ≤ q)) 1 6 (fun q => sz ≤ q) := by
  refine vx_ofW (cc := cX7_contains) (maxL := 4) (ret := (some .boolean)) (by decide) rfl ?_
  intro p e s m args below meth c s₁ B hml hcat hv
  obtain ⟨rfl, hsz, hT, hP, hK, hD⟩ := hv
  have hx := B.exec
  have hb := B.bytes
  have hr := B.returns
  have hts := atoms_spec (ws := wsX7_contains) B.pre
  have hown : s.vm.findClass RX7 = some m.cls := findClass_of_methodNamed B.named
  have hlocks := B.notSynchronized
  subst hsz
  have hS : va_S (fun q => s.heap.size ≤ q) s.heap s.heap [] := va_S.rf
  have hP : va_P (dC, dI) vwCl [(q, .inr (6, [.ref s0, .ref s1, .ref s2]))] s.heap := hP
  have hl := lv_entry ([.ref q, .int (nI 2), .int w]) (n := 4) (Nat.le_of_ble_eq_true rfl)
  rw [lg_entry_eq]
  generalize (lg_sl ([.ref q, .int (nI 2), .int w]) ++ List.replicate (4 - (lg_sl ([.ref q, .int (nI 2), .int w])).length) Slot.unset).toArray = ls at hl ⊢
  have hl : lv_has ls 4 [(0, .ref q), (1, .int (nI 2)), (2, .int w)] := hl
  refine lv_aload_n hx hb dX7_contains_0 rfl (lv_at hl 0 rfl) ?_
  refine lv_iload_n hx hb dX7_contains_1 rfl (lv_at hl 1 rfl) ?_
  have hPc := hP.sub (ws' := [(q, .inr (6, [.ref s0, .ref s1, .ref s2]))]) [0] rfl
  have hKc := hK.sub (tys' := []) [] rfl
  refine va_csr (W.runV (As := [.int (nI 2)]) (rest := []) ⟨hx, hb, hml, hown, hts⟩ (c_X7_chosenSet_2 l dC dI q s0 s1 s2 ) (cwV 1 hts gX7_contains_X7_chosenSet rfl rfl rfl (by decide +kernel) ⟨Nat.le_of_ble_eq_true rfl, Nat.le_of_ble_eq_true rfl⟩) ⟨fun a U g mk q => by obtain ⟨q0, qP, qK⟩ := q; exact ⟨q0, qP, va_K.moved (u := U) (U := U.calling g mk a) (Vm.Alike.refl U.vm) qK⟩, va_recv hKc hPc (ci := 6) (q0 := 0) rfl rfl, fun U hU hW => ⟨rfl, by rw [hU]; exact hPc, va_K.moved hW.alike hKc⟩⟩ rfl rfl hl.1 rfl (lv_room (Nat.le_of_ble_eq_true rfl)) dX7_contains_2 ⟨Nat.le_of_ble_eq_true rfl, Nat.le_of_ble_eq_true rfl⟩) (fun r_2 hw_1 => ?_)
  have hw_1 := hw_1.symm
  subst hw_1
  refine lv_astore_n (lv' := [(3, .ref s2), (0, .ref q), (1, .int (nI 2)), (2, .int w)]) hx hb dX7_contains_5 rfl hl (by decide) rfl (fun ls hl => ?_)
  refine lv_iload_n hx hb dX7_contains_6 rfl (lv_at hl 3 rfl) ?_
  have hPc := hP.sub (ws' := []) [] rfl
  have hKc := hK.sub (tys' := []) [] rfl
  have hDc := hD.sub (ws' := []) [] (by decide) rfl
  exact vx_callv (vx_runS (As := [.int w]) (rest := []) ⟨hx, hb, hml, hown, hts⟩ (x_X7_needNumber l hls dC dI w sa s.heap.size (by first | assumption | omega)) (va_cwS 1 hts gX7_contains_X7_needNumber rfl rfl rfl (by decide +kernel) ⟨Nat.le_of_ble_eq_true rfl, Nat.le_of_ble_eq_true rfl⟩) ⟨fun a U g mk q => by obtain ⟨q0, q1, qT, qP, qK, qD⟩ := q; exact ⟨q0, q1, TW.same (u := U) (U := U.calling g mk a) rfl qT, qP, va_K.moved (u := U) (U := U.calling g mk a) (Vm.Alike.refl U.vm) qK, qD⟩, fun U hU hW => ⟨rfl, by rw [hU], by rw [hU]; exact TW.warm hW hT, by rw [hU]; exact hPc, va_K.moved hW.alike hKc, hDc.weaken (fun _ _ _ _ => trivial)⟩⟩ rfl rfl hl.1 rfl (lv_room (Nat.le_of_ble_eq_true rfl)) dX7_contains_7 ⟨Nat.le_of_ble_eq_true rfl, Nat.le_of_ble_eq_true rfl⟩) hS (fun q h9 h8 => absurd h8 (Nat.not_le_of_lt h9)) (fun q h8 => Nat.le_trans hS.1 h8) (fun q h9 h8 => absurd h8 (Nat.not_le_of_lt h9)) (fun E9 ce9 q9 u9 t9 H9 l9 ht9 hvm9 hu9 hE9 hz9 hk9 hS9 hce9 hcv9 hcl9 => vx_out (fun x h => (hcat x h).elim) hlocks hce9 hcv9 hcl9 (fun t8 ht8 ha8 => ⟨(), trivial, hE9, by rw [ht8]; exact hz9, fun q h1 h2 => by rw [ht8]; exact hk9 q h1 h2⟩) hS9.2.2 (Nat.le_of_ble_eq_true rfl) (Nat.le_of_ble_eq_true rfl)) (fun u9 t9 H9 l9 ht9 hvm9 hu9 hB9 hz9 hk9 hS9 => hu9.elim)
set_option maxHeartbeats 4000000 in
set_option maxRecDepth 100000 in
/-- successor_n2 throws IllegalArgumentException -/
theorem x_X7_successor_n2 (l : Launch) (hls : l.stackTraces = false) (dC : Nat → ClassId) (dI : Nat → Nat → Nat) (q : Nat) (s0 : Nat) (s1 : Nat) (s2 : Nat) (w : Int32) (sa sz : Nat) (hW : isN w = false) : vx_Met l yX7_successor wsX7_successor ({ frames := 7, cells := 1, slots := 6, locals := 102 }) (va_Pc [.ref q, .int (nI 2), .int w] (fun U => U.heap.size = sz ∧ TW "java/lang/IllegalArgumentException" 153 "the number is out of range" sa (fun q => sz ≤ q) U U.heap ∧ va_P (dC, dI) vwCl [(q, .inr (6, [.ref s0, .ref s1, .ref s2]))] U.heap ∧ va_K (dC, dI) vwCl [] U ∧ va_D (fun _ => True) [(q, .inr (6, [.ref s0, .ref s1, .ref s2]))])) (va_Qv (fun _ : Unit => False) (fun _ _ => True) (fun q => sz ≤ q)) (vx_X (fun _ : Unit => True) (fun E _ _ => E = "java/lang/IllegalArgumentException") (fun q => sz ≤ q)) 1 6 (fun q => sz ≤ q) := by
  refine vx_ofW (cc := cX7_successor) (maxL := 4) (ret := (some .int)) (by decide) rfl ?_
  intro p e s m args below meth c s₁ B hml hcat hv
  obtain ⟨rfl, hsz, hT, hP, hK, hD⟩ := hv
  have hx := B.exec
  have hb := B.bytes
  have hr := B.returns
  have hts := atoms_spec (ws := wsX7_successor) B.pre
  have hown : s.vm.findClass RX7 = some m.cls := findClass_of_methodNamed B.named
  have hlocks := B.notSynchronized
  subst hsz
  have hS : va_S (fun q => s.heap.size ≤ q) s.heap s.heap [] := va_S.rf
  have hP : va_P (dC, dI) vwCl [(q, .inr (6, [.ref s0, .ref s1, .ref s2]))] s.heap := hP
  have hl := lv_entry ([.ref q, .int (nI 2), .int w]) (n := 4) (Nat.le_of_ble_eq_true rfl)
  rw [lg_entry_eq]
  generalize (lg_sl ([.ref q, .int (nI 2), .int w]) ++ List.replicate (4 - (lg_sl ([.ref q, .int (nI 2), .int w])).length) Slot.unset).toArray = ls at hl ⊢
  have hl : lv_has ls 4 [(0, .ref q), (1, .int (nI 2)), (2, .int w)] := hl
  refine lv_aload_n hx hb dX7_successor_0 rfl (lv_at hl 0 rfl) ?_
  refine lv_iload_n hx hb dX7_successor_1 rfl (lv_at hl 1 rfl) ?_
  have hPc := hP.sub (ws' := [(q, .inr (6, [.ref s0, .ref s1, .ref s2]))]) [0] rfl
  have hKc := hK.sub (tys' := []) [] rfl
  refine va_csr (W.runV (As := [.int (nI 2)]) (rest := []) ⟨hx, hb, hml, hown, hts⟩ (c_X7_chosenSet_2 l dC dI q s0 s1 s2 ) (cwV 1 hts gX7_successor_X7_chosenSet rfl rfl rfl (by decide +kernel) ⟨Nat.le_of_ble_eq_true rfl, Nat.le_of_ble_eq_true rfl⟩) ⟨fun a U g mk q => by obtain ⟨q0, qP, qK⟩ := q; exact ⟨q0, qP, va_K.moved (u := U) (U := U.calling g mk a) (Vm.Alike.refl U.vm) qK⟩, va_recv hKc hPc (ci := 6) (q0 := 0) rfl rfl, fun U hU hW => ⟨rfl, by rw [hU]; exact hPc, va_K.moved hW.alike hKc⟩⟩ rfl rfl hl.1 rfl (lv_room (Nat.le_of_ble_eq_true rfl)) dX7_successor_2 ⟨Nat.le_of_ble_eq_true rfl, Nat.le_of_ble_eq_true rfl⟩) (fun r_2 hw_1 => ?_)
  have hw_1 := hw_1.symm
  subst hw_1
  refine lv_astore_n (lv' := [(3, .ref s2), (0, .ref q), (1, .int (nI 2)), (2, .int w)]) hx hb dX7_successor_5 rfl hl (by decide) rfl (fun ls hl => ?_)
  refine lv_iload_n hx hb dX7_successor_6 rfl (lv_at hl 3 rfl) ?_
  have hPc := hP.sub (ws' := []) [] rfl
  have hKc := hK.sub (tys' := []) [] rfl
  have hDc := hD.sub (ws' := []) [] (by decide) rfl
  exact vx_callv (vx_runS (As := [.int w]) (rest := []) ⟨hx, hb, hml, hown, hts⟩ (x_X7_needNumber l hls dC dI w sa s.heap.size (by first | assumption | omega)) (va_cwS 1 hts gX7_successor_X7_needNumber rfl rfl rfl (by decide +kernel) ⟨Nat.le_of_ble_eq_true rfl, Nat.le_of_ble_eq_true rfl⟩) ⟨fun a U g mk q => by obtain ⟨q0, q1, qT, qP, qK, qD⟩ := q; exact ⟨q0, q1, TW.same (u := U) (U := U.calling g mk a) rfl qT, qP, va_K.moved (u := U) (U := U.calling g mk a) (Vm.Alike.refl U.vm) qK, qD⟩, fun U hU hW => ⟨rfl, by rw [hU], by rw [hU]; exact TW.warm hW hT, by rw [hU]; exact hPc, va_K.moved hW.alike hKc, hDc.weaken (fun _ _ _ _ => trivial)⟩⟩ rfl rfl hl.1 rfl (lv_room (Nat.le_of_ble_eq_true rfl)) dX7_successor_7 ⟨Nat.le_of_ble_eq_true rfl, Nat.le_of_ble_eq_true rfl⟩) hS (fun q h9 h8 => absurd h8 (Nat.not_le_of_lt h9)) (fun q h8 => Nat.le_trans hS.1 h8) (fun q h9 h8 => absurd h8 (Nat.not_le_of_lt h9)) (fun E9 ce9 q9 u9 t9 H9 l9 ht9 hvm9 hu9 hE9 hz9 hk9 hS9 hce9 hcv9 hcl9 => vx_out (fun x h => (hcat x h).elim) hlocks hce9 hcv9 hcl9 (fun t8 ht8 ha8 => ⟨(), trivial, hE9, by rw [ht8]; exact hz9, fun q h1 h2 => by rw [ht8]; exact hk9 q h1 h2⟩) hS9.2.2 (Nat.le_of_ble_eq_true rfl) (Nat.le_of_ble_eq_true rfl)) (fun u9 t9 H9 l9 ht9 hvm9 hu9 hB9 hz9 hk9 hS9 => hu9.elim)
set_option maxHeartbeats 4000000 in
set_option maxRecDepth 100000 in
/-- predecessor_n2 throws IllegalArgumentException -/
theorem x_X7_predecessor_n2 (l : Launch) (hls : l.stackTraces = false) (dC : Nat → ClassId) (dI : Nat → Nat → Nat) (q : Nat) (s0 : Nat) (s1 : Nat) (s2 : Nat) (w : Int32) (sa sz : Nat) (hW : isN w = false) : vx_Met l yX7_predecessor wsX7_predecessor ({ frames := 7, cells := 1, slots := 6, locals := 102 }) (va_Pc [.ref q, .int (nI 2), .int w] (fun U => U.heap.size = sz ∧ TW "java/lang/IllegalArgumentException" 153 "the number is out of range" sa (fun q => sz ≤ q) U U.heap ∧ va_P (dC, dI) vwCl [(q, .inr (6, [.ref s0, .ref s1, .ref s2]))] U.heap ∧ va_K (dC, dI) vwCl [] U ∧ va_D (fun _ => True) [(q, .inr (6, [.ref s0, .ref s1, .ref s2]))])) (va_Qv (fun _ : Unit => False) (fun _ _ => True) (fun q => sz ≤ q)) (vx_X (fun _ : Unit => True) (fun E _ _ => E = "java/lang/IllegalArgumentException") (fun q => sz ≤ q)) 1 6 (fun q => sz ≤ q) := by
  refine vx_ofW (cc := cX7_predecessor) (maxL := 4) (ret := (some .int)) (by decide) rfl ?_
  intro p e s m args below meth c s₁ B hml hcat hv
  obtain ⟨rfl, hsz, hT, hP, hK, hD⟩ := hv
  have hx := B.exec
  have hb := B.bytes
  have hr := B.returns
  have hts := atoms_spec (ws := wsX7_predecessor) B.pre
  have hown : s.vm.findClass RX7 = some m.cls := findClass_of_methodNamed B.named
  have hlocks := B.notSynchronized
  subst hsz
  have hS : va_S (fun q => s.heap.size ≤ q) s.heap s.heap [] := va_S.rf
  have hP : va_P (dC, dI) vwCl [(q, .inr (6, [.ref s0, .ref s1, .ref s2]))] s.heap := hP
  have hl := lv_entry ([.ref q, .int (nI 2), .int w]) (n := 4) (Nat.le_of_ble_eq_true rfl)
  rw [lg_entry_eq]
  generalize (lg_sl ([.ref q, .int (nI 2), .int w]) ++ List.replicate (4 - (lg_sl ([.ref q, .int (nI 2), .int w])).length) Slot.unset).toArray = ls at hl ⊢
  have hl : lv_has ls 4 [(0, .ref q), (1, .int (nI 2)), (2, .int w)] := hl
  refine lv_aload_n hx hb dX7_predecessor_0 rfl (lv_at hl 0 rfl) ?_
  refine lv_iload_n hx hb dX7_predecessor_1 rfl (lv_at hl 1 rfl) ?_
  have hPc := hP.sub (ws' := [(q, .inr (6, [.ref s0, .ref s1, .ref s2]))]) [0] rfl
  have hKc := hK.sub (tys' := []) [] rfl
  refine va_csr (W.runV (As := [.int (nI 2)]) (rest := []) ⟨hx, hb, hml, hown, hts⟩ (c_X7_chosenSet_2 l dC dI q s0 s1 s2 ) (cwV 1 hts gX7_predecessor_X7_chosenSet rfl rfl rfl (by decide +kernel) ⟨Nat.le_of_ble_eq_true rfl, Nat.le_of_ble_eq_true rfl⟩) ⟨fun a U g mk q => by obtain ⟨q0, qP, qK⟩ := q; exact ⟨q0, qP, va_K.moved (u := U) (U := U.calling g mk a) (Vm.Alike.refl U.vm) qK⟩, va_recv hKc hPc (ci := 6) (q0 := 0) rfl rfl, fun U hU hW => ⟨rfl, by rw [hU]; exact hPc, va_K.moved hW.alike hKc⟩⟩ rfl rfl hl.1 rfl (lv_room (Nat.le_of_ble_eq_true rfl)) dX7_predecessor_2 ⟨Nat.le_of_ble_eq_true rfl, Nat.le_of_ble_eq_true rfl⟩) (fun r_2 hw_1 => ?_)
  have hw_1 := hw_1.symm
  subst hw_1
  refine lv_astore_n (lv' := [(3, .ref s2), (0, .ref q), (1, .int (nI 2)), (2, .int w)]) hx hb dX7_predecessor_5 rfl hl (by decide) rfl (fun ls hl => ?_)
  refine lv_iload_n hx hb dX7_predecessor_6 rfl (lv_at hl 3 rfl) ?_
  have hPc := hP.sub (ws' := []) [] rfl
  have hKc := hK.sub (tys' := []) [] rfl
  have hDc := hD.sub (ws' := []) [] (by decide) rfl
  exact vx_callv (vx_runS (As := [.int w]) (rest := []) ⟨hx, hb, hml, hown, hts⟩ (x_X7_needNumber l hls dC dI w sa s.heap.size (by first | assumption | omega)) (va_cwS 1 hts gX7_predecessor_X7_needNumber rfl rfl rfl (by decide +kernel) ⟨Nat.le_of_ble_eq_true rfl, Nat.le_of_ble_eq_true rfl⟩) ⟨fun a U g mk q => by obtain ⟨q0, q1, qT, qP, qK, qD⟩ := q; exact ⟨q0, q1, TW.same (u := U) (U := U.calling g mk a) rfl qT, qP, va_K.moved (u := U) (U := U.calling g mk a) (Vm.Alike.refl U.vm) qK, qD⟩, fun U hU hW => ⟨rfl, by rw [hU], by rw [hU]; exact TW.warm hW hT, by rw [hU]; exact hPc, va_K.moved hW.alike hKc, hDc.weaken (fun _ _ _ _ => trivial)⟩⟩ rfl rfl hl.1 rfl (lv_room (Nat.le_of_ble_eq_true rfl)) dX7_predecessor_7 ⟨Nat.le_of_ble_eq_true rfl, Nat.le_of_ble_eq_true rfl⟩) hS (fun q h9 h8 => absurd h8 (Nat.not_le_of_lt h9)) (fun q h8 => Nat.le_trans hS.1 h8) (fun q h9 h8 => absurd h8 (Nat.not_le_of_lt h9)) (fun E9 ce9 q9 u9 t9 H9 l9 ht9 hvm9 hu9 hE9 hz9 hk9 hS9 hce9 hcv9 hcl9 => vx_out (fun x h => (hcat x h).elim) hlocks hce9 hcv9 hcl9 (fun t8 ht8 ha8 => ⟨(), trivial, hE9, by rw [ht8]; exact hz9, fun q h1 h2 => by rw [ht8]; exact hk9 q h1 h2⟩) hS9.2.2 (Nat.le_of_ble_eq_true rfl) (Nat.le_of_ble_eq_true rfl)) (fun u9 t9 H9 l9 ht9 hvm9 hu9 hB9 hz9 hk9 hS9 => hu9.elim)
set_option maxHeartbeats 4000000 in
set_option maxRecDepth 100000 in
/-- rank_n2 throws IllegalArgumentException -/
theorem x_X7_rank_n2 (l : Launch) (hls : l.stackTraces = false) (dC : Nat → ClassId) (dI : Nat → Nat → Nat) (q : Nat) (s0 : Nat) (s1 : Nat) (s2 : Nat) (w : Int32) (sa sz : Nat) (hW : isN w = false) : vx_Met l yX7_rank wsX7_rank ({ frames := 7, cells := 1, slots := 6, locals := 102 }) (va_Pc [.ref q, .int (nI 2), .int w] (fun U => U.heap.size = sz ∧ TW "java/lang/IllegalArgumentException" 153 "the number is out of range" sa (fun q => sz ≤ q) U U.heap ∧ va_P (dC, dI) vwCl [(q, .inr (6, [.ref s0, .ref s1, .ref s2]))] U.heap ∧ va_K (dC, dI) vwCl [] U ∧ va_D (fun _ => True) [(q, .inr (6, [.ref s0, .ref s1, .ref s2]))])) (va_Qv (fun _ : Unit => False) (fun _ _ => True) (fun q => sz ≤ q)) (vx_X (fun _ : Unit => True) (fun E _ _ => E = "java/lang/IllegalArgumentException") (fun q => sz ≤ q)) 1 6 (fun q => sz ≤ q) := by
  refine vx_ofW (cc := cX7_rank) (maxL := 4) (ret := (some .int)) (by decide) rfl ?_
  intro p e s m args below meth c s₁ B hml hcat hv
  obtain ⟨rfl, hsz, hT, hP, hK, hD⟩ := hv
  have hx := B.exec
  have hb := B.bytes
  have hr := B.returns
  have hts := atoms_spec (ws := wsX7_rank) B.pre
  have hown : s.vm.findClass RX7 = some m.cls := findClass_of_methodNamed B.named
  have hlocks := B.notSynchronized
  subst hsz
  have hS : va_S (fun q => s.heap.size ≤ q) s.heap s.heap [] := va_S.rf
  have hP : va_P (dC, dI) vwCl [(q, .inr (6, [.ref s0, .ref s1, .ref s2]))] s.heap := hP
  have hl := lv_entry ([.ref q, .int (nI 2), .int w]) (n := 4) (Nat.le_of_ble_eq_true rfl)
  rw [lg_entry_eq]
  generalize (lg_sl ([.ref q, .int (nI 2), .int w]) ++ List.replicate (4 - (lg_sl ([.ref q, .int (nI 2), .int w])).length) Slot.unset).toArray = ls at hl ⊢
  have hl : lv_has ls 4 [(0, .ref q), (1, .int (nI 2)), (2, .int w)] := hl
  refine lv_aload_n hx hb dX7_rank_0 rfl (lv_at hl 0 rfl) ?_
  refine lv_iload_n hx hb dX7_rank_1 rfl (lv_at hl 1 rfl) ?_
  have hPc := hP.sub (ws' := [(q, .inr (6, [.ref s0, .ref s1, .ref s2]))]) [0] rfl
  have hKc := hK.sub (tys' := []) [] rfl
  refine va_csr (W.runV (As := [.int (nI 2)]) (rest := []) ⟨hx, hb, hml, hown, hts⟩ (c_X7_chosenSet_2 l dC dI q s0 s1 s2 ) (cwV 1 hts gX7_rank_X7_chosenSet rfl rfl rfl (by decide +kernel) ⟨Nat.le_of_ble_eq_true rfl, Nat.le_of_ble_eq_true rfl⟩) ⟨fun a U g mk q => by obtain ⟨q0, qP, qK⟩ := q; exact ⟨q0, qP, va_K.moved (u := U) (U := U.calling g mk a) (Vm.Alike.refl U.vm) qK⟩, va_recv hKc hPc (ci := 6) (q0 := 0) rfl rfl, fun U hU hW => ⟨rfl, by rw [hU]; exact hPc, va_K.moved hW.alike hKc⟩⟩ rfl rfl hl.1 rfl (lv_room (Nat.le_of_ble_eq_true rfl)) dX7_rank_2 ⟨Nat.le_of_ble_eq_true rfl, Nat.le_of_ble_eq_true rfl⟩) (fun r_2 hw_1 => ?_)
  have hw_1 := hw_1.symm
  subst hw_1
  refine lv_astore_n (lv' := [(3, .ref s2), (0, .ref q), (1, .int (nI 2)), (2, .int w)]) hx hb dX7_rank_5 rfl hl (by decide) rfl (fun ls hl => ?_)
  refine lv_iload_n hx hb dX7_rank_6 rfl (lv_at hl 3 rfl) ?_
  have hPc := hP.sub (ws' := []) [] rfl
  have hKc := hK.sub (tys' := []) [] rfl
  have hDc := hD.sub (ws' := []) [] (by decide) rfl
  exact vx_callv (vx_runS (As := [.int w]) (rest := []) ⟨hx, hb, hml, hown, hts⟩ (x_X7_needNumber l hls dC dI w sa s.heap.size (by first | assumption | omega)) (va_cwS 1 hts gX7_rank_X7_needNumber rfl rfl rfl (by decide +kernel) ⟨Nat.le_of_ble_eq_true rfl, Nat.le_of_ble_eq_true rfl⟩) ⟨fun a U g mk q => by obtain ⟨q0, q1, qT, qP, qK, qD⟩ := q; exact ⟨q0, q1, TW.same (u := U) (U := U.calling g mk a) rfl qT, qP, va_K.moved (u := U) (U := U.calling g mk a) (Vm.Alike.refl U.vm) qK, qD⟩, fun U hU hW => ⟨rfl, by rw [hU], by rw [hU]; exact TW.warm hW hT, by rw [hU]; exact hPc, va_K.moved hW.alike hKc, hDc.weaken (fun _ _ _ _ => trivial)⟩⟩ rfl rfl hl.1 rfl (lv_room (Nat.le_of_ble_eq_true rfl)) dX7_rank_7 ⟨Nat.le_of_ble_eq_true rfl, Nat.le_of_ble_eq_true rfl⟩) hS (fun q h9 h8 => absurd h8 (Nat.not_le_of_lt h9)) (fun q h8 => Nat.le_trans hS.1 h8) (fun q h9 h8 => absurd h8 (Nat.not_le_of_lt h9)) (fun E9 ce9 q9 u9 t9 H9 l9 ht9 hvm9 hu9 hE9 hz9 hk9 hS9 hce9 hcv9 hcl9 => vx_out (fun x h => (hcat x h).elim) hlocks hce9 hcv9 hcl9 (fun t8 ht8 ha8 => ⟨(), trivial, hE9, by rw [ht8]; exact hz9, fun q h1 h2 => by rw [ht8]; exact hk9 q h1 h2⟩) hS9.2.2 (Nat.le_of_ble_eq_true rfl) (Nat.le_of_ble_eq_true rfl)) (fun u9 t9 H9 l9 ht9 hvm9 hu9 hB9 hz9 hk9 hS9 => hu9.elim)
set_option maxHeartbeats 4000000 in
set_option maxRecDepth 100000 in
/-- steps_n2 throws IllegalArgumentException -/
theorem x_X7_steps_n2 (l : Launch) (hls : l.stackTraces = false) (dC : Nat → ClassId) (dI : Nat → Nat → Nat) (q : Nat) (s0 : Nat) (s1 : Nat) (s2 : Nat) (w : Int32) (sa sz : Nat) (hW : isN w = false) : vx_Met l yX7_steps wsX7_steps ({ frames := 7, cells := 1, slots := 6, locals := 102 }) (va_Pc [.ref q, .int (nI 2), .int w] (fun U => U.heap.size = sz ∧ TW "java/lang/IllegalArgumentException" 153 "the number is out of range" sa (fun q => sz ≤ q) U U.heap ∧ va_P (dC, dI) vwCl [(q, .inr (6, [.ref s0, .ref s1, .ref s2]))] U.heap ∧ va_K (dC, dI) vwCl [] U ∧ va_D (fun _ => True) [(q, .inr (6, [.ref s0, .ref s1, .ref s2]))])) (va_Qv (fun _ : Unit => False) (fun _ _ => True) (fun q => sz ≤ q)) (vx_X (fun _ : Unit => True) (fun E _ _ => E = "java/lang/IllegalArgumentException") (fun q => sz ≤ q)) 1 6 (fun q => sz ≤ q) := by
  refine vx_ofW (cc := cX7_steps) (maxL := 4) (ret := (some .int)) (by decide) rfl ?_
  intro p e s m args below meth c s₁ B hml hcat hv
  obtain ⟨rfl, hsz, hT, hP, hK, hD⟩ := hv
  have hx := B.exec
  have hb := B.bytes
  have hr := B.returns
  have hts := atoms_spec (ws := wsX7_steps) B.pre
  have hown : s.vm.findClass RX7 = some m.cls := findClass_of_methodNamed B.named
  have hlocks := B.notSynchronized
  subst hsz
  have hS : va_S (fun q => s.heap.size ≤ q) s.heap s.heap [] := va_S.rf
  have hP : va_P (dC, dI) vwCl [(q, .inr (6, [.ref s0, .ref s1, .ref s2]))] s.heap := hP
  have hl := lv_entry ([.ref q, .int (nI 2), .int w]) (n := 4) (Nat.le_of_ble_eq_true rfl)
  rw [lg_entry_eq]
  generalize (lg_sl ([.ref q, .int (nI 2), .int w]) ++ List.replicate (4 - (lg_sl ([.ref q, .int (nI 2), .int w])).length) Slot.unset).toArray = ls at hl ⊢
  have hl : lv_has ls 4 [(0, .ref q), (1, .int (nI 2)), (2, .int w)] := hl
  refine lv_aload_n hx hb dX7_steps_0 rfl (lv_at hl 0 rfl) ?_
  refine lv_iload_n hx hb dX7_steps_1 rfl (lv_at hl 1 rfl) ?_
  have hPc := hP.sub (ws' := [(q, .inr (6, [.ref s0, .ref s1, .ref s2]))]) [0] rfl
  have hKc := hK.sub (tys' := []) [] rfl
  refine va_csr (W.runV (As := [.int (nI 2)]) (rest := []) ⟨hx, hb, hml, hown, hts⟩ (c_X7_chosenSet_2 l dC dI q s0 s1 s2 ) (cwV 1 hts gX7_steps_X7_chosenSet rfl rfl rfl (by decide +kernel) ⟨Nat.le_of_ble_eq_true rfl, Nat.le_of_ble_eq_true rfl⟩) ⟨fun a U g mk q => by obtain ⟨q0, qP, qK⟩ := q; exact ⟨q0, qP, va_K.moved (u := U) (U := U.calling g mk a) (Vm.Alike.refl U.vm) qK⟩, va_recv hKc hPc (ci := 6) (q0 := 0) rfl rfl, fun U hU hW => ⟨rfl, by rw [hU]; exact hPc, va_K.moved hW.alike hKc⟩⟩ rfl rfl hl.1 rfl (lv_room (Nat.le_of_ble_eq_true rfl)) dX7_steps_2 ⟨Nat.le_of_ble_eq_true rfl, Nat.le_of_ble_eq_true rfl⟩) (fun r_2 hw_1 => ?_)
  have hw_1 := hw_1.symm
  subst hw_1
  refine lv_astore_n (lv' := [(3, .ref s2), (0, .ref q), (1, .int (nI 2)), (2, .int w)]) hx hb dX7_steps_5 rfl hl (by decide) rfl (fun ls hl => ?_)
  refine lv_iload_n hx hb dX7_steps_6 rfl (lv_at hl 3 rfl) ?_
  have hPc := hP.sub (ws' := []) [] rfl
  have hKc := hK.sub (tys' := []) [] rfl
  have hDc := hD.sub (ws' := []) [] (by decide) rfl
  exact vx_callv (vx_runS (As := [.int w]) (rest := []) ⟨hx, hb, hml, hown, hts⟩ (x_X7_needNumber l hls dC dI w sa s.heap.size (by first | assumption | omega)) (va_cwS 1 hts gX7_steps_X7_needNumber rfl rfl rfl (by decide +kernel) ⟨Nat.le_of_ble_eq_true rfl, Nat.le_of_ble_eq_true rfl⟩) ⟨fun a U g mk q => by obtain ⟨q0, q1, qT, qP, qK, qD⟩ := q; exact ⟨q0, q1, TW.same (u := U) (U := U.calling g mk a) rfl qT, qP, va_K.moved (u := U) (U := U.calling g mk a) (Vm.Alike.refl U.vm) qK, qD⟩, fun U hU hW => ⟨rfl, by rw [hU], by rw [hU]; exact TW.warm hW hT, by rw [hU]; exact hPc, va_K.moved hW.alike hKc, hDc.weaken (fun _ _ _ _ => trivial)⟩⟩ rfl rfl hl.1 rfl (lv_room (Nat.le_of_ble_eq_true rfl)) dX7_steps_7 ⟨Nat.le_of_ble_eq_true rfl, Nat.le_of_ble_eq_true rfl⟩) hS (fun q h9 h8 => absurd h8 (Nat.not_le_of_lt h9)) (fun q h8 => Nat.le_trans hS.1 h8) (fun q h9 h8 => absurd h8 (Nat.not_le_of_lt h9)) (fun E9 ce9 q9 u9 t9 H9 l9 ht9 hvm9 hu9 hE9 hz9 hk9 hS9 hce9 hcv9 hcl9 => vx_out (fun x h => (hcat x h).elim) hlocks hce9 hcv9 hcl9 (fun t8 ht8 ha8 => ⟨(), trivial, hE9, by rw [ht8]; exact hz9, fun q h1 h2 => by rw [ht8]; exact hk9 q h1 h2⟩) hS9.2.2 (Nat.le_of_ble_eq_true rfl) (Nat.le_of_ble_eq_true rfl)) (fun u9 t9 H9 l9 ht9 hvm9 hu9 hB9 hz9 hk9 hS9 => hu9.elim)
set_option maxHeartbeats 4000000 in
set_option maxRecDepth 100000 in
/-- longestMatch_n2 throws IllegalArgumentException -/
theorem x_X7_longestMatch_n2 (l : Launch) (hls : l.stackTraces = false) (dC : Nat → ClassId) (dI : Nat → Nat → Nat) (q : Nat) (s0 : Nat) (s1 : Nat) (s2 : Nat) (w : Int32) (sa sz : Nat) (hW : isN w = false) : vx_Met l yX7_longestMatch wsX7_longestMatch ({ frames := 7, cells := 1, slots := 6, locals := 102 }) (va_Pc [.ref q, .int (nI 2), .int w] (fun U => U.heap.size = sz ∧ TW "java/lang/IllegalArgumentException" 153 "the number is out of range" sa (fun q => sz ≤ q) U U.heap ∧ va_P (dC, dI) vwCl [(q, .inr (6, [.ref s0, .ref s1, .ref s2]))] U.heap ∧ va_K (dC, dI) vwCl [] U ∧ va_D (fun _ => True) [(q, .inr (6, [.ref s0, .ref s1, .ref s2]))])) (va_Qv (fun _ : Unit => False) (fun _ _ => True) (fun q => sz ≤ q)) (vx_X (fun _ : Unit => True) (fun E _ _ => E = "java/lang/IllegalArgumentException") (fun q => sz ≤ q)) 1 6 (fun q => sz ≤ q) := by
  refine vx_ofW (cc := cX7_longestMatch) (maxL := 4) (ret := (some .int)) (by decide) rfl ?_
  intro p e s m args below meth c s₁ B hml hcat hv
  obtain ⟨rfl, hsz, hT, hP, hK, hD⟩ := hv
  have hx := B.exec
  have hb := B.bytes
  have hr := B.returns
  have hts := atoms_spec (ws := wsX7_longestMatch) B.pre
  have hown : s.vm.findClass RX7 = some m.cls := findClass_of_methodNamed B.named
  have hlocks := B.notSynchronized
  subst hsz
  have hS : va_S (fun q => s.heap.size ≤ q) s.heap s.heap [] := va_S.rf
  have hP : va_P (dC, dI) vwCl [(q, .inr (6, [.ref s0, .ref s1, .ref s2]))] s.heap := hP
  have hl := lv_entry ([.ref q, .int (nI 2), .int w]) (n := 4) (Nat.le_of_ble_eq_true rfl)
  rw [lg_entry_eq]
  generalize (lg_sl ([.ref q, .int (nI 2), .int w]) ++ List.replicate (4 - (lg_sl ([.ref q, .int (nI 2), .int w])).length) Slot.unset).toArray = ls at hl ⊢
  have hl : lv_has ls 4 [(0, .ref q), (1, .int (nI 2)), (2, .int w)] := hl
  refine lv_aload_n hx hb dX7_longestMatch_0 rfl (lv_at hl 0 rfl) ?_
  refine lv_iload_n hx hb dX7_longestMatch_1 rfl (lv_at hl 1 rfl) ?_
  have hPc := hP.sub (ws' := [(q, .inr (6, [.ref s0, .ref s1, .ref s2]))]) [0] rfl
  have hKc := hK.sub (tys' := []) [] rfl
  refine va_csr (W.runV (As := [.int (nI 2)]) (rest := []) ⟨hx, hb, hml, hown, hts⟩ (c_X7_chosenSet_2 l dC dI q s0 s1 s2 ) (cwV 1 hts gX7_longestMatch_X7_chosenSet rfl rfl rfl (by decide +kernel) ⟨Nat.le_of_ble_eq_true rfl, Nat.le_of_ble_eq_true rfl⟩) ⟨fun a U g mk q => by obtain ⟨q0, qP, qK⟩ := q; exact ⟨q0, qP, va_K.moved (u := U) (U := U.calling g mk a) (Vm.Alike.refl U.vm) qK⟩, va_recv hKc hPc (ci := 6) (q0 := 0) rfl rfl, fun U hU hW => ⟨rfl, by rw [hU]; exact hPc, va_K.moved hW.alike hKc⟩⟩ rfl rfl hl.1 rfl (lv_room (Nat.le_of_ble_eq_true rfl)) dX7_longestMatch_2 ⟨Nat.le_of_ble_eq_true rfl, Nat.le_of_ble_eq_true rfl⟩) (fun r_2 hw_1 => ?_)
  have hw_1 := hw_1.symm
  subst hw_1
  refine lv_astore_n (lv' := [(3, .ref s2), (0, .ref q), (1, .int (nI 2)), (2, .int w)]) hx hb dX7_longestMatch_5 rfl hl (by decide) rfl (fun ls hl => ?_)
  refine lv_iload_n hx hb dX7_longestMatch_6 rfl (lv_at hl 3 rfl) ?_
  have hPc := hP.sub (ws' := []) [] rfl
  have hKc := hK.sub (tys' := []) [] rfl
  have hDc := hD.sub (ws' := []) [] (by decide) rfl
  exact vx_callv (vx_runS (As := [.int w]) (rest := []) ⟨hx, hb, hml, hown, hts⟩ (x_X7_needNumber l hls dC dI w sa s.heap.size (by first | assumption | omega)) (va_cwS 1 hts gX7_longestMatch_X7_needNumber rfl rfl rfl (by decide +kernel) ⟨Nat.le_of_ble_eq_true rfl, Nat.le_of_ble_eq_true rfl⟩) ⟨fun a U g mk q => by obtain ⟨q0, q1, qT, qP, qK, qD⟩ := q; exact ⟨q0, q1, TW.same (u := U) (U := U.calling g mk a) rfl qT, qP, va_K.moved (u := U) (U := U.calling g mk a) (Vm.Alike.refl U.vm) qK, qD⟩, fun U hU hW => ⟨rfl, by rw [hU], by rw [hU]; exact TW.warm hW hT, by rw [hU]; exact hPc, va_K.moved hW.alike hKc, hDc.weaken (fun _ _ _ _ => trivial)⟩⟩ rfl rfl hl.1 rfl (lv_room (Nat.le_of_ble_eq_true rfl)) dX7_longestMatch_7 ⟨Nat.le_of_ble_eq_true rfl, Nat.le_of_ble_eq_true rfl⟩) hS (fun q h9 h8 => absurd h8 (Nat.not_le_of_lt h9)) (fun q h8 => Nat.le_trans hS.1 h8) (fun q h9 h8 => absurd h8 (Nat.not_le_of_lt h9)) (fun E9 ce9 q9 u9 t9 H9 l9 ht9 hvm9 hu9 hE9 hz9 hk9 hS9 hce9 hcv9 hcl9 => vx_out (fun x h => (hcat x h).elim) hlocks hce9 hcv9 hcl9 (fun t8 ht8 ha8 => ⟨(), trivial, hE9, by rw [ht8]; exact hz9, fun q h1 h2 => by rw [ht8]; exact hk9 q h1 h2⟩) hS9.2.2 (Nat.le_of_ble_eq_true rfl) (Nat.le_of_ble_eq_true rfl)) (fun u9 t9 H9 l9 ht9 hvm9 hu9 hB9 hz9 hk9 hS9 => hu9.elim)
set_option maxHeartbeats 4000000 in
set_option maxRecDepth 100000 in
/-- probes_n2 throws IllegalArgumentException -/
theorem x_X7_probes_n2 (l : Launch) (hls : l.stackTraces = false) (dC : Nat → ClassId) (dI : Nat → Nat → Nat) (q : Nat) (s0 : Nat) (s1 : Nat) (s2 : Nat) (w : Int32) (sa sz : Nat) (hW : isN w = false) : vx_Met l yX7_probes wsX7_probes ({ frames := 7, cells := 1, slots := 6, locals := 102 }) (va_Pc [.ref q, .int (nI 2), .int w] (fun U => U.heap.size = sz ∧ TW "java/lang/IllegalArgumentException" 153 "the number is out of range" sa (fun q => sz ≤ q) U U.heap ∧ va_P (dC, dI) vwCl [(q, .inr (6, [.ref s0, .ref s1, .ref s2]))] U.heap ∧ va_K (dC, dI) vwCl [] U ∧ va_D (fun _ => True) [(q, .inr (6, [.ref s0, .ref s1, .ref s2]))])) (va_Qv (fun _ : Unit => False) (fun _ _ => True) (fun q => sz ≤ q)) (vx_X (fun _ : Unit => True) (fun E _ _ => E = "java/lang/IllegalArgumentException") (fun q => sz ≤ q)) 1 6 (fun q => sz ≤ q) := by
  refine vx_ofW (cc := cX7_probes) (maxL := 4) (ret := (some .int)) (by decide) rfl ?_
  intro p e s m args below meth c s₁ B hml hcat hv
  obtain ⟨rfl, hsz, hT, hP, hK, hD⟩ := hv
  have hx := B.exec
  have hb := B.bytes
  have hr := B.returns
  have hts := atoms_spec (ws := wsX7_probes) B.pre
  have hown : s.vm.findClass RX7 = some m.cls := findClass_of_methodNamed B.named
  have hlocks := B.notSynchronized
  subst hsz
  have hS : va_S (fun q => s.heap.size ≤ q) s.heap s.heap [] := va_S.rf
  have hP : va_P (dC, dI) vwCl [(q, .inr (6, [.ref s0, .ref s1, .ref s2]))] s.heap := hP
  have hl := lv_entry ([.ref q, .int (nI 2), .int w]) (n := 4) (Nat.le_of_ble_eq_true rfl)
  rw [lg_entry_eq]
  generalize (lg_sl ([.ref q, .int (nI 2), .int w]) ++ List.replicate (4 - (lg_sl ([.ref q, .int (nI 2), .int w])).length) Slot.unset).toArray = ls at hl ⊢
  have hl : lv_has ls 4 [(0, .ref q), (1, .int (nI 2)), (2, .int w)] := hl
  refine lv_aload_n hx hb dX7_probes_0 rfl (lv_at hl 0 rfl) ?_
  refine lv_iload_n hx hb dX7_probes_1 rfl (lv_at hl 1 rfl) ?_
  have hPc := hP.sub (ws' := [(q, .inr (6, [.ref s0, .ref s1, .ref s2]))]) [0] rfl
  have hKc := hK.sub (tys' := []) [] rfl
  refine va_csr (W.runV (As := [.int (nI 2)]) (rest := []) ⟨hx, hb, hml, hown, hts⟩ (c_X7_chosenSet_2 l dC dI q s0 s1 s2 ) (cwV 1 hts gX7_probes_X7_chosenSet rfl rfl rfl (by decide +kernel) ⟨Nat.le_of_ble_eq_true rfl, Nat.le_of_ble_eq_true rfl⟩) ⟨fun a U g mk q => by obtain ⟨q0, qP, qK⟩ := q; exact ⟨q0, qP, va_K.moved (u := U) (U := U.calling g mk a) (Vm.Alike.refl U.vm) qK⟩, va_recv hKc hPc (ci := 6) (q0 := 0) rfl rfl, fun U hU hW => ⟨rfl, by rw [hU]; exact hPc, va_K.moved hW.alike hKc⟩⟩ rfl rfl hl.1 rfl (lv_room (Nat.le_of_ble_eq_true rfl)) dX7_probes_2 ⟨Nat.le_of_ble_eq_true rfl, Nat.le_of_ble_eq_true rfl⟩) (fun r_2 hw_1 => ?_)
  have hw_1 := hw_1.symm
  subst hw_1
  refine lv_astore_n (lv' := [(3, .ref s2), (0, .ref q), (1, .int (nI 2)), (2, .int w)]) hx hb dX7_probes_5 rfl hl (by decide) rfl (fun ls hl => ?_)
  refine lv_iload_n hx hb dX7_probes_6 rfl (lv_at hl 3 rfl) ?_
  have hPc := hP.sub (ws' := []) [] rfl
  have hKc := hK.sub (tys' := []) [] rfl
  have hDc := hD.sub (ws' := []) [] (by decide) rfl
  exact vx_callv (vx_runS (As := [.int w]) (rest := []) ⟨hx, hb, hml, hown, hts⟩ (x_X7_needNumber l hls dC dI w sa s.heap.size (by first | assumption | omega)) (va_cwS 1 hts gX7_probes_X7_needNumber rfl rfl rfl (by decide +kernel) ⟨Nat.le_of_ble_eq_true rfl, Nat.le_of_ble_eq_true rfl⟩) ⟨fun a U g mk q => by obtain ⟨q0, q1, qT, qP, qK, qD⟩ := q; exact ⟨q0, q1, TW.same (u := U) (U := U.calling g mk a) rfl qT, qP, va_K.moved (u := U) (U := U.calling g mk a) (Vm.Alike.refl U.vm) qK, qD⟩, fun U hU hW => ⟨rfl, by rw [hU], by rw [hU]; exact TW.warm hW hT, by rw [hU]; exact hPc, va_K.moved hW.alike hKc, hDc.weaken (fun _ _ _ _ => trivial)⟩⟩ rfl rfl hl.1 rfl (lv_room (Nat.le_of_ble_eq_true rfl)) dX7_probes_7 ⟨Nat.le_of_ble_eq_true rfl, Nat.le_of_ble_eq_true rfl⟩) hS (fun q h9 h8 => absurd h8 (Nat.not_le_of_lt h9)) (fun q h8 => Nat.le_trans hS.1 h8) (fun q h9 h8 => absurd h8 (Nat.not_le_of_lt h9)) (fun E9 ce9 q9 u9 t9 H9 l9 ht9 hvm9 hu9 hE9 hz9 hk9 hS9 hce9 hcv9 hcl9 => vx_out (fun x h => (hcat x h).elim) hlocks hce9 hcv9 hcl9 (fun t8 ht8 ha8 => ⟨(), trivial, hE9, by rw [ht8]; exact hz9, fun q h1 h2 => by rw [ht8]; exact hk9 q h1 h2⟩) hS9.2.2 (Nat.le_of_ble_eq_true rfl) (Nat.le_of_ble_eq_true rfl)) (fun u9 t9 H9 l9 ht9 hvm9 hu9 hB9 hz9 hk9 hS9 => hu9.elim)
set_option maxHeartbeats 4000000 in
set_option maxRecDepth 100000 in
/-- select_p2 throws IndexOutOfBoundsException -/
theorem x_X7_select_p2 (l : Launch) (hls : l.stackTraces = false) (dC : Nat → ClassId) (dI : Nat → Nat → Nat) (q : Nat) (s0 : Nat) (s1 : Nat) (s2 : Nat) (tq : Nat) (ca : Nat) (rq : Nat) (rb : Nat) (rd : Nat) (uq : Nat) (bm : Nat) (am : Nat) (bs : Nat) (ap : Nat) (cJ : ClassId) (fm : Nat → Int64) (fs : Nat → Int64) (ft : Nat → Int64) (fc : Nat → Int64) (sm : Int64) (lo : Option Nat) (w : Int32) (sa sz : Nat) (hN : NI fm fs ft fc sm lo) (hW : pl w (fb_ct (bo fm) 4096) = false) : vx_Met l yX7_select wsX7_select ({ frames := 7, cells := 1, slots := 6, locals := 103 }) (va_Pc [.ref q, .int (nI 2), .int w] (fun U => va_Nw (.fieldLinkNest RX7 38 "SmallNumberSets$NumberSet" "buckets" "LSmallNumberSets$Buckets;" "SmallNumberSets") U ∧ U.heap.size = sz ∧ TW "java/lang/IndexOutOfBoundsException" 165 "no such cluster, level, place or bucket" sa (fun q => sz ≤ q) U U.heap ∧ va_P (dC, dI) vwCl [(q, .inr (6, [.ref s0, .ref s1, .ref s2])), (s2, .inr (3, [.ref tq, .ref rq, .ref uq])), (tq, .inr (4, [.ref ca, .long sm, .int (oI lo)])), (ca, .inl (cJ, 64, .inr (.inl fc))), (rq, .inr (5, [.ref rb])), (rb, .inr (0, [.ref rd])), (rd, .inl (cJ, 128, .inr (.inl ft))), (uq, .inr (1, [.ref bm, .ref bs])), (bm, .inr (0, [.ref am])), (am, .inl (cJ, 64, .inr (.inl fm))), (bs, .inr (0, [.ref ap])), (ap, .inl (cJ, 64, .inr (.inl fs)))] U.heap ∧ va_K (dC, dI) vwCl [(cJ, .long)] U ∧ va_D (fun _ => True) [(q, .inr (6, [.ref s0, .ref s1, .ref s2])), (s2, .inr (3, [.ref tq, .ref rq, .ref uq])), (tq, .inr (4, [.ref ca, .long sm, .int (oI lo)])), (ca, .inl (cJ, 64, .inr (.inl fc))), (rq, .inr (5, [.ref rb])), (rb, .inr (0, [.ref rd])), (rd, .inl (cJ, 128, .inr (.inl ft))), (uq, .inr (1, [.ref bm, .ref bs])), (bm, .inr (0, [.ref am])), (am, .inl (cJ, 64, .inr (.inl fm))), (bs, .inr (0, [.ref ap])), (ap, .inl (cJ, 64, .inr (.inl fs)))])) (va_Qv (fun _ : Unit => False) (fun _ _ => True) (fun q => sz ≤ q)) (vx_X (fun _ : Unit => True) (fun E _ _ => E = "java/lang/IndexOutOfBoundsException") (fun q => sz ≤ q)) 1 6 (fun q => sz ≤ q) := by
  refine vx_ofW (cc := cX7_select) (maxL := 4) (ret := (some .int)) (by decide) rfl ?_
  intro p e s m args below meth c s₁ B hml hcat hv
  obtain ⟨rfl, nw0, hsz, hT, hP, hK, hD⟩ := hv
  have hx := B.exec
  have hb := B.bytes
  have hr := B.returns
  have hts := atoms_spec (ws := wsX7_select) B.pre
  have hown : s.vm.findClass RX7 = some m.cls := findClass_of_methodNamed B.named
  have hlocks := B.notSynchronized
  subst hsz
  have hS : va_S (fun q => s.heap.size ≤ q) s.heap s.heap [] := va_S.rf
  have hP : va_P (dC, dI) vwCl [(q, .inr (6, [.ref s0, .ref s1, .ref s2])), (s2, .inr (3, [.ref tq, .ref rq, .ref uq])), (tq, .inr (4, [.ref ca, .long sm, .int (oI lo)])), (ca, .inl (cJ, 64, .inr (.inl fc))), (rq, .inr (5, [.ref rb])), (rb, .inr (0, [.ref rd])), (rd, .inl (cJ, 128, .inr (.inl ft))), (uq, .inr (1, [.ref bm, .ref bs])), (bm, .inr (0, [.ref am])), (am, .inl (cJ, 64, .inr (.inl fm))), (bs, .inr (0, [.ref ap])), (ap, .inl (cJ, 64, .inr (.inl fs)))] s.heap := hP
  have hl := lv_entry ([.ref q, .int (nI 2), .int w]) (n := 4) (Nat.le_of_ble_eq_true rfl)
  rw [lg_entry_eq]
  generalize (lg_sl ([.ref q, .int (nI 2), .int w]) ++ List.replicate (4 - (lg_sl ([.ref q, .int (nI 2), .int w])).length) Slot.unset).toArray = ls at hl ⊢
  have hl : lv_has ls 4 [(0, .ref q), (1, .int (nI 2)), (2, .int w)] := hl
  refine lv_aload_n hx hb dX7_select_0 rfl (lv_at hl 0 rfl) ?_
  refine lv_iload_n hx hb dX7_select_1 rfl (lv_at hl 1 rfl) ?_
  have hPc := hP.sub (ws' := [(q, .inr (6, [.ref s0, .ref s1, .ref s2]))]) [0] rfl
  have hKc := hK.sub (tys' := []) [] rfl
  refine va_csr (W.runV (As := [.int (nI 2)]) (rest := []) ⟨hx, hb, hml, hown, hts⟩ (c_X7_chosenSet_2 l dC dI q s0 s1 s2 ) (cwV 1 hts gX7_select_X7_chosenSet rfl rfl rfl (by decide +kernel) ⟨Nat.le_of_ble_eq_true rfl, Nat.le_of_ble_eq_true rfl⟩) ⟨fun a U g mk q => by obtain ⟨q0, qP, qK⟩ := q; exact ⟨q0, qP, va_K.moved (u := U) (U := U.calling g mk a) (Vm.Alike.refl U.vm) qK⟩, va_recv hKc hPc (ci := 6) (q0 := 0) rfl rfl, fun U hU hW => ⟨rfl, by rw [hU]; exact hPc, va_K.moved hW.alike hKc⟩⟩ rfl rfl hl.1 rfl (lv_room (Nat.le_of_ble_eq_true rfl)) dX7_select_2 ⟨Nat.le_of_ble_eq_true rfl, Nat.le_of_ble_eq_true rfl⟩) (fun r_2 hw_1 => ?_)
  have hw_1 := hw_1.symm
  subst hw_1
  refine lv_astore_n (lv' := [(3, .ref s2), (0, .ref q), (1, .int (nI 2)), (2, .int w)]) hx hb dX7_select_5 rfl hl (by decide) rfl (fun ls hl => ?_)
  refine lv_iload_n hx hb dX7_select_6 rfl (lv_at hl 3 rfl) ?_
  refine lv_aload_n hx hb dX7_select_7 rfl (lv_at hl 0 rfl) ?_
  refine va_getN (D := (dC, dI)) (ci := 3) (v := .ref uq) (C := RX3) (T := TX3) (N := 3) hx hb hts (by decide +kernel) hown hK hP 1 rfl rfl 2 (by decide) (va_Nw.use rfl nw0) (fun _ h9 => h9) rfl dX7_select_8 ?_
  have hPc := hP.sub (ws' := [(uq, .inr (1, [.ref bm, .ref bs])), (bm, .inr (0, [.ref am])), (am, .inl (cJ, 64, .inr (.inl fm))), (bs, .inr (0, [.ref ap])), (ap, .inl (cJ, 64, .inr (.inl fs)))]) [7, 8, 9, 10, 11] rfl
  have hKc := hK.sub (tys' := [(cJ, .long)]) [0] rfl
  refine vp_callSi (W.runV (As := []) (rest := [.int w]) ⟨hx, hb, hml, hown, hts⟩ (c_X1_memberCount l dC dI uq bm am bs ap cJ fm fs ) (cwV 0 hts gX7_select_X1_memberCount rfl rfl rfl (by decide +kernel) ⟨Nat.le_of_ble_eq_true rfl, Nat.le_of_ble_eq_true rfl⟩) ⟨fun a U g mk q => by obtain ⟨q0, qP, qK⟩ := q; exact ⟨q0, qP, va_K.moved (u := U) (U := U.calling g mk a) (Vm.Alike.refl U.vm) qK⟩, va_recv hKc hPc (ci := 1) (q0 := 0) rfl rfl, fun U hU hW => ⟨rfl, by rw [hU]; exact hPc, va_K.moved hW.alike hKc⟩⟩ rfl rfl hl.1 rfl (lv_room (Nat.le_of_ble_eq_true rfl)) dX7_select_11 ⟨Nat.le_of_ble_eq_true rfl, Nat.le_of_ble_eq_true rfl⟩) (fun r_4 hw_3 => ?_)
  subst hw_3
  have hPc := hP.sub (ws' := []) [] rfl
  have hKc := hK.sub (tys' := []) [] rfl
  have hDc := hD.sub (ws' := []) [] (by decide) rfl
  exact vx_callv (vx_runS (As := [.int w, .int (nI (fb_ct (bo fm) 4096))]) (rest := []) ⟨hx, hb, hml, hown, hts⟩ (x_X7_needPlace l hls dC dI w (fb_ct (bo fm) 4096) sa s.heap.size (by first | assumption | omega)) (va_cwS 2 hts gX7_select_X7_needPlace rfl rfl rfl (by decide +kernel) ⟨Nat.le_of_ble_eq_true rfl, Nat.le_of_ble_eq_true rfl⟩) ⟨fun a U g mk q => by obtain ⟨q0, q1, qT, qP, qK, qD⟩ := q; exact ⟨q0, q1, TW.same (u := U) (U := U.calling g mk a) rfl qT, qP, va_K.moved (u := U) (U := U.calling g mk a) (Vm.Alike.refl U.vm) qK, qD⟩, fun U hU hW => ⟨rfl, by rw [hU], by rw [hU]; exact TW.warm hW hT, by rw [hU]; exact hPc, va_K.moved hW.alike hKc, hDc.weaken (fun _ _ _ _ => trivial)⟩⟩ rfl rfl hl.1 rfl (lv_room (Nat.le_of_ble_eq_true rfl)) dX7_select_14 ⟨Nat.le_of_ble_eq_true rfl, Nat.le_of_ble_eq_true rfl⟩) hS (fun q h9 h8 => absurd h8 (Nat.not_le_of_lt h9)) (fun q h8 => Nat.le_trans hS.1 h8) (fun q h9 h8 => absurd h8 (Nat.not_le_of_lt h9)) (fun E9 ce9 q9 u9 t9 H9 l9 ht9 hvm9 hu9 hE9 hz9 hk9 hS9 hce9 hcv9 hcl9 => vx_out (fun x h => (hcat x h).elim) hlocks hce9 hcv9 hcl9 (fun t8 ht8 ha8 => ⟨(), trivial, hE9, by rw [ht8]; exact hz9, fun q h1 h2 => by rw [ht8]; exact hk9 q h1 h2⟩) hS9.2.2 (Nat.le_of_ble_eq_true rfl) (Nat.le_of_ble_eq_true rfl)) (fun u9 t9 H9 l9 ht9 hvm9 hu9 hB9 hz9 hk9 hS9 => hu9.elim)
