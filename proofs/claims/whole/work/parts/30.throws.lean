set_option maxHeartbeats 4000000 in
set_option maxRecDepth 100000 in
/-- needNumber throws IllegalArgumentException -/
theorem x_X7_needNumber (l : Launch) (hls : l.stackTraces = false) (dC : Nat → ClassId) (dI : Nat → Nat → Nat) (w : Int32) (sa sz : Nat) (hW : isN w = false) : vx_Met l yX7_needNumber wsX7_needNumber ({ frames := 6, cells := 1, slots := 6, locals := 82 }) (va_Pc [.int w] (fun U => U.heap.size = sz ∧ TW "java/lang/IllegalArgumentException" 153 "the number is out of range" sa (fun q => sz ≤ q) U U.heap ∧ va_P (dC, dI) vwCl [] U.heap ∧ va_K (dC, dI) vwCl [] U ∧ va_D (fun _ => True) [])) (va_Qv (fun _ : Unit => False) (fun _ _ => True) (fun q => sz ≤ q)) (vx_X (fun _ : Unit => True) (fun E _ _ => E = "java/lang/IllegalArgumentException") (fun q => sz ≤ q)) 1 6 (fun q => sz ≤ q) := by
  refine vx_ofW (cc := cX7_needNumber) (maxL := 1) (ret := none) (by decide) rfl ?_
  intro p e s m args below meth c s₁ B hml hcat hv
  obtain ⟨rfl, hsz, hT, hP, hK, hD⟩ := hv
  have hx := B.exec
  have hb := B.bytes
  have hr := B.returns
  have hts := atoms_spec (ws := wsX7_needNumber) B.pre
  have hown : s.vm.findClass RX7 = some m.cls := findClass_of_methodNamed B.named
  have hlocks := B.notSynchronized
  subst hsz
  have hS : va_S (fun q => s.heap.size ≤ q) s.heap s.heap [] := va_S.rf
  have hP : va_P (dC, dI) vwCl [] s.heap := hP
  have hl := lv_entry ([.int w]) (n := 1) (Nat.le_of_ble_eq_true rfl)
  rw [lg_entry_eq]
  generalize (lg_sl ([.int w]) ++ List.replicate (1 - (lg_sl ([.int w])).length) Slot.unset).toArray = ls at hl ⊢
  have hl : lv_has ls 1 [(0, .int w)] := hl
  refine lv_iload_n hx hb dX7_needNumber_0 rfl (lv_at hl 0 rfl) ?_
  refine lv_if_lt (tgt := 11) hx hb dX7_needNumber_1 (by decide) (fun qc_1 => ?_) (fun qc_1 => ?_)
  · exact vx_throwS hx hb hls (own := RX7) (cls := "java/lang/IllegalArgumentException") (text := "the number is out of range") (names := ["java/lang/RuntimeException", "java/lang/Exception"]) (ik := 151) (is := 153) (ic := 155) (sa := sa) hown (by decide) (by decide) (hts (.classLink RX7 151 "java/lang/IllegalArgumentException") (by decide +kernel)) (hts (.initialized "java/lang/IllegalArgumentException") (by decide +kernel)) hT.1 (vx_hat (L := (vx_atS RX7 155 "java/lang/IllegalArgumentException" ["java/lang/RuntimeException", "java/lang/Exception"])) (B := [.declares (Bundle.initS tw_r), .declares (Bundle.initS tw_e), .declares (Bundle.initS Bundle.tN), .castable "java/lang/IllegalArgumentException" "java/lang/IllegalArgumentException"]) (fun w hw => hts w (List.mem_cons_of_mem _ (List.mem_append_right _ hw))) (by decide +kernel) (vx_c (va_Nw.use rfl hT.2.2.2.1) (vx_c (va_Nw.use rfl hT.2.2.2.2.1) (vx_c (va_Nw.use rfl hT.2.2.2.2.2.1) (vx_c (va_Nw.use rfl hT.2.2.2.2.2.2) vx_n))))) (List.all_eq_true.mp (by decide +kernel)) hT.2.1 hT.2.2.1 hS (by rw [hml]; exact hl.1) dX7_needNumber_11 dX7_needNumber_14 dX7_needNumber_15 dX7_needNumber_17 dX7_needNumber_20 (fun x h => (hcat x h).elim) (Nat.le_of_ble_eq_true rfl) (Nat.le_of_ble_eq_true rfl) (Nat.le_of_ble_eq_true rfl) (Nat.le_of_ble_eq_true rfl) hlocks (fun t _ h1 h2 => ⟨(), trivial, rfl, h1, fun q h3 _ => h2 q h3⟩) (fun z h => nomatch h) (Nat.le_of_ble_eq_true rfl) (Nat.le_of_ble_eq_true rfl)
  · refine lv_iload_n hx hb dX7_needNumber_4 rfl (lv_at hl 0 rfl) ?_
    refine lv_sipush (v := nI 4096) hx hb dX7_needNumber_5 (by decide +kernel) ?_
    refine lv_icmp_lt (tgt := 21) hx hb dX7_needNumber_8 (by decide) (fun qc_2 => ?_) (fun qc_2 => ?_)
    · exact absurd (isN_lt qc_1 qc_2) (by rw [hW]; decide)
    · exact vx_throwS hx hb hls (own := RX7) (cls := "java/lang/IllegalArgumentException") (text := "the number is out of range") (names := ["java/lang/RuntimeException", "java/lang/Exception"]) (ik := 151) (is := 153) (ic := 155) (sa := sa) hown (by decide) (by decide) (hts (.classLink RX7 151 "java/lang/IllegalArgumentException") (by decide +kernel)) (hts (.initialized "java/lang/IllegalArgumentException") (by decide +kernel)) hT.1 (vx_hat (L := (vx_atS RX7 155 "java/lang/IllegalArgumentException" ["java/lang/RuntimeException", "java/lang/Exception"])) (B := [.declares (Bundle.initS tw_r), .declares (Bundle.initS tw_e), .declares (Bundle.initS Bundle.tN), .castable "java/lang/IllegalArgumentException" "java/lang/IllegalArgumentException"]) (fun w hw => hts w (List.mem_cons_of_mem _ (List.mem_append_right _ hw))) (by decide +kernel) (vx_c (va_Nw.use rfl hT.2.2.2.1) (vx_c (va_Nw.use rfl hT.2.2.2.2.1) (vx_c (va_Nw.use rfl hT.2.2.2.2.2.1) (vx_c (va_Nw.use rfl hT.2.2.2.2.2.2) vx_n))))) (List.all_eq_true.mp (by decide +kernel)) hT.2.1 hT.2.2.1 hS (by rw [hml]; exact hl.1) dX7_needNumber_11 dX7_needNumber_14 dX7_needNumber_15 dX7_needNumber_17 dX7_needNumber_20 (fun x h => (hcat x h).elim) (Nat.le_of_ble_eq_true rfl) (Nat.le_of_ble_eq_true rfl) (Nat.le_of_ble_eq_true rfl) (Nat.le_of_ble_eq_true rfl) hlocks (fun t _ h1 h2 => ⟨(), trivial, rfl, h1, fun q h3 _ => h2 q h3⟩) (fun z h => nomatch h) (Nat.le_of_ble_eq_true rfl) (Nat.le_of_ble_eq_true rfl)
set_option maxHeartbeats 4000000 in
set_option maxRecDepth 100000 in
/-- needStep throws IllegalArgumentException -/
theorem x_X7_needStep (l : Launch) (hls : l.stackTraces = false) (dC : Nat → ClassId) (dI : Nat → Nat → Nat) (w : Int32) (n : Int32) (sa sz : Nat) (hW : inB w 1 1000 = false) : vx_Met l yX7_needStepAndCount wsX7_needStepAndCount ({ frames := 6, cells := 1, slots := 6, locals := 82 }) (va_Pc [.int w, .int n] (fun U => U.heap.size = sz ∧ TW "java/lang/IllegalArgumentException" 156 "the step is out of range" sa (fun q => sz ≤ q) U U.heap ∧ va_P (dC, dI) vwCl [] U.heap ∧ va_K (dC, dI) vwCl [] U ∧ va_D (fun _ => True) [])) (va_Qv (fun _ : Unit => False) (fun _ _ => True) (fun q => sz ≤ q)) (vx_X (fun _ : Unit => True) (fun E _ _ => E = "java/lang/IllegalArgumentException") (fun q => sz ≤ q)) 1 6 (fun q => sz ≤ q) := by
  refine vx_ofW (cc := cX7_needStepAndCount) (maxL := 2) (ret := none) (by decide) rfl ?_
  intro p e s m args below meth c s₁ B hml hcat hv
  obtain ⟨rfl, hsz, hT, hP, hK, hD⟩ := hv
  have hx := B.exec
  have hb := B.bytes
  have hr := B.returns
  have hts := atoms_spec (ws := wsX7_needStepAndCount) B.pre
  have hown : s.vm.findClass RX7 = some m.cls := findClass_of_methodNamed B.named
  have hlocks := B.notSynchronized
  subst hsz
  have hS : va_S (fun q => s.heap.size ≤ q) s.heap s.heap [] := va_S.rf
  have hP : va_P (dC, dI) vwCl [] s.heap := hP
  have hl := lv_entry ([.int w, .int n]) (n := 2) (Nat.le_of_ble_eq_true rfl)
  rw [lg_entry_eq]
  generalize (lg_sl ([.int w, .int n]) ++ List.replicate (2 - (lg_sl ([.int w, .int n])).length) Slot.unset).toArray = ls at hl ⊢
  have hl : lv_has ls 2 [(0, .int w), (1, .int n)] := hl
  refine lv_iload_n hx hb dX7_needStepAndCount_0 rfl (lv_at hl 0 rfl) ?_
  refine lv_iconst (v := nI 1) hx hb dX7_needStepAndCount_1 (by decide +kernel) ?_
  refine lv_icmp_lt (tgt := 12) hx hb dX7_needStepAndCount_2 (by decide) (fun qc_1 => ?_) (fun qc_1 => ?_)
  · exact vx_throwS hx hb hls (own := RX7) (cls := "java/lang/IllegalArgumentException") (text := "the step is out of range") (names := ["java/lang/RuntimeException", "java/lang/Exception"]) (ik := 151) (is := 156) (ic := 155) (sa := sa) hown (by decide) (by decide) (hts (.classLink RX7 151 "java/lang/IllegalArgumentException") (by decide +kernel)) (hts (.initialized "java/lang/IllegalArgumentException") (by decide +kernel)) hT.1 (vx_hat (L := (vx_atS RX7 155 "java/lang/IllegalArgumentException" ["java/lang/RuntimeException", "java/lang/Exception"])) (B := [.declares (Bundle.initS tw_r), .declares (Bundle.initS tw_e), .declares (Bundle.initS Bundle.tN), .castable "java/lang/IllegalArgumentException" "java/lang/IllegalArgumentException"]) (fun w hw => hts w (List.mem_cons_of_mem _ (List.mem_append_right _ hw))) (by decide +kernel) (vx_c (va_Nw.use rfl hT.2.2.2.1) (vx_c (va_Nw.use rfl hT.2.2.2.2.1) (vx_c (va_Nw.use rfl hT.2.2.2.2.2.1) (vx_c (va_Nw.use rfl hT.2.2.2.2.2.2) vx_n))))) (List.all_eq_true.mp (by decide +kernel)) hT.2.1 hT.2.2.1 hS (by rw [hml]; exact hl.1) dX7_needStepAndCount_12 dX7_needStepAndCount_15 dX7_needStepAndCount_16 dX7_needStepAndCount_18 dX7_needStepAndCount_21 (fun x h => (hcat x h).elim) (Nat.le_of_ble_eq_true rfl) (Nat.le_of_ble_eq_true rfl) (Nat.le_of_ble_eq_true rfl) (Nat.le_of_ble_eq_true rfl) hlocks (fun t _ h1 h2 => ⟨(), trivial, rfl, h1, fun q h3 _ => h2 q h3⟩) (fun z h => nomatch h) (Nat.le_of_ble_eq_true rfl) (Nat.le_of_ble_eq_true rfl)
  · refine lv_iload_n hx hb dX7_needStepAndCount_5 rfl (lv_at hl 0 rfl) ?_
    refine lv_sipush (v := nI 1000) hx hb dX7_needStepAndCount_6 (by decide +kernel) ?_
    refine lv_icmp_le (tgt := 22) hx hb dX7_needStepAndCount_9 (by decide) (fun qc_2 => ?_) (fun qc_2 => ?_)
    · exact absurd (inB_q qc_1 qc_2) (by rw [hW]; decide)
    · exact vx_throwS hx hb hls (own := RX7) (cls := "java/lang/IllegalArgumentException") (text := "the step is out of range") (names := ["java/lang/RuntimeException", "java/lang/Exception"]) (ik := 151) (is := 156) (ic := 155) (sa := sa) hown (by decide) (by decide) (hts (.classLink RX7 151 "java/lang/IllegalArgumentException") (by decide +kernel)) (hts (.initialized "java/lang/IllegalArgumentException") (by decide +kernel)) hT.1 (vx_hat (L := (vx_atS RX7 155 "java/lang/IllegalArgumentException" ["java/lang/RuntimeException", "java/lang/Exception"])) (B := [.declares (Bundle.initS tw_r), .declares (Bundle.initS tw_e), .declares (Bundle.initS Bundle.tN), .castable "java/lang/IllegalArgumentException" "java/lang/IllegalArgumentException"]) (fun w hw => hts w (List.mem_cons_of_mem _ (List.mem_append_right _ hw))) (by decide +kernel) (vx_c (va_Nw.use rfl hT.2.2.2.1) (vx_c (va_Nw.use rfl hT.2.2.2.2.1) (vx_c (va_Nw.use rfl hT.2.2.2.2.2.1) (vx_c (va_Nw.use rfl hT.2.2.2.2.2.2) vx_n))))) (List.all_eq_true.mp (by decide +kernel)) hT.2.1 hT.2.2.1 hS (by rw [hml]; exact hl.1) dX7_needStepAndCount_12 dX7_needStepAndCount_15 dX7_needStepAndCount_16 dX7_needStepAndCount_18 dX7_needStepAndCount_21 (fun x h => (hcat x h).elim) (Nat.le_of_ble_eq_true rfl) (Nat.le_of_ble_eq_true rfl) (Nat.le_of_ble_eq_true rfl) (Nat.le_of_ble_eq_true rfl) hlocks (fun t _ h1 h2 => ⟨(), trivial, rfl, h1, fun q h3 _ => h2 q h3⟩) (fun z h => nomatch h) (Nat.le_of_ble_eq_true rfl) (Nat.le_of_ble_eq_true rfl)
set_option maxHeartbeats 4000000 in
set_option maxRecDepth 100000 in
/-- needCount throws IllegalArgumentException -/
theorem x_X7_needCount (l : Launch) (hls : l.stackTraces = false) (dC : Nat → ClassId) (dI : Nat → Nat → Nat) (k : Nat) (w : Int32) (sa sz : Nat) (hk : 1 ≤ k ∧ k ≤ 1000) (hW : inB w 1 30 = false) : vx_Met l yX7_needStepAndCount wsX7_needStepAndCount ({ frames := 6, cells := 1, slots := 6, locals := 82 }) (va_Pc [.int (nI k), .int w] (fun U => U.heap.size = sz ∧ TW "java/lang/IllegalArgumentException" 158 "the count is out of range" sa (fun q => sz ≤ q) U U.heap ∧ va_P (dC, dI) vwCl [] U.heap ∧ va_K (dC, dI) vwCl [] U ∧ va_D (fun _ => True) [])) (va_Qv (fun _ : Unit => False) (fun _ _ => True) (fun q => sz ≤ q)) (vx_X (fun _ : Unit => True) (fun E _ _ => E = "java/lang/IllegalArgumentException") (fun q => sz ≤ q)) 1 6 (fun q => sz ≤ q) := by
  refine vx_ofW (cc := cX7_needStepAndCount) (maxL := 2) (ret := none) (by decide) rfl ?_
  intro p e s m args below meth c s₁ B hml hcat hv
  obtain ⟨rfl, hsz, hT, hP, hK, hD⟩ := hv
  have hx := B.exec
  have hb := B.bytes
  have hr := B.returns
  have hts := atoms_spec (ws := wsX7_needStepAndCount) B.pre
  have hown : s.vm.findClass RX7 = some m.cls := findClass_of_methodNamed B.named
  have hlocks := B.notSynchronized
  subst hsz
  have hS : va_S (fun q => s.heap.size ≤ q) s.heap s.heap [] := va_S.rf
  have hP : va_P (dC, dI) vwCl [] s.heap := hP
  have hl := lv_entry ([.int (nI k), .int w]) (n := 2) (Nat.le_of_ble_eq_true rfl)
  rw [lg_entry_eq]
  generalize (lg_sl ([.int (nI k), .int w]) ++ List.replicate (2 - (lg_sl ([.int (nI k), .int w])).length) Slot.unset).toArray = ls at hl ⊢
  have hl : lv_has ls 2 [(0, .int (nI k)), (1, .int w)] := hl
  refine lv_iload_n hx hb dX7_needStepAndCount_0 rfl (lv_at hl 0 rfl) ?_
  refine lv_iconst (v := nI 1) hx hb dX7_needStepAndCount_1 (by decide +kernel) ?_
  refine lv_icmp_lt (tgt := 12) hx hb dX7_needStepAndCount_2 (by decide) (fun qc_1 => ?_) (fun qc_1 => ?_)
  · have c_1 : k < 1 := (nI_ltI (a := k) (b := 1) (by omega) (by omega)).mp qc_1
    exact absurd c_1 (by omega)
  · have c_1 : ¬ k < 1 := fun h9 => qc_1 ((nI_ltI (a := k) (b := 1) (by omega) (by omega)).mpr h9)
    refine lv_iload_n hx hb dX7_needStepAndCount_5 rfl (lv_at hl 0 rfl) ?_
    refine lv_sipush (v := nI 1000) hx hb dX7_needStepAndCount_6 (by decide +kernel) ?_
    refine lv_icmp_le (tgt := 22) hx hb dX7_needStepAndCount_9 (by decide) (fun qc_2 => ?_) (fun qc_2 => ?_)
    · have c_2 : k ≤ 1000 := (nI_leI (a := k) (b := 1000) (by omega) (by omega)).mp qc_2
      refine lv_iload_n hx hb dX7_needStepAndCount_22 rfl (lv_at hl 1 rfl) ?_
      refine lv_iconst (v := nI 1) hx hb dX7_needStepAndCount_23 (by decide +kernel) ?_
      refine lv_icmp_lt (tgt := 33) hx hb dX7_needStepAndCount_24 (by decide) (fun qc_3 => ?_) (fun qc_3 => ?_)
      · exact vx_throwS hx hb hls (own := RX7) (cls := "java/lang/IllegalArgumentException") (text := "the count is out of range") (names := ["java/lang/RuntimeException", "java/lang/Exception"]) (ik := 151) (is := 158) (ic := 155) (sa := sa) hown (by decide) (by decide) (hts (.classLink RX7 151 "java/lang/IllegalArgumentException") (by decide +kernel)) (hts (.initialized "java/lang/IllegalArgumentException") (by decide +kernel)) hT.1 (vx_hat (L := (vx_atS RX7 155 "java/lang/IllegalArgumentException" ["java/lang/RuntimeException", "java/lang/Exception"])) (B := [.declares (Bundle.initS tw_r), .declares (Bundle.initS tw_e), .declares (Bundle.initS Bundle.tN), .castable "java/lang/IllegalArgumentException" "java/lang/IllegalArgumentException"]) (fun w hw => hts w (List.mem_cons_of_mem _ (List.mem_append_right _ hw))) (by decide +kernel) (vx_c (va_Nw.use rfl hT.2.2.2.1) (vx_c (va_Nw.use rfl hT.2.2.2.2.1) (vx_c (va_Nw.use rfl hT.2.2.2.2.2.1) (vx_c (va_Nw.use rfl hT.2.2.2.2.2.2) vx_n))))) (List.all_eq_true.mp (by decide +kernel)) hT.2.1 hT.2.2.1 hS (by rw [hml]; exact hl.1) dX7_needStepAndCount_33 dX7_needStepAndCount_36 dX7_needStepAndCount_37 dX7_needStepAndCount_39 dX7_needStepAndCount_42 (fun x h => (hcat x h).elim) (Nat.le_of_ble_eq_true rfl) (Nat.le_of_ble_eq_true rfl) (Nat.le_of_ble_eq_true rfl) (Nat.le_of_ble_eq_true rfl) hlocks (fun t _ h1 h2 => ⟨(), trivial, rfl, h1, fun q h3 _ => h2 q h3⟩) (fun z h => nomatch h) (Nat.le_of_ble_eq_true rfl) (Nat.le_of_ble_eq_true rfl)
      · refine lv_iload_n hx hb dX7_needStepAndCount_27 rfl (lv_at hl 1 rfl) ?_
        refine lv_bipush (v := nI 30) hx hb dX7_needStepAndCount_28 (by decide +kernel) ?_
        refine lv_icmp_le (tgt := 43) hx hb dX7_needStepAndCount_30 (by decide) (fun qc_4 => ?_) (fun qc_4 => ?_)
        · exact absurd (inB_q qc_3 qc_4) (by rw [hW]; decide)
        · exact vx_throwS hx hb hls (own := RX7) (cls := "java/lang/IllegalArgumentException") (text := "the count is out of range") (names := ["java/lang/RuntimeException", "java/lang/Exception"]) (ik := 151) (is := 158) (ic := 155) (sa := sa) hown (by decide) (by decide) (hts (.classLink RX7 151 "java/lang/IllegalArgumentException") (by decide +kernel)) (hts (.initialized "java/lang/IllegalArgumentException") (by decide +kernel)) hT.1 (vx_hat (L := (vx_atS RX7 155 "java/lang/IllegalArgumentException" ["java/lang/RuntimeException", "java/lang/Exception"])) (B := [.declares (Bundle.initS tw_r), .declares (Bundle.initS tw_e), .declares (Bundle.initS Bundle.tN), .castable "java/lang/IllegalArgumentException" "java/lang/IllegalArgumentException"]) (fun w hw => hts w (List.mem_cons_of_mem _ (List.mem_append_right _ hw))) (by decide +kernel) (vx_c (va_Nw.use rfl hT.2.2.2.1) (vx_c (va_Nw.use rfl hT.2.2.2.2.1) (vx_c (va_Nw.use rfl hT.2.2.2.2.2.1) (vx_c (va_Nw.use rfl hT.2.2.2.2.2.2) vx_n))))) (List.all_eq_true.mp (by decide +kernel)) hT.2.1 hT.2.2.1 hS (by rw [hml]; exact hl.1) dX7_needStepAndCount_33 dX7_needStepAndCount_36 dX7_needStepAndCount_37 dX7_needStepAndCount_39 dX7_needStepAndCount_42 (fun x h => (hcat x h).elim) (Nat.le_of_ble_eq_true rfl) (Nat.le_of_ble_eq_true rfl) (Nat.le_of_ble_eq_true rfl) (Nat.le_of_ble_eq_true rfl) hlocks (fun t _ h1 h2 => ⟨(), trivial, rfl, h1, fun q h3 _ => h2 q h3⟩) (fun z h => nomatch h) (Nat.le_of_ble_eq_true rfl) (Nat.le_of_ble_eq_true rfl)
    · have c_2 : ¬ k ≤ 1000 := fun h9 => qc_2 ((nI_leI (a := k) (b := 1000) (by omega) (by omega)).mpr h9)
      exact absurd (by omega) c_2
set_option maxHeartbeats 4000000 in
set_option maxRecDepth 100000 in
/-- needPlace throws IndexOutOfBoundsException -/
theorem x_X7_needPlace (l : Launch) (hls : l.stackTraces = false) (dC : Nat → ClassId) (dI : Nat → Nat → Nat) (w : Int32) (n : Nat) (sa sz : Nat) (hW : pl w n = false) : vx_Met l yX7_needPlace wsX7_needPlace ({ frames := 6, cells := 1, slots := 6, locals := 82 }) (va_Pc [.int w, .int (nI n)] (fun U => U.heap.size = sz ∧ TW "java/lang/IndexOutOfBoundsException" 165 "no such cluster, level, place or bucket" sa (fun q => sz ≤ q) U U.heap ∧ va_P (dC, dI) vwCl [] U.heap ∧ va_K (dC, dI) vwCl [] U ∧ va_D (fun _ => True) [])) (va_Qv (fun _ : Unit => False) (fun _ _ => True) (fun q => sz ≤ q)) (vx_X (fun _ : Unit => True) (fun E _ _ => E = "java/lang/IndexOutOfBoundsException") (fun q => sz ≤ q)) 1 6 (fun q => sz ≤ q) := by
  refine vx_ofW (cc := cX7_needPlace) (maxL := 2) (ret := none) (by decide) rfl ?_
  intro p e s m args below meth c s₁ B hml hcat hv
  obtain ⟨rfl, hsz, hT, hP, hK, hD⟩ := hv
  have hx := B.exec
  have hb := B.bytes
  have hr := B.returns
  have hts := atoms_spec (ws := wsX7_needPlace) B.pre
  have hown : s.vm.findClass RX7 = some m.cls := findClass_of_methodNamed B.named
  have hlocks := B.notSynchronized
  subst hsz
  have hS : va_S (fun q => s.heap.size ≤ q) s.heap s.heap [] := va_S.rf
  have hP : va_P (dC, dI) vwCl [] s.heap := hP
  have hl := lv_entry ([.int w, .int (nI n)]) (n := 2) (Nat.le_of_ble_eq_true rfl)
  rw [lg_entry_eq]
  generalize (lg_sl ([.int w, .int (nI n)]) ++ List.replicate (2 - (lg_sl ([.int w, .int (nI n)])).length) Slot.unset).toArray = ls at hl ⊢
  have hl : lv_has ls 2 [(0, .int w), (1, .int (nI n))] := hl
  refine lv_iload_n hx hb dX7_needPlace_0 rfl (lv_at hl 0 rfl) ?_
  refine lv_if_lt (tgt := 9) hx hb dX7_needPlace_1 (by decide) (fun qc_1 => ?_) (fun qc_1 => ?_)
  · exact vx_throwS hx hb hls (own := RX7) (cls := "java/lang/IndexOutOfBoundsException") (text := "no such cluster, level, place or bucket") (names := ["java/lang/RuntimeException", "java/lang/Exception"]) (ik := 146) (is := 165) (ic := 150) (sa := sa) hown (by decide) (by decide) (hts (.classLink RX7 146 "java/lang/IndexOutOfBoundsException") (by decide +kernel)) (hts (.initialized "java/lang/IndexOutOfBoundsException") (by decide +kernel)) hT.1 (vx_hat (L := (vx_atS RX7 150 "java/lang/IndexOutOfBoundsException" ["java/lang/RuntimeException", "java/lang/Exception"])) (B := [.declares (Bundle.initS tw_r), .declares (Bundle.initS tw_e), .declares (Bundle.initS Bundle.tN), .castable "java/lang/IndexOutOfBoundsException" "java/lang/IndexOutOfBoundsException"]) (fun w hw => hts w (List.mem_cons_of_mem _ (List.mem_append_right _ hw))) (by decide +kernel) (vx_c (va_Nw.use rfl hT.2.2.2.1) (vx_c (va_Nw.use rfl hT.2.2.2.2.1) (vx_c (va_Nw.use rfl hT.2.2.2.2.2.1) (vx_c (va_Nw.use rfl hT.2.2.2.2.2.2) vx_n))))) (List.all_eq_true.mp (by decide +kernel)) hT.2.1 hT.2.2.1 hS (by rw [hml]; exact hl.1) dX7_needPlace_9 dX7_needPlace_12 dX7_needPlace_13 dX7_needPlace_15 dX7_needPlace_18 (fun x h => (hcat x h).elim) (Nat.le_of_ble_eq_true rfl) (Nat.le_of_ble_eq_true rfl) (Nat.le_of_ble_eq_true rfl) (Nat.le_of_ble_eq_true rfl) hlocks (fun t _ h1 h2 => ⟨(), trivial, rfl, h1, fun q h3 _ => h2 q h3⟩) (fun z h => nomatch h) (Nat.le_of_ble_eq_true rfl) (Nat.le_of_ble_eq_true rfl)
  · refine lv_iload_n hx hb dX7_needPlace_4 rfl (lv_at hl 0 rfl) ?_
    refine lv_iload_n hx hb dX7_needPlace_5 rfl (lv_at hl 1 rfl) ?_
    refine lv_icmp_lt (tgt := 19) hx hb dX7_needPlace_6 (by decide) (fun qc_2 => ?_) (fun qc_2 => ?_)
    · exact absurd (show pl w n = true from decide_eq_true ⟨qc_1, qc_2⟩) (by rw [hW]; decide)
    · exact vx_throwS hx hb hls (own := RX7) (cls := "java/lang/IndexOutOfBoundsException") (text := "no such cluster, level, place or bucket") (names := ["java/lang/RuntimeException", "java/lang/Exception"]) (ik := 146) (is := 165) (ic := 150) (sa := sa) hown (by decide) (by decide) (hts (.classLink RX7 146 "java/lang/IndexOutOfBoundsException") (by decide +kernel)) (hts (.initialized "java/lang/IndexOutOfBoundsException") (by decide +kernel)) hT.1 (vx_hat (L := (vx_atS RX7 150 "java/lang/IndexOutOfBoundsException" ["java/lang/RuntimeException", "java/lang/Exception"])) (B := [.declares (Bundle.initS tw_r), .declares (Bundle.initS tw_e), .declares (Bundle.initS Bundle.tN), .castable "java/lang/IndexOutOfBoundsException" "java/lang/IndexOutOfBoundsException"]) (fun w hw => hts w (List.mem_cons_of_mem _ (List.mem_append_right _ hw))) (by decide +kernel) (vx_c (va_Nw.use rfl hT.2.2.2.1) (vx_c (va_Nw.use rfl hT.2.2.2.2.1) (vx_c (va_Nw.use rfl hT.2.2.2.2.2.1) (vx_c (va_Nw.use rfl hT.2.2.2.2.2.2) vx_n))))) (List.all_eq_true.mp (by decide +kernel)) hT.2.1 hT.2.2.1 hS (by rw [hml]; exact hl.1) dX7_needPlace_9 dX7_needPlace_12 dX7_needPlace_13 dX7_needPlace_15 dX7_needPlace_18 (fun x h => (hcat x h).elim) (Nat.le_of_ble_eq_true rfl) (Nat.le_of_ble_eq_true rfl) (Nat.le_of_ble_eq_true rfl) (Nat.le_of_ble_eq_true rfl) hlocks (fun t _ h1 h2 => ⟨(), trivial, rfl, h1, fun q h3 _ => h2 q h3⟩) (fun z h => nomatch h) (Nat.le_of_ble_eq_true rfl) (Nat.le_of_ble_eq_true rfl)
set_option maxHeartbeats 4000000 in
set_option maxRecDepth 100000 in
/-- needMember throws NoSuchElementException -/
theorem x_X7_needMember (l : Launch) (hls : l.stackTraces = false) (dC : Nat → ClassId) (dI : Nat → Nat → Nat) (sa sz : Nat) : vx_Met l yX7_needMember wsX7_needMember ({ frames := 6, cells := 1, slots := 6, locals := 82 }) (va_Pc [.int (-1)] (fun U => U.heap.size = sz ∧ TW "java/util/NoSuchElementException" 162 "the set is empty" sa (fun q => sz ≤ q) U U.heap ∧ va_P (dC, dI) vwCl [] U.heap ∧ va_K (dC, dI) vwCl [] U ∧ va_D (fun _ => True) [])) (va_Qv (fun _ : Unit => False) (fun _ _ => True) (fun q => sz ≤ q)) (vx_X (fun _ : Unit => True) (fun E _ _ => E = "java/util/NoSuchElementException") (fun q => sz ≤ q)) 1 6 (fun q => sz ≤ q) := by
  refine vx_ofW (cc := cX7_needMember) (maxL := 1) (ret := none) (by decide) rfl ?_
  intro p e s m args below meth c s₁ B hml hcat hv
  obtain ⟨rfl, hsz, hT, hP, hK, hD⟩ := hv
  have hx := B.exec
  have hb := B.bytes
  have hr := B.returns
  have hts := atoms_spec (ws := wsX7_needMember) B.pre
  have hown : s.vm.findClass RX7 = some m.cls := findClass_of_methodNamed B.named
  have hlocks := B.notSynchronized
  subst hsz
  have hS : va_S (fun q => s.heap.size ≤ q) s.heap s.heap [] := va_S.rf
  have hP : va_P (dC, dI) vwCl [] s.heap := hP
  have hl := lv_entry ([.int (-1)]) (n := 1) (Nat.le_of_ble_eq_true rfl)
  rw [lg_entry_eq]
  generalize (lg_sl ([.int (-1)]) ++ List.replicate (1 - (lg_sl ([.int (-1)])).length) Slot.unset).toArray = ls at hl ⊢
  have hl : lv_has ls 1 [(0, .int (-1))] := hl
  refine lv_iload_n hx hb dX7_needMember_0 rfl (lv_at hl 0 rfl) ?_
  refine lv_iconst (v := -1) hx hb dX7_needMember_1 (by decide +kernel) ?_
  refine lv_icmp_ne (tgt := 15) hx hb dX7_needMember_2 (by decide) (fun qc_1 => ?_) (fun qc_1 => ?_)
  · exact absurd rfl qc_1
  · exact nse_throw hx hb hls  (sa := sa) hown (hts (.classLink RX7 160 "java/util/NoSuchElementException") (by decide +kernel)) (hts (.initialized "java/util/NoSuchElementException") (by decide +kernel)) hT.1 (vx_hat (L := nse_at) (B := [.declares (Bundle.initS tw_r), .declares (Bundle.initS tw_e), .declares (Bundle.initS Bundle.tN), .castable "java/util/NoSuchElementException" "java/util/NoSuchElementException"]) (fun w hw => hts w (List.mem_cons_of_mem _ (List.mem_append_right _ hw))) (by decide +kernel) (vx_c (va_Nw.use rfl hT.2.2.2.1) (vx_c (va_Nw.use rfl hT.2.2.2.2.1) (vx_c (va_Nw.use rfl hT.2.2.2.2.2.1) (vx_c (va_Nw.use rfl hT.2.2.2.2.2.2) vx_n))))) (List.all_eq_true.mp (by decide +kernel)) hT.2.1 hT.2.2.1 hS (by rw [hml]; exact hl.1) dX7_needMember_5 dX7_needMember_8 dX7_needMember_9 dX7_needMember_11 dX7_needMember_14 (fun x h => (hcat x h).elim) (Nat.le_of_ble_eq_true rfl) (Nat.le_of_ble_eq_true rfl) (Nat.le_of_ble_eq_true rfl) (Nat.le_of_ble_eq_true rfl) hlocks (fun t _ h1 h2 => ⟨(), trivial, rfl, h1, fun q h3 _ => h2 q h3⟩) (fun z h => nomatch h) (Nat.le_of_ble_eq_true rfl) (Nat.le_of_ble_eq_true rfl)
set_option maxHeartbeats 4000000 in
set_option maxRecDepth 100000 in
/-- chosenSet throws IndexOutOfBoundsException -/
theorem x_X7_chosenSet (l : Launch) (hls : l.stackTraces = false) (dC : Nat → ClassId) (dI : Nat → Nat → Nat) (q : Nat) (s0 : Nat) (s1 : Nat) (s2 : Nat) (v : Int32) (sa sz : Nat) (hSf : isS v = false) : vx_Met l yX7_chosenSet wsX7_chosenSet ({ frames := 6, cells := 1, slots := 6, locals := 82 }) (va_Pc [.ref q, .int v] (fun U => U.heap.size = sz ∧ TW "java/lang/IndexOutOfBoundsException" 148 "no such set" sa (fun q => sz ≤ q) U U.heap ∧ va_P (dC, dI) vwCl [(q, .inr (6, [.ref s0, .ref s1, .ref s2]))] U.heap ∧ va_K (dC, dI) vwCl [] U ∧ va_D (fun _ => True) [(q, .inr (6, [.ref s0, .ref s1, .ref s2]))])) (va_Qv (fun _ : Unit => False) (fun _ _ => True) (fun q => sz ≤ q)) (vx_X (fun _ : Unit => True) (fun E _ _ => E = "java/lang/IndexOutOfBoundsException") (fun q => sz ≤ q)) 1 6 (fun q => sz ≤ q) := by
  refine vx_ofW (cc := cX7_chosenSet) (maxL := 2) (ret := (some (.object "SmallNumberSets$NumberSet"))) (by decide) rfl ?_
  intro p e s m args below meth c s₁ B hml hcat hv
  obtain ⟨rfl, hsz, hT, hP, hK, hD⟩ := hv
  have hx := B.exec
  have hb := B.bytes
  have hr := B.returns
  have hts := atoms_spec (ws := wsX7_chosenSet) B.pre
  have hown : s.vm.findClass RX7 = some m.cls := findClass_of_methodNamed B.named
  have hlocks := B.notSynchronized
  subst hsz
  have hS : va_S (fun q => s.heap.size ≤ q) s.heap s.heap [] := va_S.rf
  have hP : va_P (dC, dI) vwCl [(q, .inr (6, [.ref s0, .ref s1, .ref s2]))] s.heap := hP
  have hl := lv_entry ([.ref q, .int v]) (n := 2) (Nat.le_of_ble_eq_true rfl)
  rw [lg_entry_eq]
  generalize (lg_sl ([.ref q, .int v]) ++ List.replicate (2 - (lg_sl ([.ref q, .int v])).length) Slot.unset).toArray = ls at hl ⊢
  have hl : lv_has ls 2 [(0, .ref q), (1, .int v)] := hl
  refine lv_iload_n hx hb dX7_chosenSet_0 rfl (lv_at hl 1 rfl) ?_
  refine lv_tableOut (tgt := 43) hx hb dX7_chosenSet_1 (isS_out hSf) (by decide) ?_
  exact vx_throwS hx hb hls (own := RX7) (cls := "java/lang/IndexOutOfBoundsException") (text := "no such set") (names := ["java/lang/RuntimeException", "java/lang/Exception"]) (ik := 146) (is := 148) (ic := 150) (sa := sa) hown (by decide) (by decide) (hts (.classLink RX7 146 "java/lang/IndexOutOfBoundsException") (by decide +kernel)) (hts (.initialized "java/lang/IndexOutOfBoundsException") (by decide +kernel)) hT.1 (vx_hat (L := (vx_atS RX7 150 "java/lang/IndexOutOfBoundsException" ["java/lang/RuntimeException", "java/lang/Exception"])) (B := [.declares (Bundle.initS tw_r), .declares (Bundle.initS tw_e), .declares (Bundle.initS Bundle.tN), .castable "java/lang/IndexOutOfBoundsException" "java/lang/IndexOutOfBoundsException"]) (fun w hw => hts w (List.mem_cons_of_mem _ (List.mem_append_right _ hw))) (by decide +kernel) (vx_c (va_Nw.use rfl hT.2.2.2.1) (vx_c (va_Nw.use rfl hT.2.2.2.2.1) (vx_c (va_Nw.use rfl hT.2.2.2.2.2.1) (vx_c (va_Nw.use rfl hT.2.2.2.2.2.2) vx_n))))) (List.all_eq_true.mp (by decide +kernel)) hT.2.1 hT.2.2.1 hS (by rw [hml]; exact hl.1) dX7_chosenSet_43 dX7_chosenSet_46 dX7_chosenSet_47 dX7_chosenSet_49 dX7_chosenSet_52 (fun x h => (hcat x h).elim) (Nat.le_of_ble_eq_true rfl) (Nat.le_of_ble_eq_true rfl) (Nat.le_of_ble_eq_true rfl) (Nat.le_of_ble_eq_true rfl) hlocks (fun t _ h1 h2 => ⟨(), trivial, rfl, h1, fun q h3 _ => h2 q h3⟩) (fun z h => nomatch h) (Nat.le_of_ble_eq_true rfl) (Nat.le_of_ble_eq_true rfl)
set_option maxHeartbeats 4000000 in
set_option maxRecDepth 100000 in
/-- insert_s throws IndexOutOfBoundsException -/
theorem x_X7_insert_s (l : Launch) (hls : l.stackTraces = false) (dC : Nat → ClassId) (dI : Nat → Nat → Nat) (q : Nat) (s0 : Nat) (s1 : Nat) (s2 : Nat) (v : Int32) (w0 : Int32) (sa sz : Nat) (hSf : isS v = false) : vx_Met l yX7_insert wsX7_insert ({ frames := 7, cells := 1, slots := 6, locals := 103 }) (va_Pc [.ref q, .int v, .int w0] (fun U => U.heap.size = sz ∧ TW "java/lang/IndexOutOfBoundsException" 148 "no such set" sa (fun q => sz ≤ q) U U.heap ∧ va_P (dC, dI) vwCl [(q, .inr (6, [.ref s0, .ref s1, .ref s2]))] U.heap ∧ va_K (dC, dI) vwCl [] U ∧ va_D (fun _ => True) [(q, .inr (6, [.ref s0, .ref s1, .ref s2]))])) (va_Qv (fun _ : Unit => False) (fun _ _ => True) (fun q => sz ≤ q)) (vx_X (fun _ : Unit => True) (fun E _ _ => E = "java/lang/IndexOutOfBoundsException") (fun q => sz ≤ q)) 1 6 (fun q => sz ≤ q) := by
  refine vx_ofW (cc := cX7_insert) (maxL := 4) (ret := (some .boolean)) (by decide) rfl ?_
  intro p e s m args below meth c s₁ B hml hcat hv
  obtain ⟨rfl, hsz, hT, hP, hK, hD⟩ := hv
  have hx := B.exec
  have hb := B.bytes
  have hr := B.returns
  have hts := atoms_spec (ws := wsX7_insert) B.pre
  have hown : s.vm.findClass RX7 = some m.cls := findClass_of_methodNamed B.named
  have hlocks := B.notSynchronized
  subst hsz
  have hS : va_S (fun q => s.heap.size ≤ q) s.heap s.heap [] := va_S.rf
  have hP : va_P (dC, dI) vwCl [(q, .inr (6, [.ref s0, .ref s1, .ref s2]))] s.heap := hP
  have hl := lv_entry ([.ref q, .int v, .int w0]) (n := 4) (Nat.le_of_ble_eq_true rfl)
  rw [lg_entry_eq]
  generalize (lg_sl ([.ref q, .int v, .int w0]) ++ List.replicate (4 - (lg_sl ([.ref q, .int v, .int w0])).length) Slot.unset).toArray = ls at hl ⊢
  have hl : lv_has ls 4 [(0, .ref q), (1, .int v), (2, .int w0)] := hl
  refine lv_aload_n hx hb dX7_insert_0 rfl (lv_at hl 0 rfl) ?_
  refine lv_iload_n hx hb dX7_insert_1 rfl (lv_at hl 1 rfl) ?_
  have hPc := hP.sub (ws' := [(q, .inr (6, [.ref s0, .ref s1, .ref s2]))]) [0] rfl
  have hKc := hK.sub (tys' := []) [] rfl
  have hDc := hD.sub (ws' := [(q, .inr (6, [.ref s0, .ref s1, .ref s2]))]) [0] (by decide) rfl
  exact vx_callv (vx_runV (As := [.int v]) (rest := []) ⟨hx, hb, hml, hown, hts⟩ (x_X7_chosenSet l hls dC dI q s0 s1 s2 v sa s.heap.size (by first | assumption | omega)) (cwV 1 hts gX7_insert_X7_chosenSet rfl rfl rfl (by decide +kernel) ⟨Nat.le_of_ble_eq_true rfl, Nat.le_of_ble_eq_true rfl⟩) ⟨fun a U g mk q => by obtain ⟨q0, q1, qT, qP, qK, qD⟩ := q; exact ⟨q0, q1, TW.same (u := U) (U := U.calling g mk a) rfl qT, qP, va_K.moved (u := U) (U := U.calling g mk a) (Vm.Alike.refl U.vm) qK, qD⟩, va_recv hKc hPc (ci := 6) (q0 := 0) rfl rfl, fun U hU hW => ⟨rfl, by rw [hU], by rw [hU]; exact TW.warm hW hT, by rw [hU]; exact hPc, va_K.moved hW.alike hKc, hDc.weaken (fun _ _ _ _ => trivial)⟩⟩ rfl rfl hl.1 rfl (lv_room (Nat.le_of_ble_eq_true rfl)) dX7_insert_2 ⟨Nat.le_of_ble_eq_true rfl, Nat.le_of_ble_eq_true rfl⟩) hS (fun q h9 h8 => absurd h8 (Nat.not_le_of_lt h9)) (fun q h8 => Nat.le_trans hS.1 h8) (fun q h9 h8 => absurd h8 (Nat.not_le_of_lt h9)) (fun E9 ce9 q9 u9 t9 H9 l9 ht9 hvm9 hu9 hE9 hz9 hk9 hS9 hce9 hcv9 hcl9 => vx_out (fun x h => (hcat x h).elim) hlocks hce9 hcv9 hcl9 (fun t8 ht8 ha8 => ⟨(), trivial, hE9, by rw [ht8]; exact hz9, fun q h1 h2 => by rw [ht8]; exact hk9 q h1 h2⟩) hS9.2.2 (Nat.le_of_ble_eq_true rfl) (Nat.le_of_ble_eq_true rfl)) (fun u9 t9 H9 l9 ht9 hvm9 hu9 hB9 hz9 hk9 hS9 => hu9.elim)
set_option maxHeartbeats 4000000 in
set_option maxRecDepth 100000 in
/-- insertRange_s throws IndexOutOfBoundsException -/
theorem x_X7_insertRange_s (l : Launch) (hls : l.stackTraces = false) (dC : Nat → ClassId) (dI : Nat → Nat → Nat) (q : Nat) (s0 : Nat) (s1 : Nat) (s2 : Nat) (v : Int32) (w0 : Int32) (w1 : Int32) (w2 : Int32) (sa sz : Nat) (hSf : isS v = false) : vx_Met l yX7_insertRange wsX7_insertRange ({ frames := 7, cells := 1, slots := 6, locals := 103 }) (va_Pc [.ref q, .int v, .int w0, .int w1, .int w2] (fun U => U.heap.size = sz ∧ TW "java/lang/IndexOutOfBoundsException" 148 "no such set" sa (fun q => sz ≤ q) U U.heap ∧ va_P (dC, dI) vwCl [(q, .inr (6, [.ref s0, .ref s1, .ref s2]))] U.heap ∧ va_K (dC, dI) vwCl [] U ∧ va_D (fun _ => True) [(q, .inr (6, [.ref s0, .ref s1, .ref s2]))])) (va_Qv (fun _ : Unit => False) (fun _ _ => True) (fun q => sz ≤ q)) (vx_X (fun _ : Unit => True) (fun E _ _ => E = "java/lang/IndexOutOfBoundsException") (fun q => sz ≤ q)) 1 6 (fun q => sz ≤ q) := by
  refine vx_ofW (cc := cX7_insertRange) (maxL := 8) (ret := (some .int)) (by decide) rfl ?_
  intro p e s m args below meth c s₁ B hml hcat hv
  obtain ⟨rfl, hsz, hT, hP, hK, hD⟩ := hv
  have hx := B.exec
  have hb := B.bytes
  have hr := B.returns
  have hts := atoms_spec (ws := wsX7_insertRange) B.pre
  have hown : s.vm.findClass RX7 = some m.cls := findClass_of_methodNamed B.named
  have hlocks := B.notSynchronized
  subst hsz
  have hS : va_S (fun q => s.heap.size ≤ q) s.heap s.heap [] := va_S.rf
  have hP : va_P (dC, dI) vwCl [(q, .inr (6, [.ref s0, .ref s1, .ref s2]))] s.heap := hP
  have hl := lv_entry ([.ref q, .int v, .int w0, .int w1, .int w2]) (n := 8) (Nat.le_of_ble_eq_true rfl)
  rw [lg_entry_eq]
  generalize (lg_sl ([.ref q, .int v, .int w0, .int w1, .int w2]) ++ List.replicate (8 - (lg_sl ([.ref q, .int v, .int w0, .int w1, .int w2])).length) Slot.unset).toArray = ls at hl ⊢
  have hl : lv_has ls 8 [(0, .ref q), (1, .int v), (2, .int w0), (3, .int w1), (4, .int w2)] := hl
  refine lv_aload_n hx hb dX7_insertRange_0 rfl (lv_at hl 0 rfl) ?_
  refine lv_iload_n hx hb dX7_insertRange_1 rfl (lv_at hl 1 rfl) ?_
  have hPc := hP.sub (ws' := [(q, .inr (6, [.ref s0, .ref s1, .ref s2]))]) [0] rfl
  have hKc := hK.sub (tys' := []) [] rfl
  have hDc := hD.sub (ws' := [(q, .inr (6, [.ref s0, .ref s1, .ref s2]))]) [0] (by decide) rfl
  exact vx_callv (vx_runV (As := [.int v]) (rest := []) ⟨hx, hb, hml, hown, hts⟩ (x_X7_chosenSet l hls dC dI q s0 s1 s2 v sa s.heap.size (by first | assumption | omega)) (cwV 1 hts gX7_insertRange_X7_chosenSet rfl rfl rfl (by decide +kernel) ⟨Nat.le_of_ble_eq_true rfl, Nat.le_of_ble_eq_true rfl⟩) ⟨fun a U g mk q => by obtain ⟨q0, q1, qT, qP, qK, qD⟩ := q; exact ⟨q0, q1, TW.same (u := U) (U := U.calling g mk a) rfl qT, qP, va_K.moved (u := U) (U := U.calling g mk a) (Vm.Alike.refl U.vm) qK, qD⟩, va_recv hKc hPc (ci := 6) (q0 := 0) rfl rfl, fun U hU hW => ⟨rfl, by rw [hU], by rw [hU]; exact TW.warm hW hT, by rw [hU]; exact hPc, va_K.moved hW.alike hKc, hDc.weaken (fun _ _ _ _ => trivial)⟩⟩ rfl rfl hl.1 rfl (lv_room (Nat.le_of_ble_eq_true rfl)) dX7_insertRange_2 ⟨Nat.le_of_ble_eq_true rfl, Nat.le_of_ble_eq_true rfl⟩) hS (fun q h9 h8 => absurd h8 (Nat.not_le_of_lt h9)) (fun q h8 => Nat.le_trans hS.1 h8) (fun q h9 h8 => absurd h8 (Nat.not_le_of_lt h9)) (fun E9 ce9 q9 u9 t9 H9 l9 ht9 hvm9 hu9 hE9 hz9 hk9 hS9 hce9 hcv9 hcl9 => vx_out (fun x h => (hcat x h).elim) hlocks hce9 hcv9 hcl9 (fun t8 ht8 ha8 => ⟨(), trivial, hE9, by rw [ht8]; exact hz9, fun q h1 h2 => by rw [ht8]; exact hk9 q h1 h2⟩) hS9.2.2 (Nat.le_of_ble_eq_true rfl) (Nat.le_of_ble_eq_true rfl)) (fun u9 t9 H9 l9 ht9 hvm9 hu9 hB9 hz9 hk9 hS9 => hu9.elim)
set_option maxHeartbeats 4000000 in
set_option maxRecDepth 100000 in
/-- insertAll_s throws IndexOutOfBoundsException -/
theorem x_X7_insertAll_s (l : Launch) (hls : l.stackTraces = false) (dC : Nat → ClassId) (dI : Nat → Nat → Nat) (q : Nat) (s0 : Nat) (s1 : Nat) (s2 : Nat) (v : Int32) (w0 : Int32) (sa sz : Nat) (hSf : isS v = false) : vx_Met l yX7_insertAll wsX7_insertAll ({ frames := 7, cells := 1, slots := 6, locals := 103 }) (va_Pc [.ref q, .int v, .int w0] (fun U => U.heap.size = sz ∧ TW "java/lang/IndexOutOfBoundsException" 148 "no such set" sa (fun q => sz ≤ q) U U.heap ∧ va_P (dC, dI) vwCl [(q, .inr (6, [.ref s0, .ref s1, .ref s2]))] U.heap ∧ va_K (dC, dI) vwCl [] U ∧ va_D (fun _ => True) [(q, .inr (6, [.ref s0, .ref s1, .ref s2]))])) (va_Qv (fun _ : Unit => False) (fun _ _ => True) (fun q => sz ≤ q)) (vx_X (fun _ : Unit => True) (fun E _ _ => E = "java/lang/IndexOutOfBoundsException") (fun q => sz ≤ q)) 1 6 (fun q => sz ≤ q) := by
  refine vx_ofW (cc := cX7_insertAll) (maxL := 8) (ret := (some .int)) (by decide) rfl ?_
  intro p e s m args below meth c s₁ B hml hcat hv
  obtain ⟨rfl, hsz, hT, hP, hK, hD⟩ := hv
  have hx := B.exec
  have hb := B.bytes
  have hr := B.returns
  have hts := atoms_spec (ws := wsX7_insertAll) B.pre
  have hown : s.vm.findClass RX7 = some m.cls := findClass_of_methodNamed B.named
  have hlocks := B.notSynchronized
  subst hsz
  have hS : va_S (fun q => s.heap.size ≤ q) s.heap s.heap [] := va_S.rf
  have hP : va_P (dC, dI) vwCl [(q, .inr (6, [.ref s0, .ref s1, .ref s2]))] s.heap := hP
  have hl := lv_entry ([.ref q, .int v, .int w0]) (n := 8) (Nat.le_of_ble_eq_true rfl)
  rw [lg_entry_eq]
  generalize (lg_sl ([.ref q, .int v, .int w0]) ++ List.replicate (8 - (lg_sl ([.ref q, .int v, .int w0])).length) Slot.unset).toArray = ls at hl ⊢
  have hl : lv_has ls 8 [(0, .ref q), (1, .int v), (2, .int w0)] := hl
  refine lv_aload_n hx hb dX7_insertAll_0 rfl (lv_at hl 0 rfl) ?_
  refine lv_iload_n hx hb dX7_insertAll_1 rfl (lv_at hl 1 rfl) ?_
  have hPc := hP.sub (ws' := [(q, .inr (6, [.ref s0, .ref s1, .ref s2]))]) [0] rfl
  have hKc := hK.sub (tys' := []) [] rfl
  have hDc := hD.sub (ws' := [(q, .inr (6, [.ref s0, .ref s1, .ref s2]))]) [0] (by decide) rfl
  exact vx_callv (vx_runV (As := [.int v]) (rest := []) ⟨hx, hb, hml, hown, hts⟩ (x_X7_chosenSet l hls dC dI q s0 s1 s2 v sa s.heap.size (by first | assumption | omega)) (cwV 1 hts gX7_insertAll_X7_chosenSet rfl rfl rfl (by decide +kernel) ⟨Nat.le_of_ble_eq_true rfl, Nat.le_of_ble_eq_true rfl⟩) ⟨fun a U g mk q => by obtain ⟨q0, q1, qT, qP, qK, qD⟩ := q; exact ⟨q0, q1, TW.same (u := U) (U := U.calling g mk a) rfl qT, qP, va_K.moved (u := U) (U := U.calling g mk a) (Vm.Alike.refl U.vm) qK, qD⟩, va_recv hKc hPc (ci := 6) (q0 := 0) rfl rfl, fun U hU hW => ⟨rfl, by rw [hU], by rw [hU]; exact TW.warm hW hT, by rw [hU]; exact hPc, va_K.moved hW.alike hKc, hDc.weaken (fun _ _ _ _ => trivial)⟩⟩ rfl rfl hl.1 rfl (lv_room (Nat.le_of_ble_eq_true rfl)) dX7_insertAll_2 ⟨Nat.le_of_ble_eq_true rfl, Nat.le_of_ble_eq_true rfl⟩) hS (fun q h9 h8 => absurd h8 (Nat.not_le_of_lt h9)) (fun q h8 => Nat.le_trans hS.1 h8) (fun q h9 h8 => absurd h8 (Nat.not_le_of_lt h9)) (fun E9 ce9 q9 u9 t9 H9 l9 ht9 hvm9 hu9 hE9 hz9 hk9 hS9 hce9 hcv9 hcl9 => vx_out (fun x h => (hcat x h).elim) hlocks hce9 hcv9 hcl9 (fun t8 ht8 ha8 => ⟨(), trivial, hE9, by rw [ht8]; exact hz9, fun q h1 h2 => by rw [ht8]; exact hk9 q h1 h2⟩) hS9.2.2 (Nat.le_of_ble_eq_true rfl) (Nat.le_of_ble_eq_true rfl)) (fun u9 t9 H9 l9 ht9 hvm9 hu9 hB9 hz9 hk9 hS9 => hu9.elim)
set_option maxHeartbeats 4000000 in
set_option maxRecDepth 100000 in
/-- delete_s throws IndexOutOfBoundsException -/
theorem x_X7_delete_s (l : Launch) (hls : l.stackTraces = false) (dC : Nat → ClassId) (dI : Nat → Nat → Nat) (q : Nat) (s0 : Nat) (s1 : Nat) (s2 : Nat) (v : Int32) (w0 : Int32) (sa sz : Nat) (hSf : isS v = false) : vx_Met l yX7_delete wsX7_delete ({ frames := 7, cells := 1, slots := 6, locals := 103 }) (va_Pc [.ref q, .int v, .int w0] (fun U => U.heap.size = sz ∧ TW "java/lang/IndexOutOfBoundsException" 148 "no such set" sa (fun q => sz ≤ q) U U.heap ∧ va_P (dC, dI) vwCl [(q, .inr (6, [.ref s0, .ref s1, .ref s2]))] U.heap ∧ va_K (dC, dI) vwCl [] U ∧ va_D (fun _ => True) [(q, .inr (6, [.ref s0, .ref s1, .ref s2]))])) (va_Qv (fun _ : Unit => False) (fun _ _ => True) (fun q => sz ≤ q)) (vx_X (fun _ : Unit => True) (fun E _ _ => E = "java/lang/IndexOutOfBoundsException") (fun q => sz ≤ q)) 1 6 (fun q => sz ≤ q) := by
  refine vx_ofW (cc := cX7_delete) (maxL := 4) (ret := (some .boolean)) (by decide) rfl ?_
  intro p e s m args below meth c s₁ B hml hcat hv
  obtain ⟨rfl, hsz, hT, hP, hK, hD⟩ := hv
  have hx := B.exec
  have hb := B.bytes
  have hr := B.returns
  have hts := atoms_spec (ws := wsX7_delete) B.pre
  have hown : s.vm.findClass RX7 = some m.cls := findClass_of_methodNamed B.named
  have hlocks := B.notSynchronized
  subst hsz
  have hS : va_S (fun q => s.heap.size ≤ q) s.heap s.heap [] := va_S.rf
  have hP : va_P (dC, dI) vwCl [(q, .inr (6, [.ref s0, .ref s1, .ref s2]))] s.heap := hP
  have hl := lv_entry ([.ref q, .int v, .int w0]) (n := 4) (Nat.le_of_ble_eq_true rfl)
  rw [lg_entry_eq]
  generalize (lg_sl ([.ref q, .int v, .int w0]) ++ List.replicate (4 - (lg_sl ([.ref q, .int v, .int w0])).length) Slot.unset).toArray = ls at hl ⊢
  have hl : lv_has ls 4 [(0, .ref q), (1, .int v), (2, .int w0)] := hl
  refine lv_aload_n hx hb dX7_delete_0 rfl (lv_at hl 0 rfl) ?_
  refine lv_iload_n hx hb dX7_delete_1 rfl (lv_at hl 1 rfl) ?_
  have hPc := hP.sub (ws' := [(q, .inr (6, [.ref s0, .ref s1, .ref s2]))]) [0] rfl
  have hKc := hK.sub (tys' := []) [] rfl
  have hDc := hD.sub (ws' := [(q, .inr (6, [.ref s0, .ref s1, .ref s2]))]) [0] (by decide) rfl
  exact vx_callv (vx_runV (As := [.int v]) (rest := []) ⟨hx, hb, hml, hown, hts⟩ (x_X7_chosenSet l hls dC dI q s0 s1 s2 v sa s.heap.size (by first | assumption | omega)) (cwV 1 hts gX7_delete_X7_chosenSet rfl rfl rfl (by decide +kernel) ⟨Nat.le_of_ble_eq_true rfl, Nat.le_of_ble_eq_true rfl⟩) ⟨fun a U g mk q => by obtain ⟨q0, q1, qT, qP, qK, qD⟩ := q; exact ⟨q0, q1, TW.same (u := U) (U := U.calling g mk a) rfl qT, qP, va_K.moved (u := U) (U := U.calling g mk a) (Vm.Alike.refl U.vm) qK, qD⟩, va_recv hKc hPc (ci := 6) (q0 := 0) rfl rfl, fun U hU hW => ⟨rfl, by rw [hU], by rw [hU]; exact TW.warm hW hT, by rw [hU]; exact hPc, va_K.moved hW.alike hKc, hDc.weaken (fun _ _ _ _ => trivial)⟩⟩ rfl rfl hl.1 rfl (lv_room (Nat.le_of_ble_eq_true rfl)) dX7_delete_2 ⟨Nat.le_of_ble_eq_true rfl, Nat.le_of_ble_eq_true rfl⟩) hS (fun q h9 h8 => absurd h8 (Nat.not_le_of_lt h9)) (fun q h8 => Nat.le_trans hS.1 h8) (fun q h9 h8 => absurd h8 (Nat.not_le_of_lt h9)) (fun E9 ce9 q9 u9 t9 H9 l9 ht9 hvm9 hu9 hE9 hz9 hk9 hS9 hce9 hcv9 hcl9 => vx_out (fun x h => (hcat x h).elim) hlocks hce9 hcv9 hcl9 (fun t8 ht8 ha8 => ⟨(), trivial, hE9, by rw [ht8]; exact hz9, fun q h1 h2 => by rw [ht8]; exact hk9 q h1 h2⟩) hS9.2.2 (Nat.le_of_ble_eq_true rfl) (Nat.le_of_ble_eq_true rfl)) (fun u9 t9 H9 l9 ht9 hvm9 hu9 hB9 hz9 hk9 hS9 => hu9.elim)
set_option maxHeartbeats 4000000 in
set_option maxRecDepth 100000 in
/-- pollFirst_s throws IndexOutOfBoundsException -/
theorem x_X7_pollFirst_s (l : Launch) (hls : l.stackTraces = false) (dC : Nat → ClassId) (dI : Nat → Nat → Nat) (q : Nat) (s0 : Nat) (s1 : Nat) (s2 : Nat) (v : Int32) (sa sz : Nat) (hSf : isS v = false) : vx_Met l yX7_pollFirst wsX7_pollFirst ({ frames := 7, cells := 1, slots := 6, locals := 103 }) (va_Pc [.ref q, .int v] (fun U => U.heap.size = sz ∧ TW "java/lang/IndexOutOfBoundsException" 148 "no such set" sa (fun q => sz ≤ q) U U.heap ∧ va_P (dC, dI) vwCl [(q, .inr (6, [.ref s0, .ref s1, .ref s2]))] U.heap ∧ va_K (dC, dI) vwCl [] U ∧ va_D (fun _ => True) [(q, .inr (6, [.ref s0, .ref s1, .ref s2]))])) (va_Qv (fun _ : Unit => False) (fun _ _ => True) (fun q => sz ≤ q)) (vx_X (fun _ : Unit => True) (fun E _ _ => E = "java/lang/IndexOutOfBoundsException") (fun q => sz ≤ q)) 1 6 (fun q => sz ≤ q) := by
  refine vx_ofW (cc := cX7_pollFirst) (maxL := 4) (ret := (some .int)) (by decide) rfl ?_
  intro p e s m args below meth c s₁ B hml hcat hv
  obtain ⟨rfl, hsz, hT, hP, hK, hD⟩ := hv
  have hx := B.exec
  have hb := B.bytes
  have hr := B.returns
  have hts := atoms_spec (ws := wsX7_pollFirst) B.pre
  have hown : s.vm.findClass RX7 = some m.cls := findClass_of_methodNamed B.named
  have hlocks := B.notSynchronized
  subst hsz
  have hS : va_S (fun q => s.heap.size ≤ q) s.heap s.heap [] := va_S.rf
  have hP : va_P (dC, dI) vwCl [(q, .inr (6, [.ref s0, .ref s1, .ref s2]))] s.heap := hP
  have hl := lv_entry ([.ref q, .int v]) (n := 4) (Nat.le_of_ble_eq_true rfl)
  rw [lg_entry_eq]
  generalize (lg_sl ([.ref q, .int v]) ++ List.replicate (4 - (lg_sl ([.ref q, .int v])).length) Slot.unset).toArray = ls at hl ⊢
  have hl : lv_has ls 4 [(0, .ref q), (1, .int v)] := hl
  refine lv_aload_n hx hb dX7_pollFirst_0 rfl (lv_at hl 0 rfl) ?_
  refine lv_iload_n hx hb dX7_pollFirst_1 rfl (lv_at hl 1 rfl) ?_
  have hPc := hP.sub (ws' := [(q, .inr (6, [.ref s0, .ref s1, .ref s2]))]) [0] rfl
  have hKc := hK.sub (tys' := []) [] rfl
  have hDc := hD.sub (ws' := [(q, .inr (6, [.ref s0, .ref s1, .ref s2]))]) [0] (by decide) rfl
  exact vx_callv (vx_runV (As := [.int v]) (rest := []) ⟨hx, hb, hml, hown, hts⟩ (x_X7_chosenSet l hls dC dI q s0 s1 s2 v sa s.heap.size (by first | assumption | omega)) (cwV 1 hts gX7_pollFirst_X7_chosenSet rfl rfl rfl (by decide +kernel) ⟨Nat.le_of_ble_eq_true rfl, Nat.le_of_ble_eq_true rfl⟩) ⟨fun a U g mk q => by obtain ⟨q0, q1, qT, qP, qK, qD⟩ := q; exact ⟨q0, q1, TW.same (u := U) (U := U.calling g mk a) rfl qT, qP, va_K.moved (u := U) (U := U.calling g mk a) (Vm.Alike.refl U.vm) qK, qD⟩, va_recv hKc hPc (ci := 6) (q0 := 0) rfl rfl, fun U hU hW => ⟨rfl, by rw [hU], by rw [hU]; exact TW.warm hW hT, by rw [hU]; exact hPc, va_K.moved hW.alike hKc, hDc.weaken (fun _ _ _ _ => trivial)⟩⟩ rfl rfl hl.1 rfl (lv_room (Nat.le_of_ble_eq_true rfl)) dX7_pollFirst_2 ⟨Nat.le_of_ble_eq_true rfl, Nat.le_of_ble_eq_true rfl⟩) hS (fun q h9 h8 => absurd h8 (Nat.not_le_of_lt h9)) (fun q h8 => Nat.le_trans hS.1 h8) (fun q h9 h8 => absurd h8 (Nat.not_le_of_lt h9)) (fun E9 ce9 q9 u9 t9 H9 l9 ht9 hvm9 hu9 hE9 hz9 hk9 hS9 hce9 hcv9 hcl9 => vx_out (fun x h => (hcat x h).elim) hlocks hce9 hcv9 hcl9 (fun t8 ht8 ha8 => ⟨(), trivial, hE9, by rw [ht8]; exact hz9, fun q h1 h2 => by rw [ht8]; exact hk9 q h1 h2⟩) hS9.2.2 (Nat.le_of_ble_eq_true rfl) (Nat.le_of_ble_eq_true rfl)) (fun u9 t9 H9 l9 ht9 hvm9 hu9 hB9 hz9 hk9 hS9 => hu9.elim)
set_option maxHeartbeats 4000000 in
set_option maxRecDepth 100000 in
/-- pollLast_s throws IndexOutOfBoundsException -/
theorem x_X7_pollLast_s (l : Launch) (hls : l.stackTraces = false) (dC : Nat → ClassId) (dI : Nat → Nat → Nat) (q : Nat) (s0 : Nat) (s1 : Nat) (s2 : Nat) (v : Int32) (sa sz : Nat) (hSf : isS v = false) : vx_Met l yX7_pollLast wsX7_pollLast ({ frames := 7, cells := 1, slots := 6, locals := 103 }) (va_Pc [.ref q, .int v] (fun U => U.heap.size = sz ∧ TW "java/lang/IndexOutOfBoundsException" 148 "no such set" sa (fun q => sz ≤ q) U U.heap ∧ va_P (dC, dI) vwCl [(q, .inr (6, [.ref s0, .ref s1, .ref s2]))] U.heap ∧ va_K (dC, dI) vwCl [] U ∧ va_D (fun _ => True) [(q, .inr (6, [.ref s0, .ref s1, .ref s2]))])) (va_Qv (fun _ : Unit => False) (fun _ _ => True) (fun q => sz ≤ q)) (vx_X (fun _ : Unit => True) (fun E _ _ => E = "java/lang/IndexOutOfBoundsException") (fun q => sz ≤ q)) 1 6 (fun q => sz ≤ q) := by
  refine vx_ofW (cc := cX7_pollLast) (maxL := 4) (ret := (some .int)) (by decide) rfl ?_
  intro p e s m args below meth c s₁ B hml hcat hv
  obtain ⟨rfl, hsz, hT, hP, hK, hD⟩ := hv
  have hx := B.exec
  have hb := B.bytes
  have hr := B.returns
  have hts := atoms_spec (ws := wsX7_pollLast) B.pre
  have hown : s.vm.findClass RX7 = some m.cls := findClass_of_methodNamed B.named
  have hlocks := B.notSynchronized
  subst hsz
  have hS : va_S (fun q => s.heap.size ≤ q) s.heap s.heap [] := va_S.rf
  have hP : va_P (dC, dI) vwCl [(q, .inr (6, [.ref s0, .ref s1, .ref s2]))] s.heap := hP
  have hl := lv_entry ([.ref q, .int v]) (n := 4) (Nat.le_of_ble_eq_true rfl)
  rw [lg_entry_eq]
  generalize (lg_sl ([.ref q, .int v]) ++ List.replicate (4 - (lg_sl ([.ref q, .int v])).length) Slot.unset).toArray = ls at hl ⊢
  have hl : lv_has ls 4 [(0, .ref q), (1, .int v)] := hl
  refine lv_aload_n hx hb dX7_pollLast_0 rfl (lv_at hl 0 rfl) ?_
  refine lv_iload_n hx hb dX7_pollLast_1 rfl (lv_at hl 1 rfl) ?_
  have hPc := hP.sub (ws' := [(q, .inr (6, [.ref s0, .ref s1, .ref s2]))]) [0] rfl
  have hKc := hK.sub (tys' := []) [] rfl
  have hDc := hD.sub (ws' := [(q, .inr (6, [.ref s0, .ref s1, .ref s2]))]) [0] (by decide) rfl
  exact vx_callv (vx_runV (As := [.int v]) (rest := []) ⟨hx, hb, hml, hown, hts⟩ (x_X7_chosenSet l hls dC dI q s0 s1 s2 v sa s.heap.size (by first | assumption | omega)) (cwV 1 hts gX7_pollLast_X7_chosenSet rfl rfl rfl (by decide +kernel) ⟨Nat.le_of_ble_eq_true rfl, Nat.le_of_ble_eq_true rfl⟩) ⟨fun a U g mk q => by obtain ⟨q0, q1, qT, qP, qK, qD⟩ := q; exact ⟨q0, q1, TW.same (u := U) (U := U.calling g mk a) rfl qT, qP, va_K.moved (u := U) (U := U.calling g mk a) (Vm.Alike.refl U.vm) qK, qD⟩, va_recv hKc hPc (ci := 6) (q0 := 0) rfl rfl, fun U hU hW => ⟨rfl, by rw [hU], by rw [hU]; exact TW.warm hW hT, by rw [hU]; exact hPc, va_K.moved hW.alike hKc, hDc.weaken (fun _ _ _ _ => trivial)⟩⟩ rfl rfl hl.1 rfl (lv_room (Nat.le_of_ble_eq_true rfl)) dX7_pollLast_2 ⟨Nat.le_of_ble_eq_true rfl, Nat.le_of_ble_eq_true rfl⟩) hS (fun q h9 h8 => absurd h8 (Nat.not_le_of_lt h9)) (fun q h8 => Nat.le_trans hS.1 h8) (fun q h9 h8 => absurd h8 (Nat.not_le_of_lt h9)) (fun E9 ce9 q9 u9 t9 H9 l9 ht9 hvm9 hu9 hE9 hz9 hk9 hS9 hce9 hcv9 hcl9 => vx_out (fun x h => (hcat x h).elim) hlocks hce9 hcv9 hcl9 (fun t8 ht8 ha8 => ⟨(), trivial, hE9, by rw [ht8]; exact hz9, fun q h1 h2 => by rw [ht8]; exact hk9 q h1 h2⟩) hS9.2.2 (Nat.le_of_ble_eq_true rfl) (Nat.le_of_ble_eq_true rfl)) (fun u9 t9 H9 l9 ht9 hvm9 hu9 hB9 hz9 hk9 hS9 => hu9.elim)
set_option maxHeartbeats 4000000 in
set_option maxRecDepth 100000 in
/-- clear_s throws IndexOutOfBoundsException -/
theorem x_X7_clear_s (l : Launch) (hls : l.stackTraces = false) (dC : Nat → ClassId) (dI : Nat → Nat → Nat) (q : Nat) (s0 : Nat) (s1 : Nat) (s2 : Nat) (v : Int32) (sa sz : Nat) (hSf : isS v = false) : vx_Met l yX7_clear wsX7_clear ({ frames := 7, cells := 1, slots := 6, locals := 103 }) (va_Pc [.ref q, .int v] (fun U => U.heap.size = sz ∧ TW "java/lang/IndexOutOfBoundsException" 148 "no such set" sa (fun q => sz ≤ q) U U.heap ∧ va_P (dC, dI) vwCl [(q, .inr (6, [.ref s0, .ref s1, .ref s2]))] U.heap ∧ va_K (dC, dI) vwCl [] U ∧ va_D (fun _ => True) [(q, .inr (6, [.ref s0, .ref s1, .ref s2]))])) (va_Qv (fun _ : Unit => False) (fun _ _ => True) (fun q => sz ≤ q)) (vx_X (fun _ : Unit => True) (fun E _ _ => E = "java/lang/IndexOutOfBoundsException") (fun q => sz ≤ q)) 1 6 (fun q => sz ≤ q) := by
  refine vx_ofW (cc := cX7_clear) (maxL := 4) (ret := (some .int)) (by decide) rfl ?_
  intro p e s m args below meth c s₁ B hml hcat hv
  obtain ⟨rfl, hsz, hT, hP, hK, hD⟩ := hv
  have hx := B.exec
  have hb := B.bytes
  have hr := B.returns
  have hts := atoms_spec (ws := wsX7_clear) B.pre
  have hown : s.vm.findClass RX7 = some m.cls := findClass_of_methodNamed B.named
  have hlocks := B.notSynchronized
  subst hsz
  have hS : va_S (fun q => s.heap.size ≤ q) s.heap s.heap [] := va_S.rf
  have hP : va_P (dC, dI) vwCl [(q, .inr (6, [.ref s0, .ref s1, .ref s2]))] s.heap := hP
  have hl := lv_entry ([.ref q, .int v]) (n := 4) (Nat.le_of_ble_eq_true rfl)
  rw [lg_entry_eq]
  generalize (lg_sl ([.ref q, .int v]) ++ List.replicate (4 - (lg_sl ([.ref q, .int v])).length) Slot.unset).toArray = ls at hl ⊢
  have hl : lv_has ls 4 [(0, .ref q), (1, .int v)] := hl
  refine lv_aload_n hx hb dX7_clear_0 rfl (lv_at hl 0 rfl) ?_
  refine lv_iload_n hx hb dX7_clear_1 rfl (lv_at hl 1 rfl) ?_
  have hPc := hP.sub (ws' := [(q, .inr (6, [.ref s0, .ref s1, .ref s2]))]) [0] rfl
  have hKc := hK.sub (tys' := []) [] rfl
  have hDc := hD.sub (ws' := [(q, .inr (6, [.ref s0, .ref s1, .ref s2]))]) [0] (by decide) rfl
  exact vx_callv (vx_runV (As := [.int v]) (rest := []) ⟨hx, hb, hml, hown, hts⟩ (x_X7_chosenSet l hls dC dI q s0 s1 s2 v sa s.heap.size (by first | assumption | omega)) (cwV 1 hts gX7_clear_X7_chosenSet rfl rfl rfl (by decide +kernel) ⟨Nat.le_of_ble_eq_true rfl, Nat.le_of_ble_eq_true rfl⟩) ⟨fun a U g mk q => by obtain ⟨q0, q1, qT, qP, qK, qD⟩ := q; exact ⟨q0, q1, TW.same (u := U) (U := U.calling g mk a) rfl qT, qP, va_K.moved (u := U) (U := U.calling g mk a) (Vm.Alike.refl U.vm) qK, qD⟩, va_recv hKc hPc (ci := 6) (q0 := 0) rfl rfl, fun U hU hW => ⟨rfl, by rw [hU], by rw [hU]; exact TW.warm hW hT, by rw [hU]; exact hPc, va_K.moved hW.alike hKc, hDc.weaken (fun _ _ _ _ => trivial)⟩⟩ rfl rfl hl.1 rfl (lv_room (Nat.le_of_ble_eq_true rfl)) dX7_clear_2 ⟨Nat.le_of_ble_eq_true rfl, Nat.le_of_ble_eq_true rfl⟩) hS (fun q h9 h8 => absurd h8 (Nat.not_le_of_lt h9)) (fun q h8 => Nat.le_trans hS.1 h8) (fun q h9 h8 => absurd h8 (Nat.not_le_of_lt h9)) (fun E9 ce9 q9 u9 t9 H9 l9 ht9 hvm9 hu9 hE9 hz9 hk9 hS9 hce9 hcv9 hcl9 => vx_out (fun x h => (hcat x h).elim) hlocks hce9 hcv9 hcl9 (fun t8 ht8 ha8 => ⟨(), trivial, hE9, by rw [ht8]; exact hz9, fun q h1 h2 => by rw [ht8]; exact hk9 q h1 h2⟩) hS9.2.2 (Nat.le_of_ble_eq_true rfl) (Nat.le_of_ble_eq_true rfl)) (fun u9 t9 H9 l9 ht9 hvm9 hu9 hB9 hz9 hk9 hS9 => hu9.elim)
set_option maxHeartbeats 4000000 in
set_option maxRecDepth 100000 in
/-- size_s throws IndexOutOfBoundsException -/
theorem x_X7_size_s (l : Launch) (hls : l.stackTraces = false) (dC : Nat → ClassId) (dI : Nat → Nat → Nat) (q : Nat) (s0 : Nat) (s1 : Nat) (s2 : Nat) (v : Int32) (sa sz : Nat) (hSf : isS v = false) : vx_Met l yX7_size wsX7_size ({ frames := 7, cells := 1, slots := 6, locals := 103 }) (va_Pc [.ref q, .int v] (fun U => U.heap.size = sz ∧ TW "java/lang/IndexOutOfBoundsException" 148 "no such set" sa (fun q => sz ≤ q) U U.heap ∧ va_P (dC, dI) vwCl [(q, .inr (6, [.ref s0, .ref s1, .ref s2]))] U.heap ∧ va_K (dC, dI) vwCl [] U ∧ va_D (fun _ => True) [(q, .inr (6, [.ref s0, .ref s1, .ref s2]))])) (va_Qv (fun _ : Unit => False) (fun _ _ => True) (fun q => sz ≤ q)) (vx_X (fun _ : Unit => True) (fun E _ _ => E = "java/lang/IndexOutOfBoundsException") (fun q => sz ≤ q)) 1 6 (fun q => sz ≤ q) := by
  refine vx_ofW (cc := cX7_size) (maxL := 2) (ret := (some .int)) (by decide) rfl ?_
  intro p e s m args below meth c s₁ B hml hcat hv
  obtain ⟨rfl, hsz, hT, hP, hK, hD⟩ := hv
  have hx := B.exec
  have hb := B.bytes
  have hr := B.returns
  have hts := atoms_spec (ws := wsX7_size) B.pre
  have hown : s.vm.findClass RX7 = some m.cls := findClass_of_methodNamed B.named
  have hlocks := B.notSynchronized
  subst hsz
  have hS : va_S (fun q => s.heap.size ≤ q) s.heap s.heap [] := va_S.rf
  have hP : va_P (dC, dI) vwCl [(q, .inr (6, [.ref s0, .ref s1, .ref s2]))] s.heap := hP
  have hl := lv_entry ([.ref q, .int v]) (n := 2) (Nat.le_of_ble_eq_true rfl)
  rw [lg_entry_eq]
  generalize (lg_sl ([.ref q, .int v]) ++ List.replicate (2 - (lg_sl ([.ref q, .int v])).length) Slot.unset).toArray = ls at hl ⊢
  have hl : lv_has ls 2 [(0, .ref q), (1, .int v)] := hl
  refine lv_aload_n hx hb dX7_size_0 rfl (lv_at hl 0 rfl) ?_
  refine lv_iload_n hx hb dX7_size_1 rfl (lv_at hl 1 rfl) ?_
  have hPc := hP.sub (ws' := [(q, .inr (6, [.ref s0, .ref s1, .ref s2]))]) [0] rfl
  have hKc := hK.sub (tys' := []) [] rfl
  have hDc := hD.sub (ws' := [(q, .inr (6, [.ref s0, .ref s1, .ref s2]))]) [0] (by decide) rfl
  exact vx_callv (vx_runV (As := [.int v]) (rest := []) ⟨hx, hb, hml, hown, hts⟩ (x_X7_chosenSet l hls dC dI q s0 s1 s2 v sa s.heap.size (by first | assumption | omega)) (cwV 1 hts gX7_size_X7_chosenSet rfl rfl rfl (by decide +kernel) ⟨Nat.le_of_ble_eq_true rfl, Nat.le_of_ble_eq_true rfl⟩) ⟨fun a U g mk q => by obtain ⟨q0, q1, qT, qP, qK, qD⟩ := q; exact ⟨q0, q1, TW.same (u := U) (U := U.calling g mk a) rfl qT, qP, va_K.moved (u := U) (U := U.calling g mk a) (Vm.Alike.refl U.vm) qK, qD⟩, va_recv hKc hPc (ci := 6) (q0 := 0) rfl rfl, fun U hU hW => ⟨rfl, by rw [hU], by rw [hU]; exact TW.warm hW hT, by rw [hU]; exact hPc, va_K.moved hW.alike hKc, hDc.weaken (fun _ _ _ _ => trivial)⟩⟩ rfl rfl hl.1 rfl (lv_room (Nat.le_of_ble_eq_true rfl)) dX7_size_2 ⟨Nat.le_of_ble_eq_true rfl, Nat.le_of_ble_eq_true rfl⟩) hS (fun q h9 h8 => absurd h8 (Nat.not_le_of_lt h9)) (fun q h8 => Nat.le_trans hS.1 h8) (fun q h9 h8 => absurd h8 (Nat.not_le_of_lt h9)) (fun E9 ce9 q9 u9 t9 H9 l9 ht9 hvm9 hu9 hE9 hz9 hk9 hS9 hce9 hcv9 hcl9 => vx_out (fun x h => (hcat x h).elim) hlocks hce9 hcv9 hcl9 (fun t8 ht8 ha8 => ⟨(), trivial, hE9, by rw [ht8]; exact hz9, fun q h1 h2 => by rw [ht8]; exact hk9 q h1 h2⟩) hS9.2.2 (Nat.le_of_ble_eq_true rfl) (Nat.le_of_ble_eq_true rfl)) (fun u9 t9 H9 l9 ht9 hvm9 hu9 hB9 hz9 hk9 hS9 => hu9.elim)
set_option maxHeartbeats 4000000 in
set_option maxRecDepth 100000 in
/-- contains_s throws IndexOutOfBoundsException -/
theorem x_X7_contains_s (l : Launch) (hls : l.stackTraces = false) (dC : Nat → ClassId) (dI : Nat → Nat → Nat) (q : Nat) (s0 : Nat) (s1 : Nat) (s2 : Nat) (v : Int32) (w0 : Int32) (sa sz : Nat) (hSf : isS v = false) : vx_Met l yX7_contains wsX7_contains ({ frames := 7, cells := 1, slots := 6, locals := 103 }) (va_Pc [.ref q, .int v, .int w0] (fun U => U.heap.size = sz ∧ TW "java/lang/IndexOutOfBoundsException" 148 "no such set" sa (fun q => sz ≤ q) U U.heap ∧ va_P (dC, dI) vwCl [(q, .inr (6, [.ref s0, .ref s1, .ref s2]))] U.heap ∧ va_K (dC, dI) vwCl [] U ∧ va_D (fun _ => True) [(q, .inr (6, [.ref s0, .ref s1, .ref s2]))])) (va_Qv (fun _ : Unit => False) (fun _ _ => True) (fun q => sz ≤ q)) (vx_X (fun _ : Unit => True) (fun E _ _ => E = "java/lang/IndexOutOfBoundsException") (fun q => sz ≤ q)) 1 6 (fun q => sz ≤ q) := by
  refine vx_ofW (cc := cX7_contains) (maxL := 4) (ret := (some .boolean)) (by decide) rfl ?_
  intro p e s m args below meth c s₁ B hml hcat hv
  obtain ⟨rfl, hsz, hT, hP, hK, hD⟩ := hv
  have hx := B.exec
  have hb := B.bytes
  have hr := B.returns
  have hts := atoms_spec (ws := wsX7_contains) B.pre
  have hown : s.vm.findClass RX7 = some m.cls := findClass_of_methodNamed B.named
  have hlocks := B.notSynchronized
  subst hsz
  have hS : va_S (fun q => s.heap.size ≤ q) s.heap s.heap [] := va_S.rf
  have hP : va_P (dC, dI) vwCl [(q, .inr (6, [.ref s0, .ref s1, .ref s2]))] s.heap := hP
  have hl := lv_entry ([.ref q, .int v, .int w0]) (n := 4) (Nat.le_of_ble_eq_true rfl)
  rw [lg_entry_eq]
  generalize (lg_sl ([.ref q, .int v, .int w0]) ++ List.replicate (4 - (lg_sl ([.ref q, .int v, .int w0])).length) Slot.unset).toArray = ls at hl ⊢
  have hl : lv_has ls 4 [(0, .ref q), (1, .int v), (2, .int w0)] := hl
  refine lv_aload_n hx hb dX7_contains_0 rfl (lv_at hl 0 rfl) ?_
  refine lv_iload_n hx hb dX7_contains_1 rfl (lv_at hl 1 rfl) ?_
  have hPc := hP.sub (ws' := [(q, .inr (6, [.ref s0, .ref s1, .ref s2]))]) [0] rfl
  have hKc := hK.sub (tys' := []) [] rfl
  have hDc := hD.sub (ws' := [(q, .inr (6, [.ref s0, .ref s1, .ref s2]))]) [0] (by decide) rfl
  exact vx_callv (vx_runV (As := [.int v]) (rest := []) ⟨hx, hb, hml, hown, hts⟩ (x_X7_chosenSet l hls dC dI q s0 s1 s2 v sa s.heap.size (by first | assumption | omega)) (cwV 1 hts gX7_contains_X7_chosenSet rfl rfl rfl (by decide +kernel) ⟨Nat.le_of_ble_eq_true rfl, Nat.le_of_ble_eq_true rfl⟩) ⟨fun a U g mk q => by obtain ⟨q0, q1, qT, qP, qK, qD⟩ := q; exact ⟨q0, q1, TW.same (u := U) (U := U.calling g mk a) rfl qT, qP, va_K.moved (u := U) (U := U.calling g mk a) (Vm.Alike.refl U.vm) qK, qD⟩, va_recv hKc hPc (ci := 6) (q0 := 0) rfl rfl, fun U hU hW => ⟨rfl, by rw [hU], by rw [hU]; exact TW.warm hW hT, by rw [hU]; exact hPc, va_K.moved hW.alike hKc, hDc.weaken (fun _ _ _ _ => trivial)⟩⟩ rfl rfl hl.1 rfl (lv_room (Nat.le_of_ble_eq_true rfl)) dX7_contains_2 ⟨Nat.le_of_ble_eq_true rfl, Nat.le_of_ble_eq_true rfl⟩) hS (fun q h9 h8 => absurd h8 (Nat.not_le_of_lt h9)) (fun q h8 => Nat.le_trans hS.1 h8) (fun q h9 h8 => absurd h8 (Nat.not_le_of_lt h9)) (fun E9 ce9 q9 u9 t9 H9 l9 ht9 hvm9 hu9 hE9 hz9 hk9 hS9 hce9 hcv9 hcl9 => vx_out (fun x h => (hcat x h).elim) hlocks hce9 hcv9 hcl9 (fun t8 ht8 ha8 => ⟨(), trivial, hE9, by rw [ht8]; exact hz9, fun q h1 h2 => by rw [ht8]; exact hk9 q h1 h2⟩) hS9.2.2 (Nat.le_of_ble_eq_true rfl) (Nat.le_of_ble_eq_true rfl)) (fun u9 t9 H9 l9 ht9 hvm9 hu9 hB9 hz9 hk9 hS9 => hu9.elim)
set_option maxHeartbeats 4000000 in
set_option maxRecDepth 100000 in
/-- successor_s throws IndexOutOfBoundsException -/
theorem x_X7_successor_s (l : Launch) (hls : l.stackTraces = false) (dC : Nat → ClassId) (dI : Nat → Nat → Nat) (q : Nat) (s0 : Nat) (s1 : Nat) (s2 : Nat) (v : Int32) (w0 : Int32) (sa sz : Nat) (hSf : isS v = false) : vx_Met l yX7_successor wsX7_successor ({ frames := 7, cells := 1, slots := 6, locals := 103 }) (va_Pc [.ref q, .int v, .int w0] (fun U => U.heap.size = sz ∧ TW "java/lang/IndexOutOfBoundsException" 148 "no such set" sa (fun q => sz ≤ q) U U.heap ∧ va_P (dC, dI) vwCl [(q, .inr (6, [.ref s0, .ref s1, .ref s2]))] U.heap ∧ va_K (dC, dI) vwCl [] U ∧ va_D (fun _ => True) [(q, .inr (6, [.ref s0, .ref s1, .ref s2]))])) (va_Qv (fun _ : Unit => False) (fun _ _ => True) (fun q => sz ≤ q)) (vx_X (fun _ : Unit => True) (fun E _ _ => E = "java/lang/IndexOutOfBoundsException") (fun q => sz ≤ q)) 1 6 (fun q => sz ≤ q) := by
  refine vx_ofW (cc := cX7_successor) (maxL := 4) (ret := (some .int)) (by decide) rfl ?_
  intro p e s m args below meth c s₁ B hml hcat hv
  obtain ⟨rfl, hsz, hT, hP, hK, hD⟩ := hv
  have hx := B.exec
  have hb := B.bytes
  have hr := B.returns
  have hts := atoms_spec (ws := wsX7_successor) B.pre
  have hown : s.vm.findClass RX7 = some m.cls := findClass_of_methodNamed B.named
  have hlocks := B.notSynchronized
  subst hsz
  have hS : va_S (fun q => s.heap.size ≤ q) s.heap s.heap [] := va_S.rf
  have hP : va_P (dC, dI) vwCl [(q, .inr (6, [.ref s0, .ref s1, .ref s2]))] s.heap := hP
  have hl := lv_entry ([.ref q, .int v, .int w0]) (n := 4) (Nat.le_of_ble_eq_true rfl)
  rw [lg_entry_eq]
  generalize (lg_sl ([.ref q, .int v, .int w0]) ++ List.replicate (4 - (lg_sl ([.ref q, .int v, .int w0])).length) Slot.unset).toArray = ls at hl ⊢
  have hl : lv_has ls 4 [(0, .ref q), (1, .int v), (2, .int w0)] := hl
  refine lv_aload_n hx hb dX7_successor_0 rfl (lv_at hl 0 rfl) ?_
  refine lv_iload_n hx hb dX7_successor_1 rfl (lv_at hl 1 rfl) ?_
  have hPc := hP.sub (ws' := [(q, .inr (6, [.ref s0, .ref s1, .ref s2]))]) [0] rfl
  have hKc := hK.sub (tys' := []) [] rfl
  have hDc := hD.sub (ws' := [(q, .inr (6, [.ref s0, .ref s1, .ref s2]))]) [0] (by decide) rfl
  exact vx_callv (vx_runV (As := [.int v]) (rest := []) ⟨hx, hb, hml, hown, hts⟩ (x_X7_chosenSet l hls dC dI q s0 s1 s2 v sa s.heap.size (by first | assumption | omega)) (cwV 1 hts gX7_successor_X7_chosenSet rfl rfl rfl (by decide +kernel) ⟨Nat.le_of_ble_eq_true rfl, Nat.le_of_ble_eq_true rfl⟩) ⟨fun a U g mk q => by obtain ⟨q0, q1, qT, qP, qK, qD⟩ := q; exact ⟨q0, q1, TW.same (u := U) (U := U.calling g mk a) rfl qT, qP, va_K.moved (u := U) (U := U.calling g mk a) (Vm.Alike.refl U.vm) qK, qD⟩, va_recv hKc hPc (ci := 6) (q0 := 0) rfl rfl, fun U hU hW => ⟨rfl, by rw [hU], by rw [hU]; exact TW.warm hW hT, by rw [hU]; exact hPc, va_K.moved hW.alike hKc, hDc.weaken (fun _ _ _ _ => trivial)⟩⟩ rfl rfl hl.1 rfl (lv_room (Nat.le_of_ble_eq_true rfl)) dX7_successor_2 ⟨Nat.le_of_ble_eq_true rfl, Nat.le_of_ble_eq_true rfl⟩) hS (fun q h9 h8 => absurd h8 (Nat.not_le_of_lt h9)) (fun q h8 => Nat.le_trans hS.1 h8) (fun q h9 h8 => absurd h8 (Nat.not_le_of_lt h9)) (fun E9 ce9 q9 u9 t9 H9 l9 ht9 hvm9 hu9 hE9 hz9 hk9 hS9 hce9 hcv9 hcl9 => vx_out (fun x h => (hcat x h).elim) hlocks hce9 hcv9 hcl9 (fun t8 ht8 ha8 => ⟨(), trivial, hE9, by rw [ht8]; exact hz9, fun q h1 h2 => by rw [ht8]; exact hk9 q h1 h2⟩) hS9.2.2 (Nat.le_of_ble_eq_true rfl) (Nat.le_of_ble_eq_true rfl)) (fun u9 t9 H9 l9 ht9 hvm9 hu9 hB9 hz9 hk9 hS9 => hu9.elim)
set_option maxHeartbeats 4000000 in
set_option maxRecDepth 100000 in
/-- predecessor_s throws IndexOutOfBoundsException -/
theorem x_X7_predecessor_s (l : Launch) (hls : l.stackTraces = false) (dC : Nat → ClassId) (dI : Nat → Nat → Nat) (q : Nat) (s0 : Nat) (s1 : Nat) (s2 : Nat) (v : Int32) (w0 : Int32) (sa sz : Nat) (hSf : isS v = false) : vx_Met l yX7_predecessor wsX7_predecessor ({ frames := 7, cells := 1, slots := 6, locals := 103 }) (va_Pc [.ref q, .int v, .int w0] (fun U => U.heap.size = sz ∧ TW "java/lang/IndexOutOfBoundsException" 148 "no such set" sa (fun q => sz ≤ q) U U.heap ∧ va_P (dC, dI) vwCl [(q, .inr (6, [.ref s0, .ref s1, .ref s2]))] U.heap ∧ va_K (dC, dI) vwCl [] U ∧ va_D (fun _ => True) [(q, .inr (6, [.ref s0, .ref s1, .ref s2]))])) (va_Qv (fun _ : Unit => False) (fun _ _ => True) (fun q => sz ≤ q)) (vx_X (fun _ : Unit => True) (fun E _ _ => E = "java/lang/IndexOutOfBoundsException") (fun q => sz ≤ q)) 1 6 (fun q => sz ≤ q) := by
  refine vx_ofW (cc := cX7_predecessor) (maxL := 4) (ret := (some .int)) (by decide) rfl ?_
  intro p e s m args below meth c s₁ B hml hcat hv
  obtain ⟨rfl, hsz, hT, hP, hK, hD⟩ := hv
  have hx := B.exec
  have hb := B.bytes
  have hr := B.returns
  have hts := atoms_spec (ws := wsX7_predecessor) B.pre
  have hown : s.vm.findClass RX7 = some m.cls := findClass_of_methodNamed B.named
  have hlocks := B.notSynchronized
  subst hsz
  have hS : va_S (fun q => s.heap.size ≤ q) s.heap s.heap [] := va_S.rf
  have hP : va_P (dC, dI) vwCl [(q, .inr (6, [.ref s0, .ref s1, .ref s2]))] s.heap := hP
  have hl := lv_entry ([.ref q, .int v, .int w0]) (n := 4) (Nat.le_of_ble_eq_true rfl)
  rw [lg_entry_eq]
  generalize (lg_sl ([.ref q, .int v, .int w0]) ++ List.replicate (4 - (lg_sl ([.ref q, .int v, .int w0])).length) Slot.unset).toArray = ls at hl ⊢
  have hl : lv_has ls 4 [(0, .ref q), (1, .int v), (2, .int w0)] := hl
  refine lv_aload_n hx hb dX7_predecessor_0 rfl (lv_at hl 0 rfl) ?_
  refine lv_iload_n hx hb dX7_predecessor_1 rfl (lv_at hl 1 rfl) ?_
  have hPc := hP.sub (ws' := [(q, .inr (6, [.ref s0, .ref s1, .ref s2]))]) [0] rfl
  have hKc := hK.sub (tys' := []) [] rfl
  have hDc := hD.sub (ws' := [(q, .inr (6, [.ref s0, .ref s1, .ref s2]))]) [0] (by decide) rfl
  exact vx_callv (vx_runV (As := [.int v]) (rest := []) ⟨hx, hb, hml, hown, hts⟩ (x_X7_chosenSet l hls dC dI q s0 s1 s2 v sa s.heap.size (by first | assumption | omega)) (cwV 1 hts gX7_predecessor_X7_chosenSet rfl rfl rfl (by decide +kernel) ⟨Nat.le_of_ble_eq_true rfl, Nat.le_of_ble_eq_true rfl⟩) ⟨fun a U g mk q => by obtain ⟨q0, q1, qT, qP, qK, qD⟩ := q; exact ⟨q0, q1, TW.same (u := U) (U := U.calling g mk a) rfl qT, qP, va_K.moved (u := U) (U := U.calling g mk a) (Vm.Alike.refl U.vm) qK, qD⟩, va_recv hKc hPc (ci := 6) (q0 := 0) rfl rfl, fun U hU hW => ⟨rfl, by rw [hU], by rw [hU]; exact TW.warm hW hT, by rw [hU]; exact hPc, va_K.moved hW.alike hKc, hDc.weaken (fun _ _ _ _ => trivial)⟩⟩ rfl rfl hl.1 rfl (lv_room (Nat.le_of_ble_eq_true rfl)) dX7_predecessor_2 ⟨Nat.le_of_ble_eq_true rfl, Nat.le_of_ble_eq_true rfl⟩) hS (fun q h9 h8 => absurd h8 (Nat.not_le_of_lt h9)) (fun q h8 => Nat.le_trans hS.1 h8) (fun q h9 h8 => absurd h8 (Nat.not_le_of_lt h9)) (fun E9 ce9 q9 u9 t9 H9 l9 ht9 hvm9 hu9 hE9 hz9 hk9 hS9 hce9 hcv9 hcl9 => vx_out (fun x h => (hcat x h).elim) hlocks hce9 hcv9 hcl9 (fun t8 ht8 ha8 => ⟨(), trivial, hE9, by rw [ht8]; exact hz9, fun q h1 h2 => by rw [ht8]; exact hk9 q h1 h2⟩) hS9.2.2 (Nat.le_of_ble_eq_true rfl) (Nat.le_of_ble_eq_true rfl)) (fun u9 t9 H9 l9 ht9 hvm9 hu9 hB9 hz9 hk9 hS9 => hu9.elim)
set_option maxHeartbeats 4000000 in
set_option maxRecDepth 100000 in
/-- rank_s throws IndexOutOfBoundsException -/
theorem x_X7_rank_s (l : Launch) (hls : l.stackTraces = false) (dC : Nat → ClassId) (dI : Nat → Nat → Nat) (q : Nat) (s0 : Nat) (s1 : Nat) (s2 : Nat) (v : Int32) (w0 : Int32) (sa sz : Nat) (hSf : isS v = false) : vx_Met l yX7_rank wsX7_rank ({ frames := 7, cells := 1, slots := 6, locals := 103 }) (va_Pc [.ref q, .int v, .int w0] (fun U => U.heap.size = sz ∧ TW "java/lang/IndexOutOfBoundsException" 148 "no such set" sa (fun q => sz ≤ q) U U.heap ∧ va_P (dC, dI) vwCl [(q, .inr (6, [.ref s0, .ref s1, .ref s2]))] U.heap ∧ va_K (dC, dI) vwCl [] U ∧ va_D (fun _ => True) [(q, .inr (6, [.ref s0, .ref s1, .ref s2]))])) (va_Qv (fun _ : Unit => False) (fun _ _ => True) (fun q => sz ≤ q)) (vx_X (fun _ : Unit => True) (fun E _ _ => E = "java/lang/IndexOutOfBoundsException") (fun q => sz ≤ q)) 1 6 (fun q => sz ≤ q) := by
  refine vx_ofW (cc := cX7_rank) (maxL := 4) (ret := (some .int)) (by decide) rfl ?_
  intro p e s m args below meth c s₁ B hml hcat hv
  obtain ⟨rfl, hsz, hT, hP, hK, hD⟩ := hv
  have hx := B.exec
  have hb := B.bytes
  have hr := B.returns
  have hts := atoms_spec (ws := wsX7_rank) B.pre
  have hown : s.vm.findClass RX7 = some m.cls := findClass_of_methodNamed B.named
  have hlocks := B.notSynchronized
  subst hsz
  have hS : va_S (fun q => s.heap.size ≤ q) s.heap s.heap [] := va_S.rf
  have hP : va_P (dC, dI) vwCl [(q, .inr (6, [.ref s0, .ref s1, .ref s2]))] s.heap := hP
  have hl := lv_entry ([.ref q, .int v, .int w0]) (n := 4) (Nat.le_of_ble_eq_true rfl)
  rw [lg_entry_eq]
  generalize (lg_sl ([.ref q, .int v, .int w0]) ++ List.replicate (4 - (lg_sl ([.ref q, .int v, .int w0])).length) Slot.unset).toArray = ls at hl ⊢
  have hl : lv_has ls 4 [(0, .ref q), (1, .int v), (2, .int w0)] := hl
  refine lv_aload_n hx hb dX7_rank_0 rfl (lv_at hl 0 rfl) ?_
  refine lv_iload_n hx hb dX7_rank_1 rfl (lv_at hl 1 rfl) ?_
  have hPc := hP.sub (ws' := [(q, .inr (6, [.ref s0, .ref s1, .ref s2]))]) [0] rfl
  have hKc := hK.sub (tys' := []) [] rfl
  have hDc := hD.sub (ws' := [(q, .inr (6, [.ref s0, .ref s1, .ref s2]))]) [0] (by decide) rfl
  exact vx_callv (vx_runV (As := [.int v]) (rest := []) ⟨hx, hb, hml, hown, hts⟩ (x_X7_chosenSet l hls dC dI q s0 s1 s2 v sa s.heap.size (by first | assumption | omega)) (cwV 1 hts gX7_rank_X7_chosenSet rfl rfl rfl (by decide +kernel) ⟨Nat.le_of_ble_eq_true rfl, Nat.le_of_ble_eq_true rfl⟩) ⟨fun a U g mk q => by obtain ⟨q0, q1, qT, qP, qK, qD⟩ := q; exact ⟨q0, q1, TW.same (u := U) (U := U.calling g mk a) rfl qT, qP, va_K.moved (u := U) (U := U.calling g mk a) (Vm.Alike.refl U.vm) qK, qD⟩, va_recv hKc hPc (ci := 6) (q0 := 0) rfl rfl, fun U hU hW => ⟨rfl, by rw [hU], by rw [hU]; exact TW.warm hW hT, by rw [hU]; exact hPc, va_K.moved hW.alike hKc, hDc.weaken (fun _ _ _ _ => trivial)⟩⟩ rfl rfl hl.1 rfl (lv_room (Nat.le_of_ble_eq_true rfl)) dX7_rank_2 ⟨Nat.le_of_ble_eq_true rfl, Nat.le_of_ble_eq_true rfl⟩) hS (fun q h9 h8 => absurd h8 (Nat.not_le_of_lt h9)) (fun q h8 => Nat.le_trans hS.1 h8) (fun q h9 h8 => absurd h8 (Nat.not_le_of_lt h9)) (fun E9 ce9 q9 u9 t9 H9 l9 ht9 hvm9 hu9 hE9 hz9 hk9 hS9 hce9 hcv9 hcl9 => vx_out (fun x h => (hcat x h).elim) hlocks hce9 hcv9 hcl9 (fun t8 ht8 ha8 => ⟨(), trivial, hE9, by rw [ht8]; exact hz9, fun q h1 h2 => by rw [ht8]; exact hk9 q h1 h2⟩) hS9.2.2 (Nat.le_of_ble_eq_true rfl) (Nat.le_of_ble_eq_true rfl)) (fun u9 t9 H9 l9 ht9 hvm9 hu9 hB9 hz9 hk9 hS9 => hu9.elim)
set_option maxHeartbeats 4000000 in
set_option maxRecDepth 100000 in
/-- select_s throws IndexOutOfBoundsException -/
theorem x_X7_select_s (l : Launch) (hls : l.stackTraces = false) (dC : Nat → ClassId) (dI : Nat → Nat → Nat) (q : Nat) (s0 : Nat) (s1 : Nat) (s2 : Nat) (v : Int32) (w0 : Int32) (sa sz : Nat) (hSf : isS v = false) : vx_Met l yX7_select wsX7_select ({ frames := 7, cells := 1, slots := 6, locals := 103 }) (va_Pc [.ref q, .int v, .int w0] (fun U => U.heap.size = sz ∧ TW "java/lang/IndexOutOfBoundsException" 148 "no such set" sa (fun q => sz ≤ q) U U.heap ∧ va_P (dC, dI) vwCl [(q, .inr (6, [.ref s0, .ref s1, .ref s2]))] U.heap ∧ va_K (dC, dI) vwCl [] U ∧ va_D (fun _ => True) [(q, .inr (6, [.ref s0, .ref s1, .ref s2]))])) (va_Qv (fun _ : Unit => False) (fun _ _ => True) (fun q => sz ≤ q)) (vx_X (fun _ : Unit => True) (fun E _ _ => E = "java/lang/IndexOutOfBoundsException") (fun q => sz ≤ q)) 1 6 (fun q => sz ≤ q) := by
  refine vx_ofW (cc := cX7_select) (maxL := 4) (ret := (some .int)) (by decide) rfl ?_
  intro p e s m args below meth c s₁ B hml hcat hv
  obtain ⟨rfl, hsz, hT, hP, hK, hD⟩ := hv
  have hx := B.exec
  have hb := B.bytes
  have hr := B.returns
  have hts := atoms_spec (ws := wsX7_select) B.pre
  have hown : s.vm.findClass RX7 = some m.cls := findClass_of_methodNamed B.named
  have hlocks := B.notSynchronized
  subst hsz
  have hS : va_S (fun q => s.heap.size ≤ q) s.heap s.heap [] := va_S.rf
  have hP : va_P (dC, dI) vwCl [(q, .inr (6, [.ref s0, .ref s1, .ref s2]))] s.heap := hP
  have hl := lv_entry ([.ref q, .int v, .int w0]) (n := 4) (Nat.le_of_ble_eq_true rfl)
  rw [lg_entry_eq]
  generalize (lg_sl ([.ref q, .int v, .int w0]) ++ List.replicate (4 - (lg_sl ([.ref q, .int v, .int w0])).length) Slot.unset).toArray = ls at hl ⊢
  have hl : lv_has ls 4 [(0, .ref q), (1, .int v), (2, .int w0)] := hl
  refine lv_aload_n hx hb dX7_select_0 rfl (lv_at hl 0 rfl) ?_
  refine lv_iload_n hx hb dX7_select_1 rfl (lv_at hl 1 rfl) ?_
  have hPc := hP.sub (ws' := [(q, .inr (6, [.ref s0, .ref s1, .ref s2]))]) [0] rfl
  have hKc := hK.sub (tys' := []) [] rfl
  have hDc := hD.sub (ws' := [(q, .inr (6, [.ref s0, .ref s1, .ref s2]))]) [0] (by decide) rfl
  exact vx_callv (vx_runV (As := [.int v]) (rest := []) ⟨hx, hb, hml, hown, hts⟩ (x_X7_chosenSet l hls dC dI q s0 s1 s2 v sa s.heap.size (by first | assumption | omega)) (cwV 1 hts gX7_select_X7_chosenSet rfl rfl rfl (by decide +kernel) ⟨Nat.le_of_ble_eq_true rfl, Nat.le_of_ble_eq_true rfl⟩) ⟨fun a U g mk q => by obtain ⟨q0, q1, qT, qP, qK, qD⟩ := q; exact ⟨q0, q1, TW.same (u := U) (U := U.calling g mk a) rfl qT, qP, va_K.moved (u := U) (U := U.calling g mk a) (Vm.Alike.refl U.vm) qK, qD⟩, va_recv hKc hPc (ci := 6) (q0 := 0) rfl rfl, fun U hU hW => ⟨rfl, by rw [hU], by rw [hU]; exact TW.warm hW hT, by rw [hU]; exact hPc, va_K.moved hW.alike hKc, hDc.weaken (fun _ _ _ _ => trivial)⟩⟩ rfl rfl hl.1 rfl (lv_room (Nat.le_of_ble_eq_true rfl)) dX7_select_2 ⟨Nat.le_of_ble_eq_true rfl, Nat.le_of_ble_eq_true rfl⟩) hS (fun q h9 h8 => absurd h8 (Nat.not_le_of_lt h9)) (fun q h8 => Nat.le_trans hS.1 h8) (fun q h9 h8 => absurd h8 (Nat.not_le_of_lt h9)) (fun E9 ce9 q9 u9 t9 H9 l9 ht9 hvm9 hu9 hE9 hz9 hk9 hS9 hce9 hcv9 hcl9 => vx_out (fun x h => (hcat x h).elim) hlocks hce9 hcv9 hcl9 (fun t8 ht8 ha8 => ⟨(), trivial, hE9, by rw [ht8]; exact hz9, fun q h1 h2 => by rw [ht8]; exact hk9 q h1 h2⟩) hS9.2.2 (Nat.le_of_ble_eq_true rfl) (Nat.le_of_ble_eq_true rfl)) (fun u9 t9 H9 l9 ht9 hvm9 hu9 hB9 hz9 hk9 hS9 => hu9.elim)
set_option maxHeartbeats 4000000 in
set_option maxRecDepth 100000 in
/-- steps_s throws IndexOutOfBoundsException -/
theorem x_X7_steps_s (l : Launch) (hls : l.stackTraces = false) (dC : Nat → ClassId) (dI : Nat → Nat → Nat) (q : Nat) (s0 : Nat) (s1 : Nat) (s2 : Nat) (v : Int32) (w0 : Int32) (sa sz : Nat) (hSf : isS v = false) : vx_Met l yX7_steps wsX7_steps ({ frames := 7, cells := 1, slots := 6, locals := 103 }) (va_Pc [.ref q, .int v, .int w0] (fun U => U.heap.size = sz ∧ TW "java/lang/IndexOutOfBoundsException" 148 "no such set" sa (fun q => sz ≤ q) U U.heap ∧ va_P (dC, dI) vwCl [(q, .inr (6, [.ref s0, .ref s1, .ref s2]))] U.heap ∧ va_K (dC, dI) vwCl [] U ∧ va_D (fun _ => True) [(q, .inr (6, [.ref s0, .ref s1, .ref s2]))])) (va_Qv (fun _ : Unit => False) (fun _ _ => True) (fun q => sz ≤ q)) (vx_X (fun _ : Unit => True) (fun E _ _ => E = "java/lang/IndexOutOfBoundsException") (fun q => sz ≤ q)) 1 6 (fun q => sz ≤ q) := by
  refine vx_ofW (cc := cX7_steps) (maxL := 4) (ret := (some .int)) (by decide) rfl ?_
  intro p e s m args below meth c s₁ B hml hcat hv
  obtain ⟨rfl, hsz, hT, hP, hK, hD⟩ := hv
  have hx := B.exec
  have hb := B.bytes
  have hr := B.returns
  have hts := atoms_spec (ws := wsX7_steps) B.pre
  have hown : s.vm.findClass RX7 = some m.cls := findClass_of_methodNamed B.named
  have hlocks := B.notSynchronized
  subst hsz
  have hS : va_S (fun q => s.heap.size ≤ q) s.heap s.heap [] := va_S.rf
  have hP : va_P (dC, dI) vwCl [(q, .inr (6, [.ref s0, .ref s1, .ref s2]))] s.heap := hP
  have hl := lv_entry ([.ref q, .int v, .int w0]) (n := 4) (Nat.le_of_ble_eq_true rfl)
  rw [lg_entry_eq]
  generalize (lg_sl ([.ref q, .int v, .int w0]) ++ List.replicate (4 - (lg_sl ([.ref q, .int v, .int w0])).length) Slot.unset).toArray = ls at hl ⊢
  have hl : lv_has ls 4 [(0, .ref q), (1, .int v), (2, .int w0)] := hl
  refine lv_aload_n hx hb dX7_steps_0 rfl (lv_at hl 0 rfl) ?_
  refine lv_iload_n hx hb dX7_steps_1 rfl (lv_at hl 1 rfl) ?_
  have hPc := hP.sub (ws' := [(q, .inr (6, [.ref s0, .ref s1, .ref s2]))]) [0] rfl
  have hKc := hK.sub (tys' := []) [] rfl
  have hDc := hD.sub (ws' := [(q, .inr (6, [.ref s0, .ref s1, .ref s2]))]) [0] (by decide) rfl
  exact vx_callv (vx_runV (As := [.int v]) (rest := []) ⟨hx, hb, hml, hown, hts⟩ (x_X7_chosenSet l hls dC dI q s0 s1 s2 v sa s.heap.size (by first | assumption | omega)) (cwV 1 hts gX7_steps_X7_chosenSet rfl rfl rfl (by decide +kernel) ⟨Nat.le_of_ble_eq_true rfl, Nat.le_of_ble_eq_true rfl⟩) ⟨fun a U g mk q => by obtain ⟨q0, q1, qT, qP, qK, qD⟩ := q; exact ⟨q0, q1, TW.same (u := U) (U := U.calling g mk a) rfl qT, qP, va_K.moved (u := U) (U := U.calling g mk a) (Vm.Alike.refl U.vm) qK, qD⟩, va_recv hKc hPc (ci := 6) (q0 := 0) rfl rfl, fun U hU hW => ⟨rfl, by rw [hU], by rw [hU]; exact TW.warm hW hT, by rw [hU]; exact hPc, va_K.moved hW.alike hKc, hDc.weaken (fun _ _ _ _ => trivial)⟩⟩ rfl rfl hl.1 rfl (lv_room (Nat.le_of_ble_eq_true rfl)) dX7_steps_2 ⟨Nat.le_of_ble_eq_true rfl, Nat.le_of_ble_eq_true rfl⟩) hS (fun q h9 h8 => absurd h8 (Nat.not_le_of_lt h9)) (fun q h8 => Nat.le_trans hS.1 h8) (fun q h9 h8 => absurd h8 (Nat.not_le_of_lt h9)) (fun E9 ce9 q9 u9 t9 H9 l9 ht9 hvm9 hu9 hE9 hz9 hk9 hS9 hce9 hcv9 hcl9 => vx_out (fun x h => (hcat x h).elim) hlocks hce9 hcv9 hcl9 (fun t8 ht8 ha8 => ⟨(), trivial, hE9, by rw [ht8]; exact hz9, fun q h1 h2 => by rw [ht8]; exact hk9 q h1 h2⟩) hS9.2.2 (Nat.le_of_ble_eq_true rfl) (Nat.le_of_ble_eq_true rfl)) (fun u9 t9 H9 l9 ht9 hvm9 hu9 hB9 hz9 hk9 hS9 => hu9.elim)
set_option maxHeartbeats 4000000 in
set_option maxRecDepth 100000 in
/-- trees_s throws IndexOutOfBoundsException -/
theorem x_X7_trees_s (l : Launch) (hls : l.stackTraces = false) (dC : Nat → ClassId) (dI : Nat → Nat → Nat) (q : Nat) (s0 : Nat) (s1 : Nat) (s2 : Nat) (v : Int32) (sa sz : Nat) (hSf : isS v = false) : vx_Met l yX7_trees wsX7_trees ({ frames := 7, cells := 1, slots := 6, locals := 103 }) (va_Pc [.ref q, .int v] (fun U => U.heap.size = sz ∧ TW "java/lang/IndexOutOfBoundsException" 148 "no such set" sa (fun q => sz ≤ q) U U.heap ∧ va_P (dC, dI) vwCl [(q, .inr (6, [.ref s0, .ref s1, .ref s2]))] U.heap ∧ va_K (dC, dI) vwCl [] U ∧ va_D (fun _ => True) [(q, .inr (6, [.ref s0, .ref s1, .ref s2]))])) (va_Qv (fun _ : Unit => False) (fun _ _ => True) (fun q => sz ≤ q)) (vx_X (fun _ : Unit => True) (fun E _ _ => E = "java/lang/IndexOutOfBoundsException") (fun q => sz ≤ q)) 1 6 (fun q => sz ≤ q) := by
  refine vx_ofW (cc := cX7_trees) (maxL := 2) (ret := (some .int)) (by decide) rfl ?_
  intro p e s m args below meth c s₁ B hml hcat hv
  obtain ⟨rfl, hsz, hT, hP, hK, hD⟩ := hv
  have hx := B.exec
  have hb := B.bytes
  have hr := B.returns
  have hts := atoms_spec (ws := wsX7_trees) B.pre
  have hown : s.vm.findClass RX7 = some m.cls := findClass_of_methodNamed B.named
  have hlocks := B.notSynchronized
  subst hsz
  have hS : va_S (fun q => s.heap.size ≤ q) s.heap s.heap [] := va_S.rf
  have hP : va_P (dC, dI) vwCl [(q, .inr (6, [.ref s0, .ref s1, .ref s2]))] s.heap := hP
  have hl := lv_entry ([.ref q, .int v]) (n := 2) (Nat.le_of_ble_eq_true rfl)
  rw [lg_entry_eq]
  generalize (lg_sl ([.ref q, .int v]) ++ List.replicate (2 - (lg_sl ([.ref q, .int v])).length) Slot.unset).toArray = ls at hl ⊢
  have hl : lv_has ls 2 [(0, .ref q), (1, .int v)] := hl
  refine lv_aload_n hx hb dX7_trees_0 rfl (lv_at hl 0 rfl) ?_
  refine lv_iload_n hx hb dX7_trees_1 rfl (lv_at hl 1 rfl) ?_
  have hPc := hP.sub (ws' := [(q, .inr (6, [.ref s0, .ref s1, .ref s2]))]) [0] rfl
  have hKc := hK.sub (tys' := []) [] rfl
  have hDc := hD.sub (ws' := [(q, .inr (6, [.ref s0, .ref s1, .ref s2]))]) [0] (by decide) rfl
  exact vx_callv (vx_runV (As := [.int v]) (rest := []) ⟨hx, hb, hml, hown, hts⟩ (x_X7_chosenSet l hls dC dI q s0 s1 s2 v sa s.heap.size (by first | assumption | omega)) (cwV 1 hts gX7_trees_X7_chosenSet rfl rfl rfl (by decide +kernel) ⟨Nat.le_of_ble_eq_true rfl, Nat.le_of_ble_eq_true rfl⟩) ⟨fun a U g mk q => by obtain ⟨q0, q1, qT, qP, qK, qD⟩ := q; exact ⟨q0, q1, TW.same (u := U) (U := U.calling g mk a) rfl qT, qP, va_K.moved (u := U) (U := U.calling g mk a) (Vm.Alike.refl U.vm) qK, qD⟩, va_recv hKc hPc (ci := 6) (q0 := 0) rfl rfl, fun U hU hW => ⟨rfl, by rw [hU], by rw [hU]; exact TW.warm hW hT, by rw [hU]; exact hPc, va_K.moved hW.alike hKc, hDc.weaken (fun _ _ _ _ => trivial)⟩⟩ rfl rfl hl.1 rfl (lv_room (Nat.le_of_ble_eq_true rfl)) dX7_trees_2 ⟨Nat.le_of_ble_eq_true rfl, Nat.le_of_ble_eq_true rfl⟩) hS (fun q h9 h8 => absurd h8 (Nat.not_le_of_lt h9)) (fun q h8 => Nat.le_trans hS.1 h8) (fun q h9 h8 => absurd h8 (Nat.not_le_of_lt h9)) (fun E9 ce9 q9 u9 t9 H9 l9 ht9 hvm9 hu9 hE9 hz9 hk9 hS9 hce9 hcv9 hcl9 => vx_out (fun x h => (hcat x h).elim) hlocks hce9 hcv9 hcl9 (fun t8 ht8 ha8 => ⟨(), trivial, hE9, by rw [ht8]; exact hz9, fun q h1 h2 => by rw [ht8]; exact hk9 q h1 h2⟩) hS9.2.2 (Nat.le_of_ble_eq_true rfl) (Nat.le_of_ble_eq_true rfl)) (fun u9 t9 H9 l9 ht9 hvm9 hu9 hB9 hz9 hk9 hS9 => hu9.elim)
set_option maxHeartbeats 4000000 in
set_option maxRecDepth 100000 in
/-- clusterMinimum_s throws IndexOutOfBoundsException -/
theorem x_X7_clusterMinimum_s (l : Launch) (hls : l.stackTraces = false) (dC : Nat → ClassId) (dI : Nat → Nat → Nat) (q : Nat) (s0 : Nat) (s1 : Nat) (s2 : Nat) (v : Int32) (w0 : Int32) (sa sz : Nat) (hSf : isS v = false) : vx_Met l yX7_clusterMinimum wsX7_clusterMinimum ({ frames := 7, cells := 1, slots := 6, locals := 103 }) (va_Pc [.ref q, .int v, .int w0] (fun U => U.heap.size = sz ∧ TW "java/lang/IndexOutOfBoundsException" 148 "no such set" sa (fun q => sz ≤ q) U U.heap ∧ va_P (dC, dI) vwCl [(q, .inr (6, [.ref s0, .ref s1, .ref s2]))] U.heap ∧ va_K (dC, dI) vwCl [] U ∧ va_D (fun _ => True) [(q, .inr (6, [.ref s0, .ref s1, .ref s2]))])) (va_Qv (fun _ : Unit => False) (fun _ _ => True) (fun q => sz ≤ q)) (vx_X (fun _ : Unit => True) (fun E _ _ => E = "java/lang/IndexOutOfBoundsException") (fun q => sz ≤ q)) 1 6 (fun q => sz ≤ q) := by
  refine vx_ofW (cc := cX7_clusterMinimum) (maxL := 4) (ret := (some .int)) (by decide) rfl ?_
  intro p e s m args below meth c s₁ B hml hcat hv
  obtain ⟨rfl, hsz, hT, hP, hK, hD⟩ := hv
  have hx := B.exec
  have hb := B.bytes
  have hr := B.returns
  have hts := atoms_spec (ws := wsX7_clusterMinimum) B.pre
  have hown : s.vm.findClass RX7 = some m.cls := findClass_of_methodNamed B.named
  have hlocks := B.notSynchronized
  subst hsz
  have hS : va_S (fun q => s.heap.size ≤ q) s.heap s.heap [] := va_S.rf
  have hP : va_P (dC, dI) vwCl [(q, .inr (6, [.ref s0, .ref s1, .ref s2]))] s.heap := hP
  have hl := lv_entry ([.ref q, .int v, .int w0]) (n := 4) (Nat.le_of_ble_eq_true rfl)
  rw [lg_entry_eq]
  generalize (lg_sl ([.ref q, .int v, .int w0]) ++ List.replicate (4 - (lg_sl ([.ref q, .int v, .int w0])).length) Slot.unset).toArray = ls at hl ⊢
  have hl : lv_has ls 4 [(0, .ref q), (1, .int v), (2, .int w0)] := hl
  refine lv_aload_n hx hb dX7_clusterMinimum_0 rfl (lv_at hl 0 rfl) ?_
  refine lv_iload_n hx hb dX7_clusterMinimum_1 rfl (lv_at hl 1 rfl) ?_
  have hPc := hP.sub (ws' := [(q, .inr (6, [.ref s0, .ref s1, .ref s2]))]) [0] rfl
  have hKc := hK.sub (tys' := []) [] rfl
  have hDc := hD.sub (ws' := [(q, .inr (6, [.ref s0, .ref s1, .ref s2]))]) [0] (by decide) rfl
  exact vx_callv (vx_runV (As := [.int v]) (rest := []) ⟨hx, hb, hml, hown, hts⟩ (x_X7_chosenSet l hls dC dI q s0 s1 s2 v sa s.heap.size (by first | assumption | omega)) (cwV 1 hts gX7_clusterMinimum_X7_chosenSet rfl rfl rfl (by decide +kernel) ⟨Nat.le_of_ble_eq_true rfl, Nat.le_of_ble_eq_true rfl⟩) ⟨fun a U g mk q => by obtain ⟨q0, q1, qT, qP, qK, qD⟩ := q; exact ⟨q0, q1, TW.same (u := U) (U := U.calling g mk a) rfl qT, qP, va_K.moved (u := U) (U := U.calling g mk a) (Vm.Alike.refl U.vm) qK, qD⟩, va_recv hKc hPc (ci := 6) (q0 := 0) rfl rfl, fun U hU hW => ⟨rfl, by rw [hU], by rw [hU]; exact TW.warm hW hT, by rw [hU]; exact hPc, va_K.moved hW.alike hKc, hDc.weaken (fun _ _ _ _ => trivial)⟩⟩ rfl rfl hl.1 rfl (lv_room (Nat.le_of_ble_eq_true rfl)) dX7_clusterMinimum_2 ⟨Nat.le_of_ble_eq_true rfl, Nat.le_of_ble_eq_true rfl⟩) hS (fun q h9 h8 => absurd h8 (Nat.not_le_of_lt h9)) (fun q h8 => Nat.le_trans hS.1 h8) (fun q h9 h8 => absurd h8 (Nat.not_le_of_lt h9)) (fun E9 ce9 q9 u9 t9 H9 l9 ht9 hvm9 hu9 hE9 hz9 hk9 hS9 hce9 hcv9 hcl9 => vx_out (fun x h => (hcat x h).elim) hlocks hce9 hcv9 hcl9 (fun t8 ht8 ha8 => ⟨(), trivial, hE9, by rw [ht8]; exact hz9, fun q h1 h2 => by rw [ht8]; exact hk9 q h1 h2⟩) hS9.2.2 (Nat.le_of_ble_eq_true rfl) (Nat.le_of_ble_eq_true rfl)) (fun u9 t9 H9 l9 ht9 hvm9 hu9 hB9 hz9 hk9 hS9 => hu9.elim)
set_option maxHeartbeats 4000000 in
set_option maxRecDepth 100000 in
/-- clusterMaximum_s throws IndexOutOfBoundsException -/
theorem x_X7_clusterMaximum_s (l : Launch) (hls : l.stackTraces = false) (dC : Nat → ClassId) (dI : Nat → Nat → Nat) (q : Nat) (s0 : Nat) (s1 : Nat) (s2 : Nat) (v : Int32) (w0 : Int32) (sa sz : Nat) (hSf : isS v = false) : vx_Met l yX7_clusterMaximum wsX7_clusterMaximum ({ frames := 7, cells := 1, slots := 6, locals := 103 }) (va_Pc [.ref q, .int v, .int w0] (fun U => U.heap.size = sz ∧ TW "java/lang/IndexOutOfBoundsException" 148 "no such set" sa (fun q => sz ≤ q) U U.heap ∧ va_P (dC, dI) vwCl [(q, .inr (6, [.ref s0, .ref s1, .ref s2]))] U.heap ∧ va_K (dC, dI) vwCl [] U ∧ va_D (fun _ => True) [(q, .inr (6, [.ref s0, .ref s1, .ref s2]))])) (va_Qv (fun _ : Unit => False) (fun _ _ => True) (fun q => sz ≤ q)) (vx_X (fun _ : Unit => True) (fun E _ _ => E = "java/lang/IndexOutOfBoundsException") (fun q => sz ≤ q)) 1 6 (fun q => sz ≤ q) := by
  refine vx_ofW (cc := cX7_clusterMaximum) (maxL := 4) (ret := (some .int)) (by decide) rfl ?_
  intro p e s m args below meth c s₁ B hml hcat hv
  obtain ⟨rfl, hsz, hT, hP, hK, hD⟩ := hv
  have hx := B.exec
  have hb := B.bytes
  have hr := B.returns
  have hts := atoms_spec (ws := wsX7_clusterMaximum) B.pre
  have hown : s.vm.findClass RX7 = some m.cls := findClass_of_methodNamed B.named
  have hlocks := B.notSynchronized
  subst hsz
  have hS : va_S (fun q => s.heap.size ≤ q) s.heap s.heap [] := va_S.rf
  have hP : va_P (dC, dI) vwCl [(q, .inr (6, [.ref s0, .ref s1, .ref s2]))] s.heap := hP
  have hl := lv_entry ([.ref q, .int v, .int w0]) (n := 4) (Nat.le_of_ble_eq_true rfl)
  rw [lg_entry_eq]
  generalize (lg_sl ([.ref q, .int v, .int w0]) ++ List.replicate (4 - (lg_sl ([.ref q, .int v, .int w0])).length) Slot.unset).toArray = ls at hl ⊢
  have hl : lv_has ls 4 [(0, .ref q), (1, .int v), (2, .int w0)] := hl
  refine lv_aload_n hx hb dX7_clusterMaximum_0 rfl (lv_at hl 0 rfl) ?_
  refine lv_iload_n hx hb dX7_clusterMaximum_1 rfl (lv_at hl 1 rfl) ?_
  have hPc := hP.sub (ws' := [(q, .inr (6, [.ref s0, .ref s1, .ref s2]))]) [0] rfl
  have hKc := hK.sub (tys' := []) [] rfl
  have hDc := hD.sub (ws' := [(q, .inr (6, [.ref s0, .ref s1, .ref s2]))]) [0] (by decide) rfl
  exact vx_callv (vx_runV (As := [.int v]) (rest := []) ⟨hx, hb, hml, hown, hts⟩ (x_X7_chosenSet l hls dC dI q s0 s1 s2 v sa s.heap.size (by first | assumption | omega)) (cwV 1 hts gX7_clusterMaximum_X7_chosenSet rfl rfl rfl (by decide +kernel) ⟨Nat.le_of_ble_eq_true rfl, Nat.le_of_ble_eq_true rfl⟩) ⟨fun a U g mk q => by obtain ⟨q0, q1, qT, qP, qK, qD⟩ := q; exact ⟨q0, q1, TW.same (u := U) (U := U.calling g mk a) rfl qT, qP, va_K.moved (u := U) (U := U.calling g mk a) (Vm.Alike.refl U.vm) qK, qD⟩, va_recv hKc hPc (ci := 6) (q0 := 0) rfl rfl, fun U hU hW => ⟨rfl, by rw [hU], by rw [hU]; exact TW.warm hW hT, by rw [hU]; exact hPc, va_K.moved hW.alike hKc, hDc.weaken (fun _ _ _ _ => trivial)⟩⟩ rfl rfl hl.1 rfl (lv_room (Nat.le_of_ble_eq_true rfl)) dX7_clusterMaximum_2 ⟨Nat.le_of_ble_eq_true rfl, Nat.le_of_ble_eq_true rfl⟩) hS (fun q h9 h8 => absurd h8 (Nat.not_le_of_lt h9)) (fun q h8 => Nat.le_trans hS.1 h8) (fun q h9 h8 => absurd h8 (Nat.not_le_of_lt h9)) (fun E9 ce9 q9 u9 t9 H9 l9 ht9 hvm9 hu9 hE9 hz9 hk9 hS9 hce9 hcv9 hcl9 => vx_out (fun x h => (hcat x h).elim) hlocks hce9 hcv9 hcl9 (fun t8 ht8 ha8 => ⟨(), trivial, hE9, by rw [ht8]; exact hz9, fun q h1 h2 => by rw [ht8]; exact hk9 q h1 h2⟩) hS9.2.2 (Nat.le_of_ble_eq_true rfl) (Nat.le_of_ble_eq_true rfl)) (fun u9 t9 H9 l9 ht9 hvm9 hu9 hB9 hz9 hk9 hS9 => hu9.elim)
set_option maxHeartbeats 4000000 in
set_option maxRecDepth 100000 in
/-- prefixes_s throws IndexOutOfBoundsException -/
theorem x_X7_prefixes_s (l : Launch) (hls : l.stackTraces = false) (dC : Nat → ClassId) (dI : Nat → Nat → Nat) (q : Nat) (s0 : Nat) (s1 : Nat) (s2 : Nat) (v : Int32) (w0 : Int32) (sa sz : Nat) (hSf : isS v = false) : vx_Met l yX7_prefixes wsX7_prefixes ({ frames := 7, cells := 1, slots := 6, locals := 103 }) (va_Pc [.ref q, .int v, .int w0] (fun U => U.heap.size = sz ∧ TW "java/lang/IndexOutOfBoundsException" 148 "no such set" sa (fun q => sz ≤ q) U U.heap ∧ va_P (dC, dI) vwCl [(q, .inr (6, [.ref s0, .ref s1, .ref s2]))] U.heap ∧ va_K (dC, dI) vwCl [] U ∧ va_D (fun _ => True) [(q, .inr (6, [.ref s0, .ref s1, .ref s2]))])) (va_Qv (fun _ : Unit => False) (fun _ _ => True) (fun q => sz ≤ q)) (vx_X (fun _ : Unit => True) (fun E _ _ => E = "java/lang/IndexOutOfBoundsException") (fun q => sz ≤ q)) 1 6 (fun q => sz ≤ q) := by
  refine vx_ofW (cc := cX7_prefixes) (maxL := 4) (ret := (some .int)) (by decide) rfl ?_
  intro p e s m args below meth c s₁ B hml hcat hv
  obtain ⟨rfl, hsz, hT, hP, hK, hD⟩ := hv
  have hx := B.exec
  have hb := B.bytes
  have hr := B.returns
  have hts := atoms_spec (ws := wsX7_prefixes) B.pre
  have hown : s.vm.findClass RX7 = some m.cls := findClass_of_methodNamed B.named
  have hlocks := B.notSynchronized
  subst hsz
  have hS : va_S (fun q => s.heap.size ≤ q) s.heap s.heap [] := va_S.rf
  have hP : va_P (dC, dI) vwCl [(q, .inr (6, [.ref s0, .ref s1, .ref s2]))] s.heap := hP
  have hl := lv_entry ([.ref q, .int v, .int w0]) (n := 4) (Nat.le_of_ble_eq_true rfl)
  rw [lg_entry_eq]
  generalize (lg_sl ([.ref q, .int v, .int w0]) ++ List.replicate (4 - (lg_sl ([.ref q, .int v, .int w0])).length) Slot.unset).toArray = ls at hl ⊢
  have hl : lv_has ls 4 [(0, .ref q), (1, .int v), (2, .int w0)] := hl
  refine lv_aload_n hx hb dX7_prefixes_0 rfl (lv_at hl 0 rfl) ?_
  refine lv_iload_n hx hb dX7_prefixes_1 rfl (lv_at hl 1 rfl) ?_
  have hPc := hP.sub (ws' := [(q, .inr (6, [.ref s0, .ref s1, .ref s2]))]) [0] rfl
  have hKc := hK.sub (tys' := []) [] rfl
  have hDc := hD.sub (ws' := [(q, .inr (6, [.ref s0, .ref s1, .ref s2]))]) [0] (by decide) rfl
  exact vx_callv (vx_runV (As := [.int v]) (rest := []) ⟨hx, hb, hml, hown, hts⟩ (x_X7_chosenSet l hls dC dI q s0 s1 s2 v sa s.heap.size (by first | assumption | omega)) (cwV 1 hts gX7_prefixes_X7_chosenSet rfl rfl rfl (by decide +kernel) ⟨Nat.le_of_ble_eq_true rfl, Nat.le_of_ble_eq_true rfl⟩) ⟨fun a U g mk q => by obtain ⟨q0, q1, qT, qP, qK, qD⟩ := q; exact ⟨q0, q1, TW.same (u := U) (U := U.calling g mk a) rfl qT, qP, va_K.moved (u := U) (U := U.calling g mk a) (Vm.Alike.refl U.vm) qK, qD⟩, va_recv hKc hPc (ci := 6) (q0 := 0) rfl rfl, fun U hU hW => ⟨rfl, by rw [hU], by rw [hU]; exact TW.warm hW hT, by rw [hU]; exact hPc, va_K.moved hW.alike hKc, hDc.weaken (fun _ _ _ _ => trivial)⟩⟩ rfl rfl hl.1 rfl (lv_room (Nat.le_of_ble_eq_true rfl)) dX7_prefixes_2 ⟨Nat.le_of_ble_eq_true rfl, Nat.le_of_ble_eq_true rfl⟩) hS (fun q h9 h8 => absurd h8 (Nat.not_le_of_lt h9)) (fun q h8 => Nat.le_trans hS.1 h8) (fun q h9 h8 => absurd h8 (Nat.not_le_of_lt h9)) (fun E9 ce9 q9 u9 t9 H9 l9 ht9 hvm9 hu9 hE9 hz9 hk9 hS9 hce9 hcv9 hcl9 => vx_out (fun x h => (hcat x h).elim) hlocks hce9 hcv9 hcl9 (fun t8 ht8 ha8 => ⟨(), trivial, hE9, by rw [ht8]; exact hz9, fun q h1 h2 => by rw [ht8]; exact hk9 q h1 h2⟩) hS9.2.2 (Nat.le_of_ble_eq_true rfl) (Nat.le_of_ble_eq_true rfl)) (fun u9 t9 H9 l9 ht9 hvm9 hu9 hB9 hz9 hk9 hS9 => hu9.elim)
set_option maxHeartbeats 4000000 in
set_option maxRecDepth 100000 in
/-- longestMatch_s throws IndexOutOfBoundsException -/
theorem x_X7_longestMatch_s (l : Launch) (hls : l.stackTraces = false) (dC : Nat → ClassId) (dI : Nat → Nat → Nat) (q : Nat) (s0 : Nat) (s1 : Nat) (s2 : Nat) (v : Int32) (w0 : Int32) (sa sz : Nat) (hSf : isS v = false) : vx_Met l yX7_longestMatch wsX7_longestMatch ({ frames := 7, cells := 1, slots := 6, locals := 103 }) (va_Pc [.ref q, .int v, .int w0] (fun U => U.heap.size = sz ∧ TW "java/lang/IndexOutOfBoundsException" 148 "no such set" sa (fun q => sz ≤ q) U U.heap ∧ va_P (dC, dI) vwCl [(q, .inr (6, [.ref s0, .ref s1, .ref s2]))] U.heap ∧ va_K (dC, dI) vwCl [] U ∧ va_D (fun _ => True) [(q, .inr (6, [.ref s0, .ref s1, .ref s2]))])) (va_Qv (fun _ : Unit => False) (fun _ _ => True) (fun q => sz ≤ q)) (vx_X (fun _ : Unit => True) (fun E _ _ => E = "java/lang/IndexOutOfBoundsException") (fun q => sz ≤ q)) 1 6 (fun q => sz ≤ q) := by
  refine vx_ofW (cc := cX7_longestMatch) (maxL := 4) (ret := (some .int)) (by decide) rfl ?_
  intro p e s m args below meth c s₁ B hml hcat hv
  obtain ⟨rfl, hsz, hT, hP, hK, hD⟩ := hv
  have hx := B.exec
  have hb := B.bytes
  have hr := B.returns
  have hts := atoms_spec (ws := wsX7_longestMatch) B.pre
  have hown : s.vm.findClass RX7 = some m.cls := findClass_of_methodNamed B.named
  have hlocks := B.notSynchronized
  subst hsz
  have hS : va_S (fun q => s.heap.size ≤ q) s.heap s.heap [] := va_S.rf
  have hP : va_P (dC, dI) vwCl [(q, .inr (6, [.ref s0, .ref s1, .ref s2]))] s.heap := hP
  have hl := lv_entry ([.ref q, .int v, .int w0]) (n := 4) (Nat.le_of_ble_eq_true rfl)
  rw [lg_entry_eq]
  generalize (lg_sl ([.ref q, .int v, .int w0]) ++ List.replicate (4 - (lg_sl ([.ref q, .int v, .int w0])).length) Slot.unset).toArray = ls at hl ⊢
  have hl : lv_has ls 4 [(0, .ref q), (1, .int v), (2, .int w0)] := hl
  refine lv_aload_n hx hb dX7_longestMatch_0 rfl (lv_at hl 0 rfl) ?_
  refine lv_iload_n hx hb dX7_longestMatch_1 rfl (lv_at hl 1 rfl) ?_
  have hPc := hP.sub (ws' := [(q, .inr (6, [.ref s0, .ref s1, .ref s2]))]) [0] rfl
  have hKc := hK.sub (tys' := []) [] rfl
  have hDc := hD.sub (ws' := [(q, .inr (6, [.ref s0, .ref s1, .ref s2]))]) [0] (by decide) rfl
  exact vx_callv (vx_runV (As := [.int v]) (rest := []) ⟨hx, hb, hml, hown, hts⟩ (x_X7_chosenSet l hls dC dI q s0 s1 s2 v sa s.heap.size (by first | assumption | omega)) (cwV 1 hts gX7_longestMatch_X7_chosenSet rfl rfl rfl (by decide +kernel) ⟨Nat.le_of_ble_eq_true rfl, Nat.le_of_ble_eq_true rfl⟩) ⟨fun a U g mk q => by obtain ⟨q0, q1, qT, qP, qK, qD⟩ := q; exact ⟨q0, q1, TW.same (u := U) (U := U.calling g mk a) rfl qT, qP, va_K.moved (u := U) (U := U.calling g mk a) (Vm.Alike.refl U.vm) qK, qD⟩, va_recv hKc hPc (ci := 6) (q0 := 0) rfl rfl, fun U hU hW => ⟨rfl, by rw [hU], by rw [hU]; exact TW.warm hW hT, by rw [hU]; exact hPc, va_K.moved hW.alike hKc, hDc.weaken (fun _ _ _ _ => trivial)⟩⟩ rfl rfl hl.1 rfl (lv_room (Nat.le_of_ble_eq_true rfl)) dX7_longestMatch_2 ⟨Nat.le_of_ble_eq_true rfl, Nat.le_of_ble_eq_true rfl⟩) hS (fun q h9 h8 => absurd h8 (Nat.not_le_of_lt h9)) (fun q h8 => Nat.le_trans hS.1 h8) (fun q h9 h8 => absurd h8 (Nat.not_le_of_lt h9)) (fun E9 ce9 q9 u9 t9 H9 l9 ht9 hvm9 hu9 hE9 hz9 hk9 hS9 hce9 hcv9 hcl9 => vx_out (fun x h => (hcat x h).elim) hlocks hce9 hcv9 hcl9 (fun t8 ht8 ha8 => ⟨(), trivial, hE9, by rw [ht8]; exact hz9, fun q h1 h2 => by rw [ht8]; exact hk9 q h1 h2⟩) hS9.2.2 (Nat.le_of_ble_eq_true rfl) (Nat.le_of_ble_eq_true rfl)) (fun u9 t9 H9 l9 ht9 hvm9 hu9 hB9 hz9 hk9 hS9 => hu9.elim)
set_option maxHeartbeats 4000000 in
set_option maxRecDepth 100000 in
/-- probes_s throws IndexOutOfBoundsException -/
theorem x_X7_probes_s (l : Launch) (hls : l.stackTraces = false) (dC : Nat → ClassId) (dI : Nat → Nat → Nat) (q : Nat) (s0 : Nat) (s1 : Nat) (s2 : Nat) (v : Int32) (w0 : Int32) (sa sz : Nat) (hSf : isS v = false) : vx_Met l yX7_probes wsX7_probes ({ frames := 7, cells := 1, slots := 6, locals := 103 }) (va_Pc [.ref q, .int v, .int w0] (fun U => U.heap.size = sz ∧ TW "java/lang/IndexOutOfBoundsException" 148 "no such set" sa (fun q => sz ≤ q) U U.heap ∧ va_P (dC, dI) vwCl [(q, .inr (6, [.ref s0, .ref s1, .ref s2]))] U.heap ∧ va_K (dC, dI) vwCl [] U ∧ va_D (fun _ => True) [(q, .inr (6, [.ref s0, .ref s1, .ref s2]))])) (va_Qv (fun _ : Unit => False) (fun _ _ => True) (fun q => sz ≤ q)) (vx_X (fun _ : Unit => True) (fun E _ _ => E = "java/lang/IndexOutOfBoundsException") (fun q => sz ≤ q)) 1 6 (fun q => sz ≤ q) := by
  refine vx_ofW (cc := cX7_probes) (maxL := 4) (ret := (some .int)) (by decide) rfl ?_
  intro p e s m args below meth c s₁ B hml hcat hv
  obtain ⟨rfl, hsz, hT, hP, hK, hD⟩ := hv
  have hx := B.exec
  have hb := B.bytes
  have hr := B.returns
  have hts := atoms_spec (ws := wsX7_probes) B.pre
  have hown : s.vm.findClass RX7 = some m.cls := findClass_of_methodNamed B.named
  have hlocks := B.notSynchronized
  subst hsz
  have hS : va_S (fun q => s.heap.size ≤ q) s.heap s.heap [] := va_S.rf
  have hP : va_P (dC, dI) vwCl [(q, .inr (6, [.ref s0, .ref s1, .ref s2]))] s.heap := hP
  have hl := lv_entry ([.ref q, .int v, .int w0]) (n := 4) (Nat.le_of_ble_eq_true rfl)
  rw [lg_entry_eq]
  generalize (lg_sl ([.ref q, .int v, .int w0]) ++ List.replicate (4 - (lg_sl ([.ref q, .int v, .int w0])).length) Slot.unset).toArray = ls at hl ⊢
  have hl : lv_has ls 4 [(0, .ref q), (1, .int v), (2, .int w0)] := hl
  refine lv_aload_n hx hb dX7_probes_0 rfl (lv_at hl 0 rfl) ?_
  refine lv_iload_n hx hb dX7_probes_1 rfl (lv_at hl 1 rfl) ?_
  have hPc := hP.sub (ws' := [(q, .inr (6, [.ref s0, .ref s1, .ref s2]))]) [0] rfl
  have hKc := hK.sub (tys' := []) [] rfl
  have hDc := hD.sub (ws' := [(q, .inr (6, [.ref s0, .ref s1, .ref s2]))]) [0] (by decide) rfl
  exact vx_callv (vx_runV (As := [.int v]) (rest := []) ⟨hx, hb, hml, hown, hts⟩ (x_X7_chosenSet l hls dC dI q s0 s1 s2 v sa s.heap.size (by first | assumption | omega)) (cwV 1 hts gX7_probes_X7_chosenSet rfl rfl rfl (by decide +kernel) ⟨Nat.le_of_ble_eq_true rfl, Nat.le_of_ble_eq_true rfl⟩) ⟨fun a U g mk q => by obtain ⟨q0, q1, qT, qP, qK, qD⟩ := q; exact ⟨q0, q1, TW.same (u := U) (U := U.calling g mk a) rfl qT, qP, va_K.moved (u := U) (U := U.calling g mk a) (Vm.Alike.refl U.vm) qK, qD⟩, va_recv hKc hPc (ci := 6) (q0 := 0) rfl rfl, fun U hU hW => ⟨rfl, by rw [hU], by rw [hU]; exact TW.warm hW hT, by rw [hU]; exact hPc, va_K.moved hW.alike hKc, hDc.weaken (fun _ _ _ _ => trivial)⟩⟩ rfl rfl hl.1 rfl (lv_room (Nat.le_of_ble_eq_true rfl)) dX7_probes_2 ⟨Nat.le_of_ble_eq_true rfl, Nat.le_of_ble_eq_true rfl⟩) hS (fun q h9 h8 => absurd h8 (Nat.not_le_of_lt h9)) (fun q h8 => Nat.le_trans hS.1 h8) (fun q h9 h8 => absurd h8 (Nat.not_le_of_lt h9)) (fun E9 ce9 q9 u9 t9 H9 l9 ht9 hvm9 hu9 hE9 hz9 hk9 hS9 hce9 hcv9 hcl9 => vx_out (fun x h => (hcat x h).elim) hlocks hce9 hcv9 hcl9 (fun t8 ht8 ha8 => ⟨(), trivial, hE9, by rw [ht8]; exact hz9, fun q h1 h2 => by rw [ht8]; exact hk9 q h1 h2⟩) hS9.2.2 (Nat.le_of_ble_eq_true rfl) (Nat.le_of_ble_eq_true rfl)) (fun u9 t9 H9 l9 ht9 hvm9 hu9 hB9 hz9 hk9 hS9 => hu9.elim)
set_option maxHeartbeats 4000000 in
set_option maxRecDepth 100000 in
/-- buckets_s throws IndexOutOfBoundsException -/
theorem x_X7_buckets_s (l : Launch) (hls : l.stackTraces = false) (dC : Nat → ClassId) (dI : Nat → Nat → Nat) (q : Nat) (s0 : Nat) (s1 : Nat) (s2 : Nat) (v : Int32) (sa sz : Nat) (hSf : isS v = false) : vx_Met l yX7_buckets wsX7_buckets ({ frames := 7, cells := 1, slots := 6, locals := 103 }) (va_Pc [.ref q, .int v] (fun U => U.heap.size = sz ∧ TW "java/lang/IndexOutOfBoundsException" 148 "no such set" sa (fun q => sz ≤ q) U U.heap ∧ va_P (dC, dI) vwCl [(q, .inr (6, [.ref s0, .ref s1, .ref s2]))] U.heap ∧ va_K (dC, dI) vwCl [] U ∧ va_D (fun _ => True) [(q, .inr (6, [.ref s0, .ref s1, .ref s2]))])) (va_Qv (fun _ : Unit => False) (fun _ _ => True) (fun q => sz ≤ q)) (vx_X (fun _ : Unit => True) (fun E _ _ => E = "java/lang/IndexOutOfBoundsException") (fun q => sz ≤ q)) 1 6 (fun q => sz ≤ q) := by
  refine vx_ofW (cc := cX7_buckets) (maxL := 2) (ret := (some .int)) (by decide) rfl ?_
  intro p e s m args below meth c s₁ B hml hcat hv
  obtain ⟨rfl, hsz, hT, hP, hK, hD⟩ := hv
  have hx := B.exec
  have hb := B.bytes
  have hr := B.returns
  have hts := atoms_spec (ws := wsX7_buckets) B.pre
  have hown : s.vm.findClass RX7 = some m.cls := findClass_of_methodNamed B.named
  have hlocks := B.notSynchronized
  subst hsz
  have hS : va_S (fun q => s.heap.size ≤ q) s.heap s.heap [] := va_S.rf
  have hP : va_P (dC, dI) vwCl [(q, .inr (6, [.ref s0, .ref s1, .ref s2]))] s.heap := hP
  have hl := lv_entry ([.ref q, .int v]) (n := 2) (Nat.le_of_ble_eq_true rfl)
  rw [lg_entry_eq]
  generalize (lg_sl ([.ref q, .int v]) ++ List.replicate (2 - (lg_sl ([.ref q, .int v])).length) Slot.unset).toArray = ls at hl ⊢
  have hl : lv_has ls 2 [(0, .ref q), (1, .int v)] := hl
  refine lv_aload_n hx hb dX7_buckets_0 rfl (lv_at hl 0 rfl) ?_
  refine lv_iload_n hx hb dX7_buckets_1 rfl (lv_at hl 1 rfl) ?_
  have hPc := hP.sub (ws' := [(q, .inr (6, [.ref s0, .ref s1, .ref s2]))]) [0] rfl
  have hKc := hK.sub (tys' := []) [] rfl
  have hDc := hD.sub (ws' := [(q, .inr (6, [.ref s0, .ref s1, .ref s2]))]) [0] (by decide) rfl
  exact vx_callv (vx_runV (As := [.int v]) (rest := []) ⟨hx, hb, hml, hown, hts⟩ (x_X7_chosenSet l hls dC dI q s0 s1 s2 v sa s.heap.size (by first | assumption | omega)) (cwV 1 hts gX7_buckets_X7_chosenSet rfl rfl rfl (by decide +kernel) ⟨Nat.le_of_ble_eq_true rfl, Nat.le_of_ble_eq_true rfl⟩) ⟨fun a U g mk q => by obtain ⟨q0, q1, qT, qP, qK, qD⟩ := q; exact ⟨q0, q1, TW.same (u := U) (U := U.calling g mk a) rfl qT, qP, va_K.moved (u := U) (U := U.calling g mk a) (Vm.Alike.refl U.vm) qK, qD⟩, va_recv hKc hPc (ci := 6) (q0 := 0) rfl rfl, fun U hU hW => ⟨rfl, by rw [hU], by rw [hU]; exact TW.warm hW hT, by rw [hU]; exact hPc, va_K.moved hW.alike hKc, hDc.weaken (fun _ _ _ _ => trivial)⟩⟩ rfl rfl hl.1 rfl (lv_room (Nat.le_of_ble_eq_true rfl)) dX7_buckets_2 ⟨Nat.le_of_ble_eq_true rfl, Nat.le_of_ble_eq_true rfl⟩) hS (fun q h9 h8 => absurd h8 (Nat.not_le_of_lt h9)) (fun q h8 => Nat.le_trans hS.1 h8) (fun q h9 h8 => absurd h8 (Nat.not_le_of_lt h9)) (fun E9 ce9 q9 u9 t9 H9 l9 ht9 hvm9 hu9 hE9 hz9 hk9 hS9 hce9 hcv9 hcl9 => vx_out (fun x h => (hcat x h).elim) hlocks hce9 hcv9 hcl9 (fun t8 ht8 ha8 => ⟨(), trivial, hE9, by rw [ht8]; exact hz9, fun q h1 h2 => by rw [ht8]; exact hk9 q h1 h2⟩) hS9.2.2 (Nat.le_of_ble_eq_true rfl) (Nat.le_of_ble_eq_true rfl)) (fun u9 t9 H9 l9 ht9 hvm9 hu9 hB9 hz9 hk9 hS9 => hu9.elim)
set_option maxHeartbeats 4000000 in
set_option maxRecDepth 100000 in
/-- separator_s throws IndexOutOfBoundsException -/
theorem x_X7_separator_s (l : Launch) (hls : l.stackTraces = false) (dC : Nat → ClassId) (dI : Nat → Nat → Nat) (q : Nat) (s0 : Nat) (s1 : Nat) (s2 : Nat) (v : Int32) (w0 : Int32) (sa sz : Nat) (hSf : isS v = false) : vx_Met l yX7_separator wsX7_separator ({ frames := 7, cells := 1, slots := 6, locals := 103 }) (va_Pc [.ref q, .int v, .int w0] (fun U => U.heap.size = sz ∧ TW "java/lang/IndexOutOfBoundsException" 148 "no such set" sa (fun q => sz ≤ q) U U.heap ∧ va_P (dC, dI) vwCl [(q, .inr (6, [.ref s0, .ref s1, .ref s2]))] U.heap ∧ va_K (dC, dI) vwCl [] U ∧ va_D (fun _ => True) [(q, .inr (6, [.ref s0, .ref s1, .ref s2]))])) (va_Qv (fun _ : Unit => False) (fun _ _ => True) (fun q => sz ≤ q)) (vx_X (fun _ : Unit => True) (fun E _ _ => E = "java/lang/IndexOutOfBoundsException") (fun q => sz ≤ q)) 1 6 (fun q => sz ≤ q) := by
  refine vx_ofW (cc := cX7_separator) (maxL := 4) (ret := (some .int)) (by decide) rfl ?_
  intro p e s m args below meth c s₁ B hml hcat hv
  obtain ⟨rfl, hsz, hT, hP, hK, hD⟩ := hv
  have hx := B.exec
  have hb := B.bytes
  have hr := B.returns
  have hts := atoms_spec (ws := wsX7_separator) B.pre
  have hown : s.vm.findClass RX7 = some m.cls := findClass_of_methodNamed B.named
  have hlocks := B.notSynchronized
  subst hsz
  have hS : va_S (fun q => s.heap.size ≤ q) s.heap s.heap [] := va_S.rf
  have hP : va_P (dC, dI) vwCl [(q, .inr (6, [.ref s0, .ref s1, .ref s2]))] s.heap := hP
  have hl := lv_entry ([.ref q, .int v, .int w0]) (n := 4) (Nat.le_of_ble_eq_true rfl)
  rw [lg_entry_eq]
  generalize (lg_sl ([.ref q, .int v, .int w0]) ++ List.replicate (4 - (lg_sl ([.ref q, .int v, .int w0])).length) Slot.unset).toArray = ls at hl ⊢
  have hl : lv_has ls 4 [(0, .ref q), (1, .int v), (2, .int w0)] := hl
  refine lv_aload_n hx hb dX7_separator_0 rfl (lv_at hl 0 rfl) ?_
  refine lv_iload_n hx hb dX7_separator_1 rfl (lv_at hl 1 rfl) ?_
  have hPc := hP.sub (ws' := [(q, .inr (6, [.ref s0, .ref s1, .ref s2]))]) [0] rfl
  have hKc := hK.sub (tys' := []) [] rfl
  have hDc := hD.sub (ws' := [(q, .inr (6, [.ref s0, .ref s1, .ref s2]))]) [0] (by decide) rfl
  exact vx_callv (vx_runV (As := [.int v]) (rest := []) ⟨hx, hb, hml, hown, hts⟩ (x_X7_chosenSet l hls dC dI q s0 s1 s2 v sa s.heap.size (by first | assumption | omega)) (cwV 1 hts gX7_separator_X7_chosenSet rfl rfl rfl (by decide +kernel) ⟨Nat.le_of_ble_eq_true rfl, Nat.le_of_ble_eq_true rfl⟩) ⟨fun a U g mk q => by obtain ⟨q0, q1, qT, qP, qK, qD⟩ := q; exact ⟨q0, q1, TW.same (u := U) (U := U.calling g mk a) rfl qT, qP, va_K.moved (u := U) (U := U.calling g mk a) (Vm.Alike.refl U.vm) qK, qD⟩, va_recv hKc hPc (ci := 6) (q0 := 0) rfl rfl, fun U hU hW => ⟨rfl, by rw [hU], by rw [hU]; exact TW.warm hW hT, by rw [hU]; exact hPc, va_K.moved hW.alike hKc, hDc.weaken (fun _ _ _ _ => trivial)⟩⟩ rfl rfl hl.1 rfl (lv_room (Nat.le_of_ble_eq_true rfl)) dX7_separator_2 ⟨Nat.le_of_ble_eq_true rfl, Nat.le_of_ble_eq_true rfl⟩) hS (fun q h9 h8 => absurd h8 (Nat.not_le_of_lt h9)) (fun q h8 => Nat.le_trans hS.1 h8) (fun q h9 h8 => absurd h8 (Nat.not_le_of_lt h9)) (fun E9 ce9 q9 u9 t9 H9 l9 ht9 hvm9 hu9 hE9 hz9 hk9 hS9 hce9 hcv9 hcl9 => vx_out (fun x h => (hcat x h).elim) hlocks hce9 hcv9 hcl9 (fun t8 ht8 ha8 => ⟨(), trivial, hE9, by rw [ht8]; exact hz9, fun q h1 h2 => by rw [ht8]; exact hk9 q h1 h2⟩) hS9.2.2 (Nat.le_of_ble_eq_true rfl) (Nat.le_of_ble_eq_true rfl)) (fun u9 t9 H9 l9 ht9 hvm9 hu9 hB9 hz9 hk9 hS9 => hu9.elim)
set_option maxHeartbeats 4000000 in
set_option maxRecDepth 100000 in
/-- bucketSize_s throws IndexOutOfBoundsException -/
theorem x_X7_bucketSize_s (l : Launch) (hls : l.stackTraces = false) (dC : Nat → ClassId) (dI : Nat → Nat → Nat) (q : Nat) (s0 : Nat) (s1 : Nat) (s2 : Nat) (v : Int32) (w0 : Int32) (sa sz : Nat) (hSf : isS v = false) : vx_Met l yX7_bucketSize wsX7_bucketSize ({ frames := 7, cells := 1, slots := 6, locals := 103 }) (va_Pc [.ref q, .int v, .int w0] (fun U => U.heap.size = sz ∧ TW "java/lang/IndexOutOfBoundsException" 148 "no such set" sa (fun q => sz ≤ q) U U.heap ∧ va_P (dC, dI) vwCl [(q, .inr (6, [.ref s0, .ref s1, .ref s2]))] U.heap ∧ va_K (dC, dI) vwCl [] U ∧ va_D (fun _ => True) [(q, .inr (6, [.ref s0, .ref s1, .ref s2]))])) (va_Qv (fun _ : Unit => False) (fun _ _ => True) (fun q => sz ≤ q)) (vx_X (fun _ : Unit => True) (fun E _ _ => E = "java/lang/IndexOutOfBoundsException") (fun q => sz ≤ q)) 1 6 (fun q => sz ≤ q) := by
  refine vx_ofW (cc := cX7_bucketSize) (maxL := 4) (ret := (some .int)) (by decide) rfl ?_
  intro p e s m args below meth c s₁ B hml hcat hv
  obtain ⟨rfl, hsz, hT, hP, hK, hD⟩ := hv
  have hx := B.exec
  have hb := B.bytes
  have hr := B.returns
  have hts := atoms_spec (ws := wsX7_bucketSize) B.pre
  have hown : s.vm.findClass RX7 = some m.cls := findClass_of_methodNamed B.named
  have hlocks := B.notSynchronized
  subst hsz
  have hS : va_S (fun q => s.heap.size ≤ q) s.heap s.heap [] := va_S.rf
  have hP : va_P (dC, dI) vwCl [(q, .inr (6, [.ref s0, .ref s1, .ref s2]))] s.heap := hP
  have hl := lv_entry ([.ref q, .int v, .int w0]) (n := 4) (Nat.le_of_ble_eq_true rfl)
  rw [lg_entry_eq]
  generalize (lg_sl ([.ref q, .int v, .int w0]) ++ List.replicate (4 - (lg_sl ([.ref q, .int v, .int w0])).length) Slot.unset).toArray = ls at hl ⊢
  have hl : lv_has ls 4 [(0, .ref q), (1, .int v), (2, .int w0)] := hl
  refine lv_aload_n hx hb dX7_bucketSize_0 rfl (lv_at hl 0 rfl) ?_
  refine lv_iload_n hx hb dX7_bucketSize_1 rfl (lv_at hl 1 rfl) ?_
  have hPc := hP.sub (ws' := [(q, .inr (6, [.ref s0, .ref s1, .ref s2]))]) [0] rfl
  have hKc := hK.sub (tys' := []) [] rfl
  have hDc := hD.sub (ws' := [(q, .inr (6, [.ref s0, .ref s1, .ref s2]))]) [0] (by decide) rfl
  exact vx_callv (vx_runV (As := [.int v]) (rest := []) ⟨hx, hb, hml, hown, hts⟩ (x_X7_chosenSet l hls dC dI q s0 s1 s2 v sa s.heap.size (by first | assumption | omega)) (cwV 1 hts gX7_bucketSize_X7_chosenSet rfl rfl rfl (by decide +kernel) ⟨Nat.le_of_ble_eq_true rfl, Nat.le_of_ble_eq_true rfl⟩) ⟨fun a U g mk q => by obtain ⟨q0, q1, qT, qP, qK, qD⟩ := q; exact ⟨q0, q1, TW.same (u := U) (U := U.calling g mk a) rfl qT, qP, va_K.moved (u := U) (U := U.calling g mk a) (Vm.Alike.refl U.vm) qK, qD⟩, va_recv hKc hPc (ci := 6) (q0 := 0) rfl rfl, fun U hU hW => ⟨rfl, by rw [hU], by rw [hU]; exact TW.warm hW hT, by rw [hU]; exact hPc, va_K.moved hW.alike hKc, hDc.weaken (fun _ _ _ _ => trivial)⟩⟩ rfl rfl hl.1 rfl (lv_room (Nat.le_of_ble_eq_true rfl)) dX7_bucketSize_2 ⟨Nat.le_of_ble_eq_true rfl, Nat.le_of_ble_eq_true rfl⟩) hS (fun q h9 h8 => absurd h8 (Nat.not_le_of_lt h9)) (fun q h8 => Nat.le_trans hS.1 h8) (fun q h9 h8 => absurd h8 (Nat.not_le_of_lt h9)) (fun E9 ce9 q9 u9 t9 H9 l9 ht9 hvm9 hu9 hE9 hz9 hk9 hS9 hce9 hcv9 hcl9 => vx_out (fun x h => (hcat x h).elim) hlocks hce9 hcv9 hcl9 (fun t8 ht8 ha8 => ⟨(), trivial, hE9, by rw [ht8]; exact hz9, fun q h1 h2 => by rw [ht8]; exact hk9 q h1 h2⟩) hS9.2.2 (Nat.le_of_ble_eq_true rfl) (Nat.le_of_ble_eq_true rfl)) (fun u9 t9 H9 l9 ht9 hvm9 hu9 hB9 hz9 hk9 hS9 => hu9.elim)
set_option maxHeartbeats 4000000 in
set_option maxRecDepth 100000 in
/-- bucketOf_s throws IndexOutOfBoundsException -/
theorem x_X7_bucketOf_s (l : Launch) (hls : l.stackTraces = false) (dC : Nat → ClassId) (dI : Nat → Nat → Nat) (q : Nat) (s0 : Nat) (s1 : Nat) (s2 : Nat) (v : Int32) (w0 : Int32) (sa sz : Nat) (hSf : isS v = false) : vx_Met l yX7_bucketOf wsX7_bucketOf ({ frames := 7, cells := 1, slots := 6, locals := 103 }) (va_Pc [.ref q, .int v, .int w0] (fun U => U.heap.size = sz ∧ TW "java/lang/IndexOutOfBoundsException" 148 "no such set" sa (fun q => sz ≤ q) U U.heap ∧ va_P (dC, dI) vwCl [(q, .inr (6, [.ref s0, .ref s1, .ref s2]))] U.heap ∧ va_K (dC, dI) vwCl [] U ∧ va_D (fun _ => True) [(q, .inr (6, [.ref s0, .ref s1, .ref s2]))])) (va_Qv (fun _ : Unit => False) (fun _ _ => True) (fun q => sz ≤ q)) (vx_X (fun _ : Unit => True) (fun E _ _ => E = "java/lang/IndexOutOfBoundsException") (fun q => sz ≤ q)) 1 6 (fun q => sz ≤ q) := by
  refine vx_ofW (cc := cX7_bucketOf) (maxL := 4) (ret := (some .int)) (by decide) rfl ?_
  intro p e s m args below meth c s₁ B hml hcat hv
  obtain ⟨rfl, hsz, hT, hP, hK, hD⟩ := hv
  have hx := B.exec
  have hb := B.bytes
  have hr := B.returns
  have hts := atoms_spec (ws := wsX7_bucketOf) B.pre
  have hown : s.vm.findClass RX7 = some m.cls := findClass_of_methodNamed B.named
  have hlocks := B.notSynchronized
  subst hsz
  have hS : va_S (fun q => s.heap.size ≤ q) s.heap s.heap [] := va_S.rf
  have hP : va_P (dC, dI) vwCl [(q, .inr (6, [.ref s0, .ref s1, .ref s2]))] s.heap := hP
  have hl := lv_entry ([.ref q, .int v, .int w0]) (n := 4) (Nat.le_of_ble_eq_true rfl)
  rw [lg_entry_eq]
  generalize (lg_sl ([.ref q, .int v, .int w0]) ++ List.replicate (4 - (lg_sl ([.ref q, .int v, .int w0])).length) Slot.unset).toArray = ls at hl ⊢
  have hl : lv_has ls 4 [(0, .ref q), (1, .int v), (2, .int w0)] := hl
  refine lv_aload_n hx hb dX7_bucketOf_0 rfl (lv_at hl 0 rfl) ?_
  refine lv_iload_n hx hb dX7_bucketOf_1 rfl (lv_at hl 1 rfl) ?_
  have hPc := hP.sub (ws' := [(q, .inr (6, [.ref s0, .ref s1, .ref s2]))]) [0] rfl
  have hKc := hK.sub (tys' := []) [] rfl
  have hDc := hD.sub (ws' := [(q, .inr (6, [.ref s0, .ref s1, .ref s2]))]) [0] (by decide) rfl
  exact vx_callv (vx_runV (As := [.int v]) (rest := []) ⟨hx, hb, hml, hown, hts⟩ (x_X7_chosenSet l hls dC dI q s0 s1 s2 v sa s.heap.size (by first | assumption | omega)) (cwV 1 hts gX7_bucketOf_X7_chosenSet rfl rfl rfl (by decide +kernel) ⟨Nat.le_of_ble_eq_true rfl, Nat.le_of_ble_eq_true rfl⟩) ⟨fun a U g mk q => by obtain ⟨q0, q1, qT, qP, qK, qD⟩ := q; exact ⟨q0, q1, TW.same (u := U) (U := U.calling g mk a) rfl qT, qP, va_K.moved (u := U) (U := U.calling g mk a) (Vm.Alike.refl U.vm) qK, qD⟩, va_recv hKc hPc (ci := 6) (q0 := 0) rfl rfl, fun U hU hW => ⟨rfl, by rw [hU], by rw [hU]; exact TW.warm hW hT, by rw [hU]; exact hPc, va_K.moved hW.alike hKc, hDc.weaken (fun _ _ _ _ => trivial)⟩⟩ rfl rfl hl.1 rfl (lv_room (Nat.le_of_ble_eq_true rfl)) dX7_bucketOf_2 ⟨Nat.le_of_ble_eq_true rfl, Nat.le_of_ble_eq_true rfl⟩) hS (fun q h9 h8 => absurd h8 (Nat.not_le_of_lt h9)) (fun q h8 => Nat.le_trans hS.1 h8) (fun q h9 h8 => absurd h8 (Nat.not_le_of_lt h9)) (fun E9 ce9 q9 u9 t9 H9 l9 ht9 hvm9 hu9 hE9 hz9 hk9 hS9 hce9 hcv9 hcl9 => vx_out (fun x h => (hcat x h).elim) hlocks hce9 hcv9 hcl9 (fun t8 ht8 ha8 => ⟨(), trivial, hE9, by rw [ht8]; exact hz9, fun q h1 h2 => by rw [ht8]; exact hk9 q h1 h2⟩) hS9.2.2 (Nat.le_of_ble_eq_true rfl) (Nat.le_of_ble_eq_true rfl)) (fun u9 t9 H9 l9 ht9 hvm9 hu9 hB9 hz9 hk9 hS9 => hu9.elim)
set_option maxHeartbeats 4000000 in
set_option maxRecDepth 100000 in
/-- insert_n0 throws IllegalArgumentException -/
theorem x_X7_insert_n0 (l : Launch) (hls : l.stackTraces = false) (dC : Nat → ClassId) (dI : Nat → Nat → Nat) (q : Nat) (s0 : Nat) (s1 : Nat) (s2 : Nat) (w : Int32) (sa sz : Nat) (hW : isN w = false) : vx_Met l yX7_insert wsX7_insert ({ frames := 7, cells := 1, slots := 6, locals := 102 }) (va_Pc [.ref q, .int (nI 0), .int w] (fun U => U.heap.size = sz ∧ TW "java/lang/IllegalArgumentException" 153 "the number is out of range" sa (fun q => sz ≤ q) U U.heap ∧ va_P (dC, dI) vwCl [(q, .inr (6, [.ref s0, .ref s1, .ref s2]))] U.heap ∧ va_K (dC, dI) vwCl [] U ∧ va_D (fun _ => True) [(q, .inr (6, [.ref s0, .ref s1, .ref s2]))])) (va_Qv (fun _ : Unit => False) (fun _ _ => True) (fun q => sz ≤ q)) (vx_X (fun _ : Unit => True) (fun E _ _ => E = "java/lang/IllegalArgumentException") (fun q => sz ≤ q)) 1 6 (fun q => sz ≤ q) := by
  refine vx_ofW (cc := cX7_insert) (maxL := 4) (ret := (some .boolean)) (by decide) rfl ?_
  intro p e s m args below meth c s₁ B hml hcat hv
  obtain ⟨rfl, hsz, hT, hP, hK, hD⟩ := hv
  have hx := B.exec
  have hb := B.bytes
  have hr := B.returns
  have hts := atoms_spec (ws := wsX7_insert) B.pre
  have hown : s.vm.findClass RX7 = some m.cls := findClass_of_methodNamed B.named
  have hlocks := B.notSynchronized
  subst hsz
  have hS : va_S (fun q => s.heap.size ≤ q) s.heap s.heap [] := va_S.rf
  have hP : va_P (dC, dI) vwCl [(q, .inr (6, [.ref s0, .ref s1, .ref s2]))] s.heap := hP
  have hl := lv_entry ([.ref q, .int (nI 0), .int w]) (n := 4) (Nat.le_of_ble_eq_true rfl)
  rw [lg_entry_eq]
  generalize (lg_sl ([.ref q, .int (nI 0), .int w]) ++ List.replicate (4 - (lg_sl ([.ref q, .int (nI 0), .int w])).length) Slot.unset).toArray = ls at hl ⊢
  have hl : lv_has ls 4 [(0, .ref q), (1, .int (nI 0)), (2, .int w)] := hl
  refine lv_aload_n hx hb dX7_insert_0 rfl (lv_at hl 0 rfl) ?_
  refine lv_iload_n hx hb dX7_insert_1 rfl (lv_at hl 1 rfl) ?_
  have hPc := hP.sub (ws' := [(q, .inr (6, [.ref s0, .ref s1, .ref s2]))]) [0] rfl
  have hKc := hK.sub (tys' := []) [] rfl
  refine va_csr (W.runV (As := [.int (nI 0)]) (rest := []) ⟨hx, hb, hml, hown, hts⟩ (c_X7_chosenSet_0 l dC dI q s0 s1 s2 ) (cwV 1 hts gX7_insert_X7_chosenSet rfl rfl rfl (by decide +kernel) ⟨Nat.le_of_ble_eq_true rfl, Nat.le_of_ble_eq_true rfl⟩) ⟨fun a U g mk q => by obtain ⟨q0, qP, qK⟩ := q; exact ⟨q0, qP, va_K.moved (u := U) (U := U.calling g mk a) (Vm.Alike.refl U.vm) qK⟩, va_recv hKc hPc (ci := 6) (q0 := 0) rfl rfl, fun U hU hW => ⟨rfl, by rw [hU]; exact hPc, va_K.moved hW.alike hKc⟩⟩ rfl rfl hl.1 rfl (lv_room (Nat.le_of_ble_eq_true rfl)) dX7_insert_2 ⟨Nat.le_of_ble_eq_true rfl, Nat.le_of_ble_eq_true rfl⟩) (fun r_2 hw_1 => ?_)
  have hw_1 := hw_1.symm
  subst hw_1
  refine lv_astore_n (lv' := [(3, .ref s0), (0, .ref q), (1, .int (nI 0)), (2, .int w)]) hx hb dX7_insert_5 rfl hl (by decide) rfl (fun ls hl => ?_)
  refine lv_iload_n hx hb dX7_insert_6 rfl (lv_at hl 3 rfl) ?_
  have hPc := hP.sub (ws' := []) [] rfl
  have hKc := hK.sub (tys' := []) [] rfl
  have hDc := hD.sub (ws' := []) [] (by decide) rfl
  exact vx_callv (vx_runS (As := [.int w]) (rest := []) ⟨hx, hb, hml, hown, hts⟩ (x_X7_needNumber l hls dC dI w sa s.heap.size (by first | assumption | omega)) (va_cwS 1 hts gX7_insert_X7_needNumber rfl rfl rfl (by decide +kernel) ⟨Nat.le_of_ble_eq_true rfl, Nat.le_of_ble_eq_true rfl⟩) ⟨fun a U g mk q => by obtain ⟨q0, q1, qT, qP, qK, qD⟩ := q; exact ⟨q0, q1, TW.same (u := U) (U := U.calling g mk a) rfl qT, qP, va_K.moved (u := U) (U := U.calling g mk a) (Vm.Alike.refl U.vm) qK, qD⟩, fun U hU hW => ⟨rfl, by rw [hU], by rw [hU]; exact TW.warm hW hT, by rw [hU]; exact hPc, va_K.moved hW.alike hKc, hDc.weaken (fun _ _ _ _ => trivial)⟩⟩ rfl rfl hl.1 rfl (lv_room (Nat.le_of_ble_eq_true rfl)) dX7_insert_7 ⟨Nat.le_of_ble_eq_true rfl, Nat.le_of_ble_eq_true rfl⟩) hS (fun q h9 h8 => absurd h8 (Nat.not_le_of_lt h9)) (fun q h8 => Nat.le_trans hS.1 h8) (fun q h9 h8 => absurd h8 (Nat.not_le_of_lt h9)) (fun E9 ce9 q9 u9 t9 H9 l9 ht9 hvm9 hu9 hE9 hz9 hk9 hS9 hce9 hcv9 hcl9 => vx_out (fun x h => (hcat x h).elim) hlocks hce9 hcv9 hcl9 (fun t8 ht8 ha8 => ⟨(), trivial, hE9, by rw [ht8]; exact hz9, fun q h1 h2 => by rw [ht8]; exact hk9 q h1 h2⟩) hS9.2.2 (Nat.le_of_ble_eq_true rfl) (Nat.le_of_ble_eq_true rfl)) (fun u9 t9 H9 l9 ht9 hvm9 hu9 hB9 hz9 hk9 hS9 => hu9.elim)
set_option maxHeartbeats 4000000 in
set_option maxRecDepth 100000 in
/-- delete_n0 throws IllegalArgumentException -/
theorem x_X7_delete_n0 (l : Launch) (hls : l.stackTraces = false) (dC : Nat → ClassId) (dI : Nat → Nat → Nat) (q : Nat) (s0 : Nat) (s1 : Nat) (s2 : Nat) (w : Int32) (sa sz : Nat) (hW : isN w = false) : vx_Met l yX7_delete wsX7_delete ({ frames := 7, cells := 1, slots := 6, locals := 102 }) (va_Pc [.ref q, .int (nI 0), .int w] (fun U => U.heap.size = sz ∧ TW "java/lang/IllegalArgumentException" 153 "the number is out of range" sa (fun q => sz ≤ q) U U.heap ∧ va_P (dC, dI) vwCl [(q, .inr (6, [.ref s0, .ref s1, .ref s2]))] U.heap ∧ va_K (dC, dI) vwCl [] U ∧ va_D (fun _ => True) [(q, .inr (6, [.ref s0, .ref s1, .ref s2]))])) (va_Qv (fun _ : Unit => False) (fun _ _ => True) (fun q => sz ≤ q)) (vx_X (fun _ : Unit => True) (fun E _ _ => E = "java/lang/IllegalArgumentException") (fun q => sz ≤ q)) 1 6 (fun q => sz ≤ q) := by
  refine vx_ofW (cc := cX7_delete) (maxL := 4) (ret := (some .boolean)) (by decide) rfl ?_
  intro p e s m args below meth c s₁ B hml hcat hv
  obtain ⟨rfl, hsz, hT, hP, hK, hD⟩ := hv
  have hx := B.exec
  have hb := B.bytes
  have hr := B.returns
  have hts := atoms_spec (ws := wsX7_delete) B.pre
  have hown : s.vm.findClass RX7 = some m.cls := findClass_of_methodNamed B.named
  have hlocks := B.notSynchronized
  subst hsz
  have hS : va_S (fun q => s.heap.size ≤ q) s.heap s.heap [] := va_S.rf
  have hP : va_P (dC, dI) vwCl [(q, .inr (6, [.ref s0, .ref s1, .ref s2]))] s.heap := hP
  have hl := lv_entry ([.ref q, .int (nI 0), .int w]) (n := 4) (Nat.le_of_ble_eq_true rfl)
  rw [lg_entry_eq]
  generalize (lg_sl ([.ref q, .int (nI 0), .int w]) ++ List.replicate (4 - (lg_sl ([.ref q, .int (nI 0), .int w])).length) Slot.unset).toArray = ls at hl ⊢
  have hl : lv_has ls 4 [(0, .ref q), (1, .int (nI 0)), (2, .int w)] := hl
  refine lv_aload_n hx hb dX7_delete_0 rfl (lv_at hl 0 rfl) ?_
  refine lv_iload_n hx hb dX7_delete_1 rfl (lv_at hl 1 rfl) ?_
  have hPc := hP.sub (ws' := [(q, .inr (6, [.ref s0, .ref s1, .ref s2]))]) [0] rfl
  have hKc := hK.sub (tys' := []) [] rfl
  refine va_csr (W.runV (As := [.int (nI 0)]) (rest := []) ⟨hx, hb, hml, hown, hts⟩ (c_X7_chosenSet_0 l dC dI q s0 s1 s2 ) (cwV 1 hts gX7_delete_X7_chosenSet rfl rfl rfl (by decide +kernel) ⟨Nat.le_of_ble_eq_true rfl, Nat.le_of_ble_eq_true rfl⟩) ⟨fun a U g mk q => by obtain ⟨q0, qP, qK⟩ := q; exact ⟨q0, qP, va_K.moved (u := U) (U := U.calling g mk a) (Vm.Alike.refl U.vm) qK⟩, va_recv hKc hPc (ci := 6) (q0 := 0) rfl rfl, fun U hU hW => ⟨rfl, by rw [hU]; exact hPc, va_K.moved hW.alike hKc⟩⟩ rfl rfl hl.1 rfl (lv_room (Nat.le_of_ble_eq_true rfl)) dX7_delete_2 ⟨Nat.le_of_ble_eq_true rfl, Nat.le_of_ble_eq_true rfl⟩) (fun r_2 hw_1 => ?_)
  have hw_1 := hw_1.symm
  subst hw_1
  refine lv_astore_n (lv' := [(3, .ref s0), (0, .ref q), (1, .int (nI 0)), (2, .int w)]) hx hb dX7_delete_5 rfl hl (by decide) rfl (fun ls hl => ?_)
  refine lv_iload_n hx hb dX7_delete_6 rfl (lv_at hl 3 rfl) ?_
  have hPc := hP.sub (ws' := []) [] rfl
  have hKc := hK.sub (tys' := []) [] rfl
  have hDc := hD.sub (ws' := []) [] (by decide) rfl
  exact vx_callv (vx_runS (As := [.int w]) (rest := []) ⟨hx, hb, hml, hown, hts⟩ (x_X7_needNumber l hls dC dI w sa s.heap.size (by first | assumption | omega)) (va_cwS 1 hts gX7_delete_X7_needNumber rfl rfl rfl (by decide +kernel) ⟨Nat.le_of_ble_eq_true rfl, Nat.le_of_ble_eq_true rfl⟩) ⟨fun a U g mk q => by obtain ⟨q0, q1, qT, qP, qK, qD⟩ := q; exact ⟨q0, q1, TW.same (u := U) (U := U.calling g mk a) rfl qT, qP, va_K.moved (u := U) (U := U.calling g mk a) (Vm.Alike.refl U.vm) qK, qD⟩, fun U hU hW => ⟨rfl, by rw [hU], by rw [hU]; exact TW.warm hW hT, by rw [hU]; exact hPc, va_K.moved hW.alike hKc, hDc.weaken (fun _ _ _ _ => trivial)⟩⟩ rfl rfl hl.1 rfl (lv_room (Nat.le_of_ble_eq_true rfl)) dX7_delete_7 ⟨Nat.le_of_ble_eq_true rfl, Nat.le_of_ble_eq_true rfl⟩) hS (fun q h9 h8 => absurd h8 (Nat.not_le_of_lt h9)) (fun q h8 => Nat.le_trans hS.1 h8) (fun q h9 h8 => absurd h8 (Nat.not_le_of_lt h9)) (fun E9 ce9 q9 u9 t9 H9 l9 ht9 hvm9 hu9 hE9 hz9 hk9 hS9 hce9 hcv9 hcl9 => vx_out (fun x h => (hcat x h).elim) hlocks hce9 hcv9 hcl9 (fun t8 ht8 ha8 => ⟨(), trivial, hE9, by rw [ht8]; exact hz9, fun q h1 h2 => by rw [ht8]; exact hk9 q h1 h2⟩) hS9.2.2 (Nat.le_of_ble_eq_true rfl) (Nat.le_of_ble_eq_true rfl)) (fun u9 t9 H9 l9 ht9 hvm9 hu9 hB9 hz9 hk9 hS9 => hu9.elim)
set_option maxHeartbeats 4000000 in
set_option maxRecDepth 100000 in
/-- contains_n0 throws IllegalArgumentException -/
theorem x_X7_contains_n0 (l : Launch) (hls : l.stackTraces = false) (dC : Nat → ClassId) (dI : Nat → Nat → Nat) (q : Nat) (s0 : Nat) (s1 : Nat) (s2 : Nat) (w : Int32) (sa sz : Nat) (hW : isN w = false) : vx_Met l yX7_contains wsX7_contains ({ frames := 7, cells := 1, slots := 6, locals := 102 }) (va_Pc [.ref q, .int (nI 0), .int w] (fun U => U.heap.size = sz ∧ TW "java/lang/IllegalArgumentException" 153 "the number is out of range" sa (fun q => sz ≤ q) U U.heap ∧ va_P (dC, dI) vwCl [(q, .inr (6, [.ref s0, .ref s1, .ref s2]))] U.heap ∧ va_K (dC, dI) vwCl [] U ∧ va_D (fun _ => True) [(q, .inr (6, [.ref s0, .ref s1, .ref s2]))])) (va_Qv (fun _ : Unit => False) (fun _ _ => True) (fun q => sz ≤ q)) (vx_X (fun _ : Unit => True) (fun E _ _ => E = "java/lang/IllegalArgumentException") (fun q => sz ≤ q)) 1 6 (fun q => sz ≤ q) := by
  refine vx_ofW (cc := cX7_contains) (maxL := 4) (ret := (some .boolean)) (by decide) rfl ?_
  intro p e s m args below meth c s₁ B hml hcat hv
  obtain ⟨rfl, hsz, hT, hP, hK, hD⟩ := hv
  have hx := B.exec
  have hb := B.bytes
  have hr := B.returns
  have hts := atoms_spec (ws := wsX7_contains) B.pre
  have hown : s.vm.findClass RX7 = some m.cls := findClass_of_methodNamed B.named
  have hlocks := B.notSynchronized
  subst hsz
  have hS : va_S (fun q => s.heap.size ≤ q) s.heap s.heap [] := va_S.rf
  have hP : va_P (dC, dI) vwCl [(q, .inr (6, [.ref s0, .ref s1, .ref s2]))] s.heap := hP
  have hl := lv_entry ([.ref q, .int (nI 0), .int w]) (n := 4) (Nat.le_of_ble_eq_true rfl)
  rw [lg_entry_eq]
  generalize (lg_sl ([.ref q, .int (nI 0), .int w]) ++ List.replicate (4 - (lg_sl ([.ref q, .int (nI 0), .int w])).length) Slot.unset).toArray = ls at hl ⊢
  have hl : lv_has ls 4 [(0, .ref q), (1, .int (nI 0)), (2, .int w)] := hl
  refine lv_aload_n hx hb dX7_contains_0 rfl (lv_at hl 0 rfl) ?_
  refine lv_iload_n hx hb dX7_contains_1 rfl (lv_at hl 1 rfl) ?_
  have hPc := hP.sub (ws' := [(q, .inr (6, [.ref s0, .ref s1, .ref s2]))]) [0] rfl
  have hKc := hK.sub (tys' := []) [] rfl
  refine va_csr (W.runV (As := [.int (nI 0)]) (rest := []) ⟨hx, hb, hml, hown, hts⟩ (c_X7_chosenSet_0 l dC dI q s0 s1 s2 ) (cwV 1 hts gX7_contains_X7_chosenSet rfl rfl rfl (by decide +kernel) ⟨Nat.le_of_ble_eq_true rfl, Nat.le_of_ble_eq_true rfl⟩) ⟨fun a U g mk q => by obtain ⟨q0, qP, qK⟩ := q; exact ⟨q0, qP, va_K.moved (u := U) (U := U.calling g mk a) (Vm.Alike.refl U.vm) qK⟩, va_recv hKc hPc (ci := 6) (q0 := 0) rfl rfl, fun U hU hW => ⟨rfl, by rw [hU]; exact hPc, va_K.moved hW.alike hKc⟩⟩ rfl rfl hl.1 rfl (lv_room (Nat.le_of_ble_eq_true rfl)) dX7_contains_2 ⟨Nat.le_of_ble_eq_true rfl, Nat.le_of_ble_eq_true rfl⟩) (fun r_2 hw_1 => ?_)
  have hw_1 := hw_1.symm
  subst hw_1
  refine lv_astore_n (lv' := [(3, .ref s0), (0, .ref q), (1, .int (nI 0)), (2, .int w)]) hx hb dX7_contains_5 rfl hl (by decide) rfl (fun ls hl => ?_)
  refine lv_iload_n hx hb dX7_contains_6 rfl (lv_at hl 3 rfl) ?_
  have hPc := hP.sub (ws' := []) [] rfl
  have hKc := hK.sub (tys' := []) [] rfl
  have hDc := hD.sub (ws' := []) [] (by decide) rfl
  exact vx_callv (vx_runS (As := [.int w]) (rest := []) ⟨hx, hb, hml, hown, hts⟩ (x_X7_needNumber l hls dC dI w sa s.heap.size (by first | assumption | omega)) (va_cwS 1 hts gX7_contains_X7_needNumber rfl rfl rfl (by decide +kernel) ⟨Nat.le_of_ble_eq_true rfl, Nat.le_of_ble_eq_true rfl⟩) ⟨fun a U g mk q => by obtain ⟨q0, q1, qT, qP, qK, qD⟩ := q; exact ⟨q0, q1, TW.same (u := U) (U := U.calling g mk a) rfl qT, qP, va_K.moved (u := U) (U := U.calling g mk a) (Vm.Alike.refl U.vm) qK, qD⟩, fun U hU hW => ⟨rfl, by rw [hU], by rw [hU]; exact TW.warm hW hT, by rw [hU]; exact hPc, va_K.moved hW.alike hKc, hDc.weaken (fun _ _ _ _ => trivial)⟩⟩ rfl rfl hl.1 rfl (lv_room (Nat.le_of_ble_eq_true rfl)) dX7_contains_7 ⟨Nat.le_of_ble_eq_true rfl, Nat.le_of_ble_eq_true rfl⟩) hS (fun q h9 h8 => absurd h8 (Nat.not_le_of_lt h9)) (fun q h8 => Nat.le_trans hS.1 h8) (fun q h9 h8 => absurd h8 (Nat.not_le_of_lt h9)) (fun E9 ce9 q9 u9 t9 H9 l9 ht9 hvm9 hu9 hE9 hz9 hk9 hS9 hce9 hcv9 hcl9 => vx_out (fun x h => (hcat x h).elim) hlocks hce9 hcv9 hcl9 (fun t8 ht8 ha8 => ⟨(), trivial, hE9, by rw [ht8]; exact hz9, fun q h1 h2 => by rw [ht8]; exact hk9 q h1 h2⟩) hS9.2.2 (Nat.le_of_ble_eq_true rfl) (Nat.le_of_ble_eq_true rfl)) (fun u9 t9 H9 l9 ht9 hvm9 hu9 hB9 hz9 hk9 hS9 => hu9.elim)
set_option maxHeartbeats 4000000 in
set_option maxRecDepth 100000 in
/-- successor_n0 throws IllegalArgumentException -/
theorem x_X7_successor_n0 (l : Launch) (hls : l.stackTraces = false) (dC : Nat → ClassId) (dI : Nat → Nat → Nat) (q : Nat) (s0 : Nat) (s1 : Nat) (s2 : Nat) (w : Int32) (sa sz : Nat) (hW : isN w = false) : vx_Met l yX7_successor wsX7_successor ({ frames := 7, cells := 1, slots := 6, locals := 102 }) (va_Pc [.ref q, .int (nI 0), .int w] (fun U => U.heap.size = sz ∧ TW "java/lang/IllegalArgumentException" 153 "the number is out of range" sa (fun q => sz ≤ q) U U.heap ∧ va_P (dC, dI) vwCl [(q, .inr (6, [.ref s0, .ref s1, .ref s2]))] U.heap ∧ va_K (dC, dI) vwCl [] U ∧ va_D (fun _ => True) [(q, .inr (6, [.ref s0, .ref s1, .ref s2]))])) (va_Qv (fun _ : Unit => False) (fun _ _ => True) (fun q => sz ≤ q)) (vx_X (fun _ : Unit => True) (fun E _ _ => E = "java/lang/IllegalArgumentException") (fun q => sz ≤ q)) 1 6 (fun q => sz ≤ q) := by
  refine vx_ofW (cc := cX7_successor) (maxL := 4) (ret := (some .int)) (by decide) rfl ?_
  intro p e s m args below meth c s₁ B hml hcat hv
  obtain ⟨rfl, hsz, hT, hP, hK, hD⟩ := hv
  have hx := B.exec
  have hb := B.bytes
  have hr := B.returns
  have hts := atoms_spec (ws := wsX7_successor) B.pre
  have hown : s.vm.findClass RX7 = some m.cls := findClass_of_methodNamed B.named
  have hlocks := B.notSynchronized
  subst hsz
  have hS : va_S (fun q => s.heap.size ≤ q) s.heap s.heap [] := va_S.rf
  have hP : va_P (dC, dI) vwCl [(q, .inr (6, [.ref s0, .ref s1, .ref s2]))] s.heap := hP
  have hl := lv_entry ([.ref q, .int (nI 0), .int w]) (n := 4) (Nat.le_of_ble_eq_true rfl)
  rw [lg_entry_eq]
  generalize (lg_sl ([.ref q, .int (nI 0), .int w]) ++ List.replicate (4 - (lg_sl ([.ref q, .int (nI 0), .int w])).length) Slot.unset).toArray = ls at hl ⊢
  have hl : lv_has ls 4 [(0, .ref q), (1, .int (nI 0)), (2, .int w)] := hl
  refine lv_aload_n hx hb dX7_successor_0 rfl (lv_at hl 0 rfl) ?_
  refine lv_iload_n hx hb dX7_successor_1 rfl (lv_at hl 1 rfl) ?_
  have hPc := hP.sub (ws' := [(q, .inr (6, [.ref s0, .ref s1, .ref s2]))]) [0] rfl
  have hKc := hK.sub (tys' := []) [] rfl
  refine va_csr (W.runV (As := [.int (nI 0)]) (rest := []) ⟨hx, hb, hml, hown, hts⟩ (c_X7_chosenSet_0 l dC dI q s0 s1 s2 ) (cwV 1 hts gX7_successor_X7_chosenSet rfl rfl rfl (by decide +kernel) ⟨Nat.le_of_ble_eq_true rfl, Nat.le_of_ble_eq_true rfl⟩) ⟨fun a U g mk q => by obtain ⟨q0, qP, qK⟩ := q; exact ⟨q0, qP, va_K.moved (u := U) (U := U.calling g mk a) (Vm.Alike.refl U.vm) qK⟩, va_recv hKc hPc (ci := 6) (q0 := 0) rfl rfl, fun U hU hW => ⟨rfl, by rw [hU]; exact hPc, va_K.moved hW.alike hKc⟩⟩ rfl rfl hl.1 rfl (lv_room (Nat.le_of_ble_eq_true rfl)) dX7_successor_2 ⟨Nat.le_of_ble_eq_true rfl, Nat.le_of_ble_eq_true rfl⟩) (fun r_2 hw_1 => ?_)
  have hw_1 := hw_1.symm
  subst hw_1
  refine lv_astore_n (lv' := [(3, .ref s0), (0, .ref q), (1, .int (nI 0)), (2, .int w)]) hx hb dX7_successor_5 rfl hl (by decide) rfl (fun ls hl => ?_)
  refine lv_iload_n hx hb dX7_successor_6 rfl (lv_at hl 3 rfl) ?_
  have hPc := hP.sub (ws' := []) [] rfl
  have hKc := hK.sub (tys' := []) [] rfl
  have hDc := hD.sub (ws' := []) [] (by decide) rfl
  exact vx_callv (vx_runS (As := [.int w]) (rest := []) ⟨hx, hb, hml, hown, hts⟩ (x_X7_needNumber l hls dC dI w sa s.heap.size (by first | assumption | omega)) (va_cwS 1 hts gX7_successor_X7_needNumber rfl rfl rfl (by decide +kernel) ⟨Nat.le_of_ble_eq_true rfl, Nat.le_of_ble_eq_true rfl⟩) ⟨fun a U g mk q => by obtain ⟨q0, q1, qT, qP, qK, qD⟩ := q; exact ⟨q0, q1, TW.same (u := U) (U := U.calling g mk a) rfl qT, qP, va_K.moved (u := U) (U := U.calling g mk a) (Vm.Alike.refl U.vm) qK, qD⟩, fun U hU hW => ⟨rfl, by rw [hU], by rw [hU]; exact TW.warm hW hT, by rw [hU]; exact hPc, va_K.moved hW.alike hKc, hDc.weaken (fun _ _ _ _ => trivial)⟩⟩ rfl rfl hl.1 rfl (lv_room (Nat.le_of_ble_eq_true rfl)) dX7_successor_7 ⟨Nat.le_of_ble_eq_true rfl, Nat.le_of_ble_eq_true rfl⟩) hS (fun q h9 h8 => absurd h8 (Nat.not_le_of_lt h9)) (fun q h8 => Nat.le_trans hS.1 h8) (fun q h9 h8 => absurd h8 (Nat.not_le_of_lt h9)) (fun E9 ce9 q9 u9 t9 H9 l9 ht9 hvm9 hu9 hE9 hz9 hk9 hS9 hce9 hcv9 hcl9 => vx_out (fun x h => (hcat x h).elim) hlocks hce9 hcv9 hcl9 (fun t8 ht8 ha8 => ⟨(), trivial, hE9, by rw [ht8]; exact hz9, fun q h1 h2 => by rw [ht8]; exact hk9 q h1 h2⟩) hS9.2.2 (Nat.le_of_ble_eq_true rfl) (Nat.le_of_ble_eq_true rfl)) (fun u9 t9 H9 l9 ht9 hvm9 hu9 hB9 hz9 hk9 hS9 => hu9.elim)
set_option maxHeartbeats 4000000 in
set_option maxRecDepth 100000 in
/-- predecessor_n0 throws IllegalArgumentException -/
theorem x_X7_predecessor_n0 (l : Launch) (hls : l.stackTraces = false) (dC : Nat → ClassId) (dI : Nat → Nat → Nat) (q : Nat) (s0 : Nat) (s1 : Nat) (s2 : Nat) (w : Int32) (sa sz : Nat) (hW : isN w = false) : vx_Met l yX7_predecessor wsX7_predecessor ({ frames := 7, cells := 1, slots := 6, locals := 102 }) (va_Pc [.ref q, .int (nI 0), .int w] (fun U => U.heap.size = sz ∧ TW "java/lang/IllegalArgumentException" 153 "the number is out of range" sa (fun q => sz ≤ q) U U.heap ∧ va_P (dC, dI) vwCl [(q, .inr (6, [.ref s0, .ref s1, .ref s2]))] U.heap ∧ va_K (dC, dI) vwCl [] U ∧ va_D (fun _ => True) [(q, .inr (6, [.ref s0, .ref s1, .ref s2]))])) (va_Qv (fun _ : Unit => False) (fun _ _ => True) (fun q => sz ≤ q)) (vx_X (fun _ : Unit => True) (fun E _ _ => E = "java/lang/IllegalArgumentException") (fun q => sz ≤ q)) 1 6 (fun q => sz ≤ q) := by
  refine vx_ofW (cc := cX7_predecessor) (maxL := 4) (ret := (some .int)) (by decide) rfl ?_
  intro p e s m args below meth c s₁ B hml hcat hv
  obtain ⟨rfl, hsz, hT, hP, hK, hD⟩ := hv
  have hx := B.exec
  have hb := B.bytes
  have hr := B.returns
  have hts := atoms_spec (ws := wsX7_predecessor) B.pre
  have hown : s.vm.findClass RX7 = some m.cls := findClass_of_methodNamed B.named
  have hlocks := B.notSynchronized
  subst hsz
  have hS : va_S (fun q => s.heap.size ≤ q) s.heap s.heap [] := va_S.rf
  have hP : va_P (dC, dI) vwCl [(q, .inr (6, [.ref s0, .ref s1, .ref s2]))] s.heap := hP
  have hl := lv_entry ([.ref q, .int (nI 0), .int w]) (n := 4) (Nat.le_of_ble_eq_true rfl)
  rw [lg_entry_eq]
  generalize (lg_sl ([.ref q, .int (nI 0), .int w]) ++ List.replicate (4 - (lg_sl ([.ref q, .int (nI 0), .int w])).length) Slot.unset).toArray = ls at hl ⊢
  have hl : lv_has ls 4 [(0, .ref q), (1, .int (nI 0)), (2, .int w)] := hl
  refine lv_aload_n hx hb dX7_predecessor_0 rfl (lv_at hl 0 rfl) ?_
  refine lv_iload_n hx hb dX7_predecessor_1 rfl (lv_at hl 1 rfl) ?_
  have hPc := hP.sub (ws' := [(q, .inr (6, [.ref s0, .ref s1, .ref s2]))]) [0] rfl
  have hKc := hK.sub (tys' := []) [] rfl
  refine va_csr (W.runV (As := [.int (nI 0)]) (rest := []) ⟨hx, hb, hml, hown, hts⟩ (c_X7_chosenSet_0 l dC dI q s0 s1 s2 ) (cwV 1 hts gX7_predecessor_X7_chosenSet rfl rfl rfl (by decide +kernel) ⟨Nat.le_of_ble_eq_true rfl, Nat.le_of_ble_eq_true rfl⟩) ⟨fun a U g mk q => by obtain ⟨q0, qP, qK⟩ := q; exact ⟨q0, qP, va_K.moved (u := U) (U := U.calling g mk a) (Vm.Alike.refl U.vm) qK⟩, va_recv hKc hPc (ci := 6) (q0 := 0) rfl rfl, fun U hU hW => ⟨rfl, by rw [hU]; exact hPc, va_K.moved hW.alike hKc⟩⟩ rfl rfl hl.1 rfl (lv_room (Nat.le_of_ble_eq_true rfl)) dX7_predecessor_2 ⟨Nat.le_of_ble_eq_true rfl, Nat.le_of_ble_eq_true rfl⟩) (fun r_2 hw_1 => ?_)
  have hw_1 := hw_1.symm
  subst hw_1
  refine lv_astore_n (lv' := [(3, .ref s0), (0, .ref q), (1, .int (nI 0)), (2, .int w)]) hx hb dX7_predecessor_5 rfl hl (by decide) rfl (fun ls hl => ?_)
  refine lv_iload_n hx hb dX7_predecessor_6 rfl (lv_at hl 3 rfl) ?_
  have hPc := hP.sub (ws' := []) [] rfl
  have hKc := hK.sub (tys' := []) [] rfl
  have hDc := hD.sub (ws' := []) [] (by decide) rfl
  exact vx_callv (vx_runS (As := [.int w]) (rest := []) ⟨hx, hb, hml, hown, hts⟩ (x_X7_needNumber l hls dC dI w sa s.heap.size (by first | assumption | omega)) (va_cwS 1 hts gX7_predecessor_X7_needNumber rfl rfl rfl (by decide +kernel) ⟨Nat.le_of_ble_eq_true rfl, Nat.le_of_ble_eq_true rfl⟩) ⟨fun a U g mk q => by obtain ⟨q0, q1, qT, qP, qK, qD⟩ := q; exact ⟨q0, q1, TW.same (u := U) (U := U.calling g mk a) rfl qT, qP, va_K.moved (u := U) (U := U.calling g mk a) (Vm.Alike.refl U.vm) qK, qD⟩, fun U hU hW => ⟨rfl, by rw [hU], by rw [hU]; exact TW.warm hW hT, by rw [hU]; exact hPc, va_K.moved hW.alike hKc, hDc.weaken (fun _ _ _ _ => trivial)⟩⟩ rfl rfl hl.1 rfl (lv_room (Nat.le_of_ble_eq_true rfl)) dX7_predecessor_7 ⟨Nat.le_of_ble_eq_true rfl, Nat.le_of_ble_eq_true rfl⟩) hS (fun q h9 h8 => absurd h8 (Nat.not_le_of_lt h9)) (fun q h8 => Nat.le_trans hS.1 h8) (fun q h9 h8 => absurd h8 (Nat.not_le_of_lt h9)) (fun E9 ce9 q9 u9 t9 H9 l9 ht9 hvm9 hu9 hE9 hz9 hk9 hS9 hce9 hcv9 hcl9 => vx_out (fun x h => (hcat x h).elim) hlocks hce9 hcv9 hcl9 (fun t8 ht8 ha8 => ⟨(), trivial, hE9, by rw [ht8]; exact hz9, fun q h1 h2 => by rw [ht8]; exact hk9 q h1 h2⟩) hS9.2.2 (Nat.le_of_ble_eq_true rfl) (Nat.le_of_ble_eq_true rfl)) (fun u9 t9 H9 l9 ht9 hvm9 hu9 hB9 hz9 hk9 hS9 => hu9.elim)
set_option maxHeartbeats 4000000 in
set_option maxRecDepth 100000 in
/-- rank_n0 throws IllegalArgumentException -/
theorem x_X7_rank_n0 (l : Launch) (hls : l.stackTraces = false) (dC : Nat → ClassId) (dI : Nat → Nat → Nat) (q : Nat) (s0 : Nat) (s1 : Nat) (s2 : Nat) (w : Int32) (sa sz : Nat) (hW : isN w = false) : vx_Met l yX7_rank wsX7_rank ({ frames := 7, cells := 1, slots := 6, locals := 102 }) (va_Pc [.ref q, .int (nI 0), .int w] (fun U => U.heap.size = sz ∧ TW "java/lang/IllegalArgumentException" 153 "the number is out of range" sa (fun q => sz ≤ q) U U.heap ∧ va_P (dC, dI) vwCl [(q, .inr (6, [.ref s0, .ref s1, .ref s2]))] U.heap ∧ va_K (dC, dI) vwCl [] U ∧ va_D (fun _ => True) [(q, .inr (6, [.ref s0, .ref s1, .ref s2]))])) (va_Qv (fun _ : Unit => False) (fun _ _ => True) (fun q => sz ≤ q)) (vx_X (fun _ : Unit => True) (fun E _ _ => E = "java/lang/IllegalArgumentException") (fun q => sz ≤ q)) 1 6 (fun q => sz ≤ q) := by
  refine vx_ofW (cc := cX7_rank) (maxL := 4) (ret := (some .int)) (by decide) rfl ?_
  intro p e s m args below meth c s₁ B hml hcat hv
  obtain ⟨rfl, hsz, hT, hP, hK, hD⟩ := hv
  have hx := B.exec
  have hb := B.bytes
  have hr := B.returns
  have hts := atoms_spec (ws := wsX7_rank) B.pre
  have hown : s.vm.findClass RX7 = some m.cls := findClass_of_methodNamed B.named
  have hlocks := B.notSynchronized
  subst hsz
  have hS : va_S (fun q => s.heap.size ≤ q) s.heap s.heap [] := va_S.rf
  have hP : va_P (dC, dI) vwCl [(q, .inr (6, [.ref s0, .ref s1, .ref s2]))] s.heap := hP
  have hl := lv_entry ([.ref q, .int (nI 0), .int w]) (n := 4) (Nat.le_of_ble_eq_true rfl)
  rw [lg_entry_eq]
  generalize (lg_sl ([.ref q, .int (nI 0), .int w]) ++ List.replicate (4 - (lg_sl ([.ref q, .int (nI 0), .int w])).length) Slot.unset).toArray = ls at hl ⊢
  have hl : lv_has ls 4 [(0, .ref q), (1, .int (nI 0)), (2, .int w)] := hl
  refine lv_aload_n hx hb dX7_rank_0 rfl (lv_at hl 0 rfl) ?_
  refine lv_iload_n hx hb dX7_rank_1 rfl (lv_at hl 1 rfl) ?_
  have hPc := hP.sub (ws' := [(q, .inr (6, [.ref s0, .ref s1, .ref s2]))]) [0] rfl
  have hKc := hK.sub (tys' := []) [] rfl
  refine va_csr (W.runV (As := [.int (nI 0)]) (rest := []) ⟨hx, hb, hml, hown, hts⟩ (c_X7_chosenSet_0 l dC dI q s0 s1 s2 ) (cwV 1 hts gX7_rank_X7_chosenSet rfl rfl rfl (by decide +kernel) ⟨Nat.le_of_ble_eq_true rfl, Nat.le_of_ble_eq_true rfl⟩) ⟨fun a U g mk q => by obtain ⟨q0, qP, qK⟩ := q; exact ⟨q0, qP, va_K.moved (u := U) (U := U.calling g mk a) (Vm.Alike.refl U.vm) qK⟩, va_recv hKc hPc (ci := 6) (q0 := 0) rfl rfl, fun U hU hW => ⟨rfl, by rw [hU]; exact hPc, va_K.moved hW.alike hKc⟩⟩ rfl rfl hl.1 rfl (lv_room (Nat.le_of_ble_eq_true rfl)) dX7_rank_2 ⟨Nat.le_of_ble_eq_true rfl, Nat.le_of_ble_eq_true rfl⟩) (fun r_2 hw_1 => ?_)
  have hw_1 := hw_1.symm
  subst hw_1
  refine lv_astore_n (lv' := [(3, .ref s0), (0, .ref q), (1, .int (nI 0)), (2, .int w)]) hx hb dX7_rank_5 rfl hl (by decide) rfl (fun ls hl => ?_)
  refine lv_iload_n hx hb dX7_rank_6 rfl (lv_at hl 3 rfl) ?_
  have hPc := hP.sub (ws' := []) [] rfl
  have hKc := hK.sub (tys' := []) [] rfl
  have hDc := hD.sub (ws' := []) [] (by decide) rfl
  exact vx_callv (vx_runS (As := [.int w]) (rest := []) ⟨hx, hb, hml, hown, hts⟩ (x_X7_needNumber l hls dC dI w sa s.heap.size (by first | assumption | omega)) (va_cwS 1 hts gX7_rank_X7_needNumber rfl rfl rfl (by decide +kernel) ⟨Nat.le_of_ble_eq_true rfl, Nat.le_of_ble_eq_true rfl⟩) ⟨fun a U g mk q => by obtain ⟨q0, q1, qT, qP, qK, qD⟩ := q; exact ⟨q0, q1, TW.same (u := U) (U := U.calling g mk a) rfl qT, qP, va_K.moved (u := U) (U := U.calling g mk a) (Vm.Alike.refl U.vm) qK, qD⟩, fun U hU hW => ⟨rfl, by rw [hU], by rw [hU]; exact TW.warm hW hT, by rw [hU]; exact hPc, va_K.moved hW.alike hKc, hDc.weaken (fun _ _ _ _ => trivial)⟩⟩ rfl rfl hl.1 rfl (lv_room (Nat.le_of_ble_eq_true rfl)) dX7_rank_7 ⟨Nat.le_of_ble_eq_true rfl, Nat.le_of_ble_eq_true rfl⟩) hS (fun q h9 h8 => absurd h8 (Nat.not_le_of_lt h9)) (fun q h8 => Nat.le_trans hS.1 h8) (fun q h9 h8 => absurd h8 (Nat.not_le_of_lt h9)) (fun E9 ce9 q9 u9 t9 H9 l9 ht9 hvm9 hu9 hE9 hz9 hk9 hS9 hce9 hcv9 hcl9 => vx_out (fun x h => (hcat x h).elim) hlocks hce9 hcv9 hcl9 (fun t8 ht8 ha8 => ⟨(), trivial, hE9, by rw [ht8]; exact hz9, fun q h1 h2 => by rw [ht8]; exact hk9 q h1 h2⟩) hS9.2.2 (Nat.le_of_ble_eq_true rfl) (Nat.le_of_ble_eq_true rfl)) (fun u9 t9 H9 l9 ht9 hvm9 hu9 hB9 hz9 hk9 hS9 => hu9.elim)
set_option maxHeartbeats 4000000 in
set_option maxRecDepth 100000 in
/-- steps_n0 throws IllegalArgumentException -/
theorem x_X7_steps_n0 (l : Launch) (hls : l.stackTraces = false) (dC : Nat → ClassId) (dI : Nat → Nat → Nat) (q : Nat) (s0 : Nat) (s1 : Nat) (s2 : Nat) (w : Int32) (sa sz : Nat) (hW : isN w = false) : vx_Met l yX7_steps wsX7_steps ({ frames := 7, cells := 1, slots := 6, locals := 102 }) (va_Pc [.ref q, .int (nI 0), .int w] (fun U => U.heap.size = sz ∧ TW "java/lang/IllegalArgumentException" 153 "the number is out of range" sa (fun q => sz ≤ q) U U.heap ∧ va_P (dC, dI) vwCl [(q, .inr (6, [.ref s0, .ref s1, .ref s2]))] U.heap ∧ va_K (dC, dI) vwCl [] U ∧ va_D (fun _ => True) [(q, .inr (6, [.ref s0, .ref s1, .ref s2]))])) (va_Qv (fun _ : Unit => False) (fun _ _ => True) (fun q => sz ≤ q)) (vx_X (fun _ : Unit => True) (fun E _ _ => E = "java/lang/IllegalArgumentException") (fun q => sz ≤ q)) 1 6 (fun q => sz ≤ q) := by
  refine vx_ofW (cc := cX7_steps) (maxL := 4) (ret := (some .int)) (by decide) rfl ?_
  intro p e s m args below meth c s₁ B hml hcat hv
  obtain ⟨rfl, hsz, hT, hP, hK, hD⟩ := hv
  have hx := B.exec
  have hb := B.bytes
  have hr := B.returns
  have hts := atoms_spec (ws := wsX7_steps) B.pre
  have hown : s.vm.findClass RX7 = some m.cls := findClass_of_methodNamed B.named
  have hlocks := B.notSynchronized
  subst hsz
  have hS : va_S (fun q => s.heap.size ≤ q) s.heap s.heap [] := va_S.rf
  have hP : va_P (dC, dI) vwCl [(q, .inr (6, [.ref s0, .ref s1, .ref s2]))] s.heap := hP
  have hl := lv_entry ([.ref q, .int (nI 0), .int w]) (n := 4) (Nat.le_of_ble_eq_true rfl)
  rw [lg_entry_eq]
  generalize (lg_sl ([.ref q, .int (nI 0), .int w]) ++ List.replicate (4 - (lg_sl ([.ref q, .int (nI 0), .int w])).length) Slot.unset).toArray = ls at hl ⊢
  have hl : lv_has ls 4 [(0, .ref q), (1, .int (nI 0)), (2, .int w)] := hl
  refine lv_aload_n hx hb dX7_steps_0 rfl (lv_at hl 0 rfl) ?_
  refine lv_iload_n hx hb dX7_steps_1 rfl (lv_at hl 1 rfl) ?_
  have hPc := hP.sub (ws' := [(q, .inr (6, [.ref s0, .ref s1, .ref s2]))]) [0] rfl
  have hKc := hK.sub (tys' := []) [] rfl
  refine va_csr (W.runV (As := [.int (nI 0)]) (rest := []) ⟨hx, hb, hml, hown, hts⟩ (c_X7_chosenSet_0 l dC dI q s0 s1 s2 ) (cwV 1 hts gX7_steps_X7_chosenSet rfl rfl rfl (by decide +kernel) ⟨Nat.le_of_ble_eq_true rfl, Nat.le_of_ble_eq_true rfl⟩) ⟨fun a U g mk q => by obtain ⟨q0, qP, qK⟩ := q; exact ⟨q0, qP, va_K.moved (u := U) (U := U.calling g mk a) (Vm.Alike.refl U.vm) qK⟩, va_recv hKc hPc (ci := 6) (q0 := 0) rfl rfl, fun U hU hW => ⟨rfl, by rw [hU]; exact hPc, va_K.moved hW.alike hKc⟩⟩ rfl rfl hl.1 rfl (lv_room (Nat.le_of_ble_eq_true rfl)) dX7_steps_2 ⟨Nat.le_of_ble_eq_true rfl, Nat.le_of_ble_eq_true rfl⟩) (fun r_2 hw_1 => ?_)
  have hw_1 := hw_1.symm
  subst hw_1
  refine lv_astore_n (lv' := [(3, .ref s0), (0, .ref q), (1, .int (nI 0)), (2, .int w)]) hx hb dX7_steps_5 rfl hl (by decide) rfl (fun ls hl => ?_)
  refine lv_iload_n hx hb dX7_steps_6 rfl (lv_at hl 3 rfl) ?_
  have hPc := hP.sub (ws' := []) [] rfl
  have hKc := hK.sub (tys' := []) [] rfl
  have hDc := hD.sub (ws' := []) [] (by decide) rfl
  exact vx_callv (vx_runS (As := [.int w]) (rest := []) ⟨hx, hb, hml, hown, hts⟩ (x_X7_needNumber l hls dC dI w sa s.heap.size (by first | assumption | omega)) (va_cwS 1 hts gX7_steps_X7_needNumber rfl rfl rfl (by decide +kernel) ⟨Nat.le_of_ble_eq_true rfl, Nat.le_of_ble_eq_true rfl⟩) ⟨fun a U g mk q => by obtain ⟨q0, q1, qT, qP, qK, qD⟩ := q; exact ⟨q0, q1, TW.same (u := U) (U := U.calling g mk a) rfl qT, qP, va_K.moved (u := U) (U := U.calling g mk a) (Vm.Alike.refl U.vm) qK, qD⟩, fun U hU hW => ⟨rfl, by rw [hU], by rw [hU]; exact TW.warm hW hT, by rw [hU]; exact hPc, va_K.moved hW.alike hKc, hDc.weaken (fun _ _ _ _ => trivial)⟩⟩ rfl rfl hl.1 rfl (lv_room (Nat.le_of_ble_eq_true rfl)) dX7_steps_7 ⟨Nat.le_of_ble_eq_true rfl, Nat.le_of_ble_eq_true rfl⟩) hS (fun q h9 h8 => absurd h8 (Nat.not_le_of_lt h9)) (fun q h8 => Nat.le_trans hS.1 h8) (fun q h9 h8 => absurd h8 (Nat.not_le_of_lt h9)) (fun E9 ce9 q9 u9 t9 H9 l9 ht9 hvm9 hu9 hE9 hz9 hk9 hS9 hce9 hcv9 hcl9 => vx_out (fun x h => (hcat x h).elim) hlocks hce9 hcv9 hcl9 (fun t8 ht8 ha8 => ⟨(), trivial, hE9, by rw [ht8]; exact hz9, fun q h1 h2 => by rw [ht8]; exact hk9 q h1 h2⟩) hS9.2.2 (Nat.le_of_ble_eq_true rfl) (Nat.le_of_ble_eq_true rfl)) (fun u9 t9 H9 l9 ht9 hvm9 hu9 hB9 hz9 hk9 hS9 => hu9.elim)
set_option maxHeartbeats 4000000 in
set_option maxRecDepth 100000 in
/-- longestMatch_n0 throws IllegalArgumentException -/
theorem x_X7_longestMatch_n0 (l : Launch) (hls : l.stackTraces = false) (dC : Nat → ClassId) (dI : Nat → Nat → Nat) (q : Nat) (s0 : Nat) (s1 : Nat) (s2 : Nat) (w : Int32) (sa sz : Nat) (hW : isN w = false) : vx_Met l yX7_longestMatch wsX7_longestMatch ({ frames := 7, cells := 1, slots := 6, locals := 102 }) (va_Pc [.ref q, .int (nI 0), .int w] (fun U => U.heap.size = sz ∧ TW "java/lang/IllegalArgumentException" 153 "the number is out of range" sa (fun q => sz ≤ q) U U.heap ∧ va_P (dC, dI) vwCl [(q, .inr (6, [.ref s0, .ref s1, .ref s2]))] U.heap ∧ va_K (dC, dI) vwCl [] U ∧ va_D (fun _ => True) [(q, .inr (6, [.ref s0, .ref s1, .ref s2]))])) (va_Qv (fun _ : Unit => False) (fun _ _ => True) (fun q => sz ≤ q)) (vx_X (fun _ : Unit => True) (fun E _ _ => E = "java/lang/IllegalArgumentException") (fun q => sz ≤ q)) 1 6 (fun q => sz ≤ q) := by
  refine vx_ofW (cc := cX7_longestMatch) (maxL := 4) (ret := (some .int)) (by decide) rfl ?_
  intro p e s m args below meth c s₁ B hml hcat hv
  obtain ⟨rfl, hsz, hT, hP, hK, hD⟩ := hv
  have hx := B.exec
  have hb := B.bytes
  have hr := B.returns
  have hts := atoms_spec (ws := wsX7_longestMatch) B.pre
  have hown : s.vm.findClass RX7 = some m.cls := findClass_of_methodNamed B.named
  have hlocks := B.notSynchronized
  subst hsz
  have hS : va_S (fun q => s.heap.size ≤ q) s.heap s.heap [] := va_S.rf
  have hP : va_P (dC, dI) vwCl [(q, .inr (6, [.ref s0, .ref s1, .ref s2]))] s.heap := hP
  have hl := lv_entry ([.ref q, .int (nI 0), .int w]) (n := 4) (Nat.le_of_ble_eq_true rfl)
  rw [lg_entry_eq]
  generalize (lg_sl ([.ref q, .int (nI 0), .int w]) ++ List.replicate (4 - (lg_sl ([.ref q, .int (nI 0), .int w])).length) Slot.unset).toArray = ls at hl ⊢
  have hl : lv_has ls 4 [(0, .ref q), (1, .int (nI 0)), (2, .int w)] := hl
  refine lv_aload_n hx hb dX7_longestMatch_0 rfl (lv_at hl 0 rfl) ?_
  refine lv_iload_n hx hb dX7_longestMatch_1 rfl (lv_at hl 1 rfl) ?_
  have hPc := hP.sub (ws' := [(q, .inr (6, [.ref s0, .ref s1, .ref s2]))]) [0] rfl
  have hKc := hK.sub (tys' := []) [] rfl
  refine va_csr (W.runV (As := [.int (nI 0)]) (rest := []) ⟨hx, hb, hml, hown, hts⟩ (c_X7_chosenSet_0 l dC dI q s0 s1 s2 ) (cwV 1 hts gX7_longestMatch_X7_chosenSet rfl rfl rfl (by decide +kernel) ⟨Nat.le_of_ble_eq_true rfl, Nat.le_of_ble_eq_true rfl⟩) ⟨fun a U g mk q => by obtain ⟨q0, qP, qK⟩ := q; exact ⟨q0, qP, va_K.moved (u := U) (U := U.calling g mk a) (Vm.Alike.refl U.vm) qK⟩, va_recv hKc hPc (ci := 6) (q0 := 0) rfl rfl, fun U hU hW => ⟨rfl, by rw [hU]; exact hPc, va_K.moved hW.alike hKc⟩⟩ rfl rfl hl.1 rfl (lv_room (Nat.le_of_ble_eq_true rfl)) dX7_longestMatch_2 ⟨Nat.le_of_ble_eq_true rfl, Nat.le_of_ble_eq_true rfl⟩) (fun r_2 hw_1 => ?_)
  have hw_1 := hw_1.symm
  subst hw_1
  refine lv_astore_n (lv' := [(3, .ref s0), (0, .ref q), (1, .int (nI 0)), (2, .int w)]) hx hb dX7_longestMatch_5 rfl hl (by decide) rfl (fun ls hl => ?_)
  refine lv_iload_n hx hb dX7_longestMatch_6 rfl (lv_at hl 3 rfl) ?_
  have hPc := hP.sub (ws' := []) [] rfl
  have hKc := hK.sub (tys' := []) [] rfl
  have hDc := hD.sub (ws' := []) [] (by decide) rfl
  exact vx_callv (vx_runS (As := [.int w]) (rest := []) ⟨hx, hb, hml, hown, hts⟩ (x_X7_needNumber l hls dC dI w sa s.heap.size (by first | assumption | omega)) (va_cwS 1 hts gX7_longestMatch_X7_needNumber rfl rfl rfl (by decide +kernel) ⟨Nat.le_of_ble_eq_true rfl, Nat.le_of_ble_eq_true rfl⟩) ⟨fun a U g mk q => by obtain ⟨q0, q1, qT, qP, qK, qD⟩ := q; exact ⟨q0, q1, TW.same (u := U) (U := U.calling g mk a) rfl qT, qP, va_K.moved (u := U) (U := U.calling g mk a) (Vm.Alike.refl U.vm) qK, qD⟩, fun U hU hW => ⟨rfl, by rw [hU], by rw [hU]; exact TW.warm hW hT, by rw [hU]; exact hPc, va_K.moved hW.alike hKc, hDc.weaken (fun _ _ _ _ => trivial)⟩⟩ rfl rfl hl.1 rfl (lv_room (Nat.le_of_ble_eq_true rfl)) dX7_longestMatch_7 ⟨Nat.le_of_ble_eq_true rfl, Nat.le_of_ble_eq_true rfl⟩) hS (fun q h9 h8 => absurd h8 (Nat.not_le_of_lt h9)) (fun q h8 => Nat.le_trans hS.1 h8) (fun q h9 h8 => absurd h8 (Nat.not_le_of_lt h9)) (fun E9 ce9 q9 u9 t9 H9 l9 ht9 hvm9 hu9 hE9 hz9 hk9 hS9 hce9 hcv9 hcl9 => vx_out (fun x h => (hcat x h).elim) hlocks hce9 hcv9 hcl9 (fun t8 ht8 ha8 => ⟨(), trivial, hE9, by rw [ht8]; exact hz9, fun q h1 h2 => by rw [ht8]; exact hk9 q h1 h2⟩) hS9.2.2 (Nat.le_of_ble_eq_true rfl) (Nat.le_of_ble_eq_true rfl)) (fun u9 t9 H9 l9 ht9 hvm9 hu9 hB9 hz9 hk9 hS9 => hu9.elim)
set_option maxHeartbeats 4000000 in
set_option maxRecDepth 100000 in
/-- probes_n0 throws IllegalArgumentException -/
theorem x_X7_probes_n0 (l : Launch) (hls : l.stackTraces = false) (dC : Nat → ClassId) (dI : Nat → Nat → Nat) (q : Nat) (s0 : Nat) (s1 : Nat) (s2 : Nat) (w : Int32) (sa sz : Nat) (hW : isN w = false) : vx_Met l yX7_probes wsX7_probes ({ frames := 7, cells := 1, slots := 6, locals := 102 }) (va_Pc [.ref q, .int (nI 0), .int w] (fun U => U.heap.size = sz ∧ TW "java/lang/IllegalArgumentException" 153 "the number is out of range" sa (fun q => sz ≤ q) U U.heap ∧ va_P (dC, dI) vwCl [(q, .inr (6, [.ref s0, .ref s1, .ref s2]))] U.heap ∧ va_K (dC, dI) vwCl [] U ∧ va_D (fun _ => True) [(q, .inr (6, [.ref s0, .ref s1, .ref s2]))])) (va_Qv (fun _ : Unit => False) (fun _ _ => True) (fun q => sz ≤ q)) (vx_X (fun _ : Unit => True) (fun E _ _ => E = "java/lang/IllegalArgumentException") (fun q => sz ≤ q)) 1 6 (fun q => sz ≤ q) := by
  refine vx_ofW (cc := cX7_probes) (maxL := 4) (ret := (some .int)) (by decide) rfl ?_
  intro p e s m args below meth c s₁ B hml hcat hv
  obtain ⟨rfl, hsz, hT, hP, hK, hD⟩ := hv
  have hx := B.exec
  have hb := B.bytes
  have hr := B.returns
  have hts := atoms_spec (ws := wsX7_probes) B.pre
  have hown : s.vm.findClass RX7 = some m.cls := findClass_of_methodNamed B.named
  have hlocks := B.notSynchronized
  subst hsz
  have hS : va_S (fun q => s.heap.size ≤ q) s.heap s.heap [] := va_S.rf
  have hP : va_P (dC, dI) vwCl [(q, .inr (6, [.ref s0, .ref s1, .ref s2]))] s.heap := hP
  have hl := lv_entry ([.ref q, .int (nI 0), .int w]) (n := 4) (Nat.le_of_ble_eq_true rfl)
  rw [lg_entry_eq]
  generalize (lg_sl ([.ref q, .int (nI 0), .int w]) ++ List.replicate (4 - (lg_sl ([.ref q, .int (nI 0), .int w])).length) Slot.unset).toArray = ls at hl ⊢
  have hl : lv_has ls 4 [(0, .ref q), (1, .int (nI 0)), (2, .int w)] := hl
  refine lv_aload_n hx hb dX7_probes_0 rfl (lv_at hl 0 rfl) ?_
  refine lv_iload_n hx hb dX7_probes_1 rfl (lv_at hl 1 rfl) ?_
  have hPc := hP.sub (ws' := [(q, .inr (6, [.ref s0, .ref s1, .ref s2]))]) [0] rfl
  have hKc := hK.sub (tys' := []) [] rfl
  refine va_csr (W.runV (As := [.int (nI 0)]) (rest := []) ⟨hx, hb, hml, hown, hts⟩ (c_X7_chosenSet_0 l dC dI q s0 s1 s2 ) (cwV 1 hts gX7_probes_X7_chosenSet rfl rfl rfl (by decide +kernel) ⟨Nat.le_of_ble_eq_true rfl, Nat.le_of_ble_eq_true rfl⟩) ⟨fun a U g mk q => by obtain ⟨q0, qP, qK⟩ := q; exact ⟨q0, qP, va_K.moved (u := U) (U := U.calling g mk a) (Vm.Alike.refl U.vm) qK⟩, va_recv hKc hPc (ci := 6) (q0 := 0) rfl rfl, fun U hU hW => ⟨rfl, by rw [hU]; exact hPc, va_K.moved hW.alike hKc⟩⟩ rfl rfl hl.1 rfl (lv_room (Nat.le_of_ble_eq_true rfl)) dX7_probes_2 ⟨Nat.le_of_ble_eq_true rfl, Nat.le_of_ble_eq_true rfl⟩) (fun r_2 hw_1 => ?_)
  have hw_1 := hw_1.symm
  subst hw_1
  refine lv_astore_n (lv' := [(3, .ref s0), (0, .ref q), (1, .int (nI 0)), (2, .int w)]) hx hb dX7_probes_5 rfl hl (by decide) rfl (fun ls hl => ?_)
  refine lv_iload_n hx hb dX7_probes_6 rfl (lv_at hl 3 rfl) ?_
  have hPc := hP.sub (ws' := []) [] rfl
  have hKc := hK.sub (tys' := []) [] rfl
  have hDc := hD.sub (ws' := []) [] (by decide) rfl
  exact vx_callv (vx_runS (As := [.int w]) (rest := []) ⟨hx, hb, hml, hown, hts⟩ (x_X7_needNumber l hls dC dI w sa s.heap.size (by first | assumption | omega)) (va_cwS 1 hts gX7_probes_X7_needNumber rfl rfl rfl (by decide +kernel) ⟨Nat.le_of_ble_eq_true rfl, Nat.le_of_ble_eq_true rfl⟩) ⟨fun a U g mk q => by obtain ⟨q0, q1, qT, qP, qK, qD⟩ := q; exact ⟨q0, q1, TW.same (u := U) (U := U.calling g mk a) rfl qT, qP, va_K.moved (u := U) (U := U.calling g mk a) (Vm.Alike.refl U.vm) qK, qD⟩, fun U hU hW => ⟨rfl, by rw [hU], by rw [hU]; exact TW.warm hW hT, by rw [hU]; exact hPc, va_K.moved hW.alike hKc, hDc.weaken (fun _ _ _ _ => trivial)⟩⟩ rfl rfl hl.1 rfl (lv_room (Nat.le_of_ble_eq_true rfl)) dX7_probes_7 ⟨Nat.le_of_ble_eq_true rfl, Nat.le_of_ble_eq_true rfl⟩) hS (fun q h9 h8 => absurd h8 (Nat.not_le_of_lt h9)) (fun q h8 => Nat.le_trans hS.1 h8) (fun q h9 h8 => absurd h8 (Nat.not_le_of_lt h9)) (fun E9 ce9 q9 u9 t9 H9 l9 ht9 hvm9 hu9 hE9 hz9 hk9 hS9 hce9 hcv9 hcl9 => vx_out (fun x h => (hcat x h).elim) hlocks hce9 hcv9 hcl9 (fun t8 ht8 ha8 => ⟨(), trivial, hE9, by rw [ht8]; exact hz9, fun q h1 h2 => by rw [ht8]; exact hk9 q h1 h2⟩) hS9.2.2 (Nat.le_of_ble_eq_true rfl) (Nat.le_of_ble_eq_true rfl)) (fun u9 t9 H9 l9 ht9 hvm9 hu9 hB9 hz9 hk9 hS9 => hu9.elim)
set_option maxHeartbeats 4000000 in
set_option maxRecDepth 100000 in
/-- bucketOf_n0 throws IllegalArgumentException -/
theorem x_X7_bucketOf_n0 (l : Launch) (hls : l.stackTraces = false) (dC : Nat → ClassId) (dI : Nat → Nat → Nat) (q : Nat) (s0 : Nat) (s1 : Nat) (s2 : Nat) (w : Int32) (sa sz : Nat) (hW : isN w = false) : vx_Met l yX7_bucketOf wsX7_bucketOf ({ frames := 7, cells := 1, slots := 6, locals := 102 }) (va_Pc [.ref q, .int (nI 0), .int w] (fun U => U.heap.size = sz ∧ TW "java/lang/IllegalArgumentException" 153 "the number is out of range" sa (fun q => sz ≤ q) U U.heap ∧ va_P (dC, dI) vwCl [(q, .inr (6, [.ref s0, .ref s1, .ref s2]))] U.heap ∧ va_K (dC, dI) vwCl [] U ∧ va_D (fun _ => True) [(q, .inr (6, [.ref s0, .ref s1, .ref s2]))])) (va_Qv (fun _ : Unit => False) (fun _ _ => True) (fun q => sz ≤ q)) (vx_X (fun _ : Unit => True) (fun E _ _ => E = "java/lang/IllegalArgumentException") (fun q => sz ≤ q)) 1 6 (fun q => sz ≤ q) := by
  refine vx_ofW (cc := cX7_bucketOf) (maxL := 4) (ret := (some .int)) (by decide) rfl ?_
  intro p e s m args below meth c s₁ B hml hcat hv
  obtain ⟨rfl, hsz, hT, hP, hK, hD⟩ := hv
  have hx := B.exec
  have hb := B.bytes
  have hr := B.returns
  have hts := atoms_spec (ws := wsX7_bucketOf) B.pre
  have hown : s.vm.findClass RX7 = some m.cls := findClass_of_methodNamed B.named
  have hlocks := B.notSynchronized
  subst hsz
  have hS : va_S (fun q => s.heap.size ≤ q) s.heap s.heap [] := va_S.rf
  have hP : va_P (dC, dI) vwCl [(q, .inr (6, [.ref s0, .ref s1, .ref s2]))] s.heap := hP
  have hl := lv_entry ([.ref q, .int (nI 0), .int w]) (n := 4) (Nat.le_of_ble_eq_true rfl)
  rw [lg_entry_eq]
  generalize (lg_sl ([.ref q, .int (nI 0), .int w]) ++ List.replicate (4 - (lg_sl ([.ref q, .int (nI 0), .int w])).length) Slot.unset).toArray = ls at hl ⊢
  have hl : lv_has ls 4 [(0, .ref q), (1, .int (nI 0)), (2, .int w)] := hl
  refine lv_aload_n hx hb dX7_bucketOf_0 rfl (lv_at hl 0 rfl) ?_
  refine lv_iload_n hx hb dX7_bucketOf_1 rfl (lv_at hl 1 rfl) ?_
  have hPc := hP.sub (ws' := [(q, .inr (6, [.ref s0, .ref s1, .ref s2]))]) [0] rfl
  have hKc := hK.sub (tys' := []) [] rfl
  refine va_csr (W.runV (As := [.int (nI 0)]) (rest := []) ⟨hx, hb, hml, hown, hts⟩ (c_X7_chosenSet_0 l dC dI q s0 s1 s2 ) (cwV 1 hts gX7_bucketOf_X7_chosenSet rfl rfl rfl (by decide +kernel) ⟨Nat.le_of_ble_eq_true rfl, Nat.le_of_ble_eq_true rfl⟩) ⟨fun a U g mk q => by obtain ⟨q0, qP, qK⟩ := q; exact ⟨q0, qP, va_K.moved (u := U) (U := U.calling g mk a) (Vm.Alike.refl U.vm) qK⟩, va_recv hKc hPc (ci := 6) (q0 := 0) rfl rfl, fun U hU hW => ⟨rfl, by rw [hU]; exact hPc, va_K.moved hW.alike hKc⟩⟩ rfl rfl hl.1 rfl (lv_room (Nat.le_of_ble_eq_true rfl)) dX7_bucketOf_2 ⟨Nat.le_of_ble_eq_true rfl, Nat.le_of_ble_eq_true rfl⟩) (fun r_2 hw_1 => ?_)
  have hw_1 := hw_1.symm
  subst hw_1
  refine lv_astore_n (lv' := [(3, .ref s0), (0, .ref q), (1, .int (nI 0)), (2, .int w)]) hx hb dX7_bucketOf_5 rfl hl (by decide) rfl (fun ls hl => ?_)
  refine lv_iload_n hx hb dX7_bucketOf_6 rfl (lv_at hl 3 rfl) ?_
  have hPc := hP.sub (ws' := []) [] rfl
  have hKc := hK.sub (tys' := []) [] rfl
  have hDc := hD.sub (ws' := []) [] (by decide) rfl
  exact vx_callv (vx_runS (As := [.int w]) (rest := []) ⟨hx, hb, hml, hown, hts⟩ (x_X7_needNumber l hls dC dI w sa s.heap.size (by first | assumption | omega)) (va_cwS 1 hts gX7_bucketOf_X7_needNumber rfl rfl rfl (by decide +kernel) ⟨Nat.le_of_ble_eq_true rfl, Nat.le_of_ble_eq_true rfl⟩) ⟨fun a U g mk q => by obtain ⟨q0, q1, qT, qP, qK, qD⟩ := q; exact ⟨q0, q1, TW.same (u := U) (U := U.calling g mk a) rfl qT, qP, va_K.moved (u := U) (U := U.calling g mk a) (Vm.Alike.refl U.vm) qK, qD⟩, fun U hU hW => ⟨rfl, by rw [hU], by rw [hU]; exact TW.warm hW hT, by rw [hU]; exact hPc, va_K.moved hW.alike hKc, hDc.weaken (fun _ _ _ _ => trivial)⟩⟩ rfl rfl hl.1 rfl (lv_room (Nat.le_of_ble_eq_true rfl)) dX7_bucketOf_7 ⟨Nat.le_of_ble_eq_true rfl, Nat.le_of_ble_eq_true rfl⟩) hS (fun q h9 h8 => absurd h8 (Nat.not_le_of_lt h9)) (fun q h8 => Nat.le_trans hS.1 h8) (fun q h9 h8 => absurd h8 (Nat.not_le_of_lt h9)) (fun E9 ce9 q9 u9 t9 H9 l9 ht9 hvm9 hu9 hE9 hz9 hk9 hS9 hce9 hcv9 hcl9 => vx_out (fun x h => (hcat x h).elim) hlocks hce9 hcv9 hcl9 (fun t8 ht8 ha8 => ⟨(), trivial, hE9, by rw [ht8]; exact hz9, fun q h1 h2 => by rw [ht8]; exact hk9 q h1 h2⟩) hS9.2.2 (Nat.le_of_ble_eq_true rfl) (Nat.le_of_ble_eq_true rfl)) (fun u9 t9 H9 l9 ht9 hvm9 hu9 hB9 hz9 hk9 hS9 => hu9.elim)
set_option maxHeartbeats 4000000 in
set_option maxRecDepth 100000 in
/-- insertRange_f0 throws IllegalArgumentException -/
theorem x_X7_insertRange_f0 (l : Launch) (hls : l.stackTraces = false) (dC : Nat → ClassId) (dI : Nat → Nat → Nat) (q : Nat) (s0 : Nat) (s1 : Nat) (s2 : Nat) (f : Int32) (d : Int32) (n : Int32) (sa sz : Nat) (hW : isN f = false) : vx_Met l yX7_insertRange wsX7_insertRange ({ frames := 7, cells := 1, slots := 6, locals := 102 }) (va_Pc [.ref q, .int (nI 0), .int f, .int d, .int n] (fun U => U.heap.size = sz ∧ TW "java/lang/IllegalArgumentException" 153 "the number is out of range" sa (fun q => sz ≤ q) U U.heap ∧ va_P (dC, dI) vwCl [(q, .inr (6, [.ref s0, .ref s1, .ref s2]))] U.heap ∧ va_K (dC, dI) vwCl [] U ∧ va_D (fun _ => True) [(q, .inr (6, [.ref s0, .ref s1, .ref s2]))])) (va_Qv (fun _ : Unit => False) (fun _ _ => True) (fun q => sz ≤ q)) (vx_X (fun _ : Unit => True) (fun E _ _ => E = "java/lang/IllegalArgumentException") (fun q => sz ≤ q)) 1 6 (fun q => sz ≤ q) := by
  refine vx_ofW (cc := cX7_insertRange) (maxL := 8) (ret := (some .int)) (by decide) rfl ?_
  intro p e s m args below meth c s₁ B hml hcat hv
  obtain ⟨rfl, hsz, hT, hP, hK, hD⟩ := hv
  have hx := B.exec
  have hb := B.bytes
  have hr := B.returns
  have hts := atoms_spec (ws := wsX7_insertRange) B.pre
  have hown : s.vm.findClass RX7 = some m.cls := findClass_of_methodNamed B.named
  have hlocks := B.notSynchronized
  subst hsz
  have hS : va_S (fun q => s.heap.size ≤ q) s.heap s.heap [] := va_S.rf
  have hP : va_P (dC, dI) vwCl [(q, .inr (6, [.ref s0, .ref s1, .ref s2]))] s.heap := hP
  have hl := lv_entry ([.ref q, .int (nI 0), .int f, .int d, .int n]) (n := 8) (Nat.le_of_ble_eq_true rfl)
  rw [lg_entry_eq]
  generalize (lg_sl ([.ref q, .int (nI 0), .int f, .int d, .int n]) ++ List.replicate (8 - (lg_sl ([.ref q, .int (nI 0), .int f, .int d, .int n])).length) Slot.unset).toArray = ls at hl ⊢
  have hl : lv_has ls 8 [(0, .ref q), (1, .int (nI 0)), (2, .int f), (3, .int d), (4, .int n)] := hl
  refine lv_aload_n hx hb dX7_insertRange_0 rfl (lv_at hl 0 rfl) ?_
  refine lv_iload_n hx hb dX7_insertRange_1 rfl (lv_at hl 1 rfl) ?_
  have hPc := hP.sub (ws' := [(q, .inr (6, [.ref s0, .ref s1, .ref s2]))]) [0] rfl
  have hKc := hK.sub (tys' := []) [] rfl
  refine va_csr (W.runV (As := [.int (nI 0)]) (rest := []) ⟨hx, hb, hml, hown, hts⟩ (c_X7_chosenSet_0 l dC dI q s0 s1 s2 ) (cwV 1 hts gX7_insertRange_X7_chosenSet rfl rfl rfl (by decide +kernel) ⟨Nat.le_of_ble_eq_true rfl, Nat.le_of_ble_eq_true rfl⟩) ⟨fun a U g mk q => by obtain ⟨q0, qP, qK⟩ := q; exact ⟨q0, qP, va_K.moved (u := U) (U := U.calling g mk a) (Vm.Alike.refl U.vm) qK⟩, va_recv hKc hPc (ci := 6) (q0 := 0) rfl rfl, fun U hU hW => ⟨rfl, by rw [hU]; exact hPc, va_K.moved hW.alike hKc⟩⟩ rfl rfl hl.1 rfl (lv_room (Nat.le_of_ble_eq_true rfl)) dX7_insertRange_2 ⟨Nat.le_of_ble_eq_true rfl, Nat.le_of_ble_eq_true rfl⟩) (fun r_2 hw_1 => ?_)
  have hw_1 := hw_1.symm
  subst hw_1
  refine lv_astore (lv' := [(5, .ref s0), (0, .ref q), (1, .int (nI 0)), (2, .int f), (3, .int d), (4, .int n)]) hx hb dX7_insertRange_5 hl (by decide) rfl (fun ls hl => ?_)
  refine lv_iload_n hx hb dX7_insertRange_7 rfl (lv_at hl 3 rfl) ?_
  have hPc := hP.sub (ws' := []) [] rfl
  have hKc := hK.sub (tys' := []) [] rfl
  have hDc := hD.sub (ws' := []) [] (by decide) rfl
  exact vx_callv (vx_runS (As := [.int f]) (rest := []) ⟨hx, hb, hml, hown, hts⟩ (x_X7_needNumber l hls dC dI f sa s.heap.size (by first | assumption | omega)) (va_cwS 1 hts gX7_insertRange_X7_needNumber rfl rfl rfl (by decide +kernel) ⟨Nat.le_of_ble_eq_true rfl, Nat.le_of_ble_eq_true rfl⟩) ⟨fun a U g mk q => by obtain ⟨q0, q1, qT, qP, qK, qD⟩ := q; exact ⟨q0, q1, TW.same (u := U) (U := U.calling g mk a) rfl qT, qP, va_K.moved (u := U) (U := U.calling g mk a) (Vm.Alike.refl U.vm) qK, qD⟩, fun U hU hW => ⟨rfl, by rw [hU], by rw [hU]; exact TW.warm hW hT, by rw [hU]; exact hPc, va_K.moved hW.alike hKc, hDc.weaken (fun _ _ _ _ => trivial)⟩⟩ rfl rfl hl.1 rfl (lv_room (Nat.le_of_ble_eq_true rfl)) dX7_insertRange_8 ⟨Nat.le_of_ble_eq_true rfl, Nat.le_of_ble_eq_true rfl⟩) hS (fun q h9 h8 => absurd h8 (Nat.not_le_of_lt h9)) (fun q h8 => Nat.le_trans hS.1 h8) (fun q h9 h8 => absurd h8 (Nat.not_le_of_lt h9)) (fun E9 ce9 q9 u9 t9 H9 l9 ht9 hvm9 hu9 hE9 hz9 hk9 hS9 hce9 hcv9 hcl9 => vx_out (fun x h => (hcat x h).elim) hlocks hce9 hcv9 hcl9 (fun t8 ht8 ha8 => ⟨(), trivial, hE9, by rw [ht8]; exact hz9, fun q h1 h2 => by rw [ht8]; exact hk9 q h1 h2⟩) hS9.2.2 (Nat.le_of_ble_eq_true rfl) (Nat.le_of_ble_eq_true rfl)) (fun u9 t9 H9 l9 ht9 hvm9 hu9 hB9 hz9 hk9 hS9 => hu9.elim)
set_option maxHeartbeats 4000000 in
set_option maxRecDepth 100000 in
/-- insertRange_d0 throws IllegalArgumentException -/
theorem x_X7_insertRange_d0 (l : Launch) (hls : l.stackTraces = false) (dC : Nat → ClassId) (dI : Nat → Nat → Nat) (q : Nat) (s0 : Nat) (s1 : Nat) (s2 : Nat) (a : Nat) (d : Int32) (n : Int32) (sa sz : Nat) (ha : a < 4096) (hW : inB d 1 1000 = false) : vx_Met l yX7_insertRange wsX7_insertRange ({ frames := 7, cells := 1, slots := 6, locals := 103 }) (va_Pc [.ref q, .int (nI 0), .int (nI a), .int d, .int n] (fun U => U.heap.size = sz ∧ TW "java/lang/IllegalArgumentException" 156 "the step is out of range" sa (fun q => sz ≤ q) U U.heap ∧ va_P (dC, dI) vwCl [(q, .inr (6, [.ref s0, .ref s1, .ref s2]))] U.heap ∧ va_K (dC, dI) vwCl [] U ∧ va_D (fun _ => True) [(q, .inr (6, [.ref s0, .ref s1, .ref s2]))])) (va_Qv (fun _ : Unit => False) (fun _ _ => True) (fun q => sz ≤ q)) (vx_X (fun _ : Unit => True) (fun E _ _ => E = "java/lang/IllegalArgumentException") (fun q => sz ≤ q)) 1 6 (fun q => sz ≤ q) := by
  refine vx_ofW (cc := cX7_insertRange) (maxL := 8) (ret := (some .int)) (by decide) rfl ?_
  intro p e s m args below meth c s₁ B hml hcat hv
  obtain ⟨rfl, hsz, hT, hP, hK, hD⟩ := hv
  have hx := B.exec
  have hb := B.bytes
  have hr := B.returns
  have hts := atoms_spec (ws := wsX7_insertRange) B.pre
  have hown : s.vm.findClass RX7 = some m.cls := findClass_of_methodNamed B.named
  have hlocks := B.notSynchronized
  subst hsz
  have hS : va_S (fun q => s.heap.size ≤ q) s.heap s.heap [] := va_S.rf
  have hP : va_P (dC, dI) vwCl [(q, .inr (6, [.ref s0, .ref s1, .ref s2]))] s.heap := hP
  have hl := lv_entry ([.ref q, .int (nI 0), .int (nI a), .int d, .int n]) (n := 8) (Nat.le_of_ble_eq_true rfl)
  rw [lg_entry_eq]
  generalize (lg_sl ([.ref q, .int (nI 0), .int (nI a), .int d, .int n]) ++ List.replicate (8 - (lg_sl ([.ref q, .int (nI 0), .int (nI a), .int d, .int n])).length) Slot.unset).toArray = ls at hl ⊢
  have hl : lv_has ls 8 [(0, .ref q), (1, .int (nI 0)), (2, .int (nI a)), (3, .int d), (4, .int n)] := hl
  refine lv_aload_n hx hb dX7_insertRange_0 rfl (lv_at hl 0 rfl) ?_
  refine lv_iload_n hx hb dX7_insertRange_1 rfl (lv_at hl 1 rfl) ?_
  have hPc := hP.sub (ws' := [(q, .inr (6, [.ref s0, .ref s1, .ref s2]))]) [0] rfl
  have hKc := hK.sub (tys' := []) [] rfl
  refine va_csr (W.runV (As := [.int (nI 0)]) (rest := []) ⟨hx, hb, hml, hown, hts⟩ (c_X7_chosenSet_0 l dC dI q s0 s1 s2 ) (cwV 1 hts gX7_insertRange_X7_chosenSet rfl rfl rfl (by decide +kernel) ⟨Nat.le_of_ble_eq_true rfl, Nat.le_of_ble_eq_true rfl⟩) ⟨fun a U g mk q => by obtain ⟨q0, qP, qK⟩ := q; exact ⟨q0, qP, va_K.moved (u := U) (U := U.calling g mk a) (Vm.Alike.refl U.vm) qK⟩, va_recv hKc hPc (ci := 6) (q0 := 0) rfl rfl, fun U hU hW => ⟨rfl, by rw [hU]; exact hPc, va_K.moved hW.alike hKc⟩⟩ rfl rfl hl.1 rfl (lv_room (Nat.le_of_ble_eq_true rfl)) dX7_insertRange_2 ⟨Nat.le_of_ble_eq_true rfl, Nat.le_of_ble_eq_true rfl⟩) (fun r_2 hw_1 => ?_)
  have hw_1 := hw_1.symm
  subst hw_1
  refine lv_astore (lv' := [(5, .ref s0), (0, .ref q), (1, .int (nI 0)), (2, .int (nI a)), (3, .int d), (4, .int n)]) hx hb dX7_insertRange_5 hl (by decide) rfl (fun ls hl => ?_)
  refine lv_iload_n hx hb dX7_insertRange_7 rfl (lv_at hl 3 rfl) ?_
  have hPc := hP.sub (ws' := []) [] rfl
  have hKc := hK.sub (tys' := []) [] rfl
  refine va_csv (W.runS (As := [.int (nI a)]) (rest := []) ⟨hx, hb, hml, hown, hts⟩ (c_X7_needNumber l dC dI a (by first | assumption | omega)) (va_cwS 1 hts gX7_insertRange_X7_needNumber rfl rfl rfl (by decide +kernel) ⟨Nat.le_of_ble_eq_true rfl, Nat.le_of_ble_eq_true rfl⟩) ⟨fun a U g mk q => by obtain ⟨q0, qP, qK⟩ := q; exact ⟨q0, qP, va_K.moved (u := U) (U := U.calling g mk a) (Vm.Alike.refl U.vm) qK⟩, fun U hU hW => ⟨rfl, by rw [hU]; exact hPc, va_K.moved hW.alike hKc⟩⟩ rfl rfl hl.1 rfl (lv_room (Nat.le_of_ble_eq_true rfl)) dX7_insertRange_8 ⟨Nat.le_of_ble_eq_true rfl, Nat.le_of_ble_eq_true rfl⟩) (fun _ => ?_)
  refine lv_iload_n hx hb dX7_insertRange_11 rfl (lv_at hl 4 rfl) ?_
  refine lv_iload hx hb dX7_insertRange_12 (lv_at hl 5 rfl) ?_
  have hPc := hP.sub (ws' := []) [] rfl
  have hKc := hK.sub (tys' := []) [] rfl
  have hDc := hD.sub (ws' := []) [] (by decide) rfl
  exact vx_callv (vx_runS (As := [.int d, .int n]) (rest := []) ⟨hx, hb, hml, hown, hts⟩ (x_X7_needStep l hls dC dI d n sa s.heap.size (by first | assumption | omega)) (va_cwS 2 hts gX7_insertRange_X7_needStepAndCount rfl rfl rfl (by decide +kernel) ⟨Nat.le_of_ble_eq_true rfl, Nat.le_of_ble_eq_true rfl⟩) ⟨fun a U g mk q => by obtain ⟨q0, q1, qT, qP, qK, qD⟩ := q; exact ⟨q0, q1, TW.same (u := U) (U := U.calling g mk a) rfl qT, qP, va_K.moved (u := U) (U := U.calling g mk a) (Vm.Alike.refl U.vm) qK, qD⟩, fun U hU hW => ⟨rfl, by rw [hU], by rw [hU]; exact TW.warm hW hT, by rw [hU]; exact hPc, va_K.moved hW.alike hKc, hDc.weaken (fun _ _ _ _ => trivial)⟩⟩ rfl rfl hl.1 rfl (lv_room (Nat.le_of_ble_eq_true rfl)) dX7_insertRange_14 ⟨Nat.le_of_ble_eq_true rfl, Nat.le_of_ble_eq_true rfl⟩) hS (fun q h9 h8 => absurd h8 (Nat.not_le_of_lt h9)) (fun q h8 => Nat.le_trans hS.1 h8) (fun q h9 h8 => absurd h8 (Nat.not_le_of_lt h9)) (fun E9 ce9 q9 u9 t9 H9 l9 ht9 hvm9 hu9 hE9 hz9 hk9 hS9 hce9 hcv9 hcl9 => vx_out (fun x h => (hcat x h).elim) hlocks hce9 hcv9 hcl9 (fun t8 ht8 ha8 => ⟨(), trivial, hE9, by rw [ht8]; exact hz9, fun q h1 h2 => by rw [ht8]; exact hk9 q h1 h2⟩) hS9.2.2 (Nat.le_of_ble_eq_true rfl) (Nat.le_of_ble_eq_true rfl)) (fun u9 t9 H9 l9 ht9 hvm9 hu9 hB9 hz9 hk9 hS9 => hu9.elim)
set_option maxHeartbeats 4000000 in
set_option maxRecDepth 100000 in
/-- insertRange_c0 throws IllegalArgumentException -/
theorem x_X7_insertRange_c0 (l : Launch) (hls : l.stackTraces = false) (dC : Nat → ClassId) (dI : Nat → Nat → Nat) (q : Nat) (s0 : Nat) (s1 : Nat) (s2 : Nat) (a : Nat) (d : Nat) (n : Int32) (sa sz : Nat) (ha : a < 4096) (hd : 1 ≤ d ∧ d ≤ 1000) (hW : inB n 1 30 = false) : vx_Met l yX7_insertRange wsX7_insertRange ({ frames := 7, cells := 1, slots := 6, locals := 103 }) (va_Pc [.ref q, .int (nI 0), .int (nI a), .int (nI d), .int n] (fun U => U.heap.size = sz ∧ TW "java/lang/IllegalArgumentException" 158 "the count is out of range" sa (fun q => sz ≤ q) U U.heap ∧ va_P (dC, dI) vwCl [(q, .inr (6, [.ref s0, .ref s1, .ref s2]))] U.heap ∧ va_K (dC, dI) vwCl [] U ∧ va_D (fun _ => True) [(q, .inr (6, [.ref s0, .ref s1, .ref s2]))])) (va_Qv (fun _ : Unit => False) (fun _ _ => True) (fun q => sz ≤ q)) (vx_X (fun _ : Unit => True) (fun E _ _ => E = "java/lang/IllegalArgumentException") (fun q => sz ≤ q)) 1 6 (fun q => sz ≤ q) := by
  refine vx_ofW (cc := cX7_insertRange) (maxL := 8) (ret := (some .int)) (by decide) rfl ?_
  intro p e s m args below meth c s₁ B hml hcat hv
  obtain ⟨rfl, hsz, hT, hP, hK, hD⟩ := hv
  have hx := B.exec
  have hb := B.bytes
  have hr := B.returns
  have hts := atoms_spec (ws := wsX7_insertRange) B.pre
  have hown : s.vm.findClass RX7 = some m.cls := findClass_of_methodNamed B.named
  have hlocks := B.notSynchronized
  subst hsz
  have hS : va_S (fun q => s.heap.size ≤ q) s.heap s.heap [] := va_S.rf
  have hP : va_P (dC, dI) vwCl [(q, .inr (6, [.ref s0, .ref s1, .ref s2]))] s.heap := hP
  have hl := lv_entry ([.ref q, .int (nI 0), .int (nI a), .int (nI d), .int n]) (n := 8) (Nat.le_of_ble_eq_true rfl)
  rw [lg_entry_eq]
  generalize (lg_sl ([.ref q, .int (nI 0), .int (nI a), .int (nI d), .int n]) ++ List.replicate (8 - (lg_sl ([.ref q, .int (nI 0), .int (nI a), .int (nI d), .int n])).length) Slot.unset).toArray = ls at hl ⊢
  have hl : lv_has ls 8 [(0, .ref q), (1, .int (nI 0)), (2, .int (nI a)), (3, .int (nI d)), (4, .int n)] := hl
  refine lv_aload_n hx hb dX7_insertRange_0 rfl (lv_at hl 0 rfl) ?_
  refine lv_iload_n hx hb dX7_insertRange_1 rfl (lv_at hl 1 rfl) ?_
  have hPc := hP.sub (ws' := [(q, .inr (6, [.ref s0, .ref s1, .ref s2]))]) [0] rfl
  have hKc := hK.sub (tys' := []) [] rfl
  refine va_csr (W.runV (As := [.int (nI 0)]) (rest := []) ⟨hx, hb, hml, hown, hts⟩ (c_X7_chosenSet_0 l dC dI q s0 s1 s2 ) (cwV 1 hts gX7_insertRange_X7_chosenSet rfl rfl rfl (by decide +kernel) ⟨Nat.le_of_ble_eq_true rfl, Nat.le_of_ble_eq_true rfl⟩) ⟨fun a U g mk q => by obtain ⟨q0, qP, qK⟩ := q; exact ⟨q0, qP, va_K.moved (u := U) (U := U.calling g mk a) (Vm.Alike.refl U.vm) qK⟩, va_recv hKc hPc (ci := 6) (q0 := 0) rfl rfl, fun U hU hW => ⟨rfl, by rw [hU]; exact hPc, va_K.moved hW.alike hKc⟩⟩ rfl rfl hl.1 rfl (lv_room (Nat.le_of_ble_eq_true rfl)) dX7_insertRange_2 ⟨Nat.le_of_ble_eq_true rfl, Nat.le_of_ble_eq_true rfl⟩) (fun r_2 hw_1 => ?_)
  have hw_1 := hw_1.symm
  subst hw_1
  refine lv_astore (lv' := [(5, .ref s0), (0, .ref q), (1, .int (nI 0)), (2, .int (nI a)), (3, .int (nI d)), (4, .int n)]) hx hb dX7_insertRange_5 hl (by decide) rfl (fun ls hl => ?_)
  refine lv_iload_n hx hb dX7_insertRange_7 rfl (lv_at hl 3 rfl) ?_
  have hPc := hP.sub (ws' := []) [] rfl
  have hKc := hK.sub (tys' := []) [] rfl
  refine va_csv (W.runS (As := [.int (nI a)]) (rest := []) ⟨hx, hb, hml, hown, hts⟩ (c_X7_needNumber l dC dI a (by first | assumption | omega)) (va_cwS 1 hts gX7_insertRange_X7_needNumber rfl rfl rfl (by decide +kernel) ⟨Nat.le_of_ble_eq_true rfl, Nat.le_of_ble_eq_true rfl⟩) ⟨fun a U g mk q => by obtain ⟨q0, qP, qK⟩ := q; exact ⟨q0, qP, va_K.moved (u := U) (U := U.calling g mk a) (Vm.Alike.refl U.vm) qK⟩, fun U hU hW => ⟨rfl, by rw [hU]; exact hPc, va_K.moved hW.alike hKc⟩⟩ rfl rfl hl.1 rfl (lv_room (Nat.le_of_ble_eq_true rfl)) dX7_insertRange_8 ⟨Nat.le_of_ble_eq_true rfl, Nat.le_of_ble_eq_true rfl⟩) (fun _ => ?_)
  refine lv_iload_n hx hb dX7_insertRange_11 rfl (lv_at hl 4 rfl) ?_
  refine lv_iload hx hb dX7_insertRange_12 (lv_at hl 5 rfl) ?_
  have hPc := hP.sub (ws' := []) [] rfl
  have hKc := hK.sub (tys' := []) [] rfl
  have hDc := hD.sub (ws' := []) [] (by decide) rfl
  exact vx_callv (vx_runS (As := [.int (nI d), .int n]) (rest := []) ⟨hx, hb, hml, hown, hts⟩ (x_X7_needCount l hls dC dI d n sa s.heap.size (by first | assumption | omega) (by first | assumption | omega)) (va_cwS 2 hts gX7_insertRange_X7_needStepAndCount rfl rfl rfl (by decide +kernel) ⟨Nat.le_of_ble_eq_true rfl, Nat.le_of_ble_eq_true rfl⟩) ⟨fun a U g mk q => by obtain ⟨q0, q1, qT, qP, qK, qD⟩ := q; exact ⟨q0, q1, TW.same (u := U) (U := U.calling g mk a) rfl qT, qP, va_K.moved (u := U) (U := U.calling g mk a) (Vm.Alike.refl U.vm) qK, qD⟩, fun U hU hW => ⟨rfl, by rw [hU], by rw [hU]; exact TW.warm hW hT, by rw [hU]; exact hPc, va_K.moved hW.alike hKc, hDc.weaken (fun _ _ _ _ => trivial)⟩⟩ rfl rfl hl.1 rfl (lv_room (Nat.le_of_ble_eq_true rfl)) dX7_insertRange_14 ⟨Nat.le_of_ble_eq_true rfl, Nat.le_of_ble_eq_true rfl⟩) hS (fun q h9 h8 => absurd h8 (Nat.not_le_of_lt h9)) (fun q h8 => Nat.le_trans hS.1 h8) (fun q h9 h8 => absurd h8 (Nat.not_le_of_lt h9)) (fun E9 ce9 q9 u9 t9 H9 l9 ht9 hvm9 hu9 hE9 hz9 hk9 hS9 hce9 hcv9 hcl9 => vx_out (fun x h => (hcat x h).elim) hlocks hce9 hcv9 hcl9 (fun t8 ht8 ha8 => ⟨(), trivial, hE9, by rw [ht8]; exact hz9, fun q h1 h2 => by rw [ht8]; exact hk9 q h1 h2⟩) hS9.2.2 (Nat.le_of_ble_eq_true rfl) (Nat.le_of_ble_eq_true rfl)) (fun u9 t9 H9 l9 ht9 hvm9 hu9 hB9 hz9 hk9 hS9 => hu9.elim)
set_option maxHeartbeats 4000000 in
set_option maxRecDepth 100000 in
/-- insertRange_e0 throws IllegalArgumentException -/
theorem x_X7_insertRange_e0 (l : Launch) (hls : l.stackTraces = false) (dC : Nat → ClassId) (dI : Nat → Nat → Nat) (q : Nat) (s0 : Nat) (s1 : Nat) (s2 : Nat) (a : Nat) (d : Nat) (n : Nat) (sa sz : Nat) (ha : a < 4096) (hd : 1 ≤ d ∧ d ≤ 1000) (hn : 1 ≤ n ∧ n ≤ 30) (hW : isN (nI (a + (n - 1) * d)) = false) : vx_Met l yX7_insertRange wsX7_insertRange ({ frames := 7, cells := 1, slots := 6, locals := 102 }) (va_Pc [.ref q, .int (nI 0), .int (nI a), .int (nI d), .int (nI n)] (fun U => U.heap.size = sz ∧ TW "java/lang/IllegalArgumentException" 153 "the number is out of range" sa (fun q => sz ≤ q) U U.heap ∧ va_P (dC, dI) vwCl [(q, .inr (6, [.ref s0, .ref s1, .ref s2]))] U.heap ∧ va_K (dC, dI) vwCl [] U ∧ va_D (fun _ => True) [(q, .inr (6, [.ref s0, .ref s1, .ref s2]))])) (va_Qv (fun _ : Unit => False) (fun _ _ => True) (fun q => sz ≤ q)) (vx_X (fun _ : Unit => True) (fun E _ _ => E = "java/lang/IllegalArgumentException") (fun q => sz ≤ q)) 1 6 (fun q => sz ≤ q) := by
  refine vx_ofW (cc := cX7_insertRange) (maxL := 8) (ret := (some .int)) (by decide) rfl ?_
  intro p e s m args below meth c s₁ B hml hcat hv
  obtain ⟨rfl, hsz, hT, hP, hK, hD⟩ := hv
  have hx := B.exec
  have hb := B.bytes
  have hr := B.returns
  have hts := atoms_spec (ws := wsX7_insertRange) B.pre
  have hown : s.vm.findClass RX7 = some m.cls := findClass_of_methodNamed B.named
  have hlocks := B.notSynchronized
  subst hsz
  have hS : va_S (fun q => s.heap.size ≤ q) s.heap s.heap [] := va_S.rf
  have hP : va_P (dC, dI) vwCl [(q, .inr (6, [.ref s0, .ref s1, .ref s2]))] s.heap := hP
  have hl := lv_entry ([.ref q, .int (nI 0), .int (nI a), .int (nI d), .int (nI n)]) (n := 8) (Nat.le_of_ble_eq_true rfl)
  rw [lg_entry_eq]
  generalize (lg_sl ([.ref q, .int (nI 0), .int (nI a), .int (nI d), .int (nI n)]) ++ List.replicate (8 - (lg_sl ([.ref q, .int (nI 0), .int (nI a), .int (nI d), .int (nI n)])).length) Slot.unset).toArray = ls at hl ⊢
  have hl : lv_has ls 8 [(0, .ref q), (1, .int (nI 0)), (2, .int (nI a)), (3, .int (nI d)), (4, .int (nI n))] := hl
  refine lv_aload_n hx hb dX7_insertRange_0 rfl (lv_at hl 0 rfl) ?_
  refine lv_iload_n hx hb dX7_insertRange_1 rfl (lv_at hl 1 rfl) ?_
  have hPc := hP.sub (ws' := [(q, .inr (6, [.ref s0, .ref s1, .ref s2]))]) [0] rfl
  have hKc := hK.sub (tys' := []) [] rfl
  refine va_csr (W.runV (As := [.int (nI 0)]) (rest := []) ⟨hx, hb, hml, hown, hts⟩ (c_X7_chosenSet_0 l dC dI q s0 s1 s2 ) (cwV 1 hts gX7_insertRange_X7_chosenSet rfl rfl rfl (by decide +kernel) ⟨Nat.le_of_ble_eq_true rfl, Nat.le_of_ble_eq_true rfl⟩) ⟨fun a U g mk q => by obtain ⟨q0, qP, qK⟩ := q; exact ⟨q0, qP, va_K.moved (u := U) (U := U.calling g mk a) (Vm.Alike.refl U.vm) qK⟩, va_recv hKc hPc (ci := 6) (q0 := 0) rfl rfl, fun U hU hW => ⟨rfl, by rw [hU]; exact hPc, va_K.moved hW.alike hKc⟩⟩ rfl rfl hl.1 rfl (lv_room (Nat.le_of_ble_eq_true rfl)) dX7_insertRange_2 ⟨Nat.le_of_ble_eq_true rfl, Nat.le_of_ble_eq_true rfl⟩) (fun r_2 hw_1 => ?_)
  have hw_1 := hw_1.symm
  subst hw_1
  refine lv_astore (lv' := [(5, .ref s0), (0, .ref q), (1, .int (nI 0)), (2, .int (nI a)), (3, .int (nI d)), (4, .int (nI n))]) hx hb dX7_insertRange_5 hl (by decide) rfl (fun ls hl => ?_)
  refine lv_iload_n hx hb dX7_insertRange_7 rfl (lv_at hl 3 rfl) ?_
  have hPc := hP.sub (ws' := []) [] rfl
  have hKc := hK.sub (tys' := []) [] rfl
  refine va_csv (W.runS (As := [.int (nI a)]) (rest := []) ⟨hx, hb, hml, hown, hts⟩ (c_X7_needNumber l dC dI a (by first | assumption | omega)) (va_cwS 1 hts gX7_insertRange_X7_needNumber rfl rfl rfl (by decide +kernel) ⟨Nat.le_of_ble_eq_true rfl, Nat.le_of_ble_eq_true rfl⟩) ⟨fun a U g mk q => by obtain ⟨q0, qP, qK⟩ := q; exact ⟨q0, qP, va_K.moved (u := U) (U := U.calling g mk a) (Vm.Alike.refl U.vm) qK⟩, fun U hU hW => ⟨rfl, by rw [hU]; exact hPc, va_K.moved hW.alike hKc⟩⟩ rfl rfl hl.1 rfl (lv_room (Nat.le_of_ble_eq_true rfl)) dX7_insertRange_8 ⟨Nat.le_of_ble_eq_true rfl, Nat.le_of_ble_eq_true rfl⟩) (fun _ => ?_)
  refine lv_iload_n hx hb dX7_insertRange_11 rfl (lv_at hl 4 rfl) ?_
  refine lv_iload hx hb dX7_insertRange_12 (lv_at hl 5 rfl) ?_
  have hPc := hP.sub (ws' := []) [] rfl
  have hKc := hK.sub (tys' := []) [] rfl
  refine va_csv (W.runS (As := [.int (nI d), .int (nI n)]) (rest := []) ⟨hx, hb, hml, hown, hts⟩ (c_X7_needStepAndCount l dC dI d n (by first | assumption | omega) (by first | assumption | omega)) (va_cwS 2 hts gX7_insertRange_X7_needStepAndCount rfl rfl rfl (by decide +kernel) ⟨Nat.le_of_ble_eq_true rfl, Nat.le_of_ble_eq_true rfl⟩) ⟨fun a U g mk q => by obtain ⟨q0, qP, qK⟩ := q; exact ⟨q0, qP, va_K.moved (u := U) (U := U.calling g mk a) (Vm.Alike.refl U.vm) qK⟩, fun U hU hW => ⟨rfl, by rw [hU]; exact hPc, va_K.moved hW.alike hKc⟩⟩ rfl rfl hl.1 rfl (lv_room (Nat.le_of_ble_eq_true rfl)) dX7_insertRange_14 ⟨Nat.le_of_ble_eq_true rfl, Nat.le_of_ble_eq_true rfl⟩) (fun _ => ?_)
  refine lv_iload_n hx hb dX7_insertRange_17 rfl (lv_at hl 3 rfl) ?_
  refine lv_iload hx hb dX7_insertRange_18 (lv_at hl 5 rfl) ?_
  refine lv_iconst (v := nI 1) hx hb dX7_insertRange_20 (by decide +kernel) ?_
  refine lv_isub hx hb dX7_insertRange_21 ?_
  refine lv_cvi (pk_sub (by omega)) ?_
  refine lv_iload_n hx hb dX7_insertRange_22 rfl (lv_at hl 4 rfl) ?_
  refine lv_imul hx hb dX7_insertRange_23 ?_
  refine lv_cvi (pk_mul _ _) ?_
  refine lv_iadd hx hb dX7_insertRange_24 ?_
  refine lv_cvi (nI_add _ _) ?_
  have hPc := hP.sub (ws' := []) [] rfl
  have hKc := hK.sub (tys' := []) [] rfl
  have hDc := hD.sub (ws' := []) [] (by decide) rfl
  exact vx_callv (vx_runS (As := [.int (nI (a + ((n - 1) * d)))]) (rest := []) ⟨hx, hb, hml, hown, hts⟩ (x_X7_needNumber l hls dC dI (nI (a + ((n - 1) * d))) sa s.heap.size (by first | assumption | omega)) (va_cwS 1 hts gX7_insertRange_X7_needNumber rfl rfl rfl (by decide +kernel) ⟨Nat.le_of_ble_eq_true rfl, Nat.le_of_ble_eq_true rfl⟩) ⟨fun a U g mk q => by obtain ⟨q0, q1, qT, qP, qK, qD⟩ := q; exact ⟨q0, q1, TW.same (u := U) (U := U.calling g mk a) rfl qT, qP, va_K.moved (u := U) (U := U.calling g mk a) (Vm.Alike.refl U.vm) qK, qD⟩, fun U hU hW => ⟨rfl, by rw [hU], by rw [hU]; exact TW.warm hW hT, by rw [hU]; exact hPc, va_K.moved hW.alike hKc, hDc.weaken (fun _ _ _ _ => trivial)⟩⟩ rfl rfl hl.1 rfl (lv_room (Nat.le_of_ble_eq_true rfl)) dX7_insertRange_25 ⟨Nat.le_of_ble_eq_true rfl, Nat.le_of_ble_eq_true rfl⟩) hS (fun q h9 h8 => absurd h8 (Nat.not_le_of_lt h9)) (fun q h8 => Nat.le_trans hS.1 h8) (fun q h9 h8 => absurd h8 (Nat.not_le_of_lt h9)) (fun E9 ce9 q9 u9 t9 H9 l9 ht9 hvm9 hu9 hE9 hz9 hk9 hS9 hce9 hcv9 hcl9 => vx_out (fun x h => (hcat x h).elim) hlocks hce9 hcv9 hcl9 (fun t8 ht8 ha8 => ⟨(), trivial, hE9, by rw [ht8]; exact hz9, fun q h1 h2 => by rw [ht8]; exact hk9 q h1 h2⟩) hS9.2.2 (Nat.le_of_ble_eq_true rfl) (Nat.le_of_ble_eq_true rfl)) (fun u9 t9 H9 l9 ht9 hvm9 hu9 hB9 hz9 hk9 hS9 => hu9.elim)
set_option maxHeartbeats 4000000 in
set_option maxRecDepth 100000 in
/-- insertAll_t0 throws IndexOutOfBoundsException -/
theorem x_X7_insertAll_t0 (l : Launch) (hls : l.stackTraces = false) (dC : Nat → ClassId) (dI : Nat → Nat → Nat) (q : Nat) (s0 : Nat) (s1 : Nat) (s2 : Nat) (w : Int32) (sa sz : Nat) (hW : isS w = false) : vx_Met l yX7_insertAll wsX7_insertAll ({ frames := 7, cells := 1, slots := 6, locals := 103 }) (va_Pc [.ref q, .int (nI 0), .int w] (fun U => U.heap.size = sz ∧ TW "java/lang/IndexOutOfBoundsException" 148 "no such set" sa (fun q => sz ≤ q) U U.heap ∧ va_P (dC, dI) vwCl [(q, .inr (6, [.ref s0, .ref s1, .ref s2]))] U.heap ∧ va_K (dC, dI) vwCl [] U ∧ va_D (fun _ => True) [(q, .inr (6, [.ref s0, .ref s1, .ref s2]))])) (va_Qv (fun _ : Unit => False) (fun _ _ => True) (fun q => sz ≤ q)) (vx_X (fun _ : Unit => True) (fun E _ _ => E = "java/lang/IndexOutOfBoundsException") (fun q => sz ≤ q)) 1 6 (fun q => sz ≤ q) := by
  refine vx_ofW (cc := cX7_insertAll) (maxL := 8) (ret := (some .int)) (by decide) rfl ?_
  intro p e s m args below meth c s₁ B hml hcat hv
  obtain ⟨rfl, hsz, hT, hP, hK, hD⟩ := hv
  have hx := B.exec
  have hb := B.bytes
  have hr := B.returns
  have hts := atoms_spec (ws := wsX7_insertAll) B.pre
  have hown : s.vm.findClass RX7 = some m.cls := findClass_of_methodNamed B.named
  have hlocks := B.notSynchronized
  subst hsz
  have hS : va_S (fun q => s.heap.size ≤ q) s.heap s.heap [] := va_S.rf
  have hP : va_P (dC, dI) vwCl [(q, .inr (6, [.ref s0, .ref s1, .ref s2]))] s.heap := hP
  have hl := lv_entry ([.ref q, .int (nI 0), .int w]) (n := 8) (Nat.le_of_ble_eq_true rfl)
  rw [lg_entry_eq]
  generalize (lg_sl ([.ref q, .int (nI 0), .int w]) ++ List.replicate (8 - (lg_sl ([.ref q, .int (nI 0), .int w])).length) Slot.unset).toArray = ls at hl ⊢
  have hl : lv_has ls 8 [(0, .ref q), (1, .int (nI 0)), (2, .int w)] := hl
  refine lv_aload_n hx hb dX7_insertAll_0 rfl (lv_at hl 0 rfl) ?_
  refine lv_iload_n hx hb dX7_insertAll_1 rfl (lv_at hl 1 rfl) ?_
  have hPc := hP.sub (ws' := [(q, .inr (6, [.ref s0, .ref s1, .ref s2]))]) [0] rfl
  have hKc := hK.sub (tys' := []) [] rfl
  refine va_csr (W.runV (As := [.int (nI 0)]) (rest := []) ⟨hx, hb, hml, hown, hts⟩ (c_X7_chosenSet_0 l dC dI q s0 s1 s2 ) (cwV 1 hts gX7_insertAll_X7_chosenSet rfl rfl rfl (by decide +kernel) ⟨Nat.le_of_ble_eq_true rfl, Nat.le_of_ble_eq_true rfl⟩) ⟨fun a U g mk q => by obtain ⟨q0, qP, qK⟩ := q; exact ⟨q0, qP, va_K.moved (u := U) (U := U.calling g mk a) (Vm.Alike.refl U.vm) qK⟩, va_recv hKc hPc (ci := 6) (q0 := 0) rfl rfl, fun U hU hW => ⟨rfl, by rw [hU]; exact hPc, va_K.moved hW.alike hKc⟩⟩ rfl rfl hl.1 rfl (lv_room (Nat.le_of_ble_eq_true rfl)) dX7_insertAll_2 ⟨Nat.le_of_ble_eq_true rfl, Nat.le_of_ble_eq_true rfl⟩) (fun r_2 hw_1 => ?_)
  have hw_1 := hw_1.symm
  subst hw_1
  refine lv_astore_n (lv' := [(3, .ref s0), (0, .ref q), (1, .int (nI 0)), (2, .int w)]) hx hb dX7_insertAll_5 rfl hl (by decide) rfl (fun ls hl => ?_)
  refine lv_aload_n hx hb dX7_insertAll_6 rfl (lv_at hl 1 rfl) ?_
  refine lv_iload_n hx hb dX7_insertAll_7 rfl (lv_at hl 3 rfl) ?_
  have hPc := hP.sub (ws' := [(q, .inr (6, [.ref s0, .ref s1, .ref s2]))]) [0] rfl
  have hKc := hK.sub (tys' := []) [] rfl
  have hDc := hD.sub (ws' := [(q, .inr (6, [.ref s0, .ref s1, .ref s2]))]) [0] (by decide) rfl
  exact vx_callv (vx_runV (As := [.int w]) (rest := []) ⟨hx, hb, hml, hown, hts⟩ (x_X7_chosenSet l hls dC dI q s0 s1 s2 w sa s.heap.size (by first | assumption | omega)) (cwV 1 hts gX7_insertAll_X7_chosenSet rfl rfl rfl (by decide +kernel) ⟨Nat.le_of_ble_eq_true rfl, Nat.le_of_ble_eq_true rfl⟩) ⟨fun a U g mk q => by obtain ⟨q0, q1, qT, qP, qK, qD⟩ := q; exact ⟨q0, q1, TW.same (u := U) (U := U.calling g mk a) rfl qT, qP, va_K.moved (u := U) (U := U.calling g mk a) (Vm.Alike.refl U.vm) qK, qD⟩, va_recv hKc hPc (ci := 6) (q0 := 0) rfl rfl, fun U hU hW => ⟨rfl, by rw [hU], by rw [hU]; exact TW.warm hW hT, by rw [hU]; exact hPc, va_K.moved hW.alike hKc, hDc.weaken (fun _ _ _ _ => trivial)⟩⟩ rfl rfl hl.1 rfl (lv_room (Nat.le_of_ble_eq_true rfl)) dX7_insertAll_8 ⟨Nat.le_of_ble_eq_true rfl, Nat.le_of_ble_eq_true rfl⟩) hS (fun q h9 h8 => absurd h8 (Nat.not_le_of_lt h9)) (fun q h8 => Nat.le_trans hS.1 h8) (fun q h9 h8 => absurd h8 (Nat.not_le_of_lt h9)) (fun E9 ce9 q9 u9 t9 H9 l9 ht9 hvm9 hu9 hE9 hz9 hk9 hS9 hce9 hcv9 hcl9 => vx_out (fun x h => (hcat x h).elim) hlocks hce9 hcv9 hcl9 (fun t8 ht8 ha8 => ⟨(), trivial, hE9, by rw [ht8]; exact hz9, fun q h1 h2 => by rw [ht8]; exact hk9 q h1 h2⟩) hS9.2.2 (Nat.le_of_ble_eq_true rfl) (Nat.le_of_ble_eq_true rfl)) (fun u9 t9 H9 l9 ht9 hvm9 hu9 hB9 hz9 hk9 hS9 => hu9.elim)
set_option maxHeartbeats 4000000 in
set_option maxRecDepth 100000 in
/-- clusterMinimum_p0 throws IndexOutOfBoundsException -/
theorem x_X7_clusterMinimum_p0 (l : Launch) (hls : l.stackTraces = false) (dC : Nat → ClassId) (dI : Nat → Nat → Nat) (q : Nat) (s0 : Nat) (s1 : Nat) (s2 : Nat) (w : Int32) (sa sz : Nat) (hW : pl w 64 = false) : vx_Met l yX7_clusterMinimum wsX7_clusterMinimum ({ frames := 7, cells := 1, slots := 6, locals := 103 }) (va_Pc [.ref q, .int (nI 0), .int w] (fun U => U.heap.size = sz ∧ TW "java/lang/IndexOutOfBoundsException" 165 "no such cluster, level, place or bucket" sa (fun q => sz ≤ q) U U.heap ∧ va_P (dC, dI) vwCl [(q, .inr (6, [.ref s0, .ref s1, .ref s2]))] U.heap ∧ va_K (dC, dI) vwCl [] U ∧ va_D (fun _ => True) [(q, .inr (6, [.ref s0, .ref s1, .ref s2]))])) (va_Qv (fun _ : Unit => False) (fun _ _ => True) (fun q => sz ≤ q)) (vx_X (fun _ : Unit => True) (fun E _ _ => E = "java/lang/IndexOutOfBoundsException") (fun q => sz ≤ q)) 1 6 (fun q => sz ≤ q) := by
  refine vx_ofW (cc := cX7_clusterMinimum) (maxL := 4) (ret := (some .int)) (by decide) rfl ?_
  intro p e s m args below meth c s₁ B hml hcat hv
  obtain ⟨rfl, hsz, hT, hP, hK, hD⟩ := hv
  have hx := B.exec
  have hb := B.bytes
  have hr := B.returns
  have hts := atoms_spec (ws := wsX7_clusterMinimum) B.pre
  have hown : s.vm.findClass RX7 = some m.cls := findClass_of_methodNamed B.named
  have hlocks := B.notSynchronized
  subst hsz
  have hS : va_S (fun q => s.heap.size ≤ q) s.heap s.heap [] := va_S.rf
  have hP : va_P (dC, dI) vwCl [(q, .inr (6, [.ref s0, .ref s1, .ref s2]))] s.heap := hP
  have hl := lv_entry ([.ref q, .int (nI 0), .int w]) (n := 4) (Nat.le_of_ble_eq_true rfl)
  rw [lg_entry_eq]
  generalize (lg_sl ([.ref q, .int (nI 0), .int w]) ++ List.replicate (4 - (lg_sl ([.ref q, .int (nI 0), .int w])).length) Slot.unset).toArray = ls at hl ⊢
  have hl : lv_has ls 4 [(0, .ref q), (1, .int (nI 0)), (2, .int w)] := hl
  refine lv_aload_n hx hb dX7_clusterMinimum_0 rfl (lv_at hl 0 rfl) ?_
  refine lv_iload_n hx hb dX7_clusterMinimum_1 rfl (lv_at hl 1 rfl) ?_
  have hPc := hP.sub (ws' := [(q, .inr (6, [.ref s0, .ref s1, .ref s2]))]) [0] rfl
  have hKc := hK.sub (tys' := []) [] rfl
  refine va_csr (W.runV (As := [.int (nI 0)]) (rest := []) ⟨hx, hb, hml, hown, hts⟩ (c_X7_chosenSet_0 l dC dI q s0 s1 s2 ) (cwV 1 hts gX7_clusterMinimum_X7_chosenSet rfl rfl rfl (by decide +kernel) ⟨Nat.le_of_ble_eq_true rfl, Nat.le_of_ble_eq_true rfl⟩) ⟨fun a U g mk q => by obtain ⟨q0, qP, qK⟩ := q; exact ⟨q0, qP, va_K.moved (u := U) (U := U.calling g mk a) (Vm.Alike.refl U.vm) qK⟩, va_recv hKc hPc (ci := 6) (q0 := 0) rfl rfl, fun U hU hW => ⟨rfl, by rw [hU]; exact hPc, va_K.moved hW.alike hKc⟩⟩ rfl rfl hl.1 rfl (lv_room (Nat.le_of_ble_eq_true rfl)) dX7_clusterMinimum_2 ⟨Nat.le_of_ble_eq_true rfl, Nat.le_of_ble_eq_true rfl⟩) (fun r_2 hw_1 => ?_)
  have hw_1 := hw_1.symm
  subst hw_1
  refine lv_astore_n (lv' := [(3, .ref s0), (0, .ref q), (1, .int (nI 0)), (2, .int w)]) hx hb dX7_clusterMinimum_5 rfl hl (by decide) rfl (fun ls hl => ?_)
  refine lv_iload_n hx hb dX7_clusterMinimum_6 rfl (lv_at hl 3 rfl) ?_
  refine lv_bipush (v := nI 64) hx hb dX7_clusterMinimum_7 (by decide +kernel) ?_
  have hPc := hP.sub (ws' := []) [] rfl
  have hKc := hK.sub (tys' := []) [] rfl
  have hDc := hD.sub (ws' := []) [] (by decide) rfl
  exact vx_callv (vx_runS (As := [.int w, .int (nI 64)]) (rest := []) ⟨hx, hb, hml, hown, hts⟩ (x_X7_needPlace l hls dC dI w 64 sa s.heap.size (by first | assumption | omega)) (va_cwS 2 hts gX7_clusterMinimum_X7_needPlace rfl rfl rfl (by decide +kernel) ⟨Nat.le_of_ble_eq_true rfl, Nat.le_of_ble_eq_true rfl⟩) ⟨fun a U g mk q => by obtain ⟨q0, q1, qT, qP, qK, qD⟩ := q; exact ⟨q0, q1, TW.same (u := U) (U := U.calling g mk a) rfl qT, qP, va_K.moved (u := U) (U := U.calling g mk a) (Vm.Alike.refl U.vm) qK, qD⟩, fun U hU hW => ⟨rfl, by rw [hU], by rw [hU]; exact TW.warm hW hT, by rw [hU]; exact hPc, va_K.moved hW.alike hKc, hDc.weaken (fun _ _ _ _ => trivial)⟩⟩ rfl rfl hl.1 rfl (lv_room (Nat.le_of_ble_eq_true rfl)) dX7_clusterMinimum_9 ⟨Nat.le_of_ble_eq_true rfl, Nat.le_of_ble_eq_true rfl⟩) hS (fun q h9 h8 => absurd h8 (Nat.not_le_of_lt h9)) (fun q h8 => Nat.le_trans hS.1 h8) (fun q h9 h8 => absurd h8 (Nat.not_le_of_lt h9)) (fun E9 ce9 q9 u9 t9 H9 l9 ht9 hvm9 hu9 hE9 hz9 hk9 hS9 hce9 hcv9 hcl9 => vx_out (fun x h => (hcat x h).elim) hlocks hce9 hcv9 hcl9 (fun t8 ht8 ha8 => ⟨(), trivial, hE9, by rw [ht8]; exact hz9, fun q h1 h2 => by rw [ht8]; exact hk9 q h1 h2⟩) hS9.2.2 (Nat.le_of_ble_eq_true rfl) (Nat.le_of_ble_eq_true rfl)) (fun u9 t9 H9 l9 ht9 hvm9 hu9 hB9 hz9 hk9 hS9 => hu9.elim)
set_option maxHeartbeats 4000000 in
set_option maxRecDepth 100000 in
/-- clusterMaximum_p0 throws IndexOutOfBoundsException -/
theorem x_X7_clusterMaximum_p0 (l : Launch) (hls : l.stackTraces = false) (dC : Nat → ClassId) (dI : Nat → Nat → Nat) (q : Nat) (s0 : Nat) (s1 : Nat) (s2 : Nat) (w : Int32) (sa sz : Nat) (hW : pl w 64 = false) : vx_Met l yX7_clusterMaximum wsX7_clusterMaximum ({ frames := 7, cells := 1, slots := 6, locals := 103 }) (va_Pc [.ref q, .int (nI 0), .int w] (fun U => U.heap.size = sz ∧ TW "java/lang/IndexOutOfBoundsException" 165 "no such cluster, level, place or bucket" sa (fun q => sz ≤ q) U U.heap ∧ va_P (dC, dI) vwCl [(q, .inr (6, [.ref s0, .ref s1, .ref s2]))] U.heap ∧ va_K (dC, dI) vwCl [] U ∧ va_D (fun _ => True) [(q, .inr (6, [.ref s0, .ref s1, .ref s2]))])) (va_Qv (fun _ : Unit => False) (fun _ _ => True) (fun q => sz ≤ q)) (vx_X (fun _ : Unit => True) (fun E _ _ => E = "java/lang/IndexOutOfBoundsException") (fun q => sz ≤ q)) 1 6 (fun q => sz ≤ q) := by
  refine vx_ofW (cc := cX7_clusterMaximum) (maxL := 4) (ret := (some .int)) (by decide) rfl ?_
  intro p e s m args below meth c s₁ B hml hcat hv
  obtain ⟨rfl, hsz, hT, hP, hK, hD⟩ := hv
  have hx := B.exec
  have hb := B.bytes
  have hr := B.returns
  have hts := atoms_spec (ws := wsX7_clusterMaximum) B.pre
  have hown : s.vm.findClass RX7 = some m.cls := findClass_of_methodNamed B.named
  have hlocks := B.notSynchronized
  subst hsz
  have hS : va_S (fun q => s.heap.size ≤ q) s.heap s.heap [] := va_S.rf
  have hP : va_P (dC, dI) vwCl [(q, .inr (6, [.ref s0, .ref s1, .ref s2]))] s.heap := hP
  have hl := lv_entry ([.ref q, .int (nI 0), .int w]) (n := 4) (Nat.le_of_ble_eq_true rfl)
  rw [lg_entry_eq]
  generalize (lg_sl ([.ref q, .int (nI 0), .int w]) ++ List.replicate (4 - (lg_sl ([.ref q, .int (nI 0), .int w])).length) Slot.unset).toArray = ls at hl ⊢
  have hl : lv_has ls 4 [(0, .ref q), (1, .int (nI 0)), (2, .int w)] := hl
  refine lv_aload_n hx hb dX7_clusterMaximum_0 rfl (lv_at hl 0 rfl) ?_
  refine lv_iload_n hx hb dX7_clusterMaximum_1 rfl (lv_at hl 1 rfl) ?_
  have hPc := hP.sub (ws' := [(q, .inr (6, [.ref s0, .ref s1, .ref s2]))]) [0] rfl
  have hKc := hK.sub (tys' := []) [] rfl
  refine va_csr (W.runV (As := [.int (nI 0)]) (rest := []) ⟨hx, hb, hml, hown, hts⟩ (c_X7_chosenSet_0 l dC dI q s0 s1 s2 ) (cwV 1 hts gX7_clusterMaximum_X7_chosenSet rfl rfl rfl (by decide +kernel) ⟨Nat.le_of_ble_eq_true rfl, Nat.le_of_ble_eq_true rfl⟩) ⟨fun a U g mk q => by obtain ⟨q0, qP, qK⟩ := q; exact ⟨q0, qP, va_K.moved (u := U) (U := U.calling g mk a) (Vm.Alike.refl U.vm) qK⟩, va_recv hKc hPc (ci := 6) (q0 := 0) rfl rfl, fun U hU hW => ⟨rfl, by rw [hU]; exact hPc, va_K.moved hW.alike hKc⟩⟩ rfl rfl hl.1 rfl (lv_room (Nat.le_of_ble_eq_true rfl)) dX7_clusterMaximum_2 ⟨Nat.le_of_ble_eq_true rfl, Nat.le_of_ble_eq_true rfl⟩) (fun r_2 hw_1 => ?_)
  have hw_1 := hw_1.symm
  subst hw_1
  refine lv_astore_n (lv' := [(3, .ref s0), (0, .ref q), (1, .int (nI 0)), (2, .int w)]) hx hb dX7_clusterMaximum_5 rfl hl (by decide) rfl (fun ls hl => ?_)
  refine lv_iload_n hx hb dX7_clusterMaximum_6 rfl (lv_at hl 3 rfl) ?_
  refine lv_bipush (v := nI 64) hx hb dX7_clusterMaximum_7 (by decide +kernel) ?_
  have hPc := hP.sub (ws' := []) [] rfl
  have hKc := hK.sub (tys' := []) [] rfl
  have hDc := hD.sub (ws' := []) [] (by decide) rfl
  exact vx_callv (vx_runS (As := [.int w, .int (nI 64)]) (rest := []) ⟨hx, hb, hml, hown, hts⟩ (x_X7_needPlace l hls dC dI w 64 sa s.heap.size (by first | assumption | omega)) (va_cwS 2 hts gX7_clusterMaximum_X7_needPlace rfl rfl rfl (by decide +kernel) ⟨Nat.le_of_ble_eq_true rfl, Nat.le_of_ble_eq_true rfl⟩) ⟨fun a U g mk q => by obtain ⟨q0, q1, qT, qP, qK, qD⟩ := q; exact ⟨q0, q1, TW.same (u := U) (U := U.calling g mk a) rfl qT, qP, va_K.moved (u := U) (U := U.calling g mk a) (Vm.Alike.refl U.vm) qK, qD⟩, fun U hU hW => ⟨rfl, by rw [hU], by rw [hU]; exact TW.warm hW hT, by rw [hU]; exact hPc, va_K.moved hW.alike hKc, hDc.weaken (fun _ _ _ _ => trivial)⟩⟩ rfl rfl hl.1 rfl (lv_room (Nat.le_of_ble_eq_true rfl)) dX7_clusterMaximum_9 ⟨Nat.le_of_ble_eq_true rfl, Nat.le_of_ble_eq_true rfl⟩) hS (fun q h9 h8 => absurd h8 (Nat.not_le_of_lt h9)) (fun q h8 => Nat.le_trans hS.1 h8) (fun q h9 h8 => absurd h8 (Nat.not_le_of_lt h9)) (fun E9 ce9 q9 u9 t9 H9 l9 ht9 hvm9 hu9 hE9 hz9 hk9 hS9 hce9 hcv9 hcl9 => vx_out (fun x h => (hcat x h).elim) hlocks hce9 hcv9 hcl9 (fun t8 ht8 ha8 => ⟨(), trivial, hE9, by rw [ht8]; exact hz9, fun q h1 h2 => by rw [ht8]; exact hk9 q h1 h2⟩) hS9.2.2 (Nat.le_of_ble_eq_true rfl) (Nat.le_of_ble_eq_true rfl)) (fun u9 t9 H9 l9 ht9 hvm9 hu9 hB9 hz9 hk9 hS9 => hu9.elim)
set_option maxHeartbeats 4000000 in
set_option maxRecDepth 100000 in
/-- prefixes_p0 throws IndexOutOfBoundsException -/
theorem x_X7_prefixes_p0 (l : Launch) (hls : l.stackTraces = false) (dC : Nat → ClassId) (dI : Nat → Nat → Nat) (q : Nat) (s0 : Nat) (s1 : Nat) (s2 : Nat) (w : Int32) (sa sz : Nat) (hW : pl w 13 = false) : vx_Met l yX7_prefixes wsX7_prefixes ({ frames := 7, cells := 1, slots := 6, locals := 103 }) (va_Pc [.ref q, .int (nI 0), .int w] (fun U => U.heap.size = sz ∧ TW "java/lang/IndexOutOfBoundsException" 165 "no such cluster, level, place or bucket" sa (fun q => sz ≤ q) U U.heap ∧ va_P (dC, dI) vwCl [(q, .inr (6, [.ref s0, .ref s1, .ref s2]))] U.heap ∧ va_K (dC, dI) vwCl [] U ∧ va_D (fun _ => True) [(q, .inr (6, [.ref s0, .ref s1, .ref s2]))])) (va_Qv (fun _ : Unit => False) (fun _ _ => True) (fun q => sz ≤ q)) (vx_X (fun _ : Unit => True) (fun E _ _ => E = "java/lang/IndexOutOfBoundsException") (fun q => sz ≤ q)) 1 6 (fun q => sz ≤ q) := by
  refine vx_ofW (cc := cX7_prefixes) (maxL := 4) (ret := (some .int)) (by decide) rfl ?_
  intro p e s m args below meth c s₁ B hml hcat hv
  obtain ⟨rfl, hsz, hT, hP, hK, hD⟩ := hv
  have hx := B.exec
  have hb := B.bytes
  have hr := B.returns
  have hts := atoms_spec (ws := wsX7_prefixes) B.pre
  have hown : s.vm.findClass RX7 = some m.cls := findClass_of_methodNamed B.named
  have hlocks := B.notSynchronized
  subst hsz
  have hS : va_S (fun q => s.heap.size ≤ q) s.heap s.heap [] := va_S.rf
  have hP : va_P (dC, dI) vwCl [(q, .inr (6, [.ref s0, .ref s1, .ref s2]))] s.heap := hP
  have hl := lv_entry ([.ref q, .int (nI 0), .int w]) (n := 4) (Nat.le_of_ble_eq_true rfl)
  rw [lg_entry_eq]
  generalize (lg_sl ([.ref q, .int (nI 0), .int w]) ++ List.replicate (4 - (lg_sl ([.ref q, .int (nI 0), .int w])).length) Slot.unset).toArray = ls at hl ⊢
  have hl : lv_has ls 4 [(0, .ref q), (1, .int (nI 0)), (2, .int w)] := hl
  refine lv_aload_n hx hb dX7_prefixes_0 rfl (lv_at hl 0 rfl) ?_
  refine lv_iload_n hx hb dX7_prefixes_1 rfl (lv_at hl 1 rfl) ?_
  have hPc := hP.sub (ws' := [(q, .inr (6, [.ref s0, .ref s1, .ref s2]))]) [0] rfl
  have hKc := hK.sub (tys' := []) [] rfl
  refine va_csr (W.runV (As := [.int (nI 0)]) (rest := []) ⟨hx, hb, hml, hown, hts⟩ (c_X7_chosenSet_0 l dC dI q s0 s1 s2 ) (cwV 1 hts gX7_prefixes_X7_chosenSet rfl rfl rfl (by decide +kernel) ⟨Nat.le_of_ble_eq_true rfl, Nat.le_of_ble_eq_true rfl⟩) ⟨fun a U g mk q => by obtain ⟨q0, qP, qK⟩ := q; exact ⟨q0, qP, va_K.moved (u := U) (U := U.calling g mk a) (Vm.Alike.refl U.vm) qK⟩, va_recv hKc hPc (ci := 6) (q0 := 0) rfl rfl, fun U hU hW => ⟨rfl, by rw [hU]; exact hPc, va_K.moved hW.alike hKc⟩⟩ rfl rfl hl.1 rfl (lv_room (Nat.le_of_ble_eq_true rfl)) dX7_prefixes_2 ⟨Nat.le_of_ble_eq_true rfl, Nat.le_of_ble_eq_true rfl⟩) (fun r_2 hw_1 => ?_)
  have hw_1 := hw_1.symm
  subst hw_1
  refine lv_astore_n (lv' := [(3, .ref s0), (0, .ref q), (1, .int (nI 0)), (2, .int w)]) hx hb dX7_prefixes_5 rfl hl (by decide) rfl (fun ls hl => ?_)
  refine lv_iload_n hx hb dX7_prefixes_6 rfl (lv_at hl 3 rfl) ?_
  refine lv_bipush (v := nI 13) hx hb dX7_prefixes_7 (by decide +kernel) ?_
  have hPc := hP.sub (ws' := []) [] rfl
  have hKc := hK.sub (tys' := []) [] rfl
  have hDc := hD.sub (ws' := []) [] (by decide) rfl
  exact vx_callv (vx_runS (As := [.int w, .int (nI 13)]) (rest := []) ⟨hx, hb, hml, hown, hts⟩ (x_X7_needPlace l hls dC dI w 13 sa s.heap.size (by first | assumption | omega)) (va_cwS 2 hts gX7_prefixes_X7_needPlace rfl rfl rfl (by decide +kernel) ⟨Nat.le_of_ble_eq_true rfl, Nat.le_of_ble_eq_true rfl⟩) ⟨fun a U g mk q => by obtain ⟨q0, q1, qT, qP, qK, qD⟩ := q; exact ⟨q0, q1, TW.same (u := U) (U := U.calling g mk a) rfl qT, qP, va_K.moved (u := U) (U := U.calling g mk a) (Vm.Alike.refl U.vm) qK, qD⟩, fun U hU hW => ⟨rfl, by rw [hU], by rw [hU]; exact TW.warm hW hT, by rw [hU]; exact hPc, va_K.moved hW.alike hKc, hDc.weaken (fun _ _ _ _ => trivial)⟩⟩ rfl rfl hl.1 rfl (lv_room (Nat.le_of_ble_eq_true rfl)) dX7_prefixes_9 ⟨Nat.le_of_ble_eq_true rfl, Nat.le_of_ble_eq_true rfl⟩) hS (fun q h9 h8 => absurd h8 (Nat.not_le_of_lt h9)) (fun q h8 => Nat.le_trans hS.1 h8) (fun q h9 h8 => absurd h8 (Nat.not_le_of_lt h9)) (fun E9 ce9 q9 u9 t9 H9 l9 ht9 hvm9 hu9 hE9 hz9 hk9 hS9 hce9 hcv9 hcl9 => vx_out (fun x h => (hcat x h).elim) hlocks hce9 hcv9 hcl9 (fun t8 ht8 ha8 => ⟨(), trivial, hE9, by rw [ht8]; exact hz9, fun q h1 h2 => by rw [ht8]; exact hk9 q h1 h2⟩) hS9.2.2 (Nat.le_of_ble_eq_true rfl) (Nat.le_of_ble_eq_true rfl)) (fun u9 t9 H9 l9 ht9 hvm9 hu9 hB9 hz9 hk9 hS9 => hu9.elim)
set_option maxHeartbeats 4000000 in
set_option maxRecDepth 100000 in
/-- select_p0 throws IndexOutOfBoundsException -/
theorem x_X7_select_p0 (l : Launch) (hls : l.stackTraces = false) (dC : Nat → ClassId) (dI : Nat → Nat → Nat) (q : Nat) (s0 : Nat) (s1 : Nat) (s2 : Nat) (tq : Nat) (ca : Nat) (rq : Nat) (rb : Nat) (rd : Nat) (uq : Nat) (bm : Nat) (am : Nat) (bs : Nat) (ap : Nat) (cJ : ClassId) (fm : Nat → Int64) (fs : Nat → Int64) (ft : Nat → Int64) (fc : Nat → Int64) (sm : Int64) (lo : Option Nat) (w : Int32) (sa sz : Nat) (hN : NI fm fs ft fc sm lo) (hW : pl w (fb_ct (bo fm) 4096) = false) : vx_Met l yX7_select wsX7_select ({ frames := 7, cells := 1, slots := 6, locals := 103 }) (va_Pc [.ref q, .int (nI 0), .int w] (fun U => va_Nw (.fieldLinkNest RX7 38 "SmallNumberSets$NumberSet" "buckets" "LSmallNumberSets$Buckets;" "SmallNumberSets") U ∧ U.heap.size = sz ∧ TW "java/lang/IndexOutOfBoundsException" 165 "no such cluster, level, place or bucket" sa (fun q => sz ≤ q) U U.heap ∧ va_P (dC, dI) vwCl [(q, .inr (6, [.ref s0, .ref s1, .ref s2])), (s0, .inr (3, [.ref tq, .ref rq, .ref uq])), (tq, .inr (4, [.ref ca, .long sm, .int (oI lo)])), (ca, .inl (cJ, 64, .inr (.inl fc))), (rq, .inr (5, [.ref rb])), (rb, .inr (0, [.ref rd])), (rd, .inl (cJ, 128, .inr (.inl ft))), (uq, .inr (1, [.ref bm, .ref bs])), (bm, .inr (0, [.ref am])), (am, .inl (cJ, 64, .inr (.inl fm))), (bs, .inr (0, [.ref ap])), (ap, .inl (cJ, 64, .inr (.inl fs)))] U.heap ∧ va_K (dC, dI) vwCl [(cJ, .long)] U ∧ va_D (fun _ => True) [(q, .inr (6, [.ref s0, .ref s1, .ref s2])), (s0, .inr (3, [.ref tq, .ref rq, .ref uq])), (tq, .inr (4, [.ref ca, .long sm, .int (oI lo)])), (ca, .inl (cJ, 64, .inr (.inl fc))), (rq, .inr (5, [.ref rb])), (rb, .inr (0, [.ref rd])), (rd, .inl (cJ, 128, .inr (.inl ft))), (uq, .inr (1, [.ref bm, .ref bs])), (bm, .inr (0, [.ref am])), (am, .inl (cJ, 64, .inr (.inl fm))), (bs, .inr (0, [.ref ap])), (ap, .inl (cJ, 64, .inr (.inl fs)))])) (va_Qv (fun _ : Unit => False) (fun _ _ => True) (fun q => sz ≤ q)) (vx_X (fun _ : Unit => True) (fun E _ _ => E = "java/lang/IndexOutOfBoundsException") (fun q => sz ≤ q)) 1 6 (fun q => sz ≤ q) := by
  refine vx_ofW (cc := cX7_select) (maxL := 4) (ret := (some .int)) (by decide) rfl ?_
  intro p e s m args below meth c s₁ B hml hcat hv
  obtain ⟨rfl, nw0, hsz, hT, hP, hK, hD⟩ := hv
  have hx := B.exec
  have hb := B.bytes
  have hr := B.returns
  have hts := atoms_spec (ws := wsX7_select) B.pre
  have hown : s.vm.findClass RX7 = some m.cls := findClass_of_methodNamed B.named
  have hlocks := B.notSynchronized
  subst hsz
  have hS : va_S (fun q => s.heap.size ≤ q) s.heap s.heap [] := va_S.rf
  have hP : va_P (dC, dI) vwCl [(q, .inr (6, [.ref s0, .ref s1, .ref s2])), (s0, .inr (3, [.ref tq, .ref rq, .ref uq])), (tq, .inr (4, [.ref ca, .long sm, .int (oI lo)])), (ca, .inl (cJ, 64, .inr (.inl fc))), (rq, .inr (5, [.ref rb])), (rb, .inr (0, [.ref rd])), (rd, .inl (cJ, 128, .inr (.inl ft))), (uq, .inr (1, [.ref bm, .ref bs])), (bm, .inr (0, [.ref am])), (am, .inl (cJ, 64, .inr (.inl fm))), (bs, .inr (0, [.ref ap])), (ap, .inl (cJ, 64, .inr (.inl fs)))] s.heap := hP
  have hl := lv_entry ([.ref q, .int (nI 0), .int w]) (n := 4) (Nat.le_of_ble_eq_true rfl)
  rw [lg_entry_eq]
  generalize (lg_sl ([.ref q, .int (nI 0), .int w]) ++ List.replicate (4 - (lg_sl ([.ref q, .int (nI 0), .int w])).length) Slot.unset).toArray = ls at hl ⊢
  have hl : lv_has ls 4 [(0, .ref q), (1, .int (nI 0)), (2, .int w)] := hl
  refine lv_aload_n hx hb dX7_select_0 rfl (lv_at hl 0 rfl) ?_
  refine lv_iload_n hx hb dX7_select_1 rfl (lv_at hl 1 rfl) ?_
  have hPc := hP.sub (ws' := [(q, .inr (6, [.ref s0, .ref s1, .ref s2]))]) [0] rfl
  have hKc := hK.sub (tys' := []) [] rfl
  refine va_csr (W.runV (As := [.int (nI 0)]) (rest := []) ⟨hx, hb, hml, hown, hts⟩ (c_X7_chosenSet_0 l dC dI q s0 s1 s2 ) (cwV 1 hts gX7_select_X7_chosenSet rfl rfl rfl (by decide +kernel) ⟨Nat.le_of_ble_eq_true rfl, Nat.le_of_ble_eq_true rfl⟩) ⟨fun a U g mk q => by obtain ⟨q0, qP, qK⟩ := q; exact ⟨q0, qP, va_K.moved (u := U) (U := U.calling g mk a) (Vm.Alike.refl U.vm) qK⟩, va_recv hKc hPc (ci := 6) (q0 := 0) rfl rfl, fun U hU hW => ⟨rfl, by rw [hU]; exact hPc, va_K.moved hW.alike hKc⟩⟩ rfl rfl hl.1 rfl (lv_room (Nat.le_of_ble_eq_true rfl)) dX7_select_2 ⟨Nat.le_of_ble_eq_true rfl, Nat.le_of_ble_eq_true rfl⟩) (fun r_2 hw_1 => ?_)
  have hw_1 := hw_1.symm
  subst hw_1
  refine lv_astore_n (lv' := [(3, .ref s0), (0, .ref q), (1, .int (nI 0)), (2, .int w)]) hx hb dX7_select_5 rfl hl (by decide) rfl (fun ls hl => ?_)
  refine lv_iload_n hx hb dX7_select_6 rfl (lv_at hl 3 rfl) ?_
  refine lv_aload_n hx hb dX7_select_7 rfl (lv_at hl 0 rfl) ?_
  refine va_getN (D := (dC, dI)) (ci := 3) (v := .ref uq) (C := RX3) (T := TX3) (N := 3) hx hb hts (by decide +kernel) hown hK hP 1 rfl rfl 2 (by decide) (va_Nw.use rfl nw0) (fun _ h9 => h9) rfl dX7_select_8 ?_
  have hPc := hP.sub (ws' := [(uq, .inr (1, [.ref bm, .ref bs])), (bm, .inr (0, [.ref am])), (am, .inl (cJ, 64, .inr (.inl fm))), (bs, .inr (0, [.ref ap])), (ap, .inl (cJ, 64, .inr (.inl fs)))]) [7, 8, 9, 10, 11] rfl
  have hKc := hK.sub (tys' := [(cJ, .long)]) [0] rfl
  refine vp_callSi (W.runV (As := []) (rest := [.int w]) ⟨hx, hb, hml, hown, hts⟩ (c_X1_memberCount l dC dI uq bm am bs ap cJ fm fs ) (cwV 0 hts gX7_select_X1_memberCount rfl rfl rfl (by decide +kernel) ⟨Nat.le_of_ble_eq_true rfl, Nat.le_of_ble_eq_true rfl⟩) ⟨fun a U g mk q => by obtain ⟨q0, qP, qK⟩ := q; exact ⟨q0, qP, va_K.moved (u := U) (U := U.calling g mk a) (Vm.Alike.refl U.vm) qK⟩, va_recv hKc hPc (ci := 1) (q0 := 0) rfl rfl, fun U hU hW => ⟨rfl, by rw [hU]; exact hPc, va_K.moved hW.alike hKc⟩⟩ rfl rfl hl.1 rfl (lv_room (Nat.le_of_ble_eq_true rfl)) dX7_select_11 ⟨Nat.le_of_ble_eq_true rfl, Nat.le_of_ble_eq_true rfl⟩) (fun r_4 hw_3 => ?_)
  subst hw_3
  have hPc := hP.sub (ws' := []) [] rfl
  have hKc := hK.sub (tys' := []) [] rfl
  have hDc := hD.sub (ws' := []) [] (by decide) rfl
  exact vx_callv (vx_runS (As := [.int w, .int (nI (fb_ct (bo fm) 4096))]) (rest := []) ⟨hx, hb, hml, hown, hts⟩ (x_X7_needPlace l hls dC dI w (fb_ct (bo fm) 4096) sa s.heap.size (by first | assumption | omega)) (va_cwS 2 hts gX7_select_X7_needPlace rfl rfl rfl (by decide +kernel) ⟨Nat.le_of_ble_eq_true rfl, Nat.le_of_ble_eq_true rfl⟩) ⟨fun a U g mk q => by obtain ⟨q0, q1, qT, qP, qK, qD⟩ := q; exact ⟨q0, q1, TW.same (u := U) (U := U.calling g mk a) rfl qT, qP, va_K.moved (u := U) (U := U.calling g mk a) (Vm.Alike.refl U.vm) qK, qD⟩, fun U hU hW => ⟨rfl, by rw [hU], by rw [hU]; exact TW.warm hW hT, by rw [hU]; exact hPc, va_K.moved hW.alike hKc, hDc.weaken (fun _ _ _ _ => trivial)⟩⟩ rfl rfl hl.1 rfl (lv_room (Nat.le_of_ble_eq_true rfl)) dX7_select_14 ⟨Nat.le_of_ble_eq_true rfl, Nat.le_of_ble_eq_true rfl⟩) hS (fun q h9 h8 => absurd h8 (Nat.not_le_of_lt h9)) (fun q h8 => Nat.le_trans hS.1 h8) (fun q h9 h8 => absurd h8 (Nat.not_le_of_lt h9)) (fun E9 ce9 q9 u9 t9 H9 l9 ht9 hvm9 hu9 hE9 hz9 hk9 hS9 hce9 hcv9 hcl9 => vx_out (fun x h => (hcat x h).elim) hlocks hce9 hcv9 hcl9 (fun t8 ht8 ha8 => ⟨(), trivial, hE9, by rw [ht8]; exact hz9, fun q h1 h2 => by rw [ht8]; exact hk9 q h1 h2⟩) hS9.2.2 (Nat.le_of_ble_eq_true rfl) (Nat.le_of_ble_eq_true rfl)) (fun u9 t9 H9 l9 ht9 hvm9 hu9 hB9 hz9 hk9 hS9 => hu9.elim)
set_option maxHeartbeats 4000000 in
set_option maxRecDepth 100000 in
/-- separator_p0 throws IndexOutOfBoundsException -/
theorem x_X7_separator_p0 (l : Launch) (hls : l.stackTraces = false) (dC : Nat → ClassId) (dI : Nat → Nat → Nat) (q : Nat) (s0 : Nat) (s1 : Nat) (s2 : Nat) (tq : Nat) (ca : Nat) (rq : Nat) (rb : Nat) (rd : Nat) (uq : Nat) (bm : Nat) (am : Nat) (bs : Nat) (ap : Nat) (cJ : ClassId) (fm : Nat → Int64) (fs : Nat → Int64) (ft : Nat → Int64) (fc : Nat → Int64) (sm : Int64) (lo : Option Nat) (w : Int32) (sa sz : Nat) (hN : NI fm fs ft fc sm lo) (hW : pl w (fb_ct (bo fs) 4096) = false) : vx_Met l yX7_separator wsX7_separator ({ frames := 7, cells := 1, slots := 6, locals := 103 }) (va_Pc [.ref q, .int (nI 0), .int w] (fun U => va_Nw (.fieldLinkNest RX7 38 "SmallNumberSets$NumberSet" "buckets" "LSmallNumberSets$Buckets;" "SmallNumberSets") U ∧ U.heap.size = sz ∧ TW "java/lang/IndexOutOfBoundsException" 165 "no such cluster, level, place or bucket" sa (fun q => sz ≤ q) U U.heap ∧ va_P (dC, dI) vwCl [(q, .inr (6, [.ref s0, .ref s1, .ref s2])), (s0, .inr (3, [.ref tq, .ref rq, .ref uq])), (tq, .inr (4, [.ref ca, .long sm, .int (oI lo)])), (ca, .inl (cJ, 64, .inr (.inl fc))), (rq, .inr (5, [.ref rb])), (rb, .inr (0, [.ref rd])), (rd, .inl (cJ, 128, .inr (.inl ft))), (uq, .inr (1, [.ref bm, .ref bs])), (bm, .inr (0, [.ref am])), (am, .inl (cJ, 64, .inr (.inl fm))), (bs, .inr (0, [.ref ap])), (ap, .inl (cJ, 64, .inr (.inl fs)))] U.heap ∧ va_K (dC, dI) vwCl [(cJ, .long)] U ∧ va_D (fun _ => True) [(q, .inr (6, [.ref s0, .ref s1, .ref s2])), (s0, .inr (3, [.ref tq, .ref rq, .ref uq])), (tq, .inr (4, [.ref ca, .long sm, .int (oI lo)])), (ca, .inl (cJ, 64, .inr (.inl fc))), (rq, .inr (5, [.ref rb])), (rb, .inr (0, [.ref rd])), (rd, .inl (cJ, 128, .inr (.inl ft))), (uq, .inr (1, [.ref bm, .ref bs])), (bm, .inr (0, [.ref am])), (am, .inl (cJ, 64, .inr (.inl fm))), (bs, .inr (0, [.ref ap])), (ap, .inl (cJ, 64, .inr (.inl fs)))])) (va_Qv (fun _ : Unit => False) (fun _ _ => True) (fun q => sz ≤ q)) (vx_X (fun _ : Unit => True) (fun E _ _ => E = "java/lang/IndexOutOfBoundsException") (fun q => sz ≤ q)) 1 6 (fun q => sz ≤ q) := by
  refine vx_ofW (cc := cX7_separator) (maxL := 4) (ret := (some .int)) (by decide) rfl ?_
  intro p e s m args below meth c s₁ B hml hcat hv
  obtain ⟨rfl, nw0, hsz, hT, hP, hK, hD⟩ := hv
  have hx := B.exec
  have hb := B.bytes
  have hr := B.returns
  have hts := atoms_spec (ws := wsX7_separator) B.pre
  have hown : s.vm.findClass RX7 = some m.cls := findClass_of_methodNamed B.named
  have hlocks := B.notSynchronized
  subst hsz
  have hS : va_S (fun q => s.heap.size ≤ q) s.heap s.heap [] := va_S.rf
  have hP : va_P (dC, dI) vwCl [(q, .inr (6, [.ref s0, .ref s1, .ref s2])), (s0, .inr (3, [.ref tq, .ref rq, .ref uq])), (tq, .inr (4, [.ref ca, .long sm, .int (oI lo)])), (ca, .inl (cJ, 64, .inr (.inl fc))), (rq, .inr (5, [.ref rb])), (rb, .inr (0, [.ref rd])), (rd, .inl (cJ, 128, .inr (.inl ft))), (uq, .inr (1, [.ref bm, .ref bs])), (bm, .inr (0, [.ref am])), (am, .inl (cJ, 64, .inr (.inl fm))), (bs, .inr (0, [.ref ap])), (ap, .inl (cJ, 64, .inr (.inl fs)))] s.heap := hP
  have hl := lv_entry ([.ref q, .int (nI 0), .int w]) (n := 4) (Nat.le_of_ble_eq_true rfl)
  rw [lg_entry_eq]
  generalize (lg_sl ([.ref q, .int (nI 0), .int w]) ++ List.replicate (4 - (lg_sl ([.ref q, .int (nI 0), .int w])).length) Slot.unset).toArray = ls at hl ⊢
  have hl : lv_has ls 4 [(0, .ref q), (1, .int (nI 0)), (2, .int w)] := hl
  refine lv_aload_n hx hb dX7_separator_0 rfl (lv_at hl 0 rfl) ?_
  refine lv_iload_n hx hb dX7_separator_1 rfl (lv_at hl 1 rfl) ?_
  have hPc := hP.sub (ws' := [(q, .inr (6, [.ref s0, .ref s1, .ref s2]))]) [0] rfl
  have hKc := hK.sub (tys' := []) [] rfl
  refine va_csr (W.runV (As := [.int (nI 0)]) (rest := []) ⟨hx, hb, hml, hown, hts⟩ (c_X7_chosenSet_0 l dC dI q s0 s1 s2 ) (cwV 1 hts gX7_separator_X7_chosenSet rfl rfl rfl (by decide +kernel) ⟨Nat.le_of_ble_eq_true rfl, Nat.le_of_ble_eq_true rfl⟩) ⟨fun a U g mk q => by obtain ⟨q0, qP, qK⟩ := q; exact ⟨q0, qP, va_K.moved (u := U) (U := U.calling g mk a) (Vm.Alike.refl U.vm) qK⟩, va_recv hKc hPc (ci := 6) (q0 := 0) rfl rfl, fun U hU hW => ⟨rfl, by rw [hU]; exact hPc, va_K.moved hW.alike hKc⟩⟩ rfl rfl hl.1 rfl (lv_room (Nat.le_of_ble_eq_true rfl)) dX7_separator_2 ⟨Nat.le_of_ble_eq_true rfl, Nat.le_of_ble_eq_true rfl⟩) (fun r_2 hw_1 => ?_)
  have hw_1 := hw_1.symm
  subst hw_1
  refine lv_astore_n (lv' := [(3, .ref s0), (0, .ref q), (1, .int (nI 0)), (2, .int w)]) hx hb dX7_separator_5 rfl hl (by decide) rfl (fun ls hl => ?_)
  refine lv_iload_n hx hb dX7_separator_6 rfl (lv_at hl 3 rfl) ?_
  refine lv_aload_n hx hb dX7_separator_7 rfl (lv_at hl 0 rfl) ?_
  refine va_getN (D := (dC, dI)) (ci := 3) (v := .ref uq) (C := RX3) (T := TX3) (N := 3) hx hb hts (by decide +kernel) hown hK hP 1 rfl rfl 2 (by decide) (va_Nw.use rfl nw0) (fun _ h9 => h9) rfl dX7_separator_8 ?_
  have hPc := hP.sub (ws' := [(uq, .inr (1, [.ref bm, .ref bs])), (bm, .inr (0, [.ref am])), (am, .inl (cJ, 64, .inr (.inl fm))), (bs, .inr (0, [.ref ap])), (ap, .inl (cJ, 64, .inr (.inl fs)))]) [7, 8, 9, 10, 11] rfl
  have hKc := hK.sub (tys' := [(cJ, .long)]) [0] rfl
  refine vp_callSi (W.runV (As := []) (rest := [.int w]) ⟨hx, hb, hml, hown, hts⟩ (c_X1_bucketCount l dC dI uq bm am bs ap cJ fm fs ) (cwV 0 hts gX7_separator_X1_bucketCount rfl rfl rfl (by decide +kernel) ⟨Nat.le_of_ble_eq_true rfl, Nat.le_of_ble_eq_true rfl⟩) ⟨fun a U g mk q => by obtain ⟨q0, qP, qK⟩ := q; exact ⟨q0, qP, va_K.moved (u := U) (U := U.calling g mk a) (Vm.Alike.refl U.vm) qK⟩, va_recv hKc hPc (ci := 1) (q0 := 0) rfl rfl, fun U hU hW => ⟨rfl, by rw [hU]; exact hPc, va_K.moved hW.alike hKc⟩⟩ rfl rfl hl.1 rfl (lv_room (Nat.le_of_ble_eq_true rfl)) dX7_separator_11 ⟨Nat.le_of_ble_eq_true rfl, Nat.le_of_ble_eq_true rfl⟩) (fun r_4 hw_3 => ?_)
  subst hw_3
  have hPc := hP.sub (ws' := []) [] rfl
  have hKc := hK.sub (tys' := []) [] rfl
  have hDc := hD.sub (ws' := []) [] (by decide) rfl
  exact vx_callv (vx_runS (As := [.int w, .int (nI (fb_ct (bo fs) 4096))]) (rest := []) ⟨hx, hb, hml, hown, hts⟩ (x_X7_needPlace l hls dC dI w (fb_ct (bo fs) 4096) sa s.heap.size (by first | assumption | omega)) (va_cwS 2 hts gX7_separator_X7_needPlace rfl rfl rfl (by decide +kernel) ⟨Nat.le_of_ble_eq_true rfl, Nat.le_of_ble_eq_true rfl⟩) ⟨fun a U g mk q => by obtain ⟨q0, q1, qT, qP, qK, qD⟩ := q; exact ⟨q0, q1, TW.same (u := U) (U := U.calling g mk a) rfl qT, qP, va_K.moved (u := U) (U := U.calling g mk a) (Vm.Alike.refl U.vm) qK, qD⟩, fun U hU hW => ⟨rfl, by rw [hU], by rw [hU]; exact TW.warm hW hT, by rw [hU]; exact hPc, va_K.moved hW.alike hKc, hDc.weaken (fun _ _ _ _ => trivial)⟩⟩ rfl rfl hl.1 rfl (lv_room (Nat.le_of_ble_eq_true rfl)) dX7_separator_14 ⟨Nat.le_of_ble_eq_true rfl, Nat.le_of_ble_eq_true rfl⟩) hS (fun q h9 h8 => absurd h8 (Nat.not_le_of_lt h9)) (fun q h8 => Nat.le_trans hS.1 h8) (fun q h9 h8 => absurd h8 (Nat.not_le_of_lt h9)) (fun E9 ce9 q9 u9 t9 H9 l9 ht9 hvm9 hu9 hE9 hz9 hk9 hS9 hce9 hcv9 hcl9 => vx_out (fun x h => (hcat x h).elim) hlocks hce9 hcv9 hcl9 (fun t8 ht8 ha8 => ⟨(), trivial, hE9, by rw [ht8]; exact hz9, fun q h1 h2 => by rw [ht8]; exact hk9 q h1 h2⟩) hS9.2.2 (Nat.le_of_ble_eq_true rfl) (Nat.le_of_ble_eq_true rfl)) (fun u9 t9 H9 l9 ht9 hvm9 hu9 hB9 hz9 hk9 hS9 => hu9.elim)
set_option maxHeartbeats 4000000 in
set_option maxRecDepth 100000 in
/-- bucketSize_p0 throws IndexOutOfBoundsException -/
theorem x_X7_bucketSize_p0 (l : Launch) (hls : l.stackTraces = false) (dC : Nat → ClassId) (dI : Nat → Nat → Nat) (q : Nat) (s0 : Nat) (s1 : Nat) (s2 : Nat) (tq : Nat) (ca : Nat) (rq : Nat) (rb : Nat) (rd : Nat) (uq : Nat) (bm : Nat) (am : Nat) (bs : Nat) (ap : Nat) (cJ : ClassId) (fm : Nat → Int64) (fs : Nat → Int64) (ft : Nat → Int64) (fc : Nat → Int64) (sm : Int64) (lo : Option Nat) (w : Int32) (sa sz : Nat) (hN : NI fm fs ft fc sm lo) (hW : pl w (fb_ct (bo fs) 4096) = false) : vx_Met l yX7_bucketSize wsX7_bucketSize ({ frames := 7, cells := 1, slots := 6, locals := 103 }) (va_Pc [.ref q, .int (nI 0), .int w] (fun U => va_Nw (.fieldLinkNest RX7 38 "SmallNumberSets$NumberSet" "buckets" "LSmallNumberSets$Buckets;" "SmallNumberSets") U ∧ U.heap.size = sz ∧ TW "java/lang/IndexOutOfBoundsException" 165 "no such cluster, level, place or bucket" sa (fun q => sz ≤ q) U U.heap ∧ va_P (dC, dI) vwCl [(q, .inr (6, [.ref s0, .ref s1, .ref s2])), (s0, .inr (3, [.ref tq, .ref rq, .ref uq])), (tq, .inr (4, [.ref ca, .long sm, .int (oI lo)])), (ca, .inl (cJ, 64, .inr (.inl fc))), (rq, .inr (5, [.ref rb])), (rb, .inr (0, [.ref rd])), (rd, .inl (cJ, 128, .inr (.inl ft))), (uq, .inr (1, [.ref bm, .ref bs])), (bm, .inr (0, [.ref am])), (am, .inl (cJ, 64, .inr (.inl fm))), (bs, .inr (0, [.ref ap])), (ap, .inl (cJ, 64, .inr (.inl fs)))] U.heap ∧ va_K (dC, dI) vwCl [(cJ, .long)] U ∧ va_D (fun _ => True) [(q, .inr (6, [.ref s0, .ref s1, .ref s2])), (s0, .inr (3, [.ref tq, .ref rq, .ref uq])), (tq, .inr (4, [.ref ca, .long sm, .int (oI lo)])), (ca, .inl (cJ, 64, .inr (.inl fc))), (rq, .inr (5, [.ref rb])), (rb, .inr (0, [.ref rd])), (rd, .inl (cJ, 128, .inr (.inl ft))), (uq, .inr (1, [.ref bm, .ref bs])), (bm, .inr (0, [.ref am])), (am, .inl (cJ, 64, .inr (.inl fm))), (bs, .inr (0, [.ref ap])), (ap, .inl (cJ, 64, .inr (.inl fs)))])) (va_Qv (fun _ : Unit => False) (fun _ _ => True) (fun q => sz ≤ q)) (vx_X (fun _ : Unit => True) (fun E _ _ => E = "java/lang/IndexOutOfBoundsException") (fun q => sz ≤ q)) 1 6 (fun q => sz ≤ q) := by
  refine vx_ofW (cc := cX7_bucketSize) (maxL := 4) (ret := (some .int)) (by decide) rfl ?_
  intro p e s m args below meth c s₁ B hml hcat hv
  obtain ⟨rfl, nw0, hsz, hT, hP, hK, hD⟩ := hv
  have hx := B.exec
  have hb := B.bytes
  have hr := B.returns
  have hts := atoms_spec (ws := wsX7_bucketSize) B.pre
  have hown : s.vm.findClass RX7 = some m.cls := findClass_of_methodNamed B.named
  have hlocks := B.notSynchronized
  subst hsz
  have hS : va_S (fun q => s.heap.size ≤ q) s.heap s.heap [] := va_S.rf
  have hP : va_P (dC, dI) vwCl [(q, .inr (6, [.ref s0, .ref s1, .ref s2])), (s0, .inr (3, [.ref tq, .ref rq, .ref uq])), (tq, .inr (4, [.ref ca, .long sm, .int (oI lo)])), (ca, .inl (cJ, 64, .inr (.inl fc))), (rq, .inr (5, [.ref rb])), (rb, .inr (0, [.ref rd])), (rd, .inl (cJ, 128, .inr (.inl ft))), (uq, .inr (1, [.ref bm, .ref bs])), (bm, .inr (0, [.ref am])), (am, .inl (cJ, 64, .inr (.inl fm))), (bs, .inr (0, [.ref ap])), (ap, .inl (cJ, 64, .inr (.inl fs)))] s.heap := hP
  have hl := lv_entry ([.ref q, .int (nI 0), .int w]) (n := 4) (Nat.le_of_ble_eq_true rfl)
  rw [lg_entry_eq]
  generalize (lg_sl ([.ref q, .int (nI 0), .int w]) ++ List.replicate (4 - (lg_sl ([.ref q, .int (nI 0), .int w])).length) Slot.unset).toArray = ls at hl ⊢
  have hl : lv_has ls 4 [(0, .ref q), (1, .int (nI 0)), (2, .int w)] := hl
  refine lv_aload_n hx hb dX7_bucketSize_0 rfl (lv_at hl 0 rfl) ?_
  refine lv_iload_n hx hb dX7_bucketSize_1 rfl (lv_at hl 1 rfl) ?_
  have hPc := hP.sub (ws' := [(q, .inr (6, [.ref s0, .ref s1, .ref s2]))]) [0] rfl
  have hKc := hK.sub (tys' := []) [] rfl
  refine va_csr (W.runV (As := [.int (nI 0)]) (rest := []) ⟨hx, hb, hml, hown, hts⟩ (c_X7_chosenSet_0 l dC dI q s0 s1 s2 ) (cwV 1 hts gX7_bucketSize_X7_chosenSet rfl rfl rfl (by decide +kernel) ⟨Nat.le_of_ble_eq_true rfl, Nat.le_of_ble_eq_true rfl⟩) ⟨fun a U g mk q => by obtain ⟨q0, qP, qK⟩ := q; exact ⟨q0, qP, va_K.moved (u := U) (U := U.calling g mk a) (Vm.Alike.refl U.vm) qK⟩, va_recv hKc hPc (ci := 6) (q0 := 0) rfl rfl, fun U hU hW => ⟨rfl, by rw [hU]; exact hPc, va_K.moved hW.alike hKc⟩⟩ rfl rfl hl.1 rfl (lv_room (Nat.le_of_ble_eq_true rfl)) dX7_bucketSize_2 ⟨Nat.le_of_ble_eq_true rfl, Nat.le_of_ble_eq_true rfl⟩) (fun r_2 hw_1 => ?_)
  have hw_1 := hw_1.symm
  subst hw_1
  refine lv_astore_n (lv' := [(3, .ref s0), (0, .ref q), (1, .int (nI 0)), (2, .int w)]) hx hb dX7_bucketSize_5 rfl hl (by decide) rfl (fun ls hl => ?_)
  refine lv_iload_n hx hb dX7_bucketSize_6 rfl (lv_at hl 3 rfl) ?_
  refine lv_aload_n hx hb dX7_bucketSize_7 rfl (lv_at hl 0 rfl) ?_
  refine va_getN (D := (dC, dI)) (ci := 3) (v := .ref uq) (C := RX3) (T := TX3) (N := 3) hx hb hts (by decide +kernel) hown hK hP 1 rfl rfl 2 (by decide) (va_Nw.use rfl nw0) (fun _ h9 => h9) rfl dX7_bucketSize_8 ?_
  have hPc := hP.sub (ws' := [(uq, .inr (1, [.ref bm, .ref bs])), (bm, .inr (0, [.ref am])), (am, .inl (cJ, 64, .inr (.inl fm))), (bs, .inr (0, [.ref ap])), (ap, .inl (cJ, 64, .inr (.inl fs)))]) [7, 8, 9, 10, 11] rfl
  have hKc := hK.sub (tys' := [(cJ, .long)]) [0] rfl
  refine vp_callSi (W.runV (As := []) (rest := [.int w]) ⟨hx, hb, hml, hown, hts⟩ (c_X1_bucketCount l dC dI uq bm am bs ap cJ fm fs ) (cwV 0 hts gX7_bucketSize_X1_bucketCount rfl rfl rfl (by decide +kernel) ⟨Nat.le_of_ble_eq_true rfl, Nat.le_of_ble_eq_true rfl⟩) ⟨fun a U g mk q => by obtain ⟨q0, qP, qK⟩ := q; exact ⟨q0, qP, va_K.moved (u := U) (U := U.calling g mk a) (Vm.Alike.refl U.vm) qK⟩, va_recv hKc hPc (ci := 1) (q0 := 0) rfl rfl, fun U hU hW => ⟨rfl, by rw [hU]; exact hPc, va_K.moved hW.alike hKc⟩⟩ rfl rfl hl.1 rfl (lv_room (Nat.le_of_ble_eq_true rfl)) dX7_bucketSize_11 ⟨Nat.le_of_ble_eq_true rfl, Nat.le_of_ble_eq_true rfl⟩) (fun r_4 hw_3 => ?_)
  subst hw_3
  have hPc := hP.sub (ws' := []) [] rfl
  have hKc := hK.sub (tys' := []) [] rfl
  have hDc := hD.sub (ws' := []) [] (by decide) rfl
  exact vx_callv (vx_runS (As := [.int w, .int (nI (fb_ct (bo fs) 4096))]) (rest := []) ⟨hx, hb, hml, hown, hts⟩ (x_X7_needPlace l hls dC dI w (fb_ct (bo fs) 4096) sa s.heap.size (by first | assumption | omega)) (va_cwS 2 hts gX7_bucketSize_X7_needPlace rfl rfl rfl (by decide +kernel) ⟨Nat.le_of_ble_eq_true rfl, Nat.le_of_ble_eq_true rfl⟩) ⟨fun a U g mk q => by obtain ⟨q0, q1, qT, qP, qK, qD⟩ := q; exact ⟨q0, q1, TW.same (u := U) (U := U.calling g mk a) rfl qT, qP, va_K.moved (u := U) (U := U.calling g mk a) (Vm.Alike.refl U.vm) qK, qD⟩, fun U hU hW => ⟨rfl, by rw [hU], by rw [hU]; exact TW.warm hW hT, by rw [hU]; exact hPc, va_K.moved hW.alike hKc, hDc.weaken (fun _ _ _ _ => trivial)⟩⟩ rfl rfl hl.1 rfl (lv_room (Nat.le_of_ble_eq_true rfl)) dX7_bucketSize_14 ⟨Nat.le_of_ble_eq_true rfl, Nat.le_of_ble_eq_true rfl⟩) hS (fun q h9 h8 => absurd h8 (Nat.not_le_of_lt h9)) (fun q h8 => Nat.le_trans hS.1 h8) (fun q h9 h8 => absurd h8 (Nat.not_le_of_lt h9)) (fun E9 ce9 q9 u9 t9 H9 l9 ht9 hvm9 hu9 hE9 hz9 hk9 hS9 hce9 hcv9 hcl9 => vx_out (fun x h => (hcat x h).elim) hlocks hce9 hcv9 hcl9 (fun t8 ht8 ha8 => ⟨(), trivial, hE9, by rw [ht8]; exact hz9, fun q h1 h2 => by rw [ht8]; exact hk9 q h1 h2⟩) hS9.2.2 (Nat.le_of_ble_eq_true rfl) (Nat.le_of_ble_eq_true rfl)) (fun u9 t9 H9 l9 ht9 hvm9 hu9 hB9 hz9 hk9 hS9 => hu9.elim)
set_option maxHeartbeats 4000000 in
set_option maxRecDepth 100000 in
/-- pollFirst_e0 throws NoSuchElementException -/
theorem x_X7_pollFirst_e0 (l : Launch) (hls : l.stackTraces = false) (dC : Nat → ClassId) (dI : Nat → Nat → Nat) (q : Nat) (s0 : Nat) (s1 : Nat) (s2 : Nat) (tq : Nat) (ca : Nat) (rq : Nat) (rb : Nat) (rd : Nat) (uq : Nat) (bm : Nat) (am : Nat) (bs : Nat) (ap : Nat) (cJ : ClassId) (fm : Nat → Int64) (fs : Nat → Int64) (ft : Nat → Int64) (fc : Nat → Int64) (sm : Int64) (lo : Option Nat) (sa sz : Nat) (hN : NI fm fs ft fc sm lo) (hz : fst1 (bo fm) 4096 = none) : vx_Met l yX7_pollFirst wsX7_pollFirst ({ frames := 7, cells := 1, slots := 6, locals := 102 }) (va_Pc [.ref q, .int (nI 0)] (fun U => va_Nw (.fieldLinkNest RX7 62 "SmallNumberSets$NumberSet" "tree" "LSmallNumberSets$Tree;" "SmallNumberSets") U ∧ U.heap.size = sz ∧ TW "java/util/NoSuchElementException" 162 "the set is empty" sa (fun q => sz ≤ q) U U.heap ∧ va_P (dC, dI) vwCl [(q, .inr (6, [.ref s0, .ref s1, .ref s2])), (s0, .inr (3, [.ref tq, .ref rq, .ref uq])), (tq, .inr (4, [.ref ca, .long sm, .int (oI lo)])), (ca, .inl (cJ, 64, .inr (.inl fc))), (rq, .inr (5, [.ref rb])), (rb, .inr (0, [.ref rd])), (rd, .inl (cJ, 128, .inr (.inl ft))), (uq, .inr (1, [.ref bm, .ref bs])), (bm, .inr (0, [.ref am])), (am, .inl (cJ, 64, .inr (.inl fm))), (bs, .inr (0, [.ref ap])), (ap, .inl (cJ, 64, .inr (.inl fs)))] U.heap ∧ va_K (dC, dI) vwCl [(cJ, .long)] U ∧ va_D (fun _ => True) [(q, .inr (6, [.ref s0, .ref s1, .ref s2])), (s0, .inr (3, [.ref tq, .ref rq, .ref uq])), (tq, .inr (4, [.ref ca, .long sm, .int (oI lo)])), (ca, .inl (cJ, 64, .inr (.inl fc))), (rq, .inr (5, [.ref rb])), (rb, .inr (0, [.ref rd])), (rd, .inl (cJ, 128, .inr (.inl ft))), (uq, .inr (1, [.ref bm, .ref bs])), (bm, .inr (0, [.ref am])), (am, .inl (cJ, 64, .inr (.inl fm))), (bs, .inr (0, [.ref ap])), (ap, .inl (cJ, 64, .inr (.inl fs)))])) (va_Qv (fun _ : Unit => False) (fun _ _ => True) (fun q => sz ≤ q)) (vx_X (fun _ : Unit => True) (fun E _ _ => E = "java/util/NoSuchElementException") (fun q => sz ≤ q)) 1 6 (fun q => sz ≤ q) := by
  refine vx_ofW (cc := cX7_pollFirst) (maxL := 4) (ret := (some .int)) (by decide) rfl ?_
  intro p e s m args below meth c s₁ B hml hcat hv
  obtain ⟨rfl, nw0, hsz, hT, hP, hK, hD⟩ := hv
  have hx := B.exec
  have hb := B.bytes
  have hr := B.returns
  have hts := atoms_spec (ws := wsX7_pollFirst) B.pre
  have hown : s.vm.findClass RX7 = some m.cls := findClass_of_methodNamed B.named
  have hlocks := B.notSynchronized
  subst hsz
  have hS : va_S (fun q => s.heap.size ≤ q) s.heap s.heap [] := va_S.rf
  have hP : va_P (dC, dI) vwCl [(q, .inr (6, [.ref s0, .ref s1, .ref s2])), (s0, .inr (3, [.ref tq, .ref rq, .ref uq])), (tq, .inr (4, [.ref ca, .long sm, .int (oI lo)])), (ca, .inl (cJ, 64, .inr (.inl fc))), (rq, .inr (5, [.ref rb])), (rb, .inr (0, [.ref rd])), (rd, .inl (cJ, 128, .inr (.inl ft))), (uq, .inr (1, [.ref bm, .ref bs])), (bm, .inr (0, [.ref am])), (am, .inl (cJ, 64, .inr (.inl fm))), (bs, .inr (0, [.ref ap])), (ap, .inl (cJ, 64, .inr (.inl fs)))] s.heap := hP
  have hl := lv_entry ([.ref q, .int (nI 0)]) (n := 4) (Nat.le_of_ble_eq_true rfl)
  rw [lg_entry_eq]
  generalize (lg_sl ([.ref q, .int (nI 0)]) ++ List.replicate (4 - (lg_sl ([.ref q, .int (nI 0)])).length) Slot.unset).toArray = ls at hl ⊢
  have hl : lv_has ls 4 [(0, .ref q), (1, .int (nI 0))] := hl
  refine lv_aload_n hx hb dX7_pollFirst_0 rfl (lv_at hl 0 rfl) ?_
  refine lv_iload_n hx hb dX7_pollFirst_1 rfl (lv_at hl 1 rfl) ?_
  have hPc := hP.sub (ws' := [(q, .inr (6, [.ref s0, .ref s1, .ref s2]))]) [0] rfl
  have hKc := hK.sub (tys' := []) [] rfl
  refine va_csr (W.runV (As := [.int (nI 0)]) (rest := []) ⟨hx, hb, hml, hown, hts⟩ (c_X7_chosenSet_0 l dC dI q s0 s1 s2 ) (cwV 1 hts gX7_pollFirst_X7_chosenSet rfl rfl rfl (by decide +kernel) ⟨Nat.le_of_ble_eq_true rfl, Nat.le_of_ble_eq_true rfl⟩) ⟨fun a U g mk q => by obtain ⟨q0, qP, qK⟩ := q; exact ⟨q0, qP, va_K.moved (u := U) (U := U.calling g mk a) (Vm.Alike.refl U.vm) qK⟩, va_recv hKc hPc (ci := 6) (q0 := 0) rfl rfl, fun U hU hW => ⟨rfl, by rw [hU]; exact hPc, va_K.moved hW.alike hKc⟩⟩ rfl rfl hl.1 rfl (lv_room (Nat.le_of_ble_eq_true rfl)) dX7_pollFirst_2 ⟨Nat.le_of_ble_eq_true rfl, Nat.le_of_ble_eq_true rfl⟩) (fun r_2 hw_1 => ?_)
  have hw_1 := hw_1.symm
  subst hw_1
  refine lv_astore_n (lv' := [(2, .ref s0), (0, .ref q), (1, .int (nI 0))]) hx hb dX7_pollFirst_5 rfl hl (by decide) rfl (fun ls hl => ?_)
  refine lv_aload_n hx hb dX7_pollFirst_6 rfl (lv_at hl 0 rfl) ?_
  refine va_getN (D := (dC, dI)) (ci := 3) (v := .ref tq) (C := RX3) (T := TX3) (N := 3) hx hb hts (by decide +kernel) hown hK hP 1 rfl rfl 0 (by decide) (va_Nw.use rfl nw0) (fun _ h9 => h9) rfl dX7_pollFirst_7 ?_
  have hPc := hP.sub (ws' := [(tq, .inr (4, [.ref ca, .long sm, .int (oI lo)])), (ca, .inl (cJ, 64, .inr (.inl fc)))]) [2, 3] rfl
  have hKc := hK.sub (tys' := [(cJ, .long)]) [0] rfl
  refine vp_callSi (W.runV (As := []) (rest := []) ⟨hx, hb, hml, hown, hts⟩ (c_X4_least l dC dI tq ca cJ fc sm lo ) (cwV 0 hts gX7_pollFirst_X4_least rfl rfl rfl (by decide +kernel) ⟨Nat.le_of_ble_eq_true rfl, Nat.le_of_ble_eq_true rfl⟩) ⟨fun a U g mk q => by obtain ⟨q0, qP, qK⟩ := q; exact ⟨q0, qP, va_K.moved (u := U) (U := U.calling g mk a) (Vm.Alike.refl U.vm) qK⟩, va_recv hKc hPc (ci := 4) (q0 := 0) rfl rfl, fun U hU hW => ⟨rfl, by rw [hU]; exact hPc, va_K.moved hW.alike hKc⟩⟩ rfl rfl hl.1 rfl (lv_room (Nat.le_of_ble_eq_true rfl)) dX7_pollFirst_10 ⟨Nat.le_of_ble_eq_true rfl, Nat.le_of_ble_eq_true rfl⟩) (fun r_4 hw_3 => ?_)
  subst hw_3
  refine lv_cvi (congrArg oI (hN.2.2.1.trans hz)) ?_
  refine lv_cvi ((rfl : oI none = -1)) ?_
  refine lv_istore_n (lv' := [(3, .int (-1)), (2, .ref s0), (0, .ref q), (1, .int (nI 0))]) hx hb dX7_pollFirst_13 rfl hl (by decide) rfl (fun ls hl => ?_)
  refine lv_iload_n hx hb dX7_pollFirst_14 rfl (lv_at hl 0 rfl) ?_
  have hPc := hP.sub (ws' := []) [] rfl
  have hKc := hK.sub (tys' := []) [] rfl
  have hDc := hD.sub (ws' := []) [] (by decide) rfl
  exact vx_callv (vx_runS (As := [.int (-1)]) (rest := []) ⟨hx, hb, hml, hown, hts⟩ (x_X7_needMember l hls dC dI  sa s.heap.size ) (va_cwS 1 hts gX7_pollFirst_X7_needMember rfl rfl rfl (by decide +kernel) ⟨Nat.le_of_ble_eq_true rfl, Nat.le_of_ble_eq_true rfl⟩) ⟨fun a U g mk q => by obtain ⟨q0, q1, qT, qP, qK, qD⟩ := q; exact ⟨q0, q1, TW.same (u := U) (U := U.calling g mk a) rfl qT, qP, va_K.moved (u := U) (U := U.calling g mk a) (Vm.Alike.refl U.vm) qK, qD⟩, fun U hU hW => ⟨rfl, by rw [hU], by rw [hU]; exact TW.warm hW hT, by rw [hU]; exact hPc, va_K.moved hW.alike hKc, hDc.weaken (fun _ _ _ _ => trivial)⟩⟩ rfl rfl hl.1 rfl (lv_room (Nat.le_of_ble_eq_true rfl)) dX7_pollFirst_15 ⟨Nat.le_of_ble_eq_true rfl, Nat.le_of_ble_eq_true rfl⟩) hS (fun q h9 h8 => absurd h8 (Nat.not_le_of_lt h9)) (fun q h8 => Nat.le_trans hS.1 h8) (fun q h9 h8 => absurd h8 (Nat.not_le_of_lt h9)) (fun E9 ce9 q9 u9 t9 H9 l9 ht9 hvm9 hu9 hE9 hz9 hk9 hS9 hce9 hcv9 hcl9 => vx_out (fun x h => (hcat x h).elim) hlocks hce9 hcv9 hcl9 (fun t8 ht8 ha8 => ⟨(), trivial, hE9, by rw [ht8]; exact hz9, fun q h1 h2 => by rw [ht8]; exact hk9 q h1 h2⟩) hS9.2.2 (Nat.le_of_ble_eq_true rfl) (Nat.le_of_ble_eq_true rfl)) (fun u9 t9 H9 l9 ht9 hvm9 hu9 hB9 hz9 hk9 hS9 => hu9.elim)
set_option maxHeartbeats 4000000 in
set_option maxRecDepth 100000 in
/-- pollLast_e0 throws NoSuchElementException -/
theorem x_X7_pollLast_e0 (l : Launch) (hls : l.stackTraces = false) (dC : Nat → ClassId) (dI : Nat → Nat → Nat) (q : Nat) (s0 : Nat) (s1 : Nat) (s2 : Nat) (tq : Nat) (ca : Nat) (rq : Nat) (rb : Nat) (rd : Nat) (uq : Nat) (bm : Nat) (am : Nat) (bs : Nat) (ap : Nat) (cJ : ClassId) (fm : Nat → Int64) (fs : Nat → Int64) (ft : Nat → Int64) (fc : Nat → Int64) (sm : Int64) (lo : Option Nat) (sa sz : Nat) (hN : NI fm fs ft fc sm lo) (hz : lst1 (bo fm) 4096 = none) : vx_Met l yX7_pollLast wsX7_pollLast ({ frames := 7, cells := 1, slots := 6, locals := 102 }) (va_Pc [.ref q, .int (nI 0)] (fun U => va_Nw (.fieldLinkNest RX7 62 "SmallNumberSets$NumberSet" "tree" "LSmallNumberSets$Tree;" "SmallNumberSets") U ∧ U.heap.size = sz ∧ TW "java/util/NoSuchElementException" 162 "the set is empty" sa (fun q => sz ≤ q) U U.heap ∧ va_P (dC, dI) vwCl [(q, .inr (6, [.ref s0, .ref s1, .ref s2])), (s0, .inr (3, [.ref tq, .ref rq, .ref uq])), (tq, .inr (4, [.ref ca, .long sm, .int (oI lo)])), (ca, .inl (cJ, 64, .inr (.inl fc))), (rq, .inr (5, [.ref rb])), (rb, .inr (0, [.ref rd])), (rd, .inl (cJ, 128, .inr (.inl ft))), (uq, .inr (1, [.ref bm, .ref bs])), (bm, .inr (0, [.ref am])), (am, .inl (cJ, 64, .inr (.inl fm))), (bs, .inr (0, [.ref ap])), (ap, .inl (cJ, 64, .inr (.inl fs)))] U.heap ∧ va_K (dC, dI) vwCl [(cJ, .long)] U ∧ va_D (fun _ => True) [(q, .inr (6, [.ref s0, .ref s1, .ref s2])), (s0, .inr (3, [.ref tq, .ref rq, .ref uq])), (tq, .inr (4, [.ref ca, .long sm, .int (oI lo)])), (ca, .inl (cJ, 64, .inr (.inl fc))), (rq, .inr (5, [.ref rb])), (rb, .inr (0, [.ref rd])), (rd, .inl (cJ, 128, .inr (.inl ft))), (uq, .inr (1, [.ref bm, .ref bs])), (bm, .inr (0, [.ref am])), (am, .inl (cJ, 64, .inr (.inl fm))), (bs, .inr (0, [.ref ap])), (ap, .inl (cJ, 64, .inr (.inl fs)))])) (va_Qv (fun _ : Unit => False) (fun _ _ => True) (fun q => sz ≤ q)) (vx_X (fun _ : Unit => True) (fun E _ _ => E = "java/util/NoSuchElementException") (fun q => sz ≤ q)) 1 6 (fun q => sz ≤ q) := by
  refine vx_ofW (cc := cX7_pollLast) (maxL := 4) (ret := (some .int)) (by decide) rfl ?_
  intro p e s m args below meth c s₁ B hml hcat hv
  obtain ⟨rfl, nw0, hsz, hT, hP, hK, hD⟩ := hv
  have hx := B.exec
  have hb := B.bytes
  have hr := B.returns
  have hts := atoms_spec (ws := wsX7_pollLast) B.pre
  have hown : s.vm.findClass RX7 = some m.cls := findClass_of_methodNamed B.named
  have hlocks := B.notSynchronized
  subst hsz
  have hS : va_S (fun q => s.heap.size ≤ q) s.heap s.heap [] := va_S.rf
  have hP : va_P (dC, dI) vwCl [(q, .inr (6, [.ref s0, .ref s1, .ref s2])), (s0, .inr (3, [.ref tq, .ref rq, .ref uq])), (tq, .inr (4, [.ref ca, .long sm, .int (oI lo)])), (ca, .inl (cJ, 64, .inr (.inl fc))), (rq, .inr (5, [.ref rb])), (rb, .inr (0, [.ref rd])), (rd, .inl (cJ, 128, .inr (.inl ft))), (uq, .inr (1, [.ref bm, .ref bs])), (bm, .inr (0, [.ref am])), (am, .inl (cJ, 64, .inr (.inl fm))), (bs, .inr (0, [.ref ap])), (ap, .inl (cJ, 64, .inr (.inl fs)))] s.heap := hP
  have hl := lv_entry ([.ref q, .int (nI 0)]) (n := 4) (Nat.le_of_ble_eq_true rfl)
  rw [lg_entry_eq]
  generalize (lg_sl ([.ref q, .int (nI 0)]) ++ List.replicate (4 - (lg_sl ([.ref q, .int (nI 0)])).length) Slot.unset).toArray = ls at hl ⊢
  have hl : lv_has ls 4 [(0, .ref q), (1, .int (nI 0))] := hl
  refine lv_aload_n hx hb dX7_pollLast_0 rfl (lv_at hl 0 rfl) ?_
  refine lv_iload_n hx hb dX7_pollLast_1 rfl (lv_at hl 1 rfl) ?_
  have hPc := hP.sub (ws' := [(q, .inr (6, [.ref s0, .ref s1, .ref s2]))]) [0] rfl
  have hKc := hK.sub (tys' := []) [] rfl
  refine va_csr (W.runV (As := [.int (nI 0)]) (rest := []) ⟨hx, hb, hml, hown, hts⟩ (c_X7_chosenSet_0 l dC dI q s0 s1 s2 ) (cwV 1 hts gX7_pollLast_X7_chosenSet rfl rfl rfl (by decide +kernel) ⟨Nat.le_of_ble_eq_true rfl, Nat.le_of_ble_eq_true rfl⟩) ⟨fun a U g mk q => by obtain ⟨q0, qP, qK⟩ := q; exact ⟨q0, qP, va_K.moved (u := U) (U := U.calling g mk a) (Vm.Alike.refl U.vm) qK⟩, va_recv hKc hPc (ci := 6) (q0 := 0) rfl rfl, fun U hU hW => ⟨rfl, by rw [hU]; exact hPc, va_K.moved hW.alike hKc⟩⟩ rfl rfl hl.1 rfl (lv_room (Nat.le_of_ble_eq_true rfl)) dX7_pollLast_2 ⟨Nat.le_of_ble_eq_true rfl, Nat.le_of_ble_eq_true rfl⟩) (fun r_2 hw_1 => ?_)
  have hw_1 := hw_1.symm
  subst hw_1
  refine lv_astore_n (lv' := [(2, .ref s0), (0, .ref q), (1, .int (nI 0))]) hx hb dX7_pollLast_5 rfl hl (by decide) rfl (fun ls hl => ?_)
  refine lv_aload_n hx hb dX7_pollLast_6 rfl (lv_at hl 0 rfl) ?_
  refine va_getN (D := (dC, dI)) (ci := 3) (v := .ref tq) (C := RX3) (T := TX3) (N := 3) hx hb hts (by decide +kernel) hown hK hP 1 rfl rfl 0 (by decide) (va_Nw.use rfl nw0) (fun _ h9 => h9) rfl dX7_pollLast_7 ?_
  have hPc := hP.sub (ws' := [(tq, .inr (4, [.ref ca, .long sm, .int (oI lo)])), (ca, .inl (cJ, 64, .inr (.inl fc)))]) [2, 3] rfl
  have hKc := hK.sub (tys' := [(cJ, .long)]) [0] rfl
  refine vp_callSi (W.runV (As := []) (rest := []) ⟨hx, hb, hml, hown, hts⟩ (c_X4_greatest l dC dI tq ca cJ fc sm lo (bo fm) hN.2.2) (cwV 0 hts gX7_pollLast_X4_greatest rfl rfl rfl (by decide +kernel) ⟨Nat.le_of_ble_eq_true rfl, Nat.le_of_ble_eq_true rfl⟩) ⟨fun a U g mk q => by obtain ⟨q0, qP, qK⟩ := q; exact ⟨q0, qP, va_K.moved (u := U) (U := U.calling g mk a) (Vm.Alike.refl U.vm) qK⟩, va_recv hKc hPc (ci := 4) (q0 := 0) rfl rfl, fun U hU hW => ⟨rfl, by rw [hU]; exact hPc, va_K.moved hW.alike hKc⟩⟩ rfl rfl hl.1 rfl (lv_room (Nat.le_of_ble_eq_true rfl)) dX7_pollLast_10 ⟨Nat.le_of_ble_eq_true rfl, Nat.le_of_ble_eq_true rfl⟩) (fun r_4 hw_3 => ?_)
  subst hw_3
  refine lv_cvi (congrArg oI (hz)) ?_
  refine lv_cvi ((rfl : oI none = -1)) ?_
  refine lv_istore_n (lv' := [(3, .int (-1)), (2, .ref s0), (0, .ref q), (1, .int (nI 0))]) hx hb dX7_pollLast_13 rfl hl (by decide) rfl (fun ls hl => ?_)
  refine lv_iload_n hx hb dX7_pollLast_14 rfl (lv_at hl 0 rfl) ?_
  have hPc := hP.sub (ws' := []) [] rfl
  have hKc := hK.sub (tys' := []) [] rfl
  have hDc := hD.sub (ws' := []) [] (by decide) rfl
  exact vx_callv (vx_runS (As := [.int (-1)]) (rest := []) ⟨hx, hb, hml, hown, hts⟩ (x_X7_needMember l hls dC dI  sa s.heap.size ) (va_cwS 1 hts gX7_pollLast_X7_needMember rfl rfl rfl (by decide +kernel) ⟨Nat.le_of_ble_eq_true rfl, Nat.le_of_ble_eq_true rfl⟩) ⟨fun a U g mk q => by obtain ⟨q0, q1, qT, qP, qK, qD⟩ := q; exact ⟨q0, q1, TW.same (u := U) (U := U.calling g mk a) rfl qT, qP, va_K.moved (u := U) (U := U.calling g mk a) (Vm.Alike.refl U.vm) qK, qD⟩, fun U hU hW => ⟨rfl, by rw [hU], by rw [hU]; exact TW.warm hW hT, by rw [hU]; exact hPc, va_K.moved hW.alike hKc, hDc.weaken (fun _ _ _ _ => trivial)⟩⟩ rfl rfl hl.1 rfl (lv_room (Nat.le_of_ble_eq_true rfl)) dX7_pollLast_15 ⟨Nat.le_of_ble_eq_true rfl, Nat.le_of_ble_eq_true rfl⟩) hS (fun q h9 h8 => absurd h8 (Nat.not_le_of_lt h9)) (fun q h8 => Nat.le_trans hS.1 h8) (fun q h9 h8 => absurd h8 (Nat.not_le_of_lt h9)) (fun E9 ce9 q9 u9 t9 H9 l9 ht9 hvm9 hu9 hE9 hz9 hk9 hS9 hce9 hcv9 hcl9 => vx_out (fun x h => (hcat x h).elim) hlocks hce9 hcv9 hcl9 (fun t8 ht8 ha8 => ⟨(), trivial, hE9, by rw [ht8]; exact hz9, fun q h1 h2 => by rw [ht8]; exact hk9 q h1 h2⟩) hS9.2.2 (Nat.le_of_ble_eq_true rfl) (Nat.le_of_ble_eq_true rfl)) (fun u9 t9 H9 l9 ht9 hvm9 hu9 hB9 hz9 hk9 hS9 => hu9.elim)
set_option maxHeartbeats 4000000 in
set_option maxRecDepth 100000 in
/-- insertAll_e00 throws IllegalStateException -/
theorem x_X7_insertAll_e00 (l : Launch) (hls : l.stackTraces = false) (dC : Nat → ClassId) (dI : Nat → Nat → Nat) (q : Nat) (s0 : Nat) (s1 : Nat) (s2 : Nat) (tq : Nat) (ca : Nat) (rq : Nat) (rb : Nat) (rd : Nat) (uq : Nat) (bm : Nat) (am : Nat) (bs : Nat) (ap : Nat) (cJ : ClassId) (fm : Nat → Int64) (fs : Nat → Int64) (ft : Nat → Int64) (fc : Nat → Int64) (sm : Int64) (lo : Option Nat) (sa sz : Nat) (hN : NI fm fs ft fc sm lo) (hn30 : 30 < fb_ct (bo fm) 4096) : vx_Met l yX7_insertAll wsX7_insertAll ({ frames := 6, cells := 1, slots := 6, locals := 82 }) (va_Pc [.ref q, .int (nI 0), .int (nI 0)] (fun U => va_Nw (.fieldLinkNest RX7 38 "SmallNumberSets$NumberSet" "buckets" "LSmallNumberSets$Buckets;" "SmallNumberSets") U ∧ U.heap.size = sz ∧ TW "java/lang/IllegalStateException" 50 "the other set has too many members" sa (fun q => sz ≤ q) U U.heap ∧ va_P (dC, dI) vwCl [(q, .inr (6, [.ref s0, .ref s1, .ref s2])), (s0, .inr (3, [.ref tq, .ref rq, .ref uq])), (tq, .inr (4, [.ref ca, .long sm, .int (oI lo)])), (ca, .inl (cJ, 64, .inr (.inl fc))), (rq, .inr (5, [.ref rb])), (rb, .inr (0, [.ref rd])), (rd, .inl (cJ, 128, .inr (.inl ft))), (uq, .inr (1, [.ref bm, .ref bs])), (bm, .inr (0, [.ref am])), (am, .inl (cJ, 64, .inr (.inl fm))), (bs, .inr (0, [.ref ap])), (ap, .inl (cJ, 64, .inr (.inl fs)))] U.heap ∧ va_K (dC, dI) vwCl [(cJ, .long)] U ∧ va_D (fun _ => True) [(q, .inr (6, [.ref s0, .ref s1, .ref s2])), (s0, .inr (3, [.ref tq, .ref rq, .ref uq])), (tq, .inr (4, [.ref ca, .long sm, .int (oI lo)])), (ca, .inl (cJ, 64, .inr (.inl fc))), (rq, .inr (5, [.ref rb])), (rb, .inr (0, [.ref rd])), (rd, .inl (cJ, 128, .inr (.inl ft))), (uq, .inr (1, [.ref bm, .ref bs])), (bm, .inr (0, [.ref am])), (am, .inl (cJ, 64, .inr (.inl fm))), (bs, .inr (0, [.ref ap])), (ap, .inl (cJ, 64, .inr (.inl fs)))])) (va_Qv (fun _ : Unit => False) (fun _ _ => True) (fun q => sz ≤ q)) (vx_X (fun _ : Unit => True) (fun E _ _ => E = "java/lang/IllegalStateException") (fun q => sz ≤ q)) 1 6 (fun q => sz ≤ q) := by
  refine vx_ofW (cc := cX7_insertAll) (maxL := 8) (ret := (some .int)) (by decide) rfl ?_
  intro p e s m args below meth c s₁ B hml hcat hv
  obtain ⟨rfl, nw0, hsz, hT, hP, hK, hD⟩ := hv
  have hx := B.exec
  have hb := B.bytes
  have hr := B.returns
  have hts := atoms_spec (ws := wsX7_insertAll) B.pre
  have hown : s.vm.findClass RX7 = some m.cls := findClass_of_methodNamed B.named
  have hlocks := B.notSynchronized
  subst hsz
  have hS : va_S (fun q => s.heap.size ≤ q) s.heap s.heap [] := va_S.rf
  have hP : va_P (dC, dI) vwCl [(q, .inr (6, [.ref s0, .ref s1, .ref s2])), (s0, .inr (3, [.ref tq, .ref rq, .ref uq])), (tq, .inr (4, [.ref ca, .long sm, .int (oI lo)])), (ca, .inl (cJ, 64, .inr (.inl fc))), (rq, .inr (5, [.ref rb])), (rb, .inr (0, [.ref rd])), (rd, .inl (cJ, 128, .inr (.inl ft))), (uq, .inr (1, [.ref bm, .ref bs])), (bm, .inr (0, [.ref am])), (am, .inl (cJ, 64, .inr (.inl fm))), (bs, .inr (0, [.ref ap])), (ap, .inl (cJ, 64, .inr (.inl fs)))] s.heap := hP
  have hl := lv_entry ([.ref q, .int (nI 0), .int (nI 0)]) (n := 8) (Nat.le_of_ble_eq_true rfl)
  rw [lg_entry_eq]
  generalize (lg_sl ([.ref q, .int (nI 0), .int (nI 0)]) ++ List.replicate (8 - (lg_sl ([.ref q, .int (nI 0), .int (nI 0)])).length) Slot.unset).toArray = ls at hl ⊢
  have hl : lv_has ls 8 [(0, .ref q), (1, .int (nI 0)), (2, .int (nI 0))] := hl
  have hcb := fb_ct_le (bo fm) 4096
  refine lv_aload_n hx hb dX7_insertAll_0 rfl (lv_at hl 0 rfl) ?_
  refine lv_iload_n hx hb dX7_insertAll_1 rfl (lv_at hl 1 rfl) ?_
  have hPc := hP.sub (ws' := [(q, .inr (6, [.ref s0, .ref s1, .ref s2]))]) [0] rfl
  have hKc := hK.sub (tys' := []) [] rfl
  refine va_csr (W.runV (As := [.int (nI 0)]) (rest := []) ⟨hx, hb, hml, hown, hts⟩ (c_X7_chosenSet_0 l dC dI q s0 s1 s2 ) (cwV 1 hts gX7_insertAll_X7_chosenSet rfl rfl rfl (by decide +kernel) ⟨Nat.le_of_ble_eq_true rfl, Nat.le_of_ble_eq_true rfl⟩) ⟨fun a U g mk q => by obtain ⟨q0, qP, qK⟩ := q; exact ⟨q0, qP, va_K.moved (u := U) (U := U.calling g mk a) (Vm.Alike.refl U.vm) qK⟩, va_recv hKc hPc (ci := 6) (q0 := 0) rfl rfl, fun U hU hW => ⟨rfl, by rw [hU]; exact hPc, va_K.moved hW.alike hKc⟩⟩ rfl rfl hl.1 rfl (lv_room (Nat.le_of_ble_eq_true rfl)) dX7_insertAll_2 ⟨Nat.le_of_ble_eq_true rfl, Nat.le_of_ble_eq_true rfl⟩) (fun r_2 hw_1 => ?_)
  have hw_1 := hw_1.symm
  subst hw_1
  refine lv_astore_n (lv' := [(3, .ref s0), (0, .ref q), (1, .int (nI 0)), (2, .int (nI 0))]) hx hb dX7_insertAll_5 rfl hl (by decide) rfl (fun ls hl => ?_)
  refine lv_aload_n hx hb dX7_insertAll_6 rfl (lv_at hl 1 rfl) ?_
  refine lv_iload_n hx hb dX7_insertAll_7 rfl (lv_at hl 3 rfl) ?_
  have hPc := hP.sub (ws' := [(q, .inr (6, [.ref s0, .ref s1, .ref s2]))]) [0] rfl
  have hKc := hK.sub (tys' := []) [] rfl
  refine va_csr (W.runV (As := [.int (nI 0)]) (rest := []) ⟨hx, hb, hml, hown, hts⟩ (c_X7_chosenSet_0 l dC dI q s0 s1 s2 ) (cwV 1 hts gX7_insertAll_X7_chosenSet rfl rfl rfl (by decide +kernel) ⟨Nat.le_of_ble_eq_true rfl, Nat.le_of_ble_eq_true rfl⟩) ⟨fun a U g mk q => by obtain ⟨q0, qP, qK⟩ := q; exact ⟨q0, qP, va_K.moved (u := U) (U := U.calling g mk a) (Vm.Alike.refl U.vm) qK⟩, va_recv hKc hPc (ci := 6) (q0 := 0) rfl rfl, fun U hU hW => ⟨rfl, by rw [hU]; exact hPc, va_K.moved hW.alike hKc⟩⟩ rfl rfl hl.1 rfl (lv_room (Nat.le_of_ble_eq_true rfl)) dX7_insertAll_8 ⟨Nat.le_of_ble_eq_true rfl, Nat.le_of_ble_eq_true rfl⟩) (fun r_4 hw_3 => ?_)
  have hw_3 := hw_3.symm
  subst hw_3
  refine lv_astore (lv' := [(4, .ref s0), (3, .ref s0), (0, .ref q), (1, .int (nI 0)), (2, .int (nI 0))]) hx hb dX7_insertAll_11 hl (by decide) rfl (fun ls hl => ?_)
  refine lv_aload hx hb dX7_insertAll_13 (lv_at hl 0 rfl) ?_
  refine va_getN (D := (dC, dI)) (ci := 3) (v := .ref uq) (C := RX3) (T := TX3) (N := 3) hx hb hts (by decide +kernel) hown hK hP 1 rfl rfl 2 (by decide) (va_Nw.use rfl nw0) (fun _ h9 => h9) rfl dX7_insertAll_15 ?_
  have hPc := hP.sub (ws' := [(uq, .inr (1, [.ref bm, .ref bs])), (bm, .inr (0, [.ref am])), (am, .inl (cJ, 64, .inr (.inl fm))), (bs, .inr (0, [.ref ap])), (ap, .inl (cJ, 64, .inr (.inl fs)))]) [7, 8, 9, 10, 11] rfl
  have hKc := hK.sub (tys' := [(cJ, .long)]) [0] rfl
  refine vp_callSi (W.runV (As := []) (rest := []) ⟨hx, hb, hml, hown, hts⟩ (c_X1_memberCount l dC dI uq bm am bs ap cJ fm fs ) (cwV 0 hts gX7_insertAll_X1_memberCount rfl rfl rfl (by decide +kernel) ⟨Nat.le_of_ble_eq_true rfl, Nat.le_of_ble_eq_true rfl⟩) ⟨fun a U g mk q => by obtain ⟨q0, qP, qK⟩ := q; exact ⟨q0, qP, va_K.moved (u := U) (U := U.calling g mk a) (Vm.Alike.refl U.vm) qK⟩, va_recv hKc hPc (ci := 1) (q0 := 0) rfl rfl, fun U hU hW => ⟨rfl, by rw [hU]; exact hPc, va_K.moved hW.alike hKc⟩⟩ rfl rfl hl.1 rfl (lv_room (Nat.le_of_ble_eq_true rfl)) dX7_insertAll_18 ⟨Nat.le_of_ble_eq_true rfl, Nat.le_of_ble_eq_true rfl⟩) (fun r_6 hw_5 => ?_)
  subst hw_5
  refine lv_istore (lv' := [(5, .int (nI (fb_ct (bo fm) 4096))), (4, .ref s0), (3, .ref s0), (0, .ref q), (1, .int (nI 0)), (2, .int (nI 0))]) hx hb dX7_insertAll_21 hl (by decide) rfl (fun ls hl => ?_)
  refine lv_iload hx hb dX7_insertAll_23 (lv_at hl 0 rfl) ?_
  refine lv_bipush (v := nI 30) hx hb dX7_insertAll_25 (by decide +kernel) ?_
  refine lv_icmp_le (tgt := 40) hx hb dX7_insertAll_27 (by decide) (fun qc_7 => ?_) (fun qc_7 => ?_)
  · have c_7 : (fb_ct (bo fm) 4096) ≤ 30 := (nI_leI (a := fb_ct (bo fm) 4096) (b := 30) (by omega) (by omega)).mp qc_7
    exact absurd c_7 (by omega)
  · have c_7 : ¬ (fb_ct (bo fm) 4096) ≤ 30 := fun h9 => qc_7 ((nI_leI (a := fb_ct (bo fm) 4096) (b := 30) (by omega) (by omega)).mpr h9)
    exact vx_throwS hx hb hls (own := RX7) (cls := "java/lang/IllegalStateException") (text := "the other set has too many members") (names := ["java/lang/RuntimeException", "java/lang/Exception"]) (ik := 48) (is := 50) (ic := 52) (sa := sa) hown (by decide) (by decide) (hts (.classLink RX7 48 "java/lang/IllegalStateException") (by decide +kernel)) (hts (.initialized "java/lang/IllegalStateException") (by decide +kernel)) hT.1 (vx_hat (L := (vx_atS RX7 52 "java/lang/IllegalStateException" ["java/lang/RuntimeException", "java/lang/Exception"])) (B := [.declares (Bundle.initS tw_r), .declares (Bundle.initS tw_e), .declares (Bundle.initS Bundle.tN), .castable "java/lang/IllegalStateException" "java/lang/IllegalStateException"]) (fun w hw => hts w (List.mem_cons_of_mem _ (List.mem_append_left _ (List.mem_append_right _ hw)))) (by decide +kernel) (vx_c (va_Nw.use rfl hT.2.2.2.1) (vx_c (va_Nw.use rfl hT.2.2.2.2.1) (vx_c (va_Nw.use rfl hT.2.2.2.2.2.1) (vx_c (va_Nw.use rfl hT.2.2.2.2.2.2) vx_n))))) (List.all_eq_true.mp (by decide +kernel)) hT.2.1 hT.2.2.1 hS (by rw [hml]; exact hl.1) dX7_insertAll_30 dX7_insertAll_33 dX7_insertAll_34 dX7_insertAll_36 dX7_insertAll_39 (fun x h => (hcat x h).elim) (Nat.le_of_ble_eq_true rfl) (Nat.le_of_ble_eq_true rfl) (Nat.le_of_ble_eq_true rfl) (Nat.le_of_ble_eq_true rfl) hlocks (fun t _ h1 h2 => ⟨(), trivial, rfl, h1, fun q h3 _ => h2 q h3⟩) (fun z h => nomatch h) (Nat.le_of_ble_eq_true rfl) (Nat.le_of_ble_eq_true rfl)
set_option maxHeartbeats 4000000 in
set_option maxRecDepth 100000 in
/-- insertAll_e01 throws IllegalStateException -/
theorem x_X7_insertAll_e01 (l : Launch) (hls : l.stackTraces = false) (dC : Nat → ClassId) (dI : Nat → Nat → Nat) (q : Nat) (s0 : Nat) (s1 : Nat) (s2 : Nat) (tq : Nat) (ca : Nat) (rq : Nat) (rb : Nat) (rd : Nat) (uq : Nat) (bm : Nat) (am : Nat) (bs : Nat) (ap : Nat) (cJ : ClassId) (fm : Nat → Int64) (fs : Nat → Int64) (ft : Nat → Int64) (fc : Nat → Int64) (sm : Int64) (lo : Option Nat) (tq_o : Nat) (ca_o : Nat) (rq_o : Nat) (rb_o : Nat) (rd_o : Nat) (uq_o : Nat) (bm_o : Nat) (am_o : Nat) (bs_o : Nat) (ap_o : Nat) (om : Nat → Int64) (os : Nat → Int64) (ot : Nat → Int64) (oc : Nat → Int64) (osm : Int64) (olo : Option Nat) (sa sz : Nat) (hN : NI fm fs ft fc sm lo) (hn30 : 30 < fb_ct (bo om) 4096) : vx_Met l yX7_insertAll wsX7_insertAll ({ frames := 6, cells := 1, slots := 6, locals := 82 }) (va_Pc [.ref q, .int (nI 0), .int (nI 1)] (fun U => va_Nw (.fieldLinkNest RX7 38 "SmallNumberSets$NumberSet" "buckets" "LSmallNumberSets$Buckets;" "SmallNumberSets") U ∧ U.heap.size = sz ∧ TW "java/lang/IllegalStateException" 50 "the other set has too many members" sa (fun q => sz ≤ q) U U.heap ∧ va_P (dC, dI) vwCl [(q, .inr (6, [.ref s0, .ref s1, .ref s2])), (s0, .inr (3, [.ref tq, .ref rq, .ref uq])), (tq, .inr (4, [.ref ca, .long sm, .int (oI lo)])), (ca, .inl (cJ, 64, .inr (.inl fc))), (rq, .inr (5, [.ref rb])), (rb, .inr (0, [.ref rd])), (rd, .inl (cJ, 128, .inr (.inl ft))), (uq, .inr (1, [.ref bm, .ref bs])), (bm, .inr (0, [.ref am])), (am, .inl (cJ, 64, .inr (.inl fm))), (bs, .inr (0, [.ref ap])), (ap, .inl (cJ, 64, .inr (.inl fs))), (s1, .inr (3, [.ref tq_o, .ref rq_o, .ref uq_o])), (tq_o, .inr (4, [.ref ca_o, .long osm, .int (oI olo)])), (ca_o, .inl (cJ, 64, .inr (.inl oc))), (rq_o, .inr (5, [.ref rb_o])), (rb_o, .inr (0, [.ref rd_o])), (rd_o, .inl (cJ, 128, .inr (.inl ot))), (uq_o, .inr (1, [.ref bm_o, .ref bs_o])), (bm_o, .inr (0, [.ref am_o])), (am_o, .inl (cJ, 64, .inr (.inl om))), (bs_o, .inr (0, [.ref ap_o])), (ap_o, .inl (cJ, 64, .inr (.inl os)))] U.heap ∧ va_K (dC, dI) vwCl [(cJ, .long)] U ∧ va_D (fun _ => True) [(q, .inr (6, [.ref s0, .ref s1, .ref s2])), (s0, .inr (3, [.ref tq, .ref rq, .ref uq])), (tq, .inr (4, [.ref ca, .long sm, .int (oI lo)])), (ca, .inl (cJ, 64, .inr (.inl fc))), (rq, .inr (5, [.ref rb])), (rb, .inr (0, [.ref rd])), (rd, .inl (cJ, 128, .inr (.inl ft))), (uq, .inr (1, [.ref bm, .ref bs])), (bm, .inr (0, [.ref am])), (am, .inl (cJ, 64, .inr (.inl fm))), (bs, .inr (0, [.ref ap])), (ap, .inl (cJ, 64, .inr (.inl fs))), (s1, .inr (3, [.ref tq_o, .ref rq_o, .ref uq_o])), (tq_o, .inr (4, [.ref ca_o, .long osm, .int (oI olo)])), (ca_o, .inl (cJ, 64, .inr (.inl oc))), (rq_o, .inr (5, [.ref rb_o])), (rb_o, .inr (0, [.ref rd_o])), (rd_o, .inl (cJ, 128, .inr (.inl ot))), (uq_o, .inr (1, [.ref bm_o, .ref bs_o])), (bm_o, .inr (0, [.ref am_o])), (am_o, .inl (cJ, 64, .inr (.inl om))), (bs_o, .inr (0, [.ref ap_o])), (ap_o, .inl (cJ, 64, .inr (.inl os)))])) (va_Qv (fun _ : Unit => False) (fun _ _ => True) (fun q => sz ≤ q)) (vx_X (fun _ : Unit => True) (fun E _ _ => E = "java/lang/IllegalStateException") (fun q => sz ≤ q)) 1 6 (fun q => sz ≤ q) := by
  refine vx_ofW (cc := cX7_insertAll) (maxL := 8) (ret := (some .int)) (by decide) rfl ?_
  intro p e s m args below meth c s₁ B hml hcat hv
  obtain ⟨rfl, nw0, hsz, hT, hP, hK, hD⟩ := hv
  have hx := B.exec
  have hb := B.bytes
  have hr := B.returns
  have hts := atoms_spec (ws := wsX7_insertAll) B.pre
  have hown : s.vm.findClass RX7 = some m.cls := findClass_of_methodNamed B.named
  have hlocks := B.notSynchronized
  subst hsz
  have hS : va_S (fun q => s.heap.size ≤ q) s.heap s.heap [] := va_S.rf
  have hP : va_P (dC, dI) vwCl [(q, .inr (6, [.ref s0, .ref s1, .ref s2])), (s0, .inr (3, [.ref tq, .ref rq, .ref uq])), (tq, .inr (4, [.ref ca, .long sm, .int (oI lo)])), (ca, .inl (cJ, 64, .inr (.inl fc))), (rq, .inr (5, [.ref rb])), (rb, .inr (0, [.ref rd])), (rd, .inl (cJ, 128, .inr (.inl ft))), (uq, .inr (1, [.ref bm, .ref bs])), (bm, .inr (0, [.ref am])), (am, .inl (cJ, 64, .inr (.inl fm))), (bs, .inr (0, [.ref ap])), (ap, .inl (cJ, 64, .inr (.inl fs))), (s1, .inr (3, [.ref tq_o, .ref rq_o, .ref uq_o])), (tq_o, .inr (4, [.ref ca_o, .long osm, .int (oI olo)])), (ca_o, .inl (cJ, 64, .inr (.inl oc))), (rq_o, .inr (5, [.ref rb_o])), (rb_o, .inr (0, [.ref rd_o])), (rd_o, .inl (cJ, 128, .inr (.inl ot))), (uq_o, .inr (1, [.ref bm_o, .ref bs_o])), (bm_o, .inr (0, [.ref am_o])), (am_o, .inl (cJ, 64, .inr (.inl om))), (bs_o, .inr (0, [.ref ap_o])), (ap_o, .inl (cJ, 64, .inr (.inl os)))] s.heap := hP
  have hl := lv_entry ([.ref q, .int (nI 0), .int (nI 1)]) (n := 8) (Nat.le_of_ble_eq_true rfl)
  rw [lg_entry_eq]
  generalize (lg_sl ([.ref q, .int (nI 0), .int (nI 1)]) ++ List.replicate (8 - (lg_sl ([.ref q, .int (nI 0), .int (nI 1)])).length) Slot.unset).toArray = ls at hl ⊢
  have hl : lv_has ls 8 [(0, .ref q), (1, .int (nI 0)), (2, .int (nI 1))] := hl
  have hcb := fb_ct_le (bo om) 4096
  refine lv_aload_n hx hb dX7_insertAll_0 rfl (lv_at hl 0 rfl) ?_
  refine lv_iload_n hx hb dX7_insertAll_1 rfl (lv_at hl 1 rfl) ?_
  have hPc := hP.sub (ws' := [(q, .inr (6, [.ref s0, .ref s1, .ref s2]))]) [0] rfl
  have hKc := hK.sub (tys' := []) [] rfl
  refine va_csr (W.runV (As := [.int (nI 0)]) (rest := []) ⟨hx, hb, hml, hown, hts⟩ (c_X7_chosenSet_0 l dC dI q s0 s1 s2 ) (cwV 1 hts gX7_insertAll_X7_chosenSet rfl rfl rfl (by decide +kernel) ⟨Nat.le_of_ble_eq_true rfl, Nat.le_of_ble_eq_true rfl⟩) ⟨fun a U g mk q => by obtain ⟨q0, qP, qK⟩ := q; exact ⟨q0, qP, va_K.moved (u := U) (U := U.calling g mk a) (Vm.Alike.refl U.vm) qK⟩, va_recv hKc hPc (ci := 6) (q0 := 0) rfl rfl, fun U hU hW => ⟨rfl, by rw [hU]; exact hPc, va_K.moved hW.alike hKc⟩⟩ rfl rfl hl.1 rfl (lv_room (Nat.le_of_ble_eq_true rfl)) dX7_insertAll_2 ⟨Nat.le_of_ble_eq_true rfl, Nat.le_of_ble_eq_true rfl⟩) (fun r_2 hw_1 => ?_)
  have hw_1 := hw_1.symm
  subst hw_1
  refine lv_astore_n (lv' := [(3, .ref s0), (0, .ref q), (1, .int (nI 0)), (2, .int (nI 1))]) hx hb dX7_insertAll_5 rfl hl (by decide) rfl (fun ls hl => ?_)
  refine lv_aload_n hx hb dX7_insertAll_6 rfl (lv_at hl 1 rfl) ?_
  refine lv_iload_n hx hb dX7_insertAll_7 rfl (lv_at hl 3 rfl) ?_
  have hPc := hP.sub (ws' := [(q, .inr (6, [.ref s0, .ref s1, .ref s2]))]) [0] rfl
  have hKc := hK.sub (tys' := []) [] rfl
  refine va_csr (W.runV (As := [.int (nI 1)]) (rest := []) ⟨hx, hb, hml, hown, hts⟩ (c_X7_chosenSet_1 l dC dI q s0 s1 s2 ) (cwV 1 hts gX7_insertAll_X7_chosenSet rfl rfl rfl (by decide +kernel) ⟨Nat.le_of_ble_eq_true rfl, Nat.le_of_ble_eq_true rfl⟩) ⟨fun a U g mk q => by obtain ⟨q0, qP, qK⟩ := q; exact ⟨q0, qP, va_K.moved (u := U) (U := U.calling g mk a) (Vm.Alike.refl U.vm) qK⟩, va_recv hKc hPc (ci := 6) (q0 := 0) rfl rfl, fun U hU hW => ⟨rfl, by rw [hU]; exact hPc, va_K.moved hW.alike hKc⟩⟩ rfl rfl hl.1 rfl (lv_room (Nat.le_of_ble_eq_true rfl)) dX7_insertAll_8 ⟨Nat.le_of_ble_eq_true rfl, Nat.le_of_ble_eq_true rfl⟩) (fun r_4 hw_3 => ?_)
  have hw_3 := hw_3.symm
  subst hw_3
  refine lv_astore (lv' := [(4, .ref s1), (3, .ref s0), (0, .ref q), (1, .int (nI 0)), (2, .int (nI 1))]) hx hb dX7_insertAll_11 hl (by decide) rfl (fun ls hl => ?_)
  refine lv_aload hx hb dX7_insertAll_13 (lv_at hl 0 rfl) ?_
  refine va_getN (D := (dC, dI)) (ci := 3) (v := .ref uq_o) (C := RX3) (T := TX3) (N := 3) hx hb hts (by decide +kernel) hown hK hP 12 rfl rfl 2 (by decide) (va_Nw.use rfl nw0) (fun _ h9 => h9) rfl dX7_insertAll_15 ?_
  have hPc := hP.sub (ws' := [(uq_o, .inr (1, [.ref bm_o, .ref bs_o])), (bm_o, .inr (0, [.ref am_o])), (am_o, .inl (cJ, 64, .inr (.inl om))), (bs_o, .inr (0, [.ref ap_o])), (ap_o, .inl (cJ, 64, .inr (.inl os)))]) [18, 19, 20, 21, 22] rfl
  have hKc := hK.sub (tys' := [(cJ, .long)]) [0] rfl
  refine vp_callSi (W.runV (As := []) (rest := []) ⟨hx, hb, hml, hown, hts⟩ (c_X1_memberCount l dC dI uq_o bm_o am_o bs_o ap_o cJ om os ) (cwV 0 hts gX7_insertAll_X1_memberCount rfl rfl rfl (by decide +kernel) ⟨Nat.le_of_ble_eq_true rfl, Nat.le_of_ble_eq_true rfl⟩) ⟨fun a U g mk q => by obtain ⟨q0, qP, qK⟩ := q; exact ⟨q0, qP, va_K.moved (u := U) (U := U.calling g mk a) (Vm.Alike.refl U.vm) qK⟩, va_recv hKc hPc (ci := 1) (q0 := 0) rfl rfl, fun U hU hW => ⟨rfl, by rw [hU]; exact hPc, va_K.moved hW.alike hKc⟩⟩ rfl rfl hl.1 rfl (lv_room (Nat.le_of_ble_eq_true rfl)) dX7_insertAll_18 ⟨Nat.le_of_ble_eq_true rfl, Nat.le_of_ble_eq_true rfl⟩) (fun r_6 hw_5 => ?_)
  subst hw_5
  refine lv_istore (lv' := [(5, .int (nI (fb_ct (bo om) 4096))), (4, .ref s1), (3, .ref s0), (0, .ref q), (1, .int (nI 0)), (2, .int (nI 1))]) hx hb dX7_insertAll_21 hl (by decide) rfl (fun ls hl => ?_)
  refine lv_iload hx hb dX7_insertAll_23 (lv_at hl 0 rfl) ?_
  refine lv_bipush (v := nI 30) hx hb dX7_insertAll_25 (by decide +kernel) ?_
  refine lv_icmp_le (tgt := 40) hx hb dX7_insertAll_27 (by decide) (fun qc_7 => ?_) (fun qc_7 => ?_)
  · have c_7 : (fb_ct (bo om) 4096) ≤ 30 := (nI_leI (a := fb_ct (bo om) 4096) (b := 30) (by omega) (by omega)).mp qc_7
    exact absurd c_7 (by omega)
  · have c_7 : ¬ (fb_ct (bo om) 4096) ≤ 30 := fun h9 => qc_7 ((nI_leI (a := fb_ct (bo om) 4096) (b := 30) (by omega) (by omega)).mpr h9)
    exact vx_throwS hx hb hls (own := RX7) (cls := "java/lang/IllegalStateException") (text := "the other set has too many members") (names := ["java/lang/RuntimeException", "java/lang/Exception"]) (ik := 48) (is := 50) (ic := 52) (sa := sa) hown (by decide) (by decide) (hts (.classLink RX7 48 "java/lang/IllegalStateException") (by decide +kernel)) (hts (.initialized "java/lang/IllegalStateException") (by decide +kernel)) hT.1 (vx_hat (L := (vx_atS RX7 52 "java/lang/IllegalStateException" ["java/lang/RuntimeException", "java/lang/Exception"])) (B := [.declares (Bundle.initS tw_r), .declares (Bundle.initS tw_e), .declares (Bundle.initS Bundle.tN), .castable "java/lang/IllegalStateException" "java/lang/IllegalStateException"]) (fun w hw => hts w (List.mem_cons_of_mem _ (List.mem_append_left _ (List.mem_append_right _ hw)))) (by decide +kernel) (vx_c (va_Nw.use rfl hT.2.2.2.1) (vx_c (va_Nw.use rfl hT.2.2.2.2.1) (vx_c (va_Nw.use rfl hT.2.2.2.2.2.1) (vx_c (va_Nw.use rfl hT.2.2.2.2.2.2) vx_n))))) (List.all_eq_true.mp (by decide +kernel)) hT.2.1 hT.2.2.1 hS (by rw [hml]; exact hl.1) dX7_insertAll_30 dX7_insertAll_33 dX7_insertAll_34 dX7_insertAll_36 dX7_insertAll_39 (fun x h => (hcat x h).elim) (Nat.le_of_ble_eq_true rfl) (Nat.le_of_ble_eq_true rfl) (Nat.le_of_ble_eq_true rfl) (Nat.le_of_ble_eq_true rfl) hlocks (fun t _ h1 h2 => ⟨(), trivial, rfl, h1, fun q h3 _ => h2 q h3⟩) (fun z h => nomatch h) (Nat.le_of_ble_eq_true rfl) (Nat.le_of_ble_eq_true rfl)
set_option maxHeartbeats 4000000 in
set_option maxRecDepth 100000 in
/-- insertAll_e02 throws IllegalStateException -/
theorem x_X7_insertAll_e02 (l : Launch) (hls : l.stackTraces = false) (dC : Nat → ClassId) (dI : Nat → Nat → Nat) (q : Nat) (s0 : Nat) (s1 : Nat) (s2 : Nat) (tq : Nat) (ca : Nat) (rq : Nat) (rb : Nat) (rd : Nat) (uq : Nat) (bm : Nat) (am : Nat) (bs : Nat) (ap : Nat) (cJ : ClassId) (fm : Nat → Int64) (fs : Nat → Int64) (ft : Nat → Int64) (fc : Nat → Int64) (sm : Int64) (lo : Option Nat) (tq_o : Nat) (ca_o : Nat) (rq_o : Nat) (rb_o : Nat) (rd_o : Nat) (uq_o : Nat) (bm_o : Nat) (am_o : Nat) (bs_o : Nat) (ap_o : Nat) (om : Nat → Int64) (os : Nat → Int64) (ot : Nat → Int64) (oc : Nat → Int64) (osm : Int64) (olo : Option Nat) (sa sz : Nat) (hN : NI fm fs ft fc sm lo) (hn30 : 30 < fb_ct (bo om) 4096) : vx_Met l yX7_insertAll wsX7_insertAll ({ frames := 6, cells := 1, slots := 6, locals := 82 }) (va_Pc [.ref q, .int (nI 0), .int (nI 2)] (fun U => va_Nw (.fieldLinkNest RX7 38 "SmallNumberSets$NumberSet" "buckets" "LSmallNumberSets$Buckets;" "SmallNumberSets") U ∧ U.heap.size = sz ∧ TW "java/lang/IllegalStateException" 50 "the other set has too many members" sa (fun q => sz ≤ q) U U.heap ∧ va_P (dC, dI) vwCl [(q, .inr (6, [.ref s0, .ref s1, .ref s2])), (s0, .inr (3, [.ref tq, .ref rq, .ref uq])), (tq, .inr (4, [.ref ca, .long sm, .int (oI lo)])), (ca, .inl (cJ, 64, .inr (.inl fc))), (rq, .inr (5, [.ref rb])), (rb, .inr (0, [.ref rd])), (rd, .inl (cJ, 128, .inr (.inl ft))), (uq, .inr (1, [.ref bm, .ref bs])), (bm, .inr (0, [.ref am])), (am, .inl (cJ, 64, .inr (.inl fm))), (bs, .inr (0, [.ref ap])), (ap, .inl (cJ, 64, .inr (.inl fs))), (s2, .inr (3, [.ref tq_o, .ref rq_o, .ref uq_o])), (tq_o, .inr (4, [.ref ca_o, .long osm, .int (oI olo)])), (ca_o, .inl (cJ, 64, .inr (.inl oc))), (rq_o, .inr (5, [.ref rb_o])), (rb_o, .inr (0, [.ref rd_o])), (rd_o, .inl (cJ, 128, .inr (.inl ot))), (uq_o, .inr (1, [.ref bm_o, .ref bs_o])), (bm_o, .inr (0, [.ref am_o])), (am_o, .inl (cJ, 64, .inr (.inl om))), (bs_o, .inr (0, [.ref ap_o])), (ap_o, .inl (cJ, 64, .inr (.inl os)))] U.heap ∧ va_K (dC, dI) vwCl [(cJ, .long)] U ∧ va_D (fun _ => True) [(q, .inr (6, [.ref s0, .ref s1, .ref s2])), (s0, .inr (3, [.ref tq, .ref rq, .ref uq])), (tq, .inr (4, [.ref ca, .long sm, .int (oI lo)])), (ca, .inl (cJ, 64, .inr (.inl fc))), (rq, .inr (5, [.ref rb])), (rb, .inr (0, [.ref rd])), (rd, .inl (cJ, 128, .inr (.inl ft))), (uq, .inr (1, [.ref bm, .ref bs])), (bm, .inr (0, [.ref am])), (am, .inl (cJ, 64, .inr (.inl fm))), (bs, .inr (0, [.ref ap])), (ap, .inl (cJ, 64, .inr (.inl fs))), (s2, .inr (3, [.ref tq_o, .ref rq_o, .ref uq_o])), (tq_o, .inr (4, [.ref ca_o, .long osm, .int (oI olo)])), (ca_o, .inl (cJ, 64, .inr (.inl oc))), (rq_o, .inr (5, [.ref rb_o])), (rb_o, .inr (0, [.ref rd_o])), (rd_o, .inl (cJ, 128, .inr (.inl ot))), (uq_o, .inr (1, [.ref bm_o, .ref bs_o])), (bm_o, .inr (0, [.ref am_o])), (am_o, .inl (cJ, 64, .inr (.inl om))), (bs_o, .inr (0, [.ref ap_o])), (ap_o, .inl (cJ, 64, .inr (.inl os)))])) (va_Qv (fun _ : Unit => False) (fun _ _ => True) (fun q => sz ≤ q)) (vx_X (fun _ : Unit => True) (fun E _ _ => E = "java/lang/IllegalStateException") (fun q => sz ≤ q)) 1 6 (fun q => sz ≤ q) := by
  refine vx_ofW (cc := cX7_insertAll) (maxL := 8) (ret := (some .int)) (by decide) rfl ?_
  intro p e s m args below meth c s₁ B hml hcat hv
  obtain ⟨rfl, nw0, hsz, hT, hP, hK, hD⟩ := hv
  have hx := B.exec
  have hb := B.bytes
  have hr := B.returns
  have hts := atoms_spec (ws := wsX7_insertAll) B.pre
  have hown : s.vm.findClass RX7 = some m.cls := findClass_of_methodNamed B.named
  have hlocks := B.notSynchronized
  subst hsz
  have hS : va_S (fun q => s.heap.size ≤ q) s.heap s.heap [] := va_S.rf
  have hP : va_P (dC, dI) vwCl [(q, .inr (6, [.ref s0, .ref s1, .ref s2])), (s0, .inr (3, [.ref tq, .ref rq, .ref uq])), (tq, .inr (4, [.ref ca, .long sm, .int (oI lo)])), (ca, .inl (cJ, 64, .inr (.inl fc))), (rq, .inr (5, [.ref rb])), (rb, .inr (0, [.ref rd])), (rd, .inl (cJ, 128, .inr (.inl ft))), (uq, .inr (1, [.ref bm, .ref bs])), (bm, .inr (0, [.ref am])), (am, .inl (cJ, 64, .inr (.inl fm))), (bs, .inr (0, [.ref ap])), (ap, .inl (cJ, 64, .inr (.inl fs))), (s2, .inr (3, [.ref tq_o, .ref rq_o, .ref uq_o])), (tq_o, .inr (4, [.ref ca_o, .long osm, .int (oI olo)])), (ca_o, .inl (cJ, 64, .inr (.inl oc))), (rq_o, .inr (5, [.ref rb_o])), (rb_o, .inr (0, [.ref rd_o])), (rd_o, .inl (cJ, 128, .inr (.inl ot))), (uq_o, .inr (1, [.ref bm_o, .ref bs_o])), (bm_o, .inr (0, [.ref am_o])), (am_o, .inl (cJ, 64, .inr (.inl om))), (bs_o, .inr (0, [.ref ap_o])), (ap_o, .inl (cJ, 64, .inr (.inl os)))] s.heap := hP
  have hl := lv_entry ([.ref q, .int (nI 0), .int (nI 2)]) (n := 8) (Nat.le_of_ble_eq_true rfl)
  rw [lg_entry_eq]
  generalize (lg_sl ([.ref q, .int (nI 0), .int (nI 2)]) ++ List.replicate (8 - (lg_sl ([.ref q, .int (nI 0), .int (nI 2)])).length) Slot.unset).toArray = ls at hl ⊢
  have hl : lv_has ls 8 [(0, .ref q), (1, .int (nI 0)), (2, .int (nI 2))] := hl
  have hcb := fb_ct_le (bo om) 4096
  refine lv_aload_n hx hb dX7_insertAll_0 rfl (lv_at hl 0 rfl) ?_
  refine lv_iload_n hx hb dX7_insertAll_1 rfl (lv_at hl 1 rfl) ?_
  have hPc := hP.sub (ws' := [(q, .inr (6, [.ref s0, .ref s1, .ref s2]))]) [0] rfl
  have hKc := hK.sub (tys' := []) [] rfl
  refine va_csr (W.runV (As := [.int (nI 0)]) (rest := []) ⟨hx, hb, hml, hown, hts⟩ (c_X7_chosenSet_0 l dC dI q s0 s1 s2 ) (cwV 1 hts gX7_insertAll_X7_chosenSet rfl rfl rfl (by decide +kernel) ⟨Nat.le_of_ble_eq_true rfl, Nat.le_of_ble_eq_true rfl⟩) ⟨fun a U g mk q => by obtain ⟨q0, qP, qK⟩ := q; exact ⟨q0, qP, va_K.moved (u := U) (U := U.calling g mk a) (Vm.Alike.refl U.vm) qK⟩, va_recv hKc hPc (ci := 6) (q0 := 0) rfl rfl, fun U hU hW => ⟨rfl, by rw [hU]; exact hPc, va_K.moved hW.alike hKc⟩⟩ rfl rfl hl.1 rfl (lv_room (Nat.le_of_ble_eq_true rfl)) dX7_insertAll_2 ⟨Nat.le_of_ble_eq_true rfl, Nat.le_of_ble_eq_true rfl⟩) (fun r_2 hw_1 => ?_)
  have hw_1 := hw_1.symm
  subst hw_1
  refine lv_astore_n (lv' := [(3, .ref s0), (0, .ref q), (1, .int (nI 0)), (2, .int (nI 2))]) hx hb dX7_insertAll_5 rfl hl (by decide) rfl (fun ls hl => ?_)
  refine lv_aload_n hx hb dX7_insertAll_6 rfl (lv_at hl 1 rfl) ?_
  refine lv_iload_n hx hb dX7_insertAll_7 rfl (lv_at hl 3 rfl) ?_
  have hPc := hP.sub (ws' := [(q, .inr (6, [.ref s0, .ref s1, .ref s2]))]) [0] rfl
  have hKc := hK.sub (tys' := []) [] rfl
  refine va_csr (W.runV (As := [.int (nI 2)]) (rest := []) ⟨hx, hb, hml, hown, hts⟩ (c_X7_chosenSet_2 l dC dI q s0 s1 s2 ) (cwV 1 hts gX7_insertAll_X7_chosenSet rfl rfl rfl (by decide +kernel) ⟨Nat.le_of_ble_eq_true rfl, Nat.le_of_ble_eq_true rfl⟩) ⟨fun a U g mk q => by obtain ⟨q0, qP, qK⟩ := q; exact ⟨q0, qP, va_K.moved (u := U) (U := U.calling g mk a) (Vm.Alike.refl U.vm) qK⟩, va_recv hKc hPc (ci := 6) (q0 := 0) rfl rfl, fun U hU hW => ⟨rfl, by rw [hU]; exact hPc, va_K.moved hW.alike hKc⟩⟩ rfl rfl hl.1 rfl (lv_room (Nat.le_of_ble_eq_true rfl)) dX7_insertAll_8 ⟨Nat.le_of_ble_eq_true rfl, Nat.le_of_ble_eq_true rfl⟩) (fun r_4 hw_3 => ?_)
  have hw_3 := hw_3.symm
  subst hw_3
  refine lv_astore (lv' := [(4, .ref s2), (3, .ref s0), (0, .ref q), (1, .int (nI 0)), (2, .int (nI 2))]) hx hb dX7_insertAll_11 hl (by decide) rfl (fun ls hl => ?_)
  refine lv_aload hx hb dX7_insertAll_13 (lv_at hl 0 rfl) ?_
  refine va_getN (D := (dC, dI)) (ci := 3) (v := .ref uq_o) (C := RX3) (T := TX3) (N := 3) hx hb hts (by decide +kernel) hown hK hP 12 rfl rfl 2 (by decide) (va_Nw.use rfl nw0) (fun _ h9 => h9) rfl dX7_insertAll_15 ?_
  have hPc := hP.sub (ws' := [(uq_o, .inr (1, [.ref bm_o, .ref bs_o])), (bm_o, .inr (0, [.ref am_o])), (am_o, .inl (cJ, 64, .inr (.inl om))), (bs_o, .inr (0, [.ref ap_o])), (ap_o, .inl (cJ, 64, .inr (.inl os)))]) [18, 19, 20, 21, 22] rfl
  have hKc := hK.sub (tys' := [(cJ, .long)]) [0] rfl
  refine vp_callSi (W.runV (As := []) (rest := []) ⟨hx, hb, hml, hown, hts⟩ (c_X1_memberCount l dC dI uq_o bm_o am_o bs_o ap_o cJ om os ) (cwV 0 hts gX7_insertAll_X1_memberCount rfl rfl rfl (by decide +kernel) ⟨Nat.le_of_ble_eq_true rfl, Nat.le_of_ble_eq_true rfl⟩) ⟨fun a U g mk q => by obtain ⟨q0, qP, qK⟩ := q; exact ⟨q0, qP, va_K.moved (u := U) (U := U.calling g mk a) (Vm.Alike.refl U.vm) qK⟩, va_recv hKc hPc (ci := 1) (q0 := 0) rfl rfl, fun U hU hW => ⟨rfl, by rw [hU]; exact hPc, va_K.moved hW.alike hKc⟩⟩ rfl rfl hl.1 rfl (lv_room (Nat.le_of_ble_eq_true rfl)) dX7_insertAll_18 ⟨Nat.le_of_ble_eq_true rfl, Nat.le_of_ble_eq_true rfl⟩) (fun r_6 hw_5 => ?_)
  subst hw_5
  refine lv_istore (lv' := [(5, .int (nI (fb_ct (bo om) 4096))), (4, .ref s2), (3, .ref s0), (0, .ref q), (1, .int (nI 0)), (2, .int (nI 2))]) hx hb dX7_insertAll_21 hl (by decide) rfl (fun ls hl => ?_)
  refine lv_iload hx hb dX7_insertAll_23 (lv_at hl 0 rfl) ?_
  refine lv_bipush (v := nI 30) hx hb dX7_insertAll_25 (by decide +kernel) ?_
  refine lv_icmp_le (tgt := 40) hx hb dX7_insertAll_27 (by decide) (fun qc_7 => ?_) (fun qc_7 => ?_)
  · have c_7 : (fb_ct (bo om) 4096) ≤ 30 := (nI_leI (a := fb_ct (bo om) 4096) (b := 30) (by omega) (by omega)).mp qc_7
    exact absurd c_7 (by omega)
  · have c_7 : ¬ (fb_ct (bo om) 4096) ≤ 30 := fun h9 => qc_7 ((nI_leI (a := fb_ct (bo om) 4096) (b := 30) (by omega) (by omega)).mpr h9)
    exact vx_throwS hx hb hls (own := RX7) (cls := "java/lang/IllegalStateException") (text := "the other set has too many members") (names := ["java/lang/RuntimeException", "java/lang/Exception"]) (ik := 48) (is := 50) (ic := 52) (sa := sa) hown (by decide) (by decide) (hts (.classLink RX7 48 "java/lang/IllegalStateException") (by decide +kernel)) (hts (.initialized "java/lang/IllegalStateException") (by decide +kernel)) hT.1 (vx_hat (L := (vx_atS RX7 52 "java/lang/IllegalStateException" ["java/lang/RuntimeException", "java/lang/Exception"])) (B := [.declares (Bundle.initS tw_r), .declares (Bundle.initS tw_e), .declares (Bundle.initS Bundle.tN), .castable "java/lang/IllegalStateException" "java/lang/IllegalStateException"]) (fun w hw => hts w (List.mem_cons_of_mem _ (List.mem_append_left _ (List.mem_append_right _ hw)))) (by decide +kernel) (vx_c (va_Nw.use rfl hT.2.2.2.1) (vx_c (va_Nw.use rfl hT.2.2.2.2.1) (vx_c (va_Nw.use rfl hT.2.2.2.2.2.1) (vx_c (va_Nw.use rfl hT.2.2.2.2.2.2) vx_n))))) (List.all_eq_true.mp (by decide +kernel)) hT.2.1 hT.2.2.1 hS (by rw [hml]; exact hl.1) dX7_insertAll_30 dX7_insertAll_33 dX7_insertAll_34 dX7_insertAll_36 dX7_insertAll_39 (fun x h => (hcat x h).elim) (Nat.le_of_ble_eq_true rfl) (Nat.le_of_ble_eq_true rfl) (Nat.le_of_ble_eq_true rfl) (Nat.le_of_ble_eq_true rfl) hlocks (fun t _ h1 h2 => ⟨(), trivial, rfl, h1, fun q h3 _ => h2 q h3⟩) (fun z h => nomatch h) (Nat.le_of_ble_eq_true rfl) (Nat.le_of_ble_eq_true rfl)
set_option maxHeartbeats 4000000 in
set_option maxRecDepth 100000 in
/-- insert_n1 throws IllegalArgumentException -/
theorem x_X7_insert_n1 (l : Launch) (hls : l.stackTraces = false) (dC : Nat → ClassId) (dI : Nat → Nat → Nat) (q : Nat) (s0 : Nat) (s1 : Nat) (s2 : Nat) (w : Int32) (sa sz : Nat) (hW : isN w = false) : vx_Met l yX7_insert wsX7_insert ({ frames := 7, cells := 1, slots := 6, locals := 102 }) (va_Pc [.ref q, .int (nI 1), .int w] (fun U => U.heap.size = sz ∧ TW "java/lang/IllegalArgumentException" 153 "the number is out of range" sa (fun q => sz ≤ q) U U.heap ∧ va_P (dC, dI) vwCl [(q, .inr (6, [.ref s0, .ref s1, .ref s2]))] U.heap ∧ va_K (dC, dI) vwCl [] U ∧ va_D (fun _ => True) [(q, .inr (6, [.ref s0, .ref s1, .ref s2]))])) (va_Qv (fun _ : Unit => False) (fun _ _ => True) (fun q => sz ≤ q)) (vx_X (fun _ : Unit => True) (fun E _ _ => E = "java/lang/IllegalArgumentException") (fun q => sz ≤ q)) 1 6 (fun q => sz ≤ q) := by
  refine vx_ofW (cc := cX7_insert) (maxL := 4) (ret := (some .boolean)) (by decide) rfl ?_
  intro p e s m args below meth c s₁ B hml hcat hv
  obtain ⟨rfl, hsz, hT, hP, hK, hD⟩ := hv
  have hx := B.exec
  have hb := B.bytes
  have hr := B.returns
  have hts := atoms_spec (ws := wsX7_insert) B.pre
  have hown : s.vm.findClass RX7 = some m.cls := findClass_of_methodNamed B.named
  have hlocks := B.notSynchronized
  subst hsz
  have hS : va_S (fun q => s.heap.size ≤ q) s.heap s.heap [] := va_S.rf
  have hP : va_P (dC, dI) vwCl [(q, .inr (6, [.ref s0, .ref s1, .ref s2]))] s.heap := hP
  have hl := lv_entry ([.ref q, .int (nI 1), .int w]) (n := 4) (Nat.le_of_ble_eq_true rfl)
  rw [lg_entry_eq]
  generalize (lg_sl ([.ref q, .int (nI 1), .int w]) ++ List.replicate (4 - (lg_sl ([.ref q, .int (nI 1), .int w])).length) Slot.unset).toArray = ls at hl ⊢
  have hl : lv_has ls 4 [(0, .ref q), (1, .int (nI 1)), (2, .int w)] := hl
  refine lv_aload_n hx hb dX7_insert_0 rfl (lv_at hl 0 rfl) ?_
  refine lv_iload_n hx hb dX7_insert_1 rfl (lv_at hl 1 rfl) ?_
  have hPc := hP.sub (ws' := [(q, .inr (6, [.ref s0, .ref s1, .ref s2]))]) [0] rfl
  have hKc := hK.sub (tys' := []) [] rfl
  refine va_csr (W.runV (As := [.int (nI 1)]) (rest := []) ⟨hx, hb, hml, hown, hts⟩ (c_X7_chosenSet_1 l dC dI q s0 s1 s2 ) (cwV 1 hts gX7_insert_X7_chosenSet rfl rfl rfl (by decide +kernel) ⟨Nat.le_of_ble_eq_true rfl, Nat.le_of_ble_eq_true rfl⟩) ⟨fun a U g mk q => by obtain ⟨q0, qP, qK⟩ := q; exact ⟨q0, qP, va_K.moved (u := U) (U := U.calling g mk a) (Vm.Alike.refl U.vm) qK⟩, va_recv hKc hPc (ci := 6) (q0 := 0) rfl rfl, fun U hU hW => ⟨rfl, by rw [hU]; exact hPc, va_K.moved hW.alike hKc⟩⟩ rfl rfl hl.1 rfl (lv_room (Nat.le_of_ble_eq_true rfl)) dX7_insert_2 ⟨Nat.le_of_ble_eq_true rfl, Nat.le_of_ble_eq_true rfl⟩) (fun r_2 hw_1 => ?_)
  have hw_1 := hw_1.symm
  subst hw_1
  refine lv_astore_n (lv' := [(3, .ref s1), (0, .ref q), (1, .int (nI 1)), (2, .int w)]) hx hb dX7_insert_5 rfl hl (by decide) rfl (fun ls hl => ?_)
  refine lv_iload_n hx hb dX7_insert_6 rfl (lv_at hl 3 rfl) ?_
  have hPc := hP.sub (ws' := []) [] rfl
  have hKc := hK.sub (tys' := []) [] rfl
  have hDc := hD.sub (ws' := []) [] (by decide) rfl
  exact vx_callv (vx_runS (As := [.int w]) (rest := []) ⟨hx, hb, hml, hown, hts⟩ (x_X7_needNumber l hls dC dI w sa s.heap.size (by first | assumption | omega)) (va_cwS 1 hts gX7_insert_X7_needNumber rfl rfl rfl (by decide +kernel) ⟨Nat.le_of_ble_eq_true rfl, Nat.le_of_ble_eq_true rfl⟩) ⟨fun a U g mk q => by obtain ⟨q0, q1, qT, qP, qK, qD⟩ := q; exact ⟨q0, q1, TW.same (u := U) (U := U.calling g mk a) rfl qT, qP, va_K.moved (u := U) (U := U.calling g mk a) (Vm.Alike.refl U.vm) qK, qD⟩, fun U hU hW => ⟨rfl, by rw [hU], by rw [hU]; exact TW.warm hW hT, by rw [hU]; exact hPc, va_K.moved hW.alike hKc, hDc.weaken (fun _ _ _ _ => trivial)⟩⟩ rfl rfl hl.1 rfl (lv_room (Nat.le_of_ble_eq_true rfl)) dX7_insert_7 ⟨Nat.le_of_ble_eq_true rfl, Nat.le_of_ble_eq_true rfl⟩) hS (fun q h9 h8 => absurd h8 (Nat.not_le_of_lt h9)) (fun q h8 => Nat.le_trans hS.1 h8) (fun q h9 h8 => absurd h8 (Nat.not_le_of_lt h9)) (fun E9 ce9 q9 u9 t9 H9 l9 ht9 hvm9 hu9 hE9 hz9 hk9 hS9 hce9 hcv9 hcl9 => vx_out (fun x h => (hcat x h).elim) hlocks hce9 hcv9 hcl9 (fun t8 ht8 ha8 => ⟨(), trivial, hE9, by rw [ht8]; exact hz9, fun q h1 h2 => by rw [ht8]; exact hk9 q h1 h2⟩) hS9.2.2 (Nat.le_of_ble_eq_true rfl) (Nat.le_of_ble_eq_true rfl)) (fun u9 t9 H9 l9 ht9 hvm9 hu9 hB9 hz9 hk9 hS9 => hu9.elim)
set_option maxHeartbeats 4000000 in
set_option maxRecDepth 100000 in
/-- delete_n1 throws IllegalArgumentException -/
theorem x_X7_delete_n1 (l : Launch) (hls : l.stackTraces = false) (dC : Nat → ClassId) (dI : Nat → Nat → Nat) (q : Nat) (s0 : Nat) (s1 : Nat) (s2 : Nat) (w : Int32) (sa sz : Nat) (hW : isN w = false) : vx_Met l yX7_delete wsX7_delete ({ frames := 7, cells := 1, slots := 6, locals := 102 }) (va_Pc [.ref q, .int (nI 1), .int w] (fun U => U.heap.size = sz ∧ TW "java/lang/IllegalArgumentException" 153 "the number is out of range" sa (fun q => sz ≤ q) U U.heap ∧ va_P (dC, dI) vwCl [(q, .inr (6, [.ref s0, .ref s1, .ref s2]))] U.heap ∧ va_K (dC, dI) vwCl [] U ∧ va_D (fun _ => True) [(q, .inr (6, [.ref s0, .ref s1, .ref s2]))])) (va_Qv (fun _ : Unit => False) (fun _ _ => True) (fun q => sz ≤ q)) (vx_X (fun _ : Unit => True) (fun E _ _ => E = "java/lang/IllegalArgumentException") (fun q => sz ≤ q)) 1 6 (fun q => sz ≤ q) := by
  refine vx_ofW (cc := cX7_delete) (maxL := 4) (ret := (some .boolean)) (by decide) rfl ?_
  intro p e s m args below meth c s₁ B hml hcat hv
  obtain ⟨rfl, hsz, hT, hP, hK, hD⟩ := hv
  have hx := B.exec
  have hb := B.bytes
  have hr := B.returns
  have hts := atoms_spec (ws := wsX7_delete) B.pre
  have hown : s.vm.findClass RX7 = some m.cls := findClass_of_methodNamed B.named
  have hlocks := B.notSynchronized
  subst hsz
  have hS : va_S (fun q => s.heap.size ≤ q) s.heap s.heap [] := va_S.rf
  have hP : va_P (dC, dI) vwCl [(q, .inr (6, [.ref s0, .ref s1, .ref s2]))] s.heap := hP
  have hl := lv_entry ([.ref q, .int (nI 1), .int w]) (n := 4) (Nat.le_of_ble_eq_true rfl)
  rw [lg_entry_eq]
  generalize (lg_sl ([.ref q, .int (nI 1), .int w]) ++ List.replicate (4 - (lg_sl ([.ref q, .int (nI 1), .int w])).length) Slot.unset).toArray = ls at hl ⊢
  have hl : lv_has ls 4 [(0, .ref q), (1, .int (nI 1)), (2, .int w)] := hl
  refine lv_aload_n hx hb dX7_delete_0 rfl (lv_at hl 0 rfl) ?_
  refine lv_iload_n hx hb dX7_delete_1 rfl (lv_at hl 1 rfl) ?_
  have hPc := hP.sub (ws' := [(q, .inr (6, [.ref s0, .ref s1, .ref s2]))]) [0] rfl
  have hKc := hK.sub (tys' := []) [] rfl
  refine va_csr (W.runV (As := [.int (nI 1)]) (rest := []) ⟨hx, hb, hml, hown, hts⟩ (c_X7_chosenSet_1 l dC dI q s0 s1 s2 ) (cwV 1 hts gX7_delete_X7_chosenSet rfl rfl rfl (by decide +kernel) ⟨Nat.le_of_ble_eq_true rfl, Nat.le_of_ble_eq_true rfl⟩) ⟨fun a U g mk q => by obtain ⟨q0, qP, qK⟩ := q; exact ⟨q0, qP, va_K.moved (u := U) (U := U.calling g mk a) (Vm.Alike.refl U.vm) qK⟩, va_recv hKc hPc (ci := 6) (q0 := 0) rfl rfl, fun U hU hW => ⟨rfl, by rw [hU]; exact hPc, va_K.moved hW.alike hKc⟩⟩ rfl rfl hl.1 rfl (lv_room (Nat.le_of_ble_eq_true rfl)) dX7_delete_2 ⟨Nat.le_of_ble_eq_true rfl, Nat.le_of_ble_eq_true rfl⟩) (fun r_2 hw_1 => ?_)
  have hw_1 := hw_1.symm
  subst hw_1
  refine lv_astore_n (lv' := [(3, .ref s1), (0, .ref q), (1, .int (nI 1)), (2, .int w)]) hx hb dX7_delete_5 rfl hl (by decide) rfl (fun ls hl => ?_)
  refine lv_iload_n hx hb dX7_delete_6 rfl (lv_at hl 3 rfl) ?_
  have hPc := hP.sub (ws' := []) [] rfl
  have hKc := hK.sub (tys' := []) [] rfl
  have hDc := hD.sub (ws' := []) [] (by decide) rfl
  exact vx_callv (vx_runS (As := [.int w]) (rest := []) ⟨hx, hb, hml, hown, hts⟩ (x_X7_needNumber l hls dC dI w sa s.heap.size (by first | assumption | omega)) (va_cwS 1 hts gX7_delete_X7_needNumber rfl rfl rfl (by decide +kernel) ⟨Nat.le_of_ble_eq_true rfl, Nat.le_of_ble_eq_true rfl⟩) ⟨fun a U g mk q => by obtain ⟨q0, q1, qT, qP, qK, qD⟩ := q; exact ⟨q0, q1, TW.same (u := U) (U := U.calling g mk a) rfl qT, qP, va_K.moved (u := U) (U := U.calling g mk a) (Vm.Alike.refl U.vm) qK, qD⟩, fun U hU hW => ⟨rfl, by rw [hU], by rw [hU]; exact TW.warm hW hT, by rw [hU]; exact hPc, va_K.moved hW.alike hKc, hDc.weaken (fun _ _ _ _ => trivial)⟩⟩ rfl rfl hl.1 rfl (lv_room (Nat.le_of_ble_eq_true rfl)) dX7_delete_7 ⟨Nat.le_of_ble_eq_true rfl, Nat.le_of_ble_eq_true rfl⟩) hS (fun q h9 h8 => absurd h8 (Nat.not_le_of_lt h9)) (fun q h8 => Nat.le_trans hS.1 h8) (fun q h9 h8 => absurd h8 (Nat.not_le_of_lt h9)) (fun E9 ce9 q9 u9 t9 H9 l9 ht9 hvm9 hu9 hE9 hz9 hk9 hS9 hce9 hcv9 hcl9 => vx_out (fun x h => (hcat x h).elim) hlocks hce9 hcv9 hcl9 (fun t8 ht8 ha8 => ⟨(), trivial, hE9, by rw [ht8]; exact hz9, fun q h1 h2 => by rw [ht8]; exact hk9 q h1 h2⟩) hS9.2.2 (Nat.le_of_ble_eq_true rfl) (Nat.le_of_ble_eq_true rfl)) (fun u9 t9 H9 l9 ht9 hvm9 hu9 hB9 hz9 hk9 hS9 => hu9.elim)
set_option maxHeartbeats 4000000 in
set_option maxRecDepth 100000 in
/-- contains_n1 throws IllegalArgumentException -/
theorem x_X7_contains_n1 (l : Launch) (hls : l.stackTraces = false) (dC : Nat → ClassId) (dI : Nat → Nat → Nat) (q : Nat) (s0 : Nat) (s1 : Nat) (s2 : Nat) (w : Int32) (sa sz : Nat) (hW : isN w = false) : vx_Met l yX7_contains wsX7_contains ({ frames := 7, cells := 1, slots := 6, locals := 102 }) (va_Pc [.ref q, .int (nI 1), .int w] (fun U => U.heap.size = sz ∧ TW "java/lang/IllegalArgumentException" 153 "the number is out of range" sa (fun q => sz ≤ q) U U.heap ∧ va_P (dC, dI) vwCl [(q, .inr (6, [.ref s0, .ref s1, .ref s2]))] U.heap ∧ va_K (dC, dI) vwCl [] U ∧ va_D (fun _ => True) [(q, .inr (6, [.ref s0, .ref s1, .ref s2]))])) (va_Qv (fun _ : Unit => False) (fun _ _ => True) (fun q => sz ≤ q)) (vx_X (fun _ : Unit => True) (fun E _ _ => E = "java/lang/IllegalArgumentException") (fun q => sz ≤ q)) 1 6 (fun q => sz ≤ q) := by
  refine vx_ofW (cc := cX7_contains) (maxL := 4) (ret := (some .boolean)) (by decide) rfl ?_
  intro p e s m args below meth c s₁ B hml hcat hv
  obtain ⟨rfl, hsz, hT, hP, hK, hD⟩ := hv
  have hx := B.exec
  have hb := B.bytes
  have hr := B.returns
  have hts := atoms_spec (ws := wsX7_contains) B.pre
  have hown : s.vm.findClass RX7 = some m.cls := findClass_of_methodNamed B.named
  have hlocks := B.notSynchronized
  subst hsz
  have hS : va_S (fun q => s.heap.size ≤ q) s.heap s.heap [] := va_S.rf
  have hP : va_P (dC, dI) vwCl [(q, .inr (6, [.ref s0, .ref s1, .ref s2]))] s.heap := hP
  have hl := lv_entry ([.ref q, .int (nI 1), .int w]) (n := 4) (Nat.le_of_ble_eq_true rfl)
  rw [lg_entry_eq]
  generalize (lg_sl ([.ref q, .int (nI 1), .int w]) ++ List.replicate (4 - (lg_sl ([.ref q, .int (nI 1), .int w])).length) Slot.unset).toArray = ls at hl ⊢
  have hl : lv_has ls 4 [(0, .ref q), (1, .int (nI 1)), (2, .int w)] := hl
  refine lv_aload_n hx hb dX7_contains_0 rfl (lv_at hl 0 rfl) ?_
  refine lv_iload_n hx hb dX7_contains_1 rfl (lv_at hl 1 rfl) ?_
  have hPc := hP.sub (ws' := [(q, .inr (6, [.ref s0, .ref s1, .ref s2]))]) [0] rfl
  have hKc := hK.sub (tys' := []) [] rfl
  refine va_csr (W.runV (As := [.int (nI 1)]) (rest := []) ⟨hx, hb, hml, hown, hts⟩ (c_X7_chosenSet_1 l dC dI q s0 s1 s2 ) (cwV 1 hts gX7_contains_X7_chosenSet rfl rfl rfl (by decide +kernel) ⟨Nat.le_of_ble_eq_true rfl, Nat.le_of_ble_eq_true rfl⟩) ⟨fun a U g mk q => by obtain ⟨q0, qP, qK⟩ := q; exact ⟨q0, qP, va_K.moved (u := U) (U := U.calling g mk a) (Vm.Alike.refl U.vm) qK⟩, va_recv hKc hPc (ci := 6) (q0 := 0) rfl rfl, fun U hU hW => ⟨rfl, by rw [hU]; exact hPc, va_K.moved hW.alike hKc⟩⟩ rfl rfl hl.1 rfl (lv_room (Nat.le_of_ble_eq_true rfl)) dX7_contains_2 ⟨Nat.le_of_ble_eq_true rfl, Nat.le_of_ble_eq_true rfl⟩) (fun r_2 hw_1 => ?_)
  have hw_1 := hw_1.symm
  subst hw_1
  refine lv_astore_n (lv' := [(3, .ref s1), (0, .ref q), (1, .int (nI 1)), (2, .int w)]) hx hb dX7_contains_5 rfl hl (by decide) rfl (fun ls hl => ?_)
  refine lv_iload_n hx hb dX7_contains_6 rfl (lv_at hl 3 rfl) ?_
  have hPc := hP.sub (ws' := []) [] rfl
  have hKc := hK.sub (tys' := []) [] rfl
  have hDc := hD.sub (ws' := []) [] (by decide) rfl
  exact vx_callv (vx_runS (As := [.int w]) (rest := []) ⟨hx, hb, hml, hown, hts⟩ (x_X7_needNumber l hls dC dI w sa s.heap.size (by first | assumption | omega)) (va_cwS 1 hts gX7_contains_X7_needNumber rfl rfl rfl (by decide +kernel) ⟨Nat.le_of_ble_eq_true rfl, Nat.le_of_ble_eq_true rfl⟩) ⟨fun a U g mk q => by obtain ⟨q0, q1, qT, qP, qK, qD⟩ := q; exact ⟨q0, q1, TW.same (u := U) (U := U.calling g mk a) rfl qT, qP, va_K.moved (u := U) (U := U.calling g mk a) (Vm.Alike.refl U.vm) qK, qD⟩, fun U hU hW => ⟨rfl, by rw [hU], by rw [hU]; exact TW.warm hW hT, by rw [hU]; exact hPc, va_K.moved hW.alike hKc, hDc.weaken (fun _ _ _ _ => trivial)⟩⟩ rfl rfl hl.1 rfl (lv_room (Nat.le_of_ble_eq_true rfl)) dX7_contains_7 ⟨Nat.le_of_ble_eq_true rfl, Nat.le_of_ble_eq_true rfl⟩) hS (fun q h9 h8 => absurd h8 (Nat.not_le_of_lt h9)) (fun q h8 => Nat.le_trans hS.1 h8) (fun q h9 h8 => absurd h8 (Nat.not_le_of_lt h9)) (fun E9 ce9 q9 u9 t9 H9 l9 ht9 hvm9 hu9 hE9 hz9 hk9 hS9 hce9 hcv9 hcl9 => vx_out (fun x h => (hcat x h).elim) hlocks hce9 hcv9 hcl9 (fun t8 ht8 ha8 => ⟨(), trivial, hE9, by rw [ht8]; exact hz9, fun q h1 h2 => by rw [ht8]; exact hk9 q h1 h2⟩) hS9.2.2 (Nat.le_of_ble_eq_true rfl) (Nat.le_of_ble_eq_true rfl)) (fun u9 t9 H9 l9 ht9 hvm9 hu9 hB9 hz9 hk9 hS9 => hu9.elim)
set_option maxHeartbeats 4000000 in
set_option maxRecDepth 100000 in
/-- successor_n1 throws IllegalArgumentException -/
theorem x_X7_successor_n1 (l : Launch) (hls : l.stackTraces = false) (dC : Nat → ClassId) (dI : Nat → Nat → Nat) (q : Nat) (s0 : Nat) (s1 : Nat) (s2 : Nat) (w : Int32) (sa sz : Nat) (hW : isN w = false) : vx_Met l yX7_successor wsX7_successor ({ frames := 7, cells := 1, slots := 6, locals := 102 }) (va_Pc [.ref q, .int (nI 1), .int w] (fun U => U.heap.size = sz ∧ TW "java/lang/IllegalArgumentException" 153 "the number is out of range" sa (fun q => sz ≤ q) U U.heap ∧ va_P (dC, dI) vwCl [(q, .inr (6, [.ref s0, .ref s1, .ref s2]))] U.heap ∧ va_K (dC, dI) vwCl [] U ∧ va_D (fun _ => True) [(q, .inr (6, [.ref s0, .ref s1, .ref s2]))])) (va_Qv (fun _ : Unit => False) (fun _ _ => True) (fun q => sz ≤ q)) (vx_X (fun _ : Unit => True) (fun E _ _ => E = "java/lang/IllegalArgumentException") (fun q => sz ≤ q)) 1 6 (fun q => sz ≤ q) := by
  refine vx_ofW (cc := cX7_successor) (maxL := 4) (ret := (some .int)) (by decide) rfl ?_
  intro p e s m args below meth c s₁ B hml hcat hv
  obtain ⟨rfl, hsz, hT, hP, hK, hD⟩ := hv
  have hx := B.exec
  have hb := B.bytes
  have hr := B.returns
  have hts := atoms_spec (ws := wsX7_successor) B.pre
  have hown : s.vm.findClass RX7 = some m.cls := findClass_of_methodNamed B.named
  have hlocks := B.notSynchronized
  subst hsz
  have hS : va_S (fun q => s.heap.size ≤ q) s.heap s.heap [] := va_S.rf
  have hP : va_P (dC, dI) vwCl [(q, .inr (6, [.ref s0, .ref s1, .ref s2]))] s.heap := hP
  have hl := lv_entry ([.ref q, .int (nI 1), .int w]) (n := 4) (Nat.le_of_ble_eq_true rfl)
  rw [lg_entry_eq]
  generalize (lg_sl ([.ref q, .int (nI 1), .int w]) ++ List.replicate (4 - (lg_sl ([.ref q, .int (nI 1), .int w])).length) Slot.unset).toArray = ls at hl ⊢
  have hl : lv_has ls 4 [(0, .ref q), (1, .int (nI 1)), (2, .int w)] := hl
  refine lv_aload_n hx hb dX7_successor_0 rfl (lv_at hl 0 rfl) ?_
  refine lv_iload_n hx hb dX7_successor_1 rfl (lv_at hl 1 rfl) ?_
  have hPc := hP.sub (ws' := [(q, .inr (6, [.ref s0, .ref s1, .ref s2]))]) [0] rfl
  have hKc := hK.sub (tys' := []) [] rfl
  refine va_csr (W.runV (As := [.int (nI 1)]) (rest := []) ⟨hx, hb, hml, hown, hts⟩ (c_X7_chosenSet_1 l dC dI q s0 s1 s2 ) (cwV 1 hts gX7_successor_X7_chosenSet rfl rfl rfl (by decide +kernel) ⟨Nat.le_of_ble_eq_true rfl, Nat.le_of_ble_eq_true rfl⟩) ⟨fun a U g mk q => by obtain ⟨q0, qP, qK⟩ := q; exact ⟨q0, qP, va_K.moved (u := U) (U := U.calling g mk a) (Vm.Alike.refl U.vm) qK⟩, va_recv hKc hPc (ci := 6) (q0 := 0) rfl rfl, fun U hU hW => ⟨rfl, by rw [hU]; exact hPc, va_K.moved hW.alike hKc⟩⟩ rfl rfl hl.1 rfl (lv_room (Nat.le_of_ble_eq_true rfl)) dX7_successor_2 ⟨Nat.le_of_ble_eq_true rfl, Nat.le_of_ble_eq_true rfl⟩) (fun r_2 hw_1 => ?_)
  have hw_1 := hw_1.symm
  subst hw_1
  refine lv_astore_n (lv' := [(3, .ref s1), (0, .ref q), (1, .int (nI 1)), (2, .int w)]) hx hb dX7_successor_5 rfl hl (by decide) rfl (fun ls hl => ?_)
  refine lv_iload_n hx hb dX7_successor_6 rfl (lv_at hl 3 rfl) ?_
  have hPc := hP.sub (ws' := []) [] rfl
  have hKc := hK.sub (tys' := []) [] rfl
  have hDc := hD.sub (ws' := []) [] (by decide) rfl
  exact vx_callv (vx_runS (As := [.int w]) (rest := []) ⟨hx, hb, hml, hown, hts⟩ (x_X7_needNumber l hls dC dI w sa s.heap.size (by first | assumption | omega)) (va_cwS 1 hts gX7_successor_X7_needNumber rfl rfl rfl (by decide +kernel) ⟨Nat.le_of_ble_eq_true rfl, Nat.le_of_ble_eq_true rfl⟩) ⟨fun a U g mk q => by obtain ⟨q0, q1, qT, qP, qK, qD⟩ := q; exact ⟨q0, q1, TW.same (u := U) (U := U.calling g mk a) rfl qT, qP, va_K.moved (u := U) (U := U.calling g mk a) (Vm.Alike.refl U.vm) qK, qD⟩, fun U hU hW => ⟨rfl, by rw [hU], by rw [hU]; exact TW.warm hW hT, by rw [hU]; exact hPc, va_K.moved hW.alike hKc, hDc.weaken (fun _ _ _ _ => trivial)⟩⟩ rfl rfl hl.1 rfl (lv_room (Nat.le_of_ble_eq_true rfl)) dX7_successor_7 ⟨Nat.le_of_ble_eq_true rfl, Nat.le_of_ble_eq_true rfl⟩) hS (fun q h9 h8 => absurd h8 (Nat.not_le_of_lt h9)) (fun q h8 => Nat.le_trans hS.1 h8) (fun q h9 h8 => absurd h8 (Nat.not_le_of_lt h9)) (fun E9 ce9 q9 u9 t9 H9 l9 ht9 hvm9 hu9 hE9 hz9 hk9 hS9 hce9 hcv9 hcl9 => vx_out (fun x h => (hcat x h).elim) hlocks hce9 hcv9 hcl9 (fun t8 ht8 ha8 => ⟨(), trivial, hE9, by rw [ht8]; exact hz9, fun q h1 h2 => by rw [ht8]; exact hk9 q h1 h2⟩) hS9.2.2 (Nat.le_of_ble_eq_true rfl) (Nat.le_of_ble_eq_true rfl)) (fun u9 t9 H9 l9 ht9 hvm9 hu9 hB9 hz9 hk9 hS9 => hu9.elim)
set_option maxHeartbeats 4000000 in
set_option maxRecDepth 100000 in
/-- predecessor_n1 throws IllegalArgumentException -/
theorem x_X7_predecessor_n1 (l : Launch) (hls : l.stackTraces = false) (dC : Nat → ClassId) (dI : Nat → Nat → Nat) (q : Nat) (s0 : Nat) (s1 : Nat) (s2 : Nat) (w : Int32) (sa sz : Nat) (hW : isN w = false) : vx_Met l yX7_predecessor wsX7_predecessor ({ frames := 7, cells := 1, slots := 6, locals := 102 }) (va_Pc [.ref q, .int (nI 1), .int w] (fun U => U.heap.size = sz ∧ TW "java/lang/IllegalArgumentException" 153 "the number is out of range" sa (fun q => sz ≤ q) U U.heap ∧ va_P (dC, dI) vwCl [(q, .inr (6, [.ref s0, .ref s1, .ref s2]))] U.heap ∧ va_K (dC, dI) vwCl [] U ∧ va_D (fun _ => True) [(q, .inr (6, [.ref s0, .ref s1, .ref s2]))])) (va_Qv (fun _ : Unit => False) (fun _ _ => True) (fun q => sz ≤ q)) (vx_X (fun _ : Unit => True) (fun E _ _ => E = "java/lang/IllegalArgumentException") (fun q => sz ≤ q)) 1 6 (fun q => sz ≤ q) := by
  refine vx_ofW (cc := cX7_predecessor) (maxL := 4) (ret := (some .int)) (by decide) rfl ?_
  intro p e s m args below meth c s₁ B hml hcat hv
  obtain ⟨rfl, hsz, hT, hP, hK, hD⟩ := hv
  have hx := B.exec
  have hb := B.bytes
  have hr := B.returns
  have hts := atoms_spec (ws := wsX7_predecessor) B.pre
  have hown : s.vm.findClass RX7 = some m.cls := findClass_of_methodNamed B.named
  have hlocks := B.notSynchronized
  subst hsz
  have hS : va_S (fun q => s.heap.size ≤ q) s.heap s.heap [] := va_S.rf
  have hP : va_P (dC, dI) vwCl [(q, .inr (6, [.ref s0, .ref s1, .ref s2]))] s.heap := hP
  have hl := lv_entry ([.ref q, .int (nI 1), .int w]) (n := 4) (Nat.le_of_ble_eq_true rfl)
  rw [lg_entry_eq]
  generalize (lg_sl ([.ref q, .int (nI 1), .int w]) ++ List.replicate (4 - (lg_sl ([.ref q, .int (nI 1), .int w])).length) Slot.unset).toArray = ls at hl ⊢
  have hl : lv_has ls 4 [(0, .ref q), (1, .int (nI 1)), (2, .int w)] := hl
  refine lv_aload_n hx hb dX7_predecessor_0 rfl (lv_at hl 0 rfl) ?_
  refine lv_iload_n hx hb dX7_predecessor_1 rfl (lv_at hl 1 rfl) ?_
  have hPc := hP.sub (ws' := [(q, .inr (6, [.ref s0, .ref s1, .ref s2]))]) [0] rfl
  have hKc := hK.sub (tys' := []) [] rfl
  refine va_csr (W.runV (As := [.int (nI 1)]) (rest := []) ⟨hx, hb, hml, hown, hts⟩ (c_X7_chosenSet_1 l dC dI q s0 s1 s2 ) (cwV 1 hts gX7_predecessor_X7_chosenSet rfl rfl rfl (by decide +kernel) ⟨Nat.le_of_ble_eq_true rfl, Nat.le_of_ble_eq_true rfl⟩) ⟨fun a U g mk q => by obtain ⟨q0, qP, qK⟩ := q; exact ⟨q0, qP, va_K.moved (u := U) (U := U.calling g mk a) (Vm.Alike.refl U.vm) qK⟩, va_recv hKc hPc (ci := 6) (q0 := 0) rfl rfl, fun U hU hW => ⟨rfl, by rw [hU]; exact hPc, va_K.moved hW.alike hKc⟩⟩ rfl rfl hl.1 rfl (lv_room (Nat.le_of_ble_eq_true rfl)) dX7_predecessor_2 ⟨Nat.le_of_ble_eq_true rfl, Nat.le_of_ble_eq_true rfl⟩) (fun r_2 hw_1 => ?_)
  have hw_1 := hw_1.symm
  subst hw_1
  refine lv_astore_n (lv' := [(3, .ref s1), (0, .ref q), (1, .int (nI 1)), (2, .int w)]) hx hb dX7_predecessor_5 rfl hl (by decide) rfl (fun ls hl => ?_)
  refine lv_iload_n hx hb dX7_predecessor_6 rfl (lv_at hl 3 rfl) ?_
  have hPc := hP.sub (ws' := []) [] rfl
  have hKc := hK.sub (tys' := []) [] rfl
  have hDc := hD.sub (ws' := []) [] (by decide) rfl
  exact vx_callv (vx_runS (As := [.int w]) (rest := []) ⟨hx, hb, hml, hown, hts⟩ (x_X7_needNumber l hls dC dI w sa s.heap.size (by first | assumption | omega)) (va_cwS 1 hts gX7_predecessor_X7_needNumber rfl rfl rfl (by decide +kernel) ⟨Nat.le_of_ble_eq_true rfl, Nat.le_of_ble_eq_true rfl⟩) ⟨fun a U g mk q => by obtain ⟨q0, q1, qT, qP, qK, qD⟩ := q; exact ⟨q0, q1, TW.same (u := U) (U := U.calling g mk a) rfl qT, qP, va_K.moved (u := U) (U := U.calling g mk a) (Vm.Alike.refl U.vm) qK, qD⟩, fun U hU hW => ⟨rfl, by rw [hU], by rw [hU]; exact TW.warm hW hT, by rw [hU]; exact hPc, va_K.moved hW.alike hKc, hDc.weaken (fun _ _ _ _ => trivial)⟩⟩ rfl rfl hl.1 rfl (lv_room (Nat.le_of_ble_eq_true rfl)) dX7_predecessor_7 ⟨Nat.le_of_ble_eq_true rfl, Nat.le_of_ble_eq_true rfl⟩) hS (fun q h9 h8 => absurd h8 (Nat.not_le_of_lt h9)) (fun q h8 => Nat.le_trans hS.1 h8) (fun q h9 h8 => absurd h8 (Nat.not_le_of_lt h9)) (fun E9 ce9 q9 u9 t9 H9 l9 ht9 hvm9 hu9 hE9 hz9 hk9 hS9 hce9 hcv9 hcl9 => vx_out (fun x h => (hcat x h).elim) hlocks hce9 hcv9 hcl9 (fun t8 ht8 ha8 => ⟨(), trivial, hE9, by rw [ht8]; exact hz9, fun q h1 h2 => by rw [ht8]; exact hk9 q h1 h2⟩) hS9.2.2 (Nat.le_of_ble_eq_true rfl) (Nat.le_of_ble_eq_true rfl)) (fun u9 t9 H9 l9 ht9 hvm9 hu9 hB9 hz9 hk9 hS9 => hu9.elim)
set_option maxHeartbeats 4000000 in
set_option maxRecDepth 100000 in
/-- rank_n1 throws IllegalArgumentException -/
theorem x_X7_rank_n1 (l : Launch) (hls : l.stackTraces = false) (dC : Nat → ClassId) (dI : Nat → Nat → Nat) (q : Nat) (s0 : Nat) (s1 : Nat) (s2 : Nat) (w : Int32) (sa sz : Nat) (hW : isN w = false) : vx_Met l yX7_rank wsX7_rank ({ frames := 7, cells := 1, slots := 6, locals := 102 }) (va_Pc [.ref q, .int (nI 1), .int w] (fun U => U.heap.size = sz ∧ TW "java/lang/IllegalArgumentException" 153 "the number is out of range" sa (fun q => sz ≤ q) U U.heap ∧ va_P (dC, dI) vwCl [(q, .inr (6, [.ref s0, .ref s1, .ref s2]))] U.heap ∧ va_K (dC, dI) vwCl [] U ∧ va_D (fun _ => True) [(q, .inr (6, [.ref s0, .ref s1, .ref s2]))])) (va_Qv (fun _ : Unit => False) (fun _ _ => True) (fun q => sz ≤ q)) (vx_X (fun _ : Unit => True) (fun E _ _ => E = "java/lang/IllegalArgumentException") (fun q => sz ≤ q)) 1 6 (fun q => sz ≤ q) := by
  refine vx_ofW (cc := cX7_rank) (maxL := 4) (ret := (some .int)) (by decide) rfl ?_
  intro p e s m args below meth c s₁ B hml hcat hv
  obtain ⟨rfl, hsz, hT, hP, hK, hD⟩ := hv
  have hx := B.exec
  have hb := B.bytes
  have hr := B.returns
  have hts := atoms_spec (ws := wsX7_rank) B.pre
  have hown : s.vm.findClass RX7 = some m.cls := findClass_of_methodNamed B.named
  have hlocks := B.notSynchronized
  subst hsz
  have hS : va_S (fun q => s.heap.size ≤ q) s.heap s.heap [] := va_S.rf
  have hP : va_P (dC, dI) vwCl [(q, .inr (6, [.ref s0, .ref s1, .ref s2]))] s.heap := hP
  have hl := lv_entry ([.ref q, .int (nI 1), .int w]) (n := 4) (Nat.le_of_ble_eq_true rfl)
  rw [lg_entry_eq]
  generalize (lg_sl ([.ref q, .int (nI 1), .int w]) ++ List.replicate (4 - (lg_sl ([.ref q, .int (nI 1), .int w])).length) Slot.unset).toArray = ls at hl ⊢
  have hl : lv_has ls 4 [(0, .ref q), (1, .int (nI 1)), (2, .int w)] := hl
  refine lv_aload_n hx hb dX7_rank_0 rfl (lv_at hl 0 rfl) ?_
  refine lv_iload_n hx hb dX7_rank_1 rfl (lv_at hl 1 rfl) ?_
  have hPc := hP.sub (ws' := [(q, .inr (6, [.ref s0, .ref s1, .ref s2]))]) [0] rfl
  have hKc := hK.sub (tys' := []) [] rfl
  refine va_csr (W.runV (As := [.int (nI 1)]) (rest := []) ⟨hx, hb, hml, hown, hts⟩ (c_X7_chosenSet_1 l dC dI q s0 s1 s2 ) (cwV 1 hts gX7_rank_X7_chosenSet rfl rfl rfl (by decide +kernel) ⟨Nat.le_of_ble_eq_true rfl, Nat.le_of_ble_eq_true rfl⟩) ⟨fun a U g mk q => by obtain ⟨q0, qP, qK⟩ := q; exact ⟨q0, qP, va_K.moved (u := U) (U := U.calling g mk a) (Vm.Alike.refl U.vm) qK⟩, va_recv hKc hPc (ci := 6) (q0 := 0) rfl rfl, fun U hU hW => ⟨rfl, by rw [hU]; exact hPc, va_K.moved hW.alike hKc⟩⟩ rfl rfl hl.1 rfl (lv_room (Nat.le_of_ble_eq_true rfl)) dX7_rank_2 ⟨Nat.le_of_ble_eq_true rfl, Nat.le_of_ble_eq_true rfl⟩) (fun r_2 hw_1 => ?_)
  have hw_1 := hw_1.symm
  subst hw_1
  refine lv_astore_n (lv' := [(3, .ref s1), (0, .ref q), (1, .int (nI 1)), (2, .int w)]) hx hb dX7_rank_5 rfl hl (by decide) rfl (fun ls hl => ?_)
  refine lv_iload_n hx hb dX7_rank_6 rfl (lv_at hl 3 rfl) ?_
  have hPc := hP.sub (ws' := []) [] rfl
  have hKc := hK.sub (tys' := []) [] rfl
  have hDc := hD.sub (ws' := []) [] (by decide) rfl
  exact vx_callv (vx_runS (As := [.int w]) (rest := []) ⟨hx, hb, hml, hown, hts⟩ (x_X7_needNumber l hls dC dI w sa s.heap.size (by first | assumption | omega)) (va_cwS 1 hts gX7_rank_X7_needNumber rfl rfl rfl (by decide +kernel) ⟨Nat.le_of_ble_eq_true rfl, Nat.le_of_ble_eq_true rfl⟩) ⟨fun a U g mk q => by obtain ⟨q0, q1, qT, qP, qK, qD⟩ := q; exact ⟨q0, q1, TW.same (u := U) (U := U.calling g mk a) rfl qT, qP, va_K.moved (u := U) (U := U.calling g mk a) (Vm.Alike.refl U.vm) qK, qD⟩, fun U hU hW => ⟨rfl, by rw [hU], by rw [hU]; exact TW.warm hW hT, by rw [hU]; exact hPc, va_K.moved hW.alike hKc, hDc.weaken (fun _ _ _ _ => trivial)⟩⟩ rfl rfl hl.1 rfl (lv_room (Nat.le_of_ble_eq_true rfl)) dX7_rank_7 ⟨Nat.le_of_ble_eq_true rfl, Nat.le_of_ble_eq_true rfl⟩) hS (fun q h9 h8 => absurd h8 (Nat.not_le_of_lt h9)) (fun q h8 => Nat.le_trans hS.1 h8) (fun q h9 h8 => absurd h8 (Nat.not_le_of_lt h9)) (fun E9 ce9 q9 u9 t9 H9 l9 ht9 hvm9 hu9 hE9 hz9 hk9 hS9 hce9 hcv9 hcl9 => vx_out (fun x h => (hcat x h).elim) hlocks hce9 hcv9 hcl9 (fun t8 ht8 ha8 => ⟨(), trivial, hE9, by rw [ht8]; exact hz9, fun q h1 h2 => by rw [ht8]; exact hk9 q h1 h2⟩) hS9.2.2 (Nat.le_of_ble_eq_true rfl) (Nat.le_of_ble_eq_true rfl)) (fun u9 t9 H9 l9 ht9 hvm9 hu9 hB9 hz9 hk9 hS9 => hu9.elim)
set_option maxHeartbeats 4000000 in
set_option maxRecDepth 100000 in
/-- steps_n1 throws IllegalArgumentException -/
theorem x_X7_steps_n1 (l : Launch) (hls : l.stackTraces = false) (dC : Nat → ClassId) (dI : Nat → Nat → Nat) (q : Nat) (s0 : Nat) (s1 : Nat) (s2 : Nat) (w : Int32) (sa sz : Nat) (hW : isN w = false) : vx_Met l yX7_steps wsX7_steps ({ frames := 7, cells := 1, slots := 6, locals := 102 }) (va_Pc [.ref q, .int (nI 1), .int w] (fun U => U.heap.size = sz ∧ TW "java/lang/IllegalArgumentException" 153 "the number is out of range" sa (fun q => sz ≤ q) U U.heap ∧ va_P (dC, dI) vwCl [(q, .inr (6, [.ref s0, .ref s1, .ref s2]))] U.heap ∧ va_K (dC, dI) vwCl [] U ∧ va_D (fun _ => True) [(q, .inr (6, [.ref s0, .ref s1, .ref s2]))])) (va_Qv (fun _ : Unit => False) (fun _ _ => True) (fun q => sz ≤ q)) (vx_X (fun _ : Unit => True) (fun E _ _ => E = "java/lang/IllegalArgumentException") (fun q => sz ≤ q)) 1 6 (fun q => sz ≤ q) := by
  refine vx_ofW (cc := cX7_steps) (maxL := 4) (ret := (some .int)) (by decide) rfl ?_
  intro p e s m args below meth c s₁ B hml hcat hv
  obtain ⟨rfl, hsz, hT, hP, hK, hD⟩ := hv
  have hx := B.exec
  have hb := B.bytes
  have hr := B.returns
  have hts := atoms_spec (ws := wsX7_steps) B.pre
  have hown : s.vm.findClass RX7 = some m.cls := findClass_of_methodNamed B.named
  have hlocks := B.notSynchronized
  subst hsz
  have hS : va_S (fun q => s.heap.size ≤ q) s.heap s.heap [] := va_S.rf
  have hP : va_P (dC, dI) vwCl [(q, .inr (6, [.ref s0, .ref s1, .ref s2]))] s.heap := hP
  have hl := lv_entry ([.ref q, .int (nI 1), .int w]) (n := 4) (Nat.le_of_ble_eq_true rfl)
  rw [lg_entry_eq]
  generalize (lg_sl ([.ref q, .int (nI 1), .int w]) ++ List.replicate (4 - (lg_sl ([.ref q, .int (nI 1), .int w])).length) Slot.unset).toArray = ls at hl ⊢
  have hl : lv_has ls 4 [(0, .ref q), (1, .int (nI 1)), (2, .int w)] := hl
  refine lv_aload_n hx hb dX7_steps_0 rfl (lv_at hl 0 rfl) ?_
  refine lv_iload_n hx hb dX7_steps_1 rfl (lv_at hl 1 rfl) ?_
  have hPc := hP.sub (ws' := [(q, .inr (6, [.ref s0, .ref s1, .ref s2]))]) [0] rfl
  have hKc := hK.sub (tys' := []) [] rfl
  refine va_csr (W.runV (As := [.int (nI 1)]) (rest := []) ⟨hx, hb, hml, hown, hts⟩ (c_X7_chosenSet_1 l dC dI q s0 s1 s2 ) (cwV 1 hts gX7_steps_X7_chosenSet rfl rfl rfl (by decide +kernel) ⟨Nat.le_of_ble_eq_true rfl, Nat.le_of_ble_eq_true rfl⟩) ⟨fun a U g mk q => by obtain ⟨q0, qP, qK⟩ := q; exact ⟨q0, qP, va_K.moved (u := U) (U := U.calling g mk a) (Vm.Alike.refl U.vm) qK⟩, va_recv hKc hPc (ci := 6) (q0 := 0) rfl rfl, fun U hU hW => ⟨rfl, by rw [hU]; exact hPc, va_K.moved hW.alike hKc⟩⟩ rfl rfl hl.1 rfl (lv_room (Nat.le_of_ble_eq_true rfl)) dX7_steps_2 ⟨Nat.le_of_ble_eq_true rfl, Nat.le_of_ble_eq_true rfl⟩) (fun r_2 hw_1 => ?_)
  have hw_1 := hw_1.symm
  subst hw_1
  refine lv_astore_n (lv' := [(3, .ref s1), (0, .ref q), (1, .int (nI 1)), (2, .int w)]) hx hb dX7_steps_5 rfl hl (by decide) rfl (fun ls hl => ?_)
  refine lv_iload_n hx hb dX7_steps_6 rfl (lv_at hl 3 rfl) ?_
  have hPc := hP.sub (ws' := []) [] rfl
  have hKc := hK.sub (tys' := []) [] rfl
  have hDc := hD.sub (ws' := []) [] (by decide) rfl
  exact vx_callv (vx_runS (As := [.int w]) (rest := []) ⟨hx, hb, hml, hown, hts⟩ (x_X7_needNumber l hls dC dI w sa s.heap.size (by first | assumption | omega)) (va_cwS 1 hts gX7_steps_X7_needNumber rfl rfl rfl (by decide +kernel) ⟨Nat.le_of_ble_eq_true rfl, Nat.le_of_ble_eq_true rfl⟩) ⟨fun a U g mk q => by obtain ⟨q0, q1, qT, qP, qK, qD⟩ := q; exact ⟨q0, q1, TW.same (u := U) (U := U.calling g mk a) rfl qT, qP, va_K.moved (u := U) (U := U.calling g mk a) (Vm.Alike.refl U.vm) qK, qD⟩, fun U hU hW => ⟨rfl, by rw [hU], by rw [hU]; exact TW.warm hW hT, by rw [hU]; exact hPc, va_K.moved hW.alike hKc, hDc.weaken (fun _ _ _ _ => trivial)⟩⟩ rfl rfl hl.1 rfl (lv_room (Nat.le_of_ble_eq_true rfl)) dX7_steps_7 ⟨Nat.le_of_ble_eq_true rfl, Nat.le_of_ble_eq_true rfl⟩) hS (fun q h9 h8 => absurd h8 (Nat.not_le_of_lt h9)) (fun q h8 => Nat.le_trans hS.1 h8) (fun q h9 h8 => absurd h8 (Nat.not_le_of_lt h9)) (fun E9 ce9 q9 u9 t9 H9 l9 ht9 hvm9 hu9 hE9 hz9 hk9 hS9 hce9 hcv9 hcl9 => vx_out (fun x h => (hcat x h).elim) hlocks hce9 hcv9 hcl9 (fun t8 ht8 ha8 => ⟨(), trivial, hE9, by rw [ht8]; exact hz9, fun q h1 h2 => by rw [ht8]; exact hk9 q h1 h2⟩) hS9.2.2 (Nat.le_of_ble_eq_true rfl) (Nat.le_of_ble_eq_true rfl)) (fun u9 t9 H9 l9 ht9 hvm9 hu9 hB9 hz9 hk9 hS9 => hu9.elim)
set_option maxHeartbeats 4000000 in
set_option maxRecDepth 100000 in
/-- longestMatch_n1 throws IllegalArgumentException -/
theorem x_X7_longestMatch_n1 (l : Launch) (hls : l.stackTraces = false) (dC : Nat → ClassId) (dI : Nat → Nat → Nat) (q : Nat) (s0 : Nat) (s1 : Nat) (s2 : Nat) (w : Int32) (sa sz : Nat) (hW : isN w = false) : vx_Met l yX7_longestMatch wsX7_longestMatch ({ frames := 7, cells := 1, slots := 6, locals := 102 }) (va_Pc [.ref q, .int (nI 1), .int w] (fun U => U.heap.size = sz ∧ TW "java/lang/IllegalArgumentException" 153 "the number is out of range" sa (fun q => sz ≤ q) U U.heap ∧ va_P (dC, dI) vwCl [(q, .inr (6, [.ref s0, .ref s1, .ref s2]))] U.heap ∧ va_K (dC, dI) vwCl [] U ∧ va_D (fun _ => True) [(q, .inr (6, [.ref s0, .ref s1, .ref s2]))])) (va_Qv (fun _ : Unit => False) (fun _ _ => True) (fun q => sz ≤ q)) (vx_X (fun _ : Unit => True) (fun E _ _ => E = "java/lang/IllegalArgumentException") (fun q => sz ≤ q)) 1 6 (fun q => sz ≤ q) := by
  refine vx_ofW (cc := cX7_longestMatch) (maxL := 4) (ret := (some .int)) (by decide) rfl ?_
  intro p e s m args below meth c s₁ B hml hcat hv
  obtain ⟨rfl, hsz, hT, hP, hK, hD⟩ := hv
  have hx := B.exec
  have hb := B.bytes
  have hr := B.returns
  have hts := atoms_spec (ws := wsX7_longestMatch) B.pre
  have hown : s.vm.findClass RX7 = some m.cls := findClass_of_methodNamed B.named
  have hlocks := B.notSynchronized
  subst hsz
  have hS : va_S (fun q => s.heap.size ≤ q) s.heap s.heap [] := va_S.rf
  have hP : va_P (dC, dI) vwCl [(q, .inr (6, [.ref s0, .ref s1, .ref s2]))] s.heap := hP
  have hl := lv_entry ([.ref q, .int (nI 1), .int w]) (n := 4) (Nat.le_of_ble_eq_true rfl)
  rw [lg_entry_eq]
  generalize (lg_sl ([.ref q, .int (nI 1), .int w]) ++ List.replicate (4 - (lg_sl ([.ref q, .int (nI 1), .int w])).length) Slot.unset).toArray = ls at hl ⊢
  have hl : lv_has ls 4 [(0, .ref q), (1, .int (nI 1)), (2, .int w)] := hl
  refine lv_aload_n hx hb dX7_longestMatch_0 rfl (lv_at hl 0 rfl) ?_
  refine lv_iload_n hx hb dX7_longestMatch_1 rfl (lv_at hl 1 rfl) ?_
  have hPc := hP.sub (ws' := [(q, .inr (6, [.ref s0, .ref s1, .ref s2]))]) [0] rfl
  have hKc := hK.sub (tys' := []) [] rfl
  refine va_csr (W.runV (As := [.int (nI 1)]) (rest := []) ⟨hx, hb, hml, hown, hts⟩ (c_X7_chosenSet_1 l dC dI q s0 s1 s2 ) (cwV 1 hts gX7_longestMatch_X7_chosenSet rfl rfl rfl (by decide +kernel) ⟨Nat.le_of_ble_eq_true rfl, Nat.le_of_ble_eq_true rfl⟩) ⟨fun a U g mk q => by obtain ⟨q0, qP, qK⟩ := q; exact ⟨q0, qP, va_K.moved (u := U) (U := U.calling g mk a) (Vm.Alike.refl U.vm) qK⟩, va_recv hKc hPc (ci := 6) (q0 := 0) rfl rfl, fun U hU hW => ⟨rfl, by rw [hU]; exact hPc, va_K.moved hW.alike hKc⟩⟩ rfl rfl hl.1 rfl (lv_room (Nat.le_of_ble_eq_true rfl)) dX7_longestMatch_2 ⟨Nat.le_of_ble_eq_true rfl, Nat.le_of_ble_eq_true rfl⟩) (fun r_2 hw_1 => ?_)
  have hw_1 := hw_1.symm
  subst hw_1
  refine lv_astore_n (lv' := [(3, .ref s1), (0, .ref q), (1, .int (nI 1)), (2, .int w)]) hx hb dX7_longestMatch_5 rfl hl (by decide) rfl (fun ls hl => ?_)
  refine lv_iload_n hx hb dX7_longestMatch_6 rfl (lv_at hl 3 rfl) ?_
  have hPc := hP.sub (ws' := []) [] rfl
  have hKc := hK.sub (tys' := []) [] rfl
  have hDc := hD.sub (ws' := []) [] (by decide) rfl
  exact vx_callv (vx_runS (As := [.int w]) (rest := []) ⟨hx, hb, hml, hown, hts⟩ (x_X7_needNumber l hls dC dI w sa s.heap.size (by first | assumption | omega)) (va_cwS 1 hts gX7_longestMatch_X7_needNumber rfl rfl rfl (by decide +kernel) ⟨Nat.le_of_ble_eq_true rfl, Nat.le_of_ble_eq_true rfl⟩) ⟨fun a U g mk q => by obtain ⟨q0, q1, qT, qP, qK, qD⟩ := q; exact ⟨q0, q1, TW.same (u := U) (U := U.calling g mk a) rfl qT, qP, va_K.moved (u := U) (U := U.calling g mk a) (Vm.Alike.refl U.vm) qK, qD⟩, fun U hU hW => ⟨rfl, by rw [hU], by rw [hU]; exact TW.warm hW hT, by rw [hU]; exact hPc, va_K.moved hW.alike hKc, hDc.weaken (fun _ _ _ _ => trivial)⟩⟩ rfl rfl hl.1 rfl (lv_room (Nat.le_of_ble_eq_true rfl)) dX7_longestMatch_7 ⟨Nat.le_of_ble_eq_true rfl, Nat.le_of_ble_eq_true rfl⟩) hS (fun q h9 h8 => absurd h8 (Nat.not_le_of_lt h9)) (fun q h8 => Nat.le_trans hS.1 h8) (fun q h9 h8 => absurd h8 (Nat.not_le_of_lt h9)) (fun E9 ce9 q9 u9 t9 H9 l9 ht9 hvm9 hu9 hE9 hz9 hk9 hS9 hce9 hcv9 hcl9 => vx_out (fun x h => (hcat x h).elim) hlocks hce9 hcv9 hcl9 (fun t8 ht8 ha8 => ⟨(), trivial, hE9, by rw [ht8]; exact hz9, fun q h1 h2 => by rw [ht8]; exact hk9 q h1 h2⟩) hS9.2.2 (Nat.le_of_ble_eq_true rfl) (Nat.le_of_ble_eq_true rfl)) (fun u9 t9 H9 l9 ht9 hvm9 hu9 hB9 hz9 hk9 hS9 => hu9.elim)
set_option maxHeartbeats 4000000 in
set_option maxRecDepth 100000 in
/-- probes_n1 throws IllegalArgumentException -/
theorem x_X7_probes_n1 (l : Launch) (hls : l.stackTraces = false) (dC : Nat → ClassId) (dI : Nat → Nat → Nat) (q : Nat) (s0 : Nat) (s1 : Nat) (s2 : Nat) (w : Int32) (sa sz : Nat) (hW : isN w = false) : vx_Met l yX7_probes wsX7_probes ({ frames := 7, cells := 1, slots := 6, locals := 102 }) (va_Pc [.ref q, .int (nI 1), .int w] (fun U => U.heap.size = sz ∧ TW "java/lang/IllegalArgumentException" 153 "the number is out of range" sa (fun q => sz ≤ q) U U.heap ∧ va_P (dC, dI) vwCl [(q, .inr (6, [.ref s0, .ref s1, .ref s2]))] U.heap ∧ va_K (dC, dI) vwCl [] U ∧ va_D (fun _ => True) [(q, .inr (6, [.ref s0, .ref s1, .ref s2]))])) (va_Qv (fun _ : Unit => False) (fun _ _ => True) (fun q => sz ≤ q)) (vx_X (fun _ : Unit => True) (fun E _ _ => E = "java/lang/IllegalArgumentException") (fun q => sz ≤ q)) 1 6 (fun q => sz ≤ q) := by
  refine vx_ofW (cc := cX7_probes) (maxL := 4) (ret := (some .int)) (by decide) rfl ?_
  intro p e s m args below meth c s₁ B hml hcat hv
  obtain ⟨rfl, hsz, hT, hP, hK, hD⟩ := hv
  have hx := B.exec
  have hb := B.bytes
  have hr := B.returns
  have hts := atoms_spec (ws := wsX7_probes) B.pre
  have hown : s.vm.findClass RX7 = some m.cls := findClass_of_methodNamed B.named
  have hlocks := B.notSynchronized
  subst hsz
  have hS : va_S (fun q => s.heap.size ≤ q) s.heap s.heap [] := va_S.rf
  have hP : va_P (dC, dI) vwCl [(q, .inr (6, [.ref s0, .ref s1, .ref s2]))] s.heap := hP
  have hl := lv_entry ([.ref q, .int (nI 1), .int w]) (n := 4) (Nat.le_of_ble_eq_true rfl)
  rw [lg_entry_eq]
  generalize (lg_sl ([.ref q, .int (nI 1), .int w]) ++ List.replicate (4 - (lg_sl ([.ref q, .int (nI 1), .int w])).length) Slot.unset).toArray = ls at hl ⊢
  have hl : lv_has ls 4 [(0, .ref q), (1, .int (nI 1)), (2, .int w)] := hl
  refine lv_aload_n hx hb dX7_probes_0 rfl (lv_at hl 0 rfl) ?_
  refine lv_iload_n hx hb dX7_probes_1 rfl (lv_at hl 1 rfl) ?_
  have hPc := hP.sub (ws' := [(q, .inr (6, [.ref s0, .ref s1, .ref s2]))]) [0] rfl
  have hKc := hK.sub (tys' := []) [] rfl
  refine va_csr (W.runV (As := [.int (nI 1)]) (rest := []) ⟨hx, hb, hml, hown, hts⟩ (c_X7_chosenSet_1 l dC dI q s0 s1 s2 ) (cwV 1 hts gX7_probes_X7_chosenSet rfl rfl rfl (by decide +kernel) ⟨Nat.le_of_ble_eq_true rfl, Nat.le_of_ble_eq_true rfl⟩) ⟨fun a U g mk q => by obtain ⟨q0, qP, qK⟩ := q; exact ⟨q0, qP, va_K.moved (u := U) (U := U.calling g mk a) (Vm.Alike.refl U.vm) qK⟩, va_recv hKc hPc (ci := 6) (q0 := 0) rfl rfl, fun U hU hW => ⟨rfl, by rw [hU]; exact hPc, va_K.moved hW.alike hKc⟩⟩ rfl rfl hl.1 rfl (lv_room (Nat.le_of_ble_eq_true rfl)) dX7_probes_2 ⟨Nat.le_of_ble_eq_true rfl, Nat.le_of_ble_eq_true rfl⟩) (fun r_2 hw_1 => ?_)
  have hw_1 := hw_1.symm
  subst hw_1
  refine lv_astore_n (lv' := [(3, .ref s1), (0, .ref q), (1, .int (nI 1)), (2, .int w)]) hx hb dX7_probes_5 rfl hl (by decide) rfl (fun ls hl => ?_)
  refine lv_iload_n hx hb dX7_probes_6 rfl (lv_at hl 3 rfl) ?_
  have hPc := hP.sub (ws' := []) [] rfl
  have hKc := hK.sub (tys' := []) [] rfl
  have hDc := hD.sub (ws' := []) [] (by decide) rfl
  exact vx_callv (vx_runS (As := [.int w]) (rest := []) ⟨hx, hb, hml, hown, hts⟩ (x_X7_needNumber l hls dC dI w sa s.heap.size (by first | assumption | omega)) (va_cwS 1 hts gX7_probes_X7_needNumber rfl rfl rfl (by decide +kernel) ⟨Nat.le_of_ble_eq_true rfl, Nat.le_of_ble_eq_true rfl⟩) ⟨fun a U g mk q => by obtain ⟨q0, q1, qT, qP, qK, qD⟩ := q; exact ⟨q0, q1, TW.same (u := U) (U := U.calling g mk a) rfl qT, qP, va_K.moved (u := U) (U := U.calling g mk a) (Vm.Alike.refl U.vm) qK, qD⟩, fun U hU hW => ⟨rfl, by rw [hU], by rw [hU]; exact TW.warm hW hT, by rw [hU]; exact hPc, va_K.moved hW.alike hKc, hDc.weaken (fun _ _ _ _ => trivial)⟩⟩ rfl rfl hl.1 rfl (lv_room (Nat.le_of_ble_eq_true rfl)) dX7_probes_7 ⟨Nat.le_of_ble_eq_true rfl, Nat.le_of_ble_eq_true rfl⟩) hS (fun q h9 h8 => absurd h8 (Nat.not_le_of_lt h9)) (fun q h8 => Nat.le_trans hS.1 h8) (fun q h9 h8 => absurd h8 (Nat.not_le_of_lt h9)) (fun E9 ce9 q9 u9 t9 H9 l9 ht9 hvm9 hu9 hE9 hz9 hk9 hS9 hce9 hcv9 hcl9 => vx_out (fun x h => (hcat x h).elim) hlocks hce9 hcv9 hcl9 (fun t8 ht8 ha8 => ⟨(), trivial, hE9, by rw [ht8]; exact hz9, fun q h1 h2 => by rw [ht8]; exact hk9 q h1 h2⟩) hS9.2.2 (Nat.le_of_ble_eq_true rfl) (Nat.le_of_ble_eq_true rfl)) (fun u9 t9 H9 l9 ht9 hvm9 hu9 hB9 hz9 hk9 hS9 => hu9.elim)
set_option maxHeartbeats 4000000 in
set_option maxRecDepth 100000 in
/-- bucketOf_n1 throws IllegalArgumentException -/
theorem x_X7_bucketOf_n1 (l : Launch) (hls : l.stackTraces = false) (dC : Nat → ClassId) (dI : Nat → Nat → Nat) (q : Nat) (s0 : Nat) (s1 : Nat) (s2 : Nat) (w : Int32) (sa sz : Nat) (hW : isN w = false) : vx_Met l yX7_bucketOf wsX7_bucketOf ({ frames := 7, cells := 1, slots := 6, locals := 102 }) (va_Pc [.ref q, .int (nI 1), .int w] (fun U => U.heap.size = sz ∧ TW "java/lang/IllegalArgumentException" 153 "the number is out of range" sa (fun q => sz ≤ q) U U.heap ∧ va_P (dC, dI) vwCl [(q, .inr (6, [.ref s0, .ref s1, .ref s2]))] U.heap ∧ va_K (dC, dI) vwCl [] U ∧ va_D (fun _ => True) [(q, .inr (6, [.ref s0, .ref s1, .ref s2]))])) (va_Qv (fun _ : Unit => False) (fun _ _ => True) (fun q => sz ≤ q)) (vx_X (fun _ : Unit => True) (fun E _ _ => E = "java/lang/IllegalArgumentException") (fun q => sz ≤ q)) 1 6 (fun q => sz ≤ q) := by
  refine vx_ofW (cc := cX7_bucketOf) (maxL := 4) (ret := (some .int)) (by decide) rfl ?_
  intro p e s m args below meth c s₁ B hml hcat hv
  obtain ⟨rfl, hsz, hT, hP, hK, hD⟩ := hv
  have hx := B.exec
  have hb := B.bytes
  have hr := B.returns
  have hts := atoms_spec (ws := wsX7_bucketOf) B.pre
  have hown : s.vm.findClass RX7 = some m.cls := findClass_of_methodNamed B.named
  have hlocks := B.notSynchronized
  subst hsz
  have hS : va_S (fun q => s.heap.size ≤ q) s.heap s.heap [] := va_S.rf
  have hP : va_P (dC, dI) vwCl [(q, .inr (6, [.ref s0, .ref s1, .ref s2]))] s.heap := hP
  have hl := lv_entry ([.ref q, .int (nI 1), .int w]) (n := 4) (Nat.le_of_ble_eq_true rfl)
  rw [lg_entry_eq]
  generalize (lg_sl ([.ref q, .int (nI 1), .int w]) ++ List.replicate (4 - (lg_sl ([.ref q, .int (nI 1), .int w])).length) Slot.unset).toArray = ls at hl ⊢
  have hl : lv_has ls 4 [(0, .ref q), (1, .int (nI 1)), (2, .int w)] := hl
  refine lv_aload_n hx hb dX7_bucketOf_0 rfl (lv_at hl 0 rfl) ?_
  refine lv_iload_n hx hb dX7_bucketOf_1 rfl (lv_at hl 1 rfl) ?_
  have hPc := hP.sub (ws' := [(q, .inr (6, [.ref s0, .ref s1, .ref s2]))]) [0] rfl
  have hKc := hK.sub (tys' := []) [] rfl
  refine va_csr (W.runV (As := [.int (nI 1)]) (rest := []) ⟨hx, hb, hml, hown, hts⟩ (c_X7_chosenSet_1 l dC dI q s0 s1 s2 ) (cwV 1 hts gX7_bucketOf_X7_chosenSet rfl rfl rfl (by decide +kernel) ⟨Nat.le_of_ble_eq_true rfl, Nat.le_of_ble_eq_true rfl⟩) ⟨fun a U g mk q => by obtain ⟨q0, qP, qK⟩ := q; exact ⟨q0, qP, va_K.moved (u := U) (U := U.calling g mk a) (Vm.Alike.refl U.vm) qK⟩, va_recv hKc hPc (ci := 6) (q0 := 0) rfl rfl, fun U hU hW => ⟨rfl, by rw [hU]; exact hPc, va_K.moved hW.alike hKc⟩⟩ rfl rfl hl.1 rfl (lv_room (Nat.le_of_ble_eq_true rfl)) dX7_bucketOf_2 ⟨Nat.le_of_ble_eq_true rfl, Nat.le_of_ble_eq_true rfl⟩) (fun r_2 hw_1 => ?_)
  have hw_1 := hw_1.symm
  subst hw_1
  refine lv_astore_n (lv' := [(3, .ref s1), (0, .ref q), (1, .int (nI 1)), (2, .int w)]) hx hb dX7_bucketOf_5 rfl hl (by decide) rfl (fun ls hl => ?_)
  refine lv_iload_n hx hb dX7_bucketOf_6 rfl (lv_at hl 3 rfl) ?_
  have hPc := hP.sub (ws' := []) [] rfl
  have hKc := hK.sub (tys' := []) [] rfl
  have hDc := hD.sub (ws' := []) [] (by decide) rfl
  exact vx_callv (vx_runS (As := [.int w]) (rest := []) ⟨hx, hb, hml, hown, hts⟩ (x_X7_needNumber l hls dC dI w sa s.heap.size (by first | assumption | omega)) (va_cwS 1 hts gX7_bucketOf_X7_needNumber rfl rfl rfl (by decide +kernel) ⟨Nat.le_of_ble_eq_true rfl, Nat.le_of_ble_eq_true rfl⟩) ⟨fun a U g mk q => by obtain ⟨q0, q1, qT, qP, qK, qD⟩ := q; exact ⟨q0, q1, TW.same (u := U) (U := U.calling g mk a) rfl qT, qP, va_K.moved (u := U) (U := U.calling g mk a) (Vm.Alike.refl U.vm) qK, qD⟩, fun U hU hW => ⟨rfl, by rw [hU], by rw [hU]; exact TW.warm hW hT, by rw [hU]; exact hPc, va_K.moved hW.alike hKc, hDc.weaken (fun _ _ _ _ => trivial)⟩⟩ rfl rfl hl.1 rfl (lv_room (Nat.le_of_ble_eq_true rfl)) dX7_bucketOf_7 ⟨Nat.le_of_ble_eq_true rfl, Nat.le_of_ble_eq_true rfl⟩) hS (fun q h9 h8 => absurd h8 (Nat.not_le_of_lt h9)) (fun q h8 => Nat.le_trans hS.1 h8) (fun q h9 h8 => absurd h8 (Nat.not_le_of_lt h9)) (fun E9 ce9 q9 u9 t9 H9 l9 ht9 hvm9 hu9 hE9 hz9 hk9 hS9 hce9 hcv9 hcl9 => vx_out (fun x h => (hcat x h).elim) hlocks hce9 hcv9 hcl9 (fun t8 ht8 ha8 => ⟨(), trivial, hE9, by rw [ht8]; exact hz9, fun q h1 h2 => by rw [ht8]; exact hk9 q h1 h2⟩) hS9.2.2 (Nat.le_of_ble_eq_true rfl) (Nat.le_of_ble_eq_true rfl)) (fun u9 t9 H9 l9 ht9 hvm9 hu9 hB9 hz9 hk9 hS9 => hu9.elim)
set_option maxHeartbeats 4000000 in
set_option maxRecDepth 100000 in
/-- insertRange_f1 throws IllegalArgumentException -/
theorem x_X7_insertRange_f1 (l : Launch) (hls : l.stackTraces = false) (dC : Nat → ClassId) (dI : Nat → Nat → Nat) (q : Nat) (s0 : Nat) (s1 : Nat) (s2 : Nat) (f : Int32) (d : Int32) (n : Int32) (sa sz : Nat) (hW : isN f = false) : vx_Met l yX7_insertRange wsX7_insertRange ({ frames := 7, cells := 1, slots := 6, locals := 102 }) (va_Pc [.ref q, .int (nI 1), .int f, .int d, .int n] (fun U => U.heap.size = sz ∧ TW "java/lang/IllegalArgumentException" 153 "the number is out of range" sa (fun q => sz ≤ q) U U.heap ∧ va_P (dC, dI) vwCl [(q, .inr (6, [.ref s0, .ref s1, .ref s2]))] U.heap ∧ va_K (dC, dI) vwCl [] U ∧ va_D (fun _ => True) [(q, .inr (6, [.ref s0, .ref s1, .ref s2]))])) (va_Qv (fun _ : Unit => False) (fun _ _ => True) (fun q => sz ≤ q)) (vx_X (fun _ : Unit => True) (fun E _ _ => E = "java/lang/IllegalArgumentException") (fun q => sz ≤ q)) 1 6 (fun q => sz ≤ q) := by
  refine vx_ofW (cc := cX7_insertRange) (maxL := 8) (ret := (some .int)) (by decide) rfl ?_
  intro p e s m args below meth c s₁ B hml hcat hv
  obtain ⟨rfl, hsz, hT, hP, hK, hD⟩ := hv
  have hx := B.exec
  have hb := B.bytes
  have hr := B.returns
  have hts := atoms_spec (ws := wsX7_insertRange) B.pre
  have hown : s.vm.findClass RX7 = some m.cls := findClass_of_methodNamed B.named
  have hlocks := B.notSynchronized
  subst hsz
  have hS : va_S (fun q => s.heap.size ≤ q) s.heap s.heap [] := va_S.rf
  have hP : va_P (dC, dI) vwCl [(q, .inr (6, [.ref s0, .ref s1, .ref s2]))] s.heap := hP
  have hl := lv_entry ([.ref q, .int (nI 1), .int f, .int d, .int n]) (n := 8) (Nat.le_of_ble_eq_true rfl)
  rw [lg_entry_eq]
  generalize (lg_sl ([.ref q, .int (nI 1), .int f, .int d, .int n]) ++ List.replicate (8 - (lg_sl ([.ref q, .int (nI 1), .int f, .int d, .int n])).length) Slot.unset).toArray = ls at hl ⊢
  have hl : lv_has ls 8 [(0, .ref q), (1, .int (nI 1)), (2, .int f), (3, .int d), (4, .int n)] := hl
  refine lv_aload_n hx hb dX7_insertRange_0 rfl (lv_at hl 0 rfl) ?_
  refine lv_iload_n hx hb dX7_insertRange_1 rfl (lv_at hl 1 rfl) ?_
  have hPc := hP.sub (ws' := [(q, .inr (6, [.ref s0, .ref s1, .ref s2]))]) [0] rfl
  have hKc := hK.sub (tys' := []) [] rfl
  refine va_csr (W.runV (As := [.int (nI 1)]) (rest := []) ⟨hx, hb, hml, hown, hts⟩ (c_X7_chosenSet_1 l dC dI q s0 s1 s2 ) (cwV 1 hts gX7_insertRange_X7_chosenSet rfl rfl rfl (by decide +kernel) ⟨Nat.le_of_ble_eq_true rfl, Nat.le_of_ble_eq_true rfl⟩) ⟨fun a U g mk q => by obtain ⟨q0, qP, qK⟩ := q; exact ⟨q0, qP, va_K.moved (u := U) (U := U.calling g mk a) (Vm.Alike.refl U.vm) qK⟩, va_recv hKc hPc (ci := 6) (q0 := 0) rfl rfl, fun U hU hW => ⟨rfl, by rw [hU]; exact hPc, va_K.moved hW.alike hKc⟩⟩ rfl rfl hl.1 rfl (lv_room (Nat.le_of_ble_eq_true rfl)) dX7_insertRange_2 ⟨Nat.le_of_ble_eq_true rfl, Nat.le_of_ble_eq_true rfl⟩) (fun r_2 hw_1 => ?_)
  have hw_1 := hw_1.symm
  subst hw_1
  refine lv_astore (lv' := [(5, .ref s1), (0, .ref q), (1, .int (nI 1)), (2, .int f), (3, .int d), (4, .int n)]) hx hb dX7_insertRange_5 hl (by decide) rfl (fun ls hl => ?_)
  refine lv_iload_n hx hb dX7_insertRange_7 rfl (lv_at hl 3 rfl) ?_
  have hPc := hP.sub (ws' := []) [] rfl
  have hKc := hK.sub (tys' := []) [] rfl
  have hDc := hD.sub (ws' := []) [] (by decide) rfl
  exact vx_callv (vx_runS (As := [.int f]) (rest := []) ⟨hx, hb, hml, hown, hts⟩ (x_X7_needNumber l hls dC dI f sa s.heap.size (by first | assumption | omega)) (va_cwS 1 hts gX7_insertRange_X7_needNumber rfl rfl rfl (by decide +kernel) ⟨Nat.le_of_ble_eq_true rfl, Nat.le_of_ble_eq_true rfl⟩) ⟨fun a U g mk q => by obtain ⟨q0, q1, qT, qP, qK, qD⟩ := q; exact ⟨q0, q1, TW.same (u := U) (U := U.calling g mk a) rfl qT, qP, va_K.moved (u := U) (U := U.calling g mk a) (Vm.Alike.refl U.vm) qK, qD⟩, fun U hU hW => ⟨rfl, by rw [hU], by rw [hU]; exact TW.warm hW hT, by rw [hU]; exact hPc, va_K.moved hW.alike hKc, hDc.weaken (fun _ _ _ _ => trivial)⟩⟩ rfl rfl hl.1 rfl (lv_room (Nat.le_of_ble_eq_true rfl)) dX7_insertRange_8 ⟨Nat.le_of_ble_eq_true rfl, Nat.le_of_ble_eq_true rfl⟩) hS (fun q h9 h8 => absurd h8 (Nat.not_le_of_lt h9)) (fun q h8 => Nat.le_trans hS.1 h8) (fun q h9 h8 => absurd h8 (Nat.not_le_of_lt h9)) (fun E9 ce9 q9 u9 t9 H9 l9 ht9 hvm9 hu9 hE9 hz9 hk9 hS9 hce9 hcv9 hcl9 => vx_out (fun x h => (hcat x h).elim) hlocks hce9 hcv9 hcl9 (fun t8 ht8 ha8 => ⟨(), trivial, hE9, by rw [ht8]; exact hz9, fun q h1 h2 => by rw [ht8]; exact hk9 q h1 h2⟩) hS9.2.2 (Nat.le_of_ble_eq_true rfl) (Nat.le_of_ble_eq_true rfl)) (fun u9 t9 H9 l9 ht9 hvm9 hu9 hB9 hz9 hk9 hS9 => hu9.elim)
set_option maxHeartbeats 4000000 in
set_option maxRecDepth 100000 in
/-- insertRange_d1 throws IllegalArgumentException -/
theorem x_X7_insertRange_d1 (l : Launch) (hls : l.stackTraces = false) (dC : Nat → ClassId) (dI : Nat → Nat → Nat) (q : Nat) (s0 : Nat) (s1 : Nat) (s2 : Nat) (a : Nat) (d : Int32) (n : Int32) (sa sz : Nat) (ha : a < 4096) (hW : inB d 1 1000 = false) : vx_Met l yX7_insertRange wsX7_insertRange ({ frames := 7, cells := 1, slots := 6, locals := 103 }) (va_Pc [.ref q, .int (nI 1), .int (nI a), .int d, .int n] (fun U => U.heap.size = sz ∧ TW "java/lang/IllegalArgumentException" 156 "the step is out of range" sa (fun q => sz ≤ q) U U.heap ∧ va_P (dC, dI) vwCl [(q, .inr (6, [.ref s0, .ref s1, .ref s2]))] U.heap ∧ va_K (dC, dI) vwCl [] U ∧ va_D (fun _ => True) [(q, .inr (6, [.ref s0, .ref s1, .ref s2]))])) (va_Qv (fun _ : Unit => False) (fun _ _ => True) (fun q => sz ≤ q)) (vx_X (fun _ : Unit => True) (fun E _ _ => E = "java/lang/IllegalArgumentException") (fun q => sz ≤ q)) 1 6 (fun q => sz ≤ q) := by
  refine vx_ofW (cc := cX7_insertRange) (maxL := 8) (ret := (some .int)) (by decide) rfl ?_
  intro p e s m args below meth c s₁ B hml hcat hv
  obtain ⟨rfl, hsz, hT, hP, hK, hD⟩ := hv
  have hx := B.exec
  have hb := B.bytes
  have hr := B.returns
  have hts := atoms_spec (ws := wsX7_insertRange) B.pre
  have hown : s.vm.findClass RX7 = some m.cls := findClass_of_methodNamed B.named
  have hlocks := B.notSynchronized
  subst hsz
  have hS : va_S (fun q => s.heap.size ≤ q) s.heap s.heap [] := va_S.rf
  have hP : va_P (dC, dI) vwCl [(q, .inr (6, [.ref s0, .ref s1, .ref s2]))] s.heap := hP
  have hl := lv_entry ([.ref q, .int (nI 1), .int (nI a), .int d, .int n]) (n := 8) (Nat.le_of_ble_eq_true rfl)
  rw [lg_entry_eq]
  generalize (lg_sl ([.ref q, .int (nI 1), .int (nI a), .int d, .int n]) ++ List.replicate (8 - (lg_sl ([.ref q, .int (nI 1), .int (nI a), .int d, .int n])).length) Slot.unset).toArray = ls at hl ⊢
  have hl : lv_has ls 8 [(0, .ref q), (1, .int (nI 1)), (2, .int (nI a)), (3, .int d), (4, .int n)] := hl
  refine lv_aload_n hx hb dX7_insertRange_0 rfl (lv_at hl 0 rfl) ?_
  refine lv_iload_n hx hb dX7_insertRange_1 rfl (lv_at hl 1 rfl) ?_
  have hPc := hP.sub (ws' := [(q, .inr (6, [.ref s0, .ref s1, .ref s2]))]) [0] rfl
  have hKc := hK.sub (tys' := []) [] rfl
  refine va_csr (W.runV (As := [.int (nI 1)]) (rest := []) ⟨hx, hb, hml, hown, hts⟩ (c_X7_chosenSet_1 l dC dI q s0 s1 s2 ) (cwV 1 hts gX7_insertRange_X7_chosenSet rfl rfl rfl (by decide +kernel) ⟨Nat.le_of_ble_eq_true rfl, Nat.le_of_ble_eq_true rfl⟩) ⟨fun a U g mk q => by obtain ⟨q0, qP, qK⟩ := q; exact ⟨q0, qP, va_K.moved (u := U) (U := U.calling g mk a) (Vm.Alike.refl U.vm) qK⟩, va_recv hKc hPc (ci := 6) (q0 := 0) rfl rfl, fun U hU hW => ⟨rfl, by rw [hU]; exact hPc, va_K.moved hW.alike hKc⟩⟩ rfl rfl hl.1 rfl (lv_room (Nat.le_of_ble_eq_true rfl)) dX7_insertRange_2 ⟨Nat.le_of_ble_eq_true rfl, Nat.le_of_ble_eq_true rfl⟩) (fun r_2 hw_1 => ?_)
  have hw_1 := hw_1.symm
  subst hw_1
  refine lv_astore (lv' := [(5, .ref s1), (0, .ref q), (1, .int (nI 1)), (2, .int (nI a)), (3, .int d), (4, .int n)]) hx hb dX7_insertRange_5 hl (by decide) rfl (fun ls hl => ?_)
  refine lv_iload_n hx hb dX7_insertRange_7 rfl (lv_at hl 3 rfl) ?_
  have hPc := hP.sub (ws' := []) [] rfl
  have hKc := hK.sub (tys' := []) [] rfl
  refine va_csv (W.runS (As := [.int (nI a)]) (rest := []) ⟨hx, hb, hml, hown, hts⟩ (c_X7_needNumber l dC dI a (by first | assumption | omega)) (va_cwS 1 hts gX7_insertRange_X7_needNumber rfl rfl rfl (by decide +kernel) ⟨Nat.le_of_ble_eq_true rfl, Nat.le_of_ble_eq_true rfl⟩) ⟨fun a U g mk q => by obtain ⟨q0, qP, qK⟩ := q; exact ⟨q0, qP, va_K.moved (u := U) (U := U.calling g mk a) (Vm.Alike.refl U.vm) qK⟩, fun U hU hW => ⟨rfl, by rw [hU]; exact hPc, va_K.moved hW.alike hKc⟩⟩ rfl rfl hl.1 rfl (lv_room (Nat.le_of_ble_eq_true rfl)) dX7_insertRange_8 ⟨Nat.le_of_ble_eq_true rfl, Nat.le_of_ble_eq_true rfl⟩) (fun _ => ?_)
  refine lv_iload_n hx hb dX7_insertRange_11 rfl (lv_at hl 4 rfl) ?_
  refine lv_iload hx hb dX7_insertRange_12 (lv_at hl 5 rfl) ?_
  have hPc := hP.sub (ws' := []) [] rfl
  have hKc := hK.sub (tys' := []) [] rfl
  have hDc := hD.sub (ws' := []) [] (by decide) rfl
  exact vx_callv (vx_runS (As := [.int d, .int n]) (rest := []) ⟨hx, hb, hml, hown, hts⟩ (x_X7_needStep l hls dC dI d n sa s.heap.size (by first | assumption | omega)) (va_cwS 2 hts gX7_insertRange_X7_needStepAndCount rfl rfl rfl (by decide +kernel) ⟨Nat.le_of_ble_eq_true rfl, Nat.le_of_ble_eq_true rfl⟩) ⟨fun a U g mk q => by obtain ⟨q0, q1, qT, qP, qK, qD⟩ := q; exact ⟨q0, q1, TW.same (u := U) (U := U.calling g mk a) rfl qT, qP, va_K.moved (u := U) (U := U.calling g mk a) (Vm.Alike.refl U.vm) qK, qD⟩, fun U hU hW => ⟨rfl, by rw [hU], by rw [hU]; exact TW.warm hW hT, by rw [hU]; exact hPc, va_K.moved hW.alike hKc, hDc.weaken (fun _ _ _ _ => trivial)⟩⟩ rfl rfl hl.1 rfl (lv_room (Nat.le_of_ble_eq_true rfl)) dX7_insertRange_14 ⟨Nat.le_of_ble_eq_true rfl, Nat.le_of_ble_eq_true rfl⟩) hS (fun q h9 h8 => absurd h8 (Nat.not_le_of_lt h9)) (fun q h8 => Nat.le_trans hS.1 h8) (fun q h9 h8 => absurd h8 (Nat.not_le_of_lt h9)) (fun E9 ce9 q9 u9 t9 H9 l9 ht9 hvm9 hu9 hE9 hz9 hk9 hS9 hce9 hcv9 hcl9 => vx_out (fun x h => (hcat x h).elim) hlocks hce9 hcv9 hcl9 (fun t8 ht8 ha8 => ⟨(), trivial, hE9, by rw [ht8]; exact hz9, fun q h1 h2 => by rw [ht8]; exact hk9 q h1 h2⟩) hS9.2.2 (Nat.le_of_ble_eq_true rfl) (Nat.le_of_ble_eq_true rfl)) (fun u9 t9 H9 l9 ht9 hvm9 hu9 hB9 hz9 hk9 hS9 => hu9.elim)
set_option maxHeartbeats 4000000 in
set_option maxRecDepth 100000 in
/-- insertRange_c1 throws IllegalArgumentException -/
theorem x_X7_insertRange_c1 (l : Launch) (hls : l.stackTraces = false) (dC : Nat → ClassId) (dI : Nat → Nat → Nat) (q : Nat) (s0 : Nat) (s1 : Nat) (s2 : Nat) (a : Nat) (d : Nat) (n : Int32) (sa sz : Nat) (ha : a < 4096) (hd : 1 ≤ d ∧ d ≤ 1000) (hW : inB n 1 30 = false) : vx_Met l yX7_insertRange wsX7_insertRange ({ frames := 7, cells := 1, slots := 6, locals := 103 }) (va_Pc [.ref q, .int (nI 1), .int (nI a), .int (nI d), .int n] (fun U => U.heap.size = sz ∧ TW "java/lang/IllegalArgumentException" 158 "the count is out of range" sa (fun q => sz ≤ q) U U.heap ∧ va_P (dC, dI) vwCl [(q, .inr (6, [.ref s0, .ref s1, .ref s2]))] U.heap ∧ va_K (dC, dI) vwCl [] U ∧ va_D (fun _ => True) [(q, .inr (6, [.ref s0, .ref s1, .ref s2]))])) (va_Qv (fun _ : Unit => False) (fun _ _ => True) (fun q => sz ≤ q)) (vx_X (fun _ : Unit => True) (fun E _ _ => E = "java/lang/IllegalArgumentException") (fun q => sz ≤ q)) 1 6 (fun q => sz ≤ q) := by
  refine vx_ofW (cc := cX7_insertRange) (maxL := 8) (ret := (some .int)) (by decide) rfl ?_
  intro p e s m args below meth c s₁ B hml hcat hv
  obtain ⟨rfl, hsz, hT, hP, hK, hD⟩ := hv
  have hx := B.exec
  have hb := B.bytes
  have hr := B.returns
  have hts := atoms_spec (ws := wsX7_insertRange) B.pre
  have hown : s.vm.findClass RX7 = some m.cls := findClass_of_methodNamed B.named
  have hlocks := B.notSynchronized
  subst hsz
  have hS : va_S (fun q => s.heap.size ≤ q) s.heap s.heap [] := va_S.rf
  have hP : va_P (dC, dI) vwCl [(q, .inr (6, [.ref s0, .ref s1, .ref s2]))] s.heap := hP
  have hl := lv_entry ([.ref q, .int (nI 1), .int (nI a), .int (nI d), .int n]) (n := 8) (Nat.le_of_ble_eq_true rfl)
  rw [lg_entry_eq]
  generalize (lg_sl ([.ref q, .int (nI 1), .int (nI a), .int (nI d), .int n]) ++ List.replicate (8 - (lg_sl ([.ref q, .int (nI 1), .int (nI a), .int (nI d), .int n])).length) Slot.unset).toArray = ls at hl ⊢
  have hl : lv_has ls 8 [(0, .ref q), (1, .int (nI 1)), (2, .int (nI a)), (3, .int (nI d)), (4, .int n)] := hl
  refine lv_aload_n hx hb dX7_insertRange_0 rfl (lv_at hl 0 rfl) ?_
  refine lv_iload_n hx hb dX7_insertRange_1 rfl (lv_at hl 1 rfl) ?_
  have hPc := hP.sub (ws' := [(q, .inr (6, [.ref s0, .ref s1, .ref s2]))]) [0] rfl
  have hKc := hK.sub (tys' := []) [] rfl
  refine va_csr (W.runV (As := [.int (nI 1)]) (rest := []) ⟨hx, hb, hml, hown, hts⟩ (c_X7_chosenSet_1 l dC dI q s0 s1 s2 ) (cwV 1 hts gX7_insertRange_X7_chosenSet rfl rfl rfl (by decide +kernel) ⟨Nat.le_of_ble_eq_true rfl, Nat.le_of_ble_eq_true rfl⟩) ⟨fun a U g mk q => by obtain ⟨q0, qP, qK⟩ := q; exact ⟨q0, qP, va_K.moved (u := U) (U := U.calling g mk a) (Vm.Alike.refl U.vm) qK⟩, va_recv hKc hPc (ci := 6) (q0 := 0) rfl rfl, fun U hU hW => ⟨rfl, by rw [hU]; exact hPc, va_K.moved hW.alike hKc⟩⟩ rfl rfl hl.1 rfl (lv_room (Nat.le_of_ble_eq_true rfl)) dX7_insertRange_2 ⟨Nat.le_of_ble_eq_true rfl, Nat.le_of_ble_eq_true rfl⟩) (fun r_2 hw_1 => ?_)
  have hw_1 := hw_1.symm
  subst hw_1
  refine lv_astore (lv' := [(5, .ref s1), (0, .ref q), (1, .int (nI 1)), (2, .int (nI a)), (3, .int (nI d)), (4, .int n)]) hx hb dX7_insertRange_5 hl (by decide) rfl (fun ls hl => ?_)
  refine lv_iload_n hx hb dX7_insertRange_7 rfl (lv_at hl 3 rfl) ?_
  have hPc := hP.sub (ws' := []) [] rfl
  have hKc := hK.sub (tys' := []) [] rfl
  refine va_csv (W.runS (As := [.int (nI a)]) (rest := []) ⟨hx, hb, hml, hown, hts⟩ (c_X7_needNumber l dC dI a (by first | assumption | omega)) (va_cwS 1 hts gX7_insertRange_X7_needNumber rfl rfl rfl (by decide +kernel) ⟨Nat.le_of_ble_eq_true rfl, Nat.le_of_ble_eq_true rfl⟩) ⟨fun a U g mk q => by obtain ⟨q0, qP, qK⟩ := q; exact ⟨q0, qP, va_K.moved (u := U) (U := U.calling g mk a) (Vm.Alike.refl U.vm) qK⟩, fun U hU hW => ⟨rfl, by rw [hU]; exact hPc, va_K.moved hW.alike hKc⟩⟩ rfl rfl hl.1 rfl (lv_room (Nat.le_of_ble_eq_true rfl)) dX7_insertRange_8 ⟨Nat.le_of_ble_eq_true rfl, Nat.le_of_ble_eq_true rfl⟩) (fun _ => ?_)
  refine lv_iload_n hx hb dX7_insertRange_11 rfl (lv_at hl 4 rfl) ?_
  refine lv_iload hx hb dX7_insertRange_12 (lv_at hl 5 rfl) ?_
  have hPc := hP.sub (ws' := []) [] rfl
  have hKc := hK.sub (tys' := []) [] rfl
  have hDc := hD.sub (ws' := []) [] (by decide) rfl
  exact vx_callv (vx_runS (As := [.int (nI d), .int n]) (rest := []) ⟨hx, hb, hml, hown, hts⟩ (x_X7_needCount l hls dC dI d n sa s.heap.size (by first | assumption | omega) (by first | assumption | omega)) (va_cwS 2 hts gX7_insertRange_X7_needStepAndCount rfl rfl rfl (by decide +kernel) ⟨Nat.le_of_ble_eq_true rfl, Nat.le_of_ble_eq_true rfl⟩) ⟨fun a U g mk q => by obtain ⟨q0, q1, qT, qP, qK, qD⟩ := q; exact ⟨q0, q1, TW.same (u := U) (U := U.calling g mk a) rfl qT, qP, va_K.moved (u := U) (U := U.calling g mk a) (Vm.Alike.refl U.vm) qK, qD⟩, fun U hU hW => ⟨rfl, by rw [hU], by rw [hU]; exact TW.warm hW hT, by rw [hU]; exact hPc, va_K.moved hW.alike hKc, hDc.weaken (fun _ _ _ _ => trivial)⟩⟩ rfl rfl hl.1 rfl (lv_room (Nat.le_of_ble_eq_true rfl)) dX7_insertRange_14 ⟨Nat.le_of_ble_eq_true rfl, Nat.le_of_ble_eq_true rfl⟩) hS (fun q h9 h8 => absurd h8 (Nat.not_le_of_lt h9)) (fun q h8 => Nat.le_trans hS.1 h8) (fun q h9 h8 => absurd h8 (Nat.not_le_of_lt h9)) (fun E9 ce9 q9 u9 t9 H9 l9 ht9 hvm9 hu9 hE9 hz9 hk9 hS9 hce9 hcv9 hcl9 => vx_out (fun x h => (hcat x h).elim) hlocks hce9 hcv9 hcl9 (fun t8 ht8 ha8 => ⟨(), trivial, hE9, by rw [ht8]; exact hz9, fun q h1 h2 => by rw [ht8]; exact hk9 q h1 h2⟩) hS9.2.2 (Nat.le_of_ble_eq_true rfl) (Nat.le_of_ble_eq_true rfl)) (fun u9 t9 H9 l9 ht9 hvm9 hu9 hB9 hz9 hk9 hS9 => hu9.elim)
set_option maxHeartbeats 4000000 in
set_option maxRecDepth 100000 in
/-- insertRange_e1 throws IllegalArgumentException -/
theorem x_X7_insertRange_e1 (l : Launch) (hls : l.stackTraces = false) (dC : Nat → ClassId) (dI : Nat → Nat → Nat) (q : Nat) (s0 : Nat) (s1 : Nat) (s2 : Nat) (a : Nat) (d : Nat) (n : Nat) (sa sz : Nat) (ha : a < 4096) (hd : 1 ≤ d ∧ d ≤ 1000) (hn : 1 ≤ n ∧ n ≤ 30) (hW : isN (nI (a + (n - 1) * d)) = false) : vx_Met l yX7_insertRange wsX7_insertRange ({ frames := 7, cells := 1, slots := 6, locals := 102 }) (va_Pc [.ref q, .int (nI 1), .int (nI a), .int (nI d), .int (nI n)] (fun U => U.heap.size = sz ∧ TW "java/lang/IllegalArgumentException" 153 "the number is out of range" sa (fun q => sz ≤ q) U U.heap ∧ va_P (dC, dI) vwCl [(q, .inr (6, [.ref s0, .ref s1, .ref s2]))] U.heap ∧ va_K (dC, dI) vwCl [] U ∧ va_D (fun _ => True) [(q, .inr (6, [.ref s0, .ref s1, .ref s2]))])) (va_Qv (fun _ : Unit => False) (fun _ _ => True) (fun q => sz ≤ q)) (vx_X (fun _ : Unit => True) (fun E _ _ => E = "java/lang/IllegalArgumentException") (fun q => sz ≤ q)) 1 6 (fun q => sz ≤ q) := by
  refine vx_ofW (cc := cX7_insertRange) (maxL := 8) (ret := (some .int)) (by decide) rfl ?_
  intro p e s m args below meth c s₁ B hml hcat hv
  obtain ⟨rfl, hsz, hT, hP, hK, hD⟩ := hv
  have hx := B.exec
  have hb := B.bytes
  have hr := B.returns
  have hts := atoms_spec (ws := wsX7_insertRange) B.pre
  have hown : s.vm.findClass RX7 = some m.cls := findClass_of_methodNamed B.named
  have hlocks := B.notSynchronized
  subst hsz
  have hS : va_S (fun q => s.heap.size ≤ q) s.heap s.heap [] := va_S.rf
  have hP : va_P (dC, dI) vwCl [(q, .inr (6, [.ref s0, .ref s1, .ref s2]))] s.heap := hP
  have hl := lv_entry ([.ref q, .int (nI 1), .int (nI a), .int (nI d), .int (nI n)]) (n := 8) (Nat.le_of_ble_eq_true rfl)
  rw [lg_entry_eq]
  generalize (lg_sl ([.ref q, .int (nI 1), .int (nI a), .int (nI d), .int (nI n)]) ++ List.replicate (8 - (lg_sl ([.ref q, .int (nI 1), .int (nI a), .int (nI d), .int (nI n)])).length) Slot.unset).toArray = ls at hl ⊢
  have hl : lv_has ls 8 [(0, .ref q), (1, .int (nI 1)), (2, .int (nI a)), (3, .int (nI d)), (4, .int (nI n))] := hl
  refine lv_aload_n hx hb dX7_insertRange_0 rfl (lv_at hl 0 rfl) ?_
  refine lv_iload_n hx hb dX7_insertRange_1 rfl (lv_at hl 1 rfl) ?_
  have hPc := hP.sub (ws' := [(q, .inr (6, [.ref s0, .ref s1, .ref s2]))]) [0] rfl
  have hKc := hK.sub (tys' := []) [] rfl
  refine va_csr (W.runV (As := [.int (nI 1)]) (rest := []) ⟨hx, hb, hml, hown, hts⟩ (c_X7_chosenSet_1 l dC dI q s0 s1 s2 ) (cwV 1 hts gX7_insertRange_X7_chosenSet rfl rfl rfl (by decide +kernel) ⟨Nat.le_of_ble_eq_true rfl, Nat.le_of_ble_eq_true rfl⟩) ⟨fun a U g mk q => by obtain ⟨q0, qP, qK⟩ := q; exact ⟨q0, qP, va_K.moved (u := U) (U := U.calling g mk a) (Vm.Alike.refl U.vm) qK⟩, va_recv hKc hPc (ci := 6) (q0 := 0) rfl rfl, fun U hU hW => ⟨rfl, by rw [hU]; exact hPc, va_K.moved hW.alike hKc⟩⟩ rfl rfl hl.1 rfl (lv_room (Nat.le_of_ble_eq_true rfl)) dX7_insertRange_2 ⟨Nat.le_of_ble_eq_true rfl, Nat.le_of_ble_eq_true rfl⟩) (fun r_2 hw_1 => ?_)
  have hw_1 := hw_1.symm
  subst hw_1
  refine lv_astore (lv' := [(5, .ref s1), (0, .ref q), (1, .int (nI 1)), (2, .int (nI a)), (3, .int (nI d)), (4, .int (nI n))]) hx hb dX7_insertRange_5 hl (by decide) rfl (fun ls hl => ?_)
  refine lv_iload_n hx hb dX7_insertRange_7 rfl (lv_at hl 3 rfl) ?_
  have hPc := hP.sub (ws' := []) [] rfl
  have hKc := hK.sub (tys' := []) [] rfl
  refine va_csv (W.runS (As := [.int (nI a)]) (rest := []) ⟨hx, hb, hml, hown, hts⟩ (c_X7_needNumber l dC dI a (by first | assumption | omega)) (va_cwS 1 hts gX7_insertRange_X7_needNumber rfl rfl rfl (by decide +kernel) ⟨Nat.le_of_ble_eq_true rfl, Nat.le_of_ble_eq_true rfl⟩) ⟨fun a U g mk q => by obtain ⟨q0, qP, qK⟩ := q; exact ⟨q0, qP, va_K.moved (u := U) (U := U.calling g mk a) (Vm.Alike.refl U.vm) qK⟩, fun U hU hW => ⟨rfl, by rw [hU]; exact hPc, va_K.moved hW.alike hKc⟩⟩ rfl rfl hl.1 rfl (lv_room (Nat.le_of_ble_eq_true rfl)) dX7_insertRange_8 ⟨Nat.le_of_ble_eq_true rfl, Nat.le_of_ble_eq_true rfl⟩) (fun _ => ?_)
  refine lv_iload_n hx hb dX7_insertRange_11 rfl (lv_at hl 4 rfl) ?_
  refine lv_iload hx hb dX7_insertRange_12 (lv_at hl 5 rfl) ?_
  have hPc := hP.sub (ws' := []) [] rfl
  have hKc := hK.sub (tys' := []) [] rfl
  refine va_csv (W.runS (As := [.int (nI d), .int (nI n)]) (rest := []) ⟨hx, hb, hml, hown, hts⟩ (c_X7_needStepAndCount l dC dI d n (by first | assumption | omega) (by first | assumption | omega)) (va_cwS 2 hts gX7_insertRange_X7_needStepAndCount rfl rfl rfl (by decide +kernel) ⟨Nat.le_of_ble_eq_true rfl, Nat.le_of_ble_eq_true rfl⟩) ⟨fun a U g mk q => by obtain ⟨q0, qP, qK⟩ := q; exact ⟨q0, qP, va_K.moved (u := U) (U := U.calling g mk a) (Vm.Alike.refl U.vm) qK⟩, fun U hU hW => ⟨rfl, by rw [hU]; exact hPc, va_K.moved hW.alike hKc⟩⟩ rfl rfl hl.1 rfl (lv_room (Nat.le_of_ble_eq_true rfl)) dX7_insertRange_14 ⟨Nat.le_of_ble_eq_true rfl, Nat.le_of_ble_eq_true rfl⟩) (fun _ => ?_)
  refine lv_iload_n hx hb dX7_insertRange_17 rfl (lv_at hl 3 rfl) ?_
  refine lv_iload hx hb dX7_insertRange_18 (lv_at hl 5 rfl) ?_
  refine lv_iconst (v := nI 1) hx hb dX7_insertRange_20 (by decide +kernel) ?_
  refine lv_isub hx hb dX7_insertRange_21 ?_
  refine lv_cvi (pk_sub (by omega)) ?_
  refine lv_iload_n hx hb dX7_insertRange_22 rfl (lv_at hl 4 rfl) ?_
  refine lv_imul hx hb dX7_insertRange_23 ?_
  refine lv_cvi (pk_mul _ _) ?_
  refine lv_iadd hx hb dX7_insertRange_24 ?_
  refine lv_cvi (nI_add _ _) ?_
  have hPc := hP.sub (ws' := []) [] rfl
  have hKc := hK.sub (tys' := []) [] rfl
  have hDc := hD.sub (ws' := []) [] (by decide) rfl
  exact vx_callv (vx_runS (As := [.int (nI (a + ((n - 1) * d)))]) (rest := []) ⟨hx, hb, hml, hown, hts⟩ (x_X7_needNumber l hls dC dI (nI (a + ((n - 1) * d))) sa s.heap.size (by first | assumption | omega)) (va_cwS 1 hts gX7_insertRange_X7_needNumber rfl rfl rfl (by decide +kernel) ⟨Nat.le_of_ble_eq_true rfl, Nat.le_of_ble_eq_true rfl⟩) ⟨fun a U g mk q => by obtain ⟨q0, q1, qT, qP, qK, qD⟩ := q; exact ⟨q0, q1, TW.same (u := U) (U := U.calling g mk a) rfl qT, qP, va_K.moved (u := U) (U := U.calling g mk a) (Vm.Alike.refl U.vm) qK, qD⟩, fun U hU hW => ⟨rfl, by rw [hU], by rw [hU]; exact TW.warm hW hT, by rw [hU]; exact hPc, va_K.moved hW.alike hKc, hDc.weaken (fun _ _ _ _ => trivial)⟩⟩ rfl rfl hl.1 rfl (lv_room (Nat.le_of_ble_eq_true rfl)) dX7_insertRange_25 ⟨Nat.le_of_ble_eq_true rfl, Nat.le_of_ble_eq_true rfl⟩) hS (fun q h9 h8 => absurd h8 (Nat.not_le_of_lt h9)) (fun q h8 => Nat.le_trans hS.1 h8) (fun q h9 h8 => absurd h8 (Nat.not_le_of_lt h9)) (fun E9 ce9 q9 u9 t9 H9 l9 ht9 hvm9 hu9 hE9 hz9 hk9 hS9 hce9 hcv9 hcl9 => vx_out (fun x h => (hcat x h).elim) hlocks hce9 hcv9 hcl9 (fun t8 ht8 ha8 => ⟨(), trivial, hE9, by rw [ht8]; exact hz9, fun q h1 h2 => by rw [ht8]; exact hk9 q h1 h2⟩) hS9.2.2 (Nat.le_of_ble_eq_true rfl) (Nat.le_of_ble_eq_true rfl)) (fun u9 t9 H9 l9 ht9 hvm9 hu9 hB9 hz9 hk9 hS9 => hu9.elim)
set_option maxHeartbeats 4000000 in
set_option maxRecDepth 100000 in
/-- insertAll_t1 throws IndexOutOfBoundsException -/
theorem x_X7_insertAll_t1 (l : Launch) (hls : l.stackTraces = false) (dC : Nat → ClassId) (dI : Nat → Nat → Nat) (q : Nat) (s0 : Nat) (s1 : Nat) (s2 : Nat) (w : Int32) (sa sz : Nat) (hW : isS w = false) : vx_Met l yX7_insertAll wsX7_insertAll ({ frames := 7, cells := 1, slots := 6, locals := 103 }) (va_Pc [.ref q, .int (nI 1), .int w] (fun U => U.heap.size = sz ∧ TW "java/lang/IndexOutOfBoundsException" 148 "no such set" sa (fun q => sz ≤ q) U U.heap ∧ va_P (dC, dI) vwCl [(q, .inr (6, [.ref s0, .ref s1, .ref s2]))] U.heap ∧ va_K (dC, dI) vwCl [] U ∧ va_D (fun _ => True) [(q, .inr (6, [.ref s0, .ref s1, .ref s2]))])) (va_Qv (fun _ : Unit => False) (fun _ _ => True) (fun q => sz ≤ q)) (vx_X (fun _ : Unit => True) (fun E _ _ => E = "java/lang/IndexOutOfBoundsException") (fun q => sz ≤ q)) 1 6 (fun q => sz ≤ q) := by
  refine vx_ofW (cc := cX7_insertAll) (maxL := 8) (ret := (some .int)) (by decide) rfl ?_
  intro p e s m args below meth c s₁ B hml hcat hv
  obtain ⟨rfl, hsz, hT, hP, hK, hD⟩ := hv
  have hx := B.exec
  have hb := B.bytes
  have hr := B.returns
  have hts := atoms_spec (ws := wsX7_insertAll) B.pre
  have hown : s.vm.findClass RX7 = some m.cls := findClass_of_methodNamed B.named
  have hlocks := B.notSynchronized
  subst hsz
  have hS : va_S (fun q => s.heap.size ≤ q) s.heap s.heap [] := va_S.rf
  have hP : va_P (dC, dI) vwCl [(q, .inr (6, [.ref s0, .ref s1, .ref s2]))] s.heap := hP
  have hl := lv_entry ([.ref q, .int (nI 1), .int w]) (n := 8) (Nat.le_of_ble_eq_true rfl)
  rw [lg_entry_eq]
  generalize (lg_sl ([.ref q, .int (nI 1), .int w]) ++ List.replicate (8 - (lg_sl ([.ref q, .int (nI 1), .int w])).length) Slot.unset).toArray = ls at hl ⊢
  have hl : lv_has ls 8 [(0, .ref q), (1, .int (nI 1)), (2, .int w)] := hl
  refine lv_aload_n hx hb dX7_insertAll_0 rfl (lv_at hl 0 rfl) ?_
  refine lv_iload_n hx hb dX7_insertAll_1 rfl (lv_at hl 1 rfl) ?_
  have hPc := hP.sub (ws' := [(q, .inr (6, [.ref s0, .ref s1, .ref s2]))]) [0] rfl
  have hKc := hK.sub (tys' := []) [] rfl
  refine va_csr (W.runV (As := [.int (nI 1)]) (rest := []) ⟨hx, hb, hml, hown, hts⟩ (c_X7_chosenSet_1 l dC dI q s0 s1 s2 ) (cwV 1 hts gX7_insertAll_X7_chosenSet rfl rfl rfl (by decide +kernel) ⟨Nat.le_of_ble_eq_true rfl, Nat.le_of_ble_eq_true rfl⟩) ⟨fun a U g mk q => by obtain ⟨q0, qP, qK⟩ := q; exact ⟨q0, qP, va_K.moved (u := U) (U := U.calling g mk a) (Vm.Alike.refl U.vm) qK⟩, va_recv hKc hPc (ci := 6) (q0 := 0) rfl rfl, fun U hU hW => ⟨rfl, by rw [hU]; exact hPc, va_K.moved hW.alike hKc⟩⟩ rfl rfl hl.1 rfl (lv_room (Nat.le_of_ble_eq_true rfl)) dX7_insertAll_2 ⟨Nat.le_of_ble_eq_true rfl, Nat.le_of_ble_eq_true rfl⟩) (fun r_2 hw_1 => ?_)
  have hw_1 := hw_1.symm
  subst hw_1
  refine lv_astore_n (lv' := [(3, .ref s1), (0, .ref q), (1, .int (nI 1)), (2, .int w)]) hx hb dX7_insertAll_5 rfl hl (by decide) rfl (fun ls hl => ?_)
  refine lv_aload_n hx hb dX7_insertAll_6 rfl (lv_at hl 1 rfl) ?_
  refine lv_iload_n hx hb dX7_insertAll_7 rfl (lv_at hl 3 rfl) ?_
  have hPc := hP.sub (ws' := [(q, .inr (6, [.ref s0, .ref s1, .ref s2]))]) [0] rfl
  have hKc := hK.sub (tys' := []) [] rfl
  have hDc := hD.sub (ws' := [(q, .inr (6, [.ref s0, .ref s1, .ref s2]))]) [0] (by decide) rfl
  exact vx_callv (vx_runV (As := [.int w]) (rest := []) ⟨hx, hb, hml, hown, hts⟩ (x_X7_chosenSet l hls dC dI q s0 s1 s2 w sa s.heap.size (by first | assumption | omega)) (cwV 1 hts gX7_insertAll_X7_chosenSet rfl rfl rfl (by decide +kernel) ⟨Nat.le_of_ble_eq_true rfl, Nat.le_of_ble_eq_true rfl⟩) ⟨fun a U g mk q => by obtain ⟨q0, q1, qT, qP, qK, qD⟩ := q; exact ⟨q0, q1, TW.same (u := U) (U := U.calling g mk a) rfl qT, qP, va_K.moved (u := U) (U := U.calling g mk a) (Vm.Alike.refl U.vm) qK, qD⟩, va_recv hKc hPc (ci := 6) (q0 := 0) rfl rfl, fun U hU hW => ⟨rfl, by rw [hU], by rw [hU]; exact TW.warm hW hT, by rw [hU]; exact hPc, va_K.moved hW.alike hKc, hDc.weaken (fun _ _ _ _ => trivial)⟩⟩ rfl rfl hl.1 rfl (lv_room (Nat.le_of_ble_eq_true rfl)) dX7_insertAll_8 ⟨Nat.le_of_ble_eq_true rfl, Nat.le_of_ble_eq_true rfl⟩) hS (fun q h9 h8 => absurd h8 (Nat.not_le_of_lt h9)) (fun q h8 => Nat.le_trans hS.1 h8) (fun q h9 h8 => absurd h8 (Nat.not_le_of_lt h9)) (fun E9 ce9 q9 u9 t9 H9 l9 ht9 hvm9 hu9 hE9 hz9 hk9 hS9 hce9 hcv9 hcl9 => vx_out (fun x h => (hcat x h).elim) hlocks hce9 hcv9 hcl9 (fun t8 ht8 ha8 => ⟨(), trivial, hE9, by rw [ht8]; exact hz9, fun q h1 h2 => by rw [ht8]; exact hk9 q h1 h2⟩) hS9.2.2 (Nat.le_of_ble_eq_true rfl) (Nat.le_of_ble_eq_true rfl)) (fun u9 t9 H9 l9 ht9 hvm9 hu9 hB9 hz9 hk9 hS9 => hu9.elim)
set_option maxHeartbeats 4000000 in
set_option maxRecDepth 100000 in
/-- clusterMinimum_p1 throws IndexOutOfBoundsException -/
theorem x_X7_clusterMinimum_p1 (l : Launch) (hls : l.stackTraces = false) (dC : Nat → ClassId) (dI : Nat → Nat → Nat) (q : Nat) (s0 : Nat) (s1 : Nat) (s2 : Nat) (w : Int32) (sa sz : Nat) (hW : pl w 64 = false) : vx_Met l yX7_clusterMinimum wsX7_clusterMinimum ({ frames := 7, cells := 1, slots := 6, locals := 103 }) (va_Pc [.ref q, .int (nI 1), .int w] (fun U => U.heap.size = sz ∧ TW "java/lang/IndexOutOfBoundsException" 165 "no such cluster, level, place or bucket" sa (fun q => sz ≤ q) U U.heap ∧ va_P (dC, dI) vwCl [(q, .inr (6, [.ref s0, .ref s1, .ref s2]))] U.heap ∧ va_K (dC, dI) vwCl [] U ∧ va_D (fun _ => True) [(q, .inr (6, [.ref s0, .ref s1, .ref s2]))])) (va_Qv (fun _ : Unit => False) (fun _ _ => True) (fun q => sz ≤ q)) (vx_X (fun _ : Unit => True) (fun E _ _ => E = "java/lang/IndexOutOfBoundsException") (fun q => sz ≤ q)) 1 6 (fun q => sz ≤ q) := by
  refine vx_ofW (cc := cX7_clusterMinimum) (maxL := 4) (ret := (some .int)) (by decide) rfl ?_
  intro p e s m args below meth c s₁ B hml hcat hv
  obtain ⟨rfl, hsz, hT, hP, hK, hD⟩ := hv
  have hx := B.exec
  have hb := B.bytes
  have hr := B.returns
  have hts := atoms_spec (ws := wsX7_clusterMinimum) B.pre
  have hown : s.vm.findClass RX7 = some m.cls := findClass_of_methodNamed B.named
  have hlocks := B.notSynchronized
  subst hsz
  have hS : va_S (fun q => s.heap.size ≤ q) s.heap s.heap [] := va_S.rf
  have hP : va_P (dC, dI) vwCl [(q, .inr (6, [.ref s0, .ref s1, .ref s2]))] s.heap := hP
  have hl := lv_entry ([.ref q, .int (nI 1), .int w]) (n := 4) (Nat.le_of_ble_eq_true rfl)
  rw [lg_entry_eq]
  generalize (lg_sl ([.ref q, .int (nI 1), .int w]) ++ List.replicate (4 - (lg_sl ([.ref q, .int (nI 1), .int w])).length) Slot.unset).toArray = ls at hl ⊢
  have hl : lv_has ls 4 [(0, .ref q), (1, .int (nI 1)), (2, .int w)] := hl
  refine lv_aload_n hx hb dX7_clusterMinimum_0 rfl (lv_at hl 0 rfl) ?_
  refine lv_iload_n hx hb dX7_clusterMinimum_1 rfl (lv_at hl 1 rfl) ?_
  have hPc := hP.sub (ws' := [(q, .inr (6, [.ref s0, .ref s1, .ref s2]))]) [0] rfl
  have hKc := hK.sub (tys' := []) [] rfl
  refine va_csr (W.runV (As := [.int (nI 1)]) (rest := []) ⟨hx, hb, hml, hown, hts⟩ (c_X7_chosenSet_1 l dC dI q s0 s1 s2 ) (cwV 1 hts gX7_clusterMinimum_X7_chosenSet rfl rfl rfl (by decide +kernel) ⟨Nat.le_of_ble_eq_true rfl, Nat.le_of_ble_eq_true rfl⟩) ⟨fun a U g mk q => by obtain ⟨q0, qP, qK⟩ := q; exact ⟨q0, qP, va_K.moved (u := U) (U := U.calling g mk a) (Vm.Alike.refl U.vm) qK⟩, va_recv hKc hPc (ci := 6) (q0 := 0) rfl rfl, fun U hU hW => ⟨rfl, by rw [hU]; exact hPc, va_K.moved hW.alike hKc⟩⟩ rfl rfl hl.1 rfl (lv_room (Nat.le_of_ble_eq_true rfl)) dX7_clusterMinimum_2 ⟨Nat.le_of_ble_eq_true rfl, Nat.le_of_ble_eq_true rfl⟩) (fun r_2 hw_1 => ?_)
  have hw_1 := hw_1.symm
  subst hw_1
  refine lv_astore_n (lv' := [(3, .ref s1), (0, .ref q), (1, .int (nI 1)), (2, .int w)]) hx hb dX7_clusterMinimum_5 rfl hl (by decide) rfl (fun ls hl => ?_)
  refine lv_iload_n hx hb dX7_clusterMinimum_6 rfl (lv_at hl 3 rfl) ?_
  refine lv_bipush (v := nI 64) hx hb dX7_clusterMinimum_7 (by decide +kernel) ?_
  have hPc := hP.sub (ws' := []) [] rfl
  have hKc := hK.sub (tys' := []) [] rfl
  have hDc := hD.sub (ws' := []) [] (by decide) rfl
  exact vx_callv (vx_runS (As := [.int w, .int (nI 64)]) (rest := []) ⟨hx, hb, hml, hown, hts⟩ (x_X7_needPlace l hls dC dI w 64 sa s.heap.size (by first | assumption | omega)) (va_cwS 2 hts gX7_clusterMinimum_X7_needPlace rfl rfl rfl (by decide +kernel) ⟨Nat.le_of_ble_eq_true rfl, Nat.le_of_ble_eq_true rfl⟩) ⟨fun a U g mk q => by obtain ⟨q0, q1, qT, qP, qK, qD⟩ := q; exact ⟨q0, q1, TW.same (u := U) (U := U.calling g mk a) rfl qT, qP, va_K.moved (u := U) (U := U.calling g mk a) (Vm.Alike.refl U.vm) qK, qD⟩, fun U hU hW => ⟨rfl, by rw [hU], by rw [hU]; exact TW.warm hW hT, by rw [hU]; exact hPc, va_K.moved hW.alike hKc, hDc.weaken (fun _ _ _ _ => trivial)⟩⟩ rfl rfl hl.1 rfl (lv_room (Nat.le_of_ble_eq_true rfl)) dX7_clusterMinimum_9 ⟨Nat.le_of_ble_eq_true rfl, Nat.le_of_ble_eq_true rfl⟩) hS (fun q h9 h8 => absurd h8 (Nat.not_le_of_lt h9)) (fun q h8 => Nat.le_trans hS.1 h8) (fun q h9 h8 => absurd h8 (Nat.not_le_of_lt h9)) (fun E9 ce9 q9 u9 t9 H9 l9 ht9 hvm9 hu9 hE9 hz9 hk9 hS9 hce9 hcv9 hcl9 => vx_out (fun x h => (hcat x h).elim) hlocks hce9 hcv9 hcl9 (fun t8 ht8 ha8 => ⟨(), trivial, hE9, by rw [ht8]; exact hz9, fun q h1 h2 => by rw [ht8]; exact hk9 q h1 h2⟩) hS9.2.2 (Nat.le_of_ble_eq_true rfl) (Nat.le_of_ble_eq_true rfl)) (fun u9 t9 H9 l9 ht9 hvm9 hu9 hB9 hz9 hk9 hS9 => hu9.elim)
set_option maxHeartbeats 4000000 in
set_option maxRecDepth 100000 in
/-- clusterMaximum_p1 throws IndexOutOfBoundsException -/
theorem x_X7_clusterMaximum_p1 (l : Launch) (hls : l.stackTraces = false) (dC : Nat → ClassId) (dI : Nat → Nat → Nat) (q : Nat) (s0 : Nat) (s1 : Nat) (s2 : Nat) (w : Int32) (sa sz : Nat) (hW : pl w 64 = false) : vx_Met l yX7_clusterMaximum wsX7_clusterMaximum ({ frames := 7, cells := 1, slots := 6, locals := 103 }) (va_Pc [.ref q, .int (nI 1), .int w] (fun U => U.heap.size = sz ∧ TW "java/lang/IndexOutOfBoundsException" 165 "no such cluster, level, place or bucket" sa (fun q => sz ≤ q) U U.heap ∧ va_P (dC, dI) vwCl [(q, .inr (6, [.ref s0, .ref s1, .ref s2]))] U.heap ∧ va_K (dC, dI) vwCl [] U ∧ va_D (fun _ => True) [(q, .inr (6, [.ref s0, .ref s1, .ref s2]))])) (va_Qv (fun _ : Unit => False) (fun _ _ => True) (fun q => sz ≤ q)) (vx_X (fun _ : Unit => True) (fun E _ _ => E = "java/lang/IndexOutOfBoundsException") (fun q => sz ≤ q)) 1 6 (fun q => sz ≤ q) := by
  refine vx_ofW (cc := cX7_clusterMaximum) (maxL := 4) (ret := (some .int)) (by decide) rfl ?_
  intro p e s m args below meth c s₁ B hml hcat hv
  obtain ⟨rfl, hsz, hT, hP, hK, hD⟩ := hv
  have hx := B.exec
  have hb := B.bytes
  have hr := B.returns
  have hts := atoms_spec (ws := wsX7_clusterMaximum) B.pre
  have hown : s.vm.findClass RX7 = some m.cls := findClass_of_methodNamed B.named
  have hlocks := B.notSynchronized
  subst hsz
  have hS : va_S (fun q => s.heap.size ≤ q) s.heap s.heap [] := va_S.rf
  have hP : va_P (dC, dI) vwCl [(q, .inr (6, [.ref s0, .ref s1, .ref s2]))] s.heap := hP
  have hl := lv_entry ([.ref q, .int (nI 1), .int w]) (n := 4) (Nat.le_of_ble_eq_true rfl)
  rw [lg_entry_eq]
  generalize (lg_sl ([.ref q, .int (nI 1), .int w]) ++ List.replicate (4 - (lg_sl ([.ref q, .int (nI 1), .int w])).length) Slot.unset).toArray = ls at hl ⊢
  have hl : lv_has ls 4 [(0, .ref q), (1, .int (nI 1)), (2, .int w)] := hl
  refine lv_aload_n hx hb dX7_clusterMaximum_0 rfl (lv_at hl 0 rfl) ?_
  refine lv_iload_n hx hb dX7_clusterMaximum_1 rfl (lv_at hl 1 rfl) ?_
  have hPc := hP.sub (ws' := [(q, .inr (6, [.ref s0, .ref s1, .ref s2]))]) [0] rfl
  have hKc := hK.sub (tys' := []) [] rfl
  refine va_csr (W.runV (As := [.int (nI 1)]) (rest := []) ⟨hx, hb, hml, hown, hts⟩ (c_X7_chosenSet_1 l dC dI q s0 s1 s2 ) (cwV 1 hts gX7_clusterMaximum_X7_chosenSet rfl rfl rfl (by decide +kernel) ⟨Nat.le_of_ble_eq_true rfl, Nat.le_of_ble_eq_true rfl⟩) ⟨fun a U g mk q => by obtain ⟨q0, qP, qK⟩ := q; exact ⟨q0, qP, va_K.moved (u := U) (U := U.calling g mk a) (Vm.Alike.refl U.vm) qK⟩, va_recv hKc hPc (ci := 6) (q0 := 0) rfl rfl, fun U hU hW => ⟨rfl, by rw [hU]; exact hPc, va_K.moved hW.alike hKc⟩⟩ rfl rfl hl.1 rfl (lv_room (Nat.le_of_ble_eq_true rfl)) dX7_clusterMaximum_2 ⟨Nat.le_of_ble_eq_true rfl, Nat.le_of_ble_eq_true rfl⟩) (fun r_2 hw_1 => ?_)
  have hw_1 := hw_1.symm
  subst hw_1
  refine lv_astore_n (lv' := [(3, .ref s1), (0, .ref q), (1, .int (nI 1)), (2, .int w)]) hx hb dX7_clusterMaximum_5 rfl hl (by decide) rfl (fun ls hl => ?_)
  refine lv_iload_n hx hb dX7_clusterMaximum_6 rfl (lv_at hl 3 rfl) ?_
  refine lv_bipush (v := nI 64) hx hb dX7_clusterMaximum_7 (by decide +kernel) ?_
  have hPc := hP.sub (ws' := []) [] rfl
  have hKc := hK.sub (tys' := []) [] rfl
  have hDc := hD.sub (ws' := []) [] (by decide) rfl
  exact vx_callv (vx_runS (As := [.int w, .int (nI 64)]) (rest := []) ⟨hx, hb, hml, hown, hts⟩ (x_X7_needPlace l hls dC dI w 64 sa s.heap.size (by first | assumption | omega)) (va_cwS 2 hts gX7_clusterMaximum_X7_needPlace rfl rfl rfl (by decide +kernel) ⟨Nat.le_of_ble_eq_true rfl, Nat.le_of_ble_eq_true rfl⟩) ⟨fun a U g mk q => by obtain ⟨q0, q1, qT, qP, qK, qD⟩ := q; exact ⟨q0, q1, TW.same (u := U) (U := U.calling g mk a) rfl qT, qP, va_K.moved (u := U) (U := U.calling g mk a) (Vm.Alike.refl U.vm) qK, qD⟩, fun U hU hW => ⟨rfl, by rw [hU], by rw [hU]; exact TW.warm hW hT, by rw [hU]; exact hPc, va_K.moved hW.alike hKc, hDc.weaken (fun _ _ _ _ => trivial)⟩⟩ rfl rfl hl.1 rfl (lv_room (Nat.le_of_ble_eq_true rfl)) dX7_clusterMaximum_9 ⟨Nat.le_of_ble_eq_true rfl, Nat.le_of_ble_eq_true rfl⟩) hS (fun q h9 h8 => absurd h8 (Nat.not_le_of_lt h9)) (fun q h8 => Nat.le_trans hS.1 h8) (fun q h9 h8 => absurd h8 (Nat.not_le_of_lt h9)) (fun E9 ce9 q9 u9 t9 H9 l9 ht9 hvm9 hu9 hE9 hz9 hk9 hS9 hce9 hcv9 hcl9 => vx_out (fun x h => (hcat x h).elim) hlocks hce9 hcv9 hcl9 (fun t8 ht8 ha8 => ⟨(), trivial, hE9, by rw [ht8]; exact hz9, fun q h1 h2 => by rw [ht8]; exact hk9 q h1 h2⟩) hS9.2.2 (Nat.le_of_ble_eq_true rfl) (Nat.le_of_ble_eq_true rfl)) (fun u9 t9 H9 l9 ht9 hvm9 hu9 hB9 hz9 hk9 hS9 => hu9.elim)
set_option maxHeartbeats 4000000 in
set_option maxRecDepth 100000 in
/-- prefixes_p1 throws IndexOutOfBoundsException -/
theorem x_X7_prefixes_p1 (l : Launch) (hls : l.stackTraces = false) (dC : Nat → ClassId) (dI : Nat → Nat → Nat) (q : Nat) (s0 : Nat) (s1 : Nat) (s2 : Nat) (w : Int32) (sa sz : Nat) (hW : pl w 13 = false) : vx_Met l yX7_prefixes wsX7_prefixes ({ frames := 7, cells := 1, slots := 6, locals := 103 }) (va_Pc [.ref q, .int (nI 1), .int w] (fun U => U.heap.size = sz ∧ TW "java/lang/IndexOutOfBoundsException" 165 "no such cluster, level, place or bucket" sa (fun q => sz ≤ q) U U.heap ∧ va_P (dC, dI) vwCl [(q, .inr (6, [.ref s0, .ref s1, .ref s2]))] U.heap ∧ va_K (dC, dI) vwCl [] U ∧ va_D (fun _ => True) [(q, .inr (6, [.ref s0, .ref s1, .ref s2]))])) (va_Qv (fun _ : Unit => False) (fun _ _ => True) (fun q => sz ≤ q)) (vx_X (fun _ : Unit => True) (fun E _ _ => E = "java/lang/IndexOutOfBoundsException") (fun q => sz ≤ q)) 1 6 (fun q => sz ≤ q) := by
  refine vx_ofW (cc := cX7_prefixes) (maxL := 4) (ret := (some .int)) (by decide) rfl ?_
  intro p e s m args below meth c s₁ B hml hcat hv
  obtain ⟨rfl, hsz, hT, hP, hK, hD⟩ := hv
  have hx := B.exec
  have hb := B.bytes
  have hr := B.returns
  have hts := atoms_spec (ws := wsX7_prefixes) B.pre
  have hown : s.vm.findClass RX7 = some m.cls := findClass_of_methodNamed B.named
  have hlocks := B.notSynchronized
  subst hsz
  have hS : va_S (fun q => s.heap.size ≤ q) s.heap s.heap [] := va_S.rf
  have hP : va_P (dC, dI) vwCl [(q, .inr (6, [.ref s0, .ref s1, .ref s2]))] s.heap := hP
  have hl := lv_entry ([.ref q, .int (nI 1), .int w]) (n := 4) (Nat.le_of_ble_eq_true rfl)
  rw [lg_entry_eq]
  generalize (lg_sl ([.ref q, .int (nI 1), .int w]) ++ List.replicate (4 - (lg_sl ([.ref q, .int (nI 1), .int w])).length) Slot.unset).toArray = ls at hl ⊢
  have hl : lv_has ls 4 [(0, .ref q), (1, .int (nI 1)), (2, .int w)] := hl
  refine lv_aload_n hx hb dX7_prefixes_0 rfl (lv_at hl 0 rfl) ?_
  refine lv_iload_n hx hb dX7_prefixes_1 rfl (lv_at hl 1 rfl) ?_
  have hPc := hP.sub (ws' := [(q, .inr (6, [.ref s0, .ref s1, .ref s2]))]) [0] rfl
  have hKc := hK.sub (tys' := []) [] rfl
  refine va_csr (W.runV (As := [.int (nI 1)]) (rest := []) ⟨hx, hb, hml, hown, hts⟩ (c_X7_chosenSet_1 l dC dI q s0 s1 s2 ) (cwV 1 hts gX7_prefixes_X7_chosenSet rfl rfl rfl (by decide +kernel) ⟨Nat.le_of_ble_eq_true rfl, Nat.le_of_ble_eq_true rfl⟩) ⟨fun a U g mk q => by obtain ⟨q0, qP, qK⟩ := q; exact ⟨q0, qP, va_K.moved (u := U) (U := U.calling g mk a) (Vm.Alike.refl U.vm) qK⟩, va_recv hKc hPc (ci := 6) (q0 := 0) rfl rfl, fun U hU hW => ⟨rfl, by rw [hU]; exact hPc, va_K.moved hW.alike hKc⟩⟩ rfl rfl hl.1 rfl (lv_room (Nat.le_of_ble_eq_true rfl)) dX7_prefixes_2 ⟨Nat.le_of_ble_eq_true rfl, Nat.le_of_ble_eq_true rfl⟩) (fun r_2 hw_1 => ?_)
  have hw_1 := hw_1.symm
  subst hw_1
  refine lv_astore_n (lv' := [(3, .ref s1), (0, .ref q), (1, .int (nI 1)), (2, .int w)]) hx hb dX7_prefixes_5 rfl hl (by decide) rfl (fun ls hl => ?_)
  refine lv_iload_n hx hb dX7_prefixes_6 rfl (lv_at hl 3 rfl) ?_
  refine lv_bipush (v := nI 13) hx hb dX7_prefixes_7 (by decide +kernel) ?_
  have hPc := hP.sub (ws' := []) [] rfl
  have hKc := hK.sub (tys' := []) [] rfl
  have hDc := hD.sub (ws' := []) [] (by decide) rfl
  exact vx_callv (vx_runS (As := [.int w, .int (nI 13)]) (rest := []) ⟨hx, hb, hml, hown, hts⟩ (x_X7_needPlace l hls dC dI w 13 sa s.heap.size (by first | assumption | omega)) (va_cwS 2 hts gX7_prefixes_X7_needPlace rfl rfl rfl (by decide +kernel) ⟨Nat.le_of_ble_eq_true rfl, Nat.le_of_ble_eq_true rfl⟩) ⟨fun a U g mk q => by obtain ⟨q0, q1, qT, qP, qK, qD⟩ := q; exact ⟨q0, q1, TW.same (u := U) (U := U.calling g mk a) rfl qT, qP, va_K.moved (u := U) (U := U.calling g mk a) (Vm.Alike.refl U.vm) qK, qD⟩, fun U hU hW => ⟨rfl, by rw [hU], by rw [hU]; exact TW.warm hW hT, by rw [hU]; exact hPc, va_K.moved hW.alike hKc, hDc.weaken (fun _ _ _ _ => trivial)⟩⟩ rfl rfl hl.1 rfl (lv_room (Nat.le_of_ble_eq_true rfl)) dX7_prefixes_9 ⟨Nat.le_of_ble_eq_true rfl, Nat.le_of_ble_eq_true rfl⟩) hS (fun q h9 h8 => absurd h8 (Nat.not_le_of_lt h9)) (fun q h8 => Nat.le_trans hS.1 h8) (fun q h9 h8 => absurd h8 (Nat.not_le_of_lt h9)) (fun E9 ce9 q9 u9 t9 H9 l9 ht9 hvm9 hu9 hE9 hz9 hk9 hS9 hce9 hcv9 hcl9 => vx_out (fun x h => (hcat x h).elim) hlocks hce9 hcv9 hcl9 (fun t8 ht8 ha8 => ⟨(), trivial, hE9, by rw [ht8]; exact hz9, fun q h1 h2 => by rw [ht8]; exact hk9 q h1 h2⟩) hS9.2.2 (Nat.le_of_ble_eq_true rfl) (Nat.le_of_ble_eq_true rfl)) (fun u9 t9 H9 l9 ht9 hvm9 hu9 hB9 hz9 hk9 hS9 => hu9.elim)
set_option maxHeartbeats 4000000 in
set_option maxRecDepth 100000 in
/-- select_p1 throws IndexOutOfBoundsException -/
theorem x_X7_select_p1 (l : Launch) (hls : l.stackTraces = false) (dC : Nat → ClassId) (dI : Nat → Nat → Nat) (q : Nat) (s0 : Nat) (s1 : Nat) (s2 : Nat) (tq : Nat) (ca : Nat) (rq : Nat) (rb : Nat) (rd : Nat) (uq : Nat) (bm : Nat) (am : Nat) (bs : Nat) (ap : Nat) (cJ : ClassId) (fm : Nat → Int64) (fs : Nat → Int64) (ft : Nat → Int64) (fc : Nat → Int64) (sm : Int64) (lo : Option Nat) (w : Int32) (sa sz : Nat) (hN : NI fm fs ft fc sm lo) (hW : pl w (fb_ct (bo fm) 4096) = false) : vx_Met l yX7_select wsX7_select ({ frames := 7, cells := 1, slots := 6, locals := 103 }) (va_Pc [.ref q, .int (nI 1), .int w] (fun U => va_Nw (.fieldLinkNest RX7 38 "SmallNumberSets$NumberSet" "buckets" "LSmallNumberSets$Buckets;" "SmallNumberSets") U ∧ U.heap.size = sz ∧ TW "java/lang/IndexOutOfBoundsException" 165 "no such cluster, level, place or bucket" sa (fun q => sz ≤ q) U U.heap ∧ va_P (dC, dI) vwCl [(q, .inr (6, [.ref s0, .ref s1, .ref s2])), (s1, .inr (3, [.ref tq, .ref rq, .ref uq])), (tq, .inr (4, [.ref ca, .long sm, .int (oI lo)])), (ca, .inl (cJ, 64, .inr (.inl fc))), (rq, .inr (5, [.ref rb])), (rb, .inr (0, [.ref rd])), (rd, .inl (cJ, 128, .inr (.inl ft))), (uq, .inr (1, [.ref bm, .ref bs])), (bm, .inr (0, [.ref am])), (am, .inl (cJ, 64, .inr (.inl fm))), (bs, .inr (0, [.ref ap])), (ap, .inl (cJ, 64, .inr (.inl fs)))] U.heap ∧ va_K (dC, dI) vwCl [(cJ, .long)] U ∧ va_D (fun _ => True) [(q, .inr (6, [.ref s0, .ref s1, .ref s2])), (s1, .inr (3, [.ref tq, .ref rq, .ref uq])), (tq, .inr (4, [.ref ca, .long sm, .int (oI lo)])), (ca, .inl (cJ, 64, .inr (.inl fc))), (rq, .inr (5, [.ref rb])), (rb, .inr (0, [.ref rd])), (rd, .inl (cJ, 128, .inr (.inl ft))), (uq, .inr (1, [.ref bm, .ref bs])), (bm, .inr (0, [.ref am])), (am, .inl (cJ, 64, .inr (.inl fm))), (bs, .inr (0, [.ref ap])), (ap, .inl (cJ, 64, .inr (.inl fs)))])) (va_Qv (fun _ : Unit => False) (fun _ _ => True) (fun q => sz ≤ q)) (vx_X (fun _ : Unit => True) (fun E _ _ => E = "java/lang/IndexOutOfBoundsException") (fun q => sz ≤ q)) 1 6 (fun q => sz ≤ q) := by
  refine vx_ofW (cc := cX7_select) (maxL := 4) (ret := (some .int)) (by decide) rfl ?_
  intro p e s m args below meth c s₁ B hml hcat hv
  obtain ⟨rfl, nw0, hsz, hT, hP, hK, hD⟩ := hv
  have hx := B.exec
  have hb := B.bytes
  have hr := B.returns
  have hts := atoms_spec (ws := wsX7_select) B.pre
  have hown : s.vm.findClass RX7 = some m.cls := findClass_of_methodNamed B.named
  have hlocks := B.notSynchronized
  subst hsz
  have hS : va_S (fun q => s.heap.size ≤ q) s.heap s.heap [] := va_S.rf
  have hP : va_P (dC, dI) vwCl [(q, .inr (6, [.ref s0, .ref s1, .ref s2])), (s1, .inr (3, [.ref tq, .ref rq, .ref uq])), (tq, .inr (4, [.ref ca, .long sm, .int (oI lo)])), (ca, .inl (cJ, 64, .inr (.inl fc))), (rq, .inr (5, [.ref rb])), (rb, .inr (0, [.ref rd])), (rd, .inl (cJ, 128, .inr (.inl ft))), (uq, .inr (1, [.ref bm, .ref bs])), (bm, .inr (0, [.ref am])), (am, .inl (cJ, 64, .inr (.inl fm))), (bs, .inr (0, [.ref ap])), (ap, .inl (cJ, 64, .inr (.inl fs)))] s.heap := hP
  have hl := lv_entry ([.ref q, .int (nI 1), .int w]) (n := 4) (Nat.le_of_ble_eq_true rfl)
  rw [lg_entry_eq]
  generalize (lg_sl ([.ref q, .int (nI 1), .int w]) ++ List.replicate (4 - (lg_sl ([.ref q, .int (nI 1), .int w])).length) Slot.unset).toArray = ls at hl ⊢
  have hl : lv_has ls 4 [(0, .ref q), (1, .int (nI 1)), (2, .int w)] := hl
  refine lv_aload_n hx hb dX7_select_0 rfl (lv_at hl 0 rfl) ?_
  refine lv_iload_n hx hb dX7_select_1 rfl (lv_at hl 1 rfl) ?_
  have hPc := hP.sub (ws' := [(q, .inr (6, [.ref s0, .ref s1, .ref s2]))]) [0] rfl
  have hKc := hK.sub (tys' := []) [] rfl
  refine va_csr (W.runV (As := [.int (nI 1)]) (rest := []) ⟨hx, hb, hml, hown, hts⟩ (c_X7_chosenSet_1 l dC dI q s0 s1 s2 ) (cwV 1 hts gX7_select_X7_chosenSet rfl rfl rfl (by decide +kernel) ⟨Nat.le_of_ble_eq_true rfl, Nat.le_of_ble_eq_true rfl⟩) ⟨fun a U g mk q => by obtain ⟨q0, qP, qK⟩ := q; exact ⟨q0, qP, va_K.moved (u := U) (U := U.calling g mk a) (Vm.Alike.refl U.vm) qK⟩, va_recv hKc hPc (ci := 6) (q0 := 0) rfl rfl, fun U hU hW => ⟨rfl, by rw [hU]; exact hPc, va_K.moved hW.alike hKc⟩⟩ rfl rfl hl.1 rfl (lv_room (Nat.le_of_ble_eq_true rfl)) dX7_select_2 ⟨Nat.le_of_ble_eq_true rfl, Nat.le_of_ble_eq_true rfl⟩) (fun r_2 hw_1 => ?_)
  have hw_1 := hw_1.symm
  subst hw_1
  refine lv_astore_n (lv' := [(3, .ref s1), (0, .ref q), (1, .int (nI 1)), (2, .int w)]) hx hb dX7_select_5 rfl hl (by decide) rfl (fun ls hl => ?_)
  refine lv_iload_n hx hb dX7_select_6 rfl (lv_at hl 3 rfl) ?_
  refine lv_aload_n hx hb dX7_select_7 rfl (lv_at hl 0 rfl) ?_
  refine va_getN (D := (dC, dI)) (ci := 3) (v := .ref uq) (C := RX3) (T := TX3) (N := 3) hx hb hts (by decide +kernel) hown hK hP 1 rfl rfl 2 (by decide) (va_Nw.use rfl nw0) (fun _ h9 => h9) rfl dX7_select_8 ?_
  have hPc := hP.sub (ws' := [(uq, .inr (1, [.ref bm, .ref bs])), (bm, .inr (0, [.ref am])), (am, .inl (cJ, 64, .inr (.inl fm))), (bs, .inr (0, [.ref ap])), (ap, .inl (cJ, 64, .inr (.inl fs)))]) [7, 8, 9, 10, 11] rfl
  have hKc := hK.sub (tys' := [(cJ, .long)]) [0] rfl
  refine vp_callSi (W.runV (As := []) (rest := [.int w]) ⟨hx, hb, hml, hown, hts⟩ (c_X1_memberCount l dC dI uq bm am bs ap cJ fm fs ) (cwV 0 hts gX7_select_X1_memberCount rfl rfl rfl (by decide +kernel) ⟨Nat.le_of_ble_eq_true rfl, Nat.le_of_ble_eq_true rfl⟩) ⟨fun a U g mk q => by obtain ⟨q0, qP, qK⟩ := q; exact ⟨q0, qP, va_K.moved (u := U) (U := U.calling g mk a) (Vm.Alike.refl U.vm) qK⟩, va_recv hKc hPc (ci := 1) (q0 := 0) rfl rfl, fun U hU hW => ⟨rfl, by rw [hU]; exact hPc, va_K.moved hW.alike hKc⟩⟩ rfl rfl hl.1 rfl (lv_room (Nat.le_of_ble_eq_true rfl)) dX7_select_11 ⟨Nat.le_of_ble_eq_true rfl, Nat.le_of_ble_eq_true rfl⟩) (fun r_4 hw_3 => ?_)
  subst hw_3
  have hPc := hP.sub (ws' := []) [] rfl
  have hKc := hK.sub (tys' := []) [] rfl
  have hDc := hD.sub (ws' := []) [] (by decide) rfl
  exact vx_callv (vx_runS (As := [.int w, .int (nI (fb_ct (bo fm) 4096))]) (rest := []) ⟨hx, hb, hml, hown, hts⟩ (x_X7_needPlace l hls dC dI w (fb_ct (bo fm) 4096) sa s.heap.size (by first | assumption | omega)) (va_cwS 2 hts gX7_select_X7_needPlace rfl rfl rfl (by decide +kernel) ⟨Nat.le_of_ble_eq_true rfl, Nat.le_of_ble_eq_true rfl⟩) ⟨fun a U g mk q => by obtain ⟨q0, q1, qT, qP, qK, qD⟩ := q; exact ⟨q0, q1, TW.same (u := U) (U := U.calling g mk a) rfl qT, qP, va_K.moved (u := U) (U := U.calling g mk a) (Vm.Alike.refl U.vm) qK, qD⟩, fun U hU hW => ⟨rfl, by rw [hU], by rw [hU]; exact TW.warm hW hT, by rw [hU]; exact hPc, va_K.moved hW.alike hKc, hDc.weaken (fun _ _ _ _ => trivial)⟩⟩ rfl rfl hl.1 rfl (lv_room (Nat.le_of_ble_eq_true rfl)) dX7_select_14 ⟨Nat.le_of_ble_eq_true rfl, Nat.le_of_ble_eq_true rfl⟩) hS (fun q h9 h8 => absurd h8 (Nat.not_le_of_lt h9)) (fun q h8 => Nat.le_trans hS.1 h8) (fun q h9 h8 => absurd h8 (Nat.not_le_of_lt h9)) (fun E9 ce9 q9 u9 t9 H9 l9 ht9 hvm9 hu9 hE9 hz9 hk9 hS9 hce9 hcv9 hcl9 => vx_out (fun x h => (hcat x h).elim) hlocks hce9 hcv9 hcl9 (fun t8 ht8 ha8 => ⟨(), trivial, hE9, by rw [ht8]; exact hz9, fun q h1 h2 => by rw [ht8]; exact hk9 q h1 h2⟩) hS9.2.2 (Nat.le_of_ble_eq_true rfl) (Nat.le_of_ble_eq_true rfl)) (fun u9 t9 H9 l9 ht9 hvm9 hu9 hB9 hz9 hk9 hS9 => hu9.elim)
set_option maxHeartbeats 4000000 in
set_option maxRecDepth 100000 in
/-- separator_p1 throws IndexOutOfBoundsException -/
theorem x_X7_separator_p1 (l : Launch) (hls : l.stackTraces = false) (dC : Nat → ClassId) (dI : Nat → Nat → Nat) (q : Nat) (s0 : Nat) (s1 : Nat) (s2 : Nat) (tq : Nat) (ca : Nat) (rq : Nat) (rb : Nat) (rd : Nat) (uq : Nat) (bm : Nat) (am : Nat) (bs : Nat) (ap : Nat) (cJ : ClassId) (fm : Nat → Int64) (fs : Nat → Int64) (ft : Nat → Int64) (fc : Nat → Int64) (sm : Int64) (lo : Option Nat) (w : Int32) (sa sz : Nat) (hN : NI fm fs ft fc sm lo) (hW : pl w (fb_ct (bo fs) 4096) = false) : vx_Met l yX7_separator wsX7_separator ({ frames := 7, cells := 1, slots := 6, locals := 103 }) (va_Pc [.ref q, .int (nI 1), .int w] (fun U => va_Nw (.fieldLinkNest RX7 38 "SmallNumberSets$NumberSet" "buckets" "LSmallNumberSets$Buckets;" "SmallNumberSets") U ∧ U.heap.size = sz ∧ TW "java/lang/IndexOutOfBoundsException" 165 "no such cluster, level, place or bucket" sa (fun q => sz ≤ q) U U.heap ∧ va_P (dC, dI) vwCl [(q, .inr (6, [.ref s0, .ref s1, .ref s2])), (s1, .inr (3, [.ref tq, .ref rq, .ref uq])), (tq, .inr (4, [.ref ca, .long sm, .int (oI lo)])), (ca, .inl (cJ, 64, .inr (.inl fc))), (rq, .inr (5, [.ref rb])), (rb, .inr (0, [.ref rd])), (rd, .inl (cJ, 128, .inr (.inl ft))), (uq, .inr (1, [.ref bm, .ref bs])), (bm, .inr (0, [.ref am])), (am, .inl (cJ, 64, .inr (.inl fm))), (bs, .inr (0, [.ref ap])), (ap, .inl (cJ, 64, .inr (.inl fs)))] U.heap ∧ va_K (dC, dI) vwCl [(cJ, .long)] U ∧ va_D (fun _ => True) [(q, .inr (6, [.ref s0, .ref s1, .ref s2])), (s1, .inr (3, [.ref tq, .ref rq, .ref uq])), (tq, .inr (4, [.ref ca, .long sm, .int (oI lo)])), (ca, .inl (cJ, 64, .inr (.inl fc))), (rq, .inr (5, [.ref rb])), (rb, .inr (0, [.ref rd])), (rd, .inl (cJ, 128, .inr (.inl ft))), (uq, .inr (1, [.ref bm, .ref bs])), (bm, .inr (0, [.ref am])), (am, .inl (cJ, 64, .inr (.inl fm))), (bs, .inr (0, [.ref ap])), (ap, .inl (cJ, 64, .inr (.inl fs)))])) (va_Qv (fun _ : Unit => False) (fun _ _ => True) (fun q => sz ≤ q)) (vx_X (fun _ : Unit => True) (fun E _ _ => E = "java/lang/IndexOutOfBoundsException") (fun q => sz ≤ q)) 1 6 (fun q => sz ≤ q) := by
  refine vx_ofW (cc := cX7_separator) (maxL := 4) (ret := (some .int)) (by decide) rfl ?_
  intro p e s m args below meth c s₁ B hml hcat hv
  obtain ⟨rfl, nw0, hsz, hT, hP, hK, hD⟩ := hv
  have hx := B.exec
  have hb := B.bytes
  have hr := B.returns
  have hts := atoms_spec (ws := wsX7_separator) B.pre
  have hown : s.vm.findClass RX7 = some m.cls := findClass_of_methodNamed B.named
  have hlocks := B.notSynchronized
  subst hsz
  have hS : va_S (fun q => s.heap.size ≤ q) s.heap s.heap [] := va_S.rf
  have hP : va_P (dC, dI) vwCl [(q, .inr (6, [.ref s0, .ref s1, .ref s2])), (s1, .inr (3, [.ref tq, .ref rq, .ref uq])), (tq, .inr (4, [.ref ca, .long sm, .int (oI lo)])), (ca, .inl (cJ, 64, .inr (.inl fc))), (rq, .inr (5, [.ref rb])), (rb, .inr (0, [.ref rd])), (rd, .inl (cJ, 128, .inr (.inl ft))), (uq, .inr (1, [.ref bm, .ref bs])), (bm, .inr (0, [.ref am])), (am, .inl (cJ, 64, .inr (.inl fm))), (bs, .inr (0, [.ref ap])), (ap, .inl (cJ, 64, .inr (.inl fs)))] s.heap := hP
  have hl := lv_entry ([.ref q, .int (nI 1), .int w]) (n := 4) (Nat.le_of_ble_eq_true rfl)
  rw [lg_entry_eq]
  generalize (lg_sl ([.ref q, .int (nI 1), .int w]) ++ List.replicate (4 - (lg_sl ([.ref q, .int (nI 1), .int w])).length) Slot.unset).toArray = ls at hl ⊢
  have hl : lv_has ls 4 [(0, .ref q), (1, .int (nI 1)), (2, .int w)] := hl
  refine lv_aload_n hx hb dX7_separator_0 rfl (lv_at hl 0 rfl) ?_
  refine lv_iload_n hx hb dX7_separator_1 rfl (lv_at hl 1 rfl) ?_
  have hPc := hP.sub (ws' := [(q, .inr (6, [.ref s0, .ref s1, .ref s2]))]) [0] rfl
  have hKc := hK.sub (tys' := []) [] rfl
  refine va_csr (W.runV (As := [.int (nI 1)]) (rest := []) ⟨hx, hb, hml, hown, hts⟩ (c_X7_chosenSet_1 l dC dI q s0 s1 s2 ) (cwV 1 hts gX7_separator_X7_chosenSet rfl rfl rfl (by decide +kernel) ⟨Nat.le_of_ble_eq_true rfl, Nat.le_of_ble_eq_true rfl⟩) ⟨fun a U g mk q => by obtain ⟨q0, qP, qK⟩ := q; exact ⟨q0, qP, va_K.moved (u := U) (U := U.calling g mk a) (Vm.Alike.refl U.vm) qK⟩, va_recv hKc hPc (ci := 6) (q0 := 0) rfl rfl, fun U hU hW => ⟨rfl, by rw [hU]; exact hPc, va_K.moved hW.alike hKc⟩⟩ rfl rfl hl.1 rfl (lv_room (Nat.le_of_ble_eq_true rfl)) dX7_separator_2 ⟨Nat.le_of_ble_eq_true rfl, Nat.le_of_ble_eq_true rfl⟩) (fun r_2 hw_1 => ?_)
  have hw_1 := hw_1.symm
  subst hw_1
  refine lv_astore_n (lv' := [(3, .ref s1), (0, .ref q), (1, .int (nI 1)), (2, .int w)]) hx hb dX7_separator_5 rfl hl (by decide) rfl (fun ls hl => ?_)
  refine lv_iload_n hx hb dX7_separator_6 rfl (lv_at hl 3 rfl) ?_
  refine lv_aload_n hx hb dX7_separator_7 rfl (lv_at hl 0 rfl) ?_
  refine va_getN (D := (dC, dI)) (ci := 3) (v := .ref uq) (C := RX3) (T := TX3) (N := 3) hx hb hts (by decide +kernel) hown hK hP 1 rfl rfl 2 (by decide) (va_Nw.use rfl nw0) (fun _ h9 => h9) rfl dX7_separator_8 ?_
  have hPc := hP.sub (ws' := [(uq, .inr (1, [.ref bm, .ref bs])), (bm, .inr (0, [.ref am])), (am, .inl (cJ, 64, .inr (.inl fm))), (bs, .inr (0, [.ref ap])), (ap, .inl (cJ, 64, .inr (.inl fs)))]) [7, 8, 9, 10, 11] rfl
  have hKc := hK.sub (tys' := [(cJ, .long)]) [0] rfl
  refine vp_callSi (W.runV (As := []) (rest := [.int w]) ⟨hx, hb, hml, hown, hts⟩ (c_X1_bucketCount l dC dI uq bm am bs ap cJ fm fs ) (cwV 0 hts gX7_separator_X1_bucketCount rfl rfl rfl (by decide +kernel) ⟨Nat.le_of_ble_eq_true rfl, Nat.le_of_ble_eq_true rfl⟩) ⟨fun a U g mk q => by obtain ⟨q0, qP, qK⟩ := q; exact ⟨q0, qP, va_K.moved (u := U) (U := U.calling g mk a) (Vm.Alike.refl U.vm) qK⟩, va_recv hKc hPc (ci := 1) (q0 := 0) rfl rfl, fun U hU hW => ⟨rfl, by rw [hU]; exact hPc, va_K.moved hW.alike hKc⟩⟩ rfl rfl hl.1 rfl (lv_room (Nat.le_of_ble_eq_true rfl)) dX7_separator_11 ⟨Nat.le_of_ble_eq_true rfl, Nat.le_of_ble_eq_true rfl⟩) (fun r_4 hw_3 => ?_)
  subst hw_3
  have hPc := hP.sub (ws' := []) [] rfl
  have hKc := hK.sub (tys' := []) [] rfl
  have hDc := hD.sub (ws' := []) [] (by decide) rfl
  exact vx_callv (vx_runS (As := [.int w, .int (nI (fb_ct (bo fs) 4096))]) (rest := []) ⟨hx, hb, hml, hown, hts⟩ (x_X7_needPlace l hls dC dI w (fb_ct (bo fs) 4096) sa s.heap.size (by first | assumption | omega)) (va_cwS 2 hts gX7_separator_X7_needPlace rfl rfl rfl (by decide +kernel) ⟨Nat.le_of_ble_eq_true rfl, Nat.le_of_ble_eq_true rfl⟩) ⟨fun a U g mk q => by obtain ⟨q0, q1, qT, qP, qK, qD⟩ := q; exact ⟨q0, q1, TW.same (u := U) (U := U.calling g mk a) rfl qT, qP, va_K.moved (u := U) (U := U.calling g mk a) (Vm.Alike.refl U.vm) qK, qD⟩, fun U hU hW => ⟨rfl, by rw [hU], by rw [hU]; exact TW.warm hW hT, by rw [hU]; exact hPc, va_K.moved hW.alike hKc, hDc.weaken (fun _ _ _ _ => trivial)⟩⟩ rfl rfl hl.1 rfl (lv_room (Nat.le_of_ble_eq_true rfl)) dX7_separator_14 ⟨Nat.le_of_ble_eq_true rfl, Nat.le_of_ble_eq_true rfl⟩) hS (fun q h9 h8 => absurd h8 (Nat.not_le_of_lt h9)) (fun q h8 => Nat.le_trans hS.1 h8) (fun q h9 h8 => absurd h8 (Nat.not_le_of_lt h9)) (fun E9 ce9 q9 u9 t9 H9 l9 ht9 hvm9 hu9 hE9 hz9 hk9 hS9 hce9 hcv9 hcl9 => vx_out (fun x h => (hcat x h).elim) hlocks hce9 hcv9 hcl9 (fun t8 ht8 ha8 => ⟨(), trivial, hE9, by rw [ht8]; exact hz9, fun q h1 h2 => by rw [ht8]; exact hk9 q h1 h2⟩) hS9.2.2 (Nat.le_of_ble_eq_true rfl) (Nat.le_of_ble_eq_true rfl)) (fun u9 t9 H9 l9 ht9 hvm9 hu9 hB9 hz9 hk9 hS9 => hu9.elim)
set_option maxHeartbeats 4000000 in
set_option maxRecDepth 100000 in
/-- bucketSize_p1 throws IndexOutOfBoundsException -/
theorem x_X7_bucketSize_p1 (l : Launch) (hls : l.stackTraces = false) (dC : Nat → ClassId) (dI : Nat → Nat → Nat) (q : Nat) (s0 : Nat) (s1 : Nat) (s2 : Nat) (tq : Nat) (ca : Nat) (rq : Nat) (rb : Nat) (rd : Nat) (uq : Nat) (bm : Nat) (am : Nat) (bs : Nat) (ap : Nat) (cJ : ClassId) (fm : Nat → Int64) (fs : Nat → Int64) (ft : Nat → Int64) (fc : Nat → Int64) (sm : Int64) (lo : Option Nat) (w : Int32) (sa sz : Nat) (hN : NI fm fs ft fc sm lo) (hW : pl w (fb_ct (bo fs) 4096) = false) : vx_Met l yX7_bucketSize wsX7_bucketSize ({ frames := 7, cells := 1, slots := 6, locals := 103 }) (va_Pc [.ref q, .int (nI 1), .int w] (fun U => va_Nw (.fieldLinkNest RX7 38 "SmallNumberSets$NumberSet" "buckets" "LSmallNumberSets$Buckets;" "SmallNumberSets") U ∧ U.heap.size = sz ∧ TW "java/lang/IndexOutOfBoundsException" 165 "no such cluster, level, place or bucket" sa (fun q => sz ≤ q) U U.heap ∧ va_P (dC, dI) vwCl [(q, .inr (6, [.ref s0, .ref s1, .ref s2])), (s1, .inr (3, [.ref tq, .ref rq, .ref uq])), (tq, .inr (4, [.ref ca, .long sm, .int (oI lo)])), (ca, .inl (cJ, 64, .inr (.inl fc))), (rq, .inr (5, [.ref rb])), (rb, .inr (0, [.ref rd])), (rd, .inl (cJ, 128, .inr (.inl ft))), (uq, .inr (1, [.ref bm, .ref bs])), (bm, .inr (0, [.ref am])), (am, .inl (cJ, 64, .inr (.inl fm))), (bs, .inr (0, [.ref ap])), (ap, .inl (cJ, 64, .inr (.inl fs)))] U.heap ∧ va_K (dC, dI) vwCl [(cJ, .long)] U ∧ va_D (fun _ => True) [(q, .inr (6, [.ref s0, .ref s1, .ref s2])), (s1, .inr (3, [.ref tq, .ref rq, .ref uq])), (tq, .inr (4, [.ref ca, .long sm, .int (oI lo)])), (ca, .inl (cJ, 64, .inr (.inl fc))), (rq, .inr (5, [.ref rb])), (rb, .inr (0, [.ref rd])), (rd, .inl (cJ, 128, .inr (.inl ft))), (uq, .inr (1, [.ref bm, .ref bs])), (bm, .inr (0, [.ref am])), (am, .inl (cJ, 64, .inr (.inl fm))), (bs, .inr (0, [.ref ap])), (ap, .inl (cJ, 64, .inr (.inl fs)))])) (va_Qv (fun _ : Unit => False) (fun _ _ => True) (fun q => sz ≤ q)) (vx_X (fun _ : Unit => True) (fun E _ _ => E = "java/lang/IndexOutOfBoundsException") (fun q => sz ≤ q)) 1 6 (fun q => sz ≤ q) := by
  refine vx_ofW (cc := cX7_bucketSize) (maxL := 4) (ret := (some .int)) (by decide) rfl ?_
  intro p e s m args below meth c s₁ B hml hcat hv
  obtain ⟨rfl, nw0, hsz, hT, hP, hK, hD⟩ := hv
  have hx := B.exec
  have hb := B.bytes
  have hr := B.returns
  have hts := atoms_spec (ws := wsX7_bucketSize) B.pre
  have hown : s.vm.findClass RX7 = some m.cls := findClass_of_methodNamed B.named
  have hlocks := B.notSynchronized
  subst hsz
  have hS : va_S (fun q => s.heap.size ≤ q) s.heap s.heap [] := va_S.rf
  have hP : va_P (dC, dI) vwCl [(q, .inr (6, [.ref s0, .ref s1, .ref s2])), (s1, .inr (3, [.ref tq, .ref rq, .ref uq])), (tq, .inr (4, [.ref ca, .long sm, .int (oI lo)])), (ca, .inl (cJ, 64, .inr (.inl fc))), (rq, .inr (5, [.ref rb])), (rb, .inr (0, [.ref rd])), (rd, .inl (cJ, 128, .inr (.inl ft))), (uq, .inr (1, [.ref bm, .ref bs])), (bm, .inr (0, [.ref am])), (am, .inl (cJ, 64, .inr (.inl fm))), (bs, .inr (0, [.ref ap])), (ap, .inl (cJ, 64, .inr (.inl fs)))] s.heap := hP
  have hl := lv_entry ([.ref q, .int (nI 1), .int w]) (n := 4) (Nat.le_of_ble_eq_true rfl)
  rw [lg_entry_eq]
  generalize (lg_sl ([.ref q, .int (nI 1), .int w]) ++ List.replicate (4 - (lg_sl ([.ref q, .int (nI 1), .int w])).length) Slot.unset).toArray = ls at hl ⊢
  have hl : lv_has ls 4 [(0, .ref q), (1, .int (nI 1)), (2, .int w)] := hl
  refine lv_aload_n hx hb dX7_bucketSize_0 rfl (lv_at hl 0 rfl) ?_
  refine lv_iload_n hx hb dX7_bucketSize_1 rfl (lv_at hl 1 rfl) ?_
  have hPc := hP.sub (ws' := [(q, .inr (6, [.ref s0, .ref s1, .ref s2]))]) [0] rfl
  have hKc := hK.sub (tys' := []) [] rfl
  refine va_csr (W.runV (As := [.int (nI 1)]) (rest := []) ⟨hx, hb, hml, hown, hts⟩ (c_X7_chosenSet_1 l dC dI q s0 s1 s2 ) (cwV 1 hts gX7_bucketSize_X7_chosenSet rfl rfl rfl (by decide +kernel) ⟨Nat.le_of_ble_eq_true rfl, Nat.le_of_ble_eq_true rfl⟩) ⟨fun a U g mk q => by obtain ⟨q0, qP, qK⟩ := q; exact ⟨q0, qP, va_K.moved (u := U) (U := U.calling g mk a) (Vm.Alike.refl U.vm) qK⟩, va_recv hKc hPc (ci := 6) (q0 := 0) rfl rfl, fun U hU hW => ⟨rfl, by rw [hU]; exact hPc, va_K.moved hW.alike hKc⟩⟩ rfl rfl hl.1 rfl (lv_room (Nat.le_of_ble_eq_true rfl)) dX7_bucketSize_2 ⟨Nat.le_of_ble_eq_true rfl, Nat.le_of_ble_eq_true rfl⟩) (fun r_2 hw_1 => ?_)
  have hw_1 := hw_1.symm
  subst hw_1
  refine lv_astore_n (lv' := [(3, .ref s1), (0, .ref q), (1, .int (nI 1)), (2, .int w)]) hx hb dX7_bucketSize_5 rfl hl (by decide) rfl (fun ls hl => ?_)
  refine lv_iload_n hx hb dX7_bucketSize_6 rfl (lv_at hl 3 rfl) ?_
  refine lv_aload_n hx hb dX7_bucketSize_7 rfl (lv_at hl 0 rfl) ?_
  refine va_getN (D := (dC, dI)) (ci := 3) (v := .ref uq) (C := RX3) (T := TX3) (N := 3) hx hb hts (by decide +kernel) hown hK hP 1 rfl rfl 2 (by decide) (va_Nw.use rfl nw0) (fun _ h9 => h9) rfl dX7_bucketSize_8 ?_
  have hPc := hP.sub (ws' := [(uq, .inr (1, [.ref bm, .ref bs])), (bm, .inr (0, [.ref am])), (am, .inl (cJ, 64, .inr (.inl fm))), (bs, .inr (0, [.ref ap])), (ap, .inl (cJ, 64, .inr (.inl fs)))]) [7, 8, 9, 10, 11] rfl
  have hKc := hK.sub (tys' := [(cJ, .long)]) [0] rfl
  refine vp_callSi (W.runV (As := []) (rest := [.int w]) ⟨hx, hb, hml, hown, hts⟩ (c_X1_bucketCount l dC dI uq bm am bs ap cJ fm fs ) (cwV 0 hts gX7_bucketSize_X1_bucketCount rfl rfl rfl (by decide +kernel) ⟨Nat.le_of_ble_eq_true rfl, Nat.le_of_ble_eq_true rfl⟩) ⟨fun a U g mk q => by obtain ⟨q0, qP, qK⟩ := q; exact ⟨q0, qP, va_K.moved (u := U) (U := U.calling g mk a) (Vm.Alike.refl U.vm) qK⟩, va_recv hKc hPc (ci := 1) (q0 := 0) rfl rfl, fun U hU hW => ⟨rfl, by rw [hU]; exact hPc, va_K.moved hW.alike hKc⟩⟩ rfl rfl hl.1 rfl (lv_room (Nat.le_of_ble_eq_true rfl)) dX7_bucketSize_11 ⟨Nat.le_of_ble_eq_true rfl, Nat.le_of_ble_eq_true rfl⟩) (fun r_4 hw_3 => ?_)
  subst hw_3
  have hPc := hP.sub (ws' := []) [] rfl
  have hKc := hK.sub (tys' := []) [] rfl
  have hDc := hD.sub (ws' := []) [] (by decide) rfl
  exact vx_callv (vx_runS (As := [.int w, .int (nI (fb_ct (bo fs) 4096))]) (rest := []) ⟨hx, hb, hml, hown, hts⟩ (x_X7_needPlace l hls dC dI w (fb_ct (bo fs) 4096) sa s.heap.size (by first | assumption | omega)) (va_cwS 2 hts gX7_bucketSize_X7_needPlace rfl rfl rfl (by decide +kernel) ⟨Nat.le_of_ble_eq_true rfl, Nat.le_of_ble_eq_true rfl⟩) ⟨fun a U g mk q => by obtain ⟨q0, q1, qT, qP, qK, qD⟩ := q; exact ⟨q0, q1, TW.same (u := U) (U := U.calling g mk a) rfl qT, qP, va_K.moved (u := U) (U := U.calling g mk a) (Vm.Alike.refl U.vm) qK, qD⟩, fun U hU hW => ⟨rfl, by rw [hU], by rw [hU]; exact TW.warm hW hT, by rw [hU]; exact hPc, va_K.moved hW.alike hKc, hDc.weaken (fun _ _ _ _ => trivial)⟩⟩ rfl rfl hl.1 rfl (lv_room (Nat.le_of_ble_eq_true rfl)) dX7_bucketSize_14 ⟨Nat.le_of_ble_eq_true rfl, Nat.le_of_ble_eq_true rfl⟩) hS (fun q h9 h8 => absurd h8 (Nat.not_le_of_lt h9)) (fun q h8 => Nat.le_trans hS.1 h8) (fun q h9 h8 => absurd h8 (Nat.not_le_of_lt h9)) (fun E9 ce9 q9 u9 t9 H9 l9 ht9 hvm9 hu9 hE9 hz9 hk9 hS9 hce9 hcv9 hcl9 => vx_out (fun x h => (hcat x h).elim) hlocks hce9 hcv9 hcl9 (fun t8 ht8 ha8 => ⟨(), trivial, hE9, by rw [ht8]; exact hz9, fun q h1 h2 => by rw [ht8]; exact hk9 q h1 h2⟩) hS9.2.2 (Nat.le_of_ble_eq_true rfl) (Nat.le_of_ble_eq_true rfl)) (fun u9 t9 H9 l9 ht9 hvm9 hu9 hB9 hz9 hk9 hS9 => hu9.elim)
set_option maxHeartbeats 4000000 in
set_option maxRecDepth 100000 in
/-- pollFirst_e1 throws NoSuchElementException -/
theorem x_X7_pollFirst_e1 (l : Launch) (hls : l.stackTraces = false) (dC : Nat → ClassId) (dI : Nat → Nat → Nat) (q : Nat) (s0 : Nat) (s1 : Nat) (s2 : Nat) (tq : Nat) (ca : Nat) (rq : Nat) (rb : Nat) (rd : Nat) (uq : Nat) (bm : Nat) (am : Nat) (bs : Nat) (ap : Nat) (cJ : ClassId) (fm : Nat → Int64) (fs : Nat → Int64) (ft : Nat → Int64) (fc : Nat → Int64) (sm : Int64) (lo : Option Nat) (sa sz : Nat) (hN : NI fm fs ft fc sm lo) (hz : fst1 (bo fm) 4096 = none) : vx_Met l yX7_pollFirst wsX7_pollFirst ({ frames := 7, cells := 1, slots := 6, locals := 102 }) (va_Pc [.ref q, .int (nI 1)] (fun U => va_Nw (.fieldLinkNest RX7 62 "SmallNumberSets$NumberSet" "tree" "LSmallNumberSets$Tree;" "SmallNumberSets") U ∧ U.heap.size = sz ∧ TW "java/util/NoSuchElementException" 162 "the set is empty" sa (fun q => sz ≤ q) U U.heap ∧ va_P (dC, dI) vwCl [(q, .inr (6, [.ref s0, .ref s1, .ref s2])), (s1, .inr (3, [.ref tq, .ref rq, .ref uq])), (tq, .inr (4, [.ref ca, .long sm, .int (oI lo)])), (ca, .inl (cJ, 64, .inr (.inl fc))), (rq, .inr (5, [.ref rb])), (rb, .inr (0, [.ref rd])), (rd, .inl (cJ, 128, .inr (.inl ft))), (uq, .inr (1, [.ref bm, .ref bs])), (bm, .inr (0, [.ref am])), (am, .inl (cJ, 64, .inr (.inl fm))), (bs, .inr (0, [.ref ap])), (ap, .inl (cJ, 64, .inr (.inl fs)))] U.heap ∧ va_K (dC, dI) vwCl [(cJ, .long)] U ∧ va_D (fun _ => True) [(q, .inr (6, [.ref s0, .ref s1, .ref s2])), (s1, .inr (3, [.ref tq, .ref rq, .ref uq])), (tq, .inr (4, [.ref ca, .long sm, .int (oI lo)])), (ca, .inl (cJ, 64, .inr (.inl fc))), (rq, .inr (5, [.ref rb])), (rb, .inr (0, [.ref rd])), (rd, .inl (cJ, 128, .inr (.inl ft))), (uq, .inr (1, [.ref bm, .ref bs])), (bm, .inr (0, [.ref am])), (am, .inl (cJ, 64, .inr (.inl fm))), (bs, .inr (0, [.ref ap])), (ap, .inl (cJ, 64, .inr (.inl fs)))])) (va_Qv (fun _ : Unit => False) (fun _ _ => True) (fun q => sz ≤ q)) (vx_X (fun _ : Unit => True) (fun E _ _ => E = "java/util/NoSuchElementException") (fun q => sz ≤ q)) 1 6 (fun q => sz ≤ q) := by
  refine vx_ofW (cc := cX7_pollFirst) (maxL := 4) (ret := (some .int)) (by decide) rfl ?_
  intro p e s m args below meth c s₁ B hml hcat hv
  obtain ⟨rfl, nw0, hsz, hT, hP, hK, hD⟩ := hv
  have hx := B.exec
  have hb := B.bytes
  have hr := B.returns
  have hts := atoms_spec (ws := wsX7_pollFirst) B.pre
  have hown : s.vm.findClass RX7 = some m.cls := findClass_of_methodNamed B.named
  have hlocks := B.notSynchronized
  subst hsz
  have hS : va_S (fun q => s.heap.size ≤ q) s.heap s.heap [] := va_S.rf
  have hP : va_P (dC, dI) vwCl [(q, .inr (6, [.ref s0, .ref s1, .ref s2])), (s1, .inr (3, [.ref tq, .ref rq, .ref uq])), (tq, .inr (4, [.ref ca, .long sm, .int (oI lo)])), (ca, .inl (cJ, 64, .inr (.inl fc))), (rq, .inr (5, [.ref rb])), (rb, .inr (0, [.ref rd])), (rd, .inl (cJ, 128, .inr (.inl ft))), (uq, .inr (1, [.ref bm, .ref bs])), (bm, .inr (0, [.ref am])), (am, .inl (cJ, 64, .inr (.inl fm))), (bs, .inr (0, [.ref ap])), (ap, .inl (cJ, 64, .inr (.inl fs)))] s.heap := hP
  have hl := lv_entry ([.ref q, .int (nI 1)]) (n := 4) (Nat.le_of_ble_eq_true rfl)
  rw [lg_entry_eq]
  generalize (lg_sl ([.ref q, .int (nI 1)]) ++ List.replicate (4 - (lg_sl ([.ref q, .int (nI 1)])).length) Slot.unset).toArray = ls at hl ⊢
  have hl : lv_has ls 4 [(0, .ref q), (1, .int (nI 1))] := hl
  refine lv_aload_n hx hb dX7_pollFirst_0 rfl (lv_at hl 0 rfl) ?_
  refine lv_iload_n hx hb dX7_pollFirst_1 rfl (lv_at hl 1 rfl) ?_
  have hPc := hP.sub (ws' := [(q, .inr (6, [.ref s0, .ref s1, .ref s2]))]) [0] rfl
  have hKc := hK.sub (tys' := []) [] rfl
  refine va_csr (W.runV (As := [.int (nI 1)]) (rest := []) ⟨hx, hb, hml, hown, hts⟩ (c_X7_chosenSet_1 l dC dI q s0 s1 s2 ) (cwV 1 hts gX7_pollFirst_X7_chosenSet rfl rfl rfl (by decide +kernel) ⟨Nat.le_of_ble_eq_true rfl, Nat.le_of_ble_eq_true rfl⟩) ⟨fun a U g mk q => by obtain ⟨q0, qP, qK⟩ := q; exact ⟨q0, qP, va_K.moved (u := U) (U := U.calling g mk a) (Vm.Alike.refl U.vm) qK⟩, va_recv hKc hPc (ci := 6) (q0 := 0) rfl rfl, fun U hU hW => ⟨rfl, by rw [hU]; exact hPc, va_K.moved hW.alike hKc⟩⟩ rfl rfl hl.1 rfl (lv_room (Nat.le_of_ble_eq_true rfl)) dX7_pollFirst_2 ⟨Nat.le_of_ble_eq_true rfl, Nat.le_of_ble_eq_true rfl⟩) (fun r_2 hw_1 => ?_)
  have hw_1 := hw_1.symm
  subst hw_1
  refine lv_astore_n (lv' := [(2, .ref s1), (0, .ref q), (1, .int (nI 1))]) hx hb dX7_pollFirst_5 rfl hl (by decide) rfl (fun ls hl => ?_)
  refine lv_aload_n hx hb dX7_pollFirst_6 rfl (lv_at hl 0 rfl) ?_
  refine va_getN (D := (dC, dI)) (ci := 3) (v := .ref tq) (C := RX3) (T := TX3) (N := 3) hx hb hts (by decide +kernel) hown hK hP 1 rfl rfl 0 (by decide) (va_Nw.use rfl nw0) (fun _ h9 => h9) rfl dX7_pollFirst_7 ?_
  have hPc := hP.sub (ws' := [(tq, .inr (4, [.ref ca, .long sm, .int (oI lo)])), (ca, .inl (cJ, 64, .inr (.inl fc)))]) [2, 3] rfl
  have hKc := hK.sub (tys' := [(cJ, .long)]) [0] rfl
  refine vp_callSi (W.runV (As := []) (rest := []) ⟨hx, hb, hml, hown, hts⟩ (c_X4_least l dC dI tq ca cJ fc sm lo ) (cwV 0 hts gX7_pollFirst_X4_least rfl rfl rfl (by decide +kernel) ⟨Nat.le_of_ble_eq_true rfl, Nat.le_of_ble_eq_true rfl⟩) ⟨fun a U g mk q => by obtain ⟨q0, qP, qK⟩ := q; exact ⟨q0, qP, va_K.moved (u := U) (U := U.calling g mk a) (Vm.Alike.refl U.vm) qK⟩, va_recv hKc hPc (ci := 4) (q0 := 0) rfl rfl, fun U hU hW => ⟨rfl, by rw [hU]; exact hPc, va_K.moved hW.alike hKc⟩⟩ rfl rfl hl.1 rfl (lv_room (Nat.le_of_ble_eq_true rfl)) dX7_pollFirst_10 ⟨Nat.le_of_ble_eq_true rfl, Nat.le_of_ble_eq_true rfl⟩) (fun r_4 hw_3 => ?_)
  subst hw_3
  refine lv_cvi (congrArg oI (hN.2.2.1.trans hz)) ?_
  refine lv_cvi ((rfl : oI none = -1)) ?_
  refine lv_istore_n (lv' := [(3, .int (-1)), (2, .ref s1), (0, .ref q), (1, .int (nI 1))]) hx hb dX7_pollFirst_13 rfl hl (by decide) rfl (fun ls hl => ?_)
  refine lv_iload_n hx hb dX7_pollFirst_14 rfl (lv_at hl 0 rfl) ?_
  have hPc := hP.sub (ws' := []) [] rfl
  have hKc := hK.sub (tys' := []) [] rfl
  have hDc := hD.sub (ws' := []) [] (by decide) rfl
  exact vx_callv (vx_runS (As := [.int (-1)]) (rest := []) ⟨hx, hb, hml, hown, hts⟩ (x_X7_needMember l hls dC dI  sa s.heap.size ) (va_cwS 1 hts gX7_pollFirst_X7_needMember rfl rfl rfl (by decide +kernel) ⟨Nat.le_of_ble_eq_true rfl, Nat.le_of_ble_eq_true rfl⟩) ⟨fun a U g mk q => by obtain ⟨q0, q1, qT, qP, qK, qD⟩ := q; exact ⟨q0, q1, TW.same (u := U) (U := U.calling g mk a) rfl qT, qP, va_K.moved (u := U) (U := U.calling g mk a) (Vm.Alike.refl U.vm) qK, qD⟩, fun U hU hW => ⟨rfl, by rw [hU], by rw [hU]; exact TW.warm hW hT, by rw [hU]; exact hPc, va_K.moved hW.alike hKc, hDc.weaken (fun _ _ _ _ => trivial)⟩⟩ rfl rfl hl.1 rfl (lv_room (Nat.le_of_ble_eq_true rfl)) dX7_pollFirst_15 ⟨Nat.le_of_ble_eq_true rfl, Nat.le_of_ble_eq_true rfl⟩) hS (fun q h9 h8 => absurd h8 (Nat.not_le_of_lt h9)) (fun q h8 => Nat.le_trans hS.1 h8) (fun q h9 h8 => absurd h8 (Nat.not_le_of_lt h9)) (fun E9 ce9 q9 u9 t9 H9 l9 ht9 hvm9 hu9 hE9 hz9 hk9 hS9 hce9 hcv9 hcl9 => vx_out (fun x h => (hcat x h).elim) hlocks hce9 hcv9 hcl9 (fun t8 ht8 ha8 => ⟨(), trivial, hE9, by rw [ht8]; exact hz9, fun q h1 h2 => by rw [ht8]; exact hk9 q h1 h2⟩) hS9.2.2 (Nat.le_of_ble_eq_true rfl) (Nat.le_of_ble_eq_true rfl)) (fun u9 t9 H9 l9 ht9 hvm9 hu9 hB9 hz9 hk9 hS9 => hu9.elim)
set_option maxHeartbeats 4000000 in
set_option maxRecDepth 100000 in
/-- pollLast_e1 throws NoSuchElementException -/
theorem x_X7_pollLast_e1 (l : Launch) (hls : l.stackTraces = false) (dC : Nat → ClassId) (dI : Nat → Nat → Nat) (q : Nat) (s0 : Nat) (s1 : Nat) (s2 : Nat) (tq : Nat) (ca : Nat) (rq : Nat) (rb : Nat) (rd : Nat) (uq : Nat) (bm : Nat) (am : Nat) (bs : Nat) (ap : Nat) (cJ : ClassId) (fm : Nat → Int64) (fs : Nat → Int64) (ft : Nat → Int64) (fc : Nat → Int64) (sm : Int64) (lo : Option Nat) (sa sz : Nat) (hN : NI fm fs ft fc sm lo) (hz : lst1 (bo fm) 4096 = none) : vx_Met l yX7_pollLast wsX7_pollLast ({ frames := 7, cells := 1, slots := 6, locals := 102 }) (va_Pc [.ref q, .int (nI 1)] (fun U => va_Nw (.fieldLinkNest RX7 62 "SmallNumberSets$NumberSet" "tree" "LSmallNumberSets$Tree;" "SmallNumberSets") U ∧ U.heap.size = sz ∧ TW "java/util/NoSuchElementException" 162 "the set is empty" sa (fun q => sz ≤ q) U U.heap ∧ va_P (dC, dI) vwCl [(q, .inr (6, [.ref s0, .ref s1, .ref s2])), (s1, .inr (3, [.ref tq, .ref rq, .ref uq])), (tq, .inr (4, [.ref ca, .long sm, .int (oI lo)])), (ca, .inl (cJ, 64, .inr (.inl fc))), (rq, .inr (5, [.ref rb])), (rb, .inr (0, [.ref rd])), (rd, .inl (cJ, 128, .inr (.inl ft))), (uq, .inr (1, [.ref bm, .ref bs])), (bm, .inr (0, [.ref am])), (am, .inl (cJ, 64, .inr (.inl fm))), (bs, .inr (0, [.ref ap])), (ap, .inl (cJ, 64, .inr (.inl fs)))] U.heap ∧ va_K (dC, dI) vwCl [(cJ, .long)] U ∧ va_D (fun _ => True) [(q, .inr (6, [.ref s0, .ref s1, .ref s2])), (s1, .inr (3, [.ref tq, .ref rq, .ref uq])), (tq, .inr (4, [.ref ca, .long sm, .int (oI lo)])), (ca, .inl (cJ, 64, .inr (.inl fc))), (rq, .inr (5, [.ref rb])), (rb, .inr (0, [.ref rd])), (rd, .inl (cJ, 128, .inr (.inl ft))), (uq, .inr (1, [.ref bm, .ref bs])), (bm, .inr (0, [.ref am])), (am, .inl (cJ, 64, .inr (.inl fm))), (bs, .inr (0, [.ref ap])), (ap, .inl (cJ, 64, .inr (.inl fs)))])) (va_Qv (fun _ : Unit => False) (fun _ _ => True) (fun q => sz ≤ q)) (vx_X (fun _ : Unit => True) (fun E _ _ => E = "java/util/NoSuchElementException") (fun q => sz ≤ q)) 1 6 (fun q => sz ≤ q) := by
  refine vx_ofW (cc := cX7_pollLast) (maxL := 4) (ret := (some .int)) (by decide) rfl ?_
  intro p e s m args below meth c s₁ B hml hcat hv
  obtain ⟨rfl, nw0, hsz, hT, hP, hK, hD⟩ := hv
  have hx := B.exec
  have hb := B.bytes
  have hr := B.returns
  have hts := atoms_spec (ws := wsX7_pollLast) B.pre
  have hown : s.vm.findClass RX7 = some m.cls := findClass_of_methodNamed B.named
  have hlocks := B.notSynchronized
  subst hsz
  have hS : va_S (fun q => s.heap.size ≤ q) s.heap s.heap [] := va_S.rf
  have hP : va_P (dC, dI) vwCl [(q, .inr (6, [.ref s0, .ref s1, .ref s2])), (s1, .inr (3, [.ref tq, .ref rq, .ref uq])), (tq, .inr (4, [.ref ca, .long sm, .int (oI lo)])), (ca, .inl (cJ, 64, .inr (.inl fc))), (rq, .inr (5, [.ref rb])), (rb, .inr (0, [.ref rd])), (rd, .inl (cJ, 128, .inr (.inl ft))), (uq, .inr (1, [.ref bm, .ref bs])), (bm, .inr (0, [.ref am])), (am, .inl (cJ, 64, .inr (.inl fm))), (bs, .inr (0, [.ref ap])), (ap, .inl (cJ, 64, .inr (.inl fs)))] s.heap := hP
  have hl := lv_entry ([.ref q, .int (nI 1)]) (n := 4) (Nat.le_of_ble_eq_true rfl)
  rw [lg_entry_eq]
  generalize (lg_sl ([.ref q, .int (nI 1)]) ++ List.replicate (4 - (lg_sl ([.ref q, .int (nI 1)])).length) Slot.unset).toArray = ls at hl ⊢
  have hl : lv_has ls 4 [(0, .ref q), (1, .int (nI 1))] := hl
  refine lv_aload_n hx hb dX7_pollLast_0 rfl (lv_at hl 0 rfl) ?_
  refine lv_iload_n hx hb dX7_pollLast_1 rfl (lv_at hl 1 rfl) ?_
  have hPc := hP.sub (ws' := [(q, .inr (6, [.ref s0, .ref s1, .ref s2]))]) [0] rfl
  have hKc := hK.sub (tys' := []) [] rfl
  refine va_csr (W.runV (As := [.int (nI 1)]) (rest := []) ⟨hx, hb, hml, hown, hts⟩ (c_X7_chosenSet_1 l dC dI q s0 s1 s2 ) (cwV 1 hts gX7_pollLast_X7_chosenSet rfl rfl rfl (by decide +kernel) ⟨Nat.le_of_ble_eq_true rfl, Nat.le_of_ble_eq_true rfl⟩) ⟨fun a U g mk q => by obtain ⟨q0, qP, qK⟩ := q; exact ⟨q0, qP, va_K.moved (u := U) (U := U.calling g mk a) (Vm.Alike.refl U.vm) qK⟩, va_recv hKc hPc (ci := 6) (q0 := 0) rfl rfl, fun U hU hW => ⟨rfl, by rw [hU]; exact hPc, va_K.moved hW.alike hKc⟩⟩ rfl rfl hl.1 rfl (lv_room (Nat.le_of_ble_eq_true rfl)) dX7_pollLast_2 ⟨Nat.le_of_ble_eq_true rfl, Nat.le_of_ble_eq_true rfl⟩) (fun r_2 hw_1 => ?_)
  have hw_1 := hw_1.symm
  subst hw_1
  refine lv_astore_n (lv' := [(2, .ref s1), (0, .ref q), (1, .int (nI 1))]) hx hb dX7_pollLast_5 rfl hl (by decide) rfl (fun ls hl => ?_)
  refine lv_aload_n hx hb dX7_pollLast_6 rfl (lv_at hl 0 rfl) ?_
  refine va_getN (D := (dC, dI)) (ci := 3) (v := .ref tq) (C := RX3) (T := TX3) (N := 3) hx hb hts (by decide +kernel) hown hK hP 1 rfl rfl 0 (by decide) (va_Nw.use rfl nw0) (fun _ h9 => h9) rfl dX7_pollLast_7 ?_
  have hPc := hP.sub (ws' := [(tq, .inr (4, [.ref ca, .long sm, .int (oI lo)])), (ca, .inl (cJ, 64, .inr (.inl fc)))]) [2, 3] rfl
  have hKc := hK.sub (tys' := [(cJ, .long)]) [0] rfl
  refine vp_callSi (W.runV (As := []) (rest := []) ⟨hx, hb, hml, hown, hts⟩ (c_X4_greatest l dC dI tq ca cJ fc sm lo (bo fm) hN.2.2) (cwV 0 hts gX7_pollLast_X4_greatest rfl rfl rfl (by decide +kernel) ⟨Nat.le_of_ble_eq_true rfl, Nat.le_of_ble_eq_true rfl⟩) ⟨fun a U g mk q => by obtain ⟨q0, qP, qK⟩ := q; exact ⟨q0, qP, va_K.moved (u := U) (U := U.calling g mk a) (Vm.Alike.refl U.vm) qK⟩, va_recv hKc hPc (ci := 4) (q0 := 0) rfl rfl, fun U hU hW => ⟨rfl, by rw [hU]; exact hPc, va_K.moved hW.alike hKc⟩⟩ rfl rfl hl.1 rfl (lv_room (Nat.le_of_ble_eq_true rfl)) dX7_pollLast_10 ⟨Nat.le_of_ble_eq_true rfl, Nat.le_of_ble_eq_true rfl⟩) (fun r_4 hw_3 => ?_)
  subst hw_3
  refine lv_cvi (congrArg oI (hz)) ?_
  refine lv_cvi ((rfl : oI none = -1)) ?_
  refine lv_istore_n (lv' := [(3, .int (-1)), (2, .ref s1), (0, .ref q), (1, .int (nI 1))]) hx hb dX7_pollLast_13 rfl hl (by decide) rfl (fun ls hl => ?_)
  refine lv_iload_n hx hb dX7_pollLast_14 rfl (lv_at hl 0 rfl) ?_
  have hPc := hP.sub (ws' := []) [] rfl
  have hKc := hK.sub (tys' := []) [] rfl
  have hDc := hD.sub (ws' := []) [] (by decide) rfl
  exact vx_callv (vx_runS (As := [.int (-1)]) (rest := []) ⟨hx, hb, hml, hown, hts⟩ (x_X7_needMember l hls dC dI  sa s.heap.size ) (va_cwS 1 hts gX7_pollLast_X7_needMember rfl rfl rfl (by decide +kernel) ⟨Nat.le_of_ble_eq_true rfl, Nat.le_of_ble_eq_true rfl⟩) ⟨fun a U g mk q => by obtain ⟨q0, q1, qT, qP, qK, qD⟩ := q; exact ⟨q0, q1, TW.same (u := U) (U := U.calling g mk a) rfl qT, qP, va_K.moved (u := U) (U := U.calling g mk a) (Vm.Alike.refl U.vm) qK, qD⟩, fun U hU hW => ⟨rfl, by rw [hU], by rw [hU]; exact TW.warm hW hT, by rw [hU]; exact hPc, va_K.moved hW.alike hKc, hDc.weaken (fun _ _ _ _ => trivial)⟩⟩ rfl rfl hl.1 rfl (lv_room (Nat.le_of_ble_eq_true rfl)) dX7_pollLast_15 ⟨Nat.le_of_ble_eq_true rfl, Nat.le_of_ble_eq_true rfl⟩) hS (fun q h9 h8 => absurd h8 (Nat.not_le_of_lt h9)) (fun q h8 => Nat.le_trans hS.1 h8) (fun q h9 h8 => absurd h8 (Nat.not_le_of_lt h9)) (fun E9 ce9 q9 u9 t9 H9 l9 ht9 hvm9 hu9 hE9 hz9 hk9 hS9 hce9 hcv9 hcl9 => vx_out (fun x h => (hcat x h).elim) hlocks hce9 hcv9 hcl9 (fun t8 ht8 ha8 => ⟨(), trivial, hE9, by rw [ht8]; exact hz9, fun q h1 h2 => by rw [ht8]; exact hk9 q h1 h2⟩) hS9.2.2 (Nat.le_of_ble_eq_true rfl) (Nat.le_of_ble_eq_true rfl)) (fun u9 t9 H9 l9 ht9 hvm9 hu9 hB9 hz9 hk9 hS9 => hu9.elim)
set_option maxHeartbeats 4000000 in
set_option maxRecDepth 100000 in
/-- insertAll_e10 throws IllegalStateException -/
theorem x_X7_insertAll_e10 (l : Launch) (hls : l.stackTraces = false) (dC : Nat → ClassId) (dI : Nat → Nat → Nat) (q : Nat) (s0 : Nat) (s1 : Nat) (s2 : Nat) (tq : Nat) (ca : Nat) (rq : Nat) (rb : Nat) (rd : Nat) (uq : Nat) (bm : Nat) (am : Nat) (bs : Nat) (ap : Nat) (cJ : ClassId) (fm : Nat → Int64) (fs : Nat → Int64) (ft : Nat → Int64) (fc : Nat → Int64) (sm : Int64) (lo : Option Nat) (tq_o : Nat) (ca_o : Nat) (rq_o : Nat) (rb_o : Nat) (rd_o : Nat) (uq_o : Nat) (bm_o : Nat) (am_o : Nat) (bs_o : Nat) (ap_o : Nat) (om : Nat → Int64) (os : Nat → Int64) (ot : Nat → Int64) (oc : Nat → Int64) (osm : Int64) (olo : Option Nat) (sa sz : Nat) (hN : NI fm fs ft fc sm lo) (hn30 : 30 < fb_ct (bo om) 4096) : vx_Met l yX7_insertAll wsX7_insertAll ({ frames := 6, cells := 1, slots := 6, locals := 82 }) (va_Pc [.ref q, .int (nI 1), .int (nI 0)] (fun U => va_Nw (.fieldLinkNest RX7 38 "SmallNumberSets$NumberSet" "buckets" "LSmallNumberSets$Buckets;" "SmallNumberSets") U ∧ U.heap.size = sz ∧ TW "java/lang/IllegalStateException" 50 "the other set has too many members" sa (fun q => sz ≤ q) U U.heap ∧ va_P (dC, dI) vwCl [(q, .inr (6, [.ref s0, .ref s1, .ref s2])), (s1, .inr (3, [.ref tq, .ref rq, .ref uq])), (tq, .inr (4, [.ref ca, .long sm, .int (oI lo)])), (ca, .inl (cJ, 64, .inr (.inl fc))), (rq, .inr (5, [.ref rb])), (rb, .inr (0, [.ref rd])), (rd, .inl (cJ, 128, .inr (.inl ft))), (uq, .inr (1, [.ref bm, .ref bs])), (bm, .inr (0, [.ref am])), (am, .inl (cJ, 64, .inr (.inl fm))), (bs, .inr (0, [.ref ap])), (ap, .inl (cJ, 64, .inr (.inl fs))), (s0, .inr (3, [.ref tq_o, .ref rq_o, .ref uq_o])), (tq_o, .inr (4, [.ref ca_o, .long osm, .int (oI olo)])), (ca_o, .inl (cJ, 64, .inr (.inl oc))), (rq_o, .inr (5, [.ref rb_o])), (rb_o, .inr (0, [.ref rd_o])), (rd_o, .inl (cJ, 128, .inr (.inl ot))), (uq_o, .inr (1, [.ref bm_o, .ref bs_o])), (bm_o, .inr (0, [.ref am_o])), (am_o, .inl (cJ, 64, .inr (.inl om))), (bs_o, .inr (0, [.ref ap_o])), (ap_o, .inl (cJ, 64, .inr (.inl os)))] U.heap ∧ va_K (dC, dI) vwCl [(cJ, .long)] U ∧ va_D (fun _ => True) [(q, .inr (6, [.ref s0, .ref s1, .ref s2])), (s1, .inr (3, [.ref tq, .ref rq, .ref uq])), (tq, .inr (4, [.ref ca, .long sm, .int (oI lo)])), (ca, .inl (cJ, 64, .inr (.inl fc))), (rq, .inr (5, [.ref rb])), (rb, .inr (0, [.ref rd])), (rd, .inl (cJ, 128, .inr (.inl ft))), (uq, .inr (1, [.ref bm, .ref bs])), (bm, .inr (0, [.ref am])), (am, .inl (cJ, 64, .inr (.inl fm))), (bs, .inr (0, [.ref ap])), (ap, .inl (cJ, 64, .inr (.inl fs))), (s0, .inr (3, [.ref tq_o, .ref rq_o, .ref uq_o])), (tq_o, .inr (4, [.ref ca_o, .long osm, .int (oI olo)])), (ca_o, .inl (cJ, 64, .inr (.inl oc))), (rq_o, .inr (5, [.ref rb_o])), (rb_o, .inr (0, [.ref rd_o])), (rd_o, .inl (cJ, 128, .inr (.inl ot))), (uq_o, .inr (1, [.ref bm_o, .ref bs_o])), (bm_o, .inr (0, [.ref am_o])), (am_o, .inl (cJ, 64, .inr (.inl om))), (bs_o, .inr (0, [.ref ap_o])), (ap_o, .inl (cJ, 64, .inr (.inl os)))])) (va_Qv (fun _ : Unit => False) (fun _ _ => True) (fun q => sz ≤ q)) (vx_X (fun _ : Unit => True) (fun E _ _ => E = "java/lang/IllegalStateException") (fun q => sz ≤ q)) 1 6 (fun q => sz ≤ q) := by
  refine vx_ofW (cc := cX7_insertAll) (maxL := 8) (ret := (some .int)) (by decide) rfl ?_
  intro p e s m args below meth c s₁ B hml hcat hv
  obtain ⟨rfl, nw0, hsz, hT, hP, hK, hD⟩ := hv
  have hx := B.exec
  have hb := B.bytes
  have hr := B.returns
  have hts := atoms_spec (ws := wsX7_insertAll) B.pre
  have hown : s.vm.findClass RX7 = some m.cls := findClass_of_methodNamed B.named
  have hlocks := B.notSynchronized
  subst hsz
  have hS : va_S (fun q => s.heap.size ≤ q) s.heap s.heap [] := va_S.rf
  have hP : va_P (dC, dI) vwCl [(q, .inr (6, [.ref s0, .ref s1, .ref s2])), (s1, .inr (3, [.ref tq, .ref rq, .ref uq])), (tq, .inr (4, [.ref ca, .long sm, .int (oI lo)])), (ca, .inl (cJ, 64, .inr (.inl fc))), (rq, .inr (5, [.ref rb])), (rb, .inr (0, [.ref rd])), (rd, .inl (cJ, 128, .inr (.inl ft))), (uq, .inr (1, [.ref bm, .ref bs])), (bm, .inr (0, [.ref am])), (am, .inl (cJ, 64, .inr (.inl fm))), (bs, .inr (0, [.ref ap])), (ap, .inl (cJ, 64, .inr (.inl fs))), (s0, .inr (3, [.ref tq_o, .ref rq_o, .ref uq_o])), (tq_o, .inr (4, [.ref ca_o, .long osm, .int (oI olo)])), (ca_o, .inl (cJ, 64, .inr (.inl oc))), (rq_o, .inr (5, [.ref rb_o])), (rb_o, .inr (0, [.ref rd_o])), (rd_o, .inl (cJ, 128, .inr (.inl ot))), (uq_o, .inr (1, [.ref bm_o, .ref bs_o])), (bm_o, .inr (0, [.ref am_o])), (am_o, .inl (cJ, 64, .inr (.inl om))), (bs_o, .inr (0, [.ref ap_o])), (ap_o, .inl (cJ, 64, .inr (.inl os)))] s.heap := hP
  have hl := lv_entry ([.ref q, .int (nI 1), .int (nI 0)]) (n := 8) (Nat.le_of_ble_eq_true rfl)
  rw [lg_entry_eq]
  generalize (lg_sl ([.ref q, .int (nI 1), .int (nI 0)]) ++ List.replicate (8 - (lg_sl ([.ref q, .int (nI 1), .int (nI 0)])).length) Slot.unset).toArray = ls at hl ⊢
  have hl : lv_has ls 8 [(0, .ref q), (1, .int (nI 1)), (2, .int (nI 0))] := hl
  have hcb := fb_ct_le (bo om) 4096
  refine lv_aload_n hx hb dX7_insertAll_0 rfl (lv_at hl 0 rfl) ?_
  refine lv_iload_n hx hb dX7_insertAll_1 rfl (lv_at hl 1 rfl) ?_
  have hPc := hP.sub (ws' := [(q, .inr (6, [.ref s0, .ref s1, .ref s2]))]) [0] rfl
  have hKc := hK.sub (tys' := []) [] rfl
  refine va_csr (W.runV (As := [.int (nI 1)]) (rest := []) ⟨hx, hb, hml, hown, hts⟩ (c_X7_chosenSet_1 l dC dI q s0 s1 s2 ) (cwV 1 hts gX7_insertAll_X7_chosenSet rfl rfl rfl (by decide +kernel) ⟨Nat.le_of_ble_eq_true rfl, Nat.le_of_ble_eq_true rfl⟩) ⟨fun a U g mk q => by obtain ⟨q0, qP, qK⟩ := q; exact ⟨q0, qP, va_K.moved (u := U) (U := U.calling g mk a) (Vm.Alike.refl U.vm) qK⟩, va_recv hKc hPc (ci := 6) (q0 := 0) rfl rfl, fun U hU hW => ⟨rfl, by rw [hU]; exact hPc, va_K.moved hW.alike hKc⟩⟩ rfl rfl hl.1 rfl (lv_room (Nat.le_of_ble_eq_true rfl)) dX7_insertAll_2 ⟨Nat.le_of_ble_eq_true rfl, Nat.le_of_ble_eq_true rfl⟩) (fun r_2 hw_1 => ?_)
  have hw_1 := hw_1.symm
  subst hw_1
  refine lv_astore_n (lv' := [(3, .ref s1), (0, .ref q), (1, .int (nI 1)), (2, .int (nI 0))]) hx hb dX7_insertAll_5 rfl hl (by decide) rfl (fun ls hl => ?_)
  refine lv_aload_n hx hb dX7_insertAll_6 rfl (lv_at hl 1 rfl) ?_
  refine lv_iload_n hx hb dX7_insertAll_7 rfl (lv_at hl 3 rfl) ?_
  have hPc := hP.sub (ws' := [(q, .inr (6, [.ref s0, .ref s1, .ref s2]))]) [0] rfl
  have hKc := hK.sub (tys' := []) [] rfl
  refine va_csr (W.runV (As := [.int (nI 0)]) (rest := []) ⟨hx, hb, hml, hown, hts⟩ (c_X7_chosenSet_0 l dC dI q s0 s1 s2 ) (cwV 1 hts gX7_insertAll_X7_chosenSet rfl rfl rfl (by decide +kernel) ⟨Nat.le_of_ble_eq_true rfl, Nat.le_of_ble_eq_true rfl⟩) ⟨fun a U g mk q => by obtain ⟨q0, qP, qK⟩ := q; exact ⟨q0, qP, va_K.moved (u := U) (U := U.calling g mk a) (Vm.Alike.refl U.vm) qK⟩, va_recv hKc hPc (ci := 6) (q0 := 0) rfl rfl, fun U hU hW => ⟨rfl, by rw [hU]; exact hPc, va_K.moved hW.alike hKc⟩⟩ rfl rfl hl.1 rfl (lv_room (Nat.le_of_ble_eq_true rfl)) dX7_insertAll_8 ⟨Nat.le_of_ble_eq_true rfl, Nat.le_of_ble_eq_true rfl⟩) (fun r_4 hw_3 => ?_)
  have hw_3 := hw_3.symm
  subst hw_3
  refine lv_astore (lv' := [(4, .ref s0), (3, .ref s1), (0, .ref q), (1, .int (nI 1)), (2, .int (nI 0))]) hx hb dX7_insertAll_11 hl (by decide) rfl (fun ls hl => ?_)
  refine lv_aload hx hb dX7_insertAll_13 (lv_at hl 0 rfl) ?_
  refine va_getN (D := (dC, dI)) (ci := 3) (v := .ref uq_o) (C := RX3) (T := TX3) (N := 3) hx hb hts (by decide +kernel) hown hK hP 12 rfl rfl 2 (by decide) (va_Nw.use rfl nw0) (fun _ h9 => h9) rfl dX7_insertAll_15 ?_
  have hPc := hP.sub (ws' := [(uq_o, .inr (1, [.ref bm_o, .ref bs_o])), (bm_o, .inr (0, [.ref am_o])), (am_o, .inl (cJ, 64, .inr (.inl om))), (bs_o, .inr (0, [.ref ap_o])), (ap_o, .inl (cJ, 64, .inr (.inl os)))]) [18, 19, 20, 21, 22] rfl
  have hKc := hK.sub (tys' := [(cJ, .long)]) [0] rfl
  refine vp_callSi (W.runV (As := []) (rest := []) ⟨hx, hb, hml, hown, hts⟩ (c_X1_memberCount l dC dI uq_o bm_o am_o bs_o ap_o cJ om os ) (cwV 0 hts gX7_insertAll_X1_memberCount rfl rfl rfl (by decide +kernel) ⟨Nat.le_of_ble_eq_true rfl, Nat.le_of_ble_eq_true rfl⟩) ⟨fun a U g mk q => by obtain ⟨q0, qP, qK⟩ := q; exact ⟨q0, qP, va_K.moved (u := U) (U := U.calling g mk a) (Vm.Alike.refl U.vm) qK⟩, va_recv hKc hPc (ci := 1) (q0 := 0) rfl rfl, fun U hU hW => ⟨rfl, by rw [hU]; exact hPc, va_K.moved hW.alike hKc⟩⟩ rfl rfl hl.1 rfl (lv_room (Nat.le_of_ble_eq_true rfl)) dX7_insertAll_18 ⟨Nat.le_of_ble_eq_true rfl, Nat.le_of_ble_eq_true rfl⟩) (fun r_6 hw_5 => ?_)
  subst hw_5
  refine lv_istore (lv' := [(5, .int (nI (fb_ct (bo om) 4096))), (4, .ref s0), (3, .ref s1), (0, .ref q), (1, .int (nI 1)), (2, .int (nI 0))]) hx hb dX7_insertAll_21 hl (by decide) rfl (fun ls hl => ?_)
  refine lv_iload hx hb dX7_insertAll_23 (lv_at hl 0 rfl) ?_
  refine lv_bipush (v := nI 30) hx hb dX7_insertAll_25 (by decide +kernel) ?_
  refine lv_icmp_le (tgt := 40) hx hb dX7_insertAll_27 (by decide) (fun qc_7 => ?_) (fun qc_7 => ?_)
  · have c_7 : (fb_ct (bo om) 4096) ≤ 30 := (nI_leI (a := fb_ct (bo om) 4096) (b := 30) (by omega) (by omega)).mp qc_7
    exact absurd c_7 (by omega)
  · have c_7 : ¬ (fb_ct (bo om) 4096) ≤ 30 := fun h9 => qc_7 ((nI_leI (a := fb_ct (bo om) 4096) (b := 30) (by omega) (by omega)).mpr h9)
    exact vx_throwS hx hb hls (own := RX7) (cls := "java/lang/IllegalStateException") (text := "the other set has too many members") (names := ["java/lang/RuntimeException", "java/lang/Exception"]) (ik := 48) (is := 50) (ic := 52) (sa := sa) hown (by decide) (by decide) (hts (.classLink RX7 48 "java/lang/IllegalStateException") (by decide +kernel)) (hts (.initialized "java/lang/IllegalStateException") (by decide +kernel)) hT.1 (vx_hat (L := (vx_atS RX7 52 "java/lang/IllegalStateException" ["java/lang/RuntimeException", "java/lang/Exception"])) (B := [.declares (Bundle.initS tw_r), .declares (Bundle.initS tw_e), .declares (Bundle.initS Bundle.tN), .castable "java/lang/IllegalStateException" "java/lang/IllegalStateException"]) (fun w hw => hts w (List.mem_cons_of_mem _ (List.mem_append_left _ (List.mem_append_right _ hw)))) (by decide +kernel) (vx_c (va_Nw.use rfl hT.2.2.2.1) (vx_c (va_Nw.use rfl hT.2.2.2.2.1) (vx_c (va_Nw.use rfl hT.2.2.2.2.2.1) (vx_c (va_Nw.use rfl hT.2.2.2.2.2.2) vx_n))))) (List.all_eq_true.mp (by decide +kernel)) hT.2.1 hT.2.2.1 hS (by rw [hml]; exact hl.1) dX7_insertAll_30 dX7_insertAll_33 dX7_insertAll_34 dX7_insertAll_36 dX7_insertAll_39 (fun x h => (hcat x h).elim) (Nat.le_of_ble_eq_true rfl) (Nat.le_of_ble_eq_true rfl) (Nat.le_of_ble_eq_true rfl) (Nat.le_of_ble_eq_true rfl) hlocks (fun t _ h1 h2 => ⟨(), trivial, rfl, h1, fun q h3 _ => h2 q h3⟩) (fun z h => nomatch h) (Nat.le_of_ble_eq_true rfl) (Nat.le_of_ble_eq_true rfl)
set_option maxHeartbeats 4000000 in
set_option maxRecDepth 100000 in
/-- insertAll_e11 throws IllegalStateException -/
theorem x_X7_insertAll_e11 (l : Launch) (hls : l.stackTraces = false) (dC : Nat → ClassId) (dI : Nat → Nat → Nat) (q : Nat) (s0 : Nat) (s1 : Nat) (s2 : Nat) (tq : Nat) (ca : Nat) (rq : Nat) (rb : Nat) (rd : Nat) (uq : Nat) (bm : Nat) (am : Nat) (bs : Nat) (ap : Nat) (cJ : ClassId) (fm : Nat → Int64) (fs : Nat → Int64) (ft : Nat → Int64) (fc : Nat → Int64) (sm : Int64) (lo : Option Nat) (sa sz : Nat) (hN : NI fm fs ft fc sm lo) (hn30 : 30 < fb_ct (bo fm) 4096) : vx_Met l yX7_insertAll wsX7_insertAll ({ frames := 6, cells := 1, slots := 6, locals := 82 }) (va_Pc [.ref q, .int (nI 1), .int (nI 1)] (fun U => va_Nw (.fieldLinkNest RX7 38 "SmallNumberSets$NumberSet" "buckets" "LSmallNumberSets$Buckets;" "SmallNumberSets") U ∧ U.heap.size = sz ∧ TW "java/lang/IllegalStateException" 50 "the other set has too many members" sa (fun q => sz ≤ q) U U.heap ∧ va_P (dC, dI) vwCl [(q, .inr (6, [.ref s0, .ref s1, .ref s2])), (s1, .inr (3, [.ref tq, .ref rq, .ref uq])), (tq, .inr (4, [.ref ca, .long sm, .int (oI lo)])), (ca, .inl (cJ, 64, .inr (.inl fc))), (rq, .inr (5, [.ref rb])), (rb, .inr (0, [.ref rd])), (rd, .inl (cJ, 128, .inr (.inl ft))), (uq, .inr (1, [.ref bm, .ref bs])), (bm, .inr (0, [.ref am])), (am, .inl (cJ, 64, .inr (.inl fm))), (bs, .inr (0, [.ref ap])), (ap, .inl (cJ, 64, .inr (.inl fs)))] U.heap ∧ va_K (dC, dI) vwCl [(cJ, .long)] U ∧ va_D (fun _ => True) [(q, .inr (6, [.ref s0, .ref s1, .ref s2])), (s1, .inr (3, [.ref tq, .ref rq, .ref uq])), (tq, .inr (4, [.ref ca, .long sm, .int (oI lo)])), (ca, .inl (cJ, 64, .inr (.inl fc))), (rq, .inr (5, [.ref rb])), (rb, .inr (0, [.ref rd])), (rd, .inl (cJ, 128, .inr (.inl ft))), (uq, .inr (1, [.ref bm, .ref bs])), (bm, .inr (0, [.ref am])), (am, .inl (cJ, 64, .inr (.inl fm))), (bs, .inr (0, [.ref ap])), (ap, .inl (cJ, 64, .inr (.inl fs)))])) (va_Qv (fun _ : Unit => False) (fun _ _ => True) (fun q => sz ≤ q)) (vx_X (fun _ : Unit => True) (fun E _ _ => E = "java/lang/IllegalStateException") (fun q => sz ≤ q)) 1 6 (fun q => sz ≤ q) := by
  refine vx_ofW (cc := cX7_insertAll) (maxL := 8) (ret := (some .int)) (by decide) rfl ?_
  intro p e s m args below meth c s₁ B hml hcat hv
  obtain ⟨rfl, nw0, hsz, hT, hP, hK, hD⟩ := hv
  have hx := B.exec
  have hb := B.bytes
  have hr := B.returns
  have hts := atoms_spec (ws := wsX7_insertAll) B.pre
  have hown : s.vm.findClass RX7 = some m.cls := findClass_of_methodNamed B.named
  have hlocks := B.notSynchronized
  subst hsz
  have hS : va_S (fun q => s.heap.size ≤ q) s.heap s.heap [] := va_S.rf
  have hP : va_P (dC, dI) vwCl [(q, .inr (6, [.ref s0, .ref s1, .ref s2])), (s1, .inr (3, [.ref tq, .ref rq, .ref uq])), (tq, .inr (4, [.ref ca, .long sm, .int (oI lo)])), (ca, .inl (cJ, 64, .inr (.inl fc))), (rq, .inr (5, [.ref rb])), (rb, .inr (0, [.ref rd])), (rd, .inl (cJ, 128, .inr (.inl ft))), (uq, .inr (1, [.ref bm, .ref bs])), (bm, .inr (0, [.ref am])), (am, .inl (cJ, 64, .inr (.inl fm))), (bs, .inr (0, [.ref ap])), (ap, .inl (cJ, 64, .inr (.inl fs)))] s.heap := hP
  have hl := lv_entry ([.ref q, .int (nI 1), .int (nI 1)]) (n := 8) (Nat.le_of_ble_eq_true rfl)
  rw [lg_entry_eq]
  generalize (lg_sl ([.ref q, .int (nI 1), .int (nI 1)]) ++ List.replicate (8 - (lg_sl ([.ref q, .int (nI 1), .int (nI 1)])).length) Slot.unset).toArray = ls at hl ⊢
  have hl : lv_has ls 8 [(0, .ref q), (1, .int (nI 1)), (2, .int (nI 1))] := hl
  have hcb := fb_ct_le (bo fm) 4096
  refine lv_aload_n hx hb dX7_insertAll_0 rfl (lv_at hl 0 rfl) ?_
  refine lv_iload_n hx hb dX7_insertAll_1 rfl (lv_at hl 1 rfl) ?_
  have hPc := hP.sub (ws' := [(q, .inr (6, [.ref s0, .ref s1, .ref s2]))]) [0] rfl
  have hKc := hK.sub (tys' := []) [] rfl
  refine va_csr (W.runV (As := [.int (nI 1)]) (rest := []) ⟨hx, hb, hml, hown, hts⟩ (c_X7_chosenSet_1 l dC dI q s0 s1 s2 ) (cwV 1 hts gX7_insertAll_X7_chosenSet rfl rfl rfl (by decide +kernel) ⟨Nat.le_of_ble_eq_true rfl, Nat.le_of_ble_eq_true rfl⟩) ⟨fun a U g mk q => by obtain ⟨q0, qP, qK⟩ := q; exact ⟨q0, qP, va_K.moved (u := U) (U := U.calling g mk a) (Vm.Alike.refl U.vm) qK⟩, va_recv hKc hPc (ci := 6) (q0 := 0) rfl rfl, fun U hU hW => ⟨rfl, by rw [hU]; exact hPc, va_K.moved hW.alike hKc⟩⟩ rfl rfl hl.1 rfl (lv_room (Nat.le_of_ble_eq_true rfl)) dX7_insertAll_2 ⟨Nat.le_of_ble_eq_true rfl, Nat.le_of_ble_eq_true rfl⟩) (fun r_2 hw_1 => ?_)
  have hw_1 := hw_1.symm
  subst hw_1
  refine lv_astore_n (lv' := [(3, .ref s1), (0, .ref q), (1, .int (nI 1)), (2, .int (nI 1))]) hx hb dX7_insertAll_5 rfl hl (by decide) rfl (fun ls hl => ?_)
  refine lv_aload_n hx hb dX7_insertAll_6 rfl (lv_at hl 1 rfl) ?_
  refine lv_iload_n hx hb dX7_insertAll_7 rfl (lv_at hl 3 rfl) ?_
  have hPc := hP.sub (ws' := [(q, .inr (6, [.ref s0, .ref s1, .ref s2]))]) [0] rfl
  have hKc := hK.sub (tys' := []) [] rfl
  refine va_csr (W.runV (As := [.int (nI 1)]) (rest := []) ⟨hx, hb, hml, hown, hts⟩ (c_X7_chosenSet_1 l dC dI q s0 s1 s2 ) (cwV 1 hts gX7_insertAll_X7_chosenSet rfl rfl rfl (by decide +kernel) ⟨Nat.le_of_ble_eq_true rfl, Nat.le_of_ble_eq_true rfl⟩) ⟨fun a U g mk q => by obtain ⟨q0, qP, qK⟩ := q; exact ⟨q0, qP, va_K.moved (u := U) (U := U.calling g mk a) (Vm.Alike.refl U.vm) qK⟩, va_recv hKc hPc (ci := 6) (q0 := 0) rfl rfl, fun U hU hW => ⟨rfl, by rw [hU]; exact hPc, va_K.moved hW.alike hKc⟩⟩ rfl rfl hl.1 rfl (lv_room (Nat.le_of_ble_eq_true rfl)) dX7_insertAll_8 ⟨Nat.le_of_ble_eq_true rfl, Nat.le_of_ble_eq_true rfl⟩) (fun r_4 hw_3 => ?_)
  have hw_3 := hw_3.symm
  subst hw_3
  refine lv_astore (lv' := [(4, .ref s1), (3, .ref s1), (0, .ref q), (1, .int (nI 1)), (2, .int (nI 1))]) hx hb dX7_insertAll_11 hl (by decide) rfl (fun ls hl => ?_)
  refine lv_aload hx hb dX7_insertAll_13 (lv_at hl 0 rfl) ?_
  refine va_getN (D := (dC, dI)) (ci := 3) (v := .ref uq) (C := RX3) (T := TX3) (N := 3) hx hb hts (by decide +kernel) hown hK hP 1 rfl rfl 2 (by decide) (va_Nw.use rfl nw0) (fun _ h9 => h9) rfl dX7_insertAll_15 ?_
  have hPc := hP.sub (ws' := [(uq, .inr (1, [.ref bm, .ref bs])), (bm, .inr (0, [.ref am])), (am, .inl (cJ, 64, .inr (.inl fm))), (bs, .inr (0, [.ref ap])), (ap, .inl (cJ, 64, .inr (.inl fs)))]) [7, 8, 9, 10, 11] rfl
  have hKc := hK.sub (tys' := [(cJ, .long)]) [0] rfl
  refine vp_callSi (W.runV (As := []) (rest := []) ⟨hx, hb, hml, hown, hts⟩ (c_X1_memberCount l dC dI uq bm am bs ap cJ fm fs ) (cwV 0 hts gX7_insertAll_X1_memberCount rfl rfl rfl (by decide +kernel) ⟨Nat.le_of_ble_eq_true rfl, Nat.le_of_ble_eq_true rfl⟩) ⟨fun a U g mk q => by obtain ⟨q0, qP, qK⟩ := q; exact ⟨q0, qP, va_K.moved (u := U) (U := U.calling g mk a) (Vm.Alike.refl U.vm) qK⟩, va_recv hKc hPc (ci := 1) (q0 := 0) rfl rfl, fun U hU hW => ⟨rfl, by rw [hU]; exact hPc, va_K.moved hW.alike hKc⟩⟩ rfl rfl hl.1 rfl (lv_room (Nat.le_of_ble_eq_true rfl)) dX7_insertAll_18 ⟨Nat.le_of_ble_eq_true rfl, Nat.le_of_ble_eq_true rfl⟩) (fun r_6 hw_5 => ?_)
  subst hw_5
  refine lv_istore (lv' := [(5, .int (nI (fb_ct (bo fm) 4096))), (4, .ref s1), (3, .ref s1), (0, .ref q), (1, .int (nI 1)), (2, .int (nI 1))]) hx hb dX7_insertAll_21 hl (by decide) rfl (fun ls hl => ?_)
  refine lv_iload hx hb dX7_insertAll_23 (lv_at hl 0 rfl) ?_
  refine lv_bipush (v := nI 30) hx hb dX7_insertAll_25 (by decide +kernel) ?_
  refine lv_icmp_le (tgt := 40) hx hb dX7_insertAll_27 (by decide) (fun qc_7 => ?_) (fun qc_7 => ?_)
  · have c_7 : (fb_ct (bo fm) 4096) ≤ 30 := (nI_leI (a := fb_ct (bo fm) 4096) (b := 30) (by omega) (by omega)).mp qc_7
    exact absurd c_7 (by omega)
  · have c_7 : ¬ (fb_ct (bo fm) 4096) ≤ 30 := fun h9 => qc_7 ((nI_leI (a := fb_ct (bo fm) 4096) (b := 30) (by omega) (by omega)).mpr h9)
    exact vx_throwS hx hb hls (own := RX7) (cls := "java/lang/IllegalStateException") (text := "the other set has too many members") (names := ["java/lang/RuntimeException", "java/lang/Exception"]) (ik := 48) (is := 50) (ic := 52) (sa := sa) hown (by decide) (by decide) (hts (.classLink RX7 48 "java/lang/IllegalStateException") (by decide +kernel)) (hts (.initialized "java/lang/IllegalStateException") (by decide +kernel)) hT.1 (vx_hat (L := (vx_atS RX7 52 "java/lang/IllegalStateException" ["java/lang/RuntimeException", "java/lang/Exception"])) (B := [.declares (Bundle.initS tw_r), .declares (Bundle.initS tw_e), .declares (Bundle.initS Bundle.tN), .castable "java/lang/IllegalStateException" "java/lang/IllegalStateException"]) (fun w hw => hts w (List.mem_cons_of_mem _ (List.mem_append_left _ (List.mem_append_right _ hw)))) (by decide +kernel) (vx_c (va_Nw.use rfl hT.2.2.2.1) (vx_c (va_Nw.use rfl hT.2.2.2.2.1) (vx_c (va_Nw.use rfl hT.2.2.2.2.2.1) (vx_c (va_Nw.use rfl hT.2.2.2.2.2.2) vx_n))))) (List.all_eq_true.mp (by decide +kernel)) hT.2.1 hT.2.2.1 hS (by rw [hml]; exact hl.1) dX7_insertAll_30 dX7_insertAll_33 dX7_insertAll_34 dX7_insertAll_36 dX7_insertAll_39 (fun x h => (hcat x h).elim) (Nat.le_of_ble_eq_true rfl) (Nat.le_of_ble_eq_true rfl) (Nat.le_of_ble_eq_true rfl) (Nat.le_of_ble_eq_true rfl) hlocks (fun t _ h1 h2 => ⟨(), trivial, rfl, h1, fun q h3 _ => h2 q h3⟩) (fun z h => nomatch h) (Nat.le_of_ble_eq_true rfl) (Nat.le_of_ble_eq_true rfl)
set_option maxHeartbeats 4000000 in
set_option maxRecDepth 100000 in
/-- insertAll_e12 throws IllegalStateException -/
theorem x_X7_insertAll_e12 (l : Launch) (hls : l.stackTraces = false) (dC : Nat → ClassId) (dI : Nat → Nat → Nat) (q : Nat) (s0 : Nat) (s1 : Nat) (s2 : Nat) (tq : Nat) (ca : Nat) (rq : Nat) (rb : Nat) (rd : Nat) (uq : Nat) (bm : Nat) (am : Nat) (bs : Nat) (ap : Nat) (cJ : ClassId) (fm : Nat → Int64) (fs : Nat → Int64) (ft : Nat → Int64) (fc : Nat → Int64) (sm : Int64) (lo : Option Nat) (tq_o : Nat) (ca_o : Nat) (rq_o : Nat) (rb_o : Nat) (rd_o : Nat) (uq_o : Nat) (bm_o : Nat) (am_o : Nat) (bs_o : Nat) (ap_o : Nat) (om : Nat → Int64) (os : Nat → Int64) (ot : Nat → Int64) (oc : Nat → Int64) (osm : Int64) (olo : Option Nat) (sa sz : Nat) (hN : NI fm fs ft fc sm lo) (hn30 : 30 < fb_ct (bo om) 4096) : vx_Met l yX7_insertAll wsX7_insertAll ({ frames := 6, cells := 1, slots := 6, locals := 82 }) (va_Pc [.ref q, .int (nI 1), .int (nI 2)] (fun U => va_Nw (.fieldLinkNest RX7 38 "SmallNumberSets$NumberSet" "buckets" "LSmallNumberSets$Buckets;" "SmallNumberSets") U ∧ U.heap.size = sz ∧ TW "java/lang/IllegalStateException" 50 "the other set has too many members" sa (fun q => sz ≤ q) U U.heap ∧ va_P (dC, dI) vwCl [(q, .inr (6, [.ref s0, .ref s1, .ref s2])), (s1, .inr (3, [.ref tq, .ref rq, .ref uq])), (tq, .inr (4, [.ref ca, .long sm, .int (oI lo)])), (ca, .inl (cJ, 64, .inr (.inl fc))), (rq, .inr (5, [.ref rb])), (rb, .inr (0, [.ref rd])), (rd, .inl (cJ, 128, .inr (.inl ft))), (uq, .inr (1, [.ref bm, .ref bs])), (bm, .inr (0, [.ref am])), (am, .inl (cJ, 64, .inr (.inl fm))), (bs, .inr (0, [.ref ap])), (ap, .inl (cJ, 64, .inr (.inl fs))), (s2, .inr (3, [.ref tq_o, .ref rq_o, .ref uq_o])), (tq_o, .inr (4, [.ref ca_o, .long osm, .int (oI olo)])), (ca_o, .inl (cJ, 64, .inr (.inl oc))), (rq_o, .inr (5, [.ref rb_o])), (rb_o, .inr (0, [.ref rd_o])), (rd_o, .inl (cJ, 128, .inr (.inl ot))), (uq_o, .inr (1, [.ref bm_o, .ref bs_o])), (bm_o, .inr (0, [.ref am_o])), (am_o, .inl (cJ, 64, .inr (.inl om))), (bs_o, .inr (0, [.ref ap_o])), (ap_o, .inl (cJ, 64, .inr (.inl os)))] U.heap ∧ va_K (dC, dI) vwCl [(cJ, .long)] U ∧ va_D (fun _ => True) [(q, .inr (6, [.ref s0, .ref s1, .ref s2])), (s1, .inr (3, [.ref tq, .ref rq, .ref uq])), (tq, .inr (4, [.ref ca, .long sm, .int (oI lo)])), (ca, .inl (cJ, 64, .inr (.inl fc))), (rq, .inr (5, [.ref rb])), (rb, .inr (0, [.ref rd])), (rd, .inl (cJ, 128, .inr (.inl ft))), (uq, .inr (1, [.ref bm, .ref bs])), (bm, .inr (0, [.ref am])), (am, .inl (cJ, 64, .inr (.inl fm))), (bs, .inr (0, [.ref ap])), (ap, .inl (cJ, 64, .inr (.inl fs))), (s2, .inr (3, [.ref tq_o, .ref rq_o, .ref uq_o])), (tq_o, .inr (4, [.ref ca_o, .long osm, .int (oI olo)])), (ca_o, .inl (cJ, 64, .inr (.inl oc))), (rq_o, .inr (5, [.ref rb_o])), (rb_o, .inr (0, [.ref rd_o])), (rd_o, .inl (cJ, 128, .inr (.inl ot))), (uq_o, .inr (1, [.ref bm_o, .ref bs_o])), (bm_o, .inr (0, [.ref am_o])), (am_o, .inl (cJ, 64, .inr (.inl om))), (bs_o, .inr (0, [.ref ap_o])), (ap_o, .inl (cJ, 64, .inr (.inl os)))])) (va_Qv (fun _ : Unit => False) (fun _ _ => True) (fun q => sz ≤ q)) (vx_X (fun _ : Unit => True) (fun E _ _ => E = "java/lang/IllegalStateException") (fun q => sz ≤ q)) 1 6 (fun q => sz ≤ q) := by
  refine vx_ofW (cc := cX7_insertAll) (maxL := 8) (ret := (some .int)) (by decide) rfl ?_
  intro p e s m args below meth c s₁ B hml hcat hv
  obtain ⟨rfl, nw0, hsz, hT, hP, hK, hD⟩ := hv
  have hx := B.exec
  have hb := B.bytes
  have hr := B.returns
  have hts := atoms_spec (ws := wsX7_insertAll) B.pre
  have hown : s.vm.findClass RX7 = some m.cls := findClass_of_methodNamed B.named
  have hlocks := B.notSynchronized
  subst hsz
  have hS : va_S (fun q => s.heap.size ≤ q) s.heap s.heap [] := va_S.rf
  have hP : va_P (dC, dI) vwCl [(q, .inr (6, [.ref s0, .ref s1, .ref s2])), (s1, .inr (3, [.ref tq, .ref rq, .ref uq])), (tq, .inr (4, [.ref ca, .long sm, .int (oI lo)])), (ca, .inl (cJ, 64, .inr (.inl fc))), (rq, .inr (5, [.ref rb])), (rb, .inr (0, [.ref rd])), (rd, .inl (cJ, 128, .inr (.inl ft))), (uq, .inr (1, [.ref bm, .ref bs])), (bm, .inr (0, [.ref am])), (am, .inl (cJ, 64, .inr (.inl fm))), (bs, .inr (0, [.ref ap])), (ap, .inl (cJ, 64, .inr (.inl fs))), (s2, .inr (3, [.ref tq_o, .ref rq_o, .ref uq_o])), (tq_o, .inr (4, [.ref ca_o, .long osm, .int (oI olo)])), (ca_o, .inl (cJ, 64, .inr (.inl oc))), (rq_o, .inr (5, [.ref rb_o])), (rb_o, .inr (0, [.ref rd_o])), (rd_o, .inl (cJ, 128, .inr (.inl ot))), (uq_o, .inr (1, [.ref bm_o, .ref bs_o])), (bm_o, .inr (0, [.ref am_o])), (am_o, .inl (cJ, 64, .inr (.inl om))), (bs_o, .inr (0, [.ref ap_o])), (ap_o, .inl (cJ, 64, .inr (.inl os)))] s.heap := hP
  have hl := lv_entry ([.ref q, .int (nI 1), .int (nI 2)]) (n := 8) (Nat.le_of_ble_eq_true rfl)
  rw [lg_entry_eq]
  generalize (lg_sl ([.ref q, .int (nI 1), .int (nI 2)]) ++ List.replicate (8 - (lg_sl ([.ref q, .int (nI 1), .int (nI 2)])).length) Slot.unset).toArray = ls at hl ⊢
  have hl : lv_has ls 8 [(0, .ref q), (1, .int (nI 1)), (2, .int (nI 2))] := hl
  have hcb := fb_ct_le (bo om) 4096
  refine lv_aload_n hx hb dX7_insertAll_0 rfl (lv_at hl 0 rfl) ?_
  refine lv_iload_n hx hb dX7_insertAll_1 rfl (lv_at hl 1 rfl) ?_
  have hPc := hP.sub (ws' := [(q, .inr (6, [.ref s0, .ref s1, .ref s2]))]) [0] rfl
  have hKc := hK.sub (tys' := []) [] rfl
  refine va_csr (W.runV (As := [.int (nI 1)]) (rest := []) ⟨hx, hb, hml, hown, hts⟩ (c_X7_chosenSet_1 l dC dI q s0 s1 s2 ) (cwV 1 hts gX7_insertAll_X7_chosenSet rfl rfl rfl (by decide +kernel) ⟨Nat.le_of_ble_eq_true rfl, Nat.le_of_ble_eq_true rfl⟩) ⟨fun a U g mk q => by obtain ⟨q0, qP, qK⟩ := q; exact ⟨q0, qP, va_K.moved (u := U) (U := U.calling g mk a) (Vm.Alike.refl U.vm) qK⟩, va_recv hKc hPc (ci := 6) (q0 := 0) rfl rfl, fun U hU hW => ⟨rfl, by rw [hU]; exact hPc, va_K.moved hW.alike hKc⟩⟩ rfl rfl hl.1 rfl (lv_room (Nat.le_of_ble_eq_true rfl)) dX7_insertAll_2 ⟨Nat.le_of_ble_eq_true rfl, Nat.le_of_ble_eq_true rfl⟩) (fun r_2 hw_1 => ?_)
  have hw_1 := hw_1.symm
  subst hw_1
  refine lv_astore_n (lv' := [(3, .ref s1), (0, .ref q), (1, .int (nI 1)), (2, .int (nI 2))]) hx hb dX7_insertAll_5 rfl hl (by decide) rfl (fun ls hl => ?_)
  refine lv_aload_n hx hb dX7_insertAll_6 rfl (lv_at hl 1 rfl) ?_
  refine lv_iload_n hx hb dX7_insertAll_7 rfl (lv_at hl 3 rfl) ?_
  have hPc := hP.sub (ws' := [(q, .inr (6, [.ref s0, .ref s1, .ref s2]))]) [0] rfl
  have hKc := hK.sub (tys' := []) [] rfl
  refine va_csr (W.runV (As := [.int (nI 2)]) (rest := []) ⟨hx, hb, hml, hown, hts⟩ (c_X7_chosenSet_2 l dC dI q s0 s1 s2 ) (cwV 1 hts gX7_insertAll_X7_chosenSet rfl rfl rfl (by decide +kernel) ⟨Nat.le_of_ble_eq_true rfl, Nat.le_of_ble_eq_true rfl⟩) ⟨fun a U g mk q => by obtain ⟨q0, qP, qK⟩ := q; exact ⟨q0, qP, va_K.moved (u := U) (U := U.calling g mk a) (Vm.Alike.refl U.vm) qK⟩, va_recv hKc hPc (ci := 6) (q0 := 0) rfl rfl, fun U hU hW => ⟨rfl, by rw [hU]; exact hPc, va_K.moved hW.alike hKc⟩⟩ rfl rfl hl.1 rfl (lv_room (Nat.le_of_ble_eq_true rfl)) dX7_insertAll_8 ⟨Nat.le_of_ble_eq_true rfl, Nat.le_of_ble_eq_true rfl⟩) (fun r_4 hw_3 => ?_)
  have hw_3 := hw_3.symm
  subst hw_3
  refine lv_astore (lv' := [(4, .ref s2), (3, .ref s1), (0, .ref q), (1, .int (nI 1)), (2, .int (nI 2))]) hx hb dX7_insertAll_11 hl (by decide) rfl (fun ls hl => ?_)
  refine lv_aload hx hb dX7_insertAll_13 (lv_at hl 0 rfl) ?_
  refine va_getN (D := (dC, dI)) (ci := 3) (v := .ref uq_o) (C := RX3) (T := TX3) (N := 3) hx hb hts (by decide +kernel) hown hK hP 12 rfl rfl 2 (by decide) (va_Nw.use rfl nw0) (fun _ h9 => h9) rfl dX7_insertAll_15 ?_
  have hPc := hP.sub (ws' := [(uq_o, .inr (1, [.ref bm_o, .ref bs_o])), (bm_o, .inr (0, [.ref am_o])), (am_o, .inl (cJ, 64, .inr (.inl om))), (bs_o, .inr (0, [.ref ap_o])), (ap_o, .inl (cJ, 64, .inr (.inl os)))]) [18, 19, 20, 21, 22] rfl
  have hKc := hK.sub (tys' := [(cJ, .long)]) [0] rfl
  refine vp_callSi (W.runV (As := []) (rest := []) ⟨hx, hb, hml, hown, hts⟩ (c_X1_memberCount l dC dI uq_o bm_o am_o bs_o ap_o cJ om os ) (cwV 0 hts gX7_insertAll_X1_memberCount rfl rfl rfl (by decide +kernel) ⟨Nat.le_of_ble_eq_true rfl, Nat.le_of_ble_eq_true rfl⟩) ⟨fun a U g mk q => by obtain ⟨q0, qP, qK⟩ := q; exact ⟨q0, qP, va_K.moved (u := U) (U := U.calling g mk a) (Vm.Alike.refl U.vm) qK⟩, va_recv hKc hPc (ci := 1) (q0 := 0) rfl rfl, fun U hU hW => ⟨rfl, by rw [hU]; exact hPc, va_K.moved hW.alike hKc⟩⟩ rfl rfl hl.1 rfl (lv_room (Nat.le_of_ble_eq_true rfl)) dX7_insertAll_18 ⟨Nat.le_of_ble_eq_true rfl, Nat.le_of_ble_eq_true rfl⟩) (fun r_6 hw_5 => ?_)
  subst hw_5
  refine lv_istore (lv' := [(5, .int (nI (fb_ct (bo om) 4096))), (4, .ref s2), (3, .ref s1), (0, .ref q), (1, .int (nI 1)), (2, .int (nI 2))]) hx hb dX7_insertAll_21 hl (by decide) rfl (fun ls hl => ?_)
  refine lv_iload hx hb dX7_insertAll_23 (lv_at hl 0 rfl) ?_
  refine lv_bipush (v := nI 30) hx hb dX7_insertAll_25 (by decide +kernel) ?_
  refine lv_icmp_le (tgt := 40) hx hb dX7_insertAll_27 (by decide) (fun qc_7 => ?_) (fun qc_7 => ?_)
  · have c_7 : (fb_ct (bo om) 4096) ≤ 30 := (nI_leI (a := fb_ct (bo om) 4096) (b := 30) (by omega) (by omega)).mp qc_7
    exact absurd c_7 (by omega)
  · have c_7 : ¬ (fb_ct (bo om) 4096) ≤ 30 := fun h9 => qc_7 ((nI_leI (a := fb_ct (bo om) 4096) (b := 30) (by omega) (by omega)).mpr h9)
    exact vx_throwS hx hb hls (own := RX7) (cls := "java/lang/IllegalStateException") (text := "the other set has too many members") (names := ["java/lang/RuntimeException", "java/lang/Exception"]) (ik := 48) (is := 50) (ic := 52) (sa := sa) hown (by decide) (by decide) (hts (.classLink RX7 48 "java/lang/IllegalStateException") (by decide +kernel)) (hts (.initialized "java/lang/IllegalStateException") (by decide +kernel)) hT.1 (vx_hat (L := (vx_atS RX7 52 "java/lang/IllegalStateException" ["java/lang/RuntimeException", "java/lang/Exception"])) (B := [.declares (Bundle.initS tw_r), .declares (Bundle.initS tw_e), .declares (Bundle.initS Bundle.tN), .castable "java/lang/IllegalStateException" "java/lang/IllegalStateException"]) (fun w hw => hts w (List.mem_cons_of_mem _ (List.mem_append_left _ (List.mem_append_right _ hw)))) (by decide +kernel) (vx_c (va_Nw.use rfl hT.2.2.2.1) (vx_c (va_Nw.use rfl hT.2.2.2.2.1) (vx_c (va_Nw.use rfl hT.2.2.2.2.2.1) (vx_c (va_Nw.use rfl hT.2.2.2.2.2.2) vx_n))))) (List.all_eq_true.mp (by decide +kernel)) hT.2.1 hT.2.2.1 hS (by rw [hml]; exact hl.1) dX7_insertAll_30 dX7_insertAll_33 dX7_insertAll_34 dX7_insertAll_36 dX7_insertAll_39 (fun x h => (hcat x h).elim) (Nat.le_of_ble_eq_true rfl) (Nat.le_of_ble_eq_true rfl) (Nat.le_of_ble_eq_true rfl) (Nat.le_of_ble_eq_true rfl) hlocks (fun t _ h1 h2 => ⟨(), trivial, rfl, h1, fun q h3 _ => h2 q h3⟩) (fun z h => nomatch h) (Nat.le_of_ble_eq_true rfl) (Nat.le_of_ble_eq_true rfl)
set_option maxHeartbeats 4000000 in
set_option maxRecDepth 100000 in
/-- insert_n2 throws IllegalArgumentException -/
theorem x_X7_insert_n2 (l : Launch) (hls : l.stackTraces = false) (dC : Nat → ClassId) (dI : Nat → Nat → Nat) (q : Nat) (s0 : Nat) (s1 : Nat) (s2 : Nat) (w : Int32) (sa sz : Nat) (hW : isN w = false) : vx_Met l yX7_insert wsX7_insert ({ frames := 7, cells := 1, slots := 6, locals := 102 }) (va_Pc [.ref q, .int (nI 2), .int w] (fun U => U.heap.size = sz ∧ TW "java/lang/IllegalArgumentException" 153 "the number is out of range" sa (fun q => sz ≤ q) U U.heap ∧ va_P (dC, dI) vwCl [(q, .inr (6, [.ref s0, .ref s1, .ref s2]))] U.heap ∧ va_K (dC, dI) vwCl [] U ∧ va_D (fun _ => True) [(q, .inr (6, [.ref s0, .ref s1, .ref s2]))])) (va_Qv (fun _ : Unit => False) (fun _ _ => True) (fun q => sz ≤ q)) (vx_X (fun _ : Unit => True) (fun E _ _ => E = "java/lang/IllegalArgumentException") (fun q => sz ≤ q)) 1 6 (fun q => sz ≤ q) := by
  refine vx_ofW (cc := cX7_insert) (maxL := 4) (ret := (some .boolean)) (by decide) rfl ?_
  intro p e s m args below meth c s₁ B hml hcat hv
  obtain ⟨rfl, hsz, hT, hP, hK, hD⟩ := hv
  have hx := B.exec
  have hb := B.bytes
  have hr := B.returns
  have hts := atoms_spec (ws := wsX7_insert) B.pre
  have hown : s.vm.findClass RX7 = some m.cls := findClass_of_methodNamed B.named
  have hlocks := B.notSynchronized
  subst hsz
  have hS : va_S (fun q => s.heap.size ≤ q) s.heap s.heap [] := va_S.rf
  have hP : va_P (dC, dI) vwCl [(q, .inr (6, [.ref s0, .ref s1, .ref s2]))] s.heap := hP
  have hl := lv_entry ([.ref q, .int (nI 2), .int w]) (n := 4) (Nat.le_of_ble_eq_true rfl)
  rw [lg_entry_eq]
  generalize (lg_sl ([.ref q, .int (nI 2), .int w]) ++ List.replicate (4 - (lg_sl ([.ref q, .int (nI 2), .int w])).length) Slot.unset).toArray = ls at hl ⊢
  have hl : lv_has ls 4 [(0, .ref q), (1, .int (nI 2)), (2, .int w)] := hl
  refine lv_aload_n hx hb dX7_insert_0 rfl (lv_at hl 0 rfl) ?_
  refine lv_iload_n hx hb dX7_insert_1 rfl (lv_at hl 1 rfl) ?_
  have hPc := hP.sub (ws' := [(q, .inr (6, [.ref s0, .ref s1, .ref s2]))]) [0] rfl
  have hKc := hK.sub (tys' := []) [] rfl
  refine va_csr (W.runV (As := [.int (nI 2)]) (rest := []) ⟨hx, hb, hml, hown, hts⟩ (c_X7_chosenSet_2 l dC dI q s0 s1 s2 ) (cwV 1 hts gX7_insert_X7_chosenSet rfl rfl rfl (by decide +kernel) ⟨Nat.le_of_ble_eq_true rfl, Nat.le_of_ble_eq_true rfl⟩) ⟨fun a U g mk q => by obtain ⟨q0, qP, qK⟩ := q; exact ⟨q0, qP, va_K.moved (u := U) (U := U.calling g mk a) (Vm.Alike.refl U.vm) qK⟩, va_recv hKc hPc (ci := 6) (q0 := 0) rfl rfl, fun U hU hW => ⟨rfl, by rw [hU]; exact hPc, va_K.moved hW.alike hKc⟩⟩ rfl rfl hl.1 rfl (lv_room (Nat.le_of_ble_eq_true rfl)) dX7_insert_2 ⟨Nat.le_of_ble_eq_true rfl, Nat.le_of_ble_eq_true rfl⟩) (fun r_2 hw_1 => ?_)
  have hw_1 := hw_1.symm
  subst hw_1
  refine lv_astore_n (lv' := [(3, .ref s2), (0, .ref q), (1, .int (nI 2)), (2, .int w)]) hx hb dX7_insert_5 rfl hl (by decide) rfl (fun ls hl => ?_)
  refine lv_iload_n hx hb dX7_insert_6 rfl (lv_at hl 3 rfl) ?_
  have hPc := hP.sub (ws' := []) [] rfl
  have hKc := hK.sub (tys' := []) [] rfl
  have hDc := hD.sub (ws' := []) [] (by decide) rfl
  exact vx_callv (vx_runS (As := [.int w]) (rest := []) ⟨hx, hb, hml, hown, hts⟩ (x_X7_needNumber l hls dC dI w sa s.heap.size (by first | assumption | omega)) (va_cwS 1 hts gX7_insert_X7_needNumber rfl rfl rfl (by decide +kernel) ⟨Nat.le_of_ble_eq_true rfl, Nat.le_of_ble_eq_true rfl⟩) ⟨fun a U g mk q => by obtain ⟨q0, q1, qT, qP, qK, qD⟩ := q; exact ⟨q0, q1, TW.same (u := U) (U := U.calling g mk a) rfl qT, qP, va_K.moved (u := U) (U := U.calling g mk a) (Vm.Alike.refl U.vm) qK, qD⟩, fun U hU hW => ⟨rfl, by rw [hU], by rw [hU]; exact TW.warm hW hT, by rw [hU]; exact hPc, va_K.moved hW.alike hKc, hDc.weaken (fun _ _ _ _ => trivial)⟩⟩ rfl rfl hl.1 rfl (lv_room (Nat.le_of_ble_eq_true rfl)) dX7_insert_7 ⟨Nat.le_of_ble_eq_true rfl, Nat.le_of_ble_eq_true rfl⟩) hS (fun q h9 h8 => absurd h8 (Nat.not_le_of_lt h9)) (fun q h8 => Nat.le_trans hS.1 h8) (fun q h9 h8 => absurd h8 (Nat.not_le_of_lt h9)) (fun E9 ce9 q9 u9 t9 H9 l9 ht9 hvm9 hu9 hE9 hz9 hk9 hS9 hce9 hcv9 hcl9 => vx_out (fun x h => (hcat x h).elim) hlocks hce9 hcv9 hcl9 (fun t8 ht8 ha8 => ⟨(), trivial, hE9, by rw [ht8]; exact hz9, fun q h1 h2 => by rw [ht8]; exact hk9 q h1 h2⟩) hS9.2.2 (Nat.le_of_ble_eq_true rfl) (Nat.le_of_ble_eq_true rfl)) (fun u9 t9 H9 l9 ht9 hvm9 hu9 hB9 hz9 hk9 hS9 => hu9.elim)
set_option maxHeartbeats 4000000 in
set_option maxRecDepth 100000 in
/-- delete_n2 throws IllegalArgumentException -/
theorem x_X7_delete_n2 (l : Launch) (hls : l.stackTraces = false) (dC : Nat → ClassId) (dI : Nat → Nat → Nat) (q : Nat) (s0 : Nat) (s1 : Nat) (s2 : Nat) (w : Int32) (sa sz : Nat) (hW : isN w = false) : vx_Met l yX7_delete wsX7_delete ({ frames := 7, cells := 1, slots := 6, locals := 102 }) (va_Pc [.ref q, .int (nI 2), .int w] (fun U => U.heap.size = sz ∧ TW "java/lang/IllegalArgumentException" 153 "the number is out of range" sa (fun q => sz ≤ q) U U.heap ∧ va_P (dC, dI) vwCl [(q, .inr (6, [.ref s0, .ref s1, .ref s2]))] U.heap ∧ va_K (dC, dI) vwCl [] U ∧ va_D (fun _ => True) [(q, .inr (6, [.ref s0, .ref s1, .ref s2]))])) (va_Qv (fun _ : Unit => False) (fun _ _ => True) (fun q => sz ≤ q)) (vx_X (fun _ : Unit => True) (fun E _ _ => E = "java/lang/IllegalArgumentException") (fun q => sz ≤ q)) 1 6 (fun q => sz ≤ q) := by
  refine vx_ofW (cc := cX7_delete) (maxL := 4) (ret := (some .boolean)) (by decide) rfl ?_
  intro p e s m args below meth c s₁ B hml hcat hv
  obtain ⟨rfl, hsz, hT, hP, hK, hD⟩ := hv
  have hx := B.exec
  have hb := B.bytes
  have hr := B.returns
  have hts := atoms_spec (ws := wsX7_delete) B.pre
  have hown : s.vm.findClass RX7 = some m.cls := findClass_of_methodNamed B.named
  have hlocks := B.notSynchronized
  subst hsz
  have hS : va_S (fun q => s.heap.size ≤ q) s.heap s.heap [] := va_S.rf
  have hP : va_P (dC, dI) vwCl [(q, .inr (6, [.ref s0, .ref s1, .ref s2]))] s.heap := hP
  have hl := lv_entry ([.ref q, .int (nI 2), .int w]) (n := 4) (Nat.le_of_ble_eq_true rfl)
  rw [lg_entry_eq]
  generalize (lg_sl ([.ref q, .int (nI 2), .int w]) ++ List.replicate (4 - (lg_sl ([.ref q, .int (nI 2), .int w])).length) Slot.unset).toArray = ls at hl ⊢
  have hl : lv_has ls 4 [(0, .ref q), (1, .int (nI 2)), (2, .int w)] := hl
  refine lv_aload_n hx hb dX7_delete_0 rfl (lv_at hl 0 rfl) ?_
  refine lv_iload_n hx hb dX7_delete_1 rfl (lv_at hl 1 rfl) ?_
  have hPc := hP.sub (ws' := [(q, .inr (6, [.ref s0, .ref s1, .ref s2]))]) [0] rfl
  have hKc := hK.sub (tys' := []) [] rfl
  refine va_csr (W.runV (As := [.int (nI 2)]) (rest := []) ⟨hx, hb, hml, hown, hts⟩ (c_X7_chosenSet_2 l dC dI q s0 s1 s2 ) (cwV 1 hts gX7_delete_X7_chosenSet rfl rfl rfl (by decide +kernel) ⟨Nat.le_of_ble_eq_true rfl, Nat.le_of_ble_eq_true rfl⟩) ⟨fun a U g mk q => by obtain ⟨q0, qP, qK⟩ := q; exact ⟨q0, qP, va_K.moved (u := U) (U := U.calling g mk a) (Vm.Alike.refl U.vm) qK⟩, va_recv hKc hPc (ci := 6) (q0 := 0) rfl rfl, fun U hU hW => ⟨rfl, by rw [hU]; exact hPc, va_K.moved hW.alike hKc⟩⟩ rfl rfl hl.1 rfl (lv_room (Nat.le_of_ble_eq_true rfl)) dX7_delete_2 ⟨Nat.le_of_ble_eq_true rfl, Nat.le_of_ble_eq_true rfl⟩) (fun r_2 hw_1 => ?_)
  have hw_1 := hw_1.symm
  subst hw_1
  refine lv_astore_n (lv' := [(3, .ref s2), (0, .ref q), (1, .int (nI 2)), (2, .int w)]) hx hb dX7_delete_5 rfl hl (by decide) rfl (fun ls hl => ?_)
  refine lv_iload_n hx hb dX7_delete_6 rfl (lv_at hl 3 rfl) ?_
  have hPc := hP.sub (ws' := []) [] rfl
  have hKc := hK.sub (tys' := []) [] rfl
  have hDc := hD.sub (ws' := []) [] (by decide) rfl
  exact vx_callv (vx_runS (As := [.int w]) (rest := []) ⟨hx, hb, hml, hown, hts⟩ (x_X7_needNumber l hls dC dI w sa s.heap.size (by first | assumption | omega)) (va_cwS 1 hts gX7_delete_X7_needNumber rfl rfl rfl (by decide +kernel) ⟨Nat.le_of_ble_eq_true rfl, Nat.le_of_ble_eq_true rfl⟩) ⟨fun a U g mk q => by obtain ⟨q0, q1, qT, qP, qK, qD⟩ := q; exact ⟨q0, q1, TW.same (u := U) (U := U.calling g mk a) rfl qT, qP, va_K.moved (u := U) (U := U.calling g mk a) (Vm.Alike.refl U.vm) qK, qD⟩, fun U hU hW => ⟨rfl, by rw [hU], by rw [hU]; exact TW.warm hW hT, by rw [hU]; exact hPc, va_K.moved hW.alike hKc, hDc.weaken (fun _ _ _ _ => trivial)⟩⟩ rfl rfl hl.1 rfl (lv_room (Nat.le_of_ble_eq_true rfl)) dX7_delete_7 ⟨Nat.le_of_ble_eq_true rfl, Nat.le_of_ble_eq_true rfl⟩) hS (fun q h9 h8 => absurd h8 (Nat.not_le_of_lt h9)) (fun q h8 => Nat.le_trans hS.1 h8) (fun q h9 h8 => absurd h8 (Nat.not_le_of_lt h9)) (fun E9 ce9 q9 u9 t9 H9 l9 ht9 hvm9 hu9 hE9 hz9 hk9 hS9 hce9 hcv9 hcl9 => vx_out (fun x h => (hcat x h).elim) hlocks hce9 hcv9 hcl9 (fun t8 ht8 ha8 => ⟨(), trivial, hE9, by rw [ht8]; exact hz9, fun q h1 h2 => by rw [ht8]; exact hk9 q h1 h2⟩) hS9.2.2 (Nat.le_of_ble_eq_true rfl) (Nat.le_of_ble_eq_true rfl)) (fun u9 t9 H9 l9 ht9 hvm9 hu9 hB9 hz9 hk9 hS9 => hu9.elim)
set_option maxHeartbeats 4000000 in
set_option maxRecDepth 100000 in
/-- contains_n2 throws IllegalArgumentException -/
theorem x_X7_contains_n2 (l : Launch) (hls : l.stackTraces = false) (dC : Nat → ClassId) (dI : Nat → Nat → Nat) (q : Nat) (s0 : Nat) (s1 : Nat) (s2 : Nat) (w : Int32) (sa sz : Nat) (hW : isN w = false) : vx_Met l yX7_contains wsX7_contains ({ frames := 7, cells := 1, slots := 6, locals := 102 }) (va_Pc [.ref q, .int (nI 2), .int w] (fun U => U.heap.size = sz ∧ TW "java/lang/IllegalArgumentException" 153 "the number is out of range" sa (fun q => sz ≤ q) U U.heap ∧ va_P (dC, dI) vwCl [(q, .inr (6, [.ref s0, .ref s1, .ref s2]))] U.heap ∧ va_K (dC, dI) vwCl [] U ∧ va_D (fun _ => True) [(q, .inr (6, [.ref s0, .ref s1, .ref s2]))])) (va_Qv (fun _ : Unit => False) (fun _ _ => True) (fun q => sz ≤ q)) (vx_X (fun _ : Unit => True) (fun E _ _ => E = "java/lang/IllegalArgumentException") (fun q => sz ≤ q)) 1 6 (fun q => sz ≤ q) := by
  refine vx_ofW (cc := cX7_contains) (maxL := 4) (ret := (some .boolean)) (by decide) rfl ?_
  intro p e s m args below meth c s₁ B hml hcat hv
  obtain ⟨rfl, hsz, hT, hP, hK, hD⟩ := hv
  have hx := B.exec
  have hb := B.bytes
  have hr := B.returns
  have hts := atoms_spec (ws := wsX7_contains) B.pre
  have hown : s.vm.findClass RX7 = some m.cls := findClass_of_methodNamed B.named
  have hlocks := B.notSynchronized
  subst hsz
  have hS : va_S (fun q => s.heap.size ≤ q) s.heap s.heap [] := va_S.rf
  have hP : va_P (dC, dI) vwCl [(q, .inr (6, [.ref s0, .ref s1, .ref s2]))] s.heap := hP
  have hl := lv_entry ([.ref q, .int (nI 2), .int w]) (n := 4) (Nat.le_of_ble_eq_true rfl)
  rw [lg_entry_eq]
  generalize (lg_sl ([.ref q, .int (nI 2), .int w]) ++ List.replicate (4 - (lg_sl ([.ref q, .int (nI 2), .int w])).length) Slot.unset).toArray = ls at hl ⊢
  have hl : lv_has ls 4 [(0, .ref q), (1, .int (nI 2)), (2, .int w)] := hl
  refine lv_aload_n hx hb dX7_contains_0 rfl (lv_at hl 0 rfl) ?_
  refine lv_iload_n hx hb dX7_contains_1 rfl (lv_at hl 1 rfl) ?_
  have hPc := hP.sub (ws' := [(q, .inr (6, [.ref s0, .ref s1, .ref s2]))]) [0] rfl
  have hKc := hK.sub (tys' := []) [] rfl
  refine va_csr (W.runV (As := [.int (nI 2)]) (rest := []) ⟨hx, hb, hml, hown, hts⟩ (c_X7_chosenSet_2 l dC dI q s0 s1 s2 ) (cwV 1 hts gX7_contains_X7_chosenSet rfl rfl rfl (by decide +kernel) ⟨Nat.le_of_ble_eq_true rfl, Nat.le_of_ble_eq_true rfl⟩) ⟨fun a U g mk q => by obtain ⟨q0, qP, qK⟩ := q; exact ⟨q0, qP, va_K.moved (u := U) (U := U.calling g mk a) (Vm.Alike.refl U.vm) qK⟩, va_recv hKc hPc (ci := 6) (q0 := 0) rfl rfl, fun U hU hW => ⟨rfl, by rw [hU]; exact hPc, va_K.moved hW.alike hKc⟩⟩ rfl rfl hl.1 rfl (lv_room (Nat.le_of_ble_eq_true rfl)) dX7_contains_2 ⟨Nat.le_of_ble_eq_true rfl, Nat.le_of_ble_eq_true rfl⟩) (fun r_2 hw_1 => ?_)
  have hw_1 := hw_1.symm
  subst hw_1
  refine lv_astore_n (lv' := [(3, .ref s2), (0, .ref q), (1, .int (nI 2)), (2, .int w)]) hx hb dX7_contains_5 rfl hl (by decide) rfl (fun ls hl => ?_)
  refine lv_iload_n hx hb dX7_contains_6 rfl (lv_at hl 3 rfl) ?_
  have hPc := hP.sub (ws' := []) [] rfl
  have hKc := hK.sub (tys' := []) [] rfl
  have hDc := hD.sub (ws' := []) [] (by decide) rfl
  exact vx_callv (vx_runS (As := [.int w]) (rest := []) ⟨hx, hb, hml, hown, hts⟩ (x_X7_needNumber l hls dC dI w sa s.heap.size (by first | assumption | omega)) (va_cwS 1 hts gX7_contains_X7_needNumber rfl rfl rfl (by decide +kernel) ⟨Nat.le_of_ble_eq_true rfl, Nat.le_of_ble_eq_true rfl⟩) ⟨fun a U g mk q => by obtain ⟨q0, q1, qT, qP, qK, qD⟩ := q; exact ⟨q0, q1, TW.same (u := U) (U := U.calling g mk a) rfl qT, qP, va_K.moved (u := U) (U := U.calling g mk a) (Vm.Alike.refl U.vm) qK, qD⟩, fun U hU hW => ⟨rfl, by rw [hU], by rw [hU]; exact TW.warm hW hT, by rw [hU]; exact hPc, va_K.moved hW.alike hKc, hDc.weaken (fun _ _ _ _ => trivial)⟩⟩ rfl rfl hl.1 rfl (lv_room (Nat.le_of_ble_eq_true rfl)) dX7_contains_7 ⟨Nat.le_of_ble_eq_true rfl, Nat.le_of_ble_eq_true rfl⟩) hS (fun q h9 h8 => absurd h8 (Nat.not_le_of_lt h9)) (fun q h8 => Nat.le_trans hS.1 h8) (fun q h9 h8 => absurd h8 (Nat.not_le_of_lt h9)) (fun E9 ce9 q9 u9 t9 H9 l9 ht9 hvm9 hu9 hE9 hz9 hk9 hS9 hce9 hcv9 hcl9 => vx_out (fun x h => (hcat x h).elim) hlocks hce9 hcv9 hcl9 (fun t8 ht8 ha8 => ⟨(), trivial, hE9, by rw [ht8]; exact hz9, fun q h1 h2 => by rw [ht8]; exact hk9 q h1 h2⟩) hS9.2.2 (Nat.le_of_ble_eq_true rfl) (Nat.le_of_ble_eq_true rfl)) (fun u9 t9 H9 l9 ht9 hvm9 hu9 hB9 hz9 hk9 hS9 => hu9.elim)
set_option maxHeartbeats 4000000 in
set_option maxRecDepth 100000 in
/-- successor_n2 throws IllegalArgumentException -/
theorem x_X7_successor_n2 (l : Launch) (hls : l.stackTraces = false) (dC : Nat → ClassId) (dI : Nat → Nat → Nat) (q : Nat) (s0 : Nat) (s1 : Nat) (s2 : Nat) (w : Int32) (sa sz : Nat) (hW : isN w = false) : vx_Met l yX7_successor wsX7_successor ({ frames := 7, cells := 1, slots := 6, locals := 102 }) (va_Pc [.ref q, .int (nI 2), .int w] (fun U => U.heap.size = sz ∧ TW "java/lang/IllegalArgumentException" 153 "the number is out of range" sa (fun q => sz ≤ q) U U.heap ∧ va_P (dC, dI) vwCl [(q, .inr (6, [.ref s0, .ref s1, .ref s2]))] U.heap ∧ va_K (dC, dI) vwCl [] U ∧ va_D (fun _ => True) [(q, .inr (6, [.ref s0, .ref s1, .ref s2]))])) (va_Qv (fun _ : Unit => False) (fun _ _ => True) (fun q => sz ≤ q)) (vx_X (fun _ : Unit => True) (fun E _ _ => E = "java/lang/IllegalArgumentException") (fun q => sz ≤ q)) 1 6 (fun q => sz ≤ q) := by
  refine vx_ofW (cc := cX7_successor) (maxL := 4) (ret := (some .int)) (by decide) rfl ?_
  intro p e s m args below meth c s₁ B hml hcat hv
  obtain ⟨rfl, hsz, hT, hP, hK, hD⟩ := hv
  have hx := B.exec
  have hb := B.bytes
  have hr := B.returns
  have hts := atoms_spec (ws := wsX7_successor) B.pre
  have hown : s.vm.findClass RX7 = some m.cls := findClass_of_methodNamed B.named
  have hlocks := B.notSynchronized
  subst hsz
  have hS : va_S (fun q => s.heap.size ≤ q) s.heap s.heap [] := va_S.rf
  have hP : va_P (dC, dI) vwCl [(q, .inr (6, [.ref s0, .ref s1, .ref s2]))] s.heap := hP
  have hl := lv_entry ([.ref q, .int (nI 2), .int w]) (n := 4) (Nat.le_of_ble_eq_true rfl)
  rw [lg_entry_eq]
  generalize (lg_sl ([.ref q, .int (nI 2), .int w]) ++ List.replicate (4 - (lg_sl ([.ref q, .int (nI 2), .int w])).length) Slot.unset).toArray = ls at hl ⊢
  have hl : lv_has ls 4 [(0, .ref q), (1, .int (nI 2)), (2, .int w)] := hl
  refine lv_aload_n hx hb dX7_successor_0 rfl (lv_at hl 0 rfl) ?_
  refine lv_iload_n hx hb dX7_successor_1 rfl (lv_at hl 1 rfl) ?_
  have hPc := hP.sub (ws' := [(q, .inr (6, [.ref s0, .ref s1, .ref s2]))]) [0] rfl
  have hKc := hK.sub (tys' := []) [] rfl
  refine va_csr (W.runV (As := [.int (nI 2)]) (rest := []) ⟨hx, hb, hml, hown, hts⟩ (c_X7_chosenSet_2 l dC dI q s0 s1 s2 ) (cwV 1 hts gX7_successor_X7_chosenSet rfl rfl rfl (by decide +kernel) ⟨Nat.le_of_ble_eq_true rfl, Nat.le_of_ble_eq_true rfl⟩) ⟨fun a U g mk q => by obtain ⟨q0, qP, qK⟩ := q; exact ⟨q0, qP, va_K.moved (u := U) (U := U.calling g mk a) (Vm.Alike.refl U.vm) qK⟩, va_recv hKc hPc (ci := 6) (q0 := 0) rfl rfl, fun U hU hW => ⟨rfl, by rw [hU]; exact hPc, va_K.moved hW.alike hKc⟩⟩ rfl rfl hl.1 rfl (lv_room (Nat.le_of_ble_eq_true rfl)) dX7_successor_2 ⟨Nat.le_of_ble_eq_true rfl, Nat.le_of_ble_eq_true rfl⟩) (fun r_2 hw_1 => ?_)
  have hw_1 := hw_1.symm
  subst hw_1
  refine lv_astore_n (lv' := [(3, .ref s2), (0, .ref q), (1, .int (nI 2)), (2, .int w)]) hx hb dX7_successor_5 rfl hl (by decide) rfl (fun ls hl => ?_)
  refine lv_iload_n hx hb dX7_successor_6 rfl (lv_at hl 3 rfl) ?_
  have hPc := hP.sub (ws' := []) [] rfl
  have hKc := hK.sub (tys' := []) [] rfl
  have hDc := hD.sub (ws' := []) [] (by decide) rfl
  exact vx_callv (vx_runS (As := [.int w]) (rest := []) ⟨hx, hb, hml, hown, hts⟩ (x_X7_needNumber l hls dC dI w sa s.heap.size (by first | assumption | omega)) (va_cwS 1 hts gX7_successor_X7_needNumber rfl rfl rfl (by decide +kernel) ⟨Nat.le_of_ble_eq_true rfl, Nat.le_of_ble_eq_true rfl⟩) ⟨fun a U g mk q => by obtain ⟨q0, q1, qT, qP, qK, qD⟩ := q; exact ⟨q0, q1, TW.same (u := U) (U := U.calling g mk a) rfl qT, qP, va_K.moved (u := U) (U := U.calling g mk a) (Vm.Alike.refl U.vm) qK, qD⟩, fun U hU hW => ⟨rfl, by rw [hU], by rw [hU]; exact TW.warm hW hT, by rw [hU]; exact hPc, va_K.moved hW.alike hKc, hDc.weaken (fun _ _ _ _ => trivial)⟩⟩ rfl rfl hl.1 rfl (lv_room (Nat.le_of_ble_eq_true rfl)) dX7_successor_7 ⟨Nat.le_of_ble_eq_true rfl, Nat.le_of_ble_eq_true rfl⟩) hS (fun q h9 h8 => absurd h8 (Nat.not_le_of_lt h9)) (fun q h8 => Nat.le_trans hS.1 h8) (fun q h9 h8 => absurd h8 (Nat.not_le_of_lt h9)) (fun E9 ce9 q9 u9 t9 H9 l9 ht9 hvm9 hu9 hE9 hz9 hk9 hS9 hce9 hcv9 hcl9 => vx_out (fun x h => (hcat x h).elim) hlocks hce9 hcv9 hcl9 (fun t8 ht8 ha8 => ⟨(), trivial, hE9, by rw [ht8]; exact hz9, fun q h1 h2 => by rw [ht8]; exact hk9 q h1 h2⟩) hS9.2.2 (Nat.le_of_ble_eq_true rfl) (Nat.le_of_ble_eq_true rfl)) (fun u9 t9 H9 l9 ht9 hvm9 hu9 hB9 hz9 hk9 hS9 => hu9.elim)
set_option maxHeartbeats 4000000 in
set_option maxRecDepth 100000 in
/-- predecessor_n2 throws IllegalArgumentException -/
theorem x_X7_predecessor_n2 (l : Launch) (hls : l.stackTraces = false) (dC : Nat → ClassId) (dI : Nat → Nat → Nat) (q : Nat) (s0 : Nat) (s1 : Nat) (s2 : Nat) (w : Int32) (sa sz : Nat) (hW : isN w = false) : vx_Met l yX7_predecessor wsX7_predecessor ({ frames := 7, cells := 1, slots := 6, locals := 102 }) (va_Pc [.ref q, .int (nI 2), .int w] (fun U => U.heap.size = sz ∧ TW "java/lang/IllegalArgumentException" 153 "the number is out of range" sa (fun q => sz ≤ q) U U.heap ∧ va_P (dC, dI) vwCl [(q, .inr (6, [.ref s0, .ref s1, .ref s2]))] U.heap ∧ va_K (dC, dI) vwCl [] U ∧ va_D (fun _ => True) [(q, .inr (6, [.ref s0, .ref s1, .ref s2]))])) (va_Qv (fun _ : Unit => False) (fun _ _ => True) (fun q => sz ≤ q)) (vx_X (fun _ : Unit => True) (fun E _ _ => E = "java/lang/IllegalArgumentException") (fun q => sz ≤ q)) 1 6 (fun q => sz ≤ q) := by
  refine vx_ofW (cc := cX7_predecessor) (maxL := 4) (ret := (some .int)) (by decide) rfl ?_
  intro p e s m args below meth c s₁ B hml hcat hv
  obtain ⟨rfl, hsz, hT, hP, hK, hD⟩ := hv
  have hx := B.exec
  have hb := B.bytes
  have hr := B.returns
  have hts := atoms_spec (ws := wsX7_predecessor) B.pre
  have hown : s.vm.findClass RX7 = some m.cls := findClass_of_methodNamed B.named
  have hlocks := B.notSynchronized
  subst hsz
  have hS : va_S (fun q => s.heap.size ≤ q) s.heap s.heap [] := va_S.rf
  have hP : va_P (dC, dI) vwCl [(q, .inr (6, [.ref s0, .ref s1, .ref s2]))] s.heap := hP
  have hl := lv_entry ([.ref q, .int (nI 2), .int w]) (n := 4) (Nat.le_of_ble_eq_true rfl)
  rw [lg_entry_eq]
  generalize (lg_sl ([.ref q, .int (nI 2), .int w]) ++ List.replicate (4 - (lg_sl ([.ref q, .int (nI 2), .int w])).length) Slot.unset).toArray = ls at hl ⊢
  have hl : lv_has ls 4 [(0, .ref q), (1, .int (nI 2)), (2, .int w)] := hl
  refine lv_aload_n hx hb dX7_predecessor_0 rfl (lv_at hl 0 rfl) ?_
  refine lv_iload_n hx hb dX7_predecessor_1 rfl (lv_at hl 1 rfl) ?_
  have hPc := hP.sub (ws' := [(q, .inr (6, [.ref s0, .ref s1, .ref s2]))]) [0] rfl
  have hKc := hK.sub (tys' := []) [] rfl
  refine va_csr (W.runV (As := [.int (nI 2)]) (rest := []) ⟨hx, hb, hml, hown, hts⟩ (c_X7_chosenSet_2 l dC dI q s0 s1 s2 ) (cwV 1 hts gX7_predecessor_X7_chosenSet rfl rfl rfl (by decide +kernel) ⟨Nat.le_of_ble_eq_true rfl, Nat.le_of_ble_eq_true rfl⟩) ⟨fun a U g mk q => by obtain ⟨q0, qP, qK⟩ := q; exact ⟨q0, qP, va_K.moved (u := U) (U := U.calling g mk a) (Vm.Alike.refl U.vm) qK⟩, va_recv hKc hPc (ci := 6) (q0 := 0) rfl rfl, fun U hU hW => ⟨rfl, by rw [hU]; exact hPc, va_K.moved hW.alike hKc⟩⟩ rfl rfl hl.1 rfl (lv_room (Nat.le_of_ble_eq_true rfl)) dX7_predecessor_2 ⟨Nat.le_of_ble_eq_true rfl, Nat.le_of_ble_eq_true rfl⟩) (fun r_2 hw_1 => ?_)
  have hw_1 := hw_1.symm
  subst hw_1
  refine lv_astore_n (lv' := [(3, .ref s2), (0, .ref q), (1, .int (nI 2)), (2, .int w)]) hx hb dX7_predecessor_5 rfl hl (by decide) rfl (fun ls hl => ?_)
  refine lv_iload_n hx hb dX7_predecessor_6 rfl (lv_at hl 3 rfl) ?_
  have hPc := hP.sub (ws' := []) [] rfl
  have hKc := hK.sub (tys' := []) [] rfl
  have hDc := hD.sub (ws' := []) [] (by decide) rfl
  exact vx_callv (vx_runS (As := [.int w]) (rest := []) ⟨hx, hb, hml, hown, hts⟩ (x_X7_needNumber l hls dC dI w sa s.heap.size (by first | assumption | omega)) (va_cwS 1 hts gX7_predecessor_X7_needNumber rfl rfl rfl (by decide +kernel) ⟨Nat.le_of_ble_eq_true rfl, Nat.le_of_ble_eq_true rfl⟩) ⟨fun a U g mk q => by obtain ⟨q0, q1, qT, qP, qK, qD⟩ := q; exact ⟨q0, q1, TW.same (u := U) (U := U.calling g mk a) rfl qT, qP, va_K.moved (u := U) (U := U.calling g mk a) (Vm.Alike.refl U.vm) qK, qD⟩, fun U hU hW => ⟨rfl, by rw [hU], by rw [hU]; exact TW.warm hW hT, by rw [hU]; exact hPc, va_K.moved hW.alike hKc, hDc.weaken (fun _ _ _ _ => trivial)⟩⟩ rfl rfl hl.1 rfl (lv_room (Nat.le_of_ble_eq_true rfl)) dX7_predecessor_7 ⟨Nat.le_of_ble_eq_true rfl, Nat.le_of_ble_eq_true rfl⟩) hS (fun q h9 h8 => absurd h8 (Nat.not_le_of_lt h9)) (fun q h8 => Nat.le_trans hS.1 h8) (fun q h9 h8 => absurd h8 (Nat.not_le_of_lt h9)) (fun E9 ce9 q9 u9 t9 H9 l9 ht9 hvm9 hu9 hE9 hz9 hk9 hS9 hce9 hcv9 hcl9 => vx_out (fun x h => (hcat x h).elim) hlocks hce9 hcv9 hcl9 (fun t8 ht8 ha8 => ⟨(), trivial, hE9, by rw [ht8]; exact hz9, fun q h1 h2 => by rw [ht8]; exact hk9 q h1 h2⟩) hS9.2.2 (Nat.le_of_ble_eq_true rfl) (Nat.le_of_ble_eq_true rfl)) (fun u9 t9 H9 l9 ht9 hvm9 hu9 hB9 hz9 hk9 hS9 => hu9.elim)
set_option maxHeartbeats 4000000 in
set_option maxRecDepth 100000 in
/-- rank_n2 throws IllegalArgumentException -/
theorem x_X7_rank_n2 (l : Launch) (hls : l.stackTraces = false) (dC : Nat → ClassId) (dI : Nat → Nat → Nat) (q : Nat) (s0 : Nat) (s1 : Nat) (s2 : Nat) (w : Int32) (sa sz : Nat) (hW : isN w = false) : vx_Met l yX7_rank wsX7_rank ({ frames := 7, cells := 1, slots := 6, locals := 102 }) (va_Pc [.ref q, .int (nI 2), .int w] (fun U => U.heap.size = sz ∧ TW "java/lang/IllegalArgumentException" 153 "the number is out of range" sa (fun q => sz ≤ q) U U.heap ∧ va_P (dC, dI) vwCl [(q, .inr (6, [.ref s0, .ref s1, .ref s2]))] U.heap ∧ va_K (dC, dI) vwCl [] U ∧ va_D (fun _ => True) [(q, .inr (6, [.ref s0, .ref s1, .ref s2]))])) (va_Qv (fun _ : Unit => False) (fun _ _ => True) (fun q => sz ≤ q)) (vx_X (fun _ : Unit => True) (fun E _ _ => E = "java/lang/IllegalArgumentException") (fun q => sz ≤ q)) 1 6 (fun q => sz ≤ q) := by
  refine vx_ofW (cc := cX7_rank) (maxL := 4) (ret := (some .int)) (by decide) rfl ?_
  intro p e s m args below meth c s₁ B hml hcat hv
  obtain ⟨rfl, hsz, hT, hP, hK, hD⟩ := hv
  have hx := B.exec
  have hb := B.bytes
  have hr := B.returns
  have hts := atoms_spec (ws := wsX7_rank) B.pre
  have hown : s.vm.findClass RX7 = some m.cls := findClass_of_methodNamed B.named
  have hlocks := B.notSynchronized
  subst hsz
  have hS : va_S (fun q => s.heap.size ≤ q) s.heap s.heap [] := va_S.rf
  have hP : va_P (dC, dI) vwCl [(q, .inr (6, [.ref s0, .ref s1, .ref s2]))] s.heap := hP
  have hl := lv_entry ([.ref q, .int (nI 2), .int w]) (n := 4) (Nat.le_of_ble_eq_true rfl)
  rw [lg_entry_eq]
  generalize (lg_sl ([.ref q, .int (nI 2), .int w]) ++ List.replicate (4 - (lg_sl ([.ref q, .int (nI 2), .int w])).length) Slot.unset).toArray = ls at hl ⊢
  have hl : lv_has ls 4 [(0, .ref q), (1, .int (nI 2)), (2, .int w)] := hl
  refine lv_aload_n hx hb dX7_rank_0 rfl (lv_at hl 0 rfl) ?_
  refine lv_iload_n hx hb dX7_rank_1 rfl (lv_at hl 1 rfl) ?_
  have hPc := hP.sub (ws' := [(q, .inr (6, [.ref s0, .ref s1, .ref s2]))]) [0] rfl
  have hKc := hK.sub (tys' := []) [] rfl
  refine va_csr (W.runV (As := [.int (nI 2)]) (rest := []) ⟨hx, hb, hml, hown, hts⟩ (c_X7_chosenSet_2 l dC dI q s0 s1 s2 ) (cwV 1 hts gX7_rank_X7_chosenSet rfl rfl rfl (by decide +kernel) ⟨Nat.le_of_ble_eq_true rfl, Nat.le_of_ble_eq_true rfl⟩) ⟨fun a U g mk q => by obtain ⟨q0, qP, qK⟩ := q; exact ⟨q0, qP, va_K.moved (u := U) (U := U.calling g mk a) (Vm.Alike.refl U.vm) qK⟩, va_recv hKc hPc (ci := 6) (q0 := 0) rfl rfl, fun U hU hW => ⟨rfl, by rw [hU]; exact hPc, va_K.moved hW.alike hKc⟩⟩ rfl rfl hl.1 rfl (lv_room (Nat.le_of_ble_eq_true rfl)) dX7_rank_2 ⟨Nat.le_of_ble_eq_true rfl, Nat.le_of_ble_eq_true rfl⟩) (fun r_2 hw_1 => ?_)
  have hw_1 := hw_1.symm
  subst hw_1
  refine lv_astore_n (lv' := [(3, .ref s2), (0, .ref q), (1, .int (nI 2)), (2, .int w)]) hx hb dX7_rank_5 rfl hl (by decide) rfl (fun ls hl => ?_)
  refine lv_iload_n hx hb dX7_rank_6 rfl (lv_at hl 3 rfl) ?_
  have hPc := hP.sub (ws' := []) [] rfl
  have hKc := hK.sub (tys' := []) [] rfl
  have hDc := hD.sub (ws' := []) [] (by decide) rfl
  exact vx_callv (vx_runS (As := [.int w]) (rest := []) ⟨hx, hb, hml, hown, hts⟩ (x_X7_needNumber l hls dC dI w sa s.heap.size (by first | assumption | omega)) (va_cwS 1 hts gX7_rank_X7_needNumber rfl rfl rfl (by decide +kernel) ⟨Nat.le_of_ble_eq_true rfl, Nat.le_of_ble_eq_true rfl⟩) ⟨fun a U g mk q => by obtain ⟨q0, q1, qT, qP, qK, qD⟩ := q; exact ⟨q0, q1, TW.same (u := U) (U := U.calling g mk a) rfl qT, qP, va_K.moved (u := U) (U := U.calling g mk a) (Vm.Alike.refl U.vm) qK, qD⟩, fun U hU hW => ⟨rfl, by rw [hU], by rw [hU]; exact TW.warm hW hT, by rw [hU]; exact hPc, va_K.moved hW.alike hKc, hDc.weaken (fun _ _ _ _ => trivial)⟩⟩ rfl rfl hl.1 rfl (lv_room (Nat.le_of_ble_eq_true rfl)) dX7_rank_7 ⟨Nat.le_of_ble_eq_true rfl, Nat.le_of_ble_eq_true rfl⟩) hS (fun q h9 h8 => absurd h8 (Nat.not_le_of_lt h9)) (fun q h8 => Nat.le_trans hS.1 h8) (fun q h9 h8 => absurd h8 (Nat.not_le_of_lt h9)) (fun E9 ce9 q9 u9 t9 H9 l9 ht9 hvm9 hu9 hE9 hz9 hk9 hS9 hce9 hcv9 hcl9 => vx_out (fun x h => (hcat x h).elim) hlocks hce9 hcv9 hcl9 (fun t8 ht8 ha8 => ⟨(), trivial, hE9, by rw [ht8]; exact hz9, fun q h1 h2 => by rw [ht8]; exact hk9 q h1 h2⟩) hS9.2.2 (Nat.le_of_ble_eq_true rfl) (Nat.le_of_ble_eq_true rfl)) (fun u9 t9 H9 l9 ht9 hvm9 hu9 hB9 hz9 hk9 hS9 => hu9.elim)
set_option maxHeartbeats 4000000 in
set_option maxRecDepth 100000 in
/-- steps_n2 throws IllegalArgumentException -/
theorem x_X7_steps_n2 (l : Launch) (hls : l.stackTraces = false) (dC : Nat → ClassId) (dI : Nat → Nat → Nat) (q : Nat) (s0 : Nat) (s1 : Nat) (s2 : Nat) (w : Int32) (sa sz : Nat) (hW : isN w = false) : vx_Met l yX7_steps wsX7_steps ({ frames := 7, cells := 1, slots := 6, locals := 102 }) (va_Pc [.ref q, .int (nI 2), .int w] (fun U => U.heap.size = sz ∧ TW "java/lang/IllegalArgumentException" 153 "the number is out of range" sa (fun q => sz ≤ q) U U.heap ∧ va_P (dC, dI) vwCl [(q, .inr (6, [.ref s0, .ref s1, .ref s2]))] U.heap ∧ va_K (dC, dI) vwCl [] U ∧ va_D (fun _ => True) [(q, .inr (6, [.ref s0, .ref s1, .ref s2]))])) (va_Qv (fun _ : Unit => False) (fun _ _ => True) (fun q => sz ≤ q)) (vx_X (fun _ : Unit => True) (fun E _ _ => E = "java/lang/IllegalArgumentException") (fun q => sz ≤ q)) 1 6 (fun q => sz ≤ q) := by
  refine vx_ofW (cc := cX7_steps) (maxL := 4) (ret := (some .int)) (by decide) rfl ?_
  intro p e s m args below meth c s₁ B hml hcat hv
  obtain ⟨rfl, hsz, hT, hP, hK, hD⟩ := hv
  have hx := B.exec
  have hb := B.bytes
  have hr := B.returns
  have hts := atoms_spec (ws := wsX7_steps) B.pre
  have hown : s.vm.findClass RX7 = some m.cls := findClass_of_methodNamed B.named
  have hlocks := B.notSynchronized
  subst hsz
  have hS : va_S (fun q => s.heap.size ≤ q) s.heap s.heap [] := va_S.rf
  have hP : va_P (dC, dI) vwCl [(q, .inr (6, [.ref s0, .ref s1, .ref s2]))] s.heap := hP
  have hl := lv_entry ([.ref q, .int (nI 2), .int w]) (n := 4) (Nat.le_of_ble_eq_true rfl)
  rw [lg_entry_eq]
  generalize (lg_sl ([.ref q, .int (nI 2), .int w]) ++ List.replicate (4 - (lg_sl ([.ref q, .int (nI 2), .int w])).length) Slot.unset).toArray = ls at hl ⊢
  have hl : lv_has ls 4 [(0, .ref q), (1, .int (nI 2)), (2, .int w)] := hl
  refine lv_aload_n hx hb dX7_steps_0 rfl (lv_at hl 0 rfl) ?_
  refine lv_iload_n hx hb dX7_steps_1 rfl (lv_at hl 1 rfl) ?_
  have hPc := hP.sub (ws' := [(q, .inr (6, [.ref s0, .ref s1, .ref s2]))]) [0] rfl
  have hKc := hK.sub (tys' := []) [] rfl
  refine va_csr (W.runV (As := [.int (nI 2)]) (rest := []) ⟨hx, hb, hml, hown, hts⟩ (c_X7_chosenSet_2 l dC dI q s0 s1 s2 ) (cwV 1 hts gX7_steps_X7_chosenSet rfl rfl rfl (by decide +kernel) ⟨Nat.le_of_ble_eq_true rfl, Nat.le_of_ble_eq_true rfl⟩) ⟨fun a U g mk q => by obtain ⟨q0, qP, qK⟩ := q; exact ⟨q0, qP, va_K.moved (u := U) (U := U.calling g mk a) (Vm.Alike.refl U.vm) qK⟩, va_recv hKc hPc (ci := 6) (q0 := 0) rfl rfl, fun U hU hW => ⟨rfl, by rw [hU]; exact hPc, va_K.moved hW.alike hKc⟩⟩ rfl rfl hl.1 rfl (lv_room (Nat.le_of_ble_eq_true rfl)) dX7_steps_2 ⟨Nat.le_of_ble_eq_true rfl, Nat.le_of_ble_eq_true rfl⟩) (fun r_2 hw_1 => ?_)
  have hw_1 := hw_1.symm
  subst hw_1
  refine lv_astore_n (lv' := [(3, .ref s2), (0, .ref q), (1, .int (nI 2)), (2, .int w)]) hx hb dX7_steps_5 rfl hl (by decide) rfl (fun ls hl => ?_)
  refine lv_iload_n hx hb dX7_steps_6 rfl (lv_at hl 3 rfl) ?_
  have hPc := hP.sub (ws' := []) [] rfl
  have hKc := hK.sub (tys' := []) [] rfl
  have hDc := hD.sub (ws' := []) [] (by decide) rfl
  exact vx_callv (vx_runS (As := [.int w]) (rest := []) ⟨hx, hb, hml, hown, hts⟩ (x_X7_needNumber l hls dC dI w sa s.heap.size (by first | assumption | omega)) (va_cwS 1 hts gX7_steps_X7_needNumber rfl rfl rfl (by decide +kernel) ⟨Nat.le_of_ble_eq_true rfl, Nat.le_of_ble_eq_true rfl⟩) ⟨fun a U g mk q => by obtain ⟨q0, q1, qT, qP, qK, qD⟩ := q; exact ⟨q0, q1, TW.same (u := U) (U := U.calling g mk a) rfl qT, qP, va_K.moved (u := U) (U := U.calling g mk a) (Vm.Alike.refl U.vm) qK, qD⟩, fun U hU hW => ⟨rfl, by rw [hU], by rw [hU]; exact TW.warm hW hT, by rw [hU]; exact hPc, va_K.moved hW.alike hKc, hDc.weaken (fun _ _ _ _ => trivial)⟩⟩ rfl rfl hl.1 rfl (lv_room (Nat.le_of_ble_eq_true rfl)) dX7_steps_7 ⟨Nat.le_of_ble_eq_true rfl, Nat.le_of_ble_eq_true rfl⟩) hS (fun q h9 h8 => absurd h8 (Nat.not_le_of_lt h9)) (fun q h8 => Nat.le_trans hS.1 h8) (fun q h9 h8 => absurd h8 (Nat.not_le_of_lt h9)) (fun E9 ce9 q9 u9 t9 H9 l9 ht9 hvm9 hu9 hE9 hz9 hk9 hS9 hce9 hcv9 hcl9 => vx_out (fun x h => (hcat x h).elim) hlocks hce9 hcv9 hcl9 (fun t8 ht8 ha8 => ⟨(), trivial, hE9, by rw [ht8]; exact hz9, fun q h1 h2 => by rw [ht8]; exact hk9 q h1 h2⟩) hS9.2.2 (Nat.le_of_ble_eq_true rfl) (Nat.le_of_ble_eq_true rfl)) (fun u9 t9 H9 l9 ht9 hvm9 hu9 hB9 hz9 hk9 hS9 => hu9.elim)
set_option maxHeartbeats 4000000 in
set_option maxRecDepth 100000 in
/-- longestMatch_n2 throws IllegalArgumentException -/
theorem x_X7_longestMatch_n2 (l : Launch) (hls : l.stackTraces = false) (dC : Nat → ClassId) (dI : Nat → Nat → Nat) (q : Nat) (s0 : Nat) (s1 : Nat) (s2 : Nat) (w : Int32) (sa sz : Nat) (hW : isN w = false) : vx_Met l yX7_longestMatch wsX7_longestMatch ({ frames := 7, cells := 1, slots := 6, locals := 102 }) (va_Pc [.ref q, .int (nI 2), .int w] (fun U => U.heap.size = sz ∧ TW "java/lang/IllegalArgumentException" 153 "the number is out of range" sa (fun q => sz ≤ q) U U.heap ∧ va_P (dC, dI) vwCl [(q, .inr (6, [.ref s0, .ref s1, .ref s2]))] U.heap ∧ va_K (dC, dI) vwCl [] U ∧ va_D (fun _ => True) [(q, .inr (6, [.ref s0, .ref s1, .ref s2]))])) (va_Qv (fun _ : Unit => False) (fun _ _ => True) (fun q => sz ≤ q)) (vx_X (fun _ : Unit => True) (fun E _ _ => E = "java/lang/IllegalArgumentException") (fun q => sz ≤ q)) 1 6 (fun q => sz ≤ q) := by
  refine vx_ofW (cc := cX7_longestMatch) (maxL := 4) (ret := (some .int)) (by decide) rfl ?_
  intro p e s m args below meth c s₁ B hml hcat hv
  obtain ⟨rfl, hsz, hT, hP, hK, hD⟩ := hv
  have hx := B.exec
  have hb := B.bytes
  have hr := B.returns
  have hts := atoms_spec (ws := wsX7_longestMatch) B.pre
  have hown : s.vm.findClass RX7 = some m.cls := findClass_of_methodNamed B.named
  have hlocks := B.notSynchronized
  subst hsz
  have hS : va_S (fun q => s.heap.size ≤ q) s.heap s.heap [] := va_S.rf
  have hP : va_P (dC, dI) vwCl [(q, .inr (6, [.ref s0, .ref s1, .ref s2]))] s.heap := hP
  have hl := lv_entry ([.ref q, .int (nI 2), .int w]) (n := 4) (Nat.le_of_ble_eq_true rfl)
  rw [lg_entry_eq]
  generalize (lg_sl ([.ref q, .int (nI 2), .int w]) ++ List.replicate (4 - (lg_sl ([.ref q, .int (nI 2), .int w])).length) Slot.unset).toArray = ls at hl ⊢
  have hl : lv_has ls 4 [(0, .ref q), (1, .int (nI 2)), (2, .int w)] := hl
  refine lv_aload_n hx hb dX7_longestMatch_0 rfl (lv_at hl 0 rfl) ?_
  refine lv_iload_n hx hb dX7_longestMatch_1 rfl (lv_at hl 1 rfl) ?_
  have hPc := hP.sub (ws' := [(q, .inr (6, [.ref s0, .ref s1, .ref s2]))]) [0] rfl
  have hKc := hK.sub (tys' := []) [] rfl
  refine va_csr (W.runV (As := [.int (nI 2)]) (rest := []) ⟨hx, hb, hml, hown, hts⟩ (c_X7_chosenSet_2 l dC dI q s0 s1 s2 ) (cwV 1 hts gX7_longestMatch_X7_chosenSet rfl rfl rfl (by decide +kernel) ⟨Nat.le_of_ble_eq_true rfl, Nat.le_of_ble_eq_true rfl⟩) ⟨fun a U g mk q => by obtain ⟨q0, qP, qK⟩ := q; exact ⟨q0, qP, va_K.moved (u := U) (U := U.calling g mk a) (Vm.Alike.refl U.vm) qK⟩, va_recv hKc hPc (ci := 6) (q0 := 0) rfl rfl, fun U hU hW => ⟨rfl, by rw [hU]; exact hPc, va_K.moved hW.alike hKc⟩⟩ rfl rfl hl.1 rfl (lv_room (Nat.le_of_ble_eq_true rfl)) dX7_longestMatch_2 ⟨Nat.le_of_ble_eq_true rfl, Nat.le_of_ble_eq_true rfl⟩) (fun r_2 hw_1 => ?_)
  have hw_1 := hw_1.symm
  subst hw_1
  refine lv_astore_n (lv' := [(3, .ref s2), (0, .ref q), (1, .int (nI 2)), (2, .int w)]) hx hb dX7_longestMatch_5 rfl hl (by decide) rfl (fun ls hl => ?_)
  refine lv_iload_n hx hb dX7_longestMatch_6 rfl (lv_at hl 3 rfl) ?_
  have hPc := hP.sub (ws' := []) [] rfl
  have hKc := hK.sub (tys' := []) [] rfl
  have hDc := hD.sub (ws' := []) [] (by decide) rfl
  exact vx_callv (vx_runS (As := [.int w]) (rest := []) ⟨hx, hb, hml, hown, hts⟩ (x_X7_needNumber l hls dC dI w sa s.heap.size (by first | assumption | omega)) (va_cwS 1 hts gX7_longestMatch_X7_needNumber rfl rfl rfl (by decide +kernel) ⟨Nat.le_of_ble_eq_true rfl, Nat.le_of_ble_eq_true rfl⟩) ⟨fun a U g mk q => by obtain ⟨q0, q1, qT, qP, qK, qD⟩ := q; exact ⟨q0, q1, TW.same (u := U) (U := U.calling g mk a) rfl qT, qP, va_K.moved (u := U) (U := U.calling g mk a) (Vm.Alike.refl U.vm) qK, qD⟩, fun U hU hW => ⟨rfl, by rw [hU], by rw [hU]; exact TW.warm hW hT, by rw [hU]; exact hPc, va_K.moved hW.alike hKc, hDc.weaken (fun _ _ _ _ => trivial)⟩⟩ rfl rfl hl.1 rfl (lv_room (Nat.le_of_ble_eq_true rfl)) dX7_longestMatch_7 ⟨Nat.le_of_ble_eq_true rfl, Nat.le_of_ble_eq_true rfl⟩) hS (fun q h9 h8 => absurd h8 (Nat.not_le_of_lt h9)) (fun q h8 => Nat.le_trans hS.1 h8) (fun q h9 h8 => absurd h8 (Nat.not_le_of_lt h9)) (fun E9 ce9 q9 u9 t9 H9 l9 ht9 hvm9 hu9 hE9 hz9 hk9 hS9 hce9 hcv9 hcl9 => vx_out (fun x h => (hcat x h).elim) hlocks hce9 hcv9 hcl9 (fun t8 ht8 ha8 => ⟨(), trivial, hE9, by rw [ht8]; exact hz9, fun q h1 h2 => by rw [ht8]; exact hk9 q h1 h2⟩) hS9.2.2 (Nat.le_of_ble_eq_true rfl) (Nat.le_of_ble_eq_true rfl)) (fun u9 t9 H9 l9 ht9 hvm9 hu9 hB9 hz9 hk9 hS9 => hu9.elim)
set_option maxHeartbeats 4000000 in
set_option maxRecDepth 100000 in
/-- probes_n2 throws IllegalArgumentException -/
theorem x_X7_probes_n2 (l : Launch) (hls : l.stackTraces = false) (dC : Nat → ClassId) (dI : Nat → Nat → Nat) (q : Nat) (s0 : Nat) (s1 : Nat) (s2 : Nat) (w : Int32) (sa sz : Nat) (hW : isN w = false) : vx_Met l yX7_probes wsX7_probes ({ frames := 7, cells := 1, slots := 6, locals := 102 }) (va_Pc [.ref q, .int (nI 2), .int w] (fun U => U.heap.size = sz ∧ TW "java/lang/IllegalArgumentException" 153 "the number is out of range" sa (fun q => sz ≤ q) U U.heap ∧ va_P (dC, dI) vwCl [(q, .inr (6, [.ref s0, .ref s1, .ref s2]))] U.heap ∧ va_K (dC, dI) vwCl [] U ∧ va_D (fun _ => True) [(q, .inr (6, [.ref s0, .ref s1, .ref s2]))])) (va_Qv (fun _ : Unit => False) (fun _ _ => True) (fun q => sz ≤ q)) (vx_X (fun _ : Unit => True) (fun E _ _ => E = "java/lang/IllegalArgumentException") (fun q => sz ≤ q)) 1 6 (fun q => sz ≤ q) := by
  refine vx_ofW (cc := cX7_probes) (maxL := 4) (ret := (some .int)) (by decide) rfl ?_
  intro p e s m args below meth c s₁ B hml hcat hv
  obtain ⟨rfl, hsz, hT, hP, hK, hD⟩ := hv
  have hx := B.exec
  have hb := B.bytes
  have hr := B.returns
  have hts := atoms_spec (ws := wsX7_probes) B.pre
  have hown : s.vm.findClass RX7 = some m.cls := findClass_of_methodNamed B.named
  have hlocks := B.notSynchronized
  subst hsz
  have hS : va_S (fun q => s.heap.size ≤ q) s.heap s.heap [] := va_S.rf
  have hP : va_P (dC, dI) vwCl [(q, .inr (6, [.ref s0, .ref s1, .ref s2]))] s.heap := hP
  have hl := lv_entry ([.ref q, .int (nI 2), .int w]) (n := 4) (Nat.le_of_ble_eq_true rfl)
  rw [lg_entry_eq]
  generalize (lg_sl ([.ref q, .int (nI 2), .int w]) ++ List.replicate (4 - (lg_sl ([.ref q, .int (nI 2), .int w])).length) Slot.unset).toArray = ls at hl ⊢
  have hl : lv_has ls 4 [(0, .ref q), (1, .int (nI 2)), (2, .int w)] := hl
  refine lv_aload_n hx hb dX7_probes_0 rfl (lv_at hl 0 rfl) ?_
  refine lv_iload_n hx hb dX7_probes_1 rfl (lv_at hl 1 rfl) ?_
  have hPc := hP.sub (ws' := [(q, .inr (6, [.ref s0, .ref s1, .ref s2]))]) [0] rfl
  have hKc := hK.sub (tys' := []) [] rfl
  refine va_csr (W.runV (As := [.int (nI 2)]) (rest := []) ⟨hx, hb, hml, hown, hts⟩ (c_X7_chosenSet_2 l dC dI q s0 s1 s2 ) (cwV 1 hts gX7_probes_X7_chosenSet rfl rfl rfl (by decide +kernel) ⟨Nat.le_of_ble_eq_true rfl, Nat.le_of_ble_eq_true rfl⟩) ⟨fun a U g mk q => by obtain ⟨q0, qP, qK⟩ := q; exact ⟨q0, qP, va_K.moved (u := U) (U := U.calling g mk a) (Vm.Alike.refl U.vm) qK⟩, va_recv hKc hPc (ci := 6) (q0 := 0) rfl rfl, fun U hU hW => ⟨rfl, by rw [hU]; exact hPc, va_K.moved hW.alike hKc⟩⟩ rfl rfl hl.1 rfl (lv_room (Nat.le_of_ble_eq_true rfl)) dX7_probes_2 ⟨Nat.le_of_ble_eq_true rfl, Nat.le_of_ble_eq_true rfl⟩) (fun r_2 hw_1 => ?_)
  have hw_1 := hw_1.symm
  subst hw_1
  refine lv_astore_n (lv' := [(3, .ref s2), (0, .ref q), (1, .int (nI 2)), (2, .int w)]) hx hb dX7_probes_5 rfl hl (by decide) rfl (fun ls hl => ?_)
  refine lv_iload_n hx hb dX7_probes_6 rfl (lv_at hl 3 rfl) ?_
  have hPc := hP.sub (ws' := []) [] rfl
  have hKc := hK.sub (tys' := []) [] rfl
  have hDc := hD.sub (ws' := []) [] (by decide) rfl
  exact vx_callv (vx_runS (As := [.int w]) (rest := []) ⟨hx, hb, hml, hown, hts⟩ (x_X7_needNumber l hls dC dI w sa s.heap.size (by first | assumption | omega)) (va_cwS 1 hts gX7_probes_X7_needNumber rfl rfl rfl (by decide +kernel) ⟨Nat.le_of_ble_eq_true rfl, Nat.le_of_ble_eq_true rfl⟩) ⟨fun a U g mk q => by obtain ⟨q0, q1, qT, qP, qK, qD⟩ := q; exact ⟨q0, q1, TW.same (u := U) (U := U.calling g mk a) rfl qT, qP, va_K.moved (u := U) (U := U.calling g mk a) (Vm.Alike.refl U.vm) qK, qD⟩, fun U hU hW => ⟨rfl, by rw [hU], by rw [hU]; exact TW.warm hW hT, by rw [hU]; exact hPc, va_K.moved hW.alike hKc, hDc.weaken (fun _ _ _ _ => trivial)⟩⟩ rfl rfl hl.1 rfl (lv_room (Nat.le_of_ble_eq_true rfl)) dX7_probes_7 ⟨Nat.le_of_ble_eq_true rfl, Nat.le_of_ble_eq_true rfl⟩) hS (fun q h9 h8 => absurd h8 (Nat.not_le_of_lt h9)) (fun q h8 => Nat.le_trans hS.1 h8) (fun q h9 h8 => absurd h8 (Nat.not_le_of_lt h9)) (fun E9 ce9 q9 u9 t9 H9 l9 ht9 hvm9 hu9 hE9 hz9 hk9 hS9 hce9 hcv9 hcl9 => vx_out (fun x h => (hcat x h).elim) hlocks hce9 hcv9 hcl9 (fun t8 ht8 ha8 => ⟨(), trivial, hE9, by rw [ht8]; exact hz9, fun q h1 h2 => by rw [ht8]; exact hk9 q h1 h2⟩) hS9.2.2 (Nat.le_of_ble_eq_true rfl) (Nat.le_of_ble_eq_true rfl)) (fun u9 t9 H9 l9 ht9 hvm9 hu9 hB9 hz9 hk9 hS9 => hu9.elim)
set_option maxHeartbeats 4000000 in
set_option maxRecDepth 100000 in
/-- bucketOf_n2 throws IllegalArgumentException -/
theorem x_X7_bucketOf_n2 (l : Launch) (hls : l.stackTraces = false) (dC : Nat → ClassId) (dI : Nat → Nat → Nat) (q : Nat) (s0 : Nat) (s1 : Nat) (s2 : Nat) (w : Int32) (sa sz : Nat) (hW : isN w = false) : vx_Met l yX7_bucketOf wsX7_bucketOf ({ frames := 7, cells := 1, slots := 6, locals := 102 }) (va_Pc [.ref q, .int (nI 2), .int w] (fun U => U.heap.size = sz ∧ TW "java/lang/IllegalArgumentException" 153 "the number is out of range" sa (fun q => sz ≤ q) U U.heap ∧ va_P (dC, dI) vwCl [(q, .inr (6, [.ref s0, .ref s1, .ref s2]))] U.heap ∧ va_K (dC, dI) vwCl [] U ∧ va_D (fun _ => True) [(q, .inr (6, [.ref s0, .ref s1, .ref s2]))])) (va_Qv (fun _ : Unit => False) (fun _ _ => True) (fun q => sz ≤ q)) (vx_X (fun _ : Unit => True) (fun E _ _ => E = "java/lang/IllegalArgumentException") (fun q => sz ≤ q)) 1 6 (fun q => sz ≤ q) := by
  refine vx_ofW (cc := cX7_bucketOf) (maxL := 4) (ret := (some .int)) (by decide) rfl ?_
  intro p e s m args below meth c s₁ B hml hcat hv
  obtain ⟨rfl, hsz, hT, hP, hK, hD⟩ := hv
  have hx := B.exec
  have hb := B.bytes
  have hr := B.returns
  have hts := atoms_spec (ws := wsX7_bucketOf) B.pre
  have hown : s.vm.findClass RX7 = some m.cls := findClass_of_methodNamed B.named
  have hlocks := B.notSynchronized
  subst hsz
  have hS : va_S (fun q => s.heap.size ≤ q) s.heap s.heap [] := va_S.rf
  have hP : va_P (dC, dI) vwCl [(q, .inr (6, [.ref s0, .ref s1, .ref s2]))] s.heap := hP
  have hl := lv_entry ([.ref q, .int (nI 2), .int w]) (n := 4) (Nat.le_of_ble_eq_true rfl)
  rw [lg_entry_eq]
  generalize (lg_sl ([.ref q, .int (nI 2), .int w]) ++ List.replicate (4 - (lg_sl ([.ref q, .int (nI 2), .int w])).length) Slot.unset).toArray = ls at hl ⊢
  have hl : lv_has ls 4 [(0, .ref q), (1, .int (nI 2)), (2, .int w)] := hl
  refine lv_aload_n hx hb dX7_bucketOf_0 rfl (lv_at hl 0 rfl) ?_
  refine lv_iload_n hx hb dX7_bucketOf_1 rfl (lv_at hl 1 rfl) ?_
  have hPc := hP.sub (ws' := [(q, .inr (6, [.ref s0, .ref s1, .ref s2]))]) [0] rfl
  have hKc := hK.sub (tys' := []) [] rfl
  refine va_csr (W.runV (As := [.int (nI 2)]) (rest := []) ⟨hx, hb, hml, hown, hts⟩ (c_X7_chosenSet_2 l dC dI q s0 s1 s2 ) (cwV 1 hts gX7_bucketOf_X7_chosenSet rfl rfl rfl (by decide +kernel) ⟨Nat.le_of_ble_eq_true rfl, Nat.le_of_ble_eq_true rfl⟩) ⟨fun a U g mk q => by obtain ⟨q0, qP, qK⟩ := q; exact ⟨q0, qP, va_K.moved (u := U) (U := U.calling g mk a) (Vm.Alike.refl U.vm) qK⟩, va_recv hKc hPc (ci := 6) (q0 := 0) rfl rfl, fun U hU hW => ⟨rfl, by rw [hU]; exact hPc, va_K.moved hW.alike hKc⟩⟩ rfl rfl hl.1 rfl (lv_room (Nat.le_of_ble_eq_true rfl)) dX7_bucketOf_2 ⟨Nat.le_of_ble_eq_true rfl, Nat.le_of_ble_eq_true rfl⟩) (fun r_2 hw_1 => ?_)
  have hw_1 := hw_1.symm
  subst hw_1
  refine lv_astore_n (lv' := [(3, .ref s2), (0, .ref q), (1, .int (nI 2)), (2, .int w)]) hx hb dX7_bucketOf_5 rfl hl (by decide) rfl (fun ls hl => ?_)
  refine lv_iload_n hx hb dX7_bucketOf_6 rfl (lv_at hl 3 rfl) ?_
  have hPc := hP.sub (ws' := []) [] rfl
  have hKc := hK.sub (tys' := []) [] rfl
  have hDc := hD.sub (ws' := []) [] (by decide) rfl
  exact vx_callv (vx_runS (As := [.int w]) (rest := []) ⟨hx, hb, hml, hown, hts⟩ (x_X7_needNumber l hls dC dI w sa s.heap.size (by first | assumption | omega)) (va_cwS 1 hts gX7_bucketOf_X7_needNumber rfl rfl rfl (by decide +kernel) ⟨Nat.le_of_ble_eq_true rfl, Nat.le_of_ble_eq_true rfl⟩) ⟨fun a U g mk q => by obtain ⟨q0, q1, qT, qP, qK, qD⟩ := q; exact ⟨q0, q1, TW.same (u := U) (U := U.calling g mk a) rfl qT, qP, va_K.moved (u := U) (U := U.calling g mk a) (Vm.Alike.refl U.vm) qK, qD⟩, fun U hU hW => ⟨rfl, by rw [hU], by rw [hU]; exact TW.warm hW hT, by rw [hU]; exact hPc, va_K.moved hW.alike hKc, hDc.weaken (fun _ _ _ _ => trivial)⟩⟩ rfl rfl hl.1 rfl (lv_room (Nat.le_of_ble_eq_true rfl)) dX7_bucketOf_7 ⟨Nat.le_of_ble_eq_true rfl, Nat.le_of_ble_eq_true rfl⟩) hS (fun q h9 h8 => absurd h8 (Nat.not_le_of_lt h9)) (fun q h8 => Nat.le_trans hS.1 h8) (fun q h9 h8 => absurd h8 (Nat.not_le_of_lt h9)) (fun E9 ce9 q9 u9 t9 H9 l9 ht9 hvm9 hu9 hE9 hz9 hk9 hS9 hce9 hcv9 hcl9 => vx_out (fun x h => (hcat x h).elim) hlocks hce9 hcv9 hcl9 (fun t8 ht8 ha8 => ⟨(), trivial, hE9, by rw [ht8]; exact hz9, fun q h1 h2 => by rw [ht8]; exact hk9 q h1 h2⟩) hS9.2.2 (Nat.le_of_ble_eq_true rfl) (Nat.le_of_ble_eq_true rfl)) (fun u9 t9 H9 l9 ht9 hvm9 hu9 hB9 hz9 hk9 hS9 => hu9.elim)
set_option maxHeartbeats 4000000 in
set_option maxRecDepth 100000 in
/-- insertRange_f2 throws IllegalArgumentException -/
theorem x_X7_insertRange_f2 (l : Launch) (hls : l.stackTraces = false) (dC : Nat → ClassId) (dI : Nat → Nat → Nat) (q : Nat) (s0 : Nat) (s1 : Nat) (s2 : Nat) (f : Int32) (d : Int32) (n : Int32) (sa sz : Nat) (hW : isN f = false) : vx_Met l yX7_insertRange wsX7_insertRange ({ frames := 7, cells := 1, slots := 6, locals := 102 }) (va_Pc [.ref q, .int (nI 2), .int f, .int d, .int n] (fun U => U.heap.size = sz ∧ TW "java/lang/IllegalArgumentException" 153 "the number is out of range" sa (fun q => sz ≤ q) U U.heap ∧ va_P (dC, dI) vwCl [(q, .inr (6, [.ref s0, .ref s1, .ref s2]))] U.heap ∧ va_K (dC, dI) vwCl [] U ∧ va_D (fun _ => True) [(q, .inr (6, [.ref s0, .ref s1, .ref s2]))])) (va_Qv (fun _ : Unit => False) (fun _ _ => True) (fun q => sz ≤ q)) (vx_X (fun _ : Unit => True) (fun E _ _ => E = "java/lang/IllegalArgumentException") (fun q => sz ≤ q)) 1 6 (fun q => sz ≤ q) := by
  refine vx_ofW (cc := cX7_insertRange) (maxL := 8) (ret := (some .int)) (by decide) rfl ?_
  intro p e s m args below meth c s₁ B hml hcat hv
  obtain ⟨rfl, hsz, hT, hP, hK, hD⟩ := hv
  have hx := B.exec
  have hb := B.bytes
  have hr := B.returns
  have hts := atoms_spec (ws := wsX7_insertRange) B.pre
  have hown : s.vm.findClass RX7 = some m.cls := findClass_of_methodNamed B.named
  have hlocks := B.notSynchronized
  subst hsz
  have hS : va_S (fun q => s.heap.size ≤ q) s.heap s.heap [] := va_S.rf
  have hP : va_P (dC, dI) vwCl [(q, .inr (6, [.ref s0, .ref s1, .ref s2]))] s.heap := hP
  have hl := lv_entry ([.ref q, .int (nI 2), .int f, .int d, .int n]) (n := 8) (Nat.le_of_ble_eq_true rfl)
  rw [lg_entry_eq]
  generalize (lg_sl ([.ref q, .int (nI 2), .int f, .int d, .int n]) ++ List.replicate (8 - (lg_sl ([.ref q, .int (nI 2), .int f, .int d, .int n])).length) Slot.unset).toArray = ls at hl ⊢
  have hl : lv_has ls 8 [(0, .ref q), (1, .int (nI 2)), (2, .int f), (3, .int d), (4, .int n)] := hl
  refine lv_aload_n hx hb dX7_insertRange_0 rfl (lv_at hl 0 rfl) ?_
  refine lv_iload_n hx hb dX7_insertRange_1 rfl (lv_at hl 1 rfl) ?_
  have hPc := hP.sub (ws' := [(q, .inr (6, [.ref s0, .ref s1, .ref s2]))]) [0] rfl
  have hKc := hK.sub (tys' := []) [] rfl
  refine va_csr (W.runV (As := [.int (nI 2)]) (rest := []) ⟨hx, hb, hml, hown, hts⟩ (c_X7_chosenSet_2 l dC dI q s0 s1 s2 ) (cwV 1 hts gX7_insertRange_X7_chosenSet rfl rfl rfl (by decide +kernel) ⟨Nat.le_of_ble_eq_true rfl, Nat.le_of_ble_eq_true rfl⟩) ⟨fun a U g mk q => by obtain ⟨q0, qP, qK⟩ := q; exact ⟨q0, qP, va_K.moved (u := U) (U := U.calling g mk a) (Vm.Alike.refl U.vm) qK⟩, va_recv hKc hPc (ci := 6) (q0 := 0) rfl rfl, fun U hU hW => ⟨rfl, by rw [hU]; exact hPc, va_K.moved hW.alike hKc⟩⟩ rfl rfl hl.1 rfl (lv_room (Nat.le_of_ble_eq_true rfl)) dX7_insertRange_2 ⟨Nat.le_of_ble_eq_true rfl, Nat.le_of_ble_eq_true rfl⟩) (fun r_2 hw_1 => ?_)
  have hw_1 := hw_1.symm
  subst hw_1
  refine lv_astore (lv' := [(5, .ref s2), (0, .ref q), (1, .int (nI 2)), (2, .int f), (3, .int d), (4, .int n)]) hx hb dX7_insertRange_5 hl (by decide) rfl (fun ls hl => ?_)
  refine lv_iload_n hx hb dX7_insertRange_7 rfl (lv_at hl 3 rfl) ?_
  have hPc := hP.sub (ws' := []) [] rfl
  have hKc := hK.sub (tys' := []) [] rfl
  have hDc := hD.sub (ws' := []) [] (by decide) rfl
  exact vx_callv (vx_runS (As := [.int f]) (rest := []) ⟨hx, hb, hml, hown, hts⟩ (x_X7_needNumber l hls dC dI f sa s.heap.size (by first | assumption | omega)) (va_cwS 1 hts gX7_insertRange_X7_needNumber rfl rfl rfl (by decide +kernel) ⟨Nat.le_of_ble_eq_true rfl, Nat.le_of_ble_eq_true rfl⟩) ⟨fun a U g mk q => by obtain ⟨q0, q1, qT, qP, qK, qD⟩ := q; exact ⟨q0, q1, TW.same (u := U) (U := U.calling g mk a) rfl qT, qP, va_K.moved (u := U) (U := U.calling g mk a) (Vm.Alike.refl U.vm) qK, qD⟩, fun U hU hW => ⟨rfl, by rw [hU], by rw [hU]; exact TW.warm hW hT, by rw [hU]; exact hPc, va_K.moved hW.alike hKc, hDc.weaken (fun _ _ _ _ => trivial)⟩⟩ rfl rfl hl.1 rfl (lv_room (Nat.le_of_ble_eq_true rfl)) dX7_insertRange_8 ⟨Nat.le_of_ble_eq_true rfl, Nat.le_of_ble_eq_true rfl⟩) hS (fun q h9 h8 => absurd h8 (Nat.not_le_of_lt h9)) (fun q h8 => Nat.le_trans hS.1 h8) (fun q h9 h8 => absurd h8 (Nat.not_le_of_lt h9)) (fun E9 ce9 q9 u9 t9 H9 l9 ht9 hvm9 hu9 hE9 hz9 hk9 hS9 hce9 hcv9 hcl9 => vx_out (fun x h => (hcat x h).elim) hlocks hce9 hcv9 hcl9 (fun t8 ht8 ha8 => ⟨(), trivial, hE9, by rw [ht8]; exact hz9, fun q h1 h2 => by rw [ht8]; exact hk9 q h1 h2⟩) hS9.2.2 (Nat.le_of_ble_eq_true rfl) (Nat.le_of_ble_eq_true rfl)) (fun u9 t9 H9 l9 ht9 hvm9 hu9 hB9 hz9 hk9 hS9 => hu9.elim)
set_option maxHeartbeats 4000000 in
set_option maxRecDepth 100000 in
/-- insertRange_d2 throws IllegalArgumentException -/
theorem x_X7_insertRange_d2 (l : Launch) (hls : l.stackTraces = false) (dC : Nat → ClassId) (dI : Nat → Nat → Nat) (q : Nat) (s0 : Nat) (s1 : Nat) (s2 : Nat) (a : Nat) (d : Int32) (n : Int32) (sa sz : Nat) (ha : a < 4096) (hW : inB d 1 1000 = false) : vx_Met l yX7_insertRange wsX7_insertRange ({ frames := 7, cells := 1, slots := 6, locals := 103 }) (va_Pc [.ref q, .int (nI 2), .int (nI a), .int d, .int n] (fun U => U.heap.size = sz ∧ TW "java/lang/IllegalArgumentException" 156 "the step is out of range" sa (fun q => sz ≤ q) U U.heap ∧ va_P (dC, dI) vwCl [(q, .inr (6, [.ref s0, .ref s1, .ref s2]))] U.heap ∧ va_K (dC, dI) vwCl [] U ∧ va_D (fun _ => True) [(q, .inr (6, [.ref s0, .ref s1, .ref s2]))])) (va_Qv (fun _ : Unit => False) (fun _ _ => True) (fun q => sz ≤ q)) (vx_X (fun _ : Unit => True) (fun E _ _ => E = "java/lang/IllegalArgumentException") (fun q => sz ≤ q)) 1 6 (fun q => sz ≤ q) := by
  refine vx_ofW (cc := cX7_insertRange) (maxL := 8) (ret := (some .int)) (by decide) rfl ?_
  intro p e s m args below meth c s₁ B hml hcat hv
  obtain ⟨rfl, hsz, hT, hP, hK, hD⟩ := hv
  have hx := B.exec
  have hb := B.bytes
  have hr := B.returns
  have hts := atoms_spec (ws := wsX7_insertRange) B.pre
  have hown : s.vm.findClass RX7 = some m.cls := findClass_of_methodNamed B.named
  have hlocks := B.notSynchronized
  subst hsz
  have hS : va_S (fun q => s.heap.size ≤ q) s.heap s.heap [] := va_S.rf
  have hP : va_P (dC, dI) vwCl [(q, .inr (6, [.ref s0, .ref s1, .ref s2]))] s.heap := hP
  have hl := lv_entry ([.ref q, .int (nI 2), .int (nI a), .int d, .int n]) (n := 8) (Nat.le_of_ble_eq_true rfl)
  rw [lg_entry_eq]
  generalize (lg_sl ([.ref q, .int (nI 2), .int (nI a), .int d, .int n]) ++ List.replicate (8 - (lg_sl ([.ref q, .int (nI 2), .int (nI a), .int d, .int n])).length) Slot.unset).toArray = ls at hl ⊢
  have hl : lv_has ls 8 [(0, .ref q), (1, .int (nI 2)), (2, .int (nI a)), (3, .int d), (4, .int n)] := hl
  refine lv_aload_n hx hb dX7_insertRange_0 rfl (lv_at hl 0 rfl) ?_
  refine lv_iload_n hx hb dX7_insertRange_1 rfl (lv_at hl 1 rfl) ?_
  have hPc := hP.sub (ws' := [(q, .inr (6, [.ref s0, .ref s1, .ref s2]))]) [0] rfl
  have hKc := hK.sub (tys' := []) [] rfl
  refine va_csr (W.runV (As := [.int (nI 2)]) (rest := []) ⟨hx, hb, hml, hown, hts⟩ (c_X7_chosenSet_2 l dC dI q s0 s1 s2 ) (cwV 1 hts gX7_insertRange_X7_chosenSet rfl rfl rfl (by decide +kernel) ⟨Nat.le_of_ble_eq_true rfl, Nat.le_of_ble_eq_true rfl⟩) ⟨fun a U g mk q => by obtain ⟨q0, qP, qK⟩ := q; exact ⟨q0, qP, va_K.moved (u := U) (U := U.calling g mk a) (Vm.Alike.refl U.vm) qK⟩, va_recv hKc hPc (ci := 6) (q0 := 0) rfl rfl, fun U hU hW => ⟨rfl, by rw [hU]; exact hPc, va_K.moved hW.alike hKc⟩⟩ rfl rfl hl.1 rfl (lv_room (Nat.le_of_ble_eq_true rfl)) dX7_insertRange_2 ⟨Nat.le_of_ble_eq_true rfl, Nat.le_of_ble_eq_true rfl⟩) (fun r_2 hw_1 => ?_)
  have hw_1 := hw_1.symm
  subst hw_1
  refine lv_astore (lv' := [(5, .ref s2), (0, .ref q), (1, .int (nI 2)), (2, .int (nI a)), (3, .int d), (4, .int n)]) hx hb dX7_insertRange_5 hl (by decide) rfl (fun ls hl => ?_)
  refine lv_iload_n hx hb dX7_insertRange_7 rfl (lv_at hl 3 rfl) ?_
  have hPc := hP.sub (ws' := []) [] rfl
  have hKc := hK.sub (tys' := []) [] rfl
  refine va_csv (W.runS (As := [.int (nI a)]) (rest := []) ⟨hx, hb, hml, hown, hts⟩ (c_X7_needNumber l dC dI a (by first | assumption | omega)) (va_cwS 1 hts gX7_insertRange_X7_needNumber rfl rfl rfl (by decide +kernel) ⟨Nat.le_of_ble_eq_true rfl, Nat.le_of_ble_eq_true rfl⟩) ⟨fun a U g mk q => by obtain ⟨q0, qP, qK⟩ := q; exact ⟨q0, qP, va_K.moved (u := U) (U := U.calling g mk a) (Vm.Alike.refl U.vm) qK⟩, fun U hU hW => ⟨rfl, by rw [hU]; exact hPc, va_K.moved hW.alike hKc⟩⟩ rfl rfl hl.1 rfl (lv_room (Nat.le_of_ble_eq_true rfl)) dX7_insertRange_8 ⟨Nat.le_of_ble_eq_true rfl, Nat.le_of_ble_eq_true rfl⟩) (fun _ => ?_)
  refine lv_iload_n hx hb dX7_insertRange_11 rfl (lv_at hl 4 rfl) ?_
  refine lv_iload hx hb dX7_insertRange_12 (lv_at hl 5 rfl) ?_
  have hPc := hP.sub (ws' := []) [] rfl
  have hKc := hK.sub (tys' := []) [] rfl
  have hDc := hD.sub (ws' := []) [] (by decide) rfl
  exact vx_callv (vx_runS (As := [.int d, .int n]) (rest := []) ⟨hx, hb, hml, hown, hts⟩ (x_X7_needStep l hls dC dI d n sa s.heap.size (by first | assumption | omega)) (va_cwS 2 hts gX7_insertRange_X7_needStepAndCount rfl rfl rfl (by decide +kernel) ⟨Nat.le_of_ble_eq_true rfl, Nat.le_of_ble_eq_true rfl⟩) ⟨fun a U g mk q => by obtain ⟨q0, q1, qT, qP, qK, qD⟩ := q; exact ⟨q0, q1, TW.same (u := U) (U := U.calling g mk a) rfl qT, qP, va_K.moved (u := U) (U := U.calling g mk a) (Vm.Alike.refl U.vm) qK, qD⟩, fun U hU hW => ⟨rfl, by rw [hU], by rw [hU]; exact TW.warm hW hT, by rw [hU]; exact hPc, va_K.moved hW.alike hKc, hDc.weaken (fun _ _ _ _ => trivial)⟩⟩ rfl rfl hl.1 rfl (lv_room (Nat.le_of_ble_eq_true rfl)) dX7_insertRange_14 ⟨Nat.le_of_ble_eq_true rfl, Nat.le_of_ble_eq_true rfl⟩) hS (fun q h9 h8 => absurd h8 (Nat.not_le_of_lt h9)) (fun q h8 => Nat.le_trans hS.1 h8) (fun q h9 h8 => absurd h8 (Nat.not_le_of_lt h9)) (fun E9 ce9 q9 u9 t9 H9 l9 ht9 hvm9 hu9 hE9 hz9 hk9 hS9 hce9 hcv9 hcl9 => vx_out (fun x h => (hcat x h).elim) hlocks hce9 hcv9 hcl9 (fun t8 ht8 ha8 => ⟨(), trivial, hE9, by rw [ht8]; exact hz9, fun q h1 h2 => by rw [ht8]; exact hk9 q h1 h2⟩) hS9.2.2 (Nat.le_of_ble_eq_true rfl) (Nat.le_of_ble_eq_true rfl)) (fun u9 t9 H9 l9 ht9 hvm9 hu9 hB9 hz9 hk9 hS9 => hu9.elim)
set_option maxHeartbeats 4000000 in
set_option maxRecDepth 100000 in
/-- insertRange_c2 throws IllegalArgumentException -/
theorem x_X7_insertRange_c2 (l : Launch) (hls : l.stackTraces = false) (dC : Nat → ClassId) (dI : Nat → Nat → Nat) (q : Nat) (s0 : Nat) (s1 : Nat) (s2 : Nat) (a : Nat) (d : Nat) (n : Int32) (sa sz : Nat) (ha : a < 4096) (hd : 1 ≤ d ∧ d ≤ 1000) (hW : inB n 1 30 = false) : vx_Met l yX7_insertRange wsX7_insertRange ({ frames := 7, cells := 1, slots := 6, locals := 103 }) (va_Pc [.ref q, .int (nI 2), .int (nI a), .int (nI d), .int n] (fun U => U.heap.size = sz ∧ TW "java/lang/IllegalArgumentException" 158 "the count is out of range" sa (fun q => sz ≤ q) U U.heap ∧ va_P (dC, dI) vwCl [(q, .inr (6, [.ref s0, .ref s1, .ref s2]))] U.heap ∧ va_K (dC, dI) vwCl [] U ∧ va_D (fun _ => True) [(q, .inr (6, [.ref s0, .ref s1, .ref s2]))])) (va_Qv (fun _ : Unit => False) (fun _ _ => True) (fun q => sz ≤ q)) (vx_X (fun _ : Unit => True) (fun E _ _ => E = "java/lang/IllegalArgumentException") (fun q => sz ≤ q)) 1 6 (fun q => sz ≤ q) := by
  refine vx_ofW (cc := cX7_insertRange) (maxL := 8) (ret := (some .int)) (by decide) rfl ?_
  intro p e s m args below meth c s₁ B hml hcat hv
  obtain ⟨rfl, hsz, hT, hP, hK, hD⟩ := hv
  have hx := B.exec
  have hb := B.bytes
  have hr := B.returns
  have hts := atoms_spec (ws := wsX7_insertRange) B.pre
  have hown : s.vm.findClass RX7 = some m.cls := findClass_of_methodNamed B.named
  have hlocks := B.notSynchronized
  subst hsz
  have hS : va_S (fun q => s.heap.size ≤ q) s.heap s.heap [] := va_S.rf
  have hP : va_P (dC, dI) vwCl [(q, .inr (6, [.ref s0, .ref s1, .ref s2]))] s.heap := hP
  have hl := lv_entry ([.ref q, .int (nI 2), .int (nI a), .int (nI d), .int n]) (n := 8) (Nat.le_of_ble_eq_true rfl)
  rw [lg_entry_eq]
  generalize (lg_sl ([.ref q, .int (nI 2), .int (nI a), .int (nI d), .int n]) ++ List.replicate (8 - (lg_sl ([.ref q, .int (nI 2), .int (nI a), .int (nI d), .int n])).length) Slot.unset).toArray = ls at hl ⊢
  have hl : lv_has ls 8 [(0, .ref q), (1, .int (nI 2)), (2, .int (nI a)), (3, .int (nI d)), (4, .int n)] := hl
  refine lv_aload_n hx hb dX7_insertRange_0 rfl (lv_at hl 0 rfl) ?_
  refine lv_iload_n hx hb dX7_insertRange_1 rfl (lv_at hl 1 rfl) ?_
  have hPc := hP.sub (ws' := [(q, .inr (6, [.ref s0, .ref s1, .ref s2]))]) [0] rfl
  have hKc := hK.sub (tys' := []) [] rfl
  refine va_csr (W.runV (As := [.int (nI 2)]) (rest := []) ⟨hx, hb, hml, hown, hts⟩ (c_X7_chosenSet_2 l dC dI q s0 s1 s2 ) (cwV 1 hts gX7_insertRange_X7_chosenSet rfl rfl rfl (by decide +kernel) ⟨Nat.le_of_ble_eq_true rfl, Nat.le_of_ble_eq_true rfl⟩) ⟨fun a U g mk q => by obtain ⟨q0, qP, qK⟩ := q; exact ⟨q0, qP, va_K.moved (u := U) (U := U.calling g mk a) (Vm.Alike.refl U.vm) qK⟩, va_recv hKc hPc (ci := 6) (q0 := 0) rfl rfl, fun U hU hW => ⟨rfl, by rw [hU]; exact hPc, va_K.moved hW.alike hKc⟩⟩ rfl rfl hl.1 rfl (lv_room (Nat.le_of_ble_eq_true rfl)) dX7_insertRange_2 ⟨Nat.le_of_ble_eq_true rfl, Nat.le_of_ble_eq_true rfl⟩) (fun r_2 hw_1 => ?_)
  have hw_1 := hw_1.symm
  subst hw_1
  refine lv_astore (lv' := [(5, .ref s2), (0, .ref q), (1, .int (nI 2)), (2, .int (nI a)), (3, .int (nI d)), (4, .int n)]) hx hb dX7_insertRange_5 hl (by decide) rfl (fun ls hl => ?_)
  refine lv_iload_n hx hb dX7_insertRange_7 rfl (lv_at hl 3 rfl) ?_
  have hPc := hP.sub (ws' := []) [] rfl
  have hKc := hK.sub (tys' := []) [] rfl
  refine va_csv (W.runS (As := [.int (nI a)]) (rest := []) ⟨hx, hb, hml, hown, hts⟩ (c_X7_needNumber l dC dI a (by first | assumption | omega)) (va_cwS 1 hts gX7_insertRange_X7_needNumber rfl rfl rfl (by decide +kernel) ⟨Nat.le_of_ble_eq_true rfl, Nat.le_of_ble_eq_true rfl⟩) ⟨fun a U g mk q => by obtain ⟨q0, qP, qK⟩ := q; exact ⟨q0, qP, va_K.moved (u := U) (U := U.calling g mk a) (Vm.Alike.refl U.vm) qK⟩, fun U hU hW => ⟨rfl, by rw [hU]; exact hPc, va_K.moved hW.alike hKc⟩⟩ rfl rfl hl.1 rfl (lv_room (Nat.le_of_ble_eq_true rfl)) dX7_insertRange_8 ⟨Nat.le_of_ble_eq_true rfl, Nat.le_of_ble_eq_true rfl⟩) (fun _ => ?_)
  refine lv_iload_n hx hb dX7_insertRange_11 rfl (lv_at hl 4 rfl) ?_
  refine lv_iload hx hb dX7_insertRange_12 (lv_at hl 5 rfl) ?_
  have hPc := hP.sub (ws' := []) [] rfl
  have hKc := hK.sub (tys' := []) [] rfl
  have hDc := hD.sub (ws' := []) [] (by decide) rfl
  exact vx_callv (vx_runS (As := [.int (nI d), .int n]) (rest := []) ⟨hx, hb, hml, hown, hts⟩ (x_X7_needCount l hls dC dI d n sa s.heap.size (by first | assumption | omega) (by first | assumption | omega)) (va_cwS 2 hts gX7_insertRange_X7_needStepAndCount rfl rfl rfl (by decide +kernel) ⟨Nat.le_of_ble_eq_true rfl, Nat.le_of_ble_eq_true rfl⟩) ⟨fun a U g mk q => by obtain ⟨q0, q1, qT, qP, qK, qD⟩ := q; exact ⟨q0, q1, TW.same (u := U) (U := U.calling g mk a) rfl qT, qP, va_K.moved (u := U) (U := U.calling g mk a) (Vm.Alike.refl U.vm) qK, qD⟩, fun U hU hW => ⟨rfl, by rw [hU], by rw [hU]; exact TW.warm hW hT, by rw [hU]; exact hPc, va_K.moved hW.alike hKc, hDc.weaken (fun _ _ _ _ => trivial)⟩⟩ rfl rfl hl.1 rfl (lv_room (Nat.le_of_ble_eq_true rfl)) dX7_insertRange_14 ⟨Nat.le_of_ble_eq_true rfl, Nat.le_of_ble_eq_true rfl⟩) hS (fun q h9 h8 => absurd h8 (Nat.not_le_of_lt h9)) (fun q h8 => Nat.le_trans hS.1 h8) (fun q h9 h8 => absurd h8 (Nat.not_le_of_lt h9)) (fun E9 ce9 q9 u9 t9 H9 l9 ht9 hvm9 hu9 hE9 hz9 hk9 hS9 hce9 hcv9 hcl9 => vx_out (fun x h => (hcat x h).elim) hlocks hce9 hcv9 hcl9 (fun t8 ht8 ha8 => ⟨(), trivial, hE9, by rw [ht8]; exact hz9, fun q h1 h2 => by rw [ht8]; exact hk9 q h1 h2⟩) hS9.2.2 (Nat.le_of_ble_eq_true rfl) (Nat.le_of_ble_eq_true rfl)) (fun u9 t9 H9 l9 ht9 hvm9 hu9 hB9 hz9 hk9 hS9 => hu9.elim)
set_option maxHeartbeats 4000000 in
set_option maxRecDepth 100000 in
/-- insertRange_e2 throws IllegalArgumentException -/
theorem x_X7_insertRange_e2 (l : Launch) (hls : l.stackTraces = false) (dC : Nat → ClassId) (dI : Nat → Nat → Nat) (q : Nat) (s0 : Nat) (s1 : Nat) (s2 : Nat) (a : Nat) (d : Nat) (n : Nat) (sa sz : Nat) (ha : a < 4096) (hd : 1 ≤ d ∧ d ≤ 1000) (hn : 1 ≤ n ∧ n ≤ 30) (hW : isN (nI (a + (n - 1) * d)) = false) : vx_Met l yX7_insertRange wsX7_insertRange ({ frames := 7, cells := 1, slots := 6, locals := 102 }) (va_Pc [.ref q, .int (nI 2), .int (nI a), .int (nI d), .int (nI n)] (fun U => U.heap.size = sz ∧ TW "java/lang/IllegalArgumentException" 153 "the number is out of range" sa (fun q => sz ≤ q) U U.heap ∧ va_P (dC, dI) vwCl [(q, .inr (6, [.ref s0, .ref s1, .ref s2]))] U.heap ∧ va_K (dC, dI) vwCl [] U ∧ va_D (fun _ => True) [(q, .inr (6, [.ref s0, .ref s1, .ref s2]))])) (va_Qv (fun _ : Unit => False) (fun _ _ => True) (fun q => sz ≤ q)) (vx_X (fun _ : Unit => True) (fun E _ _ => E = "java/lang/IllegalArgumentException") (fun q => sz ≤ q)) 1 6 (fun q => sz ≤ q) := by
  refine vx_ofW (cc := cX7_insertRange) (maxL := 8) (ret := (some .int)) (by decide) rfl ?_
  intro p e s m args below meth c s₁ B hml hcat hv
  obtain ⟨rfl, hsz, hT, hP, hK, hD⟩ := hv
  have hx := B.exec
  have hb := B.bytes
  have hr := B.returns
  have hts := atoms_spec (ws := wsX7_insertRange) B.pre
  have hown : s.vm.findClass RX7 = some m.cls := findClass_of_methodNamed B.named
  have hlocks := B.notSynchronized
  subst hsz
  have hS : va_S (fun q => s.heap.size ≤ q) s.heap s.heap [] := va_S.rf
  have hP : va_P (dC, dI) vwCl [(q, .inr (6, [.ref s0, .ref s1, .ref s2]))] s.heap := hP
  have hl := lv_entry ([.ref q, .int (nI 2), .int (nI a), .int (nI d), .int (nI n)]) (n := 8) (Nat.le_of_ble_eq_true rfl)
  rw [lg_entry_eq]
  generalize (lg_sl ([.ref q, .int (nI 2), .int (nI a), .int (nI d), .int (nI n)]) ++ List.replicate (8 - (lg_sl ([.ref q, .int (nI 2), .int (nI a), .int (nI d), .int (nI n)])).length) Slot.unset).toArray = ls at hl ⊢
  have hl : lv_has ls 8 [(0, .ref q), (1, .int (nI 2)), (2, .int (nI a)), (3, .int (nI d)), (4, .int (nI n))] := hl
  refine lv_aload_n hx hb dX7_insertRange_0 rfl (lv_at hl 0 rfl) ?_
  refine lv_iload_n hx hb dX7_insertRange_1 rfl (lv_at hl 1 rfl) ?_
  have hPc := hP.sub (ws' := [(q, .inr (6, [.ref s0, .ref s1, .ref s2]))]) [0] rfl
  have hKc := hK.sub (tys' := []) [] rfl
  refine va_csr (W.runV (As := [.int (nI 2)]) (rest := []) ⟨hx, hb, hml, hown, hts⟩ (c_X7_chosenSet_2 l dC dI q s0 s1 s2 ) (cwV 1 hts gX7_insertRange_X7_chosenSet rfl rfl rfl (by decide +kernel) ⟨Nat.le_of_ble_eq_true rfl, Nat.le_of_ble_eq_true rfl⟩) ⟨fun a U g mk q => by obtain ⟨q0, qP, qK⟩ := q; exact ⟨q0, qP, va_K.moved (u := U) (U := U.calling g mk a) (Vm.Alike.refl U.vm) qK⟩, va_recv hKc hPc (ci := 6) (q0 := 0) rfl rfl, fun U hU hW => ⟨rfl, by rw [hU]; exact hPc, va_K.moved hW.alike hKc⟩⟩ rfl rfl hl.1 rfl (lv_room (Nat.le_of_ble_eq_true rfl)) dX7_insertRange_2 ⟨Nat.le_of_ble_eq_true rfl, Nat.le_of_ble_eq_true rfl⟩) (fun r_2 hw_1 => ?_)
  have hw_1 := hw_1.symm
  subst hw_1
  refine lv_astore (lv' := [(5, .ref s2), (0, .ref q), (1, .int (nI 2)), (2, .int (nI a)), (3, .int (nI d)), (4, .int (nI n))]) hx hb dX7_insertRange_5 hl (by decide) rfl (fun ls hl => ?_)
  refine lv_iload_n hx hb dX7_insertRange_7 rfl (lv_at hl 3 rfl) ?_
  have hPc := hP.sub (ws' := []) [] rfl
  have hKc := hK.sub (tys' := []) [] rfl
  refine va_csv (W.runS (As := [.int (nI a)]) (rest := []) ⟨hx, hb, hml, hown, hts⟩ (c_X7_needNumber l dC dI a (by first | assumption | omega)) (va_cwS 1 hts gX7_insertRange_X7_needNumber rfl rfl rfl (by decide +kernel) ⟨Nat.le_of_ble_eq_true rfl, Nat.le_of_ble_eq_true rfl⟩) ⟨fun a U g mk q => by obtain ⟨q0, qP, qK⟩ := q; exact ⟨q0, qP, va_K.moved (u := U) (U := U.calling g mk a) (Vm.Alike.refl U.vm) qK⟩, fun U hU hW => ⟨rfl, by rw [hU]; exact hPc, va_K.moved hW.alike hKc⟩⟩ rfl rfl hl.1 rfl (lv_room (Nat.le_of_ble_eq_true rfl)) dX7_insertRange_8 ⟨Nat.le_of_ble_eq_true rfl, Nat.le_of_ble_eq_true rfl⟩) (fun _ => ?_)
  refine lv_iload_n hx hb dX7_insertRange_11 rfl (lv_at hl 4 rfl) ?_
  refine lv_iload hx hb dX7_insertRange_12 (lv_at hl 5 rfl) ?_
  have hPc := hP.sub (ws' := []) [] rfl
  have hKc := hK.sub (tys' := []) [] rfl
  refine va_csv (W.runS (As := [.int (nI d), .int (nI n)]) (rest := []) ⟨hx, hb, hml, hown, hts⟩ (c_X7_needStepAndCount l dC dI d n (by first | assumption | omega) (by first | assumption | omega)) (va_cwS 2 hts gX7_insertRange_X7_needStepAndCount rfl rfl rfl (by decide +kernel) ⟨Nat.le_of_ble_eq_true rfl, Nat.le_of_ble_eq_true rfl⟩) ⟨fun a U g mk q => by obtain ⟨q0, qP, qK⟩ := q; exact ⟨q0, qP, va_K.moved (u := U) (U := U.calling g mk a) (Vm.Alike.refl U.vm) qK⟩, fun U hU hW => ⟨rfl, by rw [hU]; exact hPc, va_K.moved hW.alike hKc⟩⟩ rfl rfl hl.1 rfl (lv_room (Nat.le_of_ble_eq_true rfl)) dX7_insertRange_14 ⟨Nat.le_of_ble_eq_true rfl, Nat.le_of_ble_eq_true rfl⟩) (fun _ => ?_)
  refine lv_iload_n hx hb dX7_insertRange_17 rfl (lv_at hl 3 rfl) ?_
  refine lv_iload hx hb dX7_insertRange_18 (lv_at hl 5 rfl) ?_
  refine lv_iconst (v := nI 1) hx hb dX7_insertRange_20 (by decide +kernel) ?_
  refine lv_isub hx hb dX7_insertRange_21 ?_
  refine lv_cvi (pk_sub (by omega)) ?_
  refine lv_iload_n hx hb dX7_insertRange_22 rfl (lv_at hl 4 rfl) ?_
  refine lv_imul hx hb dX7_insertRange_23 ?_
  refine lv_cvi (pk_mul _ _) ?_
  refine lv_iadd hx hb dX7_insertRange_24 ?_
  refine lv_cvi (nI_add _ _) ?_
  have hPc := hP.sub (ws' := []) [] rfl
  have hKc := hK.sub (tys' := []) [] rfl
  have hDc := hD.sub (ws' := []) [] (by decide) rfl
  exact vx_callv (vx_runS (As := [.int (nI (a + ((n - 1) * d)))]) (rest := []) ⟨hx, hb, hml, hown, hts⟩ (x_X7_needNumber l hls dC dI (nI (a + ((n - 1) * d))) sa s.heap.size (by first | assumption | omega)) (va_cwS 1 hts gX7_insertRange_X7_needNumber rfl rfl rfl (by decide +kernel) ⟨Nat.le_of_ble_eq_true rfl, Nat.le_of_ble_eq_true rfl⟩) ⟨fun a U g mk q => by obtain ⟨q0, q1, qT, qP, qK, qD⟩ := q; exact ⟨q0, q1, TW.same (u := U) (U := U.calling g mk a) rfl qT, qP, va_K.moved (u := U) (U := U.calling g mk a) (Vm.Alike.refl U.vm) qK, qD⟩, fun U hU hW => ⟨rfl, by rw [hU], by rw [hU]; exact TW.warm hW hT, by rw [hU]; exact hPc, va_K.moved hW.alike hKc, hDc.weaken (fun _ _ _ _ => trivial)⟩⟩ rfl rfl hl.1 rfl (lv_room (Nat.le_of_ble_eq_true rfl)) dX7_insertRange_25 ⟨Nat.le_of_ble_eq_true rfl, Nat.le_of_ble_eq_true rfl⟩) hS (fun q h9 h8 => absurd h8 (Nat.not_le_of_lt h9)) (fun q h8 => Nat.le_trans hS.1 h8) (fun q h9 h8 => absurd h8 (Nat.not_le_of_lt h9)) (fun E9 ce9 q9 u9 t9 H9 l9 ht9 hvm9 hu9 hE9 hz9 hk9 hS9 hce9 hcv9 hcl9 => vx_out (fun x h => (hcat x h).elim) hlocks hce9 hcv9 hcl9 (fun t8 ht8 ha8 => ⟨(), trivial, hE9, by rw [ht8]; exact hz9, fun q h1 h2 => by rw [ht8]; exact hk9 q h1 h2⟩) hS9.2.2 (Nat.le_of_ble_eq_true rfl) (Nat.le_of_ble_eq_true rfl)) (fun u9 t9 H9 l9 ht9 hvm9 hu9 hB9 hz9 hk9 hS9 => hu9.elim)
set_option maxHeartbeats 4000000 in
set_option maxRecDepth 100000 in
/-- insertAll_t2 throws IndexOutOfBoundsException -/
theorem x_X7_insertAll_t2 (l : Launch) (hls : l.stackTraces = false) (dC : Nat → ClassId) (dI : Nat → Nat → Nat) (q : Nat) (s0 : Nat) (s1 : Nat) (s2 : Nat) (w : Int32) (sa sz : Nat) (hW : isS w = false) : vx_Met l yX7_insertAll wsX7_insertAll ({ frames := 7, cells := 1, slots := 6, locals := 103 }) (va_Pc [.ref q, .int (nI 2), .int w] (fun U => U.heap.size = sz ∧ TW "java/lang/IndexOutOfBoundsException" 148 "no such set" sa (fun q => sz ≤ q) U U.heap ∧ va_P (dC, dI) vwCl [(q, .inr (6, [.ref s0, .ref s1, .ref s2]))] U.heap ∧ va_K (dC, dI) vwCl [] U ∧ va_D (fun _ => True) [(q, .inr (6, [.ref s0, .ref s1, .ref s2]))])) (va_Qv (fun _ : Unit => False) (fun _ _ => True) (fun q => sz ≤ q)) (vx_X (fun _ : Unit => True) (fun E _ _ => E = "java/lang/IndexOutOfBoundsException") (fun q => sz ≤ q)) 1 6 (fun q => sz ≤ q) := by
  refine vx_ofW (cc := cX7_insertAll) (maxL := 8) (ret := (some .int)) (by decide) rfl ?_
  intro p e s m args below meth c s₁ B hml hcat hv
  obtain ⟨rfl, hsz, hT, hP, hK, hD⟩ := hv
  have hx := B.exec
  have hb := B.bytes
  have hr := B.returns
  have hts := atoms_spec (ws := wsX7_insertAll) B.pre
  have hown : s.vm.findClass RX7 = some m.cls := findClass_of_methodNamed B.named
  have hlocks := B.notSynchronized
  subst hsz
  have hS : va_S (fun q => s.heap.size ≤ q) s.heap s.heap [] := va_S.rf
  have hP : va_P (dC, dI) vwCl [(q, .inr (6, [.ref s0, .ref s1, .ref s2]))] s.heap := hP
  have hl := lv_entry ([.ref q, .int (nI 2), .int w]) (n := 8) (Nat.le_of_ble_eq_true rfl)
  rw [lg_entry_eq]
  generalize (lg_sl ([.ref q, .int (nI 2), .int w]) ++ List.replicate (8 - (lg_sl ([.ref q, .int (nI 2), .int w])).length) Slot.unset).toArray = ls at hl ⊢
  have hl : lv_has ls 8 [(0, .ref q), (1, .int (nI 2)), (2, .int w)] := hl
  refine lv_aload_n hx hb dX7_insertAll_0 rfl (lv_at hl 0 rfl) ?_
  refine lv_iload_n hx hb dX7_insertAll_1 rfl (lv_at hl 1 rfl) ?_
  have hPc := hP.sub (ws' := [(q, .inr (6, [.ref s0, .ref s1, .ref s2]))]) [0] rfl
  have hKc := hK.sub (tys' := []) [] rfl
  refine va_csr (W.runV (As := [.int (nI 2)]) (rest := []) ⟨hx, hb, hml, hown, hts⟩ (c_X7_chosenSet_2 l dC dI q s0 s1 s2 ) (cwV 1 hts gX7_insertAll_X7_chosenSet rfl rfl rfl (by decide +kernel) ⟨Nat.le_of_ble_eq_true rfl, Nat.le_of_ble_eq_true rfl⟩) ⟨fun a U g mk q => by obtain ⟨q0, qP, qK⟩ := q; exact ⟨q0, qP, va_K.moved (u := U) (U := U.calling g mk a) (Vm.Alike.refl U.vm) qK⟩, va_recv hKc hPc (ci := 6) (q0 := 0) rfl rfl, fun U hU hW => ⟨rfl, by rw [hU]; exact hPc, va_K.moved hW.alike hKc⟩⟩ rfl rfl hl.1 rfl (lv_room (Nat.le_of_ble_eq_true rfl)) dX7_insertAll_2 ⟨Nat.le_of_ble_eq_true rfl, Nat.le_of_ble_eq_true rfl⟩) (fun r_2 hw_1 => ?_)
  have hw_1 := hw_1.symm
  subst hw_1
  refine lv_astore_n (lv' := [(3, .ref s2), (0, .ref q), (1, .int (nI 2)), (2, .int w)]) hx hb dX7_insertAll_5 rfl hl (by decide) rfl (fun ls hl => ?_)
  refine lv_aload_n hx hb dX7_insertAll_6 rfl (lv_at hl 1 rfl) ?_
  refine lv_iload_n hx hb dX7_insertAll_7 rfl (lv_at hl 3 rfl) ?_
  have hPc := hP.sub (ws' := [(q, .inr (6, [.ref s0, .ref s1, .ref s2]))]) [0] rfl
  have hKc := hK.sub (tys' := []) [] rfl
  have hDc := hD.sub (ws' := [(q, .inr (6, [.ref s0, .ref s1, .ref s2]))]) [0] (by decide) rfl
  exact vx_callv (vx_runV (As := [.int w]) (rest := []) ⟨hx, hb, hml, hown, hts⟩ (x_X7_chosenSet l hls dC dI q s0 s1 s2 w sa s.heap.size (by first | assumption | omega)) (cwV 1 hts gX7_insertAll_X7_chosenSet rfl rfl rfl (by decide +kernel) ⟨Nat.le_of_ble_eq_true rfl, Nat.le_of_ble_eq_true rfl⟩) ⟨fun a U g mk q => by obtain ⟨q0, q1, qT, qP, qK, qD⟩ := q; exact ⟨q0, q1, TW.same (u := U) (U := U.calling g mk a) rfl qT, qP, va_K.moved (u := U) (U := U.calling g mk a) (Vm.Alike.refl U.vm) qK, qD⟩, va_recv hKc hPc (ci := 6) (q0 := 0) rfl rfl, fun U hU hW => ⟨rfl, by rw [hU], by rw [hU]; exact TW.warm hW hT, by rw [hU]; exact hPc, va_K.moved hW.alike hKc, hDc.weaken (fun _ _ _ _ => trivial)⟩⟩ rfl rfl hl.1 rfl (lv_room (Nat.le_of_ble_eq_true rfl)) dX7_insertAll_8 ⟨Nat.le_of_ble_eq_true rfl, Nat.le_of_ble_eq_true rfl⟩) hS (fun q h9 h8 => absurd h8 (Nat.not_le_of_lt h9)) (fun q h8 => Nat.le_trans hS.1 h8) (fun q h9 h8 => absurd h8 (Nat.not_le_of_lt h9)) (fun E9 ce9 q9 u9 t9 H9 l9 ht9 hvm9 hu9 hE9 hz9 hk9 hS9 hce9 hcv9 hcl9 => vx_out (fun x h => (hcat x h).elim) hlocks hce9 hcv9 hcl9 (fun t8 ht8 ha8 => ⟨(), trivial, hE9, by rw [ht8]; exact hz9, fun q h1 h2 => by rw [ht8]; exact hk9 q h1 h2⟩) hS9.2.2 (Nat.le_of_ble_eq_true rfl) (Nat.le_of_ble_eq_true rfl)) (fun u9 t9 H9 l9 ht9 hvm9 hu9 hB9 hz9 hk9 hS9 => hu9.elim)
set_option maxHeartbeats 4000000 in
set_option maxRecDepth 100000 in
/-- clusterMinimum_p2 throws IndexOutOfBoundsException -/
theorem x_X7_clusterMinimum_p2 (l : Launch) (hls : l.stackTraces = false) (dC : Nat → ClassId) (dI : Nat → Nat → Nat) (q : Nat) (s0 : Nat) (s1 : Nat) (s2 : Nat) (w : Int32) (sa sz : Nat) (hW : pl w 64 = false) : vx_Met l yX7_clusterMinimum wsX7_clusterMinimum ({ frames := 7, cells := 1, slots := 6, locals := 103 }) (va_Pc [.ref q, .int (nI 2), .int w] (fun U => U.heap.size = sz ∧ TW "java/lang/IndexOutOfBoundsException" 165 "no such cluster, level, place or bucket" sa (fun q => sz ≤ q) U U.heap ∧ va_P (dC, dI) vwCl [(q, .inr (6, [.ref s0, .ref s1, .ref s2]))] U.heap ∧ va_K (dC, dI) vwCl [] U ∧ va_D (fun _ => True) [(q, .inr (6, [.ref s0, .ref s1, .ref s2]))])) (va_Qv (fun _ : Unit => False) (fun _ _ => True) (fun q => sz ≤ q)) (vx_X (fun _ : Unit => True) (fun E _ _ => E = "java/lang/IndexOutOfBoundsException") (fun q => sz ≤ q)) 1 6 (fun q => sz ≤ q) := by
  refine vx_ofW (cc := cX7_clusterMinimum) (maxL := 4) (ret := (some .int)) (by decide) rfl ?_
  intro p e s m args below meth c s₁ B hml hcat hv
  obtain ⟨rfl, hsz, hT, hP, hK, hD⟩ := hv
  have hx := B.exec
  have hb := B.bytes
  have hr := B.returns
  have hts := atoms_spec (ws := wsX7_clusterMinimum) B.pre
  have hown : s.vm.findClass RX7 = some m.cls := findClass_of_methodNamed B.named
  have hlocks := B.notSynchronized
  subst hsz
  have hS : va_S (fun q => s.heap.size ≤ q) s.heap s.heap [] := va_S.rf
  have hP : va_P (dC, dI) vwCl [(q, .inr (6, [.ref s0, .ref s1, .ref s2]))] s.heap := hP
  have hl := lv_entry ([.ref q, .int (nI 2), .int w]) (n := 4) (Nat.le_of_ble_eq_true rfl)
  rw [lg_entry_eq]
  generalize (lg_sl ([.ref q, .int (nI 2), .int w]) ++ List.replicate (4 - (lg_sl ([.ref q, .int (nI 2), .int w])).length) Slot.unset).toArray = ls at hl ⊢
  have hl : lv_has ls 4 [(0, .ref q), (1, .int (nI 2)), (2, .int w)] := hl
  refine lv_aload_n hx hb dX7_clusterMinimum_0 rfl (lv_at hl 0 rfl) ?_
  refine lv_iload_n hx hb dX7_clusterMinimum_1 rfl (lv_at hl 1 rfl) ?_
  have hPc := hP.sub (ws' := [(q, .inr (6, [.ref s0, .ref s1, .ref s2]))]) [0] rfl
  have hKc := hK.sub (tys' := []) [] rfl
  refine va_csr (W.runV (As := [.int (nI 2)]) (rest := []) ⟨hx, hb, hml, hown, hts⟩ (c_X7_chosenSet_2 l dC dI q s0 s1 s2 ) (cwV 1 hts gX7_clusterMinimum_X7_chosenSet rfl rfl rfl (by decide +kernel) ⟨Nat.le_of_ble_eq_true rfl, Nat.le_of_ble_eq_true rfl⟩) ⟨fun a U g mk q => by obtain ⟨q0, qP, qK⟩ := q; exact ⟨q0, qP, va_K.moved (u := U) (U := U.calling g mk a) (Vm.Alike.refl U.vm) qK⟩, va_recv hKc hPc (ci := 6) (q0 := 0) rfl rfl, fun U hU hW => ⟨rfl, by rw [hU]; exact hPc, va_K.moved hW.alike hKc⟩⟩ rfl rfl hl.1 rfl (lv_room (Nat.le_of_ble_eq_true rfl)) dX7_clusterMinimum_2 ⟨Nat.le_of_ble_eq_true rfl, Nat.le_of_ble_eq_true rfl⟩) (fun r_2 hw_1 => ?_)
  have hw_1 := hw_1.symm
  subst hw_1
  refine lv_astore_n (lv' := [(3, .ref s2), (0, .ref q), (1, .int (nI 2)), (2, .int w)]) hx hb dX7_clusterMinimum_5 rfl hl (by decide) rfl (fun ls hl => ?_)
  refine lv_iload_n hx hb dX7_clusterMinimum_6 rfl (lv_at hl 3 rfl) ?_
  refine lv_bipush (v := nI 64) hx hb dX7_clusterMinimum_7 (by decide +kernel) ?_
  have hPc := hP.sub (ws' := []) [] rfl
  have hKc := hK.sub (tys' := []) [] rfl
  have hDc := hD.sub (ws' := []) [] (by decide) rfl
  exact vx_callv (vx_runS (As := [.int w, .int (nI 64)]) (rest := []) ⟨hx, hb, hml, hown, hts⟩ (x_X7_needPlace l hls dC dI w 64 sa s.heap.size (by first | assumption | omega)) (va_cwS 2 hts gX7_clusterMinimum_X7_needPlace rfl rfl rfl (by decide +kernel) ⟨Nat.le_of_ble_eq_true rfl, Nat.le_of_ble_eq_true rfl⟩) ⟨fun a U g mk q => by obtain ⟨q0, q1, qT, qP, qK, qD⟩ := q; exact ⟨q0, q1, TW.same (u := U) (U := U.calling g mk a) rfl qT, qP, va_K.moved (u := U) (U := U.calling g mk a) (Vm.Alike.refl U.vm) qK, qD⟩, fun U hU hW => ⟨rfl, by rw [hU], by rw [hU]; exact TW.warm hW hT, by rw [hU]; exact hPc, va_K.moved hW.alike hKc, hDc.weaken (fun _ _ _ _ => trivial)⟩⟩ rfl rfl hl.1 rfl (lv_room (Nat.le_of_ble_eq_true rfl)) dX7_clusterMinimum_9 ⟨Nat.le_of_ble_eq_true rfl, Nat.le_of_ble_eq_true rfl⟩) hS (fun q h9 h8 => absurd h8 (Nat.not_le_of_lt h9)) (fun q h8 => Nat.le_trans hS.1 h8) (fun q h9 h8 => absurd h8 (Nat.not_le_of_lt h9)) (fun E9 ce9 q9 u9 t9 H9 l9 ht9 hvm9 hu9 hE9 hz9 hk9 hS9 hce9 hcv9 hcl9 => vx_out (fun x h => (hcat x h).elim) hlocks hce9 hcv9 hcl9 (fun t8 ht8 ha8 => ⟨(), trivial, hE9, by rw [ht8]; exact hz9, fun q h1 h2 => by rw [ht8]; exact hk9 q h1 h2⟩) hS9.2.2 (Nat.le_of_ble_eq_true rfl) (Nat.le_of_ble_eq_true rfl)) (fun u9 t9 H9 l9 ht9 hvm9 hu9 hB9 hz9 hk9 hS9 => hu9.elim)
set_option maxHeartbeats 4000000 in
set_option maxRecDepth 100000 in
/-- clusterMaximum_p2 throws IndexOutOfBoundsException -/
theorem x_X7_clusterMaximum_p2 (l : Launch) (hls : l.stackTraces = false) (dC : Nat → ClassId) (dI : Nat → Nat → Nat) (q : Nat) (s0 : Nat) (s1 : Nat) (s2 : Nat) (w : Int32) (sa sz : Nat) (hW : pl w 64 = false) : vx_Met l yX7_clusterMaximum wsX7_clusterMaximum ({ frames := 7, cells := 1, slots := 6, locals := 103 }) (va_Pc [.ref q, .int (nI 2), .int w] (fun U => U.heap.size = sz ∧ TW "java/lang/IndexOutOfBoundsException" 165 "no such cluster, level, place or bucket" sa (fun q => sz ≤ q) U U.heap ∧ va_P (dC, dI) vwCl [(q, .inr (6, [.ref s0, .ref s1, .ref s2]))] U.heap ∧ va_K (dC, dI) vwCl [] U ∧ va_D (fun _ => True) [(q, .inr (6, [.ref s0, .ref s1, .ref s2]))])) (va_Qv (fun _ : Unit => False) (fun _ _ => True) (fun q => sz ≤ q)) (vx_X (fun _ : Unit => True) (fun E _ _ => E = "java/lang/IndexOutOfBoundsException") (fun q => sz ≤ q)) 1 6 (fun q => sz ≤ q) := by
  refine vx_ofW (cc := cX7_clusterMaximum) (maxL := 4) (ret := (some .int)) (by decide) rfl ?_
  intro p e s m args below meth c s₁ B hml hcat hv
  obtain ⟨rfl, hsz, hT, hP, hK, hD⟩ := hv
  have hx := B.exec
  have hb := B.bytes
  have hr := B.returns
  have hts := atoms_spec (ws := wsX7_clusterMaximum) B.pre
  have hown : s.vm.findClass RX7 = some m.cls := findClass_of_methodNamed B.named
  have hlocks := B.notSynchronized
  subst hsz
  have hS : va_S (fun q => s.heap.size ≤ q) s.heap s.heap [] := va_S.rf
  have hP : va_P (dC, dI) vwCl [(q, .inr (6, [.ref s0, .ref s1, .ref s2]))] s.heap := hP
  have hl := lv_entry ([.ref q, .int (nI 2), .int w]) (n := 4) (Nat.le_of_ble_eq_true rfl)
  rw [lg_entry_eq]
  generalize (lg_sl ([.ref q, .int (nI 2), .int w]) ++ List.replicate (4 - (lg_sl ([.ref q, .int (nI 2), .int w])).length) Slot.unset).toArray = ls at hl ⊢
  have hl : lv_has ls 4 [(0, .ref q), (1, .int (nI 2)), (2, .int w)] := hl
  refine lv_aload_n hx hb dX7_clusterMaximum_0 rfl (lv_at hl 0 rfl) ?_
  refine lv_iload_n hx hb dX7_clusterMaximum_1 rfl (lv_at hl 1 rfl) ?_
  have hPc := hP.sub (ws' := [(q, .inr (6, [.ref s0, .ref s1, .ref s2]))]) [0] rfl
  have hKc := hK.sub (tys' := []) [] rfl
  refine va_csr (W.runV (As := [.int (nI 2)]) (rest := []) ⟨hx, hb, hml, hown, hts⟩ (c_X7_chosenSet_2 l dC dI q s0 s1 s2 ) (cwV 1 hts gX7_clusterMaximum_X7_chosenSet rfl rfl rfl (by decide +kernel) ⟨Nat.le_of_ble_eq_true rfl, Nat.le_of_ble_eq_true rfl⟩) ⟨fun a U g mk q => by obtain ⟨q0, qP, qK⟩ := q; exact ⟨q0, qP, va_K.moved (u := U) (U := U.calling g mk a) (Vm.Alike.refl U.vm) qK⟩, va_recv hKc hPc (ci := 6) (q0 := 0) rfl rfl, fun U hU hW => ⟨rfl, by rw [hU]; exact hPc, va_K.moved hW.alike hKc⟩⟩ rfl rfl hl.1 rfl (lv_room (Nat.le_of_ble_eq_true rfl)) dX7_clusterMaximum_2 ⟨Nat.le_of_ble_eq_true rfl, Nat.le_of_ble_eq_true rfl⟩) (fun r_2 hw_1 => ?_)
  have hw_1 := hw_1.symm
  subst hw_1
  refine lv_astore_n (lv' := [(3, .ref s2), (0, .ref q), (1, .int (nI 2)), (2, .int w)]) hx hb dX7_clusterMaximum_5 rfl hl (by decide) rfl (fun ls hl => ?_)
  refine lv_iload_n hx hb dX7_clusterMaximum_6 rfl (lv_at hl 3 rfl) ?_
  refine lv_bipush (v := nI 64) hx hb dX7_clusterMaximum_7 (by decide +kernel) ?_
  have hPc := hP.sub (ws' := []) [] rfl
  have hKc := hK.sub (tys' := []) [] rfl
  have hDc := hD.sub (ws' := []) [] (by decide) rfl
  exact vx_callv (vx_runS (As := [.int w, .int (nI 64)]) (rest := []) ⟨hx, hb, hml, hown, hts⟩ (x_X7_needPlace l hls dC dI w 64 sa s.heap.size (by first | assumption | omega)) (va_cwS 2 hts gX7_clusterMaximum_X7_needPlace rfl rfl rfl (by decide +kernel) ⟨Nat.le_of_ble_eq_true rfl, Nat.le_of_ble_eq_true rfl⟩) ⟨fun a U g mk q => by obtain ⟨q0, q1, qT, qP, qK, qD⟩ := q; exact ⟨q0, q1, TW.same (u := U) (U := U.calling g mk a) rfl qT, qP, va_K.moved (u := U) (U := U.calling g mk a) (Vm.Alike.refl U.vm) qK, qD⟩, fun U hU hW => ⟨rfl, by rw [hU], by rw [hU]; exact TW.warm hW hT, by rw [hU]; exact hPc, va_K.moved hW.alike hKc, hDc.weaken (fun _ _ _ _ => trivial)⟩⟩ rfl rfl hl.1 rfl (lv_room (Nat.le_of_ble_eq_true rfl)) dX7_clusterMaximum_9 ⟨Nat.le_of_ble_eq_true rfl, Nat.le_of_ble_eq_true rfl⟩) hS (fun q h9 h8 => absurd h8 (Nat.not_le_of_lt h9)) (fun q h8 => Nat.le_trans hS.1 h8) (fun q h9 h8 => absurd h8 (Nat.not_le_of_lt h9)) (fun E9 ce9 q9 u9 t9 H9 l9 ht9 hvm9 hu9 hE9 hz9 hk9 hS9 hce9 hcv9 hcl9 => vx_out (fun x h => (hcat x h).elim) hlocks hce9 hcv9 hcl9 (fun t8 ht8 ha8 => ⟨(), trivial, hE9, by rw [ht8]; exact hz9, fun q h1 h2 => by rw [ht8]; exact hk9 q h1 h2⟩) hS9.2.2 (Nat.le_of_ble_eq_true rfl) (Nat.le_of_ble_eq_true rfl)) (fun u9 t9 H9 l9 ht9 hvm9 hu9 hB9 hz9 hk9 hS9 => hu9.elim)
set_option maxHeartbeats 4000000 in
set_option maxRecDepth 100000 in
/-- prefixes_p2 throws IndexOutOfBoundsException -/
theorem x_X7_prefixes_p2 (l : Launch) (hls : l.stackTraces = false) (dC : Nat → ClassId) (dI : Nat → Nat → Nat) (q : Nat) (s0 : Nat) (s1 : Nat) (s2 : Nat) (w : Int32) (sa sz : Nat) (hW : pl w 13 = false) : vx_Met l yX7_prefixes wsX7_prefixes ({ frames := 7, cells := 1, slots := 6, locals := 103 }) (va_Pc [.ref q, .int (nI 2), .int w] (fun U => U.heap.size = sz ∧ TW "java/lang/IndexOutOfBoundsException" 165 "no such cluster, level, place or bucket" sa (fun q => sz ≤ q) U U.heap ∧ va_P (dC, dI) vwCl [(q, .inr (6, [.ref s0, .ref s1, .ref s2]))] U.heap ∧ va_K (dC, dI) vwCl [] U ∧ va_D (fun _ => True) [(q, .inr (6, [.ref s0, .ref s1, .ref s2]))])) (va_Qv (fun _ : Unit => False) (fun _ _ => True) (fun q => sz ≤ q)) (vx_X (fun _ : Unit => True) (fun E _ _ => E = "java/lang/IndexOutOfBoundsException") (fun q => sz ≤ q)) 1 6 (fun q => sz ≤ q) := by
  refine vx_ofW (cc := cX7_prefixes) (maxL := 4) (ret := (some .int)) (by decide) rfl ?_
  intro p e s m args below meth c s₁ B hml hcat hv
  obtain ⟨rfl, hsz, hT, hP, hK, hD⟩ := hv
  have hx := B.exec
  have hb := B.bytes
  have hr := B.returns
  have hts := atoms_spec (ws := wsX7_prefixes) B.pre
  have hown : s.vm.findClass RX7 = some m.cls := findClass_of_methodNamed B.named
  have hlocks := B.notSynchronized
  subst hsz
  have hS : va_S (fun q => s.heap.size ≤ q) s.heap s.heap [] := va_S.rf
  have hP : va_P (dC, dI) vwCl [(q, .inr (6, [.ref s0, .ref s1, .ref s2]))] s.heap := hP
  have hl := lv_entry ([.ref q, .int (nI 2), .int w]) (n := 4) (Nat.le_of_ble_eq_true rfl)
  rw [lg_entry_eq]
  generalize (lg_sl ([.ref q, .int (nI 2), .int w]) ++ List.replicate (4 - (lg_sl ([.ref q, .int (nI 2), .int w])).length) Slot.unset).toArray = ls at hl ⊢
  have hl : lv_has ls 4 [(0, .ref q), (1, .int (nI 2)), (2, .int w)] := hl
  refine lv_aload_n hx hb dX7_prefixes_0 rfl (lv_at hl 0 rfl) ?_
  refine lv_iload_n hx hb dX7_prefixes_1 rfl (lv_at hl 1 rfl) ?_
  have hPc := hP.sub (ws' := [(q, .inr (6, [.ref s0, .ref s1, .ref s2]))]) [0] rfl
  have hKc := hK.sub (tys' := []) [] rfl
  refine va_csr (W.runV (As := [.int (nI 2)]) (rest := []) ⟨hx, hb, hml, hown, hts⟩ (c_X7_chosenSet_2 l dC dI q s0 s1 s2 ) (cwV 1 hts gX7_prefixes_X7_chosenSet rfl rfl rfl (by decide +kernel) ⟨Nat.le_of_ble_eq_true rfl, Nat.le_of_ble_eq_true rfl⟩) ⟨fun a U g mk q => by obtain ⟨q0, qP, qK⟩ := q; exact ⟨q0, qP, va_K.moved (u := U) (U := U.calling g mk a) (Vm.Alike.refl U.vm) qK⟩, va_recv hKc hPc (ci := 6) (q0 := 0) rfl rfl, fun U hU hW => ⟨rfl, by rw [hU]; exact hPc, va_K.moved hW.alike hKc⟩⟩ rfl rfl hl.1 rfl (lv_room (Nat.le_of_ble_eq_true rfl)) dX7_prefixes_2 ⟨Nat.le_of_ble_eq_true rfl, Nat.le_of_ble_eq_true rfl⟩) (fun r_2 hw_1 => ?_)
  have hw_1 := hw_1.symm
  subst hw_1
  refine lv_astore_n (lv' := [(3, .ref s2), (0, .ref q), (1, .int (nI 2)), (2, .int w)]) hx hb dX7_prefixes_5 rfl hl (by decide) rfl (fun ls hl => ?_)
  refine lv_iload_n hx hb dX7_prefixes_6 rfl (lv_at hl 3 rfl) ?_
  refine lv_bipush (v := nI 13) hx hb dX7_prefixes_7 (by decide +kernel) ?_
  have hPc := hP.sub (ws' := []) [] rfl
  have hKc := hK.sub (tys' := []) [] rfl
  have hDc := hD.sub (ws' := []) [] (by decide) rfl
  exact vx_callv (vx_runS (As := [.int w, .int (nI 13)]) (rest := []) ⟨hx, hb, hml, hown, hts⟩ (x_X7_needPlace l hls dC dI w 13 sa s.heap.size (by first | assumption | omega)) (va_cwS 2 hts gX7_prefixes_X7_needPlace rfl rfl rfl (by decide +kernel) ⟨Nat.le_of_ble_eq_true rfl, Nat.le_of_ble_eq_true rfl⟩) ⟨fun a U g mk q => by obtain ⟨q0, q1, qT, qP, qK, qD⟩ := q; exact ⟨q0, q1, TW.same (u := U) (U := U.calling g mk a) rfl qT, qP, va_K.moved (u := U) (U := U.calling g mk a) (Vm.Alike.refl U.vm) qK, qD⟩, fun U hU hW => ⟨rfl, by rw [hU], by rw [hU]; exact TW.warm hW hT, by rw [hU]; exact hPc, va_K.moved hW.alike hKc, hDc.weaken (fun _ _ _ _ => trivial)⟩⟩ rfl rfl hl.1 rfl (lv_room (Nat.le_of_ble_eq_true rfl)) dX7_prefixes_9 ⟨Nat.le_of_ble_eq_true rfl, Nat.le_of_ble_eq_true rfl⟩) hS (fun q h9 h8 => absurd h8 (Nat.not_le_of_lt h9)) (fun q h8 => Nat.le_trans hS.1 h8) (fun q h9 h8 => absurd h8 (Nat.not_le_of_lt h9)) (fun E9 ce9 q9 u9 t9 H9 l9 ht9 hvm9 hu9 hE9 hz9 hk9 hS9 hce9 hcv9 hcl9 => vx_out (fun x h => (hcat x h).elim) hlocks hce9 hcv9 hcl9 (fun t8 ht8 ha8 => ⟨(), trivial, hE9, by rw [ht8]; exact hz9, fun q h1 h2 => by rw [ht8]; exact hk9 q h1 h2⟩) hS9.2.2 (Nat.le_of_ble_eq_true rfl) (Nat.le_of_ble_eq_true rfl)) (fun u9 t9 H9 l9 ht9 hvm9 hu9 hB9 hz9 hk9 hS9 => hu9.elim)
set_option maxHeartbeats 4000000 in
set_option maxRecDepth 100000 in
/-- select_p2 throws IndexOutOfBoundsException -/
theorem x_X7_select_p2 (l : Launch) (hls : l.stackTraces = false) (dC : Nat → ClassId) (dI : Nat → Nat → Nat) (q : Nat) (s0 : Nat) (s1 : Nat) (s2 : Nat) (tq : Nat) (ca : Nat) (rq : Nat) (rb : Nat) (rd : Nat) (uq : Nat) (bm : Nat) (am : Nat) (bs : Nat) (ap : Nat) (cJ : ClassId) (fm : Nat → Int64) (fs : Nat → Int64) (ft : Nat → Int64) (fc : Nat → Int64) (sm : Int64) (lo : Option Nat) (w : Int32) (sa sz : Nat) (hN : NI fm fs ft fc sm lo) (hW : pl w (fb_ct (bo fm) 4096) = false) : vx_Met l yX7_select wsX7_select ({ frames := 7, cells := 1, slots := 6, locals := 103 }) (va_Pc [.ref q, .int (nI 2), .int w] (fun U => va_Nw (.fieldLinkNest RX7 38 "SmallNumberSets$NumberSet" "buckets" "LSmallNumberSets$Buckets;" "SmallNumberSets") U ∧ U.heap.size = sz ∧ TW "java/lang/IndexOutOfBoundsException" 165 "no such cluster, level, place or bucket" sa (fun q => sz ≤ q) U U.heap ∧ va_P (dC, dI) vwCl [(q, .inr (6, [.ref s0, .ref s1, .ref s2])), (s2, .inr (3, [.ref tq, .ref rq, .ref uq])), (tq, .inr (4, [.ref ca, .long sm, .int (oI lo)])), (ca, .inl (cJ, 64, .inr (.inl fc))), (rq, .inr (5, [.ref rb])), (rb, .inr (0, [.ref rd])), (rd, .inl (cJ, 128, .inr (.inl ft))), (uq, .inr (1, [.ref bm, .ref bs])), (bm, .inr (0, [.ref am])), (am, .inl (cJ, 64, .inr (.inl fm))), (bs, .inr (0, [.ref ap])), (ap, .inl (cJ, 64, .inr (.inl fs)))] U.heap ∧ va_K (dC, dI) vwCl [(cJ, .long)] U ∧ va_D (fun _ => True) [(q, .inr (6, [.ref s0, .ref s1, .ref s2])), (s2, .inr (3, [.ref tq, .ref rq, .ref uq])), (tq, .inr (4, [.ref ca, .long sm, .int (oI lo)])), (ca, .inl (cJ, 64, .inr (.inl fc))), (rq, .inr (5, [.ref rb])), (rb, .inr (0, [.ref rd])), (rd, .inl (cJ, 128, .inr (.inl ft))), (uq, .inr (1, [.ref bm, .ref bs])), (bm, .inr (0, [.ref am])), (am, .inl (cJ, 64, .inr (.inl fm))), (bs, .inr (0, [.ref ap])), (ap, .inl (cJ, 64, .inr (.inl fs)))])) (va_Qv (fun _ : Unit => False) (fun _ _ => True) (fun q => sz ≤ q)) (vx_X (fun _ : Unit => True) (fun E _ _ => E = "java/lang/IndexOutOfBoundsException") (fun q => sz ≤ q)) 1 6 (fun q => sz ≤ q) := by
  refine vx_ofW (cc := cX7_select) (maxL := 4) (ret := (some .int)) (by decide) rfl ?_
  intro p e s m args below meth c s₁ B hml hcat hv
  obtain ⟨rfl, nw0, hsz, hT, hP, hK, hD⟩ := hv
  have hx := B.exec
  have hb := B.bytes
  have hr := B.returns
  have hts := atoms_spec (ws := wsX7_select) B.pre
  have hown : s.vm.findClass RX7 = some m.cls := findClass_of_methodNamed B.named
  have hlocks := B.notSynchronized
  subst hsz
  have hS : va_S (fun q => s.heap.size ≤ q) s.heap s.heap [] := va_S.rf
  have hP : va_P (dC, dI) vwCl [(q, .inr (6, [.ref s0, .ref s1, .ref s2])), (s2, .inr (3, [.ref tq, .ref rq, .ref uq])), (tq, .inr (4, [.ref ca, .long sm, .int (oI lo)])), (ca, .inl (cJ, 64, .inr (.inl fc))), (rq, .inr (5, [.ref rb])), (rb, .inr (0, [.ref rd])), (rd, .inl (cJ, 128, .inr (.inl ft))), (uq, .inr (1, [.ref bm, .ref bs])), (bm, .inr (0, [.ref am])), (am, .inl (cJ, 64, .inr (.inl fm))), (bs, .inr (0, [.ref ap])), (ap, .inl (cJ, 64, .inr (.inl fs)))] s.heap := hP
  have hl := lv_entry ([.ref q, .int (nI 2), .int w]) (n := 4) (Nat.le_of_ble_eq_true rfl)
  rw [lg_entry_eq]
  generalize (lg_sl ([.ref q, .int (nI 2), .int w]) ++ List.replicate (4 - (lg_sl ([.ref q, .int (nI 2), .int w])).length) Slot.unset).toArray = ls at hl ⊢
  have hl : lv_has ls 4 [(0, .ref q), (1, .int (nI 2)), (2, .int w)] := hl
  refine lv_aload_n hx hb dX7_select_0 rfl (lv_at hl 0 rfl) ?_
  refine lv_iload_n hx hb dX7_select_1 rfl (lv_at hl 1 rfl) ?_
  have hPc := hP.sub (ws' := [(q, .inr (6, [.ref s0, .ref s1, .ref s2]))]) [0] rfl
  have hKc := hK.sub (tys' := []) [] rfl
  refine va_csr (W.runV (As := [.int (nI 2)]) (rest := []) ⟨hx, hb, hml, hown, hts⟩ (c_X7_chosenSet_2 l dC dI q s0 s1 s2 ) (cwV 1 hts gX7_select_X7_chosenSet rfl rfl rfl (by decide +kernel) ⟨Nat.le_of_ble_eq_true rfl, Nat.le_of_ble_eq_true rfl⟩) ⟨fun a U g mk q => by obtain ⟨q0, qP, qK⟩ := q; exact ⟨q0, qP, va_K.moved (u := U) (U := U.calling g mk a) (Vm.Alike.refl U.vm) qK⟩, va_recv hKc hPc (ci := 6) (q0 := 0) rfl rfl, fun U hU hW => ⟨rfl, by rw [hU]; exact hPc, va_K.moved hW.alike hKc⟩⟩ rfl rfl hl.1 rfl (lv_room (Nat.le_of_ble_eq_true rfl)) dX7_select_2 ⟨Nat.le_of_ble_eq_true rfl, Nat.le_of_ble_eq_true rfl⟩) (fun r_2 hw_1 => ?_)
  have hw_1 := hw_1.symm
  subst hw_1
  refine lv_astore_n (lv' := [(3, .ref s2), (0, .ref q), (1, .int (nI 2)), (2, .int w)]) hx hb dX7_select_5 rfl hl (by decide) rfl (fun ls hl => ?_)
  refine lv_iload_n hx hb dX7_select_6 rfl (lv_at hl 3 rfl) ?_
  refine lv_aload_n hx hb dX7_select_7 rfl (lv_at hl 0 rfl) ?_
  refine va_getN (D := (dC, dI)) (ci := 3) (v := .ref uq) (C := RX3) (T := TX3) (N := 3) hx hb hts (by decide +kernel) hown hK hP 1 rfl rfl 2 (by decide) (va_Nw.use rfl nw0) (fun _ h9 => h9) rfl dX7_select_8 ?_
  have hPc := hP.sub (ws' := [(uq, .inr (1, [.ref bm, .ref bs])), (bm, .inr (0, [.ref am])), (am, .inl (cJ, 64, .inr (.inl fm))), (bs, .inr (0, [.ref ap])), (ap, .inl (cJ, 64, .inr (.inl fs)))]) [7, 8, 9, 10, 11] rfl
  have hKc := hK.sub (tys' := [(cJ, .long)]) [0] rfl
  refine vp_callSi (W.runV (As := []) (rest := [.int w]) ⟨hx, hb, hml, hown, hts⟩ (c_X1_memberCount l dC dI uq bm am bs ap cJ fm fs ) (cwV 0 hts gX7_select_X1_memberCount rfl rfl rfl (by decide +kernel) ⟨Nat.le_of_ble_eq_true rfl, Nat.le_of_ble_eq_true rfl⟩) ⟨fun a U g mk q => by obtain ⟨q0, qP, qK⟩ := q; exact ⟨q0, qP, va_K.moved (u := U) (U := U.calling g mk a) (Vm.Alike.refl U.vm) qK⟩, va_recv hKc hPc (ci := 1) (q0 := 0) rfl rfl, fun U hU hW => ⟨rfl, by rw [hU]; exact hPc, va_K.moved hW.alike hKc⟩⟩ rfl rfl hl.1 rfl (lv_room (Nat.le_of_ble_eq_true rfl)) dX7_select_11 ⟨Nat.le_of_ble_eq_true rfl, Nat.le_of_ble_eq_true rfl⟩) (fun r_4 hw_3 => ?_)
  subst hw_3
  have hPc := hP.sub (ws' := []) [] rfl
  have hKc := hK.sub (tys' := []) [] rfl
  have hDc := hD.sub (ws' := []) [] (by decide) rfl
  exact vx_callv (vx_runS (As := [.int w, .int (nI (fb_ct (bo fm) 4096))]) (rest := []) ⟨hx, hb, hml, hown, hts⟩ (x_X7_needPlace l hls dC dI w (fb_ct (bo fm) 4096) sa s.heap.size (by first | assumption | omega)) (va_cwS 2 hts gX7_select_X7_needPlace rfl rfl rfl (by decide +kernel) ⟨Nat.le_of_ble_eq_true rfl, Nat.le_of_ble_eq_true rfl⟩) ⟨fun a U g mk q => by obtain ⟨q0, q1, qT, qP, qK, qD⟩ := q; exact ⟨q0, q1, TW.same (u := U) (U := U.calling g mk a) rfl qT, qP, va_K.moved (u := U) (U := U.calling g mk a) (Vm.Alike.refl U.vm) qK, qD⟩, fun U hU hW => ⟨rfl, by rw [hU], by rw [hU]; exact TW.warm hW hT, by rw [hU]; exact hPc, va_K.moved hW.alike hKc, hDc.weaken (fun _ _ _ _ => trivial)⟩⟩ rfl rfl hl.1 rfl (lv_room (Nat.le_of_ble_eq_true rfl)) dX7_select_14 ⟨Nat.le_of_ble_eq_true rfl, Nat.le_of_ble_eq_true rfl⟩) hS (fun q h9 h8 => absurd h8 (Nat.not_le_of_lt h9)) (fun q h8 => Nat.le_trans hS.1 h8) (fun q h9 h8 => absurd h8 (Nat.not_le_of_lt h9)) (fun E9 ce9 q9 u9 t9 H9 l9 ht9 hvm9 hu9 hE9 hz9 hk9 hS9 hce9 hcv9 hcl9 => vx_out (fun x h => (hcat x h).elim) hlocks hce9 hcv9 hcl9 (fun t8 ht8 ha8 => ⟨(), trivial, hE9, by rw [ht8]; exact hz9, fun q h1 h2 => by rw [ht8]; exact hk9 q h1 h2⟩) hS9.2.2 (Nat.le_of_ble_eq_true rfl) (Nat.le_of_ble_eq_true rfl)) (fun u9 t9 H9 l9 ht9 hvm9 hu9 hB9 hz9 hk9 hS9 => hu9.elim)
set_option maxHeartbeats 4000000 in
set_option maxRecDepth 100000 in
/-- separator_p2 throws IndexOutOfBoundsException -/
theorem x_X7_separator_p2 (l : Launch) (hls : l.stackTraces = false) (dC : Nat → ClassId) (dI : Nat → Nat → Nat) (q : Nat) (s0 : Nat) (s1 : Nat) (s2 : Nat) (tq : Nat) (ca : Nat) (rq : Nat) (rb : Nat) (rd : Nat) (uq : Nat) (bm : Nat) (am : Nat) (bs : Nat) (ap : Nat) (cJ : ClassId) (fm : Nat → Int64) (fs : Nat → Int64) (ft : Nat → Int64) (fc : Nat → Int64) (sm : Int64) (lo : Option Nat) (w : Int32) (sa sz : Nat) (hN : NI fm fs ft fc sm lo) (hW : pl w (fb_ct (bo fs) 4096) = false) : vx_Met l yX7_separator wsX7_separator ({ frames := 7, cells := 1, slots := 6, locals := 103 }) (va_Pc [.ref q, .int (nI 2), .int w] (fun U => va_Nw (.fieldLinkNest RX7 38 "SmallNumberSets$NumberSet" "buckets" "LSmallNumberSets$Buckets;" "SmallNumberSets") U ∧ U.heap.size = sz ∧ TW "java/lang/IndexOutOfBoundsException" 165 "no such cluster, level, place or bucket" sa (fun q => sz ≤ q) U U.heap ∧ va_P (dC, dI) vwCl [(q, .inr (6, [.ref s0, .ref s1, .ref s2])), (s2, .inr (3, [.ref tq, .ref rq, .ref uq])), (tq, .inr (4, [.ref ca, .long sm, .int (oI lo)])), (ca, .inl (cJ, 64, .inr (.inl fc))), (rq, .inr (5, [.ref rb])), (rb, .inr (0, [.ref rd])), (rd, .inl (cJ, 128, .inr (.inl ft))), (uq, .inr (1, [.ref bm, .ref bs])), (bm, .inr (0, [.ref am])), (am, .inl (cJ, 64, .inr (.inl fm))), (bs, .inr (0, [.ref ap])), (ap, .inl (cJ, 64, .inr (.inl fs)))] U.heap ∧ va_K (dC, dI) vwCl [(cJ, .long)] U ∧ va_D (fun _ => True) [(q, .inr (6, [.ref s0, .ref s1, .ref s2])), (s2, .inr (3, [.ref tq, .ref rq, .ref uq])), (tq, .inr (4, [.ref ca, .long sm, .int (oI lo)])), (ca, .inl (cJ, 64, .inr (.inl fc))), (rq, .inr (5, [.ref rb])), (rb, .inr (0, [.ref rd])), (rd, .inl (cJ, 128, .inr (.inl ft))), (uq, .inr (1, [.ref bm, .ref bs])), (bm, .inr (0, [.ref am])), (am, .inl (cJ, 64, .inr (.inl fm))), (bs, .inr (0, [.ref ap])), (ap, .inl (cJ, 64, .inr (.inl fs)))])) (va_Qv (fun _ : Unit => False) (fun _ _ => True) (fun q => sz ≤ q)) (vx_X (fun _ : Unit => True) (fun E _ _ => E = "java/lang/IndexOutOfBoundsException") (fun q => sz ≤ q)) 1 6 (fun q => sz ≤ q) := by
  refine vx_ofW (cc := cX7_separator) (maxL := 4) (ret := (some .int)) (by decide) rfl ?_
  intro p e s m args below meth c s₁ B hml hcat hv
  obtain ⟨rfl, nw0, hsz, hT, hP, hK, hD⟩ := hv
  have hx := B.exec
  have hb := B.bytes
  have hr := B.returns
  have hts := atoms_spec (ws := wsX7_separator) B.pre
  have hown : s.vm.findClass RX7 = some m.cls := findClass_of_methodNamed B.named
  have hlocks := B.notSynchronized
  subst hsz
  have hS : va_S (fun q => s.heap.size ≤ q) s.heap s.heap [] := va_S.rf
  have hP : va_P (dC, dI) vwCl [(q, .inr (6, [.ref s0, .ref s1, .ref s2])), (s2, .inr (3, [.ref tq, .ref rq, .ref uq])), (tq, .inr (4, [.ref ca, .long sm, .int (oI lo)])), (ca, .inl (cJ, 64, .inr (.inl fc))), (rq, .inr (5, [.ref rb])), (rb, .inr (0, [.ref rd])), (rd, .inl (cJ, 128, .inr (.inl ft))), (uq, .inr (1, [.ref bm, .ref bs])), (bm, .inr (0, [.ref am])), (am, .inl (cJ, 64, .inr (.inl fm))), (bs, .inr (0, [.ref ap])), (ap, .inl (cJ, 64, .inr (.inl fs)))] s.heap := hP
  have hl := lv_entry ([.ref q, .int (nI 2), .int w]) (n := 4) (Nat.le_of_ble_eq_true rfl)
  rw [lg_entry_eq]
  generalize (lg_sl ([.ref q, .int (nI 2), .int w]) ++ List.replicate (4 - (lg_sl ([.ref q, .int (nI 2), .int w])).length) Slot.unset).toArray = ls at hl ⊢
  have hl : lv_has ls 4 [(0, .ref q), (1, .int (nI 2)), (2, .int w)] := hl
  refine lv_aload_n hx hb dX7_separator_0 rfl (lv_at hl 0 rfl) ?_
  refine lv_iload_n hx hb dX7_separator_1 rfl (lv_at hl 1 rfl) ?_
  have hPc := hP.sub (ws' := [(q, .inr (6, [.ref s0, .ref s1, .ref s2]))]) [0] rfl
  have hKc := hK.sub (tys' := []) [] rfl
  refine va_csr (W.runV (As := [.int (nI 2)]) (rest := []) ⟨hx, hb, hml, hown, hts⟩ (c_X7_chosenSet_2 l dC dI q s0 s1 s2 ) (cwV 1 hts gX7_separator_X7_chosenSet rfl rfl rfl (by decide +kernel) ⟨Nat.le_of_ble_eq_true rfl, Nat.le_of_ble_eq_true rfl⟩) ⟨fun a U g mk q => by obtain ⟨q0, qP, qK⟩ := q; exact ⟨q0, qP, va_K.moved (u := U) (U := U.calling g mk a) (Vm.Alike.refl U.vm) qK⟩, va_recv hKc hPc (ci := 6) (q0 := 0) rfl rfl, fun U hU hW => ⟨rfl, by rw [hU]; exact hPc, va_K.moved hW.alike hKc⟩⟩ rfl rfl hl.1 rfl (lv_room (Nat.le_of_ble_eq_true rfl)) dX7_separator_2 ⟨Nat.le_of_ble_eq_true rfl, Nat.le_of_ble_eq_true rfl⟩) (fun r_2 hw_1 => ?_)
  have hw_1 := hw_1.symm
  subst hw_1
  refine lv_astore_n (lv' := [(3, .ref s2), (0, .ref q), (1, .int (nI 2)), (2, .int w)]) hx hb dX7_separator_5 rfl hl (by decide) rfl (fun ls hl => ?_)
  refine lv_iload_n hx hb dX7_separator_6 rfl (lv_at hl 3 rfl) ?_
  refine lv_aload_n hx hb dX7_separator_7 rfl (lv_at hl 0 rfl) ?_
  refine va_getN (D := (dC, dI)) (ci := 3) (v := .ref uq) (C := RX3) (T := TX3) (N := 3) hx hb hts (by decide +kernel) hown hK hP 1 rfl rfl 2 (by decide) (va_Nw.use rfl nw0) (fun _ h9 => h9) rfl dX7_separator_8 ?_
  have hPc := hP.sub (ws' := [(uq, .inr (1, [.ref bm, .ref bs])), (bm, .inr (0, [.ref am])), (am, .inl (cJ, 64, .inr (.inl fm))), (bs, .inr (0, [.ref ap])), (ap, .inl (cJ, 64, .inr (.inl fs)))]) [7, 8, 9, 10, 11] rfl
  have hKc := hK.sub (tys' := [(cJ, .long)]) [0] rfl
  refine vp_callSi (W.runV (As := []) (rest := [.int w]) ⟨hx, hb, hml, hown, hts⟩ (c_X1_bucketCount l dC dI uq bm am bs ap cJ fm fs ) (cwV 0 hts gX7_separator_X1_bucketCount rfl rfl rfl (by decide +kernel) ⟨Nat.le_of_ble_eq_true rfl, Nat.le_of_ble_eq_true rfl⟩) ⟨fun a U g mk q => by obtain ⟨q0, qP, qK⟩ := q; exact ⟨q0, qP, va_K.moved (u := U) (U := U.calling g mk a) (Vm.Alike.refl U.vm) qK⟩, va_recv hKc hPc (ci := 1) (q0 := 0) rfl rfl, fun U hU hW => ⟨rfl, by rw [hU]; exact hPc, va_K.moved hW.alike hKc⟩⟩ rfl rfl hl.1 rfl (lv_room (Nat.le_of_ble_eq_true rfl)) dX7_separator_11 ⟨Nat.le_of_ble_eq_true rfl, Nat.le_of_ble_eq_true rfl⟩) (fun r_4 hw_3 => ?_)
  subst hw_3
  have hPc := hP.sub (ws' := []) [] rfl
  have hKc := hK.sub (tys' := []) [] rfl
  have hDc := hD.sub (ws' := []) [] (by decide) rfl
  exact vx_callv (vx_runS (As := [.int w, .int (nI (fb_ct (bo fs) 4096))]) (rest := []) ⟨hx, hb, hml, hown, hts⟩ (x_X7_needPlace l hls dC dI w (fb_ct (bo fs) 4096) sa s.heap.size (by first | assumption | omega)) (va_cwS 2 hts gX7_separator_X7_needPlace rfl rfl rfl (by decide +kernel) ⟨Nat.le_of_ble_eq_true rfl, Nat.le_of_ble_eq_true rfl⟩) ⟨fun a U g mk q => by obtain ⟨q0, q1, qT, qP, qK, qD⟩ := q; exact ⟨q0, q1, TW.same (u := U) (U := U.calling g mk a) rfl qT, qP, va_K.moved (u := U) (U := U.calling g mk a) (Vm.Alike.refl U.vm) qK, qD⟩, fun U hU hW => ⟨rfl, by rw [hU], by rw [hU]; exact TW.warm hW hT, by rw [hU]; exact hPc, va_K.moved hW.alike hKc, hDc.weaken (fun _ _ _ _ => trivial)⟩⟩ rfl rfl hl.1 rfl (lv_room (Nat.le_of_ble_eq_true rfl)) dX7_separator_14 ⟨Nat.le_of_ble_eq_true rfl, Nat.le_of_ble_eq_true rfl⟩) hS (fun q h9 h8 => absurd h8 (Nat.not_le_of_lt h9)) (fun q h8 => Nat.le_trans hS.1 h8) (fun q h9 h8 => absurd h8 (Nat.not_le_of_lt h9)) (fun E9 ce9 q9 u9 t9 H9 l9 ht9 hvm9 hu9 hE9 hz9 hk9 hS9 hce9 hcv9 hcl9 => vx_out (fun x h => (hcat x h).elim) hlocks hce9 hcv9 hcl9 (fun t8 ht8 ha8 => ⟨(), trivial, hE9, by rw [ht8]; exact hz9, fun q h1 h2 => by rw [ht8]; exact hk9 q h1 h2⟩) hS9.2.2 (Nat.le_of_ble_eq_true rfl) (Nat.le_of_ble_eq_true rfl)) (fun u9 t9 H9 l9 ht9 hvm9 hu9 hB9 hz9 hk9 hS9 => hu9.elim)
set_option maxHeartbeats 4000000 in
set_option maxRecDepth 100000 in
/-- bucketSize_p2 throws IndexOutOfBoundsException -/
theorem x_X7_bucketSize_p2 (l : Launch) (hls : l.stackTraces = false) (dC : Nat → ClassId) (dI : Nat → Nat → Nat) (q : Nat) (s0 : Nat) (s1 : Nat) (s2 : Nat) (tq : Nat) (ca : Nat) (rq : Nat) (rb : Nat) (rd : Nat) (uq : Nat) (bm : Nat) (am : Nat) (bs : Nat) (ap : Nat) (cJ : ClassId) (fm : Nat → Int64) (fs : Nat → Int64) (ft : Nat → Int64) (fc : Nat → Int64) (sm : Int64) (lo : Option Nat) (w : Int32) (sa sz : Nat) (hN : NI fm fs ft fc sm lo) (hW : pl w (fb_ct (bo fs) 4096) = false) : vx_Met l yX7_bucketSize wsX7_bucketSize ({ frames := 7, cells := 1, slots := 6, locals := 103 }) (va_Pc [.ref q, .int (nI 2), .int w] (fun U => va_Nw (.fieldLinkNest RX7 38 "SmallNumberSets$NumberSet" "buckets" "LSmallNumberSets$Buckets;" "SmallNumberSets") U ∧ U.heap.size = sz ∧ TW "java/lang/IndexOutOfBoundsException" 165 "no such cluster, level, place or bucket" sa (fun q => sz ≤ q) U U.heap ∧ va_P (dC, dI) vwCl [(q, .inr (6, [.ref s0, .ref s1, .ref s2])), (s2, .inr (3, [.ref tq, .ref rq, .ref uq])), (tq, .inr (4, [.ref ca, .long sm, .int (oI lo)])), (ca, .inl (cJ, 64, .inr (.inl fc))), (rq, .inr (5, [.ref rb])), (rb, .inr (0, [.ref rd])), (rd, .inl (cJ, 128, .inr (.inl ft))), (uq, .inr (1, [.ref bm, .ref bs])), (bm, .inr (0, [.ref am])), (am, .inl (cJ, 64, .inr (.inl fm))), (bs, .inr (0, [.ref ap])), (ap, .inl (cJ, 64, .inr (.inl fs)))] U.heap ∧ va_K (dC, dI) vwCl [(cJ, .long)] U ∧ va_D (fun _ => True) [(q, .inr (6, [.ref s0, .ref s1, .ref s2])), (s2, .inr (3, [.ref tq, .ref rq, .ref uq])), (tq, .inr (4, [.ref ca, .long sm, .int (oI lo)])), (ca, .inl (cJ, 64, .inr (.inl fc))), (rq, .inr (5, [.ref rb])), (rb, .inr (0, [.ref rd])), (rd, .inl (cJ, 128, .inr (.inl ft))), (uq, .inr (1, [.ref bm, .ref bs])), (bm, .inr (0, [.ref am])), (am, .inl (cJ, 64, .inr (.inl fm))), (bs, .inr (0, [.ref ap])), (ap, .inl (cJ, 64, .inr (.inl fs)))])) (va_Qv (fun _ : Unit => False) (fun _ _ => True) (fun q => sz ≤ q)) (vx_X (fun _ : Unit => True) (fun E _ _ => E = "java/lang/IndexOutOfBoundsException") (fun q => sz ≤ q)) 1 6 (fun q => sz ≤ q) := by
  refine vx_ofW (cc := cX7_bucketSize) (maxL := 4) (ret := (some .int)) (by decide) rfl ?_
  intro p e s m args below meth c s₁ B hml hcat hv
  obtain ⟨rfl, nw0, hsz, hT, hP, hK, hD⟩ := hv
  have hx := B.exec
  have hb := B.bytes
  have hr := B.returns
  have hts := atoms_spec (ws := wsX7_bucketSize) B.pre
  have hown : s.vm.findClass RX7 = some m.cls := findClass_of_methodNamed B.named
  have hlocks := B.notSynchronized
  subst hsz
  have hS : va_S (fun q => s.heap.size ≤ q) s.heap s.heap [] := va_S.rf
  have hP : va_P (dC, dI) vwCl [(q, .inr (6, [.ref s0, .ref s1, .ref s2])), (s2, .inr (3, [.ref tq, .ref rq, .ref uq])), (tq, .inr (4, [.ref ca, .long sm, .int (oI lo)])), (ca, .inl (cJ, 64, .inr (.inl fc))), (rq, .inr (5, [.ref rb])), (rb, .inr (0, [.ref rd])), (rd, .inl (cJ, 128, .inr (.inl ft))), (uq, .inr (1, [.ref bm, .ref bs])), (bm, .inr (0, [.ref am])), (am, .inl (cJ, 64, .inr (.inl fm))), (bs, .inr (0, [.ref ap])), (ap, .inl (cJ, 64, .inr (.inl fs)))] s.heap := hP
  have hl := lv_entry ([.ref q, .int (nI 2), .int w]) (n := 4) (Nat.le_of_ble_eq_true rfl)
  rw [lg_entry_eq]
  generalize (lg_sl ([.ref q, .int (nI 2), .int w]) ++ List.replicate (4 - (lg_sl ([.ref q, .int (nI 2), .int w])).length) Slot.unset).toArray = ls at hl ⊢
  have hl : lv_has ls 4 [(0, .ref q), (1, .int (nI 2)), (2, .int w)] := hl
  refine lv_aload_n hx hb dX7_bucketSize_0 rfl (lv_at hl 0 rfl) ?_
  refine lv_iload_n hx hb dX7_bucketSize_1 rfl (lv_at hl 1 rfl) ?_
  have hPc := hP.sub (ws' := [(q, .inr (6, [.ref s0, .ref s1, .ref s2]))]) [0] rfl
  have hKc := hK.sub (tys' := []) [] rfl
  refine va_csr (W.runV (As := [.int (nI 2)]) (rest := []) ⟨hx, hb, hml, hown, hts⟩ (c_X7_chosenSet_2 l dC dI q s0 s1 s2 ) (cwV 1 hts gX7_bucketSize_X7_chosenSet rfl rfl rfl (by decide +kernel) ⟨Nat.le_of_ble_eq_true rfl, Nat.le_of_ble_eq_true rfl⟩) ⟨fun a U g mk q => by obtain ⟨q0, qP, qK⟩ := q; exact ⟨q0, qP, va_K.moved (u := U) (U := U.calling g mk a) (Vm.Alike.refl U.vm) qK⟩, va_recv hKc hPc (ci := 6) (q0 := 0) rfl rfl, fun U hU hW => ⟨rfl, by rw [hU]; exact hPc, va_K.moved hW.alike hKc⟩⟩ rfl rfl hl.1 rfl (lv_room (Nat.le_of_ble_eq_true rfl)) dX7_bucketSize_2 ⟨Nat.le_of_ble_eq_true rfl, Nat.le_of_ble_eq_true rfl⟩) (fun r_2 hw_1 => ?_)
  have hw_1 := hw_1.symm
  subst hw_1
  refine lv_astore_n (lv' := [(3, .ref s2), (0, .ref q), (1, .int (nI 2)), (2, .int w)]) hx hb dX7_bucketSize_5 rfl hl (by decide) rfl (fun ls hl => ?_)
  refine lv_iload_n hx hb dX7_bucketSize_6 rfl (lv_at hl 3 rfl) ?_
  refine lv_aload_n hx hb dX7_bucketSize_7 rfl (lv_at hl 0 rfl) ?_
  refine va_getN (D := (dC, dI)) (ci := 3) (v := .ref uq) (C := RX3) (T := TX3) (N := 3) hx hb hts (by decide +kernel) hown hK hP 1 rfl rfl 2 (by decide) (va_Nw.use rfl nw0) (fun _ h9 => h9) rfl dX7_bucketSize_8 ?_
  have hPc := hP.sub (ws' := [(uq, .inr (1, [.ref bm, .ref bs])), (bm, .inr (0, [.ref am])), (am, .inl (cJ, 64, .inr (.inl fm))), (bs, .inr (0, [.ref ap])), (ap, .inl (cJ, 64, .inr (.inl fs)))]) [7, 8, 9, 10, 11] rfl
  have hKc := hK.sub (tys' := [(cJ, .long)]) [0] rfl
  refine vp_callSi (W.runV (As := []) (rest := [.int w]) ⟨hx, hb, hml, hown, hts⟩ (c_X1_bucketCount l dC dI uq bm am bs ap cJ fm fs ) (cwV 0 hts gX7_bucketSize_X1_bucketCount rfl rfl rfl (by decide +kernel) ⟨Nat.le_of_ble_eq_true rfl, Nat.le_of_ble_eq_true rfl⟩) ⟨fun a U g mk q => by obtain ⟨q0, qP, qK⟩ := q; exact ⟨q0, qP, va_K.moved (u := U) (U := U.calling g mk a) (Vm.Alike.refl U.vm) qK⟩, va_recv hKc hPc (ci := 1) (q0 := 0) rfl rfl, fun U hU hW => ⟨rfl, by rw [hU]; exact hPc, va_K.moved hW.alike hKc⟩⟩ rfl rfl hl.1 rfl (lv_room (Nat.le_of_ble_eq_true rfl)) dX7_bucketSize_11 ⟨Nat.le_of_ble_eq_true rfl, Nat.le_of_ble_eq_true rfl⟩) (fun r_4 hw_3 => ?_)
  subst hw_3
  have hPc := hP.sub (ws' := []) [] rfl
  have hKc := hK.sub (tys' := []) [] rfl
  have hDc := hD.sub (ws' := []) [] (by decide) rfl
  exact vx_callv (vx_runS (As := [.int w, .int (nI (fb_ct (bo fs) 4096))]) (rest := []) ⟨hx, hb, hml, hown, hts⟩ (x_X7_needPlace l hls dC dI w (fb_ct (bo fs) 4096) sa s.heap.size (by first | assumption | omega)) (va_cwS 2 hts gX7_bucketSize_X7_needPlace rfl rfl rfl (by decide +kernel) ⟨Nat.le_of_ble_eq_true rfl, Nat.le_of_ble_eq_true rfl⟩) ⟨fun a U g mk q => by obtain ⟨q0, q1, qT, qP, qK, qD⟩ := q; exact ⟨q0, q1, TW.same (u := U) (U := U.calling g mk a) rfl qT, qP, va_K.moved (u := U) (U := U.calling g mk a) (Vm.Alike.refl U.vm) qK, qD⟩, fun U hU hW => ⟨rfl, by rw [hU], by rw [hU]; exact TW.warm hW hT, by rw [hU]; exact hPc, va_K.moved hW.alike hKc, hDc.weaken (fun _ _ _ _ => trivial)⟩⟩ rfl rfl hl.1 rfl (lv_room (Nat.le_of_ble_eq_true rfl)) dX7_bucketSize_14 ⟨Nat.le_of_ble_eq_true rfl, Nat.le_of_ble_eq_true rfl⟩) hS (fun q h9 h8 => absurd h8 (Nat.not_le_of_lt h9)) (fun q h8 => Nat.le_trans hS.1 h8) (fun q h9 h8 => absurd h8 (Nat.not_le_of_lt h9)) (fun E9 ce9 q9 u9 t9 H9 l9 ht9 hvm9 hu9 hE9 hz9 hk9 hS9 hce9 hcv9 hcl9 => vx_out (fun x h => (hcat x h).elim) hlocks hce9 hcv9 hcl9 (fun t8 ht8 ha8 => ⟨(), trivial, hE9, by rw [ht8]; exact hz9, fun q h1 h2 => by rw [ht8]; exact hk9 q h1 h2⟩) hS9.2.2 (Nat.le_of_ble_eq_true rfl) (Nat.le_of_ble_eq_true rfl)) (fun u9 t9 H9 l9 ht9 hvm9 hu9 hB9 hz9 hk9 hS9 => hu9.elim)
set_option maxHeartbeats 4000000 in
set_option maxRecDepth 100000 in
/-- pollFirst_e2 throws NoSuchElementException -/
theorem x_X7_pollFirst_e2 (l : Launch) (hls : l.stackTraces = false) (dC : Nat → ClassId) (dI : Nat → Nat → Nat) (q : Nat) (s0 : Nat) (s1 : Nat) (s2 : Nat) (tq : Nat) (ca : Nat) (rq : Nat) (rb : Nat) (rd : Nat) (uq : Nat) (bm : Nat) (am : Nat) (bs : Nat) (ap : Nat) (cJ : ClassId) (fm : Nat → Int64) (fs : Nat → Int64) (ft : Nat → Int64) (fc : Nat → Int64) (sm : Int64) (lo : Option Nat) (sa sz : Nat) (hN : NI fm fs ft fc sm lo) (hz : fst1 (bo fm) 4096 = none) : vx_Met l yX7_pollFirst wsX7_pollFirst ({ frames := 7, cells := 1, slots := 6, locals := 102 }) (va_Pc [.ref q, .int (nI 2)] (fun U => va_Nw (.fieldLinkNest RX7 62 "SmallNumberSets$NumberSet" "tree" "LSmallNumberSets$Tree;" "SmallNumberSets") U ∧ U.heap.size = sz ∧ TW "java/util/NoSuchElementException" 162 "the set is empty" sa (fun q => sz ≤ q) U U.heap ∧ va_P (dC, dI) vwCl [(q, .inr (6, [.ref s0, .ref s1, .ref s2])), (s2, .inr (3, [.ref tq, .ref rq, .ref uq])), (tq, .inr (4, [.ref ca, .long sm, .int (oI lo)])), (ca, .inl (cJ, 64, .inr (.inl fc))), (rq, .inr (5, [.ref rb])), (rb, .inr (0, [.ref rd])), (rd, .inl (cJ, 128, .inr (.inl ft))), (uq, .inr (1, [.ref bm, .ref bs])), (bm, .inr (0, [.ref am])), (am, .inl (cJ, 64, .inr (.inl fm))), (bs, .inr (0, [.ref ap])), (ap, .inl (cJ, 64, .inr (.inl fs)))] U.heap ∧ va_K (dC, dI) vwCl [(cJ, .long)] U ∧ va_D (fun _ => True) [(q, .inr (6, [.ref s0, .ref s1, .ref s2])), (s2, .inr (3, [.ref tq, .ref rq, .ref uq])), (tq, .inr (4, [.ref ca, .long sm, .int (oI lo)])), (ca, .inl (cJ, 64, .inr (.inl fc))), (rq, .inr (5, [.ref rb])), (rb, .inr (0, [.ref rd])), (rd, .inl (cJ, 128, .inr (.inl ft))), (uq, .inr (1, [.ref bm, .ref bs])), (bm, .inr (0, [.ref am])), (am, .inl (cJ, 64, .inr (.inl fm))), (bs, .inr (0, [.ref ap])), (ap, .inl (cJ, 64, .inr (.inl fs)))])) (va_Qv (fun _ : Unit => False) (fun _ _ => True) (fun q => sz ≤ q)) (vx_X (fun _ : Unit => True) (fun E _ _ => E = "java/util/NoSuchElementException") (fun q => sz ≤ q)) 1 6 (fun q => sz ≤ q) := by
  refine vx_ofW (cc := cX7_pollFirst) (maxL := 4) (ret := (some .int)) (by decide) rfl ?_
  intro p e s m args below meth c s₁ B hml hcat hv
  obtain ⟨rfl, nw0, hsz, hT, hP, hK, hD⟩ := hv
  have hx := B.exec
  have hb := B.bytes
  have hr := B.returns
  have hts := atoms_spec (ws := wsX7_pollFirst) B.pre
  have hown : s.vm.findClass RX7 = some m.cls := findClass_of_methodNamed B.named
  have hlocks := B.notSynchronized
  subst hsz
  have hS : va_S (fun q => s.heap.size ≤ q) s.heap s.heap [] := va_S.rf
  have hP : va_P (dC, dI) vwCl [(q, .inr (6, [.ref s0, .ref s1, .ref s2])), (s2, .inr (3, [.ref tq, .ref rq, .ref uq])), (tq, .inr (4, [.ref ca, .long sm, .int (oI lo)])), (ca, .inl (cJ, 64, .inr (.inl fc))), (rq, .inr (5, [.ref rb])), (rb, .inr (0, [.ref rd])), (rd, .inl (cJ, 128, .inr (.inl ft))), (uq, .inr (1, [.ref bm, .ref bs])), (bm, .inr (0, [.ref am])), (am, .inl (cJ, 64, .inr (.inl fm))), (bs, .inr (0, [.ref ap])), (ap, .inl (cJ, 64, .inr (.inl fs)))] s.heap := hP
  have hl := lv_entry ([.ref q, .int (nI 2)]) (n := 4) (Nat.le_of_ble_eq_true rfl)
  rw [lg_entry_eq]
  generalize (lg_sl ([.ref q, .int (nI 2)]) ++ List.replicate (4 - (lg_sl ([.ref q, .int (nI 2)])).length) Slot.unset).toArray = ls at hl ⊢
  have hl : lv_has ls 4 [(0, .ref q), (1, .int (nI 2))] := hl
  refine lv_aload_n hx hb dX7_pollFirst_0 rfl (lv_at hl 0 rfl) ?_
  refine lv_iload_n hx hb dX7_pollFirst_1 rfl (lv_at hl 1 rfl) ?_
  have hPc := hP.sub (ws' := [(q, .inr (6, [.ref s0, .ref s1, .ref s2]))]) [0] rfl
  have hKc := hK.sub (tys' := []) [] rfl
  refine va_csr (W.runV (As := [.int (nI 2)]) (rest := []) ⟨hx, hb, hml, hown, hts⟩ (c_X7_chosenSet_2 l dC dI q s0 s1 s2 ) (cwV 1 hts gX7_pollFirst_X7_chosenSet rfl rfl rfl (by decide +kernel) ⟨Nat.le_of_ble_eq_true rfl, Nat.le_of_ble_eq_true rfl⟩) ⟨fun a U g mk q => by obtain ⟨q0, qP, qK⟩ := q; exact ⟨q0, qP, va_K.moved (u := U) (U := U.calling g mk a) (Vm.Alike.refl U.vm) qK⟩, va_recv hKc hPc (ci := 6) (q0 := 0) rfl rfl, fun U hU hW => ⟨rfl, by rw [hU]; exact hPc, va_K.moved hW.alike hKc⟩⟩ rfl rfl hl.1 rfl (lv_room (Nat.le_of_ble_eq_true rfl)) dX7_pollFirst_2 ⟨Nat.le_of_ble_eq_true rfl, Nat.le_of_ble_eq_true rfl⟩) (fun r_2 hw_1 => ?_)
  have hw_1 := hw_1.symm
  subst hw_1
  refine lv_astore_n (lv' := [(2, .ref s2), (0, .ref q), (1, .int (nI 2))]) hx hb dX7_pollFirst_5 rfl hl (by decide) rfl (fun ls hl => ?_)
  refine lv_aload_n hx hb dX7_pollFirst_6 rfl (lv_at hl 0 rfl) ?_
  refine va_getN (D := (dC, dI)) (ci := 3) (v := .ref tq) (C := RX3) (T := TX3) (N := 3) hx hb hts (by decide +kernel) hown hK hP 1 rfl rfl 0 (by decide) (va_Nw.use rfl nw0) (fun _ h9 => h9) rfl dX7_pollFirst_7 ?_
  have hPc := hP.sub (ws' := [(tq, .inr (4, [.ref ca, .long sm, .int (oI lo)])), (ca, .inl (cJ, 64, .inr (.inl fc)))]) [2, 3] rfl
  have hKc := hK.sub (tys' := [(cJ, .long)]) [0] rfl
  refine vp_callSi (W.runV (As := []) (rest := []) ⟨hx, hb, hml, hown, hts⟩ (c_X4_least l dC dI tq ca cJ fc sm lo ) (cwV 0 hts gX7_pollFirst_X4_least rfl rfl rfl (by decide +kernel) ⟨Nat.le_of_ble_eq_true rfl, Nat.le_of_ble_eq_true rfl⟩) ⟨fun a U g mk q => by obtain ⟨q0, qP, qK⟩ := q; exact ⟨q0, qP, va_K.moved (u := U) (U := U.calling g mk a) (Vm.Alike.refl U.vm) qK⟩, va_recv hKc hPc (ci := 4) (q0 := 0) rfl rfl, fun U hU hW => ⟨rfl, by rw [hU]; exact hPc, va_K.moved hW.alike hKc⟩⟩ rfl rfl hl.1 rfl (lv_room (Nat.le_of_ble_eq_true rfl)) dX7_pollFirst_10 ⟨Nat.le_of_ble_eq_true rfl, Nat.le_of_ble_eq_true rfl⟩) (fun r_4 hw_3 => ?_)
  subst hw_3
  refine lv_cvi (congrArg oI (hN.2.2.1.trans hz)) ?_
  refine lv_cvi ((rfl : oI none = -1)) ?_
  refine lv_istore_n (lv' := [(3, .int (-1)), (2, .ref s2), (0, .ref q), (1, .int (nI 2))]) hx hb dX7_pollFirst_13 rfl hl (by decide) rfl (fun ls hl => ?_)
  refine lv_iload_n hx hb dX7_pollFirst_14 rfl (lv_at hl 0 rfl) ?_
  have hPc := hP.sub (ws' := []) [] rfl
  have hKc := hK.sub (tys' := []) [] rfl
  have hDc := hD.sub (ws' := []) [] (by decide) rfl
  exact vx_callv (vx_runS (As := [.int (-1)]) (rest := []) ⟨hx, hb, hml, hown, hts⟩ (x_X7_needMember l hls dC dI  sa s.heap.size ) (va_cwS 1 hts gX7_pollFirst_X7_needMember rfl rfl rfl (by decide +kernel) ⟨Nat.le_of_ble_eq_true rfl, Nat.le_of_ble_eq_true rfl⟩) ⟨fun a U g mk q => by obtain ⟨q0, q1, qT, qP, qK, qD⟩ := q; exact ⟨q0, q1, TW.same (u := U) (U := U.calling g mk a) rfl qT, qP, va_K.moved (u := U) (U := U.calling g mk a) (Vm.Alike.refl U.vm) qK, qD⟩, fun U hU hW => ⟨rfl, by rw [hU], by rw [hU]; exact TW.warm hW hT, by rw [hU]; exact hPc, va_K.moved hW.alike hKc, hDc.weaken (fun _ _ _ _ => trivial)⟩⟩ rfl rfl hl.1 rfl (lv_room (Nat.le_of_ble_eq_true rfl)) dX7_pollFirst_15 ⟨Nat.le_of_ble_eq_true rfl, Nat.le_of_ble_eq_true rfl⟩) hS (fun q h9 h8 => absurd h8 (Nat.not_le_of_lt h9)) (fun q h8 => Nat.le_trans hS.1 h8) (fun q h9 h8 => absurd h8 (Nat.not_le_of_lt h9)) (fun E9 ce9 q9 u9 t9 H9 l9 ht9 hvm9 hu9 hE9 hz9 hk9 hS9 hce9 hcv9 hcl9 => vx_out (fun x h => (hcat x h).elim) hlocks hce9 hcv9 hcl9 (fun t8 ht8 ha8 => ⟨(), trivial, hE9, by rw [ht8]; exact hz9, fun q h1 h2 => by rw [ht8]; exact hk9 q h1 h2⟩) hS9.2.2 (Nat.le_of_ble_eq_true rfl) (Nat.le_of_ble_eq_true rfl)) (fun u9 t9 H9 l9 ht9 hvm9 hu9 hB9 hz9 hk9 hS9 => hu9.elim)
set_option maxHeartbeats 4000000 in
set_option maxRecDepth 100000 in
/-- pollLast_e2 throws NoSuchElementException -/
theorem x_X7_pollLast_e2 (l : Launch) (hls : l.stackTraces = false) (dC : Nat → ClassId) (dI : Nat → Nat → Nat) (q : Nat) (s0 : Nat) (s1 : Nat) (s2 : Nat) (tq : Nat) (ca : Nat) (rq : Nat) (rb : Nat) (rd : Nat) (uq : Nat) (bm : Nat) (am : Nat) (bs : Nat) (ap : Nat) (cJ : ClassId) (fm : Nat → Int64) (fs : Nat → Int64) (ft : Nat → Int64) (fc : Nat → Int64) (sm : Int64) (lo : Option Nat) (sa sz : Nat) (hN : NI fm fs ft fc sm lo) (hz : lst1 (bo fm) 4096 = none) : vx_Met l yX7_pollLast wsX7_pollLast ({ frames := 7, cells := 1, slots := 6, locals := 102 }) (va_Pc [.ref q, .int (nI 2)] (fun U => va_Nw (.fieldLinkNest RX7 62 "SmallNumberSets$NumberSet" "tree" "LSmallNumberSets$Tree;" "SmallNumberSets") U ∧ U.heap.size = sz ∧ TW "java/util/NoSuchElementException" 162 "the set is empty" sa (fun q => sz ≤ q) U U.heap ∧ va_P (dC, dI) vwCl [(q, .inr (6, [.ref s0, .ref s1, .ref s2])), (s2, .inr (3, [.ref tq, .ref rq, .ref uq])), (tq, .inr (4, [.ref ca, .long sm, .int (oI lo)])), (ca, .inl (cJ, 64, .inr (.inl fc))), (rq, .inr (5, [.ref rb])), (rb, .inr (0, [.ref rd])), (rd, .inl (cJ, 128, .inr (.inl ft))), (uq, .inr (1, [.ref bm, .ref bs])), (bm, .inr (0, [.ref am])), (am, .inl (cJ, 64, .inr (.inl fm))), (bs, .inr (0, [.ref ap])), (ap, .inl (cJ, 64, .inr (.inl fs)))] U.heap ∧ va_K (dC, dI) vwCl [(cJ, .long)] U ∧ va_D (fun _ => True) [(q, .inr (6, [.ref s0, .ref s1, .ref s2])), (s2, .inr (3, [.ref tq, .ref rq, .ref uq])), (tq, .inr (4, [.ref ca, .long sm, .int (oI lo)])), (ca, .inl (cJ, 64, .inr (.inl fc))), (rq, .inr (5, [.ref rb])), (rb, .inr (0, [.ref rd])), (rd, .inl (cJ, 128, .inr (.inl ft))), (uq, .inr (1, [.ref bm, .ref bs])), (bm, .inr (0, [.ref am])), (am, .inl (cJ, 64, .inr (.inl fm))), (bs, .inr (0, [.ref ap])), (ap, .inl (cJ, 64, .inr (.inl fs)))])) (va_Qv (fun _ : Unit => False) (fun _ _ => True) (fun q => sz ≤ q)) (vx_X (fun _ : Unit => True) (fun E _ _ => E = "java/util/NoSuchElementException") (fun q => sz ≤ q)) 1 6 (fun q => sz ≤ q) := by
  refine vx_ofW (cc := cX7_pollLast) (maxL := 4) (ret := (some .int)) (by decide) rfl ?_
  intro p e s m args below meth c s₁ B hml hcat hv
  obtain ⟨rfl, nw0, hsz, hT, hP, hK, hD⟩ := hv
  have hx := B.exec
  have hb := B.bytes
  have hr := B.returns
  have hts := atoms_spec (ws := wsX7_pollLast) B.pre
  have hown : s.vm.findClass RX7 = some m.cls := findClass_of_methodNamed B.named
  have hlocks := B.notSynchronized
  subst hsz
  have hS : va_S (fun q => s.heap.size ≤ q) s.heap s.heap [] := va_S.rf
  have hP : va_P (dC, dI) vwCl [(q, .inr (6, [.ref s0, .ref s1, .ref s2])), (s2, .inr (3, [.ref tq, .ref rq, .ref uq])), (tq, .inr (4, [.ref ca, .long sm, .int (oI lo)])), (ca, .inl (cJ, 64, .inr (.inl fc))), (rq, .inr (5, [.ref rb])), (rb, .inr (0, [.ref rd])), (rd, .inl (cJ, 128, .inr (.inl ft))), (uq, .inr (1, [.ref bm, .ref bs])), (bm, .inr (0, [.ref am])), (am, .inl (cJ, 64, .inr (.inl fm))), (bs, .inr (0, [.ref ap])), (ap, .inl (cJ, 64, .inr (.inl fs)))] s.heap := hP
  have hl := lv_entry ([.ref q, .int (nI 2)]) (n := 4) (Nat.le_of_ble_eq_true rfl)
  rw [lg_entry_eq]
  generalize (lg_sl ([.ref q, .int (nI 2)]) ++ List.replicate (4 - (lg_sl ([.ref q, .int (nI 2)])).length) Slot.unset).toArray = ls at hl ⊢
  have hl : lv_has ls 4 [(0, .ref q), (1, .int (nI 2))] := hl
  refine lv_aload_n hx hb dX7_pollLast_0 rfl (lv_at hl 0 rfl) ?_
  refine lv_iload_n hx hb dX7_pollLast_1 rfl (lv_at hl 1 rfl) ?_
  have hPc := hP.sub (ws' := [(q, .inr (6, [.ref s0, .ref s1, .ref s2]))]) [0] rfl
  have hKc := hK.sub (tys' := []) [] rfl
  refine va_csr (W.runV (As := [.int (nI 2)]) (rest := []) ⟨hx, hb, hml, hown, hts⟩ (c_X7_chosenSet_2 l dC dI q s0 s1 s2 ) (cwV 1 hts gX7_pollLast_X7_chosenSet rfl rfl rfl (by decide +kernel) ⟨Nat.le_of_ble_eq_true rfl, Nat.le_of_ble_eq_true rfl⟩) ⟨fun a U g mk q => by obtain ⟨q0, qP, qK⟩ := q; exact ⟨q0, qP, va_K.moved (u := U) (U := U.calling g mk a) (Vm.Alike.refl U.vm) qK⟩, va_recv hKc hPc (ci := 6) (q0 := 0) rfl rfl, fun U hU hW => ⟨rfl, by rw [hU]; exact hPc, va_K.moved hW.alike hKc⟩⟩ rfl rfl hl.1 rfl (lv_room (Nat.le_of_ble_eq_true rfl)) dX7_pollLast_2 ⟨Nat.le_of_ble_eq_true rfl, Nat.le_of_ble_eq_true rfl⟩) (fun r_2 hw_1 => ?_)
  have hw_1 := hw_1.symm
  subst hw_1
  refine lv_astore_n (lv' := [(2, .ref s2), (0, .ref q), (1, .int (nI 2))]) hx hb dX7_pollLast_5 rfl hl (by decide) rfl (fun ls hl => ?_)
  refine lv_aload_n hx hb dX7_pollLast_6 rfl (lv_at hl 0 rfl) ?_
  refine va_getN (D := (dC, dI)) (ci := 3) (v := .ref tq) (C := RX3) (T := TX3) (N := 3) hx hb hts (by decide +kernel) hown hK hP 1 rfl rfl 0 (by decide) (va_Nw.use rfl nw0) (fun _ h9 => h9) rfl dX7_pollLast_7 ?_
  have hPc := hP.sub (ws' := [(tq, .inr (4, [.ref ca, .long sm, .int (oI lo)])), (ca, .inl (cJ, 64, .inr (.inl fc)))]) [2, 3] rfl
  have hKc := hK.sub (tys' := [(cJ, .long)]) [0] rfl
  refine vp_callSi (W.runV (As := []) (rest := []) ⟨hx, hb, hml, hown, hts⟩ (c_X4_greatest l dC dI tq ca cJ fc sm lo (bo fm) hN.2.2) (cwV 0 hts gX7_pollLast_X4_greatest rfl rfl rfl (by decide +kernel) ⟨Nat.le_of_ble_eq_true rfl, Nat.le_of_ble_eq_true rfl⟩) ⟨fun a U g mk q => by obtain ⟨q0, qP, qK⟩ := q; exact ⟨q0, qP, va_K.moved (u := U) (U := U.calling g mk a) (Vm.Alike.refl U.vm) qK⟩, va_recv hKc hPc (ci := 4) (q0 := 0) rfl rfl, fun U hU hW => ⟨rfl, by rw [hU]; exact hPc, va_K.moved hW.alike hKc⟩⟩ rfl rfl hl.1 rfl (lv_room (Nat.le_of_ble_eq_true rfl)) dX7_pollLast_10 ⟨Nat.le_of_ble_eq_true rfl, Nat.le_of_ble_eq_true rfl⟩) (fun r_4 hw_3 => ?_)
  subst hw_3
  refine lv_cvi (congrArg oI (hz)) ?_
  refine lv_cvi ((rfl : oI none = -1)) ?_
  refine lv_istore_n (lv' := [(3, .int (-1)), (2, .ref s2), (0, .ref q), (1, .int (nI 2))]) hx hb dX7_pollLast_13 rfl hl (by decide) rfl (fun ls hl => ?_)
  refine lv_iload_n hx hb dX7_pollLast_14 rfl (lv_at hl 0 rfl) ?_
  have hPc := hP.sub (ws' := []) [] rfl
  have hKc := hK.sub (tys' := []) [] rfl
  have hDc := hD.sub (ws' := []) [] (by decide) rfl
  exact vx_callv (vx_runS (As := [.int (-1)]) (rest := []) ⟨hx, hb, hml, hown, hts⟩ (x_X7_needMember l hls dC dI  sa s.heap.size ) (va_cwS 1 hts gX7_pollLast_X7_needMember rfl rfl rfl (by decide +kernel) ⟨Nat.le_of_ble_eq_true rfl, Nat.le_of_ble_eq_true rfl⟩) ⟨fun a U g mk q => by obtain ⟨q0, q1, qT, qP, qK, qD⟩ := q; exact ⟨q0, q1, TW.same (u := U) (U := U.calling g mk a) rfl qT, qP, va_K.moved (u := U) (U := U.calling g mk a) (Vm.Alike.refl U.vm) qK, qD⟩, fun U hU hW => ⟨rfl, by rw [hU], by rw [hU]; exact TW.warm hW hT, by rw [hU]; exact hPc, va_K.moved hW.alike hKc, hDc.weaken (fun _ _ _ _ => trivial)⟩⟩ rfl rfl hl.1 rfl (lv_room (Nat.le_of_ble_eq_true rfl)) dX7_pollLast_15 ⟨Nat.le_of_ble_eq_true rfl, Nat.le_of_ble_eq_true rfl⟩) hS (fun q h9 h8 => absurd h8 (Nat.not_le_of_lt h9)) (fun q h8 => Nat.le_trans hS.1 h8) (fun q h9 h8 => absurd h8 (Nat.not_le_of_lt h9)) (fun E9 ce9 q9 u9 t9 H9 l9 ht9 hvm9 hu9 hE9 hz9 hk9 hS9 hce9 hcv9 hcl9 => vx_out (fun x h => (hcat x h).elim) hlocks hce9 hcv9 hcl9 (fun t8 ht8 ha8 => ⟨(), trivial, hE9, by rw [ht8]; exact hz9, fun q h1 h2 => by rw [ht8]; exact hk9 q h1 h2⟩) hS9.2.2 (Nat.le_of_ble_eq_true rfl) (Nat.le_of_ble_eq_true rfl)) (fun u9 t9 H9 l9 ht9 hvm9 hu9 hB9 hz9 hk9 hS9 => hu9.elim)
set_option maxHeartbeats 4000000 in
set_option maxRecDepth 100000 in
/-- insertAll_e20 throws IllegalStateException -/
theorem x_X7_insertAll_e20 (l : Launch) (hls : l.stackTraces = false) (dC : Nat → ClassId) (dI : Nat → Nat → Nat) (q : Nat) (s0 : Nat) (s1 : Nat) (s2 : Nat) (tq : Nat) (ca : Nat) (rq : Nat) (rb : Nat) (rd : Nat) (uq : Nat) (bm : Nat) (am : Nat) (bs : Nat) (ap : Nat) (cJ : ClassId) (fm : Nat → Int64) (fs : Nat → Int64) (ft : Nat → Int64) (fc : Nat → Int64) (sm : Int64) (lo : Option Nat) (tq_o : Nat) (ca_o : Nat) (rq_o : Nat) (rb_o : Nat) (rd_o : Nat) (uq_o : Nat) (bm_o : Nat) (am_o : Nat) (bs_o : Nat) (ap_o : Nat) (om : Nat → Int64) (os : Nat → Int64) (ot : Nat → Int64) (oc : Nat → Int64) (osm : Int64) (olo : Option Nat) (sa sz : Nat) (hN : NI fm fs ft fc sm lo) (hn30 : 30 < fb_ct (bo om) 4096) : vx_Met l yX7_insertAll wsX7_insertAll ({ frames := 6, cells := 1, slots := 6, locals := 82 }) (va_Pc [.ref q, .int (nI 2), .int (nI 0)] (fun U => va_Nw (.fieldLinkNest RX7 38 "SmallNumberSets$NumberSet" "buckets" "LSmallNumberSets$Buckets;" "SmallNumberSets") U ∧ U.heap.size = sz ∧ TW "java/lang/IllegalStateException" 50 "the other set has too many members" sa (fun q => sz ≤ q) U U.heap ∧ va_P (dC, dI) vwCl [(q, .inr (6, [.ref s0, .ref s1, .ref s2])), (s2, .inr (3, [.ref tq, .ref rq, .ref uq])), (tq, .inr (4, [.ref ca, .long sm, .int (oI lo)])), (ca, .inl (cJ, 64, .inr (.inl fc))), (rq, .inr (5, [.ref rb])), (rb, .inr (0, [.ref rd])), (rd, .inl (cJ, 128, .inr (.inl ft))), (uq, .inr (1, [.ref bm, .ref bs])), (bm, .inr (0, [.ref am])), (am, .inl (cJ, 64, .inr (.inl fm))), (bs, .inr (0, [.ref ap])), (ap, .inl (cJ, 64, .inr (.inl fs))), (s0, .inr (3, [.ref tq_o, .ref rq_o, .ref uq_o])), (tq_o, .inr (4, [.ref ca_o, .long osm, .int (oI olo)])), (ca_o, .inl (cJ, 64, .inr (.inl oc))), (rq_o, .inr (5, [.ref rb_o])), (rb_o, .inr (0, [.ref rd_o])), (rd_o, .inl (cJ, 128, .inr (.inl ot))), (uq_o, .inr (1, [.ref bm_o, .ref bs_o])), (bm_o, .inr (0, [.ref am_o])), (am_o, .inl (cJ, 64, .inr (.inl om))), (bs_o, .inr (0, [.ref ap_o])), (ap_o, .inl (cJ, 64, .inr (.inl os)))] U.heap ∧ va_K (dC, dI) vwCl [(cJ, .long)] U ∧ va_D (fun _ => True) [(q, .inr (6, [.ref s0, .ref s1, .ref s2])), (s2, .inr (3, [.ref tq, .ref rq, .ref uq])), (tq, .inr (4, [.ref ca, .long sm, .int (oI lo)])), (ca, .inl (cJ, 64, .inr (.inl fc))), (rq, .inr (5, [.ref rb])), (rb, .inr (0, [.ref rd])), (rd, .inl (cJ, 128, .inr (.inl ft))), (uq, .inr (1, [.ref bm, .ref bs])), (bm, .inr (0, [.ref am])), (am, .inl (cJ, 64, .inr (.inl fm))), (bs, .inr (0, [.ref ap])), (ap, .inl (cJ, 64, .inr (.inl fs))), (s0, .inr (3, [.ref tq_o, .ref rq_o, .ref uq_o])), (tq_o, .inr (4, [.ref ca_o, .long osm, .int (oI olo)])), (ca_o, .inl (cJ, 64, .inr (.inl oc))), (rq_o, .inr (5, [.ref rb_o])), (rb_o, .inr (0, [.ref rd_o])), (rd_o, .inl (cJ, 128, .inr (.inl ot))), (uq_o, .inr (1, [.ref bm_o, .ref bs_o])), (bm_o, .inr (0, [.ref am_o])), (am_o, .inl (cJ, 64, .inr (.inl om))), (bs_o, .inr (0, [.ref ap_o])), (ap_o, .inl (cJ, 64, .inr (.inl os)))])) (va_Qv (fun _ : Unit => False) (fun _ _ => True) (fun q => sz ≤ q)) (vx_X (fun _ : Unit => True) (fun E _ _ => E = "java/lang/IllegalStateException") (fun q => sz ≤ q)) 1 6 (fun q => sz ≤ q) := by
  refine vx_ofW (cc := cX7_insertAll) (maxL := 8) (ret := (some .int)) (by decide) rfl ?_
  intro p e s m args below meth c s₁ B hml hcat hv
  obtain ⟨rfl, nw0, hsz, hT, hP, hK, hD⟩ := hv
  have hx := B.exec
  have hb := B.bytes
  have hr := B.returns
  have hts := atoms_spec (ws := wsX7_insertAll) B.pre
  have hown : s.vm.findClass RX7 = some m.cls := findClass_of_methodNamed B.named
  have hlocks := B.notSynchronized
  subst hsz
  have hS : va_S (fun q => s.heap.size ≤ q) s.heap s.heap [] := va_S.rf
  have hP : va_P (dC, dI) vwCl [(q, .inr (6, [.ref s0, .ref s1, .ref s2])), (s2, .inr (3, [.ref tq, .ref rq, .ref uq])), (tq, .inr (4, [.ref ca, .long sm, .int (oI lo)])), (ca, .inl (cJ, 64, .inr (.inl fc))), (rq, .inr (5, [.ref rb])), (rb, .inr (0, [.ref rd])), (rd, .inl (cJ, 128, .inr (.inl ft))), (uq, .inr (1, [.ref bm, .ref bs])), (bm, .inr (0, [.ref am])), (am, .inl (cJ, 64, .inr (.inl fm))), (bs, .inr (0, [.ref ap])), (ap, .inl (cJ, 64, .inr (.inl fs))), (s0, .inr (3, [.ref tq_o, .ref rq_o, .ref uq_o])), (tq_o, .inr (4, [.ref ca_o, .long osm, .int (oI olo)])), (ca_o, .inl (cJ, 64, .inr (.inl oc))), (rq_o, .inr (5, [.ref rb_o])), (rb_o, .inr (0, [.ref rd_o])), (rd_o, .inl (cJ, 128, .inr (.inl ot))), (uq_o, .inr (1, [.ref bm_o, .ref bs_o])), (bm_o, .inr (0, [.ref am_o])), (am_o, .inl (cJ, 64, .inr (.inl om))), (bs_o, .inr (0, [.ref ap_o])), (ap_o, .inl (cJ, 64, .inr (.inl os)))] s.heap := hP
  have hl := lv_entry ([.ref q, .int (nI 2), .int (nI 0)]) (n := 8) (Nat.le_of_ble_eq_true rfl)
  rw [lg_entry_eq]
  generalize (lg_sl ([.ref q, .int (nI 2), .int (nI 0)]) ++ List.replicate (8 - (lg_sl ([.ref q, .int (nI 2), .int (nI 0)])).length) Slot.unset).toArray = ls at hl ⊢
  have hl : lv_has ls 8 [(0, .ref q), (1, .int (nI 2)), (2, .int (nI 0))] := hl
  have hcb := fb_ct_le (bo om) 4096
  refine lv_aload_n hx hb dX7_insertAll_0 rfl (lv_at hl 0 rfl) ?_
  refine lv_iload_n hx hb dX7_insertAll_1 rfl (lv_at hl 1 rfl) ?_
  have hPc := hP.sub (ws' := [(q, .inr (6, [.ref s0, .ref s1, .ref s2]))]) [0] rfl
  have hKc := hK.sub (tys' := []) [] rfl
  refine va_csr (W.runV (As := [.int (nI 2)]) (rest := []) ⟨hx, hb, hml, hown, hts⟩ (c_X7_chosenSet_2 l dC dI q s0 s1 s2 ) (cwV 1 hts gX7_insertAll_X7_chosenSet rfl rfl rfl (by decide +kernel) ⟨Nat.le_of_ble_eq_true rfl, Nat.le_of_ble_eq_true rfl⟩) ⟨fun a U g mk q => by obtain ⟨q0, qP, qK⟩ := q; exact ⟨q0, qP, va_K.moved (u := U) (U := U.calling g mk a) (Vm.Alike.refl U.vm) qK⟩, va_recv hKc hPc (ci := 6) (q0 := 0) rfl rfl, fun U hU hW => ⟨rfl, by rw [hU]; exact hPc, va_K.moved hW.alike hKc⟩⟩ rfl rfl hl.1 rfl (lv_room (Nat.le_of_ble_eq_true rfl)) dX7_insertAll_2 ⟨Nat.le_of_ble_eq_true rfl, Nat.le_of_ble_eq_true rfl⟩) (fun r_2 hw_1 => ?_)
  have hw_1 := hw_1.symm
  subst hw_1
  refine lv_astore_n (lv' := [(3, .ref s2), (0, .ref q), (1, .int (nI 2)), (2, .int (nI 0))]) hx hb dX7_insertAll_5 rfl hl (by decide) rfl (fun ls hl => ?_)
  refine lv_aload_n hx hb dX7_insertAll_6 rfl (lv_at hl 1 rfl) ?_
  refine lv_iload_n hx hb dX7_insertAll_7 rfl (lv_at hl 3 rfl) ?_
  have hPc := hP.sub (ws' := [(q, .inr (6, [.ref s0, .ref s1, .ref s2]))]) [0] rfl
  have hKc := hK.sub (tys' := []) [] rfl
  refine va_csr (W.runV (As := [.int (nI 0)]) (rest := []) ⟨hx, hb, hml, hown, hts⟩ (c_X7_chosenSet_0 l dC dI q s0 s1 s2 ) (cwV 1 hts gX7_insertAll_X7_chosenSet rfl rfl rfl (by decide +kernel) ⟨Nat.le_of_ble_eq_true rfl, Nat.le_of_ble_eq_true rfl⟩) ⟨fun a U g mk q => by obtain ⟨q0, qP, qK⟩ := q; exact ⟨q0, qP, va_K.moved (u := U) (U := U.calling g mk a) (Vm.Alike.refl U.vm) qK⟩, va_recv hKc hPc (ci := 6) (q0 := 0) rfl rfl, fun U hU hW => ⟨rfl, by rw [hU]; exact hPc, va_K.moved hW.alike hKc⟩⟩ rfl rfl hl.1 rfl (lv_room (Nat.le_of_ble_eq_true rfl)) dX7_insertAll_8 ⟨Nat.le_of_ble_eq_true rfl, Nat.le_of_ble_eq_true rfl⟩) (fun r_4 hw_3 => ?_)
  have hw_3 := hw_3.symm
  subst hw_3
  refine lv_astore (lv' := [(4, .ref s0), (3, .ref s2), (0, .ref q), (1, .int (nI 2)), (2, .int (nI 0))]) hx hb dX7_insertAll_11 hl (by decide) rfl (fun ls hl => ?_)
  refine lv_aload hx hb dX7_insertAll_13 (lv_at hl 0 rfl) ?_
  refine va_getN (D := (dC, dI)) (ci := 3) (v := .ref uq_o) (C := RX3) (T := TX3) (N := 3) hx hb hts (by decide +kernel) hown hK hP 12 rfl rfl 2 (by decide) (va_Nw.use rfl nw0) (fun _ h9 => h9) rfl dX7_insertAll_15 ?_
  have hPc := hP.sub (ws' := [(uq_o, .inr (1, [.ref bm_o, .ref bs_o])), (bm_o, .inr (0, [.ref am_o])), (am_o, .inl (cJ, 64, .inr (.inl om))), (bs_o, .inr (0, [.ref ap_o])), (ap_o, .inl (cJ, 64, .inr (.inl os)))]) [18, 19, 20, 21, 22] rfl
  have hKc := hK.sub (tys' := [(cJ, .long)]) [0] rfl
  refine vp_callSi (W.runV (As := []) (rest := []) ⟨hx, hb, hml, hown, hts⟩ (c_X1_memberCount l dC dI uq_o bm_o am_o bs_o ap_o cJ om os ) (cwV 0 hts gX7_insertAll_X1_memberCount rfl rfl rfl (by decide +kernel) ⟨Nat.le_of_ble_eq_true rfl, Nat.le_of_ble_eq_true rfl⟩) ⟨fun a U g mk q => by obtain ⟨q0, qP, qK⟩ := q; exact ⟨q0, qP, va_K.moved (u := U) (U := U.calling g mk a) (Vm.Alike.refl U.vm) qK⟩, va_recv hKc hPc (ci := 1) (q0 := 0) rfl rfl, fun U hU hW => ⟨rfl, by rw [hU]; exact hPc, va_K.moved hW.alike hKc⟩⟩ rfl rfl hl.1 rfl (lv_room (Nat.le_of_ble_eq_true rfl)) dX7_insertAll_18 ⟨Nat.le_of_ble_eq_true rfl, Nat.le_of_ble_eq_true rfl⟩) (fun r_6 hw_5 => ?_)
  subst hw_5
  refine lv_istore (lv' := [(5, .int (nI (fb_ct (bo om) 4096))), (4, .ref s0), (3, .ref s2), (0, .ref q), (1, .int (nI 2)), (2, .int (nI 0))]) hx hb dX7_insertAll_21 hl (by decide) rfl (fun ls hl => ?_)
  refine lv_iload hx hb dX7_insertAll_23 (lv_at hl 0 rfl) ?_
  refine lv_bipush (v := nI 30) hx hb dX7_insertAll_25 (by decide +kernel) ?_
  refine lv_icmp_le (tgt := 40) hx hb dX7_insertAll_27 (by decide) (fun qc_7 => ?_) (fun qc_7 => ?_)
  · have c_7 : (fb_ct (bo om) 4096) ≤ 30 := (nI_leI (a := fb_ct (bo om) 4096) (b := 30) (by omega) (by omega)).mp qc_7
    exact absurd c_7 (by omega)
  · have c_7 : ¬ (fb_ct (bo om) 4096) ≤ 30 := fun h9 => qc_7 ((nI_leI (a := fb_ct (bo om) 4096) (b := 30) (by omega) (by omega)).mpr h9)
    exact vx_throwS hx hb hls (own := RX7) (cls := "java/lang/IllegalStateException") (text := "the other set has too many members") (names := ["java/lang/RuntimeException", "java/lang/Exception"]) (ik := 48) (is := 50) (ic := 52) (sa := sa) hown (by decide) (by decide) (hts (.classLink RX7 48 "java/lang/IllegalStateException") (by decide +kernel)) (hts (.initialized "java/lang/IllegalStateException") (by decide +kernel)) hT.1 (vx_hat (L := (vx_atS RX7 52 "java/lang/IllegalStateException" ["java/lang/RuntimeException", "java/lang/Exception"])) (B := [.declares (Bundle.initS tw_r), .declares (Bundle.initS tw_e), .declares (Bundle.initS Bundle.tN), .castable "java/lang/IllegalStateException" "java/lang/IllegalStateException"]) (fun w hw => hts w (List.mem_cons_of_mem _ (List.mem_append_left _ (List.mem_append_right _ hw)))) (by decide +kernel) (vx_c (va_Nw.use rfl hT.2.2.2.1) (vx_c (va_Nw.use rfl hT.2.2.2.2.1) (vx_c (va_Nw.use rfl hT.2.2.2.2.2.1) (vx_c (va_Nw.use rfl hT.2.2.2.2.2.2) vx_n))))) (List.all_eq_true.mp (by decide +kernel)) hT.2.1 hT.2.2.1 hS (by rw [hml]; exact hl.1) dX7_insertAll_30 dX7_insertAll_33 dX7_insertAll_34 dX7_insertAll_36 dX7_insertAll_39 (fun x h => (hcat x h).elim) (Nat.le_of_ble_eq_true rfl) (Nat.le_of_ble_eq_true rfl) (Nat.le_of_ble_eq_true rfl) (Nat.le_of_ble_eq_true rfl) hlocks (fun t _ h1 h2 => ⟨(), trivial, rfl, h1, fun q h3 _ => h2 q h3⟩) (fun z h => nomatch h) (Nat.le_of_ble_eq_true rfl) (Nat.le_of_ble_eq_true rfl)
set_option maxHeartbeats 4000000 in
set_option maxRecDepth 100000 in
/-- insertAll_e21 throws IllegalStateException -/
theorem x_X7_insertAll_e21 (l : Launch) (hls : l.stackTraces = false) (dC : Nat → ClassId) (dI : Nat → Nat → Nat) (q : Nat) (s0 : Nat) (s1 : Nat) (s2 : Nat) (tq : Nat) (ca : Nat) (rq : Nat) (rb : Nat) (rd : Nat) (uq : Nat) (bm : Nat) (am : Nat) (bs : Nat) (ap : Nat) (cJ : ClassId) (fm : Nat → Int64) (fs : Nat → Int64) (ft : Nat → Int64) (fc : Nat → Int64) (sm : Int64) (lo : Option Nat) (tq_o : Nat) (ca_o : Nat) (rq_o : Nat) (rb_o : Nat) (rd_o : Nat) (uq_o : Nat) (bm_o : Nat) (am_o : Nat) (bs_o : Nat) (ap_o : Nat) (om : Nat → Int64) (os : Nat → Int64) (ot : Nat → Int64) (oc : Nat → Int64) (osm : Int64) (olo : Option Nat) (sa sz : Nat) (hN : NI fm fs ft fc sm lo) (hn30 : 30 < fb_ct (bo om) 4096) : vx_Met l yX7_insertAll wsX7_insertAll ({ frames := 6, cells := 1, slots := 6, locals := 82 }) (va_Pc [.ref q, .int (nI 2), .int (nI 1)] (fun U => va_Nw (.fieldLinkNest RX7 38 "SmallNumberSets$NumberSet" "buckets" "LSmallNumberSets$Buckets;" "SmallNumberSets") U ∧ U.heap.size = sz ∧ TW "java/lang/IllegalStateException" 50 "the other set has too many members" sa (fun q => sz ≤ q) U U.heap ∧ va_P (dC, dI) vwCl [(q, .inr (6, [.ref s0, .ref s1, .ref s2])), (s2, .inr (3, [.ref tq, .ref rq, .ref uq])), (tq, .inr (4, [.ref ca, .long sm, .int (oI lo)])), (ca, .inl (cJ, 64, .inr (.inl fc))), (rq, .inr (5, [.ref rb])), (rb, .inr (0, [.ref rd])), (rd, .inl (cJ, 128, .inr (.inl ft))), (uq, .inr (1, [.ref bm, .ref bs])), (bm, .inr (0, [.ref am])), (am, .inl (cJ, 64, .inr (.inl fm))), (bs, .inr (0, [.ref ap])), (ap, .inl (cJ, 64, .inr (.inl fs))), (s1, .inr (3, [.ref tq_o, .ref rq_o, .ref uq_o])), (tq_o, .inr (4, [.ref ca_o, .long osm, .int (oI olo)])), (ca_o, .inl (cJ, 64, .inr (.inl oc))), (rq_o, .inr (5, [.ref rb_o])), (rb_o, .inr (0, [.ref rd_o])), (rd_o, .inl (cJ, 128, .inr (.inl ot))), (uq_o, .inr (1, [.ref bm_o, .ref bs_o])), (bm_o, .inr (0, [.ref am_o])), (am_o, .inl (cJ, 64, .inr (.inl om))), (bs_o, .inr (0, [.ref ap_o])), (ap_o, .inl (cJ, 64, .inr (.inl os)))] U.heap ∧ va_K (dC, dI) vwCl [(cJ, .long)] U ∧ va_D (fun _ => True) [(q, .inr (6, [.ref s0, .ref s1, .ref s2])), (s2, .inr (3, [.ref tq, .ref rq, .ref uq])), (tq, .inr (4, [.ref ca, .long sm, .int (oI lo)])), (ca, .inl (cJ, 64, .inr (.inl fc))), (rq, .inr (5, [.ref rb])), (rb, .inr (0, [.ref rd])), (rd, .inl (cJ, 128, .inr (.inl ft))), (uq, .inr (1, [.ref bm, .ref bs])), (bm, .inr (0, [.ref am])), (am, .inl (cJ, 64, .inr (.inl fm))), (bs, .inr (0, [.ref ap])), (ap, .inl (cJ, 64, .inr (.inl fs))), (s1, .inr (3, [.ref tq_o, .ref rq_o, .ref uq_o])), (tq_o, .inr (4, [.ref ca_o, .long osm, .int (oI olo)])), (ca_o, .inl (cJ, 64, .inr (.inl oc))), (rq_o, .inr (5, [.ref rb_o])), (rb_o, .inr (0, [.ref rd_o])), (rd_o, .inl (cJ, 128, .inr (.inl ot))), (uq_o, .inr (1, [.ref bm_o, .ref bs_o])), (bm_o, .inr (0, [.ref am_o])), (am_o, .inl (cJ, 64, .inr (.inl om))), (bs_o, .inr (0, [.ref ap_o])), (ap_o, .inl (cJ, 64, .inr (.inl os)))])) (va_Qv (fun _ : Unit => False) (fun _ _ => True) (fun q => sz ≤ q)) (vx_X (fun _ : Unit => True) (fun E _ _ => E = "java/lang/IllegalStateException") (fun q => sz ≤ q)) 1 6 (fun q => sz ≤ q) := by
  refine vx_ofW (cc := cX7_insertAll) (maxL := 8) (ret := (some .int)) (by decide) rfl ?_
  intro p e s m args below meth c s₁ B hml hcat hv
  obtain ⟨rfl, nw0, hsz, hT, hP, hK, hD⟩ := hv
  have hx := B.exec
  have hb := B.bytes
  have hr := B.returns
  have hts := atoms_spec (ws := wsX7_insertAll) B.pre
  have hown : s.vm.findClass RX7 = some m.cls := findClass_of_methodNamed B.named
  have hlocks := B.notSynchronized
  subst hsz
  have hS : va_S (fun q => s.heap.size ≤ q) s.heap s.heap [] := va_S.rf
  have hP : va_P (dC, dI) vwCl [(q, .inr (6, [.ref s0, .ref s1, .ref s2])), (s2, .inr (3, [.ref tq, .ref rq, .ref uq])), (tq, .inr (4, [.ref ca, .long sm, .int (oI lo)])), (ca, .inl (cJ, 64, .inr (.inl fc))), (rq, .inr (5, [.ref rb])), (rb, .inr (0, [.ref rd])), (rd, .inl (cJ, 128, .inr (.inl ft))), (uq, .inr (1, [.ref bm, .ref bs])), (bm, .inr (0, [.ref am])), (am, .inl (cJ, 64, .inr (.inl fm))), (bs, .inr (0, [.ref ap])), (ap, .inl (cJ, 64, .inr (.inl fs))), (s1, .inr (3, [.ref tq_o, .ref rq_o, .ref uq_o])), (tq_o, .inr (4, [.ref ca_o, .long osm, .int (oI olo)])), (ca_o, .inl (cJ, 64, .inr (.inl oc))), (rq_o, .inr (5, [.ref rb_o])), (rb_o, .inr (0, [.ref rd_o])), (rd_o, .inl (cJ, 128, .inr (.inl ot))), (uq_o, .inr (1, [.ref bm_o, .ref bs_o])), (bm_o, .inr (0, [.ref am_o])), (am_o, .inl (cJ, 64, .inr (.inl om))), (bs_o, .inr (0, [.ref ap_o])), (ap_o, .inl (cJ, 64, .inr (.inl os)))] s.heap := hP
  have hl := lv_entry ([.ref q, .int (nI 2), .int (nI 1)]) (n := 8) (Nat.le_of_ble_eq_true rfl)
  rw [lg_entry_eq]
  generalize (lg_sl ([.ref q, .int (nI 2), .int (nI 1)]) ++ List.replicate (8 - (lg_sl ([.ref q, .int (nI 2), .int (nI 1)])).length) Slot.unset).toArray = ls at hl ⊢
  have hl : lv_has ls 8 [(0, .ref q), (1, .int (nI 2)), (2, .int (nI 1))] := hl
  have hcb := fb_ct_le (bo om) 4096
  refine lv_aload_n hx hb dX7_insertAll_0 rfl (lv_at hl 0 rfl) ?_
  refine lv_iload_n hx hb dX7_insertAll_1 rfl (lv_at hl 1 rfl) ?_
  have hPc := hP.sub (ws' := [(q, .inr (6, [.ref s0, .ref s1, .ref s2]))]) [0] rfl
  have hKc := hK.sub (tys' := []) [] rfl
  refine va_csr (W.runV (As := [.int (nI 2)]) (rest := []) ⟨hx, hb, hml, hown, hts⟩ (c_X7_chosenSet_2 l dC dI q s0 s1 s2 ) (cwV 1 hts gX7_insertAll_X7_chosenSet rfl rfl rfl (by decide +kernel) ⟨Nat.le_of_ble_eq_true rfl, Nat.le_of_ble_eq_true rfl⟩) ⟨fun a U g mk q => by obtain ⟨q0, qP, qK⟩ := q; exact ⟨q0, qP, va_K.moved (u := U) (U := U.calling g mk a) (Vm.Alike.refl U.vm) qK⟩, va_recv hKc hPc (ci := 6) (q0 := 0) rfl rfl, fun U hU hW => ⟨rfl, by rw [hU]; exact hPc, va_K.moved hW.alike hKc⟩⟩ rfl rfl hl.1 rfl (lv_room (Nat.le_of_ble_eq_true rfl)) dX7_insertAll_2 ⟨Nat.le_of_ble_eq_true rfl, Nat.le_of_ble_eq_true rfl⟩) (fun r_2 hw_1 => ?_)
  have hw_1 := hw_1.symm
  subst hw_1
  refine lv_astore_n (lv' := [(3, .ref s2), (0, .ref q), (1, .int (nI 2)), (2, .int (nI 1))]) hx hb dX7_insertAll_5 rfl hl (by decide) rfl (fun ls hl => ?_)
  refine lv_aload_n hx hb dX7_insertAll_6 rfl (lv_at hl 1 rfl) ?_
  refine lv_iload_n hx hb dX7_insertAll_7 rfl (lv_at hl 3 rfl) ?_
  have hPc := hP.sub (ws' := [(q, .inr (6, [.ref s0, .ref s1, .ref s2]))]) [0] rfl
  have hKc := hK.sub (tys' := []) [] rfl
  refine va_csr (W.runV (As := [.int (nI 1)]) (rest := []) ⟨hx, hb, hml, hown, hts⟩ (c_X7_chosenSet_1 l dC dI q s0 s1 s2 ) (cwV 1 hts gX7_insertAll_X7_chosenSet rfl rfl rfl (by decide +kernel) ⟨Nat.le_of_ble_eq_true rfl, Nat.le_of_ble_eq_true rfl⟩) ⟨fun a U g mk q => by obtain ⟨q0, qP, qK⟩ := q; exact ⟨q0, qP, va_K.moved (u := U) (U := U.calling g mk a) (Vm.Alike.refl U.vm) qK⟩, va_recv hKc hPc (ci := 6) (q0 := 0) rfl rfl, fun U hU hW => ⟨rfl, by rw [hU]; exact hPc, va_K.moved hW.alike hKc⟩⟩ rfl rfl hl.1 rfl (lv_room (Nat.le_of_ble_eq_true rfl)) dX7_insertAll_8 ⟨Nat.le_of_ble_eq_true rfl, Nat.le_of_ble_eq_true rfl⟩) (fun r_4 hw_3 => ?_)
  have hw_3 := hw_3.symm
  subst hw_3
  refine lv_astore (lv' := [(4, .ref s1), (3, .ref s2), (0, .ref q), (1, .int (nI 2)), (2, .int (nI 1))]) hx hb dX7_insertAll_11 hl (by decide) rfl (fun ls hl => ?_)
  refine lv_aload hx hb dX7_insertAll_13 (lv_at hl 0 rfl) ?_
  refine va_getN (D := (dC, dI)) (ci := 3) (v := .ref uq_o) (C := RX3) (T := TX3) (N := 3) hx hb hts (by decide +kernel) hown hK hP 12 rfl rfl 2 (by decide) (va_Nw.use rfl nw0) (fun _ h9 => h9) rfl dX7_insertAll_15 ?_
  have hPc := hP.sub (ws' := [(uq_o, .inr (1, [.ref bm_o, .ref bs_o])), (bm_o, .inr (0, [.ref am_o])), (am_o, .inl (cJ, 64, .inr (.inl om))), (bs_o, .inr (0, [.ref ap_o])), (ap_o, .inl (cJ, 64, .inr (.inl os)))]) [18, 19, 20, 21, 22] rfl
  have hKc := hK.sub (tys' := [(cJ, .long)]) [0] rfl
  refine vp_callSi (W.runV (As := []) (rest := []) ⟨hx, hb, hml, hown, hts⟩ (c_X1_memberCount l dC dI uq_o bm_o am_o bs_o ap_o cJ om os ) (cwV 0 hts gX7_insertAll_X1_memberCount rfl rfl rfl (by decide +kernel) ⟨Nat.le_of_ble_eq_true rfl, Nat.le_of_ble_eq_true rfl⟩) ⟨fun a U g mk q => by obtain ⟨q0, qP, qK⟩ := q; exact ⟨q0, qP, va_K.moved (u := U) (U := U.calling g mk a) (Vm.Alike.refl U.vm) qK⟩, va_recv hKc hPc (ci := 1) (q0 := 0) rfl rfl, fun U hU hW => ⟨rfl, by rw [hU]; exact hPc, va_K.moved hW.alike hKc⟩⟩ rfl rfl hl.1 rfl (lv_room (Nat.le_of_ble_eq_true rfl)) dX7_insertAll_18 ⟨Nat.le_of_ble_eq_true rfl, Nat.le_of_ble_eq_true rfl⟩) (fun r_6 hw_5 => ?_)
  subst hw_5
  refine lv_istore (lv' := [(5, .int (nI (fb_ct (bo om) 4096))), (4, .ref s1), (3, .ref s2), (0, .ref q), (1, .int (nI 2)), (2, .int (nI 1))]) hx hb dX7_insertAll_21 hl (by decide) rfl (fun ls hl => ?_)
  refine lv_iload hx hb dX7_insertAll_23 (lv_at hl 0 rfl) ?_
  refine lv_bipush (v := nI 30) hx hb dX7_insertAll_25 (by decide +kernel) ?_
  refine lv_icmp_le (tgt := 40) hx hb dX7_insertAll_27 (by decide) (fun qc_7 => ?_) (fun qc_7 => ?_)
  · have c_7 : (fb_ct (bo om) 4096) ≤ 30 := (nI_leI (a := fb_ct (bo om) 4096) (b := 30) (by omega) (by omega)).mp qc_7
    exact absurd c_7 (by omega)
  · have c_7 : ¬ (fb_ct (bo om) 4096) ≤ 30 := fun h9 => qc_7 ((nI_leI (a := fb_ct (bo om) 4096) (b := 30) (by omega) (by omega)).mpr h9)
    exact vx_throwS hx hb hls (own := RX7) (cls := "java/lang/IllegalStateException") (text := "the other set has too many members") (names := ["java/lang/RuntimeException", "java/lang/Exception"]) (ik := 48) (is := 50) (ic := 52) (sa := sa) hown (by decide) (by decide) (hts (.classLink RX7 48 "java/lang/IllegalStateException") (by decide +kernel)) (hts (.initialized "java/lang/IllegalStateException") (by decide +kernel)) hT.1 (vx_hat (L := (vx_atS RX7 52 "java/lang/IllegalStateException" ["java/lang/RuntimeException", "java/lang/Exception"])) (B := [.declares (Bundle.initS tw_r), .declares (Bundle.initS tw_e), .declares (Bundle.initS Bundle.tN), .castable "java/lang/IllegalStateException" "java/lang/IllegalStateException"]) (fun w hw => hts w (List.mem_cons_of_mem _ (List.mem_append_left _ (List.mem_append_right _ hw)))) (by decide +kernel) (vx_c (va_Nw.use rfl hT.2.2.2.1) (vx_c (va_Nw.use rfl hT.2.2.2.2.1) (vx_c (va_Nw.use rfl hT.2.2.2.2.2.1) (vx_c (va_Nw.use rfl hT.2.2.2.2.2.2) vx_n))))) (List.all_eq_true.mp (by decide +kernel)) hT.2.1 hT.2.2.1 hS (by rw [hml]; exact hl.1) dX7_insertAll_30 dX7_insertAll_33 dX7_insertAll_34 dX7_insertAll_36 dX7_insertAll_39 (fun x h => (hcat x h).elim) (Nat.le_of_ble_eq_true rfl) (Nat.le_of_ble_eq_true rfl) (Nat.le_of_ble_eq_true rfl) (Nat.le_of_ble_eq_true rfl) hlocks (fun t _ h1 h2 => ⟨(), trivial, rfl, h1, fun q h3 _ => h2 q h3⟩) (fun z h => nomatch h) (Nat.le_of_ble_eq_true rfl) (Nat.le_of_ble_eq_true rfl)
set_option maxHeartbeats 4000000 in
set_option maxRecDepth 100000 in
/-- insertAll_e22 throws IllegalStateException -/
theorem x_X7_insertAll_e22 (l : Launch) (hls : l.stackTraces = false) (dC : Nat → ClassId) (dI : Nat → Nat → Nat) (q : Nat) (s0 : Nat) (s1 : Nat) (s2 : Nat) (tq : Nat) (ca : Nat) (rq : Nat) (rb : Nat) (rd : Nat) (uq : Nat) (bm : Nat) (am : Nat) (bs : Nat) (ap : Nat) (cJ : ClassId) (fm : Nat → Int64) (fs : Nat → Int64) (ft : Nat → Int64) (fc : Nat → Int64) (sm : Int64) (lo : Option Nat) (sa sz : Nat) (hN : NI fm fs ft fc sm lo) (hn30 : 30 < fb_ct (bo fm) 4096) : vx_Met l yX7_insertAll wsX7_insertAll ({ frames := 6, cells := 1, slots := 6, locals := 82 }) (va_Pc [.ref q, .int (nI 2), .int (nI 2)] (fun U => va_Nw (.fieldLinkNest RX7 38 "SmallNumberSets$NumberSet" "buckets" "LSmallNumberSets$Buckets;" "SmallNumberSets") U ∧ U.heap.size = sz ∧ TW "java/lang/IllegalStateException" 50 "the other set has too many members" sa (fun q => sz ≤ q) U U.heap ∧ va_P (dC, dI) vwCl [(q, .inr (6, [.ref s0, .ref s1, .ref s2])), (s2, .inr (3, [.ref tq, .ref rq, .ref uq])), (tq, .inr (4, [.ref ca, .long sm, .int (oI lo)])), (ca, .inl (cJ, 64, .inr (.inl fc))), (rq, .inr (5, [.ref rb])), (rb, .inr (0, [.ref rd])), (rd, .inl (cJ, 128, .inr (.inl ft))), (uq, .inr (1, [.ref bm, .ref bs])), (bm, .inr (0, [.ref am])), (am, .inl (cJ, 64, .inr (.inl fm))), (bs, .inr (0, [.ref ap])), (ap, .inl (cJ, 64, .inr (.inl fs)))] U.heap ∧ va_K (dC, dI) vwCl [(cJ, .long)] U ∧ va_D (fun _ => True) [(q, .inr (6, [.ref s0, .ref s1, .ref s2])), (s2, .inr (3, [.ref tq, .ref rq, .ref uq])), (tq, .inr (4, [.ref ca, .long sm, .int (oI lo)])), (ca, .inl (cJ, 64, .inr (.inl fc))), (rq, .inr (5, [.ref rb])), (rb, .inr (0, [.ref rd])), (rd, .inl (cJ, 128, .inr (.inl ft))), (uq, .inr (1, [.ref bm, .ref bs])), (bm, .inr (0, [.ref am])), (am, .inl (cJ, 64, .inr (.inl fm))), (bs, .inr (0, [.ref ap])), (ap, .inl (cJ, 64, .inr (.inl fs)))])) (va_Qv (fun _ : Unit => False) (fun _ _ => True) (fun q => sz ≤ q)) (vx_X (fun _ : Unit => True) (fun E _ _ => E = "java/lang/IllegalStateException") (fun q => sz ≤ q)) 1 6 (fun q => sz ≤ q) := by
  refine vx_ofW (cc := cX7_insertAll) (maxL := 8) (ret := (some .int)) (by decide) rfl ?_
  intro p e s m args below meth c s₁ B hml hcat hv
  obtain ⟨rfl, nw0, hsz, hT, hP, hK, hD⟩ := hv
  have hx := B.exec
  have hb := B.bytes
  have hr := B.returns
  have hts := atoms_spec (ws := wsX7_insertAll) B.pre
  have hown : s.vm.findClass RX7 = some m.cls := findClass_of_methodNamed B.named
  have hlocks := B.notSynchronized
  subst hsz
  have hS : va_S (fun q => s.heap.size ≤ q) s.heap s.heap [] := va_S.rf
  have hP : va_P (dC, dI) vwCl [(q, .inr (6, [.ref s0, .ref s1, .ref s2])), (s2, .inr (3, [.ref tq, .ref rq, .ref uq])), (tq, .inr (4, [.ref ca, .long sm, .int (oI lo)])), (ca, .inl (cJ, 64, .inr (.inl fc))), (rq, .inr (5, [.ref rb])), (rb, .inr (0, [.ref rd])), (rd, .inl (cJ, 128, .inr (.inl ft))), (uq, .inr (1, [.ref bm, .ref bs])), (bm, .inr (0, [.ref am])), (am, .inl (cJ, 64, .inr (.inl fm))), (bs, .inr (0, [.ref ap])), (ap, .inl (cJ, 64, .inr (.inl fs)))] s.heap := hP
  have hl := lv_entry ([.ref q, .int (nI 2), .int (nI 2)]) (n := 8) (Nat.le_of_ble_eq_true rfl)
  rw [lg_entry_eq]
  generalize (lg_sl ([.ref q, .int (nI 2), .int (nI 2)]) ++ List.replicate (8 - (lg_sl ([.ref q, .int (nI 2), .int (nI 2)])).length) Slot.unset).toArray = ls at hl ⊢
  have hl : lv_has ls 8 [(0, .ref q), (1, .int (nI 2)), (2, .int (nI 2))] := hl
  have hcb := fb_ct_le (bo fm) 4096
  refine lv_aload_n hx hb dX7_insertAll_0 rfl (lv_at hl 0 rfl) ?_
  refine lv_iload_n hx hb dX7_insertAll_1 rfl (lv_at hl 1 rfl) ?_
  have hPc := hP.sub (ws' := [(q, .inr (6, [.ref s0, .ref s1, .ref s2]))]) [0] rfl
  have hKc := hK.sub (tys' := []) [] rfl
  refine va_csr (W.runV (As := [.int (nI 2)]) (rest := []) ⟨hx, hb, hml, hown, hts⟩ (c_X7_chosenSet_2 l dC dI q s0 s1 s2 ) (cwV 1 hts gX7_insertAll_X7_chosenSet rfl rfl rfl (by decide +kernel) ⟨Nat.le_of_ble_eq_true rfl, Nat.le_of_ble_eq_true rfl⟩) ⟨fun a U g mk q => by obtain ⟨q0, qP, qK⟩ := q; exact ⟨q0, qP, va_K.moved (u := U) (U := U.calling g mk a) (Vm.Alike.refl U.vm) qK⟩, va_recv hKc hPc (ci := 6) (q0 := 0) rfl rfl, fun U hU hW => ⟨rfl, by rw [hU]; exact hPc, va_K.moved hW.alike hKc⟩⟩ rfl rfl hl.1 rfl (lv_room (Nat.le_of_ble_eq_true rfl)) dX7_insertAll_2 ⟨Nat.le_of_ble_eq_true rfl, Nat.le_of_ble_eq_true rfl⟩) (fun r_2 hw_1 => ?_)
  have hw_1 := hw_1.symm
  subst hw_1
  refine lv_astore_n (lv' := [(3, .ref s2), (0, .ref q), (1, .int (nI 2)), (2, .int (nI 2))]) hx hb dX7_insertAll_5 rfl hl (by decide) rfl (fun ls hl => ?_)
  refine lv_aload_n hx hb dX7_insertAll_6 rfl (lv_at hl 1 rfl) ?_
  refine lv_iload_n hx hb dX7_insertAll_7 rfl (lv_at hl 3 rfl) ?_
  have hPc := hP.sub (ws' := [(q, .inr (6, [.ref s0, .ref s1, .ref s2]))]) [0] rfl
  have hKc := hK.sub (tys' := []) [] rfl
  refine va_csr (W.runV (As := [.int (nI 2)]) (rest := []) ⟨hx, hb, hml, hown, hts⟩ (c_X7_chosenSet_2 l dC dI q s0 s1 s2 ) (cwV 1 hts gX7_insertAll_X7_chosenSet rfl rfl rfl (by decide +kernel) ⟨Nat.le_of_ble_eq_true rfl, Nat.le_of_ble_eq_true rfl⟩) ⟨fun a U g mk q => by obtain ⟨q0, qP, qK⟩ := q; exact ⟨q0, qP, va_K.moved (u := U) (U := U.calling g mk a) (Vm.Alike.refl U.vm) qK⟩, va_recv hKc hPc (ci := 6) (q0 := 0) rfl rfl, fun U hU hW => ⟨rfl, by rw [hU]; exact hPc, va_K.moved hW.alike hKc⟩⟩ rfl rfl hl.1 rfl (lv_room (Nat.le_of_ble_eq_true rfl)) dX7_insertAll_8 ⟨Nat.le_of_ble_eq_true rfl, Nat.le_of_ble_eq_true rfl⟩) (fun r_4 hw_3 => ?_)
  have hw_3 := hw_3.symm
  subst hw_3
  refine lv_astore (lv' := [(4, .ref s2), (3, .ref s2), (0, .ref q), (1, .int (nI 2)), (2, .int (nI 2))]) hx hb dX7_insertAll_11 hl (by decide) rfl (fun ls hl => ?_)
  refine lv_aload hx hb dX7_insertAll_13 (lv_at hl 0 rfl) ?_
  refine va_getN (D := (dC, dI)) (ci := 3) (v := .ref uq) (C := RX3) (T := TX3) (N := 3) hx hb hts (by decide +kernel) hown hK hP 1 rfl rfl 2 (by decide) (va_Nw.use rfl nw0) (fun _ h9 => h9) rfl dX7_insertAll_15 ?_
  have hPc := hP.sub (ws' := [(uq, .inr (1, [.ref bm, .ref bs])), (bm, .inr (0, [.ref am])), (am, .inl (cJ, 64, .inr (.inl fm))), (bs, .inr (0, [.ref ap])), (ap, .inl (cJ, 64, .inr (.inl fs)))]) [7, 8, 9, 10, 11] rfl
  have hKc := hK.sub (tys' := [(cJ, .long)]) [0] rfl
  refine vp_callSi (W.runV (As := []) (rest := []) ⟨hx, hb, hml, hown, hts⟩ (c_X1_memberCount l dC dI uq bm am bs ap cJ fm fs ) (cwV 0 hts gX7_insertAll_X1_memberCount rfl rfl rfl (by decide +kernel) ⟨Nat.le_of_ble_eq_true rfl, Nat.le_of_ble_eq_true rfl⟩) ⟨fun a U g mk q => by obtain ⟨q0, qP, qK⟩ := q; exact ⟨q0, qP, va_K.moved (u := U) (U := U.calling g mk a) (Vm.Alike.refl U.vm) qK⟩, va_recv hKc hPc (ci := 1) (q0 := 0) rfl rfl, fun U hU hW => ⟨rfl, by rw [hU]; exact hPc, va_K.moved hW.alike hKc⟩⟩ rfl rfl hl.1 rfl (lv_room (Nat.le_of_ble_eq_true rfl)) dX7_insertAll_18 ⟨Nat.le_of_ble_eq_true rfl, Nat.le_of_ble_eq_true rfl⟩) (fun r_6 hw_5 => ?_)
  subst hw_5
  refine lv_istore (lv' := [(5, .int (nI (fb_ct (bo fm) 4096))), (4, .ref s2), (3, .ref s2), (0, .ref q), (1, .int (nI 2)), (2, .int (nI 2))]) hx hb dX7_insertAll_21 hl (by decide) rfl (fun ls hl => ?_)
  refine lv_iload hx hb dX7_insertAll_23 (lv_at hl 0 rfl) ?_
  refine lv_bipush (v := nI 30) hx hb dX7_insertAll_25 (by decide +kernel) ?_
  refine lv_icmp_le (tgt := 40) hx hb dX7_insertAll_27 (by decide) (fun qc_7 => ?_) (fun qc_7 => ?_)
  · have c_7 : (fb_ct (bo fm) 4096) ≤ 30 := (nI_leI (a := fb_ct (bo fm) 4096) (b := 30) (by omega) (by omega)).mp qc_7
    exact absurd c_7 (by omega)
  · have c_7 : ¬ (fb_ct (bo fm) 4096) ≤ 30 := fun h9 => qc_7 ((nI_leI (a := fb_ct (bo fm) 4096) (b := 30) (by omega) (by omega)).mpr h9)
    exact vx_throwS hx hb hls (own := RX7) (cls := "java/lang/IllegalStateException") (text := "the other set has too many members") (names := ["java/lang/RuntimeException", "java/lang/Exception"]) (ik := 48) (is := 50) (ic := 52) (sa := sa) hown (by decide) (by decide) (hts (.classLink RX7 48 "java/lang/IllegalStateException") (by decide +kernel)) (hts (.initialized "java/lang/IllegalStateException") (by decide +kernel)) hT.1 (vx_hat (L := (vx_atS RX7 52 "java/lang/IllegalStateException" ["java/lang/RuntimeException", "java/lang/Exception"])) (B := [.declares (Bundle.initS tw_r), .declares (Bundle.initS tw_e), .declares (Bundle.initS Bundle.tN), .castable "java/lang/IllegalStateException" "java/lang/IllegalStateException"]) (fun w hw => hts w (List.mem_cons_of_mem _ (List.mem_append_left _ (List.mem_append_right _ hw)))) (by decide +kernel) (vx_c (va_Nw.use rfl hT.2.2.2.1) (vx_c (va_Nw.use rfl hT.2.2.2.2.1) (vx_c (va_Nw.use rfl hT.2.2.2.2.2.1) (vx_c (va_Nw.use rfl hT.2.2.2.2.2.2) vx_n))))) (List.all_eq_true.mp (by decide +kernel)) hT.2.1 hT.2.2.1 hS (by rw [hml]; exact hl.1) dX7_insertAll_30 dX7_insertAll_33 dX7_insertAll_34 dX7_insertAll_36 dX7_insertAll_39 (fun x h => (hcat x h).elim) (Nat.le_of_ble_eq_true rfl) (Nat.le_of_ble_eq_true rfl) (Nat.le_of_ble_eq_true rfl) (Nat.le_of_ble_eq_true rfl) hlocks (fun t _ h1 h2 => ⟨(), trivial, rfl, h1, fun q h3 _ => h2 q h3⟩) (fun z h => nomatch h) (Nat.le_of_ble_eq_true rfl) (Nat.le_of_ble_eq_true rfl)
