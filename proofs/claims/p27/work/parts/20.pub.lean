set_option maxHeartbeats 4000000 in
set_option maxRecDepth 100000 in
/-- needNumber, in range -/
theorem c_X7_needNumber (l : Launch) (dC : Nat → ClassId) (dI : Nat → Nat → Nat) (k : Nat) (hk : k < 4096) : Met l yX7_needNumber wsX7_needNumber ({ frames := 0, cells := 0, slots := 0, locals := 0 }) (va_Pc [.int (nI k)] (fun U => va_P (dC, dI) vwCl [] U.heap ∧ va_K (dC, dI) vwCl [] U)) (va_Sv (fun _ => True)) 0 0 (fun _ => False) := by
  refine Met.ofW (cc := cX7_needNumber) (maxL := 1) (ret := none) (by decide) rfl ?_
  intro p e s m args below meth c s₁ B hml hv
  obtain ⟨rfl, hP, hK⟩ := hv
  have hx := B.exec
  have hb := B.bytes
  have hr := B.returns
  have hts := atoms_spec (ws := wsX7_needNumber) B.pre
  have hown : s.vm.findClass RX7 = some m.cls := findClass_of_methodNamed B.named
  have hlocks := B.notSynchronized
  have hP : va_P (dC, dI) vwCl [] s.heap := hP
  have hl := lv_entry ([.int (nI k)]) (n := 1) (Nat.le_of_ble_eq_true rfl)
  rw [lg_entry_eq]
  generalize (lg_sl ([.int (nI k)]) ++ List.replicate (1 - (lg_sl ([.int (nI k)])).length) Slot.unset).toArray = ls at hl ⊢
  have hl : lv_has ls 1 [(0, .int (nI k))] := hl
  refine lv_iload_n hx hb dX7_needNumber_0 rfl (lv_at hl 0 rfl) ?_
  refine lv_if_lt (tgt := 11) hx hb dX7_needNumber_1 (by decide) (fun qc_1 => ?_) (fun qc_1 => ?_)
  · have c_1 : k < 0 := (nI_ltI (a := k) (b := 0) (by omega) (by omega)).mp qc_1
    exact absurd c_1 (Nat.not_lt_zero _)
  · have c_1 : ¬ k < 0 := fun h9 => qc_1 ((nI_ltI (a := k) (b := 0) (by omega) (by omega)).mpr h9)
    refine lv_iload_n hx hb dX7_needNumber_4 rfl (lv_at hl 0 rfl) ?_
    refine lv_sipush (v := nI 4096) hx hb dX7_needNumber_5 (by decide +kernel) ?_
    refine lv_icmp_lt (tgt := 21) hx hb dX7_needNumber_8 (by decide) (fun qc_2 => ?_) (fun qc_2 => ?_)
    · have c_2 : k < 4096 := (nI_ltI (a := k) (b := 4096) (by omega) (by omega)).mp qc_2
      exact W.vret hx hb hr (fun t9 ht hW => ⟨rfl, trivial, ht⟩) (fun q h => by cases h) dX7_needNumber_21
    · have c_2 : ¬ k < 4096 := fun h9 => qc_2 ((nI_ltI (a := k) (b := 4096) (by omega) (by omega)).mpr h9)
      exact absurd hk c_2
set_option maxHeartbeats 4000000 in
set_option maxRecDepth 100000 in
/-- needMember, a number -/
theorem c_X7_needMember (l : Launch) (dC : Nat → ClassId) (dI : Nat → Nat → Nat) (k : Nat) (hk : k < 2 ^ 31) : Met l yX7_needMember wsX7_needMember ({ frames := 0, cells := 0, slots := 0, locals := 0 }) (va_Pc [.int (nI k)] (fun U => va_P (dC, dI) vwCl [] U.heap ∧ va_K (dC, dI) vwCl [] U)) (va_Sv (fun _ => True)) 0 0 (fun _ => False) := by
  refine Met.ofW (cc := cX7_needMember) (maxL := 1) (ret := none) (by decide) rfl ?_
  intro p e s m args below meth c s₁ B hml hv
  obtain ⟨rfl, hP, hK⟩ := hv
  have hx := B.exec
  have hb := B.bytes
  have hr := B.returns
  have hts := atoms_spec (ws := wsX7_needMember) B.pre
  have hown : s.vm.findClass RX7 = some m.cls := findClass_of_methodNamed B.named
  have hlocks := B.notSynchronized
  have hP : va_P (dC, dI) vwCl [] s.heap := hP
  have hl := lv_entry ([.int (nI k)]) (n := 1) (Nat.le_of_ble_eq_true rfl)
  rw [lg_entry_eq]
  generalize (lg_sl ([.int (nI k)]) ++ List.replicate (1 - (lg_sl ([.int (nI k)])).length) Slot.unset).toArray = ls at hl ⊢
  have hl : lv_has ls 1 [(0, .int (nI k))] := hl
  refine lv_iload_n hx hb dX7_needMember_0 rfl (lv_at hl 0 rfl) ?_
  refine lv_iconst (v := -1) hx hb dX7_needMember_1 (by decide +kernel) ?_
  refine lv_icmp_ne (tgt := 15) hx hb dX7_needMember_2 (by decide) (fun qc_1 => ?_) (fun qc_1 => ?_)
  · exact W.vret hx hb hr (fun t9 ht hW => ⟨rfl, trivial, ht⟩) (fun q h => by cases h) dX7_needMember_15
  · exact absurd qc_1 (nI_nem1 (by omega))
set_option maxHeartbeats 4000000 in
set_option maxRecDepth 100000 in
/-- needPlace, in range -/
theorem c_X7_needPlace (l : Launch) (dC : Nat → ClassId) (dI : Nat → Nat → Nat) (k : Nat) (n : Nat) (hk : k < n) (hn : n < 2 ^ 31) : Met l yX7_needPlace wsX7_needPlace ({ frames := 0, cells := 0, slots := 0, locals := 0 }) (va_Pc [.int (nI k), .int (nI n)] (fun U => va_P (dC, dI) vwCl [] U.heap ∧ va_K (dC, dI) vwCl [] U)) (va_Sv (fun _ => True)) 0 0 (fun _ => False) := by
  refine Met.ofW (cc := cX7_needPlace) (maxL := 2) (ret := none) (by decide) rfl ?_
  intro p e s m args below meth c s₁ B hml hv
  obtain ⟨rfl, hP, hK⟩ := hv
  have hx := B.exec
  have hb := B.bytes
  have hr := B.returns
  have hts := atoms_spec (ws := wsX7_needPlace) B.pre
  have hown : s.vm.findClass RX7 = some m.cls := findClass_of_methodNamed B.named
  have hlocks := B.notSynchronized
  have hP : va_P (dC, dI) vwCl [] s.heap := hP
  have hl := lv_entry ([.int (nI k), .int (nI n)]) (n := 2) (Nat.le_of_ble_eq_true rfl)
  rw [lg_entry_eq]
  generalize (lg_sl ([.int (nI k), .int (nI n)]) ++ List.replicate (2 - (lg_sl ([.int (nI k), .int (nI n)])).length) Slot.unset).toArray = ls at hl ⊢
  have hl : lv_has ls 2 [(0, .int (nI k)), (1, .int (nI n))] := hl
  refine lv_iload_n hx hb dX7_needPlace_0 rfl (lv_at hl 0 rfl) ?_
  refine lv_if_lt (tgt := 9) hx hb dX7_needPlace_1 (by decide) (fun qc_1 => ?_) (fun qc_1 => ?_)
  · have c_1 : k < 0 := (nI_ltI (a := k) (b := 0) (by omega) (by omega)).mp qc_1
    exact absurd c_1 (Nat.not_lt_zero _)
  · have c_1 : ¬ k < 0 := fun h9 => qc_1 ((nI_ltI (a := k) (b := 0) (by omega) (by omega)).mpr h9)
    refine lv_iload_n hx hb dX7_needPlace_4 rfl (lv_at hl 0 rfl) ?_
    refine lv_iload_n hx hb dX7_needPlace_5 rfl (lv_at hl 1 rfl) ?_
    refine lv_icmp_lt (tgt := 19) hx hb dX7_needPlace_6 (by decide) (fun qc_2 => ?_) (fun qc_2 => ?_)
    · have c_2 : k < n := (nI_ltI (a := k) (b := n) (by omega) (by omega)).mp qc_2
      exact W.vret hx hb hr (fun t9 ht hW => ⟨rfl, trivial, ht⟩) (fun q h => by cases h) dX7_needPlace_19
    · have c_2 : ¬ k < n := fun h9 => qc_2 ((nI_ltI (a := k) (b := n) (by omega) (by omega)).mpr h9)
      exact absurd hk c_2
set_option maxHeartbeats 4000000 in
set_option maxRecDepth 100000 in
/-- chosenSet(0) -/
theorem c_X7_chosenSet_0 (l : Launch) (dC : Nat → ClassId) (dI : Nat → Nat → Nat) (q : Nat) (s0 : Nat) (s1 : Nat) (s2 : Nat) : Met l yX7_chosenSet wsX7_chosenSet ({ frames := 0, cells := 0, slots := 0, locals := 0 }) (va_Pc [.ref q, .int (nI 0)] (fun U => va_P (dC, dI) vwCl [(q, .inr (6, [.ref s0, .ref s1, .ref s2]))] U.heap ∧ va_K (dC, dI) vwCl [] U)) (va_Sr (fun r => r = s0) (fun r => .ref r)) 0 0 (fun _ => False) := by
  refine Met.ofW (cc := cX7_chosenSet) (maxL := 2) (ret := (some (.object "SmallNumberSets$NumberSet"))) (by decide) rfl ?_
  intro p e s m args below meth c s₁ B hml hv
  obtain ⟨rfl, hP, hK⟩ := hv
  have hx := B.exec
  have hb := B.bytes
  have hr := B.returns
  have hts := atoms_spec (ws := wsX7_chosenSet) B.pre
  have hown : s.vm.findClass RX7 = some m.cls := findClass_of_methodNamed B.named
  have hlocks := B.notSynchronized
  have hP : va_P (dC, dI) vwCl [(q, .inr (6, [.ref s0, .ref s1, .ref s2]))] s.heap := hP
  have hl := lv_entry ([.ref q, .int (nI 0)]) (n := 2) (Nat.le_of_ble_eq_true rfl)
  rw [lg_entry_eq]
  generalize (lg_sl ([.ref q, .int (nI 0)]) ++ List.replicate (2 - (lg_sl ([.ref q, .int (nI 0)])).length) Slot.unset).toArray = ls at hl ⊢
  have hl : lv_has ls 2 [(0, .ref q), (1, .int (nI 0))] := hl
  refine lv_iload_n hx hb dX7_chosenSet_0 rfl (lv_at hl 1 rfl) ?_
  refine lv_tableIn (off := 27) (tgt := 28) hx hb dX7_chosenSet_1 (by decide +kernel) (by decide +kernel) (by decide +kernel) (by decide) ?_
  refine lv_aload_n hx hb dX7_chosenSet_28 rfl (lv_at hl 0 rfl) ?_
  refine va_get (D := (dC, dI)) (ci := 6) (v := .ref s0) (C := RX7) (T := TX7) (N := 3) hx hb hts (by decide +kernel) hown hK hP 0 rfl rfl 0 (by decide) (hts (.fieldLink RX7 10 "SmallNumberSets" "first" "LSmallNumberSets$NumberSet;") (by decide +kernel)) (fun _ h9 => h9) rfl dX7_chosenSet_29 ?_
  exact W.aret (v := .ref s0) hx hb hr (Or.inl ⟨_, rfl⟩) (Or.inr ⟨_, rfl⟩) (fun t9 ht hW => ⟨s0, rfl, rfl, ht⟩) (fun q h => by cases h) dX7_chosenSet_32
set_option maxHeartbeats 4000000 in
set_option maxRecDepth 100000 in
/-- chosenSet(1) -/
theorem c_X7_chosenSet_1 (l : Launch) (dC : Nat → ClassId) (dI : Nat → Nat → Nat) (q : Nat) (s0 : Nat) (s1 : Nat) (s2 : Nat) : Met l yX7_chosenSet wsX7_chosenSet ({ frames := 0, cells := 0, slots := 0, locals := 0 }) (va_Pc [.ref q, .int (nI 1)] (fun U => va_P (dC, dI) vwCl [(q, .inr (6, [.ref s0, .ref s1, .ref s2]))] U.heap ∧ va_K (dC, dI) vwCl [] U)) (va_Sr (fun r => r = s1) (fun r => .ref r)) 0 0 (fun _ => False) := by
  refine Met.ofW (cc := cX7_chosenSet) (maxL := 2) (ret := (some (.object "SmallNumberSets$NumberSet"))) (by decide) rfl ?_
  intro p e s m args below meth c s₁ B hml hv
  obtain ⟨rfl, hP, hK⟩ := hv
  have hx := B.exec
  have hb := B.bytes
  have hr := B.returns
  have hts := atoms_spec (ws := wsX7_chosenSet) B.pre
  have hown : s.vm.findClass RX7 = some m.cls := findClass_of_methodNamed B.named
  have hlocks := B.notSynchronized
  have hP : va_P (dC, dI) vwCl [(q, .inr (6, [.ref s0, .ref s1, .ref s2]))] s.heap := hP
  have hl := lv_entry ([.ref q, .int (nI 1)]) (n := 2) (Nat.le_of_ble_eq_true rfl)
  rw [lg_entry_eq]
  generalize (lg_sl ([.ref q, .int (nI 1)]) ++ List.replicate (2 - (lg_sl ([.ref q, .int (nI 1)])).length) Slot.unset).toArray = ls at hl ⊢
  have hl : lv_has ls 2 [(0, .ref q), (1, .int (nI 1))] := hl
  refine lv_iload_n hx hb dX7_chosenSet_0 rfl (lv_at hl 1 rfl) ?_
  refine lv_tableIn (off := 32) (tgt := 33) hx hb dX7_chosenSet_1 (by decide +kernel) (by decide +kernel) (by decide +kernel) (by decide) ?_
  refine lv_aload_n hx hb dX7_chosenSet_33 rfl (lv_at hl 0 rfl) ?_
  refine va_get (D := (dC, dI)) (ci := 6) (v := .ref s1) (C := RX7) (T := TX7) (N := 3) hx hb hts (by decide +kernel) hown hK hP 0 rfl rfl 1 (by decide) (hts (.fieldLink RX7 16 "SmallNumberSets" "second" "LSmallNumberSets$NumberSet;") (by decide +kernel)) (fun _ h9 => h9) rfl dX7_chosenSet_34 ?_
  exact W.aret (v := .ref s1) hx hb hr (Or.inl ⟨_, rfl⟩) (Or.inr ⟨_, rfl⟩) (fun t9 ht hW => ⟨s1, rfl, rfl, ht⟩) (fun q h => by cases h) dX7_chosenSet_37
set_option maxHeartbeats 4000000 in
set_option maxRecDepth 100000 in
/-- chosenSet(2) -/
theorem c_X7_chosenSet_2 (l : Launch) (dC : Nat → ClassId) (dI : Nat → Nat → Nat) (q : Nat) (s0 : Nat) (s1 : Nat) (s2 : Nat) : Met l yX7_chosenSet wsX7_chosenSet ({ frames := 0, cells := 0, slots := 0, locals := 0 }) (va_Pc [.ref q, .int (nI 2)] (fun U => va_P (dC, dI) vwCl [(q, .inr (6, [.ref s0, .ref s1, .ref s2]))] U.heap ∧ va_K (dC, dI) vwCl [] U)) (va_Sr (fun r => r = s2) (fun r => .ref r)) 0 0 (fun _ => False) := by
  refine Met.ofW (cc := cX7_chosenSet) (maxL := 2) (ret := (some (.object "SmallNumberSets$NumberSet"))) (by decide) rfl ?_
  intro p e s m args below meth c s₁ B hml hv
  obtain ⟨rfl, hP, hK⟩ := hv
  have hx := B.exec
  have hb := B.bytes
  have hr := B.returns
  have hts := atoms_spec (ws := wsX7_chosenSet) B.pre
  have hown : s.vm.findClass RX7 = some m.cls := findClass_of_methodNamed B.named
  have hlocks := B.notSynchronized
  have hP : va_P (dC, dI) vwCl [(q, .inr (6, [.ref s0, .ref s1, .ref s2]))] s.heap := hP
  have hl := lv_entry ([.ref q, .int (nI 2)]) (n := 2) (Nat.le_of_ble_eq_true rfl)
  rw [lg_entry_eq]
  generalize (lg_sl ([.ref q, .int (nI 2)]) ++ List.replicate (2 - (lg_sl ([.ref q, .int (nI 2)])).length) Slot.unset).toArray = ls at hl ⊢
  have hl : lv_has ls 2 [(0, .ref q), (1, .int (nI 2))] := hl
  refine lv_iload_n hx hb dX7_chosenSet_0 rfl (lv_at hl 1 rfl) ?_
  refine lv_tableIn (off := 37) (tgt := 38) hx hb dX7_chosenSet_1 (by decide +kernel) (by decide +kernel) (by decide +kernel) (by decide) ?_
  refine lv_aload_n hx hb dX7_chosenSet_38 rfl (lv_at hl 0 rfl) ?_
  refine va_get (D := (dC, dI)) (ci := 6) (v := .ref s2) (C := RX7) (T := TX7) (N := 3) hx hb hts (by decide +kernel) hown hK hP 0 rfl rfl 2 (by decide) (hts (.fieldLink RX7 19 "SmallNumberSets" "third" "LSmallNumberSets$NumberSet;") (by decide +kernel)) (fun _ h9 => h9) rfl dX7_chosenSet_39 ?_
  exact W.aret (v := .ref s2) hx hb hr (Or.inl ⟨_, rfl⟩) (Or.inr ⟨_, rfl⟩) (fun t9 ht hW => ⟨s2, rfl, rfl, ht⟩) (fun q h => by cases h) dX7_chosenSet_42
set_option maxHeartbeats 4000000 in
set_option maxRecDepth 100000 in
/-- insert, set 0 -/
theorem c_X7_insert_0 (l : Launch) (dC : Nat → ClassId) (dI : Nat → Nat → Nat) (q : Nat) (s0 : Nat) (s1 : Nat) (s2 : Nat) (tq : Nat) (ca : Nat) (rq : Nat) (rb : Nat) (rd : Nat) (uq : Nat) (bm : Nat) (am : Nat) (bs : Nat) (ap : Nat) (cJ : ClassId) (fm : Nat → Int64) (fs : Nat → Int64) (ft : Nat → Int64) (fc : Nat → Int64) (sm : Int64) (lo : Option Nat) (k : Nat) (sz : Nat) (hN : NI fm fs ft fc sm lo) (hk : k < 4096) : Met l yX7_insert wsX7_insert ({ frames := 7, cells := 0, slots := 0, locals := 156 }) (va_Pc [.ref q, .int (nI 0), .int (nI k)] (fun U => U.heap.size = sz ∧ va_P (dC, dI) vwCl [(q, .inr (6, [.ref s0, .ref s1, .ref s2])), (s0, .inr (3, [.ref tq, .ref rq, .ref uq])), (tq, .inr (4, [.ref ca, .long sm, .int (oI lo)])), (ca, .inl (cJ, 64, .inr (.inl fc))), (rq, .inr (5, [.ref rb])), (rb, .inr (0, [.ref rd])), (rd, .inl (cJ, 128, .inr (.inl ft))), (uq, .inr (1, [.ref bm, .ref bs])), (bm, .inr (0, [.ref am])), (am, .inl (cJ, 64, .inr (.inl fm))), (bs, .inr (0, [.ref ap])), (ap, .inl (cJ, 64, .inr (.inl fs)))] U.heap ∧ va_K (dC, dI) vwCl [(cJ, .long)] U ∧ va_D (fun _ => True) [(q, .inr (6, [.ref s0, .ref s1, .ref s2])), (s0, .inr (3, [.ref tq, .ref rq, .ref uq])), (tq, .inr (4, [.ref ca, .long sm, .int (oI lo)])), (ca, .inl (cJ, 64, .inr (.inl fc))), (rq, .inr (5, [.ref rb])), (rb, .inr (0, [.ref rd])), (rd, .inl (cJ, 128, .inr (.inl ft))), (uq, .inr (1, [.ref bm, .ref bs])), (bm, .inr (0, [.ref am])), (am, .inl (cJ, 64, .inr (.inl fm))), (bs, .inr (0, [.ref ap])), (ap, .inl (cJ, 64, .inr (.inl fs)))])) (va_Qi (fun (r : Int32) (u : (Nat → Int64) × (Nat → Int64) × (Nat → Int64) × (Nat → Int64) × Int64 × (Option Nat)) => r = b2i (!bo fm k) ∧ NI u.1 u.2.1 u.2.2.1 u.2.2.2.1 u.2.2.2.2.1 u.2.2.2.2.2 ∧ (∀ x, x < 4096 → bo u.1 x = ins (bo fm) k x) ∧ ∀ x, x < 4096 → bo u.2.1 x = putP (bo fm) (bo fs) k x) (fun (u : (Nat → Int64) × (Nat → Int64) × (Nat → Int64) × (Nat → Int64) × Int64 × (Option Nat)) (t : State) => va_P (dC, dI) vwCl [(q, .inr (6, [.ref s0, .ref s1, .ref s2])), (s0, .inr (3, [.ref tq, .ref rq, .ref uq])), (tq, .inr (4, [.ref ca, .long u.2.2.2.2.1, .int (oI u.2.2.2.2.2)])), (ca, .inl (cJ, 64, .inr (.inl u.2.2.2.1))), (rq, .inr (5, [.ref rb])), (rb, .inr (0, [.ref rd])), (rd, .inl (cJ, 128, .inr (.inl u.2.2.1))), (uq, .inr (1, [.ref bm, .ref bs])), (bm, .inr (0, [.ref am])), (am, .inl (cJ, 64, .inr (.inl u.1))), (bs, .inr (0, [.ref ap])), (ap, .inl (cJ, 64, .inr (.inl u.2.1)))] t.heap ∧ va_K (dC, dI) vwCl [(cJ, .long)] t ∧ va_D (va_A [(q, .inr (6, [.ref s0, .ref s1, .ref s2])), (s0, .inr (3, [.ref tq, .ref rq, .ref uq])), (tq, .inr (4, [.ref ca, .long sm, .int (oI lo)])), (ca, .inl (cJ, 64, .inr (.inl fc))), (rq, .inr (5, [.ref rb])), (rb, .inr (0, [.ref rd])), (rd, .inl (cJ, 128, .inr (.inl ft))), (uq, .inr (1, [.ref bm, .ref bs])), (bm, .inr (0, [.ref am])), (am, .inl (cJ, 64, .inr (.inl fm))), (bs, .inr (0, [.ref ap])), (ap, .inl (cJ, 64, .inr (.inl fs)))] sz) [(q, .inr (6, [.ref s0, .ref s1, .ref s2])), (s0, .inr (3, [.ref tq, .ref rq, .ref uq])), (tq, .inr (4, [.ref ca, .long u.2.2.2.2.1, .int (oI u.2.2.2.2.2)])), (ca, .inl (cJ, 64, .inr (.inl u.2.2.2.1))), (rq, .inr (5, [.ref rb])), (rb, .inr (0, [.ref rd])), (rd, .inl (cJ, 128, .inr (.inl u.2.2.1))), (uq, .inr (1, [.ref bm, .ref bs])), (bm, .inr (0, [.ref am])), (am, .inl (cJ, 64, .inr (.inl u.1))), (bs, .inr (0, [.ref ap])), (ap, .inl (cJ, 64, .inr (.inl u.2.1)))]) (va_A [(q, .inr (6, [.ref s0, .ref s1, .ref s2])), (s0, .inr (3, [.ref tq, .ref rq, .ref uq])), (tq, .inr (4, [.ref ca, .long sm, .int (oI lo)])), (ca, .inl (cJ, 64, .inr (.inl fc))), (rq, .inr (5, [.ref rb])), (rb, .inr (0, [.ref rd])), (rd, .inl (cJ, 128, .inr (.inl ft))), (uq, .inr (1, [.ref bm, .ref bs])), (bm, .inr (0, [.ref am])), (am, .inl (cJ, 64, .inr (.inl fm))), (bs, .inr (0, [.ref ap])), (ap, .inl (cJ, 64, .inr (.inl fs)))] sz)) 0 0 (va_A [(q, .inr (6, [.ref s0, .ref s1, .ref s2])), (s0, .inr (3, [.ref tq, .ref rq, .ref uq])), (tq, .inr (4, [.ref ca, .long sm, .int (oI lo)])), (ca, .inl (cJ, 64, .inr (.inl fc))), (rq, .inr (5, [.ref rb])), (rb, .inr (0, [.ref rd])), (rd, .inl (cJ, 128, .inr (.inl ft))), (uq, .inr (1, [.ref bm, .ref bs])), (bm, .inr (0, [.ref am])), (am, .inl (cJ, 64, .inr (.inl fm))), (bs, .inr (0, [.ref ap])), (ap, .inl (cJ, 64, .inr (.inl fs)))] sz) := by
  refine Met.ofW (cc := cX7_insert) (maxL := 4) (ret := (some .boolean)) (by decide) rfl ?_
  intro p e s m args below meth c s₁ B hml hv
  obtain ⟨rfl, hsz, hP, hK, hD0⟩ := hv
  have hx := B.exec
  have hb := B.bytes
  have hr := B.returns
  have hts := atoms_spec (ws := wsX7_insert) B.pre
  have hown : s.vm.findClass RX7 = some m.cls := findClass_of_methodNamed B.named
  have hlocks := B.notSynchronized
  subst hsz
  have hD := hD0.self (sz := s.heap.size)
  generalize hAe : va_A [(q, .inr (6, [.ref s0, .ref s1, .ref s2])), (s0, .inr (3, [.ref tq, .ref rq, .ref uq])), (tq, .inr (4, [.ref ca, .long sm, .int (oI lo)])), (ca, .inl (cJ, 64, .inr (.inl fc))), (rq, .inr (5, [.ref rb])), (rb, .inr (0, [.ref rd])), (rd, .inl (cJ, 128, .inr (.inl ft))), (uq, .inr (1, [.ref bm, .ref bs])), (bm, .inr (0, [.ref am])), (am, .inl (cJ, 64, .inr (.inl fm))), (bs, .inr (0, [.ref ap])), (ap, .inl (cJ, 64, .inr (.inl fs)))] s.heap.size = A at hD ⊢
  have hA : ∀ q : Nat, s.heap.size ≤ q → A q := fun q h => by rw [← hAe]; exact Or.inr h
  have hS : va_S A s.heap s.heap [] := va_S.rf
  have hP : va_P (dC, dI) vwCl [(q, .inr (6, [.ref s0, .ref s1, .ref s2])), (s0, .inr (3, [.ref tq, .ref rq, .ref uq])), (tq, .inr (4, [.ref ca, .long sm, .int (oI lo)])), (ca, .inl (cJ, 64, .inr (.inl fc))), (rq, .inr (5, [.ref rb])), (rb, .inr (0, [.ref rd])), (rd, .inl (cJ, 128, .inr (.inl ft))), (uq, .inr (1, [.ref bm, .ref bs])), (bm, .inr (0, [.ref am])), (am, .inl (cJ, 64, .inr (.inl fm))), (bs, .inr (0, [.ref ap])), (ap, .inl (cJ, 64, .inr (.inl fs)))] s.heap := hP
  have hl := lv_entry ([.ref q, .int (nI 0), .int (nI k)]) (n := 4) (Nat.le_of_ble_eq_true rfl)
  rw [lg_entry_eq]
  generalize (lg_sl ([.ref q, .int (nI 0), .int (nI k)]) ++ List.replicate (4 - (lg_sl ([.ref q, .int (nI 0), .int (nI k)])).length) Slot.unset).toArray = ls at hl ⊢
  have hl : lv_has ls 4 [(0, .ref q), (1, .int (nI 0)), (2, .int (nI k))] := hl
  refine lv_aload_n hx hb dX7_insert_0 rfl (lv_at hl 0 rfl) ?_
  refine lv_iload_n hx hb dX7_insert_1 rfl (lv_at hl 1 rfl) ?_
  have hPc := hP.sub (ws' := [(q, .inr (6, [.ref s0, .ref s1, .ref s2]))]) [0] rfl
  have hKc := hK.sub (tys' := []) [] rfl
  refine va_csr (W.runV (As := [.int (nI 0)]) (rest := []) ⟨hx, hb, hml, hown, hts⟩ (c_X7_chosenSet_0 l dC dI q s0 s1 s2 ) (cwV 1 hts gX7_insert_X7_chosenSet rfl rfl rfl (by decide +kernel) ⟨Nat.le_of_ble_eq_true rfl, Nat.le_of_ble_eq_true rfl⟩) ⟨fun a U g mk q => by obtain ⟨q0, qP, qK⟩ := q; exact ⟨q0, qP, va_K.moved (u := U) (U := U.calling g mk a) (Vm.Alike.refl U.vm) qK⟩, va_recv hKc hPc (ci := 6) (q0 := 0) rfl rfl, fun U hU hW => ⟨rfl, by rw [hU]; exact hPc, va_K.moved hW.alike hKc⟩⟩ rfl rfl hl.1 rfl (lv_room (Nat.le_of_ble_eq_true rfl)) dX7_insert_2 ⟨Nat.le_of_ble_eq_true rfl, Nat.le_of_ble_eq_true rfl⟩) (fun r_2 hw_1 => ?_)
  have hw_1 := hw_1.symm
  subst hw_1
  refine lv_astore_n (lv' := [(3, .ref s0), (0, .ref q), (1, .int (nI 0)), (2, .int (nI k))]) hx hb dX7_insert_5 rfl hl (by decide) rfl (fun ls hl => ?_)
  refine lv_iload_n hx hb dX7_insert_6 rfl (lv_at hl 3 rfl) ?_
  have hPc := hP.sub (ws' := []) [] rfl
  have hKc := hK.sub (tys' := []) [] rfl
  refine va_csv (W.runS (As := [.int (nI k)]) (rest := []) ⟨hx, hb, hml, hown, hts⟩ (c_X7_needNumber l dC dI k (by first | assumption | omega)) (va_cwS 1 hts gX7_insert_X7_needNumber rfl rfl rfl (by decide +kernel) ⟨Nat.le_of_ble_eq_true rfl, Nat.le_of_ble_eq_true rfl⟩) ⟨fun a U g mk q => by obtain ⟨q0, qP, qK⟩ := q; exact ⟨q0, qP, va_K.moved (u := U) (U := U.calling g mk a) (Vm.Alike.refl U.vm) qK⟩, fun U hU hW => ⟨rfl, by rw [hU]; exact hPc, va_K.moved hW.alike hKc⟩⟩ rfl rfl hl.1 rfl (lv_room (Nat.le_of_ble_eq_true rfl)) dX7_insert_7 ⟨Nat.le_of_ble_eq_true rfl, Nat.le_of_ble_eq_true rfl⟩) (fun _ => ?_)
  refine lv_aload_n hx hb dX7_insert_10 rfl (lv_at hl 0 rfl) ?_
  refine lv_iload_n hx hb dX7_insert_11 rfl (lv_at hl 3 rfl) ?_
  have hPc := hP.sub (ws' := [(s0, .inr (3, [.ref tq, .ref rq, .ref uq])), (tq, .inr (4, [.ref ca, .long sm, .int (oI lo)])), (ca, .inl (cJ, 64, .inr (.inl fc))), (rq, .inr (5, [.ref rb])), (rb, .inr (0, [.ref rd])), (rd, .inl (cJ, 128, .inr (.inl ft))), (uq, .inr (1, [.ref bm, .ref bs])), (bm, .inr (0, [.ref am])), (am, .inl (cJ, 64, .inr (.inl fm))), (bs, .inr (0, [.ref ap])), (ap, .inl (cJ, 64, .inr (.inl fs)))]) [1, 2, 3, 4, 5, 6, 7, 8, 9, 10, 11] rfl
  have hKc := hK.sub (tys' := [(cJ, .long)]) [0] rfl
  have hDc := hD.sub (ws' := [(s0, .inr (3, [.ref tq, .ref rq, .ref uq])), (tq, .inr (4, [.ref ca, .long sm, .int (oI lo)])), (ca, .inl (cJ, 64, .inr (.inl fc))), (rq, .inr (5, [.ref rb])), (rb, .inr (0, [.ref rd])), (rd, .inl (cJ, 128, .inr (.inl ft))), (uq, .inr (1, [.ref bm, .ref bs])), (bm, .inr (0, [.ref am])), (am, .inl (cJ, 64, .inr (.inl fm))), (bs, .inr (0, [.ref ap])), (ap, .inl (cJ, 64, .inr (.inl fs)))]) [1, 2, 3, 4, 5, 6, 7, 8, 9, 10, 11] (by decide) rfl
  have hFc := va_free (wc := [(s0, .inr (3, [.ref tq, .ref rq, .ref uq])), (tq, .inr (4, [.ref ca, .long sm, .int (oI lo)])), (ca, .inl (cJ, 64, .inr (.inl fc))), (rq, .inr (5, [.ref rb])), (rb, .inr (0, [.ref rd])), (rd, .inl (cJ, 128, .inr (.inl ft))), (uq, .inr (1, [.ref bm, .ref bs])), (bm, .inr (0, [.ref am])), (am, .inl (cJ, 64, .inr (.inl fm))), (bs, .inr (0, [.ref ap])), (ap, .inl (cJ, 64, .inr (.inl fs)))]) hD hS hA [1, 2, 3, 4, 5, 6, 7, 8, 9, 10, 11] rfl
  refine va_calli (va_runV (As := [.int (nI k)]) (rest := []) ⟨hx, hb, hml, hown, hts⟩ (c_X3_put l dC dI s0 tq ca rq rb rd uq bm am bs ap cJ fm fs ft fc sm lo k s.heap.size (by first | assumption | omega) (by first | assumption | omega)) (cwV 1 hts gX7_insert_X3_put rfl rfl rfl (by decide +kernel) ⟨Nat.le_of_ble_eq_true rfl, Nat.le_of_ble_eq_true rfl⟩) ⟨fun a U g mk q => by obtain ⟨q0, q1, qP, qK, qD⟩ := q; exact ⟨q0, q1, qP, va_K.moved (u := U) (U := U.calling g mk a) (Vm.Alike.refl U.vm) qK, qD⟩, va_recv hKc hPc (ci := 3) (q0 := 0) rfl rfl, fun U hU hW => ⟨rfl, by rw [hU], by rw [hU]; exact hPc, va_K.moved hW.alike hKc, hDc.weaken (fun _ _ _ _ => trivial)⟩⟩ rfl rfl hl.1 rfl (lv_room (Nat.le_of_ble_eq_true rfl)) dX7_insert_12 ⟨Nat.le_of_ble_eq_true rfl, Nat.le_of_ble_eq_true rfl⟩) hS (fun q _ h => hFc q h) hFc (fun r_7 u_6 t9 H1 locs ht hvm hw_5 hB hz1 hk1 hS => ?_)
  obtain ⟨fm'_8, fs'_9, ft'_10, fc'_11, sm'_12, lo'_13⟩ := u_6
  obtain ⟨hP1, hK1, hD1⟩ := hB
  rw [ht] at hP1
  have hK1 := va_K.moved hvm.symm hK1
  try dsimp only at hw_5 hP1 hK1 hD1
  obtain ⟨hP, hD⟩ := va_join (wr := [(q, .inr (6, [.ref s0, .ref s1, .ref s2]))]) (w1 := [(s0, .inr (3, [.ref tq, .ref rq, .ref uq])), (tq, .inr (4, [.ref ca, .long sm'_12, .int (oI lo'_13)])), (ca, .inl (cJ, 64, .inr (.inl fc'_11))), (rq, .inr (5, [.ref rb])), (rb, .inr (0, [.ref rd])), (rd, .inl (cJ, 128, .inr (.inl ft'_10))), (uq, .inr (1, [.ref bm, .ref bs])), (bm, .inr (0, [.ref am])), (am, .inl (cJ, 64, .inr (.inl fm'_8))), (bs, .inr (0, [.ref ap])), (ap, .inl (cJ, 64, .inr (.inl fs'_9)))]) hP hD [1, 2, 3, 4, 5, 6, 7, 8, 9, 10, 11] [0] rfl rfl (by decide) (by decide) hk1 hFc hP1 hD1
  generalize H1 = H at hP hS ⊢
  have hP : va_P (dC, dI) vwCl [(q, .inr (6, [.ref s0, .ref s1, .ref s2])), (s0, .inr (3, [.ref tq, .ref rq, .ref uq])), (tq, .inr (4, [.ref ca, .long sm'_12, .int (oI lo'_13)])), (ca, .inl (cJ, 64, .inr (.inl fc'_11))), (rq, .inr (5, [.ref rb])), (rb, .inr (0, [.ref rd])), (rd, .inl (cJ, 128, .inr (.inl ft'_10))), (uq, .inr (1, [.ref bm, .ref bs])), (bm, .inr (0, [.ref am])), (am, .inl (cJ, 64, .inr (.inl fm'_8))), (bs, .inr (0, [.ref ap])), (ap, .inl (cJ, 64, .inr (.inl fs'_9)))] H := hP
  have hD : va_D A [(q, .inr (6, [.ref s0, .ref s1, .ref s2])), (s0, .inr (3, [.ref tq, .ref rq, .ref uq])), (tq, .inr (4, [.ref ca, .long sm'_12, .int (oI lo'_13)])), (ca, .inl (cJ, 64, .inr (.inl fc'_11))), (rq, .inr (5, [.ref rb])), (rb, .inr (0, [.ref rd])), (rd, .inl (cJ, 128, .inr (.inl ft'_10))), (uq, .inr (1, [.ref bm, .ref bs])), (bm, .inr (0, [.ref am])), (am, .inl (cJ, 64, .inr (.inl fm'_8))), (bs, .inr (0, [.ref ap])), (ap, .inl (cJ, 64, .inr (.inl fs'_9)))] := hD
  obtain ⟨he, hw_5⟩ := hw_5
  subst he
  have hP9 := hP.sub (ws' := [(q, .inr (6, [.ref s0, .ref s1, .ref s2])), (s0, .inr (3, [.ref tq, .ref rq, .ref uq])), (tq, .inr (4, [.ref ca, .long sm'_12, .int (oI lo'_13)])), (ca, .inl (cJ, 64, .inr (.inl fc'_11))), (rq, .inr (5, [.ref rb])), (rb, .inr (0, [.ref rd])), (rd, .inl (cJ, 128, .inr (.inl ft'_10))), (uq, .inr (1, [.ref bm, .ref bs])), (bm, .inr (0, [.ref am])), (am, .inl (cJ, 64, .inr (.inl fm'_8))), (bs, .inr (0, [.ref ap])), (ap, .inl (cJ, 64, .inr (.inl fs'_9)))]) [0, 1, 2, 3, 4, 5, 6, 7, 8, 9, 10, 11] rfl
  have hD9 := hD.sub (ws' := [(q, .inr (6, [.ref s0, .ref s1, .ref s2])), (s0, .inr (3, [.ref tq, .ref rq, .ref uq])), (tq, .inr (4, [.ref ca, .long sm'_12, .int (oI lo'_13)])), (ca, .inl (cJ, 64, .inr (.inl fc'_11))), (rq, .inr (5, [.ref rb])), (rb, .inr (0, [.ref rd])), (rd, .inl (cJ, 128, .inr (.inl ft'_10))), (uq, .inr (1, [.ref bm, .ref bs])), (bm, .inr (0, [.ref am])), (am, .inl (cJ, 64, .inr (.inl fm'_8))), (bs, .inr (0, [.ref ap])), (ap, .inl (cJ, 64, .inr (.inl fs'_9)))]) [0, 1, 2, 3, 4, 5, 6, 7, 8, 9, 10, 11] (by decide) rfl
  have hK9 := hK.sub (tys' := [(cJ, .long)]) [0] rfl
  exact W.zret (v := b2i (!bo fm k)) hx hb hr (b2i_nar _) (fun t9 ht hW => ⟨⟨b2i (!bo fm k), ⟨fm'_8, fs'_9, ft'_10, fc'_11, sm'_12, lo'_13⟩, rfl, (show (b2i (!bo fm k)) = b2i (!bo fm k) ∧ NI fm'_8 fs'_9 ft'_10 fc'_11 sm'_12 lo'_13 ∧ (∀ x, x < 4096 → bo fm'_8 x = ins (bo fm) k x) ∧ ∀ x, x < 4096 → bo fs'_9 x = putP (bo fm) (bo fs) k x from ⟨rfl, hw_5⟩), by rw [ht]; exact hP9, va_K.moved hW.alike hK9, hD9⟩, hS.F ht⟩) hS.2.2 dX7_insert_15
set_option maxHeartbeats 4000000 in
set_option maxRecDepth 100000 in
/-- delete, set 0 -/
theorem c_X7_delete_0 (l : Launch) (dC : Nat → ClassId) (dI : Nat → Nat → Nat) (q : Nat) (s0 : Nat) (s1 : Nat) (s2 : Nat) (tq : Nat) (ca : Nat) (rq : Nat) (rb : Nat) (rd : Nat) (uq : Nat) (bm : Nat) (am : Nat) (bs : Nat) (ap : Nat) (cJ : ClassId) (fm : Nat → Int64) (fs : Nat → Int64) (ft : Nat → Int64) (fc : Nat → Int64) (sm : Int64) (lo : Option Nat) (k : Nat) (sz : Nat) (hN : NI fm fs ft fc sm lo) (hk : k < 4096) : Met l yX7_delete wsX7_delete ({ frames := 7, cells := 0, slots := 0, locals := 159 }) (va_Pc [.ref q, .int (nI 0), .int (nI k)] (fun U => U.heap.size = sz ∧ va_P (dC, dI) vwCl [(q, .inr (6, [.ref s0, .ref s1, .ref s2])), (s0, .inr (3, [.ref tq, .ref rq, .ref uq])), (tq, .inr (4, [.ref ca, .long sm, .int (oI lo)])), (ca, .inl (cJ, 64, .inr (.inl fc))), (rq, .inr (5, [.ref rb])), (rb, .inr (0, [.ref rd])), (rd, .inl (cJ, 128, .inr (.inl ft))), (uq, .inr (1, [.ref bm, .ref bs])), (bm, .inr (0, [.ref am])), (am, .inl (cJ, 64, .inr (.inl fm))), (bs, .inr (0, [.ref ap])), (ap, .inl (cJ, 64, .inr (.inl fs)))] U.heap ∧ va_K (dC, dI) vwCl [(cJ, .long)] U ∧ va_D (fun _ => True) [(q, .inr (6, [.ref s0, .ref s1, .ref s2])), (s0, .inr (3, [.ref tq, .ref rq, .ref uq])), (tq, .inr (4, [.ref ca, .long sm, .int (oI lo)])), (ca, .inl (cJ, 64, .inr (.inl fc))), (rq, .inr (5, [.ref rb])), (rb, .inr (0, [.ref rd])), (rd, .inl (cJ, 128, .inr (.inl ft))), (uq, .inr (1, [.ref bm, .ref bs])), (bm, .inr (0, [.ref am])), (am, .inl (cJ, 64, .inr (.inl fm))), (bs, .inr (0, [.ref ap])), (ap, .inl (cJ, 64, .inr (.inl fs)))])) (va_Qi (fun (r : Int32) (u : (Nat → Int64) × (Nat → Int64) × (Nat → Int64) × (Nat → Int64) × Int64 × (Option Nat)) => r = b2i (bo fm k) ∧ NI u.1 u.2.1 u.2.2.1 u.2.2.2.1 u.2.2.2.2.1 u.2.2.2.2.2 ∧ (∀ x, x < 4096 → bo u.1 x = del (bo fm) k x) ∧ ∀ x, x < 4096 → bo u.2.1 x = takeP (bo fm) (bo fs) k x) (fun (u : (Nat → Int64) × (Nat → Int64) × (Nat → Int64) × (Nat → Int64) × Int64 × (Option Nat)) (t : State) => va_P (dC, dI) vwCl [(q, .inr (6, [.ref s0, .ref s1, .ref s2])), (s0, .inr (3, [.ref tq, .ref rq, .ref uq])), (tq, .inr (4, [.ref ca, .long u.2.2.2.2.1, .int (oI u.2.2.2.2.2)])), (ca, .inl (cJ, 64, .inr (.inl u.2.2.2.1))), (rq, .inr (5, [.ref rb])), (rb, .inr (0, [.ref rd])), (rd, .inl (cJ, 128, .inr (.inl u.2.2.1))), (uq, .inr (1, [.ref bm, .ref bs])), (bm, .inr (0, [.ref am])), (am, .inl (cJ, 64, .inr (.inl u.1))), (bs, .inr (0, [.ref ap])), (ap, .inl (cJ, 64, .inr (.inl u.2.1)))] t.heap ∧ va_K (dC, dI) vwCl [(cJ, .long)] t ∧ va_D (va_A [(q, .inr (6, [.ref s0, .ref s1, .ref s2])), (s0, .inr (3, [.ref tq, .ref rq, .ref uq])), (tq, .inr (4, [.ref ca, .long sm, .int (oI lo)])), (ca, .inl (cJ, 64, .inr (.inl fc))), (rq, .inr (5, [.ref rb])), (rb, .inr (0, [.ref rd])), (rd, .inl (cJ, 128, .inr (.inl ft))), (uq, .inr (1, [.ref bm, .ref bs])), (bm, .inr (0, [.ref am])), (am, .inl (cJ, 64, .inr (.inl fm))), (bs, .inr (0, [.ref ap])), (ap, .inl (cJ, 64, .inr (.inl fs)))] sz) [(q, .inr (6, [.ref s0, .ref s1, .ref s2])), (s0, .inr (3, [.ref tq, .ref rq, .ref uq])), (tq, .inr (4, [.ref ca, .long u.2.2.2.2.1, .int (oI u.2.2.2.2.2)])), (ca, .inl (cJ, 64, .inr (.inl u.2.2.2.1))), (rq, .inr (5, [.ref rb])), (rb, .inr (0, [.ref rd])), (rd, .inl (cJ, 128, .inr (.inl u.2.2.1))), (uq, .inr (1, [.ref bm, .ref bs])), (bm, .inr (0, [.ref am])), (am, .inl (cJ, 64, .inr (.inl u.1))), (bs, .inr (0, [.ref ap])), (ap, .inl (cJ, 64, .inr (.inl u.2.1)))]) (va_A [(q, .inr (6, [.ref s0, .ref s1, .ref s2])), (s0, .inr (3, [.ref tq, .ref rq, .ref uq])), (tq, .inr (4, [.ref ca, .long sm, .int (oI lo)])), (ca, .inl (cJ, 64, .inr (.inl fc))), (rq, .inr (5, [.ref rb])), (rb, .inr (0, [.ref rd])), (rd, .inl (cJ, 128, .inr (.inl ft))), (uq, .inr (1, [.ref bm, .ref bs])), (bm, .inr (0, [.ref am])), (am, .inl (cJ, 64, .inr (.inl fm))), (bs, .inr (0, [.ref ap])), (ap, .inl (cJ, 64, .inr (.inl fs)))] sz)) 0 0 (va_A [(q, .inr (6, [.ref s0, .ref s1, .ref s2])), (s0, .inr (3, [.ref tq, .ref rq, .ref uq])), (tq, .inr (4, [.ref ca, .long sm, .int (oI lo)])), (ca, .inl (cJ, 64, .inr (.inl fc))), (rq, .inr (5, [.ref rb])), (rb, .inr (0, [.ref rd])), (rd, .inl (cJ, 128, .inr (.inl ft))), (uq, .inr (1, [.ref bm, .ref bs])), (bm, .inr (0, [.ref am])), (am, .inl (cJ, 64, .inr (.inl fm))), (bs, .inr (0, [.ref ap])), (ap, .inl (cJ, 64, .inr (.inl fs)))] sz) := by
  refine Met.ofW (cc := cX7_delete) (maxL := 4) (ret := (some .boolean)) (by decide) rfl ?_
  intro p e s m args below meth c s₁ B hml hv
  obtain ⟨rfl, hsz, hP, hK, hD0⟩ := hv
  have hx := B.exec
  have hb := B.bytes
  have hr := B.returns
  have hts := atoms_spec (ws := wsX7_delete) B.pre
  have hown : s.vm.findClass RX7 = some m.cls := findClass_of_methodNamed B.named
  have hlocks := B.notSynchronized
  subst hsz
  have hD := hD0.self (sz := s.heap.size)
  generalize hAe : va_A [(q, .inr (6, [.ref s0, .ref s1, .ref s2])), (s0, .inr (3, [.ref tq, .ref rq, .ref uq])), (tq, .inr (4, [.ref ca, .long sm, .int (oI lo)])), (ca, .inl (cJ, 64, .inr (.inl fc))), (rq, .inr (5, [.ref rb])), (rb, .inr (0, [.ref rd])), (rd, .inl (cJ, 128, .inr (.inl ft))), (uq, .inr (1, [.ref bm, .ref bs])), (bm, .inr (0, [.ref am])), (am, .inl (cJ, 64, .inr (.inl fm))), (bs, .inr (0, [.ref ap])), (ap, .inl (cJ, 64, .inr (.inl fs)))] s.heap.size = A at hD ⊢
  have hA : ∀ q : Nat, s.heap.size ≤ q → A q := fun q h => by rw [← hAe]; exact Or.inr h
  have hS : va_S A s.heap s.heap [] := va_S.rf
  have hP : va_P (dC, dI) vwCl [(q, .inr (6, [.ref s0, .ref s1, .ref s2])), (s0, .inr (3, [.ref tq, .ref rq, .ref uq])), (tq, .inr (4, [.ref ca, .long sm, .int (oI lo)])), (ca, .inl (cJ, 64, .inr (.inl fc))), (rq, .inr (5, [.ref rb])), (rb, .inr (0, [.ref rd])), (rd, .inl (cJ, 128, .inr (.inl ft))), (uq, .inr (1, [.ref bm, .ref bs])), (bm, .inr (0, [.ref am])), (am, .inl (cJ, 64, .inr (.inl fm))), (bs, .inr (0, [.ref ap])), (ap, .inl (cJ, 64, .inr (.inl fs)))] s.heap := hP
  have hl := lv_entry ([.ref q, .int (nI 0), .int (nI k)]) (n := 4) (Nat.le_of_ble_eq_true rfl)
  rw [lg_entry_eq]
  generalize (lg_sl ([.ref q, .int (nI 0), .int (nI k)]) ++ List.replicate (4 - (lg_sl ([.ref q, .int (nI 0), .int (nI k)])).length) Slot.unset).toArray = ls at hl ⊢
  have hl : lv_has ls 4 [(0, .ref q), (1, .int (nI 0)), (2, .int (nI k))] := hl
  refine lv_aload_n hx hb dX7_delete_0 rfl (lv_at hl 0 rfl) ?_
  refine lv_iload_n hx hb dX7_delete_1 rfl (lv_at hl 1 rfl) ?_
  have hPc := hP.sub (ws' := [(q, .inr (6, [.ref s0, .ref s1, .ref s2]))]) [0] rfl
  have hKc := hK.sub (tys' := []) [] rfl
  refine va_csr (W.runV (As := [.int (nI 0)]) (rest := []) ⟨hx, hb, hml, hown, hts⟩ (c_X7_chosenSet_0 l dC dI q s0 s1 s2 ) (cwV 1 hts gX7_delete_X7_chosenSet rfl rfl rfl (by decide +kernel) ⟨Nat.le_of_ble_eq_true rfl, Nat.le_of_ble_eq_true rfl⟩) ⟨fun a U g mk q => by obtain ⟨q0, qP, qK⟩ := q; exact ⟨q0, qP, va_K.moved (u := U) (U := U.calling g mk a) (Vm.Alike.refl U.vm) qK⟩, va_recv hKc hPc (ci := 6) (q0 := 0) rfl rfl, fun U hU hW => ⟨rfl, by rw [hU]; exact hPc, va_K.moved hW.alike hKc⟩⟩ rfl rfl hl.1 rfl (lv_room (Nat.le_of_ble_eq_true rfl)) dX7_delete_2 ⟨Nat.le_of_ble_eq_true rfl, Nat.le_of_ble_eq_true rfl⟩) (fun r_2 hw_1 => ?_)
  have hw_1 := hw_1.symm
  subst hw_1
  refine lv_astore_n (lv' := [(3, .ref s0), (0, .ref q), (1, .int (nI 0)), (2, .int (nI k))]) hx hb dX7_delete_5 rfl hl (by decide) rfl (fun ls hl => ?_)
  refine lv_iload_n hx hb dX7_delete_6 rfl (lv_at hl 3 rfl) ?_
  have hPc := hP.sub (ws' := []) [] rfl
  have hKc := hK.sub (tys' := []) [] rfl
  refine va_csv (W.runS (As := [.int (nI k)]) (rest := []) ⟨hx, hb, hml, hown, hts⟩ (c_X7_needNumber l dC dI k (by first | assumption | omega)) (va_cwS 1 hts gX7_delete_X7_needNumber rfl rfl rfl (by decide +kernel) ⟨Nat.le_of_ble_eq_true rfl, Nat.le_of_ble_eq_true rfl⟩) ⟨fun a U g mk q => by obtain ⟨q0, qP, qK⟩ := q; exact ⟨q0, qP, va_K.moved (u := U) (U := U.calling g mk a) (Vm.Alike.refl U.vm) qK⟩, fun U hU hW => ⟨rfl, by rw [hU]; exact hPc, va_K.moved hW.alike hKc⟩⟩ rfl rfl hl.1 rfl (lv_room (Nat.le_of_ble_eq_true rfl)) dX7_delete_7 ⟨Nat.le_of_ble_eq_true rfl, Nat.le_of_ble_eq_true rfl⟩) (fun _ => ?_)
  refine lv_aload_n hx hb dX7_delete_10 rfl (lv_at hl 0 rfl) ?_
  refine lv_iload_n hx hb dX7_delete_11 rfl (lv_at hl 3 rfl) ?_
  have hPc := hP.sub (ws' := [(s0, .inr (3, [.ref tq, .ref rq, .ref uq])), (tq, .inr (4, [.ref ca, .long sm, .int (oI lo)])), (ca, .inl (cJ, 64, .inr (.inl fc))), (rq, .inr (5, [.ref rb])), (rb, .inr (0, [.ref rd])), (rd, .inl (cJ, 128, .inr (.inl ft))), (uq, .inr (1, [.ref bm, .ref bs])), (bm, .inr (0, [.ref am])), (am, .inl (cJ, 64, .inr (.inl fm))), (bs, .inr (0, [.ref ap])), (ap, .inl (cJ, 64, .inr (.inl fs)))]) [1, 2, 3, 4, 5, 6, 7, 8, 9, 10, 11] rfl
  have hKc := hK.sub (tys' := [(cJ, .long)]) [0] rfl
  have hDc := hD.sub (ws' := [(s0, .inr (3, [.ref tq, .ref rq, .ref uq])), (tq, .inr (4, [.ref ca, .long sm, .int (oI lo)])), (ca, .inl (cJ, 64, .inr (.inl fc))), (rq, .inr (5, [.ref rb])), (rb, .inr (0, [.ref rd])), (rd, .inl (cJ, 128, .inr (.inl ft))), (uq, .inr (1, [.ref bm, .ref bs])), (bm, .inr (0, [.ref am])), (am, .inl (cJ, 64, .inr (.inl fm))), (bs, .inr (0, [.ref ap])), (ap, .inl (cJ, 64, .inr (.inl fs)))]) [1, 2, 3, 4, 5, 6, 7, 8, 9, 10, 11] (by decide) rfl
  have hFc := va_free (wc := [(s0, .inr (3, [.ref tq, .ref rq, .ref uq])), (tq, .inr (4, [.ref ca, .long sm, .int (oI lo)])), (ca, .inl (cJ, 64, .inr (.inl fc))), (rq, .inr (5, [.ref rb])), (rb, .inr (0, [.ref rd])), (rd, .inl (cJ, 128, .inr (.inl ft))), (uq, .inr (1, [.ref bm, .ref bs])), (bm, .inr (0, [.ref am])), (am, .inl (cJ, 64, .inr (.inl fm))), (bs, .inr (0, [.ref ap])), (ap, .inl (cJ, 64, .inr (.inl fs)))]) hD hS hA [1, 2, 3, 4, 5, 6, 7, 8, 9, 10, 11] rfl
  refine va_calli (va_runV (As := [.int (nI k)]) (rest := []) ⟨hx, hb, hml, hown, hts⟩ (c_X3_take l dC dI s0 tq ca rq rb rd uq bm am bs ap cJ fm fs ft fc sm lo k s.heap.size (by first | assumption | omega) (by first | assumption | omega)) (cwV 1 hts gX7_delete_X3_take rfl rfl rfl (by decide +kernel) ⟨Nat.le_of_ble_eq_true rfl, Nat.le_of_ble_eq_true rfl⟩) ⟨fun a U g mk q => by obtain ⟨q0, q1, qP, qK, qD⟩ := q; exact ⟨q0, q1, qP, va_K.moved (u := U) (U := U.calling g mk a) (Vm.Alike.refl U.vm) qK, qD⟩, va_recv hKc hPc (ci := 3) (q0 := 0) rfl rfl, fun U hU hW => ⟨rfl, by rw [hU], by rw [hU]; exact hPc, va_K.moved hW.alike hKc, hDc.weaken (fun _ _ _ _ => trivial)⟩⟩ rfl rfl hl.1 rfl (lv_room (Nat.le_of_ble_eq_true rfl)) dX7_delete_12 ⟨Nat.le_of_ble_eq_true rfl, Nat.le_of_ble_eq_true rfl⟩) hS (fun q _ h => hFc q h) hFc (fun r_7 u_6 t9 H1 locs ht hvm hw_5 hB hz1 hk1 hS => ?_)
  obtain ⟨fm'_8, fs'_9, ft'_10, fc'_11, sm'_12, lo'_13⟩ := u_6
  obtain ⟨hP1, hK1, hD1⟩ := hB
  rw [ht] at hP1
  have hK1 := va_K.moved hvm.symm hK1
  try dsimp only at hw_5 hP1 hK1 hD1
  obtain ⟨hP, hD⟩ := va_join (wr := [(q, .inr (6, [.ref s0, .ref s1, .ref s2]))]) (w1 := [(s0, .inr (3, [.ref tq, .ref rq, .ref uq])), (tq, .inr (4, [.ref ca, .long sm'_12, .int (oI lo'_13)])), (ca, .inl (cJ, 64, .inr (.inl fc'_11))), (rq, .inr (5, [.ref rb])), (rb, .inr (0, [.ref rd])), (rd, .inl (cJ, 128, .inr (.inl ft'_10))), (uq, .inr (1, [.ref bm, .ref bs])), (bm, .inr (0, [.ref am])), (am, .inl (cJ, 64, .inr (.inl fm'_8))), (bs, .inr (0, [.ref ap])), (ap, .inl (cJ, 64, .inr (.inl fs'_9)))]) hP hD [1, 2, 3, 4, 5, 6, 7, 8, 9, 10, 11] [0] rfl rfl (by decide) (by decide) hk1 hFc hP1 hD1
  generalize H1 = H at hP hS ⊢
  have hP : va_P (dC, dI) vwCl [(q, .inr (6, [.ref s0, .ref s1, .ref s2])), (s0, .inr (3, [.ref tq, .ref rq, .ref uq])), (tq, .inr (4, [.ref ca, .long sm'_12, .int (oI lo'_13)])), (ca, .inl (cJ, 64, .inr (.inl fc'_11))), (rq, .inr (5, [.ref rb])), (rb, .inr (0, [.ref rd])), (rd, .inl (cJ, 128, .inr (.inl ft'_10))), (uq, .inr (1, [.ref bm, .ref bs])), (bm, .inr (0, [.ref am])), (am, .inl (cJ, 64, .inr (.inl fm'_8))), (bs, .inr (0, [.ref ap])), (ap, .inl (cJ, 64, .inr (.inl fs'_9)))] H := hP
  have hD : va_D A [(q, .inr (6, [.ref s0, .ref s1, .ref s2])), (s0, .inr (3, [.ref tq, .ref rq, .ref uq])), (tq, .inr (4, [.ref ca, .long sm'_12, .int (oI lo'_13)])), (ca, .inl (cJ, 64, .inr (.inl fc'_11))), (rq, .inr (5, [.ref rb])), (rb, .inr (0, [.ref rd])), (rd, .inl (cJ, 128, .inr (.inl ft'_10))), (uq, .inr (1, [.ref bm, .ref bs])), (bm, .inr (0, [.ref am])), (am, .inl (cJ, 64, .inr (.inl fm'_8))), (bs, .inr (0, [.ref ap])), (ap, .inl (cJ, 64, .inr (.inl fs'_9)))] := hD
  obtain ⟨he, hw_5⟩ := hw_5
  subst he
  have hP9 := hP.sub (ws' := [(q, .inr (6, [.ref s0, .ref s1, .ref s2])), (s0, .inr (3, [.ref tq, .ref rq, .ref uq])), (tq, .inr (4, [.ref ca, .long sm'_12, .int (oI lo'_13)])), (ca, .inl (cJ, 64, .inr (.inl fc'_11))), (rq, .inr (5, [.ref rb])), (rb, .inr (0, [.ref rd])), (rd, .inl (cJ, 128, .inr (.inl ft'_10))), (uq, .inr (1, [.ref bm, .ref bs])), (bm, .inr (0, [.ref am])), (am, .inl (cJ, 64, .inr (.inl fm'_8))), (bs, .inr (0, [.ref ap])), (ap, .inl (cJ, 64, .inr (.inl fs'_9)))]) [0, 1, 2, 3, 4, 5, 6, 7, 8, 9, 10, 11] rfl
  have hD9 := hD.sub (ws' := [(q, .inr (6, [.ref s0, .ref s1, .ref s2])), (s0, .inr (3, [.ref tq, .ref rq, .ref uq])), (tq, .inr (4, [.ref ca, .long sm'_12, .int (oI lo'_13)])), (ca, .inl (cJ, 64, .inr (.inl fc'_11))), (rq, .inr (5, [.ref rb])), (rb, .inr (0, [.ref rd])), (rd, .inl (cJ, 128, .inr (.inl ft'_10))), (uq, .inr (1, [.ref bm, .ref bs])), (bm, .inr (0, [.ref am])), (am, .inl (cJ, 64, .inr (.inl fm'_8))), (bs, .inr (0, [.ref ap])), (ap, .inl (cJ, 64, .inr (.inl fs'_9)))]) [0, 1, 2, 3, 4, 5, 6, 7, 8, 9, 10, 11] (by decide) rfl
  have hK9 := hK.sub (tys' := [(cJ, .long)]) [0] rfl
  exact W.zret (v := b2i (bo fm k)) hx hb hr (b2i_nar _) (fun t9 ht hW => ⟨⟨b2i (bo fm k), ⟨fm'_8, fs'_9, ft'_10, fc'_11, sm'_12, lo'_13⟩, rfl, (show (b2i (bo fm k)) = b2i (bo fm k) ∧ NI fm'_8 fs'_9 ft'_10 fc'_11 sm'_12 lo'_13 ∧ (∀ x, x < 4096 → bo fm'_8 x = del (bo fm) k x) ∧ ∀ x, x < 4096 → bo fs'_9 x = takeP (bo fm) (bo fs) k x from ⟨rfl, hw_5⟩), by rw [ht]; exact hP9, va_K.moved hW.alike hK9, hD9⟩, hS.F ht⟩) hS.2.2 dX7_delete_15
set_option maxHeartbeats 4000000 in
set_option maxRecDepth 100000 in
/-- size, set 0 -/
theorem c_X7_size_0 (l : Launch) (dC : Nat → ClassId) (dI : Nat → Nat → Nat) (q : Nat) (s0 : Nat) (s1 : Nat) (s2 : Nat) (tq : Nat) (ca : Nat) (rq : Nat) (rb : Nat) (rd : Nat) (uq : Nat) (bm : Nat) (am : Nat) (bs : Nat) (ap : Nat) (cJ : ClassId) (fm : Nat → Int64) (fs : Nat → Int64) (ft : Nat → Int64) (fc : Nat → Int64) (sm : Int64) (lo : Option Nat) (hN : NI fm fs ft fc sm lo) : Met l yX7_size wsX7_size ({ frames := 3, cells := 0, slots := 0, locals := 65 }) (va_Pc [.ref q, .int (nI 0)] (fun U => va_Nw (.fieldLinkNest RX7 38 "SmallNumberSets$NumberSet" "buckets" "LSmallNumberSets$Buckets;" "SmallNumberSets") U ∧ va_P (dC, dI) vwCl [(q, .inr (6, [.ref s0, .ref s1, .ref s2])), (s0, .inr (3, [.ref tq, .ref rq, .ref uq])), (tq, .inr (4, [.ref ca, .long sm, .int (oI lo)])), (ca, .inl (cJ, 64, .inr (.inl fc))), (rq, .inr (5, [.ref rb])), (rb, .inr (0, [.ref rd])), (rd, .inl (cJ, 128, .inr (.inl ft))), (uq, .inr (1, [.ref bm, .ref bs])), (bm, .inr (0, [.ref am])), (am, .inl (cJ, 64, .inr (.inl fm))), (bs, .inr (0, [.ref ap])), (ap, .inl (cJ, 64, .inr (.inl fs)))] U.heap ∧ va_K (dC, dI) vwCl [(cJ, .long)] U)) (vp_Si (fun r => r = nI (fb_ct (bo fm) 4096))) 0 0 (fun _ => False) := by
  refine Met.ofW (cc := cX7_size) (maxL := 2) (ret := (some .int)) (by decide) rfl ?_
  intro p e s m args below meth c s₁ B hml hv
  obtain ⟨rfl, nw0, hP, hK⟩ := hv
  have hx := B.exec
  have hb := B.bytes
  have hr := B.returns
  have hts := atoms_spec (ws := wsX7_size) B.pre
  have hown : s.vm.findClass RX7 = some m.cls := findClass_of_methodNamed B.named
  have hlocks := B.notSynchronized
  have hP : va_P (dC, dI) vwCl [(q, .inr (6, [.ref s0, .ref s1, .ref s2])), (s0, .inr (3, [.ref tq, .ref rq, .ref uq])), (tq, .inr (4, [.ref ca, .long sm, .int (oI lo)])), (ca, .inl (cJ, 64, .inr (.inl fc))), (rq, .inr (5, [.ref rb])), (rb, .inr (0, [.ref rd])), (rd, .inl (cJ, 128, .inr (.inl ft))), (uq, .inr (1, [.ref bm, .ref bs])), (bm, .inr (0, [.ref am])), (am, .inl (cJ, 64, .inr (.inl fm))), (bs, .inr (0, [.ref ap])), (ap, .inl (cJ, 64, .inr (.inl fs)))] s.heap := hP
  have hl := lv_entry ([.ref q, .int (nI 0)]) (n := 2) (Nat.le_of_ble_eq_true rfl)
  rw [lg_entry_eq]
  generalize (lg_sl ([.ref q, .int (nI 0)]) ++ List.replicate (2 - (lg_sl ([.ref q, .int (nI 0)])).length) Slot.unset).toArray = ls at hl ⊢
  have hl : lv_has ls 2 [(0, .ref q), (1, .int (nI 0))] := hl
  refine lv_aload_n hx hb dX7_size_0 rfl (lv_at hl 0 rfl) ?_
  refine lv_iload_n hx hb dX7_size_1 rfl (lv_at hl 1 rfl) ?_
  have hPc := hP.sub (ws' := [(q, .inr (6, [.ref s0, .ref s1, .ref s2]))]) [0] rfl
  have hKc := hK.sub (tys' := []) [] rfl
  refine va_csr (W.runV (As := [.int (nI 0)]) (rest := []) ⟨hx, hb, hml, hown, hts⟩ (c_X7_chosenSet_0 l dC dI q s0 s1 s2 ) (cwV 1 hts gX7_size_X7_chosenSet rfl rfl rfl (by decide +kernel) ⟨Nat.le_of_ble_eq_true rfl, Nat.le_of_ble_eq_true rfl⟩) ⟨fun a U g mk q => by obtain ⟨q0, qP, qK⟩ := q; exact ⟨q0, qP, va_K.moved (u := U) (U := U.calling g mk a) (Vm.Alike.refl U.vm) qK⟩, va_recv hKc hPc (ci := 6) (q0 := 0) rfl rfl, fun U hU hW => ⟨rfl, by rw [hU]; exact hPc, va_K.moved hW.alike hKc⟩⟩ rfl rfl hl.1 rfl (lv_room (Nat.le_of_ble_eq_true rfl)) dX7_size_2 ⟨Nat.le_of_ble_eq_true rfl, Nat.le_of_ble_eq_true rfl⟩) (fun r_2 hw_1 => ?_)
  have hw_1 := hw_1.symm
  subst hw_1
  refine va_getN (D := (dC, dI)) (ci := 3) (v := .ref uq) (C := RX3) (T := TX3) (N := 3) hx hb hts (by decide +kernel) hown hK hP 1 rfl rfl 2 (by decide) (va_Nw.use rfl nw0) (fun _ h9 => h9) rfl dX7_size_5 ?_
  have hPc := hP.sub (ws' := [(uq, .inr (1, [.ref bm, .ref bs])), (bm, .inr (0, [.ref am])), (am, .inl (cJ, 64, .inr (.inl fm))), (bs, .inr (0, [.ref ap])), (ap, .inl (cJ, 64, .inr (.inl fs)))]) [7, 8, 9, 10, 11] rfl
  have hKc := hK.sub (tys' := [(cJ, .long)]) [0] rfl
  refine vp_callSi (W.runV (As := []) (rest := []) ⟨hx, hb, hml, hown, hts⟩ (c_X1_memberCount l dC dI uq bm am bs ap cJ fm fs ) (cwV 0 hts gX7_size_X1_memberCount rfl rfl rfl (by decide +kernel) ⟨Nat.le_of_ble_eq_true rfl, Nat.le_of_ble_eq_true rfl⟩) ⟨fun a U g mk q => by obtain ⟨q0, qP, qK⟩ := q; exact ⟨q0, qP, va_K.moved (u := U) (U := U.calling g mk a) (Vm.Alike.refl U.vm) qK⟩, va_recv hKc hPc (ci := 1) (q0 := 0) rfl rfl, fun U hU hW => ⟨rfl, by rw [hU]; exact hPc, va_K.moved hW.alike hKc⟩⟩ rfl rfl hl.1 rfl (lv_room (Nat.le_of_ble_eq_true rfl)) dX7_size_8 ⟨Nat.le_of_ble_eq_true rfl, Nat.le_of_ble_eq_true rfl⟩) (fun r_4 hw_3 => ?_)
  subst hw_3
  exact W.iret (v := nI (fb_ct (bo fm) 4096)) hx hb hr (fun t9 ht hW => ⟨nI (fb_ct (bo fm) 4096), rfl, rfl, ht⟩) (fun q h => by cases h) dX7_size_11
set_option maxHeartbeats 4000000 in
set_option maxRecDepth 100000 in
/-- contains, set 0 -/
theorem c_X7_contains_0 (l : Launch) (dC : Nat → ClassId) (dI : Nat → Nat → Nat) (q : Nat) (s0 : Nat) (s1 : Nat) (s2 : Nat) (tq : Nat) (ca : Nat) (rq : Nat) (rb : Nat) (rd : Nat) (uq : Nat) (bm : Nat) (am : Nat) (bs : Nat) (ap : Nat) (cJ : ClassId) (fm : Nat → Int64) (fs : Nat → Int64) (ft : Nat → Int64) (fc : Nat → Int64) (sm : Int64) (lo : Option Nat) (k : Nat) (hN : NI fm fs ft fc sm lo) (hk : k < 4096) : Met l yX7_contains wsX7_contains ({ frames := 3, cells := 0, slots := 0, locals := 63 }) (va_Pc [.ref q, .int (nI 0), .int (nI k)] (fun U => va_Nw (.fieldLinkNest RX7 38 "SmallNumberSets$NumberSet" "buckets" "LSmallNumberSets$Buckets;" "SmallNumberSets") U ∧ va_P (dC, dI) vwCl [(q, .inr (6, [.ref s0, .ref s1, .ref s2])), (s0, .inr (3, [.ref tq, .ref rq, .ref uq])), (tq, .inr (4, [.ref ca, .long sm, .int (oI lo)])), (ca, .inl (cJ, 64, .inr (.inl fc))), (rq, .inr (5, [.ref rb])), (rb, .inr (0, [.ref rd])), (rd, .inl (cJ, 128, .inr (.inl ft))), (uq, .inr (1, [.ref bm, .ref bs])), (bm, .inr (0, [.ref am])), (am, .inl (cJ, 64, .inr (.inl fm))), (bs, .inr (0, [.ref ap])), (ap, .inl (cJ, 64, .inr (.inl fs)))] U.heap ∧ va_K (dC, dI) vwCl [(cJ, .long)] U)) (vp_Si (fun r => r = b2i (bo fm k))) 0 0 (fun _ => False) := by
  refine Met.ofW (cc := cX7_contains) (maxL := 4) (ret := (some .boolean)) (by decide) rfl ?_
  intro p e s m args below meth c s₁ B hml hv
  obtain ⟨rfl, nw0, hP, hK⟩ := hv
  have hx := B.exec
  have hb := B.bytes
  have hr := B.returns
  have hts := atoms_spec (ws := wsX7_contains) B.pre
  have hown : s.vm.findClass RX7 = some m.cls := findClass_of_methodNamed B.named
  have hlocks := B.notSynchronized
  have hP : va_P (dC, dI) vwCl [(q, .inr (6, [.ref s0, .ref s1, .ref s2])), (s0, .inr (3, [.ref tq, .ref rq, .ref uq])), (tq, .inr (4, [.ref ca, .long sm, .int (oI lo)])), (ca, .inl (cJ, 64, .inr (.inl fc))), (rq, .inr (5, [.ref rb])), (rb, .inr (0, [.ref rd])), (rd, .inl (cJ, 128, .inr (.inl ft))), (uq, .inr (1, [.ref bm, .ref bs])), (bm, .inr (0, [.ref am])), (am, .inl (cJ, 64, .inr (.inl fm))), (bs, .inr (0, [.ref ap])), (ap, .inl (cJ, 64, .inr (.inl fs)))] s.heap := hP
  have hl := lv_entry ([.ref q, .int (nI 0), .int (nI k)]) (n := 4) (Nat.le_of_ble_eq_true rfl)
  rw [lg_entry_eq]
  generalize (lg_sl ([.ref q, .int (nI 0), .int (nI k)]) ++ List.replicate (4 - (lg_sl ([.ref q, .int (nI 0), .int (nI k)])).length) Slot.unset).toArray = ls at hl ⊢
  have hl : lv_has ls 4 [(0, .ref q), (1, .int (nI 0)), (2, .int (nI k))] := hl
  refine lv_aload_n hx hb dX7_contains_0 rfl (lv_at hl 0 rfl) ?_
  refine lv_iload_n hx hb dX7_contains_1 rfl (lv_at hl 1 rfl) ?_
  have hPc := hP.sub (ws' := [(q, .inr (6, [.ref s0, .ref s1, .ref s2]))]) [0] rfl
  have hKc := hK.sub (tys' := []) [] rfl
  refine va_csr (W.runV (As := [.int (nI 0)]) (rest := []) ⟨hx, hb, hml, hown, hts⟩ (c_X7_chosenSet_0 l dC dI q s0 s1 s2 ) (cwV 1 hts gX7_contains_X7_chosenSet rfl rfl rfl (by decide +kernel) ⟨Nat.le_of_ble_eq_true rfl, Nat.le_of_ble_eq_true rfl⟩) ⟨fun a U g mk q => by obtain ⟨q0, qP, qK⟩ := q; exact ⟨q0, qP, va_K.moved (u := U) (U := U.calling g mk a) (Vm.Alike.refl U.vm) qK⟩, va_recv hKc hPc (ci := 6) (q0 := 0) rfl rfl, fun U hU hW => ⟨rfl, by rw [hU]; exact hPc, va_K.moved hW.alike hKc⟩⟩ rfl rfl hl.1 rfl (lv_room (Nat.le_of_ble_eq_true rfl)) dX7_contains_2 ⟨Nat.le_of_ble_eq_true rfl, Nat.le_of_ble_eq_true rfl⟩) (fun r_2 hw_1 => ?_)
  have hw_1 := hw_1.symm
  subst hw_1
  refine lv_astore_n (lv' := [(3, .ref s0), (0, .ref q), (1, .int (nI 0)), (2, .int (nI k))]) hx hb dX7_contains_5 rfl hl (by decide) rfl (fun ls hl => ?_)
  refine lv_iload_n hx hb dX7_contains_6 rfl (lv_at hl 3 rfl) ?_
  have hPc := hP.sub (ws' := []) [] rfl
  have hKc := hK.sub (tys' := []) [] rfl
  refine va_csv (W.runS (As := [.int (nI k)]) (rest := []) ⟨hx, hb, hml, hown, hts⟩ (c_X7_needNumber l dC dI k (by first | assumption | omega)) (va_cwS 1 hts gX7_contains_X7_needNumber rfl rfl rfl (by decide +kernel) ⟨Nat.le_of_ble_eq_true rfl, Nat.le_of_ble_eq_true rfl⟩) ⟨fun a U g mk q => by obtain ⟨q0, qP, qK⟩ := q; exact ⟨q0, qP, va_K.moved (u := U) (U := U.calling g mk a) (Vm.Alike.refl U.vm) qK⟩, fun U hU hW => ⟨rfl, by rw [hU]; exact hPc, va_K.moved hW.alike hKc⟩⟩ rfl rfl hl.1 rfl (lv_room (Nat.le_of_ble_eq_true rfl)) dX7_contains_7 ⟨Nat.le_of_ble_eq_true rfl, Nat.le_of_ble_eq_true rfl⟩) (fun _ => ?_)
  refine lv_aload_n hx hb dX7_contains_10 rfl (lv_at hl 0 rfl) ?_
  refine va_getN (D := (dC, dI)) (ci := 3) (v := .ref uq) (C := RX3) (T := TX3) (N := 3) hx hb hts (by decide +kernel) hown hK hP 1 rfl rfl 2 (by decide) (va_Nw.use rfl nw0) (fun _ h9 => h9) rfl dX7_contains_11 ?_
  refine lv_iload_n hx hb dX7_contains_14 rfl (lv_at hl 3 rfl) ?_
  have hPc := hP.sub (ws' := [(uq, .inr (1, [.ref bm, .ref bs])), (bm, .inr (0, [.ref am])), (am, .inl (cJ, 64, .inr (.inl fm))), (bs, .inr (0, [.ref ap])), (ap, .inl (cJ, 64, .inr (.inl fs)))]) [7, 8, 9, 10, 11] rfl
  have hKc := hK.sub (tys' := [(cJ, .long)]) [0] rfl
  refine vp_callSi (W.runV (As := [.int (nI k)]) (rest := []) ⟨hx, hb, hml, hown, hts⟩ (c_X1_has l dC dI uq bm am bs ap cJ fm fs k (by first | assumption | omega)) (cwV 1 hts gX7_contains_X1_has rfl rfl rfl (by decide +kernel) ⟨Nat.le_of_ble_eq_true rfl, Nat.le_of_ble_eq_true rfl⟩) ⟨fun a U g mk q => by obtain ⟨q0, qP, qK⟩ := q; exact ⟨q0, qP, va_K.moved (u := U) (U := U.calling g mk a) (Vm.Alike.refl U.vm) qK⟩, va_recv hKc hPc (ci := 1) (q0 := 0) rfl rfl, fun U hU hW => ⟨rfl, by rw [hU]; exact hPc, va_K.moved hW.alike hKc⟩⟩ rfl rfl hl.1 rfl (lv_room (Nat.le_of_ble_eq_true rfl)) dX7_contains_15 ⟨Nat.le_of_ble_eq_true rfl, Nat.le_of_ble_eq_true rfl⟩) (fun r_6 hw_5 => ?_)
  subst hw_5
  exact W.zret (v := b2i (bo fm k)) hx hb hr (b2i_nar _) (fun t9 ht hW => ⟨b2i (bo fm k), rfl, rfl, ht⟩) (fun q h => by cases h) dX7_contains_18
set_option maxHeartbeats 4000000 in
set_option maxRecDepth 100000 in
/-- successor, set 0 -/
theorem c_X7_successor_0 (l : Launch) (dC : Nat → ClassId) (dI : Nat → Nat → Nat) (q : Nat) (s0 : Nat) (s1 : Nat) (s2 : Nat) (tq : Nat) (ca : Nat) (rq : Nat) (rb : Nat) (rd : Nat) (uq : Nat) (bm : Nat) (am : Nat) (bs : Nat) (ap : Nat) (cJ : ClassId) (fm : Nat → Int64) (fs : Nat → Int64) (ft : Nat → Int64) (fc : Nat → Int64) (sm : Int64) (lo : Option Nat) (k : Nat) (hN : NI fm fs ft fc sm lo) (hk : k < 4096) : Met l yX7_successor wsX7_successor ({ frames := 5, cells := 0, slots := 0, locals := 107 }) (va_Pc [.ref q, .int (nI 0), .int (nI k)] (fun U => va_Nw (.fieldLinkNest RX7 62 "SmallNumberSets$NumberSet" "tree" "LSmallNumberSets$Tree;" "SmallNumberSets") U ∧ va_P (dC, dI) vwCl [(q, .inr (6, [.ref s0, .ref s1, .ref s2])), (s0, .inr (3, [.ref tq, .ref rq, .ref uq])), (tq, .inr (4, [.ref ca, .long sm, .int (oI lo)])), (ca, .inl (cJ, 64, .inr (.inl fc))), (rq, .inr (5, [.ref rb])), (rb, .inr (0, [.ref rd])), (rd, .inl (cJ, 128, .inr (.inl ft))), (uq, .inr (1, [.ref bm, .ref bs])), (bm, .inr (0, [.ref am])), (am, .inl (cJ, 64, .inr (.inl fm))), (bs, .inr (0, [.ref ap])), (ap, .inl (cJ, 64, .inr (.inl fs)))] U.heap ∧ va_K (dC, dI) vwCl [(cJ, .long)] U)) (vp_Si (fun r => r = oI (nxt1 (bo fm) k 4096))) 0 0 (fun _ => False) := by
  refine Met.ofW (cc := cX7_successor) (maxL := 4) (ret := (some .int)) (by decide) rfl ?_
  intro p e s m args below meth c s₁ B hml hv
  obtain ⟨rfl, nw0, hP, hK⟩ := hv
  have hx := B.exec
  have hb := B.bytes
  have hr := B.returns
  have hts := atoms_spec (ws := wsX7_successor) B.pre
  have hown : s.vm.findClass RX7 = some m.cls := findClass_of_methodNamed B.named
  have hlocks := B.notSynchronized
  have hP : va_P (dC, dI) vwCl [(q, .inr (6, [.ref s0, .ref s1, .ref s2])), (s0, .inr (3, [.ref tq, .ref rq, .ref uq])), (tq, .inr (4, [.ref ca, .long sm, .int (oI lo)])), (ca, .inl (cJ, 64, .inr (.inl fc))), (rq, .inr (5, [.ref rb])), (rb, .inr (0, [.ref rd])), (rd, .inl (cJ, 128, .inr (.inl ft))), (uq, .inr (1, [.ref bm, .ref bs])), (bm, .inr (0, [.ref am])), (am, .inl (cJ, 64, .inr (.inl fm))), (bs, .inr (0, [.ref ap])), (ap, .inl (cJ, 64, .inr (.inl fs)))] s.heap := hP
  have hl := lv_entry ([.ref q, .int (nI 0), .int (nI k)]) (n := 4) (Nat.le_of_ble_eq_true rfl)
  rw [lg_entry_eq]
  generalize (lg_sl ([.ref q, .int (nI 0), .int (nI k)]) ++ List.replicate (4 - (lg_sl ([.ref q, .int (nI 0), .int (nI k)])).length) Slot.unset).toArray = ls at hl ⊢
  have hl : lv_has ls 4 [(0, .ref q), (1, .int (nI 0)), (2, .int (nI k))] := hl
  refine lv_aload_n hx hb dX7_successor_0 rfl (lv_at hl 0 rfl) ?_
  refine lv_iload_n hx hb dX7_successor_1 rfl (lv_at hl 1 rfl) ?_
  have hPc := hP.sub (ws' := [(q, .inr (6, [.ref s0, .ref s1, .ref s2]))]) [0] rfl
  have hKc := hK.sub (tys' := []) [] rfl
  refine va_csr (W.runV (As := [.int (nI 0)]) (rest := []) ⟨hx, hb, hml, hown, hts⟩ (c_X7_chosenSet_0 l dC dI q s0 s1 s2 ) (cwV 1 hts gX7_successor_X7_chosenSet rfl rfl rfl (by decide +kernel) ⟨Nat.le_of_ble_eq_true rfl, Nat.le_of_ble_eq_true rfl⟩) ⟨fun a U g mk q => by obtain ⟨q0, qP, qK⟩ := q; exact ⟨q0, qP, va_K.moved (u := U) (U := U.calling g mk a) (Vm.Alike.refl U.vm) qK⟩, va_recv hKc hPc (ci := 6) (q0 := 0) rfl rfl, fun U hU hW => ⟨rfl, by rw [hU]; exact hPc, va_K.moved hW.alike hKc⟩⟩ rfl rfl hl.1 rfl (lv_room (Nat.le_of_ble_eq_true rfl)) dX7_successor_2 ⟨Nat.le_of_ble_eq_true rfl, Nat.le_of_ble_eq_true rfl⟩) (fun r_2 hw_1 => ?_)
  have hw_1 := hw_1.symm
  subst hw_1
  refine lv_astore_n (lv' := [(3, .ref s0), (0, .ref q), (1, .int (nI 0)), (2, .int (nI k))]) hx hb dX7_successor_5 rfl hl (by decide) rfl (fun ls hl => ?_)
  refine lv_iload_n hx hb dX7_successor_6 rfl (lv_at hl 3 rfl) ?_
  have hPc := hP.sub (ws' := []) [] rfl
  have hKc := hK.sub (tys' := []) [] rfl
  refine va_csv (W.runS (As := [.int (nI k)]) (rest := []) ⟨hx, hb, hml, hown, hts⟩ (c_X7_needNumber l dC dI k (by first | assumption | omega)) (va_cwS 1 hts gX7_successor_X7_needNumber rfl rfl rfl (by decide +kernel) ⟨Nat.le_of_ble_eq_true rfl, Nat.le_of_ble_eq_true rfl⟩) ⟨fun a U g mk q => by obtain ⟨q0, qP, qK⟩ := q; exact ⟨q0, qP, va_K.moved (u := U) (U := U.calling g mk a) (Vm.Alike.refl U.vm) qK⟩, fun U hU hW => ⟨rfl, by rw [hU]; exact hPc, va_K.moved hW.alike hKc⟩⟩ rfl rfl hl.1 rfl (lv_room (Nat.le_of_ble_eq_true rfl)) dX7_successor_7 ⟨Nat.le_of_ble_eq_true rfl, Nat.le_of_ble_eq_true rfl⟩) (fun _ => ?_)
  refine lv_aload_n hx hb dX7_successor_10 rfl (lv_at hl 0 rfl) ?_
  refine va_getN (D := (dC, dI)) (ci := 3) (v := .ref tq) (C := RX3) (T := TX3) (N := 3) hx hb hts (by decide +kernel) hown hK hP 1 rfl rfl 0 (by decide) (va_Nw.use rfl nw0) (fun _ h9 => h9) rfl dX7_successor_11 ?_
  refine lv_iload_n hx hb dX7_successor_14 rfl (lv_at hl 3 rfl) ?_
  have hPc := hP.sub (ws' := [(tq, .inr (4, [.ref ca, .long sm, .int (oI lo)])), (ca, .inl (cJ, 64, .inr (.inl fc)))]) [2, 3] rfl
  have hKc := hK.sub (tys' := [(cJ, .long)]) [0] rfl
  refine vp_callSi (W.runV (As := [.int (nI k)]) (rest := []) ⟨hx, hb, hml, hown, hts⟩ (c_X4_after l dC dI tq ca cJ fc sm lo (bo fm) k hN.2.2 (by first | assumption | omega)) (cwV 1 hts gX7_successor_X4_after rfl rfl rfl (by decide +kernel) ⟨Nat.le_of_ble_eq_true rfl, Nat.le_of_ble_eq_true rfl⟩) ⟨fun a U g mk q => by obtain ⟨q0, qP, qK⟩ := q; exact ⟨q0, qP, va_K.moved (u := U) (U := U.calling g mk a) (Vm.Alike.refl U.vm) qK⟩, va_recv hKc hPc (ci := 4) (q0 := 0) rfl rfl, fun U hU hW => ⟨rfl, by rw [hU]; exact hPc, va_K.moved hW.alike hKc⟩⟩ rfl rfl hl.1 rfl (lv_room (Nat.le_of_ble_eq_true rfl)) dX7_successor_15 ⟨Nat.le_of_ble_eq_true rfl, Nat.le_of_ble_eq_true rfl⟩) (fun r_6 hw_5 => ?_)
  subst hw_5
  exact W.iret (v := oI (nxt1 (bo fm) k 4096)) hx hb hr (fun t9 ht hW => ⟨oI (nxt1 (bo fm) k 4096), rfl, rfl, ht⟩) (fun q h => by cases h) dX7_successor_18
set_option maxHeartbeats 4000000 in
set_option maxRecDepth 100000 in
/-- predecessor, set 0 -/
theorem c_X7_predecessor_0 (l : Launch) (dC : Nat → ClassId) (dI : Nat → Nat → Nat) (q : Nat) (s0 : Nat) (s1 : Nat) (s2 : Nat) (tq : Nat) (ca : Nat) (rq : Nat) (rb : Nat) (rd : Nat) (uq : Nat) (bm : Nat) (am : Nat) (bs : Nat) (ap : Nat) (cJ : ClassId) (fm : Nat → Int64) (fs : Nat → Int64) (ft : Nat → Int64) (fc : Nat → Int64) (sm : Int64) (lo : Option Nat) (k : Nat) (hN : NI fm fs ft fc sm lo) (hk : k < 4096) : Met l yX7_predecessor wsX7_predecessor ({ frames := 4, cells := 0, slots := 0, locals := 113 }) (va_Pc [.ref q, .int (nI 0), .int (nI k)] (fun U => va_Nw (.fieldLinkNest RX7 62 "SmallNumberSets$NumberSet" "tree" "LSmallNumberSets$Tree;" "SmallNumberSets") U ∧ va_P (dC, dI) vwCl [(q, .inr (6, [.ref s0, .ref s1, .ref s2])), (s0, .inr (3, [.ref tq, .ref rq, .ref uq])), (tq, .inr (4, [.ref ca, .long sm, .int (oI lo)])), (ca, .inl (cJ, 64, .inr (.inl fc))), (rq, .inr (5, [.ref rb])), (rb, .inr (0, [.ref rd])), (rd, .inl (cJ, 128, .inr (.inl ft))), (uq, .inr (1, [.ref bm, .ref bs])), (bm, .inr (0, [.ref am])), (am, .inl (cJ, 64, .inr (.inl fm))), (bs, .inr (0, [.ref ap])), (ap, .inl (cJ, 64, .inr (.inl fs)))] U.heap ∧ va_K (dC, dI) vwCl [(cJ, .long)] U)) (vp_Si (fun r => r = oI (lst1 (bo fm) k))) 0 0 (fun _ => False) := by
  refine Met.ofW (cc := cX7_predecessor) (maxL := 4) (ret := (some .int)) (by decide) rfl ?_
  intro p e s m args below meth c s₁ B hml hv
  obtain ⟨rfl, nw0, hP, hK⟩ := hv
  have hx := B.exec
  have hb := B.bytes
  have hr := B.returns
  have hts := atoms_spec (ws := wsX7_predecessor) B.pre
  have hown : s.vm.findClass RX7 = some m.cls := findClass_of_methodNamed B.named
  have hlocks := B.notSynchronized
  have hP : va_P (dC, dI) vwCl [(q, .inr (6, [.ref s0, .ref s1, .ref s2])), (s0, .inr (3, [.ref tq, .ref rq, .ref uq])), (tq, .inr (4, [.ref ca, .long sm, .int (oI lo)])), (ca, .inl (cJ, 64, .inr (.inl fc))), (rq, .inr (5, [.ref rb])), (rb, .inr (0, [.ref rd])), (rd, .inl (cJ, 128, .inr (.inl ft))), (uq, .inr (1, [.ref bm, .ref bs])), (bm, .inr (0, [.ref am])), (am, .inl (cJ, 64, .inr (.inl fm))), (bs, .inr (0, [.ref ap])), (ap, .inl (cJ, 64, .inr (.inl fs)))] s.heap := hP
  have hl := lv_entry ([.ref q, .int (nI 0), .int (nI k)]) (n := 4) (Nat.le_of_ble_eq_true rfl)
  rw [lg_entry_eq]
  generalize (lg_sl ([.ref q, .int (nI 0), .int (nI k)]) ++ List.replicate (4 - (lg_sl ([.ref q, .int (nI 0), .int (nI k)])).length) Slot.unset).toArray = ls at hl ⊢
  have hl : lv_has ls 4 [(0, .ref q), (1, .int (nI 0)), (2, .int (nI k))] := hl
  refine lv_aload_n hx hb dX7_predecessor_0 rfl (lv_at hl 0 rfl) ?_
  refine lv_iload_n hx hb dX7_predecessor_1 rfl (lv_at hl 1 rfl) ?_
  have hPc := hP.sub (ws' := [(q, .inr (6, [.ref s0, .ref s1, .ref s2]))]) [0] rfl
  have hKc := hK.sub (tys' := []) [] rfl
  refine va_csr (W.runV (As := [.int (nI 0)]) (rest := []) ⟨hx, hb, hml, hown, hts⟩ (c_X7_chosenSet_0 l dC dI q s0 s1 s2 ) (cwV 1 hts gX7_predecessor_X7_chosenSet rfl rfl rfl (by decide +kernel) ⟨Nat.le_of_ble_eq_true rfl, Nat.le_of_ble_eq_true rfl⟩) ⟨fun a U g mk q => by obtain ⟨q0, qP, qK⟩ := q; exact ⟨q0, qP, va_K.moved (u := U) (U := U.calling g mk a) (Vm.Alike.refl U.vm) qK⟩, va_recv hKc hPc (ci := 6) (q0 := 0) rfl rfl, fun U hU hW => ⟨rfl, by rw [hU]; exact hPc, va_K.moved hW.alike hKc⟩⟩ rfl rfl hl.1 rfl (lv_room (Nat.le_of_ble_eq_true rfl)) dX7_predecessor_2 ⟨Nat.le_of_ble_eq_true rfl, Nat.le_of_ble_eq_true rfl⟩) (fun r_2 hw_1 => ?_)
  have hw_1 := hw_1.symm
  subst hw_1
  refine lv_astore_n (lv' := [(3, .ref s0), (0, .ref q), (1, .int (nI 0)), (2, .int (nI k))]) hx hb dX7_predecessor_5 rfl hl (by decide) rfl (fun ls hl => ?_)
  refine lv_iload_n hx hb dX7_predecessor_6 rfl (lv_at hl 3 rfl) ?_
  have hPc := hP.sub (ws' := []) [] rfl
  have hKc := hK.sub (tys' := []) [] rfl
  refine va_csv (W.runS (As := [.int (nI k)]) (rest := []) ⟨hx, hb, hml, hown, hts⟩ (c_X7_needNumber l dC dI k (by first | assumption | omega)) (va_cwS 1 hts gX7_predecessor_X7_needNumber rfl rfl rfl (by decide +kernel) ⟨Nat.le_of_ble_eq_true rfl, Nat.le_of_ble_eq_true rfl⟩) ⟨fun a U g mk q => by obtain ⟨q0, qP, qK⟩ := q; exact ⟨q0, qP, va_K.moved (u := U) (U := U.calling g mk a) (Vm.Alike.refl U.vm) qK⟩, fun U hU hW => ⟨rfl, by rw [hU]; exact hPc, va_K.moved hW.alike hKc⟩⟩ rfl rfl hl.1 rfl (lv_room (Nat.le_of_ble_eq_true rfl)) dX7_predecessor_7 ⟨Nat.le_of_ble_eq_true rfl, Nat.le_of_ble_eq_true rfl⟩) (fun _ => ?_)
  refine lv_aload_n hx hb dX7_predecessor_10 rfl (lv_at hl 0 rfl) ?_
  refine va_getN (D := (dC, dI)) (ci := 3) (v := .ref tq) (C := RX3) (T := TX3) (N := 3) hx hb hts (by decide +kernel) hown hK hP 1 rfl rfl 0 (by decide) (va_Nw.use rfl nw0) (fun _ h9 => h9) rfl dX7_predecessor_11 ?_
  refine lv_iload_n hx hb dX7_predecessor_14 rfl (lv_at hl 3 rfl) ?_
  have hPc := hP.sub (ws' := [(tq, .inr (4, [.ref ca, .long sm, .int (oI lo)])), (ca, .inl (cJ, 64, .inr (.inl fc)))]) [2, 3] rfl
  have hKc := hK.sub (tys' := [(cJ, .long)]) [0] rfl
  refine vp_callSi (W.runV (As := [.int (nI k)]) (rest := []) ⟨hx, hb, hml, hown, hts⟩ (c_X4_before l dC dI tq ca cJ fc sm lo (bo fm) k hN.2.2 (by first | assumption | omega)) (cwV 1 hts gX7_predecessor_X4_before rfl rfl rfl (by decide +kernel) ⟨Nat.le_of_ble_eq_true rfl, Nat.le_of_ble_eq_true rfl⟩) ⟨fun a U g mk q => by obtain ⟨q0, qP, qK⟩ := q; exact ⟨q0, qP, va_K.moved (u := U) (U := U.calling g mk a) (Vm.Alike.refl U.vm) qK⟩, va_recv hKc hPc (ci := 4) (q0 := 0) rfl rfl, fun U hU hW => ⟨rfl, by rw [hU]; exact hPc, va_K.moved hW.alike hKc⟩⟩ rfl rfl hl.1 rfl (lv_room (Nat.le_of_ble_eq_true rfl)) dX7_predecessor_15 ⟨Nat.le_of_ble_eq_true rfl, Nat.le_of_ble_eq_true rfl⟩) (fun r_6 hw_5 => ?_)
  subst hw_5
  exact W.iret (v := oI (lst1 (bo fm) k)) hx hb hr (fun t9 ht hW => ⟨oI (lst1 (bo fm) k), rfl, rfl, ht⟩) (fun q h => by cases h) dX7_predecessor_18
set_option maxHeartbeats 4000000 in
set_option maxRecDepth 100000 in
/-- rank, set 0 -/
theorem c_X7_rank_0 (l : Launch) (dC : Nat → ClassId) (dI : Nat → Nat → Nat) (q : Nat) (s0 : Nat) (s1 : Nat) (s2 : Nat) (tq : Nat) (ca : Nat) (rq : Nat) (rb : Nat) (rd : Nat) (uq : Nat) (bm : Nat) (am : Nat) (bs : Nat) (ap : Nat) (cJ : ClassId) (fm : Nat → Int64) (fs : Nat → Int64) (ft : Nat → Int64) (fc : Nat → Int64) (sm : Int64) (lo : Option Nat) (k : Nat) (hN : NI fm fs ft fc sm lo) (hk : k < 4096) : Met l yX7_rank wsX7_rank ({ frames := 3, cells := 0, slots := 0, locals := 66 }) (va_Pc [.ref q, .int (nI 0), .int (nI k)] (fun U => va_Nw (.fieldLinkNest RX7 38 "SmallNumberSets$NumberSet" "buckets" "LSmallNumberSets$Buckets;" "SmallNumberSets") U ∧ va_P (dC, dI) vwCl [(q, .inr (6, [.ref s0, .ref s1, .ref s2])), (s0, .inr (3, [.ref tq, .ref rq, .ref uq])), (tq, .inr (4, [.ref ca, .long sm, .int (oI lo)])), (ca, .inl (cJ, 64, .inr (.inl fc))), (rq, .inr (5, [.ref rb])), (rb, .inr (0, [.ref rd])), (rd, .inl (cJ, 128, .inr (.inl ft))), (uq, .inr (1, [.ref bm, .ref bs])), (bm, .inr (0, [.ref am])), (am, .inl (cJ, 64, .inr (.inl fm))), (bs, .inr (0, [.ref ap])), (ap, .inl (cJ, 64, .inr (.inl fs)))] U.heap ∧ va_K (dC, dI) vwCl [(cJ, .long)] U)) (vp_Si (fun r => r = nI (fb_ct (bo fm) k))) 0 0 (fun _ => False) := by
  refine Met.ofW (cc := cX7_rank) (maxL := 4) (ret := (some .int)) (by decide) rfl ?_
  intro p e s m args below meth c s₁ B hml hv
  obtain ⟨rfl, nw0, hP, hK⟩ := hv
  have hx := B.exec
  have hb := B.bytes
  have hr := B.returns
  have hts := atoms_spec (ws := wsX7_rank) B.pre
  have hown : s.vm.findClass RX7 = some m.cls := findClass_of_methodNamed B.named
  have hlocks := B.notSynchronized
  have hP : va_P (dC, dI) vwCl [(q, .inr (6, [.ref s0, .ref s1, .ref s2])), (s0, .inr (3, [.ref tq, .ref rq, .ref uq])), (tq, .inr (4, [.ref ca, .long sm, .int (oI lo)])), (ca, .inl (cJ, 64, .inr (.inl fc))), (rq, .inr (5, [.ref rb])), (rb, .inr (0, [.ref rd])), (rd, .inl (cJ, 128, .inr (.inl ft))), (uq, .inr (1, [.ref bm, .ref bs])), (bm, .inr (0, [.ref am])), (am, .inl (cJ, 64, .inr (.inl fm))), (bs, .inr (0, [.ref ap])), (ap, .inl (cJ, 64, .inr (.inl fs)))] s.heap := hP
  have hl := lv_entry ([.ref q, .int (nI 0), .int (nI k)]) (n := 4) (Nat.le_of_ble_eq_true rfl)
  rw [lg_entry_eq]
  generalize (lg_sl ([.ref q, .int (nI 0), .int (nI k)]) ++ List.replicate (4 - (lg_sl ([.ref q, .int (nI 0), .int (nI k)])).length) Slot.unset).toArray = ls at hl ⊢
  have hl : lv_has ls 4 [(0, .ref q), (1, .int (nI 0)), (2, .int (nI k))] := hl
  refine lv_aload_n hx hb dX7_rank_0 rfl (lv_at hl 0 rfl) ?_
  refine lv_iload_n hx hb dX7_rank_1 rfl (lv_at hl 1 rfl) ?_
  have hPc := hP.sub (ws' := [(q, .inr (6, [.ref s0, .ref s1, .ref s2]))]) [0] rfl
  have hKc := hK.sub (tys' := []) [] rfl
  refine va_csr (W.runV (As := [.int (nI 0)]) (rest := []) ⟨hx, hb, hml, hown, hts⟩ (c_X7_chosenSet_0 l dC dI q s0 s1 s2 ) (cwV 1 hts gX7_rank_X7_chosenSet rfl rfl rfl (by decide +kernel) ⟨Nat.le_of_ble_eq_true rfl, Nat.le_of_ble_eq_true rfl⟩) ⟨fun a U g mk q => by obtain ⟨q0, qP, qK⟩ := q; exact ⟨q0, qP, va_K.moved (u := U) (U := U.calling g mk a) (Vm.Alike.refl U.vm) qK⟩, va_recv hKc hPc (ci := 6) (q0 := 0) rfl rfl, fun U hU hW => ⟨rfl, by rw [hU]; exact hPc, va_K.moved hW.alike hKc⟩⟩ rfl rfl hl.1 rfl (lv_room (Nat.le_of_ble_eq_true rfl)) dX7_rank_2 ⟨Nat.le_of_ble_eq_true rfl, Nat.le_of_ble_eq_true rfl⟩) (fun r_2 hw_1 => ?_)
  have hw_1 := hw_1.symm
  subst hw_1
  refine lv_astore_n (lv' := [(3, .ref s0), (0, .ref q), (1, .int (nI 0)), (2, .int (nI k))]) hx hb dX7_rank_5 rfl hl (by decide) rfl (fun ls hl => ?_)
  refine lv_iload_n hx hb dX7_rank_6 rfl (lv_at hl 3 rfl) ?_
  have hPc := hP.sub (ws' := []) [] rfl
  have hKc := hK.sub (tys' := []) [] rfl
  refine va_csv (W.runS (As := [.int (nI k)]) (rest := []) ⟨hx, hb, hml, hown, hts⟩ (c_X7_needNumber l dC dI k (by first | assumption | omega)) (va_cwS 1 hts gX7_rank_X7_needNumber rfl rfl rfl (by decide +kernel) ⟨Nat.le_of_ble_eq_true rfl, Nat.le_of_ble_eq_true rfl⟩) ⟨fun a U g mk q => by obtain ⟨q0, qP, qK⟩ := q; exact ⟨q0, qP, va_K.moved (u := U) (U := U.calling g mk a) (Vm.Alike.refl U.vm) qK⟩, fun U hU hW => ⟨rfl, by rw [hU]; exact hPc, va_K.moved hW.alike hKc⟩⟩ rfl rfl hl.1 rfl (lv_room (Nat.le_of_ble_eq_true rfl)) dX7_rank_7 ⟨Nat.le_of_ble_eq_true rfl, Nat.le_of_ble_eq_true rfl⟩) (fun _ => ?_)
  refine lv_aload_n hx hb dX7_rank_10 rfl (lv_at hl 0 rfl) ?_
  refine va_getN (D := (dC, dI)) (ci := 3) (v := .ref uq) (C := RX3) (T := TX3) (N := 3) hx hb hts (by decide +kernel) hown hK hP 1 rfl rfl 2 (by decide) (va_Nw.use rfl nw0) (fun _ h9 => h9) rfl dX7_rank_11 ?_
  refine lv_iload_n hx hb dX7_rank_14 rfl (lv_at hl 3 rfl) ?_
  have hPc := hP.sub (ws' := [(uq, .inr (1, [.ref bm, .ref bs])), (bm, .inr (0, [.ref am])), (am, .inl (cJ, 64, .inr (.inl fm))), (bs, .inr (0, [.ref ap])), (ap, .inl (cJ, 64, .inr (.inl fs)))]) [7, 8, 9, 10, 11] rfl
  have hKc := hK.sub (tys' := [(cJ, .long)]) [0] rfl
  refine vp_callSi (W.runV (As := [.int (nI k)]) (rest := []) ⟨hx, hb, hml, hown, hts⟩ (c_X1_membersBelow l dC dI uq bm am bs ap cJ fm fs k (by first | assumption | omega)) (cwV 1 hts gX7_rank_X1_membersBelow rfl rfl rfl (by decide +kernel) ⟨Nat.le_of_ble_eq_true rfl, Nat.le_of_ble_eq_true rfl⟩) ⟨fun a U g mk q => by obtain ⟨q0, qP, qK⟩ := q; exact ⟨q0, qP, va_K.moved (u := U) (U := U.calling g mk a) (Vm.Alike.refl U.vm) qK⟩, va_recv hKc hPc (ci := 1) (q0 := 0) rfl rfl, fun U hU hW => ⟨rfl, by rw [hU]; exact hPc, va_K.moved hW.alike hKc⟩⟩ rfl rfl hl.1 rfl (lv_room (Nat.le_of_ble_eq_true rfl)) dX7_rank_15 ⟨Nat.le_of_ble_eq_true rfl, Nat.le_of_ble_eq_true rfl⟩) (fun r_6 hw_5 => ?_)
  subst hw_5
  exact W.iret (v := nI (fb_ct (bo fm) k)) hx hb hr (fun t9 ht hW => ⟨nI (fb_ct (bo fm) k), rfl, rfl, ht⟩) (fun q h => by cases h) dX7_rank_18
set_option maxHeartbeats 4000000 in
set_option maxRecDepth 100000 in
/-- select, set 0 -/
theorem c_X7_select_0 (l : Launch) (dC : Nat → ClassId) (dI : Nat → Nat → Nat) (q : Nat) (s0 : Nat) (s1 : Nat) (s2 : Nat) (tq : Nat) (ca : Nat) (rq : Nat) (rb : Nat) (rd : Nat) (uq : Nat) (bm : Nat) (am : Nat) (bs : Nat) (ap : Nat) (cJ : ClassId) (fm : Nat → Int64) (fs : Nat → Int64) (ft : Nat → Int64) (fc : Nat → Int64) (sm : Int64) (lo : Option Nat) (k : Nat) (hN : NI fm fs ft fc sm lo) (hk : k < fb_ct (bo fm) 4096) : Met l yX7_select wsX7_select ({ frames := 4, cells := 0, slots := 0, locals := 90 }) (va_Pc [.ref q, .int (nI 0), .int (nI k)] (fun U => va_Nw (.fieldLinkNest RX7 38 "SmallNumberSets$NumberSet" "buckets" "LSmallNumberSets$Buckets;" "SmallNumberSets") U ∧ va_P (dC, dI) vwCl [(q, .inr (6, [.ref s0, .ref s1, .ref s2])), (s0, .inr (3, [.ref tq, .ref rq, .ref uq])), (tq, .inr (4, [.ref ca, .long sm, .int (oI lo)])), (ca, .inl (cJ, 64, .inr (.inl fc))), (rq, .inr (5, [.ref rb])), (rb, .inr (0, [.ref rd])), (rd, .inl (cJ, 128, .inr (.inl ft))), (uq, .inr (1, [.ref bm, .ref bs])), (bm, .inr (0, [.ref am])), (am, .inl (cJ, 64, .inr (.inl fm))), (bs, .inr (0, [.ref ap])), (ap, .inl (cJ, 64, .inr (.inl fs)))] U.heap ∧ va_K (dC, dI) vwCl [(cJ, .long)] U)) (vp_Si (fun r => r = oI (kth (bo fm) k 4096))) 0 0 (fun _ => False) := by
  refine Met.ofW (cc := cX7_select) (maxL := 4) (ret := (some .int)) (by decide) rfl ?_
  intro p e s m args below meth c s₁ B hml hv
  obtain ⟨rfl, nw0, hP, hK⟩ := hv
  have hx := B.exec
  have hb := B.bytes
  have hr := B.returns
  have hts := atoms_spec (ws := wsX7_select) B.pre
  have hown : s.vm.findClass RX7 = some m.cls := findClass_of_methodNamed B.named
  have hlocks := B.notSynchronized
  have hP : va_P (dC, dI) vwCl [(q, .inr (6, [.ref s0, .ref s1, .ref s2])), (s0, .inr (3, [.ref tq, .ref rq, .ref uq])), (tq, .inr (4, [.ref ca, .long sm, .int (oI lo)])), (ca, .inl (cJ, 64, .inr (.inl fc))), (rq, .inr (5, [.ref rb])), (rb, .inr (0, [.ref rd])), (rd, .inl (cJ, 128, .inr (.inl ft))), (uq, .inr (1, [.ref bm, .ref bs])), (bm, .inr (0, [.ref am])), (am, .inl (cJ, 64, .inr (.inl fm))), (bs, .inr (0, [.ref ap])), (ap, .inl (cJ, 64, .inr (.inl fs)))] s.heap := hP
  have hl := lv_entry ([.ref q, .int (nI 0), .int (nI k)]) (n := 4) (Nat.le_of_ble_eq_true rfl)
  rw [lg_entry_eq]
  generalize (lg_sl ([.ref q, .int (nI 0), .int (nI k)]) ++ List.replicate (4 - (lg_sl ([.ref q, .int (nI 0), .int (nI k)])).length) Slot.unset).toArray = ls at hl ⊢
  have hl : lv_has ls 4 [(0, .ref q), (1, .int (nI 0)), (2, .int (nI k))] := hl
  have hcb := fb_ct_le (bo fm) 4096
  have hcs := fb_ct_le (bo fs) 4096
  refine lv_aload_n hx hb dX7_select_0 rfl (lv_at hl 0 rfl) ?_
  refine lv_iload_n hx hb dX7_select_1 rfl (lv_at hl 1 rfl) ?_
  have hPc := hP.sub (ws' := [(q, .inr (6, [.ref s0, .ref s1, .ref s2]))]) [0] rfl
  have hKc := hK.sub (tys' := []) [] rfl
  refine va_csr (W.runV (As := [.int (nI 0)]) (rest := []) ⟨hx, hb, hml, hown, hts⟩ (c_X7_chosenSet_0 l dC dI q s0 s1 s2 ) (cwV 1 hts gX7_select_X7_chosenSet rfl rfl rfl (by decide +kernel) ⟨Nat.le_of_ble_eq_true rfl, Nat.le_of_ble_eq_true rfl⟩) ⟨fun a U g mk q => by obtain ⟨q0, qP, qK⟩ := q; exact ⟨q0, qP, va_K.moved (u := U) (U := U.calling g mk a) (Vm.Alike.refl U.vm) qK⟩, va_recv hKc hPc (ci := 6) (q0 := 0) rfl rfl, fun U hU hW => ⟨rfl, by rw [hU]; exact hPc, va_K.moved hW.alike hKc⟩⟩ rfl rfl hl.1 rfl (lv_room (Nat.le_of_ble_eq_true rfl)) dX7_select_2 ⟨Nat.le_of_ble_eq_true rfl, Nat.le_of_ble_eq_true rfl⟩) (fun r_2 hw_1 => ?_)
  have hw_1 := hw_1.symm
  subst hw_1
  refine lv_astore_n (lv' := [(3, .ref s0), (0, .ref q), (1, .int (nI 0)), (2, .int (nI k))]) hx hb dX7_select_5 rfl hl (by decide) rfl (fun ls hl => ?_)
  refine lv_iload_n hx hb dX7_select_6 rfl (lv_at hl 3 rfl) ?_
  refine lv_aload_n hx hb dX7_select_7 rfl (lv_at hl 0 rfl) ?_
  refine va_getN (D := (dC, dI)) (ci := 3) (v := .ref uq) (C := RX3) (T := TX3) (N := 3) hx hb hts (by decide +kernel) hown hK hP 1 rfl rfl 2 (by decide) (va_Nw.use rfl nw0) (fun _ h9 => h9) rfl dX7_select_8 ?_
  have hPc := hP.sub (ws' := [(uq, .inr (1, [.ref bm, .ref bs])), (bm, .inr (0, [.ref am])), (am, .inl (cJ, 64, .inr (.inl fm))), (bs, .inr (0, [.ref ap])), (ap, .inl (cJ, 64, .inr (.inl fs)))]) [7, 8, 9, 10, 11] rfl
  have hKc := hK.sub (tys' := [(cJ, .long)]) [0] rfl
  refine vp_callSi (W.runV (As := []) (rest := [.int (nI k)]) ⟨hx, hb, hml, hown, hts⟩ (c_X1_memberCount l dC dI uq bm am bs ap cJ fm fs ) (cwV 0 hts gX7_select_X1_memberCount rfl rfl rfl (by decide +kernel) ⟨Nat.le_of_ble_eq_true rfl, Nat.le_of_ble_eq_true rfl⟩) ⟨fun a U g mk q => by obtain ⟨q0, qP, qK⟩ := q; exact ⟨q0, qP, va_K.moved (u := U) (U := U.calling g mk a) (Vm.Alike.refl U.vm) qK⟩, va_recv hKc hPc (ci := 1) (q0 := 0) rfl rfl, fun U hU hW => ⟨rfl, by rw [hU]; exact hPc, va_K.moved hW.alike hKc⟩⟩ rfl rfl hl.1 rfl (lv_room (Nat.le_of_ble_eq_true rfl)) dX7_select_11 ⟨Nat.le_of_ble_eq_true rfl, Nat.le_of_ble_eq_true rfl⟩) (fun r_4 hw_3 => ?_)
  subst hw_3
  have hPc := hP.sub (ws' := []) [] rfl
  have hKc := hK.sub (tys' := []) [] rfl
  refine va_csv (W.runS (As := [.int (nI k), .int (nI (fb_ct (bo fm) 4096))]) (rest := []) ⟨hx, hb, hml, hown, hts⟩ (c_X7_needPlace l dC dI k (fb_ct (bo fm) 4096) (by first | assumption | omega) (by first | assumption | omega)) (va_cwS 2 hts gX7_select_X7_needPlace rfl rfl rfl (by decide +kernel) ⟨Nat.le_of_ble_eq_true rfl, Nat.le_of_ble_eq_true rfl⟩) ⟨fun a U g mk q => by obtain ⟨q0, qP, qK⟩ := q; exact ⟨q0, qP, va_K.moved (u := U) (U := U.calling g mk a) (Vm.Alike.refl U.vm) qK⟩, fun U hU hW => ⟨rfl, by rw [hU]; exact hPc, va_K.moved hW.alike hKc⟩⟩ rfl rfl hl.1 rfl (lv_room (Nat.le_of_ble_eq_true rfl)) dX7_select_14 ⟨Nat.le_of_ble_eq_true rfl, Nat.le_of_ble_eq_true rfl⟩) (fun _ => ?_)
  refine lv_aload_n hx hb dX7_select_17 rfl (lv_at hl 0 rfl) ?_
  refine va_getN (D := (dC, dI)) (ci := 3) (v := .ref uq) (C := RX3) (T := TX3) (N := 3) hx hb hts (by decide +kernel) hown hK hP 1 rfl rfl 2 (by decide) (va_Nw.use rfl nw0) (fun _ h9 => h9) rfl dX7_select_18 ?_
  refine lv_iload_n hx hb dX7_select_21 rfl (lv_at hl 3 rfl) ?_
  have hPc := hP.sub (ws' := [(uq, .inr (1, [.ref bm, .ref bs])), (bm, .inr (0, [.ref am])), (am, .inl (cJ, 64, .inr (.inl fm))), (bs, .inr (0, [.ref ap])), (ap, .inl (cJ, 64, .inr (.inl fs)))]) [7, 8, 9, 10, 11] rfl
  have hKc := hK.sub (tys' := [(cJ, .long)]) [0] rfl
  refine vp_callSi (W.runV (As := [.int (nI k)]) (rest := []) ⟨hx, hb, hml, hown, hts⟩ (c_X1_memberAt l dC dI uq bm am bs ap cJ fm fs k (by first | assumption | omega)) (cwV 1 hts gX7_select_X1_memberAt rfl rfl rfl (by decide +kernel) ⟨Nat.le_of_ble_eq_true rfl, Nat.le_of_ble_eq_true rfl⟩) ⟨fun a U g mk q => by obtain ⟨q0, qP, qK⟩ := q; exact ⟨q0, qP, va_K.moved (u := U) (U := U.calling g mk a) (Vm.Alike.refl U.vm) qK⟩, va_recv hKc hPc (ci := 1) (q0 := 0) rfl rfl, fun U hU hW => ⟨rfl, by rw [hU]; exact hPc, va_K.moved hW.alike hKc⟩⟩ rfl rfl hl.1 rfl (lv_room (Nat.le_of_ble_eq_true rfl)) dX7_select_22 ⟨Nat.le_of_ble_eq_true rfl, Nat.le_of_ble_eq_true rfl⟩) (fun r_8 hw_7 => ?_)
  subst hw_7
  exact W.iret (v := oI (kth (bo fm) k 4096)) hx hb hr (fun t9 ht hW => ⟨oI (kth (bo fm) k 4096), rfl, rfl, ht⟩) (fun q h => by cases h) dX7_select_25
set_option maxHeartbeats 4000000 in
set_option maxRecDepth 100000 in
/-- steps, set 0 -/
theorem c_X7_steps_0 (l : Launch) (dC : Nat → ClassId) (dI : Nat → Nat → Nat) (q : Nat) (s0 : Nat) (s1 : Nat) (s2 : Nat) (tq : Nat) (ca : Nat) (rq : Nat) (rb : Nat) (rd : Nat) (uq : Nat) (bm : Nat) (am : Nat) (bs : Nat) (ap : Nat) (cJ : ClassId) (fm : Nat → Int64) (fs : Nat → Int64) (ft : Nat → Int64) (fc : Nat → Int64) (sm : Int64) (lo : Option Nat) (k : Nat) (hN : NI fm fs ft fc sm lo) (hk : k < 4096) : Met l yX7_steps wsX7_steps ({ frames := 5, cells := 0, slots := 0, locals := 107 }) (va_Pc [.ref q, .int (nI 0), .int (nI k)] (fun U => va_Nw (.fieldLinkNest RX7 62 "SmallNumberSets$NumberSet" "tree" "LSmallNumberSets$Tree;" "SmallNumberSets") U ∧ va_P (dC, dI) vwCl [(q, .inr (6, [.ref s0, .ref s1, .ref s2])), (s0, .inr (3, [.ref tq, .ref rq, .ref uq])), (tq, .inr (4, [.ref ca, .long sm, .int (oI lo)])), (ca, .inl (cJ, 64, .inr (.inl fc))), (rq, .inr (5, [.ref rb])), (rb, .inr (0, [.ref rd])), (rd, .inl (cJ, 128, .inr (.inl ft))), (uq, .inr (1, [.ref bm, .ref bs])), (bm, .inr (0, [.ref am])), (am, .inl (cJ, 64, .inr (.inl fm))), (bs, .inr (0, [.ref ap])), (ap, .inl (cJ, 64, .inr (.inl fs)))] U.heap ∧ va_K (dC, dI) vwCl [(cJ, .long)] U)) (vp_Si (fun r => r = nI (stp (bo fm) k))) 0 0 (fun _ => False) := by
  refine Met.ofW (cc := cX7_steps) (maxL := 4) (ret := (some .int)) (by decide) rfl ?_
  intro p e s m args below meth c s₁ B hml hv
  obtain ⟨rfl, nw0, hP, hK⟩ := hv
  have hx := B.exec
  have hb := B.bytes
  have hr := B.returns
  have hts := atoms_spec (ws := wsX7_steps) B.pre
  have hown : s.vm.findClass RX7 = some m.cls := findClass_of_methodNamed B.named
  have hlocks := B.notSynchronized
  have hP : va_P (dC, dI) vwCl [(q, .inr (6, [.ref s0, .ref s1, .ref s2])), (s0, .inr (3, [.ref tq, .ref rq, .ref uq])), (tq, .inr (4, [.ref ca, .long sm, .int (oI lo)])), (ca, .inl (cJ, 64, .inr (.inl fc))), (rq, .inr (5, [.ref rb])), (rb, .inr (0, [.ref rd])), (rd, .inl (cJ, 128, .inr (.inl ft))), (uq, .inr (1, [.ref bm, .ref bs])), (bm, .inr (0, [.ref am])), (am, .inl (cJ, 64, .inr (.inl fm))), (bs, .inr (0, [.ref ap])), (ap, .inl (cJ, 64, .inr (.inl fs)))] s.heap := hP
  have hl := lv_entry ([.ref q, .int (nI 0), .int (nI k)]) (n := 4) (Nat.le_of_ble_eq_true rfl)
  rw [lg_entry_eq]
  generalize (lg_sl ([.ref q, .int (nI 0), .int (nI k)]) ++ List.replicate (4 - (lg_sl ([.ref q, .int (nI 0), .int (nI k)])).length) Slot.unset).toArray = ls at hl ⊢
  have hl : lv_has ls 4 [(0, .ref q), (1, .int (nI 0)), (2, .int (nI k))] := hl
  refine lv_aload_n hx hb dX7_steps_0 rfl (lv_at hl 0 rfl) ?_
  refine lv_iload_n hx hb dX7_steps_1 rfl (lv_at hl 1 rfl) ?_
  have hPc := hP.sub (ws' := [(q, .inr (6, [.ref s0, .ref s1, .ref s2]))]) [0] rfl
  have hKc := hK.sub (tys' := []) [] rfl
  refine va_csr (W.runV (As := [.int (nI 0)]) (rest := []) ⟨hx, hb, hml, hown, hts⟩ (c_X7_chosenSet_0 l dC dI q s0 s1 s2 ) (cwV 1 hts gX7_steps_X7_chosenSet rfl rfl rfl (by decide +kernel) ⟨Nat.le_of_ble_eq_true rfl, Nat.le_of_ble_eq_true rfl⟩) ⟨fun a U g mk q => by obtain ⟨q0, qP, qK⟩ := q; exact ⟨q0, qP, va_K.moved (u := U) (U := U.calling g mk a) (Vm.Alike.refl U.vm) qK⟩, va_recv hKc hPc (ci := 6) (q0 := 0) rfl rfl, fun U hU hW => ⟨rfl, by rw [hU]; exact hPc, va_K.moved hW.alike hKc⟩⟩ rfl rfl hl.1 rfl (lv_room (Nat.le_of_ble_eq_true rfl)) dX7_steps_2 ⟨Nat.le_of_ble_eq_true rfl, Nat.le_of_ble_eq_true rfl⟩) (fun r_2 hw_1 => ?_)
  have hw_1 := hw_1.symm
  subst hw_1
  refine lv_astore_n (lv' := [(3, .ref s0), (0, .ref q), (1, .int (nI 0)), (2, .int (nI k))]) hx hb dX7_steps_5 rfl hl (by decide) rfl (fun ls hl => ?_)
  refine lv_iload_n hx hb dX7_steps_6 rfl (lv_at hl 3 rfl) ?_
  have hPc := hP.sub (ws' := []) [] rfl
  have hKc := hK.sub (tys' := []) [] rfl
  refine va_csv (W.runS (As := [.int (nI k)]) (rest := []) ⟨hx, hb, hml, hown, hts⟩ (c_X7_needNumber l dC dI k (by first | assumption | omega)) (va_cwS 1 hts gX7_steps_X7_needNumber rfl rfl rfl (by decide +kernel) ⟨Nat.le_of_ble_eq_true rfl, Nat.le_of_ble_eq_true rfl⟩) ⟨fun a U g mk q => by obtain ⟨q0, qP, qK⟩ := q; exact ⟨q0, qP, va_K.moved (u := U) (U := U.calling g mk a) (Vm.Alike.refl U.vm) qK⟩, fun U hU hW => ⟨rfl, by rw [hU]; exact hPc, va_K.moved hW.alike hKc⟩⟩ rfl rfl hl.1 rfl (lv_room (Nat.le_of_ble_eq_true rfl)) dX7_steps_7 ⟨Nat.le_of_ble_eq_true rfl, Nat.le_of_ble_eq_true rfl⟩) (fun _ => ?_)
  refine lv_aload_n hx hb dX7_steps_10 rfl (lv_at hl 0 rfl) ?_
  refine va_getN (D := (dC, dI)) (ci := 3) (v := .ref tq) (C := RX3) (T := TX3) (N := 3) hx hb hts (by decide +kernel) hown hK hP 1 rfl rfl 0 (by decide) (va_Nw.use rfl nw0) (fun _ h9 => h9) rfl dX7_steps_11 ?_
  refine lv_iload_n hx hb dX7_steps_14 rfl (lv_at hl 3 rfl) ?_
  have hPc := hP.sub (ws' := [(tq, .inr (4, [.ref ca, .long sm, .int (oI lo)])), (ca, .inl (cJ, 64, .inr (.inl fc)))]) [2, 3] rfl
  have hKc := hK.sub (tys' := [(cJ, .long)]) [0] rfl
  refine vp_callSi (W.runV (As := [.int (nI k)]) (rest := []) ⟨hx, hb, hml, hown, hts⟩ (c_X4_searchLength l dC dI tq ca cJ fc sm lo (bo fm) k hN.2.2 (by first | assumption | omega)) (cwV 1 hts gX7_steps_X4_searchLength rfl rfl rfl (by decide +kernel) ⟨Nat.le_of_ble_eq_true rfl, Nat.le_of_ble_eq_true rfl⟩) ⟨fun a U g mk q => by obtain ⟨q0, qP, qK⟩ := q; exact ⟨q0, qP, va_K.moved (u := U) (U := U.calling g mk a) (Vm.Alike.refl U.vm) qK⟩, va_recv hKc hPc (ci := 4) (q0 := 0) rfl rfl, fun U hU hW => ⟨rfl, by rw [hU]; exact hPc, va_K.moved hW.alike hKc⟩⟩ rfl rfl hl.1 rfl (lv_room (Nat.le_of_ble_eq_true rfl)) dX7_steps_15 ⟨Nat.le_of_ble_eq_true rfl, Nat.le_of_ble_eq_true rfl⟩) (fun r_6 hw_5 => ?_)
  subst hw_5
  exact W.iret (v := nI (stp (bo fm) k)) hx hb hr (fun t9 ht hW => ⟨nI (stp (bo fm) k), rfl, rfl, ht⟩) (fun q h => by cases h) dX7_steps_18
set_option maxHeartbeats 4000000 in
set_option maxRecDepth 100000 in
/-- trees, set 0 -/
theorem c_X7_trees_0 (l : Launch) (dC : Nat → ClassId) (dI : Nat → Nat → Nat) (q : Nat) (s0 : Nat) (s1 : Nat) (s2 : Nat) (tq : Nat) (ca : Nat) (rq : Nat) (rb : Nat) (rd : Nat) (uq : Nat) (bm : Nat) (am : Nat) (bs : Nat) (ap : Nat) (cJ : ClassId) (fm : Nat → Int64) (fs : Nat → Int64) (ft : Nat → Int64) (fc : Nat → Int64) (sm : Int64) (lo : Option Nat) (hN : NI fm fs ft fc sm lo) : Met l yX7_trees wsX7_trees ({ frames := 2, cells := 0, slots := 0, locals := 47 }) (va_Pc [.ref q, .int (nI 0)] (fun U => va_Nw (.fieldLinkNest RX7 62 "SmallNumberSets$NumberSet" "tree" "LSmallNumberSets$Tree;" "SmallNumberSets") U ∧ va_P (dC, dI) vwCl [(q, .inr (6, [.ref s0, .ref s1, .ref s2])), (s0, .inr (3, [.ref tq, .ref rq, .ref uq])), (tq, .inr (4, [.ref ca, .long sm, .int (oI lo)])), (ca, .inl (cJ, 64, .inr (.inl fc))), (rq, .inr (5, [.ref rb])), (rb, .inr (0, [.ref rd])), (rd, .inl (cJ, 128, .inr (.inl ft))), (uq, .inr (1, [.ref bm, .ref bs])), (bm, .inr (0, [.ref am])), (am, .inl (cJ, 64, .inr (.inl fm))), (bs, .inr (0, [.ref ap])), (ap, .inl (cJ, 64, .inr (.inl fs)))] U.heap ∧ va_K (dC, dI) vwCl [(cJ, .long)] U)) (vp_Si (fun r => r = nI (trs (bo fm)))) 0 0 (fun _ => False) := by
  refine Met.ofW (cc := cX7_trees) (maxL := 2) (ret := (some .int)) (by decide) rfl ?_
  intro p e s m args below meth c s₁ B hml hv
  obtain ⟨rfl, nw0, hP, hK⟩ := hv
  have hx := B.exec
  have hb := B.bytes
  have hr := B.returns
  have hts := atoms_spec (ws := wsX7_trees) B.pre
  have hown : s.vm.findClass RX7 = some m.cls := findClass_of_methodNamed B.named
  have hlocks := B.notSynchronized
  have hP : va_P (dC, dI) vwCl [(q, .inr (6, [.ref s0, .ref s1, .ref s2])), (s0, .inr (3, [.ref tq, .ref rq, .ref uq])), (tq, .inr (4, [.ref ca, .long sm, .int (oI lo)])), (ca, .inl (cJ, 64, .inr (.inl fc))), (rq, .inr (5, [.ref rb])), (rb, .inr (0, [.ref rd])), (rd, .inl (cJ, 128, .inr (.inl ft))), (uq, .inr (1, [.ref bm, .ref bs])), (bm, .inr (0, [.ref am])), (am, .inl (cJ, 64, .inr (.inl fm))), (bs, .inr (0, [.ref ap])), (ap, .inl (cJ, 64, .inr (.inl fs)))] s.heap := hP
  have hl := lv_entry ([.ref q, .int (nI 0)]) (n := 2) (Nat.le_of_ble_eq_true rfl)
  rw [lg_entry_eq]
  generalize (lg_sl ([.ref q, .int (nI 0)]) ++ List.replicate (2 - (lg_sl ([.ref q, .int (nI 0)])).length) Slot.unset).toArray = ls at hl ⊢
  have hl : lv_has ls 2 [(0, .ref q), (1, .int (nI 0))] := hl
  refine lv_aload_n hx hb dX7_trees_0 rfl (lv_at hl 0 rfl) ?_
  refine lv_iload_n hx hb dX7_trees_1 rfl (lv_at hl 1 rfl) ?_
  have hPc := hP.sub (ws' := [(q, .inr (6, [.ref s0, .ref s1, .ref s2]))]) [0] rfl
  have hKc := hK.sub (tys' := []) [] rfl
  refine va_csr (W.runV (As := [.int (nI 0)]) (rest := []) ⟨hx, hb, hml, hown, hts⟩ (c_X7_chosenSet_0 l dC dI q s0 s1 s2 ) (cwV 1 hts gX7_trees_X7_chosenSet rfl rfl rfl (by decide +kernel) ⟨Nat.le_of_ble_eq_true rfl, Nat.le_of_ble_eq_true rfl⟩) ⟨fun a U g mk q => by obtain ⟨q0, qP, qK⟩ := q; exact ⟨q0, qP, va_K.moved (u := U) (U := U.calling g mk a) (Vm.Alike.refl U.vm) qK⟩, va_recv hKc hPc (ci := 6) (q0 := 0) rfl rfl, fun U hU hW => ⟨rfl, by rw [hU]; exact hPc, va_K.moved hW.alike hKc⟩⟩ rfl rfl hl.1 rfl (lv_room (Nat.le_of_ble_eq_true rfl)) dX7_trees_2 ⟨Nat.le_of_ble_eq_true rfl, Nat.le_of_ble_eq_true rfl⟩) (fun r_2 hw_1 => ?_)
  have hw_1 := hw_1.symm
  subst hw_1
  refine va_getN (D := (dC, dI)) (ci := 3) (v := .ref tq) (C := RX3) (T := TX3) (N := 3) hx hb hts (by decide +kernel) hown hK hP 1 rfl rfl 0 (by decide) (va_Nw.use rfl nw0) (fun _ h9 => h9) rfl dX7_trees_5 ?_
  have hPc := hP.sub (ws' := [(tq, .inr (4, [.ref ca, .long sm, .int (oI lo)])), (ca, .inl (cJ, 64, .inr (.inl fc)))]) [2, 3] rfl
  have hKc := hK.sub (tys' := [(cJ, .long)]) [0] rfl
  refine vp_callSi (W.runV (As := []) (rest := []) ⟨hx, hb, hml, hown, hts⟩ (c_X4_treeCount l dC dI tq ca cJ fc sm lo (bo fm) hN.2.2) (cwV 0 hts gX7_trees_X4_treeCount rfl rfl rfl (by decide +kernel) ⟨Nat.le_of_ble_eq_true rfl, Nat.le_of_ble_eq_true rfl⟩) ⟨fun a U g mk q => by obtain ⟨q0, qP, qK⟩ := q; exact ⟨q0, qP, va_K.moved (u := U) (U := U.calling g mk a) (Vm.Alike.refl U.vm) qK⟩, va_recv hKc hPc (ci := 4) (q0 := 0) rfl rfl, fun U hU hW => ⟨rfl, by rw [hU]; exact hPc, va_K.moved hW.alike hKc⟩⟩ rfl rfl hl.1 rfl (lv_room (Nat.le_of_ble_eq_true rfl)) dX7_trees_8 ⟨Nat.le_of_ble_eq_true rfl, Nat.le_of_ble_eq_true rfl⟩) (fun r_4 hw_3 => ?_)
  subst hw_3
  exact W.iret (v := nI (trs (bo fm))) hx hb hr (fun t9 ht hW => ⟨nI (trs (bo fm)), rfl, rfl, ht⟩) (fun q h => by cases h) dX7_trees_11
set_option maxHeartbeats 4000000 in
set_option maxRecDepth 100000 in
/-- clusterMinimum, set 0 -/
theorem c_X7_clusterMinimum_0 (l : Launch) (dC : Nat → ClassId) (dI : Nat → Nat → Nat) (q : Nat) (s0 : Nat) (s1 : Nat) (s2 : Nat) (tq : Nat) (ca : Nat) (rq : Nat) (rb : Nat) (rd : Nat) (uq : Nat) (bm : Nat) (am : Nat) (bs : Nat) (ap : Nat) (cJ : ClassId) (fm : Nat → Int64) (fs : Nat → Int64) (ft : Nat → Int64) (fc : Nat → Int64) (sm : Int64) (lo : Option Nat) (k : Nat) (hN : NI fm fs ft fc sm lo) (hk : k < 64) : Met l yX7_clusterMinimum wsX7_clusterMinimum ({ frames := 2, cells := 0, slots := 0, locals := 42 }) (va_Pc [.ref q, .int (nI 0), .int (nI k)] (fun U => va_Nw (.fieldLinkNest RX7 62 "SmallNumberSets$NumberSet" "tree" "LSmallNumberSets$Tree;" "SmallNumberSets") U ∧ va_P (dC, dI) vwCl [(q, .inr (6, [.ref s0, .ref s1, .ref s2])), (s0, .inr (3, [.ref tq, .ref rq, .ref uq])), (tq, .inr (4, [.ref ca, .long sm, .int (oI lo)])), (ca, .inl (cJ, 64, .inr (.inl fc))), (rq, .inr (5, [.ref rb])), (rb, .inr (0, [.ref rd])), (rd, .inl (cJ, 128, .inr (.inl ft))), (uq, .inr (1, [.ref bm, .ref bs])), (bm, .inr (0, [.ref am])), (am, .inl (cJ, 64, .inr (.inl fm))), (bs, .inr (0, [.ref ap])), (ap, .inl (cJ, 64, .inr (.inl fs)))] U.heap ∧ va_K (dC, dI) vwCl [(cJ, .long)] U)) (vp_Si (fun r => r = oI (fst1 (gb (clw (bo fm) k)) 64))) 0 0 (fun _ => False) := by
  refine Met.ofW (cc := cX7_clusterMinimum) (maxL := 4) (ret := (some .int)) (by decide) rfl ?_
  intro p e s m args below meth c s₁ B hml hv
  obtain ⟨rfl, nw0, hP, hK⟩ := hv
  have hx := B.exec
  have hb := B.bytes
  have hr := B.returns
  have hts := atoms_spec (ws := wsX7_clusterMinimum) B.pre
  have hown : s.vm.findClass RX7 = some m.cls := findClass_of_methodNamed B.named
  have hlocks := B.notSynchronized
  have hP : va_P (dC, dI) vwCl [(q, .inr (6, [.ref s0, .ref s1, .ref s2])), (s0, .inr (3, [.ref tq, .ref rq, .ref uq])), (tq, .inr (4, [.ref ca, .long sm, .int (oI lo)])), (ca, .inl (cJ, 64, .inr (.inl fc))), (rq, .inr (5, [.ref rb])), (rb, .inr (0, [.ref rd])), (rd, .inl (cJ, 128, .inr (.inl ft))), (uq, .inr (1, [.ref bm, .ref bs])), (bm, .inr (0, [.ref am])), (am, .inl (cJ, 64, .inr (.inl fm))), (bs, .inr (0, [.ref ap])), (ap, .inl (cJ, 64, .inr (.inl fs)))] s.heap := hP
  have hl := lv_entry ([.ref q, .int (nI 0), .int (nI k)]) (n := 4) (Nat.le_of_ble_eq_true rfl)
  rw [lg_entry_eq]
  generalize (lg_sl ([.ref q, .int (nI 0), .int (nI k)]) ++ List.replicate (4 - (lg_sl ([.ref q, .int (nI 0), .int (nI k)])).length) Slot.unset).toArray = ls at hl ⊢
  have hl : lv_has ls 4 [(0, .ref q), (1, .int (nI 0)), (2, .int (nI k))] := hl
  refine lv_aload_n hx hb dX7_clusterMinimum_0 rfl (lv_at hl 0 rfl) ?_
  refine lv_iload_n hx hb dX7_clusterMinimum_1 rfl (lv_at hl 1 rfl) ?_
  have hPc := hP.sub (ws' := [(q, .inr (6, [.ref s0, .ref s1, .ref s2]))]) [0] rfl
  have hKc := hK.sub (tys' := []) [] rfl
  refine va_csr (W.runV (As := [.int (nI 0)]) (rest := []) ⟨hx, hb, hml, hown, hts⟩ (c_X7_chosenSet_0 l dC dI q s0 s1 s2 ) (cwV 1 hts gX7_clusterMinimum_X7_chosenSet rfl rfl rfl (by decide +kernel) ⟨Nat.le_of_ble_eq_true rfl, Nat.le_of_ble_eq_true rfl⟩) ⟨fun a U g mk q => by obtain ⟨q0, qP, qK⟩ := q; exact ⟨q0, qP, va_K.moved (u := U) (U := U.calling g mk a) (Vm.Alike.refl U.vm) qK⟩, va_recv hKc hPc (ci := 6) (q0 := 0) rfl rfl, fun U hU hW => ⟨rfl, by rw [hU]; exact hPc, va_K.moved hW.alike hKc⟩⟩ rfl rfl hl.1 rfl (lv_room (Nat.le_of_ble_eq_true rfl)) dX7_clusterMinimum_2 ⟨Nat.le_of_ble_eq_true rfl, Nat.le_of_ble_eq_true rfl⟩) (fun r_2 hw_1 => ?_)
  have hw_1 := hw_1.symm
  subst hw_1
  refine lv_astore_n (lv' := [(3, .ref s0), (0, .ref q), (1, .int (nI 0)), (2, .int (nI k))]) hx hb dX7_clusterMinimum_5 rfl hl (by decide) rfl (fun ls hl => ?_)
  refine lv_iload_n hx hb dX7_clusterMinimum_6 rfl (lv_at hl 3 rfl) ?_
  refine lv_bipush (v := nI 64) hx hb dX7_clusterMinimum_7 (by decide +kernel) ?_
  have hPc := hP.sub (ws' := []) [] rfl
  have hKc := hK.sub (tys' := []) [] rfl
  refine va_csv (W.runS (As := [.int (nI k), .int (nI 64)]) (rest := []) ⟨hx, hb, hml, hown, hts⟩ (c_X7_needPlace l dC dI k 64 (by first | assumption | omega) (by first | assumption | omega)) (va_cwS 2 hts gX7_clusterMinimum_X7_needPlace rfl rfl rfl (by decide +kernel) ⟨Nat.le_of_ble_eq_true rfl, Nat.le_of_ble_eq_true rfl⟩) ⟨fun a U g mk q => by obtain ⟨q0, qP, qK⟩ := q; exact ⟨q0, qP, va_K.moved (u := U) (U := U.calling g mk a) (Vm.Alike.refl U.vm) qK⟩, fun U hU hW => ⟨rfl, by rw [hU]; exact hPc, va_K.moved hW.alike hKc⟩⟩ rfl rfl hl.1 rfl (lv_room (Nat.le_of_ble_eq_true rfl)) dX7_clusterMinimum_9 ⟨Nat.le_of_ble_eq_true rfl, Nat.le_of_ble_eq_true rfl⟩) (fun _ => ?_)
  refine lv_aload_n hx hb dX7_clusterMinimum_12 rfl (lv_at hl 0 rfl) ?_
  refine va_getN (D := (dC, dI)) (ci := 3) (v := .ref tq) (C := RX3) (T := TX3) (N := 3) hx hb hts (by decide +kernel) hown hK hP 1 rfl rfl 0 (by decide) (va_Nw.use rfl nw0) (fun _ h9 => h9) rfl dX7_clusterMinimum_13 ?_
  refine lv_iload_n hx hb dX7_clusterMinimum_16 rfl (lv_at hl 3 rfl) ?_
  have hPc := hP.sub (ws' := [(tq, .inr (4, [.ref ca, .long sm, .int (oI lo)])), (ca, .inl (cJ, 64, .inr (.inl fc)))]) [2, 3] rfl
  have hKc := hK.sub (tys' := [(cJ, .long)]) [0] rfl
  refine vp_callSl (W.runV (As := [.int (nI k)]) (rest := []) ⟨hx, hb, hml, hown, hts⟩ (c_X4_cluster l dC dI tq ca cJ fc sm lo k (by first | assumption | omega)) (cwV 1 hts gX7_clusterMinimum_X4_cluster rfl rfl rfl (by decide +kernel) ⟨Nat.le_of_ble_eq_true rfl, Nat.le_of_ble_eq_true rfl⟩) ⟨fun a U g mk q => by obtain ⟨q0, qP, qK⟩ := q; exact ⟨q0, qP, va_K.moved (u := U) (U := U.calling g mk a) (Vm.Alike.refl U.vm) qK⟩, va_recv hKc hPc (ci := 4) (q0 := 0) rfl rfl, fun U hU hW => ⟨rfl, by rw [hU]; exact hPc, va_K.moved hW.alike hKc⟩⟩ rfl rfl hl.1 rfl (lv_room (Nat.le_of_ble_eq_true rfl)) dX7_clusterMinimum_17 ⟨Nat.le_of_ble_eq_true rfl, Nat.le_of_ble_eq_true rfl⟩) (fun r_6 hw_5 => ?_)
  subst hw_5
  have hPc := hP.sub (ws' := []) [] rfl
  have hKc := hK.sub (tys' := []) [] rfl
  refine vp_callSi (W.runS (As := [.long (fc k)]) (rest := []) ⟨hx, hb, hml, hown, hts⟩ (c_X6_least l dC dI (fc k) ) (va_cwS 1 hts gX7_clusterMinimum_X6_least rfl rfl rfl (by decide +kernel) ⟨Nat.le_of_ble_eq_true rfl, Nat.le_of_ble_eq_true rfl⟩) ⟨fun a U g mk q => by obtain ⟨q0, qP, qK⟩ := q; exact ⟨q0, qP, va_K.moved (u := U) (U := U.calling g mk a) (Vm.Alike.refl U.vm) qK⟩, fun U hU hW => ⟨rfl, by rw [hU]; exact hPc, va_K.moved hW.alike hKc⟩⟩ rfl rfl hl.1 rfl (lv_room (Nat.le_of_ble_eq_true rfl)) dX7_clusterMinimum_20 ⟨Nat.le_of_ble_eq_true rfl, Nat.le_of_ble_eq_true rfl⟩) (fun r_8 hw_7 => ?_)
  subst hw_7
  exact W.iret (v := oI (fst1 (gb (fc k)) 64)) hx hb hr (fun t9 ht hW => ⟨oI (fst1 (gb (fc k)) 64), rfl, by rw [tr_clw hN.2.2 hk], ht⟩) (fun q h => by cases h) dX7_clusterMinimum_23
set_option maxHeartbeats 4000000 in
set_option maxRecDepth 100000 in
/-- clusterMaximum, set 0 -/
theorem c_X7_clusterMaximum_0 (l : Launch) (dC : Nat → ClassId) (dI : Nat → Nat → Nat) (q : Nat) (s0 : Nat) (s1 : Nat) (s2 : Nat) (tq : Nat) (ca : Nat) (rq : Nat) (rb : Nat) (rd : Nat) (uq : Nat) (bm : Nat) (am : Nat) (bs : Nat) (ap : Nat) (cJ : ClassId) (fm : Nat → Int64) (fs : Nat → Int64) (ft : Nat → Int64) (fc : Nat → Int64) (sm : Int64) (lo : Option Nat) (k : Nat) (hN : NI fm fs ft fc sm lo) (hk : k < 64) : Met l yX7_clusterMaximum wsX7_clusterMaximum ({ frames := 2, cells := 0, slots := 0, locals := 44 }) (va_Pc [.ref q, .int (nI 0), .int (nI k)] (fun U => va_Nw (.fieldLinkNest RX7 62 "SmallNumberSets$NumberSet" "tree" "LSmallNumberSets$Tree;" "SmallNumberSets") U ∧ va_P (dC, dI) vwCl [(q, .inr (6, [.ref s0, .ref s1, .ref s2])), (s0, .inr (3, [.ref tq, .ref rq, .ref uq])), (tq, .inr (4, [.ref ca, .long sm, .int (oI lo)])), (ca, .inl (cJ, 64, .inr (.inl fc))), (rq, .inr (5, [.ref rb])), (rb, .inr (0, [.ref rd])), (rd, .inl (cJ, 128, .inr (.inl ft))), (uq, .inr (1, [.ref bm, .ref bs])), (bm, .inr (0, [.ref am])), (am, .inl (cJ, 64, .inr (.inl fm))), (bs, .inr (0, [.ref ap])), (ap, .inl (cJ, 64, .inr (.inl fs)))] U.heap ∧ va_K (dC, dI) vwCl [(cJ, .long)] U)) (vp_Si (fun r => r = oI (lst1 (gb (clw (bo fm) k)) 64))) 0 0 (fun _ => False) := by
  refine Met.ofW (cc := cX7_clusterMaximum) (maxL := 4) (ret := (some .int)) (by decide) rfl ?_
  intro p e s m args below meth c s₁ B hml hv
  obtain ⟨rfl, nw0, hP, hK⟩ := hv
  have hx := B.exec
  have hb := B.bytes
  have hr := B.returns
  have hts := atoms_spec (ws := wsX7_clusterMaximum) B.pre
  have hown : s.vm.findClass RX7 = some m.cls := findClass_of_methodNamed B.named
  have hlocks := B.notSynchronized
  have hP : va_P (dC, dI) vwCl [(q, .inr (6, [.ref s0, .ref s1, .ref s2])), (s0, .inr (3, [.ref tq, .ref rq, .ref uq])), (tq, .inr (4, [.ref ca, .long sm, .int (oI lo)])), (ca, .inl (cJ, 64, .inr (.inl fc))), (rq, .inr (5, [.ref rb])), (rb, .inr (0, [.ref rd])), (rd, .inl (cJ, 128, .inr (.inl ft))), (uq, .inr (1, [.ref bm, .ref bs])), (bm, .inr (0, [.ref am])), (am, .inl (cJ, 64, .inr (.inl fm))), (bs, .inr (0, [.ref ap])), (ap, .inl (cJ, 64, .inr (.inl fs)))] s.heap := hP
  have hl := lv_entry ([.ref q, .int (nI 0), .int (nI k)]) (n := 4) (Nat.le_of_ble_eq_true rfl)
  rw [lg_entry_eq]
  generalize (lg_sl ([.ref q, .int (nI 0), .int (nI k)]) ++ List.replicate (4 - (lg_sl ([.ref q, .int (nI 0), .int (nI k)])).length) Slot.unset).toArray = ls at hl ⊢
  have hl : lv_has ls 4 [(0, .ref q), (1, .int (nI 0)), (2, .int (nI k))] := hl
  refine lv_aload_n hx hb dX7_clusterMaximum_0 rfl (lv_at hl 0 rfl) ?_
  refine lv_iload_n hx hb dX7_clusterMaximum_1 rfl (lv_at hl 1 rfl) ?_
  have hPc := hP.sub (ws' := [(q, .inr (6, [.ref s0, .ref s1, .ref s2]))]) [0] rfl
  have hKc := hK.sub (tys' := []) [] rfl
  refine va_csr (W.runV (As := [.int (nI 0)]) (rest := []) ⟨hx, hb, hml, hown, hts⟩ (c_X7_chosenSet_0 l dC dI q s0 s1 s2 ) (cwV 1 hts gX7_clusterMaximum_X7_chosenSet rfl rfl rfl (by decide +kernel) ⟨Nat.le_of_ble_eq_true rfl, Nat.le_of_ble_eq_true rfl⟩) ⟨fun a U g mk q => by obtain ⟨q0, qP, qK⟩ := q; exact ⟨q0, qP, va_K.moved (u := U) (U := U.calling g mk a) (Vm.Alike.refl U.vm) qK⟩, va_recv hKc hPc (ci := 6) (q0 := 0) rfl rfl, fun U hU hW => ⟨rfl, by rw [hU]; exact hPc, va_K.moved hW.alike hKc⟩⟩ rfl rfl hl.1 rfl (lv_room (Nat.le_of_ble_eq_true rfl)) dX7_clusterMaximum_2 ⟨Nat.le_of_ble_eq_true rfl, Nat.le_of_ble_eq_true rfl⟩) (fun r_2 hw_1 => ?_)
  have hw_1 := hw_1.symm
  subst hw_1
  refine lv_astore_n (lv' := [(3, .ref s0), (0, .ref q), (1, .int (nI 0)), (2, .int (nI k))]) hx hb dX7_clusterMaximum_5 rfl hl (by decide) rfl (fun ls hl => ?_)
  refine lv_iload_n hx hb dX7_clusterMaximum_6 rfl (lv_at hl 3 rfl) ?_
  refine lv_bipush (v := nI 64) hx hb dX7_clusterMaximum_7 (by decide +kernel) ?_
  have hPc := hP.sub (ws' := []) [] rfl
  have hKc := hK.sub (tys' := []) [] rfl
  refine va_csv (W.runS (As := [.int (nI k), .int (nI 64)]) (rest := []) ⟨hx, hb, hml, hown, hts⟩ (c_X7_needPlace l dC dI k 64 (by first | assumption | omega) (by first | assumption | omega)) (va_cwS 2 hts gX7_clusterMaximum_X7_needPlace rfl rfl rfl (by decide +kernel) ⟨Nat.le_of_ble_eq_true rfl, Nat.le_of_ble_eq_true rfl⟩) ⟨fun a U g mk q => by obtain ⟨q0, qP, qK⟩ := q; exact ⟨q0, qP, va_K.moved (u := U) (U := U.calling g mk a) (Vm.Alike.refl U.vm) qK⟩, fun U hU hW => ⟨rfl, by rw [hU]; exact hPc, va_K.moved hW.alike hKc⟩⟩ rfl rfl hl.1 rfl (lv_room (Nat.le_of_ble_eq_true rfl)) dX7_clusterMaximum_9 ⟨Nat.le_of_ble_eq_true rfl, Nat.le_of_ble_eq_true rfl⟩) (fun _ => ?_)
  refine lv_aload_n hx hb dX7_clusterMaximum_12 rfl (lv_at hl 0 rfl) ?_
  refine va_getN (D := (dC, dI)) (ci := 3) (v := .ref tq) (C := RX3) (T := TX3) (N := 3) hx hb hts (by decide +kernel) hown hK hP 1 rfl rfl 0 (by decide) (va_Nw.use rfl nw0) (fun _ h9 => h9) rfl dX7_clusterMaximum_13 ?_
  refine lv_iload_n hx hb dX7_clusterMaximum_16 rfl (lv_at hl 3 rfl) ?_
  have hPc := hP.sub (ws' := [(tq, .inr (4, [.ref ca, .long sm, .int (oI lo)])), (ca, .inl (cJ, 64, .inr (.inl fc)))]) [2, 3] rfl
  have hKc := hK.sub (tys' := [(cJ, .long)]) [0] rfl
  refine vp_callSl (W.runV (As := [.int (nI k)]) (rest := []) ⟨hx, hb, hml, hown, hts⟩ (c_X4_cluster l dC dI tq ca cJ fc sm lo k (by first | assumption | omega)) (cwV 1 hts gX7_clusterMaximum_X4_cluster rfl rfl rfl (by decide +kernel) ⟨Nat.le_of_ble_eq_true rfl, Nat.le_of_ble_eq_true rfl⟩) ⟨fun a U g mk q => by obtain ⟨q0, qP, qK⟩ := q; exact ⟨q0, qP, va_K.moved (u := U) (U := U.calling g mk a) (Vm.Alike.refl U.vm) qK⟩, va_recv hKc hPc (ci := 4) (q0 := 0) rfl rfl, fun U hU hW => ⟨rfl, by rw [hU]; exact hPc, va_K.moved hW.alike hKc⟩⟩ rfl rfl hl.1 rfl (lv_room (Nat.le_of_ble_eq_true rfl)) dX7_clusterMaximum_17 ⟨Nat.le_of_ble_eq_true rfl, Nat.le_of_ble_eq_true rfl⟩) (fun r_6 hw_5 => ?_)
  subst hw_5
  have hPc := hP.sub (ws' := []) [] rfl
  have hKc := hK.sub (tys' := []) [] rfl
  refine vp_callSi (W.runS (As := [.long (fc k)]) (rest := []) ⟨hx, hb, hml, hown, hts⟩ (c_X6_greatest l dC dI (fc k) ) (va_cwS 1 hts gX7_clusterMaximum_X6_greatest rfl rfl rfl (by decide +kernel) ⟨Nat.le_of_ble_eq_true rfl, Nat.le_of_ble_eq_true rfl⟩) ⟨fun a U g mk q => by obtain ⟨q0, qP, qK⟩ := q; exact ⟨q0, qP, va_K.moved (u := U) (U := U.calling g mk a) (Vm.Alike.refl U.vm) qK⟩, fun U hU hW => ⟨rfl, by rw [hU]; exact hPc, va_K.moved hW.alike hKc⟩⟩ rfl rfl hl.1 rfl (lv_room (Nat.le_of_ble_eq_true rfl)) dX7_clusterMaximum_20 ⟨Nat.le_of_ble_eq_true rfl, Nat.le_of_ble_eq_true rfl⟩) (fun r_8 hw_7 => ?_)
  subst hw_7
  exact W.iret (v := oI (lst1 (gb (fc k)) 64)) hx hb hr (fun t9 ht hW => ⟨oI (lst1 (gb (fc k)) 64), rfl, by rw [tr_clw hN.2.2 hk], ht⟩) (fun q h => by cases h) dX7_clusterMaximum_23
set_option maxHeartbeats 4000000 in
set_option maxRecDepth 100000 in
/-- prefixes, set 0 -/
theorem c_X7_prefixes_0 (l : Launch) (dC : Nat → ClassId) (dI : Nat → Nat → Nat) (q : Nat) (s0 : Nat) (s1 : Nat) (s2 : Nat) (tq : Nat) (ca : Nat) (rq : Nat) (rb : Nat) (rd : Nat) (uq : Nat) (bm : Nat) (am : Nat) (bs : Nat) (ap : Nat) (cJ : ClassId) (fm : Nat → Int64) (fs : Nat → Int64) (ft : Nat → Int64) (fc : Nat → Int64) (sm : Int64) (lo : Option Nat) (k : Nat) (hN : NI fm fs ft fc sm lo) (hk : k < 13) : Met l yX7_prefixes wsX7_prefixes ({ frames := 3, cells := 0, slots := 0, locals := 67 }) (va_Pc [.ref q, .int (nI 0), .int (nI k)] (fun U => va_Nw (.fieldLinkNest RX7 112 "SmallNumberSets$NumberSet" "trie" "LSmallNumberSets$Trie;" "SmallNumberSets") U ∧ va_P (dC, dI) vwCl [(q, .inr (6, [.ref s0, .ref s1, .ref s2])), (s0, .inr (3, [.ref tq, .ref rq, .ref uq])), (tq, .inr (4, [.ref ca, .long sm, .int (oI lo)])), (ca, .inl (cJ, 64, .inr (.inl fc))), (rq, .inr (5, [.ref rb])), (rb, .inr (0, [.ref rd])), (rd, .inl (cJ, 128, .inr (.inl ft))), (uq, .inr (1, [.ref bm, .ref bs])), (bm, .inr (0, [.ref am])), (am, .inl (cJ, 64, .inr (.inl fm))), (bs, .inr (0, [.ref ap])), (ap, .inl (cJ, 64, .inr (.inl fs)))] U.heap ∧ va_K (dC, dI) vwCl [(cJ, .long)] U)) (vp_Si (fun r => r = nI (fb_ct (pfx (bo fm) k) (2 ^ k)))) 0 0 (fun _ => False) := by
  refine Met.ofW (cc := cX7_prefixes) (maxL := 4) (ret := (some .int)) (by decide) rfl ?_
  intro p e s m args below meth c s₁ B hml hv
  obtain ⟨rfl, nw0, hP, hK⟩ := hv
  have hx := B.exec
  have hb := B.bytes
  have hr := B.returns
  have hts := atoms_spec (ws := wsX7_prefixes) B.pre
  have hown : s.vm.findClass RX7 = some m.cls := findClass_of_methodNamed B.named
  have hlocks := B.notSynchronized
  have hP : va_P (dC, dI) vwCl [(q, .inr (6, [.ref s0, .ref s1, .ref s2])), (s0, .inr (3, [.ref tq, .ref rq, .ref uq])), (tq, .inr (4, [.ref ca, .long sm, .int (oI lo)])), (ca, .inl (cJ, 64, .inr (.inl fc))), (rq, .inr (5, [.ref rb])), (rb, .inr (0, [.ref rd])), (rd, .inl (cJ, 128, .inr (.inl ft))), (uq, .inr (1, [.ref bm, .ref bs])), (bm, .inr (0, [.ref am])), (am, .inl (cJ, 64, .inr (.inl fm))), (bs, .inr (0, [.ref ap])), (ap, .inl (cJ, 64, .inr (.inl fs)))] s.heap := hP
  have hl := lv_entry ([.ref q, .int (nI 0), .int (nI k)]) (n := 4) (Nat.le_of_ble_eq_true rfl)
  rw [lg_entry_eq]
  generalize (lg_sl ([.ref q, .int (nI 0), .int (nI k)]) ++ List.replicate (4 - (lg_sl ([.ref q, .int (nI 0), .int (nI k)])).length) Slot.unset).toArray = ls at hl ⊢
  have hl : lv_has ls 4 [(0, .ref q), (1, .int (nI 0)), (2, .int (nI k))] := hl
  refine lv_aload_n hx hb dX7_prefixes_0 rfl (lv_at hl 0 rfl) ?_
  refine lv_iload_n hx hb dX7_prefixes_1 rfl (lv_at hl 1 rfl) ?_
  have hPc := hP.sub (ws' := [(q, .inr (6, [.ref s0, .ref s1, .ref s2]))]) [0] rfl
  have hKc := hK.sub (tys' := []) [] rfl
  refine va_csr (W.runV (As := [.int (nI 0)]) (rest := []) ⟨hx, hb, hml, hown, hts⟩ (c_X7_chosenSet_0 l dC dI q s0 s1 s2 ) (cwV 1 hts gX7_prefixes_X7_chosenSet rfl rfl rfl (by decide +kernel) ⟨Nat.le_of_ble_eq_true rfl, Nat.le_of_ble_eq_true rfl⟩) ⟨fun a U g mk q => by obtain ⟨q0, qP, qK⟩ := q; exact ⟨q0, qP, va_K.moved (u := U) (U := U.calling g mk a) (Vm.Alike.refl U.vm) qK⟩, va_recv hKc hPc (ci := 6) (q0 := 0) rfl rfl, fun U hU hW => ⟨rfl, by rw [hU]; exact hPc, va_K.moved hW.alike hKc⟩⟩ rfl rfl hl.1 rfl (lv_room (Nat.le_of_ble_eq_true rfl)) dX7_prefixes_2 ⟨Nat.le_of_ble_eq_true rfl, Nat.le_of_ble_eq_true rfl⟩) (fun r_2 hw_1 => ?_)
  have hw_1 := hw_1.symm
  subst hw_1
  refine lv_astore_n (lv' := [(3, .ref s0), (0, .ref q), (1, .int (nI 0)), (2, .int (nI k))]) hx hb dX7_prefixes_5 rfl hl (by decide) rfl (fun ls hl => ?_)
  refine lv_iload_n hx hb dX7_prefixes_6 rfl (lv_at hl 3 rfl) ?_
  refine lv_bipush (v := nI 13) hx hb dX7_prefixes_7 (by decide +kernel) ?_
  have hPc := hP.sub (ws' := []) [] rfl
  have hKc := hK.sub (tys' := []) [] rfl
  refine va_csv (W.runS (As := [.int (nI k), .int (nI 13)]) (rest := []) ⟨hx, hb, hml, hown, hts⟩ (c_X7_needPlace l dC dI k 13 (by first | assumption | omega) (by first | assumption | omega)) (va_cwS 2 hts gX7_prefixes_X7_needPlace rfl rfl rfl (by decide +kernel) ⟨Nat.le_of_ble_eq_true rfl, Nat.le_of_ble_eq_true rfl⟩) ⟨fun a U g mk q => by obtain ⟨q0, qP, qK⟩ := q; exact ⟨q0, qP, va_K.moved (u := U) (U := U.calling g mk a) (Vm.Alike.refl U.vm) qK⟩, fun U hU hW => ⟨rfl, by rw [hU]; exact hPc, va_K.moved hW.alike hKc⟩⟩ rfl rfl hl.1 rfl (lv_room (Nat.le_of_ble_eq_true rfl)) dX7_prefixes_9 ⟨Nat.le_of_ble_eq_true rfl, Nat.le_of_ble_eq_true rfl⟩) (fun _ => ?_)
  refine lv_aload_n hx hb dX7_prefixes_12 rfl (lv_at hl 0 rfl) ?_
  refine va_getN (D := (dC, dI)) (ci := 3) (v := .ref rq) (C := RX3) (T := TX3) (N := 3) hx hb hts (by decide +kernel) hown hK hP 1 rfl rfl 1 (by decide) (va_Nw.use rfl nw0) (fun _ h9 => h9) rfl dX7_prefixes_13 ?_
  refine lv_iload_n hx hb dX7_prefixes_16 rfl (lv_at hl 3 rfl) ?_
  have hPc := hP.sub (ws' := [(rq, .inr (5, [.ref rb])), (rb, .inr (0, [.ref rd])), (rd, .inl (cJ, 128, .inr (.inl ft)))]) [4, 5, 6] rfl
  have hKc := hK.sub (tys' := [(cJ, .long)]) [0] rfl
  refine vp_callSi (W.runV (As := [.int (nI k)]) (rest := []) ⟨hx, hb, hml, hown, hts⟩ (c_X5_prefixCount l dC dI rq rb rd cJ ft (bo fm) k hN.2.1 (by first | assumption | omega)) (cwV 1 hts gX7_prefixes_X5_prefixCount rfl rfl rfl (by decide +kernel) ⟨Nat.le_of_ble_eq_true rfl, Nat.le_of_ble_eq_true rfl⟩) ⟨fun a U g mk q => by obtain ⟨q0, qP, qK⟩ := q; exact ⟨q0, qP, va_K.moved (u := U) (U := U.calling g mk a) (Vm.Alike.refl U.vm) qK⟩, va_recv hKc hPc (ci := 5) (q0 := 0) rfl rfl, fun U hU hW => ⟨rfl, by rw [hU]; exact hPc, va_K.moved hW.alike hKc⟩⟩ rfl rfl hl.1 rfl (lv_room (Nat.le_of_ble_eq_true rfl)) dX7_prefixes_17 ⟨Nat.le_of_ble_eq_true rfl, Nat.le_of_ble_eq_true rfl⟩) (fun r_6 hw_5 => ?_)
  subst hw_5
  exact W.iret (v := nI (fb_ct (pfx (bo fm) k) (2 ^ k))) hx hb hr (fun t9 ht hW => ⟨nI (fb_ct (pfx (bo fm) k) (2 ^ k)), rfl, rfl, ht⟩) (fun q h => by cases h) dX7_prefixes_20
set_option maxHeartbeats 4000000 in
set_option maxRecDepth 100000 in
/-- longestMatch, set 0 -/
theorem c_X7_longestMatch_0 (l : Launch) (dC : Nat → ClassId) (dI : Nat → Nat → Nat) (q : Nat) (s0 : Nat) (s1 : Nat) (s2 : Nat) (tq : Nat) (ca : Nat) (rq : Nat) (rb : Nat) (rd : Nat) (uq : Nat) (bm : Nat) (am : Nat) (bs : Nat) (ap : Nat) (cJ : ClassId) (fm : Nat → Int64) (fs : Nat → Int64) (ft : Nat → Int64) (fc : Nat → Int64) (sm : Int64) (lo : Option Nat) (k : Nat) (sz : Nat) (hN : NI fm fs ft fc sm lo) (hk : k < 4096) : Met l yX7_longestMatch wsX7_longestMatch ({ frames := 3, cells := 1, slots := 2, locals := 68 }) (va_Pc [.ref q, .int (nI 0), .int (nI k)] (fun U => va_Nw (.fieldLinkNest RX7 112 "SmallNumberSets$NumberSet" "trie" "LSmallNumberSets$Trie;" "SmallNumberSets") U ∧ va_Nw (.fieldLinkNest RX7 125 "SmallNumberSets$MatchSearch" "match" "I" "SmallNumberSets") U ∧ U.heap.size = sz ∧ va_P (dC, dI) vwCl [(q, .inr (6, [.ref s0, .ref s1, .ref s2])), (s0, .inr (3, [.ref tq, .ref rq, .ref uq])), (tq, .inr (4, [.ref ca, .long sm, .int (oI lo)])), (ca, .inl (cJ, 64, .inr (.inl fc))), (rq, .inr (5, [.ref rb])), (rb, .inr (0, [.ref rd])), (rd, .inl (cJ, 128, .inr (.inl ft))), (uq, .inr (1, [.ref bm, .ref bs])), (bm, .inr (0, [.ref am])), (am, .inl (cJ, 64, .inr (.inl fm))), (bs, .inr (0, [.ref ap])), (ap, .inl (cJ, 64, .inr (.inl fs)))] U.heap ∧ va_K (dC, dI) vwCl [(cJ, .long)] U ∧ va_D (fun _ => True) [(q, .inr (6, [.ref s0, .ref s1, .ref s2])), (s0, .inr (3, [.ref tq, .ref rq, .ref uq])), (tq, .inr (4, [.ref ca, .long sm, .int (oI lo)])), (ca, .inl (cJ, 64, .inr (.inl fc))), (rq, .inr (5, [.ref rb])), (rb, .inr (0, [.ref rd])), (rd, .inl (cJ, 128, .inr (.inl ft))), (uq, .inr (1, [.ref bm, .ref bs])), (bm, .inr (0, [.ref am])), (am, .inl (cJ, 64, .inr (.inl fm))), (bs, .inr (0, [.ref ap])), (ap, .inl (cJ, 64, .inr (.inl fs)))])) (va_Qi (fun (r : Int32) (u : Unit) => r = oI (srch (bo fm) k).1) (fun (u : Unit) (t : State) => va_P (dC, dI) vwCl [(q, .inr (6, [.ref s0, .ref s1, .ref s2])), (s0, .inr (3, [.ref tq, .ref rq, .ref uq])), (tq, .inr (4, [.ref ca, .long sm, .int (oI lo)])), (ca, .inl (cJ, 64, .inr (.inl fc))), (rq, .inr (5, [.ref rb])), (rb, .inr (0, [.ref rd])), (rd, .inl (cJ, 128, .inr (.inl ft))), (uq, .inr (1, [.ref bm, .ref bs])), (bm, .inr (0, [.ref am])), (am, .inl (cJ, 64, .inr (.inl fm))), (bs, .inr (0, [.ref ap])), (ap, .inl (cJ, 64, .inr (.inl fs)))] t.heap ∧ va_K (dC, dI) vwCl [(cJ, .long)] t ∧ va_D (va_A [(q, .inr (6, [.ref s0, .ref s1, .ref s2])), (s0, .inr (3, [.ref tq, .ref rq, .ref uq])), (tq, .inr (4, [.ref ca, .long sm, .int (oI lo)])), (ca, .inl (cJ, 64, .inr (.inl fc))), (rq, .inr (5, [.ref rb])), (rb, .inr (0, [.ref rd])), (rd, .inl (cJ, 128, .inr (.inl ft))), (uq, .inr (1, [.ref bm, .ref bs])), (bm, .inr (0, [.ref am])), (am, .inl (cJ, 64, .inr (.inl fm))), (bs, .inr (0, [.ref ap])), (ap, .inl (cJ, 64, .inr (.inl fs)))] sz) [(q, .inr (6, [.ref s0, .ref s1, .ref s2])), (s0, .inr (3, [.ref tq, .ref rq, .ref uq])), (tq, .inr (4, [.ref ca, .long sm, .int (oI lo)])), (ca, .inl (cJ, 64, .inr (.inl fc))), (rq, .inr (5, [.ref rb])), (rb, .inr (0, [.ref rd])), (rd, .inl (cJ, 128, .inr (.inl ft))), (uq, .inr (1, [.ref bm, .ref bs])), (bm, .inr (0, [.ref am])), (am, .inl (cJ, 64, .inr (.inl fm))), (bs, .inr (0, [.ref ap])), (ap, .inl (cJ, 64, .inr (.inl fs)))]) (va_A [(q, .inr (6, [.ref s0, .ref s1, .ref s2])), (s0, .inr (3, [.ref tq, .ref rq, .ref uq])), (tq, .inr (4, [.ref ca, .long sm, .int (oI lo)])), (ca, .inl (cJ, 64, .inr (.inl fc))), (rq, .inr (5, [.ref rb])), (rb, .inr (0, [.ref rd])), (rd, .inl (cJ, 128, .inr (.inl ft))), (uq, .inr (1, [.ref bm, .ref bs])), (bm, .inr (0, [.ref am])), (am, .inl (cJ, 64, .inr (.inl fm))), (bs, .inr (0, [.ref ap])), (ap, .inl (cJ, 64, .inr (.inl fs)))] sz)) 1 2 (va_A [(q, .inr (6, [.ref s0, .ref s1, .ref s2])), (s0, .inr (3, [.ref tq, .ref rq, .ref uq])), (tq, .inr (4, [.ref ca, .long sm, .int (oI lo)])), (ca, .inl (cJ, 64, .inr (.inl fc))), (rq, .inr (5, [.ref rb])), (rb, .inr (0, [.ref rd])), (rd, .inl (cJ, 128, .inr (.inl ft))), (uq, .inr (1, [.ref bm, .ref bs])), (bm, .inr (0, [.ref am])), (am, .inl (cJ, 64, .inr (.inl fm))), (bs, .inr (0, [.ref ap])), (ap, .inl (cJ, 64, .inr (.inl fs)))] sz) := by
  refine Met.ofW (cc := cX7_longestMatch) (maxL := 4) (ret := (some .int)) (by decide) rfl ?_
  intro p e s m args below meth c s₁ B hml hv
  obtain ⟨rfl, nw0, nw1, hsz, hP, hK, hD0⟩ := hv
  have hx := B.exec
  have hb := B.bytes
  have hr := B.returns
  have hts := atoms_spec (ws := wsX7_longestMatch) B.pre
  have hown : s.vm.findClass RX7 = some m.cls := findClass_of_methodNamed B.named
  have hlocks := B.notSynchronized
  subst hsz
  have hD := hD0.self (sz := s.heap.size)
  generalize hAe : va_A [(q, .inr (6, [.ref s0, .ref s1, .ref s2])), (s0, .inr (3, [.ref tq, .ref rq, .ref uq])), (tq, .inr (4, [.ref ca, .long sm, .int (oI lo)])), (ca, .inl (cJ, 64, .inr (.inl fc))), (rq, .inr (5, [.ref rb])), (rb, .inr (0, [.ref rd])), (rd, .inl (cJ, 128, .inr (.inl ft))), (uq, .inr (1, [.ref bm, .ref bs])), (bm, .inr (0, [.ref am])), (am, .inl (cJ, 64, .inr (.inl fm))), (bs, .inr (0, [.ref ap])), (ap, .inl (cJ, 64, .inr (.inl fs)))] s.heap.size = A at hD ⊢
  have hA : ∀ q : Nat, s.heap.size ≤ q → A q := fun q h => by rw [← hAe]; exact Or.inr h
  have hS : va_S A s.heap s.heap [] := va_S.rf
  have hP : va_P (dC, dI) vwCl [(q, .inr (6, [.ref s0, .ref s1, .ref s2])), (s0, .inr (3, [.ref tq, .ref rq, .ref uq])), (tq, .inr (4, [.ref ca, .long sm, .int (oI lo)])), (ca, .inl (cJ, 64, .inr (.inl fc))), (rq, .inr (5, [.ref rb])), (rb, .inr (0, [.ref rd])), (rd, .inl (cJ, 128, .inr (.inl ft))), (uq, .inr (1, [.ref bm, .ref bs])), (bm, .inr (0, [.ref am])), (am, .inl (cJ, 64, .inr (.inl fm))), (bs, .inr (0, [.ref ap])), (ap, .inl (cJ, 64, .inr (.inl fs)))] s.heap := hP
  have hl := lv_entry ([.ref q, .int (nI 0), .int (nI k)]) (n := 4) (Nat.le_of_ble_eq_true rfl)
  rw [lg_entry_eq]
  generalize (lg_sl ([.ref q, .int (nI 0), .int (nI k)]) ++ List.replicate (4 - (lg_sl ([.ref q, .int (nI 0), .int (nI k)])).length) Slot.unset).toArray = ls at hl ⊢
  have hl : lv_has ls 4 [(0, .ref q), (1, .int (nI 0)), (2, .int (nI k))] := hl
  refine lv_aload_n hx hb dX7_longestMatch_0 rfl (lv_at hl 0 rfl) ?_
  refine lv_iload_n hx hb dX7_longestMatch_1 rfl (lv_at hl 1 rfl) ?_
  have hPc := hP.sub (ws' := [(q, .inr (6, [.ref s0, .ref s1, .ref s2]))]) [0] rfl
  have hKc := hK.sub (tys' := []) [] rfl
  refine va_csr (W.runV (As := [.int (nI 0)]) (rest := []) ⟨hx, hb, hml, hown, hts⟩ (c_X7_chosenSet_0 l dC dI q s0 s1 s2 ) (cwV 1 hts gX7_longestMatch_X7_chosenSet rfl rfl rfl (by decide +kernel) ⟨Nat.le_of_ble_eq_true rfl, Nat.le_of_ble_eq_true rfl⟩) ⟨fun a U g mk q => by obtain ⟨q0, qP, qK⟩ := q; exact ⟨q0, qP, va_K.moved (u := U) (U := U.calling g mk a) (Vm.Alike.refl U.vm) qK⟩, va_recv hKc hPc (ci := 6) (q0 := 0) rfl rfl, fun U hU hW => ⟨rfl, by rw [hU]; exact hPc, va_K.moved hW.alike hKc⟩⟩ rfl rfl hl.1 rfl (lv_room (Nat.le_of_ble_eq_true rfl)) dX7_longestMatch_2 ⟨Nat.le_of_ble_eq_true rfl, Nat.le_of_ble_eq_true rfl⟩) (fun r_2 hw_1 => ?_)
  have hw_1 := hw_1.symm
  subst hw_1
  refine lv_astore_n (lv' := [(3, .ref s0), (0, .ref q), (1, .int (nI 0)), (2, .int (nI k))]) hx hb dX7_longestMatch_5 rfl hl (by decide) rfl (fun ls hl => ?_)
  refine lv_iload_n hx hb dX7_longestMatch_6 rfl (lv_at hl 3 rfl) ?_
  have hPc := hP.sub (ws' := []) [] rfl
  have hKc := hK.sub (tys' := []) [] rfl
  refine va_csv (W.runS (As := [.int (nI k)]) (rest := []) ⟨hx, hb, hml, hown, hts⟩ (c_X7_needNumber l dC dI k (by first | assumption | omega)) (va_cwS 1 hts gX7_longestMatch_X7_needNumber rfl rfl rfl (by decide +kernel) ⟨Nat.le_of_ble_eq_true rfl, Nat.le_of_ble_eq_true rfl⟩) ⟨fun a U g mk q => by obtain ⟨q0, qP, qK⟩ := q; exact ⟨q0, qP, va_K.moved (u := U) (U := U.calling g mk a) (Vm.Alike.refl U.vm) qK⟩, fun U hU hW => ⟨rfl, by rw [hU]; exact hPc, va_K.moved hW.alike hKc⟩⟩ rfl rfl hl.1 rfl (lv_room (Nat.le_of_ble_eq_true rfl)) dX7_longestMatch_7 ⟨Nat.le_of_ble_eq_true rfl, Nat.le_of_ble_eq_true rfl⟩) (fun _ => ?_)
  refine lv_aload_n hx hb dX7_longestMatch_10 rfl (lv_at hl 0 rfl) ?_
  refine va_getN (D := (dC, dI)) (ci := 3) (v := .ref rq) (C := RX3) (T := TX3) (N := 3) hx hb hts (by decide +kernel) hown hK hP 1 rfl rfl 1 (by decide) (va_Nw.use rfl nw0) (fun _ h9 => h9) rfl dX7_longestMatch_11 ?_
  refine lv_iload_n hx hb dX7_longestMatch_14 rfl (lv_at hl 3 rfl) ?_
  have hPc := hP.sub (ws' := [(rq, .inr (5, [.ref rb])), (rb, .inr (0, [.ref rd])), (rd, .inl (cJ, 128, .inr (.inl ft)))]) [4, 5, 6] rfl
  have hKc := hK.sub (tys' := [(cJ, .long)]) [0] rfl
  have hDc := hD.sub (ws' := [(rq, .inr (5, [.ref rb])), (rb, .inr (0, [.ref rd])), (rd, .inl (cJ, 128, .inr (.inl ft)))]) [4, 5, 6] (by decide) rfl
  have hFc := va_free (wc := [(rq, .inr (5, [.ref rb])), (rb, .inr (0, [.ref rd])), (rd, .inl (cJ, 128, .inr (.inl ft)))]) hD hS hA [4, 5, 6] rfl
  refine va_callr (va_runV (As := [.int (nI k)]) (rest := []) ⟨hx, hb, hml, hown, hts⟩ (c_X5_search l dC dI rq rb rd cJ ft (bo fm) k s.heap.size hN.2.1 (by first | assumption | omega)) (cwV 1 hts gX7_longestMatch_X5_search rfl rfl rfl (by decide +kernel) ⟨Nat.le_of_ble_eq_true rfl, Nat.le_of_ble_eq_true rfl⟩) ⟨fun a U g mk q => by obtain ⟨q0, q1, qP, qK, qD⟩ := q; exact ⟨q0, q1, qP, va_K.moved (u := U) (U := U.calling g mk a) (Vm.Alike.refl U.vm) qK, qD⟩, va_recv hKc hPc (ci := 5) (q0 := 0) rfl rfl, fun U hU hW => ⟨rfl, by rw [hU], by rw [hU]; exact hPc, va_K.moved hW.alike hKc, hDc.weaken (fun _ _ _ _ => trivial)⟩⟩ rfl rfl hl.1 rfl (lv_room (Nat.le_of_ble_eq_true rfl)) dX7_longestMatch_15 ⟨Nat.le_of_ble_eq_true rfl, Nat.le_of_ble_eq_true rfl⟩) hS (fun q _ h => hFc q h) hFc (fun u_6 r_7 t9 H1 locs ht hvm hw_5 hB hz1 hk1 hS => ?_)
  obtain ⟨mt_8, pb_9⟩ := u_6
  obtain ⟨hP1, hK1, hD1⟩ := hB
  rw [ht] at hP1
  have hK1 := va_K.moved hvm.symm hK1
  try dsimp only at hw_5 hP1 hK1 hD1
  obtain ⟨hP, hD⟩ := va_join (wr := [(q, .inr (6, [.ref s0, .ref s1, .ref s2])), (s0, .inr (3, [.ref tq, .ref rq, .ref uq])), (tq, .inr (4, [.ref ca, .long sm, .int (oI lo)])), (ca, .inl (cJ, 64, .inr (.inl fc))), (uq, .inr (1, [.ref bm, .ref bs])), (bm, .inr (0, [.ref am])), (am, .inl (cJ, 64, .inr (.inl fm))), (bs, .inr (0, [.ref ap])), (ap, .inl (cJ, 64, .inr (.inl fs)))]) (w1 := [(rq, .inr (5, [.ref rb])), (rb, .inr (0, [.ref rd])), (rd, .inl (cJ, 128, .inr (.inl ft))), (r_7, .inr (2, [.int (oI mt_8), .int (nI pb_9)]))]) hP hD [4, 5, 6] [0, 1, 2, 3, 7, 8, 9, 10, 11] rfl rfl (by decide) (by decide) hk1 hFc hP1 hD1
  generalize H1 = H at hP hS ⊢
  have hP : va_P (dC, dI) vwCl [(q, .inr (6, [.ref s0, .ref s1, .ref s2])), (s0, .inr (3, [.ref tq, .ref rq, .ref uq])), (tq, .inr (4, [.ref ca, .long sm, .int (oI lo)])), (ca, .inl (cJ, 64, .inr (.inl fc))), (uq, .inr (1, [.ref bm, .ref bs])), (bm, .inr (0, [.ref am])), (am, .inl (cJ, 64, .inr (.inl fm))), (bs, .inr (0, [.ref ap])), (ap, .inl (cJ, 64, .inr (.inl fs))), (rq, .inr (5, [.ref rb])), (rb, .inr (0, [.ref rd])), (rd, .inl (cJ, 128, .inr (.inl ft))), (r_7, .inr (2, [.int (oI mt_8), .int (nI pb_9)]))] H := hP
  have hD : va_D A [(q, .inr (6, [.ref s0, .ref s1, .ref s2])), (s0, .inr (3, [.ref tq, .ref rq, .ref uq])), (tq, .inr (4, [.ref ca, .long sm, .int (oI lo)])), (ca, .inl (cJ, 64, .inr (.inl fc))), (uq, .inr (1, [.ref bm, .ref bs])), (bm, .inr (0, [.ref am])), (am, .inl (cJ, 64, .inr (.inl fm))), (bs, .inr (0, [.ref ap])), (ap, .inl (cJ, 64, .inr (.inl fs))), (rq, .inr (5, [.ref rb])), (rb, .inr (0, [.ref rd])), (rd, .inl (cJ, 128, .inr (.inl ft))), (r_7, .inr (2, [.int (oI mt_8), .int (nI pb_9)]))] := hD
  refine W.cs (cells' := 1) (slots' := 2) rfl rfl ?_
  refine va_getN (D := (dC, dI)) (ci := 2) (v := .int (oI mt_8)) (C := RX2) (T := TX2) (N := 2) hx hb hts (by decide +kernel) hown hK hP 12 rfl rfl 0 (by decide) (va_Nw.use rfl nw1) (fun _ h9 => h9) rfl dX7_longestMatch_18 ?_
  have hP9 := hP.sub (ws' := [(q, .inr (6, [.ref s0, .ref s1, .ref s2])), (s0, .inr (3, [.ref tq, .ref rq, .ref uq])), (tq, .inr (4, [.ref ca, .long sm, .int (oI lo)])), (ca, .inl (cJ, 64, .inr (.inl fc))), (rq, .inr (5, [.ref rb])), (rb, .inr (0, [.ref rd])), (rd, .inl (cJ, 128, .inr (.inl ft))), (uq, .inr (1, [.ref bm, .ref bs])), (bm, .inr (0, [.ref am])), (am, .inl (cJ, 64, .inr (.inl fm))), (bs, .inr (0, [.ref ap])), (ap, .inl (cJ, 64, .inr (.inl fs)))]) [0, 1, 2, 3, 9, 10, 11, 4, 5, 6, 7, 8] rfl
  have hD9 := hD.sub (ws' := [(q, .inr (6, [.ref s0, .ref s1, .ref s2])), (s0, .inr (3, [.ref tq, .ref rq, .ref uq])), (tq, .inr (4, [.ref ca, .long sm, .int (oI lo)])), (ca, .inl (cJ, 64, .inr (.inl fc))), (rq, .inr (5, [.ref rb])), (rb, .inr (0, [.ref rd])), (rd, .inl (cJ, 128, .inr (.inl ft))), (uq, .inr (1, [.ref bm, .ref bs])), (bm, .inr (0, [.ref am])), (am, .inl (cJ, 64, .inr (.inl fm))), (bs, .inr (0, [.ref ap])), (ap, .inl (cJ, 64, .inr (.inl fs)))]) [0, 1, 2, 3, 9, 10, 11, 4, 5, 6, 7, 8] (by decide) rfl
  have hK9 := hK.sub (tys' := [(cJ, .long)]) [0] rfl
  exact W.iret (v := oI mt_8) hx hb hr (fun t9 ht hW => ⟨⟨oI mt_8, (), rfl, by rw [← hw_5], by rw [ht]; exact hP9, va_K.moved hW.alike hK9, hD9⟩, hS.F ht⟩) hS.2.2 dX7_longestMatch_21
set_option maxHeartbeats 4000000 in
set_option maxRecDepth 100000 in
/-- probes, set 0 -/
theorem c_X7_probes_0 (l : Launch) (dC : Nat → ClassId) (dI : Nat → Nat → Nat) (q : Nat) (s0 : Nat) (s1 : Nat) (s2 : Nat) (tq : Nat) (ca : Nat) (rq : Nat) (rb : Nat) (rd : Nat) (uq : Nat) (bm : Nat) (am : Nat) (bs : Nat) (ap : Nat) (cJ : ClassId) (fm : Nat → Int64) (fs : Nat → Int64) (ft : Nat → Int64) (fc : Nat → Int64) (sm : Int64) (lo : Option Nat) (k : Nat) (sz : Nat) (hN : NI fm fs ft fc sm lo) (hk : k < 4096) : Met l yX7_probes wsX7_probes ({ frames := 3, cells := 1, slots := 2, locals := 68 }) (va_Pc [.ref q, .int (nI 0), .int (nI k)] (fun U => va_Nw (.fieldLinkNest RX7 112 "SmallNumberSets$NumberSet" "trie" "LSmallNumberSets$Trie;" "SmallNumberSets") U ∧ va_Nw (.fieldLinkNest RX7 131 "SmallNumberSets$MatchSearch" "probed" "I" "SmallNumberSets") U ∧ U.heap.size = sz ∧ va_P (dC, dI) vwCl [(q, .inr (6, [.ref s0, .ref s1, .ref s2])), (s0, .inr (3, [.ref tq, .ref rq, .ref uq])), (tq, .inr (4, [.ref ca, .long sm, .int (oI lo)])), (ca, .inl (cJ, 64, .inr (.inl fc))), (rq, .inr (5, [.ref rb])), (rb, .inr (0, [.ref rd])), (rd, .inl (cJ, 128, .inr (.inl ft))), (uq, .inr (1, [.ref bm, .ref bs])), (bm, .inr (0, [.ref am])), (am, .inl (cJ, 64, .inr (.inl fm))), (bs, .inr (0, [.ref ap])), (ap, .inl (cJ, 64, .inr (.inl fs)))] U.heap ∧ va_K (dC, dI) vwCl [(cJ, .long)] U ∧ va_D (fun _ => True) [(q, .inr (6, [.ref s0, .ref s1, .ref s2])), (s0, .inr (3, [.ref tq, .ref rq, .ref uq])), (tq, .inr (4, [.ref ca, .long sm, .int (oI lo)])), (ca, .inl (cJ, 64, .inr (.inl fc))), (rq, .inr (5, [.ref rb])), (rb, .inr (0, [.ref rd])), (rd, .inl (cJ, 128, .inr (.inl ft))), (uq, .inr (1, [.ref bm, .ref bs])), (bm, .inr (0, [.ref am])), (am, .inl (cJ, 64, .inr (.inl fm))), (bs, .inr (0, [.ref ap])), (ap, .inl (cJ, 64, .inr (.inl fs)))])) (va_Qi (fun (r : Int32) (u : Unit) => r = nI (srch (bo fm) k).2) (fun (u : Unit) (t : State) => va_P (dC, dI) vwCl [(q, .inr (6, [.ref s0, .ref s1, .ref s2])), (s0, .inr (3, [.ref tq, .ref rq, .ref uq])), (tq, .inr (4, [.ref ca, .long sm, .int (oI lo)])), (ca, .inl (cJ, 64, .inr (.inl fc))), (rq, .inr (5, [.ref rb])), (rb, .inr (0, [.ref rd])), (rd, .inl (cJ, 128, .inr (.inl ft))), (uq, .inr (1, [.ref bm, .ref bs])), (bm, .inr (0, [.ref am])), (am, .inl (cJ, 64, .inr (.inl fm))), (bs, .inr (0, [.ref ap])), (ap, .inl (cJ, 64, .inr (.inl fs)))] t.heap ∧ va_K (dC, dI) vwCl [(cJ, .long)] t ∧ va_D (va_A [(q, .inr (6, [.ref s0, .ref s1, .ref s2])), (s0, .inr (3, [.ref tq, .ref rq, .ref uq])), (tq, .inr (4, [.ref ca, .long sm, .int (oI lo)])), (ca, .inl (cJ, 64, .inr (.inl fc))), (rq, .inr (5, [.ref rb])), (rb, .inr (0, [.ref rd])), (rd, .inl (cJ, 128, .inr (.inl ft))), (uq, .inr (1, [.ref bm, .ref bs])), (bm, .inr (0, [.ref am])), (am, .inl (cJ, 64, .inr (.inl fm))), (bs, .inr (0, [.ref ap])), (ap, .inl (cJ, 64, .inr (.inl fs)))] sz) [(q, .inr (6, [.ref s0, .ref s1, .ref s2])), (s0, .inr (3, [.ref tq, .ref rq, .ref uq])), (tq, .inr (4, [.ref ca, .long sm, .int (oI lo)])), (ca, .inl (cJ, 64, .inr (.inl fc))), (rq, .inr (5, [.ref rb])), (rb, .inr (0, [.ref rd])), (rd, .inl (cJ, 128, .inr (.inl ft))), (uq, .inr (1, [.ref bm, .ref bs])), (bm, .inr (0, [.ref am])), (am, .inl (cJ, 64, .inr (.inl fm))), (bs, .inr (0, [.ref ap])), (ap, .inl (cJ, 64, .inr (.inl fs)))]) (va_A [(q, .inr (6, [.ref s0, .ref s1, .ref s2])), (s0, .inr (3, [.ref tq, .ref rq, .ref uq])), (tq, .inr (4, [.ref ca, .long sm, .int (oI lo)])), (ca, .inl (cJ, 64, .inr (.inl fc))), (rq, .inr (5, [.ref rb])), (rb, .inr (0, [.ref rd])), (rd, .inl (cJ, 128, .inr (.inl ft))), (uq, .inr (1, [.ref bm, .ref bs])), (bm, .inr (0, [.ref am])), (am, .inl (cJ, 64, .inr (.inl fm))), (bs, .inr (0, [.ref ap])), (ap, .inl (cJ, 64, .inr (.inl fs)))] sz)) 1 2 (va_A [(q, .inr (6, [.ref s0, .ref s1, .ref s2])), (s0, .inr (3, [.ref tq, .ref rq, .ref uq])), (tq, .inr (4, [.ref ca, .long sm, .int (oI lo)])), (ca, .inl (cJ, 64, .inr (.inl fc))), (rq, .inr (5, [.ref rb])), (rb, .inr (0, [.ref rd])), (rd, .inl (cJ, 128, .inr (.inl ft))), (uq, .inr (1, [.ref bm, .ref bs])), (bm, .inr (0, [.ref am])), (am, .inl (cJ, 64, .inr (.inl fm))), (bs, .inr (0, [.ref ap])), (ap, .inl (cJ, 64, .inr (.inl fs)))] sz) := by
  refine Met.ofW (cc := cX7_probes) (maxL := 4) (ret := (some .int)) (by decide) rfl ?_
  intro p e s m args below meth c s₁ B hml hv
  obtain ⟨rfl, nw0, nw1, hsz, hP, hK, hD0⟩ := hv
  have hx := B.exec
  have hb := B.bytes
  have hr := B.returns
  have hts := atoms_spec (ws := wsX7_probes) B.pre
  have hown : s.vm.findClass RX7 = some m.cls := findClass_of_methodNamed B.named
  have hlocks := B.notSynchronized
  subst hsz
  have hD := hD0.self (sz := s.heap.size)
  generalize hAe : va_A [(q, .inr (6, [.ref s0, .ref s1, .ref s2])), (s0, .inr (3, [.ref tq, .ref rq, .ref uq])), (tq, .inr (4, [.ref ca, .long sm, .int (oI lo)])), (ca, .inl (cJ, 64, .inr (.inl fc))), (rq, .inr (5, [.ref rb])), (rb, .inr (0, [.ref rd])), (rd, .inl (cJ, 128, .inr (.inl ft))), (uq, .inr (1, [.ref bm, .ref bs])), (bm, .inr (0, [.ref am])), (am, .inl (cJ, 64, .inr (.inl fm))), (bs, .inr (0, [.ref ap])), (ap, .inl (cJ, 64, .inr (.inl fs)))] s.heap.size = A at hD ⊢
  have hA : ∀ q : Nat, s.heap.size ≤ q → A q := fun q h => by rw [← hAe]; exact Or.inr h
  have hS : va_S A s.heap s.heap [] := va_S.rf
  have hP : va_P (dC, dI) vwCl [(q, .inr (6, [.ref s0, .ref s1, .ref s2])), (s0, .inr (3, [.ref tq, .ref rq, .ref uq])), (tq, .inr (4, [.ref ca, .long sm, .int (oI lo)])), (ca, .inl (cJ, 64, .inr (.inl fc))), (rq, .inr (5, [.ref rb])), (rb, .inr (0, [.ref rd])), (rd, .inl (cJ, 128, .inr (.inl ft))), (uq, .inr (1, [.ref bm, .ref bs])), (bm, .inr (0, [.ref am])), (am, .inl (cJ, 64, .inr (.inl fm))), (bs, .inr (0, [.ref ap])), (ap, .inl (cJ, 64, .inr (.inl fs)))] s.heap := hP
  have hl := lv_entry ([.ref q, .int (nI 0), .int (nI k)]) (n := 4) (Nat.le_of_ble_eq_true rfl)
  rw [lg_entry_eq]
  generalize (lg_sl ([.ref q, .int (nI 0), .int (nI k)]) ++ List.replicate (4 - (lg_sl ([.ref q, .int (nI 0), .int (nI k)])).length) Slot.unset).toArray = ls at hl ⊢
  have hl : lv_has ls 4 [(0, .ref q), (1, .int (nI 0)), (2, .int (nI k))] := hl
  refine lv_aload_n hx hb dX7_probes_0 rfl (lv_at hl 0 rfl) ?_
  refine lv_iload_n hx hb dX7_probes_1 rfl (lv_at hl 1 rfl) ?_
  have hPc := hP.sub (ws' := [(q, .inr (6, [.ref s0, .ref s1, .ref s2]))]) [0] rfl
  have hKc := hK.sub (tys' := []) [] rfl
  refine va_csr (W.runV (As := [.int (nI 0)]) (rest := []) ⟨hx, hb, hml, hown, hts⟩ (c_X7_chosenSet_0 l dC dI q s0 s1 s2 ) (cwV 1 hts gX7_probes_X7_chosenSet rfl rfl rfl (by decide +kernel) ⟨Nat.le_of_ble_eq_true rfl, Nat.le_of_ble_eq_true rfl⟩) ⟨fun a U g mk q => by obtain ⟨q0, qP, qK⟩ := q; exact ⟨q0, qP, va_K.moved (u := U) (U := U.calling g mk a) (Vm.Alike.refl U.vm) qK⟩, va_recv hKc hPc (ci := 6) (q0 := 0) rfl rfl, fun U hU hW => ⟨rfl, by rw [hU]; exact hPc, va_K.moved hW.alike hKc⟩⟩ rfl rfl hl.1 rfl (lv_room (Nat.le_of_ble_eq_true rfl)) dX7_probes_2 ⟨Nat.le_of_ble_eq_true rfl, Nat.le_of_ble_eq_true rfl⟩) (fun r_2 hw_1 => ?_)
  have hw_1 := hw_1.symm
  subst hw_1
  refine lv_astore_n (lv' := [(3, .ref s0), (0, .ref q), (1, .int (nI 0)), (2, .int (nI k))]) hx hb dX7_probes_5 rfl hl (by decide) rfl (fun ls hl => ?_)
  refine lv_iload_n hx hb dX7_probes_6 rfl (lv_at hl 3 rfl) ?_
  have hPc := hP.sub (ws' := []) [] rfl
  have hKc := hK.sub (tys' := []) [] rfl
  refine va_csv (W.runS (As := [.int (nI k)]) (rest := []) ⟨hx, hb, hml, hown, hts⟩ (c_X7_needNumber l dC dI k (by first | assumption | omega)) (va_cwS 1 hts gX7_probes_X7_needNumber rfl rfl rfl (by decide +kernel) ⟨Nat.le_of_ble_eq_true rfl, Nat.le_of_ble_eq_true rfl⟩) ⟨fun a U g mk q => by obtain ⟨q0, qP, qK⟩ := q; exact ⟨q0, qP, va_K.moved (u := U) (U := U.calling g mk a) (Vm.Alike.refl U.vm) qK⟩, fun U hU hW => ⟨rfl, by rw [hU]; exact hPc, va_K.moved hW.alike hKc⟩⟩ rfl rfl hl.1 rfl (lv_room (Nat.le_of_ble_eq_true rfl)) dX7_probes_7 ⟨Nat.le_of_ble_eq_true rfl, Nat.le_of_ble_eq_true rfl⟩) (fun _ => ?_)
  refine lv_aload_n hx hb dX7_probes_10 rfl (lv_at hl 0 rfl) ?_
  refine va_getN (D := (dC, dI)) (ci := 3) (v := .ref rq) (C := RX3) (T := TX3) (N := 3) hx hb hts (by decide +kernel) hown hK hP 1 rfl rfl 1 (by decide) (va_Nw.use rfl nw0) (fun _ h9 => h9) rfl dX7_probes_11 ?_
  refine lv_iload_n hx hb dX7_probes_14 rfl (lv_at hl 3 rfl) ?_
  have hPc := hP.sub (ws' := [(rq, .inr (5, [.ref rb])), (rb, .inr (0, [.ref rd])), (rd, .inl (cJ, 128, .inr (.inl ft)))]) [4, 5, 6] rfl
  have hKc := hK.sub (tys' := [(cJ, .long)]) [0] rfl
  have hDc := hD.sub (ws' := [(rq, .inr (5, [.ref rb])), (rb, .inr (0, [.ref rd])), (rd, .inl (cJ, 128, .inr (.inl ft)))]) [4, 5, 6] (by decide) rfl
  have hFc := va_free (wc := [(rq, .inr (5, [.ref rb])), (rb, .inr (0, [.ref rd])), (rd, .inl (cJ, 128, .inr (.inl ft)))]) hD hS hA [4, 5, 6] rfl
  refine va_callr (va_runV (As := [.int (nI k)]) (rest := []) ⟨hx, hb, hml, hown, hts⟩ (c_X5_search l dC dI rq rb rd cJ ft (bo fm) k s.heap.size hN.2.1 (by first | assumption | omega)) (cwV 1 hts gX7_probes_X5_search rfl rfl rfl (by decide +kernel) ⟨Nat.le_of_ble_eq_true rfl, Nat.le_of_ble_eq_true rfl⟩) ⟨fun a U g mk q => by obtain ⟨q0, q1, qP, qK, qD⟩ := q; exact ⟨q0, q1, qP, va_K.moved (u := U) (U := U.calling g mk a) (Vm.Alike.refl U.vm) qK, qD⟩, va_recv hKc hPc (ci := 5) (q0 := 0) rfl rfl, fun U hU hW => ⟨rfl, by rw [hU], by rw [hU]; exact hPc, va_K.moved hW.alike hKc, hDc.weaken (fun _ _ _ _ => trivial)⟩⟩ rfl rfl hl.1 rfl (lv_room (Nat.le_of_ble_eq_true rfl)) dX7_probes_15 ⟨Nat.le_of_ble_eq_true rfl, Nat.le_of_ble_eq_true rfl⟩) hS (fun q _ h => hFc q h) hFc (fun u_6 r_7 t9 H1 locs ht hvm hw_5 hB hz1 hk1 hS => ?_)
  obtain ⟨mt_8, pb_9⟩ := u_6
  obtain ⟨hP1, hK1, hD1⟩ := hB
  rw [ht] at hP1
  have hK1 := va_K.moved hvm.symm hK1
  try dsimp only at hw_5 hP1 hK1 hD1
  obtain ⟨hP, hD⟩ := va_join (wr := [(q, .inr (6, [.ref s0, .ref s1, .ref s2])), (s0, .inr (3, [.ref tq, .ref rq, .ref uq])), (tq, .inr (4, [.ref ca, .long sm, .int (oI lo)])), (ca, .inl (cJ, 64, .inr (.inl fc))), (uq, .inr (1, [.ref bm, .ref bs])), (bm, .inr (0, [.ref am])), (am, .inl (cJ, 64, .inr (.inl fm))), (bs, .inr (0, [.ref ap])), (ap, .inl (cJ, 64, .inr (.inl fs)))]) (w1 := [(rq, .inr (5, [.ref rb])), (rb, .inr (0, [.ref rd])), (rd, .inl (cJ, 128, .inr (.inl ft))), (r_7, .inr (2, [.int (oI mt_8), .int (nI pb_9)]))]) hP hD [4, 5, 6] [0, 1, 2, 3, 7, 8, 9, 10, 11] rfl rfl (by decide) (by decide) hk1 hFc hP1 hD1
  generalize H1 = H at hP hS ⊢
  have hP : va_P (dC, dI) vwCl [(q, .inr (6, [.ref s0, .ref s1, .ref s2])), (s0, .inr (3, [.ref tq, .ref rq, .ref uq])), (tq, .inr (4, [.ref ca, .long sm, .int (oI lo)])), (ca, .inl (cJ, 64, .inr (.inl fc))), (uq, .inr (1, [.ref bm, .ref bs])), (bm, .inr (0, [.ref am])), (am, .inl (cJ, 64, .inr (.inl fm))), (bs, .inr (0, [.ref ap])), (ap, .inl (cJ, 64, .inr (.inl fs))), (rq, .inr (5, [.ref rb])), (rb, .inr (0, [.ref rd])), (rd, .inl (cJ, 128, .inr (.inl ft))), (r_7, .inr (2, [.int (oI mt_8), .int (nI pb_9)]))] H := hP
  have hD : va_D A [(q, .inr (6, [.ref s0, .ref s1, .ref s2])), (s0, .inr (3, [.ref tq, .ref rq, .ref uq])), (tq, .inr (4, [.ref ca, .long sm, .int (oI lo)])), (ca, .inl (cJ, 64, .inr (.inl fc))), (uq, .inr (1, [.ref bm, .ref bs])), (bm, .inr (0, [.ref am])), (am, .inl (cJ, 64, .inr (.inl fm))), (bs, .inr (0, [.ref ap])), (ap, .inl (cJ, 64, .inr (.inl fs))), (rq, .inr (5, [.ref rb])), (rb, .inr (0, [.ref rd])), (rd, .inl (cJ, 128, .inr (.inl ft))), (r_7, .inr (2, [.int (oI mt_8), .int (nI pb_9)]))] := hD
  refine W.cs (cells' := 1) (slots' := 2) rfl rfl ?_
  refine va_getN (D := (dC, dI)) (ci := 2) (v := .int (nI pb_9)) (C := RX2) (T := TX2) (N := 2) hx hb hts (by decide +kernel) hown hK hP 12 rfl rfl 1 (by decide) (va_Nw.use rfl nw1) (fun _ h9 => h9) rfl dX7_probes_18 ?_
  have hP9 := hP.sub (ws' := [(q, .inr (6, [.ref s0, .ref s1, .ref s2])), (s0, .inr (3, [.ref tq, .ref rq, .ref uq])), (tq, .inr (4, [.ref ca, .long sm, .int (oI lo)])), (ca, .inl (cJ, 64, .inr (.inl fc))), (rq, .inr (5, [.ref rb])), (rb, .inr (0, [.ref rd])), (rd, .inl (cJ, 128, .inr (.inl ft))), (uq, .inr (1, [.ref bm, .ref bs])), (bm, .inr (0, [.ref am])), (am, .inl (cJ, 64, .inr (.inl fm))), (bs, .inr (0, [.ref ap])), (ap, .inl (cJ, 64, .inr (.inl fs)))]) [0, 1, 2, 3, 9, 10, 11, 4, 5, 6, 7, 8] rfl
  have hD9 := hD.sub (ws' := [(q, .inr (6, [.ref s0, .ref s1, .ref s2])), (s0, .inr (3, [.ref tq, .ref rq, .ref uq])), (tq, .inr (4, [.ref ca, .long sm, .int (oI lo)])), (ca, .inl (cJ, 64, .inr (.inl fc))), (rq, .inr (5, [.ref rb])), (rb, .inr (0, [.ref rd])), (rd, .inl (cJ, 128, .inr (.inl ft))), (uq, .inr (1, [.ref bm, .ref bs])), (bm, .inr (0, [.ref am])), (am, .inl (cJ, 64, .inr (.inl fm))), (bs, .inr (0, [.ref ap])), (ap, .inl (cJ, 64, .inr (.inl fs)))]) [0, 1, 2, 3, 9, 10, 11, 4, 5, 6, 7, 8] (by decide) rfl
  have hK9 := hK.sub (tys' := [(cJ, .long)]) [0] rfl
  exact W.iret (v := nI pb_9) hx hb hr (fun t9 ht hW => ⟨⟨nI pb_9, (), rfl, by rw [← hw_5], by rw [ht]; exact hP9, va_K.moved hW.alike hK9, hD9⟩, hS.F ht⟩) hS.2.2 dX7_probes_21
set_option maxHeartbeats 4000000 in
set_option maxRecDepth 100000 in
/-- buckets, set 0 -/
theorem c_X7_buckets_0 (l : Launch) (dC : Nat → ClassId) (dI : Nat → Nat → Nat) (q : Nat) (s0 : Nat) (s1 : Nat) (s2 : Nat) (tq : Nat) (ca : Nat) (rq : Nat) (rb : Nat) (rd : Nat) (uq : Nat) (bm : Nat) (am : Nat) (bs : Nat) (ap : Nat) (cJ : ClassId) (fm : Nat → Int64) (fs : Nat → Int64) (ft : Nat → Int64) (fc : Nat → Int64) (sm : Int64) (lo : Option Nat) (hN : NI fm fs ft fc sm lo) : Met l yX7_buckets wsX7_buckets ({ frames := 3, cells := 0, slots := 0, locals := 65 }) (va_Pc [.ref q, .int (nI 0)] (fun U => va_Nw (.fieldLinkNest RX7 38 "SmallNumberSets$NumberSet" "buckets" "LSmallNumberSets$Buckets;" "SmallNumberSets") U ∧ va_P (dC, dI) vwCl [(q, .inr (6, [.ref s0, .ref s1, .ref s2])), (s0, .inr (3, [.ref tq, .ref rq, .ref uq])), (tq, .inr (4, [.ref ca, .long sm, .int (oI lo)])), (ca, .inl (cJ, 64, .inr (.inl fc))), (rq, .inr (5, [.ref rb])), (rb, .inr (0, [.ref rd])), (rd, .inl (cJ, 128, .inr (.inl ft))), (uq, .inr (1, [.ref bm, .ref bs])), (bm, .inr (0, [.ref am])), (am, .inl (cJ, 64, .inr (.inl fm))), (bs, .inr (0, [.ref ap])), (ap, .inl (cJ, 64, .inr (.inl fs)))] U.heap ∧ va_K (dC, dI) vwCl [(cJ, .long)] U)) (vp_Si (fun r => r = nI (fb_ct (bo fs) 4096))) 0 0 (fun _ => False) := by
  refine Met.ofW (cc := cX7_buckets) (maxL := 2) (ret := (some .int)) (by decide) rfl ?_
  intro p e s m args below meth c s₁ B hml hv
  obtain ⟨rfl, nw0, hP, hK⟩ := hv
  have hx := B.exec
  have hb := B.bytes
  have hr := B.returns
  have hts := atoms_spec (ws := wsX7_buckets) B.pre
  have hown : s.vm.findClass RX7 = some m.cls := findClass_of_methodNamed B.named
  have hlocks := B.notSynchronized
  have hP : va_P (dC, dI) vwCl [(q, .inr (6, [.ref s0, .ref s1, .ref s2])), (s0, .inr (3, [.ref tq, .ref rq, .ref uq])), (tq, .inr (4, [.ref ca, .long sm, .int (oI lo)])), (ca, .inl (cJ, 64, .inr (.inl fc))), (rq, .inr (5, [.ref rb])), (rb, .inr (0, [.ref rd])), (rd, .inl (cJ, 128, .inr (.inl ft))), (uq, .inr (1, [.ref bm, .ref bs])), (bm, .inr (0, [.ref am])), (am, .inl (cJ, 64, .inr (.inl fm))), (bs, .inr (0, [.ref ap])), (ap, .inl (cJ, 64, .inr (.inl fs)))] s.heap := hP
  have hl := lv_entry ([.ref q, .int (nI 0)]) (n := 2) (Nat.le_of_ble_eq_true rfl)
  rw [lg_entry_eq]
  generalize (lg_sl ([.ref q, .int (nI 0)]) ++ List.replicate (2 - (lg_sl ([.ref q, .int (nI 0)])).length) Slot.unset).toArray = ls at hl ⊢
  have hl : lv_has ls 2 [(0, .ref q), (1, .int (nI 0))] := hl
  refine lv_aload_n hx hb dX7_buckets_0 rfl (lv_at hl 0 rfl) ?_
  refine lv_iload_n hx hb dX7_buckets_1 rfl (lv_at hl 1 rfl) ?_
  have hPc := hP.sub (ws' := [(q, .inr (6, [.ref s0, .ref s1, .ref s2]))]) [0] rfl
  have hKc := hK.sub (tys' := []) [] rfl
  refine va_csr (W.runV (As := [.int (nI 0)]) (rest := []) ⟨hx, hb, hml, hown, hts⟩ (c_X7_chosenSet_0 l dC dI q s0 s1 s2 ) (cwV 1 hts gX7_buckets_X7_chosenSet rfl rfl rfl (by decide +kernel) ⟨Nat.le_of_ble_eq_true rfl, Nat.le_of_ble_eq_true rfl⟩) ⟨fun a U g mk q => by obtain ⟨q0, qP, qK⟩ := q; exact ⟨q0, qP, va_K.moved (u := U) (U := U.calling g mk a) (Vm.Alike.refl U.vm) qK⟩, va_recv hKc hPc (ci := 6) (q0 := 0) rfl rfl, fun U hU hW => ⟨rfl, by rw [hU]; exact hPc, va_K.moved hW.alike hKc⟩⟩ rfl rfl hl.1 rfl (lv_room (Nat.le_of_ble_eq_true rfl)) dX7_buckets_2 ⟨Nat.le_of_ble_eq_true rfl, Nat.le_of_ble_eq_true rfl⟩) (fun r_2 hw_1 => ?_)
  have hw_1 := hw_1.symm
  subst hw_1
  refine va_getN (D := (dC, dI)) (ci := 3) (v := .ref uq) (C := RX3) (T := TX3) (N := 3) hx hb hts (by decide +kernel) hown hK hP 1 rfl rfl 2 (by decide) (va_Nw.use rfl nw0) (fun _ h9 => h9) rfl dX7_buckets_5 ?_
  have hPc := hP.sub (ws' := [(uq, .inr (1, [.ref bm, .ref bs])), (bm, .inr (0, [.ref am])), (am, .inl (cJ, 64, .inr (.inl fm))), (bs, .inr (0, [.ref ap])), (ap, .inl (cJ, 64, .inr (.inl fs)))]) [7, 8, 9, 10, 11] rfl
  have hKc := hK.sub (tys' := [(cJ, .long)]) [0] rfl
  refine vp_callSi (W.runV (As := []) (rest := []) ⟨hx, hb, hml, hown, hts⟩ (c_X1_bucketCount l dC dI uq bm am bs ap cJ fm fs ) (cwV 0 hts gX7_buckets_X1_bucketCount rfl rfl rfl (by decide +kernel) ⟨Nat.le_of_ble_eq_true rfl, Nat.le_of_ble_eq_true rfl⟩) ⟨fun a U g mk q => by obtain ⟨q0, qP, qK⟩ := q; exact ⟨q0, qP, va_K.moved (u := U) (U := U.calling g mk a) (Vm.Alike.refl U.vm) qK⟩, va_recv hKc hPc (ci := 1) (q0 := 0) rfl rfl, fun U hU hW => ⟨rfl, by rw [hU]; exact hPc, va_K.moved hW.alike hKc⟩⟩ rfl rfl hl.1 rfl (lv_room (Nat.le_of_ble_eq_true rfl)) dX7_buckets_8 ⟨Nat.le_of_ble_eq_true rfl, Nat.le_of_ble_eq_true rfl⟩) (fun r_4 hw_3 => ?_)
  subst hw_3
  exact W.iret (v := nI (fb_ct (bo fs) 4096)) hx hb hr (fun t9 ht hW => ⟨nI (fb_ct (bo fs) 4096), rfl, rfl, ht⟩) (fun q h => by cases h) dX7_buckets_11
set_option maxHeartbeats 4000000 in
set_option maxRecDepth 100000 in
/-- bucketSize, set 0 -/
theorem c_X7_bucketSize_0 (l : Launch) (dC : Nat → ClassId) (dI : Nat → Nat → Nat) (q : Nat) (s0 : Nat) (s1 : Nat) (s2 : Nat) (tq : Nat) (ca : Nat) (rq : Nat) (rb : Nat) (rd : Nat) (uq : Nat) (bm : Nat) (am : Nat) (bs : Nat) (ap : Nat) (cJ : ClassId) (fm : Nat → Int64) (fs : Nat → Int64) (ft : Nat → Int64) (fc : Nat → Int64) (sm : Int64) (lo : Option Nat) (k : Nat) (hN : NI fm fs ft fc sm lo) (hk : k < fb_ct (bo fs) 4096) : Met l yX7_bucketSize wsX7_bucketSize ({ frames := 4, cells := 0, slots := 0, locals := 92 }) (va_Pc [.ref q, .int (nI 0), .int (nI k)] (fun U => va_Nw (.fieldLinkNest RX7 38 "SmallNumberSets$NumberSet" "buckets" "LSmallNumberSets$Buckets;" "SmallNumberSets") U ∧ va_P (dC, dI) vwCl [(q, .inr (6, [.ref s0, .ref s1, .ref s2])), (s0, .inr (3, [.ref tq, .ref rq, .ref uq])), (tq, .inr (4, [.ref ca, .long sm, .int (oI lo)])), (ca, .inl (cJ, 64, .inr (.inl fc))), (rq, .inr (5, [.ref rb])), (rb, .inr (0, [.ref rd])), (rd, .inl (cJ, 128, .inr (.inl ft))), (uq, .inr (1, [.ref bm, .ref bs])), (bm, .inr (0, [.ref am])), (am, .inl (cJ, 64, .inr (.inl fm))), (bs, .inr (0, [.ref ap])), (ap, .inl (cJ, 64, .inr (.inl fs)))] U.heap ∧ va_K (dC, dI) vwCl [(cJ, .long)] U)) (vp_Si (fun r => r = nI (heldc (bo fm) (bo fs) (sp (bo fs) k)))) 0 0 (fun _ => False) := by
  refine Met.ofW (cc := cX7_bucketSize) (maxL := 4) (ret := (some .int)) (by decide) rfl ?_
  intro p e s m args below meth c s₁ B hml hv
  obtain ⟨rfl, nw0, hP, hK⟩ := hv
  have hx := B.exec
  have hb := B.bytes
  have hr := B.returns
  have hts := atoms_spec (ws := wsX7_bucketSize) B.pre
  have hown : s.vm.findClass RX7 = some m.cls := findClass_of_methodNamed B.named
  have hlocks := B.notSynchronized
  have hP : va_P (dC, dI) vwCl [(q, .inr (6, [.ref s0, .ref s1, .ref s2])), (s0, .inr (3, [.ref tq, .ref rq, .ref uq])), (tq, .inr (4, [.ref ca, .long sm, .int (oI lo)])), (ca, .inl (cJ, 64, .inr (.inl fc))), (rq, .inr (5, [.ref rb])), (rb, .inr (0, [.ref rd])), (rd, .inl (cJ, 128, .inr (.inl ft))), (uq, .inr (1, [.ref bm, .ref bs])), (bm, .inr (0, [.ref am])), (am, .inl (cJ, 64, .inr (.inl fm))), (bs, .inr (0, [.ref ap])), (ap, .inl (cJ, 64, .inr (.inl fs)))] s.heap := hP
  have hl := lv_entry ([.ref q, .int (nI 0), .int (nI k)]) (n := 4) (Nat.le_of_ble_eq_true rfl)
  rw [lg_entry_eq]
  generalize (lg_sl ([.ref q, .int (nI 0), .int (nI k)]) ++ List.replicate (4 - (lg_sl ([.ref q, .int (nI 0), .int (nI k)])).length) Slot.unset).toArray = ls at hl ⊢
  have hl : lv_has ls 4 [(0, .ref q), (1, .int (nI 0)), (2, .int (nI k))] := hl
  have hcb := fb_ct_le (bo fm) 4096
  have hcs := fb_ct_le (bo fs) 4096
  obtain ⟨hs1, hs2, -, -⟩ := sp_lt hk
  refine lv_aload_n hx hb dX7_bucketSize_0 rfl (lv_at hl 0 rfl) ?_
  refine lv_iload_n hx hb dX7_bucketSize_1 rfl (lv_at hl 1 rfl) ?_
  have hPc := hP.sub (ws' := [(q, .inr (6, [.ref s0, .ref s1, .ref s2]))]) [0] rfl
  have hKc := hK.sub (tys' := []) [] rfl
  refine va_csr (W.runV (As := [.int (nI 0)]) (rest := []) ⟨hx, hb, hml, hown, hts⟩ (c_X7_chosenSet_0 l dC dI q s0 s1 s2 ) (cwV 1 hts gX7_bucketSize_X7_chosenSet rfl rfl rfl (by decide +kernel) ⟨Nat.le_of_ble_eq_true rfl, Nat.le_of_ble_eq_true rfl⟩) ⟨fun a U g mk q => by obtain ⟨q0, qP, qK⟩ := q; exact ⟨q0, qP, va_K.moved (u := U) (U := U.calling g mk a) (Vm.Alike.refl U.vm) qK⟩, va_recv hKc hPc (ci := 6) (q0 := 0) rfl rfl, fun U hU hW => ⟨rfl, by rw [hU]; exact hPc, va_K.moved hW.alike hKc⟩⟩ rfl rfl hl.1 rfl (lv_room (Nat.le_of_ble_eq_true rfl)) dX7_bucketSize_2 ⟨Nat.le_of_ble_eq_true rfl, Nat.le_of_ble_eq_true rfl⟩) (fun r_2 hw_1 => ?_)
  have hw_1 := hw_1.symm
  subst hw_1
  refine lv_astore_n (lv' := [(3, .ref s0), (0, .ref q), (1, .int (nI 0)), (2, .int (nI k))]) hx hb dX7_bucketSize_5 rfl hl (by decide) rfl (fun ls hl => ?_)
  refine lv_iload_n hx hb dX7_bucketSize_6 rfl (lv_at hl 3 rfl) ?_
  refine lv_aload_n hx hb dX7_bucketSize_7 rfl (lv_at hl 0 rfl) ?_
  refine va_getN (D := (dC, dI)) (ci := 3) (v := .ref uq) (C := RX3) (T := TX3) (N := 3) hx hb hts (by decide +kernel) hown hK hP 1 rfl rfl 2 (by decide) (va_Nw.use rfl nw0) (fun _ h9 => h9) rfl dX7_bucketSize_8 ?_
  have hPc := hP.sub (ws' := [(uq, .inr (1, [.ref bm, .ref bs])), (bm, .inr (0, [.ref am])), (am, .inl (cJ, 64, .inr (.inl fm))), (bs, .inr (0, [.ref ap])), (ap, .inl (cJ, 64, .inr (.inl fs)))]) [7, 8, 9, 10, 11] rfl
  have hKc := hK.sub (tys' := [(cJ, .long)]) [0] rfl
  refine vp_callSi (W.runV (As := []) (rest := [.int (nI k)]) ⟨hx, hb, hml, hown, hts⟩ (c_X1_bucketCount l dC dI uq bm am bs ap cJ fm fs ) (cwV 0 hts gX7_bucketSize_X1_bucketCount rfl rfl rfl (by decide +kernel) ⟨Nat.le_of_ble_eq_true rfl, Nat.le_of_ble_eq_true rfl⟩) ⟨fun a U g mk q => by obtain ⟨q0, qP, qK⟩ := q; exact ⟨q0, qP, va_K.moved (u := U) (U := U.calling g mk a) (Vm.Alike.refl U.vm) qK⟩, va_recv hKc hPc (ci := 1) (q0 := 0) rfl rfl, fun U hU hW => ⟨rfl, by rw [hU]; exact hPc, va_K.moved hW.alike hKc⟩⟩ rfl rfl hl.1 rfl (lv_room (Nat.le_of_ble_eq_true rfl)) dX7_bucketSize_11 ⟨Nat.le_of_ble_eq_true rfl, Nat.le_of_ble_eq_true rfl⟩) (fun r_4 hw_3 => ?_)
  subst hw_3
  have hPc := hP.sub (ws' := []) [] rfl
  have hKc := hK.sub (tys' := []) [] rfl
  refine va_csv (W.runS (As := [.int (nI k), .int (nI (fb_ct (bo fs) 4096))]) (rest := []) ⟨hx, hb, hml, hown, hts⟩ (c_X7_needPlace l dC dI k (fb_ct (bo fs) 4096) (by first | assumption | omega) (by first | assumption | omega)) (va_cwS 2 hts gX7_bucketSize_X7_needPlace rfl rfl rfl (by decide +kernel) ⟨Nat.le_of_ble_eq_true rfl, Nat.le_of_ble_eq_true rfl⟩) ⟨fun a U g mk q => by obtain ⟨q0, qP, qK⟩ := q; exact ⟨q0, qP, va_K.moved (u := U) (U := U.calling g mk a) (Vm.Alike.refl U.vm) qK⟩, fun U hU hW => ⟨rfl, by rw [hU]; exact hPc, va_K.moved hW.alike hKc⟩⟩ rfl rfl hl.1 rfl (lv_room (Nat.le_of_ble_eq_true rfl)) dX7_bucketSize_14 ⟨Nat.le_of_ble_eq_true rfl, Nat.le_of_ble_eq_true rfl⟩) (fun _ => ?_)
  refine lv_aload_n hx hb dX7_bucketSize_17 rfl (lv_at hl 0 rfl) ?_
  refine va_getN (D := (dC, dI)) (ci := 3) (v := .ref uq) (C := RX3) (T := TX3) (N := 3) hx hb hts (by decide +kernel) hown hK hP 1 rfl rfl 2 (by decide) (va_Nw.use rfl nw0) (fun _ h9 => h9) rfl dX7_bucketSize_18 ?_
  refine lv_aload_n hx hb dX7_bucketSize_21 rfl (lv_at hl 0 rfl) ?_
  refine va_getN (D := (dC, dI)) (ci := 3) (v := .ref uq) (C := RX3) (T := TX3) (N := 3) hx hb hts (by decide +kernel) hown hK hP 1 rfl rfl 2 (by decide) (va_Nw.use rfl nw0) (fun _ h9 => h9) rfl dX7_bucketSize_22 ?_
  refine lv_iload_n hx hb dX7_bucketSize_25 rfl (lv_at hl 3 rfl) ?_
  have hPc := hP.sub (ws' := [(uq, .inr (1, [.ref bm, .ref bs])), (bm, .inr (0, [.ref am])), (am, .inl (cJ, 64, .inr (.inl fm))), (bs, .inr (0, [.ref ap])), (ap, .inl (cJ, 64, .inr (.inl fs)))]) [7, 8, 9, 10, 11] rfl
  have hKc := hK.sub (tys' := [(cJ, .long)]) [0] rfl
  refine vp_callSi (W.runV (As := [.int (nI k)]) (rest := [.ref uq]) ⟨hx, hb, hml, hown, hts⟩ (c_X1_separatorAt l dC dI uq bm am bs ap cJ fm fs k (by first | assumption | omega)) (cwV 1 hts gX7_bucketSize_X1_separatorAt rfl rfl rfl (by decide +kernel) ⟨Nat.le_of_ble_eq_true rfl, Nat.le_of_ble_eq_true rfl⟩) ⟨fun a U g mk q => by obtain ⟨q0, qP, qK⟩ := q; exact ⟨q0, qP, va_K.moved (u := U) (U := U.calling g mk a) (Vm.Alike.refl U.vm) qK⟩, va_recv hKc hPc (ci := 1) (q0 := 0) rfl rfl, fun U hU hW => ⟨rfl, by rw [hU]; exact hPc, va_K.moved hW.alike hKc⟩⟩ rfl rfl hl.1 rfl (lv_room (Nat.le_of_ble_eq_true rfl)) dX7_bucketSize_26 ⟨Nat.le_of_ble_eq_true rfl, Nat.le_of_ble_eq_true rfl⟩) (fun r_8 hw_7 => ?_)
  subst hw_7
  refine lv_cvi (congrArg oI hs1) ?_
  refine lv_cvi ((rfl : oI (some (sp (bo fs) k)) = nI (sp (bo fs) k))) ?_
  have hPc := hP.sub (ws' := [(uq, .inr (1, [.ref bm, .ref bs])), (bm, .inr (0, [.ref am])), (am, .inl (cJ, 64, .inr (.inl fm))), (bs, .inr (0, [.ref ap])), (ap, .inl (cJ, 64, .inr (.inl fs)))]) [7, 8, 9, 10, 11] rfl
  have hKc := hK.sub (tys' := [(cJ, .long)]) [0] rfl
  refine vp_callSi (W.runV (As := [.int (nI (sp (bo fs) k))]) (rest := []) ⟨hx, hb, hml, hown, hts⟩ (c_X1_membersFrom l dC dI uq bm am bs ap cJ fm fs (sp (bo fs) k) (by first | assumption | omega)) (cwV 1 hts gX7_bucketSize_X1_membersFrom rfl rfl rfl (by decide +kernel) ⟨Nat.le_of_ble_eq_true rfl, Nat.le_of_ble_eq_true rfl⟩) ⟨fun a U g mk q => by obtain ⟨q0, qP, qK⟩ := q; exact ⟨q0, qP, va_K.moved (u := U) (U := U.calling g mk a) (Vm.Alike.refl U.vm) qK⟩, va_recv hKc hPc (ci := 1) (q0 := 0) rfl rfl, fun U hU hW => ⟨rfl, by rw [hU]; exact hPc, va_K.moved hW.alike hKc⟩⟩ rfl rfl hl.1 rfl (lv_room (Nat.le_of_ble_eq_true rfl)) dX7_bucketSize_29 ⟨Nat.le_of_ble_eq_true rfl, Nat.le_of_ble_eq_true rfl⟩) (fun r_10 hw_9 => ?_)
  subst hw_9
  exact W.iret (v := nI (heldc (bo fm) (bo fs) (sp (bo fs) k))) hx hb hr (fun t9 ht hW => ⟨nI (heldc (bo fm) (bo fs) (sp (bo fs) k)), rfl, rfl, ht⟩) (fun q h => by cases h) dX7_bucketSize_32
set_option maxHeartbeats 4000000 in
set_option maxRecDepth 100000 in
/-- pollFirst, set 0 -/
theorem c_X7_pollFirst_0 (l : Launch) (dC : Nat → ClassId) (dI : Nat → Nat → Nat) (q : Nat) (s0 : Nat) (s1 : Nat) (s2 : Nat) (tq : Nat) (ca : Nat) (rq : Nat) (rb : Nat) (rd : Nat) (uq : Nat) (bm : Nat) (am : Nat) (bs : Nat) (ap : Nat) (cJ : ClassId) (fm : Nat → Int64) (fs : Nat → Int64) (ft : Nat → Int64) (fc : Nat → Int64) (sm : Int64) (lo : Option Nat) (z : Nat) (sz : Nat) (hN : NI fm fs ft fc sm lo) (hz : fst1 (bo fm) 4096 = some z) : Met l yX7_pollFirst wsX7_pollFirst ({ frames := 7, cells := 0, slots := 0, locals := 159 }) (va_Pc [.ref q, .int (nI 0)] (fun U => va_Nw (.fieldLinkNest RX7 62 "SmallNumberSets$NumberSet" "tree" "LSmallNumberSets$Tree;" "SmallNumberSets") U ∧ U.heap.size = sz ∧ va_P (dC, dI) vwCl [(q, .inr (6, [.ref s0, .ref s1, .ref s2])), (s0, .inr (3, [.ref tq, .ref rq, .ref uq])), (tq, .inr (4, [.ref ca, .long sm, .int (oI lo)])), (ca, .inl (cJ, 64, .inr (.inl fc))), (rq, .inr (5, [.ref rb])), (rb, .inr (0, [.ref rd])), (rd, .inl (cJ, 128, .inr (.inl ft))), (uq, .inr (1, [.ref bm, .ref bs])), (bm, .inr (0, [.ref am])), (am, .inl (cJ, 64, .inr (.inl fm))), (bs, .inr (0, [.ref ap])), (ap, .inl (cJ, 64, .inr (.inl fs)))] U.heap ∧ va_K (dC, dI) vwCl [(cJ, .long)] U ∧ va_D (fun _ => True) [(q, .inr (6, [.ref s0, .ref s1, .ref s2])), (s0, .inr (3, [.ref tq, .ref rq, .ref uq])), (tq, .inr (4, [.ref ca, .long sm, .int (oI lo)])), (ca, .inl (cJ, 64, .inr (.inl fc))), (rq, .inr (5, [.ref rb])), (rb, .inr (0, [.ref rd])), (rd, .inl (cJ, 128, .inr (.inl ft))), (uq, .inr (1, [.ref bm, .ref bs])), (bm, .inr (0, [.ref am])), (am, .inl (cJ, 64, .inr (.inl fm))), (bs, .inr (0, [.ref ap])), (ap, .inl (cJ, 64, .inr (.inl fs)))])) (va_Qi (fun (r : Int32) (u : (Nat → Int64) × (Nat → Int64) × (Nat → Int64) × (Nat → Int64) × Int64 × (Option Nat)) => r = nI z ∧ NI u.1 u.2.1 u.2.2.1 u.2.2.2.1 u.2.2.2.2.1 u.2.2.2.2.2 ∧ (∀ x, x < 4096 → bo u.1 x = del (bo fm) z x) ∧ ∀ x, x < 4096 → bo u.2.1 x = takeP (bo fm) (bo fs) z x) (fun (u : (Nat → Int64) × (Nat → Int64) × (Nat → Int64) × (Nat → Int64) × Int64 × (Option Nat)) (t : State) => va_P (dC, dI) vwCl [(q, .inr (6, [.ref s0, .ref s1, .ref s2])), (s0, .inr (3, [.ref tq, .ref rq, .ref uq])), (tq, .inr (4, [.ref ca, .long u.2.2.2.2.1, .int (oI u.2.2.2.2.2)])), (ca, .inl (cJ, 64, .inr (.inl u.2.2.2.1))), (rq, .inr (5, [.ref rb])), (rb, .inr (0, [.ref rd])), (rd, .inl (cJ, 128, .inr (.inl u.2.2.1))), (uq, .inr (1, [.ref bm, .ref bs])), (bm, .inr (0, [.ref am])), (am, .inl (cJ, 64, .inr (.inl u.1))), (bs, .inr (0, [.ref ap])), (ap, .inl (cJ, 64, .inr (.inl u.2.1)))] t.heap ∧ va_K (dC, dI) vwCl [(cJ, .long)] t ∧ va_D (va_A [(q, .inr (6, [.ref s0, .ref s1, .ref s2])), (s0, .inr (3, [.ref tq, .ref rq, .ref uq])), (tq, .inr (4, [.ref ca, .long sm, .int (oI lo)])), (ca, .inl (cJ, 64, .inr (.inl fc))), (rq, .inr (5, [.ref rb])), (rb, .inr (0, [.ref rd])), (rd, .inl (cJ, 128, .inr (.inl ft))), (uq, .inr (1, [.ref bm, .ref bs])), (bm, .inr (0, [.ref am])), (am, .inl (cJ, 64, .inr (.inl fm))), (bs, .inr (0, [.ref ap])), (ap, .inl (cJ, 64, .inr (.inl fs)))] sz) [(q, .inr (6, [.ref s0, .ref s1, .ref s2])), (s0, .inr (3, [.ref tq, .ref rq, .ref uq])), (tq, .inr (4, [.ref ca, .long u.2.2.2.2.1, .int (oI u.2.2.2.2.2)])), (ca, .inl (cJ, 64, .inr (.inl u.2.2.2.1))), (rq, .inr (5, [.ref rb])), (rb, .inr (0, [.ref rd])), (rd, .inl (cJ, 128, .inr (.inl u.2.2.1))), (uq, .inr (1, [.ref bm, .ref bs])), (bm, .inr (0, [.ref am])), (am, .inl (cJ, 64, .inr (.inl u.1))), (bs, .inr (0, [.ref ap])), (ap, .inl (cJ, 64, .inr (.inl u.2.1)))]) (va_A [(q, .inr (6, [.ref s0, .ref s1, .ref s2])), (s0, .inr (3, [.ref tq, .ref rq, .ref uq])), (tq, .inr (4, [.ref ca, .long sm, .int (oI lo)])), (ca, .inl (cJ, 64, .inr (.inl fc))), (rq, .inr (5, [.ref rb])), (rb, .inr (0, [.ref rd])), (rd, .inl (cJ, 128, .inr (.inl ft))), (uq, .inr (1, [.ref bm, .ref bs])), (bm, .inr (0, [.ref am])), (am, .inl (cJ, 64, .inr (.inl fm))), (bs, .inr (0, [.ref ap])), (ap, .inl (cJ, 64, .inr (.inl fs)))] sz)) 0 0 (va_A [(q, .inr (6, [.ref s0, .ref s1, .ref s2])), (s0, .inr (3, [.ref tq, .ref rq, .ref uq])), (tq, .inr (4, [.ref ca, .long sm, .int (oI lo)])), (ca, .inl (cJ, 64, .inr (.inl fc))), (rq, .inr (5, [.ref rb])), (rb, .inr (0, [.ref rd])), (rd, .inl (cJ, 128, .inr (.inl ft))), (uq, .inr (1, [.ref bm, .ref bs])), (bm, .inr (0, [.ref am])), (am, .inl (cJ, 64, .inr (.inl fm))), (bs, .inr (0, [.ref ap])), (ap, .inl (cJ, 64, .inr (.inl fs)))] sz) := by
  refine Met.ofW (cc := cX7_pollFirst) (maxL := 4) (ret := (some .int)) (by decide) rfl ?_
  intro p e s m args below meth c s₁ B hml hv
  obtain ⟨rfl, nw0, hsz, hP, hK, hD0⟩ := hv
  have hx := B.exec
  have hb := B.bytes
  have hr := B.returns
  have hts := atoms_spec (ws := wsX7_pollFirst) B.pre
  have hown : s.vm.findClass RX7 = some m.cls := findClass_of_methodNamed B.named
  have hlocks := B.notSynchronized
  subst hsz
  have hD := hD0.self (sz := s.heap.size)
  generalize hAe : va_A [(q, .inr (6, [.ref s0, .ref s1, .ref s2])), (s0, .inr (3, [.ref tq, .ref rq, .ref uq])), (tq, .inr (4, [.ref ca, .long sm, .int (oI lo)])), (ca, .inl (cJ, 64, .inr (.inl fc))), (rq, .inr (5, [.ref rb])), (rb, .inr (0, [.ref rd])), (rd, .inl (cJ, 128, .inr (.inl ft))), (uq, .inr (1, [.ref bm, .ref bs])), (bm, .inr (0, [.ref am])), (am, .inl (cJ, 64, .inr (.inl fm))), (bs, .inr (0, [.ref ap])), (ap, .inl (cJ, 64, .inr (.inl fs)))] s.heap.size = A at hD ⊢
  have hA : ∀ q : Nat, s.heap.size ≤ q → A q := fun q h => by rw [← hAe]; exact Or.inr h
  have hS : va_S A s.heap s.heap [] := va_S.rf
  have hP : va_P (dC, dI) vwCl [(q, .inr (6, [.ref s0, .ref s1, .ref s2])), (s0, .inr (3, [.ref tq, .ref rq, .ref uq])), (tq, .inr (4, [.ref ca, .long sm, .int (oI lo)])), (ca, .inl (cJ, 64, .inr (.inl fc))), (rq, .inr (5, [.ref rb])), (rb, .inr (0, [.ref rd])), (rd, .inl (cJ, 128, .inr (.inl ft))), (uq, .inr (1, [.ref bm, .ref bs])), (bm, .inr (0, [.ref am])), (am, .inl (cJ, 64, .inr (.inl fm))), (bs, .inr (0, [.ref ap])), (ap, .inl (cJ, 64, .inr (.inl fs)))] s.heap := hP
  have hl := lv_entry ([.ref q, .int (nI 0)]) (n := 4) (Nat.le_of_ble_eq_true rfl)
  rw [lg_entry_eq]
  generalize (lg_sl ([.ref q, .int (nI 0)]) ++ List.replicate (4 - (lg_sl ([.ref q, .int (nI 0)])).length) Slot.unset).toArray = ls at hl ⊢
  have hl : lv_has ls 4 [(0, .ref q), (1, .int (nI 0))] := hl
  have hzb := (fst1_some hz).1
  refine lv_aload_n hx hb dX7_pollFirst_0 rfl (lv_at hl 0 rfl) ?_
  refine lv_iload_n hx hb dX7_pollFirst_1 rfl (lv_at hl 1 rfl) ?_
  have hPc := hP.sub (ws' := [(q, .inr (6, [.ref s0, .ref s1, .ref s2]))]) [0] rfl
  have hKc := hK.sub (tys' := []) [] rfl
  refine va_csr (W.runV (As := [.int (nI 0)]) (rest := []) ⟨hx, hb, hml, hown, hts⟩ (c_X7_chosenSet_0 l dC dI q s0 s1 s2 ) (cwV 1 hts gX7_pollFirst_X7_chosenSet rfl rfl rfl (by decide +kernel) ⟨Nat.le_of_ble_eq_true rfl, Nat.le_of_ble_eq_true rfl⟩) ⟨fun a U g mk q => by obtain ⟨q0, qP, qK⟩ := q; exact ⟨q0, qP, va_K.moved (u := U) (U := U.calling g mk a) (Vm.Alike.refl U.vm) qK⟩, va_recv hKc hPc (ci := 6) (q0 := 0) rfl rfl, fun U hU hW => ⟨rfl, by rw [hU]; exact hPc, va_K.moved hW.alike hKc⟩⟩ rfl rfl hl.1 rfl (lv_room (Nat.le_of_ble_eq_true rfl)) dX7_pollFirst_2 ⟨Nat.le_of_ble_eq_true rfl, Nat.le_of_ble_eq_true rfl⟩) (fun r_2 hw_1 => ?_)
  have hw_1 := hw_1.symm
  subst hw_1
  refine lv_astore_n (lv' := [(2, .ref s0), (0, .ref q), (1, .int (nI 0))]) hx hb dX7_pollFirst_5 rfl hl (by decide) rfl (fun ls hl => ?_)
  refine lv_aload_n hx hb dX7_pollFirst_6 rfl (lv_at hl 0 rfl) ?_
  refine va_getN (D := (dC, dI)) (ci := 3) (v := .ref tq) (C := RX3) (T := TX3) (N := 3) hx hb hts (by decide +kernel) hown hK hP 1 rfl rfl 0 (by decide) (va_Nw.use rfl nw0) (fun _ h9 => h9) rfl dX7_pollFirst_7 ?_
  have hPc := hP.sub (ws' := [(tq, .inr (4, [.ref ca, .long sm, .int (oI lo)])), (ca, .inl (cJ, 64, .inr (.inl fc)))]) [2, 3] rfl
  have hKc := hK.sub (tys' := [(cJ, .long)]) [0] rfl
  refine vp_callSi (W.runV (As := []) (rest := []) ⟨hx, hb, hml, hown, hts⟩ (c_X4_least l dC dI tq ca cJ fc sm lo ) (cwV 0 hts gX7_pollFirst_X4_least rfl rfl rfl (by decide +kernel) ⟨Nat.le_of_ble_eq_true rfl, Nat.le_of_ble_eq_true rfl⟩) ⟨fun a U g mk q => by obtain ⟨q0, qP, qK⟩ := q; exact ⟨q0, qP, va_K.moved (u := U) (U := U.calling g mk a) (Vm.Alike.refl U.vm) qK⟩, va_recv hKc hPc (ci := 4) (q0 := 0) rfl rfl, fun U hU hW => ⟨rfl, by rw [hU]; exact hPc, va_K.moved hW.alike hKc⟩⟩ rfl rfl hl.1 rfl (lv_room (Nat.le_of_ble_eq_true rfl)) dX7_pollFirst_10 ⟨Nat.le_of_ble_eq_true rfl, Nat.le_of_ble_eq_true rfl⟩) (fun r_4 hw_3 => ?_)
  subst hw_3
  refine lv_cvi (congrArg oI (hN.2.2.1.trans hz)) ?_
  refine lv_cvi ((rfl : oI (some z) = nI z)) ?_
  refine lv_istore_n (lv' := [(3, .int (nI z)), (2, .ref s0), (0, .ref q), (1, .int (nI 0))]) hx hb dX7_pollFirst_13 rfl hl (by decide) rfl (fun ls hl => ?_)
  refine lv_iload_n hx hb dX7_pollFirst_14 rfl (lv_at hl 0 rfl) ?_
  have hPc := hP.sub (ws' := []) [] rfl
  have hKc := hK.sub (tys' := []) [] rfl
  refine va_csv (W.runS (As := [.int (nI z)]) (rest := []) ⟨hx, hb, hml, hown, hts⟩ (c_X7_needMember l dC dI z (by first | assumption | omega)) (va_cwS 1 hts gX7_pollFirst_X7_needMember rfl rfl rfl (by decide +kernel) ⟨Nat.le_of_ble_eq_true rfl, Nat.le_of_ble_eq_true rfl⟩) ⟨fun a U g mk q => by obtain ⟨q0, qP, qK⟩ := q; exact ⟨q0, qP, va_K.moved (u := U) (U := U.calling g mk a) (Vm.Alike.refl U.vm) qK⟩, fun U hU hW => ⟨rfl, by rw [hU]; exact hPc, va_K.moved hW.alike hKc⟩⟩ rfl rfl hl.1 rfl (lv_room (Nat.le_of_ble_eq_true rfl)) dX7_pollFirst_15 ⟨Nat.le_of_ble_eq_true rfl, Nat.le_of_ble_eq_true rfl⟩) (fun _ => ?_)
  refine lv_aload_n hx hb dX7_pollFirst_18 rfl (lv_at hl 1 rfl) ?_
  refine lv_iload_n hx hb dX7_pollFirst_19 rfl (lv_at hl 0 rfl) ?_
  have hPc := hP.sub (ws' := [(s0, .inr (3, [.ref tq, .ref rq, .ref uq])), (tq, .inr (4, [.ref ca, .long sm, .int (oI lo)])), (ca, .inl (cJ, 64, .inr (.inl fc))), (rq, .inr (5, [.ref rb])), (rb, .inr (0, [.ref rd])), (rd, .inl (cJ, 128, .inr (.inl ft))), (uq, .inr (1, [.ref bm, .ref bs])), (bm, .inr (0, [.ref am])), (am, .inl (cJ, 64, .inr (.inl fm))), (bs, .inr (0, [.ref ap])), (ap, .inl (cJ, 64, .inr (.inl fs)))]) [1, 2, 3, 4, 5, 6, 7, 8, 9, 10, 11] rfl
  have hKc := hK.sub (tys' := [(cJ, .long)]) [0] rfl
  have hDc := hD.sub (ws' := [(s0, .inr (3, [.ref tq, .ref rq, .ref uq])), (tq, .inr (4, [.ref ca, .long sm, .int (oI lo)])), (ca, .inl (cJ, 64, .inr (.inl fc))), (rq, .inr (5, [.ref rb])), (rb, .inr (0, [.ref rd])), (rd, .inl (cJ, 128, .inr (.inl ft))), (uq, .inr (1, [.ref bm, .ref bs])), (bm, .inr (0, [.ref am])), (am, .inl (cJ, 64, .inr (.inl fm))), (bs, .inr (0, [.ref ap])), (ap, .inl (cJ, 64, .inr (.inl fs)))]) [1, 2, 3, 4, 5, 6, 7, 8, 9, 10, 11] (by decide) rfl
  have hFc := va_free (wc := [(s0, .inr (3, [.ref tq, .ref rq, .ref uq])), (tq, .inr (4, [.ref ca, .long sm, .int (oI lo)])), (ca, .inl (cJ, 64, .inr (.inl fc))), (rq, .inr (5, [.ref rb])), (rb, .inr (0, [.ref rd])), (rd, .inl (cJ, 128, .inr (.inl ft))), (uq, .inr (1, [.ref bm, .ref bs])), (bm, .inr (0, [.ref am])), (am, .inl (cJ, 64, .inr (.inl fm))), (bs, .inr (0, [.ref ap])), (ap, .inl (cJ, 64, .inr (.inl fs)))]) hD hS hA [1, 2, 3, 4, 5, 6, 7, 8, 9, 10, 11] rfl
  refine va_calli (va_runV (As := [.int (nI z)]) (rest := []) ⟨hx, hb, hml, hown, hts⟩ (c_X3_take l dC dI s0 tq ca rq rb rd uq bm am bs ap cJ fm fs ft fc sm lo z s.heap.size (by first | assumption | omega) (by first | assumption | omega)) (cwV 1 hts gX7_pollFirst_X3_take rfl rfl rfl (by decide +kernel) ⟨Nat.le_of_ble_eq_true rfl, Nat.le_of_ble_eq_true rfl⟩) ⟨fun a U g mk q => by obtain ⟨q0, q1, qP, qK, qD⟩ := q; exact ⟨q0, q1, qP, va_K.moved (u := U) (U := U.calling g mk a) (Vm.Alike.refl U.vm) qK, qD⟩, va_recv hKc hPc (ci := 3) (q0 := 0) rfl rfl, fun U hU hW => ⟨rfl, by rw [hU], by rw [hU]; exact hPc, va_K.moved hW.alike hKc, hDc.weaken (fun _ _ _ _ => trivial)⟩⟩ rfl rfl hl.1 rfl (lv_room (Nat.le_of_ble_eq_true rfl)) dX7_pollFirst_20 ⟨Nat.le_of_ble_eq_true rfl, Nat.le_of_ble_eq_true rfl⟩) hS (fun q _ h => hFc q h) hFc (fun r_9 u_8 t9 H1 locs ht hvm hw_7 hB hz1 hk1 hS => ?_)
  obtain ⟨fm'_10, fs'_11, ft'_12, fc'_13, sm'_14, lo'_15⟩ := u_8
  obtain ⟨hP1, hK1, hD1⟩ := hB
  rw [ht] at hP1
  have hK1 := va_K.moved hvm.symm hK1
  try dsimp only at hw_7 hP1 hK1 hD1
  obtain ⟨hP, hD⟩ := va_join (wr := [(q, .inr (6, [.ref s0, .ref s1, .ref s2]))]) (w1 := [(s0, .inr (3, [.ref tq, .ref rq, .ref uq])), (tq, .inr (4, [.ref ca, .long sm'_14, .int (oI lo'_15)])), (ca, .inl (cJ, 64, .inr (.inl fc'_13))), (rq, .inr (5, [.ref rb])), (rb, .inr (0, [.ref rd])), (rd, .inl (cJ, 128, .inr (.inl ft'_12))), (uq, .inr (1, [.ref bm, .ref bs])), (bm, .inr (0, [.ref am])), (am, .inl (cJ, 64, .inr (.inl fm'_10))), (bs, .inr (0, [.ref ap])), (ap, .inl (cJ, 64, .inr (.inl fs'_11)))]) hP hD [1, 2, 3, 4, 5, 6, 7, 8, 9, 10, 11] [0] rfl rfl (by decide) (by decide) hk1 hFc hP1 hD1
  generalize H1 = H at hP hS ⊢
  have hP : va_P (dC, dI) vwCl [(q, .inr (6, [.ref s0, .ref s1, .ref s2])), (s0, .inr (3, [.ref tq, .ref rq, .ref uq])), (tq, .inr (4, [.ref ca, .long sm'_14, .int (oI lo'_15)])), (ca, .inl (cJ, 64, .inr (.inl fc'_13))), (rq, .inr (5, [.ref rb])), (rb, .inr (0, [.ref rd])), (rd, .inl (cJ, 128, .inr (.inl ft'_12))), (uq, .inr (1, [.ref bm, .ref bs])), (bm, .inr (0, [.ref am])), (am, .inl (cJ, 64, .inr (.inl fm'_10))), (bs, .inr (0, [.ref ap])), (ap, .inl (cJ, 64, .inr (.inl fs'_11)))] H := hP
  have hD : va_D A [(q, .inr (6, [.ref s0, .ref s1, .ref s2])), (s0, .inr (3, [.ref tq, .ref rq, .ref uq])), (tq, .inr (4, [.ref ca, .long sm'_14, .int (oI lo'_15)])), (ca, .inl (cJ, 64, .inr (.inl fc'_13))), (rq, .inr (5, [.ref rb])), (rb, .inr (0, [.ref rd])), (rd, .inl (cJ, 128, .inr (.inl ft'_12))), (uq, .inr (1, [.ref bm, .ref bs])), (bm, .inr (0, [.ref am])), (am, .inl (cJ, 64, .inr (.inl fm'_10))), (bs, .inr (0, [.ref ap])), (ap, .inl (cJ, 64, .inr (.inl fs'_11)))] := hD
  obtain ⟨he, hw_7⟩ := hw_7
  subst he
  refine lv_pop hx hb dX7_pollFirst_23 rfl ?_
  refine lv_iload_n hx hb dX7_pollFirst_24 rfl (lv_at hl 0 rfl) ?_
  have hP9 := hP.sub (ws' := [(q, .inr (6, [.ref s0, .ref s1, .ref s2])), (s0, .inr (3, [.ref tq, .ref rq, .ref uq])), (tq, .inr (4, [.ref ca, .long sm'_14, .int (oI lo'_15)])), (ca, .inl (cJ, 64, .inr (.inl fc'_13))), (rq, .inr (5, [.ref rb])), (rb, .inr (0, [.ref rd])), (rd, .inl (cJ, 128, .inr (.inl ft'_12))), (uq, .inr (1, [.ref bm, .ref bs])), (bm, .inr (0, [.ref am])), (am, .inl (cJ, 64, .inr (.inl fm'_10))), (bs, .inr (0, [.ref ap])), (ap, .inl (cJ, 64, .inr (.inl fs'_11)))]) [0, 1, 2, 3, 4, 5, 6, 7, 8, 9, 10, 11] rfl
  have hD9 := hD.sub (ws' := [(q, .inr (6, [.ref s0, .ref s1, .ref s2])), (s0, .inr (3, [.ref tq, .ref rq, .ref uq])), (tq, .inr (4, [.ref ca, .long sm'_14, .int (oI lo'_15)])), (ca, .inl (cJ, 64, .inr (.inl fc'_13))), (rq, .inr (5, [.ref rb])), (rb, .inr (0, [.ref rd])), (rd, .inl (cJ, 128, .inr (.inl ft'_12))), (uq, .inr (1, [.ref bm, .ref bs])), (bm, .inr (0, [.ref am])), (am, .inl (cJ, 64, .inr (.inl fm'_10))), (bs, .inr (0, [.ref ap])), (ap, .inl (cJ, 64, .inr (.inl fs'_11)))]) [0, 1, 2, 3, 4, 5, 6, 7, 8, 9, 10, 11] (by decide) rfl
  have hK9 := hK.sub (tys' := [(cJ, .long)]) [0] rfl
  exact W.iret (v := nI z) hx hb hr (fun t9 ht hW => ⟨⟨nI z, ⟨fm'_10, fs'_11, ft'_12, fc'_13, sm'_14, lo'_15⟩, rfl, (show (nI z) = nI z ∧ NI fm'_10 fs'_11 ft'_12 fc'_13 sm'_14 lo'_15 ∧ (∀ x, x < 4096 → bo fm'_10 x = del (bo fm) z x) ∧ ∀ x, x < 4096 → bo fs'_11 x = takeP (bo fm) (bo fs) z x from ⟨rfl, hw_7⟩), by rw [ht]; exact hP9, va_K.moved hW.alike hK9, hD9⟩, hS.F ht⟩) hS.2.2 dX7_pollFirst_25
set_option maxHeartbeats 4000000 in
set_option maxRecDepth 100000 in
/-- pollLast, set 0 -/
theorem c_X7_pollLast_0 (l : Launch) (dC : Nat → ClassId) (dI : Nat → Nat → Nat) (q : Nat) (s0 : Nat) (s1 : Nat) (s2 : Nat) (tq : Nat) (ca : Nat) (rq : Nat) (rb : Nat) (rd : Nat) (uq : Nat) (bm : Nat) (am : Nat) (bs : Nat) (ap : Nat) (cJ : ClassId) (fm : Nat → Int64) (fs : Nat → Int64) (ft : Nat → Int64) (fc : Nat → Int64) (sm : Int64) (lo : Option Nat) (z : Nat) (sz : Nat) (hN : NI fm fs ft fc sm lo) (hz : lst1 (bo fm) 4096 = some z) : Met l yX7_pollLast wsX7_pollLast ({ frames := 7, cells := 0, slots := 0, locals := 159 }) (va_Pc [.ref q, .int (nI 0)] (fun U => va_Nw (.fieldLinkNest RX7 62 "SmallNumberSets$NumberSet" "tree" "LSmallNumberSets$Tree;" "SmallNumberSets") U ∧ U.heap.size = sz ∧ va_P (dC, dI) vwCl [(q, .inr (6, [.ref s0, .ref s1, .ref s2])), (s0, .inr (3, [.ref tq, .ref rq, .ref uq])), (tq, .inr (4, [.ref ca, .long sm, .int (oI lo)])), (ca, .inl (cJ, 64, .inr (.inl fc))), (rq, .inr (5, [.ref rb])), (rb, .inr (0, [.ref rd])), (rd, .inl (cJ, 128, .inr (.inl ft))), (uq, .inr (1, [.ref bm, .ref bs])), (bm, .inr (0, [.ref am])), (am, .inl (cJ, 64, .inr (.inl fm))), (bs, .inr (0, [.ref ap])), (ap, .inl (cJ, 64, .inr (.inl fs)))] U.heap ∧ va_K (dC, dI) vwCl [(cJ, .long)] U ∧ va_D (fun _ => True) [(q, .inr (6, [.ref s0, .ref s1, .ref s2])), (s0, .inr (3, [.ref tq, .ref rq, .ref uq])), (tq, .inr (4, [.ref ca, .long sm, .int (oI lo)])), (ca, .inl (cJ, 64, .inr (.inl fc))), (rq, .inr (5, [.ref rb])), (rb, .inr (0, [.ref rd])), (rd, .inl (cJ, 128, .inr (.inl ft))), (uq, .inr (1, [.ref bm, .ref bs])), (bm, .inr (0, [.ref am])), (am, .inl (cJ, 64, .inr (.inl fm))), (bs, .inr (0, [.ref ap])), (ap, .inl (cJ, 64, .inr (.inl fs)))])) (va_Qi (fun (r : Int32) (u : (Nat → Int64) × (Nat → Int64) × (Nat → Int64) × (Nat → Int64) × Int64 × (Option Nat)) => r = nI z ∧ NI u.1 u.2.1 u.2.2.1 u.2.2.2.1 u.2.2.2.2.1 u.2.2.2.2.2 ∧ (∀ x, x < 4096 → bo u.1 x = del (bo fm) z x) ∧ ∀ x, x < 4096 → bo u.2.1 x = takeP (bo fm) (bo fs) z x) (fun (u : (Nat → Int64) × (Nat → Int64) × (Nat → Int64) × (Nat → Int64) × Int64 × (Option Nat)) (t : State) => va_P (dC, dI) vwCl [(q, .inr (6, [.ref s0, .ref s1, .ref s2])), (s0, .inr (3, [.ref tq, .ref rq, .ref uq])), (tq, .inr (4, [.ref ca, .long u.2.2.2.2.1, .int (oI u.2.2.2.2.2)])), (ca, .inl (cJ, 64, .inr (.inl u.2.2.2.1))), (rq, .inr (5, [.ref rb])), (rb, .inr (0, [.ref rd])), (rd, .inl (cJ, 128, .inr (.inl u.2.2.1))), (uq, .inr (1, [.ref bm, .ref bs])), (bm, .inr (0, [.ref am])), (am, .inl (cJ, 64, .inr (.inl u.1))), (bs, .inr (0, [.ref ap])), (ap, .inl (cJ, 64, .inr (.inl u.2.1)))] t.heap ∧ va_K (dC, dI) vwCl [(cJ, .long)] t ∧ va_D (va_A [(q, .inr (6, [.ref s0, .ref s1, .ref s2])), (s0, .inr (3, [.ref tq, .ref rq, .ref uq])), (tq, .inr (4, [.ref ca, .long sm, .int (oI lo)])), (ca, .inl (cJ, 64, .inr (.inl fc))), (rq, .inr (5, [.ref rb])), (rb, .inr (0, [.ref rd])), (rd, .inl (cJ, 128, .inr (.inl ft))), (uq, .inr (1, [.ref bm, .ref bs])), (bm, .inr (0, [.ref am])), (am, .inl (cJ, 64, .inr (.inl fm))), (bs, .inr (0, [.ref ap])), (ap, .inl (cJ, 64, .inr (.inl fs)))] sz) [(q, .inr (6, [.ref s0, .ref s1, .ref s2])), (s0, .inr (3, [.ref tq, .ref rq, .ref uq])), (tq, .inr (4, [.ref ca, .long u.2.2.2.2.1, .int (oI u.2.2.2.2.2)])), (ca, .inl (cJ, 64, .inr (.inl u.2.2.2.1))), (rq, .inr (5, [.ref rb])), (rb, .inr (0, [.ref rd])), (rd, .inl (cJ, 128, .inr (.inl u.2.2.1))), (uq, .inr (1, [.ref bm, .ref bs])), (bm, .inr (0, [.ref am])), (am, .inl (cJ, 64, .inr (.inl u.1))), (bs, .inr (0, [.ref ap])), (ap, .inl (cJ, 64, .inr (.inl u.2.1)))]) (va_A [(q, .inr (6, [.ref s0, .ref s1, .ref s2])), (s0, .inr (3, [.ref tq, .ref rq, .ref uq])), (tq, .inr (4, [.ref ca, .long sm, .int (oI lo)])), (ca, .inl (cJ, 64, .inr (.inl fc))), (rq, .inr (5, [.ref rb])), (rb, .inr (0, [.ref rd])), (rd, .inl (cJ, 128, .inr (.inl ft))), (uq, .inr (1, [.ref bm, .ref bs])), (bm, .inr (0, [.ref am])), (am, .inl (cJ, 64, .inr (.inl fm))), (bs, .inr (0, [.ref ap])), (ap, .inl (cJ, 64, .inr (.inl fs)))] sz)) 0 0 (va_A [(q, .inr (6, [.ref s0, .ref s1, .ref s2])), (s0, .inr (3, [.ref tq, .ref rq, .ref uq])), (tq, .inr (4, [.ref ca, .long sm, .int (oI lo)])), (ca, .inl (cJ, 64, .inr (.inl fc))), (rq, .inr (5, [.ref rb])), (rb, .inr (0, [.ref rd])), (rd, .inl (cJ, 128, .inr (.inl ft))), (uq, .inr (1, [.ref bm, .ref bs])), (bm, .inr (0, [.ref am])), (am, .inl (cJ, 64, .inr (.inl fm))), (bs, .inr (0, [.ref ap])), (ap, .inl (cJ, 64, .inr (.inl fs)))] sz) := by
  refine Met.ofW (cc := cX7_pollLast) (maxL := 4) (ret := (some .int)) (by decide) rfl ?_
  intro p e s m args below meth c s₁ B hml hv
  obtain ⟨rfl, nw0, hsz, hP, hK, hD0⟩ := hv
  have hx := B.exec
  have hb := B.bytes
  have hr := B.returns
  have hts := atoms_spec (ws := wsX7_pollLast) B.pre
  have hown : s.vm.findClass RX7 = some m.cls := findClass_of_methodNamed B.named
  have hlocks := B.notSynchronized
  subst hsz
  have hD := hD0.self (sz := s.heap.size)
  generalize hAe : va_A [(q, .inr (6, [.ref s0, .ref s1, .ref s2])), (s0, .inr (3, [.ref tq, .ref rq, .ref uq])), (tq, .inr (4, [.ref ca, .long sm, .int (oI lo)])), (ca, .inl (cJ, 64, .inr (.inl fc))), (rq, .inr (5, [.ref rb])), (rb, .inr (0, [.ref rd])), (rd, .inl (cJ, 128, .inr (.inl ft))), (uq, .inr (1, [.ref bm, .ref bs])), (bm, .inr (0, [.ref am])), (am, .inl (cJ, 64, .inr (.inl fm))), (bs, .inr (0, [.ref ap])), (ap, .inl (cJ, 64, .inr (.inl fs)))] s.heap.size = A at hD ⊢
  have hA : ∀ q : Nat, s.heap.size ≤ q → A q := fun q h => by rw [← hAe]; exact Or.inr h
  have hS : va_S A s.heap s.heap [] := va_S.rf
  have hP : va_P (dC, dI) vwCl [(q, .inr (6, [.ref s0, .ref s1, .ref s2])), (s0, .inr (3, [.ref tq, .ref rq, .ref uq])), (tq, .inr (4, [.ref ca, .long sm, .int (oI lo)])), (ca, .inl (cJ, 64, .inr (.inl fc))), (rq, .inr (5, [.ref rb])), (rb, .inr (0, [.ref rd])), (rd, .inl (cJ, 128, .inr (.inl ft))), (uq, .inr (1, [.ref bm, .ref bs])), (bm, .inr (0, [.ref am])), (am, .inl (cJ, 64, .inr (.inl fm))), (bs, .inr (0, [.ref ap])), (ap, .inl (cJ, 64, .inr (.inl fs)))] s.heap := hP
  have hl := lv_entry ([.ref q, .int (nI 0)]) (n := 4) (Nat.le_of_ble_eq_true rfl)
  rw [lg_entry_eq]
  generalize (lg_sl ([.ref q, .int (nI 0)]) ++ List.replicate (4 - (lg_sl ([.ref q, .int (nI 0)])).length) Slot.unset).toArray = ls at hl ⊢
  have hl : lv_has ls 4 [(0, .ref q), (1, .int (nI 0))] := hl
  have hzb := (lst1_some hz).1
  refine lv_aload_n hx hb dX7_pollLast_0 rfl (lv_at hl 0 rfl) ?_
  refine lv_iload_n hx hb dX7_pollLast_1 rfl (lv_at hl 1 rfl) ?_
  have hPc := hP.sub (ws' := [(q, .inr (6, [.ref s0, .ref s1, .ref s2]))]) [0] rfl
  have hKc := hK.sub (tys' := []) [] rfl
  refine va_csr (W.runV (As := [.int (nI 0)]) (rest := []) ⟨hx, hb, hml, hown, hts⟩ (c_X7_chosenSet_0 l dC dI q s0 s1 s2 ) (cwV 1 hts gX7_pollLast_X7_chosenSet rfl rfl rfl (by decide +kernel) ⟨Nat.le_of_ble_eq_true rfl, Nat.le_of_ble_eq_true rfl⟩) ⟨fun a U g mk q => by obtain ⟨q0, qP, qK⟩ := q; exact ⟨q0, qP, va_K.moved (u := U) (U := U.calling g mk a) (Vm.Alike.refl U.vm) qK⟩, va_recv hKc hPc (ci := 6) (q0 := 0) rfl rfl, fun U hU hW => ⟨rfl, by rw [hU]; exact hPc, va_K.moved hW.alike hKc⟩⟩ rfl rfl hl.1 rfl (lv_room (Nat.le_of_ble_eq_true rfl)) dX7_pollLast_2 ⟨Nat.le_of_ble_eq_true rfl, Nat.le_of_ble_eq_true rfl⟩) (fun r_2 hw_1 => ?_)
  have hw_1 := hw_1.symm
  subst hw_1
  refine lv_astore_n (lv' := [(2, .ref s0), (0, .ref q), (1, .int (nI 0))]) hx hb dX7_pollLast_5 rfl hl (by decide) rfl (fun ls hl => ?_)
  refine lv_aload_n hx hb dX7_pollLast_6 rfl (lv_at hl 0 rfl) ?_
  refine va_getN (D := (dC, dI)) (ci := 3) (v := .ref tq) (C := RX3) (T := TX3) (N := 3) hx hb hts (by decide +kernel) hown hK hP 1 rfl rfl 0 (by decide) (va_Nw.use rfl nw0) (fun _ h9 => h9) rfl dX7_pollLast_7 ?_
  have hPc := hP.sub (ws' := [(tq, .inr (4, [.ref ca, .long sm, .int (oI lo)])), (ca, .inl (cJ, 64, .inr (.inl fc)))]) [2, 3] rfl
  have hKc := hK.sub (tys' := [(cJ, .long)]) [0] rfl
  refine vp_callSi (W.runV (As := []) (rest := []) ⟨hx, hb, hml, hown, hts⟩ (c_X4_greatest l dC dI tq ca cJ fc sm lo (bo fm) hN.2.2) (cwV 0 hts gX7_pollLast_X4_greatest rfl rfl rfl (by decide +kernel) ⟨Nat.le_of_ble_eq_true rfl, Nat.le_of_ble_eq_true rfl⟩) ⟨fun a U g mk q => by obtain ⟨q0, qP, qK⟩ := q; exact ⟨q0, qP, va_K.moved (u := U) (U := U.calling g mk a) (Vm.Alike.refl U.vm) qK⟩, va_recv hKc hPc (ci := 4) (q0 := 0) rfl rfl, fun U hU hW => ⟨rfl, by rw [hU]; exact hPc, va_K.moved hW.alike hKc⟩⟩ rfl rfl hl.1 rfl (lv_room (Nat.le_of_ble_eq_true rfl)) dX7_pollLast_10 ⟨Nat.le_of_ble_eq_true rfl, Nat.le_of_ble_eq_true rfl⟩) (fun r_4 hw_3 => ?_)
  subst hw_3
  refine lv_cvi (congrArg oI (hz)) ?_
  refine lv_cvi ((rfl : oI (some z) = nI z)) ?_
  refine lv_istore_n (lv' := [(3, .int (nI z)), (2, .ref s0), (0, .ref q), (1, .int (nI 0))]) hx hb dX7_pollLast_13 rfl hl (by decide) rfl (fun ls hl => ?_)
  refine lv_iload_n hx hb dX7_pollLast_14 rfl (lv_at hl 0 rfl) ?_
  have hPc := hP.sub (ws' := []) [] rfl
  have hKc := hK.sub (tys' := []) [] rfl
  refine va_csv (W.runS (As := [.int (nI z)]) (rest := []) ⟨hx, hb, hml, hown, hts⟩ (c_X7_needMember l dC dI z (by first | assumption | omega)) (va_cwS 1 hts gX7_pollLast_X7_needMember rfl rfl rfl (by decide +kernel) ⟨Nat.le_of_ble_eq_true rfl, Nat.le_of_ble_eq_true rfl⟩) ⟨fun a U g mk q => by obtain ⟨q0, qP, qK⟩ := q; exact ⟨q0, qP, va_K.moved (u := U) (U := U.calling g mk a) (Vm.Alike.refl U.vm) qK⟩, fun U hU hW => ⟨rfl, by rw [hU]; exact hPc, va_K.moved hW.alike hKc⟩⟩ rfl rfl hl.1 rfl (lv_room (Nat.le_of_ble_eq_true rfl)) dX7_pollLast_15 ⟨Nat.le_of_ble_eq_true rfl, Nat.le_of_ble_eq_true rfl⟩) (fun _ => ?_)
  refine lv_aload_n hx hb dX7_pollLast_18 rfl (lv_at hl 1 rfl) ?_
  refine lv_iload_n hx hb dX7_pollLast_19 rfl (lv_at hl 0 rfl) ?_
  have hPc := hP.sub (ws' := [(s0, .inr (3, [.ref tq, .ref rq, .ref uq])), (tq, .inr (4, [.ref ca, .long sm, .int (oI lo)])), (ca, .inl (cJ, 64, .inr (.inl fc))), (rq, .inr (5, [.ref rb])), (rb, .inr (0, [.ref rd])), (rd, .inl (cJ, 128, .inr (.inl ft))), (uq, .inr (1, [.ref bm, .ref bs])), (bm, .inr (0, [.ref am])), (am, .inl (cJ, 64, .inr (.inl fm))), (bs, .inr (0, [.ref ap])), (ap, .inl (cJ, 64, .inr (.inl fs)))]) [1, 2, 3, 4, 5, 6, 7, 8, 9, 10, 11] rfl
  have hKc := hK.sub (tys' := [(cJ, .long)]) [0] rfl
  have hDc := hD.sub (ws' := [(s0, .inr (3, [.ref tq, .ref rq, .ref uq])), (tq, .inr (4, [.ref ca, .long sm, .int (oI lo)])), (ca, .inl (cJ, 64, .inr (.inl fc))), (rq, .inr (5, [.ref rb])), (rb, .inr (0, [.ref rd])), (rd, .inl (cJ, 128, .inr (.inl ft))), (uq, .inr (1, [.ref bm, .ref bs])), (bm, .inr (0, [.ref am])), (am, .inl (cJ, 64, .inr (.inl fm))), (bs, .inr (0, [.ref ap])), (ap, .inl (cJ, 64, .inr (.inl fs)))]) [1, 2, 3, 4, 5, 6, 7, 8, 9, 10, 11] (by decide) rfl
  have hFc := va_free (wc := [(s0, .inr (3, [.ref tq, .ref rq, .ref uq])), (tq, .inr (4, [.ref ca, .long sm, .int (oI lo)])), (ca, .inl (cJ, 64, .inr (.inl fc))), (rq, .inr (5, [.ref rb])), (rb, .inr (0, [.ref rd])), (rd, .inl (cJ, 128, .inr (.inl ft))), (uq, .inr (1, [.ref bm, .ref bs])), (bm, .inr (0, [.ref am])), (am, .inl (cJ, 64, .inr (.inl fm))), (bs, .inr (0, [.ref ap])), (ap, .inl (cJ, 64, .inr (.inl fs)))]) hD hS hA [1, 2, 3, 4, 5, 6, 7, 8, 9, 10, 11] rfl
  refine va_calli (va_runV (As := [.int (nI z)]) (rest := []) ⟨hx, hb, hml, hown, hts⟩ (c_X3_take l dC dI s0 tq ca rq rb rd uq bm am bs ap cJ fm fs ft fc sm lo z s.heap.size (by first | assumption | omega) (by first | assumption | omega)) (cwV 1 hts gX7_pollLast_X3_take rfl rfl rfl (by decide +kernel) ⟨Nat.le_of_ble_eq_true rfl, Nat.le_of_ble_eq_true rfl⟩) ⟨fun a U g mk q => by obtain ⟨q0, q1, qP, qK, qD⟩ := q; exact ⟨q0, q1, qP, va_K.moved (u := U) (U := U.calling g mk a) (Vm.Alike.refl U.vm) qK, qD⟩, va_recv hKc hPc (ci := 3) (q0 := 0) rfl rfl, fun U hU hW => ⟨rfl, by rw [hU], by rw [hU]; exact hPc, va_K.moved hW.alike hKc, hDc.weaken (fun _ _ _ _ => trivial)⟩⟩ rfl rfl hl.1 rfl (lv_room (Nat.le_of_ble_eq_true rfl)) dX7_pollLast_20 ⟨Nat.le_of_ble_eq_true rfl, Nat.le_of_ble_eq_true rfl⟩) hS (fun q _ h => hFc q h) hFc (fun r_9 u_8 t9 H1 locs ht hvm hw_7 hB hz1 hk1 hS => ?_)
  obtain ⟨fm'_10, fs'_11, ft'_12, fc'_13, sm'_14, lo'_15⟩ := u_8
  obtain ⟨hP1, hK1, hD1⟩ := hB
  rw [ht] at hP1
  have hK1 := va_K.moved hvm.symm hK1
  try dsimp only at hw_7 hP1 hK1 hD1
  obtain ⟨hP, hD⟩ := va_join (wr := [(q, .inr (6, [.ref s0, .ref s1, .ref s2]))]) (w1 := [(s0, .inr (3, [.ref tq, .ref rq, .ref uq])), (tq, .inr (4, [.ref ca, .long sm'_14, .int (oI lo'_15)])), (ca, .inl (cJ, 64, .inr (.inl fc'_13))), (rq, .inr (5, [.ref rb])), (rb, .inr (0, [.ref rd])), (rd, .inl (cJ, 128, .inr (.inl ft'_12))), (uq, .inr (1, [.ref bm, .ref bs])), (bm, .inr (0, [.ref am])), (am, .inl (cJ, 64, .inr (.inl fm'_10))), (bs, .inr (0, [.ref ap])), (ap, .inl (cJ, 64, .inr (.inl fs'_11)))]) hP hD [1, 2, 3, 4, 5, 6, 7, 8, 9, 10, 11] [0] rfl rfl (by decide) (by decide) hk1 hFc hP1 hD1
  generalize H1 = H at hP hS ⊢
  have hP : va_P (dC, dI) vwCl [(q, .inr (6, [.ref s0, .ref s1, .ref s2])), (s0, .inr (3, [.ref tq, .ref rq, .ref uq])), (tq, .inr (4, [.ref ca, .long sm'_14, .int (oI lo'_15)])), (ca, .inl (cJ, 64, .inr (.inl fc'_13))), (rq, .inr (5, [.ref rb])), (rb, .inr (0, [.ref rd])), (rd, .inl (cJ, 128, .inr (.inl ft'_12))), (uq, .inr (1, [.ref bm, .ref bs])), (bm, .inr (0, [.ref am])), (am, .inl (cJ, 64, .inr (.inl fm'_10))), (bs, .inr (0, [.ref ap])), (ap, .inl (cJ, 64, .inr (.inl fs'_11)))] H := hP
  have hD : va_D A [(q, .inr (6, [.ref s0, .ref s1, .ref s2])), (s0, .inr (3, [.ref tq, .ref rq, .ref uq])), (tq, .inr (4, [.ref ca, .long sm'_14, .int (oI lo'_15)])), (ca, .inl (cJ, 64, .inr (.inl fc'_13))), (rq, .inr (5, [.ref rb])), (rb, .inr (0, [.ref rd])), (rd, .inl (cJ, 128, .inr (.inl ft'_12))), (uq, .inr (1, [.ref bm, .ref bs])), (bm, .inr (0, [.ref am])), (am, .inl (cJ, 64, .inr (.inl fm'_10))), (bs, .inr (0, [.ref ap])), (ap, .inl (cJ, 64, .inr (.inl fs'_11)))] := hD
  obtain ⟨he, hw_7⟩ := hw_7
  subst he
  refine lv_pop hx hb dX7_pollLast_23 rfl ?_
  refine lv_iload_n hx hb dX7_pollLast_24 rfl (lv_at hl 0 rfl) ?_
  have hP9 := hP.sub (ws' := [(q, .inr (6, [.ref s0, .ref s1, .ref s2])), (s0, .inr (3, [.ref tq, .ref rq, .ref uq])), (tq, .inr (4, [.ref ca, .long sm'_14, .int (oI lo'_15)])), (ca, .inl (cJ, 64, .inr (.inl fc'_13))), (rq, .inr (5, [.ref rb])), (rb, .inr (0, [.ref rd])), (rd, .inl (cJ, 128, .inr (.inl ft'_12))), (uq, .inr (1, [.ref bm, .ref bs])), (bm, .inr (0, [.ref am])), (am, .inl (cJ, 64, .inr (.inl fm'_10))), (bs, .inr (0, [.ref ap])), (ap, .inl (cJ, 64, .inr (.inl fs'_11)))]) [0, 1, 2, 3, 4, 5, 6, 7, 8, 9, 10, 11] rfl
  have hD9 := hD.sub (ws' := [(q, .inr (6, [.ref s0, .ref s1, .ref s2])), (s0, .inr (3, [.ref tq, .ref rq, .ref uq])), (tq, .inr (4, [.ref ca, .long sm'_14, .int (oI lo'_15)])), (ca, .inl (cJ, 64, .inr (.inl fc'_13))), (rq, .inr (5, [.ref rb])), (rb, .inr (0, [.ref rd])), (rd, .inl (cJ, 128, .inr (.inl ft'_12))), (uq, .inr (1, [.ref bm, .ref bs])), (bm, .inr (0, [.ref am])), (am, .inl (cJ, 64, .inr (.inl fm'_10))), (bs, .inr (0, [.ref ap])), (ap, .inl (cJ, 64, .inr (.inl fs'_11)))]) [0, 1, 2, 3, 4, 5, 6, 7, 8, 9, 10, 11] (by decide) rfl
  have hK9 := hK.sub (tys' := [(cJ, .long)]) [0] rfl
  exact W.iret (v := nI z) hx hb hr (fun t9 ht hW => ⟨⟨nI z, ⟨fm'_10, fs'_11, ft'_12, fc'_13, sm'_14, lo'_15⟩, rfl, (show (nI z) = nI z ∧ NI fm'_10 fs'_11 ft'_12 fc'_13 sm'_14 lo'_15 ∧ (∀ x, x < 4096 → bo fm'_10 x = del (bo fm) z x) ∧ ∀ x, x < 4096 → bo fs'_11 x = takeP (bo fm) (bo fs) z x from ⟨rfl, hw_7⟩), by rw [ht]; exact hP9, va_K.moved hW.alike hK9, hD9⟩, hS.F ht⟩) hS.2.2 dX7_pollLast_25
set_option maxHeartbeats 4000000 in
set_option maxRecDepth 100000 in
/-- insert, set 1 -/
theorem c_X7_insert_1 (l : Launch) (dC : Nat → ClassId) (dI : Nat → Nat → Nat) (q : Nat) (s0 : Nat) (s1 : Nat) (s2 : Nat) (tq : Nat) (ca : Nat) (rq : Nat) (rb : Nat) (rd : Nat) (uq : Nat) (bm : Nat) (am : Nat) (bs : Nat) (ap : Nat) (cJ : ClassId) (fm : Nat → Int64) (fs : Nat → Int64) (ft : Nat → Int64) (fc : Nat → Int64) (sm : Int64) (lo : Option Nat) (k : Nat) (sz : Nat) (hN : NI fm fs ft fc sm lo) (hk : k < 4096) : Met l yX7_insert wsX7_insert ({ frames := 7, cells := 0, slots := 0, locals := 156 }) (va_Pc [.ref q, .int (nI 1), .int (nI k)] (fun U => U.heap.size = sz ∧ va_P (dC, dI) vwCl [(q, .inr (6, [.ref s0, .ref s1, .ref s2])), (s1, .inr (3, [.ref tq, .ref rq, .ref uq])), (tq, .inr (4, [.ref ca, .long sm, .int (oI lo)])), (ca, .inl (cJ, 64, .inr (.inl fc))), (rq, .inr (5, [.ref rb])), (rb, .inr (0, [.ref rd])), (rd, .inl (cJ, 128, .inr (.inl ft))), (uq, .inr (1, [.ref bm, .ref bs])), (bm, .inr (0, [.ref am])), (am, .inl (cJ, 64, .inr (.inl fm))), (bs, .inr (0, [.ref ap])), (ap, .inl (cJ, 64, .inr (.inl fs)))] U.heap ∧ va_K (dC, dI) vwCl [(cJ, .long)] U ∧ va_D (fun _ => True) [(q, .inr (6, [.ref s0, .ref s1, .ref s2])), (s1, .inr (3, [.ref tq, .ref rq, .ref uq])), (tq, .inr (4, [.ref ca, .long sm, .int (oI lo)])), (ca, .inl (cJ, 64, .inr (.inl fc))), (rq, .inr (5, [.ref rb])), (rb, .inr (0, [.ref rd])), (rd, .inl (cJ, 128, .inr (.inl ft))), (uq, .inr (1, [.ref bm, .ref bs])), (bm, .inr (0, [.ref am])), (am, .inl (cJ, 64, .inr (.inl fm))), (bs, .inr (0, [.ref ap])), (ap, .inl (cJ, 64, .inr (.inl fs)))])) (va_Qi (fun (r : Int32) (u : (Nat → Int64) × (Nat → Int64) × (Nat → Int64) × (Nat → Int64) × Int64 × (Option Nat)) => r = b2i (!bo fm k) ∧ NI u.1 u.2.1 u.2.2.1 u.2.2.2.1 u.2.2.2.2.1 u.2.2.2.2.2 ∧ (∀ x, x < 4096 → bo u.1 x = ins (bo fm) k x) ∧ ∀ x, x < 4096 → bo u.2.1 x = putP (bo fm) (bo fs) k x) (fun (u : (Nat → Int64) × (Nat → Int64) × (Nat → Int64) × (Nat → Int64) × Int64 × (Option Nat)) (t : State) => va_P (dC, dI) vwCl [(q, .inr (6, [.ref s0, .ref s1, .ref s2])), (s1, .inr (3, [.ref tq, .ref rq, .ref uq])), (tq, .inr (4, [.ref ca, .long u.2.2.2.2.1, .int (oI u.2.2.2.2.2)])), (ca, .inl (cJ, 64, .inr (.inl u.2.2.2.1))), (rq, .inr (5, [.ref rb])), (rb, .inr (0, [.ref rd])), (rd, .inl (cJ, 128, .inr (.inl u.2.2.1))), (uq, .inr (1, [.ref bm, .ref bs])), (bm, .inr (0, [.ref am])), (am, .inl (cJ, 64, .inr (.inl u.1))), (bs, .inr (0, [.ref ap])), (ap, .inl (cJ, 64, .inr (.inl u.2.1)))] t.heap ∧ va_K (dC, dI) vwCl [(cJ, .long)] t ∧ va_D (va_A [(q, .inr (6, [.ref s0, .ref s1, .ref s2])), (s1, .inr (3, [.ref tq, .ref rq, .ref uq])), (tq, .inr (4, [.ref ca, .long sm, .int (oI lo)])), (ca, .inl (cJ, 64, .inr (.inl fc))), (rq, .inr (5, [.ref rb])), (rb, .inr (0, [.ref rd])), (rd, .inl (cJ, 128, .inr (.inl ft))), (uq, .inr (1, [.ref bm, .ref bs])), (bm, .inr (0, [.ref am])), (am, .inl (cJ, 64, .inr (.inl fm))), (bs, .inr (0, [.ref ap])), (ap, .inl (cJ, 64, .inr (.inl fs)))] sz) [(q, .inr (6, [.ref s0, .ref s1, .ref s2])), (s1, .inr (3, [.ref tq, .ref rq, .ref uq])), (tq, .inr (4, [.ref ca, .long u.2.2.2.2.1, .int (oI u.2.2.2.2.2)])), (ca, .inl (cJ, 64, .inr (.inl u.2.2.2.1))), (rq, .inr (5, [.ref rb])), (rb, .inr (0, [.ref rd])), (rd, .inl (cJ, 128, .inr (.inl u.2.2.1))), (uq, .inr (1, [.ref bm, .ref bs])), (bm, .inr (0, [.ref am])), (am, .inl (cJ, 64, .inr (.inl u.1))), (bs, .inr (0, [.ref ap])), (ap, .inl (cJ, 64, .inr (.inl u.2.1)))]) (va_A [(q, .inr (6, [.ref s0, .ref s1, .ref s2])), (s1, .inr (3, [.ref tq, .ref rq, .ref uq])), (tq, .inr (4, [.ref ca, .long sm, .int (oI lo)])), (ca, .inl (cJ, 64, .inr (.inl fc))), (rq, .inr (5, [.ref rb])), (rb, .inr (0, [.ref rd])), (rd, .inl (cJ, 128, .inr (.inl ft))), (uq, .inr (1, [.ref bm, .ref bs])), (bm, .inr (0, [.ref am])), (am, .inl (cJ, 64, .inr (.inl fm))), (bs, .inr (0, [.ref ap])), (ap, .inl (cJ, 64, .inr (.inl fs)))] sz)) 0 0 (va_A [(q, .inr (6, [.ref s0, .ref s1, .ref s2])), (s1, .inr (3, [.ref tq, .ref rq, .ref uq])), (tq, .inr (4, [.ref ca, .long sm, .int (oI lo)])), (ca, .inl (cJ, 64, .inr (.inl fc))), (rq, .inr (5, [.ref rb])), (rb, .inr (0, [.ref rd])), (rd, .inl (cJ, 128, .inr (.inl ft))), (uq, .inr (1, [.ref bm, .ref bs])), (bm, .inr (0, [.ref am])), (am, .inl (cJ, 64, .inr (.inl fm))), (bs, .inr (0, [.ref ap])), (ap, .inl (cJ, 64, .inr (.inl fs)))] sz) := by
  refine Met.ofW (cc := cX7_insert) (maxL := 4) (ret := (some .boolean)) (by decide) rfl ?_
  intro p e s m args below meth c s₁ B hml hv
  obtain ⟨rfl, hsz, hP, hK, hD0⟩ := hv
  have hx := B.exec
  have hb := B.bytes
  have hr := B.returns
  have hts := atoms_spec (ws := wsX7_insert) B.pre
  have hown : s.vm.findClass RX7 = some m.cls := findClass_of_methodNamed B.named
  have hlocks := B.notSynchronized
  subst hsz
  have hD := hD0.self (sz := s.heap.size)
  generalize hAe : va_A [(q, .inr (6, [.ref s0, .ref s1, .ref s2])), (s1, .inr (3, [.ref tq, .ref rq, .ref uq])), (tq, .inr (4, [.ref ca, .long sm, .int (oI lo)])), (ca, .inl (cJ, 64, .inr (.inl fc))), (rq, .inr (5, [.ref rb])), (rb, .inr (0, [.ref rd])), (rd, .inl (cJ, 128, .inr (.inl ft))), (uq, .inr (1, [.ref bm, .ref bs])), (bm, .inr (0, [.ref am])), (am, .inl (cJ, 64, .inr (.inl fm))), (bs, .inr (0, [.ref ap])), (ap, .inl (cJ, 64, .inr (.inl fs)))] s.heap.size = A at hD ⊢
  have hA : ∀ q : Nat, s.heap.size ≤ q → A q := fun q h => by rw [← hAe]; exact Or.inr h
  have hS : va_S A s.heap s.heap [] := va_S.rf
  have hP : va_P (dC, dI) vwCl [(q, .inr (6, [.ref s0, .ref s1, .ref s2])), (s1, .inr (3, [.ref tq, .ref rq, .ref uq])), (tq, .inr (4, [.ref ca, .long sm, .int (oI lo)])), (ca, .inl (cJ, 64, .inr (.inl fc))), (rq, .inr (5, [.ref rb])), (rb, .inr (0, [.ref rd])), (rd, .inl (cJ, 128, .inr (.inl ft))), (uq, .inr (1, [.ref bm, .ref bs])), (bm, .inr (0, [.ref am])), (am, .inl (cJ, 64, .inr (.inl fm))), (bs, .inr (0, [.ref ap])), (ap, .inl (cJ, 64, .inr (.inl fs)))] s.heap := hP
  have hl := lv_entry ([.ref q, .int (nI 1), .int (nI k)]) (n := 4) (Nat.le_of_ble_eq_true rfl)
  rw [lg_entry_eq]
  generalize (lg_sl ([.ref q, .int (nI 1), .int (nI k)]) ++ List.replicate (4 - (lg_sl ([.ref q, .int (nI 1), .int (nI k)])).length) Slot.unset).toArray = ls at hl ⊢
  have hl : lv_has ls 4 [(0, .ref q), (1, .int (nI 1)), (2, .int (nI k))] := hl
  refine lv_aload_n hx hb dX7_insert_0 rfl (lv_at hl 0 rfl) ?_
  refine lv_iload_n hx hb dX7_insert_1 rfl (lv_at hl 1 rfl) ?_
  have hPc := hP.sub (ws' := [(q, .inr (6, [.ref s0, .ref s1, .ref s2]))]) [0] rfl
  have hKc := hK.sub (tys' := []) [] rfl
  refine va_csr (W.runV (As := [.int (nI 1)]) (rest := []) ⟨hx, hb, hml, hown, hts⟩ (c_X7_chosenSet_1 l dC dI q s0 s1 s2 ) (cwV 1 hts gX7_insert_X7_chosenSet rfl rfl rfl (by decide +kernel) ⟨Nat.le_of_ble_eq_true rfl, Nat.le_of_ble_eq_true rfl⟩) ⟨fun a U g mk q => by obtain ⟨q0, qP, qK⟩ := q; exact ⟨q0, qP, va_K.moved (u := U) (U := U.calling g mk a) (Vm.Alike.refl U.vm) qK⟩, va_recv hKc hPc (ci := 6) (q0 := 0) rfl rfl, fun U hU hW => ⟨rfl, by rw [hU]; exact hPc, va_K.moved hW.alike hKc⟩⟩ rfl rfl hl.1 rfl (lv_room (Nat.le_of_ble_eq_true rfl)) dX7_insert_2 ⟨Nat.le_of_ble_eq_true rfl, Nat.le_of_ble_eq_true rfl⟩) (fun r_2 hw_1 => ?_)
  have hw_1 := hw_1.symm
  subst hw_1
  refine lv_astore_n (lv' := [(3, .ref s1), (0, .ref q), (1, .int (nI 1)), (2, .int (nI k))]) hx hb dX7_insert_5 rfl hl (by decide) rfl (fun ls hl => ?_)
  refine lv_iload_n hx hb dX7_insert_6 rfl (lv_at hl 3 rfl) ?_
  have hPc := hP.sub (ws' := []) [] rfl
  have hKc := hK.sub (tys' := []) [] rfl
  refine va_csv (W.runS (As := [.int (nI k)]) (rest := []) ⟨hx, hb, hml, hown, hts⟩ (c_X7_needNumber l dC dI k (by first | assumption | omega)) (va_cwS 1 hts gX7_insert_X7_needNumber rfl rfl rfl (by decide +kernel) ⟨Nat.le_of_ble_eq_true rfl, Nat.le_of_ble_eq_true rfl⟩) ⟨fun a U g mk q => by obtain ⟨q0, qP, qK⟩ := q; exact ⟨q0, qP, va_K.moved (u := U) (U := U.calling g mk a) (Vm.Alike.refl U.vm) qK⟩, fun U hU hW => ⟨rfl, by rw [hU]; exact hPc, va_K.moved hW.alike hKc⟩⟩ rfl rfl hl.1 rfl (lv_room (Nat.le_of_ble_eq_true rfl)) dX7_insert_7 ⟨Nat.le_of_ble_eq_true rfl, Nat.le_of_ble_eq_true rfl⟩) (fun _ => ?_)
  refine lv_aload_n hx hb dX7_insert_10 rfl (lv_at hl 0 rfl) ?_
  refine lv_iload_n hx hb dX7_insert_11 rfl (lv_at hl 3 rfl) ?_
  have hPc := hP.sub (ws' := [(s1, .inr (3, [.ref tq, .ref rq, .ref uq])), (tq, .inr (4, [.ref ca, .long sm, .int (oI lo)])), (ca, .inl (cJ, 64, .inr (.inl fc))), (rq, .inr (5, [.ref rb])), (rb, .inr (0, [.ref rd])), (rd, .inl (cJ, 128, .inr (.inl ft))), (uq, .inr (1, [.ref bm, .ref bs])), (bm, .inr (0, [.ref am])), (am, .inl (cJ, 64, .inr (.inl fm))), (bs, .inr (0, [.ref ap])), (ap, .inl (cJ, 64, .inr (.inl fs)))]) [1, 2, 3, 4, 5, 6, 7, 8, 9, 10, 11] rfl
  have hKc := hK.sub (tys' := [(cJ, .long)]) [0] rfl
  have hDc := hD.sub (ws' := [(s1, .inr (3, [.ref tq, .ref rq, .ref uq])), (tq, .inr (4, [.ref ca, .long sm, .int (oI lo)])), (ca, .inl (cJ, 64, .inr (.inl fc))), (rq, .inr (5, [.ref rb])), (rb, .inr (0, [.ref rd])), (rd, .inl (cJ, 128, .inr (.inl ft))), (uq, .inr (1, [.ref bm, .ref bs])), (bm, .inr (0, [.ref am])), (am, .inl (cJ, 64, .inr (.inl fm))), (bs, .inr (0, [.ref ap])), (ap, .inl (cJ, 64, .inr (.inl fs)))]) [1, 2, 3, 4, 5, 6, 7, 8, 9, 10, 11] (by decide) rfl
  have hFc := va_free (wc := [(s1, .inr (3, [.ref tq, .ref rq, .ref uq])), (tq, .inr (4, [.ref ca, .long sm, .int (oI lo)])), (ca, .inl (cJ, 64, .inr (.inl fc))), (rq, .inr (5, [.ref rb])), (rb, .inr (0, [.ref rd])), (rd, .inl (cJ, 128, .inr (.inl ft))), (uq, .inr (1, [.ref bm, .ref bs])), (bm, .inr (0, [.ref am])), (am, .inl (cJ, 64, .inr (.inl fm))), (bs, .inr (0, [.ref ap])), (ap, .inl (cJ, 64, .inr (.inl fs)))]) hD hS hA [1, 2, 3, 4, 5, 6, 7, 8, 9, 10, 11] rfl
  refine va_calli (va_runV (As := [.int (nI k)]) (rest := []) ⟨hx, hb, hml, hown, hts⟩ (c_X3_put l dC dI s1 tq ca rq rb rd uq bm am bs ap cJ fm fs ft fc sm lo k s.heap.size (by first | assumption | omega) (by first | assumption | omega)) (cwV 1 hts gX7_insert_X3_put rfl rfl rfl (by decide +kernel) ⟨Nat.le_of_ble_eq_true rfl, Nat.le_of_ble_eq_true rfl⟩) ⟨fun a U g mk q => by obtain ⟨q0, q1, qP, qK, qD⟩ := q; exact ⟨q0, q1, qP, va_K.moved (u := U) (U := U.calling g mk a) (Vm.Alike.refl U.vm) qK, qD⟩, va_recv hKc hPc (ci := 3) (q0 := 0) rfl rfl, fun U hU hW => ⟨rfl, by rw [hU], by rw [hU]; exact hPc, va_K.moved hW.alike hKc, hDc.weaken (fun _ _ _ _ => trivial)⟩⟩ rfl rfl hl.1 rfl (lv_room (Nat.le_of_ble_eq_true rfl)) dX7_insert_12 ⟨Nat.le_of_ble_eq_true rfl, Nat.le_of_ble_eq_true rfl⟩) hS (fun q _ h => hFc q h) hFc (fun r_7 u_6 t9 H1 locs ht hvm hw_5 hB hz1 hk1 hS => ?_)
  obtain ⟨fm'_8, fs'_9, ft'_10, fc'_11, sm'_12, lo'_13⟩ := u_6
  obtain ⟨hP1, hK1, hD1⟩ := hB
  rw [ht] at hP1
  have hK1 := va_K.moved hvm.symm hK1
  try dsimp only at hw_5 hP1 hK1 hD1
  obtain ⟨hP, hD⟩ := va_join (wr := [(q, .inr (6, [.ref s0, .ref s1, .ref s2]))]) (w1 := [(s1, .inr (3, [.ref tq, .ref rq, .ref uq])), (tq, .inr (4, [.ref ca, .long sm'_12, .int (oI lo'_13)])), (ca, .inl (cJ, 64, .inr (.inl fc'_11))), (rq, .inr (5, [.ref rb])), (rb, .inr (0, [.ref rd])), (rd, .inl (cJ, 128, .inr (.inl ft'_10))), (uq, .inr (1, [.ref bm, .ref bs])), (bm, .inr (0, [.ref am])), (am, .inl (cJ, 64, .inr (.inl fm'_8))), (bs, .inr (0, [.ref ap])), (ap, .inl (cJ, 64, .inr (.inl fs'_9)))]) hP hD [1, 2, 3, 4, 5, 6, 7, 8, 9, 10, 11] [0] rfl rfl (by decide) (by decide) hk1 hFc hP1 hD1
  generalize H1 = H at hP hS ⊢
  have hP : va_P (dC, dI) vwCl [(q, .inr (6, [.ref s0, .ref s1, .ref s2])), (s1, .inr (3, [.ref tq, .ref rq, .ref uq])), (tq, .inr (4, [.ref ca, .long sm'_12, .int (oI lo'_13)])), (ca, .inl (cJ, 64, .inr (.inl fc'_11))), (rq, .inr (5, [.ref rb])), (rb, .inr (0, [.ref rd])), (rd, .inl (cJ, 128, .inr (.inl ft'_10))), (uq, .inr (1, [.ref bm, .ref bs])), (bm, .inr (0, [.ref am])), (am, .inl (cJ, 64, .inr (.inl fm'_8))), (bs, .inr (0, [.ref ap])), (ap, .inl (cJ, 64, .inr (.inl fs'_9)))] H := hP
  have hD : va_D A [(q, .inr (6, [.ref s0, .ref s1, .ref s2])), (s1, .inr (3, [.ref tq, .ref rq, .ref uq])), (tq, .inr (4, [.ref ca, .long sm'_12, .int (oI lo'_13)])), (ca, .inl (cJ, 64, .inr (.inl fc'_11))), (rq, .inr (5, [.ref rb])), (rb, .inr (0, [.ref rd])), (rd, .inl (cJ, 128, .inr (.inl ft'_10))), (uq, .inr (1, [.ref bm, .ref bs])), (bm, .inr (0, [.ref am])), (am, .inl (cJ, 64, .inr (.inl fm'_8))), (bs, .inr (0, [.ref ap])), (ap, .inl (cJ, 64, .inr (.inl fs'_9)))] := hD
  obtain ⟨he, hw_5⟩ := hw_5
  subst he
  have hP9 := hP.sub (ws' := [(q, .inr (6, [.ref s0, .ref s1, .ref s2])), (s1, .inr (3, [.ref tq, .ref rq, .ref uq])), (tq, .inr (4, [.ref ca, .long sm'_12, .int (oI lo'_13)])), (ca, .inl (cJ, 64, .inr (.inl fc'_11))), (rq, .inr (5, [.ref rb])), (rb, .inr (0, [.ref rd])), (rd, .inl (cJ, 128, .inr (.inl ft'_10))), (uq, .inr (1, [.ref bm, .ref bs])), (bm, .inr (0, [.ref am])), (am, .inl (cJ, 64, .inr (.inl fm'_8))), (bs, .inr (0, [.ref ap])), (ap, .inl (cJ, 64, .inr (.inl fs'_9)))]) [0, 1, 2, 3, 4, 5, 6, 7, 8, 9, 10, 11] rfl
  have hD9 := hD.sub (ws' := [(q, .inr (6, [.ref s0, .ref s1, .ref s2])), (s1, .inr (3, [.ref tq, .ref rq, .ref uq])), (tq, .inr (4, [.ref ca, .long sm'_12, .int (oI lo'_13)])), (ca, .inl (cJ, 64, .inr (.inl fc'_11))), (rq, .inr (5, [.ref rb])), (rb, .inr (0, [.ref rd])), (rd, .inl (cJ, 128, .inr (.inl ft'_10))), (uq, .inr (1, [.ref bm, .ref bs])), (bm, .inr (0, [.ref am])), (am, .inl (cJ, 64, .inr (.inl fm'_8))), (bs, .inr (0, [.ref ap])), (ap, .inl (cJ, 64, .inr (.inl fs'_9)))]) [0, 1, 2, 3, 4, 5, 6, 7, 8, 9, 10, 11] (by decide) rfl
  have hK9 := hK.sub (tys' := [(cJ, .long)]) [0] rfl
  exact W.zret (v := b2i (!bo fm k)) hx hb hr (b2i_nar _) (fun t9 ht hW => ⟨⟨b2i (!bo fm k), ⟨fm'_8, fs'_9, ft'_10, fc'_11, sm'_12, lo'_13⟩, rfl, (show (b2i (!bo fm k)) = b2i (!bo fm k) ∧ NI fm'_8 fs'_9 ft'_10 fc'_11 sm'_12 lo'_13 ∧ (∀ x, x < 4096 → bo fm'_8 x = ins (bo fm) k x) ∧ ∀ x, x < 4096 → bo fs'_9 x = putP (bo fm) (bo fs) k x from ⟨rfl, hw_5⟩), by rw [ht]; exact hP9, va_K.moved hW.alike hK9, hD9⟩, hS.F ht⟩) hS.2.2 dX7_insert_15
set_option maxHeartbeats 4000000 in
set_option maxRecDepth 100000 in
/-- delete, set 1 -/
theorem c_X7_delete_1 (l : Launch) (dC : Nat → ClassId) (dI : Nat → Nat → Nat) (q : Nat) (s0 : Nat) (s1 : Nat) (s2 : Nat) (tq : Nat) (ca : Nat) (rq : Nat) (rb : Nat) (rd : Nat) (uq : Nat) (bm : Nat) (am : Nat) (bs : Nat) (ap : Nat) (cJ : ClassId) (fm : Nat → Int64) (fs : Nat → Int64) (ft : Nat → Int64) (fc : Nat → Int64) (sm : Int64) (lo : Option Nat) (k : Nat) (sz : Nat) (hN : NI fm fs ft fc sm lo) (hk : k < 4096) : Met l yX7_delete wsX7_delete ({ frames := 7, cells := 0, slots := 0, locals := 159 }) (va_Pc [.ref q, .int (nI 1), .int (nI k)] (fun U => U.heap.size = sz ∧ va_P (dC, dI) vwCl [(q, .inr (6, [.ref s0, .ref s1, .ref s2])), (s1, .inr (3, [.ref tq, .ref rq, .ref uq])), (tq, .inr (4, [.ref ca, .long sm, .int (oI lo)])), (ca, .inl (cJ, 64, .inr (.inl fc))), (rq, .inr (5, [.ref rb])), (rb, .inr (0, [.ref rd])), (rd, .inl (cJ, 128, .inr (.inl ft))), (uq, .inr (1, [.ref bm, .ref bs])), (bm, .inr (0, [.ref am])), (am, .inl (cJ, 64, .inr (.inl fm))), (bs, .inr (0, [.ref ap])), (ap, .inl (cJ, 64, .inr (.inl fs)))] U.heap ∧ va_K (dC, dI) vwCl [(cJ, .long)] U ∧ va_D (fun _ => True) [(q, .inr (6, [.ref s0, .ref s1, .ref s2])), (s1, .inr (3, [.ref tq, .ref rq, .ref uq])), (tq, .inr (4, [.ref ca, .long sm, .int (oI lo)])), (ca, .inl (cJ, 64, .inr (.inl fc))), (rq, .inr (5, [.ref rb])), (rb, .inr (0, [.ref rd])), (rd, .inl (cJ, 128, .inr (.inl ft))), (uq, .inr (1, [.ref bm, .ref bs])), (bm, .inr (0, [.ref am])), (am, .inl (cJ, 64, .inr (.inl fm))), (bs, .inr (0, [.ref ap])), (ap, .inl (cJ, 64, .inr (.inl fs)))])) (va_Qi (fun (r : Int32) (u : (Nat → Int64) × (Nat → Int64) × (Nat → Int64) × (Nat → Int64) × Int64 × (Option Nat)) => r = b2i (bo fm k) ∧ NI u.1 u.2.1 u.2.2.1 u.2.2.2.1 u.2.2.2.2.1 u.2.2.2.2.2 ∧ (∀ x, x < 4096 → bo u.1 x = del (bo fm) k x) ∧ ∀ x, x < 4096 → bo u.2.1 x = takeP (bo fm) (bo fs) k x) (fun (u : (Nat → Int64) × (Nat → Int64) × (Nat → Int64) × (Nat → Int64) × Int64 × (Option Nat)) (t : State) => va_P (dC, dI) vwCl [(q, .inr (6, [.ref s0, .ref s1, .ref s2])), (s1, .inr (3, [.ref tq, .ref rq, .ref uq])), (tq, .inr (4, [.ref ca, .long u.2.2.2.2.1, .int (oI u.2.2.2.2.2)])), (ca, .inl (cJ, 64, .inr (.inl u.2.2.2.1))), (rq, .inr (5, [.ref rb])), (rb, .inr (0, [.ref rd])), (rd, .inl (cJ, 128, .inr (.inl u.2.2.1))), (uq, .inr (1, [.ref bm, .ref bs])), (bm, .inr (0, [.ref am])), (am, .inl (cJ, 64, .inr (.inl u.1))), (bs, .inr (0, [.ref ap])), (ap, .inl (cJ, 64, .inr (.inl u.2.1)))] t.heap ∧ va_K (dC, dI) vwCl [(cJ, .long)] t ∧ va_D (va_A [(q, .inr (6, [.ref s0, .ref s1, .ref s2])), (s1, .inr (3, [.ref tq, .ref rq, .ref uq])), (tq, .inr (4, [.ref ca, .long sm, .int (oI lo)])), (ca, .inl (cJ, 64, .inr (.inl fc))), (rq, .inr (5, [.ref rb])), (rb, .inr (0, [.ref rd])), (rd, .inl (cJ, 128, .inr (.inl ft))), (uq, .inr (1, [.ref bm, .ref bs])), (bm, .inr (0, [.ref am])), (am, .inl (cJ, 64, .inr (.inl fm))), (bs, .inr (0, [.ref ap])), (ap, .inl (cJ, 64, .inr (.inl fs)))] sz) [(q, .inr (6, [.ref s0, .ref s1, .ref s2])), (s1, .inr (3, [.ref tq, .ref rq, .ref uq])), (tq, .inr (4, [.ref ca, .long u.2.2.2.2.1, .int (oI u.2.2.2.2.2)])), (ca, .inl (cJ, 64, .inr (.inl u.2.2.2.1))), (rq, .inr (5, [.ref rb])), (rb, .inr (0, [.ref rd])), (rd, .inl (cJ, 128, .inr (.inl u.2.2.1))), (uq, .inr (1, [.ref bm, .ref bs])), (bm, .inr (0, [.ref am])), (am, .inl (cJ, 64, .inr (.inl u.1))), (bs, .inr (0, [.ref ap])), (ap, .inl (cJ, 64, .inr (.inl u.2.1)))]) (va_A [(q, .inr (6, [.ref s0, .ref s1, .ref s2])), (s1, .inr (3, [.ref tq, .ref rq, .ref uq])), (tq, .inr (4, [.ref ca, .long sm, .int (oI lo)])), (ca, .inl (cJ, 64, .inr (.inl fc))), (rq, .inr (5, [.ref rb])), (rb, .inr (0, [.ref rd])), (rd, .inl (cJ, 128, .inr (.inl ft))), (uq, .inr (1, [.ref bm, .ref bs])), (bm, .inr (0, [.ref am])), (am, .inl (cJ, 64, .inr (.inl fm))), (bs, .inr (0, [.ref ap])), (ap, .inl (cJ, 64, .inr (.inl fs)))] sz)) 0 0 (va_A [(q, .inr (6, [.ref s0, .ref s1, .ref s2])), (s1, .inr (3, [.ref tq, .ref rq, .ref uq])), (tq, .inr (4, [.ref ca, .long sm, .int (oI lo)])), (ca, .inl (cJ, 64, .inr (.inl fc))), (rq, .inr (5, [.ref rb])), (rb, .inr (0, [.ref rd])), (rd, .inl (cJ, 128, .inr (.inl ft))), (uq, .inr (1, [.ref bm, .ref bs])), (bm, .inr (0, [.ref am])), (am, .inl (cJ, 64, .inr (.inl fm))), (bs, .inr (0, [.ref ap])), (ap, .inl (cJ, 64, .inr (.inl fs)))] sz) := by
  refine Met.ofW (cc := cX7_delete) (maxL := 4) (ret := (some .boolean)) (by decide) rfl ?_
  intro p e s m args below meth c s₁ B hml hv
  obtain ⟨rfl, hsz, hP, hK, hD0⟩ := hv
  have hx := B.exec
  have hb := B.bytes
  have hr := B.returns
  have hts := atoms_spec (ws := wsX7_delete) B.pre
  have hown : s.vm.findClass RX7 = some m.cls := findClass_of_methodNamed B.named
  have hlocks := B.notSynchronized
  subst hsz
  have hD := hD0.self (sz := s.heap.size)
  generalize hAe : va_A [(q, .inr (6, [.ref s0, .ref s1, .ref s2])), (s1, .inr (3, [.ref tq, .ref rq, .ref uq])), (tq, .inr (4, [.ref ca, .long sm, .int (oI lo)])), (ca, .inl (cJ, 64, .inr (.inl fc))), (rq, .inr (5, [.ref rb])), (rb, .inr (0, [.ref rd])), (rd, .inl (cJ, 128, .inr (.inl ft))), (uq, .inr (1, [.ref bm, .ref bs])), (bm, .inr (0, [.ref am])), (am, .inl (cJ, 64, .inr (.inl fm))), (bs, .inr (0, [.ref ap])), (ap, .inl (cJ, 64, .inr (.inl fs)))] s.heap.size = A at hD ⊢
  have hA : ∀ q : Nat, s.heap.size ≤ q → A q := fun q h => by rw [← hAe]; exact Or.inr h
  have hS : va_S A s.heap s.heap [] := va_S.rf
  have hP : va_P (dC, dI) vwCl [(q, .inr (6, [.ref s0, .ref s1, .ref s2])), (s1, .inr (3, [.ref tq, .ref rq, .ref uq])), (tq, .inr (4, [.ref ca, .long sm, .int (oI lo)])), (ca, .inl (cJ, 64, .inr (.inl fc))), (rq, .inr (5, [.ref rb])), (rb, .inr (0, [.ref rd])), (rd, .inl (cJ, 128, .inr (.inl ft))), (uq, .inr (1, [.ref bm, .ref bs])), (bm, .inr (0, [.ref am])), (am, .inl (cJ, 64, .inr (.inl fm))), (bs, .inr (0, [.ref ap])), (ap, .inl (cJ, 64, .inr (.inl fs)))] s.heap := hP
  have hl := lv_entry ([.ref q, .int (nI 1), .int (nI k)]) (n := 4) (Nat.le_of_ble_eq_true rfl)
  rw [lg_entry_eq]
  generalize (lg_sl ([.ref q, .int (nI 1), .int (nI k)]) ++ List.replicate (4 - (lg_sl ([.ref q, .int (nI 1), .int (nI k)])).length) Slot.unset).toArray = ls at hl ⊢
  have hl : lv_has ls 4 [(0, .ref q), (1, .int (nI 1)), (2, .int (nI k))] := hl
  refine lv_aload_n hx hb dX7_delete_0 rfl (lv_at hl 0 rfl) ?_
  refine lv_iload_n hx hb dX7_delete_1 rfl (lv_at hl 1 rfl) ?_
  have hPc := hP.sub (ws' := [(q, .inr (6, [.ref s0, .ref s1, .ref s2]))]) [0] rfl
  have hKc := hK.sub (tys' := []) [] rfl
  refine va_csr (W.runV (As := [.int (nI 1)]) (rest := []) ⟨hx, hb, hml, hown, hts⟩ (c_X7_chosenSet_1 l dC dI q s0 s1 s2 ) (cwV 1 hts gX7_delete_X7_chosenSet rfl rfl rfl (by decide +kernel) ⟨Nat.le_of_ble_eq_true rfl, Nat.le_of_ble_eq_true rfl⟩) ⟨fun a U g mk q => by obtain ⟨q0, qP, qK⟩ := q; exact ⟨q0, qP, va_K.moved (u := U) (U := U.calling g mk a) (Vm.Alike.refl U.vm) qK⟩, va_recv hKc hPc (ci := 6) (q0 := 0) rfl rfl, fun U hU hW => ⟨rfl, by rw [hU]; exact hPc, va_K.moved hW.alike hKc⟩⟩ rfl rfl hl.1 rfl (lv_room (Nat.le_of_ble_eq_true rfl)) dX7_delete_2 ⟨Nat.le_of_ble_eq_true rfl, Nat.le_of_ble_eq_true rfl⟩) (fun r_2 hw_1 => ?_)
  have hw_1 := hw_1.symm
  subst hw_1
  refine lv_astore_n (lv' := [(3, .ref s1), (0, .ref q), (1, .int (nI 1)), (2, .int (nI k))]) hx hb dX7_delete_5 rfl hl (by decide) rfl (fun ls hl => ?_)
  refine lv_iload_n hx hb dX7_delete_6 rfl (lv_at hl 3 rfl) ?_
  have hPc := hP.sub (ws' := []) [] rfl
  have hKc := hK.sub (tys' := []) [] rfl
  refine va_csv (W.runS (As := [.int (nI k)]) (rest := []) ⟨hx, hb, hml, hown, hts⟩ (c_X7_needNumber l dC dI k (by first | assumption | omega)) (va_cwS 1 hts gX7_delete_X7_needNumber rfl rfl rfl (by decide +kernel) ⟨Nat.le_of_ble_eq_true rfl, Nat.le_of_ble_eq_true rfl⟩) ⟨fun a U g mk q => by obtain ⟨q0, qP, qK⟩ := q; exact ⟨q0, qP, va_K.moved (u := U) (U := U.calling g mk a) (Vm.Alike.refl U.vm) qK⟩, fun U hU hW => ⟨rfl, by rw [hU]; exact hPc, va_K.moved hW.alike hKc⟩⟩ rfl rfl hl.1 rfl (lv_room (Nat.le_of_ble_eq_true rfl)) dX7_delete_7 ⟨Nat.le_of_ble_eq_true rfl, Nat.le_of_ble_eq_true rfl⟩) (fun _ => ?_)
  refine lv_aload_n hx hb dX7_delete_10 rfl (lv_at hl 0 rfl) ?_
  refine lv_iload_n hx hb dX7_delete_11 rfl (lv_at hl 3 rfl) ?_
  have hPc := hP.sub (ws' := [(s1, .inr (3, [.ref tq, .ref rq, .ref uq])), (tq, .inr (4, [.ref ca, .long sm, .int (oI lo)])), (ca, .inl (cJ, 64, .inr (.inl fc))), (rq, .inr (5, [.ref rb])), (rb, .inr (0, [.ref rd])), (rd, .inl (cJ, 128, .inr (.inl ft))), (uq, .inr (1, [.ref bm, .ref bs])), (bm, .inr (0, [.ref am])), (am, .inl (cJ, 64, .inr (.inl fm))), (bs, .inr (0, [.ref ap])), (ap, .inl (cJ, 64, .inr (.inl fs)))]) [1, 2, 3, 4, 5, 6, 7, 8, 9, 10, 11] rfl
  have hKc := hK.sub (tys' := [(cJ, .long)]) [0] rfl
  have hDc := hD.sub (ws' := [(s1, .inr (3, [.ref tq, .ref rq, .ref uq])), (tq, .inr (4, [.ref ca, .long sm, .int (oI lo)])), (ca, .inl (cJ, 64, .inr (.inl fc))), (rq, .inr (5, [.ref rb])), (rb, .inr (0, [.ref rd])), (rd, .inl (cJ, 128, .inr (.inl ft))), (uq, .inr (1, [.ref bm, .ref bs])), (bm, .inr (0, [.ref am])), (am, .inl (cJ, 64, .inr (.inl fm))), (bs, .inr (0, [.ref ap])), (ap, .inl (cJ, 64, .inr (.inl fs)))]) [1, 2, 3, 4, 5, 6, 7, 8, 9, 10, 11] (by decide) rfl
  have hFc := va_free (wc := [(s1, .inr (3, [.ref tq, .ref rq, .ref uq])), (tq, .inr (4, [.ref ca, .long sm, .int (oI lo)])), (ca, .inl (cJ, 64, .inr (.inl fc))), (rq, .inr (5, [.ref rb])), (rb, .inr (0, [.ref rd])), (rd, .inl (cJ, 128, .inr (.inl ft))), (uq, .inr (1, [.ref bm, .ref bs])), (bm, .inr (0, [.ref am])), (am, .inl (cJ, 64, .inr (.inl fm))), (bs, .inr (0, [.ref ap])), (ap, .inl (cJ, 64, .inr (.inl fs)))]) hD hS hA [1, 2, 3, 4, 5, 6, 7, 8, 9, 10, 11] rfl
  refine va_calli (va_runV (As := [.int (nI k)]) (rest := []) ⟨hx, hb, hml, hown, hts⟩ (c_X3_take l dC dI s1 tq ca rq rb rd uq bm am bs ap cJ fm fs ft fc sm lo k s.heap.size (by first | assumption | omega) (by first | assumption | omega)) (cwV 1 hts gX7_delete_X3_take rfl rfl rfl (by decide +kernel) ⟨Nat.le_of_ble_eq_true rfl, Nat.le_of_ble_eq_true rfl⟩) ⟨fun a U g mk q => by obtain ⟨q0, q1, qP, qK, qD⟩ := q; exact ⟨q0, q1, qP, va_K.moved (u := U) (U := U.calling g mk a) (Vm.Alike.refl U.vm) qK, qD⟩, va_recv hKc hPc (ci := 3) (q0 := 0) rfl rfl, fun U hU hW => ⟨rfl, by rw [hU], by rw [hU]; exact hPc, va_K.moved hW.alike hKc, hDc.weaken (fun _ _ _ _ => trivial)⟩⟩ rfl rfl hl.1 rfl (lv_room (Nat.le_of_ble_eq_true rfl)) dX7_delete_12 ⟨Nat.le_of_ble_eq_true rfl, Nat.le_of_ble_eq_true rfl⟩) hS (fun q _ h => hFc q h) hFc (fun r_7 u_6 t9 H1 locs ht hvm hw_5 hB hz1 hk1 hS => ?_)
  obtain ⟨fm'_8, fs'_9, ft'_10, fc'_11, sm'_12, lo'_13⟩ := u_6
  obtain ⟨hP1, hK1, hD1⟩ := hB
  rw [ht] at hP1
  have hK1 := va_K.moved hvm.symm hK1
  try dsimp only at hw_5 hP1 hK1 hD1
  obtain ⟨hP, hD⟩ := va_join (wr := [(q, .inr (6, [.ref s0, .ref s1, .ref s2]))]) (w1 := [(s1, .inr (3, [.ref tq, .ref rq, .ref uq])), (tq, .inr (4, [.ref ca, .long sm'_12, .int (oI lo'_13)])), (ca, .inl (cJ, 64, .inr (.inl fc'_11))), (rq, .inr (5, [.ref rb])), (rb, .inr (0, [.ref rd])), (rd, .inl (cJ, 128, .inr (.inl ft'_10))), (uq, .inr (1, [.ref bm, .ref bs])), (bm, .inr (0, [.ref am])), (am, .inl (cJ, 64, .inr (.inl fm'_8))), (bs, .inr (0, [.ref ap])), (ap, .inl (cJ, 64, .inr (.inl fs'_9)))]) hP hD [1, 2, 3, 4, 5, 6, 7, 8, 9, 10, 11] [0] rfl rfl (by decide) (by decide) hk1 hFc hP1 hD1
  generalize H1 = H at hP hS ⊢
  have hP : va_P (dC, dI) vwCl [(q, .inr (6, [.ref s0, .ref s1, .ref s2])), (s1, .inr (3, [.ref tq, .ref rq, .ref uq])), (tq, .inr (4, [.ref ca, .long sm'_12, .int (oI lo'_13)])), (ca, .inl (cJ, 64, .inr (.inl fc'_11))), (rq, .inr (5, [.ref rb])), (rb, .inr (0, [.ref rd])), (rd, .inl (cJ, 128, .inr (.inl ft'_10))), (uq, .inr (1, [.ref bm, .ref bs])), (bm, .inr (0, [.ref am])), (am, .inl (cJ, 64, .inr (.inl fm'_8))), (bs, .inr (0, [.ref ap])), (ap, .inl (cJ, 64, .inr (.inl fs'_9)))] H := hP
  have hD : va_D A [(q, .inr (6, [.ref s0, .ref s1, .ref s2])), (s1, .inr (3, [.ref tq, .ref rq, .ref uq])), (tq, .inr (4, [.ref ca, .long sm'_12, .int (oI lo'_13)])), (ca, .inl (cJ, 64, .inr (.inl fc'_11))), (rq, .inr (5, [.ref rb])), (rb, .inr (0, [.ref rd])), (rd, .inl (cJ, 128, .inr (.inl ft'_10))), (uq, .inr (1, [.ref bm, .ref bs])), (bm, .inr (0, [.ref am])), (am, .inl (cJ, 64, .inr (.inl fm'_8))), (bs, .inr (0, [.ref ap])), (ap, .inl (cJ, 64, .inr (.inl fs'_9)))] := hD
  obtain ⟨he, hw_5⟩ := hw_5
  subst he
  have hP9 := hP.sub (ws' := [(q, .inr (6, [.ref s0, .ref s1, .ref s2])), (s1, .inr (3, [.ref tq, .ref rq, .ref uq])), (tq, .inr (4, [.ref ca, .long sm'_12, .int (oI lo'_13)])), (ca, .inl (cJ, 64, .inr (.inl fc'_11))), (rq, .inr (5, [.ref rb])), (rb, .inr (0, [.ref rd])), (rd, .inl (cJ, 128, .inr (.inl ft'_10))), (uq, .inr (1, [.ref bm, .ref bs])), (bm, .inr (0, [.ref am])), (am, .inl (cJ, 64, .inr (.inl fm'_8))), (bs, .inr (0, [.ref ap])), (ap, .inl (cJ, 64, .inr (.inl fs'_9)))]) [0, 1, 2, 3, 4, 5, 6, 7, 8, 9, 10, 11] rfl
  have hD9 := hD.sub (ws' := [(q, .inr (6, [.ref s0, .ref s1, .ref s2])), (s1, .inr (3, [.ref tq, .ref rq, .ref uq])), (tq, .inr (4, [.ref ca, .long sm'_12, .int (oI lo'_13)])), (ca, .inl (cJ, 64, .inr (.inl fc'_11))), (rq, .inr (5, [.ref rb])), (rb, .inr (0, [.ref rd])), (rd, .inl (cJ, 128, .inr (.inl ft'_10))), (uq, .inr (1, [.ref bm, .ref bs])), (bm, .inr (0, [.ref am])), (am, .inl (cJ, 64, .inr (.inl fm'_8))), (bs, .inr (0, [.ref ap])), (ap, .inl (cJ, 64, .inr (.inl fs'_9)))]) [0, 1, 2, 3, 4, 5, 6, 7, 8, 9, 10, 11] (by decide) rfl
  have hK9 := hK.sub (tys' := [(cJ, .long)]) [0] rfl
  exact W.zret (v := b2i (bo fm k)) hx hb hr (b2i_nar _) (fun t9 ht hW => ⟨⟨b2i (bo fm k), ⟨fm'_8, fs'_9, ft'_10, fc'_11, sm'_12, lo'_13⟩, rfl, (show (b2i (bo fm k)) = b2i (bo fm k) ∧ NI fm'_8 fs'_9 ft'_10 fc'_11 sm'_12 lo'_13 ∧ (∀ x, x < 4096 → bo fm'_8 x = del (bo fm) k x) ∧ ∀ x, x < 4096 → bo fs'_9 x = takeP (bo fm) (bo fs) k x from ⟨rfl, hw_5⟩), by rw [ht]; exact hP9, va_K.moved hW.alike hK9, hD9⟩, hS.F ht⟩) hS.2.2 dX7_delete_15
set_option maxHeartbeats 4000000 in
set_option maxRecDepth 100000 in
/-- size, set 1 -/
theorem c_X7_size_1 (l : Launch) (dC : Nat → ClassId) (dI : Nat → Nat → Nat) (q : Nat) (s0 : Nat) (s1 : Nat) (s2 : Nat) (tq : Nat) (ca : Nat) (rq : Nat) (rb : Nat) (rd : Nat) (uq : Nat) (bm : Nat) (am : Nat) (bs : Nat) (ap : Nat) (cJ : ClassId) (fm : Nat → Int64) (fs : Nat → Int64) (ft : Nat → Int64) (fc : Nat → Int64) (sm : Int64) (lo : Option Nat) (hN : NI fm fs ft fc sm lo) : Met l yX7_size wsX7_size ({ frames := 3, cells := 0, slots := 0, locals := 65 }) (va_Pc [.ref q, .int (nI 1)] (fun U => va_Nw (.fieldLinkNest RX7 38 "SmallNumberSets$NumberSet" "buckets" "LSmallNumberSets$Buckets;" "SmallNumberSets") U ∧ va_P (dC, dI) vwCl [(q, .inr (6, [.ref s0, .ref s1, .ref s2])), (s1, .inr (3, [.ref tq, .ref rq, .ref uq])), (tq, .inr (4, [.ref ca, .long sm, .int (oI lo)])), (ca, .inl (cJ, 64, .inr (.inl fc))), (rq, .inr (5, [.ref rb])), (rb, .inr (0, [.ref rd])), (rd, .inl (cJ, 128, .inr (.inl ft))), (uq, .inr (1, [.ref bm, .ref bs])), (bm, .inr (0, [.ref am])), (am, .inl (cJ, 64, .inr (.inl fm))), (bs, .inr (0, [.ref ap])), (ap, .inl (cJ, 64, .inr (.inl fs)))] U.heap ∧ va_K (dC, dI) vwCl [(cJ, .long)] U)) (vp_Si (fun r => r = nI (fb_ct (bo fm) 4096))) 0 0 (fun _ => False) := by
  refine Met.ofW (cc := cX7_size) (maxL := 2) (ret := (some .int)) (by decide) rfl ?_
  intro p e s m args below meth c s₁ B hml hv
  obtain ⟨rfl, nw0, hP, hK⟩ := hv
  have hx := B.exec
  have hb := B.bytes
  have hr := B.returns
  have hts := atoms_spec (ws := wsX7_size) B.pre
  have hown : s.vm.findClass RX7 = some m.cls := findClass_of_methodNamed B.named
  have hlocks := B.notSynchronized
  have hP : va_P (dC, dI) vwCl [(q, .inr (6, [.ref s0, .ref s1, .ref s2])), (s1, .inr (3, [.ref tq, .ref rq, .ref uq])), (tq, .inr (4, [.ref ca, .long sm, .int (oI lo)])), (ca, .inl (cJ, 64, .inr (.inl fc))), (rq, .inr (5, [.ref rb])), (rb, .inr (0, [.ref rd])), (rd, .inl (cJ, 128, .inr (.inl ft))), (uq, .inr (1, [.ref bm, .ref bs])), (bm, .inr (0, [.ref am])), (am, .inl (cJ, 64, .inr (.inl fm))), (bs, .inr (0, [.ref ap])), (ap, .inl (cJ, 64, .inr (.inl fs)))] s.heap := hP
  have hl := lv_entry ([.ref q, .int (nI 1)]) (n := 2) (Nat.le_of_ble_eq_true rfl)
  rw [lg_entry_eq]
  generalize (lg_sl ([.ref q, .int (nI 1)]) ++ List.replicate (2 - (lg_sl ([.ref q, .int (nI 1)])).length) Slot.unset).toArray = ls at hl ⊢
  have hl : lv_has ls 2 [(0, .ref q), (1, .int (nI 1))] := hl
  refine lv_aload_n hx hb dX7_size_0 rfl (lv_at hl 0 rfl) ?_
  refine lv_iload_n hx hb dX7_size_1 rfl (lv_at hl 1 rfl) ?_
  have hPc := hP.sub (ws' := [(q, .inr (6, [.ref s0, .ref s1, .ref s2]))]) [0] rfl
  have hKc := hK.sub (tys' := []) [] rfl
  refine va_csr (W.runV (As := [.int (nI 1)]) (rest := []) ⟨hx, hb, hml, hown, hts⟩ (c_X7_chosenSet_1 l dC dI q s0 s1 s2 ) (cwV 1 hts gX7_size_X7_chosenSet rfl rfl rfl (by decide +kernel) ⟨Nat.le_of_ble_eq_true rfl, Nat.le_of_ble_eq_true rfl⟩) ⟨fun a U g mk q => by obtain ⟨q0, qP, qK⟩ := q; exact ⟨q0, qP, va_K.moved (u := U) (U := U.calling g mk a) (Vm.Alike.refl U.vm) qK⟩, va_recv hKc hPc (ci := 6) (q0 := 0) rfl rfl, fun U hU hW => ⟨rfl, by rw [hU]; exact hPc, va_K.moved hW.alike hKc⟩⟩ rfl rfl hl.1 rfl (lv_room (Nat.le_of_ble_eq_true rfl)) dX7_size_2 ⟨Nat.le_of_ble_eq_true rfl, Nat.le_of_ble_eq_true rfl⟩) (fun r_2 hw_1 => ?_)
  have hw_1 := hw_1.symm
  subst hw_1
  refine va_getN (D := (dC, dI)) (ci := 3) (v := .ref uq) (C := RX3) (T := TX3) (N := 3) hx hb hts (by decide +kernel) hown hK hP 1 rfl rfl 2 (by decide) (va_Nw.use rfl nw0) (fun _ h9 => h9) rfl dX7_size_5 ?_
  have hPc := hP.sub (ws' := [(uq, .inr (1, [.ref bm, .ref bs])), (bm, .inr (0, [.ref am])), (am, .inl (cJ, 64, .inr (.inl fm))), (bs, .inr (0, [.ref ap])), (ap, .inl (cJ, 64, .inr (.inl fs)))]) [7, 8, 9, 10, 11] rfl
  have hKc := hK.sub (tys' := [(cJ, .long)]) [0] rfl
  refine vp_callSi (W.runV (As := []) (rest := []) ⟨hx, hb, hml, hown, hts⟩ (c_X1_memberCount l dC dI uq bm am bs ap cJ fm fs ) (cwV 0 hts gX7_size_X1_memberCount rfl rfl rfl (by decide +kernel) ⟨Nat.le_of_ble_eq_true rfl, Nat.le_of_ble_eq_true rfl⟩) ⟨fun a U g mk q => by obtain ⟨q0, qP, qK⟩ := q; exact ⟨q0, qP, va_K.moved (u := U) (U := U.calling g mk a) (Vm.Alike.refl U.vm) qK⟩, va_recv hKc hPc (ci := 1) (q0 := 0) rfl rfl, fun U hU hW => ⟨rfl, by rw [hU]; exact hPc, va_K.moved hW.alike hKc⟩⟩ rfl rfl hl.1 rfl (lv_room (Nat.le_of_ble_eq_true rfl)) dX7_size_8 ⟨Nat.le_of_ble_eq_true rfl, Nat.le_of_ble_eq_true rfl⟩) (fun r_4 hw_3 => ?_)
  subst hw_3
  exact W.iret (v := nI (fb_ct (bo fm) 4096)) hx hb hr (fun t9 ht hW => ⟨nI (fb_ct (bo fm) 4096), rfl, rfl, ht⟩) (fun q h => by cases h) dX7_size_11
set_option maxHeartbeats 4000000 in
set_option maxRecDepth 100000 in
/-- contains, set 1 -/
theorem c_X7_contains_1 (l : Launch) (dC : Nat → ClassId) (dI : Nat → Nat → Nat) (q : Nat) (s0 : Nat) (s1 : Nat) (s2 : Nat) (tq : Nat) (ca : Nat) (rq : Nat) (rb : Nat) (rd : Nat) (uq : Nat) (bm : Nat) (am : Nat) (bs : Nat) (ap : Nat) (cJ : ClassId) (fm : Nat → Int64) (fs : Nat → Int64) (ft : Nat → Int64) (fc : Nat → Int64) (sm : Int64) (lo : Option Nat) (k : Nat) (hN : NI fm fs ft fc sm lo) (hk : k < 4096) : Met l yX7_contains wsX7_contains ({ frames := 3, cells := 0, slots := 0, locals := 63 }) (va_Pc [.ref q, .int (nI 1), .int (nI k)] (fun U => va_Nw (.fieldLinkNest RX7 38 "SmallNumberSets$NumberSet" "buckets" "LSmallNumberSets$Buckets;" "SmallNumberSets") U ∧ va_P (dC, dI) vwCl [(q, .inr (6, [.ref s0, .ref s1, .ref s2])), (s1, .inr (3, [.ref tq, .ref rq, .ref uq])), (tq, .inr (4, [.ref ca, .long sm, .int (oI lo)])), (ca, .inl (cJ, 64, .inr (.inl fc))), (rq, .inr (5, [.ref rb])), (rb, .inr (0, [.ref rd])), (rd, .inl (cJ, 128, .inr (.inl ft))), (uq, .inr (1, [.ref bm, .ref bs])), (bm, .inr (0, [.ref am])), (am, .inl (cJ, 64, .inr (.inl fm))), (bs, .inr (0, [.ref ap])), (ap, .inl (cJ, 64, .inr (.inl fs)))] U.heap ∧ va_K (dC, dI) vwCl [(cJ, .long)] U)) (vp_Si (fun r => r = b2i (bo fm k))) 0 0 (fun _ => False) := by
  refine Met.ofW (cc := cX7_contains) (maxL := 4) (ret := (some .boolean)) (by decide) rfl ?_
  intro p e s m args below meth c s₁ B hml hv
  obtain ⟨rfl, nw0, hP, hK⟩ := hv
  have hx := B.exec
  have hb := B.bytes
  have hr := B.returns
  have hts := atoms_spec (ws := wsX7_contains) B.pre
  have hown : s.vm.findClass RX7 = some m.cls := findClass_of_methodNamed B.named
  have hlocks := B.notSynchronized
  have hP : va_P (dC, dI) vwCl [(q, .inr (6, [.ref s0, .ref s1, .ref s2])), (s1, .inr (3, [.ref tq, .ref rq, .ref uq])), (tq, .inr (4, [.ref ca, .long sm, .int (oI lo)])), (ca, .inl (cJ, 64, .inr (.inl fc))), (rq, .inr (5, [.ref rb])), (rb, .inr (0, [.ref rd])), (rd, .inl (cJ, 128, .inr (.inl ft))), (uq, .inr (1, [.ref bm, .ref bs])), (bm, .inr (0, [.ref am])), (am, .inl (cJ, 64, .inr (.inl fm))), (bs, .inr (0, [.ref ap])), (ap, .inl (cJ, 64, .inr (.inl fs)))] s.heap := hP
  have hl := lv_entry ([.ref q, .int (nI 1), .int (nI k)]) (n := 4) (Nat.le_of_ble_eq_true rfl)
  rw [lg_entry_eq]
  generalize (lg_sl ([.ref q, .int (nI 1), .int (nI k)]) ++ List.replicate (4 - (lg_sl ([.ref q, .int (nI 1), .int (nI k)])).length) Slot.unset).toArray = ls at hl ⊢
  have hl : lv_has ls 4 [(0, .ref q), (1, .int (nI 1)), (2, .int (nI k))] := hl
  refine lv_aload_n hx hb dX7_contains_0 rfl (lv_at hl 0 rfl) ?_
  refine lv_iload_n hx hb dX7_contains_1 rfl (lv_at hl 1 rfl) ?_
  have hPc := hP.sub (ws' := [(q, .inr (6, [.ref s0, .ref s1, .ref s2]))]) [0] rfl
  have hKc := hK.sub (tys' := []) [] rfl
  refine va_csr (W.runV (As := [.int (nI 1)]) (rest := []) ⟨hx, hb, hml, hown, hts⟩ (c_X7_chosenSet_1 l dC dI q s0 s1 s2 ) (cwV 1 hts gX7_contains_X7_chosenSet rfl rfl rfl (by decide +kernel) ⟨Nat.le_of_ble_eq_true rfl, Nat.le_of_ble_eq_true rfl⟩) ⟨fun a U g mk q => by obtain ⟨q0, qP, qK⟩ := q; exact ⟨q0, qP, va_K.moved (u := U) (U := U.calling g mk a) (Vm.Alike.refl U.vm) qK⟩, va_recv hKc hPc (ci := 6) (q0 := 0) rfl rfl, fun U hU hW => ⟨rfl, by rw [hU]; exact hPc, va_K.moved hW.alike hKc⟩⟩ rfl rfl hl.1 rfl (lv_room (Nat.le_of_ble_eq_true rfl)) dX7_contains_2 ⟨Nat.le_of_ble_eq_true rfl, Nat.le_of_ble_eq_true rfl⟩) (fun r_2 hw_1 => ?_)
  have hw_1 := hw_1.symm
  subst hw_1
  refine lv_astore_n (lv' := [(3, .ref s1), (0, .ref q), (1, .int (nI 1)), (2, .int (nI k))]) hx hb dX7_contains_5 rfl hl (by decide) rfl (fun ls hl => ?_)
  refine lv_iload_n hx hb dX7_contains_6 rfl (lv_at hl 3 rfl) ?_
  have hPc := hP.sub (ws' := []) [] rfl
  have hKc := hK.sub (tys' := []) [] rfl
  refine va_csv (W.runS (As := [.int (nI k)]) (rest := []) ⟨hx, hb, hml, hown, hts⟩ (c_X7_needNumber l dC dI k (by first | assumption | omega)) (va_cwS 1 hts gX7_contains_X7_needNumber rfl rfl rfl (by decide +kernel) ⟨Nat.le_of_ble_eq_true rfl, Nat.le_of_ble_eq_true rfl⟩) ⟨fun a U g mk q => by obtain ⟨q0, qP, qK⟩ := q; exact ⟨q0, qP, va_K.moved (u := U) (U := U.calling g mk a) (Vm.Alike.refl U.vm) qK⟩, fun U hU hW => ⟨rfl, by rw [hU]; exact hPc, va_K.moved hW.alike hKc⟩⟩ rfl rfl hl.1 rfl (lv_room (Nat.le_of_ble_eq_true rfl)) dX7_contains_7 ⟨Nat.le_of_ble_eq_true rfl, Nat.le_of_ble_eq_true rfl⟩) (fun _ => ?_)
  refine lv_aload_n hx hb dX7_contains_10 rfl (lv_at hl 0 rfl) ?_
  refine va_getN (D := (dC, dI)) (ci := 3) (v := .ref uq) (C := RX3) (T := TX3) (N := 3) hx hb hts (by decide +kernel) hown hK hP 1 rfl rfl 2 (by decide) (va_Nw.use rfl nw0) (fun _ h9 => h9) rfl dX7_contains_11 ?_
  refine lv_iload_n hx hb dX7_contains_14 rfl (lv_at hl 3 rfl) ?_
  have hPc := hP.sub (ws' := [(uq, .inr (1, [.ref bm, .ref bs])), (bm, .inr (0, [.ref am])), (am, .inl (cJ, 64, .inr (.inl fm))), (bs, .inr (0, [.ref ap])), (ap, .inl (cJ, 64, .inr (.inl fs)))]) [7, 8, 9, 10, 11] rfl
  have hKc := hK.sub (tys' := [(cJ, .long)]) [0] rfl
  refine vp_callSi (W.runV (As := [.int (nI k)]) (rest := []) ⟨hx, hb, hml, hown, hts⟩ (c_X1_has l dC dI uq bm am bs ap cJ fm fs k (by first | assumption | omega)) (cwV 1 hts gX7_contains_X1_has rfl rfl rfl (by decide +kernel) ⟨Nat.le_of_ble_eq_true rfl, Nat.le_of_ble_eq_true rfl⟩) ⟨fun a U g mk q => by obtain ⟨q0, qP, qK⟩ := q; exact ⟨q0, qP, va_K.moved (u := U) (U := U.calling g mk a) (Vm.Alike.refl U.vm) qK⟩, va_recv hKc hPc (ci := 1) (q0 := 0) rfl rfl, fun U hU hW => ⟨rfl, by rw [hU]; exact hPc, va_K.moved hW.alike hKc⟩⟩ rfl rfl hl.1 rfl (lv_room (Nat.le_of_ble_eq_true rfl)) dX7_contains_15 ⟨Nat.le_of_ble_eq_true rfl, Nat.le_of_ble_eq_true rfl⟩) (fun r_6 hw_5 => ?_)
  subst hw_5
  exact W.zret (v := b2i (bo fm k)) hx hb hr (b2i_nar _) (fun t9 ht hW => ⟨b2i (bo fm k), rfl, rfl, ht⟩) (fun q h => by cases h) dX7_contains_18
set_option maxHeartbeats 4000000 in
set_option maxRecDepth 100000 in
/-- successor, set 1 -/
theorem c_X7_successor_1 (l : Launch) (dC : Nat → ClassId) (dI : Nat → Nat → Nat) (q : Nat) (s0 : Nat) (s1 : Nat) (s2 : Nat) (tq : Nat) (ca : Nat) (rq : Nat) (rb : Nat) (rd : Nat) (uq : Nat) (bm : Nat) (am : Nat) (bs : Nat) (ap : Nat) (cJ : ClassId) (fm : Nat → Int64) (fs : Nat → Int64) (ft : Nat → Int64) (fc : Nat → Int64) (sm : Int64) (lo : Option Nat) (k : Nat) (hN : NI fm fs ft fc sm lo) (hk : k < 4096) : Met l yX7_successor wsX7_successor ({ frames := 5, cells := 0, slots := 0, locals := 107 }) (va_Pc [.ref q, .int (nI 1), .int (nI k)] (fun U => va_Nw (.fieldLinkNest RX7 62 "SmallNumberSets$NumberSet" "tree" "LSmallNumberSets$Tree;" "SmallNumberSets") U ∧ va_P (dC, dI) vwCl [(q, .inr (6, [.ref s0, .ref s1, .ref s2])), (s1, .inr (3, [.ref tq, .ref rq, .ref uq])), (tq, .inr (4, [.ref ca, .long sm, .int (oI lo)])), (ca, .inl (cJ, 64, .inr (.inl fc))), (rq, .inr (5, [.ref rb])), (rb, .inr (0, [.ref rd])), (rd, .inl (cJ, 128, .inr (.inl ft))), (uq, .inr (1, [.ref bm, .ref bs])), (bm, .inr (0, [.ref am])), (am, .inl (cJ, 64, .inr (.inl fm))), (bs, .inr (0, [.ref ap])), (ap, .inl (cJ, 64, .inr (.inl fs)))] U.heap ∧ va_K (dC, dI) vwCl [(cJ, .long)] U)) (vp_Si (fun r => r = oI (nxt1 (bo fm) k 4096))) 0 0 (fun _ => False) := by
  refine Met.ofW (cc := cX7_successor) (maxL := 4) (ret := (some .int)) (by decide) rfl ?_
  intro p e s m args below meth c s₁ B hml hv
  obtain ⟨rfl, nw0, hP, hK⟩ := hv
  have hx := B.exec
  have hb := B.bytes
  have hr := B.returns
  have hts := atoms_spec (ws := wsX7_successor) B.pre
  have hown : s.vm.findClass RX7 = some m.cls := findClass_of_methodNamed B.named
  have hlocks := B.notSynchronized
  have hP : va_P (dC, dI) vwCl [(q, .inr (6, [.ref s0, .ref s1, .ref s2])), (s1, .inr (3, [.ref tq, .ref rq, .ref uq])), (tq, .inr (4, [.ref ca, .long sm, .int (oI lo)])), (ca, .inl (cJ, 64, .inr (.inl fc))), (rq, .inr (5, [.ref rb])), (rb, .inr (0, [.ref rd])), (rd, .inl (cJ, 128, .inr (.inl ft))), (uq, .inr (1, [.ref bm, .ref bs])), (bm, .inr (0, [.ref am])), (am, .inl (cJ, 64, .inr (.inl fm))), (bs, .inr (0, [.ref ap])), (ap, .inl (cJ, 64, .inr (.inl fs)))] s.heap := hP
  have hl := lv_entry ([.ref q, .int (nI 1), .int (nI k)]) (n := 4) (Nat.le_of_ble_eq_true rfl)
  rw [lg_entry_eq]
  generalize (lg_sl ([.ref q, .int (nI 1), .int (nI k)]) ++ List.replicate (4 - (lg_sl ([.ref q, .int (nI 1), .int (nI k)])).length) Slot.unset).toArray = ls at hl ⊢
  have hl : lv_has ls 4 [(0, .ref q), (1, .int (nI 1)), (2, .int (nI k))] := hl
  refine lv_aload_n hx hb dX7_successor_0 rfl (lv_at hl 0 rfl) ?_
  refine lv_iload_n hx hb dX7_successor_1 rfl (lv_at hl 1 rfl) ?_
  have hPc := hP.sub (ws' := [(q, .inr (6, [.ref s0, .ref s1, .ref s2]))]) [0] rfl
  have hKc := hK.sub (tys' := []) [] rfl
  refine va_csr (W.runV (As := [.int (nI 1)]) (rest := []) ⟨hx, hb, hml, hown, hts⟩ (c_X7_chosenSet_1 l dC dI q s0 s1 s2 ) (cwV 1 hts gX7_successor_X7_chosenSet rfl rfl rfl (by decide +kernel) ⟨Nat.le_of_ble_eq_true rfl, Nat.le_of_ble_eq_true rfl⟩) ⟨fun a U g mk q => by obtain ⟨q0, qP, qK⟩ := q; exact ⟨q0, qP, va_K.moved (u := U) (U := U.calling g mk a) (Vm.Alike.refl U.vm) qK⟩, va_recv hKc hPc (ci := 6) (q0 := 0) rfl rfl, fun U hU hW => ⟨rfl, by rw [hU]; exact hPc, va_K.moved hW.alike hKc⟩⟩ rfl rfl hl.1 rfl (lv_room (Nat.le_of_ble_eq_true rfl)) dX7_successor_2 ⟨Nat.le_of_ble_eq_true rfl, Nat.le_of_ble_eq_true rfl⟩) (fun r_2 hw_1 => ?_)
  have hw_1 := hw_1.symm
  subst hw_1
  refine lv_astore_n (lv' := [(3, .ref s1), (0, .ref q), (1, .int (nI 1)), (2, .int (nI k))]) hx hb dX7_successor_5 rfl hl (by decide) rfl (fun ls hl => ?_)
  refine lv_iload_n hx hb dX7_successor_6 rfl (lv_at hl 3 rfl) ?_
  have hPc := hP.sub (ws' := []) [] rfl
  have hKc := hK.sub (tys' := []) [] rfl
  refine va_csv (W.runS (As := [.int (nI k)]) (rest := []) ⟨hx, hb, hml, hown, hts⟩ (c_X7_needNumber l dC dI k (by first | assumption | omega)) (va_cwS 1 hts gX7_successor_X7_needNumber rfl rfl rfl (by decide +kernel) ⟨Nat.le_of_ble_eq_true rfl, Nat.le_of_ble_eq_true rfl⟩) ⟨fun a U g mk q => by obtain ⟨q0, qP, qK⟩ := q; exact ⟨q0, qP, va_K.moved (u := U) (U := U.calling g mk a) (Vm.Alike.refl U.vm) qK⟩, fun U hU hW => ⟨rfl, by rw [hU]; exact hPc, va_K.moved hW.alike hKc⟩⟩ rfl rfl hl.1 rfl (lv_room (Nat.le_of_ble_eq_true rfl)) dX7_successor_7 ⟨Nat.le_of_ble_eq_true rfl, Nat.le_of_ble_eq_true rfl⟩) (fun _ => ?_)
  refine lv_aload_n hx hb dX7_successor_10 rfl (lv_at hl 0 rfl) ?_
  refine va_getN (D := (dC, dI)) (ci := 3) (v := .ref tq) (C := RX3) (T := TX3) (N := 3) hx hb hts (by decide +kernel) hown hK hP 1 rfl rfl 0 (by decide) (va_Nw.use rfl nw0) (fun _ h9 => h9) rfl dX7_successor_11 ?_
  refine lv_iload_n hx hb dX7_successor_14 rfl (lv_at hl 3 rfl) ?_
  have hPc := hP.sub (ws' := [(tq, .inr (4, [.ref ca, .long sm, .int (oI lo)])), (ca, .inl (cJ, 64, .inr (.inl fc)))]) [2, 3] rfl
  have hKc := hK.sub (tys' := [(cJ, .long)]) [0] rfl
  refine vp_callSi (W.runV (As := [.int (nI k)]) (rest := []) ⟨hx, hb, hml, hown, hts⟩ (c_X4_after l dC dI tq ca cJ fc sm lo (bo fm) k hN.2.2 (by first | assumption | omega)) (cwV 1 hts gX7_successor_X4_after rfl rfl rfl (by decide +kernel) ⟨Nat.le_of_ble_eq_true rfl, Nat.le_of_ble_eq_true rfl⟩) ⟨fun a U g mk q => by obtain ⟨q0, qP, qK⟩ := q; exact ⟨q0, qP, va_K.moved (u := U) (U := U.calling g mk a) (Vm.Alike.refl U.vm) qK⟩, va_recv hKc hPc (ci := 4) (q0 := 0) rfl rfl, fun U hU hW => ⟨rfl, by rw [hU]; exact hPc, va_K.moved hW.alike hKc⟩⟩ rfl rfl hl.1 rfl (lv_room (Nat.le_of_ble_eq_true rfl)) dX7_successor_15 ⟨Nat.le_of_ble_eq_true rfl, Nat.le_of_ble_eq_true rfl⟩) (fun r_6 hw_5 => ?_)
  subst hw_5
  exact W.iret (v := oI (nxt1 (bo fm) k 4096)) hx hb hr (fun t9 ht hW => ⟨oI (nxt1 (bo fm) k 4096), rfl, rfl, ht⟩) (fun q h => by cases h) dX7_successor_18
set_option maxHeartbeats 4000000 in
set_option maxRecDepth 100000 in
/-- predecessor, set 1 -/
theorem c_X7_predecessor_1 (l : Launch) (dC : Nat → ClassId) (dI : Nat → Nat → Nat) (q : Nat) (s0 : Nat) (s1 : Nat) (s2 : Nat) (tq : Nat) (ca : Nat) (rq : Nat) (rb : Nat) (rd : Nat) (uq : Nat) (bm : Nat) (am : Nat) (bs : Nat) (ap : Nat) (cJ : ClassId) (fm : Nat → Int64) (fs : Nat → Int64) (ft : Nat → Int64) (fc : Nat → Int64) (sm : Int64) (lo : Option Nat) (k : Nat) (hN : NI fm fs ft fc sm lo) (hk : k < 4096) : Met l yX7_predecessor wsX7_predecessor ({ frames := 4, cells := 0, slots := 0, locals := 113 }) (va_Pc [.ref q, .int (nI 1), .int (nI k)] (fun U => va_Nw (.fieldLinkNest RX7 62 "SmallNumberSets$NumberSet" "tree" "LSmallNumberSets$Tree;" "SmallNumberSets") U ∧ va_P (dC, dI) vwCl [(q, .inr (6, [.ref s0, .ref s1, .ref s2])), (s1, .inr (3, [.ref tq, .ref rq, .ref uq])), (tq, .inr (4, [.ref ca, .long sm, .int (oI lo)])), (ca, .inl (cJ, 64, .inr (.inl fc))), (rq, .inr (5, [.ref rb])), (rb, .inr (0, [.ref rd])), (rd, .inl (cJ, 128, .inr (.inl ft))), (uq, .inr (1, [.ref bm, .ref bs])), (bm, .inr (0, [.ref am])), (am, .inl (cJ, 64, .inr (.inl fm))), (bs, .inr (0, [.ref ap])), (ap, .inl (cJ, 64, .inr (.inl fs)))] U.heap ∧ va_K (dC, dI) vwCl [(cJ, .long)] U)) (vp_Si (fun r => r = oI (lst1 (bo fm) k))) 0 0 (fun _ => False) := by
  refine Met.ofW (cc := cX7_predecessor) (maxL := 4) (ret := (some .int)) (by decide) rfl ?_
  intro p e s m args below meth c s₁ B hml hv
  obtain ⟨rfl, nw0, hP, hK⟩ := hv
  have hx := B.exec
  have hb := B.bytes
  have hr := B.returns
  have hts := atoms_spec (ws := wsX7_predecessor) B.pre
  have hown : s.vm.findClass RX7 = some m.cls := findClass_of_methodNamed B.named
  have hlocks := B.notSynchronized
  have hP : va_P (dC, dI) vwCl [(q, .inr (6, [.ref s0, .ref s1, .ref s2])), (s1, .inr (3, [.ref tq, .ref rq, .ref uq])), (tq, .inr (4, [.ref ca, .long sm, .int (oI lo)])), (ca, .inl (cJ, 64, .inr (.inl fc))), (rq, .inr (5, [.ref rb])), (rb, .inr (0, [.ref rd])), (rd, .inl (cJ, 128, .inr (.inl ft))), (uq, .inr (1, [.ref bm, .ref bs])), (bm, .inr (0, [.ref am])), (am, .inl (cJ, 64, .inr (.inl fm))), (bs, .inr (0, [.ref ap])), (ap, .inl (cJ, 64, .inr (.inl fs)))] s.heap := hP
  have hl := lv_entry ([.ref q, .int (nI 1), .int (nI k)]) (n := 4) (Nat.le_of_ble_eq_true rfl)
  rw [lg_entry_eq]
  generalize (lg_sl ([.ref q, .int (nI 1), .int (nI k)]) ++ List.replicate (4 - (lg_sl ([.ref q, .int (nI 1), .int (nI k)])).length) Slot.unset).toArray = ls at hl ⊢
  have hl : lv_has ls 4 [(0, .ref q), (1, .int (nI 1)), (2, .int (nI k))] := hl
  refine lv_aload_n hx hb dX7_predecessor_0 rfl (lv_at hl 0 rfl) ?_
  refine lv_iload_n hx hb dX7_predecessor_1 rfl (lv_at hl 1 rfl) ?_
  have hPc := hP.sub (ws' := [(q, .inr (6, [.ref s0, .ref s1, .ref s2]))]) [0] rfl
  have hKc := hK.sub (tys' := []) [] rfl
  refine va_csr (W.runV (As := [.int (nI 1)]) (rest := []) ⟨hx, hb, hml, hown, hts⟩ (c_X7_chosenSet_1 l dC dI q s0 s1 s2 ) (cwV 1 hts gX7_predecessor_X7_chosenSet rfl rfl rfl (by decide +kernel) ⟨Nat.le_of_ble_eq_true rfl, Nat.le_of_ble_eq_true rfl⟩) ⟨fun a U g mk q => by obtain ⟨q0, qP, qK⟩ := q; exact ⟨q0, qP, va_K.moved (u := U) (U := U.calling g mk a) (Vm.Alike.refl U.vm) qK⟩, va_recv hKc hPc (ci := 6) (q0 := 0) rfl rfl, fun U hU hW => ⟨rfl, by rw [hU]; exact hPc, va_K.moved hW.alike hKc⟩⟩ rfl rfl hl.1 rfl (lv_room (Nat.le_of_ble_eq_true rfl)) dX7_predecessor_2 ⟨Nat.le_of_ble_eq_true rfl, Nat.le_of_ble_eq_true rfl⟩) (fun r_2 hw_1 => ?_)
  have hw_1 := hw_1.symm
  subst hw_1
  refine lv_astore_n (lv' := [(3, .ref s1), (0, .ref q), (1, .int (nI 1)), (2, .int (nI k))]) hx hb dX7_predecessor_5 rfl hl (by decide) rfl (fun ls hl => ?_)
  refine lv_iload_n hx hb dX7_predecessor_6 rfl (lv_at hl 3 rfl) ?_
  have hPc := hP.sub (ws' := []) [] rfl
  have hKc := hK.sub (tys' := []) [] rfl
  refine va_csv (W.runS (As := [.int (nI k)]) (rest := []) ⟨hx, hb, hml, hown, hts⟩ (c_X7_needNumber l dC dI k (by first | assumption | omega)) (va_cwS 1 hts gX7_predecessor_X7_needNumber rfl rfl rfl (by decide +kernel) ⟨Nat.le_of_ble_eq_true rfl, Nat.le_of_ble_eq_true rfl⟩) ⟨fun a U g mk q => by obtain ⟨q0, qP, qK⟩ := q; exact ⟨q0, qP, va_K.moved (u := U) (U := U.calling g mk a) (Vm.Alike.refl U.vm) qK⟩, fun U hU hW => ⟨rfl, by rw [hU]; exact hPc, va_K.moved hW.alike hKc⟩⟩ rfl rfl hl.1 rfl (lv_room (Nat.le_of_ble_eq_true rfl)) dX7_predecessor_7 ⟨Nat.le_of_ble_eq_true rfl, Nat.le_of_ble_eq_true rfl⟩) (fun _ => ?_)
  refine lv_aload_n hx hb dX7_predecessor_10 rfl (lv_at hl 0 rfl) ?_
  refine va_getN (D := (dC, dI)) (ci := 3) (v := .ref tq) (C := RX3) (T := TX3) (N := 3) hx hb hts (by decide +kernel) hown hK hP 1 rfl rfl 0 (by decide) (va_Nw.use rfl nw0) (fun _ h9 => h9) rfl dX7_predecessor_11 ?_
  refine lv_iload_n hx hb dX7_predecessor_14 rfl (lv_at hl 3 rfl) ?_
  have hPc := hP.sub (ws' := [(tq, .inr (4, [.ref ca, .long sm, .int (oI lo)])), (ca, .inl (cJ, 64, .inr (.inl fc)))]) [2, 3] rfl
  have hKc := hK.sub (tys' := [(cJ, .long)]) [0] rfl
  refine vp_callSi (W.runV (As := [.int (nI k)]) (rest := []) ⟨hx, hb, hml, hown, hts⟩ (c_X4_before l dC dI tq ca cJ fc sm lo (bo fm) k hN.2.2 (by first | assumption | omega)) (cwV 1 hts gX7_predecessor_X4_before rfl rfl rfl (by decide +kernel) ⟨Nat.le_of_ble_eq_true rfl, Nat.le_of_ble_eq_true rfl⟩) ⟨fun a U g mk q => by obtain ⟨q0, qP, qK⟩ := q; exact ⟨q0, qP, va_K.moved (u := U) (U := U.calling g mk a) (Vm.Alike.refl U.vm) qK⟩, va_recv hKc hPc (ci := 4) (q0 := 0) rfl rfl, fun U hU hW => ⟨rfl, by rw [hU]; exact hPc, va_K.moved hW.alike hKc⟩⟩ rfl rfl hl.1 rfl (lv_room (Nat.le_of_ble_eq_true rfl)) dX7_predecessor_15 ⟨Nat.le_of_ble_eq_true rfl, Nat.le_of_ble_eq_true rfl⟩) (fun r_6 hw_5 => ?_)
  subst hw_5
  exact W.iret (v := oI (lst1 (bo fm) k)) hx hb hr (fun t9 ht hW => ⟨oI (lst1 (bo fm) k), rfl, rfl, ht⟩) (fun q h => by cases h) dX7_predecessor_18
set_option maxHeartbeats 4000000 in
set_option maxRecDepth 100000 in
/-- rank, set 1 -/
theorem c_X7_rank_1 (l : Launch) (dC : Nat → ClassId) (dI : Nat → Nat → Nat) (q : Nat) (s0 : Nat) (s1 : Nat) (s2 : Nat) (tq : Nat) (ca : Nat) (rq : Nat) (rb : Nat) (rd : Nat) (uq : Nat) (bm : Nat) (am : Nat) (bs : Nat) (ap : Nat) (cJ : ClassId) (fm : Nat → Int64) (fs : Nat → Int64) (ft : Nat → Int64) (fc : Nat → Int64) (sm : Int64) (lo : Option Nat) (k : Nat) (hN : NI fm fs ft fc sm lo) (hk : k < 4096) : Met l yX7_rank wsX7_rank ({ frames := 3, cells := 0, slots := 0, locals := 66 }) (va_Pc [.ref q, .int (nI 1), .int (nI k)] (fun U => va_Nw (.fieldLinkNest RX7 38 "SmallNumberSets$NumberSet" "buckets" "LSmallNumberSets$Buckets;" "SmallNumberSets") U ∧ va_P (dC, dI) vwCl [(q, .inr (6, [.ref s0, .ref s1, .ref s2])), (s1, .inr (3, [.ref tq, .ref rq, .ref uq])), (tq, .inr (4, [.ref ca, .long sm, .int (oI lo)])), (ca, .inl (cJ, 64, .inr (.inl fc))), (rq, .inr (5, [.ref rb])), (rb, .inr (0, [.ref rd])), (rd, .inl (cJ, 128, .inr (.inl ft))), (uq, .inr (1, [.ref bm, .ref bs])), (bm, .inr (0, [.ref am])), (am, .inl (cJ, 64, .inr (.inl fm))), (bs, .inr (0, [.ref ap])), (ap, .inl (cJ, 64, .inr (.inl fs)))] U.heap ∧ va_K (dC, dI) vwCl [(cJ, .long)] U)) (vp_Si (fun r => r = nI (fb_ct (bo fm) k))) 0 0 (fun _ => False) := by
  refine Met.ofW (cc := cX7_rank) (maxL := 4) (ret := (some .int)) (by decide) rfl ?_
  intro p e s m args below meth c s₁ B hml hv
  obtain ⟨rfl, nw0, hP, hK⟩ := hv
  have hx := B.exec
  have hb := B.bytes
  have hr := B.returns
  have hts := atoms_spec (ws := wsX7_rank) B.pre
  have hown : s.vm.findClass RX7 = some m.cls := findClass_of_methodNamed B.named
  have hlocks := B.notSynchronized
  have hP : va_P (dC, dI) vwCl [(q, .inr (6, [.ref s0, .ref s1, .ref s2])), (s1, .inr (3, [.ref tq, .ref rq, .ref uq])), (tq, .inr (4, [.ref ca, .long sm, .int (oI lo)])), (ca, .inl (cJ, 64, .inr (.inl fc))), (rq, .inr (5, [.ref rb])), (rb, .inr (0, [.ref rd])), (rd, .inl (cJ, 128, .inr (.inl ft))), (uq, .inr (1, [.ref bm, .ref bs])), (bm, .inr (0, [.ref am])), (am, .inl (cJ, 64, .inr (.inl fm))), (bs, .inr (0, [.ref ap])), (ap, .inl (cJ, 64, .inr (.inl fs)))] s.heap := hP
  have hl := lv_entry ([.ref q, .int (nI 1), .int (nI k)]) (n := 4) (Nat.le_of_ble_eq_true rfl)
  rw [lg_entry_eq]
  generalize (lg_sl ([.ref q, .int (nI 1), .int (nI k)]) ++ List.replicate (4 - (lg_sl ([.ref q, .int (nI 1), .int (nI k)])).length) Slot.unset).toArray = ls at hl ⊢
  have hl : lv_has ls 4 [(0, .ref q), (1, .int (nI 1)), (2, .int (nI k))] := hl
  refine lv_aload_n hx hb dX7_rank_0 rfl (lv_at hl 0 rfl) ?_
  refine lv_iload_n hx hb dX7_rank_1 rfl (lv_at hl 1 rfl) ?_
  have hPc := hP.sub (ws' := [(q, .inr (6, [.ref s0, .ref s1, .ref s2]))]) [0] rfl
  have hKc := hK.sub (tys' := []) [] rfl
  refine va_csr (W.runV (As := [.int (nI 1)]) (rest := []) ⟨hx, hb, hml, hown, hts⟩ (c_X7_chosenSet_1 l dC dI q s0 s1 s2 ) (cwV 1 hts gX7_rank_X7_chosenSet rfl rfl rfl (by decide +kernel) ⟨Nat.le_of_ble_eq_true rfl, Nat.le_of_ble_eq_true rfl⟩) ⟨fun a U g mk q => by obtain ⟨q0, qP, qK⟩ := q; exact ⟨q0, qP, va_K.moved (u := U) (U := U.calling g mk a) (Vm.Alike.refl U.vm) qK⟩, va_recv hKc hPc (ci := 6) (q0 := 0) rfl rfl, fun U hU hW => ⟨rfl, by rw [hU]; exact hPc, va_K.moved hW.alike hKc⟩⟩ rfl rfl hl.1 rfl (lv_room (Nat.le_of_ble_eq_true rfl)) dX7_rank_2 ⟨Nat.le_of_ble_eq_true rfl, Nat.le_of_ble_eq_true rfl⟩) (fun r_2 hw_1 => ?_)
  have hw_1 := hw_1.symm
  subst hw_1
  refine lv_astore_n (lv' := [(3, .ref s1), (0, .ref q), (1, .int (nI 1)), (2, .int (nI k))]) hx hb dX7_rank_5 rfl hl (by decide) rfl (fun ls hl => ?_)
  refine lv_iload_n hx hb dX7_rank_6 rfl (lv_at hl 3 rfl) ?_
  have hPc := hP.sub (ws' := []) [] rfl
  have hKc := hK.sub (tys' := []) [] rfl
  refine va_csv (W.runS (As := [.int (nI k)]) (rest := []) ⟨hx, hb, hml, hown, hts⟩ (c_X7_needNumber l dC dI k (by first | assumption | omega)) (va_cwS 1 hts gX7_rank_X7_needNumber rfl rfl rfl (by decide +kernel) ⟨Nat.le_of_ble_eq_true rfl, Nat.le_of_ble_eq_true rfl⟩) ⟨fun a U g mk q => by obtain ⟨q0, qP, qK⟩ := q; exact ⟨q0, qP, va_K.moved (u := U) (U := U.calling g mk a) (Vm.Alike.refl U.vm) qK⟩, fun U hU hW => ⟨rfl, by rw [hU]; exact hPc, va_K.moved hW.alike hKc⟩⟩ rfl rfl hl.1 rfl (lv_room (Nat.le_of_ble_eq_true rfl)) dX7_rank_7 ⟨Nat.le_of_ble_eq_true rfl, Nat.le_of_ble_eq_true rfl⟩) (fun _ => ?_)
  refine lv_aload_n hx hb dX7_rank_10 rfl (lv_at hl 0 rfl) ?_
  refine va_getN (D := (dC, dI)) (ci := 3) (v := .ref uq) (C := RX3) (T := TX3) (N := 3) hx hb hts (by decide +kernel) hown hK hP 1 rfl rfl 2 (by decide) (va_Nw.use rfl nw0) (fun _ h9 => h9) rfl dX7_rank_11 ?_
  refine lv_iload_n hx hb dX7_rank_14 rfl (lv_at hl 3 rfl) ?_
  have hPc := hP.sub (ws' := [(uq, .inr (1, [.ref bm, .ref bs])), (bm, .inr (0, [.ref am])), (am, .inl (cJ, 64, .inr (.inl fm))), (bs, .inr (0, [.ref ap])), (ap, .inl (cJ, 64, .inr (.inl fs)))]) [7, 8, 9, 10, 11] rfl
  have hKc := hK.sub (tys' := [(cJ, .long)]) [0] rfl
  refine vp_callSi (W.runV (As := [.int (nI k)]) (rest := []) ⟨hx, hb, hml, hown, hts⟩ (c_X1_membersBelow l dC dI uq bm am bs ap cJ fm fs k (by first | assumption | omega)) (cwV 1 hts gX7_rank_X1_membersBelow rfl rfl rfl (by decide +kernel) ⟨Nat.le_of_ble_eq_true rfl, Nat.le_of_ble_eq_true rfl⟩) ⟨fun a U g mk q => by obtain ⟨q0, qP, qK⟩ := q; exact ⟨q0, qP, va_K.moved (u := U) (U := U.calling g mk a) (Vm.Alike.refl U.vm) qK⟩, va_recv hKc hPc (ci := 1) (q0 := 0) rfl rfl, fun U hU hW => ⟨rfl, by rw [hU]; exact hPc, va_K.moved hW.alike hKc⟩⟩ rfl rfl hl.1 rfl (lv_room (Nat.le_of_ble_eq_true rfl)) dX7_rank_15 ⟨Nat.le_of_ble_eq_true rfl, Nat.le_of_ble_eq_true rfl⟩) (fun r_6 hw_5 => ?_)
  subst hw_5
  exact W.iret (v := nI (fb_ct (bo fm) k)) hx hb hr (fun t9 ht hW => ⟨nI (fb_ct (bo fm) k), rfl, rfl, ht⟩) (fun q h => by cases h) dX7_rank_18
set_option maxHeartbeats 4000000 in
set_option maxRecDepth 100000 in
/-- select, set 1 -/
theorem c_X7_select_1 (l : Launch) (dC : Nat → ClassId) (dI : Nat → Nat → Nat) (q : Nat) (s0 : Nat) (s1 : Nat) (s2 : Nat) (tq : Nat) (ca : Nat) (rq : Nat) (rb : Nat) (rd : Nat) (uq : Nat) (bm : Nat) (am : Nat) (bs : Nat) (ap : Nat) (cJ : ClassId) (fm : Nat → Int64) (fs : Nat → Int64) (ft : Nat → Int64) (fc : Nat → Int64) (sm : Int64) (lo : Option Nat) (k : Nat) (hN : NI fm fs ft fc sm lo) (hk : k < fb_ct (bo fm) 4096) : Met l yX7_select wsX7_select ({ frames := 4, cells := 0, slots := 0, locals := 90 }) (va_Pc [.ref q, .int (nI 1), .int (nI k)] (fun U => va_Nw (.fieldLinkNest RX7 38 "SmallNumberSets$NumberSet" "buckets" "LSmallNumberSets$Buckets;" "SmallNumberSets") U ∧ va_P (dC, dI) vwCl [(q, .inr (6, [.ref s0, .ref s1, .ref s2])), (s1, .inr (3, [.ref tq, .ref rq, .ref uq])), (tq, .inr (4, [.ref ca, .long sm, .int (oI lo)])), (ca, .inl (cJ, 64, .inr (.inl fc))), (rq, .inr (5, [.ref rb])), (rb, .inr (0, [.ref rd])), (rd, .inl (cJ, 128, .inr (.inl ft))), (uq, .inr (1, [.ref bm, .ref bs])), (bm, .inr (0, [.ref am])), (am, .inl (cJ, 64, .inr (.inl fm))), (bs, .inr (0, [.ref ap])), (ap, .inl (cJ, 64, .inr (.inl fs)))] U.heap ∧ va_K (dC, dI) vwCl [(cJ, .long)] U)) (vp_Si (fun r => r = oI (kth (bo fm) k 4096))) 0 0 (fun _ => False) := by
  refine Met.ofW (cc := cX7_select) (maxL := 4) (ret := (some .int)) (by decide) rfl ?_
  intro p e s m args below meth c s₁ B hml hv
  obtain ⟨rfl, nw0, hP, hK⟩ := hv
  have hx := B.exec
  have hb := B.bytes
  have hr := B.returns
  have hts := atoms_spec (ws := wsX7_select) B.pre
  have hown : s.vm.findClass RX7 = some m.cls := findClass_of_methodNamed B.named
  have hlocks := B.notSynchronized
  have hP : va_P (dC, dI) vwCl [(q, .inr (6, [.ref s0, .ref s1, .ref s2])), (s1, .inr (3, [.ref tq, .ref rq, .ref uq])), (tq, .inr (4, [.ref ca, .long sm, .int (oI lo)])), (ca, .inl (cJ, 64, .inr (.inl fc))), (rq, .inr (5, [.ref rb])), (rb, .inr (0, [.ref rd])), (rd, .inl (cJ, 128, .inr (.inl ft))), (uq, .inr (1, [.ref bm, .ref bs])), (bm, .inr (0, [.ref am])), (am, .inl (cJ, 64, .inr (.inl fm))), (bs, .inr (0, [.ref ap])), (ap, .inl (cJ, 64, .inr (.inl fs)))] s.heap := hP
  have hl := lv_entry ([.ref q, .int (nI 1), .int (nI k)]) (n := 4) (Nat.le_of_ble_eq_true rfl)
  rw [lg_entry_eq]
  generalize (lg_sl ([.ref q, .int (nI 1), .int (nI k)]) ++ List.replicate (4 - (lg_sl ([.ref q, .int (nI 1), .int (nI k)])).length) Slot.unset).toArray = ls at hl ⊢
  have hl : lv_has ls 4 [(0, .ref q), (1, .int (nI 1)), (2, .int (nI k))] := hl
  have hcb := fb_ct_le (bo fm) 4096
  have hcs := fb_ct_le (bo fs) 4096
  refine lv_aload_n hx hb dX7_select_0 rfl (lv_at hl 0 rfl) ?_
  refine lv_iload_n hx hb dX7_select_1 rfl (lv_at hl 1 rfl) ?_
  have hPc := hP.sub (ws' := [(q, .inr (6, [.ref s0, .ref s1, .ref s2]))]) [0] rfl
  have hKc := hK.sub (tys' := []) [] rfl
  refine va_csr (W.runV (As := [.int (nI 1)]) (rest := []) ⟨hx, hb, hml, hown, hts⟩ (c_X7_chosenSet_1 l dC dI q s0 s1 s2 ) (cwV 1 hts gX7_select_X7_chosenSet rfl rfl rfl (by decide +kernel) ⟨Nat.le_of_ble_eq_true rfl, Nat.le_of_ble_eq_true rfl⟩) ⟨fun a U g mk q => by obtain ⟨q0, qP, qK⟩ := q; exact ⟨q0, qP, va_K.moved (u := U) (U := U.calling g mk a) (Vm.Alike.refl U.vm) qK⟩, va_recv hKc hPc (ci := 6) (q0 := 0) rfl rfl, fun U hU hW => ⟨rfl, by rw [hU]; exact hPc, va_K.moved hW.alike hKc⟩⟩ rfl rfl hl.1 rfl (lv_room (Nat.le_of_ble_eq_true rfl)) dX7_select_2 ⟨Nat.le_of_ble_eq_true rfl, Nat.le_of_ble_eq_true rfl⟩) (fun r_2 hw_1 => ?_)
  have hw_1 := hw_1.symm
  subst hw_1
  refine lv_astore_n (lv' := [(3, .ref s1), (0, .ref q), (1, .int (nI 1)), (2, .int (nI k))]) hx hb dX7_select_5 rfl hl (by decide) rfl (fun ls hl => ?_)
  refine lv_iload_n hx hb dX7_select_6 rfl (lv_at hl 3 rfl) ?_
  refine lv_aload_n hx hb dX7_select_7 rfl (lv_at hl 0 rfl) ?_
  refine va_getN (D := (dC, dI)) (ci := 3) (v := .ref uq) (C := RX3) (T := TX3) (N := 3) hx hb hts (by decide +kernel) hown hK hP 1 rfl rfl 2 (by decide) (va_Nw.use rfl nw0) (fun _ h9 => h9) rfl dX7_select_8 ?_
  have hPc := hP.sub (ws' := [(uq, .inr (1, [.ref bm, .ref bs])), (bm, .inr (0, [.ref am])), (am, .inl (cJ, 64, .inr (.inl fm))), (bs, .inr (0, [.ref ap])), (ap, .inl (cJ, 64, .inr (.inl fs)))]) [7, 8, 9, 10, 11] rfl
  have hKc := hK.sub (tys' := [(cJ, .long)]) [0] rfl
  refine vp_callSi (W.runV (As := []) (rest := [.int (nI k)]) ⟨hx, hb, hml, hown, hts⟩ (c_X1_memberCount l dC dI uq bm am bs ap cJ fm fs ) (cwV 0 hts gX7_select_X1_memberCount rfl rfl rfl (by decide +kernel) ⟨Nat.le_of_ble_eq_true rfl, Nat.le_of_ble_eq_true rfl⟩) ⟨fun a U g mk q => by obtain ⟨q0, qP, qK⟩ := q; exact ⟨q0, qP, va_K.moved (u := U) (U := U.calling g mk a) (Vm.Alike.refl U.vm) qK⟩, va_recv hKc hPc (ci := 1) (q0 := 0) rfl rfl, fun U hU hW => ⟨rfl, by rw [hU]; exact hPc, va_K.moved hW.alike hKc⟩⟩ rfl rfl hl.1 rfl (lv_room (Nat.le_of_ble_eq_true rfl)) dX7_select_11 ⟨Nat.le_of_ble_eq_true rfl, Nat.le_of_ble_eq_true rfl⟩) (fun r_4 hw_3 => ?_)
  subst hw_3
  have hPc := hP.sub (ws' := []) [] rfl
  have hKc := hK.sub (tys' := []) [] rfl
  refine va_csv (W.runS (As := [.int (nI k), .int (nI (fb_ct (bo fm) 4096))]) (rest := []) ⟨hx, hb, hml, hown, hts⟩ (c_X7_needPlace l dC dI k (fb_ct (bo fm) 4096) (by first | assumption | omega) (by first | assumption | omega)) (va_cwS 2 hts gX7_select_X7_needPlace rfl rfl rfl (by decide +kernel) ⟨Nat.le_of_ble_eq_true rfl, Nat.le_of_ble_eq_true rfl⟩) ⟨fun a U g mk q => by obtain ⟨q0, qP, qK⟩ := q; exact ⟨q0, qP, va_K.moved (u := U) (U := U.calling g mk a) (Vm.Alike.refl U.vm) qK⟩, fun U hU hW => ⟨rfl, by rw [hU]; exact hPc, va_K.moved hW.alike hKc⟩⟩ rfl rfl hl.1 rfl (lv_room (Nat.le_of_ble_eq_true rfl)) dX7_select_14 ⟨Nat.le_of_ble_eq_true rfl, Nat.le_of_ble_eq_true rfl⟩) (fun _ => ?_)
  refine lv_aload_n hx hb dX7_select_17 rfl (lv_at hl 0 rfl) ?_
  refine va_getN (D := (dC, dI)) (ci := 3) (v := .ref uq) (C := RX3) (T := TX3) (N := 3) hx hb hts (by decide +kernel) hown hK hP 1 rfl rfl 2 (by decide) (va_Nw.use rfl nw0) (fun _ h9 => h9) rfl dX7_select_18 ?_
  refine lv_iload_n hx hb dX7_select_21 rfl (lv_at hl 3 rfl) ?_
  have hPc := hP.sub (ws' := [(uq, .inr (1, [.ref bm, .ref bs])), (bm, .inr (0, [.ref am])), (am, .inl (cJ, 64, .inr (.inl fm))), (bs, .inr (0, [.ref ap])), (ap, .inl (cJ, 64, .inr (.inl fs)))]) [7, 8, 9, 10, 11] rfl
  have hKc := hK.sub (tys' := [(cJ, .long)]) [0] rfl
  refine vp_callSi (W.runV (As := [.int (nI k)]) (rest := []) ⟨hx, hb, hml, hown, hts⟩ (c_X1_memberAt l dC dI uq bm am bs ap cJ fm fs k (by first | assumption | omega)) (cwV 1 hts gX7_select_X1_memberAt rfl rfl rfl (by decide +kernel) ⟨Nat.le_of_ble_eq_true rfl, Nat.le_of_ble_eq_true rfl⟩) ⟨fun a U g mk q => by obtain ⟨q0, qP, qK⟩ := q; exact ⟨q0, qP, va_K.moved (u := U) (U := U.calling g mk a) (Vm.Alike.refl U.vm) qK⟩, va_recv hKc hPc (ci := 1) (q0 := 0) rfl rfl, fun U hU hW => ⟨rfl, by rw [hU]; exact hPc, va_K.moved hW.alike hKc⟩⟩ rfl rfl hl.1 rfl (lv_room (Nat.le_of_ble_eq_true rfl)) dX7_select_22 ⟨Nat.le_of_ble_eq_true rfl, Nat.le_of_ble_eq_true rfl⟩) (fun r_8 hw_7 => ?_)
  subst hw_7
  exact W.iret (v := oI (kth (bo fm) k 4096)) hx hb hr (fun t9 ht hW => ⟨oI (kth (bo fm) k 4096), rfl, rfl, ht⟩) (fun q h => by cases h) dX7_select_25
set_option maxHeartbeats 4000000 in
set_option maxRecDepth 100000 in
/-- steps, set 1 -/
theorem c_X7_steps_1 (l : Launch) (dC : Nat → ClassId) (dI : Nat → Nat → Nat) (q : Nat) (s0 : Nat) (s1 : Nat) (s2 : Nat) (tq : Nat) (ca : Nat) (rq : Nat) (rb : Nat) (rd : Nat) (uq : Nat) (bm : Nat) (am : Nat) (bs : Nat) (ap : Nat) (cJ : ClassId) (fm : Nat → Int64) (fs : Nat → Int64) (ft : Nat → Int64) (fc : Nat → Int64) (sm : Int64) (lo : Option Nat) (k : Nat) (hN : NI fm fs ft fc sm lo) (hk : k < 4096) : Met l yX7_steps wsX7_steps ({ frames := 5, cells := 0, slots := 0, locals := 107 }) (va_Pc [.ref q, .int (nI 1), .int (nI k)] (fun U => va_Nw (.fieldLinkNest RX7 62 "SmallNumberSets$NumberSet" "tree" "LSmallNumberSets$Tree;" "SmallNumberSets") U ∧ va_P (dC, dI) vwCl [(q, .inr (6, [.ref s0, .ref s1, .ref s2])), (s1, .inr (3, [.ref tq, .ref rq, .ref uq])), (tq, .inr (4, [.ref ca, .long sm, .int (oI lo)])), (ca, .inl (cJ, 64, .inr (.inl fc))), (rq, .inr (5, [.ref rb])), (rb, .inr (0, [.ref rd])), (rd, .inl (cJ, 128, .inr (.inl ft))), (uq, .inr (1, [.ref bm, .ref bs])), (bm, .inr (0, [.ref am])), (am, .inl (cJ, 64, .inr (.inl fm))), (bs, .inr (0, [.ref ap])), (ap, .inl (cJ, 64, .inr (.inl fs)))] U.heap ∧ va_K (dC, dI) vwCl [(cJ, .long)] U)) (vp_Si (fun r => r = nI (stp (bo fm) k))) 0 0 (fun _ => False) := by
  refine Met.ofW (cc := cX7_steps) (maxL := 4) (ret := (some .int)) (by decide) rfl ?_
  intro p e s m args below meth c s₁ B hml hv
  obtain ⟨rfl, nw0, hP, hK⟩ := hv
  have hx := B.exec
  have hb := B.bytes
  have hr := B.returns
  have hts := atoms_spec (ws := wsX7_steps) B.pre
  have hown : s.vm.findClass RX7 = some m.cls := findClass_of_methodNamed B.named
  have hlocks := B.notSynchronized
  have hP : va_P (dC, dI) vwCl [(q, .inr (6, [.ref s0, .ref s1, .ref s2])), (s1, .inr (3, [.ref tq, .ref rq, .ref uq])), (tq, .inr (4, [.ref ca, .long sm, .int (oI lo)])), (ca, .inl (cJ, 64, .inr (.inl fc))), (rq, .inr (5, [.ref rb])), (rb, .inr (0, [.ref rd])), (rd, .inl (cJ, 128, .inr (.inl ft))), (uq, .inr (1, [.ref bm, .ref bs])), (bm, .inr (0, [.ref am])), (am, .inl (cJ, 64, .inr (.inl fm))), (bs, .inr (0, [.ref ap])), (ap, .inl (cJ, 64, .inr (.inl fs)))] s.heap := hP
  have hl := lv_entry ([.ref q, .int (nI 1), .int (nI k)]) (n := 4) (Nat.le_of_ble_eq_true rfl)
  rw [lg_entry_eq]
  generalize (lg_sl ([.ref q, .int (nI 1), .int (nI k)]) ++ List.replicate (4 - (lg_sl ([.ref q, .int (nI 1), .int (nI k)])).length) Slot.unset).toArray = ls at hl ⊢
  have hl : lv_has ls 4 [(0, .ref q), (1, .int (nI 1)), (2, .int (nI k))] := hl
  refine lv_aload_n hx hb dX7_steps_0 rfl (lv_at hl 0 rfl) ?_
  refine lv_iload_n hx hb dX7_steps_1 rfl (lv_at hl 1 rfl) ?_
  have hPc := hP.sub (ws' := [(q, .inr (6, [.ref s0, .ref s1, .ref s2]))]) [0] rfl
  have hKc := hK.sub (tys' := []) [] rfl
  refine va_csr (W.runV (As := [.int (nI 1)]) (rest := []) ⟨hx, hb, hml, hown, hts⟩ (c_X7_chosenSet_1 l dC dI q s0 s1 s2 ) (cwV 1 hts gX7_steps_X7_chosenSet rfl rfl rfl (by decide +kernel) ⟨Nat.le_of_ble_eq_true rfl, Nat.le_of_ble_eq_true rfl⟩) ⟨fun a U g mk q => by obtain ⟨q0, qP, qK⟩ := q; exact ⟨q0, qP, va_K.moved (u := U) (U := U.calling g mk a) (Vm.Alike.refl U.vm) qK⟩, va_recv hKc hPc (ci := 6) (q0 := 0) rfl rfl, fun U hU hW => ⟨rfl, by rw [hU]; exact hPc, va_K.moved hW.alike hKc⟩⟩ rfl rfl hl.1 rfl (lv_room (Nat.le_of_ble_eq_true rfl)) dX7_steps_2 ⟨Nat.le_of_ble_eq_true rfl, Nat.le_of_ble_eq_true rfl⟩) (fun r_2 hw_1 => ?_)
  have hw_1 := hw_1.symm
  subst hw_1
  refine lv_astore_n (lv' := [(3, .ref s1), (0, .ref q), (1, .int (nI 1)), (2, .int (nI k))]) hx hb dX7_steps_5 rfl hl (by decide) rfl (fun ls hl => ?_)
  refine lv_iload_n hx hb dX7_steps_6 rfl (lv_at hl 3 rfl) ?_
  have hPc := hP.sub (ws' := []) [] rfl
  have hKc := hK.sub (tys' := []) [] rfl
  refine va_csv (W.runS (As := [.int (nI k)]) (rest := []) ⟨hx, hb, hml, hown, hts⟩ (c_X7_needNumber l dC dI k (by first | assumption | omega)) (va_cwS 1 hts gX7_steps_X7_needNumber rfl rfl rfl (by decide +kernel) ⟨Nat.le_of_ble_eq_true rfl, Nat.le_of_ble_eq_true rfl⟩) ⟨fun a U g mk q => by obtain ⟨q0, qP, qK⟩ := q; exact ⟨q0, qP, va_K.moved (u := U) (U := U.calling g mk a) (Vm.Alike.refl U.vm) qK⟩, fun U hU hW => ⟨rfl, by rw [hU]; exact hPc, va_K.moved hW.alike hKc⟩⟩ rfl rfl hl.1 rfl (lv_room (Nat.le_of_ble_eq_true rfl)) dX7_steps_7 ⟨Nat.le_of_ble_eq_true rfl, Nat.le_of_ble_eq_true rfl⟩) (fun _ => ?_)
  refine lv_aload_n hx hb dX7_steps_10 rfl (lv_at hl 0 rfl) ?_
  refine va_getN (D := (dC, dI)) (ci := 3) (v := .ref tq) (C := RX3) (T := TX3) (N := 3) hx hb hts (by decide +kernel) hown hK hP 1 rfl rfl 0 (by decide) (va_Nw.use rfl nw0) (fun _ h9 => h9) rfl dX7_steps_11 ?_
  refine lv_iload_n hx hb dX7_steps_14 rfl (lv_at hl 3 rfl) ?_
  have hPc := hP.sub (ws' := [(tq, .inr (4, [.ref ca, .long sm, .int (oI lo)])), (ca, .inl (cJ, 64, .inr (.inl fc)))]) [2, 3] rfl
  have hKc := hK.sub (tys' := [(cJ, .long)]) [0] rfl
  refine vp_callSi (W.runV (As := [.int (nI k)]) (rest := []) ⟨hx, hb, hml, hown, hts⟩ (c_X4_searchLength l dC dI tq ca cJ fc sm lo (bo fm) k hN.2.2 (by first | assumption | omega)) (cwV 1 hts gX7_steps_X4_searchLength rfl rfl rfl (by decide +kernel) ⟨Nat.le_of_ble_eq_true rfl, Nat.le_of_ble_eq_true rfl⟩) ⟨fun a U g mk q => by obtain ⟨q0, qP, qK⟩ := q; exact ⟨q0, qP, va_K.moved (u := U) (U := U.calling g mk a) (Vm.Alike.refl U.vm) qK⟩, va_recv hKc hPc (ci := 4) (q0 := 0) rfl rfl, fun U hU hW => ⟨rfl, by rw [hU]; exact hPc, va_K.moved hW.alike hKc⟩⟩ rfl rfl hl.1 rfl (lv_room (Nat.le_of_ble_eq_true rfl)) dX7_steps_15 ⟨Nat.le_of_ble_eq_true rfl, Nat.le_of_ble_eq_true rfl⟩) (fun r_6 hw_5 => ?_)
  subst hw_5
  exact W.iret (v := nI (stp (bo fm) k)) hx hb hr (fun t9 ht hW => ⟨nI (stp (bo fm) k), rfl, rfl, ht⟩) (fun q h => by cases h) dX7_steps_18
set_option maxHeartbeats 4000000 in
set_option maxRecDepth 100000 in
/-- trees, set 1 -/
theorem c_X7_trees_1 (l : Launch) (dC : Nat → ClassId) (dI : Nat → Nat → Nat) (q : Nat) (s0 : Nat) (s1 : Nat) (s2 : Nat) (tq : Nat) (ca : Nat) (rq : Nat) (rb : Nat) (rd : Nat) (uq : Nat) (bm : Nat) (am : Nat) (bs : Nat) (ap : Nat) (cJ : ClassId) (fm : Nat → Int64) (fs : Nat → Int64) (ft : Nat → Int64) (fc : Nat → Int64) (sm : Int64) (lo : Option Nat) (hN : NI fm fs ft fc sm lo) : Met l yX7_trees wsX7_trees ({ frames := 2, cells := 0, slots := 0, locals := 47 }) (va_Pc [.ref q, .int (nI 1)] (fun U => va_Nw (.fieldLinkNest RX7 62 "SmallNumberSets$NumberSet" "tree" "LSmallNumberSets$Tree;" "SmallNumberSets") U ∧ va_P (dC, dI) vwCl [(q, .inr (6, [.ref s0, .ref s1, .ref s2])), (s1, .inr (3, [.ref tq, .ref rq, .ref uq])), (tq, .inr (4, [.ref ca, .long sm, .int (oI lo)])), (ca, .inl (cJ, 64, .inr (.inl fc))), (rq, .inr (5, [.ref rb])), (rb, .inr (0, [.ref rd])), (rd, .inl (cJ, 128, .inr (.inl ft))), (uq, .inr (1, [.ref bm, .ref bs])), (bm, .inr (0, [.ref am])), (am, .inl (cJ, 64, .inr (.inl fm))), (bs, .inr (0, [.ref ap])), (ap, .inl (cJ, 64, .inr (.inl fs)))] U.heap ∧ va_K (dC, dI) vwCl [(cJ, .long)] U)) (vp_Si (fun r => r = nI (trs (bo fm)))) 0 0 (fun _ => False) := by
  refine Met.ofW (cc := cX7_trees) (maxL := 2) (ret := (some .int)) (by decide) rfl ?_
  intro p e s m args below meth c s₁ B hml hv
  obtain ⟨rfl, nw0, hP, hK⟩ := hv
  have hx := B.exec
  have hb := B.bytes
  have hr := B.returns
  have hts := atoms_spec (ws := wsX7_trees) B.pre
  have hown : s.vm.findClass RX7 = some m.cls := findClass_of_methodNamed B.named
  have hlocks := B.notSynchronized
  have hP : va_P (dC, dI) vwCl [(q, .inr (6, [.ref s0, .ref s1, .ref s2])), (s1, .inr (3, [.ref tq, .ref rq, .ref uq])), (tq, .inr (4, [.ref ca, .long sm, .int (oI lo)])), (ca, .inl (cJ, 64, .inr (.inl fc))), (rq, .inr (5, [.ref rb])), (rb, .inr (0, [.ref rd])), (rd, .inl (cJ, 128, .inr (.inl ft))), (uq, .inr (1, [.ref bm, .ref bs])), (bm, .inr (0, [.ref am])), (am, .inl (cJ, 64, .inr (.inl fm))), (bs, .inr (0, [.ref ap])), (ap, .inl (cJ, 64, .inr (.inl fs)))] s.heap := hP
  have hl := lv_entry ([.ref q, .int (nI 1)]) (n := 2) (Nat.le_of_ble_eq_true rfl)
  rw [lg_entry_eq]
  generalize (lg_sl ([.ref q, .int (nI 1)]) ++ List.replicate (2 - (lg_sl ([.ref q, .int (nI 1)])).length) Slot.unset).toArray = ls at hl ⊢
  have hl : lv_has ls 2 [(0, .ref q), (1, .int (nI 1))] := hl
  refine lv_aload_n hx hb dX7_trees_0 rfl (lv_at hl 0 rfl) ?_
  refine lv_iload_n hx hb dX7_trees_1 rfl (lv_at hl 1 rfl) ?_
  have hPc := hP.sub (ws' := [(q, .inr (6, [.ref s0, .ref s1, .ref s2]))]) [0] rfl
  have hKc := hK.sub (tys' := []) [] rfl
  refine va_csr (W.runV (As := [.int (nI 1)]) (rest := []) ⟨hx, hb, hml, hown, hts⟩ (c_X7_chosenSet_1 l dC dI q s0 s1 s2 ) (cwV 1 hts gX7_trees_X7_chosenSet rfl rfl rfl (by decide +kernel) ⟨Nat.le_of_ble_eq_true rfl, Nat.le_of_ble_eq_true rfl⟩) ⟨fun a U g mk q => by obtain ⟨q0, qP, qK⟩ := q; exact ⟨q0, qP, va_K.moved (u := U) (U := U.calling g mk a) (Vm.Alike.refl U.vm) qK⟩, va_recv hKc hPc (ci := 6) (q0 := 0) rfl rfl, fun U hU hW => ⟨rfl, by rw [hU]; exact hPc, va_K.moved hW.alike hKc⟩⟩ rfl rfl hl.1 rfl (lv_room (Nat.le_of_ble_eq_true rfl)) dX7_trees_2 ⟨Nat.le_of_ble_eq_true rfl, Nat.le_of_ble_eq_true rfl⟩) (fun r_2 hw_1 => ?_)
  have hw_1 := hw_1.symm
  subst hw_1
  refine va_getN (D := (dC, dI)) (ci := 3) (v := .ref tq) (C := RX3) (T := TX3) (N := 3) hx hb hts (by decide +kernel) hown hK hP 1 rfl rfl 0 (by decide) (va_Nw.use rfl nw0) (fun _ h9 => h9) rfl dX7_trees_5 ?_
  have hPc := hP.sub (ws' := [(tq, .inr (4, [.ref ca, .long sm, .int (oI lo)])), (ca, .inl (cJ, 64, .inr (.inl fc)))]) [2, 3] rfl
  have hKc := hK.sub (tys' := [(cJ, .long)]) [0] rfl
  refine vp_callSi (W.runV (As := []) (rest := []) ⟨hx, hb, hml, hown, hts⟩ (c_X4_treeCount l dC dI tq ca cJ fc sm lo (bo fm) hN.2.2) (cwV 0 hts gX7_trees_X4_treeCount rfl rfl rfl (by decide +kernel) ⟨Nat.le_of_ble_eq_true rfl, Nat.le_of_ble_eq_true rfl⟩) ⟨fun a U g mk q => by obtain ⟨q0, qP, qK⟩ := q; exact ⟨q0, qP, va_K.moved (u := U) (U := U.calling g mk a) (Vm.Alike.refl U.vm) qK⟩, va_recv hKc hPc (ci := 4) (q0 := 0) rfl rfl, fun U hU hW => ⟨rfl, by rw [hU]; exact hPc, va_K.moved hW.alike hKc⟩⟩ rfl rfl hl.1 rfl (lv_room (Nat.le_of_ble_eq_true rfl)) dX7_trees_8 ⟨Nat.le_of_ble_eq_true rfl, Nat.le_of_ble_eq_true rfl⟩) (fun r_4 hw_3 => ?_)
  subst hw_3
  exact W.iret (v := nI (trs (bo fm))) hx hb hr (fun t9 ht hW => ⟨nI (trs (bo fm)), rfl, rfl, ht⟩) (fun q h => by cases h) dX7_trees_11
set_option maxHeartbeats 4000000 in
set_option maxRecDepth 100000 in
/-- clusterMinimum, set 1 -/
theorem c_X7_clusterMinimum_1 (l : Launch) (dC : Nat → ClassId) (dI : Nat → Nat → Nat) (q : Nat) (s0 : Nat) (s1 : Nat) (s2 : Nat) (tq : Nat) (ca : Nat) (rq : Nat) (rb : Nat) (rd : Nat) (uq : Nat) (bm : Nat) (am : Nat) (bs : Nat) (ap : Nat) (cJ : ClassId) (fm : Nat → Int64) (fs : Nat → Int64) (ft : Nat → Int64) (fc : Nat → Int64) (sm : Int64) (lo : Option Nat) (k : Nat) (hN : NI fm fs ft fc sm lo) (hk : k < 64) : Met l yX7_clusterMinimum wsX7_clusterMinimum ({ frames := 2, cells := 0, slots := 0, locals := 42 }) (va_Pc [.ref q, .int (nI 1), .int (nI k)] (fun U => va_Nw (.fieldLinkNest RX7 62 "SmallNumberSets$NumberSet" "tree" "LSmallNumberSets$Tree;" "SmallNumberSets") U ∧ va_P (dC, dI) vwCl [(q, .inr (6, [.ref s0, .ref s1, .ref s2])), (s1, .inr (3, [.ref tq, .ref rq, .ref uq])), (tq, .inr (4, [.ref ca, .long sm, .int (oI lo)])), (ca, .inl (cJ, 64, .inr (.inl fc))), (rq, .inr (5, [.ref rb])), (rb, .inr (0, [.ref rd])), (rd, .inl (cJ, 128, .inr (.inl ft))), (uq, .inr (1, [.ref bm, .ref bs])), (bm, .inr (0, [.ref am])), (am, .inl (cJ, 64, .inr (.inl fm))), (bs, .inr (0, [.ref ap])), (ap, .inl (cJ, 64, .inr (.inl fs)))] U.heap ∧ va_K (dC, dI) vwCl [(cJ, .long)] U)) (vp_Si (fun r => r = oI (fst1 (gb (clw (bo fm) k)) 64))) 0 0 (fun _ => False) := by
  refine Met.ofW (cc := cX7_clusterMinimum) (maxL := 4) (ret := (some .int)) (by decide) rfl ?_
  intro p e s m args below meth c s₁ B hml hv
  obtain ⟨rfl, nw0, hP, hK⟩ := hv
  have hx := B.exec
  have hb := B.bytes
  have hr := B.returns
  have hts := atoms_spec (ws := wsX7_clusterMinimum) B.pre
  have hown : s.vm.findClass RX7 = some m.cls := findClass_of_methodNamed B.named
  have hlocks := B.notSynchronized
  have hP : va_P (dC, dI) vwCl [(q, .inr (6, [.ref s0, .ref s1, .ref s2])), (s1, .inr (3, [.ref tq, .ref rq, .ref uq])), (tq, .inr (4, [.ref ca, .long sm, .int (oI lo)])), (ca, .inl (cJ, 64, .inr (.inl fc))), (rq, .inr (5, [.ref rb])), (rb, .inr (0, [.ref rd])), (rd, .inl (cJ, 128, .inr (.inl ft))), (uq, .inr (1, [.ref bm, .ref bs])), (bm, .inr (0, [.ref am])), (am, .inl (cJ, 64, .inr (.inl fm))), (bs, .inr (0, [.ref ap])), (ap, .inl (cJ, 64, .inr (.inl fs)))] s.heap := hP
  have hl := lv_entry ([.ref q, .int (nI 1), .int (nI k)]) (n := 4) (Nat.le_of_ble_eq_true rfl)
  rw [lg_entry_eq]
  generalize (lg_sl ([.ref q, .int (nI 1), .int (nI k)]) ++ List.replicate (4 - (lg_sl ([.ref q, .int (nI 1), .int (nI k)])).length) Slot.unset).toArray = ls at hl ⊢
  have hl : lv_has ls 4 [(0, .ref q), (1, .int (nI 1)), (2, .int (nI k))] := hl
  refine lv_aload_n hx hb dX7_clusterMinimum_0 rfl (lv_at hl 0 rfl) ?_
  refine lv_iload_n hx hb dX7_clusterMinimum_1 rfl (lv_at hl 1 rfl) ?_
  have hPc := hP.sub (ws' := [(q, .inr (6, [.ref s0, .ref s1, .ref s2]))]) [0] rfl
  have hKc := hK.sub (tys' := []) [] rfl
  refine va_csr (W.runV (As := [.int (nI 1)]) (rest := []) ⟨hx, hb, hml, hown, hts⟩ (c_X7_chosenSet_1 l dC dI q s0 s1 s2 ) (cwV 1 hts gX7_clusterMinimum_X7_chosenSet rfl rfl rfl (by decide +kernel) ⟨Nat.le_of_ble_eq_true rfl, Nat.le_of_ble_eq_true rfl⟩) ⟨fun a U g mk q => by obtain ⟨q0, qP, qK⟩ := q; exact ⟨q0, qP, va_K.moved (u := U) (U := U.calling g mk a) (Vm.Alike.refl U.vm) qK⟩, va_recv hKc hPc (ci := 6) (q0 := 0) rfl rfl, fun U hU hW => ⟨rfl, by rw [hU]; exact hPc, va_K.moved hW.alike hKc⟩⟩ rfl rfl hl.1 rfl (lv_room (Nat.le_of_ble_eq_true rfl)) dX7_clusterMinimum_2 ⟨Nat.le_of_ble_eq_true rfl, Nat.le_of_ble_eq_true rfl⟩) (fun r_2 hw_1 => ?_)
  have hw_1 := hw_1.symm
  subst hw_1
  refine lv_astore_n (lv' := [(3, .ref s1), (0, .ref q), (1, .int (nI 1)), (2, .int (nI k))]) hx hb dX7_clusterMinimum_5 rfl hl (by decide) rfl (fun ls hl => ?_)
  refine lv_iload_n hx hb dX7_clusterMinimum_6 rfl (lv_at hl 3 rfl) ?_
  refine lv_bipush (v := nI 64) hx hb dX7_clusterMinimum_7 (by decide +kernel) ?_
  have hPc := hP.sub (ws' := []) [] rfl
  have hKc := hK.sub (tys' := []) [] rfl
  refine va_csv (W.runS (As := [.int (nI k), .int (nI 64)]) (rest := []) ⟨hx, hb, hml, hown, hts⟩ (c_X7_needPlace l dC dI k 64 (by first | assumption | omega) (by first | assumption | omega)) (va_cwS 2 hts gX7_clusterMinimum_X7_needPlace rfl rfl rfl (by decide +kernel) ⟨Nat.le_of_ble_eq_true rfl, Nat.le_of_ble_eq_true rfl⟩) ⟨fun a U g mk q => by obtain ⟨q0, qP, qK⟩ := q; exact ⟨q0, qP, va_K.moved (u := U) (U := U.calling g mk a) (Vm.Alike.refl U.vm) qK⟩, fun U hU hW => ⟨rfl, by rw [hU]; exact hPc, va_K.moved hW.alike hKc⟩⟩ rfl rfl hl.1 rfl (lv_room (Nat.le_of_ble_eq_true rfl)) dX7_clusterMinimum_9 ⟨Nat.le_of_ble_eq_true rfl, Nat.le_of_ble_eq_true rfl⟩) (fun _ => ?_)
  refine lv_aload_n hx hb dX7_clusterMinimum_12 rfl (lv_at hl 0 rfl) ?_
  refine va_getN (D := (dC, dI)) (ci := 3) (v := .ref tq) (C := RX3) (T := TX3) (N := 3) hx hb hts (by decide +kernel) hown hK hP 1 rfl rfl 0 (by decide) (va_Nw.use rfl nw0) (fun _ h9 => h9) rfl dX7_clusterMinimum_13 ?_
  refine lv_iload_n hx hb dX7_clusterMinimum_16 rfl (lv_at hl 3 rfl) ?_
  have hPc := hP.sub (ws' := [(tq, .inr (4, [.ref ca, .long sm, .int (oI lo)])), (ca, .inl (cJ, 64, .inr (.inl fc)))]) [2, 3] rfl
  have hKc := hK.sub (tys' := [(cJ, .long)]) [0] rfl
  refine vp_callSl (W.runV (As := [.int (nI k)]) (rest := []) ⟨hx, hb, hml, hown, hts⟩ (c_X4_cluster l dC dI tq ca cJ fc sm lo k (by first | assumption | omega)) (cwV 1 hts gX7_clusterMinimum_X4_cluster rfl rfl rfl (by decide +kernel) ⟨Nat.le_of_ble_eq_true rfl, Nat.le_of_ble_eq_true rfl⟩) ⟨fun a U g mk q => by obtain ⟨q0, qP, qK⟩ := q; exact ⟨q0, qP, va_K.moved (u := U) (U := U.calling g mk a) (Vm.Alike.refl U.vm) qK⟩, va_recv hKc hPc (ci := 4) (q0 := 0) rfl rfl, fun U hU hW => ⟨rfl, by rw [hU]; exact hPc, va_K.moved hW.alike hKc⟩⟩ rfl rfl hl.1 rfl (lv_room (Nat.le_of_ble_eq_true rfl)) dX7_clusterMinimum_17 ⟨Nat.le_of_ble_eq_true rfl, Nat.le_of_ble_eq_true rfl⟩) (fun r_6 hw_5 => ?_)
  subst hw_5
  have hPc := hP.sub (ws' := []) [] rfl
  have hKc := hK.sub (tys' := []) [] rfl
  refine vp_callSi (W.runS (As := [.long (fc k)]) (rest := []) ⟨hx, hb, hml, hown, hts⟩ (c_X6_least l dC dI (fc k) ) (va_cwS 1 hts gX7_clusterMinimum_X6_least rfl rfl rfl (by decide +kernel) ⟨Nat.le_of_ble_eq_true rfl, Nat.le_of_ble_eq_true rfl⟩) ⟨fun a U g mk q => by obtain ⟨q0, qP, qK⟩ := q; exact ⟨q0, qP, va_K.moved (u := U) (U := U.calling g mk a) (Vm.Alike.refl U.vm) qK⟩, fun U hU hW => ⟨rfl, by rw [hU]; exact hPc, va_K.moved hW.alike hKc⟩⟩ rfl rfl hl.1 rfl (lv_room (Nat.le_of_ble_eq_true rfl)) dX7_clusterMinimum_20 ⟨Nat.le_of_ble_eq_true rfl, Nat.le_of_ble_eq_true rfl⟩) (fun r_8 hw_7 => ?_)
  subst hw_7
  exact W.iret (v := oI (fst1 (gb (fc k)) 64)) hx hb hr (fun t9 ht hW => ⟨oI (fst1 (gb (fc k)) 64), rfl, by rw [tr_clw hN.2.2 hk], ht⟩) (fun q h => by cases h) dX7_clusterMinimum_23
set_option maxHeartbeats 4000000 in
set_option maxRecDepth 100000 in
/-- clusterMaximum, set 1 -/
theorem c_X7_clusterMaximum_1 (l : Launch) (dC : Nat → ClassId) (dI : Nat → Nat → Nat) (q : Nat) (s0 : Nat) (s1 : Nat) (s2 : Nat) (tq : Nat) (ca : Nat) (rq : Nat) (rb : Nat) (rd : Nat) (uq : Nat) (bm : Nat) (am : Nat) (bs : Nat) (ap : Nat) (cJ : ClassId) (fm : Nat → Int64) (fs : Nat → Int64) (ft : Nat → Int64) (fc : Nat → Int64) (sm : Int64) (lo : Option Nat) (k : Nat) (hN : NI fm fs ft fc sm lo) (hk : k < 64) : Met l yX7_clusterMaximum wsX7_clusterMaximum ({ frames := 2, cells := 0, slots := 0, locals := 44 }) (va_Pc [.ref q, .int (nI 1), .int (nI k)] (fun U => va_Nw (.fieldLinkNest RX7 62 "SmallNumberSets$NumberSet" "tree" "LSmallNumberSets$Tree;" "SmallNumberSets") U ∧ va_P (dC, dI) vwCl [(q, .inr (6, [.ref s0, .ref s1, .ref s2])), (s1, .inr (3, [.ref tq, .ref rq, .ref uq])), (tq, .inr (4, [.ref ca, .long sm, .int (oI lo)])), (ca, .inl (cJ, 64, .inr (.inl fc))), (rq, .inr (5, [.ref rb])), (rb, .inr (0, [.ref rd])), (rd, .inl (cJ, 128, .inr (.inl ft))), (uq, .inr (1, [.ref bm, .ref bs])), (bm, .inr (0, [.ref am])), (am, .inl (cJ, 64, .inr (.inl fm))), (bs, .inr (0, [.ref ap])), (ap, .inl (cJ, 64, .inr (.inl fs)))] U.heap ∧ va_K (dC, dI) vwCl [(cJ, .long)] U)) (vp_Si (fun r => r = oI (lst1 (gb (clw (bo fm) k)) 64))) 0 0 (fun _ => False) := by
  refine Met.ofW (cc := cX7_clusterMaximum) (maxL := 4) (ret := (some .int)) (by decide) rfl ?_
  intro p e s m args below meth c s₁ B hml hv
  obtain ⟨rfl, nw0, hP, hK⟩ := hv
  have hx := B.exec
  have hb := B.bytes
  have hr := B.returns
  have hts := atoms_spec (ws := wsX7_clusterMaximum) B.pre
  have hown : s.vm.findClass RX7 = some m.cls := findClass_of_methodNamed B.named
  have hlocks := B.notSynchronized
  have hP : va_P (dC, dI) vwCl [(q, .inr (6, [.ref s0, .ref s1, .ref s2])), (s1, .inr (3, [.ref tq, .ref rq, .ref uq])), (tq, .inr (4, [.ref ca, .long sm, .int (oI lo)])), (ca, .inl (cJ, 64, .inr (.inl fc))), (rq, .inr (5, [.ref rb])), (rb, .inr (0, [.ref rd])), (rd, .inl (cJ, 128, .inr (.inl ft))), (uq, .inr (1, [.ref bm, .ref bs])), (bm, .inr (0, [.ref am])), (am, .inl (cJ, 64, .inr (.inl fm))), (bs, .inr (0, [.ref ap])), (ap, .inl (cJ, 64, .inr (.inl fs)))] s.heap := hP
  have hl := lv_entry ([.ref q, .int (nI 1), .int (nI k)]) (n := 4) (Nat.le_of_ble_eq_true rfl)
  rw [lg_entry_eq]
  generalize (lg_sl ([.ref q, .int (nI 1), .int (nI k)]) ++ List.replicate (4 - (lg_sl ([.ref q, .int (nI 1), .int (nI k)])).length) Slot.unset).toArray = ls at hl ⊢
  have hl : lv_has ls 4 [(0, .ref q), (1, .int (nI 1)), (2, .int (nI k))] := hl
  refine lv_aload_n hx hb dX7_clusterMaximum_0 rfl (lv_at hl 0 rfl) ?_
  refine lv_iload_n hx hb dX7_clusterMaximum_1 rfl (lv_at hl 1 rfl) ?_
  have hPc := hP.sub (ws' := [(q, .inr (6, [.ref s0, .ref s1, .ref s2]))]) [0] rfl
  have hKc := hK.sub (tys' := []) [] rfl
  refine va_csr (W.runV (As := [.int (nI 1)]) (rest := []) ⟨hx, hb, hml, hown, hts⟩ (c_X7_chosenSet_1 l dC dI q s0 s1 s2 ) (cwV 1 hts gX7_clusterMaximum_X7_chosenSet rfl rfl rfl (by decide +kernel) ⟨Nat.le_of_ble_eq_true rfl, Nat.le_of_ble_eq_true rfl⟩) ⟨fun a U g mk q => by obtain ⟨q0, qP, qK⟩ := q; exact ⟨q0, qP, va_K.moved (u := U) (U := U.calling g mk a) (Vm.Alike.refl U.vm) qK⟩, va_recv hKc hPc (ci := 6) (q0 := 0) rfl rfl, fun U hU hW => ⟨rfl, by rw [hU]; exact hPc, va_K.moved hW.alike hKc⟩⟩ rfl rfl hl.1 rfl (lv_room (Nat.le_of_ble_eq_true rfl)) dX7_clusterMaximum_2 ⟨Nat.le_of_ble_eq_true rfl, Nat.le_of_ble_eq_true rfl⟩) (fun r_2 hw_1 => ?_)
  have hw_1 := hw_1.symm
  subst hw_1
  refine lv_astore_n (lv' := [(3, .ref s1), (0, .ref q), (1, .int (nI 1)), (2, .int (nI k))]) hx hb dX7_clusterMaximum_5 rfl hl (by decide) rfl (fun ls hl => ?_)
  refine lv_iload_n hx hb dX7_clusterMaximum_6 rfl (lv_at hl 3 rfl) ?_
  refine lv_bipush (v := nI 64) hx hb dX7_clusterMaximum_7 (by decide +kernel) ?_
  have hPc := hP.sub (ws' := []) [] rfl
  have hKc := hK.sub (tys' := []) [] rfl
  refine va_csv (W.runS (As := [.int (nI k), .int (nI 64)]) (rest := []) ⟨hx, hb, hml, hown, hts⟩ (c_X7_needPlace l dC dI k 64 (by first | assumption | omega) (by first | assumption | omega)) (va_cwS 2 hts gX7_clusterMaximum_X7_needPlace rfl rfl rfl (by decide +kernel) ⟨Nat.le_of_ble_eq_true rfl, Nat.le_of_ble_eq_true rfl⟩) ⟨fun a U g mk q => by obtain ⟨q0, qP, qK⟩ := q; exact ⟨q0, qP, va_K.moved (u := U) (U := U.calling g mk a) (Vm.Alike.refl U.vm) qK⟩, fun U hU hW => ⟨rfl, by rw [hU]; exact hPc, va_K.moved hW.alike hKc⟩⟩ rfl rfl hl.1 rfl (lv_room (Nat.le_of_ble_eq_true rfl)) dX7_clusterMaximum_9 ⟨Nat.le_of_ble_eq_true rfl, Nat.le_of_ble_eq_true rfl⟩) (fun _ => ?_)
  refine lv_aload_n hx hb dX7_clusterMaximum_12 rfl (lv_at hl 0 rfl) ?_
  refine va_getN (D := (dC, dI)) (ci := 3) (v := .ref tq) (C := RX3) (T := TX3) (N := 3) hx hb hts (by decide +kernel) hown hK hP 1 rfl rfl 0 (by decide) (va_Nw.use rfl nw0) (fun _ h9 => h9) rfl dX7_clusterMaximum_13 ?_
  refine lv_iload_n hx hb dX7_clusterMaximum_16 rfl (lv_at hl 3 rfl) ?_
  have hPc := hP.sub (ws' := [(tq, .inr (4, [.ref ca, .long sm, .int (oI lo)])), (ca, .inl (cJ, 64, .inr (.inl fc)))]) [2, 3] rfl
  have hKc := hK.sub (tys' := [(cJ, .long)]) [0] rfl
  refine vp_callSl (W.runV (As := [.int (nI k)]) (rest := []) ⟨hx, hb, hml, hown, hts⟩ (c_X4_cluster l dC dI tq ca cJ fc sm lo k (by first | assumption | omega)) (cwV 1 hts gX7_clusterMaximum_X4_cluster rfl rfl rfl (by decide +kernel) ⟨Nat.le_of_ble_eq_true rfl, Nat.le_of_ble_eq_true rfl⟩) ⟨fun a U g mk q => by obtain ⟨q0, qP, qK⟩ := q; exact ⟨q0, qP, va_K.moved (u := U) (U := U.calling g mk a) (Vm.Alike.refl U.vm) qK⟩, va_recv hKc hPc (ci := 4) (q0 := 0) rfl rfl, fun U hU hW => ⟨rfl, by rw [hU]; exact hPc, va_K.moved hW.alike hKc⟩⟩ rfl rfl hl.1 rfl (lv_room (Nat.le_of_ble_eq_true rfl)) dX7_clusterMaximum_17 ⟨Nat.le_of_ble_eq_true rfl, Nat.le_of_ble_eq_true rfl⟩) (fun r_6 hw_5 => ?_)
  subst hw_5
  have hPc := hP.sub (ws' := []) [] rfl
  have hKc := hK.sub (tys' := []) [] rfl
  refine vp_callSi (W.runS (As := [.long (fc k)]) (rest := []) ⟨hx, hb, hml, hown, hts⟩ (c_X6_greatest l dC dI (fc k) ) (va_cwS 1 hts gX7_clusterMaximum_X6_greatest rfl rfl rfl (by decide +kernel) ⟨Nat.le_of_ble_eq_true rfl, Nat.le_of_ble_eq_true rfl⟩) ⟨fun a U g mk q => by obtain ⟨q0, qP, qK⟩ := q; exact ⟨q0, qP, va_K.moved (u := U) (U := U.calling g mk a) (Vm.Alike.refl U.vm) qK⟩, fun U hU hW => ⟨rfl, by rw [hU]; exact hPc, va_K.moved hW.alike hKc⟩⟩ rfl rfl hl.1 rfl (lv_room (Nat.le_of_ble_eq_true rfl)) dX7_clusterMaximum_20 ⟨Nat.le_of_ble_eq_true rfl, Nat.le_of_ble_eq_true rfl⟩) (fun r_8 hw_7 => ?_)
  subst hw_7
  exact W.iret (v := oI (lst1 (gb (fc k)) 64)) hx hb hr (fun t9 ht hW => ⟨oI (lst1 (gb (fc k)) 64), rfl, by rw [tr_clw hN.2.2 hk], ht⟩) (fun q h => by cases h) dX7_clusterMaximum_23
set_option maxHeartbeats 4000000 in
set_option maxRecDepth 100000 in
/-- prefixes, set 1 -/
theorem c_X7_prefixes_1 (l : Launch) (dC : Nat → ClassId) (dI : Nat → Nat → Nat) (q : Nat) (s0 : Nat) (s1 : Nat) (s2 : Nat) (tq : Nat) (ca : Nat) (rq : Nat) (rb : Nat) (rd : Nat) (uq : Nat) (bm : Nat) (am : Nat) (bs : Nat) (ap : Nat) (cJ : ClassId) (fm : Nat → Int64) (fs : Nat → Int64) (ft : Nat → Int64) (fc : Nat → Int64) (sm : Int64) (lo : Option Nat) (k : Nat) (hN : NI fm fs ft fc sm lo) (hk : k < 13) : Met l yX7_prefixes wsX7_prefixes ({ frames := 3, cells := 0, slots := 0, locals := 67 }) (va_Pc [.ref q, .int (nI 1), .int (nI k)] (fun U => va_Nw (.fieldLinkNest RX7 112 "SmallNumberSets$NumberSet" "trie" "LSmallNumberSets$Trie;" "SmallNumberSets") U ∧ va_P (dC, dI) vwCl [(q, .inr (6, [.ref s0, .ref s1, .ref s2])), (s1, .inr (3, [.ref tq, .ref rq, .ref uq])), (tq, .inr (4, [.ref ca, .long sm, .int (oI lo)])), (ca, .inl (cJ, 64, .inr (.inl fc))), (rq, .inr (5, [.ref rb])), (rb, .inr (0, [.ref rd])), (rd, .inl (cJ, 128, .inr (.inl ft))), (uq, .inr (1, [.ref bm, .ref bs])), (bm, .inr (0, [.ref am])), (am, .inl (cJ, 64, .inr (.inl fm))), (bs, .inr (0, [.ref ap])), (ap, .inl (cJ, 64, .inr (.inl fs)))] U.heap ∧ va_K (dC, dI) vwCl [(cJ, .long)] U)) (vp_Si (fun r => r = nI (fb_ct (pfx (bo fm) k) (2 ^ k)))) 0 0 (fun _ => False) := by
  refine Met.ofW (cc := cX7_prefixes) (maxL := 4) (ret := (some .int)) (by decide) rfl ?_
  intro p e s m args below meth c s₁ B hml hv
  obtain ⟨rfl, nw0, hP, hK⟩ := hv
  have hx := B.exec
  have hb := B.bytes
  have hr := B.returns
  have hts := atoms_spec (ws := wsX7_prefixes) B.pre
  have hown : s.vm.findClass RX7 = some m.cls := findClass_of_methodNamed B.named
  have hlocks := B.notSynchronized
  have hP : va_P (dC, dI) vwCl [(q, .inr (6, [.ref s0, .ref s1, .ref s2])), (s1, .inr (3, [.ref tq, .ref rq, .ref uq])), (tq, .inr (4, [.ref ca, .long sm, .int (oI lo)])), (ca, .inl (cJ, 64, .inr (.inl fc))), (rq, .inr (5, [.ref rb])), (rb, .inr (0, [.ref rd])), (rd, .inl (cJ, 128, .inr (.inl ft))), (uq, .inr (1, [.ref bm, .ref bs])), (bm, .inr (0, [.ref am])), (am, .inl (cJ, 64, .inr (.inl fm))), (bs, .inr (0, [.ref ap])), (ap, .inl (cJ, 64, .inr (.inl fs)))] s.heap := hP
  have hl := lv_entry ([.ref q, .int (nI 1), .int (nI k)]) (n := 4) (Nat.le_of_ble_eq_true rfl)
  rw [lg_entry_eq]
  generalize (lg_sl ([.ref q, .int (nI 1), .int (nI k)]) ++ List.replicate (4 - (lg_sl ([.ref q, .int (nI 1), .int (nI k)])).length) Slot.unset).toArray = ls at hl ⊢
  have hl : lv_has ls 4 [(0, .ref q), (1, .int (nI 1)), (2, .int (nI k))] := hl
  refine lv_aload_n hx hb dX7_prefixes_0 rfl (lv_at hl 0 rfl) ?_
  refine lv_iload_n hx hb dX7_prefixes_1 rfl (lv_at hl 1 rfl) ?_
  have hPc := hP.sub (ws' := [(q, .inr (6, [.ref s0, .ref s1, .ref s2]))]) [0] rfl
  have hKc := hK.sub (tys' := []) [] rfl
  refine va_csr (W.runV (As := [.int (nI 1)]) (rest := []) ⟨hx, hb, hml, hown, hts⟩ (c_X7_chosenSet_1 l dC dI q s0 s1 s2 ) (cwV 1 hts gX7_prefixes_X7_chosenSet rfl rfl rfl (by decide +kernel) ⟨Nat.le_of_ble_eq_true rfl, Nat.le_of_ble_eq_true rfl⟩) ⟨fun a U g mk q => by obtain ⟨q0, qP, qK⟩ := q; exact ⟨q0, qP, va_K.moved (u := U) (U := U.calling g mk a) (Vm.Alike.refl U.vm) qK⟩, va_recv hKc hPc (ci := 6) (q0 := 0) rfl rfl, fun U hU hW => ⟨rfl, by rw [hU]; exact hPc, va_K.moved hW.alike hKc⟩⟩ rfl rfl hl.1 rfl (lv_room (Nat.le_of_ble_eq_true rfl)) dX7_prefixes_2 ⟨Nat.le_of_ble_eq_true rfl, Nat.le_of_ble_eq_true rfl⟩) (fun r_2 hw_1 => ?_)
  have hw_1 := hw_1.symm
  subst hw_1
  refine lv_astore_n (lv' := [(3, .ref s1), (0, .ref q), (1, .int (nI 1)), (2, .int (nI k))]) hx hb dX7_prefixes_5 rfl hl (by decide) rfl (fun ls hl => ?_)
  refine lv_iload_n hx hb dX7_prefixes_6 rfl (lv_at hl 3 rfl) ?_
  refine lv_bipush (v := nI 13) hx hb dX7_prefixes_7 (by decide +kernel) ?_
  have hPc := hP.sub (ws' := []) [] rfl
  have hKc := hK.sub (tys' := []) [] rfl
  refine va_csv (W.runS (As := [.int (nI k), .int (nI 13)]) (rest := []) ⟨hx, hb, hml, hown, hts⟩ (c_X7_needPlace l dC dI k 13 (by first | assumption | omega) (by first | assumption | omega)) (va_cwS 2 hts gX7_prefixes_X7_needPlace rfl rfl rfl (by decide +kernel) ⟨Nat.le_of_ble_eq_true rfl, Nat.le_of_ble_eq_true rfl⟩) ⟨fun a U g mk q => by obtain ⟨q0, qP, qK⟩ := q; exact ⟨q0, qP, va_K.moved (u := U) (U := U.calling g mk a) (Vm.Alike.refl U.vm) qK⟩, fun U hU hW => ⟨rfl, by rw [hU]; exact hPc, va_K.moved hW.alike hKc⟩⟩ rfl rfl hl.1 rfl (lv_room (Nat.le_of_ble_eq_true rfl)) dX7_prefixes_9 ⟨Nat.le_of_ble_eq_true rfl, Nat.le_of_ble_eq_true rfl⟩) (fun _ => ?_)
  refine lv_aload_n hx hb dX7_prefixes_12 rfl (lv_at hl 0 rfl) ?_
  refine va_getN (D := (dC, dI)) (ci := 3) (v := .ref rq) (C := RX3) (T := TX3) (N := 3) hx hb hts (by decide +kernel) hown hK hP 1 rfl rfl 1 (by decide) (va_Nw.use rfl nw0) (fun _ h9 => h9) rfl dX7_prefixes_13 ?_
  refine lv_iload_n hx hb dX7_prefixes_16 rfl (lv_at hl 3 rfl) ?_
  have hPc := hP.sub (ws' := [(rq, .inr (5, [.ref rb])), (rb, .inr (0, [.ref rd])), (rd, .inl (cJ, 128, .inr (.inl ft)))]) [4, 5, 6] rfl
  have hKc := hK.sub (tys' := [(cJ, .long)]) [0] rfl
  refine vp_callSi (W.runV (As := [.int (nI k)]) (rest := []) ⟨hx, hb, hml, hown, hts⟩ (c_X5_prefixCount l dC dI rq rb rd cJ ft (bo fm) k hN.2.1 (by first | assumption | omega)) (cwV 1 hts gX7_prefixes_X5_prefixCount rfl rfl rfl (by decide +kernel) ⟨Nat.le_of_ble_eq_true rfl, Nat.le_of_ble_eq_true rfl⟩) ⟨fun a U g mk q => by obtain ⟨q0, qP, qK⟩ := q; exact ⟨q0, qP, va_K.moved (u := U) (U := U.calling g mk a) (Vm.Alike.refl U.vm) qK⟩, va_recv hKc hPc (ci := 5) (q0 := 0) rfl rfl, fun U hU hW => ⟨rfl, by rw [hU]; exact hPc, va_K.moved hW.alike hKc⟩⟩ rfl rfl hl.1 rfl (lv_room (Nat.le_of_ble_eq_true rfl)) dX7_prefixes_17 ⟨Nat.le_of_ble_eq_true rfl, Nat.le_of_ble_eq_true rfl⟩) (fun r_6 hw_5 => ?_)
  subst hw_5
  exact W.iret (v := nI (fb_ct (pfx (bo fm) k) (2 ^ k))) hx hb hr (fun t9 ht hW => ⟨nI (fb_ct (pfx (bo fm) k) (2 ^ k)), rfl, rfl, ht⟩) (fun q h => by cases h) dX7_prefixes_20
set_option maxHeartbeats 4000000 in
set_option maxRecDepth 100000 in
/-- longestMatch, set 1 -/
theorem c_X7_longestMatch_1 (l : Launch) (dC : Nat → ClassId) (dI : Nat → Nat → Nat) (q : Nat) (s0 : Nat) (s1 : Nat) (s2 : Nat) (tq : Nat) (ca : Nat) (rq : Nat) (rb : Nat) (rd : Nat) (uq : Nat) (bm : Nat) (am : Nat) (bs : Nat) (ap : Nat) (cJ : ClassId) (fm : Nat → Int64) (fs : Nat → Int64) (ft : Nat → Int64) (fc : Nat → Int64) (sm : Int64) (lo : Option Nat) (k : Nat) (sz : Nat) (hN : NI fm fs ft fc sm lo) (hk : k < 4096) : Met l yX7_longestMatch wsX7_longestMatch ({ frames := 3, cells := 1, slots := 2, locals := 68 }) (va_Pc [.ref q, .int (nI 1), .int (nI k)] (fun U => va_Nw (.fieldLinkNest RX7 112 "SmallNumberSets$NumberSet" "trie" "LSmallNumberSets$Trie;" "SmallNumberSets") U ∧ va_Nw (.fieldLinkNest RX7 125 "SmallNumberSets$MatchSearch" "match" "I" "SmallNumberSets") U ∧ U.heap.size = sz ∧ va_P (dC, dI) vwCl [(q, .inr (6, [.ref s0, .ref s1, .ref s2])), (s1, .inr (3, [.ref tq, .ref rq, .ref uq])), (tq, .inr (4, [.ref ca, .long sm, .int (oI lo)])), (ca, .inl (cJ, 64, .inr (.inl fc))), (rq, .inr (5, [.ref rb])), (rb, .inr (0, [.ref rd])), (rd, .inl (cJ, 128, .inr (.inl ft))), (uq, .inr (1, [.ref bm, .ref bs])), (bm, .inr (0, [.ref am])), (am, .inl (cJ, 64, .inr (.inl fm))), (bs, .inr (0, [.ref ap])), (ap, .inl (cJ, 64, .inr (.inl fs)))] U.heap ∧ va_K (dC, dI) vwCl [(cJ, .long)] U ∧ va_D (fun _ => True) [(q, .inr (6, [.ref s0, .ref s1, .ref s2])), (s1, .inr (3, [.ref tq, .ref rq, .ref uq])), (tq, .inr (4, [.ref ca, .long sm, .int (oI lo)])), (ca, .inl (cJ, 64, .inr (.inl fc))), (rq, .inr (5, [.ref rb])), (rb, .inr (0, [.ref rd])), (rd, .inl (cJ, 128, .inr (.inl ft))), (uq, .inr (1, [.ref bm, .ref bs])), (bm, .inr (0, [.ref am])), (am, .inl (cJ, 64, .inr (.inl fm))), (bs, .inr (0, [.ref ap])), (ap, .inl (cJ, 64, .inr (.inl fs)))])) (va_Qi (fun (r : Int32) (u : Unit) => r = oI (srch (bo fm) k).1) (fun (u : Unit) (t : State) => va_P (dC, dI) vwCl [(q, .inr (6, [.ref s0, .ref s1, .ref s2])), (s1, .inr (3, [.ref tq, .ref rq, .ref uq])), (tq, .inr (4, [.ref ca, .long sm, .int (oI lo)])), (ca, .inl (cJ, 64, .inr (.inl fc))), (rq, .inr (5, [.ref rb])), (rb, .inr (0, [.ref rd])), (rd, .inl (cJ, 128, .inr (.inl ft))), (uq, .inr (1, [.ref bm, .ref bs])), (bm, .inr (0, [.ref am])), (am, .inl (cJ, 64, .inr (.inl fm))), (bs, .inr (0, [.ref ap])), (ap, .inl (cJ, 64, .inr (.inl fs)))] t.heap ∧ va_K (dC, dI) vwCl [(cJ, .long)] t ∧ va_D (va_A [(q, .inr (6, [.ref s0, .ref s1, .ref s2])), (s1, .inr (3, [.ref tq, .ref rq, .ref uq])), (tq, .inr (4, [.ref ca, .long sm, .int (oI lo)])), (ca, .inl (cJ, 64, .inr (.inl fc))), (rq, .inr (5, [.ref rb])), (rb, .inr (0, [.ref rd])), (rd, .inl (cJ, 128, .inr (.inl ft))), (uq, .inr (1, [.ref bm, .ref bs])), (bm, .inr (0, [.ref am])), (am, .inl (cJ, 64, .inr (.inl fm))), (bs, .inr (0, [.ref ap])), (ap, .inl (cJ, 64, .inr (.inl fs)))] sz) [(q, .inr (6, [.ref s0, .ref s1, .ref s2])), (s1, .inr (3, [.ref tq, .ref rq, .ref uq])), (tq, .inr (4, [.ref ca, .long sm, .int (oI lo)])), (ca, .inl (cJ, 64, .inr (.inl fc))), (rq, .inr (5, [.ref rb])), (rb, .inr (0, [.ref rd])), (rd, .inl (cJ, 128, .inr (.inl ft))), (uq, .inr (1, [.ref bm, .ref bs])), (bm, .inr (0, [.ref am])), (am, .inl (cJ, 64, .inr (.inl fm))), (bs, .inr (0, [.ref ap])), (ap, .inl (cJ, 64, .inr (.inl fs)))]) (va_A [(q, .inr (6, [.ref s0, .ref s1, .ref s2])), (s1, .inr (3, [.ref tq, .ref rq, .ref uq])), (tq, .inr (4, [.ref ca, .long sm, .int (oI lo)])), (ca, .inl (cJ, 64, .inr (.inl fc))), (rq, .inr (5, [.ref rb])), (rb, .inr (0, [.ref rd])), (rd, .inl (cJ, 128, .inr (.inl ft))), (uq, .inr (1, [.ref bm, .ref bs])), (bm, .inr (0, [.ref am])), (am, .inl (cJ, 64, .inr (.inl fm))), (bs, .inr (0, [.ref ap])), (ap, .inl (cJ, 64, .inr (.inl fs)))] sz)) 1 2 (va_A [(q, .inr (6, [.ref s0, .ref s1, .ref s2])), (s1, .inr (3, [.ref tq, .ref rq, .ref uq])), (tq, .inr (4, [.ref ca, .long sm, .int (oI lo)])), (ca, .inl (cJ, 64, .inr (.inl fc))), (rq, .inr (5, [.ref rb])), (rb, .inr (0, [.ref rd])), (rd, .inl (cJ, 128, .inr (.inl ft))), (uq, .inr (1, [.ref bm, .ref bs])), (bm, .inr (0, [.ref am])), (am, .inl (cJ, 64, .inr (.inl fm))), (bs, .inr (0, [.ref ap])), (ap, .inl (cJ, 64, .inr (.inl fs)))] sz) := by
  refine Met.ofW (cc := cX7_longestMatch) (maxL := 4) (ret := (some .int)) (by decide) rfl ?_
  intro p e s m args below meth c s₁ B hml hv
  obtain ⟨rfl, nw0, nw1, hsz, hP, hK, hD0⟩ := hv
  have hx := B.exec
  have hb := B.bytes
  have hr := B.returns
  have hts := atoms_spec (ws := wsX7_longestMatch) B.pre
  have hown : s.vm.findClass RX7 = some m.cls := findClass_of_methodNamed B.named
  have hlocks := B.notSynchronized
  subst hsz
  have hD := hD0.self (sz := s.heap.size)
  generalize hAe : va_A [(q, .inr (6, [.ref s0, .ref s1, .ref s2])), (s1, .inr (3, [.ref tq, .ref rq, .ref uq])), (tq, .inr (4, [.ref ca, .long sm, .int (oI lo)])), (ca, .inl (cJ, 64, .inr (.inl fc))), (rq, .inr (5, [.ref rb])), (rb, .inr (0, [.ref rd])), (rd, .inl (cJ, 128, .inr (.inl ft))), (uq, .inr (1, [.ref bm, .ref bs])), (bm, .inr (0, [.ref am])), (am, .inl (cJ, 64, .inr (.inl fm))), (bs, .inr (0, [.ref ap])), (ap, .inl (cJ, 64, .inr (.inl fs)))] s.heap.size = A at hD ⊢
  have hA : ∀ q : Nat, s.heap.size ≤ q → A q := fun q h => by rw [← hAe]; exact Or.inr h
  have hS : va_S A s.heap s.heap [] := va_S.rf
  have hP : va_P (dC, dI) vwCl [(q, .inr (6, [.ref s0, .ref s1, .ref s2])), (s1, .inr (3, [.ref tq, .ref rq, .ref uq])), (tq, .inr (4, [.ref ca, .long sm, .int (oI lo)])), (ca, .inl (cJ, 64, .inr (.inl fc))), (rq, .inr (5, [.ref rb])), (rb, .inr (0, [.ref rd])), (rd, .inl (cJ, 128, .inr (.inl ft))), (uq, .inr (1, [.ref bm, .ref bs])), (bm, .inr (0, [.ref am])), (am, .inl (cJ, 64, .inr (.inl fm))), (bs, .inr (0, [.ref ap])), (ap, .inl (cJ, 64, .inr (.inl fs)))] s.heap := hP
  have hl := lv_entry ([.ref q, .int (nI 1), .int (nI k)]) (n := 4) (Nat.le_of_ble_eq_true rfl)
  rw [lg_entry_eq]
  generalize (lg_sl ([.ref q, .int (nI 1), .int (nI k)]) ++ List.replicate (4 - (lg_sl ([.ref q, .int (nI 1), .int (nI k)])).length) Slot.unset).toArray = ls at hl ⊢
  have hl : lv_has ls 4 [(0, .ref q), (1, .int (nI 1)), (2, .int (nI k))] := hl
  refine lv_aload_n hx hb dX7_longestMatch_0 rfl (lv_at hl 0 rfl) ?_
  refine lv_iload_n hx hb dX7_longestMatch_1 rfl (lv_at hl 1 rfl) ?_
  have hPc := hP.sub (ws' := [(q, .inr (6, [.ref s0, .ref s1, .ref s2]))]) [0] rfl
  have hKc := hK.sub (tys' := []) [] rfl
  refine va_csr (W.runV (As := [.int (nI 1)]) (rest := []) ⟨hx, hb, hml, hown, hts⟩ (c_X7_chosenSet_1 l dC dI q s0 s1 s2 ) (cwV 1 hts gX7_longestMatch_X7_chosenSet rfl rfl rfl (by decide +kernel) ⟨Nat.le_of_ble_eq_true rfl, Nat.le_of_ble_eq_true rfl⟩) ⟨fun a U g mk q => by obtain ⟨q0, qP, qK⟩ := q; exact ⟨q0, qP, va_K.moved (u := U) (U := U.calling g mk a) (Vm.Alike.refl U.vm) qK⟩, va_recv hKc hPc (ci := 6) (q0 := 0) rfl rfl, fun U hU hW => ⟨rfl, by rw [hU]; exact hPc, va_K.moved hW.alike hKc⟩⟩ rfl rfl hl.1 rfl (lv_room (Nat.le_of_ble_eq_true rfl)) dX7_longestMatch_2 ⟨Nat.le_of_ble_eq_true rfl, Nat.le_of_ble_eq_true rfl⟩) (fun r_2 hw_1 => ?_)
  have hw_1 := hw_1.symm
  subst hw_1
  refine lv_astore_n (lv' := [(3, .ref s1), (0, .ref q), (1, .int (nI 1)), (2, .int (nI k))]) hx hb dX7_longestMatch_5 rfl hl (by decide) rfl (fun ls hl => ?_)
  refine lv_iload_n hx hb dX7_longestMatch_6 rfl (lv_at hl 3 rfl) ?_
  have hPc := hP.sub (ws' := []) [] rfl
  have hKc := hK.sub (tys' := []) [] rfl
  refine va_csv (W.runS (As := [.int (nI k)]) (rest := []) ⟨hx, hb, hml, hown, hts⟩ (c_X7_needNumber l dC dI k (by first | assumption | omega)) (va_cwS 1 hts gX7_longestMatch_X7_needNumber rfl rfl rfl (by decide +kernel) ⟨Nat.le_of_ble_eq_true rfl, Nat.le_of_ble_eq_true rfl⟩) ⟨fun a U g mk q => by obtain ⟨q0, qP, qK⟩ := q; exact ⟨q0, qP, va_K.moved (u := U) (U := U.calling g mk a) (Vm.Alike.refl U.vm) qK⟩, fun U hU hW => ⟨rfl, by rw [hU]; exact hPc, va_K.moved hW.alike hKc⟩⟩ rfl rfl hl.1 rfl (lv_room (Nat.le_of_ble_eq_true rfl)) dX7_longestMatch_7 ⟨Nat.le_of_ble_eq_true rfl, Nat.le_of_ble_eq_true rfl⟩) (fun _ => ?_)
  refine lv_aload_n hx hb dX7_longestMatch_10 rfl (lv_at hl 0 rfl) ?_
  refine va_getN (D := (dC, dI)) (ci := 3) (v := .ref rq) (C := RX3) (T := TX3) (N := 3) hx hb hts (by decide +kernel) hown hK hP 1 rfl rfl 1 (by decide) (va_Nw.use rfl nw0) (fun _ h9 => h9) rfl dX7_longestMatch_11 ?_
  refine lv_iload_n hx hb dX7_longestMatch_14 rfl (lv_at hl 3 rfl) ?_
  have hPc := hP.sub (ws' := [(rq, .inr (5, [.ref rb])), (rb, .inr (0, [.ref rd])), (rd, .inl (cJ, 128, .inr (.inl ft)))]) [4, 5, 6] rfl
  have hKc := hK.sub (tys' := [(cJ, .long)]) [0] rfl
  have hDc := hD.sub (ws' := [(rq, .inr (5, [.ref rb])), (rb, .inr (0, [.ref rd])), (rd, .inl (cJ, 128, .inr (.inl ft)))]) [4, 5, 6] (by decide) rfl
  have hFc := va_free (wc := [(rq, .inr (5, [.ref rb])), (rb, .inr (0, [.ref rd])), (rd, .inl (cJ, 128, .inr (.inl ft)))]) hD hS hA [4, 5, 6] rfl
  refine va_callr (va_runV (As := [.int (nI k)]) (rest := []) ⟨hx, hb, hml, hown, hts⟩ (c_X5_search l dC dI rq rb rd cJ ft (bo fm) k s.heap.size hN.2.1 (by first | assumption | omega)) (cwV 1 hts gX7_longestMatch_X5_search rfl rfl rfl (by decide +kernel) ⟨Nat.le_of_ble_eq_true rfl, Nat.le_of_ble_eq_true rfl⟩) ⟨fun a U g mk q => by obtain ⟨q0, q1, qP, qK, qD⟩ := q; exact ⟨q0, q1, qP, va_K.moved (u := U) (U := U.calling g mk a) (Vm.Alike.refl U.vm) qK, qD⟩, va_recv hKc hPc (ci := 5) (q0 := 0) rfl rfl, fun U hU hW => ⟨rfl, by rw [hU], by rw [hU]; exact hPc, va_K.moved hW.alike hKc, hDc.weaken (fun _ _ _ _ => trivial)⟩⟩ rfl rfl hl.1 rfl (lv_room (Nat.le_of_ble_eq_true rfl)) dX7_longestMatch_15 ⟨Nat.le_of_ble_eq_true rfl, Nat.le_of_ble_eq_true rfl⟩) hS (fun q _ h => hFc q h) hFc (fun u_6 r_7 t9 H1 locs ht hvm hw_5 hB hz1 hk1 hS => ?_)
  obtain ⟨mt_8, pb_9⟩ := u_6
  obtain ⟨hP1, hK1, hD1⟩ := hB
  rw [ht] at hP1
  have hK1 := va_K.moved hvm.symm hK1
  try dsimp only at hw_5 hP1 hK1 hD1
  obtain ⟨hP, hD⟩ := va_join (wr := [(q, .inr (6, [.ref s0, .ref s1, .ref s2])), (s1, .inr (3, [.ref tq, .ref rq, .ref uq])), (tq, .inr (4, [.ref ca, .long sm, .int (oI lo)])), (ca, .inl (cJ, 64, .inr (.inl fc))), (uq, .inr (1, [.ref bm, .ref bs])), (bm, .inr (0, [.ref am])), (am, .inl (cJ, 64, .inr (.inl fm))), (bs, .inr (0, [.ref ap])), (ap, .inl (cJ, 64, .inr (.inl fs)))]) (w1 := [(rq, .inr (5, [.ref rb])), (rb, .inr (0, [.ref rd])), (rd, .inl (cJ, 128, .inr (.inl ft))), (r_7, .inr (2, [.int (oI mt_8), .int (nI pb_9)]))]) hP hD [4, 5, 6] [0, 1, 2, 3, 7, 8, 9, 10, 11] rfl rfl (by decide) (by decide) hk1 hFc hP1 hD1
  generalize H1 = H at hP hS ⊢
  have hP : va_P (dC, dI) vwCl [(q, .inr (6, [.ref s0, .ref s1, .ref s2])), (s1, .inr (3, [.ref tq, .ref rq, .ref uq])), (tq, .inr (4, [.ref ca, .long sm, .int (oI lo)])), (ca, .inl (cJ, 64, .inr (.inl fc))), (uq, .inr (1, [.ref bm, .ref bs])), (bm, .inr (0, [.ref am])), (am, .inl (cJ, 64, .inr (.inl fm))), (bs, .inr (0, [.ref ap])), (ap, .inl (cJ, 64, .inr (.inl fs))), (rq, .inr (5, [.ref rb])), (rb, .inr (0, [.ref rd])), (rd, .inl (cJ, 128, .inr (.inl ft))), (r_7, .inr (2, [.int (oI mt_8), .int (nI pb_9)]))] H := hP
  have hD : va_D A [(q, .inr (6, [.ref s0, .ref s1, .ref s2])), (s1, .inr (3, [.ref tq, .ref rq, .ref uq])), (tq, .inr (4, [.ref ca, .long sm, .int (oI lo)])), (ca, .inl (cJ, 64, .inr (.inl fc))), (uq, .inr (1, [.ref bm, .ref bs])), (bm, .inr (0, [.ref am])), (am, .inl (cJ, 64, .inr (.inl fm))), (bs, .inr (0, [.ref ap])), (ap, .inl (cJ, 64, .inr (.inl fs))), (rq, .inr (5, [.ref rb])), (rb, .inr (0, [.ref rd])), (rd, .inl (cJ, 128, .inr (.inl ft))), (r_7, .inr (2, [.int (oI mt_8), .int (nI pb_9)]))] := hD
  refine W.cs (cells' := 1) (slots' := 2) rfl rfl ?_
  refine va_getN (D := (dC, dI)) (ci := 2) (v := .int (oI mt_8)) (C := RX2) (T := TX2) (N := 2) hx hb hts (by decide +kernel) hown hK hP 12 rfl rfl 0 (by decide) (va_Nw.use rfl nw1) (fun _ h9 => h9) rfl dX7_longestMatch_18 ?_
  have hP9 := hP.sub (ws' := [(q, .inr (6, [.ref s0, .ref s1, .ref s2])), (s1, .inr (3, [.ref tq, .ref rq, .ref uq])), (tq, .inr (4, [.ref ca, .long sm, .int (oI lo)])), (ca, .inl (cJ, 64, .inr (.inl fc))), (rq, .inr (5, [.ref rb])), (rb, .inr (0, [.ref rd])), (rd, .inl (cJ, 128, .inr (.inl ft))), (uq, .inr (1, [.ref bm, .ref bs])), (bm, .inr (0, [.ref am])), (am, .inl (cJ, 64, .inr (.inl fm))), (bs, .inr (0, [.ref ap])), (ap, .inl (cJ, 64, .inr (.inl fs)))]) [0, 1, 2, 3, 9, 10, 11, 4, 5, 6, 7, 8] rfl
  have hD9 := hD.sub (ws' := [(q, .inr (6, [.ref s0, .ref s1, .ref s2])), (s1, .inr (3, [.ref tq, .ref rq, .ref uq])), (tq, .inr (4, [.ref ca, .long sm, .int (oI lo)])), (ca, .inl (cJ, 64, .inr (.inl fc))), (rq, .inr (5, [.ref rb])), (rb, .inr (0, [.ref rd])), (rd, .inl (cJ, 128, .inr (.inl ft))), (uq, .inr (1, [.ref bm, .ref bs])), (bm, .inr (0, [.ref am])), (am, .inl (cJ, 64, .inr (.inl fm))), (bs, .inr (0, [.ref ap])), (ap, .inl (cJ, 64, .inr (.inl fs)))]) [0, 1, 2, 3, 9, 10, 11, 4, 5, 6, 7, 8] (by decide) rfl
  have hK9 := hK.sub (tys' := [(cJ, .long)]) [0] rfl
  exact W.iret (v := oI mt_8) hx hb hr (fun t9 ht hW => ⟨⟨oI mt_8, (), rfl, by rw [← hw_5], by rw [ht]; exact hP9, va_K.moved hW.alike hK9, hD9⟩, hS.F ht⟩) hS.2.2 dX7_longestMatch_21
set_option maxHeartbeats 4000000 in
set_option maxRecDepth 100000 in
/-- probes, set 1 -/
theorem c_X7_probes_1 (l : Launch) (dC : Nat → ClassId) (dI : Nat → Nat → Nat) (q : Nat) (s0 : Nat) (s1 : Nat) (s2 : Nat) (tq : Nat) (ca : Nat) (rq : Nat) (rb : Nat) (rd : Nat) (uq : Nat) (bm : Nat) (am : Nat) (bs : Nat) (ap : Nat) (cJ : ClassId) (fm : Nat → Int64) (fs : Nat → Int64) (ft : Nat → Int64) (fc : Nat → Int64) (sm : Int64) (lo : Option Nat) (k : Nat) (sz : Nat) (hN : NI fm fs ft fc sm lo) (hk : k < 4096) : Met l yX7_probes wsX7_probes ({ frames := 3, cells := 1, slots := 2, locals := 68 }) (va_Pc [.ref q, .int (nI 1), .int (nI k)] (fun U => va_Nw (.fieldLinkNest RX7 112 "SmallNumberSets$NumberSet" "trie" "LSmallNumberSets$Trie;" "SmallNumberSets") U ∧ va_Nw (.fieldLinkNest RX7 131 "SmallNumberSets$MatchSearch" "probed" "I" "SmallNumberSets") U ∧ U.heap.size = sz ∧ va_P (dC, dI) vwCl [(q, .inr (6, [.ref s0, .ref s1, .ref s2])), (s1, .inr (3, [.ref tq, .ref rq, .ref uq])), (tq, .inr (4, [.ref ca, .long sm, .int (oI lo)])), (ca, .inl (cJ, 64, .inr (.inl fc))), (rq, .inr (5, [.ref rb])), (rb, .inr (0, [.ref rd])), (rd, .inl (cJ, 128, .inr (.inl ft))), (uq, .inr (1, [.ref bm, .ref bs])), (bm, .inr (0, [.ref am])), (am, .inl (cJ, 64, .inr (.inl fm))), (bs, .inr (0, [.ref ap])), (ap, .inl (cJ, 64, .inr (.inl fs)))] U.heap ∧ va_K (dC, dI) vwCl [(cJ, .long)] U ∧ va_D (fun _ => True) [(q, .inr (6, [.ref s0, .ref s1, .ref s2])), (s1, .inr (3, [.ref tq, .ref rq, .ref uq])), (tq, .inr (4, [.ref ca, .long sm, .int (oI lo)])), (ca, .inl (cJ, 64, .inr (.inl fc))), (rq, .inr (5, [.ref rb])), (rb, .inr (0, [.ref rd])), (rd, .inl (cJ, 128, .inr (.inl ft))), (uq, .inr (1, [.ref bm, .ref bs])), (bm, .inr (0, [.ref am])), (am, .inl (cJ, 64, .inr (.inl fm))), (bs, .inr (0, [.ref ap])), (ap, .inl (cJ, 64, .inr (.inl fs)))])) (va_Qi (fun (r : Int32) (u : Unit) => r = nI (srch (bo fm) k).2) (fun (u : Unit) (t : State) => va_P (dC, dI) vwCl [(q, .inr (6, [.ref s0, .ref s1, .ref s2])), (s1, .inr (3, [.ref tq, .ref rq, .ref uq])), (tq, .inr (4, [.ref ca, .long sm, .int (oI lo)])), (ca, .inl (cJ, 64, .inr (.inl fc))), (rq, .inr (5, [.ref rb])), (rb, .inr (0, [.ref rd])), (rd, .inl (cJ, 128, .inr (.inl ft))), (uq, .inr (1, [.ref bm, .ref bs])), (bm, .inr (0, [.ref am])), (am, .inl (cJ, 64, .inr (.inl fm))), (bs, .inr (0, [.ref ap])), (ap, .inl (cJ, 64, .inr (.inl fs)))] t.heap ∧ va_K (dC, dI) vwCl [(cJ, .long)] t ∧ va_D (va_A [(q, .inr (6, [.ref s0, .ref s1, .ref s2])), (s1, .inr (3, [.ref tq, .ref rq, .ref uq])), (tq, .inr (4, [.ref ca, .long sm, .int (oI lo)])), (ca, .inl (cJ, 64, .inr (.inl fc))), (rq, .inr (5, [.ref rb])), (rb, .inr (0, [.ref rd])), (rd, .inl (cJ, 128, .inr (.inl ft))), (uq, .inr (1, [.ref bm, .ref bs])), (bm, .inr (0, [.ref am])), (am, .inl (cJ, 64, .inr (.inl fm))), (bs, .inr (0, [.ref ap])), (ap, .inl (cJ, 64, .inr (.inl fs)))] sz) [(q, .inr (6, [.ref s0, .ref s1, .ref s2])), (s1, .inr (3, [.ref tq, .ref rq, .ref uq])), (tq, .inr (4, [.ref ca, .long sm, .int (oI lo)])), (ca, .inl (cJ, 64, .inr (.inl fc))), (rq, .inr (5, [.ref rb])), (rb, .inr (0, [.ref rd])), (rd, .inl (cJ, 128, .inr (.inl ft))), (uq, .inr (1, [.ref bm, .ref bs])), (bm, .inr (0, [.ref am])), (am, .inl (cJ, 64, .inr (.inl fm))), (bs, .inr (0, [.ref ap])), (ap, .inl (cJ, 64, .inr (.inl fs)))]) (va_A [(q, .inr (6, [.ref s0, .ref s1, .ref s2])), (s1, .inr (3, [.ref tq, .ref rq, .ref uq])), (tq, .inr (4, [.ref ca, .long sm, .int (oI lo)])), (ca, .inl (cJ, 64, .inr (.inl fc))), (rq, .inr (5, [.ref rb])), (rb, .inr (0, [.ref rd])), (rd, .inl (cJ, 128, .inr (.inl ft))), (uq, .inr (1, [.ref bm, .ref bs])), (bm, .inr (0, [.ref am])), (am, .inl (cJ, 64, .inr (.inl fm))), (bs, .inr (0, [.ref ap])), (ap, .inl (cJ, 64, .inr (.inl fs)))] sz)) 1 2 (va_A [(q, .inr (6, [.ref s0, .ref s1, .ref s2])), (s1, .inr (3, [.ref tq, .ref rq, .ref uq])), (tq, .inr (4, [.ref ca, .long sm, .int (oI lo)])), (ca, .inl (cJ, 64, .inr (.inl fc))), (rq, .inr (5, [.ref rb])), (rb, .inr (0, [.ref rd])), (rd, .inl (cJ, 128, .inr (.inl ft))), (uq, .inr (1, [.ref bm, .ref bs])), (bm, .inr (0, [.ref am])), (am, .inl (cJ, 64, .inr (.inl fm))), (bs, .inr (0, [.ref ap])), (ap, .inl (cJ, 64, .inr (.inl fs)))] sz) := by
  refine Met.ofW (cc := cX7_probes) (maxL := 4) (ret := (some .int)) (by decide) rfl ?_
  intro p e s m args below meth c s₁ B hml hv
  obtain ⟨rfl, nw0, nw1, hsz, hP, hK, hD0⟩ := hv
  have hx := B.exec
  have hb := B.bytes
  have hr := B.returns
  have hts := atoms_spec (ws := wsX7_probes) B.pre
  have hown : s.vm.findClass RX7 = some m.cls := findClass_of_methodNamed B.named
  have hlocks := B.notSynchronized
  subst hsz
  have hD := hD0.self (sz := s.heap.size)
  generalize hAe : va_A [(q, .inr (6, [.ref s0, .ref s1, .ref s2])), (s1, .inr (3, [.ref tq, .ref rq, .ref uq])), (tq, .inr (4, [.ref ca, .long sm, .int (oI lo)])), (ca, .inl (cJ, 64, .inr (.inl fc))), (rq, .inr (5, [.ref rb])), (rb, .inr (0, [.ref rd])), (rd, .inl (cJ, 128, .inr (.inl ft))), (uq, .inr (1, [.ref bm, .ref bs])), (bm, .inr (0, [.ref am])), (am, .inl (cJ, 64, .inr (.inl fm))), (bs, .inr (0, [.ref ap])), (ap, .inl (cJ, 64, .inr (.inl fs)))] s.heap.size = A at hD ⊢
  have hA : ∀ q : Nat, s.heap.size ≤ q → A q := fun q h => by rw [← hAe]; exact Or.inr h
  have hS : va_S A s.heap s.heap [] := va_S.rf
  have hP : va_P (dC, dI) vwCl [(q, .inr (6, [.ref s0, .ref s1, .ref s2])), (s1, .inr (3, [.ref tq, .ref rq, .ref uq])), (tq, .inr (4, [.ref ca, .long sm, .int (oI lo)])), (ca, .inl (cJ, 64, .inr (.inl fc))), (rq, .inr (5, [.ref rb])), (rb, .inr (0, [.ref rd])), (rd, .inl (cJ, 128, .inr (.inl ft))), (uq, .inr (1, [.ref bm, .ref bs])), (bm, .inr (0, [.ref am])), (am, .inl (cJ, 64, .inr (.inl fm))), (bs, .inr (0, [.ref ap])), (ap, .inl (cJ, 64, .inr (.inl fs)))] s.heap := hP
  have hl := lv_entry ([.ref q, .int (nI 1), .int (nI k)]) (n := 4) (Nat.le_of_ble_eq_true rfl)
  rw [lg_entry_eq]
  generalize (lg_sl ([.ref q, .int (nI 1), .int (nI k)]) ++ List.replicate (4 - (lg_sl ([.ref q, .int (nI 1), .int (nI k)])).length) Slot.unset).toArray = ls at hl ⊢
  have hl : lv_has ls 4 [(0, .ref q), (1, .int (nI 1)), (2, .int (nI k))] := hl
  refine lv_aload_n hx hb dX7_probes_0 rfl (lv_at hl 0 rfl) ?_
  refine lv_iload_n hx hb dX7_probes_1 rfl (lv_at hl 1 rfl) ?_
  have hPc := hP.sub (ws' := [(q, .inr (6, [.ref s0, .ref s1, .ref s2]))]) [0] rfl
  have hKc := hK.sub (tys' := []) [] rfl
  refine va_csr (W.runV (As := [.int (nI 1)]) (rest := []) ⟨hx, hb, hml, hown, hts⟩ (c_X7_chosenSet_1 l dC dI q s0 s1 s2 ) (cwV 1 hts gX7_probes_X7_chosenSet rfl rfl rfl (by decide +kernel) ⟨Nat.le_of_ble_eq_true rfl, Nat.le_of_ble_eq_true rfl⟩) ⟨fun a U g mk q => by obtain ⟨q0, qP, qK⟩ := q; exact ⟨q0, qP, va_K.moved (u := U) (U := U.calling g mk a) (Vm.Alike.refl U.vm) qK⟩, va_recv hKc hPc (ci := 6) (q0 := 0) rfl rfl, fun U hU hW => ⟨rfl, by rw [hU]; exact hPc, va_K.moved hW.alike hKc⟩⟩ rfl rfl hl.1 rfl (lv_room (Nat.le_of_ble_eq_true rfl)) dX7_probes_2 ⟨Nat.le_of_ble_eq_true rfl, Nat.le_of_ble_eq_true rfl⟩) (fun r_2 hw_1 => ?_)
  have hw_1 := hw_1.symm
  subst hw_1
  refine lv_astore_n (lv' := [(3, .ref s1), (0, .ref q), (1, .int (nI 1)), (2, .int (nI k))]) hx hb dX7_probes_5 rfl hl (by decide) rfl (fun ls hl => ?_)
  refine lv_iload_n hx hb dX7_probes_6 rfl (lv_at hl 3 rfl) ?_
  have hPc := hP.sub (ws' := []) [] rfl
  have hKc := hK.sub (tys' := []) [] rfl
  refine va_csv (W.runS (As := [.int (nI k)]) (rest := []) ⟨hx, hb, hml, hown, hts⟩ (c_X7_needNumber l dC dI k (by first | assumption | omega)) (va_cwS 1 hts gX7_probes_X7_needNumber rfl rfl rfl (by decide +kernel) ⟨Nat.le_of_ble_eq_true rfl, Nat.le_of_ble_eq_true rfl⟩) ⟨fun a U g mk q => by obtain ⟨q0, qP, qK⟩ := q; exact ⟨q0, qP, va_K.moved (u := U) (U := U.calling g mk a) (Vm.Alike.refl U.vm) qK⟩, fun U hU hW => ⟨rfl, by rw [hU]; exact hPc, va_K.moved hW.alike hKc⟩⟩ rfl rfl hl.1 rfl (lv_room (Nat.le_of_ble_eq_true rfl)) dX7_probes_7 ⟨Nat.le_of_ble_eq_true rfl, Nat.le_of_ble_eq_true rfl⟩) (fun _ => ?_)
  refine lv_aload_n hx hb dX7_probes_10 rfl (lv_at hl 0 rfl) ?_
  refine va_getN (D := (dC, dI)) (ci := 3) (v := .ref rq) (C := RX3) (T := TX3) (N := 3) hx hb hts (by decide +kernel) hown hK hP 1 rfl rfl 1 (by decide) (va_Nw.use rfl nw0) (fun _ h9 => h9) rfl dX7_probes_11 ?_
  refine lv_iload_n hx hb dX7_probes_14 rfl (lv_at hl 3 rfl) ?_
  have hPc := hP.sub (ws' := [(rq, .inr (5, [.ref rb])), (rb, .inr (0, [.ref rd])), (rd, .inl (cJ, 128, .inr (.inl ft)))]) [4, 5, 6] rfl
  have hKc := hK.sub (tys' := [(cJ, .long)]) [0] rfl
  have hDc := hD.sub (ws' := [(rq, .inr (5, [.ref rb])), (rb, .inr (0, [.ref rd])), (rd, .inl (cJ, 128, .inr (.inl ft)))]) [4, 5, 6] (by decide) rfl
  have hFc := va_free (wc := [(rq, .inr (5, [.ref rb])), (rb, .inr (0, [.ref rd])), (rd, .inl (cJ, 128, .inr (.inl ft)))]) hD hS hA [4, 5, 6] rfl
  refine va_callr (va_runV (As := [.int (nI k)]) (rest := []) ⟨hx, hb, hml, hown, hts⟩ (c_X5_search l dC dI rq rb rd cJ ft (bo fm) k s.heap.size hN.2.1 (by first | assumption | omega)) (cwV 1 hts gX7_probes_X5_search rfl rfl rfl (by decide +kernel) ⟨Nat.le_of_ble_eq_true rfl, Nat.le_of_ble_eq_true rfl⟩) ⟨fun a U g mk q => by obtain ⟨q0, q1, qP, qK, qD⟩ := q; exact ⟨q0, q1, qP, va_K.moved (u := U) (U := U.calling g mk a) (Vm.Alike.refl U.vm) qK, qD⟩, va_recv hKc hPc (ci := 5) (q0 := 0) rfl rfl, fun U hU hW => ⟨rfl, by rw [hU], by rw [hU]; exact hPc, va_K.moved hW.alike hKc, hDc.weaken (fun _ _ _ _ => trivial)⟩⟩ rfl rfl hl.1 rfl (lv_room (Nat.le_of_ble_eq_true rfl)) dX7_probes_15 ⟨Nat.le_of_ble_eq_true rfl, Nat.le_of_ble_eq_true rfl⟩) hS (fun q _ h => hFc q h) hFc (fun u_6 r_7 t9 H1 locs ht hvm hw_5 hB hz1 hk1 hS => ?_)
  obtain ⟨mt_8, pb_9⟩ := u_6
  obtain ⟨hP1, hK1, hD1⟩ := hB
  rw [ht] at hP1
  have hK1 := va_K.moved hvm.symm hK1
  try dsimp only at hw_5 hP1 hK1 hD1
  obtain ⟨hP, hD⟩ := va_join (wr := [(q, .inr (6, [.ref s0, .ref s1, .ref s2])), (s1, .inr (3, [.ref tq, .ref rq, .ref uq])), (tq, .inr (4, [.ref ca, .long sm, .int (oI lo)])), (ca, .inl (cJ, 64, .inr (.inl fc))), (uq, .inr (1, [.ref bm, .ref bs])), (bm, .inr (0, [.ref am])), (am, .inl (cJ, 64, .inr (.inl fm))), (bs, .inr (0, [.ref ap])), (ap, .inl (cJ, 64, .inr (.inl fs)))]) (w1 := [(rq, .inr (5, [.ref rb])), (rb, .inr (0, [.ref rd])), (rd, .inl (cJ, 128, .inr (.inl ft))), (r_7, .inr (2, [.int (oI mt_8), .int (nI pb_9)]))]) hP hD [4, 5, 6] [0, 1, 2, 3, 7, 8, 9, 10, 11] rfl rfl (by decide) (by decide) hk1 hFc hP1 hD1
  generalize H1 = H at hP hS ⊢
  have hP : va_P (dC, dI) vwCl [(q, .inr (6, [.ref s0, .ref s1, .ref s2])), (s1, .inr (3, [.ref tq, .ref rq, .ref uq])), (tq, .inr (4, [.ref ca, .long sm, .int (oI lo)])), (ca, .inl (cJ, 64, .inr (.inl fc))), (uq, .inr (1, [.ref bm, .ref bs])), (bm, .inr (0, [.ref am])), (am, .inl (cJ, 64, .inr (.inl fm))), (bs, .inr (0, [.ref ap])), (ap, .inl (cJ, 64, .inr (.inl fs))), (rq, .inr (5, [.ref rb])), (rb, .inr (0, [.ref rd])), (rd, .inl (cJ, 128, .inr (.inl ft))), (r_7, .inr (2, [.int (oI mt_8), .int (nI pb_9)]))] H := hP
  have hD : va_D A [(q, .inr (6, [.ref s0, .ref s1, .ref s2])), (s1, .inr (3, [.ref tq, .ref rq, .ref uq])), (tq, .inr (4, [.ref ca, .long sm, .int (oI lo)])), (ca, .inl (cJ, 64, .inr (.inl fc))), (uq, .inr (1, [.ref bm, .ref bs])), (bm, .inr (0, [.ref am])), (am, .inl (cJ, 64, .inr (.inl fm))), (bs, .inr (0, [.ref ap])), (ap, .inl (cJ, 64, .inr (.inl fs))), (rq, .inr (5, [.ref rb])), (rb, .inr (0, [.ref rd])), (rd, .inl (cJ, 128, .inr (.inl ft))), (r_7, .inr (2, [.int (oI mt_8), .int (nI pb_9)]))] := hD
  refine W.cs (cells' := 1) (slots' := 2) rfl rfl ?_
  refine va_getN (D := (dC, dI)) (ci := 2) (v := .int (nI pb_9)) (C := RX2) (T := TX2) (N := 2) hx hb hts (by decide +kernel) hown hK hP 12 rfl rfl 1 (by decide) (va_Nw.use rfl nw1) (fun _ h9 => h9) rfl dX7_probes_18 ?_
  have hP9 := hP.sub (ws' := [(q, .inr (6, [.ref s0, .ref s1, .ref s2])), (s1, .inr (3, [.ref tq, .ref rq, .ref uq])), (tq, .inr (4, [.ref ca, .long sm, .int (oI lo)])), (ca, .inl (cJ, 64, .inr (.inl fc))), (rq, .inr (5, [.ref rb])), (rb, .inr (0, [.ref rd])), (rd, .inl (cJ, 128, .inr (.inl ft))), (uq, .inr (1, [.ref bm, .ref bs])), (bm, .inr (0, [.ref am])), (am, .inl (cJ, 64, .inr (.inl fm))), (bs, .inr (0, [.ref ap])), (ap, .inl (cJ, 64, .inr (.inl fs)))]) [0, 1, 2, 3, 9, 10, 11, 4, 5, 6, 7, 8] rfl
  have hD9 := hD.sub (ws' := [(q, .inr (6, [.ref s0, .ref s1, .ref s2])), (s1, .inr (3, [.ref tq, .ref rq, .ref uq])), (tq, .inr (4, [.ref ca, .long sm, .int (oI lo)])), (ca, .inl (cJ, 64, .inr (.inl fc))), (rq, .inr (5, [.ref rb])), (rb, .inr (0, [.ref rd])), (rd, .inl (cJ, 128, .inr (.inl ft))), (uq, .inr (1, [.ref bm, .ref bs])), (bm, .inr (0, [.ref am])), (am, .inl (cJ, 64, .inr (.inl fm))), (bs, .inr (0, [.ref ap])), (ap, .inl (cJ, 64, .inr (.inl fs)))]) [0, 1, 2, 3, 9, 10, 11, 4, 5, 6, 7, 8] (by decide) rfl
  have hK9 := hK.sub (tys' := [(cJ, .long)]) [0] rfl
  exact W.iret (v := nI pb_9) hx hb hr (fun t9 ht hW => ⟨⟨nI pb_9, (), rfl, by rw [← hw_5], by rw [ht]; exact hP9, va_K.moved hW.alike hK9, hD9⟩, hS.F ht⟩) hS.2.2 dX7_probes_21
set_option maxHeartbeats 4000000 in
set_option maxRecDepth 100000 in
/-- buckets, set 1 -/
theorem c_X7_buckets_1 (l : Launch) (dC : Nat → ClassId) (dI : Nat → Nat → Nat) (q : Nat) (s0 : Nat) (s1 : Nat) (s2 : Nat) (tq : Nat) (ca : Nat) (rq : Nat) (rb : Nat) (rd : Nat) (uq : Nat) (bm : Nat) (am : Nat) (bs : Nat) (ap : Nat) (cJ : ClassId) (fm : Nat → Int64) (fs : Nat → Int64) (ft : Nat → Int64) (fc : Nat → Int64) (sm : Int64) (lo : Option Nat) (hN : NI fm fs ft fc sm lo) : Met l yX7_buckets wsX7_buckets ({ frames := 3, cells := 0, slots := 0, locals := 65 }) (va_Pc [.ref q, .int (nI 1)] (fun U => va_Nw (.fieldLinkNest RX7 38 "SmallNumberSets$NumberSet" "buckets" "LSmallNumberSets$Buckets;" "SmallNumberSets") U ∧ va_P (dC, dI) vwCl [(q, .inr (6, [.ref s0, .ref s1, .ref s2])), (s1, .inr (3, [.ref tq, .ref rq, .ref uq])), (tq, .inr (4, [.ref ca, .long sm, .int (oI lo)])), (ca, .inl (cJ, 64, .inr (.inl fc))), (rq, .inr (5, [.ref rb])), (rb, .inr (0, [.ref rd])), (rd, .inl (cJ, 128, .inr (.inl ft))), (uq, .inr (1, [.ref bm, .ref bs])), (bm, .inr (0, [.ref am])), (am, .inl (cJ, 64, .inr (.inl fm))), (bs, .inr (0, [.ref ap])), (ap, .inl (cJ, 64, .inr (.inl fs)))] U.heap ∧ va_K (dC, dI) vwCl [(cJ, .long)] U)) (vp_Si (fun r => r = nI (fb_ct (bo fs) 4096))) 0 0 (fun _ => False) := by
  refine Met.ofW (cc := cX7_buckets) (maxL := 2) (ret := (some .int)) (by decide) rfl ?_
  intro p e s m args below meth c s₁ B hml hv
  obtain ⟨rfl, nw0, hP, hK⟩ := hv
  have hx := B.exec
  have hb := B.bytes
  have hr := B.returns
  have hts := atoms_spec (ws := wsX7_buckets) B.pre
  have hown : s.vm.findClass RX7 = some m.cls := findClass_of_methodNamed B.named
  have hlocks := B.notSynchronized
  have hP : va_P (dC, dI) vwCl [(q, .inr (6, [.ref s0, .ref s1, .ref s2])), (s1, .inr (3, [.ref tq, .ref rq, .ref uq])), (tq, .inr (4, [.ref ca, .long sm, .int (oI lo)])), (ca, .inl (cJ, 64, .inr (.inl fc))), (rq, .inr (5, [.ref rb])), (rb, .inr (0, [.ref rd])), (rd, .inl (cJ, 128, .inr (.inl ft))), (uq, .inr (1, [.ref bm, .ref bs])), (bm, .inr (0, [.ref am])), (am, .inl (cJ, 64, .inr (.inl fm))), (bs, .inr (0, [.ref ap])), (ap, .inl (cJ, 64, .inr (.inl fs)))] s.heap := hP
  have hl := lv_entry ([.ref q, .int (nI 1)]) (n := 2) (Nat.le_of_ble_eq_true rfl)
  rw [lg_entry_eq]
  generalize (lg_sl ([.ref q, .int (nI 1)]) ++ List.replicate (2 - (lg_sl ([.ref q, .int (nI 1)])).length) Slot.unset).toArray = ls at hl ⊢
  have hl : lv_has ls 2 [(0, .ref q), (1, .int (nI 1))] := hl
  refine lv_aload_n hx hb dX7_buckets_0 rfl (lv_at hl 0 rfl) ?_
  refine lv_iload_n hx hb dX7_buckets_1 rfl (lv_at hl 1 rfl) ?_
  have hPc := hP.sub (ws' := [(q, .inr (6, [.ref s0, .ref s1, .ref s2]))]) [0] rfl
  have hKc := hK.sub (tys' := []) [] rfl
  refine va_csr (W.runV (As := [.int (nI 1)]) (rest := []) ⟨hx, hb, hml, hown, hts⟩ (c_X7_chosenSet_1 l dC dI q s0 s1 s2 ) (cwV 1 hts gX7_buckets_X7_chosenSet rfl rfl rfl (by decide +kernel) ⟨Nat.le_of_ble_eq_true rfl, Nat.le_of_ble_eq_true rfl⟩) ⟨fun a U g mk q => by obtain ⟨q0, qP, qK⟩ := q; exact ⟨q0, qP, va_K.moved (u := U) (U := U.calling g mk a) (Vm.Alike.refl U.vm) qK⟩, va_recv hKc hPc (ci := 6) (q0 := 0) rfl rfl, fun U hU hW => ⟨rfl, by rw [hU]; exact hPc, va_K.moved hW.alike hKc⟩⟩ rfl rfl hl.1 rfl (lv_room (Nat.le_of_ble_eq_true rfl)) dX7_buckets_2 ⟨Nat.le_of_ble_eq_true rfl, Nat.le_of_ble_eq_true rfl⟩) (fun r_2 hw_1 => ?_)
  have hw_1 := hw_1.symm
  subst hw_1
  refine va_getN (D := (dC, dI)) (ci := 3) (v := .ref uq) (C := RX3) (T := TX3) (N := 3) hx hb hts (by decide +kernel) hown hK hP 1 rfl rfl 2 (by decide) (va_Nw.use rfl nw0) (fun _ h9 => h9) rfl dX7_buckets_5 ?_
  have hPc := hP.sub (ws' := [(uq, .inr (1, [.ref bm, .ref bs])), (bm, .inr (0, [.ref am])), (am, .inl (cJ, 64, .inr (.inl fm))), (bs, .inr (0, [.ref ap])), (ap, .inl (cJ, 64, .inr (.inl fs)))]) [7, 8, 9, 10, 11] rfl
  have hKc := hK.sub (tys' := [(cJ, .long)]) [0] rfl
  refine vp_callSi (W.runV (As := []) (rest := []) ⟨hx, hb, hml, hown, hts⟩ (c_X1_bucketCount l dC dI uq bm am bs ap cJ fm fs ) (cwV 0 hts gX7_buckets_X1_bucketCount rfl rfl rfl (by decide +kernel) ⟨Nat.le_of_ble_eq_true rfl, Nat.le_of_ble_eq_true rfl⟩) ⟨fun a U g mk q => by obtain ⟨q0, qP, qK⟩ := q; exact ⟨q0, qP, va_K.moved (u := U) (U := U.calling g mk a) (Vm.Alike.refl U.vm) qK⟩, va_recv hKc hPc (ci := 1) (q0 := 0) rfl rfl, fun U hU hW => ⟨rfl, by rw [hU]; exact hPc, va_K.moved hW.alike hKc⟩⟩ rfl rfl hl.1 rfl (lv_room (Nat.le_of_ble_eq_true rfl)) dX7_buckets_8 ⟨Nat.le_of_ble_eq_true rfl, Nat.le_of_ble_eq_true rfl⟩) (fun r_4 hw_3 => ?_)
  subst hw_3
  exact W.iret (v := nI (fb_ct (bo fs) 4096)) hx hb hr (fun t9 ht hW => ⟨nI (fb_ct (bo fs) 4096), rfl, rfl, ht⟩) (fun q h => by cases h) dX7_buckets_11
set_option maxHeartbeats 4000000 in
set_option maxRecDepth 100000 in
/-- bucketSize, set 1 -/
theorem c_X7_bucketSize_1 (l : Launch) (dC : Nat → ClassId) (dI : Nat → Nat → Nat) (q : Nat) (s0 : Nat) (s1 : Nat) (s2 : Nat) (tq : Nat) (ca : Nat) (rq : Nat) (rb : Nat) (rd : Nat) (uq : Nat) (bm : Nat) (am : Nat) (bs : Nat) (ap : Nat) (cJ : ClassId) (fm : Nat → Int64) (fs : Nat → Int64) (ft : Nat → Int64) (fc : Nat → Int64) (sm : Int64) (lo : Option Nat) (k : Nat) (hN : NI fm fs ft fc sm lo) (hk : k < fb_ct (bo fs) 4096) : Met l yX7_bucketSize wsX7_bucketSize ({ frames := 4, cells := 0, slots := 0, locals := 92 }) (va_Pc [.ref q, .int (nI 1), .int (nI k)] (fun U => va_Nw (.fieldLinkNest RX7 38 "SmallNumberSets$NumberSet" "buckets" "LSmallNumberSets$Buckets;" "SmallNumberSets") U ∧ va_P (dC, dI) vwCl [(q, .inr (6, [.ref s0, .ref s1, .ref s2])), (s1, .inr (3, [.ref tq, .ref rq, .ref uq])), (tq, .inr (4, [.ref ca, .long sm, .int (oI lo)])), (ca, .inl (cJ, 64, .inr (.inl fc))), (rq, .inr (5, [.ref rb])), (rb, .inr (0, [.ref rd])), (rd, .inl (cJ, 128, .inr (.inl ft))), (uq, .inr (1, [.ref bm, .ref bs])), (bm, .inr (0, [.ref am])), (am, .inl (cJ, 64, .inr (.inl fm))), (bs, .inr (0, [.ref ap])), (ap, .inl (cJ, 64, .inr (.inl fs)))] U.heap ∧ va_K (dC, dI) vwCl [(cJ, .long)] U)) (vp_Si (fun r => r = nI (heldc (bo fm) (bo fs) (sp (bo fs) k)))) 0 0 (fun _ => False) := by
  refine Met.ofW (cc := cX7_bucketSize) (maxL := 4) (ret := (some .int)) (by decide) rfl ?_
  intro p e s m args below meth c s₁ B hml hv
  obtain ⟨rfl, nw0, hP, hK⟩ := hv
  have hx := B.exec
  have hb := B.bytes
  have hr := B.returns
  have hts := atoms_spec (ws := wsX7_bucketSize) B.pre
  have hown : s.vm.findClass RX7 = some m.cls := findClass_of_methodNamed B.named
  have hlocks := B.notSynchronized
  have hP : va_P (dC, dI) vwCl [(q, .inr (6, [.ref s0, .ref s1, .ref s2])), (s1, .inr (3, [.ref tq, .ref rq, .ref uq])), (tq, .inr (4, [.ref ca, .long sm, .int (oI lo)])), (ca, .inl (cJ, 64, .inr (.inl fc))), (rq, .inr (5, [.ref rb])), (rb, .inr (0, [.ref rd])), (rd, .inl (cJ, 128, .inr (.inl ft))), (uq, .inr (1, [.ref bm, .ref bs])), (bm, .inr (0, [.ref am])), (am, .inl (cJ, 64, .inr (.inl fm))), (bs, .inr (0, [.ref ap])), (ap, .inl (cJ, 64, .inr (.inl fs)))] s.heap := hP
  have hl := lv_entry ([.ref q, .int (nI 1), .int (nI k)]) (n := 4) (Nat.le_of_ble_eq_true rfl)
  rw [lg_entry_eq]
  generalize (lg_sl ([.ref q, .int (nI 1), .int (nI k)]) ++ List.replicate (4 - (lg_sl ([.ref q, .int (nI 1), .int (nI k)])).length) Slot.unset).toArray = ls at hl ⊢
  have hl : lv_has ls 4 [(0, .ref q), (1, .int (nI 1)), (2, .int (nI k))] := hl
  have hcb := fb_ct_le (bo fm) 4096
  have hcs := fb_ct_le (bo fs) 4096
  obtain ⟨hs1, hs2, -, -⟩ := sp_lt hk
  refine lv_aload_n hx hb dX7_bucketSize_0 rfl (lv_at hl 0 rfl) ?_
  refine lv_iload_n hx hb dX7_bucketSize_1 rfl (lv_at hl 1 rfl) ?_
  have hPc := hP.sub (ws' := [(q, .inr (6, [.ref s0, .ref s1, .ref s2]))]) [0] rfl
  have hKc := hK.sub (tys' := []) [] rfl
  refine va_csr (W.runV (As := [.int (nI 1)]) (rest := []) ⟨hx, hb, hml, hown, hts⟩ (c_X7_chosenSet_1 l dC dI q s0 s1 s2 ) (cwV 1 hts gX7_bucketSize_X7_chosenSet rfl rfl rfl (by decide +kernel) ⟨Nat.le_of_ble_eq_true rfl, Nat.le_of_ble_eq_true rfl⟩) ⟨fun a U g mk q => by obtain ⟨q0, qP, qK⟩ := q; exact ⟨q0, qP, va_K.moved (u := U) (U := U.calling g mk a) (Vm.Alike.refl U.vm) qK⟩, va_recv hKc hPc (ci := 6) (q0 := 0) rfl rfl, fun U hU hW => ⟨rfl, by rw [hU]; exact hPc, va_K.moved hW.alike hKc⟩⟩ rfl rfl hl.1 rfl (lv_room (Nat.le_of_ble_eq_true rfl)) dX7_bucketSize_2 ⟨Nat.le_of_ble_eq_true rfl, Nat.le_of_ble_eq_true rfl⟩) (fun r_2 hw_1 => ?_)
  have hw_1 := hw_1.symm
  subst hw_1
  refine lv_astore_n (lv' := [(3, .ref s1), (0, .ref q), (1, .int (nI 1)), (2, .int (nI k))]) hx hb dX7_bucketSize_5 rfl hl (by decide) rfl (fun ls hl => ?_)
  refine lv_iload_n hx hb dX7_bucketSize_6 rfl (lv_at hl 3 rfl) ?_
  refine lv_aload_n hx hb dX7_bucketSize_7 rfl (lv_at hl 0 rfl) ?_
  refine va_getN (D := (dC, dI)) (ci := 3) (v := .ref uq) (C := RX3) (T := TX3) (N := 3) hx hb hts (by decide +kernel) hown hK hP 1 rfl rfl 2 (by decide) (va_Nw.use rfl nw0) (fun _ h9 => h9) rfl dX7_bucketSize_8 ?_
  have hPc := hP.sub (ws' := [(uq, .inr (1, [.ref bm, .ref bs])), (bm, .inr (0, [.ref am])), (am, .inl (cJ, 64, .inr (.inl fm))), (bs, .inr (0, [.ref ap])), (ap, .inl (cJ, 64, .inr (.inl fs)))]) [7, 8, 9, 10, 11] rfl
  have hKc := hK.sub (tys' := [(cJ, .long)]) [0] rfl
  refine vp_callSi (W.runV (As := []) (rest := [.int (nI k)]) ⟨hx, hb, hml, hown, hts⟩ (c_X1_bucketCount l dC dI uq bm am bs ap cJ fm fs ) (cwV 0 hts gX7_bucketSize_X1_bucketCount rfl rfl rfl (by decide +kernel) ⟨Nat.le_of_ble_eq_true rfl, Nat.le_of_ble_eq_true rfl⟩) ⟨fun a U g mk q => by obtain ⟨q0, qP, qK⟩ := q; exact ⟨q0, qP, va_K.moved (u := U) (U := U.calling g mk a) (Vm.Alike.refl U.vm) qK⟩, va_recv hKc hPc (ci := 1) (q0 := 0) rfl rfl, fun U hU hW => ⟨rfl, by rw [hU]; exact hPc, va_K.moved hW.alike hKc⟩⟩ rfl rfl hl.1 rfl (lv_room (Nat.le_of_ble_eq_true rfl)) dX7_bucketSize_11 ⟨Nat.le_of_ble_eq_true rfl, Nat.le_of_ble_eq_true rfl⟩) (fun r_4 hw_3 => ?_)
  subst hw_3
  have hPc := hP.sub (ws' := []) [] rfl
  have hKc := hK.sub (tys' := []) [] rfl
  refine va_csv (W.runS (As := [.int (nI k), .int (nI (fb_ct (bo fs) 4096))]) (rest := []) ⟨hx, hb, hml, hown, hts⟩ (c_X7_needPlace l dC dI k (fb_ct (bo fs) 4096) (by first | assumption | omega) (by first | assumption | omega)) (va_cwS 2 hts gX7_bucketSize_X7_needPlace rfl rfl rfl (by decide +kernel) ⟨Nat.le_of_ble_eq_true rfl, Nat.le_of_ble_eq_true rfl⟩) ⟨fun a U g mk q => by obtain ⟨q0, qP, qK⟩ := q; exact ⟨q0, qP, va_K.moved (u := U) (U := U.calling g mk a) (Vm.Alike.refl U.vm) qK⟩, fun U hU hW => ⟨rfl, by rw [hU]; exact hPc, va_K.moved hW.alike hKc⟩⟩ rfl rfl hl.1 rfl (lv_room (Nat.le_of_ble_eq_true rfl)) dX7_bucketSize_14 ⟨Nat.le_of_ble_eq_true rfl, Nat.le_of_ble_eq_true rfl⟩) (fun _ => ?_)
  refine lv_aload_n hx hb dX7_bucketSize_17 rfl (lv_at hl 0 rfl) ?_
  refine va_getN (D := (dC, dI)) (ci := 3) (v := .ref uq) (C := RX3) (T := TX3) (N := 3) hx hb hts (by decide +kernel) hown hK hP 1 rfl rfl 2 (by decide) (va_Nw.use rfl nw0) (fun _ h9 => h9) rfl dX7_bucketSize_18 ?_
  refine lv_aload_n hx hb dX7_bucketSize_21 rfl (lv_at hl 0 rfl) ?_
  refine va_getN (D := (dC, dI)) (ci := 3) (v := .ref uq) (C := RX3) (T := TX3) (N := 3) hx hb hts (by decide +kernel) hown hK hP 1 rfl rfl 2 (by decide) (va_Nw.use rfl nw0) (fun _ h9 => h9) rfl dX7_bucketSize_22 ?_
  refine lv_iload_n hx hb dX7_bucketSize_25 rfl (lv_at hl 3 rfl) ?_
  have hPc := hP.sub (ws' := [(uq, .inr (1, [.ref bm, .ref bs])), (bm, .inr (0, [.ref am])), (am, .inl (cJ, 64, .inr (.inl fm))), (bs, .inr (0, [.ref ap])), (ap, .inl (cJ, 64, .inr (.inl fs)))]) [7, 8, 9, 10, 11] rfl
  have hKc := hK.sub (tys' := [(cJ, .long)]) [0] rfl
  refine vp_callSi (W.runV (As := [.int (nI k)]) (rest := [.ref uq]) ⟨hx, hb, hml, hown, hts⟩ (c_X1_separatorAt l dC dI uq bm am bs ap cJ fm fs k (by first | assumption | omega)) (cwV 1 hts gX7_bucketSize_X1_separatorAt rfl rfl rfl (by decide +kernel) ⟨Nat.le_of_ble_eq_true rfl, Nat.le_of_ble_eq_true rfl⟩) ⟨fun a U g mk q => by obtain ⟨q0, qP, qK⟩ := q; exact ⟨q0, qP, va_K.moved (u := U) (U := U.calling g mk a) (Vm.Alike.refl U.vm) qK⟩, va_recv hKc hPc (ci := 1) (q0 := 0) rfl rfl, fun U hU hW => ⟨rfl, by rw [hU]; exact hPc, va_K.moved hW.alike hKc⟩⟩ rfl rfl hl.1 rfl (lv_room (Nat.le_of_ble_eq_true rfl)) dX7_bucketSize_26 ⟨Nat.le_of_ble_eq_true rfl, Nat.le_of_ble_eq_true rfl⟩) (fun r_8 hw_7 => ?_)
  subst hw_7
  refine lv_cvi (congrArg oI hs1) ?_
  refine lv_cvi ((rfl : oI (some (sp (bo fs) k)) = nI (sp (bo fs) k))) ?_
  have hPc := hP.sub (ws' := [(uq, .inr (1, [.ref bm, .ref bs])), (bm, .inr (0, [.ref am])), (am, .inl (cJ, 64, .inr (.inl fm))), (bs, .inr (0, [.ref ap])), (ap, .inl (cJ, 64, .inr (.inl fs)))]) [7, 8, 9, 10, 11] rfl
  have hKc := hK.sub (tys' := [(cJ, .long)]) [0] rfl
  refine vp_callSi (W.runV (As := [.int (nI (sp (bo fs) k))]) (rest := []) ⟨hx, hb, hml, hown, hts⟩ (c_X1_membersFrom l dC dI uq bm am bs ap cJ fm fs (sp (bo fs) k) (by first | assumption | omega)) (cwV 1 hts gX7_bucketSize_X1_membersFrom rfl rfl rfl (by decide +kernel) ⟨Nat.le_of_ble_eq_true rfl, Nat.le_of_ble_eq_true rfl⟩) ⟨fun a U g mk q => by obtain ⟨q0, qP, qK⟩ := q; exact ⟨q0, qP, va_K.moved (u := U) (U := U.calling g mk a) (Vm.Alike.refl U.vm) qK⟩, va_recv hKc hPc (ci := 1) (q0 := 0) rfl rfl, fun U hU hW => ⟨rfl, by rw [hU]; exact hPc, va_K.moved hW.alike hKc⟩⟩ rfl rfl hl.1 rfl (lv_room (Nat.le_of_ble_eq_true rfl)) dX7_bucketSize_29 ⟨Nat.le_of_ble_eq_true rfl, Nat.le_of_ble_eq_true rfl⟩) (fun r_10 hw_9 => ?_)
  subst hw_9
  exact W.iret (v := nI (heldc (bo fm) (bo fs) (sp (bo fs) k))) hx hb hr (fun t9 ht hW => ⟨nI (heldc (bo fm) (bo fs) (sp (bo fs) k)), rfl, rfl, ht⟩) (fun q h => by cases h) dX7_bucketSize_32
set_option maxHeartbeats 4000000 in
set_option maxRecDepth 100000 in
/-- pollFirst, set 1 -/
theorem c_X7_pollFirst_1 (l : Launch) (dC : Nat → ClassId) (dI : Nat → Nat → Nat) (q : Nat) (s0 : Nat) (s1 : Nat) (s2 : Nat) (tq : Nat) (ca : Nat) (rq : Nat) (rb : Nat) (rd : Nat) (uq : Nat) (bm : Nat) (am : Nat) (bs : Nat) (ap : Nat) (cJ : ClassId) (fm : Nat → Int64) (fs : Nat → Int64) (ft : Nat → Int64) (fc : Nat → Int64) (sm : Int64) (lo : Option Nat) (z : Nat) (sz : Nat) (hN : NI fm fs ft fc sm lo) (hz : fst1 (bo fm) 4096 = some z) : Met l yX7_pollFirst wsX7_pollFirst ({ frames := 7, cells := 0, slots := 0, locals := 159 }) (va_Pc [.ref q, .int (nI 1)] (fun U => va_Nw (.fieldLinkNest RX7 62 "SmallNumberSets$NumberSet" "tree" "LSmallNumberSets$Tree;" "SmallNumberSets") U ∧ U.heap.size = sz ∧ va_P (dC, dI) vwCl [(q, .inr (6, [.ref s0, .ref s1, .ref s2])), (s1, .inr (3, [.ref tq, .ref rq, .ref uq])), (tq, .inr (4, [.ref ca, .long sm, .int (oI lo)])), (ca, .inl (cJ, 64, .inr (.inl fc))), (rq, .inr (5, [.ref rb])), (rb, .inr (0, [.ref rd])), (rd, .inl (cJ, 128, .inr (.inl ft))), (uq, .inr (1, [.ref bm, .ref bs])), (bm, .inr (0, [.ref am])), (am, .inl (cJ, 64, .inr (.inl fm))), (bs, .inr (0, [.ref ap])), (ap, .inl (cJ, 64, .inr (.inl fs)))] U.heap ∧ va_K (dC, dI) vwCl [(cJ, .long)] U ∧ va_D (fun _ => True) [(q, .inr (6, [.ref s0, .ref s1, .ref s2])), (s1, .inr (3, [.ref tq, .ref rq, .ref uq])), (tq, .inr (4, [.ref ca, .long sm, .int (oI lo)])), (ca, .inl (cJ, 64, .inr (.inl fc))), (rq, .inr (5, [.ref rb])), (rb, .inr (0, [.ref rd])), (rd, .inl (cJ, 128, .inr (.inl ft))), (uq, .inr (1, [.ref bm, .ref bs])), (bm, .inr (0, [.ref am])), (am, .inl (cJ, 64, .inr (.inl fm))), (bs, .inr (0, [.ref ap])), (ap, .inl (cJ, 64, .inr (.inl fs)))])) (va_Qi (fun (r : Int32) (u : (Nat → Int64) × (Nat → Int64) × (Nat → Int64) × (Nat → Int64) × Int64 × (Option Nat)) => r = nI z ∧ NI u.1 u.2.1 u.2.2.1 u.2.2.2.1 u.2.2.2.2.1 u.2.2.2.2.2 ∧ (∀ x, x < 4096 → bo u.1 x = del (bo fm) z x) ∧ ∀ x, x < 4096 → bo u.2.1 x = takeP (bo fm) (bo fs) z x) (fun (u : (Nat → Int64) × (Nat → Int64) × (Nat → Int64) × (Nat → Int64) × Int64 × (Option Nat)) (t : State) => va_P (dC, dI) vwCl [(q, .inr (6, [.ref s0, .ref s1, .ref s2])), (s1, .inr (3, [.ref tq, .ref rq, .ref uq])), (tq, .inr (4, [.ref ca, .long u.2.2.2.2.1, .int (oI u.2.2.2.2.2)])), (ca, .inl (cJ, 64, .inr (.inl u.2.2.2.1))), (rq, .inr (5, [.ref rb])), (rb, .inr (0, [.ref rd])), (rd, .inl (cJ, 128, .inr (.inl u.2.2.1))), (uq, .inr (1, [.ref bm, .ref bs])), (bm, .inr (0, [.ref am])), (am, .inl (cJ, 64, .inr (.inl u.1))), (bs, .inr (0, [.ref ap])), (ap, .inl (cJ, 64, .inr (.inl u.2.1)))] t.heap ∧ va_K (dC, dI) vwCl [(cJ, .long)] t ∧ va_D (va_A [(q, .inr (6, [.ref s0, .ref s1, .ref s2])), (s1, .inr (3, [.ref tq, .ref rq, .ref uq])), (tq, .inr (4, [.ref ca, .long sm, .int (oI lo)])), (ca, .inl (cJ, 64, .inr (.inl fc))), (rq, .inr (5, [.ref rb])), (rb, .inr (0, [.ref rd])), (rd, .inl (cJ, 128, .inr (.inl ft))), (uq, .inr (1, [.ref bm, .ref bs])), (bm, .inr (0, [.ref am])), (am, .inl (cJ, 64, .inr (.inl fm))), (bs, .inr (0, [.ref ap])), (ap, .inl (cJ, 64, .inr (.inl fs)))] sz) [(q, .inr (6, [.ref s0, .ref s1, .ref s2])), (s1, .inr (3, [.ref tq, .ref rq, .ref uq])), (tq, .inr (4, [.ref ca, .long u.2.2.2.2.1, .int (oI u.2.2.2.2.2)])), (ca, .inl (cJ, 64, .inr (.inl u.2.2.2.1))), (rq, .inr (5, [.ref rb])), (rb, .inr (0, [.ref rd])), (rd, .inl (cJ, 128, .inr (.inl u.2.2.1))), (uq, .inr (1, [.ref bm, .ref bs])), (bm, .inr (0, [.ref am])), (am, .inl (cJ, 64, .inr (.inl u.1))), (bs, .inr (0, [.ref ap])), (ap, .inl (cJ, 64, .inr (.inl u.2.1)))]) (va_A [(q, .inr (6, [.ref s0, .ref s1, .ref s2])), (s1, .inr (3, [.ref tq, .ref rq, .ref uq])), (tq, .inr (4, [.ref ca, .long sm, .int (oI lo)])), (ca, .inl (cJ, 64, .inr (.inl fc))), (rq, .inr (5, [.ref rb])), (rb, .inr (0, [.ref rd])), (rd, .inl (cJ, 128, .inr (.inl ft))), (uq, .inr (1, [.ref bm, .ref bs])), (bm, .inr (0, [.ref am])), (am, .inl (cJ, 64, .inr (.inl fm))), (bs, .inr (0, [.ref ap])), (ap, .inl (cJ, 64, .inr (.inl fs)))] sz)) 0 0 (va_A [(q, .inr (6, [.ref s0, .ref s1, .ref s2])), (s1, .inr (3, [.ref tq, .ref rq, .ref uq])), (tq, .inr (4, [.ref ca, .long sm, .int (oI lo)])), (ca, .inl (cJ, 64, .inr (.inl fc))), (rq, .inr (5, [.ref rb])), (rb, .inr (0, [.ref rd])), (rd, .inl (cJ, 128, .inr (.inl ft))), (uq, .inr (1, [.ref bm, .ref bs])), (bm, .inr (0, [.ref am])), (am, .inl (cJ, 64, .inr (.inl fm))), (bs, .inr (0, [.ref ap])), (ap, .inl (cJ, 64, .inr (.inl fs)))] sz) := by
  refine Met.ofW (cc := cX7_pollFirst) (maxL := 4) (ret := (some .int)) (by decide) rfl ?_
  intro p e s m args below meth c s₁ B hml hv
  obtain ⟨rfl, nw0, hsz, hP, hK, hD0⟩ := hv
  have hx := B.exec
  have hb := B.bytes
  have hr := B.returns
  have hts := atoms_spec (ws := wsX7_pollFirst) B.pre
  have hown : s.vm.findClass RX7 = some m.cls := findClass_of_methodNamed B.named
  have hlocks := B.notSynchronized
  subst hsz
  have hD := hD0.self (sz := s.heap.size)
  generalize hAe : va_A [(q, .inr (6, [.ref s0, .ref s1, .ref s2])), (s1, .inr (3, [.ref tq, .ref rq, .ref uq])), (tq, .inr (4, [.ref ca, .long sm, .int (oI lo)])), (ca, .inl (cJ, 64, .inr (.inl fc))), (rq, .inr (5, [.ref rb])), (rb, .inr (0, [.ref rd])), (rd, .inl (cJ, 128, .inr (.inl ft))), (uq, .inr (1, [.ref bm, .ref bs])), (bm, .inr (0, [.ref am])), (am, .inl (cJ, 64, .inr (.inl fm))), (bs, .inr (0, [.ref ap])), (ap, .inl (cJ, 64, .inr (.inl fs)))] s.heap.size = A at hD ⊢
  have hA : ∀ q : Nat, s.heap.size ≤ q → A q := fun q h => by rw [← hAe]; exact Or.inr h
  have hS : va_S A s.heap s.heap [] := va_S.rf
  have hP : va_P (dC, dI) vwCl [(q, .inr (6, [.ref s0, .ref s1, .ref s2])), (s1, .inr (3, [.ref tq, .ref rq, .ref uq])), (tq, .inr (4, [.ref ca, .long sm, .int (oI lo)])), (ca, .inl (cJ, 64, .inr (.inl fc))), (rq, .inr (5, [.ref rb])), (rb, .inr (0, [.ref rd])), (rd, .inl (cJ, 128, .inr (.inl ft))), (uq, .inr (1, [.ref bm, .ref bs])), (bm, .inr (0, [.ref am])), (am, .inl (cJ, 64, .inr (.inl fm))), (bs, .inr (0, [.ref ap])), (ap, .inl (cJ, 64, .inr (.inl fs)))] s.heap := hP
  have hl := lv_entry ([.ref q, .int (nI 1)]) (n := 4) (Nat.le_of_ble_eq_true rfl)
  rw [lg_entry_eq]
  generalize (lg_sl ([.ref q, .int (nI 1)]) ++ List.replicate (4 - (lg_sl ([.ref q, .int (nI 1)])).length) Slot.unset).toArray = ls at hl ⊢
  have hl : lv_has ls 4 [(0, .ref q), (1, .int (nI 1))] := hl
  have hzb := (fst1_some hz).1
  refine lv_aload_n hx hb dX7_pollFirst_0 rfl (lv_at hl 0 rfl) ?_
  refine lv_iload_n hx hb dX7_pollFirst_1 rfl (lv_at hl 1 rfl) ?_
  have hPc := hP.sub (ws' := [(q, .inr (6, [.ref s0, .ref s1, .ref s2]))]) [0] rfl
  have hKc := hK.sub (tys' := []) [] rfl
  refine va_csr (W.runV (As := [.int (nI 1)]) (rest := []) ⟨hx, hb, hml, hown, hts⟩ (c_X7_chosenSet_1 l dC dI q s0 s1 s2 ) (cwV 1 hts gX7_pollFirst_X7_chosenSet rfl rfl rfl (by decide +kernel) ⟨Nat.le_of_ble_eq_true rfl, Nat.le_of_ble_eq_true rfl⟩) ⟨fun a U g mk q => by obtain ⟨q0, qP, qK⟩ := q; exact ⟨q0, qP, va_K.moved (u := U) (U := U.calling g mk a) (Vm.Alike.refl U.vm) qK⟩, va_recv hKc hPc (ci := 6) (q0 := 0) rfl rfl, fun U hU hW => ⟨rfl, by rw [hU]; exact hPc, va_K.moved hW.alike hKc⟩⟩ rfl rfl hl.1 rfl (lv_room (Nat.le_of_ble_eq_true rfl)) dX7_pollFirst_2 ⟨Nat.le_of_ble_eq_true rfl, Nat.le_of_ble_eq_true rfl⟩) (fun r_2 hw_1 => ?_)
  have hw_1 := hw_1.symm
  subst hw_1
  refine lv_astore_n (lv' := [(2, .ref s1), (0, .ref q), (1, .int (nI 1))]) hx hb dX7_pollFirst_5 rfl hl (by decide) rfl (fun ls hl => ?_)
  refine lv_aload_n hx hb dX7_pollFirst_6 rfl (lv_at hl 0 rfl) ?_
  refine va_getN (D := (dC, dI)) (ci := 3) (v := .ref tq) (C := RX3) (T := TX3) (N := 3) hx hb hts (by decide +kernel) hown hK hP 1 rfl rfl 0 (by decide) (va_Nw.use rfl nw0) (fun _ h9 => h9) rfl dX7_pollFirst_7 ?_
  have hPc := hP.sub (ws' := [(tq, .inr (4, [.ref ca, .long sm, .int (oI lo)])), (ca, .inl (cJ, 64, .inr (.inl fc)))]) [2, 3] rfl
  have hKc := hK.sub (tys' := [(cJ, .long)]) [0] rfl
  refine vp_callSi (W.runV (As := []) (rest := []) ⟨hx, hb, hml, hown, hts⟩ (c_X4_least l dC dI tq ca cJ fc sm lo ) (cwV 0 hts gX7_pollFirst_X4_least rfl rfl rfl (by decide +kernel) ⟨Nat.le_of_ble_eq_true rfl, Nat.le_of_ble_eq_true rfl⟩) ⟨fun a U g mk q => by obtain ⟨q0, qP, qK⟩ := q; exact ⟨q0, qP, va_K.moved (u := U) (U := U.calling g mk a) (Vm.Alike.refl U.vm) qK⟩, va_recv hKc hPc (ci := 4) (q0 := 0) rfl rfl, fun U hU hW => ⟨rfl, by rw [hU]; exact hPc, va_K.moved hW.alike hKc⟩⟩ rfl rfl hl.1 rfl (lv_room (Nat.le_of_ble_eq_true rfl)) dX7_pollFirst_10 ⟨Nat.le_of_ble_eq_true rfl, Nat.le_of_ble_eq_true rfl⟩) (fun r_4 hw_3 => ?_)
  subst hw_3
  refine lv_cvi (congrArg oI (hN.2.2.1.trans hz)) ?_
  refine lv_cvi ((rfl : oI (some z) = nI z)) ?_
  refine lv_istore_n (lv' := [(3, .int (nI z)), (2, .ref s1), (0, .ref q), (1, .int (nI 1))]) hx hb dX7_pollFirst_13 rfl hl (by decide) rfl (fun ls hl => ?_)
  refine lv_iload_n hx hb dX7_pollFirst_14 rfl (lv_at hl 0 rfl) ?_
  have hPc := hP.sub (ws' := []) [] rfl
  have hKc := hK.sub (tys' := []) [] rfl
  refine va_csv (W.runS (As := [.int (nI z)]) (rest := []) ⟨hx, hb, hml, hown, hts⟩ (c_X7_needMember l dC dI z (by first | assumption | omega)) (va_cwS 1 hts gX7_pollFirst_X7_needMember rfl rfl rfl (by decide +kernel) ⟨Nat.le_of_ble_eq_true rfl, Nat.le_of_ble_eq_true rfl⟩) ⟨fun a U g mk q => by obtain ⟨q0, qP, qK⟩ := q; exact ⟨q0, qP, va_K.moved (u := U) (U := U.calling g mk a) (Vm.Alike.refl U.vm) qK⟩, fun U hU hW => ⟨rfl, by rw [hU]; exact hPc, va_K.moved hW.alike hKc⟩⟩ rfl rfl hl.1 rfl (lv_room (Nat.le_of_ble_eq_true rfl)) dX7_pollFirst_15 ⟨Nat.le_of_ble_eq_true rfl, Nat.le_of_ble_eq_true rfl⟩) (fun _ => ?_)
  refine lv_aload_n hx hb dX7_pollFirst_18 rfl (lv_at hl 1 rfl) ?_
  refine lv_iload_n hx hb dX7_pollFirst_19 rfl (lv_at hl 0 rfl) ?_
  have hPc := hP.sub (ws' := [(s1, .inr (3, [.ref tq, .ref rq, .ref uq])), (tq, .inr (4, [.ref ca, .long sm, .int (oI lo)])), (ca, .inl (cJ, 64, .inr (.inl fc))), (rq, .inr (5, [.ref rb])), (rb, .inr (0, [.ref rd])), (rd, .inl (cJ, 128, .inr (.inl ft))), (uq, .inr (1, [.ref bm, .ref bs])), (bm, .inr (0, [.ref am])), (am, .inl (cJ, 64, .inr (.inl fm))), (bs, .inr (0, [.ref ap])), (ap, .inl (cJ, 64, .inr (.inl fs)))]) [1, 2, 3, 4, 5, 6, 7, 8, 9, 10, 11] rfl
  have hKc := hK.sub (tys' := [(cJ, .long)]) [0] rfl
  have hDc := hD.sub (ws' := [(s1, .inr (3, [.ref tq, .ref rq, .ref uq])), (tq, .inr (4, [.ref ca, .long sm, .int (oI lo)])), (ca, .inl (cJ, 64, .inr (.inl fc))), (rq, .inr (5, [.ref rb])), (rb, .inr (0, [.ref rd])), (rd, .inl (cJ, 128, .inr (.inl ft))), (uq, .inr (1, [.ref bm, .ref bs])), (bm, .inr (0, [.ref am])), (am, .inl (cJ, 64, .inr (.inl fm))), (bs, .inr (0, [.ref ap])), (ap, .inl (cJ, 64, .inr (.inl fs)))]) [1, 2, 3, 4, 5, 6, 7, 8, 9, 10, 11] (by decide) rfl
  have hFc := va_free (wc := [(s1, .inr (3, [.ref tq, .ref rq, .ref uq])), (tq, .inr (4, [.ref ca, .long sm, .int (oI lo)])), (ca, .inl (cJ, 64, .inr (.inl fc))), (rq, .inr (5, [.ref rb])), (rb, .inr (0, [.ref rd])), (rd, .inl (cJ, 128, .inr (.inl ft))), (uq, .inr (1, [.ref bm, .ref bs])), (bm, .inr (0, [.ref am])), (am, .inl (cJ, 64, .inr (.inl fm))), (bs, .inr (0, [.ref ap])), (ap, .inl (cJ, 64, .inr (.inl fs)))]) hD hS hA [1, 2, 3, 4, 5, 6, 7, 8, 9, 10, 11] rfl
  refine va_calli (va_runV (As := [.int (nI z)]) (rest := []) ⟨hx, hb, hml, hown, hts⟩ (c_X3_take l dC dI s1 tq ca rq rb rd uq bm am bs ap cJ fm fs ft fc sm lo z s.heap.size (by first | assumption | omega) (by first | assumption | omega)) (cwV 1 hts gX7_pollFirst_X3_take rfl rfl rfl (by decide +kernel) ⟨Nat.le_of_ble_eq_true rfl, Nat.le_of_ble_eq_true rfl⟩) ⟨fun a U g mk q => by obtain ⟨q0, q1, qP, qK, qD⟩ := q; exact ⟨q0, q1, qP, va_K.moved (u := U) (U := U.calling g mk a) (Vm.Alike.refl U.vm) qK, qD⟩, va_recv hKc hPc (ci := 3) (q0 := 0) rfl rfl, fun U hU hW => ⟨rfl, by rw [hU], by rw [hU]; exact hPc, va_K.moved hW.alike hKc, hDc.weaken (fun _ _ _ _ => trivial)⟩⟩ rfl rfl hl.1 rfl (lv_room (Nat.le_of_ble_eq_true rfl)) dX7_pollFirst_20 ⟨Nat.le_of_ble_eq_true rfl, Nat.le_of_ble_eq_true rfl⟩) hS (fun q _ h => hFc q h) hFc (fun r_9 u_8 t9 H1 locs ht hvm hw_7 hB hz1 hk1 hS => ?_)
  obtain ⟨fm'_10, fs'_11, ft'_12, fc'_13, sm'_14, lo'_15⟩ := u_8
  obtain ⟨hP1, hK1, hD1⟩ := hB
  rw [ht] at hP1
  have hK1 := va_K.moved hvm.symm hK1
  try dsimp only at hw_7 hP1 hK1 hD1
  obtain ⟨hP, hD⟩ := va_join (wr := [(q, .inr (6, [.ref s0, .ref s1, .ref s2]))]) (w1 := [(s1, .inr (3, [.ref tq, .ref rq, .ref uq])), (tq, .inr (4, [.ref ca, .long sm'_14, .int (oI lo'_15)])), (ca, .inl (cJ, 64, .inr (.inl fc'_13))), (rq, .inr (5, [.ref rb])), (rb, .inr (0, [.ref rd])), (rd, .inl (cJ, 128, .inr (.inl ft'_12))), (uq, .inr (1, [.ref bm, .ref bs])), (bm, .inr (0, [.ref am])), (am, .inl (cJ, 64, .inr (.inl fm'_10))), (bs, .inr (0, [.ref ap])), (ap, .inl (cJ, 64, .inr (.inl fs'_11)))]) hP hD [1, 2, 3, 4, 5, 6, 7, 8, 9, 10, 11] [0] rfl rfl (by decide) (by decide) hk1 hFc hP1 hD1
  generalize H1 = H at hP hS ⊢
  have hP : va_P (dC, dI) vwCl [(q, .inr (6, [.ref s0, .ref s1, .ref s2])), (s1, .inr (3, [.ref tq, .ref rq, .ref uq])), (tq, .inr (4, [.ref ca, .long sm'_14, .int (oI lo'_15)])), (ca, .inl (cJ, 64, .inr (.inl fc'_13))), (rq, .inr (5, [.ref rb])), (rb, .inr (0, [.ref rd])), (rd, .inl (cJ, 128, .inr (.inl ft'_12))), (uq, .inr (1, [.ref bm, .ref bs])), (bm, .inr (0, [.ref am])), (am, .inl (cJ, 64, .inr (.inl fm'_10))), (bs, .inr (0, [.ref ap])), (ap, .inl (cJ, 64, .inr (.inl fs'_11)))] H := hP
  have hD : va_D A [(q, .inr (6, [.ref s0, .ref s1, .ref s2])), (s1, .inr (3, [.ref tq, .ref rq, .ref uq])), (tq, .inr (4, [.ref ca, .long sm'_14, .int (oI lo'_15)])), (ca, .inl (cJ, 64, .inr (.inl fc'_13))), (rq, .inr (5, [.ref rb])), (rb, .inr (0, [.ref rd])), (rd, .inl (cJ, 128, .inr (.inl ft'_12))), (uq, .inr (1, [.ref bm, .ref bs])), (bm, .inr (0, [.ref am])), (am, .inl (cJ, 64, .inr (.inl fm'_10))), (bs, .inr (0, [.ref ap])), (ap, .inl (cJ, 64, .inr (.inl fs'_11)))] := hD
  obtain ⟨he, hw_7⟩ := hw_7
  subst he
  refine lv_pop hx hb dX7_pollFirst_23 rfl ?_
  refine lv_iload_n hx hb dX7_pollFirst_24 rfl (lv_at hl 0 rfl) ?_
  have hP9 := hP.sub (ws' := [(q, .inr (6, [.ref s0, .ref s1, .ref s2])), (s1, .inr (3, [.ref tq, .ref rq, .ref uq])), (tq, .inr (4, [.ref ca, .long sm'_14, .int (oI lo'_15)])), (ca, .inl (cJ, 64, .inr (.inl fc'_13))), (rq, .inr (5, [.ref rb])), (rb, .inr (0, [.ref rd])), (rd, .inl (cJ, 128, .inr (.inl ft'_12))), (uq, .inr (1, [.ref bm, .ref bs])), (bm, .inr (0, [.ref am])), (am, .inl (cJ, 64, .inr (.inl fm'_10))), (bs, .inr (0, [.ref ap])), (ap, .inl (cJ, 64, .inr (.inl fs'_11)))]) [0, 1, 2, 3, 4, 5, 6, 7, 8, 9, 10, 11] rfl
  have hD9 := hD.sub (ws' := [(q, .inr (6, [.ref s0, .ref s1, .ref s2])), (s1, .inr (3, [.ref tq, .ref rq, .ref uq])), (tq, .inr (4, [.ref ca, .long sm'_14, .int (oI lo'_15)])), (ca, .inl (cJ, 64, .inr (.inl fc'_13))), (rq, .inr (5, [.ref rb])), (rb, .inr (0, [.ref rd])), (rd, .inl (cJ, 128, .inr (.inl ft'_12))), (uq, .inr (1, [.ref bm, .ref bs])), (bm, .inr (0, [.ref am])), (am, .inl (cJ, 64, .inr (.inl fm'_10))), (bs, .inr (0, [.ref ap])), (ap, .inl (cJ, 64, .inr (.inl fs'_11)))]) [0, 1, 2, 3, 4, 5, 6, 7, 8, 9, 10, 11] (by decide) rfl
  have hK9 := hK.sub (tys' := [(cJ, .long)]) [0] rfl
  exact W.iret (v := nI z) hx hb hr (fun t9 ht hW => ⟨⟨nI z, ⟨fm'_10, fs'_11, ft'_12, fc'_13, sm'_14, lo'_15⟩, rfl, (show (nI z) = nI z ∧ NI fm'_10 fs'_11 ft'_12 fc'_13 sm'_14 lo'_15 ∧ (∀ x, x < 4096 → bo fm'_10 x = del (bo fm) z x) ∧ ∀ x, x < 4096 → bo fs'_11 x = takeP (bo fm) (bo fs) z x from ⟨rfl, hw_7⟩), by rw [ht]; exact hP9, va_K.moved hW.alike hK9, hD9⟩, hS.F ht⟩) hS.2.2 dX7_pollFirst_25
set_option maxHeartbeats 4000000 in
set_option maxRecDepth 100000 in
/-- pollLast, set 1 -/
theorem c_X7_pollLast_1 (l : Launch) (dC : Nat → ClassId) (dI : Nat → Nat → Nat) (q : Nat) (s0 : Nat) (s1 : Nat) (s2 : Nat) (tq : Nat) (ca : Nat) (rq : Nat) (rb : Nat) (rd : Nat) (uq : Nat) (bm : Nat) (am : Nat) (bs : Nat) (ap : Nat) (cJ : ClassId) (fm : Nat → Int64) (fs : Nat → Int64) (ft : Nat → Int64) (fc : Nat → Int64) (sm : Int64) (lo : Option Nat) (z : Nat) (sz : Nat) (hN : NI fm fs ft fc sm lo) (hz : lst1 (bo fm) 4096 = some z) : Met l yX7_pollLast wsX7_pollLast ({ frames := 7, cells := 0, slots := 0, locals := 159 }) (va_Pc [.ref q, .int (nI 1)] (fun U => va_Nw (.fieldLinkNest RX7 62 "SmallNumberSets$NumberSet" "tree" "LSmallNumberSets$Tree;" "SmallNumberSets") U ∧ U.heap.size = sz ∧ va_P (dC, dI) vwCl [(q, .inr (6, [.ref s0, .ref s1, .ref s2])), (s1, .inr (3, [.ref tq, .ref rq, .ref uq])), (tq, .inr (4, [.ref ca, .long sm, .int (oI lo)])), (ca, .inl (cJ, 64, .inr (.inl fc))), (rq, .inr (5, [.ref rb])), (rb, .inr (0, [.ref rd])), (rd, .inl (cJ, 128, .inr (.inl ft))), (uq, .inr (1, [.ref bm, .ref bs])), (bm, .inr (0, [.ref am])), (am, .inl (cJ, 64, .inr (.inl fm))), (bs, .inr (0, [.ref ap])), (ap, .inl (cJ, 64, .inr (.inl fs)))] U.heap ∧ va_K (dC, dI) vwCl [(cJ, .long)] U ∧ va_D (fun _ => True) [(q, .inr (6, [.ref s0, .ref s1, .ref s2])), (s1, .inr (3, [.ref tq, .ref rq, .ref uq])), (tq, .inr (4, [.ref ca, .long sm, .int (oI lo)])), (ca, .inl (cJ, 64, .inr (.inl fc))), (rq, .inr (5, [.ref rb])), (rb, .inr (0, [.ref rd])), (rd, .inl (cJ, 128, .inr (.inl ft))), (uq, .inr (1, [.ref bm, .ref bs])), (bm, .inr (0, [.ref am])), (am, .inl (cJ, 64, .inr (.inl fm))), (bs, .inr (0, [.ref ap])), (ap, .inl (cJ, 64, .inr (.inl fs)))])) (va_Qi (fun (r : Int32) (u : (Nat → Int64) × (Nat → Int64) × (Nat → Int64) × (Nat → Int64) × Int64 × (Option Nat)) => r = nI z ∧ NI u.1 u.2.1 u.2.2.1 u.2.2.2.1 u.2.2.2.2.1 u.2.2.2.2.2 ∧ (∀ x, x < 4096 → bo u.1 x = del (bo fm) z x) ∧ ∀ x, x < 4096 → bo u.2.1 x = takeP (bo fm) (bo fs) z x) (fun (u : (Nat → Int64) × (Nat → Int64) × (Nat → Int64) × (Nat → Int64) × Int64 × (Option Nat)) (t : State) => va_P (dC, dI) vwCl [(q, .inr (6, [.ref s0, .ref s1, .ref s2])), (s1, .inr (3, [.ref tq, .ref rq, .ref uq])), (tq, .inr (4, [.ref ca, .long u.2.2.2.2.1, .int (oI u.2.2.2.2.2)])), (ca, .inl (cJ, 64, .inr (.inl u.2.2.2.1))), (rq, .inr (5, [.ref rb])), (rb, .inr (0, [.ref rd])), (rd, .inl (cJ, 128, .inr (.inl u.2.2.1))), (uq, .inr (1, [.ref bm, .ref bs])), (bm, .inr (0, [.ref am])), (am, .inl (cJ, 64, .inr (.inl u.1))), (bs, .inr (0, [.ref ap])), (ap, .inl (cJ, 64, .inr (.inl u.2.1)))] t.heap ∧ va_K (dC, dI) vwCl [(cJ, .long)] t ∧ va_D (va_A [(q, .inr (6, [.ref s0, .ref s1, .ref s2])), (s1, .inr (3, [.ref tq, .ref rq, .ref uq])), (tq, .inr (4, [.ref ca, .long sm, .int (oI lo)])), (ca, .inl (cJ, 64, .inr (.inl fc))), (rq, .inr (5, [.ref rb])), (rb, .inr (0, [.ref rd])), (rd, .inl (cJ, 128, .inr (.inl ft))), (uq, .inr (1, [.ref bm, .ref bs])), (bm, .inr (0, [.ref am])), (am, .inl (cJ, 64, .inr (.inl fm))), (bs, .inr (0, [.ref ap])), (ap, .inl (cJ, 64, .inr (.inl fs)))] sz) [(q, .inr (6, [.ref s0, .ref s1, .ref s2])), (s1, .inr (3, [.ref tq, .ref rq, .ref uq])), (tq, .inr (4, [.ref ca, .long u.2.2.2.2.1, .int (oI u.2.2.2.2.2)])), (ca, .inl (cJ, 64, .inr (.inl u.2.2.2.1))), (rq, .inr (5, [.ref rb])), (rb, .inr (0, [.ref rd])), (rd, .inl (cJ, 128, .inr (.inl u.2.2.1))), (uq, .inr (1, [.ref bm, .ref bs])), (bm, .inr (0, [.ref am])), (am, .inl (cJ, 64, .inr (.inl u.1))), (bs, .inr (0, [.ref ap])), (ap, .inl (cJ, 64, .inr (.inl u.2.1)))]) (va_A [(q, .inr (6, [.ref s0, .ref s1, .ref s2])), (s1, .inr (3, [.ref tq, .ref rq, .ref uq])), (tq, .inr (4, [.ref ca, .long sm, .int (oI lo)])), (ca, .inl (cJ, 64, .inr (.inl fc))), (rq, .inr (5, [.ref rb])), (rb, .inr (0, [.ref rd])), (rd, .inl (cJ, 128, .inr (.inl ft))), (uq, .inr (1, [.ref bm, .ref bs])), (bm, .inr (0, [.ref am])), (am, .inl (cJ, 64, .inr (.inl fm))), (bs, .inr (0, [.ref ap])), (ap, .inl (cJ, 64, .inr (.inl fs)))] sz)) 0 0 (va_A [(q, .inr (6, [.ref s0, .ref s1, .ref s2])), (s1, .inr (3, [.ref tq, .ref rq, .ref uq])), (tq, .inr (4, [.ref ca, .long sm, .int (oI lo)])), (ca, .inl (cJ, 64, .inr (.inl fc))), (rq, .inr (5, [.ref rb])), (rb, .inr (0, [.ref rd])), (rd, .inl (cJ, 128, .inr (.inl ft))), (uq, .inr (1, [.ref bm, .ref bs])), (bm, .inr (0, [.ref am])), (am, .inl (cJ, 64, .inr (.inl fm))), (bs, .inr (0, [.ref ap])), (ap, .inl (cJ, 64, .inr (.inl fs)))] sz) := by
  refine Met.ofW (cc := cX7_pollLast) (maxL := 4) (ret := (some .int)) (by decide) rfl ?_
  intro p e s m args below meth c s₁ B hml hv
  obtain ⟨rfl, nw0, hsz, hP, hK, hD0⟩ := hv
  have hx := B.exec
  have hb := B.bytes
  have hr := B.returns
  have hts := atoms_spec (ws := wsX7_pollLast) B.pre
  have hown : s.vm.findClass RX7 = some m.cls := findClass_of_methodNamed B.named
  have hlocks := B.notSynchronized
  subst hsz
  have hD := hD0.self (sz := s.heap.size)
  generalize hAe : va_A [(q, .inr (6, [.ref s0, .ref s1, .ref s2])), (s1, .inr (3, [.ref tq, .ref rq, .ref uq])), (tq, .inr (4, [.ref ca, .long sm, .int (oI lo)])), (ca, .inl (cJ, 64, .inr (.inl fc))), (rq, .inr (5, [.ref rb])), (rb, .inr (0, [.ref rd])), (rd, .inl (cJ, 128, .inr (.inl ft))), (uq, .inr (1, [.ref bm, .ref bs])), (bm, .inr (0, [.ref am])), (am, .inl (cJ, 64, .inr (.inl fm))), (bs, .inr (0, [.ref ap])), (ap, .inl (cJ, 64, .inr (.inl fs)))] s.heap.size = A at hD ⊢
  have hA : ∀ q : Nat, s.heap.size ≤ q → A q := fun q h => by rw [← hAe]; exact Or.inr h
  have hS : va_S A s.heap s.heap [] := va_S.rf
  have hP : va_P (dC, dI) vwCl [(q, .inr (6, [.ref s0, .ref s1, .ref s2])), (s1, .inr (3, [.ref tq, .ref rq, .ref uq])), (tq, .inr (4, [.ref ca, .long sm, .int (oI lo)])), (ca, .inl (cJ, 64, .inr (.inl fc))), (rq, .inr (5, [.ref rb])), (rb, .inr (0, [.ref rd])), (rd, .inl (cJ, 128, .inr (.inl ft))), (uq, .inr (1, [.ref bm, .ref bs])), (bm, .inr (0, [.ref am])), (am, .inl (cJ, 64, .inr (.inl fm))), (bs, .inr (0, [.ref ap])), (ap, .inl (cJ, 64, .inr (.inl fs)))] s.heap := hP
  have hl := lv_entry ([.ref q, .int (nI 1)]) (n := 4) (Nat.le_of_ble_eq_true rfl)
  rw [lg_entry_eq]
  generalize (lg_sl ([.ref q, .int (nI 1)]) ++ List.replicate (4 - (lg_sl ([.ref q, .int (nI 1)])).length) Slot.unset).toArray = ls at hl ⊢
  have hl : lv_has ls 4 [(0, .ref q), (1, .int (nI 1))] := hl
  have hzb := (lst1_some hz).1
  refine lv_aload_n hx hb dX7_pollLast_0 rfl (lv_at hl 0 rfl) ?_
  refine lv_iload_n hx hb dX7_pollLast_1 rfl (lv_at hl 1 rfl) ?_
  have hPc := hP.sub (ws' := [(q, .inr (6, [.ref s0, .ref s1, .ref s2]))]) [0] rfl
  have hKc := hK.sub (tys' := []) [] rfl
  refine va_csr (W.runV (As := [.int (nI 1)]) (rest := []) ⟨hx, hb, hml, hown, hts⟩ (c_X7_chosenSet_1 l dC dI q s0 s1 s2 ) (cwV 1 hts gX7_pollLast_X7_chosenSet rfl rfl rfl (by decide +kernel) ⟨Nat.le_of_ble_eq_true rfl, Nat.le_of_ble_eq_true rfl⟩) ⟨fun a U g mk q => by obtain ⟨q0, qP, qK⟩ := q; exact ⟨q0, qP, va_K.moved (u := U) (U := U.calling g mk a) (Vm.Alike.refl U.vm) qK⟩, va_recv hKc hPc (ci := 6) (q0 := 0) rfl rfl, fun U hU hW => ⟨rfl, by rw [hU]; exact hPc, va_K.moved hW.alike hKc⟩⟩ rfl rfl hl.1 rfl (lv_room (Nat.le_of_ble_eq_true rfl)) dX7_pollLast_2 ⟨Nat.le_of_ble_eq_true rfl, Nat.le_of_ble_eq_true rfl⟩) (fun r_2 hw_1 => ?_)
  have hw_1 := hw_1.symm
  subst hw_1
  refine lv_astore_n (lv' := [(2, .ref s1), (0, .ref q), (1, .int (nI 1))]) hx hb dX7_pollLast_5 rfl hl (by decide) rfl (fun ls hl => ?_)
  refine lv_aload_n hx hb dX7_pollLast_6 rfl (lv_at hl 0 rfl) ?_
  refine va_getN (D := (dC, dI)) (ci := 3) (v := .ref tq) (C := RX3) (T := TX3) (N := 3) hx hb hts (by decide +kernel) hown hK hP 1 rfl rfl 0 (by decide) (va_Nw.use rfl nw0) (fun _ h9 => h9) rfl dX7_pollLast_7 ?_
  have hPc := hP.sub (ws' := [(tq, .inr (4, [.ref ca, .long sm, .int (oI lo)])), (ca, .inl (cJ, 64, .inr (.inl fc)))]) [2, 3] rfl
  have hKc := hK.sub (tys' := [(cJ, .long)]) [0] rfl
  refine vp_callSi (W.runV (As := []) (rest := []) ⟨hx, hb, hml, hown, hts⟩ (c_X4_greatest l dC dI tq ca cJ fc sm lo (bo fm) hN.2.2) (cwV 0 hts gX7_pollLast_X4_greatest rfl rfl rfl (by decide +kernel) ⟨Nat.le_of_ble_eq_true rfl, Nat.le_of_ble_eq_true rfl⟩) ⟨fun a U g mk q => by obtain ⟨q0, qP, qK⟩ := q; exact ⟨q0, qP, va_K.moved (u := U) (U := U.calling g mk a) (Vm.Alike.refl U.vm) qK⟩, va_recv hKc hPc (ci := 4) (q0 := 0) rfl rfl, fun U hU hW => ⟨rfl, by rw [hU]; exact hPc, va_K.moved hW.alike hKc⟩⟩ rfl rfl hl.1 rfl (lv_room (Nat.le_of_ble_eq_true rfl)) dX7_pollLast_10 ⟨Nat.le_of_ble_eq_true rfl, Nat.le_of_ble_eq_true rfl⟩) (fun r_4 hw_3 => ?_)
  subst hw_3
  refine lv_cvi (congrArg oI (hz)) ?_
  refine lv_cvi ((rfl : oI (some z) = nI z)) ?_
  refine lv_istore_n (lv' := [(3, .int (nI z)), (2, .ref s1), (0, .ref q), (1, .int (nI 1))]) hx hb dX7_pollLast_13 rfl hl (by decide) rfl (fun ls hl => ?_)
  refine lv_iload_n hx hb dX7_pollLast_14 rfl (lv_at hl 0 rfl) ?_
  have hPc := hP.sub (ws' := []) [] rfl
  have hKc := hK.sub (tys' := []) [] rfl
  refine va_csv (W.runS (As := [.int (nI z)]) (rest := []) ⟨hx, hb, hml, hown, hts⟩ (c_X7_needMember l dC dI z (by first | assumption | omega)) (va_cwS 1 hts gX7_pollLast_X7_needMember rfl rfl rfl (by decide +kernel) ⟨Nat.le_of_ble_eq_true rfl, Nat.le_of_ble_eq_true rfl⟩) ⟨fun a U g mk q => by obtain ⟨q0, qP, qK⟩ := q; exact ⟨q0, qP, va_K.moved (u := U) (U := U.calling g mk a) (Vm.Alike.refl U.vm) qK⟩, fun U hU hW => ⟨rfl, by rw [hU]; exact hPc, va_K.moved hW.alike hKc⟩⟩ rfl rfl hl.1 rfl (lv_room (Nat.le_of_ble_eq_true rfl)) dX7_pollLast_15 ⟨Nat.le_of_ble_eq_true rfl, Nat.le_of_ble_eq_true rfl⟩) (fun _ => ?_)
  refine lv_aload_n hx hb dX7_pollLast_18 rfl (lv_at hl 1 rfl) ?_
  refine lv_iload_n hx hb dX7_pollLast_19 rfl (lv_at hl 0 rfl) ?_
  have hPc := hP.sub (ws' := [(s1, .inr (3, [.ref tq, .ref rq, .ref uq])), (tq, .inr (4, [.ref ca, .long sm, .int (oI lo)])), (ca, .inl (cJ, 64, .inr (.inl fc))), (rq, .inr (5, [.ref rb])), (rb, .inr (0, [.ref rd])), (rd, .inl (cJ, 128, .inr (.inl ft))), (uq, .inr (1, [.ref bm, .ref bs])), (bm, .inr (0, [.ref am])), (am, .inl (cJ, 64, .inr (.inl fm))), (bs, .inr (0, [.ref ap])), (ap, .inl (cJ, 64, .inr (.inl fs)))]) [1, 2, 3, 4, 5, 6, 7, 8, 9, 10, 11] rfl
  have hKc := hK.sub (tys' := [(cJ, .long)]) [0] rfl
  have hDc := hD.sub (ws' := [(s1, .inr (3, [.ref tq, .ref rq, .ref uq])), (tq, .inr (4, [.ref ca, .long sm, .int (oI lo)])), (ca, .inl (cJ, 64, .inr (.inl fc))), (rq, .inr (5, [.ref rb])), (rb, .inr (0, [.ref rd])), (rd, .inl (cJ, 128, .inr (.inl ft))), (uq, .inr (1, [.ref bm, .ref bs])), (bm, .inr (0, [.ref am])), (am, .inl (cJ, 64, .inr (.inl fm))), (bs, .inr (0, [.ref ap])), (ap, .inl (cJ, 64, .inr (.inl fs)))]) [1, 2, 3, 4, 5, 6, 7, 8, 9, 10, 11] (by decide) rfl
  have hFc := va_free (wc := [(s1, .inr (3, [.ref tq, .ref rq, .ref uq])), (tq, .inr (4, [.ref ca, .long sm, .int (oI lo)])), (ca, .inl (cJ, 64, .inr (.inl fc))), (rq, .inr (5, [.ref rb])), (rb, .inr (0, [.ref rd])), (rd, .inl (cJ, 128, .inr (.inl ft))), (uq, .inr (1, [.ref bm, .ref bs])), (bm, .inr (0, [.ref am])), (am, .inl (cJ, 64, .inr (.inl fm))), (bs, .inr (0, [.ref ap])), (ap, .inl (cJ, 64, .inr (.inl fs)))]) hD hS hA [1, 2, 3, 4, 5, 6, 7, 8, 9, 10, 11] rfl
  refine va_calli (va_runV (As := [.int (nI z)]) (rest := []) ⟨hx, hb, hml, hown, hts⟩ (c_X3_take l dC dI s1 tq ca rq rb rd uq bm am bs ap cJ fm fs ft fc sm lo z s.heap.size (by first | assumption | omega) (by first | assumption | omega)) (cwV 1 hts gX7_pollLast_X3_take rfl rfl rfl (by decide +kernel) ⟨Nat.le_of_ble_eq_true rfl, Nat.le_of_ble_eq_true rfl⟩) ⟨fun a U g mk q => by obtain ⟨q0, q1, qP, qK, qD⟩ := q; exact ⟨q0, q1, qP, va_K.moved (u := U) (U := U.calling g mk a) (Vm.Alike.refl U.vm) qK, qD⟩, va_recv hKc hPc (ci := 3) (q0 := 0) rfl rfl, fun U hU hW => ⟨rfl, by rw [hU], by rw [hU]; exact hPc, va_K.moved hW.alike hKc, hDc.weaken (fun _ _ _ _ => trivial)⟩⟩ rfl rfl hl.1 rfl (lv_room (Nat.le_of_ble_eq_true rfl)) dX7_pollLast_20 ⟨Nat.le_of_ble_eq_true rfl, Nat.le_of_ble_eq_true rfl⟩) hS (fun q _ h => hFc q h) hFc (fun r_9 u_8 t9 H1 locs ht hvm hw_7 hB hz1 hk1 hS => ?_)
  obtain ⟨fm'_10, fs'_11, ft'_12, fc'_13, sm'_14, lo'_15⟩ := u_8
  obtain ⟨hP1, hK1, hD1⟩ := hB
  rw [ht] at hP1
  have hK1 := va_K.moved hvm.symm hK1
  try dsimp only at hw_7 hP1 hK1 hD1
  obtain ⟨hP, hD⟩ := va_join (wr := [(q, .inr (6, [.ref s0, .ref s1, .ref s2]))]) (w1 := [(s1, .inr (3, [.ref tq, .ref rq, .ref uq])), (tq, .inr (4, [.ref ca, .long sm'_14, .int (oI lo'_15)])), (ca, .inl (cJ, 64, .inr (.inl fc'_13))), (rq, .inr (5, [.ref rb])), (rb, .inr (0, [.ref rd])), (rd, .inl (cJ, 128, .inr (.inl ft'_12))), (uq, .inr (1, [.ref bm, .ref bs])), (bm, .inr (0, [.ref am])), (am, .inl (cJ, 64, .inr (.inl fm'_10))), (bs, .inr (0, [.ref ap])), (ap, .inl (cJ, 64, .inr (.inl fs'_11)))]) hP hD [1, 2, 3, 4, 5, 6, 7, 8, 9, 10, 11] [0] rfl rfl (by decide) (by decide) hk1 hFc hP1 hD1
  generalize H1 = H at hP hS ⊢
  have hP : va_P (dC, dI) vwCl [(q, .inr (6, [.ref s0, .ref s1, .ref s2])), (s1, .inr (3, [.ref tq, .ref rq, .ref uq])), (tq, .inr (4, [.ref ca, .long sm'_14, .int (oI lo'_15)])), (ca, .inl (cJ, 64, .inr (.inl fc'_13))), (rq, .inr (5, [.ref rb])), (rb, .inr (0, [.ref rd])), (rd, .inl (cJ, 128, .inr (.inl ft'_12))), (uq, .inr (1, [.ref bm, .ref bs])), (bm, .inr (0, [.ref am])), (am, .inl (cJ, 64, .inr (.inl fm'_10))), (bs, .inr (0, [.ref ap])), (ap, .inl (cJ, 64, .inr (.inl fs'_11)))] H := hP
  have hD : va_D A [(q, .inr (6, [.ref s0, .ref s1, .ref s2])), (s1, .inr (3, [.ref tq, .ref rq, .ref uq])), (tq, .inr (4, [.ref ca, .long sm'_14, .int (oI lo'_15)])), (ca, .inl (cJ, 64, .inr (.inl fc'_13))), (rq, .inr (5, [.ref rb])), (rb, .inr (0, [.ref rd])), (rd, .inl (cJ, 128, .inr (.inl ft'_12))), (uq, .inr (1, [.ref bm, .ref bs])), (bm, .inr (0, [.ref am])), (am, .inl (cJ, 64, .inr (.inl fm'_10))), (bs, .inr (0, [.ref ap])), (ap, .inl (cJ, 64, .inr (.inl fs'_11)))] := hD
  obtain ⟨he, hw_7⟩ := hw_7
  subst he
  refine lv_pop hx hb dX7_pollLast_23 rfl ?_
  refine lv_iload_n hx hb dX7_pollLast_24 rfl (lv_at hl 0 rfl) ?_
  have hP9 := hP.sub (ws' := [(q, .inr (6, [.ref s0, .ref s1, .ref s2])), (s1, .inr (3, [.ref tq, .ref rq, .ref uq])), (tq, .inr (4, [.ref ca, .long sm'_14, .int (oI lo'_15)])), (ca, .inl (cJ, 64, .inr (.inl fc'_13))), (rq, .inr (5, [.ref rb])), (rb, .inr (0, [.ref rd])), (rd, .inl (cJ, 128, .inr (.inl ft'_12))), (uq, .inr (1, [.ref bm, .ref bs])), (bm, .inr (0, [.ref am])), (am, .inl (cJ, 64, .inr (.inl fm'_10))), (bs, .inr (0, [.ref ap])), (ap, .inl (cJ, 64, .inr (.inl fs'_11)))]) [0, 1, 2, 3, 4, 5, 6, 7, 8, 9, 10, 11] rfl
  have hD9 := hD.sub (ws' := [(q, .inr (6, [.ref s0, .ref s1, .ref s2])), (s1, .inr (3, [.ref tq, .ref rq, .ref uq])), (tq, .inr (4, [.ref ca, .long sm'_14, .int (oI lo'_15)])), (ca, .inl (cJ, 64, .inr (.inl fc'_13))), (rq, .inr (5, [.ref rb])), (rb, .inr (0, [.ref rd])), (rd, .inl (cJ, 128, .inr (.inl ft'_12))), (uq, .inr (1, [.ref bm, .ref bs])), (bm, .inr (0, [.ref am])), (am, .inl (cJ, 64, .inr (.inl fm'_10))), (bs, .inr (0, [.ref ap])), (ap, .inl (cJ, 64, .inr (.inl fs'_11)))]) [0, 1, 2, 3, 4, 5, 6, 7, 8, 9, 10, 11] (by decide) rfl
  have hK9 := hK.sub (tys' := [(cJ, .long)]) [0] rfl
  exact W.iret (v := nI z) hx hb hr (fun t9 ht hW => ⟨⟨nI z, ⟨fm'_10, fs'_11, ft'_12, fc'_13, sm'_14, lo'_15⟩, rfl, (show (nI z) = nI z ∧ NI fm'_10 fs'_11 ft'_12 fc'_13 sm'_14 lo'_15 ∧ (∀ x, x < 4096 → bo fm'_10 x = del (bo fm) z x) ∧ ∀ x, x < 4096 → bo fs'_11 x = takeP (bo fm) (bo fs) z x from ⟨rfl, hw_7⟩), by rw [ht]; exact hP9, va_K.moved hW.alike hK9, hD9⟩, hS.F ht⟩) hS.2.2 dX7_pollLast_25
set_option maxHeartbeats 4000000 in
set_option maxRecDepth 100000 in
/-- insert, set 2 -/
theorem c_X7_insert_2 (l : Launch) (dC : Nat → ClassId) (dI : Nat → Nat → Nat) (q : Nat) (s0 : Nat) (s1 : Nat) (s2 : Nat) (tq : Nat) (ca : Nat) (rq : Nat) (rb : Nat) (rd : Nat) (uq : Nat) (bm : Nat) (am : Nat) (bs : Nat) (ap : Nat) (cJ : ClassId) (fm : Nat → Int64) (fs : Nat → Int64) (ft : Nat → Int64) (fc : Nat → Int64) (sm : Int64) (lo : Option Nat) (k : Nat) (sz : Nat) (hN : NI fm fs ft fc sm lo) (hk : k < 4096) : Met l yX7_insert wsX7_insert ({ frames := 7, cells := 0, slots := 0, locals := 156 }) (va_Pc [.ref q, .int (nI 2), .int (nI k)] (fun U => U.heap.size = sz ∧ va_P (dC, dI) vwCl [(q, .inr (6, [.ref s0, .ref s1, .ref s2])), (s2, .inr (3, [.ref tq, .ref rq, .ref uq])), (tq, .inr (4, [.ref ca, .long sm, .int (oI lo)])), (ca, .inl (cJ, 64, .inr (.inl fc))), (rq, .inr (5, [.ref rb])), (rb, .inr (0, [.ref rd])), (rd, .inl (cJ, 128, .inr (.inl ft))), (uq, .inr (1, [.ref bm, .ref bs])), (bm, .inr (0, [.ref am])), (am, .inl (cJ, 64, .inr (.inl fm))), (bs, .inr (0, [.ref ap])), (ap, .inl (cJ, 64, .inr (.inl fs)))] U.heap ∧ va_K (dC, dI) vwCl [(cJ, .long)] U ∧ va_D (fun _ => True) [(q, .inr (6, [.ref s0, .ref s1, .ref s2])), (s2, .inr (3, [.ref tq, .ref rq, .ref uq])), (tq, .inr (4, [.ref ca, .long sm, .int (oI lo)])), (ca, .inl (cJ, 64, .inr (.inl fc))), (rq, .inr (5, [.ref rb])), (rb, .inr (0, [.ref rd])), (rd, .inl (cJ, 128, .inr (.inl ft))), (uq, .inr (1, [.ref bm, .ref bs])), (bm, .inr (0, [.ref am])), (am, .inl (cJ, 64, .inr (.inl fm))), (bs, .inr (0, [.ref ap])), (ap, .inl (cJ, 64, .inr (.inl fs)))])) (va_Qi (fun (r : Int32) (u : (Nat → Int64) × (Nat → Int64) × (Nat → Int64) × (Nat → Int64) × Int64 × (Option Nat)) => r = b2i (!bo fm k) ∧ NI u.1 u.2.1 u.2.2.1 u.2.2.2.1 u.2.2.2.2.1 u.2.2.2.2.2 ∧ (∀ x, x < 4096 → bo u.1 x = ins (bo fm) k x) ∧ ∀ x, x < 4096 → bo u.2.1 x = putP (bo fm) (bo fs) k x) (fun (u : (Nat → Int64) × (Nat → Int64) × (Nat → Int64) × (Nat → Int64) × Int64 × (Option Nat)) (t : State) => va_P (dC, dI) vwCl [(q, .inr (6, [.ref s0, .ref s1, .ref s2])), (s2, .inr (3, [.ref tq, .ref rq, .ref uq])), (tq, .inr (4, [.ref ca, .long u.2.2.2.2.1, .int (oI u.2.2.2.2.2)])), (ca, .inl (cJ, 64, .inr (.inl u.2.2.2.1))), (rq, .inr (5, [.ref rb])), (rb, .inr (0, [.ref rd])), (rd, .inl (cJ, 128, .inr (.inl u.2.2.1))), (uq, .inr (1, [.ref bm, .ref bs])), (bm, .inr (0, [.ref am])), (am, .inl (cJ, 64, .inr (.inl u.1))), (bs, .inr (0, [.ref ap])), (ap, .inl (cJ, 64, .inr (.inl u.2.1)))] t.heap ∧ va_K (dC, dI) vwCl [(cJ, .long)] t ∧ va_D (va_A [(q, .inr (6, [.ref s0, .ref s1, .ref s2])), (s2, .inr (3, [.ref tq, .ref rq, .ref uq])), (tq, .inr (4, [.ref ca, .long sm, .int (oI lo)])), (ca, .inl (cJ, 64, .inr (.inl fc))), (rq, .inr (5, [.ref rb])), (rb, .inr (0, [.ref rd])), (rd, .inl (cJ, 128, .inr (.inl ft))), (uq, .inr (1, [.ref bm, .ref bs])), (bm, .inr (0, [.ref am])), (am, .inl (cJ, 64, .inr (.inl fm))), (bs, .inr (0, [.ref ap])), (ap, .inl (cJ, 64, .inr (.inl fs)))] sz) [(q, .inr (6, [.ref s0, .ref s1, .ref s2])), (s2, .inr (3, [.ref tq, .ref rq, .ref uq])), (tq, .inr (4, [.ref ca, .long u.2.2.2.2.1, .int (oI u.2.2.2.2.2)])), (ca, .inl (cJ, 64, .inr (.inl u.2.2.2.1))), (rq, .inr (5, [.ref rb])), (rb, .inr (0, [.ref rd])), (rd, .inl (cJ, 128, .inr (.inl u.2.2.1))), (uq, .inr (1, [.ref bm, .ref bs])), (bm, .inr (0, [.ref am])), (am, .inl (cJ, 64, .inr (.inl u.1))), (bs, .inr (0, [.ref ap])), (ap, .inl (cJ, 64, .inr (.inl u.2.1)))]) (va_A [(q, .inr (6, [.ref s0, .ref s1, .ref s2])), (s2, .inr (3, [.ref tq, .ref rq, .ref uq])), (tq, .inr (4, [.ref ca, .long sm, .int (oI lo)])), (ca, .inl (cJ, 64, .inr (.inl fc))), (rq, .inr (5, [.ref rb])), (rb, .inr (0, [.ref rd])), (rd, .inl (cJ, 128, .inr (.inl ft))), (uq, .inr (1, [.ref bm, .ref bs])), (bm, .inr (0, [.ref am])), (am, .inl (cJ, 64, .inr (.inl fm))), (bs, .inr (0, [.ref ap])), (ap, .inl (cJ, 64, .inr (.inl fs)))] sz)) 0 0 (va_A [(q, .inr (6, [.ref s0, .ref s1, .ref s2])), (s2, .inr (3, [.ref tq, .ref rq, .ref uq])), (tq, .inr (4, [.ref ca, .long sm, .int (oI lo)])), (ca, .inl (cJ, 64, .inr (.inl fc))), (rq, .inr (5, [.ref rb])), (rb, .inr (0, [.ref rd])), (rd, .inl (cJ, 128, .inr (.inl ft))), (uq, .inr (1, [.ref bm, .ref bs])), (bm, .inr (0, [.ref am])), (am, .inl (cJ, 64, .inr (.inl fm))), (bs, .inr (0, [.ref ap])), (ap, .inl (cJ, 64, .inr (.inl fs)))] sz) := by
  refine Met.ofW (cc := cX7_insert) (maxL := 4) (ret := (some .boolean)) (by decide) rfl ?_
  intro p e s m args below meth c s₁ B hml hv
  obtain ⟨rfl, hsz, hP, hK, hD0⟩ := hv
  have hx := B.exec
  have hb := B.bytes
  have hr := B.returns
  have hts := atoms_spec (ws := wsX7_insert) B.pre
  have hown : s.vm.findClass RX7 = some m.cls := findClass_of_methodNamed B.named
  have hlocks := B.notSynchronized
  subst hsz
  have hD := hD0.self (sz := s.heap.size)
  generalize hAe : va_A [(q, .inr (6, [.ref s0, .ref s1, .ref s2])), (s2, .inr (3, [.ref tq, .ref rq, .ref uq])), (tq, .inr (4, [.ref ca, .long sm, .int (oI lo)])), (ca, .inl (cJ, 64, .inr (.inl fc))), (rq, .inr (5, [.ref rb])), (rb, .inr (0, [.ref rd])), (rd, .inl (cJ, 128, .inr (.inl ft))), (uq, .inr (1, [.ref bm, .ref bs])), (bm, .inr (0, [.ref am])), (am, .inl (cJ, 64, .inr (.inl fm))), (bs, .inr (0, [.ref ap])), (ap, .inl (cJ, 64, .inr (.inl fs)))] s.heap.size = A at hD ⊢
  have hA : ∀ q : Nat, s.heap.size ≤ q → A q := fun q h => by rw [← hAe]; exact Or.inr h
  have hS : va_S A s.heap s.heap [] := va_S.rf
  have hP : va_P (dC, dI) vwCl [(q, .inr (6, [.ref s0, .ref s1, .ref s2])), (s2, .inr (3, [.ref tq, .ref rq, .ref uq])), (tq, .inr (4, [.ref ca, .long sm, .int (oI lo)])), (ca, .inl (cJ, 64, .inr (.inl fc))), (rq, .inr (5, [.ref rb])), (rb, .inr (0, [.ref rd])), (rd, .inl (cJ, 128, .inr (.inl ft))), (uq, .inr (1, [.ref bm, .ref bs])), (bm, .inr (0, [.ref am])), (am, .inl (cJ, 64, .inr (.inl fm))), (bs, .inr (0, [.ref ap])), (ap, .inl (cJ, 64, .inr (.inl fs)))] s.heap := hP
  have hl := lv_entry ([.ref q, .int (nI 2), .int (nI k)]) (n := 4) (Nat.le_of_ble_eq_true rfl)
  rw [lg_entry_eq]
  generalize (lg_sl ([.ref q, .int (nI 2), .int (nI k)]) ++ List.replicate (4 - (lg_sl ([.ref q, .int (nI 2), .int (nI k)])).length) Slot.unset).toArray = ls at hl ⊢
  have hl : lv_has ls 4 [(0, .ref q), (1, .int (nI 2)), (2, .int (nI k))] := hl
  refine lv_aload_n hx hb dX7_insert_0 rfl (lv_at hl 0 rfl) ?_
  refine lv_iload_n hx hb dX7_insert_1 rfl (lv_at hl 1 rfl) ?_
  have hPc := hP.sub (ws' := [(q, .inr (6, [.ref s0, .ref s1, .ref s2]))]) [0] rfl
  have hKc := hK.sub (tys' := []) [] rfl
  refine va_csr (W.runV (As := [.int (nI 2)]) (rest := []) ⟨hx, hb, hml, hown, hts⟩ (c_X7_chosenSet_2 l dC dI q s0 s1 s2 ) (cwV 1 hts gX7_insert_X7_chosenSet rfl rfl rfl (by decide +kernel) ⟨Nat.le_of_ble_eq_true rfl, Nat.le_of_ble_eq_true rfl⟩) ⟨fun a U g mk q => by obtain ⟨q0, qP, qK⟩ := q; exact ⟨q0, qP, va_K.moved (u := U) (U := U.calling g mk a) (Vm.Alike.refl U.vm) qK⟩, va_recv hKc hPc (ci := 6) (q0 := 0) rfl rfl, fun U hU hW => ⟨rfl, by rw [hU]; exact hPc, va_K.moved hW.alike hKc⟩⟩ rfl rfl hl.1 rfl (lv_room (Nat.le_of_ble_eq_true rfl)) dX7_insert_2 ⟨Nat.le_of_ble_eq_true rfl, Nat.le_of_ble_eq_true rfl⟩) (fun r_2 hw_1 => ?_)
  have hw_1 := hw_1.symm
  subst hw_1
  refine lv_astore_n (lv' := [(3, .ref s2), (0, .ref q), (1, .int (nI 2)), (2, .int (nI k))]) hx hb dX7_insert_5 rfl hl (by decide) rfl (fun ls hl => ?_)
  refine lv_iload_n hx hb dX7_insert_6 rfl (lv_at hl 3 rfl) ?_
  have hPc := hP.sub (ws' := []) [] rfl
  have hKc := hK.sub (tys' := []) [] rfl
  refine va_csv (W.runS (As := [.int (nI k)]) (rest := []) ⟨hx, hb, hml, hown, hts⟩ (c_X7_needNumber l dC dI k (by first | assumption | omega)) (va_cwS 1 hts gX7_insert_X7_needNumber rfl rfl rfl (by decide +kernel) ⟨Nat.le_of_ble_eq_true rfl, Nat.le_of_ble_eq_true rfl⟩) ⟨fun a U g mk q => by obtain ⟨q0, qP, qK⟩ := q; exact ⟨q0, qP, va_K.moved (u := U) (U := U.calling g mk a) (Vm.Alike.refl U.vm) qK⟩, fun U hU hW => ⟨rfl, by rw [hU]; exact hPc, va_K.moved hW.alike hKc⟩⟩ rfl rfl hl.1 rfl (lv_room (Nat.le_of_ble_eq_true rfl)) dX7_insert_7 ⟨Nat.le_of_ble_eq_true rfl, Nat.le_of_ble_eq_true rfl⟩) (fun _ => ?_)
  refine lv_aload_n hx hb dX7_insert_10 rfl (lv_at hl 0 rfl) ?_
  refine lv_iload_n hx hb dX7_insert_11 rfl (lv_at hl 3 rfl) ?_
  have hPc := hP.sub (ws' := [(s2, .inr (3, [.ref tq, .ref rq, .ref uq])), (tq, .inr (4, [.ref ca, .long sm, .int (oI lo)])), (ca, .inl (cJ, 64, .inr (.inl fc))), (rq, .inr (5, [.ref rb])), (rb, .inr (0, [.ref rd])), (rd, .inl (cJ, 128, .inr (.inl ft))), (uq, .inr (1, [.ref bm, .ref bs])), (bm, .inr (0, [.ref am])), (am, .inl (cJ, 64, .inr (.inl fm))), (bs, .inr (0, [.ref ap])), (ap, .inl (cJ, 64, .inr (.inl fs)))]) [1, 2, 3, 4, 5, 6, 7, 8, 9, 10, 11] rfl
  have hKc := hK.sub (tys' := [(cJ, .long)]) [0] rfl
  have hDc := hD.sub (ws' := [(s2, .inr (3, [.ref tq, .ref rq, .ref uq])), (tq, .inr (4, [.ref ca, .long sm, .int (oI lo)])), (ca, .inl (cJ, 64, .inr (.inl fc))), (rq, .inr (5, [.ref rb])), (rb, .inr (0, [.ref rd])), (rd, .inl (cJ, 128, .inr (.inl ft))), (uq, .inr (1, [.ref bm, .ref bs])), (bm, .inr (0, [.ref am])), (am, .inl (cJ, 64, .inr (.inl fm))), (bs, .inr (0, [.ref ap])), (ap, .inl (cJ, 64, .inr (.inl fs)))]) [1, 2, 3, 4, 5, 6, 7, 8, 9, 10, 11] (by decide) rfl
  have hFc := va_free (wc := [(s2, .inr (3, [.ref tq, .ref rq, .ref uq])), (tq, .inr (4, [.ref ca, .long sm, .int (oI lo)])), (ca, .inl (cJ, 64, .inr (.inl fc))), (rq, .inr (5, [.ref rb])), (rb, .inr (0, [.ref rd])), (rd, .inl (cJ, 128, .inr (.inl ft))), (uq, .inr (1, [.ref bm, .ref bs])), (bm, .inr (0, [.ref am])), (am, .inl (cJ, 64, .inr (.inl fm))), (bs, .inr (0, [.ref ap])), (ap, .inl (cJ, 64, .inr (.inl fs)))]) hD hS hA [1, 2, 3, 4, 5, 6, 7, 8, 9, 10, 11] rfl
  refine va_calli (va_runV (As := [.int (nI k)]) (rest := []) ⟨hx, hb, hml, hown, hts⟩ (c_X3_put l dC dI s2 tq ca rq rb rd uq bm am bs ap cJ fm fs ft fc sm lo k s.heap.size (by first | assumption | omega) (by first | assumption | omega)) (cwV 1 hts gX7_insert_X3_put rfl rfl rfl (by decide +kernel) ⟨Nat.le_of_ble_eq_true rfl, Nat.le_of_ble_eq_true rfl⟩) ⟨fun a U g mk q => by obtain ⟨q0, q1, qP, qK, qD⟩ := q; exact ⟨q0, q1, qP, va_K.moved (u := U) (U := U.calling g mk a) (Vm.Alike.refl U.vm) qK, qD⟩, va_recv hKc hPc (ci := 3) (q0 := 0) rfl rfl, fun U hU hW => ⟨rfl, by rw [hU], by rw [hU]; exact hPc, va_K.moved hW.alike hKc, hDc.weaken (fun _ _ _ _ => trivial)⟩⟩ rfl rfl hl.1 rfl (lv_room (Nat.le_of_ble_eq_true rfl)) dX7_insert_12 ⟨Nat.le_of_ble_eq_true rfl, Nat.le_of_ble_eq_true rfl⟩) hS (fun q _ h => hFc q h) hFc (fun r_7 u_6 t9 H1 locs ht hvm hw_5 hB hz1 hk1 hS => ?_)
  obtain ⟨fm'_8, fs'_9, ft'_10, fc'_11, sm'_12, lo'_13⟩ := u_6
  obtain ⟨hP1, hK1, hD1⟩ := hB
  rw [ht] at hP1
  have hK1 := va_K.moved hvm.symm hK1
  try dsimp only at hw_5 hP1 hK1 hD1
  obtain ⟨hP, hD⟩ := va_join (wr := [(q, .inr (6, [.ref s0, .ref s1, .ref s2]))]) (w1 := [(s2, .inr (3, [.ref tq, .ref rq, .ref uq])), (tq, .inr (4, [.ref ca, .long sm'_12, .int (oI lo'_13)])), (ca, .inl (cJ, 64, .inr (.inl fc'_11))), (rq, .inr (5, [.ref rb])), (rb, .inr (0, [.ref rd])), (rd, .inl (cJ, 128, .inr (.inl ft'_10))), (uq, .inr (1, [.ref bm, .ref bs])), (bm, .inr (0, [.ref am])), (am, .inl (cJ, 64, .inr (.inl fm'_8))), (bs, .inr (0, [.ref ap])), (ap, .inl (cJ, 64, .inr (.inl fs'_9)))]) hP hD [1, 2, 3, 4, 5, 6, 7, 8, 9, 10, 11] [0] rfl rfl (by decide) (by decide) hk1 hFc hP1 hD1
  generalize H1 = H at hP hS ⊢
  have hP : va_P (dC, dI) vwCl [(q, .inr (6, [.ref s0, .ref s1, .ref s2])), (s2, .inr (3, [.ref tq, .ref rq, .ref uq])), (tq, .inr (4, [.ref ca, .long sm'_12, .int (oI lo'_13)])), (ca, .inl (cJ, 64, .inr (.inl fc'_11))), (rq, .inr (5, [.ref rb])), (rb, .inr (0, [.ref rd])), (rd, .inl (cJ, 128, .inr (.inl ft'_10))), (uq, .inr (1, [.ref bm, .ref bs])), (bm, .inr (0, [.ref am])), (am, .inl (cJ, 64, .inr (.inl fm'_8))), (bs, .inr (0, [.ref ap])), (ap, .inl (cJ, 64, .inr (.inl fs'_9)))] H := hP
  have hD : va_D A [(q, .inr (6, [.ref s0, .ref s1, .ref s2])), (s2, .inr (3, [.ref tq, .ref rq, .ref uq])), (tq, .inr (4, [.ref ca, .long sm'_12, .int (oI lo'_13)])), (ca, .inl (cJ, 64, .inr (.inl fc'_11))), (rq, .inr (5, [.ref rb])), (rb, .inr (0, [.ref rd])), (rd, .inl (cJ, 128, .inr (.inl ft'_10))), (uq, .inr (1, [.ref bm, .ref bs])), (bm, .inr (0, [.ref am])), (am, .inl (cJ, 64, .inr (.inl fm'_8))), (bs, .inr (0, [.ref ap])), (ap, .inl (cJ, 64, .inr (.inl fs'_9)))] := hD
  obtain ⟨he, hw_5⟩ := hw_5
  subst he
  have hP9 := hP.sub (ws' := [(q, .inr (6, [.ref s0, .ref s1, .ref s2])), (s2, .inr (3, [.ref tq, .ref rq, .ref uq])), (tq, .inr (4, [.ref ca, .long sm'_12, .int (oI lo'_13)])), (ca, .inl (cJ, 64, .inr (.inl fc'_11))), (rq, .inr (5, [.ref rb])), (rb, .inr (0, [.ref rd])), (rd, .inl (cJ, 128, .inr (.inl ft'_10))), (uq, .inr (1, [.ref bm, .ref bs])), (bm, .inr (0, [.ref am])), (am, .inl (cJ, 64, .inr (.inl fm'_8))), (bs, .inr (0, [.ref ap])), (ap, .inl (cJ, 64, .inr (.inl fs'_9)))]) [0, 1, 2, 3, 4, 5, 6, 7, 8, 9, 10, 11] rfl
  have hD9 := hD.sub (ws' := [(q, .inr (6, [.ref s0, .ref s1, .ref s2])), (s2, .inr (3, [.ref tq, .ref rq, .ref uq])), (tq, .inr (4, [.ref ca, .long sm'_12, .int (oI lo'_13)])), (ca, .inl (cJ, 64, .inr (.inl fc'_11))), (rq, .inr (5, [.ref rb])), (rb, .inr (0, [.ref rd])), (rd, .inl (cJ, 128, .inr (.inl ft'_10))), (uq, .inr (1, [.ref bm, .ref bs])), (bm, .inr (0, [.ref am])), (am, .inl (cJ, 64, .inr (.inl fm'_8))), (bs, .inr (0, [.ref ap])), (ap, .inl (cJ, 64, .inr (.inl fs'_9)))]) [0, 1, 2, 3, 4, 5, 6, 7, 8, 9, 10, 11] (by decide) rfl
  have hK9 := hK.sub (tys' := [(cJ, .long)]) [0] rfl
  exact W.zret (v := b2i (!bo fm k)) hx hb hr (b2i_nar _) (fun t9 ht hW => ⟨⟨b2i (!bo fm k), ⟨fm'_8, fs'_9, ft'_10, fc'_11, sm'_12, lo'_13⟩, rfl, (show (b2i (!bo fm k)) = b2i (!bo fm k) ∧ NI fm'_8 fs'_9 ft'_10 fc'_11 sm'_12 lo'_13 ∧ (∀ x, x < 4096 → bo fm'_8 x = ins (bo fm) k x) ∧ ∀ x, x < 4096 → bo fs'_9 x = putP (bo fm) (bo fs) k x from ⟨rfl, hw_5⟩), by rw [ht]; exact hP9, va_K.moved hW.alike hK9, hD9⟩, hS.F ht⟩) hS.2.2 dX7_insert_15
set_option maxHeartbeats 4000000 in
set_option maxRecDepth 100000 in
/-- delete, set 2 -/
theorem c_X7_delete_2 (l : Launch) (dC : Nat → ClassId) (dI : Nat → Nat → Nat) (q : Nat) (s0 : Nat) (s1 : Nat) (s2 : Nat) (tq : Nat) (ca : Nat) (rq : Nat) (rb : Nat) (rd : Nat) (uq : Nat) (bm : Nat) (am : Nat) (bs : Nat) (ap : Nat) (cJ : ClassId) (fm : Nat → Int64) (fs : Nat → Int64) (ft : Nat → Int64) (fc : Nat → Int64) (sm : Int64) (lo : Option Nat) (k : Nat) (sz : Nat) (hN : NI fm fs ft fc sm lo) (hk : k < 4096) : Met l yX7_delete wsX7_delete ({ frames := 7, cells := 0, slots := 0, locals := 159 }) (va_Pc [.ref q, .int (nI 2), .int (nI k)] (fun U => U.heap.size = sz ∧ va_P (dC, dI) vwCl [(q, .inr (6, [.ref s0, .ref s1, .ref s2])), (s2, .inr (3, [.ref tq, .ref rq, .ref uq])), (tq, .inr (4, [.ref ca, .long sm, .int (oI lo)])), (ca, .inl (cJ, 64, .inr (.inl fc))), (rq, .inr (5, [.ref rb])), (rb, .inr (0, [.ref rd])), (rd, .inl (cJ, 128, .inr (.inl ft))), (uq, .inr (1, [.ref bm, .ref bs])), (bm, .inr (0, [.ref am])), (am, .inl (cJ, 64, .inr (.inl fm))), (bs, .inr (0, [.ref ap])), (ap, .inl (cJ, 64, .inr (.inl fs)))] U.heap ∧ va_K (dC, dI) vwCl [(cJ, .long)] U ∧ va_D (fun _ => True) [(q, .inr (6, [.ref s0, .ref s1, .ref s2])), (s2, .inr (3, [.ref tq, .ref rq, .ref uq])), (tq, .inr (4, [.ref ca, .long sm, .int (oI lo)])), (ca, .inl (cJ, 64, .inr (.inl fc))), (rq, .inr (5, [.ref rb])), (rb, .inr (0, [.ref rd])), (rd, .inl (cJ, 128, .inr (.inl ft))), (uq, .inr (1, [.ref bm, .ref bs])), (bm, .inr (0, [.ref am])), (am, .inl (cJ, 64, .inr (.inl fm))), (bs, .inr (0, [.ref ap])), (ap, .inl (cJ, 64, .inr (.inl fs)))])) (va_Qi (fun (r : Int32) (u : (Nat → Int64) × (Nat → Int64) × (Nat → Int64) × (Nat → Int64) × Int64 × (Option Nat)) => r = b2i (bo fm k) ∧ NI u.1 u.2.1 u.2.2.1 u.2.2.2.1 u.2.2.2.2.1 u.2.2.2.2.2 ∧ (∀ x, x < 4096 → bo u.1 x = del (bo fm) k x) ∧ ∀ x, x < 4096 → bo u.2.1 x = takeP (bo fm) (bo fs) k x) (fun (u : (Nat → Int64) × (Nat → Int64) × (Nat → Int64) × (Nat → Int64) × Int64 × (Option Nat)) (t : State) => va_P (dC, dI) vwCl [(q, .inr (6, [.ref s0, .ref s1, .ref s2])), (s2, .inr (3, [.ref tq, .ref rq, .ref uq])), (tq, .inr (4, [.ref ca, .long u.2.2.2.2.1, .int (oI u.2.2.2.2.2)])), (ca, .inl (cJ, 64, .inr (.inl u.2.2.2.1))), (rq, .inr (5, [.ref rb])), (rb, .inr (0, [.ref rd])), (rd, .inl (cJ, 128, .inr (.inl u.2.2.1))), (uq, .inr (1, [.ref bm, .ref bs])), (bm, .inr (0, [.ref am])), (am, .inl (cJ, 64, .inr (.inl u.1))), (bs, .inr (0, [.ref ap])), (ap, .inl (cJ, 64, .inr (.inl u.2.1)))] t.heap ∧ va_K (dC, dI) vwCl [(cJ, .long)] t ∧ va_D (va_A [(q, .inr (6, [.ref s0, .ref s1, .ref s2])), (s2, .inr (3, [.ref tq, .ref rq, .ref uq])), (tq, .inr (4, [.ref ca, .long sm, .int (oI lo)])), (ca, .inl (cJ, 64, .inr (.inl fc))), (rq, .inr (5, [.ref rb])), (rb, .inr (0, [.ref rd])), (rd, .inl (cJ, 128, .inr (.inl ft))), (uq, .inr (1, [.ref bm, .ref bs])), (bm, .inr (0, [.ref am])), (am, .inl (cJ, 64, .inr (.inl fm))), (bs, .inr (0, [.ref ap])), (ap, .inl (cJ, 64, .inr (.inl fs)))] sz) [(q, .inr (6, [.ref s0, .ref s1, .ref s2])), (s2, .inr (3, [.ref tq, .ref rq, .ref uq])), (tq, .inr (4, [.ref ca, .long u.2.2.2.2.1, .int (oI u.2.2.2.2.2)])), (ca, .inl (cJ, 64, .inr (.inl u.2.2.2.1))), (rq, .inr (5, [.ref rb])), (rb, .inr (0, [.ref rd])), (rd, .inl (cJ, 128, .inr (.inl u.2.2.1))), (uq, .inr (1, [.ref bm, .ref bs])), (bm, .inr (0, [.ref am])), (am, .inl (cJ, 64, .inr (.inl u.1))), (bs, .inr (0, [.ref ap])), (ap, .inl (cJ, 64, .inr (.inl u.2.1)))]) (va_A [(q, .inr (6, [.ref s0, .ref s1, .ref s2])), (s2, .inr (3, [.ref tq, .ref rq, .ref uq])), (tq, .inr (4, [.ref ca, .long sm, .int (oI lo)])), (ca, .inl (cJ, 64, .inr (.inl fc))), (rq, .inr (5, [.ref rb])), (rb, .inr (0, [.ref rd])), (rd, .inl (cJ, 128, .inr (.inl ft))), (uq, .inr (1, [.ref bm, .ref bs])), (bm, .inr (0, [.ref am])), (am, .inl (cJ, 64, .inr (.inl fm))), (bs, .inr (0, [.ref ap])), (ap, .inl (cJ, 64, .inr (.inl fs)))] sz)) 0 0 (va_A [(q, .inr (6, [.ref s0, .ref s1, .ref s2])), (s2, .inr (3, [.ref tq, .ref rq, .ref uq])), (tq, .inr (4, [.ref ca, .long sm, .int (oI lo)])), (ca, .inl (cJ, 64, .inr (.inl fc))), (rq, .inr (5, [.ref rb])), (rb, .inr (0, [.ref rd])), (rd, .inl (cJ, 128, .inr (.inl ft))), (uq, .inr (1, [.ref bm, .ref bs])), (bm, .inr (0, [.ref am])), (am, .inl (cJ, 64, .inr (.inl fm))), (bs, .inr (0, [.ref ap])), (ap, .inl (cJ, 64, .inr (.inl fs)))] sz) := by
  refine Met.ofW (cc := cX7_delete) (maxL := 4) (ret := (some .boolean)) (by decide) rfl ?_
  intro p e s m args below meth c s₁ B hml hv
  obtain ⟨rfl, hsz, hP, hK, hD0⟩ := hv
  have hx := B.exec
  have hb := B.bytes
  have hr := B.returns
  have hts := atoms_spec (ws := wsX7_delete) B.pre
  have hown : s.vm.findClass RX7 = some m.cls := findClass_of_methodNamed B.named
  have hlocks := B.notSynchronized
  subst hsz
  have hD := hD0.self (sz := s.heap.size)
  generalize hAe : va_A [(q, .inr (6, [.ref s0, .ref s1, .ref s2])), (s2, .inr (3, [.ref tq, .ref rq, .ref uq])), (tq, .inr (4, [.ref ca, .long sm, .int (oI lo)])), (ca, .inl (cJ, 64, .inr (.inl fc))), (rq, .inr (5, [.ref rb])), (rb, .inr (0, [.ref rd])), (rd, .inl (cJ, 128, .inr (.inl ft))), (uq, .inr (1, [.ref bm, .ref bs])), (bm, .inr (0, [.ref am])), (am, .inl (cJ, 64, .inr (.inl fm))), (bs, .inr (0, [.ref ap])), (ap, .inl (cJ, 64, .inr (.inl fs)))] s.heap.size = A at hD ⊢
  have hA : ∀ q : Nat, s.heap.size ≤ q → A q := fun q h => by rw [← hAe]; exact Or.inr h
  have hS : va_S A s.heap s.heap [] := va_S.rf
  have hP : va_P (dC, dI) vwCl [(q, .inr (6, [.ref s0, .ref s1, .ref s2])), (s2, .inr (3, [.ref tq, .ref rq, .ref uq])), (tq, .inr (4, [.ref ca, .long sm, .int (oI lo)])), (ca, .inl (cJ, 64, .inr (.inl fc))), (rq, .inr (5, [.ref rb])), (rb, .inr (0, [.ref rd])), (rd, .inl (cJ, 128, .inr (.inl ft))), (uq, .inr (1, [.ref bm, .ref bs])), (bm, .inr (0, [.ref am])), (am, .inl (cJ, 64, .inr (.inl fm))), (bs, .inr (0, [.ref ap])), (ap, .inl (cJ, 64, .inr (.inl fs)))] s.heap := hP
  have hl := lv_entry ([.ref q, .int (nI 2), .int (nI k)]) (n := 4) (Nat.le_of_ble_eq_true rfl)
  rw [lg_entry_eq]
  generalize (lg_sl ([.ref q, .int (nI 2), .int (nI k)]) ++ List.replicate (4 - (lg_sl ([.ref q, .int (nI 2), .int (nI k)])).length) Slot.unset).toArray = ls at hl ⊢
  have hl : lv_has ls 4 [(0, .ref q), (1, .int (nI 2)), (2, .int (nI k))] := hl
  refine lv_aload_n hx hb dX7_delete_0 rfl (lv_at hl 0 rfl) ?_
  refine lv_iload_n hx hb dX7_delete_1 rfl (lv_at hl 1 rfl) ?_
  have hPc := hP.sub (ws' := [(q, .inr (6, [.ref s0, .ref s1, .ref s2]))]) [0] rfl
  have hKc := hK.sub (tys' := []) [] rfl
  refine va_csr (W.runV (As := [.int (nI 2)]) (rest := []) ⟨hx, hb, hml, hown, hts⟩ (c_X7_chosenSet_2 l dC dI q s0 s1 s2 ) (cwV 1 hts gX7_delete_X7_chosenSet rfl rfl rfl (by decide +kernel) ⟨Nat.le_of_ble_eq_true rfl, Nat.le_of_ble_eq_true rfl⟩) ⟨fun a U g mk q => by obtain ⟨q0, qP, qK⟩ := q; exact ⟨q0, qP, va_K.moved (u := U) (U := U.calling g mk a) (Vm.Alike.refl U.vm) qK⟩, va_recv hKc hPc (ci := 6) (q0 := 0) rfl rfl, fun U hU hW => ⟨rfl, by rw [hU]; exact hPc, va_K.moved hW.alike hKc⟩⟩ rfl rfl hl.1 rfl (lv_room (Nat.le_of_ble_eq_true rfl)) dX7_delete_2 ⟨Nat.le_of_ble_eq_true rfl, Nat.le_of_ble_eq_true rfl⟩) (fun r_2 hw_1 => ?_)
  have hw_1 := hw_1.symm
  subst hw_1
  refine lv_astore_n (lv' := [(3, .ref s2), (0, .ref q), (1, .int (nI 2)), (2, .int (nI k))]) hx hb dX7_delete_5 rfl hl (by decide) rfl (fun ls hl => ?_)
  refine lv_iload_n hx hb dX7_delete_6 rfl (lv_at hl 3 rfl) ?_
  have hPc := hP.sub (ws' := []) [] rfl
  have hKc := hK.sub (tys' := []) [] rfl
  refine va_csv (W.runS (As := [.int (nI k)]) (rest := []) ⟨hx, hb, hml, hown, hts⟩ (c_X7_needNumber l dC dI k (by first | assumption | omega)) (va_cwS 1 hts gX7_delete_X7_needNumber rfl rfl rfl (by decide +kernel) ⟨Nat.le_of_ble_eq_true rfl, Nat.le_of_ble_eq_true rfl⟩) ⟨fun a U g mk q => by obtain ⟨q0, qP, qK⟩ := q; exact ⟨q0, qP, va_K.moved (u := U) (U := U.calling g mk a) (Vm.Alike.refl U.vm) qK⟩, fun U hU hW => ⟨rfl, by rw [hU]; exact hPc, va_K.moved hW.alike hKc⟩⟩ rfl rfl hl.1 rfl (lv_room (Nat.le_of_ble_eq_true rfl)) dX7_delete_7 ⟨Nat.le_of_ble_eq_true rfl, Nat.le_of_ble_eq_true rfl⟩) (fun _ => ?_)
  refine lv_aload_n hx hb dX7_delete_10 rfl (lv_at hl 0 rfl) ?_
  refine lv_iload_n hx hb dX7_delete_11 rfl (lv_at hl 3 rfl) ?_
  have hPc := hP.sub (ws' := [(s2, .inr (3, [.ref tq, .ref rq, .ref uq])), (tq, .inr (4, [.ref ca, .long sm, .int (oI lo)])), (ca, .inl (cJ, 64, .inr (.inl fc))), (rq, .inr (5, [.ref rb])), (rb, .inr (0, [.ref rd])), (rd, .inl (cJ, 128, .inr (.inl ft))), (uq, .inr (1, [.ref bm, .ref bs])), (bm, .inr (0, [.ref am])), (am, .inl (cJ, 64, .inr (.inl fm))), (bs, .inr (0, [.ref ap])), (ap, .inl (cJ, 64, .inr (.inl fs)))]) [1, 2, 3, 4, 5, 6, 7, 8, 9, 10, 11] rfl
  have hKc := hK.sub (tys' := [(cJ, .long)]) [0] rfl
  have hDc := hD.sub (ws' := [(s2, .inr (3, [.ref tq, .ref rq, .ref uq])), (tq, .inr (4, [.ref ca, .long sm, .int (oI lo)])), (ca, .inl (cJ, 64, .inr (.inl fc))), (rq, .inr (5, [.ref rb])), (rb, .inr (0, [.ref rd])), (rd, .inl (cJ, 128, .inr (.inl ft))), (uq, .inr (1, [.ref bm, .ref bs])), (bm, .inr (0, [.ref am])), (am, .inl (cJ, 64, .inr (.inl fm))), (bs, .inr (0, [.ref ap])), (ap, .inl (cJ, 64, .inr (.inl fs)))]) [1, 2, 3, 4, 5, 6, 7, 8, 9, 10, 11] (by decide) rfl
  have hFc := va_free (wc := [(s2, .inr (3, [.ref tq, .ref rq, .ref uq])), (tq, .inr (4, [.ref ca, .long sm, .int (oI lo)])), (ca, .inl (cJ, 64, .inr (.inl fc))), (rq, .inr (5, [.ref rb])), (rb, .inr (0, [.ref rd])), (rd, .inl (cJ, 128, .inr (.inl ft))), (uq, .inr (1, [.ref bm, .ref bs])), (bm, .inr (0, [.ref am])), (am, .inl (cJ, 64, .inr (.inl fm))), (bs, .inr (0, [.ref ap])), (ap, .inl (cJ, 64, .inr (.inl fs)))]) hD hS hA [1, 2, 3, 4, 5, 6, 7, 8, 9, 10, 11] rfl
  refine va_calli (va_runV (As := [.int (nI k)]) (rest := []) ⟨hx, hb, hml, hown, hts⟩ (c_X3_take l dC dI s2 tq ca rq rb rd uq bm am bs ap cJ fm fs ft fc sm lo k s.heap.size (by first | assumption | omega) (by first | assumption | omega)) (cwV 1 hts gX7_delete_X3_take rfl rfl rfl (by decide +kernel) ⟨Nat.le_of_ble_eq_true rfl, Nat.le_of_ble_eq_true rfl⟩) ⟨fun a U g mk q => by obtain ⟨q0, q1, qP, qK, qD⟩ := q; exact ⟨q0, q1, qP, va_K.moved (u := U) (U := U.calling g mk a) (Vm.Alike.refl U.vm) qK, qD⟩, va_recv hKc hPc (ci := 3) (q0 := 0) rfl rfl, fun U hU hW => ⟨rfl, by rw [hU], by rw [hU]; exact hPc, va_K.moved hW.alike hKc, hDc.weaken (fun _ _ _ _ => trivial)⟩⟩ rfl rfl hl.1 rfl (lv_room (Nat.le_of_ble_eq_true rfl)) dX7_delete_12 ⟨Nat.le_of_ble_eq_true rfl, Nat.le_of_ble_eq_true rfl⟩) hS (fun q _ h => hFc q h) hFc (fun r_7 u_6 t9 H1 locs ht hvm hw_5 hB hz1 hk1 hS => ?_)
  obtain ⟨fm'_8, fs'_9, ft'_10, fc'_11, sm'_12, lo'_13⟩ := u_6
  obtain ⟨hP1, hK1, hD1⟩ := hB
  rw [ht] at hP1
  have hK1 := va_K.moved hvm.symm hK1
  try dsimp only at hw_5 hP1 hK1 hD1
  obtain ⟨hP, hD⟩ := va_join (wr := [(q, .inr (6, [.ref s0, .ref s1, .ref s2]))]) (w1 := [(s2, .inr (3, [.ref tq, .ref rq, .ref uq])), (tq, .inr (4, [.ref ca, .long sm'_12, .int (oI lo'_13)])), (ca, .inl (cJ, 64, .inr (.inl fc'_11))), (rq, .inr (5, [.ref rb])), (rb, .inr (0, [.ref rd])), (rd, .inl (cJ, 128, .inr (.inl ft'_10))), (uq, .inr (1, [.ref bm, .ref bs])), (bm, .inr (0, [.ref am])), (am, .inl (cJ, 64, .inr (.inl fm'_8))), (bs, .inr (0, [.ref ap])), (ap, .inl (cJ, 64, .inr (.inl fs'_9)))]) hP hD [1, 2, 3, 4, 5, 6, 7, 8, 9, 10, 11] [0] rfl rfl (by decide) (by decide) hk1 hFc hP1 hD1
  generalize H1 = H at hP hS ⊢
  have hP : va_P (dC, dI) vwCl [(q, .inr (6, [.ref s0, .ref s1, .ref s2])), (s2, .inr (3, [.ref tq, .ref rq, .ref uq])), (tq, .inr (4, [.ref ca, .long sm'_12, .int (oI lo'_13)])), (ca, .inl (cJ, 64, .inr (.inl fc'_11))), (rq, .inr (5, [.ref rb])), (rb, .inr (0, [.ref rd])), (rd, .inl (cJ, 128, .inr (.inl ft'_10))), (uq, .inr (1, [.ref bm, .ref bs])), (bm, .inr (0, [.ref am])), (am, .inl (cJ, 64, .inr (.inl fm'_8))), (bs, .inr (0, [.ref ap])), (ap, .inl (cJ, 64, .inr (.inl fs'_9)))] H := hP
  have hD : va_D A [(q, .inr (6, [.ref s0, .ref s1, .ref s2])), (s2, .inr (3, [.ref tq, .ref rq, .ref uq])), (tq, .inr (4, [.ref ca, .long sm'_12, .int (oI lo'_13)])), (ca, .inl (cJ, 64, .inr (.inl fc'_11))), (rq, .inr (5, [.ref rb])), (rb, .inr (0, [.ref rd])), (rd, .inl (cJ, 128, .inr (.inl ft'_10))), (uq, .inr (1, [.ref bm, .ref bs])), (bm, .inr (0, [.ref am])), (am, .inl (cJ, 64, .inr (.inl fm'_8))), (bs, .inr (0, [.ref ap])), (ap, .inl (cJ, 64, .inr (.inl fs'_9)))] := hD
  obtain ⟨he, hw_5⟩ := hw_5
  subst he
  have hP9 := hP.sub (ws' := [(q, .inr (6, [.ref s0, .ref s1, .ref s2])), (s2, .inr (3, [.ref tq, .ref rq, .ref uq])), (tq, .inr (4, [.ref ca, .long sm'_12, .int (oI lo'_13)])), (ca, .inl (cJ, 64, .inr (.inl fc'_11))), (rq, .inr (5, [.ref rb])), (rb, .inr (0, [.ref rd])), (rd, .inl (cJ, 128, .inr (.inl ft'_10))), (uq, .inr (1, [.ref bm, .ref bs])), (bm, .inr (0, [.ref am])), (am, .inl (cJ, 64, .inr (.inl fm'_8))), (bs, .inr (0, [.ref ap])), (ap, .inl (cJ, 64, .inr (.inl fs'_9)))]) [0, 1, 2, 3, 4, 5, 6, 7, 8, 9, 10, 11] rfl
  have hD9 := hD.sub (ws' := [(q, .inr (6, [.ref s0, .ref s1, .ref s2])), (s2, .inr (3, [.ref tq, .ref rq, .ref uq])), (tq, .inr (4, [.ref ca, .long sm'_12, .int (oI lo'_13)])), (ca, .inl (cJ, 64, .inr (.inl fc'_11))), (rq, .inr (5, [.ref rb])), (rb, .inr (0, [.ref rd])), (rd, .inl (cJ, 128, .inr (.inl ft'_10))), (uq, .inr (1, [.ref bm, .ref bs])), (bm, .inr (0, [.ref am])), (am, .inl (cJ, 64, .inr (.inl fm'_8))), (bs, .inr (0, [.ref ap])), (ap, .inl (cJ, 64, .inr (.inl fs'_9)))]) [0, 1, 2, 3, 4, 5, 6, 7, 8, 9, 10, 11] (by decide) rfl
  have hK9 := hK.sub (tys' := [(cJ, .long)]) [0] rfl
  exact W.zret (v := b2i (bo fm k)) hx hb hr (b2i_nar _) (fun t9 ht hW => ⟨⟨b2i (bo fm k), ⟨fm'_8, fs'_9, ft'_10, fc'_11, sm'_12, lo'_13⟩, rfl, (show (b2i (bo fm k)) = b2i (bo fm k) ∧ NI fm'_8 fs'_9 ft'_10 fc'_11 sm'_12 lo'_13 ∧ (∀ x, x < 4096 → bo fm'_8 x = del (bo fm) k x) ∧ ∀ x, x < 4096 → bo fs'_9 x = takeP (bo fm) (bo fs) k x from ⟨rfl, hw_5⟩), by rw [ht]; exact hP9, va_K.moved hW.alike hK9, hD9⟩, hS.F ht⟩) hS.2.2 dX7_delete_15
set_option maxHeartbeats 4000000 in
set_option maxRecDepth 100000 in
/-- size, set 2 -/
theorem c_X7_size_2 (l : Launch) (dC : Nat → ClassId) (dI : Nat → Nat → Nat) (q : Nat) (s0 : Nat) (s1 : Nat) (s2 : Nat) (tq : Nat) (ca : Nat) (rq : Nat) (rb : Nat) (rd : Nat) (uq : Nat) (bm : Nat) (am : Nat) (bs : Nat) (ap : Nat) (cJ : ClassId) (fm : Nat → Int64) (fs : Nat → Int64) (ft : Nat → Int64) (fc : Nat → Int64) (sm : Int64) (lo : Option Nat) (hN : NI fm fs ft fc sm lo) : Met l yX7_size wsX7_size ({ frames := 3, cells := 0, slots := 0, locals := 65 }) (va_Pc [.ref q, .int (nI 2)] (fun U => va_Nw (.fieldLinkNest RX7 38 "SmallNumberSets$NumberSet" "buckets" "LSmallNumberSets$Buckets;" "SmallNumberSets") U ∧ va_P (dC, dI) vwCl [(q, .inr (6, [.ref s0, .ref s1, .ref s2])), (s2, .inr (3, [.ref tq, .ref rq, .ref uq])), (tq, .inr (4, [.ref ca, .long sm, .int (oI lo)])), (ca, .inl (cJ, 64, .inr (.inl fc))), (rq, .inr (5, [.ref rb])), (rb, .inr (0, [.ref rd])), (rd, .inl (cJ, 128, .inr (.inl ft))), (uq, .inr (1, [.ref bm, .ref bs])), (bm, .inr (0, [.ref am])), (am, .inl (cJ, 64, .inr (.inl fm))), (bs, .inr (0, [.ref ap])), (ap, .inl (cJ, 64, .inr (.inl fs)))] U.heap ∧ va_K (dC, dI) vwCl [(cJ, .long)] U)) (vp_Si (fun r => r = nI (fb_ct (bo fm) 4096))) 0 0 (fun _ => False) := by
  refine Met.ofW (cc := cX7_size) (maxL := 2) (ret := (some .int)) (by decide) rfl ?_
  intro p e s m args below meth c s₁ B hml hv
  obtain ⟨rfl, nw0, hP, hK⟩ := hv
  have hx := B.exec
  have hb := B.bytes
  have hr := B.returns
  have hts := atoms_spec (ws := wsX7_size) B.pre
  have hown : s.vm.findClass RX7 = some m.cls := findClass_of_methodNamed B.named
  have hlocks := B.notSynchronized
  have hP : va_P (dC, dI) vwCl [(q, .inr (6, [.ref s0, .ref s1, .ref s2])), (s2, .inr (3, [.ref tq, .ref rq, .ref uq])), (tq, .inr (4, [.ref ca, .long sm, .int (oI lo)])), (ca, .inl (cJ, 64, .inr (.inl fc))), (rq, .inr (5, [.ref rb])), (rb, .inr (0, [.ref rd])), (rd, .inl (cJ, 128, .inr (.inl ft))), (uq, .inr (1, [.ref bm, .ref bs])), (bm, .inr (0, [.ref am])), (am, .inl (cJ, 64, .inr (.inl fm))), (bs, .inr (0, [.ref ap])), (ap, .inl (cJ, 64, .inr (.inl fs)))] s.heap := hP
  have hl := lv_entry ([.ref q, .int (nI 2)]) (n := 2) (Nat.le_of_ble_eq_true rfl)
  rw [lg_entry_eq]
  generalize (lg_sl ([.ref q, .int (nI 2)]) ++ List.replicate (2 - (lg_sl ([.ref q, .int (nI 2)])).length) Slot.unset).toArray = ls at hl ⊢
  have hl : lv_has ls 2 [(0, .ref q), (1, .int (nI 2))] := hl
  refine lv_aload_n hx hb dX7_size_0 rfl (lv_at hl 0 rfl) ?_
  refine lv_iload_n hx hb dX7_size_1 rfl (lv_at hl 1 rfl) ?_
  have hPc := hP.sub (ws' := [(q, .inr (6, [.ref s0, .ref s1, .ref s2]))]) [0] rfl
  have hKc := hK.sub (tys' := []) [] rfl
  refine va_csr (W.runV (As := [.int (nI 2)]) (rest := []) ⟨hx, hb, hml, hown, hts⟩ (c_X7_chosenSet_2 l dC dI q s0 s1 s2 ) (cwV 1 hts gX7_size_X7_chosenSet rfl rfl rfl (by decide +kernel) ⟨Nat.le_of_ble_eq_true rfl, Nat.le_of_ble_eq_true rfl⟩) ⟨fun a U g mk q => by obtain ⟨q0, qP, qK⟩ := q; exact ⟨q0, qP, va_K.moved (u := U) (U := U.calling g mk a) (Vm.Alike.refl U.vm) qK⟩, va_recv hKc hPc (ci := 6) (q0 := 0) rfl rfl, fun U hU hW => ⟨rfl, by rw [hU]; exact hPc, va_K.moved hW.alike hKc⟩⟩ rfl rfl hl.1 rfl (lv_room (Nat.le_of_ble_eq_true rfl)) dX7_size_2 ⟨Nat.le_of_ble_eq_true rfl, Nat.le_of_ble_eq_true rfl⟩) (fun r_2 hw_1 => ?_)
  have hw_1 := hw_1.symm
  subst hw_1
  refine va_getN (D := (dC, dI)) (ci := 3) (v := .ref uq) (C := RX3) (T := TX3) (N := 3) hx hb hts (by decide +kernel) hown hK hP 1 rfl rfl 2 (by decide) (va_Nw.use rfl nw0) (fun _ h9 => h9) rfl dX7_size_5 ?_
  have hPc := hP.sub (ws' := [(uq, .inr (1, [.ref bm, .ref bs])), (bm, .inr (0, [.ref am])), (am, .inl (cJ, 64, .inr (.inl fm))), (bs, .inr (0, [.ref ap])), (ap, .inl (cJ, 64, .inr (.inl fs)))]) [7, 8, 9, 10, 11] rfl
  have hKc := hK.sub (tys' := [(cJ, .long)]) [0] rfl
  refine vp_callSi (W.runV (As := []) (rest := []) ⟨hx, hb, hml, hown, hts⟩ (c_X1_memberCount l dC dI uq bm am bs ap cJ fm fs ) (cwV 0 hts gX7_size_X1_memberCount rfl rfl rfl (by decide +kernel) ⟨Nat.le_of_ble_eq_true rfl, Nat.le_of_ble_eq_true rfl⟩) ⟨fun a U g mk q => by obtain ⟨q0, qP, qK⟩ := q; exact ⟨q0, qP, va_K.moved (u := U) (U := U.calling g mk a) (Vm.Alike.refl U.vm) qK⟩, va_recv hKc hPc (ci := 1) (q0 := 0) rfl rfl, fun U hU hW => ⟨rfl, by rw [hU]; exact hPc, va_K.moved hW.alike hKc⟩⟩ rfl rfl hl.1 rfl (lv_room (Nat.le_of_ble_eq_true rfl)) dX7_size_8 ⟨Nat.le_of_ble_eq_true rfl, Nat.le_of_ble_eq_true rfl⟩) (fun r_4 hw_3 => ?_)
  subst hw_3
  exact W.iret (v := nI (fb_ct (bo fm) 4096)) hx hb hr (fun t9 ht hW => ⟨nI (fb_ct (bo fm) 4096), rfl, rfl, ht⟩) (fun q h => by cases h) dX7_size_11
set_option maxHeartbeats 4000000 in
set_option maxRecDepth 100000 in
/-- contains, set 2 -/
theorem c_X7_contains_2 (l : Launch) (dC : Nat → ClassId) (dI : Nat → Nat → Nat) (q : Nat) (s0 : Nat) (s1 : Nat) (s2 : Nat) (tq : Nat) (ca : Nat) (rq : Nat) (rb : Nat) (rd : Nat) (uq : Nat) (bm : Nat) (am : Nat) (bs : Nat) (ap : Nat) (cJ : ClassId) (fm : Nat → Int64) (fs : Nat → Int64) (ft : Nat → Int64) (fc : Nat → Int64) (sm : Int64) (lo : Option Nat) (k : Nat) (hN : NI fm fs ft fc sm lo) (hk : k < 4096) : Met l yX7_contains wsX7_contains ({ frames := 3, cells := 0, slots := 0, locals := 63 }) (va_Pc [.ref q, .int (nI 2), .int (nI k)] (fun U => va_Nw (.fieldLinkNest RX7 38 "SmallNumberSets$NumberSet" "buckets" "LSmallNumberSets$Buckets;" "SmallNumberSets") U ∧ va_P (dC, dI) vwCl [(q, .inr (6, [.ref s0, .ref s1, .ref s2])), (s2, .inr (3, [.ref tq, .ref rq, .ref uq])), (tq, .inr (4, [.ref ca, .long sm, .int (oI lo)])), (ca, .inl (cJ, 64, .inr (.inl fc))), (rq, .inr (5, [.ref rb])), (rb, .inr (0, [.ref rd])), (rd, .inl (cJ, 128, .inr (.inl ft))), (uq, .inr (1, [.ref bm, .ref bs])), (bm, .inr (0, [.ref am])), (am, .inl (cJ, 64, .inr (.inl fm))), (bs, .inr (0, [.ref ap])), (ap, .inl (cJ, 64, .inr (.inl fs)))] U.heap ∧ va_K (dC, dI) vwCl [(cJ, .long)] U)) (vp_Si (fun r => r = b2i (bo fm k))) 0 0 (fun _ => False) := by
  refine Met.ofW (cc := cX7_contains) (maxL := 4) (ret := (some .boolean)) (by decide) rfl ?_
  intro p e s m args below meth c s₁ B hml hv
  obtain ⟨rfl, nw0, hP, hK⟩ := hv
  have hx := B.exec
  have hb := B.bytes
  have hr := B.returns
  have hts := atoms_spec (ws := wsX7_contains) B.pre
  have hown : s.vm.findClass RX7 = some m.cls := findClass_of_methodNamed B.named
  have hlocks := B.notSynchronized
  have hP : va_P (dC, dI) vwCl [(q, .inr (6, [.ref s0, .ref s1, .ref s2])), (s2, .inr (3, [.ref tq, .ref rq, .ref uq])), (tq, .inr (4, [.ref ca, .long sm, .int (oI lo)])), (ca, .inl (cJ, 64, .inr (.inl fc))), (rq, .inr (5, [.ref rb])), (rb, .inr (0, [.ref rd])), (rd, .inl (cJ, 128, .inr (.inl ft))), (uq, .inr (1, [.ref bm, .ref bs])), (bm, .inr (0, [.ref am])), (am, .inl (cJ, 64, .inr (.inl fm))), (bs, .inr (0, [.ref ap])), (ap, .inl (cJ, 64, .inr (.inl fs)))] s.heap := hP
  have hl := lv_entry ([.ref q, .int (nI 2), .int (nI k)]) (n := 4) (Nat.le_of_ble_eq_true rfl)
  rw [lg_entry_eq]
  generalize (lg_sl ([.ref q, .int (nI 2), .int (nI k)]) ++ List.replicate (4 - (lg_sl ([.ref q, .int (nI 2), .int (nI k)])).length) Slot.unset).toArray = ls at hl ⊢
  have hl : lv_has ls 4 [(0, .ref q), (1, .int (nI 2)), (2, .int (nI k))] := hl
  refine lv_aload_n hx hb dX7_contains_0 rfl (lv_at hl 0 rfl) ?_
  refine lv_iload_n hx hb dX7_contains_1 rfl (lv_at hl 1 rfl) ?_
  have hPc := hP.sub (ws' := [(q, .inr (6, [.ref s0, .ref s1, .ref s2]))]) [0] rfl
  have hKc := hK.sub (tys' := []) [] rfl
  refine va_csr (W.runV (As := [.int (nI 2)]) (rest := []) ⟨hx, hb, hml, hown, hts⟩ (c_X7_chosenSet_2 l dC dI q s0 s1 s2 ) (cwV 1 hts gX7_contains_X7_chosenSet rfl rfl rfl (by decide +kernel) ⟨Nat.le_of_ble_eq_true rfl, Nat.le_of_ble_eq_true rfl⟩) ⟨fun a U g mk q => by obtain ⟨q0, qP, qK⟩ := q; exact ⟨q0, qP, va_K.moved (u := U) (U := U.calling g mk a) (Vm.Alike.refl U.vm) qK⟩, va_recv hKc hPc (ci := 6) (q0 := 0) rfl rfl, fun U hU hW => ⟨rfl, by rw [hU]; exact hPc, va_K.moved hW.alike hKc⟩⟩ rfl rfl hl.1 rfl (lv_room (Nat.le_of_ble_eq_true rfl)) dX7_contains_2 ⟨Nat.le_of_ble_eq_true rfl, Nat.le_of_ble_eq_true rfl⟩) (fun r_2 hw_1 => ?_)
  have hw_1 := hw_1.symm
  subst hw_1
  refine lv_astore_n (lv' := [(3, .ref s2), (0, .ref q), (1, .int (nI 2)), (2, .int (nI k))]) hx hb dX7_contains_5 rfl hl (by decide) rfl (fun ls hl => ?_)
  refine lv_iload_n hx hb dX7_contains_6 rfl (lv_at hl 3 rfl) ?_
  have hPc := hP.sub (ws' := []) [] rfl
  have hKc := hK.sub (tys' := []) [] rfl
  refine va_csv (W.runS (As := [.int (nI k)]) (rest := []) ⟨hx, hb, hml, hown, hts⟩ (c_X7_needNumber l dC dI k (by first | assumption | omega)) (va_cwS 1 hts gX7_contains_X7_needNumber rfl rfl rfl (by decide +kernel) ⟨Nat.le_of_ble_eq_true rfl, Nat.le_of_ble_eq_true rfl⟩) ⟨fun a U g mk q => by obtain ⟨q0, qP, qK⟩ := q; exact ⟨q0, qP, va_K.moved (u := U) (U := U.calling g mk a) (Vm.Alike.refl U.vm) qK⟩, fun U hU hW => ⟨rfl, by rw [hU]; exact hPc, va_K.moved hW.alike hKc⟩⟩ rfl rfl hl.1 rfl (lv_room (Nat.le_of_ble_eq_true rfl)) dX7_contains_7 ⟨Nat.le_of_ble_eq_true rfl, Nat.le_of_ble_eq_true rfl⟩) (fun _ => ?_)
  refine lv_aload_n hx hb dX7_contains_10 rfl (lv_at hl 0 rfl) ?_
  refine va_getN (D := (dC, dI)) (ci := 3) (v := .ref uq) (C := RX3) (T := TX3) (N := 3) hx hb hts (by decide +kernel) hown hK hP 1 rfl rfl 2 (by decide) (va_Nw.use rfl nw0) (fun _ h9 => h9) rfl dX7_contains_11 ?_
  refine lv_iload_n hx hb dX7_contains_14 rfl (lv_at hl 3 rfl) ?_
  have hPc := hP.sub (ws' := [(uq, .inr (1, [.ref bm, .ref bs])), (bm, .inr (0, [.ref am])), (am, .inl (cJ, 64, .inr (.inl fm))), (bs, .inr (0, [.ref ap])), (ap, .inl (cJ, 64, .inr (.inl fs)))]) [7, 8, 9, 10, 11] rfl
  have hKc := hK.sub (tys' := [(cJ, .long)]) [0] rfl
  refine vp_callSi (W.runV (As := [.int (nI k)]) (rest := []) ⟨hx, hb, hml, hown, hts⟩ (c_X1_has l dC dI uq bm am bs ap cJ fm fs k (by first | assumption | omega)) (cwV 1 hts gX7_contains_X1_has rfl rfl rfl (by decide +kernel) ⟨Nat.le_of_ble_eq_true rfl, Nat.le_of_ble_eq_true rfl⟩) ⟨fun a U g mk q => by obtain ⟨q0, qP, qK⟩ := q; exact ⟨q0, qP, va_K.moved (u := U) (U := U.calling g mk a) (Vm.Alike.refl U.vm) qK⟩, va_recv hKc hPc (ci := 1) (q0 := 0) rfl rfl, fun U hU hW => ⟨rfl, by rw [hU]; exact hPc, va_K.moved hW.alike hKc⟩⟩ rfl rfl hl.1 rfl (lv_room (Nat.le_of_ble_eq_true rfl)) dX7_contains_15 ⟨Nat.le_of_ble_eq_true rfl, Nat.le_of_ble_eq_true rfl⟩) (fun r_6 hw_5 => ?_)
  subst hw_5
  exact W.zret (v := b2i (bo fm k)) hx hb hr (b2i_nar _) (fun t9 ht hW => ⟨b2i (bo fm k), rfl, rfl, ht⟩) (fun q h => by cases h) dX7_contains_18
set_option maxHeartbeats 4000000 in
set_option maxRecDepth 100000 in
/-- successor, set 2 -/
theorem c_X7_successor_2 (l : Launch) (dC : Nat → ClassId) (dI : Nat → Nat → Nat) (q : Nat) (s0 : Nat) (s1 : Nat) (s2 : Nat) (tq : Nat) (ca : Nat) (rq : Nat) (rb : Nat) (rd : Nat) (uq : Nat) (bm : Nat) (am : Nat) (bs : Nat) (ap : Nat) (cJ : ClassId) (fm : Nat → Int64) (fs : Nat → Int64) (ft : Nat → Int64) (fc : Nat → Int64) (sm : Int64) (lo : Option Nat) (k : Nat) (hN : NI fm fs ft fc sm lo) (hk : k < 4096) : Met l yX7_successor wsX7_successor ({ frames := 5, cells := 0, slots := 0, locals := 107 }) (va_Pc [.ref q, .int (nI 2), .int (nI k)] (fun U => va_Nw (.fieldLinkNest RX7 62 "SmallNumberSets$NumberSet" "tree" "LSmallNumberSets$Tree;" "SmallNumberSets") U ∧ va_P (dC, dI) vwCl [(q, .inr (6, [.ref s0, .ref s1, .ref s2])), (s2, .inr (3, [.ref tq, .ref rq, .ref uq])), (tq, .inr (4, [.ref ca, .long sm, .int (oI lo)])), (ca, .inl (cJ, 64, .inr (.inl fc))), (rq, .inr (5, [.ref rb])), (rb, .inr (0, [.ref rd])), (rd, .inl (cJ, 128, .inr (.inl ft))), (uq, .inr (1, [.ref bm, .ref bs])), (bm, .inr (0, [.ref am])), (am, .inl (cJ, 64, .inr (.inl fm))), (bs, .inr (0, [.ref ap])), (ap, .inl (cJ, 64, .inr (.inl fs)))] U.heap ∧ va_K (dC, dI) vwCl [(cJ, .long)] U)) (vp_Si (fun r => r = oI (nxt1 (bo fm) k 4096))) 0 0 (fun _ => False) := by
  refine Met.ofW (cc := cX7_successor) (maxL := 4) (ret := (some .int)) (by decide) rfl ?_
  intro p e s m args below meth c s₁ B hml hv
  obtain ⟨rfl, nw0, hP, hK⟩ := hv
  have hx := B.exec
  have hb := B.bytes
  have hr := B.returns
  have hts := atoms_spec (ws := wsX7_successor) B.pre
  have hown : s.vm.findClass RX7 = some m.cls := findClass_of_methodNamed B.named
  have hlocks := B.notSynchronized
  have hP : va_P (dC, dI) vwCl [(q, .inr (6, [.ref s0, .ref s1, .ref s2])), (s2, .inr (3, [.ref tq, .ref rq, .ref uq])), (tq, .inr (4, [.ref ca, .long sm, .int (oI lo)])), (ca, .inl (cJ, 64, .inr (.inl fc))), (rq, .inr (5, [.ref rb])), (rb, .inr (0, [.ref rd])), (rd, .inl (cJ, 128, .inr (.inl ft))), (uq, .inr (1, [.ref bm, .ref bs])), (bm, .inr (0, [.ref am])), (am, .inl (cJ, 64, .inr (.inl fm))), (bs, .inr (0, [.ref ap])), (ap, .inl (cJ, 64, .inr (.inl fs)))] s.heap := hP
  have hl := lv_entry ([.ref q, .int (nI 2), .int (nI k)]) (n := 4) (Nat.le_of_ble_eq_true rfl)
  rw [lg_entry_eq]
  generalize (lg_sl ([.ref q, .int (nI 2), .int (nI k)]) ++ List.replicate (4 - (lg_sl ([.ref q, .int (nI 2), .int (nI k)])).length) Slot.unset).toArray = ls at hl ⊢
  have hl : lv_has ls 4 [(0, .ref q), (1, .int (nI 2)), (2, .int (nI k))] := hl
  refine lv_aload_n hx hb dX7_successor_0 rfl (lv_at hl 0 rfl) ?_
  refine lv_iload_n hx hb dX7_successor_1 rfl (lv_at hl 1 rfl) ?_
  have hPc := hP.sub (ws' := [(q, .inr (6, [.ref s0, .ref s1, .ref s2]))]) [0] rfl
  have hKc := hK.sub (tys' := []) [] rfl
  refine va_csr (W.runV (As := [.int (nI 2)]) (rest := []) ⟨hx, hb, hml, hown, hts⟩ (c_X7_chosenSet_2 l dC dI q s0 s1 s2 ) (cwV 1 hts gX7_successor_X7_chosenSet rfl rfl rfl (by decide +kernel) ⟨Nat.le_of_ble_eq_true rfl, Nat.le_of_ble_eq_true rfl⟩) ⟨fun a U g mk q => by obtain ⟨q0, qP, qK⟩ := q; exact ⟨q0, qP, va_K.moved (u := U) (U := U.calling g mk a) (Vm.Alike.refl U.vm) qK⟩, va_recv hKc hPc (ci := 6) (q0 := 0) rfl rfl, fun U hU hW => ⟨rfl, by rw [hU]; exact hPc, va_K.moved hW.alike hKc⟩⟩ rfl rfl hl.1 rfl (lv_room (Nat.le_of_ble_eq_true rfl)) dX7_successor_2 ⟨Nat.le_of_ble_eq_true rfl, Nat.le_of_ble_eq_true rfl⟩) (fun r_2 hw_1 => ?_)
  have hw_1 := hw_1.symm
  subst hw_1
  refine lv_astore_n (lv' := [(3, .ref s2), (0, .ref q), (1, .int (nI 2)), (2, .int (nI k))]) hx hb dX7_successor_5 rfl hl (by decide) rfl (fun ls hl => ?_)
  refine lv_iload_n hx hb dX7_successor_6 rfl (lv_at hl 3 rfl) ?_
  have hPc := hP.sub (ws' := []) [] rfl
  have hKc := hK.sub (tys' := []) [] rfl
  refine va_csv (W.runS (As := [.int (nI k)]) (rest := []) ⟨hx, hb, hml, hown, hts⟩ (c_X7_needNumber l dC dI k (by first | assumption | omega)) (va_cwS 1 hts gX7_successor_X7_needNumber rfl rfl rfl (by decide +kernel) ⟨Nat.le_of_ble_eq_true rfl, Nat.le_of_ble_eq_true rfl⟩) ⟨fun a U g mk q => by obtain ⟨q0, qP, qK⟩ := q; exact ⟨q0, qP, va_K.moved (u := U) (U := U.calling g mk a) (Vm.Alike.refl U.vm) qK⟩, fun U hU hW => ⟨rfl, by rw [hU]; exact hPc, va_K.moved hW.alike hKc⟩⟩ rfl rfl hl.1 rfl (lv_room (Nat.le_of_ble_eq_true rfl)) dX7_successor_7 ⟨Nat.le_of_ble_eq_true rfl, Nat.le_of_ble_eq_true rfl⟩) (fun _ => ?_)
  refine lv_aload_n hx hb dX7_successor_10 rfl (lv_at hl 0 rfl) ?_
  refine va_getN (D := (dC, dI)) (ci := 3) (v := .ref tq) (C := RX3) (T := TX3) (N := 3) hx hb hts (by decide +kernel) hown hK hP 1 rfl rfl 0 (by decide) (va_Nw.use rfl nw0) (fun _ h9 => h9) rfl dX7_successor_11 ?_
  refine lv_iload_n hx hb dX7_successor_14 rfl (lv_at hl 3 rfl) ?_
  have hPc := hP.sub (ws' := [(tq, .inr (4, [.ref ca, .long sm, .int (oI lo)])), (ca, .inl (cJ, 64, .inr (.inl fc)))]) [2, 3] rfl
  have hKc := hK.sub (tys' := [(cJ, .long)]) [0] rfl
  refine vp_callSi (W.runV (As := [.int (nI k)]) (rest := []) ⟨hx, hb, hml, hown, hts⟩ (c_X4_after l dC dI tq ca cJ fc sm lo (bo fm) k hN.2.2 (by first | assumption | omega)) (cwV 1 hts gX7_successor_X4_after rfl rfl rfl (by decide +kernel) ⟨Nat.le_of_ble_eq_true rfl, Nat.le_of_ble_eq_true rfl⟩) ⟨fun a U g mk q => by obtain ⟨q0, qP, qK⟩ := q; exact ⟨q0, qP, va_K.moved (u := U) (U := U.calling g mk a) (Vm.Alike.refl U.vm) qK⟩, va_recv hKc hPc (ci := 4) (q0 := 0) rfl rfl, fun U hU hW => ⟨rfl, by rw [hU]; exact hPc, va_K.moved hW.alike hKc⟩⟩ rfl rfl hl.1 rfl (lv_room (Nat.le_of_ble_eq_true rfl)) dX7_successor_15 ⟨Nat.le_of_ble_eq_true rfl, Nat.le_of_ble_eq_true rfl⟩) (fun r_6 hw_5 => ?_)
  subst hw_5
  exact W.iret (v := oI (nxt1 (bo fm) k 4096)) hx hb hr (fun t9 ht hW => ⟨oI (nxt1 (bo fm) k 4096), rfl, rfl, ht⟩) (fun q h => by cases h) dX7_successor_18
set_option maxHeartbeats 4000000 in
set_option maxRecDepth 100000 in
/-- predecessor, set 2 -/
theorem c_X7_predecessor_2 (l : Launch) (dC : Nat → ClassId) (dI : Nat → Nat → Nat) (q : Nat) (s0 : Nat) (s1 : Nat) (s2 : Nat) (tq : Nat) (ca : Nat) (rq : Nat) (rb : Nat) (rd : Nat) (uq : Nat) (bm : Nat) (am : Nat) (bs : Nat) (ap : Nat) (cJ : ClassId) (fm : Nat → Int64) (fs : Nat → Int64) (ft : Nat → Int64) (fc : Nat → Int64) (sm : Int64) (lo : Option Nat) (k : Nat) (hN : NI fm fs ft fc sm lo) (hk : k < 4096) : Met l yX7_predecessor wsX7_predecessor ({ frames := 4, cells := 0, slots := 0, locals := 113 }) (va_Pc [.ref q, .int (nI 2), .int (nI k)] (fun U => va_Nw (.fieldLinkNest RX7 62 "SmallNumberSets$NumberSet" "tree" "LSmallNumberSets$Tree;" "SmallNumberSets") U ∧ va_P (dC, dI) vwCl [(q, .inr (6, [.ref s0, .ref s1, .ref s2])), (s2, .inr (3, [.ref tq, .ref rq, .ref uq])), (tq, .inr (4, [.ref ca, .long sm, .int (oI lo)])), (ca, .inl (cJ, 64, .inr (.inl fc))), (rq, .inr (5, [.ref rb])), (rb, .inr (0, [.ref rd])), (rd, .inl (cJ, 128, .inr (.inl ft))), (uq, .inr (1, [.ref bm, .ref bs])), (bm, .inr (0, [.ref am])), (am, .inl (cJ, 64, .inr (.inl fm))), (bs, .inr (0, [.ref ap])), (ap, .inl (cJ, 64, .inr (.inl fs)))] U.heap ∧ va_K (dC, dI) vwCl [(cJ, .long)] U)) (vp_Si (fun r => r = oI (lst1 (bo fm) k))) 0 0 (fun _ => False) := by
  refine Met.ofW (cc := cX7_predecessor) (maxL := 4) (ret := (some .int)) (by decide) rfl ?_
  intro p e s m args below meth c s₁ B hml hv
  obtain ⟨rfl, nw0, hP, hK⟩ := hv
  have hx := B.exec
  have hb := B.bytes
  have hr := B.returns
  have hts := atoms_spec (ws := wsX7_predecessor) B.pre
  have hown : s.vm.findClass RX7 = some m.cls := findClass_of_methodNamed B.named
  have hlocks := B.notSynchronized
  have hP : va_P (dC, dI) vwCl [(q, .inr (6, [.ref s0, .ref s1, .ref s2])), (s2, .inr (3, [.ref tq, .ref rq, .ref uq])), (tq, .inr (4, [.ref ca, .long sm, .int (oI lo)])), (ca, .inl (cJ, 64, .inr (.inl fc))), (rq, .inr (5, [.ref rb])), (rb, .inr (0, [.ref rd])), (rd, .inl (cJ, 128, .inr (.inl ft))), (uq, .inr (1, [.ref bm, .ref bs])), (bm, .inr (0, [.ref am])), (am, .inl (cJ, 64, .inr (.inl fm))), (bs, .inr (0, [.ref ap])), (ap, .inl (cJ, 64, .inr (.inl fs)))] s.heap := hP
  have hl := lv_entry ([.ref q, .int (nI 2), .int (nI k)]) (n := 4) (Nat.le_of_ble_eq_true rfl)
  rw [lg_entry_eq]
  generalize (lg_sl ([.ref q, .int (nI 2), .int (nI k)]) ++ List.replicate (4 - (lg_sl ([.ref q, .int (nI 2), .int (nI k)])).length) Slot.unset).toArray = ls at hl ⊢
  have hl : lv_has ls 4 [(0, .ref q), (1, .int (nI 2)), (2, .int (nI k))] := hl
  refine lv_aload_n hx hb dX7_predecessor_0 rfl (lv_at hl 0 rfl) ?_
  refine lv_iload_n hx hb dX7_predecessor_1 rfl (lv_at hl 1 rfl) ?_
  have hPc := hP.sub (ws' := [(q, .inr (6, [.ref s0, .ref s1, .ref s2]))]) [0] rfl
  have hKc := hK.sub (tys' := []) [] rfl
  refine va_csr (W.runV (As := [.int (nI 2)]) (rest := []) ⟨hx, hb, hml, hown, hts⟩ (c_X7_chosenSet_2 l dC dI q s0 s1 s2 ) (cwV 1 hts gX7_predecessor_X7_chosenSet rfl rfl rfl (by decide +kernel) ⟨Nat.le_of_ble_eq_true rfl, Nat.le_of_ble_eq_true rfl⟩) ⟨fun a U g mk q => by obtain ⟨q0, qP, qK⟩ := q; exact ⟨q0, qP, va_K.moved (u := U) (U := U.calling g mk a) (Vm.Alike.refl U.vm) qK⟩, va_recv hKc hPc (ci := 6) (q0 := 0) rfl rfl, fun U hU hW => ⟨rfl, by rw [hU]; exact hPc, va_K.moved hW.alike hKc⟩⟩ rfl rfl hl.1 rfl (lv_room (Nat.le_of_ble_eq_true rfl)) dX7_predecessor_2 ⟨Nat.le_of_ble_eq_true rfl, Nat.le_of_ble_eq_true rfl⟩) (fun r_2 hw_1 => ?_)
  have hw_1 := hw_1.symm
  subst hw_1
  refine lv_astore_n (lv' := [(3, .ref s2), (0, .ref q), (1, .int (nI 2)), (2, .int (nI k))]) hx hb dX7_predecessor_5 rfl hl (by decide) rfl (fun ls hl => ?_)
  refine lv_iload_n hx hb dX7_predecessor_6 rfl (lv_at hl 3 rfl) ?_
  have hPc := hP.sub (ws' := []) [] rfl
  have hKc := hK.sub (tys' := []) [] rfl
  refine va_csv (W.runS (As := [.int (nI k)]) (rest := []) ⟨hx, hb, hml, hown, hts⟩ (c_X7_needNumber l dC dI k (by first | assumption | omega)) (va_cwS 1 hts gX7_predecessor_X7_needNumber rfl rfl rfl (by decide +kernel) ⟨Nat.le_of_ble_eq_true rfl, Nat.le_of_ble_eq_true rfl⟩) ⟨fun a U g mk q => by obtain ⟨q0, qP, qK⟩ := q; exact ⟨q0, qP, va_K.moved (u := U) (U := U.calling g mk a) (Vm.Alike.refl U.vm) qK⟩, fun U hU hW => ⟨rfl, by rw [hU]; exact hPc, va_K.moved hW.alike hKc⟩⟩ rfl rfl hl.1 rfl (lv_room (Nat.le_of_ble_eq_true rfl)) dX7_predecessor_7 ⟨Nat.le_of_ble_eq_true rfl, Nat.le_of_ble_eq_true rfl⟩) (fun _ => ?_)
  refine lv_aload_n hx hb dX7_predecessor_10 rfl (lv_at hl 0 rfl) ?_
  refine va_getN (D := (dC, dI)) (ci := 3) (v := .ref tq) (C := RX3) (T := TX3) (N := 3) hx hb hts (by decide +kernel) hown hK hP 1 rfl rfl 0 (by decide) (va_Nw.use rfl nw0) (fun _ h9 => h9) rfl dX7_predecessor_11 ?_
  refine lv_iload_n hx hb dX7_predecessor_14 rfl (lv_at hl 3 rfl) ?_
  have hPc := hP.sub (ws' := [(tq, .inr (4, [.ref ca, .long sm, .int (oI lo)])), (ca, .inl (cJ, 64, .inr (.inl fc)))]) [2, 3] rfl
  have hKc := hK.sub (tys' := [(cJ, .long)]) [0] rfl
  refine vp_callSi (W.runV (As := [.int (nI k)]) (rest := []) ⟨hx, hb, hml, hown, hts⟩ (c_X4_before l dC dI tq ca cJ fc sm lo (bo fm) k hN.2.2 (by first | assumption | omega)) (cwV 1 hts gX7_predecessor_X4_before rfl rfl rfl (by decide +kernel) ⟨Nat.le_of_ble_eq_true rfl, Nat.le_of_ble_eq_true rfl⟩) ⟨fun a U g mk q => by obtain ⟨q0, qP, qK⟩ := q; exact ⟨q0, qP, va_K.moved (u := U) (U := U.calling g mk a) (Vm.Alike.refl U.vm) qK⟩, va_recv hKc hPc (ci := 4) (q0 := 0) rfl rfl, fun U hU hW => ⟨rfl, by rw [hU]; exact hPc, va_K.moved hW.alike hKc⟩⟩ rfl rfl hl.1 rfl (lv_room (Nat.le_of_ble_eq_true rfl)) dX7_predecessor_15 ⟨Nat.le_of_ble_eq_true rfl, Nat.le_of_ble_eq_true rfl⟩) (fun r_6 hw_5 => ?_)
  subst hw_5
  exact W.iret (v := oI (lst1 (bo fm) k)) hx hb hr (fun t9 ht hW => ⟨oI (lst1 (bo fm) k), rfl, rfl, ht⟩) (fun q h => by cases h) dX7_predecessor_18
set_option maxHeartbeats 4000000 in
set_option maxRecDepth 100000 in
/-- rank, set 2 -/
theorem c_X7_rank_2 (l : Launch) (dC : Nat → ClassId) (dI : Nat → Nat → Nat) (q : Nat) (s0 : Nat) (s1 : Nat) (s2 : Nat) (tq : Nat) (ca : Nat) (rq : Nat) (rb : Nat) (rd : Nat) (uq : Nat) (bm : Nat) (am : Nat) (bs : Nat) (ap : Nat) (cJ : ClassId) (fm : Nat → Int64) (fs : Nat → Int64) (ft : Nat → Int64) (fc : Nat → Int64) (sm : Int64) (lo : Option Nat) (k : Nat) (hN : NI fm fs ft fc sm lo) (hk : k < 4096) : Met l yX7_rank wsX7_rank ({ frames := 3, cells := 0, slots := 0, locals := 66 }) (va_Pc [.ref q, .int (nI 2), .int (nI k)] (fun U => va_Nw (.fieldLinkNest RX7 38 "SmallNumberSets$NumberSet" "buckets" "LSmallNumberSets$Buckets;" "SmallNumberSets") U ∧ va_P (dC, dI) vwCl [(q, .inr (6, [.ref s0, .ref s1, .ref s2])), (s2, .inr (3, [.ref tq, .ref rq, .ref uq])), (tq, .inr (4, [.ref ca, .long sm, .int (oI lo)])), (ca, .inl (cJ, 64, .inr (.inl fc))), (rq, .inr (5, [.ref rb])), (rb, .inr (0, [.ref rd])), (rd, .inl (cJ, 128, .inr (.inl ft))), (uq, .inr (1, [.ref bm, .ref bs])), (bm, .inr (0, [.ref am])), (am, .inl (cJ, 64, .inr (.inl fm))), (bs, .inr (0, [.ref ap])), (ap, .inl (cJ, 64, .inr (.inl fs)))] U.heap ∧ va_K (dC, dI) vwCl [(cJ, .long)] U)) (vp_Si (fun r => r = nI (fb_ct (bo fm) k))) 0 0 (fun _ => False) := by
  refine Met.ofW (cc := cX7_rank) (maxL := 4) (ret := (some .int)) (by decide) rfl ?_
  intro p e s m args below meth c s₁ B hml hv
  obtain ⟨rfl, nw0, hP, hK⟩ := hv
  have hx := B.exec
  have hb := B.bytes
  have hr := B.returns
  have hts := atoms_spec (ws := wsX7_rank) B.pre
  have hown : s.vm.findClass RX7 = some m.cls := findClass_of_methodNamed B.named
  have hlocks := B.notSynchronized
  have hP : va_P (dC, dI) vwCl [(q, .inr (6, [.ref s0, .ref s1, .ref s2])), (s2, .inr (3, [.ref tq, .ref rq, .ref uq])), (tq, .inr (4, [.ref ca, .long sm, .int (oI lo)])), (ca, .inl (cJ, 64, .inr (.inl fc))), (rq, .inr (5, [.ref rb])), (rb, .inr (0, [.ref rd])), (rd, .inl (cJ, 128, .inr (.inl ft))), (uq, .inr (1, [.ref bm, .ref bs])), (bm, .inr (0, [.ref am])), (am, .inl (cJ, 64, .inr (.inl fm))), (bs, .inr (0, [.ref ap])), (ap, .inl (cJ, 64, .inr (.inl fs)))] s.heap := hP
  have hl := lv_entry ([.ref q, .int (nI 2), .int (nI k)]) (n := 4) (Nat.le_of_ble_eq_true rfl)
  rw [lg_entry_eq]
  generalize (lg_sl ([.ref q, .int (nI 2), .int (nI k)]) ++ List.replicate (4 - (lg_sl ([.ref q, .int (nI 2), .int (nI k)])).length) Slot.unset).toArray = ls at hl ⊢
  have hl : lv_has ls 4 [(0, .ref q), (1, .int (nI 2)), (2, .int (nI k))] := hl
  refine lv_aload_n hx hb dX7_rank_0 rfl (lv_at hl 0 rfl) ?_
  refine lv_iload_n hx hb dX7_rank_1 rfl (lv_at hl 1 rfl) ?_
  have hPc := hP.sub (ws' := [(q, .inr (6, [.ref s0, .ref s1, .ref s2]))]) [0] rfl
  have hKc := hK.sub (tys' := []) [] rfl
  refine va_csr (W.runV (As := [.int (nI 2)]) (rest := []) ⟨hx, hb, hml, hown, hts⟩ (c_X7_chosenSet_2 l dC dI q s0 s1 s2 ) (cwV 1 hts gX7_rank_X7_chosenSet rfl rfl rfl (by decide +kernel) ⟨Nat.le_of_ble_eq_true rfl, Nat.le_of_ble_eq_true rfl⟩) ⟨fun a U g mk q => by obtain ⟨q0, qP, qK⟩ := q; exact ⟨q0, qP, va_K.moved (u := U) (U := U.calling g mk a) (Vm.Alike.refl U.vm) qK⟩, va_recv hKc hPc (ci := 6) (q0 := 0) rfl rfl, fun U hU hW => ⟨rfl, by rw [hU]; exact hPc, va_K.moved hW.alike hKc⟩⟩ rfl rfl hl.1 rfl (lv_room (Nat.le_of_ble_eq_true rfl)) dX7_rank_2 ⟨Nat.le_of_ble_eq_true rfl, Nat.le_of_ble_eq_true rfl⟩) (fun r_2 hw_1 => ?_)
  have hw_1 := hw_1.symm
  subst hw_1
  refine lv_astore_n (lv' := [(3, .ref s2), (0, .ref q), (1, .int (nI 2)), (2, .int (nI k))]) hx hb dX7_rank_5 rfl hl (by decide) rfl (fun ls hl => ?_)
  refine lv_iload_n hx hb dX7_rank_6 rfl (lv_at hl 3 rfl) ?_
  have hPc := hP.sub (ws' := []) [] rfl
  have hKc := hK.sub (tys' := []) [] rfl
  refine va_csv (W.runS (As := [.int (nI k)]) (rest := []) ⟨hx, hb, hml, hown, hts⟩ (c_X7_needNumber l dC dI k (by first | assumption | omega)) (va_cwS 1 hts gX7_rank_X7_needNumber rfl rfl rfl (by decide +kernel) ⟨Nat.le_of_ble_eq_true rfl, Nat.le_of_ble_eq_true rfl⟩) ⟨fun a U g mk q => by obtain ⟨q0, qP, qK⟩ := q; exact ⟨q0, qP, va_K.moved (u := U) (U := U.calling g mk a) (Vm.Alike.refl U.vm) qK⟩, fun U hU hW => ⟨rfl, by rw [hU]; exact hPc, va_K.moved hW.alike hKc⟩⟩ rfl rfl hl.1 rfl (lv_room (Nat.le_of_ble_eq_true rfl)) dX7_rank_7 ⟨Nat.le_of_ble_eq_true rfl, Nat.le_of_ble_eq_true rfl⟩) (fun _ => ?_)
  refine lv_aload_n hx hb dX7_rank_10 rfl (lv_at hl 0 rfl) ?_
  refine va_getN (D := (dC, dI)) (ci := 3) (v := .ref uq) (C := RX3) (T := TX3) (N := 3) hx hb hts (by decide +kernel) hown hK hP 1 rfl rfl 2 (by decide) (va_Nw.use rfl nw0) (fun _ h9 => h9) rfl dX7_rank_11 ?_
  refine lv_iload_n hx hb dX7_rank_14 rfl (lv_at hl 3 rfl) ?_
  have hPc := hP.sub (ws' := [(uq, .inr (1, [.ref bm, .ref bs])), (bm, .inr (0, [.ref am])), (am, .inl (cJ, 64, .inr (.inl fm))), (bs, .inr (0, [.ref ap])), (ap, .inl (cJ, 64, .inr (.inl fs)))]) [7, 8, 9, 10, 11] rfl
  have hKc := hK.sub (tys' := [(cJ, .long)]) [0] rfl
  refine vp_callSi (W.runV (As := [.int (nI k)]) (rest := []) ⟨hx, hb, hml, hown, hts⟩ (c_X1_membersBelow l dC dI uq bm am bs ap cJ fm fs k (by first | assumption | omega)) (cwV 1 hts gX7_rank_X1_membersBelow rfl rfl rfl (by decide +kernel) ⟨Nat.le_of_ble_eq_true rfl, Nat.le_of_ble_eq_true rfl⟩) ⟨fun a U g mk q => by obtain ⟨q0, qP, qK⟩ := q; exact ⟨q0, qP, va_K.moved (u := U) (U := U.calling g mk a) (Vm.Alike.refl U.vm) qK⟩, va_recv hKc hPc (ci := 1) (q0 := 0) rfl rfl, fun U hU hW => ⟨rfl, by rw [hU]; exact hPc, va_K.moved hW.alike hKc⟩⟩ rfl rfl hl.1 rfl (lv_room (Nat.le_of_ble_eq_true rfl)) dX7_rank_15 ⟨Nat.le_of_ble_eq_true rfl, Nat.le_of_ble_eq_true rfl⟩) (fun r_6 hw_5 => ?_)
  subst hw_5
  exact W.iret (v := nI (fb_ct (bo fm) k)) hx hb hr (fun t9 ht hW => ⟨nI (fb_ct (bo fm) k), rfl, rfl, ht⟩) (fun q h => by cases h) dX7_rank_18
set_option maxHeartbeats 4000000 in
set_option maxRecDepth 100000 in
/-- select, set 2 -/
theorem c_X7_select_2 (l : Launch) (dC : Nat → ClassId) (dI : Nat → Nat → Nat) (q : Nat) (s0 : Nat) (s1 : Nat) (s2 : Nat) (tq : Nat) (ca : Nat) (rq : Nat) (rb : Nat) (rd : Nat) (uq : Nat) (bm : Nat) (am : Nat) (bs : Nat) (ap : Nat) (cJ : ClassId) (fm : Nat → Int64) (fs : Nat → Int64) (ft : Nat → Int64) (fc : Nat → Int64) (sm : Int64) (lo : Option Nat) (k : Nat) (hN : NI fm fs ft fc sm lo) (hk : k < fb_ct (bo fm) 4096) : Met l yX7_select wsX7_select ({ frames := 4, cells := 0, slots := 0, locals := 90 }) (va_Pc [.ref q, .int (nI 2), .int (nI k)] (fun U => va_Nw (.fieldLinkNest RX7 38 "SmallNumberSets$NumberSet" "buckets" "LSmallNumberSets$Buckets;" "SmallNumberSets") U ∧ va_P (dC, dI) vwCl [(q, .inr (6, [.ref s0, .ref s1, .ref s2])), (s2, .inr (3, [.ref tq, .ref rq, .ref uq])), (tq, .inr (4, [.ref ca, .long sm, .int (oI lo)])), (ca, .inl (cJ, 64, .inr (.inl fc))), (rq, .inr (5, [.ref rb])), (rb, .inr (0, [.ref rd])), (rd, .inl (cJ, 128, .inr (.inl ft))), (uq, .inr (1, [.ref bm, .ref bs])), (bm, .inr (0, [.ref am])), (am, .inl (cJ, 64, .inr (.inl fm))), (bs, .inr (0, [.ref ap])), (ap, .inl (cJ, 64, .inr (.inl fs)))] U.heap ∧ va_K (dC, dI) vwCl [(cJ, .long)] U)) (vp_Si (fun r => r = oI (kth (bo fm) k 4096))) 0 0 (fun _ => False) := by
  refine Met.ofW (cc := cX7_select) (maxL := 4) (ret := (some .int)) (by decide) rfl ?_
  intro p e s m args below meth c s₁ B hml hv
  obtain ⟨rfl, nw0, hP, hK⟩ := hv
  have hx := B.exec
  have hb := B.bytes
  have hr := B.returns
  have hts := atoms_spec (ws := wsX7_select) B.pre
  have hown : s.vm.findClass RX7 = some m.cls := findClass_of_methodNamed B.named
  have hlocks := B.notSynchronized
  have hP : va_P (dC, dI) vwCl [(q, .inr (6, [.ref s0, .ref s1, .ref s2])), (s2, .inr (3, [.ref tq, .ref rq, .ref uq])), (tq, .inr (4, [.ref ca, .long sm, .int (oI lo)])), (ca, .inl (cJ, 64, .inr (.inl fc))), (rq, .inr (5, [.ref rb])), (rb, .inr (0, [.ref rd])), (rd, .inl (cJ, 128, .inr (.inl ft))), (uq, .inr (1, [.ref bm, .ref bs])), (bm, .inr (0, [.ref am])), (am, .inl (cJ, 64, .inr (.inl fm))), (bs, .inr (0, [.ref ap])), (ap, .inl (cJ, 64, .inr (.inl fs)))] s.heap := hP
  have hl := lv_entry ([.ref q, .int (nI 2), .int (nI k)]) (n := 4) (Nat.le_of_ble_eq_true rfl)
  rw [lg_entry_eq]
  generalize (lg_sl ([.ref q, .int (nI 2), .int (nI k)]) ++ List.replicate (4 - (lg_sl ([.ref q, .int (nI 2), .int (nI k)])).length) Slot.unset).toArray = ls at hl ⊢
  have hl : lv_has ls 4 [(0, .ref q), (1, .int (nI 2)), (2, .int (nI k))] := hl
  have hcb := fb_ct_le (bo fm) 4096
  have hcs := fb_ct_le (bo fs) 4096
  refine lv_aload_n hx hb dX7_select_0 rfl (lv_at hl 0 rfl) ?_
  refine lv_iload_n hx hb dX7_select_1 rfl (lv_at hl 1 rfl) ?_
  have hPc := hP.sub (ws' := [(q, .inr (6, [.ref s0, .ref s1, .ref s2]))]) [0] rfl
  have hKc := hK.sub (tys' := []) [] rfl
  refine va_csr (W.runV (As := [.int (nI 2)]) (rest := []) ⟨hx, hb, hml, hown, hts⟩ (c_X7_chosenSet_2 l dC dI q s0 s1 s2 ) (cwV 1 hts gX7_select_X7_chosenSet rfl rfl rfl (by decide +kernel) ⟨Nat.le_of_ble_eq_true rfl, Nat.le_of_ble_eq_true rfl⟩) ⟨fun a U g mk q => by obtain ⟨q0, qP, qK⟩ := q; exact ⟨q0, qP, va_K.moved (u := U) (U := U.calling g mk a) (Vm.Alike.refl U.vm) qK⟩, va_recv hKc hPc (ci := 6) (q0 := 0) rfl rfl, fun U hU hW => ⟨rfl, by rw [hU]; exact hPc, va_K.moved hW.alike hKc⟩⟩ rfl rfl hl.1 rfl (lv_room (Nat.le_of_ble_eq_true rfl)) dX7_select_2 ⟨Nat.le_of_ble_eq_true rfl, Nat.le_of_ble_eq_true rfl⟩) (fun r_2 hw_1 => ?_)
  have hw_1 := hw_1.symm
  subst hw_1
  refine lv_astore_n (lv' := [(3, .ref s2), (0, .ref q), (1, .int (nI 2)), (2, .int (nI k))]) hx hb dX7_select_5 rfl hl (by decide) rfl (fun ls hl => ?_)
  refine lv_iload_n hx hb dX7_select_6 rfl (lv_at hl 3 rfl) ?_
  refine lv_aload_n hx hb dX7_select_7 rfl (lv_at hl 0 rfl) ?_
  refine va_getN (D := (dC, dI)) (ci := 3) (v := .ref uq) (C := RX3) (T := TX3) (N := 3) hx hb hts (by decide +kernel) hown hK hP 1 rfl rfl 2 (by decide) (va_Nw.use rfl nw0) (fun _ h9 => h9) rfl dX7_select_8 ?_
  have hPc := hP.sub (ws' := [(uq, .inr (1, [.ref bm, .ref bs])), (bm, .inr (0, [.ref am])), (am, .inl (cJ, 64, .inr (.inl fm))), (bs, .inr (0, [.ref ap])), (ap, .inl (cJ, 64, .inr (.inl fs)))]) [7, 8, 9, 10, 11] rfl
  have hKc := hK.sub (tys' := [(cJ, .long)]) [0] rfl
  refine vp_callSi (W.runV (As := []) (rest := [.int (nI k)]) ⟨hx, hb, hml, hown, hts⟩ (c_X1_memberCount l dC dI uq bm am bs ap cJ fm fs ) (cwV 0 hts gX7_select_X1_memberCount rfl rfl rfl (by decide +kernel) ⟨Nat.le_of_ble_eq_true rfl, Nat.le_of_ble_eq_true rfl⟩) ⟨fun a U g mk q => by obtain ⟨q0, qP, qK⟩ := q; exact ⟨q0, qP, va_K.moved (u := U) (U := U.calling g mk a) (Vm.Alike.refl U.vm) qK⟩, va_recv hKc hPc (ci := 1) (q0 := 0) rfl rfl, fun U hU hW => ⟨rfl, by rw [hU]; exact hPc, va_K.moved hW.alike hKc⟩⟩ rfl rfl hl.1 rfl (lv_room (Nat.le_of_ble_eq_true rfl)) dX7_select_11 ⟨Nat.le_of_ble_eq_true rfl, Nat.le_of_ble_eq_true rfl⟩) (fun r_4 hw_3 => ?_)
  subst hw_3
  have hPc := hP.sub (ws' := []) [] rfl
  have hKc := hK.sub (tys' := []) [] rfl
  refine va_csv (W.runS (As := [.int (nI k), .int (nI (fb_ct (bo fm) 4096))]) (rest := []) ⟨hx, hb, hml, hown, hts⟩ (c_X7_needPlace l dC dI k (fb_ct (bo fm) 4096) (by first | assumption | omega) (by first | assumption | omega)) (va_cwS 2 hts gX7_select_X7_needPlace rfl rfl rfl (by decide +kernel) ⟨Nat.le_of_ble_eq_true rfl, Nat.le_of_ble_eq_true rfl⟩) ⟨fun a U g mk q => by obtain ⟨q0, qP, qK⟩ := q; exact ⟨q0, qP, va_K.moved (u := U) (U := U.calling g mk a) (Vm.Alike.refl U.vm) qK⟩, fun U hU hW => ⟨rfl, by rw [hU]; exact hPc, va_K.moved hW.alike hKc⟩⟩ rfl rfl hl.1 rfl (lv_room (Nat.le_of_ble_eq_true rfl)) dX7_select_14 ⟨Nat.le_of_ble_eq_true rfl, Nat.le_of_ble_eq_true rfl⟩) (fun _ => ?_)
  refine lv_aload_n hx hb dX7_select_17 rfl (lv_at hl 0 rfl) ?_
  refine va_getN (D := (dC, dI)) (ci := 3) (v := .ref uq) (C := RX3) (T := TX3) (N := 3) hx hb hts (by decide +kernel) hown hK hP 1 rfl rfl 2 (by decide) (va_Nw.use rfl nw0) (fun _ h9 => h9) rfl dX7_select_18 ?_
  refine lv_iload_n hx hb dX7_select_21 rfl (lv_at hl 3 rfl) ?_
  have hPc := hP.sub (ws' := [(uq, .inr (1, [.ref bm, .ref bs])), (bm, .inr (0, [.ref am])), (am, .inl (cJ, 64, .inr (.inl fm))), (bs, .inr (0, [.ref ap])), (ap, .inl (cJ, 64, .inr (.inl fs)))]) [7, 8, 9, 10, 11] rfl
  have hKc := hK.sub (tys' := [(cJ, .long)]) [0] rfl
  refine vp_callSi (W.runV (As := [.int (nI k)]) (rest := []) ⟨hx, hb, hml, hown, hts⟩ (c_X1_memberAt l dC dI uq bm am bs ap cJ fm fs k (by first | assumption | omega)) (cwV 1 hts gX7_select_X1_memberAt rfl rfl rfl (by decide +kernel) ⟨Nat.le_of_ble_eq_true rfl, Nat.le_of_ble_eq_true rfl⟩) ⟨fun a U g mk q => by obtain ⟨q0, qP, qK⟩ := q; exact ⟨q0, qP, va_K.moved (u := U) (U := U.calling g mk a) (Vm.Alike.refl U.vm) qK⟩, va_recv hKc hPc (ci := 1) (q0 := 0) rfl rfl, fun U hU hW => ⟨rfl, by rw [hU]; exact hPc, va_K.moved hW.alike hKc⟩⟩ rfl rfl hl.1 rfl (lv_room (Nat.le_of_ble_eq_true rfl)) dX7_select_22 ⟨Nat.le_of_ble_eq_true rfl, Nat.le_of_ble_eq_true rfl⟩) (fun r_8 hw_7 => ?_)
  subst hw_7
  exact W.iret (v := oI (kth (bo fm) k 4096)) hx hb hr (fun t9 ht hW => ⟨oI (kth (bo fm) k 4096), rfl, rfl, ht⟩) (fun q h => by cases h) dX7_select_25
set_option maxHeartbeats 4000000 in
set_option maxRecDepth 100000 in
/-- steps, set 2 -/
theorem c_X7_steps_2 (l : Launch) (dC : Nat → ClassId) (dI : Nat → Nat → Nat) (q : Nat) (s0 : Nat) (s1 : Nat) (s2 : Nat) (tq : Nat) (ca : Nat) (rq : Nat) (rb : Nat) (rd : Nat) (uq : Nat) (bm : Nat) (am : Nat) (bs : Nat) (ap : Nat) (cJ : ClassId) (fm : Nat → Int64) (fs : Nat → Int64) (ft : Nat → Int64) (fc : Nat → Int64) (sm : Int64) (lo : Option Nat) (k : Nat) (hN : NI fm fs ft fc sm lo) (hk : k < 4096) : Met l yX7_steps wsX7_steps ({ frames := 5, cells := 0, slots := 0, locals := 107 }) (va_Pc [.ref q, .int (nI 2), .int (nI k)] (fun U => va_Nw (.fieldLinkNest RX7 62 "SmallNumberSets$NumberSet" "tree" "LSmallNumberSets$Tree;" "SmallNumberSets") U ∧ va_P (dC, dI) vwCl [(q, .inr (6, [.ref s0, .ref s1, .ref s2])), (s2, .inr (3, [.ref tq, .ref rq, .ref uq])), (tq, .inr (4, [.ref ca, .long sm, .int (oI lo)])), (ca, .inl (cJ, 64, .inr (.inl fc))), (rq, .inr (5, [.ref rb])), (rb, .inr (0, [.ref rd])), (rd, .inl (cJ, 128, .inr (.inl ft))), (uq, .inr (1, [.ref bm, .ref bs])), (bm, .inr (0, [.ref am])), (am, .inl (cJ, 64, .inr (.inl fm))), (bs, .inr (0, [.ref ap])), (ap, .inl (cJ, 64, .inr (.inl fs)))] U.heap ∧ va_K (dC, dI) vwCl [(cJ, .long)] U)) (vp_Si (fun r => r = nI (stp (bo fm) k))) 0 0 (fun _ => False) := by
  refine Met.ofW (cc := cX7_steps) (maxL := 4) (ret := (some .int)) (by decide) rfl ?_
  intro p e s m args below meth c s₁ B hml hv
  obtain ⟨rfl, nw0, hP, hK⟩ := hv
  have hx := B.exec
  have hb := B.bytes
  have hr := B.returns
  have hts := atoms_spec (ws := wsX7_steps) B.pre
  have hown : s.vm.findClass RX7 = some m.cls := findClass_of_methodNamed B.named
  have hlocks := B.notSynchronized
  have hP : va_P (dC, dI) vwCl [(q, .inr (6, [.ref s0, .ref s1, .ref s2])), (s2, .inr (3, [.ref tq, .ref rq, .ref uq])), (tq, .inr (4, [.ref ca, .long sm, .int (oI lo)])), (ca, .inl (cJ, 64, .inr (.inl fc))), (rq, .inr (5, [.ref rb])), (rb, .inr (0, [.ref rd])), (rd, .inl (cJ, 128, .inr (.inl ft))), (uq, .inr (1, [.ref bm, .ref bs])), (bm, .inr (0, [.ref am])), (am, .inl (cJ, 64, .inr (.inl fm))), (bs, .inr (0, [.ref ap])), (ap, .inl (cJ, 64, .inr (.inl fs)))] s.heap := hP
  have hl := lv_entry ([.ref q, .int (nI 2), .int (nI k)]) (n := 4) (Nat.le_of_ble_eq_true rfl)
  rw [lg_entry_eq]
  generalize (lg_sl ([.ref q, .int (nI 2), .int (nI k)]) ++ List.replicate (4 - (lg_sl ([.ref q, .int (nI 2), .int (nI k)])).length) Slot.unset).toArray = ls at hl ⊢
  have hl : lv_has ls 4 [(0, .ref q), (1, .int (nI 2)), (2, .int (nI k))] := hl
  refine lv_aload_n hx hb dX7_steps_0 rfl (lv_at hl 0 rfl) ?_
  refine lv_iload_n hx hb dX7_steps_1 rfl (lv_at hl 1 rfl) ?_
  have hPc := hP.sub (ws' := [(q, .inr (6, [.ref s0, .ref s1, .ref s2]))]) [0] rfl
  have hKc := hK.sub (tys' := []) [] rfl
  refine va_csr (W.runV (As := [.int (nI 2)]) (rest := []) ⟨hx, hb, hml, hown, hts⟩ (c_X7_chosenSet_2 l dC dI q s0 s1 s2 ) (cwV 1 hts gX7_steps_X7_chosenSet rfl rfl rfl (by decide +kernel) ⟨Nat.le_of_ble_eq_true rfl, Nat.le_of_ble_eq_true rfl⟩) ⟨fun a U g mk q => by obtain ⟨q0, qP, qK⟩ := q; exact ⟨q0, qP, va_K.moved (u := U) (U := U.calling g mk a) (Vm.Alike.refl U.vm) qK⟩, va_recv hKc hPc (ci := 6) (q0 := 0) rfl rfl, fun U hU hW => ⟨rfl, by rw [hU]; exact hPc, va_K.moved hW.alike hKc⟩⟩ rfl rfl hl.1 rfl (lv_room (Nat.le_of_ble_eq_true rfl)) dX7_steps_2 ⟨Nat.le_of_ble_eq_true rfl, Nat.le_of_ble_eq_true rfl⟩) (fun r_2 hw_1 => ?_)
  have hw_1 := hw_1.symm
  subst hw_1
  refine lv_astore_n (lv' := [(3, .ref s2), (0, .ref q), (1, .int (nI 2)), (2, .int (nI k))]) hx hb dX7_steps_5 rfl hl (by decide) rfl (fun ls hl => ?_)
  refine lv_iload_n hx hb dX7_steps_6 rfl (lv_at hl 3 rfl) ?_
  have hPc := hP.sub (ws' := []) [] rfl
  have hKc := hK.sub (tys' := []) [] rfl
  refine va_csv (W.runS (As := [.int (nI k)]) (rest := []) ⟨hx, hb, hml, hown, hts⟩ (c_X7_needNumber l dC dI k (by first | assumption | omega)) (va_cwS 1 hts gX7_steps_X7_needNumber rfl rfl rfl (by decide +kernel) ⟨Nat.le_of_ble_eq_true rfl, Nat.le_of_ble_eq_true rfl⟩) ⟨fun a U g mk q => by obtain ⟨q0, qP, qK⟩ := q; exact ⟨q0, qP, va_K.moved (u := U) (U := U.calling g mk a) (Vm.Alike.refl U.vm) qK⟩, fun U hU hW => ⟨rfl, by rw [hU]; exact hPc, va_K.moved hW.alike hKc⟩⟩ rfl rfl hl.1 rfl (lv_room (Nat.le_of_ble_eq_true rfl)) dX7_steps_7 ⟨Nat.le_of_ble_eq_true rfl, Nat.le_of_ble_eq_true rfl⟩) (fun _ => ?_)
  refine lv_aload_n hx hb dX7_steps_10 rfl (lv_at hl 0 rfl) ?_
  refine va_getN (D := (dC, dI)) (ci := 3) (v := .ref tq) (C := RX3) (T := TX3) (N := 3) hx hb hts (by decide +kernel) hown hK hP 1 rfl rfl 0 (by decide) (va_Nw.use rfl nw0) (fun _ h9 => h9) rfl dX7_steps_11 ?_
  refine lv_iload_n hx hb dX7_steps_14 rfl (lv_at hl 3 rfl) ?_
  have hPc := hP.sub (ws' := [(tq, .inr (4, [.ref ca, .long sm, .int (oI lo)])), (ca, .inl (cJ, 64, .inr (.inl fc)))]) [2, 3] rfl
  have hKc := hK.sub (tys' := [(cJ, .long)]) [0] rfl
  refine vp_callSi (W.runV (As := [.int (nI k)]) (rest := []) ⟨hx, hb, hml, hown, hts⟩ (c_X4_searchLength l dC dI tq ca cJ fc sm lo (bo fm) k hN.2.2 (by first | assumption | omega)) (cwV 1 hts gX7_steps_X4_searchLength rfl rfl rfl (by decide +kernel) ⟨Nat.le_of_ble_eq_true rfl, Nat.le_of_ble_eq_true rfl⟩) ⟨fun a U g mk q => by obtain ⟨q0, qP, qK⟩ := q; exact ⟨q0, qP, va_K.moved (u := U) (U := U.calling g mk a) (Vm.Alike.refl U.vm) qK⟩, va_recv hKc hPc (ci := 4) (q0 := 0) rfl rfl, fun U hU hW => ⟨rfl, by rw [hU]; exact hPc, va_K.moved hW.alike hKc⟩⟩ rfl rfl hl.1 rfl (lv_room (Nat.le_of_ble_eq_true rfl)) dX7_steps_15 ⟨Nat.le_of_ble_eq_true rfl, Nat.le_of_ble_eq_true rfl⟩) (fun r_6 hw_5 => ?_)
  subst hw_5
  exact W.iret (v := nI (stp (bo fm) k)) hx hb hr (fun t9 ht hW => ⟨nI (stp (bo fm) k), rfl, rfl, ht⟩) (fun q h => by cases h) dX7_steps_18
set_option maxHeartbeats 4000000 in
set_option maxRecDepth 100000 in
/-- trees, set 2 -/
theorem c_X7_trees_2 (l : Launch) (dC : Nat → ClassId) (dI : Nat → Nat → Nat) (q : Nat) (s0 : Nat) (s1 : Nat) (s2 : Nat) (tq : Nat) (ca : Nat) (rq : Nat) (rb : Nat) (rd : Nat) (uq : Nat) (bm : Nat) (am : Nat) (bs : Nat) (ap : Nat) (cJ : ClassId) (fm : Nat → Int64) (fs : Nat → Int64) (ft : Nat → Int64) (fc : Nat → Int64) (sm : Int64) (lo : Option Nat) (hN : NI fm fs ft fc sm lo) : Met l yX7_trees wsX7_trees ({ frames := 2, cells := 0, slots := 0, locals := 47 }) (va_Pc [.ref q, .int (nI 2)] (fun U => va_Nw (.fieldLinkNest RX7 62 "SmallNumberSets$NumberSet" "tree" "LSmallNumberSets$Tree;" "SmallNumberSets") U ∧ va_P (dC, dI) vwCl [(q, .inr (6, [.ref s0, .ref s1, .ref s2])), (s2, .inr (3, [.ref tq, .ref rq, .ref uq])), (tq, .inr (4, [.ref ca, .long sm, .int (oI lo)])), (ca, .inl (cJ, 64, .inr (.inl fc))), (rq, .inr (5, [.ref rb])), (rb, .inr (0, [.ref rd])), (rd, .inl (cJ, 128, .inr (.inl ft))), (uq, .inr (1, [.ref bm, .ref bs])), (bm, .inr (0, [.ref am])), (am, .inl (cJ, 64, .inr (.inl fm))), (bs, .inr (0, [.ref ap])), (ap, .inl (cJ, 64, .inr (.inl fs)))] U.heap ∧ va_K (dC, dI) vwCl [(cJ, .long)] U)) (vp_Si (fun r => r = nI (trs (bo fm)))) 0 0 (fun _ => False) := by
  refine Met.ofW (cc := cX7_trees) (maxL := 2) (ret := (some .int)) (by decide) rfl ?_
  intro p e s m args below meth c s₁ B hml hv
  obtain ⟨rfl, nw0, hP, hK⟩ := hv
  have hx := B.exec
  have hb := B.bytes
  have hr := B.returns
  have hts := atoms_spec (ws := wsX7_trees) B.pre
  have hown : s.vm.findClass RX7 = some m.cls := findClass_of_methodNamed B.named
  have hlocks := B.notSynchronized
  have hP : va_P (dC, dI) vwCl [(q, .inr (6, [.ref s0, .ref s1, .ref s2])), (s2, .inr (3, [.ref tq, .ref rq, .ref uq])), (tq, .inr (4, [.ref ca, .long sm, .int (oI lo)])), (ca, .inl (cJ, 64, .inr (.inl fc))), (rq, .inr (5, [.ref rb])), (rb, .inr (0, [.ref rd])), (rd, .inl (cJ, 128, .inr (.inl ft))), (uq, .inr (1, [.ref bm, .ref bs])), (bm, .inr (0, [.ref am])), (am, .inl (cJ, 64, .inr (.inl fm))), (bs, .inr (0, [.ref ap])), (ap, .inl (cJ, 64, .inr (.inl fs)))] s.heap := hP
  have hl := lv_entry ([.ref q, .int (nI 2)]) (n := 2) (Nat.le_of_ble_eq_true rfl)
  rw [lg_entry_eq]
  generalize (lg_sl ([.ref q, .int (nI 2)]) ++ List.replicate (2 - (lg_sl ([.ref q, .int (nI 2)])).length) Slot.unset).toArray = ls at hl ⊢
  have hl : lv_has ls 2 [(0, .ref q), (1, .int (nI 2))] := hl
  refine lv_aload_n hx hb dX7_trees_0 rfl (lv_at hl 0 rfl) ?_
  refine lv_iload_n hx hb dX7_trees_1 rfl (lv_at hl 1 rfl) ?_
  have hPc := hP.sub (ws' := [(q, .inr (6, [.ref s0, .ref s1, .ref s2]))]) [0] rfl
  have hKc := hK.sub (tys' := []) [] rfl
  refine va_csr (W.runV (As := [.int (nI 2)]) (rest := []) ⟨hx, hb, hml, hown, hts⟩ (c_X7_chosenSet_2 l dC dI q s0 s1 s2 ) (cwV 1 hts gX7_trees_X7_chosenSet rfl rfl rfl (by decide +kernel) ⟨Nat.le_of_ble_eq_true rfl, Nat.le_of_ble_eq_true rfl⟩) ⟨fun a U g mk q => by obtain ⟨q0, qP, qK⟩ := q; exact ⟨q0, qP, va_K.moved (u := U) (U := U.calling g mk a) (Vm.Alike.refl U.vm) qK⟩, va_recv hKc hPc (ci := 6) (q0 := 0) rfl rfl, fun U hU hW => ⟨rfl, by rw [hU]; exact hPc, va_K.moved hW.alike hKc⟩⟩ rfl rfl hl.1 rfl (lv_room (Nat.le_of_ble_eq_true rfl)) dX7_trees_2 ⟨Nat.le_of_ble_eq_true rfl, Nat.le_of_ble_eq_true rfl⟩) (fun r_2 hw_1 => ?_)
  have hw_1 := hw_1.symm
  subst hw_1
  refine va_getN (D := (dC, dI)) (ci := 3) (v := .ref tq) (C := RX3) (T := TX3) (N := 3) hx hb hts (by decide +kernel) hown hK hP 1 rfl rfl 0 (by decide) (va_Nw.use rfl nw0) (fun _ h9 => h9) rfl dX7_trees_5 ?_
  have hPc := hP.sub (ws' := [(tq, .inr (4, [.ref ca, .long sm, .int (oI lo)])), (ca, .inl (cJ, 64, .inr (.inl fc)))]) [2, 3] rfl
  have hKc := hK.sub (tys' := [(cJ, .long)]) [0] rfl
  refine vp_callSi (W.runV (As := []) (rest := []) ⟨hx, hb, hml, hown, hts⟩ (c_X4_treeCount l dC dI tq ca cJ fc sm lo (bo fm) hN.2.2) (cwV 0 hts gX7_trees_X4_treeCount rfl rfl rfl (by decide +kernel) ⟨Nat.le_of_ble_eq_true rfl, Nat.le_of_ble_eq_true rfl⟩) ⟨fun a U g mk q => by obtain ⟨q0, qP, qK⟩ := q; exact ⟨q0, qP, va_K.moved (u := U) (U := U.calling g mk a) (Vm.Alike.refl U.vm) qK⟩, va_recv hKc hPc (ci := 4) (q0 := 0) rfl rfl, fun U hU hW => ⟨rfl, by rw [hU]; exact hPc, va_K.moved hW.alike hKc⟩⟩ rfl rfl hl.1 rfl (lv_room (Nat.le_of_ble_eq_true rfl)) dX7_trees_8 ⟨Nat.le_of_ble_eq_true rfl, Nat.le_of_ble_eq_true rfl⟩) (fun r_4 hw_3 => ?_)
  subst hw_3
  exact W.iret (v := nI (trs (bo fm))) hx hb hr (fun t9 ht hW => ⟨nI (trs (bo fm)), rfl, rfl, ht⟩) (fun q h => by cases h) dX7_trees_11
set_option maxHeartbeats 4000000 in
set_option maxRecDepth 100000 in
/-- clusterMinimum, set 2 -/
theorem c_X7_clusterMinimum_2 (l : Launch) (dC : Nat → ClassId) (dI : Nat → Nat → Nat) (q : Nat) (s0 : Nat) (s1 : Nat) (s2 : Nat) (tq : Nat) (ca : Nat) (rq : Nat) (rb : Nat) (rd : Nat) (uq : Nat) (bm : Nat) (am : Nat) (bs : Nat) (ap : Nat) (cJ : ClassId) (fm : Nat → Int64) (fs : Nat → Int64) (ft : Nat → Int64) (fc : Nat → Int64) (sm : Int64) (lo : Option Nat) (k : Nat) (hN : NI fm fs ft fc sm lo) (hk : k < 64) : Met l yX7_clusterMinimum wsX7_clusterMinimum ({ frames := 2, cells := 0, slots := 0, locals := 42 }) (va_Pc [.ref q, .int (nI 2), .int (nI k)] (fun U => va_Nw (.fieldLinkNest RX7 62 "SmallNumberSets$NumberSet" "tree" "LSmallNumberSets$Tree;" "SmallNumberSets") U ∧ va_P (dC, dI) vwCl [(q, .inr (6, [.ref s0, .ref s1, .ref s2])), (s2, .inr (3, [.ref tq, .ref rq, .ref uq])), (tq, .inr (4, [.ref ca, .long sm, .int (oI lo)])), (ca, .inl (cJ, 64, .inr (.inl fc))), (rq, .inr (5, [.ref rb])), (rb, .inr (0, [.ref rd])), (rd, .inl (cJ, 128, .inr (.inl ft))), (uq, .inr (1, [.ref bm, .ref bs])), (bm, .inr (0, [.ref am])), (am, .inl (cJ, 64, .inr (.inl fm))), (bs, .inr (0, [.ref ap])), (ap, .inl (cJ, 64, .inr (.inl fs)))] U.heap ∧ va_K (dC, dI) vwCl [(cJ, .long)] U)) (vp_Si (fun r => r = oI (fst1 (gb (clw (bo fm) k)) 64))) 0 0 (fun _ => False) := by
  refine Met.ofW (cc := cX7_clusterMinimum) (maxL := 4) (ret := (some .int)) (by decide) rfl ?_
  intro p e s m args below meth c s₁ B hml hv
  obtain ⟨rfl, nw0, hP, hK⟩ := hv
  have hx := B.exec
  have hb := B.bytes
  have hr := B.returns
  have hts := atoms_spec (ws := wsX7_clusterMinimum) B.pre
  have hown : s.vm.findClass RX7 = some m.cls := findClass_of_methodNamed B.named
  have hlocks := B.notSynchronized
  have hP : va_P (dC, dI) vwCl [(q, .inr (6, [.ref s0, .ref s1, .ref s2])), (s2, .inr (3, [.ref tq, .ref rq, .ref uq])), (tq, .inr (4, [.ref ca, .long sm, .int (oI lo)])), (ca, .inl (cJ, 64, .inr (.inl fc))), (rq, .inr (5, [.ref rb])), (rb, .inr (0, [.ref rd])), (rd, .inl (cJ, 128, .inr (.inl ft))), (uq, .inr (1, [.ref bm, .ref bs])), (bm, .inr (0, [.ref am])), (am, .inl (cJ, 64, .inr (.inl fm))), (bs, .inr (0, [.ref ap])), (ap, .inl (cJ, 64, .inr (.inl fs)))] s.heap := hP
  have hl := lv_entry ([.ref q, .int (nI 2), .int (nI k)]) (n := 4) (Nat.le_of_ble_eq_true rfl)
  rw [lg_entry_eq]
  generalize (lg_sl ([.ref q, .int (nI 2), .int (nI k)]) ++ List.replicate (4 - (lg_sl ([.ref q, .int (nI 2), .int (nI k)])).length) Slot.unset).toArray = ls at hl ⊢
  have hl : lv_has ls 4 [(0, .ref q), (1, .int (nI 2)), (2, .int (nI k))] := hl
  refine lv_aload_n hx hb dX7_clusterMinimum_0 rfl (lv_at hl 0 rfl) ?_
  refine lv_iload_n hx hb dX7_clusterMinimum_1 rfl (lv_at hl 1 rfl) ?_
  have hPc := hP.sub (ws' := [(q, .inr (6, [.ref s0, .ref s1, .ref s2]))]) [0] rfl
  have hKc := hK.sub (tys' := []) [] rfl
  refine va_csr (W.runV (As := [.int (nI 2)]) (rest := []) ⟨hx, hb, hml, hown, hts⟩ (c_X7_chosenSet_2 l dC dI q s0 s1 s2 ) (cwV 1 hts gX7_clusterMinimum_X7_chosenSet rfl rfl rfl (by decide +kernel) ⟨Nat.le_of_ble_eq_true rfl, Nat.le_of_ble_eq_true rfl⟩) ⟨fun a U g mk q => by obtain ⟨q0, qP, qK⟩ := q; exact ⟨q0, qP, va_K.moved (u := U) (U := U.calling g mk a) (Vm.Alike.refl U.vm) qK⟩, va_recv hKc hPc (ci := 6) (q0 := 0) rfl rfl, fun U hU hW => ⟨rfl, by rw [hU]; exact hPc, va_K.moved hW.alike hKc⟩⟩ rfl rfl hl.1 rfl (lv_room (Nat.le_of_ble_eq_true rfl)) dX7_clusterMinimum_2 ⟨Nat.le_of_ble_eq_true rfl, Nat.le_of_ble_eq_true rfl⟩) (fun r_2 hw_1 => ?_)
  have hw_1 := hw_1.symm
  subst hw_1
  refine lv_astore_n (lv' := [(3, .ref s2), (0, .ref q), (1, .int (nI 2)), (2, .int (nI k))]) hx hb dX7_clusterMinimum_5 rfl hl (by decide) rfl (fun ls hl => ?_)
  refine lv_iload_n hx hb dX7_clusterMinimum_6 rfl (lv_at hl 3 rfl) ?_
  refine lv_bipush (v := nI 64) hx hb dX7_clusterMinimum_7 (by decide +kernel) ?_
  have hPc := hP.sub (ws' := []) [] rfl
  have hKc := hK.sub (tys' := []) [] rfl
  refine va_csv (W.runS (As := [.int (nI k), .int (nI 64)]) (rest := []) ⟨hx, hb, hml, hown, hts⟩ (c_X7_needPlace l dC dI k 64 (by first | assumption | omega) (by first | assumption | omega)) (va_cwS 2 hts gX7_clusterMinimum_X7_needPlace rfl rfl rfl (by decide +kernel) ⟨Nat.le_of_ble_eq_true rfl, Nat.le_of_ble_eq_true rfl⟩) ⟨fun a U g mk q => by obtain ⟨q0, qP, qK⟩ := q; exact ⟨q0, qP, va_K.moved (u := U) (U := U.calling g mk a) (Vm.Alike.refl U.vm) qK⟩, fun U hU hW => ⟨rfl, by rw [hU]; exact hPc, va_K.moved hW.alike hKc⟩⟩ rfl rfl hl.1 rfl (lv_room (Nat.le_of_ble_eq_true rfl)) dX7_clusterMinimum_9 ⟨Nat.le_of_ble_eq_true rfl, Nat.le_of_ble_eq_true rfl⟩) (fun _ => ?_)
  refine lv_aload_n hx hb dX7_clusterMinimum_12 rfl (lv_at hl 0 rfl) ?_
  refine va_getN (D := (dC, dI)) (ci := 3) (v := .ref tq) (C := RX3) (T := TX3) (N := 3) hx hb hts (by decide +kernel) hown hK hP 1 rfl rfl 0 (by decide) (va_Nw.use rfl nw0) (fun _ h9 => h9) rfl dX7_clusterMinimum_13 ?_
  refine lv_iload_n hx hb dX7_clusterMinimum_16 rfl (lv_at hl 3 rfl) ?_
  have hPc := hP.sub (ws' := [(tq, .inr (4, [.ref ca, .long sm, .int (oI lo)])), (ca, .inl (cJ, 64, .inr (.inl fc)))]) [2, 3] rfl
  have hKc := hK.sub (tys' := [(cJ, .long)]) [0] rfl
  refine vp_callSl (W.runV (As := [.int (nI k)]) (rest := []) ⟨hx, hb, hml, hown, hts⟩ (c_X4_cluster l dC dI tq ca cJ fc sm lo k (by first | assumption | omega)) (cwV 1 hts gX7_clusterMinimum_X4_cluster rfl rfl rfl (by decide +kernel) ⟨Nat.le_of_ble_eq_true rfl, Nat.le_of_ble_eq_true rfl⟩) ⟨fun a U g mk q => by obtain ⟨q0, qP, qK⟩ := q; exact ⟨q0, qP, va_K.moved (u := U) (U := U.calling g mk a) (Vm.Alike.refl U.vm) qK⟩, va_recv hKc hPc (ci := 4) (q0 := 0) rfl rfl, fun U hU hW => ⟨rfl, by rw [hU]; exact hPc, va_K.moved hW.alike hKc⟩⟩ rfl rfl hl.1 rfl (lv_room (Nat.le_of_ble_eq_true rfl)) dX7_clusterMinimum_17 ⟨Nat.le_of_ble_eq_true rfl, Nat.le_of_ble_eq_true rfl⟩) (fun r_6 hw_5 => ?_)
  subst hw_5
  have hPc := hP.sub (ws' := []) [] rfl
  have hKc := hK.sub (tys' := []) [] rfl
  refine vp_callSi (W.runS (As := [.long (fc k)]) (rest := []) ⟨hx, hb, hml, hown, hts⟩ (c_X6_least l dC dI (fc k) ) (va_cwS 1 hts gX7_clusterMinimum_X6_least rfl rfl rfl (by decide +kernel) ⟨Nat.le_of_ble_eq_true rfl, Nat.le_of_ble_eq_true rfl⟩) ⟨fun a U g mk q => by obtain ⟨q0, qP, qK⟩ := q; exact ⟨q0, qP, va_K.moved (u := U) (U := U.calling g mk a) (Vm.Alike.refl U.vm) qK⟩, fun U hU hW => ⟨rfl, by rw [hU]; exact hPc, va_K.moved hW.alike hKc⟩⟩ rfl rfl hl.1 rfl (lv_room (Nat.le_of_ble_eq_true rfl)) dX7_clusterMinimum_20 ⟨Nat.le_of_ble_eq_true rfl, Nat.le_of_ble_eq_true rfl⟩) (fun r_8 hw_7 => ?_)
  subst hw_7
  exact W.iret (v := oI (fst1 (gb (fc k)) 64)) hx hb hr (fun t9 ht hW => ⟨oI (fst1 (gb (fc k)) 64), rfl, by rw [tr_clw hN.2.2 hk], ht⟩) (fun q h => by cases h) dX7_clusterMinimum_23
set_option maxHeartbeats 4000000 in
set_option maxRecDepth 100000 in
/-- clusterMaximum, set 2 -/
theorem c_X7_clusterMaximum_2 (l : Launch) (dC : Nat → ClassId) (dI : Nat → Nat → Nat) (q : Nat) (s0 : Nat) (s1 : Nat) (s2 : Nat) (tq : Nat) (ca : Nat) (rq : Nat) (rb : Nat) (rd : Nat) (uq : Nat) (bm : Nat) (am : Nat) (bs : Nat) (ap : Nat) (cJ : ClassId) (fm : Nat → Int64) (fs : Nat → Int64) (ft : Nat → Int64) (fc : Nat → Int64) (sm : Int64) (lo : Option Nat) (k : Nat) (hN : NI fm fs ft fc sm lo) (hk : k < 64) : Met l yX7_clusterMaximum wsX7_clusterMaximum ({ frames := 2, cells := 0, slots := 0, locals := 44 }) (va_Pc [.ref q, .int (nI 2), .int (nI k)] (fun U => va_Nw (.fieldLinkNest RX7 62 "SmallNumberSets$NumberSet" "tree" "LSmallNumberSets$Tree;" "SmallNumberSets") U ∧ va_P (dC, dI) vwCl [(q, .inr (6, [.ref s0, .ref s1, .ref s2])), (s2, .inr (3, [.ref tq, .ref rq, .ref uq])), (tq, .inr (4, [.ref ca, .long sm, .int (oI lo)])), (ca, .inl (cJ, 64, .inr (.inl fc))), (rq, .inr (5, [.ref rb])), (rb, .inr (0, [.ref rd])), (rd, .inl (cJ, 128, .inr (.inl ft))), (uq, .inr (1, [.ref bm, .ref bs])), (bm, .inr (0, [.ref am])), (am, .inl (cJ, 64, .inr (.inl fm))), (bs, .inr (0, [.ref ap])), (ap, .inl (cJ, 64, .inr (.inl fs)))] U.heap ∧ va_K (dC, dI) vwCl [(cJ, .long)] U)) (vp_Si (fun r => r = oI (lst1 (gb (clw (bo fm) k)) 64))) 0 0 (fun _ => False) := by
  refine Met.ofW (cc := cX7_clusterMaximum) (maxL := 4) (ret := (some .int)) (by decide) rfl ?_
  intro p e s m args below meth c s₁ B hml hv
  obtain ⟨rfl, nw0, hP, hK⟩ := hv
  have hx := B.exec
  have hb := B.bytes
  have hr := B.returns
  have hts := atoms_spec (ws := wsX7_clusterMaximum) B.pre
  have hown : s.vm.findClass RX7 = some m.cls := findClass_of_methodNamed B.named
  have hlocks := B.notSynchronized
  have hP : va_P (dC, dI) vwCl [(q, .inr (6, [.ref s0, .ref s1, .ref s2])), (s2, .inr (3, [.ref tq, .ref rq, .ref uq])), (tq, .inr (4, [.ref ca, .long sm, .int (oI lo)])), (ca, .inl (cJ, 64, .inr (.inl fc))), (rq, .inr (5, [.ref rb])), (rb, .inr (0, [.ref rd])), (rd, .inl (cJ, 128, .inr (.inl ft))), (uq, .inr (1, [.ref bm, .ref bs])), (bm, .inr (0, [.ref am])), (am, .inl (cJ, 64, .inr (.inl fm))), (bs, .inr (0, [.ref ap])), (ap, .inl (cJ, 64, .inr (.inl fs)))] s.heap := hP
  have hl := lv_entry ([.ref q, .int (nI 2), .int (nI k)]) (n := 4) (Nat.le_of_ble_eq_true rfl)
  rw [lg_entry_eq]
  generalize (lg_sl ([.ref q, .int (nI 2), .int (nI k)]) ++ List.replicate (4 - (lg_sl ([.ref q, .int (nI 2), .int (nI k)])).length) Slot.unset).toArray = ls at hl ⊢
  have hl : lv_has ls 4 [(0, .ref q), (1, .int (nI 2)), (2, .int (nI k))] := hl
  refine lv_aload_n hx hb dX7_clusterMaximum_0 rfl (lv_at hl 0 rfl) ?_
  refine lv_iload_n hx hb dX7_clusterMaximum_1 rfl (lv_at hl 1 rfl) ?_
  have hPc := hP.sub (ws' := [(q, .inr (6, [.ref s0, .ref s1, .ref s2]))]) [0] rfl
  have hKc := hK.sub (tys' := []) [] rfl
  refine va_csr (W.runV (As := [.int (nI 2)]) (rest := []) ⟨hx, hb, hml, hown, hts⟩ (c_X7_chosenSet_2 l dC dI q s0 s1 s2 ) (cwV 1 hts gX7_clusterMaximum_X7_chosenSet rfl rfl rfl (by decide +kernel) ⟨Nat.le_of_ble_eq_true rfl, Nat.le_of_ble_eq_true rfl⟩) ⟨fun a U g mk q => by obtain ⟨q0, qP, qK⟩ := q; exact ⟨q0, qP, va_K.moved (u := U) (U := U.calling g mk a) (Vm.Alike.refl U.vm) qK⟩, va_recv hKc hPc (ci := 6) (q0 := 0) rfl rfl, fun U hU hW => ⟨rfl, by rw [hU]; exact hPc, va_K.moved hW.alike hKc⟩⟩ rfl rfl hl.1 rfl (lv_room (Nat.le_of_ble_eq_true rfl)) dX7_clusterMaximum_2 ⟨Nat.le_of_ble_eq_true rfl, Nat.le_of_ble_eq_true rfl⟩) (fun r_2 hw_1 => ?_)
  have hw_1 := hw_1.symm
  subst hw_1
  refine lv_astore_n (lv' := [(3, .ref s2), (0, .ref q), (1, .int (nI 2)), (2, .int (nI k))]) hx hb dX7_clusterMaximum_5 rfl hl (by decide) rfl (fun ls hl => ?_)
  refine lv_iload_n hx hb dX7_clusterMaximum_6 rfl (lv_at hl 3 rfl) ?_
  refine lv_bipush (v := nI 64) hx hb dX7_clusterMaximum_7 (by decide +kernel) ?_
  have hPc := hP.sub (ws' := []) [] rfl
  have hKc := hK.sub (tys' := []) [] rfl
  refine va_csv (W.runS (As := [.int (nI k), .int (nI 64)]) (rest := []) ⟨hx, hb, hml, hown, hts⟩ (c_X7_needPlace l dC dI k 64 (by first | assumption | omega) (by first | assumption | omega)) (va_cwS 2 hts gX7_clusterMaximum_X7_needPlace rfl rfl rfl (by decide +kernel) ⟨Nat.le_of_ble_eq_true rfl, Nat.le_of_ble_eq_true rfl⟩) ⟨fun a U g mk q => by obtain ⟨q0, qP, qK⟩ := q; exact ⟨q0, qP, va_K.moved (u := U) (U := U.calling g mk a) (Vm.Alike.refl U.vm) qK⟩, fun U hU hW => ⟨rfl, by rw [hU]; exact hPc, va_K.moved hW.alike hKc⟩⟩ rfl rfl hl.1 rfl (lv_room (Nat.le_of_ble_eq_true rfl)) dX7_clusterMaximum_9 ⟨Nat.le_of_ble_eq_true rfl, Nat.le_of_ble_eq_true rfl⟩) (fun _ => ?_)
  refine lv_aload_n hx hb dX7_clusterMaximum_12 rfl (lv_at hl 0 rfl) ?_
  refine va_getN (D := (dC, dI)) (ci := 3) (v := .ref tq) (C := RX3) (T := TX3) (N := 3) hx hb hts (by decide +kernel) hown hK hP 1 rfl rfl 0 (by decide) (va_Nw.use rfl nw0) (fun _ h9 => h9) rfl dX7_clusterMaximum_13 ?_
  refine lv_iload_n hx hb dX7_clusterMaximum_16 rfl (lv_at hl 3 rfl) ?_
  have hPc := hP.sub (ws' := [(tq, .inr (4, [.ref ca, .long sm, .int (oI lo)])), (ca, .inl (cJ, 64, .inr (.inl fc)))]) [2, 3] rfl
  have hKc := hK.sub (tys' := [(cJ, .long)]) [0] rfl
  refine vp_callSl (W.runV (As := [.int (nI k)]) (rest := []) ⟨hx, hb, hml, hown, hts⟩ (c_X4_cluster l dC dI tq ca cJ fc sm lo k (by first | assumption | omega)) (cwV 1 hts gX7_clusterMaximum_X4_cluster rfl rfl rfl (by decide +kernel) ⟨Nat.le_of_ble_eq_true rfl, Nat.le_of_ble_eq_true rfl⟩) ⟨fun a U g mk q => by obtain ⟨q0, qP, qK⟩ := q; exact ⟨q0, qP, va_K.moved (u := U) (U := U.calling g mk a) (Vm.Alike.refl U.vm) qK⟩, va_recv hKc hPc (ci := 4) (q0 := 0) rfl rfl, fun U hU hW => ⟨rfl, by rw [hU]; exact hPc, va_K.moved hW.alike hKc⟩⟩ rfl rfl hl.1 rfl (lv_room (Nat.le_of_ble_eq_true rfl)) dX7_clusterMaximum_17 ⟨Nat.le_of_ble_eq_true rfl, Nat.le_of_ble_eq_true rfl⟩) (fun r_6 hw_5 => ?_)
  subst hw_5
  have hPc := hP.sub (ws' := []) [] rfl
  have hKc := hK.sub (tys' := []) [] rfl
  refine vp_callSi (W.runS (As := [.long (fc k)]) (rest := []) ⟨hx, hb, hml, hown, hts⟩ (c_X6_greatest l dC dI (fc k) ) (va_cwS 1 hts gX7_clusterMaximum_X6_greatest rfl rfl rfl (by decide +kernel) ⟨Nat.le_of_ble_eq_true rfl, Nat.le_of_ble_eq_true rfl⟩) ⟨fun a U g mk q => by obtain ⟨q0, qP, qK⟩ := q; exact ⟨q0, qP, va_K.moved (u := U) (U := U.calling g mk a) (Vm.Alike.refl U.vm) qK⟩, fun U hU hW => ⟨rfl, by rw [hU]; exact hPc, va_K.moved hW.alike hKc⟩⟩ rfl rfl hl.1 rfl (lv_room (Nat.le_of_ble_eq_true rfl)) dX7_clusterMaximum_20 ⟨Nat.le_of_ble_eq_true rfl, Nat.le_of_ble_eq_true rfl⟩) (fun r_8 hw_7 => ?_)
  subst hw_7
  exact W.iret (v := oI (lst1 (gb (fc k)) 64)) hx hb hr (fun t9 ht hW => ⟨oI (lst1 (gb (fc k)) 64), rfl, by rw [tr_clw hN.2.2 hk], ht⟩) (fun q h => by cases h) dX7_clusterMaximum_23
set_option maxHeartbeats 4000000 in
set_option maxRecDepth 100000 in
/-- prefixes, set 2 -/
theorem c_X7_prefixes_2 (l : Launch) (dC : Nat → ClassId) (dI : Nat → Nat → Nat) (q : Nat) (s0 : Nat) (s1 : Nat) (s2 : Nat) (tq : Nat) (ca : Nat) (rq : Nat) (rb : Nat) (rd : Nat) (uq : Nat) (bm : Nat) (am : Nat) (bs : Nat) (ap : Nat) (cJ : ClassId) (fm : Nat → Int64) (fs : Nat → Int64) (ft : Nat → Int64) (fc : Nat → Int64) (sm : Int64) (lo : Option Nat) (k : Nat) (hN : NI fm fs ft fc sm lo) (hk : k < 13) : Met l yX7_prefixes wsX7_prefixes ({ frames := 3, cells := 0, slots := 0, locals := 67 }) (va_Pc [.ref q, .int (nI 2), .int (nI k)] (fun U => va_Nw (.fieldLinkNest RX7 112 "SmallNumberSets$NumberSet" "trie" "LSmallNumberSets$Trie;" "SmallNumberSets") U ∧ va_P (dC, dI) vwCl [(q, .inr (6, [.ref s0, .ref s1, .ref s2])), (s2, .inr (3, [.ref tq, .ref rq, .ref uq])), (tq, .inr (4, [.ref ca, .long sm, .int (oI lo)])), (ca, .inl (cJ, 64, .inr (.inl fc))), (rq, .inr (5, [.ref rb])), (rb, .inr (0, [.ref rd])), (rd, .inl (cJ, 128, .inr (.inl ft))), (uq, .inr (1, [.ref bm, .ref bs])), (bm, .inr (0, [.ref am])), (am, .inl (cJ, 64, .inr (.inl fm))), (bs, .inr (0, [.ref ap])), (ap, .inl (cJ, 64, .inr (.inl fs)))] U.heap ∧ va_K (dC, dI) vwCl [(cJ, .long)] U)) (vp_Si (fun r => r = nI (fb_ct (pfx (bo fm) k) (2 ^ k)))) 0 0 (fun _ => False) := by
  refine Met.ofW (cc := cX7_prefixes) (maxL := 4) (ret := (some .int)) (by decide) rfl ?_
  intro p e s m args below meth c s₁ B hml hv
  obtain ⟨rfl, nw0, hP, hK⟩ := hv
  have hx := B.exec
  have hb := B.bytes
  have hr := B.returns
  have hts := atoms_spec (ws := wsX7_prefixes) B.pre
  have hown : s.vm.findClass RX7 = some m.cls := findClass_of_methodNamed B.named
  have hlocks := B.notSynchronized
  have hP : va_P (dC, dI) vwCl [(q, .inr (6, [.ref s0, .ref s1, .ref s2])), (s2, .inr (3, [.ref tq, .ref rq, .ref uq])), (tq, .inr (4, [.ref ca, .long sm, .int (oI lo)])), (ca, .inl (cJ, 64, .inr (.inl fc))), (rq, .inr (5, [.ref rb])), (rb, .inr (0, [.ref rd])), (rd, .inl (cJ, 128, .inr (.inl ft))), (uq, .inr (1, [.ref bm, .ref bs])), (bm, .inr (0, [.ref am])), (am, .inl (cJ, 64, .inr (.inl fm))), (bs, .inr (0, [.ref ap])), (ap, .inl (cJ, 64, .inr (.inl fs)))] s.heap := hP
  have hl := lv_entry ([.ref q, .int (nI 2), .int (nI k)]) (n := 4) (Nat.le_of_ble_eq_true rfl)
  rw [lg_entry_eq]
  generalize (lg_sl ([.ref q, .int (nI 2), .int (nI k)]) ++ List.replicate (4 - (lg_sl ([.ref q, .int (nI 2), .int (nI k)])).length) Slot.unset).toArray = ls at hl ⊢
  have hl : lv_has ls 4 [(0, .ref q), (1, .int (nI 2)), (2, .int (nI k))] := hl
  refine lv_aload_n hx hb dX7_prefixes_0 rfl (lv_at hl 0 rfl) ?_
  refine lv_iload_n hx hb dX7_prefixes_1 rfl (lv_at hl 1 rfl) ?_
  have hPc := hP.sub (ws' := [(q, .inr (6, [.ref s0, .ref s1, .ref s2]))]) [0] rfl
  have hKc := hK.sub (tys' := []) [] rfl
  refine va_csr (W.runV (As := [.int (nI 2)]) (rest := []) ⟨hx, hb, hml, hown, hts⟩ (c_X7_chosenSet_2 l dC dI q s0 s1 s2 ) (cwV 1 hts gX7_prefixes_X7_chosenSet rfl rfl rfl (by decide +kernel) ⟨Nat.le_of_ble_eq_true rfl, Nat.le_of_ble_eq_true rfl⟩) ⟨fun a U g mk q => by obtain ⟨q0, qP, qK⟩ := q; exact ⟨q0, qP, va_K.moved (u := U) (U := U.calling g mk a) (Vm.Alike.refl U.vm) qK⟩, va_recv hKc hPc (ci := 6) (q0 := 0) rfl rfl, fun U hU hW => ⟨rfl, by rw [hU]; exact hPc, va_K.moved hW.alike hKc⟩⟩ rfl rfl hl.1 rfl (lv_room (Nat.le_of_ble_eq_true rfl)) dX7_prefixes_2 ⟨Nat.le_of_ble_eq_true rfl, Nat.le_of_ble_eq_true rfl⟩) (fun r_2 hw_1 => ?_)
  have hw_1 := hw_1.symm
  subst hw_1
  refine lv_astore_n (lv' := [(3, .ref s2), (0, .ref q), (1, .int (nI 2)), (2, .int (nI k))]) hx hb dX7_prefixes_5 rfl hl (by decide) rfl (fun ls hl => ?_)
  refine lv_iload_n hx hb dX7_prefixes_6 rfl (lv_at hl 3 rfl) ?_
  refine lv_bipush (v := nI 13) hx hb dX7_prefixes_7 (by decide +kernel) ?_
  have hPc := hP.sub (ws' := []) [] rfl
  have hKc := hK.sub (tys' := []) [] rfl
  refine va_csv (W.runS (As := [.int (nI k), .int (nI 13)]) (rest := []) ⟨hx, hb, hml, hown, hts⟩ (c_X7_needPlace l dC dI k 13 (by first | assumption | omega) (by first | assumption | omega)) (va_cwS 2 hts gX7_prefixes_X7_needPlace rfl rfl rfl (by decide +kernel) ⟨Nat.le_of_ble_eq_true rfl, Nat.le_of_ble_eq_true rfl⟩) ⟨fun a U g mk q => by obtain ⟨q0, qP, qK⟩ := q; exact ⟨q0, qP, va_K.moved (u := U) (U := U.calling g mk a) (Vm.Alike.refl U.vm) qK⟩, fun U hU hW => ⟨rfl, by rw [hU]; exact hPc, va_K.moved hW.alike hKc⟩⟩ rfl rfl hl.1 rfl (lv_room (Nat.le_of_ble_eq_true rfl)) dX7_prefixes_9 ⟨Nat.le_of_ble_eq_true rfl, Nat.le_of_ble_eq_true rfl⟩) (fun _ => ?_)
  refine lv_aload_n hx hb dX7_prefixes_12 rfl (lv_at hl 0 rfl) ?_
  refine va_getN (D := (dC, dI)) (ci := 3) (v := .ref rq) (C := RX3) (T := TX3) (N := 3) hx hb hts (by decide +kernel) hown hK hP 1 rfl rfl 1 (by decide) (va_Nw.use rfl nw0) (fun _ h9 => h9) rfl dX7_prefixes_13 ?_
  refine lv_iload_n hx hb dX7_prefixes_16 rfl (lv_at hl 3 rfl) ?_
  have hPc := hP.sub (ws' := [(rq, .inr (5, [.ref rb])), (rb, .inr (0, [.ref rd])), (rd, .inl (cJ, 128, .inr (.inl ft)))]) [4, 5, 6] rfl
  have hKc := hK.sub (tys' := [(cJ, .long)]) [0] rfl
  refine vp_callSi (W.runV (As := [.int (nI k)]) (rest := []) ⟨hx, hb, hml, hown, hts⟩ (c_X5_prefixCount l dC dI rq rb rd cJ ft (bo fm) k hN.2.1 (by first | assumption | omega)) (cwV 1 hts gX7_prefixes_X5_prefixCount rfl rfl rfl (by decide +kernel) ⟨Nat.le_of_ble_eq_true rfl, Nat.le_of_ble_eq_true rfl⟩) ⟨fun a U g mk q => by obtain ⟨q0, qP, qK⟩ := q; exact ⟨q0, qP, va_K.moved (u := U) (U := U.calling g mk a) (Vm.Alike.refl U.vm) qK⟩, va_recv hKc hPc (ci := 5) (q0 := 0) rfl rfl, fun U hU hW => ⟨rfl, by rw [hU]; exact hPc, va_K.moved hW.alike hKc⟩⟩ rfl rfl hl.1 rfl (lv_room (Nat.le_of_ble_eq_true rfl)) dX7_prefixes_17 ⟨Nat.le_of_ble_eq_true rfl, Nat.le_of_ble_eq_true rfl⟩) (fun r_6 hw_5 => ?_)
  subst hw_5
  exact W.iret (v := nI (fb_ct (pfx (bo fm) k) (2 ^ k))) hx hb hr (fun t9 ht hW => ⟨nI (fb_ct (pfx (bo fm) k) (2 ^ k)), rfl, rfl, ht⟩) (fun q h => by cases h) dX7_prefixes_20
set_option maxHeartbeats 4000000 in
set_option maxRecDepth 100000 in
/-- longestMatch, set 2 -/
theorem c_X7_longestMatch_2 (l : Launch) (dC : Nat → ClassId) (dI : Nat → Nat → Nat) (q : Nat) (s0 : Nat) (s1 : Nat) (s2 : Nat) (tq : Nat) (ca : Nat) (rq : Nat) (rb : Nat) (rd : Nat) (uq : Nat) (bm : Nat) (am : Nat) (bs : Nat) (ap : Nat) (cJ : ClassId) (fm : Nat → Int64) (fs : Nat → Int64) (ft : Nat → Int64) (fc : Nat → Int64) (sm : Int64) (lo : Option Nat) (k : Nat) (sz : Nat) (hN : NI fm fs ft fc sm lo) (hk : k < 4096) : Met l yX7_longestMatch wsX7_longestMatch ({ frames := 3, cells := 1, slots := 2, locals := 68 }) (va_Pc [.ref q, .int (nI 2), .int (nI k)] (fun U => va_Nw (.fieldLinkNest RX7 112 "SmallNumberSets$NumberSet" "trie" "LSmallNumberSets$Trie;" "SmallNumberSets") U ∧ va_Nw (.fieldLinkNest RX7 125 "SmallNumberSets$MatchSearch" "match" "I" "SmallNumberSets") U ∧ U.heap.size = sz ∧ va_P (dC, dI) vwCl [(q, .inr (6, [.ref s0, .ref s1, .ref s2])), (s2, .inr (3, [.ref tq, .ref rq, .ref uq])), (tq, .inr (4, [.ref ca, .long sm, .int (oI lo)])), (ca, .inl (cJ, 64, .inr (.inl fc))), (rq, .inr (5, [.ref rb])), (rb, .inr (0, [.ref rd])), (rd, .inl (cJ, 128, .inr (.inl ft))), (uq, .inr (1, [.ref bm, .ref bs])), (bm, .inr (0, [.ref am])), (am, .inl (cJ, 64, .inr (.inl fm))), (bs, .inr (0, [.ref ap])), (ap, .inl (cJ, 64, .inr (.inl fs)))] U.heap ∧ va_K (dC, dI) vwCl [(cJ, .long)] U ∧ va_D (fun _ => True) [(q, .inr (6, [.ref s0, .ref s1, .ref s2])), (s2, .inr (3, [.ref tq, .ref rq, .ref uq])), (tq, .inr (4, [.ref ca, .long sm, .int (oI lo)])), (ca, .inl (cJ, 64, .inr (.inl fc))), (rq, .inr (5, [.ref rb])), (rb, .inr (0, [.ref rd])), (rd, .inl (cJ, 128, .inr (.inl ft))), (uq, .inr (1, [.ref bm, .ref bs])), (bm, .inr (0, [.ref am])), (am, .inl (cJ, 64, .inr (.inl fm))), (bs, .inr (0, [.ref ap])), (ap, .inl (cJ, 64, .inr (.inl fs)))])) (va_Qi (fun (r : Int32) (u : Unit) => r = oI (srch (bo fm) k).1) (fun (u : Unit) (t : State) => va_P (dC, dI) vwCl [(q, .inr (6, [.ref s0, .ref s1, .ref s2])), (s2, .inr (3, [.ref tq, .ref rq, .ref uq])), (tq, .inr (4, [.ref ca, .long sm, .int (oI lo)])), (ca, .inl (cJ, 64, .inr (.inl fc))), (rq, .inr (5, [.ref rb])), (rb, .inr (0, [.ref rd])), (rd, .inl (cJ, 128, .inr (.inl ft))), (uq, .inr (1, [.ref bm, .ref bs])), (bm, .inr (0, [.ref am])), (am, .inl (cJ, 64, .inr (.inl fm))), (bs, .inr (0, [.ref ap])), (ap, .inl (cJ, 64, .inr (.inl fs)))] t.heap ∧ va_K (dC, dI) vwCl [(cJ, .long)] t ∧ va_D (va_A [(q, .inr (6, [.ref s0, .ref s1, .ref s2])), (s2, .inr (3, [.ref tq, .ref rq, .ref uq])), (tq, .inr (4, [.ref ca, .long sm, .int (oI lo)])), (ca, .inl (cJ, 64, .inr (.inl fc))), (rq, .inr (5, [.ref rb])), (rb, .inr (0, [.ref rd])), (rd, .inl (cJ, 128, .inr (.inl ft))), (uq, .inr (1, [.ref bm, .ref bs])), (bm, .inr (0, [.ref am])), (am, .inl (cJ, 64, .inr (.inl fm))), (bs, .inr (0, [.ref ap])), (ap, .inl (cJ, 64, .inr (.inl fs)))] sz) [(q, .inr (6, [.ref s0, .ref s1, .ref s2])), (s2, .inr (3, [.ref tq, .ref rq, .ref uq])), (tq, .inr (4, [.ref ca, .long sm, .int (oI lo)])), (ca, .inl (cJ, 64, .inr (.inl fc))), (rq, .inr (5, [.ref rb])), (rb, .inr (0, [.ref rd])), (rd, .inl (cJ, 128, .inr (.inl ft))), (uq, .inr (1, [.ref bm, .ref bs])), (bm, .inr (0, [.ref am])), (am, .inl (cJ, 64, .inr (.inl fm))), (bs, .inr (0, [.ref ap])), (ap, .inl (cJ, 64, .inr (.inl fs)))]) (va_A [(q, .inr (6, [.ref s0, .ref s1, .ref s2])), (s2, .inr (3, [.ref tq, .ref rq, .ref uq])), (tq, .inr (4, [.ref ca, .long sm, .int (oI lo)])), (ca, .inl (cJ, 64, .inr (.inl fc))), (rq, .inr (5, [.ref rb])), (rb, .inr (0, [.ref rd])), (rd, .inl (cJ, 128, .inr (.inl ft))), (uq, .inr (1, [.ref bm, .ref bs])), (bm, .inr (0, [.ref am])), (am, .inl (cJ, 64, .inr (.inl fm))), (bs, .inr (0, [.ref ap])), (ap, .inl (cJ, 64, .inr (.inl fs)))] sz)) 1 2 (va_A [(q, .inr (6, [.ref s0, .ref s1, .ref s2])), (s2, .inr (3, [.ref tq, .ref rq, .ref uq])), (tq, .inr (4, [.ref ca, .long sm, .int (oI lo)])), (ca, .inl (cJ, 64, .inr (.inl fc))), (rq, .inr (5, [.ref rb])), (rb, .inr (0, [.ref rd])), (rd, .inl (cJ, 128, .inr (.inl ft))), (uq, .inr (1, [.ref bm, .ref bs])), (bm, .inr (0, [.ref am])), (am, .inl (cJ, 64, .inr (.inl fm))), (bs, .inr (0, [.ref ap])), (ap, .inl (cJ, 64, .inr (.inl fs)))] sz) := by
  refine Met.ofW (cc := cX7_longestMatch) (maxL := 4) (ret := (some .int)) (by decide) rfl ?_
  intro p e s m args below meth c s₁ B hml hv
  obtain ⟨rfl, nw0, nw1, hsz, hP, hK, hD0⟩ := hv
  have hx := B.exec
  have hb := B.bytes
  have hr := B.returns
  have hts := atoms_spec (ws := wsX7_longestMatch) B.pre
  have hown : s.vm.findClass RX7 = some m.cls := findClass_of_methodNamed B.named
  have hlocks := B.notSynchronized
  subst hsz
  have hD := hD0.self (sz := s.heap.size)
  generalize hAe : va_A [(q, .inr (6, [.ref s0, .ref s1, .ref s2])), (s2, .inr (3, [.ref tq, .ref rq, .ref uq])), (tq, .inr (4, [.ref ca, .long sm, .int (oI lo)])), (ca, .inl (cJ, 64, .inr (.inl fc))), (rq, .inr (5, [.ref rb])), (rb, .inr (0, [.ref rd])), (rd, .inl (cJ, 128, .inr (.inl ft))), (uq, .inr (1, [.ref bm, .ref bs])), (bm, .inr (0, [.ref am])), (am, .inl (cJ, 64, .inr (.inl fm))), (bs, .inr (0, [.ref ap])), (ap, .inl (cJ, 64, .inr (.inl fs)))] s.heap.size = A at hD ⊢
  have hA : ∀ q : Nat, s.heap.size ≤ q → A q := fun q h => by rw [← hAe]; exact Or.inr h
  have hS : va_S A s.heap s.heap [] := va_S.rf
  have hP : va_P (dC, dI) vwCl [(q, .inr (6, [.ref s0, .ref s1, .ref s2])), (s2, .inr (3, [.ref tq, .ref rq, .ref uq])), (tq, .inr (4, [.ref ca, .long sm, .int (oI lo)])), (ca, .inl (cJ, 64, .inr (.inl fc))), (rq, .inr (5, [.ref rb])), (rb, .inr (0, [.ref rd])), (rd, .inl (cJ, 128, .inr (.inl ft))), (uq, .inr (1, [.ref bm, .ref bs])), (bm, .inr (0, [.ref am])), (am, .inl (cJ, 64, .inr (.inl fm))), (bs, .inr (0, [.ref ap])), (ap, .inl (cJ, 64, .inr (.inl fs)))] s.heap := hP
  have hl := lv_entry ([.ref q, .int (nI 2), .int (nI k)]) (n := 4) (Nat.le_of_ble_eq_true rfl)
  rw [lg_entry_eq]
  generalize (lg_sl ([.ref q, .int (nI 2), .int (nI k)]) ++ List.replicate (4 - (lg_sl ([.ref q, .int (nI 2), .int (nI k)])).length) Slot.unset).toArray = ls at hl ⊢
  have hl : lv_has ls 4 [(0, .ref q), (1, .int (nI 2)), (2, .int (nI k))] := hl
  refine lv_aload_n hx hb dX7_longestMatch_0 rfl (lv_at hl 0 rfl) ?_
  refine lv_iload_n hx hb dX7_longestMatch_1 rfl (lv_at hl 1 rfl) ?_
  have hPc := hP.sub (ws' := [(q, .inr (6, [.ref s0, .ref s1, .ref s2]))]) [0] rfl
  have hKc := hK.sub (tys' := []) [] rfl
  refine va_csr (W.runV (As := [.int (nI 2)]) (rest := []) ⟨hx, hb, hml, hown, hts⟩ (c_X7_chosenSet_2 l dC dI q s0 s1 s2 ) (cwV 1 hts gX7_longestMatch_X7_chosenSet rfl rfl rfl (by decide +kernel) ⟨Nat.le_of_ble_eq_true rfl, Nat.le_of_ble_eq_true rfl⟩) ⟨fun a U g mk q => by obtain ⟨q0, qP, qK⟩ := q; exact ⟨q0, qP, va_K.moved (u := U) (U := U.calling g mk a) (Vm.Alike.refl U.vm) qK⟩, va_recv hKc hPc (ci := 6) (q0 := 0) rfl rfl, fun U hU hW => ⟨rfl, by rw [hU]; exact hPc, va_K.moved hW.alike hKc⟩⟩ rfl rfl hl.1 rfl (lv_room (Nat.le_of_ble_eq_true rfl)) dX7_longestMatch_2 ⟨Nat.le_of_ble_eq_true rfl, Nat.le_of_ble_eq_true rfl⟩) (fun r_2 hw_1 => ?_)
  have hw_1 := hw_1.symm
  subst hw_1
  refine lv_astore_n (lv' := [(3, .ref s2), (0, .ref q), (1, .int (nI 2)), (2, .int (nI k))]) hx hb dX7_longestMatch_5 rfl hl (by decide) rfl (fun ls hl => ?_)
  refine lv_iload_n hx hb dX7_longestMatch_6 rfl (lv_at hl 3 rfl) ?_
  have hPc := hP.sub (ws' := []) [] rfl
  have hKc := hK.sub (tys' := []) [] rfl
  refine va_csv (W.runS (As := [.int (nI k)]) (rest := []) ⟨hx, hb, hml, hown, hts⟩ (c_X7_needNumber l dC dI k (by first | assumption | omega)) (va_cwS 1 hts gX7_longestMatch_X7_needNumber rfl rfl rfl (by decide +kernel) ⟨Nat.le_of_ble_eq_true rfl, Nat.le_of_ble_eq_true rfl⟩) ⟨fun a U g mk q => by obtain ⟨q0, qP, qK⟩ := q; exact ⟨q0, qP, va_K.moved (u := U) (U := U.calling g mk a) (Vm.Alike.refl U.vm) qK⟩, fun U hU hW => ⟨rfl, by rw [hU]; exact hPc, va_K.moved hW.alike hKc⟩⟩ rfl rfl hl.1 rfl (lv_room (Nat.le_of_ble_eq_true rfl)) dX7_longestMatch_7 ⟨Nat.le_of_ble_eq_true rfl, Nat.le_of_ble_eq_true rfl⟩) (fun _ => ?_)
  refine lv_aload_n hx hb dX7_longestMatch_10 rfl (lv_at hl 0 rfl) ?_
  refine va_getN (D := (dC, dI)) (ci := 3) (v := .ref rq) (C := RX3) (T := TX3) (N := 3) hx hb hts (by decide +kernel) hown hK hP 1 rfl rfl 1 (by decide) (va_Nw.use rfl nw0) (fun _ h9 => h9) rfl dX7_longestMatch_11 ?_
  refine lv_iload_n hx hb dX7_longestMatch_14 rfl (lv_at hl 3 rfl) ?_
  have hPc := hP.sub (ws' := [(rq, .inr (5, [.ref rb])), (rb, .inr (0, [.ref rd])), (rd, .inl (cJ, 128, .inr (.inl ft)))]) [4, 5, 6] rfl
  have hKc := hK.sub (tys' := [(cJ, .long)]) [0] rfl
  have hDc := hD.sub (ws' := [(rq, .inr (5, [.ref rb])), (rb, .inr (0, [.ref rd])), (rd, .inl (cJ, 128, .inr (.inl ft)))]) [4, 5, 6] (by decide) rfl
  have hFc := va_free (wc := [(rq, .inr (5, [.ref rb])), (rb, .inr (0, [.ref rd])), (rd, .inl (cJ, 128, .inr (.inl ft)))]) hD hS hA [4, 5, 6] rfl
  refine va_callr (va_runV (As := [.int (nI k)]) (rest := []) ⟨hx, hb, hml, hown, hts⟩ (c_X5_search l dC dI rq rb rd cJ ft (bo fm) k s.heap.size hN.2.1 (by first | assumption | omega)) (cwV 1 hts gX7_longestMatch_X5_search rfl rfl rfl (by decide +kernel) ⟨Nat.le_of_ble_eq_true rfl, Nat.le_of_ble_eq_true rfl⟩) ⟨fun a U g mk q => by obtain ⟨q0, q1, qP, qK, qD⟩ := q; exact ⟨q0, q1, qP, va_K.moved (u := U) (U := U.calling g mk a) (Vm.Alike.refl U.vm) qK, qD⟩, va_recv hKc hPc (ci := 5) (q0 := 0) rfl rfl, fun U hU hW => ⟨rfl, by rw [hU], by rw [hU]; exact hPc, va_K.moved hW.alike hKc, hDc.weaken (fun _ _ _ _ => trivial)⟩⟩ rfl rfl hl.1 rfl (lv_room (Nat.le_of_ble_eq_true rfl)) dX7_longestMatch_15 ⟨Nat.le_of_ble_eq_true rfl, Nat.le_of_ble_eq_true rfl⟩) hS (fun q _ h => hFc q h) hFc (fun u_6 r_7 t9 H1 locs ht hvm hw_5 hB hz1 hk1 hS => ?_)
  obtain ⟨mt_8, pb_9⟩ := u_6
  obtain ⟨hP1, hK1, hD1⟩ := hB
  rw [ht] at hP1
  have hK1 := va_K.moved hvm.symm hK1
  try dsimp only at hw_5 hP1 hK1 hD1
  obtain ⟨hP, hD⟩ := va_join (wr := [(q, .inr (6, [.ref s0, .ref s1, .ref s2])), (s2, .inr (3, [.ref tq, .ref rq, .ref uq])), (tq, .inr (4, [.ref ca, .long sm, .int (oI lo)])), (ca, .inl (cJ, 64, .inr (.inl fc))), (uq, .inr (1, [.ref bm, .ref bs])), (bm, .inr (0, [.ref am])), (am, .inl (cJ, 64, .inr (.inl fm))), (bs, .inr (0, [.ref ap])), (ap, .inl (cJ, 64, .inr (.inl fs)))]) (w1 := [(rq, .inr (5, [.ref rb])), (rb, .inr (0, [.ref rd])), (rd, .inl (cJ, 128, .inr (.inl ft))), (r_7, .inr (2, [.int (oI mt_8), .int (nI pb_9)]))]) hP hD [4, 5, 6] [0, 1, 2, 3, 7, 8, 9, 10, 11] rfl rfl (by decide) (by decide) hk1 hFc hP1 hD1
  generalize H1 = H at hP hS ⊢
  have hP : va_P (dC, dI) vwCl [(q, .inr (6, [.ref s0, .ref s1, .ref s2])), (s2, .inr (3, [.ref tq, .ref rq, .ref uq])), (tq, .inr (4, [.ref ca, .long sm, .int (oI lo)])), (ca, .inl (cJ, 64, .inr (.inl fc))), (uq, .inr (1, [.ref bm, .ref bs])), (bm, .inr (0, [.ref am])), (am, .inl (cJ, 64, .inr (.inl fm))), (bs, .inr (0, [.ref ap])), (ap, .inl (cJ, 64, .inr (.inl fs))), (rq, .inr (5, [.ref rb])), (rb, .inr (0, [.ref rd])), (rd, .inl (cJ, 128, .inr (.inl ft))), (r_7, .inr (2, [.int (oI mt_8), .int (nI pb_9)]))] H := hP
  have hD : va_D A [(q, .inr (6, [.ref s0, .ref s1, .ref s2])), (s2, .inr (3, [.ref tq, .ref rq, .ref uq])), (tq, .inr (4, [.ref ca, .long sm, .int (oI lo)])), (ca, .inl (cJ, 64, .inr (.inl fc))), (uq, .inr (1, [.ref bm, .ref bs])), (bm, .inr (0, [.ref am])), (am, .inl (cJ, 64, .inr (.inl fm))), (bs, .inr (0, [.ref ap])), (ap, .inl (cJ, 64, .inr (.inl fs))), (rq, .inr (5, [.ref rb])), (rb, .inr (0, [.ref rd])), (rd, .inl (cJ, 128, .inr (.inl ft))), (r_7, .inr (2, [.int (oI mt_8), .int (nI pb_9)]))] := hD
  refine W.cs (cells' := 1) (slots' := 2) rfl rfl ?_
  refine va_getN (D := (dC, dI)) (ci := 2) (v := .int (oI mt_8)) (C := RX2) (T := TX2) (N := 2) hx hb hts (by decide +kernel) hown hK hP 12 rfl rfl 0 (by decide) (va_Nw.use rfl nw1) (fun _ h9 => h9) rfl dX7_longestMatch_18 ?_
  have hP9 := hP.sub (ws' := [(q, .inr (6, [.ref s0, .ref s1, .ref s2])), (s2, .inr (3, [.ref tq, .ref rq, .ref uq])), (tq, .inr (4, [.ref ca, .long sm, .int (oI lo)])), (ca, .inl (cJ, 64, .inr (.inl fc))), (rq, .inr (5, [.ref rb])), (rb, .inr (0, [.ref rd])), (rd, .inl (cJ, 128, .inr (.inl ft))), (uq, .inr (1, [.ref bm, .ref bs])), (bm, .inr (0, [.ref am])), (am, .inl (cJ, 64, .inr (.inl fm))), (bs, .inr (0, [.ref ap])), (ap, .inl (cJ, 64, .inr (.inl fs)))]) [0, 1, 2, 3, 9, 10, 11, 4, 5, 6, 7, 8] rfl
  have hD9 := hD.sub (ws' := [(q, .inr (6, [.ref s0, .ref s1, .ref s2])), (s2, .inr (3, [.ref tq, .ref rq, .ref uq])), (tq, .inr (4, [.ref ca, .long sm, .int (oI lo)])), (ca, .inl (cJ, 64, .inr (.inl fc))), (rq, .inr (5, [.ref rb])), (rb, .inr (0, [.ref rd])), (rd, .inl (cJ, 128, .inr (.inl ft))), (uq, .inr (1, [.ref bm, .ref bs])), (bm, .inr (0, [.ref am])), (am, .inl (cJ, 64, .inr (.inl fm))), (bs, .inr (0, [.ref ap])), (ap, .inl (cJ, 64, .inr (.inl fs)))]) [0, 1, 2, 3, 9, 10, 11, 4, 5, 6, 7, 8] (by decide) rfl
  have hK9 := hK.sub (tys' := [(cJ, .long)]) [0] rfl
  exact W.iret (v := oI mt_8) hx hb hr (fun t9 ht hW => ⟨⟨oI mt_8, (), rfl, by rw [← hw_5], by rw [ht]; exact hP9, va_K.moved hW.alike hK9, hD9⟩, hS.F ht⟩) hS.2.2 dX7_longestMatch_21
set_option maxHeartbeats 4000000 in
set_option maxRecDepth 100000 in
/-- probes, set 2 -/
theorem c_X7_probes_2 (l : Launch) (dC : Nat → ClassId) (dI : Nat → Nat → Nat) (q : Nat) (s0 : Nat) (s1 : Nat) (s2 : Nat) (tq : Nat) (ca : Nat) (rq : Nat) (rb : Nat) (rd : Nat) (uq : Nat) (bm : Nat) (am : Nat) (bs : Nat) (ap : Nat) (cJ : ClassId) (fm : Nat → Int64) (fs : Nat → Int64) (ft : Nat → Int64) (fc : Nat → Int64) (sm : Int64) (lo : Option Nat) (k : Nat) (sz : Nat) (hN : NI fm fs ft fc sm lo) (hk : k < 4096) : Met l yX7_probes wsX7_probes ({ frames := 3, cells := 1, slots := 2, locals := 68 }) (va_Pc [.ref q, .int (nI 2), .int (nI k)] (fun U => va_Nw (.fieldLinkNest RX7 112 "SmallNumberSets$NumberSet" "trie" "LSmallNumberSets$Trie;" "SmallNumberSets") U ∧ va_Nw (.fieldLinkNest RX7 131 "SmallNumberSets$MatchSearch" "probed" "I" "SmallNumberSets") U ∧ U.heap.size = sz ∧ va_P (dC, dI) vwCl [(q, .inr (6, [.ref s0, .ref s1, .ref s2])), (s2, .inr (3, [.ref tq, .ref rq, .ref uq])), (tq, .inr (4, [.ref ca, .long sm, .int (oI lo)])), (ca, .inl (cJ, 64, .inr (.inl fc))), (rq, .inr (5, [.ref rb])), (rb, .inr (0, [.ref rd])), (rd, .inl (cJ, 128, .inr (.inl ft))), (uq, .inr (1, [.ref bm, .ref bs])), (bm, .inr (0, [.ref am])), (am, .inl (cJ, 64, .inr (.inl fm))), (bs, .inr (0, [.ref ap])), (ap, .inl (cJ, 64, .inr (.inl fs)))] U.heap ∧ va_K (dC, dI) vwCl [(cJ, .long)] U ∧ va_D (fun _ => True) [(q, .inr (6, [.ref s0, .ref s1, .ref s2])), (s2, .inr (3, [.ref tq, .ref rq, .ref uq])), (tq, .inr (4, [.ref ca, .long sm, .int (oI lo)])), (ca, .inl (cJ, 64, .inr (.inl fc))), (rq, .inr (5, [.ref rb])), (rb, .inr (0, [.ref rd])), (rd, .inl (cJ, 128, .inr (.inl ft))), (uq, .inr (1, [.ref bm, .ref bs])), (bm, .inr (0, [.ref am])), (am, .inl (cJ, 64, .inr (.inl fm))), (bs, .inr (0, [.ref ap])), (ap, .inl (cJ, 64, .inr (.inl fs)))])) (va_Qi (fun (r : Int32) (u : Unit) => r = nI (srch (bo fm) k).2) (fun (u : Unit) (t : State) => va_P (dC, dI) vwCl [(q, .inr (6, [.ref s0, .ref s1, .ref s2])), (s2, .inr (3, [.ref tq, .ref rq, .ref uq])), (tq, .inr (4, [.ref ca, .long sm, .int (oI lo)])), (ca, .inl (cJ, 64, .inr (.inl fc))), (rq, .inr (5, [.ref rb])), (rb, .inr (0, [.ref rd])), (rd, .inl (cJ, 128, .inr (.inl ft))), (uq, .inr (1, [.ref bm, .ref bs])), (bm, .inr (0, [.ref am])), (am, .inl (cJ, 64, .inr (.inl fm))), (bs, .inr (0, [.ref ap])), (ap, .inl (cJ, 64, .inr (.inl fs)))] t.heap ∧ va_K (dC, dI) vwCl [(cJ, .long)] t ∧ va_D (va_A [(q, .inr (6, [.ref s0, .ref s1, .ref s2])), (s2, .inr (3, [.ref tq, .ref rq, .ref uq])), (tq, .inr (4, [.ref ca, .long sm, .int (oI lo)])), (ca, .inl (cJ, 64, .inr (.inl fc))), (rq, .inr (5, [.ref rb])), (rb, .inr (0, [.ref rd])), (rd, .inl (cJ, 128, .inr (.inl ft))), (uq, .inr (1, [.ref bm, .ref bs])), (bm, .inr (0, [.ref am])), (am, .inl (cJ, 64, .inr (.inl fm))), (bs, .inr (0, [.ref ap])), (ap, .inl (cJ, 64, .inr (.inl fs)))] sz) [(q, .inr (6, [.ref s0, .ref s1, .ref s2])), (s2, .inr (3, [.ref tq, .ref rq, .ref uq])), (tq, .inr (4, [.ref ca, .long sm, .int (oI lo)])), (ca, .inl (cJ, 64, .inr (.inl fc))), (rq, .inr (5, [.ref rb])), (rb, .inr (0, [.ref rd])), (rd, .inl (cJ, 128, .inr (.inl ft))), (uq, .inr (1, [.ref bm, .ref bs])), (bm, .inr (0, [.ref am])), (am, .inl (cJ, 64, .inr (.inl fm))), (bs, .inr (0, [.ref ap])), (ap, .inl (cJ, 64, .inr (.inl fs)))]) (va_A [(q, .inr (6, [.ref s0, .ref s1, .ref s2])), (s2, .inr (3, [.ref tq, .ref rq, .ref uq])), (tq, .inr (4, [.ref ca, .long sm, .int (oI lo)])), (ca, .inl (cJ, 64, .inr (.inl fc))), (rq, .inr (5, [.ref rb])), (rb, .inr (0, [.ref rd])), (rd, .inl (cJ, 128, .inr (.inl ft))), (uq, .inr (1, [.ref bm, .ref bs])), (bm, .inr (0, [.ref am])), (am, .inl (cJ, 64, .inr (.inl fm))), (bs, .inr (0, [.ref ap])), (ap, .inl (cJ, 64, .inr (.inl fs)))] sz)) 1 2 (va_A [(q, .inr (6, [.ref s0, .ref s1, .ref s2])), (s2, .inr (3, [.ref tq, .ref rq, .ref uq])), (tq, .inr (4, [.ref ca, .long sm, .int (oI lo)])), (ca, .inl (cJ, 64, .inr (.inl fc))), (rq, .inr (5, [.ref rb])), (rb, .inr (0, [.ref rd])), (rd, .inl (cJ, 128, .inr (.inl ft))), (uq, .inr (1, [.ref bm, .ref bs])), (bm, .inr (0, [.ref am])), (am, .inl (cJ, 64, .inr (.inl fm))), (bs, .inr (0, [.ref ap])), (ap, .inl (cJ, 64, .inr (.inl fs)))] sz) := by
  refine Met.ofW (cc := cX7_probes) (maxL := 4) (ret := (some .int)) (by decide) rfl ?_
  intro p e s m args below meth c s₁ B hml hv
  obtain ⟨rfl, nw0, nw1, hsz, hP, hK, hD0⟩ := hv
  have hx := B.exec
  have hb := B.bytes
  have hr := B.returns
  have hts := atoms_spec (ws := wsX7_probes) B.pre
  have hown : s.vm.findClass RX7 = some m.cls := findClass_of_methodNamed B.named
  have hlocks := B.notSynchronized
  subst hsz
  have hD := hD0.self (sz := s.heap.size)
  generalize hAe : va_A [(q, .inr (6, [.ref s0, .ref s1, .ref s2])), (s2, .inr (3, [.ref tq, .ref rq, .ref uq])), (tq, .inr (4, [.ref ca, .long sm, .int (oI lo)])), (ca, .inl (cJ, 64, .inr (.inl fc))), (rq, .inr (5, [.ref rb])), (rb, .inr (0, [.ref rd])), (rd, .inl (cJ, 128, .inr (.inl ft))), (uq, .inr (1, [.ref bm, .ref bs])), (bm, .inr (0, [.ref am])), (am, .inl (cJ, 64, .inr (.inl fm))), (bs, .inr (0, [.ref ap])), (ap, .inl (cJ, 64, .inr (.inl fs)))] s.heap.size = A at hD ⊢
  have hA : ∀ q : Nat, s.heap.size ≤ q → A q := fun q h => by rw [← hAe]; exact Or.inr h
  have hS : va_S A s.heap s.heap [] := va_S.rf
  have hP : va_P (dC, dI) vwCl [(q, .inr (6, [.ref s0, .ref s1, .ref s2])), (s2, .inr (3, [.ref tq, .ref rq, .ref uq])), (tq, .inr (4, [.ref ca, .long sm, .int (oI lo)])), (ca, .inl (cJ, 64, .inr (.inl fc))), (rq, .inr (5, [.ref rb])), (rb, .inr (0, [.ref rd])), (rd, .inl (cJ, 128, .inr (.inl ft))), (uq, .inr (1, [.ref bm, .ref bs])), (bm, .inr (0, [.ref am])), (am, .inl (cJ, 64, .inr (.inl fm))), (bs, .inr (0, [.ref ap])), (ap, .inl (cJ, 64, .inr (.inl fs)))] s.heap := hP
  have hl := lv_entry ([.ref q, .int (nI 2), .int (nI k)]) (n := 4) (Nat.le_of_ble_eq_true rfl)
  rw [lg_entry_eq]
  generalize (lg_sl ([.ref q, .int (nI 2), .int (nI k)]) ++ List.replicate (4 - (lg_sl ([.ref q, .int (nI 2), .int (nI k)])).length) Slot.unset).toArray = ls at hl ⊢
  have hl : lv_has ls 4 [(0, .ref q), (1, .int (nI 2)), (2, .int (nI k))] := hl
  refine lv_aload_n hx hb dX7_probes_0 rfl (lv_at hl 0 rfl) ?_
  refine lv_iload_n hx hb dX7_probes_1 rfl (lv_at hl 1 rfl) ?_
  have hPc := hP.sub (ws' := [(q, .inr (6, [.ref s0, .ref s1, .ref s2]))]) [0] rfl
  have hKc := hK.sub (tys' := []) [] rfl
  refine va_csr (W.runV (As := [.int (nI 2)]) (rest := []) ⟨hx, hb, hml, hown, hts⟩ (c_X7_chosenSet_2 l dC dI q s0 s1 s2 ) (cwV 1 hts gX7_probes_X7_chosenSet rfl rfl rfl (by decide +kernel) ⟨Nat.le_of_ble_eq_true rfl, Nat.le_of_ble_eq_true rfl⟩) ⟨fun a U g mk q => by obtain ⟨q0, qP, qK⟩ := q; exact ⟨q0, qP, va_K.moved (u := U) (U := U.calling g mk a) (Vm.Alike.refl U.vm) qK⟩, va_recv hKc hPc (ci := 6) (q0 := 0) rfl rfl, fun U hU hW => ⟨rfl, by rw [hU]; exact hPc, va_K.moved hW.alike hKc⟩⟩ rfl rfl hl.1 rfl (lv_room (Nat.le_of_ble_eq_true rfl)) dX7_probes_2 ⟨Nat.le_of_ble_eq_true rfl, Nat.le_of_ble_eq_true rfl⟩) (fun r_2 hw_1 => ?_)
  have hw_1 := hw_1.symm
  subst hw_1
  refine lv_astore_n (lv' := [(3, .ref s2), (0, .ref q), (1, .int (nI 2)), (2, .int (nI k))]) hx hb dX7_probes_5 rfl hl (by decide) rfl (fun ls hl => ?_)
  refine lv_iload_n hx hb dX7_probes_6 rfl (lv_at hl 3 rfl) ?_
  have hPc := hP.sub (ws' := []) [] rfl
  have hKc := hK.sub (tys' := []) [] rfl
  refine va_csv (W.runS (As := [.int (nI k)]) (rest := []) ⟨hx, hb, hml, hown, hts⟩ (c_X7_needNumber l dC dI k (by first | assumption | omega)) (va_cwS 1 hts gX7_probes_X7_needNumber rfl rfl rfl (by decide +kernel) ⟨Nat.le_of_ble_eq_true rfl, Nat.le_of_ble_eq_true rfl⟩) ⟨fun a U g mk q => by obtain ⟨q0, qP, qK⟩ := q; exact ⟨q0, qP, va_K.moved (u := U) (U := U.calling g mk a) (Vm.Alike.refl U.vm) qK⟩, fun U hU hW => ⟨rfl, by rw [hU]; exact hPc, va_K.moved hW.alike hKc⟩⟩ rfl rfl hl.1 rfl (lv_room (Nat.le_of_ble_eq_true rfl)) dX7_probes_7 ⟨Nat.le_of_ble_eq_true rfl, Nat.le_of_ble_eq_true rfl⟩) (fun _ => ?_)
  refine lv_aload_n hx hb dX7_probes_10 rfl (lv_at hl 0 rfl) ?_
  refine va_getN (D := (dC, dI)) (ci := 3) (v := .ref rq) (C := RX3) (T := TX3) (N := 3) hx hb hts (by decide +kernel) hown hK hP 1 rfl rfl 1 (by decide) (va_Nw.use rfl nw0) (fun _ h9 => h9) rfl dX7_probes_11 ?_
  refine lv_iload_n hx hb dX7_probes_14 rfl (lv_at hl 3 rfl) ?_
  have hPc := hP.sub (ws' := [(rq, .inr (5, [.ref rb])), (rb, .inr (0, [.ref rd])), (rd, .inl (cJ, 128, .inr (.inl ft)))]) [4, 5, 6] rfl
  have hKc := hK.sub (tys' := [(cJ, .long)]) [0] rfl
  have hDc := hD.sub (ws' := [(rq, .inr (5, [.ref rb])), (rb, .inr (0, [.ref rd])), (rd, .inl (cJ, 128, .inr (.inl ft)))]) [4, 5, 6] (by decide) rfl
  have hFc := va_free (wc := [(rq, .inr (5, [.ref rb])), (rb, .inr (0, [.ref rd])), (rd, .inl (cJ, 128, .inr (.inl ft)))]) hD hS hA [4, 5, 6] rfl
  refine va_callr (va_runV (As := [.int (nI k)]) (rest := []) ⟨hx, hb, hml, hown, hts⟩ (c_X5_search l dC dI rq rb rd cJ ft (bo fm) k s.heap.size hN.2.1 (by first | assumption | omega)) (cwV 1 hts gX7_probes_X5_search rfl rfl rfl (by decide +kernel) ⟨Nat.le_of_ble_eq_true rfl, Nat.le_of_ble_eq_true rfl⟩) ⟨fun a U g mk q => by obtain ⟨q0, q1, qP, qK, qD⟩ := q; exact ⟨q0, q1, qP, va_K.moved (u := U) (U := U.calling g mk a) (Vm.Alike.refl U.vm) qK, qD⟩, va_recv hKc hPc (ci := 5) (q0 := 0) rfl rfl, fun U hU hW => ⟨rfl, by rw [hU], by rw [hU]; exact hPc, va_K.moved hW.alike hKc, hDc.weaken (fun _ _ _ _ => trivial)⟩⟩ rfl rfl hl.1 rfl (lv_room (Nat.le_of_ble_eq_true rfl)) dX7_probes_15 ⟨Nat.le_of_ble_eq_true rfl, Nat.le_of_ble_eq_true rfl⟩) hS (fun q _ h => hFc q h) hFc (fun u_6 r_7 t9 H1 locs ht hvm hw_5 hB hz1 hk1 hS => ?_)
  obtain ⟨mt_8, pb_9⟩ := u_6
  obtain ⟨hP1, hK1, hD1⟩ := hB
  rw [ht] at hP1
  have hK1 := va_K.moved hvm.symm hK1
  try dsimp only at hw_5 hP1 hK1 hD1
  obtain ⟨hP, hD⟩ := va_join (wr := [(q, .inr (6, [.ref s0, .ref s1, .ref s2])), (s2, .inr (3, [.ref tq, .ref rq, .ref uq])), (tq, .inr (4, [.ref ca, .long sm, .int (oI lo)])), (ca, .inl (cJ, 64, .inr (.inl fc))), (uq, .inr (1, [.ref bm, .ref bs])), (bm, .inr (0, [.ref am])), (am, .inl (cJ, 64, .inr (.inl fm))), (bs, .inr (0, [.ref ap])), (ap, .inl (cJ, 64, .inr (.inl fs)))]) (w1 := [(rq, .inr (5, [.ref rb])), (rb, .inr (0, [.ref rd])), (rd, .inl (cJ, 128, .inr (.inl ft))), (r_7, .inr (2, [.int (oI mt_8), .int (nI pb_9)]))]) hP hD [4, 5, 6] [0, 1, 2, 3, 7, 8, 9, 10, 11] rfl rfl (by decide) (by decide) hk1 hFc hP1 hD1
  generalize H1 = H at hP hS ⊢
  have hP : va_P (dC, dI) vwCl [(q, .inr (6, [.ref s0, .ref s1, .ref s2])), (s2, .inr (3, [.ref tq, .ref rq, .ref uq])), (tq, .inr (4, [.ref ca, .long sm, .int (oI lo)])), (ca, .inl (cJ, 64, .inr (.inl fc))), (uq, .inr (1, [.ref bm, .ref bs])), (bm, .inr (0, [.ref am])), (am, .inl (cJ, 64, .inr (.inl fm))), (bs, .inr (0, [.ref ap])), (ap, .inl (cJ, 64, .inr (.inl fs))), (rq, .inr (5, [.ref rb])), (rb, .inr (0, [.ref rd])), (rd, .inl (cJ, 128, .inr (.inl ft))), (r_7, .inr (2, [.int (oI mt_8), .int (nI pb_9)]))] H := hP
  have hD : va_D A [(q, .inr (6, [.ref s0, .ref s1, .ref s2])), (s2, .inr (3, [.ref tq, .ref rq, .ref uq])), (tq, .inr (4, [.ref ca, .long sm, .int (oI lo)])), (ca, .inl (cJ, 64, .inr (.inl fc))), (uq, .inr (1, [.ref bm, .ref bs])), (bm, .inr (0, [.ref am])), (am, .inl (cJ, 64, .inr (.inl fm))), (bs, .inr (0, [.ref ap])), (ap, .inl (cJ, 64, .inr (.inl fs))), (rq, .inr (5, [.ref rb])), (rb, .inr (0, [.ref rd])), (rd, .inl (cJ, 128, .inr (.inl ft))), (r_7, .inr (2, [.int (oI mt_8), .int (nI pb_9)]))] := hD
  refine W.cs (cells' := 1) (slots' := 2) rfl rfl ?_
  refine va_getN (D := (dC, dI)) (ci := 2) (v := .int (nI pb_9)) (C := RX2) (T := TX2) (N := 2) hx hb hts (by decide +kernel) hown hK hP 12 rfl rfl 1 (by decide) (va_Nw.use rfl nw1) (fun _ h9 => h9) rfl dX7_probes_18 ?_
  have hP9 := hP.sub (ws' := [(q, .inr (6, [.ref s0, .ref s1, .ref s2])), (s2, .inr (3, [.ref tq, .ref rq, .ref uq])), (tq, .inr (4, [.ref ca, .long sm, .int (oI lo)])), (ca, .inl (cJ, 64, .inr (.inl fc))), (rq, .inr (5, [.ref rb])), (rb, .inr (0, [.ref rd])), (rd, .inl (cJ, 128, .inr (.inl ft))), (uq, .inr (1, [.ref bm, .ref bs])), (bm, .inr (0, [.ref am])), (am, .inl (cJ, 64, .inr (.inl fm))), (bs, .inr (0, [.ref ap])), (ap, .inl (cJ, 64, .inr (.inl fs)))]) [0, 1, 2, 3, 9, 10, 11, 4, 5, 6, 7, 8] rfl
  have hD9 := hD.sub (ws' := [(q, .inr (6, [.ref s0, .ref s1, .ref s2])), (s2, .inr (3, [.ref tq, .ref rq, .ref uq])), (tq, .inr (4, [.ref ca, .long sm, .int (oI lo)])), (ca, .inl (cJ, 64, .inr (.inl fc))), (rq, .inr (5, [.ref rb])), (rb, .inr (0, [.ref rd])), (rd, .inl (cJ, 128, .inr (.inl ft))), (uq, .inr (1, [.ref bm, .ref bs])), (bm, .inr (0, [.ref am])), (am, .inl (cJ, 64, .inr (.inl fm))), (bs, .inr (0, [.ref ap])), (ap, .inl (cJ, 64, .inr (.inl fs)))]) [0, 1, 2, 3, 9, 10, 11, 4, 5, 6, 7, 8] (by decide) rfl
  have hK9 := hK.sub (tys' := [(cJ, .long)]) [0] rfl
  exact W.iret (v := nI pb_9) hx hb hr (fun t9 ht hW => ⟨⟨nI pb_9, (), rfl, by rw [← hw_5], by rw [ht]; exact hP9, va_K.moved hW.alike hK9, hD9⟩, hS.F ht⟩) hS.2.2 dX7_probes_21
set_option maxHeartbeats 4000000 in
set_option maxRecDepth 100000 in
/-- buckets, set 2 -/
theorem c_X7_buckets_2 (l : Launch) (dC : Nat → ClassId) (dI : Nat → Nat → Nat) (q : Nat) (s0 : Nat) (s1 : Nat) (s2 : Nat) (tq : Nat) (ca : Nat) (rq : Nat) (rb : Nat) (rd : Nat) (uq : Nat) (bm : Nat) (am : Nat) (bs : Nat) (ap : Nat) (cJ : ClassId) (fm : Nat → Int64) (fs : Nat → Int64) (ft : Nat → Int64) (fc : Nat → Int64) (sm : Int64) (lo : Option Nat) (hN : NI fm fs ft fc sm lo) : Met l yX7_buckets wsX7_buckets ({ frames := 3, cells := 0, slots := 0, locals := 65 }) (va_Pc [.ref q, .int (nI 2)] (fun U => va_Nw (.fieldLinkNest RX7 38 "SmallNumberSets$NumberSet" "buckets" "LSmallNumberSets$Buckets;" "SmallNumberSets") U ∧ va_P (dC, dI) vwCl [(q, .inr (6, [.ref s0, .ref s1, .ref s2])), (s2, .inr (3, [.ref tq, .ref rq, .ref uq])), (tq, .inr (4, [.ref ca, .long sm, .int (oI lo)])), (ca, .inl (cJ, 64, .inr (.inl fc))), (rq, .inr (5, [.ref rb])), (rb, .inr (0, [.ref rd])), (rd, .inl (cJ, 128, .inr (.inl ft))), (uq, .inr (1, [.ref bm, .ref bs])), (bm, .inr (0, [.ref am])), (am, .inl (cJ, 64, .inr (.inl fm))), (bs, .inr (0, [.ref ap])), (ap, .inl (cJ, 64, .inr (.inl fs)))] U.heap ∧ va_K (dC, dI) vwCl [(cJ, .long)] U)) (vp_Si (fun r => r = nI (fb_ct (bo fs) 4096))) 0 0 (fun _ => False) := by
  refine Met.ofW (cc := cX7_buckets) (maxL := 2) (ret := (some .int)) (by decide) rfl ?_
  intro p e s m args below meth c s₁ B hml hv
  obtain ⟨rfl, nw0, hP, hK⟩ := hv
  have hx := B.exec
  have hb := B.bytes
  have hr := B.returns
  have hts := atoms_spec (ws := wsX7_buckets) B.pre
  have hown : s.vm.findClass RX7 = some m.cls := findClass_of_methodNamed B.named
  have hlocks := B.notSynchronized
  have hP : va_P (dC, dI) vwCl [(q, .inr (6, [.ref s0, .ref s1, .ref s2])), (s2, .inr (3, [.ref tq, .ref rq, .ref uq])), (tq, .inr (4, [.ref ca, .long sm, .int (oI lo)])), (ca, .inl (cJ, 64, .inr (.inl fc))), (rq, .inr (5, [.ref rb])), (rb, .inr (0, [.ref rd])), (rd, .inl (cJ, 128, .inr (.inl ft))), (uq, .inr (1, [.ref bm, .ref bs])), (bm, .inr (0, [.ref am])), (am, .inl (cJ, 64, .inr (.inl fm))), (bs, .inr (0, [.ref ap])), (ap, .inl (cJ, 64, .inr (.inl fs)))] s.heap := hP
  have hl := lv_entry ([.ref q, .int (nI 2)]) (n := 2) (Nat.le_of_ble_eq_true rfl)
  rw [lg_entry_eq]
  generalize (lg_sl ([.ref q, .int (nI 2)]) ++ List.replicate (2 - (lg_sl ([.ref q, .int (nI 2)])).length) Slot.unset).toArray = ls at hl ⊢
  have hl : lv_has ls 2 [(0, .ref q), (1, .int (nI 2))] := hl
  refine lv_aload_n hx hb dX7_buckets_0 rfl (lv_at hl 0 rfl) ?_
  refine lv_iload_n hx hb dX7_buckets_1 rfl (lv_at hl 1 rfl) ?_
  have hPc := hP.sub (ws' := [(q, .inr (6, [.ref s0, .ref s1, .ref s2]))]) [0] rfl
  have hKc := hK.sub (tys' := []) [] rfl
  refine va_csr (W.runV (As := [.int (nI 2)]) (rest := []) ⟨hx, hb, hml, hown, hts⟩ (c_X7_chosenSet_2 l dC dI q s0 s1 s2 ) (cwV 1 hts gX7_buckets_X7_chosenSet rfl rfl rfl (by decide +kernel) ⟨Nat.le_of_ble_eq_true rfl, Nat.le_of_ble_eq_true rfl⟩) ⟨fun a U g mk q => by obtain ⟨q0, qP, qK⟩ := q; exact ⟨q0, qP, va_K.moved (u := U) (U := U.calling g mk a) (Vm.Alike.refl U.vm) qK⟩, va_recv hKc hPc (ci := 6) (q0 := 0) rfl rfl, fun U hU hW => ⟨rfl, by rw [hU]; exact hPc, va_K.moved hW.alike hKc⟩⟩ rfl rfl hl.1 rfl (lv_room (Nat.le_of_ble_eq_true rfl)) dX7_buckets_2 ⟨Nat.le_of_ble_eq_true rfl, Nat.le_of_ble_eq_true rfl⟩) (fun r_2 hw_1 => ?_)
  have hw_1 := hw_1.symm
  subst hw_1
  refine va_getN (D := (dC, dI)) (ci := 3) (v := .ref uq) (C := RX3) (T := TX3) (N := 3) hx hb hts (by decide +kernel) hown hK hP 1 rfl rfl 2 (by decide) (va_Nw.use rfl nw0) (fun _ h9 => h9) rfl dX7_buckets_5 ?_
  have hPc := hP.sub (ws' := [(uq, .inr (1, [.ref bm, .ref bs])), (bm, .inr (0, [.ref am])), (am, .inl (cJ, 64, .inr (.inl fm))), (bs, .inr (0, [.ref ap])), (ap, .inl (cJ, 64, .inr (.inl fs)))]) [7, 8, 9, 10, 11] rfl
  have hKc := hK.sub (tys' := [(cJ, .long)]) [0] rfl
  refine vp_callSi (W.runV (As := []) (rest := []) ⟨hx, hb, hml, hown, hts⟩ (c_X1_bucketCount l dC dI uq bm am bs ap cJ fm fs ) (cwV 0 hts gX7_buckets_X1_bucketCount rfl rfl rfl (by decide +kernel) ⟨Nat.le_of_ble_eq_true rfl, Nat.le_of_ble_eq_true rfl⟩) ⟨fun a U g mk q => by obtain ⟨q0, qP, qK⟩ := q; exact ⟨q0, qP, va_K.moved (u := U) (U := U.calling g mk a) (Vm.Alike.refl U.vm) qK⟩, va_recv hKc hPc (ci := 1) (q0 := 0) rfl rfl, fun U hU hW => ⟨rfl, by rw [hU]; exact hPc, va_K.moved hW.alike hKc⟩⟩ rfl rfl hl.1 rfl (lv_room (Nat.le_of_ble_eq_true rfl)) dX7_buckets_8 ⟨Nat.le_of_ble_eq_true rfl, Nat.le_of_ble_eq_true rfl⟩) (fun r_4 hw_3 => ?_)
  subst hw_3
  exact W.iret (v := nI (fb_ct (bo fs) 4096)) hx hb hr (fun t9 ht hW => ⟨nI (fb_ct (bo fs) 4096), rfl, rfl, ht⟩) (fun q h => by cases h) dX7_buckets_11
set_option maxHeartbeats 4000000 in
set_option maxRecDepth 100000 in
/-- bucketSize, set 2 -/
theorem c_X7_bucketSize_2 (l : Launch) (dC : Nat → ClassId) (dI : Nat → Nat → Nat) (q : Nat) (s0 : Nat) (s1 : Nat) (s2 : Nat) (tq : Nat) (ca : Nat) (rq : Nat) (rb : Nat) (rd : Nat) (uq : Nat) (bm : Nat) (am : Nat) (bs : Nat) (ap : Nat) (cJ : ClassId) (fm : Nat → Int64) (fs : Nat → Int64) (ft : Nat → Int64) (fc : Nat → Int64) (sm : Int64) (lo : Option Nat) (k : Nat) (hN : NI fm fs ft fc sm lo) (hk : k < fb_ct (bo fs) 4096) : Met l yX7_bucketSize wsX7_bucketSize ({ frames := 4, cells := 0, slots := 0, locals := 92 }) (va_Pc [.ref q, .int (nI 2), .int (nI k)] (fun U => va_Nw (.fieldLinkNest RX7 38 "SmallNumberSets$NumberSet" "buckets" "LSmallNumberSets$Buckets;" "SmallNumberSets") U ∧ va_P (dC, dI) vwCl [(q, .inr (6, [.ref s0, .ref s1, .ref s2])), (s2, .inr (3, [.ref tq, .ref rq, .ref uq])), (tq, .inr (4, [.ref ca, .long sm, .int (oI lo)])), (ca, .inl (cJ, 64, .inr (.inl fc))), (rq, .inr (5, [.ref rb])), (rb, .inr (0, [.ref rd])), (rd, .inl (cJ, 128, .inr (.inl ft))), (uq, .inr (1, [.ref bm, .ref bs])), (bm, .inr (0, [.ref am])), (am, .inl (cJ, 64, .inr (.inl fm))), (bs, .inr (0, [.ref ap])), (ap, .inl (cJ, 64, .inr (.inl fs)))] U.heap ∧ va_K (dC, dI) vwCl [(cJ, .long)] U)) (vp_Si (fun r => r = nI (heldc (bo fm) (bo fs) (sp (bo fs) k)))) 0 0 (fun _ => False) := by
  refine Met.ofW (cc := cX7_bucketSize) (maxL := 4) (ret := (some .int)) (by decide) rfl ?_
  intro p e s m args below meth c s₁ B hml hv
  obtain ⟨rfl, nw0, hP, hK⟩ := hv
  have hx := B.exec
  have hb := B.bytes
  have hr := B.returns
  have hts := atoms_spec (ws := wsX7_bucketSize) B.pre
  have hown : s.vm.findClass RX7 = some m.cls := findClass_of_methodNamed B.named
  have hlocks := B.notSynchronized
  have hP : va_P (dC, dI) vwCl [(q, .inr (6, [.ref s0, .ref s1, .ref s2])), (s2, .inr (3, [.ref tq, .ref rq, .ref uq])), (tq, .inr (4, [.ref ca, .long sm, .int (oI lo)])), (ca, .inl (cJ, 64, .inr (.inl fc))), (rq, .inr (5, [.ref rb])), (rb, .inr (0, [.ref rd])), (rd, .inl (cJ, 128, .inr (.inl ft))), (uq, .inr (1, [.ref bm, .ref bs])), (bm, .inr (0, [.ref am])), (am, .inl (cJ, 64, .inr (.inl fm))), (bs, .inr (0, [.ref ap])), (ap, .inl (cJ, 64, .inr (.inl fs)))] s.heap := hP
  have hl := lv_entry ([.ref q, .int (nI 2), .int (nI k)]) (n := 4) (Nat.le_of_ble_eq_true rfl)
  rw [lg_entry_eq]
  generalize (lg_sl ([.ref q, .int (nI 2), .int (nI k)]) ++ List.replicate (4 - (lg_sl ([.ref q, .int (nI 2), .int (nI k)])).length) Slot.unset).toArray = ls at hl ⊢
  have hl : lv_has ls 4 [(0, .ref q), (1, .int (nI 2)), (2, .int (nI k))] := hl
  have hcb := fb_ct_le (bo fm) 4096
  have hcs := fb_ct_le (bo fs) 4096
  obtain ⟨hs1, hs2, -, -⟩ := sp_lt hk
  refine lv_aload_n hx hb dX7_bucketSize_0 rfl (lv_at hl 0 rfl) ?_
  refine lv_iload_n hx hb dX7_bucketSize_1 rfl (lv_at hl 1 rfl) ?_
  have hPc := hP.sub (ws' := [(q, .inr (6, [.ref s0, .ref s1, .ref s2]))]) [0] rfl
  have hKc := hK.sub (tys' := []) [] rfl
  refine va_csr (W.runV (As := [.int (nI 2)]) (rest := []) ⟨hx, hb, hml, hown, hts⟩ (c_X7_chosenSet_2 l dC dI q s0 s1 s2 ) (cwV 1 hts gX7_bucketSize_X7_chosenSet rfl rfl rfl (by decide +kernel) ⟨Nat.le_of_ble_eq_true rfl, Nat.le_of_ble_eq_true rfl⟩) ⟨fun a U g mk q => by obtain ⟨q0, qP, qK⟩ := q; exact ⟨q0, qP, va_K.moved (u := U) (U := U.calling g mk a) (Vm.Alike.refl U.vm) qK⟩, va_recv hKc hPc (ci := 6) (q0 := 0) rfl rfl, fun U hU hW => ⟨rfl, by rw [hU]; exact hPc, va_K.moved hW.alike hKc⟩⟩ rfl rfl hl.1 rfl (lv_room (Nat.le_of_ble_eq_true rfl)) dX7_bucketSize_2 ⟨Nat.le_of_ble_eq_true rfl, Nat.le_of_ble_eq_true rfl⟩) (fun r_2 hw_1 => ?_)
  have hw_1 := hw_1.symm
  subst hw_1
  refine lv_astore_n (lv' := [(3, .ref s2), (0, .ref q), (1, .int (nI 2)), (2, .int (nI k))]) hx hb dX7_bucketSize_5 rfl hl (by decide) rfl (fun ls hl => ?_)
  refine lv_iload_n hx hb dX7_bucketSize_6 rfl (lv_at hl 3 rfl) ?_
  refine lv_aload_n hx hb dX7_bucketSize_7 rfl (lv_at hl 0 rfl) ?_
  refine va_getN (D := (dC, dI)) (ci := 3) (v := .ref uq) (C := RX3) (T := TX3) (N := 3) hx hb hts (by decide +kernel) hown hK hP 1 rfl rfl 2 (by decide) (va_Nw.use rfl nw0) (fun _ h9 => h9) rfl dX7_bucketSize_8 ?_
  have hPc := hP.sub (ws' := [(uq, .inr (1, [.ref bm, .ref bs])), (bm, .inr (0, [.ref am])), (am, .inl (cJ, 64, .inr (.inl fm))), (bs, .inr (0, [.ref ap])), (ap, .inl (cJ, 64, .inr (.inl fs)))]) [7, 8, 9, 10, 11] rfl
  have hKc := hK.sub (tys' := [(cJ, .long)]) [0] rfl
  refine vp_callSi (W.runV (As := []) (rest := [.int (nI k)]) ⟨hx, hb, hml, hown, hts⟩ (c_X1_bucketCount l dC dI uq bm am bs ap cJ fm fs ) (cwV 0 hts gX7_bucketSize_X1_bucketCount rfl rfl rfl (by decide +kernel) ⟨Nat.le_of_ble_eq_true rfl, Nat.le_of_ble_eq_true rfl⟩) ⟨fun a U g mk q => by obtain ⟨q0, qP, qK⟩ := q; exact ⟨q0, qP, va_K.moved (u := U) (U := U.calling g mk a) (Vm.Alike.refl U.vm) qK⟩, va_recv hKc hPc (ci := 1) (q0 := 0) rfl rfl, fun U hU hW => ⟨rfl, by rw [hU]; exact hPc, va_K.moved hW.alike hKc⟩⟩ rfl rfl hl.1 rfl (lv_room (Nat.le_of_ble_eq_true rfl)) dX7_bucketSize_11 ⟨Nat.le_of_ble_eq_true rfl, Nat.le_of_ble_eq_true rfl⟩) (fun r_4 hw_3 => ?_)
  subst hw_3
  have hPc := hP.sub (ws' := []) [] rfl
  have hKc := hK.sub (tys' := []) [] rfl
  refine va_csv (W.runS (As := [.int (nI k), .int (nI (fb_ct (bo fs) 4096))]) (rest := []) ⟨hx, hb, hml, hown, hts⟩ (c_X7_needPlace l dC dI k (fb_ct (bo fs) 4096) (by first | assumption | omega) (by first | assumption | omega)) (va_cwS 2 hts gX7_bucketSize_X7_needPlace rfl rfl rfl (by decide +kernel) ⟨Nat.le_of_ble_eq_true rfl, Nat.le_of_ble_eq_true rfl⟩) ⟨fun a U g mk q => by obtain ⟨q0, qP, qK⟩ := q; exact ⟨q0, qP, va_K.moved (u := U) (U := U.calling g mk a) (Vm.Alike.refl U.vm) qK⟩, fun U hU hW => ⟨rfl, by rw [hU]; exact hPc, va_K.moved hW.alike hKc⟩⟩ rfl rfl hl.1 rfl (lv_room (Nat.le_of_ble_eq_true rfl)) dX7_bucketSize_14 ⟨Nat.le_of_ble_eq_true rfl, Nat.le_of_ble_eq_true rfl⟩) (fun _ => ?_)
  refine lv_aload_n hx hb dX7_bucketSize_17 rfl (lv_at hl 0 rfl) ?_
  refine va_getN (D := (dC, dI)) (ci := 3) (v := .ref uq) (C := RX3) (T := TX3) (N := 3) hx hb hts (by decide +kernel) hown hK hP 1 rfl rfl 2 (by decide) (va_Nw.use rfl nw0) (fun _ h9 => h9) rfl dX7_bucketSize_18 ?_
  refine lv_aload_n hx hb dX7_bucketSize_21 rfl (lv_at hl 0 rfl) ?_
  refine va_getN (D := (dC, dI)) (ci := 3) (v := .ref uq) (C := RX3) (T := TX3) (N := 3) hx hb hts (by decide +kernel) hown hK hP 1 rfl rfl 2 (by decide) (va_Nw.use rfl nw0) (fun _ h9 => h9) rfl dX7_bucketSize_22 ?_
  refine lv_iload_n hx hb dX7_bucketSize_25 rfl (lv_at hl 3 rfl) ?_
  have hPc := hP.sub (ws' := [(uq, .inr (1, [.ref bm, .ref bs])), (bm, .inr (0, [.ref am])), (am, .inl (cJ, 64, .inr (.inl fm))), (bs, .inr (0, [.ref ap])), (ap, .inl (cJ, 64, .inr (.inl fs)))]) [7, 8, 9, 10, 11] rfl
  have hKc := hK.sub (tys' := [(cJ, .long)]) [0] rfl
  refine vp_callSi (W.runV (As := [.int (nI k)]) (rest := [.ref uq]) ⟨hx, hb, hml, hown, hts⟩ (c_X1_separatorAt l dC dI uq bm am bs ap cJ fm fs k (by first | assumption | omega)) (cwV 1 hts gX7_bucketSize_X1_separatorAt rfl rfl rfl (by decide +kernel) ⟨Nat.le_of_ble_eq_true rfl, Nat.le_of_ble_eq_true rfl⟩) ⟨fun a U g mk q => by obtain ⟨q0, qP, qK⟩ := q; exact ⟨q0, qP, va_K.moved (u := U) (U := U.calling g mk a) (Vm.Alike.refl U.vm) qK⟩, va_recv hKc hPc (ci := 1) (q0 := 0) rfl rfl, fun U hU hW => ⟨rfl, by rw [hU]; exact hPc, va_K.moved hW.alike hKc⟩⟩ rfl rfl hl.1 rfl (lv_room (Nat.le_of_ble_eq_true rfl)) dX7_bucketSize_26 ⟨Nat.le_of_ble_eq_true rfl, Nat.le_of_ble_eq_true rfl⟩) (fun r_8 hw_7 => ?_)
  subst hw_7
  refine lv_cvi (congrArg oI hs1) ?_
  refine lv_cvi ((rfl : oI (some (sp (bo fs) k)) = nI (sp (bo fs) k))) ?_
  have hPc := hP.sub (ws' := [(uq, .inr (1, [.ref bm, .ref bs])), (bm, .inr (0, [.ref am])), (am, .inl (cJ, 64, .inr (.inl fm))), (bs, .inr (0, [.ref ap])), (ap, .inl (cJ, 64, .inr (.inl fs)))]) [7, 8, 9, 10, 11] rfl
  have hKc := hK.sub (tys' := [(cJ, .long)]) [0] rfl
  refine vp_callSi (W.runV (As := [.int (nI (sp (bo fs) k))]) (rest := []) ⟨hx, hb, hml, hown, hts⟩ (c_X1_membersFrom l dC dI uq bm am bs ap cJ fm fs (sp (bo fs) k) (by first | assumption | omega)) (cwV 1 hts gX7_bucketSize_X1_membersFrom rfl rfl rfl (by decide +kernel) ⟨Nat.le_of_ble_eq_true rfl, Nat.le_of_ble_eq_true rfl⟩) ⟨fun a U g mk q => by obtain ⟨q0, qP, qK⟩ := q; exact ⟨q0, qP, va_K.moved (u := U) (U := U.calling g mk a) (Vm.Alike.refl U.vm) qK⟩, va_recv hKc hPc (ci := 1) (q0 := 0) rfl rfl, fun U hU hW => ⟨rfl, by rw [hU]; exact hPc, va_K.moved hW.alike hKc⟩⟩ rfl rfl hl.1 rfl (lv_room (Nat.le_of_ble_eq_true rfl)) dX7_bucketSize_29 ⟨Nat.le_of_ble_eq_true rfl, Nat.le_of_ble_eq_true rfl⟩) (fun r_10 hw_9 => ?_)
  subst hw_9
  exact W.iret (v := nI (heldc (bo fm) (bo fs) (sp (bo fs) k))) hx hb hr (fun t9 ht hW => ⟨nI (heldc (bo fm) (bo fs) (sp (bo fs) k)), rfl, rfl, ht⟩) (fun q h => by cases h) dX7_bucketSize_32
set_option maxHeartbeats 4000000 in
set_option maxRecDepth 100000 in
/-- pollFirst, set 2 -/
theorem c_X7_pollFirst_2 (l : Launch) (dC : Nat → ClassId) (dI : Nat → Nat → Nat) (q : Nat) (s0 : Nat) (s1 : Nat) (s2 : Nat) (tq : Nat) (ca : Nat) (rq : Nat) (rb : Nat) (rd : Nat) (uq : Nat) (bm : Nat) (am : Nat) (bs : Nat) (ap : Nat) (cJ : ClassId) (fm : Nat → Int64) (fs : Nat → Int64) (ft : Nat → Int64) (fc : Nat → Int64) (sm : Int64) (lo : Option Nat) (z : Nat) (sz : Nat) (hN : NI fm fs ft fc sm lo) (hz : fst1 (bo fm) 4096 = some z) : Met l yX7_pollFirst wsX7_pollFirst ({ frames := 7, cells := 0, slots := 0, locals := 159 }) (va_Pc [.ref q, .int (nI 2)] (fun U => va_Nw (.fieldLinkNest RX7 62 "SmallNumberSets$NumberSet" "tree" "LSmallNumberSets$Tree;" "SmallNumberSets") U ∧ U.heap.size = sz ∧ va_P (dC, dI) vwCl [(q, .inr (6, [.ref s0, .ref s1, .ref s2])), (s2, .inr (3, [.ref tq, .ref rq, .ref uq])), (tq, .inr (4, [.ref ca, .long sm, .int (oI lo)])), (ca, .inl (cJ, 64, .inr (.inl fc))), (rq, .inr (5, [.ref rb])), (rb, .inr (0, [.ref rd])), (rd, .inl (cJ, 128, .inr (.inl ft))), (uq, .inr (1, [.ref bm, .ref bs])), (bm, .inr (0, [.ref am])), (am, .inl (cJ, 64, .inr (.inl fm))), (bs, .inr (0, [.ref ap])), (ap, .inl (cJ, 64, .inr (.inl fs)))] U.heap ∧ va_K (dC, dI) vwCl [(cJ, .long)] U ∧ va_D (fun _ => True) [(q, .inr (6, [.ref s0, .ref s1, .ref s2])), (s2, .inr (3, [.ref tq, .ref rq, .ref uq])), (tq, .inr (4, [.ref ca, .long sm, .int (oI lo)])), (ca, .inl (cJ, 64, .inr (.inl fc))), (rq, .inr (5, [.ref rb])), (rb, .inr (0, [.ref rd])), (rd, .inl (cJ, 128, .inr (.inl ft))), (uq, .inr (1, [.ref bm, .ref bs])), (bm, .inr (0, [.ref am])), (am, .inl (cJ, 64, .inr (.inl fm))), (bs, .inr (0, [.ref ap])), (ap, .inl (cJ, 64, .inr (.inl fs)))])) (va_Qi (fun (r : Int32) (u : (Nat → Int64) × (Nat → Int64) × (Nat → Int64) × (Nat → Int64) × Int64 × (Option Nat)) => r = nI z ∧ NI u.1 u.2.1 u.2.2.1 u.2.2.2.1 u.2.2.2.2.1 u.2.2.2.2.2 ∧ (∀ x, x < 4096 → bo u.1 x = del (bo fm) z x) ∧ ∀ x, x < 4096 → bo u.2.1 x = takeP (bo fm) (bo fs) z x) (fun (u : (Nat → Int64) × (Nat → Int64) × (Nat → Int64) × (Nat → Int64) × Int64 × (Option Nat)) (t : State) => va_P (dC, dI) vwCl [(q, .inr (6, [.ref s0, .ref s1, .ref s2])), (s2, .inr (3, [.ref tq, .ref rq, .ref uq])), (tq, .inr (4, [.ref ca, .long u.2.2.2.2.1, .int (oI u.2.2.2.2.2)])), (ca, .inl (cJ, 64, .inr (.inl u.2.2.2.1))), (rq, .inr (5, [.ref rb])), (rb, .inr (0, [.ref rd])), (rd, .inl (cJ, 128, .inr (.inl u.2.2.1))), (uq, .inr (1, [.ref bm, .ref bs])), (bm, .inr (0, [.ref am])), (am, .inl (cJ, 64, .inr (.inl u.1))), (bs, .inr (0, [.ref ap])), (ap, .inl (cJ, 64, .inr (.inl u.2.1)))] t.heap ∧ va_K (dC, dI) vwCl [(cJ, .long)] t ∧ va_D (va_A [(q, .inr (6, [.ref s0, .ref s1, .ref s2])), (s2, .inr (3, [.ref tq, .ref rq, .ref uq])), (tq, .inr (4, [.ref ca, .long sm, .int (oI lo)])), (ca, .inl (cJ, 64, .inr (.inl fc))), (rq, .inr (5, [.ref rb])), (rb, .inr (0, [.ref rd])), (rd, .inl (cJ, 128, .inr (.inl ft))), (uq, .inr (1, [.ref bm, .ref bs])), (bm, .inr (0, [.ref am])), (am, .inl (cJ, 64, .inr (.inl fm))), (bs, .inr (0, [.ref ap])), (ap, .inl (cJ, 64, .inr (.inl fs)))] sz) [(q, .inr (6, [.ref s0, .ref s1, .ref s2])), (s2, .inr (3, [.ref tq, .ref rq, .ref uq])), (tq, .inr (4, [.ref ca, .long u.2.2.2.2.1, .int (oI u.2.2.2.2.2)])), (ca, .inl (cJ, 64, .inr (.inl u.2.2.2.1))), (rq, .inr (5, [.ref rb])), (rb, .inr (0, [.ref rd])), (rd, .inl (cJ, 128, .inr (.inl u.2.2.1))), (uq, .inr (1, [.ref bm, .ref bs])), (bm, .inr (0, [.ref am])), (am, .inl (cJ, 64, .inr (.inl u.1))), (bs, .inr (0, [.ref ap])), (ap, .inl (cJ, 64, .inr (.inl u.2.1)))]) (va_A [(q, .inr (6, [.ref s0, .ref s1, .ref s2])), (s2, .inr (3, [.ref tq, .ref rq, .ref uq])), (tq, .inr (4, [.ref ca, .long sm, .int (oI lo)])), (ca, .inl (cJ, 64, .inr (.inl fc))), (rq, .inr (5, [.ref rb])), (rb, .inr (0, [.ref rd])), (rd, .inl (cJ, 128, .inr (.inl ft))), (uq, .inr (1, [.ref bm, .ref bs])), (bm, .inr (0, [.ref am])), (am, .inl (cJ, 64, .inr (.inl fm))), (bs, .inr (0, [.ref ap])), (ap, .inl (cJ, 64, .inr (.inl fs)))] sz)) 0 0 (va_A [(q, .inr (6, [.ref s0, .ref s1, .ref s2])), (s2, .inr (3, [.ref tq, .ref rq, .ref uq])), (tq, .inr (4, [.ref ca, .long sm, .int (oI lo)])), (ca, .inl (cJ, 64, .inr (.inl fc))), (rq, .inr (5, [.ref rb])), (rb, .inr (0, [.ref rd])), (rd, .inl (cJ, 128, .inr (.inl ft))), (uq, .inr (1, [.ref bm, .ref bs])), (bm, .inr (0, [.ref am])), (am, .inl (cJ, 64, .inr (.inl fm))), (bs, .inr (0, [.ref ap])), (ap, .inl (cJ, 64, .inr (.inl fs)))] sz) := by
  refine Met.ofW (cc := cX7_pollFirst) (maxL := 4) (ret := (some .int)) (by decide) rfl ?_
  intro p e s m args below meth c s₁ B hml hv
  obtain ⟨rfl, nw0, hsz, hP, hK, hD0⟩ := hv
  have hx := B.exec
  have hb := B.bytes
  have hr := B.returns
  have hts := atoms_spec (ws := wsX7_pollFirst) B.pre
  have hown : s.vm.findClass RX7 = some m.cls := findClass_of_methodNamed B.named
  have hlocks := B.notSynchronized
  subst hsz
  have hD := hD0.self (sz := s.heap.size)
  generalize hAe : va_A [(q, .inr (6, [.ref s0, .ref s1, .ref s2])), (s2, .inr (3, [.ref tq, .ref rq, .ref uq])), (tq, .inr (4, [.ref ca, .long sm, .int (oI lo)])), (ca, .inl (cJ, 64, .inr (.inl fc))), (rq, .inr (5, [.ref rb])), (rb, .inr (0, [.ref rd])), (rd, .inl (cJ, 128, .inr (.inl ft))), (uq, .inr (1, [.ref bm, .ref bs])), (bm, .inr (0, [.ref am])), (am, .inl (cJ, 64, .inr (.inl fm))), (bs, .inr (0, [.ref ap])), (ap, .inl (cJ, 64, .inr (.inl fs)))] s.heap.size = A at hD ⊢
  have hA : ∀ q : Nat, s.heap.size ≤ q → A q := fun q h => by rw [← hAe]; exact Or.inr h
  have hS : va_S A s.heap s.heap [] := va_S.rf
  have hP : va_P (dC, dI) vwCl [(q, .inr (6, [.ref s0, .ref s1, .ref s2])), (s2, .inr (3, [.ref tq, .ref rq, .ref uq])), (tq, .inr (4, [.ref ca, .long sm, .int (oI lo)])), (ca, .inl (cJ, 64, .inr (.inl fc))), (rq, .inr (5, [.ref rb])), (rb, .inr (0, [.ref rd])), (rd, .inl (cJ, 128, .inr (.inl ft))), (uq, .inr (1, [.ref bm, .ref bs])), (bm, .inr (0, [.ref am])), (am, .inl (cJ, 64, .inr (.inl fm))), (bs, .inr (0, [.ref ap])), (ap, .inl (cJ, 64, .inr (.inl fs)))] s.heap := hP
  have hl := lv_entry ([.ref q, .int (nI 2)]) (n := 4) (Nat.le_of_ble_eq_true rfl)
  rw [lg_entry_eq]
  generalize (lg_sl ([.ref q, .int (nI 2)]) ++ List.replicate (4 - (lg_sl ([.ref q, .int (nI 2)])).length) Slot.unset).toArray = ls at hl ⊢
  have hl : lv_has ls 4 [(0, .ref q), (1, .int (nI 2))] := hl
  have hzb := (fst1_some hz).1
  refine lv_aload_n hx hb dX7_pollFirst_0 rfl (lv_at hl 0 rfl) ?_
  refine lv_iload_n hx hb dX7_pollFirst_1 rfl (lv_at hl 1 rfl) ?_
  have hPc := hP.sub (ws' := [(q, .inr (6, [.ref s0, .ref s1, .ref s2]))]) [0] rfl
  have hKc := hK.sub (tys' := []) [] rfl
  refine va_csr (W.runV (As := [.int (nI 2)]) (rest := []) ⟨hx, hb, hml, hown, hts⟩ (c_X7_chosenSet_2 l dC dI q s0 s1 s2 ) (cwV 1 hts gX7_pollFirst_X7_chosenSet rfl rfl rfl (by decide +kernel) ⟨Nat.le_of_ble_eq_true rfl, Nat.le_of_ble_eq_true rfl⟩) ⟨fun a U g mk q => by obtain ⟨q0, qP, qK⟩ := q; exact ⟨q0, qP, va_K.moved (u := U) (U := U.calling g mk a) (Vm.Alike.refl U.vm) qK⟩, va_recv hKc hPc (ci := 6) (q0 := 0) rfl rfl, fun U hU hW => ⟨rfl, by rw [hU]; exact hPc, va_K.moved hW.alike hKc⟩⟩ rfl rfl hl.1 rfl (lv_room (Nat.le_of_ble_eq_true rfl)) dX7_pollFirst_2 ⟨Nat.le_of_ble_eq_true rfl, Nat.le_of_ble_eq_true rfl⟩) (fun r_2 hw_1 => ?_)
  have hw_1 := hw_1.symm
  subst hw_1
  refine lv_astore_n (lv' := [(2, .ref s2), (0, .ref q), (1, .int (nI 2))]) hx hb dX7_pollFirst_5 rfl hl (by decide) rfl (fun ls hl => ?_)
  refine lv_aload_n hx hb dX7_pollFirst_6 rfl (lv_at hl 0 rfl) ?_
  refine va_getN (D := (dC, dI)) (ci := 3) (v := .ref tq) (C := RX3) (T := TX3) (N := 3) hx hb hts (by decide +kernel) hown hK hP 1 rfl rfl 0 (by decide) (va_Nw.use rfl nw0) (fun _ h9 => h9) rfl dX7_pollFirst_7 ?_
  have hPc := hP.sub (ws' := [(tq, .inr (4, [.ref ca, .long sm, .int (oI lo)])), (ca, .inl (cJ, 64, .inr (.inl fc)))]) [2, 3] rfl
  have hKc := hK.sub (tys' := [(cJ, .long)]) [0] rfl
  refine vp_callSi (W.runV (As := []) (rest := []) ⟨hx, hb, hml, hown, hts⟩ (c_X4_least l dC dI tq ca cJ fc sm lo ) (cwV 0 hts gX7_pollFirst_X4_least rfl rfl rfl (by decide +kernel) ⟨Nat.le_of_ble_eq_true rfl, Nat.le_of_ble_eq_true rfl⟩) ⟨fun a U g mk q => by obtain ⟨q0, qP, qK⟩ := q; exact ⟨q0, qP, va_K.moved (u := U) (U := U.calling g mk a) (Vm.Alike.refl U.vm) qK⟩, va_recv hKc hPc (ci := 4) (q0 := 0) rfl rfl, fun U hU hW => ⟨rfl, by rw [hU]; exact hPc, va_K.moved hW.alike hKc⟩⟩ rfl rfl hl.1 rfl (lv_room (Nat.le_of_ble_eq_true rfl)) dX7_pollFirst_10 ⟨Nat.le_of_ble_eq_true rfl, Nat.le_of_ble_eq_true rfl⟩) (fun r_4 hw_3 => ?_)
  subst hw_3
  refine lv_cvi (congrArg oI (hN.2.2.1.trans hz)) ?_
  refine lv_cvi ((rfl : oI (some z) = nI z)) ?_
  refine lv_istore_n (lv' := [(3, .int (nI z)), (2, .ref s2), (0, .ref q), (1, .int (nI 2))]) hx hb dX7_pollFirst_13 rfl hl (by decide) rfl (fun ls hl => ?_)
  refine lv_iload_n hx hb dX7_pollFirst_14 rfl (lv_at hl 0 rfl) ?_
  have hPc := hP.sub (ws' := []) [] rfl
  have hKc := hK.sub (tys' := []) [] rfl
  refine va_csv (W.runS (As := [.int (nI z)]) (rest := []) ⟨hx, hb, hml, hown, hts⟩ (c_X7_needMember l dC dI z (by first | assumption | omega)) (va_cwS 1 hts gX7_pollFirst_X7_needMember rfl rfl rfl (by decide +kernel) ⟨Nat.le_of_ble_eq_true rfl, Nat.le_of_ble_eq_true rfl⟩) ⟨fun a U g mk q => by obtain ⟨q0, qP, qK⟩ := q; exact ⟨q0, qP, va_K.moved (u := U) (U := U.calling g mk a) (Vm.Alike.refl U.vm) qK⟩, fun U hU hW => ⟨rfl, by rw [hU]; exact hPc, va_K.moved hW.alike hKc⟩⟩ rfl rfl hl.1 rfl (lv_room (Nat.le_of_ble_eq_true rfl)) dX7_pollFirst_15 ⟨Nat.le_of_ble_eq_true rfl, Nat.le_of_ble_eq_true rfl⟩) (fun _ => ?_)
  refine lv_aload_n hx hb dX7_pollFirst_18 rfl (lv_at hl 1 rfl) ?_
  refine lv_iload_n hx hb dX7_pollFirst_19 rfl (lv_at hl 0 rfl) ?_
  have hPc := hP.sub (ws' := [(s2, .inr (3, [.ref tq, .ref rq, .ref uq])), (tq, .inr (4, [.ref ca, .long sm, .int (oI lo)])), (ca, .inl (cJ, 64, .inr (.inl fc))), (rq, .inr (5, [.ref rb])), (rb, .inr (0, [.ref rd])), (rd, .inl (cJ, 128, .inr (.inl ft))), (uq, .inr (1, [.ref bm, .ref bs])), (bm, .inr (0, [.ref am])), (am, .inl (cJ, 64, .inr (.inl fm))), (bs, .inr (0, [.ref ap])), (ap, .inl (cJ, 64, .inr (.inl fs)))]) [1, 2, 3, 4, 5, 6, 7, 8, 9, 10, 11] rfl
  have hKc := hK.sub (tys' := [(cJ, .long)]) [0] rfl
  have hDc := hD.sub (ws' := [(s2, .inr (3, [.ref tq, .ref rq, .ref uq])), (tq, .inr (4, [.ref ca, .long sm, .int (oI lo)])), (ca, .inl (cJ, 64, .inr (.inl fc))), (rq, .inr (5, [.ref rb])), (rb, .inr (0, [.ref rd])), (rd, .inl (cJ, 128, .inr (.inl ft))), (uq, .inr (1, [.ref bm, .ref bs])), (bm, .inr (0, [.ref am])), (am, .inl (cJ, 64, .inr (.inl fm))), (bs, .inr (0, [.ref ap])), (ap, .inl (cJ, 64, .inr (.inl fs)))]) [1, 2, 3, 4, 5, 6, 7, 8, 9, 10, 11] (by decide) rfl
  have hFc := va_free (wc := [(s2, .inr (3, [.ref tq, .ref rq, .ref uq])), (tq, .inr (4, [.ref ca, .long sm, .int (oI lo)])), (ca, .inl (cJ, 64, .inr (.inl fc))), (rq, .inr (5, [.ref rb])), (rb, .inr (0, [.ref rd])), (rd, .inl (cJ, 128, .inr (.inl ft))), (uq, .inr (1, [.ref bm, .ref bs])), (bm, .inr (0, [.ref am])), (am, .inl (cJ, 64, .inr (.inl fm))), (bs, .inr (0, [.ref ap])), (ap, .inl (cJ, 64, .inr (.inl fs)))]) hD hS hA [1, 2, 3, 4, 5, 6, 7, 8, 9, 10, 11] rfl
  refine va_calli (va_runV (As := [.int (nI z)]) (rest := []) ⟨hx, hb, hml, hown, hts⟩ (c_X3_take l dC dI s2 tq ca rq rb rd uq bm am bs ap cJ fm fs ft fc sm lo z s.heap.size (by first | assumption | omega) (by first | assumption | omega)) (cwV 1 hts gX7_pollFirst_X3_take rfl rfl rfl (by decide +kernel) ⟨Nat.le_of_ble_eq_true rfl, Nat.le_of_ble_eq_true rfl⟩) ⟨fun a U g mk q => by obtain ⟨q0, q1, qP, qK, qD⟩ := q; exact ⟨q0, q1, qP, va_K.moved (u := U) (U := U.calling g mk a) (Vm.Alike.refl U.vm) qK, qD⟩, va_recv hKc hPc (ci := 3) (q0 := 0) rfl rfl, fun U hU hW => ⟨rfl, by rw [hU], by rw [hU]; exact hPc, va_K.moved hW.alike hKc, hDc.weaken (fun _ _ _ _ => trivial)⟩⟩ rfl rfl hl.1 rfl (lv_room (Nat.le_of_ble_eq_true rfl)) dX7_pollFirst_20 ⟨Nat.le_of_ble_eq_true rfl, Nat.le_of_ble_eq_true rfl⟩) hS (fun q _ h => hFc q h) hFc (fun r_9 u_8 t9 H1 locs ht hvm hw_7 hB hz1 hk1 hS => ?_)
  obtain ⟨fm'_10, fs'_11, ft'_12, fc'_13, sm'_14, lo'_15⟩ := u_8
  obtain ⟨hP1, hK1, hD1⟩ := hB
  rw [ht] at hP1
  have hK1 := va_K.moved hvm.symm hK1
  try dsimp only at hw_7 hP1 hK1 hD1
  obtain ⟨hP, hD⟩ := va_join (wr := [(q, .inr (6, [.ref s0, .ref s1, .ref s2]))]) (w1 := [(s2, .inr (3, [.ref tq, .ref rq, .ref uq])), (tq, .inr (4, [.ref ca, .long sm'_14, .int (oI lo'_15)])), (ca, .inl (cJ, 64, .inr (.inl fc'_13))), (rq, .inr (5, [.ref rb])), (rb, .inr (0, [.ref rd])), (rd, .inl (cJ, 128, .inr (.inl ft'_12))), (uq, .inr (1, [.ref bm, .ref bs])), (bm, .inr (0, [.ref am])), (am, .inl (cJ, 64, .inr (.inl fm'_10))), (bs, .inr (0, [.ref ap])), (ap, .inl (cJ, 64, .inr (.inl fs'_11)))]) hP hD [1, 2, 3, 4, 5, 6, 7, 8, 9, 10, 11] [0] rfl rfl (by decide) (by decide) hk1 hFc hP1 hD1
  generalize H1 = H at hP hS ⊢
  have hP : va_P (dC, dI) vwCl [(q, .inr (6, [.ref s0, .ref s1, .ref s2])), (s2, .inr (3, [.ref tq, .ref rq, .ref uq])), (tq, .inr (4, [.ref ca, .long sm'_14, .int (oI lo'_15)])), (ca, .inl (cJ, 64, .inr (.inl fc'_13))), (rq, .inr (5, [.ref rb])), (rb, .inr (0, [.ref rd])), (rd, .inl (cJ, 128, .inr (.inl ft'_12))), (uq, .inr (1, [.ref bm, .ref bs])), (bm, .inr (0, [.ref am])), (am, .inl (cJ, 64, .inr (.inl fm'_10))), (bs, .inr (0, [.ref ap])), (ap, .inl (cJ, 64, .inr (.inl fs'_11)))] H := hP
  have hD : va_D A [(q, .inr (6, [.ref s0, .ref s1, .ref s2])), (s2, .inr (3, [.ref tq, .ref rq, .ref uq])), (tq, .inr (4, [.ref ca, .long sm'_14, .int (oI lo'_15)])), (ca, .inl (cJ, 64, .inr (.inl fc'_13))), (rq, .inr (5, [.ref rb])), (rb, .inr (0, [.ref rd])), (rd, .inl (cJ, 128, .inr (.inl ft'_12))), (uq, .inr (1, [.ref bm, .ref bs])), (bm, .inr (0, [.ref am])), (am, .inl (cJ, 64, .inr (.inl fm'_10))), (bs, .inr (0, [.ref ap])), (ap, .inl (cJ, 64, .inr (.inl fs'_11)))] := hD
  obtain ⟨he, hw_7⟩ := hw_7
  subst he
  refine lv_pop hx hb dX7_pollFirst_23 rfl ?_
  refine lv_iload_n hx hb dX7_pollFirst_24 rfl (lv_at hl 0 rfl) ?_
  have hP9 := hP.sub (ws' := [(q, .inr (6, [.ref s0, .ref s1, .ref s2])), (s2, .inr (3, [.ref tq, .ref rq, .ref uq])), (tq, .inr (4, [.ref ca, .long sm'_14, .int (oI lo'_15)])), (ca, .inl (cJ, 64, .inr (.inl fc'_13))), (rq, .inr (5, [.ref rb])), (rb, .inr (0, [.ref rd])), (rd, .inl (cJ, 128, .inr (.inl ft'_12))), (uq, .inr (1, [.ref bm, .ref bs])), (bm, .inr (0, [.ref am])), (am, .inl (cJ, 64, .inr (.inl fm'_10))), (bs, .inr (0, [.ref ap])), (ap, .inl (cJ, 64, .inr (.inl fs'_11)))]) [0, 1, 2, 3, 4, 5, 6, 7, 8, 9, 10, 11] rfl
  have hD9 := hD.sub (ws' := [(q, .inr (6, [.ref s0, .ref s1, .ref s2])), (s2, .inr (3, [.ref tq, .ref rq, .ref uq])), (tq, .inr (4, [.ref ca, .long sm'_14, .int (oI lo'_15)])), (ca, .inl (cJ, 64, .inr (.inl fc'_13))), (rq, .inr (5, [.ref rb])), (rb, .inr (0, [.ref rd])), (rd, .inl (cJ, 128, .inr (.inl ft'_12))), (uq, .inr (1, [.ref bm, .ref bs])), (bm, .inr (0, [.ref am])), (am, .inl (cJ, 64, .inr (.inl fm'_10))), (bs, .inr (0, [.ref ap])), (ap, .inl (cJ, 64, .inr (.inl fs'_11)))]) [0, 1, 2, 3, 4, 5, 6, 7, 8, 9, 10, 11] (by decide) rfl
  have hK9 := hK.sub (tys' := [(cJ, .long)]) [0] rfl
  exact W.iret (v := nI z) hx hb hr (fun t9 ht hW => ⟨⟨nI z, ⟨fm'_10, fs'_11, ft'_12, fc'_13, sm'_14, lo'_15⟩, rfl, (show (nI z) = nI z ∧ NI fm'_10 fs'_11 ft'_12 fc'_13 sm'_14 lo'_15 ∧ (∀ x, x < 4096 → bo fm'_10 x = del (bo fm) z x) ∧ ∀ x, x < 4096 → bo fs'_11 x = takeP (bo fm) (bo fs) z x from ⟨rfl, hw_7⟩), by rw [ht]; exact hP9, va_K.moved hW.alike hK9, hD9⟩, hS.F ht⟩) hS.2.2 dX7_pollFirst_25
set_option maxHeartbeats 4000000 in
set_option maxRecDepth 100000 in
/-- pollLast, set 2 -/
theorem c_X7_pollLast_2 (l : Launch) (dC : Nat → ClassId) (dI : Nat → Nat → Nat) (q : Nat) (s0 : Nat) (s1 : Nat) (s2 : Nat) (tq : Nat) (ca : Nat) (rq : Nat) (rb : Nat) (rd : Nat) (uq : Nat) (bm : Nat) (am : Nat) (bs : Nat) (ap : Nat) (cJ : ClassId) (fm : Nat → Int64) (fs : Nat → Int64) (ft : Nat → Int64) (fc : Nat → Int64) (sm : Int64) (lo : Option Nat) (z : Nat) (sz : Nat) (hN : NI fm fs ft fc sm lo) (hz : lst1 (bo fm) 4096 = some z) : Met l yX7_pollLast wsX7_pollLast ({ frames := 7, cells := 0, slots := 0, locals := 159 }) (va_Pc [.ref q, .int (nI 2)] (fun U => va_Nw (.fieldLinkNest RX7 62 "SmallNumberSets$NumberSet" "tree" "LSmallNumberSets$Tree;" "SmallNumberSets") U ∧ U.heap.size = sz ∧ va_P (dC, dI) vwCl [(q, .inr (6, [.ref s0, .ref s1, .ref s2])), (s2, .inr (3, [.ref tq, .ref rq, .ref uq])), (tq, .inr (4, [.ref ca, .long sm, .int (oI lo)])), (ca, .inl (cJ, 64, .inr (.inl fc))), (rq, .inr (5, [.ref rb])), (rb, .inr (0, [.ref rd])), (rd, .inl (cJ, 128, .inr (.inl ft))), (uq, .inr (1, [.ref bm, .ref bs])), (bm, .inr (0, [.ref am])), (am, .inl (cJ, 64, .inr (.inl fm))), (bs, .inr (0, [.ref ap])), (ap, .inl (cJ, 64, .inr (.inl fs)))] U.heap ∧ va_K (dC, dI) vwCl [(cJ, .long)] U ∧ va_D (fun _ => True) [(q, .inr (6, [.ref s0, .ref s1, .ref s2])), (s2, .inr (3, [.ref tq, .ref rq, .ref uq])), (tq, .inr (4, [.ref ca, .long sm, .int (oI lo)])), (ca, .inl (cJ, 64, .inr (.inl fc))), (rq, .inr (5, [.ref rb])), (rb, .inr (0, [.ref rd])), (rd, .inl (cJ, 128, .inr (.inl ft))), (uq, .inr (1, [.ref bm, .ref bs])), (bm, .inr (0, [.ref am])), (am, .inl (cJ, 64, .inr (.inl fm))), (bs, .inr (0, [.ref ap])), (ap, .inl (cJ, 64, .inr (.inl fs)))])) (va_Qi (fun (r : Int32) (u : (Nat → Int64) × (Nat → Int64) × (Nat → Int64) × (Nat → Int64) × Int64 × (Option Nat)) => r = nI z ∧ NI u.1 u.2.1 u.2.2.1 u.2.2.2.1 u.2.2.2.2.1 u.2.2.2.2.2 ∧ (∀ x, x < 4096 → bo u.1 x = del (bo fm) z x) ∧ ∀ x, x < 4096 → bo u.2.1 x = takeP (bo fm) (bo fs) z x) (fun (u : (Nat → Int64) × (Nat → Int64) × (Nat → Int64) × (Nat → Int64) × Int64 × (Option Nat)) (t : State) => va_P (dC, dI) vwCl [(q, .inr (6, [.ref s0, .ref s1, .ref s2])), (s2, .inr (3, [.ref tq, .ref rq, .ref uq])), (tq, .inr (4, [.ref ca, .long u.2.2.2.2.1, .int (oI u.2.2.2.2.2)])), (ca, .inl (cJ, 64, .inr (.inl u.2.2.2.1))), (rq, .inr (5, [.ref rb])), (rb, .inr (0, [.ref rd])), (rd, .inl (cJ, 128, .inr (.inl u.2.2.1))), (uq, .inr (1, [.ref bm, .ref bs])), (bm, .inr (0, [.ref am])), (am, .inl (cJ, 64, .inr (.inl u.1))), (bs, .inr (0, [.ref ap])), (ap, .inl (cJ, 64, .inr (.inl u.2.1)))] t.heap ∧ va_K (dC, dI) vwCl [(cJ, .long)] t ∧ va_D (va_A [(q, .inr (6, [.ref s0, .ref s1, .ref s2])), (s2, .inr (3, [.ref tq, .ref rq, .ref uq])), (tq, .inr (4, [.ref ca, .long sm, .int (oI lo)])), (ca, .inl (cJ, 64, .inr (.inl fc))), (rq, .inr (5, [.ref rb])), (rb, .inr (0, [.ref rd])), (rd, .inl (cJ, 128, .inr (.inl ft))), (uq, .inr (1, [.ref bm, .ref bs])), (bm, .inr (0, [.ref am])), (am, .inl (cJ, 64, .inr (.inl fm))), (bs, .inr (0, [.ref ap])), (ap, .inl (cJ, 64, .inr (.inl fs)))] sz) [(q, .inr (6, [.ref s0, .ref s1, .ref s2])), (s2, .inr (3, [.ref tq, .ref rq, .ref uq])), (tq, .inr (4, [.ref ca, .long u.2.2.2.2.1, .int (oI u.2.2.2.2.2)])), (ca, .inl (cJ, 64, .inr (.inl u.2.2.2.1))), (rq, .inr (5, [.ref rb])), (rb, .inr (0, [.ref rd])), (rd, .inl (cJ, 128, .inr (.inl u.2.2.1))), (uq, .inr (1, [.ref bm, .ref bs])), (bm, .inr (0, [.ref am])), (am, .inl (cJ, 64, .inr (.inl u.1))), (bs, .inr (0, [.ref ap])), (ap, .inl (cJ, 64, .inr (.inl u.2.1)))]) (va_A [(q, .inr (6, [.ref s0, .ref s1, .ref s2])), (s2, .inr (3, [.ref tq, .ref rq, .ref uq])), (tq, .inr (4, [.ref ca, .long sm, .int (oI lo)])), (ca, .inl (cJ, 64, .inr (.inl fc))), (rq, .inr (5, [.ref rb])), (rb, .inr (0, [.ref rd])), (rd, .inl (cJ, 128, .inr (.inl ft))), (uq, .inr (1, [.ref bm, .ref bs])), (bm, .inr (0, [.ref am])), (am, .inl (cJ, 64, .inr (.inl fm))), (bs, .inr (0, [.ref ap])), (ap, .inl (cJ, 64, .inr (.inl fs)))] sz)) 0 0 (va_A [(q, .inr (6, [.ref s0, .ref s1, .ref s2])), (s2, .inr (3, [.ref tq, .ref rq, .ref uq])), (tq, .inr (4, [.ref ca, .long sm, .int (oI lo)])), (ca, .inl (cJ, 64, .inr (.inl fc))), (rq, .inr (5, [.ref rb])), (rb, .inr (0, [.ref rd])), (rd, .inl (cJ, 128, .inr (.inl ft))), (uq, .inr (1, [.ref bm, .ref bs])), (bm, .inr (0, [.ref am])), (am, .inl (cJ, 64, .inr (.inl fm))), (bs, .inr (0, [.ref ap])), (ap, .inl (cJ, 64, .inr (.inl fs)))] sz) := by
  refine Met.ofW (cc := cX7_pollLast) (maxL := 4) (ret := (some .int)) (by decide) rfl ?_
  intro p e s m args below meth c s₁ B hml hv
  obtain ⟨rfl, nw0, hsz, hP, hK, hD0⟩ := hv
  have hx := B.exec
  have hb := B.bytes
  have hr := B.returns
  have hts := atoms_spec (ws := wsX7_pollLast) B.pre
  have hown : s.vm.findClass RX7 = some m.cls := findClass_of_methodNamed B.named
  have hlocks := B.notSynchronized
  subst hsz
  have hD := hD0.self (sz := s.heap.size)
  generalize hAe : va_A [(q, .inr (6, [.ref s0, .ref s1, .ref s2])), (s2, .inr (3, [.ref tq, .ref rq, .ref uq])), (tq, .inr (4, [.ref ca, .long sm, .int (oI lo)])), (ca, .inl (cJ, 64, .inr (.inl fc))), (rq, .inr (5, [.ref rb])), (rb, .inr (0, [.ref rd])), (rd, .inl (cJ, 128, .inr (.inl ft))), (uq, .inr (1, [.ref bm, .ref bs])), (bm, .inr (0, [.ref am])), (am, .inl (cJ, 64, .inr (.inl fm))), (bs, .inr (0, [.ref ap])), (ap, .inl (cJ, 64, .inr (.inl fs)))] s.heap.size = A at hD ⊢
  have hA : ∀ q : Nat, s.heap.size ≤ q → A q := fun q h => by rw [← hAe]; exact Or.inr h
  have hS : va_S A s.heap s.heap [] := va_S.rf
  have hP : va_P (dC, dI) vwCl [(q, .inr (6, [.ref s0, .ref s1, .ref s2])), (s2, .inr (3, [.ref tq, .ref rq, .ref uq])), (tq, .inr (4, [.ref ca, .long sm, .int (oI lo)])), (ca, .inl (cJ, 64, .inr (.inl fc))), (rq, .inr (5, [.ref rb])), (rb, .inr (0, [.ref rd])), (rd, .inl (cJ, 128, .inr (.inl ft))), (uq, .inr (1, [.ref bm, .ref bs])), (bm, .inr (0, [.ref am])), (am, .inl (cJ, 64, .inr (.inl fm))), (bs, .inr (0, [.ref ap])), (ap, .inl (cJ, 64, .inr (.inl fs)))] s.heap := hP
  have hl := lv_entry ([.ref q, .int (nI 2)]) (n := 4) (Nat.le_of_ble_eq_true rfl)
  rw [lg_entry_eq]
  generalize (lg_sl ([.ref q, .int (nI 2)]) ++ List.replicate (4 - (lg_sl ([.ref q, .int (nI 2)])).length) Slot.unset).toArray = ls at hl ⊢
  have hl : lv_has ls 4 [(0, .ref q), (1, .int (nI 2))] := hl
  have hzb := (lst1_some hz).1
  refine lv_aload_n hx hb dX7_pollLast_0 rfl (lv_at hl 0 rfl) ?_
  refine lv_iload_n hx hb dX7_pollLast_1 rfl (lv_at hl 1 rfl) ?_
  have hPc := hP.sub (ws' := [(q, .inr (6, [.ref s0, .ref s1, .ref s2]))]) [0] rfl
  have hKc := hK.sub (tys' := []) [] rfl
  refine va_csr (W.runV (As := [.int (nI 2)]) (rest := []) ⟨hx, hb, hml, hown, hts⟩ (c_X7_chosenSet_2 l dC dI q s0 s1 s2 ) (cwV 1 hts gX7_pollLast_X7_chosenSet rfl rfl rfl (by decide +kernel) ⟨Nat.le_of_ble_eq_true rfl, Nat.le_of_ble_eq_true rfl⟩) ⟨fun a U g mk q => by obtain ⟨q0, qP, qK⟩ := q; exact ⟨q0, qP, va_K.moved (u := U) (U := U.calling g mk a) (Vm.Alike.refl U.vm) qK⟩, va_recv hKc hPc (ci := 6) (q0 := 0) rfl rfl, fun U hU hW => ⟨rfl, by rw [hU]; exact hPc, va_K.moved hW.alike hKc⟩⟩ rfl rfl hl.1 rfl (lv_room (Nat.le_of_ble_eq_true rfl)) dX7_pollLast_2 ⟨Nat.le_of_ble_eq_true rfl, Nat.le_of_ble_eq_true rfl⟩) (fun r_2 hw_1 => ?_)
  have hw_1 := hw_1.symm
  subst hw_1
  refine lv_astore_n (lv' := [(2, .ref s2), (0, .ref q), (1, .int (nI 2))]) hx hb dX7_pollLast_5 rfl hl (by decide) rfl (fun ls hl => ?_)
  refine lv_aload_n hx hb dX7_pollLast_6 rfl (lv_at hl 0 rfl) ?_
  refine va_getN (D := (dC, dI)) (ci := 3) (v := .ref tq) (C := RX3) (T := TX3) (N := 3) hx hb hts (by decide +kernel) hown hK hP 1 rfl rfl 0 (by decide) (va_Nw.use rfl nw0) (fun _ h9 => h9) rfl dX7_pollLast_7 ?_
  have hPc := hP.sub (ws' := [(tq, .inr (4, [.ref ca, .long sm, .int (oI lo)])), (ca, .inl (cJ, 64, .inr (.inl fc)))]) [2, 3] rfl
  have hKc := hK.sub (tys' := [(cJ, .long)]) [0] rfl
  refine vp_callSi (W.runV (As := []) (rest := []) ⟨hx, hb, hml, hown, hts⟩ (c_X4_greatest l dC dI tq ca cJ fc sm lo (bo fm) hN.2.2) (cwV 0 hts gX7_pollLast_X4_greatest rfl rfl rfl (by decide +kernel) ⟨Nat.le_of_ble_eq_true rfl, Nat.le_of_ble_eq_true rfl⟩) ⟨fun a U g mk q => by obtain ⟨q0, qP, qK⟩ := q; exact ⟨q0, qP, va_K.moved (u := U) (U := U.calling g mk a) (Vm.Alike.refl U.vm) qK⟩, va_recv hKc hPc (ci := 4) (q0 := 0) rfl rfl, fun U hU hW => ⟨rfl, by rw [hU]; exact hPc, va_K.moved hW.alike hKc⟩⟩ rfl rfl hl.1 rfl (lv_room (Nat.le_of_ble_eq_true rfl)) dX7_pollLast_10 ⟨Nat.le_of_ble_eq_true rfl, Nat.le_of_ble_eq_true rfl⟩) (fun r_4 hw_3 => ?_)
  subst hw_3
  refine lv_cvi (congrArg oI (hz)) ?_
  refine lv_cvi ((rfl : oI (some z) = nI z)) ?_
  refine lv_istore_n (lv' := [(3, .int (nI z)), (2, .ref s2), (0, .ref q), (1, .int (nI 2))]) hx hb dX7_pollLast_13 rfl hl (by decide) rfl (fun ls hl => ?_)
  refine lv_iload_n hx hb dX7_pollLast_14 rfl (lv_at hl 0 rfl) ?_
  have hPc := hP.sub (ws' := []) [] rfl
  have hKc := hK.sub (tys' := []) [] rfl
  refine va_csv (W.runS (As := [.int (nI z)]) (rest := []) ⟨hx, hb, hml, hown, hts⟩ (c_X7_needMember l dC dI z (by first | assumption | omega)) (va_cwS 1 hts gX7_pollLast_X7_needMember rfl rfl rfl (by decide +kernel) ⟨Nat.le_of_ble_eq_true rfl, Nat.le_of_ble_eq_true rfl⟩) ⟨fun a U g mk q => by obtain ⟨q0, qP, qK⟩ := q; exact ⟨q0, qP, va_K.moved (u := U) (U := U.calling g mk a) (Vm.Alike.refl U.vm) qK⟩, fun U hU hW => ⟨rfl, by rw [hU]; exact hPc, va_K.moved hW.alike hKc⟩⟩ rfl rfl hl.1 rfl (lv_room (Nat.le_of_ble_eq_true rfl)) dX7_pollLast_15 ⟨Nat.le_of_ble_eq_true rfl, Nat.le_of_ble_eq_true rfl⟩) (fun _ => ?_)
  refine lv_aload_n hx hb dX7_pollLast_18 rfl (lv_at hl 1 rfl) ?_
  refine lv_iload_n hx hb dX7_pollLast_19 rfl (lv_at hl 0 rfl) ?_
  have hPc := hP.sub (ws' := [(s2, .inr (3, [.ref tq, .ref rq, .ref uq])), (tq, .inr (4, [.ref ca, .long sm, .int (oI lo)])), (ca, .inl (cJ, 64, .inr (.inl fc))), (rq, .inr (5, [.ref rb])), (rb, .inr (0, [.ref rd])), (rd, .inl (cJ, 128, .inr (.inl ft))), (uq, .inr (1, [.ref bm, .ref bs])), (bm, .inr (0, [.ref am])), (am, .inl (cJ, 64, .inr (.inl fm))), (bs, .inr (0, [.ref ap])), (ap, .inl (cJ, 64, .inr (.inl fs)))]) [1, 2, 3, 4, 5, 6, 7, 8, 9, 10, 11] rfl
  have hKc := hK.sub (tys' := [(cJ, .long)]) [0] rfl
  have hDc := hD.sub (ws' := [(s2, .inr (3, [.ref tq, .ref rq, .ref uq])), (tq, .inr (4, [.ref ca, .long sm, .int (oI lo)])), (ca, .inl (cJ, 64, .inr (.inl fc))), (rq, .inr (5, [.ref rb])), (rb, .inr (0, [.ref rd])), (rd, .inl (cJ, 128, .inr (.inl ft))), (uq, .inr (1, [.ref bm, .ref bs])), (bm, .inr (0, [.ref am])), (am, .inl (cJ, 64, .inr (.inl fm))), (bs, .inr (0, [.ref ap])), (ap, .inl (cJ, 64, .inr (.inl fs)))]) [1, 2, 3, 4, 5, 6, 7, 8, 9, 10, 11] (by decide) rfl
  have hFc := va_free (wc := [(s2, .inr (3, [.ref tq, .ref rq, .ref uq])), (tq, .inr (4, [.ref ca, .long sm, .int (oI lo)])), (ca, .inl (cJ, 64, .inr (.inl fc))), (rq, .inr (5, [.ref rb])), (rb, .inr (0, [.ref rd])), (rd, .inl (cJ, 128, .inr (.inl ft))), (uq, .inr (1, [.ref bm, .ref bs])), (bm, .inr (0, [.ref am])), (am, .inl (cJ, 64, .inr (.inl fm))), (bs, .inr (0, [.ref ap])), (ap, .inl (cJ, 64, .inr (.inl fs)))]) hD hS hA [1, 2, 3, 4, 5, 6, 7, 8, 9, 10, 11] rfl
  refine va_calli (va_runV (As := [.int (nI z)]) (rest := []) ⟨hx, hb, hml, hown, hts⟩ (c_X3_take l dC dI s2 tq ca rq rb rd uq bm am bs ap cJ fm fs ft fc sm lo z s.heap.size (by first | assumption | omega) (by first | assumption | omega)) (cwV 1 hts gX7_pollLast_X3_take rfl rfl rfl (by decide +kernel) ⟨Nat.le_of_ble_eq_true rfl, Nat.le_of_ble_eq_true rfl⟩) ⟨fun a U g mk q => by obtain ⟨q0, q1, qP, qK, qD⟩ := q; exact ⟨q0, q1, qP, va_K.moved (u := U) (U := U.calling g mk a) (Vm.Alike.refl U.vm) qK, qD⟩, va_recv hKc hPc (ci := 3) (q0 := 0) rfl rfl, fun U hU hW => ⟨rfl, by rw [hU], by rw [hU]; exact hPc, va_K.moved hW.alike hKc, hDc.weaken (fun _ _ _ _ => trivial)⟩⟩ rfl rfl hl.1 rfl (lv_room (Nat.le_of_ble_eq_true rfl)) dX7_pollLast_20 ⟨Nat.le_of_ble_eq_true rfl, Nat.le_of_ble_eq_true rfl⟩) hS (fun q _ h => hFc q h) hFc (fun r_9 u_8 t9 H1 locs ht hvm hw_7 hB hz1 hk1 hS => ?_)
  obtain ⟨fm'_10, fs'_11, ft'_12, fc'_13, sm'_14, lo'_15⟩ := u_8
  obtain ⟨hP1, hK1, hD1⟩ := hB
  rw [ht] at hP1
  have hK1 := va_K.moved hvm.symm hK1
  try dsimp only at hw_7 hP1 hK1 hD1
  obtain ⟨hP, hD⟩ := va_join (wr := [(q, .inr (6, [.ref s0, .ref s1, .ref s2]))]) (w1 := [(s2, .inr (3, [.ref tq, .ref rq, .ref uq])), (tq, .inr (4, [.ref ca, .long sm'_14, .int (oI lo'_15)])), (ca, .inl (cJ, 64, .inr (.inl fc'_13))), (rq, .inr (5, [.ref rb])), (rb, .inr (0, [.ref rd])), (rd, .inl (cJ, 128, .inr (.inl ft'_12))), (uq, .inr (1, [.ref bm, .ref bs])), (bm, .inr (0, [.ref am])), (am, .inl (cJ, 64, .inr (.inl fm'_10))), (bs, .inr (0, [.ref ap])), (ap, .inl (cJ, 64, .inr (.inl fs'_11)))]) hP hD [1, 2, 3, 4, 5, 6, 7, 8, 9, 10, 11] [0] rfl rfl (by decide) (by decide) hk1 hFc hP1 hD1
  generalize H1 = H at hP hS ⊢
  have hP : va_P (dC, dI) vwCl [(q, .inr (6, [.ref s0, .ref s1, .ref s2])), (s2, .inr (3, [.ref tq, .ref rq, .ref uq])), (tq, .inr (4, [.ref ca, .long sm'_14, .int (oI lo'_15)])), (ca, .inl (cJ, 64, .inr (.inl fc'_13))), (rq, .inr (5, [.ref rb])), (rb, .inr (0, [.ref rd])), (rd, .inl (cJ, 128, .inr (.inl ft'_12))), (uq, .inr (1, [.ref bm, .ref bs])), (bm, .inr (0, [.ref am])), (am, .inl (cJ, 64, .inr (.inl fm'_10))), (bs, .inr (0, [.ref ap])), (ap, .inl (cJ, 64, .inr (.inl fs'_11)))] H := hP
  have hD : va_D A [(q, .inr (6, [.ref s0, .ref s1, .ref s2])), (s2, .inr (3, [.ref tq, .ref rq, .ref uq])), (tq, .inr (4, [.ref ca, .long sm'_14, .int (oI lo'_15)])), (ca, .inl (cJ, 64, .inr (.inl fc'_13))), (rq, .inr (5, [.ref rb])), (rb, .inr (0, [.ref rd])), (rd, .inl (cJ, 128, .inr (.inl ft'_12))), (uq, .inr (1, [.ref bm, .ref bs])), (bm, .inr (0, [.ref am])), (am, .inl (cJ, 64, .inr (.inl fm'_10))), (bs, .inr (0, [.ref ap])), (ap, .inl (cJ, 64, .inr (.inl fs'_11)))] := hD
  obtain ⟨he, hw_7⟩ := hw_7
  subst he
  refine lv_pop hx hb dX7_pollLast_23 rfl ?_
  refine lv_iload_n hx hb dX7_pollLast_24 rfl (lv_at hl 0 rfl) ?_
  have hP9 := hP.sub (ws' := [(q, .inr (6, [.ref s0, .ref s1, .ref s2])), (s2, .inr (3, [.ref tq, .ref rq, .ref uq])), (tq, .inr (4, [.ref ca, .long sm'_14, .int (oI lo'_15)])), (ca, .inl (cJ, 64, .inr (.inl fc'_13))), (rq, .inr (5, [.ref rb])), (rb, .inr (0, [.ref rd])), (rd, .inl (cJ, 128, .inr (.inl ft'_12))), (uq, .inr (1, [.ref bm, .ref bs])), (bm, .inr (0, [.ref am])), (am, .inl (cJ, 64, .inr (.inl fm'_10))), (bs, .inr (0, [.ref ap])), (ap, .inl (cJ, 64, .inr (.inl fs'_11)))]) [0, 1, 2, 3, 4, 5, 6, 7, 8, 9, 10, 11] rfl
  have hD9 := hD.sub (ws' := [(q, .inr (6, [.ref s0, .ref s1, .ref s2])), (s2, .inr (3, [.ref tq, .ref rq, .ref uq])), (tq, .inr (4, [.ref ca, .long sm'_14, .int (oI lo'_15)])), (ca, .inl (cJ, 64, .inr (.inl fc'_13))), (rq, .inr (5, [.ref rb])), (rb, .inr (0, [.ref rd])), (rd, .inl (cJ, 128, .inr (.inl ft'_12))), (uq, .inr (1, [.ref bm, .ref bs])), (bm, .inr (0, [.ref am])), (am, .inl (cJ, 64, .inr (.inl fm'_10))), (bs, .inr (0, [.ref ap])), (ap, .inl (cJ, 64, .inr (.inl fs'_11)))]) [0, 1, 2, 3, 4, 5, 6, 7, 8, 9, 10, 11] (by decide) rfl
  have hK9 := hK.sub (tys' := [(cJ, .long)]) [0] rfl
  exact W.iret (v := nI z) hx hb hr (fun t9 ht hW => ⟨⟨nI z, ⟨fm'_10, fs'_11, ft'_12, fc'_13, sm'_14, lo'_15⟩, rfl, (show (nI z) = nI z ∧ NI fm'_10 fs'_11 ft'_12 fc'_13 sm'_14 lo'_15 ∧ (∀ x, x < 4096 → bo fm'_10 x = del (bo fm) z x) ∧ ∀ x, x < 4096 → bo fs'_11 x = takeP (bo fm) (bo fs) z x from ⟨rfl, hw_7⟩), by rw [ht]; exact hP9, va_K.moved hW.alike hK9, hD9⟩, hS.F ht⟩) hS.2.2 dX7_pollLast_25
