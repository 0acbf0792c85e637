set_option maxHeartbeats 4000000 in
set_option maxRecDepth 100000 in
/-- reference: above -/
theorem c_X8_above (l : Launch) (dC : Nat → ClassId) (dI : Nat → Nat → Nat) (q : Nat) (mq : Nat) (zq : Nat) (sq : Nat) (bq : Nat) (cq : Nat) (pq : Nat) (cZ : ClassId) (cI : ClassId) (cJ : ClassId) (fM : Nat → Int32) (fS : Nat → Int32) (fP : Nat → Int32) (fB : Nat → Int32) (fC : Nat → Int64) (sm : Int64) (fT : Nat → Int32) (ps : Int32) (th : Int32) (M : Nat → Nat → Bool) (k : Nat) (a : Nat) (hM : MM fM M) (hk : k < 3) (ha : a ≤ 4096) : Met l yX8_above wsX8_above ({ frames := 1, cells := 0, slots := 0, locals := 22 }) (va_Pc [.ref q, .int (nI k), .int (nI a)] (fun U => va_P (dC, dI) vwCl [(q, .inr (7, [.ref mq, .ref zq, .ref sq, .ref bq, .ref cq, .long sm, .ref pq, .int ps, .int th])), (mq, .inl (cZ, 12288, .inl fM)), (zq, .inl (cI, 3, .inl fS)), (sq, .inl (cI, 6156, .inl fP)), (bq, .inl (cI, 3, .inl fB)), (cq, .inl (cJ, 64, .inr (.inl fC))), (pq, .inl (cI, 8, .inl fT))] U.heap ∧ va_K (dC, dI) vwCl [(cZ, .boolean), (cI, .int), (cJ, .long)] U)) (vp_Si (fun r => r = nI (abv (M k) a))) 0 0 (fun _ => False) := by
  refine Met.ofW (cc := cX8_above) (maxL := 4) (ret := (some .int)) (by decide) rfl ?_
  intro p e s m args below meth c s₁ B hml hv
  obtain ⟨rfl, hP, hK⟩ := hv
  have hx := B.exec
  have hb := B.bytes
  have hr := B.returns
  have hts := atoms_spec (ws := wsX8_above) B.pre
  have hown : s.vm.findClass RX8 = some m.cls := findClass_of_methodNamed B.named
  have hlocks := B.notSynchronized
  have hP : va_P (dC, dI) vwCl [(q, .inr (7, [.ref mq, .ref zq, .ref sq, .ref bq, .ref cq, .long sm, .ref pq, .int ps, .int th])), (mq, .inl (cZ, 12288, .inl fM)), (zq, .inl (cI, 3, .inl fS)), (sq, .inl (cI, 6156, .inl fP)), (bq, .inl (cI, 3, .inl fB)), (cq, .inl (cJ, 64, .inr (.inl fC))), (pq, .inl (cI, 8, .inl fT))] s.heap := hP
  have hl := lv_entry ([.ref q, .int (nI k), .int (nI a)]) (n := 4) (Nat.le_of_ble_eq_true rfl)
  rw [lg_entry_eq]
  generalize (lg_sl ([.ref q, .int (nI k), .int (nI a)]) ++ List.replicate (4 - (lg_sl ([.ref q, .int (nI k), .int (nI a)])).length) Slot.unset).toArray = ls at hl ⊢
  have hl : lv_has ls 4 [(0, .ref q), (1, .int (nI k)), (2, .int (nI a))] := hl
  refine lv_iload_n hx hb dX8_above_0 rfl (lv_at hl 2 rfl) ?_
  refine lv_istore_n (lv' := [(3, .int (nI a)), (0, .ref q), (1, .int (nI k)), (2, .int (nI a))]) hx hb dX8_above_1 rfl hl (by decide) rfl (fun ls hl => ?_)
  have key_2_1 : ∀ (fu : Nat) (i : Nat) (hi1 : a ≤ i ∧ i ≤ 4096) (hno : ∀ j, a ≤ j → j < i → M k j = false) (hfu : 4096 - i < fu) (ls : Array Slot) (hl : lv_has ls 4 [(3, .int (nI i)), (0, .ref q), (1, .int (nI k)), (2, .int (nI a))]), W p l e (headSpec wsX8_above ({ frames := 1, cells := 0, slots := 0, locals := 22 })).room s m ([.ref q, .int (nI k), .int (nI a)] : List Value).toArray below meth c s.heap [] 0 0 (MQ below (vp_Si (fun r => r = nI (abv (M k) a))) ([.ref q, .int (nI k), .int (nI a)] : List Value).toArray s 0 0 (fun _ => False)) (F0 m 2 ls []) := by
    intro fu
    induction fu with
    | zero =>
      intro i hi1 hno hfu ls hl
      exact absurd hfu (Nat.not_lt_zero _)
    | succ fu ih_2 =>
      intro i hi1 hno hfu ls hl
      refine lv_iload_n hx hb dX8_above_2 rfl (lv_at hl 0 rfl) ?_
      refine lv_sipush (v := nI 4096) hx hb dX8_above_3 (by decide +kernel) ?_
      refine lv_icmp_ge (tgt := 24) hx hb dX8_above_6 (by decide) (fun qc_2 => ?_) (fun qc_2 => ?_)
      · have c_2 : 4096 ≤ i := (nI_leI (a := 4096) (b := i) (by omega) (by omega)).mp qc_2
        refine lv_iload_n hx hb dX8_above_24 rfl (lv_at hl 0 rfl) ?_
        exact W.iret (v := nI i) hx hb hr (fun t9 ht hW => ⟨nI i, rfl, by first | exact congrArg nI (abv_some hi1.1 (by omega) c_2 hno).symm | (rw [abv_none fun j h1 h2 => hno j h1 (by omega), show i = 4096 by omega]), ht⟩) (fun q h => by cases h) dX8_above_25
      · have c_2 : ¬ 4096 ≤ i := fun h9 => qc_2 ((nI_leI (a := 4096) (b := i) (by omega) (by omega)).mpr h9)
        refine lv_aload_n hx hb dX8_above_9 rfl (lv_at hl 1 rfl) ?_
        refine lv_iload_n hx hb dX8_above_10 rfl (lv_at hl 2 rfl) ?_
        refine lv_iload_n hx hb dX8_above_11 rfl (lv_at hl 0 rfl) ?_
        have hPc := hP.sub (ws' := [(q, .inr (7, [.ref mq, .ref zq, .ref sq, .ref bq, .ref cq, .long sm, .ref pq, .int ps, .int th])), (mq, .inl (cZ, 12288, .inl fM)), (zq, .inl (cI, 3, .inl fS)), (sq, .inl (cI, 6156, .inl fP)), (bq, .inl (cI, 3, .inl fB)), (cq, .inl (cJ, 64, .inr (.inl fC))), (pq, .inl (cI, 8, .inl fT))]) [0, 1, 2, 3, 4, 5, 6] rfl
        have hKc := hK.sub (tys' := [(cZ, .boolean), (cI, .int), (cJ, .long)]) [0, 1, 2] rfl
        refine vp_callSi (W.runV (As := [.int (nI k), .int (nI i)]) (rest := []) ⟨hx, hb, hml, hown, hts⟩ (c_X8_has l dC dI q mq zq sq bq cq pq cZ cI cJ fM fS fP fB fC sm fT ps th M k i (by first | assumption | omega) (by first | assumption | omega) (by first | assumption | omega)) (cwV 2 hts gX8_above_X8_has rfl rfl rfl (by decide +kernel) ⟨Nat.le_of_ble_eq_true rfl, Nat.le_of_ble_eq_true rfl⟩) ⟨fun a U g mk q => by obtain ⟨q0, qP, qK⟩ := q; exact ⟨q0, qP, va_K.moved (u := U) (U := U.calling g mk a) (Vm.Alike.refl U.vm) qK⟩, va_recv hKc hPc (ci := 7) (q0 := 0) rfl rfl, fun U hU hW => ⟨rfl, by rw [hU]; exact hPc, va_K.moved hW.alike hKc⟩⟩ rfl rfl hl.1 rfl (lv_room (Nat.le_of_ble_eq_true rfl)) dX8_above_12 ⟨Nat.le_of_ble_eq_true rfl, Nat.le_of_ble_eq_true rfl⟩) (fun r_4 hw_3 => ?_)
        subst hw_3
        refine lv_if_ne (tgt := 24) hx hb dX8_above_15 (by decide) (fun qc_5 => ?_) (fun qc_5 => ?_)
        · have c_5 : (M k i) = true := b2i_t qc_5
          refine lv_iload_n hx hb dX8_above_24 rfl (lv_at hl 0 rfl) ?_
          exact W.iret (v := nI i) hx hb hr (fun t9 ht hW => ⟨nI i, rfl, by first | exact congrArg nI (abv_some hi1.1 (by omega) c_5 hno).symm | (rw [abv_none fun j h1 h2 => hno j h1 (by omega), show i = 4096 by omega]), ht⟩) (fun q h => by cases h) dX8_above_25
        · have c_5 : (M k i) = false := b2i_f qc_5
          refine lv_iinc (v := nI (i + 1)) (lv' := [(3, .int (nI (i + 1))), (0, .ref q), (1, .int (nI k)), (2, .int (nI a))]) hx hb dX8_above_18 hl (k := 0) rfl (nI_1 _) (by decide) rfl (fun ls hl => ?_)
          refine lv_goto (tgt := 2) hx hb dX8_above_21 (by decide) ?_
          exact ih_2 (i + 1) (by omega) (no_s hno c_5) (by omega) ls (lv_sub hl [0, 1, 2, 3] rfl)
  exact key_2_1 _ a (by omega) (fun j h1 h2 => by omega) (Nat.lt_succ_self _) ls (lv_sub hl [0, 1, 2, 3] rfl)
set_option maxHeartbeats 4000000 in
set_option maxRecDepth 100000 in
/-- reference: below -/
theorem c_X8_below (l : Launch) (dC : Nat → ClassId) (dI : Nat → Nat → Nat) (q : Nat) (mq : Nat) (zq : Nat) (sq : Nat) (bq : Nat) (cq : Nat) (pq : Nat) (cZ : ClassId) (cI : ClassId) (cJ : ClassId) (fM : Nat → Int32) (fS : Nat → Int32) (fP : Nat → Int32) (fB : Nat → Int32) (fC : Nat → Int64) (sm : Int64) (fT : Nat → Int32) (ps : Int32) (th : Int32) (M : Nat → Nat → Bool) (k : Nat) (d : Nat) (hM : MM fM M) (hk : k < 3) (hd : d ≤ 4096) : Met l yX8_below wsX8_below ({ frames := 1, cells := 0, slots := 0, locals := 22 }) (va_Pc [.ref q, .int (nI k), .int (dm d)] (fun U => va_P (dC, dI) vwCl [(q, .inr (7, [.ref mq, .ref zq, .ref sq, .ref bq, .ref cq, .long sm, .ref pq, .int ps, .int th])), (mq, .inl (cZ, 12288, .inl fM)), (zq, .inl (cI, 3, .inl fS)), (sq, .inl (cI, 6156, .inl fP)), (bq, .inl (cI, 3, .inl fB)), (cq, .inl (cJ, 64, .inr (.inl fC))), (pq, .inl (cI, 8, .inl fT))] U.heap ∧ va_K (dC, dI) vwCl [(cZ, .boolean), (cI, .int), (cJ, .long)] U)) (vp_Si (fun r => r = oI (lst1 (M k) d))) 0 0 (fun _ => False) := by
  refine Met.ofW (cc := cX8_below) (maxL := 4) (ret := (some .int)) (by decide) rfl ?_
  intro p e s m args below meth c s₁ B hml hv
  obtain ⟨rfl, hP, hK⟩ := hv
  have hx := B.exec
  have hb := B.bytes
  have hr := B.returns
  have hts := atoms_spec (ws := wsX8_below) B.pre
  have hown : s.vm.findClass RX8 = some m.cls := findClass_of_methodNamed B.named
  have hlocks := B.notSynchronized
  have hP : va_P (dC, dI) vwCl [(q, .inr (7, [.ref mq, .ref zq, .ref sq, .ref bq, .ref cq, .long sm, .ref pq, .int ps, .int th])), (mq, .inl (cZ, 12288, .inl fM)), (zq, .inl (cI, 3, .inl fS)), (sq, .inl (cI, 6156, .inl fP)), (bq, .inl (cI, 3, .inl fB)), (cq, .inl (cJ, 64, .inr (.inl fC))), (pq, .inl (cI, 8, .inl fT))] s.heap := hP
  have hl := lv_entry ([.ref q, .int (nI k), .int (dm d)]) (n := 4) (Nat.le_of_ble_eq_true rfl)
  rw [lg_entry_eq]
  generalize (lg_sl ([.ref q, .int (nI k), .int (dm d)]) ++ List.replicate (4 - (lg_sl ([.ref q, .int (nI k), .int (dm d)])).length) Slot.unset).toArray = ls at hl ⊢
  have hl : lv_has ls 4 [(0, .ref q), (1, .int (nI k)), (2, .int (dm d))] := hl
  refine lv_iload_n hx hb dX8_below_0 rfl (lv_at hl 2 rfl) ?_
  refine lv_istore_n (lv' := [(3, .int (dm d)), (0, .ref q), (1, .int (nI k)), (2, .int (dm d))]) hx hb dX8_below_1 rfl hl (by decide) rfl (fun ls hl => ?_)
  have key_2_1 : ∀ (fu : Nat) (ee : Nat) (he1 : ee ≤ d) (hno : ∀ j, ee ≤ j → j < d → M k j = false) (hfu : ee < fu) (ls : Array Slot) (hl : lv_has ls 4 [(3, .int (dm ee)), (0, .ref q), (1, .int (nI k)), (2, .int (dm d))]), W p l e (headSpec wsX8_below ({ frames := 1, cells := 0, slots := 0, locals := 22 })).room s m ([.ref q, .int (nI k), .int (dm d)] : List Value).toArray below meth c s.heap [] 0 0 (MQ below (vp_Si (fun r => r = oI (lst1 (M k) d))) ([.ref q, .int (nI k), .int (dm d)] : List Value).toArray s 0 0 (fun _ => False)) (F0 m 2 ls []) := by
    intro fu
    induction fu with
    | zero =>
      intro ee he1 hno hfu ls hl
      exact absurd hfu (Nat.not_lt_zero _)
    | succ fu ih_2 =>
      intro ee he1 hno hfu ls hl
      rcases ee with _ | ee
      · have hl : lv_has ls 4 [(3, .int (-1)), (0, .ref q), (1, .int (nI k)), (2, .int (dm d))] := hl
        refine lv_iload_n hx hb dX8_below_2 rfl (lv_at hl 0 rfl) ?_
        refine lv_if_lt (tgt := 21) hx hb dX8_below_3 (by decide) (fun qc_2 => ?_) (fun qc_2 => ?_)
        · refine lv_iload_n hx hb dX8_below_21 rfl (lv_at hl 0 rfl) ?_
          exact W.iret (v := -1) hx hb hr (fun t9 ht hW => ⟨-1, rfl, by rw [lst1_none.mpr fun j hj => hno j (Nat.zero_le _) hj]; rfl, ht⟩) (fun q h => by cases h) dX8_below_22
        · exact absurd (by decide) qc_2
      · have hl : lv_has ls 4 [(3, .int (nI ee)), (0, .ref q), (1, .int (nI k)), (2, .int (dm d))] := hl
        refine lv_iload_n hx hb dX8_below_2 rfl (lv_at hl 0 rfl) ?_
        refine lv_if_lt (tgt := 21) hx hb dX8_below_3 (by decide) (fun qc_3 => ?_) (fun qc_3 => ?_)
        · have c_3 : ee < 0 := (nI_ltI (a := ee) (b := 0) (by omega) (by omega)).mp qc_3
          exact absurd c_3 (Nat.not_lt_zero _)
        · have c_3 : ¬ ee < 0 := fun h9 => qc_3 ((nI_ltI (a := ee) (b := 0) (by omega) (by omega)).mpr h9)
          refine lv_aload_n hx hb dX8_below_6 rfl (lv_at hl 1 rfl) ?_
          refine lv_iload_n hx hb dX8_below_7 rfl (lv_at hl 2 rfl) ?_
          refine lv_iload_n hx hb dX8_below_8 rfl (lv_at hl 0 rfl) ?_
          have hPc := hP.sub (ws' := [(q, .inr (7, [.ref mq, .ref zq, .ref sq, .ref bq, .ref cq, .long sm, .ref pq, .int ps, .int th])), (mq, .inl (cZ, 12288, .inl fM)), (zq, .inl (cI, 3, .inl fS)), (sq, .inl (cI, 6156, .inl fP)), (bq, .inl (cI, 3, .inl fB)), (cq, .inl (cJ, 64, .inr (.inl fC))), (pq, .inl (cI, 8, .inl fT))]) [0, 1, 2, 3, 4, 5, 6] rfl
          have hKc := hK.sub (tys' := [(cZ, .boolean), (cI, .int), (cJ, .long)]) [0, 1, 2] rfl
          refine vp_callSi (W.runV (As := [.int (nI k), .int (nI ee)]) (rest := []) ⟨hx, hb, hml, hown, hts⟩ (c_X8_has l dC dI q mq zq sq bq cq pq cZ cI cJ fM fS fP fB fC sm fT ps th M k ee (by first | assumption | omega) (by first | assumption | omega) (by first | assumption | omega)) (cwV 2 hts gX8_below_X8_has rfl rfl rfl (by decide +kernel) ⟨Nat.le_of_ble_eq_true rfl, Nat.le_of_ble_eq_true rfl⟩) ⟨fun a U g mk q => by obtain ⟨q0, qP, qK⟩ := q; exact ⟨q0, qP, va_K.moved (u := U) (U := U.calling g mk a) (Vm.Alike.refl U.vm) qK⟩, va_recv hKc hPc (ci := 7) (q0 := 0) rfl rfl, fun U hU hW => ⟨rfl, by rw [hU]; exact hPc, va_K.moved hW.alike hKc⟩⟩ rfl rfl hl.1 rfl (lv_room (Nat.le_of_ble_eq_true rfl)) dX8_below_9 ⟨Nat.le_of_ble_eq_true rfl, Nat.le_of_ble_eq_true rfl⟩) (fun r_5 hw_4 => ?_)
          subst hw_4
          refine lv_if_ne (tgt := 21) hx hb dX8_below_12 (by decide) (fun qc_6 => ?_) (fun qc_6 => ?_)
          · have c_6 : (M k ee) = true := b2i_t qc_6
            refine lv_iload_n hx hb dX8_below_21 rfl (lv_at hl 0 rfl) ?_
            exact W.iret (v := nI ee) hx hb hr (fun t9 ht hW => ⟨nI ee, rfl, by rw [lst1_of (by omega) c_6 fun j h1 h2 => hno j (by omega) h2]; rfl, ht⟩) (fun q h => by cases h) dX8_below_22
          · have c_6 : (M k ee) = false := b2i_f qc_6
            refine lv_iinc (v := dm ee) (lv' := [(3, .int (dm ee)), (0, .ref q), (1, .int (nI k)), (2, .int (dm d))]) hx hb dX8_below_15 hl (k := 0) rfl (dm_dec _) (by decide) rfl (fun ls hl => ?_)
            refine lv_goto (tgt := 2) hx hb dX8_below_18 (by decide) ?_
            exact ih_2 ee (by omega) (no_d hno c_6) (by omega) ls (lv_sub hl [0, 1, 2, 3] rfl)
  exact key_2_1 _ d (Nat.le_refl _) (fun j h1 h2 => by omega) (Nat.lt_succ_self _) ls (lv_sub hl [0, 1, 2, 3] rfl)
set_option maxHeartbeats 4000000 in
set_option maxRecDepth 100000 in
/-- reference: before -/
theorem c_X8_before (l : Launch) (dC : Nat → ClassId) (dI : Nat → Nat → Nat) (q : Nat) (mq : Nat) (zq : Nat) (sq : Nat) (bq : Nat) (cq : Nat) (pq : Nat) (cZ : ClassId) (cI : ClassId) (cJ : ClassId) (fM : Nat → Int32) (fS : Nat → Int32) (fP : Nat → Int32) (fB : Nat → Int32) (fC : Nat → Int64) (sm : Int64) (fT : Nat → Int32) (ps : Int32) (th : Int32) (M : Nat → Nat → Bool) (k : Nat) (x : Nat) (hM : MM fM M) (hk : k < 3) (hxx : x ≤ 4096) : Met l yX8_before wsX8_before ({ frames := 1, cells := 0, slots := 0, locals := 22 }) (va_Pc [.ref q, .int (nI k), .int (nI x)] (fun U => va_P (dC, dI) vwCl [(q, .inr (7, [.ref mq, .ref zq, .ref sq, .ref bq, .ref cq, .long sm, .ref pq, .int ps, .int th])), (mq, .inl (cZ, 12288, .inl fM)), (zq, .inl (cI, 3, .inl fS)), (sq, .inl (cI, 6156, .inl fP)), (bq, .inl (cI, 3, .inl fB)), (cq, .inl (cJ, 64, .inr (.inl fC))), (pq, .inl (cI, 8, .inl fT))] U.heap ∧ va_K (dC, dI) vwCl [(cZ, .boolean), (cI, .int), (cJ, .long)] U)) (vp_Si (fun r => r = nI (fb_ct (M k) x))) 0 0 (fun _ => False) := by
  refine Met.ofW (cc := cX8_before) (maxL := 5) (ret := (some .int)) (by decide) rfl ?_
  intro p e s m args below meth c s₁ B hml hv
  obtain ⟨rfl, hP, hK⟩ := hv
  have hx := B.exec
  have hb := B.bytes
  have hr := B.returns
  have hts := atoms_spec (ws := wsX8_before) B.pre
  have hown : s.vm.findClass RX8 = some m.cls := findClass_of_methodNamed B.named
  have hlocks := B.notSynchronized
  have hP : va_P (dC, dI) vwCl [(q, .inr (7, [.ref mq, .ref zq, .ref sq, .ref bq, .ref cq, .long sm, .ref pq, .int ps, .int th])), (mq, .inl (cZ, 12288, .inl fM)), (zq, .inl (cI, 3, .inl fS)), (sq, .inl (cI, 6156, .inl fP)), (bq, .inl (cI, 3, .inl fB)), (cq, .inl (cJ, 64, .inr (.inl fC))), (pq, .inl (cI, 8, .inl fT))] s.heap := hP
  have hl := lv_entry ([.ref q, .int (nI k), .int (nI x)]) (n := 5) (Nat.le_of_ble_eq_true rfl)
  rw [lg_entry_eq]
  generalize (lg_sl ([.ref q, .int (nI k), .int (nI x)]) ++ List.replicate (5 - (lg_sl ([.ref q, .int (nI k), .int (nI x)])).length) Slot.unset).toArray = ls at hl ⊢
  have hl : lv_has ls 5 [(0, .ref q), (1, .int (nI k)), (2, .int (nI x))] := hl
  refine lv_iconst (v := nI 0) hx hb dX8_before_0 (by decide +kernel) ?_
  refine lv_istore_n (lv' := [(3, .int (nI 0)), (0, .ref q), (1, .int (nI k)), (2, .int (nI x))]) hx hb dX8_before_1 rfl hl (by decide) rfl (fun ls hl => ?_)
  refine lv_iconst (v := nI 0) hx hb dX8_before_2 (by decide +kernel) ?_
  refine lv_istore (lv' := [(4, .int (nI 0)), (3, .int (nI 0)), (0, .ref q), (1, .int (nI k)), (2, .int (nI x))]) hx hb dX8_before_3 hl (by decide) rfl (fun ls hl => ?_)
  have key_5_1 : ∀ (fu : Nat) (i : Nat) (t : Nat) (hi1 : i ≤ x) (hti : t = fb_ct (M k) i) (hfu : x - i < fu) (ls : Array Slot) (hl : lv_has ls 5 [(4, .int (nI i)), (3, .int (nI t)), (0, .ref q), (1, .int (nI k)), (2, .int (nI x))]), W p l e (headSpec wsX8_before ({ frames := 1, cells := 0, slots := 0, locals := 22 })).room s m ([.ref q, .int (nI k), .int (nI x)] : List Value).toArray below meth c s.heap [] 0 0 (MQ below (vp_Si (fun r => r = nI (fb_ct (M k) x))) ([.ref q, .int (nI k), .int (nI x)] : List Value).toArray s 0 0 (fun _ => False)) (F0 m 5 ls []) := by
    intro fu
    induction fu with
    | zero =>
      intro i t hi1 hti hfu ls hl
      exact absurd hfu (Nat.not_lt_zero _)
    | succ fu ih_5 =>
      intro i t hi1 hti hfu ls hl
      refine lv_iload hx hb dX8_before_5 (lv_at hl 0 rfl) ?_
      refine lv_iload_n hx hb dX8_before_7 rfl (lv_at hl 4 rfl) ?_
      refine lv_icmp_ge (tgt := 35) hx hb dX8_before_8 (by decide) (fun qc_2 => ?_) (fun qc_2 => ?_)
      · have c_2 : x ≤ i := (nI_leI (a := x) (b := i) (by omega) (by omega)).mp qc_2
        refine lv_iload_n hx hb dX8_before_35 rfl (lv_at hl 1 rfl) ?_
        exact W.iret (v := nI t) hx hb hr (fun t9 ht hW => ⟨nI t, rfl, congrArg nI (by rw [hti, show i = x by omega]), ht⟩) (fun q h => by cases h) dX8_before_36
      · have c_2 : ¬ x ≤ i := fun h9 => qc_2 ((nI_leI (a := x) (b := i) (by omega) (by omega)).mpr h9)
        refine lv_iload_n hx hb dX8_before_11 rfl (lv_at hl 1 rfl) ?_
        refine lv_aload_n hx hb dX8_before_12 rfl (lv_at hl 2 rfl) ?_
        refine lv_iload_n hx hb dX8_before_13 rfl (lv_at hl 3 rfl) ?_
        refine lv_iload hx hb dX8_before_14 (lv_at hl 0 rfl) ?_
        have hPc := hP.sub (ws' := [(q, .inr (7, [.ref mq, .ref zq, .ref sq, .ref bq, .ref cq, .long sm, .ref pq, .int ps, .int th])), (mq, .inl (cZ, 12288, .inl fM)), (zq, .inl (cI, 3, .inl fS)), (sq, .inl (cI, 6156, .inl fP)), (bq, .inl (cI, 3, .inl fB)), (cq, .inl (cJ, 64, .inr (.inl fC))), (pq, .inl (cI, 8, .inl fT))]) [0, 1, 2, 3, 4, 5, 6] rfl
        have hKc := hK.sub (tys' := [(cZ, .boolean), (cI, .int), (cJ, .long)]) [0, 1, 2] rfl
        refine vp_callSi (W.runV (As := [.int (nI k), .int (nI i)]) (rest := [.int (nI t)]) ⟨hx, hb, hml, hown, hts⟩ (c_X8_has l dC dI q mq zq sq bq cq pq cZ cI cJ fM fS fP fB fC sm fT ps th M k i (by first | assumption | omega) (by first | assumption | omega) (by first | assumption | omega)) (cwV 2 hts gX8_before_X8_has rfl rfl rfl (by decide +kernel) ⟨Nat.le_of_ble_eq_true rfl, Nat.le_of_ble_eq_true rfl⟩) ⟨fun a U g mk q => by obtain ⟨q0, qP, qK⟩ := q; exact ⟨q0, qP, va_K.moved (u := U) (U := U.calling g mk a) (Vm.Alike.refl U.vm) qK⟩, va_recv hKc hPc (ci := 7) (q0 := 0) rfl rfl, fun U hU hW => ⟨rfl, by rw [hU]; exact hPc, va_K.moved hW.alike hKc⟩⟩ rfl rfl hl.1 rfl (lv_room (Nat.le_of_ble_eq_true rfl)) dX8_before_16 ⟨Nat.le_of_ble_eq_true rfl, Nat.le_of_ble_eq_true rfl⟩) (fun r_4 hw_3 => ?_)
        subst hw_3
        refine lv_if_eq (tgt := 26) hx hb dX8_before_19 (by decide) (fun qc_5 => ?_) (fun qc_5 => ?_)
        · have c_5 : (M k i) = false := b2i_f qc_5
          refine lv_iconst (v := nI 0) hx hb dX8_before_26 (by decide +kernel) ?_
          refine lv_iadd hx hb dX8_before_27 ?_
          refine lv_cvi (nI_add _ _) ?_
          refine lv_istore_n (lv' := [(3, .int (nI (t + 0))), (4, .int (nI i)), (0, .ref q), (1, .int (nI k)), (2, .int (nI x))]) hx hb dX8_before_28 rfl hl (by decide) rfl (fun ls hl => ?_)
          refine lv_iinc (v := nI (i + 1)) (lv' := [(4, .int (nI (i + 1))), (3, .int (nI (t + 0))), (0, .ref q), (1, .int (nI k)), (2, .int (nI x))]) hx hb dX8_before_29 hl (k := 1) rfl (nI_1 _) (by decide) rfl (fun ls hl => ?_)
          refine lv_goto (tgt := 5) hx hb dX8_before_32 (by decide) ?_
          exact ih_5 (i + 1) (t + 0) (by omega) (by rw [fb_ct_succ, hti, c_5]; rfl) (by omega) ls (lv_sub hl [0, 1, 2, 3, 4] rfl)
        · have c_5 : (M k i) = true := b2i_t qc_5
          refine lv_iconst (v := nI 1) hx hb dX8_before_22 (by decide +kernel) ?_
          refine lv_goto (tgt := 27) hx hb dX8_before_23 (by decide) ?_
          refine lv_iadd hx hb dX8_before_27 ?_
          refine lv_cvi (nI_add _ _) ?_
          refine lv_istore_n (lv' := [(3, .int (nI (t + 1))), (4, .int (nI i)), (0, .ref q), (1, .int (nI k)), (2, .int (nI x))]) hx hb dX8_before_28 rfl hl (by decide) rfl (fun ls hl => ?_)
          refine lv_iinc (v := nI (i + 1)) (lv' := [(4, .int (nI (i + 1))), (3, .int (nI (t + 1))), (0, .ref q), (1, .int (nI k)), (2, .int (nI x))]) hx hb dX8_before_29 hl (k := 1) rfl (nI_1 _) (by decide) rfl (fun ls hl => ?_)
          refine lv_goto (tgt := 5) hx hb dX8_before_32 (by decide) ?_
          exact ih_5 (i + 1) (t + 1) (by omega) (by rw [fb_ct_succ, hti, c_5]; rfl) (by omega) ls (lv_sub hl [0, 1, 2, 3, 4] rfl)
  exact key_5_1 _ 0 0 (Nat.zero_le _) rfl (Nat.lt_succ_self _) ls (lv_sub hl [0, 1, 2, 3, 4] rfl)
set_option maxHeartbeats 4000000 in
set_option maxRecDepth 100000 in
/-- reference: lowest -/
theorem c_X8_lowest (l : Launch) (dC : Nat → ClassId) (dI : Nat → Nat → Nat) (w : Int64) : Met l yX8_lowest wsX8_lowest ({ frames := 0, cells := 0, slots := 0, locals := 0 }) (va_Pc [.long w] (fun U => va_P (dC, dI) vwCl [] U.heap ∧ va_K (dC, dI) vwCl [] U)) (vp_Si (fun r => r = oI (fst1 (gb w) 64))) 0 0 (fun _ => False) := by
  refine Met.ofW (cc := cX8_lowest) (maxL := 3) (ret := (some .int)) (by decide) rfl ?_
  intro p e s m args below meth c s₁ B hml hv
  obtain ⟨rfl, hP, hK⟩ := hv
  have hx := B.exec
  have hb := B.bytes
  have hr := B.returns
  have hts := atoms_spec (ws := wsX8_lowest) B.pre
  have hown : s.vm.findClass RX8 = some m.cls := findClass_of_methodNamed B.named
  have hlocks := B.notSynchronized
  have hP : va_P (dC, dI) vwCl [] s.heap := hP
  have hl := lv_entry ([.long w]) (n := 3) (Nat.le_of_ble_eq_true rfl)
  rw [lg_entry_eq]
  generalize (lg_sl ([.long w]) ++ List.replicate (3 - (lg_sl ([.long w])).length) Slot.unset).toArray = ls at hl ⊢
  have hl : lv_has ls 3 [(0, .long w)] := hl
  refine lv_iconst (v := nI 0) hx hb dX8_lowest_0 (by decide +kernel) ?_
  refine lv_istore_n (lv' := [(2, .int (nI 0)), (0, .long w)]) hx hb dX8_lowest_1 rfl hl (by decide) rfl (fun ls hl => ?_)
  have key_2_1 : ∀ (fu : Nat) (i : Nat) (hi1 : i ≤ 64) (hno : ∀ j, j < i → gb w j = false) (hfu : 64 - i < fu) (ls : Array Slot) (hl : lv_has ls 3 [(2, .int (nI i)), (0, .long w)]), W p l e (headSpec wsX8_lowest ({ frames := 0, cells := 0, slots := 0, locals := 0 })).room s m ([.long w] : List Value).toArray below meth c s.heap [] 0 0 (MQ below (vp_Si (fun r => r = oI (fst1 (gb w) 64))) ([.long w] : List Value).toArray s 0 0 (fun _ => False)) (F0 m 2 ls []) := by
    intro fu
    induction fu with
    | zero =>
      intro i hi1 hno hfu ls hl
      exact absurd hfu (Nat.not_lt_zero _)
    | succ fu ih_2 =>
      intro i hi1 hno hfu ls hl
      refine lv_iload_n hx hb dX8_lowest_2 rfl (lv_at hl 0 rfl) ?_
      refine lv_bipush (v := nI 64) hx hb dX8_lowest_3 (by decide +kernel) ?_
      refine lv_icmp_ge (tgt := 24) hx hb dX8_lowest_5 (by decide) (fun qc_2 => ?_) (fun qc_2 => ?_)
      · have c_2 : 64 ≤ i := (nI_leI (a := 64) (b := i) (by omega) (by omega)).mp qc_2
        refine lv_iload_n hx hb dX8_lowest_24 rfl (lv_at hl 0 rfl) ?_
        refine lv_bipush (v := nI 64) hx hb dX8_lowest_25 (by decide +kernel) ?_
        refine lv_icmp_ne (tgt := 34) hx hb dX8_lowest_27 (by decide) (fun qc_3 => ?_) (fun qc_3 => ?_)
        · have c_3 : ¬ i = 64 := fun h9 => qc_3 ((nI_eq (a := i) (b := 64) (by omega) (by omega)).mpr h9)
          refine lv_iload_n hx hb dX8_lowest_34 rfl (lv_at hl 0 rfl) ?_
          exact W.iret (v := nI i) hx hb hr (fun t9 ht hW => ⟨nI i, rfl, by first | exact lw_end hno (by omega) (ts_nf fun q => c_2 ((shr_bit (by omega)).mpr q)) | exact absurd (show i = 64 by omega) c_3, ht⟩) (fun q h => by cases h) dX8_lowest_35
        · have c_3 : i = 64 := (nI_eq (a := i) (b := 64) (by omega) (by omega)).mp qc_3
          refine lv_iconst (v := -1) hx hb dX8_lowest_30 (by decide +kernel) ?_
          refine lv_goto (tgt := 35) hx hb dX8_lowest_31 (by decide) ?_
          exact W.iret (v := -1) hx hb hr (fun t9 ht hW => ⟨-1, rfl, by rw [fst1_none.mpr fun j hj => hno j (by omega)]; rfl, ht⟩) (fun q h => by cases h) dX8_lowest_35
      · have c_2 : ¬ 64 ≤ i := fun h9 => qc_2 ((nI_leI (a := 64) (b := i) (by omega) (by omega)).mpr h9)
        refine lv_lload_n hx hb dX8_lowest_8 rfl (lv_at hl 1 rfl) ?_
        refine lv_iload_n hx hb dX8_lowest_9 rfl (lv_at hl 0 rfl) ?_
        refine lv_lushr (v := sru w (nI i)) hx hb dX8_lowest_10 rfl ?_
        refine lv_lconst (v := 1) hx hb dX8_lowest_11 (by decide +kernel) ?_
        refine lv_land hx hb dX8_lowest_12 ?_
        refine lv_lconst (v := 0) hx hb dX8_lowest_13 (by decide +kernel) ?_
        refine W.lcmp hx hb dX8_lowest_14 ?_
        refine lv_if_ne (tgt := 24) hx hb dX8_lowest_15 (by decide) (fun qc_4 => ?_) (fun qc_4 => ?_)
        · have c_4 : ¬ ((sru w (nI i)) &&& (1 : Int64) = (0 : Int64)) := fun h9 => qc_4 ((lg_cmp_eq _ _).mpr h9)
          refine lv_iload_n hx hb dX8_lowest_24 rfl (lv_at hl 0 rfl) ?_
          refine lv_bipush (v := nI 64) hx hb dX8_lowest_25 (by decide +kernel) ?_
          refine lv_icmp_ne (tgt := 34) hx hb dX8_lowest_27 (by decide) (fun qc_5 => ?_) (fun qc_5 => ?_)
          · have c_5 : ¬ i = 64 := fun h9 => qc_5 ((nI_eq (a := i) (b := 64) (by omega) (by omega)).mpr h9)
            refine lv_iload_n hx hb dX8_lowest_34 rfl (lv_at hl 0 rfl) ?_
            exact W.iret (v := nI i) hx hb hr (fun t9 ht hW => ⟨nI i, rfl, by first | exact lw_end hno (by omega) (ts_nf fun q => c_4 ((shr_bit (by omega)).mpr q)) | exact absurd (show i = 64 by omega) c_5, ht⟩) (fun q h => by cases h) dX8_lowest_35
          · have c_5 : i = 64 := (nI_eq (a := i) (b := 64) (by omega) (by omega)).mp qc_5
            refine lv_iconst (v := -1) hx hb dX8_lowest_30 (by decide +kernel) ?_
            refine lv_goto (tgt := 35) hx hb dX8_lowest_31 (by decide) ?_
            exact W.iret (v := -1) hx hb hr (fun t9 ht hW => ⟨-1, rfl, by rw [fst1_none.mpr fun j hj => hno j (by omega)]; rfl, ht⟩) (fun q h => by cases h) dX8_lowest_35
        · have c_4 : (sru w (nI i)) &&& (1 : Int64) = (0 : Int64) := (lg_cmp_eq _ _).mp qc_4
          refine lv_iinc (v := nI (i + 1)) (lv' := [(2, .int (nI (i + 1))), (0, .long w)]) hx hb dX8_lowest_18 hl (k := 0) rfl (nI_1 _) (by decide) rfl (fun ls hl => ?_)
          refine lv_goto (tgt := 2) hx hb dX8_lowest_21 (by decide) ?_
          exact ih_2 (i + 1) (by omega) (fun j hj => by
            by_cases e9 : j = i
            · rw [e9]; exact (shr_bit (by omega)).mp c_4
            · exact hno j (by omega)) (by omega) ls (lv_sub hl [0, 1] rfl)
  exact key_2_1 _ 0 (by decide) (fun j hj => absurd hj (Nat.not_lt_zero j)) (Nat.lt_succ_self _) ls (lv_sub hl [0, 1] rfl)
set_option maxHeartbeats 4000000 in
set_option maxRecDepth 100000 in
/-- reference: highest -/
theorem c_X8_highest (l : Launch) (dC : Nat → ClassId) (dI : Nat → Nat → Nat) (w : Int64) : Met l yX8_highest wsX8_highest ({ frames := 0, cells := 0, slots := 0, locals := 0 }) (va_Pc [.long w] (fun U => va_P (dC, dI) vwCl [] U.heap ∧ va_K (dC, dI) vwCl [] U)) (vp_Si (fun r => r = oI (lst1 (gb w) 64))) 0 0 (fun _ => False) := by
  refine Met.ofW (cc := cX8_highest) (maxL := 3) (ret := (some .int)) (by decide) rfl ?_
  intro p e s m args below meth c s₁ B hml hv
  obtain ⟨rfl, hP, hK⟩ := hv
  have hx := B.exec
  have hb := B.bytes
  have hr := B.returns
  have hts := atoms_spec (ws := wsX8_highest) B.pre
  have hown : s.vm.findClass RX8 = some m.cls := findClass_of_methodNamed B.named
  have hlocks := B.notSynchronized
  have hP : va_P (dC, dI) vwCl [] s.heap := hP
  have hl := lv_entry ([.long w]) (n := 3) (Nat.le_of_ble_eq_true rfl)
  rw [lg_entry_eq]
  generalize (lg_sl ([.long w]) ++ List.replicate (3 - (lg_sl ([.long w])).length) Slot.unset).toArray = ls at hl ⊢
  have hl : lv_has ls 3 [(0, .long w)] := hl
  refine lv_bipush (v := nI 63) hx hb dX8_highest_0 (by decide +kernel) ?_
  refine lv_istore_n (lv' := [(2, .int (nI 63)), (0, .long w)]) hx hb dX8_highest_2 rfl hl (by decide) rfl (fun ls hl => ?_)
  have key_3_1 : ∀ (fu : Nat) (ee : Nat) (he1 : ee ≤ 64) (hno : ∀ j, ee ≤ j → j < 64 → gb w j = false) (hfu : ee < fu) (ls : Array Slot) (hl : lv_has ls 3 [(2, .int (dm ee)), (0, .long w)]), W p l e (headSpec wsX8_highest ({ frames := 0, cells := 0, slots := 0, locals := 0 })).room s m ([.long w] : List Value).toArray below meth c s.heap [] 0 0 (MQ below (vp_Si (fun r => r = oI (lst1 (gb w) 64))) ([.long w] : List Value).toArray s 0 0 (fun _ => False)) (F0 m 3 ls []) := by
    intro fu
    induction fu with
    | zero =>
      intro ee he1 hno hfu ls hl
      exact absurd hfu (Nat.not_lt_zero _)
    | succ fu ih_3 =>
      intro ee he1 hno hfu ls hl
      rcases ee with _ | ee
      · have hl : lv_has ls 3 [(2, .int (-1)), (0, .long w)] := hl
        refine lv_iload_n hx hb dX8_highest_3 rfl (lv_at hl 0 rfl) ?_
        refine lv_if_lt (tgt := 23) hx hb dX8_highest_4 (by decide) (fun qc_2 => ?_) (fun qc_2 => ?_)
        · refine lv_iload_n hx hb dX8_highest_23 rfl (lv_at hl 0 rfl) ?_
          exact W.iret (v := -1) hx hb hr (fun t9 ht hW => ⟨-1, rfl, by rw [lst1_none.mpr fun j hj => hno j (Nat.zero_le _) hj]; rfl, ht⟩) (fun q h => by cases h) dX8_highest_24
        · exact absurd (by decide) qc_2
      · have hl : lv_has ls 3 [(2, .int (nI ee)), (0, .long w)] := hl
        refine lv_iload_n hx hb dX8_highest_3 rfl (lv_at hl 0 rfl) ?_
        refine lv_if_lt (tgt := 23) hx hb dX8_highest_4 (by decide) (fun qc_3 => ?_) (fun qc_3 => ?_)
        · have c_3 : ee < 0 := (nI_ltI (a := ee) (b := 0) (by omega) (by omega)).mp qc_3
          exact absurd c_3 (Nat.not_lt_zero _)
        · have c_3 : ¬ ee < 0 := fun h9 => qc_3 ((nI_ltI (a := ee) (b := 0) (by omega) (by omega)).mpr h9)
          refine lv_lload_n hx hb dX8_highest_7 rfl (lv_at hl 1 rfl) ?_
          refine lv_iload_n hx hb dX8_highest_8 rfl (lv_at hl 0 rfl) ?_
          refine lv_lushr (v := sru w (nI ee)) hx hb dX8_highest_9 rfl ?_
          refine lv_lconst (v := 1) hx hb dX8_highest_10 (by decide +kernel) ?_
          refine lv_land hx hb dX8_highest_11 ?_
          refine lv_lconst (v := 0) hx hb dX8_highest_12 (by decide +kernel) ?_
          refine W.lcmp hx hb dX8_highest_13 ?_
          refine lv_if_ne (tgt := 23) hx hb dX8_highest_14 (by decide) (fun qc_4 => ?_) (fun qc_4 => ?_)
          · have c_4 : ¬ ((sru w (nI ee)) &&& (1 : Int64) = (0 : Int64)) := fun h9 => qc_4 ((lg_cmp_eq _ _).mpr h9)
            refine lv_iload_n hx hb dX8_highest_23 rfl (lv_at hl 0 rfl) ?_
            exact W.iret (v := nI ee) hx hb hr (fun t9 ht hW => ⟨nI ee, rfl, hi_end hno (by omega) (ts_nf fun q => c_4 ((shr_bit (by omega)).mpr q)), ht⟩) (fun q h => by cases h) dX8_highest_24
          · have c_4 : (sru w (nI ee)) &&& (1 : Int64) = (0 : Int64) := (lg_cmp_eq _ _).mp qc_4
            refine lv_iinc (v := dm ee) (lv' := [(2, .int (dm ee)), (0, .long w)]) hx hb dX8_highest_17 hl (k := 0) rfl (dm_dec _) (by decide) rfl (fun ls hl => ?_)
            refine lv_goto (tgt := 3) hx hb dX8_highest_20 (by decide) ?_
            exact ih_3 ee (by omega) (no_d hno ((shr_bit (by omega)).mp c_4)) (by omega) ls (lv_sub hl [0, 1] rfl)
  exact key_3_1 _ 64 (by decide) (fun j h1 h2 => by omega) (Nat.lt_succ_self _) ls (lv_sub hl [0, 1] rfl)
set_option maxHeartbeats 4000000 in
set_option maxRecDepth 100000 in
/-- reference: stepsIn -/
theorem c_X8_stepsIn (l : Launch) (dC : Nat → ClassId) (dI : Nat → Nat → Nat) (q : Nat) (mq : Nat) (zq : Nat) (sq : Nat) (bq : Nat) (cq : Nat) (pq : Nat) (cZ : ClassId) (cI : ClassId) (cJ : ClassId) (fM : Nat → Int32) (fS : Nat → Int32) (fP : Nat → Int32) (fB : Nat → Int32) (fC : Nat → Int64) (sm : Int64) (fT : Nat → Int32) (ps : Int32) (th : Int32) (w : Int64) (x : Nat) (hxx : x < 64) : Met l yX8_stepsIn wsX8_stepsIn ({ frames := 1, cells := 0, slots := 0, locals := 22 }) (va_Pc [.ref q, .long w, .int (nI x)] (fun U => va_P (dC, dI) vwCl [(q, .inr (7, [.ref mq, .ref zq, .ref sq, .ref bq, .ref cq, .long sm, .ref pq, .int ps, .int th])), (mq, .inl (cZ, 12288, .inl fM)), (zq, .inl (cI, 3, .inl fS)), (sq, .inl (cI, 6156, .inl fP)), (bq, .inl (cI, 3, .inl fB)), (cq, .inl (cJ, 64, .inr (.inl fC))), (pq, .inl (cI, 8, .inl fT))] U.heap ∧ va_K (dC, dI) vwCl [(cZ, .boolean), (cI, .int), (cJ, .long)] U)) (vp_Si (fun r => r = nI (slen (gb w) x 64))) 0 0 (fun _ => False) := by
  refine Met.ofW (cc := cX8_stepsIn) (maxL := 4) (ret := (some .int)) (by decide) rfl ?_
  intro p e s m args below meth c s₁ B hml hv
  obtain ⟨rfl, hP, hK⟩ := hv
  have hx := B.exec
  have hb := B.bytes
  have hr := B.returns
  have hts := atoms_spec (ws := wsX8_stepsIn) B.pre
  have hown : s.vm.findClass RX8 = some m.cls := findClass_of_methodNamed B.named
  have hlocks := B.notSynchronized
  have hP : va_P (dC, dI) vwCl [(q, .inr (7, [.ref mq, .ref zq, .ref sq, .ref bq, .ref cq, .long sm, .ref pq, .int ps, .int th])), (mq, .inl (cZ, 12288, .inl fM)), (zq, .inl (cI, 3, .inl fS)), (sq, .inl (cI, 6156, .inl fP)), (bq, .inl (cI, 3, .inl fB)), (cq, .inl (cJ, 64, .inr (.inl fC))), (pq, .inl (cI, 8, .inl fT))] s.heap := hP
  have hl := lv_entry ([.ref q, .long w, .int (nI x)]) (n := 4) (Nat.le_of_ble_eq_true rfl)
  rw [lg_entry_eq]
  generalize (lg_sl ([.ref q, .long w, .int (nI x)]) ++ List.replicate (4 - (lg_sl ([.ref q, .long w, .int (nI x)])).length) Slot.unset).toArray = ls at hl ⊢
  have hl : lv_has ls 4 [(0, .ref q), (1, .long w), (3, .int (nI x))] := hl
  refine lv_iload_n hx hb dX8_stepsIn_0 rfl (lv_at hl 2 rfl) ?_
  refine lv_lload_n hx hb dX8_stepsIn_1 rfl (lv_at hl 1 rfl) ?_
  have hPc := hP.sub (ws' := []) [] rfl
  have hKc := hK.sub (tys' := []) [] rfl
  refine vp_callSi (W.runS (As := [.long w]) (rest := [.int (nI x)]) ⟨hx, hb, hml, hown, hts⟩ (c_X8_highest l dC dI w ) (va_cwS 1 hts gX8_stepsIn_X8_highest rfl rfl rfl (by decide +kernel) ⟨Nat.le_of_ble_eq_true rfl, Nat.le_of_ble_eq_true rfl⟩) ⟨fun a U g mk q => by obtain ⟨q0, qP, qK⟩ := q; exact ⟨q0, qP, va_K.moved (u := U) (U := U.calling g mk a) (Vm.Alike.refl U.vm) qK⟩, fun U hU hW => ⟨rfl, by rw [hU]; exact hPc, va_K.moved hW.alike hKc⟩⟩ rfl rfl hl.1 rfl (lv_room (Nat.le_of_ble_eq_true rfl)) dX8_stepsIn_2 ⟨Nat.le_of_ble_eq_true rfl, Nat.le_of_ble_eq_true rfl⟩) (fun r_2 hw_1 => ?_)
  subst hw_1
  rcases hz2 : lst1 (gb w) 64 with _ | z2
  · refine lv_cvi ((rfl : oI none = -1)) ?_
    refine lv_icmp_ge (tgt := 16) hx hb dX8_stepsIn_5 (by decide) (fun qc_3 => ?_) (fun qc_3 => ?_)
    · refine lv_iconst (v := nI 1) hx hb dX8_stepsIn_16 (by decide +kernel) ?_
      exact W.iret (v := nI 1) hx hb hr (fun t9 ht hW => ⟨nI 1, rfl, congrArg nI (by first | exact (slen_lt hz1 (by omega)).symm | exact (slen_n hz2).symm | exact (slen_ge hz2 (by omega)).symm | exact (slen_2 hz1 (by omega) hz2 (by omega)).symm | exact absurd hz2 (fst_lst hz1)), ht⟩) (fun q h => by cases h) dX8_stepsIn_17
    · exact absurd (m1_le (by omega)) qc_3
  · refine lv_cvi ((rfl : oI (some z2) = nI z2)) ?_
    have hb_z2 := (lst1_some hz2).1
    refine lv_icmp_ge (tgt := 16) hx hb dX8_stepsIn_5 (by decide) (fun qc_4 => ?_) (fun qc_4 => ?_)
    · have c_4 : z2 ≤ x := (nI_leI (a := z2) (b := x) (by omega) (by omega)).mp qc_4
      refine lv_iconst (v := nI 1) hx hb dX8_stepsIn_16 (by decide +kernel) ?_
      exact W.iret (v := nI 1) hx hb hr (fun t9 ht hW => ⟨nI 1, rfl, congrArg nI (by first | exact (slen_lt hz1 (by omega)).symm | exact (slen_n hz2).symm | exact (slen_ge hz2 (by omega)).symm | exact (slen_2 hz1 (by omega) hz2 (by omega)).symm | exact absurd hz2 (fst_lst hz1)), ht⟩) (fun q h => by cases h) dX8_stepsIn_17
    · have c_4 : ¬ z2 ≤ x := fun h9 => qc_4 ((nI_leI (a := z2) (b := x) (by omega) (by omega)).mpr h9)
      refine lv_iload_n hx hb dX8_stepsIn_8 rfl (lv_at hl 2 rfl) ?_
      refine lv_lload_n hx hb dX8_stepsIn_9 rfl (lv_at hl 1 rfl) ?_
      have hPc := hP.sub (ws' := []) [] rfl
      have hKc := hK.sub (tys' := []) [] rfl
      refine vp_callSi (W.runS (As := [.long w]) (rest := [.int (nI x)]) ⟨hx, hb, hml, hown, hts⟩ (c_X8_lowest l dC dI w ) (va_cwS 1 hts gX8_stepsIn_X8_lowest rfl rfl rfl (by decide +kernel) ⟨Nat.le_of_ble_eq_true rfl, Nat.le_of_ble_eq_true rfl⟩) ⟨fun a U g mk q => by obtain ⟨q0, qP, qK⟩ := q; exact ⟨q0, qP, va_K.moved (u := U) (U := U.calling g mk a) (Vm.Alike.refl U.vm) qK⟩, fun U hU hW => ⟨rfl, by rw [hU]; exact hPc, va_K.moved hW.alike hKc⟩⟩ rfl rfl hl.1 rfl (lv_room (Nat.le_of_ble_eq_true rfl)) dX8_stepsIn_10 ⟨Nat.le_of_ble_eq_true rfl, Nat.le_of_ble_eq_true rfl⟩) (fun r_6 hw_5 => ?_)
      subst hw_5
      rcases hz1 : fst1 (gb w) 64 with _ | z1
      · refine lv_cvi ((rfl : oI none = -1)) ?_
        refine lv_icmp_ge (tgt := 18) hx hb dX8_stepsIn_13 (by decide) (fun qc_7 => ?_) (fun qc_7 => ?_)
        · refine lv_iconst (v := nI 2) hx hb dX8_stepsIn_18 (by decide +kernel) ?_
          exact W.iret (v := nI 2) hx hb hr (fun t9 ht hW => ⟨nI 2, rfl, congrArg nI (by first | exact (slen_lt hz1 (by omega)).symm | exact (slen_n hz2).symm | exact (slen_ge hz2 (by omega)).symm | exact (slen_2 hz1 (by omega) hz2 (by omega)).symm | exact absurd hz2 (fst_lst hz1)), ht⟩) (fun q h => by cases h) dX8_stepsIn_19
        · exact absurd (m1_le (by omega)) qc_7
      · refine lv_cvi ((rfl : oI (some z1) = nI z1)) ?_
        have hb_z1 := (fst1_some hz1).1
        refine lv_icmp_ge (tgt := 18) hx hb dX8_stepsIn_13 (by decide) (fun qc_8 => ?_) (fun qc_8 => ?_)
        · have c_8 : z1 ≤ x := (nI_leI (a := z1) (b := x) (by omega) (by omega)).mp qc_8
          refine lv_iconst (v := nI 2) hx hb dX8_stepsIn_18 (by decide +kernel) ?_
          exact W.iret (v := nI 2) hx hb hr (fun t9 ht hW => ⟨nI 2, rfl, congrArg nI (by first | exact (slen_lt hz1 (by omega)).symm | exact (slen_n hz2).symm | exact (slen_ge hz2 (by omega)).symm | exact (slen_2 hz1 (by omega) hz2 (by omega)).symm | exact absurd hz2 (fst_lst hz1)), ht⟩) (fun q h => by cases h) dX8_stepsIn_19
        · have c_8 : ¬ z1 ≤ x := fun h9 => qc_8 ((nI_leI (a := z1) (b := x) (by omega) (by omega)).mpr h9)
          refine lv_iconst (v := nI 1) hx hb dX8_stepsIn_16 (by decide +kernel) ?_
          exact W.iret (v := nI 1) hx hb hr (fun t9 ht hW => ⟨nI 1, rfl, congrArg nI (by first | exact (slen_lt hz1 (by omega)).symm | exact (slen_n hz2).symm | exact (slen_ge hz2 (by omega)).symm | exact (slen_2 hz1 (by omega) hz2 (by omega)).symm | exact absurd hz2 (fst_lst hz1)), ht⟩) (fun q h => by cases h) dX8_stepsIn_17
set_option maxHeartbeats 4000000 in
set_option maxRecDepth 100000 in
/-- reference: grows -/
theorem c_X8_grows (l : Launch) (dC : Nat → ClassId) (dI : Nat → Nat → Nat) (q : Nat) (mq : Nat) (zq : Nat) (sq : Nat) (bq : Nat) (cq : Nat) (pq : Nat) (cZ : ClassId) (cI : ClassId) (cJ : ClassId) (fM : Nat → Int32) (fS : Nat → Int32) (fP : Nat → Int32) (fB : Nat → Int32) (fC : Nat → Int64) (sm : Int64) (fT : Nat → Int32) (ps : Int32) (th : Int32) (M : Nat → Nat → Bool) (k : Nat) (sz : Nat) (hM : MM fM M) (hk : k < 3) : Met l yX8_grows wsX8_grows ({ frames := 2, cells := 0, slots := 0, locals := 45 }) (va_Pc [.ref q, .int (nI k)] (fun U => U.heap.size = sz ∧ va_P (dC, dI) vwCl [(q, .inr (7, [.ref mq, .ref zq, .ref sq, .ref bq, .ref cq, .long sm, .ref pq, .int ps, .int th])), (mq, .inl (cZ, 12288, .inl fM)), (zq, .inl (cI, 3, .inl fS)), (sq, .inl (cI, 6156, .inl fP)), (bq, .inl (cI, 3, .inl fB)), (cq, .inl (cJ, 64, .inr (.inl fC))), (pq, .inl (cI, 8, .inl fT))] U.heap ∧ va_K (dC, dI) vwCl [(cZ, .boolean), (cI, .int), (cJ, .long)] U ∧ va_D (fun _ => True) [(q, .inr (7, [.ref mq, .ref zq, .ref sq, .ref bq, .ref cq, .long sm, .ref pq, .int ps, .int th])), (mq, .inl (cZ, 12288, .inl fM)), (zq, .inl (cI, 3, .inl fS)), (sq, .inl (cI, 6156, .inl fP)), (bq, .inl (cI, 3, .inl fB)), (cq, .inl (cJ, 64, .inr (.inl fC))), (pq, .inl (cI, 8, .inl fT))])) (va_Qv (fun (u : (Nat → Int64) × Int64) => (∀ h, h < 64 → u.1 h = clw (M k) h) ∧ u.2 = smw (M k)) (fun (u : (Nat → Int64) × Int64) (t : State) => va_P (dC, dI) vwCl [(q, .inr (7, [.ref mq, .ref zq, .ref sq, .ref bq, .ref cq, .long u.2, .ref pq, .int ps, .int th])), (mq, .inl (cZ, 12288, .inl fM)), (zq, .inl (cI, 3, .inl fS)), (sq, .inl (cI, 6156, .inl fP)), (bq, .inl (cI, 3, .inl fB)), (cq, .inl (cJ, 64, .inr (.inl u.1))), (pq, .inl (cI, 8, .inl fT))] t.heap ∧ va_K (dC, dI) vwCl [(cZ, .boolean), (cI, .int), (cJ, .long)] t ∧ va_D (va_A [(q, .inr (7, [.ref mq, .ref zq, .ref sq, .ref bq, .ref cq, .long sm, .ref pq, .int ps, .int th])), (mq, .inl (cZ, 12288, .inl fM)), (zq, .inl (cI, 3, .inl fS)), (sq, .inl (cI, 6156, .inl fP)), (bq, .inl (cI, 3, .inl fB)), (cq, .inl (cJ, 64, .inr (.inl fC))), (pq, .inl (cI, 8, .inl fT))] sz) [(q, .inr (7, [.ref mq, .ref zq, .ref sq, .ref bq, .ref cq, .long u.2, .ref pq, .int ps, .int th])), (mq, .inl (cZ, 12288, .inl fM)), (zq, .inl (cI, 3, .inl fS)), (sq, .inl (cI, 6156, .inl fP)), (bq, .inl (cI, 3, .inl fB)), (cq, .inl (cJ, 64, .inr (.inl u.1))), (pq, .inl (cI, 8, .inl fT))]) (va_A [(q, .inr (7, [.ref mq, .ref zq, .ref sq, .ref bq, .ref cq, .long sm, .ref pq, .int ps, .int th])), (mq, .inl (cZ, 12288, .inl fM)), (zq, .inl (cI, 3, .inl fS)), (sq, .inl (cI, 6156, .inl fP)), (bq, .inl (cI, 3, .inl fB)), (cq, .inl (cJ, 64, .inr (.inl fC))), (pq, .inl (cI, 8, .inl fT))] sz)) 0 0 (va_A [(q, .inr (7, [.ref mq, .ref zq, .ref sq, .ref bq, .ref cq, .long sm, .ref pq, .int ps, .int th])), (mq, .inl (cZ, 12288, .inl fM)), (zq, .inl (cI, 3, .inl fS)), (sq, .inl (cI, 6156, .inl fP)), (bq, .inl (cI, 3, .inl fB)), (cq, .inl (cJ, 64, .inr (.inl fC))), (pq, .inl (cI, 8, .inl fT))] sz) := by
  refine Met.ofW (cc := cX8_grows) (maxL := 6) (ret := none) (by decide) rfl ?_
  intro p e s m args below meth c s₁ B hml hv
  obtain ⟨rfl, hsz, hP, hK, hD0⟩ := hv
  have hx := B.exec
  have hb := B.bytes
  have hr := B.returns
  have hts := atoms_spec (ws := wsX8_grows) B.pre
  have hown : s.vm.findClass RX8 = some m.cls := findClass_of_methodNamed B.named
  have hlocks := B.notSynchronized
  subst hsz
  have hD := hD0.self (sz := s.heap.size)
  generalize hAe : va_A [(q, .inr (7, [.ref mq, .ref zq, .ref sq, .ref bq, .ref cq, .long sm, .ref pq, .int ps, .int th])), (mq, .inl (cZ, 12288, .inl fM)), (zq, .inl (cI, 3, .inl fS)), (sq, .inl (cI, 6156, .inl fP)), (bq, .inl (cI, 3, .inl fB)), (cq, .inl (cJ, 64, .inr (.inl fC))), (pq, .inl (cI, 8, .inl fT))] s.heap.size = A at hD ⊢
  have hA : ∀ q : Nat, s.heap.size ≤ q → A q := fun q h => by rw [← hAe]; exact Or.inr h
  have hS : va_S A s.heap s.heap [] := va_S.rf
  have hP : va_P (dC, dI) vwCl [(q, .inr (7, [.ref mq, .ref zq, .ref sq, .ref bq, .ref cq, .long sm, .ref pq, .int ps, .int th])), (mq, .inl (cZ, 12288, .inl fM)), (zq, .inl (cI, 3, .inl fS)), (sq, .inl (cI, 6156, .inl fP)), (bq, .inl (cI, 3, .inl fB)), (cq, .inl (cJ, 64, .inr (.inl fC))), (pq, .inl (cI, 8, .inl fT))] s.heap := hP
  have hl := lv_entry ([.ref q, .int (nI k)]) (n := 6) (Nat.le_of_ble_eq_true rfl)
  rw [lg_entry_eq]
  generalize (lg_sl ([.ref q, .int (nI k)]) ++ List.replicate (6 - (lg_sl ([.ref q, .int (nI k)])).length) Slot.unset).toArray = ls at hl ⊢
  have hl : lv_has ls 6 [(0, .ref q), (1, .int (nI k))] := hl
  have hab := abv_le (M k) 0
  refine lv_aload_n hx hb dX8_grows_0 rfl (lv_at hl 0 rfl) ?_
  refine lv_iload_n hx hb dX8_grows_1 rfl (lv_at hl 1 rfl) ?_
  refine lv_iconst (v := nI 0) hx hb dX8_grows_2 (by decide +kernel) ?_
  have hPc := hP.sub (ws' := [(q, .inr (7, [.ref mq, .ref zq, .ref sq, .ref bq, .ref cq, .long sm, .ref pq, .int ps, .int th])), (mq, .inl (cZ, 12288, .inl fM)), (zq, .inl (cI, 3, .inl fS)), (sq, .inl (cI, 6156, .inl fP)), (bq, .inl (cI, 3, .inl fB)), (cq, .inl (cJ, 64, .inr (.inl fC))), (pq, .inl (cI, 8, .inl fT))]) [0, 1, 2, 3, 4, 5, 6] rfl
  have hKc := hK.sub (tys' := [(cZ, .boolean), (cI, .int), (cJ, .long)]) [0, 1, 2] rfl
  refine vp_callSi (W.runV (As := [.int (nI k), .int (nI 0)]) (rest := []) ⟨hx, hb, hml, hown, hts⟩ (c_X8_above l dC dI q mq zq sq bq cq pq cZ cI cJ fM fS fP fB fC sm fT ps th M k 0 (by first | assumption | omega) (by first | assumption | omega) (by first | assumption | omega)) (cwV 2 hts gX8_grows_X8_above rfl rfl rfl (by decide +kernel) ⟨Nat.le_of_ble_eq_true rfl, Nat.le_of_ble_eq_true rfl⟩) ⟨fun a U g mk q => by obtain ⟨q0, qP, qK⟩ := q; exact ⟨q0, qP, va_K.moved (u := U) (U := U.calling g mk a) (Vm.Alike.refl U.vm) qK⟩, va_recv hKc hPc (ci := 7) (q0 := 0) rfl rfl, fun U hU hW => ⟨rfl, by rw [hU]; exact hPc, va_K.moved hW.alike hKc⟩⟩ rfl rfl hl.1 rfl (lv_room (Nat.le_of_ble_eq_true rfl)) dX8_grows_3 ⟨Nat.le_of_ble_eq_true rfl, Nat.le_of_ble_eq_true rfl⟩) (fun r_2 hw_1 => ?_)
  subst hw_1
  refine lv_istore_n (lv' := [(2, .int (nI (abv (M k) 0))), (0, .ref q), (1, .int (nI k))]) hx hb dX8_grows_6 rfl hl (by decide) rfl (fun ls hl => ?_)
  refine lv_aload_n hx hb dX8_grows_7 rfl (lv_at hl 1 rfl) ?_
  refine lv_lconst (v := 0) hx hb dX8_grows_8 (by decide +kernel) ?_
  refine va_put (D := (dC, dI)) (ci := 7) (v := .long (0 : Int64)) (ty := .long) (C := RX8) (T := TX8) (N := 9) hx hb hts (by decide +kernel) tyX8 tyX8_ok nmX8 hown hK hP hD hS 0 rfl rfl 5 (by decide) (hts (.fieldLink RX8 95 "SmallNumberSetsModel" "summary" "J") (by decide +kernel)) (fun _ h9 => h9) rfl (by decide +kernel) rfl rfl (Nat.le_of_ble_eq_true rfl) dX8_grows_9 (fun H locs hP hD hS => ?_)
  have hP : va_P (dC, dI) vwCl [(q, .inr (7, [.ref mq, .ref zq, .ref sq, .ref bq, .ref cq, .long (0 : Int64), .ref pq, .int ps, .int th])), (mq, .inl (cZ, 12288, .inl fM)), (zq, .inl (cI, 3, .inl fS)), (sq, .inl (cI, 6156, .inl fP)), (bq, .inl (cI, 3, .inl fB)), (cq, .inl (cJ, 64, .inr (.inl fC))), (pq, .inl (cI, 8, .inl fT))] H := hP
  have hD : va_D A [(q, .inr (7, [.ref mq, .ref zq, .ref sq, .ref bq, .ref cq, .long (0 : Int64), .ref pq, .int ps, .int th])), (mq, .inl (cZ, 12288, .inl fM)), (zq, .inl (cI, 3, .inl fS)), (sq, .inl (cI, 6156, .inl fP)), (bq, .inl (cI, 3, .inl fB)), (cq, .inl (cJ, 64, .inr (.inl fC))), (pq, .inl (cI, 8, .inl fT))] := hD
  refine lv_iconst (v := nI 0) hx hb dX8_grows_12 (by decide +kernel) ?_
  refine lv_istore_n (lv' := [(3, .int (nI 0)), (2, .int (nI (abv (M k) 0))), (0, .ref q), (1, .int (nI k))]) hx hb dX8_grows_13 rfl hl (by decide) rfl (fun ls hl => ?_)
  have key_14_3 : ∀ (fu : Nat) (h : Nat) (g : Nat → Int64) (sv : Int64) (hh1 : h ≤ 64) (hg : ∀ j, j < h → g j = clw (M k) j) (hs : sv = mkW (fun h => decide (¬ clw (M k) h = 0)) h) (hfu : 64 - h < fu) (H : Heap) (locs : List Loc) (hP : va_P (dC, dI) vwCl [(q, .inr (7, [.ref mq, .ref zq, .ref sq, .ref bq, .ref cq, .long sv, .ref pq, .int ps, .int th])), (mq, .inl (cZ, 12288, .inl fM)), (zq, .inl (cI, 3, .inl fS)), (sq, .inl (cI, 6156, .inl fP)), (bq, .inl (cI, 3, .inl fB)), (cq, .inl (cJ, 64, .inr (.inl g))), (pq, .inl (cI, 8, .inl fT))] H) (hD : va_D A [(q, .inr (7, [.ref mq, .ref zq, .ref sq, .ref bq, .ref cq, .long sv, .ref pq, .int ps, .int th])), (mq, .inl (cZ, 12288, .inl fM)), (zq, .inl (cI, 3, .inl fS)), (sq, .inl (cI, 6156, .inl fP)), (bq, .inl (cI, 3, .inl fB)), (cq, .inl (cJ, 64, .inr (.inl g))), (pq, .inl (cI, 8, .inl fT))]) (hS : va_S A s.heap H locs) (ls : Array Slot) (hl : lv_has ls 6 [(3, .int (nI h)), (2, .int (nI (abv (M k) 0))), (0, .ref q), (1, .int (nI k))]), W p l e (headSpec wsX8_grows ({ frames := 2, cells := 0, slots := 0, locals := 45 })).room s m ([.ref q, .int (nI k)] : List Value).toArray below meth c H locs 0 0 (MQ below (va_Qv (fun (u : (Nat → Int64) × Int64) => (∀ h, h < 64 → u.1 h = clw (M k) h) ∧ u.2 = smw (M k)) (fun (u : (Nat → Int64) × Int64) (t : State) => va_P (dC, dI) vwCl [(q, .inr (7, [.ref mq, .ref zq, .ref sq, .ref bq, .ref cq, .long u.2, .ref pq, .int ps, .int th])), (mq, .inl (cZ, 12288, .inl fM)), (zq, .inl (cI, 3, .inl fS)), (sq, .inl (cI, 6156, .inl fP)), (bq, .inl (cI, 3, .inl fB)), (cq, .inl (cJ, 64, .inr (.inl u.1))), (pq, .inl (cI, 8, .inl fT))] t.heap ∧ va_K (dC, dI) vwCl [(cZ, .boolean), (cI, .int), (cJ, .long)] t ∧ va_D A [(q, .inr (7, [.ref mq, .ref zq, .ref sq, .ref bq, .ref cq, .long u.2, .ref pq, .int ps, .int th])), (mq, .inl (cZ, 12288, .inl fM)), (zq, .inl (cI, 3, .inl fS)), (sq, .inl (cI, 6156, .inl fP)), (bq, .inl (cI, 3, .inl fB)), (cq, .inl (cJ, 64, .inr (.inl u.1))), (pq, .inl (cI, 8, .inl fT))]) A) ([.ref q, .int (nI k)] : List Value).toArray s 0 0 A) (F0 m 14 ls []) := by
    intro fu
    induction fu with
    | zero =>
      intro h g sv hh1 hg hs hfu H locs hP hD hS ls hl
      exact absurd hfu (Nat.not_lt_zero _)
    | succ fu ih_14 =>
      intro h g sv hh1 hg hs hfu H locs hP hD hS ls hl
      refine lv_iload_n hx hb dX8_grows_14 rfl (lv_at hl 0 rfl) ?_
      refine lv_bipush (v := nI 64) hx hb dX8_grows_15 (by decide +kernel) ?_
      refine lv_icmp_ge (tgt := 118) hx hb dX8_grows_17 (by decide) (fun qc_4 => ?_) (fun qc_4 => ?_)
      · have c_4 : 64 ≤ h := (nI_leI (a := 64) (b := h) (by omega) (by omega)).mp qc_4
        have hP9 := hP.sub (ws' := [(q, .inr (7, [.ref mq, .ref zq, .ref sq, .ref bq, .ref cq, .long sv, .ref pq, .int ps, .int th])), (mq, .inl (cZ, 12288, .inl fM)), (zq, .inl (cI, 3, .inl fS)), (sq, .inl (cI, 6156, .inl fP)), (bq, .inl (cI, 3, .inl fB)), (cq, .inl (cJ, 64, .inr (.inl g))), (pq, .inl (cI, 8, .inl fT))]) [0, 1, 2, 3, 4, 5, 6] rfl
        have hD9 := hD.sub (ws' := [(q, .inr (7, [.ref mq, .ref zq, .ref sq, .ref bq, .ref cq, .long sv, .ref pq, .int ps, .int th])), (mq, .inl (cZ, 12288, .inl fM)), (zq, .inl (cI, 3, .inl fS)), (sq, .inl (cI, 6156, .inl fP)), (bq, .inl (cI, 3, .inl fB)), (cq, .inl (cJ, 64, .inr (.inl g))), (pq, .inl (cI, 8, .inl fT))]) [0, 1, 2, 3, 4, 5, 6] (by decide) rfl
        have hK9 := hK.sub (tys' := [(cZ, .boolean), (cI, .int), (cJ, .long)]) [0, 1, 2] rfl
        exact W.vret hx hb hr (fun t9 ht hW => ⟨⟨⟨g, sv⟩, rfl, (show (∀ h, h < 64 → g h = clw (M k) h) ∧ sv = smw (M k) from ⟨fun h9 hh9 => hg h9 (by omega), by rw [hs, show h = 64 by omega]; rfl⟩), by rw [ht]; exact hP9, va_K.moved hW.alike hK9, hD9⟩, hS.F ht⟩) hS.2.2 dX8_grows_118
      · have c_4 : ¬ 64 ≤ h := fun h9 => qc_4 ((nI_leI (a := 64) (b := h) (by omega) (by omega)).mpr h9)
        refine lv_aload_n hx hb dX8_grows_20 rfl (lv_at hl 2 rfl) ?_
        refine va_get (D := (dC, dI)) (ci := 7) (v := .ref cq) (C := RX8) (T := TX8) (N := 9) hx hb hts (by decide +kernel) hown hK hP 0 rfl rfl 4 (by decide) (hts (.fieldLink RX8 23 "SmallNumberSetsModel" "cluster" "[J") (by decide +kernel)) (fun _ h9 => h9) rfl dX8_grows_21 ?_
        refine lv_iload_n hx hb dX8_grows_24 rfl (lv_at hl 0 rfl) ?_
        refine lv_lconst (v := 0) hx hb dX8_grows_25 (by decide +kernel) ?_
        refine va_last hx hb hK hP hD hS 5 2 rfl rfl (vp_in_nI (by omega) (by omega)) dX8_grows_26 (fun H locs hP hD hS => ?_)
        rw [nI_clamp (n := h) (by omega)] at hP hD
        have hP : va_P (dC, dI) vwCl [(q, .inr (7, [.ref mq, .ref zq, .ref sq, .ref bq, .ref cq, .long sv, .ref pq, .int ps, .int th])), (mq, .inl (cZ, 12288, .inl fM)), (zq, .inl (cI, 3, .inl fS)), (sq, .inl (cI, 6156, .inl fP)), (bq, .inl (cI, 3, .inl fB)), (cq, .inl (cJ, 64, .inr (.inl (vp_updL g h (0 : Int64))))), (pq, .inl (cI, 8, .inl fT))] H := hP
        have hD : va_D A [(q, .inr (7, [.ref mq, .ref zq, .ref sq, .ref bq, .ref cq, .long sv, .ref pq, .int ps, .int th])), (mq, .inl (cZ, 12288, .inl fM)), (zq, .inl (cI, 3, .inl fS)), (sq, .inl (cI, 6156, .inl fP)), (bq, .inl (cI, 3, .inl fB)), (cq, .inl (cJ, 64, .inr (.inl (vp_updL g h (0 : Int64))))), (pq, .inl (cI, 8, .inl fT))] := hD
        refine lv_iconst (v := nI 0) hx hb dX8_grows_27 (by decide +kernel) ?_
        refine lv_istore (lv' := [(4, .int (nI 0)), (3, .int (nI h)), (2, .int (nI (abv (M k) 0))), (0, .ref q), (1, .int (nI k))]) hx hb dX8_grows_28 hl (by decide) rfl (fun ls hl => ?_)
        have key_30_5 : ∀ (fu : Nat) (i : Nat) (g2 : Nat → Int64) (hi1 : i ≤ 64) (hg2 : g2 = vp_updL g h (mkW (fun l => M k (64 * h + l) && decide (fst1 (M k) 4096 ≠ some (64 * h + l))) i)) (hfu : 64 - i < fu) (H : Heap) (locs : List Loc) (hP : va_P (dC, dI) vwCl [(q, .inr (7, [.ref mq, .ref zq, .ref sq, .ref bq, .ref cq, .long sv, .ref pq, .int ps, .int th])), (mq, .inl (cZ, 12288, .inl fM)), (zq, .inl (cI, 3, .inl fS)), (sq, .inl (cI, 6156, .inl fP)), (bq, .inl (cI, 3, .inl fB)), (cq, .inl (cJ, 64, .inr (.inl g2))), (pq, .inl (cI, 8, .inl fT))] H) (hD : va_D A [(q, .inr (7, [.ref mq, .ref zq, .ref sq, .ref bq, .ref cq, .long sv, .ref pq, .int ps, .int th])), (mq, .inl (cZ, 12288, .inl fM)), (zq, .inl (cI, 3, .inl fS)), (sq, .inl (cI, 6156, .inl fP)), (bq, .inl (cI, 3, .inl fB)), (cq, .inl (cJ, 64, .inr (.inl g2))), (pq, .inl (cI, 8, .inl fT))]) (hS : va_S A s.heap H locs) (ls : Array Slot) (hl : lv_has ls 6 [(4, .int (nI i)), (3, .int (nI h)), (2, .int (nI (abv (M k) 0))), (0, .ref q), (1, .int (nI k))]), W p l e (headSpec wsX8_grows ({ frames := 2, cells := 0, slots := 0, locals := 45 })).room s m ([.ref q, .int (nI k)] : List Value).toArray below meth c H locs 0 0 (MQ below (va_Qv (fun (u : (Nat → Int64) × Int64) => (∀ h, h < 64 → u.1 h = clw (M k) h) ∧ u.2 = smw (M k)) (fun (u : (Nat → Int64) × Int64) (t : State) => va_P (dC, dI) vwCl [(q, .inr (7, [.ref mq, .ref zq, .ref sq, .ref bq, .ref cq, .long u.2, .ref pq, .int ps, .int th])), (mq, .inl (cZ, 12288, .inl fM)), (zq, .inl (cI, 3, .inl fS)), (sq, .inl (cI, 6156, .inl fP)), (bq, .inl (cI, 3, .inl fB)), (cq, .inl (cJ, 64, .inr (.inl u.1))), (pq, .inl (cI, 8, .inl fT))] t.heap ∧ va_K (dC, dI) vwCl [(cZ, .boolean), (cI, .int), (cJ, .long)] t ∧ va_D A [(q, .inr (7, [.ref mq, .ref zq, .ref sq, .ref bq, .ref cq, .long u.2, .ref pq, .int ps, .int th])), (mq, .inl (cZ, 12288, .inl fM)), (zq, .inl (cI, 3, .inl fS)), (sq, .inl (cI, 6156, .inl fP)), (bq, .inl (cI, 3, .inl fB)), (cq, .inl (cJ, 64, .inr (.inl u.1))), (pq, .inl (cI, 8, .inl fT))]) A) ([.ref q, .int (nI k)] : List Value).toArray s 0 0 A) (F0 m 30 ls []) := by
          intro fu
          induction fu with
          | zero =>
            intro i g2 hi1 hg2 hfu H locs hP hD hS ls hl
            exact absurd hfu (Nat.not_lt_zero _)
          | succ fu ih_30 =>
            intro i g2 hi1 hg2 hfu H locs hP hD hS ls hl
            refine lv_iload hx hb dX8_grows_30 (lv_at hl 0 rfl) ?_
            refine lv_bipush (v := nI 64) hx hb dX8_grows_32 (by decide +kernel) ?_
            refine lv_icmp_ge (tgt := 85) hx hb dX8_grows_34 (by decide) (fun qc_6 => ?_) (fun qc_6 => ?_)
            · have c_6 : 64 ≤ i := (nI_leI (a := 64) (b := i) (by omega) (by omega)).mp qc_6
              have hcl : g2 h = clw (M k) h := by rw [hg2, pk_uLs, show i = 64 by omega]; rfl
              have hg3 : ∀ j, j < h + 1 → g2 j = clw (M k) j := fun j hj => by
                by_cases e9 : j = h
                · rw [e9]; exact hcl
                · rw [hg2, pk_uLn e9]; exact hg j (by omega)
              refine lv_aload_n hx hb dX8_grows_85 rfl (lv_at hl 3 rfl) ?_
              refine lv_dup hx hb dX8_grows_86 rfl ?_
              refine va_get (D := (dC, dI)) (ci := 7) (v := .long sv) (C := RX8) (T := TX8) (N := 9) hx hb hts (by decide +kernel) hown hK hP 0 rfl rfl 5 (by decide) (hts (.fieldLink RX8 95 "SmallNumberSetsModel" "summary" "J") (by decide +kernel)) (fun _ h9 => h9) rfl dX8_grows_87 ?_
              refine lv_aload_n hx hb dX8_grows_90 rfl (lv_at hl 3 rfl) ?_
              refine va_get (D := (dC, dI)) (ci := 7) (v := .ref cq) (C := RX8) (T := TX8) (N := 9) hx hb hts (by decide +kernel) hown hK hP 0 rfl rfl 4 (by decide) (hts (.fieldLink RX8 23 "SmallNumberSetsModel" "cluster" "[J") (by decide +kernel)) (fun _ h9 => h9) rfl dX8_grows_91 ?_
              refine lv_iload_n hx hb dX8_grows_94 rfl (lv_at hl 1 rfl) ?_
              refine va_lald hx hb hK hP 5 2 rfl rfl (vp_in_nI (by omega) (by omega)) dX8_grows_95 ?_
              refine lv_cvl (congrArg g2 (nI_clamp (by omega))) ?_
              refine lv_lconst (v := 0) hx hb dX8_grows_96 (by decide +kernel) ?_
              refine W.lcmp hx hb dX8_grows_97 ?_
              refine lv_if_ne (tgt := 105) hx hb dX8_grows_98 (by decide) (fun qc_7 => ?_) (fun qc_7 => ?_)
              · have c_7 : ¬ (g2 h = (0 : Int64)) := fun h9 => qc_7 ((lg_cmp_eq _ _).mpr h9)
                refine lv_lconst (v := 1) hx hb dX8_grows_105 (by decide +kernel) ?_
                refine lv_iload_n hx hb dX8_grows_106 rfl (lv_at hl 1 rfl) ?_
                refine lv_lshl (v := slu (1 : Int64) (nI h)) hx hb dX8_grows_107 rfl ?_
                refine lv_cvl (slu_1 (by omega)) ?_
                refine lv_lor hx hb dX8_grows_108 ?_
                refine va_put (D := (dC, dI)) (ci := 7) (v := .long (sv ||| (bit1 h))) (ty := .long) (C := RX8) (T := TX8) (N := 9) hx hb hts (by decide +kernel) tyX8 tyX8_ok nmX8 hown hK hP hD hS 0 rfl rfl 5 (by decide) (hts (.fieldLink RX8 95 "SmallNumberSetsModel" "summary" "J") (by decide +kernel)) (fun _ h9 => h9) rfl (by decide +kernel) rfl rfl (Nat.le_of_ble_eq_true rfl) dX8_grows_109 (fun H locs hP hD hS => ?_)
                have hP : va_P (dC, dI) vwCl [(q, .inr (7, [.ref mq, .ref zq, .ref sq, .ref bq, .ref cq, .long (sv ||| (bit1 h)), .ref pq, .int ps, .int th])), (mq, .inl (cZ, 12288, .inl fM)), (zq, .inl (cI, 3, .inl fS)), (sq, .inl (cI, 6156, .inl fP)), (bq, .inl (cI, 3, .inl fB)), (cq, .inl (cJ, 64, .inr (.inl g2))), (pq, .inl (cI, 8, .inl fT))] H := hP
                have hD : va_D A [(q, .inr (7, [.ref mq, .ref zq, .ref sq, .ref bq, .ref cq, .long (sv ||| (bit1 h)), .ref pq, .int ps, .int th])), (mq, .inl (cZ, 12288, .inl fM)), (zq, .inl (cI, 3, .inl fS)), (sq, .inl (cI, 6156, .inl fP)), (bq, .inl (cI, 3, .inl fB)), (cq, .inl (cJ, 64, .inr (.inl g2))), (pq, .inl (cI, 8, .inl fT))] := hD
                refine lv_iinc (v := nI (h + 1)) (lv' := [(3, .int (nI (h + 1))), (4, .int (nI i)), (2, .int (nI (abv (M k) 0))), (0, .ref q), (1, .int (nI k))]) hx hb dX8_grows_112 hl (k := 1) rfl (nI_1 _) (by decide) rfl (fun ls hl => ?_)
                refine lv_goto (tgt := 14) hx hb dX8_grows_115 (by decide) ?_
                exact ih_14 (h + 1) g2 (sv ||| (bit1 h)) (by omega) hg3 (by
                  have h9 := c_7
                  rw [hcl] at h9
                  rw [mkW_s, ← hs]
                  simp [h9]) (by omega) _ _ hP hD hS ls (lv_sub hl [0, 2, 3, 4] rfl)
              · have c_7 : g2 h = (0 : Int64) := (lg_cmp_eq _ _).mp qc_7
                refine lv_lconst (v := 0) hx hb dX8_grows_101 (by decide +kernel) ?_
                refine lv_goto (tgt := 108) hx hb dX8_grows_102 (by decide) ?_
                refine lv_lor hx hb dX8_grows_108 ?_
                refine va_put (D := (dC, dI)) (ci := 7) (v := .long (sv ||| (0 : Int64))) (ty := .long) (C := RX8) (T := TX8) (N := 9) hx hb hts (by decide +kernel) tyX8 tyX8_ok nmX8 hown hK hP hD hS 0 rfl rfl 5 (by decide) (hts (.fieldLink RX8 95 "SmallNumberSetsModel" "summary" "J") (by decide +kernel)) (fun _ h9 => h9) rfl (by decide +kernel) rfl rfl (Nat.le_of_ble_eq_true rfl) dX8_grows_109 (fun H locs hP hD hS => ?_)
                have hP : va_P (dC, dI) vwCl [(q, .inr (7, [.ref mq, .ref zq, .ref sq, .ref bq, .ref cq, .long (sv ||| (0 : Int64)), .ref pq, .int ps, .int th])), (mq, .inl (cZ, 12288, .inl fM)), (zq, .inl (cI, 3, .inl fS)), (sq, .inl (cI, 6156, .inl fP)), (bq, .inl (cI, 3, .inl fB)), (cq, .inl (cJ, 64, .inr (.inl g2))), (pq, .inl (cI, 8, .inl fT))] H := hP
                have hD : va_D A [(q, .inr (7, [.ref mq, .ref zq, .ref sq, .ref bq, .ref cq, .long (sv ||| (0 : Int64)), .ref pq, .int ps, .int th])), (mq, .inl (cZ, 12288, .inl fM)), (zq, .inl (cI, 3, .inl fS)), (sq, .inl (cI, 6156, .inl fP)), (bq, .inl (cI, 3, .inl fB)), (cq, .inl (cJ, 64, .inr (.inl g2))), (pq, .inl (cI, 8, .inl fT))] := hD
                refine lv_iinc (v := nI (h + 1)) (lv' := [(3, .int (nI (h + 1))), (4, .int (nI i)), (2, .int (nI (abv (M k) 0))), (0, .ref q), (1, .int (nI k))]) hx hb dX8_grows_112 hl (k := 1) rfl (nI_1 _) (by decide) rfl (fun ls hl => ?_)
                refine lv_goto (tgt := 14) hx hb dX8_grows_115 (by decide) ?_
                exact ih_14 (h + 1) g2 (sv ||| (0 : Int64)) (by omega) hg3 (by
                  have h9 := c_7
                  rw [hcl] at h9
                  rw [mkW_s, ← hs]
                  simp [h9]) (by omega) _ _ hP hD hS ls (lv_sub hl [0, 2, 3, 4] rfl)
            · have c_6 : ¬ 64 ≤ i := fun h9 => qc_6 ((nI_leI (a := 64) (b := i) (by omega) (by omega)).mpr h9)
              refine lv_bipush (v := nI 64) hx hb dX8_grows_37 (by decide +kernel) ?_
              refine lv_iload_n hx hb dX8_grows_39 rfl (lv_at hl 1 rfl) ?_
              refine lv_imul hx hb dX8_grows_40 ?_
              refine lv_cvi (pk_mul _ _) ?_
              refine lv_iload hx hb dX8_grows_41 (lv_at hl 0 rfl) ?_
              refine lv_iadd hx hb dX8_grows_43 ?_
              refine lv_cvi (nI_add _ _) ?_
              refine lv_istore (lv' := [(5, .int (nI ((64 * h) + i))), (4, .int (nI i)), (3, .int (nI h)), (2, .int (nI (abv (M k) 0))), (0, .ref q), (1, .int (nI k))]) hx hb dX8_grows_44 hl (by decide) rfl (fun ls hl => ?_)
              refine lv_aload_n hx hb dX8_grows_46 rfl (lv_at hl 4 rfl) ?_
              refine va_get (D := (dC, dI)) (ci := 7) (v := .ref cq) (C := RX8) (T := TX8) (N := 9) hx hb hts (by decide +kernel) hown hK hP 0 rfl rfl 4 (by decide) (hts (.fieldLink RX8 23 "SmallNumberSetsModel" "cluster" "[J") (by decide +kernel)) (fun _ h9 => h9) rfl dX8_grows_47 ?_
              refine lv_iload_n hx hb dX8_grows_50 rfl (lv_at hl 2 rfl) ?_
              refine lv_dup2_11 hx hb dX8_grows_51 rfl rfl ?_
              refine va_lald hx hb hK hP 5 2 rfl rfl (vp_in_nI (by omega) (by omega)) dX8_grows_52 ?_
              refine lv_cvl (congrArg g2 (nI_clamp (by omega))) ?_
              refine lv_aload_n hx hb dX8_grows_53 rfl (lv_at hl 4 rfl) ?_
              refine lv_iload_n hx hb dX8_grows_54 rfl (lv_at hl 5 rfl) ?_
              refine lv_iload hx hb dX8_grows_55 (lv_at hl 0 rfl) ?_
              have hPc := hP.sub (ws' := [(q, .inr (7, [.ref mq, .ref zq, .ref sq, .ref bq, .ref cq, .long sv, .ref pq, .int ps, .int th])), (mq, .inl (cZ, 12288, .inl fM)), (zq, .inl (cI, 3, .inl fS)), (sq, .inl (cI, 6156, .inl fP)), (bq, .inl (cI, 3, .inl fB)), (cq, .inl (cJ, 64, .inr (.inl g2))), (pq, .inl (cI, 8, .inl fT))]) [0, 1, 2, 3, 4, 5, 6] rfl
              have hKc := hK.sub (tys' := [(cZ, .boolean), (cI, .int), (cJ, .long)]) [0, 1, 2] rfl
              refine vp_callSi (W.runV (As := [.int (nI k), .int (nI ((64 * h) + i))]) (rest := [.long (g2 h), .int (nI h), .ref cq]) ⟨hx, hb, hml, hown, hts⟩ (c_X8_has l dC dI q mq zq sq bq cq pq cZ cI cJ fM fS fP fB g2 sv fT ps th M k ((64 * h) + i) (by first | assumption | omega) (by first | assumption | omega) (by first | assumption | omega)) (cwV 2 hts gX8_grows_X8_has rfl rfl rfl (by decide +kernel) ⟨Nat.le_of_ble_eq_true rfl, Nat.le_of_ble_eq_true rfl⟩) ⟨fun a U g mk q => by obtain ⟨q0, qP, qK⟩ := q; exact ⟨q0, qP, va_K.moved (u := U) (U := U.calling g mk a) (Vm.Alike.refl U.vm) qK⟩, va_recv hKc hPc (ci := 7) (q0 := 0) rfl rfl, fun U hU hW => ⟨rfl, by rw [hU]; exact hPc, va_K.moved hW.alike hKc⟩⟩ rfl rfl hl.1 rfl (lv_room (Nat.le_of_ble_eq_true rfl)) dX8_grows_57 ⟨Nat.le_of_ble_eq_true rfl, Nat.le_of_ble_eq_true rfl⟩) (fun r_9 hw_8 => ?_)
              subst hw_8
              refine lv_if_eq (tgt := 76) hx hb dX8_grows_60 (by decide) (fun qc_10 => ?_) (fun qc_10 => ?_)
              · have c_10 : (M k ((64 * h) + i)) = false := b2i_f qc_10
                refine lv_lconst (v := 0) hx hb dX8_grows_76 (by decide +kernel) ?_
                refine lv_lor hx hb dX8_grows_77 ?_
                refine va_last hx hb hK hP hD hS 5 2 rfl rfl (vp_in_nI (by omega) (by omega)) dX8_grows_78 (fun H locs hP hD hS => ?_)
                rw [nI_clamp (n := h) (by omega)] at hP hD
                have hP : va_P (dC, dI) vwCl [(q, .inr (7, [.ref mq, .ref zq, .ref sq, .ref bq, .ref cq, .long sv, .ref pq, .int ps, .int th])), (mq, .inl (cZ, 12288, .inl fM)), (zq, .inl (cI, 3, .inl fS)), (sq, .inl (cI, 6156, .inl fP)), (bq, .inl (cI, 3, .inl fB)), (cq, .inl (cJ, 64, .inr (.inl (vp_updL g2 h ((g2 h) ||| (0 : Int64)))))), (pq, .inl (cI, 8, .inl fT))] H := hP
                have hD : va_D A [(q, .inr (7, [.ref mq, .ref zq, .ref sq, .ref bq, .ref cq, .long sv, .ref pq, .int ps, .int th])), (mq, .inl (cZ, 12288, .inl fM)), (zq, .inl (cI, 3, .inl fS)), (sq, .inl (cI, 6156, .inl fP)), (bq, .inl (cI, 3, .inl fB)), (cq, .inl (cJ, 64, .inr (.inl (vp_updL g2 h ((g2 h) ||| (0 : Int64)))))), (pq, .inl (cI, 8, .inl fT))] := hD
                refine lv_iinc (v := nI (i + 1)) (lv' := [(4, .int (nI (i + 1))), (5, .int (nI ((64 * h) + i))), (3, .int (nI h)), (2, .int (nI (abv (M k) 0))), (0, .ref q), (1, .int (nI k))]) hx hb dX8_grows_79 hl (k := 1) rfl (nI_1 _) (by decide) rfl (fun ls hl => ?_)
                refine lv_goto (tgt := 30) hx hb dX8_grows_82 (by decide) ?_
                exact ih_30 (i + 1) (vp_updL g2 h ((g2 h) ||| (0 : Int64))) (by omega) (by
                  rw [mkW_f (by first | exact clq_f c_10 | exact clq_e (by omega) c_10), hg2]
                  funext j9
                  unfold vp_updL
                  by_cases e9 : j9 = h
                  · rw [if_pos e9, if_pos e9, if_pos rfl]
                  · rw [if_neg e9, if_neg e9, if_neg e9]) (by omega) _ _ hP hD hS ls (lv_sub hl [0, 2, 3, 4, 5] rfl)
              · have c_10 : (M k ((64 * h) + i)) = true := b2i_t qc_10
                refine lv_iload hx hb dX8_grows_63 (lv_at hl 0 rfl) ?_
                refine lv_iload_n hx hb dX8_grows_65 rfl (lv_at hl 3 rfl) ?_
                refine lv_icmp_eq (tgt := 76) hx hb dX8_grows_66 (by decide) (fun qc_11 => ?_) (fun qc_11 => ?_)
                · have c_11 : ((64 * h) + i) = (abv (M k) 0) := (nI_eq (a := (64 * h) + i) (b := abv (M k) 0) (by omega) (by omega)).mp qc_11
                  refine lv_lconst (v := 0) hx hb dX8_grows_76 (by decide +kernel) ?_
                  refine lv_lor hx hb dX8_grows_77 ?_
                  refine va_last hx hb hK hP hD hS 5 2 rfl rfl (vp_in_nI (by omega) (by omega)) dX8_grows_78 (fun H locs hP hD hS => ?_)
                  rw [nI_clamp (n := h) (by omega)] at hP hD
                  have hP : va_P (dC, dI) vwCl [(q, .inr (7, [.ref mq, .ref zq, .ref sq, .ref bq, .ref cq, .long sv, .ref pq, .int ps, .int th])), (mq, .inl (cZ, 12288, .inl fM)), (zq, .inl (cI, 3, .inl fS)), (sq, .inl (cI, 6156, .inl fP)), (bq, .inl (cI, 3, .inl fB)), (cq, .inl (cJ, 64, .inr (.inl (vp_updL g2 h ((g2 h) ||| (0 : Int64)))))), (pq, .inl (cI, 8, .inl fT))] H := hP
                  have hD : va_D A [(q, .inr (7, [.ref mq, .ref zq, .ref sq, .ref bq, .ref cq, .long sv, .ref pq, .int ps, .int th])), (mq, .inl (cZ, 12288, .inl fM)), (zq, .inl (cI, 3, .inl fS)), (sq, .inl (cI, 6156, .inl fP)), (bq, .inl (cI, 3, .inl fB)), (cq, .inl (cJ, 64, .inr (.inl (vp_updL g2 h ((g2 h) ||| (0 : Int64)))))), (pq, .inl (cI, 8, .inl fT))] := hD
                  refine lv_iinc (v := nI (i + 1)) (lv' := [(4, .int (nI (i + 1))), (5, .int (nI ((64 * h) + i))), (3, .int (nI h)), (2, .int (nI (abv (M k) 0))), (0, .ref q), (1, .int (nI k))]) hx hb dX8_grows_79 hl (k := 1) rfl (nI_1 _) (by decide) rfl (fun ls hl => ?_)
                  refine lv_goto (tgt := 30) hx hb dX8_grows_82 (by decide) ?_
                  exact ih_30 (i + 1) (vp_updL g2 h ((g2 h) ||| (0 : Int64))) (by omega) (by
                    rw [mkW_f (by first | exact clq_f c_11 | exact clq_e (by omega) c_11), hg2]
                    funext j9
                    unfold vp_updL
                    by_cases e9 : j9 = h
                    · rw [if_pos e9, if_pos e9, if_pos rfl]
                    · rw [if_neg e9, if_neg e9, if_neg e9]) (by omega) _ _ hP hD hS ls (lv_sub hl [0, 2, 3, 4, 5] rfl)
                · have c_11 : ¬ ((64 * h) + i) = (abv (M k) 0) := fun h9 => qc_11 ((nI_eq (a := (64 * h) + i) (b := abv (M k) 0) (by omega) (by omega)).mpr h9)
                  refine lv_lconst (v := 1) hx hb dX8_grows_69 (by decide +kernel) ?_
                  refine lv_iload hx hb dX8_grows_70 (lv_at hl 1 rfl) ?_
                  refine lv_lshl (v := slu (1 : Int64) (nI i)) hx hb dX8_grows_72 rfl ?_
                  refine lv_cvl (slu_1 (by omega)) ?_
                  refine lv_goto (tgt := 77) hx hb dX8_grows_73 (by decide) ?_
                  refine lv_lor hx hb dX8_grows_77 ?_
                  refine va_last hx hb hK hP hD hS 5 2 rfl rfl (vp_in_nI (by omega) (by omega)) dX8_grows_78 (fun H locs hP hD hS => ?_)
                  rw [nI_clamp (n := h) (by omega)] at hP hD
                  have hP : va_P (dC, dI) vwCl [(q, .inr (7, [.ref mq, .ref zq, .ref sq, .ref bq, .ref cq, .long sv, .ref pq, .int ps, .int th])), (mq, .inl (cZ, 12288, .inl fM)), (zq, .inl (cI, 3, .inl fS)), (sq, .inl (cI, 6156, .inl fP)), (bq, .inl (cI, 3, .inl fB)), (cq, .inl (cJ, 64, .inr (.inl (vp_updL g2 h ((g2 h) ||| (bit1 i)))))), (pq, .inl (cI, 8, .inl fT))] H := hP
                  have hD : va_D A [(q, .inr (7, [.ref mq, .ref zq, .ref sq, .ref bq, .ref cq, .long sv, .ref pq, .int ps, .int th])), (mq, .inl (cZ, 12288, .inl fM)), (zq, .inl (cI, 3, .inl fS)), (sq, .inl (cI, 6156, .inl fP)), (bq, .inl (cI, 3, .inl fB)), (cq, .inl (cJ, 64, .inr (.inl (vp_updL g2 h ((g2 h) ||| (bit1 i)))))), (pq, .inl (cI, 8, .inl fT))] := hD
                  refine lv_iinc (v := nI (i + 1)) (lv' := [(4, .int (nI (i + 1))), (5, .int (nI ((64 * h) + i))), (3, .int (nI h)), (2, .int (nI (abv (M k) 0))), (0, .ref q), (1, .int (nI k))]) hx hb dX8_grows_79 hl (k := 1) rfl (nI_1 _) (by decide) rfl (fun ls hl => ?_)
                  refine lv_goto (tgt := 30) hx hb dX8_grows_82 (by decide) ?_
                  exact ih_30 (i + 1) (vp_updL g2 h ((g2 h) ||| (bit1 i))) (by omega) (by
                    rw [mkW_t (clq_t c_10 c_11), hg2]
                    funext j9
                    unfold vp_updL
                    by_cases e9 : j9 = h
                    · rw [if_pos e9, if_pos e9, if_pos rfl]
                    · rw [if_neg e9, if_neg e9, if_neg e9]) (by omega) _ _ hP hD hS ls (lv_sub hl [0, 2, 3, 4, 5] rfl)
        exact key_30_5 _ 0 (vp_updL g h 0) (by decide) rfl (Nat.lt_succ_self _) _ _ hP hD hS ls (lv_sub hl [0, 1, 2, 3, 4] rfl)
  exact key_14_3 _ 0 fC 0 (by decide) (fun j hj => absurd hj (Nat.not_lt_zero j)) rfl (Nat.lt_succ_self _) _ _ hP hD hS ls (lv_sub hl [0, 1, 2, 3] rfl)
set_option maxHeartbeats 4000000 in
set_option maxRecDepth 100000 in
/-- reference: growsSmall -/
theorem c_X8_growsSmall (l : Launch) (dC : Nat → ClassId) (dI : Nat → Nat → Nat) (q : Nat) (mq : Nat) (zq : Nat) (sq : Nat) (bq : Nat) (cq : Nat) (pq : Nat) (cZ : ClassId) (cI : ClassId) (cJ : ClassId) (fM : Nat → Int32) (fS : Nat → Int32) (fP : Nat → Int32) (fB : Nat → Int32) (fC : Nat → Int64) (sm : Int64) (fT : Nat → Int32) (ps : Int32) (th : Int32) (w : Int64) (sz : Nat) (hw0 : ¬ w = 0) : Met l yX8_growsSmall wsX8_growsSmall ({ frames := 1, cells := 0, slots := 0, locals := 22 }) (va_Pc [.ref q, .long w] (fun U => U.heap.size = sz ∧ va_P (dC, dI) vwCl [(q, .inr (7, [.ref mq, .ref zq, .ref sq, .ref bq, .ref cq, .long sm, .ref pq, .int ps, .int th])), (mq, .inl (cZ, 12288, .inl fM)), (zq, .inl (cI, 3, .inl fS)), (sq, .inl (cI, 6156, .inl fP)), (bq, .inl (cI, 3, .inl fB)), (cq, .inl (cJ, 64, .inr (.inl fC))), (pq, .inl (cI, 8, .inl fT))] U.heap ∧ va_K (dC, dI) vwCl [(cZ, .boolean), (cI, .int), (cJ, .long)] U ∧ va_D (fun _ => True) [(q, .inr (7, [.ref mq, .ref zq, .ref sq, .ref bq, .ref cq, .long sm, .ref pq, .int ps, .int th])), (mq, .inl (cZ, 12288, .inl fM)), (zq, .inl (cI, 3, .inl fS)), (sq, .inl (cI, 6156, .inl fP)), (bq, .inl (cI, 3, .inl fB)), (cq, .inl (cJ, 64, .inr (.inl fC))), (pq, .inl (cI, 8, .inl fT))])) (va_Qv (fun (u : (Nat → Int32) × Int32) => GS (w &&& (w - 1)) 8 u.1 u.2) (fun (u : (Nat → Int32) × Int32) (t : State) => va_P (dC, dI) vwCl [(q, .inr (7, [.ref mq, .ref zq, .ref sq, .ref bq, .ref cq, .long sm, .ref pq, .int u.2, .int th])), (mq, .inl (cZ, 12288, .inl fM)), (zq, .inl (cI, 3, .inl fS)), (sq, .inl (cI, 6156, .inl fP)), (bq, .inl (cI, 3, .inl fB)), (cq, .inl (cJ, 64, .inr (.inl fC))), (pq, .inl (cI, 8, .inl u.1))] t.heap ∧ va_K (dC, dI) vwCl [(cZ, .boolean), (cI, .int), (cJ, .long)] t ∧ va_D (va_A [(q, .inr (7, [.ref mq, .ref zq, .ref sq, .ref bq, .ref cq, .long sm, .ref pq, .int ps, .int th])), (mq, .inl (cZ, 12288, .inl fM)), (zq, .inl (cI, 3, .inl fS)), (sq, .inl (cI, 6156, .inl fP)), (bq, .inl (cI, 3, .inl fB)), (cq, .inl (cJ, 64, .inr (.inl fC))), (pq, .inl (cI, 8, .inl fT))] sz) [(q, .inr (7, [.ref mq, .ref zq, .ref sq, .ref bq, .ref cq, .long sm, .ref pq, .int u.2, .int th])), (mq, .inl (cZ, 12288, .inl fM)), (zq, .inl (cI, 3, .inl fS)), (sq, .inl (cI, 6156, .inl fP)), (bq, .inl (cI, 3, .inl fB)), (cq, .inl (cJ, 64, .inr (.inl fC))), (pq, .inl (cI, 8, .inl u.1))]) (va_A [(q, .inr (7, [.ref mq, .ref zq, .ref sq, .ref bq, .ref cq, .long sm, .ref pq, .int ps, .int th])), (mq, .inl (cZ, 12288, .inl fM)), (zq, .inl (cI, 3, .inl fS)), (sq, .inl (cI, 6156, .inl fP)), (bq, .inl (cI, 3, .inl fB)), (cq, .inl (cJ, 64, .inr (.inl fC))), (pq, .inl (cI, 8, .inl fT))] sz)) 0 0 (va_A [(q, .inr (7, [.ref mq, .ref zq, .ref sq, .ref bq, .ref cq, .long sm, .ref pq, .int ps, .int th])), (mq, .inl (cZ, 12288, .inl fM)), (zq, .inl (cI, 3, .inl fS)), (sq, .inl (cI, 6156, .inl fP)), (bq, .inl (cI, 3, .inl fB)), (cq, .inl (cJ, 64, .inr (.inl fC))), (pq, .inl (cI, 8, .inl fT))] sz) := by
  refine Met.ofW (cc := cX8_growsSmall) (maxL := 6) (ret := none) (by decide) rfl ?_
  intro p e s m args below meth c s₁ B hml hv
  obtain ⟨rfl, hsz, hP, hK, hD0⟩ := hv
  have hx := B.exec
  have hb := B.bytes
  have hr := B.returns
  have hts := atoms_spec (ws := wsX8_growsSmall) B.pre
  have hown : s.vm.findClass RX8 = some m.cls := findClass_of_methodNamed B.named
  have hlocks := B.notSynchronized
  subst hsz
  have hD := hD0.self (sz := s.heap.size)
  generalize hAe : va_A [(q, .inr (7, [.ref mq, .ref zq, .ref sq, .ref bq, .ref cq, .long sm, .ref pq, .int ps, .int th])), (mq, .inl (cZ, 12288, .inl fM)), (zq, .inl (cI, 3, .inl fS)), (sq, .inl (cI, 6156, .inl fP)), (bq, .inl (cI, 3, .inl fB)), (cq, .inl (cJ, 64, .inr (.inl fC))), (pq, .inl (cI, 8, .inl fT))] s.heap.size = A at hD ⊢
  have hA : ∀ q : Nat, s.heap.size ≤ q → A q := fun q h => by rw [← hAe]; exact Or.inr h
  have hS : va_S A s.heap s.heap [] := va_S.rf
  have hP : va_P (dC, dI) vwCl [(q, .inr (7, [.ref mq, .ref zq, .ref sq, .ref bq, .ref cq, .long sm, .ref pq, .int ps, .int th])), (mq, .inl (cZ, 12288, .inl fM)), (zq, .inl (cI, 3, .inl fS)), (sq, .inl (cI, 6156, .inl fP)), (bq, .inl (cI, 3, .inl fB)), (cq, .inl (cJ, 64, .inr (.inl fC))), (pq, .inl (cI, 8, .inl fT))] s.heap := hP
  have hl := lv_entry ([.ref q, .long w]) (n := 6) (Nat.le_of_ble_eq_true rfl)
  rw [lg_entry_eq]
  generalize (lg_sl ([.ref q, .long w]) ++ List.replicate (6 - (lg_sl ([.ref q, .long w])).length) Slot.unset).toArray = ls at hl ⊢
  have hl : lv_has ls 6 [(0, .ref q), (1, .long w)] := hl
  refine lv_lload_n hx hb dX8_growsSmall_0 rfl (lv_at hl 1 rfl) ?_
  refine lv_lconst (v := 1) hx hb dX8_growsSmall_1 (by decide +kernel) ?_
  refine lv_lload_n hx hb dX8_growsSmall_2 rfl (lv_at hl 1 rfl) ?_
  have hPc := hP.sub (ws' := []) [] rfl
  have hKc := hK.sub (tys' := []) [] rfl
  refine vp_callSi (W.runS (As := [.long w]) (rest := [.long (1 : Int64), .long w]) ⟨hx, hb, hml, hown, hts⟩ (c_X8_lowest l dC dI w ) (va_cwS 1 hts gX8_growsSmall_X8_lowest rfl rfl rfl (by decide +kernel) ⟨Nat.le_of_ble_eq_true rfl, Nat.le_of_ble_eq_true rfl⟩) ⟨fun a U g mk q => by obtain ⟨q0, qP, qK⟩ := q; exact ⟨q0, qP, va_K.moved (u := U) (U := U.calling g mk a) (Vm.Alike.refl U.vm) qK⟩, fun U hU hW => ⟨rfl, by rw [hU]; exact hPc, va_K.moved hW.alike hKc⟩⟩ rfl rfl hl.1 rfl (lv_room (Nat.le_of_ble_eq_true rfl)) dX8_growsSmall_3 ⟨Nat.le_of_ble_eq_true rfl, Nat.le_of_ble_eq_true rfl⟩) (fun r_2 hw_1 => ?_)
  subst hw_1
  obtain ⟨z, hz0, hz1, hz2⟩ := and_neg hw0
  refine lv_cvi (congrArg oI hz1) ?_
  refine lv_cvi ((rfl : oI (some z) = nI z)) ?_
  refine lv_lshl (v := slu (1 : Int64) (nI z)) hx hb dX8_growsSmall_6 rfl ?_
  refine lv_cvl (slu_1 hz0) ?_
  refine lv_ldc2 (v := (-1)) hx hb hown (hts (.constantLong RX8 103 (-1)) (by decide +kernel)) dX8_growsSmall_7 ?_
  refine lv_lxor hx hb dX8_growsSmall_10 ?_
  refine lv_land hx hb dX8_growsSmall_11 ?_
  refine lv_topl (fun v hv => ?_)
  have hve := hv.trans (clr_eq hw0 hz1)
  refine lv_lstore_n (lv' := [(3, .long v), (0, .ref q), (1, .long w)]) hx hb dX8_growsSmall_12 rfl hl (by decide) rfl (fun ls hl => ?_)
  refine lv_aload_n hx hb dX8_growsSmall_13 rfl (lv_at hl 1 rfl) ?_
  refine lv_iconst (v := nI 0) hx hb dX8_growsSmall_14 (by decide +kernel) ?_
  refine va_put (D := (dC, dI)) (ci := 7) (v := .int (nI 0)) (ty := .int) (C := RX8) (T := TX8) (N := 9) hx hb hts (by decide +kernel) tyX8 tyX8_ok nmX8 hown hK hP hD hS 0 rfl rfl 7 (by decide) (hts (.fieldLink RX8 105 "SmallNumberSetsModel" "parts" "I") (by decide +kernel)) (fun _ h9 => h9) rfl (by decide +kernel) rfl rfl (Nat.le_of_ble_eq_true rfl) dX8_growsSmall_15 (fun H locs hP hD hS => ?_)
  have hP : va_P (dC, dI) vwCl [(q, .inr (7, [.ref mq, .ref zq, .ref sq, .ref bq, .ref cq, .long sm, .ref pq, .int (nI 0), .int th])), (mq, .inl (cZ, 12288, .inl fM)), (zq, .inl (cI, 3, .inl fS)), (sq, .inl (cI, 6156, .inl fP)), (bq, .inl (cI, 3, .inl fB)), (cq, .inl (cJ, 64, .inr (.inl fC))), (pq, .inl (cI, 8, .inl fT))] H := hP
  have hD : va_D A [(q, .inr (7, [.ref mq, .ref zq, .ref sq, .ref bq, .ref cq, .long sm, .ref pq, .int (nI 0), .int th])), (mq, .inl (cZ, 12288, .inl fM)), (zq, .inl (cI, 3, .inl fS)), (sq, .inl (cI, 6156, .inl fP)), (bq, .inl (cI, 3, .inl fB)), (cq, .inl (cJ, 64, .inr (.inl fC))), (pq, .inl (cI, 8, .inl fT))] := hD
  refine lv_iconst (v := nI 0) hx hb dX8_growsSmall_18 (by decide +kernel) ?_
  refine lv_istore (lv' := [(5, .int (nI 0)), (3, .long v), (0, .ref q), (1, .long w)]) hx hb dX8_growsSmall_19 hl (by decide) rfl (fun ls hl => ?_)
  have key_21_3 : ∀ (fu : Nat) (i : Nat) (g : Nat → Int32) (pv : Int32) (hi1 : i ≤ 8) (hgs : GS v i g pv) (hfu : 8 - i < fu) (H : Heap) (locs : List Loc) (hP : va_P (dC, dI) vwCl [(q, .inr (7, [.ref mq, .ref zq, .ref sq, .ref bq, .ref cq, .long sm, .ref pq, .int pv, .int th])), (mq, .inl (cZ, 12288, .inl fM)), (zq, .inl (cI, 3, .inl fS)), (sq, .inl (cI, 6156, .inl fP)), (bq, .inl (cI, 3, .inl fB)), (cq, .inl (cJ, 64, .inr (.inl fC))), (pq, .inl (cI, 8, .inl g))] H) (hD : va_D A [(q, .inr (7, [.ref mq, .ref zq, .ref sq, .ref bq, .ref cq, .long sm, .ref pq, .int pv, .int th])), (mq, .inl (cZ, 12288, .inl fM)), (zq, .inl (cI, 3, .inl fS)), (sq, .inl (cI, 6156, .inl fP)), (bq, .inl (cI, 3, .inl fB)), (cq, .inl (cJ, 64, .inr (.inl fC))), (pq, .inl (cI, 8, .inl g))]) (hS : va_S A s.heap H locs) (ls : Array Slot) (hl : lv_has ls 6 [(5, .int (nI i)), (3, .long v), (0, .ref q), (1, .long w)]), W p l e (headSpec wsX8_growsSmall ({ frames := 1, cells := 0, slots := 0, locals := 22 })).room s m ([.ref q, .long w] : List Value).toArray below meth c H locs 0 0 (MQ below (va_Qv (fun (u : (Nat → Int32) × Int32) => GS (w &&& (w - 1)) 8 u.1 u.2) (fun (u : (Nat → Int32) × Int32) (t : State) => va_P (dC, dI) vwCl [(q, .inr (7, [.ref mq, .ref zq, .ref sq, .ref bq, .ref cq, .long sm, .ref pq, .int u.2, .int th])), (mq, .inl (cZ, 12288, .inl fM)), (zq, .inl (cI, 3, .inl fS)), (sq, .inl (cI, 6156, .inl fP)), (bq, .inl (cI, 3, .inl fB)), (cq, .inl (cJ, 64, .inr (.inl fC))), (pq, .inl (cI, 8, .inl u.1))] t.heap ∧ va_K (dC, dI) vwCl [(cZ, .boolean), (cI, .int), (cJ, .long)] t ∧ va_D A [(q, .inr (7, [.ref mq, .ref zq, .ref sq, .ref bq, .ref cq, .long sm, .ref pq, .int u.2, .int th])), (mq, .inl (cZ, 12288, .inl fM)), (zq, .inl (cI, 3, .inl fS)), (sq, .inl (cI, 6156, .inl fP)), (bq, .inl (cI, 3, .inl fB)), (cq, .inl (cJ, 64, .inr (.inl fC))), (pq, .inl (cI, 8, .inl u.1))]) A) ([.ref q, .long w] : List Value).toArray s 0 0 A) (F0 m 21 ls []) := by
    intro fu
    induction fu with
    | zero =>
      intro i g pv hi1 hgs hfu H locs hP hD hS ls hl
      exact absurd hfu (Nat.not_lt_zero _)
    | succ fu ih_21 =>
      intro i g pv hi1 hgs hfu H locs hP hD hS ls hl
      refine lv_iload hx hb dX8_growsSmall_21 (lv_at hl 0 rfl) ?_
      refine lv_bipush (v := nI 8) hx hb dX8_growsSmall_23 (by decide +kernel) ?_
      refine lv_icmp_ge (tgt := 90) hx hb dX8_growsSmall_25 (by decide) (fun qc_4 => ?_) (fun qc_4 => ?_)
      · have c_4 : 8 ≤ i := (nI_leI (a := 8) (b := i) (by omega) (by omega)).mp qc_4
        have hP9 := hP.sub (ws' := [(q, .inr (7, [.ref mq, .ref zq, .ref sq, .ref bq, .ref cq, .long sm, .ref pq, .int pv, .int th])), (mq, .inl (cZ, 12288, .inl fM)), (zq, .inl (cI, 3, .inl fS)), (sq, .inl (cI, 6156, .inl fP)), (bq, .inl (cI, 3, .inl fB)), (cq, .inl (cJ, 64, .inr (.inl fC))), (pq, .inl (cI, 8, .inl g))]) [0, 1, 2, 3, 4, 5, 6] rfl
        have hD9 := hD.sub (ws' := [(q, .inr (7, [.ref mq, .ref zq, .ref sq, .ref bq, .ref cq, .long sm, .ref pq, .int pv, .int th])), (mq, .inl (cZ, 12288, .inl fM)), (zq, .inl (cI, 3, .inl fS)), (sq, .inl (cI, 6156, .inl fP)), (bq, .inl (cI, 3, .inl fB)), (cq, .inl (cJ, 64, .inr (.inl fC))), (pq, .inl (cI, 8, .inl g))]) [0, 1, 2, 3, 4, 5, 6] (by decide) rfl
        have hK9 := hK.sub (tys' := [(cZ, .boolean), (cI, .int), (cJ, .long)]) [0, 1, 2] rfl
        exact W.vret hx hb hr (fun t9 ht hW => ⟨⟨⟨g, pv⟩, rfl, (show GS (w &&& (w - 1)) 8 g pv from by rw [← hve]; rw [show i = 8 by omega] at hgs; exact hgs), by rw [ht]; exact hP9, va_K.moved hW.alike hK9, hD9⟩, hS.F ht⟩) hS.2.2 dX8_growsSmall_90
      · have c_4 : ¬ 8 ≤ i := fun h9 => qc_4 ((nI_leI (a := 8) (b := i) (by omega) (by omega)).mpr h9)
        refine lv_aload_n hx hb dX8_growsSmall_28 rfl (lv_at hl 2 rfl) ?_
        refine va_get (D := (dC, dI)) (ci := 7) (v := .ref pq) (C := RX8) (T := TX8) (N := 9) hx hb hts (by decide +kernel) hown hK hP 0 rfl rfl 6 (by decide) (hts (.fieldLink RX8 27 "SmallNumberSetsModel" "part" "[I") (by decide +kernel)) (fun _ h9 => h9) rfl dX8_growsSmall_29 ?_
        refine lv_iload hx hb dX8_growsSmall_32 (lv_at hl 0 rfl) ?_
        refine lv_lload_n hx hb dX8_growsSmall_34 rfl (lv_at hl 3 rfl) ?_
        refine lv_lconst (v := 0) hx hb dX8_growsSmall_35 (by decide +kernel) ?_
        refine W.lcmp hx hb dX8_growsSmall_36 ?_
        refine lv_if_ne (tgt := 44) hx hb dX8_growsSmall_37 (by decide) (fun qc_5 => ?_) (fun qc_5 => ?_)
        · have c_5 : ¬ (w = (0 : Int64)) := fun h9 => qc_5 ((lg_cmp_eq _ _).mpr h9)
          refine lv_lload_n hx hb dX8_growsSmall_44 rfl (lv_at hl 1 rfl) ?_
          refine lv_bipush (v := nI 8) hx hb dX8_growsSmall_45 (by decide +kernel) ?_
          refine lv_iload hx hb dX8_growsSmall_47 (lv_at hl 0 rfl) ?_
          refine lv_imul hx hb dX8_growsSmall_49 ?_
          refine lv_cvi (pk_mul _ _) ?_
          refine lv_cvi (congrArg nI (Nat.mul_comm _ _)) ?_
          refine lv_lushr (v := sru v (nI (i * 8))) hx hb dX8_growsSmall_50 rfl ?_
          refine lv_ldc2 (v := 255) hx hb hown (hts (.constantLong RX8 108 (255)) (by decide +kernel)) dX8_growsSmall_51 ?_
          refine lv_land hx hb dX8_growsSmall_54 ?_
          refine lv_l2i (v := ((sru v (nI (i * 8))) &&& (255 : Int64)).toInt32) hx hb dX8_growsSmall_55 rfl ?_
          refine va_iast hx hb hK hP hD hS 6 1 rfl rfl (vp_in_nI (by omega) (by omega)) dX8_growsSmall_56 (fun H locs hP hD hS => ?_)
          rw [nI_clamp (n := i) (by omega)] at hP hD
          have hP : va_P (dC, dI) vwCl [(q, .inr (7, [.ref mq, .ref zq, .ref sq, .ref bq, .ref cq, .long sm, .ref pq, .int pv, .int th])), (mq, .inl (cZ, 12288, .inl fM)), (zq, .inl (cI, 3, .inl fS)), (sq, .inl (cI, 6156, .inl fP)), (bq, .inl (cI, 3, .inl fB)), (cq, .inl (cJ, 64, .inr (.inl fC))), (pq, .inl (cI, 8, .inl (upd g i (((sru v (nI (i * 8))) &&& (255 : Int64)).toInt32))))] H := hP
          have hD : va_D A [(q, .inr (7, [.ref mq, .ref zq, .ref sq, .ref bq, .ref cq, .long sm, .ref pq, .int pv, .int th])), (mq, .inl (cZ, 12288, .inl fM)), (zq, .inl (cI, 3, .inl fS)), (sq, .inl (cI, 6156, .inl fP)), (bq, .inl (cI, 3, .inl fB)), (cq, .inl (cJ, 64, .inr (.inl fC))), (pq, .inl (cI, 8, .inl (upd g i (((sru v (nI (i * 8))) &&& (255 : Int64)).toInt32))))] := hD
          refine lv_aload_n hx hb dX8_growsSmall_57 rfl (lv_at hl 2 rfl) ?_
          refine lv_dup hx hb dX8_growsSmall_58 rfl ?_
          refine va_get (D := (dC, dI)) (ci := 7) (v := .int pv) (C := RX8) (T := TX8) (N := 9) hx hb hts (by decide +kernel) hown hK hP 0 rfl rfl 7 (by decide) (hts (.fieldLink RX8 105 "SmallNumberSetsModel" "parts" "I") (by decide +kernel)) (fun _ h9 => h9) rfl dX8_growsSmall_59 ?_
          refine lv_aload_n hx hb dX8_growsSmall_62 rfl (lv_at hl 2 rfl) ?_
          refine va_get (D := (dC, dI)) (ci := 7) (v := .ref pq) (C := RX8) (T := TX8) (N := 9) hx hb hts (by decide +kernel) hown hK hP 0 rfl rfl 6 (by decide) (hts (.fieldLink RX8 27 "SmallNumberSetsModel" "part" "[I") (by decide +kernel)) (fun _ h9 => h9) rfl dX8_growsSmall_63 ?_
          refine lv_iload hx hb dX8_growsSmall_66 (lv_at hl 0 rfl) ?_
          refine va_iald hx hb hK hP 6 1 rfl rfl (vp_in_nI (by omega) (by omega)) dX8_growsSmall_68 ?_
          refine lv_cvi (congrArg (upd g i (((sru v (nI (i * 8))) &&& (255 : Int64)).toInt32)) (nI_clamp (by omega))) ?_
          refine lv_cvi (pk_us) ?_
          refine lv_if_ne (tgt := 76) hx hb dX8_growsSmall_69 (by decide) (fun qc_6 => ?_) (fun qc_6 => ?_)
          · refine lv_iconst (v := nI 1) hx hb dX8_growsSmall_76 (by decide +kernel) ?_
            refine lv_iload hx hb dX8_growsSmall_77 (lv_at hl 0 rfl) ?_
            refine lv_ishl hx hb dX8_growsSmall_79 ?_
            refine lv_cvi (shl_N (by omega) (by have h9 := Nat.pow_le_pow_right (show 0 < 2 by decide) (show i ≤ 8 by omega); omega)) ?_
            refine lv_ior hx hb dX8_growsSmall_80 ?_
            refine va_put (D := (dC, dI)) (ci := 7) (v := .int (pv ||| (nI (1 * 2 ^ i)))) (ty := .int) (C := RX8) (T := TX8) (N := 9) hx hb hts (by decide +kernel) tyX8 tyX8_ok nmX8 hown hK hP hD hS 0 rfl rfl 7 (by decide) (hts (.fieldLink RX8 105 "SmallNumberSetsModel" "parts" "I") (by decide +kernel)) (fun _ h9 => h9) rfl (by decide +kernel) rfl rfl (Nat.le_of_ble_eq_true rfl) dX8_growsSmall_81 (fun H locs hP hD hS => ?_)
            have hP : va_P (dC, dI) vwCl [(q, .inr (7, [.ref mq, .ref zq, .ref sq, .ref bq, .ref cq, .long sm, .ref pq, .int (pv ||| (nI (1 * 2 ^ i))), .int th])), (mq, .inl (cZ, 12288, .inl fM)), (zq, .inl (cI, 3, .inl fS)), (sq, .inl (cI, 6156, .inl fP)), (bq, .inl (cI, 3, .inl fB)), (cq, .inl (cJ, 64, .inr (.inl fC))), (pq, .inl (cI, 8, .inl (upd g i (((sru v (nI (i * 8))) &&& (255 : Int64)).toInt32))))] H := hP
            have hD : va_D A [(q, .inr (7, [.ref mq, .ref zq, .ref sq, .ref bq, .ref cq, .long sm, .ref pq, .int (pv ||| (nI (1 * 2 ^ i))), .int th])), (mq, .inl (cZ, 12288, .inl fM)), (zq, .inl (cI, 3, .inl fS)), (sq, .inl (cI, 6156, .inl fP)), (bq, .inl (cI, 3, .inl fB)), (cq, .inl (cJ, 64, .inr (.inl fC))), (pq, .inl (cI, 8, .inl (upd g i (((sru v (nI (i * 8))) &&& (255 : Int64)).toInt32))))] := hD
            refine lv_iinc (v := nI (i + 1)) (lv' := [(5, .int (nI (i + 1))), (3, .long v), (0, .ref q), (1, .long w)]) hx hb dX8_growsSmall_84 hl (k := 0) rfl (nI_1 _) (by decide) rfl (fun ls hl => ?_)
            refine lv_goto (tgt := 21) hx hb dX8_growsSmall_87 (by decide) ?_
            exact ih_21 (i + 1) (upd g i (((sru v (nI (i * 8))) &&& (255 : Int64)).toInt32)) (pv ||| (nI (1 * 2 ^ i))) (by omega) (gs_t (by omega) hgs l2i_0 qc_6) (by omega) _ _ hP hD hS ls (lv_sub hl [0, 1, 2, 3] rfl)
          · refine lv_iconst (v := nI 0) hx hb dX8_growsSmall_72 (by decide +kernel) ?_
            refine lv_goto (tgt := 80) hx hb dX8_growsSmall_73 (by decide) ?_
            refine lv_ior hx hb dX8_growsSmall_80 ?_
            refine va_put (D := (dC, dI)) (ci := 7) (v := .int (pv ||| (nI 0))) (ty := .int) (C := RX8) (T := TX8) (N := 9) hx hb hts (by decide +kernel) tyX8 tyX8_ok nmX8 hown hK hP hD hS 0 rfl rfl 7 (by decide) (hts (.fieldLink RX8 105 "SmallNumberSetsModel" "parts" "I") (by decide +kernel)) (fun _ h9 => h9) rfl (by decide +kernel) rfl rfl (Nat.le_of_ble_eq_true rfl) dX8_growsSmall_81 (fun H locs hP hD hS => ?_)
            have hP : va_P (dC, dI) vwCl [(q, .inr (7, [.ref mq, .ref zq, .ref sq, .ref bq, .ref cq, .long sm, .ref pq, .int (pv ||| (nI 0)), .int th])), (mq, .inl (cZ, 12288, .inl fM)), (zq, .inl (cI, 3, .inl fS)), (sq, .inl (cI, 6156, .inl fP)), (bq, .inl (cI, 3, .inl fB)), (cq, .inl (cJ, 64, .inr (.inl fC))), (pq, .inl (cI, 8, .inl (upd g i (((sru v (nI (i * 8))) &&& (255 : Int64)).toInt32))))] H := hP
            have hD : va_D A [(q, .inr (7, [.ref mq, .ref zq, .ref sq, .ref bq, .ref cq, .long sm, .ref pq, .int (pv ||| (nI 0)), .int th])), (mq, .inl (cZ, 12288, .inl fM)), (zq, .inl (cI, 3, .inl fS)), (sq, .inl (cI, 6156, .inl fP)), (bq, .inl (cI, 3, .inl fB)), (cq, .inl (cJ, 64, .inr (.inl fC))), (pq, .inl (cI, 8, .inl (upd g i (((sru v (nI (i * 8))) &&& (255 : Int64)).toInt32))))] := hD
            refine lv_iinc (v := nI (i + 1)) (lv' := [(5, .int (nI (i + 1))), (3, .long v), (0, .ref q), (1, .long w)]) hx hb dX8_growsSmall_84 hl (k := 0) rfl (nI_1 _) (by decide) rfl (fun ls hl => ?_)
            refine lv_goto (tgt := 21) hx hb dX8_growsSmall_87 (by decide) ?_
            exact ih_21 (i + 1) (upd g i (((sru v (nI (i * 8))) &&& (255 : Int64)).toInt32)) (pv ||| (nI 0)) (by omega) (gs_f hgs l2i_0 qc_6) (by omega) _ _ hP hD hS ls (lv_sub hl [0, 1, 2, 3] rfl)
        · have c_5 : w = (0 : Int64) := (lg_cmp_eq _ _).mp qc_5
          exact absurd c_5 hw0
  exact key_21_3 _ 0 fT (nI 0) (by decide) (gs_0 v _) (Nat.lt_succ_self _) _ _ hP hD hS ls (lv_sub hl [0, 1, 2, 3] rfl)
set_option maxHeartbeats 4000000 in
set_option maxRecDepth 100000 in
/-- reference: treesIn -/
theorem c_X8_treesIn (l : Launch) (dC : Nat → ClassId) (dI : Nat → Nat → Nat) (q : Nat) (mq : Nat) (zq : Nat) (sq : Nat) (bq : Nat) (cq : Nat) (pq : Nat) (cZ : ClassId) (cI : ClassId) (cJ : ClassId) (fM : Nat → Int32) (fS : Nat → Int32) (fP : Nat → Int32) (fB : Nat → Int32) (fC : Nat → Int64) (sm : Int64) (fT : Nat → Int32) (ps : Int32) (th : Int32) (w : Int64) (sz : Nat) : Met l yX8_treesIn wsX8_treesIn ({ frames := 2, cells := 0, slots := 0, locals := 47 }) (va_Pc [.ref q, .long w] (fun U => U.heap.size = sz ∧ va_P (dC, dI) vwCl [(q, .inr (7, [.ref mq, .ref zq, .ref sq, .ref bq, .ref cq, .long sm, .ref pq, .int ps, .int th])), (mq, .inl (cZ, 12288, .inl fM)), (zq, .inl (cI, 3, .inl fS)), (sq, .inl (cI, 6156, .inl fP)), (bq, .inl (cI, 3, .inl fB)), (cq, .inl (cJ, 64, .inr (.inl fC))), (pq, .inl (cI, 8, .inl fT))] U.heap ∧ va_K (dC, dI) vwCl [(cZ, .boolean), (cI, .int), (cJ, .long)] U ∧ va_D (fun _ => True) [(q, .inr (7, [.ref mq, .ref zq, .ref sq, .ref bq, .ref cq, .long sm, .ref pq, .int ps, .int th])), (mq, .inl (cZ, 12288, .inl fM)), (zq, .inl (cI, 3, .inl fS)), (sq, .inl (cI, 6156, .inl fP)), (bq, .inl (cI, 3, .inl fB)), (cq, .inl (cJ, 64, .inr (.inl fC))), (pq, .inl (cI, 8, .inl fT))])) (va_Qi (fun (r : Int32) (u : (Nat → Int32) × Int32) => r = nI (tcw w)) (fun (u : (Nat → Int32) × Int32) (t : State) => va_P (dC, dI) vwCl [(q, .inr (7, [.ref mq, .ref zq, .ref sq, .ref bq, .ref cq, .long sm, .ref pq, .int u.2, .int th])), (mq, .inl (cZ, 12288, .inl fM)), (zq, .inl (cI, 3, .inl fS)), (sq, .inl (cI, 6156, .inl fP)), (bq, .inl (cI, 3, .inl fB)), (cq, .inl (cJ, 64, .inr (.inl fC))), (pq, .inl (cI, 8, .inl u.1))] t.heap ∧ va_K (dC, dI) vwCl [(cZ, .boolean), (cI, .int), (cJ, .long)] t ∧ va_D (va_A [(q, .inr (7, [.ref mq, .ref zq, .ref sq, .ref bq, .ref cq, .long sm, .ref pq, .int ps, .int th])), (mq, .inl (cZ, 12288, .inl fM)), (zq, .inl (cI, 3, .inl fS)), (sq, .inl (cI, 6156, .inl fP)), (bq, .inl (cI, 3, .inl fB)), (cq, .inl (cJ, 64, .inr (.inl fC))), (pq, .inl (cI, 8, .inl fT))] sz) [(q, .inr (7, [.ref mq, .ref zq, .ref sq, .ref bq, .ref cq, .long sm, .ref pq, .int u.2, .int th])), (mq, .inl (cZ, 12288, .inl fM)), (zq, .inl (cI, 3, .inl fS)), (sq, .inl (cI, 6156, .inl fP)), (bq, .inl (cI, 3, .inl fB)), (cq, .inl (cJ, 64, .inr (.inl fC))), (pq, .inl (cI, 8, .inl u.1))]) (va_A [(q, .inr (7, [.ref mq, .ref zq, .ref sq, .ref bq, .ref cq, .long sm, .ref pq, .int ps, .int th])), (mq, .inl (cZ, 12288, .inl fM)), (zq, .inl (cI, 3, .inl fS)), (sq, .inl (cI, 6156, .inl fP)), (bq, .inl (cI, 3, .inl fB)), (cq, .inl (cJ, 64, .inr (.inl fC))), (pq, .inl (cI, 8, .inl fT))] sz)) 0 0 (va_A [(q, .inr (7, [.ref mq, .ref zq, .ref sq, .ref bq, .ref cq, .long sm, .ref pq, .int ps, .int th])), (mq, .inl (cZ, 12288, .inl fM)), (zq, .inl (cI, 3, .inl fS)), (sq, .inl (cI, 6156, .inl fP)), (bq, .inl (cI, 3, .inl fB)), (cq, .inl (cJ, 64, .inr (.inl fC))), (pq, .inl (cI, 8, .inl fT))] sz) := by
  refine Met.ofW (cc := cX8_treesIn) (maxL := 5) (ret := (some .int)) (by decide) rfl ?_
  intro p e s m args below meth c s₁ B hml hv
  obtain ⟨rfl, hsz, hP, hK, hD0⟩ := hv
  have hx := B.exec
  have hb := B.bytes
  have hr := B.returns
  have hts := atoms_spec (ws := wsX8_treesIn) B.pre
  have hown : s.vm.findClass RX8 = some m.cls := findClass_of_methodNamed B.named
  have hlocks := B.notSynchronized
  subst hsz
  have hD := hD0.self (sz := s.heap.size)
  generalize hAe : va_A [(q, .inr (7, [.ref mq, .ref zq, .ref sq, .ref bq, .ref cq, .long sm, .ref pq, .int ps, .int th])), (mq, .inl (cZ, 12288, .inl fM)), (zq, .inl (cI, 3, .inl fS)), (sq, .inl (cI, 6156, .inl fP)), (bq, .inl (cI, 3, .inl fB)), (cq, .inl (cJ, 64, .inr (.inl fC))), (pq, .inl (cI, 8, .inl fT))] s.heap.size = A at hD ⊢
  have hA : ∀ q : Nat, s.heap.size ≤ q → A q := fun q h => by rw [← hAe]; exact Or.inr h
  have hS : va_S A s.heap s.heap [] := va_S.rf
  have hP : va_P (dC, dI) vwCl [(q, .inr (7, [.ref mq, .ref zq, .ref sq, .ref bq, .ref cq, .long sm, .ref pq, .int ps, .int th])), (mq, .inl (cZ, 12288, .inl fM)), (zq, .inl (cI, 3, .inl fS)), (sq, .inl (cI, 6156, .inl fP)), (bq, .inl (cI, 3, .inl fB)), (cq, .inl (cJ, 64, .inr (.inl fC))), (pq, .inl (cI, 8, .inl fT))] s.heap := hP
  have hl := lv_entry ([.ref q, .long w]) (n := 5) (Nat.le_of_ble_eq_true rfl)
  rw [lg_entry_eq]
  generalize (lg_sl ([.ref q, .long w]) ++ List.replicate (5 - (lg_sl ([.ref q, .long w])).length) Slot.unset).toArray = ls at hl ⊢
  have hl : lv_has ls 5 [(0, .ref q), (1, .long w)] := hl
  refine lv_lload_n hx hb dX8_treesIn_0 rfl (lv_at hl 1 rfl) ?_
  refine lv_lconst (v := 0) hx hb dX8_treesIn_1 (by decide +kernel) ?_
  refine W.lcmp hx hb dX8_treesIn_2 ?_
  refine lv_if_ne (tgt := 8) hx hb dX8_treesIn_3 (by decide) (fun qc_1 => ?_) (fun qc_1 => ?_)
  · have c_1 : ¬ (w = (0 : Int64)) := fun h9 => qc_1 ((lg_cmp_eq _ _).mpr h9)
    refine lv_aload_n hx hb dX8_treesIn_8 rfl (lv_at hl 0 rfl) ?_
    refine lv_lload_n hx hb dX8_treesIn_9 rfl (lv_at hl 1 rfl) ?_
    have hPc := hP.sub (ws' := [(q, .inr (7, [.ref mq, .ref zq, .ref sq, .ref bq, .ref cq, .long sm, .ref pq, .int ps, .int th])), (mq, .inl (cZ, 12288, .inl fM)), (zq, .inl (cI, 3, .inl fS)), (sq, .inl (cI, 6156, .inl fP)), (bq, .inl (cI, 3, .inl fB)), (cq, .inl (cJ, 64, .inr (.inl fC))), (pq, .inl (cI, 8, .inl fT))]) [0, 1, 2, 3, 4, 5, 6] rfl
    have hKc := hK.sub (tys' := [(cZ, .boolean), (cI, .int), (cJ, .long)]) [0, 1, 2] rfl
    have hDc := hD.sub (ws' := [(q, .inr (7, [.ref mq, .ref zq, .ref sq, .ref bq, .ref cq, .long sm, .ref pq, .int ps, .int th])), (mq, .inl (cZ, 12288, .inl fM)), (zq, .inl (cI, 3, .inl fS)), (sq, .inl (cI, 6156, .inl fP)), (bq, .inl (cI, 3, .inl fB)), (cq, .inl (cJ, 64, .inr (.inl fC))), (pq, .inl (cI, 8, .inl fT))]) [0, 1, 2, 3, 4, 5, 6] (by decide) rfl
    have hFc := va_free (wc := [(q, .inr (7, [.ref mq, .ref zq, .ref sq, .ref bq, .ref cq, .long sm, .ref pq, .int ps, .int th])), (mq, .inl (cZ, 12288, .inl fM)), (zq, .inl (cI, 3, .inl fS)), (sq, .inl (cI, 6156, .inl fP)), (bq, .inl (cI, 3, .inl fB)), (cq, .inl (cJ, 64, .inr (.inl fC))), (pq, .inl (cI, 8, .inl fT))]) hD hS hA [0, 1, 2, 3, 4, 5, 6] rfl
    refine va_callv (va_runV (As := [.long w]) (rest := []) ⟨hx, hb, hml, hown, hts⟩ (c_X8_growsSmall l dC dI q mq zq sq bq cq pq cZ cI cJ fM fS fP fB fC sm fT ps th w s.heap.size c_1) (cwV 1 hts gX8_treesIn_X8_growsSmall rfl rfl rfl (by decide +kernel) ⟨Nat.le_of_ble_eq_true rfl, Nat.le_of_ble_eq_true rfl⟩) ⟨fun a U g mk q => by obtain ⟨q0, q1, qP, qK, qD⟩ := q; exact ⟨q0, q1, qP, va_K.moved (u := U) (U := U.calling g mk a) (Vm.Alike.refl U.vm) qK, qD⟩, va_recv hKc hPc (ci := 7) (q0 := 0) rfl rfl, fun U hU hW => ⟨rfl, by rw [hU], by rw [hU]; exact hPc, va_K.moved hW.alike hKc, hDc.weaken (fun _ _ _ _ => trivial)⟩⟩ rfl rfl hl.1 rfl (lv_room (Nat.le_of_ble_eq_true rfl)) dX8_treesIn_10 ⟨Nat.le_of_ble_eq_true rfl, Nat.le_of_ble_eq_true rfl⟩) hS (fun q _ h => hFc q h) hFc (fun u_3 t9 H1 locs ht hvm hw_2 hB hz1 hk1 hS => ?_)
    obtain ⟨fT'_5, ps'_6⟩ := u_3
    obtain ⟨hP1, hK1, hD1⟩ := hB
    rw [ht] at hP1
    have hK1 := va_K.moved hvm.symm hK1
    try dsimp only at hw_2 hP1 hK1 hD1
    obtain ⟨hP, hD⟩ := va_join (wr := []) (w1 := [(q, .inr (7, [.ref mq, .ref zq, .ref sq, .ref bq, .ref cq, .long sm, .ref pq, .int ps'_6, .int th])), (mq, .inl (cZ, 12288, .inl fM)), (zq, .inl (cI, 3, .inl fS)), (sq, .inl (cI, 6156, .inl fP)), (bq, .inl (cI, 3, .inl fB)), (cq, .inl (cJ, 64, .inr (.inl fC))), (pq, .inl (cI, 8, .inl fT'_5))]) hP hD [0, 1, 2, 3, 4, 5, 6] [] rfl rfl (by decide) (by decide) hk1 hFc hP1 hD1
    generalize H1 = H at hP hS ⊢
    have hP : va_P (dC, dI) vwCl [(q, .inr (7, [.ref mq, .ref zq, .ref sq, .ref bq, .ref cq, .long sm, .ref pq, .int ps'_6, .int th])), (mq, .inl (cZ, 12288, .inl fM)), (zq, .inl (cI, 3, .inl fS)), (sq, .inl (cI, 6156, .inl fP)), (bq, .inl (cI, 3, .inl fB)), (cq, .inl (cJ, 64, .inr (.inl fC))), (pq, .inl (cI, 8, .inl fT'_5))] H := hP
    have hD : va_D A [(q, .inr (7, [.ref mq, .ref zq, .ref sq, .ref bq, .ref cq, .long sm, .ref pq, .int ps'_6, .int th])), (mq, .inl (cZ, 12288, .inl fM)), (zq, .inl (cI, 3, .inl fS)), (sq, .inl (cI, 6156, .inl fP)), (bq, .inl (cI, 3, .inl fB)), (cq, .inl (cJ, 64, .inr (.inl fC))), (pq, .inl (cI, 8, .inl fT'_5))] := hD
    have hGS := hw_2
    refine lv_aload_n hx hb dX8_treesIn_13 rfl (lv_at hl 0 rfl) ?_
    refine va_get (D := (dC, dI)) (ci := 7) (v := .int ps'_6) (C := RX8) (T := TX8) (N := 9) hx hb hts (by decide +kernel) hown hK hP 0 rfl rfl 7 (by decide) (hts (.fieldLink RX8 105 "SmallNumberSetsModel" "parts" "I") (by decide +kernel)) (fun _ h9 => h9) rfl dX8_treesIn_14 ?_
    refine lv_if_ne (tgt := 24) hx hb dX8_treesIn_17 (by decide) (fun qc_7 => ?_) (fun qc_7 => ?_)
    · refine lv_iconst (v := nI 2) hx hb dX8_treesIn_24 (by decide +kernel) ?_
      refine lv_istore_n (lv' := [(3, .int (nI 2)), (0, .ref q), (1, .long w)]) hx hb dX8_treesIn_25 rfl hl (by decide) rfl (fun ls hl => ?_)
      refine lv_iconst (v := nI 0) hx hb dX8_treesIn_26 (by decide +kernel) ?_
      refine lv_istore (lv' := [(4, .int (nI 0)), (3, .int (nI 2)), (0, .ref q), (1, .long w)]) hx hb dX8_treesIn_27 hl (by decide) rfl (fun ls hl => ?_)
      have key_29_8 : ∀ (fu : Nat) (i : Nat) (t : Nat) (hi1 : i ≤ 8) (hti : t = 2 + fb_ct (blk (w &&& (w - 1))) i) (hfu : 8 - i < fu) (ls : Array Slot) (hl : lv_has ls 5 [(4, .int (nI i)), (3, .int (nI t)), (0, .ref q), (1, .long w)]), W p l e (headSpec wsX8_treesIn ({ frames := 2, cells := 0, slots := 0, locals := 47 })).room s m ([.ref q, .long w] : List Value).toArray below meth c H locs 0 0 (MQ below (va_Qi (fun (r : Int32) (u : (Nat → Int32) × Int32) => r = nI (tcw w)) (fun (u : (Nat → Int32) × Int32) (t : State) => va_P (dC, dI) vwCl [(q, .inr (7, [.ref mq, .ref zq, .ref sq, .ref bq, .ref cq, .long sm, .ref pq, .int u.2, .int th])), (mq, .inl (cZ, 12288, .inl fM)), (zq, .inl (cI, 3, .inl fS)), (sq, .inl (cI, 6156, .inl fP)), (bq, .inl (cI, 3, .inl fB)), (cq, .inl (cJ, 64, .inr (.inl fC))), (pq, .inl (cI, 8, .inl u.1))] t.heap ∧ va_K (dC, dI) vwCl [(cZ, .boolean), (cI, .int), (cJ, .long)] t ∧ va_D A [(q, .inr (7, [.ref mq, .ref zq, .ref sq, .ref bq, .ref cq, .long sm, .ref pq, .int u.2, .int th])), (mq, .inl (cZ, 12288, .inl fM)), (zq, .inl (cI, 3, .inl fS)), (sq, .inl (cI, 6156, .inl fP)), (bq, .inl (cI, 3, .inl fB)), (cq, .inl (cJ, 64, .inr (.inl fC))), (pq, .inl (cI, 8, .inl u.1))]) A) ([.ref q, .long w] : List Value).toArray s 0 0 A) (F0 m 29 ls []) := by
        intro fu
        induction fu with
        | zero =>
          intro i t hi1 hti hfu ls hl
          exact absurd hfu (Nat.not_lt_zero _)
        | succ fu ih_29 =>
          intro i t hi1 hti hfu ls hl
          refine lv_iload hx hb dX8_treesIn_29 (lv_at hl 0 rfl) ?_
          refine lv_bipush (v := nI 8) hx hb dX8_treesIn_31 (by decide +kernel) ?_
          refine lv_icmp_ge (tgt := 60) hx hb dX8_treesIn_33 (by decide) (fun qc_9 => ?_) (fun qc_9 => ?_)
          · have c_9 : 8 ≤ i := (nI_leI (a := 8) (b := i) (by omega) (by omega)).mp qc_9
            refine lv_iload_n hx hb dX8_treesIn_60 rfl (lv_at hl 1 rfl) ?_
            have hP9 := hP.sub (ws' := [(q, .inr (7, [.ref mq, .ref zq, .ref sq, .ref bq, .ref cq, .long sm, .ref pq, .int ps'_6, .int th])), (mq, .inl (cZ, 12288, .inl fM)), (zq, .inl (cI, 3, .inl fS)), (sq, .inl (cI, 6156, .inl fP)), (bq, .inl (cI, 3, .inl fB)), (cq, .inl (cJ, 64, .inr (.inl fC))), (pq, .inl (cI, 8, .inl fT'_5))]) [0, 1, 2, 3, 4, 5, 6] rfl
            have hD9 := hD.sub (ws' := [(q, .inr (7, [.ref mq, .ref zq, .ref sq, .ref bq, .ref cq, .long sm, .ref pq, .int ps'_6, .int th])), (mq, .inl (cZ, 12288, .inl fM)), (zq, .inl (cI, 3, .inl fS)), (sq, .inl (cI, 6156, .inl fP)), (bq, .inl (cI, 3, .inl fB)), (cq, .inl (cJ, 64, .inr (.inl fC))), (pq, .inl (cI, 8, .inl fT'_5))]) [0, 1, 2, 3, 4, 5, 6] (by decide) rfl
            have hK9 := hK.sub (tys' := [(cZ, .boolean), (cI, .int), (cJ, .long)]) [0, 1, 2] rfl
            exact W.iret (v := nI t) hx hb hr (fun t9 ht hW => ⟨⟨nI t, ⟨fT'_5, ps'_6⟩, rfl, (show (nI t) = nI (tcw w) from congrArg nI (ti_end c_1 hGS (by rw [hti, show i = 8 by omega]) (Or.inr ⟨rfl, qc_7⟩))), by rw [ht]; exact hP9, va_K.moved hW.alike hK9, hD9⟩, hS.F ht⟩) hS.2.2 dX8_treesIn_61
          · have c_9 : ¬ 8 ≤ i := fun h9 => qc_9 ((nI_leI (a := 8) (b := i) (by omega) (by omega)).mpr h9)
            refine lv_iload_n hx hb dX8_treesIn_36 rfl (lv_at hl 1 rfl) ?_
            refine lv_aload_n hx hb dX8_treesIn_37 rfl (lv_at hl 2 rfl) ?_
            refine va_get (D := (dC, dI)) (ci := 7) (v := .ref pq) (C := RX8) (T := TX8) (N := 9) hx hb hts (by decide +kernel) hown hK hP 0 rfl rfl 6 (by decide) (hts (.fieldLink RX8 27 "SmallNumberSetsModel" "part" "[I") (by decide +kernel)) (fun _ h9 => h9) rfl dX8_treesIn_38 ?_
            refine lv_iload hx hb dX8_treesIn_41 (lv_at hl 0 rfl) ?_
            refine va_iald hx hb hK hP 6 1 rfl rfl (vp_in_nI (by omega) (by omega)) dX8_treesIn_43 ?_
            refine lv_cvi (congrArg fT'_5 (nI_clamp (by omega))) ?_
            refine lv_if_ne (tgt := 51) hx hb dX8_treesIn_44 (by decide) (fun qc_10 => ?_) (fun qc_10 => ?_)
            · refine lv_iconst (v := nI 1) hx hb dX8_treesIn_51 (by decide +kernel) ?_
              refine lv_iadd hx hb dX8_treesIn_52 ?_
              refine lv_cvi (nI_add _ _) ?_
              refine lv_istore_n (lv' := [(3, .int (nI (t + 1))), (4, .int (nI i)), (0, .ref q), (1, .long w)]) hx hb dX8_treesIn_53 rfl hl (by decide) rfl (fun ls hl => ?_)
              refine lv_iinc (v := nI (i + 1)) (lv' := [(4, .int (nI (i + 1))), (3, .int (nI (t + 1))), (0, .ref q), (1, .long w)]) hx hb dX8_treesIn_54 hl (k := 1) rfl (nI_1 _) (by decide) rfl (fun ls hl => ?_)
              refine lv_goto (tgt := 29) hx hb dX8_treesIn_57 (by decide) ?_
              exact ih_29 (i + 1) (t + 1) (by omega) (by rw [ti_1 hGS (by omega) qc_10, hti]; omega) (by omega) ls (lv_sub hl [0, 1, 2, 3] rfl)
            · refine lv_iconst (v := nI 0) hx hb dX8_treesIn_47 (by decide +kernel) ?_
              refine lv_goto (tgt := 52) hx hb dX8_treesIn_48 (by decide) ?_
              refine lv_iadd hx hb dX8_treesIn_52 ?_
              refine lv_cvi (nI_add _ _) ?_
              refine lv_istore_n (lv' := [(3, .int (nI (t + 0))), (4, .int (nI i)), (0, .ref q), (1, .long w)]) hx hb dX8_treesIn_53 rfl hl (by decide) rfl (fun ls hl => ?_)
              refine lv_iinc (v := nI (i + 1)) (lv' := [(4, .int (nI (i + 1))), (3, .int (nI (t + 0))), (0, .ref q), (1, .long w)]) hx hb dX8_treesIn_54 hl (k := 1) rfl (nI_1 _) (by decide) rfl (fun ls hl => ?_)
              refine lv_goto (tgt := 29) hx hb dX8_treesIn_57 (by decide) ?_
              exact ih_29 (i + 1) (t + 0) (by omega) (by rw [ti_0 hGS (by omega) qc_10, hti]; omega) (by omega) ls (lv_sub hl [0, 1, 2, 3] rfl)
      exact key_29_8 _ 0 2 (by decide) rfl (Nat.lt_succ_self _) ls (lv_sub hl [0, 1, 2, 3] rfl)
    · refine lv_iconst (v := nI 1) hx hb dX8_treesIn_20 (by decide +kernel) ?_
      refine lv_goto (tgt := 25) hx hb dX8_treesIn_21 (by decide) ?_
      refine lv_istore_n (lv' := [(3, .int (nI 1)), (0, .ref q), (1, .long w)]) hx hb dX8_treesIn_25 rfl hl (by decide) rfl (fun ls hl => ?_)
      refine lv_iconst (v := nI 0) hx hb dX8_treesIn_26 (by decide +kernel) ?_
      refine lv_istore (lv' := [(4, .int (nI 0)), (3, .int (nI 1)), (0, .ref q), (1, .long w)]) hx hb dX8_treesIn_27 hl (by decide) rfl (fun ls hl => ?_)
      have key_29_11 : ∀ (fu : Nat) (i : Nat) (t : Nat) (hi1 : i ≤ 8) (hti : t = 1 + fb_ct (blk (w &&& (w - 1))) i) (hfu : 8 - i < fu) (ls : Array Slot) (hl : lv_has ls 5 [(4, .int (nI i)), (3, .int (nI t)), (0, .ref q), (1, .long w)]), W p l e (headSpec wsX8_treesIn ({ frames := 2, cells := 0, slots := 0, locals := 47 })).room s m ([.ref q, .long w] : List Value).toArray below meth c H locs 0 0 (MQ below (va_Qi (fun (r : Int32) (u : (Nat → Int32) × Int32) => r = nI (tcw w)) (fun (u : (Nat → Int32) × Int32) (t : State) => va_P (dC, dI) vwCl [(q, .inr (7, [.ref mq, .ref zq, .ref sq, .ref bq, .ref cq, .long sm, .ref pq, .int u.2, .int th])), (mq, .inl (cZ, 12288, .inl fM)), (zq, .inl (cI, 3, .inl fS)), (sq, .inl (cI, 6156, .inl fP)), (bq, .inl (cI, 3, .inl fB)), (cq, .inl (cJ, 64, .inr (.inl fC))), (pq, .inl (cI, 8, .inl u.1))] t.heap ∧ va_K (dC, dI) vwCl [(cZ, .boolean), (cI, .int), (cJ, .long)] t ∧ va_D A [(q, .inr (7, [.ref mq, .ref zq, .ref sq, .ref bq, .ref cq, .long sm, .ref pq, .int u.2, .int th])), (mq, .inl (cZ, 12288, .inl fM)), (zq, .inl (cI, 3, .inl fS)), (sq, .inl (cI, 6156, .inl fP)), (bq, .inl (cI, 3, .inl fB)), (cq, .inl (cJ, 64, .inr (.inl fC))), (pq, .inl (cI, 8, .inl u.1))]) A) ([.ref q, .long w] : List Value).toArray s 0 0 A) (F0 m 29 ls []) := by
        intro fu
        induction fu with
        | zero =>
          intro i t hi1 hti hfu ls hl
          exact absurd hfu (Nat.not_lt_zero _)
        | succ fu ih_29 =>
          intro i t hi1 hti hfu ls hl
          refine lv_iload hx hb dX8_treesIn_29 (lv_at hl 0 rfl) ?_
          refine lv_bipush (v := nI 8) hx hb dX8_treesIn_31 (by decide +kernel) ?_
          refine lv_icmp_ge (tgt := 60) hx hb dX8_treesIn_33 (by decide) (fun qc_12 => ?_) (fun qc_12 => ?_)
          · have c_12 : 8 ≤ i := (nI_leI (a := 8) (b := i) (by omega) (by omega)).mp qc_12
            refine lv_iload_n hx hb dX8_treesIn_60 rfl (lv_at hl 1 rfl) ?_
            have hP9 := hP.sub (ws' := [(q, .inr (7, [.ref mq, .ref zq, .ref sq, .ref bq, .ref cq, .long sm, .ref pq, .int ps'_6, .int th])), (mq, .inl (cZ, 12288, .inl fM)), (zq, .inl (cI, 3, .inl fS)), (sq, .inl (cI, 6156, .inl fP)), (bq, .inl (cI, 3, .inl fB)), (cq, .inl (cJ, 64, .inr (.inl fC))), (pq, .inl (cI, 8, .inl fT'_5))]) [0, 1, 2, 3, 4, 5, 6] rfl
            have hD9 := hD.sub (ws' := [(q, .inr (7, [.ref mq, .ref zq, .ref sq, .ref bq, .ref cq, .long sm, .ref pq, .int ps'_6, .int th])), (mq, .inl (cZ, 12288, .inl fM)), (zq, .inl (cI, 3, .inl fS)), (sq, .inl (cI, 6156, .inl fP)), (bq, .inl (cI, 3, .inl fB)), (cq, .inl (cJ, 64, .inr (.inl fC))), (pq, .inl (cI, 8, .inl fT'_5))]) [0, 1, 2, 3, 4, 5, 6] (by decide) rfl
            have hK9 := hK.sub (tys' := [(cZ, .boolean), (cI, .int), (cJ, .long)]) [0, 1, 2] rfl
            exact W.iret (v := nI t) hx hb hr (fun t9 ht hW => ⟨⟨nI t, ⟨fT'_5, ps'_6⟩, rfl, (show (nI t) = nI (tcw w) from congrArg nI (ti_end c_1 hGS (by rw [hti, show i = 8 by omega]) (Or.inl ⟨rfl, qc_7⟩))), by rw [ht]; exact hP9, va_K.moved hW.alike hK9, hD9⟩, hS.F ht⟩) hS.2.2 dX8_treesIn_61
          · have c_12 : ¬ 8 ≤ i := fun h9 => qc_12 ((nI_leI (a := 8) (b := i) (by omega) (by omega)).mpr h9)
            refine lv_iload_n hx hb dX8_treesIn_36 rfl (lv_at hl 1 rfl) ?_
            refine lv_aload_n hx hb dX8_treesIn_37 rfl (lv_at hl 2 rfl) ?_
            refine va_get (D := (dC, dI)) (ci := 7) (v := .ref pq) (C := RX8) (T := TX8) (N := 9) hx hb hts (by decide +kernel) hown hK hP 0 rfl rfl 6 (by decide) (hts (.fieldLink RX8 27 "SmallNumberSetsModel" "part" "[I") (by decide +kernel)) (fun _ h9 => h9) rfl dX8_treesIn_38 ?_
            refine lv_iload hx hb dX8_treesIn_41 (lv_at hl 0 rfl) ?_
            refine va_iald hx hb hK hP 6 1 rfl rfl (vp_in_nI (by omega) (by omega)) dX8_treesIn_43 ?_
            refine lv_cvi (congrArg fT'_5 (nI_clamp (by omega))) ?_
            refine lv_if_ne (tgt := 51) hx hb dX8_treesIn_44 (by decide) (fun qc_13 => ?_) (fun qc_13 => ?_)
            · refine lv_iconst (v := nI 1) hx hb dX8_treesIn_51 (by decide +kernel) ?_
              refine lv_iadd hx hb dX8_treesIn_52 ?_
              refine lv_cvi (nI_add _ _) ?_
              refine lv_istore_n (lv' := [(3, .int (nI (t + 1))), (4, .int (nI i)), (0, .ref q), (1, .long w)]) hx hb dX8_treesIn_53 rfl hl (by decide) rfl (fun ls hl => ?_)
              refine lv_iinc (v := nI (i + 1)) (lv' := [(4, .int (nI (i + 1))), (3, .int (nI (t + 1))), (0, .ref q), (1, .long w)]) hx hb dX8_treesIn_54 hl (k := 1) rfl (nI_1 _) (by decide) rfl (fun ls hl => ?_)
              refine lv_goto (tgt := 29) hx hb dX8_treesIn_57 (by decide) ?_
              exact ih_29 (i + 1) (t + 1) (by omega) (by rw [ti_1 hGS (by omega) qc_13, hti]; omega) (by omega) ls (lv_sub hl [0, 1, 2, 3] rfl)
            · refine lv_iconst (v := nI 0) hx hb dX8_treesIn_47 (by decide +kernel) ?_
              refine lv_goto (tgt := 52) hx hb dX8_treesIn_48 (by decide) ?_
              refine lv_iadd hx hb dX8_treesIn_52 ?_
              refine lv_cvi (nI_add _ _) ?_
              refine lv_istore_n (lv' := [(3, .int (nI (t + 0))), (4, .int (nI i)), (0, .ref q), (1, .long w)]) hx hb dX8_treesIn_53 rfl hl (by decide) rfl (fun ls hl => ?_)
              refine lv_iinc (v := nI (i + 1)) (lv' := [(4, .int (nI (i + 1))), (3, .int (nI (t + 0))), (0, .ref q), (1, .long w)]) hx hb dX8_treesIn_54 hl (k := 1) rfl (nI_1 _) (by decide) rfl (fun ls hl => ?_)
              refine lv_goto (tgt := 29) hx hb dX8_treesIn_57 (by decide) ?_
              exact ih_29 (i + 1) (t + 0) (by omega) (by rw [ti_0 hGS (by omega) qc_13, hti]; omega) (by omega) ls (lv_sub hl [0, 1, 2, 3] rfl)
      exact key_29_11 _ 0 1 (by decide) rfl (Nat.lt_succ_self _) ls (lv_sub hl [0, 1, 2, 3] rfl)
  · have c_1 : w = (0 : Int64) := (lg_cmp_eq _ _).mp qc_1
    refine lv_iconst (v := nI 0) hx hb dX8_treesIn_6 (by decide +kernel) ?_
    have hP9 := hP.sub (ws' := [(q, .inr (7, [.ref mq, .ref zq, .ref sq, .ref bq, .ref cq, .long sm, .ref pq, .int ps, .int th])), (mq, .inl (cZ, 12288, .inl fM)), (zq, .inl (cI, 3, .inl fS)), (sq, .inl (cI, 6156, .inl fP)), (bq, .inl (cI, 3, .inl fB)), (cq, .inl (cJ, 64, .inr (.inl fC))), (pq, .inl (cI, 8, .inl fT))]) [0, 1, 2, 3, 4, 5, 6] rfl
    have hD9 := hD.sub (ws' := [(q, .inr (7, [.ref mq, .ref zq, .ref sq, .ref bq, .ref cq, .long sm, .ref pq, .int ps, .int th])), (mq, .inl (cZ, 12288, .inl fM)), (zq, .inl (cI, 3, .inl fS)), (sq, .inl (cI, 6156, .inl fP)), (bq, .inl (cI, 3, .inl fB)), (cq, .inl (cJ, 64, .inr (.inl fC))), (pq, .inl (cI, 8, .inl fT))]) [0, 1, 2, 3, 4, 5, 6] (by decide) rfl
    have hK9 := hK.sub (tys' := [(cZ, .boolean), (cI, .int), (cJ, .long)]) [0, 1, 2] rfl
    exact W.iret (v := nI 0) hx hb hr (fun t9 ht hW => ⟨⟨nI 0, ⟨fT, ps⟩, rfl, (show (nI 0) = nI (tcw w) from congrArg nI (tcw_0 c_1).symm), by rw [ht]; exact hP9, va_K.moved hW.alike hK9, hD9⟩, hS.F ht⟩) hS.2.2 dX8_treesIn_7
set_option maxHeartbeats 4000000 in
set_option maxRecDepth 100000 in
/-- reference: c_X8_isCluster_v -/
theorem c_X8_isCluster_v (l : Launch) (dC : Nat → ClassId) (dI : Nat → Nat → Nat) (q : Nat) (mq : Nat) (zq : Nat) (sq : Nat) (bq : Nat) (cq : Nat) (pq : Nat) (cZ : ClassId) (cI : ClassId) (cJ : ClassId) (fM : Nat → Int32) (fS : Nat → Int32) (fP : Nat → Int32) (fB : Nat → Int32) (fC : Nat → Int64) (sm : Int64) (fT : Nat → Int32) (ps : Int32) (th : Int32) (M : Nat → Nat → Bool) (k : Nat) (x : Nat) (sz : Nat) (hM : MM fM M) (hk : k < 3) (hxx : x < 64) : Met l yX8_isCluster wsX8_isCluster ({ frames := 3, cells := 0, slots := 0, locals := 70 }) (va_Pc [.ref q, .int (nI k), .int (nI x)] (fun U => U.heap.size = sz ∧ va_P (dC, dI) vwCl [(q, .inr (7, [.ref mq, .ref zq, .ref sq, .ref bq, .ref cq, .long sm, .ref pq, .int ps, .int th])), (mq, .inl (cZ, 12288, .inl fM)), (zq, .inl (cI, 3, .inl fS)), (sq, .inl (cI, 6156, .inl fP)), (bq, .inl (cI, 3, .inl fB)), (cq, .inl (cJ, 64, .inr (.inl fC))), (pq, .inl (cI, 8, .inl fT))] U.heap ∧ va_K (dC, dI) vwCl [(cZ, .boolean), (cI, .int), (cJ, .long)] U ∧ va_D (fun _ => True) [(q, .inr (7, [.ref mq, .ref zq, .ref sq, .ref bq, .ref cq, .long sm, .ref pq, .int ps, .int th])), (mq, .inl (cZ, 12288, .inl fM)), (zq, .inl (cI, 3, .inl fS)), (sq, .inl (cI, 6156, .inl fP)), (bq, .inl (cI, 3, .inl fB)), (cq, .inl (cJ, 64, .inr (.inl fC))), (pq, .inl (cI, 8, .inl fT))])) (va_Qi (fun (r : Int32) (u : (Nat → Int64) × Int64 × Int32) => r = b2i true ∧ (∀ h, h < 64 → u.1 h = clw (M k) h) ∧ u.2.1 = smw (M k) ∧ u.2.2 = nI 0) (fun (u : (Nat → Int64) × Int64 × Int32) (t : State) => va_P (dC, dI) vwCl [(q, .inr (7, [.ref mq, .ref zq, .ref sq, .ref bq, .ref cq, .long u.2.1, .ref pq, .int ps, .int u.2.2])), (mq, .inl (cZ, 12288, .inl fM)), (zq, .inl (cI, 3, .inl fS)), (sq, .inl (cI, 6156, .inl fP)), (bq, .inl (cI, 3, .inl fB)), (cq, .inl (cJ, 64, .inr (.inl u.1))), (pq, .inl (cI, 8, .inl fT))] t.heap ∧ va_K (dC, dI) vwCl [(cZ, .boolean), (cI, .int), (cJ, .long)] t ∧ va_D (va_A [(q, .inr (7, [.ref mq, .ref zq, .ref sq, .ref bq, .ref cq, .long sm, .ref pq, .int ps, .int th])), (mq, .inl (cZ, 12288, .inl fM)), (zq, .inl (cI, 3, .inl fS)), (sq, .inl (cI, 6156, .inl fP)), (bq, .inl (cI, 3, .inl fB)), (cq, .inl (cJ, 64, .inr (.inl fC))), (pq, .inl (cI, 8, .inl fT))] sz) [(q, .inr (7, [.ref mq, .ref zq, .ref sq, .ref bq, .ref cq, .long u.2.1, .ref pq, .int ps, .int u.2.2])), (mq, .inl (cZ, 12288, .inl fM)), (zq, .inl (cI, 3, .inl fS)), (sq, .inl (cI, 6156, .inl fP)), (bq, .inl (cI, 3, .inl fB)), (cq, .inl (cJ, 64, .inr (.inl u.1))), (pq, .inl (cI, 8, .inl fT))]) (va_A [(q, .inr (7, [.ref mq, .ref zq, .ref sq, .ref bq, .ref cq, .long sm, .ref pq, .int ps, .int th])), (mq, .inl (cZ, 12288, .inl fM)), (zq, .inl (cI, 3, .inl fS)), (sq, .inl (cI, 6156, .inl fP)), (bq, .inl (cI, 3, .inl fB)), (cq, .inl (cJ, 64, .inr (.inl fC))), (pq, .inl (cI, 8, .inl fT))] sz)) 0 0 (va_A [(q, .inr (7, [.ref mq, .ref zq, .ref sq, .ref bq, .ref cq, .long sm, .ref pq, .int ps, .int th])), (mq, .inl (cZ, 12288, .inl fM)), (zq, .inl (cI, 3, .inl fS)), (sq, .inl (cI, 6156, .inl fP)), (bq, .inl (cI, 3, .inl fB)), (cq, .inl (cJ, 64, .inr (.inl fC))), (pq, .inl (cI, 8, .inl fT))] sz) := by
  refine Met.ofW (cc := cX8_isCluster) (maxL := 4) (ret := (some .boolean)) (by decide) rfl ?_
  intro p e s m args below meth c s₁ B hml hv
  obtain ⟨rfl, hsz, hP, hK, hD0⟩ := hv
  have hx := B.exec
  have hb := B.bytes
  have hr := B.returns
  have hts := atoms_spec (ws := wsX8_isCluster) B.pre
  have hown : s.vm.findClass RX8 = some m.cls := findClass_of_methodNamed B.named
  have hlocks := B.notSynchronized
  subst hsz
  have hD := hD0.self (sz := s.heap.size)
  generalize hAe : va_A [(q, .inr (7, [.ref mq, .ref zq, .ref sq, .ref bq, .ref cq, .long sm, .ref pq, .int ps, .int th])), (mq, .inl (cZ, 12288, .inl fM)), (zq, .inl (cI, 3, .inl fS)), (sq, .inl (cI, 6156, .inl fP)), (bq, .inl (cI, 3, .inl fB)), (cq, .inl (cJ, 64, .inr (.inl fC))), (pq, .inl (cI, 8, .inl fT))] s.heap.size = A at hD ⊢
  have hA : ∀ q : Nat, s.heap.size ≤ q → A q := fun q h => by rw [← hAe]; exact Or.inr h
  have hS : va_S A s.heap s.heap [] := va_S.rf
  have hP : va_P (dC, dI) vwCl [(q, .inr (7, [.ref mq, .ref zq, .ref sq, .ref bq, .ref cq, .long sm, .ref pq, .int ps, .int th])), (mq, .inl (cZ, 12288, .inl fM)), (zq, .inl (cI, 3, .inl fS)), (sq, .inl (cI, 6156, .inl fP)), (bq, .inl (cI, 3, .inl fB)), (cq, .inl (cJ, 64, .inr (.inl fC))), (pq, .inl (cI, 8, .inl fT))] s.heap := hP
  have hl := lv_entry ([.ref q, .int (nI k), .int (nI x)]) (n := 4) (Nat.le_of_ble_eq_true rfl)
  rw [lg_entry_eq]
  generalize (lg_sl ([.ref q, .int (nI k), .int (nI x)]) ++ List.replicate (4 - (lg_sl ([.ref q, .int (nI k), .int (nI x)])).length) Slot.unset).toArray = ls at hl ⊢
  have hl : lv_has ls 4 [(0, .ref q), (1, .int (nI k)), (2, .int (nI x))] := hl
  refine lv_aload_n hx hb dX8_isCluster_0 rfl (lv_at hl 0 rfl) ?_
  refine lv_iload_n hx hb dX8_isCluster_1 rfl (lv_at hl 1 rfl) ?_
  have hPc := hP.sub (ws' := []) [] rfl
  have hKc := hK.sub (tys' := []) [] rfl
  refine vp_callSi (W.runS (As := [.int (nI k)]) (rest := [.ref q]) ⟨hx, hb, hml, hown, hts⟩ (c_X8_isSet l dC dI (nI k) ) (va_cwS 1 hts gX8_isCluster_X8_isSet rfl rfl rfl (by decide +kernel) ⟨Nat.le_of_ble_eq_true rfl, Nat.le_of_ble_eq_true rfl⟩) ⟨fun a U g mk q => by obtain ⟨q0, qP, qK⟩ := q; exact ⟨q0, qP, va_K.moved (u := U) (U := U.calling g mk a) (Vm.Alike.refl U.vm) qK⟩, fun U hU hW => ⟨rfl, by rw [hU]; exact hPc, va_K.moved hW.alike hKc⟩⟩ rfl rfl hl.1 rfl (lv_room (Nat.le_of_ble_eq_true rfl)) dX8_isCluster_2 ⟨Nat.le_of_ble_eq_true rfl, Nat.le_of_ble_eq_true rfl⟩) (fun r_2 hw_1 => ?_)
  subst hw_1
  refine lv_cvi (congrArg b2i (isS_t hk)) ?_
  refine lv_if_eq (tgt := 22) hx hb dX8_isCluster_5 (by decide) (fun qc_3 => ?_) (fun qc_3 => ?_)
  · have c_3 : true = false := b2i_f qc_3
    cases c_3
  · have c_3 : true = true := b2i_t qc_3
    refine lv_iload_n hx hb dX8_isCluster_8 rfl (lv_at hl 2 rfl) ?_
    refine lv_iconst (v := nI 0) hx hb dX8_isCluster_9 (by decide +kernel) ?_
    refine lv_bipush (v := nI 63) hx hb dX8_isCluster_10 (by decide +kernel) ?_
    have hPc := hP.sub (ws' := []) [] rfl
    have hKc := hK.sub (tys' := []) [] rfl
    refine vp_callSi (W.runS (As := [.int (nI x), .int (nI 0), .int (nI 63)]) (rest := [.ref q]) ⟨hx, hb, hml, hown, hts⟩ (c_X8_in l dC dI (nI x) (nI 0) (nI 63) ) (va_cwS 3 hts gX8_isCluster_X8_in rfl rfl rfl (by decide +kernel) ⟨Nat.le_of_ble_eq_true rfl, Nat.le_of_ble_eq_true rfl⟩) ⟨fun a U g mk q => by obtain ⟨q0, qP, qK⟩ := q; exact ⟨q0, qP, va_K.moved (u := U) (U := U.calling g mk a) (Vm.Alike.refl U.vm) qK⟩, fun U hU hW => ⟨rfl, by rw [hU]; exact hPc, va_K.moved hW.alike hKc⟩⟩ rfl rfl hl.1 rfl (lv_room (Nat.le_of_ble_eq_true rfl)) dX8_isCluster_12 ⟨Nat.le_of_ble_eq_true rfl, Nat.le_of_ble_eq_true rfl⟩) (fun r_5 hw_4 => ?_)
    subst hw_4
    refine lv_cvi (congrArg b2i (inr_t (by omega) (by decide))) ?_
    refine lv_if_eq (tgt := 22) hx hb dX8_isCluster_15 (by decide) (fun qc_6 => ?_) (fun qc_6 => ?_)
    · have c_6 : true = false := b2i_f qc_6
      cases c_6
    · have c_6 : true = true := b2i_t qc_6
      refine lv_iconst (v := nI 1) hx hb dX8_isCluster_18 (by decide +kernel) ?_
      refine lv_goto (tgt := 23) hx hb dX8_isCluster_19 (by decide) ?_
      refine lv_cvi ((rfl : nI 1 = b2i true)) ?_
      have hPc := hP.sub (ws' := [(q, .inr (7, [.ref mq, .ref zq, .ref sq, .ref bq, .ref cq, .long sm, .ref pq, .int ps, .int th])), (mq, .inl (cZ, 12288, .inl fM)), (zq, .inl (cI, 3, .inl fS)), (sq, .inl (cI, 6156, .inl fP)), (bq, .inl (cI, 3, .inl fB)), (cq, .inl (cJ, 64, .inr (.inl fC))), (pq, .inl (cI, 8, .inl fT))]) [0, 1, 2, 3, 4, 5, 6] rfl
      have hKc := hK.sub (tys' := [(cZ, .boolean), (cI, .int), (cJ, .long)]) [0, 1, 2] rfl
      have hDc := hD.sub (ws' := [(q, .inr (7, [.ref mq, .ref zq, .ref sq, .ref bq, .ref cq, .long sm, .ref pq, .int ps, .int th])), (mq, .inl (cZ, 12288, .inl fM)), (zq, .inl (cI, 3, .inl fS)), (sq, .inl (cI, 6156, .inl fP)), (bq, .inl (cI, 3, .inl fB)), (cq, .inl (cJ, 64, .inr (.inl fC))), (pq, .inl (cI, 8, .inl fT))]) [0, 1, 2, 3, 4, 5, 6] (by decide) rfl
      have hFc := va_free (wc := [(q, .inr (7, [.ref mq, .ref zq, .ref sq, .ref bq, .ref cq, .long sm, .ref pq, .int ps, .int th])), (mq, .inl (cZ, 12288, .inl fM)), (zq, .inl (cI, 3, .inl fS)), (sq, .inl (cI, 6156, .inl fP)), (bq, .inl (cI, 3, .inl fB)), (cq, .inl (cJ, 64, .inr (.inl fC))), (pq, .inl (cI, 8, .inl fT))]) hD hS hA [0, 1, 2, 3, 4, 5, 6] rfl
      refine va_calli (va_runV (As := [.int (b2i true)]) (rest := []) ⟨hx, hb, hml, hown, hts⟩ (c_X8_asked l dC dI q mq zq sq bq cq pq cZ cI cJ fM fS fP fB fC sm fT ps th true s.heap.size ) (cwV 1 hts gX8_isCluster_X8_asked rfl rfl rfl (by decide +kernel) ⟨Nat.le_of_ble_eq_true rfl, Nat.le_of_ble_eq_true rfl⟩) ⟨fun a U g mk q => by obtain ⟨q0, q1, qP, qK, qD⟩ := q; exact ⟨q0, q1, qP, va_K.moved (u := U) (U := U.calling g mk a) (Vm.Alike.refl U.vm) qK, qD⟩, va_recv hKc hPc (ci := 7) (q0 := 0) rfl rfl, fun U hU hW => ⟨rfl, by rw [hU], by rw [hU]; exact hPc, va_K.moved hW.alike hKc, hDc.weaken (fun _ _ _ _ => trivial)⟩⟩ rfl rfl hl.1 rfl (lv_room (Nat.le_of_ble_eq_true rfl)) dX8_isCluster_23 ⟨Nat.le_of_ble_eq_true rfl, Nat.le_of_ble_eq_true rfl⟩) hS (fun q _ h => hFc q h) hFc (fun r_9 u_8 t9 H1 locs ht hvm hw_7 hB hz1 hk1 hS => ?_)
      obtain ⟨th'_10, rfl⟩ : ∃ z, z = u_8 := ⟨_, rfl⟩
      obtain ⟨hP1, hK1, hD1⟩ := hB
      rw [ht] at hP1
      have hK1 := va_K.moved hvm.symm hK1
      try dsimp only at hw_7 hP1 hK1 hD1
      obtain ⟨hP, hD⟩ := va_join (wr := []) (w1 := [(q, .inr (7, [.ref mq, .ref zq, .ref sq, .ref bq, .ref cq, .long sm, .ref pq, .int ps, .int th'_10])), (mq, .inl (cZ, 12288, .inl fM)), (zq, .inl (cI, 3, .inl fS)), (sq, .inl (cI, 6156, .inl fP)), (bq, .inl (cI, 3, .inl fB)), (cq, .inl (cJ, 64, .inr (.inl fC))), (pq, .inl (cI, 8, .inl fT))]) hP hD [0, 1, 2, 3, 4, 5, 6] [] rfl rfl (by decide) (by decide) hk1 hFc hP1 hD1
      generalize H1 = H at hP hS ⊢
      have hP : va_P (dC, dI) vwCl [(q, .inr (7, [.ref mq, .ref zq, .ref sq, .ref bq, .ref cq, .long sm, .ref pq, .int ps, .int th'_10])), (mq, .inl (cZ, 12288, .inl fM)), (zq, .inl (cI, 3, .inl fS)), (sq, .inl (cI, 6156, .inl fP)), (bq, .inl (cI, 3, .inl fB)), (cq, .inl (cJ, 64, .inr (.inl fC))), (pq, .inl (cI, 8, .inl fT))] H := hP
      have hD : va_D A [(q, .inr (7, [.ref mq, .ref zq, .ref sq, .ref bq, .ref cq, .long sm, .ref pq, .int ps, .int th'_10])), (mq, .inl (cZ, 12288, .inl fM)), (zq, .inl (cI, 3, .inl fS)), (sq, .inl (cI, 6156, .inl fP)), (bq, .inl (cI, 3, .inl fB)), (cq, .inl (cJ, 64, .inr (.inl fC))), (pq, .inl (cI, 8, .inl fT))] := hD
      obtain ⟨he, hw_7⟩ := hw_7
      subst he
      have hth := hw_7
      refine lv_istore_n (lv' := [(3, .int (b2i true)), (0, .ref q), (1, .int (nI k)), (2, .int (nI x))]) hx hb dX8_isCluster_26 rfl hl (by decide) rfl (fun ls hl => ?_)
      refine lv_iload_n hx hb dX8_isCluster_27 rfl (lv_at hl 0 rfl) ?_
      refine lv_if_eq (tgt := 36) hx hb dX8_isCluster_28 (by decide) (fun qc_11 => ?_) (fun qc_11 => ?_)
      · have c_11 : true = false := b2i_f qc_11
        cases c_11
      · have c_11 : true = true := b2i_t qc_11
        refine lv_aload_n hx hb dX8_isCluster_31 rfl (lv_at hl 1 rfl) ?_
        refine lv_iload_n hx hb dX8_isCluster_32 rfl (lv_at hl 2 rfl) ?_
        have hPc := hP.sub (ws' := [(q, .inr (7, [.ref mq, .ref zq, .ref sq, .ref bq, .ref cq, .long sm, .ref pq, .int ps, .int th'_10])), (mq, .inl (cZ, 12288, .inl fM)), (zq, .inl (cI, 3, .inl fS)), (sq, .inl (cI, 6156, .inl fP)), (bq, .inl (cI, 3, .inl fB)), (cq, .inl (cJ, 64, .inr (.inl fC))), (pq, .inl (cI, 8, .inl fT))]) [0, 1, 2, 3, 4, 5, 6] rfl
        have hKc := hK.sub (tys' := [(cZ, .boolean), (cI, .int), (cJ, .long)]) [0, 1, 2] rfl
        have hDc := hD.sub (ws' := [(q, .inr (7, [.ref mq, .ref zq, .ref sq, .ref bq, .ref cq, .long sm, .ref pq, .int ps, .int th'_10])), (mq, .inl (cZ, 12288, .inl fM)), (zq, .inl (cI, 3, .inl fS)), (sq, .inl (cI, 6156, .inl fP)), (bq, .inl (cI, 3, .inl fB)), (cq, .inl (cJ, 64, .inr (.inl fC))), (pq, .inl (cI, 8, .inl fT))]) [0, 1, 2, 3, 4, 5, 6] (by decide) rfl
        have hFc := va_free (wc := [(q, .inr (7, [.ref mq, .ref zq, .ref sq, .ref bq, .ref cq, .long sm, .ref pq, .int ps, .int th'_10])), (mq, .inl (cZ, 12288, .inl fM)), (zq, .inl (cI, 3, .inl fS)), (sq, .inl (cI, 6156, .inl fP)), (bq, .inl (cI, 3, .inl fB)), (cq, .inl (cJ, 64, .inr (.inl fC))), (pq, .inl (cI, 8, .inl fT))]) hD hS hA [0, 1, 2, 3, 4, 5, 6] rfl
        refine va_callv (va_runV (As := [.int (nI k)]) (rest := []) ⟨hx, hb, hml, hown, hts⟩ (c_X8_grows l dC dI q mq zq sq bq cq pq cZ cI cJ fM fS fP fB fC sm fT ps th'_10 M k H.size (by first | assumption | omega) (by first | assumption | omega)) (cwV 1 hts gX8_isCluster_X8_grows rfl rfl rfl (by decide +kernel) ⟨Nat.le_of_ble_eq_true rfl, Nat.le_of_ble_eq_true rfl⟩) ⟨fun a U g mk q => by obtain ⟨q0, q1, qP, qK, qD⟩ := q; exact ⟨q0, q1, qP, va_K.moved (u := U) (U := U.calling g mk a) (Vm.Alike.refl U.vm) qK, qD⟩, va_recv hKc hPc (ci := 7) (q0 := 0) rfl rfl, fun U hU hW => ⟨rfl, by rw [hU], by rw [hU]; exact hPc, va_K.moved hW.alike hKc, hDc.weaken (fun _ _ _ _ => trivial)⟩⟩ rfl rfl hl.1 rfl (lv_room (Nat.le_of_ble_eq_true rfl)) dX8_isCluster_33 ⟨Nat.le_of_ble_eq_true rfl, Nat.le_of_ble_eq_true rfl⟩) hS (fun q _ h => hFc q h) hFc (fun u_13 t9 H1 locs ht hvm hw_12 hB hz1 hk1 hS => ?_)
        obtain ⟨fC'_15, sm'_16⟩ := u_13
        obtain ⟨hP1, hK1, hD1⟩ := hB
        rw [ht] at hP1
        have hK1 := va_K.moved hvm.symm hK1
        try dsimp only at hw_12 hP1 hK1 hD1
        obtain ⟨hP, hD⟩ := va_join (wr := []) (w1 := [(q, .inr (7, [.ref mq, .ref zq, .ref sq, .ref bq, .ref cq, .long sm'_16, .ref pq, .int ps, .int th'_10])), (mq, .inl (cZ, 12288, .inl fM)), (zq, .inl (cI, 3, .inl fS)), (sq, .inl (cI, 6156, .inl fP)), (bq, .inl (cI, 3, .inl fB)), (cq, .inl (cJ, 64, .inr (.inl fC'_15))), (pq, .inl (cI, 8, .inl fT))]) hP hD [0, 1, 2, 3, 4, 5, 6] [] rfl rfl (by decide) (by decide) hk1 hFc hP1 hD1
        generalize H1 = H at hP hS ⊢
        have hP : va_P (dC, dI) vwCl [(q, .inr (7, [.ref mq, .ref zq, .ref sq, .ref bq, .ref cq, .long sm'_16, .ref pq, .int ps, .int th'_10])), (mq, .inl (cZ, 12288, .inl fM)), (zq, .inl (cI, 3, .inl fS)), (sq, .inl (cI, 6156, .inl fP)), (bq, .inl (cI, 3, .inl fB)), (cq, .inl (cJ, 64, .inr (.inl fC'_15))), (pq, .inl (cI, 8, .inl fT))] H := hP
        have hD : va_D A [(q, .inr (7, [.ref mq, .ref zq, .ref sq, .ref bq, .ref cq, .long sm'_16, .ref pq, .int ps, .int th'_10])), (mq, .inl (cZ, 12288, .inl fM)), (zq, .inl (cI, 3, .inl fS)), (sq, .inl (cI, 6156, .inl fP)), (bq, .inl (cI, 3, .inl fB)), (cq, .inl (cJ, 64, .inr (.inl fC'_15))), (pq, .inl (cI, 8, .inl fT))] := hD
        refine lv_iload_n hx hb dX8_isCluster_36 rfl (lv_at hl 0 rfl) ?_
        have hP9 := hP.sub (ws' := [(q, .inr (7, [.ref mq, .ref zq, .ref sq, .ref bq, .ref cq, .long sm'_16, .ref pq, .int ps, .int th'_10])), (mq, .inl (cZ, 12288, .inl fM)), (zq, .inl (cI, 3, .inl fS)), (sq, .inl (cI, 6156, .inl fP)), (bq, .inl (cI, 3, .inl fB)), (cq, .inl (cJ, 64, .inr (.inl fC'_15))), (pq, .inl (cI, 8, .inl fT))]) [0, 1, 2, 3, 4, 5, 6] rfl
        have hD9 := hD.sub (ws' := [(q, .inr (7, [.ref mq, .ref zq, .ref sq, .ref bq, .ref cq, .long sm'_16, .ref pq, .int ps, .int th'_10])), (mq, .inl (cZ, 12288, .inl fM)), (zq, .inl (cI, 3, .inl fS)), (sq, .inl (cI, 6156, .inl fP)), (bq, .inl (cI, 3, .inl fB)), (cq, .inl (cJ, 64, .inr (.inl fC'_15))), (pq, .inl (cI, 8, .inl fT))]) [0, 1, 2, 3, 4, 5, 6] (by decide) rfl
        have hK9 := hK.sub (tys' := [(cZ, .boolean), (cI, .int), (cJ, .long)]) [0, 1, 2] rfl
        exact W.zret (v := b2i true) hx hb hr (b2i_nar _) (fun t9 ht hW => ⟨⟨b2i true, ⟨fC'_15, sm'_16, th'_10⟩, rfl, (show (b2i true) = b2i true ∧ (∀ h, h < 64 → fC'_15 h = clw (M k) h) ∧ sm'_16 = smw (M k) ∧ th'_10 = nI 0 from ⟨rfl, hw_12.1, hw_12.2, hth⟩), by rw [ht]; exact hP9, va_K.moved hW.alike hK9, hD9⟩, hS.F ht⟩) hS.2.2 dX8_isCluster_37
set_option maxHeartbeats 4000000 in
set_option maxRecDepth 100000 in
/-- reference: hasPrefix -/
theorem c_X8_hasPrefix (l : Launch) (dC : Nat → ClassId) (dI : Nat → Nat → Nat) (q : Nat) (mq : Nat) (zq : Nat) (sq : Nat) (bq : Nat) (cq : Nat) (pq : Nat) (cZ : ClassId) (cI : ClassId) (cJ : ClassId) (fM : Nat → Int32) (fS : Nat → Int32) (fP : Nat → Int32) (fB : Nat → Int32) (fC : Nat → Int64) (sm : Int64) (fT : Nat → Int32) (ps : Int32) (th : Int32) (M : Nat → Nat → Bool) (k : Nat) (n : Nat) (v : Nat) (hM : MM fM M) (hk : k < 3) (hn : n ≤ 12) (hv9 : v < 2 ^ n) : Met l yX8_hasPrefix wsX8_hasPrefix ({ frames := 2, cells := 0, slots := 0, locals := 45 }) (va_Pc [.ref q, .int (nI k), .int (nI n), .int (nI v)] (fun U => va_P (dC, dI) vwCl [(q, .inr (7, [.ref mq, .ref zq, .ref sq, .ref bq, .ref cq, .long sm, .ref pq, .int ps, .int th])), (mq, .inl (cZ, 12288, .inl fM)), (zq, .inl (cI, 3, .inl fS)), (sq, .inl (cI, 6156, .inl fP)), (bq, .inl (cI, 3, .inl fB)), (cq, .inl (cJ, 64, .inr (.inl fC))), (pq, .inl (cI, 8, .inl fT))] U.heap ∧ va_K (dC, dI) vwCl [(cZ, .boolean), (cI, .int), (cJ, .long)] U)) (vp_Si (fun r => r = b2i (pfx (M k) n v))) 0 0 (fun _ => False) := by
  refine Met.ofW (cc := cX8_hasPrefix) (maxL := 5) (ret := (some .boolean)) (by decide) rfl ?_
  intro p e s m args below meth c s₁ B hml hv
  obtain ⟨rfl, hP, hK⟩ := hv
  have hx := B.exec
  have hb := B.bytes
  have hr := B.returns
  have hts := atoms_spec (ws := wsX8_hasPrefix) B.pre
  have hown : s.vm.findClass RX8 = some m.cls := findClass_of_methodNamed B.named
  have hlocks := B.notSynchronized
  have hP : va_P (dC, dI) vwCl [(q, .inr (7, [.ref mq, .ref zq, .ref sq, .ref bq, .ref cq, .long sm, .ref pq, .int ps, .int th])), (mq, .inl (cZ, 12288, .inl fM)), (zq, .inl (cI, 3, .inl fS)), (sq, .inl (cI, 6156, .inl fP)), (bq, .inl (cI, 3, .inl fB)), (cq, .inl (cJ, 64, .inr (.inl fC))), (pq, .inl (cI, 8, .inl fT))] s.heap := hP
  have hl := lv_entry ([.ref q, .int (nI k), .int (nI n), .int (nI v)]) (n := 5) (Nat.le_of_ble_eq_true rfl)
  rw [lg_entry_eq]
  generalize (lg_sl ([.ref q, .int (nI k), .int (nI n), .int (nI v)]) ++ List.replicate (5 - (lg_sl ([.ref q, .int (nI k), .int (nI n), .int (nI v)])).length) Slot.unset).toArray = ls at hl ⊢
  have hl : lv_has ls 5 [(0, .ref q), (1, .int (nI k)), (2, .int (nI n)), (3, .int (nI v))] := hl
  have hD := pw_le (show 12 - n ≤ 12 by omega)
  have hvd : (v + 1) * 2 ^ (12 - n) ≤ 4096 := by
    rw [← pw12 hn, Nat.mul_comm]
    exact Nat.mul_le_mul_left _ hv9
  have hvd2 : v * 2 ^ (12 - n) ≤ (v + 1) * 2 ^ (12 - n) := Nat.mul_le_mul_right _ (Nat.le_succ v)
  have hab := abv_le (M k) (v * 2 ^ (12 - n))
  refine lv_iconst (v := nI 1) hx hb dX8_hasPrefix_0 (by decide +kernel) ?_
  refine lv_bipush (v := nI 12) hx hb dX8_hasPrefix_1 (by decide +kernel) ?_
  refine lv_iload_n hx hb dX8_hasPrefix_3 rfl (lv_at hl 2 rfl) ?_
  refine lv_isub hx hb dX8_hasPrefix_4 ?_
  refine lv_cvi (pk_sub (by omega)) ?_
  refine lv_ishl hx hb dX8_hasPrefix_5 ?_
  refine lv_cvi (shl_N (by omega) (by omega)) ?_
  refine lv_cvi (congrArg nI (Nat.one_mul _)) ?_
  refine lv_istore (lv' := [(4, .int (nI (2 ^ (12 - n)))), (0, .ref q), (1, .int (nI k)), (2, .int (nI n)), (3, .int (nI v))]) hx hb dX8_hasPrefix_6 hl (by decide) rfl (fun ls hl => ?_)
  refine lv_aload_n hx hb dX8_hasPrefix_8 rfl (lv_at hl 1 rfl) ?_
  refine lv_iload_n hx hb dX8_hasPrefix_9 rfl (lv_at hl 2 rfl) ?_
  refine lv_iload_n hx hb dX8_hasPrefix_10 rfl (lv_at hl 4 rfl) ?_
  refine lv_iload hx hb dX8_hasPrefix_11 (lv_at hl 0 rfl) ?_
  refine lv_imul hx hb dX8_hasPrefix_13 ?_
  refine lv_cvi (pk_mul _ _) ?_
  have hPc := hP.sub (ws' := [(q, .inr (7, [.ref mq, .ref zq, .ref sq, .ref bq, .ref cq, .long sm, .ref pq, .int ps, .int th])), (mq, .inl (cZ, 12288, .inl fM)), (zq, .inl (cI, 3, .inl fS)), (sq, .inl (cI, 6156, .inl fP)), (bq, .inl (cI, 3, .inl fB)), (cq, .inl (cJ, 64, .inr (.inl fC))), (pq, .inl (cI, 8, .inl fT))]) [0, 1, 2, 3, 4, 5, 6] rfl
  have hKc := hK.sub (tys' := [(cZ, .boolean), (cI, .int), (cJ, .long)]) [0, 1, 2] rfl
  refine vp_callSi (W.runV (As := [.int (nI k), .int (nI (v * (2 ^ (12 - n))))]) (rest := []) ⟨hx, hb, hml, hown, hts⟩ (c_X8_above l dC dI q mq zq sq bq cq pq cZ cI cJ fM fS fP fB fC sm fT ps th M k (v * (2 ^ (12 - n))) (by first | assumption | omega) (by first | assumption | omega) (by first | assumption | omega)) (cwV 2 hts gX8_hasPrefix_X8_above rfl rfl rfl (by decide +kernel) ⟨Nat.le_of_ble_eq_true rfl, Nat.le_of_ble_eq_true rfl⟩) ⟨fun a U g mk q => by obtain ⟨q0, qP, qK⟩ := q; exact ⟨q0, qP, va_K.moved (u := U) (U := U.calling g mk a) (Vm.Alike.refl U.vm) qK⟩, va_recv hKc hPc (ci := 7) (q0 := 0) rfl rfl, fun U hU hW => ⟨rfl, by rw [hU]; exact hPc, va_K.moved hW.alike hKc⟩⟩ rfl rfl hl.1 rfl (lv_room (Nat.le_of_ble_eq_true rfl)) dX8_hasPrefix_14 ⟨Nat.le_of_ble_eq_true rfl, Nat.le_of_ble_eq_true rfl⟩) (fun r_2 hw_1 => ?_)
  subst hw_1
  refine lv_iload_n hx hb dX8_hasPrefix_17 rfl (lv_at hl 4 rfl) ?_
  refine lv_iconst (v := nI 1) hx hb dX8_hasPrefix_18 (by decide +kernel) ?_
  refine lv_iadd hx hb dX8_hasPrefix_19 ?_
  refine lv_cvi (nI_add _ _) ?_
  refine lv_iload hx hb dX8_hasPrefix_20 (lv_at hl 0 rfl) ?_
  refine lv_imul hx hb dX8_hasPrefix_22 ?_
  refine lv_cvi (pk_mul _ _) ?_
  refine lv_icmp_ge (tgt := 30) hx hb dX8_hasPrefix_23 (by decide) (fun qc_3 => ?_) (fun qc_3 => ?_)
  · have c_3 : ((v + 1) * (2 ^ (12 - n))) ≤ (abv (M k) (v * (2 ^ (12 - n)))) := (nI_leI (a := (v + 1) * (2 ^ (12 - n))) (b := abv (M k) (v * (2 ^ (12 - n)))) (by omega) (by omega)).mp qc_3
    refine lv_iconst (v := nI 0) hx hb dX8_hasPrefix_30 (by decide +kernel) ?_
    exact W.zret (v := nI 0) hx hb hr (by first | exact narrow_b1 | exact narrow_b0) (fun t9 ht hW => ⟨nI 0, rfl, by rw [pfx_abv hn hv9, decide_eq_false (by omega)]; rfl, ht⟩) (fun q h => by cases h) dX8_hasPrefix_31
  · have c_3 : ¬ ((v + 1) * (2 ^ (12 - n))) ≤ (abv (M k) (v * (2 ^ (12 - n)))) := fun h9 => qc_3 ((nI_leI (a := (v + 1) * (2 ^ (12 - n))) (b := abv (M k) (v * (2 ^ (12 - n)))) (by omega) (by omega)).mpr h9)
    refine lv_iconst (v := nI 1) hx hb dX8_hasPrefix_26 (by decide +kernel) ?_
    refine lv_goto (tgt := 31) hx hb dX8_hasPrefix_27 (by decide) ?_
    exact W.zret (v := nI 1) hx hb hr (by first | exact narrow_b1 | exact narrow_b0) (fun t9 ht hW => ⟨nI 1, rfl, by rw [pfx_abv hn hv9, decide_eq_true (Nat.lt_of_not_le c_3)]; rfl, ht⟩) (fun q h => by cases h) dX8_hasPrefix_31
set_option maxHeartbeats 4000000 in
set_option maxRecDepth 100000 in
/-- reference: matches -/
theorem c_X8_matches (l : Launch) (dC : Nat → ClassId) (dI : Nat → Nat → Nat) (q : Nat) (mq : Nat) (zq : Nat) (sq : Nat) (bq : Nat) (cq : Nat) (pq : Nat) (cZ : ClassId) (cI : ClassId) (cJ : ClassId) (fM : Nat → Int32) (fS : Nat → Int32) (fP : Nat → Int32) (fB : Nat → Int32) (fC : Nat → Int64) (sm : Int64) (fT : Nat → Int32) (ps : Int32) (th : Int32) (M : Nat → Nat → Bool) (k : Nat) (x : Nat) (hM : MM fM M) (hk : k < 3) (hxx : x < 4096) : Met l yX8_matches wsX8_matches ({ frames := 3, cells := 0, slots := 0, locals := 69 }) (va_Pc [.ref q, .int (nI k), .int (nI x)] (fun U => va_P (dC, dI) vwCl [(q, .inr (7, [.ref mq, .ref zq, .ref sq, .ref bq, .ref cq, .long sm, .ref pq, .int ps, .int th])), (mq, .inl (cZ, 12288, .inl fM)), (zq, .inl (cI, 3, .inl fS)), (sq, .inl (cI, 6156, .inl fP)), (bq, .inl (cI, 3, .inl fB)), (cq, .inl (cJ, 64, .inr (.inl fC))), (pq, .inl (cI, 8, .inl fT))] U.heap ∧ va_K (dC, dI) vwCl [(cZ, .boolean), (cI, .int), (cJ, .long)] U)) (vp_Si (fun r => r = nI ((bs (pat (M k) x) 13 0 13 0).1 + 100 * (bs (pat (M k) x) 13 0 13 0).2))) 0 0 (fun _ => False) := by
  refine Met.ofW (cc := cX8_matches) (maxL := 7) (ret := (some .int)) (by decide) rfl ?_
  intro p e s m args below meth c s₁ B hml hv
  obtain ⟨rfl, hP, hK⟩ := hv
  have hx := B.exec
  have hb := B.bytes
  have hr := B.returns
  have hts := atoms_spec (ws := wsX8_matches) B.pre
  have hown : s.vm.findClass RX8 = some m.cls := findClass_of_methodNamed B.named
  have hlocks := B.notSynchronized
  have hP : va_P (dC, dI) vwCl [(q, .inr (7, [.ref mq, .ref zq, .ref sq, .ref bq, .ref cq, .long sm, .ref pq, .int ps, .int th])), (mq, .inl (cZ, 12288, .inl fM)), (zq, .inl (cI, 3, .inl fS)), (sq, .inl (cI, 6156, .inl fP)), (bq, .inl (cI, 3, .inl fB)), (cq, .inl (cJ, 64, .inr (.inl fC))), (pq, .inl (cI, 8, .inl fT))] s.heap := hP
  have hl := lv_entry ([.ref q, .int (nI k), .int (nI x)]) (n := 7) (Nat.le_of_ble_eq_true rfl)
  rw [lg_entry_eq]
  generalize (lg_sl ([.ref q, .int (nI k), .int (nI x)]) ++ List.replicate (7 - (lg_sl ([.ref q, .int (nI k), .int (nI x)])).length) Slot.unset).toArray = ls at hl ⊢
  have hl : lv_has ls 7 [(0, .ref q), (1, .int (nI k)), (2, .int (nI x))] := hl
  refine lv_iconst (v := nI 0) hx hb dX8_matches_0 (by decide +kernel) ?_
  refine lv_istore_n (lv' := [(3, .int (nI 0)), (0, .ref q), (1, .int (nI k)), (2, .int (nI x))]) hx hb dX8_matches_1 rfl hl (by decide) rfl (fun ls hl => ?_)
  refine lv_bipush (v := nI 13) hx hb dX8_matches_2 (by decide +kernel) ?_
  refine lv_istore (lv' := [(4, .int (nI 13)), (3, .int (nI 0)), (0, .ref q), (1, .int (nI k)), (2, .int (nI x))]) hx hb dX8_matches_4 hl (by decide) rfl (fun ls hl => ?_)
  refine lv_iconst (v := nI 0) hx hb dX8_matches_6 (by decide +kernel) ?_
  refine lv_istore (lv' := [(5, .int (nI 0)), (4, .int (nI 13)), (3, .int (nI 0)), (0, .ref q), (1, .int (nI k)), (2, .int (nI x))]) hx hb dX8_matches_7 hl (by decide) rfl (fun ls hl => ?_)
  have key_9_1 : ∀ (fu : Nat) (lw : Nat) (hg : Nat) (t : Nat) (f9 : Nat) (hh1 : lw < hg) (hh2 : hg ≤ 13 ∧ hg ≤ lw + 1 + f9) (hbs : bs (pat (M k) x) 13 0 13 0 = bs (pat (M k) x) f9 lw hg t) (hfu : f9 < fu) (ls : Array Slot) (hl : lv_has ls 7 [(5, .int (nI t)), (4, .int (nI hg)), (3, .int (nI lw)), (0, .ref q), (1, .int (nI k)), (2, .int (nI x))]), W p l e (headSpec wsX8_matches ({ frames := 3, cells := 0, slots := 0, locals := 69 })).room s m ([.ref q, .int (nI k), .int (nI x)] : List Value).toArray below meth c s.heap [] 0 0 (MQ below (vp_Si (fun r => r = nI ((bs (pat (M k) x) 13 0 13 0).1 + 100 * (bs (pat (M k) x) 13 0 13 0).2))) ([.ref q, .int (nI k), .int (nI x)] : List Value).toArray s 0 0 (fun _ => False)) (F0 m 9 ls []) := by
    intro fu
    induction fu with
    | zero =>
      intro lw hg t f9 hh1 hh2 hbs hfu ls hl
      exact absurd hfu (Nat.not_lt_zero _)
    | succ fu ih_9 =>
      intro lw hg t f9 hh1 hh2 hbs hfu ls hl
      refine lv_iload hx hb dX8_matches_9 (lv_at hl 1 rfl) ?_
      refine lv_iload_n hx hb dX8_matches_11 rfl (lv_at hl 2 rfl) ?_
      refine lv_iconst (v := nI 1) hx hb dX8_matches_12 (by decide +kernel) ?_
      refine lv_iadd hx hb dX8_matches_13 ?_
      refine lv_cvi (nI_add _ _) ?_
      refine lv_icmp_le (tgt := 58) hx hb dX8_matches_14 (by decide) (fun qc_2 => ?_) (fun qc_2 => ?_)
      · have c_2 : hg ≤ (lw + 1) := (nI_leI (a := hg) (b := lw + 1) (by omega) (by omega)).mp qc_2
        refine lv_iload_n hx hb dX8_matches_58 rfl (lv_at hl 2 rfl) ?_
        refine lv_bipush (v := nI 100) hx hb dX8_matches_59 (by decide +kernel) ?_
        refine lv_iload hx hb dX8_matches_61 (lv_at hl 0 rfl) ?_
        refine lv_imul hx hb dX8_matches_63 ?_
        refine lv_cvi (pk_mul _ _) ?_
        refine lv_iadd hx hb dX8_matches_64 ?_
        refine lv_cvi (nI_add _ _) ?_
        exact W.iret (v := nI (lw + (100 * t))) hx hb hr (fun t9 ht hW => ⟨nI (lw + (100 * t)), rfl, congrArg nI (by rw [hbs, bs_stop _ _ _ (by omega)]), ht⟩) (fun q h => by cases h) dX8_matches_65
      · have c_2 : ¬ hg ≤ (lw + 1) := fun h9 => qc_2 ((nI_leI (a := hg) (b := lw + 1) (by omega) (by omega)).mpr h9)
        refine lv_iload_n hx hb dX8_matches_17 rfl (lv_at hl 2 rfl) ?_
        refine lv_iload hx hb dX8_matches_18 (lv_at hl 1 rfl) ?_
        refine lv_iadd hx hb dX8_matches_20 ?_
        refine lv_cvi (nI_add _ _) ?_
        refine lv_iconst (v := nI 2) hx hb dX8_matches_21 (by decide +kernel) ?_
        refine lv_idiv hx hb dX8_matches_22 (by decide +kernel) ?_
        refine lv_cvi (pk_div (by omega) (by decide) (by decide)) ?_
        refine lv_istore (lv' := [(6, .int (nI ((lw + hg) / 2))), (5, .int (nI t)), (4, .int (nI hg)), (3, .int (nI lw)), (0, .ref q), (1, .int (nI k)), (2, .int (nI x))]) hx hb dX8_matches_23 hl (by decide) rfl (fun ls hl => ?_)
        refine lv_iinc (v := nI (t + 1)) (lv' := [(5, .int (nI (t + 1))), (6, .int (nI ((lw + hg) / 2))), (4, .int (nI hg)), (3, .int (nI lw)), (0, .ref q), (1, .int (nI k)), (2, .int (nI x))]) hx hb dX8_matches_25 hl (k := 1) rfl (nI_1 _) (by decide) rfl (fun ls hl => ?_)
        have hkl := k_lt (show (lw + hg) / 2 ≤ 12 by omega) hxx
        refine lv_aload_n hx hb dX8_matches_28 rfl (lv_at hl 4 rfl) ?_
        refine lv_iload_n hx hb dX8_matches_29 rfl (lv_at hl 5 rfl) ?_
        refine lv_iload hx hb dX8_matches_30 (lv_at hl 1 rfl) ?_
        refine lv_iload_n hx hb dX8_matches_32 rfl (lv_at hl 6 rfl) ?_
        refine lv_bipush (v := nI 12) hx hb dX8_matches_33 (by decide +kernel) ?_
        refine lv_iload hx hb dX8_matches_35 (lv_at hl 1 rfl) ?_
        refine lv_isub hx hb dX8_matches_37 ?_
        refine lv_cvi (pk_sub (by omega)) ?_
        refine lv_ishr hx hb dX8_matches_38 ?_
        refine lv_cvi (pk_shrN (by omega) _ (12 - ((lw + hg) / 2)) (s_l _ (by omega))) ?_
        have hPc := hP.sub (ws' := [(q, .inr (7, [.ref mq, .ref zq, .ref sq, .ref bq, .ref cq, .long sm, .ref pq, .int ps, .int th])), (mq, .inl (cZ, 12288, .inl fM)), (zq, .inl (cI, 3, .inl fS)), (sq, .inl (cI, 6156, .inl fP)), (bq, .inl (cI, 3, .inl fB)), (cq, .inl (cJ, 64, .inr (.inl fC))), (pq, .inl (cI, 8, .inl fT))]) [0, 1, 2, 3, 4, 5, 6] rfl
        have hKc := hK.sub (tys' := [(cZ, .boolean), (cI, .int), (cJ, .long)]) [0, 1, 2] rfl
        refine vp_callSi (W.runV (As := [.int (nI k), .int (nI ((lw + hg) / 2)), .int (nI (x / 2 ^ (12 - ((lw + hg) / 2))))]) (rest := []) ⟨hx, hb, hml, hown, hts⟩ (c_X8_hasPrefix l dC dI q mq zq sq bq cq pq cZ cI cJ fM fS fP fB fC sm fT ps th M k ((lw + hg) / 2) (x / 2 ^ (12 - ((lw + hg) / 2))) (by first | assumption | omega) (by first | assumption | omega) (by first | assumption | omega) (by first | assumption | omega)) (cwV 3 hts gX8_matches_X8_hasPrefix rfl rfl rfl (by decide +kernel) ⟨Nat.le_of_ble_eq_true rfl, Nat.le_of_ble_eq_true rfl⟩) ⟨fun a U g mk q => by obtain ⟨q0, qP, qK⟩ := q; exact ⟨q0, qP, va_K.moved (u := U) (U := U.calling g mk a) (Vm.Alike.refl U.vm) qK⟩, va_recv hKc hPc (ci := 7) (q0 := 0) rfl rfl, fun U hU hW => ⟨rfl, by rw [hU]; exact hPc, va_K.moved hW.alike hKc⟩⟩ rfl rfl hl.1 rfl (lv_room (Nat.le_of_ble_eq_true rfl)) dX8_matches_39 ⟨Nat.le_of_ble_eq_true rfl, Nat.le_of_ble_eq_true rfl⟩) (fun r_4 hw_3 => ?_)
        subst hw_3
        refine lv_if_eq (tgt := 51) hx hb dX8_matches_42 (by decide) (fun qc_5 => ?_) (fun qc_5 => ?_)
        · have c_5 : (pfx (M k) ((lw + hg) / 2) (x / 2 ^ (12 - ((lw + hg) / 2)))) = false := b2i_f qc_5
          refine lv_iload hx hb dX8_matches_51 (lv_at hl 1 rfl) ?_
          refine lv_istore (lv' := [(4, .int (nI ((lw + hg) / 2))), (5, .int (nI (t + 1))), (6, .int (nI ((lw + hg) / 2))), (3, .int (nI lw)), (0, .ref q), (1, .int (nI k)), (2, .int (nI x))]) hx hb dX8_matches_53 hl (by decide) rfl (fun ls hl => ?_)
          refine lv_goto (tgt := 9) hx hb dX8_matches_55 (by decide) ?_
          exact ih_9 lw ((lw + hg) / 2) (t + 1) (f9 - 1) (by omega) (by omega) (hbs.trans (by rw [show f9 = f9 - 1 + 1 by omega, Nat.add_sub_cancel]; exact bs_f (by omega) c_5)) (by omega) ls (lv_sub hl [1, 0, 3, 4, 5, 6] rfl)
        · have c_5 : (pfx (M k) ((lw + hg) / 2) (x / 2 ^ (12 - ((lw + hg) / 2)))) = true := b2i_t qc_5
          refine lv_iload hx hb dX8_matches_45 (lv_at hl 1 rfl) ?_
          refine lv_istore_n (lv' := [(3, .int (nI ((lw + hg) / 2))), (5, .int (nI (t + 1))), (6, .int (nI ((lw + hg) / 2))), (4, .int (nI hg)), (0, .ref q), (1, .int (nI k)), (2, .int (nI x))]) hx hb dX8_matches_47 rfl hl (by decide) rfl (fun ls hl => ?_)
          refine lv_goto (tgt := 55) hx hb dX8_matches_48 (by decide) ?_
          refine lv_goto (tgt := 9) hx hb dX8_matches_55 (by decide) ?_
          exact ih_9 ((lw + hg) / 2) hg (t + 1) (f9 - 1) (by omega) (by omega) (hbs.trans (by rw [show f9 = f9 - 1 + 1 by omega, Nat.add_sub_cancel]; exact bs_t (by omega) c_5)) (by omega) ls (lv_sub hl [1, 3, 0, 4, 5, 6] rfl)
  exact key_9_1 _ 0 13 0 13 (by decide) (by decide) rfl (Nat.lt_succ_self _) ls (lv_sub hl [0, 1, 2, 3, 4, 5] rfl)
