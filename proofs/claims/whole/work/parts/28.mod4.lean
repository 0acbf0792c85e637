set_option maxHeartbeats 4000000 in
set_option maxRecDepth 100000 in
/-- reference: c_X8_trees_v -/
theorem c_X8_trees_v (l : Launch) (dC : Nat → ClassId) (dI : Nat → Nat → Nat) (q : Nat) (mq : Nat) (zq : Nat) (sq : Nat) (bq : Nat) (cq : Nat) (pq : Nat) (cZ : ClassId) (cI : ClassId) (cJ : ClassId) (fM : Nat → Int32) (fS : Nat → Int32) (fP : Nat → Int32) (fB : Nat → Int32) (fC : Nat → Int64) (sm : Int64) (fT : Nat → Int32) (ps : Int32) (th : Int32) (M : Nat → Nat → Bool) (k : Nat) (sz : Nat) (hM : MM fM M) (hZ : MZ fS M) (hk : k < 3) : Met l yX8_trees wsX8_trees ({ frames := 3, cells := 0, slots := 0, locals := 71 }) (va_Pc [.ref q, .int (nI k)] (fun U => U.heap.size = sz ∧ va_P (dC, dI) vwCl [(q, .inr (7, [.ref mq, .ref zq, .ref sq, .ref bq, .ref cq, .long sm, .ref pq, .int ps, .int th])), (mq, .inl (cZ, 12288, .inl fM)), (zq, .inl (cI, 3, .inl fS)), (sq, .inl (cI, 6156, .inl fP)), (bq, .inl (cI, 3, .inl fB)), (cq, .inl (cJ, 64, .inr (.inl fC))), (pq, .inl (cI, 8, .inl fT))] U.heap ∧ va_K (dC, dI) vwCl [(cZ, .boolean), (cI, .int), (cJ, .long)] U ∧ va_D (fun _ => True) [(q, .inr (7, [.ref mq, .ref zq, .ref sq, .ref bq, .ref cq, .long sm, .ref pq, .int ps, .int th])), (mq, .inl (cZ, 12288, .inl fM)), (zq, .inl (cI, 3, .inl fS)), (sq, .inl (cI, 6156, .inl fP)), (bq, .inl (cI, 3, .inl fB)), (cq, .inl (cJ, 64, .inr (.inl fC))), (pq, .inl (cI, 8, .inl fT))])) (va_Qi (fun (r : Int32) (u : (Nat → Int64) × Int64 × (Nat → Int32) × Int32 × Int32) => r = nI (trs (M k)) ∧ u.2.2.2.2 = nI 0) (fun (u : (Nat → Int64) × Int64 × (Nat → Int32) × Int32 × Int32) (t : State) => va_P (dC, dI) vwCl [(q, .inr (7, [.ref mq, .ref zq, .ref sq, .ref bq, .ref cq, .long u.2.1, .ref pq, .int u.2.2.2.1, .int u.2.2.2.2])), (mq, .inl (cZ, 12288, .inl fM)), (zq, .inl (cI, 3, .inl fS)), (sq, .inl (cI, 6156, .inl fP)), (bq, .inl (cI, 3, .inl fB)), (cq, .inl (cJ, 64, .inr (.inl u.1))), (pq, .inl (cI, 8, .inl u.2.2.1))] t.heap ∧ va_K (dC, dI) vwCl [(cZ, .boolean), (cI, .int), (cJ, .long)] t ∧ va_D (va_A [(q, .inr (7, [.ref mq, .ref zq, .ref sq, .ref bq, .ref cq, .long sm, .ref pq, .int ps, .int th])), (mq, .inl (cZ, 12288, .inl fM)), (zq, .inl (cI, 3, .inl fS)), (sq, .inl (cI, 6156, .inl fP)), (bq, .inl (cI, 3, .inl fB)), (cq, .inl (cJ, 64, .inr (.inl fC))), (pq, .inl (cI, 8, .inl fT))] sz) [(q, .inr (7, [.ref mq, .ref zq, .ref sq, .ref bq, .ref cq, .long u.2.1, .ref pq, .int u.2.2.2.1, .int u.2.2.2.2])), (mq, .inl (cZ, 12288, .inl fM)), (zq, .inl (cI, 3, .inl fS)), (sq, .inl (cI, 6156, .inl fP)), (bq, .inl (cI, 3, .inl fB)), (cq, .inl (cJ, 64, .inr (.inl u.1))), (pq, .inl (cI, 8, .inl u.2.2.1))]) (va_A [(q, .inr (7, [.ref mq, .ref zq, .ref sq, .ref bq, .ref cq, .long sm, .ref pq, .int ps, .int th])), (mq, .inl (cZ, 12288, .inl fM)), (zq, .inl (cI, 3, .inl fS)), (sq, .inl (cI, 6156, .inl fP)), (bq, .inl (cI, 3, .inl fB)), (cq, .inl (cJ, 64, .inr (.inl fC))), (pq, .inl (cI, 8, .inl fT))] sz)) 0 0 (va_A [(q, .inr (7, [.ref mq, .ref zq, .ref sq, .ref bq, .ref cq, .long sm, .ref pq, .int ps, .int th])), (mq, .inl (cZ, 12288, .inl fM)), (zq, .inl (cI, 3, .inl fS)), (sq, .inl (cI, 6156, .inl fP)), (bq, .inl (cI, 3, .inl fB)), (cq, .inl (cJ, 64, .inr (.inl fC))), (pq, .inl (cI, 8, .inl fT))] sz) := by
  refine Met.ofW (cc := cX8_trees) (maxL := 4) (ret := (some .int)) (by decide) rfl ?_
  intro p e s m args below meth c s₁ B hml hv
  obtain ⟨rfl, hsz, hP, hK, hD0⟩ := hv
  have hx := B.exec
  have hb := B.bytes
  have hr := B.returns
  have hts := atoms_spec (ws := wsX8_trees) B.pre
  have hown : s.vm.findClass RX8 = some m.cls := findClass_of_methodNamed B.named
  have hlocks := B.notSynchronized
  subst hsz
  have hD := hD0.self (sz := s.heap.size)
  generalize hAe : va_A [(q, .inr (7, [.ref mq, .ref zq, .ref sq, .ref bq, .ref cq, .long sm, .ref pq, .int ps, .int th])), (mq, .inl (cZ, 12288, .inl fM)), (zq, .inl (cI, 3, .inl fS)), (sq, .inl (cI, 6156, .inl fP)), (bq, .inl (cI, 3, .inl fB)), (cq, .inl (cJ, 64, .inr (.inl fC))), (pq, .inl (cI, 8, .inl fT))] s.heap.size = A at hD ⊢
  have hA : ∀ q : Nat, s.heap.size ≤ q → A q := fun q h => by rw [← hAe]; exact Or.inr h
  have hS : va_S A s.heap s.heap [] := va_S.rf
  have hP : va_P (dC, dI) vwCl [(q, .inr (7, [.ref mq, .ref zq, .ref sq, .ref bq, .ref cq, .long sm, .ref pq, .int ps, .int th])), (mq, .inl (cZ, 12288, .inl fM)), (zq, .inl (cI, 3, .inl fS)), (sq, .inl (cI, 6156, .inl fP)), (bq, .inl (cI, 3, .inl fB)), (cq, .inl (cJ, 64, .inr (.inl fC))), (pq, .inl (cI, 8, .inl fT))] s.heap := hP
  have hl := lv_entry ([.ref q, .int (nI k)]) (n := 4) (Nat.le_of_ble_eq_true rfl)
  rw [lg_entry_eq]
  generalize (lg_sl ([.ref q, .int (nI k)]) ++ List.replicate (4 - (lg_sl ([.ref q, .int (nI k)])).length) Slot.unset).toArray = ls at hl ⊢
  have hl : lv_has ls 4 [(0, .ref q), (1, .int (nI k))] := hl
  have hcm := fb_ct_le (M k) 4096
  refine lv_aload_n hx hb dX8_trees_0 rfl (lv_at hl 0 rfl) ?_
  refine lv_iload_n hx hb dX8_trees_1 rfl (lv_at hl 1 rfl) ?_
  have hPc := hP.sub (ws' := []) [] rfl
  have hKc := hK.sub (tys' := []) [] rfl
  refine vp_callSi (W.runS (As := [.int (nI k)]) (rest := [.ref q]) ⟨hx, hb, hml, hown, hts⟩ (c_X8_isSet l dC dI (nI k) ) (va_cwS 1 hts gX8_trees_X8_isSet rfl rfl rfl (by decide +kernel) ⟨Nat.le_of_ble_eq_true rfl, Nat.le_of_ble_eq_true rfl⟩) ⟨fun a U g mk q => by obtain ⟨q0, qP, qK⟩ := q; exact ⟨q0, qP, va_K.moved (u := U) (U := U.calling g mk a) (Vm.Alike.refl U.vm) qK⟩, fun U hU hW => ⟨rfl, by rw [hU]; exact hPc, va_K.moved hW.alike hKc⟩⟩ rfl rfl hl.1 rfl (lv_room (Nat.le_of_ble_eq_true rfl)) dX8_trees_2 ⟨Nat.le_of_ble_eq_true rfl, Nat.le_of_ble_eq_true rfl⟩) (fun r_2 hw_1 => ?_)
  subst hw_1
  refine lv_cvi (congrArg b2i (isS_t hk)) ?_
  have hPc := hP.sub (ws' := [(q, .inr (7, [.ref mq, .ref zq, .ref sq, .ref bq, .ref cq, .long sm, .ref pq, .int ps, .int th])), (mq, .inl (cZ, 12288, .inl fM)), (zq, .inl (cI, 3, .inl fS)), (sq, .inl (cI, 6156, .inl fP)), (bq, .inl (cI, 3, .inl fB)), (cq, .inl (cJ, 64, .inr (.inl fC))), (pq, .inl (cI, 8, .inl fT))]) [0, 1, 2, 3, 4, 5, 6] rfl
  have hKc := hK.sub (tys' := [(cZ, .boolean), (cI, .int), (cJ, .long)]) [0, 1, 2] rfl
  have hDc := hD.sub (ws' := [(q, .inr (7, [.ref mq, .ref zq, .ref sq, .ref bq, .ref cq, .long sm, .ref pq, .int ps, .int th])), (mq, .inl (cZ, 12288, .inl fM)), (zq, .inl (cI, 3, .inl fS)), (sq, .inl (cI, 6156, .inl fP)), (bq, .inl (cI, 3, .inl fB)), (cq, .inl (cJ, 64, .inr (.inl fC))), (pq, .inl (cI, 8, .inl fT))]) [0, 1, 2, 3, 4, 5, 6] (by decide) rfl
  have hFc := va_free (wc := [(q, .inr (7, [.ref mq, .ref zq, .ref sq, .ref bq, .ref cq, .long sm, .ref pq, .int ps, .int th])), (mq, .inl (cZ, 12288, .inl fM)), (zq, .inl (cI, 3, .inl fS)), (sq, .inl (cI, 6156, .inl fP)), (bq, .inl (cI, 3, .inl fB)), (cq, .inl (cJ, 64, .inr (.inl fC))), (pq, .inl (cI, 8, .inl fT))]) hD hS hA [0, 1, 2, 3, 4, 5, 6] rfl
  refine va_calli (va_runV (As := [.int (b2i true)]) (rest := []) ⟨hx, hb, hml, hown, hts⟩ (c_X8_asked l dC dI q mq zq sq bq cq pq cZ cI cJ fM fS fP fB fC sm fT ps th true s.heap.size ) (cwV 1 hts gX8_trees_X8_asked rfl rfl rfl (by decide +kernel) ⟨Nat.le_of_ble_eq_true rfl, Nat.le_of_ble_eq_true rfl⟩) ⟨fun a U g mk q => by obtain ⟨q0, q1, qP, qK, qD⟩ := q; exact ⟨q0, q1, qP, va_K.moved (u := U) (U := U.calling g mk a) (Vm.Alike.refl U.vm) qK, qD⟩, va_recv hKc hPc (ci := 7) (q0 := 0) rfl rfl, fun U hU hW => ⟨rfl, by rw [hU], by rw [hU]; exact hPc, va_K.moved hW.alike hKc, hDc.weaken (fun _ _ _ _ => trivial)⟩⟩ rfl rfl hl.1 rfl (lv_room (Nat.le_of_ble_eq_true rfl)) dX8_trees_5 ⟨Nat.le_of_ble_eq_true rfl, Nat.le_of_ble_eq_true rfl⟩) hS (fun q _ h => hFc q h) hFc (fun r_5 u_4 t9 H1 locs ht hvm hw_3 hB hz1 hk1 hS => ?_)
  obtain ⟨th'_6, rfl⟩ : ∃ z, z = u_4 := ⟨_, rfl⟩
  obtain ⟨hP1, hK1, hD1⟩ := hB
  rw [ht] at hP1
  have hK1 := va_K.moved hvm.symm hK1
  try dsimp only at hw_3 hP1 hK1 hD1
  obtain ⟨hP, hD⟩ := va_join (wr := []) (w1 := [(q, .inr (7, [.ref mq, .ref zq, .ref sq, .ref bq, .ref cq, .long sm, .ref pq, .int ps, .int th'_6])), (mq, .inl (cZ, 12288, .inl fM)), (zq, .inl (cI, 3, .inl fS)), (sq, .inl (cI, 6156, .inl fP)), (bq, .inl (cI, 3, .inl fB)), (cq, .inl (cJ, 64, .inr (.inl fC))), (pq, .inl (cI, 8, .inl fT))]) hP hD [0, 1, 2, 3, 4, 5, 6] [] rfl rfl (by decide) (by decide) hk1 hFc hP1 hD1
  generalize H1 = H at hP hS ⊢
  have hP : va_P (dC, dI) vwCl [(q, .inr (7, [.ref mq, .ref zq, .ref sq, .ref bq, .ref cq, .long sm, .ref pq, .int ps, .int th'_6])), (mq, .inl (cZ, 12288, .inl fM)), (zq, .inl (cI, 3, .inl fS)), (sq, .inl (cI, 6156, .inl fP)), (bq, .inl (cI, 3, .inl fB)), (cq, .inl (cJ, 64, .inr (.inl fC))), (pq, .inl (cI, 8, .inl fT))] H := hP
  have hD : va_D A [(q, .inr (7, [.ref mq, .ref zq, .ref sq, .ref bq, .ref cq, .long sm, .ref pq, .int ps, .int th'_6])), (mq, .inl (cZ, 12288, .inl fM)), (zq, .inl (cI, 3, .inl fS)), (sq, .inl (cI, 6156, .inl fP)), (bq, .inl (cI, 3, .inl fB)), (cq, .inl (cJ, 64, .inr (.inl fC))), (pq, .inl (cI, 8, .inl fT))] := hD
  obtain ⟨he, hw_3⟩ := hw_3
  subst he
  have hth := hw_3
  refine lv_if_eq (tgt := 20) hx hb dX8_trees_8 (by decide) (fun qc_7 => ?_) (fun qc_7 => ?_)
  · have c_7 : true = false := b2i_f qc_7
    cases c_7
  · have c_7 : true = true := b2i_t qc_7
    refine lv_aload_n hx hb dX8_trees_11 rfl (lv_at hl 0 rfl) ?_
    refine va_get (D := (dC, dI)) (ci := 7) (v := .ref zq) (C := RX8) (T := TX8) (N := 9) hx hb hts (by decide +kernel) hown hK hP 0 rfl rfl 1 (by decide) (hts (.fieldLink RX8 13 "SmallNumberSetsModel" "size" "[I") (by decide +kernel)) (fun _ h9 => h9) rfl dX8_trees_12 ?_
    refine lv_iload_n hx hb dX8_trees_15 rfl (lv_at hl 1 rfl) ?_
    refine va_iald hx hb hK hP 2 1 rfl rfl (vp_in_nI (by omega) (by omega)) dX8_trees_16 ?_
    refine lv_cvi (congrArg fS (nI_clamp (by omega))) ?_
    refine lv_cvi (hZ k hk) ?_
    refine lv_if_ne (tgt := 22) hx hb dX8_trees_17 (by decide) (fun qc_8 => ?_) (fun qc_8 => ?_)
    · have c_8 : ¬ (fb_ct (M k) 4096) = 0 := fun h9 => qc_8 ((nI_eq (a := fb_ct (M k) 4096) (b := 0) (by omega) (by omega)).mpr h9)
      have hne := c_8
      refine lv_aload_n hx hb dX8_trees_22 rfl (lv_at hl 0 rfl) ?_
      refine lv_iload_n hx hb dX8_trees_23 rfl (lv_at hl 1 rfl) ?_
      have hPc := hP.sub (ws' := [(q, .inr (7, [.ref mq, .ref zq, .ref sq, .ref bq, .ref cq, .long sm, .ref pq, .int ps, .int th'_6])), (mq, .inl (cZ, 12288, .inl fM)), (zq, .inl (cI, 3, .inl fS)), (sq, .inl (cI, 6156, .inl fP)), (bq, .inl (cI, 3, .inl fB)), (cq, .inl (cJ, 64, .inr (.inl fC))), (pq, .inl (cI, 8, .inl fT))]) [0, 1, 2, 3, 4, 5, 6] rfl
      have hKc := hK.sub (tys' := [(cZ, .boolean), (cI, .int), (cJ, .long)]) [0, 1, 2] rfl
      have hDc := hD.sub (ws' := [(q, .inr (7, [.ref mq, .ref zq, .ref sq, .ref bq, .ref cq, .long sm, .ref pq, .int ps, .int th'_6])), (mq, .inl (cZ, 12288, .inl fM)), (zq, .inl (cI, 3, .inl fS)), (sq, .inl (cI, 6156, .inl fP)), (bq, .inl (cI, 3, .inl fB)), (cq, .inl (cJ, 64, .inr (.inl fC))), (pq, .inl (cI, 8, .inl fT))]) [0, 1, 2, 3, 4, 5, 6] (by decide) rfl
      have hFc := va_free (wc := [(q, .inr (7, [.ref mq, .ref zq, .ref sq, .ref bq, .ref cq, .long sm, .ref pq, .int ps, .int th'_6])), (mq, .inl (cZ, 12288, .inl fM)), (zq, .inl (cI, 3, .inl fS)), (sq, .inl (cI, 6156, .inl fP)), (bq, .inl (cI, 3, .inl fB)), (cq, .inl (cJ, 64, .inr (.inl fC))), (pq, .inl (cI, 8, .inl fT))]) hD hS hA [0, 1, 2, 3, 4, 5, 6] rfl
      refine va_callv (va_runV (As := [.int (nI k)]) (rest := []) ⟨hx, hb, hml, hown, hts⟩ (c_X8_grows l dC dI q mq zq sq bq cq pq cZ cI cJ fM fS fP fB fC sm fT ps th'_6 M k H.size (by first | assumption | omega) (by first | assumption | omega)) (cwV 1 hts gX8_trees_X8_grows rfl rfl rfl (by decide +kernel) ⟨Nat.le_of_ble_eq_true rfl, Nat.le_of_ble_eq_true rfl⟩) ⟨fun a U g mk q => by obtain ⟨q0, q1, qP, qK, qD⟩ := q; exact ⟨q0, q1, qP, va_K.moved (u := U) (U := U.calling g mk a) (Vm.Alike.refl U.vm) qK, qD⟩, va_recv hKc hPc (ci := 7) (q0 := 0) rfl rfl, fun U hU hW => ⟨rfl, by rw [hU], by rw [hU]; exact hPc, va_K.moved hW.alike hKc, hDc.weaken (fun _ _ _ _ => trivial)⟩⟩ rfl rfl hl.1 rfl (lv_room (Nat.le_of_ble_eq_true rfl)) dX8_trees_24 ⟨Nat.le_of_ble_eq_true rfl, Nat.le_of_ble_eq_true rfl⟩) hS (fun q _ h => hFc q h) hFc (fun u_10 t9 H1 locs ht hvm hw_9 hB hz1 hk1 hS => ?_)
      obtain ⟨fC'_12, sm'_13⟩ := u_10
      obtain ⟨hP1, hK1, hD1⟩ := hB
      rw [ht] at hP1
      have hK1 := va_K.moved hvm.symm hK1
      try dsimp only at hw_9 hP1 hK1 hD1
      obtain ⟨hP, hD⟩ := va_join (wr := []) (w1 := [(q, .inr (7, [.ref mq, .ref zq, .ref sq, .ref bq, .ref cq, .long sm'_13, .ref pq, .int ps, .int th'_6])), (mq, .inl (cZ, 12288, .inl fM)), (zq, .inl (cI, 3, .inl fS)), (sq, .inl (cI, 6156, .inl fP)), (bq, .inl (cI, 3, .inl fB)), (cq, .inl (cJ, 64, .inr (.inl fC'_12))), (pq, .inl (cI, 8, .inl fT))]) hP hD [0, 1, 2, 3, 4, 5, 6] [] rfl rfl (by decide) (by decide) hk1 hFc hP1 hD1
      generalize H1 = H at hP hS ⊢
      have hP : va_P (dC, dI) vwCl [(q, .inr (7, [.ref mq, .ref zq, .ref sq, .ref bq, .ref cq, .long sm'_13, .ref pq, .int ps, .int th'_6])), (mq, .inl (cZ, 12288, .inl fM)), (zq, .inl (cI, 3, .inl fS)), (sq, .inl (cI, 6156, .inl fP)), (bq, .inl (cI, 3, .inl fB)), (cq, .inl (cJ, 64, .inr (.inl fC'_12))), (pq, .inl (cI, 8, .inl fT))] H := hP
      have hD : va_D A [(q, .inr (7, [.ref mq, .ref zq, .ref sq, .ref bq, .ref cq, .long sm'_13, .ref pq, .int ps, .int th'_6])), (mq, .inl (cZ, 12288, .inl fM)), (zq, .inl (cI, 3, .inl fS)), (sq, .inl (cI, 6156, .inl fP)), (bq, .inl (cI, 3, .inl fB)), (cq, .inl (cJ, 64, .inr (.inl fC'_12))), (pq, .inl (cI, 8, .inl fT))] := hD
      have hgw := hw_9
      refine lv_iconst (v := nI 1) hx hb dX8_trees_27 (by decide +kernel) ?_
      refine lv_aload_n hx hb dX8_trees_28 rfl (lv_at hl 0 rfl) ?_
      refine lv_aload_n hx hb dX8_trees_29 rfl (lv_at hl 0 rfl) ?_
      refine va_get (D := (dC, dI)) (ci := 7) (v := .long sm'_13) (C := RX8) (T := TX8) (N := 9) hx hb hts (by decide +kernel) hown hK hP 0 rfl rfl 5 (by decide) (hts (.fieldLink RX8 95 "SmallNumberSetsModel" "summary" "J") (by decide +kernel)) (fun _ h9 => h9) rfl dX8_trees_30 ?_
      have hPc := hP.sub (ws' := [(q, .inr (7, [.ref mq, .ref zq, .ref sq, .ref bq, .ref cq, .long sm'_13, .ref pq, .int ps, .int th'_6])), (mq, .inl (cZ, 12288, .inl fM)), (zq, .inl (cI, 3, .inl fS)), (sq, .inl (cI, 6156, .inl fP)), (bq, .inl (cI, 3, .inl fB)), (cq, .inl (cJ, 64, .inr (.inl fC'_12))), (pq, .inl (cI, 8, .inl fT))]) [0, 1, 2, 3, 4, 5, 6] rfl
      have hKc := hK.sub (tys' := [(cZ, .boolean), (cI, .int), (cJ, .long)]) [0, 1, 2] rfl
      have hDc := hD.sub (ws' := [(q, .inr (7, [.ref mq, .ref zq, .ref sq, .ref bq, .ref cq, .long sm'_13, .ref pq, .int ps, .int th'_6])), (mq, .inl (cZ, 12288, .inl fM)), (zq, .inl (cI, 3, .inl fS)), (sq, .inl (cI, 6156, .inl fP)), (bq, .inl (cI, 3, .inl fB)), (cq, .inl (cJ, 64, .inr (.inl fC'_12))), (pq, .inl (cI, 8, .inl fT))]) [0, 1, 2, 3, 4, 5, 6] (by decide) rfl
      have hFc := va_free (wc := [(q, .inr (7, [.ref mq, .ref zq, .ref sq, .ref bq, .ref cq, .long sm'_13, .ref pq, .int ps, .int th'_6])), (mq, .inl (cZ, 12288, .inl fM)), (zq, .inl (cI, 3, .inl fS)), (sq, .inl (cI, 6156, .inl fP)), (bq, .inl (cI, 3, .inl fB)), (cq, .inl (cJ, 64, .inr (.inl fC'_12))), (pq, .inl (cI, 8, .inl fT))]) hD hS hA [0, 1, 2, 3, 4, 5, 6] rfl
      refine va_calli (va_runV (As := [.long sm'_13]) (rest := [.int (nI 1)]) ⟨hx, hb, hml, hown, hts⟩ (c_X8_treesIn l dC dI q mq zq sq bq cq pq cZ cI cJ fM fS fP fB fC'_12 sm'_13 fT ps th'_6 sm'_13 H.size ) (cwV 1 hts gX8_trees_X8_treesIn rfl rfl rfl (by decide +kernel) ⟨Nat.le_of_ble_eq_true rfl, Nat.le_of_ble_eq_true rfl⟩) ⟨fun a U g mk q => by obtain ⟨q0, q1, qP, qK, qD⟩ := q; exact ⟨q0, q1, qP, va_K.moved (u := U) (U := U.calling g mk a) (Vm.Alike.refl U.vm) qK, qD⟩, va_recv hKc hPc (ci := 7) (q0 := 0) rfl rfl, fun U hU hW => ⟨rfl, by rw [hU], by rw [hU]; exact hPc, va_K.moved hW.alike hKc, hDc.weaken (fun _ _ _ _ => trivial)⟩⟩ rfl rfl hl.1 rfl (lv_room (Nat.le_of_ble_eq_true rfl)) dX8_trees_33 ⟨Nat.le_of_ble_eq_true rfl, Nat.le_of_ble_eq_true rfl⟩) hS (fun q _ h => hFc q h) hFc (fun r_16 u_15 t9 H1 locs ht hvm hw_14 hB hz1 hk1 hS => ?_)
      obtain ⟨fT'_17, ps'_18⟩ := u_15
      obtain ⟨hP1, hK1, hD1⟩ := hB
      rw [ht] at hP1
      have hK1 := va_K.moved hvm.symm hK1
      try dsimp only at hw_14 hP1 hK1 hD1
      obtain ⟨hP, hD⟩ := va_join (wr := []) (w1 := [(q, .inr (7, [.ref mq, .ref zq, .ref sq, .ref bq, .ref cq, .long sm'_13, .ref pq, .int ps'_18, .int th'_6])), (mq, .inl (cZ, 12288, .inl fM)), (zq, .inl (cI, 3, .inl fS)), (sq, .inl (cI, 6156, .inl fP)), (bq, .inl (cI, 3, .inl fB)), (cq, .inl (cJ, 64, .inr (.inl fC'_12))), (pq, .inl (cI, 8, .inl fT'_17))]) hP hD [0, 1, 2, 3, 4, 5, 6] [] rfl rfl (by decide) (by decide) hk1 hFc hP1 hD1
      generalize H1 = H at hP hS ⊢
      have hP : va_P (dC, dI) vwCl [(q, .inr (7, [.ref mq, .ref zq, .ref sq, .ref bq, .ref cq, .long sm'_13, .ref pq, .int ps'_18, .int th'_6])), (mq, .inl (cZ, 12288, .inl fM)), (zq, .inl (cI, 3, .inl fS)), (sq, .inl (cI, 6156, .inl fP)), (bq, .inl (cI, 3, .inl fB)), (cq, .inl (cJ, 64, .inr (.inl fC'_12))), (pq, .inl (cI, 8, .inl fT'_17))] H := hP
      have hD : va_D A [(q, .inr (7, [.ref mq, .ref zq, .ref sq, .ref bq, .ref cq, .long sm'_13, .ref pq, .int ps'_18, .int th'_6])), (mq, .inl (cZ, 12288, .inl fM)), (zq, .inl (cI, 3, .inl fS)), (sq, .inl (cI, 6156, .inl fP)), (bq, .inl (cI, 3, .inl fB)), (cq, .inl (cJ, 64, .inr (.inl fC'_12))), (pq, .inl (cI, 8, .inl fT'_17))] := hD
      subst hw_14
      refine lv_iadd hx hb dX8_trees_36 ?_
      refine lv_cvi (nI_add _ _) ?_
      refine lv_istore_n (lv' := [(2, .int (nI (1 + (tcw sm'_13)))), (0, .ref q), (1, .int (nI k))]) hx hb dX8_trees_37 rfl hl (by decide) rfl (fun ls hl => ?_)
      refine lv_iconst (v := nI 0) hx hb dX8_trees_38 (by decide +kernel) ?_
      refine lv_istore_n (lv' := [(3, .int (nI 0)), (2, .int (nI (1 + (tcw sm'_13)))), (0, .ref q), (1, .int (nI k))]) hx hb dX8_trees_39 rfl hl (by decide) rfl (fun ls hl => ?_)
      have key_40_19 : ∀ (fu : Nat) (i : Nat) (t : Nat) (g : Nat → Int32) (pv : Int32) (hi1 : i ≤ 64) (hti : t = 1 + tcw (smw (M k)) + sm1 (fun h => tcw (clw (M k) h)) i) (hfu : 64 - i < fu) (H : Heap) (locs : List Loc) (hP : va_P (dC, dI) vwCl [(q, .inr (7, [.ref mq, .ref zq, .ref sq, .ref bq, .ref cq, .long sm'_13, .ref pq, .int pv, .int th'_6])), (mq, .inl (cZ, 12288, .inl fM)), (zq, .inl (cI, 3, .inl fS)), (sq, .inl (cI, 6156, .inl fP)), (bq, .inl (cI, 3, .inl fB)), (cq, .inl (cJ, 64, .inr (.inl fC'_12))), (pq, .inl (cI, 8, .inl g))] H) (hD : va_D A [(q, .inr (7, [.ref mq, .ref zq, .ref sq, .ref bq, .ref cq, .long sm'_13, .ref pq, .int pv, .int th'_6])), (mq, .inl (cZ, 12288, .inl fM)), (zq, .inl (cI, 3, .inl fS)), (sq, .inl (cI, 6156, .inl fP)), (bq, .inl (cI, 3, .inl fB)), (cq, .inl (cJ, 64, .inr (.inl fC'_12))), (pq, .inl (cI, 8, .inl g))]) (hS : va_S A s.heap H locs) (ls : Array Slot) (hl : lv_has ls 4 [(3, .int (nI i)), (2, .int (nI t)), (0, .ref q), (1, .int (nI k))]), W p l e (headSpec wsX8_trees ({ frames := 3, cells := 0, slots := 0, locals := 71 })).room s m ([.ref q, .int (nI k)] : List Value).toArray below meth c H locs 0 0 (MQ below (va_Qi (fun (r : Int32) (u : (Nat → Int64) × Int64 × (Nat → Int32) × Int32 × Int32) => r = nI (trs (M k)) ∧ u.2.2.2.2 = nI 0) (fun (u : (Nat → Int64) × Int64 × (Nat → Int32) × Int32 × Int32) (t : State) => va_P (dC, dI) vwCl [(q, .inr (7, [.ref mq, .ref zq, .ref sq, .ref bq, .ref cq, .long u.2.1, .ref pq, .int u.2.2.2.1, .int u.2.2.2.2])), (mq, .inl (cZ, 12288, .inl fM)), (zq, .inl (cI, 3, .inl fS)), (sq, .inl (cI, 6156, .inl fP)), (bq, .inl (cI, 3, .inl fB)), (cq, .inl (cJ, 64, .inr (.inl u.1))), (pq, .inl (cI, 8, .inl u.2.2.1))] t.heap ∧ va_K (dC, dI) vwCl [(cZ, .boolean), (cI, .int), (cJ, .long)] t ∧ va_D A [(q, .inr (7, [.ref mq, .ref zq, .ref sq, .ref bq, .ref cq, .long u.2.1, .ref pq, .int u.2.2.2.1, .int u.2.2.2.2])), (mq, .inl (cZ, 12288, .inl fM)), (zq, .inl (cI, 3, .inl fS)), (sq, .inl (cI, 6156, .inl fP)), (bq, .inl (cI, 3, .inl fB)), (cq, .inl (cJ, 64, .inr (.inl u.1))), (pq, .inl (cI, 8, .inl u.2.2.1))]) A) ([.ref q, .int (nI k)] : List Value).toArray s 0 0 A) (F0 m 40 ls []) := by
        intro fu
        induction fu with
        | zero =>
          intro i t g pv hi1 hti hfu H locs hP hD hS ls hl
          exact absurd hfu (Nat.not_lt_zero _)
        | succ fu ih_40 =>
          intro i t g pv hi1 hti hfu H locs hP hD hS ls hl
          refine lv_iload_n hx hb dX8_trees_40 rfl (lv_at hl 0 rfl) ?_
          refine lv_bipush (v := nI 64) hx hb dX8_trees_41 (by decide +kernel) ?_
          refine lv_icmp_ge (tgt := 65) hx hb dX8_trees_43 (by decide) (fun qc_20 => ?_) (fun qc_20 => ?_)
          · have c_20 : 64 ≤ i := (nI_leI (a := 64) (b := i) (by omega) (by omega)).mp qc_20
            refine lv_iload_n hx hb dX8_trees_65 rfl (lv_at hl 1 rfl) ?_
            have hP9 := hP.sub (ws' := [(q, .inr (7, [.ref mq, .ref zq, .ref sq, .ref bq, .ref cq, .long sm'_13, .ref pq, .int pv, .int th'_6])), (mq, .inl (cZ, 12288, .inl fM)), (zq, .inl (cI, 3, .inl fS)), (sq, .inl (cI, 6156, .inl fP)), (bq, .inl (cI, 3, .inl fB)), (cq, .inl (cJ, 64, .inr (.inl fC'_12))), (pq, .inl (cI, 8, .inl g))]) [0, 1, 2, 3, 4, 5, 6] rfl
            have hD9 := hD.sub (ws' := [(q, .inr (7, [.ref mq, .ref zq, .ref sq, .ref bq, .ref cq, .long sm'_13, .ref pq, .int pv, .int th'_6])), (mq, .inl (cZ, 12288, .inl fM)), (zq, .inl (cI, 3, .inl fS)), (sq, .inl (cI, 6156, .inl fP)), (bq, .inl (cI, 3, .inl fB)), (cq, .inl (cJ, 64, .inr (.inl fC'_12))), (pq, .inl (cI, 8, .inl g))]) [0, 1, 2, 3, 4, 5, 6] (by decide) rfl
            have hK9 := hK.sub (tys' := [(cZ, .boolean), (cI, .int), (cJ, .long)]) [0, 1, 2] rfl
            exact W.iret (v := nI t) hx hb hr (fun t9 ht hW => ⟨⟨nI t, ⟨fC'_12, sm'_13, g, pv, th'_6⟩, rfl, (show (nI t) = nI (trs (M k)) ∧ th'_6 = nI 0 from ⟨congrArg nI (by rw [hti, trs_1 hne, show i = 64 by omega]), hth⟩), by rw [ht]; exact hP9, va_K.moved hW.alike hK9, hD9⟩, hS.F ht⟩) hS.2.2 dX8_trees_66
          · have c_20 : ¬ 64 ≤ i := fun h9 => qc_20 ((nI_leI (a := 64) (b := i) (by omega) (by omega)).mpr h9)
            refine lv_iload_n hx hb dX8_trees_46 rfl (lv_at hl 1 rfl) ?_
            refine lv_aload_n hx hb dX8_trees_47 rfl (lv_at hl 2 rfl) ?_
            refine lv_aload_n hx hb dX8_trees_48 rfl (lv_at hl 2 rfl) ?_
            refine va_get (D := (dC, dI)) (ci := 7) (v := .ref cq) (C := RX8) (T := TX8) (N := 9) hx hb hts (by decide +kernel) hown hK hP 0 rfl rfl 4 (by decide) (hts (.fieldLink RX8 23 "SmallNumberSetsModel" "cluster" "[J") (by decide +kernel)) (fun _ h9 => h9) rfl dX8_trees_49 ?_
            refine lv_iload_n hx hb dX8_trees_52 rfl (lv_at hl 0 rfl) ?_
            refine va_lald hx hb hK hP 5 2 rfl rfl (vp_in_nI (by omega) (by omega)) dX8_trees_53 ?_
            refine lv_cvl (congrArg fC'_12 (nI_clamp (by omega))) ?_
            have hPc := hP.sub (ws' := [(q, .inr (7, [.ref mq, .ref zq, .ref sq, .ref bq, .ref cq, .long sm'_13, .ref pq, .int pv, .int th'_6])), (mq, .inl (cZ, 12288, .inl fM)), (zq, .inl (cI, 3, .inl fS)), (sq, .inl (cI, 6156, .inl fP)), (bq, .inl (cI, 3, .inl fB)), (cq, .inl (cJ, 64, .inr (.inl fC'_12))), (pq, .inl (cI, 8, .inl g))]) [0, 1, 2, 3, 4, 5, 6] rfl
            have hKc := hK.sub (tys' := [(cZ, .boolean), (cI, .int), (cJ, .long)]) [0, 1, 2] rfl
            have hDc := hD.sub (ws' := [(q, .inr (7, [.ref mq, .ref zq, .ref sq, .ref bq, .ref cq, .long sm'_13, .ref pq, .int pv, .int th'_6])), (mq, .inl (cZ, 12288, .inl fM)), (zq, .inl (cI, 3, .inl fS)), (sq, .inl (cI, 6156, .inl fP)), (bq, .inl (cI, 3, .inl fB)), (cq, .inl (cJ, 64, .inr (.inl fC'_12))), (pq, .inl (cI, 8, .inl g))]) [0, 1, 2, 3, 4, 5, 6] (by decide) rfl
            have hFc := va_free (wc := [(q, .inr (7, [.ref mq, .ref zq, .ref sq, .ref bq, .ref cq, .long sm'_13, .ref pq, .int pv, .int th'_6])), (mq, .inl (cZ, 12288, .inl fM)), (zq, .inl (cI, 3, .inl fS)), (sq, .inl (cI, 6156, .inl fP)), (bq, .inl (cI, 3, .inl fB)), (cq, .inl (cJ, 64, .inr (.inl fC'_12))), (pq, .inl (cI, 8, .inl g))]) hD hS hA [0, 1, 2, 3, 4, 5, 6] rfl
            refine va_calli (va_runV (As := [.long (fC'_12 i)]) (rest := [.int (nI t)]) ⟨hx, hb, hml, hown, hts⟩ (c_X8_treesIn l dC dI q mq zq sq bq cq pq cZ cI cJ fM fS fP fB fC'_12 sm'_13 g pv th'_6 (fC'_12 i) H.size ) (cwV 1 hts gX8_trees_X8_treesIn rfl rfl rfl (by decide +kernel) ⟨Nat.le_of_ble_eq_true rfl, Nat.le_of_ble_eq_true rfl⟩) ⟨fun a U g mk q => by obtain ⟨q0, q1, qP, qK, qD⟩ := q; exact ⟨q0, q1, qP, va_K.moved (u := U) (U := U.calling g mk a) (Vm.Alike.refl U.vm) qK, qD⟩, va_recv hKc hPc (ci := 7) (q0 := 0) rfl rfl, fun U hU hW => ⟨rfl, by rw [hU], by rw [hU]; exact hPc, va_K.moved hW.alike hKc, hDc.weaken (fun _ _ _ _ => trivial)⟩⟩ rfl rfl hl.1 rfl (lv_room (Nat.le_of_ble_eq_true rfl)) dX8_trees_54 ⟨Nat.le_of_ble_eq_true rfl, Nat.le_of_ble_eq_true rfl⟩) hS (fun q _ h => hFc q h) hFc (fun r_23 u_22 t9 H1 locs ht hvm hw_21 hB hz1 hk1 hS => ?_)
            obtain ⟨fT'_24, ps'_25⟩ := u_22
            obtain ⟨hP1, hK1, hD1⟩ := hB
            rw [ht] at hP1
            have hK1 := va_K.moved hvm.symm hK1
            try dsimp only at hw_21 hP1 hK1 hD1
            obtain ⟨hP, hD⟩ := va_join (wr := []) (w1 := [(q, .inr (7, [.ref mq, .ref zq, .ref sq, .ref bq, .ref cq, .long sm'_13, .ref pq, .int ps'_25, .int th'_6])), (mq, .inl (cZ, 12288, .inl fM)), (zq, .inl (cI, 3, .inl fS)), (sq, .inl (cI, 6156, .inl fP)), (bq, .inl (cI, 3, .inl fB)), (cq, .inl (cJ, 64, .inr (.inl fC'_12))), (pq, .inl (cI, 8, .inl fT'_24))]) hP hD [0, 1, 2, 3, 4, 5, 6] [] rfl rfl (by decide) (by decide) hk1 hFc hP1 hD1
            generalize H1 = H at hP hS ⊢
            have hP : va_P (dC, dI) vwCl [(q, .inr (7, [.ref mq, .ref zq, .ref sq, .ref bq, .ref cq, .long sm'_13, .ref pq, .int ps'_25, .int th'_6])), (mq, .inl (cZ, 12288, .inl fM)), (zq, .inl (cI, 3, .inl fS)), (sq, .inl (cI, 6156, .inl fP)), (bq, .inl (cI, 3, .inl fB)), (cq, .inl (cJ, 64, .inr (.inl fC'_12))), (pq, .inl (cI, 8, .inl fT'_24))] H := hP
            have hD : va_D A [(q, .inr (7, [.ref mq, .ref zq, .ref sq, .ref bq, .ref cq, .long sm'_13, .ref pq, .int ps'_25, .int th'_6])), (mq, .inl (cZ, 12288, .inl fM)), (zq, .inl (cI, 3, .inl fS)), (sq, .inl (cI, 6156, .inl fP)), (bq, .inl (cI, 3, .inl fB)), (cq, .inl (cJ, 64, .inr (.inl fC'_12))), (pq, .inl (cI, 8, .inl fT'_24))] := hD
            subst hw_21
            refine lv_iadd hx hb dX8_trees_57 ?_
            refine lv_cvi (nI_add _ _) ?_
            refine lv_istore_n (lv' := [(2, .int (nI (t + (tcw (fC'_12 i))))), (3, .int (nI i)), (0, .ref q), (1, .int (nI k))]) hx hb dX8_trees_58 rfl hl (by decide) rfl (fun ls hl => ?_)
            refine lv_iinc (v := nI (i + 1)) (lv' := [(3, .int (nI (i + 1))), (2, .int (nI (t + (tcw (fC'_12 i))))), (0, .ref q), (1, .int (nI k))]) hx hb dX8_trees_59 hl (k := 1) rfl (nI_1 _) (by decide) rfl (fun ls hl => ?_)
            refine lv_goto (tgt := 40) hx hb dX8_trees_62 (by decide) ?_
            exact ih_40 (i + 1) (t + (tcw (fC'_12 i))) fT'_24 ps'_25 (by omega) (by rw [hgw.1 i (by omega), hti]; exact Nat.add_assoc _ _ _) (by omega) _ _ hP hD hS ls (lv_sub hl [0, 1, 2, 3] rfl)
      exact key_40_19 _ 0 (1 + (tcw sm'_13)) fT'_17 ps'_18 (by decide) (by rw [hgw.2]; exact (Nat.add_zero _).symm) (Nat.lt_succ_self _) _ _ hP hD hS ls (lv_sub hl [0, 1, 2, 3] rfl)
    · have c_8 : (fb_ct (M k) 4096) = 0 := (nI_eq (a := fb_ct (M k) 4096) (b := 0) (by omega) (by omega)).mp qc_8
      refine lv_iconst (v := nI 0) hx hb dX8_trees_20 (by decide +kernel) ?_
      have hP9 := hP.sub (ws' := [(q, .inr (7, [.ref mq, .ref zq, .ref sq, .ref bq, .ref cq, .long sm, .ref pq, .int ps, .int th'_6])), (mq, .inl (cZ, 12288, .inl fM)), (zq, .inl (cI, 3, .inl fS)), (sq, .inl (cI, 6156, .inl fP)), (bq, .inl (cI, 3, .inl fB)), (cq, .inl (cJ, 64, .inr (.inl fC))), (pq, .inl (cI, 8, .inl fT))]) [0, 1, 2, 3, 4, 5, 6] rfl
      have hD9 := hD.sub (ws' := [(q, .inr (7, [.ref mq, .ref zq, .ref sq, .ref bq, .ref cq, .long sm, .ref pq, .int ps, .int th'_6])), (mq, .inl (cZ, 12288, .inl fM)), (zq, .inl (cI, 3, .inl fS)), (sq, .inl (cI, 6156, .inl fP)), (bq, .inl (cI, 3, .inl fB)), (cq, .inl (cJ, 64, .inr (.inl fC))), (pq, .inl (cI, 8, .inl fT))]) [0, 1, 2, 3, 4, 5, 6] (by decide) rfl
      have hK9 := hK.sub (tys' := [(cZ, .boolean), (cI, .int), (cJ, .long)]) [0, 1, 2] rfl
      exact W.iret (v := nI 0) hx hb hr (fun t9 ht hW => ⟨⟨nI 0, ⟨fC, sm, fT, ps, th'_6⟩, rfl, (show (nI 0) = nI (trs (M k)) ∧ th'_6 = nI 0 from ⟨congrArg nI (trs_0 c_8).symm, hth⟩), by rw [ht]; exact hP9, va_K.moved hW.alike hK9, hD9⟩, hS.F ht⟩) hS.2.2 dX8_trees_21
set_option maxHeartbeats 4000000 in
set_option maxRecDepth 100000 in
/-- reference: c_X8_trees_s -/
theorem c_X8_trees_s (l : Launch) (dC : Nat → ClassId) (dI : Nat → Nat → Nat) (q : Nat) (mq : Nat) (zq : Nat) (sq : Nat) (bq : Nat) (cq : Nat) (pq : Nat) (cZ : ClassId) (cI : ClassId) (cJ : ClassId) (fM : Nat → Int32) (fS : Nat → Int32) (fP : Nat → Int32) (fB : Nat → Int32) (fC : Nat → Int64) (sm : Int64) (fT : Nat → Int32) (ps : Int32) (th : Int32) (v : Int32) (sz : Nat) (hSf : isS v = false) : Met l yX8_trees wsX8_trees ({ frames := 2, cells := 0, slots := 0, locals := 42 }) (va_Pc [.ref q, .int v] (fun U => U.heap.size = sz ∧ va_P (dC, dI) vwCl [(q, .inr (7, [.ref mq, .ref zq, .ref sq, .ref bq, .ref cq, .long sm, .ref pq, .int ps, .int th])), (mq, .inl (cZ, 12288, .inl fM)), (zq, .inl (cI, 3, .inl fS)), (sq, .inl (cI, 6156, .inl fP)), (bq, .inl (cI, 3, .inl fB)), (cq, .inl (cJ, 64, .inr (.inl fC))), (pq, .inl (cI, 8, .inl fT))] U.heap ∧ va_K (dC, dI) vwCl [(cZ, .boolean), (cI, .int), (cJ, .long)] U ∧ va_D (fun _ => True) [(q, .inr (7, [.ref mq, .ref zq, .ref sq, .ref bq, .ref cq, .long sm, .ref pq, .int ps, .int th])), (mq, .inl (cZ, 12288, .inl fM)), (zq, .inl (cI, 3, .inl fS)), (sq, .inl (cI, 6156, .inl fP)), (bq, .inl (cI, 3, .inl fB)), (cq, .inl (cJ, 64, .inr (.inl fC))), (pq, .inl (cI, 8, .inl fT))])) (va_Qi (fun (r : Int32) (u : Int32) => u = nI 1) (fun (u : Int32) (t : State) => va_P (dC, dI) vwCl [(q, .inr (7, [.ref mq, .ref zq, .ref sq, .ref bq, .ref cq, .long sm, .ref pq, .int ps, .int u])), (mq, .inl (cZ, 12288, .inl fM)), (zq, .inl (cI, 3, .inl fS)), (sq, .inl (cI, 6156, .inl fP)), (bq, .inl (cI, 3, .inl fB)), (cq, .inl (cJ, 64, .inr (.inl fC))), (pq, .inl (cI, 8, .inl fT))] t.heap ∧ va_K (dC, dI) vwCl [(cZ, .boolean), (cI, .int), (cJ, .long)] t ∧ va_D (va_A [(q, .inr (7, [.ref mq, .ref zq, .ref sq, .ref bq, .ref cq, .long sm, .ref pq, .int ps, .int th])), (mq, .inl (cZ, 12288, .inl fM)), (zq, .inl (cI, 3, .inl fS)), (sq, .inl (cI, 6156, .inl fP)), (bq, .inl (cI, 3, .inl fB)), (cq, .inl (cJ, 64, .inr (.inl fC))), (pq, .inl (cI, 8, .inl fT))] sz) [(q, .inr (7, [.ref mq, .ref zq, .ref sq, .ref bq, .ref cq, .long sm, .ref pq, .int ps, .int u])), (mq, .inl (cZ, 12288, .inl fM)), (zq, .inl (cI, 3, .inl fS)), (sq, .inl (cI, 6156, .inl fP)), (bq, .inl (cI, 3, .inl fB)), (cq, .inl (cJ, 64, .inr (.inl fC))), (pq, .inl (cI, 8, .inl fT))]) (va_A [(q, .inr (7, [.ref mq, .ref zq, .ref sq, .ref bq, .ref cq, .long sm, .ref pq, .int ps, .int th])), (mq, .inl (cZ, 12288, .inl fM)), (zq, .inl (cI, 3, .inl fS)), (sq, .inl (cI, 6156, .inl fP)), (bq, .inl (cI, 3, .inl fB)), (cq, .inl (cJ, 64, .inr (.inl fC))), (pq, .inl (cI, 8, .inl fT))] sz)) 0 0 (va_A [(q, .inr (7, [.ref mq, .ref zq, .ref sq, .ref bq, .ref cq, .long sm, .ref pq, .int ps, .int th])), (mq, .inl (cZ, 12288, .inl fM)), (zq, .inl (cI, 3, .inl fS)), (sq, .inl (cI, 6156, .inl fP)), (bq, .inl (cI, 3, .inl fB)), (cq, .inl (cJ, 64, .inr (.inl fC))), (pq, .inl (cI, 8, .inl fT))] sz) := by
  refine Met.ofW (cc := cX8_trees) (maxL := 4) (ret := (some .int)) (by decide) rfl ?_
  intro p e s m args below meth c s₁ B hml hv
  obtain ⟨rfl, hsz, hP, hK, hD0⟩ := hv
  have hx := B.exec
  have hb := B.bytes
  have hr := B.returns
  have hts := atoms_spec (ws := wsX8_trees) B.pre
  have hown : s.vm.findClass RX8 = some m.cls := findClass_of_methodNamed B.named
  have hlocks := B.notSynchronized
  subst hsz
  have hD := hD0.self (sz := s.heap.size)
  generalize hAe : va_A [(q, .inr (7, [.ref mq, .ref zq, .ref sq, .ref bq, .ref cq, .long sm, .ref pq, .int ps, .int th])), (mq, .inl (cZ, 12288, .inl fM)), (zq, .inl (cI, 3, .inl fS)), (sq, .inl (cI, 6156, .inl fP)), (bq, .inl (cI, 3, .inl fB)), (cq, .inl (cJ, 64, .inr (.inl fC))), (pq, .inl (cI, 8, .inl fT))] s.heap.size = A at hD ⊢
  have hA : ∀ q : Nat, s.heap.size ≤ q → A q := fun q h => by rw [← hAe]; exact Or.inr h
  have hS : va_S A s.heap s.heap [] := va_S.rf
  have hP : va_P (dC, dI) vwCl [(q, .inr (7, [.ref mq, .ref zq, .ref sq, .ref bq, .ref cq, .long sm, .ref pq, .int ps, .int th])), (mq, .inl (cZ, 12288, .inl fM)), (zq, .inl (cI, 3, .inl fS)), (sq, .inl (cI, 6156, .inl fP)), (bq, .inl (cI, 3, .inl fB)), (cq, .inl (cJ, 64, .inr (.inl fC))), (pq, .inl (cI, 8, .inl fT))] s.heap := hP
  have hl := lv_entry ([.ref q, .int v]) (n := 4) (Nat.le_of_ble_eq_true rfl)
  rw [lg_entry_eq]
  generalize (lg_sl ([.ref q, .int v]) ++ List.replicate (4 - (lg_sl ([.ref q, .int v])).length) Slot.unset).toArray = ls at hl ⊢
  have hl : lv_has ls 4 [(0, .ref q), (1, .int v)] := hl
  refine lv_aload_n hx hb dX8_trees_0 rfl (lv_at hl 0 rfl) ?_
  refine lv_iload_n hx hb dX8_trees_1 rfl (lv_at hl 1 rfl) ?_
  have hPc := hP.sub (ws' := []) [] rfl
  have hKc := hK.sub (tys' := []) [] rfl
  refine vp_callSi (W.runS (As := [.int v]) (rest := [.ref q]) ⟨hx, hb, hml, hown, hts⟩ (c_X8_isSet l dC dI v ) (va_cwS 1 hts gX8_trees_X8_isSet rfl rfl rfl (by decide +kernel) ⟨Nat.le_of_ble_eq_true rfl, Nat.le_of_ble_eq_true rfl⟩) ⟨fun a U g mk q => by obtain ⟨q0, qP, qK⟩ := q; exact ⟨q0, qP, va_K.moved (u := U) (U := U.calling g mk a) (Vm.Alike.refl U.vm) qK⟩, fun U hU hW => ⟨rfl, by rw [hU]; exact hPc, va_K.moved hW.alike hKc⟩⟩ rfl rfl hl.1 rfl (lv_room (Nat.le_of_ble_eq_true rfl)) dX8_trees_2 ⟨Nat.le_of_ble_eq_true rfl, Nat.le_of_ble_eq_true rfl⟩) (fun r_2 hw_1 => ?_)
  subst hw_1
  refine lv_cvi (congrArg b2i (hSf)) ?_
  have hPc := hP.sub (ws' := [(q, .inr (7, [.ref mq, .ref zq, .ref sq, .ref bq, .ref cq, .long sm, .ref pq, .int ps, .int th])), (mq, .inl (cZ, 12288, .inl fM)), (zq, .inl (cI, 3, .inl fS)), (sq, .inl (cI, 6156, .inl fP)), (bq, .inl (cI, 3, .inl fB)), (cq, .inl (cJ, 64, .inr (.inl fC))), (pq, .inl (cI, 8, .inl fT))]) [0, 1, 2, 3, 4, 5, 6] rfl
  have hKc := hK.sub (tys' := [(cZ, .boolean), (cI, .int), (cJ, .long)]) [0, 1, 2] rfl
  have hDc := hD.sub (ws' := [(q, .inr (7, [.ref mq, .ref zq, .ref sq, .ref bq, .ref cq, .long sm, .ref pq, .int ps, .int th])), (mq, .inl (cZ, 12288, .inl fM)), (zq, .inl (cI, 3, .inl fS)), (sq, .inl (cI, 6156, .inl fP)), (bq, .inl (cI, 3, .inl fB)), (cq, .inl (cJ, 64, .inr (.inl fC))), (pq, .inl (cI, 8, .inl fT))]) [0, 1, 2, 3, 4, 5, 6] (by decide) rfl
  have hFc := va_free (wc := [(q, .inr (7, [.ref mq, .ref zq, .ref sq, .ref bq, .ref cq, .long sm, .ref pq, .int ps, .int th])), (mq, .inl (cZ, 12288, .inl fM)), (zq, .inl (cI, 3, .inl fS)), (sq, .inl (cI, 6156, .inl fP)), (bq, .inl (cI, 3, .inl fB)), (cq, .inl (cJ, 64, .inr (.inl fC))), (pq, .inl (cI, 8, .inl fT))]) hD hS hA [0, 1, 2, 3, 4, 5, 6] rfl
  refine va_calli (va_runV (As := [.int (b2i false)]) (rest := []) ⟨hx, hb, hml, hown, hts⟩ (c_X8_asked l dC dI q mq zq sq bq cq pq cZ cI cJ fM fS fP fB fC sm fT ps th false s.heap.size ) (cwV 1 hts gX8_trees_X8_asked rfl rfl rfl (by decide +kernel) ⟨Nat.le_of_ble_eq_true rfl, Nat.le_of_ble_eq_true rfl⟩) ⟨fun a U g mk q => by obtain ⟨q0, q1, qP, qK, qD⟩ := q; exact ⟨q0, q1, qP, va_K.moved (u := U) (U := U.calling g mk a) (Vm.Alike.refl U.vm) qK, qD⟩, va_recv hKc hPc (ci := 7) (q0 := 0) rfl rfl, fun U hU hW => ⟨rfl, by rw [hU], by rw [hU]; exact hPc, va_K.moved hW.alike hKc, hDc.weaken (fun _ _ _ _ => trivial)⟩⟩ rfl rfl hl.1 rfl (lv_room (Nat.le_of_ble_eq_true rfl)) dX8_trees_5 ⟨Nat.le_of_ble_eq_true rfl, Nat.le_of_ble_eq_true rfl⟩) hS (fun q _ h => hFc q h) hFc (fun r_5 u_4 t9 H1 locs ht hvm hw_3 hB hz1 hk1 hS => ?_)
  obtain ⟨th'_6, rfl⟩ : ∃ z, z = u_4 := ⟨_, rfl⟩
  obtain ⟨hP1, hK1, hD1⟩ := hB
  rw [ht] at hP1
  have hK1 := va_K.moved hvm.symm hK1
  try dsimp only at hw_3 hP1 hK1 hD1
  obtain ⟨hP, hD⟩ := va_join (wr := []) (w1 := [(q, .inr (7, [.ref mq, .ref zq, .ref sq, .ref bq, .ref cq, .long sm, .ref pq, .int ps, .int th'_6])), (mq, .inl (cZ, 12288, .inl fM)), (zq, .inl (cI, 3, .inl fS)), (sq, .inl (cI, 6156, .inl fP)), (bq, .inl (cI, 3, .inl fB)), (cq, .inl (cJ, 64, .inr (.inl fC))), (pq, .inl (cI, 8, .inl fT))]) hP hD [0, 1, 2, 3, 4, 5, 6] [] rfl rfl (by decide) (by decide) hk1 hFc hP1 hD1
  generalize H1 = H at hP hS ⊢
  have hP : va_P (dC, dI) vwCl [(q, .inr (7, [.ref mq, .ref zq, .ref sq, .ref bq, .ref cq, .long sm, .ref pq, .int ps, .int th'_6])), (mq, .inl (cZ, 12288, .inl fM)), (zq, .inl (cI, 3, .inl fS)), (sq, .inl (cI, 6156, .inl fP)), (bq, .inl (cI, 3, .inl fB)), (cq, .inl (cJ, 64, .inr (.inl fC))), (pq, .inl (cI, 8, .inl fT))] H := hP
  have hD : va_D A [(q, .inr (7, [.ref mq, .ref zq, .ref sq, .ref bq, .ref cq, .long sm, .ref pq, .int ps, .int th'_6])), (mq, .inl (cZ, 12288, .inl fM)), (zq, .inl (cI, 3, .inl fS)), (sq, .inl (cI, 6156, .inl fP)), (bq, .inl (cI, 3, .inl fB)), (cq, .inl (cJ, 64, .inr (.inl fC))), (pq, .inl (cI, 8, .inl fT))] := hD
  obtain ⟨he, hw_3⟩ := hw_3
  subst he
  have hth := hw_3
  refine lv_if_eq (tgt := 20) hx hb dX8_trees_8 (by decide) (fun qc_7 => ?_) (fun qc_7 => ?_)
  · have c_7 : false = false := b2i_f qc_7
    refine lv_iconst (v := nI 0) hx hb dX8_trees_20 (by decide +kernel) ?_
    have hP9 := hP.sub (ws' := [(q, .inr (7, [.ref mq, .ref zq, .ref sq, .ref bq, .ref cq, .long sm, .ref pq, .int ps, .int th'_6])), (mq, .inl (cZ, 12288, .inl fM)), (zq, .inl (cI, 3, .inl fS)), (sq, .inl (cI, 6156, .inl fP)), (bq, .inl (cI, 3, .inl fB)), (cq, .inl (cJ, 64, .inr (.inl fC))), (pq, .inl (cI, 8, .inl fT))]) [0, 1, 2, 3, 4, 5, 6] rfl
    have hD9 := hD.sub (ws' := [(q, .inr (7, [.ref mq, .ref zq, .ref sq, .ref bq, .ref cq, .long sm, .ref pq, .int ps, .int th'_6])), (mq, .inl (cZ, 12288, .inl fM)), (zq, .inl (cI, 3, .inl fS)), (sq, .inl (cI, 6156, .inl fP)), (bq, .inl (cI, 3, .inl fB)), (cq, .inl (cJ, 64, .inr (.inl fC))), (pq, .inl (cI, 8, .inl fT))]) [0, 1, 2, 3, 4, 5, 6] (by decide) rfl
    have hK9 := hK.sub (tys' := [(cZ, .boolean), (cI, .int), (cJ, .long)]) [0, 1, 2] rfl
    exact W.iret (v := nI 0) hx hb hr (fun t9 ht hW => ⟨⟨nI 0, th'_6, rfl, hth, by rw [ht]; exact hP9, va_K.moved hW.alike hK9, hD9⟩, hS.F ht⟩) hS.2.2 dX8_trees_21
  · have c_7 : false = true := b2i_t qc_7
    cases c_7
set_option maxHeartbeats 4000000 in
set_option maxRecDepth 100000 in
/-- reference: c_X8_steps_v -/
theorem c_X8_steps_v (l : Launch) (dC : Nat → ClassId) (dI : Nat → Nat → Nat) (q : Nat) (mq : Nat) (zq : Nat) (sq : Nat) (bq : Nat) (cq : Nat) (pq : Nat) (cZ : ClassId) (cI : ClassId) (cJ : ClassId) (fM : Nat → Int32) (fS : Nat → Int32) (fP : Nat → Int32) (fB : Nat → Int32) (fC : Nat → Int64) (sm : Int64) (fT : Nat → Int32) (ps : Int32) (th : Int32) (M : Nat → Nat → Bool) (k : Nat) (x : Nat) (sz : Nat) (hM : MM fM M) (hk : k < 3) (hxx : x < 4096) : Met l yX8_steps wsX8_steps ({ frames := 3, cells := 0, slots := 0, locals := 70 }) (va_Pc [.ref q, .int (nI k), .int (nI x)] (fun U => U.heap.size = sz ∧ va_P (dC, dI) vwCl [(q, .inr (7, [.ref mq, .ref zq, .ref sq, .ref bq, .ref cq, .long sm, .ref pq, .int ps, .int th])), (mq, .inl (cZ, 12288, .inl fM)), (zq, .inl (cI, 3, .inl fS)), (sq, .inl (cI, 6156, .inl fP)), (bq, .inl (cI, 3, .inl fB)), (cq, .inl (cJ, 64, .inr (.inl fC))), (pq, .inl (cI, 8, .inl fT))] U.heap ∧ va_K (dC, dI) vwCl [(cZ, .boolean), (cI, .int), (cJ, .long)] U ∧ va_D (fun _ => True) [(q, .inr (7, [.ref mq, .ref zq, .ref sq, .ref bq, .ref cq, .long sm, .ref pq, .int ps, .int th])), (mq, .inl (cZ, 12288, .inl fM)), (zq, .inl (cI, 3, .inl fS)), (sq, .inl (cI, 6156, .inl fP)), (bq, .inl (cI, 3, .inl fB)), (cq, .inl (cJ, 64, .inr (.inl fC))), (pq, .inl (cI, 8, .inl fT))])) (va_Qi (fun (r : Int32) (u : (Nat → Int64) × Int64 × Int32) => r = nI (stp (M k) x) ∧ u.2.2 = nI 0) (fun (u : (Nat → Int64) × Int64 × Int32) (t : State) => va_P (dC, dI) vwCl [(q, .inr (7, [.ref mq, .ref zq, .ref sq, .ref bq, .ref cq, .long u.2.1, .ref pq, .int ps, .int u.2.2])), (mq, .inl (cZ, 12288, .inl fM)), (zq, .inl (cI, 3, .inl fS)), (sq, .inl (cI, 6156, .inl fP)), (bq, .inl (cI, 3, .inl fB)), (cq, .inl (cJ, 64, .inr (.inl u.1))), (pq, .inl (cI, 8, .inl fT))] t.heap ∧ va_K (dC, dI) vwCl [(cZ, .boolean), (cI, .int), (cJ, .long)] t ∧ va_D (va_A [(q, .inr (7, [.ref mq, .ref zq, .ref sq, .ref bq, .ref cq, .long sm, .ref pq, .int ps, .int th])), (mq, .inl (cZ, 12288, .inl fM)), (zq, .inl (cI, 3, .inl fS)), (sq, .inl (cI, 6156, .inl fP)), (bq, .inl (cI, 3, .inl fB)), (cq, .inl (cJ, 64, .inr (.inl fC))), (pq, .inl (cI, 8, .inl fT))] sz) [(q, .inr (7, [.ref mq, .ref zq, .ref sq, .ref bq, .ref cq, .long u.2.1, .ref pq, .int ps, .int u.2.2])), (mq, .inl (cZ, 12288, .inl fM)), (zq, .inl (cI, 3, .inl fS)), (sq, .inl (cI, 6156, .inl fP)), (bq, .inl (cI, 3, .inl fB)), (cq, .inl (cJ, 64, .inr (.inl u.1))), (pq, .inl (cI, 8, .inl fT))]) (va_A [(q, .inr (7, [.ref mq, .ref zq, .ref sq, .ref bq, .ref cq, .long sm, .ref pq, .int ps, .int th])), (mq, .inl (cZ, 12288, .inl fM)), (zq, .inl (cI, 3, .inl fS)), (sq, .inl (cI, 6156, .inl fP)), (bq, .inl (cI, 3, .inl fB)), (cq, .inl (cJ, 64, .inr (.inl fC))), (pq, .inl (cI, 8, .inl fT))] sz)) 0 0 (va_A [(q, .inr (7, [.ref mq, .ref zq, .ref sq, .ref bq, .ref cq, .long sm, .ref pq, .int ps, .int th])), (mq, .inl (cZ, 12288, .inl fM)), (zq, .inl (cI, 3, .inl fS)), (sq, .inl (cI, 6156, .inl fP)), (bq, .inl (cI, 3, .inl fB)), (cq, .inl (cJ, 64, .inr (.inl fC))), (pq, .inl (cI, 8, .inl fT))] sz) := by
  refine Met.ofW (cc := cX8_steps) (maxL := 8) (ret := (some .int)) (by decide) rfl ?_
  intro p e s m args below meth c s₁ B hml hv
  obtain ⟨rfl, hsz, hP, hK, hD0⟩ := hv
  have hx := B.exec
  have hb := B.bytes
  have hr := B.returns
  have hts := atoms_spec (ws := wsX8_steps) B.pre
  have hown : s.vm.findClass RX8 = some m.cls := findClass_of_methodNamed B.named
  have hlocks := B.notSynchronized
  subst hsz
  have hD := hD0.self (sz := s.heap.size)
  generalize hAe : va_A [(q, .inr (7, [.ref mq, .ref zq, .ref sq, .ref bq, .ref cq, .long sm, .ref pq, .int ps, .int th])), (mq, .inl (cZ, 12288, .inl fM)), (zq, .inl (cI, 3, .inl fS)), (sq, .inl (cI, 6156, .inl fP)), (bq, .inl (cI, 3, .inl fB)), (cq, .inl (cJ, 64, .inr (.inl fC))), (pq, .inl (cI, 8, .inl fT))] s.heap.size = A at hD ⊢
  have hA : ∀ q : Nat, s.heap.size ≤ q → A q := fun q h => by rw [← hAe]; exact Or.inr h
  have hS : va_S A s.heap s.heap [] := va_S.rf
  have hP : va_P (dC, dI) vwCl [(q, .inr (7, [.ref mq, .ref zq, .ref sq, .ref bq, .ref cq, .long sm, .ref pq, .int ps, .int th])), (mq, .inl (cZ, 12288, .inl fM)), (zq, .inl (cI, 3, .inl fS)), (sq, .inl (cI, 6156, .inl fP)), (bq, .inl (cI, 3, .inl fB)), (cq, .inl (cJ, 64, .inr (.inl fC))), (pq, .inl (cI, 8, .inl fT))] s.heap := hP
  have hl := lv_entry ([.ref q, .int (nI k), .int (nI x)]) (n := 8) (Nat.le_of_ble_eq_true rfl)
  rw [lg_entry_eq]
  generalize (lg_sl ([.ref q, .int (nI k), .int (nI x)]) ++ List.replicate (8 - (lg_sl ([.ref q, .int (nI k), .int (nI x)])).length) Slot.unset).toArray = ls at hl ⊢
  have hl : lv_has ls 8 [(0, .ref q), (1, .int (nI k)), (2, .int (nI x))] := hl
  have hab := abv_le (M k) 0
  refine lv_aload_n hx hb dX8_steps_0 rfl (lv_at hl 0 rfl) ?_
  refine lv_iload_n hx hb dX8_steps_1 rfl (lv_at hl 1 rfl) ?_
  refine lv_iload_n hx hb dX8_steps_2 rfl (lv_at hl 2 rfl) ?_
  have hPc := hP.sub (ws' := [(q, .inr (7, [.ref mq, .ref zq, .ref sq, .ref bq, .ref cq, .long sm, .ref pq, .int ps, .int th])), (mq, .inl (cZ, 12288, .inl fM)), (zq, .inl (cI, 3, .inl fS)), (sq, .inl (cI, 6156, .inl fP)), (bq, .inl (cI, 3, .inl fB)), (cq, .inl (cJ, 64, .inr (.inl fC))), (pq, .inl (cI, 8, .inl fT))]) [0, 1, 2, 3, 4, 5, 6] rfl
  have hKc := hK.sub (tys' := [(cZ, .boolean), (cI, .int), (cJ, .long)]) [0, 1, 2] rfl
  have hDc := hD.sub (ws' := [(q, .inr (7, [.ref mq, .ref zq, .ref sq, .ref bq, .ref cq, .long sm, .ref pq, .int ps, .int th])), (mq, .inl (cZ, 12288, .inl fM)), (zq, .inl (cI, 3, .inl fS)), (sq, .inl (cI, 6156, .inl fP)), (bq, .inl (cI, 3, .inl fB)), (cq, .inl (cJ, 64, .inr (.inl fC))), (pq, .inl (cI, 8, .inl fT))]) [0, 1, 2, 3, 4, 5, 6] (by decide) rfl
  have hFc := va_free (wc := [(q, .inr (7, [.ref mq, .ref zq, .ref sq, .ref bq, .ref cq, .long sm, .ref pq, .int ps, .int th])), (mq, .inl (cZ, 12288, .inl fM)), (zq, .inl (cI, 3, .inl fS)), (sq, .inl (cI, 6156, .inl fP)), (bq, .inl (cI, 3, .inl fB)), (cq, .inl (cJ, 64, .inr (.inl fC))), (pq, .inl (cI, 8, .inl fT))]) hD hS hA [0, 1, 2, 3, 4, 5, 6] rfl
  refine va_calli (va_runV (As := [.int (nI k), .int (nI x)]) (rest := []) ⟨hx, hb, hml, hown, hts⟩ (c_X8_isRight l dC dI q mq zq sq bq cq pq cZ cI cJ fM fS fP fB fC sm fT ps th (nI k) (nI x) s.heap.size ) (cwV 2 hts gX8_steps_X8_isRight rfl rfl rfl (by decide +kernel) ⟨Nat.le_of_ble_eq_true rfl, Nat.le_of_ble_eq_true rfl⟩) ⟨fun a U g mk q => by obtain ⟨q0, q1, qP, qK, qD⟩ := q; exact ⟨q0, q1, qP, va_K.moved (u := U) (U := U.calling g mk a) (Vm.Alike.refl U.vm) qK, qD⟩, va_recv hKc hPc (ci := 7) (q0 := 0) rfl rfl, fun U hU hW => ⟨rfl, by rw [hU], by rw [hU]; exact hPc, va_K.moved hW.alike hKc, hDc.weaken (fun _ _ _ _ => trivial)⟩⟩ rfl rfl hl.1 rfl (lv_room (Nat.le_of_ble_eq_true rfl)) dX8_steps_3 ⟨Nat.le_of_ble_eq_true rfl, Nat.le_of_ble_eq_true rfl⟩) hS (fun q _ h => hFc q h) hFc (fun r_3 u_2 t9 H1 locs ht hvm hw_1 hB hz1 hk1 hS => ?_)
  obtain ⟨th'_4, rfl⟩ : ∃ z, z = u_2 := ⟨_, rfl⟩
  obtain ⟨hP1, hK1, hD1⟩ := hB
  rw [ht] at hP1
  have hK1 := va_K.moved hvm.symm hK1
  try dsimp only at hw_1 hP1 hK1 hD1
  obtain ⟨hP, hD⟩ := va_join (wr := []) (w1 := [(q, .inr (7, [.ref mq, .ref zq, .ref sq, .ref bq, .ref cq, .long sm, .ref pq, .int ps, .int th'_4])), (mq, .inl (cZ, 12288, .inl fM)), (zq, .inl (cI, 3, .inl fS)), (sq, .inl (cI, 6156, .inl fP)), (bq, .inl (cI, 3, .inl fB)), (cq, .inl (cJ, 64, .inr (.inl fC))), (pq, .inl (cI, 8, .inl fT))]) hP hD [0, 1, 2, 3, 4, 5, 6] [] rfl rfl (by decide) (by decide) hk1 hFc hP1 hD1
  generalize H1 = H at hP hS ⊢
  have hP : va_P (dC, dI) vwCl [(q, .inr (7, [.ref mq, .ref zq, .ref sq, .ref bq, .ref cq, .long sm, .ref pq, .int ps, .int th'_4])), (mq, .inl (cZ, 12288, .inl fM)), (zq, .inl (cI, 3, .inl fS)), (sq, .inl (cI, 6156, .inl fP)), (bq, .inl (cI, 3, .inl fB)), (cq, .inl (cJ, 64, .inr (.inl fC))), (pq, .inl (cI, 8, .inl fT))] H := hP
  have hD : va_D A [(q, .inr (7, [.ref mq, .ref zq, .ref sq, .ref bq, .ref cq, .long sm, .ref pq, .int ps, .int th'_4])), (mq, .inl (cZ, 12288, .inl fM)), (zq, .inl (cI, 3, .inl fS)), (sq, .inl (cI, 6156, .inl fP)), (bq, .inl (cI, 3, .inl fB)), (cq, .inl (cJ, 64, .inr (.inl fC))), (pq, .inl (cI, 8, .inl fT))] := hD
  obtain ⟨he, hw_1⟩ := hw_1
  subst he
  have hth : th'_4 = nI 0 := by rw [hw_1, isS_t hk, isN_t hxx]; rfl
  refine lv_cvi (congrArg b2i (by rw [isS_t hk, isN_t hxx] <;> rfl)) ?_
  refine lv_if_ne (tgt := 11) hx hb dX8_steps_6 (by decide) (fun qc_5 => ?_) (fun qc_5 => ?_)
  · have c_5 : true = true := b2i_t qc_5
    refine lv_aload_n hx hb dX8_steps_11 rfl (lv_at hl 0 rfl) ?_
    refine lv_iload_n hx hb dX8_steps_12 rfl (lv_at hl 1 rfl) ?_
    refine lv_iconst (v := nI 0) hx hb dX8_steps_13 (by decide +kernel) ?_
    have hPc := hP.sub (ws' := [(q, .inr (7, [.ref mq, .ref zq, .ref sq, .ref bq, .ref cq, .long sm, .ref pq, .int ps, .int th'_4])), (mq, .inl (cZ, 12288, .inl fM)), (zq, .inl (cI, 3, .inl fS)), (sq, .inl (cI, 6156, .inl fP)), (bq, .inl (cI, 3, .inl fB)), (cq, .inl (cJ, 64, .inr (.inl fC))), (pq, .inl (cI, 8, .inl fT))]) [0, 1, 2, 3, 4, 5, 6] rfl
    have hKc := hK.sub (tys' := [(cZ, .boolean), (cI, .int), (cJ, .long)]) [0, 1, 2] rfl
    refine vp_callSi (W.runV (As := [.int (nI k), .int (nI 0)]) (rest := []) ⟨hx, hb, hml, hown, hts⟩ (c_X8_above l dC dI q mq zq sq bq cq pq cZ cI cJ fM fS fP fB fC sm fT ps th'_4 M k 0 (by first | assumption | omega) (by first | assumption | omega) (by first | assumption | omega)) (cwV 2 hts gX8_steps_X8_above rfl rfl rfl (by decide +kernel) ⟨Nat.le_of_ble_eq_true rfl, Nat.le_of_ble_eq_true rfl⟩) ⟨fun a U g mk q => by obtain ⟨q0, qP, qK⟩ := q; exact ⟨q0, qP, va_K.moved (u := U) (U := U.calling g mk a) (Vm.Alike.refl U.vm) qK⟩, va_recv hKc hPc (ci := 7) (q0 := 0) rfl rfl, fun U hU hW => ⟨rfl, by rw [hU]; exact hPc, va_K.moved hW.alike hKc⟩⟩ rfl rfl hl.1 rfl (lv_room (Nat.le_of_ble_eq_true rfl)) dX8_steps_14 ⟨Nat.le_of_ble_eq_true rfl, Nat.le_of_ble_eq_true rfl⟩) (fun r_7 hw_6 => ?_)
    subst hw_6
    refine lv_istore_n (lv' := [(3, .int (nI (abv (M k) 0))), (0, .ref q), (1, .int (nI k)), (2, .int (nI x))]) hx hb dX8_steps_17 rfl hl (by decide) rfl (fun ls hl => ?_)
    refine lv_aload_n hx hb dX8_steps_18 rfl (lv_at hl 1 rfl) ?_
    refine lv_iload_n hx hb dX8_steps_19 rfl (lv_at hl 2 rfl) ?_
    refine lv_sipush (v := nI 4095) hx hb dX8_steps_20 (by decide +kernel) ?_
    refine lv_cvi ((rfl : nI 4095 = dm 4096)) ?_
    have hPc := hP.sub (ws' := [(q, .inr (7, [.ref mq, .ref zq, .ref sq, .ref bq, .ref cq, .long sm, .ref pq, .int ps, .int th'_4])), (mq, .inl (cZ, 12288, .inl fM)), (zq, .inl (cI, 3, .inl fS)), (sq, .inl (cI, 6156, .inl fP)), (bq, .inl (cI, 3, .inl fB)), (cq, .inl (cJ, 64, .inr (.inl fC))), (pq, .inl (cI, 8, .inl fT))]) [0, 1, 2, 3, 4, 5, 6] rfl
    have hKc := hK.sub (tys' := [(cZ, .boolean), (cI, .int), (cJ, .long)]) [0, 1, 2] rfl
    refine vp_callSi (W.runV (As := [.int (nI k), .int (dm 4096)]) (rest := []) ⟨hx, hb, hml, hown, hts⟩ (c_X8_below l dC dI q mq zq sq bq cq pq cZ cI cJ fM fS fP fB fC sm fT ps th'_4 M k 4096 (by first | assumption | omega) (by first | assumption | omega) (by first | assumption | omega)) (cwV 2 hts gX8_steps_X8_below rfl rfl rfl (by decide +kernel) ⟨Nat.le_of_ble_eq_true rfl, Nat.le_of_ble_eq_true rfl⟩) ⟨fun a U g mk q => by obtain ⟨q0, qP, qK⟩ := q; exact ⟨q0, qP, va_K.moved (u := U) (U := U.calling g mk a) (Vm.Alike.refl U.vm) qK⟩, va_recv hKc hPc (ci := 7) (q0 := 0) rfl rfl, fun U hU hW => ⟨rfl, by rw [hU]; exact hPc, va_K.moved hW.alike hKc⟩⟩ rfl rfl hl.1 rfl (lv_room (Nat.le_of_ble_eq_true rfl)) dX8_steps_23 ⟨Nat.le_of_ble_eq_true rfl, Nat.le_of_ble_eq_true rfl⟩) (fun r_9 hw_8 => ?_)
    subst hw_8
    rcases hg9 : lst1 (M k) 4096 with _ | g9
    · refine lv_cvi ((rfl : oI none = -1)) ?_
      refine lv_istore (lv' := [(4, .int (-1)), (3, .int (nI (abv (M k) 0))), (0, .ref q), (1, .int (nI k)), (2, .int (nI x))]) hx hb dX8_steps_26 hl (by decide) rfl (fun ls hl => ?_)
      refine lv_iload_n hx hb dX8_steps_28 rfl (lv_at hl 4 rfl) ?_
      refine lv_iload hx hb dX8_steps_29 (lv_at hl 0 rfl) ?_
      refine lv_icmp_ge (tgt := 39) hx hb dX8_steps_31 (by decide) (fun qc_10 => ?_) (fun qc_10 => ?_)
      · refine lv_iconst (v := nI 1) hx hb dX8_steps_39 (by decide +kernel) ?_
        have hP9 := hP.sub (ws' := [(q, .inr (7, [.ref mq, .ref zq, .ref sq, .ref bq, .ref cq, .long sm, .ref pq, .int ps, .int th'_4])), (mq, .inl (cZ, 12288, .inl fM)), (zq, .inl (cI, 3, .inl fS)), (sq, .inl (cI, 6156, .inl fP)), (bq, .inl (cI, 3, .inl fB)), (cq, .inl (cJ, 64, .inr (.inl fC))), (pq, .inl (cI, 8, .inl fT))]) [0, 1, 2, 3, 4, 5, 6] rfl
        have hD9 := hD.sub (ws' := [(q, .inr (7, [.ref mq, .ref zq, .ref sq, .ref bq, .ref cq, .long sm, .ref pq, .int ps, .int th'_4])), (mq, .inl (cZ, 12288, .inl fM)), (zq, .inl (cI, 3, .inl fS)), (sq, .inl (cI, 6156, .inl fP)), (bq, .inl (cI, 3, .inl fB)), (cq, .inl (cJ, 64, .inr (.inl fC))), (pq, .inl (cI, 8, .inl fT))]) [0, 1, 2, 3, 4, 5, 6] (by decide) rfl
        have hK9 := hK.sub (tys' := [(cZ, .boolean), (cI, .int), (cJ, .long)]) [0, 1, 2] rfl
        exact W.iret (v := nI 1) hx hb hr (fun t9 ht hW => ⟨⟨nI 1, ⟨fC, sm, th'_4⟩, rfl, (show (nI 1) = nI (stp (M k) x) ∧ th'_4 = nI 0 from ⟨congrArg nI (by first | exact (stp_ge hxx hg9 (by omega)).symm | exact (stp_abv (by omega)).symm | exact (stp_0 hxx hg9).symm | exact (stp_t hxx (by omega) hg9 (by omega) hz9 (by omega)).symm | exact (stp_f1 hxx (by omega) hg9 (by omega) hz9 (by omega)).symm | exact (stp_f2 hxx (by omega) hg9 (by omega) hz9).symm | exact (stp_f2 hxx (by omega) hg9 (by omega) (lst_w0 (by assumption))).symm), hth⟩), by rw [ht]; exact hP9, va_K.moved hW.alike hK9, hD9⟩, hS.F ht⟩) hS.2.2 dX8_steps_40
      · exact absurd (m1_le (by omega)) qc_10
    · refine lv_cvi ((rfl : oI (some g9) = nI g9)) ?_
      have hb_g9 := (lst1_some hg9).1
      refine lv_istore (lv' := [(4, .int (nI g9)), (3, .int (nI (abv (M k) 0))), (0, .ref q), (1, .int (nI k)), (2, .int (nI x))]) hx hb dX8_steps_26 hl (by decide) rfl (fun ls hl => ?_)
      refine lv_iload_n hx hb dX8_steps_28 rfl (lv_at hl 4 rfl) ?_
      refine lv_iload hx hb dX8_steps_29 (lv_at hl 0 rfl) ?_
      refine lv_icmp_ge (tgt := 39) hx hb dX8_steps_31 (by decide) (fun qc_11 => ?_) (fun qc_11 => ?_)
      · have c_11 : g9 ≤ x := (nI_leI (a := g9) (b := x) (by omega) (by omega)).mp qc_11
        refine lv_iconst (v := nI 1) hx hb dX8_steps_39 (by decide +kernel) ?_
        have hP9 := hP.sub (ws' := [(q, .inr (7, [.ref mq, .ref zq, .ref sq, .ref bq, .ref cq, .long sm, .ref pq, .int ps, .int th'_4])), (mq, .inl (cZ, 12288, .inl fM)), (zq, .inl (cI, 3, .inl fS)), (sq, .inl (cI, 6156, .inl fP)), (bq, .inl (cI, 3, .inl fB)), (cq, .inl (cJ, 64, .inr (.inl fC))), (pq, .inl (cI, 8, .inl fT))]) [0, 1, 2, 3, 4, 5, 6] rfl
        have hD9 := hD.sub (ws' := [(q, .inr (7, [.ref mq, .ref zq, .ref sq, .ref bq, .ref cq, .long sm, .ref pq, .int ps, .int th'_4])), (mq, .inl (cZ, 12288, .inl fM)), (zq, .inl (cI, 3, .inl fS)), (sq, .inl (cI, 6156, .inl fP)), (bq, .inl (cI, 3, .inl fB)), (cq, .inl (cJ, 64, .inr (.inl fC))), (pq, .inl (cI, 8, .inl fT))]) [0, 1, 2, 3, 4, 5, 6] (by decide) rfl
        have hK9 := hK.sub (tys' := [(cZ, .boolean), (cI, .int), (cJ, .long)]) [0, 1, 2] rfl
        exact W.iret (v := nI 1) hx hb hr (fun t9 ht hW => ⟨⟨nI 1, ⟨fC, sm, th'_4⟩, rfl, (show (nI 1) = nI (stp (M k) x) ∧ th'_4 = nI 0 from ⟨congrArg nI (by first | exact (stp_ge hxx hg9 (by omega)).symm | exact (stp_abv (by omega)).symm | exact (stp_0 hxx hg9).symm | exact (stp_t hxx (by omega) hg9 (by omega) hz9 (by omega)).symm | exact (stp_f1 hxx (by omega) hg9 (by omega) hz9 (by omega)).symm | exact (stp_f2 hxx (by omega) hg9 (by omega) hz9).symm | exact (stp_f2 hxx (by omega) hg9 (by omega) (lst_w0 (by assumption))).symm), hth⟩), by rw [ht]; exact hP9, va_K.moved hW.alike hK9, hD9⟩, hS.F ht⟩) hS.2.2 dX8_steps_40
      · have c_11 : ¬ g9 ≤ x := fun h9 => qc_11 ((nI_leI (a := g9) (b := x) (by omega) (by omega)).mpr h9)
        refine lv_iload_n hx hb dX8_steps_34 rfl (lv_at hl 4 rfl) ?_
        refine lv_iload_n hx hb dX8_steps_35 rfl (lv_at hl 1 rfl) ?_
        refine lv_icmp_ge (tgt := 41) hx hb dX8_steps_36 (by decide) (fun qc_12 => ?_) (fun qc_12 => ?_)
        · have c_12 : (abv (M k) 0) ≤ x := (nI_leI (a := abv (M k) 0) (b := x) (by omega) (by omega)).mp qc_12
          refine lv_aload_n hx hb dX8_steps_41 rfl (lv_at hl 2 rfl) ?_
          refine lv_iload_n hx hb dX8_steps_42 rfl (lv_at hl 3 rfl) ?_
          have hPc := hP.sub (ws' := [(q, .inr (7, [.ref mq, .ref zq, .ref sq, .ref bq, .ref cq, .long sm, .ref pq, .int ps, .int th'_4])), (mq, .inl (cZ, 12288, .inl fM)), (zq, .inl (cI, 3, .inl fS)), (sq, .inl (cI, 6156, .inl fP)), (bq, .inl (cI, 3, .inl fB)), (cq, .inl (cJ, 64, .inr (.inl fC))), (pq, .inl (cI, 8, .inl fT))]) [0, 1, 2, 3, 4, 5, 6] rfl
          have hKc := hK.sub (tys' := [(cZ, .boolean), (cI, .int), (cJ, .long)]) [0, 1, 2] rfl
          have hDc := hD.sub (ws' := [(q, .inr (7, [.ref mq, .ref zq, .ref sq, .ref bq, .ref cq, .long sm, .ref pq, .int ps, .int th'_4])), (mq, .inl (cZ, 12288, .inl fM)), (zq, .inl (cI, 3, .inl fS)), (sq, .inl (cI, 6156, .inl fP)), (bq, .inl (cI, 3, .inl fB)), (cq, .inl (cJ, 64, .inr (.inl fC))), (pq, .inl (cI, 8, .inl fT))]) [0, 1, 2, 3, 4, 5, 6] (by decide) rfl
          have hFc := va_free (wc := [(q, .inr (7, [.ref mq, .ref zq, .ref sq, .ref bq, .ref cq, .long sm, .ref pq, .int ps, .int th'_4])), (mq, .inl (cZ, 12288, .inl fM)), (zq, .inl (cI, 3, .inl fS)), (sq, .inl (cI, 6156, .inl fP)), (bq, .inl (cI, 3, .inl fB)), (cq, .inl (cJ, 64, .inr (.inl fC))), (pq, .inl (cI, 8, .inl fT))]) hD hS hA [0, 1, 2, 3, 4, 5, 6] rfl
          refine va_callv (va_runV (As := [.int (nI k)]) (rest := []) ⟨hx, hb, hml, hown, hts⟩ (c_X8_grows l dC dI q mq zq sq bq cq pq cZ cI cJ fM fS fP fB fC sm fT ps th'_4 M k H.size (by first | assumption | omega) (by first | assumption | omega)) (cwV 1 hts gX8_steps_X8_grows rfl rfl rfl (by decide +kernel) ⟨Nat.le_of_ble_eq_true rfl, Nat.le_of_ble_eq_true rfl⟩) ⟨fun a U g mk q => by obtain ⟨q0, q1, qP, qK, qD⟩ := q; exact ⟨q0, q1, qP, va_K.moved (u := U) (U := U.calling g mk a) (Vm.Alike.refl U.vm) qK, qD⟩, va_recv hKc hPc (ci := 7) (q0 := 0) rfl rfl, fun U hU hW => ⟨rfl, by rw [hU], by rw [hU]; exact hPc, va_K.moved hW.alike hKc, hDc.weaken (fun _ _ _ _ => trivial)⟩⟩ rfl rfl hl.1 rfl (lv_room (Nat.le_of_ble_eq_true rfl)) dX8_steps_43 ⟨Nat.le_of_ble_eq_true rfl, Nat.le_of_ble_eq_true rfl⟩) hS (fun q _ h => hFc q h) hFc (fun u_14 t9 H1 locs ht hvm hw_13 hB hz1 hk1 hS => ?_)
          obtain ⟨fC'_16, sm'_17⟩ := u_14
          obtain ⟨hP1, hK1, hD1⟩ := hB
          rw [ht] at hP1
          have hK1 := va_K.moved hvm.symm hK1
          try dsimp only at hw_13 hP1 hK1 hD1
          obtain ⟨hP, hD⟩ := va_join (wr := []) (w1 := [(q, .inr (7, [.ref mq, .ref zq, .ref sq, .ref bq, .ref cq, .long sm'_17, .ref pq, .int ps, .int th'_4])), (mq, .inl (cZ, 12288, .inl fM)), (zq, .inl (cI, 3, .inl fS)), (sq, .inl (cI, 6156, .inl fP)), (bq, .inl (cI, 3, .inl fB)), (cq, .inl (cJ, 64, .inr (.inl fC'_16))), (pq, .inl (cI, 8, .inl fT))]) hP hD [0, 1, 2, 3, 4, 5, 6] [] rfl rfl (by decide) (by decide) hk1 hFc hP1 hD1
          generalize H1 = H at hP hS ⊢
          have hP : va_P (dC, dI) vwCl [(q, .inr (7, [.ref mq, .ref zq, .ref sq, .ref bq, .ref cq, .long sm'_17, .ref pq, .int ps, .int th'_4])), (mq, .inl (cZ, 12288, .inl fM)), (zq, .inl (cI, 3, .inl fS)), (sq, .inl (cI, 6156, .inl fP)), (bq, .inl (cI, 3, .inl fB)), (cq, .inl (cJ, 64, .inr (.inl fC'_16))), (pq, .inl (cI, 8, .inl fT))] H := hP
          have hD : va_D A [(q, .inr (7, [.ref mq, .ref zq, .ref sq, .ref bq, .ref cq, .long sm'_17, .ref pq, .int ps, .int th'_4])), (mq, .inl (cZ, 12288, .inl fM)), (zq, .inl (cI, 3, .inl fS)), (sq, .inl (cI, 6156, .inl fP)), (bq, .inl (cI, 3, .inl fB)), (cq, .inl (cJ, 64, .inr (.inl fC'_16))), (pq, .inl (cI, 8, .inl fT))] := hD
          have hgw := hw_13
          have hsq : x / 64 < 64 := by omega
          refine lv_iload_n hx hb dX8_steps_46 rfl (lv_at hl 4 rfl) ?_
          refine lv_bipush (v := nI 64) hx hb dX8_steps_47 (by decide +kernel) ?_
          refine lv_idiv hx hb dX8_steps_49 (by decide +kernel) ?_
          refine lv_cvi (pk_div (by omega) (by decide) (by decide)) ?_
          refine lv_istore (lv' := [(5, .int (nI (x / 64))), (4, .int (nI g9)), (3, .int (nI (abv (M k) 0))), (0, .ref q), (1, .int (nI k)), (2, .int (nI x))]) hx hb dX8_steps_50 hl (by decide) rfl (fun ls hl => ?_)
          refine lv_iload_n hx hb dX8_steps_52 rfl (lv_at hl 5 rfl) ?_
          refine lv_bipush (v := nI 64) hx hb dX8_steps_53 (by decide +kernel) ?_
          refine lv_irem hx hb dX8_steps_55 (by decide +kernel) ?_
          refine lv_cvi (pk_rem (by omega) (by decide) (by decide)) ?_
          refine lv_istore (lv' := [(6, .int (nI (x % 64))), (5, .int (nI (x / 64))), (4, .int (nI g9)), (3, .int (nI (abv (M k) 0))), (0, .ref q), (1, .int (nI k)), (2, .int (nI x))]) hx hb dX8_steps_56 hl (by decide) rfl (fun ls hl => ?_)
          refine lv_aload_n hx hb dX8_steps_58 rfl (lv_at hl 4 rfl) ?_
          refine va_get (D := (dC, dI)) (ci := 7) (v := .ref cq) (C := RX8) (T := TX8) (N := 9) hx hb hts (by decide +kernel) hown hK hP 0 rfl rfl 4 (by decide) (hts (.fieldLink RX8 23 "SmallNumberSetsModel" "cluster" "[J") (by decide +kernel)) (fun _ h9 => h9) rfl dX8_steps_59 ?_
          refine lv_iload hx hb dX8_steps_62 (lv_at hl 1 rfl) ?_
          refine va_lald hx hb hK hP 5 2 rfl rfl (vp_in_nI (by omega) (by omega)) dX8_steps_64 ?_
          refine lv_cvl (congrArg fC'_16 (nI_clamp (by omega))) ?_
          refine lv_cvl (hgw.1 _ (by omega)) ?_
          refine lv_lconst (v := 0) hx hb dX8_steps_65 (by decide +kernel) ?_
          refine W.lcmp hx hb dX8_steps_66 ?_
          refine lv_if_eq (tgt := 89) hx hb dX8_steps_67 (by decide) (fun qc_18 => ?_) (fun qc_18 => ?_)
          · have c_18 : clw (M k) (x / 64) = (0 : Int64) := (lg_cmp_eq _ _).mp qc_18
            refine lv_iconst (v := nI 0) hx hb dX8_steps_89 (by decide +kernel) ?_
            refine lv_istore (lv' := [(7, .int (nI 0)), (6, .int (nI (x % 64))), (5, .int (nI (x / 64))), (4, .int (nI g9)), (3, .int (nI (abv (M k) 0))), (0, .ref q), (1, .int (nI k)), (2, .int (nI x))]) hx hb dX8_steps_90 hl (by decide) rfl (fun ls hl => ?_)
            refine lv_iconst (v := nI 1) hx hb dX8_steps_92 (by decide +kernel) ?_
            refine lv_iload hx hb dX8_steps_93 (lv_at hl 0 rfl) ?_
            refine lv_if_eq (tgt := 114) hx hb dX8_steps_95 (by decide) (fun qc_19 => ?_) (fun qc_19 => ?_)
            · have c_19 : 0 = 0 := (nI_eq (a := 0) (b := 0) (by omega) (by omega)).mp qc_19
              refine lv_aload_n hx hb dX8_steps_114 rfl (lv_at hl 5 rfl) ?_
              refine lv_aload_n hx hb dX8_steps_115 rfl (lv_at hl 5 rfl) ?_
              refine va_get (D := (dC, dI)) (ci := 7) (v := .long sm'_17) (C := RX8) (T := TX8) (N := 9) hx hb hts (by decide +kernel) hown hK hP 0 rfl rfl 5 (by decide) (hts (.fieldLink RX8 95 "SmallNumberSetsModel" "summary" "J") (by decide +kernel)) (fun _ h9 => h9) rfl dX8_steps_116 ?_
              refine lv_cvl (hgw.2) ?_
              refine lv_iload hx hb dX8_steps_119 (lv_at hl 2 rfl) ?_
              have hPc := hP.sub (ws' := [(q, .inr (7, [.ref mq, .ref zq, .ref sq, .ref bq, .ref cq, .long sm'_17, .ref pq, .int ps, .int th'_4])), (mq, .inl (cZ, 12288, .inl fM)), (zq, .inl (cI, 3, .inl fS)), (sq, .inl (cI, 6156, .inl fP)), (bq, .inl (cI, 3, .inl fB)), (cq, .inl (cJ, 64, .inr (.inl fC'_16))), (pq, .inl (cI, 8, .inl fT))]) [0, 1, 2, 3, 4, 5, 6] rfl
              have hKc := hK.sub (tys' := [(cZ, .boolean), (cI, .int), (cJ, .long)]) [0, 1, 2] rfl
              refine vp_callSi (W.runV (As := [.long (smw (M k)), .int (nI (x / 64))]) (rest := [.int (nI 1)]) ⟨hx, hb, hml, hown, hts⟩ (c_X8_stepsIn l dC dI q mq zq sq bq cq pq cZ cI cJ fM fS fP fB fC'_16 sm'_17 fT ps th'_4 (smw (M k)) (x / 64) (by first | assumption | omega)) (cwV 2 hts gX8_steps_X8_stepsIn rfl rfl rfl (by decide +kernel) ⟨Nat.le_of_ble_eq_true rfl, Nat.le_of_ble_eq_true rfl⟩) ⟨fun a U g mk q => by obtain ⟨q0, qP, qK⟩ := q; exact ⟨q0, qP, va_K.moved (u := U) (U := U.calling g mk a) (Vm.Alike.refl U.vm) qK⟩, va_recv hKc hPc (ci := 7) (q0 := 0) rfl rfl, fun U hU hW => ⟨rfl, by rw [hU]; exact hPc, va_K.moved hW.alike hKc⟩⟩ rfl rfl hl.1 rfl (lv_room (Nat.le_of_ble_eq_true rfl)) dX8_steps_121 ⟨Nat.le_of_ble_eq_true rfl, Nat.le_of_ble_eq_true rfl⟩) (fun r_21 hw_20 => ?_)
              subst hw_20
              refine lv_iadd hx hb dX8_steps_124 ?_
              refine lv_cvi (nI_add _ _) ?_
              have hP9 := hP.sub (ws' := [(q, .inr (7, [.ref mq, .ref zq, .ref sq, .ref bq, .ref cq, .long sm'_17, .ref pq, .int ps, .int th'_4])), (mq, .inl (cZ, 12288, .inl fM)), (zq, .inl (cI, 3, .inl fS)), (sq, .inl (cI, 6156, .inl fP)), (bq, .inl (cI, 3, .inl fB)), (cq, .inl (cJ, 64, .inr (.inl fC'_16))), (pq, .inl (cI, 8, .inl fT))]) [0, 1, 2, 3, 4, 5, 6] rfl
              have hD9 := hD.sub (ws' := [(q, .inr (7, [.ref mq, .ref zq, .ref sq, .ref bq, .ref cq, .long sm'_17, .ref pq, .int ps, .int th'_4])), (mq, .inl (cZ, 12288, .inl fM)), (zq, .inl (cI, 3, .inl fS)), (sq, .inl (cI, 6156, .inl fP)), (bq, .inl (cI, 3, .inl fB)), (cq, .inl (cJ, 64, .inr (.inl fC'_16))), (pq, .inl (cI, 8, .inl fT))]) [0, 1, 2, 3, 4, 5, 6] (by decide) rfl
              have hK9 := hK.sub (tys' := [(cZ, .boolean), (cI, .int), (cJ, .long)]) [0, 1, 2] rfl
              exact W.iret (v := nI (1 + (slen (gb (smw (M k))) (x / 64) 64))) hx hb hr (fun t9 ht hW => ⟨⟨nI (1 + (slen (gb (smw (M k))) (x / 64) 64)), ⟨fC'_16, sm'_17, th'_4⟩, rfl, (show (nI (1 + (slen (gb (smw (M k))) (x / 64) 64))) = nI (stp (M k) x) ∧ th'_4 = nI 0 from ⟨congrArg nI (by first | exact (stp_ge hxx hg9 (by omega)).symm | exact (stp_abv (by omega)).symm | exact (stp_0 hxx hg9).symm | exact (stp_t hxx (by omega) hg9 (by omega) hz9 (by omega)).symm | exact (stp_f1 hxx (by omega) hg9 (by omega) hz9 (by omega)).symm | exact (stp_f2 hxx (by omega) hg9 (by omega) hz9).symm | exact (stp_f2 hxx (by omega) hg9 (by omega) (lst_w0 (by assumption))).symm), hth⟩), by rw [ht]; exact hP9, va_K.moved hW.alike hK9, hD9⟩, hS.F ht⟩) hS.2.2 dX8_steps_125
            · have c_19 : ¬ 0 = 0 := fun h9 => qc_19 ((nI_eq (a := 0) (b := 0) (by omega) (by omega)).mpr h9)
              exact absurd c_19 (by decide)
          · have c_18 : ¬ (clw (M k) (x / 64) = (0 : Int64)) := fun h9 => qc_18 ((lg_cmp_eq _ _).mpr h9)
            refine lv_iload hx hb dX8_steps_70 (lv_at hl 0 rfl) ?_
            refine lv_aload_n hx hb dX8_steps_72 rfl (lv_at hl 4 rfl) ?_
            refine va_get (D := (dC, dI)) (ci := 7) (v := .ref cq) (C := RX8) (T := TX8) (N := 9) hx hb hts (by decide +kernel) hown hK hP 0 rfl rfl 4 (by decide) (hts (.fieldLink RX8 23 "SmallNumberSetsModel" "cluster" "[J") (by decide +kernel)) (fun _ h9 => h9) rfl dX8_steps_73 ?_
            refine lv_iload hx hb dX8_steps_76 (lv_at hl 1 rfl) ?_
            refine va_lald hx hb hK hP 5 2 rfl rfl (vp_in_nI (by omega) (by omega)) dX8_steps_78 ?_
            refine lv_cvl (congrArg fC'_16 (nI_clamp (by omega))) ?_
            refine lv_cvl (hgw.1 _ (by omega)) ?_
            have hPc := hP.sub (ws' := []) [] rfl
            have hKc := hK.sub (tys' := []) [] rfl
            refine vp_callSi (W.runS (As := [.long (clw (M k) (x / 64))]) (rest := [.int (nI (x % 64))]) ⟨hx, hb, hml, hown, hts⟩ (c_X8_highest l dC dI (clw (M k) (x / 64)) ) (va_cwS 1 hts gX8_steps_X8_highest rfl rfl rfl (by decide +kernel) ⟨Nat.le_of_ble_eq_true rfl, Nat.le_of_ble_eq_true rfl⟩) ⟨fun a U g mk q => by obtain ⟨q0, qP, qK⟩ := q; exact ⟨q0, qP, va_K.moved (u := U) (U := U.calling g mk a) (Vm.Alike.refl U.vm) qK⟩, fun U hU hW => ⟨rfl, by rw [hU]; exact hPc, va_K.moved hW.alike hKc⟩⟩ rfl rfl hl.1 rfl (lv_room (Nat.le_of_ble_eq_true rfl)) dX8_steps_79 ⟨Nat.le_of_ble_eq_true rfl, Nat.le_of_ble_eq_true rfl⟩) (fun r_23 hw_22 => ?_)
            subst hw_22
            rcases hz9 : lst1 (gb (clw (M k) (x / 64))) 64 with _ | z9
            · refine lv_cvi ((rfl : oI none = -1)) ?_
              refine lv_icmp_ge (tgt := 89) hx hb dX8_steps_82 (by decide) (fun qc_24 => ?_) (fun qc_24 => ?_)
              · refine lv_iconst (v := nI 0) hx hb dX8_steps_89 (by decide +kernel) ?_
                refine lv_istore (lv' := [(7, .int (nI 0)), (6, .int (nI (x % 64))), (5, .int (nI (x / 64))), (4, .int (nI g9)), (3, .int (nI (abv (M k) 0))), (0, .ref q), (1, .int (nI k)), (2, .int (nI x))]) hx hb dX8_steps_90 hl (by decide) rfl (fun ls hl => ?_)
                refine lv_iconst (v := nI 1) hx hb dX8_steps_92 (by decide +kernel) ?_
                refine lv_iload hx hb dX8_steps_93 (lv_at hl 0 rfl) ?_
                refine lv_if_eq (tgt := 114) hx hb dX8_steps_95 (by decide) (fun qc_25 => ?_) (fun qc_25 => ?_)
                · have c_25 : 0 = 0 := (nI_eq (a := 0) (b := 0) (by omega) (by omega)).mp qc_25
                  refine lv_aload_n hx hb dX8_steps_114 rfl (lv_at hl 5 rfl) ?_
                  refine lv_aload_n hx hb dX8_steps_115 rfl (lv_at hl 5 rfl) ?_
                  refine va_get (D := (dC, dI)) (ci := 7) (v := .long sm'_17) (C := RX8) (T := TX8) (N := 9) hx hb hts (by decide +kernel) hown hK hP 0 rfl rfl 5 (by decide) (hts (.fieldLink RX8 95 "SmallNumberSetsModel" "summary" "J") (by decide +kernel)) (fun _ h9 => h9) rfl dX8_steps_116 ?_
                  refine lv_cvl (hgw.2) ?_
                  refine lv_iload hx hb dX8_steps_119 (lv_at hl 2 rfl) ?_
                  have hPc := hP.sub (ws' := [(q, .inr (7, [.ref mq, .ref zq, .ref sq, .ref bq, .ref cq, .long sm'_17, .ref pq, .int ps, .int th'_4])), (mq, .inl (cZ, 12288, .inl fM)), (zq, .inl (cI, 3, .inl fS)), (sq, .inl (cI, 6156, .inl fP)), (bq, .inl (cI, 3, .inl fB)), (cq, .inl (cJ, 64, .inr (.inl fC'_16))), (pq, .inl (cI, 8, .inl fT))]) [0, 1, 2, 3, 4, 5, 6] rfl
                  have hKc := hK.sub (tys' := [(cZ, .boolean), (cI, .int), (cJ, .long)]) [0, 1, 2] rfl
                  refine vp_callSi (W.runV (As := [.long (smw (M k)), .int (nI (x / 64))]) (rest := [.int (nI 1)]) ⟨hx, hb, hml, hown, hts⟩ (c_X8_stepsIn l dC dI q mq zq sq bq cq pq cZ cI cJ fM fS fP fB fC'_16 sm'_17 fT ps th'_4 (smw (M k)) (x / 64) (by first | assumption | omega)) (cwV 2 hts gX8_steps_X8_stepsIn rfl rfl rfl (by decide +kernel) ⟨Nat.le_of_ble_eq_true rfl, Nat.le_of_ble_eq_true rfl⟩) ⟨fun a U g mk q => by obtain ⟨q0, qP, qK⟩ := q; exact ⟨q0, qP, va_K.moved (u := U) (U := U.calling g mk a) (Vm.Alike.refl U.vm) qK⟩, va_recv hKc hPc (ci := 7) (q0 := 0) rfl rfl, fun U hU hW => ⟨rfl, by rw [hU]; exact hPc, va_K.moved hW.alike hKc⟩⟩ rfl rfl hl.1 rfl (lv_room (Nat.le_of_ble_eq_true rfl)) dX8_steps_121 ⟨Nat.le_of_ble_eq_true rfl, Nat.le_of_ble_eq_true rfl⟩) (fun r_27 hw_26 => ?_)
                  subst hw_26
                  refine lv_iadd hx hb dX8_steps_124 ?_
                  refine lv_cvi (nI_add _ _) ?_
                  have hP9 := hP.sub (ws' := [(q, .inr (7, [.ref mq, .ref zq, .ref sq, .ref bq, .ref cq, .long sm'_17, .ref pq, .int ps, .int th'_4])), (mq, .inl (cZ, 12288, .inl fM)), (zq, .inl (cI, 3, .inl fS)), (sq, .inl (cI, 6156, .inl fP)), (bq, .inl (cI, 3, .inl fB)), (cq, .inl (cJ, 64, .inr (.inl fC'_16))), (pq, .inl (cI, 8, .inl fT))]) [0, 1, 2, 3, 4, 5, 6] rfl
                  have hD9 := hD.sub (ws' := [(q, .inr (7, [.ref mq, .ref zq, .ref sq, .ref bq, .ref cq, .long sm'_17, .ref pq, .int ps, .int th'_4])), (mq, .inl (cZ, 12288, .inl fM)), (zq, .inl (cI, 3, .inl fS)), (sq, .inl (cI, 6156, .inl fP)), (bq, .inl (cI, 3, .inl fB)), (cq, .inl (cJ, 64, .inr (.inl fC'_16))), (pq, .inl (cI, 8, .inl fT))]) [0, 1, 2, 3, 4, 5, 6] (by decide) rfl
                  have hK9 := hK.sub (tys' := [(cZ, .boolean), (cI, .int), (cJ, .long)]) [0, 1, 2] rfl
                  exact W.iret (v := nI (1 + (slen (gb (smw (M k))) (x / 64) 64))) hx hb hr (fun t9 ht hW => ⟨⟨nI (1 + (slen (gb (smw (M k))) (x / 64) 64)), ⟨fC'_16, sm'_17, th'_4⟩, rfl, (show (nI (1 + (slen (gb (smw (M k))) (x / 64) 64))) = nI (stp (M k) x) ∧ th'_4 = nI 0 from ⟨congrArg nI (by first | exact (stp_ge hxx hg9 (by omega)).symm | exact (stp_abv (by omega)).symm | exact (stp_0 hxx hg9).symm | exact (stp_t hxx (by omega) hg9 (by omega) hz9 (by omega)).symm | exact (stp_f1 hxx (by omega) hg9 (by omega) hz9 (by omega)).symm | exact (stp_f2 hxx (by omega) hg9 (by omega) hz9).symm | exact (stp_f2 hxx (by omega) hg9 (by omega) (lst_w0 (by assumption))).symm), hth⟩), by rw [ht]; exact hP9, va_K.moved hW.alike hK9, hD9⟩, hS.F ht⟩) hS.2.2 dX8_steps_125
                · have c_25 : ¬ 0 = 0 := fun h9 => qc_25 ((nI_eq (a := 0) (b := 0) (by omega) (by omega)).mpr h9)
                  exact absurd c_25 (by decide)
              · exact absurd (m1_le (by omega)) qc_24
            · refine lv_cvi ((rfl : oI (some z9) = nI z9)) ?_
              have hb_z9 := (lst1_some hz9).1
              refine lv_icmp_ge (tgt := 89) hx hb dX8_steps_82 (by decide) (fun qc_28 => ?_) (fun qc_28 => ?_)
              · have c_28 : z9 ≤ (x % 64) := (nI_leI (a := z9) (b := x % 64) (by omega) (by omega)).mp qc_28
                refine lv_iconst (v := nI 0) hx hb dX8_steps_89 (by decide +kernel) ?_
                refine lv_istore (lv' := [(7, .int (nI 0)), (6, .int (nI (x % 64))), (5, .int (nI (x / 64))), (4, .int (nI g9)), (3, .int (nI (abv (M k) 0))), (0, .ref q), (1, .int (nI k)), (2, .int (nI x))]) hx hb dX8_steps_90 hl (by decide) rfl (fun ls hl => ?_)
                refine lv_iconst (v := nI 1) hx hb dX8_steps_92 (by decide +kernel) ?_
                refine lv_iload hx hb dX8_steps_93 (lv_at hl 0 rfl) ?_
                refine lv_if_eq (tgt := 114) hx hb dX8_steps_95 (by decide) (fun qc_29 => ?_) (fun qc_29 => ?_)
                · have c_29 : 0 = 0 := (nI_eq (a := 0) (b := 0) (by omega) (by omega)).mp qc_29
                  refine lv_aload_n hx hb dX8_steps_114 rfl (lv_at hl 5 rfl) ?_
                  refine lv_aload_n hx hb dX8_steps_115 rfl (lv_at hl 5 rfl) ?_
                  refine va_get (D := (dC, dI)) (ci := 7) (v := .long sm'_17) (C := RX8) (T := TX8) (N := 9) hx hb hts (by decide +kernel) hown hK hP 0 rfl rfl 5 (by decide) (hts (.fieldLink RX8 95 "SmallNumberSetsModel" "summary" "J") (by decide +kernel)) (fun _ h9 => h9) rfl dX8_steps_116 ?_
                  refine lv_cvl (hgw.2) ?_
                  refine lv_iload hx hb dX8_steps_119 (lv_at hl 2 rfl) ?_
                  have hPc := hP.sub (ws' := [(q, .inr (7, [.ref mq, .ref zq, .ref sq, .ref bq, .ref cq, .long sm'_17, .ref pq, .int ps, .int th'_4])), (mq, .inl (cZ, 12288, .inl fM)), (zq, .inl (cI, 3, .inl fS)), (sq, .inl (cI, 6156, .inl fP)), (bq, .inl (cI, 3, .inl fB)), (cq, .inl (cJ, 64, .inr (.inl fC'_16))), (pq, .inl (cI, 8, .inl fT))]) [0, 1, 2, 3, 4, 5, 6] rfl
                  have hKc := hK.sub (tys' := [(cZ, .boolean), (cI, .int), (cJ, .long)]) [0, 1, 2] rfl
                  refine vp_callSi (W.runV (As := [.long (smw (M k)), .int (nI (x / 64))]) (rest := [.int (nI 1)]) ⟨hx, hb, hml, hown, hts⟩ (c_X8_stepsIn l dC dI q mq zq sq bq cq pq cZ cI cJ fM fS fP fB fC'_16 sm'_17 fT ps th'_4 (smw (M k)) (x / 64) (by first | assumption | omega)) (cwV 2 hts gX8_steps_X8_stepsIn rfl rfl rfl (by decide +kernel) ⟨Nat.le_of_ble_eq_true rfl, Nat.le_of_ble_eq_true rfl⟩) ⟨fun a U g mk q => by obtain ⟨q0, qP, qK⟩ := q; exact ⟨q0, qP, va_K.moved (u := U) (U := U.calling g mk a) (Vm.Alike.refl U.vm) qK⟩, va_recv hKc hPc (ci := 7) (q0 := 0) rfl rfl, fun U hU hW => ⟨rfl, by rw [hU]; exact hPc, va_K.moved hW.alike hKc⟩⟩ rfl rfl hl.1 rfl (lv_room (Nat.le_of_ble_eq_true rfl)) dX8_steps_121 ⟨Nat.le_of_ble_eq_true rfl, Nat.le_of_ble_eq_true rfl⟩) (fun r_31 hw_30 => ?_)
                  subst hw_30
                  refine lv_iadd hx hb dX8_steps_124 ?_
                  refine lv_cvi (nI_add _ _) ?_
                  have hP9 := hP.sub (ws' := [(q, .inr (7, [.ref mq, .ref zq, .ref sq, .ref bq, .ref cq, .long sm'_17, .ref pq, .int ps, .int th'_4])), (mq, .inl (cZ, 12288, .inl fM)), (zq, .inl (cI, 3, .inl fS)), (sq, .inl (cI, 6156, .inl fP)), (bq, .inl (cI, 3, .inl fB)), (cq, .inl (cJ, 64, .inr (.inl fC'_16))), (pq, .inl (cI, 8, .inl fT))]) [0, 1, 2, 3, 4, 5, 6] rfl
                  have hD9 := hD.sub (ws' := [(q, .inr (7, [.ref mq, .ref zq, .ref sq, .ref bq, .ref cq, .long sm'_17, .ref pq, .int ps, .int th'_4])), (mq, .inl (cZ, 12288, .inl fM)), (zq, .inl (cI, 3, .inl fS)), (sq, .inl (cI, 6156, .inl fP)), (bq, .inl (cI, 3, .inl fB)), (cq, .inl (cJ, 64, .inr (.inl fC'_16))), (pq, .inl (cI, 8, .inl fT))]) [0, 1, 2, 3, 4, 5, 6] (by decide) rfl
                  have hK9 := hK.sub (tys' := [(cZ, .boolean), (cI, .int), (cJ, .long)]) [0, 1, 2] rfl
                  exact W.iret (v := nI (1 + (slen (gb (smw (M k))) (x / 64) 64))) hx hb hr (fun t9 ht hW => ⟨⟨nI (1 + (slen (gb (smw (M k))) (x / 64) 64)), ⟨fC'_16, sm'_17, th'_4⟩, rfl, (show (nI (1 + (slen (gb (smw (M k))) (x / 64) 64))) = nI (stp (M k) x) ∧ th'_4 = nI 0 from ⟨congrArg nI (by first | exact (stp_ge hxx hg9 (by omega)).symm | exact (stp_abv (by omega)).symm | exact (stp_0 hxx hg9).symm | exact (stp_t hxx (by omega) hg9 (by omega) hz9 (by omega)).symm | exact (stp_f1 hxx (by omega) hg9 (by omega) hz9 (by omega)).symm | exact (stp_f2 hxx (by omega) hg9 (by omega) hz9).symm | exact (stp_f2 hxx (by omega) hg9 (by omega) (lst_w0 (by assumption))).symm), hth⟩), by rw [ht]; exact hP9, va_K.moved hW.alike hK9, hD9⟩, hS.F ht⟩) hS.2.2 dX8_steps_125
                · have c_29 : ¬ 0 = 0 := fun h9 => qc_29 ((nI_eq (a := 0) (b := 0) (by omega) (by omega)).mpr h9)
                  exact absurd c_29 (by decide)
              · have c_28 : ¬ z9 ≤ (x % 64) := fun h9 => qc_28 ((nI_leI (a := z9) (b := x % 64) (by omega) (by omega)).mpr h9)
                refine lv_iconst (v := nI 1) hx hb dX8_steps_85 (by decide +kernel) ?_
                refine lv_goto (tgt := 90) hx hb dX8_steps_86 (by decide) ?_
                refine lv_istore (lv' := [(7, .int (nI 1)), (6, .int (nI (x % 64))), (5, .int (nI (x / 64))), (4, .int (nI g9)), (3, .int (nI (abv (M k) 0))), (0, .ref q), (1, .int (nI k)), (2, .int (nI x))]) hx hb dX8_steps_90 hl (by decide) rfl (fun ls hl => ?_)
                refine lv_iconst (v := nI 1) hx hb dX8_steps_92 (by decide +kernel) ?_
                refine lv_iload hx hb dX8_steps_93 (lv_at hl 0 rfl) ?_
                refine lv_if_eq (tgt := 114) hx hb dX8_steps_95 (by decide) (fun qc_32 => ?_) (fun qc_32 => ?_)
                · have c_32 : 1 = 0 := (nI_eq (a := 1) (b := 0) (by omega) (by omega)).mp qc_32
                  exact absurd c_32 (by decide)
                · have c_32 : ¬ 1 = 0 := fun h9 => qc_32 ((nI_eq (a := 1) (b := 0) (by omega) (by omega)).mpr h9)
                  refine lv_aload_n hx hb dX8_steps_98 rfl (lv_at hl 5 rfl) ?_
                  refine lv_aload_n hx hb dX8_steps_99 rfl (lv_at hl 5 rfl) ?_
                  refine va_get (D := (dC, dI)) (ci := 7) (v := .ref cq) (C := RX8) (T := TX8) (N := 9) hx hb hts (by decide +kernel) hown hK hP 0 rfl rfl 4 (by decide) (hts (.fieldLink RX8 23 "SmallNumberSetsModel" "cluster" "[J") (by decide +kernel)) (fun _ h9 => h9) rfl dX8_steps_100 ?_
                  refine lv_iload hx hb dX8_steps_103 (lv_at hl 2 rfl) ?_
                  refine va_lald hx hb hK hP 5 2 rfl rfl (vp_in_nI (by omega) (by omega)) dX8_steps_105 ?_
                  refine lv_cvl (congrArg fC'_16 (nI_clamp (by omega))) ?_
                  refine lv_cvl (hgw.1 _ (by omega)) ?_
                  refine lv_iload hx hb dX8_steps_106 (lv_at hl 1 rfl) ?_
                  have hPc := hP.sub (ws' := [(q, .inr (7, [.ref mq, .ref zq, .ref sq, .ref bq, .ref cq, .long sm'_17, .ref pq, .int ps, .int th'_4])), (mq, .inl (cZ, 12288, .inl fM)), (zq, .inl (cI, 3, .inl fS)), (sq, .inl (cI, 6156, .inl fP)), (bq, .inl (cI, 3, .inl fB)), (cq, .inl (cJ, 64, .inr (.inl fC'_16))), (pq, .inl (cI, 8, .inl fT))]) [0, 1, 2, 3, 4, 5, 6] rfl
                  have hKc := hK.sub (tys' := [(cZ, .boolean), (cI, .int), (cJ, .long)]) [0, 1, 2] rfl
                  refine vp_callSi (W.runV (As := [.long (clw (M k) (x / 64)), .int (nI (x % 64))]) (rest := [.int (nI 1)]) ⟨hx, hb, hml, hown, hts⟩ (c_X8_stepsIn l dC dI q mq zq sq bq cq pq cZ cI cJ fM fS fP fB fC'_16 sm'_17 fT ps th'_4 (clw (M k) (x / 64)) (x % 64) (by first | assumption | omega)) (cwV 2 hts gX8_steps_X8_stepsIn rfl rfl rfl (by decide +kernel) ⟨Nat.le_of_ble_eq_true rfl, Nat.le_of_ble_eq_true rfl⟩) ⟨fun a U g mk q => by obtain ⟨q0, qP, qK⟩ := q; exact ⟨q0, qP, va_K.moved (u := U) (U := U.calling g mk a) (Vm.Alike.refl U.vm) qK⟩, va_recv hKc hPc (ci := 7) (q0 := 0) rfl rfl, fun U hU hW => ⟨rfl, by rw [hU]; exact hPc, va_K.moved hW.alike hKc⟩⟩ rfl rfl hl.1 rfl (lv_room (Nat.le_of_ble_eq_true rfl)) dX8_steps_108 ⟨Nat.le_of_ble_eq_true rfl, Nat.le_of_ble_eq_true rfl⟩) (fun r_34 hw_33 => ?_)
                  subst hw_33
                  refine lv_goto (tgt := 124) hx hb dX8_steps_111 (by decide) ?_
                  refine lv_iadd hx hb dX8_steps_124 ?_
                  refine lv_cvi (nI_add _ _) ?_
                  have hP9 := hP.sub (ws' := [(q, .inr (7, [.ref mq, .ref zq, .ref sq, .ref bq, .ref cq, .long sm'_17, .ref pq, .int ps, .int th'_4])), (mq, .inl (cZ, 12288, .inl fM)), (zq, .inl (cI, 3, .inl fS)), (sq, .inl (cI, 6156, .inl fP)), (bq, .inl (cI, 3, .inl fB)), (cq, .inl (cJ, 64, .inr (.inl fC'_16))), (pq, .inl (cI, 8, .inl fT))]) [0, 1, 2, 3, 4, 5, 6] rfl
                  have hD9 := hD.sub (ws' := [(q, .inr (7, [.ref mq, .ref zq, .ref sq, .ref bq, .ref cq, .long sm'_17, .ref pq, .int ps, .int th'_4])), (mq, .inl (cZ, 12288, .inl fM)), (zq, .inl (cI, 3, .inl fS)), (sq, .inl (cI, 6156, .inl fP)), (bq, .inl (cI, 3, .inl fB)), (cq, .inl (cJ, 64, .inr (.inl fC'_16))), (pq, .inl (cI, 8, .inl fT))]) [0, 1, 2, 3, 4, 5, 6] (by decide) rfl
                  have hK9 := hK.sub (tys' := [(cZ, .boolean), (cI, .int), (cJ, .long)]) [0, 1, 2] rfl
                  exact W.iret (v := nI (1 + (slen (gb (clw (M k) (x / 64))) (x % 64) 64))) hx hb hr (fun t9 ht hW => ⟨⟨nI (1 + (slen (gb (clw (M k) (x / 64))) (x % 64) 64)), ⟨fC'_16, sm'_17, th'_4⟩, rfl, (show (nI (1 + (slen (gb (clw (M k) (x / 64))) (x % 64) 64))) = nI (stp (M k) x) ∧ th'_4 = nI 0 from ⟨congrArg nI (by first | exact (stp_ge hxx hg9 (by omega)).symm | exact (stp_abv (by omega)).symm | exact (stp_0 hxx hg9).symm | exact (stp_t hxx (by omega) hg9 (by omega) hz9 (by omega)).symm | exact (stp_f1 hxx (by omega) hg9 (by omega) hz9 (by omega)).symm | exact (stp_f2 hxx (by omega) hg9 (by omega) hz9).symm | exact (stp_f2 hxx (by omega) hg9 (by omega) (lst_w0 (by assumption))).symm), hth⟩), by rw [ht]; exact hP9, va_K.moved hW.alike hK9, hD9⟩, hS.F ht⟩) hS.2.2 dX8_steps_125
        · have c_12 : ¬ (abv (M k) 0) ≤ x := fun h9 => qc_12 ((nI_leI (a := abv (M k) 0) (b := x) (by omega) (by omega)).mpr h9)
          refine lv_iconst (v := nI 1) hx hb dX8_steps_39 (by decide +kernel) ?_
          have hP9 := hP.sub (ws' := [(q, .inr (7, [.ref mq, .ref zq, .ref sq, .ref bq, .ref cq, .long sm, .ref pq, .int ps, .int th'_4])), (mq, .inl (cZ, 12288, .inl fM)), (zq, .inl (cI, 3, .inl fS)), (sq, .inl (cI, 6156, .inl fP)), (bq, .inl (cI, 3, .inl fB)), (cq, .inl (cJ, 64, .inr (.inl fC))), (pq, .inl (cI, 8, .inl fT))]) [0, 1, 2, 3, 4, 5, 6] rfl
          have hD9 := hD.sub (ws' := [(q, .inr (7, [.ref mq, .ref zq, .ref sq, .ref bq, .ref cq, .long sm, .ref pq, .int ps, .int th'_4])), (mq, .inl (cZ, 12288, .inl fM)), (zq, .inl (cI, 3, .inl fS)), (sq, .inl (cI, 6156, .inl fP)), (bq, .inl (cI, 3, .inl fB)), (cq, .inl (cJ, 64, .inr (.inl fC))), (pq, .inl (cI, 8, .inl fT))]) [0, 1, 2, 3, 4, 5, 6] (by decide) rfl
          have hK9 := hK.sub (tys' := [(cZ, .boolean), (cI, .int), (cJ, .long)]) [0, 1, 2] rfl
          exact W.iret (v := nI 1) hx hb hr (fun t9 ht hW => ⟨⟨nI 1, ⟨fC, sm, th'_4⟩, rfl, (show (nI 1) = nI (stp (M k) x) ∧ th'_4 = nI 0 from ⟨congrArg nI (by first | exact (stp_ge hxx hg9 (by omega)).symm | exact (stp_abv (by omega)).symm | exact (stp_0 hxx hg9).symm | exact (stp_t hxx (by omega) hg9 (by omega) hz9 (by omega)).symm | exact (stp_f1 hxx (by omega) hg9 (by omega) hz9 (by omega)).symm | exact (stp_f2 hxx (by omega) hg9 (by omega) hz9).symm | exact (stp_f2 hxx (by omega) hg9 (by omega) (lst_w0 (by assumption))).symm), hth⟩), by rw [ht]; exact hP9, va_K.moved hW.alike hK9, hD9⟩, hS.F ht⟩) hS.2.2 dX8_steps_40
  · have c_5 : true = false := b2i_f qc_5
    cases c_5
set_option maxHeartbeats 4000000 in
set_option maxRecDepth 100000 in
/-- reference: c_X8_steps_s -/
theorem c_X8_steps_s (l : Launch) (dC : Nat → ClassId) (dI : Nat → Nat → Nat) (q : Nat) (mq : Nat) (zq : Nat) (sq : Nat) (bq : Nat) (cq : Nat) (pq : Nat) (cZ : ClassId) (cI : ClassId) (cJ : ClassId) (fM : Nat → Int32) (fS : Nat → Int32) (fP : Nat → Int32) (fB : Nat → Int32) (fC : Nat → Int64) (sm : Int64) (fT : Nat → Int32) (ps : Int32) (th : Int32) (v : Int32) (w0 : Int32) (sz : Nat) (hSf : isS v = false) : Met l yX8_steps wsX8_steps ({ frames := 3, cells := 0, slots := 0, locals := 64 }) (va_Pc [.ref q, .int v, .int w0] (fun U => U.heap.size = sz ∧ va_P (dC, dI) vwCl [(q, .inr (7, [.ref mq, .ref zq, .ref sq, .ref bq, .ref cq, .long sm, .ref pq, .int ps, .int th])), (mq, .inl (cZ, 12288, .inl fM)), (zq, .inl (cI, 3, .inl fS)), (sq, .inl (cI, 6156, .inl fP)), (bq, .inl (cI, 3, .inl fB)), (cq, .inl (cJ, 64, .inr (.inl fC))), (pq, .inl (cI, 8, .inl fT))] U.heap ∧ va_K (dC, dI) vwCl [(cZ, .boolean), (cI, .int), (cJ, .long)] U ∧ va_D (fun _ => True) [(q, .inr (7, [.ref mq, .ref zq, .ref sq, .ref bq, .ref cq, .long sm, .ref pq, .int ps, .int th])), (mq, .inl (cZ, 12288, .inl fM)), (zq, .inl (cI, 3, .inl fS)), (sq, .inl (cI, 6156, .inl fP)), (bq, .inl (cI, 3, .inl fB)), (cq, .inl (cJ, 64, .inr (.inl fC))), (pq, .inl (cI, 8, .inl fT))])) (va_Qi (fun (r : Int32) (u : Int32) => u = nI 1) (fun (u : Int32) (t : State) => va_P (dC, dI) vwCl [(q, .inr (7, [.ref mq, .ref zq, .ref sq, .ref bq, .ref cq, .long sm, .ref pq, .int ps, .int u])), (mq, .inl (cZ, 12288, .inl fM)), (zq, .inl (cI, 3, .inl fS)), (sq, .inl (cI, 6156, .inl fP)), (bq, .inl (cI, 3, .inl fB)), (cq, .inl (cJ, 64, .inr (.inl fC))), (pq, .inl (cI, 8, .inl fT))] t.heap ∧ va_K (dC, dI) vwCl [(cZ, .boolean), (cI, .int), (cJ, .long)] t ∧ va_D (va_A [(q, .inr (7, [.ref mq, .ref zq, .ref sq, .ref bq, .ref cq, .long sm, .ref pq, .int ps, .int th])), (mq, .inl (cZ, 12288, .inl fM)), (zq, .inl (cI, 3, .inl fS)), (sq, .inl (cI, 6156, .inl fP)), (bq, .inl (cI, 3, .inl fB)), (cq, .inl (cJ, 64, .inr (.inl fC))), (pq, .inl (cI, 8, .inl fT))] sz) [(q, .inr (7, [.ref mq, .ref zq, .ref sq, .ref bq, .ref cq, .long sm, .ref pq, .int ps, .int u])), (mq, .inl (cZ, 12288, .inl fM)), (zq, .inl (cI, 3, .inl fS)), (sq, .inl (cI, 6156, .inl fP)), (bq, .inl (cI, 3, .inl fB)), (cq, .inl (cJ, 64, .inr (.inl fC))), (pq, .inl (cI, 8, .inl fT))]) (va_A [(q, .inr (7, [.ref mq, .ref zq, .ref sq, .ref bq, .ref cq, .long sm, .ref pq, .int ps, .int th])), (mq, .inl (cZ, 12288, .inl fM)), (zq, .inl (cI, 3, .inl fS)), (sq, .inl (cI, 6156, .inl fP)), (bq, .inl (cI, 3, .inl fB)), (cq, .inl (cJ, 64, .inr (.inl fC))), (pq, .inl (cI, 8, .inl fT))] sz)) 0 0 (va_A [(q, .inr (7, [.ref mq, .ref zq, .ref sq, .ref bq, .ref cq, .long sm, .ref pq, .int ps, .int th])), (mq, .inl (cZ, 12288, .inl fM)), (zq, .inl (cI, 3, .inl fS)), (sq, .inl (cI, 6156, .inl fP)), (bq, .inl (cI, 3, .inl fB)), (cq, .inl (cJ, 64, .inr (.inl fC))), (pq, .inl (cI, 8, .inl fT))] sz) := by
  refine Met.ofW (cc := cX8_steps) (maxL := 8) (ret := (some .int)) (by decide) rfl ?_
  intro p e s m args below meth c s₁ B hml hv
  obtain ⟨rfl, hsz, hP, hK, hD0⟩ := hv
  have hx := B.exec
  have hb := B.bytes
  have hr := B.returns
  have hts := atoms_spec (ws := wsX8_steps) B.pre
  have hown : s.vm.findClass RX8 = some m.cls := findClass_of_methodNamed B.named
  have hlocks := B.notSynchronized
  subst hsz
  have hD := hD0.self (sz := s.heap.size)
  generalize hAe : va_A [(q, .inr (7, [.ref mq, .ref zq, .ref sq, .ref bq, .ref cq, .long sm, .ref pq, .int ps, .int th])), (mq, .inl (cZ, 12288, .inl fM)), (zq, .inl (cI, 3, .inl fS)), (sq, .inl (cI, 6156, .inl fP)), (bq, .inl (cI, 3, .inl fB)), (cq, .inl (cJ, 64, .inr (.inl fC))), (pq, .inl (cI, 8, .inl fT))] s.heap.size = A at hD ⊢
  have hA : ∀ q : Nat, s.heap.size ≤ q → A q := fun q h => by rw [← hAe]; exact Or.inr h
  have hS : va_S A s.heap s.heap [] := va_S.rf
  have hP : va_P (dC, dI) vwCl [(q, .inr (7, [.ref mq, .ref zq, .ref sq, .ref bq, .ref cq, .long sm, .ref pq, .int ps, .int th])), (mq, .inl (cZ, 12288, .inl fM)), (zq, .inl (cI, 3, .inl fS)), (sq, .inl (cI, 6156, .inl fP)), (bq, .inl (cI, 3, .inl fB)), (cq, .inl (cJ, 64, .inr (.inl fC))), (pq, .inl (cI, 8, .inl fT))] s.heap := hP
  have hl := lv_entry ([.ref q, .int v, .int w0]) (n := 8) (Nat.le_of_ble_eq_true rfl)
  rw [lg_entry_eq]
  generalize (lg_sl ([.ref q, .int v, .int w0]) ++ List.replicate (8 - (lg_sl ([.ref q, .int v, .int w0])).length) Slot.unset).toArray = ls at hl ⊢
  have hl : lv_has ls 8 [(0, .ref q), (1, .int v), (2, .int w0)] := hl
  refine lv_aload_n hx hb dX8_steps_0 rfl (lv_at hl 0 rfl) ?_
  refine lv_iload_n hx hb dX8_steps_1 rfl (lv_at hl 1 rfl) ?_
  refine lv_iload_n hx hb dX8_steps_2 rfl (lv_at hl 2 rfl) ?_
  have hPc := hP.sub (ws' := [(q, .inr (7, [.ref mq, .ref zq, .ref sq, .ref bq, .ref cq, .long sm, .ref pq, .int ps, .int th])), (mq, .inl (cZ, 12288, .inl fM)), (zq, .inl (cI, 3, .inl fS)), (sq, .inl (cI, 6156, .inl fP)), (bq, .inl (cI, 3, .inl fB)), (cq, .inl (cJ, 64, .inr (.inl fC))), (pq, .inl (cI, 8, .inl fT))]) [0, 1, 2, 3, 4, 5, 6] rfl
  have hKc := hK.sub (tys' := [(cZ, .boolean), (cI, .int), (cJ, .long)]) [0, 1, 2] rfl
  have hDc := hD.sub (ws' := [(q, .inr (7, [.ref mq, .ref zq, .ref sq, .ref bq, .ref cq, .long sm, .ref pq, .int ps, .int th])), (mq, .inl (cZ, 12288, .inl fM)), (zq, .inl (cI, 3, .inl fS)), (sq, .inl (cI, 6156, .inl fP)), (bq, .inl (cI, 3, .inl fB)), (cq, .inl (cJ, 64, .inr (.inl fC))), (pq, .inl (cI, 8, .inl fT))]) [0, 1, 2, 3, 4, 5, 6] (by decide) rfl
  have hFc := va_free (wc := [(q, .inr (7, [.ref mq, .ref zq, .ref sq, .ref bq, .ref cq, .long sm, .ref pq, .int ps, .int th])), (mq, .inl (cZ, 12288, .inl fM)), (zq, .inl (cI, 3, .inl fS)), (sq, .inl (cI, 6156, .inl fP)), (bq, .inl (cI, 3, .inl fB)), (cq, .inl (cJ, 64, .inr (.inl fC))), (pq, .inl (cI, 8, .inl fT))]) hD hS hA [0, 1, 2, 3, 4, 5, 6] rfl
  refine va_calli (va_runV (As := [.int v, .int w0]) (rest := []) ⟨hx, hb, hml, hown, hts⟩ (c_X8_isRight l dC dI q mq zq sq bq cq pq cZ cI cJ fM fS fP fB fC sm fT ps th v w0 s.heap.size ) (cwV 2 hts gX8_steps_X8_isRight rfl rfl rfl (by decide +kernel) ⟨Nat.le_of_ble_eq_true rfl, Nat.le_of_ble_eq_true rfl⟩) ⟨fun a U g mk q => by obtain ⟨q0, q1, qP, qK, qD⟩ := q; exact ⟨q0, q1, qP, va_K.moved (u := U) (U := U.calling g mk a) (Vm.Alike.refl U.vm) qK, qD⟩, va_recv hKc hPc (ci := 7) (q0 := 0) rfl rfl, fun U hU hW => ⟨rfl, by rw [hU], by rw [hU]; exact hPc, va_K.moved hW.alike hKc, hDc.weaken (fun _ _ _ _ => trivial)⟩⟩ rfl rfl hl.1 rfl (lv_room (Nat.le_of_ble_eq_true rfl)) dX8_steps_3 ⟨Nat.le_of_ble_eq_true rfl, Nat.le_of_ble_eq_true rfl⟩) hS (fun q _ h => hFc q h) hFc (fun r_3 u_2 t9 H1 locs ht hvm hw_1 hB hz1 hk1 hS => ?_)
  obtain ⟨th'_4, rfl⟩ : ∃ z, z = u_2 := ⟨_, rfl⟩
  obtain ⟨hP1, hK1, hD1⟩ := hB
  rw [ht] at hP1
  have hK1 := va_K.moved hvm.symm hK1
  try dsimp only at hw_1 hP1 hK1 hD1
  obtain ⟨hP, hD⟩ := va_join (wr := []) (w1 := [(q, .inr (7, [.ref mq, .ref zq, .ref sq, .ref bq, .ref cq, .long sm, .ref pq, .int ps, .int th'_4])), (mq, .inl (cZ, 12288, .inl fM)), (zq, .inl (cI, 3, .inl fS)), (sq, .inl (cI, 6156, .inl fP)), (bq, .inl (cI, 3, .inl fB)), (cq, .inl (cJ, 64, .inr (.inl fC))), (pq, .inl (cI, 8, .inl fT))]) hP hD [0, 1, 2, 3, 4, 5, 6] [] rfl rfl (by decide) (by decide) hk1 hFc hP1 hD1
  generalize H1 = H at hP hS ⊢
  have hP : va_P (dC, dI) vwCl [(q, .inr (7, [.ref mq, .ref zq, .ref sq, .ref bq, .ref cq, .long sm, .ref pq, .int ps, .int th'_4])), (mq, .inl (cZ, 12288, .inl fM)), (zq, .inl (cI, 3, .inl fS)), (sq, .inl (cI, 6156, .inl fP)), (bq, .inl (cI, 3, .inl fB)), (cq, .inl (cJ, 64, .inr (.inl fC))), (pq, .inl (cI, 8, .inl fT))] H := hP
  have hD : va_D A [(q, .inr (7, [.ref mq, .ref zq, .ref sq, .ref bq, .ref cq, .long sm, .ref pq, .int ps, .int th'_4])), (mq, .inl (cZ, 12288, .inl fM)), (zq, .inl (cI, 3, .inl fS)), (sq, .inl (cI, 6156, .inl fP)), (bq, .inl (cI, 3, .inl fB)), (cq, .inl (cJ, 64, .inr (.inl fC))), (pq, .inl (cI, 8, .inl fT))] := hD
  obtain ⟨he, hw_1⟩ := hw_1
  subst he
  have hth : th'_4 = nI 1 := by rw [hw_1, hSf]; rfl
  refine lv_cvi (congrArg b2i (by rw [hSf] <;> rfl)) ?_
  refine lv_if_ne (tgt := 11) hx hb dX8_steps_6 (by decide) (fun qc_5 => ?_) (fun qc_5 => ?_)
  · have c_5 : false = true := b2i_t qc_5
    cases c_5
  · have c_5 : false = false := b2i_f qc_5
    refine lv_iconst (v := nI 0) hx hb dX8_steps_9 (by decide +kernel) ?_
    have hP9 := hP.sub (ws' := [(q, .inr (7, [.ref mq, .ref zq, .ref sq, .ref bq, .ref cq, .long sm, .ref pq, .int ps, .int th'_4])), (mq, .inl (cZ, 12288, .inl fM)), (zq, .inl (cI, 3, .inl fS)), (sq, .inl (cI, 6156, .inl fP)), (bq, .inl (cI, 3, .inl fB)), (cq, .inl (cJ, 64, .inr (.inl fC))), (pq, .inl (cI, 8, .inl fT))]) [0, 1, 2, 3, 4, 5, 6] rfl
    have hD9 := hD.sub (ws' := [(q, .inr (7, [.ref mq, .ref zq, .ref sq, .ref bq, .ref cq, .long sm, .ref pq, .int ps, .int th'_4])), (mq, .inl (cZ, 12288, .inl fM)), (zq, .inl (cI, 3, .inl fS)), (sq, .inl (cI, 6156, .inl fP)), (bq, .inl (cI, 3, .inl fB)), (cq, .inl (cJ, 64, .inr (.inl fC))), (pq, .inl (cI, 8, .inl fT))]) [0, 1, 2, 3, 4, 5, 6] (by decide) rfl
    have hK9 := hK.sub (tys' := [(cZ, .boolean), (cI, .int), (cJ, .long)]) [0, 1, 2] rfl
    exact W.iret (v := nI 0) hx hb hr (fun t9 ht hW => ⟨⟨nI 0, th'_4, rfl, hth, by rw [ht]; exact hP9, va_K.moved hW.alike hK9, hD9⟩, hS.F ht⟩) hS.2.2 dX8_steps_10
set_option maxHeartbeats 4000000 in
set_option maxRecDepth 100000 in
/-- reference: c_X8_steps_n -/
theorem c_X8_steps_n (l : Launch) (dC : Nat → ClassId) (dI : Nat → Nat → Nat) (q : Nat) (mq : Nat) (zq : Nat) (sq : Nat) (bq : Nat) (cq : Nat) (pq : Nat) (cZ : ClassId) (cI : ClassId) (cJ : ClassId) (fM : Nat → Int32) (fS : Nat → Int32) (fP : Nat → Int32) (fB : Nat → Int32) (fC : Nat → Int64) (sm : Int64) (fT : Nat → Int32) (ps : Int32) (th : Int32) (k : Nat) (w : Int32) (sz : Nat) (hk : k < 3) (hW : isN w = false) : Met l yX8_steps wsX8_steps ({ frames := 3, cells := 0, slots := 0, locals := 64 }) (va_Pc [.ref q, .int (nI k), .int w] (fun U => U.heap.size = sz ∧ va_P (dC, dI) vwCl [(q, .inr (7, [.ref mq, .ref zq, .ref sq, .ref bq, .ref cq, .long sm, .ref pq, .int ps, .int th])), (mq, .inl (cZ, 12288, .inl fM)), (zq, .inl (cI, 3, .inl fS)), (sq, .inl (cI, 6156, .inl fP)), (bq, .inl (cI, 3, .inl fB)), (cq, .inl (cJ, 64, .inr (.inl fC))), (pq, .inl (cI, 8, .inl fT))] U.heap ∧ va_K (dC, dI) vwCl [(cZ, .boolean), (cI, .int), (cJ, .long)] U ∧ va_D (fun _ => True) [(q, .inr (7, [.ref mq, .ref zq, .ref sq, .ref bq, .ref cq, .long sm, .ref pq, .int ps, .int th])), (mq, .inl (cZ, 12288, .inl fM)), (zq, .inl (cI, 3, .inl fS)), (sq, .inl (cI, 6156, .inl fP)), (bq, .inl (cI, 3, .inl fB)), (cq, .inl (cJ, 64, .inr (.inl fC))), (pq, .inl (cI, 8, .inl fT))])) (va_Qi (fun (r : Int32) (u : Int32) => u = nI 2) (fun (u : Int32) (t : State) => va_P (dC, dI) vwCl [(q, .inr (7, [.ref mq, .ref zq, .ref sq, .ref bq, .ref cq, .long sm, .ref pq, .int ps, .int u])), (mq, .inl (cZ, 12288, .inl fM)), (zq, .inl (cI, 3, .inl fS)), (sq, .inl (cI, 6156, .inl fP)), (bq, .inl (cI, 3, .inl fB)), (cq, .inl (cJ, 64, .inr (.inl fC))), (pq, .inl (cI, 8, .inl fT))] t.heap ∧ va_K (dC, dI) vwCl [(cZ, .boolean), (cI, .int), (cJ, .long)] t ∧ va_D (va_A [(q, .inr (7, [.ref mq, .ref zq, .ref sq, .ref bq, .ref cq, .long sm, .ref pq, .int ps, .int th])), (mq, .inl (cZ, 12288, .inl fM)), (zq, .inl (cI, 3, .inl fS)), (sq, .inl (cI, 6156, .inl fP)), (bq, .inl (cI, 3, .inl fB)), (cq, .inl (cJ, 64, .inr (.inl fC))), (pq, .inl (cI, 8, .inl fT))] sz) [(q, .inr (7, [.ref mq, .ref zq, .ref sq, .ref bq, .ref cq, .long sm, .ref pq, .int ps, .int u])), (mq, .inl (cZ, 12288, .inl fM)), (zq, .inl (cI, 3, .inl fS)), (sq, .inl (cI, 6156, .inl fP)), (bq, .inl (cI, 3, .inl fB)), (cq, .inl (cJ, 64, .inr (.inl fC))), (pq, .inl (cI, 8, .inl fT))]) (va_A [(q, .inr (7, [.ref mq, .ref zq, .ref sq, .ref bq, .ref cq, .long sm, .ref pq, .int ps, .int th])), (mq, .inl (cZ, 12288, .inl fM)), (zq, .inl (cI, 3, .inl fS)), (sq, .inl (cI, 6156, .inl fP)), (bq, .inl (cI, 3, .inl fB)), (cq, .inl (cJ, 64, .inr (.inl fC))), (pq, .inl (cI, 8, .inl fT))] sz)) 0 0 (va_A [(q, .inr (7, [.ref mq, .ref zq, .ref sq, .ref bq, .ref cq, .long sm, .ref pq, .int ps, .int th])), (mq, .inl (cZ, 12288, .inl fM)), (zq, .inl (cI, 3, .inl fS)), (sq, .inl (cI, 6156, .inl fP)), (bq, .inl (cI, 3, .inl fB)), (cq, .inl (cJ, 64, .inr (.inl fC))), (pq, .inl (cI, 8, .inl fT))] sz) := by
  refine Met.ofW (cc := cX8_steps) (maxL := 8) (ret := (some .int)) (by decide) rfl ?_
  intro p e s m args below meth c s₁ B hml hv
  obtain ⟨rfl, hsz, hP, hK, hD0⟩ := hv
  have hx := B.exec
  have hb := B.bytes
  have hr := B.returns
  have hts := atoms_spec (ws := wsX8_steps) B.pre
  have hown : s.vm.findClass RX8 = some m.cls := findClass_of_methodNamed B.named
  have hlocks := B.notSynchronized
  subst hsz
  have hD := hD0.self (sz := s.heap.size)
  generalize hAe : va_A [(q, .inr (7, [.ref mq, .ref zq, .ref sq, .ref bq, .ref cq, .long sm, .ref pq, .int ps, .int th])), (mq, .inl (cZ, 12288, .inl fM)), (zq, .inl (cI, 3, .inl fS)), (sq, .inl (cI, 6156, .inl fP)), (bq, .inl (cI, 3, .inl fB)), (cq, .inl (cJ, 64, .inr (.inl fC))), (pq, .inl (cI, 8, .inl fT))] s.heap.size = A at hD ⊢
  have hA : ∀ q : Nat, s.heap.size ≤ q → A q := fun q h => by rw [← hAe]; exact Or.inr h
  have hS : va_S A s.heap s.heap [] := va_S.rf
  have hP : va_P (dC, dI) vwCl [(q, .inr (7, [.ref mq, .ref zq, .ref sq, .ref bq, .ref cq, .long sm, .ref pq, .int ps, .int th])), (mq, .inl (cZ, 12288, .inl fM)), (zq, .inl (cI, 3, .inl fS)), (sq, .inl (cI, 6156, .inl fP)), (bq, .inl (cI, 3, .inl fB)), (cq, .inl (cJ, 64, .inr (.inl fC))), (pq, .inl (cI, 8, .inl fT))] s.heap := hP
  have hl := lv_entry ([.ref q, .int (nI k), .int w]) (n := 8) (Nat.le_of_ble_eq_true rfl)
  rw [lg_entry_eq]
  generalize (lg_sl ([.ref q, .int (nI k), .int w]) ++ List.replicate (8 - (lg_sl ([.ref q, .int (nI k), .int w])).length) Slot.unset).toArray = ls at hl ⊢
  have hl : lv_has ls 8 [(0, .ref q), (1, .int (nI k)), (2, .int w)] := hl
  refine lv_aload_n hx hb dX8_steps_0 rfl (lv_at hl 0 rfl) ?_
  refine lv_iload_n hx hb dX8_steps_1 rfl (lv_at hl 1 rfl) ?_
  refine lv_iload_n hx hb dX8_steps_2 rfl (lv_at hl 2 rfl) ?_
  have hPc := hP.sub (ws' := [(q, .inr (7, [.ref mq, .ref zq, .ref sq, .ref bq, .ref cq, .long sm, .ref pq, .int ps, .int th])), (mq, .inl (cZ, 12288, .inl fM)), (zq, .inl (cI, 3, .inl fS)), (sq, .inl (cI, 6156, .inl fP)), (bq, .inl (cI, 3, .inl fB)), (cq, .inl (cJ, 64, .inr (.inl fC))), (pq, .inl (cI, 8, .inl fT))]) [0, 1, 2, 3, 4, 5, 6] rfl
  have hKc := hK.sub (tys' := [(cZ, .boolean), (cI, .int), (cJ, .long)]) [0, 1, 2] rfl
  have hDc := hD.sub (ws' := [(q, .inr (7, [.ref mq, .ref zq, .ref sq, .ref bq, .ref cq, .long sm, .ref pq, .int ps, .int th])), (mq, .inl (cZ, 12288, .inl fM)), (zq, .inl (cI, 3, .inl fS)), (sq, .inl (cI, 6156, .inl fP)), (bq, .inl (cI, 3, .inl fB)), (cq, .inl (cJ, 64, .inr (.inl fC))), (pq, .inl (cI, 8, .inl fT))]) [0, 1, 2, 3, 4, 5, 6] (by decide) rfl
  have hFc := va_free (wc := [(q, .inr (7, [.ref mq, .ref zq, .ref sq, .ref bq, .ref cq, .long sm, .ref pq, .int ps, .int th])), (mq, .inl (cZ, 12288, .inl fM)), (zq, .inl (cI, 3, .inl fS)), (sq, .inl (cI, 6156, .inl fP)), (bq, .inl (cI, 3, .inl fB)), (cq, .inl (cJ, 64, .inr (.inl fC))), (pq, .inl (cI, 8, .inl fT))]) hD hS hA [0, 1, 2, 3, 4, 5, 6] rfl
  refine va_calli (va_runV (As := [.int (nI k), .int w]) (rest := []) ⟨hx, hb, hml, hown, hts⟩ (c_X8_isRight l dC dI q mq zq sq bq cq pq cZ cI cJ fM fS fP fB fC sm fT ps th (nI k) w s.heap.size ) (cwV 2 hts gX8_steps_X8_isRight rfl rfl rfl (by decide +kernel) ⟨Nat.le_of_ble_eq_true rfl, Nat.le_of_ble_eq_true rfl⟩) ⟨fun a U g mk q => by obtain ⟨q0, q1, qP, qK, qD⟩ := q; exact ⟨q0, q1, qP, va_K.moved (u := U) (U := U.calling g mk a) (Vm.Alike.refl U.vm) qK, qD⟩, va_recv hKc hPc (ci := 7) (q0 := 0) rfl rfl, fun U hU hW => ⟨rfl, by rw [hU], by rw [hU]; exact hPc, va_K.moved hW.alike hKc, hDc.weaken (fun _ _ _ _ => trivial)⟩⟩ rfl rfl hl.1 rfl (lv_room (Nat.le_of_ble_eq_true rfl)) dX8_steps_3 ⟨Nat.le_of_ble_eq_true rfl, Nat.le_of_ble_eq_true rfl⟩) hS (fun q _ h => hFc q h) hFc (fun r_3 u_2 t9 H1 locs ht hvm hw_1 hB hz1 hk1 hS => ?_)
  obtain ⟨th'_4, rfl⟩ : ∃ z, z = u_2 := ⟨_, rfl⟩
  obtain ⟨hP1, hK1, hD1⟩ := hB
  rw [ht] at hP1
  have hK1 := va_K.moved hvm.symm hK1
  try dsimp only at hw_1 hP1 hK1 hD1
  obtain ⟨hP, hD⟩ := va_join (wr := []) (w1 := [(q, .inr (7, [.ref mq, .ref zq, .ref sq, .ref bq, .ref cq, .long sm, .ref pq, .int ps, .int th'_4])), (mq, .inl (cZ, 12288, .inl fM)), (zq, .inl (cI, 3, .inl fS)), (sq, .inl (cI, 6156, .inl fP)), (bq, .inl (cI, 3, .inl fB)), (cq, .inl (cJ, 64, .inr (.inl fC))), (pq, .inl (cI, 8, .inl fT))]) hP hD [0, 1, 2, 3, 4, 5, 6] [] rfl rfl (by decide) (by decide) hk1 hFc hP1 hD1
  generalize H1 = H at hP hS ⊢
  have hP : va_P (dC, dI) vwCl [(q, .inr (7, [.ref mq, .ref zq, .ref sq, .ref bq, .ref cq, .long sm, .ref pq, .int ps, .int th'_4])), (mq, .inl (cZ, 12288, .inl fM)), (zq, .inl (cI, 3, .inl fS)), (sq, .inl (cI, 6156, .inl fP)), (bq, .inl (cI, 3, .inl fB)), (cq, .inl (cJ, 64, .inr (.inl fC))), (pq, .inl (cI, 8, .inl fT))] H := hP
  have hD : va_D A [(q, .inr (7, [.ref mq, .ref zq, .ref sq, .ref bq, .ref cq, .long sm, .ref pq, .int ps, .int th'_4])), (mq, .inl (cZ, 12288, .inl fM)), (zq, .inl (cI, 3, .inl fS)), (sq, .inl (cI, 6156, .inl fP)), (bq, .inl (cI, 3, .inl fB)), (cq, .inl (cJ, 64, .inr (.inl fC))), (pq, .inl (cI, 8, .inl fT))] := hD
  obtain ⟨he, hw_1⟩ := hw_1
  subst he
  have hth : th'_4 = nI 2 := by rw [hw_1, isS_t hk, hW]; rfl
  refine lv_cvi (congrArg b2i (by rw [isS_t hk, hW] <;> rfl)) ?_
  refine lv_if_ne (tgt := 11) hx hb dX8_steps_6 (by decide) (fun qc_5 => ?_) (fun qc_5 => ?_)
  · have c_5 : false = true := b2i_t qc_5
    cases c_5
  · have c_5 : false = false := b2i_f qc_5
    refine lv_iconst (v := nI 0) hx hb dX8_steps_9 (by decide +kernel) ?_
    have hP9 := hP.sub (ws' := [(q, .inr (7, [.ref mq, .ref zq, .ref sq, .ref bq, .ref cq, .long sm, .ref pq, .int ps, .int th'_4])), (mq, .inl (cZ, 12288, .inl fM)), (zq, .inl (cI, 3, .inl fS)), (sq, .inl (cI, 6156, .inl fP)), (bq, .inl (cI, 3, .inl fB)), (cq, .inl (cJ, 64, .inr (.inl fC))), (pq, .inl (cI, 8, .inl fT))]) [0, 1, 2, 3, 4, 5, 6] rfl
    have hD9 := hD.sub (ws' := [(q, .inr (7, [.ref mq, .ref zq, .ref sq, .ref bq, .ref cq, .long sm, .ref pq, .int ps, .int th'_4])), (mq, .inl (cZ, 12288, .inl fM)), (zq, .inl (cI, 3, .inl fS)), (sq, .inl (cI, 6156, .inl fP)), (bq, .inl (cI, 3, .inl fB)), (cq, .inl (cJ, 64, .inr (.inl fC))), (pq, .inl (cI, 8, .inl fT))]) [0, 1, 2, 3, 4, 5, 6] (by decide) rfl
    have hK9 := hK.sub (tys' := [(cZ, .boolean), (cI, .int), (cJ, .long)]) [0, 1, 2] rfl
    exact W.iret (v := nI 0) hx hb hr (fun t9 ht hW => ⟨⟨nI 0, th'_4, rfl, hth, by rw [ht]; exact hP9, va_K.moved hW.alike hK9, hD9⟩, hS.F ht⟩) hS.2.2 dX8_steps_10
set_option maxHeartbeats 4000000 in
set_option maxRecDepth 100000 in
/-- reference: c_X8_isCluster_n -/
theorem c_X8_isCluster_n (l : Launch) (dC : Nat → ClassId) (dI : Nat → Nat → Nat) (q : Nat) (mq : Nat) (zq : Nat) (sq : Nat) (bq : Nat) (cq : Nat) (pq : Nat) (cZ : ClassId) (cI : ClassId) (cJ : ClassId) (fM : Nat → Int32) (fS : Nat → Int32) (fP : Nat → Int32) (fB : Nat → Int32) (fC : Nat → Int64) (sm : Int64) (fT : Nat → Int32) (ps : Int32) (th : Int32) (k : Nat) (w : Int32) (sz : Nat) (hk : k < 3) (hW : inB w 0 63 = false) : Met l yX8_isCluster wsX8_isCluster ({ frames := 2, cells := 0, slots := 0, locals := 42 }) (va_Pc [.ref q, .int (nI k), .int w] (fun U => U.heap.size = sz ∧ va_P (dC, dI) vwCl [(q, .inr (7, [.ref mq, .ref zq, .ref sq, .ref bq, .ref cq, .long sm, .ref pq, .int ps, .int th])), (mq, .inl (cZ, 12288, .inl fM)), (zq, .inl (cI, 3, .inl fS)), (sq, .inl (cI, 6156, .inl fP)), (bq, .inl (cI, 3, .inl fB)), (cq, .inl (cJ, 64, .inr (.inl fC))), (pq, .inl (cI, 8, .inl fT))] U.heap ∧ va_K (dC, dI) vwCl [(cZ, .boolean), (cI, .int), (cJ, .long)] U ∧ va_D (fun _ => True) [(q, .inr (7, [.ref mq, .ref zq, .ref sq, .ref bq, .ref cq, .long sm, .ref pq, .int ps, .int th])), (mq, .inl (cZ, 12288, .inl fM)), (zq, .inl (cI, 3, .inl fS)), (sq, .inl (cI, 6156, .inl fP)), (bq, .inl (cI, 3, .inl fB)), (cq, .inl (cJ, 64, .inr (.inl fC))), (pq, .inl (cI, 8, .inl fT))])) (va_Qi (fun (r : Int32) (u : Int32) => r = b2i false ∧ u = nI 1) (fun (u : Int32) (t : State) => va_P (dC, dI) vwCl [(q, .inr (7, [.ref mq, .ref zq, .ref sq, .ref bq, .ref cq, .long sm, .ref pq, .int ps, .int u])), (mq, .inl (cZ, 12288, .inl fM)), (zq, .inl (cI, 3, .inl fS)), (sq, .inl (cI, 6156, .inl fP)), (bq, .inl (cI, 3, .inl fB)), (cq, .inl (cJ, 64, .inr (.inl fC))), (pq, .inl (cI, 8, .inl fT))] t.heap ∧ va_K (dC, dI) vwCl [(cZ, .boolean), (cI, .int), (cJ, .long)] t ∧ va_D (va_A [(q, .inr (7, [.ref mq, .ref zq, .ref sq, .ref bq, .ref cq, .long sm, .ref pq, .int ps, .int th])), (mq, .inl (cZ, 12288, .inl fM)), (zq, .inl (cI, 3, .inl fS)), (sq, .inl (cI, 6156, .inl fP)), (bq, .inl (cI, 3, .inl fB)), (cq, .inl (cJ, 64, .inr (.inl fC))), (pq, .inl (cI, 8, .inl fT))] sz) [(q, .inr (7, [.ref mq, .ref zq, .ref sq, .ref bq, .ref cq, .long sm, .ref pq, .int ps, .int u])), (mq, .inl (cZ, 12288, .inl fM)), (zq, .inl (cI, 3, .inl fS)), (sq, .inl (cI, 6156, .inl fP)), (bq, .inl (cI, 3, .inl fB)), (cq, .inl (cJ, 64, .inr (.inl fC))), (pq, .inl (cI, 8, .inl fT))]) (va_A [(q, .inr (7, [.ref mq, .ref zq, .ref sq, .ref bq, .ref cq, .long sm, .ref pq, .int ps, .int th])), (mq, .inl (cZ, 12288, .inl fM)), (zq, .inl (cI, 3, .inl fS)), (sq, .inl (cI, 6156, .inl fP)), (bq, .inl (cI, 3, .inl fB)), (cq, .inl (cJ, 64, .inr (.inl fC))), (pq, .inl (cI, 8, .inl fT))] sz)) 0 0 (va_A [(q, .inr (7, [.ref mq, .ref zq, .ref sq, .ref bq, .ref cq, .long sm, .ref pq, .int ps, .int th])), (mq, .inl (cZ, 12288, .inl fM)), (zq, .inl (cI, 3, .inl fS)), (sq, .inl (cI, 6156, .inl fP)), (bq, .inl (cI, 3, .inl fB)), (cq, .inl (cJ, 64, .inr (.inl fC))), (pq, .inl (cI, 8, .inl fT))] sz) := by
  refine Met.ofW (cc := cX8_isCluster) (maxL := 4) (ret := (some .boolean)) (by decide) rfl ?_
  intro p e s m args below meth c s₁ B hml hv
  obtain ⟨rfl, hsz, hP, hK, hD0⟩ := hv
  have hx := B.exec
  have hb := B.bytes
  have hr := B.returns
  have hts := atoms_spec (ws := wsX8_isCluster) B.pre
  have hown : s.vm.findClass RX8 = some m.cls := findClass_of_methodNamed B.named
  have hlocks := B.notSynchronized
  subst hsz
  have hD := hD0.self (sz := s.heap.size)
  generalize hAe : va_A [(q, .inr (7, [.ref mq, .ref zq, .ref sq, .ref bq, .ref cq, .long sm, .ref pq, .int ps, .int th])), (mq, .inl (cZ, 12288, .inl fM)), (zq, .inl (cI, 3, .inl fS)), (sq, .inl (cI, 6156, .inl fP)), (bq, .inl (cI, 3, .inl fB)), (cq, .inl (cJ, 64, .inr (.inl fC))), (pq, .inl (cI, 8, .inl fT))] s.heap.size = A at hD ⊢
  have hA : ∀ q : Nat, s.heap.size ≤ q → A q := fun q h => by rw [← hAe]; exact Or.inr h
  have hS : va_S A s.heap s.heap [] := va_S.rf
  have hP : va_P (dC, dI) vwCl [(q, .inr (7, [.ref mq, .ref zq, .ref sq, .ref bq, .ref cq, .long sm, .ref pq, .int ps, .int th])), (mq, .inl (cZ, 12288, .inl fM)), (zq, .inl (cI, 3, .inl fS)), (sq, .inl (cI, 6156, .inl fP)), (bq, .inl (cI, 3, .inl fB)), (cq, .inl (cJ, 64, .inr (.inl fC))), (pq, .inl (cI, 8, .inl fT))] s.heap := hP
  have hl := lv_entry ([.ref q, .int (nI k), .int w]) (n := 4) (Nat.le_of_ble_eq_true rfl)
  rw [lg_entry_eq]
  generalize (lg_sl ([.ref q, .int (nI k), .int w]) ++ List.replicate (4 - (lg_sl ([.ref q, .int (nI k), .int w])).length) Slot.unset).toArray = ls at hl ⊢
  have hl : lv_has ls 4 [(0, .ref q), (1, .int (nI k)), (2, .int w)] := hl
  refine lv_aload_n hx hb dX8_isCluster_0 rfl (lv_at hl 0 rfl) ?_
  refine lv_iload_n hx hb dX8_isCluster_1 rfl (lv_at hl 1 rfl) ?_
  have hPc := hP.sub (ws' := []) [] rfl
  have hKc := hK.sub (tys' := []) [] rfl
  refine vp_callSi (W.runS (As := [.int (nI k)]) (rest := [.ref q]) ⟨hx, hb, hml, hown, hts⟩ (c_X8_isSet l dC dI (nI k) ) (va_cwS 1 hts gX8_isCluster_X8_isSet rfl rfl rfl (by decide +kernel) ⟨Nat.le_of_ble_eq_true rfl, Nat.le_of_ble_eq_true rfl⟩) ⟨fun a U g mk q => by obtain ⟨q0, qP, qK⟩ := q; exact ⟨q0, qP, va_K.moved (u := U) (U := U.calling g mk a) (Vm.Alike.refl U.vm) qK⟩, fun U hU hW => ⟨rfl, by rw [hU]; exact hPc, va_K.moved hW.alike hKc⟩⟩ rfl rfl hl.1 rfl (lv_room (Nat.le_of_ble_eq_true rfl)) dX8_isCluster_2 ⟨Nat.le_of_ble_eq_true rfl, Nat.le_of_ble_eq_true rfl⟩) (fun r_2 hw_1 => ?_)
  subst hw_1
  refine lv_cvi (congrArg b2i (isS_t hk)) ?_
  refine lv_if_eq (tgt := 22) hx hb dX8_isCluster_5 (by decide) (fun qc_3 => ?_) (fun qc_3 => ?_)
  · have c_3 : true = false := b2i_f qc_3
    cases c_3
  · have c_3 : true = true := b2i_t qc_3
    refine lv_iload_n hx hb dX8_isCluster_8 rfl (lv_at hl 2 rfl) ?_
    refine lv_iconst (v := nI 0) hx hb dX8_isCluster_9 (by decide +kernel) ?_
    refine lv_bipush (v := nI 63) hx hb dX8_isCluster_10 (by decide +kernel) ?_
    have hPc := hP.sub (ws' := []) [] rfl
    have hKc := hK.sub (tys' := []) [] rfl
    refine vp_callSi (W.runS (As := [.int w, .int (nI 0), .int (nI 63)]) (rest := [.ref q]) ⟨hx, hb, hml, hown, hts⟩ (c_X8_in l dC dI w (nI 0) (nI 63) ) (va_cwS 3 hts gX8_isCluster_X8_in rfl rfl rfl (by decide +kernel) ⟨Nat.le_of_ble_eq_true rfl, Nat.le_of_ble_eq_true rfl⟩) ⟨fun a U g mk q => by obtain ⟨q0, qP, qK⟩ := q; exact ⟨q0, qP, va_K.moved (u := U) (U := U.calling g mk a) (Vm.Alike.refl U.vm) qK⟩, fun U hU hW => ⟨rfl, by rw [hU]; exact hPc, va_K.moved hW.alike hKc⟩⟩ rfl rfl hl.1 rfl (lv_room (Nat.le_of_ble_eq_true rfl)) dX8_isCluster_12 ⟨Nat.le_of_ble_eq_true rfl, Nat.le_of_ble_eq_true rfl⟩) (fun r_5 hw_4 => ?_)
    subst hw_4
    refine lv_cvi (congrArg b2i hW) ?_
    refine lv_if_eq (tgt := 22) hx hb dX8_isCluster_15 (by decide) (fun qc_6 => ?_) (fun qc_6 => ?_)
    · have c_6 : false = false := b2i_f qc_6
      refine lv_iconst (v := nI 0) hx hb dX8_isCluster_22 (by decide +kernel) ?_
      refine lv_cvi ((rfl : nI 0 = b2i false)) ?_
      have hPc := hP.sub (ws' := [(q, .inr (7, [.ref mq, .ref zq, .ref sq, .ref bq, .ref cq, .long sm, .ref pq, .int ps, .int th])), (mq, .inl (cZ, 12288, .inl fM)), (zq, .inl (cI, 3, .inl fS)), (sq, .inl (cI, 6156, .inl fP)), (bq, .inl (cI, 3, .inl fB)), (cq, .inl (cJ, 64, .inr (.inl fC))), (pq, .inl (cI, 8, .inl fT))]) [0, 1, 2, 3, 4, 5, 6] rfl
      have hKc := hK.sub (tys' := [(cZ, .boolean), (cI, .int), (cJ, .long)]) [0, 1, 2] rfl
      have hDc := hD.sub (ws' := [(q, .inr (7, [.ref mq, .ref zq, .ref sq, .ref bq, .ref cq, .long sm, .ref pq, .int ps, .int th])), (mq, .inl (cZ, 12288, .inl fM)), (zq, .inl (cI, 3, .inl fS)), (sq, .inl (cI, 6156, .inl fP)), (bq, .inl (cI, 3, .inl fB)), (cq, .inl (cJ, 64, .inr (.inl fC))), (pq, .inl (cI, 8, .inl fT))]) [0, 1, 2, 3, 4, 5, 6] (by decide) rfl
      have hFc := va_free (wc := [(q, .inr (7, [.ref mq, .ref zq, .ref sq, .ref bq, .ref cq, .long sm, .ref pq, .int ps, .int th])), (mq, .inl (cZ, 12288, .inl fM)), (zq, .inl (cI, 3, .inl fS)), (sq, .inl (cI, 6156, .inl fP)), (bq, .inl (cI, 3, .inl fB)), (cq, .inl (cJ, 64, .inr (.inl fC))), (pq, .inl (cI, 8, .inl fT))]) hD hS hA [0, 1, 2, 3, 4, 5, 6] rfl
      refine va_calli (va_runV (As := [.int (b2i false)]) (rest := []) ⟨hx, hb, hml, hown, hts⟩ (c_X8_asked l dC dI q mq zq sq bq cq pq cZ cI cJ fM fS fP fB fC sm fT ps th false s.heap.size ) (cwV 1 hts gX8_isCluster_X8_asked rfl rfl rfl (by decide +kernel) ⟨Nat.le_of_ble_eq_true rfl, Nat.le_of_ble_eq_true rfl⟩) ⟨fun a U g mk q => by obtain ⟨q0, q1, qP, qK, qD⟩ := q; exact ⟨q0, q1, qP, va_K.moved (u := U) (U := U.calling g mk a) (Vm.Alike.refl U.vm) qK, qD⟩, va_recv hKc hPc (ci := 7) (q0 := 0) rfl rfl, fun U hU hW => ⟨rfl, by rw [hU], by rw [hU]; exact hPc, va_K.moved hW.alike hKc, hDc.weaken (fun _ _ _ _ => trivial)⟩⟩ rfl rfl hl.1 rfl (lv_room (Nat.le_of_ble_eq_true rfl)) dX8_isCluster_23 ⟨Nat.le_of_ble_eq_true rfl, Nat.le_of_ble_eq_true rfl⟩) hS (fun q _ h => hFc q h) hFc (fun r_9 u_8 t9 H1 locs ht hvm hw_7 hB hz1 hk1 hS => ?_)
      obtain ⟨th'_10, rfl⟩ : ∃ z, z = u_8 := ⟨_, rfl⟩
      obtain ⟨hP1, hK1, hD1⟩ := hB
      rw [ht] at hP1
      have hK1 := va_K.moved hvm.symm hK1
      try dsimp only at hw_7 hP1 hK1 hD1
      obtain ⟨hP, hD⟩ := va_join (wr := []) (w1 := [(q, .inr (7, [.ref mq, .ref zq, .ref sq, .ref bq, .ref cq, .long sm, .ref pq, .int ps, .int th'_10])), (mq, .inl (cZ, 12288, .inl fM)), (zq, .inl (cI, 3, .inl fS)), (sq, .inl (cI, 6156, .inl fP)), (bq, .inl (cI, 3, .inl fB)), (cq, .inl (cJ, 64, .inr (.inl fC))), (pq, .inl (cI, 8, .inl fT))]) hP hD [0, 1, 2, 3, 4, 5, 6] [] rfl rfl (by decide) (by decide) hk1 hFc hP1 hD1
      generalize H1 = H at hP hS ⊢
      have hP : va_P (dC, dI) vwCl [(q, .inr (7, [.ref mq, .ref zq, .ref sq, .ref bq, .ref cq, .long sm, .ref pq, .int ps, .int th'_10])), (mq, .inl (cZ, 12288, .inl fM)), (zq, .inl (cI, 3, .inl fS)), (sq, .inl (cI, 6156, .inl fP)), (bq, .inl (cI, 3, .inl fB)), (cq, .inl (cJ, 64, .inr (.inl fC))), (pq, .inl (cI, 8, .inl fT))] H := hP
      have hD : va_D A [(q, .inr (7, [.ref mq, .ref zq, .ref sq, .ref bq, .ref cq, .long sm, .ref pq, .int ps, .int th'_10])), (mq, .inl (cZ, 12288, .inl fM)), (zq, .inl (cI, 3, .inl fS)), (sq, .inl (cI, 6156, .inl fP)), (bq, .inl (cI, 3, .inl fB)), (cq, .inl (cJ, 64, .inr (.inl fC))), (pq, .inl (cI, 8, .inl fT))] := hD
      obtain ⟨he, hw_7⟩ := hw_7
      subst he
      have hth := hw_7
      refine lv_istore_n (lv' := [(3, .int (b2i false)), (0, .ref q), (1, .int (nI k)), (2, .int w)]) hx hb dX8_isCluster_26 rfl hl (by decide) rfl (fun ls hl => ?_)
      refine lv_iload_n hx hb dX8_isCluster_27 rfl (lv_at hl 0 rfl) ?_
      refine lv_if_eq (tgt := 36) hx hb dX8_isCluster_28 (by decide) (fun qc_11 => ?_) (fun qc_11 => ?_)
      · have c_11 : false = false := b2i_f qc_11
        refine lv_iload_n hx hb dX8_isCluster_36 rfl (lv_at hl 0 rfl) ?_
        have hP9 := hP.sub (ws' := [(q, .inr (7, [.ref mq, .ref zq, .ref sq, .ref bq, .ref cq, .long sm, .ref pq, .int ps, .int th'_10])), (mq, .inl (cZ, 12288, .inl fM)), (zq, .inl (cI, 3, .inl fS)), (sq, .inl (cI, 6156, .inl fP)), (bq, .inl (cI, 3, .inl fB)), (cq, .inl (cJ, 64, .inr (.inl fC))), (pq, .inl (cI, 8, .inl fT))]) [0, 1, 2, 3, 4, 5, 6] rfl
        have hD9 := hD.sub (ws' := [(q, .inr (7, [.ref mq, .ref zq, .ref sq, .ref bq, .ref cq, .long sm, .ref pq, .int ps, .int th'_10])), (mq, .inl (cZ, 12288, .inl fM)), (zq, .inl (cI, 3, .inl fS)), (sq, .inl (cI, 6156, .inl fP)), (bq, .inl (cI, 3, .inl fB)), (cq, .inl (cJ, 64, .inr (.inl fC))), (pq, .inl (cI, 8, .inl fT))]) [0, 1, 2, 3, 4, 5, 6] (by decide) rfl
        have hK9 := hK.sub (tys' := [(cZ, .boolean), (cI, .int), (cJ, .long)]) [0, 1, 2] rfl
        exact W.zret (v := b2i false) hx hb hr (b2i_nar _) (fun t9 ht hW => ⟨⟨b2i false, th'_10, rfl, ⟨rfl, hth⟩, by rw [ht]; exact hP9, va_K.moved hW.alike hK9, hD9⟩, hS.F ht⟩) hS.2.2 dX8_isCluster_37
      · have c_11 : false = true := b2i_t qc_11
        cases c_11
    · have c_6 : false = true := b2i_t qc_6
      cases c_6
set_option maxHeartbeats 4000000 in
set_option maxRecDepth 100000 in
/-- reference: c_X8_isCluster_s -/
theorem c_X8_isCluster_s (l : Launch) (dC : Nat → ClassId) (dI : Nat → Nat → Nat) (q : Nat) (mq : Nat) (zq : Nat) (sq : Nat) (bq : Nat) (cq : Nat) (pq : Nat) (cZ : ClassId) (cI : ClassId) (cJ : ClassId) (fM : Nat → Int32) (fS : Nat → Int32) (fP : Nat → Int32) (fB : Nat → Int32) (fC : Nat → Int64) (sm : Int64) (fT : Nat → Int32) (ps : Int32) (th : Int32) (v : Int32) (w : Int32) (sz : Nat) (hSf : isS v = false) : Met l yX8_isCluster wsX8_isCluster ({ frames := 2, cells := 0, slots := 0, locals := 42 }) (va_Pc [.ref q, .int v, .int w] (fun U => U.heap.size = sz ∧ va_P (dC, dI) vwCl [(q, .inr (7, [.ref mq, .ref zq, .ref sq, .ref bq, .ref cq, .long sm, .ref pq, .int ps, .int th])), (mq, .inl (cZ, 12288, .inl fM)), (zq, .inl (cI, 3, .inl fS)), (sq, .inl (cI, 6156, .inl fP)), (bq, .inl (cI, 3, .inl fB)), (cq, .inl (cJ, 64, .inr (.inl fC))), (pq, .inl (cI, 8, .inl fT))] U.heap ∧ va_K (dC, dI) vwCl [(cZ, .boolean), (cI, .int), (cJ, .long)] U ∧ va_D (fun _ => True) [(q, .inr (7, [.ref mq, .ref zq, .ref sq, .ref bq, .ref cq, .long sm, .ref pq, .int ps, .int th])), (mq, .inl (cZ, 12288, .inl fM)), (zq, .inl (cI, 3, .inl fS)), (sq, .inl (cI, 6156, .inl fP)), (bq, .inl (cI, 3, .inl fB)), (cq, .inl (cJ, 64, .inr (.inl fC))), (pq, .inl (cI, 8, .inl fT))])) (va_Qi (fun (r : Int32) (u : Int32) => r = b2i false ∧ u = nI 1) (fun (u : Int32) (t : State) => va_P (dC, dI) vwCl [(q, .inr (7, [.ref mq, .ref zq, .ref sq, .ref bq, .ref cq, .long sm, .ref pq, .int ps, .int u])), (mq, .inl (cZ, 12288, .inl fM)), (zq, .inl (cI, 3, .inl fS)), (sq, .inl (cI, 6156, .inl fP)), (bq, .inl (cI, 3, .inl fB)), (cq, .inl (cJ, 64, .inr (.inl fC))), (pq, .inl (cI, 8, .inl fT))] t.heap ∧ va_K (dC, dI) vwCl [(cZ, .boolean), (cI, .int), (cJ, .long)] t ∧ va_D (va_A [(q, .inr (7, [.ref mq, .ref zq, .ref sq, .ref bq, .ref cq, .long sm, .ref pq, .int ps, .int th])), (mq, .inl (cZ, 12288, .inl fM)), (zq, .inl (cI, 3, .inl fS)), (sq, .inl (cI, 6156, .inl fP)), (bq, .inl (cI, 3, .inl fB)), (cq, .inl (cJ, 64, .inr (.inl fC))), (pq, .inl (cI, 8, .inl fT))] sz) [(q, .inr (7, [.ref mq, .ref zq, .ref sq, .ref bq, .ref cq, .long sm, .ref pq, .int ps, .int u])), (mq, .inl (cZ, 12288, .inl fM)), (zq, .inl (cI, 3, .inl fS)), (sq, .inl (cI, 6156, .inl fP)), (bq, .inl (cI, 3, .inl fB)), (cq, .inl (cJ, 64, .inr (.inl fC))), (pq, .inl (cI, 8, .inl fT))]) (va_A [(q, .inr (7, [.ref mq, .ref zq, .ref sq, .ref bq, .ref cq, .long sm, .ref pq, .int ps, .int th])), (mq, .inl (cZ, 12288, .inl fM)), (zq, .inl (cI, 3, .inl fS)), (sq, .inl (cI, 6156, .inl fP)), (bq, .inl (cI, 3, .inl fB)), (cq, .inl (cJ, 64, .inr (.inl fC))), (pq, .inl (cI, 8, .inl fT))] sz)) 0 0 (va_A [(q, .inr (7, [.ref mq, .ref zq, .ref sq, .ref bq, .ref cq, .long sm, .ref pq, .int ps, .int th])), (mq, .inl (cZ, 12288, .inl fM)), (zq, .inl (cI, 3, .inl fS)), (sq, .inl (cI, 6156, .inl fP)), (bq, .inl (cI, 3, .inl fB)), (cq, .inl (cJ, 64, .inr (.inl fC))), (pq, .inl (cI, 8, .inl fT))] sz) := by
  refine Met.ofW (cc := cX8_isCluster) (maxL := 4) (ret := (some .boolean)) (by decide) rfl ?_
  intro p e s m args below meth c s₁ B hml hv
  obtain ⟨rfl, hsz, hP, hK, hD0⟩ := hv
  have hx := B.exec
  have hb := B.bytes
  have hr := B.returns
  have hts := atoms_spec (ws := wsX8_isCluster) B.pre
  have hown : s.vm.findClass RX8 = some m.cls := findClass_of_methodNamed B.named
  have hlocks := B.notSynchronized
  subst hsz
  have hD := hD0.self (sz := s.heap.size)
  generalize hAe : va_A [(q, .inr (7, [.ref mq, .ref zq, .ref sq, .ref bq, .ref cq, .long sm, .ref pq, .int ps, .int th])), (mq, .inl (cZ, 12288, .inl fM)), (zq, .inl (cI, 3, .inl fS)), (sq, .inl (cI, 6156, .inl fP)), (bq, .inl (cI, 3, .inl fB)), (cq, .inl (cJ, 64, .inr (.inl fC))), (pq, .inl (cI, 8, .inl fT))] s.heap.size = A at hD ⊢
  have hA : ∀ q : Nat, s.heap.size ≤ q → A q := fun q h => by rw [← hAe]; exact Or.inr h
  have hS : va_S A s.heap s.heap [] := va_S.rf
  have hP : va_P (dC, dI) vwCl [(q, .inr (7, [.ref mq, .ref zq, .ref sq, .ref bq, .ref cq, .long sm, .ref pq, .int ps, .int th])), (mq, .inl (cZ, 12288, .inl fM)), (zq, .inl (cI, 3, .inl fS)), (sq, .inl (cI, 6156, .inl fP)), (bq, .inl (cI, 3, .inl fB)), (cq, .inl (cJ, 64, .inr (.inl fC))), (pq, .inl (cI, 8, .inl fT))] s.heap := hP
  have hl := lv_entry ([.ref q, .int v, .int w]) (n := 4) (Nat.le_of_ble_eq_true rfl)
  rw [lg_entry_eq]
  generalize (lg_sl ([.ref q, .int v, .int w]) ++ List.replicate (4 - (lg_sl ([.ref q, .int v, .int w])).length) Slot.unset).toArray = ls at hl ⊢
  have hl : lv_has ls 4 [(0, .ref q), (1, .int v), (2, .int w)] := hl
  refine lv_aload_n hx hb dX8_isCluster_0 rfl (lv_at hl 0 rfl) ?_
  refine lv_iload_n hx hb dX8_isCluster_1 rfl (lv_at hl 1 rfl) ?_
  have hPc := hP.sub (ws' := []) [] rfl
  have hKc := hK.sub (tys' := []) [] rfl
  refine vp_callSi (W.runS (As := [.int v]) (rest := [.ref q]) ⟨hx, hb, hml, hown, hts⟩ (c_X8_isSet l dC dI v ) (va_cwS 1 hts gX8_isCluster_X8_isSet rfl rfl rfl (by decide +kernel) ⟨Nat.le_of_ble_eq_true rfl, Nat.le_of_ble_eq_true rfl⟩) ⟨fun a U g mk q => by obtain ⟨q0, qP, qK⟩ := q; exact ⟨q0, qP, va_K.moved (u := U) (U := U.calling g mk a) (Vm.Alike.refl U.vm) qK⟩, fun U hU hW => ⟨rfl, by rw [hU]; exact hPc, va_K.moved hW.alike hKc⟩⟩ rfl rfl hl.1 rfl (lv_room (Nat.le_of_ble_eq_true rfl)) dX8_isCluster_2 ⟨Nat.le_of_ble_eq_true rfl, Nat.le_of_ble_eq_true rfl⟩) (fun r_2 hw_1 => ?_)
  subst hw_1
  refine lv_cvi (congrArg b2i (hSf)) ?_
  refine lv_if_eq (tgt := 22) hx hb dX8_isCluster_5 (by decide) (fun qc_3 => ?_) (fun qc_3 => ?_)
  · have c_3 : false = false := b2i_f qc_3
    refine lv_iconst (v := nI 0) hx hb dX8_isCluster_22 (by decide +kernel) ?_
    refine lv_cvi ((rfl : nI 0 = b2i false)) ?_
    have hPc := hP.sub (ws' := [(q, .inr (7, [.ref mq, .ref zq, .ref sq, .ref bq, .ref cq, .long sm, .ref pq, .int ps, .int th])), (mq, .inl (cZ, 12288, .inl fM)), (zq, .inl (cI, 3, .inl fS)), (sq, .inl (cI, 6156, .inl fP)), (bq, .inl (cI, 3, .inl fB)), (cq, .inl (cJ, 64, .inr (.inl fC))), (pq, .inl (cI, 8, .inl fT))]) [0, 1, 2, 3, 4, 5, 6] rfl
    have hKc := hK.sub (tys' := [(cZ, .boolean), (cI, .int), (cJ, .long)]) [0, 1, 2] rfl
    have hDc := hD.sub (ws' := [(q, .inr (7, [.ref mq, .ref zq, .ref sq, .ref bq, .ref cq, .long sm, .ref pq, .int ps, .int th])), (mq, .inl (cZ, 12288, .inl fM)), (zq, .inl (cI, 3, .inl fS)), (sq, .inl (cI, 6156, .inl fP)), (bq, .inl (cI, 3, .inl fB)), (cq, .inl (cJ, 64, .inr (.inl fC))), (pq, .inl (cI, 8, .inl fT))]) [0, 1, 2, 3, 4, 5, 6] (by decide) rfl
    have hFc := va_free (wc := [(q, .inr (7, [.ref mq, .ref zq, .ref sq, .ref bq, .ref cq, .long sm, .ref pq, .int ps, .int th])), (mq, .inl (cZ, 12288, .inl fM)), (zq, .inl (cI, 3, .inl fS)), (sq, .inl (cI, 6156, .inl fP)), (bq, .inl (cI, 3, .inl fB)), (cq, .inl (cJ, 64, .inr (.inl fC))), (pq, .inl (cI, 8, .inl fT))]) hD hS hA [0, 1, 2, 3, 4, 5, 6] rfl
    refine va_calli (va_runV (As := [.int (b2i false)]) (rest := []) ⟨hx, hb, hml, hown, hts⟩ (c_X8_asked l dC dI q mq zq sq bq cq pq cZ cI cJ fM fS fP fB fC sm fT ps th false s.heap.size ) (cwV 1 hts gX8_isCluster_X8_asked rfl rfl rfl (by decide +kernel) ⟨Nat.le_of_ble_eq_true rfl, Nat.le_of_ble_eq_true rfl⟩) ⟨fun a U g mk q => by obtain ⟨q0, q1, qP, qK, qD⟩ := q; exact ⟨q0, q1, qP, va_K.moved (u := U) (U := U.calling g mk a) (Vm.Alike.refl U.vm) qK, qD⟩, va_recv hKc hPc (ci := 7) (q0 := 0) rfl rfl, fun U hU hW => ⟨rfl, by rw [hU], by rw [hU]; exact hPc, va_K.moved hW.alike hKc, hDc.weaken (fun _ _ _ _ => trivial)⟩⟩ rfl rfl hl.1 rfl (lv_room (Nat.le_of_ble_eq_true rfl)) dX8_isCluster_23 ⟨Nat.le_of_ble_eq_true rfl, Nat.le_of_ble_eq_true rfl⟩) hS (fun q _ h => hFc q h) hFc (fun r_6 u_5 t9 H1 locs ht hvm hw_4 hB hz1 hk1 hS => ?_)
    obtain ⟨th'_7, rfl⟩ : ∃ z, z = u_5 := ⟨_, rfl⟩
    obtain ⟨hP1, hK1, hD1⟩ := hB
    rw [ht] at hP1
    have hK1 := va_K.moved hvm.symm hK1
    try dsimp only at hw_4 hP1 hK1 hD1
    obtain ⟨hP, hD⟩ := va_join (wr := []) (w1 := [(q, .inr (7, [.ref mq, .ref zq, .ref sq, .ref bq, .ref cq, .long sm, .ref pq, .int ps, .int th'_7])), (mq, .inl (cZ, 12288, .inl fM)), (zq, .inl (cI, 3, .inl fS)), (sq, .inl (cI, 6156, .inl fP)), (bq, .inl (cI, 3, .inl fB)), (cq, .inl (cJ, 64, .inr (.inl fC))), (pq, .inl (cI, 8, .inl fT))]) hP hD [0, 1, 2, 3, 4, 5, 6] [] rfl rfl (by decide) (by decide) hk1 hFc hP1 hD1
    generalize H1 = H at hP hS ⊢
    have hP : va_P (dC, dI) vwCl [(q, .inr (7, [.ref mq, .ref zq, .ref sq, .ref bq, .ref cq, .long sm, .ref pq, .int ps, .int th'_7])), (mq, .inl (cZ, 12288, .inl fM)), (zq, .inl (cI, 3, .inl fS)), (sq, .inl (cI, 6156, .inl fP)), (bq, .inl (cI, 3, .inl fB)), (cq, .inl (cJ, 64, .inr (.inl fC))), (pq, .inl (cI, 8, .inl fT))] H := hP
    have hD : va_D A [(q, .inr (7, [.ref mq, .ref zq, .ref sq, .ref bq, .ref cq, .long sm, .ref pq, .int ps, .int th'_7])), (mq, .inl (cZ, 12288, .inl fM)), (zq, .inl (cI, 3, .inl fS)), (sq, .inl (cI, 6156, .inl fP)), (bq, .inl (cI, 3, .inl fB)), (cq, .inl (cJ, 64, .inr (.inl fC))), (pq, .inl (cI, 8, .inl fT))] := hD
    obtain ⟨he, hw_4⟩ := hw_4
    subst he
    have hth := hw_4
    refine lv_istore_n (lv' := [(3, .int (b2i false)), (0, .ref q), (1, .int v), (2, .int w)]) hx hb dX8_isCluster_26 rfl hl (by decide) rfl (fun ls hl => ?_)
    refine lv_iload_n hx hb dX8_isCluster_27 rfl (lv_at hl 0 rfl) ?_
    refine lv_if_eq (tgt := 36) hx hb dX8_isCluster_28 (by decide) (fun qc_8 => ?_) (fun qc_8 => ?_)
    · have c_8 : false = false := b2i_f qc_8
      refine lv_iload_n hx hb dX8_isCluster_36 rfl (lv_at hl 0 rfl) ?_
      have hP9 := hP.sub (ws' := [(q, .inr (7, [.ref mq, .ref zq, .ref sq, .ref bq, .ref cq, .long sm, .ref pq, .int ps, .int th'_7])), (mq, .inl (cZ, 12288, .inl fM)), (zq, .inl (cI, 3, .inl fS)), (sq, .inl (cI, 6156, .inl fP)), (bq, .inl (cI, 3, .inl fB)), (cq, .inl (cJ, 64, .inr (.inl fC))), (pq, .inl (cI, 8, .inl fT))]) [0, 1, 2, 3, 4, 5, 6] rfl
      have hD9 := hD.sub (ws' := [(q, .inr (7, [.ref mq, .ref zq, .ref sq, .ref bq, .ref cq, .long sm, .ref pq, .int ps, .int th'_7])), (mq, .inl (cZ, 12288, .inl fM)), (zq, .inl (cI, 3, .inl fS)), (sq, .inl (cI, 6156, .inl fP)), (bq, .inl (cI, 3, .inl fB)), (cq, .inl (cJ, 64, .inr (.inl fC))), (pq, .inl (cI, 8, .inl fT))]) [0, 1, 2, 3, 4, 5, 6] (by decide) rfl
      have hK9 := hK.sub (tys' := [(cZ, .boolean), (cI, .int), (cJ, .long)]) [0, 1, 2] rfl
      exact W.zret (v := b2i false) hx hb hr (b2i_nar _) (fun t9 ht hW => ⟨⟨b2i false, th'_7, rfl, ⟨rfl, hth⟩, by rw [ht]; exact hP9, va_K.moved hW.alike hK9, hD9⟩, hS.F ht⟩) hS.2.2 dX8_isCluster_37
    · have c_8 : false = true := b2i_t qc_8
      cases c_8
  · have c_3 : false = true := b2i_t qc_3
    cases c_3
set_option maxHeartbeats 4000000 in
set_option maxRecDepth 100000 in
/-- reference: c_X8_clusterMinimum_v -/
theorem c_X8_clusterMinimum_v (l : Launch) (dC : Nat → ClassId) (dI : Nat → Nat → Nat) (q : Nat) (mq : Nat) (zq : Nat) (sq : Nat) (bq : Nat) (cq : Nat) (pq : Nat) (cZ : ClassId) (cI : ClassId) (cJ : ClassId) (fM : Nat → Int32) (fS : Nat → Int32) (fP : Nat → Int32) (fB : Nat → Int32) (fC : Nat → Int64) (sm : Int64) (fT : Nat → Int32) (ps : Int32) (th : Int32) (M : Nat → Nat → Bool) (k : Nat) (x : Nat) (sz : Nat) (hM : MM fM M) (hk : k < 3) (hxx : x < 64) : Met l yX8_clusterMinimum wsX8_clusterMinimum ({ frames := 4, cells := 0, slots := 0, locals := 93 }) (va_Pc [.ref q, .int (nI k), .int (nI x)] (fun U => U.heap.size = sz ∧ va_P (dC, dI) vwCl [(q, .inr (7, [.ref mq, .ref zq, .ref sq, .ref bq, .ref cq, .long sm, .ref pq, .int ps, .int th])), (mq, .inl (cZ, 12288, .inl fM)), (zq, .inl (cI, 3, .inl fS)), (sq, .inl (cI, 6156, .inl fP)), (bq, .inl (cI, 3, .inl fB)), (cq, .inl (cJ, 64, .inr (.inl fC))), (pq, .inl (cI, 8, .inl fT))] U.heap ∧ va_K (dC, dI) vwCl [(cZ, .boolean), (cI, .int), (cJ, .long)] U ∧ va_D (fun _ => True) [(q, .inr (7, [.ref mq, .ref zq, .ref sq, .ref bq, .ref cq, .long sm, .ref pq, .int ps, .int th])), (mq, .inl (cZ, 12288, .inl fM)), (zq, .inl (cI, 3, .inl fS)), (sq, .inl (cI, 6156, .inl fP)), (bq, .inl (cI, 3, .inl fB)), (cq, .inl (cJ, 64, .inr (.inl fC))), (pq, .inl (cI, 8, .inl fT))])) (va_Qi (fun (r : Int32) (u : (Nat → Int64) × Int64 × Int32) => r = oI (fst1 (gb (clw (M k) x)) 64) ∧ u.2.2 = nI 0) (fun (u : (Nat → Int64) × Int64 × Int32) (t : State) => va_P (dC, dI) vwCl [(q, .inr (7, [.ref mq, .ref zq, .ref sq, .ref bq, .ref cq, .long u.2.1, .ref pq, .int ps, .int u.2.2])), (mq, .inl (cZ, 12288, .inl fM)), (zq, .inl (cI, 3, .inl fS)), (sq, .inl (cI, 6156, .inl fP)), (bq, .inl (cI, 3, .inl fB)), (cq, .inl (cJ, 64, .inr (.inl u.1))), (pq, .inl (cI, 8, .inl fT))] t.heap ∧ va_K (dC, dI) vwCl [(cZ, .boolean), (cI, .int), (cJ, .long)] t ∧ va_D (va_A [(q, .inr (7, [.ref mq, .ref zq, .ref sq, .ref bq, .ref cq, .long sm, .ref pq, .int ps, .int th])), (mq, .inl (cZ, 12288, .inl fM)), (zq, .inl (cI, 3, .inl fS)), (sq, .inl (cI, 6156, .inl fP)), (bq, .inl (cI, 3, .inl fB)), (cq, .inl (cJ, 64, .inr (.inl fC))), (pq, .inl (cI, 8, .inl fT))] sz) [(q, .inr (7, [.ref mq, .ref zq, .ref sq, .ref bq, .ref cq, .long u.2.1, .ref pq, .int ps, .int u.2.2])), (mq, .inl (cZ, 12288, .inl fM)), (zq, .inl (cI, 3, .inl fS)), (sq, .inl (cI, 6156, .inl fP)), (bq, .inl (cI, 3, .inl fB)), (cq, .inl (cJ, 64, .inr (.inl u.1))), (pq, .inl (cI, 8, .inl fT))]) (va_A [(q, .inr (7, [.ref mq, .ref zq, .ref sq, .ref bq, .ref cq, .long sm, .ref pq, .int ps, .int th])), (mq, .inl (cZ, 12288, .inl fM)), (zq, .inl (cI, 3, .inl fS)), (sq, .inl (cI, 6156, .inl fP)), (bq, .inl (cI, 3, .inl fB)), (cq, .inl (cJ, 64, .inr (.inl fC))), (pq, .inl (cI, 8, .inl fT))] sz)) 0 0 (va_A [(q, .inr (7, [.ref mq, .ref zq, .ref sq, .ref bq, .ref cq, .long sm, .ref pq, .int ps, .int th])), (mq, .inl (cZ, 12288, .inl fM)), (zq, .inl (cI, 3, .inl fS)), (sq, .inl (cI, 6156, .inl fP)), (bq, .inl (cI, 3, .inl fB)), (cq, .inl (cJ, 64, .inr (.inl fC))), (pq, .inl (cI, 8, .inl fT))] sz) := by
  refine Met.ofW (cc := cX8_clusterMinimum) (maxL := 3) (ret := (some .int)) (by decide) rfl ?_
  intro p e s m args below meth c s₁ B hml hv
  obtain ⟨rfl, hsz, hP, hK, hD0⟩ := hv
  have hx := B.exec
  have hb := B.bytes
  have hr := B.returns
  have hts := atoms_spec (ws := wsX8_clusterMinimum) B.pre
  have hown : s.vm.findClass RX8 = some m.cls := findClass_of_methodNamed B.named
  have hlocks := B.notSynchronized
  subst hsz
  have hD := hD0.self (sz := s.heap.size)
  generalize hAe : va_A [(q, .inr (7, [.ref mq, .ref zq, .ref sq, .ref bq, .ref cq, .long sm, .ref pq, .int ps, .int th])), (mq, .inl (cZ, 12288, .inl fM)), (zq, .inl (cI, 3, .inl fS)), (sq, .inl (cI, 6156, .inl fP)), (bq, .inl (cI, 3, .inl fB)), (cq, .inl (cJ, 64, .inr (.inl fC))), (pq, .inl (cI, 8, .inl fT))] s.heap.size = A at hD ⊢
  have hA : ∀ q : Nat, s.heap.size ≤ q → A q := fun q h => by rw [← hAe]; exact Or.inr h
  have hS : va_S A s.heap s.heap [] := va_S.rf
  have hP : va_P (dC, dI) vwCl [(q, .inr (7, [.ref mq, .ref zq, .ref sq, .ref bq, .ref cq, .long sm, .ref pq, .int ps, .int th])), (mq, .inl (cZ, 12288, .inl fM)), (zq, .inl (cI, 3, .inl fS)), (sq, .inl (cI, 6156, .inl fP)), (bq, .inl (cI, 3, .inl fB)), (cq, .inl (cJ, 64, .inr (.inl fC))), (pq, .inl (cI, 8, .inl fT))] s.heap := hP
  have hl := lv_entry ([.ref q, .int (nI k), .int (nI x)]) (n := 3) (Nat.le_of_ble_eq_true rfl)
  rw [lg_entry_eq]
  generalize (lg_sl ([.ref q, .int (nI k), .int (nI x)]) ++ List.replicate (3 - (lg_sl ([.ref q, .int (nI k), .int (nI x)])).length) Slot.unset).toArray = ls at hl ⊢
  have hl : lv_has ls 3 [(0, .ref q), (1, .int (nI k)), (2, .int (nI x))] := hl
  refine lv_aload_n hx hb dX8_clusterMinimum_0 rfl (lv_at hl 0 rfl) ?_
  refine lv_iload_n hx hb dX8_clusterMinimum_1 rfl (lv_at hl 1 rfl) ?_
  refine lv_iload_n hx hb dX8_clusterMinimum_2 rfl (lv_at hl 2 rfl) ?_
  have hPc := hP.sub (ws' := [(q, .inr (7, [.ref mq, .ref zq, .ref sq, .ref bq, .ref cq, .long sm, .ref pq, .int ps, .int th])), (mq, .inl (cZ, 12288, .inl fM)), (zq, .inl (cI, 3, .inl fS)), (sq, .inl (cI, 6156, .inl fP)), (bq, .inl (cI, 3, .inl fB)), (cq, .inl (cJ, 64, .inr (.inl fC))), (pq, .inl (cI, 8, .inl fT))]) [0, 1, 2, 3, 4, 5, 6] rfl
  have hKc := hK.sub (tys' := [(cZ, .boolean), (cI, .int), (cJ, .long)]) [0, 1, 2] rfl
  have hDc := hD.sub (ws' := [(q, .inr (7, [.ref mq, .ref zq, .ref sq, .ref bq, .ref cq, .long sm, .ref pq, .int ps, .int th])), (mq, .inl (cZ, 12288, .inl fM)), (zq, .inl (cI, 3, .inl fS)), (sq, .inl (cI, 6156, .inl fP)), (bq, .inl (cI, 3, .inl fB)), (cq, .inl (cJ, 64, .inr (.inl fC))), (pq, .inl (cI, 8, .inl fT))]) [0, 1, 2, 3, 4, 5, 6] (by decide) rfl
  have hFc := va_free (wc := [(q, .inr (7, [.ref mq, .ref zq, .ref sq, .ref bq, .ref cq, .long sm, .ref pq, .int ps, .int th])), (mq, .inl (cZ, 12288, .inl fM)), (zq, .inl (cI, 3, .inl fS)), (sq, .inl (cI, 6156, .inl fP)), (bq, .inl (cI, 3, .inl fB)), (cq, .inl (cJ, 64, .inr (.inl fC))), (pq, .inl (cI, 8, .inl fT))]) hD hS hA [0, 1, 2, 3, 4, 5, 6] rfl
  refine va_calli (va_runV (As := [.int (nI k), .int (nI x)]) (rest := []) ⟨hx, hb, hml, hown, hts⟩ (c_X8_isCluster_v l dC dI q mq zq sq bq cq pq cZ cI cJ fM fS fP fB fC sm fT ps th M k x s.heap.size (by first | assumption | omega) (by first | assumption | omega) (by first | assumption | omega)) (cwV 2 hts gX8_clusterMinimum_X8_isCluster rfl rfl rfl (by decide +kernel) ⟨Nat.le_of_ble_eq_true rfl, Nat.le_of_ble_eq_true rfl⟩) ⟨fun a U g mk q => by obtain ⟨q0, q1, qP, qK, qD⟩ := q; exact ⟨q0, q1, qP, va_K.moved (u := U) (U := U.calling g mk a) (Vm.Alike.refl U.vm) qK, qD⟩, va_recv hKc hPc (ci := 7) (q0 := 0) rfl rfl, fun U hU hW => ⟨rfl, by rw [hU], by rw [hU]; exact hPc, va_K.moved hW.alike hKc, hDc.weaken (fun _ _ _ _ => trivial)⟩⟩ rfl rfl hl.1 rfl (lv_room (Nat.le_of_ble_eq_true rfl)) dX8_clusterMinimum_3 ⟨Nat.le_of_ble_eq_true rfl, Nat.le_of_ble_eq_true rfl⟩) hS (fun q _ h => hFc q h) hFc (fun r_3 u_2 t9 H1 locs ht hvm hw_1 hB hz1 hk1 hS => ?_)
  obtain ⟨fC'_4, sm'_5, th'_6⟩ := u_2
  obtain ⟨hP1, hK1, hD1⟩ := hB
  rw [ht] at hP1
  have hK1 := va_K.moved hvm.symm hK1
  try dsimp only at hw_1 hP1 hK1 hD1
  obtain ⟨hP, hD⟩ := va_join (wr := []) (w1 := [(q, .inr (7, [.ref mq, .ref zq, .ref sq, .ref bq, .ref cq, .long sm'_5, .ref pq, .int ps, .int th'_6])), (mq, .inl (cZ, 12288, .inl fM)), (zq, .inl (cI, 3, .inl fS)), (sq, .inl (cI, 6156, .inl fP)), (bq, .inl (cI, 3, .inl fB)), (cq, .inl (cJ, 64, .inr (.inl fC'_4))), (pq, .inl (cI, 8, .inl fT))]) hP hD [0, 1, 2, 3, 4, 5, 6] [] rfl rfl (by decide) (by decide) hk1 hFc hP1 hD1
  generalize H1 = H at hP hS ⊢
  have hP : va_P (dC, dI) vwCl [(q, .inr (7, [.ref mq, .ref zq, .ref sq, .ref bq, .ref cq, .long sm'_5, .ref pq, .int ps, .int th'_6])), (mq, .inl (cZ, 12288, .inl fM)), (zq, .inl (cI, 3, .inl fS)), (sq, .inl (cI, 6156, .inl fP)), (bq, .inl (cI, 3, .inl fB)), (cq, .inl (cJ, 64, .inr (.inl fC'_4))), (pq, .inl (cI, 8, .inl fT))] H := hP
  have hD : va_D A [(q, .inr (7, [.ref mq, .ref zq, .ref sq, .ref bq, .ref cq, .long sm'_5, .ref pq, .int ps, .int th'_6])), (mq, .inl (cZ, 12288, .inl fM)), (zq, .inl (cI, 3, .inl fS)), (sq, .inl (cI, 6156, .inl fP)), (bq, .inl (cI, 3, .inl fB)), (cq, .inl (cJ, 64, .inr (.inl fC'_4))), (pq, .inl (cI, 8, .inl fT))] := hD
  obtain ⟨he, hw_1⟩ := hw_1
  subst he
  have hgw := hw_1
  refine lv_if_eq (tgt := 21) hx hb dX8_clusterMinimum_6 (by decide) (fun qc_7 => ?_) (fun qc_7 => ?_)
  · have c_7 : true = false := b2i_f qc_7
    cases c_7
  · have c_7 : true = true := b2i_t qc_7
    refine lv_aload_n hx hb dX8_clusterMinimum_9 rfl (lv_at hl 0 rfl) ?_
    refine va_get (D := (dC, dI)) (ci := 7) (v := .ref cq) (C := RX8) (T := TX8) (N := 9) hx hb hts (by decide +kernel) hown hK hP 0 rfl rfl 4 (by decide) (hts (.fieldLink RX8 23 "SmallNumberSetsModel" "cluster" "[J") (by decide +kernel)) (fun _ h9 => h9) rfl dX8_clusterMinimum_10 ?_
    refine lv_iload_n hx hb dX8_clusterMinimum_13 rfl (lv_at hl 2 rfl) ?_
    refine va_lald hx hb hK hP 5 2 rfl rfl (vp_in_nI (by omega) (by omega)) dX8_clusterMinimum_14 ?_
    refine lv_cvl (congrArg fC'_4 (nI_clamp (by omega))) ?_
    refine lv_cvl (hgw.1 x hxx) ?_
    have hPc := hP.sub (ws' := []) [] rfl
    have hKc := hK.sub (tys' := []) [] rfl
    refine vp_callSi (W.runS (As := [.long (clw (M k) x)]) (rest := []) ⟨hx, hb, hml, hown, hts⟩ (c_X8_lowest l dC dI (clw (M k) x) ) (va_cwS 1 hts gX8_clusterMinimum_X8_lowest rfl rfl rfl (by decide +kernel) ⟨Nat.le_of_ble_eq_true rfl, Nat.le_of_ble_eq_true rfl⟩) ⟨fun a U g mk q => by obtain ⟨q0, qP, qK⟩ := q; exact ⟨q0, qP, va_K.moved (u := U) (U := U.calling g mk a) (Vm.Alike.refl U.vm) qK⟩, fun U hU hW => ⟨rfl, by rw [hU]; exact hPc, va_K.moved hW.alike hKc⟩⟩ rfl rfl hl.1 rfl (lv_room (Nat.le_of_ble_eq_true rfl)) dX8_clusterMinimum_15 ⟨Nat.le_of_ble_eq_true rfl, Nat.le_of_ble_eq_true rfl⟩) (fun r_9 hw_8 => ?_)
    subst hw_8
    refine lv_goto (tgt := 22) hx hb dX8_clusterMinimum_18 (by decide) ?_
    have hP9 := hP.sub (ws' := [(q, .inr (7, [.ref mq, .ref zq, .ref sq, .ref bq, .ref cq, .long sm'_5, .ref pq, .int ps, .int th'_6])), (mq, .inl (cZ, 12288, .inl fM)), (zq, .inl (cI, 3, .inl fS)), (sq, .inl (cI, 6156, .inl fP)), (bq, .inl (cI, 3, .inl fB)), (cq, .inl (cJ, 64, .inr (.inl fC'_4))), (pq, .inl (cI, 8, .inl fT))]) [0, 1, 2, 3, 4, 5, 6] rfl
    have hD9 := hD.sub (ws' := [(q, .inr (7, [.ref mq, .ref zq, .ref sq, .ref bq, .ref cq, .long sm'_5, .ref pq, .int ps, .int th'_6])), (mq, .inl (cZ, 12288, .inl fM)), (zq, .inl (cI, 3, .inl fS)), (sq, .inl (cI, 6156, .inl fP)), (bq, .inl (cI, 3, .inl fB)), (cq, .inl (cJ, 64, .inr (.inl fC'_4))), (pq, .inl (cI, 8, .inl fT))]) [0, 1, 2, 3, 4, 5, 6] (by decide) rfl
    have hK9 := hK.sub (tys' := [(cZ, .boolean), (cI, .int), (cJ, .long)]) [0, 1, 2] rfl
    exact W.iret (v := oI (fst1 (gb (clw (M k) x)) 64)) hx hb hr (fun t9 ht hW => ⟨⟨oI (fst1 (gb (clw (M k) x)) 64), ⟨fC'_4, sm'_5, th'_6⟩, rfl, (show (oI (fst1 (gb (clw (M k) x)) 64)) = oI (fst1 (gb (clw (M k) x)) 64) ∧ th'_6 = nI 0 from ⟨rfl, hgw.2.2⟩), by rw [ht]; exact hP9, va_K.moved hW.alike hK9, hD9⟩, hS.F ht⟩) hS.2.2 dX8_clusterMinimum_22
set_option maxHeartbeats 4000000 in
set_option maxRecDepth 100000 in
/-- reference: c_X8_clusterMinimum_n -/
theorem c_X8_clusterMinimum_n (l : Launch) (dC : Nat → ClassId) (dI : Nat → Nat → Nat) (q : Nat) (mq : Nat) (zq : Nat) (sq : Nat) (bq : Nat) (cq : Nat) (pq : Nat) (cZ : ClassId) (cI : ClassId) (cJ : ClassId) (fM : Nat → Int32) (fS : Nat → Int32) (fP : Nat → Int32) (fB : Nat → Int32) (fC : Nat → Int64) (sm : Int64) (fT : Nat → Int32) (ps : Int32) (th : Int32) (k : Nat) (w : Int32) (sz : Nat) (hk : k < 3) (hW : inB w 0 63 = false) : Met l yX8_clusterMinimum wsX8_clusterMinimum ({ frames := 3, cells := 0, slots := 0, locals := 65 }) (va_Pc [.ref q, .int (nI k), .int w] (fun U => U.heap.size = sz ∧ va_P (dC, dI) vwCl [(q, .inr (7, [.ref mq, .ref zq, .ref sq, .ref bq, .ref cq, .long sm, .ref pq, .int ps, .int th])), (mq, .inl (cZ, 12288, .inl fM)), (zq, .inl (cI, 3, .inl fS)), (sq, .inl (cI, 6156, .inl fP)), (bq, .inl (cI, 3, .inl fB)), (cq, .inl (cJ, 64, .inr (.inl fC))), (pq, .inl (cI, 8, .inl fT))] U.heap ∧ va_K (dC, dI) vwCl [(cZ, .boolean), (cI, .int), (cJ, .long)] U ∧ va_D (fun _ => True) [(q, .inr (7, [.ref mq, .ref zq, .ref sq, .ref bq, .ref cq, .long sm, .ref pq, .int ps, .int th])), (mq, .inl (cZ, 12288, .inl fM)), (zq, .inl (cI, 3, .inl fS)), (sq, .inl (cI, 6156, .inl fP)), (bq, .inl (cI, 3, .inl fB)), (cq, .inl (cJ, 64, .inr (.inl fC))), (pq, .inl (cI, 8, .inl fT))])) (va_Qi (fun (r : Int32) (u : Int32) => u = nI 1) (fun (u : Int32) (t : State) => va_P (dC, dI) vwCl [(q, .inr (7, [.ref mq, .ref zq, .ref sq, .ref bq, .ref cq, .long sm, .ref pq, .int ps, .int u])), (mq, .inl (cZ, 12288, .inl fM)), (zq, .inl (cI, 3, .inl fS)), (sq, .inl (cI, 6156, .inl fP)), (bq, .inl (cI, 3, .inl fB)), (cq, .inl (cJ, 64, .inr (.inl fC))), (pq, .inl (cI, 8, .inl fT))] t.heap ∧ va_K (dC, dI) vwCl [(cZ, .boolean), (cI, .int), (cJ, .long)] t ∧ va_D (va_A [(q, .inr (7, [.ref mq, .ref zq, .ref sq, .ref bq, .ref cq, .long sm, .ref pq, .int ps, .int th])), (mq, .inl (cZ, 12288, .inl fM)), (zq, .inl (cI, 3, .inl fS)), (sq, .inl (cI, 6156, .inl fP)), (bq, .inl (cI, 3, .inl fB)), (cq, .inl (cJ, 64, .inr (.inl fC))), (pq, .inl (cI, 8, .inl fT))] sz) [(q, .inr (7, [.ref mq, .ref zq, .ref sq, .ref bq, .ref cq, .long sm, .ref pq, .int ps, .int u])), (mq, .inl (cZ, 12288, .inl fM)), (zq, .inl (cI, 3, .inl fS)), (sq, .inl (cI, 6156, .inl fP)), (bq, .inl (cI, 3, .inl fB)), (cq, .inl (cJ, 64, .inr (.inl fC))), (pq, .inl (cI, 8, .inl fT))]) (va_A [(q, .inr (7, [.ref mq, .ref zq, .ref sq, .ref bq, .ref cq, .long sm, .ref pq, .int ps, .int th])), (mq, .inl (cZ, 12288, .inl fM)), (zq, .inl (cI, 3, .inl fS)), (sq, .inl (cI, 6156, .inl fP)), (bq, .inl (cI, 3, .inl fB)), (cq, .inl (cJ, 64, .inr (.inl fC))), (pq, .inl (cI, 8, .inl fT))] sz)) 0 0 (va_A [(q, .inr (7, [.ref mq, .ref zq, .ref sq, .ref bq, .ref cq, .long sm, .ref pq, .int ps, .int th])), (mq, .inl (cZ, 12288, .inl fM)), (zq, .inl (cI, 3, .inl fS)), (sq, .inl (cI, 6156, .inl fP)), (bq, .inl (cI, 3, .inl fB)), (cq, .inl (cJ, 64, .inr (.inl fC))), (pq, .inl (cI, 8, .inl fT))] sz) := by
  refine Met.ofW (cc := cX8_clusterMinimum) (maxL := 3) (ret := (some .int)) (by decide) rfl ?_
  intro p e s m args below meth c s₁ B hml hv
  obtain ⟨rfl, hsz, hP, hK, hD0⟩ := hv
  have hx := B.exec
  have hb := B.bytes
  have hr := B.returns
  have hts := atoms_spec (ws := wsX8_clusterMinimum) B.pre
  have hown : s.vm.findClass RX8 = some m.cls := findClass_of_methodNamed B.named
  have hlocks := B.notSynchronized
  subst hsz
  have hD := hD0.self (sz := s.heap.size)
  generalize hAe : va_A [(q, .inr (7, [.ref mq, .ref zq, .ref sq, .ref bq, .ref cq, .long sm, .ref pq, .int ps, .int th])), (mq, .inl (cZ, 12288, .inl fM)), (zq, .inl (cI, 3, .inl fS)), (sq, .inl (cI, 6156, .inl fP)), (bq, .inl (cI, 3, .inl fB)), (cq, .inl (cJ, 64, .inr (.inl fC))), (pq, .inl (cI, 8, .inl fT))] s.heap.size = A at hD ⊢
  have hA : ∀ q : Nat, s.heap.size ≤ q → A q := fun q h => by rw [← hAe]; exact Or.inr h
  have hS : va_S A s.heap s.heap [] := va_S.rf
  have hP : va_P (dC, dI) vwCl [(q, .inr (7, [.ref mq, .ref zq, .ref sq, .ref bq, .ref cq, .long sm, .ref pq, .int ps, .int th])), (mq, .inl (cZ, 12288, .inl fM)), (zq, .inl (cI, 3, .inl fS)), (sq, .inl (cI, 6156, .inl fP)), (bq, .inl (cI, 3, .inl fB)), (cq, .inl (cJ, 64, .inr (.inl fC))), (pq, .inl (cI, 8, .inl fT))] s.heap := hP
  have hl := lv_entry ([.ref q, .int (nI k), .int w]) (n := 3) (Nat.le_of_ble_eq_true rfl)
  rw [lg_entry_eq]
  generalize (lg_sl ([.ref q, .int (nI k), .int w]) ++ List.replicate (3 - (lg_sl ([.ref q, .int (nI k), .int w])).length) Slot.unset).toArray = ls at hl ⊢
  have hl : lv_has ls 3 [(0, .ref q), (1, .int (nI k)), (2, .int w)] := hl
  refine lv_aload_n hx hb dX8_clusterMinimum_0 rfl (lv_at hl 0 rfl) ?_
  refine lv_iload_n hx hb dX8_clusterMinimum_1 rfl (lv_at hl 1 rfl) ?_
  refine lv_iload_n hx hb dX8_clusterMinimum_2 rfl (lv_at hl 2 rfl) ?_
  have hPc := hP.sub (ws' := [(q, .inr (7, [.ref mq, .ref zq, .ref sq, .ref bq, .ref cq, .long sm, .ref pq, .int ps, .int th])), (mq, .inl (cZ, 12288, .inl fM)), (zq, .inl (cI, 3, .inl fS)), (sq, .inl (cI, 6156, .inl fP)), (bq, .inl (cI, 3, .inl fB)), (cq, .inl (cJ, 64, .inr (.inl fC))), (pq, .inl (cI, 8, .inl fT))]) [0, 1, 2, 3, 4, 5, 6] rfl
  have hKc := hK.sub (tys' := [(cZ, .boolean), (cI, .int), (cJ, .long)]) [0, 1, 2] rfl
  have hDc := hD.sub (ws' := [(q, .inr (7, [.ref mq, .ref zq, .ref sq, .ref bq, .ref cq, .long sm, .ref pq, .int ps, .int th])), (mq, .inl (cZ, 12288, .inl fM)), (zq, .inl (cI, 3, .inl fS)), (sq, .inl (cI, 6156, .inl fP)), (bq, .inl (cI, 3, .inl fB)), (cq, .inl (cJ, 64, .inr (.inl fC))), (pq, .inl (cI, 8, .inl fT))]) [0, 1, 2, 3, 4, 5, 6] (by decide) rfl
  have hFc := va_free (wc := [(q, .inr (7, [.ref mq, .ref zq, .ref sq, .ref bq, .ref cq, .long sm, .ref pq, .int ps, .int th])), (mq, .inl (cZ, 12288, .inl fM)), (zq, .inl (cI, 3, .inl fS)), (sq, .inl (cI, 6156, .inl fP)), (bq, .inl (cI, 3, .inl fB)), (cq, .inl (cJ, 64, .inr (.inl fC))), (pq, .inl (cI, 8, .inl fT))]) hD hS hA [0, 1, 2, 3, 4, 5, 6] rfl
  refine va_calli (va_runV (As := [.int (nI k), .int w]) (rest := []) ⟨hx, hb, hml, hown, hts⟩ (c_X8_isCluster_n l dC dI q mq zq sq bq cq pq cZ cI cJ fM fS fP fB fC sm fT ps th k w s.heap.size (by first | assumption | omega) (by first | assumption | omega)) (cwV 2 hts gX8_clusterMinimum_X8_isCluster rfl rfl rfl (by decide +kernel) ⟨Nat.le_of_ble_eq_true rfl, Nat.le_of_ble_eq_true rfl⟩) ⟨fun a U g mk q => by obtain ⟨q0, q1, qP, qK, qD⟩ := q; exact ⟨q0, q1, qP, va_K.moved (u := U) (U := U.calling g mk a) (Vm.Alike.refl U.vm) qK, qD⟩, va_recv hKc hPc (ci := 7) (q0 := 0) rfl rfl, fun U hU hW => ⟨rfl, by rw [hU], by rw [hU]; exact hPc, va_K.moved hW.alike hKc, hDc.weaken (fun _ _ _ _ => trivial)⟩⟩ rfl rfl hl.1 rfl (lv_room (Nat.le_of_ble_eq_true rfl)) dX8_clusterMinimum_3 ⟨Nat.le_of_ble_eq_true rfl, Nat.le_of_ble_eq_true rfl⟩) hS (fun q _ h => hFc q h) hFc (fun r_3 u_2 t9 H1 locs ht hvm hw_1 hB hz1 hk1 hS => ?_)
  obtain ⟨th'_4, rfl⟩ : ∃ z, z = u_2 := ⟨_, rfl⟩
  obtain ⟨hP1, hK1, hD1⟩ := hB
  rw [ht] at hP1
  have hK1 := va_K.moved hvm.symm hK1
  try dsimp only at hw_1 hP1 hK1 hD1
  obtain ⟨hP, hD⟩ := va_join (wr := []) (w1 := [(q, .inr (7, [.ref mq, .ref zq, .ref sq, .ref bq, .ref cq, .long sm, .ref pq, .int ps, .int th'_4])), (mq, .inl (cZ, 12288, .inl fM)), (zq, .inl (cI, 3, .inl fS)), (sq, .inl (cI, 6156, .inl fP)), (bq, .inl (cI, 3, .inl fB)), (cq, .inl (cJ, 64, .inr (.inl fC))), (pq, .inl (cI, 8, .inl fT))]) hP hD [0, 1, 2, 3, 4, 5, 6] [] rfl rfl (by decide) (by decide) hk1 hFc hP1 hD1
  generalize H1 = H at hP hS ⊢
  have hP : va_P (dC, dI) vwCl [(q, .inr (7, [.ref mq, .ref zq, .ref sq, .ref bq, .ref cq, .long sm, .ref pq, .int ps, .int th'_4])), (mq, .inl (cZ, 12288, .inl fM)), (zq, .inl (cI, 3, .inl fS)), (sq, .inl (cI, 6156, .inl fP)), (bq, .inl (cI, 3, .inl fB)), (cq, .inl (cJ, 64, .inr (.inl fC))), (pq, .inl (cI, 8, .inl fT))] H := hP
  have hD : va_D A [(q, .inr (7, [.ref mq, .ref zq, .ref sq, .ref bq, .ref cq, .long sm, .ref pq, .int ps, .int th'_4])), (mq, .inl (cZ, 12288, .inl fM)), (zq, .inl (cI, 3, .inl fS)), (sq, .inl (cI, 6156, .inl fP)), (bq, .inl (cI, 3, .inl fB)), (cq, .inl (cJ, 64, .inr (.inl fC))), (pq, .inl (cI, 8, .inl fT))] := hD
  obtain ⟨he, hw_1⟩ := hw_1
  subst he
  have hth := hw_1
  refine lv_if_eq (tgt := 21) hx hb dX8_clusterMinimum_6 (by decide) (fun qc_5 => ?_) (fun qc_5 => ?_)
  · have c_5 : false = false := b2i_f qc_5
    refine lv_iconst (v := nI 0) hx hb dX8_clusterMinimum_21 (by decide +kernel) ?_
    have hP9 := hP.sub (ws' := [(q, .inr (7, [.ref mq, .ref zq, .ref sq, .ref bq, .ref cq, .long sm, .ref pq, .int ps, .int th'_4])), (mq, .inl (cZ, 12288, .inl fM)), (zq, .inl (cI, 3, .inl fS)), (sq, .inl (cI, 6156, .inl fP)), (bq, .inl (cI, 3, .inl fB)), (cq, .inl (cJ, 64, .inr (.inl fC))), (pq, .inl (cI, 8, .inl fT))]) [0, 1, 2, 3, 4, 5, 6] rfl
    have hD9 := hD.sub (ws' := [(q, .inr (7, [.ref mq, .ref zq, .ref sq, .ref bq, .ref cq, .long sm, .ref pq, .int ps, .int th'_4])), (mq, .inl (cZ, 12288, .inl fM)), (zq, .inl (cI, 3, .inl fS)), (sq, .inl (cI, 6156, .inl fP)), (bq, .inl (cI, 3, .inl fB)), (cq, .inl (cJ, 64, .inr (.inl fC))), (pq, .inl (cI, 8, .inl fT))]) [0, 1, 2, 3, 4, 5, 6] (by decide) rfl
    have hK9 := hK.sub (tys' := [(cZ, .boolean), (cI, .int), (cJ, .long)]) [0, 1, 2] rfl
    exact W.iret (v := nI 0) hx hb hr (fun t9 ht hW => ⟨⟨nI 0, th'_4, rfl, hth, by rw [ht]; exact hP9, va_K.moved hW.alike hK9, hD9⟩, hS.F ht⟩) hS.2.2 dX8_clusterMinimum_22
  · have c_5 : false = true := b2i_t qc_5
    cases c_5
set_option maxHeartbeats 4000000 in
set_option maxRecDepth 100000 in
/-- reference: c_X8_clusterMinimum_s -/
theorem c_X8_clusterMinimum_s (l : Launch) (dC : Nat → ClassId) (dI : Nat → Nat → Nat) (q : Nat) (mq : Nat) (zq : Nat) (sq : Nat) (bq : Nat) (cq : Nat) (pq : Nat) (cZ : ClassId) (cI : ClassId) (cJ : ClassId) (fM : Nat → Int32) (fS : Nat → Int32) (fP : Nat → Int32) (fB : Nat → Int32) (fC : Nat → Int64) (sm : Int64) (fT : Nat → Int32) (ps : Int32) (th : Int32) (v : Int32) (w : Int32) (sz : Nat) (hSf : isS v = false) : Met l yX8_clusterMinimum wsX8_clusterMinimum ({ frames := 3, cells := 0, slots := 0, locals := 65 }) (va_Pc [.ref q, .int v, .int w] (fun U => U.heap.size = sz ∧ va_P (dC, dI) vwCl [(q, .inr (7, [.ref mq, .ref zq, .ref sq, .ref bq, .ref cq, .long sm, .ref pq, .int ps, .int th])), (mq, .inl (cZ, 12288, .inl fM)), (zq, .inl (cI, 3, .inl fS)), (sq, .inl (cI, 6156, .inl fP)), (bq, .inl (cI, 3, .inl fB)), (cq, .inl (cJ, 64, .inr (.inl fC))), (pq, .inl (cI, 8, .inl fT))] U.heap ∧ va_K (dC, dI) vwCl [(cZ, .boolean), (cI, .int), (cJ, .long)] U ∧ va_D (fun _ => True) [(q, .inr (7, [.ref mq, .ref zq, .ref sq, .ref bq, .ref cq, .long sm, .ref pq, .int ps, .int th])), (mq, .inl (cZ, 12288, .inl fM)), (zq, .inl (cI, 3, .inl fS)), (sq, .inl (cI, 6156, .inl fP)), (bq, .inl (cI, 3, .inl fB)), (cq, .inl (cJ, 64, .inr (.inl fC))), (pq, .inl (cI, 8, .inl fT))])) (va_Qi (fun (r : Int32) (u : Int32) => u = nI 1) (fun (u : Int32) (t : State) => va_P (dC, dI) vwCl [(q, .inr (7, [.ref mq, .ref zq, .ref sq, .ref bq, .ref cq, .long sm, .ref pq, .int ps, .int u])), (mq, .inl (cZ, 12288, .inl fM)), (zq, .inl (cI, 3, .inl fS)), (sq, .inl (cI, 6156, .inl fP)), (bq, .inl (cI, 3, .inl fB)), (cq, .inl (cJ, 64, .inr (.inl fC))), (pq, .inl (cI, 8, .inl fT))] t.heap ∧ va_K (dC, dI) vwCl [(cZ, .boolean), (cI, .int), (cJ, .long)] t ∧ va_D (va_A [(q, .inr (7, [.ref mq, .ref zq, .ref sq, .ref bq, .ref cq, .long sm, .ref pq, .int ps, .int th])), (mq, .inl (cZ, 12288, .inl fM)), (zq, .inl (cI, 3, .inl fS)), (sq, .inl (cI, 6156, .inl fP)), (bq, .inl (cI, 3, .inl fB)), (cq, .inl (cJ, 64, .inr (.inl fC))), (pq, .inl (cI, 8, .inl fT))] sz) [(q, .inr (7, [.ref mq, .ref zq, .ref sq, .ref bq, .ref cq, .long sm, .ref pq, .int ps, .int u])), (mq, .inl (cZ, 12288, .inl fM)), (zq, .inl (cI, 3, .inl fS)), (sq, .inl (cI, 6156, .inl fP)), (bq, .inl (cI, 3, .inl fB)), (cq, .inl (cJ, 64, .inr (.inl fC))), (pq, .inl (cI, 8, .inl fT))]) (va_A [(q, .inr (7, [.ref mq, .ref zq, .ref sq, .ref bq, .ref cq, .long sm, .ref pq, .int ps, .int th])), (mq, .inl (cZ, 12288, .inl fM)), (zq, .inl (cI, 3, .inl fS)), (sq, .inl (cI, 6156, .inl fP)), (bq, .inl (cI, 3, .inl fB)), (cq, .inl (cJ, 64, .inr (.inl fC))), (pq, .inl (cI, 8, .inl fT))] sz)) 0 0 (va_A [(q, .inr (7, [.ref mq, .ref zq, .ref sq, .ref bq, .ref cq, .long sm, .ref pq, .int ps, .int th])), (mq, .inl (cZ, 12288, .inl fM)), (zq, .inl (cI, 3, .inl fS)), (sq, .inl (cI, 6156, .inl fP)), (bq, .inl (cI, 3, .inl fB)), (cq, .inl (cJ, 64, .inr (.inl fC))), (pq, .inl (cI, 8, .inl fT))] sz) := by
  refine Met.ofW (cc := cX8_clusterMinimum) (maxL := 3) (ret := (some .int)) (by decide) rfl ?_
  intro p e s m args below meth c s₁ B hml hv
  obtain ⟨rfl, hsz, hP, hK, hD0⟩ := hv
  have hx := B.exec
  have hb := B.bytes
  have hr := B.returns
  have hts := atoms_spec (ws := wsX8_clusterMinimum) B.pre
  have hown : s.vm.findClass RX8 = some m.cls := findClass_of_methodNamed B.named
  have hlocks := B.notSynchronized
  subst hsz
  have hD := hD0.self (sz := s.heap.size)
  generalize hAe : va_A [(q, .inr (7, [.ref mq, .ref zq, .ref sq, .ref bq, .ref cq, .long sm, .ref pq, .int ps, .int th])), (mq, .inl (cZ, 12288, .inl fM)), (zq, .inl (cI, 3, .inl fS)), (sq, .inl (cI, 6156, .inl fP)), (bq, .inl (cI, 3, .inl fB)), (cq, .inl (cJ, 64, .inr (.inl fC))), (pq, .inl (cI, 8, .inl fT))] s.heap.size = A at hD ⊢
  have hA : ∀ q : Nat, s.heap.size ≤ q → A q := fun q h => by rw [← hAe]; exact Or.inr h
  have hS : va_S A s.heap s.heap [] := va_S.rf
  have hP : va_P (dC, dI) vwCl [(q, .inr (7, [.ref mq, .ref zq, .ref sq, .ref bq, .ref cq, .long sm, .ref pq, .int ps, .int th])), (mq, .inl (cZ, 12288, .inl fM)), (zq, .inl (cI, 3, .inl fS)), (sq, .inl (cI, 6156, .inl fP)), (bq, .inl (cI, 3, .inl fB)), (cq, .inl (cJ, 64, .inr (.inl fC))), (pq, .inl (cI, 8, .inl fT))] s.heap := hP
  have hl := lv_entry ([.ref q, .int v, .int w]) (n := 3) (Nat.le_of_ble_eq_true rfl)
  rw [lg_entry_eq]
  generalize (lg_sl ([.ref q, .int v, .int w]) ++ List.replicate (3 - (lg_sl ([.ref q, .int v, .int w])).length) Slot.unset).toArray = ls at hl ⊢
  have hl : lv_has ls 3 [(0, .ref q), (1, .int v), (2, .int w)] := hl
  refine lv_aload_n hx hb dX8_clusterMinimum_0 rfl (lv_at hl 0 rfl) ?_
  refine lv_iload_n hx hb dX8_clusterMinimum_1 rfl (lv_at hl 1 rfl) ?_
  refine lv_iload_n hx hb dX8_clusterMinimum_2 rfl (lv_at hl 2 rfl) ?_
  have hPc := hP.sub (ws' := [(q, .inr (7, [.ref mq, .ref zq, .ref sq, .ref bq, .ref cq, .long sm, .ref pq, .int ps, .int th])), (mq, .inl (cZ, 12288, .inl fM)), (zq, .inl (cI, 3, .inl fS)), (sq, .inl (cI, 6156, .inl fP)), (bq, .inl (cI, 3, .inl fB)), (cq, .inl (cJ, 64, .inr (.inl fC))), (pq, .inl (cI, 8, .inl fT))]) [0, 1, 2, 3, 4, 5, 6] rfl
  have hKc := hK.sub (tys' := [(cZ, .boolean), (cI, .int), (cJ, .long)]) [0, 1, 2] rfl
  have hDc := hD.sub (ws' := [(q, .inr (7, [.ref mq, .ref zq, .ref sq, .ref bq, .ref cq, .long sm, .ref pq, .int ps, .int th])), (mq, .inl (cZ, 12288, .inl fM)), (zq, .inl (cI, 3, .inl fS)), (sq, .inl (cI, 6156, .inl fP)), (bq, .inl (cI, 3, .inl fB)), (cq, .inl (cJ, 64, .inr (.inl fC))), (pq, .inl (cI, 8, .inl fT))]) [0, 1, 2, 3, 4, 5, 6] (by decide) rfl
  have hFc := va_free (wc := [(q, .inr (7, [.ref mq, .ref zq, .ref sq, .ref bq, .ref cq, .long sm, .ref pq, .int ps, .int th])), (mq, .inl (cZ, 12288, .inl fM)), (zq, .inl (cI, 3, .inl fS)), (sq, .inl (cI, 6156, .inl fP)), (bq, .inl (cI, 3, .inl fB)), (cq, .inl (cJ, 64, .inr (.inl fC))), (pq, .inl (cI, 8, .inl fT))]) hD hS hA [0, 1, 2, 3, 4, 5, 6] rfl
  refine va_calli (va_runV (As := [.int v, .int w]) (rest := []) ⟨hx, hb, hml, hown, hts⟩ (c_X8_isCluster_s l dC dI q mq zq sq bq cq pq cZ cI cJ fM fS fP fB fC sm fT ps th v w s.heap.size (by first | assumption | omega)) (cwV 2 hts gX8_clusterMinimum_X8_isCluster rfl rfl rfl (by decide +kernel) ⟨Nat.le_of_ble_eq_true rfl, Nat.le_of_ble_eq_true rfl⟩) ⟨fun a U g mk q => by obtain ⟨q0, q1, qP, qK, qD⟩ := q; exact ⟨q0, q1, qP, va_K.moved (u := U) (U := U.calling g mk a) (Vm.Alike.refl U.vm) qK, qD⟩, va_recv hKc hPc (ci := 7) (q0 := 0) rfl rfl, fun U hU hW => ⟨rfl, by rw [hU], by rw [hU]; exact hPc, va_K.moved hW.alike hKc, hDc.weaken (fun _ _ _ _ => trivial)⟩⟩ rfl rfl hl.1 rfl (lv_room (Nat.le_of_ble_eq_true rfl)) dX8_clusterMinimum_3 ⟨Nat.le_of_ble_eq_true rfl, Nat.le_of_ble_eq_true rfl⟩) hS (fun q _ h => hFc q h) hFc (fun r_3 u_2 t9 H1 locs ht hvm hw_1 hB hz1 hk1 hS => ?_)
  obtain ⟨th'_4, rfl⟩ : ∃ z, z = u_2 := ⟨_, rfl⟩
  obtain ⟨hP1, hK1, hD1⟩ := hB
  rw [ht] at hP1
  have hK1 := va_K.moved hvm.symm hK1
  try dsimp only at hw_1 hP1 hK1 hD1
  obtain ⟨hP, hD⟩ := va_join (wr := []) (w1 := [(q, .inr (7, [.ref mq, .ref zq, .ref sq, .ref bq, .ref cq, .long sm, .ref pq, .int ps, .int th'_4])), (mq, .inl (cZ, 12288, .inl fM)), (zq, .inl (cI, 3, .inl fS)), (sq, .inl (cI, 6156, .inl fP)), (bq, .inl (cI, 3, .inl fB)), (cq, .inl (cJ, 64, .inr (.inl fC))), (pq, .inl (cI, 8, .inl fT))]) hP hD [0, 1, 2, 3, 4, 5, 6] [] rfl rfl (by decide) (by decide) hk1 hFc hP1 hD1
  generalize H1 = H at hP hS ⊢
  have hP : va_P (dC, dI) vwCl [(q, .inr (7, [.ref mq, .ref zq, .ref sq, .ref bq, .ref cq, .long sm, .ref pq, .int ps, .int th'_4])), (mq, .inl (cZ, 12288, .inl fM)), (zq, .inl (cI, 3, .inl fS)), (sq, .inl (cI, 6156, .inl fP)), (bq, .inl (cI, 3, .inl fB)), (cq, .inl (cJ, 64, .inr (.inl fC))), (pq, .inl (cI, 8, .inl fT))] H := hP
  have hD : va_D A [(q, .inr (7, [.ref mq, .ref zq, .ref sq, .ref bq, .ref cq, .long sm, .ref pq, .int ps, .int th'_4])), (mq, .inl (cZ, 12288, .inl fM)), (zq, .inl (cI, 3, .inl fS)), (sq, .inl (cI, 6156, .inl fP)), (bq, .inl (cI, 3, .inl fB)), (cq, .inl (cJ, 64, .inr (.inl fC))), (pq, .inl (cI, 8, .inl fT))] := hD
  obtain ⟨he, hw_1⟩ := hw_1
  subst he
  have hth := hw_1
  refine lv_if_eq (tgt := 21) hx hb dX8_clusterMinimum_6 (by decide) (fun qc_5 => ?_) (fun qc_5 => ?_)
  · have c_5 : false = false := b2i_f qc_5
    refine lv_iconst (v := nI 0) hx hb dX8_clusterMinimum_21 (by decide +kernel) ?_
    have hP9 := hP.sub (ws' := [(q, .inr (7, [.ref mq, .ref zq, .ref sq, .ref bq, .ref cq, .long sm, .ref pq, .int ps, .int th'_4])), (mq, .inl (cZ, 12288, .inl fM)), (zq, .inl (cI, 3, .inl fS)), (sq, .inl (cI, 6156, .inl fP)), (bq, .inl (cI, 3, .inl fB)), (cq, .inl (cJ, 64, .inr (.inl fC))), (pq, .inl (cI, 8, .inl fT))]) [0, 1, 2, 3, 4, 5, 6] rfl
    have hD9 := hD.sub (ws' := [(q, .inr (7, [.ref mq, .ref zq, .ref sq, .ref bq, .ref cq, .long sm, .ref pq, .int ps, .int th'_4])), (mq, .inl (cZ, 12288, .inl fM)), (zq, .inl (cI, 3, .inl fS)), (sq, .inl (cI, 6156, .inl fP)), (bq, .inl (cI, 3, .inl fB)), (cq, .inl (cJ, 64, .inr (.inl fC))), (pq, .inl (cI, 8, .inl fT))]) [0, 1, 2, 3, 4, 5, 6] (by decide) rfl
    have hK9 := hK.sub (tys' := [(cZ, .boolean), (cI, .int), (cJ, .long)]) [0, 1, 2] rfl
    exact W.iret (v := nI 0) hx hb hr (fun t9 ht hW => ⟨⟨nI 0, th'_4, rfl, hth, by rw [ht]; exact hP9, va_K.moved hW.alike hK9, hD9⟩, hS.F ht⟩) hS.2.2 dX8_clusterMinimum_22
  · have c_5 : false = true := b2i_t qc_5
    cases c_5
set_option maxHeartbeats 4000000 in
set_option maxRecDepth 100000 in
/-- reference: c_X8_clusterMaximum_v -/
theorem c_X8_clusterMaximum_v (l : Launch) (dC : Nat → ClassId) (dI : Nat → Nat → Nat) (q : Nat) (mq : Nat) (zq : Nat) (sq : Nat) (bq : Nat) (cq : Nat) (pq : Nat) (cZ : ClassId) (cI : ClassId) (cJ : ClassId) (fM : Nat → Int32) (fS : Nat → Int32) (fP : Nat → Int32) (fB : Nat → Int32) (fC : Nat → Int64) (sm : Int64) (fT : Nat → Int32) (ps : Int32) (th : Int32) (M : Nat → Nat → Bool) (k : Nat) (x : Nat) (sz : Nat) (hM : MM fM M) (hk : k < 3) (hxx : x < 64) : Met l yX8_clusterMaximum wsX8_clusterMaximum ({ frames := 4, cells := 0, slots := 0, locals := 93 }) (va_Pc [.ref q, .int (nI k), .int (nI x)] (fun U => U.heap.size = sz ∧ va_P (dC, dI) vwCl [(q, .inr (7, [.ref mq, .ref zq, .ref sq, .ref bq, .ref cq, .long sm, .ref pq, .int ps, .int th])), (mq, .inl (cZ, 12288, .inl fM)), (zq, .inl (cI, 3, .inl fS)), (sq, .inl (cI, 6156, .inl fP)), (bq, .inl (cI, 3, .inl fB)), (cq, .inl (cJ, 64, .inr (.inl fC))), (pq, .inl (cI, 8, .inl fT))] U.heap ∧ va_K (dC, dI) vwCl [(cZ, .boolean), (cI, .int), (cJ, .long)] U ∧ va_D (fun _ => True) [(q, .inr (7, [.ref mq, .ref zq, .ref sq, .ref bq, .ref cq, .long sm, .ref pq, .int ps, .int th])), (mq, .inl (cZ, 12288, .inl fM)), (zq, .inl (cI, 3, .inl fS)), (sq, .inl (cI, 6156, .inl fP)), (bq, .inl (cI, 3, .inl fB)), (cq, .inl (cJ, 64, .inr (.inl fC))), (pq, .inl (cI, 8, .inl fT))])) (va_Qi (fun (r : Int32) (u : (Nat → Int64) × Int64 × Int32) => r = oI (lst1 (gb (clw (M k) x)) 64) ∧ u.2.2 = nI 0) (fun (u : (Nat → Int64) × Int64 × Int32) (t : State) => va_P (dC, dI) vwCl [(q, .inr (7, [.ref mq, .ref zq, .ref sq, .ref bq, .ref cq, .long u.2.1, .ref pq, .int ps, .int u.2.2])), (mq, .inl (cZ, 12288, .inl fM)), (zq, .inl (cI, 3, .inl fS)), (sq, .inl (cI, 6156, .inl fP)), (bq, .inl (cI, 3, .inl fB)), (cq, .inl (cJ, 64, .inr (.inl u.1))), (pq, .inl (cI, 8, .inl fT))] t.heap ∧ va_K (dC, dI) vwCl [(cZ, .boolean), (cI, .int), (cJ, .long)] t ∧ va_D (va_A [(q, .inr (7, [.ref mq, .ref zq, .ref sq, .ref bq, .ref cq, .long sm, .ref pq, .int ps, .int th])), (mq, .inl (cZ, 12288, .inl fM)), (zq, .inl (cI, 3, .inl fS)), (sq, .inl (cI, 6156, .inl fP)), (bq, .inl (cI, 3, .inl fB)), (cq, .inl (cJ, 64, .inr (.inl fC))), (pq, .inl (cI, 8, .inl fT))] sz) [(q, .inr (7, [.ref mq, .ref zq, .ref sq, .ref bq, .ref cq, .long u.2.1, .ref pq, .int ps, .int u.2.2])), (mq, .inl (cZ, 12288, .inl fM)), (zq, .inl (cI, 3, .inl fS)), (sq, .inl (cI, 6156, .inl fP)), (bq, .inl (cI, 3, .inl fB)), (cq, .inl (cJ, 64, .inr (.inl u.1))), (pq, .inl (cI, 8, .inl fT))]) (va_A [(q, .inr (7, [.ref mq, .ref zq, .ref sq, .ref bq, .ref cq, .long sm, .ref pq, .int ps, .int th])), (mq, .inl (cZ, 12288, .inl fM)), (zq, .inl (cI, 3, .inl fS)), (sq, .inl (cI, 6156, .inl fP)), (bq, .inl (cI, 3, .inl fB)), (cq, .inl (cJ, 64, .inr (.inl fC))), (pq, .inl (cI, 8, .inl fT))] sz)) 0 0 (va_A [(q, .inr (7, [.ref mq, .ref zq, .ref sq, .ref bq, .ref cq, .long sm, .ref pq, .int ps, .int th])), (mq, .inl (cZ, 12288, .inl fM)), (zq, .inl (cI, 3, .inl fS)), (sq, .inl (cI, 6156, .inl fP)), (bq, .inl (cI, 3, .inl fB)), (cq, .inl (cJ, 64, .inr (.inl fC))), (pq, .inl (cI, 8, .inl fT))] sz) := by
  refine Met.ofW (cc := cX8_clusterMaximum) (maxL := 3) (ret := (some .int)) (by decide) rfl ?_
  intro p e s m args below meth c s₁ B hml hv
  obtain ⟨rfl, hsz, hP, hK, hD0⟩ := hv
  have hx := B.exec
  have hb := B.bytes
  have hr := B.returns
  have hts := atoms_spec (ws := wsX8_clusterMaximum) B.pre
  have hown : s.vm.findClass RX8 = some m.cls := findClass_of_methodNamed B.named
  have hlocks := B.notSynchronized
  subst hsz
  have hD := hD0.self (sz := s.heap.size)
  generalize hAe : va_A [(q, .inr (7, [.ref mq, .ref zq, .ref sq, .ref bq, .ref cq, .long sm, .ref pq, .int ps, .int th])), (mq, .inl (cZ, 12288, .inl fM)), (zq, .inl (cI, 3, .inl fS)), (sq, .inl (cI, 6156, .inl fP)), (bq, .inl (cI, 3, .inl fB)), (cq, .inl (cJ, 64, .inr (.inl fC))), (pq, .inl (cI, 8, .inl fT))] s.heap.size = A at hD ⊢
  have hA : ∀ q : Nat, s.heap.size ≤ q → A q := fun q h => by rw [← hAe]; exact Or.inr h
  have hS : va_S A s.heap s.heap [] := va_S.rf
  have hP : va_P (dC, dI) vwCl [(q, .inr (7, [.ref mq, .ref zq, .ref sq, .ref bq, .ref cq, .long sm, .ref pq, .int ps, .int th])), (mq, .inl (cZ, 12288, .inl fM)), (zq, .inl (cI, 3, .inl fS)), (sq, .inl (cI, 6156, .inl fP)), (bq, .inl (cI, 3, .inl fB)), (cq, .inl (cJ, 64, .inr (.inl fC))), (pq, .inl (cI, 8, .inl fT))] s.heap := hP
  have hl := lv_entry ([.ref q, .int (nI k), .int (nI x)]) (n := 3) (Nat.le_of_ble_eq_true rfl)
  rw [lg_entry_eq]
  generalize (lg_sl ([.ref q, .int (nI k), .int (nI x)]) ++ List.replicate (3 - (lg_sl ([.ref q, .int (nI k), .int (nI x)])).length) Slot.unset).toArray = ls at hl ⊢
  have hl : lv_has ls 3 [(0, .ref q), (1, .int (nI k)), (2, .int (nI x))] := hl
  refine lv_aload_n hx hb dX8_clusterMaximum_0 rfl (lv_at hl 0 rfl) ?_
  refine lv_iload_n hx hb dX8_clusterMaximum_1 rfl (lv_at hl 1 rfl) ?_
  refine lv_iload_n hx hb dX8_clusterMaximum_2 rfl (lv_at hl 2 rfl) ?_
  have hPc := hP.sub (ws' := [(q, .inr (7, [.ref mq, .ref zq, .ref sq, .ref bq, .ref cq, .long sm, .ref pq, .int ps, .int th])), (mq, .inl (cZ, 12288, .inl fM)), (zq, .inl (cI, 3, .inl fS)), (sq, .inl (cI, 6156, .inl fP)), (bq, .inl (cI, 3, .inl fB)), (cq, .inl (cJ, 64, .inr (.inl fC))), (pq, .inl (cI, 8, .inl fT))]) [0, 1, 2, 3, 4, 5, 6] rfl
  have hKc := hK.sub (tys' := [(cZ, .boolean), (cI, .int), (cJ, .long)]) [0, 1, 2] rfl
  have hDc := hD.sub (ws' := [(q, .inr (7, [.ref mq, .ref zq, .ref sq, .ref bq, .ref cq, .long sm, .ref pq, .int ps, .int th])), (mq, .inl (cZ, 12288, .inl fM)), (zq, .inl (cI, 3, .inl fS)), (sq, .inl (cI, 6156, .inl fP)), (bq, .inl (cI, 3, .inl fB)), (cq, .inl (cJ, 64, .inr (.inl fC))), (pq, .inl (cI, 8, .inl fT))]) [0, 1, 2, 3, 4, 5, 6] (by decide) rfl
  have hFc := va_free (wc := [(q, .inr (7, [.ref mq, .ref zq, .ref sq, .ref bq, .ref cq, .long sm, .ref pq, .int ps, .int th])), (mq, .inl (cZ, 12288, .inl fM)), (zq, .inl (cI, 3, .inl fS)), (sq, .inl (cI, 6156, .inl fP)), (bq, .inl (cI, 3, .inl fB)), (cq, .inl (cJ, 64, .inr (.inl fC))), (pq, .inl (cI, 8, .inl fT))]) hD hS hA [0, 1, 2, 3, 4, 5, 6] rfl
  refine va_calli (va_runV (As := [.int (nI k), .int (nI x)]) (rest := []) ⟨hx, hb, hml, hown, hts⟩ (c_X8_isCluster_v l dC dI q mq zq sq bq cq pq cZ cI cJ fM fS fP fB fC sm fT ps th M k x s.heap.size (by first | assumption | omega) (by first | assumption | omega) (by first | assumption | omega)) (cwV 2 hts gX8_clusterMaximum_X8_isCluster rfl rfl rfl (by decide +kernel) ⟨Nat.le_of_ble_eq_true rfl, Nat.le_of_ble_eq_true rfl⟩) ⟨fun a U g mk q => by obtain ⟨q0, q1, qP, qK, qD⟩ := q; exact ⟨q0, q1, qP, va_K.moved (u := U) (U := U.calling g mk a) (Vm.Alike.refl U.vm) qK, qD⟩, va_recv hKc hPc (ci := 7) (q0 := 0) rfl rfl, fun U hU hW => ⟨rfl, by rw [hU], by rw [hU]; exact hPc, va_K.moved hW.alike hKc, hDc.weaken (fun _ _ _ _ => trivial)⟩⟩ rfl rfl hl.1 rfl (lv_room (Nat.le_of_ble_eq_true rfl)) dX8_clusterMaximum_3 ⟨Nat.le_of_ble_eq_true rfl, Nat.le_of_ble_eq_true rfl⟩) hS (fun q _ h => hFc q h) hFc (fun r_3 u_2 t9 H1 locs ht hvm hw_1 hB hz1 hk1 hS => ?_)
  obtain ⟨fC'_4, sm'_5, th'_6⟩ := u_2
  obtain ⟨hP1, hK1, hD1⟩ := hB
  rw [ht] at hP1
  have hK1 := va_K.moved hvm.symm hK1
  try dsimp only at hw_1 hP1 hK1 hD1
  obtain ⟨hP, hD⟩ := va_join (wr := []) (w1 := [(q, .inr (7, [.ref mq, .ref zq, .ref sq, .ref bq, .ref cq, .long sm'_5, .ref pq, .int ps, .int th'_6])), (mq, .inl (cZ, 12288, .inl fM)), (zq, .inl (cI, 3, .inl fS)), (sq, .inl (cI, 6156, .inl fP)), (bq, .inl (cI, 3, .inl fB)), (cq, .inl (cJ, 64, .inr (.inl fC'_4))), (pq, .inl (cI, 8, .inl fT))]) hP hD [0, 1, 2, 3, 4, 5, 6] [] rfl rfl (by decide) (by decide) hk1 hFc hP1 hD1
  generalize H1 = H at hP hS ⊢
  have hP : va_P (dC, dI) vwCl [(q, .inr (7, [.ref mq, .ref zq, .ref sq, .ref bq, .ref cq, .long sm'_5, .ref pq, .int ps, .int th'_6])), (mq, .inl (cZ, 12288, .inl fM)), (zq, .inl (cI, 3, .inl fS)), (sq, .inl (cI, 6156, .inl fP)), (bq, .inl (cI, 3, .inl fB)), (cq, .inl (cJ, 64, .inr (.inl fC'_4))), (pq, .inl (cI, 8, .inl fT))] H := hP
  have hD : va_D A [(q, .inr (7, [.ref mq, .ref zq, .ref sq, .ref bq, .ref cq, .long sm'_5, .ref pq, .int ps, .int th'_6])), (mq, .inl (cZ, 12288, .inl fM)), (zq, .inl (cI, 3, .inl fS)), (sq, .inl (cI, 6156, .inl fP)), (bq, .inl (cI, 3, .inl fB)), (cq, .inl (cJ, 64, .inr (.inl fC'_4))), (pq, .inl (cI, 8, .inl fT))] := hD
  obtain ⟨he, hw_1⟩ := hw_1
  subst he
  have hgw := hw_1
  refine lv_if_eq (tgt := 21) hx hb dX8_clusterMaximum_6 (by decide) (fun qc_7 => ?_) (fun qc_7 => ?_)
  · have c_7 : true = false := b2i_f qc_7
    cases c_7
  · have c_7 : true = true := b2i_t qc_7
    refine lv_aload_n hx hb dX8_clusterMaximum_9 rfl (lv_at hl 0 rfl) ?_
    refine va_get (D := (dC, dI)) (ci := 7) (v := .ref cq) (C := RX8) (T := TX8) (N := 9) hx hb hts (by decide +kernel) hown hK hP 0 rfl rfl 4 (by decide) (hts (.fieldLink RX8 23 "SmallNumberSetsModel" "cluster" "[J") (by decide +kernel)) (fun _ h9 => h9) rfl dX8_clusterMaximum_10 ?_
    refine lv_iload_n hx hb dX8_clusterMaximum_13 rfl (lv_at hl 2 rfl) ?_
    refine va_lald hx hb hK hP 5 2 rfl rfl (vp_in_nI (by omega) (by omega)) dX8_clusterMaximum_14 ?_
    refine lv_cvl (congrArg fC'_4 (nI_clamp (by omega))) ?_
    refine lv_cvl (hgw.1 x hxx) ?_
    have hPc := hP.sub (ws' := []) [] rfl
    have hKc := hK.sub (tys' := []) [] rfl
    refine vp_callSi (W.runS (As := [.long (clw (M k) x)]) (rest := []) ⟨hx, hb, hml, hown, hts⟩ (c_X8_highest l dC dI (clw (M k) x) ) (va_cwS 1 hts gX8_clusterMaximum_X8_highest rfl rfl rfl (by decide +kernel) ⟨Nat.le_of_ble_eq_true rfl, Nat.le_of_ble_eq_true rfl⟩) ⟨fun a U g mk q => by obtain ⟨q0, qP, qK⟩ := q; exact ⟨q0, qP, va_K.moved (u := U) (U := U.calling g mk a) (Vm.Alike.refl U.vm) qK⟩, fun U hU hW => ⟨rfl, by rw [hU]; exact hPc, va_K.moved hW.alike hKc⟩⟩ rfl rfl hl.1 rfl (lv_room (Nat.le_of_ble_eq_true rfl)) dX8_clusterMaximum_15 ⟨Nat.le_of_ble_eq_true rfl, Nat.le_of_ble_eq_true rfl⟩) (fun r_9 hw_8 => ?_)
    subst hw_8
    refine lv_goto (tgt := 22) hx hb dX8_clusterMaximum_18 (by decide) ?_
    have hP9 := hP.sub (ws' := [(q, .inr (7, [.ref mq, .ref zq, .ref sq, .ref bq, .ref cq, .long sm'_5, .ref pq, .int ps, .int th'_6])), (mq, .inl (cZ, 12288, .inl fM)), (zq, .inl (cI, 3, .inl fS)), (sq, .inl (cI, 6156, .inl fP)), (bq, .inl (cI, 3, .inl fB)), (cq, .inl (cJ, 64, .inr (.inl fC'_4))), (pq, .inl (cI, 8, .inl fT))]) [0, 1, 2, 3, 4, 5, 6] rfl
    have hD9 := hD.sub (ws' := [(q, .inr (7, [.ref mq, .ref zq, .ref sq, .ref bq, .ref cq, .long sm'_5, .ref pq, .int ps, .int th'_6])), (mq, .inl (cZ, 12288, .inl fM)), (zq, .inl (cI, 3, .inl fS)), (sq, .inl (cI, 6156, .inl fP)), (bq, .inl (cI, 3, .inl fB)), (cq, .inl (cJ, 64, .inr (.inl fC'_4))), (pq, .inl (cI, 8, .inl fT))]) [0, 1, 2, 3, 4, 5, 6] (by decide) rfl
    have hK9 := hK.sub (tys' := [(cZ, .boolean), (cI, .int), (cJ, .long)]) [0, 1, 2] rfl
    exact W.iret (v := oI (lst1 (gb (clw (M k) x)) 64)) hx hb hr (fun t9 ht hW => ⟨⟨oI (lst1 (gb (clw (M k) x)) 64), ⟨fC'_4, sm'_5, th'_6⟩, rfl, (show (oI (lst1 (gb (clw (M k) x)) 64)) = oI (lst1 (gb (clw (M k) x)) 64) ∧ th'_6 = nI 0 from ⟨rfl, hgw.2.2⟩), by rw [ht]; exact hP9, va_K.moved hW.alike hK9, hD9⟩, hS.F ht⟩) hS.2.2 dX8_clusterMaximum_22
set_option maxHeartbeats 4000000 in
set_option maxRecDepth 100000 in
/-- reference: c_X8_clusterMaximum_n -/
theorem c_X8_clusterMaximum_n (l : Launch) (dC : Nat → ClassId) (dI : Nat → Nat → Nat) (q : Nat) (mq : Nat) (zq : Nat) (sq : Nat) (bq : Nat) (cq : Nat) (pq : Nat) (cZ : ClassId) (cI : ClassId) (cJ : ClassId) (fM : Nat → Int32) (fS : Nat → Int32) (fP : Nat → Int32) (fB : Nat → Int32) (fC : Nat → Int64) (sm : Int64) (fT : Nat → Int32) (ps : Int32) (th : Int32) (k : Nat) (w : Int32) (sz : Nat) (hk : k < 3) (hW : inB w 0 63 = false) : Met l yX8_clusterMaximum wsX8_clusterMaximum ({ frames := 3, cells := 0, slots := 0, locals := 65 }) (va_Pc [.ref q, .int (nI k), .int w] (fun U => U.heap.size = sz ∧ va_P (dC, dI) vwCl [(q, .inr (7, [.ref mq, .ref zq, .ref sq, .ref bq, .ref cq, .long sm, .ref pq, .int ps, .int th])), (mq, .inl (cZ, 12288, .inl fM)), (zq, .inl (cI, 3, .inl fS)), (sq, .inl (cI, 6156, .inl fP)), (bq, .inl (cI, 3, .inl fB)), (cq, .inl (cJ, 64, .inr (.inl fC))), (pq, .inl (cI, 8, .inl fT))] U.heap ∧ va_K (dC, dI) vwCl [(cZ, .boolean), (cI, .int), (cJ, .long)] U ∧ va_D (fun _ => True) [(q, .inr (7, [.ref mq, .ref zq, .ref sq, .ref bq, .ref cq, .long sm, .ref pq, .int ps, .int th])), (mq, .inl (cZ, 12288, .inl fM)), (zq, .inl (cI, 3, .inl fS)), (sq, .inl (cI, 6156, .inl fP)), (bq, .inl (cI, 3, .inl fB)), (cq, .inl (cJ, 64, .inr (.inl fC))), (pq, .inl (cI, 8, .inl fT))])) (va_Qi (fun (r : Int32) (u : Int32) => u = nI 1) (fun (u : Int32) (t : State) => va_P (dC, dI) vwCl [(q, .inr (7, [.ref mq, .ref zq, .ref sq, .ref bq, .ref cq, .long sm, .ref pq, .int ps, .int u])), (mq, .inl (cZ, 12288, .inl fM)), (zq, .inl (cI, 3, .inl fS)), (sq, .inl (cI, 6156, .inl fP)), (bq, .inl (cI, 3, .inl fB)), (cq, .inl (cJ, 64, .inr (.inl fC))), (pq, .inl (cI, 8, .inl fT))] t.heap ∧ va_K (dC, dI) vwCl [(cZ, .boolean), (cI, .int), (cJ, .long)] t ∧ va_D (va_A [(q, .inr (7, [.ref mq, .ref zq, .ref sq, .ref bq, .ref cq, .long sm, .ref pq, .int ps, .int th])), (mq, .inl (cZ, 12288, .inl fM)), (zq, .inl (cI, 3, .inl fS)), (sq, .inl (cI, 6156, .inl fP)), (bq, .inl (cI, 3, .inl fB)), (cq, .inl (cJ, 64, .inr (.inl fC))), (pq, .inl (cI, 8, .inl fT))] sz) [(q, .inr (7, [.ref mq, .ref zq, .ref sq, .ref bq, .ref cq, .long sm, .ref pq, .int ps, .int u])), (mq, .inl (cZ, 12288, .inl fM)), (zq, .inl (cI, 3, .inl fS)), (sq, .inl (cI, 6156, .inl fP)), (bq, .inl (cI, 3, .inl fB)), (cq, .inl (cJ, 64, .inr (.inl fC))), (pq, .inl (cI, 8, .inl fT))]) (va_A [(q, .inr (7, [.ref mq, .ref zq, .ref sq, .ref bq, .ref cq, .long sm, .ref pq, .int ps, .int th])), (mq, .inl (cZ, 12288, .inl fM)), (zq, .inl (cI, 3, .inl fS)), (sq, .inl (cI, 6156, .inl fP)), (bq, .inl (cI, 3, .inl fB)), (cq, .inl (cJ, 64, .inr (.inl fC))), (pq, .inl (cI, 8, .inl fT))] sz)) 0 0 (va_A [(q, .inr (7, [.ref mq, .ref zq, .ref sq, .ref bq, .ref cq, .long sm, .ref pq, .int ps, .int th])), (mq, .inl (cZ, 12288, .inl fM)), (zq, .inl (cI, 3, .inl fS)), (sq, .inl (cI, 6156, .inl fP)), (bq, .inl (cI, 3, .inl fB)), (cq, .inl (cJ, 64, .inr (.inl fC))), (pq, .inl (cI, 8, .inl fT))] sz) := by
  refine Met.ofW (cc := cX8_clusterMaximum) (maxL := 3) (ret := (some .int)) (by decide) rfl ?_
  intro p e s m args below meth c s₁ B hml hv
  obtain ⟨rfl, hsz, hP, hK, hD0⟩ := hv
  have hx := B.exec
  have hb := B.bytes
  have hr := B.returns
  have hts := atoms_spec (ws := wsX8_clusterMaximum) B.pre
  have hown : s.vm.findClass RX8 = some m.cls := findClass_of_methodNamed B.named
  have hlocks := B.notSynchronized
  subst hsz
  have hD := hD0.self (sz := s.heap.size)
  generalize hAe : va_A [(q, .inr (7, [.ref mq, .ref zq, .ref sq, .ref bq, .ref cq, .long sm, .ref pq, .int ps, .int th])), (mq, .inl (cZ, 12288, .inl fM)), (zq, .inl (cI, 3, .inl fS)), (sq, .inl (cI, 6156, .inl fP)), (bq, .inl (cI, 3, .inl fB)), (cq, .inl (cJ, 64, .inr (.inl fC))), (pq, .inl (cI, 8, .inl fT))] s.heap.size = A at hD ⊢
  have hA : ∀ q : Nat, s.heap.size ≤ q → A q := fun q h => by rw [← hAe]; exact Or.inr h
  have hS : va_S A s.heap s.heap [] := va_S.rf
  have hP : va_P (dC, dI) vwCl [(q, .inr (7, [.ref mq, .ref zq, .ref sq, .ref bq, .ref cq, .long sm, .ref pq, .int ps, .int th])), (mq, .inl (cZ, 12288, .inl fM)), (zq, .inl (cI, 3, .inl fS)), (sq, .inl (cI, 6156, .inl fP)), (bq, .inl (cI, 3, .inl fB)), (cq, .inl (cJ, 64, .inr (.inl fC))), (pq, .inl (cI, 8, .inl fT))] s.heap := hP
  have hl := lv_entry ([.ref q, .int (nI k), .int w]) (n := 3) (Nat.le_of_ble_eq_true rfl)
  rw [lg_entry_eq]
  generalize (lg_sl ([.ref q, .int (nI k), .int w]) ++ List.replicate (3 - (lg_sl ([.ref q, .int (nI k), .int w])).length) Slot.unset).toArray = ls at hl ⊢
  have hl : lv_has ls 3 [(0, .ref q), (1, .int (nI k)), (2, .int w)] := hl
  refine lv_aload_n hx hb dX8_clusterMaximum_0 rfl (lv_at hl 0 rfl) ?_
  refine lv_iload_n hx hb dX8_clusterMaximum_1 rfl (lv_at hl 1 rfl) ?_
  refine lv_iload_n hx hb dX8_clusterMaximum_2 rfl (lv_at hl 2 rfl) ?_
  have hPc := hP.sub (ws' := [(q, .inr (7, [.ref mq, .ref zq, .ref sq, .ref bq, .ref cq, .long sm, .ref pq, .int ps, .int th])), (mq, .inl (cZ, 12288, .inl fM)), (zq, .inl (cI, 3, .inl fS)), (sq, .inl (cI, 6156, .inl fP)), (bq, .inl (cI, 3, .inl fB)), (cq, .inl (cJ, 64, .inr (.inl fC))), (pq, .inl (cI, 8, .inl fT))]) [0, 1, 2, 3, 4, 5, 6] rfl
  have hKc := hK.sub (tys' := [(cZ, .boolean), (cI, .int), (cJ, .long)]) [0, 1, 2] rfl
  have hDc := hD.sub (ws' := [(q, .inr (7, [.ref mq, .ref zq, .ref sq, .ref bq, .ref cq, .long sm, .ref pq, .int ps, .int th])), (mq, .inl (cZ, 12288, .inl fM)), (zq, .inl (cI, 3, .inl fS)), (sq, .inl (cI, 6156, .inl fP)), (bq, .inl (cI, 3, .inl fB)), (cq, .inl (cJ, 64, .inr (.inl fC))), (pq, .inl (cI, 8, .inl fT))]) [0, 1, 2, 3, 4, 5, 6] (by decide) rfl
  have hFc := va_free (wc := [(q, .inr (7, [.ref mq, .ref zq, .ref sq, .ref bq, .ref cq, .long sm, .ref pq, .int ps, .int th])), (mq, .inl (cZ, 12288, .inl fM)), (zq, .inl (cI, 3, .inl fS)), (sq, .inl (cI, 6156, .inl fP)), (bq, .inl (cI, 3, .inl fB)), (cq, .inl (cJ, 64, .inr (.inl fC))), (pq, .inl (cI, 8, .inl fT))]) hD hS hA [0, 1, 2, 3, 4, 5, 6] rfl
  refine va_calli (va_runV (As := [.int (nI k), .int w]) (rest := []) ⟨hx, hb, hml, hown, hts⟩ (c_X8_isCluster_n l dC dI q mq zq sq bq cq pq cZ cI cJ fM fS fP fB fC sm fT ps th k w s.heap.size (by first | assumption | omega) (by first | assumption | omega)) (cwV 2 hts gX8_clusterMaximum_X8_isCluster rfl rfl rfl (by decide +kernel) ⟨Nat.le_of_ble_eq_true rfl, Nat.le_of_ble_eq_true rfl⟩) ⟨fun a U g mk q => by obtain ⟨q0, q1, qP, qK, qD⟩ := q; exact ⟨q0, q1, qP, va_K.moved (u := U) (U := U.calling g mk a) (Vm.Alike.refl U.vm) qK, qD⟩, va_recv hKc hPc (ci := 7) (q0 := 0) rfl rfl, fun U hU hW => ⟨rfl, by rw [hU], by rw [hU]; exact hPc, va_K.moved hW.alike hKc, hDc.weaken (fun _ _ _ _ => trivial)⟩⟩ rfl rfl hl.1 rfl (lv_room (Nat.le_of_ble_eq_true rfl)) dX8_clusterMaximum_3 ⟨Nat.le_of_ble_eq_true rfl, Nat.le_of_ble_eq_true rfl⟩) hS (fun q _ h => hFc q h) hFc (fun r_3 u_2 t9 H1 locs ht hvm hw_1 hB hz1 hk1 hS => ?_)
  obtain ⟨th'_4, rfl⟩ : ∃ z, z = u_2 := ⟨_, rfl⟩
  obtain ⟨hP1, hK1, hD1⟩ := hB
  rw [ht] at hP1
  have hK1 := va_K.moved hvm.symm hK1
  try dsimp only at hw_1 hP1 hK1 hD1
  obtain ⟨hP, hD⟩ := va_join (wr := []) (w1 := [(q, .inr (7, [.ref mq, .ref zq, .ref sq, .ref bq, .ref cq, .long sm, .ref pq, .int ps, .int th'_4])), (mq, .inl (cZ, 12288, .inl fM)), (zq, .inl (cI, 3, .inl fS)), (sq, .inl (cI, 6156, .inl fP)), (bq, .inl (cI, 3, .inl fB)), (cq, .inl (cJ, 64, .inr (.inl fC))), (pq, .inl (cI, 8, .inl fT))]) hP hD [0, 1, 2, 3, 4, 5, 6] [] rfl rfl (by decide) (by decide) hk1 hFc hP1 hD1
  generalize H1 = H at hP hS ⊢
  have hP : va_P (dC, dI) vwCl [(q, .inr (7, [.ref mq, .ref zq, .ref sq, .ref bq, .ref cq, .long sm, .ref pq, .int ps, .int th'_4])), (mq, .inl (cZ, 12288, .inl fM)), (zq, .inl (cI, 3, .inl fS)), (sq, .inl (cI, 6156, .inl fP)), (bq, .inl (cI, 3, .inl fB)), (cq, .inl (cJ, 64, .inr (.inl fC))), (pq, .inl (cI, 8, .inl fT))] H := hP
  have hD : va_D A [(q, .inr (7, [.ref mq, .ref zq, .ref sq, .ref bq, .ref cq, .long sm, .ref pq, .int ps, .int th'_4])), (mq, .inl (cZ, 12288, .inl fM)), (zq, .inl (cI, 3, .inl fS)), (sq, .inl (cI, 6156, .inl fP)), (bq, .inl (cI, 3, .inl fB)), (cq, .inl (cJ, 64, .inr (.inl fC))), (pq, .inl (cI, 8, .inl fT))] := hD
  obtain ⟨he, hw_1⟩ := hw_1
  subst he
  have hth := hw_1
  refine lv_if_eq (tgt := 21) hx hb dX8_clusterMaximum_6 (by decide) (fun qc_5 => ?_) (fun qc_5 => ?_)
  · have c_5 : false = false := b2i_f qc_5
    refine lv_iconst (v := nI 0) hx hb dX8_clusterMaximum_21 (by decide +kernel) ?_
    have hP9 := hP.sub (ws' := [(q, .inr (7, [.ref mq, .ref zq, .ref sq, .ref bq, .ref cq, .long sm, .ref pq, .int ps, .int th'_4])), (mq, .inl (cZ, 12288, .inl fM)), (zq, .inl (cI, 3, .inl fS)), (sq, .inl (cI, 6156, .inl fP)), (bq, .inl (cI, 3, .inl fB)), (cq, .inl (cJ, 64, .inr (.inl fC))), (pq, .inl (cI, 8, .inl fT))]) [0, 1, 2, 3, 4, 5, 6] rfl
    have hD9 := hD.sub (ws' := [(q, .inr (7, [.ref mq, .ref zq, .ref sq, .ref bq, .ref cq, .long sm, .ref pq, .int ps, .int th'_4])), (mq, .inl (cZ, 12288, .inl fM)), (zq, .inl (cI, 3, .inl fS)), (sq, .inl (cI, 6156, .inl fP)), (bq, .inl (cI, 3, .inl fB)), (cq, .inl (cJ, 64, .inr (.inl fC))), (pq, .inl (cI, 8, .inl fT))]) [0, 1, 2, 3, 4, 5, 6] (by decide) rfl
    have hK9 := hK.sub (tys' := [(cZ, .boolean), (cI, .int), (cJ, .long)]) [0, 1, 2] rfl
    exact W.iret (v := nI 0) hx hb hr (fun t9 ht hW => ⟨⟨nI 0, th'_4, rfl, hth, by rw [ht]; exact hP9, va_K.moved hW.alike hK9, hD9⟩, hS.F ht⟩) hS.2.2 dX8_clusterMaximum_22
  · have c_5 : false = true := b2i_t qc_5
    cases c_5
set_option maxHeartbeats 4000000 in
set_option maxRecDepth 100000 in
/-- reference: c_X8_clusterMaximum_s -/
theorem c_X8_clusterMaximum_s (l : Launch) (dC : Nat → ClassId) (dI : Nat → Nat → Nat) (q : Nat) (mq : Nat) (zq : Nat) (sq : Nat) (bq : Nat) (cq : Nat) (pq : Nat) (cZ : ClassId) (cI : ClassId) (cJ : ClassId) (fM : Nat → Int32) (fS : Nat → Int32) (fP : Nat → Int32) (fB : Nat → Int32) (fC : Nat → Int64) (sm : Int64) (fT : Nat → Int32) (ps : Int32) (th : Int32) (v : Int32) (w : Int32) (sz : Nat) (hSf : isS v = false) : Met l yX8_clusterMaximum wsX8_clusterMaximum ({ frames := 3, cells := 0, slots := 0, locals := 65 }) (va_Pc [.ref q, .int v, .int w] (fun U => U.heap.size = sz ∧ va_P (dC, dI) vwCl [(q, .inr (7, [.ref mq, .ref zq, .ref sq, .ref bq, .ref cq, .long sm, .ref pq, .int ps, .int th])), (mq, .inl (cZ, 12288, .inl fM)), (zq, .inl (cI, 3, .inl fS)), (sq, .inl (cI, 6156, .inl fP)), (bq, .inl (cI, 3, .inl fB)), (cq, .inl (cJ, 64, .inr (.inl fC))), (pq, .inl (cI, 8, .inl fT))] U.heap ∧ va_K (dC, dI) vwCl [(cZ, .boolean), (cI, .int), (cJ, .long)] U ∧ va_D (fun _ => True) [(q, .inr (7, [.ref mq, .ref zq, .ref sq, .ref bq, .ref cq, .long sm, .ref pq, .int ps, .int th])), (mq, .inl (cZ, 12288, .inl fM)), (zq, .inl (cI, 3, .inl fS)), (sq, .inl (cI, 6156, .inl fP)), (bq, .inl (cI, 3, .inl fB)), (cq, .inl (cJ, 64, .inr (.inl fC))), (pq, .inl (cI, 8, .inl fT))])) (va_Qi (fun (r : Int32) (u : Int32) => u = nI 1) (fun (u : Int32) (t : State) => va_P (dC, dI) vwCl [(q, .inr (7, [.ref mq, .ref zq, .ref sq, .ref bq, .ref cq, .long sm, .ref pq, .int ps, .int u])), (mq, .inl (cZ, 12288, .inl fM)), (zq, .inl (cI, 3, .inl fS)), (sq, .inl (cI, 6156, .inl fP)), (bq, .inl (cI, 3, .inl fB)), (cq, .inl (cJ, 64, .inr (.inl fC))), (pq, .inl (cI, 8, .inl fT))] t.heap ∧ va_K (dC, dI) vwCl [(cZ, .boolean), (cI, .int), (cJ, .long)] t ∧ va_D (va_A [(q, .inr (7, [.ref mq, .ref zq, .ref sq, .ref bq, .ref cq, .long sm, .ref pq, .int ps, .int th])), (mq, .inl (cZ, 12288, .inl fM)), (zq, .inl (cI, 3, .inl fS)), (sq, .inl (cI, 6156, .inl fP)), (bq, .inl (cI, 3, .inl fB)), (cq, .inl (cJ, 64, .inr (.inl fC))), (pq, .inl (cI, 8, .inl fT))] sz) [(q, .inr (7, [.ref mq, .ref zq, .ref sq, .ref bq, .ref cq, .long sm, .ref pq, .int ps, .int u])), (mq, .inl (cZ, 12288, .inl fM)), (zq, .inl (cI, 3, .inl fS)), (sq, .inl (cI, 6156, .inl fP)), (bq, .inl (cI, 3, .inl fB)), (cq, .inl (cJ, 64, .inr (.inl fC))), (pq, .inl (cI, 8, .inl fT))]) (va_A [(q, .inr (7, [.ref mq, .ref zq, .ref sq, .ref bq, .ref cq, .long sm, .ref pq, .int ps, .int th])), (mq, .inl (cZ, 12288, .inl fM)), (zq, .inl (cI, 3, .inl fS)), (sq, .inl (cI, 6156, .inl fP)), (bq, .inl (cI, 3, .inl fB)), (cq, .inl (cJ, 64, .inr (.inl fC))), (pq, .inl (cI, 8, .inl fT))] sz)) 0 0 (va_A [(q, .inr (7, [.ref mq, .ref zq, .ref sq, .ref bq, .ref cq, .long sm, .ref pq, .int ps, .int th])), (mq, .inl (cZ, 12288, .inl fM)), (zq, .inl (cI, 3, .inl fS)), (sq, .inl (cI, 6156, .inl fP)), (bq, .inl (cI, 3, .inl fB)), (cq, .inl (cJ, 64, .inr (.inl fC))), (pq, .inl (cI, 8, .inl fT))] sz) := by
  refine Met.ofW (cc := cX8_clusterMaximum) (maxL := 3) (ret := (some .int)) (by decide) rfl ?_
  intro p e s m args below meth c s₁ B hml hv
  obtain ⟨rfl, hsz, hP, hK, hD0⟩ := hv
  have hx := B.exec
  have hb := B.bytes
  have hr := B.returns
  have hts := atoms_spec (ws := wsX8_clusterMaximum) B.pre
  have hown : s.vm.findClass RX8 = some m.cls := findClass_of_methodNamed B.named
  have hlocks := B.notSynchronized
  subst hsz
  have hD := hD0.self (sz := s.heap.size)
  generalize hAe : va_A [(q, .inr (7, [.ref mq, .ref zq, .ref sq, .ref bq, .ref cq, .long sm, .ref pq, .int ps, .int th])), (mq, .inl (cZ, 12288, .inl fM)), (zq, .inl (cI, 3, .inl fS)), (sq, .inl (cI, 6156, .inl fP)), (bq, .inl (cI, 3, .inl fB)), (cq, .inl (cJ, 64, .inr (.inl fC))), (pq, .inl (cI, 8, .inl fT))] s.heap.size = A at hD ⊢
  have hA : ∀ q : Nat, s.heap.size ≤ q → A q := fun q h => by rw [← hAe]; exact Or.inr h
  have hS : va_S A s.heap s.heap [] := va_S.rf
  have hP : va_P (dC, dI) vwCl [(q, .inr (7, [.ref mq, .ref zq, .ref sq, .ref bq, .ref cq, .long sm, .ref pq, .int ps, .int th])), (mq, .inl (cZ, 12288, .inl fM)), (zq, .inl (cI, 3, .inl fS)), (sq, .inl (cI, 6156, .inl fP)), (bq, .inl (cI, 3, .inl fB)), (cq, .inl (cJ, 64, .inr (.inl fC))), (pq, .inl (cI, 8, .inl fT))] s.heap := hP
  have hl := lv_entry ([.ref q, .int v, .int w]) (n := 3) (Nat.le_of_ble_eq_true rfl)
  rw [lg_entry_eq]
  generalize (lg_sl ([.ref q, .int v, .int w]) ++ List.replicate (3 - (lg_sl ([.ref q, .int v, .int w])).length) Slot.unset).toArray = ls at hl ⊢
  have hl : lv_has ls 3 [(0, .ref q), (1, .int v), (2, .int w)] := hl
  refine lv_aload_n hx hb dX8_clusterMaximum_0 rfl (lv_at hl 0 rfl) ?_
  refine lv_iload_n hx hb dX8_clusterMaximum_1 rfl (lv_at hl 1 rfl) ?_
  refine lv_iload_n hx hb dX8_clusterMaximum_2 rfl (lv_at hl 2 rfl) ?_
  have hPc := hP.sub (ws' := [(q, .inr (7, [.ref mq, .ref zq, .ref sq, .ref bq, .ref cq, .long sm, .ref pq, .int ps, .int th])), (mq, .inl (cZ, 12288, .inl fM)), (zq, .inl (cI, 3, .inl fS)), (sq, .inl (cI, 6156, .inl fP)), (bq, .inl (cI, 3, .inl fB)), (cq, .inl (cJ, 64, .inr (.inl fC))), (pq, .inl (cI, 8, .inl fT))]) [0, 1, 2, 3, 4, 5, 6] rfl
  have hKc := hK.sub (tys' := [(cZ, .boolean), (cI, .int), (cJ, .long)]) [0, 1, 2] rfl
  have hDc := hD.sub (ws' := [(q, .inr (7, [.ref mq, .ref zq, .ref sq, .ref bq, .ref cq, .long sm, .ref pq, .int ps, .int th])), (mq, .inl (cZ, 12288, .inl fM)), (zq, .inl (cI, 3, .inl fS)), (sq, .inl (cI, 6156, .inl fP)), (bq, .inl (cI, 3, .inl fB)), (cq, .inl (cJ, 64, .inr (.inl fC))), (pq, .inl (cI, 8, .inl fT))]) [0, 1, 2, 3, 4, 5, 6] (by decide) rfl
  have hFc := va_free (wc := [(q, .inr (7, [.ref mq, .ref zq, .ref sq, .ref bq, .ref cq, .long sm, .ref pq, .int ps, .int th])), (mq, .inl (cZ, 12288, .inl fM)), (zq, .inl (cI, 3, .inl fS)), (sq, .inl (cI, 6156, .inl fP)), (bq, .inl (cI, 3, .inl fB)), (cq, .inl (cJ, 64, .inr (.inl fC))), (pq, .inl (cI, 8, .inl fT))]) hD hS hA [0, 1, 2, 3, 4, 5, 6] rfl
  refine va_calli (va_runV (As := [.int v, .int w]) (rest := []) ⟨hx, hb, hml, hown, hts⟩ (c_X8_isCluster_s l dC dI q mq zq sq bq cq pq cZ cI cJ fM fS fP fB fC sm fT ps th v w s.heap.size (by first | assumption | omega)) (cwV 2 hts gX8_clusterMaximum_X8_isCluster rfl rfl rfl (by decide +kernel) ⟨Nat.le_of_ble_eq_true rfl, Nat.le_of_ble_eq_true rfl⟩) ⟨fun a U g mk q => by obtain ⟨q0, q1, qP, qK, qD⟩ := q; exact ⟨q0, q1, qP, va_K.moved (u := U) (U := U.calling g mk a) (Vm.Alike.refl U.vm) qK, qD⟩, va_recv hKc hPc (ci := 7) (q0 := 0) rfl rfl, fun U hU hW => ⟨rfl, by rw [hU], by rw [hU]; exact hPc, va_K.moved hW.alike hKc, hDc.weaken (fun _ _ _ _ => trivial)⟩⟩ rfl rfl hl.1 rfl (lv_room (Nat.le_of_ble_eq_true rfl)) dX8_clusterMaximum_3 ⟨Nat.le_of_ble_eq_true rfl, Nat.le_of_ble_eq_true rfl⟩) hS (fun q _ h => hFc q h) hFc (fun r_3 u_2 t9 H1 locs ht hvm hw_1 hB hz1 hk1 hS => ?_)
  obtain ⟨th'_4, rfl⟩ : ∃ z, z = u_2 := ⟨_, rfl⟩
  obtain ⟨hP1, hK1, hD1⟩ := hB
  rw [ht] at hP1
  have hK1 := va_K.moved hvm.symm hK1
  try dsimp only at hw_1 hP1 hK1 hD1
  obtain ⟨hP, hD⟩ := va_join (wr := []) (w1 := [(q, .inr (7, [.ref mq, .ref zq, .ref sq, .ref bq, .ref cq, .long sm, .ref pq, .int ps, .int th'_4])), (mq, .inl (cZ, 12288, .inl fM)), (zq, .inl (cI, 3, .inl fS)), (sq, .inl (cI, 6156, .inl fP)), (bq, .inl (cI, 3, .inl fB)), (cq, .inl (cJ, 64, .inr (.inl fC))), (pq, .inl (cI, 8, .inl fT))]) hP hD [0, 1, 2, 3, 4, 5, 6] [] rfl rfl (by decide) (by decide) hk1 hFc hP1 hD1
  generalize H1 = H at hP hS ⊢
  have hP : va_P (dC, dI) vwCl [(q, .inr (7, [.ref mq, .ref zq, .ref sq, .ref bq, .ref cq, .long sm, .ref pq, .int ps, .int th'_4])), (mq, .inl (cZ, 12288, .inl fM)), (zq, .inl (cI, 3, .inl fS)), (sq, .inl (cI, 6156, .inl fP)), (bq, .inl (cI, 3, .inl fB)), (cq, .inl (cJ, 64, .inr (.inl fC))), (pq, .inl (cI, 8, .inl fT))] H := hP
  have hD : va_D A [(q, .inr (7, [.ref mq, .ref zq, .ref sq, .ref bq, .ref cq, .long sm, .ref pq, .int ps, .int th'_4])), (mq, .inl (cZ, 12288, .inl fM)), (zq, .inl (cI, 3, .inl fS)), (sq, .inl (cI, 6156, .inl fP)), (bq, .inl (cI, 3, .inl fB)), (cq, .inl (cJ, 64, .inr (.inl fC))), (pq, .inl (cI, 8, .inl fT))] := hD
  obtain ⟨he, hw_1⟩ := hw_1
  subst he
  have hth := hw_1
  refine lv_if_eq (tgt := 21) hx hb dX8_clusterMaximum_6 (by decide) (fun qc_5 => ?_) (fun qc_5 => ?_)
  · have c_5 : false = false := b2i_f qc_5
    refine lv_iconst (v := nI 0) hx hb dX8_clusterMaximum_21 (by decide +kernel) ?_
    have hP9 := hP.sub (ws' := [(q, .inr (7, [.ref mq, .ref zq, .ref sq, .ref bq, .ref cq, .long sm, .ref pq, .int ps, .int th'_4])), (mq, .inl (cZ, 12288, .inl fM)), (zq, .inl (cI, 3, .inl fS)), (sq, .inl (cI, 6156, .inl fP)), (bq, .inl (cI, 3, .inl fB)), (cq, .inl (cJ, 64, .inr (.inl fC))), (pq, .inl (cI, 8, .inl fT))]) [0, 1, 2, 3, 4, 5, 6] rfl
    have hD9 := hD.sub (ws' := [(q, .inr (7, [.ref mq, .ref zq, .ref sq, .ref bq, .ref cq, .long sm, .ref pq, .int ps, .int th'_4])), (mq, .inl (cZ, 12288, .inl fM)), (zq, .inl (cI, 3, .inl fS)), (sq, .inl (cI, 6156, .inl fP)), (bq, .inl (cI, 3, .inl fB)), (cq, .inl (cJ, 64, .inr (.inl fC))), (pq, .inl (cI, 8, .inl fT))]) [0, 1, 2, 3, 4, 5, 6] (by decide) rfl
    have hK9 := hK.sub (tys' := [(cZ, .boolean), (cI, .int), (cJ, .long)]) [0, 1, 2] rfl
    exact W.iret (v := nI 0) hx hb hr (fun t9 ht hW => ⟨⟨nI 0, th'_4, rfl, hth, by rw [ht]; exact hP9, va_K.moved hW.alike hK9, hD9⟩, hS.F ht⟩) hS.2.2 dX8_clusterMaximum_22
  · have c_5 : false = true := b2i_t qc_5
    cases c_5
set_option maxHeartbeats 4000000 in
set_option maxRecDepth 100000 in
/-- reference: c_X8_prefixes_v -/
theorem c_X8_prefixes_v (l : Launch) (dC : Nat → ClassId) (dI : Nat → Nat → Nat) (q : Nat) (mq : Nat) (zq : Nat) (sq : Nat) (bq : Nat) (cq : Nat) (pq : Nat) (cZ : ClassId) (cI : ClassId) (cJ : ClassId) (fM : Nat → Int32) (fS : Nat → Int32) (fP : Nat → Int32) (fB : Nat → Int32) (fC : Nat → Int64) (sm : Int64) (fT : Nat → Int32) (ps : Int32) (th : Int32) (M : Nat → Nat → Bool) (k : Nat) (x : Nat) (sz : Nat) (hM : MM fM M) (hk : k < 3) (hxx : x < 13) : Met l yX8_prefixes wsX8_prefixes ({ frames := 3, cells := 0, slots := 0, locals := 69 }) (va_Pc [.ref q, .int (nI k), .int (nI x)] (fun U => U.heap.size = sz ∧ va_P (dC, dI) vwCl [(q, .inr (7, [.ref mq, .ref zq, .ref sq, .ref bq, .ref cq, .long sm, .ref pq, .int ps, .int th])), (mq, .inl (cZ, 12288, .inl fM)), (zq, .inl (cI, 3, .inl fS)), (sq, .inl (cI, 6156, .inl fP)), (bq, .inl (cI, 3, .inl fB)), (cq, .inl (cJ, 64, .inr (.inl fC))), (pq, .inl (cI, 8, .inl fT))] U.heap ∧ va_K (dC, dI) vwCl [(cZ, .boolean), (cI, .int), (cJ, .long)] U ∧ va_D (fun _ => True) [(q, .inr (7, [.ref mq, .ref zq, .ref sq, .ref bq, .ref cq, .long sm, .ref pq, .int ps, .int th])), (mq, .inl (cZ, 12288, .inl fM)), (zq, .inl (cI, 3, .inl fS)), (sq, .inl (cI, 6156, .inl fP)), (bq, .inl (cI, 3, .inl fB)), (cq, .inl (cJ, 64, .inr (.inl fC))), (pq, .inl (cI, 8, .inl fT))])) (va_Qi (fun (r : Int32) (u : Int32) => r = nI (fb_ct (pfx (M k) x) (2 ^ x)) ∧ u = nI 0) (fun (u : Int32) (t : State) => va_P (dC, dI) vwCl [(q, .inr (7, [.ref mq, .ref zq, .ref sq, .ref bq, .ref cq, .long sm, .ref pq, .int ps, .int u])), (mq, .inl (cZ, 12288, .inl fM)), (zq, .inl (cI, 3, .inl fS)), (sq, .inl (cI, 6156, .inl fP)), (bq, .inl (cI, 3, .inl fB)), (cq, .inl (cJ, 64, .inr (.inl fC))), (pq, .inl (cI, 8, .inl fT))] t.heap ∧ va_K (dC, dI) vwCl [(cZ, .boolean), (cI, .int), (cJ, .long)] t ∧ va_D (va_A [(q, .inr (7, [.ref mq, .ref zq, .ref sq, .ref bq, .ref cq, .long sm, .ref pq, .int ps, .int th])), (mq, .inl (cZ, 12288, .inl fM)), (zq, .inl (cI, 3, .inl fS)), (sq, .inl (cI, 6156, .inl fP)), (bq, .inl (cI, 3, .inl fB)), (cq, .inl (cJ, 64, .inr (.inl fC))), (pq, .inl (cI, 8, .inl fT))] sz) [(q, .inr (7, [.ref mq, .ref zq, .ref sq, .ref bq, .ref cq, .long sm, .ref pq, .int ps, .int u])), (mq, .inl (cZ, 12288, .inl fM)), (zq, .inl (cI, 3, .inl fS)), (sq, .inl (cI, 6156, .inl fP)), (bq, .inl (cI, 3, .inl fB)), (cq, .inl (cJ, 64, .inr (.inl fC))), (pq, .inl (cI, 8, .inl fT))]) (va_A [(q, .inr (7, [.ref mq, .ref zq, .ref sq, .ref bq, .ref cq, .long sm, .ref pq, .int ps, .int th])), (mq, .inl (cZ, 12288, .inl fM)), (zq, .inl (cI, 3, .inl fS)), (sq, .inl (cI, 6156, .inl fP)), (bq, .inl (cI, 3, .inl fB)), (cq, .inl (cJ, 64, .inr (.inl fC))), (pq, .inl (cI, 8, .inl fT))] sz)) 0 0 (va_A [(q, .inr (7, [.ref mq, .ref zq, .ref sq, .ref bq, .ref cq, .long sm, .ref pq, .int ps, .int th])), (mq, .inl (cZ, 12288, .inl fM)), (zq, .inl (cI, 3, .inl fS)), (sq, .inl (cI, 6156, .inl fP)), (bq, .inl (cI, 3, .inl fB)), (cq, .inl (cJ, 64, .inr (.inl fC))), (pq, .inl (cI, 8, .inl fT))] sz) := by
  refine Met.ofW (cc := cX8_prefixes) (maxL := 5) (ret := (some .int)) (by decide) rfl ?_
  intro p e s m args below meth c s₁ B hml hv
  obtain ⟨rfl, hsz, hP, hK, hD0⟩ := hv
  have hx := B.exec
  have hb := B.bytes
  have hr := B.returns
  have hts := atoms_spec (ws := wsX8_prefixes) B.pre
  have hown : s.vm.findClass RX8 = some m.cls := findClass_of_methodNamed B.named
  have hlocks := B.notSynchronized
  subst hsz
  have hD := hD0.self (sz := s.heap.size)
  generalize hAe : va_A [(q, .inr (7, [.ref mq, .ref zq, .ref sq, .ref bq, .ref cq, .long sm, .ref pq, .int ps, .int th])), (mq, .inl (cZ, 12288, .inl fM)), (zq, .inl (cI, 3, .inl fS)), (sq, .inl (cI, 6156, .inl fP)), (bq, .inl (cI, 3, .inl fB)), (cq, .inl (cJ, 64, .inr (.inl fC))), (pq, .inl (cI, 8, .inl fT))] s.heap.size = A at hD ⊢
  have hA : ∀ q : Nat, s.heap.size ≤ q → A q := fun q h => by rw [← hAe]; exact Or.inr h
  have hS : va_S A s.heap s.heap [] := va_S.rf
  have hP : va_P (dC, dI) vwCl [(q, .inr (7, [.ref mq, .ref zq, .ref sq, .ref bq, .ref cq, .long sm, .ref pq, .int ps, .int th])), (mq, .inl (cZ, 12288, .inl fM)), (zq, .inl (cI, 3, .inl fS)), (sq, .inl (cI, 6156, .inl fP)), (bq, .inl (cI, 3, .inl fB)), (cq, .inl (cJ, 64, .inr (.inl fC))), (pq, .inl (cI, 8, .inl fT))] s.heap := hP
  have hl := lv_entry ([.ref q, .int (nI k), .int (nI x)]) (n := 5) (Nat.le_of_ble_eq_true rfl)
  rw [lg_entry_eq]
  generalize (lg_sl ([.ref q, .int (nI k), .int (nI x)]) ++ List.replicate (5 - (lg_sl ([.ref q, .int (nI k), .int (nI x)])).length) Slot.unset).toArray = ls at hl ⊢
  have hl : lv_has ls 5 [(0, .ref q), (1, .int (nI k)), (2, .int (nI x))] := hl
  have hpw := pw_le (show x ≤ 12 by omega)
  refine lv_aload_n hx hb dX8_prefixes_0 rfl (lv_at hl 0 rfl) ?_
  refine lv_iload_n hx hb dX8_prefixes_1 rfl (lv_at hl 1 rfl) ?_
  have hPc := hP.sub (ws' := []) [] rfl
  have hKc := hK.sub (tys' := []) [] rfl
  refine vp_callSi (W.runS (As := [.int (nI k)]) (rest := [.ref q]) ⟨hx, hb, hml, hown, hts⟩ (c_X8_isSet l dC dI (nI k) ) (va_cwS 1 hts gX8_prefixes_X8_isSet rfl rfl rfl (by decide +kernel) ⟨Nat.le_of_ble_eq_true rfl, Nat.le_of_ble_eq_true rfl⟩) ⟨fun a U g mk q => by obtain ⟨q0, qP, qK⟩ := q; exact ⟨q0, qP, va_K.moved (u := U) (U := U.calling g mk a) (Vm.Alike.refl U.vm) qK⟩, fun U hU hW => ⟨rfl, by rw [hU]; exact hPc, va_K.moved hW.alike hKc⟩⟩ rfl rfl hl.1 rfl (lv_room (Nat.le_of_ble_eq_true rfl)) dX8_prefixes_2 ⟨Nat.le_of_ble_eq_true rfl, Nat.le_of_ble_eq_true rfl⟩) (fun r_2 hw_1 => ?_)
  subst hw_1
  refine lv_cvi (congrArg b2i (isS_t hk)) ?_
  refine lv_if_eq (tgt := 22) hx hb dX8_prefixes_5 (by decide) (fun qc_3 => ?_) (fun qc_3 => ?_)
  · have c_3 : true = false := b2i_f qc_3
    cases c_3
  · have c_3 : true = true := b2i_t qc_3
    refine lv_iload_n hx hb dX8_prefixes_8 rfl (lv_at hl 2 rfl) ?_
    refine lv_iconst (v := nI 0) hx hb dX8_prefixes_9 (by decide +kernel) ?_
    refine lv_bipush (v := nI 12) hx hb dX8_prefixes_10 (by decide +kernel) ?_
    have hPc := hP.sub (ws' := []) [] rfl
    have hKc := hK.sub (tys' := []) [] rfl
    refine vp_callSi (W.runS (As := [.int (nI x), .int (nI 0), .int (nI 12)]) (rest := [.ref q]) ⟨hx, hb, hml, hown, hts⟩ (c_X8_in l dC dI (nI x) (nI 0) (nI 12) ) (va_cwS 3 hts gX8_prefixes_X8_in rfl rfl rfl (by decide +kernel) ⟨Nat.le_of_ble_eq_true rfl, Nat.le_of_ble_eq_true rfl⟩) ⟨fun a U g mk q => by obtain ⟨q0, qP, qK⟩ := q; exact ⟨q0, qP, va_K.moved (u := U) (U := U.calling g mk a) (Vm.Alike.refl U.vm) qK⟩, fun U hU hW => ⟨rfl, by rw [hU]; exact hPc, va_K.moved hW.alike hKc⟩⟩ rfl rfl hl.1 rfl (lv_room (Nat.le_of_ble_eq_true rfl)) dX8_prefixes_12 ⟨Nat.le_of_ble_eq_true rfl, Nat.le_of_ble_eq_true rfl⟩) (fun r_5 hw_4 => ?_)
    subst hw_4
    refine lv_cvi (congrArg b2i (inr_t (by omega) (by decide))) ?_
    refine lv_if_eq (tgt := 22) hx hb dX8_prefixes_15 (by decide) (fun qc_6 => ?_) (fun qc_6 => ?_)
    · have c_6 : true = false := b2i_f qc_6
      cases c_6
    · have c_6 : true = true := b2i_t qc_6
      refine lv_iconst (v := nI 1) hx hb dX8_prefixes_18 (by decide +kernel) ?_
      refine lv_goto (tgt := 23) hx hb dX8_prefixes_19 (by decide) ?_
      refine lv_cvi ((rfl : nI 1 = b2i true)) ?_
      have hPc := hP.sub (ws' := [(q, .inr (7, [.ref mq, .ref zq, .ref sq, .ref bq, .ref cq, .long sm, .ref pq, .int ps, .int th])), (mq, .inl (cZ, 12288, .inl fM)), (zq, .inl (cI, 3, .inl fS)), (sq, .inl (cI, 6156, .inl fP)), (bq, .inl (cI, 3, .inl fB)), (cq, .inl (cJ, 64, .inr (.inl fC))), (pq, .inl (cI, 8, .inl fT))]) [0, 1, 2, 3, 4, 5, 6] rfl
      have hKc := hK.sub (tys' := [(cZ, .boolean), (cI, .int), (cJ, .long)]) [0, 1, 2] rfl
      have hDc := hD.sub (ws' := [(q, .inr (7, [.ref mq, .ref zq, .ref sq, .ref bq, .ref cq, .long sm, .ref pq, .int ps, .int th])), (mq, .inl (cZ, 12288, .inl fM)), (zq, .inl (cI, 3, .inl fS)), (sq, .inl (cI, 6156, .inl fP)), (bq, .inl (cI, 3, .inl fB)), (cq, .inl (cJ, 64, .inr (.inl fC))), (pq, .inl (cI, 8, .inl fT))]) [0, 1, 2, 3, 4, 5, 6] (by decide) rfl
      have hFc := va_free (wc := [(q, .inr (7, [.ref mq, .ref zq, .ref sq, .ref bq, .ref cq, .long sm, .ref pq, .int ps, .int th])), (mq, .inl (cZ, 12288, .inl fM)), (zq, .inl (cI, 3, .inl fS)), (sq, .inl (cI, 6156, .inl fP)), (bq, .inl (cI, 3, .inl fB)), (cq, .inl (cJ, 64, .inr (.inl fC))), (pq, .inl (cI, 8, .inl fT))]) hD hS hA [0, 1, 2, 3, 4, 5, 6] rfl
      refine va_calli (va_runV (As := [.int (b2i true)]) (rest := []) ⟨hx, hb, hml, hown, hts⟩ (c_X8_asked l dC dI q mq zq sq bq cq pq cZ cI cJ fM fS fP fB fC sm fT ps th true s.heap.size ) (cwV 1 hts gX8_prefixes_X8_asked rfl rfl rfl (by decide +kernel) ⟨Nat.le_of_ble_eq_true rfl, Nat.le_of_ble_eq_true rfl⟩) ⟨fun a U g mk q => by obtain ⟨q0, q1, qP, qK, qD⟩ := q; exact ⟨q0, q1, qP, va_K.moved (u := U) (U := U.calling g mk a) (Vm.Alike.refl U.vm) qK, qD⟩, va_recv hKc hPc (ci := 7) (q0 := 0) rfl rfl, fun U hU hW => ⟨rfl, by rw [hU], by rw [hU]; exact hPc, va_K.moved hW.alike hKc, hDc.weaken (fun _ _ _ _ => trivial)⟩⟩ rfl rfl hl.1 rfl (lv_room (Nat.le_of_ble_eq_true rfl)) dX8_prefixes_23 ⟨Nat.le_of_ble_eq_true rfl, Nat.le_of_ble_eq_true rfl⟩) hS (fun q _ h => hFc q h) hFc (fun r_9 u_8 t9 H1 locs ht hvm hw_7 hB hz1 hk1 hS => ?_)
      obtain ⟨th'_10, rfl⟩ : ∃ z, z = u_8 := ⟨_, rfl⟩
      obtain ⟨hP1, hK1, hD1⟩ := hB
      rw [ht] at hP1
      have hK1 := va_K.moved hvm.symm hK1
      try dsimp only at hw_7 hP1 hK1 hD1
      obtain ⟨hP, hD⟩ := va_join (wr := []) (w1 := [(q, .inr (7, [.ref mq, .ref zq, .ref sq, .ref bq, .ref cq, .long sm, .ref pq, .int ps, .int th'_10])), (mq, .inl (cZ, 12288, .inl fM)), (zq, .inl (cI, 3, .inl fS)), (sq, .inl (cI, 6156, .inl fP)), (bq, .inl (cI, 3, .inl fB)), (cq, .inl (cJ, 64, .inr (.inl fC))), (pq, .inl (cI, 8, .inl fT))]) hP hD [0, 1, 2, 3, 4, 5, 6] [] rfl rfl (by decide) (by decide) hk1 hFc hP1 hD1
      generalize H1 = H at hP hS ⊢
      have hP : va_P (dC, dI) vwCl [(q, .inr (7, [.ref mq, .ref zq, .ref sq, .ref bq, .ref cq, .long sm, .ref pq, .int ps, .int th'_10])), (mq, .inl (cZ, 12288, .inl fM)), (zq, .inl (cI, 3, .inl fS)), (sq, .inl (cI, 6156, .inl fP)), (bq, .inl (cI, 3, .inl fB)), (cq, .inl (cJ, 64, .inr (.inl fC))), (pq, .inl (cI, 8, .inl fT))] H := hP
      have hD : va_D A [(q, .inr (7, [.ref mq, .ref zq, .ref sq, .ref bq, .ref cq, .long sm, .ref pq, .int ps, .int th'_10])), (mq, .inl (cZ, 12288, .inl fM)), (zq, .inl (cI, 3, .inl fS)), (sq, .inl (cI, 6156, .inl fP)), (bq, .inl (cI, 3, .inl fB)), (cq, .inl (cJ, 64, .inr (.inl fC))), (pq, .inl (cI, 8, .inl fT))] := hD
      obtain ⟨he, hw_7⟩ := hw_7
      subst he
      have hth := hw_7
      refine lv_if_ne (tgt := 31) hx hb dX8_prefixes_26 (by decide) (fun qc_11 => ?_) (fun qc_11 => ?_)
      · have c_11 : true = true := b2i_t qc_11
        refine lv_iconst (v := nI 0) hx hb dX8_prefixes_31 (by decide +kernel) ?_
        refine lv_istore_n (lv' := [(3, .int (nI 0)), (0, .ref q), (1, .int (nI k)), (2, .int (nI x))]) hx hb dX8_prefixes_32 rfl hl (by decide) rfl (fun ls hl => ?_)
        refine lv_iconst (v := nI 0) hx hb dX8_prefixes_33 (by decide +kernel) ?_
        refine lv_istore (lv' := [(4, .int (nI 0)), (3, .int (nI 0)), (0, .ref q), (1, .int (nI k)), (2, .int (nI x))]) hx hb dX8_prefixes_34 hl (by decide) rfl (fun ls hl => ?_)
        have key_36_12 : ∀ (fu : Nat) (i : Nat) (t : Nat) (hi1 : i ≤ 2 ^ x) (hti : t = fb_ct (pfx (M k) x) i) (hfu : 2 ^ x - i < fu) (H : Heap) (locs : List Loc) (hP : va_P (dC, dI) vwCl [(q, .inr (7, [.ref mq, .ref zq, .ref sq, .ref bq, .ref cq, .long sm, .ref pq, .int ps, .int th'_10])), (mq, .inl (cZ, 12288, .inl fM)), (zq, .inl (cI, 3, .inl fS)), (sq, .inl (cI, 6156, .inl fP)), (bq, .inl (cI, 3, .inl fB)), (cq, .inl (cJ, 64, .inr (.inl fC))), (pq, .inl (cI, 8, .inl fT))] H) (hD : va_D A [(q, .inr (7, [.ref mq, .ref zq, .ref sq, .ref bq, .ref cq, .long sm, .ref pq, .int ps, .int th'_10])), (mq, .inl (cZ, 12288, .inl fM)), (zq, .inl (cI, 3, .inl fS)), (sq, .inl (cI, 6156, .inl fP)), (bq, .inl (cI, 3, .inl fB)), (cq, .inl (cJ, 64, .inr (.inl fC))), (pq, .inl (cI, 8, .inl fT))]) (hS : va_S A s.heap H locs) (ls : Array Slot) (hl : lv_has ls 5 [(4, .int (nI i)), (3, .int (nI t)), (0, .ref q), (1, .int (nI k)), (2, .int (nI x))]), W p l e (headSpec wsX8_prefixes ({ frames := 3, cells := 0, slots := 0, locals := 69 })).room s m ([.ref q, .int (nI k), .int (nI x)] : List Value).toArray below meth c H locs 0 0 (MQ below (va_Qi (fun (r : Int32) (u : Int32) => r = nI (fb_ct (pfx (M k) x) (2 ^ x)) ∧ u = nI 0) (fun (u : Int32) (t : State) => va_P (dC, dI) vwCl [(q, .inr (7, [.ref mq, .ref zq, .ref sq, .ref bq, .ref cq, .long sm, .ref pq, .int ps, .int u])), (mq, .inl (cZ, 12288, .inl fM)), (zq, .inl (cI, 3, .inl fS)), (sq, .inl (cI, 6156, .inl fP)), (bq, .inl (cI, 3, .inl fB)), (cq, .inl (cJ, 64, .inr (.inl fC))), (pq, .inl (cI, 8, .inl fT))] t.heap ∧ va_K (dC, dI) vwCl [(cZ, .boolean), (cI, .int), (cJ, .long)] t ∧ va_D A [(q, .inr (7, [.ref mq, .ref zq, .ref sq, .ref bq, .ref cq, .long sm, .ref pq, .int ps, .int u])), (mq, .inl (cZ, 12288, .inl fM)), (zq, .inl (cI, 3, .inl fS)), (sq, .inl (cI, 6156, .inl fP)), (bq, .inl (cI, 3, .inl fB)), (cq, .inl (cJ, 64, .inr (.inl fC))), (pq, .inl (cI, 8, .inl fT))]) A) ([.ref q, .int (nI k), .int (nI x)] : List Value).toArray s 0 0 A) (F0 m 36 ls []) := by
          intro fu
          induction fu with
          | zero =>
            intro i t hi1 hti hfu H locs hP hD hS ls hl
            exact absurd hfu (Nat.not_lt_zero _)
          | succ fu ih_36 =>
            intro i t hi1 hti hfu H locs hP hD hS ls hl
            refine lv_iload hx hb dX8_prefixes_36 (lv_at hl 0 rfl) ?_
            refine lv_iconst (v := nI 1) hx hb dX8_prefixes_38 (by decide +kernel) ?_
            refine lv_iload_n hx hb dX8_prefixes_39 rfl (lv_at hl 4 rfl) ?_
            refine lv_ishl hx hb dX8_prefixes_40 ?_
            refine lv_cvi (shl_N (by omega) (by omega)) ?_
            refine lv_cvi (congrArg nI (Nat.one_mul _)) ?_
            refine lv_icmp_ge (tgt := 69) hx hb dX8_prefixes_41 (by decide) (fun qc_13 => ?_) (fun qc_13 => ?_)
            · have c_13 : (2 ^ x) ≤ i := (nI_leI (a := 2 ^ x) (b := i) (by omega) (by omega)).mp qc_13
              refine lv_iload_n hx hb dX8_prefixes_69 rfl (lv_at hl 1 rfl) ?_
              have hP9 := hP.sub (ws' := [(q, .inr (7, [.ref mq, .ref zq, .ref sq, .ref bq, .ref cq, .long sm, .ref pq, .int ps, .int th'_10])), (mq, .inl (cZ, 12288, .inl fM)), (zq, .inl (cI, 3, .inl fS)), (sq, .inl (cI, 6156, .inl fP)), (bq, .inl (cI, 3, .inl fB)), (cq, .inl (cJ, 64, .inr (.inl fC))), (pq, .inl (cI, 8, .inl fT))]) [0, 1, 2, 3, 4, 5, 6] rfl
              have hD9 := hD.sub (ws' := [(q, .inr (7, [.ref mq, .ref zq, .ref sq, .ref bq, .ref cq, .long sm, .ref pq, .int ps, .int th'_10])), (mq, .inl (cZ, 12288, .inl fM)), (zq, .inl (cI, 3, .inl fS)), (sq, .inl (cI, 6156, .inl fP)), (bq, .inl (cI, 3, .inl fB)), (cq, .inl (cJ, 64, .inr (.inl fC))), (pq, .inl (cI, 8, .inl fT))]) [0, 1, 2, 3, 4, 5, 6] (by decide) rfl
              have hK9 := hK.sub (tys' := [(cZ, .boolean), (cI, .int), (cJ, .long)]) [0, 1, 2] rfl
              exact W.iret (v := nI t) hx hb hr (fun t9 ht hW => ⟨⟨nI t, th'_10, rfl, ⟨congrArg nI (by rw [hti, show i = 2 ^ x by omega]), hth⟩, by rw [ht]; exact hP9, va_K.moved hW.alike hK9, hD9⟩, hS.F ht⟩) hS.2.2 dX8_prefixes_70
            · have c_13 : ¬ (2 ^ x) ≤ i := fun h9 => qc_13 ((nI_leI (a := 2 ^ x) (b := i) (by omega) (by omega)).mpr h9)
              refine lv_iload_n hx hb dX8_prefixes_44 rfl (lv_at hl 1 rfl) ?_
              refine lv_aload_n hx hb dX8_prefixes_45 rfl (lv_at hl 2 rfl) ?_
              refine lv_iload_n hx hb dX8_prefixes_46 rfl (lv_at hl 3 rfl) ?_
              refine lv_iload_n hx hb dX8_prefixes_47 rfl (lv_at hl 4 rfl) ?_
              refine lv_iload hx hb dX8_prefixes_48 (lv_at hl 0 rfl) ?_
              have hPc := hP.sub (ws' := [(q, .inr (7, [.ref mq, .ref zq, .ref sq, .ref bq, .ref cq, .long sm, .ref pq, .int ps, .int th'_10])), (mq, .inl (cZ, 12288, .inl fM)), (zq, .inl (cI, 3, .inl fS)), (sq, .inl (cI, 6156, .inl fP)), (bq, .inl (cI, 3, .inl fB)), (cq, .inl (cJ, 64, .inr (.inl fC))), (pq, .inl (cI, 8, .inl fT))]) [0, 1, 2, 3, 4, 5, 6] rfl
              have hKc := hK.sub (tys' := [(cZ, .boolean), (cI, .int), (cJ, .long)]) [0, 1, 2] rfl
              refine vp_callSi (W.runV (As := [.int (nI k), .int (nI x), .int (nI i)]) (rest := [.int (nI t)]) ⟨hx, hb, hml, hown, hts⟩ (c_X8_hasPrefix l dC dI q mq zq sq bq cq pq cZ cI cJ fM fS fP fB fC sm fT ps th'_10 M k x i (by first | assumption | omega) (by first | assumption | omega) (by first | assumption | omega) (by first | assumption | omega)) (cwV 3 hts gX8_prefixes_X8_hasPrefix rfl rfl rfl (by decide +kernel) ⟨Nat.le_of_ble_eq_true rfl, Nat.le_of_ble_eq_true rfl⟩) ⟨fun a U g mk q => by obtain ⟨q0, qP, qK⟩ := q; exact ⟨q0, qP, va_K.moved (u := U) (U := U.calling g mk a) (Vm.Alike.refl U.vm) qK⟩, va_recv hKc hPc (ci := 7) (q0 := 0) rfl rfl, fun U hU hW => ⟨rfl, by rw [hU]; exact hPc, va_K.moved hW.alike hKc⟩⟩ rfl rfl hl.1 rfl (lv_room (Nat.le_of_ble_eq_true rfl)) dX8_prefixes_50 ⟨Nat.le_of_ble_eq_true rfl, Nat.le_of_ble_eq_true rfl⟩) (fun r_15 hw_14 => ?_)
              subst hw_14
              refine lv_if_eq (tgt := 60) hx hb dX8_prefixes_53 (by decide) (fun qc_16 => ?_) (fun qc_16 => ?_)
              · have c_16 : (pfx (M k) x i) = false := b2i_f qc_16
                refine lv_iconst (v := nI 0) hx hb dX8_prefixes_60 (by decide +kernel) ?_
                refine lv_iadd hx hb dX8_prefixes_61 ?_
                refine lv_cvi (nI_add _ _) ?_
                refine lv_istore_n (lv' := [(3, .int (nI (t + 0))), (4, .int (nI i)), (0, .ref q), (1, .int (nI k)), (2, .int (nI x))]) hx hb dX8_prefixes_62 rfl hl (by decide) rfl (fun ls hl => ?_)
                refine lv_iinc (v := nI (i + 1)) (lv' := [(4, .int (nI (i + 1))), (3, .int (nI (t + 0))), (0, .ref q), (1, .int (nI k)), (2, .int (nI x))]) hx hb dX8_prefixes_63 hl (k := 1) rfl (nI_1 _) (by decide) rfl (fun ls hl => ?_)
                refine lv_goto (tgt := 36) hx hb dX8_prefixes_66 (by decide) ?_
                exact ih_36 (i + 1) (t + 0) (by omega) (by rw [fb_ct_succ, hti, c_16]; rfl) (by omega) _ _ hP hD hS ls (lv_sub hl [0, 1, 2, 3, 4] rfl)
              · have c_16 : (pfx (M k) x i) = true := b2i_t qc_16
                refine lv_iconst (v := nI 1) hx hb dX8_prefixes_56 (by decide +kernel) ?_
                refine lv_goto (tgt := 61) hx hb dX8_prefixes_57 (by decide) ?_
                refine lv_iadd hx hb dX8_prefixes_61 ?_
                refine lv_cvi (nI_add _ _) ?_
                refine lv_istore_n (lv' := [(3, .int (nI (t + 1))), (4, .int (nI i)), (0, .ref q), (1, .int (nI k)), (2, .int (nI x))]) hx hb dX8_prefixes_62 rfl hl (by decide) rfl (fun ls hl => ?_)
                refine lv_iinc (v := nI (i + 1)) (lv' := [(4, .int (nI (i + 1))), (3, .int (nI (t + 1))), (0, .ref q), (1, .int (nI k)), (2, .int (nI x))]) hx hb dX8_prefixes_63 hl (k := 1) rfl (nI_1 _) (by decide) rfl (fun ls hl => ?_)
                refine lv_goto (tgt := 36) hx hb dX8_prefixes_66 (by decide) ?_
                exact ih_36 (i + 1) (t + 1) (by omega) (by rw [fb_ct_succ, hti, c_16]; rfl) (by omega) _ _ hP hD hS ls (lv_sub hl [0, 1, 2, 3, 4] rfl)
        exact key_36_12 _ 0 0 (Nat.zero_le _) rfl (Nat.lt_succ_self _) _ _ hP hD hS ls (lv_sub hl [0, 1, 2, 3, 4] rfl)
      · have c_11 : true = false := b2i_f qc_11
        cases c_11
set_option maxHeartbeats 4000000 in
set_option maxRecDepth 100000 in
/-- reference: c_X8_prefixes_n -/
theorem c_X8_prefixes_n (l : Launch) (dC : Nat → ClassId) (dI : Nat → Nat → Nat) (q : Nat) (mq : Nat) (zq : Nat) (sq : Nat) (bq : Nat) (cq : Nat) (pq : Nat) (cZ : ClassId) (cI : ClassId) (cJ : ClassId) (fM : Nat → Int32) (fS : Nat → Int32) (fP : Nat → Int32) (fB : Nat → Int32) (fC : Nat → Int64) (sm : Int64) (fT : Nat → Int32) (ps : Int32) (th : Int32) (k : Nat) (w : Int32) (sz : Nat) (hk : k < 3) (hW : inB w 0 12 = false) : Met l yX8_prefixes wsX8_prefixes ({ frames := 2, cells := 0, slots := 0, locals := 42 }) (va_Pc [.ref q, .int (nI k), .int w] (fun U => U.heap.size = sz ∧ va_P (dC, dI) vwCl [(q, .inr (7, [.ref mq, .ref zq, .ref sq, .ref bq, .ref cq, .long sm, .ref pq, .int ps, .int th])), (mq, .inl (cZ, 12288, .inl fM)), (zq, .inl (cI, 3, .inl fS)), (sq, .inl (cI, 6156, .inl fP)), (bq, .inl (cI, 3, .inl fB)), (cq, .inl (cJ, 64, .inr (.inl fC))), (pq, .inl (cI, 8, .inl fT))] U.heap ∧ va_K (dC, dI) vwCl [(cZ, .boolean), (cI, .int), (cJ, .long)] U ∧ va_D (fun _ => True) [(q, .inr (7, [.ref mq, .ref zq, .ref sq, .ref bq, .ref cq, .long sm, .ref pq, .int ps, .int th])), (mq, .inl (cZ, 12288, .inl fM)), (zq, .inl (cI, 3, .inl fS)), (sq, .inl (cI, 6156, .inl fP)), (bq, .inl (cI, 3, .inl fB)), (cq, .inl (cJ, 64, .inr (.inl fC))), (pq, .inl (cI, 8, .inl fT))])) (va_Qi (fun (r : Int32) (u : Int32) => u = nI 1) (fun (u : Int32) (t : State) => va_P (dC, dI) vwCl [(q, .inr (7, [.ref mq, .ref zq, .ref sq, .ref bq, .ref cq, .long sm, .ref pq, .int ps, .int u])), (mq, .inl (cZ, 12288, .inl fM)), (zq, .inl (cI, 3, .inl fS)), (sq, .inl (cI, 6156, .inl fP)), (bq, .inl (cI, 3, .inl fB)), (cq, .inl (cJ, 64, .inr (.inl fC))), (pq, .inl (cI, 8, .inl fT))] t.heap ∧ va_K (dC, dI) vwCl [(cZ, .boolean), (cI, .int), (cJ, .long)] t ∧ va_D (va_A [(q, .inr (7, [.ref mq, .ref zq, .ref sq, .ref bq, .ref cq, .long sm, .ref pq, .int ps, .int th])), (mq, .inl (cZ, 12288, .inl fM)), (zq, .inl (cI, 3, .inl fS)), (sq, .inl (cI, 6156, .inl fP)), (bq, .inl (cI, 3, .inl fB)), (cq, .inl (cJ, 64, .inr (.inl fC))), (pq, .inl (cI, 8, .inl fT))] sz) [(q, .inr (7, [.ref mq, .ref zq, .ref sq, .ref bq, .ref cq, .long sm, .ref pq, .int ps, .int u])), (mq, .inl (cZ, 12288, .inl fM)), (zq, .inl (cI, 3, .inl fS)), (sq, .inl (cI, 6156, .inl fP)), (bq, .inl (cI, 3, .inl fB)), (cq, .inl (cJ, 64, .inr (.inl fC))), (pq, .inl (cI, 8, .inl fT))]) (va_A [(q, .inr (7, [.ref mq, .ref zq, .ref sq, .ref bq, .ref cq, .long sm, .ref pq, .int ps, .int th])), (mq, .inl (cZ, 12288, .inl fM)), (zq, .inl (cI, 3, .inl fS)), (sq, .inl (cI, 6156, .inl fP)), (bq, .inl (cI, 3, .inl fB)), (cq, .inl (cJ, 64, .inr (.inl fC))), (pq, .inl (cI, 8, .inl fT))] sz)) 0 0 (va_A [(q, .inr (7, [.ref mq, .ref zq, .ref sq, .ref bq, .ref cq, .long sm, .ref pq, .int ps, .int th])), (mq, .inl (cZ, 12288, .inl fM)), (zq, .inl (cI, 3, .inl fS)), (sq, .inl (cI, 6156, .inl fP)), (bq, .inl (cI, 3, .inl fB)), (cq, .inl (cJ, 64, .inr (.inl fC))), (pq, .inl (cI, 8, .inl fT))] sz) := by
  refine Met.ofW (cc := cX8_prefixes) (maxL := 5) (ret := (some .int)) (by decide) rfl ?_
  intro p e s m args below meth c s₁ B hml hv
  obtain ⟨rfl, hsz, hP, hK, hD0⟩ := hv
  have hx := B.exec
  have hb := B.bytes
  have hr := B.returns
  have hts := atoms_spec (ws := wsX8_prefixes) B.pre
  have hown : s.vm.findClass RX8 = some m.cls := findClass_of_methodNamed B.named
  have hlocks := B.notSynchronized
  subst hsz
  have hD := hD0.self (sz := s.heap.size)
  generalize hAe : va_A [(q, .inr (7, [.ref mq, .ref zq, .ref sq, .ref bq, .ref cq, .long sm, .ref pq, .int ps, .int th])), (mq, .inl (cZ, 12288, .inl fM)), (zq, .inl (cI, 3, .inl fS)), (sq, .inl (cI, 6156, .inl fP)), (bq, .inl (cI, 3, .inl fB)), (cq, .inl (cJ, 64, .inr (.inl fC))), (pq, .inl (cI, 8, .inl fT))] s.heap.size = A at hD ⊢
  have hA : ∀ q : Nat, s.heap.size ≤ q → A q := fun q h => by rw [← hAe]; exact Or.inr h
  have hS : va_S A s.heap s.heap [] := va_S.rf
  have hP : va_P (dC, dI) vwCl [(q, .inr (7, [.ref mq, .ref zq, .ref sq, .ref bq, .ref cq, .long sm, .ref pq, .int ps, .int th])), (mq, .inl (cZ, 12288, .inl fM)), (zq, .inl (cI, 3, .inl fS)), (sq, .inl (cI, 6156, .inl fP)), (bq, .inl (cI, 3, .inl fB)), (cq, .inl (cJ, 64, .inr (.inl fC))), (pq, .inl (cI, 8, .inl fT))] s.heap := hP
  have hl := lv_entry ([.ref q, .int (nI k), .int w]) (n := 5) (Nat.le_of_ble_eq_true rfl)
  rw [lg_entry_eq]
  generalize (lg_sl ([.ref q, .int (nI k), .int w]) ++ List.replicate (5 - (lg_sl ([.ref q, .int (nI k), .int w])).length) Slot.unset).toArray = ls at hl ⊢
  have hl : lv_has ls 5 [(0, .ref q), (1, .int (nI k)), (2, .int w)] := hl
  refine lv_aload_n hx hb dX8_prefixes_0 rfl (lv_at hl 0 rfl) ?_
  refine lv_iload_n hx hb dX8_prefixes_1 rfl (lv_at hl 1 rfl) ?_
  have hPc := hP.sub (ws' := []) [] rfl
  have hKc := hK.sub (tys' := []) [] rfl
  refine vp_callSi (W.runS (As := [.int (nI k)]) (rest := [.ref q]) ⟨hx, hb, hml, hown, hts⟩ (c_X8_isSet l dC dI (nI k) ) (va_cwS 1 hts gX8_prefixes_X8_isSet rfl rfl rfl (by decide +kernel) ⟨Nat.le_of_ble_eq_true rfl, Nat.le_of_ble_eq_true rfl⟩) ⟨fun a U g mk q => by obtain ⟨q0, qP, qK⟩ := q; exact ⟨q0, qP, va_K.moved (u := U) (U := U.calling g mk a) (Vm.Alike.refl U.vm) qK⟩, fun U hU hW => ⟨rfl, by rw [hU]; exact hPc, va_K.moved hW.alike hKc⟩⟩ rfl rfl hl.1 rfl (lv_room (Nat.le_of_ble_eq_true rfl)) dX8_prefixes_2 ⟨Nat.le_of_ble_eq_true rfl, Nat.le_of_ble_eq_true rfl⟩) (fun r_2 hw_1 => ?_)
  subst hw_1
  refine lv_cvi (congrArg b2i (isS_t hk)) ?_
  refine lv_if_eq (tgt := 22) hx hb dX8_prefixes_5 (by decide) (fun qc_3 => ?_) (fun qc_3 => ?_)
  · have c_3 : true = false := b2i_f qc_3
    cases c_3
  · have c_3 : true = true := b2i_t qc_3
    refine lv_iload_n hx hb dX8_prefixes_8 rfl (lv_at hl 2 rfl) ?_
    refine lv_iconst (v := nI 0) hx hb dX8_prefixes_9 (by decide +kernel) ?_
    refine lv_bipush (v := nI 12) hx hb dX8_prefixes_10 (by decide +kernel) ?_
    have hPc := hP.sub (ws' := []) [] rfl
    have hKc := hK.sub (tys' := []) [] rfl
    refine vp_callSi (W.runS (As := [.int w, .int (nI 0), .int (nI 12)]) (rest := [.ref q]) ⟨hx, hb, hml, hown, hts⟩ (c_X8_in l dC dI w (nI 0) (nI 12) ) (va_cwS 3 hts gX8_prefixes_X8_in rfl rfl rfl (by decide +kernel) ⟨Nat.le_of_ble_eq_true rfl, Nat.le_of_ble_eq_true rfl⟩) ⟨fun a U g mk q => by obtain ⟨q0, qP, qK⟩ := q; exact ⟨q0, qP, va_K.moved (u := U) (U := U.calling g mk a) (Vm.Alike.refl U.vm) qK⟩, fun U hU hW => ⟨rfl, by rw [hU]; exact hPc, va_K.moved hW.alike hKc⟩⟩ rfl rfl hl.1 rfl (lv_room (Nat.le_of_ble_eq_true rfl)) dX8_prefixes_12 ⟨Nat.le_of_ble_eq_true rfl, Nat.le_of_ble_eq_true rfl⟩) (fun r_5 hw_4 => ?_)
    subst hw_4
    refine lv_cvi (congrArg b2i hW) ?_
    refine lv_if_eq (tgt := 22) hx hb dX8_prefixes_15 (by decide) (fun qc_6 => ?_) (fun qc_6 => ?_)
    · have c_6 : false = false := b2i_f qc_6
      refine lv_iconst (v := nI 0) hx hb dX8_prefixes_22 (by decide +kernel) ?_
      refine lv_cvi ((rfl : nI 0 = b2i false)) ?_
      have hPc := hP.sub (ws' := [(q, .inr (7, [.ref mq, .ref zq, .ref sq, .ref bq, .ref cq, .long sm, .ref pq, .int ps, .int th])), (mq, .inl (cZ, 12288, .inl fM)), (zq, .inl (cI, 3, .inl fS)), (sq, .inl (cI, 6156, .inl fP)), (bq, .inl (cI, 3, .inl fB)), (cq, .inl (cJ, 64, .inr (.inl fC))), (pq, .inl (cI, 8, .inl fT))]) [0, 1, 2, 3, 4, 5, 6] rfl
      have hKc := hK.sub (tys' := [(cZ, .boolean), (cI, .int), (cJ, .long)]) [0, 1, 2] rfl
      have hDc := hD.sub (ws' := [(q, .inr (7, [.ref mq, .ref zq, .ref sq, .ref bq, .ref cq, .long sm, .ref pq, .int ps, .int th])), (mq, .inl (cZ, 12288, .inl fM)), (zq, .inl (cI, 3, .inl fS)), (sq, .inl (cI, 6156, .inl fP)), (bq, .inl (cI, 3, .inl fB)), (cq, .inl (cJ, 64, .inr (.inl fC))), (pq, .inl (cI, 8, .inl fT))]) [0, 1, 2, 3, 4, 5, 6] (by decide) rfl
      have hFc := va_free (wc := [(q, .inr (7, [.ref mq, .ref zq, .ref sq, .ref bq, .ref cq, .long sm, .ref pq, .int ps, .int th])), (mq, .inl (cZ, 12288, .inl fM)), (zq, .inl (cI, 3, .inl fS)), (sq, .inl (cI, 6156, .inl fP)), (bq, .inl (cI, 3, .inl fB)), (cq, .inl (cJ, 64, .inr (.inl fC))), (pq, .inl (cI, 8, .inl fT))]) hD hS hA [0, 1, 2, 3, 4, 5, 6] rfl
      refine va_calli (va_runV (As := [.int (b2i false)]) (rest := []) ⟨hx, hb, hml, hown, hts⟩ (c_X8_asked l dC dI q mq zq sq bq cq pq cZ cI cJ fM fS fP fB fC sm fT ps th false s.heap.size ) (cwV 1 hts gX8_prefixes_X8_asked rfl rfl rfl (by decide +kernel) ⟨Nat.le_of_ble_eq_true rfl, Nat.le_of_ble_eq_true rfl⟩) ⟨fun a U g mk q => by obtain ⟨q0, q1, qP, qK, qD⟩ := q; exact ⟨q0, q1, qP, va_K.moved (u := U) (U := U.calling g mk a) (Vm.Alike.refl U.vm) qK, qD⟩, va_recv hKc hPc (ci := 7) (q0 := 0) rfl rfl, fun U hU hW => ⟨rfl, by rw [hU], by rw [hU]; exact hPc, va_K.moved hW.alike hKc, hDc.weaken (fun _ _ _ _ => trivial)⟩⟩ rfl rfl hl.1 rfl (lv_room (Nat.le_of_ble_eq_true rfl)) dX8_prefixes_23 ⟨Nat.le_of_ble_eq_true rfl, Nat.le_of_ble_eq_true rfl⟩) hS (fun q _ h => hFc q h) hFc (fun r_9 u_8 t9 H1 locs ht hvm hw_7 hB hz1 hk1 hS => ?_)
      obtain ⟨th'_10, rfl⟩ : ∃ z, z = u_8 := ⟨_, rfl⟩
      obtain ⟨hP1, hK1, hD1⟩ := hB
      rw [ht] at hP1
      have hK1 := va_K.moved hvm.symm hK1
      try dsimp only at hw_7 hP1 hK1 hD1
      obtain ⟨hP, hD⟩ := va_join (wr := []) (w1 := [(q, .inr (7, [.ref mq, .ref zq, .ref sq, .ref bq, .ref cq, .long sm, .ref pq, .int ps, .int th'_10])), (mq, .inl (cZ, 12288, .inl fM)), (zq, .inl (cI, 3, .inl fS)), (sq, .inl (cI, 6156, .inl fP)), (bq, .inl (cI, 3, .inl fB)), (cq, .inl (cJ, 64, .inr (.inl fC))), (pq, .inl (cI, 8, .inl fT))]) hP hD [0, 1, 2, 3, 4, 5, 6] [] rfl rfl (by decide) (by decide) hk1 hFc hP1 hD1
      generalize H1 = H at hP hS ⊢
      have hP : va_P (dC, dI) vwCl [(q, .inr (7, [.ref mq, .ref zq, .ref sq, .ref bq, .ref cq, .long sm, .ref pq, .int ps, .int th'_10])), (mq, .inl (cZ, 12288, .inl fM)), (zq, .inl (cI, 3, .inl fS)), (sq, .inl (cI, 6156, .inl fP)), (bq, .inl (cI, 3, .inl fB)), (cq, .inl (cJ, 64, .inr (.inl fC))), (pq, .inl (cI, 8, .inl fT))] H := hP
      have hD : va_D A [(q, .inr (7, [.ref mq, .ref zq, .ref sq, .ref bq, .ref cq, .long sm, .ref pq, .int ps, .int th'_10])), (mq, .inl (cZ, 12288, .inl fM)), (zq, .inl (cI, 3, .inl fS)), (sq, .inl (cI, 6156, .inl fP)), (bq, .inl (cI, 3, .inl fB)), (cq, .inl (cJ, 64, .inr (.inl fC))), (pq, .inl (cI, 8, .inl fT))] := hD
      obtain ⟨he, hw_7⟩ := hw_7
      subst he
      have hth := hw_7
      refine lv_if_ne (tgt := 31) hx hb dX8_prefixes_26 (by decide) (fun qc_11 => ?_) (fun qc_11 => ?_)
      · have c_11 : false = true := b2i_t qc_11
        cases c_11
      · have c_11 : false = false := b2i_f qc_11
        refine lv_iconst (v := nI 0) hx hb dX8_prefixes_29 (by decide +kernel) ?_
        have hP9 := hP.sub (ws' := [(q, .inr (7, [.ref mq, .ref zq, .ref sq, .ref bq, .ref cq, .long sm, .ref pq, .int ps, .int th'_10])), (mq, .inl (cZ, 12288, .inl fM)), (zq, .inl (cI, 3, .inl fS)), (sq, .inl (cI, 6156, .inl fP)), (bq, .inl (cI, 3, .inl fB)), (cq, .inl (cJ, 64, .inr (.inl fC))), (pq, .inl (cI, 8, .inl fT))]) [0, 1, 2, 3, 4, 5, 6] rfl
        have hD9 := hD.sub (ws' := [(q, .inr (7, [.ref mq, .ref zq, .ref sq, .ref bq, .ref cq, .long sm, .ref pq, .int ps, .int th'_10])), (mq, .inl (cZ, 12288, .inl fM)), (zq, .inl (cI, 3, .inl fS)), (sq, .inl (cI, 6156, .inl fP)), (bq, .inl (cI, 3, .inl fB)), (cq, .inl (cJ, 64, .inr (.inl fC))), (pq, .inl (cI, 8, .inl fT))]) [0, 1, 2, 3, 4, 5, 6] (by decide) rfl
        have hK9 := hK.sub (tys' := [(cZ, .boolean), (cI, .int), (cJ, .long)]) [0, 1, 2] rfl
        exact W.iret (v := nI 0) hx hb hr (fun t9 ht hW => ⟨⟨nI 0, th'_10, rfl, hth, by rw [ht]; exact hP9, va_K.moved hW.alike hK9, hD9⟩, hS.F ht⟩) hS.2.2 dX8_prefixes_30
    · have c_6 : false = true := b2i_t qc_6
      cases c_6
set_option maxHeartbeats 4000000 in
set_option maxRecDepth 100000 in
/-- reference: c_X8_prefixes_s -/
theorem c_X8_prefixes_s (l : Launch) (dC : Nat → ClassId) (dI : Nat → Nat → Nat) (q : Nat) (mq : Nat) (zq : Nat) (sq : Nat) (bq : Nat) (cq : Nat) (pq : Nat) (cZ : ClassId) (cI : ClassId) (cJ : ClassId) (fM : Nat → Int32) (fS : Nat → Int32) (fP : Nat → Int32) (fB : Nat → Int32) (fC : Nat → Int64) (sm : Int64) (fT : Nat → Int32) (ps : Int32) (th : Int32) (v : Int32) (w : Int32) (sz : Nat) (hSf : isS v = false) : Met l yX8_prefixes wsX8_prefixes ({ frames := 2, cells := 0, slots := 0, locals := 42 }) (va_Pc [.ref q, .int v, .int w] (fun U => U.heap.size = sz ∧ va_P (dC, dI) vwCl [(q, .inr (7, [.ref mq, .ref zq, .ref sq, .ref bq, .ref cq, .long sm, .ref pq, .int ps, .int th])), (mq, .inl (cZ, 12288, .inl fM)), (zq, .inl (cI, 3, .inl fS)), (sq, .inl (cI, 6156, .inl fP)), (bq, .inl (cI, 3, .inl fB)), (cq, .inl (cJ, 64, .inr (.inl fC))), (pq, .inl (cI, 8, .inl fT))] U.heap ∧ va_K (dC, dI) vwCl [(cZ, .boolean), (cI, .int), (cJ, .long)] U ∧ va_D (fun _ => True) [(q, .inr (7, [.ref mq, .ref zq, .ref sq, .ref bq, .ref cq, .long sm, .ref pq, .int ps, .int th])), (mq, .inl (cZ, 12288, .inl fM)), (zq, .inl (cI, 3, .inl fS)), (sq, .inl (cI, 6156, .inl fP)), (bq, .inl (cI, 3, .inl fB)), (cq, .inl (cJ, 64, .inr (.inl fC))), (pq, .inl (cI, 8, .inl fT))])) (va_Qi (fun (r : Int32) (u : Int32) => u = nI 1) (fun (u : Int32) (t : State) => va_P (dC, dI) vwCl [(q, .inr (7, [.ref mq, .ref zq, .ref sq, .ref bq, .ref cq, .long sm, .ref pq, .int ps, .int u])), (mq, .inl (cZ, 12288, .inl fM)), (zq, .inl (cI, 3, .inl fS)), (sq, .inl (cI, 6156, .inl fP)), (bq, .inl (cI, 3, .inl fB)), (cq, .inl (cJ, 64, .inr (.inl fC))), (pq, .inl (cI, 8, .inl fT))] t.heap ∧ va_K (dC, dI) vwCl [(cZ, .boolean), (cI, .int), (cJ, .long)] t ∧ va_D (va_A [(q, .inr (7, [.ref mq, .ref zq, .ref sq, .ref bq, .ref cq, .long sm, .ref pq, .int ps, .int th])), (mq, .inl (cZ, 12288, .inl fM)), (zq, .inl (cI, 3, .inl fS)), (sq, .inl (cI, 6156, .inl fP)), (bq, .inl (cI, 3, .inl fB)), (cq, .inl (cJ, 64, .inr (.inl fC))), (pq, .inl (cI, 8, .inl fT))] sz) [(q, .inr (7, [.ref mq, .ref zq, .ref sq, .ref bq, .ref cq, .long sm, .ref pq, .int ps, .int u])), (mq, .inl (cZ, 12288, .inl fM)), (zq, .inl (cI, 3, .inl fS)), (sq, .inl (cI, 6156, .inl fP)), (bq, .inl (cI, 3, .inl fB)), (cq, .inl (cJ, 64, .inr (.inl fC))), (pq, .inl (cI, 8, .inl fT))]) (va_A [(q, .inr (7, [.ref mq, .ref zq, .ref sq, .ref bq, .ref cq, .long sm, .ref pq, .int ps, .int th])), (mq, .inl (cZ, 12288, .inl fM)), (zq, .inl (cI, 3, .inl fS)), (sq, .inl (cI, 6156, .inl fP)), (bq, .inl (cI, 3, .inl fB)), (cq, .inl (cJ, 64, .inr (.inl fC))), (pq, .inl (cI, 8, .inl fT))] sz)) 0 0 (va_A [(q, .inr (7, [.ref mq, .ref zq, .ref sq, .ref bq, .ref cq, .long sm, .ref pq, .int ps, .int th])), (mq, .inl (cZ, 12288, .inl fM)), (zq, .inl (cI, 3, .inl fS)), (sq, .inl (cI, 6156, .inl fP)), (bq, .inl (cI, 3, .inl fB)), (cq, .inl (cJ, 64, .inr (.inl fC))), (pq, .inl (cI, 8, .inl fT))] sz) := by
  refine Met.ofW (cc := cX8_prefixes) (maxL := 5) (ret := (some .int)) (by decide) rfl ?_
  intro p e s m args below meth c s₁ B hml hv
  obtain ⟨rfl, hsz, hP, hK, hD0⟩ := hv
  have hx := B.exec
  have hb := B.bytes
  have hr := B.returns
  have hts := atoms_spec (ws := wsX8_prefixes) B.pre
  have hown : s.vm.findClass RX8 = some m.cls := findClass_of_methodNamed B.named
  have hlocks := B.notSynchronized
  subst hsz
  have hD := hD0.self (sz := s.heap.size)
  generalize hAe : va_A [(q, .inr (7, [.ref mq, .ref zq, .ref sq, .ref bq, .ref cq, .long sm, .ref pq, .int ps, .int th])), (mq, .inl (cZ, 12288, .inl fM)), (zq, .inl (cI, 3, .inl fS)), (sq, .inl (cI, 6156, .inl fP)), (bq, .inl (cI, 3, .inl fB)), (cq, .inl (cJ, 64, .inr (.inl fC))), (pq, .inl (cI, 8, .inl fT))] s.heap.size = A at hD ⊢
  have hA : ∀ q : Nat, s.heap.size ≤ q → A q := fun q h => by rw [← hAe]; exact Or.inr h
  have hS : va_S A s.heap s.heap [] := va_S.rf
  have hP : va_P (dC, dI) vwCl [(q, .inr (7, [.ref mq, .ref zq, .ref sq, .ref bq, .ref cq, .long sm, .ref pq, .int ps, .int th])), (mq, .inl (cZ, 12288, .inl fM)), (zq, .inl (cI, 3, .inl fS)), (sq, .inl (cI, 6156, .inl fP)), (bq, .inl (cI, 3, .inl fB)), (cq, .inl (cJ, 64, .inr (.inl fC))), (pq, .inl (cI, 8, .inl fT))] s.heap := hP
  have hl := lv_entry ([.ref q, .int v, .int w]) (n := 5) (Nat.le_of_ble_eq_true rfl)
  rw [lg_entry_eq]
  generalize (lg_sl ([.ref q, .int v, .int w]) ++ List.replicate (5 - (lg_sl ([.ref q, .int v, .int w])).length) Slot.unset).toArray = ls at hl ⊢
  have hl : lv_has ls 5 [(0, .ref q), (1, .int v), (2, .int w)] := hl
  refine lv_aload_n hx hb dX8_prefixes_0 rfl (lv_at hl 0 rfl) ?_
  refine lv_iload_n hx hb dX8_prefixes_1 rfl (lv_at hl 1 rfl) ?_
  have hPc := hP.sub (ws' := []) [] rfl
  have hKc := hK.sub (tys' := []) [] rfl
  refine vp_callSi (W.runS (As := [.int v]) (rest := [.ref q]) ⟨hx, hb, hml, hown, hts⟩ (c_X8_isSet l dC dI v ) (va_cwS 1 hts gX8_prefixes_X8_isSet rfl rfl rfl (by decide +kernel) ⟨Nat.le_of_ble_eq_true rfl, Nat.le_of_ble_eq_true rfl⟩) ⟨fun a U g mk q => by obtain ⟨q0, qP, qK⟩ := q; exact ⟨q0, qP, va_K.moved (u := U) (U := U.calling g mk a) (Vm.Alike.refl U.vm) qK⟩, fun U hU hW => ⟨rfl, by rw [hU]; exact hPc, va_K.moved hW.alike hKc⟩⟩ rfl rfl hl.1 rfl (lv_room (Nat.le_of_ble_eq_true rfl)) dX8_prefixes_2 ⟨Nat.le_of_ble_eq_true rfl, Nat.le_of_ble_eq_true rfl⟩) (fun r_2 hw_1 => ?_)
  subst hw_1
  refine lv_cvi (congrArg b2i (hSf)) ?_
  refine lv_if_eq (tgt := 22) hx hb dX8_prefixes_5 (by decide) (fun qc_3 => ?_) (fun qc_3 => ?_)
  · have c_3 : false = false := b2i_f qc_3
    refine lv_iconst (v := nI 0) hx hb dX8_prefixes_22 (by decide +kernel) ?_
    refine lv_cvi ((rfl : nI 0 = b2i false)) ?_
    have hPc := hP.sub (ws' := [(q, .inr (7, [.ref mq, .ref zq, .ref sq, .ref bq, .ref cq, .long sm, .ref pq, .int ps, .int th])), (mq, .inl (cZ, 12288, .inl fM)), (zq, .inl (cI, 3, .inl fS)), (sq, .inl (cI, 6156, .inl fP)), (bq, .inl (cI, 3, .inl fB)), (cq, .inl (cJ, 64, .inr (.inl fC))), (pq, .inl (cI, 8, .inl fT))]) [0, 1, 2, 3, 4, 5, 6] rfl
    have hKc := hK.sub (tys' := [(cZ, .boolean), (cI, .int), (cJ, .long)]) [0, 1, 2] rfl
    have hDc := hD.sub (ws' := [(q, .inr (7, [.ref mq, .ref zq, .ref sq, .ref bq, .ref cq, .long sm, .ref pq, .int ps, .int th])), (mq, .inl (cZ, 12288, .inl fM)), (zq, .inl (cI, 3, .inl fS)), (sq, .inl (cI, 6156, .inl fP)), (bq, .inl (cI, 3, .inl fB)), (cq, .inl (cJ, 64, .inr (.inl fC))), (pq, .inl (cI, 8, .inl fT))]) [0, 1, 2, 3, 4, 5, 6] (by decide) rfl
    have hFc := va_free (wc := [(q, .inr (7, [.ref mq, .ref zq, .ref sq, .ref bq, .ref cq, .long sm, .ref pq, .int ps, .int th])), (mq, .inl (cZ, 12288, .inl fM)), (zq, .inl (cI, 3, .inl fS)), (sq, .inl (cI, 6156, .inl fP)), (bq, .inl (cI, 3, .inl fB)), (cq, .inl (cJ, 64, .inr (.inl fC))), (pq, .inl (cI, 8, .inl fT))]) hD hS hA [0, 1, 2, 3, 4, 5, 6] rfl
    refine va_calli (va_runV (As := [.int (b2i false)]) (rest := []) ⟨hx, hb, hml, hown, hts⟩ (c_X8_asked l dC dI q mq zq sq bq cq pq cZ cI cJ fM fS fP fB fC sm fT ps th false s.heap.size ) (cwV 1 hts gX8_prefixes_X8_asked rfl rfl rfl (by decide +kernel) ⟨Nat.le_of_ble_eq_true rfl, Nat.le_of_ble_eq_true rfl⟩) ⟨fun a U g mk q => by obtain ⟨q0, q1, qP, qK, qD⟩ := q; exact ⟨q0, q1, qP, va_K.moved (u := U) (U := U.calling g mk a) (Vm.Alike.refl U.vm) qK, qD⟩, va_recv hKc hPc (ci := 7) (q0 := 0) rfl rfl, fun U hU hW => ⟨rfl, by rw [hU], by rw [hU]; exact hPc, va_K.moved hW.alike hKc, hDc.weaken (fun _ _ _ _ => trivial)⟩⟩ rfl rfl hl.1 rfl (lv_room (Nat.le_of_ble_eq_true rfl)) dX8_prefixes_23 ⟨Nat.le_of_ble_eq_true rfl, Nat.le_of_ble_eq_true rfl⟩) hS (fun q _ h => hFc q h) hFc (fun r_6 u_5 t9 H1 locs ht hvm hw_4 hB hz1 hk1 hS => ?_)
    obtain ⟨th'_7, rfl⟩ : ∃ z, z = u_5 := ⟨_, rfl⟩
    obtain ⟨hP1, hK1, hD1⟩ := hB
    rw [ht] at hP1
    have hK1 := va_K.moved hvm.symm hK1
    try dsimp only at hw_4 hP1 hK1 hD1
    obtain ⟨hP, hD⟩ := va_join (wr := []) (w1 := [(q, .inr (7, [.ref mq, .ref zq, .ref sq, .ref bq, .ref cq, .long sm, .ref pq, .int ps, .int th'_7])), (mq, .inl (cZ, 12288, .inl fM)), (zq, .inl (cI, 3, .inl fS)), (sq, .inl (cI, 6156, .inl fP)), (bq, .inl (cI, 3, .inl fB)), (cq, .inl (cJ, 64, .inr (.inl fC))), (pq, .inl (cI, 8, .inl fT))]) hP hD [0, 1, 2, 3, 4, 5, 6] [] rfl rfl (by decide) (by decide) hk1 hFc hP1 hD1
    generalize H1 = H at hP hS ⊢
    have hP : va_P (dC, dI) vwCl [(q, .inr (7, [.ref mq, .ref zq, .ref sq, .ref bq, .ref cq, .long sm, .ref pq, .int ps, .int th'_7])), (mq, .inl (cZ, 12288, .inl fM)), (zq, .inl (cI, 3, .inl fS)), (sq, .inl (cI, 6156, .inl fP)), (bq, .inl (cI, 3, .inl fB)), (cq, .inl (cJ, 64, .inr (.inl fC))), (pq, .inl (cI, 8, .inl fT))] H := hP
    have hD : va_D A [(q, .inr (7, [.ref mq, .ref zq, .ref sq, .ref bq, .ref cq, .long sm, .ref pq, .int ps, .int th'_7])), (mq, .inl (cZ, 12288, .inl fM)), (zq, .inl (cI, 3, .inl fS)), (sq, .inl (cI, 6156, .inl fP)), (bq, .inl (cI, 3, .inl fB)), (cq, .inl (cJ, 64, .inr (.inl fC))), (pq, .inl (cI, 8, .inl fT))] := hD
    obtain ⟨he, hw_4⟩ := hw_4
    subst he
    have hth := hw_4
    refine lv_if_ne (tgt := 31) hx hb dX8_prefixes_26 (by decide) (fun qc_8 => ?_) (fun qc_8 => ?_)
    · have c_8 : false = true := b2i_t qc_8
      cases c_8
    · have c_8 : false = false := b2i_f qc_8
      refine lv_iconst (v := nI 0) hx hb dX8_prefixes_29 (by decide +kernel) ?_
      have hP9 := hP.sub (ws' := [(q, .inr (7, [.ref mq, .ref zq, .ref sq, .ref bq, .ref cq, .long sm, .ref pq, .int ps, .int th'_7])), (mq, .inl (cZ, 12288, .inl fM)), (zq, .inl (cI, 3, .inl fS)), (sq, .inl (cI, 6156, .inl fP)), (bq, .inl (cI, 3, .inl fB)), (cq, .inl (cJ, 64, .inr (.inl fC))), (pq, .inl (cI, 8, .inl fT))]) [0, 1, 2, 3, 4, 5, 6] rfl
      have hD9 := hD.sub (ws' := [(q, .inr (7, [.ref mq, .ref zq, .ref sq, .ref bq, .ref cq, .long sm, .ref pq, .int ps, .int th'_7])), (mq, .inl (cZ, 12288, .inl fM)), (zq, .inl (cI, 3, .inl fS)), (sq, .inl (cI, 6156, .inl fP)), (bq, .inl (cI, 3, .inl fB)), (cq, .inl (cJ, 64, .inr (.inl fC))), (pq, .inl (cI, 8, .inl fT))]) [0, 1, 2, 3, 4, 5, 6] (by decide) rfl
      have hK9 := hK.sub (tys' := [(cZ, .boolean), (cI, .int), (cJ, .long)]) [0, 1, 2] rfl
      exact W.iret (v := nI 0) hx hb hr (fun t9 ht hW => ⟨⟨nI 0, th'_7, rfl, hth, by rw [ht]; exact hP9, va_K.moved hW.alike hK9, hD9⟩, hS.F ht⟩) hS.2.2 dX8_prefixes_30
  · have c_3 : false = true := b2i_t qc_3
    cases c_3
set_option maxHeartbeats 4000000 in
set_option maxRecDepth 100000 in
/-- reference: c_X8_longestMatch_v -/
theorem c_X8_longestMatch_v (l : Launch) (dC : Nat → ClassId) (dI : Nat → Nat → Nat) (q : Nat) (mq : Nat) (zq : Nat) (sq : Nat) (bq : Nat) (cq : Nat) (pq : Nat) (cZ : ClassId) (cI : ClassId) (cJ : ClassId) (fM : Nat → Int32) (fS : Nat → Int32) (fP : Nat → Int32) (fB : Nat → Int32) (fC : Nat → Int64) (sm : Int64) (fT : Nat → Int32) (ps : Int32) (th : Int32) (M : Nat → Nat → Bool) (k : Nat) (x : Nat) (sz : Nat) (hM : MM fM M) (hZ : MZ fS M) (hk : k < 3) (hxx : x < 4096) : Met l yX8_longestMatch wsX8_longestMatch ({ frames := 4, cells := 0, slots := 0, locals := 95 }) (va_Pc [.ref q, .int (nI k), .int (nI x)] (fun U => U.heap.size = sz ∧ va_P (dC, dI) vwCl [(q, .inr (7, [.ref mq, .ref zq, .ref sq, .ref bq, .ref cq, .long sm, .ref pq, .int ps, .int th])), (mq, .inl (cZ, 12288, .inl fM)), (zq, .inl (cI, 3, .inl fS)), (sq, .inl (cI, 6156, .inl fP)), (bq, .inl (cI, 3, .inl fB)), (cq, .inl (cJ, 64, .inr (.inl fC))), (pq, .inl (cI, 8, .inl fT))] U.heap ∧ va_K (dC, dI) vwCl [(cZ, .boolean), (cI, .int), (cJ, .long)] U ∧ va_D (fun _ => True) [(q, .inr (7, [.ref mq, .ref zq, .ref sq, .ref bq, .ref cq, .long sm, .ref pq, .int ps, .int th])), (mq, .inl (cZ, 12288, .inl fM)), (zq, .inl (cI, 3, .inl fS)), (sq, .inl (cI, 6156, .inl fP)), (bq, .inl (cI, 3, .inl fB)), (cq, .inl (cJ, 64, .inr (.inl fC))), (pq, .inl (cI, 8, .inl fT))])) (va_Qi (fun (r : Int32) (u : Int32) => r = oI (srch (M k) x).1 ∧ u = nI 0) (fun (u : Int32) (t : State) => va_P (dC, dI) vwCl [(q, .inr (7, [.ref mq, .ref zq, .ref sq, .ref bq, .ref cq, .long sm, .ref pq, .int ps, .int u])), (mq, .inl (cZ, 12288, .inl fM)), (zq, .inl (cI, 3, .inl fS)), (sq, .inl (cI, 6156, .inl fP)), (bq, .inl (cI, 3, .inl fB)), (cq, .inl (cJ, 64, .inr (.inl fC))), (pq, .inl (cI, 8, .inl fT))] t.heap ∧ va_K (dC, dI) vwCl [(cZ, .boolean), (cI, .int), (cJ, .long)] t ∧ va_D (va_A [(q, .inr (7, [.ref mq, .ref zq, .ref sq, .ref bq, .ref cq, .long sm, .ref pq, .int ps, .int th])), (mq, .inl (cZ, 12288, .inl fM)), (zq, .inl (cI, 3, .inl fS)), (sq, .inl (cI, 6156, .inl fP)), (bq, .inl (cI, 3, .inl fB)), (cq, .inl (cJ, 64, .inr (.inl fC))), (pq, .inl (cI, 8, .inl fT))] sz) [(q, .inr (7, [.ref mq, .ref zq, .ref sq, .ref bq, .ref cq, .long sm, .ref pq, .int ps, .int u])), (mq, .inl (cZ, 12288, .inl fM)), (zq, .inl (cI, 3, .inl fS)), (sq, .inl (cI, 6156, .inl fP)), (bq, .inl (cI, 3, .inl fB)), (cq, .inl (cJ, 64, .inr (.inl fC))), (pq, .inl (cI, 8, .inl fT))]) (va_A [(q, .inr (7, [.ref mq, .ref zq, .ref sq, .ref bq, .ref cq, .long sm, .ref pq, .int ps, .int th])), (mq, .inl (cZ, 12288, .inl fM)), (zq, .inl (cI, 3, .inl fS)), (sq, .inl (cI, 6156, .inl fP)), (bq, .inl (cI, 3, .inl fB)), (cq, .inl (cJ, 64, .inr (.inl fC))), (pq, .inl (cI, 8, .inl fT))] sz)) 0 0 (va_A [(q, .inr (7, [.ref mq, .ref zq, .ref sq, .ref bq, .ref cq, .long sm, .ref pq, .int ps, .int th])), (mq, .inl (cZ, 12288, .inl fM)), (zq, .inl (cI, 3, .inl fS)), (sq, .inl (cI, 6156, .inl fP)), (bq, .inl (cI, 3, .inl fB)), (cq, .inl (cJ, 64, .inr (.inl fC))), (pq, .inl (cI, 8, .inl fT))] sz) := by
  refine Met.ofW (cc := cX8_longestMatch) (maxL := 3) (ret := (some .int)) (by decide) rfl ?_
  intro p e s m args below meth c s₁ B hml hv
  obtain ⟨rfl, hsz, hP, hK, hD0⟩ := hv
  have hx := B.exec
  have hb := B.bytes
  have hr := B.returns
  have hts := atoms_spec (ws := wsX8_longestMatch) B.pre
  have hown : s.vm.findClass RX8 = some m.cls := findClass_of_methodNamed B.named
  have hlocks := B.notSynchronized
  subst hsz
  have hD := hD0.self (sz := s.heap.size)
  generalize hAe : va_A [(q, .inr (7, [.ref mq, .ref zq, .ref sq, .ref bq, .ref cq, .long sm, .ref pq, .int ps, .int th])), (mq, .inl (cZ, 12288, .inl fM)), (zq, .inl (cI, 3, .inl fS)), (sq, .inl (cI, 6156, .inl fP)), (bq, .inl (cI, 3, .inl fB)), (cq, .inl (cJ, 64, .inr (.inl fC))), (pq, .inl (cI, 8, .inl fT))] s.heap.size = A at hD ⊢
  have hA : ∀ q : Nat, s.heap.size ≤ q → A q := fun q h => by rw [← hAe]; exact Or.inr h
  have hS : va_S A s.heap s.heap [] := va_S.rf
  have hP : va_P (dC, dI) vwCl [(q, .inr (7, [.ref mq, .ref zq, .ref sq, .ref bq, .ref cq, .long sm, .ref pq, .int ps, .int th])), (mq, .inl (cZ, 12288, .inl fM)), (zq, .inl (cI, 3, .inl fS)), (sq, .inl (cI, 6156, .inl fP)), (bq, .inl (cI, 3, .inl fB)), (cq, .inl (cJ, 64, .inr (.inl fC))), (pq, .inl (cI, 8, .inl fT))] s.heap := hP
  have hl := lv_entry ([.ref q, .int (nI k), .int (nI x)]) (n := 3) (Nat.le_of_ble_eq_true rfl)
  rw [lg_entry_eq]
  generalize (lg_sl ([.ref q, .int (nI k), .int (nI x)]) ++ List.replicate (3 - (lg_sl ([.ref q, .int (nI k), .int (nI x)])).length) Slot.unset).toArray = ls at hl ⊢
  have hl : lv_has ls 3 [(0, .ref q), (1, .int (nI k)), (2, .int (nI x))] := hl
  have hcm := fb_ct_le (M k) 4096
  have hbl := bs_le (pat (M k) x) 13 0 13 0 (by decide) (by decide)
  refine lv_aload_n hx hb dX8_longestMatch_0 rfl (lv_at hl 0 rfl) ?_
  refine lv_iload_n hx hb dX8_longestMatch_1 rfl (lv_at hl 1 rfl) ?_
  refine lv_iload_n hx hb dX8_longestMatch_2 rfl (lv_at hl 2 rfl) ?_
  have hPc := hP.sub (ws' := [(q, .inr (7, [.ref mq, .ref zq, .ref sq, .ref bq, .ref cq, .long sm, .ref pq, .int ps, .int th])), (mq, .inl (cZ, 12288, .inl fM)), (zq, .inl (cI, 3, .inl fS)), (sq, .inl (cI, 6156, .inl fP)), (bq, .inl (cI, 3, .inl fB)), (cq, .inl (cJ, 64, .inr (.inl fC))), (pq, .inl (cI, 8, .inl fT))]) [0, 1, 2, 3, 4, 5, 6] rfl
  have hKc := hK.sub (tys' := [(cZ, .boolean), (cI, .int), (cJ, .long)]) [0, 1, 2] rfl
  have hDc := hD.sub (ws' := [(q, .inr (7, [.ref mq, .ref zq, .ref sq, .ref bq, .ref cq, .long sm, .ref pq, .int ps, .int th])), (mq, .inl (cZ, 12288, .inl fM)), (zq, .inl (cI, 3, .inl fS)), (sq, .inl (cI, 6156, .inl fP)), (bq, .inl (cI, 3, .inl fB)), (cq, .inl (cJ, 64, .inr (.inl fC))), (pq, .inl (cI, 8, .inl fT))]) [0, 1, 2, 3, 4, 5, 6] (by decide) rfl
  have hFc := va_free (wc := [(q, .inr (7, [.ref mq, .ref zq, .ref sq, .ref bq, .ref cq, .long sm, .ref pq, .int ps, .int th])), (mq, .inl (cZ, 12288, .inl fM)), (zq, .inl (cI, 3, .inl fS)), (sq, .inl (cI, 6156, .inl fP)), (bq, .inl (cI, 3, .inl fB)), (cq, .inl (cJ, 64, .inr (.inl fC))), (pq, .inl (cI, 8, .inl fT))]) hD hS hA [0, 1, 2, 3, 4, 5, 6] rfl
  refine va_calli (va_runV (As := [.int (nI k), .int (nI x)]) (rest := []) ⟨hx, hb, hml, hown, hts⟩ (c_X8_isRight l dC dI q mq zq sq bq cq pq cZ cI cJ fM fS fP fB fC sm fT ps th (nI k) (nI x) s.heap.size ) (cwV 2 hts gX8_longestMatch_X8_isRight rfl rfl rfl (by decide +kernel) ⟨Nat.le_of_ble_eq_true rfl, Nat.le_of_ble_eq_true rfl⟩) ⟨fun a U g mk q => by obtain ⟨q0, q1, qP, qK, qD⟩ := q; exact ⟨q0, q1, qP, va_K.moved (u := U) (U := U.calling g mk a) (Vm.Alike.refl U.vm) qK, qD⟩, va_recv hKc hPc (ci := 7) (q0 := 0) rfl rfl, fun U hU hW => ⟨rfl, by rw [hU], by rw [hU]; exact hPc, va_K.moved hW.alike hKc, hDc.weaken (fun _ _ _ _ => trivial)⟩⟩ rfl rfl hl.1 rfl (lv_room (Nat.le_of_ble_eq_true rfl)) dX8_longestMatch_3 ⟨Nat.le_of_ble_eq_true rfl, Nat.le_of_ble_eq_true rfl⟩) hS (fun q _ h => hFc q h) hFc (fun r_3 u_2 t9 H1 locs ht hvm hw_1 hB hz1 hk1 hS => ?_)
  obtain ⟨th'_4, rfl⟩ : ∃ z, z = u_2 := ⟨_, rfl⟩
  obtain ⟨hP1, hK1, hD1⟩ := hB
  rw [ht] at hP1
  have hK1 := va_K.moved hvm.symm hK1
  try dsimp only at hw_1 hP1 hK1 hD1
  obtain ⟨hP, hD⟩ := va_join (wr := []) (w1 := [(q, .inr (7, [.ref mq, .ref zq, .ref sq, .ref bq, .ref cq, .long sm, .ref pq, .int ps, .int th'_4])), (mq, .inl (cZ, 12288, .inl fM)), (zq, .inl (cI, 3, .inl fS)), (sq, .inl (cI, 6156, .inl fP)), (bq, .inl (cI, 3, .inl fB)), (cq, .inl (cJ, 64, .inr (.inl fC))), (pq, .inl (cI, 8, .inl fT))]) hP hD [0, 1, 2, 3, 4, 5, 6] [] rfl rfl (by decide) (by decide) hk1 hFc hP1 hD1
  generalize H1 = H at hP hS ⊢
  have hP : va_P (dC, dI) vwCl [(q, .inr (7, [.ref mq, .ref zq, .ref sq, .ref bq, .ref cq, .long sm, .ref pq, .int ps, .int th'_4])), (mq, .inl (cZ, 12288, .inl fM)), (zq, .inl (cI, 3, .inl fS)), (sq, .inl (cI, 6156, .inl fP)), (bq, .inl (cI, 3, .inl fB)), (cq, .inl (cJ, 64, .inr (.inl fC))), (pq, .inl (cI, 8, .inl fT))] H := hP
  have hD : va_D A [(q, .inr (7, [.ref mq, .ref zq, .ref sq, .ref bq, .ref cq, .long sm, .ref pq, .int ps, .int th'_4])), (mq, .inl (cZ, 12288, .inl fM)), (zq, .inl (cI, 3, .inl fS)), (sq, .inl (cI, 6156, .inl fP)), (bq, .inl (cI, 3, .inl fB)), (cq, .inl (cJ, 64, .inr (.inl fC))), (pq, .inl (cI, 8, .inl fT))] := hD
  obtain ⟨he, hw_1⟩ := hw_1
  subst he
  have hth : th'_4 = nI 0 := by rw [hw_1, isS_t hk, isN_t hxx]; rfl
  refine lv_cvi (congrArg b2i (by rw [isS_t hk, isN_t hxx] <;> rfl)) ?_
  refine lv_if_ne (tgt := 11) hx hb dX8_longestMatch_6 (by decide) (fun qc_5 => ?_) (fun qc_5 => ?_)
  · have c_5 : true = true := b2i_t qc_5
    refine lv_aload_n hx hb dX8_longestMatch_11 rfl (lv_at hl 0 rfl) ?_
    refine va_get (D := (dC, dI)) (ci := 7) (v := .ref zq) (C := RX8) (T := TX8) (N := 9) hx hb hts (by decide +kernel) hown hK hP 0 rfl rfl 1 (by decide) (hts (.fieldLink RX8 13 "SmallNumberSetsModel" "size" "[I") (by decide +kernel)) (fun _ h9 => h9) rfl dX8_longestMatch_12 ?_
    refine lv_iload_n hx hb dX8_longestMatch_15 rfl (lv_at hl 1 rfl) ?_
    refine va_iald hx hb hK hP 2 1 rfl rfl (vp_in_nI (by omega) (by omega)) dX8_longestMatch_16 ?_
    refine lv_cvi (congrArg fS (nI_clamp (by omega))) ?_
    refine lv_cvi (hZ k hk) ?_
    refine lv_if_ne (tgt := 24) hx hb dX8_longestMatch_17 (by decide) (fun qc_6 => ?_) (fun qc_6 => ?_)
    · have c_6 : ¬ (fb_ct (M k) 4096) = 0 := fun h9 => qc_6 ((nI_eq (a := fb_ct (M k) 4096) (b := 0) (by omega) (by omega)).mpr h9)
      refine lv_aload_n hx hb dX8_longestMatch_24 rfl (lv_at hl 0 rfl) ?_
      refine lv_iload_n hx hb dX8_longestMatch_25 rfl (lv_at hl 1 rfl) ?_
      refine lv_iload_n hx hb dX8_longestMatch_26 rfl (lv_at hl 2 rfl) ?_
      have hPc := hP.sub (ws' := [(q, .inr (7, [.ref mq, .ref zq, .ref sq, .ref bq, .ref cq, .long sm, .ref pq, .int ps, .int th'_4])), (mq, .inl (cZ, 12288, .inl fM)), (zq, .inl (cI, 3, .inl fS)), (sq, .inl (cI, 6156, .inl fP)), (bq, .inl (cI, 3, .inl fB)), (cq, .inl (cJ, 64, .inr (.inl fC))), (pq, .inl (cI, 8, .inl fT))]) [0, 1, 2, 3, 4, 5, 6] rfl
      have hKc := hK.sub (tys' := [(cZ, .boolean), (cI, .int), (cJ, .long)]) [0, 1, 2] rfl
      refine vp_callSi (W.runV (As := [.int (nI k), .int (nI x)]) (rest := []) ⟨hx, hb, hml, hown, hts⟩ (c_X8_matches l dC dI q mq zq sq bq cq pq cZ cI cJ fM fS fP fB fC sm fT ps th'_4 M k x (by first | assumption | omega) (by first | assumption | omega) (by first | assumption | omega)) (cwV 2 hts gX8_longestMatch_X8_matches rfl rfl rfl (by decide +kernel) ⟨Nat.le_of_ble_eq_true rfl, Nat.le_of_ble_eq_true rfl⟩) ⟨fun a U g mk q => by obtain ⟨q0, qP, qK⟩ := q; exact ⟨q0, qP, va_K.moved (u := U) (U := U.calling g mk a) (Vm.Alike.refl U.vm) qK⟩, va_recv hKc hPc (ci := 7) (q0 := 0) rfl rfl, fun U hU hW => ⟨rfl, by rw [hU]; exact hPc, va_K.moved hW.alike hKc⟩⟩ rfl rfl hl.1 rfl (lv_room (Nat.le_of_ble_eq_true rfl)) dX8_longestMatch_27 ⟨Nat.le_of_ble_eq_true rfl, Nat.le_of_ble_eq_true rfl⟩) (fun r_8 hw_7 => ?_)
      subst hw_7
      refine lv_bipush (v := nI 100) hx hb dX8_longestMatch_30 (by decide +kernel) ?_
      refine lv_irem hx hb dX8_longestMatch_32 (by decide +kernel) ?_
      refine lv_cvi (pk_rem (by omega) (by decide) (by decide)) ?_
      have hP9 := hP.sub (ws' := [(q, .inr (7, [.ref mq, .ref zq, .ref sq, .ref bq, .ref cq, .long sm, .ref pq, .int ps, .int th'_4])), (mq, .inl (cZ, 12288, .inl fM)), (zq, .inl (cI, 3, .inl fS)), (sq, .inl (cI, 6156, .inl fP)), (bq, .inl (cI, 3, .inl fB)), (cq, .inl (cJ, 64, .inr (.inl fC))), (pq, .inl (cI, 8, .inl fT))]) [0, 1, 2, 3, 4, 5, 6] rfl
      have hD9 := hD.sub (ws' := [(q, .inr (7, [.ref mq, .ref zq, .ref sq, .ref bq, .ref cq, .long sm, .ref pq, .int ps, .int th'_4])), (mq, .inl (cZ, 12288, .inl fM)), (zq, .inl (cI, 3, .inl fS)), (sq, .inl (cI, 6156, .inl fP)), (bq, .inl (cI, 3, .inl fB)), (cq, .inl (cJ, 64, .inr (.inl fC))), (pq, .inl (cI, 8, .inl fT))]) [0, 1, 2, 3, 4, 5, 6] (by decide) rfl
      have hK9 := hK.sub (tys' := [(cZ, .boolean), (cI, .int), (cJ, .long)]) [0, 1, 2] rfl
      exact W.iret (v := nI (((bs (pat (M k) x) 13 0 13 0).1 + 100 * (bs (pat (M k) x) 13 0 13 0).2) % 100)) hx hb hr (fun t9 ht hW => ⟨⟨nI (((bs (pat (M k) x) 13 0 13 0).1 + 100 * (bs (pat (M k) x) 13 0 13 0).2) % 100), th'_4, rfl, ⟨(sr_1 (by omega)).1, hth⟩, by rw [ht]; exact hP9, va_K.moved hW.alike hK9, hD9⟩, hS.F ht⟩) hS.2.2 dX8_longestMatch_33
    · have c_6 : (fb_ct (M k) 4096) = 0 := (nI_eq (a := fb_ct (M k) 4096) (b := 0) (by omega) (by omega)).mp qc_6
      refine lv_iconst (v := -1) hx hb dX8_longestMatch_20 (by decide +kernel) ?_
      refine lv_goto (tgt := 33) hx hb dX8_longestMatch_21 (by decide) ?_
      have hP9 := hP.sub (ws' := [(q, .inr (7, [.ref mq, .ref zq, .ref sq, .ref bq, .ref cq, .long sm, .ref pq, .int ps, .int th'_4])), (mq, .inl (cZ, 12288, .inl fM)), (zq, .inl (cI, 3, .inl fS)), (sq, .inl (cI, 6156, .inl fP)), (bq, .inl (cI, 3, .inl fB)), (cq, .inl (cJ, 64, .inr (.inl fC))), (pq, .inl (cI, 8, .inl fT))]) [0, 1, 2, 3, 4, 5, 6] rfl
      have hD9 := hD.sub (ws' := [(q, .inr (7, [.ref mq, .ref zq, .ref sq, .ref bq, .ref cq, .long sm, .ref pq, .int ps, .int th'_4])), (mq, .inl (cZ, 12288, .inl fM)), (zq, .inl (cI, 3, .inl fS)), (sq, .inl (cI, 6156, .inl fP)), (bq, .inl (cI, 3, .inl fB)), (cq, .inl (cJ, 64, .inr (.inl fC))), (pq, .inl (cI, 8, .inl fT))]) [0, 1, 2, 3, 4, 5, 6] (by decide) rfl
      have hK9 := hK.sub (tys' := [(cZ, .boolean), (cI, .int), (cJ, .long)]) [0, 1, 2] rfl
      exact W.iret (v := -1) hx hb hr (fun t9 ht hW => ⟨⟨-1, th'_4, rfl, ⟨by rw [sr_0 (by omega)] <;> rfl, hth⟩, by rw [ht]; exact hP9, va_K.moved hW.alike hK9, hD9⟩, hS.F ht⟩) hS.2.2 dX8_longestMatch_33
  · have c_5 : true = false := b2i_f qc_5
    cases c_5
set_option maxHeartbeats 4000000 in
set_option maxRecDepth 100000 in
/-- reference: c_X8_longestMatch_s -/
theorem c_X8_longestMatch_s (l : Launch) (dC : Nat → ClassId) (dI : Nat → Nat → Nat) (q : Nat) (mq : Nat) (zq : Nat) (sq : Nat) (bq : Nat) (cq : Nat) (pq : Nat) (cZ : ClassId) (cI : ClassId) (cJ : ClassId) (fM : Nat → Int32) (fS : Nat → Int32) (fP : Nat → Int32) (fB : Nat → Int32) (fC : Nat → Int64) (sm : Int64) (fT : Nat → Int32) (ps : Int32) (th : Int32) (v : Int32) (w0 : Int32) (sz : Nat) (hSf : isS v = false) : Met l yX8_longestMatch wsX8_longestMatch ({ frames := 3, cells := 0, slots := 0, locals := 64 }) (va_Pc [.ref q, .int v, .int w0] (fun U => U.heap.size = sz ∧ va_P (dC, dI) vwCl [(q, .inr (7, [.ref mq, .ref zq, .ref sq, .ref bq, .ref cq, .long sm, .ref pq, .int ps, .int th])), (mq, .inl (cZ, 12288, .inl fM)), (zq, .inl (cI, 3, .inl fS)), (sq, .inl (cI, 6156, .inl fP)), (bq, .inl (cI, 3, .inl fB)), (cq, .inl (cJ, 64, .inr (.inl fC))), (pq, .inl (cI, 8, .inl fT))] U.heap ∧ va_K (dC, dI) vwCl [(cZ, .boolean), (cI, .int), (cJ, .long)] U ∧ va_D (fun _ => True) [(q, .inr (7, [.ref mq, .ref zq, .ref sq, .ref bq, .ref cq, .long sm, .ref pq, .int ps, .int th])), (mq, .inl (cZ, 12288, .inl fM)), (zq, .inl (cI, 3, .inl fS)), (sq, .inl (cI, 6156, .inl fP)), (bq, .inl (cI, 3, .inl fB)), (cq, .inl (cJ, 64, .inr (.inl fC))), (pq, .inl (cI, 8, .inl fT))])) (va_Qi (fun (r : Int32) (u : Int32) => u = nI 1) (fun (u : Int32) (t : State) => va_P (dC, dI) vwCl [(q, .inr (7, [.ref mq, .ref zq, .ref sq, .ref bq, .ref cq, .long sm, .ref pq, .int ps, .int u])), (mq, .inl (cZ, 12288, .inl fM)), (zq, .inl (cI, 3, .inl fS)), (sq, .inl (cI, 6156, .inl fP)), (bq, .inl (cI, 3, .inl fB)), (cq, .inl (cJ, 64, .inr (.inl fC))), (pq, .inl (cI, 8, .inl fT))] t.heap ∧ va_K (dC, dI) vwCl [(cZ, .boolean), (cI, .int), (cJ, .long)] t ∧ va_D (va_A [(q, .inr (7, [.ref mq, .ref zq, .ref sq, .ref bq, .ref cq, .long sm, .ref pq, .int ps, .int th])), (mq, .inl (cZ, 12288, .inl fM)), (zq, .inl (cI, 3, .inl fS)), (sq, .inl (cI, 6156, .inl fP)), (bq, .inl (cI, 3, .inl fB)), (cq, .inl (cJ, 64, .inr (.inl fC))), (pq, .inl (cI, 8, .inl fT))] sz) [(q, .inr (7, [.ref mq, .ref zq, .ref sq, .ref bq, .ref cq, .long sm, .ref pq, .int ps, .int u])), (mq, .inl (cZ, 12288, .inl fM)), (zq, .inl (cI, 3, .inl fS)), (sq, .inl (cI, 6156, .inl fP)), (bq, .inl (cI, 3, .inl fB)), (cq, .inl (cJ, 64, .inr (.inl fC))), (pq, .inl (cI, 8, .inl fT))]) (va_A [(q, .inr (7, [.ref mq, .ref zq, .ref sq, .ref bq, .ref cq, .long sm, .ref pq, .int ps, .int th])), (mq, .inl (cZ, 12288, .inl fM)), (zq, .inl (cI, 3, .inl fS)), (sq, .inl (cI, 6156, .inl fP)), (bq, .inl (cI, 3, .inl fB)), (cq, .inl (cJ, 64, .inr (.inl fC))), (pq, .inl (cI, 8, .inl fT))] sz)) 0 0 (va_A [(q, .inr (7, [.ref mq, .ref zq, .ref sq, .ref bq, .ref cq, .long sm, .ref pq, .int ps, .int th])), (mq, .inl (cZ, 12288, .inl fM)), (zq, .inl (cI, 3, .inl fS)), (sq, .inl (cI, 6156, .inl fP)), (bq, .inl (cI, 3, .inl fB)), (cq, .inl (cJ, 64, .inr (.inl fC))), (pq, .inl (cI, 8, .inl fT))] sz) := by
  refine Met.ofW (cc := cX8_longestMatch) (maxL := 3) (ret := (some .int)) (by decide) rfl ?_
  intro p e s m args below meth c s₁ B hml hv
  obtain ⟨rfl, hsz, hP, hK, hD0⟩ := hv
  have hx := B.exec
  have hb := B.bytes
  have hr := B.returns
  have hts := atoms_spec (ws := wsX8_longestMatch) B.pre
  have hown : s.vm.findClass RX8 = some m.cls := findClass_of_methodNamed B.named
  have hlocks := B.notSynchronized
  subst hsz
  have hD := hD0.self (sz := s.heap.size)
  generalize hAe : va_A [(q, .inr (7, [.ref mq, .ref zq, .ref sq, .ref bq, .ref cq, .long sm, .ref pq, .int ps, .int th])), (mq, .inl (cZ, 12288, .inl fM)), (zq, .inl (cI, 3, .inl fS)), (sq, .inl (cI, 6156, .inl fP)), (bq, .inl (cI, 3, .inl fB)), (cq, .inl (cJ, 64, .inr (.inl fC))), (pq, .inl (cI, 8, .inl fT))] s.heap.size = A at hD ⊢
  have hA : ∀ q : Nat, s.heap.size ≤ q → A q := fun q h => by rw [← hAe]; exact Or.inr h
  have hS : va_S A s.heap s.heap [] := va_S.rf
  have hP : va_P (dC, dI) vwCl [(q, .inr (7, [.ref mq, .ref zq, .ref sq, .ref bq, .ref cq, .long sm, .ref pq, .int ps, .int th])), (mq, .inl (cZ, 12288, .inl fM)), (zq, .inl (cI, 3, .inl fS)), (sq, .inl (cI, 6156, .inl fP)), (bq, .inl (cI, 3, .inl fB)), (cq, .inl (cJ, 64, .inr (.inl fC))), (pq, .inl (cI, 8, .inl fT))] s.heap := hP
  have hl := lv_entry ([.ref q, .int v, .int w0]) (n := 3) (Nat.le_of_ble_eq_true rfl)
  rw [lg_entry_eq]
  generalize (lg_sl ([.ref q, .int v, .int w0]) ++ List.replicate (3 - (lg_sl ([.ref q, .int v, .int w0])).length) Slot.unset).toArray = ls at hl ⊢
  have hl : lv_has ls 3 [(0, .ref q), (1, .int v), (2, .int w0)] := hl
  refine lv_aload_n hx hb dX8_longestMatch_0 rfl (lv_at hl 0 rfl) ?_
  refine lv_iload_n hx hb dX8_longestMatch_1 rfl (lv_at hl 1 rfl) ?_
  refine lv_iload_n hx hb dX8_longestMatch_2 rfl (lv_at hl 2 rfl) ?_
  have hPc := hP.sub (ws' := [(q, .inr (7, [.ref mq, .ref zq, .ref sq, .ref bq, .ref cq, .long sm, .ref pq, .int ps, .int th])), (mq, .inl (cZ, 12288, .inl fM)), (zq, .inl (cI, 3, .inl fS)), (sq, .inl (cI, 6156, .inl fP)), (bq, .inl (cI, 3, .inl fB)), (cq, .inl (cJ, 64, .inr (.inl fC))), (pq, .inl (cI, 8, .inl fT))]) [0, 1, 2, 3, 4, 5, 6] rfl
  have hKc := hK.sub (tys' := [(cZ, .boolean), (cI, .int), (cJ, .long)]) [0, 1, 2] rfl
  have hDc := hD.sub (ws' := [(q, .inr (7, [.ref mq, .ref zq, .ref sq, .ref bq, .ref cq, .long sm, .ref pq, .int ps, .int th])), (mq, .inl (cZ, 12288, .inl fM)), (zq, .inl (cI, 3, .inl fS)), (sq, .inl (cI, 6156, .inl fP)), (bq, .inl (cI, 3, .inl fB)), (cq, .inl (cJ, 64, .inr (.inl fC))), (pq, .inl (cI, 8, .inl fT))]) [0, 1, 2, 3, 4, 5, 6] (by decide) rfl
  have hFc := va_free (wc := [(q, .inr (7, [.ref mq, .ref zq, .ref sq, .ref bq, .ref cq, .long sm, .ref pq, .int ps, .int th])), (mq, .inl (cZ, 12288, .inl fM)), (zq, .inl (cI, 3, .inl fS)), (sq, .inl (cI, 6156, .inl fP)), (bq, .inl (cI, 3, .inl fB)), (cq, .inl (cJ, 64, .inr (.inl fC))), (pq, .inl (cI, 8, .inl fT))]) hD hS hA [0, 1, 2, 3, 4, 5, 6] rfl
  refine va_calli (va_runV (As := [.int v, .int w0]) (rest := []) ⟨hx, hb, hml, hown, hts⟩ (c_X8_isRight l dC dI q mq zq sq bq cq pq cZ cI cJ fM fS fP fB fC sm fT ps th v w0 s.heap.size ) (cwV 2 hts gX8_longestMatch_X8_isRight rfl rfl rfl (by decide +kernel) ⟨Nat.le_of_ble_eq_true rfl, Nat.le_of_ble_eq_true rfl⟩) ⟨fun a U g mk q => by obtain ⟨q0, q1, qP, qK, qD⟩ := q; exact ⟨q0, q1, qP, va_K.moved (u := U) (U := U.calling g mk a) (Vm.Alike.refl U.vm) qK, qD⟩, va_recv hKc hPc (ci := 7) (q0 := 0) rfl rfl, fun U hU hW => ⟨rfl, by rw [hU], by rw [hU]; exact hPc, va_K.moved hW.alike hKc, hDc.weaken (fun _ _ _ _ => trivial)⟩⟩ rfl rfl hl.1 rfl (lv_room (Nat.le_of_ble_eq_true rfl)) dX8_longestMatch_3 ⟨Nat.le_of_ble_eq_true rfl, Nat.le_of_ble_eq_true rfl⟩) hS (fun q _ h => hFc q h) hFc (fun r_3 u_2 t9 H1 locs ht hvm hw_1 hB hz1 hk1 hS => ?_)
  obtain ⟨th'_4, rfl⟩ : ∃ z, z = u_2 := ⟨_, rfl⟩
  obtain ⟨hP1, hK1, hD1⟩ := hB
  rw [ht] at hP1
  have hK1 := va_K.moved hvm.symm hK1
  try dsimp only at hw_1 hP1 hK1 hD1
  obtain ⟨hP, hD⟩ := va_join (wr := []) (w1 := [(q, .inr (7, [.ref mq, .ref zq, .ref sq, .ref bq, .ref cq, .long sm, .ref pq, .int ps, .int th'_4])), (mq, .inl (cZ, 12288, .inl fM)), (zq, .inl (cI, 3, .inl fS)), (sq, .inl (cI, 6156, .inl fP)), (bq, .inl (cI, 3, .inl fB)), (cq, .inl (cJ, 64, .inr (.inl fC))), (pq, .inl (cI, 8, .inl fT))]) hP hD [0, 1, 2, 3, 4, 5, 6] [] rfl rfl (by decide) (by decide) hk1 hFc hP1 hD1
  generalize H1 = H at hP hS ⊢
  have hP : va_P (dC, dI) vwCl [(q, .inr (7, [.ref mq, .ref zq, .ref sq, .ref bq, .ref cq, .long sm, .ref pq, .int ps, .int th'_4])), (mq, .inl (cZ, 12288, .inl fM)), (zq, .inl (cI, 3, .inl fS)), (sq, .inl (cI, 6156, .inl fP)), (bq, .inl (cI, 3, .inl fB)), (cq, .inl (cJ, 64, .inr (.inl fC))), (pq, .inl (cI, 8, .inl fT))] H := hP
  have hD : va_D A [(q, .inr (7, [.ref mq, .ref zq, .ref sq, .ref bq, .ref cq, .long sm, .ref pq, .int ps, .int th'_4])), (mq, .inl (cZ, 12288, .inl fM)), (zq, .inl (cI, 3, .inl fS)), (sq, .inl (cI, 6156, .inl fP)), (bq, .inl (cI, 3, .inl fB)), (cq, .inl (cJ, 64, .inr (.inl fC))), (pq, .inl (cI, 8, .inl fT))] := hD
  obtain ⟨he, hw_1⟩ := hw_1
  subst he
  have hth : th'_4 = nI 1 := by rw [hw_1, hSf]; rfl
  refine lv_cvi (congrArg b2i (by rw [hSf] <;> rfl)) ?_
  refine lv_if_ne (tgt := 11) hx hb dX8_longestMatch_6 (by decide) (fun qc_5 => ?_) (fun qc_5 => ?_)
  · have c_5 : false = true := b2i_t qc_5
    cases c_5
  · have c_5 : false = false := b2i_f qc_5
    refine lv_iconst (v := nI 0) hx hb dX8_longestMatch_9 (by decide +kernel) ?_
    have hP9 := hP.sub (ws' := [(q, .inr (7, [.ref mq, .ref zq, .ref sq, .ref bq, .ref cq, .long sm, .ref pq, .int ps, .int th'_4])), (mq, .inl (cZ, 12288, .inl fM)), (zq, .inl (cI, 3, .inl fS)), (sq, .inl (cI, 6156, .inl fP)), (bq, .inl (cI, 3, .inl fB)), (cq, .inl (cJ, 64, .inr (.inl fC))), (pq, .inl (cI, 8, .inl fT))]) [0, 1, 2, 3, 4, 5, 6] rfl
    have hD9 := hD.sub (ws' := [(q, .inr (7, [.ref mq, .ref zq, .ref sq, .ref bq, .ref cq, .long sm, .ref pq, .int ps, .int th'_4])), (mq, .inl (cZ, 12288, .inl fM)), (zq, .inl (cI, 3, .inl fS)), (sq, .inl (cI, 6156, .inl fP)), (bq, .inl (cI, 3, .inl fB)), (cq, .inl (cJ, 64, .inr (.inl fC))), (pq, .inl (cI, 8, .inl fT))]) [0, 1, 2, 3, 4, 5, 6] (by decide) rfl
    have hK9 := hK.sub (tys' := [(cZ, .boolean), (cI, .int), (cJ, .long)]) [0, 1, 2] rfl
    exact W.iret (v := nI 0) hx hb hr (fun t9 ht hW => ⟨⟨nI 0, th'_4, rfl, hth, by rw [ht]; exact hP9, va_K.moved hW.alike hK9, hD9⟩, hS.F ht⟩) hS.2.2 dX8_longestMatch_10
set_option maxHeartbeats 4000000 in
set_option maxRecDepth 100000 in
/-- reference: c_X8_longestMatch_n -/
theorem c_X8_longestMatch_n (l : Launch) (dC : Nat → ClassId) (dI : Nat → Nat → Nat) (q : Nat) (mq : Nat) (zq : Nat) (sq : Nat) (bq : Nat) (cq : Nat) (pq : Nat) (cZ : ClassId) (cI : ClassId) (cJ : ClassId) (fM : Nat → Int32) (fS : Nat → Int32) (fP : Nat → Int32) (fB : Nat → Int32) (fC : Nat → Int64) (sm : Int64) (fT : Nat → Int32) (ps : Int32) (th : Int32) (k : Nat) (w : Int32) (sz : Nat) (hk : k < 3) (hW : isN w = false) : Met l yX8_longestMatch wsX8_longestMatch ({ frames := 3, cells := 0, slots := 0, locals := 64 }) (va_Pc [.ref q, .int (nI k), .int w] (fun U => U.heap.size = sz ∧ va_P (dC, dI) vwCl [(q, .inr (7, [.ref mq, .ref zq, .ref sq, .ref bq, .ref cq, .long sm, .ref pq, .int ps, .int th])), (mq, .inl (cZ, 12288, .inl fM)), (zq, .inl (cI, 3, .inl fS)), (sq, .inl (cI, 6156, .inl fP)), (bq, .inl (cI, 3, .inl fB)), (cq, .inl (cJ, 64, .inr (.inl fC))), (pq, .inl (cI, 8, .inl fT))] U.heap ∧ va_K (dC, dI) vwCl [(cZ, .boolean), (cI, .int), (cJ, .long)] U ∧ va_D (fun _ => True) [(q, .inr (7, [.ref mq, .ref zq, .ref sq, .ref bq, .ref cq, .long sm, .ref pq, .int ps, .int th])), (mq, .inl (cZ, 12288, .inl fM)), (zq, .inl (cI, 3, .inl fS)), (sq, .inl (cI, 6156, .inl fP)), (bq, .inl (cI, 3, .inl fB)), (cq, .inl (cJ, 64, .inr (.inl fC))), (pq, .inl (cI, 8, .inl fT))])) (va_Qi (fun (r : Int32) (u : Int32) => u = nI 2) (fun (u : Int32) (t : State) => va_P (dC, dI) vwCl [(q, .inr (7, [.ref mq, .ref zq, .ref sq, .ref bq, .ref cq, .long sm, .ref pq, .int ps, .int u])), (mq, .inl (cZ, 12288, .inl fM)), (zq, .inl (cI, 3, .inl fS)), (sq, .inl (cI, 6156, .inl fP)), (bq, .inl (cI, 3, .inl fB)), (cq, .inl (cJ, 64, .inr (.inl fC))), (pq, .inl (cI, 8, .inl fT))] t.heap ∧ va_K (dC, dI) vwCl [(cZ, .boolean), (cI, .int), (cJ, .long)] t ∧ va_D (va_A [(q, .inr (7, [.ref mq, .ref zq, .ref sq, .ref bq, .ref cq, .long sm, .ref pq, .int ps, .int th])), (mq, .inl (cZ, 12288, .inl fM)), (zq, .inl (cI, 3, .inl fS)), (sq, .inl (cI, 6156, .inl fP)), (bq, .inl (cI, 3, .inl fB)), (cq, .inl (cJ, 64, .inr (.inl fC))), (pq, .inl (cI, 8, .inl fT))] sz) [(q, .inr (7, [.ref mq, .ref zq, .ref sq, .ref bq, .ref cq, .long sm, .ref pq, .int ps, .int u])), (mq, .inl (cZ, 12288, .inl fM)), (zq, .inl (cI, 3, .inl fS)), (sq, .inl (cI, 6156, .inl fP)), (bq, .inl (cI, 3, .inl fB)), (cq, .inl (cJ, 64, .inr (.inl fC))), (pq, .inl (cI, 8, .inl fT))]) (va_A [(q, .inr (7, [.ref mq, .ref zq, .ref sq, .ref bq, .ref cq, .long sm, .ref pq, .int ps, .int th])), (mq, .inl (cZ, 12288, .inl fM)), (zq, .inl (cI, 3, .inl fS)), (sq, .inl (cI, 6156, .inl fP)), (bq, .inl (cI, 3, .inl fB)), (cq, .inl (cJ, 64, .inr (.inl fC))), (pq, .inl (cI, 8, .inl fT))] sz)) 0 0 (va_A [(q, .inr (7, [.ref mq, .ref zq, .ref sq, .ref bq, .ref cq, .long sm, .ref pq, .int ps, .int th])), (mq, .inl (cZ, 12288, .inl fM)), (zq, .inl (cI, 3, .inl fS)), (sq, .inl (cI, 6156, .inl fP)), (bq, .inl (cI, 3, .inl fB)), (cq, .inl (cJ, 64, .inr (.inl fC))), (pq, .inl (cI, 8, .inl fT))] sz) := by
  refine Met.ofW (cc := cX8_longestMatch) (maxL := 3) (ret := (some .int)) (by decide) rfl ?_
  intro p e s m args below meth c s₁ B hml hv
  obtain ⟨rfl, hsz, hP, hK, hD0⟩ := hv
  have hx := B.exec
  have hb := B.bytes
  have hr := B.returns
  have hts := atoms_spec (ws := wsX8_longestMatch) B.pre
  have hown : s.vm.findClass RX8 = some m.cls := findClass_of_methodNamed B.named
  have hlocks := B.notSynchronized
  subst hsz
  have hD := hD0.self (sz := s.heap.size)
  generalize hAe : va_A [(q, .inr (7, [.ref mq, .ref zq, .ref sq, .ref bq, .ref cq, .long sm, .ref pq, .int ps, .int th])), (mq, .inl (cZ, 12288, .inl fM)), (zq, .inl (cI, 3, .inl fS)), (sq, .inl (cI, 6156, .inl fP)), (bq, .inl (cI, 3, .inl fB)), (cq, .inl (cJ, 64, .inr (.inl fC))), (pq, .inl (cI, 8, .inl fT))] s.heap.size = A at hD ⊢
  have hA : ∀ q : Nat, s.heap.size ≤ q → A q := fun q h => by rw [← hAe]; exact Or.inr h
  have hS : va_S A s.heap s.heap [] := va_S.rf
  have hP : va_P (dC, dI) vwCl [(q, .inr (7, [.ref mq, .ref zq, .ref sq, .ref bq, .ref cq, .long sm, .ref pq, .int ps, .int th])), (mq, .inl (cZ, 12288, .inl fM)), (zq, .inl (cI, 3, .inl fS)), (sq, .inl (cI, 6156, .inl fP)), (bq, .inl (cI, 3, .inl fB)), (cq, .inl (cJ, 64, .inr (.inl fC))), (pq, .inl (cI, 8, .inl fT))] s.heap := hP
  have hl := lv_entry ([.ref q, .int (nI k), .int w]) (n := 3) (Nat.le_of_ble_eq_true rfl)
  rw [lg_entry_eq]
  generalize (lg_sl ([.ref q, .int (nI k), .int w]) ++ List.replicate (3 - (lg_sl ([.ref q, .int (nI k), .int w])).length) Slot.unset).toArray = ls at hl ⊢
  have hl : lv_has ls 3 [(0, .ref q), (1, .int (nI k)), (2, .int w)] := hl
  refine lv_aload_n hx hb dX8_longestMatch_0 rfl (lv_at hl 0 rfl) ?_
  refine lv_iload_n hx hb dX8_longestMatch_1 rfl (lv_at hl 1 rfl) ?_
  refine lv_iload_n hx hb dX8_longestMatch_2 rfl (lv_at hl 2 rfl) ?_
  have hPc := hP.sub (ws' := [(q, .inr (7, [.ref mq, .ref zq, .ref sq, .ref bq, .ref cq, .long sm, .ref pq, .int ps, .int th])), (mq, .inl (cZ, 12288, .inl fM)), (zq, .inl (cI, 3, .inl fS)), (sq, .inl (cI, 6156, .inl fP)), (bq, .inl (cI, 3, .inl fB)), (cq, .inl (cJ, 64, .inr (.inl fC))), (pq, .inl (cI, 8, .inl fT))]) [0, 1, 2, 3, 4, 5, 6] rfl
  have hKc := hK.sub (tys' := [(cZ, .boolean), (cI, .int), (cJ, .long)]) [0, 1, 2] rfl
  have hDc := hD.sub (ws' := [(q, .inr (7, [.ref mq, .ref zq, .ref sq, .ref bq, .ref cq, .long sm, .ref pq, .int ps, .int th])), (mq, .inl (cZ, 12288, .inl fM)), (zq, .inl (cI, 3, .inl fS)), (sq, .inl (cI, 6156, .inl fP)), (bq, .inl (cI, 3, .inl fB)), (cq, .inl (cJ, 64, .inr (.inl fC))), (pq, .inl (cI, 8, .inl fT))]) [0, 1, 2, 3, 4, 5, 6] (by decide) rfl
  have hFc := va_free (wc := [(q, .inr (7, [.ref mq, .ref zq, .ref sq, .ref bq, .ref cq, .long sm, .ref pq, .int ps, .int th])), (mq, .inl (cZ, 12288, .inl fM)), (zq, .inl (cI, 3, .inl fS)), (sq, .inl (cI, 6156, .inl fP)), (bq, .inl (cI, 3, .inl fB)), (cq, .inl (cJ, 64, .inr (.inl fC))), (pq, .inl (cI, 8, .inl fT))]) hD hS hA [0, 1, 2, 3, 4, 5, 6] rfl
  refine va_calli (va_runV (As := [.int (nI k), .int w]) (rest := []) ⟨hx, hb, hml, hown, hts⟩ (c_X8_isRight l dC dI q mq zq sq bq cq pq cZ cI cJ fM fS fP fB fC sm fT ps th (nI k) w s.heap.size ) (cwV 2 hts gX8_longestMatch_X8_isRight rfl rfl rfl (by decide +kernel) ⟨Nat.le_of_ble_eq_true rfl, Nat.le_of_ble_eq_true rfl⟩) ⟨fun a U g mk q => by obtain ⟨q0, q1, qP, qK, qD⟩ := q; exact ⟨q0, q1, qP, va_K.moved (u := U) (U := U.calling g mk a) (Vm.Alike.refl U.vm) qK, qD⟩, va_recv hKc hPc (ci := 7) (q0 := 0) rfl rfl, fun U hU hW => ⟨rfl, by rw [hU], by rw [hU]; exact hPc, va_K.moved hW.alike hKc, hDc.weaken (fun _ _ _ _ => trivial)⟩⟩ rfl rfl hl.1 rfl (lv_room (Nat.le_of_ble_eq_true rfl)) dX8_longestMatch_3 ⟨Nat.le_of_ble_eq_true rfl, Nat.le_of_ble_eq_true rfl⟩) hS (fun q _ h => hFc q h) hFc (fun r_3 u_2 t9 H1 locs ht hvm hw_1 hB hz1 hk1 hS => ?_)
  obtain ⟨th'_4, rfl⟩ : ∃ z, z = u_2 := ⟨_, rfl⟩
  obtain ⟨hP1, hK1, hD1⟩ := hB
  rw [ht] at hP1
  have hK1 := va_K.moved hvm.symm hK1
  try dsimp only at hw_1 hP1 hK1 hD1
  obtain ⟨hP, hD⟩ := va_join (wr := []) (w1 := [(q, .inr (7, [.ref mq, .ref zq, .ref sq, .ref bq, .ref cq, .long sm, .ref pq, .int ps, .int th'_4])), (mq, .inl (cZ, 12288, .inl fM)), (zq, .inl (cI, 3, .inl fS)), (sq, .inl (cI, 6156, .inl fP)), (bq, .inl (cI, 3, .inl fB)), (cq, .inl (cJ, 64, .inr (.inl fC))), (pq, .inl (cI, 8, .inl fT))]) hP hD [0, 1, 2, 3, 4, 5, 6] [] rfl rfl (by decide) (by decide) hk1 hFc hP1 hD1
  generalize H1 = H at hP hS ⊢
  have hP : va_P (dC, dI) vwCl [(q, .inr (7, [.ref mq, .ref zq, .ref sq, .ref bq, .ref cq, .long sm, .ref pq, .int ps, .int th'_4])), (mq, .inl (cZ, 12288, .inl fM)), (zq, .inl (cI, 3, .inl fS)), (sq, .inl (cI, 6156, .inl fP)), (bq, .inl (cI, 3, .inl fB)), (cq, .inl (cJ, 64, .inr (.inl fC))), (pq, .inl (cI, 8, .inl fT))] H := hP
  have hD : va_D A [(q, .inr (7, [.ref mq, .ref zq, .ref sq, .ref bq, .ref cq, .long sm, .ref pq, .int ps, .int th'_4])), (mq, .inl (cZ, 12288, .inl fM)), (zq, .inl (cI, 3, .inl fS)), (sq, .inl (cI, 6156, .inl fP)), (bq, .inl (cI, 3, .inl fB)), (cq, .inl (cJ, 64, .inr (.inl fC))), (pq, .inl (cI, 8, .inl fT))] := hD
  obtain ⟨he, hw_1⟩ := hw_1
  subst he
  have hth : th'_4 = nI 2 := by rw [hw_1, isS_t hk, hW]; rfl
  refine lv_cvi (congrArg b2i (by rw [isS_t hk, hW] <;> rfl)) ?_
  refine lv_if_ne (tgt := 11) hx hb dX8_longestMatch_6 (by decide) (fun qc_5 => ?_) (fun qc_5 => ?_)
  · have c_5 : false = true := b2i_t qc_5
    cases c_5
  · have c_5 : false = false := b2i_f qc_5
    refine lv_iconst (v := nI 0) hx hb dX8_longestMatch_9 (by decide +kernel) ?_
    have hP9 := hP.sub (ws' := [(q, .inr (7, [.ref mq, .ref zq, .ref sq, .ref bq, .ref cq, .long sm, .ref pq, .int ps, .int th'_4])), (mq, .inl (cZ, 12288, .inl fM)), (zq, .inl (cI, 3, .inl fS)), (sq, .inl (cI, 6156, .inl fP)), (bq, .inl (cI, 3, .inl fB)), (cq, .inl (cJ, 64, .inr (.inl fC))), (pq, .inl (cI, 8, .inl fT))]) [0, 1, 2, 3, 4, 5, 6] rfl
    have hD9 := hD.sub (ws' := [(q, .inr (7, [.ref mq, .ref zq, .ref sq, .ref bq, .ref cq, .long sm, .ref pq, .int ps, .int th'_4])), (mq, .inl (cZ, 12288, .inl fM)), (zq, .inl (cI, 3, .inl fS)), (sq, .inl (cI, 6156, .inl fP)), (bq, .inl (cI, 3, .inl fB)), (cq, .inl (cJ, 64, .inr (.inl fC))), (pq, .inl (cI, 8, .inl fT))]) [0, 1, 2, 3, 4, 5, 6] (by decide) rfl
    have hK9 := hK.sub (tys' := [(cZ, .boolean), (cI, .int), (cJ, .long)]) [0, 1, 2] rfl
    exact W.iret (v := nI 0) hx hb hr (fun t9 ht hW => ⟨⟨nI 0, th'_4, rfl, hth, by rw [ht]; exact hP9, va_K.moved hW.alike hK9, hD9⟩, hS.F ht⟩) hS.2.2 dX8_longestMatch_10
set_option maxHeartbeats 4000000 in
set_option maxRecDepth 100000 in
/-- reference: c_X8_probes_v -/
theorem c_X8_probes_v (l : Launch) (dC : Nat → ClassId) (dI : Nat → Nat → Nat) (q : Nat) (mq : Nat) (zq : Nat) (sq : Nat) (bq : Nat) (cq : Nat) (pq : Nat) (cZ : ClassId) (cI : ClassId) (cJ : ClassId) (fM : Nat → Int32) (fS : Nat → Int32) (fP : Nat → Int32) (fB : Nat → Int32) (fC : Nat → Int64) (sm : Int64) (fT : Nat → Int32) (ps : Int32) (th : Int32) (M : Nat → Nat → Bool) (k : Nat) (x : Nat) (sz : Nat) (hM : MM fM M) (hZ : MZ fS M) (hk : k < 3) (hxx : x < 4096) : Met l yX8_probes wsX8_probes ({ frames := 4, cells := 0, slots := 0, locals := 95 }) (va_Pc [.ref q, .int (nI k), .int (nI x)] (fun U => U.heap.size = sz ∧ va_P (dC, dI) vwCl [(q, .inr (7, [.ref mq, .ref zq, .ref sq, .ref bq, .ref cq, .long sm, .ref pq, .int ps, .int th])), (mq, .inl (cZ, 12288, .inl fM)), (zq, .inl (cI, 3, .inl fS)), (sq, .inl (cI, 6156, .inl fP)), (bq, .inl (cI, 3, .inl fB)), (cq, .inl (cJ, 64, .inr (.inl fC))), (pq, .inl (cI, 8, .inl fT))] U.heap ∧ va_K (dC, dI) vwCl [(cZ, .boolean), (cI, .int), (cJ, .long)] U ∧ va_D (fun _ => True) [(q, .inr (7, [.ref mq, .ref zq, .ref sq, .ref bq, .ref cq, .long sm, .ref pq, .int ps, .int th])), (mq, .inl (cZ, 12288, .inl fM)), (zq, .inl (cI, 3, .inl fS)), (sq, .inl (cI, 6156, .inl fP)), (bq, .inl (cI, 3, .inl fB)), (cq, .inl (cJ, 64, .inr (.inl fC))), (pq, .inl (cI, 8, .inl fT))])) (va_Qi (fun (r : Int32) (u : Int32) => r = nI (srch (M k) x).2 ∧ u = nI 0) (fun (u : Int32) (t : State) => va_P (dC, dI) vwCl [(q, .inr (7, [.ref mq, .ref zq, .ref sq, .ref bq, .ref cq, .long sm, .ref pq, .int ps, .int u])), (mq, .inl (cZ, 12288, .inl fM)), (zq, .inl (cI, 3, .inl fS)), (sq, .inl (cI, 6156, .inl fP)), (bq, .inl (cI, 3, .inl fB)), (cq, .inl (cJ, 64, .inr (.inl fC))), (pq, .inl (cI, 8, .inl fT))] t.heap ∧ va_K (dC, dI) vwCl [(cZ, .boolean), (cI, .int), (cJ, .long)] t ∧ va_D (va_A [(q, .inr (7, [.ref mq, .ref zq, .ref sq, .ref bq, .ref cq, .long sm, .ref pq, .int ps, .int th])), (mq, .inl (cZ, 12288, .inl fM)), (zq, .inl (cI, 3, .inl fS)), (sq, .inl (cI, 6156, .inl fP)), (bq, .inl (cI, 3, .inl fB)), (cq, .inl (cJ, 64, .inr (.inl fC))), (pq, .inl (cI, 8, .inl fT))] sz) [(q, .inr (7, [.ref mq, .ref zq, .ref sq, .ref bq, .ref cq, .long sm, .ref pq, .int ps, .int u])), (mq, .inl (cZ, 12288, .inl fM)), (zq, .inl (cI, 3, .inl fS)), (sq, .inl (cI, 6156, .inl fP)), (bq, .inl (cI, 3, .inl fB)), (cq, .inl (cJ, 64, .inr (.inl fC))), (pq, .inl (cI, 8, .inl fT))]) (va_A [(q, .inr (7, [.ref mq, .ref zq, .ref sq, .ref bq, .ref cq, .long sm, .ref pq, .int ps, .int th])), (mq, .inl (cZ, 12288, .inl fM)), (zq, .inl (cI, 3, .inl fS)), (sq, .inl (cI, 6156, .inl fP)), (bq, .inl (cI, 3, .inl fB)), (cq, .inl (cJ, 64, .inr (.inl fC))), (pq, .inl (cI, 8, .inl fT))] sz)) 0 0 (va_A [(q, .inr (7, [.ref mq, .ref zq, .ref sq, .ref bq, .ref cq, .long sm, .ref pq, .int ps, .int th])), (mq, .inl (cZ, 12288, .inl fM)), (zq, .inl (cI, 3, .inl fS)), (sq, .inl (cI, 6156, .inl fP)), (bq, .inl (cI, 3, .inl fB)), (cq, .inl (cJ, 64, .inr (.inl fC))), (pq, .inl (cI, 8, .inl fT))] sz) := by
  refine Met.ofW (cc := cX8_probes) (maxL := 3) (ret := (some .int)) (by decide) rfl ?_
  intro p e s m args below meth c s₁ B hml hv
  obtain ⟨rfl, hsz, hP, hK, hD0⟩ := hv
  have hx := B.exec
  have hb := B.bytes
  have hr := B.returns
  have hts := atoms_spec (ws := wsX8_probes) B.pre
  have hown : s.vm.findClass RX8 = some m.cls := findClass_of_methodNamed B.named
  have hlocks := B.notSynchronized
  subst hsz
  have hD := hD0.self (sz := s.heap.size)
  generalize hAe : va_A [(q, .inr (7, [.ref mq, .ref zq, .ref sq, .ref bq, .ref cq, .long sm, .ref pq, .int ps, .int th])), (mq, .inl (cZ, 12288, .inl fM)), (zq, .inl (cI, 3, .inl fS)), (sq, .inl (cI, 6156, .inl fP)), (bq, .inl (cI, 3, .inl fB)), (cq, .inl (cJ, 64, .inr (.inl fC))), (pq, .inl (cI, 8, .inl fT))] s.heap.size = A at hD ⊢
  have hA : ∀ q : Nat, s.heap.size ≤ q → A q := fun q h => by rw [← hAe]; exact Or.inr h
  have hS : va_S A s.heap s.heap [] := va_S.rf
  have hP : va_P (dC, dI) vwCl [(q, .inr (7, [.ref mq, .ref zq, .ref sq, .ref bq, .ref cq, .long sm, .ref pq, .int ps, .int th])), (mq, .inl (cZ, 12288, .inl fM)), (zq, .inl (cI, 3, .inl fS)), (sq, .inl (cI, 6156, .inl fP)), (bq, .inl (cI, 3, .inl fB)), (cq, .inl (cJ, 64, .inr (.inl fC))), (pq, .inl (cI, 8, .inl fT))] s.heap := hP
  have hl := lv_entry ([.ref q, .int (nI k), .int (nI x)]) (n := 3) (Nat.le_of_ble_eq_true rfl)
  rw [lg_entry_eq]
  generalize (lg_sl ([.ref q, .int (nI k), .int (nI x)]) ++ List.replicate (3 - (lg_sl ([.ref q, .int (nI k), .int (nI x)])).length) Slot.unset).toArray = ls at hl ⊢
  have hl : lv_has ls 3 [(0, .ref q), (1, .int (nI k)), (2, .int (nI x))] := hl
  have hcm := fb_ct_le (M k) 4096
  have hbl := bs_le (pat (M k) x) 13 0 13 0 (by decide) (by decide)
  refine lv_aload_n hx hb dX8_probes_0 rfl (lv_at hl 0 rfl) ?_
  refine lv_iload_n hx hb dX8_probes_1 rfl (lv_at hl 1 rfl) ?_
  refine lv_iload_n hx hb dX8_probes_2 rfl (lv_at hl 2 rfl) ?_
  have hPc := hP.sub (ws' := [(q, .inr (7, [.ref mq, .ref zq, .ref sq, .ref bq, .ref cq, .long sm, .ref pq, .int ps, .int th])), (mq, .inl (cZ, 12288, .inl fM)), (zq, .inl (cI, 3, .inl fS)), (sq, .inl (cI, 6156, .inl fP)), (bq, .inl (cI, 3, .inl fB)), (cq, .inl (cJ, 64, .inr (.inl fC))), (pq, .inl (cI, 8, .inl fT))]) [0, 1, 2, 3, 4, 5, 6] rfl
  have hKc := hK.sub (tys' := [(cZ, .boolean), (cI, .int), (cJ, .long)]) [0, 1, 2] rfl
  have hDc := hD.sub (ws' := [(q, .inr (7, [.ref mq, .ref zq, .ref sq, .ref bq, .ref cq, .long sm, .ref pq, .int ps, .int th])), (mq, .inl (cZ, 12288, .inl fM)), (zq, .inl (cI, 3, .inl fS)), (sq, .inl (cI, 6156, .inl fP)), (bq, .inl (cI, 3, .inl fB)), (cq, .inl (cJ, 64, .inr (.inl fC))), (pq, .inl (cI, 8, .inl fT))]) [0, 1, 2, 3, 4, 5, 6] (by decide) rfl
  have hFc := va_free (wc := [(q, .inr (7, [.ref mq, .ref zq, .ref sq, .ref bq, .ref cq, .long sm, .ref pq, .int ps, .int th])), (mq, .inl (cZ, 12288, .inl fM)), (zq, .inl (cI, 3, .inl fS)), (sq, .inl (cI, 6156, .inl fP)), (bq, .inl (cI, 3, .inl fB)), (cq, .inl (cJ, 64, .inr (.inl fC))), (pq, .inl (cI, 8, .inl fT))]) hD hS hA [0, 1, 2, 3, 4, 5, 6] rfl
  refine va_calli (va_runV (As := [.int (nI k), .int (nI x)]) (rest := []) ⟨hx, hb, hml, hown, hts⟩ (c_X8_isRight l dC dI q mq zq sq bq cq pq cZ cI cJ fM fS fP fB fC sm fT ps th (nI k) (nI x) s.heap.size ) (cwV 2 hts gX8_probes_X8_isRight rfl rfl rfl (by decide +kernel) ⟨Nat.le_of_ble_eq_true rfl, Nat.le_of_ble_eq_true rfl⟩) ⟨fun a U g mk q => by obtain ⟨q0, q1, qP, qK, qD⟩ := q; exact ⟨q0, q1, qP, va_K.moved (u := U) (U := U.calling g mk a) (Vm.Alike.refl U.vm) qK, qD⟩, va_recv hKc hPc (ci := 7) (q0 := 0) rfl rfl, fun U hU hW => ⟨rfl, by rw [hU], by rw [hU]; exact hPc, va_K.moved hW.alike hKc, hDc.weaken (fun _ _ _ _ => trivial)⟩⟩ rfl rfl hl.1 rfl (lv_room (Nat.le_of_ble_eq_true rfl)) dX8_probes_3 ⟨Nat.le_of_ble_eq_true rfl, Nat.le_of_ble_eq_true rfl⟩) hS (fun q _ h => hFc q h) hFc (fun r_3 u_2 t9 H1 locs ht hvm hw_1 hB hz1 hk1 hS => ?_)
  obtain ⟨th'_4, rfl⟩ : ∃ z, z = u_2 := ⟨_, rfl⟩
  obtain ⟨hP1, hK1, hD1⟩ := hB
  rw [ht] at hP1
  have hK1 := va_K.moved hvm.symm hK1
  try dsimp only at hw_1 hP1 hK1 hD1
  obtain ⟨hP, hD⟩ := va_join (wr := []) (w1 := [(q, .inr (7, [.ref mq, .ref zq, .ref sq, .ref bq, .ref cq, .long sm, .ref pq, .int ps, .int th'_4])), (mq, .inl (cZ, 12288, .inl fM)), (zq, .inl (cI, 3, .inl fS)), (sq, .inl (cI, 6156, .inl fP)), (bq, .inl (cI, 3, .inl fB)), (cq, .inl (cJ, 64, .inr (.inl fC))), (pq, .inl (cI, 8, .inl fT))]) hP hD [0, 1, 2, 3, 4, 5, 6] [] rfl rfl (by decide) (by decide) hk1 hFc hP1 hD1
  generalize H1 = H at hP hS ⊢
  have hP : va_P (dC, dI) vwCl [(q, .inr (7, [.ref mq, .ref zq, .ref sq, .ref bq, .ref cq, .long sm, .ref pq, .int ps, .int th'_4])), (mq, .inl (cZ, 12288, .inl fM)), (zq, .inl (cI, 3, .inl fS)), (sq, .inl (cI, 6156, .inl fP)), (bq, .inl (cI, 3, .inl fB)), (cq, .inl (cJ, 64, .inr (.inl fC))), (pq, .inl (cI, 8, .inl fT))] H := hP
  have hD : va_D A [(q, .inr (7, [.ref mq, .ref zq, .ref sq, .ref bq, .ref cq, .long sm, .ref pq, .int ps, .int th'_4])), (mq, .inl (cZ, 12288, .inl fM)), (zq, .inl (cI, 3, .inl fS)), (sq, .inl (cI, 6156, .inl fP)), (bq, .inl (cI, 3, .inl fB)), (cq, .inl (cJ, 64, .inr (.inl fC))), (pq, .inl (cI, 8, .inl fT))] := hD
  obtain ⟨he, hw_1⟩ := hw_1
  subst he
  have hth : th'_4 = nI 0 := by rw [hw_1, isS_t hk, isN_t hxx]; rfl
  refine lv_cvi (congrArg b2i (by rw [isS_t hk, isN_t hxx] <;> rfl)) ?_
  refine lv_if_eq (tgt := 30) hx hb dX8_probes_6 (by decide) (fun qc_5 => ?_) (fun qc_5 => ?_)
  · have c_5 : true = false := b2i_f qc_5
    cases c_5
  · have c_5 : true = true := b2i_t qc_5
    refine lv_aload_n hx hb dX8_probes_9 rfl (lv_at hl 0 rfl) ?_
    refine va_get (D := (dC, dI)) (ci := 7) (v := .ref zq) (C := RX8) (T := TX8) (N := 9) hx hb hts (by decide +kernel) hown hK hP 0 rfl rfl 1 (by decide) (hts (.fieldLink RX8 13 "SmallNumberSetsModel" "size" "[I") (by decide +kernel)) (fun _ h9 => h9) rfl dX8_probes_10 ?_
    refine lv_iload_n hx hb dX8_probes_13 rfl (lv_at hl 1 rfl) ?_
    refine va_iald hx hb hK hP 2 1 rfl rfl (vp_in_nI (by omega) (by omega)) dX8_probes_14 ?_
    refine lv_cvi (congrArg fS (nI_clamp (by omega))) ?_
    refine lv_cvi (hZ k hk) ?_
    refine lv_if_le (tgt := 30) hx hb dX8_probes_15 (by decide) (fun qc_6 => ?_) (fun qc_6 => ?_)
    · have c_6 : (fb_ct (M k) 4096) ≤ 0 := (nI_leI (a := fb_ct (M k) 4096) (b := 0) (by omega) (by omega)).mp qc_6
      refine lv_iconst (v := nI 0) hx hb dX8_probes_30 (by decide +kernel) ?_
      have hP9 := hP.sub (ws' := [(q, .inr (7, [.ref mq, .ref zq, .ref sq, .ref bq, .ref cq, .long sm, .ref pq, .int ps, .int th'_4])), (mq, .inl (cZ, 12288, .inl fM)), (zq, .inl (cI, 3, .inl fS)), (sq, .inl (cI, 6156, .inl fP)), (bq, .inl (cI, 3, .inl fB)), (cq, .inl (cJ, 64, .inr (.inl fC))), (pq, .inl (cI, 8, .inl fT))]) [0, 1, 2, 3, 4, 5, 6] rfl
      have hD9 := hD.sub (ws' := [(q, .inr (7, [.ref mq, .ref zq, .ref sq, .ref bq, .ref cq, .long sm, .ref pq, .int ps, .int th'_4])), (mq, .inl (cZ, 12288, .inl fM)), (zq, .inl (cI, 3, .inl fS)), (sq, .inl (cI, 6156, .inl fP)), (bq, .inl (cI, 3, .inl fB)), (cq, .inl (cJ, 64, .inr (.inl fC))), (pq, .inl (cI, 8, .inl fT))]) [0, 1, 2, 3, 4, 5, 6] (by decide) rfl
      have hK9 := hK.sub (tys' := [(cZ, .boolean), (cI, .int), (cJ, .long)]) [0, 1, 2] rfl
      exact W.iret (v := nI 0) hx hb hr (fun t9 ht hW => ⟨⟨nI 0, th'_4, rfl, ⟨by rw [sr_0 (by omega)] <;> rfl, hth⟩, by rw [ht]; exact hP9, va_K.moved hW.alike hK9, hD9⟩, hS.F ht⟩) hS.2.2 dX8_probes_31
    · have c_6 : ¬ (fb_ct (M k) 4096) ≤ 0 := fun h9 => qc_6 ((nI_leI (a := fb_ct (M k) 4096) (b := 0) (by omega) (by omega)).mpr h9)
      refine lv_aload_n hx hb dX8_probes_18 rfl (lv_at hl 0 rfl) ?_
      refine lv_iload_n hx hb dX8_probes_19 rfl (lv_at hl 1 rfl) ?_
      refine lv_iload_n hx hb dX8_probes_20 rfl (lv_at hl 2 rfl) ?_
      have hPc := hP.sub (ws' := [(q, .inr (7, [.ref mq, .ref zq, .ref sq, .ref bq, .ref cq, .long sm, .ref pq, .int ps, .int th'_4])), (mq, .inl (cZ, 12288, .inl fM)), (zq, .inl (cI, 3, .inl fS)), (sq, .inl (cI, 6156, .inl fP)), (bq, .inl (cI, 3, .inl fB)), (cq, .inl (cJ, 64, .inr (.inl fC))), (pq, .inl (cI, 8, .inl fT))]) [0, 1, 2, 3, 4, 5, 6] rfl
      have hKc := hK.sub (tys' := [(cZ, .boolean), (cI, .int), (cJ, .long)]) [0, 1, 2] rfl
      refine vp_callSi (W.runV (As := [.int (nI k), .int (nI x)]) (rest := []) ⟨hx, hb, hml, hown, hts⟩ (c_X8_matches l dC dI q mq zq sq bq cq pq cZ cI cJ fM fS fP fB fC sm fT ps th'_4 M k x (by first | assumption | omega) (by first | assumption | omega) (by first | assumption | omega)) (cwV 2 hts gX8_probes_X8_matches rfl rfl rfl (by decide +kernel) ⟨Nat.le_of_ble_eq_true rfl, Nat.le_of_ble_eq_true rfl⟩) ⟨fun a U g mk q => by obtain ⟨q0, qP, qK⟩ := q; exact ⟨q0, qP, va_K.moved (u := U) (U := U.calling g mk a) (Vm.Alike.refl U.vm) qK⟩, va_recv hKc hPc (ci := 7) (q0 := 0) rfl rfl, fun U hU hW => ⟨rfl, by rw [hU]; exact hPc, va_K.moved hW.alike hKc⟩⟩ rfl rfl hl.1 rfl (lv_room (Nat.le_of_ble_eq_true rfl)) dX8_probes_21 ⟨Nat.le_of_ble_eq_true rfl, Nat.le_of_ble_eq_true rfl⟩) (fun r_8 hw_7 => ?_)
      subst hw_7
      refine lv_bipush (v := nI 100) hx hb dX8_probes_24 (by decide +kernel) ?_
      refine lv_idiv hx hb dX8_probes_26 (by decide +kernel) ?_
      refine lv_cvi (pk_div (by omega) (by decide) (by decide)) ?_
      refine lv_goto (tgt := 31) hx hb dX8_probes_27 (by decide) ?_
      have hP9 := hP.sub (ws' := [(q, .inr (7, [.ref mq, .ref zq, .ref sq, .ref bq, .ref cq, .long sm, .ref pq, .int ps, .int th'_4])), (mq, .inl (cZ, 12288, .inl fM)), (zq, .inl (cI, 3, .inl fS)), (sq, .inl (cI, 6156, .inl fP)), (bq, .inl (cI, 3, .inl fB)), (cq, .inl (cJ, 64, .inr (.inl fC))), (pq, .inl (cI, 8, .inl fT))]) [0, 1, 2, 3, 4, 5, 6] rfl
      have hD9 := hD.sub (ws' := [(q, .inr (7, [.ref mq, .ref zq, .ref sq, .ref bq, .ref cq, .long sm, .ref pq, .int ps, .int th'_4])), (mq, .inl (cZ, 12288, .inl fM)), (zq, .inl (cI, 3, .inl fS)), (sq, .inl (cI, 6156, .inl fP)), (bq, .inl (cI, 3, .inl fB)), (cq, .inl (cJ, 64, .inr (.inl fC))), (pq, .inl (cI, 8, .inl fT))]) [0, 1, 2, 3, 4, 5, 6] (by decide) rfl
      have hK9 := hK.sub (tys' := [(cZ, .boolean), (cI, .int), (cJ, .long)]) [0, 1, 2] rfl
      exact W.iret (v := nI (((bs (pat (M k) x) 13 0 13 0).1 + 100 * (bs (pat (M k) x) 13 0 13 0).2) / 100)) hx hb hr (fun t9 ht hW => ⟨⟨nI (((bs (pat (M k) x) 13 0 13 0).1 + 100 * (bs (pat (M k) x) 13 0 13 0).2) / 100), th'_4, rfl, ⟨(sr_1 (by omega)).2, hth⟩, by rw [ht]; exact hP9, va_K.moved hW.alike hK9, hD9⟩, hS.F ht⟩) hS.2.2 dX8_probes_31
set_option maxHeartbeats 4000000 in
set_option maxRecDepth 100000 in
/-- reference: c_X8_probes_s -/
theorem c_X8_probes_s (l : Launch) (dC : Nat → ClassId) (dI : Nat → Nat → Nat) (q : Nat) (mq : Nat) (zq : Nat) (sq : Nat) (bq : Nat) (cq : Nat) (pq : Nat) (cZ : ClassId) (cI : ClassId) (cJ : ClassId) (fM : Nat → Int32) (fS : Nat → Int32) (fP : Nat → Int32) (fB : Nat → Int32) (fC : Nat → Int64) (sm : Int64) (fT : Nat → Int32) (ps : Int32) (th : Int32) (v : Int32) (w0 : Int32) (sz : Nat) (hSf : isS v = false) : Met l yX8_probes wsX8_probes ({ frames := 3, cells := 0, slots := 0, locals := 64 }) (va_Pc [.ref q, .int v, .int w0] (fun U => U.heap.size = sz ∧ va_P (dC, dI) vwCl [(q, .inr (7, [.ref mq, .ref zq, .ref sq, .ref bq, .ref cq, .long sm, .ref pq, .int ps, .int th])), (mq, .inl (cZ, 12288, .inl fM)), (zq, .inl (cI, 3, .inl fS)), (sq, .inl (cI, 6156, .inl fP)), (bq, .inl (cI, 3, .inl fB)), (cq, .inl (cJ, 64, .inr (.inl fC))), (pq, .inl (cI, 8, .inl fT))] U.heap ∧ va_K (dC, dI) vwCl [(cZ, .boolean), (cI, .int), (cJ, .long)] U ∧ va_D (fun _ => True) [(q, .inr (7, [.ref mq, .ref zq, .ref sq, .ref bq, .ref cq, .long sm, .ref pq, .int ps, .int th])), (mq, .inl (cZ, 12288, .inl fM)), (zq, .inl (cI, 3, .inl fS)), (sq, .inl (cI, 6156, .inl fP)), (bq, .inl (cI, 3, .inl fB)), (cq, .inl (cJ, 64, .inr (.inl fC))), (pq, .inl (cI, 8, .inl fT))])) (va_Qi (fun (r : Int32) (u : Int32) => u = nI 1) (fun (u : Int32) (t : State) => va_P (dC, dI) vwCl [(q, .inr (7, [.ref mq, .ref zq, .ref sq, .ref bq, .ref cq, .long sm, .ref pq, .int ps, .int u])), (mq, .inl (cZ, 12288, .inl fM)), (zq, .inl (cI, 3, .inl fS)), (sq, .inl (cI, 6156, .inl fP)), (bq, .inl (cI, 3, .inl fB)), (cq, .inl (cJ, 64, .inr (.inl fC))), (pq, .inl (cI, 8, .inl fT))] t.heap ∧ va_K (dC, dI) vwCl [(cZ, .boolean), (cI, .int), (cJ, .long)] t ∧ va_D (va_A [(q, .inr (7, [.ref mq, .ref zq, .ref sq, .ref bq, .ref cq, .long sm, .ref pq, .int ps, .int th])), (mq, .inl (cZ, 12288, .inl fM)), (zq, .inl (cI, 3, .inl fS)), (sq, .inl (cI, 6156, .inl fP)), (bq, .inl (cI, 3, .inl fB)), (cq, .inl (cJ, 64, .inr (.inl fC))), (pq, .inl (cI, 8, .inl fT))] sz) [(q, .inr (7, [.ref mq, .ref zq, .ref sq, .ref bq, .ref cq, .long sm, .ref pq, .int ps, .int u])), (mq, .inl (cZ, 12288, .inl fM)), (zq, .inl (cI, 3, .inl fS)), (sq, .inl (cI, 6156, .inl fP)), (bq, .inl (cI, 3, .inl fB)), (cq, .inl (cJ, 64, .inr (.inl fC))), (pq, .inl (cI, 8, .inl fT))]) (va_A [(q, .inr (7, [.ref mq, .ref zq, .ref sq, .ref bq, .ref cq, .long sm, .ref pq, .int ps, .int th])), (mq, .inl (cZ, 12288, .inl fM)), (zq, .inl (cI, 3, .inl fS)), (sq, .inl (cI, 6156, .inl fP)), (bq, .inl (cI, 3, .inl fB)), (cq, .inl (cJ, 64, .inr (.inl fC))), (pq, .inl (cI, 8, .inl fT))] sz)) 0 0 (va_A [(q, .inr (7, [.ref mq, .ref zq, .ref sq, .ref bq, .ref cq, .long sm, .ref pq, .int ps, .int th])), (mq, .inl (cZ, 12288, .inl fM)), (zq, .inl (cI, 3, .inl fS)), (sq, .inl (cI, 6156, .inl fP)), (bq, .inl (cI, 3, .inl fB)), (cq, .inl (cJ, 64, .inr (.inl fC))), (pq, .inl (cI, 8, .inl fT))] sz) := by
  refine Met.ofW (cc := cX8_probes) (maxL := 3) (ret := (some .int)) (by decide) rfl ?_
  intro p e s m args below meth c s₁ B hml hv
  obtain ⟨rfl, hsz, hP, hK, hD0⟩ := hv
  have hx := B.exec
  have hb := B.bytes
  have hr := B.returns
  have hts := atoms_spec (ws := wsX8_probes) B.pre
  have hown : s.vm.findClass RX8 = some m.cls := findClass_of_methodNamed B.named
  have hlocks := B.notSynchronized
  subst hsz
  have hD := hD0.self (sz := s.heap.size)
  generalize hAe : va_A [(q, .inr (7, [.ref mq, .ref zq, .ref sq, .ref bq, .ref cq, .long sm, .ref pq, .int ps, .int th])), (mq, .inl (cZ, 12288, .inl fM)), (zq, .inl (cI, 3, .inl fS)), (sq, .inl (cI, 6156, .inl fP)), (bq, .inl (cI, 3, .inl fB)), (cq, .inl (cJ, 64, .inr (.inl fC))), (pq, .inl (cI, 8, .inl fT))] s.heap.size = A at hD ⊢
  have hA : ∀ q : Nat, s.heap.size ≤ q → A q := fun q h => by rw [← hAe]; exact Or.inr h
  have hS : va_S A s.heap s.heap [] := va_S.rf
  have hP : va_P (dC, dI) vwCl [(q, .inr (7, [.ref mq, .ref zq, .ref sq, .ref bq, .ref cq, .long sm, .ref pq, .int ps, .int th])), (mq, .inl (cZ, 12288, .inl fM)), (zq, .inl (cI, 3, .inl fS)), (sq, .inl (cI, 6156, .inl fP)), (bq, .inl (cI, 3, .inl fB)), (cq, .inl (cJ, 64, .inr (.inl fC))), (pq, .inl (cI, 8, .inl fT))] s.heap := hP
  have hl := lv_entry ([.ref q, .int v, .int w0]) (n := 3) (Nat.le_of_ble_eq_true rfl)
  rw [lg_entry_eq]
  generalize (lg_sl ([.ref q, .int v, .int w0]) ++ List.replicate (3 - (lg_sl ([.ref q, .int v, .int w0])).length) Slot.unset).toArray = ls at hl ⊢
  have hl : lv_has ls 3 [(0, .ref q), (1, .int v), (2, .int w0)] := hl
  refine lv_aload_n hx hb dX8_probes_0 rfl (lv_at hl 0 rfl) ?_
  refine lv_iload_n hx hb dX8_probes_1 rfl (lv_at hl 1 rfl) ?_
  refine lv_iload_n hx hb dX8_probes_2 rfl (lv_at hl 2 rfl) ?_
  have hPc := hP.sub (ws' := [(q, .inr (7, [.ref mq, .ref zq, .ref sq, .ref bq, .ref cq, .long sm, .ref pq, .int ps, .int th])), (mq, .inl (cZ, 12288, .inl fM)), (zq, .inl (cI, 3, .inl fS)), (sq, .inl (cI, 6156, .inl fP)), (bq, .inl (cI, 3, .inl fB)), (cq, .inl (cJ, 64, .inr (.inl fC))), (pq, .inl (cI, 8, .inl fT))]) [0, 1, 2, 3, 4, 5, 6] rfl
  have hKc := hK.sub (tys' := [(cZ, .boolean), (cI, .int), (cJ, .long)]) [0, 1, 2] rfl
  have hDc := hD.sub (ws' := [(q, .inr (7, [.ref mq, .ref zq, .ref sq, .ref bq, .ref cq, .long sm, .ref pq, .int ps, .int th])), (mq, .inl (cZ, 12288, .inl fM)), (zq, .inl (cI, 3, .inl fS)), (sq, .inl (cI, 6156, .inl fP)), (bq, .inl (cI, 3, .inl fB)), (cq, .inl (cJ, 64, .inr (.inl fC))), (pq, .inl (cI, 8, .inl fT))]) [0, 1, 2, 3, 4, 5, 6] (by decide) rfl
  have hFc := va_free (wc := [(q, .inr (7, [.ref mq, .ref zq, .ref sq, .ref bq, .ref cq, .long sm, .ref pq, .int ps, .int th])), (mq, .inl (cZ, 12288, .inl fM)), (zq, .inl (cI, 3, .inl fS)), (sq, .inl (cI, 6156, .inl fP)), (bq, .inl (cI, 3, .inl fB)), (cq, .inl (cJ, 64, .inr (.inl fC))), (pq, .inl (cI, 8, .inl fT))]) hD hS hA [0, 1, 2, 3, 4, 5, 6] rfl
  refine va_calli (va_runV (As := [.int v, .int w0]) (rest := []) ⟨hx, hb, hml, hown, hts⟩ (c_X8_isRight l dC dI q mq zq sq bq cq pq cZ cI cJ fM fS fP fB fC sm fT ps th v w0 s.heap.size ) (cwV 2 hts gX8_probes_X8_isRight rfl rfl rfl (by decide +kernel) ⟨Nat.le_of_ble_eq_true rfl, Nat.le_of_ble_eq_true rfl⟩) ⟨fun a U g mk q => by obtain ⟨q0, q1, qP, qK, qD⟩ := q; exact ⟨q0, q1, qP, va_K.moved (u := U) (U := U.calling g mk a) (Vm.Alike.refl U.vm) qK, qD⟩, va_recv hKc hPc (ci := 7) (q0 := 0) rfl rfl, fun U hU hW => ⟨rfl, by rw [hU], by rw [hU]; exact hPc, va_K.moved hW.alike hKc, hDc.weaken (fun _ _ _ _ => trivial)⟩⟩ rfl rfl hl.1 rfl (lv_room (Nat.le_of_ble_eq_true rfl)) dX8_probes_3 ⟨Nat.le_of_ble_eq_true rfl, Nat.le_of_ble_eq_true rfl⟩) hS (fun q _ h => hFc q h) hFc (fun r_3 u_2 t9 H1 locs ht hvm hw_1 hB hz1 hk1 hS => ?_)
  obtain ⟨th'_4, rfl⟩ : ∃ z, z = u_2 := ⟨_, rfl⟩
  obtain ⟨hP1, hK1, hD1⟩ := hB
  rw [ht] at hP1
  have hK1 := va_K.moved hvm.symm hK1
  try dsimp only at hw_1 hP1 hK1 hD1
  obtain ⟨hP, hD⟩ := va_join (wr := []) (w1 := [(q, .inr (7, [.ref mq, .ref zq, .ref sq, .ref bq, .ref cq, .long sm, .ref pq, .int ps, .int th'_4])), (mq, .inl (cZ, 12288, .inl fM)), (zq, .inl (cI, 3, .inl fS)), (sq, .inl (cI, 6156, .inl fP)), (bq, .inl (cI, 3, .inl fB)), (cq, .inl (cJ, 64, .inr (.inl fC))), (pq, .inl (cI, 8, .inl fT))]) hP hD [0, 1, 2, 3, 4, 5, 6] [] rfl rfl (by decide) (by decide) hk1 hFc hP1 hD1
  generalize H1 = H at hP hS ⊢
  have hP : va_P (dC, dI) vwCl [(q, .inr (7, [.ref mq, .ref zq, .ref sq, .ref bq, .ref cq, .long sm, .ref pq, .int ps, .int th'_4])), (mq, .inl (cZ, 12288, .inl fM)), (zq, .inl (cI, 3, .inl fS)), (sq, .inl (cI, 6156, .inl fP)), (bq, .inl (cI, 3, .inl fB)), (cq, .inl (cJ, 64, .inr (.inl fC))), (pq, .inl (cI, 8, .inl fT))] H := hP
  have hD : va_D A [(q, .inr (7, [.ref mq, .ref zq, .ref sq, .ref bq, .ref cq, .long sm, .ref pq, .int ps, .int th'_4])), (mq, .inl (cZ, 12288, .inl fM)), (zq, .inl (cI, 3, .inl fS)), (sq, .inl (cI, 6156, .inl fP)), (bq, .inl (cI, 3, .inl fB)), (cq, .inl (cJ, 64, .inr (.inl fC))), (pq, .inl (cI, 8, .inl fT))] := hD
  obtain ⟨he, hw_1⟩ := hw_1
  subst he
  have hth : th'_4 = nI 1 := by rw [hw_1, hSf]; rfl
  refine lv_cvi (congrArg b2i (by rw [hSf] <;> rfl)) ?_
  refine lv_if_eq (tgt := 30) hx hb dX8_probes_6 (by decide) (fun qc_5 => ?_) (fun qc_5 => ?_)
  · have c_5 : false = false := b2i_f qc_5
    refine lv_iconst (v := nI 0) hx hb dX8_probes_30 (by decide +kernel) ?_
    have hP9 := hP.sub (ws' := [(q, .inr (7, [.ref mq, .ref zq, .ref sq, .ref bq, .ref cq, .long sm, .ref pq, .int ps, .int th'_4])), (mq, .inl (cZ, 12288, .inl fM)), (zq, .inl (cI, 3, .inl fS)), (sq, .inl (cI, 6156, .inl fP)), (bq, .inl (cI, 3, .inl fB)), (cq, .inl (cJ, 64, .inr (.inl fC))), (pq, .inl (cI, 8, .inl fT))]) [0, 1, 2, 3, 4, 5, 6] rfl
    have hD9 := hD.sub (ws' := [(q, .inr (7, [.ref mq, .ref zq, .ref sq, .ref bq, .ref cq, .long sm, .ref pq, .int ps, .int th'_4])), (mq, .inl (cZ, 12288, .inl fM)), (zq, .inl (cI, 3, .inl fS)), (sq, .inl (cI, 6156, .inl fP)), (bq, .inl (cI, 3, .inl fB)), (cq, .inl (cJ, 64, .inr (.inl fC))), (pq, .inl (cI, 8, .inl fT))]) [0, 1, 2, 3, 4, 5, 6] (by decide) rfl
    have hK9 := hK.sub (tys' := [(cZ, .boolean), (cI, .int), (cJ, .long)]) [0, 1, 2] rfl
    exact W.iret (v := nI 0) hx hb hr (fun t9 ht hW => ⟨⟨nI 0, th'_4, rfl, hth, by rw [ht]; exact hP9, va_K.moved hW.alike hK9, hD9⟩, hS.F ht⟩) hS.2.2 dX8_probes_31
  · have c_5 : false = true := b2i_t qc_5
    cases c_5
set_option maxHeartbeats 4000000 in
set_option maxRecDepth 100000 in
/-- reference: c_X8_probes_n -/
theorem c_X8_probes_n (l : Launch) (dC : Nat → ClassId) (dI : Nat → Nat → Nat) (q : Nat) (mq : Nat) (zq : Nat) (sq : Nat) (bq : Nat) (cq : Nat) (pq : Nat) (cZ : ClassId) (cI : ClassId) (cJ : ClassId) (fM : Nat → Int32) (fS : Nat → Int32) (fP : Nat → Int32) (fB : Nat → Int32) (fC : Nat → Int64) (sm : Int64) (fT : Nat → Int32) (ps : Int32) (th : Int32) (k : Nat) (w : Int32) (sz : Nat) (hk : k < 3) (hW : isN w = false) : Met l yX8_probes wsX8_probes ({ frames := 3, cells := 0, slots := 0, locals := 64 }) (va_Pc [.ref q, .int (nI k), .int w] (fun U => U.heap.size = sz ∧ va_P (dC, dI) vwCl [(q, .inr (7, [.ref mq, .ref zq, .ref sq, .ref bq, .ref cq, .long sm, .ref pq, .int ps, .int th])), (mq, .inl (cZ, 12288, .inl fM)), (zq, .inl (cI, 3, .inl fS)), (sq, .inl (cI, 6156, .inl fP)), (bq, .inl (cI, 3, .inl fB)), (cq, .inl (cJ, 64, .inr (.inl fC))), (pq, .inl (cI, 8, .inl fT))] U.heap ∧ va_K (dC, dI) vwCl [(cZ, .boolean), (cI, .int), (cJ, .long)] U ∧ va_D (fun _ => True) [(q, .inr (7, [.ref mq, .ref zq, .ref sq, .ref bq, .ref cq, .long sm, .ref pq, .int ps, .int th])), (mq, .inl (cZ, 12288, .inl fM)), (zq, .inl (cI, 3, .inl fS)), (sq, .inl (cI, 6156, .inl fP)), (bq, .inl (cI, 3, .inl fB)), (cq, .inl (cJ, 64, .inr (.inl fC))), (pq, .inl (cI, 8, .inl fT))])) (va_Qi (fun (r : Int32) (u : Int32) => u = nI 2) (fun (u : Int32) (t : State) => va_P (dC, dI) vwCl [(q, .inr (7, [.ref mq, .ref zq, .ref sq, .ref bq, .ref cq, .long sm, .ref pq, .int ps, .int u])), (mq, .inl (cZ, 12288, .inl fM)), (zq, .inl (cI, 3, .inl fS)), (sq, .inl (cI, 6156, .inl fP)), (bq, .inl (cI, 3, .inl fB)), (cq, .inl (cJ, 64, .inr (.inl fC))), (pq, .inl (cI, 8, .inl fT))] t.heap ∧ va_K (dC, dI) vwCl [(cZ, .boolean), (cI, .int), (cJ, .long)] t ∧ va_D (va_A [(q, .inr (7, [.ref mq, .ref zq, .ref sq, .ref bq, .ref cq, .long sm, .ref pq, .int ps, .int th])), (mq, .inl (cZ, 12288, .inl fM)), (zq, .inl (cI, 3, .inl fS)), (sq, .inl (cI, 6156, .inl fP)), (bq, .inl (cI, 3, .inl fB)), (cq, .inl (cJ, 64, .inr (.inl fC))), (pq, .inl (cI, 8, .inl fT))] sz) [(q, .inr (7, [.ref mq, .ref zq, .ref sq, .ref bq, .ref cq, .long sm, .ref pq, .int ps, .int u])), (mq, .inl (cZ, 12288, .inl fM)), (zq, .inl (cI, 3, .inl fS)), (sq, .inl (cI, 6156, .inl fP)), (bq, .inl (cI, 3, .inl fB)), (cq, .inl (cJ, 64, .inr (.inl fC))), (pq, .inl (cI, 8, .inl fT))]) (va_A [(q, .inr (7, [.ref mq, .ref zq, .ref sq, .ref bq, .ref cq, .long sm, .ref pq, .int ps, .int th])), (mq, .inl (cZ, 12288, .inl fM)), (zq, .inl (cI, 3, .inl fS)), (sq, .inl (cI, 6156, .inl fP)), (bq, .inl (cI, 3, .inl fB)), (cq, .inl (cJ, 64, .inr (.inl fC))), (pq, .inl (cI, 8, .inl fT))] sz)) 0 0 (va_A [(q, .inr (7, [.ref mq, .ref zq, .ref sq, .ref bq, .ref cq, .long sm, .ref pq, .int ps, .int th])), (mq, .inl (cZ, 12288, .inl fM)), (zq, .inl (cI, 3, .inl fS)), (sq, .inl (cI, 6156, .inl fP)), (bq, .inl (cI, 3, .inl fB)), (cq, .inl (cJ, 64, .inr (.inl fC))), (pq, .inl (cI, 8, .inl fT))] sz) := by
  refine Met.ofW (cc := cX8_probes) (maxL := 3) (ret := (some .int)) (by decide) rfl ?_
  intro p e s m args below meth c s₁ B hml hv
  obtain ⟨rfl, hsz, hP, hK, hD0⟩ := hv
  have hx := B.exec
  have hb := B.bytes
  have hr := B.returns
  have hts := atoms_spec (ws := wsX8_probes) B.pre
  have hown : s.vm.findClass RX8 = some m.cls := findClass_of_methodNamed B.named
  have hlocks := B.notSynchronized
  subst hsz
  have hD := hD0.self (sz := s.heap.size)
  generalize hAe : va_A [(q, .inr (7, [.ref mq, .ref zq, .ref sq, .ref bq, .ref cq, .long sm, .ref pq, .int ps, .int th])), (mq, .inl (cZ, 12288, .inl fM)), (zq, .inl (cI, 3, .inl fS)), (sq, .inl (cI, 6156, .inl fP)), (bq, .inl (cI, 3, .inl fB)), (cq, .inl (cJ, 64, .inr (.inl fC))), (pq, .inl (cI, 8, .inl fT))] s.heap.size = A at hD ⊢
  have hA : ∀ q : Nat, s.heap.size ≤ q → A q := fun q h => by rw [← hAe]; exact Or.inr h
  have hS : va_S A s.heap s.heap [] := va_S.rf
  have hP : va_P (dC, dI) vwCl [(q, .inr (7, [.ref mq, .ref zq, .ref sq, .ref bq, .ref cq, .long sm, .ref pq, .int ps, .int th])), (mq, .inl (cZ, 12288, .inl fM)), (zq, .inl (cI, 3, .inl fS)), (sq, .inl (cI, 6156, .inl fP)), (bq, .inl (cI, 3, .inl fB)), (cq, .inl (cJ, 64, .inr (.inl fC))), (pq, .inl (cI, 8, .inl fT))] s.heap := hP
  have hl := lv_entry ([.ref q, .int (nI k), .int w]) (n := 3) (Nat.le_of_ble_eq_true rfl)
  rw [lg_entry_eq]
  generalize (lg_sl ([.ref q, .int (nI k), .int w]) ++ List.replicate (3 - (lg_sl ([.ref q, .int (nI k), .int w])).length) Slot.unset).toArray = ls at hl ⊢
  have hl : lv_has ls 3 [(0, .ref q), (1, .int (nI k)), (2, .int w)] := hl
  refine lv_aload_n hx hb dX8_probes_0 rfl (lv_at hl 0 rfl) ?_
  refine lv_iload_n hx hb dX8_probes_1 rfl (lv_at hl 1 rfl) ?_
  refine lv_iload_n hx hb dX8_probes_2 rfl (lv_at hl 2 rfl) ?_
  have hPc := hP.sub (ws' := [(q, .inr (7, [.ref mq, .ref zq, .ref sq, .ref bq, .ref cq, .long sm, .ref pq, .int ps, .int th])), (mq, .inl (cZ, 12288, .inl fM)), (zq, .inl (cI, 3, .inl fS)), (sq, .inl (cI, 6156, .inl fP)), (bq, .inl (cI, 3, .inl fB)), (cq, .inl (cJ, 64, .inr (.inl fC))), (pq, .inl (cI, 8, .inl fT))]) [0, 1, 2, 3, 4, 5, 6] rfl
  have hKc := hK.sub (tys' := [(cZ, .boolean), (cI, .int), (cJ, .long)]) [0, 1, 2] rfl
  have hDc := hD.sub (ws' := [(q, .inr (7, [.ref mq, .ref zq, .ref sq, .ref bq, .ref cq, .long sm, .ref pq, .int ps, .int th])), (mq, .inl (cZ, 12288, .inl fM)), (zq, .inl (cI, 3, .inl fS)), (sq, .inl (cI, 6156, .inl fP)), (bq, .inl (cI, 3, .inl fB)), (cq, .inl (cJ, 64, .inr (.inl fC))), (pq, .inl (cI, 8, .inl fT))]) [0, 1, 2, 3, 4, 5, 6] (by decide) rfl
  have hFc := va_free (wc := [(q, .inr (7, [.ref mq, .ref zq, .ref sq, .ref bq, .ref cq, .long sm, .ref pq, .int ps, .int th])), (mq, .inl (cZ, 12288, .inl fM)), (zq, .inl (cI, 3, .inl fS)), (sq, .inl (cI, 6156, .inl fP)), (bq, .inl (cI, 3, .inl fB)), (cq, .inl (cJ, 64, .inr (.inl fC))), (pq, .inl (cI, 8, .inl fT))]) hD hS hA [0, 1, 2, 3, 4, 5, 6] rfl
  refine va_calli (va_runV (As := [.int (nI k), .int w]) (rest := []) ⟨hx, hb, hml, hown, hts⟩ (c_X8_isRight l dC dI q mq zq sq bq cq pq cZ cI cJ fM fS fP fB fC sm fT ps th (nI k) w s.heap.size ) (cwV 2 hts gX8_probes_X8_isRight rfl rfl rfl (by decide +kernel) ⟨Nat.le_of_ble_eq_true rfl, Nat.le_of_ble_eq_true rfl⟩) ⟨fun a U g mk q => by obtain ⟨q0, q1, qP, qK, qD⟩ := q; exact ⟨q0, q1, qP, va_K.moved (u := U) (U := U.calling g mk a) (Vm.Alike.refl U.vm) qK, qD⟩, va_recv hKc hPc (ci := 7) (q0 := 0) rfl rfl, fun U hU hW => ⟨rfl, by rw [hU], by rw [hU]; exact hPc, va_K.moved hW.alike hKc, hDc.weaken (fun _ _ _ _ => trivial)⟩⟩ rfl rfl hl.1 rfl (lv_room (Nat.le_of_ble_eq_true rfl)) dX8_probes_3 ⟨Nat.le_of_ble_eq_true rfl, Nat.le_of_ble_eq_true rfl⟩) hS (fun q _ h => hFc q h) hFc (fun r_3 u_2 t9 H1 locs ht hvm hw_1 hB hz1 hk1 hS => ?_)
  obtain ⟨th'_4, rfl⟩ : ∃ z, z = u_2 := ⟨_, rfl⟩
  obtain ⟨hP1, hK1, hD1⟩ := hB
  rw [ht] at hP1
  have hK1 := va_K.moved hvm.symm hK1
  try dsimp only at hw_1 hP1 hK1 hD1
  obtain ⟨hP, hD⟩ := va_join (wr := []) (w1 := [(q, .inr (7, [.ref mq, .ref zq, .ref sq, .ref bq, .ref cq, .long sm, .ref pq, .int ps, .int th'_4])), (mq, .inl (cZ, 12288, .inl fM)), (zq, .inl (cI, 3, .inl fS)), (sq, .inl (cI, 6156, .inl fP)), (bq, .inl (cI, 3, .inl fB)), (cq, .inl (cJ, 64, .inr (.inl fC))), (pq, .inl (cI, 8, .inl fT))]) hP hD [0, 1, 2, 3, 4, 5, 6] [] rfl rfl (by decide) (by decide) hk1 hFc hP1 hD1
  generalize H1 = H at hP hS ⊢
  have hP : va_P (dC, dI) vwCl [(q, .inr (7, [.ref mq, .ref zq, .ref sq, .ref bq, .ref cq, .long sm, .ref pq, .int ps, .int th'_4])), (mq, .inl (cZ, 12288, .inl fM)), (zq, .inl (cI, 3, .inl fS)), (sq, .inl (cI, 6156, .inl fP)), (bq, .inl (cI, 3, .inl fB)), (cq, .inl (cJ, 64, .inr (.inl fC))), (pq, .inl (cI, 8, .inl fT))] H := hP
  have hD : va_D A [(q, .inr (7, [.ref mq, .ref zq, .ref sq, .ref bq, .ref cq, .long sm, .ref pq, .int ps, .int th'_4])), (mq, .inl (cZ, 12288, .inl fM)), (zq, .inl (cI, 3, .inl fS)), (sq, .inl (cI, 6156, .inl fP)), (bq, .inl (cI, 3, .inl fB)), (cq, .inl (cJ, 64, .inr (.inl fC))), (pq, .inl (cI, 8, .inl fT))] := hD
  obtain ⟨he, hw_1⟩ := hw_1
  subst he
  have hth : th'_4 = nI 2 := by rw [hw_1, isS_t hk, hW]; rfl
  refine lv_cvi (congrArg b2i (by rw [isS_t hk, hW] <;> rfl)) ?_
  refine lv_if_eq (tgt := 30) hx hb dX8_probes_6 (by decide) (fun qc_5 => ?_) (fun qc_5 => ?_)
  · have c_5 : false = false := b2i_f qc_5
    refine lv_iconst (v := nI 0) hx hb dX8_probes_30 (by decide +kernel) ?_
    have hP9 := hP.sub (ws' := [(q, .inr (7, [.ref mq, .ref zq, .ref sq, .ref bq, .ref cq, .long sm, .ref pq, .int ps, .int th'_4])), (mq, .inl (cZ, 12288, .inl fM)), (zq, .inl (cI, 3, .inl fS)), (sq, .inl (cI, 6156, .inl fP)), (bq, .inl (cI, 3, .inl fB)), (cq, .inl (cJ, 64, .inr (.inl fC))), (pq, .inl (cI, 8, .inl fT))]) [0, 1, 2, 3, 4, 5, 6] rfl
    have hD9 := hD.sub (ws' := [(q, .inr (7, [.ref mq, .ref zq, .ref sq, .ref bq, .ref cq, .long sm, .ref pq, .int ps, .int th'_4])), (mq, .inl (cZ, 12288, .inl fM)), (zq, .inl (cI, 3, .inl fS)), (sq, .inl (cI, 6156, .inl fP)), (bq, .inl (cI, 3, .inl fB)), (cq, .inl (cJ, 64, .inr (.inl fC))), (pq, .inl (cI, 8, .inl fT))]) [0, 1, 2, 3, 4, 5, 6] (by decide) rfl
    have hK9 := hK.sub (tys' := [(cZ, .boolean), (cI, .int), (cJ, .long)]) [0, 1, 2] rfl
    exact W.iret (v := nI 0) hx hb hr (fun t9 ht hW => ⟨⟨nI 0, th'_4, rfl, hth, by rw [ht]; exact hP9, va_K.moved hW.alike hK9, hD9⟩, hS.F ht⟩) hS.2.2 dX8_probes_31
  · have c_5 : false = true := b2i_t qc_5
    cases c_5
set_option maxHeartbeats 4000000 in
set_option maxRecDepth 100000 in
/-- reference: c_X8_insertRange_v -/
theorem c_X8_insertRange_v (l : Launch) (dC : Nat → ClassId) (dI : Nat → Nat → Nat) (q : Nat) (mq : Nat) (zq : Nat) (sq : Nat) (bq : Nat) (cq : Nat) (pq : Nat) (cZ : ClassId) (cI : ClassId) (cJ : ClassId) (fM : Nat → Int32) (fS : Nat → Int32) (fP : Nat → Int32) (fB : Nat → Int32) (fC : Nat → Int64) (sm : Int64) (fT : Nat → Int32) (ps : Int32) (th : Int32) (M : Nat → Nat → Bool) (P : Nat → Nat → Bool) (k : Nat) (a : Nat) (d : Nat) (n : Nat) (sz : Nat) (hM : MM fM M) (hZ : MZ fS M) (hX : MX fP fB P) (hk : k < 3) (hB : BI (M k) (P k)) (ha : a < 4096) (hd : 1 ≤ d ∧ d ≤ 1000) (hn : 1 ≤ n ∧ n ≤ 30) (hl9 : a + (n - 1) * d < 4096) : Met l yX8_insertRange wsX8_insertRange ({ frames := 4, cells := 0, slots := 0, locals := 94 }) (va_Pc [.ref q, .int (nI k), .int (nI a), .int (nI d), .int (nI n)] (fun U => U.heap.size = sz ∧ va_P (dC, dI) vwCl [(q, .inr (7, [.ref mq, .ref zq, .ref sq, .ref bq, .ref cq, .long sm, .ref pq, .int ps, .int th])), (mq, .inl (cZ, 12288, .inl fM)), (zq, .inl (cI, 3, .inl fS)), (sq, .inl (cI, 6156, .inl fP)), (bq, .inl (cI, 3, .inl fB)), (cq, .inl (cJ, 64, .inr (.inl fC))), (pq, .inl (cI, 8, .inl fT))] U.heap ∧ va_K (dC, dI) vwCl [(cZ, .boolean), (cI, .int), (cJ, .long)] U ∧ va_D (fun _ => True) [(q, .inr (7, [.ref mq, .ref zq, .ref sq, .ref bq, .ref cq, .long sm, .ref pq, .int ps, .int th])), (mq, .inl (cZ, 12288, .inl fM)), (zq, .inl (cI, 3, .inl fS)), (sq, .inl (cI, 6156, .inl fP)), (bq, .inl (cI, 3, .inl fB)), (cq, .inl (cJ, 64, .inr (.inl fC))), (pq, .inl (cI, 8, .inl fT))])) (va_Qi (fun (r : Int32) (u : (Nat → Int32) × (Nat → Int32) × (Nat → Int32) × (Nat → Int32) × Int32) => r = nI (putsC (M k) (fun j => a + j * d) n) ∧ MM u.1 (upF M k (putsM (M k) (fun j => a + j * d) n)) ∧ MZ u.2.1 (upF M k (putsM (M k) (fun j => a + j * d) n)) ∧ MX u.2.2.1 u.2.2.2.1 (upF P k (putsP (M k) (P k) (fun j => a + j * d) n)) ∧ u.2.2.2.2 = nI 0) (fun (u : (Nat → Int32) × (Nat → Int32) × (Nat → Int32) × (Nat → Int32) × Int32) (t : State) => va_P (dC, dI) vwCl [(q, .inr (7, [.ref mq, .ref zq, .ref sq, .ref bq, .ref cq, .long sm, .ref pq, .int ps, .int u.2.2.2.2])), (mq, .inl (cZ, 12288, .inl u.1)), (zq, .inl (cI, 3, .inl u.2.1)), (sq, .inl (cI, 6156, .inl u.2.2.1)), (bq, .inl (cI, 3, .inl u.2.2.2.1)), (cq, .inl (cJ, 64, .inr (.inl fC))), (pq, .inl (cI, 8, .inl fT))] t.heap ∧ va_K (dC, dI) vwCl [(cZ, .boolean), (cI, .int), (cJ, .long)] t ∧ va_D (va_A [(q, .inr (7, [.ref mq, .ref zq, .ref sq, .ref bq, .ref cq, .long sm, .ref pq, .int ps, .int th])), (mq, .inl (cZ, 12288, .inl fM)), (zq, .inl (cI, 3, .inl fS)), (sq, .inl (cI, 6156, .inl fP)), (bq, .inl (cI, 3, .inl fB)), (cq, .inl (cJ, 64, .inr (.inl fC))), (pq, .inl (cI, 8, .inl fT))] sz) [(q, .inr (7, [.ref mq, .ref zq, .ref sq, .ref bq, .ref cq, .long sm, .ref pq, .int ps, .int u.2.2.2.2])), (mq, .inl (cZ, 12288, .inl u.1)), (zq, .inl (cI, 3, .inl u.2.1)), (sq, .inl (cI, 6156, .inl u.2.2.1)), (bq, .inl (cI, 3, .inl u.2.2.2.1)), (cq, .inl (cJ, 64, .inr (.inl fC))), (pq, .inl (cI, 8, .inl fT))]) (va_A [(q, .inr (7, [.ref mq, .ref zq, .ref sq, .ref bq, .ref cq, .long sm, .ref pq, .int ps, .int th])), (mq, .inl (cZ, 12288, .inl fM)), (zq, .inl (cI, 3, .inl fS)), (sq, .inl (cI, 6156, .inl fP)), (bq, .inl (cI, 3, .inl fB)), (cq, .inl (cJ, 64, .inr (.inl fC))), (pq, .inl (cI, 8, .inl fT))] sz)) 0 0 (va_A [(q, .inr (7, [.ref mq, .ref zq, .ref sq, .ref bq, .ref cq, .long sm, .ref pq, .int ps, .int th])), (mq, .inl (cZ, 12288, .inl fM)), (zq, .inl (cI, 3, .inl fS)), (sq, .inl (cI, 6156, .inl fP)), (bq, .inl (cI, 3, .inl fB)), (cq, .inl (cJ, 64, .inr (.inl fC))), (pq, .inl (cI, 8, .inl fT))] sz) := by
  refine Met.ofW (cc := cX8_insertRange) (maxL := 8) (ret := (some .int)) (by decide) rfl ?_
  intro p e s m args below meth c s₁ B hml hv
  obtain ⟨rfl, hsz, hP, hK, hD0⟩ := hv
  have hx := B.exec
  have hb := B.bytes
  have hr := B.returns
  have hts := atoms_spec (ws := wsX8_insertRange) B.pre
  have hown : s.vm.findClass RX8 = some m.cls := findClass_of_methodNamed B.named
  have hlocks := B.notSynchronized
  subst hsz
  have hD := hD0.self (sz := s.heap.size)
  generalize hAe : va_A [(q, .inr (7, [.ref mq, .ref zq, .ref sq, .ref bq, .ref cq, .long sm, .ref pq, .int ps, .int th])), (mq, .inl (cZ, 12288, .inl fM)), (zq, .inl (cI, 3, .inl fS)), (sq, .inl (cI, 6156, .inl fP)), (bq, .inl (cI, 3, .inl fB)), (cq, .inl (cJ, 64, .inr (.inl fC))), (pq, .inl (cI, 8, .inl fT))] s.heap.size = A at hD ⊢
  have hA : ∀ q : Nat, s.heap.size ≤ q → A q := fun q h => by rw [← hAe]; exact Or.inr h
  have hS : va_S A s.heap s.heap [] := va_S.rf
  have hP : va_P (dC, dI) vwCl [(q, .inr (7, [.ref mq, .ref zq, .ref sq, .ref bq, .ref cq, .long sm, .ref pq, .int ps, .int th])), (mq, .inl (cZ, 12288, .inl fM)), (zq, .inl (cI, 3, .inl fS)), (sq, .inl (cI, 6156, .inl fP)), (bq, .inl (cI, 3, .inl fB)), (cq, .inl (cJ, 64, .inr (.inl fC))), (pq, .inl (cI, 8, .inl fT))] s.heap := hP
  have hl := lv_entry ([.ref q, .int (nI k), .int (nI a), .int (nI d), .int (nI n)]) (n := 8) (Nat.le_of_ble_eq_true rfl)
  rw [lg_entry_eq]
  generalize (lg_sl ([.ref q, .int (nI k), .int (nI a), .int (nI d), .int (nI n)]) ++ List.replicate (8 - (lg_sl ([.ref q, .int (nI k), .int (nI a), .int (nI d), .int (nI n)])).length) Slot.unset).toArray = ls at hl ⊢
  have hl : lv_has ls 8 [(0, .ref q), (1, .int (nI k)), (2, .int (nI a)), (3, .int (nI d)), (4, .int (nI n))] := hl
  refine lv_iload_n hx hb dX8_insertRange_0 rfl (lv_at hl 2 rfl) ?_
  refine lv_iconst (v := nI 0) hx hb dX8_insertRange_1 (by decide +kernel) ?_
  refine lv_sipush (v := nI 4095) hx hb dX8_insertRange_2 (by decide +kernel) ?_
  have hPc := hP.sub (ws' := []) [] rfl
  have hKc := hK.sub (tys' := []) [] rfl
  refine vp_callSi (W.runS (As := [.int (nI a), .int (nI 0), .int (nI 4095)]) (rest := []) ⟨hx, hb, hml, hown, hts⟩ (c_X8_in l dC dI (nI a) (nI 0) (nI 4095) ) (va_cwS 3 hts gX8_insertRange_X8_in rfl rfl rfl (by decide +kernel) ⟨Nat.le_of_ble_eq_true rfl, Nat.le_of_ble_eq_true rfl⟩) ⟨fun a U g mk q => by obtain ⟨q0, qP, qK⟩ := q; exact ⟨q0, qP, va_K.moved (u := U) (U := U.calling g mk a) (Vm.Alike.refl U.vm) qK⟩, fun U hU hW => ⟨rfl, by rw [hU]; exact hPc, va_K.moved hW.alike hKc⟩⟩ rfl rfl hl.1 rfl (lv_room (Nat.le_of_ble_eq_true rfl)) dX8_insertRange_5 ⟨Nat.le_of_ble_eq_true rfl, Nat.le_of_ble_eq_true rfl⟩) (fun r_2 hw_1 => ?_)
  subst hw_1
  refine lv_cvi (congrArg b2i (inB_t (by omega) (by decide))) ?_
  refine lv_if_eq (tgt := 37) hx hb dX8_insertRange_8 (by decide) (fun qc_3 => ?_) (fun qc_3 => ?_)
  · have c_3 : true = false := b2i_f qc_3
    cases c_3
  · have c_3 : true = true := b2i_t qc_3
    refine lv_iload_n hx hb dX8_insertRange_11 rfl (lv_at hl 3 rfl) ?_
    refine lv_iconst (v := nI 1) hx hb dX8_insertRange_12 (by decide +kernel) ?_
    refine lv_sipush (v := nI 1000) hx hb dX8_insertRange_13 (by decide +kernel) ?_
    have hPc := hP.sub (ws' := []) [] rfl
    have hKc := hK.sub (tys' := []) [] rfl
    refine vp_callSi (W.runS (As := [.int (nI d), .int (nI 1), .int (nI 1000)]) (rest := []) ⟨hx, hb, hml, hown, hts⟩ (c_X8_in l dC dI (nI d) (nI 1) (nI 1000) ) (va_cwS 3 hts gX8_insertRange_X8_in rfl rfl rfl (by decide +kernel) ⟨Nat.le_of_ble_eq_true rfl, Nat.le_of_ble_eq_true rfl⟩) ⟨fun a U g mk q => by obtain ⟨q0, qP, qK⟩ := q; exact ⟨q0, qP, va_K.moved (u := U) (U := U.calling g mk a) (Vm.Alike.refl U.vm) qK⟩, fun U hU hW => ⟨rfl, by rw [hU]; exact hPc, va_K.moved hW.alike hKc⟩⟩ rfl rfl hl.1 rfl (lv_room (Nat.le_of_ble_eq_true rfl)) dX8_insertRange_16 ⟨Nat.le_of_ble_eq_true rfl, Nat.le_of_ble_eq_true rfl⟩) (fun r_5 hw_4 => ?_)
    subst hw_4
    refine lv_cvi (congrArg b2i (inB_t (by omega) (by decide))) ?_
    refine lv_if_eq (tgt := 37) hx hb dX8_insertRange_19 (by decide) (fun qc_6 => ?_) (fun qc_6 => ?_)
    · have c_6 : true = false := b2i_f qc_6
      cases c_6
    · have c_6 : true = true := b2i_t qc_6
      refine lv_iload hx hb dX8_insertRange_22 (lv_at hl 4 rfl) ?_
      refine lv_iconst (v := nI 1) hx hb dX8_insertRange_24 (by decide +kernel) ?_
      refine lv_bipush (v := nI 30) hx hb dX8_insertRange_25 (by decide +kernel) ?_
      have hPc := hP.sub (ws' := []) [] rfl
      have hKc := hK.sub (tys' := []) [] rfl
      refine vp_callSi (W.runS (As := [.int (nI n), .int (nI 1), .int (nI 30)]) (rest := []) ⟨hx, hb, hml, hown, hts⟩ (c_X8_in l dC dI (nI n) (nI 1) (nI 30) ) (va_cwS 3 hts gX8_insertRange_X8_in rfl rfl rfl (by decide +kernel) ⟨Nat.le_of_ble_eq_true rfl, Nat.le_of_ble_eq_true rfl⟩) ⟨fun a U g mk q => by obtain ⟨q0, qP, qK⟩ := q; exact ⟨q0, qP, va_K.moved (u := U) (U := U.calling g mk a) (Vm.Alike.refl U.vm) qK⟩, fun U hU hW => ⟨rfl, by rw [hU]; exact hPc, va_K.moved hW.alike hKc⟩⟩ rfl rfl hl.1 rfl (lv_room (Nat.le_of_ble_eq_true rfl)) dX8_insertRange_27 ⟨Nat.le_of_ble_eq_true rfl, Nat.le_of_ble_eq_true rfl⟩) (fun r_8 hw_7 => ?_)
      subst hw_7
      refine lv_cvi (congrArg b2i (inB_t (by omega) (by decide))) ?_
      refine lv_if_eq (tgt := 37) hx hb dX8_insertRange_30 (by decide) (fun qc_9 => ?_) (fun qc_9 => ?_)
      · have c_9 : true = false := b2i_f qc_9
        cases c_9
      · have c_9 : true = true := b2i_t qc_9
        refine lv_iconst (v := nI 1) hx hb dX8_insertRange_33 (by decide +kernel) ?_
        refine lv_goto (tgt := 38) hx hb dX8_insertRange_34 (by decide) ?_
        refine lv_cvi ((rfl : nI 1 = b2i true)) ?_
        refine lv_istore (lv' := [(5, .int (b2i true)), (0, .ref q), (1, .int (nI k)), (2, .int (nI a)), (3, .int (nI d)), (4, .int (nI n))]) hx hb dX8_insertRange_38 hl (by decide) rfl (fun ls hl => ?_)
        refine lv_aload_n hx hb dX8_insertRange_40 rfl (lv_at hl 1 rfl) ?_
        refine lv_iload_n hx hb dX8_insertRange_41 rfl (lv_at hl 2 rfl) ?_
        have hPc := hP.sub (ws' := []) [] rfl
        have hKc := hK.sub (tys' := []) [] rfl
        refine vp_callSi (W.runS (As := [.int (nI k)]) (rest := [.ref q]) ⟨hx, hb, hml, hown, hts⟩ (c_X8_isSet l dC dI (nI k) ) (va_cwS 1 hts gX8_insertRange_X8_isSet rfl rfl rfl (by decide +kernel) ⟨Nat.le_of_ble_eq_true rfl, Nat.le_of_ble_eq_true rfl⟩) ⟨fun a U g mk q => by obtain ⟨q0, qP, qK⟩ := q; exact ⟨q0, qP, va_K.moved (u := U) (U := U.calling g mk a) (Vm.Alike.refl U.vm) qK⟩, fun U hU hW => ⟨rfl, by rw [hU]; exact hPc, va_K.moved hW.alike hKc⟩⟩ rfl rfl hl.1 rfl (lv_room (Nat.le_of_ble_eq_true rfl)) dX8_insertRange_42 ⟨Nat.le_of_ble_eq_true rfl, Nat.le_of_ble_eq_true rfl⟩) (fun r_11 hw_10 => ?_)
        subst hw_10
        refine lv_cvi (congrArg b2i (isS_t hk)) ?_
        refine lv_iload hx hb dX8_insertRange_45 (lv_at hl 0 rfl) ?_
        refine lv_if_eq (tgt := 68) hx hb dX8_insertRange_47 (by decide) (fun qc_12 => ?_) (fun qc_12 => ?_)
        · have c_12 : true = false := b2i_f qc_12
          cases c_12
        · have c_12 : true = true := b2i_t qc_12
          refine lv_iload_n hx hb dX8_insertRange_50 rfl (lv_at hl 3 rfl) ?_
          refine lv_iload hx hb dX8_insertRange_51 (lv_at hl 5 rfl) ?_
          refine lv_iconst (v := nI 1) hx hb dX8_insertRange_53 (by decide +kernel) ?_
          refine lv_isub hx hb dX8_insertRange_54 ?_
          refine lv_cvi (pk_sub (by omega)) ?_
          refine lv_iload_n hx hb dX8_insertRange_55 rfl (lv_at hl 4 rfl) ?_
          refine lv_imul hx hb dX8_insertRange_56 ?_
          refine lv_cvi (pk_mul _ _) ?_
          refine lv_iadd hx hb dX8_insertRange_57 ?_
          refine lv_cvi (nI_add _ _) ?_
          refine lv_sipush (v := nI 4096) hx hb dX8_insertRange_58 (by decide +kernel) ?_
          refine lv_icmp_ge (tgt := 68) hx hb dX8_insertRange_61 (by decide) (fun qc_13 => ?_) (fun qc_13 => ?_)
          · have c_13 : 4096 ≤ (a + ((n - 1) * d)) := (nI_leI (a := 4096) (b := a + ((n - 1) * d)) (by omega) (by omega)).mp qc_13
            exact absurd hl9 (by omega)
          · have c_13 : ¬ 4096 ≤ (a + ((n - 1) * d)) := fun h9 => qc_13 ((nI_leI (a := 4096) (b := a + ((n - 1) * d)) (by omega) (by omega)).mpr h9)
            refine lv_iconst (v := nI 1) hx hb dX8_insertRange_64 (by decide +kernel) ?_
            refine lv_goto (tgt := 69) hx hb dX8_insertRange_65 (by decide) ?_
            refine lv_cvi ((rfl : nI 1 = b2i true)) ?_
            have hPc := hP.sub (ws' := [(q, .inr (7, [.ref mq, .ref zq, .ref sq, .ref bq, .ref cq, .long sm, .ref pq, .int ps, .int th])), (mq, .inl (cZ, 12288, .inl fM)), (zq, .inl (cI, 3, .inl fS)), (sq, .inl (cI, 6156, .inl fP)), (bq, .inl (cI, 3, .inl fB)), (cq, .inl (cJ, 64, .inr (.inl fC))), (pq, .inl (cI, 8, .inl fT))]) [0, 1, 2, 3, 4, 5, 6] rfl
            have hKc := hK.sub (tys' := [(cZ, .boolean), (cI, .int), (cJ, .long)]) [0, 1, 2] rfl
            have hDc := hD.sub (ws' := [(q, .inr (7, [.ref mq, .ref zq, .ref sq, .ref bq, .ref cq, .long sm, .ref pq, .int ps, .int th])), (mq, .inl (cZ, 12288, .inl fM)), (zq, .inl (cI, 3, .inl fS)), (sq, .inl (cI, 6156, .inl fP)), (bq, .inl (cI, 3, .inl fB)), (cq, .inl (cJ, 64, .inr (.inl fC))), (pq, .inl (cI, 8, .inl fT))]) [0, 1, 2, 3, 4, 5, 6] (by decide) rfl
            have hFc := va_free (wc := [(q, .inr (7, [.ref mq, .ref zq, .ref sq, .ref bq, .ref cq, .long sm, .ref pq, .int ps, .int th])), (mq, .inl (cZ, 12288, .inl fM)), (zq, .inl (cI, 3, .inl fS)), (sq, .inl (cI, 6156, .inl fP)), (bq, .inl (cI, 3, .inl fB)), (cq, .inl (cJ, 64, .inr (.inl fC))), (pq, .inl (cI, 8, .inl fT))]) hD hS hA [0, 1, 2, 3, 4, 5, 6] rfl
            refine va_calli (va_runV (As := [.int (b2i true), .int (b2i true)]) (rest := []) ⟨hx, hb, hml, hown, hts⟩ (c_X8_asked_ l dC dI q mq zq sq bq cq pq cZ cI cJ fM fS fP fB fC sm fT ps th true true s.heap.size ) (cwV 2 hts gX8_insertRange_X8_asked_ rfl rfl rfl (by decide +kernel) ⟨Nat.le_of_ble_eq_true rfl, Nat.le_of_ble_eq_true rfl⟩) ⟨fun a U g mk q => by obtain ⟨q0, q1, qP, qK, qD⟩ := q; exact ⟨q0, q1, qP, va_K.moved (u := U) (U := U.calling g mk a) (Vm.Alike.refl U.vm) qK, qD⟩, va_recv hKc hPc (ci := 7) (q0 := 0) rfl rfl, fun U hU hW => ⟨rfl, by rw [hU], by rw [hU]; exact hPc, va_K.moved hW.alike hKc, hDc.weaken (fun _ _ _ _ => trivial)⟩⟩ rfl rfl hl.1 rfl (lv_room (Nat.le_of_ble_eq_true rfl)) dX8_insertRange_69 ⟨Nat.le_of_ble_eq_true rfl, Nat.le_of_ble_eq_true rfl⟩) hS (fun q _ h => hFc q h) hFc (fun r_16 u_15 t9 H1 locs ht hvm hw_14 hB hz1 hk1 hS => ?_)
            obtain ⟨th'_17, rfl⟩ : ∃ z, z = u_15 := ⟨_, rfl⟩
            obtain ⟨hP1, hK1, hD1⟩ := hB
            rw [ht] at hP1
            have hK1 := va_K.moved hvm.symm hK1
            try dsimp only at hw_14 hP1 hK1 hD1
            obtain ⟨hP, hD⟩ := va_join (wr := []) (w1 := [(q, .inr (7, [.ref mq, .ref zq, .ref sq, .ref bq, .ref cq, .long sm, .ref pq, .int ps, .int th'_17])), (mq, .inl (cZ, 12288, .inl fM)), (zq, .inl (cI, 3, .inl fS)), (sq, .inl (cI, 6156, .inl fP)), (bq, .inl (cI, 3, .inl fB)), (cq, .inl (cJ, 64, .inr (.inl fC))), (pq, .inl (cI, 8, .inl fT))]) hP hD [0, 1, 2, 3, 4, 5, 6] [] rfl rfl (by decide) (by decide) hk1 hFc hP1 hD1
            generalize H1 = H at hP hS ⊢
            have hP : va_P (dC, dI) vwCl [(q, .inr (7, [.ref mq, .ref zq, .ref sq, .ref bq, .ref cq, .long sm, .ref pq, .int ps, .int th'_17])), (mq, .inl (cZ, 12288, .inl fM)), (zq, .inl (cI, 3, .inl fS)), (sq, .inl (cI, 6156, .inl fP)), (bq, .inl (cI, 3, .inl fB)), (cq, .inl (cJ, 64, .inr (.inl fC))), (pq, .inl (cI, 8, .inl fT))] H := hP
            have hD : va_D A [(q, .inr (7, [.ref mq, .ref zq, .ref sq, .ref bq, .ref cq, .long sm, .ref pq, .int ps, .int th'_17])), (mq, .inl (cZ, 12288, .inl fM)), (zq, .inl (cI, 3, .inl fS)), (sq, .inl (cI, 6156, .inl fP)), (bq, .inl (cI, 3, .inl fB)), (cq, .inl (cJ, 64, .inr (.inl fC))), (pq, .inl (cI, 8, .inl fT))] := hD
            obtain ⟨he, hw_14⟩ := hw_14
            subst he
            have hth := hw_14
            refine lv_cvi (rfl) ?_
            refine lv_if_ne (tgt := 77) hx hb dX8_insertRange_72 (by decide) (fun qc_18 => ?_) (fun qc_18 => ?_)
            · have c_18 : true = true := b2i_t qc_18
              refine lv_iconst (v := nI 0) hx hb dX8_insertRange_77 (by decide +kernel) ?_
              refine lv_istore (lv' := [(6, .int (nI 0)), (5, .int (b2i true)), (0, .ref q), (1, .int (nI k)), (2, .int (nI a)), (3, .int (nI d)), (4, .int (nI n))]) hx hb dX8_insertRange_78 hl (by decide) rfl (fun ls hl => ?_)
              refine lv_iconst (v := nI 0) hx hb dX8_insertRange_80 (by decide +kernel) ?_
              refine lv_istore (lv' := [(7, .int (nI 0)), (6, .int (nI 0)), (5, .int (b2i true)), (0, .ref q), (1, .int (nI k)), (2, .int (nI a)), (3, .int (nI d)), (4, .int (nI n))]) hx hb dX8_insertRange_81 hl (by decide) rfl (fun ls hl => ?_)
              have key_83_19 : ∀ (fu : Nat) (j : Nat) (t : Nat) (gM : Nat → Int32) (gS : Nat → Int32) (gP : Nat → Int32) (gB : Nat → Int32) (hj : j ≤ n) (hq : PR M P k (fun j => a + j * d) j t gM gS gP gB) (hfu : n - j < fu) (H : Heap) (locs : List Loc) (hP : va_P (dC, dI) vwCl [(q, .inr (7, [.ref mq, .ref zq, .ref sq, .ref bq, .ref cq, .long sm, .ref pq, .int ps, .int th'_17])), (mq, .inl (cZ, 12288, .inl gM)), (zq, .inl (cI, 3, .inl gS)), (sq, .inl (cI, 6156, .inl gP)), (bq, .inl (cI, 3, .inl gB)), (cq, .inl (cJ, 64, .inr (.inl fC))), (pq, .inl (cI, 8, .inl fT))] H) (hD : va_D A [(q, .inr (7, [.ref mq, .ref zq, .ref sq, .ref bq, .ref cq, .long sm, .ref pq, .int ps, .int th'_17])), (mq, .inl (cZ, 12288, .inl gM)), (zq, .inl (cI, 3, .inl gS)), (sq, .inl (cI, 6156, .inl gP)), (bq, .inl (cI, 3, .inl gB)), (cq, .inl (cJ, 64, .inr (.inl fC))), (pq, .inl (cI, 8, .inl fT))]) (hS : va_S A s.heap H locs) (ls : Array Slot) (hl : lv_has ls 8 [(7, .int (nI j)), (6, .int (nI t)), (5, .int (b2i true)), (0, .ref q), (1, .int (nI k)), (2, .int (nI a)), (3, .int (nI d)), (4, .int (nI n))]), W p l e (headSpec wsX8_insertRange ({ frames := 4, cells := 0, slots := 0, locals := 94 })).room s m ([.ref q, .int (nI k), .int (nI a), .int (nI d), .int (nI n)] : List Value).toArray below meth c H locs 0 0 (MQ below (va_Qi (fun (r : Int32) (u : (Nat → Int32) × (Nat → Int32) × (Nat → Int32) × (Nat → Int32) × Int32) => r = nI (putsC (M k) (fun j => a + j * d) n) ∧ MM u.1 (upF M k (putsM (M k) (fun j => a + j * d) n)) ∧ MZ u.2.1 (upF M k (putsM (M k) (fun j => a + j * d) n)) ∧ MX u.2.2.1 u.2.2.2.1 (upF P k (putsP (M k) (P k) (fun j => a + j * d) n)) ∧ u.2.2.2.2 = nI 0) (fun (u : (Nat → Int32) × (Nat → Int32) × (Nat → Int32) × (Nat → Int32) × Int32) (t : State) => va_P (dC, dI) vwCl [(q, .inr (7, [.ref mq, .ref zq, .ref sq, .ref bq, .ref cq, .long sm, .ref pq, .int ps, .int u.2.2.2.2])), (mq, .inl (cZ, 12288, .inl u.1)), (zq, .inl (cI, 3, .inl u.2.1)), (sq, .inl (cI, 6156, .inl u.2.2.1)), (bq, .inl (cI, 3, .inl u.2.2.2.1)), (cq, .inl (cJ, 64, .inr (.inl fC))), (pq, .inl (cI, 8, .inl fT))] t.heap ∧ va_K (dC, dI) vwCl [(cZ, .boolean), (cI, .int), (cJ, .long)] t ∧ va_D A [(q, .inr (7, [.ref mq, .ref zq, .ref sq, .ref bq, .ref cq, .long sm, .ref pq, .int ps, .int u.2.2.2.2])), (mq, .inl (cZ, 12288, .inl u.1)), (zq, .inl (cI, 3, .inl u.2.1)), (sq, .inl (cI, 6156, .inl u.2.2.1)), (bq, .inl (cI, 3, .inl u.2.2.2.1)), (cq, .inl (cJ, 64, .inr (.inl fC))), (pq, .inl (cI, 8, .inl fT))]) A) ([.ref q, .int (nI k), .int (nI a), .int (nI d), .int (nI n)] : List Value).toArray s 0 0 A) (F0 m 83 ls []) := by
                intro fu
                induction fu with
                | zero =>
                  intro j t gM gS gP gB hj hq hfu H locs hP hD hS ls hl
                  exact absurd hfu (Nat.not_lt_zero _)
                | succ fu ih_83 =>
                  intro j t gM gS gP gB hj hq hfu H locs hP hD hS ls hl
                  refine lv_iload hx hb dX8_insertRange_83 (lv_at hl 0 rfl) ?_
                  refine lv_iload hx hb dX8_insertRange_85 (lv_at hl 7 rfl) ?_
                  refine lv_icmp_ge (tgt := 120) hx hb dX8_insertRange_87 (by decide) (fun qc_20 => ?_) (fun qc_20 => ?_)
                  · have c_20 : n ≤ j := (nI_leI (a := n) (b := j) (by omega) (by omega)).mp qc_20
                    refine lv_iload hx hb dX8_insertRange_120 (lv_at hl 1 rfl) ?_
                    have hP9 := hP.sub (ws' := [(q, .inr (7, [.ref mq, .ref zq, .ref sq, .ref bq, .ref cq, .long sm, .ref pq, .int ps, .int th'_17])), (mq, .inl (cZ, 12288, .inl gM)), (zq, .inl (cI, 3, .inl gS)), (sq, .inl (cI, 6156, .inl gP)), (bq, .inl (cI, 3, .inl gB)), (cq, .inl (cJ, 64, .inr (.inl fC))), (pq, .inl (cI, 8, .inl fT))]) [0, 1, 2, 3, 4, 5, 6] rfl
                    have hD9 := hD.sub (ws' := [(q, .inr (7, [.ref mq, .ref zq, .ref sq, .ref bq, .ref cq, .long sm, .ref pq, .int ps, .int th'_17])), (mq, .inl (cZ, 12288, .inl gM)), (zq, .inl (cI, 3, .inl gS)), (sq, .inl (cI, 6156, .inl gP)), (bq, .inl (cI, 3, .inl gB)), (cq, .inl (cJ, 64, .inr (.inl fC))), (pq, .inl (cI, 8, .inl fT))]) [0, 1, 2, 3, 4, 5, 6] (by decide) rfl
                    have hK9 := hK.sub (tys' := [(cZ, .boolean), (cI, .int), (cJ, .long)]) [0, 1, 2] rfl
                    exact W.iret (v := nI t) hx hb hr (fun t9 ht hW => ⟨⟨nI t, ⟨gM, gS, gP, gB, th'_17⟩, rfl, (show (nI t) = nI (putsC (M k) (fun j => a + j * d) n) ∧ MM gM (upF M k (putsM (M k) (fun j => a + j * d) n)) ∧ MZ gS (upF M k (putsM (M k) (fun j => a + j * d) n)) ∧ MX gP gB (upF P k (putsP (M k) (P k) (fun j => a + j * d) n)) ∧ th'_17 = nI 0 from (by
                      have e9 : n = j := by omega
                      subst e9
                      exact ⟨congrArg nI hq.2.2.2.2, hq.1, hq.2.1, hq.2.2.1, hth⟩)), by rw [ht]; exact hP9, va_K.moved hW.alike hK9, hD9⟩, hS.F ht⟩) hS.2.2 dX8_insertRange_122
                  · have c_20 : ¬ n ≤ j := fun h9 => qc_20 ((nI_leI (a := n) (b := j) (by omega) (by omega)).mpr h9)
                    refine lv_iload hx hb dX8_insertRange_90 (lv_at hl 1 rfl) ?_
                    have hgj : a + j * d < 4096 := by
                      have h9 := Nat.mul_le_mul_right d (show j ≤ n - 1 by omega)
                      omega
                    refine lv_aload_n hx hb dX8_insertRange_92 rfl (lv_at hl 3 rfl) ?_
                    refine lv_iload_n hx hb dX8_insertRange_93 rfl (lv_at hl 4 rfl) ?_
                    refine lv_iload_n hx hb dX8_insertRange_94 rfl (lv_at hl 5 rfl) ?_
                    refine lv_iload hx hb dX8_insertRange_95 (lv_at hl 0 rfl) ?_
                    refine lv_iload_n hx hb dX8_insertRange_97 rfl (lv_at hl 6 rfl) ?_
                    refine lv_imul hx hb dX8_insertRange_98 ?_
                    refine lv_cvi (pk_mul _ _) ?_
                    refine lv_iadd hx hb dX8_insertRange_99 ?_
                    refine lv_cvi (nI_add _ _) ?_
                    have hPc := hP.sub (ws' := [(q, .inr (7, [.ref mq, .ref zq, .ref sq, .ref bq, .ref cq, .long sm, .ref pq, .int ps, .int th'_17])), (mq, .inl (cZ, 12288, .inl gM)), (zq, .inl (cI, 3, .inl gS)), (sq, .inl (cI, 6156, .inl gP)), (bq, .inl (cI, 3, .inl gB)), (cq, .inl (cJ, 64, .inr (.inl fC))), (pq, .inl (cI, 8, .inl fT))]) [0, 1, 2, 3, 4, 5, 6] rfl
                    have hKc := hK.sub (tys' := [(cZ, .boolean), (cI, .int), (cJ, .long)]) [0, 1, 2] rfl
                    have hDc := hD.sub (ws' := [(q, .inr (7, [.ref mq, .ref zq, .ref sq, .ref bq, .ref cq, .long sm, .ref pq, .int ps, .int th'_17])), (mq, .inl (cZ, 12288, .inl gM)), (zq, .inl (cI, 3, .inl gS)), (sq, .inl (cI, 6156, .inl gP)), (bq, .inl (cI, 3, .inl gB)), (cq, .inl (cJ, 64, .inr (.inl fC))), (pq, .inl (cI, 8, .inl fT))]) [0, 1, 2, 3, 4, 5, 6] (by decide) rfl
                    have hFc := va_free (wc := [(q, .inr (7, [.ref mq, .ref zq, .ref sq, .ref bq, .ref cq, .long sm, .ref pq, .int ps, .int th'_17])), (mq, .inl (cZ, 12288, .inl gM)), (zq, .inl (cI, 3, .inl gS)), (sq, .inl (cI, 6156, .inl gP)), (bq, .inl (cI, 3, .inl gB)), (cq, .inl (cJ, 64, .inr (.inl fC))), (pq, .inl (cI, 8, .inl fT))]) hD hS hA [0, 1, 2, 3, 4, 5, 6] rfl
                    refine va_calli (va_runV (As := [.int (nI k), .int (nI (a + (j * d)))]) (rest := [.int (nI t)]) ⟨hx, hb, hml, hown, hts⟩ (c_X8_puts l dC dI q mq zq sq bq cq pq cZ cI cJ gM gS gP gB fC sm fT ps th'_17 (upF M k (putsM (M k) (fun j => a + j * d) j)) (upF P k (putsP (M k) (P k) (fun j => a + j * d) j)) k (a + (j * d)) H.size hq.1 hq.2.1 hq.2.2.1 (by first | assumption | omega) (by first | assumption | omega) (by rw [upF_s]; exact bi_cnt hq.2.2.2.1)) (cwV 2 hts gX8_insertRange_X8_puts rfl rfl rfl (by decide +kernel) ⟨Nat.le_of_ble_eq_true rfl, Nat.le_of_ble_eq_true rfl⟩) ⟨fun a U g mk q => by obtain ⟨q0, q1, qP, qK, qD⟩ := q; exact ⟨q0, q1, qP, va_K.moved (u := U) (U := U.calling g mk a) (Vm.Alike.refl U.vm) qK, qD⟩, va_recv hKc hPc (ci := 7) (q0 := 0) rfl rfl, fun U hU hW => ⟨rfl, by rw [hU], by rw [hU]; exact hPc, va_K.moved hW.alike hKc, hDc.weaken (fun _ _ _ _ => trivial)⟩⟩ rfl rfl hl.1 rfl (lv_room (Nat.le_of_ble_eq_true rfl)) dX8_insertRange_100 ⟨Nat.le_of_ble_eq_true rfl, Nat.le_of_ble_eq_true rfl⟩) hS (fun q _ h => hFc q h) hFc (fun r_23 u_22 t9 H1 locs ht hvm hw_21 hB hz1 hk1 hS => ?_)
                    obtain ⟨fM'_24, fS'_25, fP'_26, fB'_27⟩ := u_22
                    obtain ⟨hP1, hK1, hD1⟩ := hB
                    rw [ht] at hP1
                    have hK1 := va_K.moved hvm.symm hK1
                    try dsimp only at hw_21 hP1 hK1 hD1
                    obtain ⟨hP, hD⟩ := va_join (wr := []) (w1 := [(q, .inr (7, [.ref mq, .ref zq, .ref sq, .ref bq, .ref cq, .long sm, .ref pq, .int ps, .int th'_17])), (mq, .inl (cZ, 12288, .inl fM'_24)), (zq, .inl (cI, 3, .inl fS'_25)), (sq, .inl (cI, 6156, .inl fP'_26)), (bq, .inl (cI, 3, .inl fB'_27)), (cq, .inl (cJ, 64, .inr (.inl fC))), (pq, .inl (cI, 8, .inl fT))]) hP hD [0, 1, 2, 3, 4, 5, 6] [] rfl rfl (by decide) (by decide) hk1 hFc hP1 hD1
                    generalize H1 = H at hP hS ⊢
                    have hP : va_P (dC, dI) vwCl [(q, .inr (7, [.ref mq, .ref zq, .ref sq, .ref bq, .ref cq, .long sm, .ref pq, .int ps, .int th'_17])), (mq, .inl (cZ, 12288, .inl fM'_24)), (zq, .inl (cI, 3, .inl fS'_25)), (sq, .inl (cI, 6156, .inl fP'_26)), (bq, .inl (cI, 3, .inl fB'_27)), (cq, .inl (cJ, 64, .inr (.inl fC))), (pq, .inl (cI, 8, .inl fT))] H := hP
                    have hD : va_D A [(q, .inr (7, [.ref mq, .ref zq, .ref sq, .ref bq, .ref cq, .long sm, .ref pq, .int ps, .int th'_17])), (mq, .inl (cZ, 12288, .inl fM'_24)), (zq, .inl (cI, 3, .inl fS'_25)), (sq, .inl (cI, 6156, .inl fP'_26)), (bq, .inl (cI, 3, .inl fB'_27)), (cq, .inl (cJ, 64, .inr (.inl fC))), (pq, .inl (cI, 8, .inl fT))] := hD
                    obtain ⟨he, hw_21⟩ := hw_21
                    subst he
                    refine lv_if_eq (tgt := 110) hx hb dX8_insertRange_103 (by decide) (fun qc_28 => ?_) (fun qc_28 => ?_)
                    · have c_28 : (!(upF M k (putsM (M k) (fun j => a + j * d) j)) k (a + (j * d))) = false := b2i_f qc_28
                      refine lv_iconst (v := nI 0) hx hb dX8_insertRange_110 (by decide +kernel) ?_
                      refine lv_iadd hx hb dX8_insertRange_111 ?_
                      refine lv_cvi (nI_add _ _) ?_
                      refine lv_istore (lv' := [(6, .int (nI (t + 0))), (7, .int (nI j)), (5, .int (b2i true)), (0, .ref q), (1, .int (nI k)), (2, .int (nI a)), (3, .int (nI d)), (4, .int (nI n))]) hx hb dX8_insertRange_112 hl (by decide) rfl (fun ls hl => ?_)
                      refine lv_iinc (v := nI (j + 1)) (lv' := [(7, .int (nI (j + 1))), (6, .int (nI (t + 0))), (5, .int (b2i true)), (0, .ref q), (1, .int (nI k)), (2, .int (nI a)), (3, .int (nI d)), (4, .int (nI n))]) hx hb dX8_insertRange_114 hl (k := 1) rfl (nI_1 _) (by decide) rfl (fun ls hl => ?_)
                      refine lv_goto (tgt := 83) hx hb dX8_insertRange_117 (by decide) ?_
                      exact ih_83 (j + 1) (t + 0) fM'_24 fS'_25 fP'_26 fB'_27 (by omega) (rr_sy (g := (fun j => a + j * d)) rfl hk hgj hq hw_21 (rt_0 c_28)) (by omega) _ _ hP hD hS ls (lv_sub hl [0, 1, 2, 3, 4, 5, 6, 7] rfl)
                    · have c_28 : (!(upF M k (putsM (M k) (fun j => a + j * d) j)) k (a + (j * d))) = true := b2i_t qc_28
                      refine lv_iconst (v := nI 1) hx hb dX8_insertRange_106 (by decide +kernel) ?_
                      refine lv_goto (tgt := 111) hx hb dX8_insertRange_107 (by decide) ?_
                      refine lv_iadd hx hb dX8_insertRange_111 ?_
                      refine lv_cvi (nI_add _ _) ?_
                      refine lv_istore (lv' := [(6, .int (nI (t + 1))), (7, .int (nI j)), (5, .int (b2i true)), (0, .ref q), (1, .int (nI k)), (2, .int (nI a)), (3, .int (nI d)), (4, .int (nI n))]) hx hb dX8_insertRange_112 hl (by decide) rfl (fun ls hl => ?_)
                      refine lv_iinc (v := nI (j + 1)) (lv' := [(7, .int (nI (j + 1))), (6, .int (nI (t + 1))), (5, .int (b2i true)), (0, .ref q), (1, .int (nI k)), (2, .int (nI a)), (3, .int (nI d)), (4, .int (nI n))]) hx hb dX8_insertRange_114 hl (k := 1) rfl (nI_1 _) (by decide) rfl (fun ls hl => ?_)
                      refine lv_goto (tgt := 83) hx hb dX8_insertRange_117 (by decide) ?_
                      exact ih_83 (j + 1) (t + 1) fM'_24 fS'_25 fP'_26 fB'_27 (by omega) (rr_sy (g := (fun j => a + j * d)) rfl hk hgj hq hw_21 (rt_1 c_28)) (by omega) _ _ hP hD hS ls (lv_sub hl [0, 1, 2, 3, 4, 5, 6, 7] rfl)
              exact key_83_19 _ 0 0 fM fS fP fB (Nat.zero_le _) (rr_0 hM hZ hX hB) (Nat.lt_succ_self _) _ _ hP hD hS ls (lv_sub hl [0, 1, 2, 3, 4, 5, 6, 7] rfl)
            · have c_18 : true = false := b2i_f qc_18
              cases c_18
set_option maxHeartbeats 4000000 in
set_option maxRecDepth 100000 in
/-- reference: c_X8_insertRange_s -/
theorem c_X8_insertRange_s (l : Launch) (dC : Nat → ClassId) (dI : Nat → Nat → Nat) (q : Nat) (mq : Nat) (zq : Nat) (sq : Nat) (bq : Nat) (cq : Nat) (pq : Nat) (cZ : ClassId) (cI : ClassId) (cJ : ClassId) (fM : Nat → Int32) (fS : Nat → Int32) (fP : Nat → Int32) (fB : Nat → Int32) (fC : Nat → Int64) (sm : Int64) (fT : Nat → Int32) (ps : Int32) (th : Int32) (v : Int32) (f : Int32) (d : Int32) (n : Int32) (sz : Nat) (hSf : isS v = false) : Met l yX8_insertRange wsX8_insertRange ({ frames := 2, cells := 0, slots := 0, locals := 42 }) (va_Pc [.ref q, .int v, .int f, .int d, .int n] (fun U => U.heap.size = sz ∧ va_P (dC, dI) vwCl [(q, .inr (7, [.ref mq, .ref zq, .ref sq, .ref bq, .ref cq, .long sm, .ref pq, .int ps, .int th])), (mq, .inl (cZ, 12288, .inl fM)), (zq, .inl (cI, 3, .inl fS)), (sq, .inl (cI, 6156, .inl fP)), (bq, .inl (cI, 3, .inl fB)), (cq, .inl (cJ, 64, .inr (.inl fC))), (pq, .inl (cI, 8, .inl fT))] U.heap ∧ va_K (dC, dI) vwCl [(cZ, .boolean), (cI, .int), (cJ, .long)] U ∧ va_D (fun _ => True) [(q, .inr (7, [.ref mq, .ref zq, .ref sq, .ref bq, .ref cq, .long sm, .ref pq, .int ps, .int th])), (mq, .inl (cZ, 12288, .inl fM)), (zq, .inl (cI, 3, .inl fS)), (sq, .inl (cI, 6156, .inl fP)), (bq, .inl (cI, 3, .inl fB)), (cq, .inl (cJ, 64, .inr (.inl fC))), (pq, .inl (cI, 8, .inl fT))])) (va_Qi (fun (r : Int32) (u : Int32) => u = nI 1) (fun (u : Int32) (t : State) => va_P (dC, dI) vwCl [(q, .inr (7, [.ref mq, .ref zq, .ref sq, .ref bq, .ref cq, .long sm, .ref pq, .int ps, .int u])), (mq, .inl (cZ, 12288, .inl fM)), (zq, .inl (cI, 3, .inl fS)), (sq, .inl (cI, 6156, .inl fP)), (bq, .inl (cI, 3, .inl fB)), (cq, .inl (cJ, 64, .inr (.inl fC))), (pq, .inl (cI, 8, .inl fT))] t.heap ∧ va_K (dC, dI) vwCl [(cZ, .boolean), (cI, .int), (cJ, .long)] t ∧ va_D (va_A [(q, .inr (7, [.ref mq, .ref zq, .ref sq, .ref bq, .ref cq, .long sm, .ref pq, .int ps, .int th])), (mq, .inl (cZ, 12288, .inl fM)), (zq, .inl (cI, 3, .inl fS)), (sq, .inl (cI, 6156, .inl fP)), (bq, .inl (cI, 3, .inl fB)), (cq, .inl (cJ, 64, .inr (.inl fC))), (pq, .inl (cI, 8, .inl fT))] sz) [(q, .inr (7, [.ref mq, .ref zq, .ref sq, .ref bq, .ref cq, .long sm, .ref pq, .int ps, .int u])), (mq, .inl (cZ, 12288, .inl fM)), (zq, .inl (cI, 3, .inl fS)), (sq, .inl (cI, 6156, .inl fP)), (bq, .inl (cI, 3, .inl fB)), (cq, .inl (cJ, 64, .inr (.inl fC))), (pq, .inl (cI, 8, .inl fT))]) (va_A [(q, .inr (7, [.ref mq, .ref zq, .ref sq, .ref bq, .ref cq, .long sm, .ref pq, .int ps, .int th])), (mq, .inl (cZ, 12288, .inl fM)), (zq, .inl (cI, 3, .inl fS)), (sq, .inl (cI, 6156, .inl fP)), (bq, .inl (cI, 3, .inl fB)), (cq, .inl (cJ, 64, .inr (.inl fC))), (pq, .inl (cI, 8, .inl fT))] sz)) 0 0 (va_A [(q, .inr (7, [.ref mq, .ref zq, .ref sq, .ref bq, .ref cq, .long sm, .ref pq, .int ps, .int th])), (mq, .inl (cZ, 12288, .inl fM)), (zq, .inl (cI, 3, .inl fS)), (sq, .inl (cI, 6156, .inl fP)), (bq, .inl (cI, 3, .inl fB)), (cq, .inl (cJ, 64, .inr (.inl fC))), (pq, .inl (cI, 8, .inl fT))] sz) := by
  refine Met.ofW (cc := cX8_insertRange) (maxL := 8) (ret := (some .int)) (by decide) rfl ?_
  intro p e s m args below meth c s₁ B hml hv
  obtain ⟨rfl, hsz, hP, hK, hD0⟩ := hv
  have hx := B.exec
  have hb := B.bytes
  have hr := B.returns
  have hts := atoms_spec (ws := wsX8_insertRange) B.pre
  have hown : s.vm.findClass RX8 = some m.cls := findClass_of_methodNamed B.named
  have hlocks := B.notSynchronized
  subst hsz
  have hD := hD0.self (sz := s.heap.size)
  generalize hAe : va_A [(q, .inr (7, [.ref mq, .ref zq, .ref sq, .ref bq, .ref cq, .long sm, .ref pq, .int ps, .int th])), (mq, .inl (cZ, 12288, .inl fM)), (zq, .inl (cI, 3, .inl fS)), (sq, .inl (cI, 6156, .inl fP)), (bq, .inl (cI, 3, .inl fB)), (cq, .inl (cJ, 64, .inr (.inl fC))), (pq, .inl (cI, 8, .inl fT))] s.heap.size = A at hD ⊢
  have hA : ∀ q : Nat, s.heap.size ≤ q → A q := fun q h => by rw [← hAe]; exact Or.inr h
  have hS : va_S A s.heap s.heap [] := va_S.rf
  have hP : va_P (dC, dI) vwCl [(q, .inr (7, [.ref mq, .ref zq, .ref sq, .ref bq, .ref cq, .long sm, .ref pq, .int ps, .int th])), (mq, .inl (cZ, 12288, .inl fM)), (zq, .inl (cI, 3, .inl fS)), (sq, .inl (cI, 6156, .inl fP)), (bq, .inl (cI, 3, .inl fB)), (cq, .inl (cJ, 64, .inr (.inl fC))), (pq, .inl (cI, 8, .inl fT))] s.heap := hP
  have hl := lv_entry ([.ref q, .int v, .int f, .int d, .int n]) (n := 8) (Nat.le_of_ble_eq_true rfl)
  rw [lg_entry_eq]
  generalize (lg_sl ([.ref q, .int v, .int f, .int d, .int n]) ++ List.replicate (8 - (lg_sl ([.ref q, .int v, .int f, .int d, .int n])).length) Slot.unset).toArray = ls at hl ⊢
  have hl : lv_has ls 8 [(0, .ref q), (1, .int v), (2, .int f), (3, .int d), (4, .int n)] := hl
  refine lv_iload_n hx hb dX8_insertRange_0 rfl (lv_at hl 2 rfl) ?_
  refine lv_iconst (v := nI 0) hx hb dX8_insertRange_1 (by decide +kernel) ?_
  refine lv_sipush (v := nI 4095) hx hb dX8_insertRange_2 (by decide +kernel) ?_
  have hPc := hP.sub (ws' := []) [] rfl
  have hKc := hK.sub (tys' := []) [] rfl
  refine vp_callSi (W.runS (As := [.int f, .int (nI 0), .int (nI 4095)]) (rest := []) ⟨hx, hb, hml, hown, hts⟩ (c_X8_in l dC dI f (nI 0) (nI 4095) ) (va_cwS 3 hts gX8_insertRange_X8_in rfl rfl rfl (by decide +kernel) ⟨Nat.le_of_ble_eq_true rfl, Nat.le_of_ble_eq_true rfl⟩) ⟨fun a U g mk q => by obtain ⟨q0, qP, qK⟩ := q; exact ⟨q0, qP, va_K.moved (u := U) (U := U.calling g mk a) (Vm.Alike.refl U.vm) qK⟩, fun U hU hW => ⟨rfl, by rw [hU]; exact hPc, va_K.moved hW.alike hKc⟩⟩ rfl rfl hl.1 rfl (lv_room (Nat.le_of_ble_eq_true rfl)) dX8_insertRange_5 ⟨Nat.le_of_ble_eq_true rfl, Nat.le_of_ble_eq_true rfl⟩) (fun r_2 hw_1 => ?_)
  subst hw_1
  refine lv_if_eq (tgt := 37) hx hb dX8_insertRange_8 (by decide) (fun qc_3 => ?_) (fun qc_3 => ?_)
  · have c_3 : (decide ((nI 0) ≤ f ∧ f ≤ (nI 4095))) = false := b2i_f qc_3
    refine lv_iconst (v := nI 0) hx hb dX8_insertRange_37 (by decide +kernel) ?_
    refine lv_cvi ((rfl : nI 0 = b2i false)) ?_
    refine lv_istore (lv' := [(5, .int (b2i false)), (0, .ref q), (1, .int v), (2, .int f), (3, .int d), (4, .int n)]) hx hb dX8_insertRange_38 hl (by decide) rfl (fun ls hl => ?_)
    refine lv_aload_n hx hb dX8_insertRange_40 rfl (lv_at hl 1 rfl) ?_
    refine lv_iload_n hx hb dX8_insertRange_41 rfl (lv_at hl 2 rfl) ?_
    have hPc := hP.sub (ws' := []) [] rfl
    have hKc := hK.sub (tys' := []) [] rfl
    refine vp_callSi (W.runS (As := [.int v]) (rest := [.ref q]) ⟨hx, hb, hml, hown, hts⟩ (c_X8_isSet l dC dI v ) (va_cwS 1 hts gX8_insertRange_X8_isSet rfl rfl rfl (by decide +kernel) ⟨Nat.le_of_ble_eq_true rfl, Nat.le_of_ble_eq_true rfl⟩) ⟨fun a U g mk q => by obtain ⟨q0, qP, qK⟩ := q; exact ⟨q0, qP, va_K.moved (u := U) (U := U.calling g mk a) (Vm.Alike.refl U.vm) qK⟩, fun U hU hW => ⟨rfl, by rw [hU]; exact hPc, va_K.moved hW.alike hKc⟩⟩ rfl rfl hl.1 rfl (lv_room (Nat.le_of_ble_eq_true rfl)) dX8_insertRange_42 ⟨Nat.le_of_ble_eq_true rfl, Nat.le_of_ble_eq_true rfl⟩) (fun r_5 hw_4 => ?_)
    subst hw_4
    refine lv_cvi (congrArg b2i (hSf)) ?_
    refine lv_iload hx hb dX8_insertRange_45 (lv_at hl 0 rfl) ?_
    refine lv_if_eq (tgt := 68) hx hb dX8_insertRange_47 (by decide) (fun qc_6 => ?_) (fun qc_6 => ?_)
    · have c_6 : false = false := b2i_f qc_6
      refine lv_iconst (v := nI 0) hx hb dX8_insertRange_68 (by decide +kernel) ?_
      refine lv_cvi ((rfl : nI 0 = b2i false)) ?_
      have hPc := hP.sub (ws' := [(q, .inr (7, [.ref mq, .ref zq, .ref sq, .ref bq, .ref cq, .long sm, .ref pq, .int ps, .int th])), (mq, .inl (cZ, 12288, .inl fM)), (zq, .inl (cI, 3, .inl fS)), (sq, .inl (cI, 6156, .inl fP)), (bq, .inl (cI, 3, .inl fB)), (cq, .inl (cJ, 64, .inr (.inl fC))), (pq, .inl (cI, 8, .inl fT))]) [0, 1, 2, 3, 4, 5, 6] rfl
      have hKc := hK.sub (tys' := [(cZ, .boolean), (cI, .int), (cJ, .long)]) [0, 1, 2] rfl
      have hDc := hD.sub (ws' := [(q, .inr (7, [.ref mq, .ref zq, .ref sq, .ref bq, .ref cq, .long sm, .ref pq, .int ps, .int th])), (mq, .inl (cZ, 12288, .inl fM)), (zq, .inl (cI, 3, .inl fS)), (sq, .inl (cI, 6156, .inl fP)), (bq, .inl (cI, 3, .inl fB)), (cq, .inl (cJ, 64, .inr (.inl fC))), (pq, .inl (cI, 8, .inl fT))]) [0, 1, 2, 3, 4, 5, 6] (by decide) rfl
      have hFc := va_free (wc := [(q, .inr (7, [.ref mq, .ref zq, .ref sq, .ref bq, .ref cq, .long sm, .ref pq, .int ps, .int th])), (mq, .inl (cZ, 12288, .inl fM)), (zq, .inl (cI, 3, .inl fS)), (sq, .inl (cI, 6156, .inl fP)), (bq, .inl (cI, 3, .inl fB)), (cq, .inl (cJ, 64, .inr (.inl fC))), (pq, .inl (cI, 8, .inl fT))]) hD hS hA [0, 1, 2, 3, 4, 5, 6] rfl
      refine va_calli (va_runV (As := [.int (b2i false), .int (b2i false)]) (rest := []) ⟨hx, hb, hml, hown, hts⟩ (c_X8_asked_ l dC dI q mq zq sq bq cq pq cZ cI cJ fM fS fP fB fC sm fT ps th false false s.heap.size ) (cwV 2 hts gX8_insertRange_X8_asked_ rfl rfl rfl (by decide +kernel) ⟨Nat.le_of_ble_eq_true rfl, Nat.le_of_ble_eq_true rfl⟩) ⟨fun a U g mk q => by obtain ⟨q0, q1, qP, qK, qD⟩ := q; exact ⟨q0, q1, qP, va_K.moved (u := U) (U := U.calling g mk a) (Vm.Alike.refl U.vm) qK, qD⟩, va_recv hKc hPc (ci := 7) (q0 := 0) rfl rfl, fun U hU hW => ⟨rfl, by rw [hU], by rw [hU]; exact hPc, va_K.moved hW.alike hKc, hDc.weaken (fun _ _ _ _ => trivial)⟩⟩ rfl rfl hl.1 rfl (lv_room (Nat.le_of_ble_eq_true rfl)) dX8_insertRange_69 ⟨Nat.le_of_ble_eq_true rfl, Nat.le_of_ble_eq_true rfl⟩) hS (fun q _ h => hFc q h) hFc (fun r_9 u_8 t9 H1 locs ht hvm hw_7 hB hz1 hk1 hS => ?_)
      obtain ⟨th'_10, rfl⟩ : ∃ z, z = u_8 := ⟨_, rfl⟩
      obtain ⟨hP1, hK1, hD1⟩ := hB
      rw [ht] at hP1
      have hK1 := va_K.moved hvm.symm hK1
      try dsimp only at hw_7 hP1 hK1 hD1
      obtain ⟨hP, hD⟩ := va_join (wr := []) (w1 := [(q, .inr (7, [.ref mq, .ref zq, .ref sq, .ref bq, .ref cq, .long sm, .ref pq, .int ps, .int th'_10])), (mq, .inl (cZ, 12288, .inl fM)), (zq, .inl (cI, 3, .inl fS)), (sq, .inl (cI, 6156, .inl fP)), (bq, .inl (cI, 3, .inl fB)), (cq, .inl (cJ, 64, .inr (.inl fC))), (pq, .inl (cI, 8, .inl fT))]) hP hD [0, 1, 2, 3, 4, 5, 6] [] rfl rfl (by decide) (by decide) hk1 hFc hP1 hD1
      generalize H1 = H at hP hS ⊢
      have hP : va_P (dC, dI) vwCl [(q, .inr (7, [.ref mq, .ref zq, .ref sq, .ref bq, .ref cq, .long sm, .ref pq, .int ps, .int th'_10])), (mq, .inl (cZ, 12288, .inl fM)), (zq, .inl (cI, 3, .inl fS)), (sq, .inl (cI, 6156, .inl fP)), (bq, .inl (cI, 3, .inl fB)), (cq, .inl (cJ, 64, .inr (.inl fC))), (pq, .inl (cI, 8, .inl fT))] H := hP
      have hD : va_D A [(q, .inr (7, [.ref mq, .ref zq, .ref sq, .ref bq, .ref cq, .long sm, .ref pq, .int ps, .int th'_10])), (mq, .inl (cZ, 12288, .inl fM)), (zq, .inl (cI, 3, .inl fS)), (sq, .inl (cI, 6156, .inl fP)), (bq, .inl (cI, 3, .inl fB)), (cq, .inl (cJ, 64, .inr (.inl fC))), (pq, .inl (cI, 8, .inl fT))] := hD
      obtain ⟨he, hw_7⟩ := hw_7
      subst he
      have hth := hw_7
      refine lv_cvi (rfl) ?_
      refine lv_if_ne (tgt := 77) hx hb dX8_insertRange_72 (by decide) (fun qc_11 => ?_) (fun qc_11 => ?_)
      · have c_11 : false = true := b2i_t qc_11
        cases c_11
      · have c_11 : false = false := b2i_f qc_11
        refine lv_iconst (v := nI 0) hx hb dX8_insertRange_75 (by decide +kernel) ?_
        have hP9 := hP.sub (ws' := [(q, .inr (7, [.ref mq, .ref zq, .ref sq, .ref bq, .ref cq, .long sm, .ref pq, .int ps, .int th'_10])), (mq, .inl (cZ, 12288, .inl fM)), (zq, .inl (cI, 3, .inl fS)), (sq, .inl (cI, 6156, .inl fP)), (bq, .inl (cI, 3, .inl fB)), (cq, .inl (cJ, 64, .inr (.inl fC))), (pq, .inl (cI, 8, .inl fT))]) [0, 1, 2, 3, 4, 5, 6] rfl
        have hD9 := hD.sub (ws' := [(q, .inr (7, [.ref mq, .ref zq, .ref sq, .ref bq, .ref cq, .long sm, .ref pq, .int ps, .int th'_10])), (mq, .inl (cZ, 12288, .inl fM)), (zq, .inl (cI, 3, .inl fS)), (sq, .inl (cI, 6156, .inl fP)), (bq, .inl (cI, 3, .inl fB)), (cq, .inl (cJ, 64, .inr (.inl fC))), (pq, .inl (cI, 8, .inl fT))]) [0, 1, 2, 3, 4, 5, 6] (by decide) rfl
        have hK9 := hK.sub (tys' := [(cZ, .boolean), (cI, .int), (cJ, .long)]) [0, 1, 2] rfl
        exact W.iret (v := nI 0) hx hb hr (fun t9 ht hW => ⟨⟨nI 0, th'_10, rfl, hth, by rw [ht]; exact hP9, va_K.moved hW.alike hK9, hD9⟩, hS.F ht⟩) hS.2.2 dX8_insertRange_76
    · have c_6 : false = true := b2i_t qc_6
      cases c_6
  · have c_3 : (decide ((nI 0) ≤ f ∧ f ≤ (nI 4095))) = true := b2i_t qc_3
    refine lv_iload_n hx hb dX8_insertRange_11 rfl (lv_at hl 3 rfl) ?_
    refine lv_iconst (v := nI 1) hx hb dX8_insertRange_12 (by decide +kernel) ?_
    refine lv_sipush (v := nI 1000) hx hb dX8_insertRange_13 (by decide +kernel) ?_
    have hPc := hP.sub (ws' := []) [] rfl
    have hKc := hK.sub (tys' := []) [] rfl
    refine vp_callSi (W.runS (As := [.int d, .int (nI 1), .int (nI 1000)]) (rest := []) ⟨hx, hb, hml, hown, hts⟩ (c_X8_in l dC dI d (nI 1) (nI 1000) ) (va_cwS 3 hts gX8_insertRange_X8_in rfl rfl rfl (by decide +kernel) ⟨Nat.le_of_ble_eq_true rfl, Nat.le_of_ble_eq_true rfl⟩) ⟨fun a U g mk q => by obtain ⟨q0, qP, qK⟩ := q; exact ⟨q0, qP, va_K.moved (u := U) (U := U.calling g mk a) (Vm.Alike.refl U.vm) qK⟩, fun U hU hW => ⟨rfl, by rw [hU]; exact hPc, va_K.moved hW.alike hKc⟩⟩ rfl rfl hl.1 rfl (lv_room (Nat.le_of_ble_eq_true rfl)) dX8_insertRange_16 ⟨Nat.le_of_ble_eq_true rfl, Nat.le_of_ble_eq_true rfl⟩) (fun r_13 hw_12 => ?_)
    subst hw_12
    refine lv_if_eq (tgt := 37) hx hb dX8_insertRange_19 (by decide) (fun qc_14 => ?_) (fun qc_14 => ?_)
    · have c_14 : (decide ((nI 1) ≤ d ∧ d ≤ (nI 1000))) = false := b2i_f qc_14
      refine lv_iconst (v := nI 0) hx hb dX8_insertRange_37 (by decide +kernel) ?_
      refine lv_cvi ((rfl : nI 0 = b2i false)) ?_
      refine lv_istore (lv' := [(5, .int (b2i false)), (0, .ref q), (1, .int v), (2, .int f), (3, .int d), (4, .int n)]) hx hb dX8_insertRange_38 hl (by decide) rfl (fun ls hl => ?_)
      refine lv_aload_n hx hb dX8_insertRange_40 rfl (lv_at hl 1 rfl) ?_
      refine lv_iload_n hx hb dX8_insertRange_41 rfl (lv_at hl 2 rfl) ?_
      have hPc := hP.sub (ws' := []) [] rfl
      have hKc := hK.sub (tys' := []) [] rfl
      refine vp_callSi (W.runS (As := [.int v]) (rest := [.ref q]) ⟨hx, hb, hml, hown, hts⟩ (c_X8_isSet l dC dI v ) (va_cwS 1 hts gX8_insertRange_X8_isSet rfl rfl rfl (by decide +kernel) ⟨Nat.le_of_ble_eq_true rfl, Nat.le_of_ble_eq_true rfl⟩) ⟨fun a U g mk q => by obtain ⟨q0, qP, qK⟩ := q; exact ⟨q0, qP, va_K.moved (u := U) (U := U.calling g mk a) (Vm.Alike.refl U.vm) qK⟩, fun U hU hW => ⟨rfl, by rw [hU]; exact hPc, va_K.moved hW.alike hKc⟩⟩ rfl rfl hl.1 rfl (lv_room (Nat.le_of_ble_eq_true rfl)) dX8_insertRange_42 ⟨Nat.le_of_ble_eq_true rfl, Nat.le_of_ble_eq_true rfl⟩) (fun r_16 hw_15 => ?_)
      subst hw_15
      refine lv_cvi (congrArg b2i (hSf)) ?_
      refine lv_iload hx hb dX8_insertRange_45 (lv_at hl 0 rfl) ?_
      refine lv_if_eq (tgt := 68) hx hb dX8_insertRange_47 (by decide) (fun qc_17 => ?_) (fun qc_17 => ?_)
      · have c_17 : false = false := b2i_f qc_17
        refine lv_iconst (v := nI 0) hx hb dX8_insertRange_68 (by decide +kernel) ?_
        refine lv_cvi ((rfl : nI 0 = b2i false)) ?_
        have hPc := hP.sub (ws' := [(q, .inr (7, [.ref mq, .ref zq, .ref sq, .ref bq, .ref cq, .long sm, .ref pq, .int ps, .int th])), (mq, .inl (cZ, 12288, .inl fM)), (zq, .inl (cI, 3, .inl fS)), (sq, .inl (cI, 6156, .inl fP)), (bq, .inl (cI, 3, .inl fB)), (cq, .inl (cJ, 64, .inr (.inl fC))), (pq, .inl (cI, 8, .inl fT))]) [0, 1, 2, 3, 4, 5, 6] rfl
        have hKc := hK.sub (tys' := [(cZ, .boolean), (cI, .int), (cJ, .long)]) [0, 1, 2] rfl
        have hDc := hD.sub (ws' := [(q, .inr (7, [.ref mq, .ref zq, .ref sq, .ref bq, .ref cq, .long sm, .ref pq, .int ps, .int th])), (mq, .inl (cZ, 12288, .inl fM)), (zq, .inl (cI, 3, .inl fS)), (sq, .inl (cI, 6156, .inl fP)), (bq, .inl (cI, 3, .inl fB)), (cq, .inl (cJ, 64, .inr (.inl fC))), (pq, .inl (cI, 8, .inl fT))]) [0, 1, 2, 3, 4, 5, 6] (by decide) rfl
        have hFc := va_free (wc := [(q, .inr (7, [.ref mq, .ref zq, .ref sq, .ref bq, .ref cq, .long sm, .ref pq, .int ps, .int th])), (mq, .inl (cZ, 12288, .inl fM)), (zq, .inl (cI, 3, .inl fS)), (sq, .inl (cI, 6156, .inl fP)), (bq, .inl (cI, 3, .inl fB)), (cq, .inl (cJ, 64, .inr (.inl fC))), (pq, .inl (cI, 8, .inl fT))]) hD hS hA [0, 1, 2, 3, 4, 5, 6] rfl
        refine va_calli (va_runV (As := [.int (b2i false), .int (b2i false)]) (rest := []) ⟨hx, hb, hml, hown, hts⟩ (c_X8_asked_ l dC dI q mq zq sq bq cq pq cZ cI cJ fM fS fP fB fC sm fT ps th false false s.heap.size ) (cwV 2 hts gX8_insertRange_X8_asked_ rfl rfl rfl (by decide +kernel) ⟨Nat.le_of_ble_eq_true rfl, Nat.le_of_ble_eq_true rfl⟩) ⟨fun a U g mk q => by obtain ⟨q0, q1, qP, qK, qD⟩ := q; exact ⟨q0, q1, qP, va_K.moved (u := U) (U := U.calling g mk a) (Vm.Alike.refl U.vm) qK, qD⟩, va_recv hKc hPc (ci := 7) (q0 := 0) rfl rfl, fun U hU hW => ⟨rfl, by rw [hU], by rw [hU]; exact hPc, va_K.moved hW.alike hKc, hDc.weaken (fun _ _ _ _ => trivial)⟩⟩ rfl rfl hl.1 rfl (lv_room (Nat.le_of_ble_eq_true rfl)) dX8_insertRange_69 ⟨Nat.le_of_ble_eq_true rfl, Nat.le_of_ble_eq_true rfl⟩) hS (fun q _ h => hFc q h) hFc (fun r_20 u_19 t9 H1 locs ht hvm hw_18 hB hz1 hk1 hS => ?_)
        obtain ⟨th'_21, rfl⟩ : ∃ z, z = u_19 := ⟨_, rfl⟩
        obtain ⟨hP1, hK1, hD1⟩ := hB
        rw [ht] at hP1
        have hK1 := va_K.moved hvm.symm hK1
        try dsimp only at hw_18 hP1 hK1 hD1
        obtain ⟨hP, hD⟩ := va_join (wr := []) (w1 := [(q, .inr (7, [.ref mq, .ref zq, .ref sq, .ref bq, .ref cq, .long sm, .ref pq, .int ps, .int th'_21])), (mq, .inl (cZ, 12288, .inl fM)), (zq, .inl (cI, 3, .inl fS)), (sq, .inl (cI, 6156, .inl fP)), (bq, .inl (cI, 3, .inl fB)), (cq, .inl (cJ, 64, .inr (.inl fC))), (pq, .inl (cI, 8, .inl fT))]) hP hD [0, 1, 2, 3, 4, 5, 6] [] rfl rfl (by decide) (by decide) hk1 hFc hP1 hD1
        generalize H1 = H at hP hS ⊢
        have hP : va_P (dC, dI) vwCl [(q, .inr (7, [.ref mq, .ref zq, .ref sq, .ref bq, .ref cq, .long sm, .ref pq, .int ps, .int th'_21])), (mq, .inl (cZ, 12288, .inl fM)), (zq, .inl (cI, 3, .inl fS)), (sq, .inl (cI, 6156, .inl fP)), (bq, .inl (cI, 3, .inl fB)), (cq, .inl (cJ, 64, .inr (.inl fC))), (pq, .inl (cI, 8, .inl fT))] H := hP
        have hD : va_D A [(q, .inr (7, [.ref mq, .ref zq, .ref sq, .ref bq, .ref cq, .long sm, .ref pq, .int ps, .int th'_21])), (mq, .inl (cZ, 12288, .inl fM)), (zq, .inl (cI, 3, .inl fS)), (sq, .inl (cI, 6156, .inl fP)), (bq, .inl (cI, 3, .inl fB)), (cq, .inl (cJ, 64, .inr (.inl fC))), (pq, .inl (cI, 8, .inl fT))] := hD
        obtain ⟨he, hw_18⟩ := hw_18
        subst he
        have hth := hw_18
        refine lv_cvi (rfl) ?_
        refine lv_if_ne (tgt := 77) hx hb dX8_insertRange_72 (by decide) (fun qc_22 => ?_) (fun qc_22 => ?_)
        · have c_22 : false = true := b2i_t qc_22
          cases c_22
        · have c_22 : false = false := b2i_f qc_22
          refine lv_iconst (v := nI 0) hx hb dX8_insertRange_75 (by decide +kernel) ?_
          have hP9 := hP.sub (ws' := [(q, .inr (7, [.ref mq, .ref zq, .ref sq, .ref bq, .ref cq, .long sm, .ref pq, .int ps, .int th'_21])), (mq, .inl (cZ, 12288, .inl fM)), (zq, .inl (cI, 3, .inl fS)), (sq, .inl (cI, 6156, .inl fP)), (bq, .inl (cI, 3, .inl fB)), (cq, .inl (cJ, 64, .inr (.inl fC))), (pq, .inl (cI, 8, .inl fT))]) [0, 1, 2, 3, 4, 5, 6] rfl
          have hD9 := hD.sub (ws' := [(q, .inr (7, [.ref mq, .ref zq, .ref sq, .ref bq, .ref cq, .long sm, .ref pq, .int ps, .int th'_21])), (mq, .inl (cZ, 12288, .inl fM)), (zq, .inl (cI, 3, .inl fS)), (sq, .inl (cI, 6156, .inl fP)), (bq, .inl (cI, 3, .inl fB)), (cq, .inl (cJ, 64, .inr (.inl fC))), (pq, .inl (cI, 8, .inl fT))]) [0, 1, 2, 3, 4, 5, 6] (by decide) rfl
          have hK9 := hK.sub (tys' := [(cZ, .boolean), (cI, .int), (cJ, .long)]) [0, 1, 2] rfl
          exact W.iret (v := nI 0) hx hb hr (fun t9 ht hW => ⟨⟨nI 0, th'_21, rfl, hth, by rw [ht]; exact hP9, va_K.moved hW.alike hK9, hD9⟩, hS.F ht⟩) hS.2.2 dX8_insertRange_76
      · have c_17 : false = true := b2i_t qc_17
        cases c_17
    · have c_14 : (decide ((nI 1) ≤ d ∧ d ≤ (nI 1000))) = true := b2i_t qc_14
      refine lv_iload hx hb dX8_insertRange_22 (lv_at hl 4 rfl) ?_
      refine lv_iconst (v := nI 1) hx hb dX8_insertRange_24 (by decide +kernel) ?_
      refine lv_bipush (v := nI 30) hx hb dX8_insertRange_25 (by decide +kernel) ?_
      have hPc := hP.sub (ws' := []) [] rfl
      have hKc := hK.sub (tys' := []) [] rfl
      refine vp_callSi (W.runS (As := [.int n, .int (nI 1), .int (nI 30)]) (rest := []) ⟨hx, hb, hml, hown, hts⟩ (c_X8_in l dC dI n (nI 1) (nI 30) ) (va_cwS 3 hts gX8_insertRange_X8_in rfl rfl rfl (by decide +kernel) ⟨Nat.le_of_ble_eq_true rfl, Nat.le_of_ble_eq_true rfl⟩) ⟨fun a U g mk q => by obtain ⟨q0, qP, qK⟩ := q; exact ⟨q0, qP, va_K.moved (u := U) (U := U.calling g mk a) (Vm.Alike.refl U.vm) qK⟩, fun U hU hW => ⟨rfl, by rw [hU]; exact hPc, va_K.moved hW.alike hKc⟩⟩ rfl rfl hl.1 rfl (lv_room (Nat.le_of_ble_eq_true rfl)) dX8_insertRange_27 ⟨Nat.le_of_ble_eq_true rfl, Nat.le_of_ble_eq_true rfl⟩) (fun r_24 hw_23 => ?_)
      subst hw_23
      refine lv_if_eq (tgt := 37) hx hb dX8_insertRange_30 (by decide) (fun qc_25 => ?_) (fun qc_25 => ?_)
      · have c_25 : (decide ((nI 1) ≤ n ∧ n ≤ (nI 30))) = false := b2i_f qc_25
        refine lv_iconst (v := nI 0) hx hb dX8_insertRange_37 (by decide +kernel) ?_
        refine lv_cvi ((rfl : nI 0 = b2i false)) ?_
        refine lv_istore (lv' := [(5, .int (b2i false)), (0, .ref q), (1, .int v), (2, .int f), (3, .int d), (4, .int n)]) hx hb dX8_insertRange_38 hl (by decide) rfl (fun ls hl => ?_)
        refine lv_aload_n hx hb dX8_insertRange_40 rfl (lv_at hl 1 rfl) ?_
        refine lv_iload_n hx hb dX8_insertRange_41 rfl (lv_at hl 2 rfl) ?_
        have hPc := hP.sub (ws' := []) [] rfl
        have hKc := hK.sub (tys' := []) [] rfl
        refine vp_callSi (W.runS (As := [.int v]) (rest := [.ref q]) ⟨hx, hb, hml, hown, hts⟩ (c_X8_isSet l dC dI v ) (va_cwS 1 hts gX8_insertRange_X8_isSet rfl rfl rfl (by decide +kernel) ⟨Nat.le_of_ble_eq_true rfl, Nat.le_of_ble_eq_true rfl⟩) ⟨fun a U g mk q => by obtain ⟨q0, qP, qK⟩ := q; exact ⟨q0, qP, va_K.moved (u := U) (U := U.calling g mk a) (Vm.Alike.refl U.vm) qK⟩, fun U hU hW => ⟨rfl, by rw [hU]; exact hPc, va_K.moved hW.alike hKc⟩⟩ rfl rfl hl.1 rfl (lv_room (Nat.le_of_ble_eq_true rfl)) dX8_insertRange_42 ⟨Nat.le_of_ble_eq_true rfl, Nat.le_of_ble_eq_true rfl⟩) (fun r_27 hw_26 => ?_)
        subst hw_26
        refine lv_cvi (congrArg b2i (hSf)) ?_
        refine lv_iload hx hb dX8_insertRange_45 (lv_at hl 0 rfl) ?_
        refine lv_if_eq (tgt := 68) hx hb dX8_insertRange_47 (by decide) (fun qc_28 => ?_) (fun qc_28 => ?_)
        · have c_28 : false = false := b2i_f qc_28
          refine lv_iconst (v := nI 0) hx hb dX8_insertRange_68 (by decide +kernel) ?_
          refine lv_cvi ((rfl : nI 0 = b2i false)) ?_
          have hPc := hP.sub (ws' := [(q, .inr (7, [.ref mq, .ref zq, .ref sq, .ref bq, .ref cq, .long sm, .ref pq, .int ps, .int th])), (mq, .inl (cZ, 12288, .inl fM)), (zq, .inl (cI, 3, .inl fS)), (sq, .inl (cI, 6156, .inl fP)), (bq, .inl (cI, 3, .inl fB)), (cq, .inl (cJ, 64, .inr (.inl fC))), (pq, .inl (cI, 8, .inl fT))]) [0, 1, 2, 3, 4, 5, 6] rfl
          have hKc := hK.sub (tys' := [(cZ, .boolean), (cI, .int), (cJ, .long)]) [0, 1, 2] rfl
          have hDc := hD.sub (ws' := [(q, .inr (7, [.ref mq, .ref zq, .ref sq, .ref bq, .ref cq, .long sm, .ref pq, .int ps, .int th])), (mq, .inl (cZ, 12288, .inl fM)), (zq, .inl (cI, 3, .inl fS)), (sq, .inl (cI, 6156, .inl fP)), (bq, .inl (cI, 3, .inl fB)), (cq, .inl (cJ, 64, .inr (.inl fC))), (pq, .inl (cI, 8, .inl fT))]) [0, 1, 2, 3, 4, 5, 6] (by decide) rfl
          have hFc := va_free (wc := [(q, .inr (7, [.ref mq, .ref zq, .ref sq, .ref bq, .ref cq, .long sm, .ref pq, .int ps, .int th])), (mq, .inl (cZ, 12288, .inl fM)), (zq, .inl (cI, 3, .inl fS)), (sq, .inl (cI, 6156, .inl fP)), (bq, .inl (cI, 3, .inl fB)), (cq, .inl (cJ, 64, .inr (.inl fC))), (pq, .inl (cI, 8, .inl fT))]) hD hS hA [0, 1, 2, 3, 4, 5, 6] rfl
          refine va_calli (va_runV (As := [.int (b2i false), .int (b2i false)]) (rest := []) ⟨hx, hb, hml, hown, hts⟩ (c_X8_asked_ l dC dI q mq zq sq bq cq pq cZ cI cJ fM fS fP fB fC sm fT ps th false false s.heap.size ) (cwV 2 hts gX8_insertRange_X8_asked_ rfl rfl rfl (by decide +kernel) ⟨Nat.le_of_ble_eq_true rfl, Nat.le_of_ble_eq_true rfl⟩) ⟨fun a U g mk q => by obtain ⟨q0, q1, qP, qK, qD⟩ := q; exact ⟨q0, q1, qP, va_K.moved (u := U) (U := U.calling g mk a) (Vm.Alike.refl U.vm) qK, qD⟩, va_recv hKc hPc (ci := 7) (q0 := 0) rfl rfl, fun U hU hW => ⟨rfl, by rw [hU], by rw [hU]; exact hPc, va_K.moved hW.alike hKc, hDc.weaken (fun _ _ _ _ => trivial)⟩⟩ rfl rfl hl.1 rfl (lv_room (Nat.le_of_ble_eq_true rfl)) dX8_insertRange_69 ⟨Nat.le_of_ble_eq_true rfl, Nat.le_of_ble_eq_true rfl⟩) hS (fun q _ h => hFc q h) hFc (fun r_31 u_30 t9 H1 locs ht hvm hw_29 hB hz1 hk1 hS => ?_)
          obtain ⟨th'_32, rfl⟩ : ∃ z, z = u_30 := ⟨_, rfl⟩
          obtain ⟨hP1, hK1, hD1⟩ := hB
          rw [ht] at hP1
          have hK1 := va_K.moved hvm.symm hK1
          try dsimp only at hw_29 hP1 hK1 hD1
          obtain ⟨hP, hD⟩ := va_join (wr := []) (w1 := [(q, .inr (7, [.ref mq, .ref zq, .ref sq, .ref bq, .ref cq, .long sm, .ref pq, .int ps, .int th'_32])), (mq, .inl (cZ, 12288, .inl fM)), (zq, .inl (cI, 3, .inl fS)), (sq, .inl (cI, 6156, .inl fP)), (bq, .inl (cI, 3, .inl fB)), (cq, .inl (cJ, 64, .inr (.inl fC))), (pq, .inl (cI, 8, .inl fT))]) hP hD [0, 1, 2, 3, 4, 5, 6] [] rfl rfl (by decide) (by decide) hk1 hFc hP1 hD1
          generalize H1 = H at hP hS ⊢
          have hP : va_P (dC, dI) vwCl [(q, .inr (7, [.ref mq, .ref zq, .ref sq, .ref bq, .ref cq, .long sm, .ref pq, .int ps, .int th'_32])), (mq, .inl (cZ, 12288, .inl fM)), (zq, .inl (cI, 3, .inl fS)), (sq, .inl (cI, 6156, .inl fP)), (bq, .inl (cI, 3, .inl fB)), (cq, .inl (cJ, 64, .inr (.inl fC))), (pq, .inl (cI, 8, .inl fT))] H := hP
          have hD : va_D A [(q, .inr (7, [.ref mq, .ref zq, .ref sq, .ref bq, .ref cq, .long sm, .ref pq, .int ps, .int th'_32])), (mq, .inl (cZ, 12288, .inl fM)), (zq, .inl (cI, 3, .inl fS)), (sq, .inl (cI, 6156, .inl fP)), (bq, .inl (cI, 3, .inl fB)), (cq, .inl (cJ, 64, .inr (.inl fC))), (pq, .inl (cI, 8, .inl fT))] := hD
          obtain ⟨he, hw_29⟩ := hw_29
          subst he
          have hth := hw_29
          refine lv_cvi (rfl) ?_
          refine lv_if_ne (tgt := 77) hx hb dX8_insertRange_72 (by decide) (fun qc_33 => ?_) (fun qc_33 => ?_)
          · have c_33 : false = true := b2i_t qc_33
            cases c_33
          · have c_33 : false = false := b2i_f qc_33
            refine lv_iconst (v := nI 0) hx hb dX8_insertRange_75 (by decide +kernel) ?_
            have hP9 := hP.sub (ws' := [(q, .inr (7, [.ref mq, .ref zq, .ref sq, .ref bq, .ref cq, .long sm, .ref pq, .int ps, .int th'_32])), (mq, .inl (cZ, 12288, .inl fM)), (zq, .inl (cI, 3, .inl fS)), (sq, .inl (cI, 6156, .inl fP)), (bq, .inl (cI, 3, .inl fB)), (cq, .inl (cJ, 64, .inr (.inl fC))), (pq, .inl (cI, 8, .inl fT))]) [0, 1, 2, 3, 4, 5, 6] rfl
            have hD9 := hD.sub (ws' := [(q, .inr (7, [.ref mq, .ref zq, .ref sq, .ref bq, .ref cq, .long sm, .ref pq, .int ps, .int th'_32])), (mq, .inl (cZ, 12288, .inl fM)), (zq, .inl (cI, 3, .inl fS)), (sq, .inl (cI, 6156, .inl fP)), (bq, .inl (cI, 3, .inl fB)), (cq, .inl (cJ, 64, .inr (.inl fC))), (pq, .inl (cI, 8, .inl fT))]) [0, 1, 2, 3, 4, 5, 6] (by decide) rfl
            have hK9 := hK.sub (tys' := [(cZ, .boolean), (cI, .int), (cJ, .long)]) [0, 1, 2] rfl
            exact W.iret (v := nI 0) hx hb hr (fun t9 ht hW => ⟨⟨nI 0, th'_32, rfl, hth, by rw [ht]; exact hP9, va_K.moved hW.alike hK9, hD9⟩, hS.F ht⟩) hS.2.2 dX8_insertRange_76
        · have c_28 : false = true := b2i_t qc_28
          cases c_28
      · have c_25 : (decide ((nI 1) ≤ n ∧ n ≤ (nI 30))) = true := b2i_t qc_25
        refine lv_iconst (v := nI 1) hx hb dX8_insertRange_33 (by decide +kernel) ?_
        refine lv_goto (tgt := 38) hx hb dX8_insertRange_34 (by decide) ?_
        refine lv_cvi ((rfl : nI 1 = b2i true)) ?_
        refine lv_istore (lv' := [(5, .int (b2i true)), (0, .ref q), (1, .int v), (2, .int f), (3, .int d), (4, .int n)]) hx hb dX8_insertRange_38 hl (by decide) rfl (fun ls hl => ?_)
        refine lv_aload_n hx hb dX8_insertRange_40 rfl (lv_at hl 1 rfl) ?_
        refine lv_iload_n hx hb dX8_insertRange_41 rfl (lv_at hl 2 rfl) ?_
        have hPc := hP.sub (ws' := []) [] rfl
        have hKc := hK.sub (tys' := []) [] rfl
        refine vp_callSi (W.runS (As := [.int v]) (rest := [.ref q]) ⟨hx, hb, hml, hown, hts⟩ (c_X8_isSet l dC dI v ) (va_cwS 1 hts gX8_insertRange_X8_isSet rfl rfl rfl (by decide +kernel) ⟨Nat.le_of_ble_eq_true rfl, Nat.le_of_ble_eq_true rfl⟩) ⟨fun a U g mk q => by obtain ⟨q0, qP, qK⟩ := q; exact ⟨q0, qP, va_K.moved (u := U) (U := U.calling g mk a) (Vm.Alike.refl U.vm) qK⟩, fun U hU hW => ⟨rfl, by rw [hU]; exact hPc, va_K.moved hW.alike hKc⟩⟩ rfl rfl hl.1 rfl (lv_room (Nat.le_of_ble_eq_true rfl)) dX8_insertRange_42 ⟨Nat.le_of_ble_eq_true rfl, Nat.le_of_ble_eq_true rfl⟩) (fun r_35 hw_34 => ?_)
        subst hw_34
        refine lv_cvi (congrArg b2i (hSf)) ?_
        refine lv_iload hx hb dX8_insertRange_45 (lv_at hl 0 rfl) ?_
        refine lv_if_eq (tgt := 68) hx hb dX8_insertRange_47 (by decide) (fun qc_36 => ?_) (fun qc_36 => ?_)
        · have c_36 : true = false := b2i_f qc_36
          cases c_36
        · have c_36 : true = true := b2i_t qc_36
          refine lv_iload_n hx hb dX8_insertRange_50 rfl (lv_at hl 3 rfl) ?_
          refine lv_iload hx hb dX8_insertRange_51 (lv_at hl 5 rfl) ?_
          refine lv_iconst (v := nI 1) hx hb dX8_insertRange_53 (by decide +kernel) ?_
          refine lv_isub hx hb dX8_insertRange_54 ?_
          refine lv_iload_n hx hb dX8_insertRange_55 rfl (lv_at hl 4 rfl) ?_
          refine lv_imul hx hb dX8_insertRange_56 ?_
          refine lv_iadd hx hb dX8_insertRange_57 ?_
          refine lv_sipush (v := nI 4096) hx hb dX8_insertRange_58 (by decide +kernel) ?_
          refine lv_icmp_ge (tgt := 68) hx hb dX8_insertRange_61 (by decide) (fun qc_37 => ?_) (fun qc_37 => ?_)
          · refine lv_iconst (v := nI 0) hx hb dX8_insertRange_68 (by decide +kernel) ?_
            refine lv_cvi ((rfl : nI 0 = b2i false)) ?_
            have hPc := hP.sub (ws' := [(q, .inr (7, [.ref mq, .ref zq, .ref sq, .ref bq, .ref cq, .long sm, .ref pq, .int ps, .int th])), (mq, .inl (cZ, 12288, .inl fM)), (zq, .inl (cI, 3, .inl fS)), (sq, .inl (cI, 6156, .inl fP)), (bq, .inl (cI, 3, .inl fB)), (cq, .inl (cJ, 64, .inr (.inl fC))), (pq, .inl (cI, 8, .inl fT))]) [0, 1, 2, 3, 4, 5, 6] rfl
            have hKc := hK.sub (tys' := [(cZ, .boolean), (cI, .int), (cJ, .long)]) [0, 1, 2] rfl
            have hDc := hD.sub (ws' := [(q, .inr (7, [.ref mq, .ref zq, .ref sq, .ref bq, .ref cq, .long sm, .ref pq, .int ps, .int th])), (mq, .inl (cZ, 12288, .inl fM)), (zq, .inl (cI, 3, .inl fS)), (sq, .inl (cI, 6156, .inl fP)), (bq, .inl (cI, 3, .inl fB)), (cq, .inl (cJ, 64, .inr (.inl fC))), (pq, .inl (cI, 8, .inl fT))]) [0, 1, 2, 3, 4, 5, 6] (by decide) rfl
            have hFc := va_free (wc := [(q, .inr (7, [.ref mq, .ref zq, .ref sq, .ref bq, .ref cq, .long sm, .ref pq, .int ps, .int th])), (mq, .inl (cZ, 12288, .inl fM)), (zq, .inl (cI, 3, .inl fS)), (sq, .inl (cI, 6156, .inl fP)), (bq, .inl (cI, 3, .inl fB)), (cq, .inl (cJ, 64, .inr (.inl fC))), (pq, .inl (cI, 8, .inl fT))]) hD hS hA [0, 1, 2, 3, 4, 5, 6] rfl
            refine va_calli (va_runV (As := [.int (b2i false), .int (b2i false)]) (rest := []) ⟨hx, hb, hml, hown, hts⟩ (c_X8_asked_ l dC dI q mq zq sq bq cq pq cZ cI cJ fM fS fP fB fC sm fT ps th false false s.heap.size ) (cwV 2 hts gX8_insertRange_X8_asked_ rfl rfl rfl (by decide +kernel) ⟨Nat.le_of_ble_eq_true rfl, Nat.le_of_ble_eq_true rfl⟩) ⟨fun a U g mk q => by obtain ⟨q0, q1, qP, qK, qD⟩ := q; exact ⟨q0, q1, qP, va_K.moved (u := U) (U := U.calling g mk a) (Vm.Alike.refl U.vm) qK, qD⟩, va_recv hKc hPc (ci := 7) (q0 := 0) rfl rfl, fun U hU hW => ⟨rfl, by rw [hU], by rw [hU]; exact hPc, va_K.moved hW.alike hKc, hDc.weaken (fun _ _ _ _ => trivial)⟩⟩ rfl rfl hl.1 rfl (lv_room (Nat.le_of_ble_eq_true rfl)) dX8_insertRange_69 ⟨Nat.le_of_ble_eq_true rfl, Nat.le_of_ble_eq_true rfl⟩) hS (fun q _ h => hFc q h) hFc (fun r_40 u_39 t9 H1 locs ht hvm hw_38 hB hz1 hk1 hS => ?_)
            obtain ⟨th'_41, rfl⟩ : ∃ z, z = u_39 := ⟨_, rfl⟩
            obtain ⟨hP1, hK1, hD1⟩ := hB
            rw [ht] at hP1
            have hK1 := va_K.moved hvm.symm hK1
            try dsimp only at hw_38 hP1 hK1 hD1
            obtain ⟨hP, hD⟩ := va_join (wr := []) (w1 := [(q, .inr (7, [.ref mq, .ref zq, .ref sq, .ref bq, .ref cq, .long sm, .ref pq, .int ps, .int th'_41])), (mq, .inl (cZ, 12288, .inl fM)), (zq, .inl (cI, 3, .inl fS)), (sq, .inl (cI, 6156, .inl fP)), (bq, .inl (cI, 3, .inl fB)), (cq, .inl (cJ, 64, .inr (.inl fC))), (pq, .inl (cI, 8, .inl fT))]) hP hD [0, 1, 2, 3, 4, 5, 6] [] rfl rfl (by decide) (by decide) hk1 hFc hP1 hD1
            generalize H1 = H at hP hS ⊢
            have hP : va_P (dC, dI) vwCl [(q, .inr (7, [.ref mq, .ref zq, .ref sq, .ref bq, .ref cq, .long sm, .ref pq, .int ps, .int th'_41])), (mq, .inl (cZ, 12288, .inl fM)), (zq, .inl (cI, 3, .inl fS)), (sq, .inl (cI, 6156, .inl fP)), (bq, .inl (cI, 3, .inl fB)), (cq, .inl (cJ, 64, .inr (.inl fC))), (pq, .inl (cI, 8, .inl fT))] H := hP
            have hD : va_D A [(q, .inr (7, [.ref mq, .ref zq, .ref sq, .ref bq, .ref cq, .long sm, .ref pq, .int ps, .int th'_41])), (mq, .inl (cZ, 12288, .inl fM)), (zq, .inl (cI, 3, .inl fS)), (sq, .inl (cI, 6156, .inl fP)), (bq, .inl (cI, 3, .inl fB)), (cq, .inl (cJ, 64, .inr (.inl fC))), (pq, .inl (cI, 8, .inl fT))] := hD
            obtain ⟨he, hw_38⟩ := hw_38
            subst he
            have hth := hw_38
            refine lv_cvi (rfl) ?_
            refine lv_if_ne (tgt := 77) hx hb dX8_insertRange_72 (by decide) (fun qc_42 => ?_) (fun qc_42 => ?_)
            · have c_42 : false = true := b2i_t qc_42
              cases c_42
            · have c_42 : false = false := b2i_f qc_42
              refine lv_iconst (v := nI 0) hx hb dX8_insertRange_75 (by decide +kernel) ?_
              have hP9 := hP.sub (ws' := [(q, .inr (7, [.ref mq, .ref zq, .ref sq, .ref bq, .ref cq, .long sm, .ref pq, .int ps, .int th'_41])), (mq, .inl (cZ, 12288, .inl fM)), (zq, .inl (cI, 3, .inl fS)), (sq, .inl (cI, 6156, .inl fP)), (bq, .inl (cI, 3, .inl fB)), (cq, .inl (cJ, 64, .inr (.inl fC))), (pq, .inl (cI, 8, .inl fT))]) [0, 1, 2, 3, 4, 5, 6] rfl
              have hD9 := hD.sub (ws' := [(q, .inr (7, [.ref mq, .ref zq, .ref sq, .ref bq, .ref cq, .long sm, .ref pq, .int ps, .int th'_41])), (mq, .inl (cZ, 12288, .inl fM)), (zq, .inl (cI, 3, .inl fS)), (sq, .inl (cI, 6156, .inl fP)), (bq, .inl (cI, 3, .inl fB)), (cq, .inl (cJ, 64, .inr (.inl fC))), (pq, .inl (cI, 8, .inl fT))]) [0, 1, 2, 3, 4, 5, 6] (by decide) rfl
              have hK9 := hK.sub (tys' := [(cZ, .boolean), (cI, .int), (cJ, .long)]) [0, 1, 2] rfl
              exact W.iret (v := nI 0) hx hb hr (fun t9 ht hW => ⟨⟨nI 0, th'_41, rfl, hth, by rw [ht]; exact hP9, va_K.moved hW.alike hK9, hD9⟩, hS.F ht⟩) hS.2.2 dX8_insertRange_76
          · refine lv_iconst (v := nI 1) hx hb dX8_insertRange_64 (by decide +kernel) ?_
            refine lv_goto (tgt := 69) hx hb dX8_insertRange_65 (by decide) ?_
            refine lv_cvi ((rfl : nI 1 = b2i true)) ?_
            have hPc := hP.sub (ws' := [(q, .inr (7, [.ref mq, .ref zq, .ref sq, .ref bq, .ref cq, .long sm, .ref pq, .int ps, .int th])), (mq, .inl (cZ, 12288, .inl fM)), (zq, .inl (cI, 3, .inl fS)), (sq, .inl (cI, 6156, .inl fP)), (bq, .inl (cI, 3, .inl fB)), (cq, .inl (cJ, 64, .inr (.inl fC))), (pq, .inl (cI, 8, .inl fT))]) [0, 1, 2, 3, 4, 5, 6] rfl
            have hKc := hK.sub (tys' := [(cZ, .boolean), (cI, .int), (cJ, .long)]) [0, 1, 2] rfl
            have hDc := hD.sub (ws' := [(q, .inr (7, [.ref mq, .ref zq, .ref sq, .ref bq, .ref cq, .long sm, .ref pq, .int ps, .int th])), (mq, .inl (cZ, 12288, .inl fM)), (zq, .inl (cI, 3, .inl fS)), (sq, .inl (cI, 6156, .inl fP)), (bq, .inl (cI, 3, .inl fB)), (cq, .inl (cJ, 64, .inr (.inl fC))), (pq, .inl (cI, 8, .inl fT))]) [0, 1, 2, 3, 4, 5, 6] (by decide) rfl
            have hFc := va_free (wc := [(q, .inr (7, [.ref mq, .ref zq, .ref sq, .ref bq, .ref cq, .long sm, .ref pq, .int ps, .int th])), (mq, .inl (cZ, 12288, .inl fM)), (zq, .inl (cI, 3, .inl fS)), (sq, .inl (cI, 6156, .inl fP)), (bq, .inl (cI, 3, .inl fB)), (cq, .inl (cJ, 64, .inr (.inl fC))), (pq, .inl (cI, 8, .inl fT))]) hD hS hA [0, 1, 2, 3, 4, 5, 6] rfl
            refine va_calli (va_runV (As := [.int (b2i false), .int (b2i true)]) (rest := []) ⟨hx, hb, hml, hown, hts⟩ (c_X8_asked_ l dC dI q mq zq sq bq cq pq cZ cI cJ fM fS fP fB fC sm fT ps th false true s.heap.size ) (cwV 2 hts gX8_insertRange_X8_asked_ rfl rfl rfl (by decide +kernel) ⟨Nat.le_of_ble_eq_true rfl, Nat.le_of_ble_eq_true rfl⟩) ⟨fun a U g mk q => by obtain ⟨q0, q1, qP, qK, qD⟩ := q; exact ⟨q0, q1, qP, va_K.moved (u := U) (U := U.calling g mk a) (Vm.Alike.refl U.vm) qK, qD⟩, va_recv hKc hPc (ci := 7) (q0 := 0) rfl rfl, fun U hU hW => ⟨rfl, by rw [hU], by rw [hU]; exact hPc, va_K.moved hW.alike hKc, hDc.weaken (fun _ _ _ _ => trivial)⟩⟩ rfl rfl hl.1 rfl (lv_room (Nat.le_of_ble_eq_true rfl)) dX8_insertRange_69 ⟨Nat.le_of_ble_eq_true rfl, Nat.le_of_ble_eq_true rfl⟩) hS (fun q _ h => hFc q h) hFc (fun r_45 u_44 t9 H1 locs ht hvm hw_43 hB hz1 hk1 hS => ?_)
            obtain ⟨th'_46, rfl⟩ : ∃ z, z = u_44 := ⟨_, rfl⟩
            obtain ⟨hP1, hK1, hD1⟩ := hB
            rw [ht] at hP1
            have hK1 := va_K.moved hvm.symm hK1
            try dsimp only at hw_43 hP1 hK1 hD1
            obtain ⟨hP, hD⟩ := va_join (wr := []) (w1 := [(q, .inr (7, [.ref mq, .ref zq, .ref sq, .ref bq, .ref cq, .long sm, .ref pq, .int ps, .int th'_46])), (mq, .inl (cZ, 12288, .inl fM)), (zq, .inl (cI, 3, .inl fS)), (sq, .inl (cI, 6156, .inl fP)), (bq, .inl (cI, 3, .inl fB)), (cq, .inl (cJ, 64, .inr (.inl fC))), (pq, .inl (cI, 8, .inl fT))]) hP hD [0, 1, 2, 3, 4, 5, 6] [] rfl rfl (by decide) (by decide) hk1 hFc hP1 hD1
            generalize H1 = H at hP hS ⊢
            have hP : va_P (dC, dI) vwCl [(q, .inr (7, [.ref mq, .ref zq, .ref sq, .ref bq, .ref cq, .long sm, .ref pq, .int ps, .int th'_46])), (mq, .inl (cZ, 12288, .inl fM)), (zq, .inl (cI, 3, .inl fS)), (sq, .inl (cI, 6156, .inl fP)), (bq, .inl (cI, 3, .inl fB)), (cq, .inl (cJ, 64, .inr (.inl fC))), (pq, .inl (cI, 8, .inl fT))] H := hP
            have hD : va_D A [(q, .inr (7, [.ref mq, .ref zq, .ref sq, .ref bq, .ref cq, .long sm, .ref pq, .int ps, .int th'_46])), (mq, .inl (cZ, 12288, .inl fM)), (zq, .inl (cI, 3, .inl fS)), (sq, .inl (cI, 6156, .inl fP)), (bq, .inl (cI, 3, .inl fB)), (cq, .inl (cJ, 64, .inr (.inl fC))), (pq, .inl (cI, 8, .inl fT))] := hD
            obtain ⟨he, hw_43⟩ := hw_43
            subst he
            have hth := hw_43
            refine lv_cvi (rfl) ?_
            refine lv_if_ne (tgt := 77) hx hb dX8_insertRange_72 (by decide) (fun qc_47 => ?_) (fun qc_47 => ?_)
            · have c_47 : false = true := b2i_t qc_47
              cases c_47
            · have c_47 : false = false := b2i_f qc_47
              refine lv_iconst (v := nI 0) hx hb dX8_insertRange_75 (by decide +kernel) ?_
              have hP9 := hP.sub (ws' := [(q, .inr (7, [.ref mq, .ref zq, .ref sq, .ref bq, .ref cq, .long sm, .ref pq, .int ps, .int th'_46])), (mq, .inl (cZ, 12288, .inl fM)), (zq, .inl (cI, 3, .inl fS)), (sq, .inl (cI, 6156, .inl fP)), (bq, .inl (cI, 3, .inl fB)), (cq, .inl (cJ, 64, .inr (.inl fC))), (pq, .inl (cI, 8, .inl fT))]) [0, 1, 2, 3, 4, 5, 6] rfl
              have hD9 := hD.sub (ws' := [(q, .inr (7, [.ref mq, .ref zq, .ref sq, .ref bq, .ref cq, .long sm, .ref pq, .int ps, .int th'_46])), (mq, .inl (cZ, 12288, .inl fM)), (zq, .inl (cI, 3, .inl fS)), (sq, .inl (cI, 6156, .inl fP)), (bq, .inl (cI, 3, .inl fB)), (cq, .inl (cJ, 64, .inr (.inl fC))), (pq, .inl (cI, 8, .inl fT))]) [0, 1, 2, 3, 4, 5, 6] (by decide) rfl
              have hK9 := hK.sub (tys' := [(cZ, .boolean), (cI, .int), (cJ, .long)]) [0, 1, 2] rfl
              exact W.iret (v := nI 0) hx hb hr (fun t9 ht hW => ⟨⟨nI 0, th'_46, rfl, hth, by rw [ht]; exact hP9, va_K.moved hW.alike hK9, hD9⟩, hS.F ht⟩) hS.2.2 dX8_insertRange_76
set_option maxHeartbeats 4000000 in
set_option maxRecDepth 100000 in
/-- reference: c_X8_insertRange_n -/
theorem c_X8_insertRange_n (l : Launch) (dC : Nat → ClassId) (dI : Nat → Nat → Nat) (q : Nat) (mq : Nat) (zq : Nat) (sq : Nat) (bq : Nat) (cq : Nat) (pq : Nat) (cZ : ClassId) (cI : ClassId) (cJ : ClassId) (fM : Nat → Int32) (fS : Nat → Int32) (fP : Nat → Int32) (fB : Nat → Int32) (fC : Nat → Int64) (sm : Int64) (fT : Nat → Int32) (ps : Int32) (th : Int32) (k : Nat) (f : Int32) (d : Int32) (n : Int32) (sz : Nat) (hk : k < 3) (hW : rngB f d n = false) : Met l yX8_insertRange wsX8_insertRange ({ frames := 2, cells := 0, slots := 0, locals := 42 }) (va_Pc [.ref q, .int (nI k), .int f, .int d, .int n] (fun U => U.heap.size = sz ∧ va_P (dC, dI) vwCl [(q, .inr (7, [.ref mq, .ref zq, .ref sq, .ref bq, .ref cq, .long sm, .ref pq, .int ps, .int th])), (mq, .inl (cZ, 12288, .inl fM)), (zq, .inl (cI, 3, .inl fS)), (sq, .inl (cI, 6156, .inl fP)), (bq, .inl (cI, 3, .inl fB)), (cq, .inl (cJ, 64, .inr (.inl fC))), (pq, .inl (cI, 8, .inl fT))] U.heap ∧ va_K (dC, dI) vwCl [(cZ, .boolean), (cI, .int), (cJ, .long)] U ∧ va_D (fun _ => True) [(q, .inr (7, [.ref mq, .ref zq, .ref sq, .ref bq, .ref cq, .long sm, .ref pq, .int ps, .int th])), (mq, .inl (cZ, 12288, .inl fM)), (zq, .inl (cI, 3, .inl fS)), (sq, .inl (cI, 6156, .inl fP)), (bq, .inl (cI, 3, .inl fB)), (cq, .inl (cJ, 64, .inr (.inl fC))), (pq, .inl (cI, 8, .inl fT))])) (va_Qi (fun (r : Int32) (u : Int32) => u = nI 2) (fun (u : Int32) (t : State) => va_P (dC, dI) vwCl [(q, .inr (7, [.ref mq, .ref zq, .ref sq, .ref bq, .ref cq, .long sm, .ref pq, .int ps, .int u])), (mq, .inl (cZ, 12288, .inl fM)), (zq, .inl (cI, 3, .inl fS)), (sq, .inl (cI, 6156, .inl fP)), (bq, .inl (cI, 3, .inl fB)), (cq, .inl (cJ, 64, .inr (.inl fC))), (pq, .inl (cI, 8, .inl fT))] t.heap ∧ va_K (dC, dI) vwCl [(cZ, .boolean), (cI, .int), (cJ, .long)] t ∧ va_D (va_A [(q, .inr (7, [.ref mq, .ref zq, .ref sq, .ref bq, .ref cq, .long sm, .ref pq, .int ps, .int th])), (mq, .inl (cZ, 12288, .inl fM)), (zq, .inl (cI, 3, .inl fS)), (sq, .inl (cI, 6156, .inl fP)), (bq, .inl (cI, 3, .inl fB)), (cq, .inl (cJ, 64, .inr (.inl fC))), (pq, .inl (cI, 8, .inl fT))] sz) [(q, .inr (7, [.ref mq, .ref zq, .ref sq, .ref bq, .ref cq, .long sm, .ref pq, .int ps, .int u])), (mq, .inl (cZ, 12288, .inl fM)), (zq, .inl (cI, 3, .inl fS)), (sq, .inl (cI, 6156, .inl fP)), (bq, .inl (cI, 3, .inl fB)), (cq, .inl (cJ, 64, .inr (.inl fC))), (pq, .inl (cI, 8, .inl fT))]) (va_A [(q, .inr (7, [.ref mq, .ref zq, .ref sq, .ref bq, .ref cq, .long sm, .ref pq, .int ps, .int th])), (mq, .inl (cZ, 12288, .inl fM)), (zq, .inl (cI, 3, .inl fS)), (sq, .inl (cI, 6156, .inl fP)), (bq, .inl (cI, 3, .inl fB)), (cq, .inl (cJ, 64, .inr (.inl fC))), (pq, .inl (cI, 8, .inl fT))] sz)) 0 0 (va_A [(q, .inr (7, [.ref mq, .ref zq, .ref sq, .ref bq, .ref cq, .long sm, .ref pq, .int ps, .int th])), (mq, .inl (cZ, 12288, .inl fM)), (zq, .inl (cI, 3, .inl fS)), (sq, .inl (cI, 6156, .inl fP)), (bq, .inl (cI, 3, .inl fB)), (cq, .inl (cJ, 64, .inr (.inl fC))), (pq, .inl (cI, 8, .inl fT))] sz) := by
  refine Met.ofW (cc := cX8_insertRange) (maxL := 8) (ret := (some .int)) (by decide) rfl ?_
  intro p e s m args below meth c s₁ B hml hv
  obtain ⟨rfl, hsz, hP, hK, hD0⟩ := hv
  have hx := B.exec
  have hb := B.bytes
  have hr := B.returns
  have hts := atoms_spec (ws := wsX8_insertRange) B.pre
  have hown : s.vm.findClass RX8 = some m.cls := findClass_of_methodNamed B.named
  have hlocks := B.notSynchronized
  subst hsz
  have hD := hD0.self (sz := s.heap.size)
  generalize hAe : va_A [(q, .inr (7, [.ref mq, .ref zq, .ref sq, .ref bq, .ref cq, .long sm, .ref pq, .int ps, .int th])), (mq, .inl (cZ, 12288, .inl fM)), (zq, .inl (cI, 3, .inl fS)), (sq, .inl (cI, 6156, .inl fP)), (bq, .inl (cI, 3, .inl fB)), (cq, .inl (cJ, 64, .inr (.inl fC))), (pq, .inl (cI, 8, .inl fT))] s.heap.size = A at hD ⊢
  have hA : ∀ q : Nat, s.heap.size ≤ q → A q := fun q h => by rw [← hAe]; exact Or.inr h
  have hS : va_S A s.heap s.heap [] := va_S.rf
  have hP : va_P (dC, dI) vwCl [(q, .inr (7, [.ref mq, .ref zq, .ref sq, .ref bq, .ref cq, .long sm, .ref pq, .int ps, .int th])), (mq, .inl (cZ, 12288, .inl fM)), (zq, .inl (cI, 3, .inl fS)), (sq, .inl (cI, 6156, .inl fP)), (bq, .inl (cI, 3, .inl fB)), (cq, .inl (cJ, 64, .inr (.inl fC))), (pq, .inl (cI, 8, .inl fT))] s.heap := hP
  have hl := lv_entry ([.ref q, .int (nI k), .int f, .int d, .int n]) (n := 8) (Nat.le_of_ble_eq_true rfl)
  rw [lg_entry_eq]
  generalize (lg_sl ([.ref q, .int (nI k), .int f, .int d, .int n]) ++ List.replicate (8 - (lg_sl ([.ref q, .int (nI k), .int f, .int d, .int n])).length) Slot.unset).toArray = ls at hl ⊢
  have hl : lv_has ls 8 [(0, .ref q), (1, .int (nI k)), (2, .int f), (3, .int d), (4, .int n)] := hl
  refine lv_iload_n hx hb dX8_insertRange_0 rfl (lv_at hl 2 rfl) ?_
  refine lv_iconst (v := nI 0) hx hb dX8_insertRange_1 (by decide +kernel) ?_
  refine lv_sipush (v := nI 4095) hx hb dX8_insertRange_2 (by decide +kernel) ?_
  have hPc := hP.sub (ws' := []) [] rfl
  have hKc := hK.sub (tys' := []) [] rfl
  refine vp_callSi (W.runS (As := [.int f, .int (nI 0), .int (nI 4095)]) (rest := []) ⟨hx, hb, hml, hown, hts⟩ (c_X8_in l dC dI f (nI 0) (nI 4095) ) (va_cwS 3 hts gX8_insertRange_X8_in rfl rfl rfl (by decide +kernel) ⟨Nat.le_of_ble_eq_true rfl, Nat.le_of_ble_eq_true rfl⟩) ⟨fun a U g mk q => by obtain ⟨q0, qP, qK⟩ := q; exact ⟨q0, qP, va_K.moved (u := U) (U := U.calling g mk a) (Vm.Alike.refl U.vm) qK⟩, fun U hU hW => ⟨rfl, by rw [hU]; exact hPc, va_K.moved hW.alike hKc⟩⟩ rfl rfl hl.1 rfl (lv_room (Nat.le_of_ble_eq_true rfl)) dX8_insertRange_5 ⟨Nat.le_of_ble_eq_true rfl, Nat.le_of_ble_eq_true rfl⟩) (fun r_2 hw_1 => ?_)
  subst hw_1
  refine lv_if_eq (tgt := 37) hx hb dX8_insertRange_8 (by decide) (fun qc_3 => ?_) (fun qc_3 => ?_)
  · have c_3 : (decide ((nI 0) ≤ f ∧ f ≤ (nI 4095))) = false := b2i_f qc_3
    refine lv_iconst (v := nI 0) hx hb dX8_insertRange_37 (by decide +kernel) ?_
    refine lv_cvi ((rfl : nI 0 = b2i false)) ?_
    refine lv_istore (lv' := [(5, .int (b2i false)), (0, .ref q), (1, .int (nI k)), (2, .int f), (3, .int d), (4, .int n)]) hx hb dX8_insertRange_38 hl (by decide) rfl (fun ls hl => ?_)
    refine lv_aload_n hx hb dX8_insertRange_40 rfl (lv_at hl 1 rfl) ?_
    refine lv_iload_n hx hb dX8_insertRange_41 rfl (lv_at hl 2 rfl) ?_
    have hPc := hP.sub (ws' := []) [] rfl
    have hKc := hK.sub (tys' := []) [] rfl
    refine vp_callSi (W.runS (As := [.int (nI k)]) (rest := [.ref q]) ⟨hx, hb, hml, hown, hts⟩ (c_X8_isSet l dC dI (nI k) ) (va_cwS 1 hts gX8_insertRange_X8_isSet rfl rfl rfl (by decide +kernel) ⟨Nat.le_of_ble_eq_true rfl, Nat.le_of_ble_eq_true rfl⟩) ⟨fun a U g mk q => by obtain ⟨q0, qP, qK⟩ := q; exact ⟨q0, qP, va_K.moved (u := U) (U := U.calling g mk a) (Vm.Alike.refl U.vm) qK⟩, fun U hU hW => ⟨rfl, by rw [hU]; exact hPc, va_K.moved hW.alike hKc⟩⟩ rfl rfl hl.1 rfl (lv_room (Nat.le_of_ble_eq_true rfl)) dX8_insertRange_42 ⟨Nat.le_of_ble_eq_true rfl, Nat.le_of_ble_eq_true rfl⟩) (fun r_5 hw_4 => ?_)
    subst hw_4
    refine lv_cvi (congrArg b2i (isS_t hk)) ?_
    refine lv_iload hx hb dX8_insertRange_45 (lv_at hl 0 rfl) ?_
    refine lv_if_eq (tgt := 68) hx hb dX8_insertRange_47 (by decide) (fun qc_6 => ?_) (fun qc_6 => ?_)
    · have c_6 : false = false := b2i_f qc_6
      refine lv_iconst (v := nI 0) hx hb dX8_insertRange_68 (by decide +kernel) ?_
      refine lv_cvi ((rfl : nI 0 = b2i false)) ?_
      have hPc := hP.sub (ws' := [(q, .inr (7, [.ref mq, .ref zq, .ref sq, .ref bq, .ref cq, .long sm, .ref pq, .int ps, .int th])), (mq, .inl (cZ, 12288, .inl fM)), (zq, .inl (cI, 3, .inl fS)), (sq, .inl (cI, 6156, .inl fP)), (bq, .inl (cI, 3, .inl fB)), (cq, .inl (cJ, 64, .inr (.inl fC))), (pq, .inl (cI, 8, .inl fT))]) [0, 1, 2, 3, 4, 5, 6] rfl
      have hKc := hK.sub (tys' := [(cZ, .boolean), (cI, .int), (cJ, .long)]) [0, 1, 2] rfl
      have hDc := hD.sub (ws' := [(q, .inr (7, [.ref mq, .ref zq, .ref sq, .ref bq, .ref cq, .long sm, .ref pq, .int ps, .int th])), (mq, .inl (cZ, 12288, .inl fM)), (zq, .inl (cI, 3, .inl fS)), (sq, .inl (cI, 6156, .inl fP)), (bq, .inl (cI, 3, .inl fB)), (cq, .inl (cJ, 64, .inr (.inl fC))), (pq, .inl (cI, 8, .inl fT))]) [0, 1, 2, 3, 4, 5, 6] (by decide) rfl
      have hFc := va_free (wc := [(q, .inr (7, [.ref mq, .ref zq, .ref sq, .ref bq, .ref cq, .long sm, .ref pq, .int ps, .int th])), (mq, .inl (cZ, 12288, .inl fM)), (zq, .inl (cI, 3, .inl fS)), (sq, .inl (cI, 6156, .inl fP)), (bq, .inl (cI, 3, .inl fB)), (cq, .inl (cJ, 64, .inr (.inl fC))), (pq, .inl (cI, 8, .inl fT))]) hD hS hA [0, 1, 2, 3, 4, 5, 6] rfl
      refine va_calli (va_runV (As := [.int (b2i true), .int (b2i false)]) (rest := []) ⟨hx, hb, hml, hown, hts⟩ (c_X8_asked_ l dC dI q mq zq sq bq cq pq cZ cI cJ fM fS fP fB fC sm fT ps th true false s.heap.size ) (cwV 2 hts gX8_insertRange_X8_asked_ rfl rfl rfl (by decide +kernel) ⟨Nat.le_of_ble_eq_true rfl, Nat.le_of_ble_eq_true rfl⟩) ⟨fun a U g mk q => by obtain ⟨q0, q1, qP, qK, qD⟩ := q; exact ⟨q0, q1, qP, va_K.moved (u := U) (U := U.calling g mk a) (Vm.Alike.refl U.vm) qK, qD⟩, va_recv hKc hPc (ci := 7) (q0 := 0) rfl rfl, fun U hU hW => ⟨rfl, by rw [hU], by rw [hU]; exact hPc, va_K.moved hW.alike hKc, hDc.weaken (fun _ _ _ _ => trivial)⟩⟩ rfl rfl hl.1 rfl (lv_room (Nat.le_of_ble_eq_true rfl)) dX8_insertRange_69 ⟨Nat.le_of_ble_eq_true rfl, Nat.le_of_ble_eq_true rfl⟩) hS (fun q _ h => hFc q h) hFc (fun r_9 u_8 t9 H1 locs ht hvm hw_7 hB hz1 hk1 hS => ?_)
      obtain ⟨th'_10, rfl⟩ : ∃ z, z = u_8 := ⟨_, rfl⟩
      obtain ⟨hP1, hK1, hD1⟩ := hB
      rw [ht] at hP1
      have hK1 := va_K.moved hvm.symm hK1
      try dsimp only at hw_7 hP1 hK1 hD1
      obtain ⟨hP, hD⟩ := va_join (wr := []) (w1 := [(q, .inr (7, [.ref mq, .ref zq, .ref sq, .ref bq, .ref cq, .long sm, .ref pq, .int ps, .int th'_10])), (mq, .inl (cZ, 12288, .inl fM)), (zq, .inl (cI, 3, .inl fS)), (sq, .inl (cI, 6156, .inl fP)), (bq, .inl (cI, 3, .inl fB)), (cq, .inl (cJ, 64, .inr (.inl fC))), (pq, .inl (cI, 8, .inl fT))]) hP hD [0, 1, 2, 3, 4, 5, 6] [] rfl rfl (by decide) (by decide) hk1 hFc hP1 hD1
      generalize H1 = H at hP hS ⊢
      have hP : va_P (dC, dI) vwCl [(q, .inr (7, [.ref mq, .ref zq, .ref sq, .ref bq, .ref cq, .long sm, .ref pq, .int ps, .int th'_10])), (mq, .inl (cZ, 12288, .inl fM)), (zq, .inl (cI, 3, .inl fS)), (sq, .inl (cI, 6156, .inl fP)), (bq, .inl (cI, 3, .inl fB)), (cq, .inl (cJ, 64, .inr (.inl fC))), (pq, .inl (cI, 8, .inl fT))] H := hP
      have hD : va_D A [(q, .inr (7, [.ref mq, .ref zq, .ref sq, .ref bq, .ref cq, .long sm, .ref pq, .int ps, .int th'_10])), (mq, .inl (cZ, 12288, .inl fM)), (zq, .inl (cI, 3, .inl fS)), (sq, .inl (cI, 6156, .inl fP)), (bq, .inl (cI, 3, .inl fB)), (cq, .inl (cJ, 64, .inr (.inl fC))), (pq, .inl (cI, 8, .inl fT))] := hD
      obtain ⟨he, hw_7⟩ := hw_7
      subst he
      have hth := hw_7
      refine lv_cvi (rfl) ?_
      refine lv_if_ne (tgt := 77) hx hb dX8_insertRange_72 (by decide) (fun qc_11 => ?_) (fun qc_11 => ?_)
      · have c_11 : false = true := b2i_t qc_11
        cases c_11
      · have c_11 : false = false := b2i_f qc_11
        refine lv_iconst (v := nI 0) hx hb dX8_insertRange_75 (by decide +kernel) ?_
        have hP9 := hP.sub (ws' := [(q, .inr (7, [.ref mq, .ref zq, .ref sq, .ref bq, .ref cq, .long sm, .ref pq, .int ps, .int th'_10])), (mq, .inl (cZ, 12288, .inl fM)), (zq, .inl (cI, 3, .inl fS)), (sq, .inl (cI, 6156, .inl fP)), (bq, .inl (cI, 3, .inl fB)), (cq, .inl (cJ, 64, .inr (.inl fC))), (pq, .inl (cI, 8, .inl fT))]) [0, 1, 2, 3, 4, 5, 6] rfl
        have hD9 := hD.sub (ws' := [(q, .inr (7, [.ref mq, .ref zq, .ref sq, .ref bq, .ref cq, .long sm, .ref pq, .int ps, .int th'_10])), (mq, .inl (cZ, 12288, .inl fM)), (zq, .inl (cI, 3, .inl fS)), (sq, .inl (cI, 6156, .inl fP)), (bq, .inl (cI, 3, .inl fB)), (cq, .inl (cJ, 64, .inr (.inl fC))), (pq, .inl (cI, 8, .inl fT))]) [0, 1, 2, 3, 4, 5, 6] (by decide) rfl
        have hK9 := hK.sub (tys' := [(cZ, .boolean), (cI, .int), (cJ, .long)]) [0, 1, 2] rfl
        exact W.iret (v := nI 0) hx hb hr (fun t9 ht hW => ⟨⟨nI 0, th'_10, rfl, hth, by rw [ht]; exact hP9, va_K.moved hW.alike hK9, hD9⟩, hS.F ht⟩) hS.2.2 dX8_insertRange_76
    · have c_6 : false = true := b2i_t qc_6
      cases c_6
  · have c_3 : (decide ((nI 0) ≤ f ∧ f ≤ (nI 4095))) = true := b2i_t qc_3
    refine lv_iload_n hx hb dX8_insertRange_11 rfl (lv_at hl 3 rfl) ?_
    refine lv_iconst (v := nI 1) hx hb dX8_insertRange_12 (by decide +kernel) ?_
    refine lv_sipush (v := nI 1000) hx hb dX8_insertRange_13 (by decide +kernel) ?_
    have hPc := hP.sub (ws' := []) [] rfl
    have hKc := hK.sub (tys' := []) [] rfl
    refine vp_callSi (W.runS (As := [.int d, .int (nI 1), .int (nI 1000)]) (rest := []) ⟨hx, hb, hml, hown, hts⟩ (c_X8_in l dC dI d (nI 1) (nI 1000) ) (va_cwS 3 hts gX8_insertRange_X8_in rfl rfl rfl (by decide +kernel) ⟨Nat.le_of_ble_eq_true rfl, Nat.le_of_ble_eq_true rfl⟩) ⟨fun a U g mk q => by obtain ⟨q0, qP, qK⟩ := q; exact ⟨q0, qP, va_K.moved (u := U) (U := U.calling g mk a) (Vm.Alike.refl U.vm) qK⟩, fun U hU hW => ⟨rfl, by rw [hU]; exact hPc, va_K.moved hW.alike hKc⟩⟩ rfl rfl hl.1 rfl (lv_room (Nat.le_of_ble_eq_true rfl)) dX8_insertRange_16 ⟨Nat.le_of_ble_eq_true rfl, Nat.le_of_ble_eq_true rfl⟩) (fun r_13 hw_12 => ?_)
    subst hw_12
    refine lv_if_eq (tgt := 37) hx hb dX8_insertRange_19 (by decide) (fun qc_14 => ?_) (fun qc_14 => ?_)
    · have c_14 : (decide ((nI 1) ≤ d ∧ d ≤ (nI 1000))) = false := b2i_f qc_14
      refine lv_iconst (v := nI 0) hx hb dX8_insertRange_37 (by decide +kernel) ?_
      refine lv_cvi ((rfl : nI 0 = b2i false)) ?_
      refine lv_istore (lv' := [(5, .int (b2i false)), (0, .ref q), (1, .int (nI k)), (2, .int f), (3, .int d), (4, .int n)]) hx hb dX8_insertRange_38 hl (by decide) rfl (fun ls hl => ?_)
      refine lv_aload_n hx hb dX8_insertRange_40 rfl (lv_at hl 1 rfl) ?_
      refine lv_iload_n hx hb dX8_insertRange_41 rfl (lv_at hl 2 rfl) ?_
      have hPc := hP.sub (ws' := []) [] rfl
      have hKc := hK.sub (tys' := []) [] rfl
      refine vp_callSi (W.runS (As := [.int (nI k)]) (rest := [.ref q]) ⟨hx, hb, hml, hown, hts⟩ (c_X8_isSet l dC dI (nI k) ) (va_cwS 1 hts gX8_insertRange_X8_isSet rfl rfl rfl (by decide +kernel) ⟨Nat.le_of_ble_eq_true rfl, Nat.le_of_ble_eq_true rfl⟩) ⟨fun a U g mk q => by obtain ⟨q0, qP, qK⟩ := q; exact ⟨q0, qP, va_K.moved (u := U) (U := U.calling g mk a) (Vm.Alike.refl U.vm) qK⟩, fun U hU hW => ⟨rfl, by rw [hU]; exact hPc, va_K.moved hW.alike hKc⟩⟩ rfl rfl hl.1 rfl (lv_room (Nat.le_of_ble_eq_true rfl)) dX8_insertRange_42 ⟨Nat.le_of_ble_eq_true rfl, Nat.le_of_ble_eq_true rfl⟩) (fun r_16 hw_15 => ?_)
      subst hw_15
      refine lv_cvi (congrArg b2i (isS_t hk)) ?_
      refine lv_iload hx hb dX8_insertRange_45 (lv_at hl 0 rfl) ?_
      refine lv_if_eq (tgt := 68) hx hb dX8_insertRange_47 (by decide) (fun qc_17 => ?_) (fun qc_17 => ?_)
      · have c_17 : false = false := b2i_f qc_17
        refine lv_iconst (v := nI 0) hx hb dX8_insertRange_68 (by decide +kernel) ?_
        refine lv_cvi ((rfl : nI 0 = b2i false)) ?_
        have hPc := hP.sub (ws' := [(q, .inr (7, [.ref mq, .ref zq, .ref sq, .ref bq, .ref cq, .long sm, .ref pq, .int ps, .int th])), (mq, .inl (cZ, 12288, .inl fM)), (zq, .inl (cI, 3, .inl fS)), (sq, .inl (cI, 6156, .inl fP)), (bq, .inl (cI, 3, .inl fB)), (cq, .inl (cJ, 64, .inr (.inl fC))), (pq, .inl (cI, 8, .inl fT))]) [0, 1, 2, 3, 4, 5, 6] rfl
        have hKc := hK.sub (tys' := [(cZ, .boolean), (cI, .int), (cJ, .long)]) [0, 1, 2] rfl
        have hDc := hD.sub (ws' := [(q, .inr (7, [.ref mq, .ref zq, .ref sq, .ref bq, .ref cq, .long sm, .ref pq, .int ps, .int th])), (mq, .inl (cZ, 12288, .inl fM)), (zq, .inl (cI, 3, .inl fS)), (sq, .inl (cI, 6156, .inl fP)), (bq, .inl (cI, 3, .inl fB)), (cq, .inl (cJ, 64, .inr (.inl fC))), (pq, .inl (cI, 8, .inl fT))]) [0, 1, 2, 3, 4, 5, 6] (by decide) rfl
        have hFc := va_free (wc := [(q, .inr (7, [.ref mq, .ref zq, .ref sq, .ref bq, .ref cq, .long sm, .ref pq, .int ps, .int th])), (mq, .inl (cZ, 12288, .inl fM)), (zq, .inl (cI, 3, .inl fS)), (sq, .inl (cI, 6156, .inl fP)), (bq, .inl (cI, 3, .inl fB)), (cq, .inl (cJ, 64, .inr (.inl fC))), (pq, .inl (cI, 8, .inl fT))]) hD hS hA [0, 1, 2, 3, 4, 5, 6] rfl
        refine va_calli (va_runV (As := [.int (b2i true), .int (b2i false)]) (rest := []) ⟨hx, hb, hml, hown, hts⟩ (c_X8_asked_ l dC dI q mq zq sq bq cq pq cZ cI cJ fM fS fP fB fC sm fT ps th true false s.heap.size ) (cwV 2 hts gX8_insertRange_X8_asked_ rfl rfl rfl (by decide +kernel) ⟨Nat.le_of_ble_eq_true rfl, Nat.le_of_ble_eq_true rfl⟩) ⟨fun a U g mk q => by obtain ⟨q0, q1, qP, qK, qD⟩ := q; exact ⟨q0, q1, qP, va_K.moved (u := U) (U := U.calling g mk a) (Vm.Alike.refl U.vm) qK, qD⟩, va_recv hKc hPc (ci := 7) (q0 := 0) rfl rfl, fun U hU hW => ⟨rfl, by rw [hU], by rw [hU]; exact hPc, va_K.moved hW.alike hKc, hDc.weaken (fun _ _ _ _ => trivial)⟩⟩ rfl rfl hl.1 rfl (lv_room (Nat.le_of_ble_eq_true rfl)) dX8_insertRange_69 ⟨Nat.le_of_ble_eq_true rfl, Nat.le_of_ble_eq_true rfl⟩) hS (fun q _ h => hFc q h) hFc (fun r_20 u_19 t9 H1 locs ht hvm hw_18 hB hz1 hk1 hS => ?_)
        obtain ⟨th'_21, rfl⟩ : ∃ z, z = u_19 := ⟨_, rfl⟩
        obtain ⟨hP1, hK1, hD1⟩ := hB
        rw [ht] at hP1
        have hK1 := va_K.moved hvm.symm hK1
        try dsimp only at hw_18 hP1 hK1 hD1
        obtain ⟨hP, hD⟩ := va_join (wr := []) (w1 := [(q, .inr (7, [.ref mq, .ref zq, .ref sq, .ref bq, .ref cq, .long sm, .ref pq, .int ps, .int th'_21])), (mq, .inl (cZ, 12288, .inl fM)), (zq, .inl (cI, 3, .inl fS)), (sq, .inl (cI, 6156, .inl fP)), (bq, .inl (cI, 3, .inl fB)), (cq, .inl (cJ, 64, .inr (.inl fC))), (pq, .inl (cI, 8, .inl fT))]) hP hD [0, 1, 2, 3, 4, 5, 6] [] rfl rfl (by decide) (by decide) hk1 hFc hP1 hD1
        generalize H1 = H at hP hS ⊢
        have hP : va_P (dC, dI) vwCl [(q, .inr (7, [.ref mq, .ref zq, .ref sq, .ref bq, .ref cq, .long sm, .ref pq, .int ps, .int th'_21])), (mq, .inl (cZ, 12288, .inl fM)), (zq, .inl (cI, 3, .inl fS)), (sq, .inl (cI, 6156, .inl fP)), (bq, .inl (cI, 3, .inl fB)), (cq, .inl (cJ, 64, .inr (.inl fC))), (pq, .inl (cI, 8, .inl fT))] H := hP
        have hD : va_D A [(q, .inr (7, [.ref mq, .ref zq, .ref sq, .ref bq, .ref cq, .long sm, .ref pq, .int ps, .int th'_21])), (mq, .inl (cZ, 12288, .inl fM)), (zq, .inl (cI, 3, .inl fS)), (sq, .inl (cI, 6156, .inl fP)), (bq, .inl (cI, 3, .inl fB)), (cq, .inl (cJ, 64, .inr (.inl fC))), (pq, .inl (cI, 8, .inl fT))] := hD
        obtain ⟨he, hw_18⟩ := hw_18
        subst he
        have hth := hw_18
        refine lv_cvi (rfl) ?_
        refine lv_if_ne (tgt := 77) hx hb dX8_insertRange_72 (by decide) (fun qc_22 => ?_) (fun qc_22 => ?_)
        · have c_22 : false = true := b2i_t qc_22
          cases c_22
        · have c_22 : false = false := b2i_f qc_22
          refine lv_iconst (v := nI 0) hx hb dX8_insertRange_75 (by decide +kernel) ?_
          have hP9 := hP.sub (ws' := [(q, .inr (7, [.ref mq, .ref zq, .ref sq, .ref bq, .ref cq, .long sm, .ref pq, .int ps, .int th'_21])), (mq, .inl (cZ, 12288, .inl fM)), (zq, .inl (cI, 3, .inl fS)), (sq, .inl (cI, 6156, .inl fP)), (bq, .inl (cI, 3, .inl fB)), (cq, .inl (cJ, 64, .inr (.inl fC))), (pq, .inl (cI, 8, .inl fT))]) [0, 1, 2, 3, 4, 5, 6] rfl
          have hD9 := hD.sub (ws' := [(q, .inr (7, [.ref mq, .ref zq, .ref sq, .ref bq, .ref cq, .long sm, .ref pq, .int ps, .int th'_21])), (mq, .inl (cZ, 12288, .inl fM)), (zq, .inl (cI, 3, .inl fS)), (sq, .inl (cI, 6156, .inl fP)), (bq, .inl (cI, 3, .inl fB)), (cq, .inl (cJ, 64, .inr (.inl fC))), (pq, .inl (cI, 8, .inl fT))]) [0, 1, 2, 3, 4, 5, 6] (by decide) rfl
          have hK9 := hK.sub (tys' := [(cZ, .boolean), (cI, .int), (cJ, .long)]) [0, 1, 2] rfl
          exact W.iret (v := nI 0) hx hb hr (fun t9 ht hW => ⟨⟨nI 0, th'_21, rfl, hth, by rw [ht]; exact hP9, va_K.moved hW.alike hK9, hD9⟩, hS.F ht⟩) hS.2.2 dX8_insertRange_76
      · have c_17 : false = true := b2i_t qc_17
        cases c_17
    · have c_14 : (decide ((nI 1) ≤ d ∧ d ≤ (nI 1000))) = true := b2i_t qc_14
      refine lv_iload hx hb dX8_insertRange_22 (lv_at hl 4 rfl) ?_
      refine lv_iconst (v := nI 1) hx hb dX8_insertRange_24 (by decide +kernel) ?_
      refine lv_bipush (v := nI 30) hx hb dX8_insertRange_25 (by decide +kernel) ?_
      have hPc := hP.sub (ws' := []) [] rfl
      have hKc := hK.sub (tys' := []) [] rfl
      refine vp_callSi (W.runS (As := [.int n, .int (nI 1), .int (nI 30)]) (rest := []) ⟨hx, hb, hml, hown, hts⟩ (c_X8_in l dC dI n (nI 1) (nI 30) ) (va_cwS 3 hts gX8_insertRange_X8_in rfl rfl rfl (by decide +kernel) ⟨Nat.le_of_ble_eq_true rfl, Nat.le_of_ble_eq_true rfl⟩) ⟨fun a U g mk q => by obtain ⟨q0, qP, qK⟩ := q; exact ⟨q0, qP, va_K.moved (u := U) (U := U.calling g mk a) (Vm.Alike.refl U.vm) qK⟩, fun U hU hW => ⟨rfl, by rw [hU]; exact hPc, va_K.moved hW.alike hKc⟩⟩ rfl rfl hl.1 rfl (lv_room (Nat.le_of_ble_eq_true rfl)) dX8_insertRange_27 ⟨Nat.le_of_ble_eq_true rfl, Nat.le_of_ble_eq_true rfl⟩) (fun r_24 hw_23 => ?_)
      subst hw_23
      refine lv_if_eq (tgt := 37) hx hb dX8_insertRange_30 (by decide) (fun qc_25 => ?_) (fun qc_25 => ?_)
      · have c_25 : (decide ((nI 1) ≤ n ∧ n ≤ (nI 30))) = false := b2i_f qc_25
        refine lv_iconst (v := nI 0) hx hb dX8_insertRange_37 (by decide +kernel) ?_
        refine lv_cvi ((rfl : nI 0 = b2i false)) ?_
        refine lv_istore (lv' := [(5, .int (b2i false)), (0, .ref q), (1, .int (nI k)), (2, .int f), (3, .int d), (4, .int n)]) hx hb dX8_insertRange_38 hl (by decide) rfl (fun ls hl => ?_)
        refine lv_aload_n hx hb dX8_insertRange_40 rfl (lv_at hl 1 rfl) ?_
        refine lv_iload_n hx hb dX8_insertRange_41 rfl (lv_at hl 2 rfl) ?_
        have hPc := hP.sub (ws' := []) [] rfl
        have hKc := hK.sub (tys' := []) [] rfl
        refine vp_callSi (W.runS (As := [.int (nI k)]) (rest := [.ref q]) ⟨hx, hb, hml, hown, hts⟩ (c_X8_isSet l dC dI (nI k) ) (va_cwS 1 hts gX8_insertRange_X8_isSet rfl rfl rfl (by decide +kernel) ⟨Nat.le_of_ble_eq_true rfl, Nat.le_of_ble_eq_true rfl⟩) ⟨fun a U g mk q => by obtain ⟨q0, qP, qK⟩ := q; exact ⟨q0, qP, va_K.moved (u := U) (U := U.calling g mk a) (Vm.Alike.refl U.vm) qK⟩, fun U hU hW => ⟨rfl, by rw [hU]; exact hPc, va_K.moved hW.alike hKc⟩⟩ rfl rfl hl.1 rfl (lv_room (Nat.le_of_ble_eq_true rfl)) dX8_insertRange_42 ⟨Nat.le_of_ble_eq_true rfl, Nat.le_of_ble_eq_true rfl⟩) (fun r_27 hw_26 => ?_)
        subst hw_26
        refine lv_cvi (congrArg b2i (isS_t hk)) ?_
        refine lv_iload hx hb dX8_insertRange_45 (lv_at hl 0 rfl) ?_
        refine lv_if_eq (tgt := 68) hx hb dX8_insertRange_47 (by decide) (fun qc_28 => ?_) (fun qc_28 => ?_)
        · have c_28 : false = false := b2i_f qc_28
          refine lv_iconst (v := nI 0) hx hb dX8_insertRange_68 (by decide +kernel) ?_
          refine lv_cvi ((rfl : nI 0 = b2i false)) ?_
          have hPc := hP.sub (ws' := [(q, .inr (7, [.ref mq, .ref zq, .ref sq, .ref bq, .ref cq, .long sm, .ref pq, .int ps, .int th])), (mq, .inl (cZ, 12288, .inl fM)), (zq, .inl (cI, 3, .inl fS)), (sq, .inl (cI, 6156, .inl fP)), (bq, .inl (cI, 3, .inl fB)), (cq, .inl (cJ, 64, .inr (.inl fC))), (pq, .inl (cI, 8, .inl fT))]) [0, 1, 2, 3, 4, 5, 6] rfl
          have hKc := hK.sub (tys' := [(cZ, .boolean), (cI, .int), (cJ, .long)]) [0, 1, 2] rfl
          have hDc := hD.sub (ws' := [(q, .inr (7, [.ref mq, .ref zq, .ref sq, .ref bq, .ref cq, .long sm, .ref pq, .int ps, .int th])), (mq, .inl (cZ, 12288, .inl fM)), (zq, .inl (cI, 3, .inl fS)), (sq, .inl (cI, 6156, .inl fP)), (bq, .inl (cI, 3, .inl fB)), (cq, .inl (cJ, 64, .inr (.inl fC))), (pq, .inl (cI, 8, .inl fT))]) [0, 1, 2, 3, 4, 5, 6] (by decide) rfl
          have hFc := va_free (wc := [(q, .inr (7, [.ref mq, .ref zq, .ref sq, .ref bq, .ref cq, .long sm, .ref pq, .int ps, .int th])), (mq, .inl (cZ, 12288, .inl fM)), (zq, .inl (cI, 3, .inl fS)), (sq, .inl (cI, 6156, .inl fP)), (bq, .inl (cI, 3, .inl fB)), (cq, .inl (cJ, 64, .inr (.inl fC))), (pq, .inl (cI, 8, .inl fT))]) hD hS hA [0, 1, 2, 3, 4, 5, 6] rfl
          refine va_calli (va_runV (As := [.int (b2i true), .int (b2i false)]) (rest := []) ⟨hx, hb, hml, hown, hts⟩ (c_X8_asked_ l dC dI q mq zq sq bq cq pq cZ cI cJ fM fS fP fB fC sm fT ps th true false s.heap.size ) (cwV 2 hts gX8_insertRange_X8_asked_ rfl rfl rfl (by decide +kernel) ⟨Nat.le_of_ble_eq_true rfl, Nat.le_of_ble_eq_true rfl⟩) ⟨fun a U g mk q => by obtain ⟨q0, q1, qP, qK, qD⟩ := q; exact ⟨q0, q1, qP, va_K.moved (u := U) (U := U.calling g mk a) (Vm.Alike.refl U.vm) qK, qD⟩, va_recv hKc hPc (ci := 7) (q0 := 0) rfl rfl, fun U hU hW => ⟨rfl, by rw [hU], by rw [hU]; exact hPc, va_K.moved hW.alike hKc, hDc.weaken (fun _ _ _ _ => trivial)⟩⟩ rfl rfl hl.1 rfl (lv_room (Nat.le_of_ble_eq_true rfl)) dX8_insertRange_69 ⟨Nat.le_of_ble_eq_true rfl, Nat.le_of_ble_eq_true rfl⟩) hS (fun q _ h => hFc q h) hFc (fun r_31 u_30 t9 H1 locs ht hvm hw_29 hB hz1 hk1 hS => ?_)
          obtain ⟨th'_32, rfl⟩ : ∃ z, z = u_30 := ⟨_, rfl⟩
          obtain ⟨hP1, hK1, hD1⟩ := hB
          rw [ht] at hP1
          have hK1 := va_K.moved hvm.symm hK1
          try dsimp only at hw_29 hP1 hK1 hD1
          obtain ⟨hP, hD⟩ := va_join (wr := []) (w1 := [(q, .inr (7, [.ref mq, .ref zq, .ref sq, .ref bq, .ref cq, .long sm, .ref pq, .int ps, .int th'_32])), (mq, .inl (cZ, 12288, .inl fM)), (zq, .inl (cI, 3, .inl fS)), (sq, .inl (cI, 6156, .inl fP)), (bq, .inl (cI, 3, .inl fB)), (cq, .inl (cJ, 64, .inr (.inl fC))), (pq, .inl (cI, 8, .inl fT))]) hP hD [0, 1, 2, 3, 4, 5, 6] [] rfl rfl (by decide) (by decide) hk1 hFc hP1 hD1
          generalize H1 = H at hP hS ⊢
          have hP : va_P (dC, dI) vwCl [(q, .inr (7, [.ref mq, .ref zq, .ref sq, .ref bq, .ref cq, .long sm, .ref pq, .int ps, .int th'_32])), (mq, .inl (cZ, 12288, .inl fM)), (zq, .inl (cI, 3, .inl fS)), (sq, .inl (cI, 6156, .inl fP)), (bq, .inl (cI, 3, .inl fB)), (cq, .inl (cJ, 64, .inr (.inl fC))), (pq, .inl (cI, 8, .inl fT))] H := hP
          have hD : va_D A [(q, .inr (7, [.ref mq, .ref zq, .ref sq, .ref bq, .ref cq, .long sm, .ref pq, .int ps, .int th'_32])), (mq, .inl (cZ, 12288, .inl fM)), (zq, .inl (cI, 3, .inl fS)), (sq, .inl (cI, 6156, .inl fP)), (bq, .inl (cI, 3, .inl fB)), (cq, .inl (cJ, 64, .inr (.inl fC))), (pq, .inl (cI, 8, .inl fT))] := hD
          obtain ⟨he, hw_29⟩ := hw_29
          subst he
          have hth := hw_29
          refine lv_cvi (rfl) ?_
          refine lv_if_ne (tgt := 77) hx hb dX8_insertRange_72 (by decide) (fun qc_33 => ?_) (fun qc_33 => ?_)
          · have c_33 : false = true := b2i_t qc_33
            cases c_33
          · have c_33 : false = false := b2i_f qc_33
            refine lv_iconst (v := nI 0) hx hb dX8_insertRange_75 (by decide +kernel) ?_
            have hP9 := hP.sub (ws' := [(q, .inr (7, [.ref mq, .ref zq, .ref sq, .ref bq, .ref cq, .long sm, .ref pq, .int ps, .int th'_32])), (mq, .inl (cZ, 12288, .inl fM)), (zq, .inl (cI, 3, .inl fS)), (sq, .inl (cI, 6156, .inl fP)), (bq, .inl (cI, 3, .inl fB)), (cq, .inl (cJ, 64, .inr (.inl fC))), (pq, .inl (cI, 8, .inl fT))]) [0, 1, 2, 3, 4, 5, 6] rfl
            have hD9 := hD.sub (ws' := [(q, .inr (7, [.ref mq, .ref zq, .ref sq, .ref bq, .ref cq, .long sm, .ref pq, .int ps, .int th'_32])), (mq, .inl (cZ, 12288, .inl fM)), (zq, .inl (cI, 3, .inl fS)), (sq, .inl (cI, 6156, .inl fP)), (bq, .inl (cI, 3, .inl fB)), (cq, .inl (cJ, 64, .inr (.inl fC))), (pq, .inl (cI, 8, .inl fT))]) [0, 1, 2, 3, 4, 5, 6] (by decide) rfl
            have hK9 := hK.sub (tys' := [(cZ, .boolean), (cI, .int), (cJ, .long)]) [0, 1, 2] rfl
            exact W.iret (v := nI 0) hx hb hr (fun t9 ht hW => ⟨⟨nI 0, th'_32, rfl, hth, by rw [ht]; exact hP9, va_K.moved hW.alike hK9, hD9⟩, hS.F ht⟩) hS.2.2 dX8_insertRange_76
        · have c_28 : false = true := b2i_t qc_28
          cases c_28
      · have c_25 : (decide ((nI 1) ≤ n ∧ n ≤ (nI 30))) = true := b2i_t qc_25
        refine lv_iconst (v := nI 1) hx hb dX8_insertRange_33 (by decide +kernel) ?_
        refine lv_goto (tgt := 38) hx hb dX8_insertRange_34 (by decide) ?_
        refine lv_cvi ((rfl : nI 1 = b2i true)) ?_
        refine lv_istore (lv' := [(5, .int (b2i true)), (0, .ref q), (1, .int (nI k)), (2, .int f), (3, .int d), (4, .int n)]) hx hb dX8_insertRange_38 hl (by decide) rfl (fun ls hl => ?_)
        refine lv_aload_n hx hb dX8_insertRange_40 rfl (lv_at hl 1 rfl) ?_
        refine lv_iload_n hx hb dX8_insertRange_41 rfl (lv_at hl 2 rfl) ?_
        have hPc := hP.sub (ws' := []) [] rfl
        have hKc := hK.sub (tys' := []) [] rfl
        refine vp_callSi (W.runS (As := [.int (nI k)]) (rest := [.ref q]) ⟨hx, hb, hml, hown, hts⟩ (c_X8_isSet l dC dI (nI k) ) (va_cwS 1 hts gX8_insertRange_X8_isSet rfl rfl rfl (by decide +kernel) ⟨Nat.le_of_ble_eq_true rfl, Nat.le_of_ble_eq_true rfl⟩) ⟨fun a U g mk q => by obtain ⟨q0, qP, qK⟩ := q; exact ⟨q0, qP, va_K.moved (u := U) (U := U.calling g mk a) (Vm.Alike.refl U.vm) qK⟩, fun U hU hW => ⟨rfl, by rw [hU]; exact hPc, va_K.moved hW.alike hKc⟩⟩ rfl rfl hl.1 rfl (lv_room (Nat.le_of_ble_eq_true rfl)) dX8_insertRange_42 ⟨Nat.le_of_ble_eq_true rfl, Nat.le_of_ble_eq_true rfl⟩) (fun r_35 hw_34 => ?_)
        subst hw_34
        refine lv_cvi (congrArg b2i (isS_t hk)) ?_
        refine lv_iload hx hb dX8_insertRange_45 (lv_at hl 0 rfl) ?_
        refine lv_if_eq (tgt := 68) hx hb dX8_insertRange_47 (by decide) (fun qc_36 => ?_) (fun qc_36 => ?_)
        · have c_36 : true = false := b2i_f qc_36
          cases c_36
        · have c_36 : true = true := b2i_t qc_36
          refine lv_iload_n hx hb dX8_insertRange_50 rfl (lv_at hl 3 rfl) ?_
          refine lv_iload hx hb dX8_insertRange_51 (lv_at hl 5 rfl) ?_
          refine lv_iconst (v := nI 1) hx hb dX8_insertRange_53 (by decide +kernel) ?_
          refine lv_isub hx hb dX8_insertRange_54 ?_
          refine lv_iload_n hx hb dX8_insertRange_55 rfl (lv_at hl 4 rfl) ?_
          refine lv_imul hx hb dX8_insertRange_56 ?_
          refine lv_iadd hx hb dX8_insertRange_57 ?_
          refine lv_sipush (v := nI 4096) hx hb dX8_insertRange_58 (by decide +kernel) ?_
          refine lv_icmp_ge (tgt := 68) hx hb dX8_insertRange_61 (by decide) (fun qc_37 => ?_) (fun qc_37 => ?_)
          · refine lv_iconst (v := nI 0) hx hb dX8_insertRange_68 (by decide +kernel) ?_
            refine lv_cvi ((rfl : nI 0 = b2i false)) ?_
            have hPc := hP.sub (ws' := [(q, .inr (7, [.ref mq, .ref zq, .ref sq, .ref bq, .ref cq, .long sm, .ref pq, .int ps, .int th])), (mq, .inl (cZ, 12288, .inl fM)), (zq, .inl (cI, 3, .inl fS)), (sq, .inl (cI, 6156, .inl fP)), (bq, .inl (cI, 3, .inl fB)), (cq, .inl (cJ, 64, .inr (.inl fC))), (pq, .inl (cI, 8, .inl fT))]) [0, 1, 2, 3, 4, 5, 6] rfl
            have hKc := hK.sub (tys' := [(cZ, .boolean), (cI, .int), (cJ, .long)]) [0, 1, 2] rfl
            have hDc := hD.sub (ws' := [(q, .inr (7, [.ref mq, .ref zq, .ref sq, .ref bq, .ref cq, .long sm, .ref pq, .int ps, .int th])), (mq, .inl (cZ, 12288, .inl fM)), (zq, .inl (cI, 3, .inl fS)), (sq, .inl (cI, 6156, .inl fP)), (bq, .inl (cI, 3, .inl fB)), (cq, .inl (cJ, 64, .inr (.inl fC))), (pq, .inl (cI, 8, .inl fT))]) [0, 1, 2, 3, 4, 5, 6] (by decide) rfl
            have hFc := va_free (wc := [(q, .inr (7, [.ref mq, .ref zq, .ref sq, .ref bq, .ref cq, .long sm, .ref pq, .int ps, .int th])), (mq, .inl (cZ, 12288, .inl fM)), (zq, .inl (cI, 3, .inl fS)), (sq, .inl (cI, 6156, .inl fP)), (bq, .inl (cI, 3, .inl fB)), (cq, .inl (cJ, 64, .inr (.inl fC))), (pq, .inl (cI, 8, .inl fT))]) hD hS hA [0, 1, 2, 3, 4, 5, 6] rfl
            refine va_calli (va_runV (As := [.int (b2i true), .int (b2i false)]) (rest := []) ⟨hx, hb, hml, hown, hts⟩ (c_X8_asked_ l dC dI q mq zq sq bq cq pq cZ cI cJ fM fS fP fB fC sm fT ps th true false s.heap.size ) (cwV 2 hts gX8_insertRange_X8_asked_ rfl rfl rfl (by decide +kernel) ⟨Nat.le_of_ble_eq_true rfl, Nat.le_of_ble_eq_true rfl⟩) ⟨fun a U g mk q => by obtain ⟨q0, q1, qP, qK, qD⟩ := q; exact ⟨q0, q1, qP, va_K.moved (u := U) (U := U.calling g mk a) (Vm.Alike.refl U.vm) qK, qD⟩, va_recv hKc hPc (ci := 7) (q0 := 0) rfl rfl, fun U hU hW => ⟨rfl, by rw [hU], by rw [hU]; exact hPc, va_K.moved hW.alike hKc, hDc.weaken (fun _ _ _ _ => trivial)⟩⟩ rfl rfl hl.1 rfl (lv_room (Nat.le_of_ble_eq_true rfl)) dX8_insertRange_69 ⟨Nat.le_of_ble_eq_true rfl, Nat.le_of_ble_eq_true rfl⟩) hS (fun q _ h => hFc q h) hFc (fun r_40 u_39 t9 H1 locs ht hvm hw_38 hB hz1 hk1 hS => ?_)
            obtain ⟨th'_41, rfl⟩ : ∃ z, z = u_39 := ⟨_, rfl⟩
            obtain ⟨hP1, hK1, hD1⟩ := hB
            rw [ht] at hP1
            have hK1 := va_K.moved hvm.symm hK1
            try dsimp only at hw_38 hP1 hK1 hD1
            obtain ⟨hP, hD⟩ := va_join (wr := []) (w1 := [(q, .inr (7, [.ref mq, .ref zq, .ref sq, .ref bq, .ref cq, .long sm, .ref pq, .int ps, .int th'_41])), (mq, .inl (cZ, 12288, .inl fM)), (zq, .inl (cI, 3, .inl fS)), (sq, .inl (cI, 6156, .inl fP)), (bq, .inl (cI, 3, .inl fB)), (cq, .inl (cJ, 64, .inr (.inl fC))), (pq, .inl (cI, 8, .inl fT))]) hP hD [0, 1, 2, 3, 4, 5, 6] [] rfl rfl (by decide) (by decide) hk1 hFc hP1 hD1
            generalize H1 = H at hP hS ⊢
            have hP : va_P (dC, dI) vwCl [(q, .inr (7, [.ref mq, .ref zq, .ref sq, .ref bq, .ref cq, .long sm, .ref pq, .int ps, .int th'_41])), (mq, .inl (cZ, 12288, .inl fM)), (zq, .inl (cI, 3, .inl fS)), (sq, .inl (cI, 6156, .inl fP)), (bq, .inl (cI, 3, .inl fB)), (cq, .inl (cJ, 64, .inr (.inl fC))), (pq, .inl (cI, 8, .inl fT))] H := hP
            have hD : va_D A [(q, .inr (7, [.ref mq, .ref zq, .ref sq, .ref bq, .ref cq, .long sm, .ref pq, .int ps, .int th'_41])), (mq, .inl (cZ, 12288, .inl fM)), (zq, .inl (cI, 3, .inl fS)), (sq, .inl (cI, 6156, .inl fP)), (bq, .inl (cI, 3, .inl fB)), (cq, .inl (cJ, 64, .inr (.inl fC))), (pq, .inl (cI, 8, .inl fT))] := hD
            obtain ⟨he, hw_38⟩ := hw_38
            subst he
            have hth := hw_38
            refine lv_cvi (rfl) ?_
            refine lv_if_ne (tgt := 77) hx hb dX8_insertRange_72 (by decide) (fun qc_42 => ?_) (fun qc_42 => ?_)
            · have c_42 : false = true := b2i_t qc_42
              cases c_42
            · have c_42 : false = false := b2i_f qc_42
              refine lv_iconst (v := nI 0) hx hb dX8_insertRange_75 (by decide +kernel) ?_
              have hP9 := hP.sub (ws' := [(q, .inr (7, [.ref mq, .ref zq, .ref sq, .ref bq, .ref cq, .long sm, .ref pq, .int ps, .int th'_41])), (mq, .inl (cZ, 12288, .inl fM)), (zq, .inl (cI, 3, .inl fS)), (sq, .inl (cI, 6156, .inl fP)), (bq, .inl (cI, 3, .inl fB)), (cq, .inl (cJ, 64, .inr (.inl fC))), (pq, .inl (cI, 8, .inl fT))]) [0, 1, 2, 3, 4, 5, 6] rfl
              have hD9 := hD.sub (ws' := [(q, .inr (7, [.ref mq, .ref zq, .ref sq, .ref bq, .ref cq, .long sm, .ref pq, .int ps, .int th'_41])), (mq, .inl (cZ, 12288, .inl fM)), (zq, .inl (cI, 3, .inl fS)), (sq, .inl (cI, 6156, .inl fP)), (bq, .inl (cI, 3, .inl fB)), (cq, .inl (cJ, 64, .inr (.inl fC))), (pq, .inl (cI, 8, .inl fT))]) [0, 1, 2, 3, 4, 5, 6] (by decide) rfl
              have hK9 := hK.sub (tys' := [(cZ, .boolean), (cI, .int), (cJ, .long)]) [0, 1, 2] rfl
              exact W.iret (v := nI 0) hx hb hr (fun t9 ht hW => ⟨⟨nI 0, th'_41, rfl, hth, by rw [ht]; exact hP9, va_K.moved hW.alike hK9, hD9⟩, hS.F ht⟩) hS.2.2 dX8_insertRange_76
          · exact absurd (rngB_c c_3 c_14 c_25 qc_37) (by rw [hW]; decide)
set_option maxHeartbeats 4000000 in
set_option maxRecDepth 100000 in
/-- reference: c_X8_insertAll_v -/
theorem c_X8_insertAll_v (l : Launch) (dC : Nat → ClassId) (dI : Nat → Nat → Nat) (q : Nat) (mq : Nat) (zq : Nat) (sq : Nat) (bq : Nat) (cq : Nat) (pq : Nat) (cZ : ClassId) (cI : ClassId) (cJ : ClassId) (fM : Nat → Int32) (fS : Nat → Int32) (fP : Nat → Int32) (fB : Nat → Int32) (fC : Nat → Int64) (sm : Int64) (fT : Nat → Int32) (ps : Int32) (th : Int32) (M : Nat → Nat → Bool) (P : Nat → Nat → Bool) (k : Nat) (o : Nat) (sz : Nat) (hM : MM fM M) (hZ : MZ fS M) (hX : MX fP fB P) (hk : k < 3) (ho : o < 3) (hB : BI (M k) (P k)) (hn30 : fb_ct (M o) 4096 ≤ 30) : Met l yX8_insertAll wsX8_insertAll ({ frames := 4, cells := 0, slots := 0, locals := 94 }) (va_Pc [.ref q, .int (nI k), .int (nI o)] (fun U => U.heap.size = sz ∧ va_P (dC, dI) vwCl [(q, .inr (7, [.ref mq, .ref zq, .ref sq, .ref bq, .ref cq, .long sm, .ref pq, .int ps, .int th])), (mq, .inl (cZ, 12288, .inl fM)), (zq, .inl (cI, 3, .inl fS)), (sq, .inl (cI, 6156, .inl fP)), (bq, .inl (cI, 3, .inl fB)), (cq, .inl (cJ, 64, .inr (.inl fC))), (pq, .inl (cI, 8, .inl fT))] U.heap ∧ va_K (dC, dI) vwCl [(cZ, .boolean), (cI, .int), (cJ, .long)] U ∧ va_D (fun _ => True) [(q, .inr (7, [.ref mq, .ref zq, .ref sq, .ref bq, .ref cq, .long sm, .ref pq, .int ps, .int th])), (mq, .inl (cZ, 12288, .inl fM)), (zq, .inl (cI, 3, .inl fS)), (sq, .inl (cI, 6156, .inl fP)), (bq, .inl (cI, 3, .inl fB)), (cq, .inl (cJ, 64, .inr (.inl fC))), (pq, .inl (cI, 8, .inl fT))])) (va_Qi (fun (r : Int32) (u : (Nat → Int32) × (Nat → Int32) × (Nat → Int32) × (Nat → Int32) × Int32) => r = nI (putsC (M k) (fun j => sp (M o) j) (fb_ct (M o) 4096)) ∧ MM u.1 (upF M k (putsM (M k) (fun j => sp (M o) j) (fb_ct (M o) 4096))) ∧ MZ u.2.1 (upF M k (putsM (M k) (fun j => sp (M o) j) (fb_ct (M o) 4096))) ∧ MX u.2.2.1 u.2.2.2.1 (upF P k (putsP (M k) (P k) (fun j => sp (M o) j) (fb_ct (M o) 4096))) ∧ u.2.2.2.2 = nI 0) (fun (u : (Nat → Int32) × (Nat → Int32) × (Nat → Int32) × (Nat → Int32) × Int32) (t : State) => va_P (dC, dI) vwCl [(q, .inr (7, [.ref mq, .ref zq, .ref sq, .ref bq, .ref cq, .long sm, .ref pq, .int ps, .int u.2.2.2.2])), (mq, .inl (cZ, 12288, .inl u.1)), (zq, .inl (cI, 3, .inl u.2.1)), (sq, .inl (cI, 6156, .inl u.2.2.1)), (bq, .inl (cI, 3, .inl u.2.2.2.1)), (cq, .inl (cJ, 64, .inr (.inl fC))), (pq, .inl (cI, 8, .inl fT))] t.heap ∧ va_K (dC, dI) vwCl [(cZ, .boolean), (cI, .int), (cJ, .long)] t ∧ va_D (va_A [(q, .inr (7, [.ref mq, .ref zq, .ref sq, .ref bq, .ref cq, .long sm, .ref pq, .int ps, .int th])), (mq, .inl (cZ, 12288, .inl fM)), (zq, .inl (cI, 3, .inl fS)), (sq, .inl (cI, 6156, .inl fP)), (bq, .inl (cI, 3, .inl fB)), (cq, .inl (cJ, 64, .inr (.inl fC))), (pq, .inl (cI, 8, .inl fT))] sz) [(q, .inr (7, [.ref mq, .ref zq, .ref sq, .ref bq, .ref cq, .long sm, .ref pq, .int ps, .int u.2.2.2.2])), (mq, .inl (cZ, 12288, .inl u.1)), (zq, .inl (cI, 3, .inl u.2.1)), (sq, .inl (cI, 6156, .inl u.2.2.1)), (bq, .inl (cI, 3, .inl u.2.2.2.1)), (cq, .inl (cJ, 64, .inr (.inl fC))), (pq, .inl (cI, 8, .inl fT))]) (va_A [(q, .inr (7, [.ref mq, .ref zq, .ref sq, .ref bq, .ref cq, .long sm, .ref pq, .int ps, .int th])), (mq, .inl (cZ, 12288, .inl fM)), (zq, .inl (cI, 3, .inl fS)), (sq, .inl (cI, 6156, .inl fP)), (bq, .inl (cI, 3, .inl fB)), (cq, .inl (cJ, 64, .inr (.inl fC))), (pq, .inl (cI, 8, .inl fT))] sz)) 0 0 (va_A [(q, .inr (7, [.ref mq, .ref zq, .ref sq, .ref bq, .ref cq, .long sm, .ref pq, .int ps, .int th])), (mq, .inl (cZ, 12288, .inl fM)), (zq, .inl (cI, 3, .inl fS)), (sq, .inl (cI, 6156, .inl fP)), (bq, .inl (cI, 3, .inl fB)), (cq, .inl (cJ, 64, .inr (.inl fC))), (pq, .inl (cI, 8, .inl fT))] sz) := by
  refine Met.ofW (cc := cX8_insertAll) (maxL := 6) (ret := (some .int)) (by decide) rfl ?_
  intro p e s m args below meth c s₁ B hml hv
  obtain ⟨rfl, hsz, hP, hK, hD0⟩ := hv
  have hx := B.exec
  have hb := B.bytes
  have hr := B.returns
  have hts := atoms_spec (ws := wsX8_insertAll) B.pre
  have hown : s.vm.findClass RX8 = some m.cls := findClass_of_methodNamed B.named
  have hlocks := B.notSynchronized
  subst hsz
  have hD := hD0.self (sz := s.heap.size)
  generalize hAe : va_A [(q, .inr (7, [.ref mq, .ref zq, .ref sq, .ref bq, .ref cq, .long sm, .ref pq, .int ps, .int th])), (mq, .inl (cZ, 12288, .inl fM)), (zq, .inl (cI, 3, .inl fS)), (sq, .inl (cI, 6156, .inl fP)), (bq, .inl (cI, 3, .inl fB)), (cq, .inl (cJ, 64, .inr (.inl fC))), (pq, .inl (cI, 8, .inl fT))] s.heap.size = A at hD ⊢
  have hA : ∀ q : Nat, s.heap.size ≤ q → A q := fun q h => by rw [← hAe]; exact Or.inr h
  have hS : va_S A s.heap s.heap [] := va_S.rf
  have hP : va_P (dC, dI) vwCl [(q, .inr (7, [.ref mq, .ref zq, .ref sq, .ref bq, .ref cq, .long sm, .ref pq, .int ps, .int th])), (mq, .inl (cZ, 12288, .inl fM)), (zq, .inl (cI, 3, .inl fS)), (sq, .inl (cI, 6156, .inl fP)), (bq, .inl (cI, 3, .inl fB)), (cq, .inl (cJ, 64, .inr (.inl fC))), (pq, .inl (cI, 8, .inl fT))] s.heap := hP
  have hl := lv_entry ([.ref q, .int (nI k), .int (nI o)]) (n := 6) (Nat.le_of_ble_eq_true rfl)
  rw [lg_entry_eq]
  generalize (lg_sl ([.ref q, .int (nI k), .int (nI o)]) ++ List.replicate (6 - (lg_sl ([.ref q, .int (nI k), .int (nI o)])).length) Slot.unset).toArray = ls at hl ⊢
  have hl : lv_has ls 6 [(0, .ref q), (1, .int (nI k)), (2, .int (nI o))] := hl
  refine lv_iload_n hx hb dX8_insertAll_0 rfl (lv_at hl 1 rfl) ?_
  have hPc := hP.sub (ws' := []) [] rfl
  have hKc := hK.sub (tys' := []) [] rfl
  refine vp_callSi (W.runS (As := [.int (nI k)]) (rest := []) ⟨hx, hb, hml, hown, hts⟩ (c_X8_isSet l dC dI (nI k) ) (va_cwS 1 hts gX8_insertAll_X8_isSet rfl rfl rfl (by decide +kernel) ⟨Nat.le_of_ble_eq_true rfl, Nat.le_of_ble_eq_true rfl⟩) ⟨fun a U g mk q => by obtain ⟨q0, qP, qK⟩ := q; exact ⟨q0, qP, va_K.moved (u := U) (U := U.calling g mk a) (Vm.Alike.refl U.vm) qK⟩, fun U hU hW => ⟨rfl, by rw [hU]; exact hPc, va_K.moved hW.alike hKc⟩⟩ rfl rfl hl.1 rfl (lv_room (Nat.le_of_ble_eq_true rfl)) dX8_insertAll_1 ⟨Nat.le_of_ble_eq_true rfl, Nat.le_of_ble_eq_true rfl⟩) (fun r_2 hw_1 => ?_)
  subst hw_1
  refine lv_cvi (congrArg b2i (isS_t hk)) ?_
  refine lv_if_eq (tgt := 18) hx hb dX8_insertAll_4 (by decide) (fun qc_3 => ?_) (fun qc_3 => ?_)
  · have c_3 : true = false := b2i_f qc_3
    cases c_3
  · have c_3 : true = true := b2i_t qc_3
    refine lv_iload_n hx hb dX8_insertAll_7 rfl (lv_at hl 2 rfl) ?_
    have hPc := hP.sub (ws' := []) [] rfl
    have hKc := hK.sub (tys' := []) [] rfl
    refine vp_callSi (W.runS (As := [.int (nI o)]) (rest := []) ⟨hx, hb, hml, hown, hts⟩ (c_X8_isSet l dC dI (nI o) ) (va_cwS 1 hts gX8_insertAll_X8_isSet rfl rfl rfl (by decide +kernel) ⟨Nat.le_of_ble_eq_true rfl, Nat.le_of_ble_eq_true rfl⟩) ⟨fun a U g mk q => by obtain ⟨q0, qP, qK⟩ := q; exact ⟨q0, qP, va_K.moved (u := U) (U := U.calling g mk a) (Vm.Alike.refl U.vm) qK⟩, fun U hU hW => ⟨rfl, by rw [hU]; exact hPc, va_K.moved hW.alike hKc⟩⟩ rfl rfl hl.1 rfl (lv_room (Nat.le_of_ble_eq_true rfl)) dX8_insertAll_8 ⟨Nat.le_of_ble_eq_true rfl, Nat.le_of_ble_eq_true rfl⟩) (fun r_5 hw_4 => ?_)
    subst hw_4
    refine lv_cvi (congrArg b2i (isS_t ho)) ?_
    refine lv_if_eq (tgt := 18) hx hb dX8_insertAll_11 (by decide) (fun qc_6 => ?_) (fun qc_6 => ?_)
    · have c_6 : true = false := b2i_f qc_6
      cases c_6
    · have c_6 : true = true := b2i_t qc_6
      refine lv_iconst (v := nI 1) hx hb dX8_insertAll_14 (by decide +kernel) ?_
      refine lv_goto (tgt := 19) hx hb dX8_insertAll_15 (by decide) ?_
      refine lv_cvi ((rfl : nI 1 = b2i true)) ?_
      refine lv_istore_n (lv' := [(3, .int (b2i true)), (0, .ref q), (1, .int (nI k)), (2, .int (nI o))]) hx hb dX8_insertAll_19 rfl hl (by decide) rfl (fun ls hl => ?_)
      refine lv_aload_n hx hb dX8_insertAll_20 rfl (lv_at hl 1 rfl) ?_
      refine lv_iload_n hx hb dX8_insertAll_21 rfl (lv_at hl 0 rfl) ?_
      refine lv_iload_n hx hb dX8_insertAll_22 rfl (lv_at hl 0 rfl) ?_
      refine lv_if_eq (tgt := 41) hx hb dX8_insertAll_23 (by decide) (fun qc_7 => ?_) (fun qc_7 => ?_)
      · have c_7 : true = false := b2i_f qc_7
        cases c_7
      · have c_7 : true = true := b2i_t qc_7
        refine lv_aload_n hx hb dX8_insertAll_26 rfl (lv_at hl 1 rfl) ?_
        refine va_get (D := (dC, dI)) (ci := 7) (v := .ref zq) (C := RX8) (T := TX8) (N := 9) hx hb hts (by decide +kernel) hown hK hP 0 rfl rfl 1 (by decide) (hts (.fieldLink RX8 13 "SmallNumberSetsModel" "size" "[I") (by decide +kernel)) (fun _ h9 => h9) rfl dX8_insertAll_27 ?_
        refine lv_iload_n hx hb dX8_insertAll_30 rfl (lv_at hl 3 rfl) ?_
        refine va_iald hx hb hK hP 2 1 rfl rfl (vp_in_nI (by omega) (by omega)) dX8_insertAll_31 ?_
        refine lv_cvi (congrArg fS (nI_clamp (by omega))) ?_
        refine lv_cvi (hZ o ho) ?_
        refine lv_bipush (v := nI 30) hx hb dX8_insertAll_32 (by decide +kernel) ?_
        refine lv_icmp_gt (tgt := 41) hx hb dX8_insertAll_34 (by decide) (fun qc_8 => ?_) (fun qc_8 => ?_)
        · have c_8 : 30 < (fb_ct (M o) 4096) := (nI_ltI (a := 30) (b := fb_ct (M o) 4096) (by omega) (by omega)).mp qc_8
          exact absurd c_8 (by omega)
        · have c_8 : ¬ 30 < (fb_ct (M o) 4096) := fun h9 => qc_8 ((nI_ltI (a := 30) (b := fb_ct (M o) 4096) (by omega) (by omega)).mpr h9)
          refine lv_iconst (v := nI 1) hx hb dX8_insertAll_37 (by decide +kernel) ?_
          refine lv_goto (tgt := 42) hx hb dX8_insertAll_38 (by decide) ?_
          refine lv_cvi ((rfl : nI 1 = b2i true)) ?_
          have hPc := hP.sub (ws' := [(q, .inr (7, [.ref mq, .ref zq, .ref sq, .ref bq, .ref cq, .long sm, .ref pq, .int ps, .int th])), (mq, .inl (cZ, 12288, .inl fM)), (zq, .inl (cI, 3, .inl fS)), (sq, .inl (cI, 6156, .inl fP)), (bq, .inl (cI, 3, .inl fB)), (cq, .inl (cJ, 64, .inr (.inl fC))), (pq, .inl (cI, 8, .inl fT))]) [0, 1, 2, 3, 4, 5, 6] rfl
          have hKc := hK.sub (tys' := [(cZ, .boolean), (cI, .int), (cJ, .long)]) [0, 1, 2] rfl
          have hDc := hD.sub (ws' := [(q, .inr (7, [.ref mq, .ref zq, .ref sq, .ref bq, .ref cq, .long sm, .ref pq, .int ps, .int th])), (mq, .inl (cZ, 12288, .inl fM)), (zq, .inl (cI, 3, .inl fS)), (sq, .inl (cI, 6156, .inl fP)), (bq, .inl (cI, 3, .inl fB)), (cq, .inl (cJ, 64, .inr (.inl fC))), (pq, .inl (cI, 8, .inl fT))]) [0, 1, 2, 3, 4, 5, 6] (by decide) rfl
          have hFc := va_free (wc := [(q, .inr (7, [.ref mq, .ref zq, .ref sq, .ref bq, .ref cq, .long sm, .ref pq, .int ps, .int th])), (mq, .inl (cZ, 12288, .inl fM)), (zq, .inl (cI, 3, .inl fS)), (sq, .inl (cI, 6156, .inl fP)), (bq, .inl (cI, 3, .inl fB)), (cq, .inl (cJ, 64, .inr (.inl fC))), (pq, .inl (cI, 8, .inl fT))]) hD hS hA [0, 1, 2, 3, 4, 5, 6] rfl
          refine va_calli (va_runV (As := [.int (b2i true), .int (b2i true)]) (rest := []) ⟨hx, hb, hml, hown, hts⟩ (c_X8_asked_ l dC dI q mq zq sq bq cq pq cZ cI cJ fM fS fP fB fC sm fT ps th true true s.heap.size ) (cwV 2 hts gX8_insertAll_X8_asked_ rfl rfl rfl (by decide +kernel) ⟨Nat.le_of_ble_eq_true rfl, Nat.le_of_ble_eq_true rfl⟩) ⟨fun a U g mk q => by obtain ⟨q0, q1, qP, qK, qD⟩ := q; exact ⟨q0, q1, qP, va_K.moved (u := U) (U := U.calling g mk a) (Vm.Alike.refl U.vm) qK, qD⟩, va_recv hKc hPc (ci := 7) (q0 := 0) rfl rfl, fun U hU hW => ⟨rfl, by rw [hU], by rw [hU]; exact hPc, va_K.moved hW.alike hKc, hDc.weaken (fun _ _ _ _ => trivial)⟩⟩ rfl rfl hl.1 rfl (lv_room (Nat.le_of_ble_eq_true rfl)) dX8_insertAll_42 ⟨Nat.le_of_ble_eq_true rfl, Nat.le_of_ble_eq_true rfl⟩) hS (fun q _ h => hFc q h) hFc (fun r_11 u_10 t9 H1 locs ht hvm hw_9 hB hz1 hk1 hS => ?_)
          obtain ⟨th'_12, rfl⟩ : ∃ z, z = u_10 := ⟨_, rfl⟩
          obtain ⟨hP1, hK1, hD1⟩ := hB
          rw [ht] at hP1
          have hK1 := va_K.moved hvm.symm hK1
          try dsimp only at hw_9 hP1 hK1 hD1
          obtain ⟨hP, hD⟩ := va_join (wr := []) (w1 := [(q, .inr (7, [.ref mq, .ref zq, .ref sq, .ref bq, .ref cq, .long sm, .ref pq, .int ps, .int th'_12])), (mq, .inl (cZ, 12288, .inl fM)), (zq, .inl (cI, 3, .inl fS)), (sq, .inl (cI, 6156, .inl fP)), (bq, .inl (cI, 3, .inl fB)), (cq, .inl (cJ, 64, .inr (.inl fC))), (pq, .inl (cI, 8, .inl fT))]) hP hD [0, 1, 2, 3, 4, 5, 6] [] rfl rfl (by decide) (by decide) hk1 hFc hP1 hD1
          generalize H1 = H at hP hS ⊢
          have hP : va_P (dC, dI) vwCl [(q, .inr (7, [.ref mq, .ref zq, .ref sq, .ref bq, .ref cq, .long sm, .ref pq, .int ps, .int th'_12])), (mq, .inl (cZ, 12288, .inl fM)), (zq, .inl (cI, 3, .inl fS)), (sq, .inl (cI, 6156, .inl fP)), (bq, .inl (cI, 3, .inl fB)), (cq, .inl (cJ, 64, .inr (.inl fC))), (pq, .inl (cI, 8, .inl fT))] H := hP
          have hD : va_D A [(q, .inr (7, [.ref mq, .ref zq, .ref sq, .ref bq, .ref cq, .long sm, .ref pq, .int ps, .int th'_12])), (mq, .inl (cZ, 12288, .inl fM)), (zq, .inl (cI, 3, .inl fS)), (sq, .inl (cI, 6156, .inl fP)), (bq, .inl (cI, 3, .inl fB)), (cq, .inl (cJ, 64, .inr (.inl fC))), (pq, .inl (cI, 8, .inl fT))] := hD
          obtain ⟨he, hw_9⟩ := hw_9
          subst he
          have hth := hw_9
          refine lv_cvi (rfl) ?_
          refine lv_if_ne (tgt := 50) hx hb dX8_insertAll_45 (by decide) (fun qc_13 => ?_) (fun qc_13 => ?_)
          · have c_13 : true = true := b2i_t qc_13
            refine lv_iconst (v := nI 0) hx hb dX8_insertAll_50 (by decide +kernel) ?_
            refine lv_istore (lv' := [(4, .int (nI 0)), (3, .int (b2i true)), (0, .ref q), (1, .int (nI k)), (2, .int (nI o))]) hx hb dX8_insertAll_51 hl (by decide) rfl (fun ls hl => ?_)
            refine lv_iconst (v := nI 0) hx hb dX8_insertAll_53 (by decide +kernel) ?_
            refine lv_istore (lv' := [(5, .int (nI 0)), (4, .int (nI 0)), (3, .int (b2i true)), (0, .ref q), (1, .int (nI k)), (2, .int (nI o))]) hx hb dX8_insertAll_54 hl (by decide) rfl (fun ls hl => ?_)
            have key_56_14 : ∀ (fu : Nat) (i : Nat) (t : Nat) (gM : Nat → Int32) (gS : Nat → Int32) (gP : Nat → Int32) (gB : Nat → Int32) (hi1 : i ≤ 4096) (hq : PR M P k (fun j => sp (M o) j) (fb_ct (M o) i) t gM gS gP gB) (hfu : 4096 - i < fu) (H : Heap) (locs : List Loc) (hP : va_P (dC, dI) vwCl [(q, .inr (7, [.ref mq, .ref zq, .ref sq, .ref bq, .ref cq, .long sm, .ref pq, .int ps, .int th'_12])), (mq, .inl (cZ, 12288, .inl gM)), (zq, .inl (cI, 3, .inl gS)), (sq, .inl (cI, 6156, .inl gP)), (bq, .inl (cI, 3, .inl gB)), (cq, .inl (cJ, 64, .inr (.inl fC))), (pq, .inl (cI, 8, .inl fT))] H) (hD : va_D A [(q, .inr (7, [.ref mq, .ref zq, .ref sq, .ref bq, .ref cq, .long sm, .ref pq, .int ps, .int th'_12])), (mq, .inl (cZ, 12288, .inl gM)), (zq, .inl (cI, 3, .inl gS)), (sq, .inl (cI, 6156, .inl gP)), (bq, .inl (cI, 3, .inl gB)), (cq, .inl (cJ, 64, .inr (.inl fC))), (pq, .inl (cI, 8, .inl fT))]) (hS : va_S A s.heap H locs) (ls : Array Slot) (hl : lv_has ls 6 [(5, .int (nI i)), (4, .int (nI t)), (3, .int (b2i true)), (0, .ref q), (1, .int (nI k)), (2, .int (nI o))]), W p l e (headSpec wsX8_insertAll ({ frames := 4, cells := 0, slots := 0, locals := 94 })).room s m ([.ref q, .int (nI k), .int (nI o)] : List Value).toArray below meth c H locs 0 0 (MQ below (va_Qi (fun (r : Int32) (u : (Nat → Int32) × (Nat → Int32) × (Nat → Int32) × (Nat → Int32) × Int32) => r = nI (putsC (M k) (fun j => sp (M o) j) (fb_ct (M o) 4096)) ∧ MM u.1 (upF M k (putsM (M k) (fun j => sp (M o) j) (fb_ct (M o) 4096))) ∧ MZ u.2.1 (upF M k (putsM (M k) (fun j => sp (M o) j) (fb_ct (M o) 4096))) ∧ MX u.2.2.1 u.2.2.2.1 (upF P k (putsP (M k) (P k) (fun j => sp (M o) j) (fb_ct (M o) 4096))) ∧ u.2.2.2.2 = nI 0) (fun (u : (Nat → Int32) × (Nat → Int32) × (Nat → Int32) × (Nat → Int32) × Int32) (t : State) => va_P (dC, dI) vwCl [(q, .inr (7, [.ref mq, .ref zq, .ref sq, .ref bq, .ref cq, .long sm, .ref pq, .int ps, .int u.2.2.2.2])), (mq, .inl (cZ, 12288, .inl u.1)), (zq, .inl (cI, 3, .inl u.2.1)), (sq, .inl (cI, 6156, .inl u.2.2.1)), (bq, .inl (cI, 3, .inl u.2.2.2.1)), (cq, .inl (cJ, 64, .inr (.inl fC))), (pq, .inl (cI, 8, .inl fT))] t.heap ∧ va_K (dC, dI) vwCl [(cZ, .boolean), (cI, .int), (cJ, .long)] t ∧ va_D A [(q, .inr (7, [.ref mq, .ref zq, .ref sq, .ref bq, .ref cq, .long sm, .ref pq, .int ps, .int u.2.2.2.2])), (mq, .inl (cZ, 12288, .inl u.1)), (zq, .inl (cI, 3, .inl u.2.1)), (sq, .inl (cI, 6156, .inl u.2.2.1)), (bq, .inl (cI, 3, .inl u.2.2.2.1)), (cq, .inl (cJ, 64, .inr (.inl fC))), (pq, .inl (cI, 8, .inl fT))]) A) ([.ref q, .int (nI k), .int (nI o)] : List Value).toArray s 0 0 A) (F0 m 56 ls []) := by
              intro fu
              induction fu with
              | zero =>
                intro i t gM gS gP gB hi1 hq hfu H locs hP hD hS ls hl
                exact absurd hfu (Nat.not_lt_zero _)
              | succ fu ih_56 =>
                intro i t gM gS gP gB hi1 hq hfu H locs hP hD hS ls hl
                refine lv_iload hx hb dX8_insertAll_56 (lv_at hl 0 rfl) ?_
                refine lv_sipush (v := nI 4096) hx hb dX8_insertAll_58 (by decide +kernel) ?_
                refine lv_icmp_ge (tgt := 100) hx hb dX8_insertAll_61 (by decide) (fun qc_15 => ?_) (fun qc_15 => ?_)
                · have c_15 : 4096 ≤ i := (nI_leI (a := 4096) (b := i) (by omega) (by omega)).mp qc_15
                  refine lv_iload hx hb dX8_insertAll_100 (lv_at hl 1 rfl) ?_
                  have hP9 := hP.sub (ws' := [(q, .inr (7, [.ref mq, .ref zq, .ref sq, .ref bq, .ref cq, .long sm, .ref pq, .int ps, .int th'_12])), (mq, .inl (cZ, 12288, .inl gM)), (zq, .inl (cI, 3, .inl gS)), (sq, .inl (cI, 6156, .inl gP)), (bq, .inl (cI, 3, .inl gB)), (cq, .inl (cJ, 64, .inr (.inl fC))), (pq, .inl (cI, 8, .inl fT))]) [0, 1, 2, 3, 4, 5, 6] rfl
                  have hD9 := hD.sub (ws' := [(q, .inr (7, [.ref mq, .ref zq, .ref sq, .ref bq, .ref cq, .long sm, .ref pq, .int ps, .int th'_12])), (mq, .inl (cZ, 12288, .inl gM)), (zq, .inl (cI, 3, .inl gS)), (sq, .inl (cI, 6156, .inl gP)), (bq, .inl (cI, 3, .inl gB)), (cq, .inl (cJ, 64, .inr (.inl fC))), (pq, .inl (cI, 8, .inl fT))]) [0, 1, 2, 3, 4, 5, 6] (by decide) rfl
                  have hK9 := hK.sub (tys' := [(cZ, .boolean), (cI, .int), (cJ, .long)]) [0, 1, 2] rfl
                  exact W.iret (v := nI t) hx hb hr (fun t9 ht hW => ⟨⟨nI t, ⟨gM, gS, gP, gB, th'_12⟩, rfl, (show (nI t) = nI (putsC (M k) (fun j => sp (M o) j) (fb_ct (M o) 4096)) ∧ MM gM (upF M k (putsM (M k) (fun j => sp (M o) j) (fb_ct (M o) 4096))) ∧ MZ gS (upF M k (putsM (M k) (fun j => sp (M o) j) (fb_ct (M o) 4096))) ∧ MX gP gB (upF P k (putsP (M k) (P k) (fun j => sp (M o) j) (fb_ct (M o) 4096))) ∧ th'_12 = nI 0 from (by
                    have e9 : i = 4096 := by omega
                    subst e9
                    exact ⟨congrArg nI hq.2.2.2.2, hq.1, hq.2.1, hq.2.2.1, hth⟩)), by rw [ht]; exact hP9, va_K.moved hW.alike hK9, hD9⟩, hS.F ht⟩) hS.2.2 dX8_insertAll_102
                · have c_15 : ¬ 4096 ≤ i := fun h9 => qc_15 ((nI_leI (a := 4096) (b := i) (by omega) (by omega)).mpr h9)
                  refine lv_iload hx hb dX8_insertAll_64 (lv_at hl 1 rfl) ?_
                  have hcl := fb_ct_mono (M o) (show i ≤ 4096 by omega)
                  refine lv_aload_n hx hb dX8_insertAll_66 rfl (lv_at hl 3 rfl) ?_
                  refine lv_iload_n hx hb dX8_insertAll_67 rfl (lv_at hl 5 rfl) ?_
                  refine lv_iload hx hb dX8_insertAll_68 (lv_at hl 0 rfl) ?_
                  have hPc := hP.sub (ws' := [(q, .inr (7, [.ref mq, .ref zq, .ref sq, .ref bq, .ref cq, .long sm, .ref pq, .int ps, .int th'_12])), (mq, .inl (cZ, 12288, .inl gM)), (zq, .inl (cI, 3, .inl gS)), (sq, .inl (cI, 6156, .inl gP)), (bq, .inl (cI, 3, .inl gB)), (cq, .inl (cJ, 64, .inr (.inl fC))), (pq, .inl (cI, 8, .inl fT))]) [0, 1, 2, 3, 4, 5, 6] rfl
                  have hKc := hK.sub (tys' := [(cZ, .boolean), (cI, .int), (cJ, .long)]) [0, 1, 2] rfl
                  refine vp_callSi (W.runV (As := [.int (nI o), .int (nI i)]) (rest := [.int (nI t)]) ⟨hx, hb, hml, hown, hts⟩ (c_X8_has l dC dI q mq zq sq bq cq pq cZ cI cJ gM gS gP gB fC sm fT ps th'_12 (upF M k (putsM (M k) (fun j => sp (M o) j) (fb_ct (M o) i))) o i hq.1 (by first | assumption | omega) (by first | assumption | omega)) (cwV 2 hts gX8_insertAll_X8_has rfl rfl rfl (by decide +kernel) ⟨Nat.le_of_ble_eq_true rfl, Nat.le_of_ble_eq_true rfl⟩) ⟨fun a U g mk q => by obtain ⟨q0, qP, qK⟩ := q; exact ⟨q0, qP, va_K.moved (u := U) (U := U.calling g mk a) (Vm.Alike.refl U.vm) qK⟩, va_recv hKc hPc (ci := 7) (q0 := 0) rfl rfl, fun U hU hW => ⟨rfl, by rw [hU]; exact hPc, va_K.moved hW.alike hKc⟩⟩ rfl rfl hl.1 rfl (lv_room (Nat.le_of_ble_eq_true rfl)) dX8_insertAll_70 ⟨Nat.le_of_ble_eq_true rfl, Nat.le_of_ble_eq_true rfl⟩) (fun r_17 hw_16 => ?_)
                  subst hw_16
                  refine lv_cvi (congrArg b2i (mem_cur hcl i)) ?_
                  refine lv_if_eq (tgt := 90) hx hb dX8_insertAll_73 (by decide) (fun qc_18 => ?_) (fun qc_18 => ?_)
                  · have c_18 : (M o i) = false := b2i_f qc_18
                    refine lv_iconst (v := nI 0) hx hb dX8_insertAll_90 (by decide +kernel) ?_
                    refine lv_iadd hx hb dX8_insertAll_91 ?_
                    refine lv_cvi (nI_add _ _) ?_
                    refine lv_istore (lv' := [(4, .int (nI (t + 0))), (5, .int (nI i)), (3, .int (b2i true)), (0, .ref q), (1, .int (nI k)), (2, .int (nI o))]) hx hb dX8_insertAll_92 hl (by decide) rfl (fun ls hl => ?_)
                    refine lv_iinc (v := nI (i + 1)) (lv' := [(5, .int (nI (i + 1))), (4, .int (nI (t + 0))), (3, .int (b2i true)), (0, .ref q), (1, .int (nI k)), (2, .int (nI o))]) hx hb dX8_insertAll_94 hl (k := 1) rfl (nI_1 _) (by decide) rfl (fun ls hl => ?_)
                    refine lv_goto (tgt := 56) hx hb dX8_insertAll_97 (by decide) ?_
                    exact ih_56 (i + 1) (t + 0) gM gS gP gB (by omega) (rr_n c_18 hq) (by omega) _ _ hP hD hS ls (lv_sub hl [0, 1, 2, 3, 4, 5] rfl)
                  · have c_18 : (M o i) = true := b2i_t qc_18
                    refine lv_aload_n hx hb dX8_insertAll_76 rfl (lv_at hl 3 rfl) ?_
                    refine lv_iload_n hx hb dX8_insertAll_77 rfl (lv_at hl 4 rfl) ?_
                    refine lv_iload hx hb dX8_insertAll_78 (lv_at hl 0 rfl) ?_
                    have hPc := hP.sub (ws' := [(q, .inr (7, [.ref mq, .ref zq, .ref sq, .ref bq, .ref cq, .long sm, .ref pq, .int ps, .int th'_12])), (mq, .inl (cZ, 12288, .inl gM)), (zq, .inl (cI, 3, .inl gS)), (sq, .inl (cI, 6156, .inl gP)), (bq, .inl (cI, 3, .inl gB)), (cq, .inl (cJ, 64, .inr (.inl fC))), (pq, .inl (cI, 8, .inl fT))]) [0, 1, 2, 3, 4, 5, 6] rfl
                    have hKc := hK.sub (tys' := [(cZ, .boolean), (cI, .int), (cJ, .long)]) [0, 1, 2] rfl
                    have hDc := hD.sub (ws' := [(q, .inr (7, [.ref mq, .ref zq, .ref sq, .ref bq, .ref cq, .long sm, .ref pq, .int ps, .int th'_12])), (mq, .inl (cZ, 12288, .inl gM)), (zq, .inl (cI, 3, .inl gS)), (sq, .inl (cI, 6156, .inl gP)), (bq, .inl (cI, 3, .inl gB)), (cq, .inl (cJ, 64, .inr (.inl fC))), (pq, .inl (cI, 8, .inl fT))]) [0, 1, 2, 3, 4, 5, 6] (by decide) rfl
                    have hFc := va_free (wc := [(q, .inr (7, [.ref mq, .ref zq, .ref sq, .ref bq, .ref cq, .long sm, .ref pq, .int ps, .int th'_12])), (mq, .inl (cZ, 12288, .inl gM)), (zq, .inl (cI, 3, .inl gS)), (sq, .inl (cI, 6156, .inl gP)), (bq, .inl (cI, 3, .inl gB)), (cq, .inl (cJ, 64, .inr (.inl fC))), (pq, .inl (cI, 8, .inl fT))]) hD hS hA [0, 1, 2, 3, 4, 5, 6] rfl
                    refine va_calli (va_runV (As := [.int (nI k), .int (nI i)]) (rest := [.int (nI t)]) ⟨hx, hb, hml, hown, hts⟩ (c_X8_puts l dC dI q mq zq sq bq cq pq cZ cI cJ gM gS gP gB fC sm fT ps th'_12 (upF M k (putsM (M k) (fun j => sp (M o) j) (fb_ct (M o) i))) (upF P k (putsP (M k) (P k) (fun j => sp (M o) j) (fb_ct (M o) i))) k i H.size hq.1 hq.2.1 hq.2.2.1 (by first | assumption | omega) (by first | assumption | omega) (by rw [upF_s]; exact bi_cnt hq.2.2.2.1)) (cwV 2 hts gX8_insertAll_X8_puts rfl rfl rfl (by decide +kernel) ⟨Nat.le_of_ble_eq_true rfl, Nat.le_of_ble_eq_true rfl⟩) ⟨fun a U g mk q => by obtain ⟨q0, q1, qP, qK, qD⟩ := q; exact ⟨q0, q1, qP, va_K.moved (u := U) (U := U.calling g mk a) (Vm.Alike.refl U.vm) qK, qD⟩, va_recv hKc hPc (ci := 7) (q0 := 0) rfl rfl, fun U hU hW => ⟨rfl, by rw [hU], by rw [hU]; exact hPc, va_K.moved hW.alike hKc, hDc.weaken (fun _ _ _ _ => trivial)⟩⟩ rfl rfl hl.1 rfl (lv_room (Nat.le_of_ble_eq_true rfl)) dX8_insertAll_80 ⟨Nat.le_of_ble_eq_true rfl, Nat.le_of_ble_eq_true rfl⟩) hS (fun q _ h => hFc q h) hFc (fun r_21 u_20 t9 H1 locs ht hvm hw_19 hB hz1 hk1 hS => ?_)
                    obtain ⟨fM'_22, fS'_23, fP'_24, fB'_25⟩ := u_20
                    obtain ⟨hP1, hK1, hD1⟩ := hB
                    rw [ht] at hP1
                    have hK1 := va_K.moved hvm.symm hK1
                    try dsimp only at hw_19 hP1 hK1 hD1
                    obtain ⟨hP, hD⟩ := va_join (wr := []) (w1 := [(q, .inr (7, [.ref mq, .ref zq, .ref sq, .ref bq, .ref cq, .long sm, .ref pq, .int ps, .int th'_12])), (mq, .inl (cZ, 12288, .inl fM'_22)), (zq, .inl (cI, 3, .inl fS'_23)), (sq, .inl (cI, 6156, .inl fP'_24)), (bq, .inl (cI, 3, .inl fB'_25)), (cq, .inl (cJ, 64, .inr (.inl fC))), (pq, .inl (cI, 8, .inl fT))]) hP hD [0, 1, 2, 3, 4, 5, 6] [] rfl rfl (by decide) (by decide) hk1 hFc hP1 hD1
                    generalize H1 = H at hP hS ⊢
                    have hP : va_P (dC, dI) vwCl [(q, .inr (7, [.ref mq, .ref zq, .ref sq, .ref bq, .ref cq, .long sm, .ref pq, .int ps, .int th'_12])), (mq, .inl (cZ, 12288, .inl fM'_22)), (zq, .inl (cI, 3, .inl fS'_23)), (sq, .inl (cI, 6156, .inl fP'_24)), (bq, .inl (cI, 3, .inl fB'_25)), (cq, .inl (cJ, 64, .inr (.inl fC))), (pq, .inl (cI, 8, .inl fT))] H := hP
                    have hD : va_D A [(q, .inr (7, [.ref mq, .ref zq, .ref sq, .ref bq, .ref cq, .long sm, .ref pq, .int ps, .int th'_12])), (mq, .inl (cZ, 12288, .inl fM'_22)), (zq, .inl (cI, 3, .inl fS'_23)), (sq, .inl (cI, 6156, .inl fP'_24)), (bq, .inl (cI, 3, .inl fB'_25)), (cq, .inl (cJ, 64, .inr (.inl fC))), (pq, .inl (cI, 8, .inl fT))] := hD
                    obtain ⟨he, hw_19⟩ := hw_19
                    subst he
                    refine lv_if_eq (tgt := 90) hx hb dX8_insertAll_83 (by decide) (fun qc_26 => ?_) (fun qc_26 => ?_)
                    · have c_26 : (!(upF M k (putsM (M k) (fun j => sp (M o) j) (fb_ct (M o) i))) k i) = false := b2i_f qc_26
                      refine lv_iconst (v := nI 0) hx hb dX8_insertAll_90 (by decide +kernel) ?_
                      refine lv_iadd hx hb dX8_insertAll_91 ?_
                      refine lv_cvi (nI_add _ _) ?_
                      refine lv_istore (lv' := [(4, .int (nI (t + 0))), (5, .int (nI i)), (3, .int (b2i true)), (0, .ref q), (1, .int (nI k)), (2, .int (nI o))]) hx hb dX8_insertAll_92 hl (by decide) rfl (fun ls hl => ?_)
                      refine lv_iinc (v := nI (i + 1)) (lv' := [(5, .int (nI (i + 1))), (4, .int (nI (t + 0))), (3, .int (b2i true)), (0, .ref q), (1, .int (nI k)), (2, .int (nI o))]) hx hb dX8_insertAll_94 hl (k := 1) rfl (nI_1 _) (by decide) rfl (fun ls hl => ?_)
                      refine lv_goto (tgt := 56) hx hb dX8_insertAll_97 (by decide) ?_
                      exact ih_56 (i + 1) (t + 0) fM'_22 fS'_23 fP'_24 fB'_25 (by omega) (rr_a hk (by omega) c_18 hq hw_19 (rt_0 c_26)) (by omega) _ _ hP hD hS ls (lv_sub hl [0, 1, 2, 3, 4, 5] rfl)
                    · have c_26 : (!(upF M k (putsM (M k) (fun j => sp (M o) j) (fb_ct (M o) i))) k i) = true := b2i_t qc_26
                      refine lv_iconst (v := nI 1) hx hb dX8_insertAll_86 (by decide +kernel) ?_
                      refine lv_goto (tgt := 91) hx hb dX8_insertAll_87 (by decide) ?_
                      refine lv_iadd hx hb dX8_insertAll_91 ?_
                      refine lv_cvi (nI_add _ _) ?_
                      refine lv_istore (lv' := [(4, .int (nI (t + 1))), (5, .int (nI i)), (3, .int (b2i true)), (0, .ref q), (1, .int (nI k)), (2, .int (nI o))]) hx hb dX8_insertAll_92 hl (by decide) rfl (fun ls hl => ?_)
                      refine lv_iinc (v := nI (i + 1)) (lv' := [(5, .int (nI (i + 1))), (4, .int (nI (t + 1))), (3, .int (b2i true)), (0, .ref q), (1, .int (nI k)), (2, .int (nI o))]) hx hb dX8_insertAll_94 hl (k := 1) rfl (nI_1 _) (by decide) rfl (fun ls hl => ?_)
                      refine lv_goto (tgt := 56) hx hb dX8_insertAll_97 (by decide) ?_
                      exact ih_56 (i + 1) (t + 1) fM'_22 fS'_23 fP'_24 fB'_25 (by omega) (rr_a hk (by omega) c_18 hq hw_19 (rt_1 c_26)) (by omega) _ _ hP hD hS ls (lv_sub hl [0, 1, 2, 3, 4, 5] rfl)
            exact key_56_14 _ 0 0 fM fS fP fB (Nat.zero_le _) (rr_0 hM hZ hX hB) (Nat.lt_succ_self _) _ _ hP hD hS ls (lv_sub hl [0, 1, 2, 3, 4, 5] rfl)
          · have c_13 : true = false := b2i_f qc_13
            cases c_13
set_option maxHeartbeats 4000000 in
set_option maxRecDepth 100000 in
/-- reference: c_X8_insertAll_e -/
theorem c_X8_insertAll_e (l : Launch) (dC : Nat → ClassId) (dI : Nat → Nat → Nat) (q : Nat) (mq : Nat) (zq : Nat) (sq : Nat) (bq : Nat) (cq : Nat) (pq : Nat) (cZ : ClassId) (cI : ClassId) (cJ : ClassId) (fM : Nat → Int32) (fS : Nat → Int32) (fP : Nat → Int32) (fB : Nat → Int32) (fC : Nat → Int64) (sm : Int64) (fT : Nat → Int32) (ps : Int32) (th : Int32) (M : Nat → Nat → Bool) (k : Nat) (o : Nat) (sz : Nat) (hZ : MZ fS M) (hk : k < 3) (ho : o < 3) (hn30 : 30 < fb_ct (M o) 4096) : Met l yX8_insertAll wsX8_insertAll ({ frames := 2, cells := 0, slots := 0, locals := 42 }) (va_Pc [.ref q, .int (nI k), .int (nI o)] (fun U => U.heap.size = sz ∧ va_P (dC, dI) vwCl [(q, .inr (7, [.ref mq, .ref zq, .ref sq, .ref bq, .ref cq, .long sm, .ref pq, .int ps, .int th])), (mq, .inl (cZ, 12288, .inl fM)), (zq, .inl (cI, 3, .inl fS)), (sq, .inl (cI, 6156, .inl fP)), (bq, .inl (cI, 3, .inl fB)), (cq, .inl (cJ, 64, .inr (.inl fC))), (pq, .inl (cI, 8, .inl fT))] U.heap ∧ va_K (dC, dI) vwCl [(cZ, .boolean), (cI, .int), (cJ, .long)] U ∧ va_D (fun _ => True) [(q, .inr (7, [.ref mq, .ref zq, .ref sq, .ref bq, .ref cq, .long sm, .ref pq, .int ps, .int th])), (mq, .inl (cZ, 12288, .inl fM)), (zq, .inl (cI, 3, .inl fS)), (sq, .inl (cI, 6156, .inl fP)), (bq, .inl (cI, 3, .inl fB)), (cq, .inl (cJ, 64, .inr (.inl fC))), (pq, .inl (cI, 8, .inl fT))])) (va_Qi (fun (r : Int32) (u : Int32) => u = nI 2) (fun (u : Int32) (t : State) => va_P (dC, dI) vwCl [(q, .inr (7, [.ref mq, .ref zq, .ref sq, .ref bq, .ref cq, .long sm, .ref pq, .int ps, .int u])), (mq, .inl (cZ, 12288, .inl fM)), (zq, .inl (cI, 3, .inl fS)), (sq, .inl (cI, 6156, .inl fP)), (bq, .inl (cI, 3, .inl fB)), (cq, .inl (cJ, 64, .inr (.inl fC))), (pq, .inl (cI, 8, .inl fT))] t.heap ∧ va_K (dC, dI) vwCl [(cZ, .boolean), (cI, .int), (cJ, .long)] t ∧ va_D (va_A [(q, .inr (7, [.ref mq, .ref zq, .ref sq, .ref bq, .ref cq, .long sm, .ref pq, .int ps, .int th])), (mq, .inl (cZ, 12288, .inl fM)), (zq, .inl (cI, 3, .inl fS)), (sq, .inl (cI, 6156, .inl fP)), (bq, .inl (cI, 3, .inl fB)), (cq, .inl (cJ, 64, .inr (.inl fC))), (pq, .inl (cI, 8, .inl fT))] sz) [(q, .inr (7, [.ref mq, .ref zq, .ref sq, .ref bq, .ref cq, .long sm, .ref pq, .int ps, .int u])), (mq, .inl (cZ, 12288, .inl fM)), (zq, .inl (cI, 3, .inl fS)), (sq, .inl (cI, 6156, .inl fP)), (bq, .inl (cI, 3, .inl fB)), (cq, .inl (cJ, 64, .inr (.inl fC))), (pq, .inl (cI, 8, .inl fT))]) (va_A [(q, .inr (7, [.ref mq, .ref zq, .ref sq, .ref bq, .ref cq, .long sm, .ref pq, .int ps, .int th])), (mq, .inl (cZ, 12288, .inl fM)), (zq, .inl (cI, 3, .inl fS)), (sq, .inl (cI, 6156, .inl fP)), (bq, .inl (cI, 3, .inl fB)), (cq, .inl (cJ, 64, .inr (.inl fC))), (pq, .inl (cI, 8, .inl fT))] sz)) 0 0 (va_A [(q, .inr (7, [.ref mq, .ref zq, .ref sq, .ref bq, .ref cq, .long sm, .ref pq, .int ps, .int th])), (mq, .inl (cZ, 12288, .inl fM)), (zq, .inl (cI, 3, .inl fS)), (sq, .inl (cI, 6156, .inl fP)), (bq, .inl (cI, 3, .inl fB)), (cq, .inl (cJ, 64, .inr (.inl fC))), (pq, .inl (cI, 8, .inl fT))] sz) := by
  refine Met.ofW (cc := cX8_insertAll) (maxL := 6) (ret := (some .int)) (by decide) rfl ?_
  intro p e s m args below meth c s₁ B hml hv
  obtain ⟨rfl, hsz, hP, hK, hD0⟩ := hv
  have hx := B.exec
  have hb := B.bytes
  have hr := B.returns
  have hts := atoms_spec (ws := wsX8_insertAll) B.pre
  have hown : s.vm.findClass RX8 = some m.cls := findClass_of_methodNamed B.named
  have hlocks := B.notSynchronized
  subst hsz
  have hD := hD0.self (sz := s.heap.size)
  generalize hAe : va_A [(q, .inr (7, [.ref mq, .ref zq, .ref sq, .ref bq, .ref cq, .long sm, .ref pq, .int ps, .int th])), (mq, .inl (cZ, 12288, .inl fM)), (zq, .inl (cI, 3, .inl fS)), (sq, .inl (cI, 6156, .inl fP)), (bq, .inl (cI, 3, .inl fB)), (cq, .inl (cJ, 64, .inr (.inl fC))), (pq, .inl (cI, 8, .inl fT))] s.heap.size = A at hD ⊢
  have hA : ∀ q : Nat, s.heap.size ≤ q → A q := fun q h => by rw [← hAe]; exact Or.inr h
  have hS : va_S A s.heap s.heap [] := va_S.rf
  have hP : va_P (dC, dI) vwCl [(q, .inr (7, [.ref mq, .ref zq, .ref sq, .ref bq, .ref cq, .long sm, .ref pq, .int ps, .int th])), (mq, .inl (cZ, 12288, .inl fM)), (zq, .inl (cI, 3, .inl fS)), (sq, .inl (cI, 6156, .inl fP)), (bq, .inl (cI, 3, .inl fB)), (cq, .inl (cJ, 64, .inr (.inl fC))), (pq, .inl (cI, 8, .inl fT))] s.heap := hP
  have hl := lv_entry ([.ref q, .int (nI k), .int (nI o)]) (n := 6) (Nat.le_of_ble_eq_true rfl)
  rw [lg_entry_eq]
  generalize (lg_sl ([.ref q, .int (nI k), .int (nI o)]) ++ List.replicate (6 - (lg_sl ([.ref q, .int (nI k), .int (nI o)])).length) Slot.unset).toArray = ls at hl ⊢
  have hl : lv_has ls 6 [(0, .ref q), (1, .int (nI k)), (2, .int (nI o))] := hl
  have hcm := fb_ct_le (M o) 4096
  refine lv_iload_n hx hb dX8_insertAll_0 rfl (lv_at hl 1 rfl) ?_
  have hPc := hP.sub (ws' := []) [] rfl
  have hKc := hK.sub (tys' := []) [] rfl
  refine vp_callSi (W.runS (As := [.int (nI k)]) (rest := []) ⟨hx, hb, hml, hown, hts⟩ (c_X8_isSet l dC dI (nI k) ) (va_cwS 1 hts gX8_insertAll_X8_isSet rfl rfl rfl (by decide +kernel) ⟨Nat.le_of_ble_eq_true rfl, Nat.le_of_ble_eq_true rfl⟩) ⟨fun a U g mk q => by obtain ⟨q0, qP, qK⟩ := q; exact ⟨q0, qP, va_K.moved (u := U) (U := U.calling g mk a) (Vm.Alike.refl U.vm) qK⟩, fun U hU hW => ⟨rfl, by rw [hU]; exact hPc, va_K.moved hW.alike hKc⟩⟩ rfl rfl hl.1 rfl (lv_room (Nat.le_of_ble_eq_true rfl)) dX8_insertAll_1 ⟨Nat.le_of_ble_eq_true rfl, Nat.le_of_ble_eq_true rfl⟩) (fun r_2 hw_1 => ?_)
  subst hw_1
  refine lv_cvi (congrArg b2i (isS_t hk)) ?_
  refine lv_if_eq (tgt := 18) hx hb dX8_insertAll_4 (by decide) (fun qc_3 => ?_) (fun qc_3 => ?_)
  · have c_3 : true = false := b2i_f qc_3
    cases c_3
  · have c_3 : true = true := b2i_t qc_3
    refine lv_iload_n hx hb dX8_insertAll_7 rfl (lv_at hl 2 rfl) ?_
    have hPc := hP.sub (ws' := []) [] rfl
    have hKc := hK.sub (tys' := []) [] rfl
    refine vp_callSi (W.runS (As := [.int (nI o)]) (rest := []) ⟨hx, hb, hml, hown, hts⟩ (c_X8_isSet l dC dI (nI o) ) (va_cwS 1 hts gX8_insertAll_X8_isSet rfl rfl rfl (by decide +kernel) ⟨Nat.le_of_ble_eq_true rfl, Nat.le_of_ble_eq_true rfl⟩) ⟨fun a U g mk q => by obtain ⟨q0, qP, qK⟩ := q; exact ⟨q0, qP, va_K.moved (u := U) (U := U.calling g mk a) (Vm.Alike.refl U.vm) qK⟩, fun U hU hW => ⟨rfl, by rw [hU]; exact hPc, va_K.moved hW.alike hKc⟩⟩ rfl rfl hl.1 rfl (lv_room (Nat.le_of_ble_eq_true rfl)) dX8_insertAll_8 ⟨Nat.le_of_ble_eq_true rfl, Nat.le_of_ble_eq_true rfl⟩) (fun r_5 hw_4 => ?_)
    subst hw_4
    refine lv_cvi (congrArg b2i (isS_t ho)) ?_
    refine lv_if_eq (tgt := 18) hx hb dX8_insertAll_11 (by decide) (fun qc_6 => ?_) (fun qc_6 => ?_)
    · have c_6 : true = false := b2i_f qc_6
      cases c_6
    · have c_6 : true = true := b2i_t qc_6
      refine lv_iconst (v := nI 1) hx hb dX8_insertAll_14 (by decide +kernel) ?_
      refine lv_goto (tgt := 19) hx hb dX8_insertAll_15 (by decide) ?_
      refine lv_cvi ((rfl : nI 1 = b2i true)) ?_
      refine lv_istore_n (lv' := [(3, .int (b2i true)), (0, .ref q), (1, .int (nI k)), (2, .int (nI o))]) hx hb dX8_insertAll_19 rfl hl (by decide) rfl (fun ls hl => ?_)
      refine lv_aload_n hx hb dX8_insertAll_20 rfl (lv_at hl 1 rfl) ?_
      refine lv_iload_n hx hb dX8_insertAll_21 rfl (lv_at hl 0 rfl) ?_
      refine lv_iload_n hx hb dX8_insertAll_22 rfl (lv_at hl 0 rfl) ?_
      refine lv_if_eq (tgt := 41) hx hb dX8_insertAll_23 (by decide) (fun qc_7 => ?_) (fun qc_7 => ?_)
      · have c_7 : true = false := b2i_f qc_7
        cases c_7
      · have c_7 : true = true := b2i_t qc_7
        refine lv_aload_n hx hb dX8_insertAll_26 rfl (lv_at hl 1 rfl) ?_
        refine va_get (D := (dC, dI)) (ci := 7) (v := .ref zq) (C := RX8) (T := TX8) (N := 9) hx hb hts (by decide +kernel) hown hK hP 0 rfl rfl 1 (by decide) (hts (.fieldLink RX8 13 "SmallNumberSetsModel" "size" "[I") (by decide +kernel)) (fun _ h9 => h9) rfl dX8_insertAll_27 ?_
        refine lv_iload_n hx hb dX8_insertAll_30 rfl (lv_at hl 3 rfl) ?_
        refine va_iald hx hb hK hP 2 1 rfl rfl (vp_in_nI (by omega) (by omega)) dX8_insertAll_31 ?_
        refine lv_cvi (congrArg fS (nI_clamp (by omega))) ?_
        refine lv_cvi (hZ o ho) ?_
        refine lv_bipush (v := nI 30) hx hb dX8_insertAll_32 (by decide +kernel) ?_
        refine lv_icmp_gt (tgt := 41) hx hb dX8_insertAll_34 (by decide) (fun qc_8 => ?_) (fun qc_8 => ?_)
        · have c_8 : 30 < (fb_ct (M o) 4096) := (nI_ltI (a := 30) (b := fb_ct (M o) 4096) (by omega) (by omega)).mp qc_8
          refine lv_iconst (v := nI 0) hx hb dX8_insertAll_41 (by decide +kernel) ?_
          refine lv_cvi ((rfl : nI 0 = b2i false)) ?_
          have hPc := hP.sub (ws' := [(q, .inr (7, [.ref mq, .ref zq, .ref sq, .ref bq, .ref cq, .long sm, .ref pq, .int ps, .int th])), (mq, .inl (cZ, 12288, .inl fM)), (zq, .inl (cI, 3, .inl fS)), (sq, .inl (cI, 6156, .inl fP)), (bq, .inl (cI, 3, .inl fB)), (cq, .inl (cJ, 64, .inr (.inl fC))), (pq, .inl (cI, 8, .inl fT))]) [0, 1, 2, 3, 4, 5, 6] rfl
          have hKc := hK.sub (tys' := [(cZ, .boolean), (cI, .int), (cJ, .long)]) [0, 1, 2] rfl
          have hDc := hD.sub (ws' := [(q, .inr (7, [.ref mq, .ref zq, .ref sq, .ref bq, .ref cq, .long sm, .ref pq, .int ps, .int th])), (mq, .inl (cZ, 12288, .inl fM)), (zq, .inl (cI, 3, .inl fS)), (sq, .inl (cI, 6156, .inl fP)), (bq, .inl (cI, 3, .inl fB)), (cq, .inl (cJ, 64, .inr (.inl fC))), (pq, .inl (cI, 8, .inl fT))]) [0, 1, 2, 3, 4, 5, 6] (by decide) rfl
          have hFc := va_free (wc := [(q, .inr (7, [.ref mq, .ref zq, .ref sq, .ref bq, .ref cq, .long sm, .ref pq, .int ps, .int th])), (mq, .inl (cZ, 12288, .inl fM)), (zq, .inl (cI, 3, .inl fS)), (sq, .inl (cI, 6156, .inl fP)), (bq, .inl (cI, 3, .inl fB)), (cq, .inl (cJ, 64, .inr (.inl fC))), (pq, .inl (cI, 8, .inl fT))]) hD hS hA [0, 1, 2, 3, 4, 5, 6] rfl
          refine va_calli (va_runV (As := [.int (b2i true), .int (b2i false)]) (rest := []) ⟨hx, hb, hml, hown, hts⟩ (c_X8_asked_ l dC dI q mq zq sq bq cq pq cZ cI cJ fM fS fP fB fC sm fT ps th true false s.heap.size ) (cwV 2 hts gX8_insertAll_X8_asked_ rfl rfl rfl (by decide +kernel) ⟨Nat.le_of_ble_eq_true rfl, Nat.le_of_ble_eq_true rfl⟩) ⟨fun a U g mk q => by obtain ⟨q0, q1, qP, qK, qD⟩ := q; exact ⟨q0, q1, qP, va_K.moved (u := U) (U := U.calling g mk a) (Vm.Alike.refl U.vm) qK, qD⟩, va_recv hKc hPc (ci := 7) (q0 := 0) rfl rfl, fun U hU hW => ⟨rfl, by rw [hU], by rw [hU]; exact hPc, va_K.moved hW.alike hKc, hDc.weaken (fun _ _ _ _ => trivial)⟩⟩ rfl rfl hl.1 rfl (lv_room (Nat.le_of_ble_eq_true rfl)) dX8_insertAll_42 ⟨Nat.le_of_ble_eq_true rfl, Nat.le_of_ble_eq_true rfl⟩) hS (fun q _ h => hFc q h) hFc (fun r_11 u_10 t9 H1 locs ht hvm hw_9 hB hz1 hk1 hS => ?_)
          obtain ⟨th'_12, rfl⟩ : ∃ z, z = u_10 := ⟨_, rfl⟩
          obtain ⟨hP1, hK1, hD1⟩ := hB
          rw [ht] at hP1
          have hK1 := va_K.moved hvm.symm hK1
          try dsimp only at hw_9 hP1 hK1 hD1
          obtain ⟨hP, hD⟩ := va_join (wr := []) (w1 := [(q, .inr (7, [.ref mq, .ref zq, .ref sq, .ref bq, .ref cq, .long sm, .ref pq, .int ps, .int th'_12])), (mq, .inl (cZ, 12288, .inl fM)), (zq, .inl (cI, 3, .inl fS)), (sq, .inl (cI, 6156, .inl fP)), (bq, .inl (cI, 3, .inl fB)), (cq, .inl (cJ, 64, .inr (.inl fC))), (pq, .inl (cI, 8, .inl fT))]) hP hD [0, 1, 2, 3, 4, 5, 6] [] rfl rfl (by decide) (by decide) hk1 hFc hP1 hD1
          generalize H1 = H at hP hS ⊢
          have hP : va_P (dC, dI) vwCl [(q, .inr (7, [.ref mq, .ref zq, .ref sq, .ref bq, .ref cq, .long sm, .ref pq, .int ps, .int th'_12])), (mq, .inl (cZ, 12288, .inl fM)), (zq, .inl (cI, 3, .inl fS)), (sq, .inl (cI, 6156, .inl fP)), (bq, .inl (cI, 3, .inl fB)), (cq, .inl (cJ, 64, .inr (.inl fC))), (pq, .inl (cI, 8, .inl fT))] H := hP
          have hD : va_D A [(q, .inr (7, [.ref mq, .ref zq, .ref sq, .ref bq, .ref cq, .long sm, .ref pq, .int ps, .int th'_12])), (mq, .inl (cZ, 12288, .inl fM)), (zq, .inl (cI, 3, .inl fS)), (sq, .inl (cI, 6156, .inl fP)), (bq, .inl (cI, 3, .inl fB)), (cq, .inl (cJ, 64, .inr (.inl fC))), (pq, .inl (cI, 8, .inl fT))] := hD
          obtain ⟨he, hw_9⟩ := hw_9
          subst he
          have hth := hw_9
          refine lv_cvi (rfl) ?_
          refine lv_if_ne (tgt := 50) hx hb dX8_insertAll_45 (by decide) (fun qc_13 => ?_) (fun qc_13 => ?_)
          · have c_13 : false = true := b2i_t qc_13
            cases c_13
          · have c_13 : false = false := b2i_f qc_13
            refine lv_iconst (v := nI 0) hx hb dX8_insertAll_48 (by decide +kernel) ?_
            have hP9 := hP.sub (ws' := [(q, .inr (7, [.ref mq, .ref zq, .ref sq, .ref bq, .ref cq, .long sm, .ref pq, .int ps, .int th'_12])), (mq, .inl (cZ, 12288, .inl fM)), (zq, .inl (cI, 3, .inl fS)), (sq, .inl (cI, 6156, .inl fP)), (bq, .inl (cI, 3, .inl fB)), (cq, .inl (cJ, 64, .inr (.inl fC))), (pq, .inl (cI, 8, .inl fT))]) [0, 1, 2, 3, 4, 5, 6] rfl
            have hD9 := hD.sub (ws' := [(q, .inr (7, [.ref mq, .ref zq, .ref sq, .ref bq, .ref cq, .long sm, .ref pq, .int ps, .int th'_12])), (mq, .inl (cZ, 12288, .inl fM)), (zq, .inl (cI, 3, .inl fS)), (sq, .inl (cI, 6156, .inl fP)), (bq, .inl (cI, 3, .inl fB)), (cq, .inl (cJ, 64, .inr (.inl fC))), (pq, .inl (cI, 8, .inl fT))]) [0, 1, 2, 3, 4, 5, 6] (by decide) rfl
            have hK9 := hK.sub (tys' := [(cZ, .boolean), (cI, .int), (cJ, .long)]) [0, 1, 2] rfl
            exact W.iret (v := nI 0) hx hb hr (fun t9 ht hW => ⟨⟨nI 0, th'_12, rfl, hth, by rw [ht]; exact hP9, va_K.moved hW.alike hK9, hD9⟩, hS.F ht⟩) hS.2.2 dX8_insertAll_49
        · have c_8 : ¬ 30 < (fb_ct (M o) 4096) := fun h9 => qc_8 ((nI_ltI (a := 30) (b := fb_ct (M o) 4096) (by omega) (by omega)).mpr h9)
          exact absurd hn30 c_8
set_option maxHeartbeats 4000000 in
set_option maxRecDepth 100000 in
/-- reference: c_X8_insertAll_s -/
theorem c_X8_insertAll_s (l : Launch) (dC : Nat → ClassId) (dI : Nat → Nat → Nat) (q : Nat) (mq : Nat) (zq : Nat) (sq : Nat) (bq : Nat) (cq : Nat) (pq : Nat) (cZ : ClassId) (cI : ClassId) (cJ : ClassId) (fM : Nat → Int32) (fS : Nat → Int32) (fP : Nat → Int32) (fB : Nat → Int32) (fC : Nat → Int64) (sm : Int64) (fT : Nat → Int32) (ps : Int32) (th : Int32) (v : Int32) (w : Int32) (sz : Nat) (hSf : isS v = false) : Met l yX8_insertAll wsX8_insertAll ({ frames := 2, cells := 0, slots := 0, locals := 42 }) (va_Pc [.ref q, .int v, .int w] (fun U => U.heap.size = sz ∧ va_P (dC, dI) vwCl [(q, .inr (7, [.ref mq, .ref zq, .ref sq, .ref bq, .ref cq, .long sm, .ref pq, .int ps, .int th])), (mq, .inl (cZ, 12288, .inl fM)), (zq, .inl (cI, 3, .inl fS)), (sq, .inl (cI, 6156, .inl fP)), (bq, .inl (cI, 3, .inl fB)), (cq, .inl (cJ, 64, .inr (.inl fC))), (pq, .inl (cI, 8, .inl fT))] U.heap ∧ va_K (dC, dI) vwCl [(cZ, .boolean), (cI, .int), (cJ, .long)] U ∧ va_D (fun _ => True) [(q, .inr (7, [.ref mq, .ref zq, .ref sq, .ref bq, .ref cq, .long sm, .ref pq, .int ps, .int th])), (mq, .inl (cZ, 12288, .inl fM)), (zq, .inl (cI, 3, .inl fS)), (sq, .inl (cI, 6156, .inl fP)), (bq, .inl (cI, 3, .inl fB)), (cq, .inl (cJ, 64, .inr (.inl fC))), (pq, .inl (cI, 8, .inl fT))])) (va_Qi (fun (r : Int32) (u : Int32) => u = nI 1) (fun (u : Int32) (t : State) => va_P (dC, dI) vwCl [(q, .inr (7, [.ref mq, .ref zq, .ref sq, .ref bq, .ref cq, .long sm, .ref pq, .int ps, .int u])), (mq, .inl (cZ, 12288, .inl fM)), (zq, .inl (cI, 3, .inl fS)), (sq, .inl (cI, 6156, .inl fP)), (bq, .inl (cI, 3, .inl fB)), (cq, .inl (cJ, 64, .inr (.inl fC))), (pq, .inl (cI, 8, .inl fT))] t.heap ∧ va_K (dC, dI) vwCl [(cZ, .boolean), (cI, .int), (cJ, .long)] t ∧ va_D (va_A [(q, .inr (7, [.ref mq, .ref zq, .ref sq, .ref bq, .ref cq, .long sm, .ref pq, .int ps, .int th])), (mq, .inl (cZ, 12288, .inl fM)), (zq, .inl (cI, 3, .inl fS)), (sq, .inl (cI, 6156, .inl fP)), (bq, .inl (cI, 3, .inl fB)), (cq, .inl (cJ, 64, .inr (.inl fC))), (pq, .inl (cI, 8, .inl fT))] sz) [(q, .inr (7, [.ref mq, .ref zq, .ref sq, .ref bq, .ref cq, .long sm, .ref pq, .int ps, .int u])), (mq, .inl (cZ, 12288, .inl fM)), (zq, .inl (cI, 3, .inl fS)), (sq, .inl (cI, 6156, .inl fP)), (bq, .inl (cI, 3, .inl fB)), (cq, .inl (cJ, 64, .inr (.inl fC))), (pq, .inl (cI, 8, .inl fT))]) (va_A [(q, .inr (7, [.ref mq, .ref zq, .ref sq, .ref bq, .ref cq, .long sm, .ref pq, .int ps, .int th])), (mq, .inl (cZ, 12288, .inl fM)), (zq, .inl (cI, 3, .inl fS)), (sq, .inl (cI, 6156, .inl fP)), (bq, .inl (cI, 3, .inl fB)), (cq, .inl (cJ, 64, .inr (.inl fC))), (pq, .inl (cI, 8, .inl fT))] sz)) 0 0 (va_A [(q, .inr (7, [.ref mq, .ref zq, .ref sq, .ref bq, .ref cq, .long sm, .ref pq, .int ps, .int th])), (mq, .inl (cZ, 12288, .inl fM)), (zq, .inl (cI, 3, .inl fS)), (sq, .inl (cI, 6156, .inl fP)), (bq, .inl (cI, 3, .inl fB)), (cq, .inl (cJ, 64, .inr (.inl fC))), (pq, .inl (cI, 8, .inl fT))] sz) := by
  refine Met.ofW (cc := cX8_insertAll) (maxL := 6) (ret := (some .int)) (by decide) rfl ?_
  intro p e s m args below meth c s₁ B hml hv
  obtain ⟨rfl, hsz, hP, hK, hD0⟩ := hv
  have hx := B.exec
  have hb := B.bytes
  have hr := B.returns
  have hts := atoms_spec (ws := wsX8_insertAll) B.pre
  have hown : s.vm.findClass RX8 = some m.cls := findClass_of_methodNamed B.named
  have hlocks := B.notSynchronized
  subst hsz
  have hD := hD0.self (sz := s.heap.size)
  generalize hAe : va_A [(q, .inr (7, [.ref mq, .ref zq, .ref sq, .ref bq, .ref cq, .long sm, .ref pq, .int ps, .int th])), (mq, .inl (cZ, 12288, .inl fM)), (zq, .inl (cI, 3, .inl fS)), (sq, .inl (cI, 6156, .inl fP)), (bq, .inl (cI, 3, .inl fB)), (cq, .inl (cJ, 64, .inr (.inl fC))), (pq, .inl (cI, 8, .inl fT))] s.heap.size = A at hD ⊢
  have hA : ∀ q : Nat, s.heap.size ≤ q → A q := fun q h => by rw [← hAe]; exact Or.inr h
  have hS : va_S A s.heap s.heap [] := va_S.rf
  have hP : va_P (dC, dI) vwCl [(q, .inr (7, [.ref mq, .ref zq, .ref sq, .ref bq, .ref cq, .long sm, .ref pq, .int ps, .int th])), (mq, .inl (cZ, 12288, .inl fM)), (zq, .inl (cI, 3, .inl fS)), (sq, .inl (cI, 6156, .inl fP)), (bq, .inl (cI, 3, .inl fB)), (cq, .inl (cJ, 64, .inr (.inl fC))), (pq, .inl (cI, 8, .inl fT))] s.heap := hP
  have hl := lv_entry ([.ref q, .int v, .int w]) (n := 6) (Nat.le_of_ble_eq_true rfl)
  rw [lg_entry_eq]
  generalize (lg_sl ([.ref q, .int v, .int w]) ++ List.replicate (6 - (lg_sl ([.ref q, .int v, .int w])).length) Slot.unset).toArray = ls at hl ⊢
  have hl : lv_has ls 6 [(0, .ref q), (1, .int v), (2, .int w)] := hl
  refine lv_iload_n hx hb dX8_insertAll_0 rfl (lv_at hl 1 rfl) ?_
  have hPc := hP.sub (ws' := []) [] rfl
  have hKc := hK.sub (tys' := []) [] rfl
  refine vp_callSi (W.runS (As := [.int v]) (rest := []) ⟨hx, hb, hml, hown, hts⟩ (c_X8_isSet l dC dI v ) (va_cwS 1 hts gX8_insertAll_X8_isSet rfl rfl rfl (by decide +kernel) ⟨Nat.le_of_ble_eq_true rfl, Nat.le_of_ble_eq_true rfl⟩) ⟨fun a U g mk q => by obtain ⟨q0, qP, qK⟩ := q; exact ⟨q0, qP, va_K.moved (u := U) (U := U.calling g mk a) (Vm.Alike.refl U.vm) qK⟩, fun U hU hW => ⟨rfl, by rw [hU]; exact hPc, va_K.moved hW.alike hKc⟩⟩ rfl rfl hl.1 rfl (lv_room (Nat.le_of_ble_eq_true rfl)) dX8_insertAll_1 ⟨Nat.le_of_ble_eq_true rfl, Nat.le_of_ble_eq_true rfl⟩) (fun r_2 hw_1 => ?_)
  subst hw_1
  refine lv_cvi (congrArg b2i (hSf)) ?_
  refine lv_if_eq (tgt := 18) hx hb dX8_insertAll_4 (by decide) (fun qc_3 => ?_) (fun qc_3 => ?_)
  · have c_3 : false = false := b2i_f qc_3
    refine lv_iconst (v := nI 0) hx hb dX8_insertAll_18 (by decide +kernel) ?_
    refine lv_cvi ((rfl : nI 0 = b2i false)) ?_
    refine lv_istore_n (lv' := [(3, .int (b2i false)), (0, .ref q), (1, .int v), (2, .int w)]) hx hb dX8_insertAll_19 rfl hl (by decide) rfl (fun ls hl => ?_)
    refine lv_aload_n hx hb dX8_insertAll_20 rfl (lv_at hl 1 rfl) ?_
    refine lv_iload_n hx hb dX8_insertAll_21 rfl (lv_at hl 0 rfl) ?_
    refine lv_iload_n hx hb dX8_insertAll_22 rfl (lv_at hl 0 rfl) ?_
    refine lv_if_eq (tgt := 41) hx hb dX8_insertAll_23 (by decide) (fun qc_4 => ?_) (fun qc_4 => ?_)
    · have c_4 : false = false := b2i_f qc_4
      refine lv_iconst (v := nI 0) hx hb dX8_insertAll_41 (by decide +kernel) ?_
      refine lv_cvi ((rfl : nI 0 = b2i false)) ?_
      have hPc := hP.sub (ws' := [(q, .inr (7, [.ref mq, .ref zq, .ref sq, .ref bq, .ref cq, .long sm, .ref pq, .int ps, .int th])), (mq, .inl (cZ, 12288, .inl fM)), (zq, .inl (cI, 3, .inl fS)), (sq, .inl (cI, 6156, .inl fP)), (bq, .inl (cI, 3, .inl fB)), (cq, .inl (cJ, 64, .inr (.inl fC))), (pq, .inl (cI, 8, .inl fT))]) [0, 1, 2, 3, 4, 5, 6] rfl
      have hKc := hK.sub (tys' := [(cZ, .boolean), (cI, .int), (cJ, .long)]) [0, 1, 2] rfl
      have hDc := hD.sub (ws' := [(q, .inr (7, [.ref mq, .ref zq, .ref sq, .ref bq, .ref cq, .long sm, .ref pq, .int ps, .int th])), (mq, .inl (cZ, 12288, .inl fM)), (zq, .inl (cI, 3, .inl fS)), (sq, .inl (cI, 6156, .inl fP)), (bq, .inl (cI, 3, .inl fB)), (cq, .inl (cJ, 64, .inr (.inl fC))), (pq, .inl (cI, 8, .inl fT))]) [0, 1, 2, 3, 4, 5, 6] (by decide) rfl
      have hFc := va_free (wc := [(q, .inr (7, [.ref mq, .ref zq, .ref sq, .ref bq, .ref cq, .long sm, .ref pq, .int ps, .int th])), (mq, .inl (cZ, 12288, .inl fM)), (zq, .inl (cI, 3, .inl fS)), (sq, .inl (cI, 6156, .inl fP)), (bq, .inl (cI, 3, .inl fB)), (cq, .inl (cJ, 64, .inr (.inl fC))), (pq, .inl (cI, 8, .inl fT))]) hD hS hA [0, 1, 2, 3, 4, 5, 6] rfl
      refine va_calli (va_runV (As := [.int (b2i false), .int (b2i false)]) (rest := []) ⟨hx, hb, hml, hown, hts⟩ (c_X8_asked_ l dC dI q mq zq sq bq cq pq cZ cI cJ fM fS fP fB fC sm fT ps th false false s.heap.size ) (cwV 2 hts gX8_insertAll_X8_asked_ rfl rfl rfl (by decide +kernel) ⟨Nat.le_of_ble_eq_true rfl, Nat.le_of_ble_eq_true rfl⟩) ⟨fun a U g mk q => by obtain ⟨q0, q1, qP, qK, qD⟩ := q; exact ⟨q0, q1, qP, va_K.moved (u := U) (U := U.calling g mk a) (Vm.Alike.refl U.vm) qK, qD⟩, va_recv hKc hPc (ci := 7) (q0 := 0) rfl rfl, fun U hU hW => ⟨rfl, by rw [hU], by rw [hU]; exact hPc, va_K.moved hW.alike hKc, hDc.weaken (fun _ _ _ _ => trivial)⟩⟩ rfl rfl hl.1 rfl (lv_room (Nat.le_of_ble_eq_true rfl)) dX8_insertAll_42 ⟨Nat.le_of_ble_eq_true rfl, Nat.le_of_ble_eq_true rfl⟩) hS (fun q _ h => hFc q h) hFc (fun r_7 u_6 t9 H1 locs ht hvm hw_5 hB hz1 hk1 hS => ?_)
      obtain ⟨th'_8, rfl⟩ : ∃ z, z = u_6 := ⟨_, rfl⟩
      obtain ⟨hP1, hK1, hD1⟩ := hB
      rw [ht] at hP1
      have hK1 := va_K.moved hvm.symm hK1
      try dsimp only at hw_5 hP1 hK1 hD1
      obtain ⟨hP, hD⟩ := va_join (wr := []) (w1 := [(q, .inr (7, [.ref mq, .ref zq, .ref sq, .ref bq, .ref cq, .long sm, .ref pq, .int ps, .int th'_8])), (mq, .inl (cZ, 12288, .inl fM)), (zq, .inl (cI, 3, .inl fS)), (sq, .inl (cI, 6156, .inl fP)), (bq, .inl (cI, 3, .inl fB)), (cq, .inl (cJ, 64, .inr (.inl fC))), (pq, .inl (cI, 8, .inl fT))]) hP hD [0, 1, 2, 3, 4, 5, 6] [] rfl rfl (by decide) (by decide) hk1 hFc hP1 hD1
      generalize H1 = H at hP hS ⊢
      have hP : va_P (dC, dI) vwCl [(q, .inr (7, [.ref mq, .ref zq, .ref sq, .ref bq, .ref cq, .long sm, .ref pq, .int ps, .int th'_8])), (mq, .inl (cZ, 12288, .inl fM)), (zq, .inl (cI, 3, .inl fS)), (sq, .inl (cI, 6156, .inl fP)), (bq, .inl (cI, 3, .inl fB)), (cq, .inl (cJ, 64, .inr (.inl fC))), (pq, .inl (cI, 8, .inl fT))] H := hP
      have hD : va_D A [(q, .inr (7, [.ref mq, .ref zq, .ref sq, .ref bq, .ref cq, .long sm, .ref pq, .int ps, .int th'_8])), (mq, .inl (cZ, 12288, .inl fM)), (zq, .inl (cI, 3, .inl fS)), (sq, .inl (cI, 6156, .inl fP)), (bq, .inl (cI, 3, .inl fB)), (cq, .inl (cJ, 64, .inr (.inl fC))), (pq, .inl (cI, 8, .inl fT))] := hD
      obtain ⟨he, hw_5⟩ := hw_5
      subst he
      have hth := hw_5
      refine lv_cvi (rfl) ?_
      refine lv_if_ne (tgt := 50) hx hb dX8_insertAll_45 (by decide) (fun qc_9 => ?_) (fun qc_9 => ?_)
      · have c_9 : false = true := b2i_t qc_9
        cases c_9
      · have c_9 : false = false := b2i_f qc_9
        refine lv_iconst (v := nI 0) hx hb dX8_insertAll_48 (by decide +kernel) ?_
        have hP9 := hP.sub (ws' := [(q, .inr (7, [.ref mq, .ref zq, .ref sq, .ref bq, .ref cq, .long sm, .ref pq, .int ps, .int th'_8])), (mq, .inl (cZ, 12288, .inl fM)), (zq, .inl (cI, 3, .inl fS)), (sq, .inl (cI, 6156, .inl fP)), (bq, .inl (cI, 3, .inl fB)), (cq, .inl (cJ, 64, .inr (.inl fC))), (pq, .inl (cI, 8, .inl fT))]) [0, 1, 2, 3, 4, 5, 6] rfl
        have hD9 := hD.sub (ws' := [(q, .inr (7, [.ref mq, .ref zq, .ref sq, .ref bq, .ref cq, .long sm, .ref pq, .int ps, .int th'_8])), (mq, .inl (cZ, 12288, .inl fM)), (zq, .inl (cI, 3, .inl fS)), (sq, .inl (cI, 6156, .inl fP)), (bq, .inl (cI, 3, .inl fB)), (cq, .inl (cJ, 64, .inr (.inl fC))), (pq, .inl (cI, 8, .inl fT))]) [0, 1, 2, 3, 4, 5, 6] (by decide) rfl
        have hK9 := hK.sub (tys' := [(cZ, .boolean), (cI, .int), (cJ, .long)]) [0, 1, 2] rfl
        exact W.iret (v := nI 0) hx hb hr (fun t9 ht hW => ⟨⟨nI 0, th'_8, rfl, hth, by rw [ht]; exact hP9, va_K.moved hW.alike hK9, hD9⟩, hS.F ht⟩) hS.2.2 dX8_insertAll_49
    · have c_4 : false = true := b2i_t qc_4
      cases c_4
  · have c_3 : false = true := b2i_t qc_3
    cases c_3
set_option maxHeartbeats 4000000 in
set_option maxRecDepth 100000 in
/-- reference: c_X8_insertAll_t -/
theorem c_X8_insertAll_t (l : Launch) (dC : Nat → ClassId) (dI : Nat → Nat → Nat) (q : Nat) (mq : Nat) (zq : Nat) (sq : Nat) (bq : Nat) (cq : Nat) (pq : Nat) (cZ : ClassId) (cI : ClassId) (cJ : ClassId) (fM : Nat → Int32) (fS : Nat → Int32) (fP : Nat → Int32) (fB : Nat → Int32) (fC : Nat → Int64) (sm : Int64) (fT : Nat → Int32) (ps : Int32) (th : Int32) (k : Nat) (w : Int32) (sz : Nat) (hk : k < 3) (hW : isS w = false) : Met l yX8_insertAll wsX8_insertAll ({ frames := 2, cells := 0, slots := 0, locals := 42 }) (va_Pc [.ref q, .int (nI k), .int w] (fun U => U.heap.size = sz ∧ va_P (dC, dI) vwCl [(q, .inr (7, [.ref mq, .ref zq, .ref sq, .ref bq, .ref cq, .long sm, .ref pq, .int ps, .int th])), (mq, .inl (cZ, 12288, .inl fM)), (zq, .inl (cI, 3, .inl fS)), (sq, .inl (cI, 6156, .inl fP)), (bq, .inl (cI, 3, .inl fB)), (cq, .inl (cJ, 64, .inr (.inl fC))), (pq, .inl (cI, 8, .inl fT))] U.heap ∧ va_K (dC, dI) vwCl [(cZ, .boolean), (cI, .int), (cJ, .long)] U ∧ va_D (fun _ => True) [(q, .inr (7, [.ref mq, .ref zq, .ref sq, .ref bq, .ref cq, .long sm, .ref pq, .int ps, .int th])), (mq, .inl (cZ, 12288, .inl fM)), (zq, .inl (cI, 3, .inl fS)), (sq, .inl (cI, 6156, .inl fP)), (bq, .inl (cI, 3, .inl fB)), (cq, .inl (cJ, 64, .inr (.inl fC))), (pq, .inl (cI, 8, .inl fT))])) (va_Qi (fun (r : Int32) (u : Int32) => u = nI 1) (fun (u : Int32) (t : State) => va_P (dC, dI) vwCl [(q, .inr (7, [.ref mq, .ref zq, .ref sq, .ref bq, .ref cq, .long sm, .ref pq, .int ps, .int u])), (mq, .inl (cZ, 12288, .inl fM)), (zq, .inl (cI, 3, .inl fS)), (sq, .inl (cI, 6156, .inl fP)), (bq, .inl (cI, 3, .inl fB)), (cq, .inl (cJ, 64, .inr (.inl fC))), (pq, .inl (cI, 8, .inl fT))] t.heap ∧ va_K (dC, dI) vwCl [(cZ, .boolean), (cI, .int), (cJ, .long)] t ∧ va_D (va_A [(q, .inr (7, [.ref mq, .ref zq, .ref sq, .ref bq, .ref cq, .long sm, .ref pq, .int ps, .int th])), (mq, .inl (cZ, 12288, .inl fM)), (zq, .inl (cI, 3, .inl fS)), (sq, .inl (cI, 6156, .inl fP)), (bq, .inl (cI, 3, .inl fB)), (cq, .inl (cJ, 64, .inr (.inl fC))), (pq, .inl (cI, 8, .inl fT))] sz) [(q, .inr (7, [.ref mq, .ref zq, .ref sq, .ref bq, .ref cq, .long sm, .ref pq, .int ps, .int u])), (mq, .inl (cZ, 12288, .inl fM)), (zq, .inl (cI, 3, .inl fS)), (sq, .inl (cI, 6156, .inl fP)), (bq, .inl (cI, 3, .inl fB)), (cq, .inl (cJ, 64, .inr (.inl fC))), (pq, .inl (cI, 8, .inl fT))]) (va_A [(q, .inr (7, [.ref mq, .ref zq, .ref sq, .ref bq, .ref cq, .long sm, .ref pq, .int ps, .int th])), (mq, .inl (cZ, 12288, .inl fM)), (zq, .inl (cI, 3, .inl fS)), (sq, .inl (cI, 6156, .inl fP)), (bq, .inl (cI, 3, .inl fB)), (cq, .inl (cJ, 64, .inr (.inl fC))), (pq, .inl (cI, 8, .inl fT))] sz)) 0 0 (va_A [(q, .inr (7, [.ref mq, .ref zq, .ref sq, .ref bq, .ref cq, .long sm, .ref pq, .int ps, .int th])), (mq, .inl (cZ, 12288, .inl fM)), (zq, .inl (cI, 3, .inl fS)), (sq, .inl (cI, 6156, .inl fP)), (bq, .inl (cI, 3, .inl fB)), (cq, .inl (cJ, 64, .inr (.inl fC))), (pq, .inl (cI, 8, .inl fT))] sz) := by
  refine Met.ofW (cc := cX8_insertAll) (maxL := 6) (ret := (some .int)) (by decide) rfl ?_
  intro p e s m args below meth c s₁ B hml hv
  obtain ⟨rfl, hsz, hP, hK, hD0⟩ := hv
  have hx := B.exec
  have hb := B.bytes
  have hr := B.returns
  have hts := atoms_spec (ws := wsX8_insertAll) B.pre
  have hown : s.vm.findClass RX8 = some m.cls := findClass_of_methodNamed B.named
  have hlocks := B.notSynchronized
  subst hsz
  have hD := hD0.self (sz := s.heap.size)
  generalize hAe : va_A [(q, .inr (7, [.ref mq, .ref zq, .ref sq, .ref bq, .ref cq, .long sm, .ref pq, .int ps, .int th])), (mq, .inl (cZ, 12288, .inl fM)), (zq, .inl (cI, 3, .inl fS)), (sq, .inl (cI, 6156, .inl fP)), (bq, .inl (cI, 3, .inl fB)), (cq, .inl (cJ, 64, .inr (.inl fC))), (pq, .inl (cI, 8, .inl fT))] s.heap.size = A at hD ⊢
  have hA : ∀ q : Nat, s.heap.size ≤ q → A q := fun q h => by rw [← hAe]; exact Or.inr h
  have hS : va_S A s.heap s.heap [] := va_S.rf
  have hP : va_P (dC, dI) vwCl [(q, .inr (7, [.ref mq, .ref zq, .ref sq, .ref bq, .ref cq, .long sm, .ref pq, .int ps, .int th])), (mq, .inl (cZ, 12288, .inl fM)), (zq, .inl (cI, 3, .inl fS)), (sq, .inl (cI, 6156, .inl fP)), (bq, .inl (cI, 3, .inl fB)), (cq, .inl (cJ, 64, .inr (.inl fC))), (pq, .inl (cI, 8, .inl fT))] s.heap := hP
  have hl := lv_entry ([.ref q, .int (nI k), .int w]) (n := 6) (Nat.le_of_ble_eq_true rfl)
  rw [lg_entry_eq]
  generalize (lg_sl ([.ref q, .int (nI k), .int w]) ++ List.replicate (6 - (lg_sl ([.ref q, .int (nI k), .int w])).length) Slot.unset).toArray = ls at hl ⊢
  have hl : lv_has ls 6 [(0, .ref q), (1, .int (nI k)), (2, .int w)] := hl
  refine lv_iload_n hx hb dX8_insertAll_0 rfl (lv_at hl 1 rfl) ?_
  have hPc := hP.sub (ws' := []) [] rfl
  have hKc := hK.sub (tys' := []) [] rfl
  refine vp_callSi (W.runS (As := [.int (nI k)]) (rest := []) ⟨hx, hb, hml, hown, hts⟩ (c_X8_isSet l dC dI (nI k) ) (va_cwS 1 hts gX8_insertAll_X8_isSet rfl rfl rfl (by decide +kernel) ⟨Nat.le_of_ble_eq_true rfl, Nat.le_of_ble_eq_true rfl⟩) ⟨fun a U g mk q => by obtain ⟨q0, qP, qK⟩ := q; exact ⟨q0, qP, va_K.moved (u := U) (U := U.calling g mk a) (Vm.Alike.refl U.vm) qK⟩, fun U hU hW => ⟨rfl, by rw [hU]; exact hPc, va_K.moved hW.alike hKc⟩⟩ rfl rfl hl.1 rfl (lv_room (Nat.le_of_ble_eq_true rfl)) dX8_insertAll_1 ⟨Nat.le_of_ble_eq_true rfl, Nat.le_of_ble_eq_true rfl⟩) (fun r_2 hw_1 => ?_)
  subst hw_1
  refine lv_cvi (congrArg b2i (isS_t hk)) ?_
  refine lv_if_eq (tgt := 18) hx hb dX8_insertAll_4 (by decide) (fun qc_3 => ?_) (fun qc_3 => ?_)
  · have c_3 : true = false := b2i_f qc_3
    cases c_3
  · have c_3 : true = true := b2i_t qc_3
    refine lv_iload_n hx hb dX8_insertAll_7 rfl (lv_at hl 2 rfl) ?_
    have hPc := hP.sub (ws' := []) [] rfl
    have hKc := hK.sub (tys' := []) [] rfl
    refine vp_callSi (W.runS (As := [.int w]) (rest := []) ⟨hx, hb, hml, hown, hts⟩ (c_X8_isSet l dC dI w ) (va_cwS 1 hts gX8_insertAll_X8_isSet rfl rfl rfl (by decide +kernel) ⟨Nat.le_of_ble_eq_true rfl, Nat.le_of_ble_eq_true rfl⟩) ⟨fun a U g mk q => by obtain ⟨q0, qP, qK⟩ := q; exact ⟨q0, qP, va_K.moved (u := U) (U := U.calling g mk a) (Vm.Alike.refl U.vm) qK⟩, fun U hU hW => ⟨rfl, by rw [hU]; exact hPc, va_K.moved hW.alike hKc⟩⟩ rfl rfl hl.1 rfl (lv_room (Nat.le_of_ble_eq_true rfl)) dX8_insertAll_8 ⟨Nat.le_of_ble_eq_true rfl, Nat.le_of_ble_eq_true rfl⟩) (fun r_5 hw_4 => ?_)
    subst hw_4
    refine lv_cvi (congrArg b2i (hW)) ?_
    refine lv_if_eq (tgt := 18) hx hb dX8_insertAll_11 (by decide) (fun qc_6 => ?_) (fun qc_6 => ?_)
    · have c_6 : false = false := b2i_f qc_6
      refine lv_iconst (v := nI 0) hx hb dX8_insertAll_18 (by decide +kernel) ?_
      refine lv_cvi ((rfl : nI 0 = b2i false)) ?_
      refine lv_istore_n (lv' := [(3, .int (b2i false)), (0, .ref q), (1, .int (nI k)), (2, .int w)]) hx hb dX8_insertAll_19 rfl hl (by decide) rfl (fun ls hl => ?_)
      refine lv_aload_n hx hb dX8_insertAll_20 rfl (lv_at hl 1 rfl) ?_
      refine lv_iload_n hx hb dX8_insertAll_21 rfl (lv_at hl 0 rfl) ?_
      refine lv_iload_n hx hb dX8_insertAll_22 rfl (lv_at hl 0 rfl) ?_
      refine lv_if_eq (tgt := 41) hx hb dX8_insertAll_23 (by decide) (fun qc_7 => ?_) (fun qc_7 => ?_)
      · have c_7 : false = false := b2i_f qc_7
        refine lv_iconst (v := nI 0) hx hb dX8_insertAll_41 (by decide +kernel) ?_
        refine lv_cvi ((rfl : nI 0 = b2i false)) ?_
        have hPc := hP.sub (ws' := [(q, .inr (7, [.ref mq, .ref zq, .ref sq, .ref bq, .ref cq, .long sm, .ref pq, .int ps, .int th])), (mq, .inl (cZ, 12288, .inl fM)), (zq, .inl (cI, 3, .inl fS)), (sq, .inl (cI, 6156, .inl fP)), (bq, .inl (cI, 3, .inl fB)), (cq, .inl (cJ, 64, .inr (.inl fC))), (pq, .inl (cI, 8, .inl fT))]) [0, 1, 2, 3, 4, 5, 6] rfl
        have hKc := hK.sub (tys' := [(cZ, .boolean), (cI, .int), (cJ, .long)]) [0, 1, 2] rfl
        have hDc := hD.sub (ws' := [(q, .inr (7, [.ref mq, .ref zq, .ref sq, .ref bq, .ref cq, .long sm, .ref pq, .int ps, .int th])), (mq, .inl (cZ, 12288, .inl fM)), (zq, .inl (cI, 3, .inl fS)), (sq, .inl (cI, 6156, .inl fP)), (bq, .inl (cI, 3, .inl fB)), (cq, .inl (cJ, 64, .inr (.inl fC))), (pq, .inl (cI, 8, .inl fT))]) [0, 1, 2, 3, 4, 5, 6] (by decide) rfl
        have hFc := va_free (wc := [(q, .inr (7, [.ref mq, .ref zq, .ref sq, .ref bq, .ref cq, .long sm, .ref pq, .int ps, .int th])), (mq, .inl (cZ, 12288, .inl fM)), (zq, .inl (cI, 3, .inl fS)), (sq, .inl (cI, 6156, .inl fP)), (bq, .inl (cI, 3, .inl fB)), (cq, .inl (cJ, 64, .inr (.inl fC))), (pq, .inl (cI, 8, .inl fT))]) hD hS hA [0, 1, 2, 3, 4, 5, 6] rfl
        refine va_calli (va_runV (As := [.int (b2i false), .int (b2i false)]) (rest := []) ⟨hx, hb, hml, hown, hts⟩ (c_X8_asked_ l dC dI q mq zq sq bq cq pq cZ cI cJ fM fS fP fB fC sm fT ps th false false s.heap.size ) (cwV 2 hts gX8_insertAll_X8_asked_ rfl rfl rfl (by decide +kernel) ⟨Nat.le_of_ble_eq_true rfl, Nat.le_of_ble_eq_true rfl⟩) ⟨fun a U g mk q => by obtain ⟨q0, q1, qP, qK, qD⟩ := q; exact ⟨q0, q1, qP, va_K.moved (u := U) (U := U.calling g mk a) (Vm.Alike.refl U.vm) qK, qD⟩, va_recv hKc hPc (ci := 7) (q0 := 0) rfl rfl, fun U hU hW => ⟨rfl, by rw [hU], by rw [hU]; exact hPc, va_K.moved hW.alike hKc, hDc.weaken (fun _ _ _ _ => trivial)⟩⟩ rfl rfl hl.1 rfl (lv_room (Nat.le_of_ble_eq_true rfl)) dX8_insertAll_42 ⟨Nat.le_of_ble_eq_true rfl, Nat.le_of_ble_eq_true rfl⟩) hS (fun q _ h => hFc q h) hFc (fun r_10 u_9 t9 H1 locs ht hvm hw_8 hB hz1 hk1 hS => ?_)
        obtain ⟨th'_11, rfl⟩ : ∃ z, z = u_9 := ⟨_, rfl⟩
        obtain ⟨hP1, hK1, hD1⟩ := hB
        rw [ht] at hP1
        have hK1 := va_K.moved hvm.symm hK1
        try dsimp only at hw_8 hP1 hK1 hD1
        obtain ⟨hP, hD⟩ := va_join (wr := []) (w1 := [(q, .inr (7, [.ref mq, .ref zq, .ref sq, .ref bq, .ref cq, .long sm, .ref pq, .int ps, .int th'_11])), (mq, .inl (cZ, 12288, .inl fM)), (zq, .inl (cI, 3, .inl fS)), (sq, .inl (cI, 6156, .inl fP)), (bq, .inl (cI, 3, .inl fB)), (cq, .inl (cJ, 64, .inr (.inl fC))), (pq, .inl (cI, 8, .inl fT))]) hP hD [0, 1, 2, 3, 4, 5, 6] [] rfl rfl (by decide) (by decide) hk1 hFc hP1 hD1
        generalize H1 = H at hP hS ⊢
        have hP : va_P (dC, dI) vwCl [(q, .inr (7, [.ref mq, .ref zq, .ref sq, .ref bq, .ref cq, .long sm, .ref pq, .int ps, .int th'_11])), (mq, .inl (cZ, 12288, .inl fM)), (zq, .inl (cI, 3, .inl fS)), (sq, .inl (cI, 6156, .inl fP)), (bq, .inl (cI, 3, .inl fB)), (cq, .inl (cJ, 64, .inr (.inl fC))), (pq, .inl (cI, 8, .inl fT))] H := hP
        have hD : va_D A [(q, .inr (7, [.ref mq, .ref zq, .ref sq, .ref bq, .ref cq, .long sm, .ref pq, .int ps, .int th'_11])), (mq, .inl (cZ, 12288, .inl fM)), (zq, .inl (cI, 3, .inl fS)), (sq, .inl (cI, 6156, .inl fP)), (bq, .inl (cI, 3, .inl fB)), (cq, .inl (cJ, 64, .inr (.inl fC))), (pq, .inl (cI, 8, .inl fT))] := hD
        obtain ⟨he, hw_8⟩ := hw_8
        subst he
        have hth := hw_8
        refine lv_cvi (rfl) ?_
        refine lv_if_ne (tgt := 50) hx hb dX8_insertAll_45 (by decide) (fun qc_12 => ?_) (fun qc_12 => ?_)
        · have c_12 : false = true := b2i_t qc_12
          cases c_12
        · have c_12 : false = false := b2i_f qc_12
          refine lv_iconst (v := nI 0) hx hb dX8_insertAll_48 (by decide +kernel) ?_
          have hP9 := hP.sub (ws' := [(q, .inr (7, [.ref mq, .ref zq, .ref sq, .ref bq, .ref cq, .long sm, .ref pq, .int ps, .int th'_11])), (mq, .inl (cZ, 12288, .inl fM)), (zq, .inl (cI, 3, .inl fS)), (sq, .inl (cI, 6156, .inl fP)), (bq, .inl (cI, 3, .inl fB)), (cq, .inl (cJ, 64, .inr (.inl fC))), (pq, .inl (cI, 8, .inl fT))]) [0, 1, 2, 3, 4, 5, 6] rfl
          have hD9 := hD.sub (ws' := [(q, .inr (7, [.ref mq, .ref zq, .ref sq, .ref bq, .ref cq, .long sm, .ref pq, .int ps, .int th'_11])), (mq, .inl (cZ, 12288, .inl fM)), (zq, .inl (cI, 3, .inl fS)), (sq, .inl (cI, 6156, .inl fP)), (bq, .inl (cI, 3, .inl fB)), (cq, .inl (cJ, 64, .inr (.inl fC))), (pq, .inl (cI, 8, .inl fT))]) [0, 1, 2, 3, 4, 5, 6] (by decide) rfl
          have hK9 := hK.sub (tys' := [(cZ, .boolean), (cI, .int), (cJ, .long)]) [0, 1, 2] rfl
          exact W.iret (v := nI 0) hx hb hr (fun t9 ht hW => ⟨⟨nI 0, th'_11, rfl, hth, by rw [ht]; exact hP9, va_K.moved hW.alike hK9, hD9⟩, hS.F ht⟩) hS.2.2 dX8_insertAll_49
      · have c_7 : false = true := b2i_t qc_7
        cases c_7
    · have c_6 : false = true := b2i_t qc_6
      cases c_6
