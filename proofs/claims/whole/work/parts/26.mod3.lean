set_option maxHeartbeats 4000000 in
set_option maxRecDepth 100000 in
/-- reference: c_X8_insert_v -/
theorem c_X8_insert_v (l : Launch) (dC : Nat → ClassId) (dI : Nat → Nat → Nat) (q : Nat) (mq : Nat) (zq : Nat) (sq : Nat) (bq : Nat) (cq : Nat) (pq : Nat) (cZ : ClassId) (cI : ClassId) (cJ : ClassId) (fM : Nat → Int32) (fS : Nat → Int32) (fP : Nat → Int32) (fB : Nat → Int32) (fC : Nat → Int64) (sm : Int64) (fT : Nat → Int32) (ps : Int32) (th : Int32) (M : Nat → Nat → Bool) (P : Nat → Nat → Bool) (k : Nat) (x : Nat) (sz : Nat) (hM : MM fM M) (hZ : MZ fS M) (hX : MX fP fB P) (hk : k < 3) (hxx : x < 4096) (hB : BI (M k) (P k)) : Met l yX8_insert wsX8_insert ({ frames := 4, cells := 0, slots := 0, locals := 94 }) (va_Pc [.ref q, .int (nI k), .int (nI x)] (fun U => U.heap.size = sz ∧ va_P (dC, dI) vwCl [(q, .inr (7, [.ref mq, .ref zq, .ref sq, .ref bq, .ref cq, .long sm, .ref pq, .int ps, .int th])), (mq, .inl (cZ, 12288, .inl fM)), (zq, .inl (cI, 3, .inl fS)), (sq, .inl (cI, 6156, .inl fP)), (bq, .inl (cI, 3, .inl fB)), (cq, .inl (cJ, 64, .inr (.inl fC))), (pq, .inl (cI, 8, .inl fT))] U.heap ∧ va_K (dC, dI) vwCl [(cZ, .boolean), (cI, .int), (cJ, .long)] U ∧ va_D (fun _ => True) [(q, .inr (7, [.ref mq, .ref zq, .ref sq, .ref bq, .ref cq, .long sm, .ref pq, .int ps, .int th])), (mq, .inl (cZ, 12288, .inl fM)), (zq, .inl (cI, 3, .inl fS)), (sq, .inl (cI, 6156, .inl fP)), (bq, .inl (cI, 3, .inl fB)), (cq, .inl (cJ, 64, .inr (.inl fC))), (pq, .inl (cI, 8, .inl fT))])) (va_Qi (fun (r : Int32) (u : (Nat → Int32) × (Nat → Int32) × (Nat → Int32) × (Nat → Int32) × Int32) => r = b2i (!M k x) ∧ MM u.1 (upF M k (ins (M k) x)) ∧ MZ u.2.1 (upF M k (ins (M k) x)) ∧ MX u.2.2.1 u.2.2.2.1 (upF P k (putP (M k) (P k) x)) ∧ u.2.2.2.2 = nI 0) (fun (u : (Nat → Int32) × (Nat → Int32) × (Nat → Int32) × (Nat → Int32) × Int32) (t : State) => va_P (dC, dI) vwCl [(q, .inr (7, [.ref mq, .ref zq, .ref sq, .ref bq, .ref cq, .long sm, .ref pq, .int ps, .int u.2.2.2.2])), (mq, .inl (cZ, 12288, .inl u.1)), (zq, .inl (cI, 3, .inl u.2.1)), (sq, .inl (cI, 6156, .inl u.2.2.1)), (bq, .inl (cI, 3, .inl u.2.2.2.1)), (cq, .inl (cJ, 64, .inr (.inl fC))), (pq, .inl (cI, 8, .inl fT))] t.heap ∧ va_K (dC, dI) vwCl [(cZ, .boolean), (cI, .int), (cJ, .long)] t ∧ va_D (va_A [(q, .inr (7, [.ref mq, .ref zq, .ref sq, .ref bq, .ref cq, .long sm, .ref pq, .int ps, .int th])), (mq, .inl (cZ, 12288, .inl fM)), (zq, .inl (cI, 3, .inl fS)), (sq, .inl (cI, 6156, .inl fP)), (bq, .inl (cI, 3, .inl fB)), (cq, .inl (cJ, 64, .inr (.inl fC))), (pq, .inl (cI, 8, .inl fT))] sz) [(q, .inr (7, [.ref mq, .ref zq, .ref sq, .ref bq, .ref cq, .long sm, .ref pq, .int ps, .int u.2.2.2.2])), (mq, .inl (cZ, 12288, .inl u.1)), (zq, .inl (cI, 3, .inl u.2.1)), (sq, .inl (cI, 6156, .inl u.2.2.1)), (bq, .inl (cI, 3, .inl u.2.2.2.1)), (cq, .inl (cJ, 64, .inr (.inl fC))), (pq, .inl (cI, 8, .inl fT))]) (va_A [(q, .inr (7, [.ref mq, .ref zq, .ref sq, .ref bq, .ref cq, .long sm, .ref pq, .int ps, .int th])), (mq, .inl (cZ, 12288, .inl fM)), (zq, .inl (cI, 3, .inl fS)), (sq, .inl (cI, 6156, .inl fP)), (bq, .inl (cI, 3, .inl fB)), (cq, .inl (cJ, 64, .inr (.inl fC))), (pq, .inl (cI, 8, .inl fT))] sz)) 0 0 (va_A [(q, .inr (7, [.ref mq, .ref zq, .ref sq, .ref bq, .ref cq, .long sm, .ref pq, .int ps, .int th])), (mq, .inl (cZ, 12288, .inl fM)), (zq, .inl (cI, 3, .inl fS)), (sq, .inl (cI, 6156, .inl fP)), (bq, .inl (cI, 3, .inl fB)), (cq, .inl (cJ, 64, .inr (.inl fC))), (pq, .inl (cI, 8, .inl fT))] sz) := by
  refine Met.ofW (cc := cX8_insert) (maxL := 3) (ret := (some .boolean)) (by decide) rfl ?_
  intro p e s m args below meth c s₁ B hml hv
  obtain ⟨rfl, hsz, hP, hK, hD0⟩ := hv
  have hx := B.exec
  have hb := B.bytes
  have hr := B.returns
  have hts := atoms_spec (ws := wsX8_insert) B.pre
  have hown : s.vm.findClass RX8 = some m.cls := findClass_of_methodNamed B.named
  have hlocks := B.notSynchronized
  subst hsz
  have hD := hD0.self (sz := s.heap.size)
  generalize hAe : va_A [(q, .inr (7, [.ref mq, .ref zq, .ref sq, .ref bq, .ref cq, .long sm, .ref pq, .int ps, .int th])), (mq, .inl (cZ, 12288, .inl fM)), (zq, .inl (cI, 3, .inl fS)), (sq, .inl (cI, 6156, .inl fP)), (bq, .inl (cI, 3, .inl fB)), (cq, .inl (cJ, 64, .inr (.inl fC))), (pq, .inl (cI, 8, .inl fT))] s.heap.size = A at hD ⊢
  have hA : ∀ q : Nat, s.heap.size ≤ q → A q := fun q h => by rw [← hAe]; exact Or.inr h
  have hS : va_S A s.heap s.heap [] := va_S.rf
  have hP : va_P (dC, dI) vwCl [(q, .inr (7, [.ref mq, .ref zq, .ref sq, .ref bq, .ref cq, .long sm, .ref pq, .int ps, .int th])), (mq, .inl (cZ, 12288, .inl fM)), (zq, .inl (cI, 3, .inl fS)), (sq, .inl (cI, 6156, .inl fP)), (bq, .inl (cI, 3, .inl fB)), (cq, .inl (cJ, 64, .inr (.inl fC))), (pq, .inl (cI, 8, .inl fT))] s.heap := hP
  have hl := lv_entry ([.ref q, .int (nI k), .int (nI x)]) (n := 3) (Nat.le_of_ble_eq_true rfl)
  rw [lg_entry_eq]
  generalize (lg_sl ([.ref q, .int (nI k), .int (nI x)]) ++ List.replicate (3 - (lg_sl ([.ref q, .int (nI k), .int (nI x)])).length) Slot.unset).toArray = ls at hl ⊢
  have hl : lv_has ls 3 [(0, .ref q), (1, .int (nI k)), (2, .int (nI x))] := hl
  refine lv_aload_n hx hb dX8_insert_0 rfl (lv_at hl 0 rfl) ?_
  refine lv_iload_n hx hb dX8_insert_1 rfl (lv_at hl 1 rfl) ?_
  refine lv_iload_n hx hb dX8_insert_2 rfl (lv_at hl 2 rfl) ?_
  have hPc := hP.sub (ws' := [(q, .inr (7, [.ref mq, .ref zq, .ref sq, .ref bq, .ref cq, .long sm, .ref pq, .int ps, .int th])), (mq, .inl (cZ, 12288, .inl fM)), (zq, .inl (cI, 3, .inl fS)), (sq, .inl (cI, 6156, .inl fP)), (bq, .inl (cI, 3, .inl fB)), (cq, .inl (cJ, 64, .inr (.inl fC))), (pq, .inl (cI, 8, .inl fT))]) [0, 1, 2, 3, 4, 5, 6] rfl
  have hKc := hK.sub (tys' := [(cZ, .boolean), (cI, .int), (cJ, .long)]) [0, 1, 2] rfl
  have hDc := hD.sub (ws' := [(q, .inr (7, [.ref mq, .ref zq, .ref sq, .ref bq, .ref cq, .long sm, .ref pq, .int ps, .int th])), (mq, .inl (cZ, 12288, .inl fM)), (zq, .inl (cI, 3, .inl fS)), (sq, .inl (cI, 6156, .inl fP)), (bq, .inl (cI, 3, .inl fB)), (cq, .inl (cJ, 64, .inr (.inl fC))), (pq, .inl (cI, 8, .inl fT))]) [0, 1, 2, 3, 4, 5, 6] (by decide) rfl
  have hFc := va_free (wc := [(q, .inr (7, [.ref mq, .ref zq, .ref sq, .ref bq, .ref cq, .long sm, .ref pq, .int ps, .int th])), (mq, .inl (cZ, 12288, .inl fM)), (zq, .inl (cI, 3, .inl fS)), (sq, .inl (cI, 6156, .inl fP)), (bq, .inl (cI, 3, .inl fB)), (cq, .inl (cJ, 64, .inr (.inl fC))), (pq, .inl (cI, 8, .inl fT))]) hD hS hA [0, 1, 2, 3, 4, 5, 6] rfl
  refine va_calli (va_runV (As := [.int (nI k), .int (nI x)]) (rest := []) ⟨hx, hb, hml, hown, hts⟩ (c_X8_isRight l dC dI q mq zq sq bq cq pq cZ cI cJ fM fS fP fB fC sm fT ps th (nI k) (nI x) s.heap.size ) (cwV 2 hts gX8_insert_X8_isRight rfl rfl rfl (by decide +kernel) ⟨Nat.le_of_ble_eq_true rfl, Nat.le_of_ble_eq_true rfl⟩) ⟨fun a U g mk q => by obtain ⟨q0, q1, qP, qK, qD⟩ := q; exact ⟨q0, q1, qP, va_K.moved (u := U) (U := U.calling g mk a) (Vm.Alike.refl U.vm) qK, qD⟩, va_recv hKc hPc (ci := 7) (q0 := 0) rfl rfl, fun U hU hW => ⟨rfl, by rw [hU], by rw [hU]; exact hPc, va_K.moved hW.alike hKc, hDc.weaken (fun _ _ _ _ => trivial)⟩⟩ rfl rfl hl.1 rfl (lv_room (Nat.le_of_ble_eq_true rfl)) dX8_insert_3 ⟨Nat.le_of_ble_eq_true rfl, Nat.le_of_ble_eq_true rfl⟩) hS (fun q _ h => hFc q h) hFc (fun r_3 u_2 t9 H1 locs ht hvm hw_1 hB hz1 hk1 hS => ?_)
  obtain ⟨th'_4, rfl⟩ : ∃ z, z = u_2 := ⟨_, rfl⟩
  obtain ⟨hP1, hK1, hD1⟩ := hB
  rw [ht] at hP1
  have hK1 := va_K.moved hvm.symm hK1
  try dsimp only at hw_1 hP1 hK1 hD1
  obtain ⟨hP, hD⟩ := va_join (wr := []) (w1 := [(q, .inr (7, [.ref mq, .ref zq, .ref sq, .ref bq, .ref cq, .long sm, .ref pq, .int ps, .int th'_4])), (mq, .inl (cZ, 12288, .inl fM)), (zq, .inl (cI, 3, .inl fS)), (sq, .inl (cI, 6156, .inl fP)), (bq, .inl (cI, 3, .inl fB)), (cq, .inl (cJ, 64, .inr (.inl fC))), (pq, .inl (cI, 8, .inl fT))]) hP hD [0, 1, 2, 3, 4, 5, 6] [] rfl rfl (by decide) (by decide) hk1 hFc hP1 hD1
  generalize H1 = H at hP hS ⊢
  have hP : va_P (dC, dI) vwCl [(q, .inr (7, [.ref mq, .ref zq, .ref sq, .ref bq, .ref cq, .long sm, .ref pq, .int ps, .int th'_4])), (mq, .inl (cZ, 12288, .inl fM)), (zq, .inl (cI, 3, .inl fS)), (sq, .inl (cI, 6156, .inl fP)), (bq, .inl (cI, 3, .inl fB)), (cq, .inl (cJ, 64, .inr (.inl fC))), (pq, .inl (cI, 8, .inl fT))] H := hP
  have hD : va_D A [(q, .inr (7, [.ref mq, .ref zq, .ref sq, .ref bq, .ref cq, .long sm, .ref pq, .int ps, .int th'_4])), (mq, .inl (cZ, 12288, .inl fM)), (zq, .inl (cI, 3, .inl fS)), (sq, .inl (cI, 6156, .inl fP)), (bq, .inl (cI, 3, .inl fB)), (cq, .inl (cJ, 64, .inr (.inl fC))), (pq, .inl (cI, 8, .inl fT))] := hD
  obtain ⟨he, hw_1⟩ := hw_1
  subst he
  have hth : th'_4 = nI 0 := by rw [hw_1, isS_t hk, isN_t hxx]; rfl
  refine lv_cvi (congrArg b2i (by rw [isS_t hk, isN_t hxx] <;> rfl)) ?_
  refine lv_if_eq (tgt := 22) hx hb dX8_insert_6 (by decide) (fun qc_5 => ?_) (fun qc_5 => ?_)
  · have c_5 : true = false := b2i_f qc_5
    cases c_5
  · have c_5 : true = true := b2i_t qc_5
    refine lv_aload_n hx hb dX8_insert_9 rfl (lv_at hl 0 rfl) ?_
    refine lv_iload_n hx hb dX8_insert_10 rfl (lv_at hl 1 rfl) ?_
    refine lv_iload_n hx hb dX8_insert_11 rfl (lv_at hl 2 rfl) ?_
    have hPc := hP.sub (ws' := [(q, .inr (7, [.ref mq, .ref zq, .ref sq, .ref bq, .ref cq, .long sm, .ref pq, .int ps, .int th'_4])), (mq, .inl (cZ, 12288, .inl fM)), (zq, .inl (cI, 3, .inl fS)), (sq, .inl (cI, 6156, .inl fP)), (bq, .inl (cI, 3, .inl fB)), (cq, .inl (cJ, 64, .inr (.inl fC))), (pq, .inl (cI, 8, .inl fT))]) [0, 1, 2, 3, 4, 5, 6] rfl
    have hKc := hK.sub (tys' := [(cZ, .boolean), (cI, .int), (cJ, .long)]) [0, 1, 2] rfl
    have hDc := hD.sub (ws' := [(q, .inr (7, [.ref mq, .ref zq, .ref sq, .ref bq, .ref cq, .long sm, .ref pq, .int ps, .int th'_4])), (mq, .inl (cZ, 12288, .inl fM)), (zq, .inl (cI, 3, .inl fS)), (sq, .inl (cI, 6156, .inl fP)), (bq, .inl (cI, 3, .inl fB)), (cq, .inl (cJ, 64, .inr (.inl fC))), (pq, .inl (cI, 8, .inl fT))]) [0, 1, 2, 3, 4, 5, 6] (by decide) rfl
    have hFc := va_free (wc := [(q, .inr (7, [.ref mq, .ref zq, .ref sq, .ref bq, .ref cq, .long sm, .ref pq, .int ps, .int th'_4])), (mq, .inl (cZ, 12288, .inl fM)), (zq, .inl (cI, 3, .inl fS)), (sq, .inl (cI, 6156, .inl fP)), (bq, .inl (cI, 3, .inl fB)), (cq, .inl (cJ, 64, .inr (.inl fC))), (pq, .inl (cI, 8, .inl fT))]) hD hS hA [0, 1, 2, 3, 4, 5, 6] rfl
    refine va_calli (va_runV (As := [.int (nI k), .int (nI x)]) (rest := []) ⟨hx, hb, hml, hown, hts⟩ (c_X8_puts l dC dI q mq zq sq bq cq pq cZ cI cJ fM fS fP fB fC sm fT ps th'_4 M P k x H.size (by first | assumption | omega) (by first | assumption | omega) (by first | assumption | omega) (by first | assumption | omega) (by first | assumption | omega) (bi_cnt hB)) (cwV 2 hts gX8_insert_X8_puts rfl rfl rfl (by decide +kernel) ⟨Nat.le_of_ble_eq_true rfl, Nat.le_of_ble_eq_true rfl⟩) ⟨fun a U g mk q => by obtain ⟨q0, q1, qP, qK, qD⟩ := q; exact ⟨q0, q1, qP, va_K.moved (u := U) (U := U.calling g mk a) (Vm.Alike.refl U.vm) qK, qD⟩, va_recv hKc hPc (ci := 7) (q0 := 0) rfl rfl, fun U hU hW => ⟨rfl, by rw [hU], by rw [hU]; exact hPc, va_K.moved hW.alike hKc, hDc.weaken (fun _ _ _ _ => trivial)⟩⟩ rfl rfl hl.1 rfl (lv_room (Nat.le_of_ble_eq_true rfl)) dX8_insert_12 ⟨Nat.le_of_ble_eq_true rfl, Nat.le_of_ble_eq_true rfl⟩) hS (fun q _ h => hFc q h) hFc (fun r_8 u_7 t9 H1 locs ht hvm hw_6 hB hz1 hk1 hS => ?_)
    obtain ⟨fM'_9, fS'_10, fP'_11, fB'_12⟩ := u_7
    obtain ⟨hP1, hK1, hD1⟩ := hB
    rw [ht] at hP1
    have hK1 := va_K.moved hvm.symm hK1
    try dsimp only at hw_6 hP1 hK1 hD1
    obtain ⟨hP, hD⟩ := va_join (wr := []) (w1 := [(q, .inr (7, [.ref mq, .ref zq, .ref sq, .ref bq, .ref cq, .long sm, .ref pq, .int ps, .int th'_4])), (mq, .inl (cZ, 12288, .inl fM'_9)), (zq, .inl (cI, 3, .inl fS'_10)), (sq, .inl (cI, 6156, .inl fP'_11)), (bq, .inl (cI, 3, .inl fB'_12)), (cq, .inl (cJ, 64, .inr (.inl fC))), (pq, .inl (cI, 8, .inl fT))]) hP hD [0, 1, 2, 3, 4, 5, 6] [] rfl rfl (by decide) (by decide) hk1 hFc hP1 hD1
    generalize H1 = H at hP hS ⊢
    have hP : va_P (dC, dI) vwCl [(q, .inr (7, [.ref mq, .ref zq, .ref sq, .ref bq, .ref cq, .long sm, .ref pq, .int ps, .int th'_4])), (mq, .inl (cZ, 12288, .inl fM'_9)), (zq, .inl (cI, 3, .inl fS'_10)), (sq, .inl (cI, 6156, .inl fP'_11)), (bq, .inl (cI, 3, .inl fB'_12)), (cq, .inl (cJ, 64, .inr (.inl fC))), (pq, .inl (cI, 8, .inl fT))] H := hP
    have hD : va_D A [(q, .inr (7, [.ref mq, .ref zq, .ref sq, .ref bq, .ref cq, .long sm, .ref pq, .int ps, .int th'_4])), (mq, .inl (cZ, 12288, .inl fM'_9)), (zq, .inl (cI, 3, .inl fS'_10)), (sq, .inl (cI, 6156, .inl fP'_11)), (bq, .inl (cI, 3, .inl fB'_12)), (cq, .inl (cJ, 64, .inr (.inl fC))), (pq, .inl (cI, 8, .inl fT))] := hD
    obtain ⟨he, hw_6⟩ := hw_6
    subst he
    refine lv_if_eq (tgt := 22) hx hb dX8_insert_15 (by decide) (fun qc_13 => ?_) (fun qc_13 => ?_)
    · have c_13 : (!M k x) = false := b2i_f qc_13
      refine lv_iconst (v := nI 0) hx hb dX8_insert_22 (by decide +kernel) ?_
      have hP9 := hP.sub (ws' := [(q, .inr (7, [.ref mq, .ref zq, .ref sq, .ref bq, .ref cq, .long sm, .ref pq, .int ps, .int th'_4])), (mq, .inl (cZ, 12288, .inl fM'_9)), (zq, .inl (cI, 3, .inl fS'_10)), (sq, .inl (cI, 6156, .inl fP'_11)), (bq, .inl (cI, 3, .inl fB'_12)), (cq, .inl (cJ, 64, .inr (.inl fC))), (pq, .inl (cI, 8, .inl fT))]) [0, 1, 2, 3, 4, 5, 6] rfl
      have hD9 := hD.sub (ws' := [(q, .inr (7, [.ref mq, .ref zq, .ref sq, .ref bq, .ref cq, .long sm, .ref pq, .int ps, .int th'_4])), (mq, .inl (cZ, 12288, .inl fM'_9)), (zq, .inl (cI, 3, .inl fS'_10)), (sq, .inl (cI, 6156, .inl fP'_11)), (bq, .inl (cI, 3, .inl fB'_12)), (cq, .inl (cJ, 64, .inr (.inl fC))), (pq, .inl (cI, 8, .inl fT))]) [0, 1, 2, 3, 4, 5, 6] (by decide) rfl
      have hK9 := hK.sub (tys' := [(cZ, .boolean), (cI, .int), (cJ, .long)]) [0, 1, 2] rfl
      exact W.zret (v := nI 0) hx hb hr (by first | exact narrow_b1 | exact narrow_b0) (fun t9 ht hW => ⟨⟨nI 0, ⟨fM'_9, fS'_10, fP'_11, fB'_12, th'_4⟩, rfl, (show (nI 0) = b2i (!M k x) ∧ MM fM'_9 (upF M k (ins (M k) x)) ∧ MZ fS'_10 (upF M k (ins (M k) x)) ∧ MX fP'_11 fB'_12 (upF P k (putP (M k) (P k) x)) ∧ th'_4 = nI 0 from ⟨by rw [c_13]; rfl, hw_6.1, hw_6.2.1, hw_6.2.2, hth⟩), by rw [ht]; exact hP9, va_K.moved hW.alike hK9, hD9⟩, hS.F ht⟩) hS.2.2 dX8_insert_23
    · have c_13 : (!M k x) = true := b2i_t qc_13
      refine lv_iconst (v := nI 1) hx hb dX8_insert_18 (by decide +kernel) ?_
      refine lv_goto (tgt := 23) hx hb dX8_insert_19 (by decide) ?_
      have hP9 := hP.sub (ws' := [(q, .inr (7, [.ref mq, .ref zq, .ref sq, .ref bq, .ref cq, .long sm, .ref pq, .int ps, .int th'_4])), (mq, .inl (cZ, 12288, .inl fM'_9)), (zq, .inl (cI, 3, .inl fS'_10)), (sq, .inl (cI, 6156, .inl fP'_11)), (bq, .inl (cI, 3, .inl fB'_12)), (cq, .inl (cJ, 64, .inr (.inl fC))), (pq, .inl (cI, 8, .inl fT))]) [0, 1, 2, 3, 4, 5, 6] rfl
      have hD9 := hD.sub (ws' := [(q, .inr (7, [.ref mq, .ref zq, .ref sq, .ref bq, .ref cq, .long sm, .ref pq, .int ps, .int th'_4])), (mq, .inl (cZ, 12288, .inl fM'_9)), (zq, .inl (cI, 3, .inl fS'_10)), (sq, .inl (cI, 6156, .inl fP'_11)), (bq, .inl (cI, 3, .inl fB'_12)), (cq, .inl (cJ, 64, .inr (.inl fC))), (pq, .inl (cI, 8, .inl fT))]) [0, 1, 2, 3, 4, 5, 6] (by decide) rfl
      have hK9 := hK.sub (tys' := [(cZ, .boolean), (cI, .int), (cJ, .long)]) [0, 1, 2] rfl
      exact W.zret (v := nI 1) hx hb hr (by first | exact narrow_b1 | exact narrow_b0) (fun t9 ht hW => ⟨⟨nI 1, ⟨fM'_9, fS'_10, fP'_11, fB'_12, th'_4⟩, rfl, (show (nI 1) = b2i (!M k x) ∧ MM fM'_9 (upF M k (ins (M k) x)) ∧ MZ fS'_10 (upF M k (ins (M k) x)) ∧ MX fP'_11 fB'_12 (upF P k (putP (M k) (P k) x)) ∧ th'_4 = nI 0 from ⟨by rw [c_13]; rfl, hw_6.1, hw_6.2.1, hw_6.2.2, hth⟩), by rw [ht]; exact hP9, va_K.moved hW.alike hK9, hD9⟩, hS.F ht⟩) hS.2.2 dX8_insert_23
set_option maxHeartbeats 4000000 in
set_option maxRecDepth 100000 in
/-- reference: c_X8_insert_s -/
theorem c_X8_insert_s (l : Launch) (dC : Nat → ClassId) (dI : Nat → Nat → Nat) (q : Nat) (mq : Nat) (zq : Nat) (sq : Nat) (bq : Nat) (cq : Nat) (pq : Nat) (cZ : ClassId) (cI : ClassId) (cJ : ClassId) (fM : Nat → Int32) (fS : Nat → Int32) (fP : Nat → Int32) (fB : Nat → Int32) (fC : Nat → Int64) (sm : Int64) (fT : Nat → Int32) (ps : Int32) (th : Int32) (v : Int32) (w0 : Int32) (sz : Nat) (hSf : isS v = false) : Met l yX8_insert wsX8_insert ({ frames := 3, cells := 0, slots := 0, locals := 64 }) (va_Pc [.ref q, .int v, .int w0] (fun U => U.heap.size = sz ∧ va_P (dC, dI) vwCl [(q, .inr (7, [.ref mq, .ref zq, .ref sq, .ref bq, .ref cq, .long sm, .ref pq, .int ps, .int th])), (mq, .inl (cZ, 12288, .inl fM)), (zq, .inl (cI, 3, .inl fS)), (sq, .inl (cI, 6156, .inl fP)), (bq, .inl (cI, 3, .inl fB)), (cq, .inl (cJ, 64, .inr (.inl fC))), (pq, .inl (cI, 8, .inl fT))] U.heap ∧ va_K (dC, dI) vwCl [(cZ, .boolean), (cI, .int), (cJ, .long)] U ∧ va_D (fun _ => True) [(q, .inr (7, [.ref mq, .ref zq, .ref sq, .ref bq, .ref cq, .long sm, .ref pq, .int ps, .int th])), (mq, .inl (cZ, 12288, .inl fM)), (zq, .inl (cI, 3, .inl fS)), (sq, .inl (cI, 6156, .inl fP)), (bq, .inl (cI, 3, .inl fB)), (cq, .inl (cJ, 64, .inr (.inl fC))), (pq, .inl (cI, 8, .inl fT))])) (va_Qi (fun (r : Int32) (u : Int32) => u = nI 1) (fun (u : Int32) (t : State) => va_P (dC, dI) vwCl [(q, .inr (7, [.ref mq, .ref zq, .ref sq, .ref bq, .ref cq, .long sm, .ref pq, .int ps, .int u])), (mq, .inl (cZ, 12288, .inl fM)), (zq, .inl (cI, 3, .inl fS)), (sq, .inl (cI, 6156, .inl fP)), (bq, .inl (cI, 3, .inl fB)), (cq, .inl (cJ, 64, .inr (.inl fC))), (pq, .inl (cI, 8, .inl fT))] t.heap ∧ va_K (dC, dI) vwCl [(cZ, .boolean), (cI, .int), (cJ, .long)] t ∧ va_D (va_A [(q, .inr (7, [.ref mq, .ref zq, .ref sq, .ref bq, .ref cq, .long sm, .ref pq, .int ps, .int th])), (mq, .inl (cZ, 12288, .inl fM)), (zq, .inl (cI, 3, .inl fS)), (sq, .inl (cI, 6156, .inl fP)), (bq, .inl (cI, 3, .inl fB)), (cq, .inl (cJ, 64, .inr (.inl fC))), (pq, .inl (cI, 8, .inl fT))] sz) [(q, .inr (7, [.ref mq, .ref zq, .ref sq, .ref bq, .ref cq, .long sm, .ref pq, .int ps, .int u])), (mq, .inl (cZ, 12288, .inl fM)), (zq, .inl (cI, 3, .inl fS)), (sq, .inl (cI, 6156, .inl fP)), (bq, .inl (cI, 3, .inl fB)), (cq, .inl (cJ, 64, .inr (.inl fC))), (pq, .inl (cI, 8, .inl fT))]) (va_A [(q, .inr (7, [.ref mq, .ref zq, .ref sq, .ref bq, .ref cq, .long sm, .ref pq, .int ps, .int th])), (mq, .inl (cZ, 12288, .inl fM)), (zq, .inl (cI, 3, .inl fS)), (sq, .inl (cI, 6156, .inl fP)), (bq, .inl (cI, 3, .inl fB)), (cq, .inl (cJ, 64, .inr (.inl fC))), (pq, .inl (cI, 8, .inl fT))] sz)) 0 0 (va_A [(q, .inr (7, [.ref mq, .ref zq, .ref sq, .ref bq, .ref cq, .long sm, .ref pq, .int ps, .int th])), (mq, .inl (cZ, 12288, .inl fM)), (zq, .inl (cI, 3, .inl fS)), (sq, .inl (cI, 6156, .inl fP)), (bq, .inl (cI, 3, .inl fB)), (cq, .inl (cJ, 64, .inr (.inl fC))), (pq, .inl (cI, 8, .inl fT))] sz) := by
  refine Met.ofW (cc := cX8_insert) (maxL := 3) (ret := (some .boolean)) (by decide) rfl ?_
  intro p e s m args below meth c s₁ B hml hv
  obtain ⟨rfl, hsz, hP, hK, hD0⟩ := hv
  have hx := B.exec
  have hb := B.bytes
  have hr := B.returns
  have hts := atoms_spec (ws := wsX8_insert) B.pre
  have hown : s.vm.findClass RX8 = some m.cls := findClass_of_methodNamed B.named
  have hlocks := B.notSynchronized
  subst hsz
  have hD := hD0.self (sz := s.heap.size)
  generalize hAe : va_A [(q, .inr (7, [.ref mq, .ref zq, .ref sq, .ref bq, .ref cq, .long sm, .ref pq, .int ps, .int th])), (mq, .inl (cZ, 12288, .inl fM)), (zq, .inl (cI, 3, .inl fS)), (sq, .inl (cI, 6156, .inl fP)), (bq, .inl (cI, 3, .inl fB)), (cq, .inl (cJ, 64, .inr (.inl fC))), (pq, .inl (cI, 8, .inl fT))] s.heap.size = A at hD ⊢
  have hA : ∀ q : Nat, s.heap.size ≤ q → A q := fun q h => by rw [← hAe]; exact Or.inr h
  have hS : va_S A s.heap s.heap [] := va_S.rf
  have hP : va_P (dC, dI) vwCl [(q, .inr (7, [.ref mq, .ref zq, .ref sq, .ref bq, .ref cq, .long sm, .ref pq, .int ps, .int th])), (mq, .inl (cZ, 12288, .inl fM)), (zq, .inl (cI, 3, .inl fS)), (sq, .inl (cI, 6156, .inl fP)), (bq, .inl (cI, 3, .inl fB)), (cq, .inl (cJ, 64, .inr (.inl fC))), (pq, .inl (cI, 8, .inl fT))] s.heap := hP
  have hl := lv_entry ([.ref q, .int v, .int w0]) (n := 3) (Nat.le_of_ble_eq_true rfl)
  rw [lg_entry_eq]
  generalize (lg_sl ([.ref q, .int v, .int w0]) ++ List.replicate (3 - (lg_sl ([.ref q, .int v, .int w0])).length) Slot.unset).toArray = ls at hl ⊢
  have hl : lv_has ls 3 [(0, .ref q), (1, .int v), (2, .int w0)] := hl
  refine lv_aload_n hx hb dX8_insert_0 rfl (lv_at hl 0 rfl) ?_
  refine lv_iload_n hx hb dX8_insert_1 rfl (lv_at hl 1 rfl) ?_
  refine lv_iload_n hx hb dX8_insert_2 rfl (lv_at hl 2 rfl) ?_
  have hPc := hP.sub (ws' := [(q, .inr (7, [.ref mq, .ref zq, .ref sq, .ref bq, .ref cq, .long sm, .ref pq, .int ps, .int th])), (mq, .inl (cZ, 12288, .inl fM)), (zq, .inl (cI, 3, .inl fS)), (sq, .inl (cI, 6156, .inl fP)), (bq, .inl (cI, 3, .inl fB)), (cq, .inl (cJ, 64, .inr (.inl fC))), (pq, .inl (cI, 8, .inl fT))]) [0, 1, 2, 3, 4, 5, 6] rfl
  have hKc := hK.sub (tys' := [(cZ, .boolean), (cI, .int), (cJ, .long)]) [0, 1, 2] rfl
  have hDc := hD.sub (ws' := [(q, .inr (7, [.ref mq, .ref zq, .ref sq, .ref bq, .ref cq, .long sm, .ref pq, .int ps, .int th])), (mq, .inl (cZ, 12288, .inl fM)), (zq, .inl (cI, 3, .inl fS)), (sq, .inl (cI, 6156, .inl fP)), (bq, .inl (cI, 3, .inl fB)), (cq, .inl (cJ, 64, .inr (.inl fC))), (pq, .inl (cI, 8, .inl fT))]) [0, 1, 2, 3, 4, 5, 6] (by decide) rfl
  have hFc := va_free (wc := [(q, .inr (7, [.ref mq, .ref zq, .ref sq, .ref bq, .ref cq, .long sm, .ref pq, .int ps, .int th])), (mq, .inl (cZ, 12288, .inl fM)), (zq, .inl (cI, 3, .inl fS)), (sq, .inl (cI, 6156, .inl fP)), (bq, .inl (cI, 3, .inl fB)), (cq, .inl (cJ, 64, .inr (.inl fC))), (pq, .inl (cI, 8, .inl fT))]) hD hS hA [0, 1, 2, 3, 4, 5, 6] rfl
  refine va_calli (va_runV (As := [.int v, .int w0]) (rest := []) ⟨hx, hb, hml, hown, hts⟩ (c_X8_isRight l dC dI q mq zq sq bq cq pq cZ cI cJ fM fS fP fB fC sm fT ps th v w0 s.heap.size ) (cwV 2 hts gX8_insert_X8_isRight rfl rfl rfl (by decide +kernel) ⟨Nat.le_of_ble_eq_true rfl, Nat.le_of_ble_eq_true rfl⟩) ⟨fun a U g mk q => by obtain ⟨q0, q1, qP, qK, qD⟩ := q; exact ⟨q0, q1, qP, va_K.moved (u := U) (U := U.calling g mk a) (Vm.Alike.refl U.vm) qK, qD⟩, va_recv hKc hPc (ci := 7) (q0 := 0) rfl rfl, fun U hU hW => ⟨rfl, by rw [hU], by rw [hU]; exact hPc, va_K.moved hW.alike hKc, hDc.weaken (fun _ _ _ _ => trivial)⟩⟩ rfl rfl hl.1 rfl (lv_room (Nat.le_of_ble_eq_true rfl)) dX8_insert_3 ⟨Nat.le_of_ble_eq_true rfl, Nat.le_of_ble_eq_true rfl⟩) hS (fun q _ h => hFc q h) hFc (fun r_3 u_2 t9 H1 locs ht hvm hw_1 hB hz1 hk1 hS => ?_)
  obtain ⟨th'_4, rfl⟩ : ∃ z, z = u_2 := ⟨_, rfl⟩
  obtain ⟨hP1, hK1, hD1⟩ := hB
  rw [ht] at hP1
  have hK1 := va_K.moved hvm.symm hK1
  try dsimp only at hw_1 hP1 hK1 hD1
  obtain ⟨hP, hD⟩ := va_join (wr := []) (w1 := [(q, .inr (7, [.ref mq, .ref zq, .ref sq, .ref bq, .ref cq, .long sm, .ref pq, .int ps, .int th'_4])), (mq, .inl (cZ, 12288, .inl fM)), (zq, .inl (cI, 3, .inl fS)), (sq, .inl (cI, 6156, .inl fP)), (bq, .inl (cI, 3, .inl fB)), (cq, .inl (cJ, 64, .inr (.inl fC))), (pq, .inl (cI, 8, .inl fT))]) hP hD [0, 1, 2, 3, 4, 5, 6] [] rfl rfl (by decide) (by decide) hk1 hFc hP1 hD1
  generalize H1 = H at hP hS ⊢
  have hP : va_P (dC, dI) vwCl [(q, .inr (7, [.ref mq, .ref zq, .ref sq, .ref bq, .ref cq, .long sm, .ref pq, .int ps, .int th'_4])), (mq, .inl (cZ, 12288, .inl fM)), (zq, .inl (cI, 3, .inl fS)), (sq, .inl (cI, 6156, .inl fP)), (bq, .inl (cI, 3, .inl fB)), (cq, .inl (cJ, 64, .inr (.inl fC))), (pq, .inl (cI, 8, .inl fT))] H := hP
  have hD : va_D A [(q, .inr (7, [.ref mq, .ref zq, .ref sq, .ref bq, .ref cq, .long sm, .ref pq, .int ps, .int th'_4])), (mq, .inl (cZ, 12288, .inl fM)), (zq, .inl (cI, 3, .inl fS)), (sq, .inl (cI, 6156, .inl fP)), (bq, .inl (cI, 3, .inl fB)), (cq, .inl (cJ, 64, .inr (.inl fC))), (pq, .inl (cI, 8, .inl fT))] := hD
  obtain ⟨he, hw_1⟩ := hw_1
  subst he
  have hth : th'_4 = nI 1 := by rw [hw_1, hSf]; rfl
  refine lv_cvi (congrArg b2i (by rw [hSf] <;> rfl)) ?_
  refine lv_if_eq (tgt := 22) hx hb dX8_insert_6 (by decide) (fun qc_5 => ?_) (fun qc_5 => ?_)
  · have c_5 : false = false := b2i_f qc_5
    refine lv_iconst (v := nI 0) hx hb dX8_insert_22 (by decide +kernel) ?_
    have hP9 := hP.sub (ws' := [(q, .inr (7, [.ref mq, .ref zq, .ref sq, .ref bq, .ref cq, .long sm, .ref pq, .int ps, .int th'_4])), (mq, .inl (cZ, 12288, .inl fM)), (zq, .inl (cI, 3, .inl fS)), (sq, .inl (cI, 6156, .inl fP)), (bq, .inl (cI, 3, .inl fB)), (cq, .inl (cJ, 64, .inr (.inl fC))), (pq, .inl (cI, 8, .inl fT))]) [0, 1, 2, 3, 4, 5, 6] rfl
    have hD9 := hD.sub (ws' := [(q, .inr (7, [.ref mq, .ref zq, .ref sq, .ref bq, .ref cq, .long sm, .ref pq, .int ps, .int th'_4])), (mq, .inl (cZ, 12288, .inl fM)), (zq, .inl (cI, 3, .inl fS)), (sq, .inl (cI, 6156, .inl fP)), (bq, .inl (cI, 3, .inl fB)), (cq, .inl (cJ, 64, .inr (.inl fC))), (pq, .inl (cI, 8, .inl fT))]) [0, 1, 2, 3, 4, 5, 6] (by decide) rfl
    have hK9 := hK.sub (tys' := [(cZ, .boolean), (cI, .int), (cJ, .long)]) [0, 1, 2] rfl
    exact W.zret (v := nI 0) hx hb hr (by first | exact narrow_b1 | exact narrow_b0) (fun t9 ht hW => ⟨⟨nI 0, th'_4, rfl, hth, by rw [ht]; exact hP9, va_K.moved hW.alike hK9, hD9⟩, hS.F ht⟩) hS.2.2 dX8_insert_23
  · have c_5 : false = true := b2i_t qc_5
    cases c_5
set_option maxHeartbeats 4000000 in
set_option maxRecDepth 100000 in
/-- reference: c_X8_insert_n -/
theorem c_X8_insert_n (l : Launch) (dC : Nat → ClassId) (dI : Nat → Nat → Nat) (q : Nat) (mq : Nat) (zq : Nat) (sq : Nat) (bq : Nat) (cq : Nat) (pq : Nat) (cZ : ClassId) (cI : ClassId) (cJ : ClassId) (fM : Nat → Int32) (fS : Nat → Int32) (fP : Nat → Int32) (fB : Nat → Int32) (fC : Nat → Int64) (sm : Int64) (fT : Nat → Int32) (ps : Int32) (th : Int32) (k : Nat) (w : Int32) (sz : Nat) (hk : k < 3) (hW : isN w = false) : Met l yX8_insert wsX8_insert ({ frames := 3, cells := 0, slots := 0, locals := 64 }) (va_Pc [.ref q, .int (nI k), .int w] (fun U => U.heap.size = sz ∧ va_P (dC, dI) vwCl [(q, .inr (7, [.ref mq, .ref zq, .ref sq, .ref bq, .ref cq, .long sm, .ref pq, .int ps, .int th])), (mq, .inl (cZ, 12288, .inl fM)), (zq, .inl (cI, 3, .inl fS)), (sq, .inl (cI, 6156, .inl fP)), (bq, .inl (cI, 3, .inl fB)), (cq, .inl (cJ, 64, .inr (.inl fC))), (pq, .inl (cI, 8, .inl fT))] U.heap ∧ va_K (dC, dI) vwCl [(cZ, .boolean), (cI, .int), (cJ, .long)] U ∧ va_D (fun _ => True) [(q, .inr (7, [.ref mq, .ref zq, .ref sq, .ref bq, .ref cq, .long sm, .ref pq, .int ps, .int th])), (mq, .inl (cZ, 12288, .inl fM)), (zq, .inl (cI, 3, .inl fS)), (sq, .inl (cI, 6156, .inl fP)), (bq, .inl (cI, 3, .inl fB)), (cq, .inl (cJ, 64, .inr (.inl fC))), (pq, .inl (cI, 8, .inl fT))])) (va_Qi (fun (r : Int32) (u : Int32) => u = nI 2) (fun (u : Int32) (t : State) => va_P (dC, dI) vwCl [(q, .inr (7, [.ref mq, .ref zq, .ref sq, .ref bq, .ref cq, .long sm, .ref pq, .int ps, .int u])), (mq, .inl (cZ, 12288, .inl fM)), (zq, .inl (cI, 3, .inl fS)), (sq, .inl (cI, 6156, .inl fP)), (bq, .inl (cI, 3, .inl fB)), (cq, .inl (cJ, 64, .inr (.inl fC))), (pq, .inl (cI, 8, .inl fT))] t.heap ∧ va_K (dC, dI) vwCl [(cZ, .boolean), (cI, .int), (cJ, .long)] t ∧ va_D (va_A [(q, .inr (7, [.ref mq, .ref zq, .ref sq, .ref bq, .ref cq, .long sm, .ref pq, .int ps, .int th])), (mq, .inl (cZ, 12288, .inl fM)), (zq, .inl (cI, 3, .inl fS)), (sq, .inl (cI, 6156, .inl fP)), (bq, .inl (cI, 3, .inl fB)), (cq, .inl (cJ, 64, .inr (.inl fC))), (pq, .inl (cI, 8, .inl fT))] sz) [(q, .inr (7, [.ref mq, .ref zq, .ref sq, .ref bq, .ref cq, .long sm, .ref pq, .int ps, .int u])), (mq, .inl (cZ, 12288, .inl fM)), (zq, .inl (cI, 3, .inl fS)), (sq, .inl (cI, 6156, .inl fP)), (bq, .inl (cI, 3, .inl fB)), (cq, .inl (cJ, 64, .inr (.inl fC))), (pq, .inl (cI, 8, .inl fT))]) (va_A [(q, .inr (7, [.ref mq, .ref zq, .ref sq, .ref bq, .ref cq, .long sm, .ref pq, .int ps, .int th])), (mq, .inl (cZ, 12288, .inl fM)), (zq, .inl (cI, 3, .inl fS)), (sq, .inl (cI, 6156, .inl fP)), (bq, .inl (cI, 3, .inl fB)), (cq, .inl (cJ, 64, .inr (.inl fC))), (pq, .inl (cI, 8, .inl fT))] sz)) 0 0 (va_A [(q, .inr (7, [.ref mq, .ref zq, .ref sq, .ref bq, .ref cq, .long sm, .ref pq, .int ps, .int th])), (mq, .inl (cZ, 12288, .inl fM)), (zq, .inl (cI, 3, .inl fS)), (sq, .inl (cI, 6156, .inl fP)), (bq, .inl (cI, 3, .inl fB)), (cq, .inl (cJ, 64, .inr (.inl fC))), (pq, .inl (cI, 8, .inl fT))] sz) := by
  refine Met.ofW (cc := cX8_insert) (maxL := 3) (ret := (some .boolean)) (by decide) rfl ?_
  intro p e s m args below meth c s₁ B hml hv
  obtain ⟨rfl, hsz, hP, hK, hD0⟩ := hv
  have hx := B.exec
  have hb := B.bytes
  have hr := B.returns
  have hts := atoms_spec (ws := wsX8_insert) B.pre
  have hown : s.vm.findClass RX8 = some m.cls := findClass_of_methodNamed B.named
  have hlocks := B.notSynchronized
  subst hsz
  have hD := hD0.self (sz := s.heap.size)
  generalize hAe : va_A [(q, .inr (7, [.ref mq, .ref zq, .ref sq, .ref bq, .ref cq, .long sm, .ref pq, .int ps, .int th])), (mq, .inl (cZ, 12288, .inl fM)), (zq, .inl (cI, 3, .inl fS)), (sq, .inl (cI, 6156, .inl fP)), (bq, .inl (cI, 3, .inl fB)), (cq, .inl (cJ, 64, .inr (.inl fC))), (pq, .inl (cI, 8, .inl fT))] s.heap.size = A at hD ⊢
  have hA : ∀ q : Nat, s.heap.size ≤ q → A q := fun q h => by rw [← hAe]; exact Or.inr h
  have hS : va_S A s.heap s.heap [] := va_S.rf
  have hP : va_P (dC, dI) vwCl [(q, .inr (7, [.ref mq, .ref zq, .ref sq, .ref bq, .ref cq, .long sm, .ref pq, .int ps, .int th])), (mq, .inl (cZ, 12288, .inl fM)), (zq, .inl (cI, 3, .inl fS)), (sq, .inl (cI, 6156, .inl fP)), (bq, .inl (cI, 3, .inl fB)), (cq, .inl (cJ, 64, .inr (.inl fC))), (pq, .inl (cI, 8, .inl fT))] s.heap := hP
  have hl := lv_entry ([.ref q, .int (nI k), .int w]) (n := 3) (Nat.le_of_ble_eq_true rfl)
  rw [lg_entry_eq]
  generalize (lg_sl ([.ref q, .int (nI k), .int w]) ++ List.replicate (3 - (lg_sl ([.ref q, .int (nI k), .int w])).length) Slot.unset).toArray = ls at hl ⊢
  have hl : lv_has ls 3 [(0, .ref q), (1, .int (nI k)), (2, .int w)] := hl
  refine lv_aload_n hx hb dX8_insert_0 rfl (lv_at hl 0 rfl) ?_
  refine lv_iload_n hx hb dX8_insert_1 rfl (lv_at hl 1 rfl) ?_
  refine lv_iload_n hx hb dX8_insert_2 rfl (lv_at hl 2 rfl) ?_
  have hPc := hP.sub (ws' := [(q, .inr (7, [.ref mq, .ref zq, .ref sq, .ref bq, .ref cq, .long sm, .ref pq, .int ps, .int th])), (mq, .inl (cZ, 12288, .inl fM)), (zq, .inl (cI, 3, .inl fS)), (sq, .inl (cI, 6156, .inl fP)), (bq, .inl (cI, 3, .inl fB)), (cq, .inl (cJ, 64, .inr (.inl fC))), (pq, .inl (cI, 8, .inl fT))]) [0, 1, 2, 3, 4, 5, 6] rfl
  have hKc := hK.sub (tys' := [(cZ, .boolean), (cI, .int), (cJ, .long)]) [0, 1, 2] rfl
  have hDc := hD.sub (ws' := [(q, .inr (7, [.ref mq, .ref zq, .ref sq, .ref bq, .ref cq, .long sm, .ref pq, .int ps, .int th])), (mq, .inl (cZ, 12288, .inl fM)), (zq, .inl (cI, 3, .inl fS)), (sq, .inl (cI, 6156, .inl fP)), (bq, .inl (cI, 3, .inl fB)), (cq, .inl (cJ, 64, .inr (.inl fC))), (pq, .inl (cI, 8, .inl fT))]) [0, 1, 2, 3, 4, 5, 6] (by decide) rfl
  have hFc := va_free (wc := [(q, .inr (7, [.ref mq, .ref zq, .ref sq, .ref bq, .ref cq, .long sm, .ref pq, .int ps, .int th])), (mq, .inl (cZ, 12288, .inl fM)), (zq, .inl (cI, 3, .inl fS)), (sq, .inl (cI, 6156, .inl fP)), (bq, .inl (cI, 3, .inl fB)), (cq, .inl (cJ, 64, .inr (.inl fC))), (pq, .inl (cI, 8, .inl fT))]) hD hS hA [0, 1, 2, 3, 4, 5, 6] rfl
  refine va_calli (va_runV (As := [.int (nI k), .int w]) (rest := []) ⟨hx, hb, hml, hown, hts⟩ (c_X8_isRight l dC dI q mq zq sq bq cq pq cZ cI cJ fM fS fP fB fC sm fT ps th (nI k) w s.heap.size ) (cwV 2 hts gX8_insert_X8_isRight rfl rfl rfl (by decide +kernel) ⟨Nat.le_of_ble_eq_true rfl, Nat.le_of_ble_eq_true rfl⟩) ⟨fun a U g mk q => by obtain ⟨q0, q1, qP, qK, qD⟩ := q; exact ⟨q0, q1, qP, va_K.moved (u := U) (U := U.calling g mk a) (Vm.Alike.refl U.vm) qK, qD⟩, va_recv hKc hPc (ci := 7) (q0 := 0) rfl rfl, fun U hU hW => ⟨rfl, by rw [hU], by rw [hU]; exact hPc, va_K.moved hW.alike hKc, hDc.weaken (fun _ _ _ _ => trivial)⟩⟩ rfl rfl hl.1 rfl (lv_room (Nat.le_of_ble_eq_true rfl)) dX8_insert_3 ⟨Nat.le_of_ble_eq_true rfl, Nat.le_of_ble_eq_true rfl⟩) hS (fun q _ h => hFc q h) hFc (fun r_3 u_2 t9 H1 locs ht hvm hw_1 hB hz1 hk1 hS => ?_)
  obtain ⟨th'_4, rfl⟩ : ∃ z, z = u_2 := ⟨_, rfl⟩
  obtain ⟨hP1, hK1, hD1⟩ := hB
  rw [ht] at hP1
  have hK1 := va_K.moved hvm.symm hK1
  try dsimp only at hw_1 hP1 hK1 hD1
  obtain ⟨hP, hD⟩ := va_join (wr := []) (w1 := [(q, .inr (7, [.ref mq, .ref zq, .ref sq, .ref bq, .ref cq, .long sm, .ref pq, .int ps, .int th'_4])), (mq, .inl (cZ, 12288, .inl fM)), (zq, .inl (cI, 3, .inl fS)), (sq, .inl (cI, 6156, .inl fP)), (bq, .inl (cI, 3, .inl fB)), (cq, .inl (cJ, 64, .inr (.inl fC))), (pq, .inl (cI, 8, .inl fT))]) hP hD [0, 1, 2, 3, 4, 5, 6] [] rfl rfl (by decide) (by decide) hk1 hFc hP1 hD1
  generalize H1 = H at hP hS ⊢
  have hP : va_P (dC, dI) vwCl [(q, .inr (7, [.ref mq, .ref zq, .ref sq, .ref bq, .ref cq, .long sm, .ref pq, .int ps, .int th'_4])), (mq, .inl (cZ, 12288, .inl fM)), (zq, .inl (cI, 3, .inl fS)), (sq, .inl (cI, 6156, .inl fP)), (bq, .inl (cI, 3, .inl fB)), (cq, .inl (cJ, 64, .inr (.inl fC))), (pq, .inl (cI, 8, .inl fT))] H := hP
  have hD : va_D A [(q, .inr (7, [.ref mq, .ref zq, .ref sq, .ref bq, .ref cq, .long sm, .ref pq, .int ps, .int th'_4])), (mq, .inl (cZ, 12288, .inl fM)), (zq, .inl (cI, 3, .inl fS)), (sq, .inl (cI, 6156, .inl fP)), (bq, .inl (cI, 3, .inl fB)), (cq, .inl (cJ, 64, .inr (.inl fC))), (pq, .inl (cI, 8, .inl fT))] := hD
  obtain ⟨he, hw_1⟩ := hw_1
  subst he
  have hth : th'_4 = nI 2 := by rw [hw_1, isS_t hk, hW]; rfl
  refine lv_cvi (congrArg b2i (by rw [isS_t hk, hW] <;> rfl)) ?_
  refine lv_if_eq (tgt := 22) hx hb dX8_insert_6 (by decide) (fun qc_5 => ?_) (fun qc_5 => ?_)
  · have c_5 : false = false := b2i_f qc_5
    refine lv_iconst (v := nI 0) hx hb dX8_insert_22 (by decide +kernel) ?_
    have hP9 := hP.sub (ws' := [(q, .inr (7, [.ref mq, .ref zq, .ref sq, .ref bq, .ref cq, .long sm, .ref pq, .int ps, .int th'_4])), (mq, .inl (cZ, 12288, .inl fM)), (zq, .inl (cI, 3, .inl fS)), (sq, .inl (cI, 6156, .inl fP)), (bq, .inl (cI, 3, .inl fB)), (cq, .inl (cJ, 64, .inr (.inl fC))), (pq, .inl (cI, 8, .inl fT))]) [0, 1, 2, 3, 4, 5, 6] rfl
    have hD9 := hD.sub (ws' := [(q, .inr (7, [.ref mq, .ref zq, .ref sq, .ref bq, .ref cq, .long sm, .ref pq, .int ps, .int th'_4])), (mq, .inl (cZ, 12288, .inl fM)), (zq, .inl (cI, 3, .inl fS)), (sq, .inl (cI, 6156, .inl fP)), (bq, .inl (cI, 3, .inl fB)), (cq, .inl (cJ, 64, .inr (.inl fC))), (pq, .inl (cI, 8, .inl fT))]) [0, 1, 2, 3, 4, 5, 6] (by decide) rfl
    have hK9 := hK.sub (tys' := [(cZ, .boolean), (cI, .int), (cJ, .long)]) [0, 1, 2] rfl
    exact W.zret (v := nI 0) hx hb hr (by first | exact narrow_b1 | exact narrow_b0) (fun t9 ht hW => ⟨⟨nI 0, th'_4, rfl, hth, by rw [ht]; exact hP9, va_K.moved hW.alike hK9, hD9⟩, hS.F ht⟩) hS.2.2 dX8_insert_23
  · have c_5 : false = true := b2i_t qc_5
    cases c_5
set_option maxHeartbeats 4000000 in
set_option maxRecDepth 100000 in
/-- reference: c_X8_delete_v -/
theorem c_X8_delete_v (l : Launch) (dC : Nat → ClassId) (dI : Nat → Nat → Nat) (q : Nat) (mq : Nat) (zq : Nat) (sq : Nat) (bq : Nat) (cq : Nat) (pq : Nat) (cZ : ClassId) (cI : ClassId) (cJ : ClassId) (fM : Nat → Int32) (fS : Nat → Int32) (fP : Nat → Int32) (fB : Nat → Int32) (fC : Nat → Int64) (sm : Int64) (fT : Nat → Int32) (ps : Int32) (th : Int32) (M : Nat → Nat → Bool) (P : Nat → Nat → Bool) (k : Nat) (x : Nat) (sz : Nat) (hM : MM fM M) (hZ : MZ fS M) (hX : MX fP fB P) (hk : k < 3) (hxx : x < 4096) (hB : BI (M k) (P k)) : Met l yX8_delete wsX8_delete ({ frames := 5, cells := 0, slots := 0, locals := 118 }) (va_Pc [.ref q, .int (nI k), .int (nI x)] (fun U => U.heap.size = sz ∧ va_P (dC, dI) vwCl [(q, .inr (7, [.ref mq, .ref zq, .ref sq, .ref bq, .ref cq, .long sm, .ref pq, .int ps, .int th])), (mq, .inl (cZ, 12288, .inl fM)), (zq, .inl (cI, 3, .inl fS)), (sq, .inl (cI, 6156, .inl fP)), (bq, .inl (cI, 3, .inl fB)), (cq, .inl (cJ, 64, .inr (.inl fC))), (pq, .inl (cI, 8, .inl fT))] U.heap ∧ va_K (dC, dI) vwCl [(cZ, .boolean), (cI, .int), (cJ, .long)] U ∧ va_D (fun _ => True) [(q, .inr (7, [.ref mq, .ref zq, .ref sq, .ref bq, .ref cq, .long sm, .ref pq, .int ps, .int th])), (mq, .inl (cZ, 12288, .inl fM)), (zq, .inl (cI, 3, .inl fS)), (sq, .inl (cI, 6156, .inl fP)), (bq, .inl (cI, 3, .inl fB)), (cq, .inl (cJ, 64, .inr (.inl fC))), (pq, .inl (cI, 8, .inl fT))])) (va_Qi (fun (r : Int32) (u : (Nat → Int32) × (Nat → Int32) × (Nat → Int32) × (Nat → Int32) × Int32) => r = b2i (M k x) ∧ MM u.1 (upF M k (del (M k) x)) ∧ MZ u.2.1 (upF M k (del (M k) x)) ∧ MX u.2.2.1 u.2.2.2.1 (upF P k (takeP (M k) (P k) x)) ∧ u.2.2.2.2 = nI 0) (fun (u : (Nat → Int32) × (Nat → Int32) × (Nat → Int32) × (Nat → Int32) × Int32) (t : State) => va_P (dC, dI) vwCl [(q, .inr (7, [.ref mq, .ref zq, .ref sq, .ref bq, .ref cq, .long sm, .ref pq, .int ps, .int u.2.2.2.2])), (mq, .inl (cZ, 12288, .inl u.1)), (zq, .inl (cI, 3, .inl u.2.1)), (sq, .inl (cI, 6156, .inl u.2.2.1)), (bq, .inl (cI, 3, .inl u.2.2.2.1)), (cq, .inl (cJ, 64, .inr (.inl fC))), (pq, .inl (cI, 8, .inl fT))] t.heap ∧ va_K (dC, dI) vwCl [(cZ, .boolean), (cI, .int), (cJ, .long)] t ∧ va_D (va_A [(q, .inr (7, [.ref mq, .ref zq, .ref sq, .ref bq, .ref cq, .long sm, .ref pq, .int ps, .int th])), (mq, .inl (cZ, 12288, .inl fM)), (zq, .inl (cI, 3, .inl fS)), (sq, .inl (cI, 6156, .inl fP)), (bq, .inl (cI, 3, .inl fB)), (cq, .inl (cJ, 64, .inr (.inl fC))), (pq, .inl (cI, 8, .inl fT))] sz) [(q, .inr (7, [.ref mq, .ref zq, .ref sq, .ref bq, .ref cq, .long sm, .ref pq, .int ps, .int u.2.2.2.2])), (mq, .inl (cZ, 12288, .inl u.1)), (zq, .inl (cI, 3, .inl u.2.1)), (sq, .inl (cI, 6156, .inl u.2.2.1)), (bq, .inl (cI, 3, .inl u.2.2.2.1)), (cq, .inl (cJ, 64, .inr (.inl fC))), (pq, .inl (cI, 8, .inl fT))]) (va_A [(q, .inr (7, [.ref mq, .ref zq, .ref sq, .ref bq, .ref cq, .long sm, .ref pq, .int ps, .int th])), (mq, .inl (cZ, 12288, .inl fM)), (zq, .inl (cI, 3, .inl fS)), (sq, .inl (cI, 6156, .inl fP)), (bq, .inl (cI, 3, .inl fB)), (cq, .inl (cJ, 64, .inr (.inl fC))), (pq, .inl (cI, 8, .inl fT))] sz)) 0 0 (va_A [(q, .inr (7, [.ref mq, .ref zq, .ref sq, .ref bq, .ref cq, .long sm, .ref pq, .int ps, .int th])), (mq, .inl (cZ, 12288, .inl fM)), (zq, .inl (cI, 3, .inl fS)), (sq, .inl (cI, 6156, .inl fP)), (bq, .inl (cI, 3, .inl fB)), (cq, .inl (cJ, 64, .inr (.inl fC))), (pq, .inl (cI, 8, .inl fT))] sz) := by
  refine Met.ofW (cc := cX8_delete) (maxL := 3) (ret := (some .boolean)) (by decide) rfl ?_
  intro p e s m args below meth c s₁ B hml hv
  obtain ⟨rfl, hsz, hP, hK, hD0⟩ := hv
  have hx := B.exec
  have hb := B.bytes
  have hr := B.returns
  have hts := atoms_spec (ws := wsX8_delete) B.pre
  have hown : s.vm.findClass RX8 = some m.cls := findClass_of_methodNamed B.named
  have hlocks := B.notSynchronized
  subst hsz
  have hD := hD0.self (sz := s.heap.size)
  generalize hAe : va_A [(q, .inr (7, [.ref mq, .ref zq, .ref sq, .ref bq, .ref cq, .long sm, .ref pq, .int ps, .int th])), (mq, .inl (cZ, 12288, .inl fM)), (zq, .inl (cI, 3, .inl fS)), (sq, .inl (cI, 6156, .inl fP)), (bq, .inl (cI, 3, .inl fB)), (cq, .inl (cJ, 64, .inr (.inl fC))), (pq, .inl (cI, 8, .inl fT))] s.heap.size = A at hD ⊢
  have hA : ∀ q : Nat, s.heap.size ≤ q → A q := fun q h => by rw [← hAe]; exact Or.inr h
  have hS : va_S A s.heap s.heap [] := va_S.rf
  have hP : va_P (dC, dI) vwCl [(q, .inr (7, [.ref mq, .ref zq, .ref sq, .ref bq, .ref cq, .long sm, .ref pq, .int ps, .int th])), (mq, .inl (cZ, 12288, .inl fM)), (zq, .inl (cI, 3, .inl fS)), (sq, .inl (cI, 6156, .inl fP)), (bq, .inl (cI, 3, .inl fB)), (cq, .inl (cJ, 64, .inr (.inl fC))), (pq, .inl (cI, 8, .inl fT))] s.heap := hP
  have hl := lv_entry ([.ref q, .int (nI k), .int (nI x)]) (n := 3) (Nat.le_of_ble_eq_true rfl)
  rw [lg_entry_eq]
  generalize (lg_sl ([.ref q, .int (nI k), .int (nI x)]) ++ List.replicate (3 - (lg_sl ([.ref q, .int (nI k), .int (nI x)])).length) Slot.unset).toArray = ls at hl ⊢
  have hl : lv_has ls 3 [(0, .ref q), (1, .int (nI k)), (2, .int (nI x))] := hl
  refine lv_aload_n hx hb dX8_delete_0 rfl (lv_at hl 0 rfl) ?_
  refine lv_iload_n hx hb dX8_delete_1 rfl (lv_at hl 1 rfl) ?_
  refine lv_iload_n hx hb dX8_delete_2 rfl (lv_at hl 2 rfl) ?_
  have hPc := hP.sub (ws' := [(q, .inr (7, [.ref mq, .ref zq, .ref sq, .ref bq, .ref cq, .long sm, .ref pq, .int ps, .int th])), (mq, .inl (cZ, 12288, .inl fM)), (zq, .inl (cI, 3, .inl fS)), (sq, .inl (cI, 6156, .inl fP)), (bq, .inl (cI, 3, .inl fB)), (cq, .inl (cJ, 64, .inr (.inl fC))), (pq, .inl (cI, 8, .inl fT))]) [0, 1, 2, 3, 4, 5, 6] rfl
  have hKc := hK.sub (tys' := [(cZ, .boolean), (cI, .int), (cJ, .long)]) [0, 1, 2] rfl
  have hDc := hD.sub (ws' := [(q, .inr (7, [.ref mq, .ref zq, .ref sq, .ref bq, .ref cq, .long sm, .ref pq, .int ps, .int th])), (mq, .inl (cZ, 12288, .inl fM)), (zq, .inl (cI, 3, .inl fS)), (sq, .inl (cI, 6156, .inl fP)), (bq, .inl (cI, 3, .inl fB)), (cq, .inl (cJ, 64, .inr (.inl fC))), (pq, .inl (cI, 8, .inl fT))]) [0, 1, 2, 3, 4, 5, 6] (by decide) rfl
  have hFc := va_free (wc := [(q, .inr (7, [.ref mq, .ref zq, .ref sq, .ref bq, .ref cq, .long sm, .ref pq, .int ps, .int th])), (mq, .inl (cZ, 12288, .inl fM)), (zq, .inl (cI, 3, .inl fS)), (sq, .inl (cI, 6156, .inl fP)), (bq, .inl (cI, 3, .inl fB)), (cq, .inl (cJ, 64, .inr (.inl fC))), (pq, .inl (cI, 8, .inl fT))]) hD hS hA [0, 1, 2, 3, 4, 5, 6] rfl
  refine va_calli (va_runV (As := [.int (nI k), .int (nI x)]) (rest := []) ⟨hx, hb, hml, hown, hts⟩ (c_X8_isRight l dC dI q mq zq sq bq cq pq cZ cI cJ fM fS fP fB fC sm fT ps th (nI k) (nI x) s.heap.size ) (cwV 2 hts gX8_delete_X8_isRight rfl rfl rfl (by decide +kernel) ⟨Nat.le_of_ble_eq_true rfl, Nat.le_of_ble_eq_true rfl⟩) ⟨fun a U g mk q => by obtain ⟨q0, q1, qP, qK, qD⟩ := q; exact ⟨q0, q1, qP, va_K.moved (u := U) (U := U.calling g mk a) (Vm.Alike.refl U.vm) qK, qD⟩, va_recv hKc hPc (ci := 7) (q0 := 0) rfl rfl, fun U hU hW => ⟨rfl, by rw [hU], by rw [hU]; exact hPc, va_K.moved hW.alike hKc, hDc.weaken (fun _ _ _ _ => trivial)⟩⟩ rfl rfl hl.1 rfl (lv_room (Nat.le_of_ble_eq_true rfl)) dX8_delete_3 ⟨Nat.le_of_ble_eq_true rfl, Nat.le_of_ble_eq_true rfl⟩) hS (fun q _ h => hFc q h) hFc (fun r_3 u_2 t9 H1 locs ht hvm hw_1 hB hz1 hk1 hS => ?_)
  obtain ⟨th'_4, rfl⟩ : ∃ z, z = u_2 := ⟨_, rfl⟩
  obtain ⟨hP1, hK1, hD1⟩ := hB
  rw [ht] at hP1
  have hK1 := va_K.moved hvm.symm hK1
  try dsimp only at hw_1 hP1 hK1 hD1
  obtain ⟨hP, hD⟩ := va_join (wr := []) (w1 := [(q, .inr (7, [.ref mq, .ref zq, .ref sq, .ref bq, .ref cq, .long sm, .ref pq, .int ps, .int th'_4])), (mq, .inl (cZ, 12288, .inl fM)), (zq, .inl (cI, 3, .inl fS)), (sq, .inl (cI, 6156, .inl fP)), (bq, .inl (cI, 3, .inl fB)), (cq, .inl (cJ, 64, .inr (.inl fC))), (pq, .inl (cI, 8, .inl fT))]) hP hD [0, 1, 2, 3, 4, 5, 6] [] rfl rfl (by decide) (by decide) hk1 hFc hP1 hD1
  generalize H1 = H at hP hS ⊢
  have hP : va_P (dC, dI) vwCl [(q, .inr (7, [.ref mq, .ref zq, .ref sq, .ref bq, .ref cq, .long sm, .ref pq, .int ps, .int th'_4])), (mq, .inl (cZ, 12288, .inl fM)), (zq, .inl (cI, 3, .inl fS)), (sq, .inl (cI, 6156, .inl fP)), (bq, .inl (cI, 3, .inl fB)), (cq, .inl (cJ, 64, .inr (.inl fC))), (pq, .inl (cI, 8, .inl fT))] H := hP
  have hD : va_D A [(q, .inr (7, [.ref mq, .ref zq, .ref sq, .ref bq, .ref cq, .long sm, .ref pq, .int ps, .int th'_4])), (mq, .inl (cZ, 12288, .inl fM)), (zq, .inl (cI, 3, .inl fS)), (sq, .inl (cI, 6156, .inl fP)), (bq, .inl (cI, 3, .inl fB)), (cq, .inl (cJ, 64, .inr (.inl fC))), (pq, .inl (cI, 8, .inl fT))] := hD
  obtain ⟨he, hw_1⟩ := hw_1
  subst he
  have hth : th'_4 = nI 0 := by rw [hw_1, isS_t hk, isN_t hxx]; rfl
  refine lv_cvi (congrArg b2i (by rw [isS_t hk, isN_t hxx] <;> rfl)) ?_
  refine lv_if_eq (tgt := 22) hx hb dX8_delete_6 (by decide) (fun qc_5 => ?_) (fun qc_5 => ?_)
  · have c_5 : true = false := b2i_f qc_5
    cases c_5
  · have c_5 : true = true := b2i_t qc_5
    refine lv_aload_n hx hb dX8_delete_9 rfl (lv_at hl 0 rfl) ?_
    refine lv_iload_n hx hb dX8_delete_10 rfl (lv_at hl 1 rfl) ?_
    refine lv_iload_n hx hb dX8_delete_11 rfl (lv_at hl 2 rfl) ?_
    have hPc := hP.sub (ws' := [(q, .inr (7, [.ref mq, .ref zq, .ref sq, .ref bq, .ref cq, .long sm, .ref pq, .int ps, .int th'_4])), (mq, .inl (cZ, 12288, .inl fM)), (zq, .inl (cI, 3, .inl fS)), (sq, .inl (cI, 6156, .inl fP)), (bq, .inl (cI, 3, .inl fB)), (cq, .inl (cJ, 64, .inr (.inl fC))), (pq, .inl (cI, 8, .inl fT))]) [0, 1, 2, 3, 4, 5, 6] rfl
    have hKc := hK.sub (tys' := [(cZ, .boolean), (cI, .int), (cJ, .long)]) [0, 1, 2] rfl
    have hDc := hD.sub (ws' := [(q, .inr (7, [.ref mq, .ref zq, .ref sq, .ref bq, .ref cq, .long sm, .ref pq, .int ps, .int th'_4])), (mq, .inl (cZ, 12288, .inl fM)), (zq, .inl (cI, 3, .inl fS)), (sq, .inl (cI, 6156, .inl fP)), (bq, .inl (cI, 3, .inl fB)), (cq, .inl (cJ, 64, .inr (.inl fC))), (pq, .inl (cI, 8, .inl fT))]) [0, 1, 2, 3, 4, 5, 6] (by decide) rfl
    have hFc := va_free (wc := [(q, .inr (7, [.ref mq, .ref zq, .ref sq, .ref bq, .ref cq, .long sm, .ref pq, .int ps, .int th'_4])), (mq, .inl (cZ, 12288, .inl fM)), (zq, .inl (cI, 3, .inl fS)), (sq, .inl (cI, 6156, .inl fP)), (bq, .inl (cI, 3, .inl fB)), (cq, .inl (cJ, 64, .inr (.inl fC))), (pq, .inl (cI, 8, .inl fT))]) hD hS hA [0, 1, 2, 3, 4, 5, 6] rfl
    refine va_calli (va_runV (As := [.int (nI k), .int (nI x)]) (rest := []) ⟨hx, hb, hml, hown, hts⟩ (c_X8_takes l dC dI q mq zq sq bq cq pq cZ cI cJ fM fS fP fB fC sm fT ps th'_4 M P k x H.size (by first | assumption | omega) (by first | assumption | omega) (by first | assumption | omega) (by first | assumption | omega) (by first | assumption | omega) (bi_cnt hB)) (cwV 2 hts gX8_delete_X8_takes rfl rfl rfl (by decide +kernel) ⟨Nat.le_of_ble_eq_true rfl, Nat.le_of_ble_eq_true rfl⟩) ⟨fun a U g mk q => by obtain ⟨q0, q1, qP, qK, qD⟩ := q; exact ⟨q0, q1, qP, va_K.moved (u := U) (U := U.calling g mk a) (Vm.Alike.refl U.vm) qK, qD⟩, va_recv hKc hPc (ci := 7) (q0 := 0) rfl rfl, fun U hU hW => ⟨rfl, by rw [hU], by rw [hU]; exact hPc, va_K.moved hW.alike hKc, hDc.weaken (fun _ _ _ _ => trivial)⟩⟩ rfl rfl hl.1 rfl (lv_room (Nat.le_of_ble_eq_true rfl)) dX8_delete_12 ⟨Nat.le_of_ble_eq_true rfl, Nat.le_of_ble_eq_true rfl⟩) hS (fun q _ h => hFc q h) hFc (fun r_8 u_7 t9 H1 locs ht hvm hw_6 hB hz1 hk1 hS => ?_)
    obtain ⟨fM'_9, fS'_10, fP'_11, fB'_12⟩ := u_7
    obtain ⟨hP1, hK1, hD1⟩ := hB
    rw [ht] at hP1
    have hK1 := va_K.moved hvm.symm hK1
    try dsimp only at hw_6 hP1 hK1 hD1
    obtain ⟨hP, hD⟩ := va_join (wr := []) (w1 := [(q, .inr (7, [.ref mq, .ref zq, .ref sq, .ref bq, .ref cq, .long sm, .ref pq, .int ps, .int th'_4])), (mq, .inl (cZ, 12288, .inl fM'_9)), (zq, .inl (cI, 3, .inl fS'_10)), (sq, .inl (cI, 6156, .inl fP'_11)), (bq, .inl (cI, 3, .inl fB'_12)), (cq, .inl (cJ, 64, .inr (.inl fC))), (pq, .inl (cI, 8, .inl fT))]) hP hD [0, 1, 2, 3, 4, 5, 6] [] rfl rfl (by decide) (by decide) hk1 hFc hP1 hD1
    generalize H1 = H at hP hS ⊢
    have hP : va_P (dC, dI) vwCl [(q, .inr (7, [.ref mq, .ref zq, .ref sq, .ref bq, .ref cq, .long sm, .ref pq, .int ps, .int th'_4])), (mq, .inl (cZ, 12288, .inl fM'_9)), (zq, .inl (cI, 3, .inl fS'_10)), (sq, .inl (cI, 6156, .inl fP'_11)), (bq, .inl (cI, 3, .inl fB'_12)), (cq, .inl (cJ, 64, .inr (.inl fC))), (pq, .inl (cI, 8, .inl fT))] H := hP
    have hD : va_D A [(q, .inr (7, [.ref mq, .ref zq, .ref sq, .ref bq, .ref cq, .long sm, .ref pq, .int ps, .int th'_4])), (mq, .inl (cZ, 12288, .inl fM'_9)), (zq, .inl (cI, 3, .inl fS'_10)), (sq, .inl (cI, 6156, .inl fP'_11)), (bq, .inl (cI, 3, .inl fB'_12)), (cq, .inl (cJ, 64, .inr (.inl fC))), (pq, .inl (cI, 8, .inl fT))] := hD
    obtain ⟨he, hw_6⟩ := hw_6
    subst he
    refine lv_if_eq (tgt := 22) hx hb dX8_delete_15 (by decide) (fun qc_13 => ?_) (fun qc_13 => ?_)
    · have c_13 : (M k x) = false := b2i_f qc_13
      refine lv_iconst (v := nI 0) hx hb dX8_delete_22 (by decide +kernel) ?_
      have hP9 := hP.sub (ws' := [(q, .inr (7, [.ref mq, .ref zq, .ref sq, .ref bq, .ref cq, .long sm, .ref pq, .int ps, .int th'_4])), (mq, .inl (cZ, 12288, .inl fM'_9)), (zq, .inl (cI, 3, .inl fS'_10)), (sq, .inl (cI, 6156, .inl fP'_11)), (bq, .inl (cI, 3, .inl fB'_12)), (cq, .inl (cJ, 64, .inr (.inl fC))), (pq, .inl (cI, 8, .inl fT))]) [0, 1, 2, 3, 4, 5, 6] rfl
      have hD9 := hD.sub (ws' := [(q, .inr (7, [.ref mq, .ref zq, .ref sq, .ref bq, .ref cq, .long sm, .ref pq, .int ps, .int th'_4])), (mq, .inl (cZ, 12288, .inl fM'_9)), (zq, .inl (cI, 3, .inl fS'_10)), (sq, .inl (cI, 6156, .inl fP'_11)), (bq, .inl (cI, 3, .inl fB'_12)), (cq, .inl (cJ, 64, .inr (.inl fC))), (pq, .inl (cI, 8, .inl fT))]) [0, 1, 2, 3, 4, 5, 6] (by decide) rfl
      have hK9 := hK.sub (tys' := [(cZ, .boolean), (cI, .int), (cJ, .long)]) [0, 1, 2] rfl
      exact W.zret (v := nI 0) hx hb hr (by first | exact narrow_b1 | exact narrow_b0) (fun t9 ht hW => ⟨⟨nI 0, ⟨fM'_9, fS'_10, fP'_11, fB'_12, th'_4⟩, rfl, (show (nI 0) = b2i (M k x) ∧ MM fM'_9 (upF M k (del (M k) x)) ∧ MZ fS'_10 (upF M k (del (M k) x)) ∧ MX fP'_11 fB'_12 (upF P k (takeP (M k) (P k) x)) ∧ th'_4 = nI 0 from ⟨by rw [c_13]; rfl, hw_6.1, hw_6.2.1, hw_6.2.2, hth⟩), by rw [ht]; exact hP9, va_K.moved hW.alike hK9, hD9⟩, hS.F ht⟩) hS.2.2 dX8_delete_23
    · have c_13 : (M k x) = true := b2i_t qc_13
      refine lv_iconst (v := nI 1) hx hb dX8_delete_18 (by decide +kernel) ?_
      refine lv_goto (tgt := 23) hx hb dX8_delete_19 (by decide) ?_
      have hP9 := hP.sub (ws' := [(q, .inr (7, [.ref mq, .ref zq, .ref sq, .ref bq, .ref cq, .long sm, .ref pq, .int ps, .int th'_4])), (mq, .inl (cZ, 12288, .inl fM'_9)), (zq, .inl (cI, 3, .inl fS'_10)), (sq, .inl (cI, 6156, .inl fP'_11)), (bq, .inl (cI, 3, .inl fB'_12)), (cq, .inl (cJ, 64, .inr (.inl fC))), (pq, .inl (cI, 8, .inl fT))]) [0, 1, 2, 3, 4, 5, 6] rfl
      have hD9 := hD.sub (ws' := [(q, .inr (7, [.ref mq, .ref zq, .ref sq, .ref bq, .ref cq, .long sm, .ref pq, .int ps, .int th'_4])), (mq, .inl (cZ, 12288, .inl fM'_9)), (zq, .inl (cI, 3, .inl fS'_10)), (sq, .inl (cI, 6156, .inl fP'_11)), (bq, .inl (cI, 3, .inl fB'_12)), (cq, .inl (cJ, 64, .inr (.inl fC))), (pq, .inl (cI, 8, .inl fT))]) [0, 1, 2, 3, 4, 5, 6] (by decide) rfl
      have hK9 := hK.sub (tys' := [(cZ, .boolean), (cI, .int), (cJ, .long)]) [0, 1, 2] rfl
      exact W.zret (v := nI 1) hx hb hr (by first | exact narrow_b1 | exact narrow_b0) (fun t9 ht hW => ⟨⟨nI 1, ⟨fM'_9, fS'_10, fP'_11, fB'_12, th'_4⟩, rfl, (show (nI 1) = b2i (M k x) ∧ MM fM'_9 (upF M k (del (M k) x)) ∧ MZ fS'_10 (upF M k (del (M k) x)) ∧ MX fP'_11 fB'_12 (upF P k (takeP (M k) (P k) x)) ∧ th'_4 = nI 0 from ⟨by rw [c_13]; rfl, hw_6.1, hw_6.2.1, hw_6.2.2, hth⟩), by rw [ht]; exact hP9, va_K.moved hW.alike hK9, hD9⟩, hS.F ht⟩) hS.2.2 dX8_delete_23
set_option maxHeartbeats 4000000 in
set_option maxRecDepth 100000 in
/-- reference: c_X8_delete_s -/
theorem c_X8_delete_s (l : Launch) (dC : Nat → ClassId) (dI : Nat → Nat → Nat) (q : Nat) (mq : Nat) (zq : Nat) (sq : Nat) (bq : Nat) (cq : Nat) (pq : Nat) (cZ : ClassId) (cI : ClassId) (cJ : ClassId) (fM : Nat → Int32) (fS : Nat → Int32) (fP : Nat → Int32) (fB : Nat → Int32) (fC : Nat → Int64) (sm : Int64) (fT : Nat → Int32) (ps : Int32) (th : Int32) (v : Int32) (w0 : Int32) (sz : Nat) (hSf : isS v = false) : Met l yX8_delete wsX8_delete ({ frames := 3, cells := 0, slots := 0, locals := 64 }) (va_Pc [.ref q, .int v, .int w0] (fun U => U.heap.size = sz ∧ va_P (dC, dI) vwCl [(q, .inr (7, [.ref mq, .ref zq, .ref sq, .ref bq, .ref cq, .long sm, .ref pq, .int ps, .int th])), (mq, .inl (cZ, 12288, .inl fM)), (zq, .inl (cI, 3, .inl fS)), (sq, .inl (cI, 6156, .inl fP)), (bq, .inl (cI, 3, .inl fB)), (cq, .inl (cJ, 64, .inr (.inl fC))), (pq, .inl (cI, 8, .inl fT))] U.heap ∧ va_K (dC, dI) vwCl [(cZ, .boolean), (cI, .int), (cJ, .long)] U ∧ va_D (fun _ => True) [(q, .inr (7, [.ref mq, .ref zq, .ref sq, .ref bq, .ref cq, .long sm, .ref pq, .int ps, .int th])), (mq, .inl (cZ, 12288, .inl fM)), (zq, .inl (cI, 3, .inl fS)), (sq, .inl (cI, 6156, .inl fP)), (bq, .inl (cI, 3, .inl fB)), (cq, .inl (cJ, 64, .inr (.inl fC))), (pq, .inl (cI, 8, .inl fT))])) (va_Qi (fun (r : Int32) (u : Int32) => u = nI 1) (fun (u : Int32) (t : State) => va_P (dC, dI) vwCl [(q, .inr (7, [.ref mq, .ref zq, .ref sq, .ref bq, .ref cq, .long sm, .ref pq, .int ps, .int u])), (mq, .inl (cZ, 12288, .inl fM)), (zq, .inl (cI, 3, .inl fS)), (sq, .inl (cI, 6156, .inl fP)), (bq, .inl (cI, 3, .inl fB)), (cq, .inl (cJ, 64, .inr (.inl fC))), (pq, .inl (cI, 8, .inl fT))] t.heap ∧ va_K (dC, dI) vwCl [(cZ, .boolean), (cI, .int), (cJ, .long)] t ∧ va_D (va_A [(q, .inr (7, [.ref mq, .ref zq, .ref sq, .ref bq, .ref cq, .long sm, .ref pq, .int ps, .int th])), (mq, .inl (cZ, 12288, .inl fM)), (zq, .inl (cI, 3, .inl fS)), (sq, .inl (cI, 6156, .inl fP)), (bq, .inl (cI, 3, .inl fB)), (cq, .inl (cJ, 64, .inr (.inl fC))), (pq, .inl (cI, 8, .inl fT))] sz) [(q, .inr (7, [.ref mq, .ref zq, .ref sq, .ref bq, .ref cq, .long sm, .ref pq, .int ps, .int u])), (mq, .inl (cZ, 12288, .inl fM)), (zq, .inl (cI, 3, .inl fS)), (sq, .inl (cI, 6156, .inl fP)), (bq, .inl (cI, 3, .inl fB)), (cq, .inl (cJ, 64, .inr (.inl fC))), (pq, .inl (cI, 8, .inl fT))]) (va_A [(q, .inr (7, [.ref mq, .ref zq, .ref sq, .ref bq, .ref cq, .long sm, .ref pq, .int ps, .int th])), (mq, .inl (cZ, 12288, .inl fM)), (zq, .inl (cI, 3, .inl fS)), (sq, .inl (cI, 6156, .inl fP)), (bq, .inl (cI, 3, .inl fB)), (cq, .inl (cJ, 64, .inr (.inl fC))), (pq, .inl (cI, 8, .inl fT))] sz)) 0 0 (va_A [(q, .inr (7, [.ref mq, .ref zq, .ref sq, .ref bq, .ref cq, .long sm, .ref pq, .int ps, .int th])), (mq, .inl (cZ, 12288, .inl fM)), (zq, .inl (cI, 3, .inl fS)), (sq, .inl (cI, 6156, .inl fP)), (bq, .inl (cI, 3, .inl fB)), (cq, .inl (cJ, 64, .inr (.inl fC))), (pq, .inl (cI, 8, .inl fT))] sz) := by
  refine Met.ofW (cc := cX8_delete) (maxL := 3) (ret := (some .boolean)) (by decide) rfl ?_
  intro p e s m args below meth c s₁ B hml hv
  obtain ⟨rfl, hsz, hP, hK, hD0⟩ := hv
  have hx := B.exec
  have hb := B.bytes
  have hr := B.returns
  have hts := atoms_spec (ws := wsX8_delete) B.pre
  have hown : s.vm.findClass RX8 = some m.cls := findClass_of_methodNamed B.named
  have hlocks := B.notSynchronized
  subst hsz
  have hD := hD0.self (sz := s.heap.size)
  generalize hAe : va_A [(q, .inr (7, [.ref mq, .ref zq, .ref sq, .ref bq, .ref cq, .long sm, .ref pq, .int ps, .int th])), (mq, .inl (cZ, 12288, .inl fM)), (zq, .inl (cI, 3, .inl fS)), (sq, .inl (cI, 6156, .inl fP)), (bq, .inl (cI, 3, .inl fB)), (cq, .inl (cJ, 64, .inr (.inl fC))), (pq, .inl (cI, 8, .inl fT))] s.heap.size = A at hD ⊢
  have hA : ∀ q : Nat, s.heap.size ≤ q → A q := fun q h => by rw [← hAe]; exact Or.inr h
  have hS : va_S A s.heap s.heap [] := va_S.rf
  have hP : va_P (dC, dI) vwCl [(q, .inr (7, [.ref mq, .ref zq, .ref sq, .ref bq, .ref cq, .long sm, .ref pq, .int ps, .int th])), (mq, .inl (cZ, 12288, .inl fM)), (zq, .inl (cI, 3, .inl fS)), (sq, .inl (cI, 6156, .inl fP)), (bq, .inl (cI, 3, .inl fB)), (cq, .inl (cJ, 64, .inr (.inl fC))), (pq, .inl (cI, 8, .inl fT))] s.heap := hP
  have hl := lv_entry ([.ref q, .int v, .int w0]) (n := 3) (Nat.le_of_ble_eq_true rfl)
  rw [lg_entry_eq]
  generalize (lg_sl ([.ref q, .int v, .int w0]) ++ List.replicate (3 - (lg_sl ([.ref q, .int v, .int w0])).length) Slot.unset).toArray = ls at hl ⊢
  have hl : lv_has ls 3 [(0, .ref q), (1, .int v), (2, .int w0)] := hl
  refine lv_aload_n hx hb dX8_delete_0 rfl (lv_at hl 0 rfl) ?_
  refine lv_iload_n hx hb dX8_delete_1 rfl (lv_at hl 1 rfl) ?_
  refine lv_iload_n hx hb dX8_delete_2 rfl (lv_at hl 2 rfl) ?_
  have hPc := hP.sub (ws' := [(q, .inr (7, [.ref mq, .ref zq, .ref sq, .ref bq, .ref cq, .long sm, .ref pq, .int ps, .int th])), (mq, .inl (cZ, 12288, .inl fM)), (zq, .inl (cI, 3, .inl fS)), (sq, .inl (cI, 6156, .inl fP)), (bq, .inl (cI, 3, .inl fB)), (cq, .inl (cJ, 64, .inr (.inl fC))), (pq, .inl (cI, 8, .inl fT))]) [0, 1, 2, 3, 4, 5, 6] rfl
  have hKc := hK.sub (tys' := [(cZ, .boolean), (cI, .int), (cJ, .long)]) [0, 1, 2] rfl
  have hDc := hD.sub (ws' := [(q, .inr (7, [.ref mq, .ref zq, .ref sq, .ref bq, .ref cq, .long sm, .ref pq, .int ps, .int th])), (mq, .inl (cZ, 12288, .inl fM)), (zq, .inl (cI, 3, .inl fS)), (sq, .inl (cI, 6156, .inl fP)), (bq, .inl (cI, 3, .inl fB)), (cq, .inl (cJ, 64, .inr (.inl fC))), (pq, .inl (cI, 8, .inl fT))]) [0, 1, 2, 3, 4, 5, 6] (by decide) rfl
  have hFc := va_free (wc := [(q, .inr (7, [.ref mq, .ref zq, .ref sq, .ref bq, .ref cq, .long sm, .ref pq, .int ps, .int th])), (mq, .inl (cZ, 12288, .inl fM)), (zq, .inl (cI, 3, .inl fS)), (sq, .inl (cI, 6156, .inl fP)), (bq, .inl (cI, 3, .inl fB)), (cq, .inl (cJ, 64, .inr (.inl fC))), (pq, .inl (cI, 8, .inl fT))]) hD hS hA [0, 1, 2, 3, 4, 5, 6] rfl
  refine va_calli (va_runV (As := [.int v, .int w0]) (rest := []) ⟨hx, hb, hml, hown, hts⟩ (c_X8_isRight l dC dI q mq zq sq bq cq pq cZ cI cJ fM fS fP fB fC sm fT ps th v w0 s.heap.size ) (cwV 2 hts gX8_delete_X8_isRight rfl rfl rfl (by decide +kernel) ⟨Nat.le_of_ble_eq_true rfl, Nat.le_of_ble_eq_true rfl⟩) ⟨fun a U g mk q => by obtain ⟨q0, q1, qP, qK, qD⟩ := q; exact ⟨q0, q1, qP, va_K.moved (u := U) (U := U.calling g mk a) (Vm.Alike.refl U.vm) qK, qD⟩, va_recv hKc hPc (ci := 7) (q0 := 0) rfl rfl, fun U hU hW => ⟨rfl, by rw [hU], by rw [hU]; exact hPc, va_K.moved hW.alike hKc, hDc.weaken (fun _ _ _ _ => trivial)⟩⟩ rfl rfl hl.1 rfl (lv_room (Nat.le_of_ble_eq_true rfl)) dX8_delete_3 ⟨Nat.le_of_ble_eq_true rfl, Nat.le_of_ble_eq_true rfl⟩) hS (fun q _ h => hFc q h) hFc (fun r_3 u_2 t9 H1 locs ht hvm hw_1 hB hz1 hk1 hS => ?_)
  obtain ⟨th'_4, rfl⟩ : ∃ z, z = u_2 := ⟨_, rfl⟩
  obtain ⟨hP1, hK1, hD1⟩ := hB
  rw [ht] at hP1
  have hK1 := va_K.moved hvm.symm hK1
  try dsimp only at hw_1 hP1 hK1 hD1
  obtain ⟨hP, hD⟩ := va_join (wr := []) (w1 := [(q, .inr (7, [.ref mq, .ref zq, .ref sq, .ref bq, .ref cq, .long sm, .ref pq, .int ps, .int th'_4])), (mq, .inl (cZ, 12288, .inl fM)), (zq, .inl (cI, 3, .inl fS)), (sq, .inl (cI, 6156, .inl fP)), (bq, .inl (cI, 3, .inl fB)), (cq, .inl (cJ, 64, .inr (.inl fC))), (pq, .inl (cI, 8, .inl fT))]) hP hD [0, 1, 2, 3, 4, 5, 6] [] rfl rfl (by decide) (by decide) hk1 hFc hP1 hD1
  generalize H1 = H at hP hS ⊢
  have hP : va_P (dC, dI) vwCl [(q, .inr (7, [.ref mq, .ref zq, .ref sq, .ref bq, .ref cq, .long sm, .ref pq, .int ps, .int th'_4])), (mq, .inl (cZ, 12288, .inl fM)), (zq, .inl (cI, 3, .inl fS)), (sq, .inl (cI, 6156, .inl fP)), (bq, .inl (cI, 3, .inl fB)), (cq, .inl (cJ, 64, .inr (.inl fC))), (pq, .inl (cI, 8, .inl fT))] H := hP
  have hD : va_D A [(q, .inr (7, [.ref mq, .ref zq, .ref sq, .ref bq, .ref cq, .long sm, .ref pq, .int ps, .int th'_4])), (mq, .inl (cZ, 12288, .inl fM)), (zq, .inl (cI, 3, .inl fS)), (sq, .inl (cI, 6156, .inl fP)), (bq, .inl (cI, 3, .inl fB)), (cq, .inl (cJ, 64, .inr (.inl fC))), (pq, .inl (cI, 8, .inl fT))] := hD
  obtain ⟨he, hw_1⟩ := hw_1
  subst he
  have hth : th'_4 = nI 1 := by rw [hw_1, hSf]; rfl
  refine lv_cvi (congrArg b2i (by rw [hSf] <;> rfl)) ?_
  refine lv_if_eq (tgt := 22) hx hb dX8_delete_6 (by decide) (fun qc_5 => ?_) (fun qc_5 => ?_)
  · have c_5 : false = false := b2i_f qc_5
    refine lv_iconst (v := nI 0) hx hb dX8_delete_22 (by decide +kernel) ?_
    have hP9 := hP.sub (ws' := [(q, .inr (7, [.ref mq, .ref zq, .ref sq, .ref bq, .ref cq, .long sm, .ref pq, .int ps, .int th'_4])), (mq, .inl (cZ, 12288, .inl fM)), (zq, .inl (cI, 3, .inl fS)), (sq, .inl (cI, 6156, .inl fP)), (bq, .inl (cI, 3, .inl fB)), (cq, .inl (cJ, 64, .inr (.inl fC))), (pq, .inl (cI, 8, .inl fT))]) [0, 1, 2, 3, 4, 5, 6] rfl
    have hD9 := hD.sub (ws' := [(q, .inr (7, [.ref mq, .ref zq, .ref sq, .ref bq, .ref cq, .long sm, .ref pq, .int ps, .int th'_4])), (mq, .inl (cZ, 12288, .inl fM)), (zq, .inl (cI, 3, .inl fS)), (sq, .inl (cI, 6156, .inl fP)), (bq, .inl (cI, 3, .inl fB)), (cq, .inl (cJ, 64, .inr (.inl fC))), (pq, .inl (cI, 8, .inl fT))]) [0, 1, 2, 3, 4, 5, 6] (by decide) rfl
    have hK9 := hK.sub (tys' := [(cZ, .boolean), (cI, .int), (cJ, .long)]) [0, 1, 2] rfl
    exact W.zret (v := nI 0) hx hb hr (by first | exact narrow_b1 | exact narrow_b0) (fun t9 ht hW => ⟨⟨nI 0, th'_4, rfl, hth, by rw [ht]; exact hP9, va_K.moved hW.alike hK9, hD9⟩, hS.F ht⟩) hS.2.2 dX8_delete_23
  · have c_5 : false = true := b2i_t qc_5
    cases c_5
set_option maxHeartbeats 4000000 in
set_option maxRecDepth 100000 in
/-- reference: c_X8_delete_n -/
theorem c_X8_delete_n (l : Launch) (dC : Nat → ClassId) (dI : Nat → Nat → Nat) (q : Nat) (mq : Nat) (zq : Nat) (sq : Nat) (bq : Nat) (cq : Nat) (pq : Nat) (cZ : ClassId) (cI : ClassId) (cJ : ClassId) (fM : Nat → Int32) (fS : Nat → Int32) (fP : Nat → Int32) (fB : Nat → Int32) (fC : Nat → Int64) (sm : Int64) (fT : Nat → Int32) (ps : Int32) (th : Int32) (k : Nat) (w : Int32) (sz : Nat) (hk : k < 3) (hW : isN w = false) : Met l yX8_delete wsX8_delete ({ frames := 3, cells := 0, slots := 0, locals := 64 }) (va_Pc [.ref q, .int (nI k), .int w] (fun U => U.heap.size = sz ∧ va_P (dC, dI) vwCl [(q, .inr (7, [.ref mq, .ref zq, .ref sq, .ref bq, .ref cq, .long sm, .ref pq, .int ps, .int th])), (mq, .inl (cZ, 12288, .inl fM)), (zq, .inl (cI, 3, .inl fS)), (sq, .inl (cI, 6156, .inl fP)), (bq, .inl (cI, 3, .inl fB)), (cq, .inl (cJ, 64, .inr (.inl fC))), (pq, .inl (cI, 8, .inl fT))] U.heap ∧ va_K (dC, dI) vwCl [(cZ, .boolean), (cI, .int), (cJ, .long)] U ∧ va_D (fun _ => True) [(q, .inr (7, [.ref mq, .ref zq, .ref sq, .ref bq, .ref cq, .long sm, .ref pq, .int ps, .int th])), (mq, .inl (cZ, 12288, .inl fM)), (zq, .inl (cI, 3, .inl fS)), (sq, .inl (cI, 6156, .inl fP)), (bq, .inl (cI, 3, .inl fB)), (cq, .inl (cJ, 64, .inr (.inl fC))), (pq, .inl (cI, 8, .inl fT))])) (va_Qi (fun (r : Int32) (u : Int32) => u = nI 2) (fun (u : Int32) (t : State) => va_P (dC, dI) vwCl [(q, .inr (7, [.ref mq, .ref zq, .ref sq, .ref bq, .ref cq, .long sm, .ref pq, .int ps, .int u])), (mq, .inl (cZ, 12288, .inl fM)), (zq, .inl (cI, 3, .inl fS)), (sq, .inl (cI, 6156, .inl fP)), (bq, .inl (cI, 3, .inl fB)), (cq, .inl (cJ, 64, .inr (.inl fC))), (pq, .inl (cI, 8, .inl fT))] t.heap ∧ va_K (dC, dI) vwCl [(cZ, .boolean), (cI, .int), (cJ, .long)] t ∧ va_D (va_A [(q, .inr (7, [.ref mq, .ref zq, .ref sq, .ref bq, .ref cq, .long sm, .ref pq, .int ps, .int th])), (mq, .inl (cZ, 12288, .inl fM)), (zq, .inl (cI, 3, .inl fS)), (sq, .inl (cI, 6156, .inl fP)), (bq, .inl (cI, 3, .inl fB)), (cq, .inl (cJ, 64, .inr (.inl fC))), (pq, .inl (cI, 8, .inl fT))] sz) [(q, .inr (7, [.ref mq, .ref zq, .ref sq, .ref bq, .ref cq, .long sm, .ref pq, .int ps, .int u])), (mq, .inl (cZ, 12288, .inl fM)), (zq, .inl (cI, 3, .inl fS)), (sq, .inl (cI, 6156, .inl fP)), (bq, .inl (cI, 3, .inl fB)), (cq, .inl (cJ, 64, .inr (.inl fC))), (pq, .inl (cI, 8, .inl fT))]) (va_A [(q, .inr (7, [.ref mq, .ref zq, .ref sq, .ref bq, .ref cq, .long sm, .ref pq, .int ps, .int th])), (mq, .inl (cZ, 12288, .inl fM)), (zq, .inl (cI, 3, .inl fS)), (sq, .inl (cI, 6156, .inl fP)), (bq, .inl (cI, 3, .inl fB)), (cq, .inl (cJ, 64, .inr (.inl fC))), (pq, .inl (cI, 8, .inl fT))] sz)) 0 0 (va_A [(q, .inr (7, [.ref mq, .ref zq, .ref sq, .ref bq, .ref cq, .long sm, .ref pq, .int ps, .int th])), (mq, .inl (cZ, 12288, .inl fM)), (zq, .inl (cI, 3, .inl fS)), (sq, .inl (cI, 6156, .inl fP)), (bq, .inl (cI, 3, .inl fB)), (cq, .inl (cJ, 64, .inr (.inl fC))), (pq, .inl (cI, 8, .inl fT))] sz) := by
  refine Met.ofW (cc := cX8_delete) (maxL := 3) (ret := (some .boolean)) (by decide) rfl ?_
  intro p e s m args below meth c s₁ B hml hv
  obtain ⟨rfl, hsz, hP, hK, hD0⟩ := hv
  have hx := B.exec
  have hb := B.bytes
  have hr := B.returns
  have hts := atoms_spec (ws := wsX8_delete) B.pre
  have hown : s.vm.findClass RX8 = some m.cls := findClass_of_methodNamed B.named
  have hlocks := B.notSynchronized
  subst hsz
  have hD := hD0.self (sz := s.heap.size)
  generalize hAe : va_A [(q, .inr (7, [.ref mq, .ref zq, .ref sq, .ref bq, .ref cq, .long sm, .ref pq, .int ps, .int th])), (mq, .inl (cZ, 12288, .inl fM)), (zq, .inl (cI, 3, .inl fS)), (sq, .inl (cI, 6156, .inl fP)), (bq, .inl (cI, 3, .inl fB)), (cq, .inl (cJ, 64, .inr (.inl fC))), (pq, .inl (cI, 8, .inl fT))] s.heap.size = A at hD ⊢
  have hA : ∀ q : Nat, s.heap.size ≤ q → A q := fun q h => by rw [← hAe]; exact Or.inr h
  have hS : va_S A s.heap s.heap [] := va_S.rf
  have hP : va_P (dC, dI) vwCl [(q, .inr (7, [.ref mq, .ref zq, .ref sq, .ref bq, .ref cq, .long sm, .ref pq, .int ps, .int th])), (mq, .inl (cZ, 12288, .inl fM)), (zq, .inl (cI, 3, .inl fS)), (sq, .inl (cI, 6156, .inl fP)), (bq, .inl (cI, 3, .inl fB)), (cq, .inl (cJ, 64, .inr (.inl fC))), (pq, .inl (cI, 8, .inl fT))] s.heap := hP
  have hl := lv_entry ([.ref q, .int (nI k), .int w]) (n := 3) (Nat.le_of_ble_eq_true rfl)
  rw [lg_entry_eq]
  generalize (lg_sl ([.ref q, .int (nI k), .int w]) ++ List.replicate (3 - (lg_sl ([.ref q, .int (nI k), .int w])).length) Slot.unset).toArray = ls at hl ⊢
  have hl : lv_has ls 3 [(0, .ref q), (1, .int (nI k)), (2, .int w)] := hl
  refine lv_aload_n hx hb dX8_delete_0 rfl (lv_at hl 0 rfl) ?_
  refine lv_iload_n hx hb dX8_delete_1 rfl (lv_at hl 1 rfl) ?_
  refine lv_iload_n hx hb dX8_delete_2 rfl (lv_at hl 2 rfl) ?_
  have hPc := hP.sub (ws' := [(q, .inr (7, [.ref mq, .ref zq, .ref sq, .ref bq, .ref cq, .long sm, .ref pq, .int ps, .int th])), (mq, .inl (cZ, 12288, .inl fM)), (zq, .inl (cI, 3, .inl fS)), (sq, .inl (cI, 6156, .inl fP)), (bq, .inl (cI, 3, .inl fB)), (cq, .inl (cJ, 64, .inr (.inl fC))), (pq, .inl (cI, 8, .inl fT))]) [0, 1, 2, 3, 4, 5, 6] rfl
  have hKc := hK.sub (tys' := [(cZ, .boolean), (cI, .int), (cJ, .long)]) [0, 1, 2] rfl
  have hDc := hD.sub (ws' := [(q, .inr (7, [.ref mq, .ref zq, .ref sq, .ref bq, .ref cq, .long sm, .ref pq, .int ps, .int th])), (mq, .inl (cZ, 12288, .inl fM)), (zq, .inl (cI, 3, .inl fS)), (sq, .inl (cI, 6156, .inl fP)), (bq, .inl (cI, 3, .inl fB)), (cq, .inl (cJ, 64, .inr (.inl fC))), (pq, .inl (cI, 8, .inl fT))]) [0, 1, 2, 3, 4, 5, 6] (by decide) rfl
  have hFc := va_free (wc := [(q, .inr (7, [.ref mq, .ref zq, .ref sq, .ref bq, .ref cq, .long sm, .ref pq, .int ps, .int th])), (mq, .inl (cZ, 12288, .inl fM)), (zq, .inl (cI, 3, .inl fS)), (sq, .inl (cI, 6156, .inl fP)), (bq, .inl (cI, 3, .inl fB)), (cq, .inl (cJ, 64, .inr (.inl fC))), (pq, .inl (cI, 8, .inl fT))]) hD hS hA [0, 1, 2, 3, 4, 5, 6] rfl
  refine va_calli (va_runV (As := [.int (nI k), .int w]) (rest := []) ⟨hx, hb, hml, hown, hts⟩ (c_X8_isRight l dC dI q mq zq sq bq cq pq cZ cI cJ fM fS fP fB fC sm fT ps th (nI k) w s.heap.size ) (cwV 2 hts gX8_delete_X8_isRight rfl rfl rfl (by decide +kernel) ⟨Nat.le_of_ble_eq_true rfl, Nat.le_of_ble_eq_true rfl⟩) ⟨fun a U g mk q => by obtain ⟨q0, q1, qP, qK, qD⟩ := q; exact ⟨q0, q1, qP, va_K.moved (u := U) (U := U.calling g mk a) (Vm.Alike.refl U.vm) qK, qD⟩, va_recv hKc hPc (ci := 7) (q0 := 0) rfl rfl, fun U hU hW => ⟨rfl, by rw [hU], by rw [hU]; exact hPc, va_K.moved hW.alike hKc, hDc.weaken (fun _ _ _ _ => trivial)⟩⟩ rfl rfl hl.1 rfl (lv_room (Nat.le_of_ble_eq_true rfl)) dX8_delete_3 ⟨Nat.le_of_ble_eq_true rfl, Nat.le_of_ble_eq_true rfl⟩) hS (fun q _ h => hFc q h) hFc (fun r_3 u_2 t9 H1 locs ht hvm hw_1 hB hz1 hk1 hS => ?_)
  obtain ⟨th'_4, rfl⟩ : ∃ z, z = u_2 := ⟨_, rfl⟩
  obtain ⟨hP1, hK1, hD1⟩ := hB
  rw [ht] at hP1
  have hK1 := va_K.moved hvm.symm hK1
  try dsimp only at hw_1 hP1 hK1 hD1
  obtain ⟨hP, hD⟩ := va_join (wr := []) (w1 := [(q, .inr (7, [.ref mq, .ref zq, .ref sq, .ref bq, .ref cq, .long sm, .ref pq, .int ps, .int th'_4])), (mq, .inl (cZ, 12288, .inl fM)), (zq, .inl (cI, 3, .inl fS)), (sq, .inl (cI, 6156, .inl fP)), (bq, .inl (cI, 3, .inl fB)), (cq, .inl (cJ, 64, .inr (.inl fC))), (pq, .inl (cI, 8, .inl fT))]) hP hD [0, 1, 2, 3, 4, 5, 6] [] rfl rfl (by decide) (by decide) hk1 hFc hP1 hD1
  generalize H1 = H at hP hS ⊢
  have hP : va_P (dC, dI) vwCl [(q, .inr (7, [.ref mq, .ref zq, .ref sq, .ref bq, .ref cq, .long sm, .ref pq, .int ps, .int th'_4])), (mq, .inl (cZ, 12288, .inl fM)), (zq, .inl (cI, 3, .inl fS)), (sq, .inl (cI, 6156, .inl fP)), (bq, .inl (cI, 3, .inl fB)), (cq, .inl (cJ, 64, .inr (.inl fC))), (pq, .inl (cI, 8, .inl fT))] H := hP
  have hD : va_D A [(q, .inr (7, [.ref mq, .ref zq, .ref sq, .ref bq, .ref cq, .long sm, .ref pq, .int ps, .int th'_4])), (mq, .inl (cZ, 12288, .inl fM)), (zq, .inl (cI, 3, .inl fS)), (sq, .inl (cI, 6156, .inl fP)), (bq, .inl (cI, 3, .inl fB)), (cq, .inl (cJ, 64, .inr (.inl fC))), (pq, .inl (cI, 8, .inl fT))] := hD
  obtain ⟨he, hw_1⟩ := hw_1
  subst he
  have hth : th'_4 = nI 2 := by rw [hw_1, isS_t hk, hW]; rfl
  refine lv_cvi (congrArg b2i (by rw [isS_t hk, hW] <;> rfl)) ?_
  refine lv_if_eq (tgt := 22) hx hb dX8_delete_6 (by decide) (fun qc_5 => ?_) (fun qc_5 => ?_)
  · have c_5 : false = false := b2i_f qc_5
    refine lv_iconst (v := nI 0) hx hb dX8_delete_22 (by decide +kernel) ?_
    have hP9 := hP.sub (ws' := [(q, .inr (7, [.ref mq, .ref zq, .ref sq, .ref bq, .ref cq, .long sm, .ref pq, .int ps, .int th'_4])), (mq, .inl (cZ, 12288, .inl fM)), (zq, .inl (cI, 3, .inl fS)), (sq, .inl (cI, 6156, .inl fP)), (bq, .inl (cI, 3, .inl fB)), (cq, .inl (cJ, 64, .inr (.inl fC))), (pq, .inl (cI, 8, .inl fT))]) [0, 1, 2, 3, 4, 5, 6] rfl
    have hD9 := hD.sub (ws' := [(q, .inr (7, [.ref mq, .ref zq, .ref sq, .ref bq, .ref cq, .long sm, .ref pq, .int ps, .int th'_4])), (mq, .inl (cZ, 12288, .inl fM)), (zq, .inl (cI, 3, .inl fS)), (sq, .inl (cI, 6156, .inl fP)), (bq, .inl (cI, 3, .inl fB)), (cq, .inl (cJ, 64, .inr (.inl fC))), (pq, .inl (cI, 8, .inl fT))]) [0, 1, 2, 3, 4, 5, 6] (by decide) rfl
    have hK9 := hK.sub (tys' := [(cZ, .boolean), (cI, .int), (cJ, .long)]) [0, 1, 2] rfl
    exact W.zret (v := nI 0) hx hb hr (by first | exact narrow_b1 | exact narrow_b0) (fun t9 ht hW => ⟨⟨nI 0, th'_4, rfl, hth, by rw [ht]; exact hP9, va_K.moved hW.alike hK9, hD9⟩, hS.F ht⟩) hS.2.2 dX8_delete_23
  · have c_5 : false = true := b2i_t qc_5
    cases c_5
set_option maxHeartbeats 4000000 in
set_option maxRecDepth 100000 in
/-- reference: c_X8_contains_v -/
theorem c_X8_contains_v (l : Launch) (dC : Nat → ClassId) (dI : Nat → Nat → Nat) (q : Nat) (mq : Nat) (zq : Nat) (sq : Nat) (bq : Nat) (cq : Nat) (pq : Nat) (cZ : ClassId) (cI : ClassId) (cJ : ClassId) (fM : Nat → Int32) (fS : Nat → Int32) (fP : Nat → Int32) (fB : Nat → Int32) (fC : Nat → Int64) (sm : Int64) (fT : Nat → Int32) (ps : Int32) (th : Int32) (M : Nat → Nat → Bool) (k : Nat) (x : Nat) (sz : Nat) (hM : MM fM M) (hk : k < 3) (hxx : x < 4096) : Met l yX8_contains wsX8_contains ({ frames := 3, cells := 0, slots := 0, locals := 64 }) (va_Pc [.ref q, .int (nI k), .int (nI x)] (fun U => U.heap.size = sz ∧ va_P (dC, dI) vwCl [(q, .inr (7, [.ref mq, .ref zq, .ref sq, .ref bq, .ref cq, .long sm, .ref pq, .int ps, .int th])), (mq, .inl (cZ, 12288, .inl fM)), (zq, .inl (cI, 3, .inl fS)), (sq, .inl (cI, 6156, .inl fP)), (bq, .inl (cI, 3, .inl fB)), (cq, .inl (cJ, 64, .inr (.inl fC))), (pq, .inl (cI, 8, .inl fT))] U.heap ∧ va_K (dC, dI) vwCl [(cZ, .boolean), (cI, .int), (cJ, .long)] U ∧ va_D (fun _ => True) [(q, .inr (7, [.ref mq, .ref zq, .ref sq, .ref bq, .ref cq, .long sm, .ref pq, .int ps, .int th])), (mq, .inl (cZ, 12288, .inl fM)), (zq, .inl (cI, 3, .inl fS)), (sq, .inl (cI, 6156, .inl fP)), (bq, .inl (cI, 3, .inl fB)), (cq, .inl (cJ, 64, .inr (.inl fC))), (pq, .inl (cI, 8, .inl fT))])) (va_Qi (fun (r : Int32) (u : Int32) => r = b2i (M k x) ∧ u = nI 0) (fun (u : Int32) (t : State) => va_P (dC, dI) vwCl [(q, .inr (7, [.ref mq, .ref zq, .ref sq, .ref bq, .ref cq, .long sm, .ref pq, .int ps, .int u])), (mq, .inl (cZ, 12288, .inl fM)), (zq, .inl (cI, 3, .inl fS)), (sq, .inl (cI, 6156, .inl fP)), (bq, .inl (cI, 3, .inl fB)), (cq, .inl (cJ, 64, .inr (.inl fC))), (pq, .inl (cI, 8, .inl fT))] t.heap ∧ va_K (dC, dI) vwCl [(cZ, .boolean), (cI, .int), (cJ, .long)] t ∧ va_D (va_A [(q, .inr (7, [.ref mq, .ref zq, .ref sq, .ref bq, .ref cq, .long sm, .ref pq, .int ps, .int th])), (mq, .inl (cZ, 12288, .inl fM)), (zq, .inl (cI, 3, .inl fS)), (sq, .inl (cI, 6156, .inl fP)), (bq, .inl (cI, 3, .inl fB)), (cq, .inl (cJ, 64, .inr (.inl fC))), (pq, .inl (cI, 8, .inl fT))] sz) [(q, .inr (7, [.ref mq, .ref zq, .ref sq, .ref bq, .ref cq, .long sm, .ref pq, .int ps, .int u])), (mq, .inl (cZ, 12288, .inl fM)), (zq, .inl (cI, 3, .inl fS)), (sq, .inl (cI, 6156, .inl fP)), (bq, .inl (cI, 3, .inl fB)), (cq, .inl (cJ, 64, .inr (.inl fC))), (pq, .inl (cI, 8, .inl fT))]) (va_A [(q, .inr (7, [.ref mq, .ref zq, .ref sq, .ref bq, .ref cq, .long sm, .ref pq, .int ps, .int th])), (mq, .inl (cZ, 12288, .inl fM)), (zq, .inl (cI, 3, .inl fS)), (sq, .inl (cI, 6156, .inl fP)), (bq, .inl (cI, 3, .inl fB)), (cq, .inl (cJ, 64, .inr (.inl fC))), (pq, .inl (cI, 8, .inl fT))] sz)) 0 0 (va_A [(q, .inr (7, [.ref mq, .ref zq, .ref sq, .ref bq, .ref cq, .long sm, .ref pq, .int ps, .int th])), (mq, .inl (cZ, 12288, .inl fM)), (zq, .inl (cI, 3, .inl fS)), (sq, .inl (cI, 6156, .inl fP)), (bq, .inl (cI, 3, .inl fB)), (cq, .inl (cJ, 64, .inr (.inl fC))), (pq, .inl (cI, 8, .inl fT))] sz) := by
  refine Met.ofW (cc := cX8_contains) (maxL := 3) (ret := (some .boolean)) (by decide) rfl ?_
  intro p e s m args below meth c s₁ B hml hv
  obtain ⟨rfl, hsz, hP, hK, hD0⟩ := hv
  have hx := B.exec
  have hb := B.bytes
  have hr := B.returns
  have hts := atoms_spec (ws := wsX8_contains) B.pre
  have hown : s.vm.findClass RX8 = some m.cls := findClass_of_methodNamed B.named
  have hlocks := B.notSynchronized
  subst hsz
  have hD := hD0.self (sz := s.heap.size)
  generalize hAe : va_A [(q, .inr (7, [.ref mq, .ref zq, .ref sq, .ref bq, .ref cq, .long sm, .ref pq, .int ps, .int th])), (mq, .inl (cZ, 12288, .inl fM)), (zq, .inl (cI, 3, .inl fS)), (sq, .inl (cI, 6156, .inl fP)), (bq, .inl (cI, 3, .inl fB)), (cq, .inl (cJ, 64, .inr (.inl fC))), (pq, .inl (cI, 8, .inl fT))] s.heap.size = A at hD ⊢
  have hA : ∀ q : Nat, s.heap.size ≤ q → A q := fun q h => by rw [← hAe]; exact Or.inr h
  have hS : va_S A s.heap s.heap [] := va_S.rf
  have hP : va_P (dC, dI) vwCl [(q, .inr (7, [.ref mq, .ref zq, .ref sq, .ref bq, .ref cq, .long sm, .ref pq, .int ps, .int th])), (mq, .inl (cZ, 12288, .inl fM)), (zq, .inl (cI, 3, .inl fS)), (sq, .inl (cI, 6156, .inl fP)), (bq, .inl (cI, 3, .inl fB)), (cq, .inl (cJ, 64, .inr (.inl fC))), (pq, .inl (cI, 8, .inl fT))] s.heap := hP
  have hl := lv_entry ([.ref q, .int (nI k), .int (nI x)]) (n := 3) (Nat.le_of_ble_eq_true rfl)
  rw [lg_entry_eq]
  generalize (lg_sl ([.ref q, .int (nI k), .int (nI x)]) ++ List.replicate (3 - (lg_sl ([.ref q, .int (nI k), .int (nI x)])).length) Slot.unset).toArray = ls at hl ⊢
  have hl : lv_has ls 3 [(0, .ref q), (1, .int (nI k)), (2, .int (nI x))] := hl
  refine lv_aload_n hx hb dX8_contains_0 rfl (lv_at hl 0 rfl) ?_
  refine lv_iload_n hx hb dX8_contains_1 rfl (lv_at hl 1 rfl) ?_
  refine lv_iload_n hx hb dX8_contains_2 rfl (lv_at hl 2 rfl) ?_
  have hPc := hP.sub (ws' := [(q, .inr (7, [.ref mq, .ref zq, .ref sq, .ref bq, .ref cq, .long sm, .ref pq, .int ps, .int th])), (mq, .inl (cZ, 12288, .inl fM)), (zq, .inl (cI, 3, .inl fS)), (sq, .inl (cI, 6156, .inl fP)), (bq, .inl (cI, 3, .inl fB)), (cq, .inl (cJ, 64, .inr (.inl fC))), (pq, .inl (cI, 8, .inl fT))]) [0, 1, 2, 3, 4, 5, 6] rfl
  have hKc := hK.sub (tys' := [(cZ, .boolean), (cI, .int), (cJ, .long)]) [0, 1, 2] rfl
  have hDc := hD.sub (ws' := [(q, .inr (7, [.ref mq, .ref zq, .ref sq, .ref bq, .ref cq, .long sm, .ref pq, .int ps, .int th])), (mq, .inl (cZ, 12288, .inl fM)), (zq, .inl (cI, 3, .inl fS)), (sq, .inl (cI, 6156, .inl fP)), (bq, .inl (cI, 3, .inl fB)), (cq, .inl (cJ, 64, .inr (.inl fC))), (pq, .inl (cI, 8, .inl fT))]) [0, 1, 2, 3, 4, 5, 6] (by decide) rfl
  have hFc := va_free (wc := [(q, .inr (7, [.ref mq, .ref zq, .ref sq, .ref bq, .ref cq, .long sm, .ref pq, .int ps, .int th])), (mq, .inl (cZ, 12288, .inl fM)), (zq, .inl (cI, 3, .inl fS)), (sq, .inl (cI, 6156, .inl fP)), (bq, .inl (cI, 3, .inl fB)), (cq, .inl (cJ, 64, .inr (.inl fC))), (pq, .inl (cI, 8, .inl fT))]) hD hS hA [0, 1, 2, 3, 4, 5, 6] rfl
  refine va_calli (va_runV (As := [.int (nI k), .int (nI x)]) (rest := []) ⟨hx, hb, hml, hown, hts⟩ (c_X8_isRight l dC dI q mq zq sq bq cq pq cZ cI cJ fM fS fP fB fC sm fT ps th (nI k) (nI x) s.heap.size ) (cwV 2 hts gX8_contains_X8_isRight rfl rfl rfl (by decide +kernel) ⟨Nat.le_of_ble_eq_true rfl, Nat.le_of_ble_eq_true rfl⟩) ⟨fun a U g mk q => by obtain ⟨q0, q1, qP, qK, qD⟩ := q; exact ⟨q0, q1, qP, va_K.moved (u := U) (U := U.calling g mk a) (Vm.Alike.refl U.vm) qK, qD⟩, va_recv hKc hPc (ci := 7) (q0 := 0) rfl rfl, fun U hU hW => ⟨rfl, by rw [hU], by rw [hU]; exact hPc, va_K.moved hW.alike hKc, hDc.weaken (fun _ _ _ _ => trivial)⟩⟩ rfl rfl hl.1 rfl (lv_room (Nat.le_of_ble_eq_true rfl)) dX8_contains_3 ⟨Nat.le_of_ble_eq_true rfl, Nat.le_of_ble_eq_true rfl⟩) hS (fun q _ h => hFc q h) hFc (fun r_3 u_2 t9 H1 locs ht hvm hw_1 hB hz1 hk1 hS => ?_)
  obtain ⟨th'_4, rfl⟩ : ∃ z, z = u_2 := ⟨_, rfl⟩
  obtain ⟨hP1, hK1, hD1⟩ := hB
  rw [ht] at hP1
  have hK1 := va_K.moved hvm.symm hK1
  try dsimp only at hw_1 hP1 hK1 hD1
  obtain ⟨hP, hD⟩ := va_join (wr := []) (w1 := [(q, .inr (7, [.ref mq, .ref zq, .ref sq, .ref bq, .ref cq, .long sm, .ref pq, .int ps, .int th'_4])), (mq, .inl (cZ, 12288, .inl fM)), (zq, .inl (cI, 3, .inl fS)), (sq, .inl (cI, 6156, .inl fP)), (bq, .inl (cI, 3, .inl fB)), (cq, .inl (cJ, 64, .inr (.inl fC))), (pq, .inl (cI, 8, .inl fT))]) hP hD [0, 1, 2, 3, 4, 5, 6] [] rfl rfl (by decide) (by decide) hk1 hFc hP1 hD1
  generalize H1 = H at hP hS ⊢
  have hP : va_P (dC, dI) vwCl [(q, .inr (7, [.ref mq, .ref zq, .ref sq, .ref bq, .ref cq, .long sm, .ref pq, .int ps, .int th'_4])), (mq, .inl (cZ, 12288, .inl fM)), (zq, .inl (cI, 3, .inl fS)), (sq, .inl (cI, 6156, .inl fP)), (bq, .inl (cI, 3, .inl fB)), (cq, .inl (cJ, 64, .inr (.inl fC))), (pq, .inl (cI, 8, .inl fT))] H := hP
  have hD : va_D A [(q, .inr (7, [.ref mq, .ref zq, .ref sq, .ref bq, .ref cq, .long sm, .ref pq, .int ps, .int th'_4])), (mq, .inl (cZ, 12288, .inl fM)), (zq, .inl (cI, 3, .inl fS)), (sq, .inl (cI, 6156, .inl fP)), (bq, .inl (cI, 3, .inl fB)), (cq, .inl (cJ, 64, .inr (.inl fC))), (pq, .inl (cI, 8, .inl fT))] := hD
  obtain ⟨he, hw_1⟩ := hw_1
  subst he
  have hth : th'_4 = nI 0 := by rw [hw_1, isS_t hk, isN_t hxx]; rfl
  refine lv_cvi (congrArg b2i (by rw [isS_t hk, isN_t hxx] <;> rfl)) ?_
  refine lv_if_eq (tgt := 22) hx hb dX8_contains_6 (by decide) (fun qc_5 => ?_) (fun qc_5 => ?_)
  · have c_5 : true = false := b2i_f qc_5
    cases c_5
  · have c_5 : true = true := b2i_t qc_5
    refine lv_aload_n hx hb dX8_contains_9 rfl (lv_at hl 0 rfl) ?_
    refine lv_iload_n hx hb dX8_contains_10 rfl (lv_at hl 1 rfl) ?_
    refine lv_iload_n hx hb dX8_contains_11 rfl (lv_at hl 2 rfl) ?_
    have hPc := hP.sub (ws' := [(q, .inr (7, [.ref mq, .ref zq, .ref sq, .ref bq, .ref cq, .long sm, .ref pq, .int ps, .int th'_4])), (mq, .inl (cZ, 12288, .inl fM)), (zq, .inl (cI, 3, .inl fS)), (sq, .inl (cI, 6156, .inl fP)), (bq, .inl (cI, 3, .inl fB)), (cq, .inl (cJ, 64, .inr (.inl fC))), (pq, .inl (cI, 8, .inl fT))]) [0, 1, 2, 3, 4, 5, 6] rfl
    have hKc := hK.sub (tys' := [(cZ, .boolean), (cI, .int), (cJ, .long)]) [0, 1, 2] rfl
    refine vp_callSi (W.runV (As := [.int (nI k), .int (nI x)]) (rest := []) ⟨hx, hb, hml, hown, hts⟩ (c_X8_has l dC dI q mq zq sq bq cq pq cZ cI cJ fM fS fP fB fC sm fT ps th'_4 M k x (by first | assumption | omega) (by first | assumption | omega) (by first | assumption | omega)) (cwV 2 hts gX8_contains_X8_has rfl rfl rfl (by decide +kernel) ⟨Nat.le_of_ble_eq_true rfl, Nat.le_of_ble_eq_true rfl⟩) ⟨fun a U g mk q => by obtain ⟨q0, qP, qK⟩ := q; exact ⟨q0, qP, va_K.moved (u := U) (U := U.calling g mk a) (Vm.Alike.refl U.vm) qK⟩, va_recv hKc hPc (ci := 7) (q0 := 0) rfl rfl, fun U hU hW => ⟨rfl, by rw [hU]; exact hPc, va_K.moved hW.alike hKc⟩⟩ rfl rfl hl.1 rfl (lv_room (Nat.le_of_ble_eq_true rfl)) dX8_contains_12 ⟨Nat.le_of_ble_eq_true rfl, Nat.le_of_ble_eq_true rfl⟩) (fun r_7 hw_6 => ?_)
    subst hw_6
    refine lv_if_eq (tgt := 22) hx hb dX8_contains_15 (by decide) (fun qc_8 => ?_) (fun qc_8 => ?_)
    · have c_8 : (M k x) = false := b2i_f qc_8
      refine lv_iconst (v := nI 0) hx hb dX8_contains_22 (by decide +kernel) ?_
      have hP9 := hP.sub (ws' := [(q, .inr (7, [.ref mq, .ref zq, .ref sq, .ref bq, .ref cq, .long sm, .ref pq, .int ps, .int th'_4])), (mq, .inl (cZ, 12288, .inl fM)), (zq, .inl (cI, 3, .inl fS)), (sq, .inl (cI, 6156, .inl fP)), (bq, .inl (cI, 3, .inl fB)), (cq, .inl (cJ, 64, .inr (.inl fC))), (pq, .inl (cI, 8, .inl fT))]) [0, 1, 2, 3, 4, 5, 6] rfl
      have hD9 := hD.sub (ws' := [(q, .inr (7, [.ref mq, .ref zq, .ref sq, .ref bq, .ref cq, .long sm, .ref pq, .int ps, .int th'_4])), (mq, .inl (cZ, 12288, .inl fM)), (zq, .inl (cI, 3, .inl fS)), (sq, .inl (cI, 6156, .inl fP)), (bq, .inl (cI, 3, .inl fB)), (cq, .inl (cJ, 64, .inr (.inl fC))), (pq, .inl (cI, 8, .inl fT))]) [0, 1, 2, 3, 4, 5, 6] (by decide) rfl
      have hK9 := hK.sub (tys' := [(cZ, .boolean), (cI, .int), (cJ, .long)]) [0, 1, 2] rfl
      exact W.zret (v := nI 0) hx hb hr (by first | exact narrow_b1 | exact narrow_b0) (fun t9 ht hW => ⟨⟨nI 0, th'_4, rfl, ⟨by rw [c_8]; rfl, hth⟩, by rw [ht]; exact hP9, va_K.moved hW.alike hK9, hD9⟩, hS.F ht⟩) hS.2.2 dX8_contains_23
    · have c_8 : (M k x) = true := b2i_t qc_8
      refine lv_iconst (v := nI 1) hx hb dX8_contains_18 (by decide +kernel) ?_
      refine lv_goto (tgt := 23) hx hb dX8_contains_19 (by decide) ?_
      have hP9 := hP.sub (ws' := [(q, .inr (7, [.ref mq, .ref zq, .ref sq, .ref bq, .ref cq, .long sm, .ref pq, .int ps, .int th'_4])), (mq, .inl (cZ, 12288, .inl fM)), (zq, .inl (cI, 3, .inl fS)), (sq, .inl (cI, 6156, .inl fP)), (bq, .inl (cI, 3, .inl fB)), (cq, .inl (cJ, 64, .inr (.inl fC))), (pq, .inl (cI, 8, .inl fT))]) [0, 1, 2, 3, 4, 5, 6] rfl
      have hD9 := hD.sub (ws' := [(q, .inr (7, [.ref mq, .ref zq, .ref sq, .ref bq, .ref cq, .long sm, .ref pq, .int ps, .int th'_4])), (mq, .inl (cZ, 12288, .inl fM)), (zq, .inl (cI, 3, .inl fS)), (sq, .inl (cI, 6156, .inl fP)), (bq, .inl (cI, 3, .inl fB)), (cq, .inl (cJ, 64, .inr (.inl fC))), (pq, .inl (cI, 8, .inl fT))]) [0, 1, 2, 3, 4, 5, 6] (by decide) rfl
      have hK9 := hK.sub (tys' := [(cZ, .boolean), (cI, .int), (cJ, .long)]) [0, 1, 2] rfl
      exact W.zret (v := nI 1) hx hb hr (by first | exact narrow_b1 | exact narrow_b0) (fun t9 ht hW => ⟨⟨nI 1, th'_4, rfl, ⟨by rw [c_8]; rfl, hth⟩, by rw [ht]; exact hP9, va_K.moved hW.alike hK9, hD9⟩, hS.F ht⟩) hS.2.2 dX8_contains_23
set_option maxHeartbeats 4000000 in
set_option maxRecDepth 100000 in
/-- reference: c_X8_contains_s -/
theorem c_X8_contains_s (l : Launch) (dC : Nat → ClassId) (dI : Nat → Nat → Nat) (q : Nat) (mq : Nat) (zq : Nat) (sq : Nat) (bq : Nat) (cq : Nat) (pq : Nat) (cZ : ClassId) (cI : ClassId) (cJ : ClassId) (fM : Nat → Int32) (fS : Nat → Int32) (fP : Nat → Int32) (fB : Nat → Int32) (fC : Nat → Int64) (sm : Int64) (fT : Nat → Int32) (ps : Int32) (th : Int32) (v : Int32) (w0 : Int32) (sz : Nat) (hSf : isS v = false) : Met l yX8_contains wsX8_contains ({ frames := 3, cells := 0, slots := 0, locals := 64 }) (va_Pc [.ref q, .int v, .int w0] (fun U => U.heap.size = sz ∧ va_P (dC, dI) vwCl [(q, .inr (7, [.ref mq, .ref zq, .ref sq, .ref bq, .ref cq, .long sm, .ref pq, .int ps, .int th])), (mq, .inl (cZ, 12288, .inl fM)), (zq, .inl (cI, 3, .inl fS)), (sq, .inl (cI, 6156, .inl fP)), (bq, .inl (cI, 3, .inl fB)), (cq, .inl (cJ, 64, .inr (.inl fC))), (pq, .inl (cI, 8, .inl fT))] U.heap ∧ va_K (dC, dI) vwCl [(cZ, .boolean), (cI, .int), (cJ, .long)] U ∧ va_D (fun _ => True) [(q, .inr (7, [.ref mq, .ref zq, .ref sq, .ref bq, .ref cq, .long sm, .ref pq, .int ps, .int th])), (mq, .inl (cZ, 12288, .inl fM)), (zq, .inl (cI, 3, .inl fS)), (sq, .inl (cI, 6156, .inl fP)), (bq, .inl (cI, 3, .inl fB)), (cq, .inl (cJ, 64, .inr (.inl fC))), (pq, .inl (cI, 8, .inl fT))])) (va_Qi (fun (r : Int32) (u : Int32) => u = nI 1) (fun (u : Int32) (t : State) => va_P (dC, dI) vwCl [(q, .inr (7, [.ref mq, .ref zq, .ref sq, .ref bq, .ref cq, .long sm, .ref pq, .int ps, .int u])), (mq, .inl (cZ, 12288, .inl fM)), (zq, .inl (cI, 3, .inl fS)), (sq, .inl (cI, 6156, .inl fP)), (bq, .inl (cI, 3, .inl fB)), (cq, .inl (cJ, 64, .inr (.inl fC))), (pq, .inl (cI, 8, .inl fT))] t.heap ∧ va_K (dC, dI) vwCl [(cZ, .boolean), (cI, .int), (cJ, .long)] t ∧ va_D (va_A [(q, .inr (7, [.ref mq, .ref zq, .ref sq, .ref bq, .ref cq, .long sm, .ref pq, .int ps, .int th])), (mq, .inl (cZ, 12288, .inl fM)), (zq, .inl (cI, 3, .inl fS)), (sq, .inl (cI, 6156, .inl fP)), (bq, .inl (cI, 3, .inl fB)), (cq, .inl (cJ, 64, .inr (.inl fC))), (pq, .inl (cI, 8, .inl fT))] sz) [(q, .inr (7, [.ref mq, .ref zq, .ref sq, .ref bq, .ref cq, .long sm, .ref pq, .int ps, .int u])), (mq, .inl (cZ, 12288, .inl fM)), (zq, .inl (cI, 3, .inl fS)), (sq, .inl (cI, 6156, .inl fP)), (bq, .inl (cI, 3, .inl fB)), (cq, .inl (cJ, 64, .inr (.inl fC))), (pq, .inl (cI, 8, .inl fT))]) (va_A [(q, .inr (7, [.ref mq, .ref zq, .ref sq, .ref bq, .ref cq, .long sm, .ref pq, .int ps, .int th])), (mq, .inl (cZ, 12288, .inl fM)), (zq, .inl (cI, 3, .inl fS)), (sq, .inl (cI, 6156, .inl fP)), (bq, .inl (cI, 3, .inl fB)), (cq, .inl (cJ, 64, .inr (.inl fC))), (pq, .inl (cI, 8, .inl fT))] sz)) 0 0 (va_A [(q, .inr (7, [.ref mq, .ref zq, .ref sq, .ref bq, .ref cq, .long sm, .ref pq, .int ps, .int th])), (mq, .inl (cZ, 12288, .inl fM)), (zq, .inl (cI, 3, .inl fS)), (sq, .inl (cI, 6156, .inl fP)), (bq, .inl (cI, 3, .inl fB)), (cq, .inl (cJ, 64, .inr (.inl fC))), (pq, .inl (cI, 8, .inl fT))] sz) := by
  refine Met.ofW (cc := cX8_contains) (maxL := 3) (ret := (some .boolean)) (by decide) rfl ?_
  intro p e s m args below meth c s₁ B hml hv
  obtain ⟨rfl, hsz, hP, hK, hD0⟩ := hv
  have hx := B.exec
  have hb := B.bytes
  have hr := B.returns
  have hts := atoms_spec (ws := wsX8_contains) B.pre
  have hown : s.vm.findClass RX8 = some m.cls := findClass_of_methodNamed B.named
  have hlocks := B.notSynchronized
  subst hsz
  have hD := hD0.self (sz := s.heap.size)
  generalize hAe : va_A [(q, .inr (7, [.ref mq, .ref zq, .ref sq, .ref bq, .ref cq, .long sm, .ref pq, .int ps, .int th])), (mq, .inl (cZ, 12288, .inl fM)), (zq, .inl (cI, 3, .inl fS)), (sq, .inl (cI, 6156, .inl fP)), (bq, .inl (cI, 3, .inl fB)), (cq, .inl (cJ, 64, .inr (.inl fC))), (pq, .inl (cI, 8, .inl fT))] s.heap.size = A at hD ⊢
  have hA : ∀ q : Nat, s.heap.size ≤ q → A q := fun q h => by rw [← hAe]; exact Or.inr h
  have hS : va_S A s.heap s.heap [] := va_S.rf
  have hP : va_P (dC, dI) vwCl [(q, .inr (7, [.ref mq, .ref zq, .ref sq, .ref bq, .ref cq, .long sm, .ref pq, .int ps, .int th])), (mq, .inl (cZ, 12288, .inl fM)), (zq, .inl (cI, 3, .inl fS)), (sq, .inl (cI, 6156, .inl fP)), (bq, .inl (cI, 3, .inl fB)), (cq, .inl (cJ, 64, .inr (.inl fC))), (pq, .inl (cI, 8, .inl fT))] s.heap := hP
  have hl := lv_entry ([.ref q, .int v, .int w0]) (n := 3) (Nat.le_of_ble_eq_true rfl)
  rw [lg_entry_eq]
  generalize (lg_sl ([.ref q, .int v, .int w0]) ++ List.replicate (3 - (lg_sl ([.ref q, .int v, .int w0])).length) Slot.unset).toArray = ls at hl ⊢
  have hl : lv_has ls 3 [(0, .ref q), (1, .int v), (2, .int w0)] := hl
  refine lv_aload_n hx hb dX8_contains_0 rfl (lv_at hl 0 rfl) ?_
  refine lv_iload_n hx hb dX8_contains_1 rfl (lv_at hl 1 rfl) ?_
  refine lv_iload_n hx hb dX8_contains_2 rfl (lv_at hl 2 rfl) ?_
  have hPc := hP.sub (ws' := [(q, .inr (7, [.ref mq, .ref zq, .ref sq, .ref bq, .ref cq, .long sm, .ref pq, .int ps, .int th])), (mq, .inl (cZ, 12288, .inl fM)), (zq, .inl (cI, 3, .inl fS)), (sq, .inl (cI, 6156, .inl fP)), (bq, .inl (cI, 3, .inl fB)), (cq, .inl (cJ, 64, .inr (.inl fC))), (pq, .inl (cI, 8, .inl fT))]) [0, 1, 2, 3, 4, 5, 6] rfl
  have hKc := hK.sub (tys' := [(cZ, .boolean), (cI, .int), (cJ, .long)]) [0, 1, 2] rfl
  have hDc := hD.sub (ws' := [(q, .inr (7, [.ref mq, .ref zq, .ref sq, .ref bq, .ref cq, .long sm, .ref pq, .int ps, .int th])), (mq, .inl (cZ, 12288, .inl fM)), (zq, .inl (cI, 3, .inl fS)), (sq, .inl (cI, 6156, .inl fP)), (bq, .inl (cI, 3, .inl fB)), (cq, .inl (cJ, 64, .inr (.inl fC))), (pq, .inl (cI, 8, .inl fT))]) [0, 1, 2, 3, 4, 5, 6] (by decide) rfl
  have hFc := va_free (wc := [(q, .inr (7, [.ref mq, .ref zq, .ref sq, .ref bq, .ref cq, .long sm, .ref pq, .int ps, .int th])), (mq, .inl (cZ, 12288, .inl fM)), (zq, .inl (cI, 3, .inl fS)), (sq, .inl (cI, 6156, .inl fP)), (bq, .inl (cI, 3, .inl fB)), (cq, .inl (cJ, 64, .inr (.inl fC))), (pq, .inl (cI, 8, .inl fT))]) hD hS hA [0, 1, 2, 3, 4, 5, 6] rfl
  refine va_calli (va_runV (As := [.int v, .int w0]) (rest := []) ⟨hx, hb, hml, hown, hts⟩ (c_X8_isRight l dC dI q mq zq sq bq cq pq cZ cI cJ fM fS fP fB fC sm fT ps th v w0 s.heap.size ) (cwV 2 hts gX8_contains_X8_isRight rfl rfl rfl (by decide +kernel) ⟨Nat.le_of_ble_eq_true rfl, Nat.le_of_ble_eq_true rfl⟩) ⟨fun a U g mk q => by obtain ⟨q0, q1, qP, qK, qD⟩ := q; exact ⟨q0, q1, qP, va_K.moved (u := U) (U := U.calling g mk a) (Vm.Alike.refl U.vm) qK, qD⟩, va_recv hKc hPc (ci := 7) (q0 := 0) rfl rfl, fun U hU hW => ⟨rfl, by rw [hU], by rw [hU]; exact hPc, va_K.moved hW.alike hKc, hDc.weaken (fun _ _ _ _ => trivial)⟩⟩ rfl rfl hl.1 rfl (lv_room (Nat.le_of_ble_eq_true rfl)) dX8_contains_3 ⟨Nat.le_of_ble_eq_true rfl, Nat.le_of_ble_eq_true rfl⟩) hS (fun q _ h => hFc q h) hFc (fun r_3 u_2 t9 H1 locs ht hvm hw_1 hB hz1 hk1 hS => ?_)
  obtain ⟨th'_4, rfl⟩ : ∃ z, z = u_2 := ⟨_, rfl⟩
  obtain ⟨hP1, hK1, hD1⟩ := hB
  rw [ht] at hP1
  have hK1 := va_K.moved hvm.symm hK1
  try dsimp only at hw_1 hP1 hK1 hD1
  obtain ⟨hP, hD⟩ := va_join (wr := []) (w1 := [(q, .inr (7, [.ref mq, .ref zq, .ref sq, .ref bq, .ref cq, .long sm, .ref pq, .int ps, .int th'_4])), (mq, .inl (cZ, 12288, .inl fM)), (zq, .inl (cI, 3, .inl fS)), (sq, .inl (cI, 6156, .inl fP)), (bq, .inl (cI, 3, .inl fB)), (cq, .inl (cJ, 64, .inr (.inl fC))), (pq, .inl (cI, 8, .inl fT))]) hP hD [0, 1, 2, 3, 4, 5, 6] [] rfl rfl (by decide) (by decide) hk1 hFc hP1 hD1
  generalize H1 = H at hP hS ⊢
  have hP : va_P (dC, dI) vwCl [(q, .inr (7, [.ref mq, .ref zq, .ref sq, .ref bq, .ref cq, .long sm, .ref pq, .int ps, .int th'_4])), (mq, .inl (cZ, 12288, .inl fM)), (zq, .inl (cI, 3, .inl fS)), (sq, .inl (cI, 6156, .inl fP)), (bq, .inl (cI, 3, .inl fB)), (cq, .inl (cJ, 64, .inr (.inl fC))), (pq, .inl (cI, 8, .inl fT))] H := hP
  have hD : va_D A [(q, .inr (7, [.ref mq, .ref zq, .ref sq, .ref bq, .ref cq, .long sm, .ref pq, .int ps, .int th'_4])), (mq, .inl (cZ, 12288, .inl fM)), (zq, .inl (cI, 3, .inl fS)), (sq, .inl (cI, 6156, .inl fP)), (bq, .inl (cI, 3, .inl fB)), (cq, .inl (cJ, 64, .inr (.inl fC))), (pq, .inl (cI, 8, .inl fT))] := hD
  obtain ⟨he, hw_1⟩ := hw_1
  subst he
  have hth : th'_4 = nI 1 := by rw [hw_1, hSf]; rfl
  refine lv_cvi (congrArg b2i (by rw [hSf] <;> rfl)) ?_
  refine lv_if_eq (tgt := 22) hx hb dX8_contains_6 (by decide) (fun qc_5 => ?_) (fun qc_5 => ?_)
  · have c_5 : false = false := b2i_f qc_5
    refine lv_iconst (v := nI 0) hx hb dX8_contains_22 (by decide +kernel) ?_
    have hP9 := hP.sub (ws' := [(q, .inr (7, [.ref mq, .ref zq, .ref sq, .ref bq, .ref cq, .long sm, .ref pq, .int ps, .int th'_4])), (mq, .inl (cZ, 12288, .inl fM)), (zq, .inl (cI, 3, .inl fS)), (sq, .inl (cI, 6156, .inl fP)), (bq, .inl (cI, 3, .inl fB)), (cq, .inl (cJ, 64, .inr (.inl fC))), (pq, .inl (cI, 8, .inl fT))]) [0, 1, 2, 3, 4, 5, 6] rfl
    have hD9 := hD.sub (ws' := [(q, .inr (7, [.ref mq, .ref zq, .ref sq, .ref bq, .ref cq, .long sm, .ref pq, .int ps, .int th'_4])), (mq, .inl (cZ, 12288, .inl fM)), (zq, .inl (cI, 3, .inl fS)), (sq, .inl (cI, 6156, .inl fP)), (bq, .inl (cI, 3, .inl fB)), (cq, .inl (cJ, 64, .inr (.inl fC))), (pq, .inl (cI, 8, .inl fT))]) [0, 1, 2, 3, 4, 5, 6] (by decide) rfl
    have hK9 := hK.sub (tys' := [(cZ, .boolean), (cI, .int), (cJ, .long)]) [0, 1, 2] rfl
    exact W.zret (v := nI 0) hx hb hr (by first | exact narrow_b1 | exact narrow_b0) (fun t9 ht hW => ⟨⟨nI 0, th'_4, rfl, hth, by rw [ht]; exact hP9, va_K.moved hW.alike hK9, hD9⟩, hS.F ht⟩) hS.2.2 dX8_contains_23
  · have c_5 : false = true := b2i_t qc_5
    cases c_5
set_option maxHeartbeats 4000000 in
set_option maxRecDepth 100000 in
/-- reference: c_X8_contains_n -/
theorem c_X8_contains_n (l : Launch) (dC : Nat → ClassId) (dI : Nat → Nat → Nat) (q : Nat) (mq : Nat) (zq : Nat) (sq : Nat) (bq : Nat) (cq : Nat) (pq : Nat) (cZ : ClassId) (cI : ClassId) (cJ : ClassId) (fM : Nat → Int32) (fS : Nat → Int32) (fP : Nat → Int32) (fB : Nat → Int32) (fC : Nat → Int64) (sm : Int64) (fT : Nat → Int32) (ps : Int32) (th : Int32) (k : Nat) (w : Int32) (sz : Nat) (hk : k < 3) (hW : isN w = false) : Met l yX8_contains wsX8_contains ({ frames := 3, cells := 0, slots := 0, locals := 64 }) (va_Pc [.ref q, .int (nI k), .int w] (fun U => U.heap.size = sz ∧ va_P (dC, dI) vwCl [(q, .inr (7, [.ref mq, .ref zq, .ref sq, .ref bq, .ref cq, .long sm, .ref pq, .int ps, .int th])), (mq, .inl (cZ, 12288, .inl fM)), (zq, .inl (cI, 3, .inl fS)), (sq, .inl (cI, 6156, .inl fP)), (bq, .inl (cI, 3, .inl fB)), (cq, .inl (cJ, 64, .inr (.inl fC))), (pq, .inl (cI, 8, .inl fT))] U.heap ∧ va_K (dC, dI) vwCl [(cZ, .boolean), (cI, .int), (cJ, .long)] U ∧ va_D (fun _ => True) [(q, .inr (7, [.ref mq, .ref zq, .ref sq, .ref bq, .ref cq, .long sm, .ref pq, .int ps, .int th])), (mq, .inl (cZ, 12288, .inl fM)), (zq, .inl (cI, 3, .inl fS)), (sq, .inl (cI, 6156, .inl fP)), (bq, .inl (cI, 3, .inl fB)), (cq, .inl (cJ, 64, .inr (.inl fC))), (pq, .inl (cI, 8, .inl fT))])) (va_Qi (fun (r : Int32) (u : Int32) => u = nI 2) (fun (u : Int32) (t : State) => va_P (dC, dI) vwCl [(q, .inr (7, [.ref mq, .ref zq, .ref sq, .ref bq, .ref cq, .long sm, .ref pq, .int ps, .int u])), (mq, .inl (cZ, 12288, .inl fM)), (zq, .inl (cI, 3, .inl fS)), (sq, .inl (cI, 6156, .inl fP)), (bq, .inl (cI, 3, .inl fB)), (cq, .inl (cJ, 64, .inr (.inl fC))), (pq, .inl (cI, 8, .inl fT))] t.heap ∧ va_K (dC, dI) vwCl [(cZ, .boolean), (cI, .int), (cJ, .long)] t ∧ va_D (va_A [(q, .inr (7, [.ref mq, .ref zq, .ref sq, .ref bq, .ref cq, .long sm, .ref pq, .int ps, .int th])), (mq, .inl (cZ, 12288, .inl fM)), (zq, .inl (cI, 3, .inl fS)), (sq, .inl (cI, 6156, .inl fP)), (bq, .inl (cI, 3, .inl fB)), (cq, .inl (cJ, 64, .inr (.inl fC))), (pq, .inl (cI, 8, .inl fT))] sz) [(q, .inr (7, [.ref mq, .ref zq, .ref sq, .ref bq, .ref cq, .long sm, .ref pq, .int ps, .int u])), (mq, .inl (cZ, 12288, .inl fM)), (zq, .inl (cI, 3, .inl fS)), (sq, .inl (cI, 6156, .inl fP)), (bq, .inl (cI, 3, .inl fB)), (cq, .inl (cJ, 64, .inr (.inl fC))), (pq, .inl (cI, 8, .inl fT))]) (va_A [(q, .inr (7, [.ref mq, .ref zq, .ref sq, .ref bq, .ref cq, .long sm, .ref pq, .int ps, .int th])), (mq, .inl (cZ, 12288, .inl fM)), (zq, .inl (cI, 3, .inl fS)), (sq, .inl (cI, 6156, .inl fP)), (bq, .inl (cI, 3, .inl fB)), (cq, .inl (cJ, 64, .inr (.inl fC))), (pq, .inl (cI, 8, .inl fT))] sz)) 0 0 (va_A [(q, .inr (7, [.ref mq, .ref zq, .ref sq, .ref bq, .ref cq, .long sm, .ref pq, .int ps, .int th])), (mq, .inl (cZ, 12288, .inl fM)), (zq, .inl (cI, 3, .inl fS)), (sq, .inl (cI, 6156, .inl fP)), (bq, .inl (cI, 3, .inl fB)), (cq, .inl (cJ, 64, .inr (.inl fC))), (pq, .inl (cI, 8, .inl fT))] sz) := by
  refine Met.ofW (cc := cX8_contains) (maxL := 3) (ret := (some .boolean)) (by decide) rfl ?_
  intro p e s m args below meth c s₁ B hml hv
  obtain ⟨rfl, hsz, hP, hK, hD0⟩ := hv
  have hx := B.exec
  have hb := B.bytes
  have hr := B.returns
  have hts := atoms_spec (ws := wsX8_contains) B.pre
  have hown : s.vm.findClass RX8 = some m.cls := findClass_of_methodNamed B.named
  have hlocks := B.notSynchronized
  subst hsz
  have hD := hD0.self (sz := s.heap.size)
  generalize hAe : va_A [(q, .inr (7, [.ref mq, .ref zq, .ref sq, .ref bq, .ref cq, .long sm, .ref pq, .int ps, .int th])), (mq, .inl (cZ, 12288, .inl fM)), (zq, .inl (cI, 3, .inl fS)), (sq, .inl (cI, 6156, .inl fP)), (bq, .inl (cI, 3, .inl fB)), (cq, .inl (cJ, 64, .inr (.inl fC))), (pq, .inl (cI, 8, .inl fT))] s.heap.size = A at hD ⊢
  have hA : ∀ q : Nat, s.heap.size ≤ q → A q := fun q h => by rw [← hAe]; exact Or.inr h
  have hS : va_S A s.heap s.heap [] := va_S.rf
  have hP : va_P (dC, dI) vwCl [(q, .inr (7, [.ref mq, .ref zq, .ref sq, .ref bq, .ref cq, .long sm, .ref pq, .int ps, .int th])), (mq, .inl (cZ, 12288, .inl fM)), (zq, .inl (cI, 3, .inl fS)), (sq, .inl (cI, 6156, .inl fP)), (bq, .inl (cI, 3, .inl fB)), (cq, .inl (cJ, 64, .inr (.inl fC))), (pq, .inl (cI, 8, .inl fT))] s.heap := hP
  have hl := lv_entry ([.ref q, .int (nI k), .int w]) (n := 3) (Nat.le_of_ble_eq_true rfl)
  rw [lg_entry_eq]
  generalize (lg_sl ([.ref q, .int (nI k), .int w]) ++ List.replicate (3 - (lg_sl ([.ref q, .int (nI k), .int w])).length) Slot.unset).toArray = ls at hl ⊢
  have hl : lv_has ls 3 [(0, .ref q), (1, .int (nI k)), (2, .int w)] := hl
  refine lv_aload_n hx hb dX8_contains_0 rfl (lv_at hl 0 rfl) ?_
  refine lv_iload_n hx hb dX8_contains_1 rfl (lv_at hl 1 rfl) ?_
  refine lv_iload_n hx hb dX8_contains_2 rfl (lv_at hl 2 rfl) ?_
  have hPc := hP.sub (ws' := [(q, .inr (7, [.ref mq, .ref zq, .ref sq, .ref bq, .ref cq, .long sm, .ref pq, .int ps, .int th])), (mq, .inl (cZ, 12288, .inl fM)), (zq, .inl (cI, 3, .inl fS)), (sq, .inl (cI, 6156, .inl fP)), (bq, .inl (cI, 3, .inl fB)), (cq, .inl (cJ, 64, .inr (.inl fC))), (pq, .inl (cI, 8, .inl fT))]) [0, 1, 2, 3, 4, 5, 6] rfl
  have hKc := hK.sub (tys' := [(cZ, .boolean), (cI, .int), (cJ, .long)]) [0, 1, 2] rfl
  have hDc := hD.sub (ws' := [(q, .inr (7, [.ref mq, .ref zq, .ref sq, .ref bq, .ref cq, .long sm, .ref pq, .int ps, .int th])), (mq, .inl (cZ, 12288, .inl fM)), (zq, .inl (cI, 3, .inl fS)), (sq, .inl (cI, 6156, .inl fP)), (bq, .inl (cI, 3, .inl fB)), (cq, .inl (cJ, 64, .inr (.inl fC))), (pq, .inl (cI, 8, .inl fT))]) [0, 1, 2, 3, 4, 5, 6] (by decide) rfl
  have hFc := va_free (wc := [(q, .inr (7, [.ref mq, .ref zq, .ref sq, .ref bq, .ref cq, .long sm, .ref pq, .int ps, .int th])), (mq, .inl (cZ, 12288, .inl fM)), (zq, .inl (cI, 3, .inl fS)), (sq, .inl (cI, 6156, .inl fP)), (bq, .inl (cI, 3, .inl fB)), (cq, .inl (cJ, 64, .inr (.inl fC))), (pq, .inl (cI, 8, .inl fT))]) hD hS hA [0, 1, 2, 3, 4, 5, 6] rfl
  refine va_calli (va_runV (As := [.int (nI k), .int w]) (rest := []) ⟨hx, hb, hml, hown, hts⟩ (c_X8_isRight l dC dI q mq zq sq bq cq pq cZ cI cJ fM fS fP fB fC sm fT ps th (nI k) w s.heap.size ) (cwV 2 hts gX8_contains_X8_isRight rfl rfl rfl (by decide +kernel) ⟨Nat.le_of_ble_eq_true rfl, Nat.le_of_ble_eq_true rfl⟩) ⟨fun a U g mk q => by obtain ⟨q0, q1, qP, qK, qD⟩ := q; exact ⟨q0, q1, qP, va_K.moved (u := U) (U := U.calling g mk a) (Vm.Alike.refl U.vm) qK, qD⟩, va_recv hKc hPc (ci := 7) (q0 := 0) rfl rfl, fun U hU hW => ⟨rfl, by rw [hU], by rw [hU]; exact hPc, va_K.moved hW.alike hKc, hDc.weaken (fun _ _ _ _ => trivial)⟩⟩ rfl rfl hl.1 rfl (lv_room (Nat.le_of_ble_eq_true rfl)) dX8_contains_3 ⟨Nat.le_of_ble_eq_true rfl, Nat.le_of_ble_eq_true rfl⟩) hS (fun q _ h => hFc q h) hFc (fun r_3 u_2 t9 H1 locs ht hvm hw_1 hB hz1 hk1 hS => ?_)
  obtain ⟨th'_4, rfl⟩ : ∃ z, z = u_2 := ⟨_, rfl⟩
  obtain ⟨hP1, hK1, hD1⟩ := hB
  rw [ht] at hP1
  have hK1 := va_K.moved hvm.symm hK1
  try dsimp only at hw_1 hP1 hK1 hD1
  obtain ⟨hP, hD⟩ := va_join (wr := []) (w1 := [(q, .inr (7, [.ref mq, .ref zq, .ref sq, .ref bq, .ref cq, .long sm, .ref pq, .int ps, .int th'_4])), (mq, .inl (cZ, 12288, .inl fM)), (zq, .inl (cI, 3, .inl fS)), (sq, .inl (cI, 6156, .inl fP)), (bq, .inl (cI, 3, .inl fB)), (cq, .inl (cJ, 64, .inr (.inl fC))), (pq, .inl (cI, 8, .inl fT))]) hP hD [0, 1, 2, 3, 4, 5, 6] [] rfl rfl (by decide) (by decide) hk1 hFc hP1 hD1
  generalize H1 = H at hP hS ⊢
  have hP : va_P (dC, dI) vwCl [(q, .inr (7, [.ref mq, .ref zq, .ref sq, .ref bq, .ref cq, .long sm, .ref pq, .int ps, .int th'_4])), (mq, .inl (cZ, 12288, .inl fM)), (zq, .inl (cI, 3, .inl fS)), (sq, .inl (cI, 6156, .inl fP)), (bq, .inl (cI, 3, .inl fB)), (cq, .inl (cJ, 64, .inr (.inl fC))), (pq, .inl (cI, 8, .inl fT))] H := hP
  have hD : va_D A [(q, .inr (7, [.ref mq, .ref zq, .ref sq, .ref bq, .ref cq, .long sm, .ref pq, .int ps, .int th'_4])), (mq, .inl (cZ, 12288, .inl fM)), (zq, .inl (cI, 3, .inl fS)), (sq, .inl (cI, 6156, .inl fP)), (bq, .inl (cI, 3, .inl fB)), (cq, .inl (cJ, 64, .inr (.inl fC))), (pq, .inl (cI, 8, .inl fT))] := hD
  obtain ⟨he, hw_1⟩ := hw_1
  subst he
  have hth : th'_4 = nI 2 := by rw [hw_1, isS_t hk, hW]; rfl
  refine lv_cvi (congrArg b2i (by rw [isS_t hk, hW] <;> rfl)) ?_
  refine lv_if_eq (tgt := 22) hx hb dX8_contains_6 (by decide) (fun qc_5 => ?_) (fun qc_5 => ?_)
  · have c_5 : false = false := b2i_f qc_5
    refine lv_iconst (v := nI 0) hx hb dX8_contains_22 (by decide +kernel) ?_
    have hP9 := hP.sub (ws' := [(q, .inr (7, [.ref mq, .ref zq, .ref sq, .ref bq, .ref cq, .long sm, .ref pq, .int ps, .int th'_4])), (mq, .inl (cZ, 12288, .inl fM)), (zq, .inl (cI, 3, .inl fS)), (sq, .inl (cI, 6156, .inl fP)), (bq, .inl (cI, 3, .inl fB)), (cq, .inl (cJ, 64, .inr (.inl fC))), (pq, .inl (cI, 8, .inl fT))]) [0, 1, 2, 3, 4, 5, 6] rfl
    have hD9 := hD.sub (ws' := [(q, .inr (7, [.ref mq, .ref zq, .ref sq, .ref bq, .ref cq, .long sm, .ref pq, .int ps, .int th'_4])), (mq, .inl (cZ, 12288, .inl fM)), (zq, .inl (cI, 3, .inl fS)), (sq, .inl (cI, 6156, .inl fP)), (bq, .inl (cI, 3, .inl fB)), (cq, .inl (cJ, 64, .inr (.inl fC))), (pq, .inl (cI, 8, .inl fT))]) [0, 1, 2, 3, 4, 5, 6] (by decide) rfl
    have hK9 := hK.sub (tys' := [(cZ, .boolean), (cI, .int), (cJ, .long)]) [0, 1, 2] rfl
    exact W.zret (v := nI 0) hx hb hr (by first | exact narrow_b1 | exact narrow_b0) (fun t9 ht hW => ⟨⟨nI 0, th'_4, rfl, hth, by rw [ht]; exact hP9, va_K.moved hW.alike hK9, hD9⟩, hS.F ht⟩) hS.2.2 dX8_contains_23
  · have c_5 : false = true := b2i_t qc_5
    cases c_5
set_option maxHeartbeats 4000000 in
set_option maxRecDepth 100000 in
/-- reference: c_X8_successor_v -/
theorem c_X8_successor_v (l : Launch) (dC : Nat → ClassId) (dI : Nat → Nat → Nat) (q : Nat) (mq : Nat) (zq : Nat) (sq : Nat) (bq : Nat) (cq : Nat) (pq : Nat) (cZ : ClassId) (cI : ClassId) (cJ : ClassId) (fM : Nat → Int32) (fS : Nat → Int32) (fP : Nat → Int32) (fB : Nat → Int32) (fC : Nat → Int64) (sm : Int64) (fT : Nat → Int32) (ps : Int32) (th : Int32) (M : Nat → Nat → Bool) (k : Nat) (x : Nat) (sz : Nat) (hM : MM fM M) (hk : k < 3) (hxx : x < 4096) : Met l yX8_successor wsX8_successor ({ frames := 3, cells := 0, slots := 0, locals := 64 }) (va_Pc [.ref q, .int (nI k), .int (nI x)] (fun U => U.heap.size = sz ∧ va_P (dC, dI) vwCl [(q, .inr (7, [.ref mq, .ref zq, .ref sq, .ref bq, .ref cq, .long sm, .ref pq, .int ps, .int th])), (mq, .inl (cZ, 12288, .inl fM)), (zq, .inl (cI, 3, .inl fS)), (sq, .inl (cI, 6156, .inl fP)), (bq, .inl (cI, 3, .inl fB)), (cq, .inl (cJ, 64, .inr (.inl fC))), (pq, .inl (cI, 8, .inl fT))] U.heap ∧ va_K (dC, dI) vwCl [(cZ, .boolean), (cI, .int), (cJ, .long)] U ∧ va_D (fun _ => True) [(q, .inr (7, [.ref mq, .ref zq, .ref sq, .ref bq, .ref cq, .long sm, .ref pq, .int ps, .int th])), (mq, .inl (cZ, 12288, .inl fM)), (zq, .inl (cI, 3, .inl fS)), (sq, .inl (cI, 6156, .inl fP)), (bq, .inl (cI, 3, .inl fB)), (cq, .inl (cJ, 64, .inr (.inl fC))), (pq, .inl (cI, 8, .inl fT))])) (va_Qi (fun (r : Int32) (u : Int32) => r = oI (nxt1 (M k) x 4096) ∧ u = nI 0) (fun (u : Int32) (t : State) => va_P (dC, dI) vwCl [(q, .inr (7, [.ref mq, .ref zq, .ref sq, .ref bq, .ref cq, .long sm, .ref pq, .int ps, .int u])), (mq, .inl (cZ, 12288, .inl fM)), (zq, .inl (cI, 3, .inl fS)), (sq, .inl (cI, 6156, .inl fP)), (bq, .inl (cI, 3, .inl fB)), (cq, .inl (cJ, 64, .inr (.inl fC))), (pq, .inl (cI, 8, .inl fT))] t.heap ∧ va_K (dC, dI) vwCl [(cZ, .boolean), (cI, .int), (cJ, .long)] t ∧ va_D (va_A [(q, .inr (7, [.ref mq, .ref zq, .ref sq, .ref bq, .ref cq, .long sm, .ref pq, .int ps, .int th])), (mq, .inl (cZ, 12288, .inl fM)), (zq, .inl (cI, 3, .inl fS)), (sq, .inl (cI, 6156, .inl fP)), (bq, .inl (cI, 3, .inl fB)), (cq, .inl (cJ, 64, .inr (.inl fC))), (pq, .inl (cI, 8, .inl fT))] sz) [(q, .inr (7, [.ref mq, .ref zq, .ref sq, .ref bq, .ref cq, .long sm, .ref pq, .int ps, .int u])), (mq, .inl (cZ, 12288, .inl fM)), (zq, .inl (cI, 3, .inl fS)), (sq, .inl (cI, 6156, .inl fP)), (bq, .inl (cI, 3, .inl fB)), (cq, .inl (cJ, 64, .inr (.inl fC))), (pq, .inl (cI, 8, .inl fT))]) (va_A [(q, .inr (7, [.ref mq, .ref zq, .ref sq, .ref bq, .ref cq, .long sm, .ref pq, .int ps, .int th])), (mq, .inl (cZ, 12288, .inl fM)), (zq, .inl (cI, 3, .inl fS)), (sq, .inl (cI, 6156, .inl fP)), (bq, .inl (cI, 3, .inl fB)), (cq, .inl (cJ, 64, .inr (.inl fC))), (pq, .inl (cI, 8, .inl fT))] sz)) 0 0 (va_A [(q, .inr (7, [.ref mq, .ref zq, .ref sq, .ref bq, .ref cq, .long sm, .ref pq, .int ps, .int th])), (mq, .inl (cZ, 12288, .inl fM)), (zq, .inl (cI, 3, .inl fS)), (sq, .inl (cI, 6156, .inl fP)), (bq, .inl (cI, 3, .inl fB)), (cq, .inl (cJ, 64, .inr (.inl fC))), (pq, .inl (cI, 8, .inl fT))] sz) := by
  refine Met.ofW (cc := cX8_successor) (maxL := 4) (ret := (some .int)) (by decide) rfl ?_
  intro p e s m args below meth c s₁ B hml hv
  obtain ⟨rfl, hsz, hP, hK, hD0⟩ := hv
  have hx := B.exec
  have hb := B.bytes
  have hr := B.returns
  have hts := atoms_spec (ws := wsX8_successor) B.pre
  have hown : s.vm.findClass RX8 = some m.cls := findClass_of_methodNamed B.named
  have hlocks := B.notSynchronized
  subst hsz
  have hD := hD0.self (sz := s.heap.size)
  generalize hAe : va_A [(q, .inr (7, [.ref mq, .ref zq, .ref sq, .ref bq, .ref cq, .long sm, .ref pq, .int ps, .int th])), (mq, .inl (cZ, 12288, .inl fM)), (zq, .inl (cI, 3, .inl fS)), (sq, .inl (cI, 6156, .inl fP)), (bq, .inl (cI, 3, .inl fB)), (cq, .inl (cJ, 64, .inr (.inl fC))), (pq, .inl (cI, 8, .inl fT))] s.heap.size = A at hD ⊢
  have hA : ∀ q : Nat, s.heap.size ≤ q → A q := fun q h => by rw [← hAe]; exact Or.inr h
  have hS : va_S A s.heap s.heap [] := va_S.rf
  have hP : va_P (dC, dI) vwCl [(q, .inr (7, [.ref mq, .ref zq, .ref sq, .ref bq, .ref cq, .long sm, .ref pq, .int ps, .int th])), (mq, .inl (cZ, 12288, .inl fM)), (zq, .inl (cI, 3, .inl fS)), (sq, .inl (cI, 6156, .inl fP)), (bq, .inl (cI, 3, .inl fB)), (cq, .inl (cJ, 64, .inr (.inl fC))), (pq, .inl (cI, 8, .inl fT))] s.heap := hP
  have hl := lv_entry ([.ref q, .int (nI k), .int (nI x)]) (n := 4) (Nat.le_of_ble_eq_true rfl)
  rw [lg_entry_eq]
  generalize (lg_sl ([.ref q, .int (nI k), .int (nI x)]) ++ List.replicate (4 - (lg_sl ([.ref q, .int (nI k), .int (nI x)])).length) Slot.unset).toArray = ls at hl ⊢
  have hl : lv_has ls 4 [(0, .ref q), (1, .int (nI k)), (2, .int (nI x))] := hl
  refine lv_aload_n hx hb dX8_successor_0 rfl (lv_at hl 0 rfl) ?_
  refine lv_iload_n hx hb dX8_successor_1 rfl (lv_at hl 1 rfl) ?_
  refine lv_iload_n hx hb dX8_successor_2 rfl (lv_at hl 2 rfl) ?_
  have hPc := hP.sub (ws' := [(q, .inr (7, [.ref mq, .ref zq, .ref sq, .ref bq, .ref cq, .long sm, .ref pq, .int ps, .int th])), (mq, .inl (cZ, 12288, .inl fM)), (zq, .inl (cI, 3, .inl fS)), (sq, .inl (cI, 6156, .inl fP)), (bq, .inl (cI, 3, .inl fB)), (cq, .inl (cJ, 64, .inr (.inl fC))), (pq, .inl (cI, 8, .inl fT))]) [0, 1, 2, 3, 4, 5, 6] rfl
  have hKc := hK.sub (tys' := [(cZ, .boolean), (cI, .int), (cJ, .long)]) [0, 1, 2] rfl
  have hDc := hD.sub (ws' := [(q, .inr (7, [.ref mq, .ref zq, .ref sq, .ref bq, .ref cq, .long sm, .ref pq, .int ps, .int th])), (mq, .inl (cZ, 12288, .inl fM)), (zq, .inl (cI, 3, .inl fS)), (sq, .inl (cI, 6156, .inl fP)), (bq, .inl (cI, 3, .inl fB)), (cq, .inl (cJ, 64, .inr (.inl fC))), (pq, .inl (cI, 8, .inl fT))]) [0, 1, 2, 3, 4, 5, 6] (by decide) rfl
  have hFc := va_free (wc := [(q, .inr (7, [.ref mq, .ref zq, .ref sq, .ref bq, .ref cq, .long sm, .ref pq, .int ps, .int th])), (mq, .inl (cZ, 12288, .inl fM)), (zq, .inl (cI, 3, .inl fS)), (sq, .inl (cI, 6156, .inl fP)), (bq, .inl (cI, 3, .inl fB)), (cq, .inl (cJ, 64, .inr (.inl fC))), (pq, .inl (cI, 8, .inl fT))]) hD hS hA [0, 1, 2, 3, 4, 5, 6] rfl
  refine va_calli (va_runV (As := [.int (nI k), .int (nI x)]) (rest := []) ⟨hx, hb, hml, hown, hts⟩ (c_X8_isRight l dC dI q mq zq sq bq cq pq cZ cI cJ fM fS fP fB fC sm fT ps th (nI k) (nI x) s.heap.size ) (cwV 2 hts gX8_successor_X8_isRight rfl rfl rfl (by decide +kernel) ⟨Nat.le_of_ble_eq_true rfl, Nat.le_of_ble_eq_true rfl⟩) ⟨fun a U g mk q => by obtain ⟨q0, q1, qP, qK, qD⟩ := q; exact ⟨q0, q1, qP, va_K.moved (u := U) (U := U.calling g mk a) (Vm.Alike.refl U.vm) qK, qD⟩, va_recv hKc hPc (ci := 7) (q0 := 0) rfl rfl, fun U hU hW => ⟨rfl, by rw [hU], by rw [hU]; exact hPc, va_K.moved hW.alike hKc, hDc.weaken (fun _ _ _ _ => trivial)⟩⟩ rfl rfl hl.1 rfl (lv_room (Nat.le_of_ble_eq_true rfl)) dX8_successor_3 ⟨Nat.le_of_ble_eq_true rfl, Nat.le_of_ble_eq_true rfl⟩) hS (fun q _ h => hFc q h) hFc (fun r_3 u_2 t9 H1 locs ht hvm hw_1 hB hz1 hk1 hS => ?_)
  obtain ⟨th'_4, rfl⟩ : ∃ z, z = u_2 := ⟨_, rfl⟩
  obtain ⟨hP1, hK1, hD1⟩ := hB
  rw [ht] at hP1
  have hK1 := va_K.moved hvm.symm hK1
  try dsimp only at hw_1 hP1 hK1 hD1
  obtain ⟨hP, hD⟩ := va_join (wr := []) (w1 := [(q, .inr (7, [.ref mq, .ref zq, .ref sq, .ref bq, .ref cq, .long sm, .ref pq, .int ps, .int th'_4])), (mq, .inl (cZ, 12288, .inl fM)), (zq, .inl (cI, 3, .inl fS)), (sq, .inl (cI, 6156, .inl fP)), (bq, .inl (cI, 3, .inl fB)), (cq, .inl (cJ, 64, .inr (.inl fC))), (pq, .inl (cI, 8, .inl fT))]) hP hD [0, 1, 2, 3, 4, 5, 6] [] rfl rfl (by decide) (by decide) hk1 hFc hP1 hD1
  generalize H1 = H at hP hS ⊢
  have hP : va_P (dC, dI) vwCl [(q, .inr (7, [.ref mq, .ref zq, .ref sq, .ref bq, .ref cq, .long sm, .ref pq, .int ps, .int th'_4])), (mq, .inl (cZ, 12288, .inl fM)), (zq, .inl (cI, 3, .inl fS)), (sq, .inl (cI, 6156, .inl fP)), (bq, .inl (cI, 3, .inl fB)), (cq, .inl (cJ, 64, .inr (.inl fC))), (pq, .inl (cI, 8, .inl fT))] H := hP
  have hD : va_D A [(q, .inr (7, [.ref mq, .ref zq, .ref sq, .ref bq, .ref cq, .long sm, .ref pq, .int ps, .int th'_4])), (mq, .inl (cZ, 12288, .inl fM)), (zq, .inl (cI, 3, .inl fS)), (sq, .inl (cI, 6156, .inl fP)), (bq, .inl (cI, 3, .inl fB)), (cq, .inl (cJ, 64, .inr (.inl fC))), (pq, .inl (cI, 8, .inl fT))] := hD
  obtain ⟨he, hw_1⟩ := hw_1
  subst he
  have hth : th'_4 = nI 0 := by rw [hw_1, isS_t hk, isN_t hxx]; rfl
  refine lv_cvi (congrArg b2i (by rw [isS_t hk, isN_t hxx] <;> rfl)) ?_
  refine lv_if_ne (tgt := 11) hx hb dX8_successor_6 (by decide) (fun qc_5 => ?_) (fun qc_5 => ?_)
  · have c_5 : true = true := b2i_t qc_5
    refine lv_aload_n hx hb dX8_successor_11 rfl (lv_at hl 0 rfl) ?_
    refine lv_iload_n hx hb dX8_successor_12 rfl (lv_at hl 1 rfl) ?_
    refine lv_iload_n hx hb dX8_successor_13 rfl (lv_at hl 2 rfl) ?_
    refine lv_iconst (v := nI 1) hx hb dX8_successor_14 (by decide +kernel) ?_
    refine lv_iadd hx hb dX8_successor_15 ?_
    refine lv_cvi (nI_add _ _) ?_
    have hPc := hP.sub (ws' := [(q, .inr (7, [.ref mq, .ref zq, .ref sq, .ref bq, .ref cq, .long sm, .ref pq, .int ps, .int th'_4])), (mq, .inl (cZ, 12288, .inl fM)), (zq, .inl (cI, 3, .inl fS)), (sq, .inl (cI, 6156, .inl fP)), (bq, .inl (cI, 3, .inl fB)), (cq, .inl (cJ, 64, .inr (.inl fC))), (pq, .inl (cI, 8, .inl fT))]) [0, 1, 2, 3, 4, 5, 6] rfl
    have hKc := hK.sub (tys' := [(cZ, .boolean), (cI, .int), (cJ, .long)]) [0, 1, 2] rfl
    refine vp_callSi (W.runV (As := [.int (nI k), .int (nI (x + 1))]) (rest := []) ⟨hx, hb, hml, hown, hts⟩ (c_X8_above l dC dI q mq zq sq bq cq pq cZ cI cJ fM fS fP fB fC sm fT ps th'_4 M k (x + 1) (by first | assumption | omega) (by first | assumption | omega) (by first | assumption | omega)) (cwV 2 hts gX8_successor_X8_above rfl rfl rfl (by decide +kernel) ⟨Nat.le_of_ble_eq_true rfl, Nat.le_of_ble_eq_true rfl⟩) ⟨fun a U g mk q => by obtain ⟨q0, qP, qK⟩ := q; exact ⟨q0, qP, va_K.moved (u := U) (U := U.calling g mk a) (Vm.Alike.refl U.vm) qK⟩, va_recv hKc hPc (ci := 7) (q0 := 0) rfl rfl, fun U hU hW => ⟨rfl, by rw [hU]; exact hPc, va_K.moved hW.alike hKc⟩⟩ rfl rfl hl.1 rfl (lv_room (Nat.le_of_ble_eq_true rfl)) dX8_successor_16 ⟨Nat.le_of_ble_eq_true rfl, Nat.le_of_ble_eq_true rfl⟩) (fun r_7 hw_6 => ?_)
    subst hw_6
    have hab := abv_le (M k) (x + 1)
    refine lv_istore_n (lv' := [(3, .int (nI (abv (M k) (x + 1)))), (0, .ref q), (1, .int (nI k)), (2, .int (nI x))]) hx hb dX8_successor_19 rfl hl (by decide) rfl (fun ls hl => ?_)
    refine lv_iload_n hx hb dX8_successor_20 rfl (lv_at hl 0 rfl) ?_
    refine lv_sipush (v := nI 4096) hx hb dX8_successor_21 (by decide +kernel) ?_
    refine lv_icmp_ne (tgt := 31) hx hb dX8_successor_24 (by decide) (fun qc_8 => ?_) (fun qc_8 => ?_)
    · have c_8 : ¬ (abv (M k) (x + 1)) = 4096 := fun h9 => qc_8 ((nI_eq (a := abv (M k) (x + 1)) (b := 4096) (by omega) (by omega)).mpr h9)
      refine lv_iload_n hx hb dX8_successor_31 rfl (lv_at hl 0 rfl) ?_
      have hP9 := hP.sub (ws' := [(q, .inr (7, [.ref mq, .ref zq, .ref sq, .ref bq, .ref cq, .long sm, .ref pq, .int ps, .int th'_4])), (mq, .inl (cZ, 12288, .inl fM)), (zq, .inl (cI, 3, .inl fS)), (sq, .inl (cI, 6156, .inl fP)), (bq, .inl (cI, 3, .inl fB)), (cq, .inl (cJ, 64, .inr (.inl fC))), (pq, .inl (cI, 8, .inl fT))]) [0, 1, 2, 3, 4, 5, 6] rfl
      have hD9 := hD.sub (ws' := [(q, .inr (7, [.ref mq, .ref zq, .ref sq, .ref bq, .ref cq, .long sm, .ref pq, .int ps, .int th'_4])), (mq, .inl (cZ, 12288, .inl fM)), (zq, .inl (cI, 3, .inl fS)), (sq, .inl (cI, 6156, .inl fP)), (bq, .inl (cI, 3, .inl fB)), (cq, .inl (cJ, 64, .inr (.inl fC))), (pq, .inl (cI, 8, .inl fT))]) [0, 1, 2, 3, 4, 5, 6] (by decide) rfl
      have hK9 := hK.sub (tys' := [(cZ, .boolean), (cI, .int), (cJ, .long)]) [0, 1, 2] rfl
      exact W.iret (v := nI (abv (M k) (x + 1))) hx hb hr (fun t9 ht hW => ⟨⟨nI (abv (M k) (x + 1)), th'_4, rfl, ⟨by rw [nx_abv1 c_8]; rfl, hth⟩, by rw [ht]; exact hP9, va_K.moved hW.alike hK9, hD9⟩, hS.F ht⟩) hS.2.2 dX8_successor_32
    · have c_8 : (abv (M k) (x + 1)) = 4096 := (nI_eq (a := abv (M k) (x + 1)) (b := 4096) (by omega) (by omega)).mp qc_8
      refine lv_iconst (v := -1) hx hb dX8_successor_27 (by decide +kernel) ?_
      refine lv_goto (tgt := 32) hx hb dX8_successor_28 (by decide) ?_
      have hP9 := hP.sub (ws' := [(q, .inr (7, [.ref mq, .ref zq, .ref sq, .ref bq, .ref cq, .long sm, .ref pq, .int ps, .int th'_4])), (mq, .inl (cZ, 12288, .inl fM)), (zq, .inl (cI, 3, .inl fS)), (sq, .inl (cI, 6156, .inl fP)), (bq, .inl (cI, 3, .inl fB)), (cq, .inl (cJ, 64, .inr (.inl fC))), (pq, .inl (cI, 8, .inl fT))]) [0, 1, 2, 3, 4, 5, 6] rfl
      have hD9 := hD.sub (ws' := [(q, .inr (7, [.ref mq, .ref zq, .ref sq, .ref bq, .ref cq, .long sm, .ref pq, .int ps, .int th'_4])), (mq, .inl (cZ, 12288, .inl fM)), (zq, .inl (cI, 3, .inl fS)), (sq, .inl (cI, 6156, .inl fP)), (bq, .inl (cI, 3, .inl fB)), (cq, .inl (cJ, 64, .inr (.inl fC))), (pq, .inl (cI, 8, .inl fT))]) [0, 1, 2, 3, 4, 5, 6] (by decide) rfl
      have hK9 := hK.sub (tys' := [(cZ, .boolean), (cI, .int), (cJ, .long)]) [0, 1, 2] rfl
      exact W.iret (v := -1) hx hb hr (fun t9 ht hW => ⟨⟨-1, th'_4, rfl, ⟨by rw [nx_abv0 c_8]; rfl, hth⟩, by rw [ht]; exact hP9, va_K.moved hW.alike hK9, hD9⟩, hS.F ht⟩) hS.2.2 dX8_successor_32
  · have c_5 : true = false := b2i_f qc_5
    cases c_5
set_option maxHeartbeats 4000000 in
set_option maxRecDepth 100000 in
/-- reference: c_X8_successor_s -/
theorem c_X8_successor_s (l : Launch) (dC : Nat → ClassId) (dI : Nat → Nat → Nat) (q : Nat) (mq : Nat) (zq : Nat) (sq : Nat) (bq : Nat) (cq : Nat) (pq : Nat) (cZ : ClassId) (cI : ClassId) (cJ : ClassId) (fM : Nat → Int32) (fS : Nat → Int32) (fP : Nat → Int32) (fB : Nat → Int32) (fC : Nat → Int64) (sm : Int64) (fT : Nat → Int32) (ps : Int32) (th : Int32) (v : Int32) (w0 : Int32) (sz : Nat) (hSf : isS v = false) : Met l yX8_successor wsX8_successor ({ frames := 3, cells := 0, slots := 0, locals := 64 }) (va_Pc [.ref q, .int v, .int w0] (fun U => U.heap.size = sz ∧ va_P (dC, dI) vwCl [(q, .inr (7, [.ref mq, .ref zq, .ref sq, .ref bq, .ref cq, .long sm, .ref pq, .int ps, .int th])), (mq, .inl (cZ, 12288, .inl fM)), (zq, .inl (cI, 3, .inl fS)), (sq, .inl (cI, 6156, .inl fP)), (bq, .inl (cI, 3, .inl fB)), (cq, .inl (cJ, 64, .inr (.inl fC))), (pq, .inl (cI, 8, .inl fT))] U.heap ∧ va_K (dC, dI) vwCl [(cZ, .boolean), (cI, .int), (cJ, .long)] U ∧ va_D (fun _ => True) [(q, .inr (7, [.ref mq, .ref zq, .ref sq, .ref bq, .ref cq, .long sm, .ref pq, .int ps, .int th])), (mq, .inl (cZ, 12288, .inl fM)), (zq, .inl (cI, 3, .inl fS)), (sq, .inl (cI, 6156, .inl fP)), (bq, .inl (cI, 3, .inl fB)), (cq, .inl (cJ, 64, .inr (.inl fC))), (pq, .inl (cI, 8, .inl fT))])) (va_Qi (fun (r : Int32) (u : Int32) => u = nI 1) (fun (u : Int32) (t : State) => va_P (dC, dI) vwCl [(q, .inr (7, [.ref mq, .ref zq, .ref sq, .ref bq, .ref cq, .long sm, .ref pq, .int ps, .int u])), (mq, .inl (cZ, 12288, .inl fM)), (zq, .inl (cI, 3, .inl fS)), (sq, .inl (cI, 6156, .inl fP)), (bq, .inl (cI, 3, .inl fB)), (cq, .inl (cJ, 64, .inr (.inl fC))), (pq, .inl (cI, 8, .inl fT))] t.heap ∧ va_K (dC, dI) vwCl [(cZ, .boolean), (cI, .int), (cJ, .long)] t ∧ va_D (va_A [(q, .inr (7, [.ref mq, .ref zq, .ref sq, .ref bq, .ref cq, .long sm, .ref pq, .int ps, .int th])), (mq, .inl (cZ, 12288, .inl fM)), (zq, .inl (cI, 3, .inl fS)), (sq, .inl (cI, 6156, .inl fP)), (bq, .inl (cI, 3, .inl fB)), (cq, .inl (cJ, 64, .inr (.inl fC))), (pq, .inl (cI, 8, .inl fT))] sz) [(q, .inr (7, [.ref mq, .ref zq, .ref sq, .ref bq, .ref cq, .long sm, .ref pq, .int ps, .int u])), (mq, .inl (cZ, 12288, .inl fM)), (zq, .inl (cI, 3, .inl fS)), (sq, .inl (cI, 6156, .inl fP)), (bq, .inl (cI, 3, .inl fB)), (cq, .inl (cJ, 64, .inr (.inl fC))), (pq, .inl (cI, 8, .inl fT))]) (va_A [(q, .inr (7, [.ref mq, .ref zq, .ref sq, .ref bq, .ref cq, .long sm, .ref pq, .int ps, .int th])), (mq, .inl (cZ, 12288, .inl fM)), (zq, .inl (cI, 3, .inl fS)), (sq, .inl (cI, 6156, .inl fP)), (bq, .inl (cI, 3, .inl fB)), (cq, .inl (cJ, 64, .inr (.inl fC))), (pq, .inl (cI, 8, .inl fT))] sz)) 0 0 (va_A [(q, .inr (7, [.ref mq, .ref zq, .ref sq, .ref bq, .ref cq, .long sm, .ref pq, .int ps, .int th])), (mq, .inl (cZ, 12288, .inl fM)), (zq, .inl (cI, 3, .inl fS)), (sq, .inl (cI, 6156, .inl fP)), (bq, .inl (cI, 3, .inl fB)), (cq, .inl (cJ, 64, .inr (.inl fC))), (pq, .inl (cI, 8, .inl fT))] sz) := by
  refine Met.ofW (cc := cX8_successor) (maxL := 4) (ret := (some .int)) (by decide) rfl ?_
  intro p e s m args below meth c s₁ B hml hv
  obtain ⟨rfl, hsz, hP, hK, hD0⟩ := hv
  have hx := B.exec
  have hb := B.bytes
  have hr := B.returns
  have hts := atoms_spec (ws := wsX8_successor) B.pre
  have hown : s.vm.findClass RX8 = some m.cls := findClass_of_methodNamed B.named
  have hlocks := B.notSynchronized
  subst hsz
  have hD := hD0.self (sz := s.heap.size)
  generalize hAe : va_A [(q, .inr (7, [.ref mq, .ref zq, .ref sq, .ref bq, .ref cq, .long sm, .ref pq, .int ps, .int th])), (mq, .inl (cZ, 12288, .inl fM)), (zq, .inl (cI, 3, .inl fS)), (sq, .inl (cI, 6156, .inl fP)), (bq, .inl (cI, 3, .inl fB)), (cq, .inl (cJ, 64, .inr (.inl fC))), (pq, .inl (cI, 8, .inl fT))] s.heap.size = A at hD ⊢
  have hA : ∀ q : Nat, s.heap.size ≤ q → A q := fun q h => by rw [← hAe]; exact Or.inr h
  have hS : va_S A s.heap s.heap [] := va_S.rf
  have hP : va_P (dC, dI) vwCl [(q, .inr (7, [.ref mq, .ref zq, .ref sq, .ref bq, .ref cq, .long sm, .ref pq, .int ps, .int th])), (mq, .inl (cZ, 12288, .inl fM)), (zq, .inl (cI, 3, .inl fS)), (sq, .inl (cI, 6156, .inl fP)), (bq, .inl (cI, 3, .inl fB)), (cq, .inl (cJ, 64, .inr (.inl fC))), (pq, .inl (cI, 8, .inl fT))] s.heap := hP
  have hl := lv_entry ([.ref q, .int v, .int w0]) (n := 4) (Nat.le_of_ble_eq_true rfl)
  rw [lg_entry_eq]
  generalize (lg_sl ([.ref q, .int v, .int w0]) ++ List.replicate (4 - (lg_sl ([.ref q, .int v, .int w0])).length) Slot.unset).toArray = ls at hl ⊢
  have hl : lv_has ls 4 [(0, .ref q), (1, .int v), (2, .int w0)] := hl
  refine lv_aload_n hx hb dX8_successor_0 rfl (lv_at hl 0 rfl) ?_
  refine lv_iload_n hx hb dX8_successor_1 rfl (lv_at hl 1 rfl) ?_
  refine lv_iload_n hx hb dX8_successor_2 rfl (lv_at hl 2 rfl) ?_
  have hPc := hP.sub (ws' := [(q, .inr (7, [.ref mq, .ref zq, .ref sq, .ref bq, .ref cq, .long sm, .ref pq, .int ps, .int th])), (mq, .inl (cZ, 12288, .inl fM)), (zq, .inl (cI, 3, .inl fS)), (sq, .inl (cI, 6156, .inl fP)), (bq, .inl (cI, 3, .inl fB)), (cq, .inl (cJ, 64, .inr (.inl fC))), (pq, .inl (cI, 8, .inl fT))]) [0, 1, 2, 3, 4, 5, 6] rfl
  have hKc := hK.sub (tys' := [(cZ, .boolean), (cI, .int), (cJ, .long)]) [0, 1, 2] rfl
  have hDc := hD.sub (ws' := [(q, .inr (7, [.ref mq, .ref zq, .ref sq, .ref bq, .ref cq, .long sm, .ref pq, .int ps, .int th])), (mq, .inl (cZ, 12288, .inl fM)), (zq, .inl (cI, 3, .inl fS)), (sq, .inl (cI, 6156, .inl fP)), (bq, .inl (cI, 3, .inl fB)), (cq, .inl (cJ, 64, .inr (.inl fC))), (pq, .inl (cI, 8, .inl fT))]) [0, 1, 2, 3, 4, 5, 6] (by decide) rfl
  have hFc := va_free (wc := [(q, .inr (7, [.ref mq, .ref zq, .ref sq, .ref bq, .ref cq, .long sm, .ref pq, .int ps, .int th])), (mq, .inl (cZ, 12288, .inl fM)), (zq, .inl (cI, 3, .inl fS)), (sq, .inl (cI, 6156, .inl fP)), (bq, .inl (cI, 3, .inl fB)), (cq, .inl (cJ, 64, .inr (.inl fC))), (pq, .inl (cI, 8, .inl fT))]) hD hS hA [0, 1, 2, 3, 4, 5, 6] rfl
  refine va_calli (va_runV (As := [.int v, .int w0]) (rest := []) ⟨hx, hb, hml, hown, hts⟩ (c_X8_isRight l dC dI q mq zq sq bq cq pq cZ cI cJ fM fS fP fB fC sm fT ps th v w0 s.heap.size ) (cwV 2 hts gX8_successor_X8_isRight rfl rfl rfl (by decide +kernel) ⟨Nat.le_of_ble_eq_true rfl, Nat.le_of_ble_eq_true rfl⟩) ⟨fun a U g mk q => by obtain ⟨q0, q1, qP, qK, qD⟩ := q; exact ⟨q0, q1, qP, va_K.moved (u := U) (U := U.calling g mk a) (Vm.Alike.refl U.vm) qK, qD⟩, va_recv hKc hPc (ci := 7) (q0 := 0) rfl rfl, fun U hU hW => ⟨rfl, by rw [hU], by rw [hU]; exact hPc, va_K.moved hW.alike hKc, hDc.weaken (fun _ _ _ _ => trivial)⟩⟩ rfl rfl hl.1 rfl (lv_room (Nat.le_of_ble_eq_true rfl)) dX8_successor_3 ⟨Nat.le_of_ble_eq_true rfl, Nat.le_of_ble_eq_true rfl⟩) hS (fun q _ h => hFc q h) hFc (fun r_3 u_2 t9 H1 locs ht hvm hw_1 hB hz1 hk1 hS => ?_)
  obtain ⟨th'_4, rfl⟩ : ∃ z, z = u_2 := ⟨_, rfl⟩
  obtain ⟨hP1, hK1, hD1⟩ := hB
  rw [ht] at hP1
  have hK1 := va_K.moved hvm.symm hK1
  try dsimp only at hw_1 hP1 hK1 hD1
  obtain ⟨hP, hD⟩ := va_join (wr := []) (w1 := [(q, .inr (7, [.ref mq, .ref zq, .ref sq, .ref bq, .ref cq, .long sm, .ref pq, .int ps, .int th'_4])), (mq, .inl (cZ, 12288, .inl fM)), (zq, .inl (cI, 3, .inl fS)), (sq, .inl (cI, 6156, .inl fP)), (bq, .inl (cI, 3, .inl fB)), (cq, .inl (cJ, 64, .inr (.inl fC))), (pq, .inl (cI, 8, .inl fT))]) hP hD [0, 1, 2, 3, 4, 5, 6] [] rfl rfl (by decide) (by decide) hk1 hFc hP1 hD1
  generalize H1 = H at hP hS ⊢
  have hP : va_P (dC, dI) vwCl [(q, .inr (7, [.ref mq, .ref zq, .ref sq, .ref bq, .ref cq, .long sm, .ref pq, .int ps, .int th'_4])), (mq, .inl (cZ, 12288, .inl fM)), (zq, .inl (cI, 3, .inl fS)), (sq, .inl (cI, 6156, .inl fP)), (bq, .inl (cI, 3, .inl fB)), (cq, .inl (cJ, 64, .inr (.inl fC))), (pq, .inl (cI, 8, .inl fT))] H := hP
  have hD : va_D A [(q, .inr (7, [.ref mq, .ref zq, .ref sq, .ref bq, .ref cq, .long sm, .ref pq, .int ps, .int th'_4])), (mq, .inl (cZ, 12288, .inl fM)), (zq, .inl (cI, 3, .inl fS)), (sq, .inl (cI, 6156, .inl fP)), (bq, .inl (cI, 3, .inl fB)), (cq, .inl (cJ, 64, .inr (.inl fC))), (pq, .inl (cI, 8, .inl fT))] := hD
  obtain ⟨he, hw_1⟩ := hw_1
  subst he
  have hth : th'_4 = nI 1 := by rw [hw_1, hSf]; rfl
  refine lv_cvi (congrArg b2i (by rw [hSf] <;> rfl)) ?_
  refine lv_if_ne (tgt := 11) hx hb dX8_successor_6 (by decide) (fun qc_5 => ?_) (fun qc_5 => ?_)
  · have c_5 : false = true := b2i_t qc_5
    cases c_5
  · have c_5 : false = false := b2i_f qc_5
    refine lv_iconst (v := nI 0) hx hb dX8_successor_9 (by decide +kernel) ?_
    have hP9 := hP.sub (ws' := [(q, .inr (7, [.ref mq, .ref zq, .ref sq, .ref bq, .ref cq, .long sm, .ref pq, .int ps, .int th'_4])), (mq, .inl (cZ, 12288, .inl fM)), (zq, .inl (cI, 3, .inl fS)), (sq, .inl (cI, 6156, .inl fP)), (bq, .inl (cI, 3, .inl fB)), (cq, .inl (cJ, 64, .inr (.inl fC))), (pq, .inl (cI, 8, .inl fT))]) [0, 1, 2, 3, 4, 5, 6] rfl
    have hD9 := hD.sub (ws' := [(q, .inr (7, [.ref mq, .ref zq, .ref sq, .ref bq, .ref cq, .long sm, .ref pq, .int ps, .int th'_4])), (mq, .inl (cZ, 12288, .inl fM)), (zq, .inl (cI, 3, .inl fS)), (sq, .inl (cI, 6156, .inl fP)), (bq, .inl (cI, 3, .inl fB)), (cq, .inl (cJ, 64, .inr (.inl fC))), (pq, .inl (cI, 8, .inl fT))]) [0, 1, 2, 3, 4, 5, 6] (by decide) rfl
    have hK9 := hK.sub (tys' := [(cZ, .boolean), (cI, .int), (cJ, .long)]) [0, 1, 2] rfl
    exact W.iret (v := nI 0) hx hb hr (fun t9 ht hW => ⟨⟨nI 0, th'_4, rfl, hth, by rw [ht]; exact hP9, va_K.moved hW.alike hK9, hD9⟩, hS.F ht⟩) hS.2.2 dX8_successor_10
set_option maxHeartbeats 4000000 in
set_option maxRecDepth 100000 in
/-- reference: c_X8_successor_n -/
theorem c_X8_successor_n (l : Launch) (dC : Nat → ClassId) (dI : Nat → Nat → Nat) (q : Nat) (mq : Nat) (zq : Nat) (sq : Nat) (bq : Nat) (cq : Nat) (pq : Nat) (cZ : ClassId) (cI : ClassId) (cJ : ClassId) (fM : Nat → Int32) (fS : Nat → Int32) (fP : Nat → Int32) (fB : Nat → Int32) (fC : Nat → Int64) (sm : Int64) (fT : Nat → Int32) (ps : Int32) (th : Int32) (k : Nat) (w : Int32) (sz : Nat) (hk : k < 3) (hW : isN w = false) : Met l yX8_successor wsX8_successor ({ frames := 3, cells := 0, slots := 0, locals := 64 }) (va_Pc [.ref q, .int (nI k), .int w] (fun U => U.heap.size = sz ∧ va_P (dC, dI) vwCl [(q, .inr (7, [.ref mq, .ref zq, .ref sq, .ref bq, .ref cq, .long sm, .ref pq, .int ps, .int th])), (mq, .inl (cZ, 12288, .inl fM)), (zq, .inl (cI, 3, .inl fS)), (sq, .inl (cI, 6156, .inl fP)), (bq, .inl (cI, 3, .inl fB)), (cq, .inl (cJ, 64, .inr (.inl fC))), (pq, .inl (cI, 8, .inl fT))] U.heap ∧ va_K (dC, dI) vwCl [(cZ, .boolean), (cI, .int), (cJ, .long)] U ∧ va_D (fun _ => True) [(q, .inr (7, [.ref mq, .ref zq, .ref sq, .ref bq, .ref cq, .long sm, .ref pq, .int ps, .int th])), (mq, .inl (cZ, 12288, .inl fM)), (zq, .inl (cI, 3, .inl fS)), (sq, .inl (cI, 6156, .inl fP)), (bq, .inl (cI, 3, .inl fB)), (cq, .inl (cJ, 64, .inr (.inl fC))), (pq, .inl (cI, 8, .inl fT))])) (va_Qi (fun (r : Int32) (u : Int32) => u = nI 2) (fun (u : Int32) (t : State) => va_P (dC, dI) vwCl [(q, .inr (7, [.ref mq, .ref zq, .ref sq, .ref bq, .ref cq, .long sm, .ref pq, .int ps, .int u])), (mq, .inl (cZ, 12288, .inl fM)), (zq, .inl (cI, 3, .inl fS)), (sq, .inl (cI, 6156, .inl fP)), (bq, .inl (cI, 3, .inl fB)), (cq, .inl (cJ, 64, .inr (.inl fC))), (pq, .inl (cI, 8, .inl fT))] t.heap ∧ va_K (dC, dI) vwCl [(cZ, .boolean), (cI, .int), (cJ, .long)] t ∧ va_D (va_A [(q, .inr (7, [.ref mq, .ref zq, .ref sq, .ref bq, .ref cq, .long sm, .ref pq, .int ps, .int th])), (mq, .inl (cZ, 12288, .inl fM)), (zq, .inl (cI, 3, .inl fS)), (sq, .inl (cI, 6156, .inl fP)), (bq, .inl (cI, 3, .inl fB)), (cq, .inl (cJ, 64, .inr (.inl fC))), (pq, .inl (cI, 8, .inl fT))] sz) [(q, .inr (7, [.ref mq, .ref zq, .ref sq, .ref bq, .ref cq, .long sm, .ref pq, .int ps, .int u])), (mq, .inl (cZ, 12288, .inl fM)), (zq, .inl (cI, 3, .inl fS)), (sq, .inl (cI, 6156, .inl fP)), (bq, .inl (cI, 3, .inl fB)), (cq, .inl (cJ, 64, .inr (.inl fC))), (pq, .inl (cI, 8, .inl fT))]) (va_A [(q, .inr (7, [.ref mq, .ref zq, .ref sq, .ref bq, .ref cq, .long sm, .ref pq, .int ps, .int th])), (mq, .inl (cZ, 12288, .inl fM)), (zq, .inl (cI, 3, .inl fS)), (sq, .inl (cI, 6156, .inl fP)), (bq, .inl (cI, 3, .inl fB)), (cq, .inl (cJ, 64, .inr (.inl fC))), (pq, .inl (cI, 8, .inl fT))] sz)) 0 0 (va_A [(q, .inr (7, [.ref mq, .ref zq, .ref sq, .ref bq, .ref cq, .long sm, .ref pq, .int ps, .int th])), (mq, .inl (cZ, 12288, .inl fM)), (zq, .inl (cI, 3, .inl fS)), (sq, .inl (cI, 6156, .inl fP)), (bq, .inl (cI, 3, .inl fB)), (cq, .inl (cJ, 64, .inr (.inl fC))), (pq, .inl (cI, 8, .inl fT))] sz) := by
  refine Met.ofW (cc := cX8_successor) (maxL := 4) (ret := (some .int)) (by decide) rfl ?_
  intro p e s m args below meth c s₁ B hml hv
  obtain ⟨rfl, hsz, hP, hK, hD0⟩ := hv
  have hx := B.exec
  have hb := B.bytes
  have hr := B.returns
  have hts := atoms_spec (ws := wsX8_successor) B.pre
  have hown : s.vm.findClass RX8 = some m.cls := findClass_of_methodNamed B.named
  have hlocks := B.notSynchronized
  subst hsz
  have hD := hD0.self (sz := s.heap.size)
  generalize hAe : va_A [(q, .inr (7, [.ref mq, .ref zq, .ref sq, .ref bq, .ref cq, .long sm, .ref pq, .int ps, .int th])), (mq, .inl (cZ, 12288, .inl fM)), (zq, .inl (cI, 3, .inl fS)), (sq, .inl (cI, 6156, .inl fP)), (bq, .inl (cI, 3, .inl fB)), (cq, .inl (cJ, 64, .inr (.inl fC))), (pq, .inl (cI, 8, .inl fT))] s.heap.size = A at hD ⊢
  have hA : ∀ q : Nat, s.heap.size ≤ q → A q := fun q h => by rw [← hAe]; exact Or.inr h
  have hS : va_S A s.heap s.heap [] := va_S.rf
  have hP : va_P (dC, dI) vwCl [(q, .inr (7, [.ref mq, .ref zq, .ref sq, .ref bq, .ref cq, .long sm, .ref pq, .int ps, .int th])), (mq, .inl (cZ, 12288, .inl fM)), (zq, .inl (cI, 3, .inl fS)), (sq, .inl (cI, 6156, .inl fP)), (bq, .inl (cI, 3, .inl fB)), (cq, .inl (cJ, 64, .inr (.inl fC))), (pq, .inl (cI, 8, .inl fT))] s.heap := hP
  have hl := lv_entry ([.ref q, .int (nI k), .int w]) (n := 4) (Nat.le_of_ble_eq_true rfl)
  rw [lg_entry_eq]
  generalize (lg_sl ([.ref q, .int (nI k), .int w]) ++ List.replicate (4 - (lg_sl ([.ref q, .int (nI k), .int w])).length) Slot.unset).toArray = ls at hl ⊢
  have hl : lv_has ls 4 [(0, .ref q), (1, .int (nI k)), (2, .int w)] := hl
  refine lv_aload_n hx hb dX8_successor_0 rfl (lv_at hl 0 rfl) ?_
  refine lv_iload_n hx hb dX8_successor_1 rfl (lv_at hl 1 rfl) ?_
  refine lv_iload_n hx hb dX8_successor_2 rfl (lv_at hl 2 rfl) ?_
  have hPc := hP.sub (ws' := [(q, .inr (7, [.ref mq, .ref zq, .ref sq, .ref bq, .ref cq, .long sm, .ref pq, .int ps, .int th])), (mq, .inl (cZ, 12288, .inl fM)), (zq, .inl (cI, 3, .inl fS)), (sq, .inl (cI, 6156, .inl fP)), (bq, .inl (cI, 3, .inl fB)), (cq, .inl (cJ, 64, .inr (.inl fC))), (pq, .inl (cI, 8, .inl fT))]) [0, 1, 2, 3, 4, 5, 6] rfl
  have hKc := hK.sub (tys' := [(cZ, .boolean), (cI, .int), (cJ, .long)]) [0, 1, 2] rfl
  have hDc := hD.sub (ws' := [(q, .inr (7, [.ref mq, .ref zq, .ref sq, .ref bq, .ref cq, .long sm, .ref pq, .int ps, .int th])), (mq, .inl (cZ, 12288, .inl fM)), (zq, .inl (cI, 3, .inl fS)), (sq, .inl (cI, 6156, .inl fP)), (bq, .inl (cI, 3, .inl fB)), (cq, .inl (cJ, 64, .inr (.inl fC))), (pq, .inl (cI, 8, .inl fT))]) [0, 1, 2, 3, 4, 5, 6] (by decide) rfl
  have hFc := va_free (wc := [(q, .inr (7, [.ref mq, .ref zq, .ref sq, .ref bq, .ref cq, .long sm, .ref pq, .int ps, .int th])), (mq, .inl (cZ, 12288, .inl fM)), (zq, .inl (cI, 3, .inl fS)), (sq, .inl (cI, 6156, .inl fP)), (bq, .inl (cI, 3, .inl fB)), (cq, .inl (cJ, 64, .inr (.inl fC))), (pq, .inl (cI, 8, .inl fT))]) hD hS hA [0, 1, 2, 3, 4, 5, 6] rfl
  refine va_calli (va_runV (As := [.int (nI k), .int w]) (rest := []) ⟨hx, hb, hml, hown, hts⟩ (c_X8_isRight l dC dI q mq zq sq bq cq pq cZ cI cJ fM fS fP fB fC sm fT ps th (nI k) w s.heap.size ) (cwV 2 hts gX8_successor_X8_isRight rfl rfl rfl (by decide +kernel) ⟨Nat.le_of_ble_eq_true rfl, Nat.le_of_ble_eq_true rfl⟩) ⟨fun a U g mk q => by obtain ⟨q0, q1, qP, qK, qD⟩ := q; exact ⟨q0, q1, qP, va_K.moved (u := U) (U := U.calling g mk a) (Vm.Alike.refl U.vm) qK, qD⟩, va_recv hKc hPc (ci := 7) (q0 := 0) rfl rfl, fun U hU hW => ⟨rfl, by rw [hU], by rw [hU]; exact hPc, va_K.moved hW.alike hKc, hDc.weaken (fun _ _ _ _ => trivial)⟩⟩ rfl rfl hl.1 rfl (lv_room (Nat.le_of_ble_eq_true rfl)) dX8_successor_3 ⟨Nat.le_of_ble_eq_true rfl, Nat.le_of_ble_eq_true rfl⟩) hS (fun q _ h => hFc q h) hFc (fun r_3 u_2 t9 H1 locs ht hvm hw_1 hB hz1 hk1 hS => ?_)
  obtain ⟨th'_4, rfl⟩ : ∃ z, z = u_2 := ⟨_, rfl⟩
  obtain ⟨hP1, hK1, hD1⟩ := hB
  rw [ht] at hP1
  have hK1 := va_K.moved hvm.symm hK1
  try dsimp only at hw_1 hP1 hK1 hD1
  obtain ⟨hP, hD⟩ := va_join (wr := []) (w1 := [(q, .inr (7, [.ref mq, .ref zq, .ref sq, .ref bq, .ref cq, .long sm, .ref pq, .int ps, .int th'_4])), (mq, .inl (cZ, 12288, .inl fM)), (zq, .inl (cI, 3, .inl fS)), (sq, .inl (cI, 6156, .inl fP)), (bq, .inl (cI, 3, .inl fB)), (cq, .inl (cJ, 64, .inr (.inl fC))), (pq, .inl (cI, 8, .inl fT))]) hP hD [0, 1, 2, 3, 4, 5, 6] [] rfl rfl (by decide) (by decide) hk1 hFc hP1 hD1
  generalize H1 = H at hP hS ⊢
  have hP : va_P (dC, dI) vwCl [(q, .inr (7, [.ref mq, .ref zq, .ref sq, .ref bq, .ref cq, .long sm, .ref pq, .int ps, .int th'_4])), (mq, .inl (cZ, 12288, .inl fM)), (zq, .inl (cI, 3, .inl fS)), (sq, .inl (cI, 6156, .inl fP)), (bq, .inl (cI, 3, .inl fB)), (cq, .inl (cJ, 64, .inr (.inl fC))), (pq, .inl (cI, 8, .inl fT))] H := hP
  have hD : va_D A [(q, .inr (7, [.ref mq, .ref zq, .ref sq, .ref bq, .ref cq, .long sm, .ref pq, .int ps, .int th'_4])), (mq, .inl (cZ, 12288, .inl fM)), (zq, .inl (cI, 3, .inl fS)), (sq, .inl (cI, 6156, .inl fP)), (bq, .inl (cI, 3, .inl fB)), (cq, .inl (cJ, 64, .inr (.inl fC))), (pq, .inl (cI, 8, .inl fT))] := hD
  obtain ⟨he, hw_1⟩ := hw_1
  subst he
  have hth : th'_4 = nI 2 := by rw [hw_1, isS_t hk, hW]; rfl
  refine lv_cvi (congrArg b2i (by rw [isS_t hk, hW] <;> rfl)) ?_
  refine lv_if_ne (tgt := 11) hx hb dX8_successor_6 (by decide) (fun qc_5 => ?_) (fun qc_5 => ?_)
  · have c_5 : false = true := b2i_t qc_5
    cases c_5
  · have c_5 : false = false := b2i_f qc_5
    refine lv_iconst (v := nI 0) hx hb dX8_successor_9 (by decide +kernel) ?_
    have hP9 := hP.sub (ws' := [(q, .inr (7, [.ref mq, .ref zq, .ref sq, .ref bq, .ref cq, .long sm, .ref pq, .int ps, .int th'_4])), (mq, .inl (cZ, 12288, .inl fM)), (zq, .inl (cI, 3, .inl fS)), (sq, .inl (cI, 6156, .inl fP)), (bq, .inl (cI, 3, .inl fB)), (cq, .inl (cJ, 64, .inr (.inl fC))), (pq, .inl (cI, 8, .inl fT))]) [0, 1, 2, 3, 4, 5, 6] rfl
    have hD9 := hD.sub (ws' := [(q, .inr (7, [.ref mq, .ref zq, .ref sq, .ref bq, .ref cq, .long sm, .ref pq, .int ps, .int th'_4])), (mq, .inl (cZ, 12288, .inl fM)), (zq, .inl (cI, 3, .inl fS)), (sq, .inl (cI, 6156, .inl fP)), (bq, .inl (cI, 3, .inl fB)), (cq, .inl (cJ, 64, .inr (.inl fC))), (pq, .inl (cI, 8, .inl fT))]) [0, 1, 2, 3, 4, 5, 6] (by decide) rfl
    have hK9 := hK.sub (tys' := [(cZ, .boolean), (cI, .int), (cJ, .long)]) [0, 1, 2] rfl
    exact W.iret (v := nI 0) hx hb hr (fun t9 ht hW => ⟨⟨nI 0, th'_4, rfl, hth, by rw [ht]; exact hP9, va_K.moved hW.alike hK9, hD9⟩, hS.F ht⟩) hS.2.2 dX8_successor_10
set_option maxHeartbeats 4000000 in
set_option maxRecDepth 100000 in
/-- reference: c_X8_predecessor_v -/
theorem c_X8_predecessor_v (l : Launch) (dC : Nat → ClassId) (dI : Nat → Nat → Nat) (q : Nat) (mq : Nat) (zq : Nat) (sq : Nat) (bq : Nat) (cq : Nat) (pq : Nat) (cZ : ClassId) (cI : ClassId) (cJ : ClassId) (fM : Nat → Int32) (fS : Nat → Int32) (fP : Nat → Int32) (fB : Nat → Int32) (fC : Nat → Int64) (sm : Int64) (fT : Nat → Int32) (ps : Int32) (th : Int32) (M : Nat → Nat → Bool) (k : Nat) (x : Nat) (sz : Nat) (hM : MM fM M) (hk : k < 3) (hxx : x < 4096) : Met l yX8_predecessor wsX8_predecessor ({ frames := 3, cells := 0, slots := 0, locals := 64 }) (va_Pc [.ref q, .int (nI k), .int (nI x)] (fun U => U.heap.size = sz ∧ va_P (dC, dI) vwCl [(q, .inr (7, [.ref mq, .ref zq, .ref sq, .ref bq, .ref cq, .long sm, .ref pq, .int ps, .int th])), (mq, .inl (cZ, 12288, .inl fM)), (zq, .inl (cI, 3, .inl fS)), (sq, .inl (cI, 6156, .inl fP)), (bq, .inl (cI, 3, .inl fB)), (cq, .inl (cJ, 64, .inr (.inl fC))), (pq, .inl (cI, 8, .inl fT))] U.heap ∧ va_K (dC, dI) vwCl [(cZ, .boolean), (cI, .int), (cJ, .long)] U ∧ va_D (fun _ => True) [(q, .inr (7, [.ref mq, .ref zq, .ref sq, .ref bq, .ref cq, .long sm, .ref pq, .int ps, .int th])), (mq, .inl (cZ, 12288, .inl fM)), (zq, .inl (cI, 3, .inl fS)), (sq, .inl (cI, 6156, .inl fP)), (bq, .inl (cI, 3, .inl fB)), (cq, .inl (cJ, 64, .inr (.inl fC))), (pq, .inl (cI, 8, .inl fT))])) (va_Qi (fun (r : Int32) (u : Int32) => r = oI (lst1 (M k) x) ∧ u = nI 0) (fun (u : Int32) (t : State) => va_P (dC, dI) vwCl [(q, .inr (7, [.ref mq, .ref zq, .ref sq, .ref bq, .ref cq, .long sm, .ref pq, .int ps, .int u])), (mq, .inl (cZ, 12288, .inl fM)), (zq, .inl (cI, 3, .inl fS)), (sq, .inl (cI, 6156, .inl fP)), (bq, .inl (cI, 3, .inl fB)), (cq, .inl (cJ, 64, .inr (.inl fC))), (pq, .inl (cI, 8, .inl fT))] t.heap ∧ va_K (dC, dI) vwCl [(cZ, .boolean), (cI, .int), (cJ, .long)] t ∧ va_D (va_A [(q, .inr (7, [.ref mq, .ref zq, .ref sq, .ref bq, .ref cq, .long sm, .ref pq, .int ps, .int th])), (mq, .inl (cZ, 12288, .inl fM)), (zq, .inl (cI, 3, .inl fS)), (sq, .inl (cI, 6156, .inl fP)), (bq, .inl (cI, 3, .inl fB)), (cq, .inl (cJ, 64, .inr (.inl fC))), (pq, .inl (cI, 8, .inl fT))] sz) [(q, .inr (7, [.ref mq, .ref zq, .ref sq, .ref bq, .ref cq, .long sm, .ref pq, .int ps, .int u])), (mq, .inl (cZ, 12288, .inl fM)), (zq, .inl (cI, 3, .inl fS)), (sq, .inl (cI, 6156, .inl fP)), (bq, .inl (cI, 3, .inl fB)), (cq, .inl (cJ, 64, .inr (.inl fC))), (pq, .inl (cI, 8, .inl fT))]) (va_A [(q, .inr (7, [.ref mq, .ref zq, .ref sq, .ref bq, .ref cq, .long sm, .ref pq, .int ps, .int th])), (mq, .inl (cZ, 12288, .inl fM)), (zq, .inl (cI, 3, .inl fS)), (sq, .inl (cI, 6156, .inl fP)), (bq, .inl (cI, 3, .inl fB)), (cq, .inl (cJ, 64, .inr (.inl fC))), (pq, .inl (cI, 8, .inl fT))] sz)) 0 0 (va_A [(q, .inr (7, [.ref mq, .ref zq, .ref sq, .ref bq, .ref cq, .long sm, .ref pq, .int ps, .int th])), (mq, .inl (cZ, 12288, .inl fM)), (zq, .inl (cI, 3, .inl fS)), (sq, .inl (cI, 6156, .inl fP)), (bq, .inl (cI, 3, .inl fB)), (cq, .inl (cJ, 64, .inr (.inl fC))), (pq, .inl (cI, 8, .inl fT))] sz) := by
  refine Met.ofW (cc := cX8_predecessor) (maxL := 3) (ret := (some .int)) (by decide) rfl ?_
  intro p e s m args below meth c s₁ B hml hv
  obtain ⟨rfl, hsz, hP, hK, hD0⟩ := hv
  have hx := B.exec
  have hb := B.bytes
  have hr := B.returns
  have hts := atoms_spec (ws := wsX8_predecessor) B.pre
  have hown : s.vm.findClass RX8 = some m.cls := findClass_of_methodNamed B.named
  have hlocks := B.notSynchronized
  subst hsz
  have hD := hD0.self (sz := s.heap.size)
  generalize hAe : va_A [(q, .inr (7, [.ref mq, .ref zq, .ref sq, .ref bq, .ref cq, .long sm, .ref pq, .int ps, .int th])), (mq, .inl (cZ, 12288, .inl fM)), (zq, .inl (cI, 3, .inl fS)), (sq, .inl (cI, 6156, .inl fP)), (bq, .inl (cI, 3, .inl fB)), (cq, .inl (cJ, 64, .inr (.inl fC))), (pq, .inl (cI, 8, .inl fT))] s.heap.size = A at hD ⊢
  have hA : ∀ q : Nat, s.heap.size ≤ q → A q := fun q h => by rw [← hAe]; exact Or.inr h
  have hS : va_S A s.heap s.heap [] := va_S.rf
  have hP : va_P (dC, dI) vwCl [(q, .inr (7, [.ref mq, .ref zq, .ref sq, .ref bq, .ref cq, .long sm, .ref pq, .int ps, .int th])), (mq, .inl (cZ, 12288, .inl fM)), (zq, .inl (cI, 3, .inl fS)), (sq, .inl (cI, 6156, .inl fP)), (bq, .inl (cI, 3, .inl fB)), (cq, .inl (cJ, 64, .inr (.inl fC))), (pq, .inl (cI, 8, .inl fT))] s.heap := hP
  have hl := lv_entry ([.ref q, .int (nI k), .int (nI x)]) (n := 3) (Nat.le_of_ble_eq_true rfl)
  rw [lg_entry_eq]
  generalize (lg_sl ([.ref q, .int (nI k), .int (nI x)]) ++ List.replicate (3 - (lg_sl ([.ref q, .int (nI k), .int (nI x)])).length) Slot.unset).toArray = ls at hl ⊢
  have hl : lv_has ls 3 [(0, .ref q), (1, .int (nI k)), (2, .int (nI x))] := hl
  refine lv_aload_n hx hb dX8_predecessor_0 rfl (lv_at hl 0 rfl) ?_
  refine lv_iload_n hx hb dX8_predecessor_1 rfl (lv_at hl 1 rfl) ?_
  refine lv_iload_n hx hb dX8_predecessor_2 rfl (lv_at hl 2 rfl) ?_
  have hPc := hP.sub (ws' := [(q, .inr (7, [.ref mq, .ref zq, .ref sq, .ref bq, .ref cq, .long sm, .ref pq, .int ps, .int th])), (mq, .inl (cZ, 12288, .inl fM)), (zq, .inl (cI, 3, .inl fS)), (sq, .inl (cI, 6156, .inl fP)), (bq, .inl (cI, 3, .inl fB)), (cq, .inl (cJ, 64, .inr (.inl fC))), (pq, .inl (cI, 8, .inl fT))]) [0, 1, 2, 3, 4, 5, 6] rfl
  have hKc := hK.sub (tys' := [(cZ, .boolean), (cI, .int), (cJ, .long)]) [0, 1, 2] rfl
  have hDc := hD.sub (ws' := [(q, .inr (7, [.ref mq, .ref zq, .ref sq, .ref bq, .ref cq, .long sm, .ref pq, .int ps, .int th])), (mq, .inl (cZ, 12288, .inl fM)), (zq, .inl (cI, 3, .inl fS)), (sq, .inl (cI, 6156, .inl fP)), (bq, .inl (cI, 3, .inl fB)), (cq, .inl (cJ, 64, .inr (.inl fC))), (pq, .inl (cI, 8, .inl fT))]) [0, 1, 2, 3, 4, 5, 6] (by decide) rfl
  have hFc := va_free (wc := [(q, .inr (7, [.ref mq, .ref zq, .ref sq, .ref bq, .ref cq, .long sm, .ref pq, .int ps, .int th])), (mq, .inl (cZ, 12288, .inl fM)), (zq, .inl (cI, 3, .inl fS)), (sq, .inl (cI, 6156, .inl fP)), (bq, .inl (cI, 3, .inl fB)), (cq, .inl (cJ, 64, .inr (.inl fC))), (pq, .inl (cI, 8, .inl fT))]) hD hS hA [0, 1, 2, 3, 4, 5, 6] rfl
  refine va_calli (va_runV (As := [.int (nI k), .int (nI x)]) (rest := []) ⟨hx, hb, hml, hown, hts⟩ (c_X8_isRight l dC dI q mq zq sq bq cq pq cZ cI cJ fM fS fP fB fC sm fT ps th (nI k) (nI x) s.heap.size ) (cwV 2 hts gX8_predecessor_X8_isRight rfl rfl rfl (by decide +kernel) ⟨Nat.le_of_ble_eq_true rfl, Nat.le_of_ble_eq_true rfl⟩) ⟨fun a U g mk q => by obtain ⟨q0, q1, qP, qK, qD⟩ := q; exact ⟨q0, q1, qP, va_K.moved (u := U) (U := U.calling g mk a) (Vm.Alike.refl U.vm) qK, qD⟩, va_recv hKc hPc (ci := 7) (q0 := 0) rfl rfl, fun U hU hW => ⟨rfl, by rw [hU], by rw [hU]; exact hPc, va_K.moved hW.alike hKc, hDc.weaken (fun _ _ _ _ => trivial)⟩⟩ rfl rfl hl.1 rfl (lv_room (Nat.le_of_ble_eq_true rfl)) dX8_predecessor_3 ⟨Nat.le_of_ble_eq_true rfl, Nat.le_of_ble_eq_true rfl⟩) hS (fun q _ h => hFc q h) hFc (fun r_3 u_2 t9 H1 locs ht hvm hw_1 hB hz1 hk1 hS => ?_)
  obtain ⟨th'_4, rfl⟩ : ∃ z, z = u_2 := ⟨_, rfl⟩
  obtain ⟨hP1, hK1, hD1⟩ := hB
  rw [ht] at hP1
  have hK1 := va_K.moved hvm.symm hK1
  try dsimp only at hw_1 hP1 hK1 hD1
  obtain ⟨hP, hD⟩ := va_join (wr := []) (w1 := [(q, .inr (7, [.ref mq, .ref zq, .ref sq, .ref bq, .ref cq, .long sm, .ref pq, .int ps, .int th'_4])), (mq, .inl (cZ, 12288, .inl fM)), (zq, .inl (cI, 3, .inl fS)), (sq, .inl (cI, 6156, .inl fP)), (bq, .inl (cI, 3, .inl fB)), (cq, .inl (cJ, 64, .inr (.inl fC))), (pq, .inl (cI, 8, .inl fT))]) hP hD [0, 1, 2, 3, 4, 5, 6] [] rfl rfl (by decide) (by decide) hk1 hFc hP1 hD1
  generalize H1 = H at hP hS ⊢
  have hP : va_P (dC, dI) vwCl [(q, .inr (7, [.ref mq, .ref zq, .ref sq, .ref bq, .ref cq, .long sm, .ref pq, .int ps, .int th'_4])), (mq, .inl (cZ, 12288, .inl fM)), (zq, .inl (cI, 3, .inl fS)), (sq, .inl (cI, 6156, .inl fP)), (bq, .inl (cI, 3, .inl fB)), (cq, .inl (cJ, 64, .inr (.inl fC))), (pq, .inl (cI, 8, .inl fT))] H := hP
  have hD : va_D A [(q, .inr (7, [.ref mq, .ref zq, .ref sq, .ref bq, .ref cq, .long sm, .ref pq, .int ps, .int th'_4])), (mq, .inl (cZ, 12288, .inl fM)), (zq, .inl (cI, 3, .inl fS)), (sq, .inl (cI, 6156, .inl fP)), (bq, .inl (cI, 3, .inl fB)), (cq, .inl (cJ, 64, .inr (.inl fC))), (pq, .inl (cI, 8, .inl fT))] := hD
  obtain ⟨he, hw_1⟩ := hw_1
  subst he
  have hth : th'_4 = nI 0 := by rw [hw_1, isS_t hk, isN_t hxx]; rfl
  refine lv_cvi (congrArg b2i (by rw [isS_t hk, isN_t hxx] <;> rfl)) ?_
  refine lv_if_eq (tgt := 20) hx hb dX8_predecessor_6 (by decide) (fun qc_5 => ?_) (fun qc_5 => ?_)
  · have c_5 : true = false := b2i_f qc_5
    cases c_5
  · have c_5 : true = true := b2i_t qc_5
    refine lv_aload_n hx hb dX8_predecessor_9 rfl (lv_at hl 0 rfl) ?_
    refine lv_iload_n hx hb dX8_predecessor_10 rfl (lv_at hl 1 rfl) ?_
    refine lv_iload_n hx hb dX8_predecessor_11 rfl (lv_at hl 2 rfl) ?_
    refine lv_iconst (v := nI 1) hx hb dX8_predecessor_12 (by decide +kernel) ?_
    refine lv_isub hx hb dX8_predecessor_13 ?_
    refine lv_cvi (pred_dm x) ?_
    have hPc := hP.sub (ws' := [(q, .inr (7, [.ref mq, .ref zq, .ref sq, .ref bq, .ref cq, .long sm, .ref pq, .int ps, .int th'_4])), (mq, .inl (cZ, 12288, .inl fM)), (zq, .inl (cI, 3, .inl fS)), (sq, .inl (cI, 6156, .inl fP)), (bq, .inl (cI, 3, .inl fB)), (cq, .inl (cJ, 64, .inr (.inl fC))), (pq, .inl (cI, 8, .inl fT))]) [0, 1, 2, 3, 4, 5, 6] rfl
    have hKc := hK.sub (tys' := [(cZ, .boolean), (cI, .int), (cJ, .long)]) [0, 1, 2] rfl
    refine vp_callSi (W.runV (As := [.int (nI k), .int (dm x)]) (rest := []) ⟨hx, hb, hml, hown, hts⟩ (c_X8_below l dC dI q mq zq sq bq cq pq cZ cI cJ fM fS fP fB fC sm fT ps th'_4 M k x (by first | assumption | omega) (by first | assumption | omega) (by first | assumption | omega)) (cwV 2 hts gX8_predecessor_X8_below rfl rfl rfl (by decide +kernel) ⟨Nat.le_of_ble_eq_true rfl, Nat.le_of_ble_eq_true rfl⟩) ⟨fun a U g mk q => by obtain ⟨q0, qP, qK⟩ := q; exact ⟨q0, qP, va_K.moved (u := U) (U := U.calling g mk a) (Vm.Alike.refl U.vm) qK⟩, va_recv hKc hPc (ci := 7) (q0 := 0) rfl rfl, fun U hU hW => ⟨rfl, by rw [hU]; exact hPc, va_K.moved hW.alike hKc⟩⟩ rfl rfl hl.1 rfl (lv_room (Nat.le_of_ble_eq_true rfl)) dX8_predecessor_14 ⟨Nat.le_of_ble_eq_true rfl, Nat.le_of_ble_eq_true rfl⟩) (fun r_7 hw_6 => ?_)
    subst hw_6
    refine lv_goto (tgt := 21) hx hb dX8_predecessor_17 (by decide) ?_
    have hP9 := hP.sub (ws' := [(q, .inr (7, [.ref mq, .ref zq, .ref sq, .ref bq, .ref cq, .long sm, .ref pq, .int ps, .int th'_4])), (mq, .inl (cZ, 12288, .inl fM)), (zq, .inl (cI, 3, .inl fS)), (sq, .inl (cI, 6156, .inl fP)), (bq, .inl (cI, 3, .inl fB)), (cq, .inl (cJ, 64, .inr (.inl fC))), (pq, .inl (cI, 8, .inl fT))]) [0, 1, 2, 3, 4, 5, 6] rfl
    have hD9 := hD.sub (ws' := [(q, .inr (7, [.ref mq, .ref zq, .ref sq, .ref bq, .ref cq, .long sm, .ref pq, .int ps, .int th'_4])), (mq, .inl (cZ, 12288, .inl fM)), (zq, .inl (cI, 3, .inl fS)), (sq, .inl (cI, 6156, .inl fP)), (bq, .inl (cI, 3, .inl fB)), (cq, .inl (cJ, 64, .inr (.inl fC))), (pq, .inl (cI, 8, .inl fT))]) [0, 1, 2, 3, 4, 5, 6] (by decide) rfl
    have hK9 := hK.sub (tys' := [(cZ, .boolean), (cI, .int), (cJ, .long)]) [0, 1, 2] rfl
    exact W.iret (v := oI (lst1 (M k) x)) hx hb hr (fun t9 ht hW => ⟨⟨oI (lst1 (M k) x), th'_4, rfl, ⟨rfl, hth⟩, by rw [ht]; exact hP9, va_K.moved hW.alike hK9, hD9⟩, hS.F ht⟩) hS.2.2 dX8_predecessor_21
set_option maxHeartbeats 4000000 in
set_option maxRecDepth 100000 in
/-- reference: c_X8_predecessor_s -/
theorem c_X8_predecessor_s (l : Launch) (dC : Nat → ClassId) (dI : Nat → Nat → Nat) (q : Nat) (mq : Nat) (zq : Nat) (sq : Nat) (bq : Nat) (cq : Nat) (pq : Nat) (cZ : ClassId) (cI : ClassId) (cJ : ClassId) (fM : Nat → Int32) (fS : Nat → Int32) (fP : Nat → Int32) (fB : Nat → Int32) (fC : Nat → Int64) (sm : Int64) (fT : Nat → Int32) (ps : Int32) (th : Int32) (v : Int32) (w0 : Int32) (sz : Nat) (hSf : isS v = false) : Met l yX8_predecessor wsX8_predecessor ({ frames := 3, cells := 0, slots := 0, locals := 64 }) (va_Pc [.ref q, .int v, .int w0] (fun U => U.heap.size = sz ∧ va_P (dC, dI) vwCl [(q, .inr (7, [.ref mq, .ref zq, .ref sq, .ref bq, .ref cq, .long sm, .ref pq, .int ps, .int th])), (mq, .inl (cZ, 12288, .inl fM)), (zq, .inl (cI, 3, .inl fS)), (sq, .inl (cI, 6156, .inl fP)), (bq, .inl (cI, 3, .inl fB)), (cq, .inl (cJ, 64, .inr (.inl fC))), (pq, .inl (cI, 8, .inl fT))] U.heap ∧ va_K (dC, dI) vwCl [(cZ, .boolean), (cI, .int), (cJ, .long)] U ∧ va_D (fun _ => True) [(q, .inr (7, [.ref mq, .ref zq, .ref sq, .ref bq, .ref cq, .long sm, .ref pq, .int ps, .int th])), (mq, .inl (cZ, 12288, .inl fM)), (zq, .inl (cI, 3, .inl fS)), (sq, .inl (cI, 6156, .inl fP)), (bq, .inl (cI, 3, .inl fB)), (cq, .inl (cJ, 64, .inr (.inl fC))), (pq, .inl (cI, 8, .inl fT))])) (va_Qi (fun (r : Int32) (u : Int32) => u = nI 1) (fun (u : Int32) (t : State) => va_P (dC, dI) vwCl [(q, .inr (7, [.ref mq, .ref zq, .ref sq, .ref bq, .ref cq, .long sm, .ref pq, .int ps, .int u])), (mq, .inl (cZ, 12288, .inl fM)), (zq, .inl (cI, 3, .inl fS)), (sq, .inl (cI, 6156, .inl fP)), (bq, .inl (cI, 3, .inl fB)), (cq, .inl (cJ, 64, .inr (.inl fC))), (pq, .inl (cI, 8, .inl fT))] t.heap ∧ va_K (dC, dI) vwCl [(cZ, .boolean), (cI, .int), (cJ, .long)] t ∧ va_D (va_A [(q, .inr (7, [.ref mq, .ref zq, .ref sq, .ref bq, .ref cq, .long sm, .ref pq, .int ps, .int th])), (mq, .inl (cZ, 12288, .inl fM)), (zq, .inl (cI, 3, .inl fS)), (sq, .inl (cI, 6156, .inl fP)), (bq, .inl (cI, 3, .inl fB)), (cq, .inl (cJ, 64, .inr (.inl fC))), (pq, .inl (cI, 8, .inl fT))] sz) [(q, .inr (7, [.ref mq, .ref zq, .ref sq, .ref bq, .ref cq, .long sm, .ref pq, .int ps, .int u])), (mq, .inl (cZ, 12288, .inl fM)), (zq, .inl (cI, 3, .inl fS)), (sq, .inl (cI, 6156, .inl fP)), (bq, .inl (cI, 3, .inl fB)), (cq, .inl (cJ, 64, .inr (.inl fC))), (pq, .inl (cI, 8, .inl fT))]) (va_A [(q, .inr (7, [.ref mq, .ref zq, .ref sq, .ref bq, .ref cq, .long sm, .ref pq, .int ps, .int th])), (mq, .inl (cZ, 12288, .inl fM)), (zq, .inl (cI, 3, .inl fS)), (sq, .inl (cI, 6156, .inl fP)), (bq, .inl (cI, 3, .inl fB)), (cq, .inl (cJ, 64, .inr (.inl fC))), (pq, .inl (cI, 8, .inl fT))] sz)) 0 0 (va_A [(q, .inr (7, [.ref mq, .ref zq, .ref sq, .ref bq, .ref cq, .long sm, .ref pq, .int ps, .int th])), (mq, .inl (cZ, 12288, .inl fM)), (zq, .inl (cI, 3, .inl fS)), (sq, .inl (cI, 6156, .inl fP)), (bq, .inl (cI, 3, .inl fB)), (cq, .inl (cJ, 64, .inr (.inl fC))), (pq, .inl (cI, 8, .inl fT))] sz) := by
  refine Met.ofW (cc := cX8_predecessor) (maxL := 3) (ret := (some .int)) (by decide) rfl ?_
  intro p e s m args below meth c s₁ B hml hv
  obtain ⟨rfl, hsz, hP, hK, hD0⟩ := hv
  have hx := B.exec
  have hb := B.bytes
  have hr := B.returns
  have hts := atoms_spec (ws := wsX8_predecessor) B.pre
  have hown : s.vm.findClass RX8 = some m.cls := findClass_of_methodNamed B.named
  have hlocks := B.notSynchronized
  subst hsz
  have hD := hD0.self (sz := s.heap.size)
  generalize hAe : va_A [(q, .inr (7, [.ref mq, .ref zq, .ref sq, .ref bq, .ref cq, .long sm, .ref pq, .int ps, .int th])), (mq, .inl (cZ, 12288, .inl fM)), (zq, .inl (cI, 3, .inl fS)), (sq, .inl (cI, 6156, .inl fP)), (bq, .inl (cI, 3, .inl fB)), (cq, .inl (cJ, 64, .inr (.inl fC))), (pq, .inl (cI, 8, .inl fT))] s.heap.size = A at hD ⊢
  have hA : ∀ q : Nat, s.heap.size ≤ q → A q := fun q h => by rw [← hAe]; exact Or.inr h
  have hS : va_S A s.heap s.heap [] := va_S.rf
  have hP : va_P (dC, dI) vwCl [(q, .inr (7, [.ref mq, .ref zq, .ref sq, .ref bq, .ref cq, .long sm, .ref pq, .int ps, .int th])), (mq, .inl (cZ, 12288, .inl fM)), (zq, .inl (cI, 3, .inl fS)), (sq, .inl (cI, 6156, .inl fP)), (bq, .inl (cI, 3, .inl fB)), (cq, .inl (cJ, 64, .inr (.inl fC))), (pq, .inl (cI, 8, .inl fT))] s.heap := hP
  have hl := lv_entry ([.ref q, .int v, .int w0]) (n := 3) (Nat.le_of_ble_eq_true rfl)
  rw [lg_entry_eq]
  generalize (lg_sl ([.ref q, .int v, .int w0]) ++ List.replicate (3 - (lg_sl ([.ref q, .int v, .int w0])).length) Slot.unset).toArray = ls at hl ⊢
  have hl : lv_has ls 3 [(0, .ref q), (1, .int v), (2, .int w0)] := hl
  refine lv_aload_n hx hb dX8_predecessor_0 rfl (lv_at hl 0 rfl) ?_
  refine lv_iload_n hx hb dX8_predecessor_1 rfl (lv_at hl 1 rfl) ?_
  refine lv_iload_n hx hb dX8_predecessor_2 rfl (lv_at hl 2 rfl) ?_
  have hPc := hP.sub (ws' := [(q, .inr (7, [.ref mq, .ref zq, .ref sq, .ref bq, .ref cq, .long sm, .ref pq, .int ps, .int th])), (mq, .inl (cZ, 12288, .inl fM)), (zq, .inl (cI, 3, .inl fS)), (sq, .inl (cI, 6156, .inl fP)), (bq, .inl (cI, 3, .inl fB)), (cq, .inl (cJ, 64, .inr (.inl fC))), (pq, .inl (cI, 8, .inl fT))]) [0, 1, 2, 3, 4, 5, 6] rfl
  have hKc := hK.sub (tys' := [(cZ, .boolean), (cI, .int), (cJ, .long)]) [0, 1, 2] rfl
  have hDc := hD.sub (ws' := [(q, .inr (7, [.ref mq, .ref zq, .ref sq, .ref bq, .ref cq, .long sm, .ref pq, .int ps, .int th])), (mq, .inl (cZ, 12288, .inl fM)), (zq, .inl (cI, 3, .inl fS)), (sq, .inl (cI, 6156, .inl fP)), (bq, .inl (cI, 3, .inl fB)), (cq, .inl (cJ, 64, .inr (.inl fC))), (pq, .inl (cI, 8, .inl fT))]) [0, 1, 2, 3, 4, 5, 6] (by decide) rfl
  have hFc := va_free (wc := [(q, .inr (7, [.ref mq, .ref zq, .ref sq, .ref bq, .ref cq, .long sm, .ref pq, .int ps, .int th])), (mq, .inl (cZ, 12288, .inl fM)), (zq, .inl (cI, 3, .inl fS)), (sq, .inl (cI, 6156, .inl fP)), (bq, .inl (cI, 3, .inl fB)), (cq, .inl (cJ, 64, .inr (.inl fC))), (pq, .inl (cI, 8, .inl fT))]) hD hS hA [0, 1, 2, 3, 4, 5, 6] rfl
  refine va_calli (va_runV (As := [.int v, .int w0]) (rest := []) ⟨hx, hb, hml, hown, hts⟩ (c_X8_isRight l dC dI q mq zq sq bq cq pq cZ cI cJ fM fS fP fB fC sm fT ps th v w0 s.heap.size ) (cwV 2 hts gX8_predecessor_X8_isRight rfl rfl rfl (by decide +kernel) ⟨Nat.le_of_ble_eq_true rfl, Nat.le_of_ble_eq_true rfl⟩) ⟨fun a U g mk q => by obtain ⟨q0, q1, qP, qK, qD⟩ := q; exact ⟨q0, q1, qP, va_K.moved (u := U) (U := U.calling g mk a) (Vm.Alike.refl U.vm) qK, qD⟩, va_recv hKc hPc (ci := 7) (q0 := 0) rfl rfl, fun U hU hW => ⟨rfl, by rw [hU], by rw [hU]; exact hPc, va_K.moved hW.alike hKc, hDc.weaken (fun _ _ _ _ => trivial)⟩⟩ rfl rfl hl.1 rfl (lv_room (Nat.le_of_ble_eq_true rfl)) dX8_predecessor_3 ⟨Nat.le_of_ble_eq_true rfl, Nat.le_of_ble_eq_true rfl⟩) hS (fun q _ h => hFc q h) hFc (fun r_3 u_2 t9 H1 locs ht hvm hw_1 hB hz1 hk1 hS => ?_)
  obtain ⟨th'_4, rfl⟩ : ∃ z, z = u_2 := ⟨_, rfl⟩
  obtain ⟨hP1, hK1, hD1⟩ := hB
  rw [ht] at hP1
  have hK1 := va_K.moved hvm.symm hK1
  try dsimp only at hw_1 hP1 hK1 hD1
  obtain ⟨hP, hD⟩ := va_join (wr := []) (w1 := [(q, .inr (7, [.ref mq, .ref zq, .ref sq, .ref bq, .ref cq, .long sm, .ref pq, .int ps, .int th'_4])), (mq, .inl (cZ, 12288, .inl fM)), (zq, .inl (cI, 3, .inl fS)), (sq, .inl (cI, 6156, .inl fP)), (bq, .inl (cI, 3, .inl fB)), (cq, .inl (cJ, 64, .inr (.inl fC))), (pq, .inl (cI, 8, .inl fT))]) hP hD [0, 1, 2, 3, 4, 5, 6] [] rfl rfl (by decide) (by decide) hk1 hFc hP1 hD1
  generalize H1 = H at hP hS ⊢
  have hP : va_P (dC, dI) vwCl [(q, .inr (7, [.ref mq, .ref zq, .ref sq, .ref bq, .ref cq, .long sm, .ref pq, .int ps, .int th'_4])), (mq, .inl (cZ, 12288, .inl fM)), (zq, .inl (cI, 3, .inl fS)), (sq, .inl (cI, 6156, .inl fP)), (bq, .inl (cI, 3, .inl fB)), (cq, .inl (cJ, 64, .inr (.inl fC))), (pq, .inl (cI, 8, .inl fT))] H := hP
  have hD : va_D A [(q, .inr (7, [.ref mq, .ref zq, .ref sq, .ref bq, .ref cq, .long sm, .ref pq, .int ps, .int th'_4])), (mq, .inl (cZ, 12288, .inl fM)), (zq, .inl (cI, 3, .inl fS)), (sq, .inl (cI, 6156, .inl fP)), (bq, .inl (cI, 3, .inl fB)), (cq, .inl (cJ, 64, .inr (.inl fC))), (pq, .inl (cI, 8, .inl fT))] := hD
  obtain ⟨he, hw_1⟩ := hw_1
  subst he
  have hth : th'_4 = nI 1 := by rw [hw_1, hSf]; rfl
  refine lv_cvi (congrArg b2i (by rw [hSf] <;> rfl)) ?_
  refine lv_if_eq (tgt := 20) hx hb dX8_predecessor_6 (by decide) (fun qc_5 => ?_) (fun qc_5 => ?_)
  · have c_5 : false = false := b2i_f qc_5
    refine lv_iconst (v := nI 0) hx hb dX8_predecessor_20 (by decide +kernel) ?_
    have hP9 := hP.sub (ws' := [(q, .inr (7, [.ref mq, .ref zq, .ref sq, .ref bq, .ref cq, .long sm, .ref pq, .int ps, .int th'_4])), (mq, .inl (cZ, 12288, .inl fM)), (zq, .inl (cI, 3, .inl fS)), (sq, .inl (cI, 6156, .inl fP)), (bq, .inl (cI, 3, .inl fB)), (cq, .inl (cJ, 64, .inr (.inl fC))), (pq, .inl (cI, 8, .inl fT))]) [0, 1, 2, 3, 4, 5, 6] rfl
    have hD9 := hD.sub (ws' := [(q, .inr (7, [.ref mq, .ref zq, .ref sq, .ref bq, .ref cq, .long sm, .ref pq, .int ps, .int th'_4])), (mq, .inl (cZ, 12288, .inl fM)), (zq, .inl (cI, 3, .inl fS)), (sq, .inl (cI, 6156, .inl fP)), (bq, .inl (cI, 3, .inl fB)), (cq, .inl (cJ, 64, .inr (.inl fC))), (pq, .inl (cI, 8, .inl fT))]) [0, 1, 2, 3, 4, 5, 6] (by decide) rfl
    have hK9 := hK.sub (tys' := [(cZ, .boolean), (cI, .int), (cJ, .long)]) [0, 1, 2] rfl
    exact W.iret (v := nI 0) hx hb hr (fun t9 ht hW => ⟨⟨nI 0, th'_4, rfl, hth, by rw [ht]; exact hP9, va_K.moved hW.alike hK9, hD9⟩, hS.F ht⟩) hS.2.2 dX8_predecessor_21
  · have c_5 : false = true := b2i_t qc_5
    cases c_5
set_option maxHeartbeats 4000000 in
set_option maxRecDepth 100000 in
/-- reference: c_X8_predecessor_n -/
theorem c_X8_predecessor_n (l : Launch) (dC : Nat → ClassId) (dI : Nat → Nat → Nat) (q : Nat) (mq : Nat) (zq : Nat) (sq : Nat) (bq : Nat) (cq : Nat) (pq : Nat) (cZ : ClassId) (cI : ClassId) (cJ : ClassId) (fM : Nat → Int32) (fS : Nat → Int32) (fP : Nat → Int32) (fB : Nat → Int32) (fC : Nat → Int64) (sm : Int64) (fT : Nat → Int32) (ps : Int32) (th : Int32) (k : Nat) (w : Int32) (sz : Nat) (hk : k < 3) (hW : isN w = false) : Met l yX8_predecessor wsX8_predecessor ({ frames := 3, cells := 0, slots := 0, locals := 64 }) (va_Pc [.ref q, .int (nI k), .int w] (fun U => U.heap.size = sz ∧ va_P (dC, dI) vwCl [(q, .inr (7, [.ref mq, .ref zq, .ref sq, .ref bq, .ref cq, .long sm, .ref pq, .int ps, .int th])), (mq, .inl (cZ, 12288, .inl fM)), (zq, .inl (cI, 3, .inl fS)), (sq, .inl (cI, 6156, .inl fP)), (bq, .inl (cI, 3, .inl fB)), (cq, .inl (cJ, 64, .inr (.inl fC))), (pq, .inl (cI, 8, .inl fT))] U.heap ∧ va_K (dC, dI) vwCl [(cZ, .boolean), (cI, .int), (cJ, .long)] U ∧ va_D (fun _ => True) [(q, .inr (7, [.ref mq, .ref zq, .ref sq, .ref bq, .ref cq, .long sm, .ref pq, .int ps, .int th])), (mq, .inl (cZ, 12288, .inl fM)), (zq, .inl (cI, 3, .inl fS)), (sq, .inl (cI, 6156, .inl fP)), (bq, .inl (cI, 3, .inl fB)), (cq, .inl (cJ, 64, .inr (.inl fC))), (pq, .inl (cI, 8, .inl fT))])) (va_Qi (fun (r : Int32) (u : Int32) => u = nI 2) (fun (u : Int32) (t : State) => va_P (dC, dI) vwCl [(q, .inr (7, [.ref mq, .ref zq, .ref sq, .ref bq, .ref cq, .long sm, .ref pq, .int ps, .int u])), (mq, .inl (cZ, 12288, .inl fM)), (zq, .inl (cI, 3, .inl fS)), (sq, .inl (cI, 6156, .inl fP)), (bq, .inl (cI, 3, .inl fB)), (cq, .inl (cJ, 64, .inr (.inl fC))), (pq, .inl (cI, 8, .inl fT))] t.heap ∧ va_K (dC, dI) vwCl [(cZ, .boolean), (cI, .int), (cJ, .long)] t ∧ va_D (va_A [(q, .inr (7, [.ref mq, .ref zq, .ref sq, .ref bq, .ref cq, .long sm, .ref pq, .int ps, .int th])), (mq, .inl (cZ, 12288, .inl fM)), (zq, .inl (cI, 3, .inl fS)), (sq, .inl (cI, 6156, .inl fP)), (bq, .inl (cI, 3, .inl fB)), (cq, .inl (cJ, 64, .inr (.inl fC))), (pq, .inl (cI, 8, .inl fT))] sz) [(q, .inr (7, [.ref mq, .ref zq, .ref sq, .ref bq, .ref cq, .long sm, .ref pq, .int ps, .int u])), (mq, .inl (cZ, 12288, .inl fM)), (zq, .inl (cI, 3, .inl fS)), (sq, .inl (cI, 6156, .inl fP)), (bq, .inl (cI, 3, .inl fB)), (cq, .inl (cJ, 64, .inr (.inl fC))), (pq, .inl (cI, 8, .inl fT))]) (va_A [(q, .inr (7, [.ref mq, .ref zq, .ref sq, .ref bq, .ref cq, .long sm, .ref pq, .int ps, .int th])), (mq, .inl (cZ, 12288, .inl fM)), (zq, .inl (cI, 3, .inl fS)), (sq, .inl (cI, 6156, .inl fP)), (bq, .inl (cI, 3, .inl fB)), (cq, .inl (cJ, 64, .inr (.inl fC))), (pq, .inl (cI, 8, .inl fT))] sz)) 0 0 (va_A [(q, .inr (7, [.ref mq, .ref zq, .ref sq, .ref bq, .ref cq, .long sm, .ref pq, .int ps, .int th])), (mq, .inl (cZ, 12288, .inl fM)), (zq, .inl (cI, 3, .inl fS)), (sq, .inl (cI, 6156, .inl fP)), (bq, .inl (cI, 3, .inl fB)), (cq, .inl (cJ, 64, .inr (.inl fC))), (pq, .inl (cI, 8, .inl fT))] sz) := by
  refine Met.ofW (cc := cX8_predecessor) (maxL := 3) (ret := (some .int)) (by decide) rfl ?_
  intro p e s m args below meth c s₁ B hml hv
  obtain ⟨rfl, hsz, hP, hK, hD0⟩ := hv
  have hx := B.exec
  have hb := B.bytes
  have hr := B.returns
  have hts := atoms_spec (ws := wsX8_predecessor) B.pre
  have hown : s.vm.findClass RX8 = some m.cls := findClass_of_methodNamed B.named
  have hlocks := B.notSynchronized
  subst hsz
  have hD := hD0.self (sz := s.heap.size)
  generalize hAe : va_A [(q, .inr (7, [.ref mq, .ref zq, .ref sq, .ref bq, .ref cq, .long sm, .ref pq, .int ps, .int th])), (mq, .inl (cZ, 12288, .inl fM)), (zq, .inl (cI, 3, .inl fS)), (sq, .inl (cI, 6156, .inl fP)), (bq, .inl (cI, 3, .inl fB)), (cq, .inl (cJ, 64, .inr (.inl fC))), (pq, .inl (cI, 8, .inl fT))] s.heap.size = A at hD ⊢
  have hA : ∀ q : Nat, s.heap.size ≤ q → A q := fun q h => by rw [← hAe]; exact Or.inr h
  have hS : va_S A s.heap s.heap [] := va_S.rf
  have hP : va_P (dC, dI) vwCl [(q, .inr (7, [.ref mq, .ref zq, .ref sq, .ref bq, .ref cq, .long sm, .ref pq, .int ps, .int th])), (mq, .inl (cZ, 12288, .inl fM)), (zq, .inl (cI, 3, .inl fS)), (sq, .inl (cI, 6156, .inl fP)), (bq, .inl (cI, 3, .inl fB)), (cq, .inl (cJ, 64, .inr (.inl fC))), (pq, .inl (cI, 8, .inl fT))] s.heap := hP
  have hl := lv_entry ([.ref q, .int (nI k), .int w]) (n := 3) (Nat.le_of_ble_eq_true rfl)
  rw [lg_entry_eq]
  generalize (lg_sl ([.ref q, .int (nI k), .int w]) ++ List.replicate (3 - (lg_sl ([.ref q, .int (nI k), .int w])).length) Slot.unset).toArray = ls at hl ⊢
  have hl : lv_has ls 3 [(0, .ref q), (1, .int (nI k)), (2, .int w)] := hl
  refine lv_aload_n hx hb dX8_predecessor_0 rfl (lv_at hl 0 rfl) ?_
  refine lv_iload_n hx hb dX8_predecessor_1 rfl (lv_at hl 1 rfl) ?_
  refine lv_iload_n hx hb dX8_predecessor_2 rfl (lv_at hl 2 rfl) ?_
  have hPc := hP.sub (ws' := [(q, .inr (7, [.ref mq, .ref zq, .ref sq, .ref bq, .ref cq, .long sm, .ref pq, .int ps, .int th])), (mq, .inl (cZ, 12288, .inl fM)), (zq, .inl (cI, 3, .inl fS)), (sq, .inl (cI, 6156, .inl fP)), (bq, .inl (cI, 3, .inl fB)), (cq, .inl (cJ, 64, .inr (.inl fC))), (pq, .inl (cI, 8, .inl fT))]) [0, 1, 2, 3, 4, 5, 6] rfl
  have hKc := hK.sub (tys' := [(cZ, .boolean), (cI, .int), (cJ, .long)]) [0, 1, 2] rfl
  have hDc := hD.sub (ws' := [(q, .inr (7, [.ref mq, .ref zq, .ref sq, .ref bq, .ref cq, .long sm, .ref pq, .int ps, .int th])), (mq, .inl (cZ, 12288, .inl fM)), (zq, .inl (cI, 3, .inl fS)), (sq, .inl (cI, 6156, .inl fP)), (bq, .inl (cI, 3, .inl fB)), (cq, .inl (cJ, 64, .inr (.inl fC))), (pq, .inl (cI, 8, .inl fT))]) [0, 1, 2, 3, 4, 5, 6] (by decide) rfl
  have hFc := va_free (wc := [(q, .inr (7, [.ref mq, .ref zq, .ref sq, .ref bq, .ref cq, .long sm, .ref pq, .int ps, .int th])), (mq, .inl (cZ, 12288, .inl fM)), (zq, .inl (cI, 3, .inl fS)), (sq, .inl (cI, 6156, .inl fP)), (bq, .inl (cI, 3, .inl fB)), (cq, .inl (cJ, 64, .inr (.inl fC))), (pq, .inl (cI, 8, .inl fT))]) hD hS hA [0, 1, 2, 3, 4, 5, 6] rfl
  refine va_calli (va_runV (As := [.int (nI k), .int w]) (rest := []) ⟨hx, hb, hml, hown, hts⟩ (c_X8_isRight l dC dI q mq zq sq bq cq pq cZ cI cJ fM fS fP fB fC sm fT ps th (nI k) w s.heap.size ) (cwV 2 hts gX8_predecessor_X8_isRight rfl rfl rfl (by decide +kernel) ⟨Nat.le_of_ble_eq_true rfl, Nat.le_of_ble_eq_true rfl⟩) ⟨fun a U g mk q => by obtain ⟨q0, q1, qP, qK, qD⟩ := q; exact ⟨q0, q1, qP, va_K.moved (u := U) (U := U.calling g mk a) (Vm.Alike.refl U.vm) qK, qD⟩, va_recv hKc hPc (ci := 7) (q0 := 0) rfl rfl, fun U hU hW => ⟨rfl, by rw [hU], by rw [hU]; exact hPc, va_K.moved hW.alike hKc, hDc.weaken (fun _ _ _ _ => trivial)⟩⟩ rfl rfl hl.1 rfl (lv_room (Nat.le_of_ble_eq_true rfl)) dX8_predecessor_3 ⟨Nat.le_of_ble_eq_true rfl, Nat.le_of_ble_eq_true rfl⟩) hS (fun q _ h => hFc q h) hFc (fun r_3 u_2 t9 H1 locs ht hvm hw_1 hB hz1 hk1 hS => ?_)
  obtain ⟨th'_4, rfl⟩ : ∃ z, z = u_2 := ⟨_, rfl⟩
  obtain ⟨hP1, hK1, hD1⟩ := hB
  rw [ht] at hP1
  have hK1 := va_K.moved hvm.symm hK1
  try dsimp only at hw_1 hP1 hK1 hD1
  obtain ⟨hP, hD⟩ := va_join (wr := []) (w1 := [(q, .inr (7, [.ref mq, .ref zq, .ref sq, .ref bq, .ref cq, .long sm, .ref pq, .int ps, .int th'_4])), (mq, .inl (cZ, 12288, .inl fM)), (zq, .inl (cI, 3, .inl fS)), (sq, .inl (cI, 6156, .inl fP)), (bq, .inl (cI, 3, .inl fB)), (cq, .inl (cJ, 64, .inr (.inl fC))), (pq, .inl (cI, 8, .inl fT))]) hP hD [0, 1, 2, 3, 4, 5, 6] [] rfl rfl (by decide) (by decide) hk1 hFc hP1 hD1
  generalize H1 = H at hP hS ⊢
  have hP : va_P (dC, dI) vwCl [(q, .inr (7, [.ref mq, .ref zq, .ref sq, .ref bq, .ref cq, .long sm, .ref pq, .int ps, .int th'_4])), (mq, .inl (cZ, 12288, .inl fM)), (zq, .inl (cI, 3, .inl fS)), (sq, .inl (cI, 6156, .inl fP)), (bq, .inl (cI, 3, .inl fB)), (cq, .inl (cJ, 64, .inr (.inl fC))), (pq, .inl (cI, 8, .inl fT))] H := hP
  have hD : va_D A [(q, .inr (7, [.ref mq, .ref zq, .ref sq, .ref bq, .ref cq, .long sm, .ref pq, .int ps, .int th'_4])), (mq, .inl (cZ, 12288, .inl fM)), (zq, .inl (cI, 3, .inl fS)), (sq, .inl (cI, 6156, .inl fP)), (bq, .inl (cI, 3, .inl fB)), (cq, .inl (cJ, 64, .inr (.inl fC))), (pq, .inl (cI, 8, .inl fT))] := hD
  obtain ⟨he, hw_1⟩ := hw_1
  subst he
  have hth : th'_4 = nI 2 := by rw [hw_1, isS_t hk, hW]; rfl
  refine lv_cvi (congrArg b2i (by rw [isS_t hk, hW] <;> rfl)) ?_
  refine lv_if_eq (tgt := 20) hx hb dX8_predecessor_6 (by decide) (fun qc_5 => ?_) (fun qc_5 => ?_)
  · have c_5 : false = false := b2i_f qc_5
    refine lv_iconst (v := nI 0) hx hb dX8_predecessor_20 (by decide +kernel) ?_
    have hP9 := hP.sub (ws' := [(q, .inr (7, [.ref mq, .ref zq, .ref sq, .ref bq, .ref cq, .long sm, .ref pq, .int ps, .int th'_4])), (mq, .inl (cZ, 12288, .inl fM)), (zq, .inl (cI, 3, .inl fS)), (sq, .inl (cI, 6156, .inl fP)), (bq, .inl (cI, 3, .inl fB)), (cq, .inl (cJ, 64, .inr (.inl fC))), (pq, .inl (cI, 8, .inl fT))]) [0, 1, 2, 3, 4, 5, 6] rfl
    have hD9 := hD.sub (ws' := [(q, .inr (7, [.ref mq, .ref zq, .ref sq, .ref bq, .ref cq, .long sm, .ref pq, .int ps, .int th'_4])), (mq, .inl (cZ, 12288, .inl fM)), (zq, .inl (cI, 3, .inl fS)), (sq, .inl (cI, 6156, .inl fP)), (bq, .inl (cI, 3, .inl fB)), (cq, .inl (cJ, 64, .inr (.inl fC))), (pq, .inl (cI, 8, .inl fT))]) [0, 1, 2, 3, 4, 5, 6] (by decide) rfl
    have hK9 := hK.sub (tys' := [(cZ, .boolean), (cI, .int), (cJ, .long)]) [0, 1, 2] rfl
    exact W.iret (v := nI 0) hx hb hr (fun t9 ht hW => ⟨⟨nI 0, th'_4, rfl, hth, by rw [ht]; exact hP9, va_K.moved hW.alike hK9, hD9⟩, hS.F ht⟩) hS.2.2 dX8_predecessor_21
  · have c_5 : false = true := b2i_t qc_5
    cases c_5
set_option maxHeartbeats 4000000 in
set_option maxRecDepth 100000 in
/-- reference: c_X8_rank_v -/
theorem c_X8_rank_v (l : Launch) (dC : Nat → ClassId) (dI : Nat → Nat → Nat) (q : Nat) (mq : Nat) (zq : Nat) (sq : Nat) (bq : Nat) (cq : Nat) (pq : Nat) (cZ : ClassId) (cI : ClassId) (cJ : ClassId) (fM : Nat → Int32) (fS : Nat → Int32) (fP : Nat → Int32) (fB : Nat → Int32) (fC : Nat → Int64) (sm : Int64) (fT : Nat → Int32) (ps : Int32) (th : Int32) (M : Nat → Nat → Bool) (k : Nat) (x : Nat) (sz : Nat) (hM : MM fM M) (hk : k < 3) (hxx : x < 4096) : Met l yX8_rank wsX8_rank ({ frames := 3, cells := 0, slots := 0, locals := 64 }) (va_Pc [.ref q, .int (nI k), .int (nI x)] (fun U => U.heap.size = sz ∧ va_P (dC, dI) vwCl [(q, .inr (7, [.ref mq, .ref zq, .ref sq, .ref bq, .ref cq, .long sm, .ref pq, .int ps, .int th])), (mq, .inl (cZ, 12288, .inl fM)), (zq, .inl (cI, 3, .inl fS)), (sq, .inl (cI, 6156, .inl fP)), (bq, .inl (cI, 3, .inl fB)), (cq, .inl (cJ, 64, .inr (.inl fC))), (pq, .inl (cI, 8, .inl fT))] U.heap ∧ va_K (dC, dI) vwCl [(cZ, .boolean), (cI, .int), (cJ, .long)] U ∧ va_D (fun _ => True) [(q, .inr (7, [.ref mq, .ref zq, .ref sq, .ref bq, .ref cq, .long sm, .ref pq, .int ps, .int th])), (mq, .inl (cZ, 12288, .inl fM)), (zq, .inl (cI, 3, .inl fS)), (sq, .inl (cI, 6156, .inl fP)), (bq, .inl (cI, 3, .inl fB)), (cq, .inl (cJ, 64, .inr (.inl fC))), (pq, .inl (cI, 8, .inl fT))])) (va_Qi (fun (r : Int32) (u : Int32) => r = nI (fb_ct (M k) x) ∧ u = nI 0) (fun (u : Int32) (t : State) => va_P (dC, dI) vwCl [(q, .inr (7, [.ref mq, .ref zq, .ref sq, .ref bq, .ref cq, .long sm, .ref pq, .int ps, .int u])), (mq, .inl (cZ, 12288, .inl fM)), (zq, .inl (cI, 3, .inl fS)), (sq, .inl (cI, 6156, .inl fP)), (bq, .inl (cI, 3, .inl fB)), (cq, .inl (cJ, 64, .inr (.inl fC))), (pq, .inl (cI, 8, .inl fT))] t.heap ∧ va_K (dC, dI) vwCl [(cZ, .boolean), (cI, .int), (cJ, .long)] t ∧ va_D (va_A [(q, .inr (7, [.ref mq, .ref zq, .ref sq, .ref bq, .ref cq, .long sm, .ref pq, .int ps, .int th])), (mq, .inl (cZ, 12288, .inl fM)), (zq, .inl (cI, 3, .inl fS)), (sq, .inl (cI, 6156, .inl fP)), (bq, .inl (cI, 3, .inl fB)), (cq, .inl (cJ, 64, .inr (.inl fC))), (pq, .inl (cI, 8, .inl fT))] sz) [(q, .inr (7, [.ref mq, .ref zq, .ref sq, .ref bq, .ref cq, .long sm, .ref pq, .int ps, .int u])), (mq, .inl (cZ, 12288, .inl fM)), (zq, .inl (cI, 3, .inl fS)), (sq, .inl (cI, 6156, .inl fP)), (bq, .inl (cI, 3, .inl fB)), (cq, .inl (cJ, 64, .inr (.inl fC))), (pq, .inl (cI, 8, .inl fT))]) (va_A [(q, .inr (7, [.ref mq, .ref zq, .ref sq, .ref bq, .ref cq, .long sm, .ref pq, .int ps, .int th])), (mq, .inl (cZ, 12288, .inl fM)), (zq, .inl (cI, 3, .inl fS)), (sq, .inl (cI, 6156, .inl fP)), (bq, .inl (cI, 3, .inl fB)), (cq, .inl (cJ, 64, .inr (.inl fC))), (pq, .inl (cI, 8, .inl fT))] sz)) 0 0 (va_A [(q, .inr (7, [.ref mq, .ref zq, .ref sq, .ref bq, .ref cq, .long sm, .ref pq, .int ps, .int th])), (mq, .inl (cZ, 12288, .inl fM)), (zq, .inl (cI, 3, .inl fS)), (sq, .inl (cI, 6156, .inl fP)), (bq, .inl (cI, 3, .inl fB)), (cq, .inl (cJ, 64, .inr (.inl fC))), (pq, .inl (cI, 8, .inl fT))] sz) := by
  refine Met.ofW (cc := cX8_rank) (maxL := 3) (ret := (some .int)) (by decide) rfl ?_
  intro p e s m args below meth c s₁ B hml hv
  obtain ⟨rfl, hsz, hP, hK, hD0⟩ := hv
  have hx := B.exec
  have hb := B.bytes
  have hr := B.returns
  have hts := atoms_spec (ws := wsX8_rank) B.pre
  have hown : s.vm.findClass RX8 = some m.cls := findClass_of_methodNamed B.named
  have hlocks := B.notSynchronized
  subst hsz
  have hD := hD0.self (sz := s.heap.size)
  generalize hAe : va_A [(q, .inr (7, [.ref mq, .ref zq, .ref sq, .ref bq, .ref cq, .long sm, .ref pq, .int ps, .int th])), (mq, .inl (cZ, 12288, .inl fM)), (zq, .inl (cI, 3, .inl fS)), (sq, .inl (cI, 6156, .inl fP)), (bq, .inl (cI, 3, .inl fB)), (cq, .inl (cJ, 64, .inr (.inl fC))), (pq, .inl (cI, 8, .inl fT))] s.heap.size = A at hD ⊢
  have hA : ∀ q : Nat, s.heap.size ≤ q → A q := fun q h => by rw [← hAe]; exact Or.inr h
  have hS : va_S A s.heap s.heap [] := va_S.rf
  have hP : va_P (dC, dI) vwCl [(q, .inr (7, [.ref mq, .ref zq, .ref sq, .ref bq, .ref cq, .long sm, .ref pq, .int ps, .int th])), (mq, .inl (cZ, 12288, .inl fM)), (zq, .inl (cI, 3, .inl fS)), (sq, .inl (cI, 6156, .inl fP)), (bq, .inl (cI, 3, .inl fB)), (cq, .inl (cJ, 64, .inr (.inl fC))), (pq, .inl (cI, 8, .inl fT))] s.heap := hP
  have hl := lv_entry ([.ref q, .int (nI k), .int (nI x)]) (n := 3) (Nat.le_of_ble_eq_true rfl)
  rw [lg_entry_eq]
  generalize (lg_sl ([.ref q, .int (nI k), .int (nI x)]) ++ List.replicate (3 - (lg_sl ([.ref q, .int (nI k), .int (nI x)])).length) Slot.unset).toArray = ls at hl ⊢
  have hl : lv_has ls 3 [(0, .ref q), (1, .int (nI k)), (2, .int (nI x))] := hl
  refine lv_aload_n hx hb dX8_rank_0 rfl (lv_at hl 0 rfl) ?_
  refine lv_iload_n hx hb dX8_rank_1 rfl (lv_at hl 1 rfl) ?_
  refine lv_iload_n hx hb dX8_rank_2 rfl (lv_at hl 2 rfl) ?_
  have hPc := hP.sub (ws' := [(q, .inr (7, [.ref mq, .ref zq, .ref sq, .ref bq, .ref cq, .long sm, .ref pq, .int ps, .int th])), (mq, .inl (cZ, 12288, .inl fM)), (zq, .inl (cI, 3, .inl fS)), (sq, .inl (cI, 6156, .inl fP)), (bq, .inl (cI, 3, .inl fB)), (cq, .inl (cJ, 64, .inr (.inl fC))), (pq, .inl (cI, 8, .inl fT))]) [0, 1, 2, 3, 4, 5, 6] rfl
  have hKc := hK.sub (tys' := [(cZ, .boolean), (cI, .int), (cJ, .long)]) [0, 1, 2] rfl
  have hDc := hD.sub (ws' := [(q, .inr (7, [.ref mq, .ref zq, .ref sq, .ref bq, .ref cq, .long sm, .ref pq, .int ps, .int th])), (mq, .inl (cZ, 12288, .inl fM)), (zq, .inl (cI, 3, .inl fS)), (sq, .inl (cI, 6156, .inl fP)), (bq, .inl (cI, 3, .inl fB)), (cq, .inl (cJ, 64, .inr (.inl fC))), (pq, .inl (cI, 8, .inl fT))]) [0, 1, 2, 3, 4, 5, 6] (by decide) rfl
  have hFc := va_free (wc := [(q, .inr (7, [.ref mq, .ref zq, .ref sq, .ref bq, .ref cq, .long sm, .ref pq, .int ps, .int th])), (mq, .inl (cZ, 12288, .inl fM)), (zq, .inl (cI, 3, .inl fS)), (sq, .inl (cI, 6156, .inl fP)), (bq, .inl (cI, 3, .inl fB)), (cq, .inl (cJ, 64, .inr (.inl fC))), (pq, .inl (cI, 8, .inl fT))]) hD hS hA [0, 1, 2, 3, 4, 5, 6] rfl
  refine va_calli (va_runV (As := [.int (nI k), .int (nI x)]) (rest := []) ⟨hx, hb, hml, hown, hts⟩ (c_X8_isRight l dC dI q mq zq sq bq cq pq cZ cI cJ fM fS fP fB fC sm fT ps th (nI k) (nI x) s.heap.size ) (cwV 2 hts gX8_rank_X8_isRight rfl rfl rfl (by decide +kernel) ⟨Nat.le_of_ble_eq_true rfl, Nat.le_of_ble_eq_true rfl⟩) ⟨fun a U g mk q => by obtain ⟨q0, q1, qP, qK, qD⟩ := q; exact ⟨q0, q1, qP, va_K.moved (u := U) (U := U.calling g mk a) (Vm.Alike.refl U.vm) qK, qD⟩, va_recv hKc hPc (ci := 7) (q0 := 0) rfl rfl, fun U hU hW => ⟨rfl, by rw [hU], by rw [hU]; exact hPc, va_K.moved hW.alike hKc, hDc.weaken (fun _ _ _ _ => trivial)⟩⟩ rfl rfl hl.1 rfl (lv_room (Nat.le_of_ble_eq_true rfl)) dX8_rank_3 ⟨Nat.le_of_ble_eq_true rfl, Nat.le_of_ble_eq_true rfl⟩) hS (fun q _ h => hFc q h) hFc (fun r_3 u_2 t9 H1 locs ht hvm hw_1 hB hz1 hk1 hS => ?_)
  obtain ⟨th'_4, rfl⟩ : ∃ z, z = u_2 := ⟨_, rfl⟩
  obtain ⟨hP1, hK1, hD1⟩ := hB
  rw [ht] at hP1
  have hK1 := va_K.moved hvm.symm hK1
  try dsimp only at hw_1 hP1 hK1 hD1
  obtain ⟨hP, hD⟩ := va_join (wr := []) (w1 := [(q, .inr (7, [.ref mq, .ref zq, .ref sq, .ref bq, .ref cq, .long sm, .ref pq, .int ps, .int th'_4])), (mq, .inl (cZ, 12288, .inl fM)), (zq, .inl (cI, 3, .inl fS)), (sq, .inl (cI, 6156, .inl fP)), (bq, .inl (cI, 3, .inl fB)), (cq, .inl (cJ, 64, .inr (.inl fC))), (pq, .inl (cI, 8, .inl fT))]) hP hD [0, 1, 2, 3, 4, 5, 6] [] rfl rfl (by decide) (by decide) hk1 hFc hP1 hD1
  generalize H1 = H at hP hS ⊢
  have hP : va_P (dC, dI) vwCl [(q, .inr (7, [.ref mq, .ref zq, .ref sq, .ref bq, .ref cq, .long sm, .ref pq, .int ps, .int th'_4])), (mq, .inl (cZ, 12288, .inl fM)), (zq, .inl (cI, 3, .inl fS)), (sq, .inl (cI, 6156, .inl fP)), (bq, .inl (cI, 3, .inl fB)), (cq, .inl (cJ, 64, .inr (.inl fC))), (pq, .inl (cI, 8, .inl fT))] H := hP
  have hD : va_D A [(q, .inr (7, [.ref mq, .ref zq, .ref sq, .ref bq, .ref cq, .long sm, .ref pq, .int ps, .int th'_4])), (mq, .inl (cZ, 12288, .inl fM)), (zq, .inl (cI, 3, .inl fS)), (sq, .inl (cI, 6156, .inl fP)), (bq, .inl (cI, 3, .inl fB)), (cq, .inl (cJ, 64, .inr (.inl fC))), (pq, .inl (cI, 8, .inl fT))] := hD
  obtain ⟨he, hw_1⟩ := hw_1
  subst he
  have hth : th'_4 = nI 0 := by rw [hw_1, isS_t hk, isN_t hxx]; rfl
  refine lv_cvi (congrArg b2i (by rw [isS_t hk, isN_t hxx] <;> rfl)) ?_
  refine lv_if_eq (tgt := 18) hx hb dX8_rank_6 (by decide) (fun qc_5 => ?_) (fun qc_5 => ?_)
  · have c_5 : true = false := b2i_f qc_5
    cases c_5
  · have c_5 : true = true := b2i_t qc_5
    refine lv_aload_n hx hb dX8_rank_9 rfl (lv_at hl 0 rfl) ?_
    refine lv_iload_n hx hb dX8_rank_10 rfl (lv_at hl 1 rfl) ?_
    refine lv_iload_n hx hb dX8_rank_11 rfl (lv_at hl 2 rfl) ?_
    have hPc := hP.sub (ws' := [(q, .inr (7, [.ref mq, .ref zq, .ref sq, .ref bq, .ref cq, .long sm, .ref pq, .int ps, .int th'_4])), (mq, .inl (cZ, 12288, .inl fM)), (zq, .inl (cI, 3, .inl fS)), (sq, .inl (cI, 6156, .inl fP)), (bq, .inl (cI, 3, .inl fB)), (cq, .inl (cJ, 64, .inr (.inl fC))), (pq, .inl (cI, 8, .inl fT))]) [0, 1, 2, 3, 4, 5, 6] rfl
    have hKc := hK.sub (tys' := [(cZ, .boolean), (cI, .int), (cJ, .long)]) [0, 1, 2] rfl
    refine vp_callSi (W.runV (As := [.int (nI k), .int (nI x)]) (rest := []) ⟨hx, hb, hml, hown, hts⟩ (c_X8_before l dC dI q mq zq sq bq cq pq cZ cI cJ fM fS fP fB fC sm fT ps th'_4 M k x (by first | assumption | omega) (by first | assumption | omega) (by first | assumption | omega)) (cwV 2 hts gX8_rank_X8_before rfl rfl rfl (by decide +kernel) ⟨Nat.le_of_ble_eq_true rfl, Nat.le_of_ble_eq_true rfl⟩) ⟨fun a U g mk q => by obtain ⟨q0, qP, qK⟩ := q; exact ⟨q0, qP, va_K.moved (u := U) (U := U.calling g mk a) (Vm.Alike.refl U.vm) qK⟩, va_recv hKc hPc (ci := 7) (q0 := 0) rfl rfl, fun U hU hW => ⟨rfl, by rw [hU]; exact hPc, va_K.moved hW.alike hKc⟩⟩ rfl rfl hl.1 rfl (lv_room (Nat.le_of_ble_eq_true rfl)) dX8_rank_12 ⟨Nat.le_of_ble_eq_true rfl, Nat.le_of_ble_eq_true rfl⟩) (fun r_7 hw_6 => ?_)
    subst hw_6
    refine lv_goto (tgt := 19) hx hb dX8_rank_15 (by decide) ?_
    have hP9 := hP.sub (ws' := [(q, .inr (7, [.ref mq, .ref zq, .ref sq, .ref bq, .ref cq, .long sm, .ref pq, .int ps, .int th'_4])), (mq, .inl (cZ, 12288, .inl fM)), (zq, .inl (cI, 3, .inl fS)), (sq, .inl (cI, 6156, .inl fP)), (bq, .inl (cI, 3, .inl fB)), (cq, .inl (cJ, 64, .inr (.inl fC))), (pq, .inl (cI, 8, .inl fT))]) [0, 1, 2, 3, 4, 5, 6] rfl
    have hD9 := hD.sub (ws' := [(q, .inr (7, [.ref mq, .ref zq, .ref sq, .ref bq, .ref cq, .long sm, .ref pq, .int ps, .int th'_4])), (mq, .inl (cZ, 12288, .inl fM)), (zq, .inl (cI, 3, .inl fS)), (sq, .inl (cI, 6156, .inl fP)), (bq, .inl (cI, 3, .inl fB)), (cq, .inl (cJ, 64, .inr (.inl fC))), (pq, .inl (cI, 8, .inl fT))]) [0, 1, 2, 3, 4, 5, 6] (by decide) rfl
    have hK9 := hK.sub (tys' := [(cZ, .boolean), (cI, .int), (cJ, .long)]) [0, 1, 2] rfl
    exact W.iret (v := nI (fb_ct (M k) x)) hx hb hr (fun t9 ht hW => ⟨⟨nI (fb_ct (M k) x), th'_4, rfl, ⟨rfl, hth⟩, by rw [ht]; exact hP9, va_K.moved hW.alike hK9, hD9⟩, hS.F ht⟩) hS.2.2 dX8_rank_19
set_option maxHeartbeats 4000000 in
set_option maxRecDepth 100000 in
/-- reference: c_X8_rank_s -/
theorem c_X8_rank_s (l : Launch) (dC : Nat → ClassId) (dI : Nat → Nat → Nat) (q : Nat) (mq : Nat) (zq : Nat) (sq : Nat) (bq : Nat) (cq : Nat) (pq : Nat) (cZ : ClassId) (cI : ClassId) (cJ : ClassId) (fM : Nat → Int32) (fS : Nat → Int32) (fP : Nat → Int32) (fB : Nat → Int32) (fC : Nat → Int64) (sm : Int64) (fT : Nat → Int32) (ps : Int32) (th : Int32) (v : Int32) (w0 : Int32) (sz : Nat) (hSf : isS v = false) : Met l yX8_rank wsX8_rank ({ frames := 3, cells := 0, slots := 0, locals := 64 }) (va_Pc [.ref q, .int v, .int w0] (fun U => U.heap.size = sz ∧ va_P (dC, dI) vwCl [(q, .inr (7, [.ref mq, .ref zq, .ref sq, .ref bq, .ref cq, .long sm, .ref pq, .int ps, .int th])), (mq, .inl (cZ, 12288, .inl fM)), (zq, .inl (cI, 3, .inl fS)), (sq, .inl (cI, 6156, .inl fP)), (bq, .inl (cI, 3, .inl fB)), (cq, .inl (cJ, 64, .inr (.inl fC))), (pq, .inl (cI, 8, .inl fT))] U.heap ∧ va_K (dC, dI) vwCl [(cZ, .boolean), (cI, .int), (cJ, .long)] U ∧ va_D (fun _ => True) [(q, .inr (7, [.ref mq, .ref zq, .ref sq, .ref bq, .ref cq, .long sm, .ref pq, .int ps, .int th])), (mq, .inl (cZ, 12288, .inl fM)), (zq, .inl (cI, 3, .inl fS)), (sq, .inl (cI, 6156, .inl fP)), (bq, .inl (cI, 3, .inl fB)), (cq, .inl (cJ, 64, .inr (.inl fC))), (pq, .inl (cI, 8, .inl fT))])) (va_Qi (fun (r : Int32) (u : Int32) => u = nI 1) (fun (u : Int32) (t : State) => va_P (dC, dI) vwCl [(q, .inr (7, [.ref mq, .ref zq, .ref sq, .ref bq, .ref cq, .long sm, .ref pq, .int ps, .int u])), (mq, .inl (cZ, 12288, .inl fM)), (zq, .inl (cI, 3, .inl fS)), (sq, .inl (cI, 6156, .inl fP)), (bq, .inl (cI, 3, .inl fB)), (cq, .inl (cJ, 64, .inr (.inl fC))), (pq, .inl (cI, 8, .inl fT))] t.heap ∧ va_K (dC, dI) vwCl [(cZ, .boolean), (cI, .int), (cJ, .long)] t ∧ va_D (va_A [(q, .inr (7, [.ref mq, .ref zq, .ref sq, .ref bq, .ref cq, .long sm, .ref pq, .int ps, .int th])), (mq, .inl (cZ, 12288, .inl fM)), (zq, .inl (cI, 3, .inl fS)), (sq, .inl (cI, 6156, .inl fP)), (bq, .inl (cI, 3, .inl fB)), (cq, .inl (cJ, 64, .inr (.inl fC))), (pq, .inl (cI, 8, .inl fT))] sz) [(q, .inr (7, [.ref mq, .ref zq, .ref sq, .ref bq, .ref cq, .long sm, .ref pq, .int ps, .int u])), (mq, .inl (cZ, 12288, .inl fM)), (zq, .inl (cI, 3, .inl fS)), (sq, .inl (cI, 6156, .inl fP)), (bq, .inl (cI, 3, .inl fB)), (cq, .inl (cJ, 64, .inr (.inl fC))), (pq, .inl (cI, 8, .inl fT))]) (va_A [(q, .inr (7, [.ref mq, .ref zq, .ref sq, .ref bq, .ref cq, .long sm, .ref pq, .int ps, .int th])), (mq, .inl (cZ, 12288, .inl fM)), (zq, .inl (cI, 3, .inl fS)), (sq, .inl (cI, 6156, .inl fP)), (bq, .inl (cI, 3, .inl fB)), (cq, .inl (cJ, 64, .inr (.inl fC))), (pq, .inl (cI, 8, .inl fT))] sz)) 0 0 (va_A [(q, .inr (7, [.ref mq, .ref zq, .ref sq, .ref bq, .ref cq, .long sm, .ref pq, .int ps, .int th])), (mq, .inl (cZ, 12288, .inl fM)), (zq, .inl (cI, 3, .inl fS)), (sq, .inl (cI, 6156, .inl fP)), (bq, .inl (cI, 3, .inl fB)), (cq, .inl (cJ, 64, .inr (.inl fC))), (pq, .inl (cI, 8, .inl fT))] sz) := by
  refine Met.ofW (cc := cX8_rank) (maxL := 3) (ret := (some .int)) (by decide) rfl ?_
  intro p e s m args below meth c s₁ B hml hv
  obtain ⟨rfl, hsz, hP, hK, hD0⟩ := hv
  have hx := B.exec
  have hb := B.bytes
  have hr := B.returns
  have hts := atoms_spec (ws := wsX8_rank) B.pre
  have hown : s.vm.findClass RX8 = some m.cls := findClass_of_methodNamed B.named
  have hlocks := B.notSynchronized
  subst hsz
  have hD := hD0.self (sz := s.heap.size)
  generalize hAe : va_A [(q, .inr (7, [.ref mq, .ref zq, .ref sq, .ref bq, .ref cq, .long sm, .ref pq, .int ps, .int th])), (mq, .inl (cZ, 12288, .inl fM)), (zq, .inl (cI, 3, .inl fS)), (sq, .inl (cI, 6156, .inl fP)), (bq, .inl (cI, 3, .inl fB)), (cq, .inl (cJ, 64, .inr (.inl fC))), (pq, .inl (cI, 8, .inl fT))] s.heap.size = A at hD ⊢
  have hA : ∀ q : Nat, s.heap.size ≤ q → A q := fun q h => by rw [← hAe]; exact Or.inr h
  have hS : va_S A s.heap s.heap [] := va_S.rf
  have hP : va_P (dC, dI) vwCl [(q, .inr (7, [.ref mq, .ref zq, .ref sq, .ref bq, .ref cq, .long sm, .ref pq, .int ps, .int th])), (mq, .inl (cZ, 12288, .inl fM)), (zq, .inl (cI, 3, .inl fS)), (sq, .inl (cI, 6156, .inl fP)), (bq, .inl (cI, 3, .inl fB)), (cq, .inl (cJ, 64, .inr (.inl fC))), (pq, .inl (cI, 8, .inl fT))] s.heap := hP
  have hl := lv_entry ([.ref q, .int v, .int w0]) (n := 3) (Nat.le_of_ble_eq_true rfl)
  rw [lg_entry_eq]
  generalize (lg_sl ([.ref q, .int v, .int w0]) ++ List.replicate (3 - (lg_sl ([.ref q, .int v, .int w0])).length) Slot.unset).toArray = ls at hl ⊢
  have hl : lv_has ls 3 [(0, .ref q), (1, .int v), (2, .int w0)] := hl
  refine lv_aload_n hx hb dX8_rank_0 rfl (lv_at hl 0 rfl) ?_
  refine lv_iload_n hx hb dX8_rank_1 rfl (lv_at hl 1 rfl) ?_
  refine lv_iload_n hx hb dX8_rank_2 rfl (lv_at hl 2 rfl) ?_
  have hPc := hP.sub (ws' := [(q, .inr (7, [.ref mq, .ref zq, .ref sq, .ref bq, .ref cq, .long sm, .ref pq, .int ps, .int th])), (mq, .inl (cZ, 12288, .inl fM)), (zq, .inl (cI, 3, .inl fS)), (sq, .inl (cI, 6156, .inl fP)), (bq, .inl (cI, 3, .inl fB)), (cq, .inl (cJ, 64, .inr (.inl fC))), (pq, .inl (cI, 8, .inl fT))]) [0, 1, 2, 3, 4, 5, 6] rfl
  have hKc := hK.sub (tys' := [(cZ, .boolean), (cI, .int), (cJ, .long)]) [0, 1, 2] rfl
  have hDc := hD.sub (ws' := [(q, .inr (7, [.ref mq, .ref zq, .ref sq, .ref bq, .ref cq, .long sm, .ref pq, .int ps, .int th])), (mq, .inl (cZ, 12288, .inl fM)), (zq, .inl (cI, 3, .inl fS)), (sq, .inl (cI, 6156, .inl fP)), (bq, .inl (cI, 3, .inl fB)), (cq, .inl (cJ, 64, .inr (.inl fC))), (pq, .inl (cI, 8, .inl fT))]) [0, 1, 2, 3, 4, 5, 6] (by decide) rfl
  have hFc := va_free (wc := [(q, .inr (7, [.ref mq, .ref zq, .ref sq, .ref bq, .ref cq, .long sm, .ref pq, .int ps, .int th])), (mq, .inl (cZ, 12288, .inl fM)), (zq, .inl (cI, 3, .inl fS)), (sq, .inl (cI, 6156, .inl fP)), (bq, .inl (cI, 3, .inl fB)), (cq, .inl (cJ, 64, .inr (.inl fC))), (pq, .inl (cI, 8, .inl fT))]) hD hS hA [0, 1, 2, 3, 4, 5, 6] rfl
  refine va_calli (va_runV (As := [.int v, .int w0]) (rest := []) ⟨hx, hb, hml, hown, hts⟩ (c_X8_isRight l dC dI q mq zq sq bq cq pq cZ cI cJ fM fS fP fB fC sm fT ps th v w0 s.heap.size ) (cwV 2 hts gX8_rank_X8_isRight rfl rfl rfl (by decide +kernel) ⟨Nat.le_of_ble_eq_true rfl, Nat.le_of_ble_eq_true rfl⟩) ⟨fun a U g mk q => by obtain ⟨q0, q1, qP, qK, qD⟩ := q; exact ⟨q0, q1, qP, va_K.moved (u := U) (U := U.calling g mk a) (Vm.Alike.refl U.vm) qK, qD⟩, va_recv hKc hPc (ci := 7) (q0 := 0) rfl rfl, fun U hU hW => ⟨rfl, by rw [hU], by rw [hU]; exact hPc, va_K.moved hW.alike hKc, hDc.weaken (fun _ _ _ _ => trivial)⟩⟩ rfl rfl hl.1 rfl (lv_room (Nat.le_of_ble_eq_true rfl)) dX8_rank_3 ⟨Nat.le_of_ble_eq_true rfl, Nat.le_of_ble_eq_true rfl⟩) hS (fun q _ h => hFc q h) hFc (fun r_3 u_2 t9 H1 locs ht hvm hw_1 hB hz1 hk1 hS => ?_)
  obtain ⟨th'_4, rfl⟩ : ∃ z, z = u_2 := ⟨_, rfl⟩
  obtain ⟨hP1, hK1, hD1⟩ := hB
  rw [ht] at hP1
  have hK1 := va_K.moved hvm.symm hK1
  try dsimp only at hw_1 hP1 hK1 hD1
  obtain ⟨hP, hD⟩ := va_join (wr := []) (w1 := [(q, .inr (7, [.ref mq, .ref zq, .ref sq, .ref bq, .ref cq, .long sm, .ref pq, .int ps, .int th'_4])), (mq, .inl (cZ, 12288, .inl fM)), (zq, .inl (cI, 3, .inl fS)), (sq, .inl (cI, 6156, .inl fP)), (bq, .inl (cI, 3, .inl fB)), (cq, .inl (cJ, 64, .inr (.inl fC))), (pq, .inl (cI, 8, .inl fT))]) hP hD [0, 1, 2, 3, 4, 5, 6] [] rfl rfl (by decide) (by decide) hk1 hFc hP1 hD1
  generalize H1 = H at hP hS ⊢
  have hP : va_P (dC, dI) vwCl [(q, .inr (7, [.ref mq, .ref zq, .ref sq, .ref bq, .ref cq, .long sm, .ref pq, .int ps, .int th'_4])), (mq, .inl (cZ, 12288, .inl fM)), (zq, .inl (cI, 3, .inl fS)), (sq, .inl (cI, 6156, .inl fP)), (bq, .inl (cI, 3, .inl fB)), (cq, .inl (cJ, 64, .inr (.inl fC))), (pq, .inl (cI, 8, .inl fT))] H := hP
  have hD : va_D A [(q, .inr (7, [.ref mq, .ref zq, .ref sq, .ref bq, .ref cq, .long sm, .ref pq, .int ps, .int th'_4])), (mq, .inl (cZ, 12288, .inl fM)), (zq, .inl (cI, 3, .inl fS)), (sq, .inl (cI, 6156, .inl fP)), (bq, .inl (cI, 3, .inl fB)), (cq, .inl (cJ, 64, .inr (.inl fC))), (pq, .inl (cI, 8, .inl fT))] := hD
  obtain ⟨he, hw_1⟩ := hw_1
  subst he
  have hth : th'_4 = nI 1 := by rw [hw_1, hSf]; rfl
  refine lv_cvi (congrArg b2i (by rw [hSf] <;> rfl)) ?_
  refine lv_if_eq (tgt := 18) hx hb dX8_rank_6 (by decide) (fun qc_5 => ?_) (fun qc_5 => ?_)
  · have c_5 : false = false := b2i_f qc_5
    refine lv_iconst (v := nI 0) hx hb dX8_rank_18 (by decide +kernel) ?_
    have hP9 := hP.sub (ws' := [(q, .inr (7, [.ref mq, .ref zq, .ref sq, .ref bq, .ref cq, .long sm, .ref pq, .int ps, .int th'_4])), (mq, .inl (cZ, 12288, .inl fM)), (zq, .inl (cI, 3, .inl fS)), (sq, .inl (cI, 6156, .inl fP)), (bq, .inl (cI, 3, .inl fB)), (cq, .inl (cJ, 64, .inr (.inl fC))), (pq, .inl (cI, 8, .inl fT))]) [0, 1, 2, 3, 4, 5, 6] rfl
    have hD9 := hD.sub (ws' := [(q, .inr (7, [.ref mq, .ref zq, .ref sq, .ref bq, .ref cq, .long sm, .ref pq, .int ps, .int th'_4])), (mq, .inl (cZ, 12288, .inl fM)), (zq, .inl (cI, 3, .inl fS)), (sq, .inl (cI, 6156, .inl fP)), (bq, .inl (cI, 3, .inl fB)), (cq, .inl (cJ, 64, .inr (.inl fC))), (pq, .inl (cI, 8, .inl fT))]) [0, 1, 2, 3, 4, 5, 6] (by decide) rfl
    have hK9 := hK.sub (tys' := [(cZ, .boolean), (cI, .int), (cJ, .long)]) [0, 1, 2] rfl
    exact W.iret (v := nI 0) hx hb hr (fun t9 ht hW => ⟨⟨nI 0, th'_4, rfl, hth, by rw [ht]; exact hP9, va_K.moved hW.alike hK9, hD9⟩, hS.F ht⟩) hS.2.2 dX8_rank_19
  · have c_5 : false = true := b2i_t qc_5
    cases c_5
set_option maxHeartbeats 4000000 in
set_option maxRecDepth 100000 in
/-- reference: c_X8_rank_n -/
theorem c_X8_rank_n (l : Launch) (dC : Nat → ClassId) (dI : Nat → Nat → Nat) (q : Nat) (mq : Nat) (zq : Nat) (sq : Nat) (bq : Nat) (cq : Nat) (pq : Nat) (cZ : ClassId) (cI : ClassId) (cJ : ClassId) (fM : Nat → Int32) (fS : Nat → Int32) (fP : Nat → Int32) (fB : Nat → Int32) (fC : Nat → Int64) (sm : Int64) (fT : Nat → Int32) (ps : Int32) (th : Int32) (k : Nat) (w : Int32) (sz : Nat) (hk : k < 3) (hW : isN w = false) : Met l yX8_rank wsX8_rank ({ frames := 3, cells := 0, slots := 0, locals := 64 }) (va_Pc [.ref q, .int (nI k), .int w] (fun U => U.heap.size = sz ∧ va_P (dC, dI) vwCl [(q, .inr (7, [.ref mq, .ref zq, .ref sq, .ref bq, .ref cq, .long sm, .ref pq, .int ps, .int th])), (mq, .inl (cZ, 12288, .inl fM)), (zq, .inl (cI, 3, .inl fS)), (sq, .inl (cI, 6156, .inl fP)), (bq, .inl (cI, 3, .inl fB)), (cq, .inl (cJ, 64, .inr (.inl fC))), (pq, .inl (cI, 8, .inl fT))] U.heap ∧ va_K (dC, dI) vwCl [(cZ, .boolean), (cI, .int), (cJ, .long)] U ∧ va_D (fun _ => True) [(q, .inr (7, [.ref mq, .ref zq, .ref sq, .ref bq, .ref cq, .long sm, .ref pq, .int ps, .int th])), (mq, .inl (cZ, 12288, .inl fM)), (zq, .inl (cI, 3, .inl fS)), (sq, .inl (cI, 6156, .inl fP)), (bq, .inl (cI, 3, .inl fB)), (cq, .inl (cJ, 64, .inr (.inl fC))), (pq, .inl (cI, 8, .inl fT))])) (va_Qi (fun (r : Int32) (u : Int32) => u = nI 2) (fun (u : Int32) (t : State) => va_P (dC, dI) vwCl [(q, .inr (7, [.ref mq, .ref zq, .ref sq, .ref bq, .ref cq, .long sm, .ref pq, .int ps, .int u])), (mq, .inl (cZ, 12288, .inl fM)), (zq, .inl (cI, 3, .inl fS)), (sq, .inl (cI, 6156, .inl fP)), (bq, .inl (cI, 3, .inl fB)), (cq, .inl (cJ, 64, .inr (.inl fC))), (pq, .inl (cI, 8, .inl fT))] t.heap ∧ va_K (dC, dI) vwCl [(cZ, .boolean), (cI, .int), (cJ, .long)] t ∧ va_D (va_A [(q, .inr (7, [.ref mq, .ref zq, .ref sq, .ref bq, .ref cq, .long sm, .ref pq, .int ps, .int th])), (mq, .inl (cZ, 12288, .inl fM)), (zq, .inl (cI, 3, .inl fS)), (sq, .inl (cI, 6156, .inl fP)), (bq, .inl (cI, 3, .inl fB)), (cq, .inl (cJ, 64, .inr (.inl fC))), (pq, .inl (cI, 8, .inl fT))] sz) [(q, .inr (7, [.ref mq, .ref zq, .ref sq, .ref bq, .ref cq, .long sm, .ref pq, .int ps, .int u])), (mq, .inl (cZ, 12288, .inl fM)), (zq, .inl (cI, 3, .inl fS)), (sq, .inl (cI, 6156, .inl fP)), (bq, .inl (cI, 3, .inl fB)), (cq, .inl (cJ, 64, .inr (.inl fC))), (pq, .inl (cI, 8, .inl fT))]) (va_A [(q, .inr (7, [.ref mq, .ref zq, .ref sq, .ref bq, .ref cq, .long sm, .ref pq, .int ps, .int th])), (mq, .inl (cZ, 12288, .inl fM)), (zq, .inl (cI, 3, .inl fS)), (sq, .inl (cI, 6156, .inl fP)), (bq, .inl (cI, 3, .inl fB)), (cq, .inl (cJ, 64, .inr (.inl fC))), (pq, .inl (cI, 8, .inl fT))] sz)) 0 0 (va_A [(q, .inr (7, [.ref mq, .ref zq, .ref sq, .ref bq, .ref cq, .long sm, .ref pq, .int ps, .int th])), (mq, .inl (cZ, 12288, .inl fM)), (zq, .inl (cI, 3, .inl fS)), (sq, .inl (cI, 6156, .inl fP)), (bq, .inl (cI, 3, .inl fB)), (cq, .inl (cJ, 64, .inr (.inl fC))), (pq, .inl (cI, 8, .inl fT))] sz) := by
  refine Met.ofW (cc := cX8_rank) (maxL := 3) (ret := (some .int)) (by decide) rfl ?_
  intro p e s m args below meth c s₁ B hml hv
  obtain ⟨rfl, hsz, hP, hK, hD0⟩ := hv
  have hx := B.exec
  have hb := B.bytes
  have hr := B.returns
  have hts := atoms_spec (ws := wsX8_rank) B.pre
  have hown : s.vm.findClass RX8 = some m.cls := findClass_of_methodNamed B.named
  have hlocks := B.notSynchronized
  subst hsz
  have hD := hD0.self (sz := s.heap.size)
  generalize hAe : va_A [(q, .inr (7, [.ref mq, .ref zq, .ref sq, .ref bq, .ref cq, .long sm, .ref pq, .int ps, .int th])), (mq, .inl (cZ, 12288, .inl fM)), (zq, .inl (cI, 3, .inl fS)), (sq, .inl (cI, 6156, .inl fP)), (bq, .inl (cI, 3, .inl fB)), (cq, .inl (cJ, 64, .inr (.inl fC))), (pq, .inl (cI, 8, .inl fT))] s.heap.size = A at hD ⊢
  have hA : ∀ q : Nat, s.heap.size ≤ q → A q := fun q h => by rw [← hAe]; exact Or.inr h
  have hS : va_S A s.heap s.heap [] := va_S.rf
  have hP : va_P (dC, dI) vwCl [(q, .inr (7, [.ref mq, .ref zq, .ref sq, .ref bq, .ref cq, .long sm, .ref pq, .int ps, .int th])), (mq, .inl (cZ, 12288, .inl fM)), (zq, .inl (cI, 3, .inl fS)), (sq, .inl (cI, 6156, .inl fP)), (bq, .inl (cI, 3, .inl fB)), (cq, .inl (cJ, 64, .inr (.inl fC))), (pq, .inl (cI, 8, .inl fT))] s.heap := hP
  have hl := lv_entry ([.ref q, .int (nI k), .int w]) (n := 3) (Nat.le_of_ble_eq_true rfl)
  rw [lg_entry_eq]
  generalize (lg_sl ([.ref q, .int (nI k), .int w]) ++ List.replicate (3 - (lg_sl ([.ref q, .int (nI k), .int w])).length) Slot.unset).toArray = ls at hl ⊢
  have hl : lv_has ls 3 [(0, .ref q), (1, .int (nI k)), (2, .int w)] := hl
  refine lv_aload_n hx hb dX8_rank_0 rfl (lv_at hl 0 rfl) ?_
  refine lv_iload_n hx hb dX8_rank_1 rfl (lv_at hl 1 rfl) ?_
  refine lv_iload_n hx hb dX8_rank_2 rfl (lv_at hl 2 rfl) ?_
  have hPc := hP.sub (ws' := [(q, .inr (7, [.ref mq, .ref zq, .ref sq, .ref bq, .ref cq, .long sm, .ref pq, .int ps, .int th])), (mq, .inl (cZ, 12288, .inl fM)), (zq, .inl (cI, 3, .inl fS)), (sq, .inl (cI, 6156, .inl fP)), (bq, .inl (cI, 3, .inl fB)), (cq, .inl (cJ, 64, .inr (.inl fC))), (pq, .inl (cI, 8, .inl fT))]) [0, 1, 2, 3, 4, 5, 6] rfl
  have hKc := hK.sub (tys' := [(cZ, .boolean), (cI, .int), (cJ, .long)]) [0, 1, 2] rfl
  have hDc := hD.sub (ws' := [(q, .inr (7, [.ref mq, .ref zq, .ref sq, .ref bq, .ref cq, .long sm, .ref pq, .int ps, .int th])), (mq, .inl (cZ, 12288, .inl fM)), (zq, .inl (cI, 3, .inl fS)), (sq, .inl (cI, 6156, .inl fP)), (bq, .inl (cI, 3, .inl fB)), (cq, .inl (cJ, 64, .inr (.inl fC))), (pq, .inl (cI, 8, .inl fT))]) [0, 1, 2, 3, 4, 5, 6] (by decide) rfl
  have hFc := va_free (wc := [(q, .inr (7, [.ref mq, .ref zq, .ref sq, .ref bq, .ref cq, .long sm, .ref pq, .int ps, .int th])), (mq, .inl (cZ, 12288, .inl fM)), (zq, .inl (cI, 3, .inl fS)), (sq, .inl (cI, 6156, .inl fP)), (bq, .inl (cI, 3, .inl fB)), (cq, .inl (cJ, 64, .inr (.inl fC))), (pq, .inl (cI, 8, .inl fT))]) hD hS hA [0, 1, 2, 3, 4, 5, 6] rfl
  refine va_calli (va_runV (As := [.int (nI k), .int w]) (rest := []) ⟨hx, hb, hml, hown, hts⟩ (c_X8_isRight l dC dI q mq zq sq bq cq pq cZ cI cJ fM fS fP fB fC sm fT ps th (nI k) w s.heap.size ) (cwV 2 hts gX8_rank_X8_isRight rfl rfl rfl (by decide +kernel) ⟨Nat.le_of_ble_eq_true rfl, Nat.le_of_ble_eq_true rfl⟩) ⟨fun a U g mk q => by obtain ⟨q0, q1, qP, qK, qD⟩ := q; exact ⟨q0, q1, qP, va_K.moved (u := U) (U := U.calling g mk a) (Vm.Alike.refl U.vm) qK, qD⟩, va_recv hKc hPc (ci := 7) (q0 := 0) rfl rfl, fun U hU hW => ⟨rfl, by rw [hU], by rw [hU]; exact hPc, va_K.moved hW.alike hKc, hDc.weaken (fun _ _ _ _ => trivial)⟩⟩ rfl rfl hl.1 rfl (lv_room (Nat.le_of_ble_eq_true rfl)) dX8_rank_3 ⟨Nat.le_of_ble_eq_true rfl, Nat.le_of_ble_eq_true rfl⟩) hS (fun q _ h => hFc q h) hFc (fun r_3 u_2 t9 H1 locs ht hvm hw_1 hB hz1 hk1 hS => ?_)
  obtain ⟨th'_4, rfl⟩ : ∃ z, z = u_2 := ⟨_, rfl⟩
  obtain ⟨hP1, hK1, hD1⟩ := hB
  rw [ht] at hP1
  have hK1 := va_K.moved hvm.symm hK1
  try dsimp only at hw_1 hP1 hK1 hD1
  obtain ⟨hP, hD⟩ := va_join (wr := []) (w1 := [(q, .inr (7, [.ref mq, .ref zq, .ref sq, .ref bq, .ref cq, .long sm, .ref pq, .int ps, .int th'_4])), (mq, .inl (cZ, 12288, .inl fM)), (zq, .inl (cI, 3, .inl fS)), (sq, .inl (cI, 6156, .inl fP)), (bq, .inl (cI, 3, .inl fB)), (cq, .inl (cJ, 64, .inr (.inl fC))), (pq, .inl (cI, 8, .inl fT))]) hP hD [0, 1, 2, 3, 4, 5, 6] [] rfl rfl (by decide) (by decide) hk1 hFc hP1 hD1
  generalize H1 = H at hP hS ⊢
  have hP : va_P (dC, dI) vwCl [(q, .inr (7, [.ref mq, .ref zq, .ref sq, .ref bq, .ref cq, .long sm, .ref pq, .int ps, .int th'_4])), (mq, .inl (cZ, 12288, .inl fM)), (zq, .inl (cI, 3, .inl fS)), (sq, .inl (cI, 6156, .inl fP)), (bq, .inl (cI, 3, .inl fB)), (cq, .inl (cJ, 64, .inr (.inl fC))), (pq, .inl (cI, 8, .inl fT))] H := hP
  have hD : va_D A [(q, .inr (7, [.ref mq, .ref zq, .ref sq, .ref bq, .ref cq, .long sm, .ref pq, .int ps, .int th'_4])), (mq, .inl (cZ, 12288, .inl fM)), (zq, .inl (cI, 3, .inl fS)), (sq, .inl (cI, 6156, .inl fP)), (bq, .inl (cI, 3, .inl fB)), (cq, .inl (cJ, 64, .inr (.inl fC))), (pq, .inl (cI, 8, .inl fT))] := hD
  obtain ⟨he, hw_1⟩ := hw_1
  subst he
  have hth : th'_4 = nI 2 := by rw [hw_1, isS_t hk, hW]; rfl
  refine lv_cvi (congrArg b2i (by rw [isS_t hk, hW] <;> rfl)) ?_
  refine lv_if_eq (tgt := 18) hx hb dX8_rank_6 (by decide) (fun qc_5 => ?_) (fun qc_5 => ?_)
  · have c_5 : false = false := b2i_f qc_5
    refine lv_iconst (v := nI 0) hx hb dX8_rank_18 (by decide +kernel) ?_
    have hP9 := hP.sub (ws' := [(q, .inr (7, [.ref mq, .ref zq, .ref sq, .ref bq, .ref cq, .long sm, .ref pq, .int ps, .int th'_4])), (mq, .inl (cZ, 12288, .inl fM)), (zq, .inl (cI, 3, .inl fS)), (sq, .inl (cI, 6156, .inl fP)), (bq, .inl (cI, 3, .inl fB)), (cq, .inl (cJ, 64, .inr (.inl fC))), (pq, .inl (cI, 8, .inl fT))]) [0, 1, 2, 3, 4, 5, 6] rfl
    have hD9 := hD.sub (ws' := [(q, .inr (7, [.ref mq, .ref zq, .ref sq, .ref bq, .ref cq, .long sm, .ref pq, .int ps, .int th'_4])), (mq, .inl (cZ, 12288, .inl fM)), (zq, .inl (cI, 3, .inl fS)), (sq, .inl (cI, 6156, .inl fP)), (bq, .inl (cI, 3, .inl fB)), (cq, .inl (cJ, 64, .inr (.inl fC))), (pq, .inl (cI, 8, .inl fT))]) [0, 1, 2, 3, 4, 5, 6] (by decide) rfl
    have hK9 := hK.sub (tys' := [(cZ, .boolean), (cI, .int), (cJ, .long)]) [0, 1, 2] rfl
    exact W.iret (v := nI 0) hx hb hr (fun t9 ht hW => ⟨⟨nI 0, th'_4, rfl, hth, by rw [ht]; exact hP9, va_K.moved hW.alike hK9, hD9⟩, hS.F ht⟩) hS.2.2 dX8_rank_19
  · have c_5 : false = true := b2i_t qc_5
    cases c_5
set_option maxHeartbeats 4000000 in
set_option maxRecDepth 100000 in
/-- reference: c_X8_bucketOf_v -/
theorem c_X8_bucketOf_v (l : Launch) (dC : Nat → ClassId) (dI : Nat → Nat → Nat) (q : Nat) (mq : Nat) (zq : Nat) (sq : Nat) (bq : Nat) (cq : Nat) (pq : Nat) (cZ : ClassId) (cI : ClassId) (cJ : ClassId) (fM : Nat → Int32) (fS : Nat → Int32) (fP : Nat → Int32) (fB : Nat → Int32) (fC : Nat → Int64) (sm : Int64) (fT : Nat → Int32) (ps : Int32) (th : Int32) (P : Nat → Nat → Bool) (k : Nat) (x : Nat) (sz : Nat) (hX : MX fP fB P) (hk : k < 3) (hxx : x < 4096) : Met l yX8_bucketOf wsX8_bucketOf ({ frames := 3, cells := 0, slots := 0, locals := 64 }) (va_Pc [.ref q, .int (nI k), .int (nI x)] (fun U => U.heap.size = sz ∧ va_P (dC, dI) vwCl [(q, .inr (7, [.ref mq, .ref zq, .ref sq, .ref bq, .ref cq, .long sm, .ref pq, .int ps, .int th])), (mq, .inl (cZ, 12288, .inl fM)), (zq, .inl (cI, 3, .inl fS)), (sq, .inl (cI, 6156, .inl fP)), (bq, .inl (cI, 3, .inl fB)), (cq, .inl (cJ, 64, .inr (.inl fC))), (pq, .inl (cI, 8, .inl fT))] U.heap ∧ va_K (dC, dI) vwCl [(cZ, .boolean), (cI, .int), (cJ, .long)] U ∧ va_D (fun _ => True) [(q, .inr (7, [.ref mq, .ref zq, .ref sq, .ref bq, .ref cq, .long sm, .ref pq, .int ps, .int th])), (mq, .inl (cZ, 12288, .inl fM)), (zq, .inl (cI, 3, .inl fS)), (sq, .inl (cI, 6156, .inl fP)), (bq, .inl (cI, 3, .inl fB)), (cq, .inl (cJ, 64, .inr (.inl fC))), (pq, .inl (cI, 8, .inl fT))])) (va_Qi (fun (r : Int32) (u : Int32) => r = nI (bk (P k) x) ∧ u = nI 0) (fun (u : Int32) (t : State) => va_P (dC, dI) vwCl [(q, .inr (7, [.ref mq, .ref zq, .ref sq, .ref bq, .ref cq, .long sm, .ref pq, .int ps, .int u])), (mq, .inl (cZ, 12288, .inl fM)), (zq, .inl (cI, 3, .inl fS)), (sq, .inl (cI, 6156, .inl fP)), (bq, .inl (cI, 3, .inl fB)), (cq, .inl (cJ, 64, .inr (.inl fC))), (pq, .inl (cI, 8, .inl fT))] t.heap ∧ va_K (dC, dI) vwCl [(cZ, .boolean), (cI, .int), (cJ, .long)] t ∧ va_D (va_A [(q, .inr (7, [.ref mq, .ref zq, .ref sq, .ref bq, .ref cq, .long sm, .ref pq, .int ps, .int th])), (mq, .inl (cZ, 12288, .inl fM)), (zq, .inl (cI, 3, .inl fS)), (sq, .inl (cI, 6156, .inl fP)), (bq, .inl (cI, 3, .inl fB)), (cq, .inl (cJ, 64, .inr (.inl fC))), (pq, .inl (cI, 8, .inl fT))] sz) [(q, .inr (7, [.ref mq, .ref zq, .ref sq, .ref bq, .ref cq, .long sm, .ref pq, .int ps, .int u])), (mq, .inl (cZ, 12288, .inl fM)), (zq, .inl (cI, 3, .inl fS)), (sq, .inl (cI, 6156, .inl fP)), (bq, .inl (cI, 3, .inl fB)), (cq, .inl (cJ, 64, .inr (.inl fC))), (pq, .inl (cI, 8, .inl fT))]) (va_A [(q, .inr (7, [.ref mq, .ref zq, .ref sq, .ref bq, .ref cq, .long sm, .ref pq, .int ps, .int th])), (mq, .inl (cZ, 12288, .inl fM)), (zq, .inl (cI, 3, .inl fS)), (sq, .inl (cI, 6156, .inl fP)), (bq, .inl (cI, 3, .inl fB)), (cq, .inl (cJ, 64, .inr (.inl fC))), (pq, .inl (cI, 8, .inl fT))] sz)) 0 0 (va_A [(q, .inr (7, [.ref mq, .ref zq, .ref sq, .ref bq, .ref cq, .long sm, .ref pq, .int ps, .int th])), (mq, .inl (cZ, 12288, .inl fM)), (zq, .inl (cI, 3, .inl fS)), (sq, .inl (cI, 6156, .inl fP)), (bq, .inl (cI, 3, .inl fB)), (cq, .inl (cJ, 64, .inr (.inl fC))), (pq, .inl (cI, 8, .inl fT))] sz) := by
  refine Met.ofW (cc := cX8_bucketOf) (maxL := 3) (ret := (some .int)) (by decide) rfl ?_
  intro p e s m args below meth c s₁ B hml hv
  obtain ⟨rfl, hsz, hP, hK, hD0⟩ := hv
  have hx := B.exec
  have hb := B.bytes
  have hr := B.returns
  have hts := atoms_spec (ws := wsX8_bucketOf) B.pre
  have hown : s.vm.findClass RX8 = some m.cls := findClass_of_methodNamed B.named
  have hlocks := B.notSynchronized
  subst hsz
  have hD := hD0.self (sz := s.heap.size)
  generalize hAe : va_A [(q, .inr (7, [.ref mq, .ref zq, .ref sq, .ref bq, .ref cq, .long sm, .ref pq, .int ps, .int th])), (mq, .inl (cZ, 12288, .inl fM)), (zq, .inl (cI, 3, .inl fS)), (sq, .inl (cI, 6156, .inl fP)), (bq, .inl (cI, 3, .inl fB)), (cq, .inl (cJ, 64, .inr (.inl fC))), (pq, .inl (cI, 8, .inl fT))] s.heap.size = A at hD ⊢
  have hA : ∀ q : Nat, s.heap.size ≤ q → A q := fun q h => by rw [← hAe]; exact Or.inr h
  have hS : va_S A s.heap s.heap [] := va_S.rf
  have hP : va_P (dC, dI) vwCl [(q, .inr (7, [.ref mq, .ref zq, .ref sq, .ref bq, .ref cq, .long sm, .ref pq, .int ps, .int th])), (mq, .inl (cZ, 12288, .inl fM)), (zq, .inl (cI, 3, .inl fS)), (sq, .inl (cI, 6156, .inl fP)), (bq, .inl (cI, 3, .inl fB)), (cq, .inl (cJ, 64, .inr (.inl fC))), (pq, .inl (cI, 8, .inl fT))] s.heap := hP
  have hl := lv_entry ([.ref q, .int (nI k), .int (nI x)]) (n := 3) (Nat.le_of_ble_eq_true rfl)
  rw [lg_entry_eq]
  generalize (lg_sl ([.ref q, .int (nI k), .int (nI x)]) ++ List.replicate (3 - (lg_sl ([.ref q, .int (nI k), .int (nI x)])).length) Slot.unset).toArray = ls at hl ⊢
  have hl : lv_has ls 3 [(0, .ref q), (1, .int (nI k)), (2, .int (nI x))] := hl
  refine lv_aload_n hx hb dX8_bucketOf_0 rfl (lv_at hl 0 rfl) ?_
  refine lv_iload_n hx hb dX8_bucketOf_1 rfl (lv_at hl 1 rfl) ?_
  refine lv_iload_n hx hb dX8_bucketOf_2 rfl (lv_at hl 2 rfl) ?_
  have hPc := hP.sub (ws' := [(q, .inr (7, [.ref mq, .ref zq, .ref sq, .ref bq, .ref cq, .long sm, .ref pq, .int ps, .int th])), (mq, .inl (cZ, 12288, .inl fM)), (zq, .inl (cI, 3, .inl fS)), (sq, .inl (cI, 6156, .inl fP)), (bq, .inl (cI, 3, .inl fB)), (cq, .inl (cJ, 64, .inr (.inl fC))), (pq, .inl (cI, 8, .inl fT))]) [0, 1, 2, 3, 4, 5, 6] rfl
  have hKc := hK.sub (tys' := [(cZ, .boolean), (cI, .int), (cJ, .long)]) [0, 1, 2] rfl
  have hDc := hD.sub (ws' := [(q, .inr (7, [.ref mq, .ref zq, .ref sq, .ref bq, .ref cq, .long sm, .ref pq, .int ps, .int th])), (mq, .inl (cZ, 12288, .inl fM)), (zq, .inl (cI, 3, .inl fS)), (sq, .inl (cI, 6156, .inl fP)), (bq, .inl (cI, 3, .inl fB)), (cq, .inl (cJ, 64, .inr (.inl fC))), (pq, .inl (cI, 8, .inl fT))]) [0, 1, 2, 3, 4, 5, 6] (by decide) rfl
  have hFc := va_free (wc := [(q, .inr (7, [.ref mq, .ref zq, .ref sq, .ref bq, .ref cq, .long sm, .ref pq, .int ps, .int th])), (mq, .inl (cZ, 12288, .inl fM)), (zq, .inl (cI, 3, .inl fS)), (sq, .inl (cI, 6156, .inl fP)), (bq, .inl (cI, 3, .inl fB)), (cq, .inl (cJ, 64, .inr (.inl fC))), (pq, .inl (cI, 8, .inl fT))]) hD hS hA [0, 1, 2, 3, 4, 5, 6] rfl
  refine va_calli (va_runV (As := [.int (nI k), .int (nI x)]) (rest := []) ⟨hx, hb, hml, hown, hts⟩ (c_X8_isRight l dC dI q mq zq sq bq cq pq cZ cI cJ fM fS fP fB fC sm fT ps th (nI k) (nI x) s.heap.size ) (cwV 2 hts gX8_bucketOf_X8_isRight rfl rfl rfl (by decide +kernel) ⟨Nat.le_of_ble_eq_true rfl, Nat.le_of_ble_eq_true rfl⟩) ⟨fun a U g mk q => by obtain ⟨q0, q1, qP, qK, qD⟩ := q; exact ⟨q0, q1, qP, va_K.moved (u := U) (U := U.calling g mk a) (Vm.Alike.refl U.vm) qK, qD⟩, va_recv hKc hPc (ci := 7) (q0 := 0) rfl rfl, fun U hU hW => ⟨rfl, by rw [hU], by rw [hU]; exact hPc, va_K.moved hW.alike hKc, hDc.weaken (fun _ _ _ _ => trivial)⟩⟩ rfl rfl hl.1 rfl (lv_room (Nat.le_of_ble_eq_true rfl)) dX8_bucketOf_3 ⟨Nat.le_of_ble_eq_true rfl, Nat.le_of_ble_eq_true rfl⟩) hS (fun q _ h => hFc q h) hFc (fun r_3 u_2 t9 H1 locs ht hvm hw_1 hB hz1 hk1 hS => ?_)
  obtain ⟨th'_4, rfl⟩ : ∃ z, z = u_2 := ⟨_, rfl⟩
  obtain ⟨hP1, hK1, hD1⟩ := hB
  rw [ht] at hP1
  have hK1 := va_K.moved hvm.symm hK1
  try dsimp only at hw_1 hP1 hK1 hD1
  obtain ⟨hP, hD⟩ := va_join (wr := []) (w1 := [(q, .inr (7, [.ref mq, .ref zq, .ref sq, .ref bq, .ref cq, .long sm, .ref pq, .int ps, .int th'_4])), (mq, .inl (cZ, 12288, .inl fM)), (zq, .inl (cI, 3, .inl fS)), (sq, .inl (cI, 6156, .inl fP)), (bq, .inl (cI, 3, .inl fB)), (cq, .inl (cJ, 64, .inr (.inl fC))), (pq, .inl (cI, 8, .inl fT))]) hP hD [0, 1, 2, 3, 4, 5, 6] [] rfl rfl (by decide) (by decide) hk1 hFc hP1 hD1
  generalize H1 = H at hP hS ⊢
  have hP : va_P (dC, dI) vwCl [(q, .inr (7, [.ref mq, .ref zq, .ref sq, .ref bq, .ref cq, .long sm, .ref pq, .int ps, .int th'_4])), (mq, .inl (cZ, 12288, .inl fM)), (zq, .inl (cI, 3, .inl fS)), (sq, .inl (cI, 6156, .inl fP)), (bq, .inl (cI, 3, .inl fB)), (cq, .inl (cJ, 64, .inr (.inl fC))), (pq, .inl (cI, 8, .inl fT))] H := hP
  have hD : va_D A [(q, .inr (7, [.ref mq, .ref zq, .ref sq, .ref bq, .ref cq, .long sm, .ref pq, .int ps, .int th'_4])), (mq, .inl (cZ, 12288, .inl fM)), (zq, .inl (cI, 3, .inl fS)), (sq, .inl (cI, 6156, .inl fP)), (bq, .inl (cI, 3, .inl fB)), (cq, .inl (cJ, 64, .inr (.inl fC))), (pq, .inl (cI, 8, .inl fT))] := hD
  obtain ⟨he, hw_1⟩ := hw_1
  subst he
  have hth : th'_4 = nI 0 := by rw [hw_1, isS_t hk, isN_t hxx]; rfl
  refine lv_cvi (congrArg b2i (by rw [isS_t hk, isN_t hxx] <;> rfl)) ?_
  refine lv_if_eq (tgt := 18) hx hb dX8_bucketOf_6 (by decide) (fun qc_5 => ?_) (fun qc_5 => ?_)
  · have c_5 : true = false := b2i_f qc_5
    cases c_5
  · have c_5 : true = true := b2i_t qc_5
    refine lv_aload_n hx hb dX8_bucketOf_9 rfl (lv_at hl 0 rfl) ?_
    refine lv_iload_n hx hb dX8_bucketOf_10 rfl (lv_at hl 1 rfl) ?_
    refine lv_iload_n hx hb dX8_bucketOf_11 rfl (lv_at hl 2 rfl) ?_
    have hPc := hP.sub (ws' := [(q, .inr (7, [.ref mq, .ref zq, .ref sq, .ref bq, .ref cq, .long sm, .ref pq, .int ps, .int th'_4])), (mq, .inl (cZ, 12288, .inl fM)), (zq, .inl (cI, 3, .inl fS)), (sq, .inl (cI, 6156, .inl fP)), (bq, .inl (cI, 3, .inl fB)), (cq, .inl (cJ, 64, .inr (.inl fC))), (pq, .inl (cI, 8, .inl fT))]) [0, 1, 2, 3, 4, 5, 6] rfl
    have hKc := hK.sub (tys' := [(cZ, .boolean), (cI, .int), (cJ, .long)]) [0, 1, 2] rfl
    refine vp_callSi (W.runV (As := [.int (nI k), .int (nI x)]) (rest := []) ⟨hx, hb, hml, hown, hts⟩ (c_X8_belongs l dC dI q mq zq sq bq cq pq cZ cI cJ fM fS fP fB fC sm fT ps th'_4 P k x (by first | assumption | omega) (by first | assumption | omega) (by first | assumption | omega)) (cwV 2 hts gX8_bucketOf_X8_belongs rfl rfl rfl (by decide +kernel) ⟨Nat.le_of_ble_eq_true rfl, Nat.le_of_ble_eq_true rfl⟩) ⟨fun a U g mk q => by obtain ⟨q0, qP, qK⟩ := q; exact ⟨q0, qP, va_K.moved (u := U) (U := U.calling g mk a) (Vm.Alike.refl U.vm) qK⟩, va_recv hKc hPc (ci := 7) (q0 := 0) rfl rfl, fun U hU hW => ⟨rfl, by rw [hU]; exact hPc, va_K.moved hW.alike hKc⟩⟩ rfl rfl hl.1 rfl (lv_room (Nat.le_of_ble_eq_true rfl)) dX8_bucketOf_12 ⟨Nat.le_of_ble_eq_true rfl, Nat.le_of_ble_eq_true rfl⟩) (fun r_7 hw_6 => ?_)
    subst hw_6
    refine lv_goto (tgt := 19) hx hb dX8_bucketOf_15 (by decide) ?_
    have hP9 := hP.sub (ws' := [(q, .inr (7, [.ref mq, .ref zq, .ref sq, .ref bq, .ref cq, .long sm, .ref pq, .int ps, .int th'_4])), (mq, .inl (cZ, 12288, .inl fM)), (zq, .inl (cI, 3, .inl fS)), (sq, .inl (cI, 6156, .inl fP)), (bq, .inl (cI, 3, .inl fB)), (cq, .inl (cJ, 64, .inr (.inl fC))), (pq, .inl (cI, 8, .inl fT))]) [0, 1, 2, 3, 4, 5, 6] rfl
    have hD9 := hD.sub (ws' := [(q, .inr (7, [.ref mq, .ref zq, .ref sq, .ref bq, .ref cq, .long sm, .ref pq, .int ps, .int th'_4])), (mq, .inl (cZ, 12288, .inl fM)), (zq, .inl (cI, 3, .inl fS)), (sq, .inl (cI, 6156, .inl fP)), (bq, .inl (cI, 3, .inl fB)), (cq, .inl (cJ, 64, .inr (.inl fC))), (pq, .inl (cI, 8, .inl fT))]) [0, 1, 2, 3, 4, 5, 6] (by decide) rfl
    have hK9 := hK.sub (tys' := [(cZ, .boolean), (cI, .int), (cJ, .long)]) [0, 1, 2] rfl
    exact W.iret (v := nI (bk (P k) x)) hx hb hr (fun t9 ht hW => ⟨⟨nI (bk (P k) x), th'_4, rfl, ⟨rfl, hth⟩, by rw [ht]; exact hP9, va_K.moved hW.alike hK9, hD9⟩, hS.F ht⟩) hS.2.2 dX8_bucketOf_19
set_option maxHeartbeats 4000000 in
set_option maxRecDepth 100000 in
/-- reference: c_X8_bucketOf_s -/
theorem c_X8_bucketOf_s (l : Launch) (dC : Nat → ClassId) (dI : Nat → Nat → Nat) (q : Nat) (mq : Nat) (zq : Nat) (sq : Nat) (bq : Nat) (cq : Nat) (pq : Nat) (cZ : ClassId) (cI : ClassId) (cJ : ClassId) (fM : Nat → Int32) (fS : Nat → Int32) (fP : Nat → Int32) (fB : Nat → Int32) (fC : Nat → Int64) (sm : Int64) (fT : Nat → Int32) (ps : Int32) (th : Int32) (v : Int32) (w0 : Int32) (sz : Nat) (hSf : isS v = false) : Met l yX8_bucketOf wsX8_bucketOf ({ frames := 3, cells := 0, slots := 0, locals := 64 }) (va_Pc [.ref q, .int v, .int w0] (fun U => U.heap.size = sz ∧ va_P (dC, dI) vwCl [(q, .inr (7, [.ref mq, .ref zq, .ref sq, .ref bq, .ref cq, .long sm, .ref pq, .int ps, .int th])), (mq, .inl (cZ, 12288, .inl fM)), (zq, .inl (cI, 3, .inl fS)), (sq, .inl (cI, 6156, .inl fP)), (bq, .inl (cI, 3, .inl fB)), (cq, .inl (cJ, 64, .inr (.inl fC))), (pq, .inl (cI, 8, .inl fT))] U.heap ∧ va_K (dC, dI) vwCl [(cZ, .boolean), (cI, .int), (cJ, .long)] U ∧ va_D (fun _ => True) [(q, .inr (7, [.ref mq, .ref zq, .ref sq, .ref bq, .ref cq, .long sm, .ref pq, .int ps, .int th])), (mq, .inl (cZ, 12288, .inl fM)), (zq, .inl (cI, 3, .inl fS)), (sq, .inl (cI, 6156, .inl fP)), (bq, .inl (cI, 3, .inl fB)), (cq, .inl (cJ, 64, .inr (.inl fC))), (pq, .inl (cI, 8, .inl fT))])) (va_Qi (fun (r : Int32) (u : Int32) => u = nI 1) (fun (u : Int32) (t : State) => va_P (dC, dI) vwCl [(q, .inr (7, [.ref mq, .ref zq, .ref sq, .ref bq, .ref cq, .long sm, .ref pq, .int ps, .int u])), (mq, .inl (cZ, 12288, .inl fM)), (zq, .inl (cI, 3, .inl fS)), (sq, .inl (cI, 6156, .inl fP)), (bq, .inl (cI, 3, .inl fB)), (cq, .inl (cJ, 64, .inr (.inl fC))), (pq, .inl (cI, 8, .inl fT))] t.heap ∧ va_K (dC, dI) vwCl [(cZ, .boolean), (cI, .int), (cJ, .long)] t ∧ va_D (va_A [(q, .inr (7, [.ref mq, .ref zq, .ref sq, .ref bq, .ref cq, .long sm, .ref pq, .int ps, .int th])), (mq, .inl (cZ, 12288, .inl fM)), (zq, .inl (cI, 3, .inl fS)), (sq, .inl (cI, 6156, .inl fP)), (bq, .inl (cI, 3, .inl fB)), (cq, .inl (cJ, 64, .inr (.inl fC))), (pq, .inl (cI, 8, .inl fT))] sz) [(q, .inr (7, [.ref mq, .ref zq, .ref sq, .ref bq, .ref cq, .long sm, .ref pq, .int ps, .int u])), (mq, .inl (cZ, 12288, .inl fM)), (zq, .inl (cI, 3, .inl fS)), (sq, .inl (cI, 6156, .inl fP)), (bq, .inl (cI, 3, .inl fB)), (cq, .inl (cJ, 64, .inr (.inl fC))), (pq, .inl (cI, 8, .inl fT))]) (va_A [(q, .inr (7, [.ref mq, .ref zq, .ref sq, .ref bq, .ref cq, .long sm, .ref pq, .int ps, .int th])), (mq, .inl (cZ, 12288, .inl fM)), (zq, .inl (cI, 3, .inl fS)), (sq, .inl (cI, 6156, .inl fP)), (bq, .inl (cI, 3, .inl fB)), (cq, .inl (cJ, 64, .inr (.inl fC))), (pq, .inl (cI, 8, .inl fT))] sz)) 0 0 (va_A [(q, .inr (7, [.ref mq, .ref zq, .ref sq, .ref bq, .ref cq, .long sm, .ref pq, .int ps, .int th])), (mq, .inl (cZ, 12288, .inl fM)), (zq, .inl (cI, 3, .inl fS)), (sq, .inl (cI, 6156, .inl fP)), (bq, .inl (cI, 3, .inl fB)), (cq, .inl (cJ, 64, .inr (.inl fC))), (pq, .inl (cI, 8, .inl fT))] sz) := by
  refine Met.ofW (cc := cX8_bucketOf) (maxL := 3) (ret := (some .int)) (by decide) rfl ?_
  intro p e s m args below meth c s₁ B hml hv
  obtain ⟨rfl, hsz, hP, hK, hD0⟩ := hv
  have hx := B.exec
  have hb := B.bytes
  have hr := B.returns
  have hts := atoms_spec (ws := wsX8_bucketOf) B.pre
  have hown : s.vm.findClass RX8 = some m.cls := findClass_of_methodNamed B.named
  have hlocks := B.notSynchronized
  subst hsz
  have hD := hD0.self (sz := s.heap.size)
  generalize hAe : va_A [(q, .inr (7, [.ref mq, .ref zq, .ref sq, .ref bq, .ref cq, .long sm, .ref pq, .int ps, .int th])), (mq, .inl (cZ, 12288, .inl fM)), (zq, .inl (cI, 3, .inl fS)), (sq, .inl (cI, 6156, .inl fP)), (bq, .inl (cI, 3, .inl fB)), (cq, .inl (cJ, 64, .inr (.inl fC))), (pq, .inl (cI, 8, .inl fT))] s.heap.size = A at hD ⊢
  have hA : ∀ q : Nat, s.heap.size ≤ q → A q := fun q h => by rw [← hAe]; exact Or.inr h
  have hS : va_S A s.heap s.heap [] := va_S.rf
  have hP : va_P (dC, dI) vwCl [(q, .inr (7, [.ref mq, .ref zq, .ref sq, .ref bq, .ref cq, .long sm, .ref pq, .int ps, .int th])), (mq, .inl (cZ, 12288, .inl fM)), (zq, .inl (cI, 3, .inl fS)), (sq, .inl (cI, 6156, .inl fP)), (bq, .inl (cI, 3, .inl fB)), (cq, .inl (cJ, 64, .inr (.inl fC))), (pq, .inl (cI, 8, .inl fT))] s.heap := hP
  have hl := lv_entry ([.ref q, .int v, .int w0]) (n := 3) (Nat.le_of_ble_eq_true rfl)
  rw [lg_entry_eq]
  generalize (lg_sl ([.ref q, .int v, .int w0]) ++ List.replicate (3 - (lg_sl ([.ref q, .int v, .int w0])).length) Slot.unset).toArray = ls at hl ⊢
  have hl : lv_has ls 3 [(0, .ref q), (1, .int v), (2, .int w0)] := hl
  refine lv_aload_n hx hb dX8_bucketOf_0 rfl (lv_at hl 0 rfl) ?_
  refine lv_iload_n hx hb dX8_bucketOf_1 rfl (lv_at hl 1 rfl) ?_
  refine lv_iload_n hx hb dX8_bucketOf_2 rfl (lv_at hl 2 rfl) ?_
  have hPc := hP.sub (ws' := [(q, .inr (7, [.ref mq, .ref zq, .ref sq, .ref bq, .ref cq, .long sm, .ref pq, .int ps, .int th])), (mq, .inl (cZ, 12288, .inl fM)), (zq, .inl (cI, 3, .inl fS)), (sq, .inl (cI, 6156, .inl fP)), (bq, .inl (cI, 3, .inl fB)), (cq, .inl (cJ, 64, .inr (.inl fC))), (pq, .inl (cI, 8, .inl fT))]) [0, 1, 2, 3, 4, 5, 6] rfl
  have hKc := hK.sub (tys' := [(cZ, .boolean), (cI, .int), (cJ, .long)]) [0, 1, 2] rfl
  have hDc := hD.sub (ws' := [(q, .inr (7, [.ref mq, .ref zq, .ref sq, .ref bq, .ref cq, .long sm, .ref pq, .int ps, .int th])), (mq, .inl (cZ, 12288, .inl fM)), (zq, .inl (cI, 3, .inl fS)), (sq, .inl (cI, 6156, .inl fP)), (bq, .inl (cI, 3, .inl fB)), (cq, .inl (cJ, 64, .inr (.inl fC))), (pq, .inl (cI, 8, .inl fT))]) [0, 1, 2, 3, 4, 5, 6] (by decide) rfl
  have hFc := va_free (wc := [(q, .inr (7, [.ref mq, .ref zq, .ref sq, .ref bq, .ref cq, .long sm, .ref pq, .int ps, .int th])), (mq, .inl (cZ, 12288, .inl fM)), (zq, .inl (cI, 3, .inl fS)), (sq, .inl (cI, 6156, .inl fP)), (bq, .inl (cI, 3, .inl fB)), (cq, .inl (cJ, 64, .inr (.inl fC))), (pq, .inl (cI, 8, .inl fT))]) hD hS hA [0, 1, 2, 3, 4, 5, 6] rfl
  refine va_calli (va_runV (As := [.int v, .int w0]) (rest := []) ⟨hx, hb, hml, hown, hts⟩ (c_X8_isRight l dC dI q mq zq sq bq cq pq cZ cI cJ fM fS fP fB fC sm fT ps th v w0 s.heap.size ) (cwV 2 hts gX8_bucketOf_X8_isRight rfl rfl rfl (by decide +kernel) ⟨Nat.le_of_ble_eq_true rfl, Nat.le_of_ble_eq_true rfl⟩) ⟨fun a U g mk q => by obtain ⟨q0, q1, qP, qK, qD⟩ := q; exact ⟨q0, q1, qP, va_K.moved (u := U) (U := U.calling g mk a) (Vm.Alike.refl U.vm) qK, qD⟩, va_recv hKc hPc (ci := 7) (q0 := 0) rfl rfl, fun U hU hW => ⟨rfl, by rw [hU], by rw [hU]; exact hPc, va_K.moved hW.alike hKc, hDc.weaken (fun _ _ _ _ => trivial)⟩⟩ rfl rfl hl.1 rfl (lv_room (Nat.le_of_ble_eq_true rfl)) dX8_bucketOf_3 ⟨Nat.le_of_ble_eq_true rfl, Nat.le_of_ble_eq_true rfl⟩) hS (fun q _ h => hFc q h) hFc (fun r_3 u_2 t9 H1 locs ht hvm hw_1 hB hz1 hk1 hS => ?_)
  obtain ⟨th'_4, rfl⟩ : ∃ z, z = u_2 := ⟨_, rfl⟩
  obtain ⟨hP1, hK1, hD1⟩ := hB
  rw [ht] at hP1
  have hK1 := va_K.moved hvm.symm hK1
  try dsimp only at hw_1 hP1 hK1 hD1
  obtain ⟨hP, hD⟩ := va_join (wr := []) (w1 := [(q, .inr (7, [.ref mq, .ref zq, .ref sq, .ref bq, .ref cq, .long sm, .ref pq, .int ps, .int th'_4])), (mq, .inl (cZ, 12288, .inl fM)), (zq, .inl (cI, 3, .inl fS)), (sq, .inl (cI, 6156, .inl fP)), (bq, .inl (cI, 3, .inl fB)), (cq, .inl (cJ, 64, .inr (.inl fC))), (pq, .inl (cI, 8, .inl fT))]) hP hD [0, 1, 2, 3, 4, 5, 6] [] rfl rfl (by decide) (by decide) hk1 hFc hP1 hD1
  generalize H1 = H at hP hS ⊢
  have hP : va_P (dC, dI) vwCl [(q, .inr (7, [.ref mq, .ref zq, .ref sq, .ref bq, .ref cq, .long sm, .ref pq, .int ps, .int th'_4])), (mq, .inl (cZ, 12288, .inl fM)), (zq, .inl (cI, 3, .inl fS)), (sq, .inl (cI, 6156, .inl fP)), (bq, .inl (cI, 3, .inl fB)), (cq, .inl (cJ, 64, .inr (.inl fC))), (pq, .inl (cI, 8, .inl fT))] H := hP
  have hD : va_D A [(q, .inr (7, [.ref mq, .ref zq, .ref sq, .ref bq, .ref cq, .long sm, .ref pq, .int ps, .int th'_4])), (mq, .inl (cZ, 12288, .inl fM)), (zq, .inl (cI, 3, .inl fS)), (sq, .inl (cI, 6156, .inl fP)), (bq, .inl (cI, 3, .inl fB)), (cq, .inl (cJ, 64, .inr (.inl fC))), (pq, .inl (cI, 8, .inl fT))] := hD
  obtain ⟨he, hw_1⟩ := hw_1
  subst he
  have hth : th'_4 = nI 1 := by rw [hw_1, hSf]; rfl
  refine lv_cvi (congrArg b2i (by rw [hSf] <;> rfl)) ?_
  refine lv_if_eq (tgt := 18) hx hb dX8_bucketOf_6 (by decide) (fun qc_5 => ?_) (fun qc_5 => ?_)
  · have c_5 : false = false := b2i_f qc_5
    refine lv_iconst (v := nI 0) hx hb dX8_bucketOf_18 (by decide +kernel) ?_
    have hP9 := hP.sub (ws' := [(q, .inr (7, [.ref mq, .ref zq, .ref sq, .ref bq, .ref cq, .long sm, .ref pq, .int ps, .int th'_4])), (mq, .inl (cZ, 12288, .inl fM)), (zq, .inl (cI, 3, .inl fS)), (sq, .inl (cI, 6156, .inl fP)), (bq, .inl (cI, 3, .inl fB)), (cq, .inl (cJ, 64, .inr (.inl fC))), (pq, .inl (cI, 8, .inl fT))]) [0, 1, 2, 3, 4, 5, 6] rfl
    have hD9 := hD.sub (ws' := [(q, .inr (7, [.ref mq, .ref zq, .ref sq, .ref bq, .ref cq, .long sm, .ref pq, .int ps, .int th'_4])), (mq, .inl (cZ, 12288, .inl fM)), (zq, .inl (cI, 3, .inl fS)), (sq, .inl (cI, 6156, .inl fP)), (bq, .inl (cI, 3, .inl fB)), (cq, .inl (cJ, 64, .inr (.inl fC))), (pq, .inl (cI, 8, .inl fT))]) [0, 1, 2, 3, 4, 5, 6] (by decide) rfl
    have hK9 := hK.sub (tys' := [(cZ, .boolean), (cI, .int), (cJ, .long)]) [0, 1, 2] rfl
    exact W.iret (v := nI 0) hx hb hr (fun t9 ht hW => ⟨⟨nI 0, th'_4, rfl, hth, by rw [ht]; exact hP9, va_K.moved hW.alike hK9, hD9⟩, hS.F ht⟩) hS.2.2 dX8_bucketOf_19
  · have c_5 : false = true := b2i_t qc_5
    cases c_5
set_option maxHeartbeats 4000000 in
set_option maxRecDepth 100000 in
/-- reference: c_X8_bucketOf_n -/
theorem c_X8_bucketOf_n (l : Launch) (dC : Nat → ClassId) (dI : Nat → Nat → Nat) (q : Nat) (mq : Nat) (zq : Nat) (sq : Nat) (bq : Nat) (cq : Nat) (pq : Nat) (cZ : ClassId) (cI : ClassId) (cJ : ClassId) (fM : Nat → Int32) (fS : Nat → Int32) (fP : Nat → Int32) (fB : Nat → Int32) (fC : Nat → Int64) (sm : Int64) (fT : Nat → Int32) (ps : Int32) (th : Int32) (k : Nat) (w : Int32) (sz : Nat) (hk : k < 3) (hW : isN w = false) : Met l yX8_bucketOf wsX8_bucketOf ({ frames := 3, cells := 0, slots := 0, locals := 64 }) (va_Pc [.ref q, .int (nI k), .int w] (fun U => U.heap.size = sz ∧ va_P (dC, dI) vwCl [(q, .inr (7, [.ref mq, .ref zq, .ref sq, .ref bq, .ref cq, .long sm, .ref pq, .int ps, .int th])), (mq, .inl (cZ, 12288, .inl fM)), (zq, .inl (cI, 3, .inl fS)), (sq, .inl (cI, 6156, .inl fP)), (bq, .inl (cI, 3, .inl fB)), (cq, .inl (cJ, 64, .inr (.inl fC))), (pq, .inl (cI, 8, .inl fT))] U.heap ∧ va_K (dC, dI) vwCl [(cZ, .boolean), (cI, .int), (cJ, .long)] U ∧ va_D (fun _ => True) [(q, .inr (7, [.ref mq, .ref zq, .ref sq, .ref bq, .ref cq, .long sm, .ref pq, .int ps, .int th])), (mq, .inl (cZ, 12288, .inl fM)), (zq, .inl (cI, 3, .inl fS)), (sq, .inl (cI, 6156, .inl fP)), (bq, .inl (cI, 3, .inl fB)), (cq, .inl (cJ, 64, .inr (.inl fC))), (pq, .inl (cI, 8, .inl fT))])) (va_Qi (fun (r : Int32) (u : Int32) => u = nI 2) (fun (u : Int32) (t : State) => va_P (dC, dI) vwCl [(q, .inr (7, [.ref mq, .ref zq, .ref sq, .ref bq, .ref cq, .long sm, .ref pq, .int ps, .int u])), (mq, .inl (cZ, 12288, .inl fM)), (zq, .inl (cI, 3, .inl fS)), (sq, .inl (cI, 6156, .inl fP)), (bq, .inl (cI, 3, .inl fB)), (cq, .inl (cJ, 64, .inr (.inl fC))), (pq, .inl (cI, 8, .inl fT))] t.heap ∧ va_K (dC, dI) vwCl [(cZ, .boolean), (cI, .int), (cJ, .long)] t ∧ va_D (va_A [(q, .inr (7, [.ref mq, .ref zq, .ref sq, .ref bq, .ref cq, .long sm, .ref pq, .int ps, .int th])), (mq, .inl (cZ, 12288, .inl fM)), (zq, .inl (cI, 3, .inl fS)), (sq, .inl (cI, 6156, .inl fP)), (bq, .inl (cI, 3, .inl fB)), (cq, .inl (cJ, 64, .inr (.inl fC))), (pq, .inl (cI, 8, .inl fT))] sz) [(q, .inr (7, [.ref mq, .ref zq, .ref sq, .ref bq, .ref cq, .long sm, .ref pq, .int ps, .int u])), (mq, .inl (cZ, 12288, .inl fM)), (zq, .inl (cI, 3, .inl fS)), (sq, .inl (cI, 6156, .inl fP)), (bq, .inl (cI, 3, .inl fB)), (cq, .inl (cJ, 64, .inr (.inl fC))), (pq, .inl (cI, 8, .inl fT))]) (va_A [(q, .inr (7, [.ref mq, .ref zq, .ref sq, .ref bq, .ref cq, .long sm, .ref pq, .int ps, .int th])), (mq, .inl (cZ, 12288, .inl fM)), (zq, .inl (cI, 3, .inl fS)), (sq, .inl (cI, 6156, .inl fP)), (bq, .inl (cI, 3, .inl fB)), (cq, .inl (cJ, 64, .inr (.inl fC))), (pq, .inl (cI, 8, .inl fT))] sz)) 0 0 (va_A [(q, .inr (7, [.ref mq, .ref zq, .ref sq, .ref bq, .ref cq, .long sm, .ref pq, .int ps, .int th])), (mq, .inl (cZ, 12288, .inl fM)), (zq, .inl (cI, 3, .inl fS)), (sq, .inl (cI, 6156, .inl fP)), (bq, .inl (cI, 3, .inl fB)), (cq, .inl (cJ, 64, .inr (.inl fC))), (pq, .inl (cI, 8, .inl fT))] sz) := by
  refine Met.ofW (cc := cX8_bucketOf) (maxL := 3) (ret := (some .int)) (by decide) rfl ?_
  intro p e s m args below meth c s₁ B hml hv
  obtain ⟨rfl, hsz, hP, hK, hD0⟩ := hv
  have hx := B.exec
  have hb := B.bytes
  have hr := B.returns
  have hts := atoms_spec (ws := wsX8_bucketOf) B.pre
  have hown : s.vm.findClass RX8 = some m.cls := findClass_of_methodNamed B.named
  have hlocks := B.notSynchronized
  subst hsz
  have hD := hD0.self (sz := s.heap.size)
  generalize hAe : va_A [(q, .inr (7, [.ref mq, .ref zq, .ref sq, .ref bq, .ref cq, .long sm, .ref pq, .int ps, .int th])), (mq, .inl (cZ, 12288, .inl fM)), (zq, .inl (cI, 3, .inl fS)), (sq, .inl (cI, 6156, .inl fP)), (bq, .inl (cI, 3, .inl fB)), (cq, .inl (cJ, 64, .inr (.inl fC))), (pq, .inl (cI, 8, .inl fT))] s.heap.size = A at hD ⊢
  have hA : ∀ q : Nat, s.heap.size ≤ q → A q := fun q h => by rw [← hAe]; exact Or.inr h
  have hS : va_S A s.heap s.heap [] := va_S.rf
  have hP : va_P (dC, dI) vwCl [(q, .inr (7, [.ref mq, .ref zq, .ref sq, .ref bq, .ref cq, .long sm, .ref pq, .int ps, .int th])), (mq, .inl (cZ, 12288, .inl fM)), (zq, .inl (cI, 3, .inl fS)), (sq, .inl (cI, 6156, .inl fP)), (bq, .inl (cI, 3, .inl fB)), (cq, .inl (cJ, 64, .inr (.inl fC))), (pq, .inl (cI, 8, .inl fT))] s.heap := hP
  have hl := lv_entry ([.ref q, .int (nI k), .int w]) (n := 3) (Nat.le_of_ble_eq_true rfl)
  rw [lg_entry_eq]
  generalize (lg_sl ([.ref q, .int (nI k), .int w]) ++ List.replicate (3 - (lg_sl ([.ref q, .int (nI k), .int w])).length) Slot.unset).toArray = ls at hl ⊢
  have hl : lv_has ls 3 [(0, .ref q), (1, .int (nI k)), (2, .int w)] := hl
  refine lv_aload_n hx hb dX8_bucketOf_0 rfl (lv_at hl 0 rfl) ?_
  refine lv_iload_n hx hb dX8_bucketOf_1 rfl (lv_at hl 1 rfl) ?_
  refine lv_iload_n hx hb dX8_bucketOf_2 rfl (lv_at hl 2 rfl) ?_
  have hPc := hP.sub (ws' := [(q, .inr (7, [.ref mq, .ref zq, .ref sq, .ref bq, .ref cq, .long sm, .ref pq, .int ps, .int th])), (mq, .inl (cZ, 12288, .inl fM)), (zq, .inl (cI, 3, .inl fS)), (sq, .inl (cI, 6156, .inl fP)), (bq, .inl (cI, 3, .inl fB)), (cq, .inl (cJ, 64, .inr (.inl fC))), (pq, .inl (cI, 8, .inl fT))]) [0, 1, 2, 3, 4, 5, 6] rfl
  have hKc := hK.sub (tys' := [(cZ, .boolean), (cI, .int), (cJ, .long)]) [0, 1, 2] rfl
  have hDc := hD.sub (ws' := [(q, .inr (7, [.ref mq, .ref zq, .ref sq, .ref bq, .ref cq, .long sm, .ref pq, .int ps, .int th])), (mq, .inl (cZ, 12288, .inl fM)), (zq, .inl (cI, 3, .inl fS)), (sq, .inl (cI, 6156, .inl fP)), (bq, .inl (cI, 3, .inl fB)), (cq, .inl (cJ, 64, .inr (.inl fC))), (pq, .inl (cI, 8, .inl fT))]) [0, 1, 2, 3, 4, 5, 6] (by decide) rfl
  have hFc := va_free (wc := [(q, .inr (7, [.ref mq, .ref zq, .ref sq, .ref bq, .ref cq, .long sm, .ref pq, .int ps, .int th])), (mq, .inl (cZ, 12288, .inl fM)), (zq, .inl (cI, 3, .inl fS)), (sq, .inl (cI, 6156, .inl fP)), (bq, .inl (cI, 3, .inl fB)), (cq, .inl (cJ, 64, .inr (.inl fC))), (pq, .inl (cI, 8, .inl fT))]) hD hS hA [0, 1, 2, 3, 4, 5, 6] rfl
  refine va_calli (va_runV (As := [.int (nI k), .int w]) (rest := []) ⟨hx, hb, hml, hown, hts⟩ (c_X8_isRight l dC dI q mq zq sq bq cq pq cZ cI cJ fM fS fP fB fC sm fT ps th (nI k) w s.heap.size ) (cwV 2 hts gX8_bucketOf_X8_isRight rfl rfl rfl (by decide +kernel) ⟨Nat.le_of_ble_eq_true rfl, Nat.le_of_ble_eq_true rfl⟩) ⟨fun a U g mk q => by obtain ⟨q0, q1, qP, qK, qD⟩ := q; exact ⟨q0, q1, qP, va_K.moved (u := U) (U := U.calling g mk a) (Vm.Alike.refl U.vm) qK, qD⟩, va_recv hKc hPc (ci := 7) (q0 := 0) rfl rfl, fun U hU hW => ⟨rfl, by rw [hU], by rw [hU]; exact hPc, va_K.moved hW.alike hKc, hDc.weaken (fun _ _ _ _ => trivial)⟩⟩ rfl rfl hl.1 rfl (lv_room (Nat.le_of_ble_eq_true rfl)) dX8_bucketOf_3 ⟨Nat.le_of_ble_eq_true rfl, Nat.le_of_ble_eq_true rfl⟩) hS (fun q _ h => hFc q h) hFc (fun r_3 u_2 t9 H1 locs ht hvm hw_1 hB hz1 hk1 hS => ?_)
  obtain ⟨th'_4, rfl⟩ : ∃ z, z = u_2 := ⟨_, rfl⟩
  obtain ⟨hP1, hK1, hD1⟩ := hB
  rw [ht] at hP1
  have hK1 := va_K.moved hvm.symm hK1
  try dsimp only at hw_1 hP1 hK1 hD1
  obtain ⟨hP, hD⟩ := va_join (wr := []) (w1 := [(q, .inr (7, [.ref mq, .ref zq, .ref sq, .ref bq, .ref cq, .long sm, .ref pq, .int ps, .int th'_4])), (mq, .inl (cZ, 12288, .inl fM)), (zq, .inl (cI, 3, .inl fS)), (sq, .inl (cI, 6156, .inl fP)), (bq, .inl (cI, 3, .inl fB)), (cq, .inl (cJ, 64, .inr (.inl fC))), (pq, .inl (cI, 8, .inl fT))]) hP hD [0, 1, 2, 3, 4, 5, 6] [] rfl rfl (by decide) (by decide) hk1 hFc hP1 hD1
  generalize H1 = H at hP hS ⊢
  have hP : va_P (dC, dI) vwCl [(q, .inr (7, [.ref mq, .ref zq, .ref sq, .ref bq, .ref cq, .long sm, .ref pq, .int ps, .int th'_4])), (mq, .inl (cZ, 12288, .inl fM)), (zq, .inl (cI, 3, .inl fS)), (sq, .inl (cI, 6156, .inl fP)), (bq, .inl (cI, 3, .inl fB)), (cq, .inl (cJ, 64, .inr (.inl fC))), (pq, .inl (cI, 8, .inl fT))] H := hP
  have hD : va_D A [(q, .inr (7, [.ref mq, .ref zq, .ref sq, .ref bq, .ref cq, .long sm, .ref pq, .int ps, .int th'_4])), (mq, .inl (cZ, 12288, .inl fM)), (zq, .inl (cI, 3, .inl fS)), (sq, .inl (cI, 6156, .inl fP)), (bq, .inl (cI, 3, .inl fB)), (cq, .inl (cJ, 64, .inr (.inl fC))), (pq, .inl (cI, 8, .inl fT))] := hD
  obtain ⟨he, hw_1⟩ := hw_1
  subst he
  have hth : th'_4 = nI 2 := by rw [hw_1, isS_t hk, hW]; rfl
  refine lv_cvi (congrArg b2i (by rw [isS_t hk, hW] <;> rfl)) ?_
  refine lv_if_eq (tgt := 18) hx hb dX8_bucketOf_6 (by decide) (fun qc_5 => ?_) (fun qc_5 => ?_)
  · have c_5 : false = false := b2i_f qc_5
    refine lv_iconst (v := nI 0) hx hb dX8_bucketOf_18 (by decide +kernel) ?_
    have hP9 := hP.sub (ws' := [(q, .inr (7, [.ref mq, .ref zq, .ref sq, .ref bq, .ref cq, .long sm, .ref pq, .int ps, .int th'_4])), (mq, .inl (cZ, 12288, .inl fM)), (zq, .inl (cI, 3, .inl fS)), (sq, .inl (cI, 6156, .inl fP)), (bq, .inl (cI, 3, .inl fB)), (cq, .inl (cJ, 64, .inr (.inl fC))), (pq, .inl (cI, 8, .inl fT))]) [0, 1, 2, 3, 4, 5, 6] rfl
    have hD9 := hD.sub (ws' := [(q, .inr (7, [.ref mq, .ref zq, .ref sq, .ref bq, .ref cq, .long sm, .ref pq, .int ps, .int th'_4])), (mq, .inl (cZ, 12288, .inl fM)), (zq, .inl (cI, 3, .inl fS)), (sq, .inl (cI, 6156, .inl fP)), (bq, .inl (cI, 3, .inl fB)), (cq, .inl (cJ, 64, .inr (.inl fC))), (pq, .inl (cI, 8, .inl fT))]) [0, 1, 2, 3, 4, 5, 6] (by decide) rfl
    have hK9 := hK.sub (tys' := [(cZ, .boolean), (cI, .int), (cJ, .long)]) [0, 1, 2] rfl
    exact W.iret (v := nI 0) hx hb hr (fun t9 ht hW => ⟨⟨nI 0, th'_4, rfl, hth, by rw [ht]; exact hP9, va_K.moved hW.alike hK9, hD9⟩, hS.F ht⟩) hS.2.2 dX8_bucketOf_19
  · have c_5 : false = true := b2i_t qc_5
    cases c_5
set_option maxHeartbeats 4000000 in
set_option maxRecDepth 100000 in
/-- reference: c_X8_size_v -/
theorem c_X8_size_v (l : Launch) (dC : Nat → ClassId) (dI : Nat → Nat → Nat) (q : Nat) (mq : Nat) (zq : Nat) (sq : Nat) (bq : Nat) (cq : Nat) (pq : Nat) (cZ : ClassId) (cI : ClassId) (cJ : ClassId) (fM : Nat → Int32) (fS : Nat → Int32) (fP : Nat → Int32) (fB : Nat → Int32) (fC : Nat → Int64) (sm : Int64) (fT : Nat → Int32) (ps : Int32) (th : Int32) (M : Nat → Nat → Bool) (k : Nat) (sz : Nat) (hZ : MZ fS M) (hk : k < 3) : Met l yX8_size wsX8_size ({ frames := 2, cells := 0, slots := 0, locals := 42 }) (va_Pc [.ref q, .int (nI k)] (fun U => U.heap.size = sz ∧ va_P (dC, dI) vwCl [(q, .inr (7, [.ref mq, .ref zq, .ref sq, .ref bq, .ref cq, .long sm, .ref pq, .int ps, .int th])), (mq, .inl (cZ, 12288, .inl fM)), (zq, .inl (cI, 3, .inl fS)), (sq, .inl (cI, 6156, .inl fP)), (bq, .inl (cI, 3, .inl fB)), (cq, .inl (cJ, 64, .inr (.inl fC))), (pq, .inl (cI, 8, .inl fT))] U.heap ∧ va_K (dC, dI) vwCl [(cZ, .boolean), (cI, .int), (cJ, .long)] U ∧ va_D (fun _ => True) [(q, .inr (7, [.ref mq, .ref zq, .ref sq, .ref bq, .ref cq, .long sm, .ref pq, .int ps, .int th])), (mq, .inl (cZ, 12288, .inl fM)), (zq, .inl (cI, 3, .inl fS)), (sq, .inl (cI, 6156, .inl fP)), (bq, .inl (cI, 3, .inl fB)), (cq, .inl (cJ, 64, .inr (.inl fC))), (pq, .inl (cI, 8, .inl fT))])) (va_Qi (fun (r : Int32) (u : Int32) => r = nI (fb_ct (M k) 4096) ∧ u = nI 0) (fun (u : Int32) (t : State) => va_P (dC, dI) vwCl [(q, .inr (7, [.ref mq, .ref zq, .ref sq, .ref bq, .ref cq, .long sm, .ref pq, .int ps, .int u])), (mq, .inl (cZ, 12288, .inl fM)), (zq, .inl (cI, 3, .inl fS)), (sq, .inl (cI, 6156, .inl fP)), (bq, .inl (cI, 3, .inl fB)), (cq, .inl (cJ, 64, .inr (.inl fC))), (pq, .inl (cI, 8, .inl fT))] t.heap ∧ va_K (dC, dI) vwCl [(cZ, .boolean), (cI, .int), (cJ, .long)] t ∧ va_D (va_A [(q, .inr (7, [.ref mq, .ref zq, .ref sq, .ref bq, .ref cq, .long sm, .ref pq, .int ps, .int th])), (mq, .inl (cZ, 12288, .inl fM)), (zq, .inl (cI, 3, .inl fS)), (sq, .inl (cI, 6156, .inl fP)), (bq, .inl (cI, 3, .inl fB)), (cq, .inl (cJ, 64, .inr (.inl fC))), (pq, .inl (cI, 8, .inl fT))] sz) [(q, .inr (7, [.ref mq, .ref zq, .ref sq, .ref bq, .ref cq, .long sm, .ref pq, .int ps, .int u])), (mq, .inl (cZ, 12288, .inl fM)), (zq, .inl (cI, 3, .inl fS)), (sq, .inl (cI, 6156, .inl fP)), (bq, .inl (cI, 3, .inl fB)), (cq, .inl (cJ, 64, .inr (.inl fC))), (pq, .inl (cI, 8, .inl fT))]) (va_A [(q, .inr (7, [.ref mq, .ref zq, .ref sq, .ref bq, .ref cq, .long sm, .ref pq, .int ps, .int th])), (mq, .inl (cZ, 12288, .inl fM)), (zq, .inl (cI, 3, .inl fS)), (sq, .inl (cI, 6156, .inl fP)), (bq, .inl (cI, 3, .inl fB)), (cq, .inl (cJ, 64, .inr (.inl fC))), (pq, .inl (cI, 8, .inl fT))] sz)) 0 0 (va_A [(q, .inr (7, [.ref mq, .ref zq, .ref sq, .ref bq, .ref cq, .long sm, .ref pq, .int ps, .int th])), (mq, .inl (cZ, 12288, .inl fM)), (zq, .inl (cI, 3, .inl fS)), (sq, .inl (cI, 6156, .inl fP)), (bq, .inl (cI, 3, .inl fB)), (cq, .inl (cJ, 64, .inr (.inl fC))), (pq, .inl (cI, 8, .inl fT))] sz) := by
  refine Met.ofW (cc := cX8_size) (maxL := 2) (ret := (some .int)) (by decide) rfl ?_
  intro p e s m args below meth c s₁ B hml hv
  obtain ⟨rfl, hsz, hP, hK, hD0⟩ := hv
  have hx := B.exec
  have hb := B.bytes
  have hr := B.returns
  have hts := atoms_spec (ws := wsX8_size) B.pre
  have hown : s.vm.findClass RX8 = some m.cls := findClass_of_methodNamed B.named
  have hlocks := B.notSynchronized
  subst hsz
  have hD := hD0.self (sz := s.heap.size)
  generalize hAe : va_A [(q, .inr (7, [.ref mq, .ref zq, .ref sq, .ref bq, .ref cq, .long sm, .ref pq, .int ps, .int th])), (mq, .inl (cZ, 12288, .inl fM)), (zq, .inl (cI, 3, .inl fS)), (sq, .inl (cI, 6156, .inl fP)), (bq, .inl (cI, 3, .inl fB)), (cq, .inl (cJ, 64, .inr (.inl fC))), (pq, .inl (cI, 8, .inl fT))] s.heap.size = A at hD ⊢
  have hA : ∀ q : Nat, s.heap.size ≤ q → A q := fun q h => by rw [← hAe]; exact Or.inr h
  have hS : va_S A s.heap s.heap [] := va_S.rf
  have hP : va_P (dC, dI) vwCl [(q, .inr (7, [.ref mq, .ref zq, .ref sq, .ref bq, .ref cq, .long sm, .ref pq, .int ps, .int th])), (mq, .inl (cZ, 12288, .inl fM)), (zq, .inl (cI, 3, .inl fS)), (sq, .inl (cI, 6156, .inl fP)), (bq, .inl (cI, 3, .inl fB)), (cq, .inl (cJ, 64, .inr (.inl fC))), (pq, .inl (cI, 8, .inl fT))] s.heap := hP
  have hl := lv_entry ([.ref q, .int (nI k)]) (n := 2) (Nat.le_of_ble_eq_true rfl)
  rw [lg_entry_eq]
  generalize (lg_sl ([.ref q, .int (nI k)]) ++ List.replicate (2 - (lg_sl ([.ref q, .int (nI k)])).length) Slot.unset).toArray = ls at hl ⊢
  have hl : lv_has ls 2 [(0, .ref q), (1, .int (nI k))] := hl
  refine lv_aload_n hx hb dX8_size_0 rfl (lv_at hl 0 rfl) ?_
  refine lv_iload_n hx hb dX8_size_1 rfl (lv_at hl 1 rfl) ?_
  have hPc := hP.sub (ws' := []) [] rfl
  have hKc := hK.sub (tys' := []) [] rfl
  refine vp_callSi (W.runS (As := [.int (nI k)]) (rest := [.ref q]) ⟨hx, hb, hml, hown, hts⟩ (c_X8_isSet l dC dI (nI k) ) (va_cwS 1 hts gX8_size_X8_isSet rfl rfl rfl (by decide +kernel) ⟨Nat.le_of_ble_eq_true rfl, Nat.le_of_ble_eq_true rfl⟩) ⟨fun a U g mk q => by obtain ⟨q0, qP, qK⟩ := q; exact ⟨q0, qP, va_K.moved (u := U) (U := U.calling g mk a) (Vm.Alike.refl U.vm) qK⟩, fun U hU hW => ⟨rfl, by rw [hU]; exact hPc, va_K.moved hW.alike hKc⟩⟩ rfl rfl hl.1 rfl (lv_room (Nat.le_of_ble_eq_true rfl)) dX8_size_2 ⟨Nat.le_of_ble_eq_true rfl, Nat.le_of_ble_eq_true rfl⟩) (fun r_2 hw_1 => ?_)
  subst hw_1
  refine lv_cvi (congrArg b2i (isS_t hk)) ?_
  have hPc := hP.sub (ws' := [(q, .inr (7, [.ref mq, .ref zq, .ref sq, .ref bq, .ref cq, .long sm, .ref pq, .int ps, .int th])), (mq, .inl (cZ, 12288, .inl fM)), (zq, .inl (cI, 3, .inl fS)), (sq, .inl (cI, 6156, .inl fP)), (bq, .inl (cI, 3, .inl fB)), (cq, .inl (cJ, 64, .inr (.inl fC))), (pq, .inl (cI, 8, .inl fT))]) [0, 1, 2, 3, 4, 5, 6] rfl
  have hKc := hK.sub (tys' := [(cZ, .boolean), (cI, .int), (cJ, .long)]) [0, 1, 2] rfl
  have hDc := hD.sub (ws' := [(q, .inr (7, [.ref mq, .ref zq, .ref sq, .ref bq, .ref cq, .long sm, .ref pq, .int ps, .int th])), (mq, .inl (cZ, 12288, .inl fM)), (zq, .inl (cI, 3, .inl fS)), (sq, .inl (cI, 6156, .inl fP)), (bq, .inl (cI, 3, .inl fB)), (cq, .inl (cJ, 64, .inr (.inl fC))), (pq, .inl (cI, 8, .inl fT))]) [0, 1, 2, 3, 4, 5, 6] (by decide) rfl
  have hFc := va_free (wc := [(q, .inr (7, [.ref mq, .ref zq, .ref sq, .ref bq, .ref cq, .long sm, .ref pq, .int ps, .int th])), (mq, .inl (cZ, 12288, .inl fM)), (zq, .inl (cI, 3, .inl fS)), (sq, .inl (cI, 6156, .inl fP)), (bq, .inl (cI, 3, .inl fB)), (cq, .inl (cJ, 64, .inr (.inl fC))), (pq, .inl (cI, 8, .inl fT))]) hD hS hA [0, 1, 2, 3, 4, 5, 6] rfl
  refine va_calli (va_runV (As := [.int (b2i true)]) (rest := []) ⟨hx, hb, hml, hown, hts⟩ (c_X8_asked l dC dI q mq zq sq bq cq pq cZ cI cJ fM fS fP fB fC sm fT ps th true s.heap.size ) (cwV 1 hts gX8_size_X8_asked rfl rfl rfl (by decide +kernel) ⟨Nat.le_of_ble_eq_true rfl, Nat.le_of_ble_eq_true rfl⟩) ⟨fun a U g mk q => by obtain ⟨q0, q1, qP, qK, qD⟩ := q; exact ⟨q0, q1, qP, va_K.moved (u := U) (U := U.calling g mk a) (Vm.Alike.refl U.vm) qK, qD⟩, va_recv hKc hPc (ci := 7) (q0 := 0) rfl rfl, fun U hU hW => ⟨rfl, by rw [hU], by rw [hU]; exact hPc, va_K.moved hW.alike hKc, hDc.weaken (fun _ _ _ _ => trivial)⟩⟩ rfl rfl hl.1 rfl (lv_room (Nat.le_of_ble_eq_true rfl)) dX8_size_5 ⟨Nat.le_of_ble_eq_true rfl, Nat.le_of_ble_eq_true rfl⟩) hS (fun q _ h => hFc q h) hFc (fun r_5 u_4 t9 H1 locs ht hvm hw_3 hB hz1 hk1 hS => ?_)
  obtain ⟨th'_6, rfl⟩ : ∃ z, z = u_4 := ⟨_, rfl⟩
  obtain ⟨hP1, hK1, hD1⟩ := hB
  rw [ht] at hP1
  have hK1 := va_K.moved hvm.symm hK1
  try dsimp only at hw_3 hP1 hK1 hD1
  obtain ⟨hP, hD⟩ := va_join (wr := []) (w1 := [(q, .inr (7, [.ref mq, .ref zq, .ref sq, .ref bq, .ref cq, .long sm, .ref pq, .int ps, .int th'_6])), (mq, .inl (cZ, 12288, .inl fM)), (zq, .inl (cI, 3, .inl fS)), (sq, .inl (cI, 6156, .inl fP)), (bq, .inl (cI, 3, .inl fB)), (cq, .inl (cJ, 64, .inr (.inl fC))), (pq, .inl (cI, 8, .inl fT))]) hP hD [0, 1, 2, 3, 4, 5, 6] [] rfl rfl (by decide) (by decide) hk1 hFc hP1 hD1
  generalize H1 = H at hP hS ⊢
  have hP : va_P (dC, dI) vwCl [(q, .inr (7, [.ref mq, .ref zq, .ref sq, .ref bq, .ref cq, .long sm, .ref pq, .int ps, .int th'_6])), (mq, .inl (cZ, 12288, .inl fM)), (zq, .inl (cI, 3, .inl fS)), (sq, .inl (cI, 6156, .inl fP)), (bq, .inl (cI, 3, .inl fB)), (cq, .inl (cJ, 64, .inr (.inl fC))), (pq, .inl (cI, 8, .inl fT))] H := hP
  have hD : va_D A [(q, .inr (7, [.ref mq, .ref zq, .ref sq, .ref bq, .ref cq, .long sm, .ref pq, .int ps, .int th'_6])), (mq, .inl (cZ, 12288, .inl fM)), (zq, .inl (cI, 3, .inl fS)), (sq, .inl (cI, 6156, .inl fP)), (bq, .inl (cI, 3, .inl fB)), (cq, .inl (cJ, 64, .inr (.inl fC))), (pq, .inl (cI, 8, .inl fT))] := hD
  obtain ⟨he, hw_3⟩ := hw_3
  subst he
  have hth := hw_3
  refine lv_if_eq (tgt := 20) hx hb dX8_size_8 (by decide) (fun qc_7 => ?_) (fun qc_7 => ?_)
  · have c_7 : true = false := b2i_f qc_7
    cases c_7
  · have c_7 : true = true := b2i_t qc_7
    refine lv_aload_n hx hb dX8_size_11 rfl (lv_at hl 0 rfl) ?_
    refine va_get (D := (dC, dI)) (ci := 7) (v := .ref zq) (C := RX8) (T := TX8) (N := 9) hx hb hts (by decide +kernel) hown hK hP 0 rfl rfl 1 (by decide) (hts (.fieldLink RX8 13 "SmallNumberSetsModel" "size" "[I") (by decide +kernel)) (fun _ h9 => h9) rfl dX8_size_12 ?_
    refine lv_iload_n hx hb dX8_size_15 rfl (lv_at hl 1 rfl) ?_
    refine va_iald hx hb hK hP 2 1 rfl rfl (vp_in_nI (by omega) (by omega)) dX8_size_16 ?_
    refine lv_cvi (congrArg fS (nI_clamp (by omega))) ?_
    refine lv_cvi (hZ k hk) ?_
    refine lv_goto (tgt := 21) hx hb dX8_size_17 (by decide) ?_
    have hP9 := hP.sub (ws' := [(q, .inr (7, [.ref mq, .ref zq, .ref sq, .ref bq, .ref cq, .long sm, .ref pq, .int ps, .int th'_6])), (mq, .inl (cZ, 12288, .inl fM)), (zq, .inl (cI, 3, .inl fS)), (sq, .inl (cI, 6156, .inl fP)), (bq, .inl (cI, 3, .inl fB)), (cq, .inl (cJ, 64, .inr (.inl fC))), (pq, .inl (cI, 8, .inl fT))]) [0, 1, 2, 3, 4, 5, 6] rfl
    have hD9 := hD.sub (ws' := [(q, .inr (7, [.ref mq, .ref zq, .ref sq, .ref bq, .ref cq, .long sm, .ref pq, .int ps, .int th'_6])), (mq, .inl (cZ, 12288, .inl fM)), (zq, .inl (cI, 3, .inl fS)), (sq, .inl (cI, 6156, .inl fP)), (bq, .inl (cI, 3, .inl fB)), (cq, .inl (cJ, 64, .inr (.inl fC))), (pq, .inl (cI, 8, .inl fT))]) [0, 1, 2, 3, 4, 5, 6] (by decide) rfl
    have hK9 := hK.sub (tys' := [(cZ, .boolean), (cI, .int), (cJ, .long)]) [0, 1, 2] rfl
    exact W.iret (v := nI (fb_ct (M k) 4096)) hx hb hr (fun t9 ht hW => ⟨⟨nI (fb_ct (M k) 4096), th'_6, rfl, ⟨rfl, hth⟩, by rw [ht]; exact hP9, va_K.moved hW.alike hK9, hD9⟩, hS.F ht⟩) hS.2.2 dX8_size_21
set_option maxHeartbeats 4000000 in
set_option maxRecDepth 100000 in
/-- reference: c_X8_size_s -/
theorem c_X8_size_s (l : Launch) (dC : Nat → ClassId) (dI : Nat → Nat → Nat) (q : Nat) (mq : Nat) (zq : Nat) (sq : Nat) (bq : Nat) (cq : Nat) (pq : Nat) (cZ : ClassId) (cI : ClassId) (cJ : ClassId) (fM : Nat → Int32) (fS : Nat → Int32) (fP : Nat → Int32) (fB : Nat → Int32) (fC : Nat → Int64) (sm : Int64) (fT : Nat → Int32) (ps : Int32) (th : Int32) (v : Int32) (sz : Nat) (hSf : isS v = false) : Met l yX8_size wsX8_size ({ frames := 2, cells := 0, slots := 0, locals := 42 }) (va_Pc [.ref q, .int v] (fun U => U.heap.size = sz ∧ va_P (dC, dI) vwCl [(q, .inr (7, [.ref mq, .ref zq, .ref sq, .ref bq, .ref cq, .long sm, .ref pq, .int ps, .int th])), (mq, .inl (cZ, 12288, .inl fM)), (zq, .inl (cI, 3, .inl fS)), (sq, .inl (cI, 6156, .inl fP)), (bq, .inl (cI, 3, .inl fB)), (cq, .inl (cJ, 64, .inr (.inl fC))), (pq, .inl (cI, 8, .inl fT))] U.heap ∧ va_K (dC, dI) vwCl [(cZ, .boolean), (cI, .int), (cJ, .long)] U ∧ va_D (fun _ => True) [(q, .inr (7, [.ref mq, .ref zq, .ref sq, .ref bq, .ref cq, .long sm, .ref pq, .int ps, .int th])), (mq, .inl (cZ, 12288, .inl fM)), (zq, .inl (cI, 3, .inl fS)), (sq, .inl (cI, 6156, .inl fP)), (bq, .inl (cI, 3, .inl fB)), (cq, .inl (cJ, 64, .inr (.inl fC))), (pq, .inl (cI, 8, .inl fT))])) (va_Qi (fun (r : Int32) (u : Int32) => u = nI 1) (fun (u : Int32) (t : State) => va_P (dC, dI) vwCl [(q, .inr (7, [.ref mq, .ref zq, .ref sq, .ref bq, .ref cq, .long sm, .ref pq, .int ps, .int u])), (mq, .inl (cZ, 12288, .inl fM)), (zq, .inl (cI, 3, .inl fS)), (sq, .inl (cI, 6156, .inl fP)), (bq, .inl (cI, 3, .inl fB)), (cq, .inl (cJ, 64, .inr (.inl fC))), (pq, .inl (cI, 8, .inl fT))] t.heap ∧ va_K (dC, dI) vwCl [(cZ, .boolean), (cI, .int), (cJ, .long)] t ∧ va_D (va_A [(q, .inr (7, [.ref mq, .ref zq, .ref sq, .ref bq, .ref cq, .long sm, .ref pq, .int ps, .int th])), (mq, .inl (cZ, 12288, .inl fM)), (zq, .inl (cI, 3, .inl fS)), (sq, .inl (cI, 6156, .inl fP)), (bq, .inl (cI, 3, .inl fB)), (cq, .inl (cJ, 64, .inr (.inl fC))), (pq, .inl (cI, 8, .inl fT))] sz) [(q, .inr (7, [.ref mq, .ref zq, .ref sq, .ref bq, .ref cq, .long sm, .ref pq, .int ps, .int u])), (mq, .inl (cZ, 12288, .inl fM)), (zq, .inl (cI, 3, .inl fS)), (sq, .inl (cI, 6156, .inl fP)), (bq, .inl (cI, 3, .inl fB)), (cq, .inl (cJ, 64, .inr (.inl fC))), (pq, .inl (cI, 8, .inl fT))]) (va_A [(q, .inr (7, [.ref mq, .ref zq, .ref sq, .ref bq, .ref cq, .long sm, .ref pq, .int ps, .int th])), (mq, .inl (cZ, 12288, .inl fM)), (zq, .inl (cI, 3, .inl fS)), (sq, .inl (cI, 6156, .inl fP)), (bq, .inl (cI, 3, .inl fB)), (cq, .inl (cJ, 64, .inr (.inl fC))), (pq, .inl (cI, 8, .inl fT))] sz)) 0 0 (va_A [(q, .inr (7, [.ref mq, .ref zq, .ref sq, .ref bq, .ref cq, .long sm, .ref pq, .int ps, .int th])), (mq, .inl (cZ, 12288, .inl fM)), (zq, .inl (cI, 3, .inl fS)), (sq, .inl (cI, 6156, .inl fP)), (bq, .inl (cI, 3, .inl fB)), (cq, .inl (cJ, 64, .inr (.inl fC))), (pq, .inl (cI, 8, .inl fT))] sz) := by
  refine Met.ofW (cc := cX8_size) (maxL := 2) (ret := (some .int)) (by decide) rfl ?_
  intro p e s m args below meth c s₁ B hml hv
  obtain ⟨rfl, hsz, hP, hK, hD0⟩ := hv
  have hx := B.exec
  have hb := B.bytes
  have hr := B.returns
  have hts := atoms_spec (ws := wsX8_size) B.pre
  have hown : s.vm.findClass RX8 = some m.cls := findClass_of_methodNamed B.named
  have hlocks := B.notSynchronized
  subst hsz
  have hD := hD0.self (sz := s.heap.size)
  generalize hAe : va_A [(q, .inr (7, [.ref mq, .ref zq, .ref sq, .ref bq, .ref cq, .long sm, .ref pq, .int ps, .int th])), (mq, .inl (cZ, 12288, .inl fM)), (zq, .inl (cI, 3, .inl fS)), (sq, .inl (cI, 6156, .inl fP)), (bq, .inl (cI, 3, .inl fB)), (cq, .inl (cJ, 64, .inr (.inl fC))), (pq, .inl (cI, 8, .inl fT))] s.heap.size = A at hD ⊢
  have hA : ∀ q : Nat, s.heap.size ≤ q → A q := fun q h => by rw [← hAe]; exact Or.inr h
  have hS : va_S A s.heap s.heap [] := va_S.rf
  have hP : va_P (dC, dI) vwCl [(q, .inr (7, [.ref mq, .ref zq, .ref sq, .ref bq, .ref cq, .long sm, .ref pq, .int ps, .int th])), (mq, .inl (cZ, 12288, .inl fM)), (zq, .inl (cI, 3, .inl fS)), (sq, .inl (cI, 6156, .inl fP)), (bq, .inl (cI, 3, .inl fB)), (cq, .inl (cJ, 64, .inr (.inl fC))), (pq, .inl (cI, 8, .inl fT))] s.heap := hP
  have hl := lv_entry ([.ref q, .int v]) (n := 2) (Nat.le_of_ble_eq_true rfl)
  rw [lg_entry_eq]
  generalize (lg_sl ([.ref q, .int v]) ++ List.replicate (2 - (lg_sl ([.ref q, .int v])).length) Slot.unset).toArray = ls at hl ⊢
  have hl : lv_has ls 2 [(0, .ref q), (1, .int v)] := hl
  refine lv_aload_n hx hb dX8_size_0 rfl (lv_at hl 0 rfl) ?_
  refine lv_iload_n hx hb dX8_size_1 rfl (lv_at hl 1 rfl) ?_
  have hPc := hP.sub (ws' := []) [] rfl
  have hKc := hK.sub (tys' := []) [] rfl
  refine vp_callSi (W.runS (As := [.int v]) (rest := [.ref q]) ⟨hx, hb, hml, hown, hts⟩ (c_X8_isSet l dC dI v ) (va_cwS 1 hts gX8_size_X8_isSet rfl rfl rfl (by decide +kernel) ⟨Nat.le_of_ble_eq_true rfl, Nat.le_of_ble_eq_true rfl⟩) ⟨fun a U g mk q => by obtain ⟨q0, qP, qK⟩ := q; exact ⟨q0, qP, va_K.moved (u := U) (U := U.calling g mk a) (Vm.Alike.refl U.vm) qK⟩, fun U hU hW => ⟨rfl, by rw [hU]; exact hPc, va_K.moved hW.alike hKc⟩⟩ rfl rfl hl.1 rfl (lv_room (Nat.le_of_ble_eq_true rfl)) dX8_size_2 ⟨Nat.le_of_ble_eq_true rfl, Nat.le_of_ble_eq_true rfl⟩) (fun r_2 hw_1 => ?_)
  subst hw_1
  refine lv_cvi (congrArg b2i (hSf)) ?_
  have hPc := hP.sub (ws' := [(q, .inr (7, [.ref mq, .ref zq, .ref sq, .ref bq, .ref cq, .long sm, .ref pq, .int ps, .int th])), (mq, .inl (cZ, 12288, .inl fM)), (zq, .inl (cI, 3, .inl fS)), (sq, .inl (cI, 6156, .inl fP)), (bq, .inl (cI, 3, .inl fB)), (cq, .inl (cJ, 64, .inr (.inl fC))), (pq, .inl (cI, 8, .inl fT))]) [0, 1, 2, 3, 4, 5, 6] rfl
  have hKc := hK.sub (tys' := [(cZ, .boolean), (cI, .int), (cJ, .long)]) [0, 1, 2] rfl
  have hDc := hD.sub (ws' := [(q, .inr (7, [.ref mq, .ref zq, .ref sq, .ref bq, .ref cq, .long sm, .ref pq, .int ps, .int th])), (mq, .inl (cZ, 12288, .inl fM)), (zq, .inl (cI, 3, .inl fS)), (sq, .inl (cI, 6156, .inl fP)), (bq, .inl (cI, 3, .inl fB)), (cq, .inl (cJ, 64, .inr (.inl fC))), (pq, .inl (cI, 8, .inl fT))]) [0, 1, 2, 3, 4, 5, 6] (by decide) rfl
  have hFc := va_free (wc := [(q, .inr (7, [.ref mq, .ref zq, .ref sq, .ref bq, .ref cq, .long sm, .ref pq, .int ps, .int th])), (mq, .inl (cZ, 12288, .inl fM)), (zq, .inl (cI, 3, .inl fS)), (sq, .inl (cI, 6156, .inl fP)), (bq, .inl (cI, 3, .inl fB)), (cq, .inl (cJ, 64, .inr (.inl fC))), (pq, .inl (cI, 8, .inl fT))]) hD hS hA [0, 1, 2, 3, 4, 5, 6] rfl
  refine va_calli (va_runV (As := [.int (b2i false)]) (rest := []) ⟨hx, hb, hml, hown, hts⟩ (c_X8_asked l dC dI q mq zq sq bq cq pq cZ cI cJ fM fS fP fB fC sm fT ps th false s.heap.size ) (cwV 1 hts gX8_size_X8_asked rfl rfl rfl (by decide +kernel) ⟨Nat.le_of_ble_eq_true rfl, Nat.le_of_ble_eq_true rfl⟩) ⟨fun a U g mk q => by obtain ⟨q0, q1, qP, qK, qD⟩ := q; exact ⟨q0, q1, qP, va_K.moved (u := U) (U := U.calling g mk a) (Vm.Alike.refl U.vm) qK, qD⟩, va_recv hKc hPc (ci := 7) (q0 := 0) rfl rfl, fun U hU hW => ⟨rfl, by rw [hU], by rw [hU]; exact hPc, va_K.moved hW.alike hKc, hDc.weaken (fun _ _ _ _ => trivial)⟩⟩ rfl rfl hl.1 rfl (lv_room (Nat.le_of_ble_eq_true rfl)) dX8_size_5 ⟨Nat.le_of_ble_eq_true rfl, Nat.le_of_ble_eq_true rfl⟩) hS (fun q _ h => hFc q h) hFc (fun r_5 u_4 t9 H1 locs ht hvm hw_3 hB hz1 hk1 hS => ?_)
  obtain ⟨th'_6, rfl⟩ : ∃ z, z = u_4 := ⟨_, rfl⟩
  obtain ⟨hP1, hK1, hD1⟩ := hB
  rw [ht] at hP1
  have hK1 := va_K.moved hvm.symm hK1
  try dsimp only at hw_3 hP1 hK1 hD1
  obtain ⟨hP, hD⟩ := va_join (wr := []) (w1 := [(q, .inr (7, [.ref mq, .ref zq, .ref sq, .ref bq, .ref cq, .long sm, .ref pq, .int ps, .int th'_6])), (mq, .inl (cZ, 12288, .inl fM)), (zq, .inl (cI, 3, .inl fS)), (sq, .inl (cI, 6156, .inl fP)), (bq, .inl (cI, 3, .inl fB)), (cq, .inl (cJ, 64, .inr (.inl fC))), (pq, .inl (cI, 8, .inl fT))]) hP hD [0, 1, 2, 3, 4, 5, 6] [] rfl rfl (by decide) (by decide) hk1 hFc hP1 hD1
  generalize H1 = H at hP hS ⊢
  have hP : va_P (dC, dI) vwCl [(q, .inr (7, [.ref mq, .ref zq, .ref sq, .ref bq, .ref cq, .long sm, .ref pq, .int ps, .int th'_6])), (mq, .inl (cZ, 12288, .inl fM)), (zq, .inl (cI, 3, .inl fS)), (sq, .inl (cI, 6156, .inl fP)), (bq, .inl (cI, 3, .inl fB)), (cq, .inl (cJ, 64, .inr (.inl fC))), (pq, .inl (cI, 8, .inl fT))] H := hP
  have hD : va_D A [(q, .inr (7, [.ref mq, .ref zq, .ref sq, .ref bq, .ref cq, .long sm, .ref pq, .int ps, .int th'_6])), (mq, .inl (cZ, 12288, .inl fM)), (zq, .inl (cI, 3, .inl fS)), (sq, .inl (cI, 6156, .inl fP)), (bq, .inl (cI, 3, .inl fB)), (cq, .inl (cJ, 64, .inr (.inl fC))), (pq, .inl (cI, 8, .inl fT))] := hD
  obtain ⟨he, hw_3⟩ := hw_3
  subst he
  have hth := hw_3
  refine lv_if_eq (tgt := 20) hx hb dX8_size_8 (by decide) (fun qc_7 => ?_) (fun qc_7 => ?_)
  · have c_7 : false = false := b2i_f qc_7
    refine lv_iconst (v := nI 0) hx hb dX8_size_20 (by decide +kernel) ?_
    have hP9 := hP.sub (ws' := [(q, .inr (7, [.ref mq, .ref zq, .ref sq, .ref bq, .ref cq, .long sm, .ref pq, .int ps, .int th'_6])), (mq, .inl (cZ, 12288, .inl fM)), (zq, .inl (cI, 3, .inl fS)), (sq, .inl (cI, 6156, .inl fP)), (bq, .inl (cI, 3, .inl fB)), (cq, .inl (cJ, 64, .inr (.inl fC))), (pq, .inl (cI, 8, .inl fT))]) [0, 1, 2, 3, 4, 5, 6] rfl
    have hD9 := hD.sub (ws' := [(q, .inr (7, [.ref mq, .ref zq, .ref sq, .ref bq, .ref cq, .long sm, .ref pq, .int ps, .int th'_6])), (mq, .inl (cZ, 12288, .inl fM)), (zq, .inl (cI, 3, .inl fS)), (sq, .inl (cI, 6156, .inl fP)), (bq, .inl (cI, 3, .inl fB)), (cq, .inl (cJ, 64, .inr (.inl fC))), (pq, .inl (cI, 8, .inl fT))]) [0, 1, 2, 3, 4, 5, 6] (by decide) rfl
    have hK9 := hK.sub (tys' := [(cZ, .boolean), (cI, .int), (cJ, .long)]) [0, 1, 2] rfl
    exact W.iret (v := nI 0) hx hb hr (fun t9 ht hW => ⟨⟨nI 0, th'_6, rfl, hth, by rw [ht]; exact hP9, va_K.moved hW.alike hK9, hD9⟩, hS.F ht⟩) hS.2.2 dX8_size_21
  · have c_7 : false = true := b2i_t qc_7
    cases c_7
set_option maxHeartbeats 4000000 in
set_option maxRecDepth 100000 in
/-- reference: c_X8_buckets_v -/
theorem c_X8_buckets_v (l : Launch) (dC : Nat → ClassId) (dI : Nat → Nat → Nat) (q : Nat) (mq : Nat) (zq : Nat) (sq : Nat) (bq : Nat) (cq : Nat) (pq : Nat) (cZ : ClassId) (cI : ClassId) (cJ : ClassId) (fM : Nat → Int32) (fS : Nat → Int32) (fP : Nat → Int32) (fB : Nat → Int32) (fC : Nat → Int64) (sm : Int64) (fT : Nat → Int32) (ps : Int32) (th : Int32) (P : Nat → Nat → Bool) (k : Nat) (sz : Nat) (hX : MX fP fB P) (hk : k < 3) : Met l yX8_buckets wsX8_buckets ({ frames := 2, cells := 0, slots := 0, locals := 42 }) (va_Pc [.ref q, .int (nI k)] (fun U => U.heap.size = sz ∧ va_P (dC, dI) vwCl [(q, .inr (7, [.ref mq, .ref zq, .ref sq, .ref bq, .ref cq, .long sm, .ref pq, .int ps, .int th])), (mq, .inl (cZ, 12288, .inl fM)), (zq, .inl (cI, 3, .inl fS)), (sq, .inl (cI, 6156, .inl fP)), (bq, .inl (cI, 3, .inl fB)), (cq, .inl (cJ, 64, .inr (.inl fC))), (pq, .inl (cI, 8, .inl fT))] U.heap ∧ va_K (dC, dI) vwCl [(cZ, .boolean), (cI, .int), (cJ, .long)] U ∧ va_D (fun _ => True) [(q, .inr (7, [.ref mq, .ref zq, .ref sq, .ref bq, .ref cq, .long sm, .ref pq, .int ps, .int th])), (mq, .inl (cZ, 12288, .inl fM)), (zq, .inl (cI, 3, .inl fS)), (sq, .inl (cI, 6156, .inl fP)), (bq, .inl (cI, 3, .inl fB)), (cq, .inl (cJ, 64, .inr (.inl fC))), (pq, .inl (cI, 8, .inl fT))])) (va_Qi (fun (r : Int32) (u : Int32) => r = nI (fb_ct (P k) 4096) ∧ u = nI 0) (fun (u : Int32) (t : State) => va_P (dC, dI) vwCl [(q, .inr (7, [.ref mq, .ref zq, .ref sq, .ref bq, .ref cq, .long sm, .ref pq, .int ps, .int u])), (mq, .inl (cZ, 12288, .inl fM)), (zq, .inl (cI, 3, .inl fS)), (sq, .inl (cI, 6156, .inl fP)), (bq, .inl (cI, 3, .inl fB)), (cq, .inl (cJ, 64, .inr (.inl fC))), (pq, .inl (cI, 8, .inl fT))] t.heap ∧ va_K (dC, dI) vwCl [(cZ, .boolean), (cI, .int), (cJ, .long)] t ∧ va_D (va_A [(q, .inr (7, [.ref mq, .ref zq, .ref sq, .ref bq, .ref cq, .long sm, .ref pq, .int ps, .int th])), (mq, .inl (cZ, 12288, .inl fM)), (zq, .inl (cI, 3, .inl fS)), (sq, .inl (cI, 6156, .inl fP)), (bq, .inl (cI, 3, .inl fB)), (cq, .inl (cJ, 64, .inr (.inl fC))), (pq, .inl (cI, 8, .inl fT))] sz) [(q, .inr (7, [.ref mq, .ref zq, .ref sq, .ref bq, .ref cq, .long sm, .ref pq, .int ps, .int u])), (mq, .inl (cZ, 12288, .inl fM)), (zq, .inl (cI, 3, .inl fS)), (sq, .inl (cI, 6156, .inl fP)), (bq, .inl (cI, 3, .inl fB)), (cq, .inl (cJ, 64, .inr (.inl fC))), (pq, .inl (cI, 8, .inl fT))]) (va_A [(q, .inr (7, [.ref mq, .ref zq, .ref sq, .ref bq, .ref cq, .long sm, .ref pq, .int ps, .int th])), (mq, .inl (cZ, 12288, .inl fM)), (zq, .inl (cI, 3, .inl fS)), (sq, .inl (cI, 6156, .inl fP)), (bq, .inl (cI, 3, .inl fB)), (cq, .inl (cJ, 64, .inr (.inl fC))), (pq, .inl (cI, 8, .inl fT))] sz)) 0 0 (va_A [(q, .inr (7, [.ref mq, .ref zq, .ref sq, .ref bq, .ref cq, .long sm, .ref pq, .int ps, .int th])), (mq, .inl (cZ, 12288, .inl fM)), (zq, .inl (cI, 3, .inl fS)), (sq, .inl (cI, 6156, .inl fP)), (bq, .inl (cI, 3, .inl fB)), (cq, .inl (cJ, 64, .inr (.inl fC))), (pq, .inl (cI, 8, .inl fT))] sz) := by
  refine Met.ofW (cc := cX8_buckets) (maxL := 2) (ret := (some .int)) (by decide) rfl ?_
  intro p e s m args below meth c s₁ B hml hv
  obtain ⟨rfl, hsz, hP, hK, hD0⟩ := hv
  have hx := B.exec
  have hb := B.bytes
  have hr := B.returns
  have hts := atoms_spec (ws := wsX8_buckets) B.pre
  have hown : s.vm.findClass RX8 = some m.cls := findClass_of_methodNamed B.named
  have hlocks := B.notSynchronized
  subst hsz
  have hD := hD0.self (sz := s.heap.size)
  generalize hAe : va_A [(q, .inr (7, [.ref mq, .ref zq, .ref sq, .ref bq, .ref cq, .long sm, .ref pq, .int ps, .int th])), (mq, .inl (cZ, 12288, .inl fM)), (zq, .inl (cI, 3, .inl fS)), (sq, .inl (cI, 6156, .inl fP)), (bq, .inl (cI, 3, .inl fB)), (cq, .inl (cJ, 64, .inr (.inl fC))), (pq, .inl (cI, 8, .inl fT))] s.heap.size = A at hD ⊢
  have hA : ∀ q : Nat, s.heap.size ≤ q → A q := fun q h => by rw [← hAe]; exact Or.inr h
  have hS : va_S A s.heap s.heap [] := va_S.rf
  have hP : va_P (dC, dI) vwCl [(q, .inr (7, [.ref mq, .ref zq, .ref sq, .ref bq, .ref cq, .long sm, .ref pq, .int ps, .int th])), (mq, .inl (cZ, 12288, .inl fM)), (zq, .inl (cI, 3, .inl fS)), (sq, .inl (cI, 6156, .inl fP)), (bq, .inl (cI, 3, .inl fB)), (cq, .inl (cJ, 64, .inr (.inl fC))), (pq, .inl (cI, 8, .inl fT))] s.heap := hP
  have hl := lv_entry ([.ref q, .int (nI k)]) (n := 2) (Nat.le_of_ble_eq_true rfl)
  rw [lg_entry_eq]
  generalize (lg_sl ([.ref q, .int (nI k)]) ++ List.replicate (2 - (lg_sl ([.ref q, .int (nI k)])).length) Slot.unset).toArray = ls at hl ⊢
  have hl : lv_has ls 2 [(0, .ref q), (1, .int (nI k))] := hl
  refine lv_aload_n hx hb dX8_buckets_0 rfl (lv_at hl 0 rfl) ?_
  refine lv_iload_n hx hb dX8_buckets_1 rfl (lv_at hl 1 rfl) ?_
  have hPc := hP.sub (ws' := []) [] rfl
  have hKc := hK.sub (tys' := []) [] rfl
  refine vp_callSi (W.runS (As := [.int (nI k)]) (rest := [.ref q]) ⟨hx, hb, hml, hown, hts⟩ (c_X8_isSet l dC dI (nI k) ) (va_cwS 1 hts gX8_buckets_X8_isSet rfl rfl rfl (by decide +kernel) ⟨Nat.le_of_ble_eq_true rfl, Nat.le_of_ble_eq_true rfl⟩) ⟨fun a U g mk q => by obtain ⟨q0, qP, qK⟩ := q; exact ⟨q0, qP, va_K.moved (u := U) (U := U.calling g mk a) (Vm.Alike.refl U.vm) qK⟩, fun U hU hW => ⟨rfl, by rw [hU]; exact hPc, va_K.moved hW.alike hKc⟩⟩ rfl rfl hl.1 rfl (lv_room (Nat.le_of_ble_eq_true rfl)) dX8_buckets_2 ⟨Nat.le_of_ble_eq_true rfl, Nat.le_of_ble_eq_true rfl⟩) (fun r_2 hw_1 => ?_)
  subst hw_1
  refine lv_cvi (congrArg b2i (isS_t hk)) ?_
  have hPc := hP.sub (ws' := [(q, .inr (7, [.ref mq, .ref zq, .ref sq, .ref bq, .ref cq, .long sm, .ref pq, .int ps, .int th])), (mq, .inl (cZ, 12288, .inl fM)), (zq, .inl (cI, 3, .inl fS)), (sq, .inl (cI, 6156, .inl fP)), (bq, .inl (cI, 3, .inl fB)), (cq, .inl (cJ, 64, .inr (.inl fC))), (pq, .inl (cI, 8, .inl fT))]) [0, 1, 2, 3, 4, 5, 6] rfl
  have hKc := hK.sub (tys' := [(cZ, .boolean), (cI, .int), (cJ, .long)]) [0, 1, 2] rfl
  have hDc := hD.sub (ws' := [(q, .inr (7, [.ref mq, .ref zq, .ref sq, .ref bq, .ref cq, .long sm, .ref pq, .int ps, .int th])), (mq, .inl (cZ, 12288, .inl fM)), (zq, .inl (cI, 3, .inl fS)), (sq, .inl (cI, 6156, .inl fP)), (bq, .inl (cI, 3, .inl fB)), (cq, .inl (cJ, 64, .inr (.inl fC))), (pq, .inl (cI, 8, .inl fT))]) [0, 1, 2, 3, 4, 5, 6] (by decide) rfl
  have hFc := va_free (wc := [(q, .inr (7, [.ref mq, .ref zq, .ref sq, .ref bq, .ref cq, .long sm, .ref pq, .int ps, .int th])), (mq, .inl (cZ, 12288, .inl fM)), (zq, .inl (cI, 3, .inl fS)), (sq, .inl (cI, 6156, .inl fP)), (bq, .inl (cI, 3, .inl fB)), (cq, .inl (cJ, 64, .inr (.inl fC))), (pq, .inl (cI, 8, .inl fT))]) hD hS hA [0, 1, 2, 3, 4, 5, 6] rfl
  refine va_calli (va_runV (As := [.int (b2i true)]) (rest := []) ⟨hx, hb, hml, hown, hts⟩ (c_X8_asked l dC dI q mq zq sq bq cq pq cZ cI cJ fM fS fP fB fC sm fT ps th true s.heap.size ) (cwV 1 hts gX8_buckets_X8_asked rfl rfl rfl (by decide +kernel) ⟨Nat.le_of_ble_eq_true rfl, Nat.le_of_ble_eq_true rfl⟩) ⟨fun a U g mk q => by obtain ⟨q0, q1, qP, qK, qD⟩ := q; exact ⟨q0, q1, qP, va_K.moved (u := U) (U := U.calling g mk a) (Vm.Alike.refl U.vm) qK, qD⟩, va_recv hKc hPc (ci := 7) (q0 := 0) rfl rfl, fun U hU hW => ⟨rfl, by rw [hU], by rw [hU]; exact hPc, va_K.moved hW.alike hKc, hDc.weaken (fun _ _ _ _ => trivial)⟩⟩ rfl rfl hl.1 rfl (lv_room (Nat.le_of_ble_eq_true rfl)) dX8_buckets_5 ⟨Nat.le_of_ble_eq_true rfl, Nat.le_of_ble_eq_true rfl⟩) hS (fun q _ h => hFc q h) hFc (fun r_5 u_4 t9 H1 locs ht hvm hw_3 hB hz1 hk1 hS => ?_)
  obtain ⟨th'_6, rfl⟩ : ∃ z, z = u_4 := ⟨_, rfl⟩
  obtain ⟨hP1, hK1, hD1⟩ := hB
  rw [ht] at hP1
  have hK1 := va_K.moved hvm.symm hK1
  try dsimp only at hw_3 hP1 hK1 hD1
  obtain ⟨hP, hD⟩ := va_join (wr := []) (w1 := [(q, .inr (7, [.ref mq, .ref zq, .ref sq, .ref bq, .ref cq, .long sm, .ref pq, .int ps, .int th'_6])), (mq, .inl (cZ, 12288, .inl fM)), (zq, .inl (cI, 3, .inl fS)), (sq, .inl (cI, 6156, .inl fP)), (bq, .inl (cI, 3, .inl fB)), (cq, .inl (cJ, 64, .inr (.inl fC))), (pq, .inl (cI, 8, .inl fT))]) hP hD [0, 1, 2, 3, 4, 5, 6] [] rfl rfl (by decide) (by decide) hk1 hFc hP1 hD1
  generalize H1 = H at hP hS ⊢
  have hP : va_P (dC, dI) vwCl [(q, .inr (7, [.ref mq, .ref zq, .ref sq, .ref bq, .ref cq, .long sm, .ref pq, .int ps, .int th'_6])), (mq, .inl (cZ, 12288, .inl fM)), (zq, .inl (cI, 3, .inl fS)), (sq, .inl (cI, 6156, .inl fP)), (bq, .inl (cI, 3, .inl fB)), (cq, .inl (cJ, 64, .inr (.inl fC))), (pq, .inl (cI, 8, .inl fT))] H := hP
  have hD : va_D A [(q, .inr (7, [.ref mq, .ref zq, .ref sq, .ref bq, .ref cq, .long sm, .ref pq, .int ps, .int th'_6])), (mq, .inl (cZ, 12288, .inl fM)), (zq, .inl (cI, 3, .inl fS)), (sq, .inl (cI, 6156, .inl fP)), (bq, .inl (cI, 3, .inl fB)), (cq, .inl (cJ, 64, .inr (.inl fC))), (pq, .inl (cI, 8, .inl fT))] := hD
  obtain ⟨he, hw_3⟩ := hw_3
  subst he
  have hth := hw_3
  refine lv_if_eq (tgt := 20) hx hb dX8_buckets_8 (by decide) (fun qc_7 => ?_) (fun qc_7 => ?_)
  · have c_7 : true = false := b2i_f qc_7
    cases c_7
  · have c_7 : true = true := b2i_t qc_7
    refine lv_aload_n hx hb dX8_buckets_11 rfl (lv_at hl 0 rfl) ?_
    refine va_get (D := (dC, dI)) (ci := 7) (v := .ref bq) (C := RX8) (T := TX8) (N := 9) hx hb hts (by decide +kernel) hown hK hP 0 rfl rfl 3 (by decide) (hts (.fieldLink RX8 20 "SmallNumberSetsModel" "buckets" "[I") (by decide +kernel)) (fun _ h9 => h9) rfl dX8_buckets_12 ?_
    refine lv_iload_n hx hb dX8_buckets_15 rfl (lv_at hl 1 rfl) ?_
    refine va_iald hx hb hK hP 4 1 rfl rfl (vp_in_nI (by omega) (by omega)) dX8_buckets_16 ?_
    refine lv_cvi (congrArg fB (nI_clamp (by omega))) ?_
    refine lv_cvi ((hX k hk).1) ?_
    refine lv_goto (tgt := 21) hx hb dX8_buckets_17 (by decide) ?_
    have hP9 := hP.sub (ws' := [(q, .inr (7, [.ref mq, .ref zq, .ref sq, .ref bq, .ref cq, .long sm, .ref pq, .int ps, .int th'_6])), (mq, .inl (cZ, 12288, .inl fM)), (zq, .inl (cI, 3, .inl fS)), (sq, .inl (cI, 6156, .inl fP)), (bq, .inl (cI, 3, .inl fB)), (cq, .inl (cJ, 64, .inr (.inl fC))), (pq, .inl (cI, 8, .inl fT))]) [0, 1, 2, 3, 4, 5, 6] rfl
    have hD9 := hD.sub (ws' := [(q, .inr (7, [.ref mq, .ref zq, .ref sq, .ref bq, .ref cq, .long sm, .ref pq, .int ps, .int th'_6])), (mq, .inl (cZ, 12288, .inl fM)), (zq, .inl (cI, 3, .inl fS)), (sq, .inl (cI, 6156, .inl fP)), (bq, .inl (cI, 3, .inl fB)), (cq, .inl (cJ, 64, .inr (.inl fC))), (pq, .inl (cI, 8, .inl fT))]) [0, 1, 2, 3, 4, 5, 6] (by decide) rfl
    have hK9 := hK.sub (tys' := [(cZ, .boolean), (cI, .int), (cJ, .long)]) [0, 1, 2] rfl
    exact W.iret (v := nI (fb_ct (P k) 4096)) hx hb hr (fun t9 ht hW => ⟨⟨nI (fb_ct (P k) 4096), th'_6, rfl, ⟨rfl, hth⟩, by rw [ht]; exact hP9, va_K.moved hW.alike hK9, hD9⟩, hS.F ht⟩) hS.2.2 dX8_buckets_21
set_option maxHeartbeats 4000000 in
set_option maxRecDepth 100000 in
/-- reference: c_X8_buckets_s -/
theorem c_X8_buckets_s (l : Launch) (dC : Nat → ClassId) (dI : Nat → Nat → Nat) (q : Nat) (mq : Nat) (zq : Nat) (sq : Nat) (bq : Nat) (cq : Nat) (pq : Nat) (cZ : ClassId) (cI : ClassId) (cJ : ClassId) (fM : Nat → Int32) (fS : Nat → Int32) (fP : Nat → Int32) (fB : Nat → Int32) (fC : Nat → Int64) (sm : Int64) (fT : Nat → Int32) (ps : Int32) (th : Int32) (v : Int32) (sz : Nat) (hSf : isS v = false) : Met l yX8_buckets wsX8_buckets ({ frames := 2, cells := 0, slots := 0, locals := 42 }) (va_Pc [.ref q, .int v] (fun U => U.heap.size = sz ∧ va_P (dC, dI) vwCl [(q, .inr (7, [.ref mq, .ref zq, .ref sq, .ref bq, .ref cq, .long sm, .ref pq, .int ps, .int th])), (mq, .inl (cZ, 12288, .inl fM)), (zq, .inl (cI, 3, .inl fS)), (sq, .inl (cI, 6156, .inl fP)), (bq, .inl (cI, 3, .inl fB)), (cq, .inl (cJ, 64, .inr (.inl fC))), (pq, .inl (cI, 8, .inl fT))] U.heap ∧ va_K (dC, dI) vwCl [(cZ, .boolean), (cI, .int), (cJ, .long)] U ∧ va_D (fun _ => True) [(q, .inr (7, [.ref mq, .ref zq, .ref sq, .ref bq, .ref cq, .long sm, .ref pq, .int ps, .int th])), (mq, .inl (cZ, 12288, .inl fM)), (zq, .inl (cI, 3, .inl fS)), (sq, .inl (cI, 6156, .inl fP)), (bq, .inl (cI, 3, .inl fB)), (cq, .inl (cJ, 64, .inr (.inl fC))), (pq, .inl (cI, 8, .inl fT))])) (va_Qi (fun (r : Int32) (u : Int32) => u = nI 1) (fun (u : Int32) (t : State) => va_P (dC, dI) vwCl [(q, .inr (7, [.ref mq, .ref zq, .ref sq, .ref bq, .ref cq, .long sm, .ref pq, .int ps, .int u])), (mq, .inl (cZ, 12288, .inl fM)), (zq, .inl (cI, 3, .inl fS)), (sq, .inl (cI, 6156, .inl fP)), (bq, .inl (cI, 3, .inl fB)), (cq, .inl (cJ, 64, .inr (.inl fC))), (pq, .inl (cI, 8, .inl fT))] t.heap ∧ va_K (dC, dI) vwCl [(cZ, .boolean), (cI, .int), (cJ, .long)] t ∧ va_D (va_A [(q, .inr (7, [.ref mq, .ref zq, .ref sq, .ref bq, .ref cq, .long sm, .ref pq, .int ps, .int th])), (mq, .inl (cZ, 12288, .inl fM)), (zq, .inl (cI, 3, .inl fS)), (sq, .inl (cI, 6156, .inl fP)), (bq, .inl (cI, 3, .inl fB)), (cq, .inl (cJ, 64, .inr (.inl fC))), (pq, .inl (cI, 8, .inl fT))] sz) [(q, .inr (7, [.ref mq, .ref zq, .ref sq, .ref bq, .ref cq, .long sm, .ref pq, .int ps, .int u])), (mq, .inl (cZ, 12288, .inl fM)), (zq, .inl (cI, 3, .inl fS)), (sq, .inl (cI, 6156, .inl fP)), (bq, .inl (cI, 3, .inl fB)), (cq, .inl (cJ, 64, .inr (.inl fC))), (pq, .inl (cI, 8, .inl fT))]) (va_A [(q, .inr (7, [.ref mq, .ref zq, .ref sq, .ref bq, .ref cq, .long sm, .ref pq, .int ps, .int th])), (mq, .inl (cZ, 12288, .inl fM)), (zq, .inl (cI, 3, .inl fS)), (sq, .inl (cI, 6156, .inl fP)), (bq, .inl (cI, 3, .inl fB)), (cq, .inl (cJ, 64, .inr (.inl fC))), (pq, .inl (cI, 8, .inl fT))] sz)) 0 0 (va_A [(q, .inr (7, [.ref mq, .ref zq, .ref sq, .ref bq, .ref cq, .long sm, .ref pq, .int ps, .int th])), (mq, .inl (cZ, 12288, .inl fM)), (zq, .inl (cI, 3, .inl fS)), (sq, .inl (cI, 6156, .inl fP)), (bq, .inl (cI, 3, .inl fB)), (cq, .inl (cJ, 64, .inr (.inl fC))), (pq, .inl (cI, 8, .inl fT))] sz) := by
  refine Met.ofW (cc := cX8_buckets) (maxL := 2) (ret := (some .int)) (by decide) rfl ?_
  intro p e s m args below meth c s₁ B hml hv
  obtain ⟨rfl, hsz, hP, hK, hD0⟩ := hv
  have hx := B.exec
  have hb := B.bytes
  have hr := B.returns
  have hts := atoms_spec (ws := wsX8_buckets) B.pre
  have hown : s.vm.findClass RX8 = some m.cls := findClass_of_methodNamed B.named
  have hlocks := B.notSynchronized
  subst hsz
  have hD := hD0.self (sz := s.heap.size)
  generalize hAe : va_A [(q, .inr (7, [.ref mq, .ref zq, .ref sq, .ref bq, .ref cq, .long sm, .ref pq, .int ps, .int th])), (mq, .inl (cZ, 12288, .inl fM)), (zq, .inl (cI, 3, .inl fS)), (sq, .inl (cI, 6156, .inl fP)), (bq, .inl (cI, 3, .inl fB)), (cq, .inl (cJ, 64, .inr (.inl fC))), (pq, .inl (cI, 8, .inl fT))] s.heap.size = A at hD ⊢
  have hA : ∀ q : Nat, s.heap.size ≤ q → A q := fun q h => by rw [← hAe]; exact Or.inr h
  have hS : va_S A s.heap s.heap [] := va_S.rf
  have hP : va_P (dC, dI) vwCl [(q, .inr (7, [.ref mq, .ref zq, .ref sq, .ref bq, .ref cq, .long sm, .ref pq, .int ps, .int th])), (mq, .inl (cZ, 12288, .inl fM)), (zq, .inl (cI, 3, .inl fS)), (sq, .inl (cI, 6156, .inl fP)), (bq, .inl (cI, 3, .inl fB)), (cq, .inl (cJ, 64, .inr (.inl fC))), (pq, .inl (cI, 8, .inl fT))] s.heap := hP
  have hl := lv_entry ([.ref q, .int v]) (n := 2) (Nat.le_of_ble_eq_true rfl)
  rw [lg_entry_eq]
  generalize (lg_sl ([.ref q, .int v]) ++ List.replicate (2 - (lg_sl ([.ref q, .int v])).length) Slot.unset).toArray = ls at hl ⊢
  have hl : lv_has ls 2 [(0, .ref q), (1, .int v)] := hl
  refine lv_aload_n hx hb dX8_buckets_0 rfl (lv_at hl 0 rfl) ?_
  refine lv_iload_n hx hb dX8_buckets_1 rfl (lv_at hl 1 rfl) ?_
  have hPc := hP.sub (ws' := []) [] rfl
  have hKc := hK.sub (tys' := []) [] rfl
  refine vp_callSi (W.runS (As := [.int v]) (rest := [.ref q]) ⟨hx, hb, hml, hown, hts⟩ (c_X8_isSet l dC dI v ) (va_cwS 1 hts gX8_buckets_X8_isSet rfl rfl rfl (by decide +kernel) ⟨Nat.le_of_ble_eq_true rfl, Nat.le_of_ble_eq_true rfl⟩) ⟨fun a U g mk q => by obtain ⟨q0, qP, qK⟩ := q; exact ⟨q0, qP, va_K.moved (u := U) (U := U.calling g mk a) (Vm.Alike.refl U.vm) qK⟩, fun U hU hW => ⟨rfl, by rw [hU]; exact hPc, va_K.moved hW.alike hKc⟩⟩ rfl rfl hl.1 rfl (lv_room (Nat.le_of_ble_eq_true rfl)) dX8_buckets_2 ⟨Nat.le_of_ble_eq_true rfl, Nat.le_of_ble_eq_true rfl⟩) (fun r_2 hw_1 => ?_)
  subst hw_1
  refine lv_cvi (congrArg b2i (hSf)) ?_
  have hPc := hP.sub (ws' := [(q, .inr (7, [.ref mq, .ref zq, .ref sq, .ref bq, .ref cq, .long sm, .ref pq, .int ps, .int th])), (mq, .inl (cZ, 12288, .inl fM)), (zq, .inl (cI, 3, .inl fS)), (sq, .inl (cI, 6156, .inl fP)), (bq, .inl (cI, 3, .inl fB)), (cq, .inl (cJ, 64, .inr (.inl fC))), (pq, .inl (cI, 8, .inl fT))]) [0, 1, 2, 3, 4, 5, 6] rfl
  have hKc := hK.sub (tys' := [(cZ, .boolean), (cI, .int), (cJ, .long)]) [0, 1, 2] rfl
  have hDc := hD.sub (ws' := [(q, .inr (7, [.ref mq, .ref zq, .ref sq, .ref bq, .ref cq, .long sm, .ref pq, .int ps, .int th])), (mq, .inl (cZ, 12288, .inl fM)), (zq, .inl (cI, 3, .inl fS)), (sq, .inl (cI, 6156, .inl fP)), (bq, .inl (cI, 3, .inl fB)), (cq, .inl (cJ, 64, .inr (.inl fC))), (pq, .inl (cI, 8, .inl fT))]) [0, 1, 2, 3, 4, 5, 6] (by decide) rfl
  have hFc := va_free (wc := [(q, .inr (7, [.ref mq, .ref zq, .ref sq, .ref bq, .ref cq, .long sm, .ref pq, .int ps, .int th])), (mq, .inl (cZ, 12288, .inl fM)), (zq, .inl (cI, 3, .inl fS)), (sq, .inl (cI, 6156, .inl fP)), (bq, .inl (cI, 3, .inl fB)), (cq, .inl (cJ, 64, .inr (.inl fC))), (pq, .inl (cI, 8, .inl fT))]) hD hS hA [0, 1, 2, 3, 4, 5, 6] rfl
  refine va_calli (va_runV (As := [.int (b2i false)]) (rest := []) ⟨hx, hb, hml, hown, hts⟩ (c_X8_asked l dC dI q mq zq sq bq cq pq cZ cI cJ fM fS fP fB fC sm fT ps th false s.heap.size ) (cwV 1 hts gX8_buckets_X8_asked rfl rfl rfl (by decide +kernel) ⟨Nat.le_of_ble_eq_true rfl, Nat.le_of_ble_eq_true rfl⟩) ⟨fun a U g mk q => by obtain ⟨q0, q1, qP, qK, qD⟩ := q; exact ⟨q0, q1, qP, va_K.moved (u := U) (U := U.calling g mk a) (Vm.Alike.refl U.vm) qK, qD⟩, va_recv hKc hPc (ci := 7) (q0 := 0) rfl rfl, fun U hU hW => ⟨rfl, by rw [hU], by rw [hU]; exact hPc, va_K.moved hW.alike hKc, hDc.weaken (fun _ _ _ _ => trivial)⟩⟩ rfl rfl hl.1 rfl (lv_room (Nat.le_of_ble_eq_true rfl)) dX8_buckets_5 ⟨Nat.le_of_ble_eq_true rfl, Nat.le_of_ble_eq_true rfl⟩) hS (fun q _ h => hFc q h) hFc (fun r_5 u_4 t9 H1 locs ht hvm hw_3 hB hz1 hk1 hS => ?_)
  obtain ⟨th'_6, rfl⟩ : ∃ z, z = u_4 := ⟨_, rfl⟩
  obtain ⟨hP1, hK1, hD1⟩ := hB
  rw [ht] at hP1
  have hK1 := va_K.moved hvm.symm hK1
  try dsimp only at hw_3 hP1 hK1 hD1
  obtain ⟨hP, hD⟩ := va_join (wr := []) (w1 := [(q, .inr (7, [.ref mq, .ref zq, .ref sq, .ref bq, .ref cq, .long sm, .ref pq, .int ps, .int th'_6])), (mq, .inl (cZ, 12288, .inl fM)), (zq, .inl (cI, 3, .inl fS)), (sq, .inl (cI, 6156, .inl fP)), (bq, .inl (cI, 3, .inl fB)), (cq, .inl (cJ, 64, .inr (.inl fC))), (pq, .inl (cI, 8, .inl fT))]) hP hD [0, 1, 2, 3, 4, 5, 6] [] rfl rfl (by decide) (by decide) hk1 hFc hP1 hD1
  generalize H1 = H at hP hS ⊢
  have hP : va_P (dC, dI) vwCl [(q, .inr (7, [.ref mq, .ref zq, .ref sq, .ref bq, .ref cq, .long sm, .ref pq, .int ps, .int th'_6])), (mq, .inl (cZ, 12288, .inl fM)), (zq, .inl (cI, 3, .inl fS)), (sq, .inl (cI, 6156, .inl fP)), (bq, .inl (cI, 3, .inl fB)), (cq, .inl (cJ, 64, .inr (.inl fC))), (pq, .inl (cI, 8, .inl fT))] H := hP
  have hD : va_D A [(q, .inr (7, [.ref mq, .ref zq, .ref sq, .ref bq, .ref cq, .long sm, .ref pq, .int ps, .int th'_6])), (mq, .inl (cZ, 12288, .inl fM)), (zq, .inl (cI, 3, .inl fS)), (sq, .inl (cI, 6156, .inl fP)), (bq, .inl (cI, 3, .inl fB)), (cq, .inl (cJ, 64, .inr (.inl fC))), (pq, .inl (cI, 8, .inl fT))] := hD
  obtain ⟨he, hw_3⟩ := hw_3
  subst he
  have hth := hw_3
  refine lv_if_eq (tgt := 20) hx hb dX8_buckets_8 (by decide) (fun qc_7 => ?_) (fun qc_7 => ?_)
  · have c_7 : false = false := b2i_f qc_7
    refine lv_iconst (v := nI 0) hx hb dX8_buckets_20 (by decide +kernel) ?_
    have hP9 := hP.sub (ws' := [(q, .inr (7, [.ref mq, .ref zq, .ref sq, .ref bq, .ref cq, .long sm, .ref pq, .int ps, .int th'_6])), (mq, .inl (cZ, 12288, .inl fM)), (zq, .inl (cI, 3, .inl fS)), (sq, .inl (cI, 6156, .inl fP)), (bq, .inl (cI, 3, .inl fB)), (cq, .inl (cJ, 64, .inr (.inl fC))), (pq, .inl (cI, 8, .inl fT))]) [0, 1, 2, 3, 4, 5, 6] rfl
    have hD9 := hD.sub (ws' := [(q, .inr (7, [.ref mq, .ref zq, .ref sq, .ref bq, .ref cq, .long sm, .ref pq, .int ps, .int th'_6])), (mq, .inl (cZ, 12288, .inl fM)), (zq, .inl (cI, 3, .inl fS)), (sq, .inl (cI, 6156, .inl fP)), (bq, .inl (cI, 3, .inl fB)), (cq, .inl (cJ, 64, .inr (.inl fC))), (pq, .inl (cI, 8, .inl fT))]) [0, 1, 2, 3, 4, 5, 6] (by decide) rfl
    have hK9 := hK.sub (tys' := [(cZ, .boolean), (cI, .int), (cJ, .long)]) [0, 1, 2] rfl
    exact W.iret (v := nI 0) hx hb hr (fun t9 ht hW => ⟨⟨nI 0, th'_6, rfl, hth, by rw [ht]; exact hP9, va_K.moved hW.alike hK9, hD9⟩, hS.F ht⟩) hS.2.2 dX8_buckets_21
  · have c_7 : false = true := b2i_t qc_7
    cases c_7
set_option maxHeartbeats 4000000 in
set_option maxRecDepth 100000 in
/-- reference: c_X8_clear_v -/
theorem c_X8_clear_v (l : Launch) (dC : Nat → ClassId) (dI : Nat → Nat → Nat) (q : Nat) (mq : Nat) (zq : Nat) (sq : Nat) (bq : Nat) (cq : Nat) (pq : Nat) (cZ : ClassId) (cI : ClassId) (cJ : ClassId) (fM : Nat → Int32) (fS : Nat → Int32) (fP : Nat → Int32) (fB : Nat → Int32) (fC : Nat → Int64) (sm : Int64) (fT : Nat → Int32) (ps : Int32) (th : Int32) (M : Nat → Nat → Bool) (P : Nat → Nat → Bool) (k : Nat) (sz : Nat) (hM : MM fM M) (hZ : MZ fS M) (hX : MX fP fB P) (hk : k < 3) : Met l yX8_clear wsX8_clear ({ frames := 2, cells := 0, slots := 0, locals := 42 }) (va_Pc [.ref q, .int (nI k)] (fun U => U.heap.size = sz ∧ va_P (dC, dI) vwCl [(q, .inr (7, [.ref mq, .ref zq, .ref sq, .ref bq, .ref cq, .long sm, .ref pq, .int ps, .int th])), (mq, .inl (cZ, 12288, .inl fM)), (zq, .inl (cI, 3, .inl fS)), (sq, .inl (cI, 6156, .inl fP)), (bq, .inl (cI, 3, .inl fB)), (cq, .inl (cJ, 64, .inr (.inl fC))), (pq, .inl (cI, 8, .inl fT))] U.heap ∧ va_K (dC, dI) vwCl [(cZ, .boolean), (cI, .int), (cJ, .long)] U ∧ va_D (fun _ => True) [(q, .inr (7, [.ref mq, .ref zq, .ref sq, .ref bq, .ref cq, .long sm, .ref pq, .int ps, .int th])), (mq, .inl (cZ, 12288, .inl fM)), (zq, .inl (cI, 3, .inl fS)), (sq, .inl (cI, 6156, .inl fP)), (bq, .inl (cI, 3, .inl fB)), (cq, .inl (cJ, 64, .inr (.inl fC))), (pq, .inl (cI, 8, .inl fT))])) (va_Qi (fun (r : Int32) (u : (Nat → Int32) × (Nat → Int32) × (Nat → Int32) × (Nat → Int32) × Int32) => r = nI (fb_ct (M k) 4096) ∧ MM u.1 (upF M k (fun _ => false)) ∧ MZ u.2.1 (upF M k (fun _ => false)) ∧ MX u.2.2.1 u.2.2.2.1 (upF P k (fun x => decide (x = 0))) ∧ u.2.2.2.2 = nI 0) (fun (u : (Nat → Int32) × (Nat → Int32) × (Nat → Int32) × (Nat → Int32) × Int32) (t : State) => va_P (dC, dI) vwCl [(q, .inr (7, [.ref mq, .ref zq, .ref sq, .ref bq, .ref cq, .long sm, .ref pq, .int ps, .int u.2.2.2.2])), (mq, .inl (cZ, 12288, .inl u.1)), (zq, .inl (cI, 3, .inl u.2.1)), (sq, .inl (cI, 6156, .inl u.2.2.1)), (bq, .inl (cI, 3, .inl u.2.2.2.1)), (cq, .inl (cJ, 64, .inr (.inl fC))), (pq, .inl (cI, 8, .inl fT))] t.heap ∧ va_K (dC, dI) vwCl [(cZ, .boolean), (cI, .int), (cJ, .long)] t ∧ va_D (va_A [(q, .inr (7, [.ref mq, .ref zq, .ref sq, .ref bq, .ref cq, .long sm, .ref pq, .int ps, .int th])), (mq, .inl (cZ, 12288, .inl fM)), (zq, .inl (cI, 3, .inl fS)), (sq, .inl (cI, 6156, .inl fP)), (bq, .inl (cI, 3, .inl fB)), (cq, .inl (cJ, 64, .inr (.inl fC))), (pq, .inl (cI, 8, .inl fT))] sz) [(q, .inr (7, [.ref mq, .ref zq, .ref sq, .ref bq, .ref cq, .long sm, .ref pq, .int ps, .int u.2.2.2.2])), (mq, .inl (cZ, 12288, .inl u.1)), (zq, .inl (cI, 3, .inl u.2.1)), (sq, .inl (cI, 6156, .inl u.2.2.1)), (bq, .inl (cI, 3, .inl u.2.2.2.1)), (cq, .inl (cJ, 64, .inr (.inl fC))), (pq, .inl (cI, 8, .inl fT))]) (va_A [(q, .inr (7, [.ref mq, .ref zq, .ref sq, .ref bq, .ref cq, .long sm, .ref pq, .int ps, .int th])), (mq, .inl (cZ, 12288, .inl fM)), (zq, .inl (cI, 3, .inl fS)), (sq, .inl (cI, 6156, .inl fP)), (bq, .inl (cI, 3, .inl fB)), (cq, .inl (cJ, 64, .inr (.inl fC))), (pq, .inl (cI, 8, .inl fT))] sz)) 0 0 (va_A [(q, .inr (7, [.ref mq, .ref zq, .ref sq, .ref bq, .ref cq, .long sm, .ref pq, .int ps, .int th])), (mq, .inl (cZ, 12288, .inl fM)), (zq, .inl (cI, 3, .inl fS)), (sq, .inl (cI, 6156, .inl fP)), (bq, .inl (cI, 3, .inl fB)), (cq, .inl (cJ, 64, .inr (.inl fC))), (pq, .inl (cI, 8, .inl fT))] sz) := by
  refine Met.ofW (cc := cX8_clear) (maxL := 4) (ret := (some .int)) (by decide) rfl ?_
  intro p e s m args below meth c s₁ B hml hv
  obtain ⟨rfl, hsz, hP, hK, hD0⟩ := hv
  have hx := B.exec
  have hb := B.bytes
  have hr := B.returns
  have hts := atoms_spec (ws := wsX8_clear) B.pre
  have hown : s.vm.findClass RX8 = some m.cls := findClass_of_methodNamed B.named
  have hlocks := B.notSynchronized
  subst hsz
  have hD := hD0.self (sz := s.heap.size)
  generalize hAe : va_A [(q, .inr (7, [.ref mq, .ref zq, .ref sq, .ref bq, .ref cq, .long sm, .ref pq, .int ps, .int th])), (mq, .inl (cZ, 12288, .inl fM)), (zq, .inl (cI, 3, .inl fS)), (sq, .inl (cI, 6156, .inl fP)), (bq, .inl (cI, 3, .inl fB)), (cq, .inl (cJ, 64, .inr (.inl fC))), (pq, .inl (cI, 8, .inl fT))] s.heap.size = A at hD ⊢
  have hA : ∀ q : Nat, s.heap.size ≤ q → A q := fun q h => by rw [← hAe]; exact Or.inr h
  have hS : va_S A s.heap s.heap [] := va_S.rf
  have hP : va_P (dC, dI) vwCl [(q, .inr (7, [.ref mq, .ref zq, .ref sq, .ref bq, .ref cq, .long sm, .ref pq, .int ps, .int th])), (mq, .inl (cZ, 12288, .inl fM)), (zq, .inl (cI, 3, .inl fS)), (sq, .inl (cI, 6156, .inl fP)), (bq, .inl (cI, 3, .inl fB)), (cq, .inl (cJ, 64, .inr (.inl fC))), (pq, .inl (cI, 8, .inl fT))] s.heap := hP
  have hl := lv_entry ([.ref q, .int (nI k)]) (n := 4) (Nat.le_of_ble_eq_true rfl)
  rw [lg_entry_eq]
  generalize (lg_sl ([.ref q, .int (nI k)]) ++ List.replicate (4 - (lg_sl ([.ref q, .int (nI k)])).length) Slot.unset).toArray = ls at hl ⊢
  have hl : lv_has ls 4 [(0, .ref q), (1, .int (nI k))] := hl
  refine lv_aload_n hx hb dX8_clear_0 rfl (lv_at hl 0 rfl) ?_
  refine lv_iload_n hx hb dX8_clear_1 rfl (lv_at hl 1 rfl) ?_
  have hPc := hP.sub (ws' := []) [] rfl
  have hKc := hK.sub (tys' := []) [] rfl
  refine vp_callSi (W.runS (As := [.int (nI k)]) (rest := [.ref q]) ⟨hx, hb, hml, hown, hts⟩ (c_X8_isSet l dC dI (nI k) ) (va_cwS 1 hts gX8_clear_X8_isSet rfl rfl rfl (by decide +kernel) ⟨Nat.le_of_ble_eq_true rfl, Nat.le_of_ble_eq_true rfl⟩) ⟨fun a U g mk q => by obtain ⟨q0, qP, qK⟩ := q; exact ⟨q0, qP, va_K.moved (u := U) (U := U.calling g mk a) (Vm.Alike.refl U.vm) qK⟩, fun U hU hW => ⟨rfl, by rw [hU]; exact hPc, va_K.moved hW.alike hKc⟩⟩ rfl rfl hl.1 rfl (lv_room (Nat.le_of_ble_eq_true rfl)) dX8_clear_2 ⟨Nat.le_of_ble_eq_true rfl, Nat.le_of_ble_eq_true rfl⟩) (fun r_2 hw_1 => ?_)
  subst hw_1
  refine lv_cvi (congrArg b2i (isS_t hk)) ?_
  have hPc := hP.sub (ws' := [(q, .inr (7, [.ref mq, .ref zq, .ref sq, .ref bq, .ref cq, .long sm, .ref pq, .int ps, .int th])), (mq, .inl (cZ, 12288, .inl fM)), (zq, .inl (cI, 3, .inl fS)), (sq, .inl (cI, 6156, .inl fP)), (bq, .inl (cI, 3, .inl fB)), (cq, .inl (cJ, 64, .inr (.inl fC))), (pq, .inl (cI, 8, .inl fT))]) [0, 1, 2, 3, 4, 5, 6] rfl
  have hKc := hK.sub (tys' := [(cZ, .boolean), (cI, .int), (cJ, .long)]) [0, 1, 2] rfl
  have hDc := hD.sub (ws' := [(q, .inr (7, [.ref mq, .ref zq, .ref sq, .ref bq, .ref cq, .long sm, .ref pq, .int ps, .int th])), (mq, .inl (cZ, 12288, .inl fM)), (zq, .inl (cI, 3, .inl fS)), (sq, .inl (cI, 6156, .inl fP)), (bq, .inl (cI, 3, .inl fB)), (cq, .inl (cJ, 64, .inr (.inl fC))), (pq, .inl (cI, 8, .inl fT))]) [0, 1, 2, 3, 4, 5, 6] (by decide) rfl
  have hFc := va_free (wc := [(q, .inr (7, [.ref mq, .ref zq, .ref sq, .ref bq, .ref cq, .long sm, .ref pq, .int ps, .int th])), (mq, .inl (cZ, 12288, .inl fM)), (zq, .inl (cI, 3, .inl fS)), (sq, .inl (cI, 6156, .inl fP)), (bq, .inl (cI, 3, .inl fB)), (cq, .inl (cJ, 64, .inr (.inl fC))), (pq, .inl (cI, 8, .inl fT))]) hD hS hA [0, 1, 2, 3, 4, 5, 6] rfl
  refine va_calli (va_runV (As := [.int (b2i true)]) (rest := []) ⟨hx, hb, hml, hown, hts⟩ (c_X8_asked l dC dI q mq zq sq bq cq pq cZ cI cJ fM fS fP fB fC sm fT ps th true s.heap.size ) (cwV 1 hts gX8_clear_X8_asked rfl rfl rfl (by decide +kernel) ⟨Nat.le_of_ble_eq_true rfl, Nat.le_of_ble_eq_true rfl⟩) ⟨fun a U g mk q => by obtain ⟨q0, q1, qP, qK, qD⟩ := q; exact ⟨q0, q1, qP, va_K.moved (u := U) (U := U.calling g mk a) (Vm.Alike.refl U.vm) qK, qD⟩, va_recv hKc hPc (ci := 7) (q0 := 0) rfl rfl, fun U hU hW => ⟨rfl, by rw [hU], by rw [hU]; exact hPc, va_K.moved hW.alike hKc, hDc.weaken (fun _ _ _ _ => trivial)⟩⟩ rfl rfl hl.1 rfl (lv_room (Nat.le_of_ble_eq_true rfl)) dX8_clear_5 ⟨Nat.le_of_ble_eq_true rfl, Nat.le_of_ble_eq_true rfl⟩) hS (fun q _ h => hFc q h) hFc (fun r_5 u_4 t9 H1 locs ht hvm hw_3 hB hz1 hk1 hS => ?_)
  obtain ⟨th'_6, rfl⟩ : ∃ z, z = u_4 := ⟨_, rfl⟩
  obtain ⟨hP1, hK1, hD1⟩ := hB
  rw [ht] at hP1
  have hK1 := va_K.moved hvm.symm hK1
  try dsimp only at hw_3 hP1 hK1 hD1
  obtain ⟨hP, hD⟩ := va_join (wr := []) (w1 := [(q, .inr (7, [.ref mq, .ref zq, .ref sq, .ref bq, .ref cq, .long sm, .ref pq, .int ps, .int th'_6])), (mq, .inl (cZ, 12288, .inl fM)), (zq, .inl (cI, 3, .inl fS)), (sq, .inl (cI, 6156, .inl fP)), (bq, .inl (cI, 3, .inl fB)), (cq, .inl (cJ, 64, .inr (.inl fC))), (pq, .inl (cI, 8, .inl fT))]) hP hD [0, 1, 2, 3, 4, 5, 6] [] rfl rfl (by decide) (by decide) hk1 hFc hP1 hD1
  generalize H1 = H at hP hS ⊢
  have hP : va_P (dC, dI) vwCl [(q, .inr (7, [.ref mq, .ref zq, .ref sq, .ref bq, .ref cq, .long sm, .ref pq, .int ps, .int th'_6])), (mq, .inl (cZ, 12288, .inl fM)), (zq, .inl (cI, 3, .inl fS)), (sq, .inl (cI, 6156, .inl fP)), (bq, .inl (cI, 3, .inl fB)), (cq, .inl (cJ, 64, .inr (.inl fC))), (pq, .inl (cI, 8, .inl fT))] H := hP
  have hD : va_D A [(q, .inr (7, [.ref mq, .ref zq, .ref sq, .ref bq, .ref cq, .long sm, .ref pq, .int ps, .int th'_6])), (mq, .inl (cZ, 12288, .inl fM)), (zq, .inl (cI, 3, .inl fS)), (sq, .inl (cI, 6156, .inl fP)), (bq, .inl (cI, 3, .inl fB)), (cq, .inl (cJ, 64, .inr (.inl fC))), (pq, .inl (cI, 8, .inl fT))] := hD
  obtain ⟨he, hw_3⟩ := hw_3
  subst he
  have hth := hw_3
  refine lv_if_ne (tgt := 13) hx hb dX8_clear_8 (by decide) (fun qc_7 => ?_) (fun qc_7 => ?_)
  · have c_7 : true = true := b2i_t qc_7
    refine lv_aload_n hx hb dX8_clear_13 rfl (lv_at hl 0 rfl) ?_
    refine va_get (D := (dC, dI)) (ci := 7) (v := .ref zq) (C := RX8) (T := TX8) (N := 9) hx hb hts (by decide +kernel) hown hK hP 0 rfl rfl 1 (by decide) (hts (.fieldLink RX8 13 "SmallNumberSetsModel" "size" "[I") (by decide +kernel)) (fun _ h9 => h9) rfl dX8_clear_14 ?_
    refine lv_iload_n hx hb dX8_clear_17 rfl (lv_at hl 1 rfl) ?_
    refine va_iald hx hb hK hP 2 1 rfl rfl (vp_in_nI (by omega) (by omega)) dX8_clear_18 ?_
    refine lv_cvi (congrArg fS (nI_clamp (by omega))) ?_
    refine lv_cvi (hZ k hk) ?_
    refine lv_istore_n (lv' := [(2, .int (nI (fb_ct (M k) 4096))), (0, .ref q), (1, .int (nI k))]) hx hb dX8_clear_19 rfl hl (by decide) rfl (fun ls hl => ?_)
    refine lv_iconst (v := nI 0) hx hb dX8_clear_20 (by decide +kernel) ?_
    refine lv_istore_n (lv' := [(3, .int (nI 0)), (2, .int (nI (fb_ct (M k) 4096))), (0, .ref q), (1, .int (nI k))]) hx hb dX8_clear_21 rfl hl (by decide) rfl (fun ls hl => ?_)
    have key_22_8 : ∀ (fu : Nat) (i : Nat) (g : Nat → Int32) (hi1 : i ≤ 4096) (hg : g = fun j => if 4096 * k ≤ j ∧ j < 4096 * k + i then nI 0 else fM j) (hfu : 4096 - i < fu) (H : Heap) (locs : List Loc) (hP : va_P (dC, dI) vwCl [(q, .inr (7, [.ref mq, .ref zq, .ref sq, .ref bq, .ref cq, .long sm, .ref pq, .int ps, .int th'_6])), (mq, .inl (cZ, 12288, .inl g)), (zq, .inl (cI, 3, .inl fS)), (sq, .inl (cI, 6156, .inl fP)), (bq, .inl (cI, 3, .inl fB)), (cq, .inl (cJ, 64, .inr (.inl fC))), (pq, .inl (cI, 8, .inl fT))] H) (hD : va_D A [(q, .inr (7, [.ref mq, .ref zq, .ref sq, .ref bq, .ref cq, .long sm, .ref pq, .int ps, .int th'_6])), (mq, .inl (cZ, 12288, .inl g)), (zq, .inl (cI, 3, .inl fS)), (sq, .inl (cI, 6156, .inl fP)), (bq, .inl (cI, 3, .inl fB)), (cq, .inl (cJ, 64, .inr (.inl fC))), (pq, .inl (cI, 8, .inl fT))]) (hS : va_S A s.heap H locs) (ls : Array Slot) (hl : lv_has ls 4 [(3, .int (nI i)), (2, .int (nI (fb_ct (M k) 4096))), (0, .ref q), (1, .int (nI k))]), W p l e (headSpec wsX8_clear ({ frames := 2, cells := 0, slots := 0, locals := 42 })).room s m ([.ref q, .int (nI k)] : List Value).toArray below meth c H locs 0 0 (MQ below (va_Qi (fun (r : Int32) (u : (Nat → Int32) × (Nat → Int32) × (Nat → Int32) × (Nat → Int32) × Int32) => r = nI (fb_ct (M k) 4096) ∧ MM u.1 (upF M k (fun _ => false)) ∧ MZ u.2.1 (upF M k (fun _ => false)) ∧ MX u.2.2.1 u.2.2.2.1 (upF P k (fun x => decide (x = 0))) ∧ u.2.2.2.2 = nI 0) (fun (u : (Nat → Int32) × (Nat → Int32) × (Nat → Int32) × (Nat → Int32) × Int32) (t : State) => va_P (dC, dI) vwCl [(q, .inr (7, [.ref mq, .ref zq, .ref sq, .ref bq, .ref cq, .long sm, .ref pq, .int ps, .int u.2.2.2.2])), (mq, .inl (cZ, 12288, .inl u.1)), (zq, .inl (cI, 3, .inl u.2.1)), (sq, .inl (cI, 6156, .inl u.2.2.1)), (bq, .inl (cI, 3, .inl u.2.2.2.1)), (cq, .inl (cJ, 64, .inr (.inl fC))), (pq, .inl (cI, 8, .inl fT))] t.heap ∧ va_K (dC, dI) vwCl [(cZ, .boolean), (cI, .int), (cJ, .long)] t ∧ va_D A [(q, .inr (7, [.ref mq, .ref zq, .ref sq, .ref bq, .ref cq, .long sm, .ref pq, .int ps, .int u.2.2.2.2])), (mq, .inl (cZ, 12288, .inl u.1)), (zq, .inl (cI, 3, .inl u.2.1)), (sq, .inl (cI, 6156, .inl u.2.2.1)), (bq, .inl (cI, 3, .inl u.2.2.2.1)), (cq, .inl (cJ, 64, .inr (.inl fC))), (pq, .inl (cI, 8, .inl fT))]) A) ([.ref q, .int (nI k)] : List Value).toArray s 0 0 A) (F0 m 22 ls []) := by
      intro fu
      induction fu with
      | zero =>
        intro i g hi1 hg hfu H locs hP hD hS ls hl
        exact absurd hfu (Nat.not_lt_zero _)
      | succ fu ih_22 =>
        intro i g hi1 hg hfu H locs hP hD hS ls hl
        refine lv_iload_n hx hb dX8_clear_22 rfl (lv_at hl 0 rfl) ?_
        refine lv_sipush (v := nI 4096) hx hb dX8_clear_23 (by decide +kernel) ?_
        refine lv_icmp_ge (tgt := 48) hx hb dX8_clear_26 (by decide) (fun qc_9 => ?_) (fun qc_9 => ?_)
        · have c_9 : 4096 ≤ i := (nI_leI (a := 4096) (b := i) (by omega) (by omega)).mp qc_9
          refine lv_aload_n hx hb dX8_clear_48 rfl (lv_at hl 2 rfl) ?_
          refine va_get (D := (dC, dI)) (ci := 7) (v := .ref zq) (C := RX8) (T := TX8) (N := 9) hx hb hts (by decide +kernel) hown hK hP 0 rfl rfl 1 (by decide) (hts (.fieldLink RX8 13 "SmallNumberSetsModel" "size" "[I") (by decide +kernel)) (fun _ h9 => h9) rfl dX8_clear_49 ?_
          refine lv_iload_n hx hb dX8_clear_52 rfl (lv_at hl 3 rfl) ?_
          refine lv_iconst (v := nI 0) hx hb dX8_clear_53 (by decide +kernel) ?_
          refine va_iast hx hb hK hP hD hS 2 1 rfl rfl (vp_in_nI (by omega) (by omega)) dX8_clear_54 (fun H locs hP hD hS => ?_)
          rw [nI_clamp (n := k) (by omega)] at hP hD
          have hP : va_P (dC, dI) vwCl [(q, .inr (7, [.ref mq, .ref zq, .ref sq, .ref bq, .ref cq, .long sm, .ref pq, .int ps, .int th'_6])), (mq, .inl (cZ, 12288, .inl g)), (zq, .inl (cI, 3, .inl (upd fS k (nI 0)))), (sq, .inl (cI, 6156, .inl fP)), (bq, .inl (cI, 3, .inl fB)), (cq, .inl (cJ, 64, .inr (.inl fC))), (pq, .inl (cI, 8, .inl fT))] H := hP
          have hD : va_D A [(q, .inr (7, [.ref mq, .ref zq, .ref sq, .ref bq, .ref cq, .long sm, .ref pq, .int ps, .int th'_6])), (mq, .inl (cZ, 12288, .inl g)), (zq, .inl (cI, 3, .inl (upd fS k (nI 0)))), (sq, .inl (cI, 6156, .inl fP)), (bq, .inl (cI, 3, .inl fB)), (cq, .inl (cJ, 64, .inr (.inl fC))), (pq, .inl (cI, 8, .inl fT))] := hD
          refine lv_aload_n hx hb dX8_clear_55 rfl (lv_at hl 2 rfl) ?_
          refine va_get (D := (dC, dI)) (ci := 7) (v := .ref bq) (C := RX8) (T := TX8) (N := 9) hx hb hts (by decide +kernel) hown hK hP 0 rfl rfl 3 (by decide) (hts (.fieldLink RX8 20 "SmallNumberSetsModel" "buckets" "[I") (by decide +kernel)) (fun _ h9 => h9) rfl dX8_clear_56 ?_
          refine lv_iload_n hx hb dX8_clear_59 rfl (lv_at hl 3 rfl) ?_
          refine lv_iconst (v := nI 1) hx hb dX8_clear_60 (by decide +kernel) ?_
          refine va_iast hx hb hK hP hD hS 4 1 rfl rfl (vp_in_nI (by omega) (by omega)) dX8_clear_61 (fun H locs hP hD hS => ?_)
          rw [nI_clamp (n := k) (by omega)] at hP hD
          have hP : va_P (dC, dI) vwCl [(q, .inr (7, [.ref mq, .ref zq, .ref sq, .ref bq, .ref cq, .long sm, .ref pq, .int ps, .int th'_6])), (mq, .inl (cZ, 12288, .inl g)), (zq, .inl (cI, 3, .inl (upd fS k (nI 0)))), (sq, .inl (cI, 6156, .inl fP)), (bq, .inl (cI, 3, .inl (upd fB k (nI 1)))), (cq, .inl (cJ, 64, .inr (.inl fC))), (pq, .inl (cI, 8, .inl fT))] H := hP
          have hD : va_D A [(q, .inr (7, [.ref mq, .ref zq, .ref sq, .ref bq, .ref cq, .long sm, .ref pq, .int ps, .int th'_6])), (mq, .inl (cZ, 12288, .inl g)), (zq, .inl (cI, 3, .inl (upd fS k (nI 0)))), (sq, .inl (cI, 6156, .inl fP)), (bq, .inl (cI, 3, .inl (upd fB k (nI 1)))), (cq, .inl (cJ, 64, .inr (.inl fC))), (pq, .inl (cI, 8, .inl fT))] := hD
          refine lv_iload_n hx hb dX8_clear_62 rfl (lv_at hl 1 rfl) ?_
          have hP9 := hP.sub (ws' := [(q, .inr (7, [.ref mq, .ref zq, .ref sq, .ref bq, .ref cq, .long sm, .ref pq, .int ps, .int th'_6])), (mq, .inl (cZ, 12288, .inl g)), (zq, .inl (cI, 3, .inl (upd fS k (nI 0)))), (sq, .inl (cI, 6156, .inl fP)), (bq, .inl (cI, 3, .inl (upd fB k (nI 1)))), (cq, .inl (cJ, 64, .inr (.inl fC))), (pq, .inl (cI, 8, .inl fT))]) [0, 1, 2, 3, 4, 5, 6] rfl
          have hD9 := hD.sub (ws' := [(q, .inr (7, [.ref mq, .ref zq, .ref sq, .ref bq, .ref cq, .long sm, .ref pq, .int ps, .int th'_6])), (mq, .inl (cZ, 12288, .inl g)), (zq, .inl (cI, 3, .inl (upd fS k (nI 0)))), (sq, .inl (cI, 6156, .inl fP)), (bq, .inl (cI, 3, .inl (upd fB k (nI 1)))), (cq, .inl (cJ, 64, .inr (.inl fC))), (pq, .inl (cI, 8, .inl fT))]) [0, 1, 2, 3, 4, 5, 6] (by decide) rfl
          have hK9 := hK.sub (tys' := [(cZ, .boolean), (cI, .int), (cJ, .long)]) [0, 1, 2] rfl
          exact W.iret (v := nI (fb_ct (M k) 4096)) hx hb hr (fun t9 ht hW => ⟨⟨nI (fb_ct (M k) 4096), ⟨g, upd fS k (nI 0), fP, upd fB k (nI 1), th'_6⟩, rfl, (show (nI (fb_ct (M k) 4096)) = nI (fb_ct (M k) 4096) ∧ MM g (upF M k (fun _ => false)) ∧ MZ (upd fS k (nI 0)) (upF M k (fun _ => false)) ∧ MX fP (upd fB k (nI 1)) (upF P k (fun x => decide (x = 0))) ∧ th'_6 = nI 0 from (by
            have h9 := cl_end hM hZ hX hk (fun j => (congrFun hg j).trans (by rw [show i = 4096 by omega]))
            exact ⟨rfl, h9.1, h9.2.1, h9.2.2, hth⟩)), by rw [ht]; exact hP9, va_K.moved hW.alike hK9, hD9⟩, hS.F ht⟩) hS.2.2 dX8_clear_63
        · have c_9 : ¬ 4096 ≤ i := fun h9 => qc_9 ((nI_leI (a := 4096) (b := i) (by omega) (by omega)).mpr h9)
          refine lv_aload_n hx hb dX8_clear_29 rfl (lv_at hl 2 rfl) ?_
          refine va_get (D := (dC, dI)) (ci := 7) (v := .ref mq) (C := RX8) (T := TX8) (N := 9) hx hb hts (by decide +kernel) hown hK hP 0 rfl rfl 0 (by decide) (hts (.fieldLink RX8 7 "SmallNumberSetsModel" "member" "[Z") (by decide +kernel)) (fun _ h9 => h9) rfl dX8_clear_30 ?_
          refine lv_sipush (v := nI 4096) hx hb dX8_clear_33 (by decide +kernel) ?_
          refine lv_iload_n hx hb dX8_clear_36 rfl (lv_at hl 3 rfl) ?_
          refine lv_imul hx hb dX8_clear_37 ?_
          refine lv_cvi (pk_mul _ _) ?_
          refine lv_iload_n hx hb dX8_clear_38 rfl (lv_at hl 0 rfl) ?_
          refine lv_iadd hx hb dX8_clear_39 ?_
          refine lv_cvi (nI_add _ _) ?_
          refine lv_iconst (v := nI 0) hx hb dX8_clear_40 (by decide +kernel) ?_
          refine va_zast hx hb hK hP hD hS 1 0 rfl rfl (vp_in_nI (by omega) (by omega)) dX8_clear_41 (fun H locs hP hD hS => ?_)
          rw [nI_clamp (n := (4096 * k) + i) (by omega)] at hP hD
          have hP : va_P (dC, dI) vwCl [(q, .inr (7, [.ref mq, .ref zq, .ref sq, .ref bq, .ref cq, .long sm, .ref pq, .int ps, .int th'_6])), (mq, .inl (cZ, 12288, .inl (upd g ((4096 * k) + i) (vp_nar .boolean (nI 0))))), (zq, .inl (cI, 3, .inl fS)), (sq, .inl (cI, 6156, .inl fP)), (bq, .inl (cI, 3, .inl fB)), (cq, .inl (cJ, 64, .inr (.inl fC))), (pq, .inl (cI, 8, .inl fT))] H := hP
          have hD : va_D A [(q, .inr (7, [.ref mq, .ref zq, .ref sq, .ref bq, .ref cq, .long sm, .ref pq, .int ps, .int th'_6])), (mq, .inl (cZ, 12288, .inl (upd g ((4096 * k) + i) (vp_nar .boolean (nI 0))))), (zq, .inl (cI, 3, .inl fS)), (sq, .inl (cI, 6156, .inl fP)), (bq, .inl (cI, 3, .inl fB)), (cq, .inl (cJ, 64, .inr (.inl fC))), (pq, .inl (cI, 8, .inl fT))] := hD
          refine lv_iinc (v := nI (i + 1)) (lv' := [(3, .int (nI (i + 1))), (2, .int (nI (fb_ct (M k) 4096))), (0, .ref q), (1, .int (nI k))]) hx hb dX8_clear_42 hl (k := 0) rfl (nI_1 _) (by decide) rfl (fun ls hl => ?_)
          refine lv_goto (tgt := 22) hx hb dX8_clear_45 (by decide) ?_
          exact ih_22 (i + 1) (upd g ((4096 * k) + i) (vp_nar .boolean (nI 0))) (by omega) (funext (cl_step (by omega) fun j => congrFun hg j)) (by omega) _ _ hP hD hS ls (lv_sub hl [0, 1, 2, 3] rfl)
    exact key_22_8 _ 0 fM (by decide) (funext fun j => (if_neg (by omega)).symm) (Nat.lt_succ_self _) _ _ hP hD hS ls (lv_sub hl [0, 1, 2, 3] rfl)
  · have c_7 : true = false := b2i_f qc_7
    cases c_7
set_option maxHeartbeats 4000000 in
set_option maxRecDepth 100000 in
/-- reference: c_X8_clear_s -/
theorem c_X8_clear_s (l : Launch) (dC : Nat → ClassId) (dI : Nat → Nat → Nat) (q : Nat) (mq : Nat) (zq : Nat) (sq : Nat) (bq : Nat) (cq : Nat) (pq : Nat) (cZ : ClassId) (cI : ClassId) (cJ : ClassId) (fM : Nat → Int32) (fS : Nat → Int32) (fP : Nat → Int32) (fB : Nat → Int32) (fC : Nat → Int64) (sm : Int64) (fT : Nat → Int32) (ps : Int32) (th : Int32) (v : Int32) (sz : Nat) (hSf : isS v = false) : Met l yX8_clear wsX8_clear ({ frames := 2, cells := 0, slots := 0, locals := 42 }) (va_Pc [.ref q, .int v] (fun U => U.heap.size = sz ∧ va_P (dC, dI) vwCl [(q, .inr (7, [.ref mq, .ref zq, .ref sq, .ref bq, .ref cq, .long sm, .ref pq, .int ps, .int th])), (mq, .inl (cZ, 12288, .inl fM)), (zq, .inl (cI, 3, .inl fS)), (sq, .inl (cI, 6156, .inl fP)), (bq, .inl (cI, 3, .inl fB)), (cq, .inl (cJ, 64, .inr (.inl fC))), (pq, .inl (cI, 8, .inl fT))] U.heap ∧ va_K (dC, dI) vwCl [(cZ, .boolean), (cI, .int), (cJ, .long)] U ∧ va_D (fun _ => True) [(q, .inr (7, [.ref mq, .ref zq, .ref sq, .ref bq, .ref cq, .long sm, .ref pq, .int ps, .int th])), (mq, .inl (cZ, 12288, .inl fM)), (zq, .inl (cI, 3, .inl fS)), (sq, .inl (cI, 6156, .inl fP)), (bq, .inl (cI, 3, .inl fB)), (cq, .inl (cJ, 64, .inr (.inl fC))), (pq, .inl (cI, 8, .inl fT))])) (va_Qi (fun (r : Int32) (u : Int32) => u = nI 1) (fun (u : Int32) (t : State) => va_P (dC, dI) vwCl [(q, .inr (7, [.ref mq, .ref zq, .ref sq, .ref bq, .ref cq, .long sm, .ref pq, .int ps, .int u])), (mq, .inl (cZ, 12288, .inl fM)), (zq, .inl (cI, 3, .inl fS)), (sq, .inl (cI, 6156, .inl fP)), (bq, .inl (cI, 3, .inl fB)), (cq, .inl (cJ, 64, .inr (.inl fC))), (pq, .inl (cI, 8, .inl fT))] t.heap ∧ va_K (dC, dI) vwCl [(cZ, .boolean), (cI, .int), (cJ, .long)] t ∧ va_D (va_A [(q, .inr (7, [.ref mq, .ref zq, .ref sq, .ref bq, .ref cq, .long sm, .ref pq, .int ps, .int th])), (mq, .inl (cZ, 12288, .inl fM)), (zq, .inl (cI, 3, .inl fS)), (sq, .inl (cI, 6156, .inl fP)), (bq, .inl (cI, 3, .inl fB)), (cq, .inl (cJ, 64, .inr (.inl fC))), (pq, .inl (cI, 8, .inl fT))] sz) [(q, .inr (7, [.ref mq, .ref zq, .ref sq, .ref bq, .ref cq, .long sm, .ref pq, .int ps, .int u])), (mq, .inl (cZ, 12288, .inl fM)), (zq, .inl (cI, 3, .inl fS)), (sq, .inl (cI, 6156, .inl fP)), (bq, .inl (cI, 3, .inl fB)), (cq, .inl (cJ, 64, .inr (.inl fC))), (pq, .inl (cI, 8, .inl fT))]) (va_A [(q, .inr (7, [.ref mq, .ref zq, .ref sq, .ref bq, .ref cq, .long sm, .ref pq, .int ps, .int th])), (mq, .inl (cZ, 12288, .inl fM)), (zq, .inl (cI, 3, .inl fS)), (sq, .inl (cI, 6156, .inl fP)), (bq, .inl (cI, 3, .inl fB)), (cq, .inl (cJ, 64, .inr (.inl fC))), (pq, .inl (cI, 8, .inl fT))] sz)) 0 0 (va_A [(q, .inr (7, [.ref mq, .ref zq, .ref sq, .ref bq, .ref cq, .long sm, .ref pq, .int ps, .int th])), (mq, .inl (cZ, 12288, .inl fM)), (zq, .inl (cI, 3, .inl fS)), (sq, .inl (cI, 6156, .inl fP)), (bq, .inl (cI, 3, .inl fB)), (cq, .inl (cJ, 64, .inr (.inl fC))), (pq, .inl (cI, 8, .inl fT))] sz) := by
  refine Met.ofW (cc := cX8_clear) (maxL := 4) (ret := (some .int)) (by decide) rfl ?_
  intro p e s m args below meth c s₁ B hml hv
  obtain ⟨rfl, hsz, hP, hK, hD0⟩ := hv
  have hx := B.exec
  have hb := B.bytes
  have hr := B.returns
  have hts := atoms_spec (ws := wsX8_clear) B.pre
  have hown : s.vm.findClass RX8 = some m.cls := findClass_of_methodNamed B.named
  have hlocks := B.notSynchronized
  subst hsz
  have hD := hD0.self (sz := s.heap.size)
  generalize hAe : va_A [(q, .inr (7, [.ref mq, .ref zq, .ref sq, .ref bq, .ref cq, .long sm, .ref pq, .int ps, .int th])), (mq, .inl (cZ, 12288, .inl fM)), (zq, .inl (cI, 3, .inl fS)), (sq, .inl (cI, 6156, .inl fP)), (bq, .inl (cI, 3, .inl fB)), (cq, .inl (cJ, 64, .inr (.inl fC))), (pq, .inl (cI, 8, .inl fT))] s.heap.size = A at hD ⊢
  have hA : ∀ q : Nat, s.heap.size ≤ q → A q := fun q h => by rw [← hAe]; exact Or.inr h
  have hS : va_S A s.heap s.heap [] := va_S.rf
  have hP : va_P (dC, dI) vwCl [(q, .inr (7, [.ref mq, .ref zq, .ref sq, .ref bq, .ref cq, .long sm, .ref pq, .int ps, .int th])), (mq, .inl (cZ, 12288, .inl fM)), (zq, .inl (cI, 3, .inl fS)), (sq, .inl (cI, 6156, .inl fP)), (bq, .inl (cI, 3, .inl fB)), (cq, .inl (cJ, 64, .inr (.inl fC))), (pq, .inl (cI, 8, .inl fT))] s.heap := hP
  have hl := lv_entry ([.ref q, .int v]) (n := 4) (Nat.le_of_ble_eq_true rfl)
  rw [lg_entry_eq]
  generalize (lg_sl ([.ref q, .int v]) ++ List.replicate (4 - (lg_sl ([.ref q, .int v])).length) Slot.unset).toArray = ls at hl ⊢
  have hl : lv_has ls 4 [(0, .ref q), (1, .int v)] := hl
  refine lv_aload_n hx hb dX8_clear_0 rfl (lv_at hl 0 rfl) ?_
  refine lv_iload_n hx hb dX8_clear_1 rfl (lv_at hl 1 rfl) ?_
  have hPc := hP.sub (ws' := []) [] rfl
  have hKc := hK.sub (tys' := []) [] rfl
  refine vp_callSi (W.runS (As := [.int v]) (rest := [.ref q]) ⟨hx, hb, hml, hown, hts⟩ (c_X8_isSet l dC dI v ) (va_cwS 1 hts gX8_clear_X8_isSet rfl rfl rfl (by decide +kernel) ⟨Nat.le_of_ble_eq_true rfl, Nat.le_of_ble_eq_true rfl⟩) ⟨fun a U g mk q => by obtain ⟨q0, qP, qK⟩ := q; exact ⟨q0, qP, va_K.moved (u := U) (U := U.calling g mk a) (Vm.Alike.refl U.vm) qK⟩, fun U hU hW => ⟨rfl, by rw [hU]; exact hPc, va_K.moved hW.alike hKc⟩⟩ rfl rfl hl.1 rfl (lv_room (Nat.le_of_ble_eq_true rfl)) dX8_clear_2 ⟨Nat.le_of_ble_eq_true rfl, Nat.le_of_ble_eq_true rfl⟩) (fun r_2 hw_1 => ?_)
  subst hw_1
  refine lv_cvi (congrArg b2i (hSf)) ?_
  have hPc := hP.sub (ws' := [(q, .inr (7, [.ref mq, .ref zq, .ref sq, .ref bq, .ref cq, .long sm, .ref pq, .int ps, .int th])), (mq, .inl (cZ, 12288, .inl fM)), (zq, .inl (cI, 3, .inl fS)), (sq, .inl (cI, 6156, .inl fP)), (bq, .inl (cI, 3, .inl fB)), (cq, .inl (cJ, 64, .inr (.inl fC))), (pq, .inl (cI, 8, .inl fT))]) [0, 1, 2, 3, 4, 5, 6] rfl
  have hKc := hK.sub (tys' := [(cZ, .boolean), (cI, .int), (cJ, .long)]) [0, 1, 2] rfl
  have hDc := hD.sub (ws' := [(q, .inr (7, [.ref mq, .ref zq, .ref sq, .ref bq, .ref cq, .long sm, .ref pq, .int ps, .int th])), (mq, .inl (cZ, 12288, .inl fM)), (zq, .inl (cI, 3, .inl fS)), (sq, .inl (cI, 6156, .inl fP)), (bq, .inl (cI, 3, .inl fB)), (cq, .inl (cJ, 64, .inr (.inl fC))), (pq, .inl (cI, 8, .inl fT))]) [0, 1, 2, 3, 4, 5, 6] (by decide) rfl
  have hFc := va_free (wc := [(q, .inr (7, [.ref mq, .ref zq, .ref sq, .ref bq, .ref cq, .long sm, .ref pq, .int ps, .int th])), (mq, .inl (cZ, 12288, .inl fM)), (zq, .inl (cI, 3, .inl fS)), (sq, .inl (cI, 6156, .inl fP)), (bq, .inl (cI, 3, .inl fB)), (cq, .inl (cJ, 64, .inr (.inl fC))), (pq, .inl (cI, 8, .inl fT))]) hD hS hA [0, 1, 2, 3, 4, 5, 6] rfl
  refine va_calli (va_runV (As := [.int (b2i false)]) (rest := []) ⟨hx, hb, hml, hown, hts⟩ (c_X8_asked l dC dI q mq zq sq bq cq pq cZ cI cJ fM fS fP fB fC sm fT ps th false s.heap.size ) (cwV 1 hts gX8_clear_X8_asked rfl rfl rfl (by decide +kernel) ⟨Nat.le_of_ble_eq_true rfl, Nat.le_of_ble_eq_true rfl⟩) ⟨fun a U g mk q => by obtain ⟨q0, q1, qP, qK, qD⟩ := q; exact ⟨q0, q1, qP, va_K.moved (u := U) (U := U.calling g mk a) (Vm.Alike.refl U.vm) qK, qD⟩, va_recv hKc hPc (ci := 7) (q0 := 0) rfl rfl, fun U hU hW => ⟨rfl, by rw [hU], by rw [hU]; exact hPc, va_K.moved hW.alike hKc, hDc.weaken (fun _ _ _ _ => trivial)⟩⟩ rfl rfl hl.1 rfl (lv_room (Nat.le_of_ble_eq_true rfl)) dX8_clear_5 ⟨Nat.le_of_ble_eq_true rfl, Nat.le_of_ble_eq_true rfl⟩) hS (fun q _ h => hFc q h) hFc (fun r_5 u_4 t9 H1 locs ht hvm hw_3 hB hz1 hk1 hS => ?_)
  obtain ⟨th'_6, rfl⟩ : ∃ z, z = u_4 := ⟨_, rfl⟩
  obtain ⟨hP1, hK1, hD1⟩ := hB
  rw [ht] at hP1
  have hK1 := va_K.moved hvm.symm hK1
  try dsimp only at hw_3 hP1 hK1 hD1
  obtain ⟨hP, hD⟩ := va_join (wr := []) (w1 := [(q, .inr (7, [.ref mq, .ref zq, .ref sq, .ref bq, .ref cq, .long sm, .ref pq, .int ps, .int th'_6])), (mq, .inl (cZ, 12288, .inl fM)), (zq, .inl (cI, 3, .inl fS)), (sq, .inl (cI, 6156, .inl fP)), (bq, .inl (cI, 3, .inl fB)), (cq, .inl (cJ, 64, .inr (.inl fC))), (pq, .inl (cI, 8, .inl fT))]) hP hD [0, 1, 2, 3, 4, 5, 6] [] rfl rfl (by decide) (by decide) hk1 hFc hP1 hD1
  generalize H1 = H at hP hS ⊢
  have hP : va_P (dC, dI) vwCl [(q, .inr (7, [.ref mq, .ref zq, .ref sq, .ref bq, .ref cq, .long sm, .ref pq, .int ps, .int th'_6])), (mq, .inl (cZ, 12288, .inl fM)), (zq, .inl (cI, 3, .inl fS)), (sq, .inl (cI, 6156, .inl fP)), (bq, .inl (cI, 3, .inl fB)), (cq, .inl (cJ, 64, .inr (.inl fC))), (pq, .inl (cI, 8, .inl fT))] H := hP
  have hD : va_D A [(q, .inr (7, [.ref mq, .ref zq, .ref sq, .ref bq, .ref cq, .long sm, .ref pq, .int ps, .int th'_6])), (mq, .inl (cZ, 12288, .inl fM)), (zq, .inl (cI, 3, .inl fS)), (sq, .inl (cI, 6156, .inl fP)), (bq, .inl (cI, 3, .inl fB)), (cq, .inl (cJ, 64, .inr (.inl fC))), (pq, .inl (cI, 8, .inl fT))] := hD
  obtain ⟨he, hw_3⟩ := hw_3
  subst he
  have hth := hw_3
  refine lv_if_ne (tgt := 13) hx hb dX8_clear_8 (by decide) (fun qc_7 => ?_) (fun qc_7 => ?_)
  · have c_7 : false = true := b2i_t qc_7
    cases c_7
  · have c_7 : false = false := b2i_f qc_7
    refine lv_iconst (v := nI 0) hx hb dX8_clear_11 (by decide +kernel) ?_
    have hP9 := hP.sub (ws' := [(q, .inr (7, [.ref mq, .ref zq, .ref sq, .ref bq, .ref cq, .long sm, .ref pq, .int ps, .int th'_6])), (mq, .inl (cZ, 12288, .inl fM)), (zq, .inl (cI, 3, .inl fS)), (sq, .inl (cI, 6156, .inl fP)), (bq, .inl (cI, 3, .inl fB)), (cq, .inl (cJ, 64, .inr (.inl fC))), (pq, .inl (cI, 8, .inl fT))]) [0, 1, 2, 3, 4, 5, 6] rfl
    have hD9 := hD.sub (ws' := [(q, .inr (7, [.ref mq, .ref zq, .ref sq, .ref bq, .ref cq, .long sm, .ref pq, .int ps, .int th'_6])), (mq, .inl (cZ, 12288, .inl fM)), (zq, .inl (cI, 3, .inl fS)), (sq, .inl (cI, 6156, .inl fP)), (bq, .inl (cI, 3, .inl fB)), (cq, .inl (cJ, 64, .inr (.inl fC))), (pq, .inl (cI, 8, .inl fT))]) [0, 1, 2, 3, 4, 5, 6] (by decide) rfl
    have hK9 := hK.sub (tys' := [(cZ, .boolean), (cI, .int), (cJ, .long)]) [0, 1, 2] rfl
    exact W.iret (v := nI 0) hx hb hr (fun t9 ht hW => ⟨⟨nI 0, th'_6, rfl, hth, by rw [ht]; exact hP9, va_K.moved hW.alike hK9, hD9⟩, hS.F ht⟩) hS.2.2 dX8_clear_12
set_option maxHeartbeats 4000000 in
set_option maxRecDepth 100000 in
/-- reference: c_X8_hasMembers_v -/
theorem c_X8_hasMembers_v (l : Launch) (dC : Nat → ClassId) (dI : Nat → Nat → Nat) (q : Nat) (mq : Nat) (zq : Nat) (sq : Nat) (bq : Nat) (cq : Nat) (pq : Nat) (cZ : ClassId) (cI : ClassId) (cJ : ClassId) (fM : Nat → Int32) (fS : Nat → Int32) (fP : Nat → Int32) (fB : Nat → Int32) (fC : Nat → Int64) (sm : Int64) (fT : Nat → Int32) (ps : Int32) (th : Int32) (M : Nat → Nat → Bool) (k : Nat) (sz : Nat) (hZ : MZ fS M) (hk : k < 3) (hp : 0 < fb_ct (M k) 4096) : Met l yX8_hasMembers wsX8_hasMembers ({ frames := 2, cells := 0, slots := 0, locals := 42 }) (va_Pc [.ref q, .int (nI k)] (fun U => U.heap.size = sz ∧ va_P (dC, dI) vwCl [(q, .inr (7, [.ref mq, .ref zq, .ref sq, .ref bq, .ref cq, .long sm, .ref pq, .int ps, .int th])), (mq, .inl (cZ, 12288, .inl fM)), (zq, .inl (cI, 3, .inl fS)), (sq, .inl (cI, 6156, .inl fP)), (bq, .inl (cI, 3, .inl fB)), (cq, .inl (cJ, 64, .inr (.inl fC))), (pq, .inl (cI, 8, .inl fT))] U.heap ∧ va_K (dC, dI) vwCl [(cZ, .boolean), (cI, .int), (cJ, .long)] U ∧ va_D (fun _ => True) [(q, .inr (7, [.ref mq, .ref zq, .ref sq, .ref bq, .ref cq, .long sm, .ref pq, .int ps, .int th])), (mq, .inl (cZ, 12288, .inl fM)), (zq, .inl (cI, 3, .inl fS)), (sq, .inl (cI, 6156, .inl fP)), (bq, .inl (cI, 3, .inl fB)), (cq, .inl (cJ, 64, .inr (.inl fC))), (pq, .inl (cI, 8, .inl fT))])) (va_Qi (fun (r : Int32) (u : Int32) => r = b2i true ∧ u = nI 0) (fun (u : Int32) (t : State) => va_P (dC, dI) vwCl [(q, .inr (7, [.ref mq, .ref zq, .ref sq, .ref bq, .ref cq, .long sm, .ref pq, .int ps, .int u])), (mq, .inl (cZ, 12288, .inl fM)), (zq, .inl (cI, 3, .inl fS)), (sq, .inl (cI, 6156, .inl fP)), (bq, .inl (cI, 3, .inl fB)), (cq, .inl (cJ, 64, .inr (.inl fC))), (pq, .inl (cI, 8, .inl fT))] t.heap ∧ va_K (dC, dI) vwCl [(cZ, .boolean), (cI, .int), (cJ, .long)] t ∧ va_D (va_A [(q, .inr (7, [.ref mq, .ref zq, .ref sq, .ref bq, .ref cq, .long sm, .ref pq, .int ps, .int th])), (mq, .inl (cZ, 12288, .inl fM)), (zq, .inl (cI, 3, .inl fS)), (sq, .inl (cI, 6156, .inl fP)), (bq, .inl (cI, 3, .inl fB)), (cq, .inl (cJ, 64, .inr (.inl fC))), (pq, .inl (cI, 8, .inl fT))] sz) [(q, .inr (7, [.ref mq, .ref zq, .ref sq, .ref bq, .ref cq, .long sm, .ref pq, .int ps, .int u])), (mq, .inl (cZ, 12288, .inl fM)), (zq, .inl (cI, 3, .inl fS)), (sq, .inl (cI, 6156, .inl fP)), (bq, .inl (cI, 3, .inl fB)), (cq, .inl (cJ, 64, .inr (.inl fC))), (pq, .inl (cI, 8, .inl fT))]) (va_A [(q, .inr (7, [.ref mq, .ref zq, .ref sq, .ref bq, .ref cq, .long sm, .ref pq, .int ps, .int th])), (mq, .inl (cZ, 12288, .inl fM)), (zq, .inl (cI, 3, .inl fS)), (sq, .inl (cI, 6156, .inl fP)), (bq, .inl (cI, 3, .inl fB)), (cq, .inl (cJ, 64, .inr (.inl fC))), (pq, .inl (cI, 8, .inl fT))] sz)) 0 0 (va_A [(q, .inr (7, [.ref mq, .ref zq, .ref sq, .ref bq, .ref cq, .long sm, .ref pq, .int ps, .int th])), (mq, .inl (cZ, 12288, .inl fM)), (zq, .inl (cI, 3, .inl fS)), (sq, .inl (cI, 6156, .inl fP)), (bq, .inl (cI, 3, .inl fB)), (cq, .inl (cJ, 64, .inr (.inl fC))), (pq, .inl (cI, 8, .inl fT))] sz) := by
  refine Met.ofW (cc := cX8_hasMembers) (maxL := 3) (ret := (some .boolean)) (by decide) rfl ?_
  intro p e s m args below meth c s₁ B hml hv
  obtain ⟨rfl, hsz, hP, hK, hD0⟩ := hv
  have hx := B.exec
  have hb := B.bytes
  have hr := B.returns
  have hts := atoms_spec (ws := wsX8_hasMembers) B.pre
  have hown : s.vm.findClass RX8 = some m.cls := findClass_of_methodNamed B.named
  have hlocks := B.notSynchronized
  subst hsz
  have hD := hD0.self (sz := s.heap.size)
  generalize hAe : va_A [(q, .inr (7, [.ref mq, .ref zq, .ref sq, .ref bq, .ref cq, .long sm, .ref pq, .int ps, .int th])), (mq, .inl (cZ, 12288, .inl fM)), (zq, .inl (cI, 3, .inl fS)), (sq, .inl (cI, 6156, .inl fP)), (bq, .inl (cI, 3, .inl fB)), (cq, .inl (cJ, 64, .inr (.inl fC))), (pq, .inl (cI, 8, .inl fT))] s.heap.size = A at hD ⊢
  have hA : ∀ q : Nat, s.heap.size ≤ q → A q := fun q h => by rw [← hAe]; exact Or.inr h
  have hS : va_S A s.heap s.heap [] := va_S.rf
  have hP : va_P (dC, dI) vwCl [(q, .inr (7, [.ref mq, .ref zq, .ref sq, .ref bq, .ref cq, .long sm, .ref pq, .int ps, .int th])), (mq, .inl (cZ, 12288, .inl fM)), (zq, .inl (cI, 3, .inl fS)), (sq, .inl (cI, 6156, .inl fP)), (bq, .inl (cI, 3, .inl fB)), (cq, .inl (cJ, 64, .inr (.inl fC))), (pq, .inl (cI, 8, .inl fT))] s.heap := hP
  have hl := lv_entry ([.ref q, .int (nI k)]) (n := 3) (Nat.le_of_ble_eq_true rfl)
  rw [lg_entry_eq]
  generalize (lg_sl ([.ref q, .int (nI k)]) ++ List.replicate (3 - (lg_sl ([.ref q, .int (nI k)])).length) Slot.unset).toArray = ls at hl ⊢
  have hl : lv_has ls 3 [(0, .ref q), (1, .int (nI k))] := hl
  have hcm := fb_ct_le (M k) 4096
  refine lv_iload_n hx hb dX8_hasMembers_0 rfl (lv_at hl 1 rfl) ?_
  have hPc := hP.sub (ws' := []) [] rfl
  have hKc := hK.sub (tys' := []) [] rfl
  refine vp_callSi (W.runS (As := [.int (nI k)]) (rest := []) ⟨hx, hb, hml, hown, hts⟩ (c_X8_isSet l dC dI (nI k) ) (va_cwS 1 hts gX8_hasMembers_X8_isSet rfl rfl rfl (by decide +kernel) ⟨Nat.le_of_ble_eq_true rfl, Nat.le_of_ble_eq_true rfl⟩) ⟨fun a U g mk q => by obtain ⟨q0, qP, qK⟩ := q; exact ⟨q0, qP, va_K.moved (u := U) (U := U.calling g mk a) (Vm.Alike.refl U.vm) qK⟩, fun U hU hW => ⟨rfl, by rw [hU]; exact hPc, va_K.moved hW.alike hKc⟩⟩ rfl rfl hl.1 rfl (lv_room (Nat.le_of_ble_eq_true rfl)) dX8_hasMembers_1 ⟨Nat.le_of_ble_eq_true rfl, Nat.le_of_ble_eq_true rfl⟩) (fun r_2 hw_1 => ?_)
  subst hw_1
  refine lv_cvi (congrArg b2i (isS_t hk)) ?_
  refine lv_istore_n (lv' := [(2, .int (b2i true)), (0, .ref q), (1, .int (nI k))]) hx hb dX8_hasMembers_4 rfl hl (by decide) rfl (fun ls hl => ?_)
  refine lv_aload_n hx hb dX8_hasMembers_5 rfl (lv_at hl 1 rfl) ?_
  refine lv_iload_n hx hb dX8_hasMembers_6 rfl (lv_at hl 0 rfl) ?_
  refine lv_iload_n hx hb dX8_hasMembers_7 rfl (lv_at hl 0 rfl) ?_
  refine lv_if_eq (tgt := 24) hx hb dX8_hasMembers_8 (by decide) (fun qc_3 => ?_) (fun qc_3 => ?_)
  · have c_3 : true = false := b2i_f qc_3
    cases c_3
  · have c_3 : true = true := b2i_t qc_3
    refine lv_aload_n hx hb dX8_hasMembers_11 rfl (lv_at hl 1 rfl) ?_
    refine va_get (D := (dC, dI)) (ci := 7) (v := .ref zq) (C := RX8) (T := TX8) (N := 9) hx hb hts (by decide +kernel) hown hK hP 0 rfl rfl 1 (by decide) (hts (.fieldLink RX8 13 "SmallNumberSetsModel" "size" "[I") (by decide +kernel)) (fun _ h9 => h9) rfl dX8_hasMembers_12 ?_
    refine lv_iload_n hx hb dX8_hasMembers_15 rfl (lv_at hl 2 rfl) ?_
    refine va_iald hx hb hK hP 2 1 rfl rfl (vp_in_nI (by omega) (by omega)) dX8_hasMembers_16 ?_
    refine lv_cvi (congrArg fS (nI_clamp (by omega))) ?_
    refine lv_cvi (hZ k hk) ?_
    refine lv_if_le (tgt := 24) hx hb dX8_hasMembers_17 (by decide) (fun qc_4 => ?_) (fun qc_4 => ?_)
    · have c_4 : (fb_ct (M k) 4096) ≤ 0 := (nI_leI (a := fb_ct (M k) 4096) (b := 0) (by omega) (by omega)).mp qc_4
      exact absurd c_4 (by omega)
    · have c_4 : ¬ (fb_ct (M k) 4096) ≤ 0 := fun h9 => qc_4 ((nI_leI (a := fb_ct (M k) 4096) (b := 0) (by omega) (by omega)).mpr h9)
      refine lv_iconst (v := nI 1) hx hb dX8_hasMembers_20 (by decide +kernel) ?_
      refine lv_goto (tgt := 25) hx hb dX8_hasMembers_21 (by decide) ?_
      refine lv_cvi ((rfl : nI 1 = b2i true)) ?_
      have hPc := hP.sub (ws' := [(q, .inr (7, [.ref mq, .ref zq, .ref sq, .ref bq, .ref cq, .long sm, .ref pq, .int ps, .int th])), (mq, .inl (cZ, 12288, .inl fM)), (zq, .inl (cI, 3, .inl fS)), (sq, .inl (cI, 6156, .inl fP)), (bq, .inl (cI, 3, .inl fB)), (cq, .inl (cJ, 64, .inr (.inl fC))), (pq, .inl (cI, 8, .inl fT))]) [0, 1, 2, 3, 4, 5, 6] rfl
      have hKc := hK.sub (tys' := [(cZ, .boolean), (cI, .int), (cJ, .long)]) [0, 1, 2] rfl
      have hDc := hD.sub (ws' := [(q, .inr (7, [.ref mq, .ref zq, .ref sq, .ref bq, .ref cq, .long sm, .ref pq, .int ps, .int th])), (mq, .inl (cZ, 12288, .inl fM)), (zq, .inl (cI, 3, .inl fS)), (sq, .inl (cI, 6156, .inl fP)), (bq, .inl (cI, 3, .inl fB)), (cq, .inl (cJ, 64, .inr (.inl fC))), (pq, .inl (cI, 8, .inl fT))]) [0, 1, 2, 3, 4, 5, 6] (by decide) rfl
      have hFc := va_free (wc := [(q, .inr (7, [.ref mq, .ref zq, .ref sq, .ref bq, .ref cq, .long sm, .ref pq, .int ps, .int th])), (mq, .inl (cZ, 12288, .inl fM)), (zq, .inl (cI, 3, .inl fS)), (sq, .inl (cI, 6156, .inl fP)), (bq, .inl (cI, 3, .inl fB)), (cq, .inl (cJ, 64, .inr (.inl fC))), (pq, .inl (cI, 8, .inl fT))]) hD hS hA [0, 1, 2, 3, 4, 5, 6] rfl
      refine va_calli (va_runV (As := [.int (b2i true), .int (b2i true)]) (rest := []) ⟨hx, hb, hml, hown, hts⟩ (c_X8_asked_ l dC dI q mq zq sq bq cq pq cZ cI cJ fM fS fP fB fC sm fT ps th true true s.heap.size ) (cwV 2 hts gX8_hasMembers_X8_asked_ rfl rfl rfl (by decide +kernel) ⟨Nat.le_of_ble_eq_true rfl, Nat.le_of_ble_eq_true rfl⟩) ⟨fun a U g mk q => by obtain ⟨q0, q1, qP, qK, qD⟩ := q; exact ⟨q0, q1, qP, va_K.moved (u := U) (U := U.calling g mk a) (Vm.Alike.refl U.vm) qK, qD⟩, va_recv hKc hPc (ci := 7) (q0 := 0) rfl rfl, fun U hU hW => ⟨rfl, by rw [hU], by rw [hU]; exact hPc, va_K.moved hW.alike hKc, hDc.weaken (fun _ _ _ _ => trivial)⟩⟩ rfl rfl hl.1 rfl (lv_room (Nat.le_of_ble_eq_true rfl)) dX8_hasMembers_25 ⟨Nat.le_of_ble_eq_true rfl, Nat.le_of_ble_eq_true rfl⟩) hS (fun q _ h => hFc q h) hFc (fun r_7 u_6 t9 H1 locs ht hvm hw_5 hB hz1 hk1 hS => ?_)
      obtain ⟨th'_8, rfl⟩ : ∃ z, z = u_6 := ⟨_, rfl⟩
      obtain ⟨hP1, hK1, hD1⟩ := hB
      rw [ht] at hP1
      have hK1 := va_K.moved hvm.symm hK1
      try dsimp only at hw_5 hP1 hK1 hD1
      obtain ⟨hP, hD⟩ := va_join (wr := []) (w1 := [(q, .inr (7, [.ref mq, .ref zq, .ref sq, .ref bq, .ref cq, .long sm, .ref pq, .int ps, .int th'_8])), (mq, .inl (cZ, 12288, .inl fM)), (zq, .inl (cI, 3, .inl fS)), (sq, .inl (cI, 6156, .inl fP)), (bq, .inl (cI, 3, .inl fB)), (cq, .inl (cJ, 64, .inr (.inl fC))), (pq, .inl (cI, 8, .inl fT))]) hP hD [0, 1, 2, 3, 4, 5, 6] [] rfl rfl (by decide) (by decide) hk1 hFc hP1 hD1
      generalize H1 = H at hP hS ⊢
      have hP : va_P (dC, dI) vwCl [(q, .inr (7, [.ref mq, .ref zq, .ref sq, .ref bq, .ref cq, .long sm, .ref pq, .int ps, .int th'_8])), (mq, .inl (cZ, 12288, .inl fM)), (zq, .inl (cI, 3, .inl fS)), (sq, .inl (cI, 6156, .inl fP)), (bq, .inl (cI, 3, .inl fB)), (cq, .inl (cJ, 64, .inr (.inl fC))), (pq, .inl (cI, 8, .inl fT))] H := hP
      have hD : va_D A [(q, .inr (7, [.ref mq, .ref zq, .ref sq, .ref bq, .ref cq, .long sm, .ref pq, .int ps, .int th'_8])), (mq, .inl (cZ, 12288, .inl fM)), (zq, .inl (cI, 3, .inl fS)), (sq, .inl (cI, 6156, .inl fP)), (bq, .inl (cI, 3, .inl fB)), (cq, .inl (cJ, 64, .inr (.inl fC))), (pq, .inl (cI, 8, .inl fT))] := hD
      obtain ⟨he, hw_5⟩ := hw_5
      subst he
      have hP9 := hP.sub (ws' := [(q, .inr (7, [.ref mq, .ref zq, .ref sq, .ref bq, .ref cq, .long sm, .ref pq, .int ps, .int th'_8])), (mq, .inl (cZ, 12288, .inl fM)), (zq, .inl (cI, 3, .inl fS)), (sq, .inl (cI, 6156, .inl fP)), (bq, .inl (cI, 3, .inl fB)), (cq, .inl (cJ, 64, .inr (.inl fC))), (pq, .inl (cI, 8, .inl fT))]) [0, 1, 2, 3, 4, 5, 6] rfl
      have hD9 := hD.sub (ws' := [(q, .inr (7, [.ref mq, .ref zq, .ref sq, .ref bq, .ref cq, .long sm, .ref pq, .int ps, .int th'_8])), (mq, .inl (cZ, 12288, .inl fM)), (zq, .inl (cI, 3, .inl fS)), (sq, .inl (cI, 6156, .inl fP)), (bq, .inl (cI, 3, .inl fB)), (cq, .inl (cJ, 64, .inr (.inl fC))), (pq, .inl (cI, 8, .inl fT))]) [0, 1, 2, 3, 4, 5, 6] (by decide) rfl
      have hK9 := hK.sub (tys' := [(cZ, .boolean), (cI, .int), (cJ, .long)]) [0, 1, 2] rfl
      exact W.zret (v := b2i (true && true)) hx hb hr (b2i_nar _) (fun t9 ht hW => ⟨⟨b2i (true && true), th'_8, rfl, ⟨rfl, hw_5⟩, by rw [ht]; exact hP9, va_K.moved hW.alike hK9, hD9⟩, hS.F ht⟩) hS.2.2 dX8_hasMembers_28
set_option maxHeartbeats 4000000 in
set_option maxRecDepth 100000 in
/-- reference: c_X8_hasMembers_e -/
theorem c_X8_hasMembers_e (l : Launch) (dC : Nat → ClassId) (dI : Nat → Nat → Nat) (q : Nat) (mq : Nat) (zq : Nat) (sq : Nat) (bq : Nat) (cq : Nat) (pq : Nat) (cZ : ClassId) (cI : ClassId) (cJ : ClassId) (fM : Nat → Int32) (fS : Nat → Int32) (fP : Nat → Int32) (fB : Nat → Int32) (fC : Nat → Int64) (sm : Int64) (fT : Nat → Int32) (ps : Int32) (th : Int32) (M : Nat → Nat → Bool) (k : Nat) (sz : Nat) (hZ : MZ fS M) (hk : k < 3) (hp : fb_ct (M k) 4096 = 0) : Met l yX8_hasMembers wsX8_hasMembers ({ frames := 2, cells := 0, slots := 0, locals := 42 }) (va_Pc [.ref q, .int (nI k)] (fun U => U.heap.size = sz ∧ va_P (dC, dI) vwCl [(q, .inr (7, [.ref mq, .ref zq, .ref sq, .ref bq, .ref cq, .long sm, .ref pq, .int ps, .int th])), (mq, .inl (cZ, 12288, .inl fM)), (zq, .inl (cI, 3, .inl fS)), (sq, .inl (cI, 6156, .inl fP)), (bq, .inl (cI, 3, .inl fB)), (cq, .inl (cJ, 64, .inr (.inl fC))), (pq, .inl (cI, 8, .inl fT))] U.heap ∧ va_K (dC, dI) vwCl [(cZ, .boolean), (cI, .int), (cJ, .long)] U ∧ va_D (fun _ => True) [(q, .inr (7, [.ref mq, .ref zq, .ref sq, .ref bq, .ref cq, .long sm, .ref pq, .int ps, .int th])), (mq, .inl (cZ, 12288, .inl fM)), (zq, .inl (cI, 3, .inl fS)), (sq, .inl (cI, 6156, .inl fP)), (bq, .inl (cI, 3, .inl fB)), (cq, .inl (cJ, 64, .inr (.inl fC))), (pq, .inl (cI, 8, .inl fT))])) (va_Qi (fun (r : Int32) (u : Int32) => r = b2i false ∧ u = nI 2) (fun (u : Int32) (t : State) => va_P (dC, dI) vwCl [(q, .inr (7, [.ref mq, .ref zq, .ref sq, .ref bq, .ref cq, .long sm, .ref pq, .int ps, .int u])), (mq, .inl (cZ, 12288, .inl fM)), (zq, .inl (cI, 3, .inl fS)), (sq, .inl (cI, 6156, .inl fP)), (bq, .inl (cI, 3, .inl fB)), (cq, .inl (cJ, 64, .inr (.inl fC))), (pq, .inl (cI, 8, .inl fT))] t.heap ∧ va_K (dC, dI) vwCl [(cZ, .boolean), (cI, .int), (cJ, .long)] t ∧ va_D (va_A [(q, .inr (7, [.ref mq, .ref zq, .ref sq, .ref bq, .ref cq, .long sm, .ref pq, .int ps, .int th])), (mq, .inl (cZ, 12288, .inl fM)), (zq, .inl (cI, 3, .inl fS)), (sq, .inl (cI, 6156, .inl fP)), (bq, .inl (cI, 3, .inl fB)), (cq, .inl (cJ, 64, .inr (.inl fC))), (pq, .inl (cI, 8, .inl fT))] sz) [(q, .inr (7, [.ref mq, .ref zq, .ref sq, .ref bq, .ref cq, .long sm, .ref pq, .int ps, .int u])), (mq, .inl (cZ, 12288, .inl fM)), (zq, .inl (cI, 3, .inl fS)), (sq, .inl (cI, 6156, .inl fP)), (bq, .inl (cI, 3, .inl fB)), (cq, .inl (cJ, 64, .inr (.inl fC))), (pq, .inl (cI, 8, .inl fT))]) (va_A [(q, .inr (7, [.ref mq, .ref zq, .ref sq, .ref bq, .ref cq, .long sm, .ref pq, .int ps, .int th])), (mq, .inl (cZ, 12288, .inl fM)), (zq, .inl (cI, 3, .inl fS)), (sq, .inl (cI, 6156, .inl fP)), (bq, .inl (cI, 3, .inl fB)), (cq, .inl (cJ, 64, .inr (.inl fC))), (pq, .inl (cI, 8, .inl fT))] sz)) 0 0 (va_A [(q, .inr (7, [.ref mq, .ref zq, .ref sq, .ref bq, .ref cq, .long sm, .ref pq, .int ps, .int th])), (mq, .inl (cZ, 12288, .inl fM)), (zq, .inl (cI, 3, .inl fS)), (sq, .inl (cI, 6156, .inl fP)), (bq, .inl (cI, 3, .inl fB)), (cq, .inl (cJ, 64, .inr (.inl fC))), (pq, .inl (cI, 8, .inl fT))] sz) := by
  refine Met.ofW (cc := cX8_hasMembers) (maxL := 3) (ret := (some .boolean)) (by decide) rfl ?_
  intro p e s m args below meth c s₁ B hml hv
  obtain ⟨rfl, hsz, hP, hK, hD0⟩ := hv
  have hx := B.exec
  have hb := B.bytes
  have hr := B.returns
  have hts := atoms_spec (ws := wsX8_hasMembers) B.pre
  have hown : s.vm.findClass RX8 = some m.cls := findClass_of_methodNamed B.named
  have hlocks := B.notSynchronized
  subst hsz
  have hD := hD0.self (sz := s.heap.size)
  generalize hAe : va_A [(q, .inr (7, [.ref mq, .ref zq, .ref sq, .ref bq, .ref cq, .long sm, .ref pq, .int ps, .int th])), (mq, .inl (cZ, 12288, .inl fM)), (zq, .inl (cI, 3, .inl fS)), (sq, .inl (cI, 6156, .inl fP)), (bq, .inl (cI, 3, .inl fB)), (cq, .inl (cJ, 64, .inr (.inl fC))), (pq, .inl (cI, 8, .inl fT))] s.heap.size = A at hD ⊢
  have hA : ∀ q : Nat, s.heap.size ≤ q → A q := fun q h => by rw [← hAe]; exact Or.inr h
  have hS : va_S A s.heap s.heap [] := va_S.rf
  have hP : va_P (dC, dI) vwCl [(q, .inr (7, [.ref mq, .ref zq, .ref sq, .ref bq, .ref cq, .long sm, .ref pq, .int ps, .int th])), (mq, .inl (cZ, 12288, .inl fM)), (zq, .inl (cI, 3, .inl fS)), (sq, .inl (cI, 6156, .inl fP)), (bq, .inl (cI, 3, .inl fB)), (cq, .inl (cJ, 64, .inr (.inl fC))), (pq, .inl (cI, 8, .inl fT))] s.heap := hP
  have hl := lv_entry ([.ref q, .int (nI k)]) (n := 3) (Nat.le_of_ble_eq_true rfl)
  rw [lg_entry_eq]
  generalize (lg_sl ([.ref q, .int (nI k)]) ++ List.replicate (3 - (lg_sl ([.ref q, .int (nI k)])).length) Slot.unset).toArray = ls at hl ⊢
  have hl : lv_has ls 3 [(0, .ref q), (1, .int (nI k))] := hl
  refine lv_iload_n hx hb dX8_hasMembers_0 rfl (lv_at hl 1 rfl) ?_
  have hPc := hP.sub (ws' := []) [] rfl
  have hKc := hK.sub (tys' := []) [] rfl
  refine vp_callSi (W.runS (As := [.int (nI k)]) (rest := []) ⟨hx, hb, hml, hown, hts⟩ (c_X8_isSet l dC dI (nI k) ) (va_cwS 1 hts gX8_hasMembers_X8_isSet rfl rfl rfl (by decide +kernel) ⟨Nat.le_of_ble_eq_true rfl, Nat.le_of_ble_eq_true rfl⟩) ⟨fun a U g mk q => by obtain ⟨q0, qP, qK⟩ := q; exact ⟨q0, qP, va_K.moved (u := U) (U := U.calling g mk a) (Vm.Alike.refl U.vm) qK⟩, fun U hU hW => ⟨rfl, by rw [hU]; exact hPc, va_K.moved hW.alike hKc⟩⟩ rfl rfl hl.1 rfl (lv_room (Nat.le_of_ble_eq_true rfl)) dX8_hasMembers_1 ⟨Nat.le_of_ble_eq_true rfl, Nat.le_of_ble_eq_true rfl⟩) (fun r_2 hw_1 => ?_)
  subst hw_1
  refine lv_cvi (congrArg b2i (isS_t hk)) ?_
  refine lv_istore_n (lv' := [(2, .int (b2i true)), (0, .ref q), (1, .int (nI k))]) hx hb dX8_hasMembers_4 rfl hl (by decide) rfl (fun ls hl => ?_)
  refine lv_aload_n hx hb dX8_hasMembers_5 rfl (lv_at hl 1 rfl) ?_
  refine lv_iload_n hx hb dX8_hasMembers_6 rfl (lv_at hl 0 rfl) ?_
  refine lv_iload_n hx hb dX8_hasMembers_7 rfl (lv_at hl 0 rfl) ?_
  refine lv_if_eq (tgt := 24) hx hb dX8_hasMembers_8 (by decide) (fun qc_3 => ?_) (fun qc_3 => ?_)
  · have c_3 : true = false := b2i_f qc_3
    cases c_3
  · have c_3 : true = true := b2i_t qc_3
    refine lv_aload_n hx hb dX8_hasMembers_11 rfl (lv_at hl 1 rfl) ?_
    refine va_get (D := (dC, dI)) (ci := 7) (v := .ref zq) (C := RX8) (T := TX8) (N := 9) hx hb hts (by decide +kernel) hown hK hP 0 rfl rfl 1 (by decide) (hts (.fieldLink RX8 13 "SmallNumberSetsModel" "size" "[I") (by decide +kernel)) (fun _ h9 => h9) rfl dX8_hasMembers_12 ?_
    refine lv_iload_n hx hb dX8_hasMembers_15 rfl (lv_at hl 2 rfl) ?_
    refine va_iald hx hb hK hP 2 1 rfl rfl (vp_in_nI (by omega) (by omega)) dX8_hasMembers_16 ?_
    refine lv_cvi (congrArg fS (nI_clamp (by omega))) ?_
    refine lv_cvi (hZ k hk) ?_
    have hcm := fb_ct_le (M k) 4096
    refine lv_if_le (tgt := 24) hx hb dX8_hasMembers_17 (by decide) (fun qc_4 => ?_) (fun qc_4 => ?_)
    · have c_4 : (fb_ct (M k) 4096) ≤ 0 := (nI_leI (a := fb_ct (M k) 4096) (b := 0) (by omega) (by omega)).mp qc_4
      refine lv_iconst (v := nI 0) hx hb dX8_hasMembers_24 (by decide +kernel) ?_
      refine lv_cvi ((rfl : nI 0 = b2i false)) ?_
      have hPc := hP.sub (ws' := [(q, .inr (7, [.ref mq, .ref zq, .ref sq, .ref bq, .ref cq, .long sm, .ref pq, .int ps, .int th])), (mq, .inl (cZ, 12288, .inl fM)), (zq, .inl (cI, 3, .inl fS)), (sq, .inl (cI, 6156, .inl fP)), (bq, .inl (cI, 3, .inl fB)), (cq, .inl (cJ, 64, .inr (.inl fC))), (pq, .inl (cI, 8, .inl fT))]) [0, 1, 2, 3, 4, 5, 6] rfl
      have hKc := hK.sub (tys' := [(cZ, .boolean), (cI, .int), (cJ, .long)]) [0, 1, 2] rfl
      have hDc := hD.sub (ws' := [(q, .inr (7, [.ref mq, .ref zq, .ref sq, .ref bq, .ref cq, .long sm, .ref pq, .int ps, .int th])), (mq, .inl (cZ, 12288, .inl fM)), (zq, .inl (cI, 3, .inl fS)), (sq, .inl (cI, 6156, .inl fP)), (bq, .inl (cI, 3, .inl fB)), (cq, .inl (cJ, 64, .inr (.inl fC))), (pq, .inl (cI, 8, .inl fT))]) [0, 1, 2, 3, 4, 5, 6] (by decide) rfl
      have hFc := va_free (wc := [(q, .inr (7, [.ref mq, .ref zq, .ref sq, .ref bq, .ref cq, .long sm, .ref pq, .int ps, .int th])), (mq, .inl (cZ, 12288, .inl fM)), (zq, .inl (cI, 3, .inl fS)), (sq, .inl (cI, 6156, .inl fP)), (bq, .inl (cI, 3, .inl fB)), (cq, .inl (cJ, 64, .inr (.inl fC))), (pq, .inl (cI, 8, .inl fT))]) hD hS hA [0, 1, 2, 3, 4, 5, 6] rfl
      refine va_calli (va_runV (As := [.int (b2i true), .int (b2i false)]) (rest := []) ⟨hx, hb, hml, hown, hts⟩ (c_X8_asked_ l dC dI q mq zq sq bq cq pq cZ cI cJ fM fS fP fB fC sm fT ps th true false s.heap.size ) (cwV 2 hts gX8_hasMembers_X8_asked_ rfl rfl rfl (by decide +kernel) ⟨Nat.le_of_ble_eq_true rfl, Nat.le_of_ble_eq_true rfl⟩) ⟨fun a U g mk q => by obtain ⟨q0, q1, qP, qK, qD⟩ := q; exact ⟨q0, q1, qP, va_K.moved (u := U) (U := U.calling g mk a) (Vm.Alike.refl U.vm) qK, qD⟩, va_recv hKc hPc (ci := 7) (q0 := 0) rfl rfl, fun U hU hW => ⟨rfl, by rw [hU], by rw [hU]; exact hPc, va_K.moved hW.alike hKc, hDc.weaken (fun _ _ _ _ => trivial)⟩⟩ rfl rfl hl.1 rfl (lv_room (Nat.le_of_ble_eq_true rfl)) dX8_hasMembers_25 ⟨Nat.le_of_ble_eq_true rfl, Nat.le_of_ble_eq_true rfl⟩) hS (fun q _ h => hFc q h) hFc (fun r_7 u_6 t9 H1 locs ht hvm hw_5 hB hz1 hk1 hS => ?_)
      obtain ⟨th'_8, rfl⟩ : ∃ z, z = u_6 := ⟨_, rfl⟩
      obtain ⟨hP1, hK1, hD1⟩ := hB
      rw [ht] at hP1
      have hK1 := va_K.moved hvm.symm hK1
      try dsimp only at hw_5 hP1 hK1 hD1
      obtain ⟨hP, hD⟩ := va_join (wr := []) (w1 := [(q, .inr (7, [.ref mq, .ref zq, .ref sq, .ref bq, .ref cq, .long sm, .ref pq, .int ps, .int th'_8])), (mq, .inl (cZ, 12288, .inl fM)), (zq, .inl (cI, 3, .inl fS)), (sq, .inl (cI, 6156, .inl fP)), (bq, .inl (cI, 3, .inl fB)), (cq, .inl (cJ, 64, .inr (.inl fC))), (pq, .inl (cI, 8, .inl fT))]) hP hD [0, 1, 2, 3, 4, 5, 6] [] rfl rfl (by decide) (by decide) hk1 hFc hP1 hD1
      generalize H1 = H at hP hS ⊢
      have hP : va_P (dC, dI) vwCl [(q, .inr (7, [.ref mq, .ref zq, .ref sq, .ref bq, .ref cq, .long sm, .ref pq, .int ps, .int th'_8])), (mq, .inl (cZ, 12288, .inl fM)), (zq, .inl (cI, 3, .inl fS)), (sq, .inl (cI, 6156, .inl fP)), (bq, .inl (cI, 3, .inl fB)), (cq, .inl (cJ, 64, .inr (.inl fC))), (pq, .inl (cI, 8, .inl fT))] H := hP
      have hD : va_D A [(q, .inr (7, [.ref mq, .ref zq, .ref sq, .ref bq, .ref cq, .long sm, .ref pq, .int ps, .int th'_8])), (mq, .inl (cZ, 12288, .inl fM)), (zq, .inl (cI, 3, .inl fS)), (sq, .inl (cI, 6156, .inl fP)), (bq, .inl (cI, 3, .inl fB)), (cq, .inl (cJ, 64, .inr (.inl fC))), (pq, .inl (cI, 8, .inl fT))] := hD
      obtain ⟨he, hw_5⟩ := hw_5
      subst he
      have hP9 := hP.sub (ws' := [(q, .inr (7, [.ref mq, .ref zq, .ref sq, .ref bq, .ref cq, .long sm, .ref pq, .int ps, .int th'_8])), (mq, .inl (cZ, 12288, .inl fM)), (zq, .inl (cI, 3, .inl fS)), (sq, .inl (cI, 6156, .inl fP)), (bq, .inl (cI, 3, .inl fB)), (cq, .inl (cJ, 64, .inr (.inl fC))), (pq, .inl (cI, 8, .inl fT))]) [0, 1, 2, 3, 4, 5, 6] rfl
      have hD9 := hD.sub (ws' := [(q, .inr (7, [.ref mq, .ref zq, .ref sq, .ref bq, .ref cq, .long sm, .ref pq, .int ps, .int th'_8])), (mq, .inl (cZ, 12288, .inl fM)), (zq, .inl (cI, 3, .inl fS)), (sq, .inl (cI, 6156, .inl fP)), (bq, .inl (cI, 3, .inl fB)), (cq, .inl (cJ, 64, .inr (.inl fC))), (pq, .inl (cI, 8, .inl fT))]) [0, 1, 2, 3, 4, 5, 6] (by decide) rfl
      have hK9 := hK.sub (tys' := [(cZ, .boolean), (cI, .int), (cJ, .long)]) [0, 1, 2] rfl
      exact W.zret (v := b2i (true && false)) hx hb hr (b2i_nar _) (fun t9 ht hW => ⟨⟨b2i (true && false), th'_8, rfl, ⟨rfl, hw_5⟩, by rw [ht]; exact hP9, va_K.moved hW.alike hK9, hD9⟩, hS.F ht⟩) hS.2.2 dX8_hasMembers_28
    · have c_4 : ¬ (fb_ct (M k) 4096) ≤ 0 := fun h9 => qc_4 ((nI_leI (a := fb_ct (M k) 4096) (b := 0) (by omega) (by omega)).mpr h9)
      exact absurd (by omega) c_4
set_option maxHeartbeats 4000000 in
set_option maxRecDepth 100000 in
/-- reference: c_X8_hasMembers_s -/
theorem c_X8_hasMembers_s (l : Launch) (dC : Nat → ClassId) (dI : Nat → Nat → Nat) (q : Nat) (mq : Nat) (zq : Nat) (sq : Nat) (bq : Nat) (cq : Nat) (pq : Nat) (cZ : ClassId) (cI : ClassId) (cJ : ClassId) (fM : Nat → Int32) (fS : Nat → Int32) (fP : Nat → Int32) (fB : Nat → Int32) (fC : Nat → Int64) (sm : Int64) (fT : Nat → Int32) (ps : Int32) (th : Int32) (v : Int32) (sz : Nat) (hSf : isS v = false) : Met l yX8_hasMembers wsX8_hasMembers ({ frames := 2, cells := 0, slots := 0, locals := 42 }) (va_Pc [.ref q, .int v] (fun U => U.heap.size = sz ∧ va_P (dC, dI) vwCl [(q, .inr (7, [.ref mq, .ref zq, .ref sq, .ref bq, .ref cq, .long sm, .ref pq, .int ps, .int th])), (mq, .inl (cZ, 12288, .inl fM)), (zq, .inl (cI, 3, .inl fS)), (sq, .inl (cI, 6156, .inl fP)), (bq, .inl (cI, 3, .inl fB)), (cq, .inl (cJ, 64, .inr (.inl fC))), (pq, .inl (cI, 8, .inl fT))] U.heap ∧ va_K (dC, dI) vwCl [(cZ, .boolean), (cI, .int), (cJ, .long)] U ∧ va_D (fun _ => True) [(q, .inr (7, [.ref mq, .ref zq, .ref sq, .ref bq, .ref cq, .long sm, .ref pq, .int ps, .int th])), (mq, .inl (cZ, 12288, .inl fM)), (zq, .inl (cI, 3, .inl fS)), (sq, .inl (cI, 6156, .inl fP)), (bq, .inl (cI, 3, .inl fB)), (cq, .inl (cJ, 64, .inr (.inl fC))), (pq, .inl (cI, 8, .inl fT))])) (va_Qi (fun (r : Int32) (u : Int32) => r = b2i false ∧ u = nI 1) (fun (u : Int32) (t : State) => va_P (dC, dI) vwCl [(q, .inr (7, [.ref mq, .ref zq, .ref sq, .ref bq, .ref cq, .long sm, .ref pq, .int ps, .int u])), (mq, .inl (cZ, 12288, .inl fM)), (zq, .inl (cI, 3, .inl fS)), (sq, .inl (cI, 6156, .inl fP)), (bq, .inl (cI, 3, .inl fB)), (cq, .inl (cJ, 64, .inr (.inl fC))), (pq, .inl (cI, 8, .inl fT))] t.heap ∧ va_K (dC, dI) vwCl [(cZ, .boolean), (cI, .int), (cJ, .long)] t ∧ va_D (va_A [(q, .inr (7, [.ref mq, .ref zq, .ref sq, .ref bq, .ref cq, .long sm, .ref pq, .int ps, .int th])), (mq, .inl (cZ, 12288, .inl fM)), (zq, .inl (cI, 3, .inl fS)), (sq, .inl (cI, 6156, .inl fP)), (bq, .inl (cI, 3, .inl fB)), (cq, .inl (cJ, 64, .inr (.inl fC))), (pq, .inl (cI, 8, .inl fT))] sz) [(q, .inr (7, [.ref mq, .ref zq, .ref sq, .ref bq, .ref cq, .long sm, .ref pq, .int ps, .int u])), (mq, .inl (cZ, 12288, .inl fM)), (zq, .inl (cI, 3, .inl fS)), (sq, .inl (cI, 6156, .inl fP)), (bq, .inl (cI, 3, .inl fB)), (cq, .inl (cJ, 64, .inr (.inl fC))), (pq, .inl (cI, 8, .inl fT))]) (va_A [(q, .inr (7, [.ref mq, .ref zq, .ref sq, .ref bq, .ref cq, .long sm, .ref pq, .int ps, .int th])), (mq, .inl (cZ, 12288, .inl fM)), (zq, .inl (cI, 3, .inl fS)), (sq, .inl (cI, 6156, .inl fP)), (bq, .inl (cI, 3, .inl fB)), (cq, .inl (cJ, 64, .inr (.inl fC))), (pq, .inl (cI, 8, .inl fT))] sz)) 0 0 (va_A [(q, .inr (7, [.ref mq, .ref zq, .ref sq, .ref bq, .ref cq, .long sm, .ref pq, .int ps, .int th])), (mq, .inl (cZ, 12288, .inl fM)), (zq, .inl (cI, 3, .inl fS)), (sq, .inl (cI, 6156, .inl fP)), (bq, .inl (cI, 3, .inl fB)), (cq, .inl (cJ, 64, .inr (.inl fC))), (pq, .inl (cI, 8, .inl fT))] sz) := by
  refine Met.ofW (cc := cX8_hasMembers) (maxL := 3) (ret := (some .boolean)) (by decide) rfl ?_
  intro p e s m args below meth c s₁ B hml hv
  obtain ⟨rfl, hsz, hP, hK, hD0⟩ := hv
  have hx := B.exec
  have hb := B.bytes
  have hr := B.returns
  have hts := atoms_spec (ws := wsX8_hasMembers) B.pre
  have hown : s.vm.findClass RX8 = some m.cls := findClass_of_methodNamed B.named
  have hlocks := B.notSynchronized
  subst hsz
  have hD := hD0.self (sz := s.heap.size)
  generalize hAe : va_A [(q, .inr (7, [.ref mq, .ref zq, .ref sq, .ref bq, .ref cq, .long sm, .ref pq, .int ps, .int th])), (mq, .inl (cZ, 12288, .inl fM)), (zq, .inl (cI, 3, .inl fS)), (sq, .inl (cI, 6156, .inl fP)), (bq, .inl (cI, 3, .inl fB)), (cq, .inl (cJ, 64, .inr (.inl fC))), (pq, .inl (cI, 8, .inl fT))] s.heap.size = A at hD ⊢
  have hA : ∀ q : Nat, s.heap.size ≤ q → A q := fun q h => by rw [← hAe]; exact Or.inr h
  have hS : va_S A s.heap s.heap [] := va_S.rf
  have hP : va_P (dC, dI) vwCl [(q, .inr (7, [.ref mq, .ref zq, .ref sq, .ref bq, .ref cq, .long sm, .ref pq, .int ps, .int th])), (mq, .inl (cZ, 12288, .inl fM)), (zq, .inl (cI, 3, .inl fS)), (sq, .inl (cI, 6156, .inl fP)), (bq, .inl (cI, 3, .inl fB)), (cq, .inl (cJ, 64, .inr (.inl fC))), (pq, .inl (cI, 8, .inl fT))] s.heap := hP
  have hl := lv_entry ([.ref q, .int v]) (n := 3) (Nat.le_of_ble_eq_true rfl)
  rw [lg_entry_eq]
  generalize (lg_sl ([.ref q, .int v]) ++ List.replicate (3 - (lg_sl ([.ref q, .int v])).length) Slot.unset).toArray = ls at hl ⊢
  have hl : lv_has ls 3 [(0, .ref q), (1, .int v)] := hl
  refine lv_iload_n hx hb dX8_hasMembers_0 rfl (lv_at hl 1 rfl) ?_
  have hPc := hP.sub (ws' := []) [] rfl
  have hKc := hK.sub (tys' := []) [] rfl
  refine vp_callSi (W.runS (As := [.int v]) (rest := []) ⟨hx, hb, hml, hown, hts⟩ (c_X8_isSet l dC dI v ) (va_cwS 1 hts gX8_hasMembers_X8_isSet rfl rfl rfl (by decide +kernel) ⟨Nat.le_of_ble_eq_true rfl, Nat.le_of_ble_eq_true rfl⟩) ⟨fun a U g mk q => by obtain ⟨q0, qP, qK⟩ := q; exact ⟨q0, qP, va_K.moved (u := U) (U := U.calling g mk a) (Vm.Alike.refl U.vm) qK⟩, fun U hU hW => ⟨rfl, by rw [hU]; exact hPc, va_K.moved hW.alike hKc⟩⟩ rfl rfl hl.1 rfl (lv_room (Nat.le_of_ble_eq_true rfl)) dX8_hasMembers_1 ⟨Nat.le_of_ble_eq_true rfl, Nat.le_of_ble_eq_true rfl⟩) (fun r_2 hw_1 => ?_)
  subst hw_1
  refine lv_cvi (congrArg b2i (hSf)) ?_
  refine lv_istore_n (lv' := [(2, .int (b2i false)), (0, .ref q), (1, .int v)]) hx hb dX8_hasMembers_4 rfl hl (by decide) rfl (fun ls hl => ?_)
  refine lv_aload_n hx hb dX8_hasMembers_5 rfl (lv_at hl 1 rfl) ?_
  refine lv_iload_n hx hb dX8_hasMembers_6 rfl (lv_at hl 0 rfl) ?_
  refine lv_iload_n hx hb dX8_hasMembers_7 rfl (lv_at hl 0 rfl) ?_
  refine lv_if_eq (tgt := 24) hx hb dX8_hasMembers_8 (by decide) (fun qc_3 => ?_) (fun qc_3 => ?_)
  · have c_3 : false = false := b2i_f qc_3
    refine lv_iconst (v := nI 0) hx hb dX8_hasMembers_24 (by decide +kernel) ?_
    refine lv_cvi ((rfl : nI 0 = b2i false)) ?_
    have hPc := hP.sub (ws' := [(q, .inr (7, [.ref mq, .ref zq, .ref sq, .ref bq, .ref cq, .long sm, .ref pq, .int ps, .int th])), (mq, .inl (cZ, 12288, .inl fM)), (zq, .inl (cI, 3, .inl fS)), (sq, .inl (cI, 6156, .inl fP)), (bq, .inl (cI, 3, .inl fB)), (cq, .inl (cJ, 64, .inr (.inl fC))), (pq, .inl (cI, 8, .inl fT))]) [0, 1, 2, 3, 4, 5, 6] rfl
    have hKc := hK.sub (tys' := [(cZ, .boolean), (cI, .int), (cJ, .long)]) [0, 1, 2] rfl
    have hDc := hD.sub (ws' := [(q, .inr (7, [.ref mq, .ref zq, .ref sq, .ref bq, .ref cq, .long sm, .ref pq, .int ps, .int th])), (mq, .inl (cZ, 12288, .inl fM)), (zq, .inl (cI, 3, .inl fS)), (sq, .inl (cI, 6156, .inl fP)), (bq, .inl (cI, 3, .inl fB)), (cq, .inl (cJ, 64, .inr (.inl fC))), (pq, .inl (cI, 8, .inl fT))]) [0, 1, 2, 3, 4, 5, 6] (by decide) rfl
    have hFc := va_free (wc := [(q, .inr (7, [.ref mq, .ref zq, .ref sq, .ref bq, .ref cq, .long sm, .ref pq, .int ps, .int th])), (mq, .inl (cZ, 12288, .inl fM)), (zq, .inl (cI, 3, .inl fS)), (sq, .inl (cI, 6156, .inl fP)), (bq, .inl (cI, 3, .inl fB)), (cq, .inl (cJ, 64, .inr (.inl fC))), (pq, .inl (cI, 8, .inl fT))]) hD hS hA [0, 1, 2, 3, 4, 5, 6] rfl
    refine va_calli (va_runV (As := [.int (b2i false), .int (b2i false)]) (rest := []) ⟨hx, hb, hml, hown, hts⟩ (c_X8_asked_ l dC dI q mq zq sq bq cq pq cZ cI cJ fM fS fP fB fC sm fT ps th false false s.heap.size ) (cwV 2 hts gX8_hasMembers_X8_asked_ rfl rfl rfl (by decide +kernel) ⟨Nat.le_of_ble_eq_true rfl, Nat.le_of_ble_eq_true rfl⟩) ⟨fun a U g mk q => by obtain ⟨q0, q1, qP, qK, qD⟩ := q; exact ⟨q0, q1, qP, va_K.moved (u := U) (U := U.calling g mk a) (Vm.Alike.refl U.vm) qK, qD⟩, va_recv hKc hPc (ci := 7) (q0 := 0) rfl rfl, fun U hU hW => ⟨rfl, by rw [hU], by rw [hU]; exact hPc, va_K.moved hW.alike hKc, hDc.weaken (fun _ _ _ _ => trivial)⟩⟩ rfl rfl hl.1 rfl (lv_room (Nat.le_of_ble_eq_true rfl)) dX8_hasMembers_25 ⟨Nat.le_of_ble_eq_true rfl, Nat.le_of_ble_eq_true rfl⟩) hS (fun q _ h => hFc q h) hFc (fun r_6 u_5 t9 H1 locs ht hvm hw_4 hB hz1 hk1 hS => ?_)
    obtain ⟨th'_7, rfl⟩ : ∃ z, z = u_5 := ⟨_, rfl⟩
    obtain ⟨hP1, hK1, hD1⟩ := hB
    rw [ht] at hP1
    have hK1 := va_K.moved hvm.symm hK1
    try dsimp only at hw_4 hP1 hK1 hD1
    obtain ⟨hP, hD⟩ := va_join (wr := []) (w1 := [(q, .inr (7, [.ref mq, .ref zq, .ref sq, .ref bq, .ref cq, .long sm, .ref pq, .int ps, .int th'_7])), (mq, .inl (cZ, 12288, .inl fM)), (zq, .inl (cI, 3, .inl fS)), (sq, .inl (cI, 6156, .inl fP)), (bq, .inl (cI, 3, .inl fB)), (cq, .inl (cJ, 64, .inr (.inl fC))), (pq, .inl (cI, 8, .inl fT))]) hP hD [0, 1, 2, 3, 4, 5, 6] [] rfl rfl (by decide) (by decide) hk1 hFc hP1 hD1
    generalize H1 = H at hP hS ⊢
    have hP : va_P (dC, dI) vwCl [(q, .inr (7, [.ref mq, .ref zq, .ref sq, .ref bq, .ref cq, .long sm, .ref pq, .int ps, .int th'_7])), (mq, .inl (cZ, 12288, .inl fM)), (zq, .inl (cI, 3, .inl fS)), (sq, .inl (cI, 6156, .inl fP)), (bq, .inl (cI, 3, .inl fB)), (cq, .inl (cJ, 64, .inr (.inl fC))), (pq, .inl (cI, 8, .inl fT))] H := hP
    have hD : va_D A [(q, .inr (7, [.ref mq, .ref zq, .ref sq, .ref bq, .ref cq, .long sm, .ref pq, .int ps, .int th'_7])), (mq, .inl (cZ, 12288, .inl fM)), (zq, .inl (cI, 3, .inl fS)), (sq, .inl (cI, 6156, .inl fP)), (bq, .inl (cI, 3, .inl fB)), (cq, .inl (cJ, 64, .inr (.inl fC))), (pq, .inl (cI, 8, .inl fT))] := hD
    obtain ⟨he, hw_4⟩ := hw_4
    subst he
    have hP9 := hP.sub (ws' := [(q, .inr (7, [.ref mq, .ref zq, .ref sq, .ref bq, .ref cq, .long sm, .ref pq, .int ps, .int th'_7])), (mq, .inl (cZ, 12288, .inl fM)), (zq, .inl (cI, 3, .inl fS)), (sq, .inl (cI, 6156, .inl fP)), (bq, .inl (cI, 3, .inl fB)), (cq, .inl (cJ, 64, .inr (.inl fC))), (pq, .inl (cI, 8, .inl fT))]) [0, 1, 2, 3, 4, 5, 6] rfl
    have hD9 := hD.sub (ws' := [(q, .inr (7, [.ref mq, .ref zq, .ref sq, .ref bq, .ref cq, .long sm, .ref pq, .int ps, .int th'_7])), (mq, .inl (cZ, 12288, .inl fM)), (zq, .inl (cI, 3, .inl fS)), (sq, .inl (cI, 6156, .inl fP)), (bq, .inl (cI, 3, .inl fB)), (cq, .inl (cJ, 64, .inr (.inl fC))), (pq, .inl (cI, 8, .inl fT))]) [0, 1, 2, 3, 4, 5, 6] (by decide) rfl
    have hK9 := hK.sub (tys' := [(cZ, .boolean), (cI, .int), (cJ, .long)]) [0, 1, 2] rfl
    exact W.zret (v := b2i (false && false)) hx hb hr (b2i_nar _) (fun t9 ht hW => ⟨⟨b2i (false && false), th'_7, rfl, ⟨rfl, hw_4⟩, by rw [ht]; exact hP9, va_K.moved hW.alike hK9, hD9⟩, hS.F ht⟩) hS.2.2 dX8_hasMembers_28
  · have c_3 : false = true := b2i_t qc_3
    cases c_3
set_option maxHeartbeats 4000000 in
set_option maxRecDepth 100000 in
/-- reference: c_X8_pollFirst_v -/
theorem c_X8_pollFirst_v (l : Launch) (dC : Nat → ClassId) (dI : Nat → Nat → Nat) (q : Nat) (mq : Nat) (zq : Nat) (sq : Nat) (bq : Nat) (cq : Nat) (pq : Nat) (cZ : ClassId) (cI : ClassId) (cJ : ClassId) (fM : Nat → Int32) (fS : Nat → Int32) (fP : Nat → Int32) (fB : Nat → Int32) (fC : Nat → Int64) (sm : Int64) (fT : Nat → Int32) (ps : Int32) (th : Int32) (M : Nat → Nat → Bool) (P : Nat → Nat → Bool) (k : Nat) (z : Nat) (sz : Nat) (hM : MM fM M) (hZ : MZ fS M) (hX : MX fP fB P) (hk : k < 3) (hB : BI (M k) (P k)) (hz : fst1 (M k) 4096 = some z) : Met l yX8_pollFirst wsX8_pollFirst ({ frames := 5, cells := 0, slots := 0, locals := 118 }) (va_Pc [.ref q, .int (nI k)] (fun U => U.heap.size = sz ∧ va_P (dC, dI) vwCl [(q, .inr (7, [.ref mq, .ref zq, .ref sq, .ref bq, .ref cq, .long sm, .ref pq, .int ps, .int th])), (mq, .inl (cZ, 12288, .inl fM)), (zq, .inl (cI, 3, .inl fS)), (sq, .inl (cI, 6156, .inl fP)), (bq, .inl (cI, 3, .inl fB)), (cq, .inl (cJ, 64, .inr (.inl fC))), (pq, .inl (cI, 8, .inl fT))] U.heap ∧ va_K (dC, dI) vwCl [(cZ, .boolean), (cI, .int), (cJ, .long)] U ∧ va_D (fun _ => True) [(q, .inr (7, [.ref mq, .ref zq, .ref sq, .ref bq, .ref cq, .long sm, .ref pq, .int ps, .int th])), (mq, .inl (cZ, 12288, .inl fM)), (zq, .inl (cI, 3, .inl fS)), (sq, .inl (cI, 6156, .inl fP)), (bq, .inl (cI, 3, .inl fB)), (cq, .inl (cJ, 64, .inr (.inl fC))), (pq, .inl (cI, 8, .inl fT))])) (va_Qi (fun (r : Int32) (u : (Nat → Int32) × (Nat → Int32) × (Nat → Int32) × (Nat → Int32) × Int32) => r = nI z ∧ MM u.1 (upF M k (del (M k) z)) ∧ MZ u.2.1 (upF M k (del (M k) z)) ∧ MX u.2.2.1 u.2.2.2.1 (upF P k (takeP (M k) (P k) z)) ∧ u.2.2.2.2 = nI 0) (fun (u : (Nat → Int32) × (Nat → Int32) × (Nat → Int32) × (Nat → Int32) × Int32) (t : State) => va_P (dC, dI) vwCl [(q, .inr (7, [.ref mq, .ref zq, .ref sq, .ref bq, .ref cq, .long sm, .ref pq, .int ps, .int u.2.2.2.2])), (mq, .inl (cZ, 12288, .inl u.1)), (zq, .inl (cI, 3, .inl u.2.1)), (sq, .inl (cI, 6156, .inl u.2.2.1)), (bq, .inl (cI, 3, .inl u.2.2.2.1)), (cq, .inl (cJ, 64, .inr (.inl fC))), (pq, .inl (cI, 8, .inl fT))] t.heap ∧ va_K (dC, dI) vwCl [(cZ, .boolean), (cI, .int), (cJ, .long)] t ∧ va_D (va_A [(q, .inr (7, [.ref mq, .ref zq, .ref sq, .ref bq, .ref cq, .long sm, .ref pq, .int ps, .int th])), (mq, .inl (cZ, 12288, .inl fM)), (zq, .inl (cI, 3, .inl fS)), (sq, .inl (cI, 6156, .inl fP)), (bq, .inl (cI, 3, .inl fB)), (cq, .inl (cJ, 64, .inr (.inl fC))), (pq, .inl (cI, 8, .inl fT))] sz) [(q, .inr (7, [.ref mq, .ref zq, .ref sq, .ref bq, .ref cq, .long sm, .ref pq, .int ps, .int u.2.2.2.2])), (mq, .inl (cZ, 12288, .inl u.1)), (zq, .inl (cI, 3, .inl u.2.1)), (sq, .inl (cI, 6156, .inl u.2.2.1)), (bq, .inl (cI, 3, .inl u.2.2.2.1)), (cq, .inl (cJ, 64, .inr (.inl fC))), (pq, .inl (cI, 8, .inl fT))]) (va_A [(q, .inr (7, [.ref mq, .ref zq, .ref sq, .ref bq, .ref cq, .long sm, .ref pq, .int ps, .int th])), (mq, .inl (cZ, 12288, .inl fM)), (zq, .inl (cI, 3, .inl fS)), (sq, .inl (cI, 6156, .inl fP)), (bq, .inl (cI, 3, .inl fB)), (cq, .inl (cJ, 64, .inr (.inl fC))), (pq, .inl (cI, 8, .inl fT))] sz)) 0 0 (va_A [(q, .inr (7, [.ref mq, .ref zq, .ref sq, .ref bq, .ref cq, .long sm, .ref pq, .int ps, .int th])), (mq, .inl (cZ, 12288, .inl fM)), (zq, .inl (cI, 3, .inl fS)), (sq, .inl (cI, 6156, .inl fP)), (bq, .inl (cI, 3, .inl fB)), (cq, .inl (cJ, 64, .inr (.inl fC))), (pq, .inl (cI, 8, .inl fT))] sz) := by
  refine Met.ofW (cc := cX8_pollFirst) (maxL := 3) (ret := (some .int)) (by decide) rfl ?_
  intro p e s m args below meth c s₁ B hml hv
  obtain ⟨rfl, hsz, hP, hK, hD0⟩ := hv
  have hx := B.exec
  have hb := B.bytes
  have hr := B.returns
  have hts := atoms_spec (ws := wsX8_pollFirst) B.pre
  have hown : s.vm.findClass RX8 = some m.cls := findClass_of_methodNamed B.named
  have hlocks := B.notSynchronized
  subst hsz
  have hD := hD0.self (sz := s.heap.size)
  generalize hAe : va_A [(q, .inr (7, [.ref mq, .ref zq, .ref sq, .ref bq, .ref cq, .long sm, .ref pq, .int ps, .int th])), (mq, .inl (cZ, 12288, .inl fM)), (zq, .inl (cI, 3, .inl fS)), (sq, .inl (cI, 6156, .inl fP)), (bq, .inl (cI, 3, .inl fB)), (cq, .inl (cJ, 64, .inr (.inl fC))), (pq, .inl (cI, 8, .inl fT))] s.heap.size = A at hD ⊢
  have hA : ∀ q : Nat, s.heap.size ≤ q → A q := fun q h => by rw [← hAe]; exact Or.inr h
  have hS : va_S A s.heap s.heap [] := va_S.rf
  have hP : va_P (dC, dI) vwCl [(q, .inr (7, [.ref mq, .ref zq, .ref sq, .ref bq, .ref cq, .long sm, .ref pq, .int ps, .int th])), (mq, .inl (cZ, 12288, .inl fM)), (zq, .inl (cI, 3, .inl fS)), (sq, .inl (cI, 6156, .inl fP)), (bq, .inl (cI, 3, .inl fB)), (cq, .inl (cJ, 64, .inr (.inl fC))), (pq, .inl (cI, 8, .inl fT))] s.heap := hP
  have hl := lv_entry ([.ref q, .int (nI k)]) (n := 3) (Nat.le_of_ble_eq_true rfl)
  rw [lg_entry_eq]
  generalize (lg_sl ([.ref q, .int (nI k)]) ++ List.replicate (3 - (lg_sl ([.ref q, .int (nI k)])).length) Slot.unset).toArray = ls at hl ⊢
  have hl : lv_has ls 3 [(0, .ref q), (1, .int (nI k))] := hl
  have hzb := (fst1_some hz).1
  have hpp : 0 < fb_ct (M k) 4096 := fb_ct_pos.mpr ⟨z, hzb, (fst1_some hz).2.1⟩
  refine lv_aload_n hx hb dX8_pollFirst_0 rfl (lv_at hl 0 rfl) ?_
  refine lv_iload_n hx hb dX8_pollFirst_1 rfl (lv_at hl 1 rfl) ?_
  have hPc := hP.sub (ws' := [(q, .inr (7, [.ref mq, .ref zq, .ref sq, .ref bq, .ref cq, .long sm, .ref pq, .int ps, .int th])), (mq, .inl (cZ, 12288, .inl fM)), (zq, .inl (cI, 3, .inl fS)), (sq, .inl (cI, 6156, .inl fP)), (bq, .inl (cI, 3, .inl fB)), (cq, .inl (cJ, 64, .inr (.inl fC))), (pq, .inl (cI, 8, .inl fT))]) [0, 1, 2, 3, 4, 5, 6] rfl
  have hKc := hK.sub (tys' := [(cZ, .boolean), (cI, .int), (cJ, .long)]) [0, 1, 2] rfl
  have hDc := hD.sub (ws' := [(q, .inr (7, [.ref mq, .ref zq, .ref sq, .ref bq, .ref cq, .long sm, .ref pq, .int ps, .int th])), (mq, .inl (cZ, 12288, .inl fM)), (zq, .inl (cI, 3, .inl fS)), (sq, .inl (cI, 6156, .inl fP)), (bq, .inl (cI, 3, .inl fB)), (cq, .inl (cJ, 64, .inr (.inl fC))), (pq, .inl (cI, 8, .inl fT))]) [0, 1, 2, 3, 4, 5, 6] (by decide) rfl
  have hFc := va_free (wc := [(q, .inr (7, [.ref mq, .ref zq, .ref sq, .ref bq, .ref cq, .long sm, .ref pq, .int ps, .int th])), (mq, .inl (cZ, 12288, .inl fM)), (zq, .inl (cI, 3, .inl fS)), (sq, .inl (cI, 6156, .inl fP)), (bq, .inl (cI, 3, .inl fB)), (cq, .inl (cJ, 64, .inr (.inl fC))), (pq, .inl (cI, 8, .inl fT))]) hD hS hA [0, 1, 2, 3, 4, 5, 6] rfl
  refine va_calli (va_runV (As := [.int (nI k)]) (rest := []) ⟨hx, hb, hml, hown, hts⟩ (c_X8_hasMembers_v l dC dI q mq zq sq bq cq pq cZ cI cJ fM fS fP fB fC sm fT ps th M k s.heap.size (by first | assumption | omega) (by first | assumption | omega) (by first | assumption | omega)) (cwV 1 hts gX8_pollFirst_X8_hasMembers rfl rfl rfl (by decide +kernel) ⟨Nat.le_of_ble_eq_true rfl, Nat.le_of_ble_eq_true rfl⟩) ⟨fun a U g mk q => by obtain ⟨q0, q1, qP, qK, qD⟩ := q; exact ⟨q0, q1, qP, va_K.moved (u := U) (U := U.calling g mk a) (Vm.Alike.refl U.vm) qK, qD⟩, va_recv hKc hPc (ci := 7) (q0 := 0) rfl rfl, fun U hU hW => ⟨rfl, by rw [hU], by rw [hU]; exact hPc, va_K.moved hW.alike hKc, hDc.weaken (fun _ _ _ _ => trivial)⟩⟩ rfl rfl hl.1 rfl (lv_room (Nat.le_of_ble_eq_true rfl)) dX8_pollFirst_2 ⟨Nat.le_of_ble_eq_true rfl, Nat.le_of_ble_eq_true rfl⟩) hS (fun q _ h => hFc q h) hFc (fun r_3 u_2 t9 H1 locs ht hvm hw_1 hB hz1 hk1 hS => ?_)
  obtain ⟨th'_4, rfl⟩ : ∃ z, z = u_2 := ⟨_, rfl⟩
  obtain ⟨hP1, hK1, hD1⟩ := hB
  rw [ht] at hP1
  have hK1 := va_K.moved hvm.symm hK1
  try dsimp only at hw_1 hP1 hK1 hD1
  obtain ⟨hP, hD⟩ := va_join (wr := []) (w1 := [(q, .inr (7, [.ref mq, .ref zq, .ref sq, .ref bq, .ref cq, .long sm, .ref pq, .int ps, .int th'_4])), (mq, .inl (cZ, 12288, .inl fM)), (zq, .inl (cI, 3, .inl fS)), (sq, .inl (cI, 6156, .inl fP)), (bq, .inl (cI, 3, .inl fB)), (cq, .inl (cJ, 64, .inr (.inl fC))), (pq, .inl (cI, 8, .inl fT))]) hP hD [0, 1, 2, 3, 4, 5, 6] [] rfl rfl (by decide) (by decide) hk1 hFc hP1 hD1
  generalize H1 = H at hP hS ⊢
  have hP : va_P (dC, dI) vwCl [(q, .inr (7, [.ref mq, .ref zq, .ref sq, .ref bq, .ref cq, .long sm, .ref pq, .int ps, .int th'_4])), (mq, .inl (cZ, 12288, .inl fM)), (zq, .inl (cI, 3, .inl fS)), (sq, .inl (cI, 6156, .inl fP)), (bq, .inl (cI, 3, .inl fB)), (cq, .inl (cJ, 64, .inr (.inl fC))), (pq, .inl (cI, 8, .inl fT))] H := hP
  have hD : va_D A [(q, .inr (7, [.ref mq, .ref zq, .ref sq, .ref bq, .ref cq, .long sm, .ref pq, .int ps, .int th'_4])), (mq, .inl (cZ, 12288, .inl fM)), (zq, .inl (cI, 3, .inl fS)), (sq, .inl (cI, 6156, .inl fP)), (bq, .inl (cI, 3, .inl fB)), (cq, .inl (cJ, 64, .inr (.inl fC))), (pq, .inl (cI, 8, .inl fT))] := hD
  obtain ⟨he, hw_1⟩ := hw_1
  subst he
  have hth := hw_1
  refine lv_if_ne (tgt := 10) hx hb dX8_pollFirst_5 (by decide) (fun qc_5 => ?_) (fun qc_5 => ?_)
  · have c_5 : true = true := b2i_t qc_5
    refine lv_aload_n hx hb dX8_pollFirst_10 rfl (lv_at hl 0 rfl) ?_
    refine lv_iload_n hx hb dX8_pollFirst_11 rfl (lv_at hl 1 rfl) ?_
    refine lv_iconst (v := nI 0) hx hb dX8_pollFirst_12 (by decide +kernel) ?_
    have hPc := hP.sub (ws' := [(q, .inr (7, [.ref mq, .ref zq, .ref sq, .ref bq, .ref cq, .long sm, .ref pq, .int ps, .int th'_4])), (mq, .inl (cZ, 12288, .inl fM)), (zq, .inl (cI, 3, .inl fS)), (sq, .inl (cI, 6156, .inl fP)), (bq, .inl (cI, 3, .inl fB)), (cq, .inl (cJ, 64, .inr (.inl fC))), (pq, .inl (cI, 8, .inl fT))]) [0, 1, 2, 3, 4, 5, 6] rfl
    have hKc := hK.sub (tys' := [(cZ, .boolean), (cI, .int), (cJ, .long)]) [0, 1, 2] rfl
    refine vp_callSi (W.runV (As := [.int (nI k), .int (nI 0)]) (rest := []) ⟨hx, hb, hml, hown, hts⟩ (c_X8_above l dC dI q mq zq sq bq cq pq cZ cI cJ fM fS fP fB fC sm fT ps th'_4 M k 0 (by first | assumption | omega) (by first | assumption | omega) (by first | assumption | omega)) (cwV 2 hts gX8_pollFirst_X8_above rfl rfl rfl (by decide +kernel) ⟨Nat.le_of_ble_eq_true rfl, Nat.le_of_ble_eq_true rfl⟩) ⟨fun a U g mk q => by obtain ⟨q0, qP, qK⟩ := q; exact ⟨q0, qP, va_K.moved (u := U) (U := U.calling g mk a) (Vm.Alike.refl U.vm) qK⟩, va_recv hKc hPc (ci := 7) (q0 := 0) rfl rfl, fun U hU hW => ⟨rfl, by rw [hU]; exact hPc, va_K.moved hW.alike hKc⟩⟩ rfl rfl hl.1 rfl (lv_room (Nat.le_of_ble_eq_true rfl)) dX8_pollFirst_13 ⟨Nat.le_of_ble_eq_true rfl, Nat.le_of_ble_eq_true rfl⟩) (fun r_7 hw_6 => ?_)
    subst hw_6
    refine lv_cvi (congrArg nI (fst_abv0 hz)) ?_
    refine lv_istore_n (lv' := [(2, .int (nI z)), (0, .ref q), (1, .int (nI k))]) hx hb dX8_pollFirst_16 rfl hl (by decide) rfl (fun ls hl => ?_)
    refine lv_aload_n hx hb dX8_pollFirst_17 rfl (lv_at hl 1 rfl) ?_
    refine lv_iload_n hx hb dX8_pollFirst_18 rfl (lv_at hl 2 rfl) ?_
    refine lv_iload_n hx hb dX8_pollFirst_19 rfl (lv_at hl 0 rfl) ?_
    have hPc := hP.sub (ws' := [(q, .inr (7, [.ref mq, .ref zq, .ref sq, .ref bq, .ref cq, .long sm, .ref pq, .int ps, .int th'_4])), (mq, .inl (cZ, 12288, .inl fM)), (zq, .inl (cI, 3, .inl fS)), (sq, .inl (cI, 6156, .inl fP)), (bq, .inl (cI, 3, .inl fB)), (cq, .inl (cJ, 64, .inr (.inl fC))), (pq, .inl (cI, 8, .inl fT))]) [0, 1, 2, 3, 4, 5, 6] rfl
    have hKc := hK.sub (tys' := [(cZ, .boolean), (cI, .int), (cJ, .long)]) [0, 1, 2] rfl
    have hDc := hD.sub (ws' := [(q, .inr (7, [.ref mq, .ref zq, .ref sq, .ref bq, .ref cq, .long sm, .ref pq, .int ps, .int th'_4])), (mq, .inl (cZ, 12288, .inl fM)), (zq, .inl (cI, 3, .inl fS)), (sq, .inl (cI, 6156, .inl fP)), (bq, .inl (cI, 3, .inl fB)), (cq, .inl (cJ, 64, .inr (.inl fC))), (pq, .inl (cI, 8, .inl fT))]) [0, 1, 2, 3, 4, 5, 6] (by decide) rfl
    have hFc := va_free (wc := [(q, .inr (7, [.ref mq, .ref zq, .ref sq, .ref bq, .ref cq, .long sm, .ref pq, .int ps, .int th'_4])), (mq, .inl (cZ, 12288, .inl fM)), (zq, .inl (cI, 3, .inl fS)), (sq, .inl (cI, 6156, .inl fP)), (bq, .inl (cI, 3, .inl fB)), (cq, .inl (cJ, 64, .inr (.inl fC))), (pq, .inl (cI, 8, .inl fT))]) hD hS hA [0, 1, 2, 3, 4, 5, 6] rfl
    refine va_calli (va_runV (As := [.int (nI k), .int (nI z)]) (rest := []) ⟨hx, hb, hml, hown, hts⟩ (c_X8_takes l dC dI q mq zq sq bq cq pq cZ cI cJ fM fS fP fB fC sm fT ps th'_4 M P k z H.size (by first | assumption | omega) (by first | assumption | omega) (by first | assumption | omega) (by first | assumption | omega) (by first | assumption | omega) (bi_cnt hB)) (cwV 2 hts gX8_pollFirst_X8_takes rfl rfl rfl (by decide +kernel) ⟨Nat.le_of_ble_eq_true rfl, Nat.le_of_ble_eq_true rfl⟩) ⟨fun a U g mk q => by obtain ⟨q0, q1, qP, qK, qD⟩ := q; exact ⟨q0, q1, qP, va_K.moved (u := U) (U := U.calling g mk a) (Vm.Alike.refl U.vm) qK, qD⟩, va_recv hKc hPc (ci := 7) (q0 := 0) rfl rfl, fun U hU hW => ⟨rfl, by rw [hU], by rw [hU]; exact hPc, va_K.moved hW.alike hKc, hDc.weaken (fun _ _ _ _ => trivial)⟩⟩ rfl rfl hl.1 rfl (lv_room (Nat.le_of_ble_eq_true rfl)) dX8_pollFirst_20 ⟨Nat.le_of_ble_eq_true rfl, Nat.le_of_ble_eq_true rfl⟩) hS (fun q _ h => hFc q h) hFc (fun r_10 u_9 t9 H1 locs ht hvm hw_8 hB hz1 hk1 hS => ?_)
    obtain ⟨fM'_11, fS'_12, fP'_13, fB'_14⟩ := u_9
    obtain ⟨hP1, hK1, hD1⟩ := hB
    rw [ht] at hP1
    have hK1 := va_K.moved hvm.symm hK1
    try dsimp only at hw_8 hP1 hK1 hD1
    obtain ⟨hP, hD⟩ := va_join (wr := []) (w1 := [(q, .inr (7, [.ref mq, .ref zq, .ref sq, .ref bq, .ref cq, .long sm, .ref pq, .int ps, .int th'_4])), (mq, .inl (cZ, 12288, .inl fM'_11)), (zq, .inl (cI, 3, .inl fS'_12)), (sq, .inl (cI, 6156, .inl fP'_13)), (bq, .inl (cI, 3, .inl fB'_14)), (cq, .inl (cJ, 64, .inr (.inl fC))), (pq, .inl (cI, 8, .inl fT))]) hP hD [0, 1, 2, 3, 4, 5, 6] [] rfl rfl (by decide) (by decide) hk1 hFc hP1 hD1
    generalize H1 = H at hP hS ⊢
    have hP : va_P (dC, dI) vwCl [(q, .inr (7, [.ref mq, .ref zq, .ref sq, .ref bq, .ref cq, .long sm, .ref pq, .int ps, .int th'_4])), (mq, .inl (cZ, 12288, .inl fM'_11)), (zq, .inl (cI, 3, .inl fS'_12)), (sq, .inl (cI, 6156, .inl fP'_13)), (bq, .inl (cI, 3, .inl fB'_14)), (cq, .inl (cJ, 64, .inr (.inl fC))), (pq, .inl (cI, 8, .inl fT))] H := hP
    have hD : va_D A [(q, .inr (7, [.ref mq, .ref zq, .ref sq, .ref bq, .ref cq, .long sm, .ref pq, .int ps, .int th'_4])), (mq, .inl (cZ, 12288, .inl fM'_11)), (zq, .inl (cI, 3, .inl fS'_12)), (sq, .inl (cI, 6156, .inl fP'_13)), (bq, .inl (cI, 3, .inl fB'_14)), (cq, .inl (cJ, 64, .inr (.inl fC))), (pq, .inl (cI, 8, .inl fT))] := hD
    obtain ⟨he, hw_8⟩ := hw_8
    subst he
    refine lv_pop hx hb dX8_pollFirst_23 rfl ?_
    refine lv_iload_n hx hb dX8_pollFirst_24 rfl (lv_at hl 0 rfl) ?_
    have hP9 := hP.sub (ws' := [(q, .inr (7, [.ref mq, .ref zq, .ref sq, .ref bq, .ref cq, .long sm, .ref pq, .int ps, .int th'_4])), (mq, .inl (cZ, 12288, .inl fM'_11)), (zq, .inl (cI, 3, .inl fS'_12)), (sq, .inl (cI, 6156, .inl fP'_13)), (bq, .inl (cI, 3, .inl fB'_14)), (cq, .inl (cJ, 64, .inr (.inl fC))), (pq, .inl (cI, 8, .inl fT))]) [0, 1, 2, 3, 4, 5, 6] rfl
    have hD9 := hD.sub (ws' := [(q, .inr (7, [.ref mq, .ref zq, .ref sq, .ref bq, .ref cq, .long sm, .ref pq, .int ps, .int th'_4])), (mq, .inl (cZ, 12288, .inl fM'_11)), (zq, .inl (cI, 3, .inl fS'_12)), (sq, .inl (cI, 6156, .inl fP'_13)), (bq, .inl (cI, 3, .inl fB'_14)), (cq, .inl (cJ, 64, .inr (.inl fC))), (pq, .inl (cI, 8, .inl fT))]) [0, 1, 2, 3, 4, 5, 6] (by decide) rfl
    have hK9 := hK.sub (tys' := [(cZ, .boolean), (cI, .int), (cJ, .long)]) [0, 1, 2] rfl
    exact W.iret (v := nI z) hx hb hr (fun t9 ht hW => ⟨⟨nI z, ⟨fM'_11, fS'_12, fP'_13, fB'_14, th'_4⟩, rfl, (show (nI z) = nI z ∧ MM fM'_11 (upF M k (del (M k) z)) ∧ MZ fS'_12 (upF M k (del (M k) z)) ∧ MX fP'_13 fB'_14 (upF P k (takeP (M k) (P k) z)) ∧ th'_4 = nI 0 from ⟨rfl, hw_8.1, hw_8.2.1, hw_8.2.2, hth⟩), by rw [ht]; exact hP9, va_K.moved hW.alike hK9, hD9⟩, hS.F ht⟩) hS.2.2 dX8_pollFirst_25
  · have c_5 : true = false := b2i_f qc_5
    cases c_5
set_option maxHeartbeats 4000000 in
set_option maxRecDepth 100000 in
/-- reference: c_X8_pollFirst_e -/
theorem c_X8_pollFirst_e (l : Launch) (dC : Nat → ClassId) (dI : Nat → Nat → Nat) (q : Nat) (mq : Nat) (zq : Nat) (sq : Nat) (bq : Nat) (cq : Nat) (pq : Nat) (cZ : ClassId) (cI : ClassId) (cJ : ClassId) (fM : Nat → Int32) (fS : Nat → Int32) (fP : Nat → Int32) (fB : Nat → Int32) (fC : Nat → Int64) (sm : Int64) (fT : Nat → Int32) (ps : Int32) (th : Int32) (M : Nat → Nat → Bool) (k : Nat) (sz : Nat) (hZ : MZ fS M) (hk : k < 3) (hp : fb_ct (M k) 4096 = 0) : Met l yX8_pollFirst wsX8_pollFirst ({ frames := 3, cells := 0, slots := 0, locals := 64 }) (va_Pc [.ref q, .int (nI k)] (fun U => U.heap.size = sz ∧ va_P (dC, dI) vwCl [(q, .inr (7, [.ref mq, .ref zq, .ref sq, .ref bq, .ref cq, .long sm, .ref pq, .int ps, .int th])), (mq, .inl (cZ, 12288, .inl fM)), (zq, .inl (cI, 3, .inl fS)), (sq, .inl (cI, 6156, .inl fP)), (bq, .inl (cI, 3, .inl fB)), (cq, .inl (cJ, 64, .inr (.inl fC))), (pq, .inl (cI, 8, .inl fT))] U.heap ∧ va_K (dC, dI) vwCl [(cZ, .boolean), (cI, .int), (cJ, .long)] U ∧ va_D (fun _ => True) [(q, .inr (7, [.ref mq, .ref zq, .ref sq, .ref bq, .ref cq, .long sm, .ref pq, .int ps, .int th])), (mq, .inl (cZ, 12288, .inl fM)), (zq, .inl (cI, 3, .inl fS)), (sq, .inl (cI, 6156, .inl fP)), (bq, .inl (cI, 3, .inl fB)), (cq, .inl (cJ, 64, .inr (.inl fC))), (pq, .inl (cI, 8, .inl fT))])) (va_Qi (fun (r : Int32) (u : Int32) => u = nI 2) (fun (u : Int32) (t : State) => va_P (dC, dI) vwCl [(q, .inr (7, [.ref mq, .ref zq, .ref sq, .ref bq, .ref cq, .long sm, .ref pq, .int ps, .int u])), (mq, .inl (cZ, 12288, .inl fM)), (zq, .inl (cI, 3, .inl fS)), (sq, .inl (cI, 6156, .inl fP)), (bq, .inl (cI, 3, .inl fB)), (cq, .inl (cJ, 64, .inr (.inl fC))), (pq, .inl (cI, 8, .inl fT))] t.heap ∧ va_K (dC, dI) vwCl [(cZ, .boolean), (cI, .int), (cJ, .long)] t ∧ va_D (va_A [(q, .inr (7, [.ref mq, .ref zq, .ref sq, .ref bq, .ref cq, .long sm, .ref pq, .int ps, .int th])), (mq, .inl (cZ, 12288, .inl fM)), (zq, .inl (cI, 3, .inl fS)), (sq, .inl (cI, 6156, .inl fP)), (bq, .inl (cI, 3, .inl fB)), (cq, .inl (cJ, 64, .inr (.inl fC))), (pq, .inl (cI, 8, .inl fT))] sz) [(q, .inr (7, [.ref mq, .ref zq, .ref sq, .ref bq, .ref cq, .long sm, .ref pq, .int ps, .int u])), (mq, .inl (cZ, 12288, .inl fM)), (zq, .inl (cI, 3, .inl fS)), (sq, .inl (cI, 6156, .inl fP)), (bq, .inl (cI, 3, .inl fB)), (cq, .inl (cJ, 64, .inr (.inl fC))), (pq, .inl (cI, 8, .inl fT))]) (va_A [(q, .inr (7, [.ref mq, .ref zq, .ref sq, .ref bq, .ref cq, .long sm, .ref pq, .int ps, .int th])), (mq, .inl (cZ, 12288, .inl fM)), (zq, .inl (cI, 3, .inl fS)), (sq, .inl (cI, 6156, .inl fP)), (bq, .inl (cI, 3, .inl fB)), (cq, .inl (cJ, 64, .inr (.inl fC))), (pq, .inl (cI, 8, .inl fT))] sz)) 0 0 (va_A [(q, .inr (7, [.ref mq, .ref zq, .ref sq, .ref bq, .ref cq, .long sm, .ref pq, .int ps, .int th])), (mq, .inl (cZ, 12288, .inl fM)), (zq, .inl (cI, 3, .inl fS)), (sq, .inl (cI, 6156, .inl fP)), (bq, .inl (cI, 3, .inl fB)), (cq, .inl (cJ, 64, .inr (.inl fC))), (pq, .inl (cI, 8, .inl fT))] sz) := by
  refine Met.ofW (cc := cX8_pollFirst) (maxL := 3) (ret := (some .int)) (by decide) rfl ?_
  intro p e s m args below meth c s₁ B hml hv
  obtain ⟨rfl, hsz, hP, hK, hD0⟩ := hv
  have hx := B.exec
  have hb := B.bytes
  have hr := B.returns
  have hts := atoms_spec (ws := wsX8_pollFirst) B.pre
  have hown : s.vm.findClass RX8 = some m.cls := findClass_of_methodNamed B.named
  have hlocks := B.notSynchronized
  subst hsz
  have hD := hD0.self (sz := s.heap.size)
  generalize hAe : va_A [(q, .inr (7, [.ref mq, .ref zq, .ref sq, .ref bq, .ref cq, .long sm, .ref pq, .int ps, .int th])), (mq, .inl (cZ, 12288, .inl fM)), (zq, .inl (cI, 3, .inl fS)), (sq, .inl (cI, 6156, .inl fP)), (bq, .inl (cI, 3, .inl fB)), (cq, .inl (cJ, 64, .inr (.inl fC))), (pq, .inl (cI, 8, .inl fT))] s.heap.size = A at hD ⊢
  have hA : ∀ q : Nat, s.heap.size ≤ q → A q := fun q h => by rw [← hAe]; exact Or.inr h
  have hS : va_S A s.heap s.heap [] := va_S.rf
  have hP : va_P (dC, dI) vwCl [(q, .inr (7, [.ref mq, .ref zq, .ref sq, .ref bq, .ref cq, .long sm, .ref pq, .int ps, .int th])), (mq, .inl (cZ, 12288, .inl fM)), (zq, .inl (cI, 3, .inl fS)), (sq, .inl (cI, 6156, .inl fP)), (bq, .inl (cI, 3, .inl fB)), (cq, .inl (cJ, 64, .inr (.inl fC))), (pq, .inl (cI, 8, .inl fT))] s.heap := hP
  have hl := lv_entry ([.ref q, .int (nI k)]) (n := 3) (Nat.le_of_ble_eq_true rfl)
  rw [lg_entry_eq]
  generalize (lg_sl ([.ref q, .int (nI k)]) ++ List.replicate (3 - (lg_sl ([.ref q, .int (nI k)])).length) Slot.unset).toArray = ls at hl ⊢
  have hl : lv_has ls 3 [(0, .ref q), (1, .int (nI k))] := hl
  refine lv_aload_n hx hb dX8_pollFirst_0 rfl (lv_at hl 0 rfl) ?_
  refine lv_iload_n hx hb dX8_pollFirst_1 rfl (lv_at hl 1 rfl) ?_
  have hPc := hP.sub (ws' := [(q, .inr (7, [.ref mq, .ref zq, .ref sq, .ref bq, .ref cq, .long sm, .ref pq, .int ps, .int th])), (mq, .inl (cZ, 12288, .inl fM)), (zq, .inl (cI, 3, .inl fS)), (sq, .inl (cI, 6156, .inl fP)), (bq, .inl (cI, 3, .inl fB)), (cq, .inl (cJ, 64, .inr (.inl fC))), (pq, .inl (cI, 8, .inl fT))]) [0, 1, 2, 3, 4, 5, 6] rfl
  have hKc := hK.sub (tys' := [(cZ, .boolean), (cI, .int), (cJ, .long)]) [0, 1, 2] rfl
  have hDc := hD.sub (ws' := [(q, .inr (7, [.ref mq, .ref zq, .ref sq, .ref bq, .ref cq, .long sm, .ref pq, .int ps, .int th])), (mq, .inl (cZ, 12288, .inl fM)), (zq, .inl (cI, 3, .inl fS)), (sq, .inl (cI, 6156, .inl fP)), (bq, .inl (cI, 3, .inl fB)), (cq, .inl (cJ, 64, .inr (.inl fC))), (pq, .inl (cI, 8, .inl fT))]) [0, 1, 2, 3, 4, 5, 6] (by decide) rfl
  have hFc := va_free (wc := [(q, .inr (7, [.ref mq, .ref zq, .ref sq, .ref bq, .ref cq, .long sm, .ref pq, .int ps, .int th])), (mq, .inl (cZ, 12288, .inl fM)), (zq, .inl (cI, 3, .inl fS)), (sq, .inl (cI, 6156, .inl fP)), (bq, .inl (cI, 3, .inl fB)), (cq, .inl (cJ, 64, .inr (.inl fC))), (pq, .inl (cI, 8, .inl fT))]) hD hS hA [0, 1, 2, 3, 4, 5, 6] rfl
  refine va_calli (va_runV (As := [.int (nI k)]) (rest := []) ⟨hx, hb, hml, hown, hts⟩ (c_X8_hasMembers_e l dC dI q mq zq sq bq cq pq cZ cI cJ fM fS fP fB fC sm fT ps th M k s.heap.size (by first | assumption | omega) (by first | assumption | omega) (by first | assumption | omega)) (cwV 1 hts gX8_pollFirst_X8_hasMembers rfl rfl rfl (by decide +kernel) ⟨Nat.le_of_ble_eq_true rfl, Nat.le_of_ble_eq_true rfl⟩) ⟨fun a U g mk q => by obtain ⟨q0, q1, qP, qK, qD⟩ := q; exact ⟨q0, q1, qP, va_K.moved (u := U) (U := U.calling g mk a) (Vm.Alike.refl U.vm) qK, qD⟩, va_recv hKc hPc (ci := 7) (q0 := 0) rfl rfl, fun U hU hW => ⟨rfl, by rw [hU], by rw [hU]; exact hPc, va_K.moved hW.alike hKc, hDc.weaken (fun _ _ _ _ => trivial)⟩⟩ rfl rfl hl.1 rfl (lv_room (Nat.le_of_ble_eq_true rfl)) dX8_pollFirst_2 ⟨Nat.le_of_ble_eq_true rfl, Nat.le_of_ble_eq_true rfl⟩) hS (fun q _ h => hFc q h) hFc (fun r_3 u_2 t9 H1 locs ht hvm hw_1 hB hz1 hk1 hS => ?_)
  obtain ⟨th'_4, rfl⟩ : ∃ z, z = u_2 := ⟨_, rfl⟩
  obtain ⟨hP1, hK1, hD1⟩ := hB
  rw [ht] at hP1
  have hK1 := va_K.moved hvm.symm hK1
  try dsimp only at hw_1 hP1 hK1 hD1
  obtain ⟨hP, hD⟩ := va_join (wr := []) (w1 := [(q, .inr (7, [.ref mq, .ref zq, .ref sq, .ref bq, .ref cq, .long sm, .ref pq, .int ps, .int th'_4])), (mq, .inl (cZ, 12288, .inl fM)), (zq, .inl (cI, 3, .inl fS)), (sq, .inl (cI, 6156, .inl fP)), (bq, .inl (cI, 3, .inl fB)), (cq, .inl (cJ, 64, .inr (.inl fC))), (pq, .inl (cI, 8, .inl fT))]) hP hD [0, 1, 2, 3, 4, 5, 6] [] rfl rfl (by decide) (by decide) hk1 hFc hP1 hD1
  generalize H1 = H at hP hS ⊢
  have hP : va_P (dC, dI) vwCl [(q, .inr (7, [.ref mq, .ref zq, .ref sq, .ref bq, .ref cq, .long sm, .ref pq, .int ps, .int th'_4])), (mq, .inl (cZ, 12288, .inl fM)), (zq, .inl (cI, 3, .inl fS)), (sq, .inl (cI, 6156, .inl fP)), (bq, .inl (cI, 3, .inl fB)), (cq, .inl (cJ, 64, .inr (.inl fC))), (pq, .inl (cI, 8, .inl fT))] H := hP
  have hD : va_D A [(q, .inr (7, [.ref mq, .ref zq, .ref sq, .ref bq, .ref cq, .long sm, .ref pq, .int ps, .int th'_4])), (mq, .inl (cZ, 12288, .inl fM)), (zq, .inl (cI, 3, .inl fS)), (sq, .inl (cI, 6156, .inl fP)), (bq, .inl (cI, 3, .inl fB)), (cq, .inl (cJ, 64, .inr (.inl fC))), (pq, .inl (cI, 8, .inl fT))] := hD
  obtain ⟨he, hw_1⟩ := hw_1
  subst he
  have hth := hw_1
  refine lv_if_ne (tgt := 10) hx hb dX8_pollFirst_5 (by decide) (fun qc_5 => ?_) (fun qc_5 => ?_)
  · have c_5 : false = true := b2i_t qc_5
    cases c_5
  · have c_5 : false = false := b2i_f qc_5
    refine lv_iconst (v := nI 0) hx hb dX8_pollFirst_8 (by decide +kernel) ?_
    have hP9 := hP.sub (ws' := [(q, .inr (7, [.ref mq, .ref zq, .ref sq, .ref bq, .ref cq, .long sm, .ref pq, .int ps, .int th'_4])), (mq, .inl (cZ, 12288, .inl fM)), (zq, .inl (cI, 3, .inl fS)), (sq, .inl (cI, 6156, .inl fP)), (bq, .inl (cI, 3, .inl fB)), (cq, .inl (cJ, 64, .inr (.inl fC))), (pq, .inl (cI, 8, .inl fT))]) [0, 1, 2, 3, 4, 5, 6] rfl
    have hD9 := hD.sub (ws' := [(q, .inr (7, [.ref mq, .ref zq, .ref sq, .ref bq, .ref cq, .long sm, .ref pq, .int ps, .int th'_4])), (mq, .inl (cZ, 12288, .inl fM)), (zq, .inl (cI, 3, .inl fS)), (sq, .inl (cI, 6156, .inl fP)), (bq, .inl (cI, 3, .inl fB)), (cq, .inl (cJ, 64, .inr (.inl fC))), (pq, .inl (cI, 8, .inl fT))]) [0, 1, 2, 3, 4, 5, 6] (by decide) rfl
    have hK9 := hK.sub (tys' := [(cZ, .boolean), (cI, .int), (cJ, .long)]) [0, 1, 2] rfl
    exact W.iret (v := nI 0) hx hb hr (fun t9 ht hW => ⟨⟨nI 0, th'_4, rfl, hth, by rw [ht]; exact hP9, va_K.moved hW.alike hK9, hD9⟩, hS.F ht⟩) hS.2.2 dX8_pollFirst_9
set_option maxHeartbeats 4000000 in
set_option maxRecDepth 100000 in
/-- reference: c_X8_pollFirst_s -/
theorem c_X8_pollFirst_s (l : Launch) (dC : Nat → ClassId) (dI : Nat → Nat → Nat) (q : Nat) (mq : Nat) (zq : Nat) (sq : Nat) (bq : Nat) (cq : Nat) (pq : Nat) (cZ : ClassId) (cI : ClassId) (cJ : ClassId) (fM : Nat → Int32) (fS : Nat → Int32) (fP : Nat → Int32) (fB : Nat → Int32) (fC : Nat → Int64) (sm : Int64) (fT : Nat → Int32) (ps : Int32) (th : Int32) (v : Int32) (sz : Nat) (hSf : isS v = false) : Met l yX8_pollFirst wsX8_pollFirst ({ frames := 3, cells := 0, slots := 0, locals := 64 }) (va_Pc [.ref q, .int v] (fun U => U.heap.size = sz ∧ va_P (dC, dI) vwCl [(q, .inr (7, [.ref mq, .ref zq, .ref sq, .ref bq, .ref cq, .long sm, .ref pq, .int ps, .int th])), (mq, .inl (cZ, 12288, .inl fM)), (zq, .inl (cI, 3, .inl fS)), (sq, .inl (cI, 6156, .inl fP)), (bq, .inl (cI, 3, .inl fB)), (cq, .inl (cJ, 64, .inr (.inl fC))), (pq, .inl (cI, 8, .inl fT))] U.heap ∧ va_K (dC, dI) vwCl [(cZ, .boolean), (cI, .int), (cJ, .long)] U ∧ va_D (fun _ => True) [(q, .inr (7, [.ref mq, .ref zq, .ref sq, .ref bq, .ref cq, .long sm, .ref pq, .int ps, .int th])), (mq, .inl (cZ, 12288, .inl fM)), (zq, .inl (cI, 3, .inl fS)), (sq, .inl (cI, 6156, .inl fP)), (bq, .inl (cI, 3, .inl fB)), (cq, .inl (cJ, 64, .inr (.inl fC))), (pq, .inl (cI, 8, .inl fT))])) (va_Qi (fun (r : Int32) (u : Int32) => u = nI 1) (fun (u : Int32) (t : State) => va_P (dC, dI) vwCl [(q, .inr (7, [.ref mq, .ref zq, .ref sq, .ref bq, .ref cq, .long sm, .ref pq, .int ps, .int u])), (mq, .inl (cZ, 12288, .inl fM)), (zq, .inl (cI, 3, .inl fS)), (sq, .inl (cI, 6156, .inl fP)), (bq, .inl (cI, 3, .inl fB)), (cq, .inl (cJ, 64, .inr (.inl fC))), (pq, .inl (cI, 8, .inl fT))] t.heap ∧ va_K (dC, dI) vwCl [(cZ, .boolean), (cI, .int), (cJ, .long)] t ∧ va_D (va_A [(q, .inr (7, [.ref mq, .ref zq, .ref sq, .ref bq, .ref cq, .long sm, .ref pq, .int ps, .int th])), (mq, .inl (cZ, 12288, .inl fM)), (zq, .inl (cI, 3, .inl fS)), (sq, .inl (cI, 6156, .inl fP)), (bq, .inl (cI, 3, .inl fB)), (cq, .inl (cJ, 64, .inr (.inl fC))), (pq, .inl (cI, 8, .inl fT))] sz) [(q, .inr (7, [.ref mq, .ref zq, .ref sq, .ref bq, .ref cq, .long sm, .ref pq, .int ps, .int u])), (mq, .inl (cZ, 12288, .inl fM)), (zq, .inl (cI, 3, .inl fS)), (sq, .inl (cI, 6156, .inl fP)), (bq, .inl (cI, 3, .inl fB)), (cq, .inl (cJ, 64, .inr (.inl fC))), (pq, .inl (cI, 8, .inl fT))]) (va_A [(q, .inr (7, [.ref mq, .ref zq, .ref sq, .ref bq, .ref cq, .long sm, .ref pq, .int ps, .int th])), (mq, .inl (cZ, 12288, .inl fM)), (zq, .inl (cI, 3, .inl fS)), (sq, .inl (cI, 6156, .inl fP)), (bq, .inl (cI, 3, .inl fB)), (cq, .inl (cJ, 64, .inr (.inl fC))), (pq, .inl (cI, 8, .inl fT))] sz)) 0 0 (va_A [(q, .inr (7, [.ref mq, .ref zq, .ref sq, .ref bq, .ref cq, .long sm, .ref pq, .int ps, .int th])), (mq, .inl (cZ, 12288, .inl fM)), (zq, .inl (cI, 3, .inl fS)), (sq, .inl (cI, 6156, .inl fP)), (bq, .inl (cI, 3, .inl fB)), (cq, .inl (cJ, 64, .inr (.inl fC))), (pq, .inl (cI, 8, .inl fT))] sz) := by
  refine Met.ofW (cc := cX8_pollFirst) (maxL := 3) (ret := (some .int)) (by decide) rfl ?_
  intro p e s m args below meth c s₁ B hml hv
  obtain ⟨rfl, hsz, hP, hK, hD0⟩ := hv
  have hx := B.exec
  have hb := B.bytes
  have hr := B.returns
  have hts := atoms_spec (ws := wsX8_pollFirst) B.pre
  have hown : s.vm.findClass RX8 = some m.cls := findClass_of_methodNamed B.named
  have hlocks := B.notSynchronized
  subst hsz
  have hD := hD0.self (sz := s.heap.size)
  generalize hAe : va_A [(q, .inr (7, [.ref mq, .ref zq, .ref sq, .ref bq, .ref cq, .long sm, .ref pq, .int ps, .int th])), (mq, .inl (cZ, 12288, .inl fM)), (zq, .inl (cI, 3, .inl fS)), (sq, .inl (cI, 6156, .inl fP)), (bq, .inl (cI, 3, .inl fB)), (cq, .inl (cJ, 64, .inr (.inl fC))), (pq, .inl (cI, 8, .inl fT))] s.heap.size = A at hD ⊢
  have hA : ∀ q : Nat, s.heap.size ≤ q → A q := fun q h => by rw [← hAe]; exact Or.inr h
  have hS : va_S A s.heap s.heap [] := va_S.rf
  have hP : va_P (dC, dI) vwCl [(q, .inr (7, [.ref mq, .ref zq, .ref sq, .ref bq, .ref cq, .long sm, .ref pq, .int ps, .int th])), (mq, .inl (cZ, 12288, .inl fM)), (zq, .inl (cI, 3, .inl fS)), (sq, .inl (cI, 6156, .inl fP)), (bq, .inl (cI, 3, .inl fB)), (cq, .inl (cJ, 64, .inr (.inl fC))), (pq, .inl (cI, 8, .inl fT))] s.heap := hP
  have hl := lv_entry ([.ref q, .int v]) (n := 3) (Nat.le_of_ble_eq_true rfl)
  rw [lg_entry_eq]
  generalize (lg_sl ([.ref q, .int v]) ++ List.replicate (3 - (lg_sl ([.ref q, .int v])).length) Slot.unset).toArray = ls at hl ⊢
  have hl : lv_has ls 3 [(0, .ref q), (1, .int v)] := hl
  refine lv_aload_n hx hb dX8_pollFirst_0 rfl (lv_at hl 0 rfl) ?_
  refine lv_iload_n hx hb dX8_pollFirst_1 rfl (lv_at hl 1 rfl) ?_
  have hPc := hP.sub (ws' := [(q, .inr (7, [.ref mq, .ref zq, .ref sq, .ref bq, .ref cq, .long sm, .ref pq, .int ps, .int th])), (mq, .inl (cZ, 12288, .inl fM)), (zq, .inl (cI, 3, .inl fS)), (sq, .inl (cI, 6156, .inl fP)), (bq, .inl (cI, 3, .inl fB)), (cq, .inl (cJ, 64, .inr (.inl fC))), (pq, .inl (cI, 8, .inl fT))]) [0, 1, 2, 3, 4, 5, 6] rfl
  have hKc := hK.sub (tys' := [(cZ, .boolean), (cI, .int), (cJ, .long)]) [0, 1, 2] rfl
  have hDc := hD.sub (ws' := [(q, .inr (7, [.ref mq, .ref zq, .ref sq, .ref bq, .ref cq, .long sm, .ref pq, .int ps, .int th])), (mq, .inl (cZ, 12288, .inl fM)), (zq, .inl (cI, 3, .inl fS)), (sq, .inl (cI, 6156, .inl fP)), (bq, .inl (cI, 3, .inl fB)), (cq, .inl (cJ, 64, .inr (.inl fC))), (pq, .inl (cI, 8, .inl fT))]) [0, 1, 2, 3, 4, 5, 6] (by decide) rfl
  have hFc := va_free (wc := [(q, .inr (7, [.ref mq, .ref zq, .ref sq, .ref bq, .ref cq, .long sm, .ref pq, .int ps, .int th])), (mq, .inl (cZ, 12288, .inl fM)), (zq, .inl (cI, 3, .inl fS)), (sq, .inl (cI, 6156, .inl fP)), (bq, .inl (cI, 3, .inl fB)), (cq, .inl (cJ, 64, .inr (.inl fC))), (pq, .inl (cI, 8, .inl fT))]) hD hS hA [0, 1, 2, 3, 4, 5, 6] rfl
  refine va_calli (va_runV (As := [.int v]) (rest := []) ⟨hx, hb, hml, hown, hts⟩ (c_X8_hasMembers_s l dC dI q mq zq sq bq cq pq cZ cI cJ fM fS fP fB fC sm fT ps th v s.heap.size (by first | assumption | omega)) (cwV 1 hts gX8_pollFirst_X8_hasMembers rfl rfl rfl (by decide +kernel) ⟨Nat.le_of_ble_eq_true rfl, Nat.le_of_ble_eq_true rfl⟩) ⟨fun a U g mk q => by obtain ⟨q0, q1, qP, qK, qD⟩ := q; exact ⟨q0, q1, qP, va_K.moved (u := U) (U := U.calling g mk a) (Vm.Alike.refl U.vm) qK, qD⟩, va_recv hKc hPc (ci := 7) (q0 := 0) rfl rfl, fun U hU hW => ⟨rfl, by rw [hU], by rw [hU]; exact hPc, va_K.moved hW.alike hKc, hDc.weaken (fun _ _ _ _ => trivial)⟩⟩ rfl rfl hl.1 rfl (lv_room (Nat.le_of_ble_eq_true rfl)) dX8_pollFirst_2 ⟨Nat.le_of_ble_eq_true rfl, Nat.le_of_ble_eq_true rfl⟩) hS (fun q _ h => hFc q h) hFc (fun r_3 u_2 t9 H1 locs ht hvm hw_1 hB hz1 hk1 hS => ?_)
  obtain ⟨th'_4, rfl⟩ : ∃ z, z = u_2 := ⟨_, rfl⟩
  obtain ⟨hP1, hK1, hD1⟩ := hB
  rw [ht] at hP1
  have hK1 := va_K.moved hvm.symm hK1
  try dsimp only at hw_1 hP1 hK1 hD1
  obtain ⟨hP, hD⟩ := va_join (wr := []) (w1 := [(q, .inr (7, [.ref mq, .ref zq, .ref sq, .ref bq, .ref cq, .long sm, .ref pq, .int ps, .int th'_4])), (mq, .inl (cZ, 12288, .inl fM)), (zq, .inl (cI, 3, .inl fS)), (sq, .inl (cI, 6156, .inl fP)), (bq, .inl (cI, 3, .inl fB)), (cq, .inl (cJ, 64, .inr (.inl fC))), (pq, .inl (cI, 8, .inl fT))]) hP hD [0, 1, 2, 3, 4, 5, 6] [] rfl rfl (by decide) (by decide) hk1 hFc hP1 hD1
  generalize H1 = H at hP hS ⊢
  have hP : va_P (dC, dI) vwCl [(q, .inr (7, [.ref mq, .ref zq, .ref sq, .ref bq, .ref cq, .long sm, .ref pq, .int ps, .int th'_4])), (mq, .inl (cZ, 12288, .inl fM)), (zq, .inl (cI, 3, .inl fS)), (sq, .inl (cI, 6156, .inl fP)), (bq, .inl (cI, 3, .inl fB)), (cq, .inl (cJ, 64, .inr (.inl fC))), (pq, .inl (cI, 8, .inl fT))] H := hP
  have hD : va_D A [(q, .inr (7, [.ref mq, .ref zq, .ref sq, .ref bq, .ref cq, .long sm, .ref pq, .int ps, .int th'_4])), (mq, .inl (cZ, 12288, .inl fM)), (zq, .inl (cI, 3, .inl fS)), (sq, .inl (cI, 6156, .inl fP)), (bq, .inl (cI, 3, .inl fB)), (cq, .inl (cJ, 64, .inr (.inl fC))), (pq, .inl (cI, 8, .inl fT))] := hD
  obtain ⟨he, hw_1⟩ := hw_1
  subst he
  have hth := hw_1
  refine lv_if_ne (tgt := 10) hx hb dX8_pollFirst_5 (by decide) (fun qc_5 => ?_) (fun qc_5 => ?_)
  · have c_5 : false = true := b2i_t qc_5
    cases c_5
  · have c_5 : false = false := b2i_f qc_5
    refine lv_iconst (v := nI 0) hx hb dX8_pollFirst_8 (by decide +kernel) ?_
    have hP9 := hP.sub (ws' := [(q, .inr (7, [.ref mq, .ref zq, .ref sq, .ref bq, .ref cq, .long sm, .ref pq, .int ps, .int th'_4])), (mq, .inl (cZ, 12288, .inl fM)), (zq, .inl (cI, 3, .inl fS)), (sq, .inl (cI, 6156, .inl fP)), (bq, .inl (cI, 3, .inl fB)), (cq, .inl (cJ, 64, .inr (.inl fC))), (pq, .inl (cI, 8, .inl fT))]) [0, 1, 2, 3, 4, 5, 6] rfl
    have hD9 := hD.sub (ws' := [(q, .inr (7, [.ref mq, .ref zq, .ref sq, .ref bq, .ref cq, .long sm, .ref pq, .int ps, .int th'_4])), (mq, .inl (cZ, 12288, .inl fM)), (zq, .inl (cI, 3, .inl fS)), (sq, .inl (cI, 6156, .inl fP)), (bq, .inl (cI, 3, .inl fB)), (cq, .inl (cJ, 64, .inr (.inl fC))), (pq, .inl (cI, 8, .inl fT))]) [0, 1, 2, 3, 4, 5, 6] (by decide) rfl
    have hK9 := hK.sub (tys' := [(cZ, .boolean), (cI, .int), (cJ, .long)]) [0, 1, 2] rfl
    exact W.iret (v := nI 0) hx hb hr (fun t9 ht hW => ⟨⟨nI 0, th'_4, rfl, hth, by rw [ht]; exact hP9, va_K.moved hW.alike hK9, hD9⟩, hS.F ht⟩) hS.2.2 dX8_pollFirst_9
set_option maxHeartbeats 4000000 in
set_option maxRecDepth 100000 in
/-- reference: c_X8_pollLast_v -/
theorem c_X8_pollLast_v (l : Launch) (dC : Nat → ClassId) (dI : Nat → Nat → Nat) (q : Nat) (mq : Nat) (zq : Nat) (sq : Nat) (bq : Nat) (cq : Nat) (pq : Nat) (cZ : ClassId) (cI : ClassId) (cJ : ClassId) (fM : Nat → Int32) (fS : Nat → Int32) (fP : Nat → Int32) (fB : Nat → Int32) (fC : Nat → Int64) (sm : Int64) (fT : Nat → Int32) (ps : Int32) (th : Int32) (M : Nat → Nat → Bool) (P : Nat → Nat → Bool) (k : Nat) (z : Nat) (sz : Nat) (hM : MM fM M) (hZ : MZ fS M) (hX : MX fP fB P) (hk : k < 3) (hB : BI (M k) (P k)) (hz : lst1 (M k) 4096 = some z) : Met l yX8_pollLast wsX8_pollLast ({ frames := 5, cells := 0, slots := 0, locals := 118 }) (va_Pc [.ref q, .int (nI k)] (fun U => U.heap.size = sz ∧ va_P (dC, dI) vwCl [(q, .inr (7, [.ref mq, .ref zq, .ref sq, .ref bq, .ref cq, .long sm, .ref pq, .int ps, .int th])), (mq, .inl (cZ, 12288, .inl fM)), (zq, .inl (cI, 3, .inl fS)), (sq, .inl (cI, 6156, .inl fP)), (bq, .inl (cI, 3, .inl fB)), (cq, .inl (cJ, 64, .inr (.inl fC))), (pq, .inl (cI, 8, .inl fT))] U.heap ∧ va_K (dC, dI) vwCl [(cZ, .boolean), (cI, .int), (cJ, .long)] U ∧ va_D (fun _ => True) [(q, .inr (7, [.ref mq, .ref zq, .ref sq, .ref bq, .ref cq, .long sm, .ref pq, .int ps, .int th])), (mq, .inl (cZ, 12288, .inl fM)), (zq, .inl (cI, 3, .inl fS)), (sq, .inl (cI, 6156, .inl fP)), (bq, .inl (cI, 3, .inl fB)), (cq, .inl (cJ, 64, .inr (.inl fC))), (pq, .inl (cI, 8, .inl fT))])) (va_Qi (fun (r : Int32) (u : (Nat → Int32) × (Nat → Int32) × (Nat → Int32) × (Nat → Int32) × Int32) => r = nI z ∧ MM u.1 (upF M k (del (M k) z)) ∧ MZ u.2.1 (upF M k (del (M k) z)) ∧ MX u.2.2.1 u.2.2.2.1 (upF P k (takeP (M k) (P k) z)) ∧ u.2.2.2.2 = nI 0) (fun (u : (Nat → Int32) × (Nat → Int32) × (Nat → Int32) × (Nat → Int32) × Int32) (t : State) => va_P (dC, dI) vwCl [(q, .inr (7, [.ref mq, .ref zq, .ref sq, .ref bq, .ref cq, .long sm, .ref pq, .int ps, .int u.2.2.2.2])), (mq, .inl (cZ, 12288, .inl u.1)), (zq, .inl (cI, 3, .inl u.2.1)), (sq, .inl (cI, 6156, .inl u.2.2.1)), (bq, .inl (cI, 3, .inl u.2.2.2.1)), (cq, .inl (cJ, 64, .inr (.inl fC))), (pq, .inl (cI, 8, .inl fT))] t.heap ∧ va_K (dC, dI) vwCl [(cZ, .boolean), (cI, .int), (cJ, .long)] t ∧ va_D (va_A [(q, .inr (7, [.ref mq, .ref zq, .ref sq, .ref bq, .ref cq, .long sm, .ref pq, .int ps, .int th])), (mq, .inl (cZ, 12288, .inl fM)), (zq, .inl (cI, 3, .inl fS)), (sq, .inl (cI, 6156, .inl fP)), (bq, .inl (cI, 3, .inl fB)), (cq, .inl (cJ, 64, .inr (.inl fC))), (pq, .inl (cI, 8, .inl fT))] sz) [(q, .inr (7, [.ref mq, .ref zq, .ref sq, .ref bq, .ref cq, .long sm, .ref pq, .int ps, .int u.2.2.2.2])), (mq, .inl (cZ, 12288, .inl u.1)), (zq, .inl (cI, 3, .inl u.2.1)), (sq, .inl (cI, 6156, .inl u.2.2.1)), (bq, .inl (cI, 3, .inl u.2.2.2.1)), (cq, .inl (cJ, 64, .inr (.inl fC))), (pq, .inl (cI, 8, .inl fT))]) (va_A [(q, .inr (7, [.ref mq, .ref zq, .ref sq, .ref bq, .ref cq, .long sm, .ref pq, .int ps, .int th])), (mq, .inl (cZ, 12288, .inl fM)), (zq, .inl (cI, 3, .inl fS)), (sq, .inl (cI, 6156, .inl fP)), (bq, .inl (cI, 3, .inl fB)), (cq, .inl (cJ, 64, .inr (.inl fC))), (pq, .inl (cI, 8, .inl fT))] sz)) 0 0 (va_A [(q, .inr (7, [.ref mq, .ref zq, .ref sq, .ref bq, .ref cq, .long sm, .ref pq, .int ps, .int th])), (mq, .inl (cZ, 12288, .inl fM)), (zq, .inl (cI, 3, .inl fS)), (sq, .inl (cI, 6156, .inl fP)), (bq, .inl (cI, 3, .inl fB)), (cq, .inl (cJ, 64, .inr (.inl fC))), (pq, .inl (cI, 8, .inl fT))] sz) := by
  refine Met.ofW (cc := cX8_pollLast) (maxL := 3) (ret := (some .int)) (by decide) rfl ?_
  intro p e s m args below meth c s₁ B hml hv
  obtain ⟨rfl, hsz, hP, hK, hD0⟩ := hv
  have hx := B.exec
  have hb := B.bytes
  have hr := B.returns
  have hts := atoms_spec (ws := wsX8_pollLast) B.pre
  have hown : s.vm.findClass RX8 = some m.cls := findClass_of_methodNamed B.named
  have hlocks := B.notSynchronized
  subst hsz
  have hD := hD0.self (sz := s.heap.size)
  generalize hAe : va_A [(q, .inr (7, [.ref mq, .ref zq, .ref sq, .ref bq, .ref cq, .long sm, .ref pq, .int ps, .int th])), (mq, .inl (cZ, 12288, .inl fM)), (zq, .inl (cI, 3, .inl fS)), (sq, .inl (cI, 6156, .inl fP)), (bq, .inl (cI, 3, .inl fB)), (cq, .inl (cJ, 64, .inr (.inl fC))), (pq, .inl (cI, 8, .inl fT))] s.heap.size = A at hD ⊢
  have hA : ∀ q : Nat, s.heap.size ≤ q → A q := fun q h => by rw [← hAe]; exact Or.inr h
  have hS : va_S A s.heap s.heap [] := va_S.rf
  have hP : va_P (dC, dI) vwCl [(q, .inr (7, [.ref mq, .ref zq, .ref sq, .ref bq, .ref cq, .long sm, .ref pq, .int ps, .int th])), (mq, .inl (cZ, 12288, .inl fM)), (zq, .inl (cI, 3, .inl fS)), (sq, .inl (cI, 6156, .inl fP)), (bq, .inl (cI, 3, .inl fB)), (cq, .inl (cJ, 64, .inr (.inl fC))), (pq, .inl (cI, 8, .inl fT))] s.heap := hP
  have hl := lv_entry ([.ref q, .int (nI k)]) (n := 3) (Nat.le_of_ble_eq_true rfl)
  rw [lg_entry_eq]
  generalize (lg_sl ([.ref q, .int (nI k)]) ++ List.replicate (3 - (lg_sl ([.ref q, .int (nI k)])).length) Slot.unset).toArray = ls at hl ⊢
  have hl : lv_has ls 3 [(0, .ref q), (1, .int (nI k))] := hl
  have hzb := (lst1_some hz).1
  have hpp : 0 < fb_ct (M k) 4096 := fb_ct_pos.mpr ⟨z, hzb, (lst1_some hz).2.1⟩
  refine lv_aload_n hx hb dX8_pollLast_0 rfl (lv_at hl 0 rfl) ?_
  refine lv_iload_n hx hb dX8_pollLast_1 rfl (lv_at hl 1 rfl) ?_
  have hPc := hP.sub (ws' := [(q, .inr (7, [.ref mq, .ref zq, .ref sq, .ref bq, .ref cq, .long sm, .ref pq, .int ps, .int th])), (mq, .inl (cZ, 12288, .inl fM)), (zq, .inl (cI, 3, .inl fS)), (sq, .inl (cI, 6156, .inl fP)), (bq, .inl (cI, 3, .inl fB)), (cq, .inl (cJ, 64, .inr (.inl fC))), (pq, .inl (cI, 8, .inl fT))]) [0, 1, 2, 3, 4, 5, 6] rfl
  have hKc := hK.sub (tys' := [(cZ, .boolean), (cI, .int), (cJ, .long)]) [0, 1, 2] rfl
  have hDc := hD.sub (ws' := [(q, .inr (7, [.ref mq, .ref zq, .ref sq, .ref bq, .ref cq, .long sm, .ref pq, .int ps, .int th])), (mq, .inl (cZ, 12288, .inl fM)), (zq, .inl (cI, 3, .inl fS)), (sq, .inl (cI, 6156, .inl fP)), (bq, .inl (cI, 3, .inl fB)), (cq, .inl (cJ, 64, .inr (.inl fC))), (pq, .inl (cI, 8, .inl fT))]) [0, 1, 2, 3, 4, 5, 6] (by decide) rfl
  have hFc := va_free (wc := [(q, .inr (7, [.ref mq, .ref zq, .ref sq, .ref bq, .ref cq, .long sm, .ref pq, .int ps, .int th])), (mq, .inl (cZ, 12288, .inl fM)), (zq, .inl (cI, 3, .inl fS)), (sq, .inl (cI, 6156, .inl fP)), (bq, .inl (cI, 3, .inl fB)), (cq, .inl (cJ, 64, .inr (.inl fC))), (pq, .inl (cI, 8, .inl fT))]) hD hS hA [0, 1, 2, 3, 4, 5, 6] rfl
  refine va_calli (va_runV (As := [.int (nI k)]) (rest := []) ⟨hx, hb, hml, hown, hts⟩ (c_X8_hasMembers_v l dC dI q mq zq sq bq cq pq cZ cI cJ fM fS fP fB fC sm fT ps th M k s.heap.size (by first | assumption | omega) (by first | assumption | omega) (by first | assumption | omega)) (cwV 1 hts gX8_pollLast_X8_hasMembers rfl rfl rfl (by decide +kernel) ⟨Nat.le_of_ble_eq_true rfl, Nat.le_of_ble_eq_true rfl⟩) ⟨fun a U g mk q => by obtain ⟨q0, q1, qP, qK, qD⟩ := q; exact ⟨q0, q1, qP, va_K.moved (u := U) (U := U.calling g mk a) (Vm.Alike.refl U.vm) qK, qD⟩, va_recv hKc hPc (ci := 7) (q0 := 0) rfl rfl, fun U hU hW => ⟨rfl, by rw [hU], by rw [hU]; exact hPc, va_K.moved hW.alike hKc, hDc.weaken (fun _ _ _ _ => trivial)⟩⟩ rfl rfl hl.1 rfl (lv_room (Nat.le_of_ble_eq_true rfl)) dX8_pollLast_2 ⟨Nat.le_of_ble_eq_true rfl, Nat.le_of_ble_eq_true rfl⟩) hS (fun q _ h => hFc q h) hFc (fun r_3 u_2 t9 H1 locs ht hvm hw_1 hB hz1 hk1 hS => ?_)
  obtain ⟨th'_4, rfl⟩ : ∃ z, z = u_2 := ⟨_, rfl⟩
  obtain ⟨hP1, hK1, hD1⟩ := hB
  rw [ht] at hP1
  have hK1 := va_K.moved hvm.symm hK1
  try dsimp only at hw_1 hP1 hK1 hD1
  obtain ⟨hP, hD⟩ := va_join (wr := []) (w1 := [(q, .inr (7, [.ref mq, .ref zq, .ref sq, .ref bq, .ref cq, .long sm, .ref pq, .int ps, .int th'_4])), (mq, .inl (cZ, 12288, .inl fM)), (zq, .inl (cI, 3, .inl fS)), (sq, .inl (cI, 6156, .inl fP)), (bq, .inl (cI, 3, .inl fB)), (cq, .inl (cJ, 64, .inr (.inl fC))), (pq, .inl (cI, 8, .inl fT))]) hP hD [0, 1, 2, 3, 4, 5, 6] [] rfl rfl (by decide) (by decide) hk1 hFc hP1 hD1
  generalize H1 = H at hP hS ⊢
  have hP : va_P (dC, dI) vwCl [(q, .inr (7, [.ref mq, .ref zq, .ref sq, .ref bq, .ref cq, .long sm, .ref pq, .int ps, .int th'_4])), (mq, .inl (cZ, 12288, .inl fM)), (zq, .inl (cI, 3, .inl fS)), (sq, .inl (cI, 6156, .inl fP)), (bq, .inl (cI, 3, .inl fB)), (cq, .inl (cJ, 64, .inr (.inl fC))), (pq, .inl (cI, 8, .inl fT))] H := hP
  have hD : va_D A [(q, .inr (7, [.ref mq, .ref zq, .ref sq, .ref bq, .ref cq, .long sm, .ref pq, .int ps, .int th'_4])), (mq, .inl (cZ, 12288, .inl fM)), (zq, .inl (cI, 3, .inl fS)), (sq, .inl (cI, 6156, .inl fP)), (bq, .inl (cI, 3, .inl fB)), (cq, .inl (cJ, 64, .inr (.inl fC))), (pq, .inl (cI, 8, .inl fT))] := hD
  obtain ⟨he, hw_1⟩ := hw_1
  subst he
  have hth := hw_1
  refine lv_if_ne (tgt := 10) hx hb dX8_pollLast_5 (by decide) (fun qc_5 => ?_) (fun qc_5 => ?_)
  · have c_5 : true = true := b2i_t qc_5
    refine lv_aload_n hx hb dX8_pollLast_10 rfl (lv_at hl 0 rfl) ?_
    refine lv_iload_n hx hb dX8_pollLast_11 rfl (lv_at hl 1 rfl) ?_
    refine lv_sipush (v := nI 4095) hx hb dX8_pollLast_12 (by decide +kernel) ?_
    refine lv_cvi ((rfl : nI 4095 = dm 4096)) ?_
    have hPc := hP.sub (ws' := [(q, .inr (7, [.ref mq, .ref zq, .ref sq, .ref bq, .ref cq, .long sm, .ref pq, .int ps, .int th'_4])), (mq, .inl (cZ, 12288, .inl fM)), (zq, .inl (cI, 3, .inl fS)), (sq, .inl (cI, 6156, .inl fP)), (bq, .inl (cI, 3, .inl fB)), (cq, .inl (cJ, 64, .inr (.inl fC))), (pq, .inl (cI, 8, .inl fT))]) [0, 1, 2, 3, 4, 5, 6] rfl
    have hKc := hK.sub (tys' := [(cZ, .boolean), (cI, .int), (cJ, .long)]) [0, 1, 2] rfl
    refine vp_callSi (W.runV (As := [.int (nI k), .int (dm 4096)]) (rest := []) ⟨hx, hb, hml, hown, hts⟩ (c_X8_below l dC dI q mq zq sq bq cq pq cZ cI cJ fM fS fP fB fC sm fT ps th'_4 M k 4096 (by first | assumption | omega) (by first | assumption | omega) (by first | assumption | omega)) (cwV 2 hts gX8_pollLast_X8_below rfl rfl rfl (by decide +kernel) ⟨Nat.le_of_ble_eq_true rfl, Nat.le_of_ble_eq_true rfl⟩) ⟨fun a U g mk q => by obtain ⟨q0, qP, qK⟩ := q; exact ⟨q0, qP, va_K.moved (u := U) (U := U.calling g mk a) (Vm.Alike.refl U.vm) qK⟩, va_recv hKc hPc (ci := 7) (q0 := 0) rfl rfl, fun U hU hW => ⟨rfl, by rw [hU]; exact hPc, va_K.moved hW.alike hKc⟩⟩ rfl rfl hl.1 rfl (lv_room (Nat.le_of_ble_eq_true rfl)) dX8_pollLast_15 ⟨Nat.le_of_ble_eq_true rfl, Nat.le_of_ble_eq_true rfl⟩) (fun r_7 hw_6 => ?_)
    subst hw_6
    refine lv_cvi (congrArg oI hz) ?_
    refine lv_cvi ((rfl : oI (some z) = nI z)) ?_
    refine lv_istore_n (lv' := [(2, .int (nI z)), (0, .ref q), (1, .int (nI k))]) hx hb dX8_pollLast_18 rfl hl (by decide) rfl (fun ls hl => ?_)
    refine lv_aload_n hx hb dX8_pollLast_19 rfl (lv_at hl 1 rfl) ?_
    refine lv_iload_n hx hb dX8_pollLast_20 rfl (lv_at hl 2 rfl) ?_
    refine lv_iload_n hx hb dX8_pollLast_21 rfl (lv_at hl 0 rfl) ?_
    have hPc := hP.sub (ws' := [(q, .inr (7, [.ref mq, .ref zq, .ref sq, .ref bq, .ref cq, .long sm, .ref pq, .int ps, .int th'_4])), (mq, .inl (cZ, 12288, .inl fM)), (zq, .inl (cI, 3, .inl fS)), (sq, .inl (cI, 6156, .inl fP)), (bq, .inl (cI, 3, .inl fB)), (cq, .inl (cJ, 64, .inr (.inl fC))), (pq, .inl (cI, 8, .inl fT))]) [0, 1, 2, 3, 4, 5, 6] rfl
    have hKc := hK.sub (tys' := [(cZ, .boolean), (cI, .int), (cJ, .long)]) [0, 1, 2] rfl
    have hDc := hD.sub (ws' := [(q, .inr (7, [.ref mq, .ref zq, .ref sq, .ref bq, .ref cq, .long sm, .ref pq, .int ps, .int th'_4])), (mq, .inl (cZ, 12288, .inl fM)), (zq, .inl (cI, 3, .inl fS)), (sq, .inl (cI, 6156, .inl fP)), (bq, .inl (cI, 3, .inl fB)), (cq, .inl (cJ, 64, .inr (.inl fC))), (pq, .inl (cI, 8, .inl fT))]) [0, 1, 2, 3, 4, 5, 6] (by decide) rfl
    have hFc := va_free (wc := [(q, .inr (7, [.ref mq, .ref zq, .ref sq, .ref bq, .ref cq, .long sm, .ref pq, .int ps, .int th'_4])), (mq, .inl (cZ, 12288, .inl fM)), (zq, .inl (cI, 3, .inl fS)), (sq, .inl (cI, 6156, .inl fP)), (bq, .inl (cI, 3, .inl fB)), (cq, .inl (cJ, 64, .inr (.inl fC))), (pq, .inl (cI, 8, .inl fT))]) hD hS hA [0, 1, 2, 3, 4, 5, 6] rfl
    refine va_calli (va_runV (As := [.int (nI k), .int (nI z)]) (rest := []) ⟨hx, hb, hml, hown, hts⟩ (c_X8_takes l dC dI q mq zq sq bq cq pq cZ cI cJ fM fS fP fB fC sm fT ps th'_4 M P k z H.size (by first | assumption | omega) (by first | assumption | omega) (by first | assumption | omega) (by first | assumption | omega) (by first | assumption | omega) (bi_cnt hB)) (cwV 2 hts gX8_pollLast_X8_takes rfl rfl rfl (by decide +kernel) ⟨Nat.le_of_ble_eq_true rfl, Nat.le_of_ble_eq_true rfl⟩) ⟨fun a U g mk q => by obtain ⟨q0, q1, qP, qK, qD⟩ := q; exact ⟨q0, q1, qP, va_K.moved (u := U) (U := U.calling g mk a) (Vm.Alike.refl U.vm) qK, qD⟩, va_recv hKc hPc (ci := 7) (q0 := 0) rfl rfl, fun U hU hW => ⟨rfl, by rw [hU], by rw [hU]; exact hPc, va_K.moved hW.alike hKc, hDc.weaken (fun _ _ _ _ => trivial)⟩⟩ rfl rfl hl.1 rfl (lv_room (Nat.le_of_ble_eq_true rfl)) dX8_pollLast_22 ⟨Nat.le_of_ble_eq_true rfl, Nat.le_of_ble_eq_true rfl⟩) hS (fun q _ h => hFc q h) hFc (fun r_10 u_9 t9 H1 locs ht hvm hw_8 hB hz1 hk1 hS => ?_)
    obtain ⟨fM'_11, fS'_12, fP'_13, fB'_14⟩ := u_9
    obtain ⟨hP1, hK1, hD1⟩ := hB
    rw [ht] at hP1
    have hK1 := va_K.moved hvm.symm hK1
    try dsimp only at hw_8 hP1 hK1 hD1
    obtain ⟨hP, hD⟩ := va_join (wr := []) (w1 := [(q, .inr (7, [.ref mq, .ref zq, .ref sq, .ref bq, .ref cq, .long sm, .ref pq, .int ps, .int th'_4])), (mq, .inl (cZ, 12288, .inl fM'_11)), (zq, .inl (cI, 3, .inl fS'_12)), (sq, .inl (cI, 6156, .inl fP'_13)), (bq, .inl (cI, 3, .inl fB'_14)), (cq, .inl (cJ, 64, .inr (.inl fC))), (pq, .inl (cI, 8, .inl fT))]) hP hD [0, 1, 2, 3, 4, 5, 6] [] rfl rfl (by decide) (by decide) hk1 hFc hP1 hD1
    generalize H1 = H at hP hS ⊢
    have hP : va_P (dC, dI) vwCl [(q, .inr (7, [.ref mq, .ref zq, .ref sq, .ref bq, .ref cq, .long sm, .ref pq, .int ps, .int th'_4])), (mq, .inl (cZ, 12288, .inl fM'_11)), (zq, .inl (cI, 3, .inl fS'_12)), (sq, .inl (cI, 6156, .inl fP'_13)), (bq, .inl (cI, 3, .inl fB'_14)), (cq, .inl (cJ, 64, .inr (.inl fC))), (pq, .inl (cI, 8, .inl fT))] H := hP
    have hD : va_D A [(q, .inr (7, [.ref mq, .ref zq, .ref sq, .ref bq, .ref cq, .long sm, .ref pq, .int ps, .int th'_4])), (mq, .inl (cZ, 12288, .inl fM'_11)), (zq, .inl (cI, 3, .inl fS'_12)), (sq, .inl (cI, 6156, .inl fP'_13)), (bq, .inl (cI, 3, .inl fB'_14)), (cq, .inl (cJ, 64, .inr (.inl fC))), (pq, .inl (cI, 8, .inl fT))] := hD
    obtain ⟨he, hw_8⟩ := hw_8
    subst he
    refine lv_pop hx hb dX8_pollLast_25 rfl ?_
    refine lv_iload_n hx hb dX8_pollLast_26 rfl (lv_at hl 0 rfl) ?_
    have hP9 := hP.sub (ws' := [(q, .inr (7, [.ref mq, .ref zq, .ref sq, .ref bq, .ref cq, .long sm, .ref pq, .int ps, .int th'_4])), (mq, .inl (cZ, 12288, .inl fM'_11)), (zq, .inl (cI, 3, .inl fS'_12)), (sq, .inl (cI, 6156, .inl fP'_13)), (bq, .inl (cI, 3, .inl fB'_14)), (cq, .inl (cJ, 64, .inr (.inl fC))), (pq, .inl (cI, 8, .inl fT))]) [0, 1, 2, 3, 4, 5, 6] rfl
    have hD9 := hD.sub (ws' := [(q, .inr (7, [.ref mq, .ref zq, .ref sq, .ref bq, .ref cq, .long sm, .ref pq, .int ps, .int th'_4])), (mq, .inl (cZ, 12288, .inl fM'_11)), (zq, .inl (cI, 3, .inl fS'_12)), (sq, .inl (cI, 6156, .inl fP'_13)), (bq, .inl (cI, 3, .inl fB'_14)), (cq, .inl (cJ, 64, .inr (.inl fC))), (pq, .inl (cI, 8, .inl fT))]) [0, 1, 2, 3, 4, 5, 6] (by decide) rfl
    have hK9 := hK.sub (tys' := [(cZ, .boolean), (cI, .int), (cJ, .long)]) [0, 1, 2] rfl
    exact W.iret (v := nI z) hx hb hr (fun t9 ht hW => ⟨⟨nI z, ⟨fM'_11, fS'_12, fP'_13, fB'_14, th'_4⟩, rfl, (show (nI z) = nI z ∧ MM fM'_11 (upF M k (del (M k) z)) ∧ MZ fS'_12 (upF M k (del (M k) z)) ∧ MX fP'_13 fB'_14 (upF P k (takeP (M k) (P k) z)) ∧ th'_4 = nI 0 from ⟨rfl, hw_8.1, hw_8.2.1, hw_8.2.2, hth⟩), by rw [ht]; exact hP9, va_K.moved hW.alike hK9, hD9⟩, hS.F ht⟩) hS.2.2 dX8_pollLast_27
  · have c_5 : true = false := b2i_f qc_5
    cases c_5
set_option maxHeartbeats 4000000 in
set_option maxRecDepth 100000 in
/-- reference: c_X8_pollLast_e -/
theorem c_X8_pollLast_e (l : Launch) (dC : Nat → ClassId) (dI : Nat → Nat → Nat) (q : Nat) (mq : Nat) (zq : Nat) (sq : Nat) (bq : Nat) (cq : Nat) (pq : Nat) (cZ : ClassId) (cI : ClassId) (cJ : ClassId) (fM : Nat → Int32) (fS : Nat → Int32) (fP : Nat → Int32) (fB : Nat → Int32) (fC : Nat → Int64) (sm : Int64) (fT : Nat → Int32) (ps : Int32) (th : Int32) (M : Nat → Nat → Bool) (k : Nat) (sz : Nat) (hZ : MZ fS M) (hk : k < 3) (hp : fb_ct (M k) 4096 = 0) : Met l yX8_pollLast wsX8_pollLast ({ frames := 3, cells := 0, slots := 0, locals := 64 }) (va_Pc [.ref q, .int (nI k)] (fun U => U.heap.size = sz ∧ va_P (dC, dI) vwCl [(q, .inr (7, [.ref mq, .ref zq, .ref sq, .ref bq, .ref cq, .long sm, .ref pq, .int ps, .int th])), (mq, .inl (cZ, 12288, .inl fM)), (zq, .inl (cI, 3, .inl fS)), (sq, .inl (cI, 6156, .inl fP)), (bq, .inl (cI, 3, .inl fB)), (cq, .inl (cJ, 64, .inr (.inl fC))), (pq, .inl (cI, 8, .inl fT))] U.heap ∧ va_K (dC, dI) vwCl [(cZ, .boolean), (cI, .int), (cJ, .long)] U ∧ va_D (fun _ => True) [(q, .inr (7, [.ref mq, .ref zq, .ref sq, .ref bq, .ref cq, .long sm, .ref pq, .int ps, .int th])), (mq, .inl (cZ, 12288, .inl fM)), (zq, .inl (cI, 3, .inl fS)), (sq, .inl (cI, 6156, .inl fP)), (bq, .inl (cI, 3, .inl fB)), (cq, .inl (cJ, 64, .inr (.inl fC))), (pq, .inl (cI, 8, .inl fT))])) (va_Qi (fun (r : Int32) (u : Int32) => u = nI 2) (fun (u : Int32) (t : State) => va_P (dC, dI) vwCl [(q, .inr (7, [.ref mq, .ref zq, .ref sq, .ref bq, .ref cq, .long sm, .ref pq, .int ps, .int u])), (mq, .inl (cZ, 12288, .inl fM)), (zq, .inl (cI, 3, .inl fS)), (sq, .inl (cI, 6156, .inl fP)), (bq, .inl (cI, 3, .inl fB)), (cq, .inl (cJ, 64, .inr (.inl fC))), (pq, .inl (cI, 8, .inl fT))] t.heap ∧ va_K (dC, dI) vwCl [(cZ, .boolean), (cI, .int), (cJ, .long)] t ∧ va_D (va_A [(q, .inr (7, [.ref mq, .ref zq, .ref sq, .ref bq, .ref cq, .long sm, .ref pq, .int ps, .int th])), (mq, .inl (cZ, 12288, .inl fM)), (zq, .inl (cI, 3, .inl fS)), (sq, .inl (cI, 6156, .inl fP)), (bq, .inl (cI, 3, .inl fB)), (cq, .inl (cJ, 64, .inr (.inl fC))), (pq, .inl (cI, 8, .inl fT))] sz) [(q, .inr (7, [.ref mq, .ref zq, .ref sq, .ref bq, .ref cq, .long sm, .ref pq, .int ps, .int u])), (mq, .inl (cZ, 12288, .inl fM)), (zq, .inl (cI, 3, .inl fS)), (sq, .inl (cI, 6156, .inl fP)), (bq, .inl (cI, 3, .inl fB)), (cq, .inl (cJ, 64, .inr (.inl fC))), (pq, .inl (cI, 8, .inl fT))]) (va_A [(q, .inr (7, [.ref mq, .ref zq, .ref sq, .ref bq, .ref cq, .long sm, .ref pq, .int ps, .int th])), (mq, .inl (cZ, 12288, .inl fM)), (zq, .inl (cI, 3, .inl fS)), (sq, .inl (cI, 6156, .inl fP)), (bq, .inl (cI, 3, .inl fB)), (cq, .inl (cJ, 64, .inr (.inl fC))), (pq, .inl (cI, 8, .inl fT))] sz)) 0 0 (va_A [(q, .inr (7, [.ref mq, .ref zq, .ref sq, .ref bq, .ref cq, .long sm, .ref pq, .int ps, .int th])), (mq, .inl (cZ, 12288, .inl fM)), (zq, .inl (cI, 3, .inl fS)), (sq, .inl (cI, 6156, .inl fP)), (bq, .inl (cI, 3, .inl fB)), (cq, .inl (cJ, 64, .inr (.inl fC))), (pq, .inl (cI, 8, .inl fT))] sz) := by
  refine Met.ofW (cc := cX8_pollLast) (maxL := 3) (ret := (some .int)) (by decide) rfl ?_
  intro p e s m args below meth c s₁ B hml hv
  obtain ⟨rfl, hsz, hP, hK, hD0⟩ := hv
  have hx := B.exec
  have hb := B.bytes
  have hr := B.returns
  have hts := atoms_spec (ws := wsX8_pollLast) B.pre
  have hown : s.vm.findClass RX8 = some m.cls := findClass_of_methodNamed B.named
  have hlocks := B.notSynchronized
  subst hsz
  have hD := hD0.self (sz := s.heap.size)
  generalize hAe : va_A [(q, .inr (7, [.ref mq, .ref zq, .ref sq, .ref bq, .ref cq, .long sm, .ref pq, .int ps, .int th])), (mq, .inl (cZ, 12288, .inl fM)), (zq, .inl (cI, 3, .inl fS)), (sq, .inl (cI, 6156, .inl fP)), (bq, .inl (cI, 3, .inl fB)), (cq, .inl (cJ, 64, .inr (.inl fC))), (pq, .inl (cI, 8, .inl fT))] s.heap.size = A at hD ⊢
  have hA : ∀ q : Nat, s.heap.size ≤ q → A q := fun q h => by rw [← hAe]; exact Or.inr h
  have hS : va_S A s.heap s.heap [] := va_S.rf
  have hP : va_P (dC, dI) vwCl [(q, .inr (7, [.ref mq, .ref zq, .ref sq, .ref bq, .ref cq, .long sm, .ref pq, .int ps, .int th])), (mq, .inl (cZ, 12288, .inl fM)), (zq, .inl (cI, 3, .inl fS)), (sq, .inl (cI, 6156, .inl fP)), (bq, .inl (cI, 3, .inl fB)), (cq, .inl (cJ, 64, .inr (.inl fC))), (pq, .inl (cI, 8, .inl fT))] s.heap := hP
  have hl := lv_entry ([.ref q, .int (nI k)]) (n := 3) (Nat.le_of_ble_eq_true rfl)
  rw [lg_entry_eq]
  generalize (lg_sl ([.ref q, .int (nI k)]) ++ List.replicate (3 - (lg_sl ([.ref q, .int (nI k)])).length) Slot.unset).toArray = ls at hl ⊢
  have hl : lv_has ls 3 [(0, .ref q), (1, .int (nI k))] := hl
  refine lv_aload_n hx hb dX8_pollLast_0 rfl (lv_at hl 0 rfl) ?_
  refine lv_iload_n hx hb dX8_pollLast_1 rfl (lv_at hl 1 rfl) ?_
  have hPc := hP.sub (ws' := [(q, .inr (7, [.ref mq, .ref zq, .ref sq, .ref bq, .ref cq, .long sm, .ref pq, .int ps, .int th])), (mq, .inl (cZ, 12288, .inl fM)), (zq, .inl (cI, 3, .inl fS)), (sq, .inl (cI, 6156, .inl fP)), (bq, .inl (cI, 3, .inl fB)), (cq, .inl (cJ, 64, .inr (.inl fC))), (pq, .inl (cI, 8, .inl fT))]) [0, 1, 2, 3, 4, 5, 6] rfl
  have hKc := hK.sub (tys' := [(cZ, .boolean), (cI, .int), (cJ, .long)]) [0, 1, 2] rfl
  have hDc := hD.sub (ws' := [(q, .inr (7, [.ref mq, .ref zq, .ref sq, .ref bq, .ref cq, .long sm, .ref pq, .int ps, .int th])), (mq, .inl (cZ, 12288, .inl fM)), (zq, .inl (cI, 3, .inl fS)), (sq, .inl (cI, 6156, .inl fP)), (bq, .inl (cI, 3, .inl fB)), (cq, .inl (cJ, 64, .inr (.inl fC))), (pq, .inl (cI, 8, .inl fT))]) [0, 1, 2, 3, 4, 5, 6] (by decide) rfl
  have hFc := va_free (wc := [(q, .inr (7, [.ref mq, .ref zq, .ref sq, .ref bq, .ref cq, .long sm, .ref pq, .int ps, .int th])), (mq, .inl (cZ, 12288, .inl fM)), (zq, .inl (cI, 3, .inl fS)), (sq, .inl (cI, 6156, .inl fP)), (bq, .inl (cI, 3, .inl fB)), (cq, .inl (cJ, 64, .inr (.inl fC))), (pq, .inl (cI, 8, .inl fT))]) hD hS hA [0, 1, 2, 3, 4, 5, 6] rfl
  refine va_calli (va_runV (As := [.int (nI k)]) (rest := []) ⟨hx, hb, hml, hown, hts⟩ (c_X8_hasMembers_e l dC dI q mq zq sq bq cq pq cZ cI cJ fM fS fP fB fC sm fT ps th M k s.heap.size (by first | assumption | omega) (by first | assumption | omega) (by first | assumption | omega)) (cwV 1 hts gX8_pollLast_X8_hasMembers rfl rfl rfl (by decide +kernel) ⟨Nat.le_of_ble_eq_true rfl, Nat.le_of_ble_eq_true rfl⟩) ⟨fun a U g mk q => by obtain ⟨q0, q1, qP, qK, qD⟩ := q; exact ⟨q0, q1, qP, va_K.moved (u := U) (U := U.calling g mk a) (Vm.Alike.refl U.vm) qK, qD⟩, va_recv hKc hPc (ci := 7) (q0 := 0) rfl rfl, fun U hU hW => ⟨rfl, by rw [hU], by rw [hU]; exact hPc, va_K.moved hW.alike hKc, hDc.weaken (fun _ _ _ _ => trivial)⟩⟩ rfl rfl hl.1 rfl (lv_room (Nat.le_of_ble_eq_true rfl)) dX8_pollLast_2 ⟨Nat.le_of_ble_eq_true rfl, Nat.le_of_ble_eq_true rfl⟩) hS (fun q _ h => hFc q h) hFc (fun r_3 u_2 t9 H1 locs ht hvm hw_1 hB hz1 hk1 hS => ?_)
  obtain ⟨th'_4, rfl⟩ : ∃ z, z = u_2 := ⟨_, rfl⟩
  obtain ⟨hP1, hK1, hD1⟩ := hB
  rw [ht] at hP1
  have hK1 := va_K.moved hvm.symm hK1
  try dsimp only at hw_1 hP1 hK1 hD1
  obtain ⟨hP, hD⟩ := va_join (wr := []) (w1 := [(q, .inr (7, [.ref mq, .ref zq, .ref sq, .ref bq, .ref cq, .long sm, .ref pq, .int ps, .int th'_4])), (mq, .inl (cZ, 12288, .inl fM)), (zq, .inl (cI, 3, .inl fS)), (sq, .inl (cI, 6156, .inl fP)), (bq, .inl (cI, 3, .inl fB)), (cq, .inl (cJ, 64, .inr (.inl fC))), (pq, .inl (cI, 8, .inl fT))]) hP hD [0, 1, 2, 3, 4, 5, 6] [] rfl rfl (by decide) (by decide) hk1 hFc hP1 hD1
  generalize H1 = H at hP hS ⊢
  have hP : va_P (dC, dI) vwCl [(q, .inr (7, [.ref mq, .ref zq, .ref sq, .ref bq, .ref cq, .long sm, .ref pq, .int ps, .int th'_4])), (mq, .inl (cZ, 12288, .inl fM)), (zq, .inl (cI, 3, .inl fS)), (sq, .inl (cI, 6156, .inl fP)), (bq, .inl (cI, 3, .inl fB)), (cq, .inl (cJ, 64, .inr (.inl fC))), (pq, .inl (cI, 8, .inl fT))] H := hP
  have hD : va_D A [(q, .inr (7, [.ref mq, .ref zq, .ref sq, .ref bq, .ref cq, .long sm, .ref pq, .int ps, .int th'_4])), (mq, .inl (cZ, 12288, .inl fM)), (zq, .inl (cI, 3, .inl fS)), (sq, .inl (cI, 6156, .inl fP)), (bq, .inl (cI, 3, .inl fB)), (cq, .inl (cJ, 64, .inr (.inl fC))), (pq, .inl (cI, 8, .inl fT))] := hD
  obtain ⟨he, hw_1⟩ := hw_1
  subst he
  have hth := hw_1
  refine lv_if_ne (tgt := 10) hx hb dX8_pollLast_5 (by decide) (fun qc_5 => ?_) (fun qc_5 => ?_)
  · have c_5 : false = true := b2i_t qc_5
    cases c_5
  · have c_5 : false = false := b2i_f qc_5
    refine lv_iconst (v := nI 0) hx hb dX8_pollLast_8 (by decide +kernel) ?_
    have hP9 := hP.sub (ws' := [(q, .inr (7, [.ref mq, .ref zq, .ref sq, .ref bq, .ref cq, .long sm, .ref pq, .int ps, .int th'_4])), (mq, .inl (cZ, 12288, .inl fM)), (zq, .inl (cI, 3, .inl fS)), (sq, .inl (cI, 6156, .inl fP)), (bq, .inl (cI, 3, .inl fB)), (cq, .inl (cJ, 64, .inr (.inl fC))), (pq, .inl (cI, 8, .inl fT))]) [0, 1, 2, 3, 4, 5, 6] rfl
    have hD9 := hD.sub (ws' := [(q, .inr (7, [.ref mq, .ref zq, .ref sq, .ref bq, .ref cq, .long sm, .ref pq, .int ps, .int th'_4])), (mq, .inl (cZ, 12288, .inl fM)), (zq, .inl (cI, 3, .inl fS)), (sq, .inl (cI, 6156, .inl fP)), (bq, .inl (cI, 3, .inl fB)), (cq, .inl (cJ, 64, .inr (.inl fC))), (pq, .inl (cI, 8, .inl fT))]) [0, 1, 2, 3, 4, 5, 6] (by decide) rfl
    have hK9 := hK.sub (tys' := [(cZ, .boolean), (cI, .int), (cJ, .long)]) [0, 1, 2] rfl
    exact W.iret (v := nI 0) hx hb hr (fun t9 ht hW => ⟨⟨nI 0, th'_4, rfl, hth, by rw [ht]; exact hP9, va_K.moved hW.alike hK9, hD9⟩, hS.F ht⟩) hS.2.2 dX8_pollLast_9
set_option maxHeartbeats 4000000 in
set_option maxRecDepth 100000 in
/-- reference: c_X8_pollLast_s -/
theorem c_X8_pollLast_s (l : Launch) (dC : Nat → ClassId) (dI : Nat → Nat → Nat) (q : Nat) (mq : Nat) (zq : Nat) (sq : Nat) (bq : Nat) (cq : Nat) (pq : Nat) (cZ : ClassId) (cI : ClassId) (cJ : ClassId) (fM : Nat → Int32) (fS : Nat → Int32) (fP : Nat → Int32) (fB : Nat → Int32) (fC : Nat → Int64) (sm : Int64) (fT : Nat → Int32) (ps : Int32) (th : Int32) (v : Int32) (sz : Nat) (hSf : isS v = false) : Met l yX8_pollLast wsX8_pollLast ({ frames := 3, cells := 0, slots := 0, locals := 64 }) (va_Pc [.ref q, .int v] (fun U => U.heap.size = sz ∧ va_P (dC, dI) vwCl [(q, .inr (7, [.ref mq, .ref zq, .ref sq, .ref bq, .ref cq, .long sm, .ref pq, .int ps, .int th])), (mq, .inl (cZ, 12288, .inl fM)), (zq, .inl (cI, 3, .inl fS)), (sq, .inl (cI, 6156, .inl fP)), (bq, .inl (cI, 3, .inl fB)), (cq, .inl (cJ, 64, .inr (.inl fC))), (pq, .inl (cI, 8, .inl fT))] U.heap ∧ va_K (dC, dI) vwCl [(cZ, .boolean), (cI, .int), (cJ, .long)] U ∧ va_D (fun _ => True) [(q, .inr (7, [.ref mq, .ref zq, .ref sq, .ref bq, .ref cq, .long sm, .ref pq, .int ps, .int th])), (mq, .inl (cZ, 12288, .inl fM)), (zq, .inl (cI, 3, .inl fS)), (sq, .inl (cI, 6156, .inl fP)), (bq, .inl (cI, 3, .inl fB)), (cq, .inl (cJ, 64, .inr (.inl fC))), (pq, .inl (cI, 8, .inl fT))])) (va_Qi (fun (r : Int32) (u : Int32) => u = nI 1) (fun (u : Int32) (t : State) => va_P (dC, dI) vwCl [(q, .inr (7, [.ref mq, .ref zq, .ref sq, .ref bq, .ref cq, .long sm, .ref pq, .int ps, .int u])), (mq, .inl (cZ, 12288, .inl fM)), (zq, .inl (cI, 3, .inl fS)), (sq, .inl (cI, 6156, .inl fP)), (bq, .inl (cI, 3, .inl fB)), (cq, .inl (cJ, 64, .inr (.inl fC))), (pq, .inl (cI, 8, .inl fT))] t.heap ∧ va_K (dC, dI) vwCl [(cZ, .boolean), (cI, .int), (cJ, .long)] t ∧ va_D (va_A [(q, .inr (7, [.ref mq, .ref zq, .ref sq, .ref bq, .ref cq, .long sm, .ref pq, .int ps, .int th])), (mq, .inl (cZ, 12288, .inl fM)), (zq, .inl (cI, 3, .inl fS)), (sq, .inl (cI, 6156, .inl fP)), (bq, .inl (cI, 3, .inl fB)), (cq, .inl (cJ, 64, .inr (.inl fC))), (pq, .inl (cI, 8, .inl fT))] sz) [(q, .inr (7, [.ref mq, .ref zq, .ref sq, .ref bq, .ref cq, .long sm, .ref pq, .int ps, .int u])), (mq, .inl (cZ, 12288, .inl fM)), (zq, .inl (cI, 3, .inl fS)), (sq, .inl (cI, 6156, .inl fP)), (bq, .inl (cI, 3, .inl fB)), (cq, .inl (cJ, 64, .inr (.inl fC))), (pq, .inl (cI, 8, .inl fT))]) (va_A [(q, .inr (7, [.ref mq, .ref zq, .ref sq, .ref bq, .ref cq, .long sm, .ref pq, .int ps, .int th])), (mq, .inl (cZ, 12288, .inl fM)), (zq, .inl (cI, 3, .inl fS)), (sq, .inl (cI, 6156, .inl fP)), (bq, .inl (cI, 3, .inl fB)), (cq, .inl (cJ, 64, .inr (.inl fC))), (pq, .inl (cI, 8, .inl fT))] sz)) 0 0 (va_A [(q, .inr (7, [.ref mq, .ref zq, .ref sq, .ref bq, .ref cq, .long sm, .ref pq, .int ps, .int th])), (mq, .inl (cZ, 12288, .inl fM)), (zq, .inl (cI, 3, .inl fS)), (sq, .inl (cI, 6156, .inl fP)), (bq, .inl (cI, 3, .inl fB)), (cq, .inl (cJ, 64, .inr (.inl fC))), (pq, .inl (cI, 8, .inl fT))] sz) := by
  refine Met.ofW (cc := cX8_pollLast) (maxL := 3) (ret := (some .int)) (by decide) rfl ?_
  intro p e s m args below meth c s₁ B hml hv
  obtain ⟨rfl, hsz, hP, hK, hD0⟩ := hv
  have hx := B.exec
  have hb := B.bytes
  have hr := B.returns
  have hts := atoms_spec (ws := wsX8_pollLast) B.pre
  have hown : s.vm.findClass RX8 = some m.cls := findClass_of_methodNamed B.named
  have hlocks := B.notSynchronized
  subst hsz
  have hD := hD0.self (sz := s.heap.size)
  generalize hAe : va_A [(q, .inr (7, [.ref mq, .ref zq, .ref sq, .ref bq, .ref cq, .long sm, .ref pq, .int ps, .int th])), (mq, .inl (cZ, 12288, .inl fM)), (zq, .inl (cI, 3, .inl fS)), (sq, .inl (cI, 6156, .inl fP)), (bq, .inl (cI, 3, .inl fB)), (cq, .inl (cJ, 64, .inr (.inl fC))), (pq, .inl (cI, 8, .inl fT))] s.heap.size = A at hD ⊢
  have hA : ∀ q : Nat, s.heap.size ≤ q → A q := fun q h => by rw [← hAe]; exact Or.inr h
  have hS : va_S A s.heap s.heap [] := va_S.rf
  have hP : va_P (dC, dI) vwCl [(q, .inr (7, [.ref mq, .ref zq, .ref sq, .ref bq, .ref cq, .long sm, .ref pq, .int ps, .int th])), (mq, .inl (cZ, 12288, .inl fM)), (zq, .inl (cI, 3, .inl fS)), (sq, .inl (cI, 6156, .inl fP)), (bq, .inl (cI, 3, .inl fB)), (cq, .inl (cJ, 64, .inr (.inl fC))), (pq, .inl (cI, 8, .inl fT))] s.heap := hP
  have hl := lv_entry ([.ref q, .int v]) (n := 3) (Nat.le_of_ble_eq_true rfl)
  rw [lg_entry_eq]
  generalize (lg_sl ([.ref q, .int v]) ++ List.replicate (3 - (lg_sl ([.ref q, .int v])).length) Slot.unset).toArray = ls at hl ⊢
  have hl : lv_has ls 3 [(0, .ref q), (1, .int v)] := hl
  refine lv_aload_n hx hb dX8_pollLast_0 rfl (lv_at hl 0 rfl) ?_
  refine lv_iload_n hx hb dX8_pollLast_1 rfl (lv_at hl 1 rfl) ?_
  have hPc := hP.sub (ws' := [(q, .inr (7, [.ref mq, .ref zq, .ref sq, .ref bq, .ref cq, .long sm, .ref pq, .int ps, .int th])), (mq, .inl (cZ, 12288, .inl fM)), (zq, .inl (cI, 3, .inl fS)), (sq, .inl (cI, 6156, .inl fP)), (bq, .inl (cI, 3, .inl fB)), (cq, .inl (cJ, 64, .inr (.inl fC))), (pq, .inl (cI, 8, .inl fT))]) [0, 1, 2, 3, 4, 5, 6] rfl
  have hKc := hK.sub (tys' := [(cZ, .boolean), (cI, .int), (cJ, .long)]) [0, 1, 2] rfl
  have hDc := hD.sub (ws' := [(q, .inr (7, [.ref mq, .ref zq, .ref sq, .ref bq, .ref cq, .long sm, .ref pq, .int ps, .int th])), (mq, .inl (cZ, 12288, .inl fM)), (zq, .inl (cI, 3, .inl fS)), (sq, .inl (cI, 6156, .inl fP)), (bq, .inl (cI, 3, .inl fB)), (cq, .inl (cJ, 64, .inr (.inl fC))), (pq, .inl (cI, 8, .inl fT))]) [0, 1, 2, 3, 4, 5, 6] (by decide) rfl
  have hFc := va_free (wc := [(q, .inr (7, [.ref mq, .ref zq, .ref sq, .ref bq, .ref cq, .long sm, .ref pq, .int ps, .int th])), (mq, .inl (cZ, 12288, .inl fM)), (zq, .inl (cI, 3, .inl fS)), (sq, .inl (cI, 6156, .inl fP)), (bq, .inl (cI, 3, .inl fB)), (cq, .inl (cJ, 64, .inr (.inl fC))), (pq, .inl (cI, 8, .inl fT))]) hD hS hA [0, 1, 2, 3, 4, 5, 6] rfl
  refine va_calli (va_runV (As := [.int v]) (rest := []) ⟨hx, hb, hml, hown, hts⟩ (c_X8_hasMembers_s l dC dI q mq zq sq bq cq pq cZ cI cJ fM fS fP fB fC sm fT ps th v s.heap.size (by first | assumption | omega)) (cwV 1 hts gX8_pollLast_X8_hasMembers rfl rfl rfl (by decide +kernel) ⟨Nat.le_of_ble_eq_true rfl, Nat.le_of_ble_eq_true rfl⟩) ⟨fun a U g mk q => by obtain ⟨q0, q1, qP, qK, qD⟩ := q; exact ⟨q0, q1, qP, va_K.moved (u := U) (U := U.calling g mk a) (Vm.Alike.refl U.vm) qK, qD⟩, va_recv hKc hPc (ci := 7) (q0 := 0) rfl rfl, fun U hU hW => ⟨rfl, by rw [hU], by rw [hU]; exact hPc, va_K.moved hW.alike hKc, hDc.weaken (fun _ _ _ _ => trivial)⟩⟩ rfl rfl hl.1 rfl (lv_room (Nat.le_of_ble_eq_true rfl)) dX8_pollLast_2 ⟨Nat.le_of_ble_eq_true rfl, Nat.le_of_ble_eq_true rfl⟩) hS (fun q _ h => hFc q h) hFc (fun r_3 u_2 t9 H1 locs ht hvm hw_1 hB hz1 hk1 hS => ?_)
  obtain ⟨th'_4, rfl⟩ : ∃ z, z = u_2 := ⟨_, rfl⟩
  obtain ⟨hP1, hK1, hD1⟩ := hB
  rw [ht] at hP1
  have hK1 := va_K.moved hvm.symm hK1
  try dsimp only at hw_1 hP1 hK1 hD1
  obtain ⟨hP, hD⟩ := va_join (wr := []) (w1 := [(q, .inr (7, [.ref mq, .ref zq, .ref sq, .ref bq, .ref cq, .long sm, .ref pq, .int ps, .int th'_4])), (mq, .inl (cZ, 12288, .inl fM)), (zq, .inl (cI, 3, .inl fS)), (sq, .inl (cI, 6156, .inl fP)), (bq, .inl (cI, 3, .inl fB)), (cq, .inl (cJ, 64, .inr (.inl fC))), (pq, .inl (cI, 8, .inl fT))]) hP hD [0, 1, 2, 3, 4, 5, 6] [] rfl rfl (by decide) (by decide) hk1 hFc hP1 hD1
  generalize H1 = H at hP hS ⊢
  have hP : va_P (dC, dI) vwCl [(q, .inr (7, [.ref mq, .ref zq, .ref sq, .ref bq, .ref cq, .long sm, .ref pq, .int ps, .int th'_4])), (mq, .inl (cZ, 12288, .inl fM)), (zq, .inl (cI, 3, .inl fS)), (sq, .inl (cI, 6156, .inl fP)), (bq, .inl (cI, 3, .inl fB)), (cq, .inl (cJ, 64, .inr (.inl fC))), (pq, .inl (cI, 8, .inl fT))] H := hP
  have hD : va_D A [(q, .inr (7, [.ref mq, .ref zq, .ref sq, .ref bq, .ref cq, .long sm, .ref pq, .int ps, .int th'_4])), (mq, .inl (cZ, 12288, .inl fM)), (zq, .inl (cI, 3, .inl fS)), (sq, .inl (cI, 6156, .inl fP)), (bq, .inl (cI, 3, .inl fB)), (cq, .inl (cJ, 64, .inr (.inl fC))), (pq, .inl (cI, 8, .inl fT))] := hD
  obtain ⟨he, hw_1⟩ := hw_1
  subst he
  have hth := hw_1
  refine lv_if_ne (tgt := 10) hx hb dX8_pollLast_5 (by decide) (fun qc_5 => ?_) (fun qc_5 => ?_)
  · have c_5 : false = true := b2i_t qc_5
    cases c_5
  · have c_5 : false = false := b2i_f qc_5
    refine lv_iconst (v := nI 0) hx hb dX8_pollLast_8 (by decide +kernel) ?_
    have hP9 := hP.sub (ws' := [(q, .inr (7, [.ref mq, .ref zq, .ref sq, .ref bq, .ref cq, .long sm, .ref pq, .int ps, .int th'_4])), (mq, .inl (cZ, 12288, .inl fM)), (zq, .inl (cI, 3, .inl fS)), (sq, .inl (cI, 6156, .inl fP)), (bq, .inl (cI, 3, .inl fB)), (cq, .inl (cJ, 64, .inr (.inl fC))), (pq, .inl (cI, 8, .inl fT))]) [0, 1, 2, 3, 4, 5, 6] rfl
    have hD9 := hD.sub (ws' := [(q, .inr (7, [.ref mq, .ref zq, .ref sq, .ref bq, .ref cq, .long sm, .ref pq, .int ps, .int th'_4])), (mq, .inl (cZ, 12288, .inl fM)), (zq, .inl (cI, 3, .inl fS)), (sq, .inl (cI, 6156, .inl fP)), (bq, .inl (cI, 3, .inl fB)), (cq, .inl (cJ, 64, .inr (.inl fC))), (pq, .inl (cI, 8, .inl fT))]) [0, 1, 2, 3, 4, 5, 6] (by decide) rfl
    have hK9 := hK.sub (tys' := [(cZ, .boolean), (cI, .int), (cJ, .long)]) [0, 1, 2] rfl
    exact W.iret (v := nI 0) hx hb hr (fun t9 ht hW => ⟨⟨nI 0, th'_4, rfl, hth, by rw [ht]; exact hP9, va_K.moved hW.alike hK9, hD9⟩, hS.F ht⟩) hS.2.2 dX8_pollLast_9
set_option maxHeartbeats 4000000 in
set_option maxRecDepth 100000 in
/-- reference: c_X8_select_v -/
theorem c_X8_select_v (l : Launch) (dC : Nat → ClassId) (dI : Nat → Nat → Nat) (q : Nat) (mq : Nat) (zq : Nat) (sq : Nat) (bq : Nat) (cq : Nat) (pq : Nat) (cZ : ClassId) (cI : ClassId) (cJ : ClassId) (fM : Nat → Int32) (fS : Nat → Int32) (fP : Nat → Int32) (fB : Nat → Int32) (fC : Nat → Int64) (sm : Int64) (fT : Nat → Int32) (ps : Int32) (th : Int32) (M : Nat → Nat → Bool) (k : Nat) (x : Nat) (sz : Nat) (hM : MM fM M) (hZ : MZ fS M) (hk : k < 3) (hxx : x < fb_ct (M k) 4096) : Met l yX8_select wsX8_select ({ frames := 2, cells := 0, slots := 0, locals := 45 }) (va_Pc [.ref q, .int (nI k), .int (nI x)] (fun U => U.heap.size = sz ∧ va_P (dC, dI) vwCl [(q, .inr (7, [.ref mq, .ref zq, .ref sq, .ref bq, .ref cq, .long sm, .ref pq, .int ps, .int th])), (mq, .inl (cZ, 12288, .inl fM)), (zq, .inl (cI, 3, .inl fS)), (sq, .inl (cI, 6156, .inl fP)), (bq, .inl (cI, 3, .inl fB)), (cq, .inl (cJ, 64, .inr (.inl fC))), (pq, .inl (cI, 8, .inl fT))] U.heap ∧ va_K (dC, dI) vwCl [(cZ, .boolean), (cI, .int), (cJ, .long)] U ∧ va_D (fun _ => True) [(q, .inr (7, [.ref mq, .ref zq, .ref sq, .ref bq, .ref cq, .long sm, .ref pq, .int ps, .int th])), (mq, .inl (cZ, 12288, .inl fM)), (zq, .inl (cI, 3, .inl fS)), (sq, .inl (cI, 6156, .inl fP)), (bq, .inl (cI, 3, .inl fB)), (cq, .inl (cJ, 64, .inr (.inl fC))), (pq, .inl (cI, 8, .inl fT))])) (va_Qi (fun (r : Int32) (u : Int32) => r = nI (sp (M k) x) ∧ u = nI 0) (fun (u : Int32) (t : State) => va_P (dC, dI) vwCl [(q, .inr (7, [.ref mq, .ref zq, .ref sq, .ref bq, .ref cq, .long sm, .ref pq, .int ps, .int u])), (mq, .inl (cZ, 12288, .inl fM)), (zq, .inl (cI, 3, .inl fS)), (sq, .inl (cI, 6156, .inl fP)), (bq, .inl (cI, 3, .inl fB)), (cq, .inl (cJ, 64, .inr (.inl fC))), (pq, .inl (cI, 8, .inl fT))] t.heap ∧ va_K (dC, dI) vwCl [(cZ, .boolean), (cI, .int), (cJ, .long)] t ∧ va_D (va_A [(q, .inr (7, [.ref mq, .ref zq, .ref sq, .ref bq, .ref cq, .long sm, .ref pq, .int ps, .int th])), (mq, .inl (cZ, 12288, .inl fM)), (zq, .inl (cI, 3, .inl fS)), (sq, .inl (cI, 6156, .inl fP)), (bq, .inl (cI, 3, .inl fB)), (cq, .inl (cJ, 64, .inr (.inl fC))), (pq, .inl (cI, 8, .inl fT))] sz) [(q, .inr (7, [.ref mq, .ref zq, .ref sq, .ref bq, .ref cq, .long sm, .ref pq, .int ps, .int u])), (mq, .inl (cZ, 12288, .inl fM)), (zq, .inl (cI, 3, .inl fS)), (sq, .inl (cI, 6156, .inl fP)), (bq, .inl (cI, 3, .inl fB)), (cq, .inl (cJ, 64, .inr (.inl fC))), (pq, .inl (cI, 8, .inl fT))]) (va_A [(q, .inr (7, [.ref mq, .ref zq, .ref sq, .ref bq, .ref cq, .long sm, .ref pq, .int ps, .int th])), (mq, .inl (cZ, 12288, .inl fM)), (zq, .inl (cI, 3, .inl fS)), (sq, .inl (cI, 6156, .inl fP)), (bq, .inl (cI, 3, .inl fB)), (cq, .inl (cJ, 64, .inr (.inl fC))), (pq, .inl (cI, 8, .inl fT))] sz)) 0 0 (va_A [(q, .inr (7, [.ref mq, .ref zq, .ref sq, .ref bq, .ref cq, .long sm, .ref pq, .int ps, .int th])), (mq, .inl (cZ, 12288, .inl fM)), (zq, .inl (cI, 3, .inl fS)), (sq, .inl (cI, 6156, .inl fP)), (bq, .inl (cI, 3, .inl fB)), (cq, .inl (cJ, 64, .inr (.inl fC))), (pq, .inl (cI, 8, .inl fT))] sz) := by
  refine Met.ofW (cc := cX8_select) (maxL := 6) (ret := (some .int)) (by decide) rfl ?_
  intro p e s m args below meth c s₁ B hml hv
  obtain ⟨rfl, hsz, hP, hK, hD0⟩ := hv
  have hx := B.exec
  have hb := B.bytes
  have hr := B.returns
  have hts := atoms_spec (ws := wsX8_select) B.pre
  have hown : s.vm.findClass RX8 = some m.cls := findClass_of_methodNamed B.named
  have hlocks := B.notSynchronized
  subst hsz
  have hD := hD0.self (sz := s.heap.size)
  generalize hAe : va_A [(q, .inr (7, [.ref mq, .ref zq, .ref sq, .ref bq, .ref cq, .long sm, .ref pq, .int ps, .int th])), (mq, .inl (cZ, 12288, .inl fM)), (zq, .inl (cI, 3, .inl fS)), (sq, .inl (cI, 6156, .inl fP)), (bq, .inl (cI, 3, .inl fB)), (cq, .inl (cJ, 64, .inr (.inl fC))), (pq, .inl (cI, 8, .inl fT))] s.heap.size = A at hD ⊢
  have hA : ∀ q : Nat, s.heap.size ≤ q → A q := fun q h => by rw [← hAe]; exact Or.inr h
  have hS : va_S A s.heap s.heap [] := va_S.rf
  have hP : va_P (dC, dI) vwCl [(q, .inr (7, [.ref mq, .ref zq, .ref sq, .ref bq, .ref cq, .long sm, .ref pq, .int ps, .int th])), (mq, .inl (cZ, 12288, .inl fM)), (zq, .inl (cI, 3, .inl fS)), (sq, .inl (cI, 6156, .inl fP)), (bq, .inl (cI, 3, .inl fB)), (cq, .inl (cJ, 64, .inr (.inl fC))), (pq, .inl (cI, 8, .inl fT))] s.heap := hP
  have hl := lv_entry ([.ref q, .int (nI k), .int (nI x)]) (n := 6) (Nat.le_of_ble_eq_true rfl)
  rw [lg_entry_eq]
  generalize (lg_sl ([.ref q, .int (nI k), .int (nI x)]) ++ List.replicate (6 - (lg_sl ([.ref q, .int (nI k), .int (nI x)])).length) Slot.unset).toArray = ls at hl ⊢
  have hl : lv_has ls 6 [(0, .ref q), (1, .int (nI k)), (2, .int (nI x))] := hl
  have hcm := fb_ct_le (M k) 4096
  refine lv_iload_n hx hb dX8_select_0 rfl (lv_at hl 1 rfl) ?_
  have hPc := hP.sub (ws' := []) [] rfl
  have hKc := hK.sub (tys' := []) [] rfl
  refine vp_callSi (W.runS (As := [.int (nI k)]) (rest := []) ⟨hx, hb, hml, hown, hts⟩ (c_X8_isSet l dC dI (nI k) ) (va_cwS 1 hts gX8_select_X8_isSet rfl rfl rfl (by decide +kernel) ⟨Nat.le_of_ble_eq_true rfl, Nat.le_of_ble_eq_true rfl⟩) ⟨fun a U g mk q => by obtain ⟨q0, qP, qK⟩ := q; exact ⟨q0, qP, va_K.moved (u := U) (U := U.calling g mk a) (Vm.Alike.refl U.vm) qK⟩, fun U hU hW => ⟨rfl, by rw [hU]; exact hPc, va_K.moved hW.alike hKc⟩⟩ rfl rfl hl.1 rfl (lv_room (Nat.le_of_ble_eq_true rfl)) dX8_select_1 ⟨Nat.le_of_ble_eq_true rfl, Nat.le_of_ble_eq_true rfl⟩) (fun r_2 hw_1 => ?_)
  subst hw_1
  refine lv_cvi (congrArg b2i (isS_t hk)) ?_
  refine lv_istore_n (lv' := [(3, .int (b2i true)), (0, .ref q), (1, .int (nI k)), (2, .int (nI x))]) hx hb dX8_select_4 rfl hl (by decide) rfl (fun ls hl => ?_)
  refine lv_aload_n hx hb dX8_select_5 rfl (lv_at hl 1 rfl) ?_
  refine lv_iload_n hx hb dX8_select_6 rfl (lv_at hl 0 rfl) ?_
  refine lv_if_eq (tgt := 30) hx hb dX8_select_7 (by decide) (fun qc_3 => ?_) (fun qc_3 => ?_)
  · have c_3 : true = false := b2i_f qc_3
    cases c_3
  · have c_3 : true = true := b2i_t qc_3
    refine lv_iload_n hx hb dX8_select_10 rfl (lv_at hl 3 rfl) ?_
    refine lv_iconst (v := nI 0) hx hb dX8_select_11 (by decide +kernel) ?_
    refine lv_aload_n hx hb dX8_select_12 rfl (lv_at hl 1 rfl) ?_
    refine va_get (D := (dC, dI)) (ci := 7) (v := .ref zq) (C := RX8) (T := TX8) (N := 9) hx hb hts (by decide +kernel) hown hK hP 0 rfl rfl 1 (by decide) (hts (.fieldLink RX8 13 "SmallNumberSetsModel" "size" "[I") (by decide +kernel)) (fun _ h9 => h9) rfl dX8_select_13 ?_
    refine lv_iload_n hx hb dX8_select_16 rfl (lv_at hl 2 rfl) ?_
    refine va_iald hx hb hK hP 2 1 rfl rfl (vp_in_nI (by omega) (by omega)) dX8_select_17 ?_
    refine lv_cvi (congrArg fS (nI_clamp (by omega))) ?_
    refine lv_cvi (hZ k hk) ?_
    refine lv_iconst (v := nI 1) hx hb dX8_select_18 (by decide +kernel) ?_
    refine lv_isub hx hb dX8_select_19 ?_
    have hPc := hP.sub (ws' := []) [] rfl
    have hKc := hK.sub (tys' := []) [] rfl
    refine vp_callSi (W.runS (As := [.int (nI x), .int (nI 0), .int ((nI (fb_ct (M k) 4096)) - (nI 1))]) (rest := [.ref q]) ⟨hx, hb, hml, hown, hts⟩ (c_X8_in l dC dI (nI x) (nI 0) ((nI (fb_ct (M k) 4096)) - (nI 1)) ) (va_cwS 3 hts gX8_select_X8_in rfl rfl rfl (by decide +kernel) ⟨Nat.le_of_ble_eq_true rfl, Nat.le_of_ble_eq_true rfl⟩) ⟨fun a U g mk q => by obtain ⟨q0, qP, qK⟩ := q; exact ⟨q0, qP, va_K.moved (u := U) (U := U.calling g mk a) (Vm.Alike.refl U.vm) qK⟩, fun U hU hW => ⟨rfl, by rw [hU]; exact hPc, va_K.moved hW.alike hKc⟩⟩ rfl rfl hl.1 rfl (lv_room (Nat.le_of_ble_eq_true rfl)) dX8_select_20 ⟨Nat.le_of_ble_eq_true rfl, Nat.le_of_ble_eq_true rfl⟩) (fun r_5 hw_4 => ?_)
    subst hw_4
    refine lv_cvi (congrArg b2i (isP_t hxx (by omega))) ?_
    refine lv_if_eq (tgt := 30) hx hb dX8_select_23 (by decide) (fun qc_6 => ?_) (fun qc_6 => ?_)
    · have c_6 : true = false := b2i_f qc_6
      cases c_6
    · have c_6 : true = true := b2i_t qc_6
      refine lv_iconst (v := nI 1) hx hb dX8_select_26 (by decide +kernel) ?_
      refine lv_goto (tgt := 31) hx hb dX8_select_27 (by decide) ?_
      refine lv_cvi ((rfl : nI 1 = b2i true)) ?_
      have hPc := hP.sub (ws' := [(q, .inr (7, [.ref mq, .ref zq, .ref sq, .ref bq, .ref cq, .long sm, .ref pq, .int ps, .int th])), (mq, .inl (cZ, 12288, .inl fM)), (zq, .inl (cI, 3, .inl fS)), (sq, .inl (cI, 6156, .inl fP)), (bq, .inl (cI, 3, .inl fB)), (cq, .inl (cJ, 64, .inr (.inl fC))), (pq, .inl (cI, 8, .inl fT))]) [0, 1, 2, 3, 4, 5, 6] rfl
      have hKc := hK.sub (tys' := [(cZ, .boolean), (cI, .int), (cJ, .long)]) [0, 1, 2] rfl
      have hDc := hD.sub (ws' := [(q, .inr (7, [.ref mq, .ref zq, .ref sq, .ref bq, .ref cq, .long sm, .ref pq, .int ps, .int th])), (mq, .inl (cZ, 12288, .inl fM)), (zq, .inl (cI, 3, .inl fS)), (sq, .inl (cI, 6156, .inl fP)), (bq, .inl (cI, 3, .inl fB)), (cq, .inl (cJ, 64, .inr (.inl fC))), (pq, .inl (cI, 8, .inl fT))]) [0, 1, 2, 3, 4, 5, 6] (by decide) rfl
      have hFc := va_free (wc := [(q, .inr (7, [.ref mq, .ref zq, .ref sq, .ref bq, .ref cq, .long sm, .ref pq, .int ps, .int th])), (mq, .inl (cZ, 12288, .inl fM)), (zq, .inl (cI, 3, .inl fS)), (sq, .inl (cI, 6156, .inl fP)), (bq, .inl (cI, 3, .inl fB)), (cq, .inl (cJ, 64, .inr (.inl fC))), (pq, .inl (cI, 8, .inl fT))]) hD hS hA [0, 1, 2, 3, 4, 5, 6] rfl
      refine va_calli (va_runV (As := [.int (b2i true)]) (rest := []) ⟨hx, hb, hml, hown, hts⟩ (c_X8_asked l dC dI q mq zq sq bq cq pq cZ cI cJ fM fS fP fB fC sm fT ps th true s.heap.size ) (cwV 1 hts gX8_select_X8_asked rfl rfl rfl (by decide +kernel) ⟨Nat.le_of_ble_eq_true rfl, Nat.le_of_ble_eq_true rfl⟩) ⟨fun a U g mk q => by obtain ⟨q0, q1, qP, qK, qD⟩ := q; exact ⟨q0, q1, qP, va_K.moved (u := U) (U := U.calling g mk a) (Vm.Alike.refl U.vm) qK, qD⟩, va_recv hKc hPc (ci := 7) (q0 := 0) rfl rfl, fun U hU hW => ⟨rfl, by rw [hU], by rw [hU]; exact hPc, va_K.moved hW.alike hKc, hDc.weaken (fun _ _ _ _ => trivial)⟩⟩ rfl rfl hl.1 rfl (lv_room (Nat.le_of_ble_eq_true rfl)) dX8_select_31 ⟨Nat.le_of_ble_eq_true rfl, Nat.le_of_ble_eq_true rfl⟩) hS (fun q _ h => hFc q h) hFc (fun r_9 u_8 t9 H1 locs ht hvm hw_7 hB hz1 hk1 hS => ?_)
      obtain ⟨th'_10, rfl⟩ : ∃ z, z = u_8 := ⟨_, rfl⟩
      obtain ⟨hP1, hK1, hD1⟩ := hB
      rw [ht] at hP1
      have hK1 := va_K.moved hvm.symm hK1
      try dsimp only at hw_7 hP1 hK1 hD1
      obtain ⟨hP, hD⟩ := va_join (wr := []) (w1 := [(q, .inr (7, [.ref mq, .ref zq, .ref sq, .ref bq, .ref cq, .long sm, .ref pq, .int ps, .int th'_10])), (mq, .inl (cZ, 12288, .inl fM)), (zq, .inl (cI, 3, .inl fS)), (sq, .inl (cI, 6156, .inl fP)), (bq, .inl (cI, 3, .inl fB)), (cq, .inl (cJ, 64, .inr (.inl fC))), (pq, .inl (cI, 8, .inl fT))]) hP hD [0, 1, 2, 3, 4, 5, 6] [] rfl rfl (by decide) (by decide) hk1 hFc hP1 hD1
      generalize H1 = H at hP hS ⊢
      have hP : va_P (dC, dI) vwCl [(q, .inr (7, [.ref mq, .ref zq, .ref sq, .ref bq, .ref cq, .long sm, .ref pq, .int ps, .int th'_10])), (mq, .inl (cZ, 12288, .inl fM)), (zq, .inl (cI, 3, .inl fS)), (sq, .inl (cI, 6156, .inl fP)), (bq, .inl (cI, 3, .inl fB)), (cq, .inl (cJ, 64, .inr (.inl fC))), (pq, .inl (cI, 8, .inl fT))] H := hP
      have hD : va_D A [(q, .inr (7, [.ref mq, .ref zq, .ref sq, .ref bq, .ref cq, .long sm, .ref pq, .int ps, .int th'_10])), (mq, .inl (cZ, 12288, .inl fM)), (zq, .inl (cI, 3, .inl fS)), (sq, .inl (cI, 6156, .inl fP)), (bq, .inl (cI, 3, .inl fB)), (cq, .inl (cJ, 64, .inr (.inl fC))), (pq, .inl (cI, 8, .inl fT))] := hD
      obtain ⟨he, hw_7⟩ := hw_7
      subst he
      have hth := hw_7
      refine lv_if_ne (tgt := 39) hx hb dX8_select_34 (by decide) (fun qc_11 => ?_) (fun qc_11 => ?_)
      · have c_11 : true = true := b2i_t qc_11
        refine lv_aload_n hx hb dX8_select_39 rfl (lv_at hl 1 rfl) ?_
        refine lv_iload_n hx hb dX8_select_40 rfl (lv_at hl 2 rfl) ?_
        refine lv_iconst (v := nI 0) hx hb dX8_select_41 (by decide +kernel) ?_
        have hPc := hP.sub (ws' := [(q, .inr (7, [.ref mq, .ref zq, .ref sq, .ref bq, .ref cq, .long sm, .ref pq, .int ps, .int th'_10])), (mq, .inl (cZ, 12288, .inl fM)), (zq, .inl (cI, 3, .inl fS)), (sq, .inl (cI, 6156, .inl fP)), (bq, .inl (cI, 3, .inl fB)), (cq, .inl (cJ, 64, .inr (.inl fC))), (pq, .inl (cI, 8, .inl fT))]) [0, 1, 2, 3, 4, 5, 6] rfl
        have hKc := hK.sub (tys' := [(cZ, .boolean), (cI, .int), (cJ, .long)]) [0, 1, 2] rfl
        refine vp_callSi (W.runV (As := [.int (nI k), .int (nI 0)]) (rest := []) ⟨hx, hb, hml, hown, hts⟩ (c_X8_above l dC dI q mq zq sq bq cq pq cZ cI cJ fM fS fP fB fC sm fT ps th'_10 M k 0 (by first | assumption | omega) (by first | assumption | omega) (by first | assumption | omega)) (cwV 2 hts gX8_select_X8_above rfl rfl rfl (by decide +kernel) ⟨Nat.le_of_ble_eq_true rfl, Nat.le_of_ble_eq_true rfl⟩) ⟨fun a U g mk q => by obtain ⟨q0, qP, qK⟩ := q; exact ⟨q0, qP, va_K.moved (u := U) (U := U.calling g mk a) (Vm.Alike.refl U.vm) qK⟩, va_recv hKc hPc (ci := 7) (q0 := 0) rfl rfl, fun U hU hW => ⟨rfl, by rw [hU]; exact hPc, va_K.moved hW.alike hKc⟩⟩ rfl rfl hl.1 rfl (lv_room (Nat.le_of_ble_eq_true rfl)) dX8_select_42 ⟨Nat.le_of_ble_eq_true rfl, Nat.le_of_ble_eq_true rfl⟩) (fun r_13 hw_12 => ?_)
        subst hw_12
        refine lv_cvi (congrArg nI (sp_abv0 (by omega))) ?_
        refine lv_istore (lv' := [(4, .int (nI (sp (M k) 0))), (3, .int (b2i true)), (0, .ref q), (1, .int (nI k)), (2, .int (nI x))]) hx hb dX8_select_45 hl (by decide) rfl (fun ls hl => ?_)
        refine lv_iconst (v := nI 0) hx hb dX8_select_47 (by decide +kernel) ?_
        refine lv_istore (lv' := [(5, .int (nI 0)), (4, .int (nI (sp (M k) 0))), (3, .int (b2i true)), (0, .ref q), (1, .int (nI k)), (2, .int (nI x))]) hx hb dX8_select_48 hl (by decide) rfl (fun ls hl => ?_)
        have key_50_14 : ∀ (fu : Nat) (j : Nat) (hj : j ≤ x) (hfu : x - j < fu) (ls : Array Slot) (hl : lv_has ls 6 [(5, .int (nI j)), (4, .int (nI (sp (M k) j))), (3, .int (b2i true)), (0, .ref q), (1, .int (nI k)), (2, .int (nI x))]), W p l e (headSpec wsX8_select ({ frames := 2, cells := 0, slots := 0, locals := 45 })).room s m ([.ref q, .int (nI k), .int (nI x)] : List Value).toArray below meth c H locs 0 0 (MQ below (va_Qi (fun (r : Int32) (u : Int32) => r = nI (sp (M k) x) ∧ u = nI 0) (fun (u : Int32) (t : State) => va_P (dC, dI) vwCl [(q, .inr (7, [.ref mq, .ref zq, .ref sq, .ref bq, .ref cq, .long sm, .ref pq, .int ps, .int u])), (mq, .inl (cZ, 12288, .inl fM)), (zq, .inl (cI, 3, .inl fS)), (sq, .inl (cI, 6156, .inl fP)), (bq, .inl (cI, 3, .inl fB)), (cq, .inl (cJ, 64, .inr (.inl fC))), (pq, .inl (cI, 8, .inl fT))] t.heap ∧ va_K (dC, dI) vwCl [(cZ, .boolean), (cI, .int), (cJ, .long)] t ∧ va_D A [(q, .inr (7, [.ref mq, .ref zq, .ref sq, .ref bq, .ref cq, .long sm, .ref pq, .int ps, .int u])), (mq, .inl (cZ, 12288, .inl fM)), (zq, .inl (cI, 3, .inl fS)), (sq, .inl (cI, 6156, .inl fP)), (bq, .inl (cI, 3, .inl fB)), (cq, .inl (cJ, 64, .inr (.inl fC))), (pq, .inl (cI, 8, .inl fT))]) A) ([.ref q, .int (nI k), .int (nI x)] : List Value).toArray s 0 0 A) (F0 m 50 ls []) := by
          intro fu
          induction fu with
          | zero =>
            intro j hj hfu ls hl
            exact absurd hfu (Nat.not_lt_zero _)
          | succ fu ih_50 =>
            intro j hj hfu ls hl
            refine lv_iload hx hb dX8_select_50 (lv_at hl 0 rfl) ?_
            refine lv_iload_n hx hb dX8_select_52 rfl (lv_at hl 5 rfl) ?_
            refine lv_icmp_ge (tgt := 73) hx hb dX8_select_53 (by decide) (fun qc_15 => ?_) (fun qc_15 => ?_)
            · have c_15 : x ≤ j := (nI_leI (a := x) (b := j) (by omega) (by omega)).mp qc_15
              refine lv_iload hx hb dX8_select_73 (lv_at hl 1 rfl) ?_
              have hP9 := hP.sub (ws' := [(q, .inr (7, [.ref mq, .ref zq, .ref sq, .ref bq, .ref cq, .long sm, .ref pq, .int ps, .int th'_10])), (mq, .inl (cZ, 12288, .inl fM)), (zq, .inl (cI, 3, .inl fS)), (sq, .inl (cI, 6156, .inl fP)), (bq, .inl (cI, 3, .inl fB)), (cq, .inl (cJ, 64, .inr (.inl fC))), (pq, .inl (cI, 8, .inl fT))]) [0, 1, 2, 3, 4, 5, 6] rfl
              have hD9 := hD.sub (ws' := [(q, .inr (7, [.ref mq, .ref zq, .ref sq, .ref bq, .ref cq, .long sm, .ref pq, .int ps, .int th'_10])), (mq, .inl (cZ, 12288, .inl fM)), (zq, .inl (cI, 3, .inl fS)), (sq, .inl (cI, 6156, .inl fP)), (bq, .inl (cI, 3, .inl fB)), (cq, .inl (cJ, 64, .inr (.inl fC))), (pq, .inl (cI, 8, .inl fT))]) [0, 1, 2, 3, 4, 5, 6] (by decide) rfl
              have hK9 := hK.sub (tys' := [(cZ, .boolean), (cI, .int), (cJ, .long)]) [0, 1, 2] rfl
              exact W.iret (v := nI (sp (M k) j)) hx hb hr (fun t9 ht hW => ⟨⟨nI (sp (M k) j), th'_10, rfl, ⟨by rw [show x = j by omega], hth⟩, by rw [ht]; exact hP9, va_K.moved hW.alike hK9, hD9⟩, hS.F ht⟩) hS.2.2 dX8_select_75
            · have c_15 : ¬ x ≤ j := fun h9 => qc_15 ((nI_leI (a := x) (b := j) (by omega) (by omega)).mpr h9)
              refine lv_aload_n hx hb dX8_select_56 rfl (lv_at hl 3 rfl) ?_
              refine lv_iload_n hx hb dX8_select_57 rfl (lv_at hl 4 rfl) ?_
              refine lv_iload hx hb dX8_select_58 (lv_at hl 1 rfl) ?_
              refine lv_iconst (v := nI 1) hx hb dX8_select_60 (by decide +kernel) ?_
              have hspl := sp_lt' (M k) j
              refine lv_iadd hx hb dX8_select_61 ?_
              refine lv_cvi (nI_add _ _) ?_
              have hPc := hP.sub (ws' := [(q, .inr (7, [.ref mq, .ref zq, .ref sq, .ref bq, .ref cq, .long sm, .ref pq, .int ps, .int th'_10])), (mq, .inl (cZ, 12288, .inl fM)), (zq, .inl (cI, 3, .inl fS)), (sq, .inl (cI, 6156, .inl fP)), (bq, .inl (cI, 3, .inl fB)), (cq, .inl (cJ, 64, .inr (.inl fC))), (pq, .inl (cI, 8, .inl fT))]) [0, 1, 2, 3, 4, 5, 6] rfl
              have hKc := hK.sub (tys' := [(cZ, .boolean), (cI, .int), (cJ, .long)]) [0, 1, 2] rfl
              refine vp_callSi (W.runV (As := [.int (nI k), .int (nI ((sp (M k) j) + 1))]) (rest := []) ⟨hx, hb, hml, hown, hts⟩ (c_X8_above l dC dI q mq zq sq bq cq pq cZ cI cJ fM fS fP fB fC sm fT ps th'_10 M k ((sp (M k) j) + 1) (by first | assumption | omega) (by first | assumption | omega) (by first | assumption | omega)) (cwV 2 hts gX8_select_X8_above rfl rfl rfl (by decide +kernel) ⟨Nat.le_of_ble_eq_true rfl, Nat.le_of_ble_eq_true rfl⟩) ⟨fun a U g mk q => by obtain ⟨q0, qP, qK⟩ := q; exact ⟨q0, qP, va_K.moved (u := U) (U := U.calling g mk a) (Vm.Alike.refl U.vm) qK⟩, va_recv hKc hPc (ci := 7) (q0 := 0) rfl rfl, fun U hU hW => ⟨rfl, by rw [hU]; exact hPc, va_K.moved hW.alike hKc⟩⟩ rfl rfl hl.1 rfl (lv_room (Nat.le_of_ble_eq_true rfl)) dX8_select_62 ⟨Nat.le_of_ble_eq_true rfl, Nat.le_of_ble_eq_true rfl⟩) (fun r_17 hw_16 => ?_)
              subst hw_16
              refine lv_cvi (congrArg nI (sp_abv (by omega))) ?_
              refine lv_istore (lv' := [(4, .int (nI (sp (M k) (j + 1)))), (5, .int (nI j)), (3, .int (b2i true)), (0, .ref q), (1, .int (nI k)), (2, .int (nI x))]) hx hb dX8_select_65 hl (by decide) rfl (fun ls hl => ?_)
              refine lv_iinc (v := nI (j + 1)) (lv' := [(5, .int (nI (j + 1))), (4, .int (nI (sp (M k) (j + 1)))), (3, .int (b2i true)), (0, .ref q), (1, .int (nI k)), (2, .int (nI x))]) hx hb dX8_select_67 hl (k := 1) rfl (nI_1 _) (by decide) rfl (fun ls hl => ?_)
              refine lv_goto (tgt := 50) hx hb dX8_select_70 (by decide) ?_
              exact ih_50 (j + 1) (by omega) (by omega) ls (lv_sub hl [0, 1, 2, 3, 4, 5] rfl)
        exact key_50_14 _ 0 (Nat.zero_le _) (Nat.lt_succ_self _) ls (lv_sub hl [0, 1, 2, 3, 4, 5] rfl)
      · have c_11 : true = false := b2i_f qc_11
        cases c_11
set_option maxHeartbeats 4000000 in
set_option maxRecDepth 100000 in
/-- reference: c_X8_select_n -/
theorem c_X8_select_n (l : Launch) (dC : Nat → ClassId) (dI : Nat → Nat → Nat) (q : Nat) (mq : Nat) (zq : Nat) (sq : Nat) (bq : Nat) (cq : Nat) (pq : Nat) (cZ : ClassId) (cI : ClassId) (cJ : ClassId) (fM : Nat → Int32) (fS : Nat → Int32) (fP : Nat → Int32) (fB : Nat → Int32) (fC : Nat → Int64) (sm : Int64) (fT : Nat → Int32) (ps : Int32) (th : Int32) (M : Nat → Nat → Bool) (k : Nat) (w : Int32) (sz : Nat) (hZ : MZ fS M) (hk : k < 3) (hW : isP w (fb_ct (M k) 4096) = false) : Met l yX8_select wsX8_select ({ frames := 2, cells := 0, slots := 0, locals := 42 }) (va_Pc [.ref q, .int (nI k), .int w] (fun U => U.heap.size = sz ∧ va_P (dC, dI) vwCl [(q, .inr (7, [.ref mq, .ref zq, .ref sq, .ref bq, .ref cq, .long sm, .ref pq, .int ps, .int th])), (mq, .inl (cZ, 12288, .inl fM)), (zq, .inl (cI, 3, .inl fS)), (sq, .inl (cI, 6156, .inl fP)), (bq, .inl (cI, 3, .inl fB)), (cq, .inl (cJ, 64, .inr (.inl fC))), (pq, .inl (cI, 8, .inl fT))] U.heap ∧ va_K (dC, dI) vwCl [(cZ, .boolean), (cI, .int), (cJ, .long)] U ∧ va_D (fun _ => True) [(q, .inr (7, [.ref mq, .ref zq, .ref sq, .ref bq, .ref cq, .long sm, .ref pq, .int ps, .int th])), (mq, .inl (cZ, 12288, .inl fM)), (zq, .inl (cI, 3, .inl fS)), (sq, .inl (cI, 6156, .inl fP)), (bq, .inl (cI, 3, .inl fB)), (cq, .inl (cJ, 64, .inr (.inl fC))), (pq, .inl (cI, 8, .inl fT))])) (va_Qi (fun (r : Int32) (u : Int32) => u = nI 1) (fun (u : Int32) (t : State) => va_P (dC, dI) vwCl [(q, .inr (7, [.ref mq, .ref zq, .ref sq, .ref bq, .ref cq, .long sm, .ref pq, .int ps, .int u])), (mq, .inl (cZ, 12288, .inl fM)), (zq, .inl (cI, 3, .inl fS)), (sq, .inl (cI, 6156, .inl fP)), (bq, .inl (cI, 3, .inl fB)), (cq, .inl (cJ, 64, .inr (.inl fC))), (pq, .inl (cI, 8, .inl fT))] t.heap ∧ va_K (dC, dI) vwCl [(cZ, .boolean), (cI, .int), (cJ, .long)] t ∧ va_D (va_A [(q, .inr (7, [.ref mq, .ref zq, .ref sq, .ref bq, .ref cq, .long sm, .ref pq, .int ps, .int th])), (mq, .inl (cZ, 12288, .inl fM)), (zq, .inl (cI, 3, .inl fS)), (sq, .inl (cI, 6156, .inl fP)), (bq, .inl (cI, 3, .inl fB)), (cq, .inl (cJ, 64, .inr (.inl fC))), (pq, .inl (cI, 8, .inl fT))] sz) [(q, .inr (7, [.ref mq, .ref zq, .ref sq, .ref bq, .ref cq, .long sm, .ref pq, .int ps, .int u])), (mq, .inl (cZ, 12288, .inl fM)), (zq, .inl (cI, 3, .inl fS)), (sq, .inl (cI, 6156, .inl fP)), (bq, .inl (cI, 3, .inl fB)), (cq, .inl (cJ, 64, .inr (.inl fC))), (pq, .inl (cI, 8, .inl fT))]) (va_A [(q, .inr (7, [.ref mq, .ref zq, .ref sq, .ref bq, .ref cq, .long sm, .ref pq, .int ps, .int th])), (mq, .inl (cZ, 12288, .inl fM)), (zq, .inl (cI, 3, .inl fS)), (sq, .inl (cI, 6156, .inl fP)), (bq, .inl (cI, 3, .inl fB)), (cq, .inl (cJ, 64, .inr (.inl fC))), (pq, .inl (cI, 8, .inl fT))] sz)) 0 0 (va_A [(q, .inr (7, [.ref mq, .ref zq, .ref sq, .ref bq, .ref cq, .long sm, .ref pq, .int ps, .int th])), (mq, .inl (cZ, 12288, .inl fM)), (zq, .inl (cI, 3, .inl fS)), (sq, .inl (cI, 6156, .inl fP)), (bq, .inl (cI, 3, .inl fB)), (cq, .inl (cJ, 64, .inr (.inl fC))), (pq, .inl (cI, 8, .inl fT))] sz) := by
  refine Met.ofW (cc := cX8_select) (maxL := 6) (ret := (some .int)) (by decide) rfl ?_
  intro p e s m args below meth c s₁ B hml hv
  obtain ⟨rfl, hsz, hP, hK, hD0⟩ := hv
  have hx := B.exec
  have hb := B.bytes
  have hr := B.returns
  have hts := atoms_spec (ws := wsX8_select) B.pre
  have hown : s.vm.findClass RX8 = some m.cls := findClass_of_methodNamed B.named
  have hlocks := B.notSynchronized
  subst hsz
  have hD := hD0.self (sz := s.heap.size)
  generalize hAe : va_A [(q, .inr (7, [.ref mq, .ref zq, .ref sq, .ref bq, .ref cq, .long sm, .ref pq, .int ps, .int th])), (mq, .inl (cZ, 12288, .inl fM)), (zq, .inl (cI, 3, .inl fS)), (sq, .inl (cI, 6156, .inl fP)), (bq, .inl (cI, 3, .inl fB)), (cq, .inl (cJ, 64, .inr (.inl fC))), (pq, .inl (cI, 8, .inl fT))] s.heap.size = A at hD ⊢
  have hA : ∀ q : Nat, s.heap.size ≤ q → A q := fun q h => by rw [← hAe]; exact Or.inr h
  have hS : va_S A s.heap s.heap [] := va_S.rf
  have hP : va_P (dC, dI) vwCl [(q, .inr (7, [.ref mq, .ref zq, .ref sq, .ref bq, .ref cq, .long sm, .ref pq, .int ps, .int th])), (mq, .inl (cZ, 12288, .inl fM)), (zq, .inl (cI, 3, .inl fS)), (sq, .inl (cI, 6156, .inl fP)), (bq, .inl (cI, 3, .inl fB)), (cq, .inl (cJ, 64, .inr (.inl fC))), (pq, .inl (cI, 8, .inl fT))] s.heap := hP
  have hl := lv_entry ([.ref q, .int (nI k), .int w]) (n := 6) (Nat.le_of_ble_eq_true rfl)
  rw [lg_entry_eq]
  generalize (lg_sl ([.ref q, .int (nI k), .int w]) ++ List.replicate (6 - (lg_sl ([.ref q, .int (nI k), .int w])).length) Slot.unset).toArray = ls at hl ⊢
  have hl : lv_has ls 6 [(0, .ref q), (1, .int (nI k)), (2, .int w)] := hl
  refine lv_iload_n hx hb dX8_select_0 rfl (lv_at hl 1 rfl) ?_
  have hPc := hP.sub (ws' := []) [] rfl
  have hKc := hK.sub (tys' := []) [] rfl
  refine vp_callSi (W.runS (As := [.int (nI k)]) (rest := []) ⟨hx, hb, hml, hown, hts⟩ (c_X8_isSet l dC dI (nI k) ) (va_cwS 1 hts gX8_select_X8_isSet rfl rfl rfl (by decide +kernel) ⟨Nat.le_of_ble_eq_true rfl, Nat.le_of_ble_eq_true rfl⟩) ⟨fun a U g mk q => by obtain ⟨q0, qP, qK⟩ := q; exact ⟨q0, qP, va_K.moved (u := U) (U := U.calling g mk a) (Vm.Alike.refl U.vm) qK⟩, fun U hU hW => ⟨rfl, by rw [hU]; exact hPc, va_K.moved hW.alike hKc⟩⟩ rfl rfl hl.1 rfl (lv_room (Nat.le_of_ble_eq_true rfl)) dX8_select_1 ⟨Nat.le_of_ble_eq_true rfl, Nat.le_of_ble_eq_true rfl⟩) (fun r_2 hw_1 => ?_)
  subst hw_1
  refine lv_cvi (congrArg b2i (isS_t hk)) ?_
  refine lv_istore_n (lv' := [(3, .int (b2i true)), (0, .ref q), (1, .int (nI k)), (2, .int w)]) hx hb dX8_select_4 rfl hl (by decide) rfl (fun ls hl => ?_)
  refine lv_aload_n hx hb dX8_select_5 rfl (lv_at hl 1 rfl) ?_
  refine lv_iload_n hx hb dX8_select_6 rfl (lv_at hl 0 rfl) ?_
  refine lv_if_eq (tgt := 30) hx hb dX8_select_7 (by decide) (fun qc_3 => ?_) (fun qc_3 => ?_)
  · have c_3 : true = false := b2i_f qc_3
    cases c_3
  · have c_3 : true = true := b2i_t qc_3
    refine lv_iload_n hx hb dX8_select_10 rfl (lv_at hl 3 rfl) ?_
    refine lv_iconst (v := nI 0) hx hb dX8_select_11 (by decide +kernel) ?_
    refine lv_aload_n hx hb dX8_select_12 rfl (lv_at hl 1 rfl) ?_
    refine va_get (D := (dC, dI)) (ci := 7) (v := .ref zq) (C := RX8) (T := TX8) (N := 9) hx hb hts (by decide +kernel) hown hK hP 0 rfl rfl 1 (by decide) (hts (.fieldLink RX8 13 "SmallNumberSetsModel" "size" "[I") (by decide +kernel)) (fun _ h9 => h9) rfl dX8_select_13 ?_
    refine lv_iload_n hx hb dX8_select_16 rfl (lv_at hl 2 rfl) ?_
    refine va_iald hx hb hK hP 2 1 rfl rfl (vp_in_nI (by omega) (by omega)) dX8_select_17 ?_
    refine lv_cvi (congrArg fS (nI_clamp (by omega))) ?_
    refine lv_cvi (hZ k hk) ?_
    refine lv_iconst (v := nI 1) hx hb dX8_select_18 (by decide +kernel) ?_
    refine lv_isub hx hb dX8_select_19 ?_
    have hPc := hP.sub (ws' := []) [] rfl
    have hKc := hK.sub (tys' := []) [] rfl
    refine vp_callSi (W.runS (As := [.int w, .int (nI 0), .int ((nI (fb_ct (M k) 4096)) - (nI 1))]) (rest := [.ref q]) ⟨hx, hb, hml, hown, hts⟩ (c_X8_in l dC dI w (nI 0) ((nI (fb_ct (M k) 4096)) - (nI 1)) ) (va_cwS 3 hts gX8_select_X8_in rfl rfl rfl (by decide +kernel) ⟨Nat.le_of_ble_eq_true rfl, Nat.le_of_ble_eq_true rfl⟩) ⟨fun a U g mk q => by obtain ⟨q0, qP, qK⟩ := q; exact ⟨q0, qP, va_K.moved (u := U) (U := U.calling g mk a) (Vm.Alike.refl U.vm) qK⟩, fun U hU hW => ⟨rfl, by rw [hU]; exact hPc, va_K.moved hW.alike hKc⟩⟩ rfl rfl hl.1 rfl (lv_room (Nat.le_of_ble_eq_true rfl)) dX8_select_20 ⟨Nat.le_of_ble_eq_true rfl, Nat.le_of_ble_eq_true rfl⟩) (fun r_5 hw_4 => ?_)
    subst hw_4
    refine lv_cvi (congrArg b2i (hW)) ?_
    refine lv_if_eq (tgt := 30) hx hb dX8_select_23 (by decide) (fun qc_6 => ?_) (fun qc_6 => ?_)
    · have c_6 : false = false := b2i_f qc_6
      refine lv_iconst (v := nI 0) hx hb dX8_select_30 (by decide +kernel) ?_
      refine lv_cvi ((rfl : nI 0 = b2i false)) ?_
      have hPc := hP.sub (ws' := [(q, .inr (7, [.ref mq, .ref zq, .ref sq, .ref bq, .ref cq, .long sm, .ref pq, .int ps, .int th])), (mq, .inl (cZ, 12288, .inl fM)), (zq, .inl (cI, 3, .inl fS)), (sq, .inl (cI, 6156, .inl fP)), (bq, .inl (cI, 3, .inl fB)), (cq, .inl (cJ, 64, .inr (.inl fC))), (pq, .inl (cI, 8, .inl fT))]) [0, 1, 2, 3, 4, 5, 6] rfl
      have hKc := hK.sub (tys' := [(cZ, .boolean), (cI, .int), (cJ, .long)]) [0, 1, 2] rfl
      have hDc := hD.sub (ws' := [(q, .inr (7, [.ref mq, .ref zq, .ref sq, .ref bq, .ref cq, .long sm, .ref pq, .int ps, .int th])), (mq, .inl (cZ, 12288, .inl fM)), (zq, .inl (cI, 3, .inl fS)), (sq, .inl (cI, 6156, .inl fP)), (bq, .inl (cI, 3, .inl fB)), (cq, .inl (cJ, 64, .inr (.inl fC))), (pq, .inl (cI, 8, .inl fT))]) [0, 1, 2, 3, 4, 5, 6] (by decide) rfl
      have hFc := va_free (wc := [(q, .inr (7, [.ref mq, .ref zq, .ref sq, .ref bq, .ref cq, .long sm, .ref pq, .int ps, .int th])), (mq, .inl (cZ, 12288, .inl fM)), (zq, .inl (cI, 3, .inl fS)), (sq, .inl (cI, 6156, .inl fP)), (bq, .inl (cI, 3, .inl fB)), (cq, .inl (cJ, 64, .inr (.inl fC))), (pq, .inl (cI, 8, .inl fT))]) hD hS hA [0, 1, 2, 3, 4, 5, 6] rfl
      refine va_calli (va_runV (As := [.int (b2i false)]) (rest := []) ⟨hx, hb, hml, hown, hts⟩ (c_X8_asked l dC dI q mq zq sq bq cq pq cZ cI cJ fM fS fP fB fC sm fT ps th false s.heap.size ) (cwV 1 hts gX8_select_X8_asked rfl rfl rfl (by decide +kernel) ⟨Nat.le_of_ble_eq_true rfl, Nat.le_of_ble_eq_true rfl⟩) ⟨fun a U g mk q => by obtain ⟨q0, q1, qP, qK, qD⟩ := q; exact ⟨q0, q1, qP, va_K.moved (u := U) (U := U.calling g mk a) (Vm.Alike.refl U.vm) qK, qD⟩, va_recv hKc hPc (ci := 7) (q0 := 0) rfl rfl, fun U hU hW => ⟨rfl, by rw [hU], by rw [hU]; exact hPc, va_K.moved hW.alike hKc, hDc.weaken (fun _ _ _ _ => trivial)⟩⟩ rfl rfl hl.1 rfl (lv_room (Nat.le_of_ble_eq_true rfl)) dX8_select_31 ⟨Nat.le_of_ble_eq_true rfl, Nat.le_of_ble_eq_true rfl⟩) hS (fun q _ h => hFc q h) hFc (fun r_9 u_8 t9 H1 locs ht hvm hw_7 hB hz1 hk1 hS => ?_)
      obtain ⟨th'_10, rfl⟩ : ∃ z, z = u_8 := ⟨_, rfl⟩
      obtain ⟨hP1, hK1, hD1⟩ := hB
      rw [ht] at hP1
      have hK1 := va_K.moved hvm.symm hK1
      try dsimp only at hw_7 hP1 hK1 hD1
      obtain ⟨hP, hD⟩ := va_join (wr := []) (w1 := [(q, .inr (7, [.ref mq, .ref zq, .ref sq, .ref bq, .ref cq, .long sm, .ref pq, .int ps, .int th'_10])), (mq, .inl (cZ, 12288, .inl fM)), (zq, .inl (cI, 3, .inl fS)), (sq, .inl (cI, 6156, .inl fP)), (bq, .inl (cI, 3, .inl fB)), (cq, .inl (cJ, 64, .inr (.inl fC))), (pq, .inl (cI, 8, .inl fT))]) hP hD [0, 1, 2, 3, 4, 5, 6] [] rfl rfl (by decide) (by decide) hk1 hFc hP1 hD1
      generalize H1 = H at hP hS ⊢
      have hP : va_P (dC, dI) vwCl [(q, .inr (7, [.ref mq, .ref zq, .ref sq, .ref bq, .ref cq, .long sm, .ref pq, .int ps, .int th'_10])), (mq, .inl (cZ, 12288, .inl fM)), (zq, .inl (cI, 3, .inl fS)), (sq, .inl (cI, 6156, .inl fP)), (bq, .inl (cI, 3, .inl fB)), (cq, .inl (cJ, 64, .inr (.inl fC))), (pq, .inl (cI, 8, .inl fT))] H := hP
      have hD : va_D A [(q, .inr (7, [.ref mq, .ref zq, .ref sq, .ref bq, .ref cq, .long sm, .ref pq, .int ps, .int th'_10])), (mq, .inl (cZ, 12288, .inl fM)), (zq, .inl (cI, 3, .inl fS)), (sq, .inl (cI, 6156, .inl fP)), (bq, .inl (cI, 3, .inl fB)), (cq, .inl (cJ, 64, .inr (.inl fC))), (pq, .inl (cI, 8, .inl fT))] := hD
      obtain ⟨he, hw_7⟩ := hw_7
      subst he
      have hth := hw_7
      refine lv_if_ne (tgt := 39) hx hb dX8_select_34 (by decide) (fun qc_11 => ?_) (fun qc_11 => ?_)
      · have c_11 : false = true := b2i_t qc_11
        cases c_11
      · have c_11 : false = false := b2i_f qc_11
        refine lv_iconst (v := nI 0) hx hb dX8_select_37 (by decide +kernel) ?_
        have hP9 := hP.sub (ws' := [(q, .inr (7, [.ref mq, .ref zq, .ref sq, .ref bq, .ref cq, .long sm, .ref pq, .int ps, .int th'_10])), (mq, .inl (cZ, 12288, .inl fM)), (zq, .inl (cI, 3, .inl fS)), (sq, .inl (cI, 6156, .inl fP)), (bq, .inl (cI, 3, .inl fB)), (cq, .inl (cJ, 64, .inr (.inl fC))), (pq, .inl (cI, 8, .inl fT))]) [0, 1, 2, 3, 4, 5, 6] rfl
        have hD9 := hD.sub (ws' := [(q, .inr (7, [.ref mq, .ref zq, .ref sq, .ref bq, .ref cq, .long sm, .ref pq, .int ps, .int th'_10])), (mq, .inl (cZ, 12288, .inl fM)), (zq, .inl (cI, 3, .inl fS)), (sq, .inl (cI, 6156, .inl fP)), (bq, .inl (cI, 3, .inl fB)), (cq, .inl (cJ, 64, .inr (.inl fC))), (pq, .inl (cI, 8, .inl fT))]) [0, 1, 2, 3, 4, 5, 6] (by decide) rfl
        have hK9 := hK.sub (tys' := [(cZ, .boolean), (cI, .int), (cJ, .long)]) [0, 1, 2] rfl
        exact W.iret (v := nI 0) hx hb hr (fun t9 ht hW => ⟨⟨nI 0, th'_10, rfl, hth, by rw [ht]; exact hP9, va_K.moved hW.alike hK9, hD9⟩, hS.F ht⟩) hS.2.2 dX8_select_38
    · have c_6 : false = true := b2i_t qc_6
      cases c_6
set_option maxHeartbeats 4000000 in
set_option maxRecDepth 100000 in
/-- reference: c_X8_select_s -/
theorem c_X8_select_s (l : Launch) (dC : Nat → ClassId) (dI : Nat → Nat → Nat) (q : Nat) (mq : Nat) (zq : Nat) (sq : Nat) (bq : Nat) (cq : Nat) (pq : Nat) (cZ : ClassId) (cI : ClassId) (cJ : ClassId) (fM : Nat → Int32) (fS : Nat → Int32) (fP : Nat → Int32) (fB : Nat → Int32) (fC : Nat → Int64) (sm : Int64) (fT : Nat → Int32) (ps : Int32) (th : Int32) (v : Int32) (w : Int32) (sz : Nat) (hSf : isS v = false) : Met l yX8_select wsX8_select ({ frames := 2, cells := 0, slots := 0, locals := 42 }) (va_Pc [.ref q, .int v, .int w] (fun U => U.heap.size = sz ∧ va_P (dC, dI) vwCl [(q, .inr (7, [.ref mq, .ref zq, .ref sq, .ref bq, .ref cq, .long sm, .ref pq, .int ps, .int th])), (mq, .inl (cZ, 12288, .inl fM)), (zq, .inl (cI, 3, .inl fS)), (sq, .inl (cI, 6156, .inl fP)), (bq, .inl (cI, 3, .inl fB)), (cq, .inl (cJ, 64, .inr (.inl fC))), (pq, .inl (cI, 8, .inl fT))] U.heap ∧ va_K (dC, dI) vwCl [(cZ, .boolean), (cI, .int), (cJ, .long)] U ∧ va_D (fun _ => True) [(q, .inr (7, [.ref mq, .ref zq, .ref sq, .ref bq, .ref cq, .long sm, .ref pq, .int ps, .int th])), (mq, .inl (cZ, 12288, .inl fM)), (zq, .inl (cI, 3, .inl fS)), (sq, .inl (cI, 6156, .inl fP)), (bq, .inl (cI, 3, .inl fB)), (cq, .inl (cJ, 64, .inr (.inl fC))), (pq, .inl (cI, 8, .inl fT))])) (va_Qi (fun (r : Int32) (u : Int32) => u = nI 1) (fun (u : Int32) (t : State) => va_P (dC, dI) vwCl [(q, .inr (7, [.ref mq, .ref zq, .ref sq, .ref bq, .ref cq, .long sm, .ref pq, .int ps, .int u])), (mq, .inl (cZ, 12288, .inl fM)), (zq, .inl (cI, 3, .inl fS)), (sq, .inl (cI, 6156, .inl fP)), (bq, .inl (cI, 3, .inl fB)), (cq, .inl (cJ, 64, .inr (.inl fC))), (pq, .inl (cI, 8, .inl fT))] t.heap ∧ va_K (dC, dI) vwCl [(cZ, .boolean), (cI, .int), (cJ, .long)] t ∧ va_D (va_A [(q, .inr (7, [.ref mq, .ref zq, .ref sq, .ref bq, .ref cq, .long sm, .ref pq, .int ps, .int th])), (mq, .inl (cZ, 12288, .inl fM)), (zq, .inl (cI, 3, .inl fS)), (sq, .inl (cI, 6156, .inl fP)), (bq, .inl (cI, 3, .inl fB)), (cq, .inl (cJ, 64, .inr (.inl fC))), (pq, .inl (cI, 8, .inl fT))] sz) [(q, .inr (7, [.ref mq, .ref zq, .ref sq, .ref bq, .ref cq, .long sm, .ref pq, .int ps, .int u])), (mq, .inl (cZ, 12288, .inl fM)), (zq, .inl (cI, 3, .inl fS)), (sq, .inl (cI, 6156, .inl fP)), (bq, .inl (cI, 3, .inl fB)), (cq, .inl (cJ, 64, .inr (.inl fC))), (pq, .inl (cI, 8, .inl fT))]) (va_A [(q, .inr (7, [.ref mq, .ref zq, .ref sq, .ref bq, .ref cq, .long sm, .ref pq, .int ps, .int th])), (mq, .inl (cZ, 12288, .inl fM)), (zq, .inl (cI, 3, .inl fS)), (sq, .inl (cI, 6156, .inl fP)), (bq, .inl (cI, 3, .inl fB)), (cq, .inl (cJ, 64, .inr (.inl fC))), (pq, .inl (cI, 8, .inl fT))] sz)) 0 0 (va_A [(q, .inr (7, [.ref mq, .ref zq, .ref sq, .ref bq, .ref cq, .long sm, .ref pq, .int ps, .int th])), (mq, .inl (cZ, 12288, .inl fM)), (zq, .inl (cI, 3, .inl fS)), (sq, .inl (cI, 6156, .inl fP)), (bq, .inl (cI, 3, .inl fB)), (cq, .inl (cJ, 64, .inr (.inl fC))), (pq, .inl (cI, 8, .inl fT))] sz) := by
  refine Met.ofW (cc := cX8_select) (maxL := 6) (ret := (some .int)) (by decide) rfl ?_
  intro p e s m args below meth c s₁ B hml hv
  obtain ⟨rfl, hsz, hP, hK, hD0⟩ := hv
  have hx := B.exec
  have hb := B.bytes
  have hr := B.returns
  have hts := atoms_spec (ws := wsX8_select) B.pre
  have hown : s.vm.findClass RX8 = some m.cls := findClass_of_methodNamed B.named
  have hlocks := B.notSynchronized
  subst hsz
  have hD := hD0.self (sz := s.heap.size)
  generalize hAe : va_A [(q, .inr (7, [.ref mq, .ref zq, .ref sq, .ref bq, .ref cq, .long sm, .ref pq, .int ps, .int th])), (mq, .inl (cZ, 12288, .inl fM)), (zq, .inl (cI, 3, .inl fS)), (sq, .inl (cI, 6156, .inl fP)), (bq, .inl (cI, 3, .inl fB)), (cq, .inl (cJ, 64, .inr (.inl fC))), (pq, .inl (cI, 8, .inl fT))] s.heap.size = A at hD ⊢
  have hA : ∀ q : Nat, s.heap.size ≤ q → A q := fun q h => by rw [← hAe]; exact Or.inr h
  have hS : va_S A s.heap s.heap [] := va_S.rf
  have hP : va_P (dC, dI) vwCl [(q, .inr (7, [.ref mq, .ref zq, .ref sq, .ref bq, .ref cq, .long sm, .ref pq, .int ps, .int th])), (mq, .inl (cZ, 12288, .inl fM)), (zq, .inl (cI, 3, .inl fS)), (sq, .inl (cI, 6156, .inl fP)), (bq, .inl (cI, 3, .inl fB)), (cq, .inl (cJ, 64, .inr (.inl fC))), (pq, .inl (cI, 8, .inl fT))] s.heap := hP
  have hl := lv_entry ([.ref q, .int v, .int w]) (n := 6) (Nat.le_of_ble_eq_true rfl)
  rw [lg_entry_eq]
  generalize (lg_sl ([.ref q, .int v, .int w]) ++ List.replicate (6 - (lg_sl ([.ref q, .int v, .int w])).length) Slot.unset).toArray = ls at hl ⊢
  have hl : lv_has ls 6 [(0, .ref q), (1, .int v), (2, .int w)] := hl
  refine lv_iload_n hx hb dX8_select_0 rfl (lv_at hl 1 rfl) ?_
  have hPc := hP.sub (ws' := []) [] rfl
  have hKc := hK.sub (tys' := []) [] rfl
  refine vp_callSi (W.runS (As := [.int v]) (rest := []) ⟨hx, hb, hml, hown, hts⟩ (c_X8_isSet l dC dI v ) (va_cwS 1 hts gX8_select_X8_isSet rfl rfl rfl (by decide +kernel) ⟨Nat.le_of_ble_eq_true rfl, Nat.le_of_ble_eq_true rfl⟩) ⟨fun a U g mk q => by obtain ⟨q0, qP, qK⟩ := q; exact ⟨q0, qP, va_K.moved (u := U) (U := U.calling g mk a) (Vm.Alike.refl U.vm) qK⟩, fun U hU hW => ⟨rfl, by rw [hU]; exact hPc, va_K.moved hW.alike hKc⟩⟩ rfl rfl hl.1 rfl (lv_room (Nat.le_of_ble_eq_true rfl)) dX8_select_1 ⟨Nat.le_of_ble_eq_true rfl, Nat.le_of_ble_eq_true rfl⟩) (fun r_2 hw_1 => ?_)
  subst hw_1
  refine lv_cvi (congrArg b2i (hSf)) ?_
  refine lv_istore_n (lv' := [(3, .int (b2i false)), (0, .ref q), (1, .int v), (2, .int w)]) hx hb dX8_select_4 rfl hl (by decide) rfl (fun ls hl => ?_)
  refine lv_aload_n hx hb dX8_select_5 rfl (lv_at hl 1 rfl) ?_
  refine lv_iload_n hx hb dX8_select_6 rfl (lv_at hl 0 rfl) ?_
  refine lv_if_eq (tgt := 30) hx hb dX8_select_7 (by decide) (fun qc_3 => ?_) (fun qc_3 => ?_)
  · have c_3 : false = false := b2i_f qc_3
    refine lv_iconst (v := nI 0) hx hb dX8_select_30 (by decide +kernel) ?_
    refine lv_cvi ((rfl : nI 0 = b2i false)) ?_
    have hPc := hP.sub (ws' := [(q, .inr (7, [.ref mq, .ref zq, .ref sq, .ref bq, .ref cq, .long sm, .ref pq, .int ps, .int th])), (mq, .inl (cZ, 12288, .inl fM)), (zq, .inl (cI, 3, .inl fS)), (sq, .inl (cI, 6156, .inl fP)), (bq, .inl (cI, 3, .inl fB)), (cq, .inl (cJ, 64, .inr (.inl fC))), (pq, .inl (cI, 8, .inl fT))]) [0, 1, 2, 3, 4, 5, 6] rfl
    have hKc := hK.sub (tys' := [(cZ, .boolean), (cI, .int), (cJ, .long)]) [0, 1, 2] rfl
    have hDc := hD.sub (ws' := [(q, .inr (7, [.ref mq, .ref zq, .ref sq, .ref bq, .ref cq, .long sm, .ref pq, .int ps, .int th])), (mq, .inl (cZ, 12288, .inl fM)), (zq, .inl (cI, 3, .inl fS)), (sq, .inl (cI, 6156, .inl fP)), (bq, .inl (cI, 3, .inl fB)), (cq, .inl (cJ, 64, .inr (.inl fC))), (pq, .inl (cI, 8, .inl fT))]) [0, 1, 2, 3, 4, 5, 6] (by decide) rfl
    have hFc := va_free (wc := [(q, .inr (7, [.ref mq, .ref zq, .ref sq, .ref bq, .ref cq, .long sm, .ref pq, .int ps, .int th])), (mq, .inl (cZ, 12288, .inl fM)), (zq, .inl (cI, 3, .inl fS)), (sq, .inl (cI, 6156, .inl fP)), (bq, .inl (cI, 3, .inl fB)), (cq, .inl (cJ, 64, .inr (.inl fC))), (pq, .inl (cI, 8, .inl fT))]) hD hS hA [0, 1, 2, 3, 4, 5, 6] rfl
    refine va_calli (va_runV (As := [.int (b2i false)]) (rest := []) ⟨hx, hb, hml, hown, hts⟩ (c_X8_asked l dC dI q mq zq sq bq cq pq cZ cI cJ fM fS fP fB fC sm fT ps th false s.heap.size ) (cwV 1 hts gX8_select_X8_asked rfl rfl rfl (by decide +kernel) ⟨Nat.le_of_ble_eq_true rfl, Nat.le_of_ble_eq_true rfl⟩) ⟨fun a U g mk q => by obtain ⟨q0, q1, qP, qK, qD⟩ := q; exact ⟨q0, q1, qP, va_K.moved (u := U) (U := U.calling g mk a) (Vm.Alike.refl U.vm) qK, qD⟩, va_recv hKc hPc (ci := 7) (q0 := 0) rfl rfl, fun U hU hW => ⟨rfl, by rw [hU], by rw [hU]; exact hPc, va_K.moved hW.alike hKc, hDc.weaken (fun _ _ _ _ => trivial)⟩⟩ rfl rfl hl.1 rfl (lv_room (Nat.le_of_ble_eq_true rfl)) dX8_select_31 ⟨Nat.le_of_ble_eq_true rfl, Nat.le_of_ble_eq_true rfl⟩) hS (fun q _ h => hFc q h) hFc (fun r_6 u_5 t9 H1 locs ht hvm hw_4 hB hz1 hk1 hS => ?_)
    obtain ⟨th'_7, rfl⟩ : ∃ z, z = u_5 := ⟨_, rfl⟩
    obtain ⟨hP1, hK1, hD1⟩ := hB
    rw [ht] at hP1
    have hK1 := va_K.moved hvm.symm hK1
    try dsimp only at hw_4 hP1 hK1 hD1
    obtain ⟨hP, hD⟩ := va_join (wr := []) (w1 := [(q, .inr (7, [.ref mq, .ref zq, .ref sq, .ref bq, .ref cq, .long sm, .ref pq, .int ps, .int th'_7])), (mq, .inl (cZ, 12288, .inl fM)), (zq, .inl (cI, 3, .inl fS)), (sq, .inl (cI, 6156, .inl fP)), (bq, .inl (cI, 3, .inl fB)), (cq, .inl (cJ, 64, .inr (.inl fC))), (pq, .inl (cI, 8, .inl fT))]) hP hD [0, 1, 2, 3, 4, 5, 6] [] rfl rfl (by decide) (by decide) hk1 hFc hP1 hD1
    generalize H1 = H at hP hS ⊢
    have hP : va_P (dC, dI) vwCl [(q, .inr (7, [.ref mq, .ref zq, .ref sq, .ref bq, .ref cq, .long sm, .ref pq, .int ps, .int th'_7])), (mq, .inl (cZ, 12288, .inl fM)), (zq, .inl (cI, 3, .inl fS)), (sq, .inl (cI, 6156, .inl fP)), (bq, .inl (cI, 3, .inl fB)), (cq, .inl (cJ, 64, .inr (.inl fC))), (pq, .inl (cI, 8, .inl fT))] H := hP
    have hD : va_D A [(q, .inr (7, [.ref mq, .ref zq, .ref sq, .ref bq, .ref cq, .long sm, .ref pq, .int ps, .int th'_7])), (mq, .inl (cZ, 12288, .inl fM)), (zq, .inl (cI, 3, .inl fS)), (sq, .inl (cI, 6156, .inl fP)), (bq, .inl (cI, 3, .inl fB)), (cq, .inl (cJ, 64, .inr (.inl fC))), (pq, .inl (cI, 8, .inl fT))] := hD
    obtain ⟨he, hw_4⟩ := hw_4
    subst he
    have hth := hw_4
    refine lv_if_ne (tgt := 39) hx hb dX8_select_34 (by decide) (fun qc_8 => ?_) (fun qc_8 => ?_)
    · have c_8 : false = true := b2i_t qc_8
      cases c_8
    · have c_8 : false = false := b2i_f qc_8
      refine lv_iconst (v := nI 0) hx hb dX8_select_37 (by decide +kernel) ?_
      have hP9 := hP.sub (ws' := [(q, .inr (7, [.ref mq, .ref zq, .ref sq, .ref bq, .ref cq, .long sm, .ref pq, .int ps, .int th'_7])), (mq, .inl (cZ, 12288, .inl fM)), (zq, .inl (cI, 3, .inl fS)), (sq, .inl (cI, 6156, .inl fP)), (bq, .inl (cI, 3, .inl fB)), (cq, .inl (cJ, 64, .inr (.inl fC))), (pq, .inl (cI, 8, .inl fT))]) [0, 1, 2, 3, 4, 5, 6] rfl
      have hD9 := hD.sub (ws' := [(q, .inr (7, [.ref mq, .ref zq, .ref sq, .ref bq, .ref cq, .long sm, .ref pq, .int ps, .int th'_7])), (mq, .inl (cZ, 12288, .inl fM)), (zq, .inl (cI, 3, .inl fS)), (sq, .inl (cI, 6156, .inl fP)), (bq, .inl (cI, 3, .inl fB)), (cq, .inl (cJ, 64, .inr (.inl fC))), (pq, .inl (cI, 8, .inl fT))]) [0, 1, 2, 3, 4, 5, 6] (by decide) rfl
      have hK9 := hK.sub (tys' := [(cZ, .boolean), (cI, .int), (cJ, .long)]) [0, 1, 2] rfl
      exact W.iret (v := nI 0) hx hb hr (fun t9 ht hW => ⟨⟨nI 0, th'_7, rfl, hth, by rw [ht]; exact hP9, va_K.moved hW.alike hK9, hD9⟩, hS.F ht⟩) hS.2.2 dX8_select_38
  · have c_3 : false = true := b2i_t qc_3
    cases c_3
set_option maxHeartbeats 4000000 in
set_option maxRecDepth 100000 in
/-- reference: c_X8_isBucket_v -/
theorem c_X8_isBucket_v (l : Launch) (dC : Nat → ClassId) (dI : Nat → Nat → Nat) (q : Nat) (mq : Nat) (zq : Nat) (sq : Nat) (bq : Nat) (cq : Nat) (pq : Nat) (cZ : ClassId) (cI : ClassId) (cJ : ClassId) (fM : Nat → Int32) (fS : Nat → Int32) (fP : Nat → Int32) (fB : Nat → Int32) (fC : Nat → Int64) (sm : Int64) (fT : Nat → Int32) (ps : Int32) (th : Int32) (P : Nat → Nat → Bool) (k : Nat) (x : Nat) (sz : Nat) (hX : MX fP fB P) (hk : k < 3) (hxx : x < fb_ct (P k) 4096) : Met l yX8_isBucket wsX8_isBucket ({ frames := 2, cells := 0, slots := 0, locals := 42 }) (va_Pc [.ref q, .int (nI k), .int (nI x)] (fun U => U.heap.size = sz ∧ va_P (dC, dI) vwCl [(q, .inr (7, [.ref mq, .ref zq, .ref sq, .ref bq, .ref cq, .long sm, .ref pq, .int ps, .int th])), (mq, .inl (cZ, 12288, .inl fM)), (zq, .inl (cI, 3, .inl fS)), (sq, .inl (cI, 6156, .inl fP)), (bq, .inl (cI, 3, .inl fB)), (cq, .inl (cJ, 64, .inr (.inl fC))), (pq, .inl (cI, 8, .inl fT))] U.heap ∧ va_K (dC, dI) vwCl [(cZ, .boolean), (cI, .int), (cJ, .long)] U ∧ va_D (fun _ => True) [(q, .inr (7, [.ref mq, .ref zq, .ref sq, .ref bq, .ref cq, .long sm, .ref pq, .int ps, .int th])), (mq, .inl (cZ, 12288, .inl fM)), (zq, .inl (cI, 3, .inl fS)), (sq, .inl (cI, 6156, .inl fP)), (bq, .inl (cI, 3, .inl fB)), (cq, .inl (cJ, 64, .inr (.inl fC))), (pq, .inl (cI, 8, .inl fT))])) (va_Qi (fun (r : Int32) (u : Int32) => r = b2i true ∧ u = nI 0) (fun (u : Int32) (t : State) => va_P (dC, dI) vwCl [(q, .inr (7, [.ref mq, .ref zq, .ref sq, .ref bq, .ref cq, .long sm, .ref pq, .int ps, .int u])), (mq, .inl (cZ, 12288, .inl fM)), (zq, .inl (cI, 3, .inl fS)), (sq, .inl (cI, 6156, .inl fP)), (bq, .inl (cI, 3, .inl fB)), (cq, .inl (cJ, 64, .inr (.inl fC))), (pq, .inl (cI, 8, .inl fT))] t.heap ∧ va_K (dC, dI) vwCl [(cZ, .boolean), (cI, .int), (cJ, .long)] t ∧ va_D (va_A [(q, .inr (7, [.ref mq, .ref zq, .ref sq, .ref bq, .ref cq, .long sm, .ref pq, .int ps, .int th])), (mq, .inl (cZ, 12288, .inl fM)), (zq, .inl (cI, 3, .inl fS)), (sq, .inl (cI, 6156, .inl fP)), (bq, .inl (cI, 3, .inl fB)), (cq, .inl (cJ, 64, .inr (.inl fC))), (pq, .inl (cI, 8, .inl fT))] sz) [(q, .inr (7, [.ref mq, .ref zq, .ref sq, .ref bq, .ref cq, .long sm, .ref pq, .int ps, .int u])), (mq, .inl (cZ, 12288, .inl fM)), (zq, .inl (cI, 3, .inl fS)), (sq, .inl (cI, 6156, .inl fP)), (bq, .inl (cI, 3, .inl fB)), (cq, .inl (cJ, 64, .inr (.inl fC))), (pq, .inl (cI, 8, .inl fT))]) (va_A [(q, .inr (7, [.ref mq, .ref zq, .ref sq, .ref bq, .ref cq, .long sm, .ref pq, .int ps, .int th])), (mq, .inl (cZ, 12288, .inl fM)), (zq, .inl (cI, 3, .inl fS)), (sq, .inl (cI, 6156, .inl fP)), (bq, .inl (cI, 3, .inl fB)), (cq, .inl (cJ, 64, .inr (.inl fC))), (pq, .inl (cI, 8, .inl fT))] sz)) 0 0 (va_A [(q, .inr (7, [.ref mq, .ref zq, .ref sq, .ref bq, .ref cq, .long sm, .ref pq, .int ps, .int th])), (mq, .inl (cZ, 12288, .inl fM)), (zq, .inl (cI, 3, .inl fS)), (sq, .inl (cI, 6156, .inl fP)), (bq, .inl (cI, 3, .inl fB)), (cq, .inl (cJ, 64, .inr (.inl fC))), (pq, .inl (cI, 8, .inl fT))] sz) := by
  refine Met.ofW (cc := cX8_isBucket) (maxL := 4) (ret := (some .boolean)) (by decide) rfl ?_
  intro p e s m args below meth c s₁ B hml hv
  obtain ⟨rfl, hsz, hP, hK, hD0⟩ := hv
  have hx := B.exec
  have hb := B.bytes
  have hr := B.returns
  have hts := atoms_spec (ws := wsX8_isBucket) B.pre
  have hown : s.vm.findClass RX8 = some m.cls := findClass_of_methodNamed B.named
  have hlocks := B.notSynchronized
  subst hsz
  have hD := hD0.self (sz := s.heap.size)
  generalize hAe : va_A [(q, .inr (7, [.ref mq, .ref zq, .ref sq, .ref bq, .ref cq, .long sm, .ref pq, .int ps, .int th])), (mq, .inl (cZ, 12288, .inl fM)), (zq, .inl (cI, 3, .inl fS)), (sq, .inl (cI, 6156, .inl fP)), (bq, .inl (cI, 3, .inl fB)), (cq, .inl (cJ, 64, .inr (.inl fC))), (pq, .inl (cI, 8, .inl fT))] s.heap.size = A at hD ⊢
  have hA : ∀ q : Nat, s.heap.size ≤ q → A q := fun q h => by rw [← hAe]; exact Or.inr h
  have hS : va_S A s.heap s.heap [] := va_S.rf
  have hP : va_P (dC, dI) vwCl [(q, .inr (7, [.ref mq, .ref zq, .ref sq, .ref bq, .ref cq, .long sm, .ref pq, .int ps, .int th])), (mq, .inl (cZ, 12288, .inl fM)), (zq, .inl (cI, 3, .inl fS)), (sq, .inl (cI, 6156, .inl fP)), (bq, .inl (cI, 3, .inl fB)), (cq, .inl (cJ, 64, .inr (.inl fC))), (pq, .inl (cI, 8, .inl fT))] s.heap := hP
  have hl := lv_entry ([.ref q, .int (nI k), .int (nI x)]) (n := 4) (Nat.le_of_ble_eq_true rfl)
  rw [lg_entry_eq]
  generalize (lg_sl ([.ref q, .int (nI k), .int (nI x)]) ++ List.replicate (4 - (lg_sl ([.ref q, .int (nI k), .int (nI x)])).length) Slot.unset).toArray = ls at hl ⊢
  have hl : lv_has ls 4 [(0, .ref q), (1, .int (nI k)), (2, .int (nI x))] := hl
  have hcnt := (hX k hk).2.2.2
  refine lv_iload_n hx hb dX8_isBucket_0 rfl (lv_at hl 1 rfl) ?_
  have hPc := hP.sub (ws' := []) [] rfl
  have hKc := hK.sub (tys' := []) [] rfl
  refine vp_callSi (W.runS (As := [.int (nI k)]) (rest := []) ⟨hx, hb, hml, hown, hts⟩ (c_X8_isSet l dC dI (nI k) ) (va_cwS 1 hts gX8_isBucket_X8_isSet rfl rfl rfl (by decide +kernel) ⟨Nat.le_of_ble_eq_true rfl, Nat.le_of_ble_eq_true rfl⟩) ⟨fun a U g mk q => by obtain ⟨q0, qP, qK⟩ := q; exact ⟨q0, qP, va_K.moved (u := U) (U := U.calling g mk a) (Vm.Alike.refl U.vm) qK⟩, fun U hU hW => ⟨rfl, by rw [hU]; exact hPc, va_K.moved hW.alike hKc⟩⟩ rfl rfl hl.1 rfl (lv_room (Nat.le_of_ble_eq_true rfl)) dX8_isBucket_1 ⟨Nat.le_of_ble_eq_true rfl, Nat.le_of_ble_eq_true rfl⟩) (fun r_2 hw_1 => ?_)
  subst hw_1
  refine lv_cvi (congrArg b2i (isS_t hk)) ?_
  refine lv_istore_n (lv' := [(3, .int (b2i true)), (0, .ref q), (1, .int (nI k)), (2, .int (nI x))]) hx hb dX8_isBucket_4 rfl hl (by decide) rfl (fun ls hl => ?_)
  refine lv_aload_n hx hb dX8_isBucket_5 rfl (lv_at hl 1 rfl) ?_
  refine lv_iload_n hx hb dX8_isBucket_6 rfl (lv_at hl 0 rfl) ?_
  refine lv_if_eq (tgt := 30) hx hb dX8_isBucket_7 (by decide) (fun qc_3 => ?_) (fun qc_3 => ?_)
  · have c_3 : true = false := b2i_f qc_3
    cases c_3
  · have c_3 : true = true := b2i_t qc_3
    refine lv_iload_n hx hb dX8_isBucket_10 rfl (lv_at hl 3 rfl) ?_
    refine lv_iconst (v := nI 0) hx hb dX8_isBucket_11 (by decide +kernel) ?_
    refine lv_aload_n hx hb dX8_isBucket_12 rfl (lv_at hl 1 rfl) ?_
    refine va_get (D := (dC, dI)) (ci := 7) (v := .ref bq) (C := RX8) (T := TX8) (N := 9) hx hb hts (by decide +kernel) hown hK hP 0 rfl rfl 3 (by decide) (hts (.fieldLink RX8 20 "SmallNumberSetsModel" "buckets" "[I") (by decide +kernel)) (fun _ h9 => h9) rfl dX8_isBucket_13 ?_
    refine lv_iload_n hx hb dX8_isBucket_16 rfl (lv_at hl 2 rfl) ?_
    refine va_iald hx hb hK hP 4 1 rfl rfl (vp_in_nI (by omega) (by omega)) dX8_isBucket_17 ?_
    refine lv_cvi (congrArg fB (nI_clamp (by omega))) ?_
    refine lv_cvi ((hX k hk).1) ?_
    refine lv_iconst (v := nI 1) hx hb dX8_isBucket_18 (by decide +kernel) ?_
    refine lv_isub hx hb dX8_isBucket_19 ?_
    have hPc := hP.sub (ws' := []) [] rfl
    have hKc := hK.sub (tys' := []) [] rfl
    refine vp_callSi (W.runS (As := [.int (nI x), .int (nI 0), .int ((nI (fb_ct (P k) 4096)) - (nI 1))]) (rest := [.ref q]) ⟨hx, hb, hml, hown, hts⟩ (c_X8_in l dC dI (nI x) (nI 0) ((nI (fb_ct (P k) 4096)) - (nI 1)) ) (va_cwS 3 hts gX8_isBucket_X8_in rfl rfl rfl (by decide +kernel) ⟨Nat.le_of_ble_eq_true rfl, Nat.le_of_ble_eq_true rfl⟩) ⟨fun a U g mk q => by obtain ⟨q0, qP, qK⟩ := q; exact ⟨q0, qP, va_K.moved (u := U) (U := U.calling g mk a) (Vm.Alike.refl U.vm) qK⟩, fun U hU hW => ⟨rfl, by rw [hU]; exact hPc, va_K.moved hW.alike hKc⟩⟩ rfl rfl hl.1 rfl (lv_room (Nat.le_of_ble_eq_true rfl)) dX8_isBucket_20 ⟨Nat.le_of_ble_eq_true rfl, Nat.le_of_ble_eq_true rfl⟩) (fun r_5 hw_4 => ?_)
    subst hw_4
    refine lv_cvi (congrArg b2i (isP_t hxx (by omega))) ?_
    refine lv_if_eq (tgt := 30) hx hb dX8_isBucket_23 (by decide) (fun qc_6 => ?_) (fun qc_6 => ?_)
    · have c_6 : true = false := b2i_f qc_6
      cases c_6
    · have c_6 : true = true := b2i_t qc_6
      refine lv_iconst (v := nI 1) hx hb dX8_isBucket_26 (by decide +kernel) ?_
      refine lv_goto (tgt := 31) hx hb dX8_isBucket_27 (by decide) ?_
      refine lv_cvi ((rfl : nI 1 = b2i true)) ?_
      have hPc := hP.sub (ws' := [(q, .inr (7, [.ref mq, .ref zq, .ref sq, .ref bq, .ref cq, .long sm, .ref pq, .int ps, .int th])), (mq, .inl (cZ, 12288, .inl fM)), (zq, .inl (cI, 3, .inl fS)), (sq, .inl (cI, 6156, .inl fP)), (bq, .inl (cI, 3, .inl fB)), (cq, .inl (cJ, 64, .inr (.inl fC))), (pq, .inl (cI, 8, .inl fT))]) [0, 1, 2, 3, 4, 5, 6] rfl
      have hKc := hK.sub (tys' := [(cZ, .boolean), (cI, .int), (cJ, .long)]) [0, 1, 2] rfl
      have hDc := hD.sub (ws' := [(q, .inr (7, [.ref mq, .ref zq, .ref sq, .ref bq, .ref cq, .long sm, .ref pq, .int ps, .int th])), (mq, .inl (cZ, 12288, .inl fM)), (zq, .inl (cI, 3, .inl fS)), (sq, .inl (cI, 6156, .inl fP)), (bq, .inl (cI, 3, .inl fB)), (cq, .inl (cJ, 64, .inr (.inl fC))), (pq, .inl (cI, 8, .inl fT))]) [0, 1, 2, 3, 4, 5, 6] (by decide) rfl
      have hFc := va_free (wc := [(q, .inr (7, [.ref mq, .ref zq, .ref sq, .ref bq, .ref cq, .long sm, .ref pq, .int ps, .int th])), (mq, .inl (cZ, 12288, .inl fM)), (zq, .inl (cI, 3, .inl fS)), (sq, .inl (cI, 6156, .inl fP)), (bq, .inl (cI, 3, .inl fB)), (cq, .inl (cJ, 64, .inr (.inl fC))), (pq, .inl (cI, 8, .inl fT))]) hD hS hA [0, 1, 2, 3, 4, 5, 6] rfl
      refine va_calli (va_runV (As := [.int (b2i true)]) (rest := []) ⟨hx, hb, hml, hown, hts⟩ (c_X8_asked l dC dI q mq zq sq bq cq pq cZ cI cJ fM fS fP fB fC sm fT ps th true s.heap.size ) (cwV 1 hts gX8_isBucket_X8_asked rfl rfl rfl (by decide +kernel) ⟨Nat.le_of_ble_eq_true rfl, Nat.le_of_ble_eq_true rfl⟩) ⟨fun a U g mk q => by obtain ⟨q0, q1, qP, qK, qD⟩ := q; exact ⟨q0, q1, qP, va_K.moved (u := U) (U := U.calling g mk a) (Vm.Alike.refl U.vm) qK, qD⟩, va_recv hKc hPc (ci := 7) (q0 := 0) rfl rfl, fun U hU hW => ⟨rfl, by rw [hU], by rw [hU]; exact hPc, va_K.moved hW.alike hKc, hDc.weaken (fun _ _ _ _ => trivial)⟩⟩ rfl rfl hl.1 rfl (lv_room (Nat.le_of_ble_eq_true rfl)) dX8_isBucket_31 ⟨Nat.le_of_ble_eq_true rfl, Nat.le_of_ble_eq_true rfl⟩) hS (fun q _ h => hFc q h) hFc (fun r_9 u_8 t9 H1 locs ht hvm hw_7 hB hz1 hk1 hS => ?_)
      obtain ⟨th'_10, rfl⟩ : ∃ z, z = u_8 := ⟨_, rfl⟩
      obtain ⟨hP1, hK1, hD1⟩ := hB
      rw [ht] at hP1
      have hK1 := va_K.moved hvm.symm hK1
      try dsimp only at hw_7 hP1 hK1 hD1
      obtain ⟨hP, hD⟩ := va_join (wr := []) (w1 := [(q, .inr (7, [.ref mq, .ref zq, .ref sq, .ref bq, .ref cq, .long sm, .ref pq, .int ps, .int th'_10])), (mq, .inl (cZ, 12288, .inl fM)), (zq, .inl (cI, 3, .inl fS)), (sq, .inl (cI, 6156, .inl fP)), (bq, .inl (cI, 3, .inl fB)), (cq, .inl (cJ, 64, .inr (.inl fC))), (pq, .inl (cI, 8, .inl fT))]) hP hD [0, 1, 2, 3, 4, 5, 6] [] rfl rfl (by decide) (by decide) hk1 hFc hP1 hD1
      generalize H1 = H at hP hS ⊢
      have hP : va_P (dC, dI) vwCl [(q, .inr (7, [.ref mq, .ref zq, .ref sq, .ref bq, .ref cq, .long sm, .ref pq, .int ps, .int th'_10])), (mq, .inl (cZ, 12288, .inl fM)), (zq, .inl (cI, 3, .inl fS)), (sq, .inl (cI, 6156, .inl fP)), (bq, .inl (cI, 3, .inl fB)), (cq, .inl (cJ, 64, .inr (.inl fC))), (pq, .inl (cI, 8, .inl fT))] H := hP
      have hD : va_D A [(q, .inr (7, [.ref mq, .ref zq, .ref sq, .ref bq, .ref cq, .long sm, .ref pq, .int ps, .int th'_10])), (mq, .inl (cZ, 12288, .inl fM)), (zq, .inl (cI, 3, .inl fS)), (sq, .inl (cI, 6156, .inl fP)), (bq, .inl (cI, 3, .inl fB)), (cq, .inl (cJ, 64, .inr (.inl fC))), (pq, .inl (cI, 8, .inl fT))] := hD
      obtain ⟨he, hw_7⟩ := hw_7
      subst he
      have hth := hw_7
      have hP9 := hP.sub (ws' := [(q, .inr (7, [.ref mq, .ref zq, .ref sq, .ref bq, .ref cq, .long sm, .ref pq, .int ps, .int th'_10])), (mq, .inl (cZ, 12288, .inl fM)), (zq, .inl (cI, 3, .inl fS)), (sq, .inl (cI, 6156, .inl fP)), (bq, .inl (cI, 3, .inl fB)), (cq, .inl (cJ, 64, .inr (.inl fC))), (pq, .inl (cI, 8, .inl fT))]) [0, 1, 2, 3, 4, 5, 6] rfl
      have hD9 := hD.sub (ws' := [(q, .inr (7, [.ref mq, .ref zq, .ref sq, .ref bq, .ref cq, .long sm, .ref pq, .int ps, .int th'_10])), (mq, .inl (cZ, 12288, .inl fM)), (zq, .inl (cI, 3, .inl fS)), (sq, .inl (cI, 6156, .inl fP)), (bq, .inl (cI, 3, .inl fB)), (cq, .inl (cJ, 64, .inr (.inl fC))), (pq, .inl (cI, 8, .inl fT))]) [0, 1, 2, 3, 4, 5, 6] (by decide) rfl
      have hK9 := hK.sub (tys' := [(cZ, .boolean), (cI, .int), (cJ, .long)]) [0, 1, 2] rfl
      exact W.zret (v := b2i true) hx hb hr (b2i_nar _) (fun t9 ht hW => ⟨⟨b2i true, th'_10, rfl, ⟨rfl, hth⟩, by rw [ht]; exact hP9, va_K.moved hW.alike hK9, hD9⟩, hS.F ht⟩) hS.2.2 dX8_isBucket_34
set_option maxHeartbeats 4000000 in
set_option maxRecDepth 100000 in
/-- reference: c_X8_isBucket_n -/
theorem c_X8_isBucket_n (l : Launch) (dC : Nat → ClassId) (dI : Nat → Nat → Nat) (q : Nat) (mq : Nat) (zq : Nat) (sq : Nat) (bq : Nat) (cq : Nat) (pq : Nat) (cZ : ClassId) (cI : ClassId) (cJ : ClassId) (fM : Nat → Int32) (fS : Nat → Int32) (fP : Nat → Int32) (fB : Nat → Int32) (fC : Nat → Int64) (sm : Int64) (fT : Nat → Int32) (ps : Int32) (th : Int32) (P : Nat → Nat → Bool) (k : Nat) (w : Int32) (sz : Nat) (hX : MX fP fB P) (hk : k < 3) (hW : isP w (fb_ct (P k) 4096) = false) : Met l yX8_isBucket wsX8_isBucket ({ frames := 2, cells := 0, slots := 0, locals := 42 }) (va_Pc [.ref q, .int (nI k), .int w] (fun U => U.heap.size = sz ∧ va_P (dC, dI) vwCl [(q, .inr (7, [.ref mq, .ref zq, .ref sq, .ref bq, .ref cq, .long sm, .ref pq, .int ps, .int th])), (mq, .inl (cZ, 12288, .inl fM)), (zq, .inl (cI, 3, .inl fS)), (sq, .inl (cI, 6156, .inl fP)), (bq, .inl (cI, 3, .inl fB)), (cq, .inl (cJ, 64, .inr (.inl fC))), (pq, .inl (cI, 8, .inl fT))] U.heap ∧ va_K (dC, dI) vwCl [(cZ, .boolean), (cI, .int), (cJ, .long)] U ∧ va_D (fun _ => True) [(q, .inr (7, [.ref mq, .ref zq, .ref sq, .ref bq, .ref cq, .long sm, .ref pq, .int ps, .int th])), (mq, .inl (cZ, 12288, .inl fM)), (zq, .inl (cI, 3, .inl fS)), (sq, .inl (cI, 6156, .inl fP)), (bq, .inl (cI, 3, .inl fB)), (cq, .inl (cJ, 64, .inr (.inl fC))), (pq, .inl (cI, 8, .inl fT))])) (va_Qi (fun (r : Int32) (u : Int32) => r = b2i false ∧ u = nI 1) (fun (u : Int32) (t : State) => va_P (dC, dI) vwCl [(q, .inr (7, [.ref mq, .ref zq, .ref sq, .ref bq, .ref cq, .long sm, .ref pq, .int ps, .int u])), (mq, .inl (cZ, 12288, .inl fM)), (zq, .inl (cI, 3, .inl fS)), (sq, .inl (cI, 6156, .inl fP)), (bq, .inl (cI, 3, .inl fB)), (cq, .inl (cJ, 64, .inr (.inl fC))), (pq, .inl (cI, 8, .inl fT))] t.heap ∧ va_K (dC, dI) vwCl [(cZ, .boolean), (cI, .int), (cJ, .long)] t ∧ va_D (va_A [(q, .inr (7, [.ref mq, .ref zq, .ref sq, .ref bq, .ref cq, .long sm, .ref pq, .int ps, .int th])), (mq, .inl (cZ, 12288, .inl fM)), (zq, .inl (cI, 3, .inl fS)), (sq, .inl (cI, 6156, .inl fP)), (bq, .inl (cI, 3, .inl fB)), (cq, .inl (cJ, 64, .inr (.inl fC))), (pq, .inl (cI, 8, .inl fT))] sz) [(q, .inr (7, [.ref mq, .ref zq, .ref sq, .ref bq, .ref cq, .long sm, .ref pq, .int ps, .int u])), (mq, .inl (cZ, 12288, .inl fM)), (zq, .inl (cI, 3, .inl fS)), (sq, .inl (cI, 6156, .inl fP)), (bq, .inl (cI, 3, .inl fB)), (cq, .inl (cJ, 64, .inr (.inl fC))), (pq, .inl (cI, 8, .inl fT))]) (va_A [(q, .inr (7, [.ref mq, .ref zq, .ref sq, .ref bq, .ref cq, .long sm, .ref pq, .int ps, .int th])), (mq, .inl (cZ, 12288, .inl fM)), (zq, .inl (cI, 3, .inl fS)), (sq, .inl (cI, 6156, .inl fP)), (bq, .inl (cI, 3, .inl fB)), (cq, .inl (cJ, 64, .inr (.inl fC))), (pq, .inl (cI, 8, .inl fT))] sz)) 0 0 (va_A [(q, .inr (7, [.ref mq, .ref zq, .ref sq, .ref bq, .ref cq, .long sm, .ref pq, .int ps, .int th])), (mq, .inl (cZ, 12288, .inl fM)), (zq, .inl (cI, 3, .inl fS)), (sq, .inl (cI, 6156, .inl fP)), (bq, .inl (cI, 3, .inl fB)), (cq, .inl (cJ, 64, .inr (.inl fC))), (pq, .inl (cI, 8, .inl fT))] sz) := by
  refine Met.ofW (cc := cX8_isBucket) (maxL := 4) (ret := (some .boolean)) (by decide) rfl ?_
  intro p e s m args below meth c s₁ B hml hv
  obtain ⟨rfl, hsz, hP, hK, hD0⟩ := hv
  have hx := B.exec
  have hb := B.bytes
  have hr := B.returns
  have hts := atoms_spec (ws := wsX8_isBucket) B.pre
  have hown : s.vm.findClass RX8 = some m.cls := findClass_of_methodNamed B.named
  have hlocks := B.notSynchronized
  subst hsz
  have hD := hD0.self (sz := s.heap.size)
  generalize hAe : va_A [(q, .inr (7, [.ref mq, .ref zq, .ref sq, .ref bq, .ref cq, .long sm, .ref pq, .int ps, .int th])), (mq, .inl (cZ, 12288, .inl fM)), (zq, .inl (cI, 3, .inl fS)), (sq, .inl (cI, 6156, .inl fP)), (bq, .inl (cI, 3, .inl fB)), (cq, .inl (cJ, 64, .inr (.inl fC))), (pq, .inl (cI, 8, .inl fT))] s.heap.size = A at hD ⊢
  have hA : ∀ q : Nat, s.heap.size ≤ q → A q := fun q h => by rw [← hAe]; exact Or.inr h
  have hS : va_S A s.heap s.heap [] := va_S.rf
  have hP : va_P (dC, dI) vwCl [(q, .inr (7, [.ref mq, .ref zq, .ref sq, .ref bq, .ref cq, .long sm, .ref pq, .int ps, .int th])), (mq, .inl (cZ, 12288, .inl fM)), (zq, .inl (cI, 3, .inl fS)), (sq, .inl (cI, 6156, .inl fP)), (bq, .inl (cI, 3, .inl fB)), (cq, .inl (cJ, 64, .inr (.inl fC))), (pq, .inl (cI, 8, .inl fT))] s.heap := hP
  have hl := lv_entry ([.ref q, .int (nI k), .int w]) (n := 4) (Nat.le_of_ble_eq_true rfl)
  rw [lg_entry_eq]
  generalize (lg_sl ([.ref q, .int (nI k), .int w]) ++ List.replicate (4 - (lg_sl ([.ref q, .int (nI k), .int w])).length) Slot.unset).toArray = ls at hl ⊢
  have hl : lv_has ls 4 [(0, .ref q), (1, .int (nI k)), (2, .int w)] := hl
  refine lv_iload_n hx hb dX8_isBucket_0 rfl (lv_at hl 1 rfl) ?_
  have hPc := hP.sub (ws' := []) [] rfl
  have hKc := hK.sub (tys' := []) [] rfl
  refine vp_callSi (W.runS (As := [.int (nI k)]) (rest := []) ⟨hx, hb, hml, hown, hts⟩ (c_X8_isSet l dC dI (nI k) ) (va_cwS 1 hts gX8_isBucket_X8_isSet rfl rfl rfl (by decide +kernel) ⟨Nat.le_of_ble_eq_true rfl, Nat.le_of_ble_eq_true rfl⟩) ⟨fun a U g mk q => by obtain ⟨q0, qP, qK⟩ := q; exact ⟨q0, qP, va_K.moved (u := U) (U := U.calling g mk a) (Vm.Alike.refl U.vm) qK⟩, fun U hU hW => ⟨rfl, by rw [hU]; exact hPc, va_K.moved hW.alike hKc⟩⟩ rfl rfl hl.1 rfl (lv_room (Nat.le_of_ble_eq_true rfl)) dX8_isBucket_1 ⟨Nat.le_of_ble_eq_true rfl, Nat.le_of_ble_eq_true rfl⟩) (fun r_2 hw_1 => ?_)
  subst hw_1
  refine lv_cvi (congrArg b2i (isS_t hk)) ?_
  refine lv_istore_n (lv' := [(3, .int (b2i true)), (0, .ref q), (1, .int (nI k)), (2, .int w)]) hx hb dX8_isBucket_4 rfl hl (by decide) rfl (fun ls hl => ?_)
  refine lv_aload_n hx hb dX8_isBucket_5 rfl (lv_at hl 1 rfl) ?_
  refine lv_iload_n hx hb dX8_isBucket_6 rfl (lv_at hl 0 rfl) ?_
  refine lv_if_eq (tgt := 30) hx hb dX8_isBucket_7 (by decide) (fun qc_3 => ?_) (fun qc_3 => ?_)
  · have c_3 : true = false := b2i_f qc_3
    cases c_3
  · have c_3 : true = true := b2i_t qc_3
    refine lv_iload_n hx hb dX8_isBucket_10 rfl (lv_at hl 3 rfl) ?_
    refine lv_iconst (v := nI 0) hx hb dX8_isBucket_11 (by decide +kernel) ?_
    refine lv_aload_n hx hb dX8_isBucket_12 rfl (lv_at hl 1 rfl) ?_
    refine va_get (D := (dC, dI)) (ci := 7) (v := .ref bq) (C := RX8) (T := TX8) (N := 9) hx hb hts (by decide +kernel) hown hK hP 0 rfl rfl 3 (by decide) (hts (.fieldLink RX8 20 "SmallNumberSetsModel" "buckets" "[I") (by decide +kernel)) (fun _ h9 => h9) rfl dX8_isBucket_13 ?_
    refine lv_iload_n hx hb dX8_isBucket_16 rfl (lv_at hl 2 rfl) ?_
    refine va_iald hx hb hK hP 4 1 rfl rfl (vp_in_nI (by omega) (by omega)) dX8_isBucket_17 ?_
    refine lv_cvi (congrArg fB (nI_clamp (by omega))) ?_
    refine lv_cvi ((hX k hk).1) ?_
    refine lv_iconst (v := nI 1) hx hb dX8_isBucket_18 (by decide +kernel) ?_
    refine lv_isub hx hb dX8_isBucket_19 ?_
    have hPc := hP.sub (ws' := []) [] rfl
    have hKc := hK.sub (tys' := []) [] rfl
    refine vp_callSi (W.runS (As := [.int w, .int (nI 0), .int ((nI (fb_ct (P k) 4096)) - (nI 1))]) (rest := [.ref q]) ⟨hx, hb, hml, hown, hts⟩ (c_X8_in l dC dI w (nI 0) ((nI (fb_ct (P k) 4096)) - (nI 1)) ) (va_cwS 3 hts gX8_isBucket_X8_in rfl rfl rfl (by decide +kernel) ⟨Nat.le_of_ble_eq_true rfl, Nat.le_of_ble_eq_true rfl⟩) ⟨fun a U g mk q => by obtain ⟨q0, qP, qK⟩ := q; exact ⟨q0, qP, va_K.moved (u := U) (U := U.calling g mk a) (Vm.Alike.refl U.vm) qK⟩, fun U hU hW => ⟨rfl, by rw [hU]; exact hPc, va_K.moved hW.alike hKc⟩⟩ rfl rfl hl.1 rfl (lv_room (Nat.le_of_ble_eq_true rfl)) dX8_isBucket_20 ⟨Nat.le_of_ble_eq_true rfl, Nat.le_of_ble_eq_true rfl⟩) (fun r_5 hw_4 => ?_)
    subst hw_4
    refine lv_cvi (congrArg b2i (hW)) ?_
    refine lv_if_eq (tgt := 30) hx hb dX8_isBucket_23 (by decide) (fun qc_6 => ?_) (fun qc_6 => ?_)
    · have c_6 : false = false := b2i_f qc_6
      refine lv_iconst (v := nI 0) hx hb dX8_isBucket_30 (by decide +kernel) ?_
      refine lv_cvi ((rfl : nI 0 = b2i false)) ?_
      have hPc := hP.sub (ws' := [(q, .inr (7, [.ref mq, .ref zq, .ref sq, .ref bq, .ref cq, .long sm, .ref pq, .int ps, .int th])), (mq, .inl (cZ, 12288, .inl fM)), (zq, .inl (cI, 3, .inl fS)), (sq, .inl (cI, 6156, .inl fP)), (bq, .inl (cI, 3, .inl fB)), (cq, .inl (cJ, 64, .inr (.inl fC))), (pq, .inl (cI, 8, .inl fT))]) [0, 1, 2, 3, 4, 5, 6] rfl
      have hKc := hK.sub (tys' := [(cZ, .boolean), (cI, .int), (cJ, .long)]) [0, 1, 2] rfl
      have hDc := hD.sub (ws' := [(q, .inr (7, [.ref mq, .ref zq, .ref sq, .ref bq, .ref cq, .long sm, .ref pq, .int ps, .int th])), (mq, .inl (cZ, 12288, .inl fM)), (zq, .inl (cI, 3, .inl fS)), (sq, .inl (cI, 6156, .inl fP)), (bq, .inl (cI, 3, .inl fB)), (cq, .inl (cJ, 64, .inr (.inl fC))), (pq, .inl (cI, 8, .inl fT))]) [0, 1, 2, 3, 4, 5, 6] (by decide) rfl
      have hFc := va_free (wc := [(q, .inr (7, [.ref mq, .ref zq, .ref sq, .ref bq, .ref cq, .long sm, .ref pq, .int ps, .int th])), (mq, .inl (cZ, 12288, .inl fM)), (zq, .inl (cI, 3, .inl fS)), (sq, .inl (cI, 6156, .inl fP)), (bq, .inl (cI, 3, .inl fB)), (cq, .inl (cJ, 64, .inr (.inl fC))), (pq, .inl (cI, 8, .inl fT))]) hD hS hA [0, 1, 2, 3, 4, 5, 6] rfl
      refine va_calli (va_runV (As := [.int (b2i false)]) (rest := []) ⟨hx, hb, hml, hown, hts⟩ (c_X8_asked l dC dI q mq zq sq bq cq pq cZ cI cJ fM fS fP fB fC sm fT ps th false s.heap.size ) (cwV 1 hts gX8_isBucket_X8_asked rfl rfl rfl (by decide +kernel) ⟨Nat.le_of_ble_eq_true rfl, Nat.le_of_ble_eq_true rfl⟩) ⟨fun a U g mk q => by obtain ⟨q0, q1, qP, qK, qD⟩ := q; exact ⟨q0, q1, qP, va_K.moved (u := U) (U := U.calling g mk a) (Vm.Alike.refl U.vm) qK, qD⟩, va_recv hKc hPc (ci := 7) (q0 := 0) rfl rfl, fun U hU hW => ⟨rfl, by rw [hU], by rw [hU]; exact hPc, va_K.moved hW.alike hKc, hDc.weaken (fun _ _ _ _ => trivial)⟩⟩ rfl rfl hl.1 rfl (lv_room (Nat.le_of_ble_eq_true rfl)) dX8_isBucket_31 ⟨Nat.le_of_ble_eq_true rfl, Nat.le_of_ble_eq_true rfl⟩) hS (fun q _ h => hFc q h) hFc (fun r_9 u_8 t9 H1 locs ht hvm hw_7 hB hz1 hk1 hS => ?_)
      obtain ⟨th'_10, rfl⟩ : ∃ z, z = u_8 := ⟨_, rfl⟩
      obtain ⟨hP1, hK1, hD1⟩ := hB
      rw [ht] at hP1
      have hK1 := va_K.moved hvm.symm hK1
      try dsimp only at hw_7 hP1 hK1 hD1
      obtain ⟨hP, hD⟩ := va_join (wr := []) (w1 := [(q, .inr (7, [.ref mq, .ref zq, .ref sq, .ref bq, .ref cq, .long sm, .ref pq, .int ps, .int th'_10])), (mq, .inl (cZ, 12288, .inl fM)), (zq, .inl (cI, 3, .inl fS)), (sq, .inl (cI, 6156, .inl fP)), (bq, .inl (cI, 3, .inl fB)), (cq, .inl (cJ, 64, .inr (.inl fC))), (pq, .inl (cI, 8, .inl fT))]) hP hD [0, 1, 2, 3, 4, 5, 6] [] rfl rfl (by decide) (by decide) hk1 hFc hP1 hD1
      generalize H1 = H at hP hS ⊢
      have hP : va_P (dC, dI) vwCl [(q, .inr (7, [.ref mq, .ref zq, .ref sq, .ref bq, .ref cq, .long sm, .ref pq, .int ps, .int th'_10])), (mq, .inl (cZ, 12288, .inl fM)), (zq, .inl (cI, 3, .inl fS)), (sq, .inl (cI, 6156, .inl fP)), (bq, .inl (cI, 3, .inl fB)), (cq, .inl (cJ, 64, .inr (.inl fC))), (pq, .inl (cI, 8, .inl fT))] H := hP
      have hD : va_D A [(q, .inr (7, [.ref mq, .ref zq, .ref sq, .ref bq, .ref cq, .long sm, .ref pq, .int ps, .int th'_10])), (mq, .inl (cZ, 12288, .inl fM)), (zq, .inl (cI, 3, .inl fS)), (sq, .inl (cI, 6156, .inl fP)), (bq, .inl (cI, 3, .inl fB)), (cq, .inl (cJ, 64, .inr (.inl fC))), (pq, .inl (cI, 8, .inl fT))] := hD
      obtain ⟨he, hw_7⟩ := hw_7
      subst he
      have hth := hw_7
      have hP9 := hP.sub (ws' := [(q, .inr (7, [.ref mq, .ref zq, .ref sq, .ref bq, .ref cq, .long sm, .ref pq, .int ps, .int th'_10])), (mq, .inl (cZ, 12288, .inl fM)), (zq, .inl (cI, 3, .inl fS)), (sq, .inl (cI, 6156, .inl fP)), (bq, .inl (cI, 3, .inl fB)), (cq, .inl (cJ, 64, .inr (.inl fC))), (pq, .inl (cI, 8, .inl fT))]) [0, 1, 2, 3, 4, 5, 6] rfl
      have hD9 := hD.sub (ws' := [(q, .inr (7, [.ref mq, .ref zq, .ref sq, .ref bq, .ref cq, .long sm, .ref pq, .int ps, .int th'_10])), (mq, .inl (cZ, 12288, .inl fM)), (zq, .inl (cI, 3, .inl fS)), (sq, .inl (cI, 6156, .inl fP)), (bq, .inl (cI, 3, .inl fB)), (cq, .inl (cJ, 64, .inr (.inl fC))), (pq, .inl (cI, 8, .inl fT))]) [0, 1, 2, 3, 4, 5, 6] (by decide) rfl
      have hK9 := hK.sub (tys' := [(cZ, .boolean), (cI, .int), (cJ, .long)]) [0, 1, 2] rfl
      exact W.zret (v := b2i false) hx hb hr (b2i_nar _) (fun t9 ht hW => ⟨⟨b2i false, th'_10, rfl, ⟨rfl, hth⟩, by rw [ht]; exact hP9, va_K.moved hW.alike hK9, hD9⟩, hS.F ht⟩) hS.2.2 dX8_isBucket_34
    · have c_6 : false = true := b2i_t qc_6
      cases c_6
set_option maxHeartbeats 4000000 in
set_option maxRecDepth 100000 in
/-- reference: c_X8_isBucket_s -/
theorem c_X8_isBucket_s (l : Launch) (dC : Nat → ClassId) (dI : Nat → Nat → Nat) (q : Nat) (mq : Nat) (zq : Nat) (sq : Nat) (bq : Nat) (cq : Nat) (pq : Nat) (cZ : ClassId) (cI : ClassId) (cJ : ClassId) (fM : Nat → Int32) (fS : Nat → Int32) (fP : Nat → Int32) (fB : Nat → Int32) (fC : Nat → Int64) (sm : Int64) (fT : Nat → Int32) (ps : Int32) (th : Int32) (v : Int32) (w : Int32) (sz : Nat) (hSf : isS v = false) : Met l yX8_isBucket wsX8_isBucket ({ frames := 2, cells := 0, slots := 0, locals := 42 }) (va_Pc [.ref q, .int v, .int w] (fun U => U.heap.size = sz ∧ va_P (dC, dI) vwCl [(q, .inr (7, [.ref mq, .ref zq, .ref sq, .ref bq, .ref cq, .long sm, .ref pq, .int ps, .int th])), (mq, .inl (cZ, 12288, .inl fM)), (zq, .inl (cI, 3, .inl fS)), (sq, .inl (cI, 6156, .inl fP)), (bq, .inl (cI, 3, .inl fB)), (cq, .inl (cJ, 64, .inr (.inl fC))), (pq, .inl (cI, 8, .inl fT))] U.heap ∧ va_K (dC, dI) vwCl [(cZ, .boolean), (cI, .int), (cJ, .long)] U ∧ va_D (fun _ => True) [(q, .inr (7, [.ref mq, .ref zq, .ref sq, .ref bq, .ref cq, .long sm, .ref pq, .int ps, .int th])), (mq, .inl (cZ, 12288, .inl fM)), (zq, .inl (cI, 3, .inl fS)), (sq, .inl (cI, 6156, .inl fP)), (bq, .inl (cI, 3, .inl fB)), (cq, .inl (cJ, 64, .inr (.inl fC))), (pq, .inl (cI, 8, .inl fT))])) (va_Qi (fun (r : Int32) (u : Int32) => r = b2i false ∧ u = nI 1) (fun (u : Int32) (t : State) => va_P (dC, dI) vwCl [(q, .inr (7, [.ref mq, .ref zq, .ref sq, .ref bq, .ref cq, .long sm, .ref pq, .int ps, .int u])), (mq, .inl (cZ, 12288, .inl fM)), (zq, .inl (cI, 3, .inl fS)), (sq, .inl (cI, 6156, .inl fP)), (bq, .inl (cI, 3, .inl fB)), (cq, .inl (cJ, 64, .inr (.inl fC))), (pq, .inl (cI, 8, .inl fT))] t.heap ∧ va_K (dC, dI) vwCl [(cZ, .boolean), (cI, .int), (cJ, .long)] t ∧ va_D (va_A [(q, .inr (7, [.ref mq, .ref zq, .ref sq, .ref bq, .ref cq, .long sm, .ref pq, .int ps, .int th])), (mq, .inl (cZ, 12288, .inl fM)), (zq, .inl (cI, 3, .inl fS)), (sq, .inl (cI, 6156, .inl fP)), (bq, .inl (cI, 3, .inl fB)), (cq, .inl (cJ, 64, .inr (.inl fC))), (pq, .inl (cI, 8, .inl fT))] sz) [(q, .inr (7, [.ref mq, .ref zq, .ref sq, .ref bq, .ref cq, .long sm, .ref pq, .int ps, .int u])), (mq, .inl (cZ, 12288, .inl fM)), (zq, .inl (cI, 3, .inl fS)), (sq, .inl (cI, 6156, .inl fP)), (bq, .inl (cI, 3, .inl fB)), (cq, .inl (cJ, 64, .inr (.inl fC))), (pq, .inl (cI, 8, .inl fT))]) (va_A [(q, .inr (7, [.ref mq, .ref zq, .ref sq, .ref bq, .ref cq, .long sm, .ref pq, .int ps, .int th])), (mq, .inl (cZ, 12288, .inl fM)), (zq, .inl (cI, 3, .inl fS)), (sq, .inl (cI, 6156, .inl fP)), (bq, .inl (cI, 3, .inl fB)), (cq, .inl (cJ, 64, .inr (.inl fC))), (pq, .inl (cI, 8, .inl fT))] sz)) 0 0 (va_A [(q, .inr (7, [.ref mq, .ref zq, .ref sq, .ref bq, .ref cq, .long sm, .ref pq, .int ps, .int th])), (mq, .inl (cZ, 12288, .inl fM)), (zq, .inl (cI, 3, .inl fS)), (sq, .inl (cI, 6156, .inl fP)), (bq, .inl (cI, 3, .inl fB)), (cq, .inl (cJ, 64, .inr (.inl fC))), (pq, .inl (cI, 8, .inl fT))] sz) := by
  refine Met.ofW (cc := cX8_isBucket) (maxL := 4) (ret := (some .boolean)) (by decide) rfl ?_
  intro p e s m args below meth c s₁ B hml hv
  obtain ⟨rfl, hsz, hP, hK, hD0⟩ := hv
  have hx := B.exec
  have hb := B.bytes
  have hr := B.returns
  have hts := atoms_spec (ws := wsX8_isBucket) B.pre
  have hown : s.vm.findClass RX8 = some m.cls := findClass_of_methodNamed B.named
  have hlocks := B.notSynchronized
  subst hsz
  have hD := hD0.self (sz := s.heap.size)
  generalize hAe : va_A [(q, .inr (7, [.ref mq, .ref zq, .ref sq, .ref bq, .ref cq, .long sm, .ref pq, .int ps, .int th])), (mq, .inl (cZ, 12288, .inl fM)), (zq, .inl (cI, 3, .inl fS)), (sq, .inl (cI, 6156, .inl fP)), (bq, .inl (cI, 3, .inl fB)), (cq, .inl (cJ, 64, .inr (.inl fC))), (pq, .inl (cI, 8, .inl fT))] s.heap.size = A at hD ⊢
  have hA : ∀ q : Nat, s.heap.size ≤ q → A q := fun q h => by rw [← hAe]; exact Or.inr h
  have hS : va_S A s.heap s.heap [] := va_S.rf
  have hP : va_P (dC, dI) vwCl [(q, .inr (7, [.ref mq, .ref zq, .ref sq, .ref bq, .ref cq, .long sm, .ref pq, .int ps, .int th])), (mq, .inl (cZ, 12288, .inl fM)), (zq, .inl (cI, 3, .inl fS)), (sq, .inl (cI, 6156, .inl fP)), (bq, .inl (cI, 3, .inl fB)), (cq, .inl (cJ, 64, .inr (.inl fC))), (pq, .inl (cI, 8, .inl fT))] s.heap := hP
  have hl := lv_entry ([.ref q, .int v, .int w]) (n := 4) (Nat.le_of_ble_eq_true rfl)
  rw [lg_entry_eq]
  generalize (lg_sl ([.ref q, .int v, .int w]) ++ List.replicate (4 - (lg_sl ([.ref q, .int v, .int w])).length) Slot.unset).toArray = ls at hl ⊢
  have hl : lv_has ls 4 [(0, .ref q), (1, .int v), (2, .int w)] := hl
  refine lv_iload_n hx hb dX8_isBucket_0 rfl (lv_at hl 1 rfl) ?_
  have hPc := hP.sub (ws' := []) [] rfl
  have hKc := hK.sub (tys' := []) [] rfl
  refine vp_callSi (W.runS (As := [.int v]) (rest := []) ⟨hx, hb, hml, hown, hts⟩ (c_X8_isSet l dC dI v ) (va_cwS 1 hts gX8_isBucket_X8_isSet rfl rfl rfl (by decide +kernel) ⟨Nat.le_of_ble_eq_true rfl, Nat.le_of_ble_eq_true rfl⟩) ⟨fun a U g mk q => by obtain ⟨q0, qP, qK⟩ := q; exact ⟨q0, qP, va_K.moved (u := U) (U := U.calling g mk a) (Vm.Alike.refl U.vm) qK⟩, fun U hU hW => ⟨rfl, by rw [hU]; exact hPc, va_K.moved hW.alike hKc⟩⟩ rfl rfl hl.1 rfl (lv_room (Nat.le_of_ble_eq_true rfl)) dX8_isBucket_1 ⟨Nat.le_of_ble_eq_true rfl, Nat.le_of_ble_eq_true rfl⟩) (fun r_2 hw_1 => ?_)
  subst hw_1
  refine lv_cvi (congrArg b2i (hSf)) ?_
  refine lv_istore_n (lv' := [(3, .int (b2i false)), (0, .ref q), (1, .int v), (2, .int w)]) hx hb dX8_isBucket_4 rfl hl (by decide) rfl (fun ls hl => ?_)
  refine lv_aload_n hx hb dX8_isBucket_5 rfl (lv_at hl 1 rfl) ?_
  refine lv_iload_n hx hb dX8_isBucket_6 rfl (lv_at hl 0 rfl) ?_
  refine lv_if_eq (tgt := 30) hx hb dX8_isBucket_7 (by decide) (fun qc_3 => ?_) (fun qc_3 => ?_)
  · have c_3 : false = false := b2i_f qc_3
    refine lv_iconst (v := nI 0) hx hb dX8_isBucket_30 (by decide +kernel) ?_
    refine lv_cvi ((rfl : nI 0 = b2i false)) ?_
    have hPc := hP.sub (ws' := [(q, .inr (7, [.ref mq, .ref zq, .ref sq, .ref bq, .ref cq, .long sm, .ref pq, .int ps, .int th])), (mq, .inl (cZ, 12288, .inl fM)), (zq, .inl (cI, 3, .inl fS)), (sq, .inl (cI, 6156, .inl fP)), (bq, .inl (cI, 3, .inl fB)), (cq, .inl (cJ, 64, .inr (.inl fC))), (pq, .inl (cI, 8, .inl fT))]) [0, 1, 2, 3, 4, 5, 6] rfl
    have hKc := hK.sub (tys' := [(cZ, .boolean), (cI, .int), (cJ, .long)]) [0, 1, 2] rfl
    have hDc := hD.sub (ws' := [(q, .inr (7, [.ref mq, .ref zq, .ref sq, .ref bq, .ref cq, .long sm, .ref pq, .int ps, .int th])), (mq, .inl (cZ, 12288, .inl fM)), (zq, .inl (cI, 3, .inl fS)), (sq, .inl (cI, 6156, .inl fP)), (bq, .inl (cI, 3, .inl fB)), (cq, .inl (cJ, 64, .inr (.inl fC))), (pq, .inl (cI, 8, .inl fT))]) [0, 1, 2, 3, 4, 5, 6] (by decide) rfl
    have hFc := va_free (wc := [(q, .inr (7, [.ref mq, .ref zq, .ref sq, .ref bq, .ref cq, .long sm, .ref pq, .int ps, .int th])), (mq, .inl (cZ, 12288, .inl fM)), (zq, .inl (cI, 3, .inl fS)), (sq, .inl (cI, 6156, .inl fP)), (bq, .inl (cI, 3, .inl fB)), (cq, .inl (cJ, 64, .inr (.inl fC))), (pq, .inl (cI, 8, .inl fT))]) hD hS hA [0, 1, 2, 3, 4, 5, 6] rfl
    refine va_calli (va_runV (As := [.int (b2i false)]) (rest := []) ⟨hx, hb, hml, hown, hts⟩ (c_X8_asked l dC dI q mq zq sq bq cq pq cZ cI cJ fM fS fP fB fC sm fT ps th false s.heap.size ) (cwV 1 hts gX8_isBucket_X8_asked rfl rfl rfl (by decide +kernel) ⟨Nat.le_of_ble_eq_true rfl, Nat.le_of_ble_eq_true rfl⟩) ⟨fun a U g mk q => by obtain ⟨q0, q1, qP, qK, qD⟩ := q; exact ⟨q0, q1, qP, va_K.moved (u := U) (U := U.calling g mk a) (Vm.Alike.refl U.vm) qK, qD⟩, va_recv hKc hPc (ci := 7) (q0 := 0) rfl rfl, fun U hU hW => ⟨rfl, by rw [hU], by rw [hU]; exact hPc, va_K.moved hW.alike hKc, hDc.weaken (fun _ _ _ _ => trivial)⟩⟩ rfl rfl hl.1 rfl (lv_room (Nat.le_of_ble_eq_true rfl)) dX8_isBucket_31 ⟨Nat.le_of_ble_eq_true rfl, Nat.le_of_ble_eq_true rfl⟩) hS (fun q _ h => hFc q h) hFc (fun r_6 u_5 t9 H1 locs ht hvm hw_4 hB hz1 hk1 hS => ?_)
    obtain ⟨th'_7, rfl⟩ : ∃ z, z = u_5 := ⟨_, rfl⟩
    obtain ⟨hP1, hK1, hD1⟩ := hB
    rw [ht] at hP1
    have hK1 := va_K.moved hvm.symm hK1
    try dsimp only at hw_4 hP1 hK1 hD1
    obtain ⟨hP, hD⟩ := va_join (wr := []) (w1 := [(q, .inr (7, [.ref mq, .ref zq, .ref sq, .ref bq, .ref cq, .long sm, .ref pq, .int ps, .int th'_7])), (mq, .inl (cZ, 12288, .inl fM)), (zq, .inl (cI, 3, .inl fS)), (sq, .inl (cI, 6156, .inl fP)), (bq, .inl (cI, 3, .inl fB)), (cq, .inl (cJ, 64, .inr (.inl fC))), (pq, .inl (cI, 8, .inl fT))]) hP hD [0, 1, 2, 3, 4, 5, 6] [] rfl rfl (by decide) (by decide) hk1 hFc hP1 hD1
    generalize H1 = H at hP hS ⊢
    have hP : va_P (dC, dI) vwCl [(q, .inr (7, [.ref mq, .ref zq, .ref sq, .ref bq, .ref cq, .long sm, .ref pq, .int ps, .int th'_7])), (mq, .inl (cZ, 12288, .inl fM)), (zq, .inl (cI, 3, .inl fS)), (sq, .inl (cI, 6156, .inl fP)), (bq, .inl (cI, 3, .inl fB)), (cq, .inl (cJ, 64, .inr (.inl fC))), (pq, .inl (cI, 8, .inl fT))] H := hP
    have hD : va_D A [(q, .inr (7, [.ref mq, .ref zq, .ref sq, .ref bq, .ref cq, .long sm, .ref pq, .int ps, .int th'_7])), (mq, .inl (cZ, 12288, .inl fM)), (zq, .inl (cI, 3, .inl fS)), (sq, .inl (cI, 6156, .inl fP)), (bq, .inl (cI, 3, .inl fB)), (cq, .inl (cJ, 64, .inr (.inl fC))), (pq, .inl (cI, 8, .inl fT))] := hD
    obtain ⟨he, hw_4⟩ := hw_4
    subst he
    have hth := hw_4
    have hP9 := hP.sub (ws' := [(q, .inr (7, [.ref mq, .ref zq, .ref sq, .ref bq, .ref cq, .long sm, .ref pq, .int ps, .int th'_7])), (mq, .inl (cZ, 12288, .inl fM)), (zq, .inl (cI, 3, .inl fS)), (sq, .inl (cI, 6156, .inl fP)), (bq, .inl (cI, 3, .inl fB)), (cq, .inl (cJ, 64, .inr (.inl fC))), (pq, .inl (cI, 8, .inl fT))]) [0, 1, 2, 3, 4, 5, 6] rfl
    have hD9 := hD.sub (ws' := [(q, .inr (7, [.ref mq, .ref zq, .ref sq, .ref bq, .ref cq, .long sm, .ref pq, .int ps, .int th'_7])), (mq, .inl (cZ, 12288, .inl fM)), (zq, .inl (cI, 3, .inl fS)), (sq, .inl (cI, 6156, .inl fP)), (bq, .inl (cI, 3, .inl fB)), (cq, .inl (cJ, 64, .inr (.inl fC))), (pq, .inl (cI, 8, .inl fT))]) [0, 1, 2, 3, 4, 5, 6] (by decide) rfl
    have hK9 := hK.sub (tys' := [(cZ, .boolean), (cI, .int), (cJ, .long)]) [0, 1, 2] rfl
    exact W.zret (v := b2i false) hx hb hr (b2i_nar _) (fun t9 ht hW => ⟨⟨b2i false, th'_7, rfl, ⟨rfl, hth⟩, by rw [ht]; exact hP9, va_K.moved hW.alike hK9, hD9⟩, hS.F ht⟩) hS.2.2 dX8_isBucket_34
  · have c_3 : false = true := b2i_t qc_3
    cases c_3
set_option maxHeartbeats 4000000 in
set_option maxRecDepth 100000 in
/-- reference: c_X8_separator_v -/
theorem c_X8_separator_v (l : Launch) (dC : Nat → ClassId) (dI : Nat → Nat → Nat) (q : Nat) (mq : Nat) (zq : Nat) (sq : Nat) (bq : Nat) (cq : Nat) (pq : Nat) (cZ : ClassId) (cI : ClassId) (cJ : ClassId) (fM : Nat → Int32) (fS : Nat → Int32) (fP : Nat → Int32) (fB : Nat → Int32) (fC : Nat → Int64) (sm : Int64) (fT : Nat → Int32) (ps : Int32) (th : Int32) (P : Nat → Nat → Bool) (k : Nat) (x : Nat) (sz : Nat) (hX : MX fP fB P) (hk : k < 3) (hxx : x < fb_ct (P k) 4096) : Met l yX8_separator wsX8_separator ({ frames := 3, cells := 0, slots := 0, locals := 65 }) (va_Pc [.ref q, .int (nI k), .int (nI x)] (fun U => U.heap.size = sz ∧ va_P (dC, dI) vwCl [(q, .inr (7, [.ref mq, .ref zq, .ref sq, .ref bq, .ref cq, .long sm, .ref pq, .int ps, .int th])), (mq, .inl (cZ, 12288, .inl fM)), (zq, .inl (cI, 3, .inl fS)), (sq, .inl (cI, 6156, .inl fP)), (bq, .inl (cI, 3, .inl fB)), (cq, .inl (cJ, 64, .inr (.inl fC))), (pq, .inl (cI, 8, .inl fT))] U.heap ∧ va_K (dC, dI) vwCl [(cZ, .boolean), (cI, .int), (cJ, .long)] U ∧ va_D (fun _ => True) [(q, .inr (7, [.ref mq, .ref zq, .ref sq, .ref bq, .ref cq, .long sm, .ref pq, .int ps, .int th])), (mq, .inl (cZ, 12288, .inl fM)), (zq, .inl (cI, 3, .inl fS)), (sq, .inl (cI, 6156, .inl fP)), (bq, .inl (cI, 3, .inl fB)), (cq, .inl (cJ, 64, .inr (.inl fC))), (pq, .inl (cI, 8, .inl fT))])) (va_Qi (fun (r : Int32) (u : Int32) => r = nI (sp (P k) x) ∧ u = nI 0) (fun (u : Int32) (t : State) => va_P (dC, dI) vwCl [(q, .inr (7, [.ref mq, .ref zq, .ref sq, .ref bq, .ref cq, .long sm, .ref pq, .int ps, .int u])), (mq, .inl (cZ, 12288, .inl fM)), (zq, .inl (cI, 3, .inl fS)), (sq, .inl (cI, 6156, .inl fP)), (bq, .inl (cI, 3, .inl fB)), (cq, .inl (cJ, 64, .inr (.inl fC))), (pq, .inl (cI, 8, .inl fT))] t.heap ∧ va_K (dC, dI) vwCl [(cZ, .boolean), (cI, .int), (cJ, .long)] t ∧ va_D (va_A [(q, .inr (7, [.ref mq, .ref zq, .ref sq, .ref bq, .ref cq, .long sm, .ref pq, .int ps, .int th])), (mq, .inl (cZ, 12288, .inl fM)), (zq, .inl (cI, 3, .inl fS)), (sq, .inl (cI, 6156, .inl fP)), (bq, .inl (cI, 3, .inl fB)), (cq, .inl (cJ, 64, .inr (.inl fC))), (pq, .inl (cI, 8, .inl fT))] sz) [(q, .inr (7, [.ref mq, .ref zq, .ref sq, .ref bq, .ref cq, .long sm, .ref pq, .int ps, .int u])), (mq, .inl (cZ, 12288, .inl fM)), (zq, .inl (cI, 3, .inl fS)), (sq, .inl (cI, 6156, .inl fP)), (bq, .inl (cI, 3, .inl fB)), (cq, .inl (cJ, 64, .inr (.inl fC))), (pq, .inl (cI, 8, .inl fT))]) (va_A [(q, .inr (7, [.ref mq, .ref zq, .ref sq, .ref bq, .ref cq, .long sm, .ref pq, .int ps, .int th])), (mq, .inl (cZ, 12288, .inl fM)), (zq, .inl (cI, 3, .inl fS)), (sq, .inl (cI, 6156, .inl fP)), (bq, .inl (cI, 3, .inl fB)), (cq, .inl (cJ, 64, .inr (.inl fC))), (pq, .inl (cI, 8, .inl fT))] sz)) 0 0 (va_A [(q, .inr (7, [.ref mq, .ref zq, .ref sq, .ref bq, .ref cq, .long sm, .ref pq, .int ps, .int th])), (mq, .inl (cZ, 12288, .inl fM)), (zq, .inl (cI, 3, .inl fS)), (sq, .inl (cI, 6156, .inl fP)), (bq, .inl (cI, 3, .inl fB)), (cq, .inl (cJ, 64, .inr (.inl fC))), (pq, .inl (cI, 8, .inl fT))] sz) := by
  refine Met.ofW (cc := cX8_separator) (maxL := 3) (ret := (some .int)) (by decide) rfl ?_
  intro p e s m args below meth c s₁ B hml hv
  obtain ⟨rfl, hsz, hP, hK, hD0⟩ := hv
  have hx := B.exec
  have hb := B.bytes
  have hr := B.returns
  have hts := atoms_spec (ws := wsX8_separator) B.pre
  have hown : s.vm.findClass RX8 = some m.cls := findClass_of_methodNamed B.named
  have hlocks := B.notSynchronized
  subst hsz
  have hD := hD0.self (sz := s.heap.size)
  generalize hAe : va_A [(q, .inr (7, [.ref mq, .ref zq, .ref sq, .ref bq, .ref cq, .long sm, .ref pq, .int ps, .int th])), (mq, .inl (cZ, 12288, .inl fM)), (zq, .inl (cI, 3, .inl fS)), (sq, .inl (cI, 6156, .inl fP)), (bq, .inl (cI, 3, .inl fB)), (cq, .inl (cJ, 64, .inr (.inl fC))), (pq, .inl (cI, 8, .inl fT))] s.heap.size = A at hD ⊢
  have hA : ∀ q : Nat, s.heap.size ≤ q → A q := fun q h => by rw [← hAe]; exact Or.inr h
  have hS : va_S A s.heap s.heap [] := va_S.rf
  have hP : va_P (dC, dI) vwCl [(q, .inr (7, [.ref mq, .ref zq, .ref sq, .ref bq, .ref cq, .long sm, .ref pq, .int ps, .int th])), (mq, .inl (cZ, 12288, .inl fM)), (zq, .inl (cI, 3, .inl fS)), (sq, .inl (cI, 6156, .inl fP)), (bq, .inl (cI, 3, .inl fB)), (cq, .inl (cJ, 64, .inr (.inl fC))), (pq, .inl (cI, 8, .inl fT))] s.heap := hP
  have hl := lv_entry ([.ref q, .int (nI k), .int (nI x)]) (n := 3) (Nat.le_of_ble_eq_true rfl)
  rw [lg_entry_eq]
  generalize (lg_sl ([.ref q, .int (nI k), .int (nI x)]) ++ List.replicate (3 - (lg_sl ([.ref q, .int (nI k), .int (nI x)])).length) Slot.unset).toArray = ls at hl ⊢
  have hl : lv_has ls 3 [(0, .ref q), (1, .int (nI k)), (2, .int (nI x))] := hl
  have hcnt := (hX k hk).2.2.2
  refine lv_aload_n hx hb dX8_separator_0 rfl (lv_at hl 0 rfl) ?_
  refine lv_iload_n hx hb dX8_separator_1 rfl (lv_at hl 1 rfl) ?_
  refine lv_iload_n hx hb dX8_separator_2 rfl (lv_at hl 2 rfl) ?_
  have hPc := hP.sub (ws' := [(q, .inr (7, [.ref mq, .ref zq, .ref sq, .ref bq, .ref cq, .long sm, .ref pq, .int ps, .int th])), (mq, .inl (cZ, 12288, .inl fM)), (zq, .inl (cI, 3, .inl fS)), (sq, .inl (cI, 6156, .inl fP)), (bq, .inl (cI, 3, .inl fB)), (cq, .inl (cJ, 64, .inr (.inl fC))), (pq, .inl (cI, 8, .inl fT))]) [0, 1, 2, 3, 4, 5, 6] rfl
  have hKc := hK.sub (tys' := [(cZ, .boolean), (cI, .int), (cJ, .long)]) [0, 1, 2] rfl
  have hDc := hD.sub (ws' := [(q, .inr (7, [.ref mq, .ref zq, .ref sq, .ref bq, .ref cq, .long sm, .ref pq, .int ps, .int th])), (mq, .inl (cZ, 12288, .inl fM)), (zq, .inl (cI, 3, .inl fS)), (sq, .inl (cI, 6156, .inl fP)), (bq, .inl (cI, 3, .inl fB)), (cq, .inl (cJ, 64, .inr (.inl fC))), (pq, .inl (cI, 8, .inl fT))]) [0, 1, 2, 3, 4, 5, 6] (by decide) rfl
  have hFc := va_free (wc := [(q, .inr (7, [.ref mq, .ref zq, .ref sq, .ref bq, .ref cq, .long sm, .ref pq, .int ps, .int th])), (mq, .inl (cZ, 12288, .inl fM)), (zq, .inl (cI, 3, .inl fS)), (sq, .inl (cI, 6156, .inl fP)), (bq, .inl (cI, 3, .inl fB)), (cq, .inl (cJ, 64, .inr (.inl fC))), (pq, .inl (cI, 8, .inl fT))]) hD hS hA [0, 1, 2, 3, 4, 5, 6] rfl
  refine va_calli (va_runV (As := [.int (nI k), .int (nI x)]) (rest := []) ⟨hx, hb, hml, hown, hts⟩ (c_X8_isBucket_v l dC dI q mq zq sq bq cq pq cZ cI cJ fM fS fP fB fC sm fT ps th P k x s.heap.size (by first | assumption | omega) (by first | assumption | omega) (by first | assumption | omega)) (cwV 2 hts gX8_separator_X8_isBucket rfl rfl rfl (by decide +kernel) ⟨Nat.le_of_ble_eq_true rfl, Nat.le_of_ble_eq_true rfl⟩) ⟨fun a U g mk q => by obtain ⟨q0, q1, qP, qK, qD⟩ := q; exact ⟨q0, q1, qP, va_K.moved (u := U) (U := U.calling g mk a) (Vm.Alike.refl U.vm) qK, qD⟩, va_recv hKc hPc (ci := 7) (q0 := 0) rfl rfl, fun U hU hW => ⟨rfl, by rw [hU], by rw [hU]; exact hPc, va_K.moved hW.alike hKc, hDc.weaken (fun _ _ _ _ => trivial)⟩⟩ rfl rfl hl.1 rfl (lv_room (Nat.le_of_ble_eq_true rfl)) dX8_separator_3 ⟨Nat.le_of_ble_eq_true rfl, Nat.le_of_ble_eq_true rfl⟩) hS (fun q _ h => hFc q h) hFc (fun r_3 u_2 t9 H1 locs ht hvm hw_1 hB hz1 hk1 hS => ?_)
  obtain ⟨th'_4, rfl⟩ : ∃ z, z = u_2 := ⟨_, rfl⟩
  obtain ⟨hP1, hK1, hD1⟩ := hB
  rw [ht] at hP1
  have hK1 := va_K.moved hvm.symm hK1
  try dsimp only at hw_1 hP1 hK1 hD1
  obtain ⟨hP, hD⟩ := va_join (wr := []) (w1 := [(q, .inr (7, [.ref mq, .ref zq, .ref sq, .ref bq, .ref cq, .long sm, .ref pq, .int ps, .int th'_4])), (mq, .inl (cZ, 12288, .inl fM)), (zq, .inl (cI, 3, .inl fS)), (sq, .inl (cI, 6156, .inl fP)), (bq, .inl (cI, 3, .inl fB)), (cq, .inl (cJ, 64, .inr (.inl fC))), (pq, .inl (cI, 8, .inl fT))]) hP hD [0, 1, 2, 3, 4, 5, 6] [] rfl rfl (by decide) (by decide) hk1 hFc hP1 hD1
  generalize H1 = H at hP hS ⊢
  have hP : va_P (dC, dI) vwCl [(q, .inr (7, [.ref mq, .ref zq, .ref sq, .ref bq, .ref cq, .long sm, .ref pq, .int ps, .int th'_4])), (mq, .inl (cZ, 12288, .inl fM)), (zq, .inl (cI, 3, .inl fS)), (sq, .inl (cI, 6156, .inl fP)), (bq, .inl (cI, 3, .inl fB)), (cq, .inl (cJ, 64, .inr (.inl fC))), (pq, .inl (cI, 8, .inl fT))] H := hP
  have hD : va_D A [(q, .inr (7, [.ref mq, .ref zq, .ref sq, .ref bq, .ref cq, .long sm, .ref pq, .int ps, .int th'_4])), (mq, .inl (cZ, 12288, .inl fM)), (zq, .inl (cI, 3, .inl fS)), (sq, .inl (cI, 6156, .inl fP)), (bq, .inl (cI, 3, .inl fB)), (cq, .inl (cJ, 64, .inr (.inl fC))), (pq, .inl (cI, 8, .inl fT))] := hD
  obtain ⟨he, hw_1⟩ := hw_1
  subst he
  have hth := hw_1
  refine lv_if_eq (tgt := 18) hx hb dX8_separator_6 (by decide) (fun qc_5 => ?_) (fun qc_5 => ?_)
  · have c_5 : true = false := b2i_f qc_5
    cases c_5
  · have c_5 : true = true := b2i_t qc_5
    refine lv_aload_n hx hb dX8_separator_9 rfl (lv_at hl 0 rfl) ?_
    refine lv_iload_n hx hb dX8_separator_10 rfl (lv_at hl 1 rfl) ?_
    refine lv_iload_n hx hb dX8_separator_11 rfl (lv_at hl 2 rfl) ?_
    have hPc := hP.sub (ws' := [(q, .inr (7, [.ref mq, .ref zq, .ref sq, .ref bq, .ref cq, .long sm, .ref pq, .int ps, .int th'_4])), (mq, .inl (cZ, 12288, .inl fM)), (zq, .inl (cI, 3, .inl fS)), (sq, .inl (cI, 6156, .inl fP)), (bq, .inl (cI, 3, .inl fB)), (cq, .inl (cJ, 64, .inr (.inl fC))), (pq, .inl (cI, 8, .inl fT))]) [0, 1, 2, 3, 4, 5, 6] rfl
    have hKc := hK.sub (tys' := [(cZ, .boolean), (cI, .int), (cJ, .long)]) [0, 1, 2] rfl
    refine vp_callSi (W.runV (As := [.int (nI k), .int (nI x)]) (rest := []) ⟨hx, hb, hml, hown, hts⟩ (c_X8_separatorOf l dC dI q mq zq sq bq cq pq cZ cI cJ fM fS fP fB fC sm fT ps th'_4 P k x (by first | assumption | omega) (by first | assumption | omega) (by first | assumption | omega)) (cwV 2 hts gX8_separator_X8_separatorOf rfl rfl rfl (by decide +kernel) ⟨Nat.le_of_ble_eq_true rfl, Nat.le_of_ble_eq_true rfl⟩) ⟨fun a U g mk q => by obtain ⟨q0, qP, qK⟩ := q; exact ⟨q0, qP, va_K.moved (u := U) (U := U.calling g mk a) (Vm.Alike.refl U.vm) qK⟩, va_recv hKc hPc (ci := 7) (q0 := 0) rfl rfl, fun U hU hW => ⟨rfl, by rw [hU]; exact hPc, va_K.moved hW.alike hKc⟩⟩ rfl rfl hl.1 rfl (lv_room (Nat.le_of_ble_eq_true rfl)) dX8_separator_12 ⟨Nat.le_of_ble_eq_true rfl, Nat.le_of_ble_eq_true rfl⟩) (fun r_7 hw_6 => ?_)
    subst hw_6
    refine lv_cvi (congrArg nI (sepm_lt hxx)) ?_
    refine lv_goto (tgt := 19) hx hb dX8_separator_15 (by decide) ?_
    have hP9 := hP.sub (ws' := [(q, .inr (7, [.ref mq, .ref zq, .ref sq, .ref bq, .ref cq, .long sm, .ref pq, .int ps, .int th'_4])), (mq, .inl (cZ, 12288, .inl fM)), (zq, .inl (cI, 3, .inl fS)), (sq, .inl (cI, 6156, .inl fP)), (bq, .inl (cI, 3, .inl fB)), (cq, .inl (cJ, 64, .inr (.inl fC))), (pq, .inl (cI, 8, .inl fT))]) [0, 1, 2, 3, 4, 5, 6] rfl
    have hD9 := hD.sub (ws' := [(q, .inr (7, [.ref mq, .ref zq, .ref sq, .ref bq, .ref cq, .long sm, .ref pq, .int ps, .int th'_4])), (mq, .inl (cZ, 12288, .inl fM)), (zq, .inl (cI, 3, .inl fS)), (sq, .inl (cI, 6156, .inl fP)), (bq, .inl (cI, 3, .inl fB)), (cq, .inl (cJ, 64, .inr (.inl fC))), (pq, .inl (cI, 8, .inl fT))]) [0, 1, 2, 3, 4, 5, 6] (by decide) rfl
    have hK9 := hK.sub (tys' := [(cZ, .boolean), (cI, .int), (cJ, .long)]) [0, 1, 2] rfl
    exact W.iret (v := nI (sp (P k) x)) hx hb hr (fun t9 ht hW => ⟨⟨nI (sp (P k) x), th'_4, rfl, ⟨rfl, hth⟩, by rw [ht]; exact hP9, va_K.moved hW.alike hK9, hD9⟩, hS.F ht⟩) hS.2.2 dX8_separator_19
set_option maxHeartbeats 4000000 in
set_option maxRecDepth 100000 in
/-- reference: c_X8_separator_n -/
theorem c_X8_separator_n (l : Launch) (dC : Nat → ClassId) (dI : Nat → Nat → Nat) (q : Nat) (mq : Nat) (zq : Nat) (sq : Nat) (bq : Nat) (cq : Nat) (pq : Nat) (cZ : ClassId) (cI : ClassId) (cJ : ClassId) (fM : Nat → Int32) (fS : Nat → Int32) (fP : Nat → Int32) (fB : Nat → Int32) (fC : Nat → Int64) (sm : Int64) (fT : Nat → Int32) (ps : Int32) (th : Int32) (P : Nat → Nat → Bool) (k : Nat) (w : Int32) (sz : Nat) (hX : MX fP fB P) (hk : k < 3) (hW : isP w (fb_ct (P k) 4096) = false) : Met l yX8_separator wsX8_separator ({ frames := 3, cells := 0, slots := 0, locals := 65 }) (va_Pc [.ref q, .int (nI k), .int w] (fun U => U.heap.size = sz ∧ va_P (dC, dI) vwCl [(q, .inr (7, [.ref mq, .ref zq, .ref sq, .ref bq, .ref cq, .long sm, .ref pq, .int ps, .int th])), (mq, .inl (cZ, 12288, .inl fM)), (zq, .inl (cI, 3, .inl fS)), (sq, .inl (cI, 6156, .inl fP)), (bq, .inl (cI, 3, .inl fB)), (cq, .inl (cJ, 64, .inr (.inl fC))), (pq, .inl (cI, 8, .inl fT))] U.heap ∧ va_K (dC, dI) vwCl [(cZ, .boolean), (cI, .int), (cJ, .long)] U ∧ va_D (fun _ => True) [(q, .inr (7, [.ref mq, .ref zq, .ref sq, .ref bq, .ref cq, .long sm, .ref pq, .int ps, .int th])), (mq, .inl (cZ, 12288, .inl fM)), (zq, .inl (cI, 3, .inl fS)), (sq, .inl (cI, 6156, .inl fP)), (bq, .inl (cI, 3, .inl fB)), (cq, .inl (cJ, 64, .inr (.inl fC))), (pq, .inl (cI, 8, .inl fT))])) (va_Qi (fun (r : Int32) (u : Int32) => u = nI 1) (fun (u : Int32) (t : State) => va_P (dC, dI) vwCl [(q, .inr (7, [.ref mq, .ref zq, .ref sq, .ref bq, .ref cq, .long sm, .ref pq, .int ps, .int u])), (mq, .inl (cZ, 12288, .inl fM)), (zq, .inl (cI, 3, .inl fS)), (sq, .inl (cI, 6156, .inl fP)), (bq, .inl (cI, 3, .inl fB)), (cq, .inl (cJ, 64, .inr (.inl fC))), (pq, .inl (cI, 8, .inl fT))] t.heap ∧ va_K (dC, dI) vwCl [(cZ, .boolean), (cI, .int), (cJ, .long)] t ∧ va_D (va_A [(q, .inr (7, [.ref mq, .ref zq, .ref sq, .ref bq, .ref cq, .long sm, .ref pq, .int ps, .int th])), (mq, .inl (cZ, 12288, .inl fM)), (zq, .inl (cI, 3, .inl fS)), (sq, .inl (cI, 6156, .inl fP)), (bq, .inl (cI, 3, .inl fB)), (cq, .inl (cJ, 64, .inr (.inl fC))), (pq, .inl (cI, 8, .inl fT))] sz) [(q, .inr (7, [.ref mq, .ref zq, .ref sq, .ref bq, .ref cq, .long sm, .ref pq, .int ps, .int u])), (mq, .inl (cZ, 12288, .inl fM)), (zq, .inl (cI, 3, .inl fS)), (sq, .inl (cI, 6156, .inl fP)), (bq, .inl (cI, 3, .inl fB)), (cq, .inl (cJ, 64, .inr (.inl fC))), (pq, .inl (cI, 8, .inl fT))]) (va_A [(q, .inr (7, [.ref mq, .ref zq, .ref sq, .ref bq, .ref cq, .long sm, .ref pq, .int ps, .int th])), (mq, .inl (cZ, 12288, .inl fM)), (zq, .inl (cI, 3, .inl fS)), (sq, .inl (cI, 6156, .inl fP)), (bq, .inl (cI, 3, .inl fB)), (cq, .inl (cJ, 64, .inr (.inl fC))), (pq, .inl (cI, 8, .inl fT))] sz)) 0 0 (va_A [(q, .inr (7, [.ref mq, .ref zq, .ref sq, .ref bq, .ref cq, .long sm, .ref pq, .int ps, .int th])), (mq, .inl (cZ, 12288, .inl fM)), (zq, .inl (cI, 3, .inl fS)), (sq, .inl (cI, 6156, .inl fP)), (bq, .inl (cI, 3, .inl fB)), (cq, .inl (cJ, 64, .inr (.inl fC))), (pq, .inl (cI, 8, .inl fT))] sz) := by
  refine Met.ofW (cc := cX8_separator) (maxL := 3) (ret := (some .int)) (by decide) rfl ?_
  intro p e s m args below meth c s₁ B hml hv
  obtain ⟨rfl, hsz, hP, hK, hD0⟩ := hv
  have hx := B.exec
  have hb := B.bytes
  have hr := B.returns
  have hts := atoms_spec (ws := wsX8_separator) B.pre
  have hown : s.vm.findClass RX8 = some m.cls := findClass_of_methodNamed B.named
  have hlocks := B.notSynchronized
  subst hsz
  have hD := hD0.self (sz := s.heap.size)
  generalize hAe : va_A [(q, .inr (7, [.ref mq, .ref zq, .ref sq, .ref bq, .ref cq, .long sm, .ref pq, .int ps, .int th])), (mq, .inl (cZ, 12288, .inl fM)), (zq, .inl (cI, 3, .inl fS)), (sq, .inl (cI, 6156, .inl fP)), (bq, .inl (cI, 3, .inl fB)), (cq, .inl (cJ, 64, .inr (.inl fC))), (pq, .inl (cI, 8, .inl fT))] s.heap.size = A at hD ⊢
  have hA : ∀ q : Nat, s.heap.size ≤ q → A q := fun q h => by rw [← hAe]; exact Or.inr h
  have hS : va_S A s.heap s.heap [] := va_S.rf
  have hP : va_P (dC, dI) vwCl [(q, .inr (7, [.ref mq, .ref zq, .ref sq, .ref bq, .ref cq, .long sm, .ref pq, .int ps, .int th])), (mq, .inl (cZ, 12288, .inl fM)), (zq, .inl (cI, 3, .inl fS)), (sq, .inl (cI, 6156, .inl fP)), (bq, .inl (cI, 3, .inl fB)), (cq, .inl (cJ, 64, .inr (.inl fC))), (pq, .inl (cI, 8, .inl fT))] s.heap := hP
  have hl := lv_entry ([.ref q, .int (nI k), .int w]) (n := 3) (Nat.le_of_ble_eq_true rfl)
  rw [lg_entry_eq]
  generalize (lg_sl ([.ref q, .int (nI k), .int w]) ++ List.replicate (3 - (lg_sl ([.ref q, .int (nI k), .int w])).length) Slot.unset).toArray = ls at hl ⊢
  have hl : lv_has ls 3 [(0, .ref q), (1, .int (nI k)), (2, .int w)] := hl
  refine lv_aload_n hx hb dX8_separator_0 rfl (lv_at hl 0 rfl) ?_
  refine lv_iload_n hx hb dX8_separator_1 rfl (lv_at hl 1 rfl) ?_
  refine lv_iload_n hx hb dX8_separator_2 rfl (lv_at hl 2 rfl) ?_
  have hPc := hP.sub (ws' := [(q, .inr (7, [.ref mq, .ref zq, .ref sq, .ref bq, .ref cq, .long sm, .ref pq, .int ps, .int th])), (mq, .inl (cZ, 12288, .inl fM)), (zq, .inl (cI, 3, .inl fS)), (sq, .inl (cI, 6156, .inl fP)), (bq, .inl (cI, 3, .inl fB)), (cq, .inl (cJ, 64, .inr (.inl fC))), (pq, .inl (cI, 8, .inl fT))]) [0, 1, 2, 3, 4, 5, 6] rfl
  have hKc := hK.sub (tys' := [(cZ, .boolean), (cI, .int), (cJ, .long)]) [0, 1, 2] rfl
  have hDc := hD.sub (ws' := [(q, .inr (7, [.ref mq, .ref zq, .ref sq, .ref bq, .ref cq, .long sm, .ref pq, .int ps, .int th])), (mq, .inl (cZ, 12288, .inl fM)), (zq, .inl (cI, 3, .inl fS)), (sq, .inl (cI, 6156, .inl fP)), (bq, .inl (cI, 3, .inl fB)), (cq, .inl (cJ, 64, .inr (.inl fC))), (pq, .inl (cI, 8, .inl fT))]) [0, 1, 2, 3, 4, 5, 6] (by decide) rfl
  have hFc := va_free (wc := [(q, .inr (7, [.ref mq, .ref zq, .ref sq, .ref bq, .ref cq, .long sm, .ref pq, .int ps, .int th])), (mq, .inl (cZ, 12288, .inl fM)), (zq, .inl (cI, 3, .inl fS)), (sq, .inl (cI, 6156, .inl fP)), (bq, .inl (cI, 3, .inl fB)), (cq, .inl (cJ, 64, .inr (.inl fC))), (pq, .inl (cI, 8, .inl fT))]) hD hS hA [0, 1, 2, 3, 4, 5, 6] rfl
  refine va_calli (va_runV (As := [.int (nI k), .int w]) (rest := []) ⟨hx, hb, hml, hown, hts⟩ (c_X8_isBucket_n l dC dI q mq zq sq bq cq pq cZ cI cJ fM fS fP fB fC sm fT ps th P k w s.heap.size (by first | assumption | omega) (by first | assumption | omega) (by first | assumption | omega)) (cwV 2 hts gX8_separator_X8_isBucket rfl rfl rfl (by decide +kernel) ⟨Nat.le_of_ble_eq_true rfl, Nat.le_of_ble_eq_true rfl⟩) ⟨fun a U g mk q => by obtain ⟨q0, q1, qP, qK, qD⟩ := q; exact ⟨q0, q1, qP, va_K.moved (u := U) (U := U.calling g mk a) (Vm.Alike.refl U.vm) qK, qD⟩, va_recv hKc hPc (ci := 7) (q0 := 0) rfl rfl, fun U hU hW => ⟨rfl, by rw [hU], by rw [hU]; exact hPc, va_K.moved hW.alike hKc, hDc.weaken (fun _ _ _ _ => trivial)⟩⟩ rfl rfl hl.1 rfl (lv_room (Nat.le_of_ble_eq_true rfl)) dX8_separator_3 ⟨Nat.le_of_ble_eq_true rfl, Nat.le_of_ble_eq_true rfl⟩) hS (fun q _ h => hFc q h) hFc (fun r_3 u_2 t9 H1 locs ht hvm hw_1 hB hz1 hk1 hS => ?_)
  obtain ⟨th'_4, rfl⟩ : ∃ z, z = u_2 := ⟨_, rfl⟩
  obtain ⟨hP1, hK1, hD1⟩ := hB
  rw [ht] at hP1
  have hK1 := va_K.moved hvm.symm hK1
  try dsimp only at hw_1 hP1 hK1 hD1
  obtain ⟨hP, hD⟩ := va_join (wr := []) (w1 := [(q, .inr (7, [.ref mq, .ref zq, .ref sq, .ref bq, .ref cq, .long sm, .ref pq, .int ps, .int th'_4])), (mq, .inl (cZ, 12288, .inl fM)), (zq, .inl (cI, 3, .inl fS)), (sq, .inl (cI, 6156, .inl fP)), (bq, .inl (cI, 3, .inl fB)), (cq, .inl (cJ, 64, .inr (.inl fC))), (pq, .inl (cI, 8, .inl fT))]) hP hD [0, 1, 2, 3, 4, 5, 6] [] rfl rfl (by decide) (by decide) hk1 hFc hP1 hD1
  generalize H1 = H at hP hS ⊢
  have hP : va_P (dC, dI) vwCl [(q, .inr (7, [.ref mq, .ref zq, .ref sq, .ref bq, .ref cq, .long sm, .ref pq, .int ps, .int th'_4])), (mq, .inl (cZ, 12288, .inl fM)), (zq, .inl (cI, 3, .inl fS)), (sq, .inl (cI, 6156, .inl fP)), (bq, .inl (cI, 3, .inl fB)), (cq, .inl (cJ, 64, .inr (.inl fC))), (pq, .inl (cI, 8, .inl fT))] H := hP
  have hD : va_D A [(q, .inr (7, [.ref mq, .ref zq, .ref sq, .ref bq, .ref cq, .long sm, .ref pq, .int ps, .int th'_4])), (mq, .inl (cZ, 12288, .inl fM)), (zq, .inl (cI, 3, .inl fS)), (sq, .inl (cI, 6156, .inl fP)), (bq, .inl (cI, 3, .inl fB)), (cq, .inl (cJ, 64, .inr (.inl fC))), (pq, .inl (cI, 8, .inl fT))] := hD
  obtain ⟨he, hw_1⟩ := hw_1
  subst he
  have hth := hw_1
  refine lv_if_eq (tgt := 18) hx hb dX8_separator_6 (by decide) (fun qc_5 => ?_) (fun qc_5 => ?_)
  · have c_5 : false = false := b2i_f qc_5
    refine lv_iconst (v := nI 0) hx hb dX8_separator_18 (by decide +kernel) ?_
    have hP9 := hP.sub (ws' := [(q, .inr (7, [.ref mq, .ref zq, .ref sq, .ref bq, .ref cq, .long sm, .ref pq, .int ps, .int th'_4])), (mq, .inl (cZ, 12288, .inl fM)), (zq, .inl (cI, 3, .inl fS)), (sq, .inl (cI, 6156, .inl fP)), (bq, .inl (cI, 3, .inl fB)), (cq, .inl (cJ, 64, .inr (.inl fC))), (pq, .inl (cI, 8, .inl fT))]) [0, 1, 2, 3, 4, 5, 6] rfl
    have hD9 := hD.sub (ws' := [(q, .inr (7, [.ref mq, .ref zq, .ref sq, .ref bq, .ref cq, .long sm, .ref pq, .int ps, .int th'_4])), (mq, .inl (cZ, 12288, .inl fM)), (zq, .inl (cI, 3, .inl fS)), (sq, .inl (cI, 6156, .inl fP)), (bq, .inl (cI, 3, .inl fB)), (cq, .inl (cJ, 64, .inr (.inl fC))), (pq, .inl (cI, 8, .inl fT))]) [0, 1, 2, 3, 4, 5, 6] (by decide) rfl
    have hK9 := hK.sub (tys' := [(cZ, .boolean), (cI, .int), (cJ, .long)]) [0, 1, 2] rfl
    exact W.iret (v := nI 0) hx hb hr (fun t9 ht hW => ⟨⟨nI 0, th'_4, rfl, hth, by rw [ht]; exact hP9, va_K.moved hW.alike hK9, hD9⟩, hS.F ht⟩) hS.2.2 dX8_separator_19
  · have c_5 : false = true := b2i_t qc_5
    cases c_5
set_option maxHeartbeats 4000000 in
set_option maxRecDepth 100000 in
/-- reference: c_X8_separator_s -/
theorem c_X8_separator_s (l : Launch) (dC : Nat → ClassId) (dI : Nat → Nat → Nat) (q : Nat) (mq : Nat) (zq : Nat) (sq : Nat) (bq : Nat) (cq : Nat) (pq : Nat) (cZ : ClassId) (cI : ClassId) (cJ : ClassId) (fM : Nat → Int32) (fS : Nat → Int32) (fP : Nat → Int32) (fB : Nat → Int32) (fC : Nat → Int64) (sm : Int64) (fT : Nat → Int32) (ps : Int32) (th : Int32) (v : Int32) (w : Int32) (sz : Nat) (hSf : isS v = false) : Met l yX8_separator wsX8_separator ({ frames := 3, cells := 0, slots := 0, locals := 65 }) (va_Pc [.ref q, .int v, .int w] (fun U => U.heap.size = sz ∧ va_P (dC, dI) vwCl [(q, .inr (7, [.ref mq, .ref zq, .ref sq, .ref bq, .ref cq, .long sm, .ref pq, .int ps, .int th])), (mq, .inl (cZ, 12288, .inl fM)), (zq, .inl (cI, 3, .inl fS)), (sq, .inl (cI, 6156, .inl fP)), (bq, .inl (cI, 3, .inl fB)), (cq, .inl (cJ, 64, .inr (.inl fC))), (pq, .inl (cI, 8, .inl fT))] U.heap ∧ va_K (dC, dI) vwCl [(cZ, .boolean), (cI, .int), (cJ, .long)] U ∧ va_D (fun _ => True) [(q, .inr (7, [.ref mq, .ref zq, .ref sq, .ref bq, .ref cq, .long sm, .ref pq, .int ps, .int th])), (mq, .inl (cZ, 12288, .inl fM)), (zq, .inl (cI, 3, .inl fS)), (sq, .inl (cI, 6156, .inl fP)), (bq, .inl (cI, 3, .inl fB)), (cq, .inl (cJ, 64, .inr (.inl fC))), (pq, .inl (cI, 8, .inl fT))])) (va_Qi (fun (r : Int32) (u : Int32) => u = nI 1) (fun (u : Int32) (t : State) => va_P (dC, dI) vwCl [(q, .inr (7, [.ref mq, .ref zq, .ref sq, .ref bq, .ref cq, .long sm, .ref pq, .int ps, .int u])), (mq, .inl (cZ, 12288, .inl fM)), (zq, .inl (cI, 3, .inl fS)), (sq, .inl (cI, 6156, .inl fP)), (bq, .inl (cI, 3, .inl fB)), (cq, .inl (cJ, 64, .inr (.inl fC))), (pq, .inl (cI, 8, .inl fT))] t.heap ∧ va_K (dC, dI) vwCl [(cZ, .boolean), (cI, .int), (cJ, .long)] t ∧ va_D (va_A [(q, .inr (7, [.ref mq, .ref zq, .ref sq, .ref bq, .ref cq, .long sm, .ref pq, .int ps, .int th])), (mq, .inl (cZ, 12288, .inl fM)), (zq, .inl (cI, 3, .inl fS)), (sq, .inl (cI, 6156, .inl fP)), (bq, .inl (cI, 3, .inl fB)), (cq, .inl (cJ, 64, .inr (.inl fC))), (pq, .inl (cI, 8, .inl fT))] sz) [(q, .inr (7, [.ref mq, .ref zq, .ref sq, .ref bq, .ref cq, .long sm, .ref pq, .int ps, .int u])), (mq, .inl (cZ, 12288, .inl fM)), (zq, .inl (cI, 3, .inl fS)), (sq, .inl (cI, 6156, .inl fP)), (bq, .inl (cI, 3, .inl fB)), (cq, .inl (cJ, 64, .inr (.inl fC))), (pq, .inl (cI, 8, .inl fT))]) (va_A [(q, .inr (7, [.ref mq, .ref zq, .ref sq, .ref bq, .ref cq, .long sm, .ref pq, .int ps, .int th])), (mq, .inl (cZ, 12288, .inl fM)), (zq, .inl (cI, 3, .inl fS)), (sq, .inl (cI, 6156, .inl fP)), (bq, .inl (cI, 3, .inl fB)), (cq, .inl (cJ, 64, .inr (.inl fC))), (pq, .inl (cI, 8, .inl fT))] sz)) 0 0 (va_A [(q, .inr (7, [.ref mq, .ref zq, .ref sq, .ref bq, .ref cq, .long sm, .ref pq, .int ps, .int th])), (mq, .inl (cZ, 12288, .inl fM)), (zq, .inl (cI, 3, .inl fS)), (sq, .inl (cI, 6156, .inl fP)), (bq, .inl (cI, 3, .inl fB)), (cq, .inl (cJ, 64, .inr (.inl fC))), (pq, .inl (cI, 8, .inl fT))] sz) := by
  refine Met.ofW (cc := cX8_separator) (maxL := 3) (ret := (some .int)) (by decide) rfl ?_
  intro p e s m args below meth c s₁ B hml hv
  obtain ⟨rfl, hsz, hP, hK, hD0⟩ := hv
  have hx := B.exec
  have hb := B.bytes
  have hr := B.returns
  have hts := atoms_spec (ws := wsX8_separator) B.pre
  have hown : s.vm.findClass RX8 = some m.cls := findClass_of_methodNamed B.named
  have hlocks := B.notSynchronized
  subst hsz
  have hD := hD0.self (sz := s.heap.size)
  generalize hAe : va_A [(q, .inr (7, [.ref mq, .ref zq, .ref sq, .ref bq, .ref cq, .long sm, .ref pq, .int ps, .int th])), (mq, .inl (cZ, 12288, .inl fM)), (zq, .inl (cI, 3, .inl fS)), (sq, .inl (cI, 6156, .inl fP)), (bq, .inl (cI, 3, .inl fB)), (cq, .inl (cJ, 64, .inr (.inl fC))), (pq, .inl (cI, 8, .inl fT))] s.heap.size = A at hD ⊢
  have hA : ∀ q : Nat, s.heap.size ≤ q → A q := fun q h => by rw [← hAe]; exact Or.inr h
  have hS : va_S A s.heap s.heap [] := va_S.rf
  have hP : va_P (dC, dI) vwCl [(q, .inr (7, [.ref mq, .ref zq, .ref sq, .ref bq, .ref cq, .long sm, .ref pq, .int ps, .int th])), (mq, .inl (cZ, 12288, .inl fM)), (zq, .inl (cI, 3, .inl fS)), (sq, .inl (cI, 6156, .inl fP)), (bq, .inl (cI, 3, .inl fB)), (cq, .inl (cJ, 64, .inr (.inl fC))), (pq, .inl (cI, 8, .inl fT))] s.heap := hP
  have hl := lv_entry ([.ref q, .int v, .int w]) (n := 3) (Nat.le_of_ble_eq_true rfl)
  rw [lg_entry_eq]
  generalize (lg_sl ([.ref q, .int v, .int w]) ++ List.replicate (3 - (lg_sl ([.ref q, .int v, .int w])).length) Slot.unset).toArray = ls at hl ⊢
  have hl : lv_has ls 3 [(0, .ref q), (1, .int v), (2, .int w)] := hl
  refine lv_aload_n hx hb dX8_separator_0 rfl (lv_at hl 0 rfl) ?_
  refine lv_iload_n hx hb dX8_separator_1 rfl (lv_at hl 1 rfl) ?_
  refine lv_iload_n hx hb dX8_separator_2 rfl (lv_at hl 2 rfl) ?_
  have hPc := hP.sub (ws' := [(q, .inr (7, [.ref mq, .ref zq, .ref sq, .ref bq, .ref cq, .long sm, .ref pq, .int ps, .int th])), (mq, .inl (cZ, 12288, .inl fM)), (zq, .inl (cI, 3, .inl fS)), (sq, .inl (cI, 6156, .inl fP)), (bq, .inl (cI, 3, .inl fB)), (cq, .inl (cJ, 64, .inr (.inl fC))), (pq, .inl (cI, 8, .inl fT))]) [0, 1, 2, 3, 4, 5, 6] rfl
  have hKc := hK.sub (tys' := [(cZ, .boolean), (cI, .int), (cJ, .long)]) [0, 1, 2] rfl
  have hDc := hD.sub (ws' := [(q, .inr (7, [.ref mq, .ref zq, .ref sq, .ref bq, .ref cq, .long sm, .ref pq, .int ps, .int th])), (mq, .inl (cZ, 12288, .inl fM)), (zq, .inl (cI, 3, .inl fS)), (sq, .inl (cI, 6156, .inl fP)), (bq, .inl (cI, 3, .inl fB)), (cq, .inl (cJ, 64, .inr (.inl fC))), (pq, .inl (cI, 8, .inl fT))]) [0, 1, 2, 3, 4, 5, 6] (by decide) rfl
  have hFc := va_free (wc := [(q, .inr (7, [.ref mq, .ref zq, .ref sq, .ref bq, .ref cq, .long sm, .ref pq, .int ps, .int th])), (mq, .inl (cZ, 12288, .inl fM)), (zq, .inl (cI, 3, .inl fS)), (sq, .inl (cI, 6156, .inl fP)), (bq, .inl (cI, 3, .inl fB)), (cq, .inl (cJ, 64, .inr (.inl fC))), (pq, .inl (cI, 8, .inl fT))]) hD hS hA [0, 1, 2, 3, 4, 5, 6] rfl
  refine va_calli (va_runV (As := [.int v, .int w]) (rest := []) ⟨hx, hb, hml, hown, hts⟩ (c_X8_isBucket_s l dC dI q mq zq sq bq cq pq cZ cI cJ fM fS fP fB fC sm fT ps th v w s.heap.size (by first | assumption | omega)) (cwV 2 hts gX8_separator_X8_isBucket rfl rfl rfl (by decide +kernel) ⟨Nat.le_of_ble_eq_true rfl, Nat.le_of_ble_eq_true rfl⟩) ⟨fun a U g mk q => by obtain ⟨q0, q1, qP, qK, qD⟩ := q; exact ⟨q0, q1, qP, va_K.moved (u := U) (U := U.calling g mk a) (Vm.Alike.refl U.vm) qK, qD⟩, va_recv hKc hPc (ci := 7) (q0 := 0) rfl rfl, fun U hU hW => ⟨rfl, by rw [hU], by rw [hU]; exact hPc, va_K.moved hW.alike hKc, hDc.weaken (fun _ _ _ _ => trivial)⟩⟩ rfl rfl hl.1 rfl (lv_room (Nat.le_of_ble_eq_true rfl)) dX8_separator_3 ⟨Nat.le_of_ble_eq_true rfl, Nat.le_of_ble_eq_true rfl⟩) hS (fun q _ h => hFc q h) hFc (fun r_3 u_2 t9 H1 locs ht hvm hw_1 hB hz1 hk1 hS => ?_)
  obtain ⟨th'_4, rfl⟩ : ∃ z, z = u_2 := ⟨_, rfl⟩
  obtain ⟨hP1, hK1, hD1⟩ := hB
  rw [ht] at hP1
  have hK1 := va_K.moved hvm.symm hK1
  try dsimp only at hw_1 hP1 hK1 hD1
  obtain ⟨hP, hD⟩ := va_join (wr := []) (w1 := [(q, .inr (7, [.ref mq, .ref zq, .ref sq, .ref bq, .ref cq, .long sm, .ref pq, .int ps, .int th'_4])), (mq, .inl (cZ, 12288, .inl fM)), (zq, .inl (cI, 3, .inl fS)), (sq, .inl (cI, 6156, .inl fP)), (bq, .inl (cI, 3, .inl fB)), (cq, .inl (cJ, 64, .inr (.inl fC))), (pq, .inl (cI, 8, .inl fT))]) hP hD [0, 1, 2, 3, 4, 5, 6] [] rfl rfl (by decide) (by decide) hk1 hFc hP1 hD1
  generalize H1 = H at hP hS ⊢
  have hP : va_P (dC, dI) vwCl [(q, .inr (7, [.ref mq, .ref zq, .ref sq, .ref bq, .ref cq, .long sm, .ref pq, .int ps, .int th'_4])), (mq, .inl (cZ, 12288, .inl fM)), (zq, .inl (cI, 3, .inl fS)), (sq, .inl (cI, 6156, .inl fP)), (bq, .inl (cI, 3, .inl fB)), (cq, .inl (cJ, 64, .inr (.inl fC))), (pq, .inl (cI, 8, .inl fT))] H := hP
  have hD : va_D A [(q, .inr (7, [.ref mq, .ref zq, .ref sq, .ref bq, .ref cq, .long sm, .ref pq, .int ps, .int th'_4])), (mq, .inl (cZ, 12288, .inl fM)), (zq, .inl (cI, 3, .inl fS)), (sq, .inl (cI, 6156, .inl fP)), (bq, .inl (cI, 3, .inl fB)), (cq, .inl (cJ, 64, .inr (.inl fC))), (pq, .inl (cI, 8, .inl fT))] := hD
  obtain ⟨he, hw_1⟩ := hw_1
  subst he
  have hth := hw_1
  refine lv_if_eq (tgt := 18) hx hb dX8_separator_6 (by decide) (fun qc_5 => ?_) (fun qc_5 => ?_)
  · have c_5 : false = false := b2i_f qc_5
    refine lv_iconst (v := nI 0) hx hb dX8_separator_18 (by decide +kernel) ?_
    have hP9 := hP.sub (ws' := [(q, .inr (7, [.ref mq, .ref zq, .ref sq, .ref bq, .ref cq, .long sm, .ref pq, .int ps, .int th'_4])), (mq, .inl (cZ, 12288, .inl fM)), (zq, .inl (cI, 3, .inl fS)), (sq, .inl (cI, 6156, .inl fP)), (bq, .inl (cI, 3, .inl fB)), (cq, .inl (cJ, 64, .inr (.inl fC))), (pq, .inl (cI, 8, .inl fT))]) [0, 1, 2, 3, 4, 5, 6] rfl
    have hD9 := hD.sub (ws' := [(q, .inr (7, [.ref mq, .ref zq, .ref sq, .ref bq, .ref cq, .long sm, .ref pq, .int ps, .int th'_4])), (mq, .inl (cZ, 12288, .inl fM)), (zq, .inl (cI, 3, .inl fS)), (sq, .inl (cI, 6156, .inl fP)), (bq, .inl (cI, 3, .inl fB)), (cq, .inl (cJ, 64, .inr (.inl fC))), (pq, .inl (cI, 8, .inl fT))]) [0, 1, 2, 3, 4, 5, 6] (by decide) rfl
    have hK9 := hK.sub (tys' := [(cZ, .boolean), (cI, .int), (cJ, .long)]) [0, 1, 2] rfl
    exact W.iret (v := nI 0) hx hb hr (fun t9 ht hW => ⟨⟨nI 0, th'_4, rfl, hth, by rw [ht]; exact hP9, va_K.moved hW.alike hK9, hD9⟩, hS.F ht⟩) hS.2.2 dX8_separator_19
  · have c_5 : false = true := b2i_t qc_5
    cases c_5
set_option maxHeartbeats 4000000 in
set_option maxRecDepth 100000 in
/-- reference: c_X8_bucketSize_v -/
theorem c_X8_bucketSize_v (l : Launch) (dC : Nat → ClassId) (dI : Nat → Nat → Nat) (q : Nat) (mq : Nat) (zq : Nat) (sq : Nat) (bq : Nat) (cq : Nat) (pq : Nat) (cZ : ClassId) (cI : ClassId) (cJ : ClassId) (fM : Nat → Int32) (fS : Nat → Int32) (fP : Nat → Int32) (fB : Nat → Int32) (fC : Nat → Int64) (sm : Int64) (fT : Nat → Int32) (ps : Int32) (th : Int32) (M : Nat → Nat → Bool) (P : Nat → Nat → Bool) (k : Nat) (x : Nat) (sz : Nat) (hM : MM fM M) (hX : MX fP fB P) (hk : k < 3) (hxx : x < fb_ct (P k) 4096) : Met l yX8_bucketSize wsX8_bucketSize ({ frames := 3, cells := 0, slots := 0, locals := 65 }) (va_Pc [.ref q, .int (nI k), .int (nI x)] (fun U => U.heap.size = sz ∧ va_P (dC, dI) vwCl [(q, .inr (7, [.ref mq, .ref zq, .ref sq, .ref bq, .ref cq, .long sm, .ref pq, .int ps, .int th])), (mq, .inl (cZ, 12288, .inl fM)), (zq, .inl (cI, 3, .inl fS)), (sq, .inl (cI, 6156, .inl fP)), (bq, .inl (cI, 3, .inl fB)), (cq, .inl (cJ, 64, .inr (.inl fC))), (pq, .inl (cI, 8, .inl fT))] U.heap ∧ va_K (dC, dI) vwCl [(cZ, .boolean), (cI, .int), (cJ, .long)] U ∧ va_D (fun _ => True) [(q, .inr (7, [.ref mq, .ref zq, .ref sq, .ref bq, .ref cq, .long sm, .ref pq, .int ps, .int th])), (mq, .inl (cZ, 12288, .inl fM)), (zq, .inl (cI, 3, .inl fS)), (sq, .inl (cI, 6156, .inl fP)), (bq, .inl (cI, 3, .inl fB)), (cq, .inl (cJ, 64, .inr (.inl fC))), (pq, .inl (cI, 8, .inl fT))])) (va_Qi (fun (r : Int32) (u : Int32) => r = nI (heldc (M k) (P k) (sp (P k) x)) ∧ u = nI 0) (fun (u : Int32) (t : State) => va_P (dC, dI) vwCl [(q, .inr (7, [.ref mq, .ref zq, .ref sq, .ref bq, .ref cq, .long sm, .ref pq, .int ps, .int u])), (mq, .inl (cZ, 12288, .inl fM)), (zq, .inl (cI, 3, .inl fS)), (sq, .inl (cI, 6156, .inl fP)), (bq, .inl (cI, 3, .inl fB)), (cq, .inl (cJ, 64, .inr (.inl fC))), (pq, .inl (cI, 8, .inl fT))] t.heap ∧ va_K (dC, dI) vwCl [(cZ, .boolean), (cI, .int), (cJ, .long)] t ∧ va_D (va_A [(q, .inr (7, [.ref mq, .ref zq, .ref sq, .ref bq, .ref cq, .long sm, .ref pq, .int ps, .int th])), (mq, .inl (cZ, 12288, .inl fM)), (zq, .inl (cI, 3, .inl fS)), (sq, .inl (cI, 6156, .inl fP)), (bq, .inl (cI, 3, .inl fB)), (cq, .inl (cJ, 64, .inr (.inl fC))), (pq, .inl (cI, 8, .inl fT))] sz) [(q, .inr (7, [.ref mq, .ref zq, .ref sq, .ref bq, .ref cq, .long sm, .ref pq, .int ps, .int u])), (mq, .inl (cZ, 12288, .inl fM)), (zq, .inl (cI, 3, .inl fS)), (sq, .inl (cI, 6156, .inl fP)), (bq, .inl (cI, 3, .inl fB)), (cq, .inl (cJ, 64, .inr (.inl fC))), (pq, .inl (cI, 8, .inl fT))]) (va_A [(q, .inr (7, [.ref mq, .ref zq, .ref sq, .ref bq, .ref cq, .long sm, .ref pq, .int ps, .int th])), (mq, .inl (cZ, 12288, .inl fM)), (zq, .inl (cI, 3, .inl fS)), (sq, .inl (cI, 6156, .inl fP)), (bq, .inl (cI, 3, .inl fB)), (cq, .inl (cJ, 64, .inr (.inl fC))), (pq, .inl (cI, 8, .inl fT))] sz)) 0 0 (va_A [(q, .inr (7, [.ref mq, .ref zq, .ref sq, .ref bq, .ref cq, .long sm, .ref pq, .int ps, .int th])), (mq, .inl (cZ, 12288, .inl fM)), (zq, .inl (cI, 3, .inl fS)), (sq, .inl (cI, 6156, .inl fP)), (bq, .inl (cI, 3, .inl fB)), (cq, .inl (cJ, 64, .inr (.inl fC))), (pq, .inl (cI, 8, .inl fT))] sz) := by
  refine Met.ofW (cc := cX8_bucketSize) (maxL := 3) (ret := (some .int)) (by decide) rfl ?_
  intro p e s m args below meth c s₁ B hml hv
  obtain ⟨rfl, hsz, hP, hK, hD0⟩ := hv
  have hx := B.exec
  have hb := B.bytes
  have hr := B.returns
  have hts := atoms_spec (ws := wsX8_bucketSize) B.pre
  have hown : s.vm.findClass RX8 = some m.cls := findClass_of_methodNamed B.named
  have hlocks := B.notSynchronized
  subst hsz
  have hD := hD0.self (sz := s.heap.size)
  generalize hAe : va_A [(q, .inr (7, [.ref mq, .ref zq, .ref sq, .ref bq, .ref cq, .long sm, .ref pq, .int ps, .int th])), (mq, .inl (cZ, 12288, .inl fM)), (zq, .inl (cI, 3, .inl fS)), (sq, .inl (cI, 6156, .inl fP)), (bq, .inl (cI, 3, .inl fB)), (cq, .inl (cJ, 64, .inr (.inl fC))), (pq, .inl (cI, 8, .inl fT))] s.heap.size = A at hD ⊢
  have hA : ∀ q : Nat, s.heap.size ≤ q → A q := fun q h => by rw [← hAe]; exact Or.inr h
  have hS : va_S A s.heap s.heap [] := va_S.rf
  have hP : va_P (dC, dI) vwCl [(q, .inr (7, [.ref mq, .ref zq, .ref sq, .ref bq, .ref cq, .long sm, .ref pq, .int ps, .int th])), (mq, .inl (cZ, 12288, .inl fM)), (zq, .inl (cI, 3, .inl fS)), (sq, .inl (cI, 6156, .inl fP)), (bq, .inl (cI, 3, .inl fB)), (cq, .inl (cJ, 64, .inr (.inl fC))), (pq, .inl (cI, 8, .inl fT))] s.heap := hP
  have hl := lv_entry ([.ref q, .int (nI k), .int (nI x)]) (n := 3) (Nat.le_of_ble_eq_true rfl)
  rw [lg_entry_eq]
  generalize (lg_sl ([.ref q, .int (nI k), .int (nI x)]) ++ List.replicate (3 - (lg_sl ([.ref q, .int (nI k), .int (nI x)])).length) Slot.unset).toArray = ls at hl ⊢
  have hl : lv_has ls 3 [(0, .ref q), (1, .int (nI k)), (2, .int (nI x))] := hl
  have hcnt := (hX k hk).2.2.2
  refine lv_aload_n hx hb dX8_bucketSize_0 rfl (lv_at hl 0 rfl) ?_
  refine lv_iload_n hx hb dX8_bucketSize_1 rfl (lv_at hl 1 rfl) ?_
  refine lv_iload_n hx hb dX8_bucketSize_2 rfl (lv_at hl 2 rfl) ?_
  have hPc := hP.sub (ws' := [(q, .inr (7, [.ref mq, .ref zq, .ref sq, .ref bq, .ref cq, .long sm, .ref pq, .int ps, .int th])), (mq, .inl (cZ, 12288, .inl fM)), (zq, .inl (cI, 3, .inl fS)), (sq, .inl (cI, 6156, .inl fP)), (bq, .inl (cI, 3, .inl fB)), (cq, .inl (cJ, 64, .inr (.inl fC))), (pq, .inl (cI, 8, .inl fT))]) [0, 1, 2, 3, 4, 5, 6] rfl
  have hKc := hK.sub (tys' := [(cZ, .boolean), (cI, .int), (cJ, .long)]) [0, 1, 2] rfl
  have hDc := hD.sub (ws' := [(q, .inr (7, [.ref mq, .ref zq, .ref sq, .ref bq, .ref cq, .long sm, .ref pq, .int ps, .int th])), (mq, .inl (cZ, 12288, .inl fM)), (zq, .inl (cI, 3, .inl fS)), (sq, .inl (cI, 6156, .inl fP)), (bq, .inl (cI, 3, .inl fB)), (cq, .inl (cJ, 64, .inr (.inl fC))), (pq, .inl (cI, 8, .inl fT))]) [0, 1, 2, 3, 4, 5, 6] (by decide) rfl
  have hFc := va_free (wc := [(q, .inr (7, [.ref mq, .ref zq, .ref sq, .ref bq, .ref cq, .long sm, .ref pq, .int ps, .int th])), (mq, .inl (cZ, 12288, .inl fM)), (zq, .inl (cI, 3, .inl fS)), (sq, .inl (cI, 6156, .inl fP)), (bq, .inl (cI, 3, .inl fB)), (cq, .inl (cJ, 64, .inr (.inl fC))), (pq, .inl (cI, 8, .inl fT))]) hD hS hA [0, 1, 2, 3, 4, 5, 6] rfl
  refine va_calli (va_runV (As := [.int (nI k), .int (nI x)]) (rest := []) ⟨hx, hb, hml, hown, hts⟩ (c_X8_isBucket_v l dC dI q mq zq sq bq cq pq cZ cI cJ fM fS fP fB fC sm fT ps th P k x s.heap.size (by first | assumption | omega) (by first | assumption | omega) (by first | assumption | omega)) (cwV 2 hts gX8_bucketSize_X8_isBucket rfl rfl rfl (by decide +kernel) ⟨Nat.le_of_ble_eq_true rfl, Nat.le_of_ble_eq_true rfl⟩) ⟨fun a U g mk q => by obtain ⟨q0, q1, qP, qK, qD⟩ := q; exact ⟨q0, q1, qP, va_K.moved (u := U) (U := U.calling g mk a) (Vm.Alike.refl U.vm) qK, qD⟩, va_recv hKc hPc (ci := 7) (q0 := 0) rfl rfl, fun U hU hW => ⟨rfl, by rw [hU], by rw [hU]; exact hPc, va_K.moved hW.alike hKc, hDc.weaken (fun _ _ _ _ => trivial)⟩⟩ rfl rfl hl.1 rfl (lv_room (Nat.le_of_ble_eq_true rfl)) dX8_bucketSize_3 ⟨Nat.le_of_ble_eq_true rfl, Nat.le_of_ble_eq_true rfl⟩) hS (fun q _ h => hFc q h) hFc (fun r_3 u_2 t9 H1 locs ht hvm hw_1 hB hz1 hk1 hS => ?_)
  obtain ⟨th'_4, rfl⟩ : ∃ z, z = u_2 := ⟨_, rfl⟩
  obtain ⟨hP1, hK1, hD1⟩ := hB
  rw [ht] at hP1
  have hK1 := va_K.moved hvm.symm hK1
  try dsimp only at hw_1 hP1 hK1 hD1
  obtain ⟨hP, hD⟩ := va_join (wr := []) (w1 := [(q, .inr (7, [.ref mq, .ref zq, .ref sq, .ref bq, .ref cq, .long sm, .ref pq, .int ps, .int th'_4])), (mq, .inl (cZ, 12288, .inl fM)), (zq, .inl (cI, 3, .inl fS)), (sq, .inl (cI, 6156, .inl fP)), (bq, .inl (cI, 3, .inl fB)), (cq, .inl (cJ, 64, .inr (.inl fC))), (pq, .inl (cI, 8, .inl fT))]) hP hD [0, 1, 2, 3, 4, 5, 6] [] rfl rfl (by decide) (by decide) hk1 hFc hP1 hD1
  generalize H1 = H at hP hS ⊢
  have hP : va_P (dC, dI) vwCl [(q, .inr (7, [.ref mq, .ref zq, .ref sq, .ref bq, .ref cq, .long sm, .ref pq, .int ps, .int th'_4])), (mq, .inl (cZ, 12288, .inl fM)), (zq, .inl (cI, 3, .inl fS)), (sq, .inl (cI, 6156, .inl fP)), (bq, .inl (cI, 3, .inl fB)), (cq, .inl (cJ, 64, .inr (.inl fC))), (pq, .inl (cI, 8, .inl fT))] H := hP
  have hD : va_D A [(q, .inr (7, [.ref mq, .ref zq, .ref sq, .ref bq, .ref cq, .long sm, .ref pq, .int ps, .int th'_4])), (mq, .inl (cZ, 12288, .inl fM)), (zq, .inl (cI, 3, .inl fS)), (sq, .inl (cI, 6156, .inl fP)), (bq, .inl (cI, 3, .inl fB)), (cq, .inl (cJ, 64, .inr (.inl fC))), (pq, .inl (cI, 8, .inl fT))] := hD
  obtain ⟨he, hw_1⟩ := hw_1
  subst he
  have hth := hw_1
  refine lv_if_eq (tgt := 18) hx hb dX8_bucketSize_6 (by decide) (fun qc_5 => ?_) (fun qc_5 => ?_)
  · have c_5 : true = false := b2i_f qc_5
    cases c_5
  · have c_5 : true = true := b2i_t qc_5
    refine lv_aload_n hx hb dX8_bucketSize_9 rfl (lv_at hl 0 rfl) ?_
    refine lv_iload_n hx hb dX8_bucketSize_10 rfl (lv_at hl 1 rfl) ?_
    refine lv_iload_n hx hb dX8_bucketSize_11 rfl (lv_at hl 2 rfl) ?_
    have hPc := hP.sub (ws' := [(q, .inr (7, [.ref mq, .ref zq, .ref sq, .ref bq, .ref cq, .long sm, .ref pq, .int ps, .int th'_4])), (mq, .inl (cZ, 12288, .inl fM)), (zq, .inl (cI, 3, .inl fS)), (sq, .inl (cI, 6156, .inl fP)), (bq, .inl (cI, 3, .inl fB)), (cq, .inl (cJ, 64, .inr (.inl fC))), (pq, .inl (cI, 8, .inl fT))]) [0, 1, 2, 3, 4, 5, 6] rfl
    have hKc := hK.sub (tys' := [(cZ, .boolean), (cI, .int), (cJ, .long)]) [0, 1, 2] rfl
    refine vp_callSi (W.runV (As := [.int (nI k), .int (nI x)]) (rest := []) ⟨hx, hb, hml, hown, hts⟩ (c_X8_held l dC dI q mq zq sq bq cq pq cZ cI cJ fM fS fP fB fC sm fT ps th'_4 M P k x (by first | assumption | omega) (by first | assumption | omega) (by first | assumption | omega) (by first | assumption | omega)) (cwV 2 hts gX8_bucketSize_X8_held rfl rfl rfl (by decide +kernel) ⟨Nat.le_of_ble_eq_true rfl, Nat.le_of_ble_eq_true rfl⟩) ⟨fun a U g mk q => by obtain ⟨q0, qP, qK⟩ := q; exact ⟨q0, qP, va_K.moved (u := U) (U := U.calling g mk a) (Vm.Alike.refl U.vm) qK⟩, va_recv hKc hPc (ci := 7) (q0 := 0) rfl rfl, fun U hU hW => ⟨rfl, by rw [hU]; exact hPc, va_K.moved hW.alike hKc⟩⟩ rfl rfl hl.1 rfl (lv_room (Nat.le_of_ble_eq_true rfl)) dX8_bucketSize_12 ⟨Nat.le_of_ble_eq_true rfl, Nat.le_of_ble_eq_true rfl⟩) (fun r_7 hw_6 => ?_)
    subst hw_6
    refine lv_goto (tgt := 19) hx hb dX8_bucketSize_15 (by decide) ?_
    have hP9 := hP.sub (ws' := [(q, .inr (7, [.ref mq, .ref zq, .ref sq, .ref bq, .ref cq, .long sm, .ref pq, .int ps, .int th'_4])), (mq, .inl (cZ, 12288, .inl fM)), (zq, .inl (cI, 3, .inl fS)), (sq, .inl (cI, 6156, .inl fP)), (bq, .inl (cI, 3, .inl fB)), (cq, .inl (cJ, 64, .inr (.inl fC))), (pq, .inl (cI, 8, .inl fT))]) [0, 1, 2, 3, 4, 5, 6] rfl
    have hD9 := hD.sub (ws' := [(q, .inr (7, [.ref mq, .ref zq, .ref sq, .ref bq, .ref cq, .long sm, .ref pq, .int ps, .int th'_4])), (mq, .inl (cZ, 12288, .inl fM)), (zq, .inl (cI, 3, .inl fS)), (sq, .inl (cI, 6156, .inl fP)), (bq, .inl (cI, 3, .inl fB)), (cq, .inl (cJ, 64, .inr (.inl fC))), (pq, .inl (cI, 8, .inl fT))]) [0, 1, 2, 3, 4, 5, 6] (by decide) rfl
    have hK9 := hK.sub (tys' := [(cZ, .boolean), (cI, .int), (cJ, .long)]) [0, 1, 2] rfl
    exact W.iret (v := nI (heldc (M k) (P k) (sp (P k) x))) hx hb hr (fun t9 ht hW => ⟨⟨nI (heldc (M k) (P k) (sp (P k) x)), th'_4, rfl, ⟨rfl, hth⟩, by rw [ht]; exact hP9, va_K.moved hW.alike hK9, hD9⟩, hS.F ht⟩) hS.2.2 dX8_bucketSize_19
set_option maxHeartbeats 4000000 in
set_option maxRecDepth 100000 in
/-- reference: c_X8_bucketSize_n -/
theorem c_X8_bucketSize_n (l : Launch) (dC : Nat → ClassId) (dI : Nat → Nat → Nat) (q : Nat) (mq : Nat) (zq : Nat) (sq : Nat) (bq : Nat) (cq : Nat) (pq : Nat) (cZ : ClassId) (cI : ClassId) (cJ : ClassId) (fM : Nat → Int32) (fS : Nat → Int32) (fP : Nat → Int32) (fB : Nat → Int32) (fC : Nat → Int64) (sm : Int64) (fT : Nat → Int32) (ps : Int32) (th : Int32) (P : Nat → Nat → Bool) (k : Nat) (w : Int32) (sz : Nat) (hX : MX fP fB P) (hk : k < 3) (hW : isP w (fb_ct (P k) 4096) = false) : Met l yX8_bucketSize wsX8_bucketSize ({ frames := 3, cells := 0, slots := 0, locals := 65 }) (va_Pc [.ref q, .int (nI k), .int w] (fun U => U.heap.size = sz ∧ va_P (dC, dI) vwCl [(q, .inr (7, [.ref mq, .ref zq, .ref sq, .ref bq, .ref cq, .long sm, .ref pq, .int ps, .int th])), (mq, .inl (cZ, 12288, .inl fM)), (zq, .inl (cI, 3, .inl fS)), (sq, .inl (cI, 6156, .inl fP)), (bq, .inl (cI, 3, .inl fB)), (cq, .inl (cJ, 64, .inr (.inl fC))), (pq, .inl (cI, 8, .inl fT))] U.heap ∧ va_K (dC, dI) vwCl [(cZ, .boolean), (cI, .int), (cJ, .long)] U ∧ va_D (fun _ => True) [(q, .inr (7, [.ref mq, .ref zq, .ref sq, .ref bq, .ref cq, .long sm, .ref pq, .int ps, .int th])), (mq, .inl (cZ, 12288, .inl fM)), (zq, .inl (cI, 3, .inl fS)), (sq, .inl (cI, 6156, .inl fP)), (bq, .inl (cI, 3, .inl fB)), (cq, .inl (cJ, 64, .inr (.inl fC))), (pq, .inl (cI, 8, .inl fT))])) (va_Qi (fun (r : Int32) (u : Int32) => u = nI 1) (fun (u : Int32) (t : State) => va_P (dC, dI) vwCl [(q, .inr (7, [.ref mq, .ref zq, .ref sq, .ref bq, .ref cq, .long sm, .ref pq, .int ps, .int u])), (mq, .inl (cZ, 12288, .inl fM)), (zq, .inl (cI, 3, .inl fS)), (sq, .inl (cI, 6156, .inl fP)), (bq, .inl (cI, 3, .inl fB)), (cq, .inl (cJ, 64, .inr (.inl fC))), (pq, .inl (cI, 8, .inl fT))] t.heap ∧ va_K (dC, dI) vwCl [(cZ, .boolean), (cI, .int), (cJ, .long)] t ∧ va_D (va_A [(q, .inr (7, [.ref mq, .ref zq, .ref sq, .ref bq, .ref cq, .long sm, .ref pq, .int ps, .int th])), (mq, .inl (cZ, 12288, .inl fM)), (zq, .inl (cI, 3, .inl fS)), (sq, .inl (cI, 6156, .inl fP)), (bq, .inl (cI, 3, .inl fB)), (cq, .inl (cJ, 64, .inr (.inl fC))), (pq, .inl (cI, 8, .inl fT))] sz) [(q, .inr (7, [.ref mq, .ref zq, .ref sq, .ref bq, .ref cq, .long sm, .ref pq, .int ps, .int u])), (mq, .inl (cZ, 12288, .inl fM)), (zq, .inl (cI, 3, .inl fS)), (sq, .inl (cI, 6156, .inl fP)), (bq, .inl (cI, 3, .inl fB)), (cq, .inl (cJ, 64, .inr (.inl fC))), (pq, .inl (cI, 8, .inl fT))]) (va_A [(q, .inr (7, [.ref mq, .ref zq, .ref sq, .ref bq, .ref cq, .long sm, .ref pq, .int ps, .int th])), (mq, .inl (cZ, 12288, .inl fM)), (zq, .inl (cI, 3, .inl fS)), (sq, .inl (cI, 6156, .inl fP)), (bq, .inl (cI, 3, .inl fB)), (cq, .inl (cJ, 64, .inr (.inl fC))), (pq, .inl (cI, 8, .inl fT))] sz)) 0 0 (va_A [(q, .inr (7, [.ref mq, .ref zq, .ref sq, .ref bq, .ref cq, .long sm, .ref pq, .int ps, .int th])), (mq, .inl (cZ, 12288, .inl fM)), (zq, .inl (cI, 3, .inl fS)), (sq, .inl (cI, 6156, .inl fP)), (bq, .inl (cI, 3, .inl fB)), (cq, .inl (cJ, 64, .inr (.inl fC))), (pq, .inl (cI, 8, .inl fT))] sz) := by
  refine Met.ofW (cc := cX8_bucketSize) (maxL := 3) (ret := (some .int)) (by decide) rfl ?_
  intro p e s m args below meth c s₁ B hml hv
  obtain ⟨rfl, hsz, hP, hK, hD0⟩ := hv
  have hx := B.exec
  have hb := B.bytes
  have hr := B.returns
  have hts := atoms_spec (ws := wsX8_bucketSize) B.pre
  have hown : s.vm.findClass RX8 = some m.cls := findClass_of_methodNamed B.named
  have hlocks := B.notSynchronized
  subst hsz
  have hD := hD0.self (sz := s.heap.size)
  generalize hAe : va_A [(q, .inr (7, [.ref mq, .ref zq, .ref sq, .ref bq, .ref cq, .long sm, .ref pq, .int ps, .int th])), (mq, .inl (cZ, 12288, .inl fM)), (zq, .inl (cI, 3, .inl fS)), (sq, .inl (cI, 6156, .inl fP)), (bq, .inl (cI, 3, .inl fB)), (cq, .inl (cJ, 64, .inr (.inl fC))), (pq, .inl (cI, 8, .inl fT))] s.heap.size = A at hD ⊢
  have hA : ∀ q : Nat, s.heap.size ≤ q → A q := fun q h => by rw [← hAe]; exact Or.inr h
  have hS : va_S A s.heap s.heap [] := va_S.rf
  have hP : va_P (dC, dI) vwCl [(q, .inr (7, [.ref mq, .ref zq, .ref sq, .ref bq, .ref cq, .long sm, .ref pq, .int ps, .int th])), (mq, .inl (cZ, 12288, .inl fM)), (zq, .inl (cI, 3, .inl fS)), (sq, .inl (cI, 6156, .inl fP)), (bq, .inl (cI, 3, .inl fB)), (cq, .inl (cJ, 64, .inr (.inl fC))), (pq, .inl (cI, 8, .inl fT))] s.heap := hP
  have hl := lv_entry ([.ref q, .int (nI k), .int w]) (n := 3) (Nat.le_of_ble_eq_true rfl)
  rw [lg_entry_eq]
  generalize (lg_sl ([.ref q, .int (nI k), .int w]) ++ List.replicate (3 - (lg_sl ([.ref q, .int (nI k), .int w])).length) Slot.unset).toArray = ls at hl ⊢
  have hl : lv_has ls 3 [(0, .ref q), (1, .int (nI k)), (2, .int w)] := hl
  refine lv_aload_n hx hb dX8_bucketSize_0 rfl (lv_at hl 0 rfl) ?_
  refine lv_iload_n hx hb dX8_bucketSize_1 rfl (lv_at hl 1 rfl) ?_
  refine lv_iload_n hx hb dX8_bucketSize_2 rfl (lv_at hl 2 rfl) ?_
  have hPc := hP.sub (ws' := [(q, .inr (7, [.ref mq, .ref zq, .ref sq, .ref bq, .ref cq, .long sm, .ref pq, .int ps, .int th])), (mq, .inl (cZ, 12288, .inl fM)), (zq, .inl (cI, 3, .inl fS)), (sq, .inl (cI, 6156, .inl fP)), (bq, .inl (cI, 3, .inl fB)), (cq, .inl (cJ, 64, .inr (.inl fC))), (pq, .inl (cI, 8, .inl fT))]) [0, 1, 2, 3, 4, 5, 6] rfl
  have hKc := hK.sub (tys' := [(cZ, .boolean), (cI, .int), (cJ, .long)]) [0, 1, 2] rfl
  have hDc := hD.sub (ws' := [(q, .inr (7, [.ref mq, .ref zq, .ref sq, .ref bq, .ref cq, .long sm, .ref pq, .int ps, .int th])), (mq, .inl (cZ, 12288, .inl fM)), (zq, .inl (cI, 3, .inl fS)), (sq, .inl (cI, 6156, .inl fP)), (bq, .inl (cI, 3, .inl fB)), (cq, .inl (cJ, 64, .inr (.inl fC))), (pq, .inl (cI, 8, .inl fT))]) [0, 1, 2, 3, 4, 5, 6] (by decide) rfl
  have hFc := va_free (wc := [(q, .inr (7, [.ref mq, .ref zq, .ref sq, .ref bq, .ref cq, .long sm, .ref pq, .int ps, .int th])), (mq, .inl (cZ, 12288, .inl fM)), (zq, .inl (cI, 3, .inl fS)), (sq, .inl (cI, 6156, .inl fP)), (bq, .inl (cI, 3, .inl fB)), (cq, .inl (cJ, 64, .inr (.inl fC))), (pq, .inl (cI, 8, .inl fT))]) hD hS hA [0, 1, 2, 3, 4, 5, 6] rfl
  refine va_calli (va_runV (As := [.int (nI k), .int w]) (rest := []) ⟨hx, hb, hml, hown, hts⟩ (c_X8_isBucket_n l dC dI q mq zq sq bq cq pq cZ cI cJ fM fS fP fB fC sm fT ps th P k w s.heap.size (by first | assumption | omega) (by first | assumption | omega) (by first | assumption | omega)) (cwV 2 hts gX8_bucketSize_X8_isBucket rfl rfl rfl (by decide +kernel) ⟨Nat.le_of_ble_eq_true rfl, Nat.le_of_ble_eq_true rfl⟩) ⟨fun a U g mk q => by obtain ⟨q0, q1, qP, qK, qD⟩ := q; exact ⟨q0, q1, qP, va_K.moved (u := U) (U := U.calling g mk a) (Vm.Alike.refl U.vm) qK, qD⟩, va_recv hKc hPc (ci := 7) (q0 := 0) rfl rfl, fun U hU hW => ⟨rfl, by rw [hU], by rw [hU]; exact hPc, va_K.moved hW.alike hKc, hDc.weaken (fun _ _ _ _ => trivial)⟩⟩ rfl rfl hl.1 rfl (lv_room (Nat.le_of_ble_eq_true rfl)) dX8_bucketSize_3 ⟨Nat.le_of_ble_eq_true rfl, Nat.le_of_ble_eq_true rfl⟩) hS (fun q _ h => hFc q h) hFc (fun r_3 u_2 t9 H1 locs ht hvm hw_1 hB hz1 hk1 hS => ?_)
  obtain ⟨th'_4, rfl⟩ : ∃ z, z = u_2 := ⟨_, rfl⟩
  obtain ⟨hP1, hK1, hD1⟩ := hB
  rw [ht] at hP1
  have hK1 := va_K.moved hvm.symm hK1
  try dsimp only at hw_1 hP1 hK1 hD1
  obtain ⟨hP, hD⟩ := va_join (wr := []) (w1 := [(q, .inr (7, [.ref mq, .ref zq, .ref sq, .ref bq, .ref cq, .long sm, .ref pq, .int ps, .int th'_4])), (mq, .inl (cZ, 12288, .inl fM)), (zq, .inl (cI, 3, .inl fS)), (sq, .inl (cI, 6156, .inl fP)), (bq, .inl (cI, 3, .inl fB)), (cq, .inl (cJ, 64, .inr (.inl fC))), (pq, .inl (cI, 8, .inl fT))]) hP hD [0, 1, 2, 3, 4, 5, 6] [] rfl rfl (by decide) (by decide) hk1 hFc hP1 hD1
  generalize H1 = H at hP hS ⊢
  have hP : va_P (dC, dI) vwCl [(q, .inr (7, [.ref mq, .ref zq, .ref sq, .ref bq, .ref cq, .long sm, .ref pq, .int ps, .int th'_4])), (mq, .inl (cZ, 12288, .inl fM)), (zq, .inl (cI, 3, .inl fS)), (sq, .inl (cI, 6156, .inl fP)), (bq, .inl (cI, 3, .inl fB)), (cq, .inl (cJ, 64, .inr (.inl fC))), (pq, .inl (cI, 8, .inl fT))] H := hP
  have hD : va_D A [(q, .inr (7, [.ref mq, .ref zq, .ref sq, .ref bq, .ref cq, .long sm, .ref pq, .int ps, .int th'_4])), (mq, .inl (cZ, 12288, .inl fM)), (zq, .inl (cI, 3, .inl fS)), (sq, .inl (cI, 6156, .inl fP)), (bq, .inl (cI, 3, .inl fB)), (cq, .inl (cJ, 64, .inr (.inl fC))), (pq, .inl (cI, 8, .inl fT))] := hD
  obtain ⟨he, hw_1⟩ := hw_1
  subst he
  have hth := hw_1
  refine lv_if_eq (tgt := 18) hx hb dX8_bucketSize_6 (by decide) (fun qc_5 => ?_) (fun qc_5 => ?_)
  · have c_5 : false = false := b2i_f qc_5
    refine lv_iconst (v := nI 0) hx hb dX8_bucketSize_18 (by decide +kernel) ?_
    have hP9 := hP.sub (ws' := [(q, .inr (7, [.ref mq, .ref zq, .ref sq, .ref bq, .ref cq, .long sm, .ref pq, .int ps, .int th'_4])), (mq, .inl (cZ, 12288, .inl fM)), (zq, .inl (cI, 3, .inl fS)), (sq, .inl (cI, 6156, .inl fP)), (bq, .inl (cI, 3, .inl fB)), (cq, .inl (cJ, 64, .inr (.inl fC))), (pq, .inl (cI, 8, .inl fT))]) [0, 1, 2, 3, 4, 5, 6] rfl
    have hD9 := hD.sub (ws' := [(q, .inr (7, [.ref mq, .ref zq, .ref sq, .ref bq, .ref cq, .long sm, .ref pq, .int ps, .int th'_4])), (mq, .inl (cZ, 12288, .inl fM)), (zq, .inl (cI, 3, .inl fS)), (sq, .inl (cI, 6156, .inl fP)), (bq, .inl (cI, 3, .inl fB)), (cq, .inl (cJ, 64, .inr (.inl fC))), (pq, .inl (cI, 8, .inl fT))]) [0, 1, 2, 3, 4, 5, 6] (by decide) rfl
    have hK9 := hK.sub (tys' := [(cZ, .boolean), (cI, .int), (cJ, .long)]) [0, 1, 2] rfl
    exact W.iret (v := nI 0) hx hb hr (fun t9 ht hW => ⟨⟨nI 0, th'_4, rfl, hth, by rw [ht]; exact hP9, va_K.moved hW.alike hK9, hD9⟩, hS.F ht⟩) hS.2.2 dX8_bucketSize_19
  · have c_5 : false = true := b2i_t qc_5
    cases c_5
set_option maxHeartbeats 4000000 in
set_option maxRecDepth 100000 in
/-- reference: c_X8_bucketSize_s -/
theorem c_X8_bucketSize_s (l : Launch) (dC : Nat → ClassId) (dI : Nat → Nat → Nat) (q : Nat) (mq : Nat) (zq : Nat) (sq : Nat) (bq : Nat) (cq : Nat) (pq : Nat) (cZ : ClassId) (cI : ClassId) (cJ : ClassId) (fM : Nat → Int32) (fS : Nat → Int32) (fP : Nat → Int32) (fB : Nat → Int32) (fC : Nat → Int64) (sm : Int64) (fT : Nat → Int32) (ps : Int32) (th : Int32) (v : Int32) (w : Int32) (sz : Nat) (hSf : isS v = false) : Met l yX8_bucketSize wsX8_bucketSize ({ frames := 3, cells := 0, slots := 0, locals := 65 }) (va_Pc [.ref q, .int v, .int w] (fun U => U.heap.size = sz ∧ va_P (dC, dI) vwCl [(q, .inr (7, [.ref mq, .ref zq, .ref sq, .ref bq, .ref cq, .long sm, .ref pq, .int ps, .int th])), (mq, .inl (cZ, 12288, .inl fM)), (zq, .inl (cI, 3, .inl fS)), (sq, .inl (cI, 6156, .inl fP)), (bq, .inl (cI, 3, .inl fB)), (cq, .inl (cJ, 64, .inr (.inl fC))), (pq, .inl (cI, 8, .inl fT))] U.heap ∧ va_K (dC, dI) vwCl [(cZ, .boolean), (cI, .int), (cJ, .long)] U ∧ va_D (fun _ => True) [(q, .inr (7, [.ref mq, .ref zq, .ref sq, .ref bq, .ref cq, .long sm, .ref pq, .int ps, .int th])), (mq, .inl (cZ, 12288, .inl fM)), (zq, .inl (cI, 3, .inl fS)), (sq, .inl (cI, 6156, .inl fP)), (bq, .inl (cI, 3, .inl fB)), (cq, .inl (cJ, 64, .inr (.inl fC))), (pq, .inl (cI, 8, .inl fT))])) (va_Qi (fun (r : Int32) (u : Int32) => u = nI 1) (fun (u : Int32) (t : State) => va_P (dC, dI) vwCl [(q, .inr (7, [.ref mq, .ref zq, .ref sq, .ref bq, .ref cq, .long sm, .ref pq, .int ps, .int u])), (mq, .inl (cZ, 12288, .inl fM)), (zq, .inl (cI, 3, .inl fS)), (sq, .inl (cI, 6156, .inl fP)), (bq, .inl (cI, 3, .inl fB)), (cq, .inl (cJ, 64, .inr (.inl fC))), (pq, .inl (cI, 8, .inl fT))] t.heap ∧ va_K (dC, dI) vwCl [(cZ, .boolean), (cI, .int), (cJ, .long)] t ∧ va_D (va_A [(q, .inr (7, [.ref mq, .ref zq, .ref sq, .ref bq, .ref cq, .long sm, .ref pq, .int ps, .int th])), (mq, .inl (cZ, 12288, .inl fM)), (zq, .inl (cI, 3, .inl fS)), (sq, .inl (cI, 6156, .inl fP)), (bq, .inl (cI, 3, .inl fB)), (cq, .inl (cJ, 64, .inr (.inl fC))), (pq, .inl (cI, 8, .inl fT))] sz) [(q, .inr (7, [.ref mq, .ref zq, .ref sq, .ref bq, .ref cq, .long sm, .ref pq, .int ps, .int u])), (mq, .inl (cZ, 12288, .inl fM)), (zq, .inl (cI, 3, .inl fS)), (sq, .inl (cI, 6156, .inl fP)), (bq, .inl (cI, 3, .inl fB)), (cq, .inl (cJ, 64, .inr (.inl fC))), (pq, .inl (cI, 8, .inl fT))]) (va_A [(q, .inr (7, [.ref mq, .ref zq, .ref sq, .ref bq, .ref cq, .long sm, .ref pq, .int ps, .int th])), (mq, .inl (cZ, 12288, .inl fM)), (zq, .inl (cI, 3, .inl fS)), (sq, .inl (cI, 6156, .inl fP)), (bq, .inl (cI, 3, .inl fB)), (cq, .inl (cJ, 64, .inr (.inl fC))), (pq, .inl (cI, 8, .inl fT))] sz)) 0 0 (va_A [(q, .inr (7, [.ref mq, .ref zq, .ref sq, .ref bq, .ref cq, .long sm, .ref pq, .int ps, .int th])), (mq, .inl (cZ, 12288, .inl fM)), (zq, .inl (cI, 3, .inl fS)), (sq, .inl (cI, 6156, .inl fP)), (bq, .inl (cI, 3, .inl fB)), (cq, .inl (cJ, 64, .inr (.inl fC))), (pq, .inl (cI, 8, .inl fT))] sz) := by
  refine Met.ofW (cc := cX8_bucketSize) (maxL := 3) (ret := (some .int)) (by decide) rfl ?_
  intro p e s m args below meth c s₁ B hml hv
  obtain ⟨rfl, hsz, hP, hK, hD0⟩ := hv
  have hx := B.exec
  have hb := B.bytes
  have hr := B.returns
  have hts := atoms_spec (ws := wsX8_bucketSize) B.pre
  have hown : s.vm.findClass RX8 = some m.cls := findClass_of_methodNamed B.named
  have hlocks := B.notSynchronized
  subst hsz
  have hD := hD0.self (sz := s.heap.size)
  generalize hAe : va_A [(q, .inr (7, [.ref mq, .ref zq, .ref sq, .ref bq, .ref cq, .long sm, .ref pq, .int ps, .int th])), (mq, .inl (cZ, 12288, .inl fM)), (zq, .inl (cI, 3, .inl fS)), (sq, .inl (cI, 6156, .inl fP)), (bq, .inl (cI, 3, .inl fB)), (cq, .inl (cJ, 64, .inr (.inl fC))), (pq, .inl (cI, 8, .inl fT))] s.heap.size = A at hD ⊢
  have hA : ∀ q : Nat, s.heap.size ≤ q → A q := fun q h => by rw [← hAe]; exact Or.inr h
  have hS : va_S A s.heap s.heap [] := va_S.rf
  have hP : va_P (dC, dI) vwCl [(q, .inr (7, [.ref mq, .ref zq, .ref sq, .ref bq, .ref cq, .long sm, .ref pq, .int ps, .int th])), (mq, .inl (cZ, 12288, .inl fM)), (zq, .inl (cI, 3, .inl fS)), (sq, .inl (cI, 6156, .inl fP)), (bq, .inl (cI, 3, .inl fB)), (cq, .inl (cJ, 64, .inr (.inl fC))), (pq, .inl (cI, 8, .inl fT))] s.heap := hP
  have hl := lv_entry ([.ref q, .int v, .int w]) (n := 3) (Nat.le_of_ble_eq_true rfl)
  rw [lg_entry_eq]
  generalize (lg_sl ([.ref q, .int v, .int w]) ++ List.replicate (3 - (lg_sl ([.ref q, .int v, .int w])).length) Slot.unset).toArray = ls at hl ⊢
  have hl : lv_has ls 3 [(0, .ref q), (1, .int v), (2, .int w)] := hl
  refine lv_aload_n hx hb dX8_bucketSize_0 rfl (lv_at hl 0 rfl) ?_
  refine lv_iload_n hx hb dX8_bucketSize_1 rfl (lv_at hl 1 rfl) ?_
  refine lv_iload_n hx hb dX8_bucketSize_2 rfl (lv_at hl 2 rfl) ?_
  have hPc := hP.sub (ws' := [(q, .inr (7, [.ref mq, .ref zq, .ref sq, .ref bq, .ref cq, .long sm, .ref pq, .int ps, .int th])), (mq, .inl (cZ, 12288, .inl fM)), (zq, .inl (cI, 3, .inl fS)), (sq, .inl (cI, 6156, .inl fP)), (bq, .inl (cI, 3, .inl fB)), (cq, .inl (cJ, 64, .inr (.inl fC))), (pq, .inl (cI, 8, .inl fT))]) [0, 1, 2, 3, 4, 5, 6] rfl
  have hKc := hK.sub (tys' := [(cZ, .boolean), (cI, .int), (cJ, .long)]) [0, 1, 2] rfl
  have hDc := hD.sub (ws' := [(q, .inr (7, [.ref mq, .ref zq, .ref sq, .ref bq, .ref cq, .long sm, .ref pq, .int ps, .int th])), (mq, .inl (cZ, 12288, .inl fM)), (zq, .inl (cI, 3, .inl fS)), (sq, .inl (cI, 6156, .inl fP)), (bq, .inl (cI, 3, .inl fB)), (cq, .inl (cJ, 64, .inr (.inl fC))), (pq, .inl (cI, 8, .inl fT))]) [0, 1, 2, 3, 4, 5, 6] (by decide) rfl
  have hFc := va_free (wc := [(q, .inr (7, [.ref mq, .ref zq, .ref sq, .ref bq, .ref cq, .long sm, .ref pq, .int ps, .int th])), (mq, .inl (cZ, 12288, .inl fM)), (zq, .inl (cI, 3, .inl fS)), (sq, .inl (cI, 6156, .inl fP)), (bq, .inl (cI, 3, .inl fB)), (cq, .inl (cJ, 64, .inr (.inl fC))), (pq, .inl (cI, 8, .inl fT))]) hD hS hA [0, 1, 2, 3, 4, 5, 6] rfl
  refine va_calli (va_runV (As := [.int v, .int w]) (rest := []) ⟨hx, hb, hml, hown, hts⟩ (c_X8_isBucket_s l dC dI q mq zq sq bq cq pq cZ cI cJ fM fS fP fB fC sm fT ps th v w s.heap.size (by first | assumption | omega)) (cwV 2 hts gX8_bucketSize_X8_isBucket rfl rfl rfl (by decide +kernel) ⟨Nat.le_of_ble_eq_true rfl, Nat.le_of_ble_eq_true rfl⟩) ⟨fun a U g mk q => by obtain ⟨q0, q1, qP, qK, qD⟩ := q; exact ⟨q0, q1, qP, va_K.moved (u := U) (U := U.calling g mk a) (Vm.Alike.refl U.vm) qK, qD⟩, va_recv hKc hPc (ci := 7) (q0 := 0) rfl rfl, fun U hU hW => ⟨rfl, by rw [hU], by rw [hU]; exact hPc, va_K.moved hW.alike hKc, hDc.weaken (fun _ _ _ _ => trivial)⟩⟩ rfl rfl hl.1 rfl (lv_room (Nat.le_of_ble_eq_true rfl)) dX8_bucketSize_3 ⟨Nat.le_of_ble_eq_true rfl, Nat.le_of_ble_eq_true rfl⟩) hS (fun q _ h => hFc q h) hFc (fun r_3 u_2 t9 H1 locs ht hvm hw_1 hB hz1 hk1 hS => ?_)
  obtain ⟨th'_4, rfl⟩ : ∃ z, z = u_2 := ⟨_, rfl⟩
  obtain ⟨hP1, hK1, hD1⟩ := hB
  rw [ht] at hP1
  have hK1 := va_K.moved hvm.symm hK1
  try dsimp only at hw_1 hP1 hK1 hD1
  obtain ⟨hP, hD⟩ := va_join (wr := []) (w1 := [(q, .inr (7, [.ref mq, .ref zq, .ref sq, .ref bq, .ref cq, .long sm, .ref pq, .int ps, .int th'_4])), (mq, .inl (cZ, 12288, .inl fM)), (zq, .inl (cI, 3, .inl fS)), (sq, .inl (cI, 6156, .inl fP)), (bq, .inl (cI, 3, .inl fB)), (cq, .inl (cJ, 64, .inr (.inl fC))), (pq, .inl (cI, 8, .inl fT))]) hP hD [0, 1, 2, 3, 4, 5, 6] [] rfl rfl (by decide) (by decide) hk1 hFc hP1 hD1
  generalize H1 = H at hP hS ⊢
  have hP : va_P (dC, dI) vwCl [(q, .inr (7, [.ref mq, .ref zq, .ref sq, .ref bq, .ref cq, .long sm, .ref pq, .int ps, .int th'_4])), (mq, .inl (cZ, 12288, .inl fM)), (zq, .inl (cI, 3, .inl fS)), (sq, .inl (cI, 6156, .inl fP)), (bq, .inl (cI, 3, .inl fB)), (cq, .inl (cJ, 64, .inr (.inl fC))), (pq, .inl (cI, 8, .inl fT))] H := hP
  have hD : va_D A [(q, .inr (7, [.ref mq, .ref zq, .ref sq, .ref bq, .ref cq, .long sm, .ref pq, .int ps, .int th'_4])), (mq, .inl (cZ, 12288, .inl fM)), (zq, .inl (cI, 3, .inl fS)), (sq, .inl (cI, 6156, .inl fP)), (bq, .inl (cI, 3, .inl fB)), (cq, .inl (cJ, 64, .inr (.inl fC))), (pq, .inl (cI, 8, .inl fT))] := hD
  obtain ⟨he, hw_1⟩ := hw_1
  subst he
  have hth := hw_1
  refine lv_if_eq (tgt := 18) hx hb dX8_bucketSize_6 (by decide) (fun qc_5 => ?_) (fun qc_5 => ?_)
  · have c_5 : false = false := b2i_f qc_5
    refine lv_iconst (v := nI 0) hx hb dX8_bucketSize_18 (by decide +kernel) ?_
    have hP9 := hP.sub (ws' := [(q, .inr (7, [.ref mq, .ref zq, .ref sq, .ref bq, .ref cq, .long sm, .ref pq, .int ps, .int th'_4])), (mq, .inl (cZ, 12288, .inl fM)), (zq, .inl (cI, 3, .inl fS)), (sq, .inl (cI, 6156, .inl fP)), (bq, .inl (cI, 3, .inl fB)), (cq, .inl (cJ, 64, .inr (.inl fC))), (pq, .inl (cI, 8, .inl fT))]) [0, 1, 2, 3, 4, 5, 6] rfl
    have hD9 := hD.sub (ws' := [(q, .inr (7, [.ref mq, .ref zq, .ref sq, .ref bq, .ref cq, .long sm, .ref pq, .int ps, .int th'_4])), (mq, .inl (cZ, 12288, .inl fM)), (zq, .inl (cI, 3, .inl fS)), (sq, .inl (cI, 6156, .inl fP)), (bq, .inl (cI, 3, .inl fB)), (cq, .inl (cJ, 64, .inr (.inl fC))), (pq, .inl (cI, 8, .inl fT))]) [0, 1, 2, 3, 4, 5, 6] (by decide) rfl
    have hK9 := hK.sub (tys' := [(cZ, .boolean), (cI, .int), (cJ, .long)]) [0, 1, 2] rfl
    exact W.iret (v := nI 0) hx hb hr (fun t9 ht hW => ⟨⟨nI 0, th'_4, rfl, hth, by rw [ht]; exact hP9, va_K.moved hW.alike hK9, hD9⟩, hS.F ht⟩) hS.2.2 dX8_bucketSize_19
  · have c_5 : false = true := b2i_t qc_5
    cases c_5
