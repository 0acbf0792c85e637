set_option maxHeartbeats 4000000 in
set_option maxRecDepth 100000 in
/-- MatchSearch(match, probed) -/
theorem c_X2_init (l : Launch) (dC : Nat → ClassId) (dI : Nat → Nat → Nat) (q : Nat) (x0 : Int32) (x1 : Int32) (a : Int32) (b : Int32) (sz : Nat) : Met l yX2_init wsX2_init ({ frames := 1, cells := 0, slots := 0, locals := 12 }) (va_Pc [.ref q, .int a, .int b] (fun U => U.heap.size = sz ∧ va_P (dC, dI) vwCl [(q, .inr (2, [.int x0, .int x1]))] U.heap ∧ va_K (dC, dI) vwCl [] U ∧ va_D (fun _ => True) [(q, .inr (2, [.int x0, .int x1]))])) (va_Qv (fun (u : Unit) => True) (fun (u : Unit) (t : State) => va_P (dC, dI) vwCl [(q, .inr (2, [.int a, .int b]))] t.heap ∧ va_K (dC, dI) vwCl [] t ∧ va_D (va_A [(q, .inr (2, [.int x0, .int x1]))] sz) [(q, .inr (2, [.int a, .int b]))]) (va_A [(q, .inr (2, [.int x0, .int x1]))] sz)) 0 0 (va_A [(q, .inr (2, [.int x0, .int x1]))] sz) := by
  refine Met.ofW (cc := cX2_init) (maxL := 3) (ret := none) (by decide) rfl ?_
  intro p e s m args below meth c s₁ B hml hv
  obtain ⟨rfl, hsz, hP, hK, hD0⟩ := hv
  have hx := B.exec
  have hb := B.bytes
  have hr := B.returns
  have hts := atoms_spec (ws := wsX2_init) B.pre
  have hown : s.vm.findClass RX2 = some m.cls := findClass_of_methodNamed B.named
  have hlocks := B.notSynchronized
  have hin : meth.name = "<init>" := (name_of_methodNamed B.named B.method).1
  subst hsz
  have hD := hD0.self (sz := s.heap.size)
  generalize hAe : va_A [(q, .inr (2, [.int x0, .int x1]))] s.heap.size = A at hD ⊢
  have hA : ∀ q : Nat, s.heap.size ≤ q → A q := fun q h => by rw [← hAe]; exact Or.inr h
  have hS : va_S A s.heap s.heap [] := va_S.rf
  have hP : va_P (dC, dI) vwCl [(q, .inr (2, [.int x0, .int x1]))] s.heap := hP
  have hl := lv_entry ([.ref q, .int a, .int b]) (n := 3) (Nat.le_of_ble_eq_true rfl)
  rw [lg_entry_eq]
  generalize (lg_sl ([.ref q, .int a, .int b]) ++ List.replicate (3 - (lg_sl ([.ref q, .int a, .int b])).length) Slot.unset).toArray = ls at hl ⊢
  have hl : lv_has ls 3 [(0, .ref q), (1, .int a), (2, .int b)] := hl
  refine lv_aload_n hx hb dX2_init_0 rfl (lv_at hl 0 rfl) ?_
  refine W.objInit hx hb hown (hts (.methodLink RX2 1 objectInit) (by decide +kernel)) (hts (.instanceMethod objectInit) (by decide +kernel)) (hts (.code objectInit ⟨#[0xb1]⟩ 1 none) (by decide +kernel)) rfl (by rw [hml]; exact hl.1) rfl dX2_init_1 (Nat.le_of_ble_eq_true rfl) (Nat.le_of_ble_eq_true rfl) ?_
  refine W.eq (g2 := F0 m 4 ls []) rfl ?_
  refine lv_aload_n hx hb dX2_init_4 rfl (lv_at hl 0 rfl) ?_
  refine lv_iload_n hx hb dX2_init_5 rfl (lv_at hl 1 rfl) ?_
  refine va_putF (D := (dC, dI)) (ci := 2) (v := .int a) (ty := .int) (C := RX2) (T := TX2) (N := 2) hx hb hts (by decide +kernel) tyX2 tyX2_ok nmX2 hown hK hP hD hS 0 rfl rfl 0 (by decide) (hts (.fieldLink RX2 7 "SmallNumberSets$MatchSearch" "match" "I") (by decide +kernel)) (fun _ h9 => h9) rfl hin rfl (by decide +kernel) rfl rfl (Nat.le_of_ble_eq_true rfl) dX2_init_6 (fun H locs hP hD hS => ?_)
  have hP : va_P (dC, dI) vwCl [(q, .inr (2, [.int a, .int x1]))] H := hP
  have hD : va_D A [(q, .inr (2, [.int a, .int x1]))] := hD
  refine lv_aload_n hx hb dX2_init_9 rfl (lv_at hl 0 rfl) ?_
  refine lv_iload_n hx hb dX2_init_10 rfl (lv_at hl 2 rfl) ?_
  refine va_putF (D := (dC, dI)) (ci := 2) (v := .int b) (ty := .int) (C := RX2) (T := TX2) (N := 2) hx hb hts (by decide +kernel) tyX2 tyX2_ok nmX2 hown hK hP hD hS 0 rfl rfl 1 (by decide) (hts (.fieldLink RX2 13 "SmallNumberSets$MatchSearch" "probed" "I") (by decide +kernel)) (fun _ h9 => h9) rfl hin rfl (by decide +kernel) rfl rfl (Nat.le_of_ble_eq_true rfl) dX2_init_11 (fun H locs hP hD hS => ?_)
  have hP : va_P (dC, dI) vwCl [(q, .inr (2, [.int a, .int b]))] H := hP
  have hD : va_D A [(q, .inr (2, [.int a, .int b]))] := hD
  have hP9 := hP.sub (ws' := [(q, .inr (2, [.int a, .int b]))]) [0] rfl
  have hD9 := hD.sub (ws' := [(q, .inr (2, [.int a, .int b]))]) [0] (by decide) rfl
  have hK9 := hK.sub (tys' := []) [] rfl
  exact W.vret hx hb hr (fun t9 ht hW => ⟨⟨(), rfl, trivial, by rw [ht]; exact hP9, va_K.moved hW.alike hK9, hD9⟩, hS.F ht⟩) hS.2.2 dX2_init_14
set_option maxHeartbeats 4000000 in
set_option maxRecDepth 100000 in
/-- Trie.node -/
theorem c_X5_node (l : Launch) (dC : Nat → ClassId) (dI : Nat → Nat → Nat) (k : Nat) (n : Nat) (hk : k < 4096) (hn : n ≤ 12) : Met l yX5_node wsX5_node ({ frames := 0, cells := 0, slots := 0, locals := 0 }) (va_Pc [.int (nI k), .int (nI n)] (fun U => va_P (dC, dI) vwCl [] U.heap ∧ va_K (dC, dI) vwCl [] U)) (vp_Si (fun r => r = nI ((4096 + k) / 2 ^ (12 - n)))) 0 0 (fun _ => False) := by
  refine Met.ofW (cc := cX5_node) (maxL := 2) (ret := (some .int)) (by decide) rfl ?_
  intro p e s m args below meth c s₁ B hml hv
  obtain ⟨rfl, hP, hK⟩ := hv
  have hx := B.exec
  have hb := B.bytes
  have hr := B.returns
  have hts := atoms_spec (ws := wsX5_node) B.pre
  have hown : s.vm.findClass RX5 = some m.cls := findClass_of_methodNamed B.named
  have hlocks := B.notSynchronized
  have hP : va_P (dC, dI) vwCl [] s.heap := hP
  have hl := lv_entry ([.int (nI k), .int (nI n)]) (n := 2) (Nat.le_of_ble_eq_true rfl)
  rw [lg_entry_eq]
  generalize (lg_sl ([.int (nI k), .int (nI n)]) ++ List.replicate (2 - (lg_sl ([.int (nI k), .int (nI n)])).length) Slot.unset).toArray = ls at hl ⊢
  have hl : lv_has ls 2 [(0, .int (nI k)), (1, .int (nI n))] := hl
  refine lv_sipush (v := nI 4096) hx hb dX5_node_0 (by decide +kernel) ?_
  refine lv_iload_n hx hb dX5_node_3 rfl (lv_at hl 0 rfl) ?_
  refine lv_iadd hx hb dX5_node_4 ?_
  refine lv_cvi (nI_add _ _) ?_
  refine lv_bipush (v := nI 12) hx hb dX5_node_5 (by decide +kernel) ?_
  refine lv_iload_n hx hb dX5_node_7 rfl (lv_at hl 1 rfl) ?_
  refine lv_isub hx hb dX5_node_8 ?_
  refine lv_cvi (pk_sub (by omega)) ?_
  refine lv_ishr hx hb dX5_node_9 ?_
  refine lv_cvi (pk_shrN (by omega) _ (12 - n) (s_l _ (by omega))) ?_
  exact W.iret (v := nI ((4096 + k) / 2 ^ (12 - n))) hx hb hr (fun t9 ht hW => ⟨nI ((4096 + k) / 2 ^ (12 - n)), rfl, rfl, ht⟩) (fun q h => by cases h) dX5_node_10
set_option maxHeartbeats 4000000 in
set_option maxRecDepth 100000 in
/-- Trie.put -/
theorem c_X5_put (l : Launch) (dC : Nat → ClassId) (dI : Nat → Nat → Nat) (q : Nat) (b : Nat) (a : Nat) (cJ : ClassId) (f : Nat → Int64) (M : Nat → Bool) (k : Nat) (sz : Nat) (hT : TI M f) (hk : k < 4096) : Met l yX5_put wsX5_put ({ frames := 2, cells := 0, slots := 0, locals := 42 }) (va_Pc [.ref q, .int (nI k)] (fun U => U.heap.size = sz ∧ va_P (dC, dI) vwCl [(q, .inr (5, [.ref b])), (b, .inr (0, [.ref a])), (a, .inl (cJ, 128, .inr (.inl f)))] U.heap ∧ va_K (dC, dI) vwCl [(cJ, .long)] U ∧ va_D (fun _ => True) [(q, .inr (5, [.ref b])), (b, .inr (0, [.ref a])), (a, .inl (cJ, 128, .inr (.inl f)))])) (va_Qv (fun (u : (Nat → Int64)) => TI (ins M k) u) (fun (u : (Nat → Int64)) (t : State) => va_P (dC, dI) vwCl [(q, .inr (5, [.ref b])), (b, .inr (0, [.ref a])), (a, .inl (cJ, 128, .inr (.inl u)))] t.heap ∧ va_K (dC, dI) vwCl [(cJ, .long)] t ∧ va_D (va_A [(q, .inr (5, [.ref b])), (b, .inr (0, [.ref a])), (a, .inl (cJ, 128, .inr (.inl f)))] sz) [(q, .inr (5, [.ref b])), (b, .inr (0, [.ref a])), (a, .inl (cJ, 128, .inr (.inl u)))]) (va_A [(q, .inr (5, [.ref b])), (b, .inr (0, [.ref a])), (a, .inl (cJ, 128, .inr (.inl f)))] sz)) 0 0 (va_A [(q, .inr (5, [.ref b])), (b, .inr (0, [.ref a])), (a, .inl (cJ, 128, .inr (.inl f)))] sz) := by
  refine Met.ofW (cc := cX5_put) (maxL := 3) (ret := none) (by decide) rfl ?_
  intro p e s m args below meth c s₁ B hml hv
  obtain ⟨rfl, hsz, hP, hK, hD0⟩ := hv
  have hx := B.exec
  have hb := B.bytes
  have hr := B.returns
  have hts := atoms_spec (ws := wsX5_put) B.pre
  have hown : s.vm.findClass RX5 = some m.cls := findClass_of_methodNamed B.named
  have hlocks := B.notSynchronized
  subst hsz
  have hD := hD0.self (sz := s.heap.size)
  generalize hAe : va_A [(q, .inr (5, [.ref b])), (b, .inr (0, [.ref a])), (a, .inl (cJ, 128, .inr (.inl f)))] s.heap.size = A at hD ⊢
  have hA : ∀ q : Nat, s.heap.size ≤ q → A q := fun q h => by rw [← hAe]; exact Or.inr h
  have hS : va_S A s.heap s.heap [] := va_S.rf
  have hP : va_P (dC, dI) vwCl [(q, .inr (5, [.ref b])), (b, .inr (0, [.ref a])), (a, .inl (cJ, 128, .inr (.inl f)))] s.heap := hP
  have hl := lv_entry ([.ref q, .int (nI k)]) (n := 3) (Nat.le_of_ble_eq_true rfl)
  rw [lg_entry_eq]
  generalize (lg_sl ([.ref q, .int (nI k)]) ++ List.replicate (3 - (lg_sl ([.ref q, .int (nI k)])).length) Slot.unset).toArray = ls at hl ⊢
  have hl : lv_has ls 3 [(0, .ref q), (1, .int (nI k))] := hl
  refine lv_bipush (v := nI 12) hx hb dX5_put_0 (by decide +kernel) ?_
  refine lv_istore_n (lv' := [(2, .int (nI 12)), (0, .ref q), (1, .int (nI k))]) hx hb dX5_put_2 rfl hl (by decide) rfl (fun ls hl => ?_)
  have key_3_1 : ∀ (fu : Nat) (d : Nat) (g : Nat → Int64) (hd : d ≤ 13) (hg : TJ M (ins M k) d g) (hfu : d < fu) (H : Heap) (locs : List Loc) (hP : va_P (dC, dI) vwCl [(q, .inr (5, [.ref b])), (b, .inr (0, [.ref a])), (a, .inl (cJ, 128, .inr (.inl g)))] H) (hD : va_D A [(q, .inr (5, [.ref b])), (b, .inr (0, [.ref a])), (a, .inl (cJ, 128, .inr (.inl g)))]) (hS : va_S A s.heap H locs) (ls : Array Slot) (hl : lv_has ls 3 [(2, .int (dm d)), (0, .ref q), (1, .int (nI k))]), W p l e (headSpec wsX5_put ({ frames := 2, cells := 0, slots := 0, locals := 42 })).room s m ([.ref q, .int (nI k)] : List Value).toArray below meth c H locs 0 0 (MQ below (va_Qv (fun (u : (Nat → Int64)) => TI (ins M k) u) (fun (u : (Nat → Int64)) (t : State) => va_P (dC, dI) vwCl [(q, .inr (5, [.ref b])), (b, .inr (0, [.ref a])), (a, .inl (cJ, 128, .inr (.inl u)))] t.heap ∧ va_K (dC, dI) vwCl [(cJ, .long)] t ∧ va_D A [(q, .inr (5, [.ref b])), (b, .inr (0, [.ref a])), (a, .inl (cJ, 128, .inr (.inl u)))]) A) ([.ref q, .int (nI k)] : List Value).toArray s 0 0 A) (F0 m 3 ls []) := by
    intro fu
    induction fu with
    | zero =>
      intro d g hd hg hfu H locs hP hD hS ls hl
      exact absurd hfu (Nat.not_lt_zero _)
    | succ fu ih =>
      intro d g hd hg hfu H locs hP hD hS ls hl
      rcases d with _ | d
      · have hl : lv_has ls 3 [(2, .int (-1)), (0, .ref q), (1, .int (nI k))] := hl
        refine lv_iload_n hx hb dX5_put_3 rfl (lv_at hl 0 rfl) ?_
        refine lv_if_lt (tgt := 25) hx hb dX5_put_4 (by decide) (fun qc_2 => ?_) (fun qc_2 => ?_)
        · have hP9 := hP.sub (ws' := [(q, .inr (5, [.ref b])), (b, .inr (0, [.ref a])), (a, .inl (cJ, 128, .inr (.inl g)))]) [0, 1, 2] rfl
          have hD9 := hD.sub (ws' := [(q, .inr (5, [.ref b])), (b, .inr (0, [.ref a])), (a, .inl (cJ, 128, .inr (.inl g)))]) [0, 1, 2] (by decide) rfl
          have hK9 := hK.sub (tys' := [(cJ, .long)]) [0] rfl
          exact W.vret hx hb hr (fun t9 ht hW => ⟨⟨g, rfl, tj_end hg, by rw [ht]; exact hP9, va_K.moved hW.alike hK9, hD9⟩, hS.F ht⟩) hS.2.2 dX5_put_25
        · exact absurd (by decide) qc_2
      · have hl : lv_has ls 3 [(2, .int (nI d)), (0, .ref q), (1, .int (nI k))] := hl
        refine lv_iload_n hx hb dX5_put_3 rfl (lv_at hl 0 rfl) ?_
        refine lv_if_lt (tgt := 25) hx hb dX5_put_4 (by decide) (fun qc_3 => ?_) (fun qc_3 => ?_)
        · have c_3 : d < 0 := (nI_ltI (a := d) (b := 0) (by omega) (by omega)).mp qc_3
          exact absurd c_3 (Nat.not_lt_zero _)
        · have c_3 : ¬ d < 0 := fun h9 => qc_3 ((nI_ltI (a := d) (b := 0) (by omega) (by omega)).mpr h9)
          refine lv_aload_n hx hb dX5_put_7 rfl (lv_at hl 1 rfl) ?_
          refine va_get (D := (dC, dI)) (ci := 5) (v := .ref b) (C := RX5) (T := TX5) (N := 1) hx hb hts (by decide +kernel) hown hK hP 0 rfl rfl 0 (by decide) (hts (.fieldLink RX5 14 "SmallNumberSets$Trie" "nodes" "LSmallNumberSets$Bits;") (by decide +kernel)) (fun _ h9 => h9) rfl dX5_put_8 ?_
          refine lv_iload_n hx hb dX5_put_11 rfl (lv_at hl 2 rfl) ?_
          refine lv_iload_n hx hb dX5_put_12 rfl (lv_at hl 0 rfl) ?_
          have hPc := hP.sub (ws' := []) [] rfl
          have hKc := hK.sub (tys' := []) [] rfl
          refine vp_callSi (W.runS (As := [.int (nI k), .int (nI d)]) (rest := [.ref b]) ⟨hx, hb, hml, hown, hts⟩ (c_X5_node l dC dI k d (by omega) (by omega)) (va_cwS 2 hts gX5_put_X5_node rfl rfl rfl (by decide +kernel) ⟨Nat.le_of_ble_eq_true rfl, Nat.le_of_ble_eq_true rfl⟩) ⟨fun a U g mk q => by obtain ⟨q0, qP, qK⟩ := q; exact ⟨q0, qP, va_K.moved (u := U) (U := U.calling g mk a) (Vm.Alike.refl U.vm) qK⟩, fun U hU hW => ⟨rfl, by rw [hU]; exact hPc, va_K.moved hW.alike hKc⟩⟩ rfl rfl hl.1 rfl (lv_room (Nat.le_of_ble_eq_true rfl)) dX5_put_13 ⟨Nat.le_of_ble_eq_true rfl, Nat.le_of_ble_eq_true rfl⟩) (fun r_5 hw_4 => ?_)
          subst hw_4
          have hnb := node_eq (show d ≤ 12 by omega) k
          have hnc := k_lt (show d ≤ 12 by omega) hk
          have hnp := pw_le (show d ≤ 12 by omega)
          have hPc := hP.sub (ws' := [(b, .inr (0, [.ref a])), (a, .inl (cJ, 128, .inr (.inl g)))]) [1, 2] rfl
          have hKc := hK.sub (tys' := [(cJ, .long)]) [0] rfl
          have hDc := hD.sub (ws' := [(b, .inr (0, [.ref a])), (a, .inl (cJ, 128, .inr (.inl g)))]) [1, 2] (by decide) rfl
          have hFc := va_free (wc := [(b, .inr (0, [.ref a])), (a, .inl (cJ, 128, .inr (.inl g)))]) hD hS hA [1, 2] rfl
          refine va_callv (va_runV (As := [.int (nI ((4096 + k) / 2 ^ (12 - d)))]) (rest := []) ⟨hx, hb, hml, hown, hts⟩ (c_X0_put l dC dI b a cJ 128 g ((4096 + k) / 2 ^ (12 - d)) H.size (by omega) (by omega)) (cwV 1 hts gX5_put_X0_put rfl rfl rfl (by decide +kernel) ⟨Nat.le_of_ble_eq_true rfl, Nat.le_of_ble_eq_true rfl⟩) ⟨fun a U g mk q => by obtain ⟨q0, q1, qP, qK, qD⟩ := q; exact ⟨q0, q1, qP, va_K.moved (u := U) (U := U.calling g mk a) (Vm.Alike.refl U.vm) qK, qD⟩, va_recv hKc hPc (ci := 0) (q0 := 0) rfl rfl, fun U hU hW => ⟨rfl, by rw [hU], by rw [hU]; exact hPc, va_K.moved hW.alike hKc, hDc.weaken (fun _ _ _ _ => trivial)⟩⟩ rfl rfl hl.1 rfl (lv_room (Nat.le_of_ble_eq_true rfl)) dX5_put_16 ⟨Nat.le_of_ble_eq_true rfl, Nat.le_of_ble_eq_true rfl⟩) hS (fun q _ h => hFc q h) hFc (fun u_7 t9 H1 locs ht hvm hw_6 hB hz1 hk1 hS => ?_)
          obtain ⟨f'_9, rfl⟩ : ∃ z, z = u_7 := ⟨_, rfl⟩
          obtain ⟨hP1, hK1, hD1⟩ := hB
          rw [ht] at hP1
          have hK1 := va_K.moved hvm.symm hK1
          try dsimp only at hw_6 hP1 hK1 hD1
          obtain ⟨hP, hD⟩ := va_join (wr := [(q, .inr (5, [.ref b]))]) (w1 := [(b, .inr (0, [.ref a])), (a, .inl (cJ, 128, .inr (.inl f'_9)))]) hP hD [1, 2] [0] rfl rfl (by decide) (by decide) hk1 hFc hP1 hD1
          generalize H1 = H at hP hS ⊢
          have hP : va_P (dC, dI) vwCl [(q, .inr (5, [.ref b])), (b, .inr (0, [.ref a])), (a, .inl (cJ, 128, .inr (.inl f'_9)))] H := hP
          have hD : va_D A [(q, .inr (5, [.ref b])), (b, .inr (0, [.ref a])), (a, .inl (cJ, 128, .inr (.inl f'_9)))] := hD
          refine lv_iinc (v := dm d) (lv' := [(2, .int (dm d)), (0, .ref q), (1, .int (nI k))]) hx hb dX5_put_19 hl (k := 0) rfl (dm_dec _) (by decide) rfl (fun ls hl => ?_)
          refine lv_goto (tgt := 3) hx hb dX5_put_22 (by decide) ?_
          exact ih d f'_9 (by omega) (tj_put hk (by omega) hg hw_6) (by omega) _ _ hP hD hS ls (lv_sub hl [0, 1, 2] rfl)
  exact key_3_1 _ 13 f (by decide) (tj_0 hT) (Nat.lt_succ_self _) _ _ hP hD hS ls (lv_sub hl [0, 1, 2] rfl)
set_option maxHeartbeats 4000000 in
set_option maxRecDepth 100000 in
/-- Trie.take -/
theorem c_X5_take (l : Launch) (dC : Nat → ClassId) (dI : Nat → Nat → Nat) (q : Nat) (b : Nat) (a : Nat) (cJ : ClassId) (f : Nat → Int64) (M : Nat → Bool) (k : Nat) (sz : Nat) (hT : TI M f) (hk : k < 4096) : Met l yX5_take wsX5_take ({ frames := 2, cells := 0, slots := 0, locals := 42 }) (va_Pc [.ref q, .int (nI k)] (fun U => U.heap.size = sz ∧ va_P (dC, dI) vwCl [(q, .inr (5, [.ref b])), (b, .inr (0, [.ref a])), (a, .inl (cJ, 128, .inr (.inl f)))] U.heap ∧ va_K (dC, dI) vwCl [(cJ, .long)] U ∧ va_D (fun _ => True) [(q, .inr (5, [.ref b])), (b, .inr (0, [.ref a])), (a, .inl (cJ, 128, .inr (.inl f)))])) (va_Qv (fun (u : (Nat → Int64)) => TI (del M k) u) (fun (u : (Nat → Int64)) (t : State) => va_P (dC, dI) vwCl [(q, .inr (5, [.ref b])), (b, .inr (0, [.ref a])), (a, .inl (cJ, 128, .inr (.inl u)))] t.heap ∧ va_K (dC, dI) vwCl [(cJ, .long)] t ∧ va_D (va_A [(q, .inr (5, [.ref b])), (b, .inr (0, [.ref a])), (a, .inl (cJ, 128, .inr (.inl f)))] sz) [(q, .inr (5, [.ref b])), (b, .inr (0, [.ref a])), (a, .inl (cJ, 128, .inr (.inl u)))]) (va_A [(q, .inr (5, [.ref b])), (b, .inr (0, [.ref a])), (a, .inl (cJ, 128, .inr (.inl f)))] sz)) 0 0 (va_A [(q, .inr (5, [.ref b])), (b, .inr (0, [.ref a])), (a, .inl (cJ, 128, .inr (.inl f)))] sz) := by
  refine Met.ofW (cc := cX5_take) (maxL := 4) (ret := none) (by decide) rfl ?_
  intro p e s m args below meth c s₁ B hml hv
  obtain ⟨rfl, hsz, hP, hK, hD0⟩ := hv
  have hx := B.exec
  have hb := B.bytes
  have hr := B.returns
  have hts := atoms_spec (ws := wsX5_take) B.pre
  have hown : s.vm.findClass RX5 = some m.cls := findClass_of_methodNamed B.named
  have hlocks := B.notSynchronized
  subst hsz
  have hD := hD0.self (sz := s.heap.size)
  generalize hAe : va_A [(q, .inr (5, [.ref b])), (b, .inr (0, [.ref a])), (a, .inl (cJ, 128, .inr (.inl f)))] s.heap.size = A at hD ⊢
  have hA : ∀ q : Nat, s.heap.size ≤ q → A q := fun q h => by rw [← hAe]; exact Or.inr h
  have hS : va_S A s.heap s.heap [] := va_S.rf
  have hP : va_P (dC, dI) vwCl [(q, .inr (5, [.ref b])), (b, .inr (0, [.ref a])), (a, .inl (cJ, 128, .inr (.inl f)))] s.heap := hP
  have hl := lv_entry ([.ref q, .int (nI k)]) (n := 4) (Nat.le_of_ble_eq_true rfl)
  rw [lg_entry_eq]
  generalize (lg_sl ([.ref q, .int (nI k)]) ++ List.replicate (4 - (lg_sl ([.ref q, .int (nI k)])).length) Slot.unset).toArray = ls at hl ⊢
  have hl : lv_has ls 4 [(0, .ref q), (1, .int (nI k))] := hl
  refine lv_aload_n hx hb dX5_take_0 rfl (lv_at hl 0 rfl) ?_
  refine va_get (D := (dC, dI)) (ci := 5) (v := .ref b) (C := RX5) (T := TX5) (N := 1) hx hb hts (by decide +kernel) hown hK hP 0 rfl rfl 0 (by decide) (hts (.fieldLink RX5 14 "SmallNumberSets$Trie" "nodes" "LSmallNumberSets$Bits;") (by decide +kernel)) (fun _ h9 => h9) rfl dX5_take_1 ?_
  refine lv_iload_n hx hb dX5_take_4 rfl (lv_at hl 1 rfl) ?_
  refine lv_bipush (v := nI 12) hx hb dX5_take_5 (by decide +kernel) ?_
  have hPc := hP.sub (ws' := []) [] rfl
  have hKc := hK.sub (tys' := []) [] rfl
  refine vp_callSi (W.runS (As := [.int (nI k), .int (nI 12)]) (rest := [.ref b]) ⟨hx, hb, hml, hown, hts⟩ (c_X5_node l dC dI k 12 (by omega) (by omega)) (va_cwS 2 hts gX5_take_X5_node rfl rfl rfl (by decide +kernel) ⟨Nat.le_of_ble_eq_true rfl, Nat.le_of_ble_eq_true rfl⟩) ⟨fun a U g mk q => by obtain ⟨q0, qP, qK⟩ := q; exact ⟨q0, qP, va_K.moved (u := U) (U := U.calling g mk a) (Vm.Alike.refl U.vm) qK⟩, fun U hU hW => ⟨rfl, by rw [hU]; exact hPc, va_K.moved hW.alike hKc⟩⟩ rfl rfl hl.1 rfl (lv_room (Nat.le_of_ble_eq_true rfl)) dX5_take_7 ⟨Nat.le_of_ble_eq_true rfl, Nat.le_of_ble_eq_true rfl⟩) (fun r_2 hw_1 => ?_)
  subst hw_1
  have hnb := node_eq (show 12 ≤ 12 by omega) k
  have hnc := k_lt (show 12 ≤ 12 by omega) hk
  have hnp := pw_le (show 12 ≤ 12 by omega)
  have hPc := hP.sub (ws' := [(b, .inr (0, [.ref a])), (a, .inl (cJ, 128, .inr (.inl f)))]) [1, 2] rfl
  have hKc := hK.sub (tys' := [(cJ, .long)]) [0] rfl
  have hDc := hD.sub (ws' := [(b, .inr (0, [.ref a])), (a, .inl (cJ, 128, .inr (.inl f)))]) [1, 2] (by decide) rfl
  have hFc := va_free (wc := [(b, .inr (0, [.ref a])), (a, .inl (cJ, 128, .inr (.inl f)))]) hD hS hA [1, 2] rfl
  refine va_callv (va_runV (As := [.int (nI ((4096 + k) / 2 ^ (12 - 12)))]) (rest := []) ⟨hx, hb, hml, hown, hts⟩ (c_X0_take l dC dI b a cJ 128 f ((4096 + k) / 2 ^ (12 - 12)) s.heap.size (by omega) (by omega)) (cwV 1 hts gX5_take_X0_take rfl rfl rfl (by decide +kernel) ⟨Nat.le_of_ble_eq_true rfl, Nat.le_of_ble_eq_true rfl⟩) ⟨fun a U g mk q => by obtain ⟨q0, q1, qP, qK, qD⟩ := q; exact ⟨q0, q1, qP, va_K.moved (u := U) (U := U.calling g mk a) (Vm.Alike.refl U.vm) qK, qD⟩, va_recv hKc hPc (ci := 0) (q0 := 0) rfl rfl, fun U hU hW => ⟨rfl, by rw [hU], by rw [hU]; exact hPc, va_K.moved hW.alike hKc, hDc.weaken (fun _ _ _ _ => trivial)⟩⟩ rfl rfl hl.1 rfl (lv_room (Nat.le_of_ble_eq_true rfl)) dX5_take_10 ⟨Nat.le_of_ble_eq_true rfl, Nat.le_of_ble_eq_true rfl⟩) hS (fun q _ h => hFc q h) hFc (fun u_4 t9 H1 locs ht hvm hw_3 hB hz1 hk1 hS => ?_)
  obtain ⟨f'_6, rfl⟩ : ∃ z, z = u_4 := ⟨_, rfl⟩
  obtain ⟨hP1, hK1, hD1⟩ := hB
  rw [ht] at hP1
  have hK1 := va_K.moved hvm.symm hK1
  try dsimp only at hw_3 hP1 hK1 hD1
  obtain ⟨hP, hD⟩ := va_join (wr := [(q, .inr (5, [.ref b]))]) (w1 := [(b, .inr (0, [.ref a])), (a, .inl (cJ, 128, .inr (.inl f'_6)))]) hP hD [1, 2] [0] rfl rfl (by decide) (by decide) hk1 hFc hP1 hD1
  generalize H1 = H at hP hS ⊢
  have hP : va_P (dC, dI) vwCl [(q, .inr (5, [.ref b])), (b, .inr (0, [.ref a])), (a, .inl (cJ, 128, .inr (.inl f'_6)))] H := hP
  have hD : va_D A [(q, .inr (5, [.ref b])), (b, .inr (0, [.ref a])), (a, .inl (cJ, 128, .inr (.inl f'_6)))] := hD
  have hA1 := tj_leaf hk hT hw_3
  refine lv_bipush (v := nI 11) hx hb dX5_take_13 (by decide +kernel) ?_
  refine lv_istore_n (lv' := [(2, .int (nI 11)), (0, .ref q), (1, .int (nI k))]) hx hb dX5_take_15 rfl hl (by decide) rfl (fun ls hl => ?_)
  have key_16_7 : ∀ (fu : Nat) (d : Nat) (g : Nat → Int64) (hd : d ≤ 12) (hg : TJ M (del M k) d g) (hfu : d < fu) (H : Heap) (locs : List Loc) (hP : va_P (dC, dI) vwCl [(q, .inr (5, [.ref b])), (b, .inr (0, [.ref a])), (a, .inl (cJ, 128, .inr (.inl g)))] H) (hD : va_D A [(q, .inr (5, [.ref b])), (b, .inr (0, [.ref a])), (a, .inl (cJ, 128, .inr (.inl g)))]) (hS : va_S A s.heap H locs) (ls : Array Slot) (hl : lv_has ls 4 [(2, .int (dm d)), (0, .ref q), (1, .int (nI k))]), W p l e (headSpec wsX5_take ({ frames := 2, cells := 0, slots := 0, locals := 42 })).room s m ([.ref q, .int (nI k)] : List Value).toArray below meth c H locs 0 0 (MQ below (va_Qv (fun (u : (Nat → Int64)) => TI (del M k) u) (fun (u : (Nat → Int64)) (t : State) => va_P (dC, dI) vwCl [(q, .inr (5, [.ref b])), (b, .inr (0, [.ref a])), (a, .inl (cJ, 128, .inr (.inl u)))] t.heap ∧ va_K (dC, dI) vwCl [(cJ, .long)] t ∧ va_D A [(q, .inr (5, [.ref b])), (b, .inr (0, [.ref a])), (a, .inl (cJ, 128, .inr (.inl u)))]) A) ([.ref q, .int (nI k)] : List Value).toArray s 0 0 A) (F0 m 16 ls []) := by
    intro fu
    induction fu with
    | zero =>
      intro d g hd hg hfu H locs hP hD hS ls hl
      exact absurd hfu (Nat.not_lt_zero _)
    | succ fu ih =>
      intro d g hd hg hfu H locs hP hD hS ls hl
      rcases d with _ | d
      · have hl : lv_has ls 4 [(2, .int (-1)), (0, .ref q), (1, .int (nI k))] := hl
        refine lv_iload_n hx hb dX5_take_16 rfl (lv_at hl 0 rfl) ?_
        refine lv_if_lt (tgt := 69) hx hb dX5_take_17 (by decide) (fun qc_8 => ?_) (fun qc_8 => ?_)
        · have hP9 := hP.sub (ws' := [(q, .inr (5, [.ref b])), (b, .inr (0, [.ref a])), (a, .inl (cJ, 128, .inr (.inl g)))]) [0, 1, 2] rfl
          have hD9 := hD.sub (ws' := [(q, .inr (5, [.ref b])), (b, .inr (0, [.ref a])), (a, .inl (cJ, 128, .inr (.inl g)))]) [0, 1, 2] (by decide) rfl
          have hK9 := hK.sub (tys' := [(cJ, .long)]) [0] rfl
          exact W.vret hx hb hr (fun t9 ht hW => ⟨⟨g, rfl, tj_end hg, by rw [ht]; exact hP9, va_K.moved hW.alike hK9, hD9⟩, hS.F ht⟩) hS.2.2 dX5_take_69
        · exact absurd (by decide) qc_8
      · have hl : lv_has ls 4 [(2, .int (nI d)), (0, .ref q), (1, .int (nI k))] := hl
        refine lv_iload_n hx hb dX5_take_16 rfl (lv_at hl 0 rfl) ?_
        refine lv_if_lt (tgt := 69) hx hb dX5_take_17 (by decide) (fun qc_9 => ?_) (fun qc_9 => ?_)
        · have c_9 : d < 0 := (nI_ltI (a := d) (b := 0) (by omega) (by omega)).mp qc_9
          exact absurd c_9 (Nat.not_lt_zero _)
        · have c_9 : ¬ d < 0 := fun h9 => qc_9 ((nI_ltI (a := d) (b := 0) (by omega) (by omega)).mpr h9)
          refine lv_iload_n hx hb dX5_take_20 rfl (lv_at hl 2 rfl) ?_
          refine lv_iload_n hx hb dX5_take_21 rfl (lv_at hl 0 rfl) ?_
          have hPc := hP.sub (ws' := []) [] rfl
          have hKc := hK.sub (tys' := []) [] rfl
          refine vp_callSi (W.runS (As := [.int (nI k), .int (nI d)]) (rest := []) ⟨hx, hb, hml, hown, hts⟩ (c_X5_node l dC dI k d (by omega) (by omega)) (va_cwS 2 hts gX5_take_X5_node rfl rfl rfl (by decide +kernel) ⟨Nat.le_of_ble_eq_true rfl, Nat.le_of_ble_eq_true rfl⟩) ⟨fun a U g mk q => by obtain ⟨q0, qP, qK⟩ := q; exact ⟨q0, qP, va_K.moved (u := U) (U := U.calling g mk a) (Vm.Alike.refl U.vm) qK⟩, fun U hU hW => ⟨rfl, by rw [hU]; exact hPc, va_K.moved hW.alike hKc⟩⟩ rfl rfl hl.1 rfl (lv_room (Nat.le_of_ble_eq_true rfl)) dX5_take_22 ⟨Nat.le_of_ble_eq_true rfl, Nat.le_of_ble_eq_true rfl⟩) (fun r_11 hw_10 => ?_)
          subst hw_10
          refine lv_istore_n (lv' := [(3, .int (nI ((4096 + k) / 2 ^ (12 - d)))), (2, .int (nI d)), (0, .ref q), (1, .int (nI k))]) hx hb dX5_take_25 rfl hl (by decide) rfl (fun ls hl => ?_)
          refine lv_aload_n hx hb dX5_take_26 rfl (lv_at hl 2 rfl) ?_
          refine va_get (D := (dC, dI)) (ci := 5) (v := .ref b) (C := RX5) (T := TX5) (N := 1) hx hb hts (by decide +kernel) hown hK hP 0 rfl rfl 0 (by decide) (hts (.fieldLink RX5 14 "SmallNumberSets$Trie" "nodes" "LSmallNumberSets$Bits;") (by decide +kernel)) (fun _ h9 => h9) rfl dX5_take_27 ?_
          refine lv_iconst (v := nI 2) hx hb dX5_take_30 (by decide +kernel) ?_
          refine lv_iload_n hx hb dX5_take_31 rfl (lv_at hl 0 rfl) ?_
          refine lv_imul hx hb dX5_take_32 ?_
          refine lv_cvi (pk_mul _ _) ?_
          have hnb := node_eq (show d ≤ 12 by omega) k
          have hnc := k_lt (show d ≤ 12 by omega) hk
          have hnp := pw_le (show d ≤ 12 by omega)
          have e2 : 2 ^ (d + 1) = 2 * 2 ^ d := Nat.pow_succ'
          have hnq := (pw_le (show d + 1 ≤ 12 by omega)).1
          have hPc := hP.sub (ws' := [(b, .inr (0, [.ref a])), (a, .inl (cJ, 128, .inr (.inl g)))]) [1, 2] rfl
          have hKc := hK.sub (tys' := [(cJ, .long)]) [0] rfl
          refine vp_callSi (W.runV (As := [.int (nI (2 * ((4096 + k) / 2 ^ (12 - d))))]) (rest := []) ⟨hx, hb, hml, hown, hts⟩ (c_X0_has l dC dI b a cJ 128 g (2 * ((4096 + k) / 2 ^ (12 - d))) (by omega) (by omega)) (cwV 1 hts gX5_take_X0_has rfl rfl rfl (by decide +kernel) ⟨Nat.le_of_ble_eq_true rfl, Nat.le_of_ble_eq_true rfl⟩) ⟨fun a U g mk q => by obtain ⟨q0, qP, qK⟩ := q; exact ⟨q0, qP, va_K.moved (u := U) (U := U.calling g mk a) (Vm.Alike.refl U.vm) qK⟩, va_recv hKc hPc (ci := 0) (q0 := 0) rfl rfl, fun U hU hW => ⟨rfl, by rw [hU]; exact hPc, va_K.moved hW.alike hKc⟩⟩ rfl rfl hl.1 rfl (lv_room (Nat.le_of_ble_eq_true rfl)) dX5_take_33 ⟨Nat.le_of_ble_eq_true rfl, Nat.le_of_ble_eq_true rfl⟩) (fun r_13 hw_12 => ?_)
          subst hw_12
          refine lv_if_ne (tgt := 54) hx hb dX5_take_36 (by decide) (fun qc_14 => ?_) (fun qc_14 => ?_)
          · have c_14 : (bo g (2 * ((4096 + k) / 2 ^ (12 - d)))) = true := b2i_t qc_14
            have hP9 := hP.sub (ws' := [(q, .inr (5, [.ref b])), (b, .inr (0, [.ref a])), (a, .inl (cJ, 128, .inr (.inl g)))]) [0, 1, 2] rfl
            have hD9 := hD.sub (ws' := [(q, .inr (5, [.ref b])), (b, .inr (0, [.ref a])), (a, .inl (cJ, 128, .inr (.inl g)))]) [0, 1, 2] (by decide) rfl
            have hK9 := hK.sub (tys' := [(cJ, .long)]) [0] rfl
            exact W.vret hx hb hr (fun t9 ht hW => ⟨⟨g, rfl, tj_stop hk (by omega) hg (by first | exact Or.inl c_14 | exact Or.inr c_14), by rw [ht]; exact hP9, va_K.moved hW.alike hK9, hD9⟩, hS.F ht⟩) hS.2.2 dX5_take_54
          · have c_14 : (bo g (2 * ((4096 + k) / 2 ^ (12 - d)))) = false := b2i_f qc_14
            refine lv_aload_n hx hb dX5_take_39 rfl (lv_at hl 2 rfl) ?_
            refine va_get (D := (dC, dI)) (ci := 5) (v := .ref b) (C := RX5) (T := TX5) (N := 1) hx hb hts (by decide +kernel) hown hK hP 0 rfl rfl 0 (by decide) (hts (.fieldLink RX5 14 "SmallNumberSets$Trie" "nodes" "LSmallNumberSets$Bits;") (by decide +kernel)) (fun _ h9 => h9) rfl dX5_take_40 ?_
            refine lv_iconst (v := nI 2) hx hb dX5_take_43 (by decide +kernel) ?_
            refine lv_iload_n hx hb dX5_take_44 rfl (lv_at hl 0 rfl) ?_
            refine lv_imul hx hb dX5_take_45 ?_
            refine lv_cvi (pk_mul _ _) ?_
            refine lv_iconst (v := nI 1) hx hb dX5_take_46 (by decide +kernel) ?_
            refine lv_iadd hx hb dX5_take_47 ?_
            refine lv_cvi (nI_add _ _) ?_
            have hPc := hP.sub (ws' := [(b, .inr (0, [.ref a])), (a, .inl (cJ, 128, .inr (.inl g)))]) [1, 2] rfl
            have hKc := hK.sub (tys' := [(cJ, .long)]) [0] rfl
            refine vp_callSi (W.runV (As := [.int (nI ((2 * ((4096 + k) / 2 ^ (12 - d))) + 1))]) (rest := []) ⟨hx, hb, hml, hown, hts⟩ (c_X0_has l dC dI b a cJ 128 g ((2 * ((4096 + k) / 2 ^ (12 - d))) + 1) (by omega) (by omega)) (cwV 1 hts gX5_take_X0_has rfl rfl rfl (by decide +kernel) ⟨Nat.le_of_ble_eq_true rfl, Nat.le_of_ble_eq_true rfl⟩) ⟨fun a U g mk q => by obtain ⟨q0, qP, qK⟩ := q; exact ⟨q0, qP, va_K.moved (u := U) (U := U.calling g mk a) (Vm.Alike.refl U.vm) qK⟩, va_recv hKc hPc (ci := 0) (q0 := 0) rfl rfl, fun U hU hW => ⟨rfl, by rw [hU]; exact hPc, va_K.moved hW.alike hKc⟩⟩ rfl rfl hl.1 rfl (lv_room (Nat.le_of_ble_eq_true rfl)) dX5_take_48 ⟨Nat.le_of_ble_eq_true rfl, Nat.le_of_ble_eq_true rfl⟩) (fun r_16 hw_15 => ?_)
            subst hw_15
            refine lv_if_eq (tgt := 55) hx hb dX5_take_51 (by decide) (fun qc_17 => ?_) (fun qc_17 => ?_)
            · have c_17 : (bo g ((2 * ((4096 + k) / 2 ^ (12 - d))) + 1)) = false := b2i_f qc_17
              refine lv_aload_n hx hb dX5_take_55 rfl (lv_at hl 2 rfl) ?_
              refine va_get (D := (dC, dI)) (ci := 5) (v := .ref b) (C := RX5) (T := TX5) (N := 1) hx hb hts (by decide +kernel) hown hK hP 0 rfl rfl 0 (by decide) (hts (.fieldLink RX5 14 "SmallNumberSets$Trie" "nodes" "LSmallNumberSets$Bits;") (by decide +kernel)) (fun _ h9 => h9) rfl dX5_take_56 ?_
              refine lv_iload_n hx hb dX5_take_59 rfl (lv_at hl 0 rfl) ?_
              have hPc := hP.sub (ws' := [(b, .inr (0, [.ref a])), (a, .inl (cJ, 128, .inr (.inl g)))]) [1, 2] rfl
              have hKc := hK.sub (tys' := [(cJ, .long)]) [0] rfl
              have hDc := hD.sub (ws' := [(b, .inr (0, [.ref a])), (a, .inl (cJ, 128, .inr (.inl g)))]) [1, 2] (by decide) rfl
              have hFc := va_free (wc := [(b, .inr (0, [.ref a])), (a, .inl (cJ, 128, .inr (.inl g)))]) hD hS hA [1, 2] rfl
              refine va_callv (va_runV (As := [.int (nI ((4096 + k) / 2 ^ (12 - d)))]) (rest := []) ⟨hx, hb, hml, hown, hts⟩ (c_X0_take l dC dI b a cJ 128 g ((4096 + k) / 2 ^ (12 - d)) H.size (by omega) (by omega)) (cwV 1 hts gX5_take_X0_take rfl rfl rfl (by decide +kernel) ⟨Nat.le_of_ble_eq_true rfl, Nat.le_of_ble_eq_true rfl⟩) ⟨fun a U g mk q => by obtain ⟨q0, q1, qP, qK, qD⟩ := q; exact ⟨q0, q1, qP, va_K.moved (u := U) (U := U.calling g mk a) (Vm.Alike.refl U.vm) qK, qD⟩, va_recv hKc hPc (ci := 0) (q0 := 0) rfl rfl, fun U hU hW => ⟨rfl, by rw [hU], by rw [hU]; exact hPc, va_K.moved hW.alike hKc, hDc.weaken (fun _ _ _ _ => trivial)⟩⟩ rfl rfl hl.1 rfl (lv_room (Nat.le_of_ble_eq_true rfl)) dX5_take_60 ⟨Nat.le_of_ble_eq_true rfl, Nat.le_of_ble_eq_true rfl⟩) hS (fun q _ h => hFc q h) hFc (fun u_19 t9 H1 locs ht hvm hw_18 hB hz1 hk1 hS => ?_)
              obtain ⟨f'_21, rfl⟩ : ∃ z, z = u_19 := ⟨_, rfl⟩
              obtain ⟨hP1, hK1, hD1⟩ := hB
              rw [ht] at hP1
              have hK1 := va_K.moved hvm.symm hK1
              try dsimp only at hw_18 hP1 hK1 hD1
              obtain ⟨hP, hD⟩ := va_join (wr := [(q, .inr (5, [.ref b]))]) (w1 := [(b, .inr (0, [.ref a])), (a, .inl (cJ, 128, .inr (.inl f'_21)))]) hP hD [1, 2] [0] rfl rfl (by decide) (by decide) hk1 hFc hP1 hD1
              generalize H1 = H at hP hS ⊢
              have hP : va_P (dC, dI) vwCl [(q, .inr (5, [.ref b])), (b, .inr (0, [.ref a])), (a, .inl (cJ, 128, .inr (.inl f'_21)))] H := hP
              have hD : va_D A [(q, .inr (5, [.ref b])), (b, .inr (0, [.ref a])), (a, .inl (cJ, 128, .inr (.inl f'_21)))] := hD
              refine lv_iinc (v := dm d) (lv' := [(2, .int (dm d)), (3, .int (nI ((4096 + k) / 2 ^ (12 - d)))), (0, .ref q), (1, .int (nI k))]) hx hb dX5_take_63 hl (k := 1) rfl (dm_dec _) (by decide) rfl (fun ls hl => ?_)
              refine lv_goto (tgt := 16) hx hb dX5_take_66 (by decide) ?_
              exact ih d f'_21 (by omega) (tj_step hk (by omega) hg c_14 c_17 hw_18) (by omega) _ _ hP hD hS ls (lv_sub hl [0, 2, 3] rfl)
            · have c_17 : (bo g ((2 * ((4096 + k) / 2 ^ (12 - d))) + 1)) = true := b2i_t qc_17
              have hP9 := hP.sub (ws' := [(q, .inr (5, [.ref b])), (b, .inr (0, [.ref a])), (a, .inl (cJ, 128, .inr (.inl g)))]) [0, 1, 2] rfl
              have hD9 := hD.sub (ws' := [(q, .inr (5, [.ref b])), (b, .inr (0, [.ref a])), (a, .inl (cJ, 128, .inr (.inl g)))]) [0, 1, 2] (by decide) rfl
              have hK9 := hK.sub (tys' := [(cJ, .long)]) [0] rfl
              exact W.vret hx hb hr (fun t9 ht hW => ⟨⟨g, rfl, tj_stop hk (by omega) hg (by first | exact Or.inl c_17 | exact Or.inr c_17), by rw [ht]; exact hP9, va_K.moved hW.alike hK9, hD9⟩, hS.F ht⟩) hS.2.2 dX5_take_54
  exact key_16_7 _ 12 f'_6 (by decide) hA1 (Nat.lt_succ_self _) _ _ hP hD hS ls (lv_sub hl [0, 1, 2] rfl)
set_option maxHeartbeats 4000000 in
set_option maxRecDepth 100000 in
/-- Trie.prefixCount -/
theorem c_X5_prefixCount (l : Launch) (dC : Nat → ClassId) (dI : Nat → Nat → Nat) (q : Nat) (b : Nat) (a : Nat) (cJ : ClassId) (f : Nat → Int64) (M : Nat → Bool) (n : Nat) (hT : TI M f) (hn : n ≤ 12) : Met l yX5_prefixCount wsX5_prefixCount ({ frames := 2, cells := 0, slots := 0, locals := 45 }) (va_Pc [.ref q, .int (nI n)] (fun U => va_P (dC, dI) vwCl [(q, .inr (5, [.ref b])), (b, .inr (0, [.ref a])), (a, .inl (cJ, 128, .inr (.inl f)))] U.heap ∧ va_K (dC, dI) vwCl [(cJ, .long)] U)) (vp_Si (fun r => r = nI (fb_ct (pfx M n) (2 ^ n)))) 0 0 (fun _ => False) := by
  refine Met.ofW (cc := cX5_prefixCount) (maxL := 3) (ret := (some .int)) (by decide) rfl ?_
  intro p e s m args below meth c s₁ B hml hv
  obtain ⟨rfl, hP, hK⟩ := hv
  have hx := B.exec
  have hb := B.bytes
  have hr := B.returns
  have hts := atoms_spec (ws := wsX5_prefixCount) B.pre
  have hown : s.vm.findClass RX5 = some m.cls := findClass_of_methodNamed B.named
  have hlocks := B.notSynchronized
  have hP : va_P (dC, dI) vwCl [(q, .inr (5, [.ref b])), (b, .inr (0, [.ref a])), (a, .inl (cJ, 128, .inr (.inl f)))] s.heap := hP
  have hl := lv_entry ([.ref q, .int (nI n)]) (n := 3) (Nat.le_of_ble_eq_true rfl)
  rw [lg_entry_eq]
  generalize (lg_sl ([.ref q, .int (nI n)]) ++ List.replicate (3 - (lg_sl ([.ref q, .int (nI n)])).length) Slot.unset).toArray = ls at hl ⊢
  have hl : lv_has ls 3 [(0, .ref q), (1, .int (nI n))] := hl
  refine lv_iconst (v := nI 0) hx hb dX5_prefixCount_0 (by decide +kernel) ?_
  refine lv_iload_n hx hb dX5_prefixCount_1 rfl (lv_at hl 1 rfl) ?_
  have hPc := hP.sub (ws' := []) [] rfl
  have hKc := hK.sub (tys' := []) [] rfl
  refine vp_callSi (W.runS (As := [.int (nI 0), .int (nI n)]) (rest := []) ⟨hx, hb, hml, hown, hts⟩ (c_X5_node l dC dI 0 n (by omega) (by omega)) (va_cwS 2 hts gX5_prefixCount_X5_node rfl rfl rfl (by decide +kernel) ⟨Nat.le_of_ble_eq_true rfl, Nat.le_of_ble_eq_true rfl⟩) ⟨fun a U g mk q => by obtain ⟨q0, qP, qK⟩ := q; exact ⟨q0, qP, va_K.moved (u := U) (U := U.calling g mk a) (Vm.Alike.refl U.vm) qK⟩, fun U hU hW => ⟨rfl, by rw [hU]; exact hPc, va_K.moved hW.alike hKc⟩⟩ rfl rfl hl.1 rfl (lv_room (Nat.le_of_ble_eq_true rfl)) dX5_prefixCount_2 ⟨Nat.le_of_ble_eq_true rfl, Nat.le_of_ble_eq_true rfl⟩) (fun r_2 hw_1 => ?_)
  subst hw_1
  refine lv_cvi (congrArg nI (by rw [node_eq hn 0, Nat.zero_div, Nat.add_zero])) ?_
  have hnp := pw_le hn
  have hmo := fb_ct_mono (bo f) (show 2 ^ n ≤ 2 * 2 ^ n by omega)
  refine lv_istore_n (lv' := [(2, .int (nI (2 ^ n))), (0, .ref q), (1, .int (nI n))]) hx hb dX5_prefixCount_5 rfl hl (by decide) rfl (fun ls hl => ?_)
  refine lv_aload_n hx hb dX5_prefixCount_6 rfl (lv_at hl 1 rfl) ?_
  refine va_get (D := (dC, dI)) (ci := 5) (v := .ref b) (C := RX5) (T := TX5) (N := 1) hx hb hts (by decide +kernel) hown hK hP 0 rfl rfl 0 (by decide) (hts (.fieldLink RX5 14 "SmallNumberSets$Trie" "nodes" "LSmallNumberSets$Bits;") (by decide +kernel)) (fun _ h9 => h9) rfl dX5_prefixCount_7 ?_
  refine lv_iconst (v := nI 2) hx hb dX5_prefixCount_10 (by decide +kernel) ?_
  refine lv_iload_n hx hb dX5_prefixCount_11 rfl (lv_at hl 0 rfl) ?_
  refine lv_imul hx hb dX5_prefixCount_12 ?_
  refine lv_cvi (pk_mul _ _) ?_
  have hPc := hP.sub (ws' := [(b, .inr (0, [.ref a])), (a, .inl (cJ, 128, .inr (.inl f)))]) [1, 2] rfl
  have hKc := hK.sub (tys' := [(cJ, .long)]) [0] rfl
  refine vp_callSi (W.runV (As := [.int (nI (2 * (2 ^ n)))]) (rest := []) ⟨hx, hb, hml, hown, hts⟩ (c_X0_countBelow l dC dI b a cJ 128 f (2 * (2 ^ n)) (by omega) (by omega)) (cwV 1 hts gX5_prefixCount_X0_countBelow rfl rfl rfl (by decide +kernel) ⟨Nat.le_of_ble_eq_true rfl, Nat.le_of_ble_eq_true rfl⟩) ⟨fun a U g mk q => by obtain ⟨q0, qP, qK⟩ := q; exact ⟨q0, qP, va_K.moved (u := U) (U := U.calling g mk a) (Vm.Alike.refl U.vm) qK⟩, va_recv hKc hPc (ci := 0) (q0 := 0) rfl rfl, fun U hU hW => ⟨rfl, by rw [hU]; exact hPc, va_K.moved hW.alike hKc⟩⟩ rfl rfl hl.1 rfl (lv_room (Nat.le_of_ble_eq_true rfl)) dX5_prefixCount_13 ⟨Nat.le_of_ble_eq_true rfl, Nat.le_of_ble_eq_true rfl⟩) (fun r_4 hw_3 => ?_)
  subst hw_3
  refine lv_aload_n hx hb dX5_prefixCount_16 rfl (lv_at hl 1 rfl) ?_
  refine va_get (D := (dC, dI)) (ci := 5) (v := .ref b) (C := RX5) (T := TX5) (N := 1) hx hb hts (by decide +kernel) hown hK hP 0 rfl rfl 0 (by decide) (hts (.fieldLink RX5 14 "SmallNumberSets$Trie" "nodes" "LSmallNumberSets$Bits;") (by decide +kernel)) (fun _ h9 => h9) rfl dX5_prefixCount_17 ?_
  refine lv_iload_n hx hb dX5_prefixCount_20 rfl (lv_at hl 0 rfl) ?_
  have hPc := hP.sub (ws' := [(b, .inr (0, [.ref a])), (a, .inl (cJ, 128, .inr (.inl f)))]) [1, 2] rfl
  have hKc := hK.sub (tys' := [(cJ, .long)]) [0] rfl
  refine vp_callSi (W.runV (As := [.int (nI (2 ^ n))]) (rest := [.int (nI (fb_ct (bo f) (2 * (2 ^ n))))]) ⟨hx, hb, hml, hown, hts⟩ (c_X0_countBelow l dC dI b a cJ 128 f (2 ^ n) (by omega) (by omega)) (cwV 1 hts gX5_prefixCount_X0_countBelow rfl rfl rfl (by decide +kernel) ⟨Nat.le_of_ble_eq_true rfl, Nat.le_of_ble_eq_true rfl⟩) ⟨fun a U g mk q => by obtain ⟨q0, qP, qK⟩ := q; exact ⟨q0, qP, va_K.moved (u := U) (U := U.calling g mk a) (Vm.Alike.refl U.vm) qK⟩, va_recv hKc hPc (ci := 0) (q0 := 0) rfl rfl, fun U hU hW => ⟨rfl, by rw [hU]; exact hPc, va_K.moved hW.alike hKc⟩⟩ rfl rfl hl.1 rfl (lv_room (Nat.le_of_ble_eq_true rfl)) dX5_prefixCount_21 ⟨Nat.le_of_ble_eq_true rfl, Nat.le_of_ble_eq_true rfl⟩) (fun r_6 hw_5 => ?_)
  subst hw_5
  refine lv_isub hx hb dX5_prefixCount_24 ?_
  refine lv_cvi (pk_sub (by omega)) ?_
  exact W.iret (v := nI ((fb_ct (bo f) (2 * (2 ^ n))) - (fb_ct (bo f) (2 ^ n)))) hx hb hr (fun t9 ht hW => ⟨nI ((fb_ct (bo f) (2 * (2 ^ n))) - (fb_ct (bo f) (2 ^ n))), rfl, congrArg nI (pc_eq hT hn), ht⟩) (fun q h => by cases h) dX5_prefixCount_25
set_option maxHeartbeats 4000000 in
set_option maxRecDepth 100000 in
/-- Trie.search -/
theorem c_X5_search (l : Launch) (dC : Nat → ClassId) (dI : Nat → Nat → Nat) (q : Nat) (b : Nat) (a : Nat) (cJ : ClassId) (f : Nat → Int64) (M : Nat → Bool) (k : Nat) (sz : Nat) (hT : TI M f) (hk : k < 4096) : Met l yX5_search wsX5_search ({ frames := 2, cells := 1, slots := 2, locals := 42 }) (va_Pc [.ref q, .int (nI k)] (fun U => U.heap.size = sz ∧ va_P (dC, dI) vwCl [(q, .inr (5, [.ref b])), (b, .inr (0, [.ref a])), (a, .inl (cJ, 128, .inr (.inl f)))] U.heap ∧ va_K (dC, dI) vwCl [(cJ, .long)] U ∧ va_D (fun _ => True) [(q, .inr (5, [.ref b])), (b, .inr (0, [.ref a])), (a, .inl (cJ, 128, .inr (.inl f)))])) (va_Qr (fun (u : (Option Nat) × Nat) => (u.1, u.2) = srch M k) (fun (u : (Option Nat) × Nat) (ra : Nat) (t : State) => va_P (dC, dI) vwCl [(q, .inr (5, [.ref b])), (b, .inr (0, [.ref a])), (a, .inl (cJ, 128, .inr (.inl f))), (ra, .inr (2, [.int (oI u.1), .int (nI u.2)]))] t.heap ∧ va_K (dC, dI) vwCl [(cJ, .long)] t ∧ va_D (va_A [(q, .inr (5, [.ref b])), (b, .inr (0, [.ref a])), (a, .inl (cJ, 128, .inr (.inl f)))] sz) [(q, .inr (5, [.ref b])), (b, .inr (0, [.ref a])), (a, .inl (cJ, 128, .inr (.inl f))), (ra, .inr (2, [.int (oI u.1), .int (nI u.2)]))]) (va_A [(q, .inr (5, [.ref b])), (b, .inr (0, [.ref a])), (a, .inl (cJ, 128, .inr (.inl f)))] sz)) 1 2 (va_A [(q, .inr (5, [.ref b])), (b, .inr (0, [.ref a])), (a, .inl (cJ, 128, .inr (.inl f)))] sz) := by
  refine Met.ofW (cc := cX5_search) (maxL := 7) (ret := (some (.object "SmallNumberSets$MatchSearch"))) (by decide) rfl ?_
  intro p e s m args below meth c s₁ B hml hv
  obtain ⟨rfl, hsz, hP, hK, hD0⟩ := hv
  have hx := B.exec
  have hb := B.bytes
  have hr := B.returns
  have hts := atoms_spec (ws := wsX5_search) B.pre
  have hown : s.vm.findClass RX5 = some m.cls := findClass_of_methodNamed B.named
  have hlocks := B.notSynchronized
  subst hsz
  have hD := hD0.self (sz := s.heap.size)
  generalize hAe : va_A [(q, .inr (5, [.ref b])), (b, .inr (0, [.ref a])), (a, .inl (cJ, 128, .inr (.inl f)))] s.heap.size = A at hD ⊢
  have hA : ∀ q : Nat, s.heap.size ≤ q → A q := fun q h => by rw [← hAe]; exact Or.inr h
  have hS : va_S A s.heap s.heap [] := va_S.rf
  have hP : va_P (dC, dI) vwCl [(q, .inr (5, [.ref b])), (b, .inr (0, [.ref a])), (a, .inl (cJ, 128, .inr (.inl f)))] s.heap := hP
  have hl := lv_entry ([.ref q, .int (nI k)]) (n := 7) (Nat.le_of_ble_eq_true rfl)
  rw [lg_entry_eq]
  generalize (lg_sl ([.ref q, .int (nI k)]) ++ List.replicate (7 - (lg_sl ([.ref q, .int (nI k)])).length) Slot.unset).toArray = ls at hl ⊢
  have hl : lv_has ls 7 [(0, .ref q), (1, .int (nI k))] := hl
  refine lv_aload_n hx hb dX5_search_0 rfl (lv_at hl 0 rfl) ?_
  refine va_get (D := (dC, dI)) (ci := 5) (v := .ref b) (C := RX5) (T := TX5) (N := 1) hx hb hts (by decide +kernel) hown hK hP 0 rfl rfl 0 (by decide) (hts (.fieldLink RX5 14 "SmallNumberSets$Trie" "nodes" "LSmallNumberSets$Bits;") (by decide +kernel)) (fun _ h9 => h9) rfl dX5_search_1 ?_
  refine lv_iload_n hx hb dX5_search_4 rfl (lv_at hl 1 rfl) ?_
  refine lv_iconst (v := nI 0) hx hb dX5_search_5 (by decide +kernel) ?_
  have hPc := hP.sub (ws' := []) [] rfl
  have hKc := hK.sub (tys' := []) [] rfl
  refine vp_callSi (W.runS (As := [.int (nI k), .int (nI 0)]) (rest := [.ref b]) ⟨hx, hb, hml, hown, hts⟩ (c_X5_node l dC dI k 0 (by omega) (by omega)) (va_cwS 2 hts gX5_search_X5_node rfl rfl rfl (by decide +kernel) ⟨Nat.le_of_ble_eq_true rfl, Nat.le_of_ble_eq_true rfl⟩) ⟨fun a U g mk q => by obtain ⟨q0, qP, qK⟩ := q; exact ⟨q0, qP, va_K.moved (u := U) (U := U.calling g mk a) (Vm.Alike.refl U.vm) qK⟩, fun U hU hW => ⟨rfl, by rw [hU]; exact hPc, va_K.moved hW.alike hKc⟩⟩ rfl rfl hl.1 rfl (lv_room (Nat.le_of_ble_eq_true rfl)) dX5_search_6 ⟨Nat.le_of_ble_eq_true rfl, Nat.le_of_ble_eq_true rfl⟩) (fun r_2 hw_1 => ?_)
  subst hw_1
  have hnb := node_eq (show 0 ≤ 12 by omega) k
  have hnc := k_lt (show 0 ≤ 12 by omega) hk
  have hnp := pw_le (show 0 ≤ 12 by omega)
  have hPc := hP.sub (ws' := [(b, .inr (0, [.ref a])), (a, .inl (cJ, 128, .inr (.inl f)))]) [1, 2] rfl
  have hKc := hK.sub (tys' := [(cJ, .long)]) [0] rfl
  refine vp_callSi (W.runV (As := [.int (nI ((4096 + k) / 2 ^ (12 - 0)))]) (rest := []) ⟨hx, hb, hml, hown, hts⟩ (c_X0_has l dC dI b a cJ 128 f ((4096 + k) / 2 ^ (12 - 0)) (by omega) (by omega)) (cwV 1 hts gX5_search_X0_has rfl rfl rfl (by decide +kernel) ⟨Nat.le_of_ble_eq_true rfl, Nat.le_of_ble_eq_true rfl⟩) ⟨fun a U g mk q => by obtain ⟨q0, qP, qK⟩ := q; exact ⟨q0, qP, va_K.moved (u := U) (U := U.calling g mk a) (Vm.Alike.refl U.vm) qK⟩, va_recv hKc hPc (ci := 0) (q0 := 0) rfl rfl, fun U hU hW => ⟨rfl, by rw [hU]; exact hPc, va_K.moved hW.alike hKc⟩⟩ rfl rfl hl.1 rfl (lv_room (Nat.le_of_ble_eq_true rfl)) dX5_search_9 ⟨Nat.le_of_ble_eq_true rfl, Nat.le_of_ble_eq_true rfl⟩) (fun r_4 hw_3 => ?_)
  subst hw_3
  refine lv_if_ne (tgt := 25) hx hb dX5_search_12 (by decide) (fun qc_5 => ?_) (fun qc_5 => ?_)
  · have c_5 : (bo f ((4096 + k) / 2 ^ (12 - 0))) = true := b2i_t qc_5
    refine lv_iconst (v := nI 0) hx hb dX5_search_25 (by decide +kernel) ?_
    refine lv_istore_n (lv' := [(2, .int (nI 0)), (0, .ref q), (1, .int (nI k))]) hx hb dX5_search_26 rfl hl (by decide) rfl (fun ls hl => ?_)
    refine lv_bipush (v := nI 13) hx hb dX5_search_27 (by decide +kernel) ?_
    refine lv_istore_n (lv' := [(3, .int (nI 13)), (2, .int (nI 0)), (0, .ref q), (1, .int (nI k))]) hx hb dX5_search_29 rfl hl (by decide) rfl (fun ls hl => ?_)
    refine lv_iconst (v := nI 0) hx hb dX5_search_30 (by decide +kernel) ?_
    refine lv_istore (lv' := [(4, .int (nI 0)), (3, .int (nI 13)), (2, .int (nI 0)), (0, .ref q), (1, .int (nI k))]) hx hb dX5_search_31 hl (by decide) rfl (fun ls hl => ?_)
    refine lv_iconst (v := nI 0) hx hb dX5_search_33 (by decide +kernel) ?_
    refine lv_istore (lv' := [(5, .int (nI 0)), (4, .int (nI 0)), (3, .int (nI 13)), (2, .int (nI 0)), (0, .ref q), (1, .int (nI k))]) hx hb dX5_search_34 hl (by decide) rfl (fun ls hl => ?_)
    have key_36_6 : ∀ (fu : Nat) (lw : Nat) (hg : Nat) (t : Nat) (i : Nat) (hh1 : lw < hg) (hh2 : hg ≤ 13) (hh3 : i ≤ 13 ∧ t ≤ i) (hbs : bs (fun n => bo f ((4096 + k) / 2 ^ (12 - n))) 13 0 13 0 = bs (fun n => bo f ((4096 + k) / 2 ^ (12 - n))) (13 - i) lw hg t) (hfu : 13 - i < fu) (ls : Array Slot) (hl : lv_has ls 7 [(5, .int (nI i)), (4, .int (nI t)), (3, .int (nI hg)), (2, .int (nI lw)), (0, .ref q), (1, .int (nI k))]), W p l e (headSpec wsX5_search ({ frames := 2, cells := 1, slots := 2, locals := 42 })).room s m ([.ref q, .int (nI k)] : List Value).toArray below meth c s.heap [] 0 0 (MQ below (va_Qr (fun (u : (Option Nat) × Nat) => (u.1, u.2) = srch M k) (fun (u : (Option Nat) × Nat) (ra : Nat) (t : State) => va_P (dC, dI) vwCl [(q, .inr (5, [.ref b])), (b, .inr (0, [.ref a])), (a, .inl (cJ, 128, .inr (.inl f))), (ra, .inr (2, [.int (oI u.1), .int (nI u.2)]))] t.heap ∧ va_K (dC, dI) vwCl [(cJ, .long)] t ∧ va_D A [(q, .inr (5, [.ref b])), (b, .inr (0, [.ref a])), (a, .inl (cJ, 128, .inr (.inl f))), (ra, .inr (2, [.int (oI u.1), .int (nI u.2)]))]) A) ([.ref q, .int (nI k)] : List Value).toArray s 1 2 A) (F0 m 36 ls []) := by
      intro fu
      induction fu with
      | zero =>
        intro lw hg t i hh1 hh2 hh3 hbs hfu ls hl
        exact absurd hfu (Nat.not_lt_zero _)
      | succ fu ih =>
        intro lw hg t i hh1 hh2 hh3 hbs hfu ls hl
        refine lv_iload hx hb dX5_search_36 (lv_at hl 0 rfl) ?_
        refine lv_bipush (v := nI 12) hx hb dX5_search_38 (by decide +kernel) ?_
        refine lv_icmp_gt (tgt := 91) hx hb dX5_search_40 (by decide) (fun qc_7 => ?_) (fun qc_7 => ?_)
        · have c_7 : 12 < i := (nI_ltI (a := 12) (b := i) (by omega) (by omega)).mp qc_7
          have hend : bs (fun n => bo f ((4096 + k) / 2 ^ (12 - n))) (13 - i) lw hg t = (lw, t) := by first | exact bs_stop _ _ _ (by omega) | (rw [show 13 - i = 0 by omega]; rfl)
          have hkc : 0 + 1 ≤ (1 : Nat) := by decide
          have hks : 0 + 2 ≤ (2 : Nat) := by decide
          refine va_new (ci := 2) (fs := [.int 0, .int 0]) (C := RX2) (T := TX2) (N := 2) hx hb hts (by decide +kernel) tyX2 tyX2_ok hown (hts (.classLink RX5 41 RX2) (by decide +kernel)) (hts (.instantiable RX2 2) (by decide +kernel)) (hts (.initialized RX2) (by decide +kernel)) hK hP hD hS hA rfl (fun j hj => by rcases (show j = 0 ∨ j = 1 by omega) with rfl | rfl <;> rfl) hkc hks dX5_search_91 (fun q_8 H hP hD hS => ?_)
          have hP : va_P (dC, dI) vwCl [(q, .inr (5, [.ref b])), (b, .inr (0, [.ref a])), (a, .inl (cJ, 128, .inr (.inl f))), (q_8, .inr (2, [.int 0, .int 0]))] H := hP
          have hD : va_D A [(q, .inr (5, [.ref b])), (b, .inr (0, [.ref a])), (a, .inl (cJ, 128, .inr (.inl f))), (q_8, .inr (2, [.int 0, .int 0]))] := hD
          refine W.cs (cells' := 1) (slots' := 2) rfl rfl ?_
          refine lv_dup hx hb dX5_search_94 rfl ?_
          refine lv_iload_n hx hb dX5_search_95 rfl (lv_at hl 3 rfl) ?_
          refine lv_iload hx hb dX5_search_96 (lv_at hl 1 rfl) ?_
          have hPc := hP.sub (ws' := [(q_8, .inr (2, [.int 0, .int 0]))]) [3] rfl
          have hKc := hK.sub (tys' := []) [] rfl
          have hDc := hD.sub (ws' := [(q_8, .inr (2, [.int 0, .int 0]))]) [3] (by decide) rfl
          have hFc := va_free (wc := [(q_8, .inr (2, [.int 0, .int 0]))]) hD hS hA [3] rfl
          refine va_callv (va_runI (As := [.int (nI lw), .int (nI t)]) (rest := [.ref q_8]) ⟨hx, hb, hml, hown, hts⟩ (c_X2_init l dC dI q_8 0 0 (nI lw) (nI t) H.size ) (cwI 2 hts gX5_search_X2_init rfl rfl rfl (hts (.initialized RX2) (by decide +kernel)) (hts (.methodLink RX5 43 yX2_init) (by decide +kernel)) (hts (.instanceMethod yX2_init) (by decide +kernel)) rfl (by decide +kernel) ⟨Nat.le_of_ble_eq_true rfl, Nat.le_of_ble_eq_true rfl⟩) ⟨fun a U g mk q => by obtain ⟨q0, q1, qP, qK, qD⟩ := q; exact ⟨q0, q1, qP, va_K.moved (u := U) (U := U.calling g mk a) (Vm.Alike.refl U.vm) qK, qD⟩, fun U hU hW => ⟨rfl, by rw [hU], by rw [hU]; exact hPc, va_K.moved hW.alike hKc, hDc.weaken (fun _ _ _ _ => trivial)⟩⟩ rfl rfl hl.1 rfl (lv_room (Nat.le_of_ble_eq_true rfl)) dX5_search_98 ⟨Nat.le_of_ble_eq_true rfl, Nat.le_of_ble_eq_true rfl⟩) hS (fun q _ h => hFc q h) hFc (fun u_10 t9 H1 locs ht hvm hw_9 hB hz1 hk1 hS => ?_)
          obtain ⟨hP1, hK1, hD1⟩ := hB
          rw [ht] at hP1
          have hK1 := va_K.moved hvm.symm hK1
          try dsimp only at hw_9 hP1 hK1 hD1
          obtain ⟨hP, hD⟩ := va_join (wr := [(q, .inr (5, [.ref b])), (b, .inr (0, [.ref a])), (a, .inl (cJ, 128, .inr (.inl f)))]) (w1 := [(q_8, .inr (2, [.int (nI lw), .int (nI t)]))]) hP hD [3] [0, 1, 2] rfl rfl (by decide) (by decide) hk1 hFc hP1 hD1
          generalize H1 = H at hP hS ⊢
          have hP : va_P (dC, dI) vwCl [(q, .inr (5, [.ref b])), (b, .inr (0, [.ref a])), (a, .inl (cJ, 128, .inr (.inl f))), (q_8, .inr (2, [.int (nI lw), .int (nI t)]))] H := hP
          have hD : va_D A [(q, .inr (5, [.ref b])), (b, .inr (0, [.ref a])), (a, .inl (cJ, 128, .inr (.inl f))), (q_8, .inr (2, [.int (nI lw), .int (nI t)]))] := hD
          have hP9 := hP.sub (ws' := [(q, .inr (5, [.ref b])), (b, .inr (0, [.ref a])), (a, .inl (cJ, 128, .inr (.inl f))), (q_8, .inr (2, [.int (nI lw), .int (nI t)]))]) [0, 1, 2, 3] rfl
          have hD9 := hD.sub (ws' := [(q, .inr (5, [.ref b])), (b, .inr (0, [.ref a])), (a, .inl (cJ, 128, .inr (.inl f))), (q_8, .inr (2, [.int (nI lw), .int (nI t)]))]) [0, 1, 2, 3] (by decide) rfl
          have hK9 := hK.sub (tys' := [(cJ, .long)]) [0] rfl
          exact W.aret (v := .ref q_8) hx hb hr (Or.inl ⟨_, rfl⟩) (Or.inr ⟨_, rfl⟩) (fun t9 ht hW => ⟨⟨⟨some lw, t⟩, q_8, rfl, (show ((some lw), t) = srch M k from srch_1 hT hk ((ti_root hT hk).mp c_5) (hbs.trans hend)), by rw [ht]; exact hP9, va_K.moved hW.alike hK9, hD9⟩, hS.F ht⟩) hS.2.2 dX5_search_101
        · have c_7 : ¬ 12 < i := fun h9 => qc_7 ((nI_ltI (a := 12) (b := i) (by omega) (by omega)).mpr h9)
          refine lv_iload_n hx hb dX5_search_43 rfl (lv_at hl 2 rfl) ?_
          refine lv_iload_n hx hb dX5_search_44 rfl (lv_at hl 3 rfl) ?_
          refine lv_iconst (v := nI 1) hx hb dX5_search_45 (by decide +kernel) ?_
          refine lv_iadd hx hb dX5_search_46 ?_
          refine lv_cvi (nI_add _ _) ?_
          refine lv_icmp_le (tgt := 91) hx hb dX5_search_47 (by decide) (fun qc_12 => ?_) (fun qc_12 => ?_)
          · have c_12 : hg ≤ (lw + 1) := (nI_leI (a := hg) (b := lw + 1) (by omega) (by omega)).mp qc_12
            have hend : bs (fun n => bo f ((4096 + k) / 2 ^ (12 - n))) (13 - i) lw hg t = (lw, t) := by first | exact bs_stop _ _ _ (by omega) | (rw [show 13 - i = 0 by omega]; rfl)
            have hkc : 0 + 1 ≤ (1 : Nat) := by decide
            have hks : 0 + 2 ≤ (2 : Nat) := by decide
            refine va_new (ci := 2) (fs := [.int 0, .int 0]) (C := RX2) (T := TX2) (N := 2) hx hb hts (by decide +kernel) tyX2 tyX2_ok hown (hts (.classLink RX5 41 RX2) (by decide +kernel)) (hts (.instantiable RX2 2) (by decide +kernel)) (hts (.initialized RX2) (by decide +kernel)) hK hP hD hS hA rfl (fun j hj => by rcases (show j = 0 ∨ j = 1 by omega) with rfl | rfl <;> rfl) hkc hks dX5_search_91 (fun q_13 H hP hD hS => ?_)
            have hP : va_P (dC, dI) vwCl [(q, .inr (5, [.ref b])), (b, .inr (0, [.ref a])), (a, .inl (cJ, 128, .inr (.inl f))), (q_13, .inr (2, [.int 0, .int 0]))] H := hP
            have hD : va_D A [(q, .inr (5, [.ref b])), (b, .inr (0, [.ref a])), (a, .inl (cJ, 128, .inr (.inl f))), (q_13, .inr (2, [.int 0, .int 0]))] := hD
            refine W.cs (cells' := 1) (slots' := 2) rfl rfl ?_
            refine lv_dup hx hb dX5_search_94 rfl ?_
            refine lv_iload_n hx hb dX5_search_95 rfl (lv_at hl 3 rfl) ?_
            refine lv_iload hx hb dX5_search_96 (lv_at hl 1 rfl) ?_
            have hPc := hP.sub (ws' := [(q_13, .inr (2, [.int 0, .int 0]))]) [3] rfl
            have hKc := hK.sub (tys' := []) [] rfl
            have hDc := hD.sub (ws' := [(q_13, .inr (2, [.int 0, .int 0]))]) [3] (by decide) rfl
            have hFc := va_free (wc := [(q_13, .inr (2, [.int 0, .int 0]))]) hD hS hA [3] rfl
            refine va_callv (va_runI (As := [.int (nI lw), .int (nI t)]) (rest := [.ref q_13]) ⟨hx, hb, hml, hown, hts⟩ (c_X2_init l dC dI q_13 0 0 (nI lw) (nI t) H.size ) (cwI 2 hts gX5_search_X2_init rfl rfl rfl (hts (.initialized RX2) (by decide +kernel)) (hts (.methodLink RX5 43 yX2_init) (by decide +kernel)) (hts (.instanceMethod yX2_init) (by decide +kernel)) rfl (by decide +kernel) ⟨Nat.le_of_ble_eq_true rfl, Nat.le_of_ble_eq_true rfl⟩) ⟨fun a U g mk q => by obtain ⟨q0, q1, qP, qK, qD⟩ := q; exact ⟨q0, q1, qP, va_K.moved (u := U) (U := U.calling g mk a) (Vm.Alike.refl U.vm) qK, qD⟩, fun U hU hW => ⟨rfl, by rw [hU], by rw [hU]; exact hPc, va_K.moved hW.alike hKc, hDc.weaken (fun _ _ _ _ => trivial)⟩⟩ rfl rfl hl.1 rfl (lv_room (Nat.le_of_ble_eq_true rfl)) dX5_search_98 ⟨Nat.le_of_ble_eq_true rfl, Nat.le_of_ble_eq_true rfl⟩) hS (fun q _ h => hFc q h) hFc (fun u_15 t9 H1 locs ht hvm hw_14 hB hz1 hk1 hS => ?_)
            obtain ⟨hP1, hK1, hD1⟩ := hB
            rw [ht] at hP1
            have hK1 := va_K.moved hvm.symm hK1
            try dsimp only at hw_14 hP1 hK1 hD1
            obtain ⟨hP, hD⟩ := va_join (wr := [(q, .inr (5, [.ref b])), (b, .inr (0, [.ref a])), (a, .inl (cJ, 128, .inr (.inl f)))]) (w1 := [(q_13, .inr (2, [.int (nI lw), .int (nI t)]))]) hP hD [3] [0, 1, 2] rfl rfl (by decide) (by decide) hk1 hFc hP1 hD1
            generalize H1 = H at hP hS ⊢
            have hP : va_P (dC, dI) vwCl [(q, .inr (5, [.ref b])), (b, .inr (0, [.ref a])), (a, .inl (cJ, 128, .inr (.inl f))), (q_13, .inr (2, [.int (nI lw), .int (nI t)]))] H := hP
            have hD : va_D A [(q, .inr (5, [.ref b])), (b, .inr (0, [.ref a])), (a, .inl (cJ, 128, .inr (.inl f))), (q_13, .inr (2, [.int (nI lw), .int (nI t)]))] := hD
            have hP9 := hP.sub (ws' := [(q, .inr (5, [.ref b])), (b, .inr (0, [.ref a])), (a, .inl (cJ, 128, .inr (.inl f))), (q_13, .inr (2, [.int (nI lw), .int (nI t)]))]) [0, 1, 2, 3] rfl
            have hD9 := hD.sub (ws' := [(q, .inr (5, [.ref b])), (b, .inr (0, [.ref a])), (a, .inl (cJ, 128, .inr (.inl f))), (q_13, .inr (2, [.int (nI lw), .int (nI t)]))]) [0, 1, 2, 3] (by decide) rfl
            have hK9 := hK.sub (tys' := [(cJ, .long)]) [0] rfl
            exact W.aret (v := .ref q_13) hx hb hr (Or.inl ⟨_, rfl⟩) (Or.inr ⟨_, rfl⟩) (fun t9 ht hW => ⟨⟨⟨some lw, t⟩, q_13, rfl, (show ((some lw), t) = srch M k from srch_1 hT hk ((ti_root hT hk).mp c_5) (hbs.trans hend)), by rw [ht]; exact hP9, va_K.moved hW.alike hK9, hD9⟩, hS.F ht⟩) hS.2.2 dX5_search_101
          · have c_12 : ¬ hg ≤ (lw + 1) := fun h9 => qc_12 ((nI_leI (a := hg) (b := lw + 1) (by omega) (by omega)).mpr h9)
            refine lv_iload_n hx hb dX5_search_50 rfl (lv_at hl 3 rfl) ?_
            refine lv_iload_n hx hb dX5_search_51 rfl (lv_at hl 2 rfl) ?_
            refine lv_iadd hx hb dX5_search_52 ?_
            refine lv_cvi (nI_add _ _) ?_
            refine lv_iconst (v := nI 2) hx hb dX5_search_53 (by decide +kernel) ?_
            refine lv_idiv hx hb dX5_search_54 (by decide +kernel) ?_
            refine lv_cvi (pk_div (by omega) (by decide) (by decide)) ?_
            refine lv_istore (lv' := [(6, .int (nI ((lw + hg) / 2))), (5, .int (nI i)), (4, .int (nI t)), (3, .int (nI hg)), (2, .int (nI lw)), (0, .ref q), (1, .int (nI k))]) hx hb dX5_search_55 hl (by decide) rfl (fun ls hl => ?_)
            refine lv_iinc (v := nI (t + 1)) (lv' := [(4, .int (nI (t + 1))), (6, .int (nI ((lw + hg) / 2))), (5, .int (nI i)), (3, .int (nI hg)), (2, .int (nI lw)), (0, .ref q), (1, .int (nI k))]) hx hb dX5_search_57 hl (k := 2) rfl (nI_1 _) (by decide) rfl (fun ls hl => ?_)
            refine lv_aload_n hx hb dX5_search_60 rfl (lv_at hl 5 rfl) ?_
            refine va_get (D := (dC, dI)) (ci := 5) (v := .ref b) (C := RX5) (T := TX5) (N := 1) hx hb hts (by decide +kernel) hown hK hP 0 rfl rfl 0 (by decide) (hts (.fieldLink RX5 14 "SmallNumberSets$Trie" "nodes" "LSmallNumberSets$Bits;") (by decide +kernel)) (fun _ h9 => h9) rfl dX5_search_61 ?_
            refine lv_iload_n hx hb dX5_search_64 rfl (lv_at hl 6 rfl) ?_
            refine lv_iload hx hb dX5_search_65 (lv_at hl 1 rfl) ?_
            have hPc := hP.sub (ws' := []) [] rfl
            have hKc := hK.sub (tys' := []) [] rfl
            refine vp_callSi (W.runS (As := [.int (nI k), .int (nI ((lw + hg) / 2))]) (rest := [.ref b]) ⟨hx, hb, hml, hown, hts⟩ (c_X5_node l dC dI k ((lw + hg) / 2) (by omega) (by omega)) (va_cwS 2 hts gX5_search_X5_node rfl rfl rfl (by decide +kernel) ⟨Nat.le_of_ble_eq_true rfl, Nat.le_of_ble_eq_true rfl⟩) ⟨fun a U g mk q => by obtain ⟨q0, qP, qK⟩ := q; exact ⟨q0, qP, va_K.moved (u := U) (U := U.calling g mk a) (Vm.Alike.refl U.vm) qK⟩, fun U hU hW => ⟨rfl, by rw [hU]; exact hPc, va_K.moved hW.alike hKc⟩⟩ rfl rfl hl.1 rfl (lv_room (Nat.le_of_ble_eq_true rfl)) dX5_search_67 ⟨Nat.le_of_ble_eq_true rfl, Nat.le_of_ble_eq_true rfl⟩) (fun r_18 hw_17 => ?_)
            subst hw_17
            have hnb := node_eq (show ((lw + hg) / 2) ≤ 12 by omega) k
            have hnc := k_lt (show ((lw + hg) / 2) ≤ 12 by omega) hk
            have hnp := pw_le (show ((lw + hg) / 2) ≤ 12 by omega)
            have hPc := hP.sub (ws' := [(b, .inr (0, [.ref a])), (a, .inl (cJ, 128, .inr (.inl f)))]) [1, 2] rfl
            have hKc := hK.sub (tys' := [(cJ, .long)]) [0] rfl
            refine vp_callSi (W.runV (As := [.int (nI ((4096 + k) / 2 ^ (12 - ((lw + hg) / 2))))]) (rest := []) ⟨hx, hb, hml, hown, hts⟩ (c_X0_has l dC dI b a cJ 128 f ((4096 + k) / 2 ^ (12 - ((lw + hg) / 2))) (by omega) (by omega)) (cwV 1 hts gX5_search_X0_has rfl rfl rfl (by decide +kernel) ⟨Nat.le_of_ble_eq_true rfl, Nat.le_of_ble_eq_true rfl⟩) ⟨fun a U g mk q => by obtain ⟨q0, qP, qK⟩ := q; exact ⟨q0, qP, va_K.moved (u := U) (U := U.calling g mk a) (Vm.Alike.refl U.vm) qK⟩, va_recv hKc hPc (ci := 0) (q0 := 0) rfl rfl, fun U hU hW => ⟨rfl, by rw [hU]; exact hPc, va_K.moved hW.alike hKc⟩⟩ rfl rfl hl.1 rfl (lv_room (Nat.le_of_ble_eq_true rfl)) dX5_search_70 ⟨Nat.le_of_ble_eq_true rfl, Nat.le_of_ble_eq_true rfl⟩) (fun r_20 hw_19 => ?_)
            subst hw_19
            refine lv_if_eq (tgt := 82) hx hb dX5_search_73 (by decide) (fun qc_21 => ?_) (fun qc_21 => ?_)
            · have c_21 : (bo f ((4096 + k) / 2 ^ (12 - ((lw + hg) / 2)))) = false := b2i_f qc_21
              refine lv_iload hx hb dX5_search_82 (lv_at hl 1 rfl) ?_
              refine lv_istore_n (lv' := [(3, .int (nI ((lw + hg) / 2))), (4, .int (nI (t + 1))), (6, .int (nI ((lw + hg) / 2))), (5, .int (nI i)), (2, .int (nI lw)), (0, .ref q), (1, .int (nI k))]) hx hb dX5_search_84 rfl hl (by decide) rfl (fun ls hl => ?_)
              refine lv_iinc (v := nI (i + 1)) (lv' := [(5, .int (nI (i + 1))), (3, .int (nI ((lw + hg) / 2))), (4, .int (nI (t + 1))), (6, .int (nI ((lw + hg) / 2))), (2, .int (nI lw)), (0, .ref q), (1, .int (nI k))]) hx hb dX5_search_85 hl (k := 3) rfl (nI_1 _) (by decide) rfl (fun ls hl => ?_)
              refine lv_goto (tgt := 36) hx hb dX5_search_88 (by decide) ?_
              exact ih lw ((lw + hg) / 2) (t + 1) (i + 1) (by omega) (by omega) (by omega) (hbs.trans (by rw [show 13 - i = 13 - (i + 1) + 1 by omega]; exact bs_f (p := (fun n => bo f ((4096 + k) / 2 ^ (12 - n)))) (by omega) c_21)) (by omega) ls (lv_sub hl [0, 2, 1, 4, 5, 6] rfl)
            · have c_21 : (bo f ((4096 + k) / 2 ^ (12 - ((lw + hg) / 2)))) = true := b2i_t qc_21
              refine lv_iload hx hb dX5_search_76 (lv_at hl 1 rfl) ?_
              refine lv_istore_n (lv' := [(2, .int (nI ((lw + hg) / 2))), (4, .int (nI (t + 1))), (6, .int (nI ((lw + hg) / 2))), (5, .int (nI i)), (3, .int (nI hg)), (0, .ref q), (1, .int (nI k))]) hx hb dX5_search_78 rfl hl (by decide) rfl (fun ls hl => ?_)
              refine lv_goto (tgt := 85) hx hb dX5_search_79 (by decide) ?_
              refine lv_iinc (v := nI (i + 1)) (lv' := [(5, .int (nI (i + 1))), (2, .int (nI ((lw + hg) / 2))), (4, .int (nI (t + 1))), (6, .int (nI ((lw + hg) / 2))), (3, .int (nI hg)), (0, .ref q), (1, .int (nI k))]) hx hb dX5_search_85 hl (k := 3) rfl (nI_1 _) (by decide) rfl (fun ls hl => ?_)
              refine lv_goto (tgt := 36) hx hb dX5_search_88 (by decide) ?_
              exact ih ((lw + hg) / 2) hg (t + 1) (i + 1) (by omega) (by omega) (by omega) (hbs.trans (by rw [show 13 - i = 13 - (i + 1) + 1 by omega]; exact bs_t (p := (fun n => bo f ((4096 + k) / 2 ^ (12 - n)))) (by omega) c_21)) (by omega) ls (lv_sub hl [0, 2, 4, 1, 5, 6] rfl)
    exact key_36_6 _ 0 13 0 0 (by decide) (by decide) (by decide) rfl (Nat.lt_succ_self _) ls (lv_sub hl [0, 1, 2, 3, 4, 5] rfl)
  · have c_5 : (bo f ((4096 + k) / 2 ^ (12 - 0))) = false := b2i_f qc_5
    have hkc : 0 + 1 ≤ (1 : Nat) := by decide
    have hks : 0 + 2 ≤ (2 : Nat) := by decide
    refine va_new (ci := 2) (fs := [.int 0, .int 0]) (C := RX2) (T := TX2) (N := 2) hx hb hts (by decide +kernel) tyX2 tyX2_ok hown (hts (.classLink RX5 41 RX2) (by decide +kernel)) (hts (.instantiable RX2 2) (by decide +kernel)) (hts (.initialized RX2) (by decide +kernel)) hK hP hD hS hA rfl (fun j hj => by rcases (show j = 0 ∨ j = 1 by omega) with rfl | rfl <;> rfl) hkc hks dX5_search_15 (fun q_22 H hP hD hS => ?_)
    have hP : va_P (dC, dI) vwCl [(q, .inr (5, [.ref b])), (b, .inr (0, [.ref a])), (a, .inl (cJ, 128, .inr (.inl f))), (q_22, .inr (2, [.int 0, .int 0]))] H := hP
    have hD : va_D A [(q, .inr (5, [.ref b])), (b, .inr (0, [.ref a])), (a, .inl (cJ, 128, .inr (.inl f))), (q_22, .inr (2, [.int 0, .int 0]))] := hD
    refine W.cs (cells' := 1) (slots' := 2) rfl rfl ?_
    refine lv_dup hx hb dX5_search_18 rfl ?_
    refine lv_iconst (v := -1) hx hb dX5_search_19 (by decide +kernel) ?_
    refine lv_iconst (v := nI 0) hx hb dX5_search_20 (by decide +kernel) ?_
    have hPc := hP.sub (ws' := [(q_22, .inr (2, [.int 0, .int 0]))]) [3] rfl
    have hKc := hK.sub (tys' := []) [] rfl
    have hDc := hD.sub (ws' := [(q_22, .inr (2, [.int 0, .int 0]))]) [3] (by decide) rfl
    have hFc := va_free (wc := [(q_22, .inr (2, [.int 0, .int 0]))]) hD hS hA [3] rfl
    refine va_callv (va_runI (As := [.int (-1), .int (nI 0)]) (rest := [.ref q_22]) ⟨hx, hb, hml, hown, hts⟩ (c_X2_init l dC dI q_22 0 0 (-1) (nI 0) H.size ) (cwI 2 hts gX5_search_X2_init rfl rfl rfl (hts (.initialized RX2) (by decide +kernel)) (hts (.methodLink RX5 43 yX2_init) (by decide +kernel)) (hts (.instanceMethod yX2_init) (by decide +kernel)) rfl (by decide +kernel) ⟨Nat.le_of_ble_eq_true rfl, Nat.le_of_ble_eq_true rfl⟩) ⟨fun a U g mk q => by obtain ⟨q0, q1, qP, qK, qD⟩ := q; exact ⟨q0, q1, qP, va_K.moved (u := U) (U := U.calling g mk a) (Vm.Alike.refl U.vm) qK, qD⟩, fun U hU hW => ⟨rfl, by rw [hU], by rw [hU]; exact hPc, va_K.moved hW.alike hKc, hDc.weaken (fun _ _ _ _ => trivial)⟩⟩ rfl rfl hl.1 rfl (lv_room (Nat.le_of_ble_eq_true rfl)) dX5_search_21 ⟨Nat.le_of_ble_eq_true rfl, Nat.le_of_ble_eq_true rfl⟩) hS (fun q _ h => hFc q h) hFc (fun u_24 t9 H1 locs ht hvm hw_23 hB hz1 hk1 hS => ?_)
    obtain ⟨hP1, hK1, hD1⟩ := hB
    rw [ht] at hP1
    have hK1 := va_K.moved hvm.symm hK1
    try dsimp only at hw_23 hP1 hK1 hD1
    obtain ⟨hP, hD⟩ := va_join (wr := [(q, .inr (5, [.ref b])), (b, .inr (0, [.ref a])), (a, .inl (cJ, 128, .inr (.inl f)))]) (w1 := [(q_22, .inr (2, [.int (-1), .int (nI 0)]))]) hP hD [3] [0, 1, 2] rfl rfl (by decide) (by decide) hk1 hFc hP1 hD1
    generalize H1 = H at hP hS ⊢
    have hP : va_P (dC, dI) vwCl [(q, .inr (5, [.ref b])), (b, .inr (0, [.ref a])), (a, .inl (cJ, 128, .inr (.inl f))), (q_22, .inr (2, [.int (-1), .int (nI 0)]))] H := hP
    have hD : va_D A [(q, .inr (5, [.ref b])), (b, .inr (0, [.ref a])), (a, .inl (cJ, 128, .inr (.inl f))), (q_22, .inr (2, [.int (-1), .int (nI 0)]))] := hD
    have hP9 := hP.sub (ws' := [(q, .inr (5, [.ref b])), (b, .inr (0, [.ref a])), (a, .inl (cJ, 128, .inr (.inl f))), (q_22, .inr (2, [.int (-1), .int (nI 0)]))]) [0, 1, 2, 3] rfl
    have hD9 := hD.sub (ws' := [(q, .inr (5, [.ref b])), (b, .inr (0, [.ref a])), (a, .inl (cJ, 128, .inr (.inl f))), (q_22, .inr (2, [.int (-1), .int (nI 0)]))]) [0, 1, 2, 3] (by decide) rfl
    have hK9 := hK.sub (tys' := [(cJ, .long)]) [0] rfl
    exact W.aret (v := .ref q_22) hx hb hr (Or.inl ⟨_, rfl⟩) (Or.inr ⟨_, rfl⟩) (fun t9 ht hW => ⟨⟨⟨none, 0⟩, q_22, rfl, (show (none, 0) = srch M k from (srch_0 (Classical.not_not.mp fun h9 => by rw [(ti_root hT hk).mpr h9] at c_5; cases c_5)).symm), by rw [ht]; exact hP9, va_K.moved hW.alike hK9, hD9⟩, hS.F ht⟩) hS.2.2 dX5_search_24
