def R_law : String := "SmallNumberSetsLaw"
def lw_P (b : Addr) (xs : List Int32) (args : Array Value) (s : State) : Prop := args = #[.ref b] ∧ s.IntsAt b xs ∧ xs.length ≤ 260 ∧ (Jvm.Cond.and given_1 narrow_1).before args s = true
def lw_Q (_ : Array Value) (s : State) (o : Outcome) (t : State) : Prop := o = .returned (some (.int 1)) ∧ Framed s o t [] 1059269 5923818
def lw_Z (below : List Frame) (a : Array Value) (s : State) : State → Prop := fun t => ∃ o, t.status = .running ∧ Ended t below o ∧ lw_Q a s o t
/-- the law's own end, with 1 on the stack, nothing written that was there before, its room as the claim has it -/
theorem lw_ret {p : Program} {l : Launch} {e : Env} {s : State} {m : MethodId} {below : List Frame} {meth : Method} {c : Code} {b : Nat} (hx : p.tables.exec = Jvm.exec) (hb : c.code = code) (hr : meth.sig.returnType = ret) (hlocks : meth.locks = false) {pc : Nat} {H : Heap} {ls : Array Slot} (hdg : decode code pc = .ok (.ireturn, 1)) : W p l e room_1 s m #[Value.ref b] below meth c H [] 1059269 5923818 (lw_Z below #[Value.ref b] s) (F0 m pc ls [.int 1]) := by
  intro T hT X
  obtain ⟨fs, hret, hrun, hended, hW, hframe⟩ := X.leave (v := some (.int 1)) (hlocks := hlocks) (fun h => by rw [hr] at h; cases h)
  have hmeth' : T.vm.method? m = some meth := X.method'
  refine ⟨T.setFrames fs, ?_, .returned (some (.int 1)), hrun, hended, rfl, ⟨_, rfl⟩, hW, hframe⟩
  jvm_step X.here [X.here.top, hx, hb, hdg, hmeth', hr, ret, narrow_b1]
  (try refine ⟨rfl, ?_⟩); (try refine ⟨rfl, ?_⟩)
  first | (intro acts; rw [hret _ acts rfl rfl rfl]) | rw [hret _ _ rfl rfl rfl]
  exact Steps.refl _
/-- what holds at the law's entry: the machine, the code, the tables' words (any of lw_tbl by 'hts w (by decide +kernel)'), the script of L ints xs at the cell b, what the Statement gives of the start (any of its parts by flat_of_before) -/
def lw_At (p : Program) (s : State) (m : MethodId) (meth : Method) (c : Code) (b L : Nat) (xs : Nat → Int32) : Prop :=
  p.tables.exec = Jvm.exec ∧ c.code = code ∧ meth.sig.returnType = ret ∧ c.maxLocals = 7 ∧ s.vm.findClass R_law = some m.cls ∧ (∀ w ∈ lw_tbl, w.before #[Value.ref b] s = true) ∧ va_X b L xs s s.heap ∧ b < s.heap.size ∧ meth.locks = false ∧ (Jvm.Cond.and given_1 narrow_1).before #[Value.ref b] s = true
theorem ls_flags {l : Launch} (h : l.flags = flags0) : l.stackTraces = false := by
  unfold Launch.stackTraces; rw [h]; decide
theorem vk_ex {args : Array Value} {s : State} {own tx : String} {k : Nat} (h1 : (Cond.stringRef own k tx).before args s = true) (h2 : (Cond.exactly (.string own k) "java/lang/String").before args s = true) : ∃ a, vk_R own k tx a s := by
  obtain ⟨a, c, cA, kA, q1, q2, q3, q4, q5, q6, -⟩ := Cond.exactly_spec (args := args) (first := s) (o := none) (s := s) (idx := []) (t := .string own k) (cls := "java/lang/String") h2
  exact ⟨a, vk_R.of h1 q1⟩
theorem tw_of {args : Array Value} {s : State} {E tx : String} {k : Nat} {A : Nat → Prop} (h1 : (Cond.stringRef RX7 k tx).before args s = true) (h2 : (Cond.exactly (.string RX7 k) "java/lang/String").before args s = true) (hU : vx_Zq Bundle.tN "UNASSIGNED_STACK" Bundle.steD A s s.heap) (hN : vx_Zq Bundle.tN "SUPPRESSED_SENTINEL" Bundle.listD A s s.heap) (d1 : (Cond.declares (Bundle.initS tw_r)).before args s = true) (d2 : (Cond.declares (Bundle.initS tw_e)).before args s = true) (d3 : (Cond.declares (Bundle.initS Bundle.tN)).before args s = true) (d4 : (Cond.castable E E).before args s = true) : ∃ sa, TW E k tx sa A s s.heap := by
  obtain ⟨a, ha⟩ := vk_ex h1 h2
  exact ⟨a, ha, hU, hN, va_Nw.of rfl d1, va_Nw.of rfl d2, va_Nw.of rfl d3, va_Nw.of rfl d4⟩
/-- what the start gives for the throws -/
theorem lg_tw {p : Program} {s : State} {m : MethodId} {meth : Method} {c : Code} {b L : Nat} {xs : Nat → Int32} (C0 : lw_At p s m meth c b L xs) : (∃ sa, TW "java/lang/IllegalArgumentException" 153 "the number is out of range" sa (fun q : Nat => s.heap.size ≤ q) s s.heap) ∧ (∃ sa, TW "java/lang/IndexOutOfBoundsException" 165 "no such cluster, level, place or bucket" sa (fun q : Nat => s.heap.size ≤ q) s s.heap) := by
  obtain ⟨-, -, -, -, -, hts, -, -, -, hgv⟩ := C0
  have hA : ∀ a : Nat, a < s.heap.size → ¬ (fun q : Nat => s.heap.size ≤ q) a := fun a h => Nat.not_le.mpr h
  have hgf := flat_of_before _ hgv
  have hU : vx_Zq Bundle.tN "UNASSIGNED_STACK" Bundle.steD (fun q : Nat => s.heap.size ≤ q) s s.heap := vx_Zqof (hts _ (by decide +kernel)) (hts _ (by decide +kernel)) (hgf _ (by decide +kernel)) hA
  have hN : vx_Zq Bundle.tN "SUPPRESSED_SENTINEL" Bundle.listD (fun q : Nat => s.heap.size ≤ q) s s.heap := vx_Zqof (hts _ (by decide +kernel)) (hts _ (by decide +kernel)) (hgf _ (by decide +kernel)) hA
  have d1 := hts (.declares (Bundle.initS tw_r)) (by decide +kernel)
  have d2 := hts (.declares (Bundle.initS tw_e)) (by decide +kernel)
  have d3 := hts (.declares (Bundle.initS Bundle.tN)) (by decide +kernel)
  exact ⟨tw_of (hts _ (by decide +kernel)) (hgf _ (by decide +kernel)) hU hN d1 d2 d3 (hts _ (by decide +kernel)), tw_of (hts _ (by decide +kernel)) (hgf _ (by decide +kernel)) hU hN d1 d2 d3 (hts _ (by decide +kernel))⟩
theorem lg_nc {p : Program} {s : State} {m : MethodId} {meth : Method} {c : Code} {b L : Nat} {xs : Nat → Int32} (C0 : lw_At p s m meth c b L xs) : va_Nc "java/lang/IllegalArgumentException" "java/lang/IndexOutOfBoundsException" s := by
  obtain ⟨-, -, -, -, -, -, -, -, -, hgv⟩ := C0
  exact va_Nc.of (flat_of_before _ hgv _ (by decide +kernel))
set_option maxHeartbeats 8000000 in
set_option maxRecDepth 100000 in
theorem whole_start {p : Program} {e : Env} {s : State} {m : MethodId} {below : List Frame} {meth : Method} {c : Code} (l : Launch) (hflags : l.flags = flags0) {b L : Nat} {xs : Nat → Int32} (hL : L ≤ 260) (C0 : lw_At p s m meth c b L xs) : W p l e room_1 s m #[Value.ref b] below meth c s.heap [] 0 0 (lw_Z below #[Value.ref b] s) (entryFrame m ([Value.ref b] : List Value).toArray 7) := by
  have hTW := lg_tw C0
  have hNC := lg_nc C0
  obtain ⟨hx, hb, hr, hml, hown, hts0, hX, hbl, hlocks, hgv⟩ := C0
  have hts : ∀ w ∈ wsL_law, w.before #[Value.ref b] s = true := fun w h => hts0 w (wsL_law_in w h)
  have hA : ∀ q : Nat, s.heap.size ≤ q → (fun q : Nat => s.heap.size ≤ q) q := fun _ h => h
  have hbA : ¬ (fun q : Nat => s.heap.size ≤ q) b := Nat.not_le.mpr hbl
  obtain ⟨c0, iS0, hKn0⟩ := u_known (C := RX0) (T := TX0) (N := 1) (n := 1) hts inlX0 (hts (.instantiable RX0 1) (by decide +kernel))
  obtain ⟨c1, iS1, hKn1⟩ := u_known (C := RX1) (T := TX1) (N := 2) (n := 2) hts inlX1 (hts (.instantiable RX1 2) (by decide +kernel))
  obtain ⟨c2, iS2, hKn2⟩ := u_known (C := RX2) (T := TX2) (N := 2) (n := 2) hts inlX2 (hts (.instantiable RX2 2) (by decide +kernel))
  obtain ⟨c3, iS3, hKn3⟩ := u_known (C := RX3) (T := TX3) (N := 3) (n := 3) hts inlX3 (hts (.instantiable RX3 3) (by decide +kernel))
  obtain ⟨c4, iS4, hKn4⟩ := u_known (C := RX4) (T := TX4) (N := 3) (n := 3) hts inlX4 (hts (.instantiable RX4 3) (by decide +kernel))
  obtain ⟨c5, iS5, hKn5⟩ := u_known (C := RX5) (T := TX5) (N := 1) (n := 1) hts inlX5 (hts (.instantiable RX5 1) (by decide +kernel))
  obtain ⟨c6, iS6, hKn6⟩ := u_known (C := RX7) (T := TX7) (N := 3) (n := 3) hts inlX7 (hts (.instantiable RX7 3) (by decide +kernel))
  obtain ⟨dC, dI, hKc⟩ : ∃ (dC : Nat → ClassId) (dI : Nat → Nat → Nat), ∀ (k : Nat) (q : vw_C), vwCl[k]? = some q → u_Kn s q.1 q.2.1 q.2.2 (dC k) (dI k) := by
    refine ⟨fun k => match k with | 0 => c0 | 1 => c1 | 2 => c2 | 3 => c3 | 4 => c4 | 5 => c5 | 6 => c6 | _ => c6, fun k => match k with | 0 => iS0 | 1 => iS1 | 2 => iS2 | 3 => iS3 | 4 => iS4 | 5 => iS5 | 6 => iS6 | _ => iS6, ?_⟩
    intro k q hq
    match k, hq with
    | 0, hq => cases hq; exact hKn0
    | 1, hq => cases hq; exact hKn1
    | 2, hq => cases hq; exact hKn2
    | 3, hq => cases hq; exact hKn3
    | 4, hq => cases hq; exact hKn4
    | 5, hq => cases hq; exact hKn5
    | 6, hq => cases hq; exact hKn6
    | k + 7, hq => simp [vwCl] at hq
  have nw0 : va_Nw (.fieldLinkNest RX7 38 "SmallNumberSets$NumberSet" "buckets" "LSmallNumberSets$Buckets;" "SmallNumberSets") s := va_Nw.of rfl (hts0 _ (by decide +kernel))
  have nw1 : va_Nw (.fieldLinkNest RX7 62 "SmallNumberSets$NumberSet" "tree" "LSmallNumberSets$Tree;" "SmallNumberSets") s := va_Nw.of rfl (hts0 _ (by decide +kernel))
  have nw2 : va_Nw (.fieldLinkNest RX7 112 "SmallNumberSets$NumberSet" "trie" "LSmallNumberSets$Trie;" "SmallNumberSets") s := va_Nw.of rfl (hts0 _ (by decide +kernel))
  have nw3 : va_Nw (.fieldLinkNest RX7 125 "SmallNumberSets$MatchSearch" "match" "I" "SmallNumberSets") s := va_Nw.of rfl (hts0 _ (by decide +kernel))
  have nw4 : va_Nw (.fieldLinkNest RX7 131 "SmallNumberSets$MatchSearch" "probed" "I" "SmallNumberSets") s := va_Nw.of rfl (hts0 _ (by decide +kernel))
  have nw5 : va_Nw (.methodLinkNest RX7 9 yX3_init "SmallNumberSets") s := va_Nw.of rfl (hts0 _ (by decide +kernel))
  have nw6 : va_Nw (.methodLinkNest RX3 9 yX4_init "SmallNumberSets") s := va_Nw.of rfl (hts0 _ (by decide +kernel))
  have nw7 : va_Nw (.methodLinkNest RX3 18 yX5_init "SmallNumberSets") s := va_Nw.of rfl (hts0 _ (by decide +kernel))
  have hS : va_S (fun q : Nat => s.heap.size ≤ q) s.heap s.heap [] := va_S.rf
  have hK : va_K (dC, dI) vwCl [] s := ⟨hKc, fun k q h => by simp at h⟩
  have hP : va_P (dC, dI) vwCl [] s.heap := fun k q h => by simp at h
  have hD : va_D (fun q : Nat => s.heap.size ≤ q) [] := ⟨fun i j p q h => by simp at h, fun k q h => by simp at h⟩
  have hl := lv_entry ([.ref b]) (n := 7) (Nat.le_of_ble_eq_true rfl)
  rw [lg_entry_eq]
  generalize (lg_sl ([.ref b]) ++ List.replicate (7 - (lg_sl ([.ref b])).length) Slot.unset).toArray = ls at hl ⊢
  have hl : lv_has ls 7 [(0, .ref b)] := hl
  have hkc : 0 + 1 ≤ (1059269 : Nat) := by decide
  have hks : 0 + 3 ≤ (5923818 : Nat) := by decide
  refine va_new (ci := 6) (fs := [.null, .null, .null]) (C := RX7) (T := TX7) (N := 3) hx hb hts (by decide +kernel) tyX7 tyX7_ok hown (hts (.classLink RL 9 RX7) (by decide +kernel)) (hts (.instantiable RX7 3) (by decide +kernel)) (hts (.initialized RX7) (by decide +kernel)) hK hP hD hS hA rfl (fun j hj => by rcases (show j = 0 ∨ j = 1 ∨ j = 2 by omega) with rfl | rfl | rfl <;> rfl) hkc hks dL_law_0 (fun q_1 H hP hD hS => ?_)
  have hP : va_P (dC, dI) vwCl [(q_1, .inr (6, [.null, .null, .null]))] H := hP
  have hD : va_D (fun q => s.heap.size ≤ q) [(q_1, .inr (6, [.null, .null, .null]))] := hD
  refine W.cs (cells' := 1) (slots' := 3) rfl rfl ?_
  refine lv_dup hx hb dL_law_3 rfl ?_
  have hPc := hP.sub (ws' := [(q_1, .inr (6, [.null, .null, .null]))]) [0] rfl
  have hKc := hK.sub (tys' := []) [] rfl
  have hDc := hD.sub (ws' := [(q_1, .inr (6, [.null, .null, .null]))]) [0] (by decide) rfl
  have hFc := va_free (wc := [(q_1, .inr (6, [.null, .null, .null]))]) hD hS hA [0] rfl
  refine va_callv (va_runI (As := []) (rest := [.ref q_1]) ⟨hx, hb, hml, hown, hts⟩ (c_X7_init l dC dI q_1 H.size ) (cwI 0 hts gL_law_X7_init rfl rfl rfl (hts (.initialized RX7) (by decide +kernel)) (hts (.methodLink RL 93 yX7_init) (by decide +kernel)) (hts (.instanceMethod yX7_init) (by decide +kernel)) rfl (by decide +kernel) ⟨Nat.le_of_ble_eq_true rfl, Nat.le_of_ble_eq_true rfl⟩) ⟨fun a U g mk q => by obtain ⟨q0, nq0, nq1, nq2, q1, qP, qK, qD⟩ := q; exact ⟨q0, va_Nw.same rfl (U := U.calling g mk a) rfl nq0, va_Nw.same rfl (U := U.calling g mk a) rfl nq1, va_Nw.same rfl (U := U.calling g mk a) rfl nq2, q1, qP, va_K.moved (u := U) (U := U.calling g mk a) (Vm.Alike.refl U.vm) qK, qD⟩, fun U hU hW => ⟨rfl, va_Nw.warmM hW nw5, va_Nw.warmM hW nw6, va_Nw.warmM hW nw7, by rw [hU], by rw [hU]; exact hPc, va_K.moved hW.alike hKc, hDc.weaken (fun _ _ _ _ => trivial)⟩⟩ rfl rfl hl.1 rfl (lv_room (Nat.le_of_ble_eq_true rfl)) dL_law_4 ⟨Nat.le_of_ble_eq_true rfl, Nat.le_of_ble_eq_true rfl⟩) hS (fun q _ h => hFc q h) hFc (fun u_3 t9 H1 locs ht hvm hw_2 hB hz1 hk1 hS => ?_)
  obtain ⟨fm_0_5, fs_0_6, ft_0_7, fc_0_8, sm_0_9, lo_0_10, fm_1_11, fs_1_12, ft_1_13, fc_1_14, sm_1_15, lo_1_16, fm_2_17, fs_2_18, ft_2_19, fc_2_20, sm_2_21, lo_2_22⟩ := u_3
  obtain ⟨s0_23, tq_0_24, ca_0_25, rq_0_26, rb_0_27, rd_0_28, uq_0_29, bm_0_30, am_0_31, bs_0_32, ap_0_33, s1_34, tq_1_35, ca_1_36, rq_1_37, rb_1_38, rd_1_39, uq_1_40, bm_1_41, am_1_42, bs_1_43, ap_1_44, s2_45, tq_2_46, ca_2_47, rq_2_48, rb_2_49, rd_2_50, uq_2_51, bm_2_52, am_2_53, bs_2_54, ap_2_55, cJ_56, hP1, hK1, hD1⟩ := hB
  rw [ht] at hP1
  have hK1 := va_K.moved hvm.symm hK1
  try dsimp only at hw_2 hP1 hK1 hD1
  obtain ⟨hP, hD⟩ := va_join (wr := []) (w1 := [(q_1, .inr (6, [.ref s0_23, .ref s1_34, .ref s2_45])), (s0_23, .inr (3, [.ref tq_0_24, .ref rq_0_26, .ref uq_0_29])), (tq_0_24, .inr (4, [.ref ca_0_25, .long sm_0_9, .int (oI lo_0_10)])), (ca_0_25, .inl (cJ_56, 64, .inr (.inl fc_0_8))), (rq_0_26, .inr (5, [.ref rb_0_27])), (rb_0_27, .inr (0, [.ref rd_0_28])), (rd_0_28, .inl (cJ_56, 128, .inr (.inl ft_0_7))), (uq_0_29, .inr (1, [.ref bm_0_30, .ref bs_0_32])), (bm_0_30, .inr (0, [.ref am_0_31])), (am_0_31, .inl (cJ_56, 64, .inr (.inl fm_0_5))), (bs_0_32, .inr (0, [.ref ap_0_33])), (ap_0_33, .inl (cJ_56, 64, .inr (.inl fs_0_6))), (s1_34, .inr (3, [.ref tq_1_35, .ref rq_1_37, .ref uq_1_40])), (tq_1_35, .inr (4, [.ref ca_1_36, .long sm_1_15, .int (oI lo_1_16)])), (ca_1_36, .inl (cJ_56, 64, .inr (.inl fc_1_14))), (rq_1_37, .inr (5, [.ref rb_1_38])), (rb_1_38, .inr (0, [.ref rd_1_39])), (rd_1_39, .inl (cJ_56, 128, .inr (.inl ft_1_13))), (uq_1_40, .inr (1, [.ref bm_1_41, .ref bs_1_43])), (bm_1_41, .inr (0, [.ref am_1_42])), (am_1_42, .inl (cJ_56, 64, .inr (.inl fm_1_11))), (bs_1_43, .inr (0, [.ref ap_1_44])), (ap_1_44, .inl (cJ_56, 64, .inr (.inl fs_1_12))), (s2_45, .inr (3, [.ref tq_2_46, .ref rq_2_48, .ref uq_2_51])), (tq_2_46, .inr (4, [.ref ca_2_47, .long sm_2_21, .int (oI lo_2_22)])), (ca_2_47, .inl (cJ_56, 64, .inr (.inl fc_2_20))), (rq_2_48, .inr (5, [.ref rb_2_49])), (rb_2_49, .inr (0, [.ref rd_2_50])), (rd_2_50, .inl (cJ_56, 128, .inr (.inl ft_2_19))), (uq_2_51, .inr (1, [.ref bm_2_52, .ref bs_2_54])), (bm_2_52, .inr (0, [.ref am_2_53])), (am_2_53, .inl (cJ_56, 64, .inr (.inl fm_2_17))), (bs_2_54, .inr (0, [.ref ap_2_55])), (ap_2_55, .inl (cJ_56, 64, .inr (.inl fs_2_18)))]) hP hD [0] [] rfl rfl (by decide) (by decide) hk1 hFc hP1 hD1
  have hK := hK.app (hK1.sub (tys' := [(cJ_56, .long)]) [0] rfl)
  generalize H1 = H at hP hS ⊢
  have hP : va_P (dC, dI) vwCl [(q_1, .inr (6, [.ref s0_23, .ref s1_34, .ref s2_45])), (s0_23, .inr (3, [.ref tq_0_24, .ref rq_0_26, .ref uq_0_29])), (tq_0_24, .inr (4, [.ref ca_0_25, .long sm_0_9, .int (oI lo_0_10)])), (ca_0_25, .inl (cJ_56, 64, .inr (.inl fc_0_8))), (rq_0_26, .inr (5, [.ref rb_0_27])), (rb_0_27, .inr (0, [.ref rd_0_28])), (rd_0_28, .inl (cJ_56, 128, .inr (.inl ft_0_7))), (uq_0_29, .inr (1, [.ref bm_0_30, .ref bs_0_32])), (bm_0_30, .inr (0, [.ref am_0_31])), (am_0_31, .inl (cJ_56, 64, .inr (.inl fm_0_5))), (bs_0_32, .inr (0, [.ref ap_0_33])), (ap_0_33, .inl (cJ_56, 64, .inr (.inl fs_0_6))), (s1_34, .inr (3, [.ref tq_1_35, .ref rq_1_37, .ref uq_1_40])), (tq_1_35, .inr (4, [.ref ca_1_36, .long sm_1_15, .int (oI lo_1_16)])), (ca_1_36, .inl (cJ_56, 64, .inr (.inl fc_1_14))), (rq_1_37, .inr (5, [.ref rb_1_38])), (rb_1_38, .inr (0, [.ref rd_1_39])), (rd_1_39, .inl (cJ_56, 128, .inr (.inl ft_1_13))), (uq_1_40, .inr (1, [.ref bm_1_41, .ref bs_1_43])), (bm_1_41, .inr (0, [.ref am_1_42])), (am_1_42, .inl (cJ_56, 64, .inr (.inl fm_1_11))), (bs_1_43, .inr (0, [.ref ap_1_44])), (ap_1_44, .inl (cJ_56, 64, .inr (.inl fs_1_12))), (s2_45, .inr (3, [.ref tq_2_46, .ref rq_2_48, .ref uq_2_51])), (tq_2_46, .inr (4, [.ref ca_2_47, .long sm_2_21, .int (oI lo_2_22)])), (ca_2_47, .inl (cJ_56, 64, .inr (.inl fc_2_20))), (rq_2_48, .inr (5, [.ref rb_2_49])), (rb_2_49, .inr (0, [.ref rd_2_50])), (rd_2_50, .inl (cJ_56, 128, .inr (.inl ft_2_19))), (uq_2_51, .inr (1, [.ref bm_2_52, .ref bs_2_54])), (bm_2_52, .inr (0, [.ref am_2_53])), (am_2_53, .inl (cJ_56, 64, .inr (.inl fm_2_17))), (bs_2_54, .inr (0, [.ref ap_2_55])), (ap_2_55, .inl (cJ_56, 64, .inr (.inl fs_2_18)))] H := hP
  have hD : va_D (fun q => s.heap.size ≤ q) [(q_1, .inr (6, [.ref s0_23, .ref s1_34, .ref s2_45])), (s0_23, .inr (3, [.ref tq_0_24, .ref rq_0_26, .ref uq_0_29])), (tq_0_24, .inr (4, [.ref ca_0_25, .long sm_0_9, .int (oI lo_0_10)])), (ca_0_25, .inl (cJ_56, 64, .inr (.inl fc_0_8))), (rq_0_26, .inr (5, [.ref rb_0_27])), (rb_0_27, .inr (0, [.ref rd_0_28])), (rd_0_28, .inl (cJ_56, 128, .inr (.inl ft_0_7))), (uq_0_29, .inr (1, [.ref bm_0_30, .ref bs_0_32])), (bm_0_30, .inr (0, [.ref am_0_31])), (am_0_31, .inl (cJ_56, 64, .inr (.inl fm_0_5))), (bs_0_32, .inr (0, [.ref ap_0_33])), (ap_0_33, .inl (cJ_56, 64, .inr (.inl fs_0_6))), (s1_34, .inr (3, [.ref tq_1_35, .ref rq_1_37, .ref uq_1_40])), (tq_1_35, .inr (4, [.ref ca_1_36, .long sm_1_15, .int (oI lo_1_16)])), (ca_1_36, .inl (cJ_56, 64, .inr (.inl fc_1_14))), (rq_1_37, .inr (5, [.ref rb_1_38])), (rb_1_38, .inr (0, [.ref rd_1_39])), (rd_1_39, .inl (cJ_56, 128, .inr (.inl ft_1_13))), (uq_1_40, .inr (1, [.ref bm_1_41, .ref bs_1_43])), (bm_1_41, .inr (0, [.ref am_1_42])), (am_1_42, .inl (cJ_56, 64, .inr (.inl fm_1_11))), (bs_1_43, .inr (0, [.ref ap_1_44])), (ap_1_44, .inl (cJ_56, 64, .inr (.inl fs_1_12))), (s2_45, .inr (3, [.ref tq_2_46, .ref rq_2_48, .ref uq_2_51])), (tq_2_46, .inr (4, [.ref ca_2_47, .long sm_2_21, .int (oI lo_2_22)])), (ca_2_47, .inl (cJ_56, 64, .inr (.inl fc_2_20))), (rq_2_48, .inr (5, [.ref rb_2_49])), (rb_2_49, .inr (0, [.ref rd_2_50])), (rd_2_50, .inl (cJ_56, 128, .inr (.inl ft_2_19))), (uq_2_51, .inr (1, [.ref bm_2_52, .ref bs_2_54])), (bm_2_52, .inr (0, [.ref am_2_53])), (am_2_53, .inl (cJ_56, 64, .inr (.inl fm_2_17))), (bs_2_54, .inr (0, [.ref ap_2_55])), (ap_2_55, .inl (cJ_56, 64, .inr (.inl fs_2_18)))] := hD
  have hK : va_K (dC, dI) vwCl [(cJ_56, .long)] s := hK
  refine W.cs (cells' := 34) (slots' := 999) rfl rfl ?_
  refine lv_astore_n (lv' := [(1, .ref q_1), (0, .ref b)]) hx hb dL_law_7 rfl hl (by decide) rfl (fun ls hl => ?_)
  have hini := hw_2
  refine lv_iconst (v := nI 1) hx hb dL_law_8 (by decide +kernel) ?_
  refine lv_istore_n (lv' := [(2, .int (nI 1)), (1, .ref q_1), (0, .ref b)]) hx hb dL_law_9 rfl hl (by decide) rfl (fun ls hl => ?_)
  refine lv_bipush (v := nI 12) hx hb dL_law_10 (by decide +kernel) ?_
  refine lv_aload_n hx hb dL_law_12 rfl (lv_at hl 2 rfl) ?_
  refine lv_iconst (v := nI 0) hx hb dL_law_13 (by decide +kernel) ?_
  have hPc := hP.sub (ws' := []) [] rfl
  have hKc := hK.sub (tys' := []) [] rfl
  refine vp_callSi (W.runS (As := [.ref b, .int (nI 0)]) (rest := [.int (nI 12)]) ⟨hx, hb, hml, hown, hts⟩ (c_L_drawn l dC dI b L xs 0 (by first | assumption | omega) (by first | assumption | omega)) (va_cwS 2 hts gL_law_L_drawn rfl rfl rfl (by decide +kernel) ⟨Nat.le_of_ble_eq_true rfl, Nat.le_of_ble_eq_true rfl⟩) ⟨fun a U g mk q => by obtain ⟨q0, nqX, qP, qK⟩ := q; exact ⟨q0, va_X.moved (u := U) (U := U.calling g mk a) (Vm.Alike.refl U.vm) nqX, qP, va_K.moved (u := U) (U := U.calling g mk a) (Vm.Alike.refl U.vm) qK⟩, fun U hU hW => ⟨rfl, by rw [hU]; exact va_X.moved hW.alike (hX.kept (hS.2.1 b hbl hbA)), by rw [hU]; exact hPc, va_K.moved hW.alike hKc⟩⟩ rfl rfl hl.1 rfl (lv_room (Nat.le_of_ble_eq_true rfl)) dL_law_14 ⟨Nat.le_of_ble_eq_true rfl, Nat.le_of_ble_eq_true rfl⟩) (fun r_58 hw_57 => ?_)
  subst hw_57
  have hdr := drF_lt L xs 0
  refine lv_bipush (v := nI 46) hx hb dL_law_17 (by decide +kernel) ?_
  refine lv_irem hx hb dL_law_19 (by decide +kernel) ?_
  refine lv_cvi (pk_rem (by omega) (by decide) (by decide)) ?_
  refine lv_iadd hx hb dL_law_20 ?_
  refine lv_cvi (nI_add _ _) ?_
  obtain ⟨n, hn9⟩ : ∃ z : Nat, z = 12 + ((drF L xs 0) % 46) := ⟨_, rfl⟩
  refine lv_cvi (congrArg nI hn9.symm) ?_
  have hn : 12 ≤ n ∧ n ≤ 57 := by omega
  refine lv_istore_n (lv' := [(3, .int (nI n)), (2, .int (nI 1)), (1, .ref q_1), (0, .ref b)]) hx hb dL_law_21 rfl hl (by decide) rfl (fun ls hl => ?_)
  refine lv_iconst (v := nI 1) hx hb dL_law_22 (by decide +kernel) ?_
  refine lv_istore (lv' := [(4, .int (nI 1)), (3, .int (nI n)), (2, .int (nI 1)), (1, .ref q_1), (0, .ref b)]) hx hb dL_law_23 hl (by decide) rfl (fun ls hl => ?_)
  have hK9 := hK
  obtain ⟨⟨n0, a0, b0⟩, ⟨n1, a1, b1⟩, n2, a2, b2⟩ := hini
  have hls := ls_flags hflags
  have G0 : LG p s m meth c b L xs dC dI cJ_56 := ⟨hx, hb, hr, hml, hown, hts, hX, hbl, hlocks, hK9, hTW, hNC, nw0, nw1, nw2, nw3, nw4, nw5, nw6, nw7⟩
  refine law_1 l hls hL G0 q_1 s0_23 s1_34 s2_45 tq_0_24 ca_0_25 rq_0_26 rb_0_27 rd_0_28 uq_0_29 bm_0_30 am_0_31 bs_0_32 ap_0_33 tq_1_35 ca_1_36 rq_1_37 rb_1_38 rd_1_39 uq_1_40 bm_1_41 am_1_42 bs_1_43 ap_1_44 tq_2_46 ca_2_47 rq_2_48 rb_2_49 rd_2_50 uq_2_51 bm_2_52 am_2_53 bs_2_54 ap_2_55 n hn  fm_0_5 fs_0_6 ft_0_7 fc_0_8 sm_0_9 lo_0_10 fm_1_11 fs_1_12 ft_1_13 fc_1_14 sm_1_15 lo_1_16 fm_2_17 fs_2_18 ft_2_19 fc_2_20 sm_2_21 lo_2_22 a0 (34) (999) ⟨by omega, by omega⟩ _ _ ⟨hP, hD, hS, n0, n1, n2⟩ ls (lv_sub hl [4, 3, 2, 1, 0] rfl) ?_
  intro fm_0v0 fs_0v0 ft_0v0 fc_0v0 sm_0v0 lo_0v0 H0 lo0 ls0 hW0 hl0 h_0
  refine law_2 l hls hL G0 q_1 s0_23 s1_34 s2_45 tq_0_24 ca_0_25 rq_0_26 rb_0_27 rd_0_28 uq_0_29 bm_0_30 am_0_31 bs_0_32 ap_0_33 tq_1_35 ca_1_36 rq_1_37 rb_1_38 rd_1_39 uq_1_40 bm_1_41 am_1_42 bs_1_43 ap_1_44 tq_2_46 ca_2_47 rq_2_48 rb_2_49 rd_2_50 uq_2_51 bm_2_52 am_2_53 bs_2_54 ap_2_55 n hn  fm_0v0 fs_0v0 ft_0v0 fc_0v0 sm_0v0 lo_0v0 fm_1_11 fs_1_12 ft_1_13 fc_1_14 sm_1_15 lo_1_16 fm_2_17 fs_2_18 ft_2_19 fc_2_20 sm_2_21 lo_2_22 h_0 a1 (34) (999) ⟨by omega, by omega⟩ H0 lo0 hW0 ls0 hl0 ?_
  intro fm_1v1 fs_1v1 ft_1v1 fc_1v1 sm_1v1 lo_1v1 H1 lo1 ls1 hW1 hl1 h_1
  refine law_3 l hls hL G0 q_1 s0_23 s1_34 s2_45 tq_0_24 ca_0_25 rq_0_26 rb_0_27 rd_0_28 uq_0_29 bm_0_30 am_0_31 bs_0_32 ap_0_33 tq_1_35 ca_1_36 rq_1_37 rb_1_38 rd_1_39 uq_1_40 bm_1_41 am_1_42 bs_1_43 ap_1_44 tq_2_46 ca_2_47 rq_2_48 rb_2_49 rd_2_50 uq_2_51 bm_2_52 am_2_53 bs_2_54 ap_2_55 n hn fm_0v0 fm_0v0 fs_0v0 ft_0v0 fc_0v0 sm_0v0 lo_0v0 fm_1v1 fs_1v1 ft_1v1 fc_1v1 sm_1v1 lo_1v1 fm_2_17 fs_2_18 ft_2_19 fc_2_20 sm_2_21 lo_2_22 rfl (mem_eq h_0 h_1 (fun j => by show (1 ≤ j ∧ j < n + 1) ↔ (0 < j ∧ j ≤ n); omega)) (34 + 57) (999 + 342) ⟨by omega, by omega⟩ H1 lo1 hW1 ls1 hl1 ?_
  intro fm_0v2 fs_0v2 ft_0v2 fc_0v2 sm_0v2 lo_0v2 H2 lo2 ls2 hW2 hl2 h_2
  refine law_4 l hls hL G0 q_1 s0_23 s1_34 s2_45 tq_0_24 ca_0_25 rq_0_26 rb_0_27 rd_0_28 uq_0_29 bm_0_30 am_0_31 bs_0_32 ap_0_33 tq_1_35 ca_1_36 rq_1_37 rb_1_38 rd_1_39 uq_1_40 bm_1_41 am_1_42 bs_1_43 ap_1_44 tq_2_46 ca_2_47 rq_2_48 rb_2_49 rd_2_50 uq_2_51 bm_2_52 am_2_53 bs_2_54 ap_2_55 n hn fm_0v0 fm_1v1 fm_0v2 fs_0v2 ft_0v2 fc_0v2 sm_0v2 lo_0v2 fm_1v1 fs_1v1 ft_1v1 fc_1v1 sm_1v1 lo_1v1 fm_2_17 fs_2_18 ft_2_19 fc_2_20 sm_2_21 lo_2_22 rfl h_2 (mem_eq h_0 h_1 (fun j => by show (1 ≤ j ∧ j < n + 1) ↔ (0 < j ∧ j ≤ n); omega)) (34 + 57 + 170) (999 + 342 + 1020) ⟨by omega, by omega⟩ H2 lo2 hW2 ls2 hl2 ?_
  intro fm_1v3 fs_1v3 ft_1v3 fc_1v3 sm_1v3 lo_1v3 H3 lo3 ls3 hW3 hl3 h_3
  refine law_5 l hls hL G0 q_1 s0_23 s1_34 s2_45 tq_0_24 ca_0_25 rq_0_26 rb_0_27 rd_0_28 uq_0_29 bm_0_30 am_0_31 bs_0_32 ap_0_33 tq_1_35 ca_1_36 rq_1_37 rb_1_38 rd_1_39 uq_1_40 bm_1_41 am_1_42 bs_1_43 ap_1_44 tq_2_46 ca_2_47 rq_2_48 rb_2_49 rd_2_50 uq_2_51 bm_2_52 am_2_53 bs_2_54 ap_2_55 n hn  fm_0v2 fs_0v2 ft_0v2 fc_0v2 sm_0v2 lo_0v2 fm_1v3 fs_1v3 ft_1v3 fc_1v3 sm_1v3 lo_1v3 fm_2_17 fs_2_18 ft_2_19 fc_2_20 sm_2_21 lo_2_22 h_3 (34 + 57 + 170 + 170) (999 + 342 + 1020 + 1020) ⟨by omega, by omega⟩ H3 lo3 hW3 ls3 hl3 ?_
  intro fm_0v4 fs_0v4 ft_0v4 fc_0v4 sm_0v4 lo_0v4 fm_1v4 fs_1v4 ft_1v4 fc_1v4 sm_1v4 lo_1v4 H4 lo4 ls4 hW4 hl4 h_40 h_41
  refine law_6 l hls hL G0 q_1 s0_23 s1_34 s2_45 tq_0_24 ca_0_25 rq_0_26 rb_0_27 rd_0_28 uq_0_29 bm_0_30 am_0_31 bs_0_32 ap_0_33 tq_1_35 ca_1_36 rq_1_37 rb_1_38 rd_1_39 uq_1_40 bm_1_41 am_1_42 bs_1_43 ap_1_44 tq_2_46 ca_2_47 rq_2_48 rb_2_49 rd_2_50 uq_2_51 bm_2_52 am_2_53 bs_2_54 ap_2_55 n hn  fm_0v4 fs_0v4 ft_0v4 fc_0v4 sm_0v4 lo_0v4 fm_1v4 fs_1v4 ft_1v4 fc_1v4 sm_1v4 lo_1v4 fm_2_17 fs_2_18 ft_2_19 fc_2_20 sm_2_21 lo_2_22 h_40 h_41 a2 (34 + 57 + 170 + 170 + 696320) (999 + 342 + 1020 + 1020 + 4177920) ⟨by omega, by omega⟩ H4 lo4 hW4 ls4 hl4 ?_
  intro  H5 lo5 ls5 hW5 hl5 
  refine va_forget (fun q hq => hW5.2.2.1.2.2 q hq) ?_
  refine W.widen (k := 1059269) (n := 5923818) (by omega) (by omega) ?_
  refine lv_cvi (y := 1) rfl ?_
  exact lw_ret hx hb hr hlocks dL_law_426
