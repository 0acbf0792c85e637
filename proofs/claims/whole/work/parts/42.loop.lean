theorem lp_cmp {i L : Nat} (hi : i ≤ L) (hL : L ≤ 2560) : nI L - nI 5 < nI i ↔ ¬ i + 5 ≤ L := by
  rcases Nat.lt_or_ge L 5 with h | h
  · have h2 : ∀ L, L < 5 → ∀ i, i < 5 → i ≤ L → nI L - nI 5 < nI i := by decide
    exact ⟨fun _ => by omega, fun _ => h2 L h i (by omega) hi⟩
  · rw [pk_sub h, nI_ltI (by omega) (by omega)]
    omega
theorem and31 (x : Int32) : ∃ k, k < 32 ∧ x &&& nI 31 = nI k := by
  refine ⟨x.toBitVec.toNat % 32, Nat.mod_lt _ (by decide), ?_⟩
  apply Int32.toBitVec_inj.mp
  apply BitVec.eq_of_toNat_eq
  have h1 : (nI 31).toBitVec.toNat = 31 := by decide
  rw [Int32.toBitVec_and, BitVec.toNat_and, h1]
  have h2 := Nat.and_two_pow_sub_one_eq_mod x.toBitVec.toNat 5
  rw [show (2 : Nat) ^ 5 - 1 = 31 from rfl] at h2
  rw [h2]
  show _ = (Int32.ofNat (x.toBitVec.toNat % 32)).toBitVec.toNat
  have h3 : (Int32.ofNat (x.toBitVec.toNat % 32)).toBitVec = BitVec.ofNat 32 (x.toBitVec.toNat % 32) := rfl
  rw [h3, BitVec.toNat_ofNat, Nat.mod_eq_of_lt (a := x.toBitVec.toNat % 32)]
  exact Nat.lt_of_lt_of_le (Nat.mod_lt _ (by decide)) (by decide)
set_option maxHeartbeats 8000000 in
set_option maxRecDepth 100000 in
/-- the law's loop -/
theorem law_loop {p : Program} {e : Env} {s : State} {m : MethodId} {below : List Frame} {meth : Method} {c : Code} (l : Launch) (hls : l.stackTraces = false) {b L : Nat} {xs : Nat → Int32} {Qz : State → Prop} (hL : L ≤ 2560) {dC : Nat → ClassId} {dI : Nat → Nat → Nat} {cZ cI cJ : ClassId} (G0 : LG p s m meth c b L xs dC dI cZ cI cJ) (q s0 s1 s2 tq_0 ca_0 rq_0 rb_0 rd_0 uq_0 bm_0 am_0 bs_0 ap_0 tq_1 ca_1 rq_1 rb_1 rd_1 uq_1 bm_1 am_1 bs_1 ap_1 tq_2 ca_2 rq_2 rb_2 rd_2 uq_2 bm_2 am_2 bs_2 ap_2 mo mq zq sq bq cq pq oq : Nat) (hend : ∀ (cells slots : Nat) (H : Heap) (locs : List Loc) (ls : Array Slot), cells ≤ 601024 → slots ≤ 7293034 → va_S (fun q => s.heap.size ≤ q) s.heap H locs → W p l e room_1 s m #[Value.ref b] below meth c H locs cells slots Qz (F0 m 1759 ls [])) : ∀ (n i : Nat) (fm_0 : Nat → Int64) (fs_0 : Nat → Int64) (ft_0 : Nat → Int64) (fc_0 : Nat → Int64) (sm_0 : Int64) (lo_0 : Option Nat) (fm_1 : Nat → Int64) (fs_1 : Nat → Int64) (ft_1 : Nat → Int64) (fc_1 : Nat → Int64) (sm_1 : Int64) (lo_1 : Option Nat) (fm_2 : Nat → Int64) (fs_2 : Nat → Int64) (ft_2 : Nat → Int64) (fc_2 : Nat → Int64) (sm_2 : Int64) (lo_2 : Option Nat) (fM : Nat → Int32) (fS : Nat → Int32) (fP : Nat → Int32) (fB : Nat → Int32) (fC : Nat → Int64) (smm : Int64) (fT : Nat → Int32) (ps : Int32) (th : Int32) (fo : Nat → Int64) (cells slots : Nat) (H : Heap) (locs : List Loc) (ls : Array Slot), i ≤ L → L + 1 ≤ i + n → cells + (L - i) ≤ 601024 → slots + 6 * (L - i) ≤ 7293034 → LW dC dI s q s0 s1 s2 tq_0 ca_0 rq_0 rb_0 rd_0 uq_0 bm_0 am_0 bs_0 ap_0 tq_1 ca_1 rq_1 rb_1 rd_1 uq_1 bm_1 am_1 bs_1 ap_1 tq_2 ca_2 rq_2 rb_2 rd_2 uq_2 bm_2 am_2 bs_2 ap_2 mo mq zq sq bq cq pq oq cZ cI cJ fm_0 fs_0 ft_0 fc_0 sm_0 lo_0 fm_1 fs_1 ft_1 fc_1 sm_1 lo_1 fm_2 fs_2 ft_2 fc_2 sm_2 lo_2 fM fS fP fB fC smm fT ps th fo H locs → lv_has ls 7 [(0, .ref b), (1, .ref q), (2, .ref mo), (3, .ref oq), (4, .int (nI i))] → W p l e room_1 s m #[Value.ref b] below meth c H locs cells slots Qz (F0 m 23 ls []) := by
  have G1 := G0
  obtain ⟨hx, hb, hr, hml, hown, hts, hX, hbl, hlocks, hK, hTW, hNC, hNW⟩ := G1
  have hbA : ¬ (fun q : Nat => s.heap.size ≤ q) b := Nat.not_le.mpr hbl
  intro n
  induction n with
  | zero =>
    intro i fm_0 fs_0 ft_0 fc_0 sm_0 lo_0 fm_1 fs_1 ft_1 fc_1 sm_1 lo_1 fm_2 fs_2 ft_2 fc_2 sm_2 lo_2 fM fS fP fB fC smm fT ps th fo cells slots H locs ls h1 h2
    exact absurd h2 (by omega)
  | succ n ih =>
    intro i fm_0 fs_0 ft_0 fc_0 sm_0 lo_0 fm_1 fs_1 ft_1 fc_1 sm_1 lo_1 fm_2 fs_2 ft_2 fc_2 sm_2 lo_2 fM fS fP fB fC smm fT ps th fo cells slots H locs ls hi hin hc1 hc2 hW hl
    have hS := hW.2.2.1
    refine lv_iload hx hb dL_law_23 (lv_at hl 4 rfl) ?_
    refine lv_aload_n hx hb dL_law_25 rfl (lv_at hl 0 rfl) ?_
    refine va_slen hx hb hX hbl hbA hS dL_law_26 ?_
    refine lv_cvi (y := nI L) (rfl) ?_
    refine lv_iconst (v := nI 5) hx hb dL_law_27 (by decide +kernel) ?_
    refine lv_isub hx hb dL_law_28 ?_
    refine lv_icmp_gt (tgt := 1759) hx hb dL_law_29 (by decide) (fun qc => ?_) (fun qc => ?_)
    · exact hend cells slots H locs ls (by omega) (by omega) hS
    · have hi5 : i + 5 ≤ L := by
        rcases Nat.lt_or_ge L (i + 5) with q9 | q9
        · exact absurd ((lp_cmp hi hL).mpr (by omega)) qc
        · exact q9
      refine lv_aload_n hx hb dL_law_32 rfl (lv_at hl 0 rfl) ?_
      refine lv_iload hx hb dL_law_33 (lv_at hl 4 rfl) ?_
      refine va_sld hx hb hX hbl hbA hS (vp_in_nI (by omega) (by omega)) dL_law_35 ?_
      refine lv_bipush (v := nI 31) hx hb dL_law_36 (by decide +kernel) ?_
      refine lv_iand hx hb dL_law_38 ?_
      obtain ⟨k, hk, hk1⟩ := and31 (xs (nI i).toNatClampNeg)
      refine lv_cvi hk1 ?_
      have kk : ∀ (fm_0₁ : Nat → Int64) (fs_0₁ : Nat → Int64) (ft_0₁ : Nat → Int64) (fc_0₁ : Nat → Int64) (sm_0₁ : Int64) (lo_0₁ : Option Nat) (fm_1₁ : Nat → Int64) (fs_1₁ : Nat → Int64) (ft_1₁ : Nat → Int64) (fc_1₁ : Nat → Int64) (sm_1₁ : Int64) (lo_1₁ : Option Nat) (fm_2₁ : Nat → Int64) (fs_2₁ : Nat → Int64) (ft_2₁ : Nat → Int64) (fc_2₁ : Nat → Int64) (sm_2₁ : Int64) (lo_2₁ : Option Nat) (fM₁ : Nat → Int32) (fS₁ : Nat → Int32) (fP₁ : Nat → Int32) (fB₁ : Nat → Int32) (fC₁ : Nat → Int64) (smm₁ : Int64) (fT₁ : Nat → Int32) (ps₁ : Int32) (th₁ : Int32) (fo₁ : Nat → Int64) (H₁ : Heap) (locs₁ : List Loc) (ls₁ : Array Slot), LW dC dI s q s0 s1 s2 tq_0 ca_0 rq_0 rb_0 rd_0 uq_0 bm_0 am_0 bs_0 ap_0 tq_1 ca_1 rq_1 rb_1 rd_1 uq_1 bm_1 am_1 bs_1 ap_1 tq_2 ca_2 rq_2 rb_2 rd_2 uq_2 bm_2 am_2 bs_2 ap_2 mo mq zq sq bq cq pq oq cZ cI cJ fm_0₁ fs_0₁ ft_0₁ fc_0₁ sm_0₁ lo_0₁ fm_1₁ fs_1₁ ft_1₁ fc_1₁ sm_1₁ lo_1₁ fm_2₁ fs_2₁ ft_2₁ fc_2₁ sm_2₁ lo_2₁ fM₁ fS₁ fP₁ fB₁ fC₁ smm₁ fT₁ ps₁ th₁ fo₁ H₁ locs₁ → lv_has ls₁ 7 [(0, .ref b), (1, .ref q), (2, .ref mo), (3, .ref oq), (4, .int (nI i))] → W p l e room_1 s m #[Value.ref b] below meth c H₁ locs₁ (cells + 1) (slots + 6) Qz (F0 m 1753 ls₁ []) := by
        intro fm_0₁ fs_0₁ ft_0₁ fc_0₁ sm_0₁ lo_0₁ fm_1₁ fs_1₁ ft_1₁ fc_1₁ sm_1₁ lo_1₁ fm_2₁ fs_2₁ ft_2₁ fc_2₁ sm_2₁ lo_2₁ fM₁ fS₁ fP₁ fB₁ fC₁ smm₁ fT₁ ps₁ th₁ fo₁ H₁ locs₁ ls₁ hW₁ hl₁
        refine lv_iinc (v := nI (i + 5)) (lv' := [(4, .int (nI (i + 5))), (0, .ref b), (1, .ref q), (2, .ref mo), (3, .ref oq)]) hx hb dL_law_1753 hl₁ (k := 4) rfl (nI_add _ 5) (by decide) rfl (fun ls hl => ?_)
        refine lv_goto (tgt := 23) hx hb dL_law_1756 (by decide) ?_
        exact ih (i + 5) fm_0₁ fs_0₁ ft_0₁ fc_0₁ sm_0₁ lo_0₁ fm_1₁ fs_1₁ ft_1₁ fc_1₁ sm_1₁ lo_1₁ fm_2₁ fs_2₁ ft_2₁ fc_2₁ sm_2₁ lo_2₁ fM₁ fS₁ fP₁ fB₁ fC₁ smm₁ fT₁ ps₁ th₁ fo₁ (cells + 1) (slots + 6) H₁ locs₁ ls hi5 (by omega) (by omega) (by omega) hW₁ (lv_sub hl [1, 2, 3, 4, 0] rfl)
      rcases Nat.lt_or_ge k 24 with hk2 | hk2
      · rcases (show k = 0 ∨ k = 1 ∨ k = 2 ∨ k = 3 ∨ k = 4 ∨ k = 5 ∨ k = 6 ∨ k = 7 ∨ k = 8 ∨ k = 9 ∨ k = 10 ∨ k = 11 ∨ k = 12 ∨ k = 13 ∨ k = 14 ∨ k = 15 ∨ k = 16 ∨ k = 17 ∨ k = 18 ∨ k = 19 ∨ k = 20 ∨ k = 21 ∨ k = 22 ∨ k = 23 by omega) with rfl | rfl | rfl | rfl | rfl | rfl | rfl | rfl | rfl | rfl | rfl | rfl | rfl | rfl | rfl | rfl | rfl | rfl | rfl | rfl | rfl | rfl | rfl | rfl
        · refine lv_tableIn (off := 109) (tgt := 148) hx hb dL_law_39 (by decide +kernel) (by decide +kernel) (by decide +kernel) (by decide) ?_
          exact k_insert l hls hL G0 i hi5 q s0 s1 s2 tq_0 ca_0 rq_0 rb_0 rd_0 uq_0 bm_0 am_0 bs_0 ap_0 tq_1 ca_1 rq_1 rb_1 rd_1 uq_1 bm_1 am_1 bs_1 ap_1 tq_2 ca_2 rq_2 rb_2 rd_2 uq_2 bm_2 am_2 bs_2 ap_2 mo mq zq sq bq cq pq oq fm_0 fs_0 ft_0 fc_0 sm_0 lo_0 fm_1 fs_1 ft_1 fc_1 sm_1 lo_1 fm_2 fs_2 ft_2 fc_2 sm_2 lo_2 fM fS fP fB fC smm fT ps th fo cells slots ⟨by omega, by omega⟩ H locs hW ls hl kk
        · refine lv_tableIn (off := 184) (tgt := 223) hx hb dL_law_39 (by decide +kernel) (by decide +kernel) (by decide +kernel) (by decide) ?_
          exact k_insertRange l hls hL G0 i hi5 q s0 s1 s2 tq_0 ca_0 rq_0 rb_0 rd_0 uq_0 bm_0 am_0 bs_0 ap_0 tq_1 ca_1 rq_1 rb_1 rd_1 uq_1 bm_1 am_1 bs_1 ap_1 tq_2 ca_2 rq_2 rb_2 rd_2 uq_2 bm_2 am_2 bs_2 ap_2 mo mq zq sq bq cq pq oq fm_0 fs_0 ft_0 fc_0 sm_0 lo_0 fm_1 fs_1 ft_1 fc_1 sm_1 lo_1 fm_2 fs_2 ft_2 fc_2 sm_2 lo_2 fM fS fP fB fC smm fT ps th fo cells slots ⟨by omega, by omega⟩ H locs hW ls hl kk
        · refine lv_tableIn (off := 276) (tgt := 315) hx hb dL_law_39 (by decide +kernel) (by decide +kernel) (by decide +kernel) (by decide) ?_
          exact k_insertAll l hls hL G0 i hi5 q s0 s1 s2 tq_0 ca_0 rq_0 rb_0 rd_0 uq_0 bm_0 am_0 bs_0 ap_0 tq_1 ca_1 rq_1 rb_1 rd_1 uq_1 bm_1 am_1 bs_1 ap_1 tq_2 ca_2 rq_2 rb_2 rd_2 uq_2 bm_2 am_2 bs_2 ap_2 mo mq zq sq bq cq pq oq fm_0 fs_0 ft_0 fc_0 sm_0 lo_0 fm_1 fs_1 ft_1 fc_1 sm_1 lo_1 fm_2 fs_2 ft_2 fc_2 sm_2 lo_2 fM fS fP fB fC smm fT ps th fo cells slots ⟨by omega, by omega⟩ H locs hW ls hl kk
        · refine lv_tableIn (off := 344) (tgt := 383) hx hb dL_law_39 (by decide +kernel) (by decide +kernel) (by decide +kernel) (by decide) ?_
          exact k_delete l hls hL G0 i hi5 q s0 s1 s2 tq_0 ca_0 rq_0 rb_0 rd_0 uq_0 bm_0 am_0 bs_0 ap_0 tq_1 ca_1 rq_1 rb_1 rd_1 uq_1 bm_1 am_1 bs_1 ap_1 tq_2 ca_2 rq_2 rb_2 rd_2 uq_2 bm_2 am_2 bs_2 ap_2 mo mq zq sq bq cq pq oq fm_0 fs_0 ft_0 fc_0 sm_0 lo_0 fm_1 fs_1 ft_1 fc_1 sm_1 lo_1 fm_2 fs_2 ft_2 fc_2 sm_2 lo_2 fM fS fP fB fC smm fT ps th fo cells slots ⟨by omega, by omega⟩ H locs hW ls hl kk
        · refine lv_tableIn (off := 419) (tgt := 458) hx hb dL_law_39 (by decide +kernel) (by decide +kernel) (by decide +kernel) (by decide) ?_
          exact k_pollFirst l hls hL G0 i hi5 q s0 s1 s2 tq_0 ca_0 rq_0 rb_0 rd_0 uq_0 bm_0 am_0 bs_0 ap_0 tq_1 ca_1 rq_1 rb_1 rd_1 uq_1 bm_1 am_1 bs_1 ap_1 tq_2 ca_2 rq_2 rb_2 rd_2 uq_2 bm_2 am_2 bs_2 ap_2 mo mq zq sq bq cq pq oq fm_0 fs_0 ft_0 fc_0 sm_0 lo_0 fm_1 fs_1 ft_1 fc_1 sm_1 lo_1 fm_2 fs_2 ft_2 fc_2 sm_2 lo_2 fM fS fP fB fC smm fT ps th fo cells slots ⟨by omega, by omega⟩ H locs hW ls hl kk
        · refine lv_tableIn (off := 475) (tgt := 514) hx hb dL_law_39 (by decide +kernel) (by decide +kernel) (by decide +kernel) (by decide) ?_
          exact k_pollLast l hls hL G0 i hi5 q s0 s1 s2 tq_0 ca_0 rq_0 rb_0 rd_0 uq_0 bm_0 am_0 bs_0 ap_0 tq_1 ca_1 rq_1 rb_1 rd_1 uq_1 bm_1 am_1 bs_1 ap_1 tq_2 ca_2 rq_2 rb_2 rd_2 uq_2 bm_2 am_2 bs_2 ap_2 mo mq zq sq bq cq pq oq fm_0 fs_0 ft_0 fc_0 sm_0 lo_0 fm_1 fs_1 ft_1 fc_1 sm_1 lo_1 fm_2 fs_2 ft_2 fc_2 sm_2 lo_2 fM fS fP fB fC smm fT ps th fo cells slots ⟨by omega, by omega⟩ H locs hW ls hl kk
        · refine lv_tableIn (off := 531) (tgt := 570) hx hb dL_law_39 (by decide +kernel) (by decide +kernel) (by decide +kernel) (by decide) ?_
          exact k_clear l hls hL G0 i hi5 q s0 s1 s2 tq_0 ca_0 rq_0 rb_0 rd_0 uq_0 bm_0 am_0 bs_0 ap_0 tq_1 ca_1 rq_1 rb_1 rd_1 uq_1 bm_1 am_1 bs_1 ap_1 tq_2 ca_2 rq_2 rb_2 rd_2 uq_2 bm_2 am_2 bs_2 ap_2 mo mq zq sq bq cq pq oq fm_0 fs_0 ft_0 fc_0 sm_0 lo_0 fm_1 fs_1 ft_1 fc_1 sm_1 lo_1 fm_2 fs_2 ft_2 fc_2 sm_2 lo_2 fM fS fP fB fC smm fT ps th fo cells slots ⟨by omega, by omega⟩ H locs hW ls hl kk
        · refine lv_tableIn (off := 587) (tgt := 626) hx hb dL_law_39 (by decide +kernel) (by decide +kernel) (by decide +kernel) (by decide) ?_
          exact k_size l hls hL G0 i hi5 q s0 s1 s2 tq_0 ca_0 rq_0 rb_0 rd_0 uq_0 bm_0 am_0 bs_0 ap_0 tq_1 ca_1 rq_1 rb_1 rd_1 uq_1 bm_1 am_1 bs_1 ap_1 tq_2 ca_2 rq_2 rb_2 rd_2 uq_2 bm_2 am_2 bs_2 ap_2 mo mq zq sq bq cq pq oq fm_0 fs_0 ft_0 fc_0 sm_0 lo_0 fm_1 fs_1 ft_1 fc_1 sm_1 lo_1 fm_2 fs_2 ft_2 fc_2 sm_2 lo_2 fM fS fP fB fC smm fT ps th fo cells slots ⟨by omega, by omega⟩ H locs hW ls hl kk
        · refine lv_tableIn (off := 643) (tgt := 682) hx hb dL_law_39 (by decide +kernel) (by decide +kernel) (by decide +kernel) (by decide) ?_
          exact k_contains l hls hL G0 i hi5 q s0 s1 s2 tq_0 ca_0 rq_0 rb_0 rd_0 uq_0 bm_0 am_0 bs_0 ap_0 tq_1 ca_1 rq_1 rb_1 rd_1 uq_1 bm_1 am_1 bs_1 ap_1 tq_2 ca_2 rq_2 rb_2 rd_2 uq_2 bm_2 am_2 bs_2 ap_2 mo mq zq sq bq cq pq oq fm_0 fs_0 ft_0 fc_0 sm_0 lo_0 fm_1 fs_1 ft_1 fc_1 sm_1 lo_1 fm_2 fs_2 ft_2 fc_2 sm_2 lo_2 fM fS fP fB fC smm fT ps th fo cells slots ⟨by omega, by omega⟩ H locs hW ls hl kk
        · refine lv_tableIn (off := 718) (tgt := 757) hx hb dL_law_39 (by decide +kernel) (by decide +kernel) (by decide +kernel) (by decide) ?_
          exact k_successor l hls hL G0 i hi5 q s0 s1 s2 tq_0 ca_0 rq_0 rb_0 rd_0 uq_0 bm_0 am_0 bs_0 ap_0 tq_1 ca_1 rq_1 rb_1 rd_1 uq_1 bm_1 am_1 bs_1 ap_1 tq_2 ca_2 rq_2 rb_2 rd_2 uq_2 bm_2 am_2 bs_2 ap_2 mo mq zq sq bq cq pq oq fm_0 fs_0 ft_0 fc_0 sm_0 lo_0 fm_1 fs_1 ft_1 fc_1 sm_1 lo_1 fm_2 fs_2 ft_2 fc_2 sm_2 lo_2 fM fS fP fB fC smm fT ps th fo cells slots ⟨by omega, by omega⟩ H locs hW ls hl kk
        · refine lv_tableIn (off := 786) (tgt := 825) hx hb dL_law_39 (by decide +kernel) (by decide +kernel) (by decide +kernel) (by decide) ?_
          exact k_predecessor l hls hL G0 i hi5 q s0 s1 s2 tq_0 ca_0 rq_0 rb_0 rd_0 uq_0 bm_0 am_0 bs_0 ap_0 tq_1 ca_1 rq_1 rb_1 rd_1 uq_1 bm_1 am_1 bs_1 ap_1 tq_2 ca_2 rq_2 rb_2 rd_2 uq_2 bm_2 am_2 bs_2 ap_2 mo mq zq sq bq cq pq oq fm_0 fs_0 ft_0 fc_0 sm_0 lo_0 fm_1 fs_1 ft_1 fc_1 sm_1 lo_1 fm_2 fs_2 ft_2 fc_2 sm_2 lo_2 fM fS fP fB fC smm fT ps th fo cells slots ⟨by omega, by omega⟩ H locs hW ls hl kk
        · refine lv_tableIn (off := 854) (tgt := 893) hx hb dL_law_39 (by decide +kernel) (by decide +kernel) (by decide +kernel) (by decide) ?_
          exact k_rank l hls hL G0 i hi5 q s0 s1 s2 tq_0 ca_0 rq_0 rb_0 rd_0 uq_0 bm_0 am_0 bs_0 ap_0 tq_1 ca_1 rq_1 rb_1 rd_1 uq_1 bm_1 am_1 bs_1 ap_1 tq_2 ca_2 rq_2 rb_2 rd_2 uq_2 bm_2 am_2 bs_2 ap_2 mo mq zq sq bq cq pq oq fm_0 fs_0 ft_0 fc_0 sm_0 lo_0 fm_1 fs_1 ft_1 fc_1 sm_1 lo_1 fm_2 fs_2 ft_2 fc_2 sm_2 lo_2 fM fS fP fB fC smm fT ps th fo cells slots ⟨by omega, by omega⟩ H locs hW ls hl kk
        · refine lv_tableIn (off := 922) (tgt := 961) hx hb dL_law_39 (by decide +kernel) (by decide +kernel) (by decide +kernel) (by decide) ?_
          exact k_select l hls hL G0 i hi5 q s0 s1 s2 tq_0 ca_0 rq_0 rb_0 rd_0 uq_0 bm_0 am_0 bs_0 ap_0 tq_1 ca_1 rq_1 rb_1 rd_1 uq_1 bm_1 am_1 bs_1 ap_1 tq_2 ca_2 rq_2 rb_2 rd_2 uq_2 bm_2 am_2 bs_2 ap_2 mo mq zq sq bq cq pq oq fm_0 fs_0 ft_0 fc_0 sm_0 lo_0 fm_1 fs_1 ft_1 fc_1 sm_1 lo_1 fm_2 fs_2 ft_2 fc_2 sm_2 lo_2 fM fS fP fB fC smm fT ps th fo cells slots ⟨by omega, by omega⟩ H locs hW ls hl kk
        · refine lv_tableIn (off := 990) (tgt := 1029) hx hb dL_law_39 (by decide +kernel) (by decide +kernel) (by decide +kernel) (by decide) ?_
          exact k_steps l hls hL G0 i hi5 q s0 s1 s2 tq_0 ca_0 rq_0 rb_0 rd_0 uq_0 bm_0 am_0 bs_0 ap_0 tq_1 ca_1 rq_1 rb_1 rd_1 uq_1 bm_1 am_1 bs_1 ap_1 tq_2 ca_2 rq_2 rb_2 rd_2 uq_2 bm_2 am_2 bs_2 ap_2 mo mq zq sq bq cq pq oq fm_0 fs_0 ft_0 fc_0 sm_0 lo_0 fm_1 fs_1 ft_1 fc_1 sm_1 lo_1 fm_2 fs_2 ft_2 fc_2 sm_2 lo_2 fM fS fP fB fC smm fT ps th fo cells slots ⟨by omega, by omega⟩ H locs hW ls hl kk
        · refine lv_tableIn (off := 1058) (tgt := 1097) hx hb dL_law_39 (by decide +kernel) (by decide +kernel) (by decide +kernel) (by decide) ?_
          exact k_trees l hls hL G0 i hi5 q s0 s1 s2 tq_0 ca_0 rq_0 rb_0 rd_0 uq_0 bm_0 am_0 bs_0 ap_0 tq_1 ca_1 rq_1 rb_1 rd_1 uq_1 bm_1 am_1 bs_1 ap_1 tq_2 ca_2 rq_2 rb_2 rd_2 uq_2 bm_2 am_2 bs_2 ap_2 mo mq zq sq bq cq pq oq fm_0 fs_0 ft_0 fc_0 sm_0 lo_0 fm_1 fs_1 ft_1 fc_1 sm_1 lo_1 fm_2 fs_2 ft_2 fc_2 sm_2 lo_2 fM fS fP fB fC smm fT ps th fo cells slots ⟨by omega, by omega⟩ H locs hW ls hl kk
        · refine lv_tableIn (off := 1114) (tgt := 1153) hx hb dL_law_39 (by decide +kernel) (by decide +kernel) (by decide +kernel) (by decide) ?_
          exact k_clusterMinimum l hls hL G0 i hi5 q s0 s1 s2 tq_0 ca_0 rq_0 rb_0 rd_0 uq_0 bm_0 am_0 bs_0 ap_0 tq_1 ca_1 rq_1 rb_1 rd_1 uq_1 bm_1 am_1 bs_1 ap_1 tq_2 ca_2 rq_2 rb_2 rd_2 uq_2 bm_2 am_2 bs_2 ap_2 mo mq zq sq bq cq pq oq fm_0 fs_0 ft_0 fc_0 sm_0 lo_0 fm_1 fs_1 ft_1 fc_1 sm_1 lo_1 fm_2 fs_2 ft_2 fc_2 sm_2 lo_2 fM fS fP fB fC smm fT ps th fo cells slots ⟨by omega, by omega⟩ H locs hW ls hl kk
        · refine lv_tableIn (off := 1182) (tgt := 1221) hx hb dL_law_39 (by decide +kernel) (by decide +kernel) (by decide +kernel) (by decide) ?_
          exact k_clusterMaximum l hls hL G0 i hi5 q s0 s1 s2 tq_0 ca_0 rq_0 rb_0 rd_0 uq_0 bm_0 am_0 bs_0 ap_0 tq_1 ca_1 rq_1 rb_1 rd_1 uq_1 bm_1 am_1 bs_1 ap_1 tq_2 ca_2 rq_2 rb_2 rd_2 uq_2 bm_2 am_2 bs_2 ap_2 mo mq zq sq bq cq pq oq fm_0 fs_0 ft_0 fc_0 sm_0 lo_0 fm_1 fs_1 ft_1 fc_1 sm_1 lo_1 fm_2 fs_2 ft_2 fc_2 sm_2 lo_2 fM fS fP fB fC smm fT ps th fo cells slots ⟨by omega, by omega⟩ H locs hW ls hl kk
        · refine lv_tableIn (off := 1250) (tgt := 1289) hx hb dL_law_39 (by decide +kernel) (by decide +kernel) (by decide +kernel) (by decide) ?_
          exact k_prefixes l hls hL G0 i hi5 q s0 s1 s2 tq_0 ca_0 rq_0 rb_0 rd_0 uq_0 bm_0 am_0 bs_0 ap_0 tq_1 ca_1 rq_1 rb_1 rd_1 uq_1 bm_1 am_1 bs_1 ap_1 tq_2 ca_2 rq_2 rb_2 rd_2 uq_2 bm_2 am_2 bs_2 ap_2 mo mq zq sq bq cq pq oq fm_0 fs_0 ft_0 fc_0 sm_0 lo_0 fm_1 fs_1 ft_1 fc_1 sm_1 lo_1 fm_2 fs_2 ft_2 fc_2 sm_2 lo_2 fM fS fP fB fC smm fT ps th fo cells slots ⟨by omega, by omega⟩ H locs hW ls hl kk
        · refine lv_tableIn (off := 1318) (tgt := 1357) hx hb dL_law_39 (by decide +kernel) (by decide +kernel) (by decide +kernel) (by decide) ?_
          exact k_longestMatch l hls hL G0 i hi5 q s0 s1 s2 tq_0 ca_0 rq_0 rb_0 rd_0 uq_0 bm_0 am_0 bs_0 ap_0 tq_1 ca_1 rq_1 rb_1 rd_1 uq_1 bm_1 am_1 bs_1 ap_1 tq_2 ca_2 rq_2 rb_2 rd_2 uq_2 bm_2 am_2 bs_2 ap_2 mo mq zq sq bq cq pq oq fm_0 fs_0 ft_0 fc_0 sm_0 lo_0 fm_1 fs_1 ft_1 fc_1 sm_1 lo_1 fm_2 fs_2 ft_2 fc_2 sm_2 lo_2 fM fS fP fB fC smm fT ps th fo cells slots ⟨by omega, by omega⟩ H locs hW ls hl kk
        · refine lv_tableIn (off := 1386) (tgt := 1425) hx hb dL_law_39 (by decide +kernel) (by decide +kernel) (by decide +kernel) (by decide) ?_
          exact k_probes l hls hL G0 i hi5 q s0 s1 s2 tq_0 ca_0 rq_0 rb_0 rd_0 uq_0 bm_0 am_0 bs_0 ap_0 tq_1 ca_1 rq_1 rb_1 rd_1 uq_1 bm_1 am_1 bs_1 ap_1 tq_2 ca_2 rq_2 rb_2 rd_2 uq_2 bm_2 am_2 bs_2 ap_2 mo mq zq sq bq cq pq oq fm_0 fs_0 ft_0 fc_0 sm_0 lo_0 fm_1 fs_1 ft_1 fc_1 sm_1 lo_1 fm_2 fs_2 ft_2 fc_2 sm_2 lo_2 fM fS fP fB fC smm fT ps th fo cells slots ⟨by omega, by omega⟩ H locs hW ls hl kk
        · refine lv_tableIn (off := 1454) (tgt := 1493) hx hb dL_law_39 (by decide +kernel) (by decide +kernel) (by decide +kernel) (by decide) ?_
          exact k_buckets l hls hL G0 i hi5 q s0 s1 s2 tq_0 ca_0 rq_0 rb_0 rd_0 uq_0 bm_0 am_0 bs_0 ap_0 tq_1 ca_1 rq_1 rb_1 rd_1 uq_1 bm_1 am_1 bs_1 ap_1 tq_2 ca_2 rq_2 rb_2 rd_2 uq_2 bm_2 am_2 bs_2 ap_2 mo mq zq sq bq cq pq oq fm_0 fs_0 ft_0 fc_0 sm_0 lo_0 fm_1 fs_1 ft_1 fc_1 sm_1 lo_1 fm_2 fs_2 ft_2 fc_2 sm_2 lo_2 fM fS fP fB fC smm fT ps th fo cells slots ⟨by omega, by omega⟩ H locs hW ls hl kk
        · refine lv_tableIn (off := 1510) (tgt := 1549) hx hb dL_law_39 (by decide +kernel) (by decide +kernel) (by decide +kernel) (by decide) ?_
          exact k_separator l hls hL G0 i hi5 q s0 s1 s2 tq_0 ca_0 rq_0 rb_0 rd_0 uq_0 bm_0 am_0 bs_0 ap_0 tq_1 ca_1 rq_1 rb_1 rd_1 uq_1 bm_1 am_1 bs_1 ap_1 tq_2 ca_2 rq_2 rb_2 rd_2 uq_2 bm_2 am_2 bs_2 ap_2 mo mq zq sq bq cq pq oq fm_0 fs_0 ft_0 fc_0 sm_0 lo_0 fm_1 fs_1 ft_1 fc_1 sm_1 lo_1 fm_2 fs_2 ft_2 fc_2 sm_2 lo_2 fM fS fP fB fC smm fT ps th fo cells slots ⟨by omega, by omega⟩ H locs hW ls hl kk
        · refine lv_tableIn (off := 1578) (tgt := 1617) hx hb dL_law_39 (by decide +kernel) (by decide +kernel) (by decide +kernel) (by decide) ?_
          exact k_bucketSize l hls hL G0 i hi5 q s0 s1 s2 tq_0 ca_0 rq_0 rb_0 rd_0 uq_0 bm_0 am_0 bs_0 ap_0 tq_1 ca_1 rq_1 rb_1 rd_1 uq_1 bm_1 am_1 bs_1 ap_1 tq_2 ca_2 rq_2 rb_2 rd_2 uq_2 bm_2 am_2 bs_2 ap_2 mo mq zq sq bq cq pq oq fm_0 fs_0 ft_0 fc_0 sm_0 lo_0 fm_1 fs_1 ft_1 fc_1 sm_1 lo_1 fm_2 fs_2 ft_2 fc_2 sm_2 lo_2 fM fS fP fB fC smm fT ps th fo cells slots ⟨by omega, by omega⟩ H locs hW ls hl kk
        · refine lv_tableIn (off := 1646) (tgt := 1685) hx hb dL_law_39 (by decide +kernel) (by decide +kernel) (by decide +kernel) (by decide) ?_
          exact k_bucketOf l hls hL G0 i hi5 q s0 s1 s2 tq_0 ca_0 rq_0 rb_0 rd_0 uq_0 bm_0 am_0 bs_0 ap_0 tq_1 ca_1 rq_1 rb_1 rd_1 uq_1 bm_1 am_1 bs_1 ap_1 tq_2 ca_2 rq_2 rb_2 rd_2 uq_2 bm_2 am_2 bs_2 ap_2 mo mq zq sq bq cq pq oq fm_0 fs_0 ft_0 fc_0 sm_0 lo_0 fm_1 fs_1 ft_1 fc_1 sm_1 lo_1 fm_2 fs_2 ft_2 fc_2 sm_2 lo_2 fM fS fP fB fC smm fT ps th fo cells slots ⟨by omega, by omega⟩ H locs hW ls hl kk
      · refine lv_tableOut (tgt := 1753) hx hb dL_law_39 (Or.inr (by rw [nI_toInt (by omega)]; omega)) (by decide) ?_
        refine W.widen (k := cells + 1) (n := slots + 6) (by omega) (by omega) ?_
        exact kk fm_0 fs_0 ft_0 fc_0 sm_0 lo_0 fm_1 fs_1 ft_1 fc_1 sm_1 lo_1 fm_2 fs_2 ft_2 fc_2 sm_2 lo_2 fM fS fP fB fC smm fT ps th fo H locs ls hW hl
