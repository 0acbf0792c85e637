/-! ===== the reference's searches ===== -/
theorem ts_nf {x : Bool} (h : ¬ x = false) : x = true := by cases x <;> first | rfl | exact absurd rfl h
def abv (q : Nat → Bool) (a : Nat) : Nat := (fst1 (fun i => decide (a ≤ i) && q i) 4096).getD 4096
theorem abv_none {q : Nat → Bool} {a : Nat} (h : ∀ j, a ≤ j → j < 4096 → q j = false) : abv q a = 4096 := by
  have : fst1 (fun i => decide (a ≤ i) && q i) 4096 = none := fst1_none.mpr fun j hj => by
    by_cases e : a ≤ j
    · simp [h j e hj]
    · simp [e]
  unfold abv; rw [this]; rfl
theorem abv_some {q : Nat → Bool} {a z : Nat} (h1 : a ≤ z) (h2 : z < 4096) (h3 : q z = true) (h : ∀ j, a ≤ j → j < z → q j = false) : abv q a = z := by
  have : fst1 (fun i => decide (a ≤ i) && q i) 4096 = some z := fst1_of h2 (by simp [h1, h3]) fun j hj => by
    by_cases e : a ≤ j
    · simp [h j e hj]
    · simp [e]
  unfold abv; rw [this]; rfl
theorem abv_or (q : Nat → Bool) (a : Nat) : (abv q a = 4096 ∧ ∀ j, a ≤ j → j < 4096 → q j = false) ∨ (a ≤ abv q a ∧ abv q a < 4096 ∧ q (abv q a) = true ∧ ∀ j, a ≤ j → j < abv q a → q j = false) := by
  cases h : fst1 (fun i => decide (a ≤ i) && q i) 4096 with
  | none =>
    have h1 : ∀ j, a ≤ j → j < 4096 → q j = false := fun j h2 h3 => by
      have := fst1_none.mp h j h3
      simpa [h2] using this
    exact Or.inl ⟨abv_none h1, h1⟩
  | some z =>
    obtain ⟨a1, b1, c1⟩ := fst1_some h
    simp only [Bool.and_eq_true, decide_eq_true_eq] at b1
    have h1 : ∀ j, a ≤ j → j < z → q j = false := fun j h2 h3 => by
      have := c1 j h3
      simpa [h2] using this
    have e := abv_some b1.1 a1 b1.2 h1
    rw [e]
    exact Or.inr ⟨b1.1, a1, b1.2, h1⟩
theorem abv_le (q : Nat → Bool) (a : Nat) : abv q a ≤ 4096 := by
  rcases abv_or q a with h | h
  · omega
  · omega
theorem nx_abv0 {q : Nat → Bool} {x : Nat} (h : abv q (x + 1) = 4096) : nxt1 q x 4096 = none := by
  rcases abv_or q (x + 1) with h1 | h1
  · exact nxt1_no fun j h2 h3 => h1.2 j (by omega) h3
  · omega
theorem nx_abv1 {q : Nat → Bool} {x : Nat} (h : ¬ abv q (x + 1) = 4096) : nxt1 q x 4096 = some (abv q (x + 1)) := by
  rcases abv_or q (x + 1) with h1 | h1
  · exact absurd h1.1 h
  · exact nxt1_of h1.2.1 (by omega) h1.2.2.1 fun j h2 h3 => h1.2.2.2 j (by omega) h3
theorem fst_abv0 {q : Nat → Bool} {z : Nat} (h : fst1 q 4096 = some z) : abv q 0 = z := by
  obtain ⟨a, b, c⟩ := fst1_some h
  exact abv_some (Nat.zero_le _) a b fun j _ hj => c j hj
theorem fst_abvn {q : Nat → Bool} (h : fst1 q 4096 = none) : abv q 0 = 4096 := abv_none fun j _ hj => fst1_none.mp h j hj
theorem abv_fst {q : Nat → Bool} (h : abv q 0 < 4096) : fst1 q 4096 = some (abv q 0) := by
  cases h1 : fst1 q 4096 with
  | none => rw [fst_abvn h1] at h; omega
  | some z => rw [fst_abv0 h1]
theorem sp_abv0 {q : Nat → Bool} (h : 0 < fb_ct q 4096) : abv q 0 = sp q 0 := by
  obtain ⟨-, a, b, c⟩ := sp_lt h
  refine abv_some (Nat.zero_le _) a b fun j _ hj => ?_
  exact fb_ct_zero.mp c j hj
theorem sp_abv {q : Nat → Bool} {j : Nat} (h : j + 1 < fb_ct q 4096) : abv q (sp q j + 1) = sp q (j + 1) := by
  obtain ⟨-, a, b, c⟩ := sp_lt h
  obtain ⟨-, a2, b2, c2⟩ := sp_lt (show j < fb_ct q 4096 by omega)
  have h1 := sp_mono (Nat.lt_succ_self j) h
  refine abv_some h1 a b fun y h2 h3 => bn fun h4 => ?_
  have h5 := fb_ct_mono q (show sp q j + 1 ≤ y by omega)
  rw [fb_ct_succ, if_pos b2, c2] at h5
  have h6 := fb_ct_mono q (show y + 1 ≤ sp q (j + 1) by omega)
  rw [fb_ct_succ, if_pos h4, c] at h6
  omega
theorem ct_pos_fst {q : Nat → Bool} : 0 < fb_ct q 4096 ↔ ¬ fst1 q 4096 = none := by
  rw [fst1_none, fb_ct_pos]
  constructor
  · rintro ⟨k, h1, h2⟩ h
    rw [h k h1] at h2; cases h2
  · intro h
    rcases Classical.em (∃ k, k < 4096 ∧ q k = true) with h1 | h1
    · exact h1
    · exact absurd (fun j hj => bn fun z => h1 ⟨j, hj, z⟩) h
theorem pred_dm (x : Nat) : nI x - nI 1 = dm x := by
  cases x with
  | zero => decide
  | succ x => rw [pk_sub (by omega)]; rfl
theorem shr_bit {w : Int64} {k : Nat} (hk : k < 64) : (sru w (nI k) &&& (1 : Int64)) = 0 ↔ gb w k = false := by
  have h1 : (1 : Int64) = bit1 0 := by decide
  rw [h1, and_bit1 (by decide), gb_sru hk, Nat.add_zero]
theorem lw_end {w : Int64} {i : Nat} (h : ∀ j, j < i → gb w j = false) (hi : i < 64) (hc : gb w i = true) : nI i = oI (fst1 (gb w) 64) := by
  rw [fst1_of hi hc h]; rfl
theorem hi_end {w : Int64} {e : Nat} (h : ∀ j, e + 1 ≤ j → j < 64 → gb w j = false) (he : e < 64) (hc : gb w e = true) : nI e = oI (lst1 (gb w) 64) := by
  rw [lst1_of he hc fun j h1 h2 => h j (by omega) h2]; rfl
def isP (v : Int32) (c : Nat) : Bool := decide (nI 0 ≤ v ∧ v ≤ nI c - nI 1)
theorem isP_t {x c : Nat} (h : x < c) (hc : c < 2 ^ 31) : isP (nI x) c = true := by
  refine decide_eq_true ⟨nI_le (Nat.zero_le _) (by omega), ?_⟩
  rw [pk_sub (by omega)]; exact nI_le (by omega) (by omega)
theorem isP_of {v : Int32} {c : Nat} (hc : c < 2 ^ 31) (h : isP v c = true) : ∃ x, x < c ∧ v = nI x := by
  rcases Nat.eq_zero_or_pos c with e | e
  · subst e
    obtain ⟨h1, h2⟩ := of_decide_eq_true h
    rw [show nI 0 - nI 1 = -1 by decide] at h2
    rw [Int32.le_iff_toInt_le] at h1 h2
    rw [nI_toInt (by decide)] at h1
    have : (-1 : Int32).toInt = -1 := by decide
    omega
  · unfold isP at h
    rw [pk_sub e] at h
    obtain ⟨x, h1, h2⟩ := in_of (by omega) h
    exact ⟨x, by omega, h2⟩
/-! prefixes, the words of the tree -/
theorem pfx_abv {q : Nat → Bool} {n v : Nat} (hn : n ≤ 12) (hv : v < 2 ^ n) : pfx q n v = decide (abv q (v * 2 ^ (12 - n)) < (v + 1) * 2 ^ (12 - n)) := by
  have h1 : (v + 1) * 2 ^ (12 - n) ≤ 4096 := by
    rw [← pw12 hn, Nat.mul_comm]
    exact Nat.mul_le_mul_left _ hv
  have h2 : v * 2 ^ (12 - n) ≤ (v + 1) * 2 ^ (12 - n) := Nat.mul_le_mul_right _ (Nat.le_succ v)
  unfold pfx
  generalize v * 2 ^ (12 - n) = a at h2 ⊢
  generalize (v + 1) * 2 ^ (12 - n) = b at h1 h2 ⊢
  refine decide_eq_decide.mpr ?_
  rw [ct_ex h2]
  rcases abv_or q a with h | h
  · constructor
    · rintro ⟨i, i1, i2, i3⟩
      rw [h.2 i i1 (by omega)] at i3; cases i3
    · intro h9; omega
  · constructor
    · rintro ⟨i, i1, i2, i3⟩
      rcases Nat.lt_or_ge i (abv q a) with z | z
      · rw [h.2.2.2 i i1 z] at i3; cases i3
      · omega
    · intro h9
      exact ⟨abv q a, h.1, h9, h.2.2.1⟩
theorem mkW_s (q : Nat → Bool) (n : Nat) : mkW q (n + 1) = mkW q n ||| (if q n = true then bit1 n else 0) := rfl
theorem mkW_t {q : Nat → Bool} {n : Nat} (h : q n = true) : mkW q (n + 1) = mkW q n ||| bit1 n := by rw [mkW_s, if_pos h]
theorem mkW_f {q : Nat → Bool} {n : Nat} (h : q n = false) : mkW q (n + 1) = mkW q n ||| 0 := by rw [mkW_s, if_neg (by rw [h]; decide)]
theorem clq_t {M : Nat → Bool} {h l : Nat} (c : M (64 * h + l) = true) (n : ¬ 64 * h + l = abv M 0) : (M (64 * h + l) && decide (fst1 M 4096 ≠ some (64 * h + l))) = true := by
  rw [c, Bool.true_and]
  refine decide_eq_true fun q => n ?_
  rw [fst_abv0 q]
theorem clq_f {M : Nat → Bool} {h l : Nat} (c : M (64 * h + l) = false) : (M (64 * h + l) && decide (fst1 M 4096 ≠ some (64 * h + l))) = false := by rw [c, Bool.false_and]
theorem clq_e {M : Nat → Bool} {h l : Nat} (hl : 64 * h + l < 4096) (n : 64 * h + l = abv M 0) : (M (64 * h + l) && decide (fst1 M 4096 ≠ some (64 * h + l))) = false := by
  rw [decide_eq_false, Bool.and_false]
  intro q
  exact q (by rw [n]; exact abv_fst (by omega))
theorem updL_s (f : Nat → Int64) (k : Nat) (v : Int64) : vp_updL f k v k = v := pk_uLs
theorem cl_keep {f : Nat → Int64} {M : Nat → Bool} {h : Nat} {v : Int64} (hf : ∀ j, j < h → f j = clw M j) (hv : v = clw M h) : ∀ j, j < h + 1 → vp_updL f h v j = clw M j := fun j hj => by
  by_cases e : j = h
  · subst e; rw [pk_uLs, hv]
  · rw [pk_uLn e, hf j (by omega)]
theorem clr_eq {w : Int64} (h : ¬ w = 0) {z : Nat} (hz : fst1 (gb w) 64 = some z) : w &&& (bit1 z ^^^ (-1 : Int64)) = w &&& (w - 1) := gb_ext fun i hi => by
  obtain ⟨a, -, -⟩ := fst1_some hz
  rw [clr_low hz hi, gb_and, gb_xor, gb_bit1 a, gb_m1 hi]
  by_cases e : i = z
  · subst e; simp
  · have : ¬ z = i := fun q => e q.symm
    simp [e, this]
/-- what a small tree's rows say -/
def GS (v : Int64) (i : Nat) (g : Nat → Int32) (p : Int32) : Prop := (∀ h, h < i → (g h = 0 ↔ blk v h = false)) ∧ (p = 0 ↔ fb_ct (blk v) i = 0) ∧ ∀ b, i ≤ b → b < 32 → p.toBitVec.getLsbD b = false
theorem l2i_0 {v : Int64} {h : Nat} : (sru v (nI (h * 8)) &&& (255 : Int64)).toInt32 = 0 ↔ blk v h = false := by
  unfold blk
  rw [decide_eq_false_iff_not, Classical.not_not]
  generalize sru v (nI (h * 8)) = w
  have e : (w &&& (255 : Int64)).toBitVec.toNat < 256 := by
    rw [Int64.toBitVec_and]
    show (w.toBitVec &&& 255#64).toNat < 256
    rw [BitVec.toNat_and]
    exact Nat.lt_of_le_of_lt Nat.and_le_right (by decide)
  obtain ⟨n, hn, en⟩ := wb_of (w &&& (255 : Int64))
  rw [en] at e ⊢
  rw [wb_tn hn] at e
  rw [lN_i]
  constructor
  · intro h
    have h1 := congrArg Int32.toInt h
    rw [nI_toInt (by omega)] at h1
    have h2 : (0 : Int32).toInt = 0 := by decide
    have h3 : n = 0 := by omega
    rw [h3]; rfl
  · intro h
    have h1 := congrArg Int64.toInt h
    rw [lN_toInt (by omega)] at h1
    have h2 : (0 : Int64).toInt = 0 := by decide
    have h3 : n = 0 := by omega
    rw [h3]; rfl
theorem gs_0 (v : Int64) (g : Nat → Int32) : GS v 0 g (nI 0) := ⟨fun h hh => absurd hh (Nat.not_lt_zero h), ⟨fun _ => rfl, fun _ => rfl⟩, fun b _ _ => by
  show (0#32).getLsbD b = false
  simp⟩
theorem or_0 (p : Int32) : p ||| nI 0 = p := by
  apply Int32.toBitVec_inj.mp
  show p.toBitVec ||| 0#32 = p.toBitVec
  simp
theorem gs_f {v : Int64} {i : Nat} {g : Nat → Int32} {p x : Int32} (h : GS v i g p) (hx : x = 0 ↔ blk v i = false) (c : x = 0) : GS v (i + 1) (upd g i x) (p ||| nI 0) := by
  obtain ⟨h1, h2, h3⟩ := h
  refine ⟨fun j hj => ?_, ?_, fun b hb => ?_⟩
  · by_cases e : j = i
    · subst e; rw [pk_us]; exact hx
    · rw [pk_un e]; exact h1 j (by omega)
  · rw [or_0, fb_ct_succ, if_neg (by rw [hx.mp c]; decide)]; exact h2
  · rw [or_0]; exact h3 b (by omega)
theorem gs_t {v : Int64} {i : Nat} {g : Nat → Int32} {p x : Int32} (hi : i < 8) (h : GS v i g p) (hx : x = 0 ↔ blk v i = false) (c : ¬ x = 0) : GS v (i + 1) (upd g i x) (p ||| nI (1 * 2 ^ i)) := by
  obtain ⟨h1, h2, h3⟩ := h
  have hb : blk v i = true := by
    cases hq : blk v i with
    | true => rfl
    | false => exact absurd (hx.mpr hq) c
  have hbit : ∀ b, b < 32 → (p ||| nI (1 * 2 ^ i)).toBitVec.getLsbD b = (p.toBitVec.getLsbD b || decide (i = b)) := fun b hb => by
    rw [Int32.toBitVec_or, BitVec.getLsbD_or]
    congr 1
    show (BitVec.ofNat 32 (1 * 2 ^ i)).getLsbD b = _
    rw [BitVec.getLsbD_ofNat, Nat.one_mul, Nat.testBit_two_pow]
    simp [hb]
  refine ⟨fun j hj => ?_, ?_, fun b hb1 hb2 => ?_⟩
  · by_cases e : j = i
    · subst e; rw [pk_us]; exact hx
    · rw [pk_un e]; exact h1 j (by omega)
  · rw [fb_ct_succ, if_pos hb]
    refine ⟨fun q => ?_, fun q => by omega⟩
    have h9 := hbit i (by omega)
    rw [q] at h9
    simp at h9
  · rw [hbit b hb2, h3 b (by omega) hb2]
    have : ¬ i = b := by omega
    simp [this]
theorem no_s {q : Nat → Bool} {a i : Nat} (h : ∀ j, a ≤ j → j < i → q j = false) (c : q i = false) : ∀ j, a ≤ j → j < i + 1 → q j = false := fun j h1 h2 => by
  by_cases e : j = i
  · rw [e]; exact c
  · exact h j h1 (by omega)
theorem no_d {q : Nat → Bool} {e d : Nat} (h : ∀ j, e + 1 ≤ j → j < d → q j = false) (c : q e = false) : ∀ j, e ≤ j → j < d → q j = false := fun j h1 h2 => by
  by_cases e2 : j = e
  · rw [e2]; exact c
  · exact h j (by omega) h2
/-! buckets stay well filled -/
theorem bi_mono {M M' P : Nat → Bool} (h : ∀ x, M x = true → M' x = true) (hb : BI M P) : BI M' P := by
  rcases hb with h1 | h1
  · exact Or.inl h1
  · refine Or.inr fun b hb => ?_
    have h2 := h1 b hb
    have h3 := (heldc_le (M := M) (P := P) (sp_lt' P b)).1
    have h4 := (heldc_le (M := M') (P := P) (sp_lt' P b)).1
    have h5 := (nsep_le (P := P) (sp_lt' P b)).1
    obtain ⟨m, hm⟩ : ∃ m, nsep P (sp P b) = sp P b + m := ⟨nsep P (sp P b) - sp P b, by omega⟩
    rw [hm, fb_ct_split] at h3 h4
    have h6 : fb_ct (fun k => M (sp P b + k)) m ≤ fb_ct (fun k => M' (sp P b + k)) m := fb_ct_sub fun k _ => h _
    omega
/-- a bucket split where it has more than eight members -/
theorem bi_spl {M P : Nat → Bool} {b : Nat} (h0 : P 0 = true) (hb : b < fb_ct P 4096) (hB : ∀ i, i < fb_ct P 4096 → ¬ i = b → 2 ≤ heldc M P (sp P i)) (h2 : fb_ct P 4096 = 1 ∨ 2 ≤ heldc M P (sp P b)) : BI M (spl M P (sp P b)) := by
  by_cases h8 : 8 < heldc M P (sp P b)
  · obtain ⟨z, hz, -⟩ := spl_kth (sp_lt' P b) h8
    obtain ⟨p1, p2, p3, p4⟩ := spl_pos (sp_lt' P b) h8 hz
    rw [nsep_sp hb] at p2
    rw [spl_ins h8 hz]
    have hct := ct_insP p4 4096
    rw [if_pos p3] at hct
    obtain ⟨-, -, hz3⟩ := kth_some hz
    have hh := (heldc_le (M := M) (P := P) (sp_lt' P b)).1
    rw [nsep_sp hb] at hh
    refine Or.inr fun i hi => ?_
    have hq : ∀ j, j < fb_ct P 4096 + 1 → sp (ins P z) j = if j ≤ b then sp P j else if j = b + 1 then z else sp P (j - 1) := fun j hj => sp_ins hb p1 p2 p3 p4 hj
    have hsm : ∀ j, j ≤ fb_ct P 4096 + 1 → sepm (ins P z) j = if j ≤ b then sp P j else if j = b + 1 then z else sepm P (j - 1) := fun j hj => by
      by_cases e : j = fb_ct P 4096 + 1
      · have e1 : sepm (ins P z) j = 4096 := if_pos (by omega)
        have e2 : sepm P (j - 1) = 4096 := if_pos (by omega)
        rw [e1, if_neg (by omega), if_neg (by omega), e2]
      · rw [sepm_lt (show j < fb_ct (ins P z) 4096 by omega), hq j (by omega)]
        by_cases e2 : j ≤ b
        · rw [if_pos e2, if_pos e2]
        · rw [if_neg e2, if_neg e2]
          by_cases e3 : j = b + 1
          · rw [if_pos e3, if_pos e3]
          · rw [if_neg e3, if_neg e3, sepm_lt (show j - 1 < fb_ct P 4096 by omega)]
    have hd : heldc M (ins P z) (sp (ins P z) i) = fb_ct M (sepm (ins P z) (i + 1)) - fb_ct M (sepm (ins P z) i) := by
      unfold heldc
      rw [nsep_sp hi, sepm_lt hi]
    rw [hd, hsm i (by omega), hsm (i + 1) (by omega)]
    by_cases e : i ≤ b
    · rw [if_pos e]
      by_cases e2 : i = b
      · subst e2
        rw [if_neg (by omega), if_pos rfl, hz3]; omega
      · rw [if_pos (by omega)]
        have h3 := hB i (by omega) e2
        unfold heldc at h3
        rw [nsep_sp (by omega), sepm_lt (by omega)] at h3
        exact h3
    · rw [if_neg e]
      by_cases e2 : i = b + 1
      · subst e2
        rw [if_pos rfl, if_neg (by omega), if_neg (by omega), hz3, Nat.add_sub_cancel]; omega
      · rw [if_neg e2, if_neg (by omega), if_neg (by omega)]
        have h3 := hB (i - 1) (by omega) (by omega)
        unfold heldc at h3
        rw [nsep_sp (by omega)] at h3
        rw [sepm_lt (show i - 1 < fb_ct P 4096 by omega), show i + 1 - 1 = i - 1 + 1 by omega]
        exact h3
  · have e : spl M P (sp P b) = P := funext fun x => (spl_id h8 x).symm
    rw [e]
    rcases h2 with h2 | h2
    · exact Or.inl h2
    · refine Or.inr fun i hi => ?_
      by_cases e2 : i = b
      · rw [e2]; exact h2
      · exact hB i hi e2
theorem bi_put {M P : Nat → Bool} {x : Nat} (h0 : P 0 = true) (hx : x < 4096) (hB : BI M P) : BI (ins M x) (putP M P x) := by
  by_cases c : M x = true
  · have e1 : ins M x = M := funext fun y => by
      unfold ins
      by_cases e : y = x
      · rw [eq_or e, e, c]
      · rw [ne_or e]
    have e2 : putP M P x = P := funext fun y => if_pos c
    rw [e1, e2]; exact hB
  · have e2 : putP M P x = spl (ins M x) P (sp P (bk P x)) := funext fun y => if_neg c
    rw [e2]
    have h1 := bi_mono (M' := ins M x) (fun y hy => by unfold ins; rw [hy, Bool.or_true]) hB
    refine bi_spl h0 (bk_lt h0 hx) (fun i hi _ => ?_) ?_
    · rcases h1 with h1 | h1
      · have h3 := bk_lt h0 hx
        omega
      · exact h1 i hi
    · rcases h1 with h1 | h1
      · exact Or.inl h1
      · exact Or.inr (h1 _ (bk_lt h0 hx))
theorem sepm_del {P : Nat → Bool} {e : Nat} (he : e + 1 < fb_ct P 4096) {i : Nat} (hi : i + 1 ≤ fb_ct P 4096) : sepm (del P (sp P (e + 1))) i = if i ≤ e then sepm P i else sepm P (i + 1) := by
  obtain ⟨-, w1, w2, w3⟩ := sp_lt he
  have hct := ct_del w2 4096
  rw [if_pos w1] at hct
  by_cases q : i + 1 = fb_ct P 4096
  · have e1 : sepm (del P (sp P (e + 1))) i = 4096 := if_pos (by omega)
    have e2 : sepm P (i + 1) = 4096 := if_pos q
    rw [e1, if_neg (by omega), e2]
  · rw [sepm_lt (by omega), sp_del he (by omega)]
    by_cases q2 : i ≤ e
    · rw [if_pos q2, if_pos q2, sepm_lt (by omega)]
    · rw [if_neg q2, if_neg q2, sepm_lt (by omega)]
theorem bi_take {M P : Nat → Bool} {x : Nat} (h0 : P 0 = true) (hx : x < 4096) (hB : BI M P) : BI (del M x) (takeP M P x) := by
  by_cases c : M x = true
  · have e2 : takeP M P x = mrg (del M x) P (bk P x) := funext fun y => if_pos c
    rw [e2]
    have hbl := bk_lt h0 hx
    -- the other buckets keep their members
    have hoth : ¬ fb_ct P 4096 = 1 → ∀ i, i < fb_ct P 4096 → ¬ i = bk P x → 2 ≤ heldc (del M x) P (sp P i) := by
      intro hn i hi hne
      rcases hB with h1 | h1
      · exact absurd h1 hn
      · have h2 := h1 i hi
        have hc := ct_del c
        obtain ⟨n1, n2⟩ := nsep_le (P := P) (sp_lt' P i)
        unfold heldc at h2 ⊢
        have c1 := hc (sp P i)
        have c2 := hc (nsep P (sp P i))
        have hin : ¬ (sp P i ≤ x ∧ x < nsep P (sp P i)) := fun q => by
          rw [nsep_sp hi] at q
          exact hne (bk_of hi q.1 q.2 hx)
        rcases Nat.lt_or_ge x (sp P i) with z | z
        · rw [if_pos z] at c1
          rw [if_pos (by omega)] at c2
          omega
        · rw [if_neg (by omega)] at c1
          rw [if_neg (fun q => hin ⟨z, q⟩)] at c2
          omega
    unfold mrg
    by_cases e : 2 ≤ heldc (del M x) P (sp P (bk P x)) ∨ fb_ct P 4096 = 1
    · rw [if_pos e]
      rcases Nat.lt_or_ge 1 (fb_ct P 4096) with q | q
      · refine Or.inr fun i hi => ?_
        by_cases e3 : i = bk P x
        · rw [e3]
          rcases e with e | e
          · exact e
          · omega
        · exact hoth (by omega) i hi e3
      · exact Or.inl (by omega)
    · rw [if_neg e]
      have hn : ¬ fb_ct P 4096 = 1 := fun q => e (Or.inr q)
      have her := erl_lt hbl hn
      obtain ⟨-, w1, w2, w3⟩ := sp_lt her
      have hct := ct_del w2 4096
      rw [if_pos w1] at hct
      have hP0 : del P (sp P (erl P (bk P x) + 1)) 0 = true := by
        have h5 := sp_mono (show 0 < erl P (bk P x) + 1 by omega) her
        have h6 : ¬ 0 = sp P (erl P (bk P x) + 1) := by omega
        unfold del
        rw [ne_and h6, h0]
      have hel : (bk P x = erl P (bk P x) ∨ bk P x = erl P (bk P x) + 1) := by
        unfold erl
        by_cases q : bk P x = fb_ct P 4096 - 1
        · rw [if_pos q]; omega
        · rw [if_neg q]; omega
      generalize hE : erl P (bk P x) = E at her hel hct hP0 ⊢
      have hhd : ∀ i, i < fb_ct (del P (sp P (E + 1))) 4096 → heldc (del M x) (del P (sp P (E + 1))) (sp (del P (sp P (E + 1))) i) = fb_ct (del M x) (sepm (del P (sp P (E + 1))) (i + 1)) - fb_ct (del M x) (sepm (del P (sp P (E + 1))) i) := fun i hi => by
        unfold heldc
        rw [nsep_sp hi, sepm_lt hi]
      have hold : ∀ i, i < fb_ct P 4096 → heldc (del M x) P (sp P i) = fb_ct (del M x) (sepm P (i + 1)) - fb_ct (del M x) (sepm P i) := fun i hi => by
        unfold heldc
        rw [nsep_sp hi, sepm_lt hi]
      refine bi_spl hP0 (by omega) (fun i hi hne => ?_) (Or.inr ?_)
      · rw [hhd i hi, sepm_del her (by omega), sepm_del her (by omega)]
        by_cases q : i ≤ E
        · rw [if_pos q, if_pos (by omega), ← hold i (by omega)]
          exact hoth hn i (by omega) (by omega)
        · rw [if_neg q, if_neg (by omega), ← hold (i + 1) (by omega)]
          exact hoth hn (i + 1) (by omega) (by omega)
      · rw [hhd E (by omega), sepm_del her (by omega), sepm_del her (by omega), if_pos (Nat.le_refl _), if_neg (by omega)]
        have a1 := hold E (by omega)
        have a2 := hold (E + 1) her
        have m1 := fb_ct_mono (del M x) (show sepm P E ≤ sepm P (E + 1) by rw [sepm_lt (by omega), sepm_lt her]; exact Nat.le_of_lt (sp_mono (Nat.lt_succ_self E) her))
        have m2 := fb_ct_mono (del M x) (show sepm P (E + 1) ≤ sepm P (E + 1 + 1) by
          rw [← nsep_sp her, sepm_lt her]; exact Nat.le_of_lt (nsep_le (sp_lt' P (E + 1))).1)
        rcases hel with q | q
        · have := hoth hn (E + 1) her (by omega)
          omega
        · have := hoth hn E (by omega) (by omega)
          omega
  · have e1 : del M x = M := funext fun y => by
      unfold del
      by_cases e : y = x
      · rw [eq_and e, e, bn c]
      · rw [ne_and e]
    have e2 : takeP M P x = P := funext fun y => if_neg c
    rw [e1, e2]; exact hB
/-! several numbers put into the reference -/
theorem putsM_s (M : Nat → Bool) (g : Nat → Nat) (j : Nat) : putsM M g (j + 1) = ins (putsM M g j) (g j) := rfl
theorem putsP_s (M P : Nat → Bool) (g : Nat → Nat) (j : Nat) : putsP M P g (j + 1) = putP (putsM M g j) (putsP M P g j) (g j) := funext fun _ => rfl
def PR (M P : Nat → Nat → Bool) (k : Nat) (g : Nat → Nat) (j t : Nat) (fM fS fP fB : Nat → Int32) : Prop := MM fM (upF M k (putsM (M k) g j)) ∧ MZ fS (upF M k (putsM (M k) g j)) ∧ MX fP fB (upF P k (putsP (M k) (P k) g j)) ∧ BI (putsM (M k) g j) (putsP (M k) (P k) g j) ∧ t = putsC (M k) g j
theorem rr_0 {M P : Nat → Nat → Bool} {k : Nat} {g : Nat → Nat} {fM fS fP fB : Nat → Int32} (h1 : MM fM M) (h2 : MZ fS M) (h3 : MX fP fB P) (h4 : BI (M k) (P k)) : PR M P k g 0 0 fM fS fP fB := by
  have e1 : upF M k (putsM (M k) g 0) = M := upF_id M k
  have e2 : upF P k (putsP (M k) (P k) g 0) = P := upF_id P k
  unfold PR
  rw [e1, e2]
  exact ⟨h1, h2, h3, h4, rfl⟩
theorem rr_s {M P : Nat → Nat → Bool} {k j t : Nat} {g : Nat → Nat} {fM fS fP fB fM' fS' fP' fB' : Nat → Int32} {t' : Nat} (hk : k < 3) (hg : g j < 4096) (h : PR M P k g j t fM fS fP fB) (hw : MM fM' (upF (upF M k (putsM (M k) g j)) k (ins (upF M k (putsM (M k) g j) k) (g j))) ∧ MZ fS' (upF (upF M k (putsM (M k) g j)) k (ins (upF M k (putsM (M k) g j) k) (g j))) ∧ MX fP' fB' (upF (upF P k (putsP (M k) (P k) g j)) k (putP (upF M k (putsM (M k) g j) k) (upF P k (putsP (M k) (P k) g j) k) (g j)))) (ht : t' = t + (if putsM (M k) g j (g j) = true then 0 else 1)) : PR M P k g (j + 1) t' fM' fS' fP' fB' := by
  obtain ⟨h1, h2, h3, h4, h5⟩ := h
  rw [upF_2, upF_2, upF_s, upF_s] at hw
  have h0 : putsP (M k) (P k) g j 0 = true := by
    have := (h3 k hk).2.2.1
    rwa [upF_s] at this
  refine ⟨hw.1, hw.2.1, ?_, ?_, ?_⟩
  · rw [putsP_s]; exact hw.2.2
  · rw [putsM_s, putsP_s]; exact bi_put h0 hg h4
  · rw [ht, h5]; rfl
theorem rr_t {b c : Bool} {t : Nat} (h : (!b) = c) : (t + (if c = true then 1 else 0)) = t + (if b = true then 0 else 1) := by
  rw [← h]; cases b <;> rfl
/-- the members of another set, as the law's scan finds them -/
theorem mem_cur {M : Nat → Nat → Bool} {k o j : Nat} (hj : j ≤ fb_ct (M o) 4096) (x : Nat) : upF M k (putsM (M k) (fun j => sp (M o) j) j) o x = M o x := by
  by_cases e : o = k
  · subst e
    rw [upF_s]
    have h9 : ∀ j, j ≤ fb_ct (M o) 4096 → ∀ x, putsM (M o) (fun j => sp (M o) j) j x = M o x := by
      intro j
      induction j with
      | zero => intro _ x; rfl
      | succ j ih =>
        intro hj x
        show ins (putsM (M o) _ j) (sp (M o) j) x = M o x
        unfold ins
        rw [ih (by omega)]
        by_cases e : x = sp (M o) j
        · rw [eq_or e, e, (sp_lt (show j < fb_ct (M o) 4096 by omega)).2.2.1]
        · rw [ne_or e]
    exact h9 j hj x
  · rw [upF_n _ _ e]
theorem sp_ct {q : Nat → Bool} {i : Nat} (hi : i < 4096) (h : q i = true) : sp q (fb_ct q i) = i := sp_of hi h rfl
theorem mod_100 {a b : Nat} (h : a ≤ 12) : (a + 100 * b) % 100 = a ∧ (a + 100 * b) / 100 = b := by omega
theorem ti_end {w : Int64} {p : Int32} {g : Nat → Int32} {t c0 : Nat} (h0 : ¬ w = 0) (h : GS (w &&& (w - 1)) 8 g p) (ht : t = c0 + fb_ct (blk (w &&& (w - 1))) 8) (hc : (c0 = 1 ∧ p = 0) ∨ (c0 = 2 ∧ ¬ p = 0)) : t = tcw w := by
  unfold tcw tcv
  rw [if_neg h0]
  rcases hc with ⟨a, b⟩ | ⟨a, b⟩
  · have := h.2.1.mp b
    rw [if_pos this]; omega
  · have : ¬ fb_ct (blk (w &&& (w - 1))) 8 = 0 := fun q => b (h.2.1.mpr q)
    rw [if_neg this]; omega
theorem ti_0 {v : Int64} {i : Nat} {g : Nat → Int32} {p : Int32} (h : GS v 8 g p) (hi : i < 8) (q : g i = 0) : fb_ct (blk v) (i + 1) = fb_ct (blk v) i := by
  rw [fb_ct_succ, if_neg (by rw [(h.1 i hi).mp q]; decide)]; rfl
theorem ti_1 {v : Int64} {i : Nat} {g : Nat → Int32} {p : Int32} (h : GS v 8 g p) (hi : i < 8) (q : ¬ g i = 0) : fb_ct (blk v) (i + 1) = fb_ct (blk v) i + 1 := by
  rw [fb_ct_succ, if_pos (ts_nf fun z => q ((h.1 i hi).mpr z))]
