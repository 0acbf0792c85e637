/-! ===== the reference's searches ===== -/
def abv (q : Nat → Bool) (a : Nat) : Nat := (fst1 (fun i => decide (a ≤ i) && q i) 4096).getD 4096
theorem abv_none {q : Nat → Bool} {a : Nat} (h : ∀ j, a ≤ j → j < 4096 → q j = false) : abv q a = 4096 := by
  have : fst1 (fun i => decide (a ≤ i) && q i) 4096 = none := fst1_none.mpr fun j hj => by
    by_cases e : a ≤ j
    · simp [h j e hj]
    · simp [e]
  unfold abv; rw [this]; rfl
theorem abv_some {q : Nat → Bool} {a z : Nat} (h1 : a ≤ z) (h2 : z < 4096) (h3 : q z = true) (h : ∀ j, a ≤ j → j < z → q j = false) : abv q a = z := by
  have : fst1 (fun i => decide (a ≤ i) && q i) 4096 = some z := fst1_of h2 (by simp [h1, h3]) fun j hj => by
    by_cases e : a ≤ j
    · simp [h j e hj]
    · simp [e]
  unfold abv; rw [this]; rfl
theorem abv_or (q : Nat → Bool) (a : Nat) : (abv q a = 4096 ∧ ∀ j, a ≤ j → j < 4096 → q j = false) ∨ (a ≤ abv q a ∧ abv q a < 4096 ∧ q (abv q a) = true ∧ ∀ j, a ≤ j → j < abv q a → q j = false) := by
  cases h : fst1 (fun i => decide (a ≤ i) && q i) 4096 with
  | none =>
    have h1 : ∀ j, a ≤ j → j < 4096 → q j = false := fun j h2 h3 => by
      have := fst1_none.mp h j h3
      simpa [h2] using this
    exact Or.inl ⟨abv_none h1, h1⟩
  | some z =>
    obtain ⟨a1, b1, c1⟩ := fst1_some h
    simp only [Bool.and_eq_true, decide_eq_true_eq] at b1
    have h1 : ∀ j, a ≤ j → j < z → q j = false := fun j h2 h3 => by
      have := c1 j h3
      simpa [h2] using this
    have e := abv_some b1.1 a1 b1.2 h1
    rw [e]
    exact Or.inr ⟨b1.1, a1, b1.2, h1⟩
theorem abv_le (q : Nat → Bool) (a : Nat) : abv q a ≤ 4096 := by
  rcases abv_or q a with h | h
  · omega
  · omega
theorem nx_abv0 {q : Nat → Bool} {x : Nat} (h : abv q (x + 1) = 4096) : nxt1 q x 4096 = none := by
  rcases abv_or q (x + 1) with h1 | h1
  · exact nxt1_no fun j h2 h3 => h1.2 j (by omega) h3
  · omega
theorem nx_abv1 {q : Nat → Bool} {x : Nat} (h : ¬ abv q (x + 1) = 4096) : nxt1 q x 4096 = some (abv q (x + 1)) := by
  rcases abv_or q (x + 1) with h1 | h1
  · exact absurd h1.1 h
  · exact nxt1_of h1.2.1 (by omega) h1.2.2.1 fun j h2 h3 => h1.2.2.2 j (by omega) h3
theorem fst_abv0 {q : Nat → Bool} {z : Nat} (h : fst1 q 4096 = some z) : abv q 0 = z := by
  obtain ⟨a, b, c⟩ := fst1_some h
  exact abv_some (Nat.zero_le _) a b fun j _ hj => c j hj
theorem fst_abvn {q : Nat → Bool} (h : fst1 q 4096 = none) : abv q 0 = 4096 := abv_none fun j _ hj => fst1_none.mp h j hj
theorem abv_fst {q : Nat → Bool} (h : abv q 0 < 4096) : fst1 q 4096 = some (abv q 0) := by
  cases h1 : fst1 q 4096 with
  | none => rw [fst_abvn h1] at h; omega
  | some z => rw [fst_abv0 h1]
theorem sp_abv0 {q : Nat → Bool} (h : 0 < fb_ct q 4096) : abv q 0 = sp q 0 := by
  obtain ⟨-, a, b, c⟩ := sp_lt h
  refine abv_some (Nat.zero_le _) a b fun j _ hj => ?_
  exact fb_ct_zero.mp c j hj
theorem sp_abv {q : Nat → Bool} {j : Nat} (h : j + 1 < fb_ct q 4096) : abv q (sp q j + 1) = sp q (j + 1) := by
  obtain ⟨-, a, b, c⟩ := sp_lt h
  obtain ⟨-, a2, b2, c2⟩ := sp_lt (show j < fb_ct q 4096 by omega)
  have h1 := sp_mono (Nat.lt_succ_self j) h
  refine abv_some h1 a b fun y h2 h3 => bn fun h4 => ?_
  have h5 := fb_ct_mono q (show sp q j + 1 ≤ y by omega)
  rw [fb_ct_succ, if_pos b2, c2] at h5
  have h6 := fb_ct_mono q (show y + 1 ≤ sp q (j + 1) by omega)
  rw [fb_ct_succ, if_pos h4, c] at h6
  omega
theorem ct_pos_fst {q : Nat → Bool} : 0 < fb_ct q 4096 ↔ ¬ fst1 q 4096 = none := by
  rw [fst1_none, fb_ct_pos]
  constructor
  · rintro ⟨k, h1, h2⟩ h
    rw [h k h1] at h2; cases h2
  · intro h
    rcases Classical.em (∃ k, k < 4096 ∧ q k = true) with h1 | h1
    · exact h1
    · exact absurd (fun j hj => bn fun z => h1 ⟨j, hj, z⟩) h
theorem pred_dm (x : Nat) : nI x - nI 1 = dm x := by
  cases x with
  | zero => decide
  | succ x => rw [pk_sub (by omega)]; rfl
theorem shr_bit {w : Int64} {k : Nat} (hk : k < 64) : (sru w (nI k) &&& (1 : Int64)) = 0 ↔ gb w k = false := by
  have h1 : (1 : Int64) = bit1 0 := by decide
  rw [h1, and_bit1 (by decide), gb_sru hk, Nat.add_zero]
theorem lw_end {w : Int64} {i : Nat} (h : ∀ j, j < i → gb w j = false) (hi : i < 64) (hc : gb w i = true) : nI i = oI (fst1 (gb w) 64) := by
  rw [fst1_of hi hc h]; rfl
theorem hi_end {w : Int64} {e : Nat} (h : ∀ j, e + 1 ≤ j → j < 64 → gb w j = false) (he : e < 64) (hc : gb w e = true) : nI e = oI (lst1 (gb w) 64) := by
  rw [lst1_of he hc fun j h1 h2 => h j (by omega) h2]; rfl
def isP (v : Int32) (c : Nat) : Bool := decide (nI 0 ≤ v ∧ v ≤ nI c - nI 1)
theorem isP_t {x c : Nat} (h : x < c) (hc : c < 2 ^ 31) : isP (nI x) c = true := by
  refine decide_eq_true ⟨nI_le (Nat.zero_le _) (by omega), ?_⟩
  rw [pk_sub (by omega)]; exact nI_le (by omega) (by omega)
theorem isP_of {v : Int32} {c : Nat} (hc : c < 2 ^ 31) (h : isP v c = true) : ∃ x, x < c ∧ v = nI x := by
  rcases Nat.eq_zero_or_pos c with e | e
  · subst e
    obtain ⟨h1, h2⟩ := of_decide_eq_true h
    rw [show nI 0 - nI 1 = -1 by decide] at h2
    rw [Int32.le_iff_toInt_le] at h1 h2
    rw [nI_toInt (by decide)] at h1
    have : (-1 : Int32).toInt = -1 := by decide
    omega
  · unfold isP at h
    rw [pk_sub e] at h
    obtain ⟨x, h1, h2⟩ := in_of (by omega) h
    exact ⟨x, by omega, h2⟩
/-! prefixes, the words of the tree -/
theorem pfx_abv {q : Nat → Bool} {n v : Nat} (hn : n ≤ 12) (hv : v < 2 ^ n) : pfx q n v = decide (abv q (v * 2 ^ (12 - n)) < (v + 1) * 2 ^ (12 - n)) := by
  have h1 : (v + 1) * 2 ^ (12 - n) ≤ 4096 := by
    rw [← pw12 hn, Nat.mul_comm]
    exact Nat.mul_le_mul_left _ hv
  have h2 : v * 2 ^ (12 - n) ≤ (v + 1) * 2 ^ (12 - n) := Nat.mul_le_mul_right _ (Nat.le_succ v)
  unfold pfx
  generalize v * 2 ^ (12 - n) = a at h2 ⊢
  generalize (v + 1) * 2 ^ (12 - n) = b at h1 h2 ⊢
  refine decide_eq_decide.mpr ?_
  rw [ct_ex h2]
  rcases abv_or q a with h | h
  · constructor
    · rintro ⟨i, i1, i2, i3⟩
      rw [h.2 i i1 (by omega)] at i3; cases i3
    · intro h9; omega
  · constructor
    · rintro ⟨i, i1, i2, i3⟩
      rcases Nat.lt_or_ge i (abv q a) with z | z
      · rw [h.2.2.2 i i1 z] at i3; cases i3
      · omega
    · intro h9
      exact ⟨abv q a, h.1, h9, h.2.2.1⟩
theorem mkW_s (q : Nat → Bool) (n : Nat) : mkW q (n + 1) = mkW q n ||| (if q n = true then bit1 n else 0) := rfl
theorem mkW_t {q : Nat → Bool} {n : Nat} (h : q n = true) : mkW q (n + 1) = mkW q n ||| bit1 n := by rw [mkW_s, if_pos h]
theorem mkW_f {q : Nat → Bool} {n : Nat} (h : q n = false) : mkW q (n + 1) = mkW q n ||| 0 := by rw [mkW_s, if_neg (by rw [h]; decide)]
theorem clq_t {M : Nat → Bool} {h l : Nat} (c : M (64 * h + l) = true) (n : ¬ 64 * h + l = abv M 0) : (M (64 * h + l) && decide (fst1 M 4096 ≠ some (64 * h + l))) = true := by
  rw [c, Bool.true_and]
  refine decide_eq_true fun q => n ?_
  rw [fst_abv0 q]
theorem clq_f {M : Nat → Bool} {h l : Nat} (c : M (64 * h + l) = false) : (M (64 * h + l) && decide (fst1 M 4096 ≠ some (64 * h + l))) = false := by rw [c, Bool.false_and]
theorem clq_e {M : Nat → Bool} {h l : Nat} (hl : 64 * h + l < 4096) (n : 64 * h + l = abv M 0) : (M (64 * h + l) && decide (fst1 M 4096 ≠ some (64 * h + l))) = false := by
  rw [decide_eq_false, Bool.and_false]
  intro q
  exact q (by rw [n]; exact abv_fst (by omega))
theorem updL_s (f : Nat → Int64) (k : Nat) (v : Int64) : vp_updL f k v k = v := pk_uLs
theorem cl_keep {f : Nat → Int64} {M : Nat → Bool} {h : Nat} {v : Int64} (hf : ∀ j, j < h → f j = clw M j) (hv : v = clw M h) : ∀ j, j < h + 1 → vp_updL f h v j = clw M j := fun j hj => by
  by_cases e : j = h
  · subst e; rw [pk_uLs, hv]
  · rw [pk_uLn e, hf j (by omega)]
theorem clr_eq {w : Int64} (h : ¬ w = 0) {z : Nat} (hz : fst1 (gb w) 64 = some z) : w &&& (bit1 z ^^^ (-1 : Int64)) = w &&& (w - 1) := gb_ext fun i hi => by
  obtain ⟨a, -, -⟩ := fst1_some hz
  rw [clr_low hz hi, gb_and, gb_xor, gb_bit1 a, gb_m1 hi]
  by_cases e : i = z
  · subst e; simp
  · have : ¬ z = i := fun q => e q.symm
    simp [e, this]
/-- what a small tree's rows say -/
def GS (v : Int64) (i : Nat) (g : Nat → Int32) (p : Int32) : Prop := (∀ h, h < i → (g h = 0 ↔ blk v h = false)) ∧ (p = 0 ↔ fb_ct (blk v) i = 0) ∧ ∀ b, i ≤ b → b < 32 → p.toBitVec.getLsbD b = false
theorem l2i_0 {v : Int64} {h : Nat} : (sru v (nI (h * 8)) &&& (255 : Int64)).toInt32 = 0 ↔ blk v h = false := by
  unfold blk
  rw [decide_eq_false_iff_not, Classical.not_not]
  generalize sru v (nI (h * 8)) = w
  have e : (w &&& (255 : Int64)).toBitVec.toNat < 256 := by
    rw [Int64.toBitVec_and]
    show (w.toBitVec &&& 255#64).toNat < 256
    rw [BitVec.toNat_and]
    exact Nat.lt_of_le_of_lt Nat.and_le_right (by decide)
  obtain ⟨n, hn, en⟩ := wb_of (w &&& (255 : Int64))
  rw [en] at e ⊢
  rw [wb_tn hn] at e
  rw [lN_i]
  constructor
  · intro h
    have h1 := congrArg Int32.toInt h
    rw [nI_toInt (by omega)] at h1
    have h2 : (0 : Int32).toInt = 0 := by decide
    have h3 : n = 0 := by omega
    rw [h3]; rfl
  · intro h
    have h1 := congrArg Int64.toInt h
    rw [lN_toInt (by omega)] at h1
    have h2 : (0 : Int64).toInt = 0 := by decide
    have h3 : n = 0 := by omega
    rw [h3]; rfl
theorem gs_0 (v : Int64) (g : Nat → Int32) : GS v 0 g (nI 0) := ⟨fun h hh => absurd hh (Nat.not_lt_zero h), ⟨fun _ => rfl, fun _ => rfl⟩, fun b _ _ => by
  show (0#32).getLsbD b = false
  simp⟩
theorem or_0 (p : Int32) : p ||| nI 0 = p := by
  apply Int32.toBitVec_inj.mp
  show p.toBitVec ||| 0#32 = p.toBitVec
  simp
theorem gs_f {v : Int64} {i : Nat} {g : Nat → Int32} {p x : Int32} (h : GS v i g p) (hx : x = 0 ↔ blk v i = false) (c : x = 0) : GS v (i + 1) (upd g i x) (p ||| nI 0) := by
  obtain ⟨h1, h2, h3⟩ := h
  refine ⟨fun j hj => ?_, ?_, fun b hb => ?_⟩
  · by_cases e : j = i
    · subst e; rw [pk_us]; exact hx
    · rw [pk_un e]; exact h1 j (by omega)
  · rw [or_0, fb_ct_succ, if_neg (by rw [hx.mp c]; decide)]; exact h2
  · rw [or_0]; exact h3 b (by omega)
theorem gs_t {v : Int64} {i : Nat} {g : Nat → Int32} {p x : Int32} (hi : i < 8) (h : GS v i g p) (hx : x = 0 ↔ blk v i = false) (c : ¬ x = 0) : GS v (i + 1) (upd g i x) (p ||| nI (1 * 2 ^ i)) := by
  obtain ⟨h1, h2, h3⟩ := h
  have hb : blk v i = true := by
    cases hq : blk v i with
    | true => rfl
    | false => exact absurd (hx.mpr hq) c
  have hbit : ∀ b, b < 32 → (p ||| nI (1 * 2 ^ i)).toBitVec.getLsbD b = (p.toBitVec.getLsbD b || decide (i = b)) := fun b hb => by
    rw [Int32.toBitVec_or, BitVec.getLsbD_or]
    congr 1
    show (BitVec.ofNat 32 (1 * 2 ^ i)).getLsbD b = _
    rw [BitVec.getLsbD_ofNat, Nat.one_mul, Nat.testBit_two_pow]
    simp [hb]
  refine ⟨fun j hj => ?_, ?_, fun b hb1 hb2 => ?_⟩
  · by_cases e : j = i
    · subst e; rw [pk_us]; exact hx
    · rw [pk_un e]; exact h1 j (by omega)
  · rw [fb_ct_succ, if_pos hb]
    refine ⟨fun q => ?_, fun q => by omega⟩
    have h9 := hbit i (by omega)
    rw [q] at h9
    simp at h9
  · rw [hbit b hb2, h3 b (by omega) hb2]
    have : ¬ i = b := by omega
    simp [this]
