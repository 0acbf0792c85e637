/-! ===== lN n to 2^64: shifts, and, or, masks, one bit ===== -/
theorem wb_tb (n : Nat) : (lN n).toBitVec = BitVec.ofNat 64 n := rfl
theorem wb_inj {a b : Int64} (h : a.toBitVec = b.toBitVec) : a = b := Int64.toBitVec_inj.mp h
theorem wb_tn {n : Nat} (h : n < 2 ^ 64) : (lN n).toBitVec.toNat = n := by rw [wb_tb, BitVec.toNat_ofNat, Nat.mod_eq_of_lt h]
theorem wb_of (x : Int64) : ∃ n, n < 2 ^ 64 ∧ x = lN n := ⟨x.toBitVec.toNat, x.toBitVec.isLt, wb_inj (by rw [wb_tb]; simp)⟩
theorem wb_of32 (x : Int32) : ∃ n, n < 2 ^ 32 ∧ x = nI n := ⟨x.toBitVec.toNat, x.toBitVec.isLt, Int32.toBitVec_inj.mp (by show _ = BitVec.ofNat 32 _; simp)⟩
theorem wb_c : ∀ k, k < 64 → ((nI k).toInt64 &&& 63) = lN k := by decide +kernel
theorem wb_cu : ∀ k, k < 64 → ((nI k).toInt64.toUInt64 &&& Int64.toUInt64 63) = UInt64.ofNat k := by decide +kernel
theorem wb_sm : ∀ k, k < 64 → (BitVec.ofNat 64 k).smod 64 = BitVec.ofNat 64 k := by decide +kernel
theorem wb_pw {a b : Nat} (h : a ≤ b) : 2 ^ b = 2 ^ a * 2 ^ (b - a) := by rw [← Nat.pow_add]; congr 1; omega
theorem wb_lt2 {a b : Nat} (h : a < b) : 2 ^ a < 2 ^ b := Nat.pow_lt_pow_right (by decide) h
theorem wb_mod (n : Nat) : lN n = lN (n % 2 ^ 64) := wb_inj (by rw [wb_tb, wb_tb]; apply BitVec.eq_of_toNat_eq; rw [BitVec.toNat_ofNat, BitVec.toNat_ofNat, Nat.mod_mod])
theorem wb_shr {n k : Nat} (hn : n < 2 ^ 64) (hk : k < 64) : ((lN n).toUInt64 >>> ((nI k).toInt64.toUInt64 &&& Int64.toUInt64 63)).toInt64 = lN (n / 2 ^ k) := by
  rw [wb_cu k hk]
  apply wb_inj
  apply BitVec.eq_of_toNat_eq
  show ((lN n).toUInt64 >>> UInt64.ofNat k).toNat = (BitVec.ofNat 64 _).toNat
  have h1 : (UInt64.ofNat k).toNat = k := by
    show (BitVec.ofNat 64 k).toNat = k
    rw [BitVec.toNat_ofNat, Nat.mod_eq_of_lt (by omega)]
  have h2 : (lN n).toUInt64.toNat = n := wb_tn hn
  rw [UInt64.toNat_shiftRight, h1, h2, Nat.mod_eq_of_lt hk, Nat.shiftRight_eq_div_pow, BitVec.toNat_ofNat, Nat.mod_eq_of_lt (Nat.lt_of_le_of_lt (Nat.div_le_self _ _) hn)]
theorem wb_shl (n : Nat) {k : Nat} (hk : k < 64) : lN n <<< ((nI k).toInt64 &&& 63) = lN (n * 2 ^ k) := by
  rw [wb_c k hk]
  apply wb_inj
  rw [Int64.toBitVec_shiftLeft, wb_tb, wb_tb, wb_tb, wb_sm k hk]
  apply BitVec.eq_of_toNat_eq
  rw [BitVec.shiftLeft_eq', BitVec.toNat_shiftLeft, BitVec.toNat_ofNat, BitVec.toNat_ofNat, BitVec.toNat_ofNat, Nat.mod_eq_of_lt (show k < 2 ^ 64 by omega), Nat.shiftLeft_eq, Nat.mul_mod, Nat.mod_mod, ← Nat.mul_mod]
theorem wb_and {a b : Nat} (ha : a < 2 ^ 64) (hb : b < 2 ^ 64) : lN a &&& lN b = lN (a &&& b) := by
  apply wb_inj
  rw [Int64.toBitVec_and, wb_tb, wb_tb, wb_tb]
  apply BitVec.eq_of_toNat_eq
  rw [BitVec.toNat_and, BitVec.toNat_ofNat, BitVec.toNat_ofNat, BitVec.toNat_ofNat, Nat.mod_eq_of_lt ha, Nat.mod_eq_of_lt hb, Nat.mod_eq_of_lt (Nat.and_lt_two_pow _ hb)]
theorem wb_or {a b : Nat} (ha : a < 2 ^ 64) (hb : b < 2 ^ 64) : lN a ||| lN b = lN (a ||| b) := by
  apply wb_inj
  rw [Int64.toBitVec_or, wb_tb, wb_tb, wb_tb]
  apply BitVec.eq_of_toNat_eq
  rw [BitVec.toNat_or, BitVec.toNat_ofNat, BitVec.toNat_ofNat, BitVec.toNat_ofNat, Nat.mod_eq_of_lt ha, Nat.mod_eq_of_lt hb, Nat.mod_eq_of_lt (Nat.or_lt_two_pow ha hb)]
theorem wb_mask {n k : Nat} (hn : n < 2 ^ 64) (hk : k < 64) : lN n &&& lN (2 ^ k - 1) = lN (n % 2 ^ k) := by
  rw [wb_and hn (by have := wb_lt2 hk; omega), Nat.and_two_pow_sub_one_eq_mod]
theorem wb_a1 {n : Nat} (hn : n < 2 ^ 64) : lN n &&& 1 = lN (n % 2) := wb_mask (k := 1) hn (by decide)
theorem wb_bit {n k : Nat} (hn : n < 2 ^ 64) (hk : k < 64) : ((lN n).toUInt64 >>> ((nI k).toInt64.toUInt64 &&& Int64.toUInt64 63)).toInt64 &&& 1 = lN (n / 2 ^ k % 2) := by
  rw [wb_shr hn hk, wb_a1 (Nat.lt_of_le_of_lt (Nat.div_le_self _ _) hn)]
theorem wb_xor {q k : Nat} (hk : k < 63) (h : 2 ^ k ≤ q) (h2 : q < 2 ^ (k + 1)) : lN q ^^^ lN (2 ^ k) = lN (q - 2 ^ k) := by
  obtain ⟨r, rfl⟩ : ∃ r, q = 2 ^ k + r := ⟨q - 2 ^ k, by omega⟩
  have hr : r < 2 ^ k := by rw [Nat.pow_succ] at h2; omega
  have hx : (2 ^ k + r) ^^^ 2 ^ k = r := by
    apply Nat.eq_of_testBit_eq
    intro i
    rw [Nat.testBit_xor, Nat.testBit_two_pow]
    rcases Nat.lt_trichotomy i k with h | h | h
    · rw [Nat.testBit_two_pow_add_gt h]
      simp [show ¬ k = i by omega]
    · subst h
      rw [Nat.testBit_two_pow_add_eq]
      simp
    · have a1 : 2 ^ (k + 1) ≤ 2 ^ i := Nat.pow_le_pow_right (by decide) h
      rw [Nat.testBit_lt_two_pow (show 2 ^ k + r < 2 ^ i by omega), Nat.testBit_lt_two_pow (show r < 2 ^ i by omega)]
      simp [show ¬ k = i by omega]
  have b1 := wb_lt2 (show k + 1 < 64 by omega)
  have b2 := wb_lt2 (show k < 64 by omega)
  apply wb_inj
  rw [Int64.toBitVec_xor, wb_tb, wb_tb, wb_tb]
  apply BitVec.eq_of_toNat_eq
  rw [BitVec.toNat_xor, BitVec.toNat_ofNat, BitVec.toNat_ofNat, BitVec.toNat_ofNat, Nat.mod_eq_of_lt (by omega : 2 ^ k + r < 2 ^ 64), Nat.mod_eq_of_lt b2, hx, Nat.add_sub_cancel_left, Nat.mod_eq_of_lt (by omega)]
/-! ===== a word's lowest, highest bit; how many ===== -/
theorem fa_andI (a b : Nat) : nI a &&& nI b = nI (a &&& b) := by
  apply Int32.toBitVec_inj.1
  show BitVec.ofNat 32 a &&& BitVec.ofNat 32 b = BitVec.ofNat 32 (a &&& b)
  apply BitVec.eq_of_getLsbD_eq
  intro i hi
  simp [hi]
theorem gb_neg (w : Int64) {i : Nat} (hi : i < 64) : gb (-w) i = (gb w i ^^ decide (∃ j, j < i ∧ gb w j = true)) := by
  unfold gb
  rw [Int64.toBitVec_neg, BitVec.getLsbD_neg]
  simp [hi]
theorem ct_lt {k n : Nat} (h : k ≤ n) : fb_ct (fun i => decide (i < k)) n = k := by
  obtain ⟨m, rfl⟩ : ∃ m, n = k + m := ⟨n - k, by omega⟩
  rw [fb_ct_split]
  have h1 : fb_ct (fun i => decide (i < k)) k = k := fb_ct_all.mpr fun j hj => by simp [hj]
  have h2 : fb_ct (fun j => decide (k + j < k)) m = 0 := fb_ct_zero.mpr fun j _ => by simp
  rw [h1, h2, Nat.add_zero]
theorem gb_toNat (w : Int64) (i : Nat) : gb w i = w.toBitVec.toNat.testBit i := rfl
theorem gb_bit1_pred {k : Nat} (hk : k < 64) (i : Nat) : gb (bit1 k - 1) i = decide (i < k) := by
  have e : (bit1 k - 1).toBitVec.toNat = 2 ^ k - 1 := by
    rw [Int64.toBitVec_sub]
    show (BitVec.twoPow 64 k - 1#64).toNat = _
    have h1 : (BitVec.twoPow 64 k).toNat = 2 ^ k := BitVec.toNat_twoPow_of_lt hk
    have h2 : 0 < 2 ^ k := Nat.two_pow_pos k
    rw [BitVec.toNat_sub_of_le (by rw [BitVec.le_def, h1]; show 1 ≤ 2 ^ k; omega), h1]
    rfl
  rw [gb_toNat, e, Nat.testBit_two_pow_sub_one]
theorem and_neg {w : Int64} (h : ¬ w = 0) : ∃ k, k < 64 ∧ fst1 (gb w) 64 = some k ∧ w &&& -w = bit1 k := by
  obtain ⟨i0, h1, h2⟩ := gb_some h
  cases h3 : fst1 (gb w) 64 with
  | none => rw [fst1_none.mp h3 i0 h1] at h2; cases h2
  | some k =>
    obtain ⟨a, b, c⟩ := fst1_some h3
    refine ⟨k, a, rfl, gb_ext fun i hi => ?_⟩
    rw [gb_and, gb_neg w hi, gb_bit1 a]
    rcases Nat.lt_trichotomy i k with z | z | z
    · rw [c i z]
      have : ¬ k = i := by omega
      simp [this]
    · subst z
      have : ¬ ∃ j, j < i ∧ gb w j = true := fun ⟨j, h5, h6⟩ => by rw [c j h5] at h6; cases h6
      simp [b, this]
    · have h5 : ∃ j, j < i ∧ gb w j = true := ⟨k, z, b⟩
      have : ¬ k = i := by omega
      cases hb : gb w i <;> simp [h5, this]
theorem least_ne {w : Int64} (h : ¬ w = 0) : nI (fb_ct (gb ((w &&& -w) - 1)) 64) = oI (fst1 (gb w) 64) := by
  obtain ⟨k, h1, h2, h3⟩ := and_neg h
  rw [h2, h3, fb_ct_cong (q := fun i => decide (i < k)) (fun j _ => gb_bit1_pred h1 j), ct_lt (by omega)]
  rfl
theorem least_0 {w : Int64} (h : w = 0) : (-1 : Int32) = oI (fst1 (gb w) 64) := by
  rw [fst1_none.mpr fun j hj => gb_zero.mp h j hj]; rfl
theorem add_or {a b : Int64} (h : ∀ i, i < 64 → ¬ (gb a i = true ∧ gb b i = true)) : a + b = a ||| b := by
  apply Int64.toBitVec_inj.mp
  rw [Int64.toBitVec_add, Int64.toBitVec_or]
  refine BitVec.add_eq_or_of_and_eq_zero _ _ (BitVec.eq_of_getLsbD_eq fun i hi => ?_)
  rw [BitVec.getLsbD_and]
  have h1 := h i hi
  unfold gb at h1
  cases ha : a.toBitVec.getLsbD i <;> cases hb : b.toBitVec.getLsbD i <;> simp_all
theorem clr_low {w : Int64} {k : Nat} (h : fst1 (gb w) 64 = some k) {i : Nat} (hi : i < 64) : gb (w &&& (w - 1)) i = (gb w i && decide (i ≠ k)) := by
  obtain ⟨a, b, c⟩ := fst1_some h
  have hv : ∀ i, i < 64 → gb (w &&& (bit1 k ^^^ (-1))) i = (gb w i && decide (i ≠ k)) := fun i hi => by
    rw [gb_and, gb_xor, gb_bit1 a, gb_m1 hi]
    by_cases e : k = i
    · simp [e]
    · have : ¬ i = k := fun z => e z.symm
      simp [e, this]
  generalize hV : w &&& (bit1 k ^^^ (-1)) = v at hv
  have e1 : w = v + bit1 k := by
    rw [add_or fun i hi => by rw [hv i hi, gb_bit1 a]; simp; omega]
    refine gb_ext fun i hi => ?_
    rw [gb_or, hv i hi, gb_bit1 a]
    by_cases e : k = i
    · subst e; simp [b]
    · have : ¬ i = k := fun z => e z.symm
      simp [e, this]
  have e2 : w - 1 = v ||| (bit1 k - 1) := by
    have e3 : w - 1 = v + (bit1 k - 1) := by
      conv => lhs; rw [e1]
      rw [Int64.sub_eq_add_neg, Int64.sub_eq_add_neg, Int64.add_assoc]
    rw [e3]
    refine add_or fun i hi => ?_
    rw [hv i hi, gb_bit1_pred a]
    rintro ⟨p, q⟩
    simp only [decide_eq_true_eq] at q
    rw [c i q] at p
    simp at p
  rw [gb_and, e2, gb_or, hv i hi, gb_bit1_pred a]
  by_cases hw : gb w i = true
  · rw [hw]
    by_cases e : i < k
    · rw [c i e] at hw; cases hw
    · simp [e]
  · rw [bn hw]; simp
def Fil (w f : Int64) (s : Nat) : Prop := ∀ i, gb f i = true ↔ ∃ j, i ≤ j ∧ j < i + s ∧ gb w j = true
theorem fil_1 (w : Int64) : Fil w w 1 := fun i => ⟨fun h => ⟨i, Nat.le_refl _, by omega, h⟩, fun ⟨j, h1, h2, h3⟩ => by
  have : j = i := by omega
  rw [← this]; exact h3⟩
theorem fil_s {w f : Int64} {s : Nat} (hs : s < 64) (h : Fil w f s) : Fil w (f ||| sru f (nI s)) (2 * s) := fun i => by
  rw [gb_or, gb_sru hs, Bool.or_eq_true, h i, h (s + i)]
  constructor
  · rintro (⟨j, h1, h2, h3⟩ | ⟨j, h1, h2, h3⟩)
    · exact ⟨j, h1, by omega, h3⟩
    · exact ⟨j, by omega, by omega, h3⟩
  · rintro ⟨j, h1, h2, h3⟩
    rcases Nat.lt_or_ge j (i + s) with z | z
    · exact Or.inl ⟨j, h1, z, h3⟩
    · exact Or.inr ⟨j, by omega, by omega, h3⟩
theorem greatest_eq {w f : Int64} (h : Fil w f 64) : nI (fb_ct (gb f) 64) - nI 1 = oI (lst1 (gb w) 64) := by
  cases h1 : lst1 (gb w) 64 with
  | none =>
    have h2 := lst1_none.mp h1
    rw [fb_ct_zero.mpr fun k hk => bn fun z => by
      obtain ⟨j, a, b, c⟩ := (h k).mp z
      rw [h2 j (gb_lt c)] at c; cases c]
    decide
  | some k =>
    obtain ⟨a, b, c⟩ := lst1_some h1
    rw [fb_ct_cong (q := fun i => decide (i < k + 1)) (fun j hj => ?_), ct_lt (by omega), pk_sub (by omega)]
    · rfl
    · by_cases z : j < k + 1
      · rw [(h j).mpr ⟨k, by omega, by omega, b⟩]; simp [z]
      · have : ¬ gb f j = true := fun q => by
          obtain ⟨i, a1, b1, c1⟩ := (h j).mp q
          rw [c i (by omega) (gb_lt c1)] at c1; cases c1
        rw [bn this]; simp [z]
theorem after_eq {w : Int64} {k : Nat} (hk : k < 64) : fst1 (gb (w &&& slu (slu (-1) (nI k)) (nI 1))) 64 = nxt1 (gb w) k 64 := by
  refine fst1_cong fun j hj => ?_
  rw [gb_and, gb_slu (by omega) _ hj]
  by_cases h1 : 1 ≤ j
  · rw [gb_slu hk _ (by omega)]
    by_cases h2 : k ≤ j - 1
    · have : k < j := by omega
      simp [h1, h2, this, gb_m1 (show j - 1 - k < 64 by omega)]
    · have : ¬ k < j := by omega
      simp [h2, this]
  · have : ¬ k < j := by omega
    simp [h1, this]
theorem before_eq {w : Int64} {k : Nat} (hk : k < 64) : lst1 (gb (w &&& (bit1 k - 1))) 64 = lst1 (gb w) k := by
  cases h1 : lst1 (gb w) k with
  | none =>
    have h2 := lst1_none.mp h1
    refine lst1_none.mpr fun j hj => ?_
    rw [gb_and, gb_bit1_pred hk]
    by_cases z : j < k
    · simp [h2 j z]
    · simp [z]
  | some i =>
    obtain ⟨a, b, c⟩ := lst1_some h1
    refine lst1_of (by omega) (by rw [gb_and, gb_bit1_pred hk, b]; simp [a]) fun j h2 h3 => ?_
    rw [gb_and, gb_bit1_pred hk]
    by_cases z : j < k
    · simp [c j h2 z]
    · simp [z]
theorem and_bit1 {w : Int64} {j : Nat} (hj : j < 64) : (w &&& bit1 j) = 0 ↔ gb w j = false := by
  rw [gb_zero]
  constructor
  · intro h
    have h1 := h j hj
    rw [gb_and, gb_bit1 hj] at h1
    simpa using h1
  · intro h i hi
    rw [gb_and, gb_bit1 hj]
    by_cases e : j = i
    · subst e; simp [h]
    · simp [e]
/-! ===== Long.bitCount ===== -/
def rp (c : Nat) : Nat → Nat
  | 0 => 0
  | k + 1 => 256 * rp c k + c
def q1 (k n : Nat) : Nat := n - (n / 2 &&& rp 85 k)
def q2 (k n : Nat) : Nat := (n &&& rp 51 k) + (n / 4 &&& rp 51 k)
def q3 (k n : Nat) : Nat := (n + n / 16) &&& rp 15 k
def b1 (b : Nat) : Nat := b - (b / 2 &&& 85)
def b2 (b : Nat) : Nat := (b &&& 51) + (b / 4 &&& 51)
def b3 (b : Nat) : Nat := (b + b / 16) &&& 15
theorem and_byte {A B d c : Nat} (hd : d < 256) (hc : c < 256) : (256 * A + d) &&& (256 * B + c) = 256 * (A &&& B) + (d &&& c) := by
  have h1 : ((256 * A + d) &&& (256 * B + c)) / 2 ^ 8 = A &&& B := by
    rw [Nat.and_div_two_pow]
    rw [show (256 * A + d) / 2 ^ 8 = A by omega, show (256 * B + c) / 2 ^ 8 = B by omega]
  have h2 : ((256 * A + d) &&& (256 * B + c)) % 2 ^ 8 = d &&& c := by
    rw [Nat.and_mod_two_pow]
    rw [show (256 * A + d) % 2 ^ 8 = d by omega, show (256 * B + c) % 2 ^ 8 = c by omega]
  omega
theorem bd_1 : ∀ b, b < 256 → b1 b < 256 ∧ (b / 2 &&& 85) ≤ b ∧ (128 + b / 2) &&& 85 = b / 2 &&& 85 := by decide +kernel
theorem bd_2 : ∀ c, c < 256 → b2 c < 256 ∧ (64 + c / 4) &&& 51 = c / 4 &&& 51 ∧ (128 + c / 4) &&& 51 = c / 4 &&& 51 ∧ (192 + c / 4) &&& 51 = c / 4 &&& 51 := by decide +kernel
theorem bd_12 : ∀ b, b < 256 → b2 (b1 b) ≤ 68 ∧ b2 (b1 b) % 16 ≤ 4 := by decide +kernel
theorem bd_3 : ∀ c, c < 69 → (16 + c + c / 16) &&& 15 = b3 c ∧ (32 + c + c / 16) &&& 15 = b3 c ∧ (48 + c + c / 16) &&& 15 = b3 c ∧ (64 + c + c / 16) &&& 15 = b3 c := by decide +kernel
theorem bd_ct : ∀ b, b < 256 → b3 (b2 (b1 b)) = fb_ct (fun i => b.testBit i) 8 ∧ b3 (b2 (b1 b)) ≤ 8 := by decide +kernel
theorem q1_s (k n b : Nat) (hb : b < 256) : q1 (k + 1) (256 * n + b) = 256 * q1 k n + b1 b := by
  obtain ⟨-, h1, h2⟩ := bd_1 b hb
  unfold q1 b1
  rw [show (256 * n + b) / 2 = 256 * (n / 2) + (128 * (n % 2) + b / 2) by omega]
  show 256 * n + b - ((256 * (n / 2) + (128 * (n % 2) + b / 2)) &&& (256 * rp 85 k + 85)) = _
  rw [and_byte (by omega) (by omega)]
  have h3 : (n / 2 &&& rp 85 k) ≤ n / 2 := Nat.and_le_left
  rcases Nat.mod_two_eq_zero_or_one n with z | z
  · rw [z, show 128 * 0 + b / 2 = b / 2 by omega]; omega
  · rw [z, show 128 * 1 + b / 2 = 128 + b / 2 by omega, h2]; omega
theorem q2_s (k m c : Nat) (hc : c < 256) : q2 (k + 1) (256 * m + c) = 256 * q2 k m + b2 c := by
  obtain ⟨-, h1, h2, h3⟩ := bd_2 c hc
  unfold q2 b2
  rw [show (256 * m + c) / 4 = 256 * (m / 4) + (64 * (m % 4) + c / 4) by omega]
  show ((256 * m + c) &&& (256 * rp 51 k + 51)) + ((256 * (m / 4) + (64 * (m % 4) + c / 4)) &&& (256 * rp 51 k + 51)) = _
  rw [and_byte hc (by omega), and_byte (by omega) (by omega)]
  have h4 : (64 * (m % 4) + c / 4) &&& 51 = c / 4 &&& 51 := by
    rcases (show m % 4 = 0 ∨ m % 4 = 1 ∨ m % 4 = 2 ∨ m % 4 = 3 by omega) with z | z | z | z
    · rw [z, show 64 * 0 + c / 4 = c / 4 by omega]
    · rw [z, show 64 * 1 + c / 4 = 64 + c / 4 by omega, h1]
    · rw [z, show 64 * 2 + c / 4 = 128 + c / 4 by omega, h2]
    · rw [z, show 64 * 3 + c / 4 = 192 + c / 4 by omega, h3]
  rw [h4]; omega
theorem q3_s (k m c : Nat) (hc : c ≤ 68) (hm : m % 16 ≤ 4) : q3 (k + 1) (256 * m + c) = 256 * q3 k m + b3 c := by
  obtain ⟨h1, h2, h3, h4⟩ := bd_3 c (by omega)
  unfold q3
  rw [show 256 * m + c + (256 * m + c) / 16 = 256 * (m + m / 16) + (16 * (m % 16) + c + c / 16) by omega]
  show ((256 * (m + m / 16) + (16 * (m % 16) + c + c / 16)) &&& (256 * rp 15 k + 15)) = _
  rw [and_byte (by omega) (by omega)]
  have h5 : (16 * (m % 16) + c + c / 16) &&& 15 = b3 c := by
    rcases (show m % 16 = 0 ∨ m % 16 = 1 ∨ m % 16 = 2 ∨ m % 16 = 3 ∨ m % 16 = 4 by omega) with z | z | z | z | z
    · rw [z, show 16 * 0 + c + c / 16 = c + c / 16 by omega]; rfl
    · rw [z, show 16 * 1 + c + c / 16 = 16 + c + c / 16 by omega, h1]
    · rw [z, show 16 * 2 + c + c / 16 = 32 + c + c / 16 by omega, h2]
    · rw [z, show 16 * 3 + c + c / 16 = 48 + c + c / 16 by omega, h3]
    · rw [z, show 16 * 4 + c + c / 16 = 64 + c + c / 16 by omega, h4]
  rw [h5]
def q123 (k n : Nat) : Nat := q3 k (q2 k (q1 k n))
theorem q12_low (k n : Nat) (h : n < 256 ^ k) : q2 k (q1 k n) % 16 ≤ 4 := by
  cases k with
  | zero =>
    have : n = 0 := by omega
    subst this; decide
  | succ k =>
    have e : n = 256 * (n / 256) + n % 256 := by omega
    rw [e, q1_s _ _ _ (by omega), q2_s _ _ _ (bd_1 _ (by omega)).1]
    have := (bd_12 (n % 256) (by omega)).2
    omega
theorem q123_s (k n b : Nat) (hb : b < 256) (hn : n < 256 ^ k) : q123 (k + 1) (256 * n + b) = 256 * q123 k n + b3 (b2 (b1 b)) := by
  unfold q123
  rw [q1_s _ _ _ hb, q2_s _ _ _ (bd_1 b hb).1, q3_s _ _ _ (bd_12 b hb).1 (q12_low k n hn)]
def bys : Nat → Nat → Nat
  | 0, _ => 0
  | k + 1, x => x % 256 + bys k (x / 256)
def byl : Nat → Nat → Prop
  | 0, x => x = 0
  | k + 1, x => x % 256 ≤ 8 ∧ byl k (x / 256)
theorem q123_ct : ∀ (k n : Nat), n < 256 ^ k → bys k (q123 k n) = fb_ct (fun i => n.testBit i) (8 * k) ∧ byl k (q123 k n)
  | 0, n, h => by
    have : n = 0 := by omega
    subst this; exact ⟨rfl, (by decide : q123 0 0 = 0)⟩
  | k + 1, n, h => by
    have hn : n / 256 < 256 ^ k := by
      rw [Nat.pow_succ] at h
      exact Nat.div_lt_of_lt_mul (by omega)
    obtain ⟨i1, i2⟩ := q123_ct k (n / 256) hn
    have e : n = 256 * (n / 256) + n % 256 := by omega
    obtain ⟨c1, c2⟩ := bd_ct (n % 256) (by omega)
    have e2 : q123 (k + 1) n = 256 * q123 k (n / 256) + b3 (b2 (b1 (n % 256))) := by
      conv => lhs; rw [e]
      exact q123_s k _ _ (by omega) hn
    have e3 : q123 (k + 1) n % 256 = b3 (b2 (b1 (n % 256))) := by omega
    have e4 : q123 (k + 1) n / 256 = q123 k (n / 256) := by omega
    refine ⟨?_, ?_⟩
    · show q123 (k + 1) n % 256 + bys k (q123 (k + 1) n / 256) = _
      rw [e3, e4, i1, c1, show 8 * (k + 1) = 8 + 8 * k by omega, fb_ct_split]
      congr 1
      · refine fb_ct_cong fun j hj => ?_
        rw [show (256 : Nat) = 2 ^ 8 by decide, Nat.testBit_mod_two_pow]; simp [hj]
      · refine fb_ct_cong fun j hj => ?_
        rw [show (256 : Nat) = 2 ^ 8 by decide, Nat.testBit_div_two_pow, Nat.add_comm]
    · exact ⟨by rw [e3]; exact c2, by rw [e4]; exact i2⟩
theorem fold8 {x : Nat} (h : byl 8 x) : x < 2 ^ 60 ∧ (x + x / 256 + (x + x / 256) / 65536 + (x + x / 256 + (x + x / 256) / 65536) / 4294967296) % 128 = bys 8 x := by
  obtain ⟨a0, h⟩ := h
  obtain ⟨a1, h⟩ := h
  obtain ⟨a2, h⟩ := h
  obtain ⟨a3, h⟩ := h
  obtain ⟨a4, h⟩ := h
  obtain ⟨a5, h⟩ := h
  obtain ⟨a6, h⟩ := h
  obtain ⟨a7, h⟩ := h
  simp only [bys]
  have h : x / 256 / 256 / 256 / 256 / 256 / 256 / 256 / 256 = 0 := h
  generalize hx1 : x / 256 = x1 at *
  generalize hx2 : x1 / 256 = x2 at *
  generalize hx3 : x2 / 256 = x3 at *
  generalize hx4 : x3 / 256 = x4 at *
  generalize hx5 : x4 / 256 = x5 at *
  generalize hx6 : x5 / 256 = x6 at *
  generalize hx7 : x6 / 256 = x7 at *
  have z0 : x = 256 * x1 + x % 256 := by omega
  have z1 : x1 = 256 * x2 + x1 % 256 := by omega
  have z2 : x2 = 256 * x3 + x2 % 256 := by omega
  have z3 : x3 = 256 * x4 + x3 % 256 := by omega
  have z4 : x4 = 256 * x5 + x4 % 256 := by omega
  have z5 : x5 = 256 * x6 + x5 % 256 := by omega
  have z6 : x6 = 256 * x7 + x6 % 256 := by omega
  have z7 : x7 = x7 % 256 := by omega
  generalize x % 256 = c0 at *
  generalize x1 % 256 = c1 at *
  generalize x2 % 256 = c2 at *
  generalize x3 % 256 = c3 at *
  generalize x4 % 256 = c4 at *
  generalize x5 % 256 = c5 at *
  generalize x6 % 256 = c6 at *
  generalize x7 % 256 = c7 at *
  have y1 : (x + x1) / 65536 = x2 + x3 := by omega
  have y2 : (x + x1 + (x2 + x3)) / 4294967296 = x4 + x5 + (x6 + x7) := by omega
  rw [y1, y2]
  omega
theorem bc_eq (w : Int64) {v1 v2 v3 v4 v5 v6 : Int64} (h1 : v1 = w - (sru w (nI 1) &&& 6148914691236517205)) (h2 : v2 = (v1 &&& 3689348814741910323) + (sru v1 (nI 2) &&& 3689348814741910323)) (h3 : v3 = (v2 + sru v2 (nI 4)) &&& 1085102592571150095) (h4 : v4 = v3 + sru v3 (nI 8)) (h5 : v5 = v4 + sru v4 (nI 16)) (h6 : v6 = v5 + sru v5 (nI 32)) : v6.toInt32 &&& nI 127 = nI (fb_ct (gb w) 64) := by
  obtain ⟨n, hn, rfl⟩ := wb_of w
  have hs : ∀ {a k : Nat}, a < 2 ^ 64 → k < 64 → sru (lN a) (nI k) = lN (a / 2 ^ k) := fun ha hk => wb_shr ha hk
  obtain ⟨g1, g2⟩ := q123_ct 8 n hn
  have r5 : rp 85 8 = 6148914691236517205 := by decide
  have r3 : rp 51 8 = 3689348814741910323 := by decide
  have r1 : rp 15 8 = 1085102592571150095 := by decide
  have l5 : (6148914691236517205 : Int64) = lN (rp 85 8) := by rw [r5]; rfl
  have l3 : (3689348814741910323 : Int64) = lN (rp 51 8) := by rw [r3]; rfl
  have l1 : (1085102592571150095 : Int64) = lN (rp 15 8) := by rw [r1]; rfl
  have e1 : v1 = lN (q1 8 n) := by
    rw [h1, hs hn (by omega), l5, wb_and (by omega) (by rw [r5]; decide), lN_sub (Nat.le_trans Nat.and_le_left (Nat.div_le_self _ _))]
    rfl
  have b1' : q1 8 n < 2 ^ 64 := by unfold q1; omega
  have e2 : v2 = lN (q2 8 (q1 8 n)) := by
    rw [h2, e1, hs b1' (by omega), l3, wb_and b1' (by rw [r3]; decide), wb_and (by omega) (by rw [r3]; decide), lN_add]
    rfl
  have b2' : q2 8 (q1 8 n) < 2 ^ 63 := by
    have a1 : (q1 8 n &&& rp 51 8) ≤ rp 51 8 := Nat.and_le_right
    have a2 : (q1 8 n / 4 &&& rp 51 8) ≤ rp 51 8 := Nat.and_le_right
    unfold q2
    rw [r3] at a1 a2 ⊢
    omega
  have e3 : v3 = lN (q123 8 n) := by
    rw [h3, e2, hs (by omega) (by omega), l1, lN_add, wb_and (by omega) (by rw [r1]; decide)]
    rfl
  obtain ⟨f1, f2⟩ := fold8 g2
  generalize q123 8 n = x at e3 f1 f2 g1
  have e4 : v4 = lN (x + x / 256) := by rw [h4, e3, hs (by omega) (by omega), lN_add]
  have e5 : v5 = lN (x + x / 256 + (x + x / 256) / 65536) := by rw [h5, e4, hs (by omega) (by omega), lN_add]
  have e6 : v6 = lN (x + x / 256 + (x + x / 256) / 65536 + (x + x / 256 + (x + x / 256) / 65536) / 4294967296) := by rw [h6, e5, hs (by omega) (by omega), lN_add]
  rw [e6, lN_i, fa_andI]
  generalize hy : x + x / 256 + (x + x / 256) / 65536 + (x + x / 256 + (x + x / 256) / 65536) / 4294967296 = y at f2 ⊢
  rw [show y &&& 127 = y % 128 from Nat.and_two_pow_sub_one_eq_mod y 7, f2, g1]
  congr 1
  refine fb_ct_cong fun j _ => ?_
  rw [gb_toNat, wb_tn hn]
