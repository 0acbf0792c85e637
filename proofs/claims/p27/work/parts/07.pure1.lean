/-! ===== how many places have a property ===== -/
def fb_ct (p : Nat → Bool) : Nat → Nat
  | 0 => 0
  | n + 1 => fb_ct p n + (if p n then 1 else 0)
theorem fb_ct_succ (p : Nat → Bool) (n : Nat) : fb_ct p (n + 1) = fb_ct p n + (if p n then 1 else 0) := rfl
theorem fb_ct_le (p : Nat → Bool) : ∀ n, fb_ct p n ≤ n
  | 0 => Nat.le_refl _
  | n + 1 => by
    have h := fb_ct_le p n
    rw [fb_ct_succ]
    split <;> omega
theorem fb_ct_step (p : Nat → Bool) (m : Nat) : ∀ n, fb_ct p m ≤ fb_ct p (m + n)
  | 0 => Nat.le_refl _
  | n + 1 => by
    have h := fb_ct_step p m n
    show fb_ct p m ≤ fb_ct p (m + n + 1)
    rw [fb_ct_succ]
    omega
theorem fb_ct_mono (p : Nat → Bool) {m n : Nat} (h : m ≤ n) : fb_ct p m ≤ fb_ct p n := by
  have := fb_ct_step p m (n - m)
  rwa [Nat.add_sub_cancel' h] at this
theorem fb_ct_cong {p q : Nat → Bool} : ∀ {n : Nat}, (∀ k, k < n → p k = q k) → fb_ct p n = fb_ct q n
  | 0, _ => rfl
  | n + 1, h => by
    rw [fb_ct_succ, fb_ct_succ, fb_ct_cong (fun k hk => h k (by omega)), h n (by omega)]
/-- one place changed -/
theorem fb_ct_out (p : Nat → Bool) (b : Bool) {i n : Nat} (h : n ≤ i) : fb_ct (fun k => if k = i then b else p k) n = fb_ct p n :=
  fb_ct_cong fun k hk => if_neg (by omega)
theorem fb_ct_upd (p : Nat → Bool) (b : Bool) {i : Nat} : ∀ {n : Nat}, i < n → fb_ct (fun k => if k = i then b else p k) n + (if p i then 1 else 0) = fb_ct p n + (if b then 1 else 0)
  | 0, h => absurd h (Nat.not_lt_zero i)
  | n + 1, h => by
    rw [fb_ct_succ, fb_ct_succ]
    rcases Nat.lt_or_ge i n with q | q
    · have := fb_ct_upd p b q
      have e : (if n = i then b else p n) = p n := if_neg (by omega)
      rw [e]
      omega
    · have e : i = n := by omega
      subst e
      rw [fb_ct_out p b (Nat.le_refl _)]
      simp only [if_true]
      omega
theorem fb_ct_sub {p q : Nat → Bool} : ∀ {n : Nat}, (∀ k, k < n → p k = true → q k = true) → fb_ct p n ≤ fb_ct q n
  | 0, _ => Nat.le_refl _
  | n + 1, h => by
    have h1 := fb_ct_sub (n := n) (p := p) (q := q) (fun k hk => h k (by omega))
    have h2 := h n (by omega)
    rw [fb_ct_succ, fb_ct_succ]
    cases hp : p n <;> cases hq : q n <;> simp_all <;> omega
theorem fb_ct_or {p q : Nat → Bool} : ∀ {n : Nat}, (∀ k, k < n → ¬ (p k = true ∧ q k = true)) → fb_ct (fun k => p k || q k) n = fb_ct p n + fb_ct q n
  | 0, _ => rfl
  | n + 1, h => by
    have h1 := fb_ct_or (n := n) (p := p) (q := q) (fun k hk => h k (by omega))
    have h2 := h n (by omega)
    rw [fb_ct_succ, fb_ct_succ, fb_ct_succ, h1]
    cases hp : p n <;> cases hq : q n <;> simp_all <;> omega
theorem fb_ct_not (p : Nat → Bool) : ∀ n, fb_ct p n + fb_ct (fun k => !p k) n = n
  | 0 => rfl
  | n + 1 => by
    have h := fb_ct_not p n
    rw [fb_ct_succ, fb_ct_succ]
    cases p n <;> simp <;> omega
theorem fb_ct_split (p : Nat → Bool) (m : Nat) : ∀ n, fb_ct p (m + n) = fb_ct p m + fb_ct (fun k => p (m + k)) n
  | 0 => rfl
  | n + 1 => by
    have h := fb_ct_split p m n
    show fb_ct p (m + n + 1) = _
    rw [fb_ct_succ, fb_ct_succ, h, Nat.add_assoc]
theorem fb_ct_zero {p : Nat → Bool} : ∀ {n : Nat}, fb_ct p n = 0 ↔ ∀ k, k < n → p k = false
  | 0 => ⟨fun _ k hk => absurd hk (Nat.not_lt_zero k), fun _ => rfl⟩
  | n + 1 => by
    have h := fb_ct_zero (p := p) (n := n)
    rw [fb_ct_succ]
    constructor
    · intro e k hk
      have e1 : fb_ct p n = 0 := by omega
      rcases Nat.lt_or_ge k n with q | q
      · exact h.mp e1 k q
      · have ek : k = n := by omega
        subst ek
        cases hp : p k
        · rfl
        · simp [hp] at e
    · intro a
      rw [h.mpr (fun k hk => a k (by omega)), a n (by omega)]
      rfl
theorem fb_ct_pos {p : Nat → Bool} {n : Nat} : 0 < fb_ct p n ↔ ∃ k, k < n ∧ p k = true := by
  constructor
  · intro h
    refine Classical.byContradiction fun hx => ?_
    have := fb_ct_zero.mpr (fun k hk => by
      cases hp : p k
      · rfl
      · exact absurd ⟨k, hk, hp⟩ hx : ∀ k, k < n → p k = false)
    omega
  · rintro ⟨k, hk, hp⟩
    rcases Nat.eq_zero_or_pos (fb_ct p n) with e | e
    · have := fb_ct_zero.mp e k hk
      rw [this] at hp
      cases hp
    · exact e
theorem fb_ct_all {p : Nat → Bool} {n : Nat} : fb_ct p n = n ↔ ∀ k, k < n → p k = true := by
  have h := fb_ct_not p n
  constructor
  · intro e k hk
    have z : fb_ct (fun k => !p k) n = 0 := by omega
    have := fb_ct_zero.mp z k hk
    cases hp : p k
    · simp [hp] at this
    · rfl
  · intro a
    have z : fb_ct (fun k => !p k) n = 0 := fb_ct_zero.mpr (fun k hk => by simp [a k hk])
    omega
/-- the k-th place with the property -/
theorem fb_ct_kth {p : Nat → Bool} {k : Nat} : ∀ {n : Nat}, k < fb_ct p n → ∃ i, i < n ∧ p i = true ∧ fb_ct p i = k
  | 0, h => absurd h (Nat.not_lt_zero k)
  | n + 1, h => by
    rcases Nat.lt_or_ge k (fb_ct p n) with q | q
    · obtain ⟨i, h1, h2⟩ := fb_ct_kth q
      exact ⟨i, by omega, h2⟩
    · rw [fb_ct_succ] at h
      cases hp : p n
      · simp [hp] at h; omega
      · simp [hp] at h
        exact ⟨n, by omega, hp, by omega⟩
theorem fb_ct_kth_one {p : Nat → Bool} {i j : Nat} (hi : p i = true) (hj : p j = true) (e : fb_ct p i = fb_ct p j) : i = j := by
  have key : ∀ a b : Nat, a < b → p a = true → fb_ct p a < fb_ct p b := by
    intro a b hab ha
    have h := fb_ct_mono p (show a + 1 ≤ b from hab)
    rw [fb_ct_succ, ha] at h
    simp at h
    omega
  rcases Nat.lt_trichotomy i j with q | q | q
  · have := key i j q hi; omega
  · exact q
  · have := key j i q hj; omega
/-! ===== order of ints, in all its forms, and through longs ===== -/
theorem fa_lt (a b : Int32) : a < b ↔ a.toInt < b.toInt := Int32.lt_iff_toInt_lt
theorem fa_le (a b : Int32) : a ≤ b ↔ a.toInt ≤ b.toInt := Int32.le_iff_toInt_le
theorem fa_eq (a b : Int32) : a = b ↔ a.toInt = b.toInt := Int32.toInt_inj.symm
theorem fa_lt64 (a b : Int64) : a < b ↔ a.toInt < b.toInt := Int64.lt_iff_toInt_lt
theorem fa_le64 (a b : Int64) : a ≤ b ↔ a.toInt ≤ b.toInt := Int64.le_iff_toInt_le
theorem fa_eq64 (a b : Int64) : a = b ↔ a.toInt = b.toInt := Int64.toInt_inj.symm
/-- a comparison of two ints taken as longs -/
theorem fa_wide_lt (a b : Int32) : a.toInt64 < b.toInt64 ↔ a < b := by rw [fa_lt64, fa_lt, Int32.toInt_toInt64, Int32.toInt_toInt64]
theorem fa_wide_le (a b : Int32) : a.toInt64 ≤ b.toInt64 ↔ a ≤ b := by rw [fa_le64, fa_le, Int32.toInt_toInt64, Int32.toInt_toInt64]
theorem fa_wide_eq (a b : Int32) : a.toInt64 = b.toInt64 ↔ a = b := by rw [fa_eq64, fa_eq, Int32.toInt_toInt64, Int32.toInt_toInt64]
/-- one strict comparison gives all the others -/
theorem fa_of_lt {a b : Int32} (h : a < b) : a ≤ b ∧ ¬ b ≤ a ∧ ¬ b < a ∧ a ≠ b ∧ b ≠ a := by
  rw [fa_lt] at h
  refine ⟨?_, ?_, ?_, ?_, ?_⟩
  · rw [fa_le]; omega
  · rw [fa_le]; omega
  · rw [fa_lt]; omega
  · intro e; rw [fa_eq] at e; omega
  · intro e; rw [fa_eq] at e; omega
theorem fa_of_nlt {a b : Int32} (h : ¬ a < b) : b ≤ a := by
  rw [fa_lt] at h
  rw [fa_le]
  omega
theorem fa_of_nle {a b : Int32} (h : ¬ a ≤ b) : b < a := by
  rw [fa_le] at h
  rw [fa_lt]
  omega
theorem fa_le_ne {a b : Int32} (h : a ≤ b) (h2 : a ≠ b) : a < b := by
  rw [fa_le] at h
  rw [fa_lt]
  have h3 : a.toInt ≠ b.toInt := fun e => h2 ((fa_eq a b).mpr e)
  omega
theorem fa_three (a b : Int32) : a < b ∨ a = b ∨ b < a := by
  rw [fa_lt, fa_lt, fa_eq]
  omega
theorem fa_trans {a b c : Int32} (h : a < b) (h2 : b ≤ c) : a < c := by
  rw [fa_lt] at *
  rw [fa_le] at h2
  omega
/-! ===== words as sets of bits ===== -/
def gb (w : Int64) (i : Nat) : Bool := w.toBitVec.getLsbD i
def bo (f : Nat → Int64) (x : Nat) : Bool := gb (f (x / 64)) (x % 64)
def bit1 (j : Nat) : Int64 := Int64.ofBitVec (BitVec.twoPow 64 j)
theorem gb_ext {a b : Int64} (h : ∀ i, i < 64 → gb a i = gb b i) : a = b :=
  Int64.toBitVec_inj.mp (BitVec.eq_of_getLsbD_eq fun i hi => h i hi)
theorem gb_and (a b : Int64) (i : Nat) : gb (a &&& b) i = (gb a i && gb b i) := by
  unfold gb; rw [Int64.toBitVec_and, BitVec.getLsbD_and]
theorem gb_or (a b : Int64) (i : Nat) : gb (a ||| b) i = (gb a i || gb b i) := by
  unfold gb; rw [Int64.toBitVec_or, BitVec.getLsbD_or]
theorem gb_xor (a b : Int64) (i : Nat) : gb (a ^^^ b) i = (gb a i ^^ gb b i) := by
  unfold gb; rw [Int64.toBitVec_xor, BitVec.getLsbD_xor]
theorem gb_big (w : Int64) {i : Nat} (h : 64 ≤ i) : gb w i = false := BitVec.getLsbD_of_ge _ _ h
theorem gb_0 (i : Nat) : gb 0 i = false := by
  show (0#64).getLsbD i = false
  simp
theorem gb_m1 {i : Nat} (h : i < 64) : gb (-1) i = true := by
  have e : (-1 : Int64).toBitVec = BitVec.allOnes 64 := by decide
  unfold gb; rw [e, BitVec.getLsbD_allOnes]; simp [h]
theorem gb_bit1 {j : Nat} (hj : j < 64) (i : Nat) : gb (bit1 j) i = decide (j = i) := by
  show (BitVec.twoPow 64 j).getLsbD i = _
  rw [BitVec.getLsbD_twoPow]; simp [hj]
theorem gb_lt {w : Int64} {i : Nat} (h : gb w i = true) : i < 64 := by
  rcases Nat.lt_or_ge i 64 with q | q
  · exact q
  · rw [gb_big w q] at h; cases h
theorem gb_zero {w : Int64} : w = 0 ↔ ∀ i, i < 64 → gb w i = false :=
  ⟨fun h i _ => by rw [h]; exact gb_0 i, fun h => gb_ext fun i hi => by rw [h i hi, gb_0]⟩
theorem gb_some {w : Int64} (h : ¬ w = 0) : ∃ i, i < 64 ∧ gb w i = true := by
  rcases Classical.em (∃ i, i < 64 ∧ gb w i = true) with q | q
  · exact q
  · refine absurd (gb_zero.mpr fun i hi => ?_) h
    cases hb : gb w i with
    | false => rfl
    | true => exact absurd ⟨i, hi, hb⟩ q
theorem sh_c : ∀ k, k < 64 → ((nI k).toInt64 &&& 63).toBitVec.smod 64 = BitVec.ofNat 64 k := by decide +kernel
theorem sh_u : ∀ k, k < 64 → ((nI k).toInt64.toUInt64 &&& Int64.toUInt64 63).toNat = k := by decide +kernel
theorem gb_slu {k : Nat} (hk : k < 64) (w : Int64) {i : Nat} (hi : i < 64) : gb (slu w (nI k)) i = (decide (k ≤ i) && gb w (i - k)) := by
  unfold slu gb
  rw [Int64.toBitVec_shiftLeft, sh_c k hk, BitVec.shiftLeft_eq', BitVec.toNat_ofNat, Nat.mod_eq_of_lt (by omega), BitVec.getLsbD_shiftLeft]
  by_cases h : k ≤ i
  · simp [hi, h, Nat.not_lt.mpr h]
  · simp [h, Nat.lt_of_not_le h]
theorem gb_sru {k : Nat} (hk : k < 64) (w : Int64) (i : Nat) : gb (sru w (nI k)) i = gb w (k + i) := by
  have e : (sru w (nI k)).toBitVec = w.toBitVec >>> k := by
    apply BitVec.eq_of_toNat_eq
    show (w.toUInt64 >>> _).toNat = _
    rw [UInt64.toNat_shiftRight, sh_u k hk, Nat.mod_eq_of_lt hk, BitVec.toNat_ushiftRight]
    rfl
  unfold gb
  rw [e, BitVec.getLsbD_ushiftRight]
theorem slu_1 {k : Nat} (hk : k < 64) : slu 1 (nI k) = bit1 k := by
  refine gb_ext fun i hi => ?_
  rw [gb_slu hk 1 hi, gb_bit1 hk]
  have h1 : ∀ j, j < 64 → gb 1 j = decide (j = 0) := by decide +kernel
  rw [h1 _ (by omega)]
  by_cases h : k ≤ i
  · by_cases h2 : k = i
    · subst h2; simp
    · simp [h, h2]; omega
  · simp [h]; omega
/-! ===== first, last, k-th ===== -/
def fst1 (q : Nat → Bool) : Nat → Option Nat
  | 0 => none
  | n + 1 => match fst1 q n with
    | some k => some k
    | none => if q n = true then some n else none
def lst1 (q : Nat → Bool) : Nat → Option Nat
  | 0 => none
  | n + 1 => if q n = true then some n else lst1 q n
theorem bn {b : Bool} (h : ¬ b = true) : b = false := by cases b <;> first | rfl | exact absurd rfl h
theorem fst1_none {q : Nat → Bool} : ∀ {n : Nat}, fst1 q n = none ↔ ∀ j, j < n → q j = false
  | 0 => ⟨fun _ j h => absurd h (Nat.not_lt_zero j), fun _ => rfl⟩
  | n + 1 => by
    have ih := fst1_none (q := q) (n := n)
    constructor
    · intro h j hj
      cases h9 : fst1 q n with
      | some k => simp [fst1, h9] at h
      | none =>
        by_cases hq : q n = true
        · simp [fst1, h9, hq] at h
        · rcases Nat.lt_or_ge j n with z | z
          · exact ih.mp h9 j z
          · have : j = n := by omega
            subst this; exact bn hq
    · intro h
      have h1 := ih.mpr fun j hj => h j (by omega)
      simp [fst1, h1, h n (Nat.lt_succ_self n)]
theorem fst1_some {q : Nat → Bool} : ∀ {n k : Nat}, fst1 q n = some k → k < n ∧ q k = true ∧ ∀ j, j < k → q j = false
  | 0, k, h => by simp [fst1] at h
  | n + 1, k, h => by
    cases h9 : fst1 q n with
    | some i =>
      have h1 : i = k := by simpa [fst1, h9] using h
      subst h1
      obtain ⟨a, b, c⟩ := fst1_some h9
      exact ⟨by omega, b, c⟩
    | none =>
      by_cases hq : q n = true
      · have h1 : n = k := by simpa [fst1, h9, hq] using h
        subst h1
        exact ⟨Nat.lt_succ_self _, hq, fun j hj => fst1_none.mp h9 j hj⟩
      · simp [fst1, h9, hq] at h
theorem fst1_of {q : Nat → Bool} {n k : Nat} (h1 : k < n) (h2 : q k = true) (h3 : ∀ j, j < k → q j = false) : fst1 q n = some k := by
  cases h : fst1 q n with
  | none => rw [fst1_none.mp h k h1] at h2; cases h2
  | some i =>
    obtain ⟨a, b, c⟩ := fst1_some h
    rcases Nat.lt_trichotomy i k with z | z | z
    · rw [h3 i z] at b; cases b
    · rw [z]
    · rw [c k z] at h2; cases h2
theorem lst1_none {q : Nat → Bool} : ∀ {n : Nat}, lst1 q n = none ↔ ∀ j, j < n → q j = false
  | 0 => ⟨fun _ j h => absurd h (Nat.not_lt_zero j), fun _ => rfl⟩
  | n + 1 => by
    have ih := lst1_none (q := q) (n := n)
    by_cases hq : q n = true
    · refine ⟨fun h => by simp [lst1, hq] at h, fun h => ?_⟩
      rw [h n (Nat.lt_succ_self n)] at hq; cases hq
    · rw [show lst1 q (n + 1) = lst1 q n by simp [lst1, hq]]
      refine ih.trans ⟨fun h j hj => ?_, fun h j hj => h j (by omega)⟩
      rcases Nat.lt_or_ge j n with z | z
      · exact h j z
      · have : j = n := by omega
        subst this; exact bn hq
theorem lst1_some {q : Nat → Bool} : ∀ {n k : Nat}, lst1 q n = some k → k < n ∧ q k = true ∧ ∀ j, k < j → j < n → q j = false
  | 0, k, h => by simp [lst1] at h
  | n + 1, k, h => by
    by_cases hq : q n = true
    · have h1 : n = k := by simpa [lst1, hq] using h
      subst h1
      exact ⟨Nat.lt_succ_self _, hq, fun j h1 h2 => by omega⟩
    · rw [show lst1 q (n + 1) = lst1 q n by simp [lst1, hq]] at h
      obtain ⟨a, b, c⟩ := lst1_some h
      refine ⟨by omega, b, fun j h1 h2 => ?_⟩
      rcases Nat.lt_or_ge j n with z | z
      · exact c j h1 z
      · have : j = n := by omega
        subst this; exact bn hq
theorem lst1_of {q : Nat → Bool} {n k : Nat} (h1 : k < n) (h2 : q k = true) (h3 : ∀ j, k < j → j < n → q j = false) : lst1 q n = some k := by
  cases h : lst1 q n with
  | none => rw [lst1_none.mp h k h1] at h2; cases h2
  | some i =>
    obtain ⟨a, b, c⟩ := lst1_some h
    rcases Nat.lt_trichotomy i k with z | z | z
    · rw [c k z h1] at h2; cases h2
    · rw [z]
    · rw [h3 i z a] at b; cases b
theorem fst1_cong {p q : Nat → Bool} {n : Nat} (h : ∀ j, j < n → p j = q j) : fst1 p n = fst1 q n := by
  cases h1 : fst1 p n with
  | none => exact (fst1_none.mpr fun j hj => by rw [← h j hj]; exact fst1_none.mp h1 j hj).symm
  | some k =>
    obtain ⟨a, b, c⟩ := fst1_some h1
    exact (fst1_of a (by rw [← h k a]; exact b) fun j hj => by rw [← h j (by omega)]; exact c j hj).symm
theorem lst1_cong {p q : Nat → Bool} {n : Nat} (h : ∀ j, j < n → p j = q j) : lst1 p n = lst1 q n := by
  cases h1 : lst1 p n with
  | none => exact (lst1_none.mpr fun j hj => by rw [← h j hj]; exact lst1_none.mp h1 j hj).symm
  | some k =>
    obtain ⟨a, b, c⟩ := lst1_some h1
    exact (lst1_of a (by rw [← h k a]; exact b) fun j hj h2 => by rw [← h j h2]; exact c j hj h2).symm
def nxt1 (q : Nat → Bool) (k n : Nat) : Option Nat := fst1 (fun i => decide (k < i) && q i) n
def kth (q : Nat → Bool) (k n : Nat) : Option Nat := fst1 (fun i => q i && decide (fb_ct q i = k)) n
theorem kth_none {q : Nat → Bool} {k n : Nat} : kth q k n = none ↔ fb_ct q n ≤ k := by
  unfold kth
  rw [fst1_none]
  constructor
  · intro h
    rcases Nat.lt_or_ge k (fb_ct q n) with z | z
    · obtain ⟨i, h1, h2, h3⟩ := fb_ct_kth z
      have := h i h1
      simp [h2, h3] at this
    · exact z
  · intro h j hj
    by_cases h2 : q j = true
    · have h3 := fb_ct_mono q (show j + 1 ≤ n by omega)
      rw [fb_ct_succ, if_pos h2] at h3
      have : ¬ fb_ct q j = k := by omega
      simp [this]
    · simp [bn h2]
theorem kth_some {q : Nat → Bool} {k n i : Nat} (h : kth q k n = some i) : i < n ∧ q i = true ∧ fb_ct q i = k := by
  obtain ⟨a, b, c⟩ := fst1_some h
  simp only [Bool.and_eq_true, decide_eq_true_eq] at b
  exact ⟨a, b.1, b.2⟩
theorem kth_of {q : Nat → Bool} {k n i : Nat} (h1 : i < n) (h2 : q i = true) (h3 : fb_ct q i = k) : kth q k n = some i := by
  refine fst1_of h1 (by simp [h2, h3]) fun j hj => ?_
  by_cases h4 : q j = true
  · have h5 := fb_ct_mono q (show j + 1 ≤ i by omega)
    rw [fb_ct_succ, if_pos h4] at h5
    have : ¬ fb_ct q j = k := by omega
    simp [this]
  · simp [bn h4]
