/-! ===== the trie: level n, prefix v is the place 2^n + v ===== -/
def dm : Nat → Int32
  | 0 => -1
  | d + 1 => nI d
theorem dm_dec (d : Nat) : nI d + (-1) = dm d := by
  cases d with
  | zero => decide
  | succ d => exact pk_m1 d
def pfx (M : Nat → Bool) (n v : Nat) : Bool := decide (fb_ct M (v * 2 ^ (12 - n)) < fb_ct M ((v + 1) * 2 ^ (12 - n)))
def TI (M : Nat → Bool) (f : Nat → Int64) : Prop := ∀ n, n ≤ 12 → ∀ v, v < 2 ^ n → bo f (2 ^ n + v) = pfx M n v
theorem pw12 {n : Nat} (hn : n ≤ 12) : 2 ^ (12 - n) * 2 ^ n = 4096 := by
  rw [← Nat.pow_add, show 12 - n + n = 12 by omega]
theorem pw_le {n : Nat} (hn : n ≤ 12) : 2 ^ n ≤ 4096 ∧ 0 < 2 ^ n := by
  have h : 2 ^ n ≤ 2 ^ 12 := Nat.pow_le_pow_right (by decide) hn
  exact ⟨h, Nat.two_pow_pos n⟩
theorem node_eq {n : Nat} (hn : n ≤ 12) (k : Nat) : (4096 + k) / 2 ^ (12 - n) = 2 ^ n + k / 2 ^ (12 - n) := by
  have h : 4096 + k = k + 2 ^ (12 - n) * 2 ^ n := by rw [pw12 hn]; omega
  rw [h, Nat.add_mul_div_left _ _ (Nat.two_pow_pos _), Nat.add_comm]
theorem k_lt {n k : Nat} (hn : n ≤ 12) (hk : k < 4096) : k / 2 ^ (12 - n) < 2 ^ n :=
  Nat.div_lt_of_lt_mul (by rw [pw12 hn]; exact hk)
theorem lev_one {n m v w : Nat} (hv : v < 2 ^ n) (hw : w < 2 ^ m) (h : 2 ^ n + v = 2 ^ m + w) : n = m ∧ v = w := by
  rcases Nat.lt_trichotomy n m with q | q | q
  · have h1 : 2 ^ (n + 1) ≤ 2 ^ m := Nat.pow_le_pow_right (by decide) q
    rw [Nat.pow_succ] at h1
    omega
  · subst q; exact ⟨rfl, by omega⟩
  · have h1 : 2 ^ (m + 1) ≤ 2 ^ n := Nat.pow_le_pow_right (by decide) q
    rw [Nat.pow_succ] at h1
    omega
theorem pfx_iff {M : Nat → Bool} {n v : Nat} : pfx M n v = true ↔ ∃ x, x / 2 ^ (12 - n) = v ∧ M x = true := by
  unfold pfx
  have hD := Nat.two_pow_pos (12 - n)
  generalize 2 ^ (12 - n) = D at hD
  rw [decide_eq_true_eq, ct_ex (Nat.mul_le_mul_right D (Nat.le_succ v))]
  constructor
  · rintro ⟨i, h1, h2, h3⟩
    exact ⟨i, Nat.div_eq_of_lt_le h1 h2, h3⟩
  · rintro ⟨i, h1, h3⟩
    subst h1
    refine ⟨i, Nat.div_mul_le_self i D, ?_, h3⟩
    rw [Nat.succ_mul]
    have h4 := Nat.div_add_mod i D
    have h5 := Nat.mod_lt i hD
    rw [Nat.mul_comm] at h4
    omega
theorem beq_of {a b : Bool} (h : a = true ↔ b = true) : a = b := by
  cases a <;> cases b <;> simp_all
theorem pfx_ins {M : Nat → Bool} {k n v : Nat} : pfx (ins M k) n v = (decide (v = k / 2 ^ (12 - n)) || pfx M n v) := by
  refine beq_of ?_
  rw [pfx_iff, Bool.or_eq_true, pfx_iff, decide_eq_true_eq]
  constructor
  · rintro ⟨x, h1, h2⟩
    by_cases e : x = k
    · subst e; exact Or.inl h1.symm
    · exact Or.inr ⟨x, h1, by simpa [ins, e] using h2⟩
  · rintro (h | ⟨x, h1, h2⟩)
    · exact ⟨k, h.symm, by simp [ins]⟩
    · exact ⟨x, h1, by simp [ins, h2]⟩
theorem pfx_del {M : Nat → Bool} {k n v : Nat} (h : ¬ v = k / 2 ^ (12 - n)) : pfx (del M k) n v = pfx M n v := by
  refine beq_of ?_
  rw [pfx_iff, pfx_iff]
  constructor
  · rintro ⟨x, h1, h2⟩
    exact ⟨x, h1, by simp only [del, Bool.and_eq_true] at h2; exact h2.2⟩
  · rintro ⟨x, h1, h2⟩
    have : ¬ x = k := fun q => h (by rw [← h1, q])
    exact ⟨x, h1, by simp [del, this, h2]⟩
theorem pfx_12 {M : Nat → Bool} {v : Nat} : pfx M 12 v = M v := by
  refine beq_of ?_
  rw [pfx_iff]
  constructor
  · rintro ⟨x, h1, h2⟩
    have : x = v := by rw [← h1]; exact (Nat.div_one x).symm
    rw [← this]; exact h2
  · intro h
    exact ⟨v, Nat.div_one v, h⟩
theorem pfx_up {M : Nat → Bool} {n v : Nat} (hn : n < 12) : pfx M n v = (pfx M (n + 1) (2 * v) || pfx M (n + 1) (2 * v + 1)) := by
  refine beq_of ?_
  unfold pfx
  rw [Bool.or_eq_true, decide_eq_true_eq, decide_eq_true_eq, decide_eq_true_eq]
  have e : 2 ^ (12 - n) = 2 * 2 ^ (12 - (n + 1)) := by
    rw [← Nat.pow_succ', show (12 - (n + 1)).succ = 12 - n by omega]
  rw [e]
  generalize 2 ^ (12 - (n + 1)) = D
  rw [show v * (2 * D) = 2 * v * D by rw [Nat.mul_left_comm, Nat.mul_assoc], show (v + 1) * (2 * D) = (2 * v + 1 + 1) * D by rw [show 2 * v + 1 + 1 = 2 * (v + 1) by omega, Nat.mul_left_comm, Nat.mul_assoc]]
  have h1 := fb_ct_mono M (Nat.mul_le_mul_right D (show 2 * v ≤ 2 * v + 1 by omega))
  have h2 := fb_ct_mono M (Nat.mul_le_mul_right D (show 2 * v + 1 ≤ 2 * v + 1 + 1 by omega))
  omega
theorem pfx_0 {M : Nat → Bool} : pfx M 0 0 = true ↔ ¬ fst1 M 4096 = none := by
  rw [pfx_iff]
  constructor
  · rintro ⟨x, h1, h2⟩ h
    have hx : x < 4096 := by
      rcases Nat.lt_or_ge x 4096 with q | q
      · exact q
      · have := Nat.div_le_div_right (c := 2 ^ (12 - 0)) q
        rw [h1] at this
        exact absurd this (by decide)
    rw [fst1_none.mp h x hx] at h2; cases h2
  · intro h
    cases h1 : fst1 M 4096 with
    | none => exact absurd h1 h
    | some x =>
      obtain ⟨a, b, -⟩ := fst1_some h1
      exact ⟨x, Nat.div_eq_of_lt a, b⟩
theorem pfx_cong {M N : Nat → Bool} (h : ∀ x, x < 4096 → M x = N x) {n v : Nat} (hn : n ≤ 12) (hv : v < 2 ^ n) : pfx M n v = pfx N n v := by
  have h1 : (v + 1) * 2 ^ (12 - n) ≤ 4096 := by
    rw [← pw12 hn, Nat.mul_comm]
    exact Nat.mul_le_mul_left _ hv
  have h2 : v * 2 ^ (12 - n) ≤ (v + 1) * 2 ^ (12 - n) := Nat.mul_le_mul_right _ (Nat.le_succ v)
  unfold pfx
  rw [ct4 h (by omega), ct4 h h1]
theorem ti_cong {M N : Nat → Bool} {f : Nat → Int64} (hT : TI M f) (h : ∀ x, x < 4096 → M x = N x) : TI N f := fun n hn v hv => by
  rw [hT n hn v hv, pfx_cong h hn hv]
theorem ne_and {a b : Nat} {x : Bool} (h : ¬ a = b) : (decide (a ≠ b) && x) = x := by rw [decide_eq_true (show a ≠ b from h), Bool.true_and]
theorem eq_and {a b : Nat} {x : Bool} (h : a = b) : (decide (a ≠ b) && x) = false := by rw [decide_eq_false (fun q : a ≠ b => q h), Bool.false_and]
theorem ne_or {a b : Nat} {x : Bool} (h : ¬ a = b) : (decide (a = b) || x) = x := by rw [decide_eq_false h, Bool.false_or]
theorem eq_or {a b : Nat} {x : Bool} (h : a = b) : (decide (a = b) || x) = true := by rw [decide_eq_true h, Bool.true_or]
/-- levels from d on as of N, below as of M -/
def TJ (M N : Nat → Bool) (d : Nat) (f : Nat → Int64) : Prop := ∀ n, n ≤ 12 → ∀ v, v < 2 ^ n → bo f (2 ^ n + v) = (if d ≤ n then pfx N n v else pfx M n v)
theorem tj_0 {M N : Nat → Bool} {f : Nat → Int64} (h : TI M f) : TJ M N 13 f := fun n hn v hv => by
  rw [h n hn v hv, if_neg (by omega)]
theorem tj_end {M N : Nat → Bool} {f : Nat → Int64} (h : TJ M N 0 f) : TI N f := fun n hn v hv => by
  rw [h n hn v hv, if_pos (Nat.zero_le _)]
theorem tj_put {M : Nat → Bool} {f g : Nat → Int64} {k d : Nat} (hk : k < 4096) (hd : d ≤ 12) (h : TJ M (ins M k) (d + 1) f) (hg : ∀ x, bo g x = (decide (x = (4096 + k) / 2 ^ (12 - d)) || bo f x)) : TJ M (ins M k) d g := fun n hn v hv => by
  rw [hg, node_eq hd, h n hn v hv]
  by_cases e : 2 ^ n + v = 2 ^ d + k / 2 ^ (12 - d)
  · rw [eq_or e]
    obtain ⟨e1, e2⟩ := lev_one hv (k_lt hd hk) e
    subst e1
    rw [if_pos (Nat.le_refl _), pfx_ins, eq_or e2]
  · rw [ne_or e]
    by_cases e1 : d + 1 ≤ n
    · rw [if_pos e1, if_pos (by omega)]
    · by_cases e2 : d ≤ n
      · have : d = n := by omega
        subst this
        rw [if_neg e1, if_pos e2, pfx_ins, ne_or (fun q => e (by rw [q]))]
      · rw [if_neg e1, if_neg e2]
theorem tj_leaf {M : Nat → Bool} {f g : Nat → Int64} {k : Nat} (hk : k < 4096) (h : TI M f) (hg : ∀ x, bo g x = (decide (x ≠ (4096 + k) / 2 ^ (12 - 12)) && bo f x)) : TJ M (del M k) 12 g := fun n hn v hv => by
  rw [hg, node_eq (Nat.le_refl _), h n hn v hv]
  by_cases e : 2 ^ n + v = 2 ^ 12 + k / 2 ^ (12 - 12)
  · rw [eq_and e]
    obtain ⟨e1, e2⟩ := lev_one hv (k_lt (Nat.le_refl _) hk) e
    subst e1
    have e3 : v = k := e2.trans (Nat.div_one k)
    rw [if_pos (Nat.le_refl _), pfx_12, e3]
    unfold del
    rw [eq_and rfl]
  · rw [ne_and e]
    by_cases e2 : 12 ≤ n
    · have : n = 12 := by omega
      subst this
      rw [if_pos e2, pfx_del (fun q => e (by rw [q]))]
    · rw [if_neg e2]
theorem tj_kid {M : Nat → Bool} {g : Nat → Int64} {k d : Nat} (hk : k < 4096) (hd : d < 12) (h : TJ M (del M k) (d + 1) g) : bo g (2 * ((4096 + k) / 2 ^ (12 - d))) = pfx (del M k) (d + 1) (2 * (k / 2 ^ (12 - d))) ∧ bo g (2 * ((4096 + k) / 2 ^ (12 - d)) + 1) = pfx (del M k) (d + 1) (2 * (k / 2 ^ (12 - d)) + 1) := by
  have h1 := k_lt (show d ≤ 12 by omega) hk
  have e : 2 ^ (d + 1) = 2 * 2 ^ d := Nat.pow_succ'
  rw [node_eq (by omega), Nat.mul_add, ← e]
  have h2 := h (d + 1) (by omega) (2 * (k / 2 ^ (12 - d))) (by omega)
  have h3 := h (d + 1) (by omega) (2 * (k / 2 ^ (12 - d)) + 1) (by omega)
  rw [if_pos (Nat.le_refl _)] at h2 h3
  exact ⟨h2, by rw [Nat.add_assoc]; exact h3⟩
theorem pfx_del_le {M : Nat → Bool} {k n v : Nat} (h : pfx (del M k) n v = true) : pfx M n v = true := by
  obtain ⟨x, h1, h2⟩ := pfx_iff.mp h
  refine pfx_iff.mpr ⟨x, h1, ?_⟩
  simp only [del, Bool.and_eq_true] at h2
  exact h2.2
theorem tj_stop {M : Nat → Bool} {g : Nat → Int64} {k d : Nat} (hk : k < 4096) (hd : d < 12) (h : TJ M (del M k) (d + 1) g) (hb : bo g (2 * ((4096 + k) / 2 ^ (12 - d))) = true ∨ bo g (2 * ((4096 + k) / 2 ^ (12 - d)) + 1) = true) : TI (del M k) g := by
  obtain ⟨k1, k2⟩ := tj_kid hk hd h
  rw [k1, k2] at hb
  have hd1 : pfx (del M k) d (k / 2 ^ (12 - d)) = true := by
    rw [pfx_up hd, Bool.or_eq_true]; exact hb
  obtain ⟨x, x1, x2⟩ := pfx_iff.mp hd1
  intro n hn v hv
  rw [h n hn v hv]
  by_cases e : d + 1 ≤ n
  · rw [if_pos e]
  · rw [if_neg e]
    by_cases e2 : v = k / 2 ^ (12 - n)
    · have e3 : pfx (del M k) n v = true := by
        refine pfx_iff.mpr ⟨x, ?_, x2⟩
        have e4 : 2 ^ (12 - n) = 2 ^ (12 - d) * 2 ^ (d - n) := by
          rw [← Nat.pow_add, show 12 - d + (d - n) = 12 - n by omega]
        rw [e2, e4, ← Nat.div_div_eq_div_mul, x1, ← Nat.div_div_eq_div_mul]
      rw [e3, pfx_del_le e3]
    · exact (pfx_del e2).symm
theorem tj_step {M : Nat → Bool} {f g : Nat → Int64} {k d : Nat} (hk : k < 4096) (hd : d < 12) (h : TJ M (del M k) (d + 1) f) (h1 : bo f (2 * ((4096 + k) / 2 ^ (12 - d))) = false) (h2 : bo f (2 * ((4096 + k) / 2 ^ (12 - d)) + 1) = false) (hg : ∀ x, bo g x = (decide (x ≠ (4096 + k) / 2 ^ (12 - d)) && bo f x)) : TJ M (del M k) d g := fun n hn v hv => by
  obtain ⟨k1, k2⟩ := tj_kid hk hd h
  rw [h1] at k1
  rw [h2] at k2
  have hz : pfx (del M k) d (k / 2 ^ (12 - d)) = false := by rw [pfx_up hd, ← k1, ← k2]; rfl
  rw [hg, node_eq (by omega), h n hn v hv]
  by_cases e : 2 ^ n + v = 2 ^ d + k / 2 ^ (12 - d)
  · rw [eq_and e]
    obtain ⟨e1, e2⟩ := lev_one hv (k_lt (by omega) hk) e
    subst e1
    rw [if_pos (Nat.le_refl _), e2, hz]
  · rw [ne_and e]
    by_cases e1 : d + 1 ≤ n
    · rw [if_pos e1, if_pos (by omega)]
    · by_cases e2 : d ≤ n
      · have : d = n := by omega
        subst this
        rw [if_neg e1, if_pos e2, pfx_del (fun q => e (by rw [q]))]
      · rw [if_neg e1, if_neg e2]
theorem ti_wipe {f : Nat → Int64} (h : ∀ x, x < 64 * 128 → bo f x = false) : TI (fun _ => false) f := fun n hn v hv => by
  have h1 := pw_le hn
  rw [h (2 ^ n + v) (by omega)]
  refine (bn fun q => ?_).symm
  obtain ⟨x, -, h2⟩ := pfx_iff.mp q
  cases h2
theorem pc_eq {M : Nat → Bool} {f : Nat → Int64} {n : Nat} (hT : TI M f) (hn : n ≤ 12) : fb_ct (bo f) (2 * 2 ^ n) - fb_ct (bo f) (2 ^ n) = fb_ct (pfx M n) (2 ^ n) := by
  rw [show 2 * 2 ^ n = 2 ^ n + 2 ^ n by omega, fb_ct_split, Nat.add_sub_cancel_left]
  exact fb_ct_cong fun v hv => hT n hn v hv
theorem ti_root {M : Nat → Bool} {f : Nat → Int64} (hT : TI M f) {k : Nat} (hk : k < 4096) : bo f ((4096 + k) / 2 ^ (12 - 0)) = true ↔ ¬ fst1 M 4096 = none := by
  have h1 := k_lt (Nat.zero_le 12) hk
  have h2 : k / 2 ^ (12 - 0) = 0 := by
    have : (2 : Nat) ^ 0 = 1 := rfl
    omega
  rw [node_eq (Nat.zero_le _), hT 0 (Nat.zero_le _) _ h1, h2]
  exact pfx_0
/-! the search for the longest match -/
def bs (p : Nat → Bool) : Nat → Nat → Nat → Nat → Nat × Nat
  | 0, lo, _, t => (lo, t)
  | f + 1, lo, hi, t => if lo + 1 < hi then (if p ((lo + hi) / 2) = true then bs p f ((lo + hi) / 2) hi (t + 1) else bs p f lo ((lo + hi) / 2) (t + 1)) else (lo, t)
theorem bs_stop (p : Nat → Bool) (f : Nat) {lo hi : Nat} (t : Nat) (h : ¬ lo + 1 < hi) : bs p f lo hi t = (lo, t) := by
  cases f with
  | zero => rfl
  | succ f => exact if_neg h
theorem bs_cong {p q : Nat → Bool} (h : ∀ n, n ≤ 12 → p n = q n) : ∀ (f lo hi t : Nat), hi ≤ 13 → lo ≤ 13 → bs p f lo hi t = bs q f lo hi t
  | 0, _, _, _, _, _ => rfl
  | f + 1, lo, hi, t, h1, h2 => by
    unfold bs
    by_cases e : lo + 1 < hi
    · rw [if_pos e, if_pos e, h ((lo + hi) / 2) (by omega), bs_cong h f _ _ _ h1 (by omega), bs_cong h f _ _ _ (by omega) h2]
    · rw [if_neg e, if_neg e]
theorem bs_len (p : Nat → Bool) : ∀ (f g lo hi t : Nat), hi ≤ lo + 1 + f → hi ≤ lo + 1 + g → bs p f lo hi t = bs p g lo hi t
  | 0, g, lo, hi, t, h1, _ => (bs_stop p g t (by omega)).symm
  | f + 1, 0, lo, hi, t, _, h2 => bs_stop p (f + 1) t (by omega)
  | f + 1, g + 1, lo, hi, t, h1, h2 => by
    unfold bs
    by_cases e : lo + 1 < hi
    · rw [if_pos e, if_pos e, bs_len p f g _ _ _ (by omega) (by omega), bs_len p f g _ _ _ (by omega) (by omega)]
    · rw [if_neg e, if_neg e]
theorem bs_le (p : Nat → Bool) : ∀ (f lo hi t : Nat), hi ≤ 13 → lo ≤ 12 → (bs p f lo hi t).1 ≤ 12 ∧ (bs p f lo hi t).2 ≤ t + f
  | 0, lo, hi, t, _, h2 => ⟨h2, Nat.le_refl _⟩
  | f + 1, lo, hi, t, h1, h2 => by
    unfold bs
    by_cases e : lo + 1 < hi
    · rw [if_pos e]
      by_cases e2 : p ((lo + hi) / 2) = true
      · rw [if_pos e2]
        have := bs_le p f ((lo + hi) / 2) hi (t + 1) h1 (by omega)
        omega
      · rw [if_neg e2]
        have := bs_le p f lo ((lo + hi) / 2) (t + 1) (by omega) h2
        omega
    · rw [if_neg e]
      exact ⟨h2, by show t ≤ _; omega⟩
theorem bs_t {p : Nat → Bool} {f lo hi t : Nat} (e : lo + 1 < hi) (h : p ((lo + hi) / 2) = true) : bs p (f + 1) lo hi t = bs p f ((lo + hi) / 2) hi (t + 1) := by
  show (if _ then _ else _) = _
  rw [if_pos e, if_pos h]
theorem bs_f {p : Nat → Bool} {f lo hi t : Nat} (e : lo + 1 < hi) (h : p ((lo + hi) / 2) = false) : bs p (f + 1) lo hi t = bs p f lo ((lo + hi) / 2) (t + 1) := by
  show (if _ then _ else _) = _
  rw [if_pos e, if_neg (by rw [h]; decide)]
def pat (M : Nat → Bool) (k n : Nat) : Bool := pfx M n (k / 2 ^ (12 - n))
def srch (M : Nat → Bool) (k : Nat) : Option Nat × Nat := if fst1 M 4096 = none then (none, 0) else (some (bs (pat M k) 13 0 13 0).1, (bs (pat M k) 13 0 13 0).2)
theorem srch_0 {M : Nat → Bool} {k : Nat} (h : fst1 M 4096 = none) : srch M k = (none, 0) := if_pos h
theorem srch_1 {M : Nat → Bool} {f : Nat → Int64} {k lo t : Nat} (hT : TI M f) (hk : k < 4096) (h : ¬ fst1 M 4096 = none) (hb : bs (fun n => bo f ((4096 + k) / 2 ^ (12 - n))) 13 0 13 0 = (lo, t)) : (some lo, t) = srch M k := by
  rw [bs_cong (q := pat M k) (fun n hn => by
    show bo f _ = pfx M n _
    rw [node_eq hn]; exact hT n hn _ (k_lt hn hk)) _ _ _ _ (by decide) (by decide)] at hb
  unfold srch
  rw [if_neg h, hb]
