/-! ===== words: how long a search goes, how many trees ===== -/
def slen (q : Nat → Bool) (k n : Nat) : Nat := if 0 < fb_ct q (k + 1) ∧ fb_ct q (k + 1) < fb_ct q n then 2 else 1
theorem slen_lt {q : Nat → Bool} {k n z : Nat} (h : fst1 q n = some z) (c : k < z) : slen q k n = 1 := by
  obtain ⟨-, -, h3⟩ := fst1_some h
  have : fb_ct q (k + 1) = 0 := fb_ct_zero.mpr fun j hj => h3 j (by omega)
  unfold slen; rw [if_neg (by omega)]
theorem slen_n {q : Nat → Bool} {k n : Nat} (h : lst1 q n = none) : slen q k n = 1 := by
  have h1 : fb_ct q n = 0 := fb_ct_zero.mpr (lst1_none.mp h)
  unfold slen; rw [if_neg (by omega)]
theorem slen_ge {q : Nat → Bool} {k n z : Nat} (h : lst1 q n = some z) (c : z ≤ k) : slen q k n = 1 := by
  obtain ⟨h1, -, h3⟩ := lst1_some h
  unfold slen
  rcases Nat.lt_or_ge k n with z1 | z1
  · obtain ⟨m, rfl⟩ : ∃ m, n = k + 1 + m := ⟨n - (k + 1), by omega⟩
    have h4 : fb_ct q (k + 1 + m) = fb_ct q (k + 1) := by
      rw [fb_ct_split, fb_ct_zero.mpr fun j hj => h3 (k + 1 + j) (by omega) (by omega), Nat.add_zero]
    rw [if_neg (by omega)]
  · have := fb_ct_mono q (show n ≤ k + 1 by omega)
    rw [if_neg (by omega)]
theorem slen_2 {q : Nat → Bool} {k n y z : Nat} (h : fst1 q n = some y) (c : y ≤ k) (h2 : lst1 q n = some z) (c2 : k < z) : slen q k n = 2 := by
  obtain ⟨-, g, -⟩ := fst1_some h
  obtain ⟨a, b, -⟩ := lst1_some h2
  have h1 : 0 < fb_ct q (k + 1) := fb_ct_pos.mpr ⟨y, by omega, g⟩
  have h3 := fb_ct_mono q (show k + 1 ≤ z by omega)
  have h4 := fb_ct_mono q (show z + 1 ≤ n by omega)
  rw [fb_ct_succ, if_pos b] at h4
  unfold slen; rw [if_pos (by omega)]
theorem fst_lst {q : Nat → Bool} {n z : Nat} (h : fst1 q n = none) : ¬ lst1 q n = some z := fun h2 => by
  obtain ⟨a, b, -⟩ := lst1_some h2
  rw [fst1_none.mp h z a] at b; cases b
def blk (v : Int64) (h : Nat) : Bool := decide (¬ (sru v (nI (h * 8)) &&& (255 : Int64)) = 0)
def tcv (v : Int64) : Nat := 1 + fb_ct (blk v) 8 + (if fb_ct (blk v) 8 = 0 then 0 else 1)
def tcw (w : Int64) : Nat := if w = 0 then 0 else tcv (w &&& (w - 1))
theorem tcw_0 {w : Int64} (h : w = 0) : tcw w = 0 := if_pos h
theorem tcw_of {w v : Int64} {n z : Nat} (h : ¬ w = 0) (hv : v = w &&& (w - 1)) (hn : n = fb_ct (blk v) 8) (hz : z = if n = 0 then 0 else 1) : 1 + n + z = tcw w := by
  unfold tcw tcv
  rw [if_neg h, ← hv, ← hn, ← hz]
/-! ===== rows of words ===== -/
theorem bo_f {f : Nat → Int64} {k : Nat} (c : (f (k / 64) &&& bit1 (k % 64)) = 0) : nI 0 = b2i (bo f k) := by
  rw [show bo f k = false from (and_bit1 (Nat.mod_lt _ (by decide))).mp c]; rfl
theorem bo_t {f : Nat → Int64} {k : Nat} (c : ¬ (f (k / 64) &&& bit1 (k % 64)) = 0) : nI 1 = b2i (bo f k) := by
  have h : bo f k = true := by
    cases h9 : bo f k with
    | true => rfl
    | false => exact absurd ((and_bit1 (Nat.mod_lt _ (by decide))).mpr h9) c
  rw [h]; rfl
theorem dm_eq {x k : Nat} : (x / 64 = k / 64 ∧ x % 64 = k % 64) ↔ x = k := by omega
theorem bo_put (f : Nat → Int64) (k x : Nat) : bo (vp_updL f (k / 64) (f (k / 64) ||| bit1 (k % 64))) x = (decide (x = k) || bo f x) := by
  unfold bo vp_updL
  have hk := Nat.mod_lt k (show 0 < 64 by decide)
  by_cases e : x / 64 = k / 64
  · rw [if_pos e, gb_or, gb_bit1 hk, e]
    by_cases e2 : x = k
    · subst e2; simp
    · have : ¬ k % 64 = x % 64 := fun z => e2 (dm_eq.mp ⟨e, z.symm⟩)
      simp [e2, this]
  · rw [if_neg e]
    have : ¬ x = k := fun z => e (by rw [z])
    simp [this]
theorem bo_take (f : Nat → Int64) (k x : Nat) : bo (vp_updL f (k / 64) (f (k / 64) &&& (bit1 (k % 64) ^^^ (-1 : Int64)))) x = (decide (x ≠ k) && bo f x) := by
  unfold bo vp_updL
  have hk := Nat.mod_lt k (show 0 < 64 by decide)
  have hx := Nat.mod_lt x (show 0 < 64 by decide)
  by_cases e : x / 64 = k / 64
  · rw [if_pos e, gb_and, gb_xor, gb_bit1 hk, gb_m1 hx, e]
    by_cases e2 : x = k
    · subst e2; simp
    · have : ¬ k % 64 = x % 64 := fun z => e2 (dm_eq.mp ⟨e, z.symm⟩)
      simp [e2, this]
  · rw [if_neg e]
    have : ¬ x = k := fun z => e (by rw [z])
    simp [this]
theorem fill_s {g : Nat → Int64} {i : Nat} {v : Int64} (h : ∀ j, j < i → g j = v) : ∀ j, j < i + 1 → vp_updL g i v j = v := fun j hj => by
  unfold vp_updL
  by_cases e : j = i
  · rw [if_pos e]
  · rw [if_neg e]; exact h j (by omega)
theorem bo_wipe {f : Nat → Int64} {n : Nat} (h : ∀ j, j < n → f j = 0) : ∀ x, x < 64 * n → bo f x = false := fun x hx => by
  unfold bo; rw [h (x / 64) (by omega), gb_0]
theorem bo_at (f : Nat → Int64) {j i : Nat} (hi : i < 64) : bo f (64 * j + i) = gb (f j) i := by
  unfold bo; rw [show (64 * j + i) / 64 = j by omega, show (64 * j + i) % 64 = i by omega]
theorem ct_part (f : Nat → Int64) (j : Nat) {i : Nat} (hi : i ≤ 64) : fb_ct (bo f) (64 * j + i) = fb_ct (bo f) (64 * j) + fb_ct (gb (f j)) i := by
  rw [fb_ct_split]
  congr 1
  exact fb_ct_cong fun k hk => bo_at f (by omega)
theorem ct_word (f : Nat → Int64) (j : Nat) : fb_ct (bo f) (64 * (j + 1)) = fb_ct (bo f) (64 * j) + fb_ct (gb (f j)) 64 := by
  rw [show 64 * (j + 1) = 64 * j + 64 by omega]; exact ct_part f j (Nat.le_refl _)
theorem ct_mask (w : Int64) {i : Nat} (hi : i < 64) : fb_ct (gb (w &&& (bit1 i - 1))) 64 = fb_ct (gb w) i := by
  obtain ⟨m, hm⟩ : ∃ m, 64 = i + m := ⟨64 - i, by omega⟩
  have z : fb_ct (fun k => gb (w &&& (bit1 i - 1)) (i + k)) m = 0 := fb_ct_zero.mpr fun j _ => by
    rw [gb_and, gb_bit1_pred hi]; simp
  rw [hm, fb_ct_split, z, Nat.add_zero]
  exact fb_ct_cong fun j hj => by rw [gb_and, gb_bit1_pred hi]; simp [hj]
theorem cb_end {f : Nat → Int64} {n k j c0 t : Nat} (hk : k ≤ 64 * n) (hj : ¬ j < min (k / 64) n) (hj2 : j ≤ min (k / 64) n) (hc : c0 = fb_ct (gb ((if min (k / 64) n < n then f (min (k / 64) n) else 0) &&& (bit1 (k % 64) - 1))) 64) (ht : t = c0 + fb_ct (bo f) (64 * j)) : t = fb_ct (bo f) k := by
  rw [ct_mask _ (Nat.mod_lt _ (by decide))] at hc
  have e0 : min (k / 64) n = k / 64 := Nat.min_eq_left (by omega)
  rw [e0] at hc hj hj2
  have e : j = k / 64 := by omega
  subst e
  have e2 : fb_ct (bo f) k = fb_ct (bo f) (64 * (k / 64) + k % 64) := by rw [show 64 * (k / 64) + k % 64 = k by omega]
  rw [e2, ct_part f (k / 64) (by omega), ht, hc]
  by_cases z : k / 64 < n
  · rw [if_pos z]; omega
  · rw [if_neg z, show k % 64 = 0 by omega]
    show fb_ct (gb 0) 0 + _ = _ + fb_ct _ 0
    simp [fb_ct]
theorem kth_word {f : Nat → Int64} {j lf i : Nat} {v : Int64} (h : lf < fb_ct (gb (f j)) 64) (hi : i = lf) (hv : ∀ x, gb v x = (gb (f j) x && decide (i ≤ fb_ct (gb (f j)) x))) : ∃ z, fst1 (gb v) 64 = some z ∧ z < 64 ∧ gb (f j) z = true ∧ fb_ct (gb (f j)) z = lf := by
  subst hi
  obtain ⟨z, h1, h2, h3⟩ := fb_ct_kth h
  refine ⟨z, fst1_of h1 (by rw [hv, h2, h3]; simp) fun y hy => ?_, h1, h2, h3⟩
  rw [hv]
  by_cases h4 : gb (f j) y = true
  · have h5 := fb_ct_mono (gb (f j)) (show y + 1 ≤ z by omega)
    rw [fb_ct_succ, if_pos h4] at h5
    have : ¬ i ≤ fb_ct (gb (f j)) y := by omega
    simp [this]
  · simp [bn h4]
theorem at_word {f : Nat → Int64} {j z : Nat} (h : z < 64) (h2 : gb (f j) z = true) : bo f (j * 64 + z) = true := by
  rw [Nat.mul_comm, bo_at f h]; exact h2
theorem ct_at {f : Nat → Int64} {j z lf : Nat} (h : z < 64) (h2 : fb_ct (gb (f j)) z = lf) : fb_ct (bo f) (j * 64 + z) = lf + fb_ct (bo f) (64 * j) := by
  rw [Nat.mul_comm, ct_part f j (by omega), h2]; omega
theorem clr_step {w v : Int64} {i : Nat} (h : i < fb_ct (gb w) 64) (hv : ∀ x, gb v x = (gb w x && decide (i ≤ fb_ct (gb w) x))) : ∀ x, gb (v &&& (v - 1)) x = (gb w x && decide (i + 1 ≤ fb_ct (gb w) x)) := by
  obtain ⟨z, h1, h2, h3⟩ := fb_ct_kth h
  have hf : fst1 (gb v) 64 = some z := by
    refine fst1_of h1 (by rw [hv, h2, h3]; simp) fun y hy => ?_
    rw [hv]
    by_cases h4 : gb w y = true
    · have h5 := fb_ct_mono (gb w) (show y + 1 ≤ z by omega)
      rw [fb_ct_succ, if_pos h4] at h5
      have : ¬ i ≤ fb_ct (gb w) y := by omega
      simp [this]
    · simp [bn h4]
  intro x
  rcases Nat.lt_or_ge x 64 with hx | hx
  · rw [clr_low hf hx, hv]
    by_cases h4 : gb w x = true
    · by_cases e : x = z
      · subst e; simp [h3]
      · have : ¬ fb_ct (gb w) x = i := fun q => e (fb_ct_kth_one h4 h2 (q.trans h3.symm))
        rw [h4]
        by_cases h6 : i ≤ fb_ct (gb w) x
        · have : i + 1 ≤ fb_ct (gb w) x := by omega
          simp [e, h6, this]
        · have : ¬ i + 1 ≤ fb_ct (gb w) x := by omega
          simp [h6, this]
    · simp [bn h4]
  · rw [gb_big _ hx, gb_big _ hx]; rfl
