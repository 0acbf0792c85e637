/-! ===== the tree: M the members, f the clusters' words, sm the summary's word, lo the least number ===== -/
def SMc (f : Nat → Int64) (sm : Int64) : Prop := ∀ h, h < 64 → gb sm h = decide (¬ f h = 0)
def TR (M : Nat → Bool) (f : Nat → Int64) (sm : Int64) (lo : Option Nat) : Prop := lo = fst1 M 4096 ∧ (∀ x, x < 4096 → bo f x = (M x && decide (lo ≠ some x))) ∧ SMc f sm
theorem sm_or {sm w : Int64} {k : Nat} (hk : k < 64) (c : ¬ w = 0) : ∀ i, i < 64 → gb (sm ||| bit1 (k % 64)) i = (if i = k then decide (¬ w = 0) else gb sm i) := fun i _ => by
  rw [gb_or, Nat.mod_eq_of_lt hk, gb_bit1 hk]
  by_cases e : i = k
  · subst e; simp [c]
  · have : ¬ k = i := fun q => e q.symm
    simp [e, this]
theorem sm_and {sm w : Int64} {k : Nat} (hk : k < 64) (c : w = 0) : ∀ i, i < 64 → gb (sm &&& (bit1 (k % 64) ^^^ (-1 : Int64))) i = (if i = k then decide (¬ w = 0) else gb sm i) := fun i hi => by
  rw [gb_and, gb_xor, Nat.mod_eq_of_lt hk, gb_bit1 hk, gb_m1 hi]
  by_cases e : i = k
  · subst e; simp [c]
  · have : ¬ k = i := fun q => e q.symm
    simp [e, this]
theorem smc_set {f : Nat → Int64} {sm sm' w : Int64} {k : Nat} (h : SMc f sm) (h2 : ∀ i, i < 64 → gb sm' i = (if i = k then decide (¬ w = 0) else gb sm i)) : SMc (vp_updL f k w) sm' := fun i hi => by
  rw [h2 i hi]
  unfold vp_updL
  by_cases e : i = k
  · rw [if_pos e, if_pos e]
  · rw [if_neg e, if_neg e, h i hi]
theorem gb_at (f : Nat → Int64) (h z : Nat) (hz : z < 64) : gb (f h) z = bo f (h * 64 + z) := by
  rw [Nat.mul_comm]; exact (bo_at f hz).symm
theorem tr_lo {M : Nat → Bool} {f : Nat → Int64} {sm : Int64} {lo : Option Nat} (hT : TR M f sm lo) {x : Nat} (hx : x < 4096) (hm : M x = true) : ∃ z, lo = some z ∧ z < 4096 ∧ M z = true ∧ z ≤ x ∧ ∀ j, j < z → M j = false := by
  rw [hT.1]
  cases h : fst1 M 4096 with
  | none => rw [fst1_none.mp h x hx] at hm; cases hm
  | some z =>
    obtain ⟨a, b, c⟩ := fst1_some h
    refine ⟨z, rfl, a, b, ?_, c⟩
    rcases Nat.lt_or_ge x z with q | q
    · rw [c x q] at hm; cases hm
    · exact q
theorem tr_none {M : Nat → Bool} {f : Nat → Int64} {sm : Int64} {lo : Option Nat} (hT : TR M f sm lo) (h : lo = none) : ∀ x, x < 4096 → M x = false := fst1_none.mp (by rw [← hT.1, h])
theorem tr_some {M : Nat → Bool} {f : Nat → Int64} {sm : Int64} {lo : Option Nat} (hT : TR M f sm lo) {z : Nat} (h : lo = some z) : z < 4096 ∧ M z = true ∧ ∀ j, j < z → M j = false := fst1_some (by rw [← hT.1, h])
/-- a member that isn't the least lies in its cluster -/
theorem tr_in {M : Nat → Bool} {f : Nat → Int64} {sm : Int64} {lo : Option Nat} (hT : TR M f sm lo) {z x : Nat} (h : lo = some z) (hx : x < 4096) : bo f x = (M x && decide (x ≠ z)) := by
  rw [hT.2.1 x hx, h]
  by_cases e : z = x
  · subst e; simp
  · have : ¬ x = z := fun q => e q.symm
    simp [e, this]
theorem bo_ne {f : Nat → Int64} {x : Nat} (h : bo f x = true) : ¬ f (x / 64) = 0 := fun q => by
  unfold bo at h; rw [q, gb_0] at h; cases h
theorem bo_bit {f : Nat → Int64} {h : Nat} (hf : ¬ f h = 0) : ∃ y, y < 64 ∧ bo f (h * 64 + y) = true := by
  obtain ⟨y, h1, h2⟩ := gb_some hf
  exact ⟨y, h1, by rw [← gb_at f h y h1]; exact h2⟩
theorem lst_in {f : Nat → Int64} {h : Nat} (hf : ¬ f h = 0) : ∃ z, lst1 (gb (f h)) 64 = some z ∧ z < 64 ∧ bo f (h * 64 + z) = true ∧ ∀ y, z < y → y < 64 → bo f (h * 64 + y) = false := by
  cases h1 : lst1 (gb (f h)) 64 with
  | none =>
    obtain ⟨y, a, b⟩ := gb_some hf
    rw [lst1_none.mp h1 y a] at b; cases b
  | some z =>
    obtain ⟨a, b, c⟩ := lst1_some h1
    exact ⟨z, rfl, a, by rw [← gb_at f h z a]; exact b, fun y h2 h3 => by rw [← gb_at f h y h3]; exact c y h2 h3⟩
theorem fst_in {f : Nat → Int64} {h : Nat} (hf : ¬ f h = 0) : ∃ z, fst1 (gb (f h)) 64 = some z ∧ z < 64 ∧ bo f (h * 64 + z) = true ∧ ∀ y, y < z → bo f (h * 64 + y) = false := by
  cases h1 : fst1 (gb (f h)) 64 with
  | none =>
    obtain ⟨y, a, b⟩ := gb_some hf
    rw [fst1_none.mp h1 y a] at b; cases b
  | some z =>
    obtain ⟨a, b, c⟩ := fst1_some h1
    exact ⟨z, rfl, a, by rw [← gb_at f h z a]; exact b, fun y h2 => by rw [← gb_at f h y (by omega)]; exact c y h2⟩
theorem smc_bo {f : Nat → Int64} {sm : Int64} (hs : SMc f sm) {x : Nat} (hx : x < 4096) (h : bo f x = true) : gb sm (x / 64) = true := by
  rw [hs (x / 64) (by omega)]; simp [bo_ne h]
theorem smc_no {f : Nat → Int64} {sm : Int64} (hs : SMc f sm) {h : Nat} (hh : h < 64) (hb : gb sm h = false) {y : Nat} (hy : y < 64) : bo f (h * 64 + y) = false := by
  refine bn fun q => ?_
  have h1 := smc_bo hs (show h * 64 + y < 4096 by omega) q
  rw [show (h * 64 + y) / 64 = h by omega, hb] at h1; cases h1
theorem smc_yes {f : Nat → Int64} {sm : Int64} (hs : SMc f sm) {h : Nat} (hb : gb sm h = true) : ¬ f h = 0 := by
  have h1 := hs h (gb_lt hb)
  rw [hb] at h1
  simpa using h1.symm
/-- the least number in the clusters -/
theorem lic_0 {f : Nat → Int64} {sm : Int64} (hs : SMc f sm) (c : sm = 0) : fst1 (bo f) 4096 = none := fst1_none.mpr fun x hx => by
  have h1 := smc_no hs (show x / 64 < 64 by omega) (by rw [c]; exact gb_0 _) (Nat.mod_lt x (show 0 < 64 by decide))
  rwa [show x / 64 * 64 + x % 64 = x by omega] at h1
theorem lic_1 {f : Nat → Int64} {sm : Int64} (hs : SMc f sm) (c : ¬ sm = 0) : ∃ h z, fst1 (gb sm) 64 = some h ∧ h < 64 ∧ z < 64 ∧ fst1 (gb (f h)) 64 = some z ∧ fst1 (bo f) 4096 = some (h * 64 + z) := by
  cases h1 : fst1 (gb sm) 64 with
  | none =>
    obtain ⟨y, a, b⟩ := gb_some c
    rw [fst1_none.mp h1 y a] at b; cases b
  | some h =>
    obtain ⟨a, b, d⟩ := fst1_some h1
    obtain ⟨z, z1, z2, z3, z4⟩ := fst_in (smc_yes hs b)
    refine ⟨h, z, rfl, a, z2, z1, fst1_of (by omega) z3 fun j hj => ?_⟩
    by_cases e : j / 64 = h
    · have h2 := z4 (j % 64) (by omega)
      rwa [show h * 64 + j % 64 = j by omega] at h2
    · have h2 := smc_no hs (show j / 64 < 64 by omega) (d _ (by omega)) (Nat.mod_lt j (show 0 < 64 by decide))
      rwa [show j / 64 * 64 + j % 64 = j by omega] at h2
theorem tr_g0 {M : Nat → Bool} {f : Nat → Int64} {sm : Int64} {lo : Option Nat} (hT : TR M f sm lo) (c : sm = 0) : lo = lst1 M 4096 := by
  have h0 := fst1_none.mp (lic_0 hT.2.2 c)
  cases h : lo with
  | none => exact (lst1_none.mpr (tr_none hT h)).symm
  | some z =>
    obtain ⟨a, b, d⟩ := tr_some hT h
    refine (lst1_of a b fun j h1 h2 => ?_).symm
    have h3 := tr_in hT h h2
    rw [h0 j h2] at h3
    have : ¬ j = z := by omega
    cases hm : M j with
    | false => rfl
    | true => rw [hm] at h3; simp [this] at h3
theorem tr_g1 {M : Nat → Bool} {f : Nat → Int64} {sm : Int64} {lo : Option Nat} (hT : TR M f sm lo) (c : ¬ sm = 0) : ∃ h z, lst1 (gb sm) 64 = some h ∧ h < 64 ∧ z < 64 ∧ lst1 (gb (f h)) 64 = some z ∧ lst1 M 4096 = some (h * 64 + z) := by
  cases h1 : lst1 (gb sm) 64 with
  | none =>
    obtain ⟨y, a, b⟩ := gb_some c
    rw [lst1_none.mp h1 y a] at b; cases b
  | some h =>
    obtain ⟨a, b, d⟩ := lst1_some h1
    obtain ⟨z, z1, z2, z3, z4⟩ := lst_in (smc_yes hT.2.2 b)
    have e1 := hT.2.1 (h * 64 + z) (by omega)
    rw [z3] at e1
    have e2 : M (h * 64 + z) = true := by
      cases hm : M (h * 64 + z) with
      | true => rfl
      | false => rw [hm] at e1; simp at e1
    refine ⟨h, z, rfl, a, z2, z1, lst1_of (by omega) e2 fun j h2 h3 => bn fun hm => ?_⟩
    obtain ⟨y, y1, y2, y3, y4, y5⟩ := tr_lo hT (show h * 64 + z < 4096 by omega) e2
    have e3 := tr_in hT y1 h3
    have : ¬ j = y := by omega
    rw [hm] at e3
    simp only [this, ne_eq, not_false_eq_true, decide_true, Bool.and_self] at e3
    by_cases e : j / 64 = h
    · have h4 := z4 (j % 64) (by omega) (by omega)
      rw [show h * 64 + j % 64 = j by omega, e3] at h4; cases h4
    · have h4 := smc_no hT.2.2 (show j / 64 < 64 by omega) (d _ (by omega) (by omega)) (Nat.mod_lt j (show 0 < 64 by decide))
      rw [show j / 64 * 64 + j % 64 = j by omega, e3] at h4; cases h4
def goes (w : Int64) (l : Nat) : Bool := decide (fb_ct (gb w) (l + 1) < fb_ct (gb w) 64)
theorem ct_ex {q : Nat → Bool} {a b : Nat} (hab : a ≤ b) : fb_ct q a < fb_ct q b ↔ ∃ i, a ≤ i ∧ i < b ∧ q i = true := by
  obtain ⟨m, rfl⟩ : ∃ m, b = a + m := ⟨b - a, by omega⟩
  rw [fb_ct_split]
  constructor
  · intro h
    obtain ⟨k, h1, h2⟩ := fb_ct_pos.mp (show 0 < fb_ct (fun k => q (a + k)) m by omega)
    exact ⟨a + k, by omega, by omega, h2⟩
  · rintro ⟨i, h1, h2, h3⟩
    have := fb_ct_pos.mpr (show ∃ k, k < m ∧ (fun k => q (a + k)) k = true from ⟨i - a, by omega, by show q (a + (i - a)) = true; rw [show a + (i - a) = i by omega]; exact h3⟩)
    omega
theorem goes_n {w : Int64} (h : lst1 (gb w) 64 = none) (l : Nat) (hl : l < 64) : goes w l = false := by
  unfold goes
  refine decide_eq_false fun q => ?_
  obtain ⟨i, h1, h2, h3⟩ := (ct_ex (by omega)).mp q
  rw [lst1_none.mp h i h2] at h3; cases h3
theorem goes_s {w : Int64} {z : Nat} (h : lst1 (gb w) 64 = some z) (l : Nat) (hl : l < 64) : goes w l = decide (l < z) := by
  obtain ⟨a, b, c⟩ := lst1_some h
  unfold goes
  by_cases e : l < z
  · rw [decide_eq_true e]
    exact decide_eq_true ((ct_ex (by omega)).mpr ⟨z, by omega, a, b⟩)
  · rw [decide_eq_false e]
    refine decide_eq_false fun q => ?_
    obtain ⟨i, h1, h2, h3⟩ := (ct_ex (by omega)).mp q
    rw [c i (by omega) h2] at h3; cases h3
theorem nxt1_some {q : Nat → Bool} {k n z : Nat} (h : nxt1 q k n = some z) : z < n ∧ k < z ∧ q z = true ∧ ∀ j, k < j → j < z → q j = false := by
  obtain ⟨a, b, c⟩ := fst1_some h
  simp only [Bool.and_eq_true, decide_eq_true_eq] at b
  refine ⟨a, b.1, b.2, fun j h1 h2 => ?_⟩
  have := c j h2
  simpa [h1] using this
theorem nxt1_none {q : Nat → Bool} {k n : Nat} (h : nxt1 q k n = none) : ∀ j, k < j → j < n → q j = false := fun j h1 h2 => by
  have := fst1_none.mp h j h2
  simpa [h1] using this
theorem nxt1_of {q : Nat → Bool} {k n z : Nat} (h1 : z < n) (h2 : k < z) (h3 : q z = true) (h4 : ∀ j, k < j → j < z → q j = false) : nxt1 q k n = some z :=
  fst1_of h1 (by simp [h2, h3]) fun j hj => by
    by_cases e : k < j
    · simp [h4 j e hj]
    · simp [e]
theorem nxt1_no {q : Nat → Bool} {k n : Nat} (h : ∀ j, k < j → j < n → q j = false) : nxt1 q k n = none := fst1_none.mpr fun j hj => by
  by_cases e : k < j
  · simp [h j e hj]
  · simp [e]
theorem nx_0 {M : Nat → Bool} {k : Nat} (h : lst1 M 4096 = none) : (-1 : Int32) = oI (nxt1 M k 4096) := by
  rw [nxt1_no fun j _ h2 => lst1_none.mp h j h2]; rfl
theorem nx_ge {M : Nat → Bool} {k g : Nat} (h : lst1 M 4096 = some g) (c : ¬ k < g) : (-1 : Int32) = oI (nxt1 M k 4096) := by
  obtain ⟨-, -, d⟩ := lst1_some h
  rw [nxt1_no fun j h1 h2 => d j (by omega) h2]; rfl
theorem nx_lt {M : Nat → Bool} {k z : Nat} (h0 : z < 4096) (h1 : M z = true) (h2 : ∀ j, j < z → M j = false) (c : k < z) : nI z = oI (nxt1 M k 4096) := by
  rw [nxt1_of h0 c h1 fun j _ h => h2 j h]; rfl
theorem tr_a1 {M : Nat → Bool} {f : Nat → Int64} {sm : Int64} {lo : Option Nat} (hT : TR M f sm lo) {k z : Nat} (hk : k < 4096) (hz : lo = some z) (c : z ≤ k) (hg : goes (f (k / 64)) (k % 64) = true) : ∃ y, y < 64 ∧ nxt1 (gb (f (k / 64))) (k % 64) 64 = some y ∧ nxt1 M k 4096 = some (k / 64 * 64 + y) := by
  unfold goes at hg
  obtain ⟨i, h1, h2, h3⟩ := (ct_ex (by omega)).mp (of_decide_eq_true hg)
  cases h4 : nxt1 (gb (f (k / 64))) (k % 64) 64 with
  | none => rw [nxt1_none h4 i (by omega) h2] at h3; cases h3
  | some y =>
    obtain ⟨a, b, d, e⟩ := nxt1_some h4
    refine ⟨y, a, rfl, ?_⟩
    rw [gb_at f (k / 64) y a, tr_in hT hz (by omega), Bool.and_eq_true] at d
    refine nxt1_of (by omega) (by omega) d.1 fun j h5 h6 => ?_
    have h7 := e (j % 64) (by omega) (by omega)
    rw [gb_at f (k / 64) (j % 64) (by omega), show k / 64 * 64 + j % 64 = j by omega, tr_in hT hz (by omega)] at h7
    have : ¬ j = z := by omega
    simpa [this] using h7
theorem tr_a2 {M : Nat → Bool} {f : Nat → Int64} {sm : Int64} {lo : Option Nat} (hT : TR M f sm lo) {k z g : Nat} (hk : k < 4096) (hz : lo = some z) (c : z ≤ k) (hgr : lst1 M 4096 = some g) (c2 : k < g) (hg : goes (f (k / 64)) (k % 64) = false) : ∃ h y, nxt1 (gb sm) (k / 64) 64 = some h ∧ h < 64 ∧ y < 64 ∧ fst1 (gb (f h)) 64 = some y ∧ nxt1 M k 4096 = some (h * 64 + y) := by
  obtain ⟨g1, g2, -⟩ := lst1_some hgr
  have hno : ∀ j, k < j → j / 64 = k / 64 → bo f j = false := fun j h1 h2 => bn fun h3 => by
    unfold goes at hg
    refine of_decide_eq_false hg ((ct_ex (by omega)).mpr ⟨j % 64, by omega, by omega, ?_⟩)
    unfold bo at h3; rw [h2] at h3; exact h3
  have hgb : bo f g = true := by
    rw [tr_in hT hz g1, g2]; simp; omega
  have hs := smc_bo hT.2.2 g1 hgb
  have hne : ¬ g / 64 = k / 64 := fun q => by rw [hno g c2 q] at hgb; cases hgb
  cases h4 : nxt1 (gb sm) (k / 64) 64 with
  | none => rw [nxt1_none h4 (g / 64) (by omega) (by omega)] at hs; cases hs
  | some h =>
    obtain ⟨a, b, d, e⟩ := nxt1_some h4
    obtain ⟨y, y1, y2, y3, y4⟩ := fst_in (smc_yes hT.2.2 d)
    refine ⟨h, y, rfl, a, y2, y1, ?_⟩
    rw [tr_in hT hz (by omega), Bool.and_eq_true] at y3
    refine nxt1_of (by omega) (by omega) y3.1 fun j h5 h6 => ?_
    have h7 : bo f j = false := by
      by_cases q : j / 64 = k / 64
      · exact hno j h5 q
      · by_cases q2 : j / 64 = h
        · have := y4 (j % 64) (by omega)
          rwa [show h * 64 + j % 64 = j by omega] at this
        · have := smc_no hT.2.2 (show j / 64 < 64 by omega) (e (j / 64) (by omega) (by omega)) (Nat.mod_lt j (show 0 < 64 by decide))
          rwa [show j / 64 * 64 + j % 64 = j by omega] at this
    rw [tr_in hT hz (by omega)] at h7
    have : ¬ j = z := by omega
    simpa [this] using h7
theorem pr_0 {M : Nat → Bool} {k : Nat} (hk : k < 4096) (h : ∀ x, x < 4096 → M x = false) : (-1 : Int32) = oI (lst1 M k) := by
  rw [lst1_none.mpr fun j hj => h j (by omega)]; rfl
theorem pr_le {M : Nat → Bool} {k z : Nat} (h2 : ∀ j, j < z → M j = false) (c : k ≤ z) : (-1 : Int32) = oI (lst1 M k) := by
  rw [lst1_none.mpr fun j hj => h2 j (by omega)]; rfl
theorem tr_b1 {M : Nat → Bool} {f : Nat → Int64} {sm : Int64} {lo : Option Nat} (hT : TR M f sm lo) {k z y : Nat} (hk : k < 4096) (hz : lo = some z) (hy : lst1 (gb (f (k / 64))) (k % 64) = some y) : lst1 M k = some (k / 64 * 64 + y) := by
  obtain ⟨a, b, c⟩ := lst1_some hy
  rw [gb_at f (k / 64) y (by omega), tr_in hT hz (by omega), Bool.and_eq_true] at b
  obtain ⟨z1, z2, z3⟩ := tr_some hT hz
  refine lst1_of (by omega) b.1 fun j h1 h2 => ?_
  have h3 := c (j % 64) (by omega) (by omega)
  rw [gb_at f (k / 64) (j % 64) (by omega), show k / 64 * 64 + j % 64 = j by omega, tr_in hT hz (by omega)] at h3
  by_cases e : j = z
  · subst e
    have := z3 (k / 64 * 64 + y) h1
    rw [this] at b; cases b.1
  · simpa [e] using h3
theorem tr_b2 {M : Nat → Bool} {f : Nat → Int64} {sm : Int64} {lo : Option Nat} (hT : TR M f sm lo) {k z : Nat} (hk : k < 4096) (hz : lo = some z) (c : z < k) (hy : lst1 (gb (f (k / 64))) (k % 64) = none) (hs : lst1 (gb sm) (k / 64) = none) : lst1 M k = some z := by
  obtain ⟨z1, z2, z3⟩ := tr_some hT hz
  refine lst1_of c z2 fun j h1 h2 => ?_
  have h3 : bo f j = false := by
    by_cases e : j / 64 = k / 64
    · have := lst1_none.mp hy (j % 64) (by omega)
      rwa [gb_at f (k / 64) (j % 64) (by omega), show k / 64 * 64 + j % 64 = j by omega] at this
    · have := smc_no hT.2.2 (show j / 64 < 64 by omega) (lst1_none.mp hs (j / 64) (by omega)) (Nat.mod_lt j (show 0 < 64 by decide))
      rwa [show j / 64 * 64 + j % 64 = j by omega] at this
  rw [tr_in hT hz (by omega)] at h3
  have : ¬ j = z := by omega
  simpa [this] using h3
theorem tr_b3 {M : Nat → Bool} {f : Nat → Int64} {sm : Int64} {lo : Option Nat} (hT : TR M f sm lo) {k z h : Nat} (hk : k < 4096) (hz : lo = some z) (hy : lst1 (gb (f (k / 64))) (k % 64) = none) (hs : lst1 (gb sm) (k / 64) = some h) : h < 64 ∧ ∃ y, y < 64 ∧ lst1 (gb (f h)) 64 = some y ∧ lst1 M k = some (h * 64 + y) := by
  obtain ⟨a, b, c⟩ := lst1_some hs
  obtain ⟨z1, z2, z3⟩ := tr_some hT hz
  obtain ⟨y, y1, y2, y3, y4⟩ := lst_in (smc_yes hT.2.2 b)
  rw [tr_in hT hz (by omega), Bool.and_eq_true] at y3
  refine ⟨by omega, y, y2, y1, lst1_of (by omega) y3.1 fun j h1 h2 => ?_⟩
  by_cases e0 : j = z
  · subst e0
    have := z3 (h * 64 + y) h1
    rw [this] at y3; cases y3.1
  have h3 : bo f j = false := by
    by_cases e : j / 64 = k / 64
    · have := lst1_none.mp hy (j % 64) (by omega)
      rwa [gb_at f (k / 64) (j % 64) (by omega), show k / 64 * 64 + j % 64 = j by omega] at this
    · by_cases e2 : j / 64 = h
      · have := y4 (j % 64) (by omega) (by omega)
        rwa [show h * 64 + j % 64 = j by omega] at this
      · have := smc_no hT.2.2 (show j / 64 < 64 by omega) (c (j / 64) (by omega) (by omega)) (Nat.mod_lt j (show 0 < 64 by decide))
        rwa [show j / 64 * 64 + j % 64 = j by omega] at this
  rw [tr_in hT hz (by omega)] at h3
  simpa [e0] using h3
/-! the words out of the members -/
def mkW (q : Nat → Bool) : Nat → Int64
  | 0 => 0
  | n + 1 => mkW q n ||| (if q n = true then bit1 n else 0)
theorem gb_mkW (q : Nat → Bool) : ∀ n, n ≤ 64 → ∀ i, gb (mkW q n) i = (decide (i < n) && q i)
  | 0, _, i => by simp [mkW, gb_0]
  | n + 1, h, i => by
    unfold mkW
    rw [gb_or, gb_mkW q n (by omega) i]
    by_cases e : i = n
    · subst e
      by_cases hq : q i = true
      · rw [if_pos hq, gb_bit1 (by omega)]; simp [hq]
      · rw [if_neg hq, gb_0]; simp [bn hq]
    · have e2 : decide (i < n + 1) = decide (i < n) := by
        by_cases h2 : i < n
        · simp [h2]; omega
        · have : ¬ i < n + 1 := by omega
          simp [h2, this]
      have e3 : ¬ n = i := fun z => e z.symm
      rw [e2]
      by_cases hq : q n = true
      · rw [if_pos hq, gb_bit1 (by omega)]; simp [e3]
      · rw [if_neg hq, gb_0]; simp
theorem mkW_of {w : Int64} {q : Nat → Bool} (h : ∀ i, i < 64 → gb w i = q i) : w = mkW q 64 := gb_ext fun i hi => by
  rw [gb_mkW q 64 (Nat.le_refl _), h i hi]; simp [hi]
theorem mkW_cong {p q : Nat → Bool} (h : ∀ i, i < 64 → p i = q i) : mkW p 64 = mkW q 64 := mkW_of fun i hi => by
  rw [gb_mkW p 64 (Nat.le_refl _), ← h i hi]; simp [hi]
def clw (M : Nat → Bool) (h : Nat) : Int64 := mkW (fun l => M (64 * h + l) && decide (fst1 M 4096 ≠ some (64 * h + l))) 64
def smw (M : Nat → Bool) : Int64 := mkW (fun h => decide (¬ clw M h = 0)) 64
theorem tr_clw {M : Nat → Bool} {f : Nat → Int64} {sm : Int64} {lo : Option Nat} (hT : TR M f sm lo) {h : Nat} (hh : h < 64) : f h = clw M h := mkW_of fun i hi => by
  rw [← bo_at f hi, hT.2.1 _ (by omega), hT.1]
theorem tr_smw {M : Nat → Bool} {f : Nat → Int64} {sm : Int64} {lo : Option Nat} (hT : TR M f sm lo) : sm = smw M := mkW_of fun i hi => by
  rw [hT.2.2 i hi, tr_clw hT hi]
def stp (M : Nat → Bool) (k : Nat) : Nat := if fb_ct M (k + 1) = 0 ∨ fb_ct M (k + 1) = fb_ct M 4096 then 1 else 1 + (if goes (clw M (k / 64)) (k % 64) = true then slen (gb (clw M (k / 64))) (k % 64) 64 else slen (gb (smw M)) (k / 64) 64)
theorem stp_0 {M : Nat → Bool} {k : Nat} (hk : k < 4096) (h : lst1 M 4096 = none) : stp M k = 1 := by
  unfold stp
  rw [if_pos (Or.inl (fb_ct_zero.mpr fun j hj => lst1_none.mp h j (by omega)))]
theorem stp_ge {M : Nat → Bool} {k g : Nat} (hk : k < 4096) (h : lst1 M 4096 = some g) (c : g ≤ k) : stp M k = 1 := by
  obtain ⟨-, -, d⟩ := lst1_some h
  unfold stp
  refine if_pos (Or.inr ?_)
  rcases Nat.lt_or_ge (fb_ct M (k + 1)) (fb_ct M 4096) with q | q
  · obtain ⟨i, h1, h2, h3⟩ := (ct_ex (by omega)).mp q
    rw [d i (by omega) h2] at h3; cases h3
  · have := fb_ct_mono M (show k + 1 ≤ 4096 by omega)
    omega
theorem stp_lt {M : Nat → Bool} {k z : Nat} (h2 : ∀ j, j < z → M j = false) (c : k < z) : stp M k = 1 := by
  unfold stp
  rw [if_pos (Or.inl (fb_ct_zero.mpr fun j hj => h2 j (by omega)))]
theorem stp_in {M : Nat → Bool} {k z g : Nat} (hz : M z = true) (c : z ≤ k) (h : lst1 M 4096 = some g) (c2 : k < g) : stp M k = 1 + (if goes (clw M (k / 64)) (k % 64) = true then slen (gb (clw M (k / 64))) (k % 64) 64 else slen (gb (smw M)) (k / 64) 64) := by
  obtain ⟨a, b, -⟩ := lst1_some h
  have h1 : 0 < fb_ct M (k + 1) := fb_ct_pos.mpr ⟨z, by omega, hz⟩
  have h3 := (ct_ex (q := M) (show k + 1 ≤ 4096 by omega)).mpr ⟨g, by omega, a, b⟩
  unfold stp
  rw [if_neg (by omega)]
def sm1 (f : Nat → Nat) : Nat → Nat
  | 0 => 0
  | n + 1 => sm1 f n + f n
theorem sm1_cong {f g : Nat → Nat} : ∀ {n : Nat}, (∀ k, k < n → f k = g k) → sm1 f n = sm1 g n
  | 0, _ => rfl
  | n + 1, h => by show sm1 f n + f n = sm1 g n + g n; rw [sm1_cong fun k hk => h k (by omega), h n (by omega)]
def trs (M : Nat → Bool) : Nat := if fst1 M 4096 = none then 0 else 1 + tcw (smw M) + sm1 (fun h => tcw (clw M h)) 64
/-! changes -/
theorem fst_ins {M : Nat → Bool} {k : Nat} (hk : k < 4096) : fst1 (ins M k) 4096 = match fst1 M 4096 with
    | none => some k
    | some z => some (min z k) := by
  cases h : fst1 M 4096 with
  | none =>
    refine fst1_of hk (by simp [ins]) fun j hj => ?_
    have : ¬ j = k := by omega
    simp [ins, this, fst1_none.mp h j (by omega)]
  | some z =>
    obtain ⟨a, b, c⟩ := fst1_some h
    refine fst1_of (by omega) ?_ fun j hj => ?_
    · rcases Nat.le_total z k with q | q
      · rw [Nat.min_eq_left q]; simp [ins, b]
      · rw [Nat.min_eq_right q]; simp [ins]
    · have : ¬ j = k := by omega
      simp [ins, this, c j (by omega)]
theorem tr_put0 {M : Nat → Bool} {f : Nat → Int64} {sm : Int64} {lo : Option Nat} {k : Nat} (hT : TR M f sm lo) (hk : k < 4096) (h : lo = none) : TR (ins M k) f sm (some k) := by
  have h0 := tr_none hT h
  refine ⟨?_, fun x hx => ?_, hT.2.2⟩
  · rw [fst_ins hk, ← hT.1, h]
  · rw [hT.2.1 x hx, h0 x hx]
    by_cases e : x = k
    · subst e; simp
    · have : ¬ k = x := fun z => e z.symm
      simp [ins, e, h0 x hx]
theorem or_ne {w : Int64} {j : Nat} (hj : j < 64) : ¬ w ||| bit1 j = 0 := fun h => by
  have := gb_zero.mp h j hj
  rw [gb_or, gb_bit1 hj] at this
  simp at this
theorem tr_put1 {M : Nat → Bool} {f f' : Nat → Int64} {sm sm' : Int64} {lo : Option Nat} {k z : Nat} (hT : TR M f sm lo) (hk : k < 4096) (hM : M k = false) (h : lo = some z) (hf : f' = vp_updL f (max z k / 64) (f (max z k / 64) ||| bit1 (max z k % 64 % 64))) (hs : ∀ i, i < 64 → gb sm' i = (if i = max z k / 64 then decide (¬ (f (max z k / 64) ||| bit1 (max z k % 64 % 64)) = 0) else gb sm i)) : TR (ins M k) f' sm' (some (min z k)) := by
  obtain ⟨z1, z2, z3⟩ := tr_some hT h
  have hne : ¬ z = k := fun q => by rw [q, hM] at z2; cases z2
  refine ⟨?_, fun x hx => ?_, ?_⟩
  · rw [fst_ins hk, ← hT.1, h]
  · rw [hf, Nat.mod_mod, bo_put, tr_in hT h hx]
    rcases Nat.lt_or_ge z k with q | q
    · rw [Nat.max_eq_right (by omega), Nat.min_eq_left (by omega)]
      by_cases e : x = k
      · subst e; simp [ins]; exact fun w => hne w
      · by_cases e2 : x = z
        · subst e2; simp [e]
        · have e3 : ¬ z = x := fun w => e2 w.symm
          simp [ins, e, e2, e3]
    · rw [Nat.max_eq_left (by omega), Nat.min_eq_right (by omega)]
      by_cases e : x = k
      · subst e
        have : ¬ x = z := fun w => hne w.symm
        simp [this, hM]
      · have e4 : ¬ k = x := fun w => e w.symm
        by_cases e2 : x = z
        · subst e2; simp [ins, z2, e4]
        · simp [ins, e, e2, e4]
  · rw [hf]; exact smc_set hT.2.2 hs
theorem smc_rem {f : Nat → Int64} {sm sm' : Int64} {y : Nat} (h : SMc f sm) (hs : ∀ i, i < 64 → gb sm' i = (if i = y / 64 then decide (¬ (f (y / 64) &&& (bit1 (y % 64 % 64) ^^^ (-1 : Int64))) = 0) else gb sm i)) : SMc (vp_updL f (y / 64) (f (y / 64) &&& (bit1 (y % 64 % 64) ^^^ (-1 : Int64)))) sm' := smc_set h hs
theorem bo_rem (f : Nat → Int64) (y x : Nat) : bo (vp_updL f (y / 64) (f (y / 64) &&& (bit1 (y % 64 % 64) ^^^ (-1 : Int64)))) x = (decide (x ≠ y) && bo f x) := by rw [Nat.mod_mod]; exact bo_take f y x
theorem tr_tk1 {M : Nat → Bool} {f : Nat → Int64} {sm : Int64} {lo : Option Nat} {k z : Nat} (hT : TR M f sm lo) (h : lo = some z) (e : k = z) (hn : fst1 (bo f) 4096 = none) : TR (del M k) f sm none := by
  subst e
  have h0 := fst1_none.mp hn
  have h1 : ∀ x, x < 4096 → del M k x = false := fun x hx => by
    have := tr_in hT h hx
    rw [h0 x hx] at this
    unfold del; rw [Bool.and_comm]; exact this.symm
  exact ⟨(fst1_none.mpr h1).symm, fun x hx => by rw [h0 x hx, h1 x hx]; rfl, hT.2.2⟩
theorem tr_tk2 {M : Nat → Bool} {f f' : Nat → Int64} {sm sm' : Int64} {lo : Option Nat} {k z y : Nat} (hT : TR M f sm lo) (h : lo = some z) (e : k = z) (hn : fst1 (bo f) 4096 = some y) (hf : f' = vp_updL f (y / 64) (f (y / 64) &&& (bit1 (y % 64 % 64) ^^^ (-1 : Int64)))) (hs : ∀ i, i < 64 → gb sm' i = (if i = y / 64 then decide (¬ (f (y / 64) &&& (bit1 (y % 64 % 64) ^^^ (-1 : Int64))) = 0) else gb sm i)) : TR (del M k) f' sm' (some y) := by
  subst e
  obtain ⟨a, b, c⟩ := fst1_some hn
  have hd : ∀ x, x < 4096 → del M k x = bo f x := fun x hx => by
    rw [tr_in hT h hx]; unfold del; rw [Bool.and_comm]
  refine ⟨(fst1_of a (by rw [hd y a]; exact b) fun j hj => by rw [hd j (by omega)]; exact c j hj).symm, fun x hx => ?_, by rw [hf]; exact smc_rem hT.2.2 hs⟩
  rw [hf, bo_rem, hd x hx]
  by_cases e : x = y
  · subst e; simp
  · have : ¬ y = x := fun w => e w.symm
    simp [e, this]
theorem tr_tk3 {M : Nat → Bool} {f f' : Nat → Int64} {sm sm' : Int64} {lo : Option Nat} {k z : Nat} (hT : TR M f sm lo) (h : lo = some z) (e : ¬ k = z) (hf : f' = vp_updL f (k / 64) (f (k / 64) &&& (bit1 (k % 64 % 64) ^^^ (-1 : Int64)))) (hs : ∀ i, i < 64 → gb sm' i = (if i = k / 64 then decide (¬ (f (k / 64) &&& (bit1 (k % 64 % 64) ^^^ (-1 : Int64))) = 0) else gb sm i)) : TR (del M k) f' sm' (some z) := by
  obtain ⟨z1, z2, z3⟩ := tr_some hT h
  have e' : ¬ z = k := fun w => e w.symm
  refine ⟨(fst1_of z1 (by simp [del, z2, e']) fun j hj => by simp [del, z3 j hj]).symm, fun x hx => ?_, by rw [hf]; exact smc_rem hT.2.2 hs⟩
  rw [hf, bo_rem, tr_in hT h hx]
  by_cases e1 : x = k
  · subst e1; simp [del]
  · by_cases e2 : x = z
    · subst e2; simp [del]
    · have : ¬ z = x := fun w => e2 w.symm
      simp [del, e1, e2, this]
theorem tr_wipe {f : Nat → Int64} (h : ∀ j, j < 64 → f j = 0) : TR (fun _ => false) f 0 none := by
  refine ⟨(fst1_none.mpr fun _ _ => rfl).symm, fun x hx => ?_, fun i hi => ?_⟩
  · unfold bo; rw [h (x / 64) (by omega), gb_0]; rfl
  · rw [gb_0, h i hi]; simp
theorem tr_cong {M N : Nat → Bool} {f : Nat → Int64} {sm : Int64} {lo : Option Nat} (hT : TR M f sm lo) (h : ∀ x, x < 4096 → M x = N x) : TR N f sm lo :=
  ⟨hT.1.trans (fst1_cong h), fun x hx => by rw [hT.2.1 x hx, h x hx], hT.2.2⟩
