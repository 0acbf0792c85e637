/-! ===== sets and buckets: M the members, P the separators ===== -/
def ins (M : Nat → Bool) (k : Nat) : Nat → Bool := fun x => decide (x = k) || M x
def del (M : Nat → Bool) (k : Nat) : Nat → Bool := fun x => decide (x ≠ k) && M x
/-- the next separator behind a number; 4096 if there is none -/
def nsep (P : Nat → Bool) (s : Nat) : Nat := (kth P (fb_ct P (s + 1)) 4096).getD 4096
def heldc (M P : Nat → Bool) (s : Nat) : Nat := fb_ct M (nsep P s) - fb_ct M s
def spl (M P : Nat → Bool) (s : Nat) : Nat → Bool := fun x => decide (8 < heldc M P s ∧ kth M (fb_ct M s + heldc M P s / 2) 4096 = some x) || P x
/-- the separator of a bucket by its place -/
def sp (P : Nat → Bool) (b : Nat) : Nat := (kth P b 4096).getD 0
def bk (P : Nat → Bool) (k : Nat) : Nat := fb_ct P (k + 1) - 1
def erl (P : Nat → Bool) (b : Nat) : Nat := if b = fb_ct P 4096 - 1 then b - 1 else b
def mrg (M P : Nat → Bool) (b : Nat) : Nat → Bool := if 2 ≤ heldc M P (sp P b) ∨ fb_ct P 4096 = 1 then P else spl M (del P (sp P (erl P b + 1))) (sp (del P (sp P (erl P b + 1))) (erl P b))
theorem kth_lt {q : Nat → Bool} {k n : Nat} (h : k < fb_ct q n) : ∃ z, kth q k n = some z ∧ z < n ∧ q z = true ∧ fb_ct q z = k := by
  cases h1 : kth q k n with
  | none => exact absurd (kth_none.mp h1) (by omega)
  | some z => exact ⟨z, rfl, kth_some h1⟩
theorem sp_lt {P : Nat → Bool} {b : Nat} (h : b < fb_ct P 4096) : kth P b 4096 = some (sp P b) ∧ sp P b < 4096 ∧ P (sp P b) = true ∧ fb_ct P (sp P b) = b := by
  obtain ⟨z, h1, h2, h3, h4⟩ := kth_lt h
  have : sp P b = z := by unfold sp; rw [h1]; rfl
  rw [this]; exact ⟨h1, h2, h3, h4⟩
theorem ct_0 {P : Nat → Bool} (h : P 0 = true) (k : Nat) : 0 < fb_ct P (k + 1) := fb_ct_pos.mpr ⟨0, by omega, h⟩
theorem bk_lt {P : Nat → Bool} (h : P 0 = true) {k : Nat} (hk : k < 4096) : bk P k < fb_ct P 4096 := by
  have h1 := ct_0 h k
  have h2 := fb_ct_mono P (show k + 1 ≤ 4096 by omega)
  unfold bk; omega
theorem nsep_none {P : Nat → Bool} {s : Nat} (h : kth P (fb_ct P (s + 1)) 4096 = none) : nsep P s = 4096 := by unfold nsep; rw [h]; rfl
theorem nsep_some {P : Nat → Bool} {s z : Nat} (h : kth P (fb_ct P (s + 1)) 4096 = some z) : nsep P s = z := by unfold nsep; rw [h]; rfl
theorem nsep_le {P : Nat → Bool} {s : Nat} (hs : s < 4096) : s < nsep P s ∧ nsep P s ≤ 4096 := by
  cases h : kth P (fb_ct P (s + 1)) 4096 with
  | none => rw [nsep_none h]; omega
  | some z =>
    rw [nsep_some h]
    obtain ⟨h1, h2, h3⟩ := kth_some h
    refine ⟨?_, by omega⟩
    rcases Nat.lt_or_ge s z with q | q
    · exact q
    · have h4 := fb_ct_mono P (show z + 1 ≤ s + 1 by omega)
      rw [fb_ct_succ, if_pos h2] at h4
      omega
theorem heldc_b (M P : Nat → Bool) (s : Nat) : heldc M P s ≤ 4096 := by
  have h1 : nsep P s ≤ 4096 := by
    cases h : kth P (fb_ct P (s + 1)) 4096 with
    | none => rw [nsep_none h]; omega
    | some z =>
      rw [nsep_some h]
      have := (kth_some h).1
      omega
  have h2 := fb_ct_le M (nsep P s)
  unfold heldc; omega
theorem heldc_le {M P : Nat → Bool} {s : Nat} (hs : s < 4096) : fb_ct M s + heldc M P s = fb_ct M (nsep P s) ∧ fb_ct M (nsep P s) ≤ fb_ct M 4096 := by
  obtain ⟨h1, h2⟩ := nsep_le (P := P) hs
  have h3 := fb_ct_mono M (show s ≤ nsep P s by omega)
  exact ⟨by unfold heldc; omega, fb_ct_mono M h2⟩
theorem spl_kth {M P : Nat → Bool} {s : Nat} (hs : s < 4096) (h : 8 < heldc M P s) : ∃ z, kth M (fb_ct M s + heldc M P s / 2) 4096 = some z ∧ z < 4096 := by
  obtain ⟨h1, h2⟩ := heldc_le (M := M) (P := P) hs
  obtain ⟨z, h3, h4, -⟩ := kth_lt (q := M) (k := fb_ct M s + heldc M P s / 2) (n := 4096) (by omega)
  exact ⟨z, h3, h4⟩
theorem spl_id {M P : Nat → Bool} {s : Nat} (h : ¬ 8 < heldc M P s) (x : Nat) : P x = spl M P s x := by
  unfold spl; simp [h]
theorem spl_at {M P : Nat → Bool} {s z : Nat} (h : 8 < heldc M P s) (hz : kth M (fb_ct M s + heldc M P s / 2) 4096 = some z) (x : Nat) : (decide (x = z) || P x) = spl M P s x := by
  unfold spl
  rw [hz]
  by_cases e : x = z
  · subst e; simp [h]
  · have : ¬ z = x := fun q => e q.symm
    simp [e, this]
theorem erl_lt {P : Nat → Bool} {b : Nat} (hb : b < fb_ct P 4096) (h : ¬ fb_ct P 4096 = 1) : erl P b + 1 < fb_ct P 4096 := by
  unfold erl
  by_cases e : b = fb_ct P 4096 - 1
  · rw [if_pos e]; omega
  · rw [if_neg e]; omega
theorem ct_del {P : Nat → Bool} {z : Nat} (h : P z = true) : ∀ n, fb_ct (del P z) n + (if z < n then 1 else 0) = fb_ct P n
  | 0 => by simp [fb_ct]
  | n + 1 => by
    have ih := ct_del h n
    rw [fb_ct_succ, fb_ct_succ]
    by_cases e : n = z
    · subst e
      rw [if_neg (Nat.lt_irrefl n)] at ih
      have h2 : del P n n = false := by simp [del]
      rw [if_pos (Nat.lt_succ_self n), h2, h, if_pos rfl, if_neg (by decide)]
      omega
    · have h2 : del P z n = P n := by simp [del, e]
      rw [h2]
      by_cases h3 : z < n
      · have h4 : z < n + 1 := by omega
        rw [if_pos h3] at ih
        rw [if_pos h4]; omega
      · have h4 : ¬ z < n + 1 := by omega
        rw [if_neg h3] at ih
        rw [if_neg h4]; omega
theorem ct_del_lt {P : Nat → Bool} {e : Nat} (h : e + 1 < fb_ct P 4096) : e < fb_ct (del P (sp P (e + 1))) 4096 := by
  obtain ⟨-, h2, h3, -⟩ := sp_lt h
  have := ct_del h3 4096
  rw [if_pos h2] at this
  omega
/-- what holds of one row holds of another that agrees with it -/
theorem kth_cong {p q : Nat → Bool} {k n : Nat} (h : ∀ j, j < n → p j = q j) : kth p k n = kth q k n :=
  fst1_cong fun j hj => by rw [h j hj, fb_ct_cong fun i hi => h i (by omega)]
theorem ct4 {p q : Nat → Bool} (h : ∀ x, x < 4096 → p x = q x) {k : Nat} (hk : k ≤ 4096) : fb_ct p k = fb_ct q k := fb_ct_cong fun j hj => h j (by omega)
theorem nsep_cong {p q : Nat → Bool} (h : ∀ x, x < 4096 → p x = q x) {s : Nat} (hs : s < 4096) : nsep p s = nsep q s := by
  unfold nsep; rw [ct4 h (by omega), kth_cong h]
theorem heldc_cong {m m' p q : Nat → Bool} (hm : ∀ x, x < 4096 → m x = m' x) (h : ∀ x, x < 4096 → p x = q x) {s : Nat} (hs : s < 4096) : heldc m p s = heldc m' q s := by
  have := nsep_le (P := q) hs
  unfold heldc; rw [nsep_cong h hs, ct4 hm (by omega), ct4 hm (by omega)]
theorem spl_cong {m m' p q : Nat → Bool} (hm : ∀ x, x < 4096 → m x = m' x) (h : ∀ x, x < 4096 → p x = q x) {s : Nat} (hs : s < 4096) : ∀ x, x < 4096 → spl m p s x = spl m' q s x := fun x hx => by
  unfold spl; rw [heldc_cong hm h hs, ct4 hm (by omega), kth_cong hm, h x hx]
theorem sp_cong {p q : Nat → Bool} (h : ∀ x, x < 4096 → p x = q x) (b : Nat) : sp p b = sp q b := by unfold sp; rw [kth_cong h]
theorem sp_lt' (P : Nat → Bool) (b : Nat) : sp P b < 4096 := by
  unfold sp
  cases h : kth P b 4096 with
  | none => decide
  | some z => exact (kth_some h).1
theorem bk_cong {p q : Nat → Bool} (h : ∀ x, x < 4096 → p x = q x) {k : Nat} (hk : k < 4096) : bk p k = bk q k := by unfold bk; rw [ct4 h (by omega)]
theorem del_cong {p q : Nat → Bool} (h : ∀ x, x < 4096 → p x = q x) (z : Nat) : ∀ x, x < 4096 → del p z x = del q z x := fun x hx => by unfold del; rw [h x hx]
theorem ins_cong {p q : Nat → Bool} (h : ∀ x, x < 4096 → p x = q x) (z : Nat) : ∀ x, x < 4096 → ins p z x = ins q z x := fun x hx => by unfold ins; rw [h x hx]
theorem mrg_cong {m m' p q : Nat → Bool} (hm : ∀ x, x < 4096 → m x = m' x) (h : ∀ x, x < 4096 → p x = q x) (b : Nat) : ∀ x, x < 4096 → mrg m p b x = mrg m' q b x := fun x hx => by
  unfold mrg
  have e1 : erl p b = erl q b := by unfold erl; rw [ct4 h (Nat.le_refl _)]
  rw [heldc_cong hm h (sp_lt' p b), ct4 h (Nat.le_refl _), sp_cong h b, e1, sp_cong h (erl q b + 1)]
  by_cases z : 2 ≤ heldc m' q (sp q b) ∨ fb_ct q 4096 = 1
  · rw [if_pos z, if_pos z]; exact h x hx
  · rw [if_neg z, if_neg z, sp_cong (del_cong h _)]
    exact spl_cong hm (del_cong h _) (sp_lt' _ _) x hx
