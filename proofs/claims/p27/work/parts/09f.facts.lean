def isS (v : Int32) : Bool := decide (nI 0 ≤ v ∧ v ≤ nI 2)
def isN (v : Int32) : Bool := decide (nI 0 ≤ v ∧ v ≤ nI 4095)
theorem inr_t {a lo hi : Nat} (h : lo ≤ a ∧ a ≤ hi) (hh : hi < 2 ^ 31) : decide (nI lo ≤ nI a ∧ nI a ≤ nI hi) = true :=
  decide_eq_true ⟨nI_le h.1 (by omega), nI_le h.2 (by omega)⟩
theorem isS_t {k : Nat} (h : k < 3) : isS (nI k) = true := inr_t (by omega) (by decide)
theorem isN_t {k : Nat} (h : k < 4096) : isN (nI k) = true := inr_t (by omega) (by decide)
theorem in_of {v : Int32} {n : Nat} (hn : n < 2 ^ 31) (h : decide (nI 0 ≤ v ∧ v ≤ nI n) = true) : ∃ k, k ≤ n ∧ v = nI k := by
  obtain ⟨h1, h2⟩ := of_decide_eq_true h
  obtain ⟨j, hj, e⟩ := nI_of (x := v) (fun q => by
    rw [Int32.lt_iff_toInt_lt] at q
    rw [Int32.le_iff_toInt_le, nI_toInt (by decide)] at h1
    have : (0 : Int32).toInt = 0 := by decide
    omega)
  subst e
  exact ⟨j, (nI_leI hj hn).mp h2, rfl⟩
def sepm (P : Nat → Bool) (b : Nat) : Nat := if b = fb_ct P 4096 then 4096 else sp P b
theorem sepm_le (P : Nat → Bool) (b : Nat) : sepm P b ≤ 4096 := by
  unfold sepm
  by_cases e : b = fb_ct P 4096
  · rw [if_pos e]; exact Nat.le_refl _
  · rw [if_neg e]; exact Nat.le_of_lt (sp_lt' P b)
theorem sepm_lt {P : Nat → Bool} {b : Nat} (h : b < fb_ct P 4096) : sepm P b = sp P b := if_neg (by omega)
theorem sp_of {P : Nat → Bool} {b z : Nat} (h1 : z < 4096) (h2 : P z = true) (h3 : fb_ct P z = b) : sp P b = z := by
  unfold sp; rw [kth_of h1 h2 h3]; rfl
theorem sp_0 {P : Nat → Bool} (h : P 0 = true) : sp P 0 = 0 := sp_of (by decide) h rfl
theorem nsep_sp {P : Nat → Bool} {b : Nat} (hb : b < fb_ct P 4096) : nsep P (sp P b) = sepm P (b + 1) := by
  obtain ⟨-, a1, a2, a3⟩ := sp_lt hb
  have e : fb_ct P (sp P b + 1) = b + 1 := by rw [fb_ct_succ, if_pos a2, a3]
  rcases Nat.lt_or_ge (b + 1) (fb_ct P 4096) with q | q
  · rw [sepm_lt q]
    refine nsep_some ?_
    rw [e]; exact (sp_lt q).1
  · have e2 : b + 1 = fb_ct P 4096 := by omega
    unfold sepm
    rw [if_pos e2]
    refine nsep_none ?_
    rw [e]; exact kth_none.mpr q
theorem ct_pos_fst {q : Nat → Bool} : 0 < fb_ct q 4096 ↔ ¬ fst1 q 4096 = none := by
  rw [fst1_none, fb_ct_pos]
  constructor
  · rintro ⟨k, h1, h2⟩ h
    rw [h k h1] at h2; cases h2
  · intro h
    rcases Classical.em (∃ k, k < 4096 ∧ q k = true) with h1 | h1
    · exact h1
    · exact absurd (fun j hj => bn fun z => h1 ⟨j, hj, z⟩) h
def isP (v : Int32) (c : Nat) : Bool := decide (nI 0 ≤ v ∧ v ≤ nI c - nI 1)
/-! ===== the reference's public methods ===== -/
def inB (v : Int32) (lo hi : Nat) : Bool := decide (nI lo ≤ v ∧ v ≤ nI hi)
theorem inB_t {a lo hi : Nat} (h : lo ≤ a ∧ a ≤ hi) (hh : hi < 2 ^ 31) : inB (nI a) lo hi = true := inr_t h hh
/-! ===== the reference's last public methods ===== -/
theorem fst_c0 {M : Nat → Bool} (h : fb_ct M 4096 = 0) : fst1 M 4096 = none := fst1_none.mpr fun j hj => fb_ct_zero.mp h j hj
theorem fst_c1 {M : Nat → Bool} (h : ¬ fb_ct M 4096 = 0) : ¬ fst1 M 4096 = none := ct_pos_fst.mp (by omega)
