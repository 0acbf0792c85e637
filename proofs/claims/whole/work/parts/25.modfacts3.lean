/-! ===== the reference's public methods ===== -/
def inB (v : Int32) (lo hi : Nat) : Bool := decide (nI lo ≤ v ∧ v ≤ nI hi)
theorem inB_t {a lo hi : Nat} (h : lo ≤ a ∧ a ≤ hi) (hh : hi < 2 ^ 31) : inB (nI a) lo hi = true := inr_t h hh
theorem inB_of {v : Int32} {lo hi : Nat} (hlo : lo < 2 ^ 31) (hh : hi < 2 ^ 31) (h : inB v lo hi = true) : ∃ a, lo ≤ a ∧ a ≤ hi ∧ v = nI a := by
  obtain ⟨h1, h2⟩ := of_decide_eq_true h
  have h0 : decide (nI 0 ≤ v ∧ v ≤ nI hi) = true := by
    refine decide_eq_true ⟨?_, h2⟩
    rw [Int32.le_iff_toInt_le, nI_toInt (by decide)]
    rw [Int32.le_iff_toInt_le, nI_toInt hlo] at h1
    omega
  obtain ⟨a, h3, h4⟩ := in_of hh h0
  subst h4
  exact ⟨a, (nI_leI hlo (by omega)).mp h1, h3, rfl⟩
/-- a range that may be put in -/
def rngB (f s c : Int32) : Bool := inB f 0 4095 && inB s 1 1000 && inB c 1 30 && decide (f + (c - nI 1) * s < nI 4096)
theorem rngB_of {f s c : Int32} (h : rngB f s c = true) : ∃ a d n, a < 4096 ∧ (1 ≤ d ∧ d ≤ 1000) ∧ (1 ≤ n ∧ n ≤ 30) ∧ a + (n - 1) * d < 4096 ∧ f = nI a ∧ s = nI d ∧ c = nI n := by
  unfold rngB at h
  rw [Bool.and_eq_true, Bool.and_eq_true, Bool.and_eq_true] at h
  obtain ⟨⟨⟨h1, h2⟩, h3⟩, h4⟩ := h
  obtain ⟨a, a1, a2, rfl⟩ := inB_of (by decide) (by decide) h1
  obtain ⟨d, d1, d2, rfl⟩ := inB_of (by decide) (by decide) h2
  obtain ⟨n, n1, n2, rfl⟩ := inB_of (by decide) (by decide) h3
  have h5 := of_decide_eq_true h4
  have hm : (n - 1) * d ≤ 30 * 1000 := Nat.mul_le_mul (by omega) d2
  rw [pk_sub (by omega), pk_mul, nI_add, nI_ltI (by omega) (by decide)] at h5
  exact ⟨a, d, n, by omega, ⟨d1, d2⟩, ⟨n1, n2⟩, h5, rfl, rfl, rfl⟩
theorem rngB_t {a d n : Nat} (ha : a < 4096) (hd : 1 ≤ d ∧ d ≤ 1000) (hn : 1 ≤ n ∧ n ≤ 30) (hl : a + (n - 1) * d < 4096) : rngB (nI a) (nI d) (nI n) = true := by
  have hm : (n - 1) * d ≤ 30 * 1000 := Nat.mul_le_mul (by omega) hd.2
  unfold rngB
  rw [inB_t ⟨by omega, by omega⟩ (by decide), inB_t hd (by decide), inB_t hn (by decide), pk_sub (by omega), pk_mul, nI_add]
  exact decide_eq_true ((nI_ltI (by omega) (by decide)).mpr hl)
theorem ct_one0 : fb_ct (fun x => decide (x = 0)) 4096 = 1 := by
  have h2 : fb_ct (fun k => decide (1 + k = 0)) 4095 = 0 := fb_ct_zero.mpr fun j _ => decide_eq_false (by omega)
  have h1 := fb_ct_split (fun x => decide (x = 0)) 1 4095
  rw [h2, show 1 + 4095 = 4096 from rfl] at h1
  rw [h1]
  decide
theorem cl_end {fM fS fP fB g : Nat → Int32} {M P : Nat → Nat → Bool} {k : Nat} (hM : MM fM M) (hZ : MZ fS M) (hX : MX fP fB P) (hk : k < 3) (hg : ∀ i, g i = (if 4096 * k ≤ i ∧ i < 4096 * k + 4096 then nI 0 else fM i)) : MM g (upF M k (fun _ => false)) ∧ MZ (upd fS k (nI 0)) (upF M k (fun _ => false)) ∧ MX fP (upd fB k (nI 1)) (upF P k (fun x => decide (x = 0))) := by
  have hc0 := ct_one0
  refine ⟨fun i hi y hy => ?_, mz_set hZ (by rw [fb_ct_zero.mpr fun _ _ => rfl]), fun i hi => ?_⟩
  · rw [hg]
    by_cases e : i = k
    · subst e
      rw [upF_s, if_pos (by omega)]; rfl
    · rw [upF_n _ _ e, if_neg (by omega), hM i hi y hy]
  · obtain ⟨q1, q2, q3, q4⟩ := hX i hi
    by_cases e : i = k
    · subst e
      rw [upF_s, pk_us, hc0]
      refine ⟨rfl, fun b hb => ?_, rfl, by decide⟩
      have hb0 : b = 0 := by omega
      subst hb0
      have h0 := ct_0 q3 4095
      rw [q2 0 h0, sp_0 q3, sp_0 (P := fun x => decide (x = 0)) rfl]
    · rw [upF_n _ _ e, pk_un e]
      exact ⟨q1, q2, q3, q4⟩
theorem cl_step {fM g : Nat → Int32} {k i : Nat} (hi : i < 4096) (hg : ∀ j, g j = (if 4096 * k ≤ j ∧ j < 4096 * k + i then nI 0 else fM j)) : ∀ j, upd g (4096 * k + i) (vp_nar .boolean (nI 0)) j = (if 4096 * k ≤ j ∧ j < 4096 * k + (i + 1) then nI 0 else fM j) := fun j => by
  by_cases e : j = 4096 * k + i
  · subst e
    rw [pk_us, if_pos (by omega)]; rfl
  · rw [pk_un e, hg]
    by_cases e3 : 4096 * k ≤ j ∧ j < 4096 * k + i
    · rw [if_pos e3, if_pos (by omega)]
    · rw [if_neg e3, if_neg (by omega)]
theorem bi_clear : BI (fun _ => false) (fun x => decide (x = 0)) := by
  exact Or.inl ct_one0
