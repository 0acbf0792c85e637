/-! ===== the reference's last public methods ===== -/
theorem fst_c0 {M : Nat → Bool} (h : fb_ct M 4096 = 0) : fst1 M 4096 = none := fst1_none.mpr fun j hj => fb_ct_zero.mp h j hj
theorem fst_c1 {M : Nat → Bool} (h : ¬ fb_ct M 4096 = 0) : ¬ fst1 M 4096 = none := ct_pos_fst.mp (by omega)
theorem trs_0 {M : Nat → Bool} (h : fb_ct M 4096 = 0) : trs M = 0 := if_pos (fst_c0 h)
theorem trs_1 {M : Nat → Bool} (h : ¬ fb_ct M 4096 = 0) : trs M = 1 + tcw (smw M) + sm1 (fun h => tcw (clw M h)) 64 := if_neg (fst_c1 h)
theorem sr_0 {M : Nat → Bool} {x : Nat} (h : fb_ct M 4096 = 0) : srch M x = (none, 0) := if_pos (fst_c0 h)
theorem sr_1 {M : Nat → Bool} {x : Nat} (h : ¬ fb_ct M 4096 = 0) : nI (((bs (pat M x) 13 0 13 0).1 + 100 * (bs (pat M x) 13 0 13 0).2) % 100) = oI (srch M x).1 ∧ nI (((bs (pat M x) 13 0 13 0).1 + 100 * (bs (pat M x) 13 0 13 0).2) / 100) = nI (srch M x).2 := by
  have h1 := (bs_le (pat M x) 13 0 13 0 (by decide) (by decide)).1
  have h2 : srch M x = (some (bs (pat M x) 13 0 13 0).1, (bs (pat M x) 13 0 13 0).2) := if_neg (fst_c1 h)
  rw [h2, (mod_100 h1).1, (mod_100 h1).2]
  exact ⟨rfl, rfl⟩
theorem stp_abv {M : Nat → Bool} {x : Nat} (h : x < abv M 0) : stp M x = 1 := by
  have h1 := abv_le M 0
  refine stp_lt (z := abv M 0) (fun j hj => ?_) h
  rcases abv_or M 0 with ⟨a, b⟩ | ⟨-, -, -, b⟩
  · exact b j (Nat.zero_le _) (by omega)
  · exact b j (Nat.zero_le _) hj
theorem abv_tt {M : Nat → Bool} {x : Nat} (hx : x < 4096) (h : ¬ x < abv M 0) : M (abv M 0) = true := by
  rcases abv_or M 0 with ⟨a, b⟩ | ⟨-, -, b, -⟩
  · omega
  · exact b
theorem stp_t {M : Nat → Bool} {x g z : Nat} (hx : x < 4096) (h : ¬ x < abv M 0) (hg : lst1 M 4096 = some g) (c : ¬ g ≤ x) (hz : lst1 (gb (clw M (x / 64))) 64 = some z) (c2 : x % 64 < z) : stp M x = 1 + slen (gb (clw M (x / 64))) (x % 64) 64 := by
  rw [stp_in (abv_tt hx h) (by omega) hg (by omega), if_pos (by rw [goes_s hz _ (by omega)]; exact decide_eq_true c2)]
theorem stp_f1 {M : Nat → Bool} {x g z : Nat} (hx : x < 4096) (h : ¬ x < abv M 0) (hg : lst1 M 4096 = some g) (c : ¬ g ≤ x) (hz : lst1 (gb (clw M (x / 64))) 64 = some z) (c2 : ¬ x % 64 < z) : stp M x = 1 + slen (gb (smw M)) (x / 64) 64 := by
  rw [stp_in (abv_tt hx h) (by omega) hg (by omega), if_neg (by rw [goes_s hz _ (by omega), decide_eq_false c2]; decide)]
theorem stp_f2 {M : Nat → Bool} {x g : Nat} (hx : x < 4096) (h : ¬ x < abv M 0) (hg : lst1 M 4096 = some g) (c : ¬ g ≤ x) (hz : lst1 (gb (clw M (x / 64))) 64 = none) : stp M x = 1 + slen (gb (smw M)) (x / 64) 64 := by
  rw [stp_in (abv_tt hx h) (by omega) hg (by omega), if_neg (by rw [goes_n hz _ (by omega)]; decide)]
theorem lst_w0 {w : Int64} (h : w = 0) : lst1 (gb w) 64 = none := lst1_none.mpr fun j _ => by rw [h, gb_0]
theorem rngB_c {f s c : Int32} (h1 : decide (nI 0 ≤ f ∧ f ≤ nI 4095) = true) (h2 : decide (nI 1 ≤ s ∧ s ≤ nI 1000) = true) (h3 : decide (nI 1 ≤ c ∧ c ≤ nI 30) = true) (h4 : ¬ nI 4096 ≤ f + (c - nI 1) * s) : rngB f s c = true := by
  unfold rngB inB
  rw [h1, h2, h3]
  exact decide_eq_true (fa_of_nle h4)
theorem rt_1 {M : Nat → Nat → Bool} {q : Nat → Bool} {k x t : Nat} (h : (!upF M k q k x) = true) : t + 1 = t + (if q x = true then 0 else 1) := by
  rw [upF_s] at h
  rw [if_neg fun e => by rw [e] at h; cases h]
theorem rt_0 {M : Nat → Nat → Bool} {q : Nat → Bool} {k x t : Nat} (h : (!upF M k q k x) = false) : t = t + (if q x = true then 0 else 1) := by
  rw [upF_s] at h
  rw [if_pos (by cases e : q x with | true => rfl | false => rw [e] at h; cases h)]
  rfl
theorem rr_sy {M P : Nat → Nat → Bool} {k j t : Nat} {g : Nat → Nat} {fM fS fP fB fM' fS' fP' fB' : Nat → Int32} {t' y : Nat} (hy : g j = y) (hk : k < 3) (hg : y < 4096) (h : PR M P k g j t fM fS fP fB) (hw : MM fM' (upF (upF M k (putsM (M k) g j)) k (ins (upF M k (putsM (M k) g j) k) y)) ∧ MZ fS' (upF (upF M k (putsM (M k) g j)) k (ins (upF M k (putsM (M k) g j) k) y)) ∧ MX fP' fB' (upF (upF P k (putsP (M k) (P k) g j)) k (putP (upF M k (putsM (M k) g j) k) (upF P k (putsP (M k) (P k) g j) k) y))) (ht : t' = t + (if putsM (M k) g j y = true then 0 else 1)) : PR M P k g (j + 1) t' fM' fS' fP' fB' := by
  subst hy
  exact rr_s hk hg h hw ht
theorem rr_a {M P : Nat → Nat → Bool} {k o i t : Nat} {fM fS fP fB fM' fS' fP' fB' : Nat → Int32} {t' : Nat} (hk : k < 3) (hi : i < 4096) (hm : M o i = true) (h : PR M P k (fun j => sp (M o) j) (fb_ct (M o) i) t fM fS fP fB) (hw : MM fM' (upF (upF M k (putsM (M k) (fun j => sp (M o) j) (fb_ct (M o) i))) k (ins (upF M k (putsM (M k) (fun j => sp (M o) j) (fb_ct (M o) i)) k) i)) ∧ MZ fS' (upF (upF M k (putsM (M k) (fun j => sp (M o) j) (fb_ct (M o) i))) k (ins (upF M k (putsM (M k) (fun j => sp (M o) j) (fb_ct (M o) i)) k) i)) ∧ MX fP' fB' (upF (upF P k (putsP (M k) (P k) (fun j => sp (M o) j) (fb_ct (M o) i))) k (putP (upF M k (putsM (M k) (fun j => sp (M o) j) (fb_ct (M o) i)) k) (upF P k (putsP (M k) (P k) (fun j => sp (M o) j) (fb_ct (M o) i)) k) i))) (ht : t' = t + (if putsM (M k) (fun j => sp (M o) j) (fb_ct (M o) i) i = true then 0 else 1)) : PR M P k (fun j => sp (M o) j) (fb_ct (M o) (i + 1)) t' fM' fS' fP' fB' := by
  rw [fb_ct_succ, if_pos hm]
  exact rr_sy (g := fun j => sp (M o) j) (sp_ct hi hm) hk hi h hw ht
theorem rr_n {M P : Nat → Nat → Bool} {k o i t : Nat} {fM fS fP fB : Nat → Int32} (hm : M o i = false) (h : PR M P k (fun j => sp (M o) j) (fb_ct (M o) i) t fM fS fP fB) : PR M P k (fun j => sp (M o) j) (fb_ct (M o) (i + 1)) t fM fS fP fB := by
  rw [fb_ct_succ, if_neg (by rw [hm]; decide)]
  exact h
