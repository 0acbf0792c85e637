/-! ===== the reference: its rows say the members and the separators of three sets ===== -/
def MM (fM : Nat → Int32) (M : Nat → Nat → Bool) : Prop := ∀ k, k < 3 → ∀ x, x < 4096 → fM (4096 * k + x) = b2i (M k x)
def MZ (fS : Nat → Int32) (M : Nat → Nat → Bool) : Prop := ∀ k, k < 3 → fS k = nI (fb_ct (M k) 4096)
def MX (fP fB : Nat → Int32) (P : Nat → Nat → Bool) : Prop := ∀ k, k < 3 → fB k = nI (fb_ct (P k) 4096) ∧ (∀ b, b < fb_ct (P k) 4096 → fP (2052 * k + b) = nI (sp (P k) b)) ∧ P k 0 = true ∧ fb_ct (P k) 4096 ≤ 2050
def upF (F : Nat → Nat → Bool) (k : Nat) (G : Nat → Bool) : Nat → Nat → Bool := fun i => if i = k then G else F i
theorem upF_s (F : Nat → Nat → Bool) (k : Nat) (G : Nat → Bool) : upF F k G k = G := if_pos rfl
theorem upF_n (F : Nat → Nat → Bool) {k i : Nat} (G : Nat → Bool) (h : ¬ i = k) : upF F k G i = F i := if_neg h
theorem upF_id (F : Nat → Nat → Bool) (k : Nat) : upF F k (F k) = F := funext fun i => by
  unfold upF
  by_cases e : i = k
  · rw [if_pos e, e]
  · rw [if_neg e]
theorem upF_2 (F : Nat → Nat → Bool) (k : Nat) (G G' : Nat → Bool) : upF (upF F k G) k G' = upF F k G' := funext fun i => by
  unfold upF
  by_cases e : i = k
  · rw [if_pos e, if_pos e]
  · rw [if_neg e, if_neg e, if_neg e]
def isS (v : Int32) : Bool := decide (nI 0 ≤ v ∧ v ≤ nI 2)
def isN (v : Int32) : Bool := decide (nI 0 ≤ v ∧ v ≤ nI 4095)
theorem inr_t {a lo hi : Nat} (h : lo ≤ a ∧ a ≤ hi) (hh : hi < 2 ^ 31) : decide (nI lo ≤ nI a ∧ nI a ≤ nI hi) = true :=
  decide_eq_true ⟨nI_le h.1 (by omega), nI_le h.2 (by omega)⟩
theorem isS_t {k : Nat} (h : k < 3) : isS (nI k) = true := inr_t (by omega) (by decide)
theorem isN_t {k : Nat} (h : k < 4096) : isN (nI k) = true := inr_t (by omega) (by decide)
theorem in_of {v : Int32} {n : Nat} (hn : n < 2 ^ 31) (h : decide (nI 0 ≤ v ∧ v ≤ nI n) = true) : ∃ k, k ≤ n ∧ v = nI k := by
  obtain ⟨h1, h2⟩ := of_decide_eq_true h
  obtain ⟨j, hj, e⟩ := nI_of (x := v) (fun q => by
    rw [Int32.lt_iff_toInt_lt] at q
    rw [Int32.le_iff_toInt_le, nI_toInt (by decide)] at h1
    have : (0 : Int32).toInt = 0 := by decide
    omega)
  subst e
  exact ⟨j, (nI_leI hj hn).mp h2, rfl⟩
theorem isS_of {v : Int32} (h : isS v = true) : ∃ k, k < 3 ∧ v = nI k := by
  obtain ⟨k, h1, h2⟩ := in_of (by decide) h
  exact ⟨k, by omega, h2⟩
theorem isN_of {v : Int32} (h : isN v = true) : ∃ k, k < 4096 ∧ v = nI k := by
  obtain ⟨k, h1, h2⟩ := in_of (by decide) h
  exact ⟨k, by omega, h2⟩
def thr1 (b : Bool) : Int32 := if b = true then nI 0 else nI 1
def thr2 (is can : Bool) : Int32 := if is = true then (if can = true then nI 0 else nI 2) else nI 1
def sepm (P : Nat → Bool) (b : Nat) : Nat := if b = fb_ct P 4096 then 4096 else sp P b
theorem sepm_le (P : Nat → Bool) (b : Nat) : sepm P b ≤ 4096 := by
  unfold sepm
  by_cases e : b = fb_ct P 4096
  · rw [if_pos e]; exact Nat.le_refl _
  · rw [if_neg e]; exact Nat.le_of_lt (sp_lt' P b)
theorem sepm_lt {P : Nat → Bool} {b : Nat} (h : b < fb_ct P 4096) : sepm P b = sp P b := if_neg (by omega)
theorem sp_of {P : Nat → Bool} {b z : Nat} (h1 : z < 4096) (h2 : P z = true) (h3 : fb_ct P z = b) : sp P b = z := by
  unfold sp; rw [kth_of h1 h2 h3]; rfl
theorem sp_mono {P : Nat → Bool} {i j : Nat} (h : i < j) (hj : j < fb_ct P 4096) : sp P i < sp P j := by
  obtain ⟨-, a1, a2, a3⟩ := sp_lt (show i < fb_ct P 4096 by omega)
  obtain ⟨-, b1, b2, b3⟩ := sp_lt hj
  rcases Nat.lt_or_ge (sp P i) (sp P j) with q | q
  · exact q
  · have := fb_ct_mono P q
    omega
theorem sp_0 {P : Nat → Bool} (h : P 0 = true) : sp P 0 = 0 := sp_of (by decide) h rfl
theorem bk_of {P : Nat → Bool} {b x : Nat} (hb : b < fb_ct P 4096) (h1 : sp P b ≤ x) (h2 : x < sepm P (b + 1)) (hx : x < 4096) : b = bk P x := by
  obtain ⟨-, a1, a2, a3⟩ := sp_lt hb
  have h3 := fb_ct_mono P (show sp P b + 1 ≤ x + 1 by omega)
  rw [fb_ct_succ, if_pos a2, a3] at h3
  have h4 : fb_ct P (x + 1) ≤ b + 1 := by
    rcases Nat.lt_or_ge (b + 1) (fb_ct P 4096) with q | q
    · rw [sepm_lt q] at h2
      have := fb_ct_mono P (show x + 1 ≤ sp P (b + 1) by omega)
      rw [(sp_lt q).2.2.2] at this
      exact this
    · have := fb_ct_mono P (show x + 1 ≤ 4096 by omega)
      omega
  unfold bk; omega
theorem nsep_sp {P : Nat → Bool} {b : Nat} (hb : b < fb_ct P 4096) : nsep P (sp P b) = sepm P (b + 1) := by
  obtain ⟨-, a1, a2, a3⟩ := sp_lt hb
  have e : fb_ct P (sp P b + 1) = b + 1 := by rw [fb_ct_succ, if_pos a2, a3]
  rcases Nat.lt_or_ge (b + 1) (fb_ct P 4096) with q | q
  · rw [sepm_lt q]
    refine nsep_some ?_
    rw [e]; exact (sp_lt q).1
  · have e2 : b + 1 = fb_ct P 4096 := by omega
    unfold sepm
    rw [if_pos e2]
    refine nsep_none ?_
    rw [e]; exact kth_none.mpr q
theorem ct_up {q : Nat → Bool} {t a i : Nat} (h : t + a = fb_ct q i) (c : q i = true) : t + 1 + a = fb_ct q (i + 1) := by
  rw [fb_ct_succ, if_pos c]; omega
theorem ct_un {q : Nat → Bool} {t a i : Nat} (h : t + a = fb_ct q i) (c : q i = false) : t + 0 + a = fb_ct q (i + 1) := by
  rw [fb_ct_succ, if_neg (by rw [c]; decide)]; omega
theorem held_end {M P : Nat → Bool} {b t i : Nat} (hb : b < fb_ct P 4096) (h : t + fb_ct M (sepm P b) = fb_ct M i) (hi : i = sepm P (b + 1)) : t = heldc M P (sp P b) := by
  unfold heldc
  rw [nsep_sp hb, ← hi, ← h, sepm_lt hb]; omega
theorem sp_le_kth {M P : Nat → Bool} {b pl z : Nat} (hz : kth M (fb_ct M (sp P b) + pl) 4096 = some z) : sp P b ≤ z := by
  obtain ⟨h1, h2, h3⟩ := kth_some hz
  rcases Nat.lt_or_ge z (sp P b) with q | q
  · have := fb_ct_mono M (show z + 1 ≤ sp P b by omega)
    rw [fb_ct_succ, if_pos h2] at this
    omega
  · exact q
/-- a separator put in behind a bucket's own -/
theorem ct_insP {P : Nat → Bool} {z : Nat} (h : P z = false) : ∀ n, fb_ct (ins P z) n = fb_ct P n + (if z < n then 1 else 0)
  | 0 => by simp [fb_ct]
  | n + 1 => by
    have ih := ct_insP h n
    rw [fb_ct_succ, fb_ct_succ, ih]
    by_cases e : n = z
    · subst e
      have h2 : ins P n n = true := by simp [ins]
      rw [h2, h, if_neg (Nat.lt_irrefl n), if_pos (Nat.lt_succ_self n), if_pos rfl, if_neg (by decide)]
    · have h2 : ins P z n = P n := by simp [ins, e]
      rw [h2]
      by_cases h3 : z < n
      · have h4 : z < n + 1 := by omega
        rw [if_pos h3, if_pos h4]; omega
      · have h4 : ¬ z < n + 1 := by omega
        rw [if_neg h3, if_neg h4]; omega
theorem nsep_gap {P : Nat → Bool} {s x : Nat} (hs : s < x) (hx : x < nsep P s) (h4 : x < 4096) : P x = false := bn fun q => by
  have h5 := fb_ct_mono P (show s + 1 ≤ x by omega)
  cases h : kth P (fb_ct P (s + 1)) 4096 with
  | none =>
    have h6 := kth_none.mp h
    have h7 := fb_ct_mono P (show x + 1 ≤ 4096 by omega)
    rw [fb_ct_succ, if_pos q] at h7
    omega
  | some z =>
    rw [nsep_some h] at hx
    obtain ⟨a, b, c⟩ := kth_some h
    have h7 := fb_ct_mono P (show x + 1 ≤ z by omega)
    rw [fb_ct_succ, if_pos q] at h7
    omega
theorem spl_ins {M P : Nat → Bool} {s z : Nat} (h : 8 < heldc M P s) (hz : kth M (fb_ct M s + heldc M P s / 2) 4096 = some z) : spl M P s = ins P z := funext fun x => (spl_at h hz x).symm
theorem spl_pos {M P : Nat → Bool} {s z : Nat} (hs : s < 4096) (h : 8 < heldc M P s) (hz : kth M (fb_ct M s + heldc M P s / 2) 4096 = some z) : s < z ∧ z < nsep P s ∧ z < 4096 ∧ P z = false := by
  obtain ⟨a, b, c⟩ := kth_some hz
  obtain ⟨h1, h2⟩ := heldc_le (M := M) (P := P) hs
  have e1 : s < z := by
    rcases Nat.lt_or_ge s z with q | q
    · exact q
    · have := fb_ct_mono M q
      omega
  have e2 : z < nsep P s := by
    rcases Nat.lt_or_ge z (nsep P s) with q | q
    · exact q
    · have := fb_ct_mono M q
      omega
  exact ⟨e1, e2, a, nsep_gap e1 e2 a⟩
theorem sp_ins {P : Nat → Bool} {b z : Nat} (hb : b < fb_ct P 4096) (h1 : sp P b < z) (h2 : z < sepm P (b + 1)) (h4 : z < 4096) (h3 : P z = false) {i : Nat} (hi : i < fb_ct P 4096 + 1) : sp (ins P z) i = if i ≤ b then sp P i else if i = b + 1 then z else sp P (i - 1) := by
  have hc := ct_insP h3
  have hin : ∀ y, P y = true → ins P z y = true := fun y hy => by simp [ins, hy]
  by_cases e : i ≤ b
  · rw [if_pos e]
    obtain ⟨-, a1, a2, a3⟩ := sp_lt (show i < fb_ct P 4096 by omega)
    have h5 : sp P i ≤ sp P b := by
      rcases Nat.lt_or_ge i b with q | q
      · exact Nat.le_of_lt (sp_mono q hb)
      · rw [show i = b by omega]; exact Nat.le_refl _
    exact sp_of a1 (hin _ a2) (by rw [hc, if_neg (by omega), a3]; rfl)
  · rw [if_neg e]
    by_cases e2 : i = b + 1
    · rw [if_pos e2]
      refine sp_of h4 (by simp [ins]) ?_
      rw [hc, if_neg (Nat.lt_irrefl z)]
      obtain ⟨-, a1, a2, a3⟩ := sp_lt hb
      have h5 := fb_ct_mono P (show sp P b + 1 ≤ z by omega)
      rw [fb_ct_succ, if_pos a2, a3] at h5
      have h6 : fb_ct P z ≤ b + 1 := by
        rcases Nat.lt_or_ge (b + 1) (fb_ct P 4096) with q | q
        · rw [sepm_lt q] at h2
          have := fb_ct_mono P (show z ≤ sp P (b + 1) by omega)
          rw [(sp_lt q).2.2.2] at this
          exact this
        · have := fb_ct_mono P (show z ≤ 4096 by omega)
          omega
      omega
    · rw [if_neg e2]
      have hq : b + 1 < fb_ct P 4096 := by omega
      rw [sepm_lt hq] at h2
      obtain ⟨-, a1, a2, a3⟩ := sp_lt (show i - 1 < fb_ct P 4096 by omega)
      have h5 : sp P (b + 1) ≤ sp P (i - 1) := by
        rcases Nat.lt_or_ge (b + 1) (i - 1) with q | q
        · exact Nat.le_of_lt (sp_mono q (by omega))
        · rw [show i - 1 = b + 1 by omega]; exact Nat.le_refl _
      exact sp_of a1 (hin _ a2) (by rw [hc, if_pos (by omega), a3]; omega)
theorem sp_del {P : Nat → Bool} {e : Nat} (he : e + 1 < fb_ct P 4096) {i : Nat} (hi : i + 1 < fb_ct P 4096) : sp (del P (sp P (e + 1))) i = if i ≤ e then sp P i else sp P (i + 1) := by
  obtain ⟨-, w1, w2, w3⟩ := sp_lt he
  have hc := ct_del w2
  by_cases q : i ≤ e
  · rw [if_pos q]
    obtain ⟨-, a1, a2, a3⟩ := sp_lt (show i < fb_ct P 4096 by omega)
    have h5 := sp_mono (show i < e + 1 by omega) he
    have h6 : ¬ sp P i = sp P (e + 1) := by omega
    have h7 := hc (sp P i)
    rw [if_neg (by omega)] at h7
    exact sp_of a1 (by simp [del, h6, a2]) (by omega)
  · rw [if_neg q]
    obtain ⟨-, a1, a2, a3⟩ := sp_lt hi
    have h5 := sp_mono (show e + 1 < i + 1 by omega) hi
    have h6 : ¬ sp P (i + 1) = sp P (e + 1) := by omega
    have h7 := hc (sp P (i + 1))
    rw [if_pos (by omega)] at h7
    exact sp_of a1 (by simp [del, h6, a2]) (by omega)
/-! changes of the rows -/
theorem mm_set {fM : Nat → Int32} {M : Nat → Nat → Bool} {k x : Nat} {v : Int32} {G : Nat → Bool} (h : MM fM M) (hk : k < 3) (hx : x < 4096) (hv : v = b2i (G x)) (hG : ∀ y, y < 4096 → ¬ y = x → G y = M k y) : MM (upd fM (4096 * k + x) v) (upF M k G) := fun i hi y hy => by
  by_cases e : i = k
  · subst e
    rw [upF_s]
    by_cases e2 : y = x
    · subst e2; rw [pk_us, hv]
    · rw [pk_un (by omega), h i hi y hy, hG y hy e2]
  · rw [upF_n _ _ e, pk_un (by omega), h i hi y hy]
theorem mz_set {fS : Nat → Int32} {M : Nat → Nat → Bool} {k : Nat} {v : Int32} {G : Nat → Bool} (h : MZ fS M) (hv : v = nI (fb_ct G 4096)) : MZ (upd fS k v) (upF M k G) := fun i hi => by
  by_cases e : i = k
  · subst e; rw [upF_s, pk_us, hv]
  · rw [upF_n _ _ e, pk_un e, h i hi]
theorem vn_1 : vp_nar .boolean (nI 1) = b2i true := rfl
theorem vn_0 : vp_nar .boolean (nI 0) = b2i false := rfl
theorem mm_ins {fM : Nat → Int32} {M : Nat → Nat → Bool} {k x : Nat} (h : MM fM M) (hk : k < 3) (hx : x < 4096) : MM (upd fM (4096 * k + x) (vp_nar .boolean (nI 1))) (upF M k (ins (M k) x)) :=
  mm_set h hk hx (by rw [vn_1]; simp [ins]) fun y _ e => by simp [ins, e]
theorem mm_del {fM : Nat → Int32} {M : Nat → Nat → Bool} {k x : Nat} (h : MM fM M) (hk : k < 3) (hx : x < 4096) : MM (upd fM (4096 * k + x) (vp_nar .boolean (nI 0))) (upF M k (del (M k) x)) :=
  mm_set h hk hx (by rw [vn_0]; simp [del]) fun y _ e => by simp [del, e]
theorem mx_same {fP fB : Nat → Int32} {P : Nat → Nat → Bool} {k : Nat} {G : Nat → Bool} (h : MX fP fB P) (e : G = P k) : MX fP fB (upF P k G) := by rw [e, upF_id]; exact h
theorem mx_split {fP fB g : Nat → Int32} {M : Nat → Bool} {P : Nat → Nat → Bool} {k b z j : Nat} (h : MX fP fB P) (hk : k < 3) (hb : b < fb_ct (P k) 4096) (hc : fb_ct (P k) 4096 ≤ 2049) (h8 : 8 < heldc M (P k) (sp (P k) b)) (hz : kth M (fb_ct M (sp (P k) b) + heldc M (P k) (sp (P k) b) / 2) 4096 = some z) (hj : j = b + 1) (hg : ∀ i, g i = (if 2052 * k + j < i ∧ i ≤ 2052 * k + fb_ct (P k) 4096 then fP (i - 1) else fP i)) :
    MX (upd g (2052 * k + b + 1) (nI z)) (upd fB k (nI (fb_ct (P k) 4096 + 1))) (upF P k (spl M (P k) (sp (P k) b))) := fun i hi => by
  obtain ⟨p1, p2, p3, p4⟩ := spl_pos (sp_lt' _ _) h8 hz
  rw [nsep_sp hb] at p2
  have hct := ct_insP p4 4096
  rw [if_pos p3] at hct
  subst hj
  by_cases e : i = k
  · subst e
    obtain ⟨q1, q2, q3, q4⟩ := h i hi
    rw [upF_s, spl_ins h8 hz, pk_us, hct]
    refine ⟨rfl, fun a ha => ?_, by simp [ins, q3], by omega⟩
    rw [sp_ins hb p1 p2 p3 p4 ha]
    by_cases e1 : a ≤ b
    · rw [if_pos e1, pk_un (by omega), hg, if_neg (by omega), q2 a (by omega)]
    · rw [if_neg e1]
      by_cases e2 : a = b + 1
      · subst e2; rw [if_pos rfl, show 2052 * i + (b + 1) = 2052 * i + b + 1 by omega, pk_us]
      · rw [if_neg e2, pk_un (by omega), hg, if_pos (by omega), show 2052 * i + a - 1 = 2052 * i + (a - 1) by omega, q2 (a - 1) (by omega)]
  · rw [upF_n _ _ e, pk_un e]
    obtain ⟨q1, q2, q3, q4⟩ := h i hi
    refine ⟨q1, fun a ha => ?_, q3, q4⟩
    rw [pk_un (by omega), hg, if_neg (by omega), q2 a ha]
theorem shl_step {fP g : Nat → Int32} {k j c : Nat} (hj : 1 ≤ j) (hg : ∀ i, g i = (if 2052 * k + j < i ∧ i ≤ 2052 * k + c then fP (i - 1) else fP i)) (hc : j ≤ c) : ∀ i, upd g (2052 * k + j) (g (2052 * k + j - 1)) i = (if 2052 * k + (j - 1) < i ∧ i ≤ 2052 * k + c then fP (i - 1) else fP i) := fun i => by
  by_cases e : i = 2052 * k + j
  · subst e
    rw [pk_us, hg, if_neg (by omega), if_pos (by omega)]
  · rw [pk_un e, hg]
    by_cases e2 : 2052 * k + j < i ∧ i ≤ 2052 * k + c
    · rw [if_pos e2, if_pos (by omega)]
    · rw [if_neg e2, if_neg (by omega)]
theorem shr_step {fP g : Nat → Int32} {k e j : Nat} (hj : e ≤ j) (hg : ∀ i, g i = (if 2052 * k + e ≤ i ∧ i < 2052 * k + j then fP (i + 1) else fP i)) : ∀ i, upd g (2052 * k + j) (g (2052 * k + j + 1)) i = (if 2052 * k + e ≤ i ∧ i < 2052 * k + (j + 1) then fP (i + 1) else fP i) := fun i => by
  by_cases e2 : i = 2052 * k + j
  · subst e2
    rw [pk_us, hg, if_neg (by omega), if_pos (by omega)]
  · rw [pk_un e2, hg]
    by_cases e3 : 2052 * k + e ≤ i ∧ i < 2052 * k + j
    · rw [if_pos e3, if_pos (by omega)]
    · rw [if_neg e3, if_neg (by omega)]
theorem mx_del {fP fB g : Nat → Int32} {P : Nat → Nat → Bool} {k e j : Nat} (h : MX fP fB P) (hk : k < 3) (he : e + 1 < fb_ct (P k) 4096) (hj : j = fb_ct (P k) 4096 - 1) (hg : ∀ i, g i = (if 2052 * k + (e + 1) ≤ i ∧ i < 2052 * k + j then fP (i + 1) else fP i)) : MX g (upd fB k (nI (fb_ct (P k) 4096 - 1))) (upF P k (del (P k) (sp (P k) (e + 1)))) := fun i hi => by
  obtain ⟨-, w1, w2, w3⟩ := sp_lt he
  have hct := ct_del w2 4096
  rw [if_pos w1] at hct
  by_cases e1 : i = k
  · subst e1
    obtain ⟨q1, q2, q3, q4⟩ := h i hi
    rw [upF_s, pk_us, show fb_ct (P i) 4096 - 1 = fb_ct (del (P i) (sp (P i) (e + 1))) 4096 by omega]
    refine ⟨rfl, fun a ha => ?_, ?_, by omega⟩
    · rw [sp_del he (by omega), hg]
      by_cases e2 : a ≤ e
      · rw [if_pos e2, if_neg (by omega), q2 a (by omega)]
      · rw [if_neg e2]
        rw [if_pos (by omega), show 2052 * i + a + 1 = 2052 * i + (a + 1) by omega, q2 (a + 1) (by omega)]
    · have h5 := sp_mono (show 0 < e + 1 by omega) he
      have h6 : ¬ 0 = sp (P i) (e + 1) := by omega
      unfold del
      rw [ne_and h6, q3]
  · rw [upF_n _ _ e1, pk_un e1]
    obtain ⟨q1, q2, q3, q4⟩ := h i hi
    have q5 := (h k hk).2.2.2
    refine ⟨q1, fun a ha => ?_, q3, q4⟩
    rw [hg, if_neg (by omega), q2 a ha]
/-! every bucket but a single one has two members at least: so there are at most 2048 -/
def BI (M P : Nat → Bool) : Prop := fb_ct P 4096 = 1 ∨ ∀ b, b < fb_ct P 4096 → 2 ≤ heldc M P (sp P b)
theorem bi_sum {M P : Nat → Bool} (h : ∀ b, b < fb_ct P 4096 → 2 ≤ heldc M P (sp P b)) : ∀ b, b ≤ fb_ct P 4096 → 0 < b → 2 * b ≤ fb_ct M (sepm P b)
  | 0, _, h2 => absurd h2 (Nat.lt_irrefl 0)
  | b + 1, h1, _ => by
    have h3 := h b (by omega)
    have h4 := (heldc_le (M := M) (P := P) (sp_lt' P b)).1
    rw [nsep_sp (by omega)] at h4
    rcases Nat.eq_zero_or_pos b with q | q
    · subst q; omega
    · have ih := bi_sum h b (by omega) q
      rw [sepm_lt (by omega)] at ih
      omega
theorem bi_cnt {M P : Nat → Bool} (h : BI M P) : fb_ct P 4096 ≤ 2048 := by
  rcases h with h | h
  · omega
  · rcases Nat.eq_zero_or_pos (fb_ct P 4096) with q | q
    · omega
    · have h1 := bi_sum h _ (Nat.le_refl _) q
      have h2 := fb_ct_le M (sepm P (fb_ct P 4096))
      have h3 := sepm_le P (fb_ct P 4096)
      omega
theorem puts_same {fM fS fP fB : Nat → Int32} {M P : Nat → Nat → Bool} {k x : Nat} (hM : MM fM M) (hZ : MZ fS M) (hX : MX fP fB P) (c : M k x = true) : MM fM (upF M k (ins (M k) x)) ∧ MZ fS (upF M k (ins (M k) x)) ∧ MX fP fB (upF P k (putP (M k) (P k) x)) := by
  have e1 : ins (M k) x = M k := funext fun y => by
    unfold ins
    by_cases e : y = x
    · rw [eq_or e, e, c]
    · rw [ne_or e]
  have e2 : putP (M k) (P k) x = P k := funext fun y => if_pos c
  rw [e1, e2, upF_id, upF_id]
  exact ⟨hM, hZ, hX⟩
theorem takes_same {fM fS fP fB : Nat → Int32} {M P : Nat → Nat → Bool} {k x : Nat} (hM : MM fM M) (hZ : MZ fS M) (hX : MX fP fB P) (c : M k x = false) : MM fM (upF M k (del (M k) x)) ∧ MZ fS (upF M k (del (M k) x)) ∧ MX fP fB (upF P k (takeP (M k) (P k) x)) := by
  have e1 : del (M k) x = M k := funext fun y => by
    unfold del
    by_cases e : y = x
    · rw [eq_and e, e, c]
    · rw [ne_and e]
  have e2 : takeP (M k) (P k) x = P k := funext fun y => if_neg (by rw [c]; decide)
  rw [e1, e2, upF_id, upF_id]
  exact ⟨hM, hZ, hX⟩
