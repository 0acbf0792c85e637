/-! ===== what the property's law asks: functions of the members alone ===== -/
def T3 (a b c : Nat → Bool) : Nat → Nat → Bool
  | 0 => a
  | 1 => b
  | _ => c
theorem nxt_cong {p q : Nat → Bool} (h : ∀ x, x < 4096 → p x = q x) (k : Nat) : nxt1 p k 4096 = nxt1 q k 4096 := by
  unfold nxt1
  exact fst1_cong fun j hj => by rw [h j hj]
theorem clw_cong {p q : Nat → Bool} (h : ∀ x, x < 4096 → p x = q x) {k : Nat} (hk : k < 64) : clw p k = clw q k := by
  unfold clw
  rw [fst1_cong h]
  exact mkW_cong fun i hi => by rw [h _ (by omega)]
theorem smw_cong {p q : Nat → Bool} (h : ∀ x, x < 4096 → p x = q x) : smw p = smw q := by
  unfold smw
  exact mkW_cong fun i hi => by rw [clw_cong h hi]
theorem stp_cong {p q : Nat → Bool} (h : ∀ x, x < 4096 → p x = q x) {k : Nat} (hk : k < 4096) : stp p k = stp q k := by
  unfold stp
  rw [ct4 h (show k + 1 ≤ 4096 by omega), ct4 h (Nat.le_refl 4096), clw_cong h (show k / 64 < 64 by omega), smw_cong h]
theorem trs_cong {p q : Nat → Bool} (h : ∀ x, x < 4096 → p x = q x) : trs p = trs q := by
  unfold trs
  rw [fst1_cong h, smw_cong h, sm1_cong (f := fun h => tcw (clw p h)) (g := fun h => tcw (clw q h)) (n := 64) (fun k hk => by show tcw _ = tcw _; rw [clw_cong h hk])]
theorem srch_cong {p q : Nat → Bool} (h : ∀ x, x < 4096 → p x = q x) {k : Nat} (hk : k < 4096) : srch p k = srch q k := by
  unfold srch
  rw [fst1_cong h, bs_cong (q := pat q k) (fun n hn => by unfold pat; exact pfx_cong h hn (k_lt hn hk)) 13 0 13 0 (by decide) (by decide)]
theorem pfc_cong {p q : Nat → Bool} (h : ∀ x, x < 4096 → p x = q x) {k : Nat} (hk : k < 13) : fb_ct (pfx p k) (2 ^ k) = fb_ct (pfx q k) (2 ^ k) := fb_ct_cong fun v hv => pfx_cong h (by omega) hv
def byV (w : Nat) (M : Nat → Bool) (k : Nat) : Int32 := match w with
  | 0 => b2i (M k)
  | 1 => oI (nxt1 M k 4096)
  | 2 => oI (lst1 M k)
  | 3 => nI (fb_ct M k)
  | 4 => nI (stp M k)
  | 5 => oI (srch M k).1
  | _ => nI (srch M k).2
/-- the answer of 'by', a wrong number's too -/
def byA (w : Nat) (M : Nat → Bool) (v : Int32) : Int32 := if isN v = true then byV w M v.toInt.toNat else -9
theorem byA_n {w : Nat} {M : Nat → Bool} {v : Int32} (h : isN v = false) : byA w M v = -9 := if_neg (by rw [h]; decide)
theorem byA_v {w : Nat} {M : Nat → Bool} {k : Nat} (h : k < 4096) : byA w M (nI k) = byV w M k := by
  unfold byA
  rw [if_pos (isN_t h), nI_toInt (by omega)]
  rfl
theorem byV_cong {p q : Nat → Bool} (h : ∀ x, x < 4096 → p x = q x) {k : Nat} (hk : k < 4096) (w : Nat) : byV w p k = byV w q k := by
  have e0 := h k hk
  have e1 := nxt_cong h k
  have e2 : lst1 p k = lst1 q k := lst1_cong fun j hj => h j (by omega)
  have e3 : fb_ct p k = fb_ct q k := ct4 h (by omega)
  have e4 := stp_cong h hk
  have e5 := srch_cong h hk
  unfold byV
  rw [e0, e1, e2, e3, e4, e5]
theorem byA_cong {p q : Nat → Bool} (h : ∀ x, x < 4096 → p x = q x) (w : Nat) (v : Int32) : byA w p v = byA w q v := by
  by_cases hv : isN v = true
  · obtain ⟨k, hk, rfl⟩ := in_of (n := 4095) (by decide) hv
    rw [byA_v (by omega), byA_v (by omega)]
    exact byV_cong h (by omega) w
  · rw [byA_n (bn hv), byA_n (bn hv)]
theorem clu_cong {p q : Nat → Bool} (h : ∀ x, x < 4096 → p x = q x) {k : Nat} (hk : k < 64) : fst1 (gb (clw p k)) 64 = fst1 (gb (clw q k)) 64 ∧ lst1 (gb (clw p k)) 64 = lst1 (gb (clw q k)) 64 := by
  rw [clw_cong h hk]; exact ⟨rfl, rfl⟩
/-- the members of all buckets together -/
theorem held_sum {M P : Nat → Bool} {k t : Nat} (hk : k < fb_ct P 4096) (ht : t = fb_ct M (sepm P k)) : t + heldc M P (sp P k) = fb_ct M (sepm P (k + 1)) := by
  have h := (heldc_le (M := M) (P := P) (sp_lt' P k)).1
  rw [nsep_sp hk] at h
  rw [ht, sepm_lt hk]
  exact h
theorem held_0 {M P : Nat → Bool} (h0 : P 0 = true) : 0 = fb_ct M (sepm P 0) := by
  have h1 : 0 < fb_ct P 4096 := fb_ct_pos.mpr ⟨0, by decide, h0⟩
  rw [sepm_lt h1, sp_0 h0]
  rfl
theorem held_n {M P : Nat → Bool} {k t : Nat} (hk : k ≤ fb_ct P 4096) (hn : ¬ k < fb_ct P 4096) (ht : t = fb_ct M (sepm P k)) : t = fb_ct M 4096 := by
  have e : k = fb_ct P 4096 := by omega
  rw [ht, show sepm P k = 4096 from if_pos e]
/-! ===== the numbers of the script ===== -/
def dr0 (x : Int32) : Nat := x.toBitVec.toNat % 2147483648
theorem dr0_eq (x : Int32) : x &&& nI 2147483647 = nI (dr0 x) := by
  unfold dr0
  apply Int32.toBitVec_inj.mp
  apply BitVec.eq_of_toNat_eq
  have h1 : (nI 2147483647).toBitVec.toNat = 2147483647 := by decide
  rw [Int32.toBitVec_and, BitVec.toNat_and, h1]
  have h2 := Nat.and_two_pow_sub_one_eq_mod x.toBitVec.toNat 31
  rw [show (2 : Nat) ^ 31 - 1 = 2147483647 from rfl, show (2 : Nat) ^ 31 = 2147483648 from rfl] at h2
  rw [h2]
  show _ = (Int32.ofNat (x.toBitVec.toNat % 2147483648)).toBitVec.toNat
  have h3 : (Int32.ofNat (x.toBitVec.toNat % 2147483648)).toBitVec = BitVec.ofNat 32 (x.toBitVec.toNat % 2147483648) := rfl
  rw [h3, BitVec.toNat_ofNat, Nat.mod_eq_of_lt (a := x.toBitVec.toNat % 2147483648)]
  exact Nat.lt_of_lt_of_le (Nat.mod_lt _ (by decide)) (by decide)
def drF (L : Nat) (xs : Nat → Int32) (k : Nat) : Nat := dr0 (if k < L then xs k else nI (10037 * k + 557))
theorem drF_lt (L : Nat) (xs : Nat → Int32) (k : Nat) : drF L xs k < 2147483648 := Nat.mod_lt _ (by decide)
def nu0 (z : Nat) : Nat := if z % 3 = 0 then z / 3 % 4096 else if z % 3 = 1 then 2000 + z / 3 % 70 else z / 3 % 20 * 64
theorem nu0_lt (z : Nat) : nu0 z < 4096 := by
  unfold nu0
  split
  · omega
  · split <;> omega
def nuF (L : Nat) (xs : Nat → Int32) (k : Nat) : Nat := nu0 (drF L xs k)
theorem nuF_lt (L : Nat) (xs : Nat → Int32) (k : Nat) : nuF L xs k < 4096 := nu0_lt _
/-! ===== how the two sets come about ===== -/
def MEM (nu : Nat → Nat) (P : Nat → Prop) (f : Nat → Int64) : Prop := ∀ x, x < 4096 → (bo f x = true ↔ ∃ j, P j ∧ nu j = x)
theorem mem_0 {nu : Nat → Nat} {P : Nat → Prop} {f : Nat → Int64} (h : ∀ x, x < 4096 → bo f x = false) (hp : ∀ j, ¬ P j) : MEM nu P f := fun x hx =>
  ⟨fun e => (by rw [h x hx] at e; cases e), fun ⟨j, a, _⟩ => absurd a (hp j)⟩
theorem mem_ins {nu : Nat → Nat} {P P' : Nat → Prop} {f f' : Nat → Int64} {k : Nat} (h : MEM nu P f) (hi : ∀ x, x < 4096 → bo f' x = ins (bo f) (nu k) x) (hp : ∀ j, P' j ↔ P j ∨ j = k) : MEM nu P' f' := fun x hx => by
  rw [hi x hx]
  unfold ins
  rw [Bool.or_eq_true, decide_eq_true_iff, h x hx]
  constructor
  · intro e
    rcases e with e | ⟨j, a, b⟩
    · exact ⟨k, (hp k).mpr (Or.inr rfl), e.symm⟩
    · exact ⟨j, (hp j).mpr (Or.inl a), b⟩
  · intro ⟨j, a, b⟩
    rcases (hp j).mp a with c | c
    · exact Or.inr ⟨j, c, b⟩
    · exact Or.inl (by rw [← b, c])
theorem mem_in {nu : Nat → Nat} {P : Nat → Prop} {f : Nat → Int64} {k : Nat} (h : MEM nu P f) (hk : P k) (hl : nu k < 4096) : bo f (nu k) = true := (h _ hl).mpr ⟨k, hk, rfl⟩
theorem mem_sub {nu : Nat → Nat} {P Q : Nat → Prop} {f g : Nat → Int64} {y : Nat} (hf : MEM nu P f) (hg : MEM nu Q g) (hs : ∀ j, P j → Q j) (hy : y < 4096) (c : bo g y = false) : bo f y = false := bn fun e => by
  obtain ⟨j, a, b⟩ := (hf y hy).mp e
  have h9 := (hg y hy).mpr ⟨j, hs j a, b⟩
  rw [c] at h9
  cases h9
theorem mem_eq {nu : Nat → Nat} {P Q : Nat → Prop} {f g : Nat → Int64} (hf : MEM nu P f) (hg : MEM nu Q g) (hp : ∀ j, P j ↔ Q j) : ∀ x, x < 4096 → bo f x = bo g x := fun x hx =>
  Bool.eq_iff_iff.mpr (by
    rw [hf x hx, hg x hx]
    exact ⟨fun ⟨j, a, b⟩ => ⟨j, (hp j).mp a, b⟩, fun ⟨j, a, b⟩ => ⟨j, (hp j).mpr a, b⟩⟩)
theorem str_in {f fa fb : Nat → Int64} {y z : Nat} (hy : y < 4096) (ha : ∀ x, x < 4096 → bo fa x = ins (bo f) y x) (hb : ∀ x, x < 4096 → bo fb x = ins (bo fa) z x) : bo fb y = true := by
  rw [hb y hy]
  unfold ins
  rw [ha y hy]
  unfold ins
  rw [eq_or rfl, Bool.or_true]
theorem str_out {nu : Nat → Nat} {P P' Q : Nat → Prop} {f fa fb fc g : Nat → Int64} {y k : Nat} (h : MEM nu P f) (hg : MEM nu Q g) (hs : ∀ j, P j → Q j) (hk : Q k) (hl : nu k < 4096) (hy : y < 4096) (c : bo g y = false) (ha : ∀ x, x < 4096 → bo fa x = ins (bo f) y x) (hb : ∀ x, x < 4096 → bo fb x = ins (bo fa) (nu k) x) (hc : ∀ x, x < 4096 → bo fc x = del (bo fb) y x) (hp : ∀ j, P' j ↔ P j ∨ j = k) : MEM nu P' fc := by
  refine mem_ins (k := k) h (fun x hx => ?_) hp
  rw [hc x hx]
  unfold del
  by_cases e : x = y
  · rw [eq_and e]
    unfold ins
    have h1 : ¬ x = nu k := fun q => by
      have h2 := mem_in hg hk hl
      rw [← q, e, c] at h2
      cases h2
    rw [ne_or h1, e, mem_sub h hg hs hy c]
  · rw [ne_and e, hb x hx]
    unfold ins
    rw [ha x hx]
    unfold ins
    rw [ne_or e]
def DEL (nu : Nat → Nat) (P : Nat → Prop) (g f : Nat → Int64) : Prop := ∀ x, x < 4096 → (bo f x = true ↔ bo g x = true ∧ ¬ ∃ j, P j ∧ nu j = x)
theorem del_0 {nu : Nat → Nat} {P : Nat → Prop} {f : Nat → Int64} (hp : ∀ j, ¬ P j) : DEL nu P f f := fun x _ =>
  ⟨fun e => ⟨e, fun ⟨j, a, _⟩ => hp j a⟩, fun e => e.1⟩
theorem del_s {nu : Nat → Nat} {P P' : Nat → Prop} {g f f' : Nat → Int64} {k : Nat} (h : DEL nu P g f) (hi : ∀ x, x < 4096 → bo f' x = del (bo f) (nu k) x) (hp : ∀ j, P' j ↔ P j ∨ j = k) : DEL nu P' g f' := fun x hx => by
  rw [hi x hx]
  unfold del
  rw [Bool.and_eq_true, decide_eq_true_iff, h x hx]
  constructor
  · intro ⟨e, a, b⟩
    refine ⟨a, fun ⟨j, c, d⟩ => ?_⟩
    rcases (hp j).mp c with q | q
    · exact b ⟨j, q, d⟩
    · exact e (by rw [← d, q])
  · intro ⟨a, b⟩
    exact ⟨fun e => b ⟨k, (hp k).mpr (Or.inr rfl), e.symm⟩, a, fun ⟨j, c, d⟩ => b ⟨j, (hp j).mpr (Or.inl c), d⟩⟩
theorem del_eq {nu : Nat → Nat} {P Q : Nat → Prop} {g f g' f' : Nat → Int64} (h : DEL nu P g f) (h' : DEL nu Q g' f') (hg : ∀ x, x < 4096 → bo g x = bo g' x) (hp : ∀ j, P j ↔ Q j) : ∀ x, x < 4096 → bo f x = bo f' x := fun x hx =>
  Bool.eq_iff_iff.mpr (by
    rw [h x hx, h' x hx, hg x hx]
    exact ⟨fun ⟨a, b⟩ => ⟨a, fun ⟨j, c, d⟩ => b ⟨j, (hp j).mpr c, d⟩⟩, fun ⟨a, b⟩ => ⟨a, fun ⟨j, c, d⟩ => b ⟨j, (hp j).mp c, d⟩⟩⟩)
/-- counting down by threes -/
def dk : Nat → Int32
  | 0 => -2
  | t + 1 => nI (3 * t + 1)
theorem dk_dec (t : Nat) : nI (3 * t + 1) + (-3) = dk t := by
  cases t with
  | zero => decide
  | succ t =>
    show nI (3 * (t + 1) + 1) + (-3) = nI (3 * t + 1)
    rw [show 3 * (t + 1) + 1 = (3 * t + 1) + 3 by omega, ← nI_add, Int32.add_assoc]
    rw [show nI 3 + (-3 : Int32) = 0 by decide, Int32.add_zero]
theorem b2i_nlt (b : Bool) : ¬ b2i b < 0 := by cases b <;> decide
/-! polls -/
theorem poll_f {p q : Nat → Bool} (h : ∀ x, x < 4096 → p x = q x) (c : 0 < fb_ct p 4096) : ∃ z, z < 4096 ∧ p z = true ∧ fst1 p 4096 = some z ∧ fst1 q 4096 = some z := by
  cases e : fst1 p 4096 with
  | none => exact absurd e (ct_pos_fst.mp c)
  | some z => exact ⟨z, (fst1_some e).1, (fst1_some e).2.1, rfl, by rw [← fst1_cong h, e]⟩
theorem poll_l {p q : Nat → Bool} (h : ∀ x, x < 4096 → p x = q x) (c : 0 < fb_ct p 4096) : ∃ z, z < 4096 ∧ p z = true ∧ lst1 p 4096 = some z ∧ lst1 q 4096 = some z := by
  cases e : lst1 p 4096 with
  | none =>
    obtain ⟨j, h1, h2⟩ := fb_ct_pos.mp c
    rw [lst1_none.mp e j h1] at h2
    cases h2
  | some z => exact ⟨z, (lst1_some e).1, (lst1_some e).2.1, rfl, by rw [← lst1_cong h, e]⟩
theorem poll_c {f f' : Nat → Int64} {z : Nat} (hz : z < 4096) (c : bo f z = true) (h : ∀ x, x < 4096 → bo f' x = del (bo f) z x) : fb_ct (bo f') 4096 + 1 = fb_ct (bo f) 4096 := by
  have h1 := ct_del c 4096
  rw [if_pos hz] at h1
  rw [ct4 h (Nat.le_refl _)]
  exact h1
theorem poll_e {f g f' g' : Nat → Int64} {z : Nat} (e : ∀ x, x < 4096 → bo f x = bo g x) (h : ∀ x, x < 4096 → bo f' x = del (bo f) z x) (h' : ∀ x, x < 4096 → bo g' x = del (bo g) z x) : ∀ x, x < 4096 → bo f' x = bo g' x := fun x hx => by
  rw [h x hx, h' x hx]; unfold del; rw [e x hx]
theorem emp_eq {f g : Nat → Int64} (c : fb_ct (bo f) 4096 = 0) (h : ∀ x, x < 4096 → bo g x = false) : ∀ x, x < 4096 → bo f x = bo g x := fun x hx => by
  rw [h x hx, fb_ct_zero.mp c x hx]
theorem pl_f {k n : Nat} (h : n ≤ k) (hk : k < 2 ^ 31) : pl (nI k) n = false := decide_eq_false fun ⟨_, h2⟩ => by
  have h3 := (nI_ltI (a := k) (b := n) hk (by omega)).mp h2
  omega
