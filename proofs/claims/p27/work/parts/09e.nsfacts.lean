theorem ra_one {U : State} {cA cB : ClassId} {ty : FieldType} (h1 : va_RA U cA ty) (h2 : va_RA U cB ty) (hne : ∀ C, ty ≠ .object C) : cA = cB := by
  cases ty with
  | object C => exact absurd rfl (hne C)
  | _ =>
    have e1 : U.vm.findClass _ = some cA := h1
    have e2 : U.vm.findClass _ = some cB := h2
    exact Option.some.inj (e1.symm.trans e2)
/-! ===== one set, kept three times ===== -/
def NI (fm fs ft fc : Nat → Int64) (sm : Int64) (lo : Option Nat) : Prop := bo fs 0 = true ∧ TI (bo fm) ft ∧ TR (bo fm) fc sm lo
def putP (M P : Nat → Bool) (k x : Nat) : Bool := if M k = true then P x else spl (ins M k) P (sp P (bk P k)) x
def takeP (M P : Nat → Bool) (k x : Nat) : Bool := if M k = true then mrg (del M k) P (bk P k) x else P x
theorem spl_0 {M P : Nat → Bool} {s : Nat} (h : P 0 = true) : spl M P s 0 = true := by unfold spl; rw [h, Bool.or_true]
theorem mrg_0 {M P : Nat → Bool} {b : Nat} (hb : b < fb_ct P 4096) (h : P 0 = true) : mrg M P b 0 = true := by
  unfold mrg
  by_cases e : 2 ≤ heldc M P (sp P b) ∨ fb_ct P 4096 = 1
  · rw [if_pos e]; exact h
  · rw [if_neg e]
    refine spl_0 ?_
    obtain ⟨-, h2, h3, h4⟩ := sp_lt (erl_lt hb (fun q => e (Or.inr q)))
    have : ¬ 0 = sp P (erl P b + 1) := fun q => by
      rw [← q] at h4
      exact absurd h4 (by show ¬ 0 = _; omega)
    unfold del
    rw [ne_and this, h]
theorem ni_put {fm fs ft fc fm' fs' ft' fc' : Nat → Int64} {sm sm' : Int64} {lo lo' : Option Nat} {k : Nat} (hN : NI fm fs ft fc sm lo) (c : bo fm k = false) (h1 : TR (ins (bo fm) k) fc' sm' lo') (h2 : TI (ins (bo fm) k) ft') (h3 : (∀ x, bo fm' x = ins (bo fm) k x) ∧ ∀ x, bo fs' x = spl (bo fm') (bo fs) (sp (bo fs) (bk (bo fs) k)) x) : NI fm' fs' ft' fc' sm' lo' ∧ (∀ x, x < 4096 → bo fm' x = ins (bo fm) k x) ∧ ∀ x, x < 4096 → bo fs' x = putP (bo fm) (bo fs) k x := by
  obtain ⟨h3, h4⟩ := h3
  have e : bo fm' = ins (bo fm) k := funext h3
  refine ⟨⟨by rw [h4]; exact spl_0 hN.1, by rw [e]; exact h2, by rw [e]; exact h1⟩, fun x _ => h3 x, fun x _ => ?_⟩
  rw [h4, e, putP, if_neg (by rw [c]; decide)]
theorem ni_take {fm fs ft fc fm' fs' ft' fc' : Nat → Int64} {sm sm' : Int64} {lo lo' : Option Nat} {k : Nat} (hN : NI fm fs ft fc sm lo) (hk : k < 4096) (c : bo fm k = true) (h1 : TR (del (bo fm) k) fc' sm' lo') (h2 : TI (del (bo fm) k) ft') (h3 : (∀ x, bo fm' x = del (bo fm) k x) ∧ ∀ x, bo fs' x = mrg (bo fm') (bo fs) (bk (bo fs) k) x) : NI fm' fs' ft' fc' sm' lo' ∧ (∀ x, x < 4096 → bo fm' x = del (bo fm) k x) ∧ ∀ x, x < 4096 → bo fs' x = takeP (bo fm) (bo fs) k x := by
  obtain ⟨h3, h4⟩ := h3
  have e : bo fm' = del (bo fm) k := funext h3
  refine ⟨⟨by rw [h4]; exact mrg_0 (bk_lt hN.1 hk) hN.1, by rw [e]; exact h2, by rw [e]; exact h1⟩, fun x _ => h3 x, fun x _ => ?_⟩
  rw [h4, e, takeP, if_pos c]
theorem ni_same {fm fs : Nat → Int64} {k : Nat} (c : bo fm k = true) : (∀ x, x < 4096 → bo fm x = ins (bo fm) k x) ∧ ∀ x, x < 4096 → bo fs x = putP (bo fm) (bo fs) k x := by
  refine ⟨fun x _ => ?_, fun x _ => by rw [putP, if_pos c]⟩
  unfold ins
  by_cases e : x = k
  · rw [eq_or e, e, c]
  · rw [ne_or e]
theorem ni_same2 {fm fs : Nat → Int64} {k : Nat} (c : bo fm k = false) : (∀ x, x < 4096 → bo fm x = del (bo fm) k x) ∧ ∀ x, x < 4096 → bo fs x = takeP (bo fm) (bo fs) k x := by
  refine ⟨fun x _ => ?_, fun x _ => by rw [takeP, if_neg (by rw [c]; decide)]⟩
  unfold del
  by_cases e : x = k
  · rw [eq_and e, e, c]
  · rw [ne_and e]
theorem ni_wipe {fm fs ft fc : Nat → Int64} {sm : Int64} {lo : Option Nat} (h1 : TR (fun _ => false) fc sm lo) (h2 : TI (fun _ => false) ft) (h3 : (∀ x, x < 4096 → bo fm x = false) ∧ ∀ x, x < 4096 → bo fs x = decide (x = 0)) : NI fm fs ft fc sm lo ∧ (∀ x, x < 4096 → bo fm x = false) ∧ ∀ x, x < 4096 → bo fs x = decide (x = 0) :=
  ⟨⟨by rw [h3.2 0 (by decide)]; rfl, ti_cong h2 fun x hx => (h3.1 x hx).symm, tr_cong h1 fun x hx => (h3.1 x hx).symm⟩, h3⟩
theorem bo_0 (x : Nat) : bo (fun _ => 0) x = false := gb_0 _
/-! ===== several numbers, one after the other ===== -/
def putsM (M : Nat → Bool) (g : Nat → Nat) : Nat → Nat → Bool
  | 0 => M
  | j + 1 => ins (putsM M g j) (g j)
def putsP (M P : Nat → Bool) (g : Nat → Nat) : Nat → Nat → Bool
  | 0 => P
  | j + 1 => putP (putsM M g j) (putsP M P g j) (g j)
def putsC (M : Nat → Bool) (g : Nat → Nat) : Nat → Nat
  | 0 => 0
  | j + 1 => putsC M g j + (if putsM M g j (g j) = true then 0 else 1)
theorem putP_cong {m m' p q : Nat → Bool} (hm : ∀ x, x < 4096 → m x = m' x) (h : ∀ x, x < 4096 → p x = q x) {k : Nat} (hk : k < 4096) : ∀ x, x < 4096 → putP m p k x = putP m' q k x := fun x hx => by
  unfold putP
  rw [hm k hk]
  by_cases e : m' k = true
  · rw [if_pos e, if_pos e]; exact h x hx
  · rw [if_neg e, if_neg e, bk_cong h hk, sp_cong h]
    exact spl_cong (ins_cong hm k) h (sp_lt' _ _) x hx
def PU (M P : Nat → Bool) (g : Nat → Nat) (j t : Nat) (gm gs : Nat → Int64) : Prop := (∀ x, x < 4096 → bo gm x = putsM M g j x) ∧ (∀ x, x < 4096 → bo gs x = putsP M P g j x) ∧ t = putsC M g j
theorem pu_0 (fm fs : Nat → Int64) (g : Nat → Nat) : PU (bo fm) (bo fs) g 0 0 fm fs := ⟨fun _ _ => rfl, fun _ _ => rfl, rfl⟩
theorem pu_step {M P : Nat → Bool} {g : Nat → Nat} {j t t' : Nat} {gm gs gm' gs' : Nat → Int64} (hg : g j < 4096) (hq : PU M P g j t gm gs) (hw : (∀ x, x < 4096 → bo gm' x = ins (bo gm) (g j) x) ∧ ∀ x, x < 4096 → bo gs' x = putP (bo gm) (bo gs) (g j) x) (ht : t' = t + (if bo gm (g j) = true then 0 else 1)) : PU M P g (j + 1) t' gm' gs' := by
  obtain ⟨h1, h2, h3⟩ := hq
  refine ⟨fun x hx => (hw.1 x hx).trans (ins_cong h1 _ x hx), fun x hx => (hw.2 x hx).trans (putP_cong h1 h2 hg x hx), ?_⟩
  rw [ht, h1 _ hg, h3]; rfl
theorem pu_s {M P : Nat → Bool} {g : Nat → Nat} {j t t' : Nat} {gm gs gm' gs' : Nat → Int64} {b : Bool} (hg : g j < 4096) (hq : PU M P g j t gm gs) (hw : (∀ x, x < 4096 → bo gm' x = ins (bo gm) (g j) x) ∧ ∀ x, x < 4096 → bo gs' x = putP (bo gm) (bo gs) (g j) x) (c : (!bo gm (g j)) = b) (ht : t' = t + (if b = true then 1 else 0) := by rfl) : PU M P g (j + 1) t' gm' gs' := by
  refine pu_step hg hq hw ?_
  rw [ht, ← c]
  cases bo gm (g j) <;> rfl
theorem pu_same {M : Nat → Bool} {gm : Nat → Int64} {j : Nat} (h : ∀ x, x < 4096 → bo gm x = putsM M (fun j => sp M j) j x) (hj : j ≤ fb_ct M 4096 := by omega) : ∀ x, x < 4096 → bo gm x = M x := by
  have h9 : ∀ j, j ≤ fb_ct M 4096 → ∀ x, putsM M (fun j => sp M j) j x = M x := by
    intro j
    induction j with
    | zero => intro _ x; rfl
    | succ j ih =>
      intro hj x
      show ins (putsM M _ j) (sp M j) x = M x
      unfold ins
      rw [ih (by omega)]
      by_cases e : x = sp M j
      · rw [eq_or e, e, (sp_lt (show j < fb_ct M 4096 by omega)).2.2.1]
      · rw [ne_or e]
  exact fun x hx => (h x hx).trans (h9 j hj x)
