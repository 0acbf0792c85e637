/-! ===== throws ===== -/
def tw_r : String := "java/lang/RuntimeException"
def tw_e : String := "java/lang/Exception"
/-- what a throw of E with a text needs of the machine and of the statics that lie below A -/
def TW (E : String) (is : Nat) (tx : String) (sa : Nat) (A : Nat → Prop) (U : State) (H : Heap) : Prop := vk_R RX7 is tx sa U ∧ vx_Zq Bundle.tN "UNASSIGNED_STACK" Bundle.steD A U H ∧ vx_Zq Bundle.tN "SUPPRESSED_SENTINEL" Bundle.listD A U H ∧ va_Nw (.declares (Bundle.initS tw_r)) U ∧ va_Nw (.declares (Bundle.initS tw_e)) U ∧ va_Nw (.declares (Bundle.initS Bundle.tN)) U ∧ va_Nw (.castable E E) U
theorem TW.same {E : String} {is : Nat} {tx : String} {sa : Nat} {A : Nat → Prop} {u U : State} {H : Heap} (h : u.vm = U.vm) (hT : TW E is tx sa A u H) : TW E is tx sa A U H := by
  obtain ⟨h1, h2, h3, h4, h5, h6, h7⟩ := hT
  have ha : u.vm.Alike U.vm := by rw [h]; exact Vm.Alike.refl _
  exact ⟨vk_R.same h.symm h1, vx_Zq.moved ha h2, vx_Zq.moved ha h3, va_Nw.same rfl h h4, va_Nw.same rfl h h5, va_Nw.same rfl h h6, va_Nw.same rfl h h7⟩
theorem TW.warm {E : String} {is : Nat} {tx : String} {sa : Nat} {A : Nat → Prop} {u U : State} {H : Heap} (h : u.WarmedH U.vm) (hT : TW E is tx sa A u H) : TW E is tx sa A U H := by
  obtain ⟨h1, h2, h3, h4, h5, h6, h7⟩ := hT
  exact ⟨vk_R.warm h h1, vx_Zq.moved h.alike h2, vx_Zq.moved h.alike h3, va_Nw.warmD h h4, va_Nw.warmD h h5, va_Nw.warmD h h6, va_Nw.warmC h h7⟩
theorem TW.kept {E : String} {is : Nat} {tx : String} {sa : Nat} {A A2 : Nat → Prop} {U : State} {H H1 : Heap} (hT : TW E is tx sa A U H) (hk : ∀ a : Nat, a < H.size → ¬ A a → H1[a]? = H[a]?) (hA : ∀ q, A2 q → A q) : TW E is tx sa A2 U H1 := by
  obtain ⟨h1, h2, h3, h4⟩ := hT
  exact ⟨h1, (h2.kept hk).narrow hA, (h3.kept hk).narrow hA, h4⟩
theorem isN_lt {w : Int32} (h1 : ¬ w < nI 0) (h2 : w < nI 4096) : isN w = true := by
  refine decide_eq_true ⟨fa_of_nlt h1, ?_⟩
  rw [Int32.lt_iff_toInt_lt, nI_toInt (by decide)] at h2
  rw [Int32.le_iff_toInt_le, nI_toInt (by decide)]
  omega
theorem inB_q {w : Int32} {lo hi : Nat} (h1 : ¬ w < nI lo) (h2 : w ≤ nI hi) : inB w lo hi = true := decide_eq_true ⟨fa_of_nlt h1, h2⟩
theorem isS_out {v : Int32} (h : isS v = false) : v.toInt < 0 ∨ 2 < v.toInt := by
  have h1 := of_decide_eq_false h
  rw [Int32.le_iff_toInt_le, Int32.le_iff_toInt_le, nI_toInt (by decide), nI_toInt (by decide)] at h1
  omega
/-- a place among n -/
def pl (w : Int32) (n : Nat) : Bool := decide (¬ w < nI 0 ∧ w < nI n)
theorem pl_inB {w : Int32} {n : Nat} (hn : n + 1 < 2 ^ 31) : pl w (n + 1) = inB w 0 n := by
  unfold pl inB
  refine decide_eq_decide.mpr ?_
  rw [Int32.lt_iff_toInt_lt, Int32.lt_iff_toInt_lt, Int32.le_iff_toInt_le, Int32.le_iff_toInt_le, nI_toInt (by decide), nI_toInt hn, nI_toInt (show n < 2 ^ 31 by omega)]
  omega
theorem pl_isP {w : Int32} {n : Nat} (hn : n < 2 ^ 31) : pl w n = isP w n := by
  rcases Nat.eq_zero_or_pos n with e | e
  · subst e
    unfold pl isP
    rw [show nI 0 - nI 1 = (-1 : Int32) from rfl]
    refine decide_eq_decide.mpr ?_
    rw [Int32.lt_iff_toInt_lt, Int32.le_iff_toInt_le, Int32.le_iff_toInt_le, nI_toInt (by decide), show (-1 : Int32).toInt = -1 from rfl]
    omega
  · obtain ⟨m, rfl⟩ : ∃ m, n = m + 1 := ⟨n - 1, by omega⟩
    rw [pl_inB hn]
    unfold inB isP
    rw [pk_sub (by omega), Nat.add_sub_cancel]
