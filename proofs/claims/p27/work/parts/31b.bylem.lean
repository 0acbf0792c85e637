theorem m7_0 (a0 a1 a2 a3 a4 a5 a6 : Int32) : (match (0 : Nat) with | 0 => a0 | 1 => a1 | 2 => a2 | 3 => a3 | 4 => a4 | 5 => a5 | _ => a6) = a0 := rfl
theorem byA_w0 {M : Nat → Bool} {k : Nat} (h : k < 4096) : byA 0 M (nI k) = b2i (M k) := by
  rw [byA_v h]
  delta byV
  exact m7_0 (b2i (M k)) (oI (nxt1 M k 4096)) (oI (lst1 M k)) (nI (fb_ct M k)) (nI (stp M k)) (oI (srch M k).1) (nI (srch M k).2)
theorem m7_1 (a0 a1 a2 a3 a4 a5 a6 : Int32) : (match (1 : Nat) with | 0 => a0 | 1 => a1 | 2 => a2 | 3 => a3 | 4 => a4 | 5 => a5 | _ => a6) = a1 := rfl
theorem byA_w1 {M : Nat → Bool} {k : Nat} (h : k < 4096) : byA 1 M (nI k) = oI (nxt1 M k 4096) := by
  rw [byA_v h]
  delta byV
  exact m7_1 (b2i (M k)) (oI (nxt1 M k 4096)) (oI (lst1 M k)) (nI (fb_ct M k)) (nI (stp M k)) (oI (srch M k).1) (nI (srch M k).2)
theorem m7_2 (a0 a1 a2 a3 a4 a5 a6 : Int32) : (match (2 : Nat) with | 0 => a0 | 1 => a1 | 2 => a2 | 3 => a3 | 4 => a4 | 5 => a5 | _ => a6) = a2 := rfl
theorem byA_w2 {M : Nat → Bool} {k : Nat} (h : k < 4096) : byA 2 M (nI k) = oI (lst1 M k) := by
  rw [byA_v h]
  delta byV
  exact m7_2 (b2i (M k)) (oI (nxt1 M k 4096)) (oI (lst1 M k)) (nI (fb_ct M k)) (nI (stp M k)) (oI (srch M k).1) (nI (srch M k).2)
theorem m7_3 (a0 a1 a2 a3 a4 a5 a6 : Int32) : (match (3 : Nat) with | 0 => a0 | 1 => a1 | 2 => a2 | 3 => a3 | 4 => a4 | 5 => a5 | _ => a6) = a3 := rfl
theorem byA_w3 {M : Nat → Bool} {k : Nat} (h : k < 4096) : byA 3 M (nI k) = nI (fb_ct M k) := by
  rw [byA_v h]
  delta byV
  exact m7_3 (b2i (M k)) (oI (nxt1 M k 4096)) (oI (lst1 M k)) (nI (fb_ct M k)) (nI (stp M k)) (oI (srch M k).1) (nI (srch M k).2)
theorem m7_4 (a0 a1 a2 a3 a4 a5 a6 : Int32) : (match (4 : Nat) with | 0 => a0 | 1 => a1 | 2 => a2 | 3 => a3 | 4 => a4 | 5 => a5 | _ => a6) = a4 := rfl
theorem byA_w4 {M : Nat → Bool} {k : Nat} (h : k < 4096) : byA 4 M (nI k) = nI (stp M k) := by
  rw [byA_v h]
  delta byV
  exact m7_4 (b2i (M k)) (oI (nxt1 M k 4096)) (oI (lst1 M k)) (nI (fb_ct M k)) (nI (stp M k)) (oI (srch M k).1) (nI (srch M k).2)
theorem m7_5 (a0 a1 a2 a3 a4 a5 a6 : Int32) : (match (5 : Nat) with | 0 => a0 | 1 => a1 | 2 => a2 | 3 => a3 | 4 => a4 | 5 => a5 | _ => a6) = a5 := rfl
theorem byA_w5 {M : Nat → Bool} {k : Nat} (h : k < 4096) : byA 5 M (nI k) = oI (srch M k).1 := by
  rw [byA_v h]
  delta byV
  exact m7_5 (b2i (M k)) (oI (nxt1 M k 4096)) (oI (lst1 M k)) (nI (fb_ct M k)) (nI (stp M k)) (oI (srch M k).1) (nI (srch M k).2)
theorem m7_6 (a0 a1 a2 a3 a4 a5 a6 : Int32) : (match (6 : Nat) with | 0 => a0 | 1 => a1 | 2 => a2 | 3 => a3 | 4 => a4 | 5 => a5 | _ => a6) = a6 := rfl
theorem byA_w6 {M : Nat → Bool} {k : Nat} (h : k < 4096) : byA 6 M (nI k) = nI (srch M k).2 := by
  rw [byA_v h]
  delta byV
  exact m7_6 (b2i (M k)) (oI (nxt1 M k 4096)) (oI (lst1 M k)) (nI (fb_ct M k)) (nI (stp M k)) (oI (srch M k).1) (nI (srch M k).2)
