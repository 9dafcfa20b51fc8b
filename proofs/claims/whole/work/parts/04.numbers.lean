/-! numbers as the print has them -/
theorem ds_16p (a : Nat) : 16 + nI a = nI (16 + a) := nI_add 16 a
theorem ds_m16 (a : Nat) : nI a * 16 = nI (a * 16) := pk_mul a 16
theorem ds_16m (a : Nat) : 16 * nI a = nI (16 * a) := pk_mul 16 a
theorem ds_17m (a : Nat) : 17 * nI a = nI (17 * a) := pk_mul 17 a
theorem ds_4m (a : Nat) : 4 * nI a = nI (4 * a) := pk_mul 4 a
theorem ds_2m (a : Nat) : 2 * nI a = nI (2 * a) := pk_mul 2 a
theorem ds_p17 (a : Nat) : nI a + 17 = nI (a + 17) := nI_add a 17
theorem ds_p18 (a : Nat) : nI a + 18 = nI (a + 18) := nI_add a 18
theorem ds_s17 {a : Nat} (h : 17 ≤ a) : nI a - 17 = nI (a - 17) := pk_sub (b := 17) h
theorem ds_s18 {a : Nat} (h : 18 ≤ a) : nI a - 18 = nI (a - 18) := pk_sub (b := 18) h
theorem ds_s1 {a : Nat} (h : 1 ≤ a) : nI a - 1 = nI (a - 1) := pk_sub (b := 1) h
theorem ds_c0 : (0 : Int32).toNatClampNeg = 0 := by decide
theorem ds_c1 : (1 : Int32).toNatClampNeg = 1 := by decide
theorem ds_ne {a b : Nat} (ha : a < 2 ^ 31) (hb : b < 2 ^ 31) (h : a ≠ b) : ¬ nI a = nI b := fun z => h ((nI_eq ha hb).mp z)
theorem ds_nm1 {a : Nat} (h : a < 2 ^ 31) : ¬ nI a = -1 := by
  intro e
  have h1 := nI_pos (n := a) h
  rw [e] at h1
  exact h1 (by decide)
theorem ds_neg0 : nI 0 + (-1) < 0 := by decide +kernel
/-- an int is negative, or at least n, or one of the numbers below n -/
theorem ds_lt {x : Int32} {n : Nat} (hn : n < 2 ^ 31) (h0 : ¬ x < 0) (h : x < nI n) : ∃ j, j < n ∧ x = nI j := by
  obtain ⟨j, hj, rfl⟩ := nI_of h0
  exact ⟨j, (nI_ltI hj hn).mp h, rfl⟩
theorem ds_le {x : Int32} {n : Nat} (hn : n < 2 ^ 31) (h0 : ¬ x < 0) (h : x ≤ nI n) : ∃ j, j ≤ n ∧ x = nI j := by
  obtain ⟨j, hj, rfl⟩ := nI_of h0
  exact ⟨j, (nI_leI hj hn).mp h, rfl⟩
theorem ds_gt {x : Int32} {n : Nat} (hn : n < 2 ^ 31) (h0 : ¬ x < 0) (h : ¬ x < nI n) : ∃ j, n ≤ j ∧ j < 2 ^ 31 ∧ x = nI j := by
  obtain ⟨j, hj, rfl⟩ := nI_of h0
  refine ⟨j, ?_, hj, rfl⟩
  rw [nI_ltI hj hn] at h
  omega
/-- what lasts: the texts and the lengths -/
def ds_G (sy le : Nat → Int32) (g : Nat → Nat) (A B : Nat) : Prop := (∀ t, sy t = nI (g t)) ∧ (∀ t, g t < 8) ∧ le 0 = nI A ∧ le 1 = nI B ∧ A ≤ 16 ∧ B ≤ 16
theorem ds_E {sy le : Nat → Int32} {g : Nat → Nat} {A B : Nat} (h : ds_G sy le g A B) (x y : Nat) : (sy x = sy (16 + y)) ↔ dq_E g x y := by
  rw [h.1, h.1]
  exact nI_eq (Nat.lt_trans (h.2.1 x) (by decide)) (Nat.lt_trans (h.2.1 _) (by decide))
theorem ds_G_put {sy le : Nat → Int32} {g : Nat → Nat} {A B : Nat} (h : ds_G sy le g A B) (p c : Nat) (hc : c < 8) : ds_G (upd sy p (nI c)) le (fun t => if t = p then c else g t) A B := by
  refine ⟨fun t => ?_, fun t => ?_, h.2.2⟩
  · show (if t = p then nI c else sy t) = nI (if t = p then c else g t)
    split
    · rfl
    · exact h.1 t
  · show (if t = p then c else g t) < 8
    split
    · exact hc
    · exact h.2.1 t
theorem ds_G_le0 {sy le : Nat → Int32} {g : Nat → Nat} {A B : Nat} (h : ds_G sy le g A B) (a : Nat) (ha : a ≤ 16) : ds_G sy (upd le 0 (nI a)) g a B :=
  ⟨h.1, h.2.1, rfl, h.2.2.2.1, ha, h.2.2.2.2.2⟩
theorem ds_G_le1 {sy le : Nat → Int32} {g : Nat → Nat} {A B : Nat} (h : ds_G sy le g A B) (b : Nat) (hb : b ≤ 16) : ds_G sy (upd le 1 (nI b)) g A b :=
  ⟨h.1, h.2.1, h.2.2.1, rfl, h.2.2.2.2.1, hb⟩
