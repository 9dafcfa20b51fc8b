/-! the tables: what a row, the head table and the tail table hold on the way -/
/-- the class's row: cells up to j hold the new row, the cells behind it the old one -/
def dr_W (e : Nat → Nat → Prop) (i0 j0 j1 i j : Nat) (w : Nat → Int32) : Prop := (∀ t, j0 ≤ t → t ≤ j → w t = nI (dq_L e i0 j0 (i + 1) t)) ∧ (∀ t, j < t → t ≤ j1 → w t = nI (dq_L e i0 j0 i t))
/-- the class's row between two old places -/
def dr_V (e : Nat → Nat → Prop) (i0 j0 j1 i : Nat) (w : Nat → Int32) : Prop := ∀ t, j0 ≤ t → t ≤ j1 → w t = nI (dq_L e i0 j0 i t)
theorem dr_L0j (e : Nat → Nat → Prop) (i j a b : Nat) (h : b ≤ j) : dq_L e i j a b = 0 := by
  have := dq_L_le e i j a b
  omega
theorem dr_L0i (e : Nat → Nat → Prop) (i j a b : Nat) (h : a ≤ i) : dq_L e i j a b = 0 := by
  have := dq_L_le e i j a b
  omega
theorem dr_V0 {e : Nat → Nat → Prop} {i0 j0 j1 : Nat} {w : Nat → Int32} (h : ∀ t, t < 17 → w t = 0) (hj : j1 ≤ 16) : dr_V e i0 j0 j1 i0 w := by
  intro t h1 h2
  rw [h t (by omega), dr_L0i e i0 j0 i0 t (Nat.le_refl _), nI_0]
theorem dr_VW {e : Nat → Nat → Prop} {i0 j0 j1 i : Nat} {w : Nat → Int32} (hj : j0 ≤ j1) (h : dr_V e i0 j0 j1 i w) : dr_W e i0 j0 j1 i j0 w := by
  constructor
  · intro t h1 h2
    have ht : t = j0 := by omega
    subst ht
    rw [h t (Nat.le_refl _) hj, dr_L0j e i0 t i t (Nat.le_refl _), dr_L0j e i0 t (i + 1) t (Nat.le_refl _)]
  · intro t h1 h2
    exact h t (by omega) h2
theorem dr_WV {e : Nat → Nat → Prop} {i0 j0 j1 i : Nat} {w : Nat → Int32} (h : dr_W e i0 j0 j1 i j1 w) : dr_V e i0 j0 j1 (i + 1) w := fun t h1 h2 => h.1 t h1 h2
theorem dr_Wput {e : Nat → Nat → Prop} {i0 j0 j1 i j : Nat} {w : Nat → Int32} {x : Int32} (h : dr_W e i0 j0 j1 i j w) (hx : x = nI (dq_L e i0 j0 (i + 1) (j + 1))) : dr_W e i0 j0 j1 i (j + 1) (upd w (j + 1) x) := by
  constructor
  · intro t h1 h2
    by_cases ht : t = j + 1
    · subst ht
      rw [pk_us, hx]
    · rw [pk_un ht]
      exact h.1 t h1 (by omega)
  · intro t h1 h2
    rw [pk_un (by omega)]
    exact h.2 t (by omega) h2
theorem dr_Wkeep {e : Nat → Nat → Prop} {i0 j0 j1 i j : Nat} {w : Nat → Int32} (h : dr_W e i0 j0 j1 i j w) (hx : w (j + 1) = nI (dq_L e i0 j0 (i + 1) (j + 1))) : dr_W e i0 j0 j1 i (j + 1) w := by
  constructor
  · intro t h1 h2
    by_cases ht : t = j + 1
    · subst ht
      exact hx
    · exact h.1 t h1 (by omega)
  · intro t h1 h2
    exact h.2 t (by omega) h2
theorem dr_b_l (e : Nat → Nat → Prop) {i j a b : Nat} (he : ¬ e a b) (h : dq_L e i j a (b + 1) < dq_L e i j (a + 1) b) : dq_L e i j (a + 1) (b + 1) = dq_L e i j (a + 1) b := by
  have h1 := dq_b_ne e (i := i) (j := j) he
  have h2 := dq_b_mono e i j a b
  omega
theorem dr_b_a (e : Nat → Nat → Prop) {i j a b : Nat} (he : ¬ e a b) (h : dq_L e i j (a + 1) b ≤ dq_L e i j a (b + 1)) : dq_L e i j (a + 1) (b + 1) = dq_L e i j a (b + 1) := by
  have h1 := dq_b_ne e (i := i) (j := j) he
  have h2 := dq_b_mono e i j a b
  omega
/-- the reference's head table, filled up to cell (i, j) -/
def dr_H (e : Nat → Nat → Prop) (A B i j : Nat) (w : Nat → Int32) : Prop := ∀ i' j', i' ≤ A → j' ≤ B → (i' < i ∨ (i' = i ∧ j' < j)) → w (17 * i' + j') = nI (dq_L e 0 0 i' j')
theorem dr_H0 {e : Nat → Nat → Prop} {A B : Nat} {w : Nat → Int32} : dr_H e A B 0 0 w := fun _ _ _ _ h => absurd h (by omega)
theorem dr_Hput {e : Nat → Nat → Prop} {A B i j : Nat} {w : Nat → Int32} {x : Int32} (hB : B ≤ 16) (hj : j ≤ B) (h : dr_H e A B i j w) (hx : x = nI (dq_L e 0 0 i j)) : dr_H e A B i (j + 1) (upd w (17 * i + j) x) := by
  intro i' j' h1 h2 h3
  by_cases hc : 17 * i' + j' = 17 * i + j
  · have e1 : i' = i := by omega
    have e2 : j' = j := by omega
    subst e1 e2
    rw [pk_us, hx]
  · rw [pk_un hc]
    exact h i' j' h1 h2 (by omega)
theorem dr_Hrow {e : Nat → Nat → Prop} {A B i : Nat} {w : Nat → Int32} (h : dr_H e A B i (B + 1) w) : dr_H e A B (i + 1) 0 w := fun i' j' h1 h2 h3 => h i' j' h1 h2 (by omega)
/-- the reference's tail table, filled down to cell (i, j) -/
def dr_T (e : Nat → Nat → Prop) (A B i j : Nat) (w : Nat → Int32) : Prop := ∀ i' j', i' ≤ A → j' ≤ B → (i < i' ∨ (i' = i ∧ j ≤ j')) → w (17 * i' + j') = nI (dq_L e i' j' A B)
theorem dr_T0 {e : Nat → Nat → Prop} {A B : Nat} {w : Nat → Int32} : dr_T e A B A (B + 1) w := fun _ _ _ _ h => absurd h (by omega)
theorem dr_Tput {e : Nat → Nat → Prop} {A B i j : Nat} {w : Nat → Int32} {x : Int32} (hB : B ≤ 16) (hj : j ≤ B) (h : dr_T e A B i (j + 1) w) (hx : x = nI (dq_L e i j A B)) : dr_T e A B i j (upd w (17 * i + j) x) := by
  intro i' j' h1 h2 h3
  by_cases hc : 17 * i' + j' = 17 * i + j
  · have e1 : i' = i := by omega
    have e2 : j' = j := by omega
    subst e1 e2
    rw [pk_us, hx]
  · rw [pk_un hc]
    exact h i' j' h1 h2 (by omega)
theorem dr_Trow {e : Nat → Nat → Prop} {A B i : Nat} {w : Nat → Int32} (h : dr_T e A B (i + 1) 0 w) : dr_T e A B i (B + 1) w := fun i' j' h1 h2 h3 => h i' j' h1 h2 (by omega)
/-- the reference's cell values -/
theorem dr_h_mx (e : Nat → Nat → Prop) {a b m : Nat} (hm : m = dq_L e 0 0 a (b + 1) ∨ m = dq_L e 0 0 (a + 1) b) (h1 : dq_L e 0 0 a (b + 1) ≤ m) (h2 : dq_L e 0 0 (a + 1) b ≤ m) : (e a b → m ≤ dq_L e 0 0 a b + 1 ∧ dq_L e 0 0 (a + 1) (b + 1) = dq_L e 0 0 a b + 1) ∧ (¬ e a b → dq_L e 0 0 (a + 1) (b + 1) = m) := by
  have h3 := dq_b_mono e 0 0 a b
  constructor
  · intro he
    have h4 := dq_b_eq e (Nat.zero_le a) (Nat.zero_le b) he
    omega
  · intro he
    have h4 := dq_b_ne e (i := 0) (j := 0) he
    omega
theorem dr_t_mx (e : Nat → Nat → Prop) {i j a b m : Nat} (hi : i < a) (hj : j < b) (hm : m = dq_L e (i + 1) j a b ∨ m = dq_L e i (j + 1) a b) (h1 : dq_L e (i + 1) j a b ≤ m) (h2 : dq_L e i (j + 1) a b ≤ m) : (e i j → m ≤ dq_L e (i + 1) (j + 1) a b + 1 ∧ dq_L e i j a b = dq_L e (i + 1) (j + 1) a b + 1) ∧ (¬ e i j → dq_L e i j a b = m) := by
  have h3 := dq_f_mono e i j a b
  constructor
  · intro he
    have h4 := dq_f_eq e hi hj he
    omega
  · intro he
    have h4 := dq_f_ne e (a := a) (b := b) he
    omega
