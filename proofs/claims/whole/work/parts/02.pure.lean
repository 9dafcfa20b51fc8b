/-! common subsequences, told by chains of pairs: dq_C e k i j a b: k pairs, rising in both, within [i, a) and [j, b) -/
def dq_C (e : Nat → Nat → Prop) : Nat → Nat → Nat → Nat → Nat → Prop
  | 0, _, _, _, _ => True
  | k + 1, i, j, a, b => ∃ x y, i ≤ x ∧ x < a ∧ j ≤ y ∧ y < b ∧ e x y ∧ dq_C e k (x + 1) (y + 1) a b
theorem dq_Cmono {e : Nat → Nat → Prop} : ∀ (k i j a b i' j' a' b' : Nat), i' ≤ i → j' ≤ j → a ≤ a' → b ≤ b' → dq_C e k i j a b → dq_C e k i' j' a' b' := by
  intro k
  induction k with
  | zero => intros; exact trivial
  | succ k ih =>
    intro i j a b i' j' a' b' h1 h2 h3 h4 h
    obtain ⟨x, y, q1, q2, q3, q4, he, hC⟩ := h
    exact ⟨x, y, by omega, by omega, by omega, by omega, he, ih _ _ _ _ _ _ _ _ (Nat.le_refl _) (Nat.le_refl _) h3 h4 hC⟩
theorem dq_Cdown {e : Nat → Nat → Prop} : ∀ (k i j a b : Nat), dq_C e (k + 1) i j a b → dq_C e k i j a b := by
  intro k
  induction k with
  | zero => intros; exact trivial
  | succ k ih =>
    intro i j a b h
    obtain ⟨x, y, q1, q2, q3, q4, he, hC⟩ := h
    exact ⟨x, y, q1, q2, q3, q4, he, ih _ _ _ _ hC⟩
theorem dq_Cback {e : Nat → Nat → Prop} : ∀ (k i j a b : Nat), dq_C e (k + 1) i j a b ↔ ∃ x y, i ≤ x ∧ x < a ∧ j ≤ y ∧ y < b ∧ e x y ∧ dq_C e k i j x y := by
  intro k
  induction k with
  | zero =>
    intro i j a b
    constructor
    · intro h
      obtain ⟨x, y, q1, q2, q3, q4, he, hC⟩ := h
      exact ⟨x, y, q1, q2, q3, q4, he, trivial⟩
    · intro h
      obtain ⟨x, y, q1, q2, q3, q4, he, hC⟩ := h
      exact ⟨x, y, q1, q2, q3, q4, he, trivial⟩
  | succ k ih =>
    intro i j a b
    constructor
    · intro h
      obtain ⟨x, y, q1, q2, q3, q4, he, hC⟩ := h
      obtain ⟨x', y', r1, r2, r3, r4, he', hC'⟩ := (ih _ _ _ _).mp hC
      exact ⟨x', y', by omega, r2, by omega, r4, he', ⟨x, y, q1, by omega, q3, by omega, he, hC'⟩⟩
    · intro h
      obtain ⟨x', y', r1, r2, r3, r4, he', hC'⟩ := h
      obtain ⟨x, y, q1, q2, q3, q4, he, hC⟩ := hC'
      exact ⟨x, y, q1, by omega, q3, by omega, he, (ih _ _ _ _).mpr ⟨x', y', by omega, r2, by omega, r4, he', hC⟩⟩
theorem dq_Cle {e : Nat → Nat → Prop} : ∀ (k i j a b : Nat), dq_C e k i j a b → k ≤ a - i ∧ k ≤ b - j := by
  intro k
  induction k with
  | zero => intros; exact ⟨Nat.zero_le _, Nat.zero_le _⟩
  | succ k ih =>
    intro i j a b h
    obtain ⟨x, y, q1, q2, q3, q4, he, hC⟩ := h
    have := ih _ _ _ _ hC
    omega
theorem dq_ex (e : Nat → Nat → Prop) (i j a b : Nat) : ∃ v, dq_C e v i j a b ∧ ¬ dq_C e (v + 1) i j a b := by
  refine Classical.byContradiction fun h => ?_
  have H : ∀ v, dq_C e v i j a b := by
    intro v
    induction v with
    | zero => exact trivial
    | succ v ih => exact Classical.byContradiction fun hn => h ⟨v, ih, hn⟩
  have := (dq_Cle _ _ _ _ _ (H (a - i + 1))).1
  omega
/-- the most pairs of the range -/
noncomputable def dq_L (e : Nat → Nat → Prop) (i j a b : Nat) : Nat := Classical.choose (dq_ex e i j a b)
theorem dq_L_1 {e : Nat → Nat → Prop} {i j a b : Nat} : dq_C e (dq_L e i j a b) i j a b := (Classical.choose_spec (dq_ex e i j a b)).1
theorem dq_L_2 {e : Nat → Nat → Prop} {i j a b : Nat} : ¬ dq_C e (dq_L e i j a b + 1) i j a b := (Classical.choose_spec (dq_ex e i j a b)).2
theorem dq_Cge {e : Nat → Nat → Prop} {i j a b : Nat} : ∀ (d k : Nat), dq_C e (k + d) i j a b → dq_C e k i j a b := by
  intro d
  induction d with
  | zero => intro k h; exact h
  | succ d ih => intro k h; exact ih k (dq_Cdown _ _ _ _ _ h)
theorem dq_Li {e : Nat → Nat → Prop} {k i j a b : Nat} (h : dq_C e k i j a b) : k ≤ dq_L e i j a b := by
  refine Nat.le_of_not_lt fun hl => dq_L_2 (e := e) (i := i) (j := j) (a := a) (b := b) ?_
  obtain ⟨d, rfl⟩ : ∃ d, k = dq_L e i j a b + 1 + d := ⟨k - (dq_L e i j a b + 1), by omega⟩
  exact dq_Cge d _ h
theorem dq_L_le (e : Nat → Nat → Prop) (i j a b : Nat) : dq_L e i j a b ≤ a - i ∧ dq_L e i j a b ≤ b - j := dq_Cle _ _ _ _ _ dq_L_1
theorem dq_L_mono (e : Nat → Nat → Prop) {i j a b i' j' a' b' : Nat} (h1 : i' ≤ i) (h2 : j' ≤ j) (h3 : a ≤ a') (h4 : b ≤ b') : dq_L e i j a b ≤ dq_L e i' j' a' b' := dq_Li (dq_Cmono _ _ _ _ _ _ _ _ _ h1 h2 h3 h4 dq_L_1)
theorem dq_L_f (e : Nat → Nat → Prop) {i j a b x y : Nat} (h1 : i ≤ x) (h2 : x < a) (h3 : j ≤ y) (h4 : y < b) (he : e x y) : dq_L e (x + 1) (y + 1) a b + 1 ≤ dq_L e i j a b := dq_Li ⟨x, y, h1, h2, h3, h4, he, dq_L_1⟩
theorem dq_L_b (e : Nat → Nat → Prop) {i j a b x y : Nat} (h1 : i ≤ x) (h2 : x < a) (h3 : j ≤ y) (h4 : y < b) (he : e x y) : dq_L e i j x y + 1 ≤ dq_L e i j a b := dq_Li ((dq_Cback _ _ _ _ _).mpr ⟨x, y, h1, h2, h3, h4, he, dq_L_1⟩)
theorem dq_L_fx (e : Nat → Nat → Prop) {i j a b : Nat} (h : 0 < dq_L e i j a b) : ∃ x y, i ≤ x ∧ x < a ∧ j ≤ y ∧ y < b ∧ e x y ∧ dq_L e (x + 1) (y + 1) a b + 1 = dq_L e i j a b := by
  have h1 : dq_C e (dq_L e i j a b) i j a b := dq_L_1
  obtain ⟨k, hk⟩ : ∃ k, dq_L e i j a b = k + 1 := ⟨dq_L e i j a b - 1, by omega⟩
  rw [hk] at h1
  obtain ⟨x, y, q1, q2, q3, q4, he, hC⟩ := h1
  have l1 := dq_Li hC
  have l2 := dq_L_f e q1 q2 q3 q4 he
  exact ⟨x, y, q1, q2, q3, q4, he, by omega⟩
theorem dq_L_bx (e : Nat → Nat → Prop) {i j a b : Nat} (h : 0 < dq_L e i j a b) : ∃ x y, i ≤ x ∧ x < a ∧ j ≤ y ∧ y < b ∧ e x y ∧ dq_L e i j x y + 1 = dq_L e i j a b := by
  have h1 : dq_C e (dq_L e i j a b) i j a b := dq_L_1
  obtain ⟨k, hk⟩ : ∃ k, dq_L e i j a b = k + 1 := ⟨dq_L e i j a b - 1, by omega⟩
  rw [hk, dq_Cback] at h1
  obtain ⟨x, y, q1, q2, q3, q4, he, hC⟩ := h1
  have l1 := dq_Li hC
  have l2 := dq_L_b e q1 q2 q3 q4 he
  exact ⟨x, y, q1, q2, q3, q4, he, by omega⟩
theorem dq_f_eq (e : Nat → Nat → Prop) {i j a b : Nat} (h1 : i < a) (h2 : j < b) (he : e i j) : dq_L e i j a b = dq_L e (i + 1) (j + 1) a b + 1 := by
  have l1 := dq_L_f e (Nat.le_refl i) h1 (Nat.le_refl j) h2 he
  obtain ⟨x, y, q1, q2, q3, q4, _, q5⟩ := dq_L_fx e (show 0 < dq_L e i j a b by omega)
  have l2 : dq_L e (x + 1) (y + 1) a b ≤ dq_L e (i + 1) (j + 1) a b := dq_L_mono e (by omega) (by omega) (Nat.le_refl _) (Nat.le_refl _)
  omega
theorem dq_f_mono (e : Nat → Nat → Prop) (i j a b : Nat) : dq_L e (i + 1) j a b ≤ dq_L e i j a b ∧ dq_L e i (j + 1) a b ≤ dq_L e i j a b :=
  ⟨dq_L_mono e (by omega) (by omega) (Nat.le_refl _) (Nat.le_refl _), dq_L_mono e (by omega) (by omega) (Nat.le_refl _) (Nat.le_refl _)⟩
theorem dq_f_ne (e : Nat → Nat → Prop) {i j a b : Nat} (he : ¬ e i j) : dq_L e i j a b ≤ dq_L e (i + 1) j a b ∨ dq_L e i j a b ≤ dq_L e i (j + 1) a b := by
  by_cases h0 : 0 < dq_L e i j a b
  · obtain ⟨x, y, q1, q2, q3, q4, hx, q5⟩ := dq_L_fx e h0
    by_cases hi : i = x
    · by_cases hj : j = y
      · subst hi hj
        exact absurd hx he
      · have l := dq_L_f e q1 q2 (show j + 1 ≤ y by omega) q4 hx
        exact Or.inr (by omega)
    · have l := dq_L_f e (show i + 1 ≤ x by omega) q2 q3 q4 hx
      exact Or.inl (by omega)
  · exact Or.inl (by omega)
theorem dq_b_eq (e : Nat → Nat → Prop) {i j a b : Nat} (h1 : i ≤ a) (h2 : j ≤ b) (he : e a b) : dq_L e i j (a + 1) (b + 1) = dq_L e i j a b + 1 := by
  have l1 : dq_L e i j a b + 1 ≤ dq_L e i j (a + 1) (b + 1) := dq_L_b e h1 (by omega) h2 (by omega) he
  obtain ⟨x, y, q1, q2, q3, q4, _, q5⟩ := dq_L_bx e (show 0 < dq_L e i j (a + 1) (b + 1) by omega)
  have l2 : dq_L e i j x y ≤ dq_L e i j a b := dq_L_mono e (Nat.le_refl _) (Nat.le_refl _) (by omega) (by omega)
  omega
theorem dq_b_mono (e : Nat → Nat → Prop) (i j a b : Nat) : dq_L e i j a (b + 1) ≤ dq_L e i j (a + 1) (b + 1) ∧ dq_L e i j (a + 1) b ≤ dq_L e i j (a + 1) (b + 1) :=
  ⟨dq_L_mono e (Nat.le_refl _) (Nat.le_refl _) (by omega) (by omega), dq_L_mono e (Nat.le_refl _) (Nat.le_refl _) (by omega) (by omega)⟩
theorem dq_b_ne (e : Nat → Nat → Prop) {i j a b : Nat} (he : ¬ e a b) : dq_L e i j (a + 1) (b + 1) ≤ dq_L e i j a (b + 1) ∨ dq_L e i j (a + 1) (b + 1) ≤ dq_L e i j (a + 1) b := by
  by_cases h0 : 0 < dq_L e i j (a + 1) (b + 1)
  · obtain ⟨x, y, q1, q2, q3, q4, hx, q5⟩ := dq_L_bx e h0
    by_cases hi : a = x
    · by_cases hj : b = y
      · subst hi hj
        exact absurd hx he
      · have l := dq_L_b e q1 q2 q3 (show y < b by omega) hx
        exact Or.inr (by omega)
    · have l := dq_L_b e q1 (show x < a by omega) q3 q4 hx
      exact Or.inl (by omega)
  · exact Or.inl (by omega)
/-! the least list -/
def dq_K (e : Nat → Nat → Prop) (A B i q p x y : Nat) : Prop := i ≤ x ∧ x < A ∧ q ≤ y ∧ y < B ∧ e x y ∧ dq_L e (x + 1) (y + 1) A B + 1 = p
def dq_F (e : Nat → Nat → Prop) (A B i q p x y : Nat) : Prop := dq_K e A B i q p x y ∧ ∀ x' y', dq_K e A B i q p x' y' → x < x' ∨ (x = x' ∧ y ≤ y')
theorem dq_F_u {e : Nat → Nat → Prop} {A B i q p x y x' y' : Nat} (h : dq_F e A B i q p x y) (h' : dq_F e A B i q p x' y') : x = x' ∧ y = y' := by
  have h1 := h.2 _ _ h'.1
  have h2 := h'.2 _ _ h.1
  omega
theorem dq_F_ex {e : Nat → Nat → Prop} {A B i q p : Nat} (h : ∃ x y, dq_K e A B i q p x y) : ∃ x y, dq_F e A B i q p x y := by
  obtain ⟨x, ⟨y0, hx⟩, mx⟩ := pk_least (fun x => ∃ y, dq_K e A B i q p x y) h
  obtain ⟨y, hy, my⟩ := pk_least (fun y => dq_K e A B i q p x y) ⟨y0, hx⟩
  refine ⟨x, y, hy, fun x' y' h' => ?_⟩
  by_cases l : x' < x
  · exact absurd ⟨y', h'⟩ (mx x' l)
  · by_cases l2 : x < x'
    · exact Or.inl l2
    · have hxx : x = x' := by omega
      subst hxx
      refine Or.inr ⟨rfl, ?_⟩
      by_cases l3 : y' < y
      · exact absurd h' (my y' l3)
      · omega
noncomputable def dq_pr (e : Nat → Nat → Prop) (A B i q p : Nat) : Nat × Nat := Classical.epsilon (fun z : Nat × Nat => dq_F e A B i q p z.1 z.2)
theorem dq_pr_F {e : Nat → Nat → Prop} {A B i q p : Nat} (h : ∃ x y, dq_K e A B i q p x y) : dq_F e A B i q p (dq_pr e A B i q p).1 (dq_pr e A B i q p).2 := by
  obtain ⟨x, y, hF⟩ := dq_F_ex h
  exact Classical.epsilon_spec_aux _ (fun z : Nat × Nat => dq_F e A B i q p z.1 z.2) ⟨(x, y), hF⟩
/-- where the search stands after k pairs -/
noncomputable def dq_st (e : Nat → Nat → Prop) (A B : Nat) : Nat → Nat × Nat
  | 0 => (0, 0)
  | k + 1 => ((dq_pr e A B (dq_st e A B k).1 (dq_st e A B k).2 (dq_L e 0 0 A B - k)).1 + 1, (dq_pr e A B (dq_st e A B k).1 (dq_st e A B k).2 (dq_L e 0 0 A B - k)).2 + 1)
noncomputable def dq_O (e : Nat → Nat → Prop) (A B k : Nat) : Nat := (dq_pr e A B (dq_st e A B k).1 (dq_st e A B k).2 (dq_L e 0 0 A B - k)).1
noncomputable def dq_N (e : Nat → Nat → Prop) (A B k : Nat) : Nat := (dq_pr e A B (dq_st e A B k).1 (dq_st e A B k).2 (dq_L e 0 0 A B - k)).2
theorem dq_st0 (e : Nat → Nat → Prop) (A B : Nat) : (dq_st e A B 0).1 = 0 ∧ (dq_st e A B 0).2 = 0 := ⟨rfl, rfl⟩
theorem dq_stS (e : Nat → Nat → Prop) (A B k : Nat) : (dq_st e A B (k + 1)).1 = dq_O e A B k + 1 ∧ (dq_st e A B (k + 1)).2 = dq_N e A B k + 1 := ⟨rfl, rfl⟩
theorem dq_fK {e : Nat → Nat → Prop} {A B i q p : Nat} (hp : 0 < p) (h : dq_L e i q A B = p) : ∃ x y, dq_K e A B i q p x y := by
  obtain ⟨x, y, q1, q2, q3, q4, hx, q5⟩ := dq_L_fx e (show 0 < dq_L e i q A B by omega)
  exact ⟨x, y, q1, q2, q3, q4, hx, by omega⟩
theorem dq_st_L (e : Nat → Nat → Prop) (A B : Nat) : ∀ k, k ≤ dq_L e 0 0 A B → dq_L e (dq_st e A B k).1 (dq_st e A B k).2 A B = dq_L e 0 0 A B - k := by
  intro k
  induction k with
  | zero => intro _; rfl
  | succ k ih =>
    intro hk
    have hF : dq_F e A B (dq_st e A B k).1 (dq_st e A B k).2 (dq_L e 0 0 A B - k) (dq_O e A B k) (dq_N e A B k) := dq_pr_F (dq_fK (by omega) (ih (by omega)))
    have := hF.1.2.2.2.2.2
    rw [(dq_stS e A B k).1, (dq_stS e A B k).2]
    omega
theorem dq_st_F (e : Nat → Nat → Prop) (A B : Nat) {k : Nat} (hk : k < dq_L e 0 0 A B) : dq_F e A B (dq_st e A B k).1 (dq_st e A B k).2 (dq_L e 0 0 A B - k) (dq_O e A B k) (dq_N e A B k) :=
  dq_pr_F (dq_fK (by omega) (dq_st_L e A B k (by omega)))
theorem dq_st_b (e : Nat → Nat → Prop) (A B : Nat) {k : Nat} (hk : k < dq_L e 0 0 A B) : (dq_st e A B k).1 ≤ dq_O e A B k ∧ dq_O e A B k < A ∧ (dq_st e A B k).2 ≤ dq_N e A B k ∧ dq_N e A B k < B := by
  have h := (dq_st_F e A B hk).1
  exact ⟨h.1, h.2.1, h.2.2.1, h.2.2.2.1⟩
theorem dq_st_le (e : Nat → Nat → Prop) (A B : Nat) : ∀ k, k ≤ dq_L e 0 0 A B → (dq_st e A B k).1 ≤ A ∧ (dq_st e A B k).2 ≤ B := by
  intro k
  cases k with
  | zero => intro _; exact ⟨Nat.zero_le _, Nat.zero_le _⟩
  | succ k =>
    intro hk
    have h := dq_st_b e A B (show k < dq_L e 0 0 A B by omega)
    rw [(dq_stS e A B k).1, (dq_stS e A B k).2]
    omega
/-- at the pairs' places nothing is lost -/
theorem dq_at_L (e : Nat → Nat → Prop) (A B : Nat) {c i : Nat} (hc : c ≤ dq_L e 0 0 A B) (h0 : (dq_st e A B c).1 ≤ i) (h1 : c < dq_L e 0 0 A B → i ≤ dq_O e A B c) : dq_L e i (dq_st e A B c).2 A B = dq_L e 0 0 A B - c := by
  have l1 : dq_L e i (dq_st e A B c).2 A B ≤ dq_L e (dq_st e A B c).1 (dq_st e A B c).2 A B := dq_L_mono e h0 (Nat.le_refl _) (Nat.le_refl _) (Nat.le_refl _)
  have l2 := dq_st_L e A B c hc
  by_cases hn : c < dq_L e 0 0 A B
  · have h := (dq_st_F e A B hn).1
    have l3 := dq_L_f e (h1 hn) h.2.1 h.2.2.1 h.2.2.2.1 h.2.2.2.2.1
    have := h.2.2.2.2.2
    omega
  · omega
/-- the pair's own old place: its partner is the first one, and loses nothing -/
theorem dq_hit (e : Nat → Nat → Prop) (A B : Nat) {c : Nat} (hn : c < dq_L e 0 0 A B) :
    (∀ j, (dq_st e A B c).2 ≤ j → j < dq_N e A B c → ¬ e (dq_O e A B c) j) ∧ e (dq_O e A B c) (dq_N e A B c) ∧ dq_L e (dq_O e A B c + 1) (dq_N e A B c + 1) A B + 1 = dq_L e 0 0 A B - c := by
  have hF := dq_st_F e A B hn
  have h := hF.1
  refine ⟨fun j hj hl he => ?_, h.2.2.2.2.1, h.2.2.2.2.2⟩
  have l1 : dq_L e (dq_O e A B c + 1) (dq_N e A B c + 1) A B ≤ dq_L e (dq_O e A B c + 1) (j + 1) A B := dq_L_mono e (Nat.le_refl _) (by omega) (Nat.le_refl _) (Nat.le_refl _)
  have l2 := dq_L_f e h.1 h.2.1 hj (show j < B by have := h.2.2.2.1; omega) he
  have l3 := dq_st_L e A B c (by omega)
  have l4 := h.2.2.2.2.2
  have k : dq_K e A B (dq_st e A B c).1 (dq_st e A B c).2 (dq_L e 0 0 A B - c) (dq_O e A B c) j := ⟨h.1, h.2.1, hj, by have := h.2.2.2.1; omega, he, by omega⟩
  have := hF.2 _ _ k
  omega
/-- another old place: each partner loses a pair -/
theorem dq_miss (e : Nat → Nat → Prop) (A B : Nat) {c i j : Nat} (hc : c ≤ dq_L e 0 0 A B) (h0 : (dq_st e A B c).1 ≤ i) (h1 : c < dq_L e 0 0 A B → i < dq_O e A B c) (hi : i < A) (hj : (dq_st e A B c).2 ≤ j) (hjB : j < B) (he : e i j) : dq_L e (i + 1) (j + 1) A B + 1 ≠ dq_L e 0 0 A B - c := by
  intro heq
  have hn : c < dq_L e 0 0 A B := by omega
  have := (dq_st_F e A B hn).2 _ _ ⟨h0, hi, hj, hjB, he, heq⟩
  have := h1 hn
  omega
/-! the script -/
def dq_push (P : Nat × (Nat → Nat)) (v : Nat) : Nat × (Nat → Nat) := (P.1 + 1, fun t => if t = P.1 then v else P.2 t)
def dq_run (f : Nat → Nat) : Nat → Nat → Nat × (Nat → Nat) → Nat × (Nat → Nat)
  | 0, _, P => P
  | d + 1, i, P => dq_run f d (i + 1) (dq_push P (f i))
theorem dq_run_1 (f : Nat → Nat) : ∀ (d i : Nat) (P : Nat × (Nat → Nat)), (dq_run f d i P).1 = P.1 + d := by
  intro d
  induction d with
  | zero => intro i P; rfl
  | succ d ih =>
    intro i P
    show (dq_run f d (i + 1) (dq_push P (f i))).1 = P.1 + (d + 1)
    rw [ih]
    show P.1 + 1 + d = P.1 + (d + 1)
    omega
def dq_gap (g : Nat → Nat) (i i' j j' : Nat) (P : Nat × (Nat → Nat)) : Nat × (Nat → Nat) :=
  dq_run (fun y => 2 + 4 * g (16 + y)) (j' - j) j (dq_run (fun x => 1 + 4 * g x) (i' - i) i P)
theorem dq_gap_1 (g : Nat → Nat) (i i' j j' : Nat) (P : Nat × (Nat → Nat)) : (dq_gap g i i' j j' P).1 = P.1 + (i' - i) + (j' - j) := by
  unfold dq_gap
  rw [dq_run_1, dq_run_1]
def dq_E (g : Nat → Nat) (x y : Nat) : Prop := g x = g (16 + y)
noncomputable def dq_sc (g : Nat → Nat) (A B : Nat) : Nat → Nat × (Nat → Nat)
  | 0 => (0, fun _ => 0)
  | k + 1 => dq_push (dq_gap g (dq_st (dq_E g) A B k).1 (dq_O (dq_E g) A B k) (dq_st (dq_E g) A B k).2 (dq_N (dq_E g) A B k) (dq_sc g A B k)) (0 + 4 * g (dq_O (dq_E g) A B k))
noncomputable def dq_fs (g : Nat → Nat) (A B : Nat) : Nat × (Nat → Nat) :=
  dq_gap g (dq_st (dq_E g) A B (dq_L (dq_E g) 0 0 A B)).1 A (dq_st (dq_E g) A B (dq_L (dq_E g) 0 0 A B)).2 B (dq_sc g A B (dq_L (dq_E g) 0 0 A B))
theorem dq_sc_1 (g : Nat → Nat) (A B : Nat) : ∀ k, k ≤ dq_L (dq_E g) 0 0 A B → (dq_sc g A B k).1 + k = (dq_st (dq_E g) A B k).1 + (dq_st (dq_E g) A B k).2 := by
  intro k
  induction k with
  | zero => intro _; rfl
  | succ k ih =>
    intro hk
    have h := ih (by omega)
    have b := dq_st_b (dq_E g) A B (show k < dq_L (dq_E g) 0 0 A B by omega)
    rw [(dq_stS (dq_E g) A B k).1, (dq_stS (dq_E g) A B k).2]
    show (dq_gap g (dq_st (dq_E g) A B k).1 (dq_O (dq_E g) A B k) (dq_st (dq_E g) A B k).2 (dq_N (dq_E g) A B k) (dq_sc g A B k)).1 + 1 + (k + 1) = _
    rw [dq_gap_1]
    omega
/-- what the class's two step arrays hold -/
def dq_HX (a b : Nat → Int32) (P : Nat × (Nat → Nat)) : Prop := ∀ t, t < P.1 → a t = nI (P.2 t % 4) ∧ b t = nI (P.2 t / 4)
/-- what the reference's script holds -/
def dq_HY (a : Nat → Int32) (P : Nat × (Nat → Nat)) : Prop := ∀ t, t < P.1 → a t = nI (P.2 t) ∧ P.2 t < 32
theorem dq_HX_push {a b : Nat → Int32} {P : Nat × (Nat → Nat)} (h : dq_HX a b P) (k v : Nat) (hk : k < 4) : dq_HX (upd a P.1 (nI k)) (upd b P.1 (nI v)) (dq_push P (k + 4 * v)) := by
  intro t ht
  by_cases e : t = P.1
  · subst e
    rw [pk_us, pk_us]
    show nI k = nI ((if P.1 = P.1 then k + 4 * v else P.2 P.1) % 4) ∧ nI v = nI ((if P.1 = P.1 then k + 4 * v else P.2 P.1) / 4)
    rw [if_pos rfl]
    exact ⟨congrArg nI (by omega), congrArg nI (by omega)⟩
  · rw [pk_un e, pk_un e]
    show a t = nI ((if t = P.1 then k + 4 * v else P.2 t) % 4) ∧ b t = nI ((if t = P.1 then k + 4 * v else P.2 t) / 4)
    rw [if_neg e]
    have ht' : t < P.1 + 1 := ht
    exact h t (by omega)
theorem dq_HY_push {a : Nat → Int32} {P : Nat × (Nat → Nat)} (h : dq_HY a P) (v : Nat) (hv : v < 32) : dq_HY (upd a P.1 (nI v)) (dq_push P v) := by
  intro t ht
  by_cases e : t = P.1
  · subst e
    rw [pk_us]
    show nI v = nI (if P.1 = P.1 then v else P.2 P.1) ∧ (if P.1 = P.1 then v else P.2 P.1) < 32
    rw [if_pos rfl]
    exact ⟨rfl, hv⟩
  · rw [pk_un e]
    show a t = nI (if t = P.1 then v else P.2 t) ∧ (if t = P.1 then v else P.2 t) < 32
    rw [if_neg e]
    have ht' : t < P.1 + 1 := ht
    exact h t (by omega)
