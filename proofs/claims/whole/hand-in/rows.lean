section
theorem pk_us {f : Nat → Int32} {k : Nat} {x : Int32} : upd f k x k = x := if_pos rfl
theorem pk_un {f : Nat → Int32} {k j : Nat} {x : Int32} (h : j ≠ k) : upd f k x j = f j := if_neg h
theorem pk_sub {a b : Nat} (h : b ≤ a) : nI a - nI b = nI (a - b) := by
  obtain ⟨c, rfl⟩ : ∃ c, a = c + b := ⟨a - b, by omega⟩
  rw [← nI_add, Int32.add_sub_cancel, Nat.add_sub_cancel]
theorem pk_m1 (n : Nat) : nI (n + 1) + (-1) = nI n := by
  rw [← nI_1, Int32.add_assoc, show (1 : Int32) + (-1) = 0 from rfl, Int32.add_zero]
theorem pk_mul (a b : Nat) : nI a * nI b = nI (a * b) := (Int32.ofNat_mul a b).symm
theorem pk_div {a d : Nat} (ha : a < 2 ^ 31) (h0 : 0 < d) (hd : d < 2 ^ 31) : nI a / nI d = nI (a / d) := by
  apply Int32.toInt_inj.mp
  rw [lg_idiv_nonneg (by rw [nI_toInt ha]; omega) (by rw [nI_toInt hd]; omega), nI_toInt ha, nI_toInt hd, nI_toInt (Nat.lt_of_le_of_lt (Nat.div_le_self a d) ha)]
  first | rfl | exact (Int.natCast_ediv _ _).symm
theorem pk_rem {a d : Nat} (ha : a < 2 ^ 31) (h0 : 0 < d) (hd : d < 2 ^ 31) : nI a - nI a / nI d * nI d = nI (a % d) := by
  rw [pk_div ha h0 hd, pk_mul, pk_sub (Nat.div_mul_le_self a d)]
  exact congrArg nI (by have := Nat.div_add_mod' a d; omega)
theorem pk_ix (x : Int32) {n : Nat} (hn : n < 2 ^ 31) : x < 0 ∨ nI n ≤ x ∨ ∃ j : Nat, j < n ∧ x = nI j := by
  by_cases h : x < 0
  · exact Or.inl h
  · obtain ⟨j, hj, rfl⟩ := nI_of h
    by_cases h2 : j < n
    · exact Or.inr (Or.inr ⟨j, h2, rfl⟩)
    · exact Or.inr (Or.inl (nI_le (by omega) hj))
theorem pk_le {x y : Int32} {A B : Prop} (a b : Nat) (f : a ≤ b → A) (g : b < a → B) (hx : x = nI a := by rfl) (hy : y = nI b := by rfl) (ha : a < 2 ^ 31 := by omega) (hb : b < 2 ^ 31 := by omega) : (x ≤ y → A) ∧ (¬ x ≤ y → B) := by
  subst hx hy
  rw [nI_leI ha hb]
  exact ⟨f, fun z => g (by omega)⟩
theorem pk_lt {x y : Int32} {A B : Prop} (a b : Nat) (f : a < b → A) (g : b ≤ a → B) (hx : x = nI a := by rfl) (hy : y = nI b := by rfl) (ha : a < 2 ^ 31 := by omega) (hb : b < 2 ^ 31 := by omega) : (x < y → A) ∧ (¬ x < y → B) := by
  subst hx hy
  rw [nI_ltI ha hb]
  exact ⟨f, fun z => g (by omega)⟩
theorem pk_eq {x y : Int32} {A B : Prop} (a b : Nat) (f : a = b → A) (g : a ≠ b → B) (hx : x = nI a := by rfl) (hy : y = nI b := by rfl) (ha : a < 2 ^ 31 := by omega) (hb : b < 2 ^ 31 := by omega) : (x = y → A) ∧ (¬ x = y → B) := by
  subst hx hy
  rw [nI_eq ha hb]
  exact ⟨f, g⟩
theorem pk_in {x : Int32} (n N : Nat) (h : n < N) (hx : x = nI n := by rfl) (hN : N < 2 ^ 31 := by omega) : vp_in x N := by
  subst hx
  exact vp_in_nI h hN
theorem pk_cl {x : Int32} (n : Nat) (hx : x = nI n := by rfl) (h : n < 2 ^ 31 := by omega) : x.toNatClampNeg = n := by
  subst hx
  exact nI_clamp h
theorem pk_least (P : Nat → Prop) (h : ∃ k, P k) : ∃ k, P k ∧ ∀ j, j < k → ¬ P j := by
  obtain ⟨k, hk⟩ := h
  induction k using Nat.strongRecOn with
  | ind k ih =>
    by_cases e : ∃ j, j < k ∧ P j
    · obtain ⟨j, hj, pj⟩ := e
      exact ih j hj pj
    · exact ⟨k, hk, fun j hj pj => e ⟨j, hj, pj⟩⟩
end
section
/-! common subsequences, told by chains of pairs: dq_C e k i j a b: k pairs, rising in both, within [i, a) and [j, b) -/
def dq_C (e : Nat → Nat → Prop) : Nat → Nat → Nat → Nat → Nat → Prop
  | 0, _, _, _, _ => True
  | k + 1, i, j, a, b => ∃ x y, i ≤ x ∧ x < a ∧ j ≤ y ∧ y < b ∧ e x y ∧ dq_C e k (x + 1) (y + 1) a b
theorem dq_Cmono {e : Nat → Nat → Prop} : ∀ (k i j a b i' j' a' b' : Nat), i' ≤ i → j' ≤ j → a ≤ a' → b ≤ b' → dq_C e k i j a b → dq_C e k i' j' a' b' := by
  intro k
  induction k with
  | zero => intros; exact trivial
  | succ k ih =>
    intro i j a b i' j' a' b' h1 h2 h3 h4 h
    obtain ⟨x, y, q1, q2, q3, q4, he, hC⟩ := h
    exact ⟨x, y, by omega, by omega, by omega, by omega, he, ih _ _ _ _ _ _ _ _ (Nat.le_refl _) (Nat.le_refl _) h3 h4 hC⟩
theorem dq_Cdown {e : Nat → Nat → Prop} : ∀ (k i j a b : Nat), dq_C e (k + 1) i j a b → dq_C e k i j a b := by
  intro k
  induction k with
  | zero => intros; exact trivial
  | succ k ih =>
    intro i j a b h
    obtain ⟨x, y, q1, q2, q3, q4, he, hC⟩ := h
    exact ⟨x, y, q1, q2, q3, q4, he, ih _ _ _ _ hC⟩
theorem dq_Cback {e : Nat → Nat → Prop} : ∀ (k i j a b : Nat), dq_C e (k + 1) i j a b ↔ ∃ x y, i ≤ x ∧ x < a ∧ j ≤ y ∧ y < b ∧ e x y ∧ dq_C e k i j x y := by
  intro k
  induction k with
  | zero =>
    intro i j a b
    constructor
    · intro h
      obtain ⟨x, y, q1, q2, q3, q4, he, hC⟩ := h
      exact ⟨x, y, q1, q2, q3, q4, he, trivial⟩
    · intro h
      obtain ⟨x, y, q1, q2, q3, q4, he, hC⟩ := h
      exact ⟨x, y, q1, q2, q3, q4, he, trivial⟩
  | succ k ih =>
    intro i j a b
    constructor
    · intro h
      obtain ⟨x, y, q1, q2, q3, q4, he, hC⟩ := h
      obtain ⟨x', y', r1, r2, r3, r4, he', hC'⟩ := (ih _ _ _ _).mp hC
      exact ⟨x', y', by omega, r2, by omega, r4, he', ⟨x, y, q1, by omega, q3, by omega, he, hC'⟩⟩
    · intro h
      obtain ⟨x', y', r1, r2, r3, r4, he', hC'⟩ := h
      obtain ⟨x, y, q1, q2, q3, q4, he, hC⟩ := hC'
      exact ⟨x, y, q1, by omega, q3, by omega, he, (ih _ _ _ _).mpr ⟨x', y', by omega, r2, by omega, r4, he', hC⟩⟩
theorem dq_Cle {e : Nat → Nat → Prop} : ∀ (k i j a b : Nat), dq_C e k i j a b → k ≤ a - i ∧ k ≤ b - j := by
  intro k
  induction k with
  | zero => intros; exact ⟨Nat.zero_le _, Nat.zero_le _⟩
  | succ k ih =>
    intro i j a b h
    obtain ⟨x, y, q1, q2, q3, q4, he, hC⟩ := h
    have := ih _ _ _ _ hC
    omega
theorem dq_ex (e : Nat → Nat → Prop) (i j a b : Nat) : ∃ v, dq_C e v i j a b ∧ ¬ dq_C e (v + 1) i j a b := by
  refine Classical.byContradiction fun h => ?_
  have H : ∀ v, dq_C e v i j a b := by
    intro v
    induction v with
    | zero => exact trivial
    | succ v ih => exact Classical.byContradiction fun hn => h ⟨v, ih, hn⟩
  have := (dq_Cle _ _ _ _ _ (H (a - i + 1))).1
  omega
/-- the most pairs of the range -/
noncomputable def dq_L (e : Nat → Nat → Prop) (i j a b : Nat) : Nat := Classical.choose (dq_ex e i j a b)
theorem dq_L_1 {e : Nat → Nat → Prop} {i j a b : Nat} : dq_C e (dq_L e i j a b) i j a b := (Classical.choose_spec (dq_ex e i j a b)).1
theorem dq_L_2 {e : Nat → Nat → Prop} {i j a b : Nat} : ¬ dq_C e (dq_L e i j a b + 1) i j a b := (Classical.choose_spec (dq_ex e i j a b)).2
theorem dq_Cge {e : Nat → Nat → Prop} {i j a b : Nat} : ∀ (d k : Nat), dq_C e (k + d) i j a b → dq_C e k i j a b := by
  intro d
  induction d with
  | zero => intro k h; exact h
  | succ d ih => intro k h; exact ih k (dq_Cdown _ _ _ _ _ h)
theorem dq_Li {e : Nat → Nat → Prop} {k i j a b : Nat} (h : dq_C e k i j a b) : k ≤ dq_L e i j a b := by
  refine Nat.le_of_not_lt fun hl => dq_L_2 (e := e) (i := i) (j := j) (a := a) (b := b) ?_
  obtain ⟨d, rfl⟩ : ∃ d, k = dq_L e i j a b + 1 + d := ⟨k - (dq_L e i j a b + 1), by omega⟩
  exact dq_Cge d _ h
theorem dq_L_le (e : Nat → Nat → Prop) (i j a b : Nat) : dq_L e i j a b ≤ a - i ∧ dq_L e i j a b ≤ b - j := dq_Cle _ _ _ _ _ dq_L_1
theorem dq_L_mono (e : Nat → Nat → Prop) {i j a b i' j' a' b' : Nat} (h1 : i' ≤ i) (h2 : j' ≤ j) (h3 : a ≤ a') (h4 : b ≤ b') : dq_L e i j a b ≤ dq_L e i' j' a' b' := dq_Li (dq_Cmono _ _ _ _ _ _ _ _ _ h1 h2 h3 h4 dq_L_1)
theorem dq_L_f (e : Nat → Nat → Prop) {i j a b x y : Nat} (h1 : i ≤ x) (h2 : x < a) (h3 : j ≤ y) (h4 : y < b) (he : e x y) : dq_L e (x + 1) (y + 1) a b + 1 ≤ dq_L e i j a b := dq_Li ⟨x, y, h1, h2, h3, h4, he, dq_L_1⟩
theorem dq_L_b (e : Nat → Nat → Prop) {i j a b x y : Nat} (h1 : i ≤ x) (h2 : x < a) (h3 : j ≤ y) (h4 : y < b) (he : e x y) : dq_L e i j x y + 1 ≤ dq_L e i j a b := dq_Li ((dq_Cback _ _ _ _ _).mpr ⟨x, y, h1, h2, h3, h4, he, dq_L_1⟩)
theorem dq_L_fx (e : Nat → Nat → Prop) {i j a b : Nat} (h : 0 < dq_L e i j a b) : ∃ x y, i ≤ x ∧ x < a ∧ j ≤ y ∧ y < b ∧ e x y ∧ dq_L e (x + 1) (y + 1) a b + 1 = dq_L e i j a b := by
  have h1 : dq_C e (dq_L e i j a b) i j a b := dq_L_1
  obtain ⟨k, hk⟩ : ∃ k, dq_L e i j a b = k + 1 := ⟨dq_L e i j a b - 1, by omega⟩
  rw [hk] at h1
  obtain ⟨x, y, q1, q2, q3, q4, he, hC⟩ := h1
  have l1 := dq_Li hC
  have l2 := dq_L_f e q1 q2 q3 q4 he
  exact ⟨x, y, q1, q2, q3, q4, he, by omega⟩
theorem dq_L_bx (e : Nat → Nat → Prop) {i j a b : Nat} (h : 0 < dq_L e i j a b) : ∃ x y, i ≤ x ∧ x < a ∧ j ≤ y ∧ y < b ∧ e x y ∧ dq_L e i j x y + 1 = dq_L e i j a b := by
  have h1 : dq_C e (dq_L e i j a b) i j a b := dq_L_1
  obtain ⟨k, hk⟩ : ∃ k, dq_L e i j a b = k + 1 := ⟨dq_L e i j a b - 1, by omega⟩
  rw [hk, dq_Cback] at h1
  obtain ⟨x, y, q1, q2, q3, q4, he, hC⟩ := h1
  have l1 := dq_Li hC
  have l2 := dq_L_b e q1 q2 q3 q4 he
  exact ⟨x, y, q1, q2, q3, q4, he, by omega⟩
theorem dq_f_eq (e : Nat → Nat → Prop) {i j a b : Nat} (h1 : i < a) (h2 : j < b) (he : e i j) : dq_L e i j a b = dq_L e (i + 1) (j + 1) a b + 1 := by
  have l1 := dq_L_f e (Nat.le_refl i) h1 (Nat.le_refl j) h2 he
  obtain ⟨x, y, q1, q2, q3, q4, _, q5⟩ := dq_L_fx e (show 0 < dq_L e i j a b by omega)
  have l2 : dq_L e (x + 1) (y + 1) a b ≤ dq_L e (i + 1) (j + 1) a b := dq_L_mono e (by omega) (by omega) (Nat.le_refl _) (Nat.le_refl _)
  omega
theorem dq_f_mono (e : Nat → Nat → Prop) (i j a b : Nat) : dq_L e (i + 1) j a b ≤ dq_L e i j a b ∧ dq_L e i (j + 1) a b ≤ dq_L e i j a b :=
  ⟨dq_L_mono e (by omega) (by omega) (Nat.le_refl _) (Nat.le_refl _), dq_L_mono e (by omega) (by omega) (Nat.le_refl _) (Nat.le_refl _)⟩
theorem dq_f_ne (e : Nat → Nat → Prop) {i j a b : Nat} (he : ¬ e i j) : dq_L e i j a b ≤ dq_L e (i + 1) j a b ∨ dq_L e i j a b ≤ dq_L e i (j + 1) a b := by
  by_cases h0 : 0 < dq_L e i j a b
  · obtain ⟨x, y, q1, q2, q3, q4, hx, q5⟩ := dq_L_fx e h0
    by_cases hi : i = x
    · by_cases hj : j = y
      · subst hi hj
        exact absurd hx he
      · have l := dq_L_f e q1 q2 (show j + 1 ≤ y by omega) q4 hx
        exact Or.inr (by omega)
    · have l := dq_L_f e (show i + 1 ≤ x by omega) q2 q3 q4 hx
      exact Or.inl (by omega)
  · exact Or.inl (by omega)
theorem dq_b_eq (e : Nat → Nat → Prop) {i j a b : Nat} (h1 : i ≤ a) (h2 : j ≤ b) (he : e a b) : dq_L e i j (a + 1) (b + 1) = dq_L e i j a b + 1 := by
  have l1 : dq_L e i j a b + 1 ≤ dq_L e i j (a + 1) (b + 1) := dq_L_b e h1 (by omega) h2 (by omega) he
  obtain ⟨x, y, q1, q2, q3, q4, _, q5⟩ := dq_L_bx e (show 0 < dq_L e i j (a + 1) (b + 1) by omega)
  have l2 : dq_L e i j x y ≤ dq_L e i j a b := dq_L_mono e (Nat.le_refl _) (Nat.le_refl _) (by omega) (by omega)
  omega
theorem dq_b_mono (e : Nat → Nat → Prop) (i j a b : Nat) : dq_L e i j a (b + 1) ≤ dq_L e i j (a + 1) (b + 1) ∧ dq_L e i j (a + 1) b ≤ dq_L e i j (a + 1) (b + 1) :=
  ⟨dq_L_mono e (Nat.le_refl _) (Nat.le_refl _) (by omega) (by omega), dq_L_mono e (Nat.le_refl _) (Nat.le_refl _) (by omega) (by omega)⟩
theorem dq_b_ne (e : Nat → Nat → Prop) {i j a b : Nat} (he : ¬ e a b) : dq_L e i j (a + 1) (b + 1) ≤ dq_L e i j a (b + 1) ∨ dq_L e i j (a + 1) (b + 1) ≤ dq_L e i j (a + 1) b := by
  by_cases h0 : 0 < dq_L e i j (a + 1) (b + 1)
  · obtain ⟨x, y, q1, q2, q3, q4, hx, q5⟩ := dq_L_bx e h0
    by_cases hi : a = x
    · by_cases hj : b = y
      · subst hi hj
        exact absurd hx he
      · have l := dq_L_b e q1 q2 q3 (show y < b by omega) hx
        exact Or.inr (by omega)
    · have l := dq_L_b e q1 (show x < a by omega) q3 q4 hx
      exact Or.inl (by omega)
  · exact Or.inl (by omega)
/-! the least list -/
def dq_K (e : Nat → Nat → Prop) (A B i q p x y : Nat) : Prop := i ≤ x ∧ x < A ∧ q ≤ y ∧ y < B ∧ e x y ∧ dq_L e (x + 1) (y + 1) A B + 1 = p
def dq_F (e : Nat → Nat → Prop) (A B i q p x y : Nat) : Prop := dq_K e A B i q p x y ∧ ∀ x' y', dq_K e A B i q p x' y' → x < x' ∨ (x = x' ∧ y ≤ y')
theorem dq_F_u {e : Nat → Nat → Prop} {A B i q p x y x' y' : Nat} (h : dq_F e A B i q p x y) (h' : dq_F e A B i q p x' y') : x = x' ∧ y = y' := by
  have h1 := h.2 _ _ h'.1
  have h2 := h'.2 _ _ h.1
  omega
theorem dq_F_ex {e : Nat → Nat → Prop} {A B i q p : Nat} (h : ∃ x y, dq_K e A B i q p x y) : ∃ x y, dq_F e A B i q p x y := by
  obtain ⟨x, ⟨y0, hx⟩, mx⟩ := pk_least (fun x => ∃ y, dq_K e A B i q p x y) h
  obtain ⟨y, hy, my⟩ := pk_least (fun y => dq_K e A B i q p x y) ⟨y0, hx⟩
  refine ⟨x, y, hy, fun x' y' h' => ?_⟩
  by_cases l : x' < x
  · exact absurd ⟨y', h'⟩ (mx x' l)
  · by_cases l2 : x < x'
    · exact Or.inl l2
    · have hxx : x = x' := by omega
      subst hxx
      refine Or.inr ⟨rfl, ?_⟩
      by_cases l3 : y' < y
      · exact absurd h' (my y' l3)
      · omega
noncomputable def dq_pr (e : Nat → Nat → Prop) (A B i q p : Nat) : Nat × Nat := Classical.epsilon (fun z : Nat × Nat => dq_F e A B i q p z.1 z.2)
theorem dq_pr_F {e : Nat → Nat → Prop} {A B i q p : Nat} (h : ∃ x y, dq_K e A B i q p x y) : dq_F e A B i q p (dq_pr e A B i q p).1 (dq_pr e A B i q p).2 := by
  obtain ⟨x, y, hF⟩ := dq_F_ex h
  exact Classical.epsilon_spec_aux _ (fun z : Nat × Nat => dq_F e A B i q p z.1 z.2) ⟨(x, y), hF⟩
/-- where the search stands after k pairs -/
noncomputable def dq_st (e : Nat → Nat → Prop) (A B : Nat) : Nat → Nat × Nat
  | 0 => (0, 0)
  | k + 1 => ((dq_pr e A B (dq_st e A B k).1 (dq_st e A B k).2 (dq_L e 0 0 A B - k)).1 + 1, (dq_pr e A B (dq_st e A B k).1 (dq_st e A B k).2 (dq_L e 0 0 A B - k)).2 + 1)
noncomputable def dq_O (e : Nat → Nat → Prop) (A B k : Nat) : Nat := (dq_pr e A B (dq_st e A B k).1 (dq_st e A B k).2 (dq_L e 0 0 A B - k)).1
noncomputable def dq_N (e : Nat → Nat → Prop) (A B k : Nat) : Nat := (dq_pr e A B (dq_st e A B k).1 (dq_st e A B k).2 (dq_L e 0 0 A B - k)).2
theorem dq_st0 (e : Nat → Nat → Prop) (A B : Nat) : (dq_st e A B 0).1 = 0 ∧ (dq_st e A B 0).2 = 0 := ⟨rfl, rfl⟩
theorem dq_stS (e : Nat → Nat → Prop) (A B k : Nat) : (dq_st e A B (k + 1)).1 = dq_O e A B k + 1 ∧ (dq_st e A B (k + 1)).2 = dq_N e A B k + 1 := ⟨rfl, rfl⟩
theorem dq_fK {e : Nat → Nat → Prop} {A B i q p : Nat} (hp : 0 < p) (h : dq_L e i q A B = p) : ∃ x y, dq_K e A B i q p x y := by
  obtain ⟨x, y, q1, q2, q3, q4, hx, q5⟩ := dq_L_fx e (show 0 < dq_L e i q A B by omega)
  exact ⟨x, y, q1, q2, q3, q4, hx, by omega⟩
theorem dq_st_L (e : Nat → Nat → Prop) (A B : Nat) : ∀ k, k ≤ dq_L e 0 0 A B → dq_L e (dq_st e A B k).1 (dq_st e A B k).2 A B = dq_L e 0 0 A B - k := by
  intro k
  induction k with
  | zero => intro _; rfl
  | succ k ih =>
    intro hk
    have hF : dq_F e A B (dq_st e A B k).1 (dq_st e A B k).2 (dq_L e 0 0 A B - k) (dq_O e A B k) (dq_N e A B k) := dq_pr_F (dq_fK (by omega) (ih (by omega)))
    have := hF.1.2.2.2.2.2
    rw [(dq_stS e A B k).1, (dq_stS e A B k).2]
    omega
theorem dq_st_F (e : Nat → Nat → Prop) (A B : Nat) {k : Nat} (hk : k < dq_L e 0 0 A B) : dq_F e A B (dq_st e A B k).1 (dq_st e A B k).2 (dq_L e 0 0 A B - k) (dq_O e A B k) (dq_N e A B k) :=
  dq_pr_F (dq_fK (by omega) (dq_st_L e A B k (by omega)))
theorem dq_st_b (e : Nat → Nat → Prop) (A B : Nat) {k : Nat} (hk : k < dq_L e 0 0 A B) : (dq_st e A B k).1 ≤ dq_O e A B k ∧ dq_O e A B k < A ∧ (dq_st e A B k).2 ≤ dq_N e A B k ∧ dq_N e A B k < B := by
  have h := (dq_st_F e A B hk).1
  exact ⟨h.1, h.2.1, h.2.2.1, h.2.2.2.1⟩
theorem dq_st_le (e : Nat → Nat → Prop) (A B : Nat) : ∀ k, k ≤ dq_L e 0 0 A B → (dq_st e A B k).1 ≤ A ∧ (dq_st e A B k).2 ≤ B := by
  intro k
  cases k with
  | zero => intro _; exact ⟨Nat.zero_le _, Nat.zero_le _⟩
  | succ k =>
    intro hk
    have h := dq_st_b e A B (show k < dq_L e 0 0 A B by omega)
    rw [(dq_stS e A B k).1, (dq_stS e A B k).2]
    omega
/-- at the pairs' places nothing is lost -/
theorem dq_at_L (e : Nat → Nat → Prop) (A B : Nat) {c i : Nat} (hc : c ≤ dq_L e 0 0 A B) (h0 : (dq_st e A B c).1 ≤ i) (h1 : c < dq_L e 0 0 A B → i ≤ dq_O e A B c) : dq_L e i (dq_st e A B c).2 A B = dq_L e 0 0 A B - c := by
  have l1 : dq_L e i (dq_st e A B c).2 A B ≤ dq_L e (dq_st e A B c).1 (dq_st e A B c).2 A B := dq_L_mono e h0 (Nat.le_refl _) (Nat.le_refl _) (Nat.le_refl _)
  have l2 := dq_st_L e A B c hc
  by_cases hn : c < dq_L e 0 0 A B
  · have h := (dq_st_F e A B hn).1
    have l3 := dq_L_f e (h1 hn) h.2.1 h.2.2.1 h.2.2.2.1 h.2.2.2.2.1
    have := h.2.2.2.2.2
    omega
  · omega
/-- the pair's own old place: its partner is the first one, and loses nothing -/
theorem dq_hit (e : Nat → Nat → Prop) (A B : Nat) {c : Nat} (hn : c < dq_L e 0 0 A B) :
    (∀ j, (dq_st e A B c).2 ≤ j → j < dq_N e A B c → ¬ e (dq_O e A B c) j) ∧ e (dq_O e A B c) (dq_N e A B c) ∧ dq_L e (dq_O e A B c + 1) (dq_N e A B c + 1) A B + 1 = dq_L e 0 0 A B - c := by
  have hF := dq_st_F e A B hn
  have h := hF.1
  refine ⟨fun j hj hl he => ?_, h.2.2.2.2.1, h.2.2.2.2.2⟩
  have l1 : dq_L e (dq_O e A B c + 1) (dq_N e A B c + 1) A B ≤ dq_L e (dq_O e A B c + 1) (j + 1) A B := dq_L_mono e (Nat.le_refl _) (by omega) (Nat.le_refl _) (Nat.le_refl _)
  have l2 := dq_L_f e h.1 h.2.1 hj (show j < B by have := h.2.2.2.1; omega) he
  have l3 := dq_st_L e A B c (by omega)
  have l4 := h.2.2.2.2.2
  have k : dq_K e A B (dq_st e A B c).1 (dq_st e A B c).2 (dq_L e 0 0 A B - c) (dq_O e A B c) j := ⟨h.1, h.2.1, hj, by have := h.2.2.2.1; omega, he, by omega⟩
  have := hF.2 _ _ k
  omega
/-- another old place: each partner loses a pair -/
theorem dq_miss (e : Nat → Nat → Prop) (A B : Nat) {c i j : Nat} (hc : c ≤ dq_L e 0 0 A B) (h0 : (dq_st e A B c).1 ≤ i) (h1 : c < dq_L e 0 0 A B → i < dq_O e A B c) (hi : i < A) (hj : (dq_st e A B c).2 ≤ j) (hjB : j < B) (he : e i j) : dq_L e (i + 1) (j + 1) A B + 1 ≠ dq_L e 0 0 A B - c := by
  intro heq
  have hn : c < dq_L e 0 0 A B := by omega
  have := (dq_st_F e A B hn).2 _ _ ⟨h0, hi, hj, hjB, he, heq⟩
  have := h1 hn
  omega
/-! the script -/
def dq_push (P : Nat × (Nat → Nat)) (v : Nat) : Nat × (Nat → Nat) := (P.1 + 1, fun t => if t = P.1 then v else P.2 t)
def dq_run (f : Nat → Nat) : Nat → Nat → Nat × (Nat → Nat) → Nat × (Nat → Nat)
  | 0, _, P => P
  | d + 1, i, P => dq_run f d (i + 1) (dq_push P (f i))
theorem dq_run_1 (f : Nat → Nat) : ∀ (d i : Nat) (P : Nat × (Nat → Nat)), (dq_run f d i P).1 = P.1 + d := by
  intro d
  induction d with
  | zero => intro i P; rfl
  | succ d ih =>
    intro i P
    show (dq_run f d (i + 1) (dq_push P (f i))).1 = P.1 + (d + 1)
    rw [ih]
    show P.1 + 1 + d = P.1 + (d + 1)
    omega
def dq_gap (g : Nat → Nat) (i i' j j' : Nat) (P : Nat × (Nat → Nat)) : Nat × (Nat → Nat) :=
  dq_run (fun y => 2 + 4 * g (16 + y)) (j' - j) j (dq_run (fun x => 1 + 4 * g x) (i' - i) i P)
theorem dq_gap_1 (g : Nat → Nat) (i i' j j' : Nat) (P : Nat × (Nat → Nat)) : (dq_gap g i i' j j' P).1 = P.1 + (i' - i) + (j' - j) := by
  unfold dq_gap
  rw [dq_run_1, dq_run_1]
def dq_E (g : Nat → Nat) (x y : Nat) : Prop := g x = g (16 + y)
noncomputable def dq_sc (g : Nat → Nat) (A B : Nat) : Nat → Nat × (Nat → Nat)
  | 0 => (0, fun _ => 0)
  | k + 1 => dq_push (dq_gap g (dq_st (dq_E g) A B k).1 (dq_O (dq_E g) A B k) (dq_st (dq_E g) A B k).2 (dq_N (dq_E g) A B k) (dq_sc g A B k)) (0 + 4 * g (dq_O (dq_E g) A B k))
noncomputable def dq_fs (g : Nat → Nat) (A B : Nat) : Nat × (Nat → Nat) :=
  dq_gap g (dq_st (dq_E g) A B (dq_L (dq_E g) 0 0 A B)).1 A (dq_st (dq_E g) A B (dq_L (dq_E g) 0 0 A B)).2 B (dq_sc g A B (dq_L (dq_E g) 0 0 A B))
theorem dq_sc_1 (g : Nat → Nat) (A B : Nat) : ∀ k, k ≤ dq_L (dq_E g) 0 0 A B → (dq_sc g A B k).1 + k = (dq_st (dq_E g) A B k).1 + (dq_st (dq_E g) A B k).2 := by
  intro k
  induction k with
  | zero => intro _; rfl
  | succ k ih =>
    intro hk
    have h := ih (by omega)
    have b := dq_st_b (dq_E g) A B (show k < dq_L (dq_E g) 0 0 A B by omega)
    rw [(dq_stS (dq_E g) A B k).1, (dq_stS (dq_E g) A B k).2]
    show (dq_gap g (dq_st (dq_E g) A B k).1 (dq_O (dq_E g) A B k) (dq_st (dq_E g) A B k).2 (dq_N (dq_E g) A B k) (dq_sc g A B k)).1 + 1 + (k + 1) = _
    rw [dq_gap_1]
    omega
/-- what the class's two step arrays hold -/
def dq_HX (a b : Nat → Int32) (P : Nat × (Nat → Nat)) : Prop := ∀ t, t < P.1 → a t = nI (P.2 t % 4) ∧ b t = nI (P.2 t / 4)
/-- what the reference's script holds -/
def dq_HY (a : Nat → Int32) (P : Nat × (Nat → Nat)) : Prop := ∀ t, t < P.1 → a t = nI (P.2 t) ∧ P.2 t < 32
theorem dq_HX_push {a b : Nat → Int32} {P : Nat × (Nat → Nat)} (h : dq_HX a b P) (k v : Nat) (hk : k < 4) : dq_HX (upd a P.1 (nI k)) (upd b P.1 (nI v)) (dq_push P (k + 4 * v)) := by
  intro t ht
  by_cases e : t = P.1
  · subst e
    rw [pk_us, pk_us]
    show nI k = nI ((if P.1 = P.1 then k + 4 * v else P.2 P.1) % 4) ∧ nI v = nI ((if P.1 = P.1 then k + 4 * v else P.2 P.1) / 4)
    rw [if_pos rfl]
    exact ⟨congrArg nI (by omega), congrArg nI (by omega)⟩
  · rw [pk_un e, pk_un e]
    show a t = nI ((if t = P.1 then k + 4 * v else P.2 t) % 4) ∧ b t = nI ((if t = P.1 then k + 4 * v else P.2 t) / 4)
    rw [if_neg e]
    have ht' : t < P.1 + 1 := ht
    exact h t (by omega)
theorem dq_HY_push {a : Nat → Int32} {P : Nat × (Nat → Nat)} (h : dq_HY a P) (v : Nat) (hv : v < 32) : dq_HY (upd a P.1 (nI v)) (dq_push P v) := by
  intro t ht
  by_cases e : t = P.1
  · subst e
    rw [pk_us]
    show nI v = nI (if P.1 = P.1 then v else P.2 P.1) ∧ (if P.1 = P.1 then v else P.2 P.1) < 32
    rw [if_pos rfl]
    exact ⟨rfl, hv⟩
  · rw [pk_un e]
    show a t = nI (if t = P.1 then v else P.2 t) ∧ (if t = P.1 then v else P.2 t) < 32
    rw [if_neg e]
    have ht' : t < P.1 + 1 := ht
    exact h t (by omega)
end
section
/-! the tables: what a row, the head table and the tail table hold on the way -/
/-- the class's row: cells up to j hold the new row, the cells behind it the old one -/
def dr_W (e : Nat → Nat → Prop) (i0 j0 j1 i j : Nat) (w : Nat → Int32) : Prop := (∀ t, j0 ≤ t → t ≤ j → w t = nI (dq_L e i0 j0 (i + 1) t)) ∧ (∀ t, j < t → t ≤ j1 → w t = nI (dq_L e i0 j0 i t))
/-- the class's row between two old places -/
def dr_V (e : Nat → Nat → Prop) (i0 j0 j1 i : Nat) (w : Nat → Int32) : Prop := ∀ t, j0 ≤ t → t ≤ j1 → w t = nI (dq_L e i0 j0 i t)
theorem dr_L0j (e : Nat → Nat → Prop) (i j a b : Nat) (h : b ≤ j) : dq_L e i j a b = 0 := by
  have := dq_L_le e i j a b
  omega
theorem dr_L0i (e : Nat → Nat → Prop) (i j a b : Nat) (h : a ≤ i) : dq_L e i j a b = 0 := by
  have := dq_L_le e i j a b
  omega
theorem dr_V0 {e : Nat → Nat → Prop} {i0 j0 j1 : Nat} {w : Nat → Int32} (h : ∀ t, t < 17 → w t = 0) (hj : j1 ≤ 16) : dr_V e i0 j0 j1 i0 w := by
  intro t h1 h2
  rw [h t (by omega), dr_L0i e i0 j0 i0 t (Nat.le_refl _), nI_0]
theorem dr_VW {e : Nat → Nat → Prop} {i0 j0 j1 i : Nat} {w : Nat → Int32} (hj : j0 ≤ j1) (h : dr_V e i0 j0 j1 i w) : dr_W e i0 j0 j1 i j0 w := by
  constructor
  · intro t h1 h2
    have ht : t = j0 := by omega
    subst ht
    rw [h t (Nat.le_refl _) hj, dr_L0j e i0 t i t (Nat.le_refl _), dr_L0j e i0 t (i + 1) t (Nat.le_refl _)]
  · intro t h1 h2
    exact h t (by omega) h2
theorem dr_WV {e : Nat → Nat → Prop} {i0 j0 j1 i : Nat} {w : Nat → Int32} (h : dr_W e i0 j0 j1 i j1 w) : dr_V e i0 j0 j1 (i + 1) w := fun t h1 h2 => h.1 t h1 h2
theorem dr_Wput {e : Nat → Nat → Prop} {i0 j0 j1 i j : Nat} {w : Nat → Int32} {x : Int32} (h : dr_W e i0 j0 j1 i j w) (hx : x = nI (dq_L e i0 j0 (i + 1) (j + 1))) : dr_W e i0 j0 j1 i (j + 1) (upd w (j + 1) x) := by
  constructor
  · intro t h1 h2
    by_cases ht : t = j + 1
    · subst ht
      rw [pk_us, hx]
    · rw [pk_un ht]
      exact h.1 t h1 (by omega)
  · intro t h1 h2
    rw [pk_un (by omega)]
    exact h.2 t (by omega) h2
theorem dr_Wkeep {e : Nat → Nat → Prop} {i0 j0 j1 i j : Nat} {w : Nat → Int32} (h : dr_W e i0 j0 j1 i j w) (hx : w (j + 1) = nI (dq_L e i0 j0 (i + 1) (j + 1))) : dr_W e i0 j0 j1 i (j + 1) w := by
  constructor
  · intro t h1 h2
    by_cases ht : t = j + 1
    · subst ht
      exact hx
    · exact h.1 t h1 (by omega)
  · intro t h1 h2
    exact h.2 t (by omega) h2
theorem dr_b_l (e : Nat → Nat → Prop) {i j a b : Nat} (he : ¬ e a b) (h : dq_L e i j a (b + 1) < dq_L e i j (a + 1) b) : dq_L e i j (a + 1) (b + 1) = dq_L e i j (a + 1) b := by
  have h1 := dq_b_ne e (i := i) (j := j) he
  have h2 := dq_b_mono e i j a b
  omega
theorem dr_b_a (e : Nat → Nat → Prop) {i j a b : Nat} (he : ¬ e a b) (h : dq_L e i j (a + 1) b ≤ dq_L e i j a (b + 1)) : dq_L e i j (a + 1) (b + 1) = dq_L e i j a (b + 1) := by
  have h1 := dq_b_ne e (i := i) (j := j) he
  have h2 := dq_b_mono e i j a b
  omega
/-- the reference's head table, filled up to cell (i, j) -/
def dr_H (e : Nat → Nat → Prop) (A B i j : Nat) (w : Nat → Int32) : Prop := ∀ i' j', i' ≤ A → j' ≤ B → (i' < i ∨ (i' = i ∧ j' < j)) → w (17 * i' + j') = nI (dq_L e 0 0 i' j')
theorem dr_H0 {e : Nat → Nat → Prop} {A B : Nat} {w : Nat → Int32} : dr_H e A B 0 0 w := fun _ _ _ _ h => absurd h (by omega)
theorem dr_Hput {e : Nat → Nat → Prop} {A B i j : Nat} {w : Nat → Int32} {x : Int32} (hB : B ≤ 16) (hj : j ≤ B) (h : dr_H e A B i j w) (hx : x = nI (dq_L e 0 0 i j)) : dr_H e A B i (j + 1) (upd w (17 * i + j) x) := by
  intro i' j' h1 h2 h3
  by_cases hc : 17 * i' + j' = 17 * i + j
  · have e1 : i' = i := by omega
    have e2 : j' = j := by omega
    subst e1 e2
    rw [pk_us, hx]
  · rw [pk_un hc]
    exact h i' j' h1 h2 (by omega)
theorem dr_Hrow {e : Nat → Nat → Prop} {A B i : Nat} {w : Nat → Int32} (h : dr_H e A B i (B + 1) w) : dr_H e A B (i + 1) 0 w := fun i' j' h1 h2 h3 => h i' j' h1 h2 (by omega)
/-- the reference's tail table, filled down to cell (i, j) -/
def dr_T (e : Nat → Nat → Prop) (A B i j : Nat) (w : Nat → Int32) : Prop := ∀ i' j', i' ≤ A → j' ≤ B → (i < i' ∨ (i' = i ∧ j ≤ j')) → w (17 * i' + j') = nI (dq_L e i' j' A B)
theorem dr_T0 {e : Nat → Nat → Prop} {A B : Nat} {w : Nat → Int32} : dr_T e A B A (B + 1) w := fun _ _ _ _ h => absurd h (by omega)
theorem dr_Tput {e : Nat → Nat → Prop} {A B i j : Nat} {w : Nat → Int32} {x : Int32} (hB : B ≤ 16) (hj : j ≤ B) (h : dr_T e A B i (j + 1) w) (hx : x = nI (dq_L e i j A B)) : dr_T e A B i j (upd w (17 * i + j) x) := by
  intro i' j' h1 h2 h3
  by_cases hc : 17 * i' + j' = 17 * i + j
  · have e1 : i' = i := by omega
    have e2 : j' = j := by omega
    subst e1 e2
    rw [pk_us, hx]
  · rw [pk_un hc]
    exact h i' j' h1 h2 (by omega)
theorem dr_Trow {e : Nat → Nat → Prop} {A B i : Nat} {w : Nat → Int32} (h : dr_T e A B (i + 1) 0 w) : dr_T e A B i (B + 1) w := fun i' j' h1 h2 h3 => h i' j' h1 h2 (by omega)
/-- the reference's cell values -/
theorem dr_h_mx (e : Nat → Nat → Prop) {a b m : Nat} (hm : m = dq_L e 0 0 a (b + 1) ∨ m = dq_L e 0 0 (a + 1) b) (h1 : dq_L e 0 0 a (b + 1) ≤ m) (h2 : dq_L e 0 0 (a + 1) b ≤ m) : (e a b → m ≤ dq_L e 0 0 a b + 1 ∧ dq_L e 0 0 (a + 1) (b + 1) = dq_L e 0 0 a b + 1) ∧ (¬ e a b → dq_L e 0 0 (a + 1) (b + 1) = m) := by
  have h3 := dq_b_mono e 0 0 a b
  constructor
  · intro he
    have h4 := dq_b_eq e (Nat.zero_le a) (Nat.zero_le b) he
    omega
  · intro he
    have h4 := dq_b_ne e (i := 0) (j := 0) he
    omega
theorem dr_t_mx (e : Nat → Nat → Prop) {i j a b m : Nat} (hi : i < a) (hj : j < b) (hm : m = dq_L e (i + 1) j a b ∨ m = dq_L e i (j + 1) a b) (h1 : dq_L e (i + 1) j a b ≤ m) (h2 : dq_L e i (j + 1) a b ≤ m) : (e i j → m ≤ dq_L e (i + 1) (j + 1) a b + 1 ∧ dq_L e i j a b = dq_L e (i + 1) (j + 1) a b + 1) ∧ (¬ e i j → dq_L e i j a b = m) := by
  have h3 := dq_f_mono e i j a b
  constructor
  · intro he
    have h4 := dq_f_eq e hi hj he
    omega
  · intro he
    have h4 := dq_f_ne e (a := a) (b := b) he
    omega
end
section
/-! numbers as the print has them -/
theorem ds_16p (a : Nat) : 16 + nI a = nI (16 + a) := nI_add 16 a
theorem ds_m16 (a : Nat) : nI a * 16 = nI (a * 16) := pk_mul a 16
theorem ds_16m (a : Nat) : 16 * nI a = nI (16 * a) := pk_mul 16 a
theorem ds_17m (a : Nat) : 17 * nI a = nI (17 * a) := pk_mul 17 a
theorem ds_4m (a : Nat) : 4 * nI a = nI (4 * a) := pk_mul 4 a
theorem ds_2m (a : Nat) : 2 * nI a = nI (2 * a) := pk_mul 2 a
theorem ds_p17 (a : Nat) : nI a + 17 = nI (a + 17) := nI_add a 17
theorem ds_p18 (a : Nat) : nI a + 18 = nI (a + 18) := nI_add a 18
theorem ds_s17 {a : Nat} (h : 17 ≤ a) : nI a - 17 = nI (a - 17) := pk_sub (b := 17) h
theorem ds_s18 {a : Nat} (h : 18 ≤ a) : nI a - 18 = nI (a - 18) := pk_sub (b := 18) h
theorem ds_s1 {a : Nat} (h : 1 ≤ a) : nI a - 1 = nI (a - 1) := pk_sub (b := 1) h
theorem ds_c0 : (0 : Int32).toNatClampNeg = 0 := by decide
theorem ds_c1 : (1 : Int32).toNatClampNeg = 1 := by decide
theorem ds_ne {a b : Nat} (ha : a < 2 ^ 31) (hb : b < 2 ^ 31) (h : a ≠ b) : ¬ nI a = nI b := fun z => h ((nI_eq ha hb).mp z)
theorem ds_nm1 {a : Nat} (h : a < 2 ^ 31) : ¬ nI a = -1 := by
  intro e
  have h1 := nI_pos (n := a) h
  rw [e] at h1
  exact h1 (by decide)
theorem ds_neg0 : nI 0 + (-1) < 0 := by decide +kernel
/-- an int is negative, or at least n, or one of the numbers below n -/
theorem ds_lt {x : Int32} {n : Nat} (hn : n < 2 ^ 31) (h0 : ¬ x < 0) (h : x < nI n) : ∃ j, j < n ∧ x = nI j := by
  obtain ⟨j, hj, rfl⟩ := nI_of h0
  exact ⟨j, (nI_ltI hj hn).mp h, rfl⟩
theorem ds_le {x : Int32} {n : Nat} (hn : n < 2 ^ 31) (h0 : ¬ x < 0) (h : x ≤ nI n) : ∃ j, j ≤ n ∧ x = nI j := by
  obtain ⟨j, hj, rfl⟩ := nI_of h0
  exact ⟨j, (nI_leI hj hn).mp h, rfl⟩
theorem ds_gt {x : Int32} {n : Nat} (hn : n < 2 ^ 31) (h0 : ¬ x < 0) (h : ¬ x < nI n) : ∃ j, n ≤ j ∧ j < 2 ^ 31 ∧ x = nI j := by
  obtain ⟨j, hj, rfl⟩ := nI_of h0
  refine ⟨j, ?_, hj, rfl⟩
  rw [nI_ltI hj hn] at h
  omega
/-- what lasts: the texts and the lengths -/
def ds_G (sy le : Nat → Int32) (g : Nat → Nat) (A B : Nat) : Prop := (∀ t, sy t = nI (g t)) ∧ (∀ t, g t < 8) ∧ le 0 = nI A ∧ le 1 = nI B ∧ A ≤ 16 ∧ B ≤ 16
theorem ds_E {sy le : Nat → Int32} {g : Nat → Nat} {A B : Nat} (h : ds_G sy le g A B) (x y : Nat) : (sy x = sy (16 + y)) ↔ dq_E g x y := by
  rw [h.1, h.1]
  exact nI_eq (Nat.lt_trans (h.2.1 x) (by decide)) (Nat.lt_trans (h.2.1 _) (by decide))
theorem ds_G_put {sy le : Nat → Int32} {g : Nat → Nat} {A B : Nat} (h : ds_G sy le g A B) (p c : Nat) (hc : c < 8) : ds_G (upd sy p (nI c)) le (fun t => if t = p then c else g t) A B := by
  refine ⟨fun t => ?_, fun t => ?_, h.2.2⟩
  · show (if t = p then nI c else sy t) = nI (if t = p then c else g t)
    split
    · rfl
    · exact h.1 t
  · show (if t = p then c else g t) < 8
    split
    · exact hc
    · exact h.2.1 t
theorem ds_G_le0 {sy le : Nat → Int32} {g : Nat → Nat} {A B : Nat} (h : ds_G sy le g A B) (a : Nat) (ha : a ≤ 16) : ds_G sy (upd le 0 (nI a)) g a B :=
  ⟨h.1, h.2.1, rfl, h.2.2.2.1, ha, h.2.2.2.2.2⟩
theorem ds_G_le1 {sy le : Nat → Int32} {g : Nat → Nat} {A B : Nat} (h : ds_G sy le g A B) (b : Nat) (hb : b ≤ 16) : ds_G sy (upd le 1 (nI b)) g A b :=
  ⟨h.1, h.2.1, h.2.2.1, rfl, h.2.2.2.2.1, hb⟩
end
section
/-! X: mostPairs -/
theorem dx_39 {post : Int32 → SX → Prop} {J : Int32 → (Nat → Int32) → (Nat → Int32) → (Nat → Int32) → (Nat → Int32) → (Nat → Int32) → (Nat → Int32) → (Nat → Int32) → Prop} {x2 x3 pc sc : Int32} {sy le po pn sk ss : Nat → Int32} {g : Nat → Nat} {A B : Nat} (G : ds_G sy le g A B) {i0 j0 j1 i : Nat} (hi : i < 16) (hi0 : i0 ≤ i) (hj1 : j1 ≤ 16)
    (K : ∀ ro', dr_V (dq_E g) i0 j0 j1 (i + 1) ro' → J (nI (i + 1)) sy le ro' po pn sk ss) : ∀ (d n j : Nat) (ro : Nat → Int32), j + d = j1 → d < n → j0 ≤ j → dr_W (dq_E g) i0 j0 j1 i j ro → wX_mostPairs_39 post J x2 x3 (nI j1) (nI i) pc sc n (nI (dq_L (dq_E g) i0 j0 i j)) (nI j) sy le ro po pn sk ss := by
  intro d
  induction d with
  | zero =>
    intro n j ro hd hn hj h
    obtain ⟨m, rfl⟩ : ∃ m, n = m + 1 := ⟨n - 1, by omega⟩
    have e : j = j1 := by omega
    subst e
    refine pk_le j j (fun _ => ?_) (fun h => absurd h (by omega))
    intro y ey
    rw [nI_1] at ey
    subst ey
    exact K ro (dr_WV h)
  | succ d ih =>
    intro n j ro hd hn hj h
    obtain ⟨m, rfl⟩ : ∃ m, n = m + 1 := ⟨n - 1, by omega⟩
    have b1 := dq_L_le (dq_E g) i0 j0 (i + 1) j
    have b2 := dq_L_le (dq_E g) i0 j0 i (j + 1)
    have c1 : (nI i).toNatClampNeg = i := nI_clamp (by omega)
    have c2 : (16 + nI j).toNatClampNeg = 16 + j := by rw [ds_16p, nI_clamp (by omega)]
    have c3 : (nI j + 1).toNatClampNeg = j + 1 := by rw [nI_1, nI_clamp (by omega)]
    have c4 : (nI j).toNatClampNeg = j := nI_clamp (by omega)
    refine pk_le j1 j (fun h => absurd h (by omega)) (fun _ => ?_)
    refine ⟨pk_in (j + 1) 17 (by omega) (nI_1 j), ?_⟩
    intro a ea
    rw [c3, h.2 (j + 1) (by omega) (by omega)] at ea
    subst ea
    refine ⟨vp_in_nI (by omega) (by omega), pk_in (16 + j) 32 (by omega) (ds_16p j), ?_⟩
    by_cases he : dq_E g i j
    · refine br_t (by rw [c1, c2]; exact (ds_E G i j).mpr he) ?_
      refine ⟨pk_in (j + 1) 17 (by omega) (nI_1 j), ?_⟩
      intro r er y ey
      rw [c3, nI_1] at er
      rw [nI_1] at ey
      subst er ey
      exact ih m (j + 1) _ (by omega) (by omega) (by omega) (dr_Wput h (by rw [dq_b_eq (dq_E g) hi0 hj he]))
    · refine br_f (by rw [c1, c2]; exact fun z => he ((ds_E G i j).mp z)) ?_
      refine ⟨vp_in_nI (by omega) (by omega), ?_⟩
      refine pk_le (dq_L (dq_E g) i0 j0 (i + 1) j) (dq_L (dq_E g) i0 j0 i (j + 1)) (fun hl => ?_) (fun hl => ?_) (by rw [c4, h.1 j hj (Nat.le_refl _)]) rfl (by omega) (by omega)
      · intro y ey
        rw [nI_1] at ey
        subst ey
        exact ih m (j + 1) _ (by omega) (by omega) (by omega) (dr_Wkeep h (by rw [h.2 (j + 1) (by omega) (by omega), dr_b_a (dq_E g) he hl]))
      · refine ⟨vp_in_nI (by omega) (by omega), pk_in (j + 1) 17 (by omega) (nI_1 j), ?_⟩
        intro r er y ey
        rw [c3, c4, h.1 j hj (Nat.le_refl _)] at er
        rw [nI_1] at ey
        subst er ey
        exact ih m (j + 1) _ (by omega) (by omega) (by omega) (dr_Wput h (by rw [dr_b_l (dq_E g) he hl]))
theorem dx_27 {post : Int32 → SX → Prop} {pc sc : Int32} {sy le po pn sk ss : Nat → Int32} {g : Nat → Nat} {A B : Nat} (G : ds_G sy le g A B) {i0 i1 j0 j1 : Nat} (hi : i1 ≤ 16) (hj : j0 ≤ j1) (hj1 : j1 ≤ 16)
    (K : ∀ ro', post (nI (dq_L (dq_E g) i0 j0 i1 j1)) (pc, sc, sy, le, ro', po, pn, sk, ss)) : ∀ (d n i : Nat) (ro : Nat → Int32), i + d = i1 → d < n → i0 ≤ i → dr_V (dq_E g) i0 j0 j1 i ro → wX_mostPairs_27 post (nI i1) (nI j0) (nI j1) pc sc n (nI i) sy le ro po pn sk ss := by
  intro d
  induction d with
  | zero =>
    intro n i ro hd hn hi0 h
    obtain ⟨m, rfl⟩ : ∃ m, n = m + 1 := ⟨n - 1, by omega⟩
    have e : i = i1 := by omega
    subst e
    refine pk_le i i (fun _ => ⟨vp_in_nI (by omega) (by omega), ?_⟩) (fun h => absurd h (by omega))
    rw [nI_clamp (by omega), h j1 hj (Nat.le_refl _)]
    exact K ro
  | succ d ih =>
    intro n i ro hd hn hi0 h
    obtain ⟨m, rfl⟩ : ∃ m, n = m + 1 := ⟨n - 1, by omega⟩
    refine pk_le i1 i (fun h => absurd h (by omega)) (fun _ => ⟨j1 - j0 + 1, ?_⟩)
    have z := dx_39 (post := post) (J := wX_mostPairs_27 post (nI i1) (nI j0) (nI j1) pc sc m) (x2 := nI i1) (x3 := nI j0) (pc := pc) (sc := sc) (po := po) (pn := pn) (sk := sk) (ss := ss) G (i0 := i0) (j0 := j0) (j1 := j1) (i := i) (by omega) hi0 hj1 (fun ro' h' => ih m (i + 1) ro' (by omega) (by omega) (by omega) h') (j1 - j0) (j1 - j0 + 1) j0 ro (by omega) (by omega) (Nat.le_refl _) (dr_VW hj h)
    rw [dr_L0j (dq_E g) i0 j0 i j0 (Nat.le_refl _)] at z
    exact z
theorem dx_3 {post : Int32 → SX → Prop} {pc sc : Int32} {sy le po pn sk ss : Nat → Int32} {g : Nat → Nat} {A B : Nat} (G : ds_G sy le g A B) {i0 i1 j0 j1 : Nat} (hi0 : i0 ≤ i1) (hi : i1 ≤ 16) (hj : j0 ≤ j1) (hj1 : j1 ≤ 16)
    (K : ∀ ro', post (nI (dq_L (dq_E g) i0 j0 i1 j1)) (pc, sc, sy, le, ro', po, pn, sk, ss)) : ∀ (d n t : Nat) (ro : Nat → Int32), t + d = 17 → d < n → (∀ s, s < t → ro s = 0) → wX_mostPairs_3 post (nI i0) (nI i1) (nI j0) (nI j1) pc sc n (nI t) sy le ro po pn sk ss := by
  intro d
  induction d with
  | zero =>
    intro n t ro hd hn h
    obtain ⟨m, rfl⟩ : ∃ m, n = m + 1 := ⟨n - 1, by omega⟩
    have e : t = 17 := by omega
    subst e
    refine pk_le 17 17 (fun _ => ⟨i1 - i0 + 1, ?_⟩) (fun h => absurd h (by omega))
    exact dx_27 G hi hj hj1 K (i1 - i0) _ i0 ro (by omega) (by omega) (Nat.le_refl _) (dr_V0 h hj1)
  | succ d ih =>
    intro n t ro hd hn h
    obtain ⟨m, rfl⟩ : ∃ m, n = m + 1 := ⟨n - 1, by omega⟩
    refine pk_le 17 t (fun h => absurd h (by omega)) (fun _ => ⟨vp_in_nI (by omega) (by omega), ?_⟩)
    intro r er y ey
    rw [nI_clamp (by omega)] at er
    rw [nI_1] at ey
    subst er ey
    refine ih m (t + 1) _ (by omega) (by omega) (fun s hs => ?_)
    by_cases e : s = t
    · subst e
      exact pk_us
    · rw [pk_un e]
      exact h s (by omega)
theorem dx_most {post : Int32 → SX → Prop} {pc sc : Int32} {sy le ro po pn sk ss : Nat → Int32} {g : Nat → Nat} {A B : Nat} (G : ds_G sy le g A B) {i0 i1 j0 j1 : Nat} {a b c d : Int32} (ha : a = nI i0) (hb : b = nI i1) (hc : c = nI j0) (hd : d = nI j1) (hi0 : i0 ≤ i1) (hi : i1 ≤ 16) (hj : j0 ≤ j1) (hj1 : j1 ≤ 16)
    (K : ∀ ro', post (nI (dq_L (dq_E g) i0 j0 i1 j1)) (pc, sc, sy, le, ro', po, pn, sk, ss)) : wpX_mostPairs post (pc, sc, sy, le, ro, po, pn, sk, ss) a b c d := by
  subst ha hb hc hd
  exact ⟨18, dx_3 G hi0 hi hj hj1 K 17 18 0 ro rfl (by omega) (fun s h => absurd h (by omega))⟩
end
section
/-! X: partnerWithoutLoss, findBestList -/
theorem dx_22h {post : Int32 → SX → Prop} {pc sc : Int32} {sy le ro po pn sk ss : Nat → Int32} {g : Nat → Nat} {A B : Nat} (G : ds_G sy le g A B) {i y M : Nat} (hi : i < A) (hy : y < B) (he : dq_E g i y) (hM : dq_L (dq_E g) (i + 1) (y + 1) A B + 1 = M)
    (K : ∀ ro', post (nI y) (pc, sc, sy, le, ro', po, pn, sk, ss)) : ∀ (d n j : Nat), j + d = y → d < n → (∀ t, j ≤ t → t < y → ¬ dq_E g i t) → wX_partnerWithoutLoss_22 post (nI i) (nI M) pc sc sy le ro po pn sk ss n (nI j) := by
  have hA := G.2.2.2.2.1
  have hB := G.2.2.2.2.2
  have c1 : (nI i).toNatClampNeg = i := nI_clamp (by omega)
  intro d
  induction d with
  | zero =>
    intro n j hd hn h
    obtain ⟨m, rfl⟩ : ∃ m, n = m + 1 := ⟨n - 1, by omega⟩
    have e : j = y := by omega
    subst e
    have c2 : (16 + nI j).toNatClampNeg = 16 + j := by rw [ds_16p, nI_clamp (by omega)]
    refine pk_le B j (fun h => absurd h (by omega)) (fun _ => ?_) G.2.2.2.1
    refine ⟨vp_in_nI (by omega) (by omega), pk_in (16 + j) 32 (by omega) (ds_16p j), ?_⟩
    refine br_t (by rw [c1, c2]; exact (ds_E G i j).mpr he) ?_
    refine dx_most G (nI_1 i) G.2.2.1 (nI_1 j) G.2.2.2.1 (by omega) hA (by omega) hB (fun ro' => ?_)
    exact br_t (by rw [nI_1, hM]) (K ro')
  | succ d ih =>
    intro n j hd hn h
    obtain ⟨m, rfl⟩ : ∃ m, n = m + 1 := ⟨n - 1, by omega⟩
    have c2 : (16 + nI j).toNatClampNeg = 16 + j := by rw [ds_16p, nI_clamp (by omega)]
    refine pk_le B j (fun h => absurd h (by omega)) (fun _ => ?_) G.2.2.2.1
    refine ⟨vp_in_nI (by omega) (by omega), pk_in (16 + j) 32 (by omega) (ds_16p j), ?_⟩
    refine br_f (by rw [c1, c2]; exact fun z => h j (Nat.le_refl _) (by omega) ((ds_E G i j).mp z)) ?_
    intro x ex
    rw [nI_1] at ex
    subst ex
    exact ih m (j + 1) (by omega) (by omega) (fun t h1 h2 => h t (by omega) h2)
theorem dx_22m {post : Int32 → SX → Prop} {pc sc : Int32} {sy le ro po pn sk ss : Nat → Int32} {g : Nat → Nat} {A B : Nat} (G : ds_G sy le g A B) {i M : Nat} (hi : i < A) (hMb : M ≤ 16)
    (K : ∀ ro', post (-1) (pc, sc, sy, le, ro', po, pn, sk, ss)) : ∀ (d n j : Nat), j + d = B → d < n → (∀ t, j ≤ t → t < B → dq_E g i t → dq_L (dq_E g) (i + 1) (t + 1) A B + 1 ≠ M) → wX_partnerWithoutLoss_22 post (nI i) (nI M) pc sc sy le ro po pn sk ss n (nI j) := by
  have hA := G.2.2.2.2.1
  have hB := G.2.2.2.2.2
  have c1 : (nI i).toNatClampNeg = i := nI_clamp (by omega)
  intro d
  induction d with
  | zero =>
    intro n j hd hn h
    obtain ⟨m, rfl⟩ : ∃ m, n = m + 1 := ⟨n - 1, by omega⟩
    exact pk_le B j (fun _ => K ro) (fun h => absurd h (by omega)) G.2.2.2.1
  | succ d ih =>
    intro n j hd hn h
    obtain ⟨m, rfl⟩ : ∃ m, n = m + 1 := ⟨n - 1, by omega⟩
    have c2 : (16 + nI j).toNatClampNeg = 16 + j := by rw [ds_16p, nI_clamp (by omega)]
    refine pk_le B j (fun h => absurd h (by omega)) (fun _ => ?_) G.2.2.2.1
    refine ⟨vp_in_nI (by omega) (by omega), pk_in (16 + j) 32 (by omega) (ds_16p j), ?_⟩
    by_cases he : dq_E g i j
    · refine br_t (by rw [c1, c2]; exact (ds_E G i j).mpr he) ?_
      refine dx_most G (nI_1 i) G.2.2.1 (nI_1 j) G.2.2.2.1 (by omega) hA (by omega) hB (fun ro' => ?_)
      have b := dq_L_le (dq_E g) (i + 1) (j + 1) A B
      exact br_f (by rw [nI_1]; exact ds_ne (by omega) (by omega) (h j (Nat.le_refl _) (by omega) he)) (K ro')
    · refine br_f (by rw [c1, c2]; exact fun z => he ((ds_E G i j).mp z)) ?_
      intro x ex
      rw [nI_1] at ex
      subst ex
      exact ih m (j + 1) (by omega) (by omega) (fun t h1 h2 => h t (by omega) h2)
theorem dx_pwh {post : Int32 → SX → Prop} {pc sc : Int32} {sy le ro po pn sk ss : Nat → Int32} {g : Nat → Nat} {A B : Nat} (G : ds_G sy le g A B) {i q y : Nat} (hi : i < A) (hq : q ≤ y) (hy : y < B) (he : dq_E g i y) (hM : dq_L (dq_E g) (i + 1) (y + 1) A B + 1 = dq_L (dq_E g) i q A B) (h : ∀ t, q ≤ t → t < y → ¬ dq_E g i t)
    (K : ∀ ro', post (nI y) (pc, sc, sy, le, ro', po, pn, sk, ss)) : wpX_partnerWithoutLoss post (pc, sc, sy, le, ro, po, pn, sk, ss) (nI i) (nI q) := by
  unfold wpX_partnerWithoutLoss
  refine dx_most G rfl G.2.2.1 rfl G.2.2.2.1 (by omega) G.2.2.2.2.1 (by omega) G.2.2.2.2.2 (fun ro' => ?_)
  exact ⟨y - q + 1, dx_22h G hi hy he hM K (y - q) _ q (by omega) (by omega) h⟩
theorem dx_pwm {post : Int32 → SX → Prop} {pc sc : Int32} {sy le ro po pn sk ss : Nat → Int32} {g : Nat → Nat} {A B : Nat} (G : ds_G sy le g A B) {i q : Nat} (hi : i < A) (hq : q ≤ B) (h : ∀ t, q ≤ t → t < B → dq_E g i t → dq_L (dq_E g) (i + 1) (t + 1) A B + 1 ≠ dq_L (dq_E g) i q A B)
    (K : ∀ ro', post (-1) (pc, sc, sy, le, ro', po, pn, sk, ss)) : wpX_partnerWithoutLoss post (pc, sc, sy, le, ro, po, pn, sk, ss) (nI i) (nI q) := by
  unfold wpX_partnerWithoutLoss
  refine dx_most G rfl G.2.2.1 rfl G.2.2.2.1 (by omega) G.2.2.2.2.1 (by omega) G.2.2.2.2.2 (fun ro' => ?_)
  have b := dq_L_le (dq_E g) i q A B
  have hA := G.2.2.2.2.1
  exact ⟨B - q + 1, dx_22m G hi (by omega) K (B - q) _ q (by omega) (by omega) h⟩
theorem dx_9 {post : SX → Prop} {sc : Int32} {sy le sk ss : Nat → Int32} {g : Nat → Nat} {A B : Nat} (G : ds_G sy le g A B)
    (K : ∀ ro po pn, (∀ k, k < dq_L (dq_E g) 0 0 A B → po k = nI (dq_O (dq_E g) A B k) ∧ pn k = nI (dq_N (dq_E g) A B k)) → post (nI (dq_L (dq_E g) 0 0 A B), sc, sy, le, ro, po, pn, sk, ss)) : ∀ (d m c i : Nat) (ro po pn : Nat → Int32), i + d = A → d < m → c ≤ dq_L (dq_E g) 0 0 A B → (dq_st (dq_E g) A B c).1 ≤ i → (c < dq_L (dq_E g) 0 0 A B → i ≤ dq_O (dq_E g) A B c) → (∀ k, k < c → po k = nI (dq_O (dq_E g) A B k) ∧ pn k = nI (dq_N (dq_E g) A B k)) → wX_findBestList_9 post m (nI (dq_st (dq_E g) A B c).2) (nI i) (nI c) sc sy le ro po pn sk ss := by
  have hA := G.2.2.2.2.1
  have hB := G.2.2.2.2.2
  have hn := dq_L_le (dq_E g) 0 0 A B
  intro d
  induction d with
  | zero =>
    intro m c i ro po pn hd hm hc h0 h1 hp
    obtain ⟨m, rfl⟩ : ∃ m', m = m' + 1 := ⟨m - 1, by omega⟩
    have e : c = dq_L (dq_E g) 0 0 A B := by
      by_cases l : c < dq_L (dq_E g) 0 0 A B
      · have h2 := h1 l
        have h3 := dq_st_b (dq_E g) A B l
        omega
      · omega
    refine pk_le A i (fun _ => ?_) (fun h => absurd h (by omega)) G.2.2.1
    have k := K ro po pn (fun k hk => hp k (by omega))
    rw [← e] at k
    exact k
  | succ d ih =>
    intro m c i ro po pn hd hm hc h0 h1 hp
    obtain ⟨m, rfl⟩ : ∃ m', m = m' + 1 := ⟨m - 1, by omega⟩
    refine pk_le A i (fun h => absurd h (by omega)) (fun _ => ?_) G.2.2.1
    have hL := dq_at_L (dq_E g) A B hc h0 h1
    have hs := dq_st_le (dq_E g) A B c hc
    by_cases hh : c < dq_L (dq_E g) 0 0 A B ∧ i = dq_O (dq_E g) A B c
    · have hb := dq_st_b (dq_E g) A B hh.1
      have ht := dq_hit (dq_E g) A B hh.1
      rw [← hh.2] at ht
      refine dx_pwh G (i := i) (q := (dq_st (dq_E g) A B c).2) (y := dq_N (dq_E g) A B c) (by omega) hb.2.2.1 hb.2.2.2 ht.2.1 (by rw [hL]; exact ht.2.2) ht.1 (fun ro' => ?_)
      refine br_f (ds_nm1 (by omega)) ⟨vp_in_nI (by omega) (by omega), ?_⟩
      intro po' ep
      refine ⟨vp_in_nI (by omega) (by omega), ?_⟩
      intro pn' en c' ec x1 e1 x2 e2
      rw [nI_clamp (by omega)] at ep en
      rw [nI_1] at ec e1 e2
      subst ep en ec e1 e2
      have s := dq_stS (dq_E g) A B c
      rw [← s.2]
      refine ih m (c + 1) (i + 1) ro' _ _ (by omega) (by omega) (by omega) (by omega) (fun l => ?_) (fun k hk => ?_)
      · have := dq_st_b (dq_E g) A B l
        omega
      · by_cases e : k = c
        · subst e
          rw [pk_us, pk_us, hh.2]
          exact ⟨rfl, rfl⟩
        · rw [pk_un e, pk_un e]
          exact hp k (by omega)
    · have hlt : c < dq_L (dq_E g) 0 0 A B → i < dq_O (dq_E g) A B c := by
        intro l
        have l1 := h1 l
        have l2 : i ≠ dq_O (dq_E g) A B c := fun z => hh ⟨l, z⟩
        omega
      refine dx_pwm G (i := i) (q := (dq_st (dq_E g) A B c).2) (by omega) hs.2 (fun t q1 q2 q3 => ?_) (fun ro' => ?_)
      · rw [hL]
        exact dq_miss (dq_E g) A B hc h0 hlt (by omega) q1 q2 q3
      · refine br_t rfl ?_
        intro x2 e2
        rw [nI_1] at e2
        subst e2
        exact ih m c (i + 1) ro' po pn (by omega) (by omega) hc (by omega) (fun l => hlt l) hp
theorem dx_list {post : SX → Prop} {pc sc : Int32} {sy le ro po pn sk ss : Nat → Int32} {g : Nat → Nat} {A B : Nat} (G : ds_G sy le g A B)
    (K : ∀ ro po pn, (∀ k, k < dq_L (dq_E g) 0 0 A B → po k = nI (dq_O (dq_E g) A B k) ∧ pn k = nI (dq_N (dq_E g) A B k)) → post (nI (dq_L (dq_E g) 0 0 A B), sc, sy, le, ro, po, pn, sk, ss)) : wpX_findBestList post (pc, sc, sy, le, ro, po, pn, sk, ss) :=
  ⟨A + 1, dx_9 G K A (A + 1) 0 0 ro po pn (by omega) (by omega) (Nat.zero_le _) (Nat.zero_le _) (fun _ => Nat.zero_le _) (fun k hk => absurd hk (by omega))⟩
end
section
/-! X: writeStep, writeGap, writeScript -/
theorem dx_ws {post : SX → Prop} {pc : Int32} {sy le ro po pn sk ss : Nat → Int32} {P : Nat × (Nat → Nat)} {a b : Int32} (k v : Nat) (ha : a = nI k) (hb : b = nI v) (hk : k < 4) (hP : P.1 < 32) (h : dq_HX sk ss P)
    (K : ∀ sk' ss', dq_HX sk' ss' (dq_push P (k + 4 * v)) → post (pc, nI (dq_push P (k + 4 * v)).1, sy, le, ro, po, pn, sk', ss')) : wpX_writeStep post (pc, nI P.1, sy, le, ro, po, pn, sk, ss) a b := by
  subst ha hb
  refine ⟨vp_in_nI hP (by omega), ?_⟩
  intro s1 e1
  refine ⟨vp_in_nI hP (by omega), ?_⟩
  intro s2 e2 c ec
  rw [nI_clamp (by omega)] at e1 e2
  rw [nI_1] at ec
  subst e1 e2 ec
  exact K _ _ (dq_HX_push h k v hk)
theorem dx_30 {post : SX → Prop} {pc : Int32} {sy le ro po pn : Nat → Int32} {g : Nat → Nat} {A B : Nat} (G : ds_G sy le g A B) {j1 : Nat} (hj : j1 ≤ 16) : ∀ (d n j : Nat) (P : Nat × (Nat → Nat)) (sk ss : Nat → Int32), j + d = j1 → d < n → P.1 + d ≤ 32 → dq_HX sk ss P →
    (∀ sk' ss', dq_HX sk' ss' (dq_run (fun y => 2 + 4 * g (16 + y)) d j P) → post (pc, nI (dq_run (fun y => 2 + 4 * g (16 + y)) d j P).1, sy, le, ro, po, pn, sk', ss')) → wX_writeGap_30 post (nI j1) n (nI j) pc (nI P.1) sy le ro po pn sk ss := by
  intro d
  induction d with
  | zero =>
    intro n j P sk ss hd hn hP h K
    obtain ⟨m, rfl⟩ : ∃ m, n = m + 1 := ⟨n - 1, by omega⟩
    exact pk_le j1 j (fun _ => K sk ss h) (fun h => absurd h (by omega))
  | succ d ih =>
    intro n j P sk ss hd hn hP h K
    obtain ⟨m, rfl⟩ : ∃ m, n = m + 1 := ⟨n - 1, by omega⟩
    have c2 : (16 + nI j).toNatClampNeg = 16 + j := by rw [ds_16p, nI_clamp (by omega)]
    refine pk_le j1 j (fun h => absurd h (by omega)) (fun _ => ⟨pk_in (16 + j) 32 (by omega) (ds_16p j), ?_⟩)
    refine dx_ws 2 (g (16 + j)) rfl (by rw [c2]; exact G.1 _) (by omega) (by omega) h (fun sk' ss' h' => ?_)
    intro y ey
    rw [nI_1] at ey
    subst ey
    exact ih m (j + 1) _ sk' ss' (by omega) (by omega) (show P.1 + 1 + d ≤ 32 by omega) h' K
theorem dx_g3 {post : SX → Prop} {pc : Int32} {sy le ro po pn : Nat → Int32} {g : Nat → Nat} {A B : Nat} (G : ds_G sy le g A B) {i1 j0 j1 : Nat} (hi : i1 ≤ 16) (hj0 : j0 ≤ j1) (hj : j1 ≤ 16) : ∀ (d n i : Nat) (P : Nat × (Nat → Nat)) (sk ss : Nat → Int32), i + d = i1 → d < n → P.1 + d + (j1 - j0) ≤ 32 → dq_HX sk ss P →
    (∀ sk' ss', dq_HX sk' ss' (dq_run (fun y => 2 + 4 * g (16 + y)) (j1 - j0) j0 (dq_run (fun x => 1 + 4 * g x) d i P)) → post (pc, nI (dq_run (fun y => 2 + 4 * g (16 + y)) (j1 - j0) j0 (dq_run (fun x => 1 + 4 * g x) d i P)).1, sy, le, ro, po, pn, sk', ss')) → wX_writeGap_3 post (nI i1) (nI j0) (nI j1) n (nI i) pc (nI P.1) sy le ro po pn sk ss := by
  intro d
  induction d with
  | zero =>
    intro n i P sk ss hd hn hP h K
    obtain ⟨m, rfl⟩ : ∃ m, n = m + 1 := ⟨n - 1, by omega⟩
    refine pk_le i1 i (fun _ => ⟨j1 - j0 + 1, ?_⟩) (fun h => absurd h (by omega))
    exact dx_30 G hj (j1 - j0) _ j0 P sk ss (by omega) (by omega) (by omega) h K
  | succ d ih =>
    intro n i P sk ss hd hn hP h K
    obtain ⟨m, rfl⟩ : ∃ m, n = m + 1 := ⟨n - 1, by omega⟩
    have c2 : (nI i).toNatClampNeg = i := nI_clamp (by omega)
    refine pk_le i1 i (fun h => absurd h (by omega)) (fun _ => ⟨vp_in_nI (by omega) (by omega), ?_⟩)
    refine dx_ws 1 (g i) rfl (by rw [c2]; exact G.1 _) (by omega) (by omega) h (fun sk' ss' h' => ?_)
    intro y ey
    rw [nI_1] at ey
    subst ey
    exact ih m (i + 1) _ sk' ss' (by omega) (by omega) (show P.1 + 1 + d + (j1 - j0) ≤ 32 by omega) h' K
theorem dx_gap {post : SX → Prop} {pc : Int32} {sy le ro po pn sk ss : Nat → Int32} {g : Nat → Nat} {A B : Nat} (G : ds_G sy le g A B) {P : Nat × (Nat → Nat)} {i0 i1 j0 j1 : Nat} {a b c d : Int32} (ha : a = nI i0) (hb : b = nI i1) (hc : c = nI j0) (hd : d = nI j1) (hi0 : i0 ≤ i1) (hi : i1 ≤ 16) (hj0 : j0 ≤ j1) (hj : j1 ≤ 16) (hP : P.1 + (i1 - i0) + (j1 - j0) ≤ 32) (h : dq_HX sk ss P)
    (K : ∀ sk' ss', dq_HX sk' ss' (dq_gap g i0 i1 j0 j1 P) → post (pc, nI (dq_gap g i0 i1 j0 j1 P).1, sy, le, ro, po, pn, sk', ss')) : wpX_writeGap post (pc, nI P.1, sy, le, ro, po, pn, sk, ss) a b c d := by
  subst ha hb hc hd
  exact ⟨i1 - i0 + 1, dx_g3 G hi hj0 hj (i1 - i0) _ i0 P sk ss (by omega) (by omega) hP h K⟩
theorem dx_15 {post : SX → Prop} {sy le ro po pn : Nat → Int32} {g : Nat → Nat} {A B : Nat} (G : ds_G sy le g A B) (hp : ∀ k, k < dq_L (dq_E g) 0 0 A B → po k = nI (dq_O (dq_E g) A B k) ∧ pn k = nI (dq_N (dq_E g) A B k))
    (K : ∀ sk ss, dq_HX sk ss (dq_fs g A B) → post (nI (dq_L (dq_E g) 0 0 A B), nI (dq_fs g A B).1, sy, le, ro, po, pn, sk, ss)) : ∀ (d m k : Nat) (sk ss : Nat → Int32), k + d = dq_L (dq_E g) 0 0 A B → d < m → dq_HX sk ss (dq_sc g A B k) → wX_writeScript_15 post m (nI (dq_st (dq_E g) A B k).1) (nI (dq_st (dq_E g) A B k).2) (nI k) (nI (dq_L (dq_E g) 0 0 A B)) (nI (dq_sc g A B k).1) sy le ro po pn sk ss := by
  have hA := G.2.2.2.2.1
  have hB := G.2.2.2.2.2
  have hn := dq_L_le (dq_E g) 0 0 A B
  intro d
  induction d with
  | zero =>
    intro m k sk ss hd hm h
    obtain ⟨m, rfl⟩ : ∃ m', m = m' + 1 := ⟨m - 1, by omega⟩
    have e : k = dq_L (dq_E g) 0 0 A B := by omega
    have hs := dq_st_le (dq_E g) A B k (by omega)
    have h1 := dq_sc_1 g A B k (by omega)
    refine pk_le (dq_L (dq_E g) 0 0 A B) k (fun _ => ?_) (fun h => absurd h (by omega))
    refine dx_gap G rfl G.2.2.1 rfl G.2.2.2.1 hs.1 hA hs.2 hB (by omega) h (fun sk' ss' h' => ?_)
    have e2 : dq_gap g (dq_st (dq_E g) A B k).1 A (dq_st (dq_E g) A B k).2 B (dq_sc g A B k) = dq_fs g A B := by
      rw [e]
      rfl
    rw [e2] at h' ⊢
    exact K sk' ss' h'
  | succ d ih =>
    intro m k sk ss hd hm h
    obtain ⟨m, rfl⟩ : ∃ m', m = m' + 1 := ⟨m - 1, by omega⟩
    have hb := dq_st_b (dq_E g) A B (show k < dq_L (dq_E g) 0 0 A B by omega)
    have h1 := dq_sc_1 g A B k (by omega)
    have hpk := hp k (by omega)
    have c1 : (nI k).toNatClampNeg = k := nI_clamp (by omega)
    have h2 := dq_gap_1 g (dq_st (dq_E g) A B k).1 (dq_O (dq_E g) A B k) (dq_st (dq_E g) A B k).2 (dq_N (dq_E g) A B k) (dq_sc g A B k)
    refine pk_le (dq_L (dq_E g) 0 0 A B) k (fun h => absurd h (by omega)) (fun _ => ⟨vp_in_nI (by omega) (by omega), ?_⟩)
    intro x4 e4
    refine ⟨vp_in_nI (by omega) (by omega), ?_⟩
    intro x5 e5
    rw [c1, hpk.1] at e4
    rw [c1, hpk.2] at e5
    subst e4 e5
    refine dx_gap G rfl rfl rfl rfl hb.1 (by omega) hb.2.2.1 (by omega) (by omega) h (fun sk' ss' h' => ?_)
    refine ⟨vp_in_nI (by omega) (by omega), ?_⟩
    refine dx_ws 0 (g (dq_O (dq_E g) A B k)) rfl (by rw [nI_clamp (by omega)]; exact G.1 _) (by omega) (by omega) h' (fun sk2 ss2 h2 => ?_)
    intro x1 e1 x2 e2 x3 e3
    rw [nI_1] at e1 e2 e3
    subst e1 e2 e3
    exact ih m (k + 1) sk2 ss2 (by omega) (by omega) h2
theorem dx_script {post : SX → Prop} {pc sc : Int32} {sy le ro po pn sk ss : Nat → Int32} {g : Nat → Nat} {A B : Nat} (G : ds_G sy le g A B)
    (K : ∀ ro po pn sk ss, dq_HX sk ss (dq_fs g A B) → post (nI (dq_L (dq_E g) 0 0 A B), nI (dq_fs g A B).1, sy, le, ro, po, pn, sk, ss)) : wpX_writeScript post (pc, sc, sy, le, ro, po, pn, sk, ss) := by
  unfold wpX_writeScript
  refine dx_list G (fun ro' po' pn' hp => ?_)
  exact ⟨dq_L (dq_E g) 0 0 A B + 1, dx_15 G hp (K ro' po' pn') (dq_L (dq_E g) 0 0 A B) _ 0 sk ss (by omega) (by omega) (fun t ht => absurd ht (Nat.not_lt_zero t))⟩
end
section
/-! Y: same, max, work -/
theorem dy_same1 {post : Int32 → Prop} {mn : Int32} {sy le hd tl ol nw sp : Nat → Int32} {g : Nat → Nat} {A B : Nat} (G : ds_G sy le g A B) {i j : Nat} {a b : Int32} (ha : a = nI i) (hb : b = nI j) (hi : i < 16) (hj : j < 16) (he : dq_E g i j) (K : post 1) : wpY_same post (mn, le, sy, hd, tl, ol, nw, sp) a b := by
  subst ha hb
  have c1 : (nI i).toNatClampNeg = i := nI_clamp (by omega)
  have c2 : (16 + nI j).toNatClampNeg = 16 + j := by rw [ds_16p, nI_clamp (by omega)]
  refine ⟨vp_in_nI (by omega) (by omega), pk_in (16 + j) 32 (by omega) (ds_16p j), ?_⟩
  exact br_t (by rw [c1, c2]; exact (ds_E G i j).mpr he) K
theorem dy_same0 {post : Int32 → Prop} {mn : Int32} {sy le hd tl ol nw sp : Nat → Int32} {g : Nat → Nat} {A B : Nat} (G : ds_G sy le g A B) {i j : Nat} {a b : Int32} (ha : a = nI i) (hb : b = nI j) (hi : i < 16) (hj : j < 16) (he : ¬ dq_E g i j) (K : post 0) : wpY_same post (mn, le, sy, hd, tl, ol, nw, sp) a b := by
  subst ha hb
  have c1 : (nI i).toNatClampNeg = i := nI_clamp (by omega)
  have c2 : (16 + nI j).toNatClampNeg = 16 + j := by rw [ds_16p, nI_clamp (by omega)]
  refine ⟨vp_in_nI (by omega) (by omega), pk_in (16 + j) 32 (by omega) (ds_16p j), ?_⟩
  exact br_f (by rw [c1, c2]; exact fun z => he ((ds_E G i j).mp z)) K
theorem dy_max {post : Int32 → Prop} {mn : Int32} {sy le hd tl ol nw sp : Nat → Int32} {a b : Int32} (x y : Nat) (ha : a = nI x) (hb : b = nI y) (hx : x < 2 ^ 31) (hy : y < 2 ^ 31) (K : ∀ m, (m = x ∨ m = y) → x ≤ m → y ≤ m → post (nI m)) : wpY_max post (mn, le, sy, hd, tl, ol, nw, sp) a b := by
  subst ha hb
  exact pk_le x y (fun h => K y (Or.inr rfl) h (Nat.le_refl _)) (fun h => K x (Or.inl rfl) (Nat.le_refl _) (by omega))
theorem dy_129 {post : SY → Prop} {J2 J14 : Int32 → (Nat → Int32) → (Nat → Int32) → (Nat → Int32) → (Nat → Int32) → (Nat → Int32) → (Nat → Int32) → (Nat → Int32) → Prop} {mn v z : Int32} {sy le hd tl ol nw sp : Nat → Int32} {e : Nat → Nat → Prop} {A B i j : Nat} (hA : A ≤ 16) (hB : B ≤ 16) (hi : i ≤ A) (hj : j ≤ B) (hz : z = nI (17 * i + j)) (hv : 0 < i → 0 < j → v = nI (dq_L e 0 0 i j)) (H : dr_H e A B i j hd)
    (K : ∀ hd', dr_H e A B i (j + 1) hd' → J14 (nI (j + 1)) le sy hd' tl ol nw sp) : wY_work_129 post J2 J14 (nI i) (nI j) v z mn le sy hd tl ol nw sp := by
  subst hz
  have c : (nI (17 * i + j)).toNatClampNeg = 17 * i + j := nI_clamp (by omega)
  have I : vp_in (nI (17 * i + j)) 289 := vp_in_nI (by omega) (by omega)
  refine pk_le i 0 (fun h => ⟨I, ?_⟩) (fun h => pk_le j 0 (fun h2 => ⟨I, ?_⟩) (fun h2 => ⟨I, ?_⟩))
  · intro r er y ey
    rw [c] at er
    rw [nI_1] at ey
    subst er ey
    exact K _ (dr_Hput hB hj H (by rw [dr_L0i e 0 0 i j (by omega), nI_0]))
  · intro r er y ey
    rw [c] at er
    rw [nI_1] at ey
    subst er ey
    exact K _ (dr_Hput hB hj H (by rw [dr_L0j e 0 0 i j (by omega), nI_0]))
  · intro r er y ey
    rw [c] at er
    rw [nI_1] at ey
    subst er ey
    exact K _ (dr_Hput hB hj H (hv h h2))
theorem dy_73 {post : SY → Prop} {J2 J14 : Int32 → (Nat → Int32) → (Nat → Int32) → (Nat → Int32) → (Nat → Int32) → (Nat → Int32) → (Nat → Int32) → (Nat → Int32) → Prop} {mn v : Int32} {sy le hd tl ol nw sp : Nat → Int32} {g : Nat → Nat} {A B i j : Nat} (G : ds_G sy le g A B) (hi : i ≤ A) (hj : j ≤ B) (hv : ∀ a b, i = a + 1 → j = b + 1 → ∃ m, v = nI m ∧ (m = dq_L (dq_E g) 0 0 a (b + 1) ∨ m = dq_L (dq_E g) 0 0 (a + 1) b) ∧ dq_L (dq_E g) 0 0 a (b + 1) ≤ m ∧ dq_L (dq_E g) 0 0 (a + 1) b ≤ m) (H : dr_H (dq_E g) A B i j hd)
    (K : ∀ hd', dr_H (dq_E g) A B i (j + 1) hd' → J14 (nI (j + 1)) le sy hd' tl ol nw sp) : wY_work_73 post J2 J14 (nI i) (nI j) v mn le sy hd tl ol nw sp := by
  have hA := G.2.2.2.2.1
  have hB := G.2.2.2.2.2
  have hz : 17 * nI i + nI j = nI (17 * i + j) := by rw [ds_17m, nI_add]
  refine pk_le i 0 (fun h => dy_129 hA hB hi hj hz (fun z => absurd z (by omega)) H K) (fun h => pk_le j 0 (fun h2 => dy_129 hA hB hi hj hz (fun _ z => absurd z (by omega)) H K) (fun h2 => ?_))
  obtain ⟨a, rfl⟩ : ∃ a, i = a + 1 := ⟨i - 1, by omega⟩
  obtain ⟨b, rfl⟩ : ∃ b, j = b + 1 := ⟨j - 1, by omega⟩
  obtain ⟨m, rfl, hm, h3, h4⟩ := hv a b rfl rfl
  have hx := dr_h_mx (dq_E g) hm h3 h4
  have b1 := dq_L_le (dq_E g) 0 0 a b
  have b2 := dq_L_le (dq_E g) 0 0 a (b + 1)
  have b3 := dq_L_le (dq_E g) 0 0 (a + 1) b
  by_cases he : dq_E g a b
  · refine dy_same1 G (nI_pred a) (nI_pred b) (by omega) (by omega) he ?_
    refine br_f (by decide) ?_
    have hq : 17 * nI (a + 1) + nI (b + 1) - 18 = nI (17 * a + b) := by
      rw [hz, ds_s18 (by omega)]
      exact congrArg nI (by omega)
    refine ⟨pk_in (17 * a + b) 289 (by omega) hq, ?_⟩
    refine dy_max m (dq_L (dq_E g) 0 0 a b + 1) rfl (by rw [hq, nI_clamp (by omega), H a b (by omega) (by omega) (Or.inl (by omega)), nI_1]) (by omega) (by omega) (fun w hw h5 h6 => ?_)
    refine ⟨pk_in (17 * (a + 1) + (b + 1)) 289 (by omega) hz, ?_⟩
    intro r er y ey
    rw [hz, nI_clamp (by omega)] at er
    rw [nI_1] at ey
    subst er ey
    refine K _ (dr_Hput hB hj H (congrArg nI ?_))
    have hx1 := hx.1 he
    omega
  · refine dy_same0 G (nI_pred a) (nI_pred b) (by omega) (by omega) he ?_
    exact br_t rfl (dy_129 hA hB hi hj hz (fun _ _ => congrArg nI (hx.2 he).symm) H K)
theorem dy_46 {post : SY → Prop} {J2 J14 : Int32 → (Nat → Int32) → (Nat → Int32) → (Nat → Int32) → (Nat → Int32) → (Nat → Int32) → (Nat → Int32) → (Nat → Int32) → Prop} {mn v : Int32} {sy le hd tl ol nw sp : Nat → Int32} {g : Nat → Nat} {A B i j : Nat} (G : ds_G sy le g A B) (hi : i ≤ A) (hj : j ≤ B) (w : Nat) (hw : v = nI w) (hw2 : w ≤ 16) (hv : ∀ a, i = a + 1 → w = dq_L (dq_E g) 0 0 a j) (H : dr_H (dq_E g) A B i j hd)
    (K : ∀ hd', dr_H (dq_E g) A B i (j + 1) hd' → J14 (nI (j + 1)) le sy hd' tl ol nw sp) : wY_work_46 post J2 J14 (nI i) (nI j) v mn le sy hd tl ol nw sp := by
  have hA := G.2.2.2.2.1
  have hB := G.2.2.2.2.2
  subst hw
  have hz : 17 * nI i + nI j = nI (17 * i + j) := by rw [ds_17m, nI_add]
  refine pk_le j 0 (fun h => dy_73 G hi hj (fun a b _ z => absurd z (by omega)) H K) (fun h => ?_)
  obtain ⟨b, rfl⟩ : ∃ b, j = b + 1 := ⟨j - 1, by omega⟩
  have hq : 17 * nI i + nI (b + 1) - 1 = nI (17 * i + b) := by
    rw [hz, ds_s1 (by omega)]
    exact congrArg nI (by omega)
  have b3 := dq_L_le (dq_E g) 0 0 i b
  refine ⟨pk_in (17 * i + b) 289 (by omega) hq, ?_⟩
  refine dy_max w (dq_L (dq_E g) 0 0 i b) rfl (by rw [hq, nI_clamp (by omega), H i b hi (by omega) (Or.inr ⟨rfl, by omega⟩)]) (by omega) (by omega) (fun m hm h5 h6 => ?_)
  refine dy_73 G hi hj (fun a b' ea eb => ?_) H K
  have e1 : b = b' := by omega
  subst e1
  have e2 := hv a ea
  subst ea
  exact ⟨m, rfl, by omega, by omega, by omega⟩
theorem dy_14 {post : SY → Prop} {J2 : Int32 → (Nat → Int32) → (Nat → Int32) → (Nat → Int32) → (Nat → Int32) → (Nat → Int32) → (Nat → Int32) → (Nat → Int32) → Prop} {mn : Int32} {sy le tl ol nw sp : Nat → Int32} {g : Nat → Nat} {A B i : Nat} (G : ds_G sy le g A B) (hi : i ≤ A)
    (K : ∀ hd', dr_H (dq_E g) A B (i + 1) 0 hd' → J2 (nI (i + 1)) le sy hd' tl ol nw sp) : ∀ (d n j : Nat) (hd : Nat → Int32), j + d = B + 1 → d < n → dr_H (dq_E g) A B i j hd → wY_work_14 post J2 (nI i) mn n (nI j) le sy hd tl ol nw sp := by
  have hA := G.2.2.2.2.1
  have hB := G.2.2.2.2.2
  intro d
  induction d with
  | zero =>
    intro n j hd hj hn H
    obtain ⟨m, rfl⟩ : ∃ m, n = m + 1 := ⟨n - 1, by omega⟩
    have e : j = B + 1 := by omega
    subst e
    refine pk_lt B (B + 1) (fun _ => ?_) (fun h => absurd h (by omega)) G.2.2.2.1
    intro y ey
    rw [nI_1] at ey
    subst ey
    exact K hd (dr_Hrow H)
  | succ d ih =>
    intro n j hd hj hn H
    obtain ⟨m, rfl⟩ : ∃ m, n = m + 1 := ⟨n - 1, by omega⟩
    refine pk_lt B j (fun h => absurd h (by omega)) (fun _ => ?_) G.2.2.2.1
    have k : ∀ hd', dr_H (dq_E g) A B i (j + 1) hd' → wY_work_14 post J2 (nI i) mn m (nI (j + 1)) le sy hd' tl ol nw sp := fun hd' h' => ih m (j + 1) hd' (by omega) (by omega) h'
    refine pk_le i 0 (fun h => ?_) (fun h => ?_)
    · exact dy_46 G hi (by omega) 0 rfl (by omega) (fun a z => absurd z (by omega)) H k
    · obtain ⟨a, rfl⟩ : ∃ a, i = a + 1 := ⟨i - 1, by omega⟩
      have hq : 17 * nI (a + 1) - 17 + nI j = nI (17 * a + j) := by
        rw [ds_17m, ds_s17 (by omega), nI_add]
        exact congrArg nI (by omega)
      have b3 := dq_L_le (dq_E g) 0 0 a j
      refine ⟨pk_in (17 * a + j) 289 (by omega) hq, ?_⟩
      exact dy_46 G hi (by omega) (dq_L (dq_E g) 0 0 a j) (by rw [hq, nI_clamp (by omega), H a j (by omega) (by omega) (Or.inl (by omega))]) (by omega) (fun a' z => by rw [show a = a' by omega]) H k
/-- the finished tables -/
def dy_T (e : Nat → Nat → Prop) (A B m : Nat) (w : Nat → Int32) : Prop := ∀ i j, m ≤ i → i ≤ A → j ≤ B → w (17 * i + j) = nI (dq_L e i j A B)
def dy_H (e : Nat → Nat → Prop) (A B : Nat) (w : Nat → Int32) : Prop := ∀ i j, i ≤ A → j ≤ B → w (17 * i + j) = nI (dq_L e 0 0 i j)
theorem dy_242 {post : SY → Prop} {J162 J173 : Int32 → (Nat → Int32) → (Nat → Int32) → (Nat → Int32) → (Nat → Int32) → (Nat → Int32) → (Nat → Int32) → (Nat → Int32) → Prop} {mn : Int32} {sy le hd tl ol nw sp : Nat → Int32} {g : Nat → Nat} {A B i j m : Nat} (G : ds_G sy le g A B) (hi : i < A) (hj : j < B) (hm : m = dq_L (dq_E g) (i + 1) j A B ∨ m = dq_L (dq_E g) i (j + 1) A B) (h1 : dq_L (dq_E g) (i + 1) j A B ≤ m) (h2 : dq_L (dq_E g) i (j + 1) A B ≤ m) (H : dr_T (dq_E g) A B i (j + 1) tl)
    (K : ∀ tl', dr_T (dq_E g) A B i j tl' → J173 (nI j + (-1)) le sy hd tl' ol nw sp) : wY_work_242 post J162 J173 (nI i) (nI j) 1 (nI m) mn le sy hd tl ol nw sp := by
  have hA := G.2.2.2.2.1
  have hB := G.2.2.2.2.2
  have hz : 17 * nI i + nI j = nI (17 * i + j) := by rw [ds_17m, nI_add]
  have hx := dr_t_mx (dq_E g) hi hj hm h1 h2
  have b1 := dq_L_le (dq_E g) (i + 1) (j + 1) A B
  have b2 := dq_L_le (dq_E g) i (j + 1) A B
  have b3 := dq_L_le (dq_E g) (i + 1) j A B
  refine br_f (by decide) ?_
  by_cases he : dq_E g i j
  · refine dy_same1 G rfl rfl (by omega) (by omega) he ?_
    refine br_f (by decide) ?_
    have hq : 17 * nI i + nI j + 18 = nI (17 * (i + 1) + (j + 1)) := by
      rw [hz, ds_p18]
      exact congrArg nI (by omega)
    refine ⟨pk_in (17 * (i + 1) + (j + 1)) 289 (by omega) hq, ?_⟩
    refine dy_max m (dq_L (dq_E g) (i + 1) (j + 1) A B + 1) rfl (by rw [hq, nI_clamp (by omega), H (i + 1) (j + 1) (by omega) (by omega) (Or.inl (by omega)), nI_1]) (by omega) (by omega) (fun w hw h5 h6 => ?_)
    refine ⟨pk_in (17 * i + j) 289 (by omega) hz, ?_⟩
    intro r er y ey
    rw [hz, nI_clamp (by omega)] at er
    subst er ey
    refine K _ (dr_Tput hB (by omega) H (congrArg nI ?_))
    have hx1 := hx.1 he
    omega
  · refine dy_same0 G rfl rfl (by omega) (by omega) he ?_
    refine br_t rfl ⟨pk_in (17 * i + j) 289 (by omega) hz, ?_⟩
    intro r er y ey
    rw [hz, nI_clamp (by omega)] at er
    subst er ey
    exact K _ (dr_Tput hB (by omega) H (congrArg nI (hx.2 he).symm))
theorem dy_out {post : SY → Prop} {J162 J173 : Int32 → (Nat → Int32) → (Nat → Int32) → (Nat → Int32) → (Nat → Int32) → (Nat → Int32) → (Nat → Int32) → (Nat → Int32) → Prop} {mn : Int32} {sy le hd tl ol nw sp : Nat → Int32} {g : Nat → Nat} {A B i j : Nat} (G : ds_G sy le g A B) (hi : i ≤ A) (hj : j ≤ B) (ho : A ≤ i ∨ B ≤ j) (H : dr_T (dq_E g) A B i (j + 1) tl)
    (K : ∀ tl', dr_T (dq_E g) A B i j tl' → J173 (nI j + (-1)) le sy hd tl' ol nw sp) : wY_work_201 post J162 J173 (nI i) (nI j) mn le sy hd tl ol nw sp := by
  have hA := G.2.2.2.2.1
  have hB := G.2.2.2.2.2
  have hz : 17 * nI i + nI j = nI (17 * i + j) := by rw [ds_17m, nI_add]
  have b1 := dq_L_le (dq_E g) i j A B
  refine br_t (c := (0 : Int32) = 0) rfl ?_
  refine br_t (c := (0 : Int32) = 0) rfl ⟨pk_in (17 * i + j) 289 (by omega) hz, ?_⟩
  intro r er y ey
  rw [hz, nI_clamp (by omega)] at er
  subst er ey
  refine K _ (dr_Tput hB hj H ?_)
  rw [show dq_L (dq_E g) i j A B = 0 by omega, nI_0]
theorem dy_173 {post : SY → Prop} {J162 : Int32 → (Nat → Int32) → (Nat → Int32) → (Nat → Int32) → (Nat → Int32) → (Nat → Int32) → (Nat → Int32) → (Nat → Int32) → Prop} {mn : Int32} {sy le hd ol nw sp : Nat → Int32} {g : Nat → Nat} {A B i : Nat} (G : ds_G sy le g A B) (hi : i ≤ A)
    (K : ∀ tl', dr_T (dq_E g) A B i 0 tl' → J162 (nI i + (-1)) le sy hd tl' ol nw sp) : ∀ (l n : Nat) (tl : Nat → Int32), l ≤ B + 1 → l < n → dr_T (dq_E g) A B i l tl → wY_work_173 post J162 (nI i) mn n (nI l + (-1)) le sy hd tl ol nw sp := by
  have hA := G.2.2.2.2.1
  have hB := G.2.2.2.2.2
  intro l
  induction l with
  | zero =>
    intro n tl hl hn H
    obtain ⟨m, rfl⟩ : ∃ m, n = m + 1 := ⟨n - 1, by omega⟩
    refine br_t ds_neg0 ?_
    intro y ey
    subst ey
    exact K tl H
  | succ l ih =>
    intro n tl hl hn H
    obtain ⟨m, rfl⟩ : ∃ m, n = m + 1 := ⟨n - 1, by omega⟩
    rw [pk_m1]
    have k : ∀ tl', dr_T (dq_E g) A B i l tl' → wY_work_173 post J162 (nI i) mn m (nI l + (-1)) le sy hd tl' ol nw sp := fun tl' h' => ih m tl' (by omega) (by omega) h'
    refine br_f (nI_pos (by omega)) ?_
    refine pk_le A i (fun h => dy_out G hi (by omega) (Or.inl h) H k) (fun h => ?_) G.2.2.1
    refine pk_le B l (fun h2 => dy_out G hi (by omega) (Or.inr h2) H k) (fun h2 => ?_) G.2.2.2.1
    have hz : 17 * nI i + nI l = nI (17 * i + l) := by rw [ds_17m, nI_add]
    have hq1 : 17 * nI i + 17 + nI l = nI (17 * (i + 1) + l) := by
      rw [ds_17m, ds_p17, nI_add]
      exact congrArg nI (by omega)
    have hq2 : 17 * nI i + nI l + 1 = nI (17 * i + (l + 1)) := by
      rw [hz, nI_1]
      exact congrArg nI (by omega)
    have b2 := dq_L_le (dq_E g) i (l + 1) A B
    have b3 := dq_L_le (dq_E g) (i + 1) l A B
    refine br_f (c := (1 : Int32) = 0) (by decide) ⟨pk_in (17 * (i + 1) + l) 289 (by omega) hq1, pk_in (17 * i + (l + 1)) 289 (by omega) hq2, ?_⟩
    refine dy_max (dq_L (dq_E g) (i + 1) l A B) (dq_L (dq_E g) i (l + 1) A B) (by rw [hq1, nI_clamp (by omega), H (i + 1) l (by omega) (by omega) (Or.inl (by omega))]) (by rw [hq2, nI_clamp (by omega), H i (l + 1) (by omega) (by omega) (Or.inr ⟨rfl, by omega⟩)]) (by omega) (by omega) (fun w hw h5 h6 => ?_)
    exact dy_242 G (by omega) (by omega) hw h5 h6 H k
theorem dy_162 {post : SY → Prop} {mn : Int32} {sy le hd ol nw sp : Nat → Int32} {g : Nat → Nat} {A B : Nat} (G : ds_G sy le g A B)
    (K : ∀ tl', dy_T (dq_E g) A B 0 tl' → post (mn, le, sy, hd, tl', ol, nw, sp)) : ∀ (l n : Nat) (tl : Nat → Int32), l ≤ A + 1 → l < n → dy_T (dq_E g) A B l tl → wY_work_162 post mn n (nI l + (-1)) le sy hd tl ol nw sp := by
  have hA := G.2.2.2.2.1
  have hB := G.2.2.2.2.2
  intro l
  induction l with
  | zero =>
    intro n tl hl hn H
    obtain ⟨m, rfl⟩ : ∃ m, n = m + 1 := ⟨n - 1, by omega⟩
    exact br_t ds_neg0 (K tl H)
  | succ l ih =>
    intro n tl hl hn H
    obtain ⟨m, rfl⟩ : ∃ m, n = m + 1 := ⟨n - 1, by omega⟩
    rw [pk_m1]
    refine br_f (nI_pos (by omega)) ?_
    intro x ex
    rw [G.2.2.2.1, ← pk_m1] at ex
    subst ex
    refine ⟨B + 2, ?_⟩
    exact dy_173 G (by omega) (fun tl' h' => ih m tl' (by omega) (by omega) (fun i j h1 h2 h3 => h' i j h2 h3 (by omega))) (B + 1) (B + 2) tl (by omega) (by omega) (fun i j h1 h2 h3 => H i j (by omega) h1 h2)
theorem dy_2 {post : SY → Prop} {mn : Int32} {sy le tl ol nw sp : Nat → Int32} {g : Nat → Nat} {A B : Nat} (G : ds_G sy le g A B)
    (K : ∀ hd' tl', dy_H (dq_E g) A B hd' → dy_T (dq_E g) A B 0 tl' → post (mn, le, sy, hd', tl', ol, nw, sp)) : ∀ (d n i : Nat) (hd : Nat → Int32), i + d = A + 1 → d < n → dr_H (dq_E g) A B i 0 hd → wY_work_2 post mn n (nI i) le sy hd tl ol nw sp := by
  have hA := G.2.2.2.2.1
  have hB := G.2.2.2.2.2
  intro d
  induction d with
  | zero =>
    intro n i hd hi hn H
    obtain ⟨m, rfl⟩ : ∃ m, n = m + 1 := ⟨n - 1, by omega⟩
    have e : i = A + 1 := by omega
    subst e
    refine pk_lt A (A + 1) (fun _ => ?_) (fun h => absurd h (by omega)) G.2.2.1
    intro x ex
    rw [G.2.2.1, ← pk_m1] at ex
    subst ex
    exact ⟨A + 2, dy_162 G (fun tl' h' => K hd tl' (fun i j h1 h2 => H i j h1 h2 (Or.inl (by omega))) h') (A + 1) (A + 2) tl (by omega) (by omega) (fun i j h1 h2 h3 => absurd h1 (by omega))⟩
  | succ d ih =>
    intro n i hd hi hn H
    obtain ⟨m, rfl⟩ : ∃ m, n = m + 1 := ⟨n - 1, by omega⟩
    refine pk_lt A i (fun h => absurd h (by omega)) (fun _ => ⟨B + 2, ?_⟩) G.2.2.1
    exact dy_14 G (by omega) (fun hd' h' => ih m (i + 1) hd' (by omega) (by omega) h') (B + 1) (B + 2) 0 hd (by omega) (by omega) H
theorem dy_work {post : SY → Prop} {mn : Int32} {sy le hd tl ol nw sp : Nat → Int32} {g : Nat → Nat} {A B : Nat} (G : ds_G sy le g A B)
    (K : ∀ hd' tl', dy_H (dq_E g) A B hd' → dy_T (dq_E g) A B 0 tl' → post (mn, le, sy, hd', tl', ol, nw, sp)) : wpY_work post (mn, le, sy, hd, tl, ol, nw, sp) :=
  ⟨A + 2, dy_2 G K (A + 1) (A + 2) 0 hd (by omega) (by omega) dr_H0⟩
end
section
/-! Y: least, list -/
theorem dy_17n {post : Int32 → Prop} {J : Int32 → Prop} {q mn : Int32} {sy le hd tl ol nw sp : Nat → Int32} {g : Nat → Nat} {A B p a : Nat} (G : ds_G sy le g A B) (T : dy_T (dq_E g) A B 0 tl) (ha : a < A) (hp : p ≤ 17) (K : J (nI (a + 1))) : ∀ (d n b : Nat), b + d = B → d < n → (∀ t, b ≤ t → t < B → dq_E g a t → dq_L (dq_E g) (a + 1) (t + 1) A B + 1 ≠ p) → wY_least_17 post J q (nI p) (nI a) mn le sy hd tl ol nw sp n (nI b) := by
  have hA := G.2.2.2.2.1
  have hB := G.2.2.2.2.2
  intro d
  induction d with
  | zero =>
    intro n b hb hn h
    obtain ⟨m, rfl⟩ : ∃ m, n = m + 1 := ⟨n - 1, by omega⟩
    refine pk_le B b (fun _ => ?_) (fun h => absurd h (by omega)) G.2.2.2.1
    intro y ey
    rw [nI_1] at ey
    subst ey
    exact K
  | succ d ih =>
    intro n b hb hn h
    obtain ⟨m, rfl⟩ : ∃ m, n = m + 1 := ⟨n - 1, by omega⟩
    refine pk_le B b (fun h => absurd h (by omega)) (fun _ => ?_) G.2.2.2.1
    have k : wY_least_17 post J q (nI p) (nI a) mn le sy hd tl ol nw sp m (nI (b + 1)) := ih m (b + 1) (by omega) (by omega) (fun t h1 h2 => h t (by omega) h2)
    by_cases he : dq_E g a b
    · refine dy_same1 G rfl rfl (by omega) (by omega) he ?_
      refine br_f (by decide) ?_
      have hq : 17 * nI a + nI b + 18 = nI (17 * (a + 1) + (b + 1)) := by
        rw [ds_17m, nI_add, ds_p18]
        exact congrArg nI (by omega)
      have b1 := dq_L_le (dq_E g) (a + 1) (b + 1) A B
      refine ⟨pk_in (17 * (a + 1) + (b + 1)) 289 (by omega) hq, ?_⟩
      refine br_f (by rw [hq, nI_clamp (by omega), T (a + 1) (b + 1) (by omega) (by omega) (by omega), nI_1]; exact ds_ne (by omega) (by omega) (h b (Nat.le_refl _) (by omega) he)) ?_
      intro y ey
      rw [nI_1] at ey
      subst ey
      exact k
    · refine dy_same0 G rfl rfl (by omega) (by omega) he ?_
      refine br_t rfl ?_
      intro y ey
      rw [nI_1] at ey
      subst ey
      exact k
theorem dy_17h {post : Int32 → Prop} {J : Int32 → Prop} {q mn : Int32} {sy le hd tl ol nw sp : Nat → Int32} {g : Nat → Nat} {A B p a z : Nat} (G : ds_G sy le g A B) (T : dy_T (dq_E g) A B 0 tl) (ha : a < A) (hp : p ≤ 17) (hz : z < B) (hE : dq_E g a z) (hL : dq_L (dq_E g) (a + 1) (z + 1) A B + 1 = p) (K : post (nI (16 * a + z))) : ∀ (d n b : Nat), b + d = z → d < n → (∀ t, b ≤ t → t < z → dq_E g a t → dq_L (dq_E g) (a + 1) (t + 1) A B + 1 ≠ p) → wY_least_17 post J q (nI p) (nI a) mn le sy hd tl ol nw sp n (nI b) := by
  have hA := G.2.2.2.2.1
  have hB := G.2.2.2.2.2
  intro d
  induction d with
  | zero =>
    intro n b hb hn h
    obtain ⟨m, rfl⟩ : ∃ m, n = m + 1 := ⟨n - 1, by omega⟩
    have e : b = z := by omega
    subst e
    refine pk_le B b (fun h => absurd h (by omega)) (fun _ => ?_) G.2.2.2.1
    refine dy_same1 G rfl rfl (by omega) (by omega) hE ?_
    refine br_f (by decide) ?_
    have hq : 17 * nI a + nI b + 18 = nI (17 * (a + 1) + (b + 1)) := by
      rw [ds_17m, nI_add, ds_p18]
      exact congrArg nI (by omega)
    refine ⟨pk_in (17 * (a + 1) + (b + 1)) 289 (by omega) hq, ?_⟩
    refine br_t (by rw [hq, nI_clamp (by omega), T (a + 1) (b + 1) (by omega) (by omega) (by omega), nI_1, hL]) ?_
    rw [ds_16m, nI_add]
    exact K
  | succ d ih =>
    intro n b hb hn h
    obtain ⟨m, rfl⟩ : ∃ m, n = m + 1 := ⟨n - 1, by omega⟩
    refine pk_le B b (fun h => absurd h (by omega)) (fun _ => ?_) G.2.2.2.1
    have k : wY_least_17 post J q (nI p) (nI a) mn le sy hd tl ol nw sp m (nI (b + 1)) := ih m (b + 1) (by omega) (by omega) (fun t h1 h2 => h t (by omega) h2)
    by_cases he : dq_E g a b
    · refine dy_same1 G rfl rfl (by omega) (by omega) he ?_
      refine br_f (by decide) ?_
      have hq : 17 * nI a + nI b + 18 = nI (17 * (a + 1) + (b + 1)) := by
        rw [ds_17m, nI_add, ds_p18]
        exact congrArg nI (by omega)
      have b1 := dq_L_le (dq_E g) (a + 1) (b + 1) A B
      refine ⟨pk_in (17 * (a + 1) + (b + 1)) 289 (by omega) hq, ?_⟩
      refine br_f (by rw [hq, nI_clamp (by omega), T (a + 1) (b + 1) (by omega) (by omega) (by omega), nI_1]; exact ds_ne (by omega) (by omega) (h b (Nat.le_refl _) (by omega) he)) ?_
      intro y ey
      rw [nI_1] at ey
      subst ey
      exact k
    · refine dy_same0 G rfl rfl (by omega) (by omega) he ?_
      refine br_t rfl ?_
      intro y ey
      rw [nI_1] at ey
      subst ey
      exact k
theorem dy_3 {post : Int32 → Prop} {mn : Int32} {sy le hd tl ol nw sp : Nat → Int32} {g : Nat → Nat} {A B p i q x y : Nat} (G : ds_G sy le g A B) (T : dy_T (dq_E g) A B 0 tl) (hq : q ≤ B) (hp : p ≤ 17) (F : dq_F (dq_E g) A B i q p x y) (K : post (nI (16 * x + y))) : ∀ (d n a : Nat), a + d = x → d < n → i ≤ a → wY_least_3 post (nI q) (nI p) mn le sy hd tl ol nw sp n (nI a) := by
  have hA := G.2.2.2.2.1
  obtain ⟨⟨f1, f2, f3, f4, f5, f6⟩, f7⟩ := F
  intro d
  induction d with
  | zero =>
    intro n a ha hn hi
    obtain ⟨m, rfl⟩ : ∃ m, n = m + 1 := ⟨n - 1, by omega⟩
    have e : a = x := by omega
    subst e
    refine pk_le A a (fun h => absurd h (by omega)) (fun _ => ⟨y - q + 1, ?_⟩) G.2.2.1
    refine dy_17h G T f2 hp f4 f5 f6 K (y - q) _ q (by omega) (by omega) (fun t h1 h2 h3 h4 => ?_)
    have := f7 a t ⟨hi, f2, h1, by omega, h3, h4⟩
    omega
  | succ d ih =>
    intro n a ha hn hi
    obtain ⟨m, rfl⟩ : ∃ m, n = m + 1 := ⟨n - 1, by omega⟩
    refine pk_le A a (fun h => absurd h (by omega)) (fun _ => ⟨B - q + 1, ?_⟩) G.2.2.1
    refine dy_17n G T (by omega) hp (ih m (a + 1) (by omega) (by omega) (by omega)) (B - q) _ q (by omega) (by omega) (fun t h1 h2 h3 h4 => ?_)
    have := f7 a t ⟨hi, by omega, h1, h2, h3, h4⟩
    omega
theorem dy_least {post : Int32 → Prop} {mn : Int32} {sy le hd tl ol nw sp : Nat → Int32} {g : Nat → Nat} {A B p i q x y : Nat} (G : ds_G sy le g A B) (T : dy_T (dq_E g) A B 0 tl) {c : Int32} (hc : c = nI p) (hq : q ≤ B) (hp : p ≤ 17) (F : dq_F (dq_E g) A B i q p x y) (K : post (nI (16 * x + y))) : wpY_least post (mn, le, sy, hd, tl, ol, nw, sp) (nI i) (nI q) c := by
  subst hc
  have h := F.1.1
  exact ⟨x - i + 1, dy_3 G T hq hp F K (x - i) _ i (by omega) (by omega) (Nat.le_refl _)⟩
theorem dy_18 {post : SY → Prop} {mn : Int32} {sy le hd tl sp : Nat → Int32} {g : Nat → Nat} {A B : Nat} (G : ds_G sy le g A B) (T : dy_T (dq_E g) A B 0 tl)
    (K : ∀ ol nw, (∀ k, k < dq_L (dq_E g) 0 0 A B → ol k = nI (dq_O (dq_E g) A B k) ∧ nw k = nI (dq_N (dq_E g) A B k)) → post (mn, le, sy, hd, tl, ol, nw, sp)) : ∀ (d m k : Nat) (ol nw : Nat → Int32), k + d = dq_L (dq_E g) 0 0 A B → d < m → (∀ t, t < k → ol t = nI (dq_O (dq_E g) A B t) ∧ nw t = nI (dq_N (dq_E g) A B t)) → wY_list_18 post (nI (dq_L (dq_E g) 0 0 A B)) mn m (nI (dq_st (dq_E g) A B k).1) (nI (dq_st (dq_E g) A B k).2) (nI k) le sy hd tl ol nw sp := by
  have hA := G.2.2.2.2.1
  have hB := G.2.2.2.2.2
  have hn := dq_L_le (dq_E g) 0 0 A B
  intro d
  induction d with
  | zero =>
    intro m k ol nw hd hm h
    obtain ⟨m, rfl⟩ : ∃ m', m = m' + 1 := ⟨m - 1, by omega⟩
    exact pk_le (dq_L (dq_E g) 0 0 A B) k (fun _ => K ol nw (fun t ht => h t (by omega))) (fun h => absurd h (by omega))
  | succ d ih =>
    intro m k ol nw hd hm h
    obtain ⟨m, rfl⟩ : ∃ m', m = m' + 1 := ⟨m - 1, by omega⟩
    have hb := dq_st_b (dq_E g) A B (show k < dq_L (dq_E g) 0 0 A B by omega)
    have hF := dq_st_F (dq_E g) A B (show k < dq_L (dq_E g) 0 0 A B by omega)
    have c1 : (nI k).toNatClampNeg = k := nI_clamp (by omega)
    refine pk_le (dq_L (dq_E g) 0 0 A B) k (fun h => absurd h (by omega)) (fun _ => ?_)
    refine pk_le 16 k (fun h => absurd h (by omega)) (fun _ => ?_)
    refine dy_least G T (pk_sub (by omega)) (by omega) (by omega) hF ?_
    have d1 : nI (16 * dq_O (dq_E g) A B k + dq_N (dq_E g) A B k) / 16 = nI (dq_O (dq_E g) A B k) := by
      have z := pk_div (a := 16 * dq_O (dq_E g) A B k + dq_N (dq_E g) A B k) (d := 16) (by omega) (by omega) (by omega)
      rw [show (16 * dq_O (dq_E g) A B k + dq_N (dq_E g) A B k) / 16 = dq_O (dq_E g) A B k by omega] at z
      exact z
    have d2 : nI (16 * dq_O (dq_E g) A B k + dq_N (dq_E g) A B k) - nI (16 * dq_O (dq_E g) A B k + dq_N (dq_E g) A B k) / 16 * 16 = nI (dq_N (dq_E g) A B k) := by
      have z := pk_rem (a := 16 * dq_O (dq_E g) A B k + dq_N (dq_E g) A B k) (d := 16) (by omega) (by omega) (by omega)
      rw [show (16 * dq_O (dq_E g) A B k + dq_N (dq_E g) A B k) % 16 = dq_N (dq_E g) A B k by omega] at z
      exact z
    have hin : vp_in (nI k) 16 := vp_in_nI (by omega) (by omega)
    refine ⟨by decide, hin, ?_⟩
    intro ol' eo
    refine ⟨by decide, hin, ?_⟩
    intro nw' en
    rw [c1, d1] at eo
    rw [c1, d2] at en
    subst eo en
    refine ⟨hin, ?_⟩
    intro x1 e1
    refine ⟨hin, ?_⟩
    intro x2 e2 x3 e3
    rw [c1, pk_us, nI_1] at e1 e2
    rw [nI_1] at e3
    subst e1 e2 e3
    refine ih m (k + 1) _ _ (by omega) (by omega) (fun t ht => ?_)
    by_cases e : t = k
    · subst e
      rw [pk_us, pk_us]
      exact ⟨rfl, rfl⟩
    · rw [pk_un e, pk_un e]
      exact h t (by omega)
theorem dy_list {post : SY → Prop} {mn : Int32} {sy le hd tl ol nw sp : Nat → Int32} {g : Nat → Nat} {A B : Nat} (G : ds_G sy le g A B)
    (K : ∀ hd tl ol nw, dy_T (dq_E g) A B 0 tl → (∀ k, k < dq_L (dq_E g) 0 0 A B → ol k = nI (dq_O (dq_E g) A B k) ∧ nw k = nI (dq_N (dq_E g) A B k)) → post (mn, le, sy, hd, tl, ol, nw, sp)) : wpY_list post (mn, le, sy, hd, tl, ol, nw, sp) := by
  unfold wpY_list
  refine dy_work G (fun hd' tl' _ T => ?_)
  intro x ex
  have t0 : tl' 0 = nI (dq_L (dq_E g) 0 0 A B) := T 0 0 (Nat.le_refl _) (Nat.zero_le _) (Nat.zero_le _)
  rw [t0] at ex
  subst ex
  exact ⟨dq_L (dq_E g) 0 0 A B + 1, dy_18 G T (fun ol nw h => K hd' tl' ol nw T h) (dq_L (dq_E g) 0 0 A B) _ 0 ol nw (by omega) (by omega) (fun t ht => absurd ht (by omega))⟩
end
section
/-! Y: put, write -/
theorem dy_put {post : SY → Prop} {sy le hd tl ol nw sp : Nat → Int32} {P : Nat × (Nat → Nat)} {a b : Int32} (k v : Nat) (ha : a = nI k) (hb : b = nI v) (hk : k < 4) (hv : v < 8) (hP : P.1 < 32) (h : dq_HY sp P)
    (K : ∀ sp', dq_HY sp' (dq_push P (k + 4 * v)) → post (nI (dq_push P (k + 4 * v)).1, le, sy, hd, tl, ol, nw, sp')) : wpY_put post (nI P.1, le, sy, hd, tl, ol, nw, sp) a b := by
  subst ha hb
  refine pk_le 32 P.1 (fun h => absurd h (by omega)) (fun _ => ⟨vp_in_nI hP (by omega), ?_⟩)
  intro s es c ec
  rw [nI_clamp (by omega), ds_4m, nI_add] at es
  rw [nI_1] at ec
  subst es ec
  exact K _ (dq_HY_push h (k + 4 * v) (by omega))
theorem dy_115 {post : SY → Prop} {J : Int32 → Int32 → Int32 → Int32 → (Nat → Int32) → (Nat → Int32) → (Nat → Int32) → (Nat → Int32) → (Nat → Int32) → (Nat → Int32) → (Nat → Int32) → Prop} {x1 x3 x4 x5 : Int32} {sy le hd tl ol nw : Nat → Int32} {g : Nat → Nat} {A B : Nat} (G : ds_G sy le g A B) {j1 : Nat} (hj : j1 ≤ 16) : ∀ (d n j : Nat) (P : Nat × (Nat → Nat)) (sp : Nat → Int32), j + d = j1 → d < n → P.1 + d ≤ 32 → dq_HY sp P →
    (∀ m sp', dq_HY sp' (dq_run (fun y => 2 + 4 * g (16 + y)) d j P) → wY_write_115 post J x1 x3 x4 x5 (nI j1) (m + 1) (nI j1) (nI (dq_run (fun y => 2 + 4 * g (16 + y)) d j P).1) le sy hd tl ol nw sp') → wY_write_115 post J x1 x3 x4 x5 (nI j1) n (nI j) (nI P.1) le sy hd tl ol nw sp := by
  intro d
  induction d with
  | zero =>
    intro n j P sp hd hn hP h K
    obtain ⟨m, rfl⟩ : ∃ m, n = m + 1 := ⟨n - 1, by omega⟩
    have e : j = j1 := by omega
    subst e
    exact K m sp h
  | succ d ih =>
    intro n j P sp hd hn hP h K
    obtain ⟨m, rfl⟩ : ∃ m, n = m + 1 := ⟨n - 1, by omega⟩
    have c2 : (16 + nI j).toNatClampNeg = 16 + j := by rw [ds_16p, nI_clamp (by omega)]
    refine pk_le j1 j (fun h => absurd h (by omega)) (fun _ => ⟨pk_in (16 + j) 32 (by omega) (ds_16p j), ?_⟩)
    refine dy_put 2 (g (16 + j)) rfl (by rw [c2]; exact G.1 _) (by omega) (G.2.1 _) (by omega) h (fun sp' h' => ?_)
    intro y ey
    rw [nI_1] at ey
    subst ey
    exact ih m (j + 1) _ sp' (by omega) (by omega) (show P.1 + 1 + d ≤ 32 by omega) h' K
theorem dy_92 {post : SY → Prop} {J : Int32 → Int32 → Int32 → Int32 → (Nat → Int32) → (Nat → Int32) → (Nat → Int32) → (Nat → Int32) → (Nat → Int32) → (Nat → Int32) → (Nat → Int32) → Prop} {x3 x4 : Int32} {sy le hd tl ol nw : Nat → Int32} {g : Nat → Nat} {A B : Nat} (G : ds_G sy le g A B) {i1 j0 j1 : Nat} (hi : i1 ≤ 16) (hj0 : j0 ≤ j1) (hj : j1 ≤ 16) : ∀ (d n i : Nat) (P : Nat × (Nat → Nat)) (sp : Nat → Int32), i + d = i1 → d < n → P.1 + d + (j1 - j0) ≤ 32 → dq_HY sp P →
    (∀ m sp', dq_HY sp' (dq_run (fun y => 2 + 4 * g (16 + y)) (j1 - j0) j0 (dq_run (fun x => 1 + 4 * g x) d i P)) → wY_write_115 post J (nI i1) x3 x4 (nI i1) (nI j1) (m + 1) (nI j1) (nI (dq_run (fun y => 2 + 4 * g (16 + y)) (j1 - j0) j0 (dq_run (fun x => 1 + 4 * g x) d i P)).1) le sy hd tl ol nw sp') → wY_write_92 post J (nI j0) x3 x4 (nI i1) (nI j1) n (nI i) (nI P.1) le sy hd tl ol nw sp := by
  intro d
  induction d with
  | zero =>
    intro n i P sp hd hn hP h K
    obtain ⟨m, rfl⟩ : ∃ m, n = m + 1 := ⟨n - 1, by omega⟩
    have e : i = i1 := by omega
    subst e
    refine pk_le i i (fun _ => ⟨j1 - j0 + 1, ?_⟩) (fun h => absurd h (by omega))
    exact dy_115 G hj (j1 - j0) _ j0 P sp (by omega) (by omega) (by omega) h K
  | succ d ih =>
    intro n i P sp hd hn hP h K
    obtain ⟨m, rfl⟩ : ∃ m, n = m + 1 := ⟨n - 1, by omega⟩
    have c2 : (nI i).toNatClampNeg = i := nI_clamp (by omega)
    refine pk_le i1 i (fun h => absurd h (by omega)) (fun _ => ⟨vp_in_nI (by omega) (by omega), ?_⟩)
    refine dy_put 1 (g i) rfl (by rw [c2]; exact G.1 _) (by omega) (G.2.1 _) (by omega) h (fun sp' h' => ?_)
    intro y ey
    rw [nI_1] at ey
    subst ey
    exact ih m (i + 1) _ sp' (by omega) (by omega) (show P.1 + 1 + d + (j1 - j0) ≤ 32 by omega) h' K
theorem dy_gap {post : SY → Prop} {J : Int32 → Int32 → Int32 → Int32 → (Nat → Int32) → (Nat → Int32) → (Nat → Int32) → (Nat → Int32) → (Nat → Int32) → (Nat → Int32) → (Nat → Int32) → Prop} {x3 x4 a b : Int32} {sy le hd tl ol nw sp : Nat → Int32} {g : Nat → Nat} {A B : Nat} (G : ds_G sy le g A B) {P : Nat × (Nat → Nat)} {i0 i1 j0 j1 : Nat} (ha : a = nI i1) (hb : b = nI j1) (hi0 : i0 ≤ i1) (hi : i1 ≤ 16) (hj0 : j0 ≤ j1) (hj : j1 ≤ 16) (hP : P.1 + (i1 - i0) + (j1 - j0) ≤ 32) (h : dq_HY sp P)
    (K : ∀ m sp', dq_HY sp' (dq_gap g i0 i1 j0 j1 P) → wY_write_115 post J (nI i1) x3 x4 (nI i1) (nI j1) (m + 1) (nI j1) (nI (dq_gap g i0 i1 j0 j1 P).1) le sy hd tl ol nw sp') : ∃ n, wY_write_92 post J (nI j0) x3 x4 a b n (nI i0) (nI P.1) le sy hd tl ol nw sp := by
  subst ha hb
  exact ⟨i1 - i0 + 1, dy_92 G hi hj0 hj (i1 - i0) _ i0 P sp (by omega) (by omega) hP h K⟩
theorem dy_15 {post : SY → Prop} {sy le hd tl ol nw : Nat → Int32} {g : Nat → Nat} {A B : Nat} (G : ds_G sy le g A B) (T : dy_T (dq_E g) A B 0 tl) (hp : ∀ k, k < dq_L (dq_E g) 0 0 A B → ol k = nI (dq_O (dq_E g) A B k) ∧ nw k = nI (dq_N (dq_E g) A B k))
    (K : ∀ sp, dq_HY sp (dq_fs g A B) → post (nI (dq_fs g A B).1, le, sy, hd, tl, ol, nw, sp)) : ∀ (d m k : Nat) (sp : Nat → Int32), k + d = dq_L (dq_E g) 0 0 A B → d + 1 < m → dq_HY sp (dq_sc g A B k) → wY_write_15 post m (nI (dq_st (dq_E g) A B k).1) (nI (dq_st (dq_E g) A B k).2) (nI k) (nI (dq_sc g A B k).1) le sy hd tl ol nw sp := by
  have hA := G.2.2.2.2.1
  have hB := G.2.2.2.2.2
  have hn := dq_L_le (dq_E g) 0 0 A B
  have t0 : tl 0 = nI (dq_L (dq_E g) 0 0 A B) := T 0 0 (Nat.le_refl _) (Nat.zero_le _) (Nat.zero_le _)
  intro d
  induction d with
  | zero =>
    intro m k sp hd hm h
    obtain ⟨m, rfl⟩ : ∃ m', m = m' + 2 := ⟨m - 2, by omega⟩
    have e : k = dq_L (dq_E g) 0 0 A B := by omega
    have hs := dq_st_le (dq_E g) A B k (by omega)
    have h1 := dq_sc_1 g A B k (by omega)
    refine pk_lt (dq_L (dq_E g) 0 0 A B) k (fun h => absurd h (by omega)) (fun _ => ?_) t0
    refine pk_lt 16 k (fun h => absurd h (by omega)) (fun _ => ?_)
    refine br_t (by rw [t0, e]) ?_
    refine br_f (c := (1 : Int32) = 0) (by decide) ?_
    refine br_f (c := (1 : Int32) = 0) (by decide) ?_
    intro x6 e6
    rw [G.2.2.2.1] at e6
    subst e6
    refine dy_gap G G.2.2.1 rfl hs.1 hA hs.2 hB (by omega) h (fun m' sp' h' => ?_)
    refine pk_le B B (fun _ => ?_) (fun h => absurd h (by omega))
    refine br_f (c := (1 : Int32) = 0) (by decide) ?_
    intro x3 e3
    rw [nI_1] at e3
    subst e3
    refine pk_lt (dq_L (dq_E g) 0 0 A B) (k + 1) (fun _ => ?_) (fun h => absurd h (by omega)) t0
    have e2 : dq_gap g (dq_st (dq_E g) A B k).1 A (dq_st (dq_E g) A B k).2 B (dq_sc g A B k) = dq_fs g A B := by
      rw [e]
      rfl
    rw [e2] at h' ⊢
    exact K sp' h'
  | succ d ih =>
    intro m k sp hd hm h
    obtain ⟨m, rfl⟩ : ∃ m', m = m' + 1 := ⟨m - 1, by omega⟩
    have hb := dq_st_b (dq_E g) A B (show k < dq_L (dq_E g) 0 0 A B by omega)
    have h1 := dq_sc_1 g A B k (by omega)
    have hpk := hp k (by omega)
    have c1 : (nI k).toNatClampNeg = k := nI_clamp (by omega)
    have g1 := dq_gap_1 g (dq_st (dq_E g) A B k).1 (dq_O (dq_E g) A B k) (dq_st (dq_E g) A B k).2 (dq_N (dq_E g) A B k) (dq_sc g A B k)
    refine pk_lt (dq_L (dq_E g) 0 0 A B) k (fun h => absurd h (by omega)) (fun _ => ?_) t0
    refine pk_lt 16 k (fun h => absurd h (by omega)) (fun _ => ?_)
    refine br_f (by rw [t0]; exact ds_ne (by omega) (by omega) (by omega)) ?_
    refine br_t (c := (0 : Int32) = 0) rfl ⟨vp_in_nI (by omega) (by omega), ?_⟩
    refine br_t (c := (0 : Int32) = 0) rfl ⟨vp_in_nI (by omega) (by omega), ?_⟩
    intro x6 e6
    rw [c1, hpk.2] at e6
    subst e6
    refine dy_gap G (by rw [c1, hpk.1]) rfl hb.1 (by omega) hb.2.2.1 (by omega) (by omega) h (fun m' sp' h' => ?_)
    refine pk_le (dq_N (dq_E g) A B k) (dq_N (dq_E g) A B k) (fun _ => ?_) (fun h => absurd h (by omega))
    refine br_t (c := (0 : Int32) = 0) rfl ⟨vp_in_nI (by omega) (by omega), ?_⟩
    refine dy_put 0 (g (dq_O (dq_E g) A B k)) rfl (by rw [nI_clamp (by omega)]; exact G.1 _) (by omega) (G.2.1 _) (by omega) h' (fun sp2 h2 => ?_)
    intro x1 e1 x2 e2 x3 e3
    rw [nI_1] at e1 e2 e3
    subst e1 e2 e3
    exact ih m (k + 1) sp2 (by omega) (by omega) h2
theorem dy_write {post : SY → Prop} {mn : Int32} {sy le hd tl ol nw sp : Nat → Int32} {g : Nat → Nat} {A B : Nat} (G : ds_G sy le g A B)
    (K : ∀ hd tl ol nw sp, dq_HY sp (dq_fs g A B) → post (nI (dq_fs g A B).1, le, sy, hd, tl, ol, nw, sp)) : wpY_write post (mn, le, sy, hd, tl, ol, nw, sp) := by
  unfold wpY_write
  refine dy_list G (fun hd' tl' ol' nw' T hp => ?_)
  exact ⟨dq_L (dq_E g) 0 0 A B + 2, dy_15 G T hp (K hd' tl' ol' nw') (dq_L (dq_E g) 0 0 A B) _ 0 sp (by omega) (by omega) (fun t ht => absurd ht (Nat.not_lt_zero t))⟩
end
section
/-! the small methods -/
theorem dz_w {x : Int32} (h : x = 0 ∨ x = 1) : ∃ w, w < 2 ∧ x = nI w := by
  cases h with
  | inl h => exact ⟨0, by omega, h⟩
  | inr h => exact ⟨1, by omega, h⟩
theorem dz_len {sy le : Nat → Int32} {g : Nat → Nat} {A B : Nat} (G : ds_G sy le g A B) {w : Nat} (hw : w < 2) : ∃ l, le w = nI l ∧ l ≤ 16 ∧ ∀ (sy' : Nat → Int32) (g' : Nat → Nat), ds_G sy' le g' A B → ∀ l', l' ≤ 16 → ∃ A' B', ds_G sy' (upd le w (nI l')) g' A' B' := by
  by_cases h : w = 0
  · subst h
    exact ⟨A, G.2.2.1, G.2.2.2.2.1, fun sy' g' G' l' hl => ⟨l', B, ds_G_le0 G' l' hl⟩⟩
  · have h1 : w = 1 := by omega
    subst h1
    exact ⟨B, G.2.2.2.1, G.2.2.2.2.2, fun sy' g' G' l' hl => ⟨A, l', ds_G_le1 G' l' hl⟩⟩
theorem dz_tx1 {post : Int32 → Prop} {pc sc : Int32} {sy le ro po pn sk ss : Nat → Int32} {x : Int32} (h : x = 0 ∨ x = 1) (K : post 1) : wpX_isText post (pc, sc, sy, le, ro, po, pn, sk, ss) x :=
  br_c (fun _ => K) (fun h0 => br_c (fun _ => K) (fun h1 => absurd h (fun z => z.elim h0 h1)))
theorem dz_tx0 {post : Int32 → Prop} {pc sc : Int32} {sy le ro po pn sk ss : Nat → Int32} {x : Int32} (h : ¬ (x = 0 ∨ x = 1)) (K : post 0) : wpX_isText post (pc, sc, sy, le, ro, po, pn, sk, ss) x :=
  br_f (fun z => h (Or.inl z)) (br_f (fun z => h (Or.inr z)) K)
theorem dz_ty1 {post : Int32 → Prop} {mn : Int32} {sy le hd tl ol nw sp : Nat → Int32} {x : Int32} (h : x = 0 ∨ x = 1) (K : post 1) : wpY_text post (mn, le, sy, hd, tl, ol, nw, sp) x :=
  br_c (fun _ => K) (fun h0 => br_c (fun _ => K) (fun h1 => absurd h (fun z => z.elim h0 h1)))
theorem dz_ty0 {post : Int32 → Prop} {mn : Int32} {sy le hd tl ol nw sp : Nat → Int32} {x : Int32} (h : ¬ (x = 0 ∨ x = 1)) (K : post 0) : wpY_text post (mn, le, sy, hd, tl, ol, nw, sp) x :=
  br_f (fun z => h (Or.inl z)) (br_f (fun z => h (Or.inr z)) K)
theorem dz_sx1 {post : Int32 → Prop} {pc sc : Int32} {sy le ro po pn sk ss : Nat → Int32} {c : Nat} (h : c < 8) (K : post 1) : wpX_isSymbol post (pc, sc, sy, le, ro, po, pn, sk, ss) (nI c) :=
  br_f (nI_pos (by omega)) (pk_le 8 c (fun z => absurd z (by omega)) (fun _ => K))
theorem dz_sx0 {post : Int32 → Prop} {pc sc : Int32} {sy le ro po pn sk ss : Nat → Int32} {x : Int32} (h : ¬ ∃ c, c < 8 ∧ x = nI c) (K : post 0) : wpX_isSymbol post (pc, sc, sy, le, ro, po, pn, sk, ss) x := by
  refine br_c (fun _ => K) (fun h0 => ?_)
  obtain ⟨c, hc, rfl⟩ := nI_of h0
  exact pk_le 8 c (fun _ => K) (fun z => absurd ⟨c, z, rfl⟩ h)
theorem dz_px1 {post : Int32 → Prop} {pc sc : Int32} {sy le ro po pn sk ss : Nat → Int32} {p : Int32} {w n c : Nat} (hp : p = nI w) (hw : w < 2) (hl : le w = nI n) (hn : n ≤ 16) (h : c < n) (K : post 1) : wpX_isPlace post (pc, sc, sy, le, ro, po, pn, sk, ss) p (nI c) := by
  subst hp
  refine br_f (nI_pos (by omega)) ⟨vp_in_nI hw (by omega), ?_⟩
  exact pk_le n c (fun z => absurd z (by omega)) (fun _ => K) (by rw [nI_clamp (by omega), hl])
theorem dz_px0 {post : Int32 → Prop} {pc sc : Int32} {sy le ro po pn sk ss : Nat → Int32} {p x : Int32} {w n : Nat} (hp : p = nI w) (hw : w < 2) (hl : le w = nI n) (hn : n ≤ 16) (h : ¬ ∃ c, c < n ∧ x = nI c) (K : post 0) : wpX_isPlace post (pc, sc, sy, le, ro, po, pn, sk, ss) p x := by
  subst hp
  refine br_c (fun _ => K) (fun h0 => ⟨vp_in_nI hw (by omega), ?_⟩)
  obtain ⟨c, hc, rfl⟩ := nI_of h0
  exact pk_le n c (fun _ => K) (fun z => absurd ⟨c, z, rfl⟩ h) (by rw [nI_clamp (by omega), hl])
theorem dz_bx1 {post : Int32 → Prop} {pc sc : Int32} {sy le ro po pn sk ss : Nat → Int32} {p : Int32} {w n c : Nat} (hp : p = nI w) (hw : w < 2) (hl : le w = nI n) (hn : n ≤ 16) (h : c ≤ n) (K : post 1) : wpX_isBound post (pc, sc, sy, le, ro, po, pn, sk, ss) p (nI c) := by
  subst hp
  refine br_f (nI_pos (by omega)) ⟨vp_in_nI hw (by omega), ?_⟩
  exact pk_lt n c (fun z => absurd z (by omega)) (fun _ => K) (by rw [nI_clamp (by omega), hl])
theorem dz_bx0 {post : Int32 → Prop} {pc sc : Int32} {sy le ro po pn sk ss : Nat → Int32} {p x : Int32} {w n : Nat} (hp : p = nI w) (hw : w < 2) (hl : le w = nI n) (hn : n ≤ 16) (h : ¬ ∃ c, c ≤ n ∧ x = nI c) (K : post 0) : wpX_isBound post (pc, sc, sy, le, ro, po, pn, sk, ss) p x := by
  subst hp
  refine br_c (fun _ => K) (fun h0 => ⟨vp_in_nI hw (by omega), ?_⟩)
  obtain ⟨c, hc, rfl⟩ := nI_of h0
  exact pk_lt n c (fun _ => K) (fun z => absurd ⟨c, z, rfl⟩ h) (by rw [nI_clamp (by omega), hl])
theorem dz_pl1 {post : Int32 → Prop} {mn : Int32} {sy le hd tl ol nw sp : Nat → Int32} {i j A B : Nat} (h0 : le 0 = nI A) (h1 : le 1 = nI B) (hA : A ≤ 16) (hB : B ≤ 16) (hi : i ≤ A) (hj : j ≤ B) (K : post 1) : wpY_places post (mn, le, sy, hd, tl, ol, nw, sp) (nI i) (nI j) :=
  br_f (nI_pos (by omega)) (pk_lt A i (fun z => absurd z (by omega)) (fun _ => br_f (nI_pos (by omega)) (pk_lt B j (fun z => absurd z (by omega)) (fun _ => K) h1)) h0)
theorem dz_pl0 {post : Int32 → Prop} {mn : Int32} {sy le hd tl ol nw sp : Nat → Int32} {x y : Int32} {A B : Nat} (h0 : le 0 = nI A) (h1 : le 1 = nI B) (hA : A ≤ 16) (hB : B ≤ 16) (h : (∃ i, i ≤ A ∧ x = nI i) → ¬ ∃ j, j ≤ B ∧ y = nI j) (K : post 0) : wpY_places post (mn, le, sy, hd, tl, ol, nw, sp) x y := by
  refine br_c (fun _ => K) (fun z0 => ?_)
  obtain ⟨i, hi, rfl⟩ := nI_of z0
  refine pk_lt A i (fun _ => K) (fun z1 => ?_) h0
  refine br_c (fun _ => K) (fun z2 => ?_)
  obtain ⟨j, hj, rfl⟩ := nI_of z2
  exact pk_lt B j (fun _ => K) (fun z3 => absurd ⟨j, z3, rfl⟩ (h ⟨i, z1, rfl⟩)) h1
/-- one cell after the other: the two texts change places -/
def dz_sw : Nat → Nat → (Nat → Int32) → Nat → Int32
  | 0, _, s => s
  | d + 1, i, s => dz_sw d (i + 1) (upd (upd s i (s (16 + i))) (16 + i) (s i))
theorem dz_sw_G {le : Nat → Int32} {A B : Nat} : ∀ (d i : Nat) (s : Nat → Int32) (g : Nat → Nat), ds_G s le g A B → ∃ g', ds_G (dz_sw d i s) le g' A B := by
  intro d
  induction d with
  | zero => intro i s g G; exact ⟨g, G⟩
  | succ d ih =>
    intro i s g G
    have G1 := ds_G_put G i (g (16 + i)) (G.2.1 _)
    have G2 := ds_G_put G1 (16 + i) (g i) (G.2.1 _)
    rw [← G.1 i, ← G.1 (16 + i)] at G2
    exact ih (i + 1) _ _ G2
theorem dz_swl {sy le : Nat → Int32} {g : Nat → Nat} {A B : Nat} (G : ds_G sy le g A B) : ds_G sy (upd (upd le 0 (le 1)) 1 (le 0)) g B A := by
  rw [G.2.2.1, G.2.2.2.1]
  exact ds_G_le1 (ds_G_le0 G B G.2.2.2.2.2) A G.2.2.2.2.1
theorem dz_swx {post : SX → Prop} {pc sc : Int32} {le ro po pn sk ss : Nat → Int32} : ∀ (d n i : Nat) (sy : Nat → Int32), i + d = 16 → d < n → post (pc, sc, dz_sw d i sy, upd (upd le 0 (le 1)) 1 (le 0), ro, po, pn, sk, ss) → wX_swap_2 post pc sc n (nI i) sy le ro po pn sk ss := by
  intro d
  induction d with
  | zero =>
    intro n i sy hd hn K
    obtain ⟨m, rfl⟩ : ∃ m, n = m + 1 := ⟨n - 1, by omega⟩
    refine pk_le 16 i (fun _ => ?_) (fun h => absurd h (by omega))
    intro x ex a ea b eb
    subst ex ea eb
    exact K
  | succ d ih =>
    intro n i sy hd hn K
    obtain ⟨m, rfl⟩ : ∃ m, n = m + 1 := ⟨n - 1, by omega⟩
    have c1 : (nI i).toNatClampNeg = i := nI_clamp (by omega)
    have c2 : (16 + nI i).toNatClampNeg = 16 + i := by rw [ds_16p, nI_clamp (by omega)]
    have i1 : vp_in (nI i) 32 := vp_in_nI (by omega) (by omega)
    have i2 : vp_in (16 + nI i) 32 := pk_in (16 + i) 32 (by omega) (ds_16p i)
    refine pk_le 16 i (fun h => absurd h (by omega)) (fun _ => ⟨i1, ?_⟩)
    intro x ex
    refine ⟨i2, i1, ?_⟩
    intro a ea
    refine ⟨i2, ?_⟩
    intro b eb y ey
    rw [c1] at ex
    rw [c1, c2] at ea
    rw [c2] at eb
    rw [nI_1] at ey
    subst ex ea eb ey
    exact ih m (i + 1) _ (by omega) (by omega) K
theorem dz_swy {post : SY → Prop} {mn : Int32} {le hd tl ol nw sp : Nat → Int32} : ∀ (d n i : Nat) (sy : Nat → Int32), i + d = 16 → d < n → post (mn, upd (upd le 0 (le 1)) 1 (le 0), dz_sw d i sy, hd, tl, ol, nw, sp) → wY_swap_2 post mn n (nI i) le sy hd tl ol nw sp := by
  intro d
  induction d with
  | zero =>
    intro n i sy hd hn K
    obtain ⟨m, rfl⟩ : ∃ m, n = m + 1 := ⟨n - 1, by omega⟩
    refine pk_le 16 i (fun _ => ?_) (fun h => absurd h (by omega))
    intro x ex a ea b eb
    subst ex ea eb
    exact K
  | succ d ih =>
    intro n i sy hd hn K
    obtain ⟨m, rfl⟩ : ∃ m, n = m + 1 := ⟨n - 1, by omega⟩
    have c1 : (nI i).toNatClampNeg = i := nI_clamp (by omega)
    have c2 : (16 + nI i).toNatClampNeg = 16 + i := by rw [ds_16p, nI_clamp (by omega)]
    have i1 : vp_in (nI i) 32 := vp_in_nI (by omega) (by omega)
    have i2 : vp_in (16 + nI i) 32 := pk_in (16 + i) 32 (by omega) (ds_16p i)
    refine pk_le 16 i (fun h => absurd h (by omega)) (fun _ => ⟨i1, ?_⟩)
    intro x ex
    refine ⟨i2, i1, ?_⟩
    intro a ea
    refine ⟨i2, ?_⟩
    intro b eb y ey
    rw [c1] at ex
    rw [c1, c2] at ea
    rw [c2] at eb
    rw [nI_1] at ey
    subst ex ea eb ey
    exact ih m (i + 1) _ (by omega) (by omega) K
theorem dz_fs {sy le : Nat → Int32} {g : Nat → Nat} {A B : Nat} (G : ds_G sy le g A B) : (dq_fs g A B).1 ≤ 32 := by
  have hA := G.2.2.2.2.1
  have hB := G.2.2.2.2.2
  have h1 := dq_sc_1 g A B (dq_L (dq_E g) 0 0 A B) (Nat.le_refl _)
  have h2 := dq_st_le (dq_E g) A B (dq_L (dq_E g) 0 0 A B) (Nat.le_refl _)
  unfold dq_fs
  rw [dq_gap_1]
  omega
theorem dz_rem {a : Nat} (h : a < 2 ^ 31) : nI a - nI a / 4 * 4 = nI (a % 4) := pk_rem (d := 4) h (by omega) (by omega)
theorem dz_div {a : Nat} (h : a < 2 ^ 31) : nI a / 4 = nI (a / 4) := pk_div (d := 4) h (by omega) (by omega)
/-- the texts and the lengths are the same, the symbols below eight, the lengths at most sixteen; all else is scratch -/
def i_Rel (k : Nat) (u : SX) (v : SY) : Prop := v.2.1 = u.2.2.2.1 ∧ v.2.2.1 = u.2.2.1 ∧ ∃ (g : Nat → Nat) (A B : Nat), ds_G u.2.2.1 u.2.2.2.1 g A B
theorem dz_rel {k : Nat} {pc sc mn : Int32} {sy le ro po pn sk ss hd tl ol nw sp : Nat → Int32} {g : Nat → Nat} {A B : Nat} (G : ds_G sy le g A B) : i_Rel k (pc, sc, sy, le, ro, po, pn, sk, ss) (mn, le, sy, hd, tl, ol, nw, sp) := ⟨rfl, rfl, g, A, B, G⟩
end
section
theorem i_up {k : Nat} {u : SX} {v : SY} (h : i_Rel k u v) : i_Rel (k + 4) u v := h
theorem i_vc0 : wpX_init (fun u => wpY_init (fun v => i_Rel 0 u v)) := ⟨rfl, rfl, fun _ => 0, 0, 0, fun _ => nI_0.symm, fun _ => Nat.zero_lt_succ 7, nI_0.symm, nI_0.symm, Nat.zero_le 16, Nat.zero_le 16⟩
theorem i_vc_append {k : Nat} {u : SX} {v : SY} (I : i_Rel k u v) (hk : k + 4 ≤ 2048) (v1 : Int32) (v2 : Int32) : wpX_append (fun r u' => wpY_append (fun r' v' => r' = r ∧ i_Rel (k + 4) u' v') v v1 v2) u v1 v2 := by
  obtain ⟨pc, sc, sy, le, ro, po, pn, sk, ss⟩ := u
  obtain ⟨mn, le', sy', hd, tl, ol, nw, sp⟩ := v
  obtain ⟨e1, e2, g, A, B, G0⟩ := I
  have f1 : le = le' := e1.symm
  have f2 : sy = sy' := e2.symm
  have G : ds_G sy le g A B := G0
  clear e1 e2 G0
  subst f1
  subst f2
  have hA := G.2.2.2.2.1
  have hB := G.2.2.2.2.2
  unfold wpX_append
  by_cases hw : v1 = 0 ∨ v1 = 1
  · refine dz_tx1 hw (br_f (by decide) ?_)
    by_cases hs : ∃ c, c < 8 ∧ v2 = nI c
    · obtain ⟨c, hc, rfl⟩ := hs
      refine dz_sx1 hc (br_f (by decide) ?_)
      obtain ⟨w, hw2, rfl⟩ := dz_w hw
      obtain ⟨l, hl, hl16, hG⟩ := dz_len G hw2
      have c1 : (nI w).toNatClampNeg = w := nI_clamp (by omega)
      have i2 : vp_in (nI w) 2 := vp_in_nI hw2 (by omega)
      refine ⟨i2, ?_⟩
      intro x ex
      rw [c1, hl] at ex
      subst ex
      have q1 : nI w * 16 + nI l = nI (16 * w + l) := by
        rw [ds_m16, nI_add]
        exact congrArg nI (by omega)
      have q2 : 16 * nI w + nI l = nI (16 * w + l) := by rw [ds_16m, nI_add]
      have q3 : le (nI w).toNatClampNeg = nI l := by rw [c1, hl]
      refine pk_lt l 16 (fun h => ?_) (fun h => ?_)
      · have i3 : vp_in (nI (16 * w + l)) 32 := vp_in_nI (by omega) (by omega)
        have c3 : (nI (16 * w + l)).toNatClampNeg = 16 * w + l := nI_clamp (by omega)
        refine ⟨by rw [q1]; exact i3, ?_⟩
        intro a ea
        refine ⟨i2, ?_⟩
        intro b eb
        rw [q1, c3] at ea
        rw [c1, nI_1] at eb
        subst ea eb
        unfold wpY_append
        refine dz_ty1 hw (br_f (by decide) (br_f (nI_pos (by omega)) (pk_le c 7 (fun _ => ⟨i2, ?_⟩) (fun z => absurd z (by omega)))))
        refine pk_lt l 16 (fun _ => ⟨i2, by rw [q3, q2]; exact i3, ?_⟩) (fun z => absurd z (by omega)) q3
        intro a ea
        refine ⟨i2, i2, ?_⟩
        intro b eb
        refine ⟨i2, ?_⟩
        rw [q3, q2, c3] at ea
        rw [q3, c1, nI_1] at eb
        subst ea eb
        obtain ⟨A', B', G'⟩ := hG _ _ (ds_G_put G (16 * w + l) c hc) (l + 1) (by omega)
        exact ⟨by rw [c1, pk_us, nI_pred], dz_rel G'⟩
      · unfold wpY_append
        refine dz_ty1 hw (br_f (by decide) (br_f (nI_pos (by omega)) (pk_le c 7 (fun _ => ⟨i2, ?_⟩) (fun z => absurd z (by omega)))))
        exact pk_lt l 16 (fun z => absurd z (by omega)) (fun _ => ⟨rfl, dz_rel G⟩) q3
    · refine dz_sx0 hs (br_t rfl ?_)
      unfold wpY_append
      refine dz_ty1 hw (br_f (by decide) (br_c (fun _ => ⟨rfl, dz_rel G⟩) (fun h0 => ?_)))
      obtain ⟨c, hc, rfl⟩ := nI_of h0
      exact pk_le c 7 (fun z => absurd ⟨c, by omega, rfl⟩ hs) (fun _ => ⟨rfl, dz_rel G⟩)
  · refine dz_tx0 hw (br_t rfl ?_)
    unfold wpY_append
    exact dz_ty0 hw (br_t rfl ⟨rfl, dz_rel G⟩)
theorem i_vc_drop {k : Nat} {u : SX} {v : SY} (I : i_Rel k u v) (hk : k + 4 ≤ 2048) (v1 : Int32) : wpX_drop (fun r u' => wpY_drop (fun r' v' => r' = r ∧ i_Rel (k + 4) u' v') v v1) u v1 := by
  obtain ⟨pc, sc, sy, le, ro, po, pn, sk, ss⟩ := u
  obtain ⟨mn, le', sy', hd, tl, ol, nw, sp⟩ := v
  obtain ⟨e1, e2, g, A, B, G0⟩ := I
  have f1 : le = le' := e1.symm
  have f2 : sy = sy' := e2.symm
  have G : ds_G sy le g A B := G0
  clear e1 e2 G0
  subst f1
  subst f2
  have hA := G.2.2.2.2.1
  have hB := G.2.2.2.2.2
  unfold wpX_drop
  by_cases hw : v1 = 0 ∨ v1 = 1
  · refine dz_tx1 hw (br_f (by decide) ?_)
    obtain ⟨w, hw2, rfl⟩ := dz_w hw
    obtain ⟨l, hl, hl16, hG⟩ := dz_len G hw2
    have c1 : (nI w).toNatClampNeg = w := nI_clamp (by omega)
    have i2 : vp_in (nI w) 2 := vp_in_nI hw2 (by omega)
    have q3 : le (nI w).toNatClampNeg = nI l := by rw [c1, hl]
    refine ⟨i2, ?_⟩
    refine pk_eq l 0 (fun h => ?_) (fun h => ?_) q3
    · unfold wpY_drop
      refine dz_ty1 hw (br_f (by decide) ⟨i2, ?_⟩)
      exact pk_eq l 0 (fun _ => ⟨rfl, dz_rel G⟩) (fun z => absurd h z) q3
    · obtain ⟨p, rfl⟩ : ∃ p, l = p + 1 := ⟨l - 1, by omega⟩
      have i3 : vp_in (nI (16 * w + p)) 32 := vp_in_nI (by omega) (by omega)
      have q1 : nI w * 16 + nI p = nI (16 * w + p) := by
        rw [ds_m16, nI_add]
        exact congrArg nI (by omega)
      have q2 : 16 * nI w + nI p = nI (16 * w + p) := by rw [ds_16m, nI_add]
      refine ⟨i2, ?_⟩
      intro x ex
      rw [q3, nI_pred] at ex
      subst ex
      refine ⟨i2, ?_⟩
      intro a ea
      rw [c1] at ea
      subst ea
      refine ⟨by rw [q1]; exact i3, ?_⟩
      unfold wpY_drop
      refine dz_ty1 hw (br_f (by decide) ⟨i2, ?_⟩)
      refine pk_eq (p + 1) 0 (fun z => absurd z (by omega)) (fun _ => ⟨i2, i2, ?_⟩) q3
      intro b eb
      rw [q3, c1, nI_pred] at eb
      subst eb
      have q4 : upd le w (nI p) (nI w).toNatClampNeg = nI p := by rw [c1, pk_us]
      refine ⟨i2, by rw [q4, q2]; exact i3, ?_⟩
      obtain ⟨A', B', G'⟩ := hG _ _ G p (by omega)
      exact ⟨by rw [q4, q1, q2], dz_rel G'⟩
  · refine dz_tx0 hw (br_t rfl ?_)
    unfold wpY_drop
    exact dz_ty0 hw (br_t rfl ⟨rfl, dz_rel G⟩)
theorem i_vc_change {k : Nat} {u : SX} {v : SY} (I : i_Rel k u v) (hk : k + 4 ≤ 2048) (v1 : Int32) (v2 : Int32) (v3 : Int32) : wpX_change (fun r u' => wpY_change (fun r' v' => r' = r ∧ i_Rel (k + 4) u' v') v v1 v2 v3) u v1 v2 v3 := by
  obtain ⟨pc, sc, sy, le, ro, po, pn, sk, ss⟩ := u
  obtain ⟨mn, le', sy', hd, tl, ol, nw, sp⟩ := v
  obtain ⟨e1, e2, g, A, B, G0⟩ := I
  have f1 : le = le' := e1.symm
  have f2 : sy = sy' := e2.symm
  have G : ds_G sy le g A B := G0
  clear e1 e2 G0
  subst f1
  subst f2
  have hA := G.2.2.2.2.1
  have hB := G.2.2.2.2.2
  unfold wpX_change
  by_cases hw : v1 = 0 ∨ v1 = 1
  · refine dz_tx1 hw (br_f (by decide) ?_)
    obtain ⟨w, hw2, rfl⟩ := dz_w hw
    obtain ⟨l, hl, hl16, hG⟩ := dz_len G hw2
    have c1 : (nI w).toNatClampNeg = w := nI_clamp (by omega)
    have i2 : vp_in (nI w) 2 := vp_in_nI hw2 (by omega)
    have q3 : le (nI w).toNatClampNeg = nI l := by rw [c1, hl]
    by_cases hp : ∃ p, p < l ∧ v2 = nI p
    · obtain ⟨p, hpl, rfl⟩ := hp
      refine dz_px1 rfl hw2 hl hl16 hpl (br_f (by decide) ?_)
      by_cases hs : ∃ c, c < 8 ∧ v3 = nI c
      · obtain ⟨c, hc, rfl⟩ := hs
        refine dz_sx1 hc (br_f (by decide) ?_)
        have i3 : vp_in (nI (16 * w + p)) 32 := vp_in_nI (by omega) (by omega)
        have c3 : (nI (16 * w + p)).toNatClampNeg = 16 * w + p := nI_clamp (by omega)
        have q1 : nI w * 16 + nI p = nI (16 * w + p) := by
          rw [ds_m16, nI_add]
          exact congrArg nI (by omega)
        have q2 : 16 * nI w + nI p = nI (16 * w + p) := by rw [ds_16m, nI_add]
        refine ⟨by rw [q1]; exact i3, ?_⟩
        intro a ea
        rw [q1, c3] at ea
        subst ea
        unfold wpY_change
        refine dz_ty1 hw (br_f (by decide) (br_f (nI_pos (by omega)) ⟨i2, ?_⟩))
        refine pk_le l p (fun z => absurd z (by omega)) (fun _ => br_f (nI_pos (by omega)) ?_) q3
        refine pk_le c 7 (fun _ => ⟨by rw [q2]; exact i3, ?_⟩) (fun z => absurd z (by omega))
        intro a ea
        rw [q2, c3] at ea
        subst ea
        exact ⟨rfl, dz_rel (ds_G_put G (16 * w + p) c hc)⟩
      · refine dz_sx0 hs (br_t rfl ?_)
        unfold wpY_change
        refine dz_ty1 hw (br_f (by decide) (br_f (nI_pos (by omega)) ⟨i2, ?_⟩))
        refine pk_le l p (fun z => absurd z (by omega)) (fun _ => br_c (fun _ => ⟨rfl, dz_rel G⟩) (fun h0 => ?_)) q3
        obtain ⟨c, hc, rfl⟩ := nI_of h0
        exact pk_le c 7 (fun z => absurd ⟨c, by omega, rfl⟩ hs) (fun _ => ⟨rfl, dz_rel G⟩)
    · refine dz_px0 rfl hw2 hl hl16 hp (br_t rfl ?_)
      unfold wpY_change
      refine dz_ty1 hw (br_f (by decide) (br_c (fun _ => ⟨rfl, dz_rel G⟩) (fun h0 => ⟨i2, ?_⟩)))
      obtain ⟨p, hp2, rfl⟩ := nI_of h0
      exact pk_le l p (fun _ => ⟨rfl, dz_rel G⟩) (fun z => absurd ⟨p, z, rfl⟩ hp) q3
  · refine dz_tx0 hw (br_t rfl ?_)
    unfold wpY_change
    exact dz_ty0 hw (br_t rfl ⟨rfl, dz_rel G⟩)
theorem i_vc_swap {k : Nat} {u : SX} {v : SY} (I : i_Rel k u v) (hk : k + 4 ≤ 2048) : wpX_swap (fun u' => wpY_swap (fun v' => i_Rel (k + 4) u' v') v) u := by
  obtain ⟨pc, sc, sy, le, ro, po, pn, sk, ss⟩ := u
  obtain ⟨mn, le', sy', hd, tl, ol, nw, sp⟩ := v
  obtain ⟨e1, e2, g, A, B, G0⟩ := I
  have f1 : le = le' := e1.symm
  have f2 : sy = sy' := e2.symm
  have G : ds_G sy le g A B := G0
  clear e1 e2 G0
  subst f1
  subst f2
  have hA := G.2.2.2.2.1
  have hB := G.2.2.2.2.2
  obtain ⟨g', G'⟩ := dz_sw_G 16 0 sy g G
  refine ⟨17, dz_swx 16 17 0 sy rfl (by omega) ?_⟩
  exact ⟨17, dz_swy 16 17 0 sy rfl (by omega) (dz_rel (dz_swl G'))⟩
theorem i_vc_length {k : Nat} {u : SX} {v : SY} (I : i_Rel k u v) (hk : k + 4 ≤ 2048) (v1 : Int32) : wpX_length (fun r => wpY_length (fun r' => r' = r ∧ i_Rel (k + 4) u v) v v1) u v1 := by
  obtain ⟨pc, sc, sy, le, ro, po, pn, sk, ss⟩ := u
  obtain ⟨mn, le', sy', hd, tl, ol, nw, sp⟩ := v
  obtain ⟨e1, e2, g, A, B, G0⟩ := I
  have f1 : le = le' := e1.symm
  have f2 : sy = sy' := e2.symm
  have G : ds_G sy le g A B := G0
  clear e1 e2 G0
  subst f1
  subst f2
  have hA := G.2.2.2.2.1
  have hB := G.2.2.2.2.2
  unfold wpX_length
  by_cases hw : v1 = 0 ∨ v1 = 1
  · refine dz_tx1 hw (br_f (by decide) ?_)
    obtain ⟨w, hw2, rfl⟩ := dz_w hw
    obtain ⟨l, hl, hl16, hG⟩ := dz_len G hw2
    have c1 : (nI w).toNatClampNeg = w := nI_clamp (by omega)
    have i2 : vp_in (nI w) 2 := vp_in_nI hw2 (by omega)
    refine ⟨i2, ?_⟩
    unfold wpY_length
    exact dz_ty1 hw (br_f (by decide) ⟨i2, rfl, dz_rel G⟩)
  · refine dz_tx0 hw (br_t rfl ?_)
    unfold wpY_length
    exact dz_ty0 hw (br_t rfl ⟨rfl, dz_rel G⟩)
theorem i_vc_common {k : Nat} {u : SX} {v : SY} (I : i_Rel k u v) (hk : k + 4 ≤ 2048) : wpX_common (fun r u' => wpY_common (fun r' v' => r' = r ∧ i_Rel (k + 4) u' v') v) u := by
  obtain ⟨pc, sc, sy, le, ro, po, pn, sk, ss⟩ := u
  obtain ⟨mn, le', sy', hd, tl, ol, nw, sp⟩ := v
  obtain ⟨e1, e2, g, A, B, G0⟩ := I
  have f1 : le = le' := e1.symm
  have f2 : sy = sy' := e2.symm
  have G : ds_G sy le g A B := G0
  clear e1 e2 G0
  subst f1
  subst f2
  have hA := G.2.2.2.2.1
  have hB := G.2.2.2.2.2
  unfold wpX_common
  refine dx_most G (i0 := 0) (j0 := 0) rfl G.2.2.1 rfl G.2.2.2.1 (Nat.zero_le _) hA (Nat.zero_le _) hB (fun ro' => ?_)
  unfold wpY_common
  exact dy_work G (fun hd' tl' H T => ⟨T 0 0 (Nat.le_refl _) (Nat.zero_le _) (Nat.zero_le _), dz_rel G⟩)
theorem i_vc_commonUpTo {k : Nat} {u : SX} {v : SY} (I : i_Rel k u v) (hk : k + 4 ≤ 2048) (v1 : Int32) (v2 : Int32) : wpX_commonUpTo (fun r u' => wpY_commonUpTo (fun r' v' => r' = r ∧ i_Rel (k + 4) u' v') v v1 v2) u v1 v2 := by
  obtain ⟨pc, sc, sy, le, ro, po, pn, sk, ss⟩ := u
  obtain ⟨mn, le', sy', hd, tl, ol, nw, sp⟩ := v
  obtain ⟨e1, e2, g, A, B, G0⟩ := I
  have f1 : le = le' := e1.symm
  have f2 : sy = sy' := e2.symm
  have G : ds_G sy le g A B := G0
  clear e1 e2 G0
  subst f1
  subst f2
  have hA := G.2.2.2.2.1
  have hB := G.2.2.2.2.2
  unfold wpX_commonUpTo
  by_cases h1 : ∃ i, i ≤ A ∧ v1 = nI i
  · obtain ⟨i, hi, rfl⟩ := h1
    refine dz_bx1 (w := 0) rfl (by omega) G.2.2.1 hA hi (br_f (by decide) ?_)
    by_cases h2 : ∃ j, j ≤ B ∧ v2 = nI j
    · obtain ⟨j, hj, rfl⟩ := h2
      refine dz_bx1 (w := 1) rfl (by omega) G.2.2.2.1 hB hj (br_f (by decide) ?_)
      refine dx_most G (i0 := 0) (j0 := 0) rfl rfl rfl rfl (Nat.zero_le _) (by omega) (Nat.zero_le _) (by omega) (fun ro' => ?_)
      unfold wpY_commonUpTo
      refine dy_work G (fun hd' tl' H T => ?_)
      have hz : 17 * nI i + nI j = nI (17 * i + j) := by rw [ds_17m, nI_add]
      refine dz_pl1 G.2.2.1 G.2.2.2.1 hA hB hi hj (br_f (by decide) ⟨pk_in (17 * i + j) 289 (by omega) hz, ?_⟩)
      exact ⟨by rw [hz, nI_clamp (by omega), H i j hi hj], dz_rel G⟩
    · refine dz_bx0 (w := 1) rfl (by omega) G.2.2.2.1 hB h2 (br_t rfl ?_)
      unfold wpY_commonUpTo
      refine dy_work G (fun hd' tl' H T => ?_)
      exact dz_pl0 G.2.2.1 G.2.2.2.1 hA hB (fun _ => h2) (br_t rfl ⟨rfl, dz_rel G⟩)
  · refine dz_bx0 (w := 0) rfl (by omega) G.2.2.1 hA h1 (br_t rfl ?_)
    unfold wpY_commonUpTo
    refine dy_work G (fun hd' tl' H T => ?_)
    exact dz_pl0 G.2.2.1 G.2.2.2.1 hA hB (fun z => absurd z h1) (br_t rfl ⟨rfl, dz_rel G⟩)
theorem i_vc_commonFrom {k : Nat} {u : SX} {v : SY} (I : i_Rel k u v) (hk : k + 4 ≤ 2048) (v1 : Int32) (v2 : Int32) : wpX_commonFrom (fun r u' => wpY_commonFrom (fun r' v' => r' = r ∧ i_Rel (k + 4) u' v') v v1 v2) u v1 v2 := by
  obtain ⟨pc, sc, sy, le, ro, po, pn, sk, ss⟩ := u
  obtain ⟨mn, le', sy', hd, tl, ol, nw, sp⟩ := v
  obtain ⟨e1, e2, g, A, B, G0⟩ := I
  have f1 : le = le' := e1.symm
  have f2 : sy = sy' := e2.symm
  have G : ds_G sy le g A B := G0
  clear e1 e2 G0
  subst f1
  subst f2
  have hA := G.2.2.2.2.1
  have hB := G.2.2.2.2.2
  unfold wpX_commonFrom
  by_cases h1 : ∃ i, i ≤ A ∧ v1 = nI i
  · obtain ⟨i, hi, rfl⟩ := h1
    refine dz_bx1 (w := 0) rfl (by omega) G.2.2.1 hA hi (br_f (by decide) ?_)
    by_cases h2 : ∃ j, j ≤ B ∧ v2 = nI j
    · obtain ⟨j, hj, rfl⟩ := h2
      refine dz_bx1 (w := 1) rfl (by omega) G.2.2.2.1 hB hj (br_f (by decide) ?_)
      refine dx_most G rfl G.2.2.1 rfl G.2.2.2.1 hi hA hj hB (fun ro' => ?_)
      unfold wpY_commonFrom
      refine dy_work G (fun hd' tl' H T => ?_)
      have hz : 17 * nI i + nI j = nI (17 * i + j) := by rw [ds_17m, nI_add]
      refine dz_pl1 G.2.2.1 G.2.2.2.1 hA hB hi hj (br_f (by decide) ⟨pk_in (17 * i + j) 289 (by omega) hz, ?_⟩)
      exact ⟨by rw [hz, nI_clamp (by omega), T i j (Nat.zero_le _) hi hj], dz_rel G⟩
    · refine dz_bx0 (w := 1) rfl (by omega) G.2.2.2.1 hB h2 (br_t rfl ?_)
      unfold wpY_commonFrom
      refine dy_work G (fun hd' tl' H T => ?_)
      exact dz_pl0 G.2.2.1 G.2.2.2.1 hA hB (fun _ => h2) (br_t rfl ⟨rfl, dz_rel G⟩)
  · refine dz_bx0 (w := 0) rfl (by omega) G.2.2.1 hA h1 (br_t rfl ?_)
    unfold wpY_commonFrom
    refine dy_work G (fun hd' tl' H T => ?_)
    exact dz_pl0 G.2.2.1 G.2.2.2.1 hA hB (fun z => absurd z h1) (br_t rfl ⟨rfl, dz_rel G⟩)
theorem i_vc_oldAt {k : Nat} {u : SX} {v : SY} (I : i_Rel k u v) (hk : k + 4 ≤ 2048) (v1 : Int32) : wpX_oldAt (fun r u' => wpY_oldAt (fun r' v' => r' = r ∧ i_Rel (k + 4) u' v') v v1) u v1 := by
  obtain ⟨pc, sc, sy, le, ro, po, pn, sk, ss⟩ := u
  obtain ⟨mn, le', sy', hd, tl, ol, nw, sp⟩ := v
  obtain ⟨e1, e2, g, A, B, G0⟩ := I
  have f1 : le = le' := e1.symm
  have f2 : sy = sy' := e2.symm
  have G : ds_G sy le g A B := G0
  clear e1 e2 G0
  subst f1
  subst f2
  have hA := G.2.2.2.2.1
  have hB := G.2.2.2.2.2
  unfold wpX_oldAt
  have hn := dq_L_le (dq_E g) 0 0 A B
  refine dx_list G (fun ro' po' pn' hp => ?_)
  by_cases h0 : v1 < 0
  · refine br_t h0 ?_
    unfold wpY_oldAt
    exact dy_list G (fun hd' tl' ol' nw' T hq => br_t h0 ⟨rfl, dz_rel G⟩)
  · refine br_f h0 ?_
    obtain ⟨k, hk, rfl⟩ := nI_of h0
    refine pk_le (dq_L (dq_E g) 0 0 A B) k (fun h => ?_) (fun h => ⟨vp_in_nI (by omega) (by omega), ?_⟩)
    · unfold wpY_oldAt
      refine dy_list G (fun hd' tl' ol' nw' T hq => br_f h0 ?_)
      exact pk_lt k (dq_L (dq_E g) 0 0 A B) (fun z => absurd z (by omega)) (fun _ => ⟨rfl, dz_rel G⟩) rfl (T 0 0 (Nat.le_refl _) (Nat.zero_le _) (Nat.zero_le _))
    · unfold wpY_oldAt
      refine dy_list G (fun hd' tl' ol' nw' T hq => br_f h0 ?_)
      refine pk_lt k (dq_L (dq_E g) 0 0 A B) (fun _ => ⟨vp_in_nI (by omega) (by omega), ?_⟩) (fun z => absurd z (by omega)) rfl (T 0 0 (Nat.le_refl _) (Nat.zero_le _) (Nat.zero_le _))
      exact ⟨by rw [nI_clamp (by omega), (hp k h).1, (hq k h).1], dz_rel G⟩
theorem i_vc_newAt {k : Nat} {u : SX} {v : SY} (I : i_Rel k u v) (hk : k + 4 ≤ 2048) (v1 : Int32) : wpX_newAt (fun r u' => wpY_newAt (fun r' v' => r' = r ∧ i_Rel (k + 4) u' v') v v1) u v1 := by
  obtain ⟨pc, sc, sy, le, ro, po, pn, sk, ss⟩ := u
  obtain ⟨mn, le', sy', hd, tl, ol, nw, sp⟩ := v
  obtain ⟨e1, e2, g, A, B, G0⟩ := I
  have f1 : le = le' := e1.symm
  have f2 : sy = sy' := e2.symm
  have G : ds_G sy le g A B := G0
  clear e1 e2 G0
  subst f1
  subst f2
  have hA := G.2.2.2.2.1
  have hB := G.2.2.2.2.2
  unfold wpX_newAt
  have hn := dq_L_le (dq_E g) 0 0 A B
  refine dx_list G (fun ro' po' pn' hp => ?_)
  by_cases h0 : v1 < 0
  · refine br_t h0 ?_
    unfold wpY_newAt
    exact dy_list G (fun hd' tl' ol' nw' T hq => br_t h0 ⟨rfl, dz_rel G⟩)
  · refine br_f h0 ?_
    obtain ⟨k, hk, rfl⟩ := nI_of h0
    refine pk_le (dq_L (dq_E g) 0 0 A B) k (fun h => ?_) (fun h => ⟨vp_in_nI (by omega) (by omega), ?_⟩)
    · unfold wpY_newAt
      refine dy_list G (fun hd' tl' ol' nw' T hq => br_f h0 ?_)
      exact pk_lt k (dq_L (dq_E g) 0 0 A B) (fun z => absurd z (by omega)) (fun _ => ⟨rfl, dz_rel G⟩) rfl (T 0 0 (Nat.le_refl _) (Nat.zero_le _) (Nat.zero_le _))
    · unfold wpY_newAt
      refine dy_list G (fun hd' tl' ol' nw' T hq => br_f h0 ?_)
      refine pk_lt k (dq_L (dq_E g) 0 0 A B) (fun _ => ⟨vp_in_nI (by omega) (by omega), ?_⟩) (fun z => absurd z (by omega)) rfl (T 0 0 (Nat.le_refl _) (Nat.zero_le _) (Nat.zero_le _))
      exact ⟨by rw [nI_clamp (by omega), (hp k h).2, (hq k h).2], dz_rel G⟩
theorem i_vc_steps {k : Nat} {u : SX} {v : SY} (I : i_Rel k u v) (hk : k + 4 ≤ 2048) : wpX_steps (fun r u' => wpY_steps (fun r' v' => r' = r ∧ i_Rel (k + 4) u' v') v) u := by
  obtain ⟨pc, sc, sy, le, ro, po, pn, sk, ss⟩ := u
  obtain ⟨mn, le', sy', hd, tl, ol, nw, sp⟩ := v
  obtain ⟨e1, e2, g, A, B, G0⟩ := I
  have f1 : le = le' := e1.symm
  have f2 : sy = sy' := e2.symm
  have G : ds_G sy le g A B := G0
  clear e1 e2 G0
  subst f1
  subst f2
  have hA := G.2.2.2.2.1
  have hB := G.2.2.2.2.2
  unfold wpX_steps
  refine dx_script G (fun ro' po' pn' sk' ss' h => ?_)
  unfold wpY_steps
  exact dy_write G (fun hd' tl' ol' nw' sp' h' => ⟨rfl, dz_rel G⟩)
theorem i_vc_step {k : Nat} {u : SX} {v : SY} (I : i_Rel k u v) (hk : k + 4 ≤ 2048) (v1 : Int32) : wpX_step (fun r u' => wpY_step (fun r' v' => r' = r ∧ i_Rel (k + 4) u' v') v v1) u v1 := by
  obtain ⟨pc, sc, sy, le, ro, po, pn, sk, ss⟩ := u
  obtain ⟨mn, le', sy', hd, tl, ol, nw, sp⟩ := v
  obtain ⟨e1, e2, g, A, B, G0⟩ := I
  have f1 : le = le' := e1.symm
  have f2 : sy = sy' := e2.symm
  have G : ds_G sy le g A B := G0
  clear e1 e2 G0
  subst f1
  subst f2
  have hA := G.2.2.2.2.1
  have hB := G.2.2.2.2.2
  unfold wpX_step
  have hf := dz_fs G
  refine dx_script G (fun ro' po' pn' sk' ss' h => ?_)
  by_cases h0 : v1 < 0
  · refine br_t h0 ?_
    unfold wpY_step
    exact dy_write G (fun hd' tl' ol' nw' sp' h' => br_t h0 ⟨rfl, dz_rel G⟩)
  · refine br_f h0 ?_
    obtain ⟨k, hk, rfl⟩ := nI_of h0
    refine pk_le (dq_fs g A B).1 k (fun hl => ?_) (fun hl => ⟨vp_in_nI (by omega) (by omega), ?_⟩)
    · unfold wpY_step
      refine dy_write G (fun hd' tl' ol' nw' sp' h' => br_f h0 ?_)
      exact pk_lt k (dq_fs g A B).1 (fun z => absurd z (by omega)) (fun _ => ⟨rfl, dz_rel G⟩)
    · unfold wpY_step
      refine dy_write G (fun hd' tl' ol' nw' sp' h' => br_f h0 ?_)
      refine pk_lt k (dq_fs g A B).1 (fun _ => ⟨vp_in_nI (by omega) (by omega), by decide, ?_⟩) (fun z => absurd z (by omega))
      have hb := (h' k hl).2
      exact ⟨by rw [nI_clamp (by omega), (h k hl).1, (h' k hl).1, dz_rem (by omega)], dz_rel G⟩
theorem i_vc_stepSymbol {k : Nat} {u : SX} {v : SY} (I : i_Rel k u v) (hk : k + 4 ≤ 2048) (v1 : Int32) : wpX_stepSymbol (fun r u' => wpY_stepSymbol (fun r' v' => r' = r ∧ i_Rel (k + 4) u' v') v v1) u v1 := by
  obtain ⟨pc, sc, sy, le, ro, po, pn, sk, ss⟩ := u
  obtain ⟨mn, le', sy', hd, tl, ol, nw, sp⟩ := v
  obtain ⟨e1, e2, g, A, B, G0⟩ := I
  have f1 : le = le' := e1.symm
  have f2 : sy = sy' := e2.symm
  have G : ds_G sy le g A B := G0
  clear e1 e2 G0
  subst f1
  subst f2
  have hA := G.2.2.2.2.1
  have hB := G.2.2.2.2.2
  unfold wpX_stepSymbol
  have hf := dz_fs G
  refine dx_script G (fun ro' po' pn' sk' ss' h => ?_)
  by_cases h0 : v1 < 0
  · refine br_t h0 ?_
    unfold wpY_stepSymbol
    exact dy_write G (fun hd' tl' ol' nw' sp' h' => br_t h0 ⟨rfl, dz_rel G⟩)
  · refine br_f h0 ?_
    obtain ⟨k, hk, rfl⟩ := nI_of h0
    refine pk_le (dq_fs g A B).1 k (fun hl => ?_) (fun hl => ⟨vp_in_nI (by omega) (by omega), ?_⟩)
    · unfold wpY_stepSymbol
      refine dy_write G (fun hd' tl' ol' nw' sp' h' => br_f h0 ?_)
      exact pk_lt k (dq_fs g A B).1 (fun z => absurd z (by omega)) (fun _ => ⟨rfl, dz_rel G⟩)
    · unfold wpY_stepSymbol
      refine dy_write G (fun hd' tl' ol' nw' sp' h' => br_f h0 ?_)
      refine pk_lt k (dq_fs g A B).1 (fun _ => ⟨vp_in_nI (by omega) (by omega), by decide, ?_⟩) (fun z => absurd z (by omega))
      have hb := (h' k hl).2
      exact ⟨by rw [nI_clamp (by omega), (h k hl).2, (h' k hl).1, dz_div (by omega)], dz_rel G⟩
theorem i_vc_possible {k : Nat} {u : SX} {v : SY} (I : i_Rel k u v) (hk : k + 4 ≤ 2048) (v1 : Int32) (v2 : Int32) : wpX_possible (fun r u' => wpY_possible (fun r' v' => r' = r ∧ i_Rel (k + 4) u' v') v v1 v2) u v1 v2 := by
  obtain ⟨pc, sc, sy, le, ro, po, pn, sk, ss⟩ := u
  obtain ⟨mn, le', sy', hd, tl, ol, nw, sp⟩ := v
  obtain ⟨e1, e2, g, A, B, G0⟩ := I
  have f1 : le = le' := e1.symm
  have f2 : sy = sy' := e2.symm
  have G : ds_G sy le g A B := G0
  clear e1 e2 G0
  subst f1
  subst f2
  have hA := G.2.2.2.2.1
  have hB := G.2.2.2.2.2
  unfold wpX_possible
  by_cases h1 : ∃ i, i < A ∧ v1 = nI i
  · obtain ⟨i, hi, rfl⟩ := h1
    refine dz_px1 (w := 0) rfl (by omega) G.2.2.1 hA hi (br_f (by decide) ?_)
    by_cases h2 : ∃ j, j < B ∧ v2 = nI j
    · obtain ⟨j, hj, rfl⟩ := h2
      refine dz_px1 (w := 1) rfl (by omega) G.2.2.2.1 hB hj (br_f (by decide) ?_)
      have c1 : (nI i).toNatClampNeg = i := nI_clamp (by omega)
      have c2 : (16 + nI j).toNatClampNeg = 16 + j := by rw [ds_16p, nI_clamp (by omega)]
      refine ⟨vp_in_nI (by omega) (by omega), pk_in (16 + j) 32 (by omega) (ds_16p j), ?_⟩
      by_cases he : dq_E g i j
      · refine br_t (by rw [c1, c2]; exact (ds_E G i j).mpr he) ?_
        refine dx_most G (i0 := 0) (j0 := 0) rfl rfl rfl rfl (Nat.zero_le _) (by omega) (Nat.zero_le _) (by omega) (fun ro1 => ?_)
        refine dx_most G (nI_1 i) G.2.2.1 (nI_1 j) G.2.2.2.1 (by omega) hA (by omega) hB (fun ro2 => ?_)
        unfold wpX_common
        refine dx_most G (i0 := 0) (j0 := 0) rfl G.2.2.1 rfl G.2.2.2.1 (Nat.zero_le _) hA (Nat.zero_le _) hB (fun ro3 => ?_)
        have hz : 17 * nI i + nI j = nI (17 * i + j) := by rw [ds_17m, nI_add]
        have hq : 17 * nI i + nI j + 18 = nI (17 * (i + 1) + (j + 1)) := by
          rw [hz, ds_p18]
          exact congrArg nI (by omega)
        refine br_c (fun hx => ?_) (fun hx => ?_)
        · unfold wpY_possible
          refine dy_work G (fun hd' tl' H T => br_f (nI_pos (by omega)) ?_)
          refine pk_le A i (fun z => absurd z (by omega)) (fun _ => br_f (nI_pos (by omega)) ?_) G.2.2.1
          refine pk_le B j (fun z => absurd z (by omega)) (fun _ => ?_) G.2.2.2.1
          refine dy_same1 G rfl rfl (by omega) (by omega) he (br_f (by decide) ⟨pk_in (17 * i + j) 289 (by omega) hz, pk_in (17 * (i + 1) + (j + 1)) 289 (by omega) hq, ?_⟩)
          refine br_t ?_ ⟨rfl, dz_rel G⟩
          rw [hq, hz, nI_clamp (by omega), nI_clamp (by omega), H i j (by omega) (by omega), T (i + 1) (j + 1) (Nat.zero_le _) (by omega) (by omega), show tl' 0 = nI (dq_L (dq_E g) 0 0 A B) from T 0 0 (Nat.le_refl _) (Nat.zero_le _) (Nat.zero_le _)]
          exact hx
        · unfold wpY_possible
          refine dy_work G (fun hd' tl' H T => br_f (nI_pos (by omega)) ?_)
          refine pk_le A i (fun z => absurd z (by omega)) (fun _ => br_f (nI_pos (by omega)) ?_) G.2.2.1
          refine pk_le B j (fun z => absurd z (by omega)) (fun _ => ?_) G.2.2.2.1
          refine dy_same1 G rfl rfl (by omega) (by omega) he (br_f (by decide) ⟨pk_in (17 * i + j) 289 (by omega) hz, pk_in (17 * (i + 1) + (j + 1)) 289 (by omega) hq, ?_⟩)
          refine br_f ?_ ⟨rfl, dz_rel G⟩
          rw [hq, hz, nI_clamp (by omega), nI_clamp (by omega), H i j (by omega) (by omega), T (i + 1) (j + 1) (Nat.zero_le _) (by omega) (by omega), show tl' 0 = nI (dq_L (dq_E g) 0 0 A B) from T 0 0 (Nat.le_refl _) (Nat.zero_le _) (Nat.zero_le _)]
          exact hx
      · refine br_f (by rw [c1, c2]; exact fun z => he ((ds_E G i j).mp z)) ?_
        unfold wpY_possible
        refine dy_work G (fun hd' tl' H T => br_f (nI_pos (by omega)) ?_)
        refine pk_le A i (fun z => absurd z (by omega)) (fun _ => br_f (nI_pos (by omega)) ?_) G.2.2.1
        refine pk_le B j (fun z => absurd z (by omega)) (fun _ => ?_) G.2.2.2.1
        exact dy_same0 G rfl rfl (by omega) (by omega) he (br_t rfl ⟨rfl, dz_rel G⟩)
    · refine dz_px0 (w := 1) rfl (by omega) G.2.2.2.1 hB h2 (br_t rfl ?_)
      unfold wpY_possible
      refine dy_work G (fun hd' tl' H T => br_f (nI_pos (by omega)) ?_)
      refine pk_le A i (fun z => absurd z (by omega)) (fun _ => br_c (fun _ => ⟨rfl, dz_rel G⟩) (fun z0 => ?_)) G.2.2.1
      obtain ⟨j, hj, rfl⟩ := nI_of z0
      exact pk_le B j (fun _ => ⟨rfl, dz_rel G⟩) (fun z => absurd ⟨j, z, rfl⟩ h2) G.2.2.2.1
  · refine dz_px0 (w := 0) rfl (by omega) G.2.2.1 hA h1 (br_t rfl ?_)
    unfold wpY_possible
    refine dy_work G (fun hd' tl' H T => br_c (fun _ => ⟨rfl, dz_rel G⟩) (fun z0 => ?_))
    obtain ⟨i, hi, rfl⟩ := nI_of z0
    exact pk_le A i (fun _ => ⟨rfl, dz_rel G⟩) (fun z => absurd ⟨i, z, rfl⟩ h1) G.2.2.1
theorem i_vc_contained {k : Nat} {u : SX} {v : SY} (I : i_Rel k u v) (hk : k + 4 ≤ 2048) (v1 : Int32) : wpX_contained (fun r u' => wpY_contained (fun r' v' => r' = r ∧ i_Rel (k + 4) u' v') v v1) u v1 := by
  obtain ⟨pc, sc, sy, le, ro, po, pn, sk, ss⟩ := u
  obtain ⟨mn, le', sy', hd, tl, ol, nw, sp⟩ := v
  obtain ⟨e1, e2, g, A, B, G0⟩ := I
  have f1 : le = le' := e1.symm
  have f2 : sy = sy' := e2.symm
  have G : ds_G sy le g A B := G0
  clear e1 e2 G0
  subst f1
  subst f2
  have hA := G.2.2.2.2.1
  have hB := G.2.2.2.2.2
  unfold wpX_contained
  by_cases hw : v1 = 0 ∨ v1 = 1
  · refine dz_tx1 hw (br_f (by decide) ?_)
    obtain ⟨w, hw2, rfl⟩ := dz_w hw
    obtain ⟨l, hl, hl16, hG⟩ := dz_len G hw2
    have c1 : (nI w).toNatClampNeg = w := nI_clamp (by omega)
    have i2 : vp_in (nI w) 2 := vp_in_nI hw2 (by omega)
    unfold wpX_common
    refine dx_most G (i0 := 0) (j0 := 0) rfl G.2.2.1 rfl G.2.2.2.1 (Nat.zero_le _) hA (Nat.zero_le _) hB (fun ro' => ⟨i2, ?_⟩)
    refine br_c (fun hx => ?_) (fun hx => ?_)
    · unfold wpY_contained
      refine dy_work G (fun hd' tl' H T => dz_ty1 hw (br_f (by decide) ⟨i2, br_t ?_ ⟨rfl, dz_rel G⟩⟩))
      rw [show tl' 0 = nI (dq_L (dq_E g) 0 0 A B) from T 0 0 (Nat.le_refl _) (Nat.zero_le _) (Nat.zero_le _)]
      exact hx
    · unfold wpY_contained
      refine dy_work G (fun hd' tl' H T => dz_ty1 hw (br_f (by decide) ⟨i2, br_f ?_ ⟨rfl, dz_rel G⟩⟩))
      rw [show tl' 0 = nI (dq_L (dq_E g) 0 0 A B) from T 0 0 (Nat.le_refl _) (Nat.zero_le _) (Nat.zero_le _)]
      exact hx
  · refine dz_tx0 hw (br_t rfl ?_)
    unfold wpY_contained
    exact dy_work G (fun hd' tl' H T => dz_ty0 hw (br_t rfl ⟨rfl, dz_rel G⟩))
theorem i_vc_distance {k : Nat} {u : SX} {v : SY} (I : i_Rel k u v) (hk : k + 4 ≤ 2048) : wpX_distance (fun r u' => wpY_distance (fun r' v' => r' = r ∧ i_Rel (k + 4) u' v') v) u := by
  obtain ⟨pc, sc, sy, le, ro, po, pn, sk, ss⟩ := u
  obtain ⟨mn, le', sy', hd, tl, ol, nw, sp⟩ := v
  obtain ⟨e1, e2, g, A, B, G0⟩ := I
  have f1 : le = le' := e1.symm
  have f2 : sy = sy' := e2.symm
  have G : ds_G sy le g A B := G0
  clear e1 e2 G0
  subst f1
  subst f2
  have hA := G.2.2.2.2.1
  have hB := G.2.2.2.2.2
  unfold wpX_distance
  unfold wpX_common
  refine dx_most G (i0 := 0) (j0 := 0) rfl G.2.2.1 rfl G.2.2.2.1 (Nat.zero_le _) hA (Nat.zero_le _) hB (fun ro' => ?_)
  unfold wpY_distance
  refine dy_work G (fun hd' tl' H T => ⟨?_, dz_rel G⟩)
  rw [show tl' 0 = nI (dq_L (dq_E g) 0 0 A B) from T 0 0 (Nat.le_refl _) (Nat.zero_le _) (Nat.zero_le _)]
end
