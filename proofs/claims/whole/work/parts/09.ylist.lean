/-! Y: least, list -/
theorem dy_17n {post : Int32 → Prop} {J : Int32 → Prop} {q mn : Int32} {sy le hd tl ol nw sp : Nat → Int32} {g : Nat → Nat} {A B p a : Nat} (G : ds_G sy le g A B) (T : dy_T (dq_E g) A B 0 tl) (ha : a < A) (hp : p ≤ 17) (K : J (nI (a + 1))) : ∀ (d n b : Nat), b + d = B → d < n → (∀ t, b ≤ t → t < B → dq_E g a t → dq_L (dq_E g) (a + 1) (t + 1) A B + 1 ≠ p) → wY_least_17 post J q (nI p) (nI a) mn le sy hd tl ol nw sp n (nI b) := by
  have hA := G.2.2.2.2.1
  have hB := G.2.2.2.2.2
  intro d
  induction d with
  | zero =>
    intro n b hb hn h
    obtain ⟨m, rfl⟩ : ∃ m, n = m + 1 := ⟨n - 1, by omega⟩
    refine pk_le B b (fun _ => ?_) (fun h => absurd h (by omega)) G.2.2.2.1
    intro y ey
    rw [nI_1] at ey
    subst ey
    exact K
  | succ d ih =>
    intro n b hb hn h
    obtain ⟨m, rfl⟩ : ∃ m, n = m + 1 := ⟨n - 1, by omega⟩
    refine pk_le B b (fun h => absurd h (by omega)) (fun _ => ?_) G.2.2.2.1
    have k : wY_least_17 post J q (nI p) (nI a) mn le sy hd tl ol nw sp m (nI (b + 1)) := ih m (b + 1) (by omega) (by omega) (fun t h1 h2 => h t (by omega) h2)
    by_cases he : dq_E g a b
    · refine dy_same1 G rfl rfl (by omega) (by omega) he ?_
      refine br_f (by decide) ?_
      have hq : 17 * nI a + nI b + 18 = nI (17 * (a + 1) + (b + 1)) := by
        rw [ds_17m, nI_add, ds_p18]
        exact congrArg nI (by omega)
      have b1 := dq_L_le (dq_E g) (a + 1) (b + 1) A B
      refine ⟨pk_in (17 * (a + 1) + (b + 1)) 289 (by omega) hq, ?_⟩
      refine br_f (by rw [hq, nI_clamp (by omega), T (a + 1) (b + 1) (by omega) (by omega) (by omega), nI_1]; exact ds_ne (by omega) (by omega) (h b (Nat.le_refl _) (by omega) he)) ?_
      intro y ey
      rw [nI_1] at ey
      subst ey
      exact k
    · refine dy_same0 G rfl rfl (by omega) (by omega) he ?_
      refine br_t rfl ?_
      intro y ey
      rw [nI_1] at ey
      subst ey
      exact k
theorem dy_17h {post : Int32 → Prop} {J : Int32 → Prop} {q mn : Int32} {sy le hd tl ol nw sp : Nat → Int32} {g : Nat → Nat} {A B p a z : Nat} (G : ds_G sy le g A B) (T : dy_T (dq_E g) A B 0 tl) (ha : a < A) (hp : p ≤ 17) (hz : z < B) (hE : dq_E g a z) (hL : dq_L (dq_E g) (a + 1) (z + 1) A B + 1 = p) (K : post (nI (16 * a + z))) : ∀ (d n b : Nat), b + d = z → d < n → (∀ t, b ≤ t → t < z → dq_E g a t → dq_L (dq_E g) (a + 1) (t + 1) A B + 1 ≠ p) → wY_least_17 post J q (nI p) (nI a) mn le sy hd tl ol nw sp n (nI b) := by
  have hA := G.2.2.2.2.1
  have hB := G.2.2.2.2.2
  intro d
  induction d with
  | zero =>
    intro n b hb hn h
    obtain ⟨m, rfl⟩ : ∃ m, n = m + 1 := ⟨n - 1, by omega⟩
    have e : b = z := by omega
    subst e
    refine pk_le B b (fun h => absurd h (by omega)) (fun _ => ?_) G.2.2.2.1
    refine dy_same1 G rfl rfl (by omega) (by omega) hE ?_
    refine br_f (by decide) ?_
    have hq : 17 * nI a + nI b + 18 = nI (17 * (a + 1) + (b + 1)) := by
      rw [ds_17m, nI_add, ds_p18]
      exact congrArg nI (by omega)
    refine ⟨pk_in (17 * (a + 1) + (b + 1)) 289 (by omega) hq, ?_⟩
    refine br_t (by rw [hq, nI_clamp (by omega), T (a + 1) (b + 1) (by omega) (by omega) (by omega), nI_1, hL]) ?_
    rw [ds_16m, nI_add]
    exact K
  | succ d ih =>
    intro n b hb hn h
    obtain ⟨m, rfl⟩ : ∃ m, n = m + 1 := ⟨n - 1, by omega⟩
    refine pk_le B b (fun h => absurd h (by omega)) (fun _ => ?_) G.2.2.2.1
    have k : wY_least_17 post J q (nI p) (nI a) mn le sy hd tl ol nw sp m (nI (b + 1)) := ih m (b + 1) (by omega) (by omega) (fun t h1 h2 => h t (by omega) h2)
    by_cases he : dq_E g a b
    · refine dy_same1 G rfl rfl (by omega) (by omega) he ?_
      refine br_f (by decide) ?_
      have hq : 17 * nI a + nI b + 18 = nI (17 * (a + 1) + (b + 1)) := by
        rw [ds_17m, nI_add, ds_p18]
        exact congrArg nI (by omega)
      have b1 := dq_L_le (dq_E g) (a + 1) (b + 1) A B
      refine ⟨pk_in (17 * (a + 1) + (b + 1)) 289 (by omega) hq, ?_⟩
      refine br_f (by rw [hq, nI_clamp (by omega), T (a + 1) (b + 1) (by omega) (by omega) (by omega), nI_1]; exact ds_ne (by omega) (by omega) (h b (Nat.le_refl _) (by omega) he)) ?_
      intro y ey
      rw [nI_1] at ey
      subst ey
      exact k
    · refine dy_same0 G rfl rfl (by omega) (by omega) he ?_
      refine br_t rfl ?_
      intro y ey
      rw [nI_1] at ey
      subst ey
      exact k
theorem dy_3 {post : Int32 → Prop} {mn : Int32} {sy le hd tl ol nw sp : Nat → Int32} {g : Nat → Nat} {A B p i q x y : Nat} (G : ds_G sy le g A B) (T : dy_T (dq_E g) A B 0 tl) (hq : q ≤ B) (hp : p ≤ 17) (F : dq_F (dq_E g) A B i q p x y) (K : post (nI (16 * x + y))) : ∀ (d n a : Nat), a + d = x → d < n → i ≤ a → wY_least_3 post (nI q) (nI p) mn le sy hd tl ol nw sp n (nI a) := by
  have hA := G.2.2.2.2.1
  obtain ⟨⟨f1, f2, f3, f4, f5, f6⟩, f7⟩ := F
  intro d
  induction d with
  | zero =>
    intro n a ha hn hi
    obtain ⟨m, rfl⟩ : ∃ m, n = m + 1 := ⟨n - 1, by omega⟩
    have e : a = x := by omega
    subst e
    refine pk_le A a (fun h => absurd h (by omega)) (fun _ => ⟨y - q + 1, ?_⟩) G.2.2.1
    refine dy_17h G T f2 hp f4 f5 f6 K (y - q) _ q (by omega) (by omega) (fun t h1 h2 h3 h4 => ?_)
    have := f7 a t ⟨hi, f2, h1, by omega, h3, h4⟩
    omega
  | succ d ih =>
    intro n a ha hn hi
    obtain ⟨m, rfl⟩ : ∃ m, n = m + 1 := ⟨n - 1, by omega⟩
    refine pk_le A a (fun h => absurd h (by omega)) (fun _ => ⟨B - q + 1, ?_⟩) G.2.2.1
    refine dy_17n G T (by omega) hp (ih m (a + 1) (by omega) (by omega) (by omega)) (B - q) _ q (by omega) (by omega) (fun t h1 h2 h3 h4 => ?_)
    have := f7 a t ⟨hi, by omega, h1, h2, h3, h4⟩
    omega
theorem dy_least {post : Int32 → Prop} {mn : Int32} {sy le hd tl ol nw sp : Nat → Int32} {g : Nat → Nat} {A B p i q x y : Nat} (G : ds_G sy le g A B) (T : dy_T (dq_E g) A B 0 tl) {c : Int32} (hc : c = nI p) (hq : q ≤ B) (hp : p ≤ 17) (F : dq_F (dq_E g) A B i q p x y) (K : post (nI (16 * x + y))) : wpY_least post (mn, le, sy, hd, tl, ol, nw, sp) (nI i) (nI q) c := by
  subst hc
  have h := F.1.1
  exact ⟨x - i + 1, dy_3 G T hq hp F K (x - i) _ i (by omega) (by omega) (Nat.le_refl _)⟩
theorem dy_18 {post : SY → Prop} {mn : Int32} {sy le hd tl sp : Nat → Int32} {g : Nat → Nat} {A B : Nat} (G : ds_G sy le g A B) (T : dy_T (dq_E g) A B 0 tl)
    (K : ∀ ol nw, (∀ k, k < dq_L (dq_E g) 0 0 A B → ol k = nI (dq_O (dq_E g) A B k) ∧ nw k = nI (dq_N (dq_E g) A B k)) → post (mn, le, sy, hd, tl, ol, nw, sp)) : ∀ (d m k : Nat) (ol nw : Nat → Int32), k + d = dq_L (dq_E g) 0 0 A B → d < m → (∀ t, t < k → ol t = nI (dq_O (dq_E g) A B t) ∧ nw t = nI (dq_N (dq_E g) A B t)) → wY_list_18 post (nI (dq_L (dq_E g) 0 0 A B)) mn m (nI (dq_st (dq_E g) A B k).1) (nI (dq_st (dq_E g) A B k).2) (nI k) le sy hd tl ol nw sp := by
  have hA := G.2.2.2.2.1
  have hB := G.2.2.2.2.2
  have hn := dq_L_le (dq_E g) 0 0 A B
  intro d
  induction d with
  | zero =>
    intro m k ol nw hd hm h
    obtain ⟨m, rfl⟩ : ∃ m', m = m' + 1 := ⟨m - 1, by omega⟩
    exact pk_le (dq_L (dq_E g) 0 0 A B) k (fun _ => K ol nw (fun t ht => h t (by omega))) (fun h => absurd h (by omega))
  | succ d ih =>
    intro m k ol nw hd hm h
    obtain ⟨m, rfl⟩ : ∃ m', m = m' + 1 := ⟨m - 1, by omega⟩
    have hb := dq_st_b (dq_E g) A B (show k < dq_L (dq_E g) 0 0 A B by omega)
    have hF := dq_st_F (dq_E g) A B (show k < dq_L (dq_E g) 0 0 A B by omega)
    have c1 : (nI k).toNatClampNeg = k := nI_clamp (by omega)
    refine pk_le (dq_L (dq_E g) 0 0 A B) k (fun h => absurd h (by omega)) (fun _ => ?_)
    refine pk_le 16 k (fun h => absurd h (by omega)) (fun _ => ?_)
    refine dy_least G T (pk_sub (by omega)) (by omega) (by omega) hF ?_
    have d1 : nI (16 * dq_O (dq_E g) A B k + dq_N (dq_E g) A B k) / 16 = nI (dq_O (dq_E g) A B k) := by
      have z := pk_div (a := 16 * dq_O (dq_E g) A B k + dq_N (dq_E g) A B k) (d := 16) (by omega) (by omega) (by omega)
      rw [show (16 * dq_O (dq_E g) A B k + dq_N (dq_E g) A B k) / 16 = dq_O (dq_E g) A B k by omega] at z
      exact z
    have d2 : nI (16 * dq_O (dq_E g) A B k + dq_N (dq_E g) A B k) - nI (16 * dq_O (dq_E g) A B k + dq_N (dq_E g) A B k) / 16 * 16 = nI (dq_N (dq_E g) A B k) := by
      have z := pk_rem (a := 16 * dq_O (dq_E g) A B k + dq_N (dq_E g) A B k) (d := 16) (by omega) (by omega) (by omega)
      rw [show (16 * dq_O (dq_E g) A B k + dq_N (dq_E g) A B k) % 16 = dq_N (dq_E g) A B k by omega] at z
      exact z
    have hin : vp_in (nI k) 16 := vp_in_nI (by omega) (by omega)
    refine ⟨by decide, hin, ?_⟩
    intro ol' eo
    refine ⟨by decide, hin, ?_⟩
    intro nw' en
    rw [c1, d1] at eo
    rw [c1, d2] at en
    subst eo en
    refine ⟨hin, ?_⟩
    intro x1 e1
    refine ⟨hin, ?_⟩
    intro x2 e2 x3 e3
    rw [c1, pk_us, nI_1] at e1 e2
    rw [nI_1] at e3
    subst e1 e2 e3
    refine ih m (k + 1) _ _ (by omega) (by omega) (fun t ht => ?_)
    by_cases e : t = k
    · subst e
      rw [pk_us, pk_us]
      exact ⟨rfl, rfl⟩
    · rw [pk_un e, pk_un e]
      exact h t (by omega)
theorem dy_list {post : SY → Prop} {mn : Int32} {sy le hd tl ol nw sp : Nat → Int32} {g : Nat → Nat} {A B : Nat} (G : ds_G sy le g A B)
    (K : ∀ hd tl ol nw, dy_T (dq_E g) A B 0 tl → (∀ k, k < dq_L (dq_E g) 0 0 A B → ol k = nI (dq_O (dq_E g) A B k) ∧ nw k = nI (dq_N (dq_E g) A B k)) → post (mn, le, sy, hd, tl, ol, nw, sp)) : wpY_list post (mn, le, sy, hd, tl, ol, nw, sp) := by
  unfold wpY_list
  refine dy_work G (fun hd' tl' _ T => ?_)
  intro x ex
  have t0 : tl' 0 = nI (dq_L (dq_E g) 0 0 A B) := T 0 0 (Nat.le_refl _) (Nat.zero_le _) (Nat.zero_le _)
  rw [t0] at ex
  subst ex
  exact ⟨dq_L (dq_E g) 0 0 A B + 1, dy_18 G T (fun ol nw h => K hd' tl' ol nw T h) (dq_L (dq_E g) 0 0 A B) _ 0 ol nw (by omega) (by omega) (fun t ht => absurd ht (by omega))⟩
