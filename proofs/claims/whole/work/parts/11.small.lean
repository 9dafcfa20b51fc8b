/-! the small methods -/
theorem dz_w {x : Int32} (h : x = 0 ∨ x = 1) : ∃ w, w < 2 ∧ x = nI w := by
  cases h with
  | inl h => exact ⟨0, by omega, h⟩
  | inr h => exact ⟨1, by omega, h⟩
theorem dz_len {sy le : Nat → Int32} {g : Nat → Nat} {A B : Nat} (G : ds_G sy le g A B) {w : Nat} (hw : w < 2) : ∃ l, le w = nI l ∧ l ≤ 16 ∧ ∀ (sy' : Nat → Int32) (g' : Nat → Nat), ds_G sy' le g' A B → ∀ l', l' ≤ 16 → ∃ A' B', ds_G sy' (upd le w (nI l')) g' A' B' := by
  by_cases h : w = 0
  · subst h
    exact ⟨A, G.2.2.1, G.2.2.2.2.1, fun sy' g' G' l' hl => ⟨l', B, ds_G_le0 G' l' hl⟩⟩
  · have h1 : w = 1 := by omega
    subst h1
    exact ⟨B, G.2.2.2.1, G.2.2.2.2.2, fun sy' g' G' l' hl => ⟨A, l', ds_G_le1 G' l' hl⟩⟩
theorem dz_tx1 {post : Int32 → Prop} {pc sc : Int32} {sy le ro po pn sk ss : Nat → Int32} {x : Int32} (h : x = 0 ∨ x = 1) (K : post 1) : wpX_isText post (pc, sc, sy, le, ro, po, pn, sk, ss) x :=
  br_c (fun _ => K) (fun h0 => br_c (fun _ => K) (fun h1 => absurd h (fun z => z.elim h0 h1)))
theorem dz_tx0 {post : Int32 → Prop} {pc sc : Int32} {sy le ro po pn sk ss : Nat → Int32} {x : Int32} (h : ¬ (x = 0 ∨ x = 1)) (K : post 0) : wpX_isText post (pc, sc, sy, le, ro, po, pn, sk, ss) x :=
  br_f (fun z => h (Or.inl z)) (br_f (fun z => h (Or.inr z)) K)
theorem dz_ty1 {post : Int32 → Prop} {mn : Int32} {sy le hd tl ol nw sp : Nat → Int32} {x : Int32} (h : x = 0 ∨ x = 1) (K : post 1) : wpY_text post (mn, le, sy, hd, tl, ol, nw, sp) x :=
  br_c (fun _ => K) (fun h0 => br_c (fun _ => K) (fun h1 => absurd h (fun z => z.elim h0 h1)))
theorem dz_ty0 {post : Int32 → Prop} {mn : Int32} {sy le hd tl ol nw sp : Nat → Int32} {x : Int32} (h : ¬ (x = 0 ∨ x = 1)) (K : post 0) : wpY_text post (mn, le, sy, hd, tl, ol, nw, sp) x :=
  br_f (fun z => h (Or.inl z)) (br_f (fun z => h (Or.inr z)) K)
theorem dz_sx1 {post : Int32 → Prop} {pc sc : Int32} {sy le ro po pn sk ss : Nat → Int32} {c : Nat} (h : c < 8) (K : post 1) : wpX_isSymbol post (pc, sc, sy, le, ro, po, pn, sk, ss) (nI c) :=
  br_f (nI_pos (by omega)) (pk_le 8 c (fun z => absurd z (by omega)) (fun _ => K))
theorem dz_sx0 {post : Int32 → Prop} {pc sc : Int32} {sy le ro po pn sk ss : Nat → Int32} {x : Int32} (h : ¬ ∃ c, c < 8 ∧ x = nI c) (K : post 0) : wpX_isSymbol post (pc, sc, sy, le, ro, po, pn, sk, ss) x := by
  refine br_c (fun _ => K) (fun h0 => ?_)
  obtain ⟨c, hc, rfl⟩ := nI_of h0
  exact pk_le 8 c (fun _ => K) (fun z => absurd ⟨c, z, rfl⟩ h)
theorem dz_px1 {post : Int32 → Prop} {pc sc : Int32} {sy le ro po pn sk ss : Nat → Int32} {p : Int32} {w n c : Nat} (hp : p = nI w) (hw : w < 2) (hl : le w = nI n) (hn : n ≤ 16) (h : c < n) (K : post 1) : wpX_isPlace post (pc, sc, sy, le, ro, po, pn, sk, ss) p (nI c) := by
  subst hp
  refine br_f (nI_pos (by omega)) ⟨vp_in_nI hw (by omega), ?_⟩
  exact pk_le n c (fun z => absurd z (by omega)) (fun _ => K) (by rw [nI_clamp (by omega), hl])
theorem dz_px0 {post : Int32 → Prop} {pc sc : Int32} {sy le ro po pn sk ss : Nat → Int32} {p x : Int32} {w n : Nat} (hp : p = nI w) (hw : w < 2) (hl : le w = nI n) (hn : n ≤ 16) (h : ¬ ∃ c, c < n ∧ x = nI c) (K : post 0) : wpX_isPlace post (pc, sc, sy, le, ro, po, pn, sk, ss) p x := by
  subst hp
  refine br_c (fun _ => K) (fun h0 => ⟨vp_in_nI hw (by omega), ?_⟩)
  obtain ⟨c, hc, rfl⟩ := nI_of h0
  exact pk_le n c (fun _ => K) (fun z => absurd ⟨c, z, rfl⟩ h) (by rw [nI_clamp (by omega), hl])
theorem dz_bx1 {post : Int32 → Prop} {pc sc : Int32} {sy le ro po pn sk ss : Nat → Int32} {p : Int32} {w n c : Nat} (hp : p = nI w) (hw : w < 2) (hl : le w = nI n) (hn : n ≤ 16) (h : c ≤ n) (K : post 1) : wpX_isBound post (pc, sc, sy, le, ro, po, pn, sk, ss) p (nI c) := by
  subst hp
  refine br_f (nI_pos (by omega)) ⟨vp_in_nI hw (by omega), ?_⟩
  exact pk_lt n c (fun z => absurd z (by omega)) (fun _ => K) (by rw [nI_clamp (by omega), hl])
theorem dz_bx0 {post : Int32 → Prop} {pc sc : Int32} {sy le ro po pn sk ss : Nat → Int32} {p x : Int32} {w n : Nat} (hp : p = nI w) (hw : w < 2) (hl : le w = nI n) (hn : n ≤ 16) (h : ¬ ∃ c, c ≤ n ∧ x = nI c) (K : post 0) : wpX_isBound post (pc, sc, sy, le, ro, po, pn, sk, ss) p x := by
  subst hp
  refine br_c (fun _ => K) (fun h0 => ⟨vp_in_nI hw (by omega), ?_⟩)
  obtain ⟨c, hc, rfl⟩ := nI_of h0
  exact pk_lt n c (fun _ => K) (fun z => absurd ⟨c, z, rfl⟩ h) (by rw [nI_clamp (by omega), hl])
theorem dz_pl1 {post : Int32 → Prop} {mn : Int32} {sy le hd tl ol nw sp : Nat → Int32} {i j A B : Nat} (h0 : le 0 = nI A) (h1 : le 1 = nI B) (hA : A ≤ 16) (hB : B ≤ 16) (hi : i ≤ A) (hj : j ≤ B) (K : post 1) : wpY_places post (mn, le, sy, hd, tl, ol, nw, sp) (nI i) (nI j) :=
  br_f (nI_pos (by omega)) (pk_lt A i (fun z => absurd z (by omega)) (fun _ => br_f (nI_pos (by omega)) (pk_lt B j (fun z => absurd z (by omega)) (fun _ => K) h1)) h0)
theorem dz_pl0 {post : Int32 → Prop} {mn : Int32} {sy le hd tl ol nw sp : Nat → Int32} {x y : Int32} {A B : Nat} (h0 : le 0 = nI A) (h1 : le 1 = nI B) (hA : A ≤ 16) (hB : B ≤ 16) (h : (∃ i, i ≤ A ∧ x = nI i) → ¬ ∃ j, j ≤ B ∧ y = nI j) (K : post 0) : wpY_places post (mn, le, sy, hd, tl, ol, nw, sp) x y := by
  refine br_c (fun _ => K) (fun z0 => ?_)
  obtain ⟨i, hi, rfl⟩ := nI_of z0
  refine pk_lt A i (fun _ => K) (fun z1 => ?_) h0
  refine br_c (fun _ => K) (fun z2 => ?_)
  obtain ⟨j, hj, rfl⟩ := nI_of z2
  exact pk_lt B j (fun _ => K) (fun z3 => absurd ⟨j, z3, rfl⟩ (h ⟨i, z1, rfl⟩)) h1
/-- one cell after the other: the two texts change places -/
def dz_sw : Nat → Nat → (Nat → Int32) → Nat → Int32
  | 0, _, s => s
  | d + 1, i, s => dz_sw d (i + 1) (upd (upd s i (s (16 + i))) (16 + i) (s i))
theorem dz_sw_G {le : Nat → Int32} {A B : Nat} : ∀ (d i : Nat) (s : Nat → Int32) (g : Nat → Nat), ds_G s le g A B → ∃ g', ds_G (dz_sw d i s) le g' A B := by
  intro d
  induction d with
  | zero => intro i s g G; exact ⟨g, G⟩
  | succ d ih =>
    intro i s g G
    have G1 := ds_G_put G i (g (16 + i)) (G.2.1 _)
    have G2 := ds_G_put G1 (16 + i) (g i) (G.2.1 _)
    rw [← G.1 i, ← G.1 (16 + i)] at G2
    exact ih (i + 1) _ _ G2
theorem dz_swl {sy le : Nat → Int32} {g : Nat → Nat} {A B : Nat} (G : ds_G sy le g A B) : ds_G sy (upd (upd le 0 (le 1)) 1 (le 0)) g B A := by
  rw [G.2.2.1, G.2.2.2.1]
  exact ds_G_le1 (ds_G_le0 G B G.2.2.2.2.2) A G.2.2.2.2.1
theorem dz_swx {post : SX → Prop} {pc sc : Int32} {le ro po pn sk ss : Nat → Int32} : ∀ (d n i : Nat) (sy : Nat → Int32), i + d = 16 → d < n → post (pc, sc, dz_sw d i sy, upd (upd le 0 (le 1)) 1 (le 0), ro, po, pn, sk, ss) → wX_swap_2 post pc sc n (nI i) sy le ro po pn sk ss := by
  intro d
  induction d with
  | zero =>
    intro n i sy hd hn K
    obtain ⟨m, rfl⟩ : ∃ m, n = m + 1 := ⟨n - 1, by omega⟩
    refine pk_le 16 i (fun _ => ?_) (fun h => absurd h (by omega))
    intro x ex a ea b eb
    subst ex ea eb
    exact K
  | succ d ih =>
    intro n i sy hd hn K
    obtain ⟨m, rfl⟩ : ∃ m, n = m + 1 := ⟨n - 1, by omega⟩
    have c1 : (nI i).toNatClampNeg = i := nI_clamp (by omega)
    have c2 : (16 + nI i).toNatClampNeg = 16 + i := by rw [ds_16p, nI_clamp (by omega)]
    have i1 : vp_in (nI i) 32 := vp_in_nI (by omega) (by omega)
    have i2 : vp_in (16 + nI i) 32 := pk_in (16 + i) 32 (by omega) (ds_16p i)
    refine pk_le 16 i (fun h => absurd h (by omega)) (fun _ => ⟨i1, ?_⟩)
    intro x ex
    refine ⟨i2, i1, ?_⟩
    intro a ea
    refine ⟨i2, ?_⟩
    intro b eb y ey
    rw [c1] at ex
    rw [c1, c2] at ea
    rw [c2] at eb
    rw [nI_1] at ey
    subst ex ea eb ey
    exact ih m (i + 1) _ (by omega) (by omega) K
theorem dz_swy {post : SY → Prop} {mn : Int32} {le hd tl ol nw sp : Nat → Int32} : ∀ (d n i : Nat) (sy : Nat → Int32), i + d = 16 → d < n → post (mn, upd (upd le 0 (le 1)) 1 (le 0), dz_sw d i sy, hd, tl, ol, nw, sp) → wY_swap_2 post mn n (nI i) le sy hd tl ol nw sp := by
  intro d
  induction d with
  | zero =>
    intro n i sy hd hn K
    obtain ⟨m, rfl⟩ : ∃ m, n = m + 1 := ⟨n - 1, by omega⟩
    refine pk_le 16 i (fun _ => ?_) (fun h => absurd h (by omega))
    intro x ex a ea b eb
    subst ex ea eb
    exact K
  | succ d ih =>
    intro n i sy hd hn K
    obtain ⟨m, rfl⟩ : ∃ m, n = m + 1 := ⟨n - 1, by omega⟩
    have c1 : (nI i).toNatClampNeg = i := nI_clamp (by omega)
    have c2 : (16 + nI i).toNatClampNeg = 16 + i := by rw [ds_16p, nI_clamp (by omega)]
    have i1 : vp_in (nI i) 32 := vp_in_nI (by omega) (by omega)
    have i2 : vp_in (16 + nI i) 32 := pk_in (16 + i) 32 (by omega) (ds_16p i)
    refine pk_le 16 i (fun h => absurd h (by omega)) (fun _ => ⟨i1, ?_⟩)
    intro x ex
    refine ⟨i2, i1, ?_⟩
    intro a ea
    refine ⟨i2, ?_⟩
    intro b eb y ey
    rw [c1] at ex
    rw [c1, c2] at ea
    rw [c2] at eb
    rw [nI_1] at ey
    subst ex ea eb ey
    exact ih m (i + 1) _ (by omega) (by omega) K
theorem dz_fs {sy le : Nat → Int32} {g : Nat → Nat} {A B : Nat} (G : ds_G sy le g A B) : (dq_fs g A B).1 ≤ 32 := by
  have hA := G.2.2.2.2.1
  have hB := G.2.2.2.2.2
  have h1 := dq_sc_1 g A B (dq_L (dq_E g) 0 0 A B) (Nat.le_refl _)
  have h2 := dq_st_le (dq_E g) A B (dq_L (dq_E g) 0 0 A B) (Nat.le_refl _)
  unfold dq_fs
  rw [dq_gap_1]
  omega
theorem dz_rem {a : Nat} (h : a < 2 ^ 31) : nI a - nI a / 4 * 4 = nI (a % 4) := pk_rem (d := 4) h (by omega) (by omega)
theorem dz_div {a : Nat} (h : a < 2 ^ 31) : nI a / 4 = nI (a / 4) := pk_div (d := 4) h (by omega) (by omega)
/-- the texts and the lengths are the same, the symbols below eight, the lengths at most sixteen; all else is scratch -/
def i_Rel (k : Nat) (u : SX) (v : SY) : Prop := v.2.1 = u.2.2.2.1 ∧ v.2.2.1 = u.2.2.1 ∧ ∃ (g : Nat → Nat) (A B : Nat), ds_G u.2.2.1 u.2.2.2.1 g A B
theorem dz_rel {k : Nat} {pc sc mn : Int32} {sy le ro po pn sk ss hd tl ol nw sp : Nat → Int32} {g : Nat → Nat} {A B : Nat} (G : ds_G sy le g A B) : i_Rel k (pc, sc, sy, le, ro, po, pn, sk, ss) (mn, le, sy, hd, tl, ol, nw, sp) := ⟨rfl, rfl, g, A, B, G⟩
