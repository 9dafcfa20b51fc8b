/-! Y: put, write -/
theorem dy_put {post : SY → Prop} {sy le hd tl ol nw sp : Nat → Int32} {P : Nat × (Nat → Nat)} {a b : Int32} (k v : Nat) (ha : a = nI k) (hb : b = nI v) (hk : k < 4) (hv : v < 8) (hP : P.1 < 32) (h : dq_HY sp P)
    (K : ∀ sp', dq_HY sp' (dq_push P (k + 4 * v)) → post (nI (dq_push P (k + 4 * v)).1, le, sy, hd, tl, ol, nw, sp')) : wpY_put post (nI P.1, le, sy, hd, tl, ol, nw, sp) a b := by
  subst ha hb
  refine pk_le 32 P.1 (fun h => absurd h (by omega)) (fun _ => ⟨vp_in_nI hP (by omega), ?_⟩)
  intro s es c ec
  rw [nI_clamp (by omega), ds_4m, nI_add] at es
  rw [nI_1] at ec
  subst es ec
  exact K _ (dq_HY_push h (k + 4 * v) (by omega))
theorem dy_115 {post : SY → Prop} {J : Int32 → Int32 → Int32 → Int32 → (Nat → Int32) → (Nat → Int32) → (Nat → Int32) → (Nat → Int32) → (Nat → Int32) → (Nat → Int32) → (Nat → Int32) → Prop} {x1 x3 x4 x5 : Int32} {sy le hd tl ol nw : Nat → Int32} {g : Nat → Nat} {A B : Nat} (G : ds_G sy le g A B) {j1 : Nat} (hj : j1 ≤ 16) : ∀ (d n j : Nat) (P : Nat × (Nat → Nat)) (sp : Nat → Int32), j + d = j1 → d < n → P.1 + d ≤ 32 → dq_HY sp P →
    (∀ m sp', dq_HY sp' (dq_run (fun y => 2 + 4 * g (16 + y)) d j P) → wY_write_115 post J x1 x3 x4 x5 (nI j1) (m + 1) (nI j1) (nI (dq_run (fun y => 2 + 4 * g (16 + y)) d j P).1) le sy hd tl ol nw sp') → wY_write_115 post J x1 x3 x4 x5 (nI j1) n (nI j) (nI P.1) le sy hd tl ol nw sp := by
  intro d
  induction d with
  | zero =>
    intro n j P sp hd hn hP h K
    obtain ⟨m, rfl⟩ : ∃ m, n = m + 1 := ⟨n - 1, by omega⟩
    have e : j = j1 := by omega
    subst e
    exact K m sp h
  | succ d ih =>
    intro n j P sp hd hn hP h K
    obtain ⟨m, rfl⟩ : ∃ m, n = m + 1 := ⟨n - 1, by omega⟩
    have c2 : (16 + nI j).toNatClampNeg = 16 + j := by rw [ds_16p, nI_clamp (by omega)]
    refine pk_le j1 j (fun h => absurd h (by omega)) (fun _ => ⟨pk_in (16 + j) 32 (by omega) (ds_16p j), ?_⟩)
    refine dy_put 2 (g (16 + j)) rfl (by rw [c2]; exact G.1 _) (by omega) (G.2.1 _) (by omega) h (fun sp' h' => ?_)
    intro y ey
    rw [nI_1] at ey
    subst ey
    exact ih m (j + 1) _ sp' (by omega) (by omega) (show P.1 + 1 + d ≤ 32 by omega) h' K
theorem dy_92 {post : SY → Prop} {J : Int32 → Int32 → Int32 → Int32 → (Nat → Int32) → (Nat → Int32) → (Nat → Int32) → (Nat → Int32) → (Nat → Int32) → (Nat → Int32) → (Nat → Int32) → Prop} {x3 x4 : Int32} {sy le hd tl ol nw : Nat → Int32} {g : Nat → Nat} {A B : Nat} (G : ds_G sy le g A B) {i1 j0 j1 : Nat} (hi : i1 ≤ 16) (hj0 : j0 ≤ j1) (hj : j1 ≤ 16) : ∀ (d n i : Nat) (P : Nat × (Nat → Nat)) (sp : Nat → Int32), i + d = i1 → d < n → P.1 + d + (j1 - j0) ≤ 32 → dq_HY sp P →
    (∀ m sp', dq_HY sp' (dq_run (fun y => 2 + 4 * g (16 + y)) (j1 - j0) j0 (dq_run (fun x => 1 + 4 * g x) d i P)) → wY_write_115 post J (nI i1) x3 x4 (nI i1) (nI j1) (m + 1) (nI j1) (nI (dq_run (fun y => 2 + 4 * g (16 + y)) (j1 - j0) j0 (dq_run (fun x => 1 + 4 * g x) d i P)).1) le sy hd tl ol nw sp') → wY_write_92 post J (nI j0) x3 x4 (nI i1) (nI j1) n (nI i) (nI P.1) le sy hd tl ol nw sp := by
  intro d
  induction d with
  | zero =>
    intro n i P sp hd hn hP h K
    obtain ⟨m, rfl⟩ : ∃ m, n = m + 1 := ⟨n - 1, by omega⟩
    have e : i = i1 := by omega
    subst e
    refine pk_le i i (fun _ => ⟨j1 - j0 + 1, ?_⟩) (fun h => absurd h (by omega))
    exact dy_115 G hj (j1 - j0) _ j0 P sp (by omega) (by omega) (by omega) h K
  | succ d ih =>
    intro n i P sp hd hn hP h K
    obtain ⟨m, rfl⟩ : ∃ m, n = m + 1 := ⟨n - 1, by omega⟩
    have c2 : (nI i).toNatClampNeg = i := nI_clamp (by omega)
    refine pk_le i1 i (fun h => absurd h (by omega)) (fun _ => ⟨vp_in_nI (by omega) (by omega), ?_⟩)
    refine dy_put 1 (g i) rfl (by rw [c2]; exact G.1 _) (by omega) (G.2.1 _) (by omega) h (fun sp' h' => ?_)
    intro y ey
    rw [nI_1] at ey
    subst ey
    exact ih m (i + 1) _ sp' (by omega) (by omega) (show P.1 + 1 + d + (j1 - j0) ≤ 32 by omega) h' K
theorem dy_gap {post : SY → Prop} {J : Int32 → Int32 → Int32 → Int32 → (Nat → Int32) → (Nat → Int32) → (Nat → Int32) → (Nat → Int32) → (Nat → Int32) → (Nat → Int32) → (Nat → Int32) → Prop} {x3 x4 a b : Int32} {sy le hd tl ol nw sp : Nat → Int32} {g : Nat → Nat} {A B : Nat} (G : ds_G sy le g A B) {P : Nat × (Nat → Nat)} {i0 i1 j0 j1 : Nat} (ha : a = nI i1) (hb : b = nI j1) (hi0 : i0 ≤ i1) (hi : i1 ≤ 16) (hj0 : j0 ≤ j1) (hj : j1 ≤ 16) (hP : P.1 + (i1 - i0) + (j1 - j0) ≤ 32) (h : dq_HY sp P)
    (K : ∀ m sp', dq_HY sp' (dq_gap g i0 i1 j0 j1 P) → wY_write_115 post J (nI i1) x3 x4 (nI i1) (nI j1) (m + 1) (nI j1) (nI (dq_gap g i0 i1 j0 j1 P).1) le sy hd tl ol nw sp') : ∃ n, wY_write_92 post J (nI j0) x3 x4 a b n (nI i0) (nI P.1) le sy hd tl ol nw sp := by
  subst ha hb
  exact ⟨i1 - i0 + 1, dy_92 G hi hj0 hj (i1 - i0) _ i0 P sp (by omega) (by omega) hP h K⟩
theorem dy_15 {post : SY → Prop} {sy le hd tl ol nw : Nat → Int32} {g : Nat → Nat} {A B : Nat} (G : ds_G sy le g A B) (T : dy_T (dq_E g) A B 0 tl) (hp : ∀ k, k < dq_L (dq_E g) 0 0 A B → ol k = nI (dq_O (dq_E g) A B k) ∧ nw k = nI (dq_N (dq_E g) A B k))
    (K : ∀ sp, dq_HY sp (dq_fs g A B) → post (nI (dq_fs g A B).1, le, sy, hd, tl, ol, nw, sp)) : ∀ (d m k : Nat) (sp : Nat → Int32), k + d = dq_L (dq_E g) 0 0 A B → d + 1 < m → dq_HY sp (dq_sc g A B k) → wY_write_15 post m (nI (dq_st (dq_E g) A B k).1) (nI (dq_st (dq_E g) A B k).2) (nI k) (nI (dq_sc g A B k).1) le sy hd tl ol nw sp := by
  have hA := G.2.2.2.2.1
  have hB := G.2.2.2.2.2
  have hn := dq_L_le (dq_E g) 0 0 A B
  have t0 : tl 0 = nI (dq_L (dq_E g) 0 0 A B) := T 0 0 (Nat.le_refl _) (Nat.zero_le _) (Nat.zero_le _)
  intro d
  induction d with
  | zero =>
    intro m k sp hd hm h
    obtain ⟨m, rfl⟩ : ∃ m', m = m' + 2 := ⟨m - 2, by omega⟩
    have e : k = dq_L (dq_E g) 0 0 A B := by omega
    have hs := dq_st_le (dq_E g) A B k (by omega)
    have h1 := dq_sc_1 g A B k (by omega)
    refine pk_lt (dq_L (dq_E g) 0 0 A B) k (fun h => absurd h (by omega)) (fun _ => ?_) t0
    refine pk_lt 16 k (fun h => absurd h (by omega)) (fun _ => ?_)
    refine br_t (by rw [t0, e]) ?_
    refine br_f (c := (1 : Int32) = 0) (by decide) ?_
    refine br_f (c := (1 : Int32) = 0) (by decide) ?_
    intro x6 e6
    rw [G.2.2.2.1] at e6
    subst e6
    refine dy_gap G G.2.2.1 rfl hs.1 hA hs.2 hB (by omega) h (fun m' sp' h' => ?_)
    refine pk_le B B (fun _ => ?_) (fun h => absurd h (by omega))
    refine br_f (c := (1 : Int32) = 0) (by decide) ?_
    intro x3 e3
    rw [nI_1] at e3
    subst e3
    refine pk_lt (dq_L (dq_E g) 0 0 A B) (k + 1) (fun _ => ?_) (fun h => absurd h (by omega)) t0
    have e2 : dq_gap g (dq_st (dq_E g) A B k).1 A (dq_st (dq_E g) A B k).2 B (dq_sc g A B k) = dq_fs g A B := by
      rw [e]
      rfl
    rw [e2] at h' ⊢
    exact K sp' h'
  | succ d ih =>
    intro m k sp hd hm h
    obtain ⟨m, rfl⟩ : ∃ m', m = m' + 1 := ⟨m - 1, by omega⟩
    have hb := dq_st_b (dq_E g) A B (show k < dq_L (dq_E g) 0 0 A B by omega)
    have h1 := dq_sc_1 g A B k (by omega)
    have hpk := hp k (by omega)
    have c1 : (nI k).toNatClampNeg = k := nI_clamp (by omega)
    have g1 := dq_gap_1 g (dq_st (dq_E g) A B k).1 (dq_O (dq_E g) A B k) (dq_st (dq_E g) A B k).2 (dq_N (dq_E g) A B k) (dq_sc g A B k)
    refine pk_lt (dq_L (dq_E g) 0 0 A B) k (fun h => absurd h (by omega)) (fun _ => ?_) t0
    refine pk_lt 16 k (fun h => absurd h (by omega)) (fun _ => ?_)
    refine br_f (by rw [t0]; exact ds_ne (by omega) (by omega) (by omega)) ?_
    refine br_t (c := (0 : Int32) = 0) rfl ⟨vp_in_nI (by omega) (by omega), ?_⟩
    refine br_t (c := (0 : Int32) = 0) rfl ⟨vp_in_nI (by omega) (by omega), ?_⟩
    intro x6 e6
    rw [c1, hpk.2] at e6
    subst e6
    refine dy_gap G (by rw [c1, hpk.1]) rfl hb.1 (by omega) hb.2.2.1 (by omega) (by omega) h (fun m' sp' h' => ?_)
    refine pk_le (dq_N (dq_E g) A B k) (dq_N (dq_E g) A B k) (fun _ => ?_) (fun h => absurd h (by omega))
    refine br_t (c := (0 : Int32) = 0) rfl ⟨vp_in_nI (by omega) (by omega), ?_⟩
    refine dy_put 0 (g (dq_O (dq_E g) A B k)) rfl (by rw [nI_clamp (by omega)]; exact G.1 _) (by omega) (G.2.1 _) (by omega) h' (fun sp2 h2 => ?_)
    intro x1 e1 x2 e2 x3 e3
    rw [nI_1] at e1 e2 e3
    subst e1 e2 e3
    exact ih m (k + 1) sp2 (by omega) (by omega) h2
theorem dy_write {post : SY → Prop} {mn : Int32} {sy le hd tl ol nw sp : Nat → Int32} {g : Nat → Nat} {A B : Nat} (G : ds_G sy le g A B)
    (K : ∀ hd tl ol nw sp, dq_HY sp (dq_fs g A B) → post (nI (dq_fs g A B).1, le, sy, hd, tl, ol, nw, sp)) : wpY_write post (mn, le, sy, hd, tl, ol, nw, sp) := by
  unfold wpY_write
  refine dy_list G (fun hd' tl' ol' nw' T hp => ?_)
  exact ⟨dq_L (dq_E g) 0 0 A B + 2, dy_15 G T hp (K hd' tl' ol' nw') (dq_L (dq_E g) 0 0 A B) _ 0 sp (by omega) (by omega) (fun t ht => absurd ht (Nat.not_lt_zero t))⟩
