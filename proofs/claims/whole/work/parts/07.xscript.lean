/-! X: writeStep, writeGap, writeScript -/
theorem dx_ws {post : SX → Prop} {pc : Int32} {sy le ro po pn sk ss : Nat → Int32} {P : Nat × (Nat → Nat)} {a b : Int32} (k v : Nat) (ha : a = nI k) (hb : b = nI v) (hk : k < 4) (hP : P.1 < 32) (h : dq_HX sk ss P)
    (K : ∀ sk' ss', dq_HX sk' ss' (dq_push P (k + 4 * v)) → post (pc, nI (dq_push P (k + 4 * v)).1, sy, le, ro, po, pn, sk', ss')) : wpX_writeStep post (pc, nI P.1, sy, le, ro, po, pn, sk, ss) a b := by
  subst ha hb
  refine ⟨vp_in_nI hP (by omega), ?_⟩
  intro s1 e1
  refine ⟨vp_in_nI hP (by omega), ?_⟩
  intro s2 e2 c ec
  rw [nI_clamp (by omega)] at e1 e2
  rw [nI_1] at ec
  subst e1 e2 ec
  exact K _ _ (dq_HX_push h k v hk)
theorem dx_30 {post : SX → Prop} {pc : Int32} {sy le ro po pn : Nat → Int32} {g : Nat → Nat} {A B : Nat} (G : ds_G sy le g A B) {j1 : Nat} (hj : j1 ≤ 16) : ∀ (d n j : Nat) (P : Nat × (Nat → Nat)) (sk ss : Nat → Int32), j + d = j1 → d < n → P.1 + d ≤ 32 → dq_HX sk ss P →
    (∀ sk' ss', dq_HX sk' ss' (dq_run (fun y => 2 + 4 * g (16 + y)) d j P) → post (pc, nI (dq_run (fun y => 2 + 4 * g (16 + y)) d j P).1, sy, le, ro, po, pn, sk', ss')) → wX_writeGap_30 post (nI j1) n (nI j) pc (nI P.1) sy le ro po pn sk ss := by
  intro d
  induction d with
  | zero =>
    intro n j P sk ss hd hn hP h K
    obtain ⟨m, rfl⟩ : ∃ m, n = m + 1 := ⟨n - 1, by omega⟩
    exact pk_le j1 j (fun _ => K sk ss h) (fun h => absurd h (by omega))
  | succ d ih =>
    intro n j P sk ss hd hn hP h K
    obtain ⟨m, rfl⟩ : ∃ m, n = m + 1 := ⟨n - 1, by omega⟩
    have c2 : (16 + nI j).toNatClampNeg = 16 + j := by rw [ds_16p, nI_clamp (by omega)]
    refine pk_le j1 j (fun h => absurd h (by omega)) (fun _ => ⟨pk_in (16 + j) 32 (by omega) (ds_16p j), ?_⟩)
    refine dx_ws 2 (g (16 + j)) rfl (by rw [c2]; exact G.1 _) (by omega) (by omega) h (fun sk' ss' h' => ?_)
    intro y ey
    rw [nI_1] at ey
    subst ey
    exact ih m (j + 1) _ sk' ss' (by omega) (by omega) (show P.1 + 1 + d ≤ 32 by omega) h' K
theorem dx_g3 {post : SX → Prop} {pc : Int32} {sy le ro po pn : Nat → Int32} {g : Nat → Nat} {A B : Nat} (G : ds_G sy le g A B) {i1 j0 j1 : Nat} (hi : i1 ≤ 16) (hj0 : j0 ≤ j1) (hj : j1 ≤ 16) : ∀ (d n i : Nat) (P : Nat × (Nat → Nat)) (sk ss : Nat → Int32), i + d = i1 → d < n → P.1 + d + (j1 - j0) ≤ 32 → dq_HX sk ss P →
    (∀ sk' ss', dq_HX sk' ss' (dq_run (fun y => 2 + 4 * g (16 + y)) (j1 - j0) j0 (dq_run (fun x => 1 + 4 * g x) d i P)) → post (pc, nI (dq_run (fun y => 2 + 4 * g (16 + y)) (j1 - j0) j0 (dq_run (fun x => 1 + 4 * g x) d i P)).1, sy, le, ro, po, pn, sk', ss')) → wX_writeGap_3 post (nI i1) (nI j0) (nI j1) n (nI i) pc (nI P.1) sy le ro po pn sk ss := by
  intro d
  induction d with
  | zero =>
    intro n i P sk ss hd hn hP h K
    obtain ⟨m, rfl⟩ : ∃ m, n = m + 1 := ⟨n - 1, by omega⟩
    refine pk_le i1 i (fun _ => ⟨j1 - j0 + 1, ?_⟩) (fun h => absurd h (by omega))
    exact dx_30 G hj (j1 - j0) _ j0 P sk ss (by omega) (by omega) (by omega) h K
  | succ d ih =>
    intro n i P sk ss hd hn hP h K
    obtain ⟨m, rfl⟩ : ∃ m, n = m + 1 := ⟨n - 1, by omega⟩
    have c2 : (nI i).toNatClampNeg = i := nI_clamp (by omega)
    refine pk_le i1 i (fun h => absurd h (by omega)) (fun _ => ⟨vp_in_nI (by omega) (by omega), ?_⟩)
    refine dx_ws 1 (g i) rfl (by rw [c2]; exact G.1 _) (by omega) (by omega) h (fun sk' ss' h' => ?_)
    intro y ey
    rw [nI_1] at ey
    subst ey
    exact ih m (i + 1) _ sk' ss' (by omega) (by omega) (show P.1 + 1 + d + (j1 - j0) ≤ 32 by omega) h' K
theorem dx_gap {post : SX → Prop} {pc : Int32} {sy le ro po pn sk ss : Nat → Int32} {g : Nat → Nat} {A B : Nat} (G : ds_G sy le g A B) {P : Nat × (Nat → Nat)} {i0 i1 j0 j1 : Nat} {a b c d : Int32} (ha : a = nI i0) (hb : b = nI i1) (hc : c = nI j0) (hd : d = nI j1) (hi0 : i0 ≤ i1) (hi : i1 ≤ 16) (hj0 : j0 ≤ j1) (hj : j1 ≤ 16) (hP : P.1 + (i1 - i0) + (j1 - j0) ≤ 32) (h : dq_HX sk ss P)
    (K : ∀ sk' ss', dq_HX sk' ss' (dq_gap g i0 i1 j0 j1 P) → post (pc, nI (dq_gap g i0 i1 j0 j1 P).1, sy, le, ro, po, pn, sk', ss')) : wpX_writeGap post (pc, nI P.1, sy, le, ro, po, pn, sk, ss) a b c d := by
  subst ha hb hc hd
  exact ⟨i1 - i0 + 1, dx_g3 G hi hj0 hj (i1 - i0) _ i0 P sk ss (by omega) (by omega) hP h K⟩
theorem dx_15 {post : SX → Prop} {sy le ro po pn : Nat → Int32} {g : Nat → Nat} {A B : Nat} (G : ds_G sy le g A B) (hp : ∀ k, k < dq_L (dq_E g) 0 0 A B → po k = nI (dq_O (dq_E g) A B k) ∧ pn k = nI (dq_N (dq_E g) A B k))
    (K : ∀ sk ss, dq_HX sk ss (dq_fs g A B) → post (nI (dq_L (dq_E g) 0 0 A B), nI (dq_fs g A B).1, sy, le, ro, po, pn, sk, ss)) : ∀ (d m k : Nat) (sk ss : Nat → Int32), k + d = dq_L (dq_E g) 0 0 A B → d < m → dq_HX sk ss (dq_sc g A B k) → wX_writeScript_15 post m (nI (dq_st (dq_E g) A B k).1) (nI (dq_st (dq_E g) A B k).2) (nI k) (nI (dq_L (dq_E g) 0 0 A B)) (nI (dq_sc g A B k).1) sy le ro po pn sk ss := by
  have hA := G.2.2.2.2.1
  have hB := G.2.2.2.2.2
  have hn := dq_L_le (dq_E g) 0 0 A B
  intro d
  induction d with
  | zero =>
    intro m k sk ss hd hm h
    obtain ⟨m, rfl⟩ : ∃ m', m = m' + 1 := ⟨m - 1, by omega⟩
    have e : k = dq_L (dq_E g) 0 0 A B := by omega
    have hs := dq_st_le (dq_E g) A B k (by omega)
    have h1 := dq_sc_1 g A B k (by omega)
    refine pk_le (dq_L (dq_E g) 0 0 A B) k (fun _ => ?_) (fun h => absurd h (by omega))
    refine dx_gap G rfl G.2.2.1 rfl G.2.2.2.1 hs.1 hA hs.2 hB (by omega) h (fun sk' ss' h' => ?_)
    have e2 : dq_gap g (dq_st (dq_E g) A B k).1 A (dq_st (dq_E g) A B k).2 B (dq_sc g A B k) = dq_fs g A B := by
      rw [e]
      rfl
    rw [e2] at h' ⊢
    exact K sk' ss' h'
  | succ d ih =>
    intro m k sk ss hd hm h
    obtain ⟨m, rfl⟩ : ∃ m', m = m' + 1 := ⟨m - 1, by omega⟩
    have hb := dq_st_b (dq_E g) A B (show k < dq_L (dq_E g) 0 0 A B by omega)
    have h1 := dq_sc_1 g A B k (by omega)
    have hpk := hp k (by omega)
    have c1 : (nI k).toNatClampNeg = k := nI_clamp (by omega)
    have h2 := dq_gap_1 g (dq_st (dq_E g) A B k).1 (dq_O (dq_E g) A B k) (dq_st (dq_E g) A B k).2 (dq_N (dq_E g) A B k) (dq_sc g A B k)
    refine pk_le (dq_L (dq_E g) 0 0 A B) k (fun h => absurd h (by omega)) (fun _ => ⟨vp_in_nI (by omega) (by omega), ?_⟩)
    intro x4 e4
    refine ⟨vp_in_nI (by omega) (by omega), ?_⟩
    intro x5 e5
    rw [c1, hpk.1] at e4
    rw [c1, hpk.2] at e5
    subst e4 e5
    refine dx_gap G rfl rfl rfl rfl hb.1 (by omega) hb.2.2.1 (by omega) (by omega) h (fun sk' ss' h' => ?_)
    refine ⟨vp_in_nI (by omega) (by omega), ?_⟩
    refine dx_ws 0 (g (dq_O (dq_E g) A B k)) rfl (by rw [nI_clamp (by omega)]; exact G.1 _) (by omega) (by omega) h' (fun sk2 ss2 h2 => ?_)
    intro x1 e1 x2 e2 x3 e3
    rw [nI_1] at e1 e2 e3
    subst e1 e2 e3
    exact ih m (k + 1) sk2 ss2 (by omega) (by omega) h2
theorem dx_script {post : SX → Prop} {pc sc : Int32} {sy le ro po pn sk ss : Nat → Int32} {g : Nat → Nat} {A B : Nat} (G : ds_G sy le g A B)
    (K : ∀ ro po pn sk ss, dq_HX sk ss (dq_fs g A B) → post (nI (dq_L (dq_E g) 0 0 A B), nI (dq_fs g A B).1, sy, le, ro, po, pn, sk, ss)) : wpX_writeScript post (pc, sc, sy, le, ro, po, pn, sk, ss) := by
  unfold wpX_writeScript
  refine dx_list G (fun ro' po' pn' hp => ?_)
  exact ⟨dq_L (dq_E g) 0 0 A B + 1, dx_15 G hp (K ro' po' pn') (dq_L (dq_E g) 0 0 A B) _ 0 sk ss (by omega) (by omega) (fun t ht => absurd ht (Nat.not_lt_zero t))⟩
