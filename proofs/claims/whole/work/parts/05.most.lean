/-! X: mostPairs -/
theorem dx_39 {post : Int32 → SX → Prop} {J : Int32 → (Nat → Int32) → (Nat → Int32) → (Nat → Int32) → (Nat → Int32) → (Nat → Int32) → (Nat → Int32) → (Nat → Int32) → Prop} {x2 x3 pc sc : Int32} {sy le po pn sk ss : Nat → Int32} {g : Nat → Nat} {A B : Nat} (G : ds_G sy le g A B) {i0 j0 j1 i : Nat} (hi : i < 16) (hi0 : i0 ≤ i) (hj1 : j1 ≤ 16)
    (K : ∀ ro', dr_V (dq_E g) i0 j0 j1 (i + 1) ro' → J (nI (i + 1)) sy le ro' po pn sk ss) : ∀ (d n j : Nat) (ro : Nat → Int32), j + d = j1 → d < n → j0 ≤ j → dr_W (dq_E g) i0 j0 j1 i j ro → wX_mostPairs_39 post J x2 x3 (nI j1) (nI i) pc sc n (nI (dq_L (dq_E g) i0 j0 i j)) (nI j) sy le ro po pn sk ss := by
  intro d
  induction d with
  | zero =>
    intro n j ro hd hn hj h
    obtain ⟨m, rfl⟩ : ∃ m, n = m + 1 := ⟨n - 1, by omega⟩
    have e : j = j1 := by omega
    subst e
    refine pk_le j j (fun _ => ?_) (fun h => absurd h (by omega))
    intro y ey
    rw [nI_1] at ey
    subst ey
    exact K ro (dr_WV h)
  | succ d ih =>
    intro n j ro hd hn hj h
    obtain ⟨m, rfl⟩ : ∃ m, n = m + 1 := ⟨n - 1, by omega⟩
    have b1 := dq_L_le (dq_E g) i0 j0 (i + 1) j
    have b2 := dq_L_le (dq_E g) i0 j0 i (j + 1)
    have c1 : (nI i).toNatClampNeg = i := nI_clamp (by omega)
    have c2 : (16 + nI j).toNatClampNeg = 16 + j := by rw [ds_16p, nI_clamp (by omega)]
    have c3 : (nI j + 1).toNatClampNeg = j + 1 := by rw [nI_1, nI_clamp (by omega)]
    have c4 : (nI j).toNatClampNeg = j := nI_clamp (by omega)
    refine pk_le j1 j (fun h => absurd h (by omega)) (fun _ => ?_)
    refine ⟨pk_in (j + 1) 17 (by omega) (nI_1 j), ?_⟩
    intro a ea
    rw [c3, h.2 (j + 1) (by omega) (by omega)] at ea
    subst ea
    refine ⟨vp_in_nI (by omega) (by omega), pk_in (16 + j) 32 (by omega) (ds_16p j), ?_⟩
    by_cases he : dq_E g i j
    · refine br_t (by rw [c1, c2]; exact (ds_E G i j).mpr he) ?_
      refine ⟨pk_in (j + 1) 17 (by omega) (nI_1 j), ?_⟩
      intro r er y ey
      rw [c3, nI_1] at er
      rw [nI_1] at ey
      subst er ey
      exact ih m (j + 1) _ (by omega) (by omega) (by omega) (dr_Wput h (by rw [dq_b_eq (dq_E g) hi0 hj he]))
    · refine br_f (by rw [c1, c2]; exact fun z => he ((ds_E G i j).mp z)) ?_
      refine ⟨vp_in_nI (by omega) (by omega), ?_⟩
      refine pk_le (dq_L (dq_E g) i0 j0 (i + 1) j) (dq_L (dq_E g) i0 j0 i (j + 1)) (fun hl => ?_) (fun hl => ?_) (by rw [c4, h.1 j hj (Nat.le_refl _)]) rfl (by omega) (by omega)
      · intro y ey
        rw [nI_1] at ey
        subst ey
        exact ih m (j + 1) _ (by omega) (by omega) (by omega) (dr_Wkeep h (by rw [h.2 (j + 1) (by omega) (by omega), dr_b_a (dq_E g) he hl]))
      · refine ⟨vp_in_nI (by omega) (by omega), pk_in (j + 1) 17 (by omega) (nI_1 j), ?_⟩
        intro r er y ey
        rw [c3, c4, h.1 j hj (Nat.le_refl _)] at er
        rw [nI_1] at ey
        subst er ey
        exact ih m (j + 1) _ (by omega) (by omega) (by omega) (dr_Wput h (by rw [dr_b_l (dq_E g) he hl]))
theorem dx_27 {post : Int32 → SX → Prop} {pc sc : Int32} {sy le po pn sk ss : Nat → Int32} {g : Nat → Nat} {A B : Nat} (G : ds_G sy le g A B) {i0 i1 j0 j1 : Nat} (hi : i1 ≤ 16) (hj : j0 ≤ j1) (hj1 : j1 ≤ 16)
    (K : ∀ ro', post (nI (dq_L (dq_E g) i0 j0 i1 j1)) (pc, sc, sy, le, ro', po, pn, sk, ss)) : ∀ (d n i : Nat) (ro : Nat → Int32), i + d = i1 → d < n → i0 ≤ i → dr_V (dq_E g) i0 j0 j1 i ro → wX_mostPairs_27 post (nI i1) (nI j0) (nI j1) pc sc n (nI i) sy le ro po pn sk ss := by
  intro d
  induction d with
  | zero =>
    intro n i ro hd hn hi0 h
    obtain ⟨m, rfl⟩ : ∃ m, n = m + 1 := ⟨n - 1, by omega⟩
    have e : i = i1 := by omega
    subst e
    refine pk_le i i (fun _ => ⟨vp_in_nI (by omega) (by omega), ?_⟩) (fun h => absurd h (by omega))
    rw [nI_clamp (by omega), h j1 hj (Nat.le_refl _)]
    exact K ro
  | succ d ih =>
    intro n i ro hd hn hi0 h
    obtain ⟨m, rfl⟩ : ∃ m, n = m + 1 := ⟨n - 1, by omega⟩
    refine pk_le i1 i (fun h => absurd h (by omega)) (fun _ => ⟨j1 - j0 + 1, ?_⟩)
    have z := dx_39 (post := post) (J := wX_mostPairs_27 post (nI i1) (nI j0) (nI j1) pc sc m) (x2 := nI i1) (x3 := nI j0) (pc := pc) (sc := sc) (po := po) (pn := pn) (sk := sk) (ss := ss) G (i0 := i0) (j0 := j0) (j1 := j1) (i := i) (by omega) hi0 hj1 (fun ro' h' => ih m (i + 1) ro' (by omega) (by omega) (by omega) h') (j1 - j0) (j1 - j0 + 1) j0 ro (by omega) (by omega) (Nat.le_refl _) (dr_VW hj h)
    rw [dr_L0j (dq_E g) i0 j0 i j0 (Nat.le_refl _)] at z
    exact z
theorem dx_3 {post : Int32 → SX → Prop} {pc sc : Int32} {sy le po pn sk ss : Nat → Int32} {g : Nat → Nat} {A B : Nat} (G : ds_G sy le g A B) {i0 i1 j0 j1 : Nat} (hi0 : i0 ≤ i1) (hi : i1 ≤ 16) (hj : j0 ≤ j1) (hj1 : j1 ≤ 16)
    (K : ∀ ro', post (nI (dq_L (dq_E g) i0 j0 i1 j1)) (pc, sc, sy, le, ro', po, pn, sk, ss)) : ∀ (d n t : Nat) (ro : Nat → Int32), t + d = 17 → d < n → (∀ s, s < t → ro s = 0) → wX_mostPairs_3 post (nI i0) (nI i1) (nI j0) (nI j1) pc sc n (nI t) sy le ro po pn sk ss := by
  intro d
  induction d with
  | zero =>
    intro n t ro hd hn h
    obtain ⟨m, rfl⟩ : ∃ m, n = m + 1 := ⟨n - 1, by omega⟩
    have e : t = 17 := by omega
    subst e
    refine pk_le 17 17 (fun _ => ⟨i1 - i0 + 1, ?_⟩) (fun h => absurd h (by omega))
    exact dx_27 G hi hj hj1 K (i1 - i0) _ i0 ro (by omega) (by omega) (Nat.le_refl _) (dr_V0 h hj1)
  | succ d ih =>
    intro n t ro hd hn h
    obtain ⟨m, rfl⟩ : ∃ m, n = m + 1 := ⟨n - 1, by omega⟩
    refine pk_le 17 t (fun h => absurd h (by omega)) (fun _ => ⟨vp_in_nI (by omega) (by omega), ?_⟩)
    intro r er y ey
    rw [nI_clamp (by omega)] at er
    rw [nI_1] at ey
    subst er ey
    refine ih m (t + 1) _ (by omega) (by omega) (fun s hs => ?_)
    by_cases e : s = t
    · subst e
      exact pk_us
    · rw [pk_un e]
      exact h s (by omega)
theorem dx_most {post : Int32 → SX → Prop} {pc sc : Int32} {sy le ro po pn sk ss : Nat → Int32} {g : Nat → Nat} {A B : Nat} (G : ds_G sy le g A B) {i0 i1 j0 j1 : Nat} {a b c d : Int32} (ha : a = nI i0) (hb : b = nI i1) (hc : c = nI j0) (hd : d = nI j1) (hi0 : i0 ≤ i1) (hi : i1 ≤ 16) (hj : j0 ≤ j1) (hj1 : j1 ≤ 16)
    (K : ∀ ro', post (nI (dq_L (dq_E g) i0 j0 i1 j1)) (pc, sc, sy, le, ro', po, pn, sk, ss)) : wpX_mostPairs post (pc, sc, sy, le, ro, po, pn, sk, ss) a b c d := by
  subst ha hb hc hd
  exact ⟨18, dx_3 G hi0 hi hj hj1 K 17 18 0 ro rfl (by omega) (fun s h => absurd h (by omega))⟩
