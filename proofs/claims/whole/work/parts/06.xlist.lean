/-! X: partnerWithoutLoss, findBestList -/
theorem dx_22h {post : Int32 → SX → Prop} {pc sc : Int32} {sy le ro po pn sk ss : Nat → Int32} {g : Nat → Nat} {A B : Nat} (G : ds_G sy le g A B) {i y M : Nat} (hi : i < A) (hy : y < B) (he : dq_E g i y) (hM : dq_L (dq_E g) (i + 1) (y + 1) A B + 1 = M)
    (K : ∀ ro', post (nI y) (pc, sc, sy, le, ro', po, pn, sk, ss)) : ∀ (d n j : Nat), j + d = y → d < n → (∀ t, j ≤ t → t < y → ¬ dq_E g i t) → wX_partnerWithoutLoss_22 post (nI i) (nI M) pc sc sy le ro po pn sk ss n (nI j) := by
  have hA := G.2.2.2.2.1
  have hB := G.2.2.2.2.2
  have c1 : (nI i).toNatClampNeg = i := nI_clamp (by omega)
  intro d
  induction d with
  | zero =>
    intro n j hd hn h
    obtain ⟨m, rfl⟩ : ∃ m, n = m + 1 := ⟨n - 1, by omega⟩
    have e : j = y := by omega
    subst e
    have c2 : (16 + nI j).toNatClampNeg = 16 + j := by rw [ds_16p, nI_clamp (by omega)]
    refine pk_le B j (fun h => absurd h (by omega)) (fun _ => ?_) G.2.2.2.1
    refine ⟨vp_in_nI (by omega) (by omega), pk_in (16 + j) 32 (by omega) (ds_16p j), ?_⟩
    refine br_t (by rw [c1, c2]; exact (ds_E G i j).mpr he) ?_
    refine dx_most G (nI_1 i) G.2.2.1 (nI_1 j) G.2.2.2.1 (by omega) hA (by omega) hB (fun ro' => ?_)
    exact br_t (by rw [nI_1, hM]) (K ro')
  | succ d ih =>
    intro n j hd hn h
    obtain ⟨m, rfl⟩ : ∃ m, n = m + 1 := ⟨n - 1, by omega⟩
    have c2 : (16 + nI j).toNatClampNeg = 16 + j := by rw [ds_16p, nI_clamp (by omega)]
    refine pk_le B j (fun h => absurd h (by omega)) (fun _ => ?_) G.2.2.2.1
    refine ⟨vp_in_nI (by omega) (by omega), pk_in (16 + j) 32 (by omega) (ds_16p j), ?_⟩
    refine br_f (by rw [c1, c2]; exact fun z => h j (Nat.le_refl _) (by omega) ((ds_E G i j).mp z)) ?_
    intro x ex
    rw [nI_1] at ex
    subst ex
    exact ih m (j + 1) (by omega) (by omega) (fun t h1 h2 => h t (by omega) h2)
theorem dx_22m {post : Int32 → SX → Prop} {pc sc : Int32} {sy le ro po pn sk ss : Nat → Int32} {g : Nat → Nat} {A B : Nat} (G : ds_G sy le g A B) {i M : Nat} (hi : i < A) (hMb : M ≤ 16)
    (K : ∀ ro', post (-1) (pc, sc, sy, le, ro', po, pn, sk, ss)) : ∀ (d n j : Nat), j + d = B → d < n → (∀ t, j ≤ t → t < B → dq_E g i t → dq_L (dq_E g) (i + 1) (t + 1) A B + 1 ≠ M) → wX_partnerWithoutLoss_22 post (nI i) (nI M) pc sc sy le ro po pn sk ss n (nI j) := by
  have hA := G.2.2.2.2.1
  have hB := G.2.2.2.2.2
  have c1 : (nI i).toNatClampNeg = i := nI_clamp (by omega)
  intro d
  induction d with
  | zero =>
    intro n j hd hn h
    obtain ⟨m, rfl⟩ : ∃ m, n = m + 1 := ⟨n - 1, by omega⟩
    exact pk_le B j (fun _ => K ro) (fun h => absurd h (by omega)) G.2.2.2.1
  | succ d ih =>
    intro n j hd hn h
    obtain ⟨m, rfl⟩ : ∃ m, n = m + 1 := ⟨n - 1, by omega⟩
    have c2 : (16 + nI j).toNatClampNeg = 16 + j := by rw [ds_16p, nI_clamp (by omega)]
    refine pk_le B j (fun h => absurd h (by omega)) (fun _ => ?_) G.2.2.2.1
    refine ⟨vp_in_nI (by omega) (by omega), pk_in (16 + j) 32 (by omega) (ds_16p j), ?_⟩
    by_cases he : dq_E g i j
    · refine br_t (by rw [c1, c2]; exact (ds_E G i j).mpr he) ?_
      refine dx_most G (nI_1 i) G.2.2.1 (nI_1 j) G.2.2.2.1 (by omega) hA (by omega) hB (fun ro' => ?_)
      have b := dq_L_le (dq_E g) (i + 1) (j + 1) A B
      exact br_f (by rw [nI_1]; exact ds_ne (by omega) (by omega) (h j (Nat.le_refl _) (by omega) he)) (K ro')
    · refine br_f (by rw [c1, c2]; exact fun z => he ((ds_E G i j).mp z)) ?_
      intro x ex
      rw [nI_1] at ex
      subst ex
      exact ih m (j + 1) (by omega) (by omega) (fun t h1 h2 => h t (by omega) h2)
theorem dx_pwh {post : Int32 → SX → Prop} {pc sc : Int32} {sy le ro po pn sk ss : Nat → Int32} {g : Nat → Nat} {A B : Nat} (G : ds_G sy le g A B) {i q y : Nat} (hi : i < A) (hq : q ≤ y) (hy : y < B) (he : dq_E g i y) (hM : dq_L (dq_E g) (i + 1) (y + 1) A B + 1 = dq_L (dq_E g) i q A B) (h : ∀ t, q ≤ t → t < y → ¬ dq_E g i t)
    (K : ∀ ro', post (nI y) (pc, sc, sy, le, ro', po, pn, sk, ss)) : wpX_partnerWithoutLoss post (pc, sc, sy, le, ro, po, pn, sk, ss) (nI i) (nI q) := by
  unfold wpX_partnerWithoutLoss
  refine dx_most G rfl G.2.2.1 rfl G.2.2.2.1 (by omega) G.2.2.2.2.1 (by omega) G.2.2.2.2.2 (fun ro' => ?_)
  exact ⟨y - q + 1, dx_22h G hi hy he hM K (y - q) _ q (by omega) (by omega) h⟩
theorem dx_pwm {post : Int32 → SX → Prop} {pc sc : Int32} {sy le ro po pn sk ss : Nat → Int32} {g : Nat → Nat} {A B : Nat} (G : ds_G sy le g A B) {i q : Nat} (hi : i < A) (hq : q ≤ B) (h : ∀ t, q ≤ t → t < B → dq_E g i t → dq_L (dq_E g) (i + 1) (t + 1) A B + 1 ≠ dq_L (dq_E g) i q A B)
    (K : ∀ ro', post (-1) (pc, sc, sy, le, ro', po, pn, sk, ss)) : wpX_partnerWithoutLoss post (pc, sc, sy, le, ro, po, pn, sk, ss) (nI i) (nI q) := by
  unfold wpX_partnerWithoutLoss
  refine dx_most G rfl G.2.2.1 rfl G.2.2.2.1 (by omega) G.2.2.2.2.1 (by omega) G.2.2.2.2.2 (fun ro' => ?_)
  have b := dq_L_le (dq_E g) i q A B
  have hA := G.2.2.2.2.1
  exact ⟨B - q + 1, dx_22m G hi (by omega) K (B - q) _ q (by omega) (by omega) h⟩
theorem dx_9 {post : SX → Prop} {sc : Int32} {sy le sk ss : Nat → Int32} {g : Nat → Nat} {A B : Nat} (G : ds_G sy le g A B)
    (K : ∀ ro po pn, (∀ k, k < dq_L (dq_E g) 0 0 A B → po k = nI (dq_O (dq_E g) A B k) ∧ pn k = nI (dq_N (dq_E g) A B k)) → post (nI (dq_L (dq_E g) 0 0 A B), sc, sy, le, ro, po, pn, sk, ss)) : ∀ (d m c i : Nat) (ro po pn : Nat → Int32), i + d = A → d < m → c ≤ dq_L (dq_E g) 0 0 A B → (dq_st (dq_E g) A B c).1 ≤ i → (c < dq_L (dq_E g) 0 0 A B → i ≤ dq_O (dq_E g) A B c) → (∀ k, k < c → po k = nI (dq_O (dq_E g) A B k) ∧ pn k = nI (dq_N (dq_E g) A B k)) → wX_findBestList_9 post m (nI (dq_st (dq_E g) A B c).2) (nI i) (nI c) sc sy le ro po pn sk ss := by
  have hA := G.2.2.2.2.1
  have hB := G.2.2.2.2.2
  have hn := dq_L_le (dq_E g) 0 0 A B
  intro d
  induction d with
  | zero =>
    intro m c i ro po pn hd hm hc h0 h1 hp
    obtain ⟨m, rfl⟩ : ∃ m', m = m' + 1 := ⟨m - 1, by omega⟩
    have e : c = dq_L (dq_E g) 0 0 A B := by
      by_cases l : c < dq_L (dq_E g) 0 0 A B
      · have h2 := h1 l
        have h3 := dq_st_b (dq_E g) A B l
        omega
      · omega
    refine pk_le A i (fun _ => ?_) (fun h => absurd h (by omega)) G.2.2.1
    have k := K ro po pn (fun k hk => hp k (by omega))
    rw [← e] at k
    exact k
  | succ d ih =>
    intro m c i ro po pn hd hm hc h0 h1 hp
    obtain ⟨m, rfl⟩ : ∃ m', m = m' + 1 := ⟨m - 1, by omega⟩
    refine pk_le A i (fun h => absurd h (by omega)) (fun _ => ?_) G.2.2.1
    have hL := dq_at_L (dq_E g) A B hc h0 h1
    have hs := dq_st_le (dq_E g) A B c hc
    by_cases hh : c < dq_L (dq_E g) 0 0 A B ∧ i = dq_O (dq_E g) A B c
    · have hb := dq_st_b (dq_E g) A B hh.1
      have ht := dq_hit (dq_E g) A B hh.1
      rw [← hh.2] at ht
      refine dx_pwh G (i := i) (q := (dq_st (dq_E g) A B c).2) (y := dq_N (dq_E g) A B c) (by omega) hb.2.2.1 hb.2.2.2 ht.2.1 (by rw [hL]; exact ht.2.2) ht.1 (fun ro' => ?_)
      refine br_f (ds_nm1 (by omega)) ⟨vp_in_nI (by omega) (by omega), ?_⟩
      intro po' ep
      refine ⟨vp_in_nI (by omega) (by omega), ?_⟩
      intro pn' en c' ec x1 e1 x2 e2
      rw [nI_clamp (by omega)] at ep en
      rw [nI_1] at ec e1 e2
      subst ep en ec e1 e2
      have s := dq_stS (dq_E g) A B c
      rw [← s.2]
      refine ih m (c + 1) (i + 1) ro' _ _ (by omega) (by omega) (by omega) (by omega) (fun l => ?_) (fun k hk => ?_)
      · have := dq_st_b (dq_E g) A B l
        omega
      · by_cases e : k = c
        · subst e
          rw [pk_us, pk_us, hh.2]
          exact ⟨rfl, rfl⟩
        · rw [pk_un e, pk_un e]
          exact hp k (by omega)
    · have hlt : c < dq_L (dq_E g) 0 0 A B → i < dq_O (dq_E g) A B c := by
        intro l
        have l1 := h1 l
        have l2 : i ≠ dq_O (dq_E g) A B c := fun z => hh ⟨l, z⟩
        omega
      refine dx_pwm G (i := i) (q := (dq_st (dq_E g) A B c).2) (by omega) hs.2 (fun t q1 q2 q3 => ?_) (fun ro' => ?_)
      · rw [hL]
        exact dq_miss (dq_E g) A B hc h0 hlt (by omega) q1 q2 q3
      · refine br_t rfl ?_
        intro x2 e2
        rw [nI_1] at e2
        subst e2
        exact ih m c (i + 1) ro' po pn (by omega) (by omega) hc (by omega) (fun l => hlt l) hp
theorem dx_list {post : SX → Prop} {pc sc : Int32} {sy le ro po pn sk ss : Nat → Int32} {g : Nat → Nat} {A B : Nat} (G : ds_G sy le g A B)
    (K : ∀ ro po pn, (∀ k, k < dq_L (dq_E g) 0 0 A B → po k = nI (dq_O (dq_E g) A B k) ∧ pn k = nI (dq_N (dq_E g) A B k)) → post (nI (dq_L (dq_E g) 0 0 A B), sc, sy, le, ro, po, pn, sk, ss)) : wpX_findBestList post (pc, sc, sy, le, ro, po, pn, sk, ss) :=
  ⟨A + 1, dx_9 G K A (A + 1) 0 0 ro po pn (by omega) (by omega) (Nat.zero_le _) (Nat.zero_le _) (fun _ => Nat.zero_le _) (fun k hk => absurd hk (by omega))⟩
