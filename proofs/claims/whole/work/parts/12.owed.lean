theorem i_up {k : Nat} {u : SX} {v : SY} (h : i_Rel k u v) : i_Rel (k + 4) u v := h
theorem i_vc0 : wpX_init (fun u => wpY_init (fun v => i_Rel 0 u v)) := ⟨rfl, rfl, fun _ => 0, 0, 0, fun _ => nI_0.symm, fun _ => Nat.zero_lt_succ 7, nI_0.symm, nI_0.symm, Nat.zero_le 16, Nat.zero_le 16⟩
theorem i_vc_append {k : Nat} {u : SX} {v : SY} (I : i_Rel k u v) (hk : k + 4 ≤ 2048) (v1 : Int32) (v2 : Int32) : wpX_append (fun r u' => wpY_append (fun r' v' => r' = r ∧ i_Rel (k + 4) u' v') v v1 v2) u v1 v2 := by
  obtain ⟨pc, sc, sy, le, ro, po, pn, sk, ss⟩ := u
  obtain ⟨mn, le', sy', hd, tl, ol, nw, sp⟩ := v
  obtain ⟨e1, e2, g, A, B, G0⟩ := I
  have f1 : le = le' := e1.symm
  have f2 : sy = sy' := e2.symm
  have G : ds_G sy le g A B := G0
  clear e1 e2 G0
  subst f1
  subst f2
  have hA := G.2.2.2.2.1
  have hB := G.2.2.2.2.2
  unfold wpX_append
  by_cases hw : v1 = 0 ∨ v1 = 1
  · refine dz_tx1 hw (br_f (by decide) ?_)
    by_cases hs : ∃ c, c < 8 ∧ v2 = nI c
    · obtain ⟨c, hc, rfl⟩ := hs
      refine dz_sx1 hc (br_f (by decide) ?_)
      obtain ⟨w, hw2, rfl⟩ := dz_w hw
      obtain ⟨l, hl, hl16, hG⟩ := dz_len G hw2
      have c1 : (nI w).toNatClampNeg = w := nI_clamp (by omega)
      have i2 : vp_in (nI w) 2 := vp_in_nI hw2 (by omega)
      refine ⟨i2, ?_⟩
      intro x ex
      rw [c1, hl] at ex
      subst ex
      have q1 : nI w * 16 + nI l = nI (16 * w + l) := by
        rw [ds_m16, nI_add]
        exact congrArg nI (by omega)
      have q2 : 16 * nI w + nI l = nI (16 * w + l) := by rw [ds_16m, nI_add]
      have q3 : le (nI w).toNatClampNeg = nI l := by rw [c1, hl]
      refine pk_lt l 16 (fun h => ?_) (fun h => ?_)
      · have i3 : vp_in (nI (16 * w + l)) 32 := vp_in_nI (by omega) (by omega)
        have c3 : (nI (16 * w + l)).toNatClampNeg = 16 * w + l := nI_clamp (by omega)
        refine ⟨by rw [q1]; exact i3, ?_⟩
        intro a ea
        refine ⟨i2, ?_⟩
        intro b eb
        rw [q1, c3] at ea
        rw [c1, nI_1] at eb
        subst ea eb
        unfold wpY_append
        refine dz_ty1 hw (br_f (by decide) (br_f (nI_pos (by omega)) (pk_le c 7 (fun _ => ⟨i2, ?_⟩) (fun z => absurd z (by omega)))))
        refine pk_lt l 16 (fun _ => ⟨i2, by rw [q3, q2]; exact i3, ?_⟩) (fun z => absurd z (by omega)) q3
        intro a ea
        refine ⟨i2, i2, ?_⟩
        intro b eb
        refine ⟨i2, ?_⟩
        rw [q3, q2, c3] at ea
        rw [q3, c1, nI_1] at eb
        subst ea eb
        obtain ⟨A', B', G'⟩ := hG _ _ (ds_G_put G (16 * w + l) c hc) (l + 1) (by omega)
        exact ⟨by rw [c1, pk_us, nI_pred], dz_rel G'⟩
      · unfold wpY_append
        refine dz_ty1 hw (br_f (by decide) (br_f (nI_pos (by omega)) (pk_le c 7 (fun _ => ⟨i2, ?_⟩) (fun z => absurd z (by omega)))))
        exact pk_lt l 16 (fun z => absurd z (by omega)) (fun _ => ⟨rfl, dz_rel G⟩) q3
    · refine dz_sx0 hs (br_t rfl ?_)
      unfold wpY_append
      refine dz_ty1 hw (br_f (by decide) (br_c (fun _ => ⟨rfl, dz_rel G⟩) (fun h0 => ?_)))
      obtain ⟨c, hc, rfl⟩ := nI_of h0
      exact pk_le c 7 (fun z => absurd ⟨c, by omega, rfl⟩ hs) (fun _ => ⟨rfl, dz_rel G⟩)
  · refine dz_tx0 hw (br_t rfl ?_)
    unfold wpY_append
    exact dz_ty0 hw (br_t rfl ⟨rfl, dz_rel G⟩)
theorem i_vc_drop {k : Nat} {u : SX} {v : SY} (I : i_Rel k u v) (hk : k + 4 ≤ 2048) (v1 : Int32) : wpX_drop (fun r u' => wpY_drop (fun r' v' => r' = r ∧ i_Rel (k + 4) u' v') v v1) u v1 := by
  obtain ⟨pc, sc, sy, le, ro, po, pn, sk, ss⟩ := u
  obtain ⟨mn, le', sy', hd, tl, ol, nw, sp⟩ := v
  obtain ⟨e1, e2, g, A, B, G0⟩ := I
  have f1 : le = le' := e1.symm
  have f2 : sy = sy' := e2.symm
  have G : ds_G sy le g A B := G0
  clear e1 e2 G0
  subst f1
  subst f2
  have hA := G.2.2.2.2.1
  have hB := G.2.2.2.2.2
  unfold wpX_drop
  by_cases hw : v1 = 0 ∨ v1 = 1
  · refine dz_tx1 hw (br_f (by decide) ?_)
    obtain ⟨w, hw2, rfl⟩ := dz_w hw
    obtain ⟨l, hl, hl16, hG⟩ := dz_len G hw2
    have c1 : (nI w).toNatClampNeg = w := nI_clamp (by omega)
    have i2 : vp_in (nI w) 2 := vp_in_nI hw2 (by omega)
    have q3 : le (nI w).toNatClampNeg = nI l := by rw [c1, hl]
    refine ⟨i2, ?_⟩
    refine pk_eq l 0 (fun h => ?_) (fun h => ?_) q3
    · unfold wpY_drop
      refine dz_ty1 hw (br_f (by decide) ⟨i2, ?_⟩)
      exact pk_eq l 0 (fun _ => ⟨rfl, dz_rel G⟩) (fun z => absurd h z) q3
    · obtain ⟨p, rfl⟩ : ∃ p, l = p + 1 := ⟨l - 1, by omega⟩
      have i3 : vp_in (nI (16 * w + p)) 32 := vp_in_nI (by omega) (by omega)
      have q1 : nI w * 16 + nI p = nI (16 * w + p) := by
        rw [ds_m16, nI_add]
        exact congrArg nI (by omega)
      have q2 : 16 * nI w + nI p = nI (16 * w + p) := by rw [ds_16m, nI_add]
      refine ⟨i2, ?_⟩
      intro x ex
      rw [q3, nI_pred] at ex
      subst ex
      refine ⟨i2, ?_⟩
      intro a ea
      rw [c1] at ea
      subst ea
      refine ⟨by rw [q1]; exact i3, ?_⟩
      unfold wpY_drop
      refine dz_ty1 hw (br_f (by decide) ⟨i2, ?_⟩)
      refine pk_eq (p + 1) 0 (fun z => absurd z (by omega)) (fun _ => ⟨i2, i2, ?_⟩) q3
      intro b eb
      rw [q3, c1, nI_pred] at eb
      subst eb
      have q4 : upd le w (nI p) (nI w).toNatClampNeg = nI p := by rw [c1, pk_us]
      refine ⟨i2, by rw [q4, q2]; exact i3, ?_⟩
      obtain ⟨A', B', G'⟩ := hG _ _ G p (by omega)
      exact ⟨by rw [q4, q1, q2], dz_rel G'⟩
  · refine dz_tx0 hw (br_t rfl ?_)
    unfold wpY_drop
    exact dz_ty0 hw (br_t rfl ⟨rfl, dz_rel G⟩)
theorem i_vc_change {k : Nat} {u : SX} {v : SY} (I : i_Rel k u v) (hk : k + 4 ≤ 2048) (v1 : Int32) (v2 : Int32) (v3 : Int32) : wpX_change (fun r u' => wpY_change (fun r' v' => r' = r ∧ i_Rel (k + 4) u' v') v v1 v2 v3) u v1 v2 v3 := by
  obtain ⟨pc, sc, sy, le, ro, po, pn, sk, ss⟩ := u
  obtain ⟨mn, le', sy', hd, tl, ol, nw, sp⟩ := v
  obtain ⟨e1, e2, g, A, B, G0⟩ := I
  have f1 : le = le' := e1.symm
  have f2 : sy = sy' := e2.symm
  have G : ds_G sy le g A B := G0
  clear e1 e2 G0
  subst f1
  subst f2
  have hA := G.2.2.2.2.1
  have hB := G.2.2.2.2.2
  unfold wpX_change
  by_cases hw : v1 = 0 ∨ v1 = 1
  · refine dz_tx1 hw (br_f (by decide) ?_)
    obtain ⟨w, hw2, rfl⟩ := dz_w hw
    obtain ⟨l, hl, hl16, hG⟩ := dz_len G hw2
    have c1 : (nI w).toNatClampNeg = w := nI_clamp (by omega)
    have i2 : vp_in (nI w) 2 := vp_in_nI hw2 (by omega)
    have q3 : le (nI w).toNatClampNeg = nI l := by rw [c1, hl]
    by_cases hp : ∃ p, p < l ∧ v2 = nI p
    · obtain ⟨p, hpl, rfl⟩ := hp
      refine dz_px1 rfl hw2 hl hl16 hpl (br_f (by decide) ?_)
      by_cases hs : ∃ c, c < 8 ∧ v3 = nI c
      · obtain ⟨c, hc, rfl⟩ := hs
        refine dz_sx1 hc (br_f (by decide) ?_)
        have i3 : vp_in (nI (16 * w + p)) 32 := vp_in_nI (by omega) (by omega)
        have c3 : (nI (16 * w + p)).toNatClampNeg = 16 * w + p := nI_clamp (by omega)
        have q1 : nI w * 16 + nI p = nI (16 * w + p) := by
          rw [ds_m16, nI_add]
          exact congrArg nI (by omega)
        have q2 : 16 * nI w + nI p = nI (16 * w + p) := by rw [ds_16m, nI_add]
        refine ⟨by rw [q1]; exact i3, ?_⟩
        intro a ea
        rw [q1, c3] at ea
        subst ea
        unfold wpY_change
        refine dz_ty1 hw (br_f (by decide) (br_f (nI_pos (by omega)) ⟨i2, ?_⟩))
        refine pk_le l p (fun z => absurd z (by omega)) (fun _ => br_f (nI_pos (by omega)) ?_) q3
        refine pk_le c 7 (fun _ => ⟨by rw [q2]; exact i3, ?_⟩) (fun z => absurd z (by omega))
        intro a ea
        rw [q2, c3] at ea
        subst ea
        exact ⟨rfl, dz_rel (ds_G_put G (16 * w + p) c hc)⟩
      · refine dz_sx0 hs (br_t rfl ?_)
        unfold wpY_change
        refine dz_ty1 hw (br_f (by decide) (br_f (nI_pos (by omega)) ⟨i2, ?_⟩))
        refine pk_le l p (fun z => absurd z (by omega)) (fun _ => br_c (fun _ => ⟨rfl, dz_rel G⟩) (fun h0 => ?_)) q3
        obtain ⟨c, hc, rfl⟩ := nI_of h0
        exact pk_le c 7 (fun z => absurd ⟨c, by omega, rfl⟩ hs) (fun _ => ⟨rfl, dz_rel G⟩)
    · refine dz_px0 rfl hw2 hl hl16 hp (br_t rfl ?_)
      unfold wpY_change
      refine dz_ty1 hw (br_f (by decide) (br_c (fun _ => ⟨rfl, dz_rel G⟩) (fun h0 => ⟨i2, ?_⟩)))
      obtain ⟨p, hp2, rfl⟩ := nI_of h0
      exact pk_le l p (fun _ => ⟨rfl, dz_rel G⟩) (fun z => absurd ⟨p, z, rfl⟩ hp) q3
  · refine dz_tx0 hw (br_t rfl ?_)
    unfold wpY_change
    exact dz_ty0 hw (br_t rfl ⟨rfl, dz_rel G⟩)
theorem i_vc_swap {k : Nat} {u : SX} {v : SY} (I : i_Rel k u v) (hk : k + 4 ≤ 2048) : wpX_swap (fun u' => wpY_swap (fun v' => i_Rel (k + 4) u' v') v) u := by
  obtain ⟨pc, sc, sy, le, ro, po, pn, sk, ss⟩ := u
  obtain ⟨mn, le', sy', hd, tl, ol, nw, sp⟩ := v
  obtain ⟨e1, e2, g, A, B, G0⟩ := I
  have f1 : le = le' := e1.symm
  have f2 : sy = sy' := e2.symm
  have G : ds_G sy le g A B := G0
  clear e1 e2 G0
  subst f1
  subst f2
  have hA := G.2.2.2.2.1
  have hB := G.2.2.2.2.2
  obtain ⟨g', G'⟩ := dz_sw_G 16 0 sy g G
  refine ⟨17, dz_swx 16 17 0 sy rfl (by omega) ?_⟩
  exact ⟨17, dz_swy 16 17 0 sy rfl (by omega) (dz_rel (dz_swl G'))⟩
theorem i_vc_length {k : Nat} {u : SX} {v : SY} (I : i_Rel k u v) (hk : k + 4 ≤ 2048) (v1 : Int32) : wpX_length (fun r => wpY_length (fun r' => r' = r ∧ i_Rel (k + 4) u v) v v1) u v1 := by
  obtain ⟨pc, sc, sy, le, ro, po, pn, sk, ss⟩ := u
  obtain ⟨mn, le', sy', hd, tl, ol, nw, sp⟩ := v
  obtain ⟨e1, e2, g, A, B, G0⟩ := I
  have f1 : le = le' := e1.symm
  have f2 : sy = sy' := e2.symm
  have G : ds_G sy le g A B := G0
  clear e1 e2 G0
  subst f1
  subst f2
  have hA := G.2.2.2.2.1
  have hB := G.2.2.2.2.2
  unfold wpX_length
  by_cases hw : v1 = 0 ∨ v1 = 1
  · refine dz_tx1 hw (br_f (by decide) ?_)
    obtain ⟨w, hw2, rfl⟩ := dz_w hw
    obtain ⟨l, hl, hl16, hG⟩ := dz_len G hw2
    have c1 : (nI w).toNatClampNeg = w := nI_clamp (by omega)
    have i2 : vp_in (nI w) 2 := vp_in_nI hw2 (by omega)
    refine ⟨i2, ?_⟩
    unfold wpY_length
    exact dz_ty1 hw (br_f (by decide) ⟨i2, rfl, dz_rel G⟩)
  · refine dz_tx0 hw (br_t rfl ?_)
    unfold wpY_length
    exact dz_ty0 hw (br_t rfl ⟨rfl, dz_rel G⟩)
theorem i_vc_common {k : Nat} {u : SX} {v : SY} (I : i_Rel k u v) (hk : k + 4 ≤ 2048) : wpX_common (fun r u' => wpY_common (fun r' v' => r' = r ∧ i_Rel (k + 4) u' v') v) u := by
  obtain ⟨pc, sc, sy, le, ro, po, pn, sk, ss⟩ := u
  obtain ⟨mn, le', sy', hd, tl, ol, nw, sp⟩ := v
  obtain ⟨e1, e2, g, A, B, G0⟩ := I
  have f1 : le = le' := e1.symm
  have f2 : sy = sy' := e2.symm
  have G : ds_G sy le g A B := G0
  clear e1 e2 G0
  subst f1
  subst f2
  have hA := G.2.2.2.2.1
  have hB := G.2.2.2.2.2
  unfold wpX_common
  refine dx_most G (i0 := 0) (j0 := 0) rfl G.2.2.1 rfl G.2.2.2.1 (Nat.zero_le _) hA (Nat.zero_le _) hB (fun ro' => ?_)
  unfold wpY_common
  exact dy_work G (fun hd' tl' H T => ⟨T 0 0 (Nat.le_refl _) (Nat.zero_le _) (Nat.zero_le _), dz_rel G⟩)
theorem i_vc_commonUpTo {k : Nat} {u : SX} {v : SY} (I : i_Rel k u v) (hk : k + 4 ≤ 2048) (v1 : Int32) (v2 : Int32) : wpX_commonUpTo (fun r u' => wpY_commonUpTo (fun r' v' => r' = r ∧ i_Rel (k + 4) u' v') v v1 v2) u v1 v2 := by
  obtain ⟨pc, sc, sy, le, ro, po, pn, sk, ss⟩ := u
  obtain ⟨mn, le', sy', hd, tl, ol, nw, sp⟩ := v
  obtain ⟨e1, e2, g, A, B, G0⟩ := I
  have f1 : le = le' := e1.symm
  have f2 : sy = sy' := e2.symm
  have G : ds_G sy le g A B := G0
  clear e1 e2 G0
  subst f1
  subst f2
  have hA := G.2.2.2.2.1
  have hB := G.2.2.2.2.2
  unfold wpX_commonUpTo
  by_cases h1 : ∃ i, i ≤ A ∧ v1 = nI i
  · obtain ⟨i, hi, rfl⟩ := h1
    refine dz_bx1 (w := 0) rfl (by omega) G.2.2.1 hA hi (br_f (by decide) ?_)
    by_cases h2 : ∃ j, j ≤ B ∧ v2 = nI j
    · obtain ⟨j, hj, rfl⟩ := h2
      refine dz_bx1 (w := 1) rfl (by omega) G.2.2.2.1 hB hj (br_f (by decide) ?_)
      refine dx_most G (i0 := 0) (j0 := 0) rfl rfl rfl rfl (Nat.zero_le _) (by omega) (Nat.zero_le _) (by omega) (fun ro' => ?_)
      unfold wpY_commonUpTo
      refine dy_work G (fun hd' tl' H T => ?_)
      have hz : 17 * nI i + nI j = nI (17 * i + j) := by rw [ds_17m, nI_add]
      refine dz_pl1 G.2.2.1 G.2.2.2.1 hA hB hi hj (br_f (by decide) ⟨pk_in (17 * i + j) 289 (by omega) hz, ?_⟩)
      exact ⟨by rw [hz, nI_clamp (by omega), H i j hi hj], dz_rel G⟩
    · refine dz_bx0 (w := 1) rfl (by omega) G.2.2.2.1 hB h2 (br_t rfl ?_)
      unfold wpY_commonUpTo
      refine dy_work G (fun hd' tl' H T => ?_)
      exact dz_pl0 G.2.2.1 G.2.2.2.1 hA hB (fun _ => h2) (br_t rfl ⟨rfl, dz_rel G⟩)
  · refine dz_bx0 (w := 0) rfl (by omega) G.2.2.1 hA h1 (br_t rfl ?_)
    unfold wpY_commonUpTo
    refine dy_work G (fun hd' tl' H T => ?_)
    exact dz_pl0 G.2.2.1 G.2.2.2.1 hA hB (fun z => absurd z h1) (br_t rfl ⟨rfl, dz_rel G⟩)
theorem i_vc_commonFrom {k : Nat} {u : SX} {v : SY} (I : i_Rel k u v) (hk : k + 4 ≤ 2048) (v1 : Int32) (v2 : Int32) : wpX_commonFrom (fun r u' => wpY_commonFrom (fun r' v' => r' = r ∧ i_Rel (k + 4) u' v') v v1 v2) u v1 v2 := by
  obtain ⟨pc, sc, sy, le, ro, po, pn, sk, ss⟩ := u
  obtain ⟨mn, le', sy', hd, tl, ol, nw, sp⟩ := v
  obtain ⟨e1, e2, g, A, B, G0⟩ := I
  have f1 : le = le' := e1.symm
  have f2 : sy = sy' := e2.symm
  have G : ds_G sy le g A B := G0
  clear e1 e2 G0
  subst f1
  subst f2
  have hA := G.2.2.2.2.1
  have hB := G.2.2.2.2.2
  unfold wpX_commonFrom
  by_cases h1 : ∃ i, i ≤ A ∧ v1 = nI i
  · obtain ⟨i, hi, rfl⟩ := h1
    refine dz_bx1 (w := 0) rfl (by omega) G.2.2.1 hA hi (br_f (by decide) ?_)
    by_cases h2 : ∃ j, j ≤ B ∧ v2 = nI j
    · obtain ⟨j, hj, rfl⟩ := h2
      refine dz_bx1 (w := 1) rfl (by omega) G.2.2.2.1 hB hj (br_f (by decide) ?_)
      refine dx_most G rfl G.2.2.1 rfl G.2.2.2.1 hi hA hj hB (fun ro' => ?_)
      unfold wpY_commonFrom
      refine dy_work G (fun hd' tl' H T => ?_)
      have hz : 17 * nI i + nI j = nI (17 * i + j) := by rw [ds_17m, nI_add]
      refine dz_pl1 G.2.2.1 G.2.2.2.1 hA hB hi hj (br_f (by decide) ⟨pk_in (17 * i + j) 289 (by omega) hz, ?_⟩)
      exact ⟨by rw [hz, nI_clamp (by omega), T i j (Nat.zero_le _) hi hj], dz_rel G⟩
    · refine dz_bx0 (w := 1) rfl (by omega) G.2.2.2.1 hB h2 (br_t rfl ?_)
      unfold wpY_commonFrom
      refine dy_work G (fun hd' tl' H T => ?_)
      exact dz_pl0 G.2.2.1 G.2.2.2.1 hA hB (fun _ => h2) (br_t rfl ⟨rfl, dz_rel G⟩)
  · refine dz_bx0 (w := 0) rfl (by omega) G.2.2.1 hA h1 (br_t rfl ?_)
    unfold wpY_commonFrom
    refine dy_work G (fun hd' tl' H T => ?_)
    exact dz_pl0 G.2.2.1 G.2.2.2.1 hA hB (fun z => absurd z h1) (br_t rfl ⟨rfl, dz_rel G⟩)
theorem i_vc_oldAt {k : Nat} {u : SX} {v : SY} (I : i_Rel k u v) (hk : k + 4 ≤ 2048) (v1 : Int32) : wpX_oldAt (fun r u' => wpY_oldAt (fun r' v' => r' = r ∧ i_Rel (k + 4) u' v') v v1) u v1 := by
  obtain ⟨pc, sc, sy, le, ro, po, pn, sk, ss⟩ := u
  obtain ⟨mn, le', sy', hd, tl, ol, nw, sp⟩ := v
  obtain ⟨e1, e2, g, A, B, G0⟩ := I
  have f1 : le = le' := e1.symm
  have f2 : sy = sy' := e2.symm
  have G : ds_G sy le g A B := G0
  clear e1 e2 G0
  subst f1
  subst f2
  have hA := G.2.2.2.2.1
  have hB := G.2.2.2.2.2
  unfold wpX_oldAt
  have hn := dq_L_le (dq_E g) 0 0 A B
  refine dx_list G (fun ro' po' pn' hp => ?_)
  by_cases h0 : v1 < 0
  · refine br_t h0 ?_
    unfold wpY_oldAt
    exact dy_list G (fun hd' tl' ol' nw' T hq => br_t h0 ⟨rfl, dz_rel G⟩)
  · refine br_f h0 ?_
    obtain ⟨k, hk, rfl⟩ := nI_of h0
    refine pk_le (dq_L (dq_E g) 0 0 A B) k (fun h => ?_) (fun h => ⟨vp_in_nI (by omega) (by omega), ?_⟩)
    · unfold wpY_oldAt
      refine dy_list G (fun hd' tl' ol' nw' T hq => br_f h0 ?_)
      exact pk_lt k (dq_L (dq_E g) 0 0 A B) (fun z => absurd z (by omega)) (fun _ => ⟨rfl, dz_rel G⟩) rfl (T 0 0 (Nat.le_refl _) (Nat.zero_le _) (Nat.zero_le _))
    · unfold wpY_oldAt
      refine dy_list G (fun hd' tl' ol' nw' T hq => br_f h0 ?_)
      refine pk_lt k (dq_L (dq_E g) 0 0 A B) (fun _ => ⟨vp_in_nI (by omega) (by omega), ?_⟩) (fun z => absurd z (by omega)) rfl (T 0 0 (Nat.le_refl _) (Nat.zero_le _) (Nat.zero_le _))
      exact ⟨by rw [nI_clamp (by omega), (hp k h).1, (hq k h).1], dz_rel G⟩
theorem i_vc_newAt {k : Nat} {u : SX} {v : SY} (I : i_Rel k u v) (hk : k + 4 ≤ 2048) (v1 : Int32) : wpX_newAt (fun r u' => wpY_newAt (fun r' v' => r' = r ∧ i_Rel (k + 4) u' v') v v1) u v1 := by
  obtain ⟨pc, sc, sy, le, ro, po, pn, sk, ss⟩ := u
  obtain ⟨mn, le', sy', hd, tl, ol, nw, sp⟩ := v
  obtain ⟨e1, e2, g, A, B, G0⟩ := I
  have f1 : le = le' := e1.symm
  have f2 : sy = sy' := e2.symm
  have G : ds_G sy le g A B := G0
  clear e1 e2 G0
  subst f1
  subst f2
  have hA := G.2.2.2.2.1
  have hB := G.2.2.2.2.2
  unfold wpX_newAt
  have hn := dq_L_le (dq_E g) 0 0 A B
  refine dx_list G (fun ro' po' pn' hp => ?_)
  by_cases h0 : v1 < 0
  · refine br_t h0 ?_
    unfold wpY_newAt
    exact dy_list G (fun hd' tl' ol' nw' T hq => br_t h0 ⟨rfl, dz_rel G⟩)
  · refine br_f h0 ?_
    obtain ⟨k, hk, rfl⟩ := nI_of h0
    refine pk_le (dq_L (dq_E g) 0 0 A B) k (fun h => ?_) (fun h => ⟨vp_in_nI (by omega) (by omega), ?_⟩)
    · unfold wpY_newAt
      refine dy_list G (fun hd' tl' ol' nw' T hq => br_f h0 ?_)
      exact pk_lt k (dq_L (dq_E g) 0 0 A B) (fun z => absurd z (by omega)) (fun _ => ⟨rfl, dz_rel G⟩) rfl (T 0 0 (Nat.le_refl _) (Nat.zero_le _) (Nat.zero_le _))
    · unfold wpY_newAt
      refine dy_list G (fun hd' tl' ol' nw' T hq => br_f h0 ?_)
      refine pk_lt k (dq_L (dq_E g) 0 0 A B) (fun _ => ⟨vp_in_nI (by omega) (by omega), ?_⟩) (fun z => absurd z (by omega)) rfl (T 0 0 (Nat.le_refl _) (Nat.zero_le _) (Nat.zero_le _))
      exact ⟨by rw [nI_clamp (by omega), (hp k h).2, (hq k h).2], dz_rel G⟩
theorem i_vc_steps {k : Nat} {u : SX} {v : SY} (I : i_Rel k u v) (hk : k + 4 ≤ 2048) : wpX_steps (fun r u' => wpY_steps (fun r' v' => r' = r ∧ i_Rel (k + 4) u' v') v) u := by
  obtain ⟨pc, sc, sy, le, ro, po, pn, sk, ss⟩ := u
  obtain ⟨mn, le', sy', hd, tl, ol, nw, sp⟩ := v
  obtain ⟨e1, e2, g, A, B, G0⟩ := I
  have f1 : le = le' := e1.symm
  have f2 : sy = sy' := e2.symm
  have G : ds_G sy le g A B := G0
  clear e1 e2 G0
  subst f1
  subst f2
  have hA := G.2.2.2.2.1
  have hB := G.2.2.2.2.2
  unfold wpX_steps
  refine dx_script G (fun ro' po' pn' sk' ss' h => ?_)
  unfold wpY_steps
  exact dy_write G (fun hd' tl' ol' nw' sp' h' => ⟨rfl, dz_rel G⟩)
theorem i_vc_step {k : Nat} {u : SX} {v : SY} (I : i_Rel k u v) (hk : k + 4 ≤ 2048) (v1 : Int32) : wpX_step (fun r u' => wpY_step (fun r' v' => r' = r ∧ i_Rel (k + 4) u' v') v v1) u v1 := by
  obtain ⟨pc, sc, sy, le, ro, po, pn, sk, ss⟩ := u
  obtain ⟨mn, le', sy', hd, tl, ol, nw, sp⟩ := v
  obtain ⟨e1, e2, g, A, B, G0⟩ := I
  have f1 : le = le' := e1.symm
  have f2 : sy = sy' := e2.symm
  have G : ds_G sy le g A B := G0
  clear e1 e2 G0
  subst f1
  subst f2
  have hA := G.2.2.2.2.1
  have hB := G.2.2.2.2.2
  unfold wpX_step
  have hf := dz_fs G
  refine dx_script G (fun ro' po' pn' sk' ss' h => ?_)
  by_cases h0 : v1 < 0
  · refine br_t h0 ?_
    unfold wpY_step
    exact dy_write G (fun hd' tl' ol' nw' sp' h' => br_t h0 ⟨rfl, dz_rel G⟩)
  · refine br_f h0 ?_
    obtain ⟨k, hk, rfl⟩ := nI_of h0
    refine pk_le (dq_fs g A B).1 k (fun hl => ?_) (fun hl => ⟨vp_in_nI (by omega) (by omega), ?_⟩)
    · unfold wpY_step
      refine dy_write G (fun hd' tl' ol' nw' sp' h' => br_f h0 ?_)
      exact pk_lt k (dq_fs g A B).1 (fun z => absurd z (by omega)) (fun _ => ⟨rfl, dz_rel G⟩)
    · unfold wpY_step
      refine dy_write G (fun hd' tl' ol' nw' sp' h' => br_f h0 ?_)
      refine pk_lt k (dq_fs g A B).1 (fun _ => ⟨vp_in_nI (by omega) (by omega), by decide, ?_⟩) (fun z => absurd z (by omega))
      have hb := (h' k hl).2
      exact ⟨by rw [nI_clamp (by omega), (h k hl).1, (h' k hl).1, dz_rem (by omega)], dz_rel G⟩
theorem i_vc_stepSymbol {k : Nat} {u : SX} {v : SY} (I : i_Rel k u v) (hk : k + 4 ≤ 2048) (v1 : Int32) : wpX_stepSymbol (fun r u' => wpY_stepSymbol (fun r' v' => r' = r ∧ i_Rel (k + 4) u' v') v v1) u v1 := by
  obtain ⟨pc, sc, sy, le, ro, po, pn, sk, ss⟩ := u
  obtain ⟨mn, le', sy', hd, tl, ol, nw, sp⟩ := v
  obtain ⟨e1, e2, g, A, B, G0⟩ := I
  have f1 : le = le' := e1.symm
  have f2 : sy = sy' := e2.symm
  have G : ds_G sy le g A B := G0
  clear e1 e2 G0
  subst f1
  subst f2
  have hA := G.2.2.2.2.1
  have hB := G.2.2.2.2.2
  unfold wpX_stepSymbol
  have hf := dz_fs G
  refine dx_script G (fun ro' po' pn' sk' ss' h => ?_)
  by_cases h0 : v1 < 0
  · refine br_t h0 ?_
    unfold wpY_stepSymbol
    exact dy_write G (fun hd' tl' ol' nw' sp' h' => br_t h0 ⟨rfl, dz_rel G⟩)
  · refine br_f h0 ?_
    obtain ⟨k, hk, rfl⟩ := nI_of h0
    refine pk_le (dq_fs g A B).1 k (fun hl => ?_) (fun hl => ⟨vp_in_nI (by omega) (by omega), ?_⟩)
    · unfold wpY_stepSymbol
      refine dy_write G (fun hd' tl' ol' nw' sp' h' => br_f h0 ?_)
      exact pk_lt k (dq_fs g A B).1 (fun z => absurd z (by omega)) (fun _ => ⟨rfl, dz_rel G⟩)
    · unfold wpY_stepSymbol
      refine dy_write G (fun hd' tl' ol' nw' sp' h' => br_f h0 ?_)
      refine pk_lt k (dq_fs g A B).1 (fun _ => ⟨vp_in_nI (by omega) (by omega), by decide, ?_⟩) (fun z => absurd z (by omega))
      have hb := (h' k hl).2
      exact ⟨by rw [nI_clamp (by omega), (h k hl).2, (h' k hl).1, dz_div (by omega)], dz_rel G⟩
theorem i_vc_possible {k : Nat} {u : SX} {v : SY} (I : i_Rel k u v) (hk : k + 4 ≤ 2048) (v1 : Int32) (v2 : Int32) : wpX_possible (fun r u' => wpY_possible (fun r' v' => r' = r ∧ i_Rel (k + 4) u' v') v v1 v2) u v1 v2 := by
  obtain ⟨pc, sc, sy, le, ro, po, pn, sk, ss⟩ := u
  obtain ⟨mn, le', sy', hd, tl, ol, nw, sp⟩ := v
  obtain ⟨e1, e2, g, A, B, G0⟩ := I
  have f1 : le = le' := e1.symm
  have f2 : sy = sy' := e2.symm
  have G : ds_G sy le g A B := G0
  clear e1 e2 G0
  subst f1
  subst f2
  have hA := G.2.2.2.2.1
  have hB := G.2.2.2.2.2
  unfold wpX_possible
  by_cases h1 : ∃ i, i < A ∧ v1 = nI i
  · obtain ⟨i, hi, rfl⟩ := h1
    refine dz_px1 (w := 0) rfl (by omega) G.2.2.1 hA hi (br_f (by decide) ?_)
    by_cases h2 : ∃ j, j < B ∧ v2 = nI j
    · obtain ⟨j, hj, rfl⟩ := h2
      refine dz_px1 (w := 1) rfl (by omega) G.2.2.2.1 hB hj (br_f (by decide) ?_)
      have c1 : (nI i).toNatClampNeg = i := nI_clamp (by omega)
      have c2 : (16 + nI j).toNatClampNeg = 16 + j := by rw [ds_16p, nI_clamp (by omega)]
      refine ⟨vp_in_nI (by omega) (by omega), pk_in (16 + j) 32 (by omega) (ds_16p j), ?_⟩
      by_cases he : dq_E g i j
      · refine br_t (by rw [c1, c2]; exact (ds_E G i j).mpr he) ?_
        refine dx_most G (i0 := 0) (j0 := 0) rfl rfl rfl rfl (Nat.zero_le _) (by omega) (Nat.zero_le _) (by omega) (fun ro1 => ?_)
        refine dx_most G (nI_1 i) G.2.2.1 (nI_1 j) G.2.2.2.1 (by omega) hA (by omega) hB (fun ro2 => ?_)
        unfold wpX_common
        refine dx_most G (i0 := 0) (j0 := 0) rfl G.2.2.1 rfl G.2.2.2.1 (Nat.zero_le _) hA (Nat.zero_le _) hB (fun ro3 => ?_)
        have hz : 17 * nI i + nI j = nI (17 * i + j) := by rw [ds_17m, nI_add]
        have hq : 17 * nI i + nI j + 18 = nI (17 * (i + 1) + (j + 1)) := by
          rw [hz, ds_p18]
          exact congrArg nI (by omega)
        refine br_c (fun hx => ?_) (fun hx => ?_)
        · unfold wpY_possible
          refine dy_work G (fun hd' tl' H T => br_f (nI_pos (by omega)) ?_)
          refine pk_le A i (fun z => absurd z (by omega)) (fun _ => br_f (nI_pos (by omega)) ?_) G.2.2.1
          refine pk_le B j (fun z => absurd z (by omega)) (fun _ => ?_) G.2.2.2.1
          refine dy_same1 G rfl rfl (by omega) (by omega) he (br_f (by decide) ⟨pk_in (17 * i + j) 289 (by omega) hz, pk_in (17 * (i + 1) + (j + 1)) 289 (by omega) hq, ?_⟩)
          refine br_t ?_ ⟨rfl, dz_rel G⟩
          rw [hq, hz, nI_clamp (by omega), nI_clamp (by omega), H i j (by omega) (by omega), T (i + 1) (j + 1) (Nat.zero_le _) (by omega) (by omega), show tl' 0 = nI (dq_L (dq_E g) 0 0 A B) from T 0 0 (Nat.le_refl _) (Nat.zero_le _) (Nat.zero_le _)]
          exact hx
        · unfold wpY_possible
          refine dy_work G (fun hd' tl' H T => br_f (nI_pos (by omega)) ?_)
          refine pk_le A i (fun z => absurd z (by omega)) (fun _ => br_f (nI_pos (by omega)) ?_) G.2.2.1
          refine pk_le B j (fun z => absurd z (by omega)) (fun _ => ?_) G.2.2.2.1
          refine dy_same1 G rfl rfl (by omega) (by omega) he (br_f (by decide) ⟨pk_in (17 * i + j) 289 (by omega) hz, pk_in (17 * (i + 1) + (j + 1)) 289 (by omega) hq, ?_⟩)
          refine br_f ?_ ⟨rfl, dz_rel G⟩
          rw [hq, hz, nI_clamp (by omega), nI_clamp (by omega), H i j (by omega) (by omega), T (i + 1) (j + 1) (Nat.zero_le _) (by omega) (by omega), show tl' 0 = nI (dq_L (dq_E g) 0 0 A B) from T 0 0 (Nat.le_refl _) (Nat.zero_le _) (Nat.zero_le _)]
          exact hx
      · refine br_f (by rw [c1, c2]; exact fun z => he ((ds_E G i j).mp z)) ?_
        unfold wpY_possible
        refine dy_work G (fun hd' tl' H T => br_f (nI_pos (by omega)) ?_)
        refine pk_le A i (fun z => absurd z (by omega)) (fun _ => br_f (nI_pos (by omega)) ?_) G.2.2.1
        refine pk_le B j (fun z => absurd z (by omega)) (fun _ => ?_) G.2.2.2.1
        exact dy_same0 G rfl rfl (by omega) (by omega) he (br_t rfl ⟨rfl, dz_rel G⟩)
    · refine dz_px0 (w := 1) rfl (by omega) G.2.2.2.1 hB h2 (br_t rfl ?_)
      unfold wpY_possible
      refine dy_work G (fun hd' tl' H T => br_f (nI_pos (by omega)) ?_)
      refine pk_le A i (fun z => absurd z (by omega)) (fun _ => br_c (fun _ => ⟨rfl, dz_rel G⟩) (fun z0 => ?_)) G.2.2.1
      obtain ⟨j, hj, rfl⟩ := nI_of z0
      exact pk_le B j (fun _ => ⟨rfl, dz_rel G⟩) (fun z => absurd ⟨j, z, rfl⟩ h2) G.2.2.2.1
  · refine dz_px0 (w := 0) rfl (by omega) G.2.2.1 hA h1 (br_t rfl ?_)
    unfold wpY_possible
    refine dy_work G (fun hd' tl' H T => br_c (fun _ => ⟨rfl, dz_rel G⟩) (fun z0 => ?_))
    obtain ⟨i, hi, rfl⟩ := nI_of z0
    exact pk_le A i (fun _ => ⟨rfl, dz_rel G⟩) (fun z => absurd ⟨i, z, rfl⟩ h1) G.2.2.1
theorem i_vc_contained {k : Nat} {u : SX} {v : SY} (I : i_Rel k u v) (hk : k + 4 ≤ 2048) (v1 : Int32) : wpX_contained (fun r u' => wpY_contained (fun r' v' => r' = r ∧ i_Rel (k + 4) u' v') v v1) u v1 := by
  obtain ⟨pc, sc, sy, le, ro, po, pn, sk, ss⟩ := u
  obtain ⟨mn, le', sy', hd, tl, ol, nw, sp⟩ := v
  obtain ⟨e1, e2, g, A, B, G0⟩ := I
  have f1 : le = le' := e1.symm
  have f2 : sy = sy' := e2.symm
  have G : ds_G sy le g A B := G0
  clear e1 e2 G0
  subst f1
  subst f2
  have hA := G.2.2.2.2.1
  have hB := G.2.2.2.2.2
  unfold wpX_contained
  by_cases hw : v1 = 0 ∨ v1 = 1
  · refine dz_tx1 hw (br_f (by decide) ?_)
    obtain ⟨w, hw2, rfl⟩ := dz_w hw
    obtain ⟨l, hl, hl16, hG⟩ := dz_len G hw2
    have c1 : (nI w).toNatClampNeg = w := nI_clamp (by omega)
    have i2 : vp_in (nI w) 2 := vp_in_nI hw2 (by omega)
    unfold wpX_common
    refine dx_most G (i0 := 0) (j0 := 0) rfl G.2.2.1 rfl G.2.2.2.1 (Nat.zero_le _) hA (Nat.zero_le _) hB (fun ro' => ⟨i2, ?_⟩)
    refine br_c (fun hx => ?_) (fun hx => ?_)
    · unfold wpY_contained
      refine dy_work G (fun hd' tl' H T => dz_ty1 hw (br_f (by decide) ⟨i2, br_t ?_ ⟨rfl, dz_rel G⟩⟩))
      rw [show tl' 0 = nI (dq_L (dq_E g) 0 0 A B) from T 0 0 (Nat.le_refl _) (Nat.zero_le _) (Nat.zero_le _)]
      exact hx
    · unfold wpY_contained
      refine dy_work G (fun hd' tl' H T => dz_ty1 hw (br_f (by decide) ⟨i2, br_f ?_ ⟨rfl, dz_rel G⟩⟩))
      rw [show tl' 0 = nI (dq_L (dq_E g) 0 0 A B) from T 0 0 (Nat.le_refl _) (Nat.zero_le _) (Nat.zero_le _)]
      exact hx
  · refine dz_tx0 hw (br_t rfl ?_)
    unfold wpY_contained
    exact dy_work G (fun hd' tl' H T => dz_ty0 hw (br_t rfl ⟨rfl, dz_rel G⟩))
theorem i_vc_distance {k : Nat} {u : SX} {v : SY} (I : i_Rel k u v) (hk : k + 4 ≤ 2048) : wpX_distance (fun r u' => wpY_distance (fun r' v' => r' = r ∧ i_Rel (k + 4) u' v') v) u := by
  obtain ⟨pc, sc, sy, le, ro, po, pn, sk, ss⟩ := u
  obtain ⟨mn, le', sy', hd, tl, ol, nw, sp⟩ := v
  obtain ⟨e1, e2, g, A, B, G0⟩ := I
  have f1 : le = le' := e1.symm
  have f2 : sy = sy' := e2.symm
  have G : ds_G sy le g A B := G0
  clear e1 e2 G0
  subst f1
  subst f2
  have hA := G.2.2.2.2.1
  have hB := G.2.2.2.2.2
  unfold wpX_distance
  unfold wpX_common
  refine dx_most G (i0 := 0) (j0 := 0) rfl G.2.2.1 rfl G.2.2.2.1 (Nat.zero_le _) hA (Nat.zero_le _) hB (fun ro' => ?_)
  unfold wpY_distance
  refine dy_work G (fun hd' tl' H T => ⟨?_, dz_rel G⟩)
  rw [show tl' 0 = nI (dq_L (dq_E g) 0 0 A B) from T 0 0 (Nat.le_refl _) (Nat.zero_le _) (Nat.zero_le _)]
