/-! Y: same, max, work -/
theorem dy_same1 {post : Int32 → Prop} {mn : Int32} {sy le hd tl ol nw sp : Nat → Int32} {g : Nat → Nat} {A B : Nat} (G : ds_G sy le g A B) {i j : Nat} {a b : Int32} (ha : a = nI i) (hb : b = nI j) (hi : i < 16) (hj : j < 16) (he : dq_E g i j) (K : post 1) : wpY_same post (mn, le, sy, hd, tl, ol, nw, sp) a b := by
  subst ha hb
  have c1 : (nI i).toNatClampNeg = i := nI_clamp (by omega)
  have c2 : (16 + nI j).toNatClampNeg = 16 + j := by rw [ds_16p, nI_clamp (by omega)]
  refine ⟨vp_in_nI (by omega) (by omega), pk_in (16 + j) 32 (by omega) (ds_16p j), ?_⟩
  exact br_t (by rw [c1, c2]; exact (ds_E G i j).mpr he) K
theorem dy_same0 {post : Int32 → Prop} {mn : Int32} {sy le hd tl ol nw sp : Nat → Int32} {g : Nat → Nat} {A B : Nat} (G : ds_G sy le g A B) {i j : Nat} {a b : Int32} (ha : a = nI i) (hb : b = nI j) (hi : i < 16) (hj : j < 16) (he : ¬ dq_E g i j) (K : post 0) : wpY_same post (mn, le, sy, hd, tl, ol, nw, sp) a b := by
  subst ha hb
  have c1 : (nI i).toNatClampNeg = i := nI_clamp (by omega)
  have c2 : (16 + nI j).toNatClampNeg = 16 + j := by rw [ds_16p, nI_clamp (by omega)]
  refine ⟨vp_in_nI (by omega) (by omega), pk_in (16 + j) 32 (by omega) (ds_16p j), ?_⟩
  exact br_f (by rw [c1, c2]; exact fun z => he ((ds_E G i j).mp z)) K
theorem dy_max {post : Int32 → Prop} {mn : Int32} {sy le hd tl ol nw sp : Nat → Int32} {a b : Int32} (x y : Nat) (ha : a = nI x) (hb : b = nI y) (hx : x < 2 ^ 31) (hy : y < 2 ^ 31) (K : ∀ m, (m = x ∨ m = y) → x ≤ m → y ≤ m → post (nI m)) : wpY_max post (mn, le, sy, hd, tl, ol, nw, sp) a b := by
  subst ha hb
  exact pk_le x y (fun h => K y (Or.inr rfl) h (Nat.le_refl _)) (fun h => K x (Or.inl rfl) (Nat.le_refl _) (by omega))
theorem dy_129 {post : SY → Prop} {J2 J14 : Int32 → (Nat → Int32) → (Nat → Int32) → (Nat → Int32) → (Nat → Int32) → (Nat → Int32) → (Nat → Int32) → (Nat → Int32) → Prop} {mn v z : Int32} {sy le hd tl ol nw sp : Nat → Int32} {e : Nat → Nat → Prop} {A B i j : Nat} (hA : A ≤ 16) (hB : B ≤ 16) (hi : i ≤ A) (hj : j ≤ B) (hz : z = nI (17 * i + j)) (hv : 0 < i → 0 < j → v = nI (dq_L e 0 0 i j)) (H : dr_H e A B i j hd)
    (K : ∀ hd', dr_H e A B i (j + 1) hd' → J14 (nI (j + 1)) le sy hd' tl ol nw sp) : wY_work_129 post J2 J14 (nI i) (nI j) v z mn le sy hd tl ol nw sp := by
  subst hz
  have c : (nI (17 * i + j)).toNatClampNeg = 17 * i + j := nI_clamp (by omega)
  have I : vp_in (nI (17 * i + j)) 289 := vp_in_nI (by omega) (by omega)
  refine pk_le i 0 (fun h => ⟨I, ?_⟩) (fun h => pk_le j 0 (fun h2 => ⟨I, ?_⟩) (fun h2 => ⟨I, ?_⟩))
  · intro r er y ey
    rw [c] at er
    rw [nI_1] at ey
    subst er ey
    exact K _ (dr_Hput hB hj H (by rw [dr_L0i e 0 0 i j (by omega), nI_0]))
  · intro r er y ey
    rw [c] at er
    rw [nI_1] at ey
    subst er ey
    exact K _ (dr_Hput hB hj H (by rw [dr_L0j e 0 0 i j (by omega), nI_0]))
  · intro r er y ey
    rw [c] at er
    rw [nI_1] at ey
    subst er ey
    exact K _ (dr_Hput hB hj H (hv h h2))
theorem dy_73 {post : SY → Prop} {J2 J14 : Int32 → (Nat → Int32) → (Nat → Int32) → (Nat → Int32) → (Nat → Int32) → (Nat → Int32) → (Nat → Int32) → (Nat → Int32) → Prop} {mn v : Int32} {sy le hd tl ol nw sp : Nat → Int32} {g : Nat → Nat} {A B i j : Nat} (G : ds_G sy le g A B) (hi : i ≤ A) (hj : j ≤ B) (hv : ∀ a b, i = a + 1 → j = b + 1 → ∃ m, v = nI m ∧ (m = dq_L (dq_E g) 0 0 a (b + 1) ∨ m = dq_L (dq_E g) 0 0 (a + 1) b) ∧ dq_L (dq_E g) 0 0 a (b + 1) ≤ m ∧ dq_L (dq_E g) 0 0 (a + 1) b ≤ m) (H : dr_H (dq_E g) A B i j hd)
    (K : ∀ hd', dr_H (dq_E g) A B i (j + 1) hd' → J14 (nI (j + 1)) le sy hd' tl ol nw sp) : wY_work_73 post J2 J14 (nI i) (nI j) v mn le sy hd tl ol nw sp := by
  have hA := G.2.2.2.2.1
  have hB := G.2.2.2.2.2
  have hz : 17 * nI i + nI j = nI (17 * i + j) := by rw [ds_17m, nI_add]
  refine pk_le i 0 (fun h => dy_129 hA hB hi hj hz (fun z => absurd z (by omega)) H K) (fun h => pk_le j 0 (fun h2 => dy_129 hA hB hi hj hz (fun _ z => absurd z (by omega)) H K) (fun h2 => ?_))
  obtain ⟨a, rfl⟩ : ∃ a, i = a + 1 := ⟨i - 1, by omega⟩
  obtain ⟨b, rfl⟩ : ∃ b, j = b + 1 := ⟨j - 1, by omega⟩
  obtain ⟨m, rfl, hm, h3, h4⟩ := hv a b rfl rfl
  have hx := dr_h_mx (dq_E g) hm h3 h4
  have b1 := dq_L_le (dq_E g) 0 0 a b
  have b2 := dq_L_le (dq_E g) 0 0 a (b + 1)
  have b3 := dq_L_le (dq_E g) 0 0 (a + 1) b
  by_cases he : dq_E g a b
  · refine dy_same1 G (nI_pred a) (nI_pred b) (by omega) (by omega) he ?_
    refine br_f (by decide) ?_
    have hq : 17 * nI (a + 1) + nI (b + 1) - 18 = nI (17 * a + b) := by
      rw [hz, ds_s18 (by omega)]
      exact congrArg nI (by omega)
    refine ⟨pk_in (17 * a + b) 289 (by omega) hq, ?_⟩
    refine dy_max m (dq_L (dq_E g) 0 0 a b + 1) rfl (by rw [hq, nI_clamp (by omega), H a b (by omega) (by omega) (Or.inl (by omega)), nI_1]) (by omega) (by omega) (fun w hw h5 h6 => ?_)
    refine ⟨pk_in (17 * (a + 1) + (b + 1)) 289 (by omega) hz, ?_⟩
    intro r er y ey
    rw [hz, nI_clamp (by omega)] at er
    rw [nI_1] at ey
    subst er ey
    refine K _ (dr_Hput hB hj H (congrArg nI ?_))
    have hx1 := hx.1 he
    omega
  · refine dy_same0 G (nI_pred a) (nI_pred b) (by omega) (by omega) he ?_
    exact br_t rfl (dy_129 hA hB hi hj hz (fun _ _ => congrArg nI (hx.2 he).symm) H K)
theorem dy_46 {post : SY → Prop} {J2 J14 : Int32 → (Nat → Int32) → (Nat → Int32) → (Nat → Int32) → (Nat → Int32) → (Nat → Int32) → (Nat → Int32) → (Nat → Int32) → Prop} {mn v : Int32} {sy le hd tl ol nw sp : Nat → Int32} {g : Nat → Nat} {A B i j : Nat} (G : ds_G sy le g A B) (hi : i ≤ A) (hj : j ≤ B) (w : Nat) (hw : v = nI w) (hw2 : w ≤ 16) (hv : ∀ a, i = a + 1 → w = dq_L (dq_E g) 0 0 a j) (H : dr_H (dq_E g) A B i j hd)
    (K : ∀ hd', dr_H (dq_E g) A B i (j + 1) hd' → J14 (nI (j + 1)) le sy hd' tl ol nw sp) : wY_work_46 post J2 J14 (nI i) (nI j) v mn le sy hd tl ol nw sp := by
  have hA := G.2.2.2.2.1
  have hB := G.2.2.2.2.2
  subst hw
  have hz : 17 * nI i + nI j = nI (17 * i + j) := by rw [ds_17m, nI_add]
  refine pk_le j 0 (fun h => dy_73 G hi hj (fun a b _ z => absurd z (by omega)) H K) (fun h => ?_)
  obtain ⟨b, rfl⟩ : ∃ b, j = b + 1 := ⟨j - 1, by omega⟩
  have hq : 17 * nI i + nI (b + 1) - 1 = nI (17 * i + b) := by
    rw [hz, ds_s1 (by omega)]
    exact congrArg nI (by omega)
  have b3 := dq_L_le (dq_E g) 0 0 i b
  refine ⟨pk_in (17 * i + b) 289 (by omega) hq, ?_⟩
  refine dy_max w (dq_L (dq_E g) 0 0 i b) rfl (by rw [hq, nI_clamp (by omega), H i b hi (by omega) (Or.inr ⟨rfl, by omega⟩)]) (by omega) (by omega) (fun m hm h5 h6 => ?_)
  refine dy_73 G hi hj (fun a b' ea eb => ?_) H K
  have e1 : b = b' := by omega
  subst e1
  have e2 := hv a ea
  subst ea
  exact ⟨m, rfl, by omega, by omega, by omega⟩
theorem dy_14 {post : SY → Prop} {J2 : Int32 → (Nat → Int32) → (Nat → Int32) → (Nat → Int32) → (Nat → Int32) → (Nat → Int32) → (Nat → Int32) → (Nat → Int32) → Prop} {mn : Int32} {sy le tl ol nw sp : Nat → Int32} {g : Nat → Nat} {A B i : Nat} (G : ds_G sy le g A B) (hi : i ≤ A)
    (K : ∀ hd', dr_H (dq_E g) A B (i + 1) 0 hd' → J2 (nI (i + 1)) le sy hd' tl ol nw sp) : ∀ (d n j : Nat) (hd : Nat → Int32), j + d = B + 1 → d < n → dr_H (dq_E g) A B i j hd → wY_work_14 post J2 (nI i) mn n (nI j) le sy hd tl ol nw sp := by
  have hA := G.2.2.2.2.1
  have hB := G.2.2.2.2.2
  intro d
  induction d with
  | zero =>
    intro n j hd hj hn H
    obtain ⟨m, rfl⟩ : ∃ m, n = m + 1 := ⟨n - 1, by omega⟩
    have e : j = B + 1 := by omega
    subst e
    refine pk_lt B (B + 1) (fun _ => ?_) (fun h => absurd h (by omega)) G.2.2.2.1
    intro y ey
    rw [nI_1] at ey
    subst ey
    exact K hd (dr_Hrow H)
  | succ d ih =>
    intro n j hd hj hn H
    obtain ⟨m, rfl⟩ : ∃ m, n = m + 1 := ⟨n - 1, by omega⟩
    refine pk_lt B j (fun h => absurd h (by omega)) (fun _ => ?_) G.2.2.2.1
    have k : ∀ hd', dr_H (dq_E g) A B i (j + 1) hd' → wY_work_14 post J2 (nI i) mn m (nI (j + 1)) le sy hd' tl ol nw sp := fun hd' h' => ih m (j + 1) hd' (by omega) (by omega) h'
    refine pk_le i 0 (fun h => ?_) (fun h => ?_)
    · exact dy_46 G hi (by omega) 0 rfl (by omega) (fun a z => absurd z (by omega)) H k
    · obtain ⟨a, rfl⟩ : ∃ a, i = a + 1 := ⟨i - 1, by omega⟩
      have hq : 17 * nI (a + 1) - 17 + nI j = nI (17 * a + j) := by
        rw [ds_17m, ds_s17 (by omega), nI_add]
        exact congrArg nI (by omega)
      have b3 := dq_L_le (dq_E g) 0 0 a j
      refine ⟨pk_in (17 * a + j) 289 (by omega) hq, ?_⟩
      exact dy_46 G hi (by omega) (dq_L (dq_E g) 0 0 a j) (by rw [hq, nI_clamp (by omega), H a j (by omega) (by omega) (Or.inl (by omega))]) (by omega) (fun a' z => by rw [show a = a' by omega]) H k
/-- the finished tables -/
def dy_T (e : Nat → Nat → Prop) (A B m : Nat) (w : Nat → Int32) : Prop := ∀ i j, m ≤ i → i ≤ A → j ≤ B → w (17 * i + j) = nI (dq_L e i j A B)
def dy_H (e : Nat → Nat → Prop) (A B : Nat) (w : Nat → Int32) : Prop := ∀ i j, i ≤ A → j ≤ B → w (17 * i + j) = nI (dq_L e 0 0 i j)
theorem dy_242 {post : SY → Prop} {J162 J173 : Int32 → (Nat → Int32) → (Nat → Int32) → (Nat → Int32) → (Nat → Int32) → (Nat → Int32) → (Nat → Int32) → (Nat → Int32) → Prop} {mn : Int32} {sy le hd tl ol nw sp : Nat → Int32} {g : Nat → Nat} {A B i j m : Nat} (G : ds_G sy le g A B) (hi : i < A) (hj : j < B) (hm : m = dq_L (dq_E g) (i + 1) j A B ∨ m = dq_L (dq_E g) i (j + 1) A B) (h1 : dq_L (dq_E g) (i + 1) j A B ≤ m) (h2 : dq_L (dq_E g) i (j + 1) A B ≤ m) (H : dr_T (dq_E g) A B i (j + 1) tl)
    (K : ∀ tl', dr_T (dq_E g) A B i j tl' → J173 (nI j + (-1)) le sy hd tl' ol nw sp) : wY_work_242 post J162 J173 (nI i) (nI j) 1 (nI m) mn le sy hd tl ol nw sp := by
  have hA := G.2.2.2.2.1
  have hB := G.2.2.2.2.2
  have hz : 17 * nI i + nI j = nI (17 * i + j) := by rw [ds_17m, nI_add]
  have hx := dr_t_mx (dq_E g) hi hj hm h1 h2
  have b1 := dq_L_le (dq_E g) (i + 1) (j + 1) A B
  have b2 := dq_L_le (dq_E g) i (j + 1) A B
  have b3 := dq_L_le (dq_E g) (i + 1) j A B
  refine br_f (by decide) ?_
  by_cases he : dq_E g i j
  · refine dy_same1 G rfl rfl (by omega) (by omega) he ?_
    refine br_f (by decide) ?_
    have hq : 17 * nI i + nI j + 18 = nI (17 * (i + 1) + (j + 1)) := by
      rw [hz, ds_p18]
      exact congrArg nI (by omega)
    refine ⟨pk_in (17 * (i + 1) + (j + 1)) 289 (by omega) hq, ?_⟩
    refine dy_max m (dq_L (dq_E g) (i + 1) (j + 1) A B + 1) rfl (by rw [hq, nI_clamp (by omega), H (i + 1) (j + 1) (by omega) (by omega) (Or.inl (by omega)), nI_1]) (by omega) (by omega) (fun w hw h5 h6 => ?_)
    refine ⟨pk_in (17 * i + j) 289 (by omega) hz, ?_⟩
    intro r er y ey
    rw [hz, nI_clamp (by omega)] at er
    subst er ey
    refine K _ (dr_Tput hB (by omega) H (congrArg nI ?_))
    have hx1 := hx.1 he
    omega
  · refine dy_same0 G rfl rfl (by omega) (by omega) he ?_
    refine br_t rfl ⟨pk_in (17 * i + j) 289 (by omega) hz, ?_⟩
    intro r er y ey
    rw [hz, nI_clamp (by omega)] at er
    subst er ey
    exact K _ (dr_Tput hB (by omega) H (congrArg nI (hx.2 he).symm))
theorem dy_out {post : SY → Prop} {J162 J173 : Int32 → (Nat → Int32) → (Nat → Int32) → (Nat → Int32) → (Nat → Int32) → (Nat → Int32) → (Nat → Int32) → (Nat → Int32) → Prop} {mn : Int32} {sy le hd tl ol nw sp : Nat → Int32} {g : Nat → Nat} {A B i j : Nat} (G : ds_G sy le g A B) (hi : i ≤ A) (hj : j ≤ B) (ho : A ≤ i ∨ B ≤ j) (H : dr_T (dq_E g) A B i (j + 1) tl)
    (K : ∀ tl', dr_T (dq_E g) A B i j tl' → J173 (nI j + (-1)) le sy hd tl' ol nw sp) : wY_work_201 post J162 J173 (nI i) (nI j) mn le sy hd tl ol nw sp := by
  have hA := G.2.2.2.2.1
  have hB := G.2.2.2.2.2
  have hz : 17 * nI i + nI j = nI (17 * i + j) := by rw [ds_17m, nI_add]
  have b1 := dq_L_le (dq_E g) i j A B
  refine br_t (c := (0 : Int32) = 0) rfl ?_
  refine br_t (c := (0 : Int32) = 0) rfl ⟨pk_in (17 * i + j) 289 (by omega) hz, ?_⟩
  intro r er y ey
  rw [hz, nI_clamp (by omega)] at er
  subst er ey
  refine K _ (dr_Tput hB hj H ?_)
  rw [show dq_L (dq_E g) i j A B = 0 by omega, nI_0]
theorem dy_173 {post : SY → Prop} {J162 : Int32 → (Nat → Int32) → (Nat → Int32) → (Nat → Int32) → (Nat → Int32) → (Nat → Int32) → (Nat → Int32) → (Nat → Int32) → Prop} {mn : Int32} {sy le hd ol nw sp : Nat → Int32} {g : Nat → Nat} {A B i : Nat} (G : ds_G sy le g A B) (hi : i ≤ A)
    (K : ∀ tl', dr_T (dq_E g) A B i 0 tl' → J162 (nI i + (-1)) le sy hd tl' ol nw sp) : ∀ (l n : Nat) (tl : Nat → Int32), l ≤ B + 1 → l < n → dr_T (dq_E g) A B i l tl → wY_work_173 post J162 (nI i) mn n (nI l + (-1)) le sy hd tl ol nw sp := by
  have hA := G.2.2.2.2.1
  have hB := G.2.2.2.2.2
  intro l
  induction l with
  | zero =>
    intro n tl hl hn H
    obtain ⟨m, rfl⟩ : ∃ m, n = m + 1 := ⟨n - 1, by omega⟩
    refine br_t ds_neg0 ?_
    intro y ey
    subst ey
    exact K tl H
  | succ l ih =>
    intro n tl hl hn H
    obtain ⟨m, rfl⟩ : ∃ m, n = m + 1 := ⟨n - 1, by omega⟩
    rw [pk_m1]
    have k : ∀ tl', dr_T (dq_E g) A B i l tl' → wY_work_173 post J162 (nI i) mn m (nI l + (-1)) le sy hd tl' ol nw sp := fun tl' h' => ih m tl' (by omega) (by omega) h'
    refine br_f (nI_pos (by omega)) ?_
    refine pk_le A i (fun h => dy_out G hi (by omega) (Or.inl h) H k) (fun h => ?_) G.2.2.1
    refine pk_le B l (fun h2 => dy_out G hi (by omega) (Or.inr h2) H k) (fun h2 => ?_) G.2.2.2.1
    have hz : 17 * nI i + nI l = nI (17 * i + l) := by rw [ds_17m, nI_add]
    have hq1 : 17 * nI i + 17 + nI l = nI (17 * (i + 1) + l) := by
      rw [ds_17m, ds_p17, nI_add]
      exact congrArg nI (by omega)
    have hq2 : 17 * nI i + nI l + 1 = nI (17 * i + (l + 1)) := by
      rw [hz, nI_1]
      exact congrArg nI (by omega)
    have b2 := dq_L_le (dq_E g) i (l + 1) A B
    have b3 := dq_L_le (dq_E g) (i + 1) l A B
    refine br_f (c := (1 : Int32) = 0) (by decide) ⟨pk_in (17 * (i + 1) + l) 289 (by omega) hq1, pk_in (17 * i + (l + 1)) 289 (by omega) hq2, ?_⟩
    refine dy_max (dq_L (dq_E g) (i + 1) l A B) (dq_L (dq_E g) i (l + 1) A B) (by rw [hq1, nI_clamp (by omega), H (i + 1) l (by omega) (by omega) (Or.inl (by omega))]) (by rw [hq2, nI_clamp (by omega), H i (l + 1) (by omega) (by omega) (Or.inr ⟨rfl, by omega⟩)]) (by omega) (by omega) (fun w hw h5 h6 => ?_)
    exact dy_242 G (by omega) (by omega) hw h5 h6 H k
theorem dy_162 {post : SY → Prop} {mn : Int32} {sy le hd ol nw sp : Nat → Int32} {g : Nat → Nat} {A B : Nat} (G : ds_G sy le g A B)
    (K : ∀ tl', dy_T (dq_E g) A B 0 tl' → post (mn, le, sy, hd, tl', ol, nw, sp)) : ∀ (l n : Nat) (tl : Nat → Int32), l ≤ A + 1 → l < n → dy_T (dq_E g) A B l tl → wY_work_162 post mn n (nI l + (-1)) le sy hd tl ol nw sp := by
  have hA := G.2.2.2.2.1
  have hB := G.2.2.2.2.2
  intro l
  induction l with
  | zero =>
    intro n tl hl hn H
    obtain ⟨m, rfl⟩ : ∃ m, n = m + 1 := ⟨n - 1, by omega⟩
    exact br_t ds_neg0 (K tl H)
  | succ l ih =>
    intro n tl hl hn H
    obtain ⟨m, rfl⟩ : ∃ m, n = m + 1 := ⟨n - 1, by omega⟩
    rw [pk_m1]
    refine br_f (nI_pos (by omega)) ?_
    intro x ex
    rw [G.2.2.2.1, ← pk_m1] at ex
    subst ex
    refine ⟨B + 2, ?_⟩
    exact dy_173 G (by omega) (fun tl' h' => ih m tl' (by omega) (by omega) (fun i j h1 h2 h3 => h' i j h2 h3 (by omega))) (B + 1) (B + 2) tl (by omega) (by omega) (fun i j h1 h2 h3 => H i j (by omega) h1 h2)
theorem dy_2 {post : SY → Prop} {mn : Int32} {sy le tl ol nw sp : Nat → Int32} {g : Nat → Nat} {A B : Nat} (G : ds_G sy le g A B)
    (K : ∀ hd' tl', dy_H (dq_E g) A B hd' → dy_T (dq_E g) A B 0 tl' → post (mn, le, sy, hd', tl', ol, nw, sp)) : ∀ (d n i : Nat) (hd : Nat → Int32), i + d = A + 1 → d < n → dr_H (dq_E g) A B i 0 hd → wY_work_2 post mn n (nI i) le sy hd tl ol nw sp := by
  have hA := G.2.2.2.2.1
  have hB := G.2.2.2.2.2
  intro d
  induction d with
  | zero =>
    intro n i hd hi hn H
    obtain ⟨m, rfl⟩ : ∃ m, n = m + 1 := ⟨n - 1, by omega⟩
    have e : i = A + 1 := by omega
    subst e
    refine pk_lt A (A + 1) (fun _ => ?_) (fun h => absurd h (by omega)) G.2.2.1
    intro x ex
    rw [G.2.2.1, ← pk_m1] at ex
    subst ex
    exact ⟨A + 2, dy_162 G (fun tl' h' => K hd tl' (fun i j h1 h2 => H i j h1 h2 (Or.inl (by omega))) h') (A + 1) (A + 2) tl (by omega) (by omega) (fun i j h1 h2 h3 => absurd h1 (by omega))⟩
  | succ d ih =>
    intro n i hd hi hn H
    obtain ⟨m, rfl⟩ : ∃ m, n = m + 1 := ⟨n - 1, by omega⟩
    refine pk_lt A i (fun h => absurd h (by omega)) (fun _ => ⟨B + 2, ?_⟩) G.2.2.1
    exact dy_14 G (by omega) (fun hd' h' => ih m (i + 1) hd' (by omega) (by omega) h') (B + 1) (B + 2) 0 hd (by omega) (by omega) H
theorem dy_work {post : SY → Prop} {mn : Int32} {sy le hd tl ol nw sp : Nat → Int32} {g : Nat → Nat} {A B : Nat} (G : ds_G sy le g A B)
    (K : ∀ hd' tl', dy_H (dq_E g) A B hd' → dy_T (dq_E g) A B 0 tl' → post (mn, le, sy, hd', tl', ol, nw, sp)) : wpY_work post (mn, le, sy, hd, tl, ol, nw, sp) :=
  ⟨A + 2, dy_2 G K (A + 1) (A + 2) 0 hd (by omega) (by omega) dr_H0⟩
