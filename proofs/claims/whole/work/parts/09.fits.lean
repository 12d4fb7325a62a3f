theorem la_b1 (i : Nat) : bt 1 i = decide (i = 0) := by
  rcases Nat.lt_or_ge i 32 with h | h
  · exact (by decide +kernel : ∀ i, i < 32 → bt 1 i = decide (i = 0)) i h
  · rw [b_big h, decide_eq_false (by omega)]
theorem la_and1 (y : Int32) : y &&& 1 = 1 ↔ bt y 0 = true := by
  constructor
  · intro h
    have q : bt (y &&& 1) 0 = true := by rw [h]; rfl
    rw [b_and] at q
    simp at q
    exact q.1
  · intro h
    apply b_ext
    intro i hi
    rw [b_and, la_b1]
    by_cases z : i = 0
    · rw [z, h]; rfl
    · rw [decide_eq_false z, Bool.and_false]
theorem la_Xset {x : Int32} {i : Nat} {post : Int32 → Prop} (hi : i < 32) (h : post (la_pI (bt x i = true))) : wpX_isSet post x (nI i) := by
  unfold wpX_isSet
  rw [la_and1, b_sshr i hi x (by omega), if_pos (by omega), Nat.add_zero]
  exact br_c (fun z => la_p1 h z) (fun z => la_p0 h z)
theorem la_or1 (x : Int32) {i j : Nat} (hi : i < 32) (hj : j < 32) : bt (x ||| ((1 : Int32) <<< (nI i &&& 31))) j = true ↔ (bt x j = true ∨ j = i) := by
  rw [b_or, b_shl i hi 1 hj, la_b1, Bool.or_eq_true, Bool.and_eq_true, decide_eq_true_iff, decide_eq_true_iff]
  constructor
  · rintro (h | h)
    · exact Or.inl h
    · exact Or.inr (by omega)
  · rintro (h | h)
    · exact Or.inl h
    · exact Or.inr (by omega)
def la_mt (x q : Int32) : Prop := q = 2000 ∨ (¬ q = 2000 ∧ q = 2001 ∧ ¬ x < 1000) ∨ (¬ q = 2000 ∧ ¬ q = 2001 ∧ q < 3000 ∧ x = q) ∨ (¬ q = 2000 ∧ ¬ q = 2001 ∧ ¬ q < 3000 ∧ ¬ x - 1000 ≤ q - 3000)
theorem la_Ymt {c d p : Nat} {t s it dr pa tb : Nat → Int32} {x q : Int32} {post : Int32 → Prop} (h : post (la_pI (la_mt x q))) : wpY_meets post (nI c, nI d, nI p, t, s, it, dr, pa, tb) x q := by
  unfold wpY_meets
  dsimp only
  refine br_c (fun a => la_p1 h (Or.inl a)) (fun a => br_c (fun b => br_c (fun e => la_p0 h ?_) (fun e => la_p1 h (Or.inr (Or.inl ⟨a, b, e⟩)))) (fun b => br_c (fun e => br_c (fun f => la_p1 h (Or.inr (Or.inr (Or.inl ⟨a, b, e, f⟩)))) (fun f => la_p0 h ?_)) (fun e => br_c (fun f => la_p0 h ?_) (fun f => la_p1 h (Or.inr (Or.inr (Or.inr ⟨a, b, e, f⟩)))))))
  · rintro (z | ⟨_, _, z⟩ | ⟨_, z, _⟩ | ⟨_, z, _⟩)
    · exact a z
    · exact z e
    · exact z b
    · exact z b
  · rintro (z | ⟨_, z, _⟩ | ⟨_, _, _, z⟩ | ⟨_, _, z, _⟩)
    · exact a z
    · exact b z
    · exact f z
    · exact z e
  · rintro (z | ⟨_, z, _⟩ | ⟨_, _, z, _⟩ | ⟨_, _, _, z⟩)
    · exact a z
    · exact b z
    · exact e z
    · exact z f
theorem la_Xmt {x q : Int32} {post : Int32 → Prop} (hx : la_ok x) (hq : la_okp q) (h : post (la_pI (la_mt x q))) : wpX_takes post q x := by
  unfold wpX_takes
  have h' : ∀ P : Prop, (P ↔ la_mt x q) → post (la_pI P) := by
    intro P hP
    rw [la_pc hP]
    exact h
  unfold la_okp la_ok at hq
  unfold la_ok at hx
  refine br_c (fun a => la_p1 h (Or.inl a)) (fun a => br_c (fun b => la_Xnum ⟨la_pn _, h' _ ?_⟩) (fun b => la_Xabv (la_pb (fun e => br_c (fun f => la_p1 h ?_) (fun f => la_p0 h ?_)) (fun e => la_Xnum (la_pb (fun f => la_p0 h ?_) (fun f => br_c (fun g => la_p0 h ?_) (fun g => la_p1 h ?_)))))))
  · constructor
    · intro z
      exact Or.inr (Or.inl ⟨a, b, by rw [la_lt, la_k1000]; omega⟩)
    · rintro (z | ⟨_, _, z⟩ | ⟨_, z, _⟩ | ⟨_, z, _⟩)
      · exact absurd z a
      · rw [la_lt, la_k1000] at z; omega
      · exact absurd b z
      · exact absurd b z
  · refine Or.inr (Or.inr (Or.inl ⟨a, b, ?_, f.symm⟩))
    rw [la_lt, la_k3000]; omega
  · rintro (z | ⟨_, z, _⟩ | ⟨_, _, _, z⟩ | ⟨_, _, z, _⟩)
    · exact a z
    · exact b z
    · exact f z.symm
    · rw [la_lt, la_k3000] at z; omega
  · rintro (z | ⟨_, z, _⟩ | ⟨_, _, z, _⟩ | ⟨_, _, _, z⟩)
    · exact a z
    · exact b z
    · rw [la_lt, la_k3000] at z; omega
    · rw [la_le, la_s1000 (by omega) (by omega), la_s3000 (by omega) (by omega)] at z
      omega
  · rintro (z | ⟨_, z, _⟩ | ⟨_, _, z, _⟩ | ⟨_, _, _, z⟩)
    · exact a z
    · exact b z
    · rw [la_lt, la_k3000] at z; omega
    · exact z g
  · refine Or.inr (Or.inr (Or.inr ⟨a, b, ?_, g⟩))
    rw [la_lt, la_k3000]; omega
/-- the last a of the np parts can take the items from j on -/
def la_T (n np : Nat) (pa iu : Nat → Int32) : Nat → Nat → Prop
  | 0, j => j = n
  | a + 1, j => (pa (np - (a + 1)) = 2002 ∧ ∃ j', j ≤ j' ∧ j' ≤ n ∧ la_T n np pa iu a j') ∨ (¬ pa (np - (a + 1)) = 2002 ∧ j < n ∧ la_mt (iu j) (pa (np - (a + 1))) ∧ la_T n np pa iu a (j + 1))
/-- the first q parts can take just the first j items -/
def la_E (pa iu : Nat → Int32) : Nat → Nat → Prop
  | 0, j => j = 0
  | q + 1, j => (pa q = 2002 ∧ ∃ j', j' ≤ j ∧ la_E pa iu q j') ∨ (¬ pa q = 2002 ∧ ∃ j', j = j' + 1 ∧ la_E pa iu q j' ∧ la_mt (iu j') (pa q))
theorem la_ET (n np : Nat) (pa iu : Nat → Int32) : ∀ q, q ≤ np → ((∃ j, j ≤ n ∧ la_E pa iu q j ∧ la_T n np pa iu (np - q) j) ↔ la_T n np pa iu np 0) := by
  intro q
  induction q with
  | zero =>
    intro _
    constructor
    · rintro ⟨j, a, b, d⟩
      have e : j = 0 := b
      rw [e] at d
      exact d
    · intro h
      exact ⟨0, by omega, rfl, h⟩
  | succ q ih =>
    intro hq
    rw [← ih (by omega)]
    have e1 : np - q = (np - (q + 1)) + 1 := by omega
    have e2 : np - ((np - (q + 1)) + 1) = q := by omega
    rw [e1]
    generalize np - (q + 1) = a at e2
    constructor
    · rintro ⟨j, hj, hE, hT⟩
      rcases hE with ⟨r, j', hj', hE⟩ | ⟨r, j', hj', hE, hm⟩
      · refine ⟨j', by omega, hE, Or.inl ⟨by rw [e2]; exact r, j, hj', hj, hT⟩⟩
      · refine ⟨j', by omega, hE, Or.inr ⟨by rw [e2]; exact r, by omega, by rw [e2]; exact hm, ?_⟩⟩
        rw [← hj']
        exact hT
    · rintro ⟨j, hj, hE, hT⟩
      rcases hT with ⟨r, j', h1, h2, hT⟩ | ⟨r, h1, hm, hT⟩
      · rw [e2] at r
        exact ⟨j', h2, Or.inl ⟨r, j, h1, hE⟩, hT⟩
      · rw [e2] at r hm
        exact ⟨j + 1, by omega, Or.inr ⟨r, j, rfl, hE, hm⟩, hT⟩
theorem la_ETn (n np : Nat) (pa iu : Nat → Int32) : la_E pa iu np n ↔ la_T n np pa iu np 0 := by
  rw [← la_ET n np pa iu np (Nat.le_refl np), Nat.sub_self]
  constructor
  · intro h
    exact ⟨n, Nat.le_refl n, h, rfl⟩
  · rintro ⟨j, _, hE, hT⟩
    have e : j = n := hT
    rw [e] at hE
    exact hE
theorem la_Xer {c d p : Nat} {t s it dr pa gs : Nat → Int32} {l : Nat} {x : Int32} {post : Int32 → Prop} (hL : la_L c s) (hl : l < c) (h : ∀ y, (∀ j, j ≤ la_n s l → (bt y j = true ↔ ∃ j', j' ≤ j ∧ bt x j' = true)) → post y) : wpX_endsAfterRow post (nI c, nI d, nI p, t, s, it, dr, pa, gs) (nI l) x := by
  have hc := hL.1
  obtain ⟨e, l1, l8⟩ := hL.2 l hl
  have vl : vp_in (nI l) 60 := vp_in_nI (by omega) (by omega)
  have cl : (nI l).toNatClampNeg = l := nI_clamp (by omega)
  have key : ∀ m i y, i + m = la_n s l → (∀ j, j ≤ la_n s l → (bt y j = true ↔ (bt x j = true ∨ (j ≤ i ∧ ∃ j', j' ≤ j ∧ bt x j' = true)))) → wX_endsAfterRow_5 post (nI l) (nI c) (nI d) (nI p) t s it dr pa gs (m + 1) y (nI i) := by
    intro m
    induction m with
    | zero =>
      intro i y hi hy
      rw [wX_endsAfterRow_5]
      dsimp only
      rw [cl]
      refine ⟨vl, br_t (by rw [e]; exact nI_le (by omega) (by omega)) (h y (fun j hj => ?_))⟩
      rw [hy j hj]
      constructor
      · rintro (q | q)
        · exact ⟨j, Nat.le_refl j, q⟩
        · exact q.2
      · intro q
        exact Or.inr ⟨by omega, q⟩
    | succ m ih =>
      intro i y hi hy
      have hyi := hy i (by omega)
      rw [wX_endsAfterRow_5]
      dsimp only
      rw [cl, nI_1]
      refine ⟨vl, br_f (by rw [e]; exact nI_ge (by omega) (by omega)) (la_Xset (by omega) (la_pb (fun z => nm_e (ih (i + 1) y (by omega) (fun j hj => ?_))) (fun z => nm_e (nm_e (ih (i + 1) _ (by omega) (fun j hj => ?_))))))⟩
      · rw [hy j hj]
        rw [hyi] at z
        constructor
        · rintro (q | q)
          · exact Or.inl q
          · exact Or.inr ⟨by omega, q.2⟩
        · rintro (q | ⟨q, j', a, b⟩)
          · exact Or.inl q
          · by_cases w : j ≤ i
            · exact Or.inr ⟨w, j', a, b⟩
            · by_cases w2 : j' = j
              · rw [w2] at b; exact Or.inl b
              · exact absurd (Or.inr ⟨Nat.le_refl i, j', by omega, b⟩) z
      · rw [la_or1 y (by omega) (by omega), hy j hj]
        rw [hyi] at z
        constructor
        · rintro ((q | q) | q)
          · exact Or.inl q
          · exact Or.inr ⟨by omega, q.2⟩
          · refine Or.inr ⟨by omega, ?_⟩
            rcases z with z | ⟨_, j', a, b⟩
            · exact ⟨i, by omega, z⟩
            · exact ⟨j', by omega, b⟩
        · rintro (q | ⟨q, j', a, b⟩)
          · exact Or.inl (Or.inl q)
          · by_cases w : j ≤ i
            · exact Or.inl (Or.inr ⟨w, j', a, b⟩)
            · exact Or.inr (by omega)
  unfold wpX_endsAfterRow
  refine ⟨la_n s l + 1, key (la_n s l) 0 x (by omega) (fun j hj => ⟨fun q => Or.inl q, ?_⟩)⟩
  rintro (q | ⟨q, j', a, b⟩)
  · exact q
  · rw [show j = j' from by omega]; exact b
theorem la_Xeo {c d p : Nat} {t s it dr pa gs : Nat → Int32} {l : Nat} {x v : Int32} {post : Int32 → Prop} (hL : la_L c s) (hl : l < c) (hk : ∀ i, i < la_n s l → la_ok (it (8 * l + i))) (hv : la_okp v) (h : ∀ y, (∀ j, j ≤ la_n s l → (bt y j = true ↔ ∃ j', j = j' + 1 ∧ bt x j' = true ∧ la_mt (it (8 * l + j')) v)) → post y) : wpX_endsAfterOne post (nI c, nI d, nI p, t, s, it, dr, pa, gs) (nI l) x v := by
  have hc := hL.1
  obtain ⟨e, l1, l8⟩ := hL.2 l hl
  have vl : vp_in (nI l) 60 := vp_in_nI (by omega) (by omega)
  have cl : (nI l).toNatClampNeg = l := nI_clamp (by omega)
  have key : ∀ m i y, i + m = la_n s l → (∀ j, j ≤ la_n s l → (bt y j = true ↔ (∃ j', j = j' + 1 ∧ j' < i ∧ bt x j' = true ∧ la_mt (it (8 * l + j')) v))) → wX_endsAfterOne_6 post (nI l) x v (nI c) (nI d) (nI p) t s it dr pa gs (m + 1) y (nI i) := by
    intro m
    induction m with
    | zero =>
      intro i y hi hy
      rw [wX_endsAfterOne_6]
      dsimp only
      rw [cl]
      refine ⟨vl, br_t (by rw [e]; exact nI_le (by omega) (by omega)) (h y (fun j hj => ?_))⟩
      rw [hy j hj]
      constructor
      · rintro ⟨j', a, _, b⟩
        exact ⟨j', a, b⟩
      · rintro ⟨j', a, b⟩
        exact ⟨j', a, by omega, b⟩
    | succ m ih =>
      intro i y hi hy
      have no : ¬ (bt x i = true ∧ la_mt (it (8 * l + i)) v) → wX_endsAfterOne_6 post (nI l) x v (nI c) (nI d) (nI p) t s it dr pa gs (m + 1) y (nI (i + 1)) := by
        intro z
        refine ih (i + 1) y (by omega) (fun j hj => ?_)
        rw [hy j hj]
        constructor
        · rintro ⟨j', a, b, q⟩
          exact ⟨j', a, by omega, q⟩
        · rintro ⟨j', a, b, q⟩
          refine ⟨j', a, ?_, q⟩
          by_cases w : j' = i
          · rw [w] at q; exact absurd q z
          · omega
      rw [wX_endsAfterOne_6]
      dsimp only
      rw [cl, nI_1]
      refine ⟨vl, br_f (by rw [e]; exact nI_ge (by omega) (by omega)) (la_Xit (by omega) (la_Xset (by omega) (la_pb (fun z => nm_e (no (fun q => z q.1))) (fun z => la_Xmt (hk i (by omega)) hv (la_pb (fun w => nm_e (no (fun q => w q.2))) (fun w => nm_e (nm_e (ih (i + 1) _ (by omega) (fun j hj => ?_)))))))))⟩
      rw [la_or1 y (by omega) (by omega), hy j hj]
      constructor
      · rintro (⟨j', a, b, q⟩ | q)
        · exact ⟨j', a, by omega, q⟩
        · exact ⟨i, q, by omega, z, w⟩
      · rintro ⟨j', a, b, q⟩
        by_cases k : j' = i
        · exact Or.inr (by omega)
        · exact Or.inl ⟨j', a, by omega, q⟩
  unfold wpX_endsAfterOne
  refine ⟨la_n s l + 1, key (la_n s l) 0 0 (by omega) (fun j hj => ?_)⟩
  rw [b_0]
  constructor
  · intro q; exact absurd q (by decide)
  · rintro ⟨j', _, q, _⟩; omega
def la_ft (p : Nat) (pa s it : Nat → Int32) (l : Nat) : Prop := la_T (la_n s l) p pa (fun j => it (8 * l + j)) p 0
theorem la_Xft {c d p : Nat} {t s it dr pa gs : Nat → Int32} {l : Nat} {post : Int32 → Prop} (hI : la_Inv c d p t s it dr pa) (hl : l < c) (h : post (la_pI (la_ft p pa s it l))) : wpX_fits post (nI c, nI d, nI p, t, s, it, dr, pa, gs) (nI l) := by
  obtain ⟨hL, _, hp, _, hk, _, hq⟩ := hI
  have hk := hk l hl
  have hc := hL.1
  obtain ⟨e, l1, l8⟩ := hL.2 l hl
  have vl : vp_in (nI l) 60 := vp_in_nI (by omega) (by omega)
  have cl : (nI l).toNatClampNeg = l := nI_clamp (by omega)
  have key : ∀ m q x, q + m = p → (∀ j, j ≤ la_n s l → (bt x j = true ↔ la_E pa (fun j => it (8 * l + j)) q j)) → wX_fits_4 post (nI l) (nI c) (nI d) (nI p) t s it dr pa gs (m + 1) x (nI q) := by
    intro m
    induction m with
    | zero =>
      intro q x hqm hx
      have qp : q = p := by omega
      rw [wX_fits_4]
      dsimp only
      rw [cl, e]
      refine br_t (nI_le (by omega) (by omega)) ⟨vl, la_Xset (by omega) ⟨la_pn _, ?_⟩⟩
      rw [la_pc (hx (la_n s l) (Nat.le_refl _)), qp, la_pc (la_ETn (la_n s l) p pa (fun j => it (8 * l + j)))]
      exact h
    | succ m ih =>
      intro q x hqm hx
      have vq : vp_in (nI q) 8 := vp_in_nI (by omega) (by omega)
      rw [wX_fits_4]
      dsimp only
      rw [nI_clamp (n := q) (by omega)]
      refine br_f (nI_ge (by omega) (by omega)) ⟨vq, br_c (fun z => la_Xer hL hl (fun y hy => nm_r (nI_1 q) (ih (q + 1) y (by omega) (fun j hj => ?_)))) (fun z => ⟨vq, la_Xeo hL hl hk (hq q (by omega)) (fun y hy => nm_r (nI_1 q) (ih (q + 1) y (by omega) (fun j hj => ?_)))⟩)⟩
      · rw [hy j hj]
        constructor
        · rintro ⟨j', a, b⟩
          exact Or.inl ⟨z, j', a, (hx j' (by omega)).mp b⟩
        · rintro (⟨_, j', a, b⟩ | ⟨w, _⟩)
          · exact ⟨j', a, (hx j' (by omega)).mpr b⟩
          · exact absurd z w
      · rw [hy j hj]
        constructor
        · rintro ⟨j', a, b, o⟩
          exact Or.inr ⟨z, j', a, (hx j' (by omega)).mp b, o⟩
        · rintro (⟨w, _⟩ | ⟨_, j', a, b, o⟩)
          · exact absurd w z
          · exact ⟨j', a, (hx j' (by omega)).mpr b, o⟩
  unfold wpX_fits
  refine ⟨p + 1, key p 0 1 (by omega) (fun j hj => ?_)⟩
  rw [la_b1, decide_eq_true_iff]
  exact Iff.rfl
