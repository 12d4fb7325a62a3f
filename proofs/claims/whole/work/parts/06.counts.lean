theorem la_Xgr {c d p : Nat} {t s it dr pa gs : Nat → Int32} {post : Int32 → Prop} (hL : la_L c s) (h : post (nI (la_cn (fun i => la_fi s it i = i) 0 c))) : wpX_groups post (nI c, nI d, nI p, t, s, it, dr, pa, gs) := by
  have hc := hL.1
  unfold wpX_groups
  refine ⟨c - 0 + 1, ?_⟩
  refine la_cl0 (fun n x y => wX_groups_4 post (nI c) (nI d) (nI p) t s it dr pa gs n x y) post c (fun i => la_fi s it i = i) ?_ ?_ 0 (by omega) h
  · intro n x hp
    show wX_groups_4 post (nI c) (nI d) (nI p) t s it dr pa gs (n + 1) x (nI c)
    rw [wX_groups_4]
    exact br_t (nI_le (by omega) (by omega)) hp
  · intro n x i hi f g
    show wX_groups_4 post (nI c) (nI d) (nI p) t s it dr pa gs (n + 1) x (nI i)
    rw [wX_groups_4]
    have q := la_fi_le s it i
    refine br_f (nI_ge hi (by omega)) (la_Xfi hL hi ?_)
    exact pk_eq (la_fi s it i) i (fun e => nm_e (nm_r (nI_1 i) (f e))) (fun e => nm_r (nI_1 i) (g e))
theorem la_Ygr {c d p : Nat} {t s it dr pa tb : Nat → Int32} {post : Int32 → Prop} (hL : la_L c s) (h : post (nI (la_cn (fun i => la_fi s it i = i) 0 c))) : wpY_groups post (nI c, nI d, nI p, t, s, it, dr, pa, tb) := by
  have hc := hL.1
  unfold wpY_groups
  refine ⟨c - 0 + 1, ?_⟩
  refine la_cl0 (fun n x y => wY_groups_4 post (nI c) (nI d) (nI p) t s it dr pa tb n x y) post c (fun i => la_fi s it i = i) ?_ ?_ 0 (by omega) h
  · intro n x hp
    show wY_groups_4 post (nI c) (nI d) (nI p) t s it dr pa tb (n + 1) x (nI c)
    rw [wY_groups_4]
    exact br_t (nI_le (by omega) (by omega)) hp
  · intro n x i hi f g
    show wY_groups_4 post (nI c) (nI d) (nI p) t s it dr pa tb (n + 1) x (nI i)
    rw [wY_groups_4]
    have q := la_fi_le s it i
    refine br_f (nI_ge hi (by omega)) (la_Yfi hL hi ?_)
    exact pk_eq (la_fi s it i) i (fun e => nm_e (nm_r (nI_1 i) (f e))) (fun e => nm_r (nI_1 i) (g e))
theorem i_vc_groups {k : Nat} {u : SX} {v : SY} (I : i_Rel k u v) (hk : k + 4 ≤ 2048) : wpX_groups (fun r => wpY_groups (fun r' => r' = r ∧ i_Rel (k + 4) u v) v) u := by
  obtain ⟨c, d, p, t, s, it, dr, pa, gs, tb, rfl, rfl, hI⟩ := I
  exact la_Xgr hI.1 (la_Ygr hI.1 ⟨rfl, la_mk hI⟩)
theorem i_vc_group {k : Nat} {u : SX} {v : SY} (I : i_Rel k u v) (hk : k + 4 ≤ 2048) (v1 : Int32) : wpX_group (fun r => wpY_group (fun r' => r' = r ∧ i_Rel (k + 4) u v) v v1) u v1 := by
  obtain ⟨c, d, p, t, s, it, dr, pa, gs, tb, rfl, rfl, hI⟩ := I
  have hL := hI.1
  unfold wpX_group wpY_group
  dsimp only
  rcases la_cs hL v1 with hb | ⟨j, hj, rfl⟩
  · exact la_Xg1 hb (la_t1 (la_Yg1 hb (la_t2 ⟨rfl, la_mk hI⟩)))
  · exact la_Xg2 hL hj (la_t2 (la_Xfi hL hj (la_Yg2 hL hj (la_t1 (la_Yfi hL hj ⟨rfl, la_mk hI⟩)))))
noncomputable def la_sz (c : Nat) (s it : Nat → Int32) (l : Nat) : Nat := la_cn (fun i => la_al s it l i) 0 c
theorem la_Ysz {c d p : Nat} {t s it dr pa tb : Nat → Int32} {l : Nat} {post : Int32 → Prop} (hL : la_L c s) (hl : l < c) (h : post (nI (la_sz c s it l))) : wpY_sizeOf post (nI c, nI d, nI p, t, s, it, dr, pa, tb) (nI l) := by
  have hc := hL.1
  unfold wpY_sizeOf
  refine ⟨c - 0 + 1, ?_⟩
  refine la_cl0 (fun n x y => wY_sizeOf_4 post (nI l) (nI c) (nI d) (nI p) t s it dr pa tb n x y) post c (fun i => la_al s it l i) ?_ ?_ 0 (by omega) h
  · intro n x hp
    show wY_sizeOf_4 post (nI l) (nI c) (nI d) (nI p) t s it dr pa tb (n + 1) x (nI c)
    rw [wY_sizeOf_4]
    exact br_t (nI_le (by omega) (by omega)) hp
  · intro n x i hi f g
    show wY_sizeOf_4 post (nI l) (nI c) (nI d) (nI p) t s it dr pa tb (n + 1) x (nI i)
    rw [wY_sizeOf_4]
    refine br_f (nI_ge hi (by omega)) (la_Yal hL hi hl ?_)
    exact la_pb (fun e => nm_r (nI_1 i) (g (fun w => e (la_al_s w)))) (fun e => nm_e (nm_r (nI_1 i) (f (la_al_s e))))
theorem i_vc_members {k : Nat} {u : SX} {v : SY} (I : i_Rel k u v) (hk : k + 4 ≤ 2048) (v1 : Int32) : wpX_members (fun r => wpY_members (fun r' => r' = r ∧ i_Rel (k + 4) u v) v v1) u v1 := by
  obtain ⟨c, d, p, t, s, it, dr, pa, gs, tb, rfl, rfl, hI⟩ := I
  have hL := hI.1
  have hc := hL.1
  unfold wpX_members wpY_members
  dsimp only
  rcases la_cs hL v1 with hb | ⟨j, hj, rfl⟩
  · exact la_Xg1 hb (la_t1 (la_Yg1 hb (la_t2 ⟨rfl, la_mk hI⟩)))
  · refine la_Xg2 hL hj (la_t2 ?_)
    have key : ∀ post : Int32 → Prop, post (nI (la_sz c s it j)) → ∃ n, wX_members_14 post (nI j) (nI c) (nI d) (nI p) t s it dr pa gs n 0 0 := by
      intro post h
      refine ⟨c - 0 + 1, ?_⟩
      refine la_cl0 (fun n x y => wX_members_14 post (nI j) (nI c) (nI d) (nI p) t s it dr pa gs n x y) post c (fun i => la_al s it j i) ?_ ?_ 0 (by omega) h
      · intro n x hp
        show wX_members_14 post (nI j) (nI c) (nI d) (nI p) t s it dr pa gs (n + 1) x (nI c)
        rw [wX_members_14]
        exact br_t (nI_le (by omega) (by omega)) hp
      · intro n x i hi f g
        show wX_members_14 post (nI j) (nI c) (nI d) (nI p) t s it dr pa gs (n + 1) x (nI i)
        rw [wX_members_14]
        refine br_f (nI_ge hi (by omega)) (la_Xal hL hj hi ?_)
        exact la_pb (fun e => nm_r (nI_1 i) (g e)) (fun e => nm_e (nm_r (nI_1 i) (f e)))
    exact key _ (la_Yg2 hL hj (la_t1 (la_Ysz hL hj ⟨rfl, la_mk hI⟩)))
def la_hs (s it : Nat → Int32) (x : Int32) (l : Nat) : Prop := ∃ i, 0 ≤ i ∧ i < la_n s l ∧ it (8 * l + i) = x
theorem la_Xhs {c d p : Nat} {t s it dr pa gs : Nat → Int32} {l : Nat} {x : Int32} {post : Int32 → Prop} (hL : la_L c s) (hl : l < c) (h : post (la_pI (la_hs s it x l))) : wpX_contains post (nI c, nI d, nI p, t, s, it, dr, pa, gs) (nI l) x := by
  have hc := hL.1
  obtain ⟨e, l1, l8⟩ := hL.2 l hl
  have vl : vp_in (nI l) 60 := vp_in_nI (by omega) (by omega)
  have cl : (nI l).toNatClampNeg = l := nI_clamp (by omega)
  unfold wpX_contains
  refine ⟨la_n s l + 1, ?_⟩
  refine la_el (fun n y => wX_contains_2 post (nI l) x (nI c) (nI d) (nI p) t s it dr pa gs n y) (post 1) (post 0) (la_n s l) (fun i => it (8 * l + i) = x) ?_ ?_ (la_n s l) 0 (by omega) (fun z => la_p1 h z) (fun z => la_p0 h z)
  · intro n hp
    show wX_contains_2 post (nI l) x (nI c) (nI d) (nI p) t s it dr pa gs (n + 1) (nI (la_n s l))
    rw [wX_contains_2, cl]
    exact ⟨vl, br_t (by rw [e]; exact nI_le (by omega) (by omega)) hp⟩
  · intro n i hi f g
    show wX_contains_2 post (nI l) x (nI c) (nI d) (nI p) t s it dr pa gs (n + 1) (nI i)
    rw [wX_contains_2, cl]
    exact ⟨vl, br_f (by rw [e]; exact nI_ge hi (by omega)) (la_Xit (by omega) (br_c f (fun z => nm_r (nI_1 i) (g z))))⟩
theorem la_Yhs {c d p : Nat} {t s it dr pa tb : Nat → Int32} {l : Nat} {x1 x2 : Int32} {post : Int32 → Prop} {J : Int32 → Int32 → Prop} (hL : la_L c s) (hl : l < c) : ∀ (m i : Nat) (F : Prop), i + m = la_n s l → ((F ∨ ∃ j, i ≤ j ∧ j < la_n s l ∧ it (8 * l + j) = x1) → J (x2 + 1) (nI (l + 1))) → ((¬ (F ∨ ∃ j, i ≤ j ∧ j < la_n s l ∧ it (8 * l + j) = x1)) → J x2 (nI (l + 1))) → wY_having_28 post J x1 x2 (nI l) (nI c) (nI d) (nI p) t s it dr pa tb (m + 1) (la_pI F) (nI i) := by
  have hc := hL.1
  obtain ⟨e, l1, l8⟩ := hL.2 l hl
  have vl : vp_in (nI l) 60 := vp_in_nI (by omega) (by omega)
  have cl : (nI l).toNatClampNeg = l := nI_clamp (by omega)
  intro m
  induction m with
  | zero =>
    intro i F hi f g
    rw [wY_having_28]
    dsimp only
    rw [cl]
    refine ⟨vl, br_t (by rw [e]; exact nI_le (by omega) (by omega)) (la_pb (fun z => nm_r (nI_1 l) (g ?_)) (fun z => nm_e (nm_r (nI_1 l) (f (Or.inl z)))))⟩
    rintro (q | ⟨j, a, b, _⟩)
    · exact z q
    · omega
  | succ m ih =>
    intro i F hi f g
    rw [wY_having_28]
    dsimp only
    rw [cl, la_iy, nI_clamp (n := 8 * l + i) (by omega)]
    refine ⟨vl, br_f (by rw [e]; exact nI_ge (by omega) (by omega)) (la_pb (fun z => ⟨vp_in_nI (by omega) (by omega), br_c (fun w => nm_r (nI_1 i) ?_) (fun w => nm_r (nI_1 i) ?_)⟩) (fun z => nm_r (nI_1 i) ?_))⟩
    · have q := ih (i + 1) True (by omega) (fun _ => f (Or.inr ⟨i, by omega, by omega, w⟩)) (fun y => absurd (Or.inl trivial) y)
      rw [la_pt trivial] at q
      exact q
    · have q := ih (i + 1) False (by omega) (fun y => f ?_) (fun y => g ?_)
      · rw [la_pf id] at q
        exact q
      · rcases y with y | ⟨j, a, b, o⟩
        · exact y.elim
        · exact Or.inr ⟨j, by omega, b, o⟩
      · rintro (k | ⟨j, a, b, o⟩)
        · exact z k
        · refine y (Or.inr ⟨j, ?_, b, o⟩)
          rcases Nat.lt_or_ge i j with k | k
          · omega
          · have jj : j = i := by omega
            rw [jj] at o
            exact absurd o w
    · have q := ih (i + 1) True (by omega) (fun _ => f (Or.inl z)) (fun y => absurd (Or.inl trivial) y)
      rw [la_pt trivial] at q
      exact q
theorem i_vc_having {k : Nat} {u : SX} {v : SY} (I : i_Rel k u v) (hk : k + 4 ≤ 2048) (v1 : Int32) : wpX_having (fun r => wpY_having (fun r' => r' = r ∧ i_Rel (k + 4) u v) v v1) u v1 := by
  obtain ⟨c, d, p, t, s, it, dr, pa, gs, tb, rfl, rfl, hI⟩ := I
  have hL := hI.1
  have hc := hL.1
  have kx : ∀ post : Int32 → Prop, post (nI (la_cn (la_hs s it v1) 0 c)) → ∃ n, wX_having_13 post v1 (nI c) (nI d) (nI p) t s it dr pa gs n 0 0 := by
    intro post h
    refine ⟨c - 0 + 1, ?_⟩
    refine la_cl0 (fun n x y => wX_having_13 post v1 (nI c) (nI d) (nI p) t s it dr pa gs n x y) post c (la_hs s it v1) ?_ ?_ 0 (by omega) h
    · intro n x hp
      show wX_having_13 post v1 (nI c) (nI d) (nI p) t s it dr pa gs (n + 1) x (nI c)
      rw [wX_having_13]
      exact br_t (nI_le (by omega) (by omega)) hp
    · intro n x i hi f g
      show wX_having_13 post v1 (nI c) (nI d) (nI p) t s it dr pa gs (n + 1) x (nI i)
      rw [wX_having_13]
      refine br_f (nI_ge hi (by omega)) (la_Xhs hL hi ?_)
      exact la_pb (fun e => nm_r (nI_1 i) (g e)) (fun e => nm_e (nm_r (nI_1 i) (f e)))
  have ky : ∀ post : Int32 → Prop, post (nI (la_cn (la_hs s it v1) 0 c)) → ∃ n, wY_having_14 post v1 (nI c) (nI d) (nI p) t s it dr pa tb n 0 0 := by
    intro post h
    refine ⟨c - 0 + 1, ?_⟩
    refine la_cl0 (fun n x y => wY_having_14 post v1 (nI c) (nI d) (nI p) t s it dr pa tb n x y) post c (la_hs s it v1) ?_ ?_ 0 (by omega) h
    · intro n x hp
      show wY_having_14 post v1 (nI c) (nI d) (nI p) t s it dr pa tb (n + 1) x (nI c)
      rw [wY_having_14]
      exact br_t (nI_le (by omega) (by omega)) hp
    · intro n x i hi f g
      show wY_having_14 post v1 (nI c) (nI d) (nI p) t s it dr pa tb (n + 1) x (nI i)
      rw [wY_having_14]
      refine br_f (nI_ge hi (by omega)) ⟨la_n s i + 1, ?_⟩
      have q := la_Yhs (post := post) (x1 := v1) (x2 := x) (J := wY_having_14 post v1 (nI c) (nI d) (nI p) t s it dr pa tb n) (d := d) (p := p) (t := t) (it := it) (dr := dr) (pa := pa) (tb := tb) hL hi (la_n s i) 0 False (by omega) (fun y => f (y.resolve_left id)) (fun y => g (fun w => y (Or.inr w)))
      rw [la_pf id] at q
      exact q
  unfold wpX_having wpY_having
  dsimp only
  exact la_Xok (la_pb (fun z => la_Yok (la_pb (fun w => absurd z w) (fun w => ⟨rfl, la_mk hI⟩))) (fun z => kx _ (la_Yok (la_pb (fun w => ky _ ⟨rfl, la_mk hI⟩) (fun w => absurd z w)))))
def la_wi (t : Nat → Int32) (x y : Int32) (l : Nat) : Prop := ¬ t l < x ∧ ¬ y < t l
theorem la_Xwi {c d p : Nat} {t s it dr pa gs : Nat → Int32} {l : Nat} {x y : Int32} {post : Int32 → Prop} (hL : la_L c s) (hl : l < c) (h : post (la_pI (la_wi t x y l))) : wpX_isWithin post (nI c, nI d, nI p, t, s, it, dr, pa, gs) (nI l) x y := by
  have hc := hL.1
  have vl : vp_in (nI l) 60 := vp_in_nI (by omega) (by omega)
  unfold wpX_isWithin
  dsimp only
  rw [nI_clamp (by omega)]
  exact ⟨vl, br_c (fun a => la_p0 h (fun z => z.1 a)) (fun a => ⟨vl, br_c (fun b => la_p0 h (fun z => z.2 b)) (fun b => la_p1 h ⟨a, b⟩)⟩)⟩
theorem i_vc_between {k : Nat} {u : SX} {v : SY} (I : i_Rel k u v) (hk : k + 4 ≤ 2048) (v1 : Int32) (v2 : Int32) : wpX_between (fun r => wpY_between (fun r' => r' = r ∧ i_Rel (k + 4) u v) v v1 v2) u v1 v2 := by
  obtain ⟨c, d, p, t, s, it, dr, pa, gs, tb, rfl, rfl, hI⟩ := I
  have hL := hI.1
  have hc := hL.1
  have kx : ∀ post : Int32 → Prop, post (nI (la_cn (la_wi t v1 v2) 0 c)) → ∃ n, wX_between_5 post v1 v2 (nI c) (nI d) (nI p) t s it dr pa gs n 0 0 := by
    intro post h
    refine ⟨c - 0 + 1, ?_⟩
    refine la_cl0 (fun n x y => wX_between_5 post v1 v2 (nI c) (nI d) (nI p) t s it dr pa gs n x y) post c (la_wi t v1 v2) ?_ ?_ 0 (by omega) h
    · intro n x hp
      show wX_between_5 post v1 v2 (nI c) (nI d) (nI p) t s it dr pa gs (n + 1) x (nI c)
      rw [wX_between_5]
      exact br_t (nI_le (by omega) (by omega)) hp
    · intro n x i hi f g
      show wX_between_5 post v1 v2 (nI c) (nI d) (nI p) t s it dr pa gs (n + 1) x (nI i)
      rw [wX_between_5]
      refine br_f (nI_ge hi (by omega)) (la_Xwi hL hi ?_)
      exact la_pb (fun e => nm_r (nI_1 i) (g e)) (fun e => nm_e (nm_r (nI_1 i) (f e)))
  have ky : ∀ post : Int32 → Prop, post (nI (la_cn (la_wi t v1 v2) 0 c)) → ∃ n, wY_between_5 post v1 v2 (nI c) (nI d) (nI p) t s it dr pa tb n 0 0 := by
    intro post h
    refine ⟨c - 0 + 1, ?_⟩
    refine la_cl0 (fun n x y => wY_between_5 post v1 v2 (nI c) (nI d) (nI p) t s it dr pa tb n x y) post c (la_wi t v1 v2) ?_ ?_ 0 (by omega) h
    · intro n x hp
      show wY_between_5 post v1 v2 (nI c) (nI d) (nI p) t s it dr pa tb (n + 1) x (nI c)
      rw [wY_between_5]
      exact br_t (nI_le (by omega) (by omega)) hp
    · intro n x i hi f g
      have vi : vp_in (nI i) 60 := vp_in_nI (by omega) (by omega)
      show wY_between_5 post v1 v2 (nI c) (nI d) (nI p) t s it dr pa tb (n + 1) x (nI i)
      rw [wY_between_5]
      dsimp only
      rw [nI_clamp (n := i) (by omega)]
      exact br_f (nI_ge hi (by omega)) ⟨vi, br_c (fun a => nm_r (nI_1 i) (g (fun z => z.1 a))) (fun a => ⟨vi, br_c (fun b => nm_r (nI_1 i) (g (fun z => z.2 b))) (fun b => nm_e (nm_r (nI_1 i) (f ⟨a, b⟩)))⟩)⟩
  exact kx _ (ky _ ⟨rfl, la_mk hI⟩)
def la_sp (t : Nat → Int32) (w : Int32) (l i : Nat) : Prop := ¬ w ≤ t i - t l
noncomputable def la_mx (c : Nat) (t : Nat → Int32) (w : Int32) (l : Nat) (x : Int32) : Int32 := @ite Int32 (nI (la_cn (la_sp t w l) l (c - l)) ≤ x) (Classical.propDecidable _) x (nI (la_cn (la_sp t w l) l (c - l)))
theorem la_Xsp {c d p : Nat} {t s it dr pa gs : Nat → Int32} {l : Nat} {w : Int32} {post : Int32 → Prop} (hL : la_L c s) (hl : l < c) (h : post (nI (la_cn (la_sp t w l) l (c - l)))) : wpX_countInSpanFrom post (nI c, nI d, nI p, t, s, it, dr, pa, gs) (nI l) w := by
  have hc := hL.1
  have vl : vp_in (nI l) 60 := vp_in_nI (by omega) (by omega)
  unfold wpX_countInSpanFrom
  refine ⟨c - l + 1, ?_⟩
  refine la_cl0 (fun n x y => wX_countInSpanFrom_5 post (nI l) w (nI c) (nI d) (nI p) t s it dr pa gs n x y) post c (la_sp t w l) ?_ ?_ l (by omega) h
  · intro n x hp
    show wX_countInSpanFrom_5 post (nI l) w (nI c) (nI d) (nI p) t s it dr pa gs (n + 1) x (nI c)
    rw [wX_countInSpanFrom_5]
    exact br_t (nI_le (by omega) (by omega)) hp
  · intro n x i hi f g
    have vi : vp_in (nI i) 60 := vp_in_nI (by omega) (by omega)
    show wX_countInSpanFrom_5 post (nI l) w (nI c) (nI d) (nI p) t s it dr pa gs (n + 1) x (nI i)
    rw [wX_countInSpanFrom_5]
    dsimp only
    rw [nI_clamp (n := i) (by omega), nI_clamp (n := l) (by omega)]
    exact br_f (nI_ge hi (by omega)) ⟨vi, vl, br_c (fun a => nm_r (nI_1 i) (g (fun z => z a))) (fun a => nm_e (nm_r (nI_1 i) (f a)))⟩
theorem la_mx_t {c l : Nat} {t : Nat → Int32} {w x : Int32} (h : nI (la_cn (la_sp t w l) l (c - l)) ≤ x) : la_mx c t w l x = x := if_pos h
theorem la_mx_f {c l : Nat} {t : Nat → Int32} {w x : Int32} (h : ¬ nI (la_cn (la_sp t w l) l (c - l)) ≤ x) : la_mx c t w l x = nI (la_cn (la_sp t w l) l (c - l)) := if_neg h
theorem i_vc_burst {k : Nat} {u : SX} {v : SY} (I : i_Rel k u v) (hk : k + 4 ≤ 2048) (v1 : Int32) : wpX_burst (fun r => wpY_burst (fun r' => r' = r ∧ i_Rel (k + 4) u v) v v1) u v1 := by
  obtain ⟨c, d, p, t, s, it, dr, pa, gs, tb, rfl, rfl, hI⟩ := I
  have hL := hI.1
  have hc := hL.1
  have kx : ∀ post : Int32 → Prop, post (la_fo (la_mx c t v1) 0 c 0) → ∃ n, wX_burst_11 post v1 (nI c) (nI d) (nI p) t s it dr pa gs n 0 0 := by
    intro post h
    refine ⟨c + 1, ?_⟩
    refine la_fl (fun n x y => wX_burst_11 post v1 (nI c) (nI d) (nI p) t s it dr pa gs n x y) post c (la_mx c t v1) ?_ ?_ c 0 0 (by omega) h
    · intro n x hp
      show wX_burst_11 post v1 (nI c) (nI d) (nI p) t s it dr pa gs (n + 1) x (nI c)
      rw [wX_burst_11]
      exact br_t (nI_le (by omega) (by omega)) hp
    · intro n x i hi g
      show wX_burst_11 post v1 (nI c) (nI d) (nI p) t s it dr pa gs (n + 1) x (nI i)
      rw [wX_burst_11]
      refine br_f (nI_ge hi (by omega)) (la_Xsp hL hi ?_)
      refine br_c (fun e => nm_r (nI_1 i) ?_) (fun e => nm_r (nI_1 i) ?_)
      · rw [la_mx_t e] at g; exact g
      · rw [la_mx_f e] at g; exact g
  have ky : ∀ post : Int32 → Prop, post (la_fo (la_mx c t v1) 0 c 0) → ∃ n, wY_burst_11 post v1 (nI c) (nI d) (nI p) t s it dr pa tb n 0 0 := by
    intro post h
    refine ⟨c + 1, ?_⟩
    refine la_fl (fun n x y => wY_burst_11 post v1 (nI c) (nI d) (nI p) t s it dr pa tb n x y) post c (la_mx c t v1) ?_ ?_ c 0 0 (by omega) h
    · intro n x hp
      show wY_burst_11 post v1 (nI c) (nI d) (nI p) t s it dr pa tb (n + 1) x (nI c)
      rw [wY_burst_11]
      exact br_t (nI_le (by omega) (by omega)) hp
    · intro n x l hl g
      have vl : vp_in (nI l) 60 := vp_in_nI (by omega) (by omega)
      show wY_burst_11 post v1 (nI c) (nI d) (nI p) t s it dr pa tb (n + 1) x (nI l)
      rw [wY_burst_11]
      refine br_f (nI_ge hl (by omega)) ⟨c - l + 1, ?_⟩
      refine la_cl0 (fun m y z => wY_burst_25 post (wY_burst_11 post v1 (nI c) (nI d) (nI p) t s it dr pa tb n) v1 x (nI l) (nI c) (nI d) (nI p) t s it dr pa tb m y z) (fun y => (y ≤ x → wY_burst_11 post v1 (nI c) (nI d) (nI p) t s it dr pa tb n x (nI (l + 1))) ∧ (¬ y ≤ x → wY_burst_11 post v1 (nI c) (nI d) (nI p) t s it dr pa tb n y (nI (l + 1)))) c (la_sp t v1 l) ?_ ?_ l (by omega) ?_
      · intro m y hp
        show wY_burst_25 post (wY_burst_11 post v1 (nI c) (nI d) (nI p) t s it dr pa tb n) v1 x (nI l) (nI c) (nI d) (nI p) t s it dr pa tb (m + 1) y (nI c)
        rw [wY_burst_25]
        exact br_t (nI_le (by omega) (by omega)) (br_c (fun z => nm_r (nI_1 l) (hp.1 z)) (fun z => nm_r (nI_1 l) (hp.2 z)))
      · intro m y i hi f g
        have vi : vp_in (nI i) 60 := vp_in_nI (by omega) (by omega)
        show wY_burst_25 post (wY_burst_11 post v1 (nI c) (nI d) (nI p) t s it dr pa tb n) v1 x (nI l) (nI c) (nI d) (nI p) t s it dr pa tb (m + 1) y (nI i)
        rw [wY_burst_25]
        dsimp only
        rw [nI_clamp (n := i) (by omega), nI_clamp (n := l) (by omega)]
        exact br_f (nI_ge hi (by omega)) ⟨vi, vl, br_c (fun a => nm_r (nI_1 i) (g (fun z => z a))) (fun a => nm_e (nm_r (nI_1 i) (f a)))⟩
      · refine ⟨fun e => ?_, fun e => ?_⟩
        · rw [la_mx_t e] at g; exact g
        · rw [la_mx_f e] at g; exact g
  unfold wpX_burst wpY_burst
  dsimp only
  exact br_c (fun z => kx _ (br_t z (ky _ ⟨rfl, la_mk hI⟩))) (fun z => br_f z ⟨rfl, la_mk hI⟩)
def la_we (it : Nat → Int32) (l i : Nat) (x : Int32) : Int32 := x + (nI i + 3) * it (8 * l + i)
def la_dg (t s it : Nat → Int32) (l : Nat) (x : Int32) : Int32 := x + (nI l + 1) * (t l + la_fo (la_we it l) 0 (la_n s l) 0)
theorem la_we_a (it : Nat → Int32) (l : Nat) (a : Int32) : ∀ m i x, la_fo (la_we it l) i m (a + x) = a + la_fo (la_we it l) i m x := by
  intro m
  induction m with
  | zero => intro i x; rfl
  | succ m ih =>
    intro i x
    show la_fo (la_we it l) (i + 1) m (la_we it l i (a + x)) = a + la_fo (la_we it l) (i + 1) m (la_we it l i x)
    rw [show la_we it l i (a + x) = a + la_we it l i x from Int32.add_assoc _ _ _, ih]
theorem la_Xwe {c d p : Nat} {t s it dr pa gs : Nat → Int32} {l : Nat} {post : Int32 → Prop} (hL : la_L c s) (hl : l < c) (h : post (la_fo (la_we it l) 0 (la_n s l) 0)) : wpX_weighItems post (nI c, nI d, nI p, t, s, it, dr, pa, gs) (nI l) := by
  have hc := hL.1
  obtain ⟨e, l1, l8⟩ := hL.2 l hl
  have vl : vp_in (nI l) 60 := vp_in_nI (by omega) (by omega)
  have cl : (nI l).toNatClampNeg = l := nI_clamp (by omega)
  unfold wpX_weighItems
  refine ⟨la_n s l + 1, ?_⟩
  refine la_fl (fun m y z => wX_weighItems_4 post (nI l) (nI c) (nI d) (nI p) t s it dr pa gs m y z) post (la_n s l) (la_we it l) ?_ ?_ (la_n s l) 0 0 (by omega) h
  · intro m y hp
    show wX_weighItems_4 post (nI l) (nI c) (nI d) (nI p) t s it dr pa gs (m + 1) y (nI (la_n s l))
    rw [wX_weighItems_4]
    dsimp only
    rw [cl]
    exact ⟨vl, br_t (by rw [e]; exact nI_le (by omega) (by omega)) hp⟩
  · intro m y i hi h
    show wX_weighItems_4 post (nI l) (nI c) (nI d) (nI p) t s it dr pa gs (m + 1) y (nI i)
    rw [wX_weighItems_4]
    dsimp only
    rw [cl]
    exact ⟨vl, br_f (by rw [e]; exact nI_ge hi (by omega)) (la_Xit (by omega) (nm_e (nm_r (nI_1 i) h)))⟩
theorem i_vc_digest {k : Nat} {u : SX} {v : SY} (I : i_Rel k u v) (hk : k + 4 ≤ 2048) : wpX_digest (fun r => wpY_digest (fun r' => r' = r ∧ i_Rel (k + 4) u v) v) u := by
  obtain ⟨c, d, p, t, s, it, dr, pa, gs, tb, rfl, rfl, hI⟩ := I
  have hL := hI.1
  have hc := hL.1
  have kx : ∀ post : Int32 → Prop, post (la_fo (la_dg t s it) 0 c 0) → ∃ n, wX_digest_4 post (nI c) (nI d) (nI p) t s it dr pa gs n 0 0 := by
    intro post h
    refine ⟨c + 1, ?_⟩
    refine la_fl (fun n x y => wX_digest_4 post (nI c) (nI d) (nI p) t s it dr pa gs n x y) post c (la_dg t s it) ?_ ?_ c 0 0 (by omega) h
    · intro n x hp
      show wX_digest_4 post (nI c) (nI d) (nI p) t s it dr pa gs (n + 1) x (nI c)
      rw [wX_digest_4]
      exact br_t (nI_le (by omega) (by omega)) hp
    · intro n x l hl g
      obtain ⟨e, l1, l8⟩ := hL.2 l hl
      have vl : vp_in (nI l) 60 := vp_in_nI (by omega) (by omega)
      have cl : (nI l).toNatClampNeg = l := nI_clamp (by omega)
      show wX_digest_4 post (nI c) (nI d) (nI p) t s it dr pa gs (n + 1) x (nI l)
      rw [wX_digest_4]
      dsimp only
      rw [cl]
      refine br_f (nI_ge hl (by omega)) ⟨vl, ?_⟩
      exact la_Xwe hL hl (nm_e (nm_r (nI_1 l) g))
  have ky : ∀ post : Int32 → Prop, post (la_fo (la_dg t s it) 0 c 0) → ∃ n, wY_digest_4 post (nI c) (nI d) (nI p) t s it dr pa tb n 0 0 := by
    intro post h
    refine ⟨c + 1, ?_⟩
    refine la_fl (fun n x y => wY_digest_4 post (nI c) (nI d) (nI p) t s it dr pa tb n x y) post c (la_dg t s it) ?_ ?_ c 0 0 (by omega) h
    · intro n x hp
      show wY_digest_4 post (nI c) (nI d) (nI p) t s it dr pa tb (n + 1) x (nI c)
      rw [wY_digest_4]
      exact br_t (nI_le (by omega) (by omega)) hp
    · intro n x l hl g
      obtain ⟨e, l1, l8⟩ := hL.2 l hl
      have vl : vp_in (nI l) 60 := vp_in_nI (by omega) (by omega)
      have cl : (nI l).toNatClampNeg = l := nI_clamp (by omega)
      show wY_digest_4 post (nI c) (nI d) (nI p) t s it dr pa tb (n + 1) x (nI l)
      rw [wY_digest_4]
      dsimp only
      rw [cl]
      refine br_f (nI_ge hl (by omega)) ⟨vl, nm_e ⟨la_n s l + 1, ?_⟩⟩
      refine la_fl (fun m y z => wY_digest_22 post (wY_digest_4 post (nI c) (nI d) (nI p) t s it dr pa tb n) x (nI l) (nI c) (nI d) (nI p) t s it dr pa tb m y z) (fun y => wY_digest_4 post (nI c) (nI d) (nI p) t s it dr pa tb n (x + (nI l + 1) * y) (nI (l + 1))) (la_n s l) (la_we it l) ?_ ?_ (la_n s l) 0 (t l) (by omega) ?_
      · intro m y hp
        show wY_digest_22 post (wY_digest_4 post (nI c) (nI d) (nI p) t s it dr pa tb n) x (nI l) (nI c) (nI d) (nI p) t s it dr pa tb (m + 1) y (nI (la_n s l))
        rw [wY_digest_22]
        dsimp only
        rw [cl]
        exact ⟨vl, br_t (by rw [e]; exact nI_le (by omega) (by omega)) (nm_e (nm_r (nI_1 l) hp))⟩
      · intro m y i hi h
        show wY_digest_22 post (wY_digest_4 post (nI c) (nI d) (nI p) t s it dr pa tb n) x (nI l) (nI c) (nI d) (nI p) t s it dr pa tb (m + 1) y (nI i)
        rw [wY_digest_22]
        dsimp only
        rw [cl, la_iy, nI_clamp (n := 8 * l + i) (by omega)]
        exact ⟨vl, br_f (by rw [e]; exact nI_ge hi (by omega)) ⟨vp_in_nI (by omega) (by omega), nm_e (nm_r (nI_1 i) h)⟩⟩
      · have q := la_we_a it l (t l) (la_n s l) 0 0
        rw [Int32.add_zero] at q
        show wY_digest_4 post (nI c) (nI d) (nI p) t s it dr pa tb n (x + (nI l + 1) * la_fo (la_we it l) 0 (la_n s l) (t l)) (nI (l + 1))
        rw [q]
        exact g
  exact kx _ (ky _ ⟨rfl, la_mk hI⟩)
