noncomputable def la_if (P : Prop) (a b : Int32) : Int32 := @ite Int32 P (Classical.propDecidable P) a b
theorem la_if_t {P : Prop} {a b : Int32} (h : P) : la_if P a b = a := if_pos h
theorem la_if_f {P : Prop} {a b : Int32} (h : ¬ P) : la_if P a b = b := if_neg h
noncomputable def la_mn (P : Nat → Prop) (u : Nat → Int32) (l : Nat) (x : Int32) : Int32 := la_if (P l ∧ ¬ x ≤ u l) (u l) x
noncomputable def la_mg (P : Nat → Prop) (u : Nat → Int32) (l : Nat) (x : Int32) : Int32 := la_if (P l ∧ ¬ u l ≤ x) (u l) x
noncomputable def la_sm (P : Nat → Prop) (u : Nat → Int32) (l : Nat) (x : Int32) : Int32 := la_if (P l) (x + u l) x
noncomputable def la_df (P : Nat → Prop) (l : Nat) (x : Int32) : Int32 := la_if (P l) (x + 1) x
def la_nu (it : Nat → Int32) (i l : Nat) : Int32 := it (8 * l + i) - 1000
def la_nw (s it : Nat → Int32) (i l : Nat) : Prop := ¬ ∃ j, 0 ≤ j ∧ j < l ∧ (la_al s it l j ∧ it (8 * j + i) = it (8 * l + i))
theorem la_mnS (P : Nat → Prop) (u : Nat → Int32) : ∀ m i x, (la_fo (la_mn P u) i m x).toInt ≤ x.toInt ∧ (∀ j, i ≤ j → j < i + m → P j → (la_fo (la_mn P u) i m x).toInt ≤ (u j).toInt) ∧ (la_fo (la_mn P u) i m x = x ∨ ∃ j, i ≤ j ∧ j < i + m ∧ P j ∧ la_fo (la_mn P u) i m x = u j) := by
  intro m
  induction m with
  | zero => intro i x; exact ⟨Int.le_refl _, fun j a b _ => by omega, Or.inl rfl⟩
  | succ m ih =>
    intro i x
    obtain ⟨e1, e2, e3⟩ := ih (i + 1) (la_mn P u i x)
    show (la_fo (la_mn P u) (i + 1) m (la_mn P u i x)).toInt ≤ x.toInt ∧ (∀ j, i ≤ j → j < i + (m + 1) → P j → (la_fo (la_mn P u) (i + 1) m (la_mn P u i x)).toInt ≤ (u j).toInt) ∧ (la_fo (la_mn P u) (i + 1) m (la_mn P u i x) = x ∨ ∃ j, i ≤ j ∧ j < i + (m + 1) ∧ P j ∧ la_fo (la_mn P u) (i + 1) m (la_mn P u i x) = u j)
    generalize la_fo (la_mn P u) (i + 1) m (la_mn P u i x) = r at e1 e2 e3
    by_cases q : P i ∧ ¬ x ≤ u i
    · rw [show la_mn P u i x = u i from la_if_t q] at e1 e3
      have q2 := q.2
      rw [la_le] at q2
      refine ⟨by omega, fun j a b pj => ?_, ?_⟩
      · by_cases w : j = i
        · rw [w]; exact e1
        · exact e2 j (by omega) (by omega) pj
      · rcases e3 with e3 | ⟨j, a, b, pj, e3⟩
        · exact Or.inr ⟨i, by omega, by omega, q.1, e3⟩
        · exact Or.inr ⟨j, by omega, by omega, pj, e3⟩
    · rw [show la_mn P u i x = x from la_if_f q] at e1 e3
      refine ⟨e1, fun j a b pj => ?_, ?_⟩
      · by_cases w : j = i
        · rw [w] at pj ⊢
          have h : x ≤ u i := Classical.byContradiction (fun k => q ⟨pj, k⟩)
          rw [la_le] at h
          omega
        · exact e2 j (by omega) (by omega) pj
      · rcases e3 with e3 | ⟨j, a, b, pj, e3⟩
        · exact Or.inl e3
        · exact Or.inr ⟨j, by omega, by omega, pj, e3⟩
theorem la_mgS (P : Nat → Prop) (u : Nat → Int32) : ∀ m i x, x.toInt ≤ (la_fo (la_mg P u) i m x).toInt ∧ (∀ j, i ≤ j → j < i + m → P j → (u j).toInt ≤ (la_fo (la_mg P u) i m x).toInt) ∧ (la_fo (la_mg P u) i m x = x ∨ ∃ j, i ≤ j ∧ j < i + m ∧ P j ∧ la_fo (la_mg P u) i m x = u j) := by
  intro m
  induction m with
  | zero => intro i x; exact ⟨Int.le_refl _, fun j a b _ => by omega, Or.inl rfl⟩
  | succ m ih =>
    intro i x
    obtain ⟨e1, e2, e3⟩ := ih (i + 1) (la_mg P u i x)
    show x.toInt ≤ (la_fo (la_mg P u) (i + 1) m (la_mg P u i x)).toInt ∧ (∀ j, i ≤ j → j < i + (m + 1) → P j → (u j).toInt ≤ (la_fo (la_mg P u) (i + 1) m (la_mg P u i x)).toInt) ∧ (la_fo (la_mg P u) (i + 1) m (la_mg P u i x) = x ∨ ∃ j, i ≤ j ∧ j < i + (m + 1) ∧ P j ∧ la_fo (la_mg P u) (i + 1) m (la_mg P u i x) = u j)
    generalize la_fo (la_mg P u) (i + 1) m (la_mg P u i x) = r at e1 e2 e3
    by_cases q : P i ∧ ¬ u i ≤ x
    · rw [show la_mg P u i x = u i from la_if_t q] at e1 e3
      have q2 := q.2
      rw [la_le] at q2
      refine ⟨by omega, fun j a b pj => ?_, ?_⟩
      · by_cases w : j = i
        · rw [w]; exact e1
        · exact e2 j (by omega) (by omega) pj
      · rcases e3 with e3 | ⟨j, a, b, pj, e3⟩
        · exact Or.inr ⟨i, by omega, by omega, q.1, e3⟩
        · exact Or.inr ⟨j, by omega, by omega, pj, e3⟩
    · rw [show la_mg P u i x = x from la_if_f q] at e1 e3
      refine ⟨e1, fun j a b pj => ?_, ?_⟩
      · by_cases w : j = i
        · rw [w] at pj ⊢
          have h : u i ≤ x := Classical.byContradiction (fun k => q ⟨pj, k⟩)
          rw [la_le] at h
          omega
        · exact e2 j (by omega) (by omega) pj
      · rcases e3 with e3 | ⟨j, a, b, pj, e3⟩
        · exact Or.inl e3
        · exact Or.inr ⟨j, by omega, by omega, pj, e3⟩
theorem la_mnE (P : Nat → Prop) (u : Nat → Int32) {c a : Nat} (ha : a < c) (pa : P a) {y : Int32} (hy : (u a).toInt < y.toInt) : la_fo (la_mn P u) 0 c (u a) = la_fo (la_mn P u) 0 c y := by
  obtain ⟨e1, e2, e3⟩ := la_mnS P u c 0 (u a)
  obtain ⟨f1, f2, f3⟩ := la_mnS P u c 0 y
  generalize la_fo (la_mn P u) 0 c (u a) = r at e1 e2 e3
  generalize la_fo (la_mn P u) 0 c y = q at f1 f2 f3
  have f4 := f2 a (by omega) (by omega) pa
  rw [la_eq]
  have g1 : q.toInt ≤ r.toInt := by
    rcases e3 with e3 | ⟨j, a, b, pj, e3⟩
    · rw [e3]; exact f4
    · rw [e3]; exact f2 j a b pj
  have g2 : r.toInt ≤ q.toInt := by
    rcases f3 with f3 | ⟨j, a, b, pj, f3⟩
    · rw [f3] at f4; omega
    · rw [f3]; exact e2 j a b pj
  omega
theorem la_mgE (P : Nat → Prop) (u : Nat → Int32) {c a : Nat} (ha : a < c) (pa : P a) {y : Int32} (hy : y.toInt < (u a).toInt) : la_fo (la_mg P u) 0 c (u a) = la_fo (la_mg P u) 0 c y := by
  obtain ⟨e1, e2, e3⟩ := la_mgS P u c 0 (u a)
  obtain ⟨f1, f2, f3⟩ := la_mgS P u c 0 y
  generalize la_fo (la_mg P u) 0 c (u a) = r at e1 e2 e3
  generalize la_fo (la_mg P u) 0 c y = q at f1 f2 f3
  have f4 := f2 a (by omega) (by omega) pa
  rw [la_eq]
  have g1 : r.toInt ≤ q.toInt := by
    rcases e3 with e3 | ⟨j, a, b, pj, e3⟩
    · rw [e3]; exact f4
    · rw [e3]; exact f2 j a b pj
  have g2 : q.toInt ≤ r.toInt := by
    rcases f3 with f3 | ⟨j, a, b, pj, f3⟩
    · rw [f3] at f4; omega
    · rw [f3]; exact e2 j a b pj
  omega
theorem la_Xmn {c d p : Nat} {t s it dr pa gs : Nat → Int32} {a i : Nat} {post : Int32 → Prop} (hL : la_L c s) (ha : a < c) (hi : i < 8) (h : post (la_fo (la_mn (la_al s it a) (la_nu it i)) 0 c (la_nu it i a))) : wpX_leastInColumn post (nI c, nI d, nI p, t, s, it, dr, pa, gs) (nI a) (nI i) := by
  have hc := hL.1
  unfold wpX_leastInColumn
  refine la_Xnu (by omega) ⟨c + 1, ?_⟩
  refine la_fl (fun n x y => wX_leastInColumn_10 post (nI a) (nI i) (nI c) (nI d) (nI p) t s it dr pa gs n x y) post c (la_mn (la_al s it a) (la_nu it i)) ?_ ?_ c 0 (la_nu it i a) (by omega) h
  · intro n x hp
    show wX_leastInColumn_10 post (nI a) (nI i) (nI c) (nI d) (nI p) t s it dr pa gs (n + 1) x (nI c)
    rw [wX_leastInColumn_10]
    exact br_t (nI_le (by omega) (by omega)) hp
  · intro n x l hl g
    show wX_leastInColumn_10 post (nI a) (nI i) (nI c) (nI d) (nI p) t s it dr pa gs (n + 1) x (nI l)
    rw [wX_leastInColumn_10]
    refine br_f (nI_ge hl (by omega)) (la_Xal hL ha hl (la_pb (fun z => nm_r (nI_1 l) ?_) (fun z => la_Xnu (by omega) (br_c (fun w => nm_r (nI_1 l) ?_) (fun w => la_Xnu (by omega) (nm_r (nI_1 l) ?_))))))
    · rw [show la_mn (la_al s it a) (la_nu it i) l x = x from la_if_f (fun q => z q.1)] at g; exact g
    · rw [show la_mn (la_al s it a) (la_nu it i) l x = x from la_if_f (fun q => q.2 w)] at g; exact g
    · rw [show la_mn (la_al s it a) (la_nu it i) l x = la_nu it i l from la_if_t ⟨z, w⟩] at g; exact g
theorem la_Xmg {c d p : Nat} {t s it dr pa gs : Nat → Int32} {a i : Nat} {post : Int32 → Prop} (hL : la_L c s) (ha : a < c) (hi : i < 8) (h : post (la_fo (la_mg (la_al s it a) (la_nu it i)) 0 c (la_nu it i a))) : wpX_greatestInColumn post (nI c, nI d, nI p, t, s, it, dr, pa, gs) (nI a) (nI i) := by
  have hc := hL.1
  unfold wpX_greatestInColumn
  refine la_Xnu (by omega) ⟨c + 1, ?_⟩
  refine la_fl (fun n x y => wX_greatestInColumn_10 post (nI a) (nI i) (nI c) (nI d) (nI p) t s it dr pa gs n x y) post c (la_mg (la_al s it a) (la_nu it i)) ?_ ?_ c 0 (la_nu it i a) (by omega) h
  · intro n x hp
    show wX_greatestInColumn_10 post (nI a) (nI i) (nI c) (nI d) (nI p) t s it dr pa gs (n + 1) x (nI c)
    rw [wX_greatestInColumn_10]
    exact br_t (nI_le (by omega) (by omega)) hp
  · intro n x l hl g
    show wX_greatestInColumn_10 post (nI a) (nI i) (nI c) (nI d) (nI p) t s it dr pa gs (n + 1) x (nI l)
    rw [wX_greatestInColumn_10]
    refine br_f (nI_ge hl (by omega)) (la_Xal hL ha hl (la_pb (fun z => nm_r (nI_1 l) ?_) (fun z => la_Xnu (by omega) (br_c (fun w => nm_r (nI_1 l) ?_) (fun w => la_Xnu (by omega) (nm_r (nI_1 l) ?_))))))
    · rw [show la_mg (la_al s it a) (la_nu it i) l x = x from la_if_f (fun q => z q.1)] at g; exact g
    · rw [show la_mg (la_al s it a) (la_nu it i) l x = x from la_if_f (fun q => q.2 w)] at g; exact g
    · rw [show la_mg (la_al s it a) (la_nu it i) l x = la_nu it i l from la_if_t ⟨z, w⟩] at g; exact g
theorem la_Xsm {c d p : Nat} {t s it dr pa gs : Nat → Int32} {a i : Nat} {post : Int32 → Prop} (hL : la_L c s) (ha : a < c) (hi : i < 8) (h : post (la_fo (la_sm (la_al s it a) (la_nu it i)) 0 c 0)) : wpX_sumOfColumn post (nI c, nI d, nI p, t, s, it, dr, pa, gs) (nI a) (nI i) := by
  have hc := hL.1
  unfold wpX_sumOfColumn
  refine ⟨c + 1, ?_⟩
  refine la_fl (fun n x y => wX_sumOfColumn_5 post (nI a) (nI i) (nI c) (nI d) (nI p) t s it dr pa gs n x y) post c (la_sm (la_al s it a) (la_nu it i)) ?_ ?_ c 0 0 (by omega) h
  · intro n x hp
    show wX_sumOfColumn_5 post (nI a) (nI i) (nI c) (nI d) (nI p) t s it dr pa gs (n + 1) x (nI c)
    rw [wX_sumOfColumn_5]
    exact br_t (nI_le (by omega) (by omega)) hp
  · intro n x l hl g
    show wX_sumOfColumn_5 post (nI a) (nI i) (nI c) (nI d) (nI p) t s it dr pa gs (n + 1) x (nI l)
    rw [wX_sumOfColumn_5]
    refine br_f (nI_ge hl (by omega)) (la_Xal hL ha hl (la_pb (fun z => nm_r (nI_1 l) ?_) (fun z => la_Xnu (by omega) (nm_e (nm_r (nI_1 l) ?_)))))
    · rw [show la_sm (la_al s it a) (la_nu it i) l x = x from la_if_f z] at g; exact g
    · rw [show la_sm (la_al s it a) (la_nu it i) l x = x + la_nu it i l from la_if_t z] at g; exact g
theorem la_sc1 {x y : Int32} (h : x - 1000 = y - 1000) : x = y := by
  have q : x - 1000 + 1000 = y - 1000 + 1000 := by rw [h]
  rw [Int32.sub_add_cancel, Int32.sub_add_cancel] at q
  exact q
theorem la_Xnw {c d p : Nat} {t s it dr pa gs : Nat → Int32} {l i : Nat} {post : Int32 → Prop} (hL : la_L c s) (hl : l < c) (hi : i < 8) (h : post (la_pI (¬ la_nw s it i l))) : wpX_earlierAlikeHasSame post (nI c, nI d, nI p, t, s, it, dr, pa, gs) (nI l) (nI i) := by
  have hc := hL.1
  unfold la_nw at h
  unfold wpX_earlierAlikeHasSame
  refine ⟨l + 1, ?_⟩
  refine la_el (fun n y => wX_earlierAlikeHasSame_2 post (nI l) (nI i) (nI c) (nI d) (nI p) t s it dr pa gs n y) (post 1) (post 0) l (fun j => la_al s it l j ∧ it (8 * j + i) = it (8 * l + i)) ?_ ?_ l 0 (by omega) (fun z => la_p1 h (fun w => w z)) (fun z => la_p0 h (fun w => w z))
  · intro n hp
    show wX_earlierAlikeHasSame_2 post (nI l) (nI i) (nI c) (nI d) (nI p) t s it dr pa gs (n + 1) (nI l)
    rw [wX_earlierAlikeHasSame_2]
    exact br_t (nI_le (by omega) (by omega)) hp
  · intro n j hj f g
    show wX_earlierAlikeHasSame_2 post (nI l) (nI i) (nI c) (nI d) (nI p) t s it dr pa gs (n + 1) (nI j)
    rw [wX_earlierAlikeHasSame_2]
    refine br_f (nI_ge hj (by omega)) (la_Xal hL hl (by omega) (la_pb (fun z => nm_r (nI_1 j) (g (fun q => z q.1))) (fun z => la_Xnu (by omega) (la_Xnu (by omega) (br_c (fun w => f ⟨z, la_sc1 w⟩) (fun w => nm_r (nI_1 j) (g (fun q => w ?_))))))))
    rw [q.2]
theorem la_Ynw {c d p : Nat} {t s it dr pa tb : Nat → Int32} {l i : Nat} {post : Int32 → Prop} (hL : la_L c s) (hl : l < c) (hi : i < 8) (h : post (la_pI (la_nw s it i l))) : wpY_isNew post (nI c, nI d, nI p, t, s, it, dr, pa, tb) (nI l) (nI i) := by
  have hc := hL.1
  unfold la_nw at h
  unfold wpY_isNew
  refine ⟨l + 1, ?_⟩
  refine la_el (fun n y => wY_isNew_2 post (nI l) (nI i) (nI c) (nI d) (nI p) t s it dr pa tb n y) (post 0) (post 1) l (fun j => la_al s it l j ∧ it (8 * j + i) = it (8 * l + i)) ?_ ?_ l 0 (by omega) (fun z => la_p0 h (fun w => w z)) (fun z => la_p1 h z)
  · intro n hp
    show wY_isNew_2 post (nI l) (nI i) (nI c) (nI d) (nI p) t s it dr pa tb (n + 1) (nI l)
    rw [wY_isNew_2]
    exact br_t (nI_le (by omega) (by omega)) hp
  · intro n j hj f g
    show wY_isNew_2 post (nI l) (nI i) (nI c) (nI d) (nI p) t s it dr pa tb (n + 1) (nI j)
    rw [wY_isNew_2]
    dsimp only
    rw [la_iy, la_iy, nI_clamp (n := 8 * j + i) (by omega), nI_clamp (n := 8 * l + i) (by omega)]
    exact br_f (nI_ge hj (by omega)) (la_Yal hL (by omega) hl (la_pb (fun z => nm_r (nI_1 j) (g (fun q => z (la_al_s q.1)))) (fun z => ⟨vp_in_nI (by omega) (by omega), vp_in_nI (by omega) (by omega), br_c (fun w => f ⟨la_al_s z, w⟩) (fun w => nm_r (nI_1 j) (g (fun q => w q.2)))⟩)))
theorem la_Xdf {c d p : Nat} {t s it dr pa gs : Nat → Int32} {a i : Nat} {post : Int32 → Prop} (hL : la_L c s) (ha : a < c) (hi : i < 8) (h : post (la_fo (la_df (fun l => la_al s it a l ∧ la_nw s it i l)) 0 c 0)) : wpX_differentInColumn post (nI c, nI d, nI p, t, s, it, dr, pa, gs) (nI a) (nI i) := by
  have hc := hL.1
  unfold wpX_differentInColumn
  refine ⟨c + 1, ?_⟩
  refine la_fl (fun n x y => wX_differentInColumn_5 post (nI a) (nI i) (nI c) (nI d) (nI p) t s it dr pa gs n x y) post c (la_df (fun l => la_al s it a l ∧ la_nw s it i l)) ?_ ?_ c 0 0 (by omega) h
  · intro n x hp
    show wX_differentInColumn_5 post (nI a) (nI i) (nI c) (nI d) (nI p) t s it dr pa gs (n + 1) x (nI c)
    rw [wX_differentInColumn_5]
    exact br_t (nI_le (by omega) (by omega)) hp
  · intro n x l hl g
    show wX_differentInColumn_5 post (nI a) (nI i) (nI c) (nI d) (nI p) t s it dr pa gs (n + 1) x (nI l)
    rw [wX_differentInColumn_5]
    refine br_f (nI_ge hl (by omega)) (la_Xal hL ha hl (la_pb (fun z => nm_r (nI_1 l) ?_) (fun z => la_Xnw hL hl hi (la_pb (fun w => nm_e (nm_r (nI_1 l) ?_)) (fun w => nm_r (nI_1 l) ?_)))))
    · rw [show la_df (fun l => la_al s it a l ∧ la_nw s it i l) l x = x from la_if_f (fun q => z q.1)] at g; exact g
    · rw [show la_df (fun l => la_al s it a l ∧ la_nw s it i l) l x = x + 1 from la_if_t ⟨z, Classical.byContradiction w⟩] at g; exact g
    · rw [show la_df (fun l => la_al s it a l ∧ la_nw s it i l) l x = x from la_if_f (fun q => w q.2)] at g; exact g
theorem la_Yco {c d p : Nat} {t s it dr pa tb : Nat → Int32} {a i : Nat} {v : Int32} {post : Int32 → Prop} (hL : la_L c s) (ha : a < c) (hi : i < 8) : ∀ m l x4 x5 x6 x7, l + m = c → (v = 0 → post (la_fo (la_mn (la_al s it a) (la_nu it i)) l m x4)) → (¬ v = 0 → v = 1 → post (la_fo (la_mg (la_al s it a) (la_nu it i)) l m x5)) → (¬ v = 0 → ¬ v = 1 → v = 2 → post (la_fo (la_sm (la_al s it a) (la_nu it i)) l m x6)) → (¬ v = 0 → ¬ v = 1 → ¬ v = 2 → post (la_fo (la_df (fun l => la_al s it a l ∧ la_nw s it i l)) l m x7)) → wY_column_70 post (nI a) (nI i) v (nI c) (nI d) (nI p) t s it dr pa tb (m + 1) x4 x5 x6 x7 (nI l) := by
  have hc := hL.1
  intro m
  induction m with
  | zero =>
    intro l x4 x5 x6 x7 hl h0 h1 h2 h3
    rw [wY_column_70]
    exact br_t (nI_le (by omega) (by omega)) (br_c h0 (fun z => br_c (h1 z) (fun w => br_c (h2 z w) (h3 z w))))
  | succ m ih =>
    intro l x4 x5 x6 x7 hl h0 h1 h2 h3
    have g := ih (l + 1) (la_mn (la_al s it a) (la_nu it i) l x4) (la_mg (la_al s it a) (la_nu it i) l x5) (la_sm (la_al s it a) (la_nu it i) l x6) (la_df (fun l => la_al s it a l ∧ la_nw s it i l) l x7) (by omega) h0 h1 h2 h3
    rw [wY_column_70]
    dsimp only
    rw [la_iy, nI_clamp (n := 8 * l + i) (by omega)]
    refine br_f (nI_ge (by omega) (by omega)) (la_Yal hL (by omega) ha (la_pb (fun z => nm_r (nI_1 l) ?_) (fun z => ⟨vp_in_nI (by omega) (by omega), nm_e ?_⟩)))
    · have z' : ¬ la_al s it a l := fun q => z (la_al_s q)
      rw [show la_mn (la_al s it a) (la_nu it i) l x4 = x4 from la_if_f (fun q => z' q.1), show la_mg (la_al s it a) (la_nu it i) l x5 = x5 from la_if_f (fun q => z' q.1), show la_sm (la_al s it a) (la_nu it i) l x6 = x6 from la_if_f z', show la_df (fun l => la_al s it a l ∧ la_nw s it i l) l x7 = x7 from la_if_f (fun q => z' q.1)] at g
      exact g
    · have z' : la_al s it a l := la_al_s z
      rw [show la_sm (la_al s it a) (la_nu it i) l x6 = x6 + la_nu it i l from la_if_t z'] at g
      have key : wY_column_137 post (wY_column_70 post (nI a) (nI i) v (nI c) (nI d) (nI p) t s it dr pa tb (m + 1)) (nI a) (nI i) v (la_mn (la_al s it a) (la_nu it i) l x4) x6 x7 (nI l) (la_nu it i l) (la_mg (la_al s it a) (la_nu it i) l x5) (nI c) (nI d) (nI p) t s it dr pa tb := by
        unfold wY_column_137
        refine nm_e (la_Ynw hL (by omega) hi (la_pb (fun w => nm_r (nI_1 l) ?_) (fun w => nm_e (nm_r (nI_1 l) ?_))))
        · rw [show la_df (fun l => la_al s it a l ∧ la_nw s it i l) l x7 = x7 from la_if_f (fun q => w q.2)] at g; exact g
        · rw [show la_df (fun l => la_al s it a l ∧ la_nw s it i l) l x7 = x7 + 1 from la_if_t ⟨z', w⟩] at g; exact g
      have key2 : wY_column_121 post (wY_column_70 post (nI a) (nI i) v (nI c) (nI d) (nI p) t s it dr pa tb (m + 1)) (nI a) (nI i) v x5 x6 x7 (nI l) (la_nu it i l) (la_mn (la_al s it a) (la_nu it i) l x4) (nI c) (nI d) (nI p) t s it dr pa tb := by
        unfold wY_column_121
        refine br_c (fun w => ?_) (fun w => ?_)
        · rw [show la_mg (la_al s it a) (la_nu it i) l x5 = x5 from la_if_f (fun q => q.2 w)] at key; exact key
        · rw [show la_mg (la_al s it a) (la_nu it i) l x5 = la_nu it i l from la_if_t ⟨z', w⟩] at key; exact key
      refine br_c (fun w => ?_) (fun w => ?_)
      · rw [show la_mn (la_al s it a) (la_nu it i) l x4 = x4 from la_if_f (fun q => q.2 w)] at key2; exact key2
      · rw [show la_mn (la_al s it a) (la_nu it i) l x4 = la_nu it i l from la_if_t ⟨z', w⟩] at key2; exact key2
theorem i_vc_column {k : Nat} {u : SX} {v : SY} (I : i_Rel k u v) (hk : k + 4 ≤ 2048) (v1 : Int32) (v2 : Int32) (v3 : Int32) : wpX_column (fun r => wpY_column (fun r' => r' = r ∧ i_Rel (k + 4) u v) v v1 v2 v3) u v1 v2 v3 := by
  obtain ⟨c, d, p, t, s, it, dr, pa, gs, tb, rfl, rfl, hI⟩ := I
  have hL := hI.1
  have hc := hL.1
  unfold wpX_column
  dsimp only
  rcases la_cs hL v1 with hb | ⟨a, ha, rfl⟩
  · refine la_Xg1 hb (la_t1 ?_)
    unfold wpY_column
    exact la_Yg1 hb (la_t2 ⟨rfl, la_mk hI⟩)
  have va : vp_in (nI a) 60 := vp_in_nI (by omega) (by omega)
  obtain ⟨e, l1, l8⟩ := hL.2 a ha
  refine la_Xg2 hL ha (la_t2 ?_)
  by_cases n0 : v3 < 0
  · refine br_t n0 ?_
    unfold wpY_column
    exact la_Yg2 hL ha (la_t1 (br_t n0 ⟨rfl, la_mk hI⟩))
  refine br_f n0 ?_
  by_cases n3 : v3 ≤ 3
  · refine br_t n3 ?_
    rcases la_ci hL ha v2 with hb | ⟨i, hi, rfl⟩
    · refine la_Xh1 hL ha hb (la_t1 ?_)
      unfold wpY_column
      dsimp only
      rw [nI_clamp (n := a) (by omega), e]
      refine la_Yg2 hL ha (la_t1 (br_f n0 (br_t n3 ?_)))
      by_cases z : v2 < 0
      · exact br_t z ⟨rfl, la_mk hI⟩
      · exact br_f z ⟨va, br_t (hb.resolve_left z) ⟨rfl, la_mk hI⟩⟩
    · have ok := hI.2.2.2.2.1 a ha i hi
      unfold la_ok at ok
      refine la_Xh2 hL ha hi (la_t2 (la_Xit (by omega) (la_Xnum (la_pb (fun z => ?_) (fun z => ?_)))))
      · unfold wpY_column
        dsimp only
        rw [nI_clamp (n := a) (by omega), e]
        refine la_Yg2 hL ha (la_t1 (br_f n0 (br_t n3 (br_f (nI_pos (by omega)) ⟨va, br_f (nI_ge hi (by omega)) ?_⟩))))
        rw [la_iy, nI_clamp (n := 8 * a + i) (by omega)]
        exact ⟨vp_in_nI (by omega) (by omega), br_f (by rw [la_le, la_k1000]; omega) ⟨rfl, la_mk hI⟩⟩
      · have nu : (la_nu it i a).toInt = (it (8 * a + i)).toInt - 1000 := la_s1000 (by omega) (by omega)
        have kn := la_mnE (la_al s it a) (la_nu it i) ha (la_al_r s it a) (y := 1000) (by rw [la_k1000]; omega)
        have kg := la_mgE (la_al s it a) (la_nu it i) ha (la_al_r s it a) (y := -1) (by rw [la_km1]; omega)
        have ky : ∀ (post : Int32 → Prop), (v3 = 0 → post (la_fo (la_mn (la_al s it a) (la_nu it i)) 0 c (la_nu it i a))) → (¬ v3 = 0 → v3 = 1 → post (la_fo (la_mg (la_al s it a) (la_nu it i)) 0 c (la_nu it i a))) → (¬ v3 = 0 → ¬ v3 = 1 → v3 = 2 → post (la_fo (la_sm (la_al s it a) (la_nu it i)) 0 c 0)) → (¬ v3 = 0 → ¬ v3 = 1 → ¬ v3 = 2 → post (la_fo (la_df (fun l => la_al s it a l ∧ la_nw s it i l)) 0 c 0)) → wpY_column post (nI c, nI d, nI p, t, s, it, dr, pa, tb) (nI a) (nI i) v3 := by
          intro post h0 h1 h2 h3
          rw [kn] at h0
          rw [kg] at h1
          unfold wpY_column
          dsimp only
          rw [nI_clamp (n := a) (by omega), e, la_iy, nI_clamp (n := 8 * a + i) (by omega)]
          refine la_Yg2 hL ha (la_t1 (br_f n0 (br_t n3 (br_f (nI_pos (by omega)) ⟨va, br_f (nI_ge hi (by omega)) ⟨vp_in_nI (by omega) (by omega), br_t (by rw [la_le, la_k1000]; omega) ⟨c + 1, ?_⟩⟩⟩))))
          exact la_Yco hL ha (by omega) c 0 1000 (-1) 0 0 (by omega) h0 h1 h2 h3
        refine br_f n0 (br_c (fun w => la_Xdf hL ha (by omega) ?_) (fun w => br_c (fun w0 => la_Xmn hL ha (by omega) ?_) (fun w0 => br_c (fun w1 => la_Xmg hL ha (by omega) ?_) (fun w1 => br_c (fun w2 => la_Xsm hL ha (by omega) ?_) (fun _ => trivial)))))
        · refine ky _ ?_ ?_ ?_ (fun _ _ _ => ⟨rfl, la_mk hI⟩)
          · intro q; rw [q] at w; exact absurd w (by decide)
          · intro _ q; rw [q] at w; exact absurd w (by decide)
          · intro _ _ q; rw [q] at w; exact absurd w (by decide)
        · exact ky _ (fun _ => ⟨rfl, la_mk hI⟩) (fun z => absurd w0 z) (fun z => absurd w0 z) (fun z => absurd w0 z)
        · exact ky _ (fun z => absurd z w0) (fun _ _ => ⟨rfl, la_mk hI⟩) (fun _ z => absurd w1 z) (fun _ z => absurd w1 z)
        · exact ky _ (fun z => absurd z w0) (fun _ z => absurd z w1) (fun _ _ _ => ⟨rfl, la_mk hI⟩) (fun _ _ z => absurd w2 z)
  · refine br_f n3 ?_
    unfold wpY_column
    exact la_Yg2 hL ha (la_t1 (br_f n0 (br_f n3 ⟨rfl, la_mk hI⟩)))
