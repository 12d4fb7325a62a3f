theorem la_Xnum {x : Int32} {post : Int32 → Prop} (h : post (la_pI (1000 ≤ x.toInt ∧ x.toInt ≤ 1999))) : wpX_isNumber post x := by
  unfold wpX_isNumber
  rw [la_lt, la_lt, la_k1000, la_k1999]
  exact br_c (fun a => la_p0 h (by omega)) (fun a => br_c (fun b => la_p0 h (by omega)) (fun b => la_p1 h (by omega)))
theorem la_Xwrd {x : Int32} {post : Int32 → Prop} (h : post (la_pI (0 ≤ x.toInt ∧ x.toInt ≤ 23))) : wpX_isWord post x := by
  unfold wpX_isWord
  rw [la_lt, la_lt, la_k0, la_k23]
  exact br_c (fun a => la_p0 h (by omega)) (fun a => br_c (fun b => la_p0 h (by omega)) (fun b => la_p1 h (by omega)))
theorem la_Xabv {x : Int32} {post : Int32 → Prop} (h : post (la_pI (3000 ≤ x.toInt ∧ x.toInt ≤ 3999))) : wpX_isAbove post x := by
  unfold wpX_isAbove
  rw [la_lt, la_lt, la_k3000, la_k3999]
  exact br_c (fun a => la_p0 h (by omega)) (fun a => br_c (fun b => la_p0 h (by omega)) (fun b => la_p1 h (by omega)))
theorem la_Xok {x : Int32} {post : Int32 → Prop} (h : post (la_pI (la_ok x))) : wpX_isItem post x := by
  unfold wpX_isItem
  unfold la_ok at h
  exact la_Xwrd (la_pb (fun a => la_Xnum (la_pb (fun b => la_p0 h (by omega)) (fun b => la_p1 h (by omega)))) (fun a => la_p1 h (by omega)))
theorem la_Yok {c d p : Nat} {t s it dr pa tb : Nat → Int32} {x : Int32} {post : Int32 → Prop} (h : post (la_pI (¬ la_ok x))) : wpY_badItem post (nI c, nI d, nI p, t, s, it, dr, pa, tb) x := by
  unfold wpY_badItem
  unfold la_ok at h
  dsimp only
  rw [la_lt, la_lt, la_le, la_le, la_k0, la_k23, la_k1000, la_k1999]
  exact br_c (fun a => la_p1 h (by omega)) (fun a => br_c (fun b => la_p1 h (by omega)) (fun b => br_c (fun e => la_p0 h (by omega)) (fun e => br_c (fun g => la_p0 h (by omega)) (fun g => la_p1 h (by omega)))))
theorem la_Xokp {x : Int32} {post : Int32 → Prop} (h : post (la_pI (la_okp x))) : wpX_isPart post x := by
  unfold wpX_isPart
  unfold la_okp at h
  refine la_Xok (la_pb (fun a => ?_) (fun a => la_p1 h (Or.inl a)))
  rw [la_eq, la_k2000, la_eq, la_k2001, la_eq, la_k2002]
  refine br_c (fun b => la_p1 h (by omega)) (fun b => br_c (fun e => la_p1 h (by omega)) (fun e => br_c (fun f => la_p1 h (by omega)) (fun f => la_Xabv (la_pb (fun g => la_p0 h ?_) (fun g => la_p1 h (by omega))))))
  rintro (q | q | q)
  · exact a q
  · omega
  · omega
theorem i_vc_item {k : Nat} {u : SX} {v : SY} (I : i_Rel k u v) (hk : k + 4 ≤ 2048) (v1 : Int32) : wpX_item (fun r u' => wpY_item (fun r' v' => r' = r ∧ i_Rel (k + 4) u' v') v v1) u v1 := by
  obtain ⟨c, d, p, t, s, it, dr, pa, gs, tb, rfl, rfl, hI⟩ := I
  have hd8 := hI.2.1
  unfold wpX_item wpY_item
  dsimp only
  refine la_Xok (la_pb (fun z => la_Yok (la_pb (fun w => absurd z w) (fun w => ⟨rfl, la_mk hI⟩))) (fun z => ?_))
  refine pk_lt d 8 (fun hd => ⟨vp_in_nI hd (by omega), fun a5 e5 f6 e6 => ?_⟩) (fun hd => ?_)
  · rw [nI_clamp (by omega)] at e5
    rw [nI_1] at e6
    subst e5 e6
    refine la_Yok (la_pb (fun w => ?_) (fun w => absurd z w))
    refine pk_eq d 8 (fun e => by omega) (fun _ => ⟨vp_in_nI hd (by omega), fun a7 e7 f8 e8 => ?_⟩)
    rw [nI_clamp (by omega)] at e7
    rw [nI_1] at e8
    subst e7 e8
    refine ⟨rfl, la_mk ?_⟩
    obtain ⟨h1, h2, h3, h4, h5, h6, h7⟩ := hI
    refine ⟨h1, hd, h3, h4, h5, fun i hi => ?_, h7⟩
    by_cases q : i = d
    · rw [q, pk_us]; exact z
    · rw [pk_un q]; exact h6 i (by omega)
  · refine la_Yok (la_pb (fun w => ?_) (fun w => absurd z w))
    exact pk_eq d 8 (fun _ => ⟨rfl, la_mk hI⟩) (fun e => absurd (by omega) e)
theorem i_vc_part {k : Nat} {u : SX} {v : SY} (I : i_Rel k u v) (hk : k + 4 ≤ 2048) (v1 : Int32) : wpX_part (fun r u' => wpY_part (fun r' v' => r' = r ∧ i_Rel (k + 4) u' v') v v1) u v1 := by
  obtain ⟨c, d, p, t, s, it, dr, pa, gs, tb, rfl, rfl, hI⟩ := I
  have hp8 := hI.2.2.1
  have key : ∀ post : Int32 → SY → Prop, ∀ (z0 : Prop), (z0 ↔ la_okp v1) → wY_part_41 post v1 (la_pI z0) (nI c) (nI d) (nI p) t s it dr pa tb → wpY_part post (nI c, nI d, nI p, t, s, it, dr, pa, tb) v1 := by
    intro post z0 hz h
    have h1 : la_okp v1 → wY_part_36 post v1 (nI c) (nI d) (nI p) t s it dr pa tb := by
      intro q
      rw [la_pt (hz.mpr q)] at h
      exact h
    have h0 : ¬ la_okp v1 → wY_part_40 post v1 (nI c) (nI d) (nI p) t s it dr pa tb := by
      intro q
      rw [la_pf (fun w => q (hz.mp w))] at h
      exact h
    unfold la_okp at h1 h0
    unfold wpY_part
    dsimp only
    refine la_Yok (la_pb (fun w => h1 (Or.inl (Classical.byContradiction w))) (fun w => ?_))
    unfold wY_part_22
    rw [la_lt, la_le, la_lt, la_lt, la_k2000, la_k2002, la_k3000, la_k3999]
    have h0' : ¬ (2000 ≤ v1.toInt ∧ v1.toInt ≤ 2002) → ¬ (3000 ≤ v1.toInt ∧ v1.toInt ≤ 3999) → wY_part_40 post v1 (nI c) (nI d) (nI p) t s it dr pa tb := fun a b => h0 (by rintro (q | q | q); exact w q; exact a q; exact b q)
    exact br_c (fun a => br_c (fun b => h0' (by omega) (by omega)) (fun b => br_c (fun e => h0' (by omega) (by omega)) (fun e => h1 (by omega)))) (fun a => br_c (fun b => h1 (by omega)) (fun b => br_c (fun e => h0' (by omega) (by omega)) (fun e => br_c (fun f => h0' (by omega) (by omega)) (fun f => h1 (by omega)))))
  unfold wpX_part
  dsimp only
  refine la_Xokp (la_pb (fun z => key _ (la_okp v1) Iff.rfl ?_) (fun z => ?_))
  · rw [la_pf z]
    exact la_t1 ⟨rfl, la_mk hI⟩
  · refine pk_lt p 8 (fun hd => ⟨vp_in_nI hd (by omega), fun a5 e5 f6 e6 => ?_⟩) (fun hd => ?_)
    · rw [nI_clamp (by omega)] at e5
      rw [nI_1] at e6
      subst e5 e6
      refine key _ (la_okp v1) Iff.rfl ?_
      rw [la_pt z]
      refine la_t2 (pk_eq p 8 (fun e => by omega) (fun _ => ⟨vp_in_nI hd (by omega), fun a7 e7 f8 e8 => ?_⟩))
      rw [nI_clamp (by omega)] at e7
      rw [nI_1] at e8
      subst e7 e8
      refine ⟨rfl, la_mk ?_⟩
      obtain ⟨h1, h2, h3, h4, h5, h6, h7⟩ := hI
      refine ⟨h1, h2, hd, h4, h5, h6, fun i hi => ?_⟩
      by_cases q : i = p
      · rw [q, pk_us]; exact z
      · rw [pk_un q]; exact h7 i (by omega)
    · refine key _ (la_okp v1) Iff.rfl ?_
      rw [la_pt z]
      exact la_t2 (pk_eq p 8 (fun _ => ⟨rfl, la_mk hI⟩) (fun e => absurd (by omega) e))
theorem i_vc_blank {k : Nat} {u : SX} {v : SY} (I : i_Rel k u v) (hk : k + 4 ≤ 2048) : wpX_blank (fun r u' => wpY_blank (fun r' v' => r' = r ∧ i_Rel (k + 4) u' v') v) u := by
  obtain ⟨c, d, p, t, s, it, dr, pa, gs, tb, rfl, rfl, hI⟩ := I
  obtain ⟨h1, h2, h3, h4, h5, h6, h7⟩ := hI
  exact ⟨rfl, c, d, 0, t, s, it, dr, pa, gs, tb, rfl, rfl, h1, h2, by omega, h4, h5, h6, fun i hi => by omega⟩
theorem i_vc_lines {k : Nat} {u : SX} {v : SY} (I : i_Rel k u v) (hk : k + 4 ≤ 2048) : wpX_lines (fun r => wpY_lines (fun r' => r' = r ∧ i_Rel (k + 4) u v) v) u := by
  obtain ⟨c, d, p, t, s, it, dr, pa, gs, tb, rfl, rfl, hI⟩ := I
  exact ⟨rfl, la_mk hI⟩
theorem i_vc_time {k : Nat} {u : SX} {v : SY} (I : i_Rel k u v) (hk : k + 4 ≤ 2048) (v1 : Int32) : wpX_time (fun r => wpY_time (fun r' => r' = r ∧ i_Rel (k + 4) u v) v v1) u v1 := by
  obtain ⟨c, d, p, t, s, it, dr, pa, gs, tb, rfl, rfl, hI⟩ := I
  have hL := hI.1
  have hc := hL.1
  unfold wpX_time wpY_time
  dsimp only
  rcases la_cs hL v1 with hb | ⟨j, hj, rfl⟩
  · exact la_Xg1 hb (la_t1 (la_Yg1 hb (la_t2 ⟨rfl, la_mk hI⟩)))
  · have vj : vp_in (nI j) 60 := vp_in_nI (by omega) (by omega)
    exact la_Xg2 hL hj (la_t2 ⟨vj, la_Yg2 hL hj (la_t1 ⟨vj, rfl, la_mk hI⟩)⟩)
theorem i_vc_length {k : Nat} {u : SX} {v : SY} (I : i_Rel k u v) (hk : k + 4 ≤ 2048) (v1 : Int32) : wpX_length (fun r => wpY_length (fun r' => r' = r ∧ i_Rel (k + 4) u v) v v1) u v1 := by
  obtain ⟨c, d, p, t, s, it, dr, pa, gs, tb, rfl, rfl, hI⟩ := I
  have hL := hI.1
  have hc := hL.1
  unfold wpX_length wpY_length
  dsimp only
  rcases la_cs hL v1 with hb | ⟨j, hj, rfl⟩
  · exact la_Xg1 hb (la_t1 (la_Yg1 hb (la_t2 ⟨rfl, la_mk hI⟩)))
  · have vj : vp_in (nI j) 60 := vp_in_nI (by omega) (by omega)
    exact la_Xg2 hL hj (la_t2 ⟨vj, la_Yg2 hL hj (la_t1 ⟨vj, rfl, la_mk hI⟩)⟩)
theorem la_Xh1 {c d p : Nat} {t s it dr pa gs : Nat → Int32} {j : Nat} {x : Int32} {post : Int32 → Prop} (hL : la_L c s) (hj : j < c) (hb : x < 0 ∨ nI (la_n s j) ≤ x) (h : post 0) : wpX_hasPlace post (nI c, nI d, nI p, t, s, it, dr, pa, gs) (nI j) x := by
  have hc := hL.1
  obtain ⟨e, _, _⟩ := hL.2 j hj
  unfold wpX_hasPlace
  dsimp only
  rw [nI_clamp (by omega), e]
  by_cases z : x < 0
  · exact br_t z h
  · exact br_f z ⟨vp_in_nI (by omega) (by omega), br_t (hb.resolve_left z) h⟩
theorem la_Xh2 {c d p : Nat} {t s it dr pa gs : Nat → Int32} {j i : Nat} {post : Int32 → Prop} (hL : la_L c s) (hj : j < c) (hi : i < la_n s j) (h : post 1) : wpX_hasPlace post (nI c, nI d, nI p, t, s, it, dr, pa, gs) (nI j) (nI i) := by
  have hc := hL.1
  obtain ⟨e, _, _⟩ := hL.2 j hj
  unfold wpX_hasPlace
  dsimp only
  rw [nI_clamp (by omega), e]
  exact br_f (nI_pos (by omega)) ⟨vp_in_nI (by omega) (by omega), br_f (nI_ge hi (by omega)) h⟩
theorem la_ci {c : Nat} {s : Nat → Int32} (hL : la_L c s) {j : Nat} (hj : j < c) (x : Int32) : (x < 0 ∨ nI (la_n s j) ≤ x) ∨ ∃ i, i < la_n s j ∧ x = nI i := by
  obtain ⟨_, _, _⟩ := hL.2 j hj
  rcases pk_ix x (n := la_n s j) (by omega) with h | h | h
  · exact Or.inl (Or.inl h)
  · exact Or.inl (Or.inr h)
  · exact Or.inr h
theorem i_vc_at {k : Nat} {u : SX} {v : SY} (I : i_Rel k u v) (hk : k + 4 ≤ 2048) (v1 : Int32) (v2 : Int32) : wpX_at (fun r => wpY_at (fun r' => r' = r ∧ i_Rel (k + 4) u v) v v1 v2) u v1 v2 := by
  obtain ⟨c, d, p, t, s, it, dr, pa, gs, tb, rfl, rfl, hI⟩ := I
  have hL := hI.1
  have hc := hL.1
  unfold wpX_at wpY_at
  dsimp only
  rcases la_cs hL v1 with hb | ⟨j, hj, rfl⟩
  · exact la_Xg1 hb (la_t1 (la_Yg1 hb (la_t2 ⟨rfl, la_mk hI⟩)))
  · have vj : vp_in (nI j) 60 := vp_in_nI (by omega) (by omega)
    obtain ⟨e, l1, l8⟩ := hL.2 j hj
    rw [nI_clamp (n := j) (by omega), e]
    refine la_Xg2 hL hj (la_t2 ?_)
    rcases la_ci hL hj v2 with hb | ⟨i, hi, rfl⟩
    · refine la_Xh1 hL hj hb (la_t1 (la_Yg2 hL hj (la_t1 ?_)))
      by_cases z : v2 < 0
      · exact br_t z ⟨rfl, la_mk hI⟩
      · exact br_f z ⟨vj, br_f (Int32.not_lt.mpr (hb.resolve_left z)) ⟨rfl, la_mk hI⟩⟩
    · refine la_Xh2 hL hj hi (la_t2 (la_Xit (by omega) (la_Yg2 hL hj (la_t1 ?_))))
      rw [la_iy, nI_clamp (n := 8 * j + i) (by omega)]
      exact br_f (nI_pos (by omega)) ⟨vj, br_t (nI_lt hi (by omega)) ⟨vp_in_nI (by omega) (by omega), rfl, la_mk hI⟩⟩
