theorem la_Xit {c d p : Nat} {t s it dr pa gs : Nat → Int32} {a i : Nat} {post : Int32 → Prop} (hb : 8 * a + i < 480) (h : post (it (8 * a + i))) : wpX_itemAt post (nI c, nI d, nI p, t, s, it, dr, pa, gs) (nI a) (nI i) := by
  unfold wpX_itemAt
  dsimp only
  rw [la_ix, nI_clamp (by omega)]
  exact ⟨vp_in_nI hb (by omega), h⟩
theorem la_Xnu {c d p : Nat} {t s it dr pa gs : Nat → Int32} {a i : Nat} {post : Int32 → Prop} (hb : 8 * a + i < 480) (h : post (it (8 * a + i) - 1000)) : wpX_numberAt post (nI c, nI d, nI p, t, s, it, dr, pa, gs) (nI a) (nI i) := by
  unfold wpX_numberAt
  dsimp only
  rw [la_ix, nI_clamp (by omega)]
  exact ⟨vp_in_nI hb (by omega), h⟩
theorem la_Xsk {x y : Int32} {post : Int32 → Prop} (h : post (la_pI (la_sk x y))) : wpX_sameKind post x y := by
  unfold wpX_sameKind
  refine br_c (fun e => la_p1 h (Or.inl e)) (fun e => br_c (fun z => la_p0 h ?_) (fun z => br_c (fun w => la_p0 h ?_) (fun w => la_p1 h (Or.inr ⟨z, w⟩))))
  · rintro (q | ⟨q, _⟩)
    · exact e q
    · exact q z
  · rintro (q | ⟨_, q⟩)
    · exact e q
    · exact q w
theorem la_Xal {c d p : Nat} {t s it dr pa gs : Nat → Int32} {a b : Nat} {post : Int32 → Prop} (hL : la_L c s) (ha : a < c) (hb : b < c) (h : post (la_pI (la_al s it a b))) : wpX_alike post (nI c, nI d, nI p, t, s, it, dr, pa, gs) (nI a) (nI b) := by
  obtain ⟨hc, hL⟩ := hL
  obtain ⟨ea, la, ua⟩ := hL a ha
  have va : vp_in (nI a) 60 := vp_in_nI (by omega) (by omega)
  have vb : vp_in (nI b) 60 := vp_in_nI (by omega) (by omega)
  have ca : (nI a).toNatClampNeg = a := nI_clamp (by omega)
  have cb : (nI b).toNatClampNeg = b := nI_clamp (by omega)
  unfold wpX_alike
  dsimp only
  rw [ca, cb]
  refine ⟨va, vb, fun e => ⟨la_n s a + 1, ?_⟩, fun e => la_p0 h (fun z => e z.1)⟩
  refine la_el (fun n x => wX_alike_19 post (nI a) (nI b) (nI c) (nI d) (nI p) t s it dr pa gs n x) (post 0) (post 1) (la_n s a) (fun i => ¬ la_sk (it (8 * a + i)) (it (8 * b + i))) ?_ ?_ (la_n s a) 0 (by omega) ?_ ?_
  · intro n hp
    show wX_alike_19 post (nI a) (nI b) (nI c) (nI d) (nI p) t s it dr pa gs (n + 1) (nI (la_n s a))
    rw [wX_alike_19, ca]
    exact ⟨va, br_t (by rw [ea]; exact nI_le (by omega) (by omega)) hp⟩
  · intro n i hi f g
    show wX_alike_19 post (nI a) (nI b) (nI c) (nI d) (nI p) t s it dr pa gs (n + 1) (nI i)
    rw [wX_alike_19, ca]
    refine ⟨va, br_f (by rw [ea]; exact nI_ge hi (by omega)) ?_⟩
    refine la_Xit (by omega) (la_Xit (by omega) (la_Xsk ?_))
    exact la_pb f (fun z => nm_r (nI_1 i) (g (fun w => w z)))
  · rintro ⟨j, _, hj, hn⟩
    exact la_p0 h (fun z => hn (z.2 j hj))
  · intro hn
    refine la_p1 h ⟨e, fun i hi => ?_⟩
    by_cases q : la_sk (it (8 * a + i)) (it (8 * b + i))
    · exact q
    · exact absurd ⟨i, by omega, hi, q⟩ hn
theorem la_Yal {c d p : Nat} {t s it dr pa tb : Nat → Int32} {a b : Nat} {post : Int32 → Prop} (hL : la_L c s) (ha : a < c) (hb : b < c) (h : post (la_pI (la_al s it a b))) : wpY_areAlike post (nI c, nI d, nI p, t, s, it, dr, pa, tb) (nI a) (nI b) := by
  obtain ⟨hc, hL⟩ := hL
  obtain ⟨ea, la, ua⟩ := hL a ha
  have va : vp_in (nI a) 60 := vp_in_nI (by omega) (by omega)
  have vb : vp_in (nI b) 60 := vp_in_nI (by omega) (by omega)
  have ca : (nI a).toNatClampNeg = a := nI_clamp (by omega)
  have cb : (nI b).toNatClampNeg = b := nI_clamp (by omega)
  unfold wpY_areAlike
  dsimp only
  rw [ca, cb]
  refine ⟨va, vb, fun e => ⟨la_n s a + 1, ?_⟩, fun e => la_p0 h (fun z => e z.1)⟩
  refine la_el (fun n x => wY_areAlike_19 post (nI a) (nI b) (nI c) (nI d) (nI p) t s it dr pa tb n x) (post 0) (post 1) (la_n s a) (fun i => ¬ la_sk (it (8 * a + i)) (it (8 * b + i))) ?_ ?_ (la_n s a) 0 (by omega) ?_ ?_
  · intro n hp
    show wY_areAlike_19 post (nI a) (nI b) (nI c) (nI d) (nI p) t s it dr pa tb (n + 1) (nI (la_n s a))
    rw [wY_areAlike_19, ca]
    exact ⟨va, br_t (by rw [ea]; exact nI_le (by omega) (by omega)) hp⟩
  · intro n i hi f g
    show wY_areAlike_19 post (nI a) (nI b) (nI c) (nI d) (nI p) t s it dr pa tb (n + 1) (nI i)
    rw [wY_areAlike_19]
    dsimp only
    rw [ca, la_iy, la_iy, nI_clamp (by omega), nI_clamp (by omega)]
    refine ⟨va, br_f (by rw [ea]; exact nI_ge hi (by omega)) ⟨vp_in_nI (by omega) (by omega), nm_e ⟨vp_in_nI (by omega) (by omega), nm_e ?_⟩⟩⟩
    have key : ∀ z0 : Int32, (z0 = 0 ↔ (it (8 * a + i) < 1000 ∨ it (8 * b + i) < 1000)) → wY_areAlike_76 post (wY_areAlike_19 post (nI a) (nI b) (nI c) (nI d) (nI p) t s it dr pa tb n) (nI a) (nI b) (nI i) (it (8 * a + i)) (it (8 * b + i)) z0 (nI c) (nI d) (nI p) t s it dr pa tb := by
      intro z0 hz
      unfold wY_areAlike_76
      refine br_c (fun q => nm_r (nI_1 i) (g (fun w => w (Or.inl q)))) (fun q => br_c (fun w => f ?_) (fun w => nm_r (nI_1 i) (g (fun y => y (Or.inr ?_)))))
      · rintro (y | ⟨y1, y2⟩)
        · exact q y
        · rcases hz.mp w with k | k
          · exact y1 k
          · exact y2 k
      · exact ⟨fun k => w (hz.mpr (Or.inl k)), fun k => w (hz.mpr (Or.inr k))⟩
    unfold wY_areAlike_75
    refine br_c (fun q => key 0 ⟨fun _ => Or.inl q, fun _ => rfl⟩) (fun q => br_c (fun w => key 0 ⟨fun _ => Or.inr w, fun _ => rfl⟩) (fun w => key 1 ⟨fun z => absurd z (by decide), ?_⟩))
    rintro (k | k)
    · exact absurd k q
    · exact absurd k w
  · rintro ⟨j, _, hj, hn⟩
    exact la_p0 h (fun z => hn (z.2 j hj))
  · intro hn
    refine la_p1 h ⟨e, fun i hi => ?_⟩
    by_cases q : la_sk (it (8 * a + i)) (it (8 * b + i))
    · exact q
    · exact absurd ⟨i, by omega, hi, q⟩ hn
noncomputable def la_fi (s it : Nat → Int32) (l : Nat) : Nat := la_se (fun j => la_al s it l j) id l 0 l
theorem la_Xfi {c d p : Nat} {t s it dr pa gs : Nat → Int32} {a : Nat} {post : Int32 → Prop} (hL : la_L c s) (ha : a < c) (h : post (nI (la_fi s it a))) : wpX_firstAlike post (nI c, nI d, nI p, t, s, it, dr, pa, gs) (nI a) := by
  have hc := hL.1
  unfold wpX_firstAlike
  refine ⟨a + 1, ?_⟩
  refine la_sl (fun n x => wX_firstAlike_2 post (nI a) (nI c) (nI d) (nI p) t s it dr pa gs n x) (fun k => post (nI k)) a (fun j => la_al s it a j) id a ?_ ?_ a 0 (by omega) h
  · intro n hp
    show wX_firstAlike_2 post (nI a) (nI c) (nI d) (nI p) t s it dr pa gs (n + 1) (nI a)
    rw [wX_firstAlike_2]
    exact br_t (nI_le (by omega) (by omega)) hp
  · intro n i hi f g
    show wX_firstAlike_2 post (nI a) (nI c) (nI d) (nI p) t s it dr pa gs (n + 1) (nI i)
    rw [wX_firstAlike_2]
    refine br_f (nI_ge hi (by omega)) (la_Xal hL ha (by omega) ?_)
    exact la_pb (fun z => nm_r (nI_1 i) (g z)) (fun z => f z)
theorem la_Yfi {c d p : Nat} {t s it dr pa tb : Nat → Int32} {a : Nat} {post : Int32 → Prop} (hL : la_L c s) (ha : a < c) (h : post (nI (la_fi s it a))) : wpY_firstOf post (nI c, nI d, nI p, t, s, it, dr, pa, tb) (nI a) := by
  have hc := hL.1
  unfold wpY_firstOf
  refine ⟨a + 1, ?_⟩
  refine la_sl (fun n x => wY_firstOf_2 post (nI a) (nI c) (nI d) (nI p) t s it dr pa tb n x) (fun k => post (nI k)) a (fun j => la_al s it a j) id a ?_ ?_ a 0 (by omega) h
  · intro n hp
    show wY_firstOf_2 post (nI a) (nI c) (nI d) (nI p) t s it dr pa tb (n + 1) (nI a)
    rw [wY_firstOf_2]
    exact br_t (nI_le (by omega) (by omega)) hp
  · intro n i hi f g
    show wY_firstOf_2 post (nI a) (nI c) (nI d) (nI p) t s it dr pa tb (n + 1) (nI i)
    rw [wY_firstOf_2]
    refine br_f (nI_ge hi (by omega)) (la_Yal hL (by omega) ha ?_)
    exact la_pb (fun z => nm_r (nI_1 i) (g (fun w => z (la_al_s w)))) (fun z => f (la_al_s z))
theorem la_fi_le (s it : Nat → Int32) (l : Nat) : la_fi s it l ≤ l := by
  unfold la_fi
  rcases la_ss (fun j => la_al s it l j) l l 0 with ⟨k, e1, e2, e3, _⟩ | ⟨e1, _⟩ <;> rw [e1] <;> omega
theorem la_Xg1 {c d p : Nat} {t s it dr pa gs : Nat → Int32} {x : Int32} {post : Int32 → Prop} (hb : x < 0 ∨ nI c ≤ x) (h : post 0) : wpX_isGood post (nI c, nI d, nI p, t, s, it, dr, pa, gs) x := by
  unfold wpX_isGood
  dsimp only
  by_cases z : x < 0
  · exact br_t z h
  · exact br_f z (br_t (hb.resolve_left z) h)
theorem la_Xg2 {c d p : Nat} {t s it dr pa gs : Nat → Int32} {j : Nat} {post : Int32 → Prop} (hL : la_L c s) (hj : j < c) (h : post 1) : wpX_isGood post (nI c, nI d, nI p, t, s, it, dr, pa, gs) (nI j) := by
  have hc := hL.1
  unfold wpX_isGood
  dsimp only
  exact br_f (nI_pos (by omega)) (br_f (nI_ge hj (by omega)) h)
theorem la_Yg1 {c d p : Nat} {t s it dr pa tb : Nat → Int32} {x : Int32} {post : Int32 → Prop} (hb : x < 0 ∨ nI c ≤ x) (h : post 1) : wpY_badLine post (nI c, nI d, nI p, t, s, it, dr, pa, tb) x := by
  unfold wpY_badLine
  dsimp only
  by_cases z : x < 0
  · exact br_t z h
  · exact br_f z (br_f (Int32.not_lt.mpr (hb.resolve_left z)) h)
theorem la_Yg2 {c d p : Nat} {t s it dr pa tb : Nat → Int32} {j : Nat} {post : Int32 → Prop} (hL : la_L c s) (hj : j < c) (h : post 0) : wpY_badLine post (nI c, nI d, nI p, t, s, it, dr, pa, tb) (nI j) := by
  have hc := hL.1
  unfold wpY_badLine
  dsimp only
  exact br_f (nI_pos (by omega)) (br_t (nI_lt hj (by omega)) h)
theorem la_cs {c : Nat} {s : Nat → Int32} (hL : la_L c s) (x : Int32) : (x < 0 ∨ nI c ≤ x) ∨ ∃ j, j < c ∧ x = nI j := by
  have hc := hL.1
  rcases pk_ix x (n := c) (by omega) with h | h | h
  · exact Or.inl (Or.inl h)
  · exact Or.inl (Or.inr h)
  · exact Or.inr h
theorem la_t1 {A B : Prop} (a : A) : ((0 : Int32) = 0 → A) ∧ (¬ (0 : Int32) = 0 → B) := br_t rfl a
theorem la_t2 {A B : Prop} (b : B) : ((1 : Int32) = 0 → A) ∧ (¬ (1 : Int32) = 0 → B) := br_f (by decide) b
