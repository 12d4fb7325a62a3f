theorem la_fi_sp (s it : Nat → Int32) (i : Nat) : la_al s it i (la_fi s it i) ∧ ∀ j, j < la_fi s it i → ¬ la_al s it i j := by
  unfold la_fi
  rcases la_ss (fun j => la_al s it i j) i i 0 with ⟨k, e1, e2, e3, e4, e5⟩ | ⟨e1, e2⟩
  · rw [e1]
    exact ⟨e4, fun j hj => e5 j (by omega) hj⟩
  · rw [e1]
    exact ⟨la_al_r s it i, fun j hj => e2 j (by omega) (by omega)⟩
theorem la_fi_eq {s it : Nat → Int32} {a b : Nat} (h : la_al s it a b) : la_fi s it a = la_fi s it b := by
  obtain ⟨a1, a2⟩ := la_fi_sp s it a
  obtain ⟨b1, b2⟩ := la_fi_sp s it b
  rcases Nat.lt_trichotomy (la_fi s it a) (la_fi s it b) with q | q | q
  · exact absurd (la_al_t (la_al_s h) a1) (b2 _ q)
  · exact q
  · exact absurd (la_al_t h b1) (a2 _ q)
noncomputable def la_G (s it : Nat → Int32) (l j : Nat) : Nat := la_cn (fun i => la_fi s it i = j) 0 l
theorem la_G_0 (s it : Nat → Int32) {l j : Nat} (h : l ≤ j) : la_G s it l j = 0 := by
  refine la_cn_0 _ l 0 (fun i a b => ?_)
  have q := la_fi_le s it i
  omega
theorem la_G_t {s it : Nat → Int32} {l j : Nat} (h : la_fi s it l = j) : la_G s it (l + 1) j = la_G s it l j + 1 := by
  unfold la_G
  rw [la_cn_add, la_cn_t (by rw [Nat.zero_add]; exact h)]
  rfl
theorem la_G_f {s it : Nat → Int32} {l j : Nat} (h : ¬ la_fi s it l = j) : la_G s it (l + 1) j = la_G s it l j := by
  unfold la_G
  rw [la_cn_add, la_cn_f (by rw [Nat.zero_add]; exact h)]
  rfl
theorem la_G_le (s it : Nat → Int32) (l j : Nat) : la_G s it l j ≤ l := la_cn_le _ l 0
theorem la_G_1 {s it : Nat → Int32} {c j : Nat} (h : la_fi s it j = j) : la_G s it c j = la_sz c s it j := by
  refine la_cn_c _ _ c 0 (fun i a b => ⟨fun q => ?_, fun q => ?_⟩)
  · have w := (la_fi_sp s it i).1
    rw [q] at w
    exact la_al_s w
  · rw [← la_fi_eq q]
    exact h
theorem la_G_2 {s it : Nat → Int32} {c j : Nat} (h : ¬ la_fi s it j = j) : la_G s it c j = 0 := by
  refine la_cn_0 _ c 0 (fun i a b q => ?_)
  have w := (la_fi_sp s it i).1
  rw [q] at w
  have e := la_fi_eq w
  rw [q] at e
  exact h e.symm
theorem la_sz_le (c : Nat) (s it : Nat → Int32) (l : Nat) : la_sz c s it l ≤ c := la_cn_le _ c 0
theorem la_sz_pos {c : Nat} {s it : Nat → Int32} {l : Nat} (h : l < c) : 0 < la_sz c s it l := la_cn_pos _ c 0 l (by omega) (by omega) (la_al_r s it l)
theorem la_Xme {c d p : Nat} {t s it dr pa : Nat → Int32} {post : SX → Prop} (hL : la_L c s) (h : ∀ gs, (∀ j, j < c → gs j = nI (la_G s it c j)) → post (nI c, nI d, nI p, t, s, it, dr, pa, gs)) : ∀ m l gs, l + m = c → (∀ j, j < l → gs j = nI (la_G s it l j)) → wX_measureGroups_2 post (nI c) (nI d) (nI p) (m + 1) (nI l) t s it dr pa gs := by
  have hc := hL.1
  intro m
  induction m with
  | zero =>
    intro l gs hl hg
    have q : l = c := by omega
    subst q
    rw [wX_measureGroups_2]
    exact br_t (nI_le (by omega) (by omega)) (h gs hg)
  | succ m ih =>
    intro l gs hl hg
    have fl := la_fi_le s it l
    rw [wX_measureGroups_2]
    dsimp only
    rw [nI_clamp (n := l) (by omega)]
    refine br_f (nI_ge (by omega) (by omega)) ⟨vp_in_nI (by omega) (by omega), fun g3 e3 => la_Xfi hL (by omega) ?_⟩
    have vr : vp_in (nI (la_fi s it l)) 60 := vp_in_nI (by omega) (by omega)
    rw [nI_clamp (n := la_fi s it l) (by omega)]
    refine ⟨vr, vr, fun g16 e16 => nm_r (nI_1 l) (ih (l + 1) g16 (by omega) (fun j hj => ?_))⟩
    have e4 : g3 j = nI (la_G s it l j) := by
      rw [e3]
      by_cases q : j = l
      · rw [q, pk_us, la_G_0 s it (Nat.le_refl l)]; rfl
      · rw [pk_un q]; exact hg j (by omega)
    rw [e16]
    by_cases q : j = la_fi s it l
    · rw [← q, pk_us, e4, nI_1, la_G_t q.symm]
    · rw [pk_un q, e4, la_G_f (fun w => q w.symm)]
noncomputable def la_ah (s it : Nat → Int32) (c l : Nat) : Nat := la_cn (fun o => la_G s it c l < la_G s it c o ∨ (la_G s it c o = la_G s it c l ∧ o < l)) 0 c
theorem la_Xah {c d p : Nat} {t s it dr pa gs : Nat → Int32} {l : Nat} {post : Int32 → Prop} (hL : la_L c s) (hg : ∀ j, j < c → gs j = nI (la_G s it c j)) (hl : l < c) (h : post (nI (la_ah s it c l))) : wpX_groupsAhead post (nI c, nI d, nI p, t, s, it, dr, pa, gs) (nI l) := by
  have hc := hL.1
  have vl : vp_in (nI l) 60 := vp_in_nI (by omega) (by omega)
  have gl := la_G_le s it c l
  unfold wpX_groupsAhead
  dsimp only
  rw [nI_clamp (n := l) (by omega), hg l hl]
  refine ⟨vl, nm_e ⟨c - 0 + 1, ?_⟩⟩
  refine la_cl0 (fun n x y => wX_groupsAhead_12 post (nI l) (nI (la_G s it c l)) (nI c) (nI d) (nI p) t s it dr pa gs n x y) post c (fun o => la_G s it c l < la_G s it c o ∨ (la_G s it c o = la_G s it c l ∧ o < l)) ?_ ?_ 0 (by omega) h
  · intro n x hp
    show wX_groupsAhead_12 post (nI l) (nI (la_G s it c l)) (nI c) (nI d) (nI p) t s it dr pa gs (n + 1) x (nI c)
    rw [wX_groupsAhead_12]
    exact br_t (nI_le (by omega) (by omega)) hp
  · intro n x o ho f g
    have vo : vp_in (nI o) 60 := vp_in_nI (by omega) (by omega)
    have go := la_G_le s it c o
    show wX_groupsAhead_12 post (nI l) (nI (la_G s it c l)) (nI c) (nI d) (nI p) t s it dr pa gs (n + 1) x (nI o)
    rw [wX_groupsAhead_12]
    dsimp only
    rw [nI_clamp (n := o) (by omega), hg o ho]
    exact br_f (nI_ge ho (by omega)) ⟨vo, pk_lt (la_G s it c l) (la_G s it c o) (fun a => nm_e (nm_r (nI_1 o) (f (Or.inl a)))) (fun a => ⟨vo, pk_eq (la_G s it c o) (la_G s it c l) (fun b => pk_le l o (fun e => nm_r (nI_1 o) (g (by omega))) (fun e => nm_e (nm_r (nI_1 o) (f (Or.inr ⟨b, e⟩))))) (fun b => nm_r (nI_1 o) (g (by omega)))⟩)⟩
def la_PX (s it : Nat → Int32) (c : Nat) (v : Int32) (l : Nat) : Prop := 0 < la_G s it c l ∧ nI (la_ah s it c l) = v
theorem la_Xla {c d p : Nat} {t s it dr pa gs : Nat → Int32} {v : Int32} {post : Int32 → SX → Prop} (hL : la_L c s) (hg : ∀ j, j < c → gs j = nI (la_G s it c j)) (h : post (la_se (la_PX s it c v) nI (-2) 0 c) (nI c, nI d, nI p, t, s, it, dr, pa, gs)) : ∃ n, wX_largest_6 post v (nI c) (nI d) (nI p) t s it dr pa gs n 0 := by
  have hc := hL.1
  refine ⟨c + 1, ?_⟩
  refine la_sl (fun n x => wX_largest_6 post v (nI c) (nI d) (nI p) t s it dr pa gs n x) (fun r => post r (nI c, nI d, nI p, t, s, it, dr, pa, gs)) c (la_PX s it c v) nI (-2) ?_ ?_ c 0 (by omega) h
  · intro n hp
    show wX_largest_6 post v (nI c) (nI d) (nI p) t s it dr pa gs (n + 1) (nI c)
    rw [wX_largest_6]
    exact br_t (nI_le (by omega) (by omega)) hp
  · intro n l hl f g
    have vl : vp_in (nI l) 60 := vp_in_nI (by omega) (by omega)
    have gl := la_G_le s it c l
    show wX_largest_6 post v (nI c) (nI d) (nI p) t s it dr pa gs (n + 1) (nI l)
    rw [wX_largest_6]
    dsimp only
    rw [nI_clamp (n := l) (by omega), hg l hl]
    exact br_f (nI_ge hl (by omega)) ⟨vl, pk_le (la_G s it c l) 0 (fun a => nm_r (nI_1 l) (g (fun q => by have := q.1; omega))) (fun a => la_Xah hL hg hl (br_c (fun b => f ⟨a, b⟩) (fun b => nm_r (nI_1 l) (g (fun q => b q.2)))))⟩
def la_Q (s it : Nat → Int32) (c l o : Nat) : Prop := o ≠ l ∧ la_fi s it o = o ∧ (la_sz c s it l < la_sz c s it o ∨ (la_sz c s it o = la_sz c s it l ∧ o < l))
def la_PY (s it : Nat → Int32) (c : Nat) (v : Int32) (l : Nat) : Prop := la_fi s it l = l ∧ nI (la_cn (la_Q s it c l) 0 c) = v
theorem la_Yla {c d p : Nat} {t s it dr pa tb : Nat → Int32} {v : Int32} {post : Int32 → Prop} (hL : la_L c s) (h : post (la_se (la_PY s it c v) nI (-2) 0 c)) : wpY_largest post (nI c, nI d, nI p, t, s, it, dr, pa, tb) v := by
  have hc := hL.1
  unfold wpY_largest
  refine ⟨c + 1, ?_⟩
  refine la_sl (fun n x => wY_largest_2 post v (nI c) (nI d) (nI p) t s it dr pa tb n x) post c (la_PY s it c v) nI (-2) ?_ ?_ c 0 (by omega) h
  · intro n hp
    show wY_largest_2 post v (nI c) (nI d) (nI p) t s it dr pa tb (n + 1) (nI c)
    rw [wY_largest_2]
    exact br_t (nI_le (by omega) (by omega)) hp
  · intro n l hl f g
    have fl := la_fi_le s it l
    have sl := la_sz_le c s it l
    show wY_largest_2 post v (nI c) (nI d) (nI p) t s it dr pa tb (n + 1) (nI l)
    rw [wY_largest_2]
    refine br_f (nI_ge hl (by omega)) ⟨c - 0 + 1, ?_⟩
    refine la_cl0 (fun m x y => wY_largest_15 post (wY_largest_2 post v (nI c) (nI d) (nI p) t s it dr pa tb n) v (nI l) (nI c) (nI d) (nI p) t s it dr pa tb m x y) (fun x => (la_fi s it l = l → (x = v → post (nI l)) ∧ (¬ x = v → wY_largest_2 post v (nI c) (nI d) (nI p) t s it dr pa tb n (nI (l + 1)))) ∧ (¬ la_fi s it l = l → wY_largest_2 post v (nI c) (nI d) (nI p) t s it dr pa tb n (nI (l + 1)))) c (la_Q s it c l) ?_ ?_ 0 (by omega) ?_
    · intro m x hp
      show wY_largest_15 post (wY_largest_2 post v (nI c) (nI d) (nI p) t s it dr pa tb n) v (nI l) (nI c) (nI d) (nI p) t s it dr pa tb (m + 1) x (nI c)
      rw [wY_largest_15]
      refine br_t (nI_le (by omega) (by omega)) (la_Yfi hL hl (pk_eq (la_fi s it l) l (fun a => br_c (hp.1 a).1 (fun b => nm_r (nI_1 l) ((hp.1 a).2 b))) (fun a => nm_r (nI_1 l) (hp.2 a))))
    · intro m x o ho f g
      have fo := la_fi_le s it o
      have so := la_sz_le c s it o
      show wY_largest_15 post (wY_largest_2 post v (nI c) (nI d) (nI p) t s it dr pa tb n) v (nI l) (nI c) (nI d) (nI p) t s it dr pa tb (m + 1) x (nI o)
      rw [wY_largest_15]
      unfold wY_largest_45 wY_largest_46
      refine br_f (nI_ge ho (by omega)) (pk_eq o l (fun a => la_t1 (nm_r (nI_1 o) (g (fun q => q.1 a)))) (fun a => la_Yfi hL ho (pk_eq (la_fi s it o) o (fun b => la_t2 ?_) (fun b => la_t1 (nm_r (nI_1 o) (g (fun q => b q.2.1)))))))
      refine la_Ysz hL ho (la_Ysz hL hl (pk_lt (la_sz c s it l) (la_sz c s it o) (fun e => nm_e (nm_r (nI_1 o) (f ⟨a, b, Or.inl e⟩))) (fun e => la_Ysz hL ho (la_Ysz hL hl (pk_eq (la_sz c s it o) (la_sz c s it l) (fun e2 => pk_le l o (fun e3 => nm_r (nI_1 o) (g (fun q => ?_))) (fun e3 => nm_e (nm_r (nI_1 o) (f ⟨a, b, Or.inr ⟨e2, e3⟩⟩)))) (fun e2 => nm_r (nI_1 o) (g (fun q => ?_))))))))
      · have := q.2.2
        omega
      · have := q.2.2
        omega
    · exact ⟨fun a => ⟨fun b => f ⟨a, b⟩, fun b => g (fun q => b q.2)⟩, fun a => g (fun q => a q.1)⟩
theorem la_PXY {s it : Nat → Int32} {c l : Nat} {v : Int32} (hl : l < c) : la_PX s it c v l ↔ la_PY s it c v l := by
  unfold la_PX la_PY
  by_cases h : la_fi s it l = l
  · have p1 : 0 < la_sz c s it l := la_sz_pos hl
    rw [la_G_1 h]
    have e : la_ah s it c l = la_cn (la_Q s it c l) 0 c := by
      unfold la_ah
      refine la_cn_c _ _ c 0 (fun o _ ho => ?_)
      unfold la_Q
      rw [la_G_1 h]
      by_cases q : la_fi s it o = o
      · rw [la_G_1 q]
        constructor
        · intro w
          refine ⟨fun k => ?_, q, w⟩
          subst k
          omega
        · intro w
          exact w.2.2
      · rw [la_G_2 q]
        constructor
        · intro w; omega
        · intro w; exact absurd w.2.1 q
    rw [e]
    exact ⟨fun q => ⟨h, q.2⟩, fun q => ⟨p1, q.2⟩⟩
  · rw [la_G_2 h]
    exact ⟨fun q => absurd q.1 (by omega), fun q => absurd q.1 h⟩
theorem i_vc_largest {k : Nat} {u : SX} {v : SY} (I : i_Rel k u v) (hk : k + 4 ≤ 2048) (v1 : Int32) : wpX_largest (fun r u' => wpY_largest (fun r' => r' = r ∧ i_Rel (k + 4) u' v) v v1) u v1 := by
  obtain ⟨c, d, p, t, s, it, dr, pa, gs, tb, rfl, rfl, hI⟩ := I
  have hL := hI.1
  unfold wpX_largest wpX_measureGroups
  dsimp only
  refine ⟨c + 1, la_Xme hL (fun gs' hg => ?_) c 0 gs (by omega) (fun j hj => by omega)⟩
  refine la_Xla hL hg (la_Yla hL ⟨?_, la_mk hI⟩)
  exact (la_sc _ _ _ _ c 0 (fun j _ hj => la_PXY (by omega))).symm
