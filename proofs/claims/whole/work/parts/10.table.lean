def la_dn : Nat → Int32
  | 0 => -1
  | k + 1 => nI k
theorem la_dn_1 (k : Nat) : nI k + (-1) = la_dn k := by
  cases k with
  | zero => exact (by decide +kernel : nI 0 + (-1) = (-1 : Int32))
  | succ k => exact pk_m1 k
theorem la_n1 (K r : Nat) : 9 * nI K + nI r = nI (9 * K + r) := by rw [la_9, pk_mul, nI_add]
theorem la_n2 (K r : Nat) : 9 * nI K + nI r + 1 = nI (9 * K + r + 1) := by rw [la_n1, nI_1]
theorem la_n3 (K r : Nat) : 9 * nI K + 9 + nI r = nI (9 * K + 9 + r) := by rw [la_9, pk_mul, nI_add, nI_add]
theorem la_n4 (K r : Nat) : 9 * nI K + 9 + nI r + 1 = nI (9 * K + 9 + r + 1) := by rw [la_n3, nI_1]
/-- the table is right at all places from K on, and at place K - 1 from part R on -/
def la_V (p : Nat) (pa s it : Nat → Int32) (l K R : Nat) (tb : Nat → Int32) : Prop := ∀ pl r, pl ≤ la_n s l → r ≤ p → (K ≤ pl ∨ (pl + 1 = K ∧ R ≤ r)) → tb (9 * pl + r) = la_pI (la_T (la_n s l) p pa (fun j => it (8 * l + j)) (p - r) pl)
theorem la_Yin {c d p : Nat} {t s it dr pa : Nat → Int32} {l K : Nat} {post : Int32 → SY → Prop} {J : Int32 → (Nat → Int32) → (Nat → Int32) → (Nat → Int32) → (Nat → Int32) → (Nat → Int32) → (Nat → Int32) → Prop} (hL : la_L c s) (hl : l < c) (hp : p ≤ 8) (hK : K ≤ la_n s l) (hJ : ∀ tb, la_V p pa s it l K (p + 1) tb → J (la_dn K) t s it dr pa tb) : ∀ R tb, R ≤ p + 1 → la_V p pa s it l (K + 1) R tb → wY_fits_25 post J (nI l) (nI K) (nI c) (nI d) (nI p) (R + 1) (la_dn R) t s it dr pa tb := by
  have hc := hL.1
  obtain ⟨e, l1, l8⟩ := hL.2 l hl
  have vl : vp_in (nI l) 60 := vp_in_nI (by omega) (by omega)
  have cl : (nI l).toNatClampNeg = l := nI_clamp (by omega)
  intro R
  induction R with
  | zero =>
    intro tb _ hV
    rw [wY_fits_25]
    refine br_t (by decide) (nm_r (la_dn_1 K) (hJ tb (fun pl r h1 h2 h3 => hV pl r h1 h2 ?_)))
    omega
  | succ r ih =>
    intro tb hR hV
    have step : wY_fits_183 post J (wY_fits_25 post J (nI l) (nI K) (nI c) (nI d) (nI p) (r + 1)) (nI l) (nI K) (nI r) (la_pI (la_T (la_n s l) p pa (fun j => it (8 * l + j)) (p - r) K)) (nI c) (nI d) (nI p) t s it dr pa tb := by
      unfold wY_fits_183
      rw [la_n1, nI_clamp (n := 9 * K + r) (by omega), la_pv]
      refine ⟨vp_in_nI (by omega) (by omega), fun tb' e' => nm_r (la_dn_1 r) (ih tb' (by omega) (fun pl q h1 h2 h3 => ?_))⟩
      rw [e']
      by_cases w : 9 * pl + q = 9 * K + r
      · have w1 : pl = K := by omega
        have w2 : q = r := by omega
        rw [w1, w2, pk_us]
      · rw [pk_un w]
        exact hV pl q h1 h2 (by omega)
    have k1 : la_T (la_n s l) p pa (fun j => it (8 * l + j)) (p - r) K → wY_fits_183 post J (wY_fits_25 post J (nI l) (nI K) (nI c) (nI d) (nI p) (r + 1)) (nI l) (nI K) (nI r) 1 (nI c) (nI d) (nI p) t s it dr pa tb := by
      intro z
      rw [la_pt z] at step
      exact step
    have k0 : ¬ la_T (la_n s l) p pa (fun j => it (8 * l + j)) (p - r) K → wY_fits_183 post J (wY_fits_25 post J (nI l) (nI K) (nI c) (nI d) (nI p) (r + 1)) (nI l) (nI K) (nI r) 0 (nI c) (nI d) (nI p) t s it dr pa tb := by
      intro z
      rw [la_pf z] at step
      exact step
    clear step ih
    show wY_fits_25 post J (nI l) (nI K) (nI c) (nI d) (nI p) (r + 1 + 1) (nI r) t s it dr pa tb
    rw [wY_fits_25]
    dsimp only
    rw [cl, e]
    by_cases hr : p ≤ r
    · have pr : p - r = 0 := by omega
      rw [pr] at k1 k0
      unfold wY_fits_44
      exact br_f (nI_pos (by omega)) ⟨vl, pk_eq K (la_n s l) (fun z => br_t (nI_le hr (by omega)) (k1 z)) (fun z => br_t (nI_le hr (by omega)) (k0 z))⟩
    · have vr : vp_in (nI r) 8 := vp_in_nI (by omega) (by omega)
      obtain ⟨a, ea⟩ : ∃ a, p - r = a + 1 := ⟨p - r - 1, by omega⟩
      have er : p - (a + 1) = r := by omega
      have ea2 : p - (r + 1) = a := by omega
      rw [ea] at k1 k0
      have hrow : pa r = 2002 → (la_T (la_n s l) p pa (fun j => it (8 * l + j)) (a + 1) K ↔ (la_T (la_n s l) p pa (fun j => it (8 * l + j)) a K ∨ (K < la_n s l ∧ la_T (la_n s l) p pa (fun j => it (8 * l + j)) (a + 1) (K + 1)))) := by
        intro z
        constructor
        · rintro (⟨_, j', h1, h2, h3⟩ | ⟨h1, _⟩)
          · by_cases w : j' = K
            · rw [w] at h3; exact Or.inl h3
            · exact Or.inr ⟨by omega, Or.inl ⟨by rw [er]; exact z, j', by omega, h2, h3⟩⟩
          · rw [er] at h1; exact absurd z h1
        · rintro (h | ⟨h, ⟨_, j', h1, h2, h3⟩ | ⟨h1, _⟩⟩)
          · exact Or.inl ⟨by rw [er]; exact z, K, Nat.le_refl K, hK, h⟩
          · exact Or.inl ⟨by rw [er]; exact z, j', by omega, h2, h3⟩
          · rw [er] at h1; exact absurd z h1
      have hone : ¬ pa r = 2002 → (la_T (la_n s l) p pa (fun j => it (8 * l + j)) (a + 1) K ↔ (K < la_n s l ∧ la_mt (it (8 * l + K)) (pa r) ∧ la_T (la_n s l) p pa (fun j => it (8 * l + j)) a (K + 1))) := by
        intro z
        constructor
        · rintro (⟨h1, _⟩ | ⟨_, h⟩)
          · rw [er] at h1; exact absurd h1 z
          · rw [er] at h; exact h
        · intro h
          exact Or.inr ⟨by rw [er]; exact z, h.1, by rw [er]; exact h.2.1, h.2.2⟩
      have t1 : tb (9 * K + r + 1) = la_pI (la_T (la_n s l) p pa (fun j => it (8 * l + j)) a K) := by
        have q := hV K (r + 1) hK (by omega) (Or.inr ⟨rfl, Nat.le_refl _⟩)
        rw [ea2] at q
        exact q
      have t2 : K < la_n s l → tb (9 * K + 9 + r) = la_pI (la_T (la_n s l) p pa (fun j => it (8 * l + j)) (a + 1) (K + 1)) := by
        intro w
        have q := hV (K + 1) r (by omega) (by omega) (Or.inl (Nat.le_refl _))
        rw [ea] at q
        rw [show 9 * K + 9 + r = 9 * (K + 1) + r from by omega]
        exact q
      have t3 : K < la_n s l → tb (9 * K + 9 + r + 1) = la_pI (la_T (la_n s l) p pa (fun j => it (8 * l + j)) a (K + 1)) := by
        intro w
        have q := hV (K + 1) (r + 1) (by omega) (by omega) (Or.inl (Nat.le_refl _))
        rw [ea2] at q
        rw [show 9 * K + 9 + r + 1 = 9 * (K + 1) + (r + 1) from by omega]
        exact q
      have s75 : ∀ (F : Prop) (z0 : Int32), (F ↔ K = la_n s l) → ((pa r = 2002 ∧ z0 = 1) ∨ (¬ pa r = 2002 ∧ z0 = 0)) → wY_fits_75 post J (wY_fits_25 post J (nI l) (nI K) (nI c) (nI d) (nI p) (r + 1)) (nI l) (nI K) (nI r) (la_pI F) z0 (nI c) (nI d) (nI p) t s it dr pa tb := by
        intro F z0 hF hz
        unfold wY_fits_75 wY_fits_180 wY_fits_124 wY_fits_120 wY_fits_181
        rcases hz with ⟨z, rfl⟩ | ⟨z, rfl⟩
        · rw [hrow z] at k1 k0
          refine la_t2 ?_
          rw [la_n2, nI_clamp (n := 9 * K + r + 1) (by omega), t1]
          refine ⟨vp_in_nI (by omega) (by omega), la_pb (fun w => la_pb (fun w2 => ?_) (fun w2 => k0 ?_)) (fun w => k1 (Or.inl w))⟩
          · have kn : K < la_n s l := by
              have : ¬ K = la_n s l := fun o => w2 (hF.mpr o)
              omega
            rw [la_n3, nI_clamp (n := 9 * K + 9 + r) (by omega), t2 kn]
            refine ⟨vp_in_nI (by omega) (by omega), la_pb (fun w3 => k0 ?_) (fun w3 => k1 (Or.inr ⟨kn, w3⟩))⟩
            rintro (o | o)
            · exact w o
            · exact w3 o.2
          · have kn := hF.mp w2
            rintro (o | o)
            · exact w o
            · omega
        · rw [hone z] at k1 k0
          refine la_t1 (la_pb (fun w2 => ?_) (fun w2 => k0 ?_))
          · have kn : K < la_n s l := by
              have : ¬ K = la_n s l := fun o => w2 (hF.mpr o)
              omega
            rw [la_iy, nI_clamp (n := 8 * l + K) (by omega), nI_clamp (n := r) (by omega), la_n4, nI_clamp (n := 9 * K + 9 + r + 1) (by omega), t3 kn]
            refine ⟨vp_in_nI (by omega) (by omega), vr, la_Ymt (la_pb (fun w3 => k0 (fun o => w3 o.2.1)) (fun w3 => ⟨vp_in_nI (by omega) (by omega), la_pb (fun w4 => k0 (fun o => w4 o.2.2)) (fun w4 => k1 ⟨kn, w3, w4⟩)⟩))⟩
          · have kn := hF.mp w2
            intro o
            omega
      have s44 : ∀ F : Prop, (F ↔ K = la_n s l) → wY_fits_44 post J (wY_fits_25 post J (nI l) (nI K) (nI c) (nI d) (nI p) (r + 1)) (nI l) (nI K) (nI r) (la_pI F) (nI c) (nI d) (nI p) t s it dr pa tb := by
        intro F hF
        unfold wY_fits_44
        rw [nI_clamp (n := r) (by omega)]
        exact br_f (nI_ge (by omega) (by omega)) ⟨vr, br_c (fun z => s75 F 1 hF (Or.inl ⟨z, rfl⟩)) (fun z => s75 F 0 hF (Or.inr ⟨z, rfl⟩))⟩
      refine br_f (nI_pos (by omega)) ⟨vl, pk_eq K (la_n s l) (fun z => ?_) (fun z => ?_)⟩
      · have q := s44 True ⟨fun _ => z, fun _ => trivial⟩
        rw [la_pt trivial] at q
        exact q
      · have q := s44 False ⟨fun o => o.elim, fun o => absurd o z⟩
        rw [la_pf id] at q
        exact q
theorem la_Yout {c d p : Nat} {t s it dr pa : Nat → Int32} {l : Nat} {post : Int32 → SY → Prop} (hL : la_L c s) (hl : l < c) (hp : p ≤ 8) (h : ∀ tb, post (la_pI (la_ft p pa s it l)) (nI c, nI d, nI p, t, s, it, dr, pa, tb)) : ∀ K tb, K ≤ la_n s l + 1 → la_V p pa s it l K (p + 1) tb → wY_fits_16 post (nI l) (nI c) (nI d) (nI p) (K + 1) (la_dn K) t s it dr pa tb := by
  intro K
  induction K with
  | zero =>
    intro tb _ hV
    have q : tb 0 = la_pI (la_ft p pa s it l) := hV 0 0 (by omega) (by omega) (Or.inl (Nat.le_refl 0))
    rw [wY_fits_16]
    dsimp only
    rw [q]
    exact br_t (by decide) ⟨la_pn _, h tb⟩
  | succ K ih =>
    intro tb hK hV
    obtain ⟨e, l1, l8⟩ := hL.2 l hl
    show wY_fits_16 post (nI l) (nI c) (nI d) (nI p) (K + 1 + 1) (nI K) t s it dr pa tb
    rw [wY_fits_16]
    refine br_f (nI_pos (by omega)) ⟨p + 1 + 1, ?_⟩
    exact la_Yin hL hl hp (by omega) (fun tb' hV' => ih tb' (by omega) hV') (p + 1) tb (Nat.le_refl _) (fun pl r h1 h2 h3 => hV pl r h1 h2 (by omega))
theorem la_Yft {c d p : Nat} {t s it dr pa tb : Nat → Int32} {l : Nat} {post : Int32 → SY → Prop} (hI : la_Inv c d p t s it dr pa) (hl : l < c) (h : ∀ tb, post (la_pI (la_ft p pa s it l)) (nI c, nI d, nI p, t, s, it, dr, pa, tb)) : wpY_fits post (nI c, nI d, nI p, t, s, it, dr, pa, tb) (nI l) := by
  obtain ⟨hL, _, hp, _⟩ := hI
  have hc := hL.1
  obtain ⟨e, l1, l8⟩ := hL.2 l hl
  have vl : vp_in (nI l) 60 := vp_in_nI (by omega) (by omega)
  unfold wpY_fits
  dsimp only
  rw [nI_clamp (n := l) (by omega), e]
  refine pk_eq p 0 (fun z => ?_) (fun z => ⟨vl, nm_e ⟨la_n s l + 1 + 1, ?_⟩⟩)
  · have q : ¬ la_ft p pa s it l := by
      unfold la_ft
      rw [z]
      intro w
      have w' : 0 = la_n s l := w
      omega
    have w := h tb
    rw [la_pf q] at w
    exact w
  · exact la_Yout hL hl hp h (la_n s l + 1) tb (Nat.le_refl _) (fun pl r h1 h2 h3 => by omega)
theorem i_vc_fitting {k : Nat} {u : SX} {v : SY} (I : i_Rel k u v) (hk : k + 4 ≤ 2048) (v1 : Int32) (v2 : Int32) : wpX_fitting (fun r => wpY_fitting (fun r' v' => r' = r ∧ i_Rel (k + 4) u v') v v1 v2) u v1 v2 := by
  obtain ⟨c, d, p, t, s, it, dr, pa, gs, tb, rfl, rfl, hI⟩ := I
  have hL := hI.1
  have hc := hL.1
  have kx : ∀ post : Int32 → Prop, post (nI (la_cn (fun l => la_wi t v1 v2 l ∧ la_ft p pa s it l) 0 c)) → ∃ n, wX_fitting_5 post v1 v2 (nI c) (nI d) (nI p) t s it dr pa gs n 0 0 := by
    intro post h
    refine ⟨c - 0 + 1, ?_⟩
    refine la_cl0 (fun n x y => wX_fitting_5 post v1 v2 (nI c) (nI d) (nI p) t s it dr pa gs n x y) post c (fun l => la_wi t v1 v2 l ∧ la_ft p pa s it l) ?_ ?_ 0 (by omega) h
    · intro n x hp
      show wX_fitting_5 post v1 v2 (nI c) (nI d) (nI p) t s it dr pa gs (n + 1) x (nI c)
      rw [wX_fitting_5]
      exact br_t (nI_le (by omega) (by omega)) hp
    · intro n x i hi f g
      show wX_fitting_5 post v1 v2 (nI c) (nI d) (nI p) t s it dr pa gs (n + 1) x (nI i)
      rw [wX_fitting_5]
      refine br_f (nI_ge hi (by omega)) (la_Xwi hL hi ?_)
      exact la_pb (fun e => nm_r (nI_1 i) (g (fun q => e q.1))) (fun e => la_Xft hI hi (la_pb (fun e2 => nm_r (nI_1 i) (g (fun q => e2 q.2))) (fun e2 => nm_e (nm_r (nI_1 i) (f ⟨e, e2⟩)))))
  have ky : ∀ post : Int32 → SY → Prop, (∀ tb, post (nI (la_cn (fun l => la_wi t v1 v2 l ∧ la_ft p pa s it l) 0 c)) (nI c, nI d, nI p, t, s, it, dr, pa, tb)) → ∃ n, wY_fitting_5 post v1 v2 n 0 0 (nI c) (nI d) (nI p) t s it dr pa tb := by
    intro post h
    refine ⟨c - 0 + 1, ?_⟩
    refine la_cl0 (fun n x y => ∀ tb, wY_fitting_5 post v1 v2 n x y (nI c) (nI d) (nI p) t s it dr pa tb) (fun r => ∀ tb, post r (nI c, nI d, nI p, t, s, it, dr, pa, tb)) c (fun l => la_wi t v1 v2 l ∧ la_ft p pa s it l) ?_ ?_ 0 (by omega) h tb
    · intro n x hp tb
      show wY_fitting_5 post v1 v2 (n + 1) x (nI c) (nI c) (nI d) (nI p) t s it dr pa tb
      rw [wY_fitting_5]
      exact br_t (nI_le (by omega) (by omega)) (hp tb)
    · intro n x i hi f g tb
      have vi : vp_in (nI i) 60 := vp_in_nI (by omega) (by omega)
      show wY_fitting_5 post v1 v2 (n + 1) x (nI i) (nI c) (nI d) (nI p) t s it dr pa tb
      rw [wY_fitting_5]
      dsimp only
      rw [nI_clamp (n := i) (by omega)]
      exact br_f (nI_ge hi (by omega)) ⟨vi, br_c (fun a => nm_r (nI_1 i) (g (fun z => z.1.1 a) tb)) (fun a => ⟨vi, br_c (fun b => nm_r (nI_1 i) (g (fun z => z.1.2 b) tb)) (fun b => la_Yft hI hi (fun tb' => la_pb (fun e2 => nm_r (nI_1 i) (g (fun q => e2 q.2) tb')) (fun e2 => nm_e (nm_r (nI_1 i) (f ⟨⟨a, b⟩, e2⟩ tb')))))⟩)⟩
  exact kx _ (ky _ (fun tb' => ⟨rfl, la_mk hI⟩))
theorem i_vc_next {k : Nat} {u : SX} {v : SY} (I : i_Rel k u v) (hk : k + 4 ≤ 2048) (v1 : Int32) : wpX_next (fun r => wpY_next (fun r' v' => r' = r ∧ i_Rel (k + 4) u v') v v1) u v1 := by
  obtain ⟨c, d, p, t, s, it, dr, pa, gs, tb, rfl, rfl, hI⟩ := I
  have hL := hI.1
  have hc := hL.1
  have kx : ∀ post : Int32 → Prop, post (la_se (fun l => ¬ nI l ≤ v1 ∧ la_ft p pa s it l) nI (-2) 0 c) → ∃ n, wX_next_2 post v1 (nI c) (nI d) (nI p) t s it dr pa gs n 0 := by
    intro post h
    refine ⟨c + 1, ?_⟩
    refine la_sl (fun n x => wX_next_2 post v1 (nI c) (nI d) (nI p) t s it dr pa gs n x) post c (fun l => ¬ nI l ≤ v1 ∧ la_ft p pa s it l) nI (-2) ?_ ?_ c 0 (by omega) h
    · intro n hp
      show wX_next_2 post v1 (nI c) (nI d) (nI p) t s it dr pa gs (n + 1) (nI c)
      rw [wX_next_2]
      exact br_t (nI_le (by omega) (by omega)) hp
    · intro n i hi f g
      show wX_next_2 post v1 (nI c) (nI d) (nI p) t s it dr pa gs (n + 1) (nI i)
      rw [wX_next_2]
      exact br_f (nI_ge hi (by omega)) (br_c (fun a => nm_r (nI_1 i) (g (fun q => q.1 a))) (fun a => la_Xft hI hi (la_pb (fun b => nm_r (nI_1 i) (g (fun q => b q.2))) (fun b => f ⟨a, b⟩))))
  have ky : ∀ post : Int32 → SY → Prop, (∀ tb, post (la_se (fun l => ¬ nI l ≤ v1 ∧ la_ft p pa s it l) nI (-2) 0 c) (nI c, nI d, nI p, t, s, it, dr, pa, tb)) → ∃ n, wY_next_2 post v1 n 0 (nI c) (nI d) (nI p) t s it dr pa tb := by
    intro post h
    refine ⟨c + 1, ?_⟩
    refine la_sl (fun n x => ∀ tb, wY_next_2 post v1 n x (nI c) (nI d) (nI p) t s it dr pa tb) (fun r => ∀ tb, post r (nI c, nI d, nI p, t, s, it, dr, pa, tb)) c (fun l => ¬ nI l ≤ v1 ∧ la_ft p pa s it l) nI (-2) ?_ ?_ c 0 (by omega) h tb
    · intro n hp tb
      show wY_next_2 post v1 (n + 1) (nI c) (nI c) (nI d) (nI p) t s it dr pa tb
      rw [wY_next_2]
      exact br_t (nI_le (by omega) (by omega)) (hp tb)
    · intro n i hi f g tb
      show wY_next_2 post v1 (n + 1) (nI i) (nI c) (nI d) (nI p) t s it dr pa tb
      rw [wY_next_2]
      exact br_f (nI_ge hi (by omega)) (br_c (fun a => nm_r (nI_1 i) (g (fun q => q.1 a) tb)) (fun a => la_Yft hI hi (fun tb' => la_pb (fun b => nm_r (nI_1 i) (g (fun q => b q.2) tb')) (fun b => f ⟨a, b⟩ tb'))))
  exact kx _ (ky _ (fun tb' => ⟨rfl, la_mk hI⟩))
def la_ef (p : Nat) (pa s it : Nat → Int32) (l : Nat) : Prop := ∃ j, 0 ≤ j ∧ j < l ∧ (la_al s it l j ∧ la_ft p pa s it j)
theorem la_Xef {c d p : Nat} {t s it dr pa gs : Nat → Int32} {l : Nat} {post : Int32 → Prop} (hI : la_Inv c d p t s it dr pa) (hl : l < c) (h : post (la_pI (la_ef p pa s it l))) : wpX_earlierAlikeFits post (nI c, nI d, nI p, t, s, it, dr, pa, gs) (nI l) := by
  have hL := hI.1
  have hc := hL.1
  unfold wpX_earlierAlikeFits
  refine ⟨l + 1, ?_⟩
  refine la_el (fun n y => wX_earlierAlikeFits_2 post (nI l) (nI c) (nI d) (nI p) t s it dr pa gs n y) (post 1) (post 0) l (fun j => la_al s it l j ∧ la_ft p pa s it j) ?_ ?_ l 0 (by omega) (fun z => la_p1 h z) (fun z => la_p0 h z)
  · intro n hp
    show wX_earlierAlikeFits_2 post (nI l) (nI c) (nI d) (nI p) t s it dr pa gs (n + 1) (nI l)
    rw [wX_earlierAlikeFits_2]
    exact br_t (nI_le (by omega) (by omega)) hp
  · intro n j hj f g
    show wX_earlierAlikeFits_2 post (nI l) (nI c) (nI d) (nI p) t s it dr pa gs (n + 1) (nI j)
    rw [wX_earlierAlikeFits_2]
    exact br_f (nI_ge hj (by omega)) (la_Xal hL hl (by omega) (la_pb (fun z => nm_r (nI_1 j) (g (fun q => z q.1))) (fun z => la_Xft hI (by omega) (la_pb (fun w => nm_r (nI_1 j) (g (fun q => w q.2))) (fun w => f ⟨z, w⟩)))))
theorem la_Yff {c d p : Nat} {t s it dr pa tb : Nat → Int32} {l : Nat} {post : Int32 → SY → Prop} (hI : la_Inv c d p t s it dr pa) (hl : l < c) (h : ∀ tb, post (la_pI (la_ft p pa s it l ∧ ¬ la_ef p pa s it l)) (nI c, nI d, nI p, t, s, it, dr, pa, tb)) : wpY_isFirstFitting post (nI c, nI d, nI p, t, s, it, dr, pa, tb) (nI l) := by
  have hL := hI.1
  have hc := hL.1
  unfold wpY_isFirstFitting
  refine ⟨l + 1, ?_⟩
  refine la_el (fun n y => ∀ tb, wY_isFirstFitting_2 post (nI l) n y (nI c) (nI d) (nI p) t s it dr pa tb) (∀ tb, post 0 (nI c, nI d, nI p, t, s, it, dr, pa, tb)) (∀ tb, post (la_pI (la_ft p pa s it l)) (nI c, nI d, nI p, t, s, it, dr, pa, tb)) l (fun j => la_al s it l j ∧ la_ft p pa s it j) ?_ ?_ l 0 (by omega) (fun z tb => la_p0 (post := fun r => post r (nI c, nI d, nI p, t, s, it, dr, pa, tb)) (h tb) (fun w => w.2 z)) (fun z tb => ?_) tb
  · intro n hp tb
    show wY_isFirstFitting_2 post (nI l) (n + 1) (nI l) (nI c) (nI d) (nI p) t s it dr pa tb
    rw [wY_isFirstFitting_2]
    exact br_t (nI_le (by omega) (by omega)) (la_Yft hI hl (fun tb' => ⟨la_pn _, hp tb'⟩))
  · intro n j hj f g tb
    show wY_isFirstFitting_2 post (nI l) (n + 1) (nI j) (nI c) (nI d) (nI p) t s it dr pa tb
    rw [wY_isFirstFitting_2]
    exact br_f (nI_ge hj (by omega)) (la_Yal hL (by omega) hl (la_pb (fun z => nm_r (nI_1 j) (g (fun q => z (la_al_s q.1)) tb)) (fun z => la_Yft hI (by omega) (fun tb' => la_pb (fun w => nm_r (nI_1 j) (g (fun q => w q.2) tb')) (fun w => f ⟨la_al_s z, w⟩ tb')))))
  · have q := h tb
    rw [la_pc (Q := la_ft p pa s it l) ⟨fun w => w.1, fun w => ⟨w, z⟩⟩] at q
    exact q
theorem i_vc_fittingGroups {k : Nat} {u : SX} {v : SY} (I : i_Rel k u v) (hk : k + 4 ≤ 2048) : wpX_fittingGroups (fun r => wpY_fittingGroups (fun r' v' => r' = r ∧ i_Rel (k + 4) u v') v) u := by
  obtain ⟨c, d, p, t, s, it, dr, pa, gs, tb, rfl, rfl, hI⟩ := I
  have hL := hI.1
  have hc := hL.1
  have kx : ∀ post : Int32 → Prop, post (nI (la_cn (fun l => la_ft p pa s it l ∧ ¬ la_ef p pa s it l) 0 c)) → ∃ n, wX_fittingGroups_4 post (nI c) (nI d) (nI p) t s it dr pa gs n 0 0 := by
    intro post h
    refine ⟨c - 0 + 1, ?_⟩
    refine la_cl0 (fun n x y => wX_fittingGroups_4 post (nI c) (nI d) (nI p) t s it dr pa gs n x y) post c (fun l => la_ft p pa s it l ∧ ¬ la_ef p pa s it l) ?_ ?_ 0 (by omega) h
    · intro n x hp
      show wX_fittingGroups_4 post (nI c) (nI d) (nI p) t s it dr pa gs (n + 1) x (nI c)
      rw [wX_fittingGroups_4]
      exact br_t (nI_le (by omega) (by omega)) hp
    · intro n x i hi f g
      show wX_fittingGroups_4 post (nI c) (nI d) (nI p) t s it dr pa gs (n + 1) x (nI i)
      rw [wX_fittingGroups_4]
      exact br_f (nI_ge hi (by omega)) (la_Xft hI hi (la_pb (fun e => nm_r (nI_1 i) (g (fun q => e q.1))) (fun e => la_Xef hI hi (la_pb (fun e2 => nm_e (nm_r (nI_1 i) (f ⟨e, e2⟩))) (fun e2 => nm_r (nI_1 i) (g (fun q => q.2 e2)))))))
  have ky : ∀ post : Int32 → SY → Prop, (∀ tb, post (nI (la_cn (fun l => la_ft p pa s it l ∧ ¬ la_ef p pa s it l) 0 c)) (nI c, nI d, nI p, t, s, it, dr, pa, tb)) → ∃ n, wY_fittingGroups_4 post n 0 0 (nI c) (nI d) (nI p) t s it dr pa tb := by
    intro post h
    refine ⟨c - 0 + 1, ?_⟩
    refine la_cl0 (fun n x y => ∀ tb, wY_fittingGroups_4 post n x y (nI c) (nI d) (nI p) t s it dr pa tb) (fun r => ∀ tb, post r (nI c, nI d, nI p, t, s, it, dr, pa, tb)) c (fun l => la_ft p pa s it l ∧ ¬ la_ef p pa s it l) ?_ ?_ 0 (by omega) h tb
    · intro n x hp tb
      show wY_fittingGroups_4 post (n + 1) x (nI c) (nI c) (nI d) (nI p) t s it dr pa tb
      rw [wY_fittingGroups_4]
      exact br_t (nI_le (by omega) (by omega)) (hp tb)
    · intro n x i hi f g tb
      show wY_fittingGroups_4 post (n + 1) x (nI i) (nI c) (nI d) (nI p) t s it dr pa tb
      rw [wY_fittingGroups_4]
      exact br_f (nI_ge hi (by omega)) (la_Yff hI hi (fun tb' => la_pb (fun e => nm_r (nI_1 i) (g e tb')) (fun e => nm_e (nm_r (nI_1 i) (f e tb')))))
  exact kx _ (ky _ (fun tb' => ⟨rfl, la_mk hI⟩))
