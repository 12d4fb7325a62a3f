def la_wr (c : Nat) (dr : Nat → Int32) (i : Nat) (it : Nat → Int32) : Nat → Int32 := upd it (8 * c + i) (dr i)
theorem la_wrS (c : Nat) (dr : Nat → Int32) : ∀ m i it j, (8 * c + i ≤ j → j < 8 * c + i + m → la_fo (la_wr c dr) i m it j = dr (j - 8 * c)) ∧ ((j < 8 * c + i ∨ 8 * c + i + m ≤ j) → la_fo (la_wr c dr) i m it j = it j) := by
  intro m
  induction m with
  | zero => intro i it j; exact ⟨fun a b => by omega, fun _ => rfl⟩
  | succ m ih =>
    intro i it j
    obtain ⟨h1, h2⟩ := ih (i + 1) (la_wr c dr i it) j
    refine ⟨fun a b => ?_, fun a => ?_⟩
    · show la_fo (la_wr c dr) (i + 1) m (la_wr c dr i it) j = _
      by_cases q : j = 8 * c + i
      · rw [h2 (by omega), q]
        show upd it (8 * c + i) (dr i) (8 * c + i) = _
        rw [pk_us]
        exact congrArg dr (by omega)
      · exact h1 (by omega) (by omega)
    · show la_fo (la_wr c dr) (i + 1) m (la_wr c dr i it) j = _
      rw [h2 (by omega)]
      show upd it (8 * c + i) (dr i) j = _
      rw [pk_un (by omega)]
theorem la_n_u {s : Nat → Int32} {c l : Nat} {x : Int32} (h : l ≠ c) : la_n (upd s c x) l = la_n s l := by
  unfold la_n
  rw [pk_un h]
theorem la_n_s {s : Nat → Int32} {c d : Nat} (h : d < 2 ^ 31) : la_n (upd s c (nI d)) c = d := by
  unfold la_n
  rw [pk_us, nI_clamp h]
theorem la_wrI {c d p : Nat} {t s it dr pa : Nat → Int32} {v : Int32} (hI : la_Inv c d p t s it dr pa) (hc : c < 60) (hd : 0 < d) (hv : c = 0 ∨ ¬ v < t (c - 1)) : la_Inv (c + 1) 0 p (upd t c v) (upd s c (nI d)) (la_fo (la_wr c dr) 0 d it) dr pa := by
  obtain ⟨⟨h1, hL⟩, h2, h3, h4, h5, h6, h7⟩ := hI
  refine ⟨⟨by omega, fun l hl => ?_⟩, by omega, h3, fun l hl => ?_, fun l hl i hi => ?_, fun i hi => by omega, h7⟩
  · by_cases q : l = c
    · rw [q, la_n_s (by omega), pk_us]
      exact ⟨rfl, hd, h2⟩
    · rw [la_n_u q, pk_un q]
      exact hL l (by omega)
  · by_cases q : l + 1 = c
    · rw [q, pk_us, pk_un (by omega)]
      rcases hv with hv | hv
      · omega
      · rw [show c - 1 = l from by omega] at hv
        exact Int32.not_lt.mp hv
    · rw [pk_un (by omega), pk_un (by omega)]
      exact h4 l (by omega)
  · by_cases q : l = c
    · subst q
      rw [la_n_s (by omega)] at hi
      rw [(la_wrS l dr d 0 it (8 * l + i)).1 (by omega) (by omega), show 8 * l + i - 8 * l = i from by omega]
      exact h6 i hi
    · rw [la_n_u q] at hi
      obtain ⟨_, _, w⟩ := hL l (by omega)
      rw [(la_wrS c dr d 0 it (8 * l + i)).2 (by omega)]
      exact h5 l (by omega) i hi
def la_cf (c : Nat) (t : Nat → Int32) (v : Int32) : Prop := ¬ v < 0 ∧ v ≤ 1000 ∧ (c = 0 ∨ ¬ v < t (c - 1))
theorem la_cm {c : Nat} (h : c ≠ 0) : nI c - 1 = nI (c - 1) := by
  obtain ⟨k, rfl⟩ : ∃ k, c = k + 1 := ⟨c - 1, by omega⟩
  rw [nI_pred]
  rfl
theorem la_Xcf {c d p : Nat} {t s it dr pa gs : Nat → Int32} {v : Int32} {post : Int32 → Prop} (hL : la_L c s) (h : post (la_pI (la_cf c t v))) : wpX_canFollow post (nI c, nI d, nI p, t, s, it, dr, pa, gs) v := by
  have hc := hL.1
  unfold la_cf at h
  unfold wpX_canFollow
  dsimp only
  refine br_c (fun a => la_p0 h (fun q => q.1 a)) (fun a => br_c (fun b => pk_eq c 0 (fun e => la_p1 h ⟨a, b, Or.inl e⟩) (fun e => ?_)) (fun b => la_p0 h (fun q => b q.2.1)))
  rw [la_cm e, nI_clamp (n := c - 1) (by omega)]
  refine ⟨vp_in_nI (by omega) (by omega), br_c (fun f => la_p0 h ?_) (fun f => la_p1 h ⟨a, b, Or.inr f⟩)⟩
  rintro ⟨_, _, q | q⟩
  · exact e q
  · exact q f
theorem la_Ycf {c d p : Nat} {t s it dr pa tb : Nat → Int32} {v : Int32} {post : Int32 → SY → Prop} (hL : la_L c s) (h1 : la_cf c t v → wY_write_35 post v (nI c) (nI d) (nI p) t s it dr pa tb) (h0 : ¬ la_cf c t v → post (-1) (nI c, nI d, nI p, t, s, it, dr, pa, tb)) : wpY_write post (nI c, nI d, nI p, t, s, it, dr, pa, tb) v := by
  have hc := hL.1
  unfold la_cf at h1 h0
  unfold wpY_write
  dsimp only
  refine br_c (fun a => h0 (fun q => q.1 a)) (fun a => br_c (fun b => h0 (fun q => ?_)) (fun b => pk_le c 0 (fun e => h1 ⟨a, Int32.not_lt.mp b, Or.inl (by omega)⟩) (fun e => ?_)))
  · exact Int32.not_lt.mpr q.2.1 b
  · rw [la_cm (by omega), nI_clamp (n := c - 1) (by omega)]
    refine ⟨vp_in_nI (by omega) (by omega), br_c (fun f => h1 ⟨a, Int32.not_lt.mp b, Or.inr (Int32.not_lt.mpr f)⟩) (fun f => h0 ?_)⟩
    rintro ⟨_, _, q | q⟩
    · omega
    · exact f (Int32.not_lt.mp q)
theorem la_Xwr {c d p : Nat} {t s it dr pa gs : Nat → Int32} {post : Int32 → SX → Prop} (hc : c < 60) (hd : d ≤ 8) (h : post (nI c) (nI (c + 1), nI 0, nI p, t, s, la_fo (la_wr c dr) 0 d it, dr, pa, gs)) : ∃ n, wX_write_56 post (nI c) (nI c) (nI d) (nI p) n 0 t s it dr pa gs := by
  refine ⟨d + 1, ?_⟩
  refine la_fl (fun n u x => wX_write_56 post (nI c) (nI c) (nI d) (nI p) n x t s u dr pa gs) (fun u => post (nI c) (nI (c + 1), nI 0, nI p, t, s, u, dr, pa, gs)) d (la_wr c dr) ?_ ?_ d 0 it (by omega) h
  · intro n u hp
    show wX_write_56 post (nI c) (nI c) (nI d) (nI p) (n + 1) (nI d) t s u dr pa gs
    rw [wX_write_56]
    exact br_t (nI_le (by omega) (by omega)) (nm_r (nI_1 c) hp)
  · intro n u i hi g
    show wX_write_56 post (nI c) (nI c) (nI d) (nI p) (n + 1) (nI i) t s u dr pa gs
    rw [wX_write_56]
    dsimp only
    rw [la_ix, nI_clamp (n := 8 * c + i) (by omega), nI_clamp (n := i) (by omega)]
    exact br_f (nI_ge hi (by omega)) ⟨vp_in_nI (by omega) (by omega), vp_in_nI (by omega) (by omega), nm_e (nm_r (nI_1 i) g)⟩
theorem la_Ywr {c d p : Nat} {t s it dr pa tb : Nat → Int32} {post : Int32 → SY → Prop} (hc : c < 60) (hd : d ≤ 8) (h : post (nI c) (nI (c + 1), nI 0, nI p, t, s, la_fo (la_wr c dr) 0 d it, dr, pa, tb)) : ∃ n, wY_write_82 post (nI c) (nI d) (nI p) n 0 t s it dr pa tb := by
  refine ⟨d + 1, ?_⟩
  refine la_fl (fun n u x => wY_write_82 post (nI c) (nI d) (nI p) n x t s u dr pa tb) (fun u => post (nI c) (nI (c + 1), nI 0, nI p, t, s, u, dr, pa, tb)) d (la_wr c dr) ?_ ?_ d 0 it (by omega) h
  · intro n u hp
    show wY_write_82 post (nI c) (nI d) (nI p) (n + 1) (nI d) t s u dr pa tb
    rw [wY_write_82]
    refine br_t (nI_le (by omega) (by omega)) (nm_r (nI_1 c) ?_)
    rw [nI_pred]
    exact hp
  · intro n u i hi g
    show wY_write_82 post (nI c) (nI d) (nI p) (n + 1) (nI i) t s u dr pa tb
    rw [wY_write_82]
    dsimp only
    rw [la_iy, nI_clamp (n := 8 * c + i) (by omega), nI_clamp (n := i) (by omega)]
    exact br_f (nI_ge hi (by omega)) ⟨vp_in_nI (by omega) (by omega), vp_in_nI (by omega) (by omega), nm_e (nm_r (nI_1 i) g)⟩
theorem i_vc_write {k : Nat} {u : SX} {v : SY} (I : i_Rel k u v) (hk : k + 4 ≤ 2048) (v1 : Int32) : wpX_write (fun r u' => wpY_write (fun r' v' => r' = r ∧ i_Rel (k + 4) u' v') v v1) u v1 := by
  obtain ⟨c, d, p, t, s, it, dr, pa, gs, tb, rfl, rfl, hI⟩ := I
  have hL := hI.1
  have hc := hL.1
  have hd := hI.2.1
  unfold wpX_write
  dsimp only
  refine la_Xcf hL (la_pb (fun z => la_Ycf hL (fun q => absurd q z) (fun _ => ⟨rfl, la_mk hI⟩)) (fun z => ?_))
  refine pk_eq d 0 (fun a => la_Ycf hL (fun _ => ?_) (fun q => absurd z q)) (fun a => pk_lt c 60 (fun b => ?_) (fun b => la_Ycf hL (fun _ => ?_) (fun q => absurd z q)))
  · unfold wY_write_35
    exact pk_eq d 0 (fun _ => ⟨rfl, la_mk hI⟩) (fun q => absurd a q)
  · have vc : vp_in (nI c) 60 := vp_in_nI b (by omega)
    have e : (nI c).toNatClampNeg = c := nI_clamp (by omega)
    rw [e]
    refine ⟨vc, nm_e ⟨vc, nm_e (la_Xwr b hd (la_Ycf hL (fun _ => ?_) (fun q => absurd z q)))⟩⟩
    unfold wY_write_35
    rw [e]
    exact pk_eq d 0 (fun q => absurd q a) (fun _ => pk_eq c 60 (fun q => by omega) (fun _ => ⟨vc, nm_e ⟨vc, nm_e (la_Ywr b hd ⟨rfl, la_mk (la_wrI hI b (by omega) z.2.2)⟩)⟩⟩))
  · unfold wY_write_35
    exact pk_eq d 0 (fun q => absurd q a) (fun _ => pk_eq c 60 (fun _ => ⟨rfl, la_mk hI⟩) (fun q => absurd (by omega) q))
def la_rc (l : Nat) (it : Nat → Int32) (i : Nat) (dr : Nat → Int32) : Nat → Int32 := upd dr i (it (8 * l + i))
theorem la_rcS (l : Nat) (it : Nat → Int32) : ∀ m i dr j, (i ≤ j → j < i + m → la_fo (la_rc l it) i m dr j = it (8 * l + j)) ∧ ((j < i ∨ i + m ≤ j) → la_fo (la_rc l it) i m dr j = dr j) := by
  intro m
  induction m with
  | zero => intro i dr j; exact ⟨fun a b => by omega, fun _ => rfl⟩
  | succ m ih =>
    intro i dr j
    obtain ⟨h1, h2⟩ := ih (i + 1) (la_rc l it i dr) j
    refine ⟨fun a b => ?_, fun a => ?_⟩
    · show la_fo (la_rc l it) (i + 1) m (la_rc l it i dr) j = _
      by_cases q : j = i
      · rw [h2 (by omega), q]
        show upd dr i (it (8 * l + i)) i = _
        rw [pk_us]
      · exact h1 (by omega) (by omega)
    · show la_fo (la_rc l it) (i + 1) m (la_rc l it i dr) j = _
      rw [h2 (by omega)]
      show upd dr i (it (8 * l + i)) j = _
      rw [pk_un (by omega)]
theorem la_Xrc {c n p l : Nat} {t s it dr pa gs : Nat → Int32} {post : Int32 → SX → Prop} (hl : l < 60) (hn : n ≤ 8) (h : post (nI n) (nI c, nI n, nI p, t, s, it, la_fo (la_rc l it) 0 n dr, pa, gs)) : ∃ m, wX_recall_22 post (nI l) (nI c) (nI n) (nI p) m 0 t s it dr pa gs := by
  refine ⟨n + 1, ?_⟩
  refine la_fl (fun m u x => wX_recall_22 post (nI l) (nI c) (nI n) (nI p) m x t s it u pa gs) (fun u => post (nI n) (nI c, nI n, nI p, t, s, it, u, pa, gs)) n (la_rc l it) ?_ ?_ n 0 dr (by omega) h
  · intro m u hp
    show wX_recall_22 post (nI l) (nI c) (nI n) (nI p) (m + 1) (nI n) t s it u pa gs
    rw [wX_recall_22]
    exact br_t (nI_le (by omega) (by omega)) hp
  · intro m u i hi g
    show wX_recall_22 post (nI l) (nI c) (nI n) (nI p) (m + 1) (nI i) t s it u pa gs
    rw [wX_recall_22]
    dsimp only
    rw [nI_clamp (n := i) (by omega)]
    exact br_f (nI_ge hi (by omega)) (la_Xit (by omega) ⟨vp_in_nI (by omega) (by omega), nm_e (nm_r (nI_1 i) g)⟩)
theorem la_Yrc {c n p l : Nat} {t s it dr pa tb : Nat → Int32} {post : Int32 → SY → Prop} (hl : l < 60) (hn : n ≤ 8) (h : post (nI n) (nI c, nI n, nI p, t, s, it, la_fo (la_rc l it) 0 n dr, pa, tb)) : ∃ m, wY_recall_22 post (nI l) (nI c) (nI n) (nI p) m 0 t s it dr pa tb := by
  refine ⟨n + 1, ?_⟩
  refine la_fl (fun m u x => wY_recall_22 post (nI l) (nI c) (nI n) (nI p) m x t s it u pa tb) (fun u => post (nI n) (nI c, nI n, nI p, t, s, it, u, pa, tb)) n (la_rc l it) ?_ ?_ n 0 dr (by omega) h
  · intro m u hp
    show wY_recall_22 post (nI l) (nI c) (nI n) (nI p) (m + 1) (nI n) t s it u pa tb
    rw [wY_recall_22]
    exact br_t (nI_le (by omega) (by omega)) hp
  · intro m u i hi g
    show wY_recall_22 post (nI l) (nI c) (nI n) (nI p) (m + 1) (nI i) t s it u pa tb
    rw [wY_recall_22]
    dsimp only
    rw [la_iy, nI_clamp (n := 8 * l + i) (by omega), nI_clamp (n := i) (by omega)]
    exact br_f (nI_ge hi (by omega)) ⟨vp_in_nI (by omega) (by omega), vp_in_nI (by omega) (by omega), nm_e (nm_r (nI_1 i) g)⟩
theorem i_vc_recall {k : Nat} {u : SX} {v : SY} (I : i_Rel k u v) (hk : k + 4 ≤ 2048) (v1 : Int32) : wpX_recall (fun r u' => wpY_recall (fun r' v' => r' = r ∧ i_Rel (k + 4) u' v') v v1) u v1 := by
  obtain ⟨c, d, p, t, s, it, dr, pa, gs, tb, rfl, rfl, hI⟩ := I
  have hL := hI.1
  have hc := hL.1
  unfold wpX_recall wpY_recall
  dsimp only
  rcases la_cs hL v1 with hb | ⟨l, hl, rfl⟩
  · exact la_Xg1 hb (la_t1 (la_Yg1 hb (la_t2 ⟨rfl, la_mk hI⟩)))
  obtain ⟨e, l1, l8⟩ := hL.2 l hl
  have vl : vp_in (nI l) 60 := vp_in_nI (by omega) (by omega)
  rw [nI_clamp (n := l) (by omega), e]
  refine la_Xg2 hL hl (la_t2 ⟨vl, nm_e (la_Xrc (by omega) l8 (la_Yg2 hL hl (la_t1 ⟨vl, nm_e (la_Yrc (by omega) l8 ⟨rfl, la_mk ?_⟩)⟩)))⟩)
  obtain ⟨h1, h2, h3, h4, h5, h6, h7⟩ := hI
  refine ⟨h1, l8, h3, h4, h5, fun i hi => ?_, h7⟩
  rw [(la_rcS l it (la_n s l) 0 dr i).1 (by omega) (by omega)]
  exact h5 l hl i hi
def la_ci2 (a b : Nat) (i : Nat) (it : Nat → Int32) : Nat → Int32 := upd it (8 * b + i) (it (8 * a + i))
theorem la_ciS {a b : Nat} (hab : b ≤ a) : ∀ m i it j, (8 * b + i ≤ j → j < 8 * b + i + m → la_fo (la_ci2 a b) i m it j = it (j - 8 * b + 8 * a)) ∧ ((j < 8 * b + i ∨ 8 * b + i + m ≤ j) → la_fo (la_ci2 a b) i m it j = it j) := by
  intro m
  induction m with
  | zero => intro i it j; exact ⟨fun a b => by omega, fun _ => rfl⟩
  | succ m ih =>
    intro i it j
    obtain ⟨h1, h2⟩ := ih (i + 1) (la_ci2 a b i it) j
    refine ⟨fun x y => ?_, fun x => ?_⟩
    · show la_fo (la_ci2 a b) (i + 1) m (la_ci2 a b i it) j = _
      by_cases q : j = 8 * b + i
      · rw [h2 (by omega), q]
        show upd it (8 * b + i) (it (8 * a + i)) (8 * b + i) = _
        rw [pk_us]
        exact congrArg it (by omega)
      · rw [h1 (by omega) (by omega)]
        show upd it (8 * b + i) (it (8 * a + i)) (j - 8 * b + 8 * a) = _
        rw [pk_un (by omega)]
    · show la_fo (la_ci2 a b) (i + 1) m (la_ci2 a b i it) j = _
      rw [h2 (by omega)]
      show upd it (8 * b + i) (it (8 * a + i)) j = _
      rw [pk_un (by omega)]
abbrev la_A3 : Type := (Nat → Int32) × (Nat → Int32) × (Nat → Int32)
def la_ex (g l : Nat) (q : la_A3) : la_A3 := (upd q.1 (l - g) (q.1 l), upd q.2.1 (l - g) (q.2.1 l), la_fo (la_ci2 l (l - g)) 0 8 q.2.2)
def la_eI (g : Nat) (t s it : Nat → Int32) (l : Nat) (q : la_A3) : Prop := (∀ j, j < l - g → q.1 j = t (j + g) ∧ q.2.1 j = s (j + g) ∧ ∀ i, i < 8 → q.2.2 (8 * j + i) = it (8 * (j + g) + i)) ∧ (∀ j, l - g ≤ j → q.1 j = t j ∧ q.2.1 j = s j ∧ ∀ i, i < 8 → q.2.2 (8 * j + i) = it (8 * j + i))
theorem la_exS (g : Nat) (t s it : Nat → Int32) : ∀ m l q, g ≤ l → la_eI g t s it l q → la_eI g t s it (l + m) (la_fo (la_ex g) l m q) := by
  intro m
  induction m with
  | zero => intro l q _ h; exact h
  | succ m ih =>
    intro l q hl h
    rw [show l + (m + 1) = l + 1 + m from by omega]
    refine ih (l + 1) (la_ex g l q) (by omega) ?_
    obtain ⟨h1, h2⟩ := h
    obtain ⟨a1, a2, a3⟩ := h2 l (by omega)
    refine ⟨fun j hj => ?_, fun j hj => ?_⟩
    · by_cases w : j = l - g
      · subst w
        refine ⟨?_, ?_, fun i hi => ?_⟩
        · show upd q.1 (l - g) (q.1 l) (l - g) = _
          rw [pk_us, a1]
          exact congrArg t (by omega)
        · show upd q.2.1 (l - g) (q.2.1 l) (l - g) = _
          rw [pk_us, a2]
          exact congrArg s (by omega)
        · show la_fo (la_ci2 l (l - g)) 0 8 q.2.2 (8 * (l - g) + i) = _
          rw [(la_ciS (a := l) (b := l - g) (by omega) 8 0 q.2.2 (8 * (l - g) + i)).1 (by omega) (by omega), show 8 * (l - g) + i - 8 * (l - g) + 8 * l = 8 * l + i from by omega, a3 i hi]
          exact congrArg it (by omega)
      · obtain ⟨b1, b2, b3⟩ := h1 j (by omega)
        refine ⟨?_, ?_, fun i hi => ?_⟩
        · show upd q.1 (l - g) (q.1 l) j = _
          rw [pk_un w, b1]
        · show upd q.2.1 (l - g) (q.2.1 l) j = _
          rw [pk_un w, b2]
        · show la_fo (la_ci2 l (l - g)) 0 8 q.2.2 (8 * j + i) = _
          rw [(la_ciS (a := l) (b := l - g) (by omega) 8 0 q.2.2 (8 * j + i)).2 (by omega), b3 i hi]
    · obtain ⟨b1, b2, b3⟩ := h2 j (by omega)
      refine ⟨?_, ?_, fun i hi => ?_⟩
      · show upd q.1 (l - g) (q.1 l) j = _
        rw [pk_un (by omega), b1]
      · show upd q.2.1 (l - g) (q.2.1 l) j = _
        rw [pk_un (by omega), b2]
      · show la_fo (la_ci2 l (l - g)) 0 8 q.2.2 (8 * j + i) = _
        rw [(la_ciS (a := l) (b := l - g) (by omega) 8 0 q.2.2 (8 * j + i)).2 (by omega), b3 i hi]
theorem la_Xcp {c d p : Nat} {t s it dr pa gs : Nat → Int32} {a b : Nat} {post : SX → Prop} (ha : a < 60) (hb : b < 60) (h : post (nI c, nI d, nI p, upd t b (t a), upd s b (s a), la_fo (la_ci2 a b) 0 8 it, dr, pa, gs)) : wpX_copyLine post (nI c, nI d, nI p, t, s, it, dr, pa, gs) (nI a) (nI b) := by
  have va : vp_in (nI a) 60 := vp_in_nI (by omega) (by omega)
  have vb : vp_in (nI b) 60 := vp_in_nI (by omega) (by omega)
  unfold wpX_copyLine
  dsimp only
  rw [nI_clamp (n := a) (by omega), nI_clamp (n := b) (by omega)]
  refine ⟨va, vb, nm_e ⟨va, vb, nm_e ⟨8 + 1, ?_⟩⟩⟩
  refine la_fl (fun n u x => wX_copyLine_26 post (nI a) (nI b) (nI c) (nI d) (nI p) n x (upd t b (t a)) (upd s b (s a)) u dr pa gs) (fun u => post (nI c, nI d, nI p, upd t b (t a), upd s b (s a), u, dr, pa, gs)) 8 (la_ci2 a b) ?_ ?_ 8 0 it (by omega) h
  · intro n u hp
    show wX_copyLine_26 post (nI a) (nI b) (nI c) (nI d) (nI p) (n + 1) (nI 8) (upd t b (t a)) (upd s b (s a)) u dr pa gs
    rw [wX_copyLine_26]
    exact pk_le 8 8 (fun _ => hp) (fun q => by omega)
  · intro n u i hi g
    show wX_copyLine_26 post (nI a) (nI b) (nI c) (nI d) (nI p) (n + 1) (nI i) (upd t b (t a)) (upd s b (s a)) u dr pa gs
    rw [wX_copyLine_26]
    dsimp only
    rw [la_ix, la_ix, nI_clamp (n := 8 * a + i) (by omega), nI_clamp (n := 8 * b + i) (by omega)]
    exact pk_le 8 i (fun q => by omega) (fun _ => ⟨vp_in_nI (by omega) (by omega), vp_in_nI (by omega) (by omega), nm_e (nm_r (nI_1 i) g)⟩)
theorem la_Xex {c d p g : Nat} {t s it dr pa gs : Nat → Int32} {post : Int32 → SX → Prop} (hc : c ≤ 60) (hg : g ≤ c) (h : post (nI g) (nI (c - g), nI d, nI p, (la_fo (la_ex g) g (c - g) (t, s, it)).1, (la_fo (la_ex g) g (c - g) (t, s, it)).2.1, (la_fo (la_ex g) g (c - g) (t, s, it)).2.2, dr, pa, gs)) : ∃ n, wX_expire_8 post (nI g) n (nI g) (nI c) (nI d) (nI p) t s it dr pa gs := by
  refine ⟨c - g + 1, ?_⟩
  have key : ∀ m l (q : la_A3), g ≤ l → l + m = c → post (nI g) (nI (c - g), nI d, nI p, (la_fo (la_ex g) l m q).1, (la_fo (la_ex g) l m q).2.1, (la_fo (la_ex g) l m q).2.2, dr, pa, gs) → wX_expire_8 post (nI g) (m + 1) (nI l) (nI c) (nI d) (nI p) q.1 q.2.1 q.2.2 dr pa gs := by
    intro m
    induction m with
    | zero =>
      intro l q h1 h2 hp
      rw [wX_expire_8]
      exact br_t (nI_le (by omega) (by omega)) (nm_r (pk_sub hg) hp)
    | succ m ih =>
      intro l q h1 h2 hp
      rw [wX_expire_8]
      dsimp only
      rw [pk_sub h1]
      refine br_f (nI_ge (by omega) (by omega)) (la_Xcp (by omega) (by omega) ?_)
      exact nm_r (nI_1 l) (ih (l + 1) (la_ex g l q) (by omega) (by omega) hp)
  exact key (c - g) g (t, s, it) (Nat.le_refl g) (by omega) h
theorem la_Yex {c d p g : Nat} {t s it dr pa tb : Nat → Int32} {post : Int32 → SY → Prop} (hc : c ≤ 60) (hg : g ≤ c) (h : post (nI g) (nI (c - g), nI d, nI p, (la_fo (la_ex g) g (c - g) (t, s, it)).1, (la_fo (la_ex g) g (c - g) (t, s, it)).2.1, (la_fo (la_ex g) g (c - g) (t, s, it)).2.2, dr, pa, tb)) : ∃ n, wY_expire_28 post (nI g) (nI c) (nI d) (nI p) n (nI g) t s it dr pa tb := by
  refine ⟨c - g + 1, ?_⟩
  have key : ∀ m l (q : la_A3), g ≤ l → l + m = c → post (nI g) (nI (c - g), nI d, nI p, (la_fo (la_ex g) l m q).1, (la_fo (la_ex g) l m q).2.1, (la_fo (la_ex g) l m q).2.2, dr, pa, tb) → wY_expire_28 post (nI g) (nI c) (nI d) (nI p) (m + 1) (nI l) q.1 q.2.1 q.2.2 dr pa tb := by
    intro m
    induction m with
    | zero =>
      intro l q h1 h2 hp
      rw [wY_expire_28]
      exact br_t (nI_le (by omega) (by omega)) (nm_r (pk_sub hg) hp)
    | succ m ih =>
      intro l q h1 h2 hp
      have hi := ih (l + 1) (la_ex g l q) (by omega) (by omega) hp
      have va : vp_in (nI l) 60 := vp_in_nI (by omega) (by omega)
      have vb : vp_in (nI (l - g)) 60 := vp_in_nI (by omega) (by omega)
      rw [wY_expire_28]
      dsimp only
      rw [pk_sub h1, nI_clamp (n := l) (by omega), nI_clamp (n := l - g) (by omega)]
      refine br_f (nI_ge (by omega) (by omega)) ⟨va, vb, nm_e ⟨va, vb, nm_e ⟨8 + 1, ?_⟩⟩⟩
      refine la_fl (fun n u x => wY_expire_67 post (wY_expire_28 post (nI g) (nI c) (nI d) (nI p) (m + 1)) (nI g) (nI l) (nI c) (nI d) (nI p) n x (upd q.1 (l - g) (q.1 l)) (upd q.2.1 (l - g) (q.2.1 l)) u dr pa tb) (fun u => wY_expire_28 post (nI g) (nI c) (nI d) (nI p) (m + 1) (nI (l + 1)) (upd q.1 (l - g) (q.1 l)) (upd q.2.1 (l - g) (q.2.1 l)) u dr pa tb) 8 (la_ci2 l (l - g)) ?_ ?_ 8 0 q.2.2 (by omega) hi
      · intro n u hp
        show wY_expire_67 post (wY_expire_28 post (nI g) (nI c) (nI d) (nI p) (m + 1)) (nI g) (nI l) (nI c) (nI d) (nI p) (n + 1) (nI 8) (upd q.1 (l - g) (q.1 l)) (upd q.2.1 (l - g) (q.2.1 l)) u dr pa tb
        rw [wY_expire_67]
        exact pk_le 8 8 (fun _ => nm_r (nI_1 l) hp) (fun q => by omega)
      · intro n u i hi g2
        show wY_expire_67 post (wY_expire_28 post (nI g) (nI c) (nI d) (nI p) (m + 1)) (nI g) (nI l) (nI c) (nI d) (nI p) (n + 1) (nI i) (upd q.1 (l - g) (q.1 l)) (upd q.2.1 (l - g) (q.2.1 l)) u dr pa tb
        rw [wY_expire_67]
        dsimp only
        rw [pk_sub h1, la_iy, la_iy, nI_clamp (n := 8 * l + i) (by omega), nI_clamp (n := 8 * (l - g) + i) (by omega)]
        exact pk_le 8 i (fun q => by omega) (fun _ => ⟨vp_in_nI (by omega) (by omega), vp_in_nI (by omega) (by omega), nm_e (nm_r (nI_1 i) g2)⟩)
  exact key (c - g) g (t, s, it) (Nat.le_refl g) (by omega) h
theorem la_tm {c : Nat} {t : Nat → Int32} (h : ∀ l, l + 1 < c → t l ≤ t (l + 1)) : ∀ m a, a + m < c → t a ≤ t (a + m) := by
  intro m
  induction m with
  | zero => intro a _; exact Int32.le_refl _
  | succ m ih =>
    intro a ha
    exact Int32.le_trans (ih a (by omega)) (h (a + m) (by omega))
noncomputable def la_go (c : Nat) (t : Nat → Int32) (v : Int32) : Nat := la_se (fun l => v ≤ t l) id c 0 c
theorem la_go_le (c : Nat) (t : Nat → Int32) (v : Int32) : la_go c t v ≤ c := by
  unfold la_go
  rcases la_ss (fun l => v ≤ t l) c c 0 with ⟨k, e1, e2, e3, _⟩ | ⟨e1, _⟩ <;> rw [e1] <;> omega
theorem la_go_cn {c : Nat} {t : Nat → Int32} (v : Int32) (h : ∀ l, l + 1 < c → t l ≤ t (l + 1)) : la_cn (fun l => ¬ v ≤ t l) 0 c = la_go c t v := by
  unfold la_go
  rcases la_ss (fun l => v ≤ t l) c c 0 with ⟨k, e1, e2, e3, e4, e5⟩ | ⟨e1, e2⟩
  · rw [e1]
    have z0 : la_cn (fun l => ¬ v ≤ t l) (0 + k) (c - k) = 0 := by
      refine la_cn_0 _ (c - k) (0 + k) (fun j a b w => w ?_)
      have z := la_tm h (j - k) k (by omega)
      rw [show k + (j - k) = j from by omega] at z
      exact Int32.le_trans e4 z
    have q : la_cn (fun l => ¬ v ≤ t l) 0 (k + (c - k)) = k := by
      rw [la_cn_add, la_cn_all _ k 0 (fun j a b => e5 j a (by omega)), z0]
      rfl
    rw [show k + (c - k) = c from by omega] at q
    exact q
  · rw [e1]
    exact la_cn_all _ c 0 (fun j a b => e2 j a b)
theorem i_vc_expire {k : Nat} {u : SX} {v : SY} (I : i_Rel k u v) (hk : k + 4 ≤ 2048) (v1 : Int32) : wpX_expire (fun r u' => wpY_expire (fun r' v' => r' = r ∧ i_Rel (k + 4) u' v') v v1) u v1 := by
  obtain ⟨c, d, p, t, s, it, dr, pa, gs, tb, rfl, rfl, hI⟩ := I
  have hL := hI.1
  have hc := hL.1
  have hg := la_go_le c t v1
  have kx : ∀ post : Int32 → Prop, post (nI (la_go c t v1)) → wpX_countBefore post (nI c, nI d, nI p, t, s, it, dr, pa, gs) v1 := by
    intro post h
    rw [← la_go_cn v1 hI.2.2.2.1] at h
    unfold wpX_countBefore
    refine ⟨c - 0 + 1, ?_⟩
    refine la_cl0 (fun n x y => wX_countBefore_4 post v1 (nI c) (nI d) (nI p) t s it dr pa gs n x y) post c (fun l => ¬ v1 ≤ t l) ?_ ?_ 0 (by omega) h
    · intro n x hp
      show wX_countBefore_4 post v1 (nI c) (nI d) (nI p) t s it dr pa gs (n + 1) x (nI c)
      rw [wX_countBefore_4]
      exact br_t (nI_le (by omega) (by omega)) hp
    · intro n x i hi f g
      show wX_countBefore_4 post v1 (nI c) (nI d) (nI p) t s it dr pa gs (n + 1) x (nI i)
      rw [wX_countBefore_4]
      dsimp only
      rw [nI_clamp (n := i) (by omega)]
      exact br_f (nI_ge hi (by omega)) ⟨vp_in_nI (by omega) (by omega), br_c (fun a => nm_r (nI_1 i) (g (fun q => q a))) (fun a => nm_e (nm_r (nI_1 i) (f a)))⟩
  have ky : ∀ post : Int32 → SY → Prop, (∃ n, wY_expire_28 post (nI (la_go c t v1)) (nI c) (nI d) (nI p) n (nI (la_go c t v1)) t s it dr pa tb) → wpY_expire post (nI c, nI d, nI p, t, s, it, dr, pa, tb) v1 := by
    intro post h
    unfold wpY_expire
    refine ⟨c + 1, ?_⟩
    refine la_sl (fun n x => wY_expire_2 post v1 (nI c) (nI d) (nI p) t s it dr pa tb n x) (fun g => ∃ n, wY_expire_28 post (nI g) (nI c) (nI d) (nI p) n (nI g) t s it dr pa tb) c (fun l => v1 ≤ t l) id c ?_ ?_ c 0 (by omega) h
    · intro n hp
      show wY_expire_2 post v1 (nI c) (nI d) (nI p) t s it dr pa tb (n + 1) (nI c)
      rw [wY_expire_2]
      exact br_t (nI_le (by omega) (by omega)) hp
    · intro n i hi f g
      show wY_expire_2 post v1 (nI c) (nI d) (nI p) t s it dr pa tb (n + 1) (nI i)
      rw [wY_expire_2]
      dsimp only
      rw [nI_clamp (n := i) (by omega)]
      exact br_f (nI_ge hi (by omega)) ⟨vp_in_nI (by omega) (by omega), br_c (fun a => f a) (fun a => nm_r (nI_1 i) (g a))⟩
  generalize la_go c t v1 = g at hg kx ky
  unfold wpX_expire
  refine kx _ (la_Xex hc hg (ky _ (la_Yex hc hg ⟨rfl, la_mk ?_⟩)))
  obtain ⟨h1, h2, h3, h4, h5, h6, h7⟩ := hI
  have S := la_exS g t s it (c - g) g (t, s, it) (Nat.le_refl g) ⟨fun j hj => by omega, fun j hj => ⟨rfl, rfl, fun i hi => rfl⟩⟩
  rw [show g + (c - g) = c from by omega] at S
  generalize la_fo (la_ex g) g (c - g) (t, s, it) = q at S
  have S := S.1
  have en : ∀ j, j < c - g → la_n q.2.1 j = la_n s (j + g) := fun j hj => congrArg Int32.toNatClampNeg (S j hj).2.1
  refine ⟨⟨by omega, fun j hj => ?_⟩, h2, h3, fun j hj => ?_, fun j hj i hi => ?_, h6, h7⟩
  · rw [en j hj, (S j hj).2.1]
    exact h1.2 (j + g) (by omega)
  · rw [(S j (by omega)).1, (S (j + 1) hj).1, show j + 1 + g = j + g + 1 from by omega]
    exact h4 (j + g) (by omega)
  · rw [en j hj] at hi
    obtain ⟨_, _, w⟩ := h1.2 (j + g) (by omega)
    rw [(S j hj).2.2 i (by omega)]
    exact h5 (j + g) (by omega) i hi
