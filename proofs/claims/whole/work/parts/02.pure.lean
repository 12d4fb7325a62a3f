noncomputable def la_pI (P : Prop) : Int32 := @ite Int32 P (Classical.propDecidable P) 1 0
theorem la_pt {P : Prop} (h : P) : la_pI P = 1 := if_pos h
theorem la_pf {P : Prop} (h : ¬ P) : la_pI P = 0 := if_neg h
theorem la_pc {P Q : Prop} (h : P ↔ Q) : la_pI P = la_pI Q := by rw [propext h]
theorem la_pb {P A B : Prop} (f : ¬ P → A) (g : P → B) : (la_pI P = 0 → A) ∧ (¬ la_pI P = 0 → B) := by
  by_cases h : P
  · rw [la_pt h]; exact ⟨fun z => absurd z (by decide), fun _ => g h⟩
  · rw [la_pf h]; exact ⟨fun _ => f h, fun z => absurd rfl z⟩
theorem la_pn (P : Prop) : narrow .boolean (.int (la_pI P)) = .int (la_pI P) := by
  by_cases h : P
  · rw [la_pt h]; rfl
  · rw [la_pf h]; rfl
theorem la_pv (P : Prop) : vp_nar .boolean (la_pI P) = la_pI P := by
  by_cases h : P
  · rw [la_pt h]; rfl
  · rw [la_pf h]; rfl
/-- a value by cases: what a test of P gives -/
theorem la_pp {P : Prop} {post : Int32 → Prop} (f : P → post 1) (g : ¬ P → post 0) : post (la_pI P) := by
  by_cases h : P
  · rw [la_pt h]; exact f h
  · rw [la_pf h]; exact g h
theorem la_p1 {P : Prop} {post : Int32 → Prop} (h : post (la_pI P)) (hp : P) : post 1 := by rw [la_pt hp] at h; exact h
theorem la_p0 {P : Prop} {post : Int32 → Prop} (h : post (la_pI P)) (hp : ¬ P) : post 0 := by rw [la_pf hp] at h; exact h
def la_fo {σ : Type} (f : Nat → σ → σ) : Nat → Nat → σ → σ
  | _, 0, x => x
  | i, m + 1, x => la_fo f (i + 1) m (f i x)
theorem la_fl {σ : Type} (W : Nat → σ → Int32 → Prop) (post : σ → Prop) (c : Nat) (f : Nat → σ → σ) (hx : ∀ n x, post x → W (n + 1) x (nI c)) (hs : ∀ n x i, i < c → W n (f i x) (nI (i + 1)) → W (n + 1) x (nI i)) : ∀ m i x, i + m = c → post (la_fo f i m x) → W (m + 1) x (nI i) := by
  intro m
  induction m with
  | zero =>
    intro i x hi h
    have e : i = c := by omega
    rw [e]
    exact hx 0 x h
  | succ m ih =>
    intro i x hi h
    exact hs (m + 1) x i (by omega) (ih (i + 1) (f i x) (by omega) h)
theorem la_fc {σ : Type} (f g : Nat → σ → σ) : ∀ m i x, (∀ j y, i ≤ j → j < i + m → f j y = g j y) → la_fo f i m x = la_fo g i m x := by
  intro m
  induction m with
  | zero => intro i x _; rfl
  | succ m ih =>
    intro i x h
    show la_fo f (i + 1) m (f i x) = la_fo g (i + 1) m (g i x)
    rw [h i x (by omega) (by omega)]
    exact ih (i + 1) _ (fun j y a b => h j y (by omega) (by omega))
noncomputable def la_se {ρ : Type} (P : Nat → Prop) (r : Nat → ρ) (e : ρ) : Nat → Nat → ρ
  | _, 0 => e
  | i, m + 1 => @ite ρ (P i) (Classical.propDecidable (P i)) (r i) (la_se P r e (i + 1) m)
theorem la_se_t {ρ : Type} {P : Nat → Prop} {r : Nat → ρ} {e : ρ} {i m : Nat} (h : P i) : la_se P r e i (m + 1) = r i := if_pos h
theorem la_se_f {ρ : Type} {P : Nat → Prop} {r : Nat → ρ} {e : ρ} {i m : Nat} (h : ¬ P i) : la_se P r e i (m + 1) = la_se P r e (i + 1) m := if_neg h
theorem la_sl {ρ : Type} (W : Nat → Int32 → Prop) (post : ρ → Prop) (c : Nat) (P : Nat → Prop) (r : Nat → ρ) (e : ρ) (hx : ∀ n, post e → W (n + 1) (nI c)) (hs : ∀ n i, i < c → (P i → post (r i)) → (¬ P i → W n (nI (i + 1))) → W (n + 1) (nI i)) : ∀ m i, i + m = c → post (la_se P r e i m) → W (m + 1) (nI i) := by
  intro m
  induction m with
  | zero =>
    intro i hi h
    have q : i = c := by omega
    rw [q]
    exact hx 0 h
  | succ m ih =>
    intro i hi h
    refine hs (m + 1) i (by omega) (fun z => ?_) (fun z => ih (i + 1) (by omega) ?_)
    · rw [la_se_t z] at h; exact h
    · rw [la_se_f z] at h; exact h
theorem la_ss (P : Nat → Prop) (e : Nat) : ∀ m i, (∃ k, la_se P id e i m = k ∧ i ≤ k ∧ k < i + m ∧ P k ∧ ∀ j, i ≤ j → j < k → ¬ P j) ∨ (la_se P id e i m = e ∧ ∀ j, i ≤ j → j < i + m → ¬ P j) := by
  intro m
  induction m with
  | zero => intro i; exact Or.inr ⟨rfl, fun j a b => by omega⟩
  | succ m ih =>
    intro i
    by_cases h : P i
    · exact Or.inl ⟨i, la_se_t h, by omega, by omega, h, fun j a b => by omega⟩
    · rw [la_se_f h]
      rcases ih (i + 1) with ⟨k, e1, e2, e3, e4, e5⟩ | ⟨e1, e2⟩
      · refine Or.inl ⟨k, e1, by omega, by omega, e4, fun j a b => ?_⟩
        by_cases q : j = i
        · rw [q]; exact h
        · exact e5 j (by omega) b
      · refine Or.inr ⟨e1, fun j a b => ?_⟩
        by_cases q : j = i
        · rw [q]; exact h
        · exact e2 j (by omega) (by omega)
theorem la_sc {ρ : Type} (P Q : Nat → Prop) (r : Nat → ρ) (e : ρ) : ∀ m i, (∀ j, i ≤ j → j < i + m → (P j ↔ Q j)) → la_se P r e i m = la_se Q r e i m := by
  intro m
  induction m with
  | zero => intro i _; rfl
  | succ m ih =>
    intro i h
    have q := h i (by omega) (by omega)
    have w := ih (i + 1) (fun j a b => h j (by omega) (by omega))
    by_cases z : P i
    · rw [la_se_t z, la_se_t (q.mp z)]
    · rw [la_se_f z, la_se_f (fun y => z (q.mpr y)), w]
/-- a loop that ends early when P holds -/
theorem la_el (W : Nat → Int32 → Prop) (A B : Prop) (c : Nat) (P : Nat → Prop) (hx : ∀ n, B → W (n + 1) (nI c)) (hs : ∀ n i, i < c → (P i → A) → (¬ P i → W n (nI (i + 1))) → W (n + 1) (nI i)) : ∀ m i, i + m = c → ((∃ j, i ≤ j ∧ j < c ∧ P j) → A) → ((¬ ∃ j, i ≤ j ∧ j < c ∧ P j) → B) → W (m + 1) (nI i) := by
  intro m
  induction m with
  | zero =>
    intro i hi _ hb
    have q : i = c := by omega
    rw [q]
    exact hx 0 (hb (fun ⟨j, a, b, _⟩ => by omega))
  | succ m ih =>
    intro i hi ha hb
    refine hs (m + 1) i (by omega) (fun z => ha ⟨i, by omega, by omega, z⟩) (fun z => ih (i + 1) (by omega) (fun ⟨j, a, b, w⟩ => ha ⟨j, by omega, b, w⟩) (fun w => hb (fun ⟨j, a, b, v⟩ => ?_)))
    by_cases q : j = i
    · rw [q] at v; exact z v
    · exact w ⟨j, by omega, b, v⟩
theorem la_8 : (8 : Int32) = nI 8 := by decide +kernel
theorem la_9 : (9 : Int32) = nI 9 := by decide +kernel
theorem la_60 : (60 : Int32) = nI 60 := by decide +kernel
theorem la_ix (a i : Nat) : nI a * 8 + nI i = nI (8 * a + i) := by rw [la_8, pk_mul, nI_add, Nat.mul_comm]
theorem la_iy (a i : Nat) : 8 * nI a + nI i = nI (8 * a + i) := by rw [la_8, pk_mul, nI_add]
def la_n (s : Nat → Int32) (l : Nat) : Nat := (s l).toNatClampNeg
def la_L (c : Nat) (s : Nat → Int32) : Prop := c ≤ 60 ∧ ∀ l, l < c → s l = nI (la_n s l) ∧ 1 ≤ la_n s l ∧ la_n s l ≤ 8
def la_sk (x y : Int32) : Prop := x = y ∨ (¬ x < 1000 ∧ ¬ y < 1000)
def la_al (s it : Nat → Int32) (a b : Nat) : Prop := s a = s b ∧ ∀ i, i < la_n s a → la_sk (it (8 * a + i)) (it (8 * b + i))
theorem la_al_r (s it : Nat → Int32) (a : Nat) : la_al s it a a := ⟨rfl, fun i _ => Or.inl rfl⟩
theorem la_al_s {s it : Nat → Int32} {a b : Nat} (h : la_al s it a b) : la_al s it b a := by
  refine ⟨h.1.symm, fun i hi => ?_⟩
  have e : la_n s a = la_n s b := congrArg Int32.toNatClampNeg h.1
  rcases h.2 i (by omega) with q | ⟨q, w⟩
  · exact Or.inl q.symm
  · exact Or.inr ⟨w, q⟩
theorem la_al_c (s it : Nat → Int32) (a b : Nat) : la_al s it a b ↔ la_al s it b a := ⟨la_al_s, la_al_s⟩
theorem la_al_t {s it : Nat → Int32} {a b e : Nat} (h : la_al s it a b) (g : la_al s it b e) : la_al s it a e := by
  refine ⟨h.1.trans g.1, fun i hi => ?_⟩
  have q : la_n s a = la_n s b := congrArg Int32.toNatClampNeg h.1
  rcases h.2 i hi with x | ⟨x, y⟩ <;> rcases g.2 i (by omega) with z | ⟨z, w⟩
  · exact Or.inl (x.trans z)
  · exact Or.inr ⟨by rw [x]; exact z, w⟩
  · exact Or.inr ⟨x, by rw [← z]; exact y⟩
  · exact Or.inr ⟨x, w⟩
def la_ok (x : Int32) : Prop := (0 ≤ x.toInt ∧ x.toInt ≤ 23) ∨ (1000 ≤ x.toInt ∧ x.toInt ≤ 1999)
def la_okp (x : Int32) : Prop := la_ok x ∨ (2000 ≤ x.toInt ∧ x.toInt ≤ 2002) ∨ (3000 ≤ x.toInt ∧ x.toInt ≤ 3999)
def la_Inv (c d p : Nat) (t s it dr pa : Nat → Int32) : Prop := la_L c s ∧ d ≤ 8 ∧ p ≤ 8 ∧ (∀ l, l + 1 < c → t l ≤ t (l + 1)) ∧ (∀ l, l < c → ∀ i, i < la_n s l → la_ok (it (8 * l + i))) ∧ (∀ i, i < d → la_ok (dr i)) ∧ (∀ i, i < p → la_okp (pa i))
def i_Rel (k : Nat) (u : SX) (v : SY) : Prop := ∃ (c d p : Nat) (t s it dr pa gs tb : Nat → Int32), u = (nI c, nI d, nI p, t, s, it, dr, pa, gs) ∧ v = (nI c, nI d, nI p, t, s, it, dr, pa, tb) ∧ la_Inv c d p t s it dr pa
theorem i_up {k : Nat} {u : SX} {v : SY} (h : i_Rel k u v) : i_Rel (k + 4) u v := h
theorem i_vc0 : wpX_init (fun u => wpY_init (fun v => i_Rel 0 u v)) := by
  refine ⟨0, 0, 0, fun _ => 0, fun _ => 0, fun _ => 0, fun _ => 0, fun _ => 0, fun _ => 0, fun _ => 0, rfl, rfl, ⟨by omega, fun l h => by omega⟩, by omega, by omega, fun l h => by omega, fun l h => by omega, fun i h => by omega, fun i h => by omega⟩
theorem la_k0 : (0 : Int32).toInt = 0 := by decide
theorem la_k23 : (23 : Int32).toInt = 23 := by decide
theorem la_k1000 : (1000 : Int32).toInt = 1000 := by decide
theorem la_k1999 : (1999 : Int32).toInt = 1999 := by decide
theorem la_k2000 : (2000 : Int32).toInt = 2000 := by decide
theorem la_k2001 : (2001 : Int32).toInt = 2001 := by decide
theorem la_k2002 : (2002 : Int32).toInt = 2002 := by decide
theorem la_k3000 : (3000 : Int32).toInt = 3000 := by decide
theorem la_k3999 : (3999 : Int32).toInt = 3999 := by decide
theorem la_km1 : (-1 : Int32).toInt = -1 := by decide
theorem la_lt (x y : Int32) : x < y ↔ x.toInt < y.toInt := Int32.lt_iff_toInt_lt
theorem la_le (x y : Int32) : x ≤ y ↔ x.toInt ≤ y.toInt := Int32.le_iff_toInt_le
theorem la_eq (x y : Int32) : x = y ↔ x.toInt = y.toInt := Int32.toInt_inj.symm
theorem la_s1000 {x : Int32} (h0 : 0 ≤ x.toInt) (h : x.toInt ≤ 5000) : (x - 1000).toInt = x.toInt - 1000 := by
  rw [Int32.toInt_sub, la_k1000]
  exact Int.bmod_eq_of_le (by omega) (by omega)
theorem la_s3000 {x : Int32} (h0 : 0 ≤ x.toInt) (h : x.toInt ≤ 5000) : (x - 3000).toInt = x.toInt - 3000 := by
  rw [Int32.toInt_sub, la_k3000]
  exact Int.bmod_eq_of_le (by omega) (by omega)
