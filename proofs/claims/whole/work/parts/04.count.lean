noncomputable def la_cn (P : Nat → Prop) : Nat → Nat → Nat
  | _, 0 => 0
  | i, m + 1 => @ite Nat (P i) (Classical.propDecidable (P i)) 1 0 + la_cn P (i + 1) m
theorem la_cn_t {P : Nat → Prop} {i m : Nat} (h : P i) : la_cn P i (m + 1) = 1 + la_cn P (i + 1) m := by
  show @ite Nat (P i) (Classical.propDecidable (P i)) 1 0 + la_cn P (i + 1) m = _
  rw [if_pos h]
theorem la_cn_f {P : Nat → Prop} {i m : Nat} (h : ¬ P i) : la_cn P i (m + 1) = la_cn P (i + 1) m := by
  show @ite Nat (P i) (Classical.propDecidable (P i)) 1 0 + la_cn P (i + 1) m = _
  rw [if_neg h, Nat.zero_add]
theorem la_cn_c (P Q : Nat → Prop) : ∀ m i, (∀ j, i ≤ j → j < i + m → (P j ↔ Q j)) → la_cn P i m = la_cn Q i m := by
  intro m
  induction m with
  | zero => intro i _; rfl
  | succ m ih =>
    intro i h
    have q := h i (by omega) (by omega)
    have w := ih (i + 1) (fun j a b => h j (by omega) (by omega))
    by_cases z : P i
    · rw [la_cn_t z, la_cn_t (q.mp z), w]
    · rw [la_cn_f z, la_cn_f (fun y => z (q.mpr y)), w]
theorem la_cn_le (P : Nat → Prop) : ∀ m i, la_cn P i m ≤ m := by
  intro m
  induction m with
  | zero => intro i; exact Nat.le_refl 0
  | succ m ih =>
    intro i
    have w := ih (i + 1)
    by_cases z : P i
    · rw [la_cn_t z]; omega
    · rw [la_cn_f z]; omega
theorem la_cn_0 (P : Nat → Prop) : ∀ m i, (∀ j, i ≤ j → j < i + m → ¬ P j) → la_cn P i m = 0 := by
  intro m
  induction m with
  | zero => intro i _; rfl
  | succ m ih =>
    intro i h
    rw [la_cn_f (h i (by omega) (by omega))]
    exact ih (i + 1) (fun j a b => h j (by omega) (by omega))
theorem la_cn_pos (P : Nat → Prop) : ∀ m i j, i ≤ j → j < i + m → P j → 0 < la_cn P i m := by
  intro m
  induction m with
  | zero => intro i j a b _; omega
  | succ m ih =>
    intro i j a b h
    by_cases z : P i
    · rw [la_cn_t z]; omega
    · rw [la_cn_f z]
      by_cases q : j = i
      · rw [q] at h; exact absurd h z
      · exact ih (i + 1) j (by omega) (by omega) h
theorem la_cn_add (P : Nat → Prop) : ∀ m i k, la_cn P i (m + k) = la_cn P i m + la_cn P (i + m) k := by
  intro m
  induction m with
  | zero => intro i k; rw [Nat.zero_add]; show _ = 0 + _; rw [Nat.zero_add]; rfl
  | succ m ih =>
    intro i k
    rw [show m + 1 + k = (m + k) + 1 from by omega, show i + (m + 1) = i + 1 + m from by omega]
    by_cases z : P i
    · rw [la_cn_t z, la_cn_t z, ih]; omega
    · rw [la_cn_f z, la_cn_f z, ih]
theorem la_cn_all (P : Nat → Prop) : ∀ m i, (∀ j, i ≤ j → j < i + m → P j) → la_cn P i m = m := by
  intro m
  induction m with
  | zero => intro i _; rfl
  | succ m ih =>
    intro i h
    rw [la_cn_t (h i (by omega) (by omega)), ih (i + 1) (fun j a b => h j (by omega) (by omega))]
    omega
theorem la_cl (W : Nat → Int32 → Int32 → Prop) (post : Int32 → Prop) (c : Nat) (P : Nat → Prop) (hx : ∀ n x, post x → W (n + 1) x (nI c)) (hs : ∀ n x i, i < c → (P i → W n (x + 1) (nI (i + 1))) → (¬ P i → W n x (nI (i + 1))) → W (n + 1) x (nI i)) : ∀ m i x, i + m = c → post (x + nI (la_cn P i m)) → W (m + 1) x (nI i) := by
  intro m
  induction m with
  | zero =>
    intro i x hi h
    have e : i = c := by omega
    rw [e]
    refine hx 0 x ?_
    have q : x + nI (la_cn P i 0) = x := Int32.add_zero x
    rw [q] at h
    exact h
  | succ m ih =>
    intro i x hi h
    refine hs (m + 1) x i (by omega) (fun z => ih (i + 1) (x + 1) (by omega) ?_) (fun z => ih (i + 1) x (by omega) ?_)
    · rw [la_cn_t z, ← nI_add, ← Int32.add_assoc] at h
      exact h
    · rw [la_cn_f z] at h
      exact h
theorem la_cl0 (W : Nat → Int32 → Int32 → Prop) (post : Int32 → Prop) (c : Nat) (P : Nat → Prop) (hx : ∀ n x, post x → W (n + 1) x (nI c)) (hs : ∀ n x i, i < c → (P i → W n (x + 1) (nI (i + 1))) → (¬ P i → W n x (nI (i + 1))) → W (n + 1) x (nI i)) (i : Nat) (hi : i ≤ c) (h : post (nI (la_cn P i (c - i)))) : W (c - i + 1) 0 (nI i) := by
  refine la_cl W post c P hx hs (c - i) i 0 (by omega) ?_
  rw [Int32.zero_add]
  exact h
theorem la_mk {k c d p : Nat} {t s it dr pa gs tb : Nat → Int32} (h : la_Inv c d p t s it dr pa) : i_Rel k (nI c, nI d, nI p, t, s, it, dr, pa, gs) (nI c, nI d, nI p, t, s, it, dr, pa, tb) := ⟨c, d, p, t, s, it, dr, pa, gs, tb, rfl, rfl, h⟩
