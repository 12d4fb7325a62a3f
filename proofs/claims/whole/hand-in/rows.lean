section
theorem pk_us {f : Nat → Int32} {k : Nat} {x : Int32} : upd f k x k = x := if_pos rfl
theorem pk_un {f : Nat → Int32} {k j : Nat} {x : Int32} (h : j ≠ k) : upd f k x j = f j := if_neg h
theorem pk_sub {a b : Nat} (h : b ≤ a) : nI a - nI b = nI (a - b) := by
  obtain ⟨c, rfl⟩ : ∃ c, a = c + b := ⟨a - b, by omega⟩
  rw [← nI_add, Int32.add_sub_cancel, Nat.add_sub_cancel]
theorem pk_m1 (n : Nat) : nI (n + 1) + (-1) = nI n := by
  rw [← nI_1, Int32.add_assoc, show (1 : Int32) + (-1) = 0 from rfl, Int32.add_zero]
theorem pk_mul (a b : Nat) : nI a * nI b = nI (a * b) := (Int32.ofNat_mul a b).symm
theorem pk_ix (x : Int32) {n : Nat} (hn : n < 2 ^ 31) : x < 0 ∨ nI n ≤ x ∨ ∃ j : Nat, j < n ∧ x = nI j := by
  by_cases h : x < 0
  · exact Or.inl h
  · obtain ⟨j, hj, rfl⟩ := nI_of h
    by_cases h2 : j < n
    · exact Or.inr (Or.inr ⟨j, h2, rfl⟩)
    · exact Or.inr (Or.inl (nI_le (by omega) hj))
theorem pk_le {x y : Int32} {A B : Prop} (a b : Nat) (f : a ≤ b → A) (g : b < a → B) (hx : x = nI a := by rfl) (hy : y = nI b := by rfl) (ha : a < 2 ^ 31 := by omega) (hb : b < 2 ^ 31 := by omega) : (x ≤ y → A) ∧ (¬ x ≤ y → B) := by
  subst hx hy
  rw [nI_leI ha hb]
  exact ⟨f, fun z => g (by omega)⟩
theorem pk_lt {x y : Int32} {A B : Prop} (a b : Nat) (f : a < b → A) (g : b ≤ a → B) (hx : x = nI a := by rfl) (hy : y = nI b := by rfl) (ha : a < 2 ^ 31 := by omega) (hb : b < 2 ^ 31 := by omega) : (x < y → A) ∧ (¬ x < y → B) := by
  subst hx hy
  rw [nI_ltI ha hb]
  exact ⟨f, fun z => g (by omega)⟩
theorem pk_eq {x y : Int32} {A B : Prop} (a b : Nat) (f : a = b → A) (g : a ≠ b → B) (hx : x = nI a := by rfl) (hy : y = nI b := by rfl) (ha : a < 2 ^ 31 := by omega) (hb : b < 2 ^ 31 := by omega) : (x = y → A) ∧ (¬ x = y → B) := by
  subst hx hy
  rw [nI_eq ha hb]
  exact ⟨f, g⟩
theorem pk_in {x : Int32} (n N : Nat) (h : n < N) (hx : x = nI n := by rfl) (hN : N < 2 ^ 31 := by omega) : vp_in x N := by
  subst hx
  exact vp_in_nI h hN
theorem pk_cl {x : Int32} (n : Nat) (hx : x = nI n := by rfl) (h : n < 2 ^ 31 := by omega) : x.toNatClampNeg = n := by
  subst hx
  exact nI_clamp h
def bt (x : Int32) (i : Nat) : Bool := x.toBitVec.getLsbD i
theorem b_ext {x y : Int32} (h : ∀ i, i < 32 → bt x i = bt y i) : x = y := Int32.toBitVec_inj.mp (BitVec.eq_of_getLsbD_eq (fun i hi => h i hi))
theorem b_or (x y : Int32) (i : Nat) : bt (x ||| y) i = (bt x i || bt y i) := by unfold bt; rw [Int32.toBitVec_or, BitVec.getLsbD_or]
theorem b_and (x y : Int32) (i : Nat) : bt (x &&& y) i = (bt x i && bt y i) := by unfold bt; rw [Int32.toBitVec_and, BitVec.getLsbD_and]
theorem b_big {x : Int32} {i : Nat} (h : 32 ≤ i) : bt x i = false := BitVec.getLsbD_of_ge _ _ h
theorem b_0 (i : Nat) : bt 0 i = false := BitVec.getLsbD_zero
theorem s_l : ∀ n, n < 32 → ((nI n &&& 31).toBitVec.smod 32).toNat = n := by decide +kernel
theorem b_shl (n : Nat) (hn : n < 32) (x : Int32) {i : Nat} (hi : i < 32) : bt (x <<< (nI n &&& 31)) i = (decide (n ≤ i) && bt x (i - n)) := by
  unfold bt
  rw [Int32.toBitVec_shiftLeft]
  show (x.toBitVec <<< ((nI n &&& 31).toBitVec.smod 32).toNat).getLsbD i = _
  rw [s_l n hn, BitVec.getLsbD_shiftLeft]
  rcases Nat.lt_or_ge i n with h | h
  · simp [h, Nat.not_le.mpr h]
  · simp [hi, h, Nat.not_lt.mpr h]
theorem b_sshr (n : Nat) (hn : n < 32) (x : Int32) {i : Nat} (hi : i < 32) : bt (x >>> (nI n &&& 31)) i = if n + i < 32 then bt x (n + i) else bt x 31 := by
  unfold bt
  rw [Int32.toBitVec_shiftRight]
  show (x.toBitVec.sshiftRight ((nI n &&& 31).toBitVec.smod 32).toNat).getLsbD i = _
  rw [s_l n hn, BitVec.getLsbD_sshiftRight, BitVec.msb_eq_getLsbD_last]
  simp [hi]
end
section
noncomputable def la_pI (P : Prop) : Int32 := @ite Int32 P (Classical.propDecidable P) 1 0
theorem la_pt {P : Prop} (h : P) : la_pI P = 1 := if_pos h
theorem la_pf {P : Prop} (h : ¬ P) : la_pI P = 0 := if_neg h
theorem la_pc {P Q : Prop} (h : P ↔ Q) : la_pI P = la_pI Q := by rw [propext h]
theorem la_pb {P A B : Prop} (f : ¬ P → A) (g : P → B) : (la_pI P = 0 → A) ∧ (¬ la_pI P = 0 → B) := by
  by_cases h : P
  · rw [la_pt h]; exact ⟨fun z => absurd z (by decide), fun _ => g h⟩
  · rw [la_pf h]; exact ⟨fun _ => f h, fun z => absurd rfl z⟩
theorem la_pn (P : Prop) : narrow .boolean (.int (la_pI P)) = .int (la_pI P) := by
  by_cases h : P
  · rw [la_pt h]; rfl
  · rw [la_pf h]; rfl
theorem la_pv (P : Prop) : vp_nar .boolean (la_pI P) = la_pI P := by
  by_cases h : P
  · rw [la_pt h]; rfl
  · rw [la_pf h]; rfl
/-- a value by cases: what a test of P gives -/
theorem la_pp {P : Prop} {post : Int32 → Prop} (f : P → post 1) (g : ¬ P → post 0) : post (la_pI P) := by
  by_cases h : P
  · rw [la_pt h]; exact f h
  · rw [la_pf h]; exact g h
theorem la_p1 {P : Prop} {post : Int32 → Prop} (h : post (la_pI P)) (hp : P) : post 1 := by rw [la_pt hp] at h; exact h
theorem la_p0 {P : Prop} {post : Int32 → Prop} (h : post (la_pI P)) (hp : ¬ P) : post 0 := by rw [la_pf hp] at h; exact h
def la_fo {σ : Type} (f : Nat → σ → σ) : Nat → Nat → σ → σ
  | _, 0, x => x
  | i, m + 1, x => la_fo f (i + 1) m (f i x)
theorem la_fl {σ : Type} (W : Nat → σ → Int32 → Prop) (post : σ → Prop) (c : Nat) (f : Nat → σ → σ) (hx : ∀ n x, post x → W (n + 1) x (nI c)) (hs : ∀ n x i, i < c → W n (f i x) (nI (i + 1)) → W (n + 1) x (nI i)) : ∀ m i x, i + m = c → post (la_fo f i m x) → W (m + 1) x (nI i) := by
  intro m
  induction m with
  | zero =>
    intro i x hi h
    have e : i = c := by omega
    rw [e]
    exact hx 0 x h
  | succ m ih =>
    intro i x hi h
    exact hs (m + 1) x i (by omega) (ih (i + 1) (f i x) (by omega) h)
theorem la_fc {σ : Type} (f g : Nat → σ → σ) : ∀ m i x, (∀ j y, i ≤ j → j < i + m → f j y = g j y) → la_fo f i m x = la_fo g i m x := by
  intro m
  induction m with
  | zero => intro i x _; rfl
  | succ m ih =>
    intro i x h
    show la_fo f (i + 1) m (f i x) = la_fo g (i + 1) m (g i x)
    rw [h i x (by omega) (by omega)]
    exact ih (i + 1) _ (fun j y a b => h j y (by omega) (by omega))
noncomputable def la_se {ρ : Type} (P : Nat → Prop) (r : Nat → ρ) (e : ρ) : Nat → Nat → ρ
  | _, 0 => e
  | i, m + 1 => @ite ρ (P i) (Classical.propDecidable (P i)) (r i) (la_se P r e (i + 1) m)
theorem la_se_t {ρ : Type} {P : Nat → Prop} {r : Nat → ρ} {e : ρ} {i m : Nat} (h : P i) : la_se P r e i (m + 1) = r i := if_pos h
theorem la_se_f {ρ : Type} {P : Nat → Prop} {r : Nat → ρ} {e : ρ} {i m : Nat} (h : ¬ P i) : la_se P r e i (m + 1) = la_se P r e (i + 1) m := if_neg h
theorem la_sl {ρ : Type} (W : Nat → Int32 → Prop) (post : ρ → Prop) (c : Nat) (P : Nat → Prop) (r : Nat → ρ) (e : ρ) (hx : ∀ n, post e → W (n + 1) (nI c)) (hs : ∀ n i, i < c → (P i → post (r i)) → (¬ P i → W n (nI (i + 1))) → W (n + 1) (nI i)) : ∀ m i, i + m = c → post (la_se P r e i m) → W (m + 1) (nI i) := by
  intro m
  induction m with
  | zero =>
    intro i hi h
    have q : i = c := by omega
    rw [q]
    exact hx 0 h
  | succ m ih =>
    intro i hi h
    refine hs (m + 1) i (by omega) (fun z => ?_) (fun z => ih (i + 1) (by omega) ?_)
    · rw [la_se_t z] at h; exact h
    · rw [la_se_f z] at h; exact h
theorem la_ss (P : Nat → Prop) (e : Nat) : ∀ m i, (∃ k, la_se P id e i m = k ∧ i ≤ k ∧ k < i + m ∧ P k ∧ ∀ j, i ≤ j → j < k → ¬ P j) ∨ (la_se P id e i m = e ∧ ∀ j, i ≤ j → j < i + m → ¬ P j) := by
  intro m
  induction m with
  | zero => intro i; exact Or.inr ⟨rfl, fun j a b => by omega⟩
  | succ m ih =>
    intro i
    by_cases h : P i
    · exact Or.inl ⟨i, la_se_t h, by omega, by omega, h, fun j a b => by omega⟩
    · rw [la_se_f h]
      rcases ih (i + 1) with ⟨k, e1, e2, e3, e4, e5⟩ | ⟨e1, e2⟩
      · refine Or.inl ⟨k, e1, by omega, by omega, e4, fun j a b => ?_⟩
        by_cases q : j = i
        · rw [q]; exact h
        · exact e5 j (by omega) b
      · refine Or.inr ⟨e1, fun j a b => ?_⟩
        by_cases q : j = i
        · rw [q]; exact h
        · exact e2 j (by omega) (by omega)
theorem la_sc {ρ : Type} (P Q : Nat → Prop) (r : Nat → ρ) (e : ρ) : ∀ m i, (∀ j, i ≤ j → j < i + m → (P j ↔ Q j)) → la_se P r e i m = la_se Q r e i m := by
  intro m
  induction m with
  | zero => intro i _; rfl
  | succ m ih =>
    intro i h
    have q := h i (by omega) (by omega)
    have w := ih (i + 1) (fun j a b => h j (by omega) (by omega))
    by_cases z : P i
    · rw [la_se_t z, la_se_t (q.mp z)]
    · rw [la_se_f z, la_se_f (fun y => z (q.mpr y)), w]
/-- a loop that ends early when P holds -/
theorem la_el (W : Nat → Int32 → Prop) (A B : Prop) (c : Nat) (P : Nat → Prop) (hx : ∀ n, B → W (n + 1) (nI c)) (hs : ∀ n i, i < c → (P i → A) → (¬ P i → W n (nI (i + 1))) → W (n + 1) (nI i)) : ∀ m i, i + m = c → ((∃ j, i ≤ j ∧ j < c ∧ P j) → A) → ((¬ ∃ j, i ≤ j ∧ j < c ∧ P j) → B) → W (m + 1) (nI i) := by
  intro m
  induction m with
  | zero =>
    intro i hi _ hb
    have q : i = c := by omega
    rw [q]
    exact hx 0 (hb (fun ⟨j, a, b, _⟩ => by omega))
  | succ m ih =>
    intro i hi ha hb
    refine hs (m + 1) i (by omega) (fun z => ha ⟨i, by omega, by omega, z⟩) (fun z => ih (i + 1) (by omega) (fun ⟨j, a, b, w⟩ => ha ⟨j, by omega, b, w⟩) (fun w => hb (fun ⟨j, a, b, v⟩ => ?_)))
    by_cases q : j = i
    · rw [q] at v; exact z v
    · exact w ⟨j, by omega, b, v⟩
theorem la_8 : (8 : Int32) = nI 8 := by decide +kernel
theorem la_9 : (9 : Int32) = nI 9 := by decide +kernel
theorem la_60 : (60 : Int32) = nI 60 := by decide +kernel
theorem la_ix (a i : Nat) : nI a * 8 + nI i = nI (8 * a + i) := by rw [la_8, pk_mul, nI_add, Nat.mul_comm]
theorem la_iy (a i : Nat) : 8 * nI a + nI i = nI (8 * a + i) := by rw [la_8, pk_mul, nI_add]
def la_n (s : Nat → Int32) (l : Nat) : Nat := (s l).toNatClampNeg
def la_L (c : Nat) (s : Nat → Int32) : Prop := c ≤ 60 ∧ ∀ l, l < c → s l = nI (la_n s l) ∧ 1 ≤ la_n s l ∧ la_n s l ≤ 8
def la_sk (x y : Int32) : Prop := x = y ∨ (¬ x < 1000 ∧ ¬ y < 1000)
def la_al (s it : Nat → Int32) (a b : Nat) : Prop := s a = s b ∧ ∀ i, i < la_n s a → la_sk (it (8 * a + i)) (it (8 * b + i))
theorem la_al_r (s it : Nat → Int32) (a : Nat) : la_al s it a a := ⟨rfl, fun i _ => Or.inl rfl⟩
theorem la_al_s {s it : Nat → Int32} {a b : Nat} (h : la_al s it a b) : la_al s it b a := by
  refine ⟨h.1.symm, fun i hi => ?_⟩
  have e : la_n s a = la_n s b := congrArg Int32.toNatClampNeg h.1
  rcases h.2 i (by omega) with q | ⟨q, w⟩
  · exact Or.inl q.symm
  · exact Or.inr ⟨w, q⟩
theorem la_al_c (s it : Nat → Int32) (a b : Nat) : la_al s it a b ↔ la_al s it b a := ⟨la_al_s, la_al_s⟩
theorem la_al_t {s it : Nat → Int32} {a b e : Nat} (h : la_al s it a b) (g : la_al s it b e) : la_al s it a e := by
  refine ⟨h.1.trans g.1, fun i hi => ?_⟩
  have q : la_n s a = la_n s b := congrArg Int32.toNatClampNeg h.1
  rcases h.2 i hi with x | ⟨x, y⟩ <;> rcases g.2 i (by omega) with z | ⟨z, w⟩
  · exact Or.inl (x.trans z)
  · exact Or.inr ⟨by rw [x]; exact z, w⟩
  · exact Or.inr ⟨x, by rw [← z]; exact y⟩
  · exact Or.inr ⟨x, w⟩
def la_ok (x : Int32) : Prop := (0 ≤ x.toInt ∧ x.toInt ≤ 23) ∨ (1000 ≤ x.toInt ∧ x.toInt ≤ 1999)
def la_okp (x : Int32) : Prop := la_ok x ∨ (2000 ≤ x.toInt ∧ x.toInt ≤ 2002) ∨ (3000 ≤ x.toInt ∧ x.toInt ≤ 3999)
def la_Inv (c d p : Nat) (t s it dr pa : Nat → Int32) : Prop := la_L c s ∧ d ≤ 8 ∧ p ≤ 8 ∧ (∀ l, l + 1 < c → t l ≤ t (l + 1)) ∧ (∀ l, l < c → ∀ i, i < la_n s l → la_ok (it (8 * l + i))) ∧ (∀ i, i < d → la_ok (dr i)) ∧ (∀ i, i < p → la_okp (pa i))
def i_Rel (k : Nat) (u : SX) (v : SY) : Prop := ∃ (c d p : Nat) (t s it dr pa gs tb : Nat → Int32), u = (nI c, nI d, nI p, t, s, it, dr, pa, gs) ∧ v = (nI c, nI d, nI p, t, s, it, dr, pa, tb) ∧ la_Inv c d p t s it dr pa
theorem i_up {k : Nat} {u : SX} {v : SY} (h : i_Rel k u v) : i_Rel (k + 4) u v := h
theorem i_vc0 : wpX_init (fun u => wpY_init (fun v => i_Rel 0 u v)) := by
  refine ⟨0, 0, 0, fun _ => 0, fun _ => 0, fun _ => 0, fun _ => 0, fun _ => 0, fun _ => 0, fun _ => 0, rfl, rfl, ⟨by omega, fun l h => by omega⟩, by omega, by omega, fun l h => by omega, fun l h => by omega, fun i h => by omega, fun i h => by omega⟩
theorem la_k0 : (0 : Int32).toInt = 0 := by decide
theorem la_k23 : (23 : Int32).toInt = 23 := by decide
theorem la_k1000 : (1000 : Int32).toInt = 1000 := by decide
theorem la_k1999 : (1999 : Int32).toInt = 1999 := by decide
theorem la_k2000 : (2000 : Int32).toInt = 2000 := by decide
theorem la_k2001 : (2001 : Int32).toInt = 2001 := by decide
theorem la_k2002 : (2002 : Int32).toInt = 2002 := by decide
theorem la_k3000 : (3000 : Int32).toInt = 3000 := by decide
theorem la_k3999 : (3999 : Int32).toInt = 3999 := by decide
theorem la_km1 : (-1 : Int32).toInt = -1 := by decide
theorem la_lt (x y : Int32) : x < y ↔ x.toInt < y.toInt := Int32.lt_iff_toInt_lt
theorem la_le (x y : Int32) : x ≤ y ↔ x.toInt ≤ y.toInt := Int32.le_iff_toInt_le
theorem la_eq (x y : Int32) : x = y ↔ x.toInt = y.toInt := Int32.toInt_inj.symm
theorem la_s1000 {x : Int32} (h0 : 0 ≤ x.toInt) (h : x.toInt ≤ 5000) : (x - 1000).toInt = x.toInt - 1000 := by
  rw [Int32.toInt_sub, la_k1000]
  exact Int.bmod_eq_of_le (by omega) (by omega)
theorem la_s3000 {x : Int32} (h0 : 0 ≤ x.toInt) (h : x.toInt ≤ 5000) : (x - 3000).toInt = x.toInt - 3000 := by
  rw [Int32.toInt_sub, la_k3000]
  exact Int.bmod_eq_of_le (by omega) (by omega)
end
section
theorem la_Xit {c d p : Nat} {t s it dr pa gs : Nat → Int32} {a i : Nat} {post : Int32 → Prop} (hb : 8 * a + i < 480) (h : post (it (8 * a + i))) : wpX_itemAt post (nI c, nI d, nI p, t, s, it, dr, pa, gs) (nI a) (nI i) := by
  unfold wpX_itemAt
  dsimp only
  rw [la_ix, nI_clamp (by omega)]
  exact ⟨vp_in_nI hb (by omega), h⟩
theorem la_Xnu {c d p : Nat} {t s it dr pa gs : Nat → Int32} {a i : Nat} {post : Int32 → Prop} (hb : 8 * a + i < 480) (h : post (it (8 * a + i) - 1000)) : wpX_numberAt post (nI c, nI d, nI p, t, s, it, dr, pa, gs) (nI a) (nI i) := by
  unfold wpX_numberAt
  dsimp only
  rw [la_ix, nI_clamp (by omega)]
  exact ⟨vp_in_nI hb (by omega), h⟩
theorem la_Xsk {x y : Int32} {post : Int32 → Prop} (h : post (la_pI (la_sk x y))) : wpX_sameKind post x y := by
  unfold wpX_sameKind
  refine br_c (fun e => la_p1 h (Or.inl e)) (fun e => br_c (fun z => la_p0 h ?_) (fun z => br_c (fun w => la_p0 h ?_) (fun w => la_p1 h (Or.inr ⟨z, w⟩))))
  · rintro (q | ⟨q, _⟩)
    · exact e q
    · exact q z
  · rintro (q | ⟨_, q⟩)
    · exact e q
    · exact q w
theorem la_Xal {c d p : Nat} {t s it dr pa gs : Nat → Int32} {a b : Nat} {post : Int32 → Prop} (hL : la_L c s) (ha : a < c) (hb : b < c) (h : post (la_pI (la_al s it a b))) : wpX_alike post (nI c, nI d, nI p, t, s, it, dr, pa, gs) (nI a) (nI b) := by
  obtain ⟨hc, hL⟩ := hL
  obtain ⟨ea, la, ua⟩ := hL a ha
  have va : vp_in (nI a) 60 := vp_in_nI (by omega) (by omega)
  have vb : vp_in (nI b) 60 := vp_in_nI (by omega) (by omega)
  have ca : (nI a).toNatClampNeg = a := nI_clamp (by omega)
  have cb : (nI b).toNatClampNeg = b := nI_clamp (by omega)
  unfold wpX_alike
  dsimp only
  rw [ca, cb]
  refine ⟨va, vb, fun e => ⟨la_n s a + 1, ?_⟩, fun e => la_p0 h (fun z => e z.1)⟩
  refine la_el (fun n x => wX_alike_19 post (nI a) (nI b) (nI c) (nI d) (nI p) t s it dr pa gs n x) (post 0) (post 1) (la_n s a) (fun i => ¬ la_sk (it (8 * a + i)) (it (8 * b + i))) ?_ ?_ (la_n s a) 0 (by omega) ?_ ?_
  · intro n hp
    show wX_alike_19 post (nI a) (nI b) (nI c) (nI d) (nI p) t s it dr pa gs (n + 1) (nI (la_n s a))
    rw [wX_alike_19, ca]
    exact ⟨va, br_t (by rw [ea]; exact nI_le (by omega) (by omega)) hp⟩
  · intro n i hi f g
    show wX_alike_19 post (nI a) (nI b) (nI c) (nI d) (nI p) t s it dr pa gs (n + 1) (nI i)
    rw [wX_alike_19, ca]
    refine ⟨va, br_f (by rw [ea]; exact nI_ge hi (by omega)) ?_⟩
    refine la_Xit (by omega) (la_Xit (by omega) (la_Xsk ?_))
    exact la_pb f (fun z => nm_r (nI_1 i) (g (fun w => w z)))
  · rintro ⟨j, _, hj, hn⟩
    exact la_p0 h (fun z => hn (z.2 j hj))
  · intro hn
    refine la_p1 h ⟨e, fun i hi => ?_⟩
    by_cases q : la_sk (it (8 * a + i)) (it (8 * b + i))
    · exact q
    · exact absurd ⟨i, by omega, hi, q⟩ hn
theorem la_Yal {c d p : Nat} {t s it dr pa tb : Nat → Int32} {a b : Nat} {post : Int32 → Prop} (hL : la_L c s) (ha : a < c) (hb : b < c) (h : post (la_pI (la_al s it a b))) : wpY_areAlike post (nI c, nI d, nI p, t, s, it, dr, pa, tb) (nI a) (nI b) := by
  obtain ⟨hc, hL⟩ := hL
  obtain ⟨ea, la, ua⟩ := hL a ha
  have va : vp_in (nI a) 60 := vp_in_nI (by omega) (by omega)
  have vb : vp_in (nI b) 60 := vp_in_nI (by omega) (by omega)
  have ca : (nI a).toNatClampNeg = a := nI_clamp (by omega)
  have cb : (nI b).toNatClampNeg = b := nI_clamp (by omega)
  unfold wpY_areAlike
  dsimp only
  rw [ca, cb]
  refine ⟨va, vb, fun e => ⟨la_n s a + 1, ?_⟩, fun e => la_p0 h (fun z => e z.1)⟩
  refine la_el (fun n x => wY_areAlike_19 post (nI a) (nI b) (nI c) (nI d) (nI p) t s it dr pa tb n x) (post 0) (post 1) (la_n s a) (fun i => ¬ la_sk (it (8 * a + i)) (it (8 * b + i))) ?_ ?_ (la_n s a) 0 (by omega) ?_ ?_
  · intro n hp
    show wY_areAlike_19 post (nI a) (nI b) (nI c) (nI d) (nI p) t s it dr pa tb (n + 1) (nI (la_n s a))
    rw [wY_areAlike_19, ca]
    exact ⟨va, br_t (by rw [ea]; exact nI_le (by omega) (by omega)) hp⟩
  · intro n i hi f g
    show wY_areAlike_19 post (nI a) (nI b) (nI c) (nI d) (nI p) t s it dr pa tb (n + 1) (nI i)
    rw [wY_areAlike_19]
    dsimp only
    rw [ca, la_iy, la_iy, nI_clamp (by omega), nI_clamp (by omega)]
    refine ⟨va, br_f (by rw [ea]; exact nI_ge hi (by omega)) ⟨vp_in_nI (by omega) (by omega), nm_e ⟨vp_in_nI (by omega) (by omega), nm_e ?_⟩⟩⟩
    have key : ∀ z0 : Int32, (z0 = 0 ↔ (it (8 * a + i) < 1000 ∨ it (8 * b + i) < 1000)) → wY_areAlike_76 post (wY_areAlike_19 post (nI a) (nI b) (nI c) (nI d) (nI p) t s it dr pa tb n) (nI a) (nI b) (nI i) (it (8 * a + i)) (it (8 * b + i)) z0 (nI c) (nI d) (nI p) t s it dr pa tb := by
      intro z0 hz
      unfold wY_areAlike_76
      refine br_c (fun q => nm_r (nI_1 i) (g (fun w => w (Or.inl q)))) (fun q => br_c (fun w => f ?_) (fun w => nm_r (nI_1 i) (g (fun y => y (Or.inr ?_)))))
      · rintro (y | ⟨y1, y2⟩)
        · exact q y
        · rcases hz.mp w with k | k
          · exact y1 k
          · exact y2 k
      · exact ⟨fun k => w (hz.mpr (Or.inl k)), fun k => w (hz.mpr (Or.inr k))⟩
    unfold wY_areAlike_75
    refine br_c (fun q => key 0 ⟨fun _ => Or.inl q, fun _ => rfl⟩) (fun q => br_c (fun w => key 0 ⟨fun _ => Or.inr w, fun _ => rfl⟩) (fun w => key 1 ⟨fun z => absurd z (by decide), ?_⟩))
    rintro (k | k)
    · exact absurd k q
    · exact absurd k w
  · rintro ⟨j, _, hj, hn⟩
    exact la_p0 h (fun z => hn (z.2 j hj))
  · intro hn
    refine la_p1 h ⟨e, fun i hi => ?_⟩
    by_cases q : la_sk (it (8 * a + i)) (it (8 * b + i))
    · exact q
    · exact absurd ⟨i, by omega, hi, q⟩ hn
noncomputable def la_fi (s it : Nat → Int32) (l : Nat) : Nat := la_se (fun j => la_al s it l j) id l 0 l
theorem la_Xfi {c d p : Nat} {t s it dr pa gs : Nat → Int32} {a : Nat} {post : Int32 → Prop} (hL : la_L c s) (ha : a < c) (h : post (nI (la_fi s it a))) : wpX_firstAlike post (nI c, nI d, nI p, t, s, it, dr, pa, gs) (nI a) := by
  have hc := hL.1
  unfold wpX_firstAlike
  refine ⟨a + 1, ?_⟩
  refine la_sl (fun n x => wX_firstAlike_2 post (nI a) (nI c) (nI d) (nI p) t s it dr pa gs n x) (fun k => post (nI k)) a (fun j => la_al s it a j) id a ?_ ?_ a 0 (by omega) h
  · intro n hp
    show wX_firstAlike_2 post (nI a) (nI c) (nI d) (nI p) t s it dr pa gs (n + 1) (nI a)
    rw [wX_firstAlike_2]
    exact br_t (nI_le (by omega) (by omega)) hp
  · intro n i hi f g
    show wX_firstAlike_2 post (nI a) (nI c) (nI d) (nI p) t s it dr pa gs (n + 1) (nI i)
    rw [wX_firstAlike_2]
    refine br_f (nI_ge hi (by omega)) (la_Xal hL ha (by omega) ?_)
    exact la_pb (fun z => nm_r (nI_1 i) (g z)) (fun z => f z)
theorem la_Yfi {c d p : Nat} {t s it dr pa tb : Nat → Int32} {a : Nat} {post : Int32 → Prop} (hL : la_L c s) (ha : a < c) (h : post (nI (la_fi s it a))) : wpY_firstOf post (nI c, nI d, nI p, t, s, it, dr, pa, tb) (nI a) := by
  have hc := hL.1
  unfold wpY_firstOf
  refine ⟨a + 1, ?_⟩
  refine la_sl (fun n x => wY_firstOf_2 post (nI a) (nI c) (nI d) (nI p) t s it dr pa tb n x) (fun k => post (nI k)) a (fun j => la_al s it a j) id a ?_ ?_ a 0 (by omega) h
  · intro n hp
    show wY_firstOf_2 post (nI a) (nI c) (nI d) (nI p) t s it dr pa tb (n + 1) (nI a)
    rw [wY_firstOf_2]
    exact br_t (nI_le (by omega) (by omega)) hp
  · intro n i hi f g
    show wY_firstOf_2 post (nI a) (nI c) (nI d) (nI p) t s it dr pa tb (n + 1) (nI i)
    rw [wY_firstOf_2]
    refine br_f (nI_ge hi (by omega)) (la_Yal hL (by omega) ha ?_)
    exact la_pb (fun z => nm_r (nI_1 i) (g (fun w => z (la_al_s w)))) (fun z => f (la_al_s z))
theorem la_fi_le (s it : Nat → Int32) (l : Nat) : la_fi s it l ≤ l := by
  unfold la_fi
  rcases la_ss (fun j => la_al s it l j) l l 0 with ⟨k, e1, e2, e3, _⟩ | ⟨e1, _⟩ <;> rw [e1] <;> omega
theorem la_Xg1 {c d p : Nat} {t s it dr pa gs : Nat → Int32} {x : Int32} {post : Int32 → Prop} (hb : x < 0 ∨ nI c ≤ x) (h : post 0) : wpX_isGood post (nI c, nI d, nI p, t, s, it, dr, pa, gs) x := by
  unfold wpX_isGood
  dsimp only
  by_cases z : x < 0
  · exact br_t z h
  · exact br_f z (br_t (hb.resolve_left z) h)
theorem la_Xg2 {c d p : Nat} {t s it dr pa gs : Nat → Int32} {j : Nat} {post : Int32 → Prop} (hL : la_L c s) (hj : j < c) (h : post 1) : wpX_isGood post (nI c, nI d, nI p, t, s, it, dr, pa, gs) (nI j) := by
  have hc := hL.1
  unfold wpX_isGood
  dsimp only
  exact br_f (nI_pos (by omega)) (br_f (nI_ge hj (by omega)) h)
theorem la_Yg1 {c d p : Nat} {t s it dr pa tb : Nat → Int32} {x : Int32} {post : Int32 → Prop} (hb : x < 0 ∨ nI c ≤ x) (h : post 1) : wpY_badLine post (nI c, nI d, nI p, t, s, it, dr, pa, tb) x := by
  unfold wpY_badLine
  dsimp only
  by_cases z : x < 0
  · exact br_t z h
  · exact br_f z (br_f (Int32.not_lt.mpr (hb.resolve_left z)) h)
theorem la_Yg2 {c d p : Nat} {t s it dr pa tb : Nat → Int32} {j : Nat} {post : Int32 → Prop} (hL : la_L c s) (hj : j < c) (h : post 0) : wpY_badLine post (nI c, nI d, nI p, t, s, it, dr, pa, tb) (nI j) := by
  have hc := hL.1
  unfold wpY_badLine
  dsimp only
  exact br_f (nI_pos (by omega)) (br_t (nI_lt hj (by omega)) h)
theorem la_cs {c : Nat} {s : Nat → Int32} (hL : la_L c s) (x : Int32) : (x < 0 ∨ nI c ≤ x) ∨ ∃ j, j < c ∧ x = nI j := by
  have hc := hL.1
  rcases pk_ix x (n := c) (by omega) with h | h | h
  · exact Or.inl (Or.inl h)
  · exact Or.inl (Or.inr h)
  · exact Or.inr h
theorem la_t1 {A B : Prop} (a : A) : ((0 : Int32) = 0 → A) ∧ (¬ (0 : Int32) = 0 → B) := br_t rfl a
theorem la_t2 {A B : Prop} (b : B) : ((1 : Int32) = 0 → A) ∧ (¬ (1 : Int32) = 0 → B) := br_f (by decide) b
end
section
noncomputable def la_cn (P : Nat → Prop) : Nat → Nat → Nat
  | _, 0 => 0
  | i, m + 1 => @ite Nat (P i) (Classical.propDecidable (P i)) 1 0 + la_cn P (i + 1) m
theorem la_cn_t {P : Nat → Prop} {i m : Nat} (h : P i) : la_cn P i (m + 1) = 1 + la_cn P (i + 1) m := by
  show @ite Nat (P i) (Classical.propDecidable (P i)) 1 0 + la_cn P (i + 1) m = _
  rw [if_pos h]
theorem la_cn_f {P : Nat → Prop} {i m : Nat} (h : ¬ P i) : la_cn P i (m + 1) = la_cn P (i + 1) m := by
  show @ite Nat (P i) (Classical.propDecidable (P i)) 1 0 + la_cn P (i + 1) m = _
  rw [if_neg h, Nat.zero_add]
theorem la_cn_c (P Q : Nat → Prop) : ∀ m i, (∀ j, i ≤ j → j < i + m → (P j ↔ Q j)) → la_cn P i m = la_cn Q i m := by
  intro m
  induction m with
  | zero => intro i _; rfl
  | succ m ih =>
    intro i h
    have q := h i (by omega) (by omega)
    have w := ih (i + 1) (fun j a b => h j (by omega) (by omega))
    by_cases z : P i
    · rw [la_cn_t z, la_cn_t (q.mp z), w]
    · rw [la_cn_f z, la_cn_f (fun y => z (q.mpr y)), w]
theorem la_cn_le (P : Nat → Prop) : ∀ m i, la_cn P i m ≤ m := by
  intro m
  induction m with
  | zero => intro i; exact Nat.le_refl 0
  | succ m ih =>
    intro i
    have w := ih (i + 1)
    by_cases z : P i
    · rw [la_cn_t z]; omega
    · rw [la_cn_f z]; omega
theorem la_cn_0 (P : Nat → Prop) : ∀ m i, (∀ j, i ≤ j → j < i + m → ¬ P j) → la_cn P i m = 0 := by
  intro m
  induction m with
  | zero => intro i _; rfl
  | succ m ih =>
    intro i h
    rw [la_cn_f (h i (by omega) (by omega))]
    exact ih (i + 1) (fun j a b => h j (by omega) (by omega))
theorem la_cn_pos (P : Nat → Prop) : ∀ m i j, i ≤ j → j < i + m → P j → 0 < la_cn P i m := by
  intro m
  induction m with
  | zero => intro i j a b _; omega
  | succ m ih =>
    intro i j a b h
    by_cases z : P i
    · rw [la_cn_t z]; omega
    · rw [la_cn_f z]
      by_cases q : j = i
      · rw [q] at h; exact absurd h z
      · exact ih (i + 1) j (by omega) (by omega) h
theorem la_cn_add (P : Nat → Prop) : ∀ m i k, la_cn P i (m + k) = la_cn P i m + la_cn P (i + m) k := by
  intro m
  induction m with
  | zero => intro i k; rw [Nat.zero_add]; show _ = 0 + _; rw [Nat.zero_add]; rfl
  | succ m ih =>
    intro i k
    rw [show m + 1 + k = (m + k) + 1 from by omega, show i + (m + 1) = i + 1 + m from by omega]
    by_cases z : P i
    · rw [la_cn_t z, la_cn_t z, ih]; omega
    · rw [la_cn_f z, la_cn_f z, ih]
theorem la_cn_all (P : Nat → Prop) : ∀ m i, (∀ j, i ≤ j → j < i + m → P j) → la_cn P i m = m := by
  intro m
  induction m with
  | zero => intro i _; rfl
  | succ m ih =>
    intro i h
    rw [la_cn_t (h i (by omega) (by omega)), ih (i + 1) (fun j a b => h j (by omega) (by omega))]
    omega
theorem la_cl (W : Nat → Int32 → Int32 → Prop) (post : Int32 → Prop) (c : Nat) (P : Nat → Prop) (hx : ∀ n x, post x → W (n + 1) x (nI c)) (hs : ∀ n x i, i < c → (P i → W n (x + 1) (nI (i + 1))) → (¬ P i → W n x (nI (i + 1))) → W (n + 1) x (nI i)) : ∀ m i x, i + m = c → post (x + nI (la_cn P i m)) → W (m + 1) x (nI i) := by
  intro m
  induction m with
  | zero =>
    intro i x hi h
    have e : i = c := by omega
    rw [e]
    refine hx 0 x ?_
    have q : x + nI (la_cn P i 0) = x := Int32.add_zero x
    rw [q] at h
    exact h
  | succ m ih =>
    intro i x hi h
    refine hs (m + 1) x i (by omega) (fun z => ih (i + 1) (x + 1) (by omega) ?_) (fun z => ih (i + 1) x (by omega) ?_)
    · rw [la_cn_t z, ← nI_add, ← Int32.add_assoc] at h
      exact h
    · rw [la_cn_f z] at h
      exact h
theorem la_cl0 (W : Nat → Int32 → Int32 → Prop) (post : Int32 → Prop) (c : Nat) (P : Nat → Prop) (hx : ∀ n x, post x → W (n + 1) x (nI c)) (hs : ∀ n x i, i < c → (P i → W n (x + 1) (nI (i + 1))) → (¬ P i → W n x (nI (i + 1))) → W (n + 1) x (nI i)) (i : Nat) (hi : i ≤ c) (h : post (nI (la_cn P i (c - i)))) : W (c - i + 1) 0 (nI i) := by
  refine la_cl W post c P hx hs (c - i) i 0 (by omega) ?_
  rw [Int32.zero_add]
  exact h
theorem la_mk {k c d p : Nat} {t s it dr pa gs tb : Nat → Int32} (h : la_Inv c d p t s it dr pa) : i_Rel k (nI c, nI d, nI p, t, s, it, dr, pa, gs) (nI c, nI d, nI p, t, s, it, dr, pa, tb) := ⟨c, d, p, t, s, it, dr, pa, gs, tb, rfl, rfl, h⟩
end
section
theorem la_Xnum {x : Int32} {post : Int32 → Prop} (h : post (la_pI (1000 ≤ x.toInt ∧ x.toInt ≤ 1999))) : wpX_isNumber post x := by
  unfold wpX_isNumber
  rw [la_lt, la_lt, la_k1000, la_k1999]
  exact br_c (fun a => la_p0 h (by omega)) (fun a => br_c (fun b => la_p0 h (by omega)) (fun b => la_p1 h (by omega)))
theorem la_Xwrd {x : Int32} {post : Int32 → Prop} (h : post (la_pI (0 ≤ x.toInt ∧ x.toInt ≤ 23))) : wpX_isWord post x := by
  unfold wpX_isWord
  rw [la_lt, la_lt, la_k0, la_k23]
  exact br_c (fun a => la_p0 h (by omega)) (fun a => br_c (fun b => la_p0 h (by omega)) (fun b => la_p1 h (by omega)))
theorem la_Xabv {x : Int32} {post : Int32 → Prop} (h : post (la_pI (3000 ≤ x.toInt ∧ x.toInt ≤ 3999))) : wpX_isAbove post x := by
  unfold wpX_isAbove
  rw [la_lt, la_lt, la_k3000, la_k3999]
  exact br_c (fun a => la_p0 h (by omega)) (fun a => br_c (fun b => la_p0 h (by omega)) (fun b => la_p1 h (by omega)))
theorem la_Xok {x : Int32} {post : Int32 → Prop} (h : post (la_pI (la_ok x))) : wpX_isItem post x := by
  unfold wpX_isItem
  unfold la_ok at h
  exact la_Xwrd (la_pb (fun a => la_Xnum (la_pb (fun b => la_p0 h (by omega)) (fun b => la_p1 h (by omega)))) (fun a => la_p1 h (by omega)))
theorem la_Yok {c d p : Nat} {t s it dr pa tb : Nat → Int32} {x : Int32} {post : Int32 → Prop} (h : post (la_pI (¬ la_ok x))) : wpY_badItem post (nI c, nI d, nI p, t, s, it, dr, pa, tb) x := by
  unfold wpY_badItem
  unfold la_ok at h
  dsimp only
  rw [la_lt, la_lt, la_le, la_le, la_k0, la_k23, la_k1000, la_k1999]
  exact br_c (fun a => la_p1 h (by omega)) (fun a => br_c (fun b => la_p1 h (by omega)) (fun b => br_c (fun e => la_p0 h (by omega)) (fun e => br_c (fun g => la_p0 h (by omega)) (fun g => la_p1 h (by omega)))))
theorem la_Xokp {x : Int32} {post : Int32 → Prop} (h : post (la_pI (la_okp x))) : wpX_isPart post x := by
  unfold wpX_isPart
  unfold la_okp at h
  refine la_Xok (la_pb (fun a => ?_) (fun a => la_p1 h (Or.inl a)))
  rw [la_eq, la_k2000, la_eq, la_k2001, la_eq, la_k2002]
  refine br_c (fun b => la_p1 h (by omega)) (fun b => br_c (fun e => la_p1 h (by omega)) (fun e => br_c (fun f => la_p1 h (by omega)) (fun f => la_Xabv (la_pb (fun g => la_p0 h ?_) (fun g => la_p1 h (by omega))))))
  rintro (q | q | q)
  · exact a q
  · omega
  · omega
theorem i_vc_item {k : Nat} {u : SX} {v : SY} (I : i_Rel k u v) (hk : k + 4 ≤ 2048) (v1 : Int32) : wpX_item (fun r u' => wpY_item (fun r' v' => r' = r ∧ i_Rel (k + 4) u' v') v v1) u v1 := by
  obtain ⟨c, d, p, t, s, it, dr, pa, gs, tb, rfl, rfl, hI⟩ := I
  have hd8 := hI.2.1
  unfold wpX_item wpY_item
  dsimp only
  refine la_Xok (la_pb (fun z => la_Yok (la_pb (fun w => absurd z w) (fun w => ⟨rfl, la_mk hI⟩))) (fun z => ?_))
  refine pk_lt d 8 (fun hd => ⟨vp_in_nI hd (by omega), fun a5 e5 f6 e6 => ?_⟩) (fun hd => ?_)
  · rw [nI_clamp (by omega)] at e5
    rw [nI_1] at e6
    subst e5 e6
    refine la_Yok (la_pb (fun w => ?_) (fun w => absurd z w))
    refine pk_eq d 8 (fun e => by omega) (fun _ => ⟨vp_in_nI hd (by omega), fun a7 e7 f8 e8 => ?_⟩)
    rw [nI_clamp (by omega)] at e7
    rw [nI_1] at e8
    subst e7 e8
    refine ⟨rfl, la_mk ?_⟩
    obtain ⟨h1, h2, h3, h4, h5, h6, h7⟩ := hI
    refine ⟨h1, hd, h3, h4, h5, fun i hi => ?_, h7⟩
    by_cases q : i = d
    · rw [q, pk_us]; exact z
    · rw [pk_un q]; exact h6 i (by omega)
  · refine la_Yok (la_pb (fun w => ?_) (fun w => absurd z w))
    exact pk_eq d 8 (fun _ => ⟨rfl, la_mk hI⟩) (fun e => absurd (by omega) e)
theorem i_vc_part {k : Nat} {u : SX} {v : SY} (I : i_Rel k u v) (hk : k + 4 ≤ 2048) (v1 : Int32) : wpX_part (fun r u' => wpY_part (fun r' v' => r' = r ∧ i_Rel (k + 4) u' v') v v1) u v1 := by
  obtain ⟨c, d, p, t, s, it, dr, pa, gs, tb, rfl, rfl, hI⟩ := I
  have hp8 := hI.2.2.1
  have key : ∀ post : Int32 → SY → Prop, ∀ (z0 : Prop), (z0 ↔ la_okp v1) → wY_part_41 post v1 (la_pI z0) (nI c) (nI d) (nI p) t s it dr pa tb → wpY_part post (nI c, nI d, nI p, t, s, it, dr, pa, tb) v1 := by
    intro post z0 hz h
    have h1 : la_okp v1 → wY_part_36 post v1 (nI c) (nI d) (nI p) t s it dr pa tb := by
      intro q
      rw [la_pt (hz.mpr q)] at h
      exact h
    have h0 : ¬ la_okp v1 → wY_part_40 post v1 (nI c) (nI d) (nI p) t s it dr pa tb := by
      intro q
      rw [la_pf (fun w => q (hz.mp w))] at h
      exact h
    unfold la_okp at h1 h0
    unfold wpY_part
    dsimp only
    refine la_Yok (la_pb (fun w => h1 (Or.inl (Classical.byContradiction w))) (fun w => ?_))
    unfold wY_part_22
    rw [la_lt, la_le, la_lt, la_lt, la_k2000, la_k2002, la_k3000, la_k3999]
    have h0' : ¬ (2000 ≤ v1.toInt ∧ v1.toInt ≤ 2002) → ¬ (3000 ≤ v1.toInt ∧ v1.toInt ≤ 3999) → wY_part_40 post v1 (nI c) (nI d) (nI p) t s it dr pa tb := fun a b => h0 (by rintro (q | q | q); exact w q; exact a q; exact b q)
    exact br_c (fun a => br_c (fun b => h0' (by omega) (by omega)) (fun b => br_c (fun e => h0' (by omega) (by omega)) (fun e => h1 (by omega)))) (fun a => br_c (fun b => h1 (by omega)) (fun b => br_c (fun e => h0' (by omega) (by omega)) (fun e => br_c (fun f => h0' (by omega) (by omega)) (fun f => h1 (by omega)))))
  unfold wpX_part
  dsimp only
  refine la_Xokp (la_pb (fun z => key _ (la_okp v1) Iff.rfl ?_) (fun z => ?_))
  · rw [la_pf z]
    exact la_t1 ⟨rfl, la_mk hI⟩
  · refine pk_lt p 8 (fun hd => ⟨vp_in_nI hd (by omega), fun a5 e5 f6 e6 => ?_⟩) (fun hd => ?_)
    · rw [nI_clamp (by omega)] at e5
      rw [nI_1] at e6
      subst e5 e6
      refine key _ (la_okp v1) Iff.rfl ?_
      rw [la_pt z]
      refine la_t2 (pk_eq p 8 (fun e => by omega) (fun _ => ⟨vp_in_nI hd (by omega), fun a7 e7 f8 e8 => ?_⟩))
      rw [nI_clamp (by omega)] at e7
      rw [nI_1] at e8
      subst e7 e8
      refine ⟨rfl, la_mk ?_⟩
      obtain ⟨h1, h2, h3, h4, h5, h6, h7⟩ := hI
      refine ⟨h1, h2, hd, h4, h5, h6, fun i hi => ?_⟩
      by_cases q : i = p
      · rw [q, pk_us]; exact z
      · rw [pk_un q]; exact h7 i (by omega)
    · refine key _ (la_okp v1) Iff.rfl ?_
      rw [la_pt z]
      exact la_t2 (pk_eq p 8 (fun _ => ⟨rfl, la_mk hI⟩) (fun e => absurd (by omega) e))
theorem i_vc_blank {k : Nat} {u : SX} {v : SY} (I : i_Rel k u v) (hk : k + 4 ≤ 2048) : wpX_blank (fun r u' => wpY_blank (fun r' v' => r' = r ∧ i_Rel (k + 4) u' v') v) u := by
  obtain ⟨c, d, p, t, s, it, dr, pa, gs, tb, rfl, rfl, hI⟩ := I
  obtain ⟨h1, h2, h3, h4, h5, h6, h7⟩ := hI
  exact ⟨rfl, c, d, 0, t, s, it, dr, pa, gs, tb, rfl, rfl, h1, h2, by omega, h4, h5, h6, fun i hi => by omega⟩
theorem i_vc_lines {k : Nat} {u : SX} {v : SY} (I : i_Rel k u v) (hk : k + 4 ≤ 2048) : wpX_lines (fun r => wpY_lines (fun r' => r' = r ∧ i_Rel (k + 4) u v) v) u := by
  obtain ⟨c, d, p, t, s, it, dr, pa, gs, tb, rfl, rfl, hI⟩ := I
  exact ⟨rfl, la_mk hI⟩
theorem i_vc_time {k : Nat} {u : SX} {v : SY} (I : i_Rel k u v) (hk : k + 4 ≤ 2048) (v1 : Int32) : wpX_time (fun r => wpY_time (fun r' => r' = r ∧ i_Rel (k + 4) u v) v v1) u v1 := by
  obtain ⟨c, d, p, t, s, it, dr, pa, gs, tb, rfl, rfl, hI⟩ := I
  have hL := hI.1
  have hc := hL.1
  unfold wpX_time wpY_time
  dsimp only
  rcases la_cs hL v1 with hb | ⟨j, hj, rfl⟩
  · exact la_Xg1 hb (la_t1 (la_Yg1 hb (la_t2 ⟨rfl, la_mk hI⟩)))
  · have vj : vp_in (nI j) 60 := vp_in_nI (by omega) (by omega)
    exact la_Xg2 hL hj (la_t2 ⟨vj, la_Yg2 hL hj (la_t1 ⟨vj, rfl, la_mk hI⟩)⟩)
theorem i_vc_length {k : Nat} {u : SX} {v : SY} (I : i_Rel k u v) (hk : k + 4 ≤ 2048) (v1 : Int32) : wpX_length (fun r => wpY_length (fun r' => r' = r ∧ i_Rel (k + 4) u v) v v1) u v1 := by
  obtain ⟨c, d, p, t, s, it, dr, pa, gs, tb, rfl, rfl, hI⟩ := I
  have hL := hI.1
  have hc := hL.1
  unfold wpX_length wpY_length
  dsimp only
  rcases la_cs hL v1 with hb | ⟨j, hj, rfl⟩
  · exact la_Xg1 hb (la_t1 (la_Yg1 hb (la_t2 ⟨rfl, la_mk hI⟩)))
  · have vj : vp_in (nI j) 60 := vp_in_nI (by omega) (by omega)
    exact la_Xg2 hL hj (la_t2 ⟨vj, la_Yg2 hL hj (la_t1 ⟨vj, rfl, la_mk hI⟩)⟩)
theorem la_Xh1 {c d p : Nat} {t s it dr pa gs : Nat → Int32} {j : Nat} {x : Int32} {post : Int32 → Prop} (hL : la_L c s) (hj : j < c) (hb : x < 0 ∨ nI (la_n s j) ≤ x) (h : post 0) : wpX_hasPlace post (nI c, nI d, nI p, t, s, it, dr, pa, gs) (nI j) x := by
  have hc := hL.1
  obtain ⟨e, _, _⟩ := hL.2 j hj
  unfold wpX_hasPlace
  dsimp only
  rw [nI_clamp (by omega), e]
  by_cases z : x < 0
  · exact br_t z h
  · exact br_f z ⟨vp_in_nI (by omega) (by omega), br_t (hb.resolve_left z) h⟩
theorem la_Xh2 {c d p : Nat} {t s it dr pa gs : Nat → Int32} {j i : Nat} {post : Int32 → Prop} (hL : la_L c s) (hj : j < c) (hi : i < la_n s j) (h : post 1) : wpX_hasPlace post (nI c, nI d, nI p, t, s, it, dr, pa, gs) (nI j) (nI i) := by
  have hc := hL.1
  obtain ⟨e, _, _⟩ := hL.2 j hj
  unfold wpX_hasPlace
  dsimp only
  rw [nI_clamp (by omega), e]
  exact br_f (nI_pos (by omega)) ⟨vp_in_nI (by omega) (by omega), br_f (nI_ge hi (by omega)) h⟩
theorem la_ci {c : Nat} {s : Nat → Int32} (hL : la_L c s) {j : Nat} (hj : j < c) (x : Int32) : (x < 0 ∨ nI (la_n s j) ≤ x) ∨ ∃ i, i < la_n s j ∧ x = nI i := by
  obtain ⟨_, _, _⟩ := hL.2 j hj
  rcases pk_ix x (n := la_n s j) (by omega) with h | h | h
  · exact Or.inl (Or.inl h)
  · exact Or.inl (Or.inr h)
  · exact Or.inr h
theorem i_vc_at {k : Nat} {u : SX} {v : SY} (I : i_Rel k u v) (hk : k + 4 ≤ 2048) (v1 : Int32) (v2 : Int32) : wpX_at (fun r => wpY_at (fun r' => r' = r ∧ i_Rel (k + 4) u v) v v1 v2) u v1 v2 := by
  obtain ⟨c, d, p, t, s, it, dr, pa, gs, tb, rfl, rfl, hI⟩ := I
  have hL := hI.1
  have hc := hL.1
  unfold wpX_at wpY_at
  dsimp only
  rcases la_cs hL v1 with hb | ⟨j, hj, rfl⟩
  · exact la_Xg1 hb (la_t1 (la_Yg1 hb (la_t2 ⟨rfl, la_mk hI⟩)))
  · have vj : vp_in (nI j) 60 := vp_in_nI (by omega) (by omega)
    obtain ⟨e, l1, l8⟩ := hL.2 j hj
    rw [nI_clamp (n := j) (by omega), e]
    refine la_Xg2 hL hj (la_t2 ?_)
    rcases la_ci hL hj v2 with hb | ⟨i, hi, rfl⟩
    · refine la_Xh1 hL hj hb (la_t1 (la_Yg2 hL hj (la_t1 ?_)))
      by_cases z : v2 < 0
      · exact br_t z ⟨rfl, la_mk hI⟩
      · exact br_f z ⟨vj, br_f (Int32.not_lt.mpr (hb.resolve_left z)) ⟨rfl, la_mk hI⟩⟩
    · refine la_Xh2 hL hj hi (la_t2 (la_Xit (by omega) (la_Yg2 hL hj (la_t1 ?_))))
      rw [la_iy, nI_clamp (n := 8 * j + i) (by omega)]
      exact br_f (nI_pos (by omega)) ⟨vj, br_t (nI_lt hi (by omega)) ⟨vp_in_nI (by omega) (by omega), rfl, la_mk hI⟩⟩
end
section
theorem la_Xgr {c d p : Nat} {t s it dr pa gs : Nat → Int32} {post : Int32 → Prop} (hL : la_L c s) (h : post (nI (la_cn (fun i => la_fi s it i = i) 0 c))) : wpX_groups post (nI c, nI d, nI p, t, s, it, dr, pa, gs) := by
  have hc := hL.1
  unfold wpX_groups
  refine ⟨c - 0 + 1, ?_⟩
  refine la_cl0 (fun n x y => wX_groups_4 post (nI c) (nI d) (nI p) t s it dr pa gs n x y) post c (fun i => la_fi s it i = i) ?_ ?_ 0 (by omega) h
  · intro n x hp
    show wX_groups_4 post (nI c) (nI d) (nI p) t s it dr pa gs (n + 1) x (nI c)
    rw [wX_groups_4]
    exact br_t (nI_le (by omega) (by omega)) hp
  · intro n x i hi f g
    show wX_groups_4 post (nI c) (nI d) (nI p) t s it dr pa gs (n + 1) x (nI i)
    rw [wX_groups_4]
    have q := la_fi_le s it i
    refine br_f (nI_ge hi (by omega)) (la_Xfi hL hi ?_)
    exact pk_eq (la_fi s it i) i (fun e => nm_e (nm_r (nI_1 i) (f e))) (fun e => nm_r (nI_1 i) (g e))
theorem la_Ygr {c d p : Nat} {t s it dr pa tb : Nat → Int32} {post : Int32 → Prop} (hL : la_L c s) (h : post (nI (la_cn (fun i => la_fi s it i = i) 0 c))) : wpY_groups post (nI c, nI d, nI p, t, s, it, dr, pa, tb) := by
  have hc := hL.1
  unfold wpY_groups
  refine ⟨c - 0 + 1, ?_⟩
  refine la_cl0 (fun n x y => wY_groups_4 post (nI c) (nI d) (nI p) t s it dr pa tb n x y) post c (fun i => la_fi s it i = i) ?_ ?_ 0 (by omega) h
  · intro n x hp
    show wY_groups_4 post (nI c) (nI d) (nI p) t s it dr pa tb (n + 1) x (nI c)
    rw [wY_groups_4]
    exact br_t (nI_le (by omega) (by omega)) hp
  · intro n x i hi f g
    show wY_groups_4 post (nI c) (nI d) (nI p) t s it dr pa tb (n + 1) x (nI i)
    rw [wY_groups_4]
    have q := la_fi_le s it i
    refine br_f (nI_ge hi (by omega)) (la_Yfi hL hi ?_)
    exact pk_eq (la_fi s it i) i (fun e => nm_e (nm_r (nI_1 i) (f e))) (fun e => nm_r (nI_1 i) (g e))
theorem i_vc_groups {k : Nat} {u : SX} {v : SY} (I : i_Rel k u v) (hk : k + 4 ≤ 2048) : wpX_groups (fun r => wpY_groups (fun r' => r' = r ∧ i_Rel (k + 4) u v) v) u := by
  obtain ⟨c, d, p, t, s, it, dr, pa, gs, tb, rfl, rfl, hI⟩ := I
  exact la_Xgr hI.1 (la_Ygr hI.1 ⟨rfl, la_mk hI⟩)
theorem i_vc_group {k : Nat} {u : SX} {v : SY} (I : i_Rel k u v) (hk : k + 4 ≤ 2048) (v1 : Int32) : wpX_group (fun r => wpY_group (fun r' => r' = r ∧ i_Rel (k + 4) u v) v v1) u v1 := by
  obtain ⟨c, d, p, t, s, it, dr, pa, gs, tb, rfl, rfl, hI⟩ := I
  have hL := hI.1
  unfold wpX_group wpY_group
  dsimp only
  rcases la_cs hL v1 with hb | ⟨j, hj, rfl⟩
  · exact la_Xg1 hb (la_t1 (la_Yg1 hb (la_t2 ⟨rfl, la_mk hI⟩)))
  · exact la_Xg2 hL hj (la_t2 (la_Xfi hL hj (la_Yg2 hL hj (la_t1 (la_Yfi hL hj ⟨rfl, la_mk hI⟩)))))
noncomputable def la_sz (c : Nat) (s it : Nat → Int32) (l : Nat) : Nat := la_cn (fun i => la_al s it l i) 0 c
theorem la_Ysz {c d p : Nat} {t s it dr pa tb : Nat → Int32} {l : Nat} {post : Int32 → Prop} (hL : la_L c s) (hl : l < c) (h : post (nI (la_sz c s it l))) : wpY_sizeOf post (nI c, nI d, nI p, t, s, it, dr, pa, tb) (nI l) := by
  have hc := hL.1
  unfold wpY_sizeOf
  refine ⟨c - 0 + 1, ?_⟩
  refine la_cl0 (fun n x y => wY_sizeOf_4 post (nI l) (nI c) (nI d) (nI p) t s it dr pa tb n x y) post c (fun i => la_al s it l i) ?_ ?_ 0 (by omega) h
  · intro n x hp
    show wY_sizeOf_4 post (nI l) (nI c) (nI d) (nI p) t s it dr pa tb (n + 1) x (nI c)
    rw [wY_sizeOf_4]
    exact br_t (nI_le (by omega) (by omega)) hp
  · intro n x i hi f g
    show wY_sizeOf_4 post (nI l) (nI c) (nI d) (nI p) t s it dr pa tb (n + 1) x (nI i)
    rw [wY_sizeOf_4]
    refine br_f (nI_ge hi (by omega)) (la_Yal hL hi hl ?_)
    exact la_pb (fun e => nm_r (nI_1 i) (g (fun w => e (la_al_s w)))) (fun e => nm_e (nm_r (nI_1 i) (f (la_al_s e))))
theorem i_vc_members {k : Nat} {u : SX} {v : SY} (I : i_Rel k u v) (hk : k + 4 ≤ 2048) (v1 : Int32) : wpX_members (fun r => wpY_members (fun r' => r' = r ∧ i_Rel (k + 4) u v) v v1) u v1 := by
  obtain ⟨c, d, p, t, s, it, dr, pa, gs, tb, rfl, rfl, hI⟩ := I
  have hL := hI.1
  have hc := hL.1
  unfold wpX_members wpY_members
  dsimp only
  rcases la_cs hL v1 with hb | ⟨j, hj, rfl⟩
  · exact la_Xg1 hb (la_t1 (la_Yg1 hb (la_t2 ⟨rfl, la_mk hI⟩)))
  · refine la_Xg2 hL hj (la_t2 ?_)
    have key : ∀ post : Int32 → Prop, post (nI (la_sz c s it j)) → ∃ n, wX_members_14 post (nI j) (nI c) (nI d) (nI p) t s it dr pa gs n 0 0 := by
      intro post h
      refine ⟨c - 0 + 1, ?_⟩
      refine la_cl0 (fun n x y => wX_members_14 post (nI j) (nI c) (nI d) (nI p) t s it dr pa gs n x y) post c (fun i => la_al s it j i) ?_ ?_ 0 (by omega) h
      · intro n x hp
        show wX_members_14 post (nI j) (nI c) (nI d) (nI p) t s it dr pa gs (n + 1) x (nI c)
        rw [wX_members_14]
        exact br_t (nI_le (by omega) (by omega)) hp
      · intro n x i hi f g
        show wX_members_14 post (nI j) (nI c) (nI d) (nI p) t s it dr pa gs (n + 1) x (nI i)
        rw [wX_members_14]
        refine br_f (nI_ge hi (by omega)) (la_Xal hL hj hi ?_)
        exact la_pb (fun e => nm_r (nI_1 i) (g e)) (fun e => nm_e (nm_r (nI_1 i) (f e)))
    exact key _ (la_Yg2 hL hj (la_t1 (la_Ysz hL hj ⟨rfl, la_mk hI⟩)))
def la_hs (s it : Nat → Int32) (x : Int32) (l : Nat) : Prop := ∃ i, 0 ≤ i ∧ i < la_n s l ∧ it (8 * l + i) = x
theorem la_Xhs {c d p : Nat} {t s it dr pa gs : Nat → Int32} {l : Nat} {x : Int32} {post : Int32 → Prop} (hL : la_L c s) (hl : l < c) (h : post (la_pI (la_hs s it x l))) : wpX_contains post (nI c, nI d, nI p, t, s, it, dr, pa, gs) (nI l) x := by
  have hc := hL.1
  obtain ⟨e, l1, l8⟩ := hL.2 l hl
  have vl : vp_in (nI l) 60 := vp_in_nI (by omega) (by omega)
  have cl : (nI l).toNatClampNeg = l := nI_clamp (by omega)
  unfold wpX_contains
  refine ⟨la_n s l + 1, ?_⟩
  refine la_el (fun n y => wX_contains_2 post (nI l) x (nI c) (nI d) (nI p) t s it dr pa gs n y) (post 1) (post 0) (la_n s l) (fun i => it (8 * l + i) = x) ?_ ?_ (la_n s l) 0 (by omega) (fun z => la_p1 h z) (fun z => la_p0 h z)
  · intro n hp
    show wX_contains_2 post (nI l) x (nI c) (nI d) (nI p) t s it dr pa gs (n + 1) (nI (la_n s l))
    rw [wX_contains_2, cl]
    exact ⟨vl, br_t (by rw [e]; exact nI_le (by omega) (by omega)) hp⟩
  · intro n i hi f g
    show wX_contains_2 post (nI l) x (nI c) (nI d) (nI p) t s it dr pa gs (n + 1) (nI i)
    rw [wX_contains_2, cl]
    exact ⟨vl, br_f (by rw [e]; exact nI_ge hi (by omega)) (la_Xit (by omega) (br_c f (fun z => nm_r (nI_1 i) (g z))))⟩
theorem la_Yhs {c d p : Nat} {t s it dr pa tb : Nat → Int32} {l : Nat} {x1 x2 : Int32} {post : Int32 → Prop} {J : Int32 → Int32 → Prop} (hL : la_L c s) (hl : l < c) : ∀ (m i : Nat) (F : Prop), i + m = la_n s l → ((F ∨ ∃ j, i ≤ j ∧ j < la_n s l ∧ it (8 * l + j) = x1) → J (x2 + 1) (nI (l + 1))) → ((¬ (F ∨ ∃ j, i ≤ j ∧ j < la_n s l ∧ it (8 * l + j) = x1)) → J x2 (nI (l + 1))) → wY_having_28 post J x1 x2 (nI l) (nI c) (nI d) (nI p) t s it dr pa tb (m + 1) (la_pI F) (nI i) := by
  have hc := hL.1
  obtain ⟨e, l1, l8⟩ := hL.2 l hl
  have vl : vp_in (nI l) 60 := vp_in_nI (by omega) (by omega)
  have cl : (nI l).toNatClampNeg = l := nI_clamp (by omega)
  intro m
  induction m with
  | zero =>
    intro i F hi f g
    rw [wY_having_28]
    dsimp only
    rw [cl]
    refine ⟨vl, br_t (by rw [e]; exact nI_le (by omega) (by omega)) (la_pb (fun z => nm_r (nI_1 l) (g ?_)) (fun z => nm_e (nm_r (nI_1 l) (f (Or.inl z)))))⟩
    rintro (q | ⟨j, a, b, _⟩)
    · exact z q
    · omega
  | succ m ih =>
    intro i F hi f g
    rw [wY_having_28]
    dsimp only
    rw [cl, la_iy, nI_clamp (n := 8 * l + i) (by omega)]
    refine ⟨vl, br_f (by rw [e]; exact nI_ge (by omega) (by omega)) (la_pb (fun z => ⟨vp_in_nI (by omega) (by omega), br_c (fun w => nm_r (nI_1 i) ?_) (fun w => nm_r (nI_1 i) ?_)⟩) (fun z => nm_r (nI_1 i) ?_))⟩
    · have q := ih (i + 1) True (by omega) (fun _ => f (Or.inr ⟨i, by omega, by omega, w⟩)) (fun y => absurd (Or.inl trivial) y)
      rw [la_pt trivial] at q
      exact q
    · have q := ih (i + 1) False (by omega) (fun y => f ?_) (fun y => g ?_)
      · rw [la_pf id] at q
        exact q
      · rcases y with y | ⟨j, a, b, o⟩
        · exact y.elim
        · exact Or.inr ⟨j, by omega, b, o⟩
      · rintro (k | ⟨j, a, b, o⟩)
        · exact z k
        · refine y (Or.inr ⟨j, ?_, b, o⟩)
          rcases Nat.lt_or_ge i j with k | k
          · omega
          · have jj : j = i := by omega
            rw [jj] at o
            exact absurd o w
    · have q := ih (i + 1) True (by omega) (fun _ => f (Or.inl z)) (fun y => absurd (Or.inl trivial) y)
      rw [la_pt trivial] at q
      exact q
theorem i_vc_having {k : Nat} {u : SX} {v : SY} (I : i_Rel k u v) (hk : k + 4 ≤ 2048) (v1 : Int32) : wpX_having (fun r => wpY_having (fun r' => r' = r ∧ i_Rel (k + 4) u v) v v1) u v1 := by
  obtain ⟨c, d, p, t, s, it, dr, pa, gs, tb, rfl, rfl, hI⟩ := I
  have hL := hI.1
  have hc := hL.1
  have kx : ∀ post : Int32 → Prop, post (nI (la_cn (la_hs s it v1) 0 c)) → ∃ n, wX_having_13 post v1 (nI c) (nI d) (nI p) t s it dr pa gs n 0 0 := by
    intro post h
    refine ⟨c - 0 + 1, ?_⟩
    refine la_cl0 (fun n x y => wX_having_13 post v1 (nI c) (nI d) (nI p) t s it dr pa gs n x y) post c (la_hs s it v1) ?_ ?_ 0 (by omega) h
    · intro n x hp
      show wX_having_13 post v1 (nI c) (nI d) (nI p) t s it dr pa gs (n + 1) x (nI c)
      rw [wX_having_13]
      exact br_t (nI_le (by omega) (by omega)) hp
    · intro n x i hi f g
      show wX_having_13 post v1 (nI c) (nI d) (nI p) t s it dr pa gs (n + 1) x (nI i)
      rw [wX_having_13]
      refine br_f (nI_ge hi (by omega)) (la_Xhs hL hi ?_)
      exact la_pb (fun e => nm_r (nI_1 i) (g e)) (fun e => nm_e (nm_r (nI_1 i) (f e)))
  have ky : ∀ post : Int32 → Prop, post (nI (la_cn (la_hs s it v1) 0 c)) → ∃ n, wY_having_14 post v1 (nI c) (nI d) (nI p) t s it dr pa tb n 0 0 := by
    intro post h
    refine ⟨c - 0 + 1, ?_⟩
    refine la_cl0 (fun n x y => wY_having_14 post v1 (nI c) (nI d) (nI p) t s it dr pa tb n x y) post c (la_hs s it v1) ?_ ?_ 0 (by omega) h
    · intro n x hp
      show wY_having_14 post v1 (nI c) (nI d) (nI p) t s it dr pa tb (n + 1) x (nI c)
      rw [wY_having_14]
      exact br_t (nI_le (by omega) (by omega)) hp
    · intro n x i hi f g
      show wY_having_14 post v1 (nI c) (nI d) (nI p) t s it dr pa tb (n + 1) x (nI i)
      rw [wY_having_14]
      refine br_f (nI_ge hi (by omega)) ⟨la_n s i + 1, ?_⟩
      have q := la_Yhs (post := post) (x1 := v1) (x2 := x) (J := wY_having_14 post v1 (nI c) (nI d) (nI p) t s it dr pa tb n) (d := d) (p := p) (t := t) (it := it) (dr := dr) (pa := pa) (tb := tb) hL hi (la_n s i) 0 False (by omega) (fun y => f (y.resolve_left id)) (fun y => g (fun w => y (Or.inr w)))
      rw [la_pf id] at q
      exact q
  unfold wpX_having wpY_having
  dsimp only
  exact la_Xok (la_pb (fun z => la_Yok (la_pb (fun w => absurd z w) (fun w => ⟨rfl, la_mk hI⟩))) (fun z => kx _ (la_Yok (la_pb (fun w => ky _ ⟨rfl, la_mk hI⟩) (fun w => absurd z w)))))
def la_wi (t : Nat → Int32) (x y : Int32) (l : Nat) : Prop := ¬ t l < x ∧ ¬ y < t l
theorem la_Xwi {c d p : Nat} {t s it dr pa gs : Nat → Int32} {l : Nat} {x y : Int32} {post : Int32 → Prop} (hL : la_L c s) (hl : l < c) (h : post (la_pI (la_wi t x y l))) : wpX_isWithin post (nI c, nI d, nI p, t, s, it, dr, pa, gs) (nI l) x y := by
  have hc := hL.1
  have vl : vp_in (nI l) 60 := vp_in_nI (by omega) (by omega)
  unfold wpX_isWithin
  dsimp only
  rw [nI_clamp (by omega)]
  exact ⟨vl, br_c (fun a => la_p0 h (fun z => z.1 a)) (fun a => ⟨vl, br_c (fun b => la_p0 h (fun z => z.2 b)) (fun b => la_p1 h ⟨a, b⟩)⟩)⟩
theorem i_vc_between {k : Nat} {u : SX} {v : SY} (I : i_Rel k u v) (hk : k + 4 ≤ 2048) (v1 : Int32) (v2 : Int32) : wpX_between (fun r => wpY_between (fun r' => r' = r ∧ i_Rel (k + 4) u v) v v1 v2) u v1 v2 := by
  obtain ⟨c, d, p, t, s, it, dr, pa, gs, tb, rfl, rfl, hI⟩ := I
  have hL := hI.1
  have hc := hL.1
  have kx : ∀ post : Int32 → Prop, post (nI (la_cn (la_wi t v1 v2) 0 c)) → ∃ n, wX_between_5 post v1 v2 (nI c) (nI d) (nI p) t s it dr pa gs n 0 0 := by
    intro post h
    refine ⟨c - 0 + 1, ?_⟩
    refine la_cl0 (fun n x y => wX_between_5 post v1 v2 (nI c) (nI d) (nI p) t s it dr pa gs n x y) post c (la_wi t v1 v2) ?_ ?_ 0 (by omega) h
    · intro n x hp
      show wX_between_5 post v1 v2 (nI c) (nI d) (nI p) t s it dr pa gs (n + 1) x (nI c)
      rw [wX_between_5]
      exact br_t (nI_le (by omega) (by omega)) hp
    · intro n x i hi f g
      show wX_between_5 post v1 v2 (nI c) (nI d) (nI p) t s it dr pa gs (n + 1) x (nI i)
      rw [wX_between_5]
      refine br_f (nI_ge hi (by omega)) (la_Xwi hL hi ?_)
      exact la_pb (fun e => nm_r (nI_1 i) (g e)) (fun e => nm_e (nm_r (nI_1 i) (f e)))
  have ky : ∀ post : Int32 → Prop, post (nI (la_cn (la_wi t v1 v2) 0 c)) → ∃ n, wY_between_5 post v1 v2 (nI c) (nI d) (nI p) t s it dr pa tb n 0 0 := by
    intro post h
    refine ⟨c - 0 + 1, ?_⟩
    refine la_cl0 (fun n x y => wY_between_5 post v1 v2 (nI c) (nI d) (nI p) t s it dr pa tb n x y) post c (la_wi t v1 v2) ?_ ?_ 0 (by omega) h
    · intro n x hp
      show wY_between_5 post v1 v2 (nI c) (nI d) (nI p) t s it dr pa tb (n + 1) x (nI c)
      rw [wY_between_5]
      exact br_t (nI_le (by omega) (by omega)) hp
    · intro n x i hi f g
      have vi : vp_in (nI i) 60 := vp_in_nI (by omega) (by omega)
      show wY_between_5 post v1 v2 (nI c) (nI d) (nI p) t s it dr pa tb (n + 1) x (nI i)
      rw [wY_between_5]
      dsimp only
      rw [nI_clamp (n := i) (by omega)]
      exact br_f (nI_ge hi (by omega)) ⟨vi, br_c (fun a => nm_r (nI_1 i) (g (fun z => z.1 a))) (fun a => ⟨vi, br_c (fun b => nm_r (nI_1 i) (g (fun z => z.2 b))) (fun b => nm_e (nm_r (nI_1 i) (f ⟨a, b⟩)))⟩)⟩
  exact kx _ (ky _ ⟨rfl, la_mk hI⟩)
def la_sp (t : Nat → Int32) (w : Int32) (l i : Nat) : Prop := ¬ w ≤ t i - t l
noncomputable def la_mx (c : Nat) (t : Nat → Int32) (w : Int32) (l : Nat) (x : Int32) : Int32 := @ite Int32 (nI (la_cn (la_sp t w l) l (c - l)) ≤ x) (Classical.propDecidable _) x (nI (la_cn (la_sp t w l) l (c - l)))
theorem la_Xsp {c d p : Nat} {t s it dr pa gs : Nat → Int32} {l : Nat} {w : Int32} {post : Int32 → Prop} (hL : la_L c s) (hl : l < c) (h : post (nI (la_cn (la_sp t w l) l (c - l)))) : wpX_countInSpanFrom post (nI c, nI d, nI p, t, s, it, dr, pa, gs) (nI l) w := by
  have hc := hL.1
  have vl : vp_in (nI l) 60 := vp_in_nI (by omega) (by omega)
  unfold wpX_countInSpanFrom
  refine ⟨c - l + 1, ?_⟩
  refine la_cl0 (fun n x y => wX_countInSpanFrom_5 post (nI l) w (nI c) (nI d) (nI p) t s it dr pa gs n x y) post c (la_sp t w l) ?_ ?_ l (by omega) h
  · intro n x hp
    show wX_countInSpanFrom_5 post (nI l) w (nI c) (nI d) (nI p) t s it dr pa gs (n + 1) x (nI c)
    rw [wX_countInSpanFrom_5]
    exact br_t (nI_le (by omega) (by omega)) hp
  · intro n x i hi f g
    have vi : vp_in (nI i) 60 := vp_in_nI (by omega) (by omega)
    show wX_countInSpanFrom_5 post (nI l) w (nI c) (nI d) (nI p) t s it dr pa gs (n + 1) x (nI i)
    rw [wX_countInSpanFrom_5]
    dsimp only
    rw [nI_clamp (n := i) (by omega), nI_clamp (n := l) (by omega)]
    exact br_f (nI_ge hi (by omega)) ⟨vi, vl, br_c (fun a => nm_r (nI_1 i) (g (fun z => z a))) (fun a => nm_e (nm_r (nI_1 i) (f a)))⟩
theorem la_mx_t {c l : Nat} {t : Nat → Int32} {w x : Int32} (h : nI (la_cn (la_sp t w l) l (c - l)) ≤ x) : la_mx c t w l x = x := if_pos h
theorem la_mx_f {c l : Nat} {t : Nat → Int32} {w x : Int32} (h : ¬ nI (la_cn (la_sp t w l) l (c - l)) ≤ x) : la_mx c t w l x = nI (la_cn (la_sp t w l) l (c - l)) := if_neg h
theorem i_vc_burst {k : Nat} {u : SX} {v : SY} (I : i_Rel k u v) (hk : k + 4 ≤ 2048) (v1 : Int32) : wpX_burst (fun r => wpY_burst (fun r' => r' = r ∧ i_Rel (k + 4) u v) v v1) u v1 := by
  obtain ⟨c, d, p, t, s, it, dr, pa, gs, tb, rfl, rfl, hI⟩ := I
  have hL := hI.1
  have hc := hL.1
  have kx : ∀ post : Int32 → Prop, post (la_fo (la_mx c t v1) 0 c 0) → ∃ n, wX_burst_11 post v1 (nI c) (nI d) (nI p) t s it dr pa gs n 0 0 := by
    intro post h
    refine ⟨c + 1, ?_⟩
    refine la_fl (fun n x y => wX_burst_11 post v1 (nI c) (nI d) (nI p) t s it dr pa gs n x y) post c (la_mx c t v1) ?_ ?_ c 0 0 (by omega) h
    · intro n x hp
      show wX_burst_11 post v1 (nI c) (nI d) (nI p) t s it dr pa gs (n + 1) x (nI c)
      rw [wX_burst_11]
      exact br_t (nI_le (by omega) (by omega)) hp
    · intro n x i hi g
      show wX_burst_11 post v1 (nI c) (nI d) (nI p) t s it dr pa gs (n + 1) x (nI i)
      rw [wX_burst_11]
      refine br_f (nI_ge hi (by omega)) (la_Xsp hL hi ?_)
      refine br_c (fun e => nm_r (nI_1 i) ?_) (fun e => nm_r (nI_1 i) ?_)
      · rw [la_mx_t e] at g; exact g
      · rw [la_mx_f e] at g; exact g
  have ky : ∀ post : Int32 → Prop, post (la_fo (la_mx c t v1) 0 c 0) → ∃ n, wY_burst_11 post v1 (nI c) (nI d) (nI p) t s it dr pa tb n 0 0 := by
    intro post h
    refine ⟨c + 1, ?_⟩
    refine la_fl (fun n x y => wY_burst_11 post v1 (nI c) (nI d) (nI p) t s it dr pa tb n x y) post c (la_mx c t v1) ?_ ?_ c 0 0 (by omega) h
    · intro n x hp
      show wY_burst_11 post v1 (nI c) (nI d) (nI p) t s it dr pa tb (n + 1) x (nI c)
      rw [wY_burst_11]
      exact br_t (nI_le (by omega) (by omega)) hp
    · intro n x l hl g
      have vl : vp_in (nI l) 60 := vp_in_nI (by omega) (by omega)
      show wY_burst_11 post v1 (nI c) (nI d) (nI p) t s it dr pa tb (n + 1) x (nI l)
      rw [wY_burst_11]
      refine br_f (nI_ge hl (by omega)) ⟨c - l + 1, ?_⟩
      refine la_cl0 (fun m y z => wY_burst_25 post (wY_burst_11 post v1 (nI c) (nI d) (nI p) t s it dr pa tb n) v1 x (nI l) (nI c) (nI d) (nI p) t s it dr pa tb m y z) (fun y => (y ≤ x → wY_burst_11 post v1 (nI c) (nI d) (nI p) t s it dr pa tb n x (nI (l + 1))) ∧ (¬ y ≤ x → wY_burst_11 post v1 (nI c) (nI d) (nI p) t s it dr pa tb n y (nI (l + 1)))) c (la_sp t v1 l) ?_ ?_ l (by omega) ?_
      · intro m y hp
        show wY_burst_25 post (wY_burst_11 post v1 (nI c) (nI d) (nI p) t s it dr pa tb n) v1 x (nI l) (nI c) (nI d) (nI p) t s it dr pa tb (m + 1) y (nI c)
        rw [wY_burst_25]
        exact br_t (nI_le (by omega) (by omega)) (br_c (fun z => nm_r (nI_1 l) (hp.1 z)) (fun z => nm_r (nI_1 l) (hp.2 z)))
      · intro m y i hi f g
        have vi : vp_in (nI i) 60 := vp_in_nI (by omega) (by omega)
        show wY_burst_25 post (wY_burst_11 post v1 (nI c) (nI d) (nI p) t s it dr pa tb n) v1 x (nI l) (nI c) (nI d) (nI p) t s it dr pa tb (m + 1) y (nI i)
        rw [wY_burst_25]
        dsimp only
        rw [nI_clamp (n := i) (by omega), nI_clamp (n := l) (by omega)]
        exact br_f (nI_ge hi (by omega)) ⟨vi, vl, br_c (fun a => nm_r (nI_1 i) (g (fun z => z a))) (fun a => nm_e (nm_r (nI_1 i) (f a)))⟩
      · refine ⟨fun e => ?_, fun e => ?_⟩
        · rw [la_mx_t e] at g; exact g
        · rw [la_mx_f e] at g; exact g
  unfold wpX_burst wpY_burst
  dsimp only
  exact br_c (fun z => kx _ (br_t z (ky _ ⟨rfl, la_mk hI⟩))) (fun z => br_f z ⟨rfl, la_mk hI⟩)
def la_we (it : Nat → Int32) (l i : Nat) (x : Int32) : Int32 := x + (nI i + 3) * it (8 * l + i)
def la_dg (t s it : Nat → Int32) (l : Nat) (x : Int32) : Int32 := x + (nI l + 1) * (t l + la_fo (la_we it l) 0 (la_n s l) 0)
theorem la_we_a (it : Nat → Int32) (l : Nat) (a : Int32) : ∀ m i x, la_fo (la_we it l) i m (a + x) = a + la_fo (la_we it l) i m x := by
  intro m
  induction m with
  | zero => intro i x; rfl
  | succ m ih =>
    intro i x
    show la_fo (la_we it l) (i + 1) m (la_we it l i (a + x)) = a + la_fo (la_we it l) (i + 1) m (la_we it l i x)
    rw [show la_we it l i (a + x) = a + la_we it l i x from Int32.add_assoc _ _ _, ih]
theorem la_Xwe {c d p : Nat} {t s it dr pa gs : Nat → Int32} {l : Nat} {post : Int32 → Prop} (hL : la_L c s) (hl : l < c) (h : post (la_fo (la_we it l) 0 (la_n s l) 0)) : wpX_weighItems post (nI c, nI d, nI p, t, s, it, dr, pa, gs) (nI l) := by
  have hc := hL.1
  obtain ⟨e, l1, l8⟩ := hL.2 l hl
  have vl : vp_in (nI l) 60 := vp_in_nI (by omega) (by omega)
  have cl : (nI l).toNatClampNeg = l := nI_clamp (by omega)
  unfold wpX_weighItems
  refine ⟨la_n s l + 1, ?_⟩
  refine la_fl (fun m y z => wX_weighItems_4 post (nI l) (nI c) (nI d) (nI p) t s it dr pa gs m y z) post (la_n s l) (la_we it l) ?_ ?_ (la_n s l) 0 0 (by omega) h
  · intro m y hp
    show wX_weighItems_4 post (nI l) (nI c) (nI d) (nI p) t s it dr pa gs (m + 1) y (nI (la_n s l))
    rw [wX_weighItems_4]
    dsimp only
    rw [cl]
    exact ⟨vl, br_t (by rw [e]; exact nI_le (by omega) (by omega)) hp⟩
  · intro m y i hi h
    show wX_weighItems_4 post (nI l) (nI c) (nI d) (nI p) t s it dr pa gs (m + 1) y (nI i)
    rw [wX_weighItems_4]
    dsimp only
    rw [cl]
    exact ⟨vl, br_f (by rw [e]; exact nI_ge hi (by omega)) (la_Xit (by omega) (nm_e (nm_r (nI_1 i) h)))⟩
theorem i_vc_digest {k : Nat} {u : SX} {v : SY} (I : i_Rel k u v) (hk : k + 4 ≤ 2048) : wpX_digest (fun r => wpY_digest (fun r' => r' = r ∧ i_Rel (k + 4) u v) v) u := by
  obtain ⟨c, d, p, t, s, it, dr, pa, gs, tb, rfl, rfl, hI⟩ := I
  have hL := hI.1
  have hc := hL.1
  have kx : ∀ post : Int32 → Prop, post (la_fo (la_dg t s it) 0 c 0) → ∃ n, wX_digest_4 post (nI c) (nI d) (nI p) t s it dr pa gs n 0 0 := by
    intro post h
    refine ⟨c + 1, ?_⟩
    refine la_fl (fun n x y => wX_digest_4 post (nI c) (nI d) (nI p) t s it dr pa gs n x y) post c (la_dg t s it) ?_ ?_ c 0 0 (by omega) h
    · intro n x hp
      show wX_digest_4 post (nI c) (nI d) (nI p) t s it dr pa gs (n + 1) x (nI c)
      rw [wX_digest_4]
      exact br_t (nI_le (by omega) (by omega)) hp
    · intro n x l hl g
      obtain ⟨e, l1, l8⟩ := hL.2 l hl
      have vl : vp_in (nI l) 60 := vp_in_nI (by omega) (by omega)
      have cl : (nI l).toNatClampNeg = l := nI_clamp (by omega)
      show wX_digest_4 post (nI c) (nI d) (nI p) t s it dr pa gs (n + 1) x (nI l)
      rw [wX_digest_4]
      dsimp only
      rw [cl]
      refine br_f (nI_ge hl (by omega)) ⟨vl, ?_⟩
      exact la_Xwe hL hl (nm_e (nm_r (nI_1 l) g))
  have ky : ∀ post : Int32 → Prop, post (la_fo (la_dg t s it) 0 c 0) → ∃ n, wY_digest_4 post (nI c) (nI d) (nI p) t s it dr pa tb n 0 0 := by
    intro post h
    refine ⟨c + 1, ?_⟩
    refine la_fl (fun n x y => wY_digest_4 post (nI c) (nI d) (nI p) t s it dr pa tb n x y) post c (la_dg t s it) ?_ ?_ c 0 0 (by omega) h
    · intro n x hp
      show wY_digest_4 post (nI c) (nI d) (nI p) t s it dr pa tb (n + 1) x (nI c)
      rw [wY_digest_4]
      exact br_t (nI_le (by omega) (by omega)) hp
    · intro n x l hl g
      obtain ⟨e, l1, l8⟩ := hL.2 l hl
      have vl : vp_in (nI l) 60 := vp_in_nI (by omega) (by omega)
      have cl : (nI l).toNatClampNeg = l := nI_clamp (by omega)
      show wY_digest_4 post (nI c) (nI d) (nI p) t s it dr pa tb (n + 1) x (nI l)
      rw [wY_digest_4]
      dsimp only
      rw [cl]
      refine br_f (nI_ge hl (by omega)) ⟨vl, nm_e ⟨la_n s l + 1, ?_⟩⟩
      refine la_fl (fun m y z => wY_digest_22 post (wY_digest_4 post (nI c) (nI d) (nI p) t s it dr pa tb n) x (nI l) (nI c) (nI d) (nI p) t s it dr pa tb m y z) (fun y => wY_digest_4 post (nI c) (nI d) (nI p) t s it dr pa tb n (x + (nI l + 1) * y) (nI (l + 1))) (la_n s l) (la_we it l) ?_ ?_ (la_n s l) 0 (t l) (by omega) ?_
      · intro m y hp
        show wY_digest_22 post (wY_digest_4 post (nI c) (nI d) (nI p) t s it dr pa tb n) x (nI l) (nI c) (nI d) (nI p) t s it dr pa tb (m + 1) y (nI (la_n s l))
        rw [wY_digest_22]
        dsimp only
        rw [cl]
        exact ⟨vl, br_t (by rw [e]; exact nI_le (by omega) (by omega)) (nm_e (nm_r (nI_1 l) hp))⟩
      · intro m y i hi h
        show wY_digest_22 post (wY_digest_4 post (nI c) (nI d) (nI p) t s it dr pa tb n) x (nI l) (nI c) (nI d) (nI p) t s it dr pa tb (m + 1) y (nI i)
        rw [wY_digest_22]
        dsimp only
        rw [cl, la_iy, nI_clamp (n := 8 * l + i) (by omega)]
        exact ⟨vl, br_f (by rw [e]; exact nI_ge hi (by omega)) ⟨vp_in_nI (by omega) (by omega), nm_e (nm_r (nI_1 i) h)⟩⟩
      · have q := la_we_a it l (t l) (la_n s l) 0 0
        rw [Int32.add_zero] at q
        show wY_digest_4 post (nI c) (nI d) (nI p) t s it dr pa tb n (x + (nI l + 1) * la_fo (la_we it l) 0 (la_n s l) (t l)) (nI (l + 1))
        rw [q]
        exact g
  exact kx _ (ky _ ⟨rfl, la_mk hI⟩)
end
section
noncomputable def la_if (P : Prop) (a b : Int32) : Int32 := @ite Int32 P (Classical.propDecidable P) a b
theorem la_if_t {P : Prop} {a b : Int32} (h : P) : la_if P a b = a := if_pos h
theorem la_if_f {P : Prop} {a b : Int32} (h : ¬ P) : la_if P a b = b := if_neg h
noncomputable def la_mn (P : Nat → Prop) (u : Nat → Int32) (l : Nat) (x : Int32) : Int32 := la_if (P l ∧ ¬ x ≤ u l) (u l) x
noncomputable def la_mg (P : Nat → Prop) (u : Nat → Int32) (l : Nat) (x : Int32) : Int32 := la_if (P l ∧ ¬ u l ≤ x) (u l) x
noncomputable def la_sm (P : Nat → Prop) (u : Nat → Int32) (l : Nat) (x : Int32) : Int32 := la_if (P l) (x + u l) x
noncomputable def la_df (P : Nat → Prop) (l : Nat) (x : Int32) : Int32 := la_if (P l) (x + 1) x
def la_nu (it : Nat → Int32) (i l : Nat) : Int32 := it (8 * l + i) - 1000
def la_nw (s it : Nat → Int32) (i l : Nat) : Prop := ¬ ∃ j, 0 ≤ j ∧ j < l ∧ (la_al s it l j ∧ it (8 * j + i) = it (8 * l + i))
theorem la_mnS (P : Nat → Prop) (u : Nat → Int32) : ∀ m i x, (la_fo (la_mn P u) i m x).toInt ≤ x.toInt ∧ (∀ j, i ≤ j → j < i + m → P j → (la_fo (la_mn P u) i m x).toInt ≤ (u j).toInt) ∧ (la_fo (la_mn P u) i m x = x ∨ ∃ j, i ≤ j ∧ j < i + m ∧ P j ∧ la_fo (la_mn P u) i m x = u j) := by
  intro m
  induction m with
  | zero => intro i x; exact ⟨Int.le_refl _, fun j a b _ => by omega, Or.inl rfl⟩
  | succ m ih =>
    intro i x
    obtain ⟨e1, e2, e3⟩ := ih (i + 1) (la_mn P u i x)
    show (la_fo (la_mn P u) (i + 1) m (la_mn P u i x)).toInt ≤ x.toInt ∧ (∀ j, i ≤ j → j < i + (m + 1) → P j → (la_fo (la_mn P u) (i + 1) m (la_mn P u i x)).toInt ≤ (u j).toInt) ∧ (la_fo (la_mn P u) (i + 1) m (la_mn P u i x) = x ∨ ∃ j, i ≤ j ∧ j < i + (m + 1) ∧ P j ∧ la_fo (la_mn P u) (i + 1) m (la_mn P u i x) = u j)
    generalize la_fo (la_mn P u) (i + 1) m (la_mn P u i x) = r at e1 e2 e3
    by_cases q : P i ∧ ¬ x ≤ u i
    · rw [show la_mn P u i x = u i from la_if_t q] at e1 e3
      have q2 := q.2
      rw [la_le] at q2
      refine ⟨by omega, fun j a b pj => ?_, ?_⟩
      · by_cases w : j = i
        · rw [w]; exact e1
        · exact e2 j (by omega) (by omega) pj
      · rcases e3 with e3 | ⟨j, a, b, pj, e3⟩
        · exact Or.inr ⟨i, by omega, by omega, q.1, e3⟩
        · exact Or.inr ⟨j, by omega, by omega, pj, e3⟩
    · rw [show la_mn P u i x = x from la_if_f q] at e1 e3
      refine ⟨e1, fun j a b pj => ?_, ?_⟩
      · by_cases w : j = i
        · rw [w] at pj ⊢
          have h : x ≤ u i := Classical.byContradiction (fun k => q ⟨pj, k⟩)
          rw [la_le] at h
          omega
        · exact e2 j (by omega) (by omega) pj
      · rcases e3 with e3 | ⟨j, a, b, pj, e3⟩
        · exact Or.inl e3
        · exact Or.inr ⟨j, by omega, by omega, pj, e3⟩
theorem la_mgS (P : Nat → Prop) (u : Nat → Int32) : ∀ m i x, x.toInt ≤ (la_fo (la_mg P u) i m x).toInt ∧ (∀ j, i ≤ j → j < i + m → P j → (u j).toInt ≤ (la_fo (la_mg P u) i m x).toInt) ∧ (la_fo (la_mg P u) i m x = x ∨ ∃ j, i ≤ j ∧ j < i + m ∧ P j ∧ la_fo (la_mg P u) i m x = u j) := by
  intro m
  induction m with
  | zero => intro i x; exact ⟨Int.le_refl _, fun j a b _ => by omega, Or.inl rfl⟩
  | succ m ih =>
    intro i x
    obtain ⟨e1, e2, e3⟩ := ih (i + 1) (la_mg P u i x)
    show x.toInt ≤ (la_fo (la_mg P u) (i + 1) m (la_mg P u i x)).toInt ∧ (∀ j, i ≤ j → j < i + (m + 1) → P j → (u j).toInt ≤ (la_fo (la_mg P u) (i + 1) m (la_mg P u i x)).toInt) ∧ (la_fo (la_mg P u) (i + 1) m (la_mg P u i x) = x ∨ ∃ j, i ≤ j ∧ j < i + (m + 1) ∧ P j ∧ la_fo (la_mg P u) (i + 1) m (la_mg P u i x) = u j)
    generalize la_fo (la_mg P u) (i + 1) m (la_mg P u i x) = r at e1 e2 e3
    by_cases q : P i ∧ ¬ u i ≤ x
    · rw [show la_mg P u i x = u i from la_if_t q] at e1 e3
      have q2 := q.2
      rw [la_le] at q2
      refine ⟨by omega, fun j a b pj => ?_, ?_⟩
      · by_cases w : j = i
        · rw [w]; exact e1
        · exact e2 j (by omega) (by omega) pj
      · rcases e3 with e3 | ⟨j, a, b, pj, e3⟩
        · exact Or.inr ⟨i, by omega, by omega, q.1, e3⟩
        · exact Or.inr ⟨j, by omega, by omega, pj, e3⟩
    · rw [show la_mg P u i x = x from la_if_f q] at e1 e3
      refine ⟨e1, fun j a b pj => ?_, ?_⟩
      · by_cases w : j = i
        · rw [w] at pj ⊢
          have h : u i ≤ x := Classical.byContradiction (fun k => q ⟨pj, k⟩)
          rw [la_le] at h
          omega
        · exact e2 j (by omega) (by omega) pj
      · rcases e3 with e3 | ⟨j, a, b, pj, e3⟩
        · exact Or.inl e3
        · exact Or.inr ⟨j, by omega, by omega, pj, e3⟩
theorem la_mnE (P : Nat → Prop) (u : Nat → Int32) {c a : Nat} (ha : a < c) (pa : P a) {y : Int32} (hy : (u a).toInt < y.toInt) : la_fo (la_mn P u) 0 c (u a) = la_fo (la_mn P u) 0 c y := by
  obtain ⟨e1, e2, e3⟩ := la_mnS P u c 0 (u a)
  obtain ⟨f1, f2, f3⟩ := la_mnS P u c 0 y
  generalize la_fo (la_mn P u) 0 c (u a) = r at e1 e2 e3
  generalize la_fo (la_mn P u) 0 c y = q at f1 f2 f3
  have f4 := f2 a (by omega) (by omega) pa
  rw [la_eq]
  have g1 : q.toInt ≤ r.toInt := by
    rcases e3 with e3 | ⟨j, a, b, pj, e3⟩
    · rw [e3]; exact f4
    · rw [e3]; exact f2 j a b pj
  have g2 : r.toInt ≤ q.toInt := by
    rcases f3 with f3 | ⟨j, a, b, pj, f3⟩
    · rw [f3] at f4; omega
    · rw [f3]; exact e2 j a b pj
  omega
theorem la_mgE (P : Nat → Prop) (u : Nat → Int32) {c a : Nat} (ha : a < c) (pa : P a) {y : Int32} (hy : y.toInt < (u a).toInt) : la_fo (la_mg P u) 0 c (u a) = la_fo (la_mg P u) 0 c y := by
  obtain ⟨e1, e2, e3⟩ := la_mgS P u c 0 (u a)
  obtain ⟨f1, f2, f3⟩ := la_mgS P u c 0 y
  generalize la_fo (la_mg P u) 0 c (u a) = r at e1 e2 e3
  generalize la_fo (la_mg P u) 0 c y = q at f1 f2 f3
  have f4 := f2 a (by omega) (by omega) pa
  rw [la_eq]
  have g1 : r.toInt ≤ q.toInt := by
    rcases e3 with e3 | ⟨j, a, b, pj, e3⟩
    · rw [e3]; exact f4
    · rw [e3]; exact f2 j a b pj
  have g2 : q.toInt ≤ r.toInt := by
    rcases f3 with f3 | ⟨j, a, b, pj, f3⟩
    · rw [f3] at f4; omega
    · rw [f3]; exact e2 j a b pj
  omega
theorem la_Xmn {c d p : Nat} {t s it dr pa gs : Nat → Int32} {a i : Nat} {post : Int32 → Prop} (hL : la_L c s) (ha : a < c) (hi : i < 8) (h : post (la_fo (la_mn (la_al s it a) (la_nu it i)) 0 c (la_nu it i a))) : wpX_leastInColumn post (nI c, nI d, nI p, t, s, it, dr, pa, gs) (nI a) (nI i) := by
  have hc := hL.1
  unfold wpX_leastInColumn
  refine la_Xnu (by omega) ⟨c + 1, ?_⟩
  refine la_fl (fun n x y => wX_leastInColumn_10 post (nI a) (nI i) (nI c) (nI d) (nI p) t s it dr pa gs n x y) post c (la_mn (la_al s it a) (la_nu it i)) ?_ ?_ c 0 (la_nu it i a) (by omega) h
  · intro n x hp
    show wX_leastInColumn_10 post (nI a) (nI i) (nI c) (nI d) (nI p) t s it dr pa gs (n + 1) x (nI c)
    rw [wX_leastInColumn_10]
    exact br_t (nI_le (by omega) (by omega)) hp
  · intro n x l hl g
    show wX_leastInColumn_10 post (nI a) (nI i) (nI c) (nI d) (nI p) t s it dr pa gs (n + 1) x (nI l)
    rw [wX_leastInColumn_10]
    refine br_f (nI_ge hl (by omega)) (la_Xal hL ha hl (la_pb (fun z => nm_r (nI_1 l) ?_) (fun z => la_Xnu (by omega) (br_c (fun w => nm_r (nI_1 l) ?_) (fun w => la_Xnu (by omega) (nm_r (nI_1 l) ?_))))))
    · rw [show la_mn (la_al s it a) (la_nu it i) l x = x from la_if_f (fun q => z q.1)] at g; exact g
    · rw [show la_mn (la_al s it a) (la_nu it i) l x = x from la_if_f (fun q => q.2 w)] at g; exact g
    · rw [show la_mn (la_al s it a) (la_nu it i) l x = la_nu it i l from la_if_t ⟨z, w⟩] at g; exact g
theorem la_Xmg {c d p : Nat} {t s it dr pa gs : Nat → Int32} {a i : Nat} {post : Int32 → Prop} (hL : la_L c s) (ha : a < c) (hi : i < 8) (h : post (la_fo (la_mg (la_al s it a) (la_nu it i)) 0 c (la_nu it i a))) : wpX_greatestInColumn post (nI c, nI d, nI p, t, s, it, dr, pa, gs) (nI a) (nI i) := by
  have hc := hL.1
  unfold wpX_greatestInColumn
  refine la_Xnu (by omega) ⟨c + 1, ?_⟩
  refine la_fl (fun n x y => wX_greatestInColumn_10 post (nI a) (nI i) (nI c) (nI d) (nI p) t s it dr pa gs n x y) post c (la_mg (la_al s it a) (la_nu it i)) ?_ ?_ c 0 (la_nu it i a) (by omega) h
  · intro n x hp
    show wX_greatestInColumn_10 post (nI a) (nI i) (nI c) (nI d) (nI p) t s it dr pa gs (n + 1) x (nI c)
    rw [wX_greatestInColumn_10]
    exact br_t (nI_le (by omega) (by omega)) hp
  · intro n x l hl g
    show wX_greatestInColumn_10 post (nI a) (nI i) (nI c) (nI d) (nI p) t s it dr pa gs (n + 1) x (nI l)
    rw [wX_greatestInColumn_10]
    refine br_f (nI_ge hl (by omega)) (la_Xal hL ha hl (la_pb (fun z => nm_r (nI_1 l) ?_) (fun z => la_Xnu (by omega) (br_c (fun w => nm_r (nI_1 l) ?_) (fun w => la_Xnu (by omega) (nm_r (nI_1 l) ?_))))))
    · rw [show la_mg (la_al s it a) (la_nu it i) l x = x from la_if_f (fun q => z q.1)] at g; exact g
    · rw [show la_mg (la_al s it a) (la_nu it i) l x = x from la_if_f (fun q => q.2 w)] at g; exact g
    · rw [show la_mg (la_al s it a) (la_nu it i) l x = la_nu it i l from la_if_t ⟨z, w⟩] at g; exact g
theorem la_Xsm {c d p : Nat} {t s it dr pa gs : Nat → Int32} {a i : Nat} {post : Int32 → Prop} (hL : la_L c s) (ha : a < c) (hi : i < 8) (h : post (la_fo (la_sm (la_al s it a) (la_nu it i)) 0 c 0)) : wpX_sumOfColumn post (nI c, nI d, nI p, t, s, it, dr, pa, gs) (nI a) (nI i) := by
  have hc := hL.1
  unfold wpX_sumOfColumn
  refine ⟨c + 1, ?_⟩
  refine la_fl (fun n x y => wX_sumOfColumn_5 post (nI a) (nI i) (nI c) (nI d) (nI p) t s it dr pa gs n x y) post c (la_sm (la_al s it a) (la_nu it i)) ?_ ?_ c 0 0 (by omega) h
  · intro n x hp
    show wX_sumOfColumn_5 post (nI a) (nI i) (nI c) (nI d) (nI p) t s it dr pa gs (n + 1) x (nI c)
    rw [wX_sumOfColumn_5]
    exact br_t (nI_le (by omega) (by omega)) hp
  · intro n x l hl g
    show wX_sumOfColumn_5 post (nI a) (nI i) (nI c) (nI d) (nI p) t s it dr pa gs (n + 1) x (nI l)
    rw [wX_sumOfColumn_5]
    refine br_f (nI_ge hl (by omega)) (la_Xal hL ha hl (la_pb (fun z => nm_r (nI_1 l) ?_) (fun z => la_Xnu (by omega) (nm_e (nm_r (nI_1 l) ?_)))))
    · rw [show la_sm (la_al s it a) (la_nu it i) l x = x from la_if_f z] at g; exact g
    · rw [show la_sm (la_al s it a) (la_nu it i) l x = x + la_nu it i l from la_if_t z] at g; exact g
theorem la_sc1 {x y : Int32} (h : x - 1000 = y - 1000) : x = y := by
  have q : x - 1000 + 1000 = y - 1000 + 1000 := by rw [h]
  rw [Int32.sub_add_cancel, Int32.sub_add_cancel] at q
  exact q
theorem la_Xnw {c d p : Nat} {t s it dr pa gs : Nat → Int32} {l i : Nat} {post : Int32 → Prop} (hL : la_L c s) (hl : l < c) (hi : i < 8) (h : post (la_pI (¬ la_nw s it i l))) : wpX_earlierAlikeHasSame post (nI c, nI d, nI p, t, s, it, dr, pa, gs) (nI l) (nI i) := by
  have hc := hL.1
  unfold la_nw at h
  unfold wpX_earlierAlikeHasSame
  refine ⟨l + 1, ?_⟩
  refine la_el (fun n y => wX_earlierAlikeHasSame_2 post (nI l) (nI i) (nI c) (nI d) (nI p) t s it dr pa gs n y) (post 1) (post 0) l (fun j => la_al s it l j ∧ it (8 * j + i) = it (8 * l + i)) ?_ ?_ l 0 (by omega) (fun z => la_p1 h (fun w => w z)) (fun z => la_p0 h (fun w => w z))
  · intro n hp
    show wX_earlierAlikeHasSame_2 post (nI l) (nI i) (nI c) (nI d) (nI p) t s it dr pa gs (n + 1) (nI l)
    rw [wX_earlierAlikeHasSame_2]
    exact br_t (nI_le (by omega) (by omega)) hp
  · intro n j hj f g
    show wX_earlierAlikeHasSame_2 post (nI l) (nI i) (nI c) (nI d) (nI p) t s it dr pa gs (n + 1) (nI j)
    rw [wX_earlierAlikeHasSame_2]
    refine br_f (nI_ge hj (by omega)) (la_Xal hL hl (by omega) (la_pb (fun z => nm_r (nI_1 j) (g (fun q => z q.1))) (fun z => la_Xnu (by omega) (la_Xnu (by omega) (br_c (fun w => f ⟨z, la_sc1 w⟩) (fun w => nm_r (nI_1 j) (g (fun q => w ?_))))))))
    rw [q.2]
theorem la_Ynw {c d p : Nat} {t s it dr pa tb : Nat → Int32} {l i : Nat} {post : Int32 → Prop} (hL : la_L c s) (hl : l < c) (hi : i < 8) (h : post (la_pI (la_nw s it i l))) : wpY_isNew post (nI c, nI d, nI p, t, s, it, dr, pa, tb) (nI l) (nI i) := by
  have hc := hL.1
  unfold la_nw at h
  unfold wpY_isNew
  refine ⟨l + 1, ?_⟩
  refine la_el (fun n y => wY_isNew_2 post (nI l) (nI i) (nI c) (nI d) (nI p) t s it dr pa tb n y) (post 0) (post 1) l (fun j => la_al s it l j ∧ it (8 * j + i) = it (8 * l + i)) ?_ ?_ l 0 (by omega) (fun z => la_p0 h (fun w => w z)) (fun z => la_p1 h z)
  · intro n hp
    show wY_isNew_2 post (nI l) (nI i) (nI c) (nI d) (nI p) t s it dr pa tb (n + 1) (nI l)
    rw [wY_isNew_2]
    exact br_t (nI_le (by omega) (by omega)) hp
  · intro n j hj f g
    show wY_isNew_2 post (nI l) (nI i) (nI c) (nI d) (nI p) t s it dr pa tb (n + 1) (nI j)
    rw [wY_isNew_2]
    dsimp only
    rw [la_iy, la_iy, nI_clamp (n := 8 * j + i) (by omega), nI_clamp (n := 8 * l + i) (by omega)]
    exact br_f (nI_ge hj (by omega)) (la_Yal hL (by omega) hl (la_pb (fun z => nm_r (nI_1 j) (g (fun q => z (la_al_s q.1)))) (fun z => ⟨vp_in_nI (by omega) (by omega), vp_in_nI (by omega) (by omega), br_c (fun w => f ⟨la_al_s z, w⟩) (fun w => nm_r (nI_1 j) (g (fun q => w q.2)))⟩)))
theorem la_Xdf {c d p : Nat} {t s it dr pa gs : Nat → Int32} {a i : Nat} {post : Int32 → Prop} (hL : la_L c s) (ha : a < c) (hi : i < 8) (h : post (la_fo (la_df (fun l => la_al s it a l ∧ la_nw s it i l)) 0 c 0)) : wpX_differentInColumn post (nI c, nI d, nI p, t, s, it, dr, pa, gs) (nI a) (nI i) := by
  have hc := hL.1
  unfold wpX_differentInColumn
  refine ⟨c + 1, ?_⟩
  refine la_fl (fun n x y => wX_differentInColumn_5 post (nI a) (nI i) (nI c) (nI d) (nI p) t s it dr pa gs n x y) post c (la_df (fun l => la_al s it a l ∧ la_nw s it i l)) ?_ ?_ c 0 0 (by omega) h
  · intro n x hp
    show wX_differentInColumn_5 post (nI a) (nI i) (nI c) (nI d) (nI p) t s it dr pa gs (n + 1) x (nI c)
    rw [wX_differentInColumn_5]
    exact br_t (nI_le (by omega) (by omega)) hp
  · intro n x l hl g
    show wX_differentInColumn_5 post (nI a) (nI i) (nI c) (nI d) (nI p) t s it dr pa gs (n + 1) x (nI l)
    rw [wX_differentInColumn_5]
    refine br_f (nI_ge hl (by omega)) (la_Xal hL ha hl (la_pb (fun z => nm_r (nI_1 l) ?_) (fun z => la_Xnw hL hl hi (la_pb (fun w => nm_e (nm_r (nI_1 l) ?_)) (fun w => nm_r (nI_1 l) ?_)))))
    · rw [show la_df (fun l => la_al s it a l ∧ la_nw s it i l) l x = x from la_if_f (fun q => z q.1)] at g; exact g
    · rw [show la_df (fun l => la_al s it a l ∧ la_nw s it i l) l x = x + 1 from la_if_t ⟨z, Classical.byContradiction w⟩] at g; exact g
    · rw [show la_df (fun l => la_al s it a l ∧ la_nw s it i l) l x = x from la_if_f (fun q => w q.2)] at g; exact g
theorem la_Yco {c d p : Nat} {t s it dr pa tb : Nat → Int32} {a i : Nat} {v : Int32} {post : Int32 → Prop} (hL : la_L c s) (ha : a < c) (hi : i < 8) : ∀ m l x4 x5 x6 x7, l + m = c → (v = 0 → post (la_fo (la_mn (la_al s it a) (la_nu it i)) l m x4)) → (¬ v = 0 → v = 1 → post (la_fo (la_mg (la_al s it a) (la_nu it i)) l m x5)) → (¬ v = 0 → ¬ v = 1 → v = 2 → post (la_fo (la_sm (la_al s it a) (la_nu it i)) l m x6)) → (¬ v = 0 → ¬ v = 1 → ¬ v = 2 → post (la_fo (la_df (fun l => la_al s it a l ∧ la_nw s it i l)) l m x7)) → wY_column_70 post (nI a) (nI i) v (nI c) (nI d) (nI p) t s it dr pa tb (m + 1) x4 x5 x6 x7 (nI l) := by
  have hc := hL.1
  intro m
  induction m with
  | zero =>
    intro l x4 x5 x6 x7 hl h0 h1 h2 h3
    rw [wY_column_70]
    exact br_t (nI_le (by omega) (by omega)) (br_c h0 (fun z => br_c (h1 z) (fun w => br_c (h2 z w) (h3 z w))))
  | succ m ih =>
    intro l x4 x5 x6 x7 hl h0 h1 h2 h3
    have g := ih (l + 1) (la_mn (la_al s it a) (la_nu it i) l x4) (la_mg (la_al s it a) (la_nu it i) l x5) (la_sm (la_al s it a) (la_nu it i) l x6) (la_df (fun l => la_al s it a l ∧ la_nw s it i l) l x7) (by omega) h0 h1 h2 h3
    rw [wY_column_70]
    dsimp only
    rw [la_iy, nI_clamp (n := 8 * l + i) (by omega)]
    refine br_f (nI_ge (by omega) (by omega)) (la_Yal hL (by omega) ha (la_pb (fun z => nm_r (nI_1 l) ?_) (fun z => ⟨vp_in_nI (by omega) (by omega), nm_e ?_⟩)))
    · have z' : ¬ la_al s it a l := fun q => z (la_al_s q)
      rw [show la_mn (la_al s it a) (la_nu it i) l x4 = x4 from la_if_f (fun q => z' q.1), show la_mg (la_al s it a) (la_nu it i) l x5 = x5 from la_if_f (fun q => z' q.1), show la_sm (la_al s it a) (la_nu it i) l x6 = x6 from la_if_f z', show la_df (fun l => la_al s it a l ∧ la_nw s it i l) l x7 = x7 from la_if_f (fun q => z' q.1)] at g
      exact g
    · have z' : la_al s it a l := la_al_s z
      rw [show la_sm (la_al s it a) (la_nu it i) l x6 = x6 + la_nu it i l from la_if_t z'] at g
      have key : wY_column_137 post (wY_column_70 post (nI a) (nI i) v (nI c) (nI d) (nI p) t s it dr pa tb (m + 1)) (nI a) (nI i) v (la_mn (la_al s it a) (la_nu it i) l x4) x6 x7 (nI l) (la_nu it i l) (la_mg (la_al s it a) (la_nu it i) l x5) (nI c) (nI d) (nI p) t s it dr pa tb := by
        unfold wY_column_137
        refine nm_e (la_Ynw hL (by omega) hi (la_pb (fun w => nm_r (nI_1 l) ?_) (fun w => nm_e (nm_r (nI_1 l) ?_))))
        · rw [show la_df (fun l => la_al s it a l ∧ la_nw s it i l) l x7 = x7 from la_if_f (fun q => w q.2)] at g; exact g
        · rw [show la_df (fun l => la_al s it a l ∧ la_nw s it i l) l x7 = x7 + 1 from la_if_t ⟨z', w⟩] at g; exact g
      have key2 : wY_column_121 post (wY_column_70 post (nI a) (nI i) v (nI c) (nI d) (nI p) t s it dr pa tb (m + 1)) (nI a) (nI i) v x5 x6 x7 (nI l) (la_nu it i l) (la_mn (la_al s it a) (la_nu it i) l x4) (nI c) (nI d) (nI p) t s it dr pa tb := by
        unfold wY_column_121
        refine br_c (fun w => ?_) (fun w => ?_)
        · rw [show la_mg (la_al s it a) (la_nu it i) l x5 = x5 from la_if_f (fun q => q.2 w)] at key; exact key
        · rw [show la_mg (la_al s it a) (la_nu it i) l x5 = la_nu it i l from la_if_t ⟨z', w⟩] at key; exact key
      refine br_c (fun w => ?_) (fun w => ?_)
      · rw [show la_mn (la_al s it a) (la_nu it i) l x4 = x4 from la_if_f (fun q => q.2 w)] at key2; exact key2
      · rw [show la_mn (la_al s it a) (la_nu it i) l x4 = la_nu it i l from la_if_t ⟨z', w⟩] at key2; exact key2
theorem i_vc_column {k : Nat} {u : SX} {v : SY} (I : i_Rel k u v) (hk : k + 4 ≤ 2048) (v1 : Int32) (v2 : Int32) (v3 : Int32) : wpX_column (fun r => wpY_column (fun r' => r' = r ∧ i_Rel (k + 4) u v) v v1 v2 v3) u v1 v2 v3 := by
  obtain ⟨c, d, p, t, s, it, dr, pa, gs, tb, rfl, rfl, hI⟩ := I
  have hL := hI.1
  have hc := hL.1
  unfold wpX_column
  dsimp only
  rcases la_cs hL v1 with hb | ⟨a, ha, rfl⟩
  · refine la_Xg1 hb (la_t1 ?_)
    unfold wpY_column
    exact la_Yg1 hb (la_t2 ⟨rfl, la_mk hI⟩)
  have va : vp_in (nI a) 60 := vp_in_nI (by omega) (by omega)
  obtain ⟨e, l1, l8⟩ := hL.2 a ha
  refine la_Xg2 hL ha (la_t2 ?_)
  by_cases n0 : v3 < 0
  · refine br_t n0 ?_
    unfold wpY_column
    exact la_Yg2 hL ha (la_t1 (br_t n0 ⟨rfl, la_mk hI⟩))
  refine br_f n0 ?_
  by_cases n3 : v3 ≤ 3
  · refine br_t n3 ?_
    rcases la_ci hL ha v2 with hb | ⟨i, hi, rfl⟩
    · refine la_Xh1 hL ha hb (la_t1 ?_)
      unfold wpY_column
      dsimp only
      rw [nI_clamp (n := a) (by omega), e]
      refine la_Yg2 hL ha (la_t1 (br_f n0 (br_t n3 ?_)))
      by_cases z : v2 < 0
      · exact br_t z ⟨rfl, la_mk hI⟩
      · exact br_f z ⟨va, br_t (hb.resolve_left z) ⟨rfl, la_mk hI⟩⟩
    · have ok := hI.2.2.2.2.1 a ha i hi
      unfold la_ok at ok
      refine la_Xh2 hL ha hi (la_t2 (la_Xit (by omega) (la_Xnum (la_pb (fun z => ?_) (fun z => ?_)))))
      · unfold wpY_column
        dsimp only
        rw [nI_clamp (n := a) (by omega), e]
        refine la_Yg2 hL ha (la_t1 (br_f n0 (br_t n3 (br_f (nI_pos (by omega)) ⟨va, br_f (nI_ge hi (by omega)) ?_⟩))))
        rw [la_iy, nI_clamp (n := 8 * a + i) (by omega)]
        exact ⟨vp_in_nI (by omega) (by omega), br_f (by rw [la_le, la_k1000]; omega) ⟨rfl, la_mk hI⟩⟩
      · have nu : (la_nu it i a).toInt = (it (8 * a + i)).toInt - 1000 := la_s1000 (by omega) (by omega)
        have kn := la_mnE (la_al s it a) (la_nu it i) ha (la_al_r s it a) (y := 1000) (by rw [la_k1000]; omega)
        have kg := la_mgE (la_al s it a) (la_nu it i) ha (la_al_r s it a) (y := -1) (by rw [la_km1]; omega)
        have ky : ∀ (post : Int32 → Prop), (v3 = 0 → post (la_fo (la_mn (la_al s it a) (la_nu it i)) 0 c (la_nu it i a))) → (¬ v3 = 0 → v3 = 1 → post (la_fo (la_mg (la_al s it a) (la_nu it i)) 0 c (la_nu it i a))) → (¬ v3 = 0 → ¬ v3 = 1 → v3 = 2 → post (la_fo (la_sm (la_al s it a) (la_nu it i)) 0 c 0)) → (¬ v3 = 0 → ¬ v3 = 1 → ¬ v3 = 2 → post (la_fo (la_df (fun l => la_al s it a l ∧ la_nw s it i l)) 0 c 0)) → wpY_column post (nI c, nI d, nI p, t, s, it, dr, pa, tb) (nI a) (nI i) v3 := by
          intro post h0 h1 h2 h3
          rw [kn] at h0
          rw [kg] at h1
          unfold wpY_column
          dsimp only
          rw [nI_clamp (n := a) (by omega), e, la_iy, nI_clamp (n := 8 * a + i) (by omega)]
          refine la_Yg2 hL ha (la_t1 (br_f n0 (br_t n3 (br_f (nI_pos (by omega)) ⟨va, br_f (nI_ge hi (by omega)) ⟨vp_in_nI (by omega) (by omega), br_t (by rw [la_le, la_k1000]; omega) ⟨c + 1, ?_⟩⟩⟩))))
          exact la_Yco hL ha (by omega) c 0 1000 (-1) 0 0 (by omega) h0 h1 h2 h3
        refine br_f n0 (br_c (fun w => la_Xdf hL ha (by omega) ?_) (fun w => br_c (fun w0 => la_Xmn hL ha (by omega) ?_) (fun w0 => br_c (fun w1 => la_Xmg hL ha (by omega) ?_) (fun w1 => br_c (fun w2 => la_Xsm hL ha (by omega) ?_) (fun _ => trivial)))))
        · refine ky _ ?_ ?_ ?_ (fun _ _ _ => ⟨rfl, la_mk hI⟩)
          · intro q; rw [q] at w; exact absurd w (by decide)
          · intro _ q; rw [q] at w; exact absurd w (by decide)
          · intro _ _ q; rw [q] at w; exact absurd w (by decide)
        · exact ky _ (fun _ => ⟨rfl, la_mk hI⟩) (fun z => absurd w0 z) (fun z => absurd w0 z) (fun z => absurd w0 z)
        · exact ky _ (fun z => absurd z w0) (fun _ _ => ⟨rfl, la_mk hI⟩) (fun _ z => absurd w1 z) (fun _ z => absurd w1 z)
        · exact ky _ (fun z => absurd z w0) (fun _ z => absurd z w1) (fun _ _ _ => ⟨rfl, la_mk hI⟩) (fun _ _ z => absurd w2 z)
  · refine br_f n3 ?_
    unfold wpY_column
    exact la_Yg2 hL ha (la_t1 (br_f n0 (br_f n3 ⟨rfl, la_mk hI⟩)))
end
section
theorem la_fi_sp (s it : Nat → Int32) (i : Nat) : la_al s it i (la_fi s it i) ∧ ∀ j, j < la_fi s it i → ¬ la_al s it i j := by
  unfold la_fi
  rcases la_ss (fun j => la_al s it i j) i i 0 with ⟨k, e1, e2, e3, e4, e5⟩ | ⟨e1, e2⟩
  · rw [e1]
    exact ⟨e4, fun j hj => e5 j (by omega) hj⟩
  · rw [e1]
    exact ⟨la_al_r s it i, fun j hj => e2 j (by omega) (by omega)⟩
theorem la_fi_eq {s it : Nat → Int32} {a b : Nat} (h : la_al s it a b) : la_fi s it a = la_fi s it b := by
  obtain ⟨a1, a2⟩ := la_fi_sp s it a
  obtain ⟨b1, b2⟩ := la_fi_sp s it b
  rcases Nat.lt_trichotomy (la_fi s it a) (la_fi s it b) with q | q | q
  · exact absurd (la_al_t (la_al_s h) a1) (b2 _ q)
  · exact q
  · exact absurd (la_al_t h b1) (a2 _ q)
noncomputable def la_G (s it : Nat → Int32) (l j : Nat) : Nat := la_cn (fun i => la_fi s it i = j) 0 l
theorem la_G_0 (s it : Nat → Int32) {l j : Nat} (h : l ≤ j) : la_G s it l j = 0 := by
  refine la_cn_0 _ l 0 (fun i a b => ?_)
  have q := la_fi_le s it i
  omega
theorem la_G_t {s it : Nat → Int32} {l j : Nat} (h : la_fi s it l = j) : la_G s it (l + 1) j = la_G s it l j + 1 := by
  unfold la_G
  rw [la_cn_add, la_cn_t (by rw [Nat.zero_add]; exact h)]
  rfl
theorem la_G_f {s it : Nat → Int32} {l j : Nat} (h : ¬ la_fi s it l = j) : la_G s it (l + 1) j = la_G s it l j := by
  unfold la_G
  rw [la_cn_add, la_cn_f (by rw [Nat.zero_add]; exact h)]
  rfl
theorem la_G_le (s it : Nat → Int32) (l j : Nat) : la_G s it l j ≤ l := la_cn_le _ l 0
theorem la_G_1 {s it : Nat → Int32} {c j : Nat} (h : la_fi s it j = j) : la_G s it c j = la_sz c s it j := by
  refine la_cn_c _ _ c 0 (fun i a b => ⟨fun q => ?_, fun q => ?_⟩)
  · have w := (la_fi_sp s it i).1
    rw [q] at w
    exact la_al_s w
  · rw [← la_fi_eq q]
    exact h
theorem la_G_2 {s it : Nat → Int32} {c j : Nat} (h : ¬ la_fi s it j = j) : la_G s it c j = 0 := by
  refine la_cn_0 _ c 0 (fun i a b q => ?_)
  have w := (la_fi_sp s it i).1
  rw [q] at w
  have e := la_fi_eq w
  rw [q] at e
  exact h e.symm
theorem la_sz_le (c : Nat) (s it : Nat → Int32) (l : Nat) : la_sz c s it l ≤ c := la_cn_le _ c 0
theorem la_sz_pos {c : Nat} {s it : Nat → Int32} {l : Nat} (h : l < c) : 0 < la_sz c s it l := la_cn_pos _ c 0 l (by omega) (by omega) (la_al_r s it l)
theorem la_Xme {c d p : Nat} {t s it dr pa : Nat → Int32} {post : SX → Prop} (hL : la_L c s) (h : ∀ gs, (∀ j, j < c → gs j = nI (la_G s it c j)) → post (nI c, nI d, nI p, t, s, it, dr, pa, gs)) : ∀ m l gs, l + m = c → (∀ j, j < l → gs j = nI (la_G s it l j)) → wX_measureGroups_2 post (nI c) (nI d) (nI p) (m + 1) (nI l) t s it dr pa gs := by
  have hc := hL.1
  intro m
  induction m with
  | zero =>
    intro l gs hl hg
    have q : l = c := by omega
    subst q
    rw [wX_measureGroups_2]
    exact br_t (nI_le (by omega) (by omega)) (h gs hg)
  | succ m ih =>
    intro l gs hl hg
    have fl := la_fi_le s it l
    rw [wX_measureGroups_2]
    dsimp only
    rw [nI_clamp (n := l) (by omega)]
    refine br_f (nI_ge (by omega) (by omega)) ⟨vp_in_nI (by omega) (by omega), fun g3 e3 => la_Xfi hL (by omega) ?_⟩
    have vr : vp_in (nI (la_fi s it l)) 60 := vp_in_nI (by omega) (by omega)
    rw [nI_clamp (n := la_fi s it l) (by omega)]
    refine ⟨vr, vr, fun g16 e16 => nm_r (nI_1 l) (ih (l + 1) g16 (by omega) (fun j hj => ?_))⟩
    have e4 : g3 j = nI (la_G s it l j) := by
      rw [e3]
      by_cases q : j = l
      · rw [q, pk_us, la_G_0 s it (Nat.le_refl l)]; rfl
      · rw [pk_un q]; exact hg j (by omega)
    rw [e16]
    by_cases q : j = la_fi s it l
    · rw [← q, pk_us, e4, nI_1, la_G_t q.symm]
    · rw [pk_un q, e4, la_G_f (fun w => q w.symm)]
noncomputable def la_ah (s it : Nat → Int32) (c l : Nat) : Nat := la_cn (fun o => la_G s it c l < la_G s it c o ∨ (la_G s it c o = la_G s it c l ∧ o < l)) 0 c
theorem la_Xah {c d p : Nat} {t s it dr pa gs : Nat → Int32} {l : Nat} {post : Int32 → Prop} (hL : la_L c s) (hg : ∀ j, j < c → gs j = nI (la_G s it c j)) (hl : l < c) (h : post (nI (la_ah s it c l))) : wpX_groupsAhead post (nI c, nI d, nI p, t, s, it, dr, pa, gs) (nI l) := by
  have hc := hL.1
  have vl : vp_in (nI l) 60 := vp_in_nI (by omega) (by omega)
  have gl := la_G_le s it c l
  unfold wpX_groupsAhead
  dsimp only
  rw [nI_clamp (n := l) (by omega), hg l hl]
  refine ⟨vl, nm_e ⟨c - 0 + 1, ?_⟩⟩
  refine la_cl0 (fun n x y => wX_groupsAhead_12 post (nI l) (nI (la_G s it c l)) (nI c) (nI d) (nI p) t s it dr pa gs n x y) post c (fun o => la_G s it c l < la_G s it c o ∨ (la_G s it c o = la_G s it c l ∧ o < l)) ?_ ?_ 0 (by omega) h
  · intro n x hp
    show wX_groupsAhead_12 post (nI l) (nI (la_G s it c l)) (nI c) (nI d) (nI p) t s it dr pa gs (n + 1) x (nI c)
    rw [wX_groupsAhead_12]
    exact br_t (nI_le (by omega) (by omega)) hp
  · intro n x o ho f g
    have vo : vp_in (nI o) 60 := vp_in_nI (by omega) (by omega)
    have go := la_G_le s it c o
    show wX_groupsAhead_12 post (nI l) (nI (la_G s it c l)) (nI c) (nI d) (nI p) t s it dr pa gs (n + 1) x (nI o)
    rw [wX_groupsAhead_12]
    dsimp only
    rw [nI_clamp (n := o) (by omega), hg o ho]
    exact br_f (nI_ge ho (by omega)) ⟨vo, pk_lt (la_G s it c l) (la_G s it c o) (fun a => nm_e (nm_r (nI_1 o) (f (Or.inl a)))) (fun a => ⟨vo, pk_eq (la_G s it c o) (la_G s it c l) (fun b => pk_le l o (fun e => nm_r (nI_1 o) (g (by omega))) (fun e => nm_e (nm_r (nI_1 o) (f (Or.inr ⟨b, e⟩))))) (fun b => nm_r (nI_1 o) (g (by omega)))⟩)⟩
def la_PX (s it : Nat → Int32) (c : Nat) (v : Int32) (l : Nat) : Prop := 0 < la_G s it c l ∧ nI (la_ah s it c l) = v
theorem la_Xla {c d p : Nat} {t s it dr pa gs : Nat → Int32} {v : Int32} {post : Int32 → SX → Prop} (hL : la_L c s) (hg : ∀ j, j < c → gs j = nI (la_G s it c j)) (h : post (la_se (la_PX s it c v) nI (-2) 0 c) (nI c, nI d, nI p, t, s, it, dr, pa, gs)) : ∃ n, wX_largest_6 post v (nI c) (nI d) (nI p) t s it dr pa gs n 0 := by
  have hc := hL.1
  refine ⟨c + 1, ?_⟩
  refine la_sl (fun n x => wX_largest_6 post v (nI c) (nI d) (nI p) t s it dr pa gs n x) (fun r => post r (nI c, nI d, nI p, t, s, it, dr, pa, gs)) c (la_PX s it c v) nI (-2) ?_ ?_ c 0 (by omega) h
  · intro n hp
    show wX_largest_6 post v (nI c) (nI d) (nI p) t s it dr pa gs (n + 1) (nI c)
    rw [wX_largest_6]
    exact br_t (nI_le (by omega) (by omega)) hp
  · intro n l hl f g
    have vl : vp_in (nI l) 60 := vp_in_nI (by omega) (by omega)
    have gl := la_G_le s it c l
    show wX_largest_6 post v (nI c) (nI d) (nI p) t s it dr pa gs (n + 1) (nI l)
    rw [wX_largest_6]
    dsimp only
    rw [nI_clamp (n := l) (by omega), hg l hl]
    exact br_f (nI_ge hl (by omega)) ⟨vl, pk_le (la_G s it c l) 0 (fun a => nm_r (nI_1 l) (g (fun q => by have := q.1; omega))) (fun a => la_Xah hL hg hl (br_c (fun b => f ⟨a, b⟩) (fun b => nm_r (nI_1 l) (g (fun q => b q.2)))))⟩
def la_Q (s it : Nat → Int32) (c l o : Nat) : Prop := o ≠ l ∧ la_fi s it o = o ∧ (la_sz c s it l < la_sz c s it o ∨ (la_sz c s it o = la_sz c s it l ∧ o < l))
def la_PY (s it : Nat → Int32) (c : Nat) (v : Int32) (l : Nat) : Prop := la_fi s it l = l ∧ nI (la_cn (la_Q s it c l) 0 c) = v
theorem la_Yla {c d p : Nat} {t s it dr pa tb : Nat → Int32} {v : Int32} {post : Int32 → Prop} (hL : la_L c s) (h : post (la_se (la_PY s it c v) nI (-2) 0 c)) : wpY_largest post (nI c, nI d, nI p, t, s, it, dr, pa, tb) v := by
  have hc := hL.1
  unfold wpY_largest
  refine ⟨c + 1, ?_⟩
  refine la_sl (fun n x => wY_largest_2 post v (nI c) (nI d) (nI p) t s it dr pa tb n x) post c (la_PY s it c v) nI (-2) ?_ ?_ c 0 (by omega) h
  · intro n hp
    show wY_largest_2 post v (nI c) (nI d) (nI p) t s it dr pa tb (n + 1) (nI c)
    rw [wY_largest_2]
    exact br_t (nI_le (by omega) (by omega)) hp
  · intro n l hl f g
    have fl := la_fi_le s it l
    have sl := la_sz_le c s it l
    show wY_largest_2 post v (nI c) (nI d) (nI p) t s it dr pa tb (n + 1) (nI l)
    rw [wY_largest_2]
    refine br_f (nI_ge hl (by omega)) ⟨c - 0 + 1, ?_⟩
    refine la_cl0 (fun m x y => wY_largest_15 post (wY_largest_2 post v (nI c) (nI d) (nI p) t s it dr pa tb n) v (nI l) (nI c) (nI d) (nI p) t s it dr pa tb m x y) (fun x => (la_fi s it l = l → (x = v → post (nI l)) ∧ (¬ x = v → wY_largest_2 post v (nI c) (nI d) (nI p) t s it dr pa tb n (nI (l + 1)))) ∧ (¬ la_fi s it l = l → wY_largest_2 post v (nI c) (nI d) (nI p) t s it dr pa tb n (nI (l + 1)))) c (la_Q s it c l) ?_ ?_ 0 (by omega) ?_
    · intro m x hp
      show wY_largest_15 post (wY_largest_2 post v (nI c) (nI d) (nI p) t s it dr pa tb n) v (nI l) (nI c) (nI d) (nI p) t s it dr pa tb (m + 1) x (nI c)
      rw [wY_largest_15]
      refine br_t (nI_le (by omega) (by omega)) (la_Yfi hL hl (pk_eq (la_fi s it l) l (fun a => br_c (hp.1 a).1 (fun b => nm_r (nI_1 l) ((hp.1 a).2 b))) (fun a => nm_r (nI_1 l) (hp.2 a))))
    · intro m x o ho f g
      have fo := la_fi_le s it o
      have so := la_sz_le c s it o
      show wY_largest_15 post (wY_largest_2 post v (nI c) (nI d) (nI p) t s it dr pa tb n) v (nI l) (nI c) (nI d) (nI p) t s it dr pa tb (m + 1) x (nI o)
      rw [wY_largest_15]
      unfold wY_largest_45 wY_largest_46
      refine br_f (nI_ge ho (by omega)) (pk_eq o l (fun a => la_t1 (nm_r (nI_1 o) (g (fun q => q.1 a)))) (fun a => la_Yfi hL ho (pk_eq (la_fi s it o) o (fun b => la_t2 ?_) (fun b => la_t1 (nm_r (nI_1 o) (g (fun q => b q.2.1)))))))
      refine la_Ysz hL ho (la_Ysz hL hl (pk_lt (la_sz c s it l) (la_sz c s it o) (fun e => nm_e (nm_r (nI_1 o) (f ⟨a, b, Or.inl e⟩))) (fun e => la_Ysz hL ho (la_Ysz hL hl (pk_eq (la_sz c s it o) (la_sz c s it l) (fun e2 => pk_le l o (fun e3 => nm_r (nI_1 o) (g (fun q => ?_))) (fun e3 => nm_e (nm_r (nI_1 o) (f ⟨a, b, Or.inr ⟨e2, e3⟩⟩)))) (fun e2 => nm_r (nI_1 o) (g (fun q => ?_))))))))
      · have := q.2.2
        omega
      · have := q.2.2
        omega
    · exact ⟨fun a => ⟨fun b => f ⟨a, b⟩, fun b => g (fun q => b q.2)⟩, fun a => g (fun q => a q.1)⟩
theorem la_PXY {s it : Nat → Int32} {c l : Nat} {v : Int32} (hl : l < c) : la_PX s it c v l ↔ la_PY s it c v l := by
  unfold la_PX la_PY
  by_cases h : la_fi s it l = l
  · have p1 : 0 < la_sz c s it l := la_sz_pos hl
    rw [la_G_1 h]
    have e : la_ah s it c l = la_cn (la_Q s it c l) 0 c := by
      unfold la_ah
      refine la_cn_c _ _ c 0 (fun o _ ho => ?_)
      unfold la_Q
      rw [la_G_1 h]
      by_cases q : la_fi s it o = o
      · rw [la_G_1 q]
        constructor
        · intro w
          refine ⟨fun k => ?_, q, w⟩
          subst k
          omega
        · intro w
          exact w.2.2
      · rw [la_G_2 q]
        constructor
        · intro w; omega
        · intro w; exact absurd w.2.1 q
    rw [e]
    exact ⟨fun q => ⟨h, q.2⟩, fun q => ⟨p1, q.2⟩⟩
  · rw [la_G_2 h]
    exact ⟨fun q => absurd q.1 (by omega), fun q => absurd q.1 h⟩
theorem i_vc_largest {k : Nat} {u : SX} {v : SY} (I : i_Rel k u v) (hk : k + 4 ≤ 2048) (v1 : Int32) : wpX_largest (fun r u' => wpY_largest (fun r' => r' = r ∧ i_Rel (k + 4) u' v) v v1) u v1 := by
  obtain ⟨c, d, p, t, s, it, dr, pa, gs, tb, rfl, rfl, hI⟩ := I
  have hL := hI.1
  unfold wpX_largest wpX_measureGroups
  dsimp only
  refine ⟨c + 1, la_Xme hL (fun gs' hg => ?_) c 0 gs (by omega) (fun j hj => by omega)⟩
  refine la_Xla hL hg (la_Yla hL ⟨?_, la_mk hI⟩)
  exact (la_sc _ _ _ _ c 0 (fun j _ hj => la_PXY (by omega))).symm
end
section
theorem la_b1 (i : Nat) : bt 1 i = decide (i = 0) := by
  rcases Nat.lt_or_ge i 32 with h | h
  · exact (by decide +kernel : ∀ i, i < 32 → bt 1 i = decide (i = 0)) i h
  · rw [b_big h, decide_eq_false (by omega)]
theorem la_and1 (y : Int32) : y &&& 1 = 1 ↔ bt y 0 = true := by
  constructor
  · intro h
    have q : bt (y &&& 1) 0 = true := by rw [h]; rfl
    rw [b_and] at q
    simp at q
    exact q.1
  · intro h
    apply b_ext
    intro i hi
    rw [b_and, la_b1]
    by_cases z : i = 0
    · rw [z, h]; rfl
    · rw [decide_eq_false z, Bool.and_false]
theorem la_Xset {x : Int32} {i : Nat} {post : Int32 → Prop} (hi : i < 32) (h : post (la_pI (bt x i = true))) : wpX_isSet post x (nI i) := by
  unfold wpX_isSet
  rw [la_and1, b_sshr i hi x (by omega), if_pos (by omega), Nat.add_zero]
  exact br_c (fun z => la_p1 h z) (fun z => la_p0 h z)
theorem la_or1 (x : Int32) {i j : Nat} (hi : i < 32) (hj : j < 32) : bt (x ||| ((1 : Int32) <<< (nI i &&& 31))) j = true ↔ (bt x j = true ∨ j = i) := by
  rw [b_or, b_shl i hi 1 hj, la_b1, Bool.or_eq_true, Bool.and_eq_true, decide_eq_true_iff, decide_eq_true_iff]
  constructor
  · rintro (h | h)
    · exact Or.inl h
    · exact Or.inr (by omega)
  · rintro (h | h)
    · exact Or.inl h
    · exact Or.inr (by omega)
def la_mt (x q : Int32) : Prop := q = 2000 ∨ (¬ q = 2000 ∧ q = 2001 ∧ ¬ x < 1000) ∨ (¬ q = 2000 ∧ ¬ q = 2001 ∧ q < 3000 ∧ x = q) ∨ (¬ q = 2000 ∧ ¬ q = 2001 ∧ ¬ q < 3000 ∧ ¬ x - 1000 ≤ q - 3000)
theorem la_Ymt {c d p : Nat} {t s it dr pa tb : Nat → Int32} {x q : Int32} {post : Int32 → Prop} (h : post (la_pI (la_mt x q))) : wpY_meets post (nI c, nI d, nI p, t, s, it, dr, pa, tb) x q := by
  unfold wpY_meets
  dsimp only
  refine br_c (fun a => la_p1 h (Or.inl a)) (fun a => br_c (fun b => br_c (fun e => la_p0 h ?_) (fun e => la_p1 h (Or.inr (Or.inl ⟨a, b, e⟩)))) (fun b => br_c (fun e => br_c (fun f => la_p1 h (Or.inr (Or.inr (Or.inl ⟨a, b, e, f⟩)))) (fun f => la_p0 h ?_)) (fun e => br_c (fun f => la_p0 h ?_) (fun f => la_p1 h (Or.inr (Or.inr (Or.inr ⟨a, b, e, f⟩)))))))
  · rintro (z | ⟨_, _, z⟩ | ⟨_, z, _⟩ | ⟨_, z, _⟩)
    · exact a z
    · exact z e
    · exact z b
    · exact z b
  · rintro (z | ⟨_, z, _⟩ | ⟨_, _, _, z⟩ | ⟨_, _, z, _⟩)
    · exact a z
    · exact b z
    · exact f z
    · exact z e
  · rintro (z | ⟨_, z, _⟩ | ⟨_, _, z, _⟩ | ⟨_, _, _, z⟩)
    · exact a z
    · exact b z
    · exact e z
    · exact z f
theorem la_Xmt {x q : Int32} {post : Int32 → Prop} (hx : la_ok x) (hq : la_okp q) (h : post (la_pI (la_mt x q))) : wpX_takes post q x := by
  unfold wpX_takes
  have h' : ∀ P : Prop, (P ↔ la_mt x q) → post (la_pI P) := by
    intro P hP
    rw [la_pc hP]
    exact h
  unfold la_okp la_ok at hq
  unfold la_ok at hx
  refine br_c (fun a => la_p1 h (Or.inl a)) (fun a => br_c (fun b => la_Xnum ⟨la_pn _, h' _ ?_⟩) (fun b => la_Xabv (la_pb (fun e => br_c (fun f => la_p1 h ?_) (fun f => la_p0 h ?_)) (fun e => la_Xnum (la_pb (fun f => la_p0 h ?_) (fun f => br_c (fun g => la_p0 h ?_) (fun g => la_p1 h ?_)))))))
  · constructor
    · intro z
      exact Or.inr (Or.inl ⟨a, b, by rw [la_lt, la_k1000]; omega⟩)
    · rintro (z | ⟨_, _, z⟩ | ⟨_, z, _⟩ | ⟨_, z, _⟩)
      · exact absurd z a
      · rw [la_lt, la_k1000] at z; omega
      · exact absurd b z
      · exact absurd b z
  · refine Or.inr (Or.inr (Or.inl ⟨a, b, ?_, f.symm⟩))
    rw [la_lt, la_k3000]; omega
  · rintro (z | ⟨_, z, _⟩ | ⟨_, _, _, z⟩ | ⟨_, _, z, _⟩)
    · exact a z
    · exact b z
    · exact f z.symm
    · rw [la_lt, la_k3000] at z; omega
  · rintro (z | ⟨_, z, _⟩ | ⟨_, _, z, _⟩ | ⟨_, _, _, z⟩)
    · exact a z
    · exact b z
    · rw [la_lt, la_k3000] at z; omega
    · rw [la_le, la_s1000 (by omega) (by omega), la_s3000 (by omega) (by omega)] at z
      omega
  · rintro (z | ⟨_, z, _⟩ | ⟨_, _, z, _⟩ | ⟨_, _, _, z⟩)
    · exact a z
    · exact b z
    · rw [la_lt, la_k3000] at z; omega
    · exact z g
  · refine Or.inr (Or.inr (Or.inr ⟨a, b, ?_, g⟩))
    rw [la_lt, la_k3000]; omega
/-- the last a of the np parts can take the items from j on -/
def la_T (n np : Nat) (pa iu : Nat → Int32) : Nat → Nat → Prop
  | 0, j => j = n
  | a + 1, j => (pa (np - (a + 1)) = 2002 ∧ ∃ j', j ≤ j' ∧ j' ≤ n ∧ la_T n np pa iu a j') ∨ (¬ pa (np - (a + 1)) = 2002 ∧ j < n ∧ la_mt (iu j) (pa (np - (a + 1))) ∧ la_T n np pa iu a (j + 1))
/-- the first q parts can take just the first j items -/
def la_E (pa iu : Nat → Int32) : Nat → Nat → Prop
  | 0, j => j = 0
  | q + 1, j => (pa q = 2002 ∧ ∃ j', j' ≤ j ∧ la_E pa iu q j') ∨ (¬ pa q = 2002 ∧ ∃ j', j = j' + 1 ∧ la_E pa iu q j' ∧ la_mt (iu j') (pa q))
theorem la_ET (n np : Nat) (pa iu : Nat → Int32) : ∀ q, q ≤ np → ((∃ j, j ≤ n ∧ la_E pa iu q j ∧ la_T n np pa iu (np - q) j) ↔ la_T n np pa iu np 0) := by
  intro q
  induction q with
  | zero =>
    intro _
    constructor
    · rintro ⟨j, a, b, d⟩
      have e : j = 0 := b
      rw [e] at d
      exact d
    · intro h
      exact ⟨0, by omega, rfl, h⟩
  | succ q ih =>
    intro hq
    rw [← ih (by omega)]
    have e1 : np - q = (np - (q + 1)) + 1 := by omega
    have e2 : np - ((np - (q + 1)) + 1) = q := by omega
    rw [e1]
    generalize np - (q + 1) = a at e2
    constructor
    · rintro ⟨j, hj, hE, hT⟩
      rcases hE with ⟨r, j', hj', hE⟩ | ⟨r, j', hj', hE, hm⟩
      · refine ⟨j', by omega, hE, Or.inl ⟨by rw [e2]; exact r, j, hj', hj, hT⟩⟩
      · refine ⟨j', by omega, hE, Or.inr ⟨by rw [e2]; exact r, by omega, by rw [e2]; exact hm, ?_⟩⟩
        rw [← hj']
        exact hT
    · rintro ⟨j, hj, hE, hT⟩
      rcases hT with ⟨r, j', h1, h2, hT⟩ | ⟨r, h1, hm, hT⟩
      · rw [e2] at r
        exact ⟨j', h2, Or.inl ⟨r, j, h1, hE⟩, hT⟩
      · rw [e2] at r hm
        exact ⟨j + 1, by omega, Or.inr ⟨r, j, rfl, hE, hm⟩, hT⟩
theorem la_ETn (n np : Nat) (pa iu : Nat → Int32) : la_E pa iu np n ↔ la_T n np pa iu np 0 := by
  rw [← la_ET n np pa iu np (Nat.le_refl np), Nat.sub_self]
  constructor
  · intro h
    exact ⟨n, Nat.le_refl n, h, rfl⟩
  · rintro ⟨j, _, hE, hT⟩
    have e : j = n := hT
    rw [e] at hE
    exact hE
theorem la_Xer {c d p : Nat} {t s it dr pa gs : Nat → Int32} {l : Nat} {x : Int32} {post : Int32 → Prop} (hL : la_L c s) (hl : l < c) (h : ∀ y, (∀ j, j ≤ la_n s l → (bt y j = true ↔ ∃ j', j' ≤ j ∧ bt x j' = true)) → post y) : wpX_endsAfterRow post (nI c, nI d, nI p, t, s, it, dr, pa, gs) (nI l) x := by
  have hc := hL.1
  obtain ⟨e, l1, l8⟩ := hL.2 l hl
  have vl : vp_in (nI l) 60 := vp_in_nI (by omega) (by omega)
  have cl : (nI l).toNatClampNeg = l := nI_clamp (by omega)
  have key : ∀ m i y, i + m = la_n s l → (∀ j, j ≤ la_n s l → (bt y j = true ↔ (bt x j = true ∨ (j ≤ i ∧ ∃ j', j' ≤ j ∧ bt x j' = true)))) → wX_endsAfterRow_5 post (nI l) (nI c) (nI d) (nI p) t s it dr pa gs (m + 1) y (nI i) := by
    intro m
    induction m with
    | zero =>
      intro i y hi hy
      rw [wX_endsAfterRow_5]
      dsimp only
      rw [cl]
      refine ⟨vl, br_t (by rw [e]; exact nI_le (by omega) (by omega)) (h y (fun j hj => ?_))⟩
      rw [hy j hj]
      constructor
      · rintro (q | q)
        · exact ⟨j, Nat.le_refl j, q⟩
        · exact q.2
      · intro q
        exact Or.inr ⟨by omega, q⟩
    | succ m ih =>
      intro i y hi hy
      have hyi := hy i (by omega)
      rw [wX_endsAfterRow_5]
      dsimp only
      rw [cl, nI_1]
      refine ⟨vl, br_f (by rw [e]; exact nI_ge (by omega) (by omega)) (la_Xset (by omega) (la_pb (fun z => nm_e (ih (i + 1) y (by omega) (fun j hj => ?_))) (fun z => nm_e (nm_e (ih (i + 1) _ (by omega) (fun j hj => ?_))))))⟩
      · rw [hy j hj]
        rw [hyi] at z
        constructor
        · rintro (q | q)
          · exact Or.inl q
          · exact Or.inr ⟨by omega, q.2⟩
        · rintro (q | ⟨q, j', a, b⟩)
          · exact Or.inl q
          · by_cases w : j ≤ i
            · exact Or.inr ⟨w, j', a, b⟩
            · by_cases w2 : j' = j
              · rw [w2] at b; exact Or.inl b
              · exact absurd (Or.inr ⟨Nat.le_refl i, j', by omega, b⟩) z
      · rw [la_or1 y (by omega) (by omega), hy j hj]
        rw [hyi] at z
        constructor
        · rintro ((q | q) | q)
          · exact Or.inl q
          · exact Or.inr ⟨by omega, q.2⟩
          · refine Or.inr ⟨by omega, ?_⟩
            rcases z with z | ⟨_, j', a, b⟩
            · exact ⟨i, by omega, z⟩
            · exact ⟨j', by omega, b⟩
        · rintro (q | ⟨q, j', a, b⟩)
          · exact Or.inl (Or.inl q)
          · by_cases w : j ≤ i
            · exact Or.inl (Or.inr ⟨w, j', a, b⟩)
            · exact Or.inr (by omega)
  unfold wpX_endsAfterRow
  refine ⟨la_n s l + 1, key (la_n s l) 0 x (by omega) (fun j hj => ⟨fun q => Or.inl q, ?_⟩)⟩
  rintro (q | ⟨q, j', a, b⟩)
  · exact q
  · rw [show j = j' from by omega]; exact b
theorem la_Xeo {c d p : Nat} {t s it dr pa gs : Nat → Int32} {l : Nat} {x v : Int32} {post : Int32 → Prop} (hL : la_L c s) (hl : l < c) (hk : ∀ i, i < la_n s l → la_ok (it (8 * l + i))) (hv : la_okp v) (h : ∀ y, (∀ j, j ≤ la_n s l → (bt y j = true ↔ ∃ j', j = j' + 1 ∧ bt x j' = true ∧ la_mt (it (8 * l + j')) v)) → post y) : wpX_endsAfterOne post (nI c, nI d, nI p, t, s, it, dr, pa, gs) (nI l) x v := by
  have hc := hL.1
  obtain ⟨e, l1, l8⟩ := hL.2 l hl
  have vl : vp_in (nI l) 60 := vp_in_nI (by omega) (by omega)
  have cl : (nI l).toNatClampNeg = l := nI_clamp (by omega)
  have key : ∀ m i y, i + m = la_n s l → (∀ j, j ≤ la_n s l → (bt y j = true ↔ (∃ j', j = j' + 1 ∧ j' < i ∧ bt x j' = true ∧ la_mt (it (8 * l + j')) v))) → wX_endsAfterOne_6 post (nI l) x v (nI c) (nI d) (nI p) t s it dr pa gs (m + 1) y (nI i) := by
    intro m
    induction m with
    | zero =>
      intro i y hi hy
      rw [wX_endsAfterOne_6]
      dsimp only
      rw [cl]
      refine ⟨vl, br_t (by rw [e]; exact nI_le (by omega) (by omega)) (h y (fun j hj => ?_))⟩
      rw [hy j hj]
      constructor
      · rintro ⟨j', a, _, b⟩
        exact ⟨j', a, b⟩
      · rintro ⟨j', a, b⟩
        exact ⟨j', a, by omega, b⟩
    | succ m ih =>
      intro i y hi hy
      have no : ¬ (bt x i = true ∧ la_mt (it (8 * l + i)) v) → wX_endsAfterOne_6 post (nI l) x v (nI c) (nI d) (nI p) t s it dr pa gs (m + 1) y (nI (i + 1)) := by
        intro z
        refine ih (i + 1) y (by omega) (fun j hj => ?_)
        rw [hy j hj]
        constructor
        · rintro ⟨j', a, b, q⟩
          exact ⟨j', a, by omega, q⟩
        · rintro ⟨j', a, b, q⟩
          refine ⟨j', a, ?_, q⟩
          by_cases w : j' = i
          · rw [w] at q; exact absurd q z
          · omega
      rw [wX_endsAfterOne_6]
      dsimp only
      rw [cl, nI_1]
      refine ⟨vl, br_f (by rw [e]; exact nI_ge (by omega) (by omega)) (la_Xit (by omega) (la_Xset (by omega) (la_pb (fun z => nm_e (no (fun q => z q.1))) (fun z => la_Xmt (hk i (by omega)) hv (la_pb (fun w => nm_e (no (fun q => w q.2))) (fun w => nm_e (nm_e (ih (i + 1) _ (by omega) (fun j hj => ?_)))))))))⟩
      rw [la_or1 y (by omega) (by omega), hy j hj]
      constructor
      · rintro (⟨j', a, b, q⟩ | q)
        · exact ⟨j', a, by omega, q⟩
        · exact ⟨i, q, by omega, z, w⟩
      · rintro ⟨j', a, b, q⟩
        by_cases k : j' = i
        · exact Or.inr (by omega)
        · exact Or.inl ⟨j', a, by omega, q⟩
  unfold wpX_endsAfterOne
  refine ⟨la_n s l + 1, key (la_n s l) 0 0 (by omega) (fun j hj => ?_)⟩
  rw [b_0]
  constructor
  · intro q; exact absurd q (by decide)
  · rintro ⟨j', _, q, _⟩; omega
def la_ft (p : Nat) (pa s it : Nat → Int32) (l : Nat) : Prop := la_T (la_n s l) p pa (fun j => it (8 * l + j)) p 0
theorem la_Xft {c d p : Nat} {t s it dr pa gs : Nat → Int32} {l : Nat} {post : Int32 → Prop} (hI : la_Inv c d p t s it dr pa) (hl : l < c) (h : post (la_pI (la_ft p pa s it l))) : wpX_fits post (nI c, nI d, nI p, t, s, it, dr, pa, gs) (nI l) := by
  obtain ⟨hL, _, hp, _, hk, _, hq⟩ := hI
  have hk := hk l hl
  have hc := hL.1
  obtain ⟨e, l1, l8⟩ := hL.2 l hl
  have vl : vp_in (nI l) 60 := vp_in_nI (by omega) (by omega)
  have cl : (nI l).toNatClampNeg = l := nI_clamp (by omega)
  have key : ∀ m q x, q + m = p → (∀ j, j ≤ la_n s l → (bt x j = true ↔ la_E pa (fun j => it (8 * l + j)) q j)) → wX_fits_4 post (nI l) (nI c) (nI d) (nI p) t s it dr pa gs (m + 1) x (nI q) := by
    intro m
    induction m with
    | zero =>
      intro q x hqm hx
      have qp : q = p := by omega
      rw [wX_fits_4]
      dsimp only
      rw [cl, e]
      refine br_t (nI_le (by omega) (by omega)) ⟨vl, la_Xset (by omega) ⟨la_pn _, ?_⟩⟩
      rw [la_pc (hx (la_n s l) (Nat.le_refl _)), qp, la_pc (la_ETn (la_n s l) p pa (fun j => it (8 * l + j)))]
      exact h
    | succ m ih =>
      intro q x hqm hx
      have vq : vp_in (nI q) 8 := vp_in_nI (by omega) (by omega)
      rw [wX_fits_4]
      dsimp only
      rw [nI_clamp (n := q) (by omega)]
      refine br_f (nI_ge (by omega) (by omega)) ⟨vq, br_c (fun z => la_Xer hL hl (fun y hy => nm_r (nI_1 q) (ih (q + 1) y (by omega) (fun j hj => ?_)))) (fun z => ⟨vq, la_Xeo hL hl hk (hq q (by omega)) (fun y hy => nm_r (nI_1 q) (ih (q + 1) y (by omega) (fun j hj => ?_)))⟩)⟩
      · rw [hy j hj]
        constructor
        · rintro ⟨j', a, b⟩
          exact Or.inl ⟨z, j', a, (hx j' (by omega)).mp b⟩
        · rintro (⟨_, j', a, b⟩ | ⟨w, _⟩)
          · exact ⟨j', a, (hx j' (by omega)).mpr b⟩
          · exact absurd z w
      · rw [hy j hj]
        constructor
        · rintro ⟨j', a, b, o⟩
          exact Or.inr ⟨z, j', a, (hx j' (by omega)).mp b, o⟩
        · rintro (⟨w, _⟩ | ⟨_, j', a, b, o⟩)
          · exact absurd w z
          · exact ⟨j', a, (hx j' (by omega)).mpr b, o⟩
  unfold wpX_fits
  refine ⟨p + 1, key p 0 1 (by omega) (fun j hj => ?_)⟩
  rw [la_b1, decide_eq_true_iff]
  exact Iff.rfl
end
section
def la_dn : Nat → Int32
  | 0 => -1
  | k + 1 => nI k
theorem la_dn_1 (k : Nat) : nI k + (-1) = la_dn k := by
  cases k with
  | zero => exact (by decide +kernel : nI 0 + (-1) = (-1 : Int32))
  | succ k => exact pk_m1 k
theorem la_n1 (K r : Nat) : 9 * nI K + nI r = nI (9 * K + r) := by rw [la_9, pk_mul, nI_add]
theorem la_n2 (K r : Nat) : 9 * nI K + nI r + 1 = nI (9 * K + r + 1) := by rw [la_n1, nI_1]
theorem la_n3 (K r : Nat) : 9 * nI K + 9 + nI r = nI (9 * K + 9 + r) := by rw [la_9, pk_mul, nI_add, nI_add]
theorem la_n4 (K r : Nat) : 9 * nI K + 9 + nI r + 1 = nI (9 * K + 9 + r + 1) := by rw [la_n3, nI_1]
/-- the table is right at all places from K on, and at place K - 1 from part R on -/
def la_V (p : Nat) (pa s it : Nat → Int32) (l K R : Nat) (tb : Nat → Int32) : Prop := ∀ pl r, pl ≤ la_n s l → r ≤ p → (K ≤ pl ∨ (pl + 1 = K ∧ R ≤ r)) → tb (9 * pl + r) = la_pI (la_T (la_n s l) p pa (fun j => it (8 * l + j)) (p - r) pl)
theorem la_Yin {c d p : Nat} {t s it dr pa : Nat → Int32} {l K : Nat} {post : Int32 → SY → Prop} {J : Int32 → (Nat → Int32) → (Nat → Int32) → (Nat → Int32) → (Nat → Int32) → (Nat → Int32) → (Nat → Int32) → Prop} (hL : la_L c s) (hl : l < c) (hp : p ≤ 8) (hK : K ≤ la_n s l) (hJ : ∀ tb, la_V p pa s it l K (p + 1) tb → J (la_dn K) t s it dr pa tb) : ∀ R tb, R ≤ p + 1 → la_V p pa s it l (K + 1) R tb → wY_fits_25 post J (nI l) (nI K) (nI c) (nI d) (nI p) (R + 1) (la_dn R) t s it dr pa tb := by
  have hc := hL.1
  obtain ⟨e, l1, l8⟩ := hL.2 l hl
  have vl : vp_in (nI l) 60 := vp_in_nI (by omega) (by omega)
  have cl : (nI l).toNatClampNeg = l := nI_clamp (by omega)
  intro R
  induction R with
  | zero =>
    intro tb _ hV
    rw [wY_fits_25]
    refine br_t (by decide) (nm_r (la_dn_1 K) (hJ tb (fun pl r h1 h2 h3 => hV pl r h1 h2 ?_)))
    omega
  | succ r ih =>
    intro tb hR hV
    have step : wY_fits_183 post J (wY_fits_25 post J (nI l) (nI K) (nI c) (nI d) (nI p) (r + 1)) (nI l) (nI K) (nI r) (la_pI (la_T (la_n s l) p pa (fun j => it (8 * l + j)) (p - r) K)) (nI c) (nI d) (nI p) t s it dr pa tb := by
      unfold wY_fits_183
      rw [la_n1, nI_clamp (n := 9 * K + r) (by omega), la_pv]
      refine ⟨vp_in_nI (by omega) (by omega), fun tb' e' => nm_r (la_dn_1 r) (ih tb' (by omega) (fun pl q h1 h2 h3 => ?_))⟩
      rw [e']
      by_cases w : 9 * pl + q = 9 * K + r
      · have w1 : pl = K := by omega
        have w2 : q = r := by omega
        rw [w1, w2, pk_us]
      · rw [pk_un w]
        exact hV pl q h1 h2 (by omega)
    have k1 : la_T (la_n s l) p pa (fun j => it (8 * l + j)) (p - r) K → wY_fits_183 post J (wY_fits_25 post J (nI l) (nI K) (nI c) (nI d) (nI p) (r + 1)) (nI l) (nI K) (nI r) 1 (nI c) (nI d) (nI p) t s it dr pa tb := by
      intro z
      rw [la_pt z] at step
      exact step
    have k0 : ¬ la_T (la_n s l) p pa (fun j => it (8 * l + j)) (p - r) K → wY_fits_183 post J (wY_fits_25 post J (nI l) (nI K) (nI c) (nI d) (nI p) (r + 1)) (nI l) (nI K) (nI r) 0 (nI c) (nI d) (nI p) t s it dr pa tb := by
      intro z
      rw [la_pf z] at step
      exact step
    clear step ih
    show wY_fits_25 post J (nI l) (nI K) (nI c) (nI d) (nI p) (r + 1 + 1) (nI r) t s it dr pa tb
    rw [wY_fits_25]
    dsimp only
    rw [cl, e]
    by_cases hr : p ≤ r
    · have pr : p - r = 0 := by omega
      rw [pr] at k1 k0
      unfold wY_fits_44
      exact br_f (nI_pos (by omega)) ⟨vl, pk_eq K (la_n s l) (fun z => br_t (nI_le hr (by omega)) (k1 z)) (fun z => br_t (nI_le hr (by omega)) (k0 z))⟩
    · have vr : vp_in (nI r) 8 := vp_in_nI (by omega) (by omega)
      obtain ⟨a, ea⟩ : ∃ a, p - r = a + 1 := ⟨p - r - 1, by omega⟩
      have er : p - (a + 1) = r := by omega
      have ea2 : p - (r + 1) = a := by omega
      rw [ea] at k1 k0
      have hrow : pa r = 2002 → (la_T (la_n s l) p pa (fun j => it (8 * l + j)) (a + 1) K ↔ (la_T (la_n s l) p pa (fun j => it (8 * l + j)) a K ∨ (K < la_n s l ∧ la_T (la_n s l) p pa (fun j => it (8 * l + j)) (a + 1) (K + 1)))) := by
        intro z
        constructor
        · rintro (⟨_, j', h1, h2, h3⟩ | ⟨h1, _⟩)
          · by_cases w : j' = K
            · rw [w] at h3; exact Or.inl h3
            · exact Or.inr ⟨by omega, Or.inl ⟨by rw [er]; exact z, j', by omega, h2, h3⟩⟩
          · rw [er] at h1; exact absurd z h1
        · rintro (h | ⟨h, ⟨_, j', h1, h2, h3⟩ | ⟨h1, _⟩⟩)
          · exact Or.inl ⟨by rw [er]; exact z, K, Nat.le_refl K, hK, h⟩
          · exact Or.inl ⟨by rw [er]; exact z, j', by omega, h2, h3⟩
          · rw [er] at h1; exact absurd z h1
      have hone : ¬ pa r = 2002 → (la_T (la_n s l) p pa (fun j => it (8 * l + j)) (a + 1) K ↔ (K < la_n s l ∧ la_mt (it (8 * l + K)) (pa r) ∧ la_T (la_n s l) p pa (fun j => it (8 * l + j)) a (K + 1))) := by
        intro z
        constructor
        · rintro (⟨h1, _⟩ | ⟨_, h⟩)
          · rw [er] at h1; exact absurd h1 z
          · rw [er] at h; exact h
        · intro h
          exact Or.inr ⟨by rw [er]; exact z, h.1, by rw [er]; exact h.2.1, h.2.2⟩
      have t1 : tb (9 * K + r + 1) = la_pI (la_T (la_n s l) p pa (fun j => it (8 * l + j)) a K) := by
        have q := hV K (r + 1) hK (by omega) (Or.inr ⟨rfl, Nat.le_refl _⟩)
        rw [ea2] at q
        exact q
      have t2 : K < la_n s l → tb (9 * K + 9 + r) = la_pI (la_T (la_n s l) p pa (fun j => it (8 * l + j)) (a + 1) (K + 1)) := by
        intro w
        have q := hV (K + 1) r (by omega) (by omega) (Or.inl (Nat.le_refl _))
        rw [ea] at q
        rw [show 9 * K + 9 + r = 9 * (K + 1) + r from by omega]
        exact q
      have t3 : K < la_n s l → tb (9 * K + 9 + r + 1) = la_pI (la_T (la_n s l) p pa (fun j => it (8 * l + j)) a (K + 1)) := by
        intro w
        have q := hV (K + 1) (r + 1) (by omega) (by omega) (Or.inl (Nat.le_refl _))
        rw [ea2] at q
        rw [show 9 * K + 9 + r + 1 = 9 * (K + 1) + (r + 1) from by omega]
        exact q
      have s75 : ∀ (F : Prop) (z0 : Int32), (F ↔ K = la_n s l) → ((pa r = 2002 ∧ z0 = 1) ∨ (¬ pa r = 2002 ∧ z0 = 0)) → wY_fits_75 post J (wY_fits_25 post J (nI l) (nI K) (nI c) (nI d) (nI p) (r + 1)) (nI l) (nI K) (nI r) (la_pI F) z0 (nI c) (nI d) (nI p) t s it dr pa tb := by
        intro F z0 hF hz
        unfold wY_fits_75 wY_fits_180 wY_fits_124 wY_fits_120 wY_fits_181
        rcases hz with ⟨z, rfl⟩ | ⟨z, rfl⟩
        · rw [hrow z] at k1 k0
          refine la_t2 ?_
          rw [la_n2, nI_clamp (n := 9 * K + r + 1) (by omega), t1]
          refine ⟨vp_in_nI (by omega) (by omega), la_pb (fun w => la_pb (fun w2 => ?_) (fun w2 => k0 ?_)) (fun w => k1 (Or.inl w))⟩
          · have kn : K < la_n s l := by
              have : ¬ K = la_n s l := fun o => w2 (hF.mpr o)
              omega
            rw [la_n3, nI_clamp (n := 9 * K + 9 + r) (by omega), t2 kn]
            refine ⟨vp_in_nI (by omega) (by omega), la_pb (fun w3 => k0 ?_) (fun w3 => k1 (Or.inr ⟨kn, w3⟩))⟩
            rintro (o | o)
            · exact w o
            · exact w3 o.2
          · have kn := hF.mp w2
            rintro (o | o)
            · exact w o
            · omega
        · rw [hone z] at k1 k0
          refine la_t1 (la_pb (fun w2 => ?_) (fun w2 => k0 ?_))
          · have kn : K < la_n s l := by
              have : ¬ K = la_n s l := fun o => w2 (hF.mpr o)
              omega
            rw [la_iy, nI_clamp (n := 8 * l + K) (by omega), nI_clamp (n := r) (by omega), la_n4, nI_clamp (n := 9 * K + 9 + r + 1) (by omega), t3 kn]
            refine ⟨vp_in_nI (by omega) (by omega), vr, la_Ymt (la_pb (fun w3 => k0 (fun o => w3 o.2.1)) (fun w3 => ⟨vp_in_nI (by omega) (by omega), la_pb (fun w4 => k0 (fun o => w4 o.2.2)) (fun w4 => k1 ⟨kn, w3, w4⟩)⟩))⟩
          · have kn := hF.mp w2
            intro o
            omega
      have s44 : ∀ F : Prop, (F ↔ K = la_n s l) → wY_fits_44 post J (wY_fits_25 post J (nI l) (nI K) (nI c) (nI d) (nI p) (r + 1)) (nI l) (nI K) (nI r) (la_pI F) (nI c) (nI d) (nI p) t s it dr pa tb := by
        intro F hF
        unfold wY_fits_44
        rw [nI_clamp (n := r) (by omega)]
        exact br_f (nI_ge (by omega) (by omega)) ⟨vr, br_c (fun z => s75 F 1 hF (Or.inl ⟨z, rfl⟩)) (fun z => s75 F 0 hF (Or.inr ⟨z, rfl⟩))⟩
      refine br_f (nI_pos (by omega)) ⟨vl, pk_eq K (la_n s l) (fun z => ?_) (fun z => ?_)⟩
      · have q := s44 True ⟨fun _ => z, fun _ => trivial⟩
        rw [la_pt trivial] at q
        exact q
      · have q := s44 False ⟨fun o => o.elim, fun o => absurd o z⟩
        rw [la_pf id] at q
        exact q
theorem la_Yout {c d p : Nat} {t s it dr pa : Nat → Int32} {l : Nat} {post : Int32 → SY → Prop} (hL : la_L c s) (hl : l < c) (hp : p ≤ 8) (h : ∀ tb, post (la_pI (la_ft p pa s it l)) (nI c, nI d, nI p, t, s, it, dr, pa, tb)) : ∀ K tb, K ≤ la_n s l + 1 → la_V p pa s it l K (p + 1) tb → wY_fits_16 post (nI l) (nI c) (nI d) (nI p) (K + 1) (la_dn K) t s it dr pa tb := by
  intro K
  induction K with
  | zero =>
    intro tb _ hV
    have q : tb 0 = la_pI (la_ft p pa s it l) := hV 0 0 (by omega) (by omega) (Or.inl (Nat.le_refl 0))
    rw [wY_fits_16]
    dsimp only
    rw [q]
    exact br_t (by decide) ⟨la_pn _, h tb⟩
  | succ K ih =>
    intro tb hK hV
    obtain ⟨e, l1, l8⟩ := hL.2 l hl
    show wY_fits_16 post (nI l) (nI c) (nI d) (nI p) (K + 1 + 1) (nI K) t s it dr pa tb
    rw [wY_fits_16]
    refine br_f (nI_pos (by omega)) ⟨p + 1 + 1, ?_⟩
    exact la_Yin hL hl hp (by omega) (fun tb' hV' => ih tb' (by omega) hV') (p + 1) tb (Nat.le_refl _) (fun pl r h1 h2 h3 => hV pl r h1 h2 (by omega))
theorem la_Yft {c d p : Nat} {t s it dr pa tb : Nat → Int32} {l : Nat} {post : Int32 → SY → Prop} (hI : la_Inv c d p t s it dr pa) (hl : l < c) (h : ∀ tb, post (la_pI (la_ft p pa s it l)) (nI c, nI d, nI p, t, s, it, dr, pa, tb)) : wpY_fits post (nI c, nI d, nI p, t, s, it, dr, pa, tb) (nI l) := by
  obtain ⟨hL, _, hp, _⟩ := hI
  have hc := hL.1
  obtain ⟨e, l1, l8⟩ := hL.2 l hl
  have vl : vp_in (nI l) 60 := vp_in_nI (by omega) (by omega)
  unfold wpY_fits
  dsimp only
  rw [nI_clamp (n := l) (by omega), e]
  refine pk_eq p 0 (fun z => ?_) (fun z => ⟨vl, nm_e ⟨la_n s l + 1 + 1, ?_⟩⟩)
  · have q : ¬ la_ft p pa s it l := by
      unfold la_ft
      rw [z]
      intro w
      have w' : 0 = la_n s l := w
      omega
    have w := h tb
    rw [la_pf q] at w
    exact w
  · exact la_Yout hL hl hp h (la_n s l + 1) tb (Nat.le_refl _) (fun pl r h1 h2 h3 => by omega)
theorem i_vc_fitting {k : Nat} {u : SX} {v : SY} (I : i_Rel k u v) (hk : k + 4 ≤ 2048) (v1 : Int32) (v2 : Int32) : wpX_fitting (fun r => wpY_fitting (fun r' v' => r' = r ∧ i_Rel (k + 4) u v') v v1 v2) u v1 v2 := by
  obtain ⟨c, d, p, t, s, it, dr, pa, gs, tb, rfl, rfl, hI⟩ := I
  have hL := hI.1
  have hc := hL.1
  have kx : ∀ post : Int32 → Prop, post (nI (la_cn (fun l => la_wi t v1 v2 l ∧ la_ft p pa s it l) 0 c)) → ∃ n, wX_fitting_5 post v1 v2 (nI c) (nI d) (nI p) t s it dr pa gs n 0 0 := by
    intro post h
    refine ⟨c - 0 + 1, ?_⟩
    refine la_cl0 (fun n x y => wX_fitting_5 post v1 v2 (nI c) (nI d) (nI p) t s it dr pa gs n x y) post c (fun l => la_wi t v1 v2 l ∧ la_ft p pa s it l) ?_ ?_ 0 (by omega) h
    · intro n x hp
      show wX_fitting_5 post v1 v2 (nI c) (nI d) (nI p) t s it dr pa gs (n + 1) x (nI c)
      rw [wX_fitting_5]
      exact br_t (nI_le (by omega) (by omega)) hp
    · intro n x i hi f g
      show wX_fitting_5 post v1 v2 (nI c) (nI d) (nI p) t s it dr pa gs (n + 1) x (nI i)
      rw [wX_fitting_5]
      refine br_f (nI_ge hi (by omega)) (la_Xwi hL hi ?_)
      exact la_pb (fun e => nm_r (nI_1 i) (g (fun q => e q.1))) (fun e => la_Xft hI hi (la_pb (fun e2 => nm_r (nI_1 i) (g (fun q => e2 q.2))) (fun e2 => nm_e (nm_r (nI_1 i) (f ⟨e, e2⟩)))))
  have ky : ∀ post : Int32 → SY → Prop, (∀ tb, post (nI (la_cn (fun l => la_wi t v1 v2 l ∧ la_ft p pa s it l) 0 c)) (nI c, nI d, nI p, t, s, it, dr, pa, tb)) → ∃ n, wY_fitting_5 post v1 v2 n 0 0 (nI c) (nI d) (nI p) t s it dr pa tb := by
    intro post h
    refine ⟨c - 0 + 1, ?_⟩
    refine la_cl0 (fun n x y => ∀ tb, wY_fitting_5 post v1 v2 n x y (nI c) (nI d) (nI p) t s it dr pa tb) (fun r => ∀ tb, post r (nI c, nI d, nI p, t, s, it, dr, pa, tb)) c (fun l => la_wi t v1 v2 l ∧ la_ft p pa s it l) ?_ ?_ 0 (by omega) h tb
    · intro n x hp tb
      show wY_fitting_5 post v1 v2 (n + 1) x (nI c) (nI c) (nI d) (nI p) t s it dr pa tb
      rw [wY_fitting_5]
      exact br_t (nI_le (by omega) (by omega)) (hp tb)
    · intro n x i hi f g tb
      have vi : vp_in (nI i) 60 := vp_in_nI (by omega) (by omega)
      show wY_fitting_5 post v1 v2 (n + 1) x (nI i) (nI c) (nI d) (nI p) t s it dr pa tb
      rw [wY_fitting_5]
      dsimp only
      rw [nI_clamp (n := i) (by omega)]
      exact br_f (nI_ge hi (by omega)) ⟨vi, br_c (fun a => nm_r (nI_1 i) (g (fun z => z.1.1 a) tb)) (fun a => ⟨vi, br_c (fun b => nm_r (nI_1 i) (g (fun z => z.1.2 b) tb)) (fun b => la_Yft hI hi (fun tb' => la_pb (fun e2 => nm_r (nI_1 i) (g (fun q => e2 q.2) tb')) (fun e2 => nm_e (nm_r (nI_1 i) (f ⟨⟨a, b⟩, e2⟩ tb')))))⟩)⟩
  exact kx _ (ky _ (fun tb' => ⟨rfl, la_mk hI⟩))
theorem i_vc_next {k : Nat} {u : SX} {v : SY} (I : i_Rel k u v) (hk : k + 4 ≤ 2048) (v1 : Int32) : wpX_next (fun r => wpY_next (fun r' v' => r' = r ∧ i_Rel (k + 4) u v') v v1) u v1 := by
  obtain ⟨c, d, p, t, s, it, dr, pa, gs, tb, rfl, rfl, hI⟩ := I
  have hL := hI.1
  have hc := hL.1
  have kx : ∀ post : Int32 → Prop, post (la_se (fun l => ¬ nI l ≤ v1 ∧ la_ft p pa s it l) nI (-2) 0 c) → ∃ n, wX_next_2 post v1 (nI c) (nI d) (nI p) t s it dr pa gs n 0 := by
    intro post h
    refine ⟨c + 1, ?_⟩
    refine la_sl (fun n x => wX_next_2 post v1 (nI c) (nI d) (nI p) t s it dr pa gs n x) post c (fun l => ¬ nI l ≤ v1 ∧ la_ft p pa s it l) nI (-2) ?_ ?_ c 0 (by omega) h
    · intro n hp
      show wX_next_2 post v1 (nI c) (nI d) (nI p) t s it dr pa gs (n + 1) (nI c)
      rw [wX_next_2]
      exact br_t (nI_le (by omega) (by omega)) hp
    · intro n i hi f g
      show wX_next_2 post v1 (nI c) (nI d) (nI p) t s it dr pa gs (n + 1) (nI i)
      rw [wX_next_2]
      exact br_f (nI_ge hi (by omega)) (br_c (fun a => nm_r (nI_1 i) (g (fun q => q.1 a))) (fun a => la_Xft hI hi (la_pb (fun b => nm_r (nI_1 i) (g (fun q => b q.2))) (fun b => f ⟨a, b⟩))))
  have ky : ∀ post : Int32 → SY → Prop, (∀ tb, post (la_se (fun l => ¬ nI l ≤ v1 ∧ la_ft p pa s it l) nI (-2) 0 c) (nI c, nI d, nI p, t, s, it, dr, pa, tb)) → ∃ n, wY_next_2 post v1 n 0 (nI c) (nI d) (nI p) t s it dr pa tb := by
    intro post h
    refine ⟨c + 1, ?_⟩
    refine la_sl (fun n x => ∀ tb, wY_next_2 post v1 n x (nI c) (nI d) (nI p) t s it dr pa tb) (fun r => ∀ tb, post r (nI c, nI d, nI p, t, s, it, dr, pa, tb)) c (fun l => ¬ nI l ≤ v1 ∧ la_ft p pa s it l) nI (-2) ?_ ?_ c 0 (by omega) h tb
    · intro n hp tb
      show wY_next_2 post v1 (n + 1) (nI c) (nI c) (nI d) (nI p) t s it dr pa tb
      rw [wY_next_2]
      exact br_t (nI_le (by omega) (by omega)) (hp tb)
    · intro n i hi f g tb
      show wY_next_2 post v1 (n + 1) (nI i) (nI c) (nI d) (nI p) t s it dr pa tb
      rw [wY_next_2]
      exact br_f (nI_ge hi (by omega)) (br_c (fun a => nm_r (nI_1 i) (g (fun q => q.1 a) tb)) (fun a => la_Yft hI hi (fun tb' => la_pb (fun b => nm_r (nI_1 i) (g (fun q => b q.2) tb')) (fun b => f ⟨a, b⟩ tb'))))
  exact kx _ (ky _ (fun tb' => ⟨rfl, la_mk hI⟩))
def la_ef (p : Nat) (pa s it : Nat → Int32) (l : Nat) : Prop := ∃ j, 0 ≤ j ∧ j < l ∧ (la_al s it l j ∧ la_ft p pa s it j)
theorem la_Xef {c d p : Nat} {t s it dr pa gs : Nat → Int32} {l : Nat} {post : Int32 → Prop} (hI : la_Inv c d p t s it dr pa) (hl : l < c) (h : post (la_pI (la_ef p pa s it l))) : wpX_earlierAlikeFits post (nI c, nI d, nI p, t, s, it, dr, pa, gs) (nI l) := by
  have hL := hI.1
  have hc := hL.1
  unfold wpX_earlierAlikeFits
  refine ⟨l + 1, ?_⟩
  refine la_el (fun n y => wX_earlierAlikeFits_2 post (nI l) (nI c) (nI d) (nI p) t s it dr pa gs n y) (post 1) (post 0) l (fun j => la_al s it l j ∧ la_ft p pa s it j) ?_ ?_ l 0 (by omega) (fun z => la_p1 h z) (fun z => la_p0 h z)
  · intro n hp
    show wX_earlierAlikeFits_2 post (nI l) (nI c) (nI d) (nI p) t s it dr pa gs (n + 1) (nI l)
    rw [wX_earlierAlikeFits_2]
    exact br_t (nI_le (by omega) (by omega)) hp
  · intro n j hj f g
    show wX_earlierAlikeFits_2 post (nI l) (nI c) (nI d) (nI p) t s it dr pa gs (n + 1) (nI j)
    rw [wX_earlierAlikeFits_2]
    exact br_f (nI_ge hj (by omega)) (la_Xal hL hl (by omega) (la_pb (fun z => nm_r (nI_1 j) (g (fun q => z q.1))) (fun z => la_Xft hI (by omega) (la_pb (fun w => nm_r (nI_1 j) (g (fun q => w q.2))) (fun w => f ⟨z, w⟩)))))
theorem la_Yff {c d p : Nat} {t s it dr pa tb : Nat → Int32} {l : Nat} {post : Int32 → SY → Prop} (hI : la_Inv c d p t s it dr pa) (hl : l < c) (h : ∀ tb, post (la_pI (la_ft p pa s it l ∧ ¬ la_ef p pa s it l)) (nI c, nI d, nI p, t, s, it, dr, pa, tb)) : wpY_isFirstFitting post (nI c, nI d, nI p, t, s, it, dr, pa, tb) (nI l) := by
  have hL := hI.1
  have hc := hL.1
  unfold wpY_isFirstFitting
  refine ⟨l + 1, ?_⟩
  refine la_el (fun n y => ∀ tb, wY_isFirstFitting_2 post (nI l) n y (nI c) (nI d) (nI p) t s it dr pa tb) (∀ tb, post 0 (nI c, nI d, nI p, t, s, it, dr, pa, tb)) (∀ tb, post (la_pI (la_ft p pa s it l)) (nI c, nI d, nI p, t, s, it, dr, pa, tb)) l (fun j => la_al s it l j ∧ la_ft p pa s it j) ?_ ?_ l 0 (by omega) (fun z tb => la_p0 (post := fun r => post r (nI c, nI d, nI p, t, s, it, dr, pa, tb)) (h tb) (fun w => w.2 z)) (fun z tb => ?_) tb
  · intro n hp tb
    show wY_isFirstFitting_2 post (nI l) (n + 1) (nI l) (nI c) (nI d) (nI p) t s it dr pa tb
    rw [wY_isFirstFitting_2]
    exact br_t (nI_le (by omega) (by omega)) (la_Yft hI hl (fun tb' => ⟨la_pn _, hp tb'⟩))
  · intro n j hj f g tb
    show wY_isFirstFitting_2 post (nI l) (n + 1) (nI j) (nI c) (nI d) (nI p) t s it dr pa tb
    rw [wY_isFirstFitting_2]
    exact br_f (nI_ge hj (by omega)) (la_Yal hL (by omega) hl (la_pb (fun z => nm_r (nI_1 j) (g (fun q => z (la_al_s q.1)) tb)) (fun z => la_Yft hI (by omega) (fun tb' => la_pb (fun w => nm_r (nI_1 j) (g (fun q => w q.2) tb')) (fun w => f ⟨la_al_s z, w⟩ tb')))))
  · have q := h tb
    rw [la_pc (Q := la_ft p pa s it l) ⟨fun w => w.1, fun w => ⟨w, z⟩⟩] at q
    exact q
theorem i_vc_fittingGroups {k : Nat} {u : SX} {v : SY} (I : i_Rel k u v) (hk : k + 4 ≤ 2048) : wpX_fittingGroups (fun r => wpY_fittingGroups (fun r' v' => r' = r ∧ i_Rel (k + 4) u v') v) u := by
  obtain ⟨c, d, p, t, s, it, dr, pa, gs, tb, rfl, rfl, hI⟩ := I
  have hL := hI.1
  have hc := hL.1
  have kx : ∀ post : Int32 → Prop, post (nI (la_cn (fun l => la_ft p pa s it l ∧ ¬ la_ef p pa s it l) 0 c)) → ∃ n, wX_fittingGroups_4 post (nI c) (nI d) (nI p) t s it dr pa gs n 0 0 := by
    intro post h
    refine ⟨c - 0 + 1, ?_⟩
    refine la_cl0 (fun n x y => wX_fittingGroups_4 post (nI c) (nI d) (nI p) t s it dr pa gs n x y) post c (fun l => la_ft p pa s it l ∧ ¬ la_ef p pa s it l) ?_ ?_ 0 (by omega) h
    · intro n x hp
      show wX_fittingGroups_4 post (nI c) (nI d) (nI p) t s it dr pa gs (n + 1) x (nI c)
      rw [wX_fittingGroups_4]
      exact br_t (nI_le (by omega) (by omega)) hp
    · intro n x i hi f g
      show wX_fittingGroups_4 post (nI c) (nI d) (nI p) t s it dr pa gs (n + 1) x (nI i)
      rw [wX_fittingGroups_4]
      exact br_f (nI_ge hi (by omega)) (la_Xft hI hi (la_pb (fun e => nm_r (nI_1 i) (g (fun q => e q.1))) (fun e => la_Xef hI hi (la_pb (fun e2 => nm_e (nm_r (nI_1 i) (f ⟨e, e2⟩))) (fun e2 => nm_r (nI_1 i) (g (fun q => q.2 e2)))))))
  have ky : ∀ post : Int32 → SY → Prop, (∀ tb, post (nI (la_cn (fun l => la_ft p pa s it l ∧ ¬ la_ef p pa s it l) 0 c)) (nI c, nI d, nI p, t, s, it, dr, pa, tb)) → ∃ n, wY_fittingGroups_4 post n 0 0 (nI c) (nI d) (nI p) t s it dr pa tb := by
    intro post h
    refine ⟨c - 0 + 1, ?_⟩
    refine la_cl0 (fun n x y => ∀ tb, wY_fittingGroups_4 post n x y (nI c) (nI d) (nI p) t s it dr pa tb) (fun r => ∀ tb, post r (nI c, nI d, nI p, t, s, it, dr, pa, tb)) c (fun l => la_ft p pa s it l ∧ ¬ la_ef p pa s it l) ?_ ?_ 0 (by omega) h tb
    · intro n x hp tb
      show wY_fittingGroups_4 post (n + 1) x (nI c) (nI c) (nI d) (nI p) t s it dr pa tb
      rw [wY_fittingGroups_4]
      exact br_t (nI_le (by omega) (by omega)) (hp tb)
    · intro n x i hi f g tb
      show wY_fittingGroups_4 post (n + 1) x (nI i) (nI c) (nI d) (nI p) t s it dr pa tb
      rw [wY_fittingGroups_4]
      exact br_f (nI_ge hi (by omega)) (la_Yff hI hi (fun tb' => la_pb (fun e => nm_r (nI_1 i) (g e tb')) (fun e => nm_e (nm_r (nI_1 i) (f e tb')))))
  exact kx _ (ky _ (fun tb' => ⟨rfl, la_mk hI⟩))
end
section
def la_wr (c : Nat) (dr : Nat → Int32) (i : Nat) (it : Nat → Int32) : Nat → Int32 := upd it (8 * c + i) (dr i)
theorem la_wrS (c : Nat) (dr : Nat → Int32) : ∀ m i it j, (8 * c + i ≤ j → j < 8 * c + i + m → la_fo (la_wr c dr) i m it j = dr (j - 8 * c)) ∧ ((j < 8 * c + i ∨ 8 * c + i + m ≤ j) → la_fo (la_wr c dr) i m it j = it j) := by
  intro m
  induction m with
  | zero => intro i it j; exact ⟨fun a b => by omega, fun _ => rfl⟩
  | succ m ih =>
    intro i it j
    obtain ⟨h1, h2⟩ := ih (i + 1) (la_wr c dr i it) j
    refine ⟨fun a b => ?_, fun a => ?_⟩
    · show la_fo (la_wr c dr) (i + 1) m (la_wr c dr i it) j = _
      by_cases q : j = 8 * c + i
      · rw [h2 (by omega), q]
        show upd it (8 * c + i) (dr i) (8 * c + i) = _
        rw [pk_us]
        exact congrArg dr (by omega)
      · exact h1 (by omega) (by omega)
    · show la_fo (la_wr c dr) (i + 1) m (la_wr c dr i it) j = _
      rw [h2 (by omega)]
      show upd it (8 * c + i) (dr i) j = _
      rw [pk_un (by omega)]
theorem la_n_u {s : Nat → Int32} {c l : Nat} {x : Int32} (h : l ≠ c) : la_n (upd s c x) l = la_n s l := by
  unfold la_n
  rw [pk_un h]
theorem la_n_s {s : Nat → Int32} {c d : Nat} (h : d < 2 ^ 31) : la_n (upd s c (nI d)) c = d := by
  unfold la_n
  rw [pk_us, nI_clamp h]
theorem la_wrI {c d p : Nat} {t s it dr pa : Nat → Int32} {v : Int32} (hI : la_Inv c d p t s it dr pa) (hc : c < 60) (hd : 0 < d) (hv : c = 0 ∨ ¬ v < t (c - 1)) : la_Inv (c + 1) 0 p (upd t c v) (upd s c (nI d)) (la_fo (la_wr c dr) 0 d it) dr pa := by
  obtain ⟨⟨h1, hL⟩, h2, h3, h4, h5, h6, h7⟩ := hI
  refine ⟨⟨by omega, fun l hl => ?_⟩, by omega, h3, fun l hl => ?_, fun l hl i hi => ?_, fun i hi => by omega, h7⟩
  · by_cases q : l = c
    · rw [q, la_n_s (by omega), pk_us]
      exact ⟨rfl, hd, h2⟩
    · rw [la_n_u q, pk_un q]
      exact hL l (by omega)
  · by_cases q : l + 1 = c
    · rw [q, pk_us, pk_un (by omega)]
      rcases hv with hv | hv
      · omega
      · rw [show c - 1 = l from by omega] at hv
        exact Int32.not_lt.mp hv
    · rw [pk_un (by omega), pk_un (by omega)]
      exact h4 l (by omega)
  · by_cases q : l = c
    · subst q
      rw [la_n_s (by omega)] at hi
      rw [(la_wrS l dr d 0 it (8 * l + i)).1 (by omega) (by omega), show 8 * l + i - 8 * l = i from by omega]
      exact h6 i hi
    · rw [la_n_u q] at hi
      obtain ⟨_, _, w⟩ := hL l (by omega)
      rw [(la_wrS c dr d 0 it (8 * l + i)).2 (by omega)]
      exact h5 l (by omega) i hi
def la_cf (c : Nat) (t : Nat → Int32) (v : Int32) : Prop := ¬ v < 0 ∧ v ≤ 1000 ∧ (c = 0 ∨ ¬ v < t (c - 1))
theorem la_cm {c : Nat} (h : c ≠ 0) : nI c - 1 = nI (c - 1) := by
  obtain ⟨k, rfl⟩ : ∃ k, c = k + 1 := ⟨c - 1, by omega⟩
  rw [nI_pred]
  rfl
theorem la_Xcf {c d p : Nat} {t s it dr pa gs : Nat → Int32} {v : Int32} {post : Int32 → Prop} (hL : la_L c s) (h : post (la_pI (la_cf c t v))) : wpX_canFollow post (nI c, nI d, nI p, t, s, it, dr, pa, gs) v := by
  have hc := hL.1
  unfold la_cf at h
  unfold wpX_canFollow
  dsimp only
  refine br_c (fun a => la_p0 h (fun q => q.1 a)) (fun a => br_c (fun b => pk_eq c 0 (fun e => la_p1 h ⟨a, b, Or.inl e⟩) (fun e => ?_)) (fun b => la_p0 h (fun q => b q.2.1)))
  rw [la_cm e, nI_clamp (n := c - 1) (by omega)]
  refine ⟨vp_in_nI (by omega) (by omega), br_c (fun f => la_p0 h ?_) (fun f => la_p1 h ⟨a, b, Or.inr f⟩)⟩
  rintro ⟨_, _, q | q⟩
  · exact e q
  · exact q f
theorem la_Ycf {c d p : Nat} {t s it dr pa tb : Nat → Int32} {v : Int32} {post : Int32 → SY → Prop} (hL : la_L c s) (h1 : la_cf c t v → wY_write_35 post v (nI c) (nI d) (nI p) t s it dr pa tb) (h0 : ¬ la_cf c t v → post (-1) (nI c, nI d, nI p, t, s, it, dr, pa, tb)) : wpY_write post (nI c, nI d, nI p, t, s, it, dr, pa, tb) v := by
  have hc := hL.1
  unfold la_cf at h1 h0
  unfold wpY_write
  dsimp only
  refine br_c (fun a => h0 (fun q => q.1 a)) (fun a => br_c (fun b => h0 (fun q => ?_)) (fun b => pk_le c 0 (fun e => h1 ⟨a, Int32.not_lt.mp b, Or.inl (by omega)⟩) (fun e => ?_)))
  · exact Int32.not_lt.mpr q.2.1 b
  · rw [la_cm (by omega), nI_clamp (n := c - 1) (by omega)]
    refine ⟨vp_in_nI (by omega) (by omega), br_c (fun f => h1 ⟨a, Int32.not_lt.mp b, Or.inr (Int32.not_lt.mpr f)⟩) (fun f => h0 ?_)⟩
    rintro ⟨_, _, q | q⟩
    · omega
    · exact f (Int32.not_lt.mp q)
theorem la_Xwr {c d p : Nat} {t s it dr pa gs : Nat → Int32} {post : Int32 → SX → Prop} (hc : c < 60) (hd : d ≤ 8) (h : post (nI c) (nI (c + 1), nI 0, nI p, t, s, la_fo (la_wr c dr) 0 d it, dr, pa, gs)) : ∃ n, wX_write_56 post (nI c) (nI c) (nI d) (nI p) n 0 t s it dr pa gs := by
  refine ⟨d + 1, ?_⟩
  refine la_fl (fun n u x => wX_write_56 post (nI c) (nI c) (nI d) (nI p) n x t s u dr pa gs) (fun u => post (nI c) (nI (c + 1), nI 0, nI p, t, s, u, dr, pa, gs)) d (la_wr c dr) ?_ ?_ d 0 it (by omega) h
  · intro n u hp
    show wX_write_56 post (nI c) (nI c) (nI d) (nI p) (n + 1) (nI d) t s u dr pa gs
    rw [wX_write_56]
    exact br_t (nI_le (by omega) (by omega)) (nm_r (nI_1 c) hp)
  · intro n u i hi g
    show wX_write_56 post (nI c) (nI c) (nI d) (nI p) (n + 1) (nI i) t s u dr pa gs
    rw [wX_write_56]
    dsimp only
    rw [la_ix, nI_clamp (n := 8 * c + i) (by omega), nI_clamp (n := i) (by omega)]
    exact br_f (nI_ge hi (by omega)) ⟨vp_in_nI (by omega) (by omega), vp_in_nI (by omega) (by omega), nm_e (nm_r (nI_1 i) g)⟩
theorem la_Ywr {c d p : Nat} {t s it dr pa tb : Nat → Int32} {post : Int32 → SY → Prop} (hc : c < 60) (hd : d ≤ 8) (h : post (nI c) (nI (c + 1), nI 0, nI p, t, s, la_fo (la_wr c dr) 0 d it, dr, pa, tb)) : ∃ n, wY_write_82 post (nI c) (nI d) (nI p) n 0 t s it dr pa tb := by
  refine ⟨d + 1, ?_⟩
  refine la_fl (fun n u x => wY_write_82 post (nI c) (nI d) (nI p) n x t s u dr pa tb) (fun u => post (nI c) (nI (c + 1), nI 0, nI p, t, s, u, dr, pa, tb)) d (la_wr c dr) ?_ ?_ d 0 it (by omega) h
  · intro n u hp
    show wY_write_82 post (nI c) (nI d) (nI p) (n + 1) (nI d) t s u dr pa tb
    rw [wY_write_82]
    refine br_t (nI_le (by omega) (by omega)) (nm_r (nI_1 c) ?_)
    rw [nI_pred]
    exact hp
  · intro n u i hi g
    show wY_write_82 post (nI c) (nI d) (nI p) (n + 1) (nI i) t s u dr pa tb
    rw [wY_write_82]
    dsimp only
    rw [la_iy, nI_clamp (n := 8 * c + i) (by omega), nI_clamp (n := i) (by omega)]
    exact br_f (nI_ge hi (by omega)) ⟨vp_in_nI (by omega) (by omega), vp_in_nI (by omega) (by omega), nm_e (nm_r (nI_1 i) g)⟩
theorem i_vc_write {k : Nat} {u : SX} {v : SY} (I : i_Rel k u v) (hk : k + 4 ≤ 2048) (v1 : Int32) : wpX_write (fun r u' => wpY_write (fun r' v' => r' = r ∧ i_Rel (k + 4) u' v') v v1) u v1 := by
  obtain ⟨c, d, p, t, s, it, dr, pa, gs, tb, rfl, rfl, hI⟩ := I
  have hL := hI.1
  have hc := hL.1
  have hd := hI.2.1
  unfold wpX_write
  dsimp only
  refine la_Xcf hL (la_pb (fun z => la_Ycf hL (fun q => absurd q z) (fun _ => ⟨rfl, la_mk hI⟩)) (fun z => ?_))
  refine pk_eq d 0 (fun a => la_Ycf hL (fun _ => ?_) (fun q => absurd z q)) (fun a => pk_lt c 60 (fun b => ?_) (fun b => la_Ycf hL (fun _ => ?_) (fun q => absurd z q)))
  · unfold wY_write_35
    exact pk_eq d 0 (fun _ => ⟨rfl, la_mk hI⟩) (fun q => absurd a q)
  · have vc : vp_in (nI c) 60 := vp_in_nI b (by omega)
    have e : (nI c).toNatClampNeg = c := nI_clamp (by omega)
    rw [e]
    refine ⟨vc, nm_e ⟨vc, nm_e (la_Xwr b hd (la_Ycf hL (fun _ => ?_) (fun q => absurd z q)))⟩⟩
    unfold wY_write_35
    rw [e]
    exact pk_eq d 0 (fun q => absurd q a) (fun _ => pk_eq c 60 (fun q => by omega) (fun _ => ⟨vc, nm_e ⟨vc, nm_e (la_Ywr b hd ⟨rfl, la_mk (la_wrI hI b (by omega) z.2.2)⟩)⟩⟩))
  · unfold wY_write_35
    exact pk_eq d 0 (fun q => absurd q a) (fun _ => pk_eq c 60 (fun _ => ⟨rfl, la_mk hI⟩) (fun q => absurd (by omega) q))
def la_rc (l : Nat) (it : Nat → Int32) (i : Nat) (dr : Nat → Int32) : Nat → Int32 := upd dr i (it (8 * l + i))
theorem la_rcS (l : Nat) (it : Nat → Int32) : ∀ m i dr j, (i ≤ j → j < i + m → la_fo (la_rc l it) i m dr j = it (8 * l + j)) ∧ ((j < i ∨ i + m ≤ j) → la_fo (la_rc l it) i m dr j = dr j) := by
  intro m
  induction m with
  | zero => intro i dr j; exact ⟨fun a b => by omega, fun _ => rfl⟩
  | succ m ih =>
    intro i dr j
    obtain ⟨h1, h2⟩ := ih (i + 1) (la_rc l it i dr) j
    refine ⟨fun a b => ?_, fun a => ?_⟩
    · show la_fo (la_rc l it) (i + 1) m (la_rc l it i dr) j = _
      by_cases q : j = i
      · rw [h2 (by omega), q]
        show upd dr i (it (8 * l + i)) i = _
        rw [pk_us]
      · exact h1 (by omega) (by omega)
    · show la_fo (la_rc l it) (i + 1) m (la_rc l it i dr) j = _
      rw [h2 (by omega)]
      show upd dr i (it (8 * l + i)) j = _
      rw [pk_un (by omega)]
theorem la_Xrc {c n p l : Nat} {t s it dr pa gs : Nat → Int32} {post : Int32 → SX → Prop} (hl : l < 60) (hn : n ≤ 8) (h : post (nI n) (nI c, nI n, nI p, t, s, it, la_fo (la_rc l it) 0 n dr, pa, gs)) : ∃ m, wX_recall_22 post (nI l) (nI c) (nI n) (nI p) m 0 t s it dr pa gs := by
  refine ⟨n + 1, ?_⟩
  refine la_fl (fun m u x => wX_recall_22 post (nI l) (nI c) (nI n) (nI p) m x t s it u pa gs) (fun u => post (nI n) (nI c, nI n, nI p, t, s, it, u, pa, gs)) n (la_rc l it) ?_ ?_ n 0 dr (by omega) h
  · intro m u hp
    show wX_recall_22 post (nI l) (nI c) (nI n) (nI p) (m + 1) (nI n) t s it u pa gs
    rw [wX_recall_22]
    exact br_t (nI_le (by omega) (by omega)) hp
  · intro m u i hi g
    show wX_recall_22 post (nI l) (nI c) (nI n) (nI p) (m + 1) (nI i) t s it u pa gs
    rw [wX_recall_22]
    dsimp only
    rw [nI_clamp (n := i) (by omega)]
    exact br_f (nI_ge hi (by omega)) (la_Xit (by omega) ⟨vp_in_nI (by omega) (by omega), nm_e (nm_r (nI_1 i) g)⟩)
theorem la_Yrc {c n p l : Nat} {t s it dr pa tb : Nat → Int32} {post : Int32 → SY → Prop} (hl : l < 60) (hn : n ≤ 8) (h : post (nI n) (nI c, nI n, nI p, t, s, it, la_fo (la_rc l it) 0 n dr, pa, tb)) : ∃ m, wY_recall_22 post (nI l) (nI c) (nI n) (nI p) m 0 t s it dr pa tb := by
  refine ⟨n + 1, ?_⟩
  refine la_fl (fun m u x => wY_recall_22 post (nI l) (nI c) (nI n) (nI p) m x t s it u pa tb) (fun u => post (nI n) (nI c, nI n, nI p, t, s, it, u, pa, tb)) n (la_rc l it) ?_ ?_ n 0 dr (by omega) h
  · intro m u hp
    show wY_recall_22 post (nI l) (nI c) (nI n) (nI p) (m + 1) (nI n) t s it u pa tb
    rw [wY_recall_22]
    exact br_t (nI_le (by omega) (by omega)) hp
  · intro m u i hi g
    show wY_recall_22 post (nI l) (nI c) (nI n) (nI p) (m + 1) (nI i) t s it u pa tb
    rw [wY_recall_22]
    dsimp only
    rw [la_iy, nI_clamp (n := 8 * l + i) (by omega), nI_clamp (n := i) (by omega)]
    exact br_f (nI_ge hi (by omega)) ⟨vp_in_nI (by omega) (by omega), vp_in_nI (by omega) (by omega), nm_e (nm_r (nI_1 i) g)⟩
theorem i_vc_recall {k : Nat} {u : SX} {v : SY} (I : i_Rel k u v) (hk : k + 4 ≤ 2048) (v1 : Int32) : wpX_recall (fun r u' => wpY_recall (fun r' v' => r' = r ∧ i_Rel (k + 4) u' v') v v1) u v1 := by
  obtain ⟨c, d, p, t, s, it, dr, pa, gs, tb, rfl, rfl, hI⟩ := I
  have hL := hI.1
  have hc := hL.1
  unfold wpX_recall wpY_recall
  dsimp only
  rcases la_cs hL v1 with hb | ⟨l, hl, rfl⟩
  · exact la_Xg1 hb (la_t1 (la_Yg1 hb (la_t2 ⟨rfl, la_mk hI⟩)))
  obtain ⟨e, l1, l8⟩ := hL.2 l hl
  have vl : vp_in (nI l) 60 := vp_in_nI (by omega) (by omega)
  rw [nI_clamp (n := l) (by omega), e]
  refine la_Xg2 hL hl (la_t2 ⟨vl, nm_e (la_Xrc (by omega) l8 (la_Yg2 hL hl (la_t1 ⟨vl, nm_e (la_Yrc (by omega) l8 ⟨rfl, la_mk ?_⟩)⟩)))⟩)
  obtain ⟨h1, h2, h3, h4, h5, h6, h7⟩ := hI
  refine ⟨h1, l8, h3, h4, h5, fun i hi => ?_, h7⟩
  rw [(la_rcS l it (la_n s l) 0 dr i).1 (by omega) (by omega)]
  exact h5 l hl i hi
def la_ci2 (a b : Nat) (i : Nat) (it : Nat → Int32) : Nat → Int32 := upd it (8 * b + i) (it (8 * a + i))
theorem la_ciS {a b : Nat} (hab : b ≤ a) : ∀ m i it j, (8 * b + i ≤ j → j < 8 * b + i + m → la_fo (la_ci2 a b) i m it j = it (j - 8 * b + 8 * a)) ∧ ((j < 8 * b + i ∨ 8 * b + i + m ≤ j) → la_fo (la_ci2 a b) i m it j = it j) := by
  intro m
  induction m with
  | zero => intro i it j; exact ⟨fun a b => by omega, fun _ => rfl⟩
  | succ m ih =>
    intro i it j
    obtain ⟨h1, h2⟩ := ih (i + 1) (la_ci2 a b i it) j
    refine ⟨fun x y => ?_, fun x => ?_⟩
    · show la_fo (la_ci2 a b) (i + 1) m (la_ci2 a b i it) j = _
      by_cases q : j = 8 * b + i
      · rw [h2 (by omega), q]
        show upd it (8 * b + i) (it (8 * a + i)) (8 * b + i) = _
        rw [pk_us]
        exact congrArg it (by omega)
      · rw [h1 (by omega) (by omega)]
        show upd it (8 * b + i) (it (8 * a + i)) (j - 8 * b + 8 * a) = _
        rw [pk_un (by omega)]
    · show la_fo (la_ci2 a b) (i + 1) m (la_ci2 a b i it) j = _
      rw [h2 (by omega)]
      show upd it (8 * b + i) (it (8 * a + i)) j = _
      rw [pk_un (by omega)]
abbrev la_A3 : Type := (Nat → Int32) × (Nat → Int32) × (Nat → Int32)
def la_ex (g l : Nat) (q : la_A3) : la_A3 := (upd q.1 (l - g) (q.1 l), upd q.2.1 (l - g) (q.2.1 l), la_fo (la_ci2 l (l - g)) 0 8 q.2.2)
def la_eI (g : Nat) (t s it : Nat → Int32) (l : Nat) (q : la_A3) : Prop := (∀ j, j < l - g → q.1 j = t (j + g) ∧ q.2.1 j = s (j + g) ∧ ∀ i, i < 8 → q.2.2 (8 * j + i) = it (8 * (j + g) + i)) ∧ (∀ j, l - g ≤ j → q.1 j = t j ∧ q.2.1 j = s j ∧ ∀ i, i < 8 → q.2.2 (8 * j + i) = it (8 * j + i))
theorem la_exS (g : Nat) (t s it : Nat → Int32) : ∀ m l q, g ≤ l → la_eI g t s it l q → la_eI g t s it (l + m) (la_fo (la_ex g) l m q) := by
  intro m
  induction m with
  | zero => intro l q _ h; exact h
  | succ m ih =>
    intro l q hl h
    rw [show l + (m + 1) = l + 1 + m from by omega]
    refine ih (l + 1) (la_ex g l q) (by omega) ?_
    obtain ⟨h1, h2⟩ := h
    obtain ⟨a1, a2, a3⟩ := h2 l (by omega)
    refine ⟨fun j hj => ?_, fun j hj => ?_⟩
    · by_cases w : j = l - g
      · subst w
        refine ⟨?_, ?_, fun i hi => ?_⟩
        · show upd q.1 (l - g) (q.1 l) (l - g) = _
          rw [pk_us, a1]
          exact congrArg t (by omega)
        · show upd q.2.1 (l - g) (q.2.1 l) (l - g) = _
          rw [pk_us, a2]
          exact congrArg s (by omega)
        · show la_fo (la_ci2 l (l - g)) 0 8 q.2.2 (8 * (l - g) + i) = _
          rw [(la_ciS (a := l) (b := l - g) (by omega) 8 0 q.2.2 (8 * (l - g) + i)).1 (by omega) (by omega), show 8 * (l - g) + i - 8 * (l - g) + 8 * l = 8 * l + i from by omega, a3 i hi]
          exact congrArg it (by omega)
      · obtain ⟨b1, b2, b3⟩ := h1 j (by omega)
        refine ⟨?_, ?_, fun i hi => ?_⟩
        · show upd q.1 (l - g) (q.1 l) j = _
          rw [pk_un w, b1]
        · show upd q.2.1 (l - g) (q.2.1 l) j = _
          rw [pk_un w, b2]
        · show la_fo (la_ci2 l (l - g)) 0 8 q.2.2 (8 * j + i) = _
          rw [(la_ciS (a := l) (b := l - g) (by omega) 8 0 q.2.2 (8 * j + i)).2 (by omega), b3 i hi]
    · obtain ⟨b1, b2, b3⟩ := h2 j (by omega)
      refine ⟨?_, ?_, fun i hi => ?_⟩
      · show upd q.1 (l - g) (q.1 l) j = _
        rw [pk_un (by omega), b1]
      · show upd q.2.1 (l - g) (q.2.1 l) j = _
        rw [pk_un (by omega), b2]
      · show la_fo (la_ci2 l (l - g)) 0 8 q.2.2 (8 * j + i) = _
        rw [(la_ciS (a := l) (b := l - g) (by omega) 8 0 q.2.2 (8 * j + i)).2 (by omega), b3 i hi]
theorem la_Xcp {c d p : Nat} {t s it dr pa gs : Nat → Int32} {a b : Nat} {post : SX → Prop} (ha : a < 60) (hb : b < 60) (h : post (nI c, nI d, nI p, upd t b (t a), upd s b (s a), la_fo (la_ci2 a b) 0 8 it, dr, pa, gs)) : wpX_copyLine post (nI c, nI d, nI p, t, s, it, dr, pa, gs) (nI a) (nI b) := by
  have va : vp_in (nI a) 60 := vp_in_nI (by omega) (by omega)
  have vb : vp_in (nI b) 60 := vp_in_nI (by omega) (by omega)
  unfold wpX_copyLine
  dsimp only
  rw [nI_clamp (n := a) (by omega), nI_clamp (n := b) (by omega)]
  refine ⟨va, vb, nm_e ⟨va, vb, nm_e ⟨8 + 1, ?_⟩⟩⟩
  refine la_fl (fun n u x => wX_copyLine_26 post (nI a) (nI b) (nI c) (nI d) (nI p) n x (upd t b (t a)) (upd s b (s a)) u dr pa gs) (fun u => post (nI c, nI d, nI p, upd t b (t a), upd s b (s a), u, dr, pa, gs)) 8 (la_ci2 a b) ?_ ?_ 8 0 it (by omega) h
  · intro n u hp
    show wX_copyLine_26 post (nI a) (nI b) (nI c) (nI d) (nI p) (n + 1) (nI 8) (upd t b (t a)) (upd s b (s a)) u dr pa gs
    rw [wX_copyLine_26]
    exact pk_le 8 8 (fun _ => hp) (fun q => by omega)
  · intro n u i hi g
    show wX_copyLine_26 post (nI a) (nI b) (nI c) (nI d) (nI p) (n + 1) (nI i) (upd t b (t a)) (upd s b (s a)) u dr pa gs
    rw [wX_copyLine_26]
    dsimp only
    rw [la_ix, la_ix, nI_clamp (n := 8 * a + i) (by omega), nI_clamp (n := 8 * b + i) (by omega)]
    exact pk_le 8 i (fun q => by omega) (fun _ => ⟨vp_in_nI (by omega) (by omega), vp_in_nI (by omega) (by omega), nm_e (nm_r (nI_1 i) g)⟩)
theorem la_Xex {c d p g : Nat} {t s it dr pa gs : Nat → Int32} {post : Int32 → SX → Prop} (hc : c ≤ 60) (hg : g ≤ c) (h : post (nI g) (nI (c - g), nI d, nI p, (la_fo (la_ex g) g (c - g) (t, s, it)).1, (la_fo (la_ex g) g (c - g) (t, s, it)).2.1, (la_fo (la_ex g) g (c - g) (t, s, it)).2.2, dr, pa, gs)) : ∃ n, wX_expire_8 post (nI g) n (nI g) (nI c) (nI d) (nI p) t s it dr pa gs := by
  refine ⟨c - g + 1, ?_⟩
  have key : ∀ m l (q : la_A3), g ≤ l → l + m = c → post (nI g) (nI (c - g), nI d, nI p, (la_fo (la_ex g) l m q).1, (la_fo (la_ex g) l m q).2.1, (la_fo (la_ex g) l m q).2.2, dr, pa, gs) → wX_expire_8 post (nI g) (m + 1) (nI l) (nI c) (nI d) (nI p) q.1 q.2.1 q.2.2 dr pa gs := by
    intro m
    induction m with
    | zero =>
      intro l q h1 h2 hp
      rw [wX_expire_8]
      exact br_t (nI_le (by omega) (by omega)) (nm_r (pk_sub hg) hp)
    | succ m ih =>
      intro l q h1 h2 hp
      rw [wX_expire_8]
      dsimp only
      rw [pk_sub h1]
      refine br_f (nI_ge (by omega) (by omega)) (la_Xcp (by omega) (by omega) ?_)
      exact nm_r (nI_1 l) (ih (l + 1) (la_ex g l q) (by omega) (by omega) hp)
  exact key (c - g) g (t, s, it) (Nat.le_refl g) (by omega) h
theorem la_Yex {c d p g : Nat} {t s it dr pa tb : Nat → Int32} {post : Int32 → SY → Prop} (hc : c ≤ 60) (hg : g ≤ c) (h : post (nI g) (nI (c - g), nI d, nI p, (la_fo (la_ex g) g (c - g) (t, s, it)).1, (la_fo (la_ex g) g (c - g) (t, s, it)).2.1, (la_fo (la_ex g) g (c - g) (t, s, it)).2.2, dr, pa, tb)) : ∃ n, wY_expire_28 post (nI g) (nI c) (nI d) (nI p) n (nI g) t s it dr pa tb := by
  refine ⟨c - g + 1, ?_⟩
  have key : ∀ m l (q : la_A3), g ≤ l → l + m = c → post (nI g) (nI (c - g), nI d, nI p, (la_fo (la_ex g) l m q).1, (la_fo (la_ex g) l m q).2.1, (la_fo (la_ex g) l m q).2.2, dr, pa, tb) → wY_expire_28 post (nI g) (nI c) (nI d) (nI p) (m + 1) (nI l) q.1 q.2.1 q.2.2 dr pa tb := by
    intro m
    induction m with
    | zero =>
      intro l q h1 h2 hp
      rw [wY_expire_28]
      exact br_t (nI_le (by omega) (by omega)) (nm_r (pk_sub hg) hp)
    | succ m ih =>
      intro l q h1 h2 hp
      have hi := ih (l + 1) (la_ex g l q) (by omega) (by omega) hp
      have va : vp_in (nI l) 60 := vp_in_nI (by omega) (by omega)
      have vb : vp_in (nI (l - g)) 60 := vp_in_nI (by omega) (by omega)
      rw [wY_expire_28]
      dsimp only
      rw [pk_sub h1, nI_clamp (n := l) (by omega), nI_clamp (n := l - g) (by omega)]
      refine br_f (nI_ge (by omega) (by omega)) ⟨va, vb, nm_e ⟨va, vb, nm_e ⟨8 + 1, ?_⟩⟩⟩
      refine la_fl (fun n u x => wY_expire_67 post (wY_expire_28 post (nI g) (nI c) (nI d) (nI p) (m + 1)) (nI g) (nI l) (nI c) (nI d) (nI p) n x (upd q.1 (l - g) (q.1 l)) (upd q.2.1 (l - g) (q.2.1 l)) u dr pa tb) (fun u => wY_expire_28 post (nI g) (nI c) (nI d) (nI p) (m + 1) (nI (l + 1)) (upd q.1 (l - g) (q.1 l)) (upd q.2.1 (l - g) (q.2.1 l)) u dr pa tb) 8 (la_ci2 l (l - g)) ?_ ?_ 8 0 q.2.2 (by omega) hi
      · intro n u hp
        show wY_expire_67 post (wY_expire_28 post (nI g) (nI c) (nI d) (nI p) (m + 1)) (nI g) (nI l) (nI c) (nI d) (nI p) (n + 1) (nI 8) (upd q.1 (l - g) (q.1 l)) (upd q.2.1 (l - g) (q.2.1 l)) u dr pa tb
        rw [wY_expire_67]
        exact pk_le 8 8 (fun _ => nm_r (nI_1 l) hp) (fun q => by omega)
      · intro n u i hi g2
        show wY_expire_67 post (wY_expire_28 post (nI g) (nI c) (nI d) (nI p) (m + 1)) (nI g) (nI l) (nI c) (nI d) (nI p) (n + 1) (nI i) (upd q.1 (l - g) (q.1 l)) (upd q.2.1 (l - g) (q.2.1 l)) u dr pa tb
        rw [wY_expire_67]
        dsimp only
        rw [pk_sub h1, la_iy, la_iy, nI_clamp (n := 8 * l + i) (by omega), nI_clamp (n := 8 * (l - g) + i) (by omega)]
        exact pk_le 8 i (fun q => by omega) (fun _ => ⟨vp_in_nI (by omega) (by omega), vp_in_nI (by omega) (by omega), nm_e (nm_r (nI_1 i) g2)⟩)
  exact key (c - g) g (t, s, it) (Nat.le_refl g) (by omega) h
theorem la_tm {c : Nat} {t : Nat → Int32} (h : ∀ l, l + 1 < c → t l ≤ t (l + 1)) : ∀ m a, a + m < c → t a ≤ t (a + m) := by
  intro m
  induction m with
  | zero => intro a _; exact Int32.le_refl _
  | succ m ih =>
    intro a ha
    exact Int32.le_trans (ih a (by omega)) (h (a + m) (by omega))
noncomputable def la_go (c : Nat) (t : Nat → Int32) (v : Int32) : Nat := la_se (fun l => v ≤ t l) id c 0 c
theorem la_go_le (c : Nat) (t : Nat → Int32) (v : Int32) : la_go c t v ≤ c := by
  unfold la_go
  rcases la_ss (fun l => v ≤ t l) c c 0 with ⟨k, e1, e2, e3, _⟩ | ⟨e1, _⟩ <;> rw [e1] <;> omega
theorem la_go_cn {c : Nat} {t : Nat → Int32} (v : Int32) (h : ∀ l, l + 1 < c → t l ≤ t (l + 1)) : la_cn (fun l => ¬ v ≤ t l) 0 c = la_go c t v := by
  unfold la_go
  rcases la_ss (fun l => v ≤ t l) c c 0 with ⟨k, e1, e2, e3, e4, e5⟩ | ⟨e1, e2⟩
  · rw [e1]
    have z0 : la_cn (fun l => ¬ v ≤ t l) (0 + k) (c - k) = 0 := by
      refine la_cn_0 _ (c - k) (0 + k) (fun j a b w => w ?_)
      have z := la_tm h (j - k) k (by omega)
      rw [show k + (j - k) = j from by omega] at z
      exact Int32.le_trans e4 z
    have q : la_cn (fun l => ¬ v ≤ t l) 0 (k + (c - k)) = k := by
      rw [la_cn_add, la_cn_all _ k 0 (fun j a b => e5 j a (by omega)), z0]
      rfl
    rw [show k + (c - k) = c from by omega] at q
    exact q
  · rw [e1]
    exact la_cn_all _ c 0 (fun j a b => e2 j a b)
theorem i_vc_expire {k : Nat} {u : SX} {v : SY} (I : i_Rel k u v) (hk : k + 4 ≤ 2048) (v1 : Int32) : wpX_expire (fun r u' => wpY_expire (fun r' v' => r' = r ∧ i_Rel (k + 4) u' v') v v1) u v1 := by
  obtain ⟨c, d, p, t, s, it, dr, pa, gs, tb, rfl, rfl, hI⟩ := I
  have hL := hI.1
  have hc := hL.1
  have hg := la_go_le c t v1
  have kx : ∀ post : Int32 → Prop, post (nI (la_go c t v1)) → wpX_countBefore post (nI c, nI d, nI p, t, s, it, dr, pa, gs) v1 := by
    intro post h
    rw [← la_go_cn v1 hI.2.2.2.1] at h
    unfold wpX_countBefore
    refine ⟨c - 0 + 1, ?_⟩
    refine la_cl0 (fun n x y => wX_countBefore_4 post v1 (nI c) (nI d) (nI p) t s it dr pa gs n x y) post c (fun l => ¬ v1 ≤ t l) ?_ ?_ 0 (by omega) h
    · intro n x hp
      show wX_countBefore_4 post v1 (nI c) (nI d) (nI p) t s it dr pa gs (n + 1) x (nI c)
      rw [wX_countBefore_4]
      exact br_t (nI_le (by omega) (by omega)) hp
    · intro n x i hi f g
      show wX_countBefore_4 post v1 (nI c) (nI d) (nI p) t s it dr pa gs (n + 1) x (nI i)
      rw [wX_countBefore_4]
      dsimp only
      rw [nI_clamp (n := i) (by omega)]
      exact br_f (nI_ge hi (by omega)) ⟨vp_in_nI (by omega) (by omega), br_c (fun a => nm_r (nI_1 i) (g (fun q => q a))) (fun a => nm_e (nm_r (nI_1 i) (f a)))⟩
  have ky : ∀ post : Int32 → SY → Prop, (∃ n, wY_expire_28 post (nI (la_go c t v1)) (nI c) (nI d) (nI p) n (nI (la_go c t v1)) t s it dr pa tb) → wpY_expire post (nI c, nI d, nI p, t, s, it, dr, pa, tb) v1 := by
    intro post h
    unfold wpY_expire
    refine ⟨c + 1, ?_⟩
    refine la_sl (fun n x => wY_expire_2 post v1 (nI c) (nI d) (nI p) t s it dr pa tb n x) (fun g => ∃ n, wY_expire_28 post (nI g) (nI c) (nI d) (nI p) n (nI g) t s it dr pa tb) c (fun l => v1 ≤ t l) id c ?_ ?_ c 0 (by omega) h
    · intro n hp
      show wY_expire_2 post v1 (nI c) (nI d) (nI p) t s it dr pa tb (n + 1) (nI c)
      rw [wY_expire_2]
      exact br_t (nI_le (by omega) (by omega)) hp
    · intro n i hi f g
      show wY_expire_2 post v1 (nI c) (nI d) (nI p) t s it dr pa tb (n + 1) (nI i)
      rw [wY_expire_2]
      dsimp only
      rw [nI_clamp (n := i) (by omega)]
      exact br_f (nI_ge hi (by omega)) ⟨vp_in_nI (by omega) (by omega), br_c (fun a => f a) (fun a => nm_r (nI_1 i) (g a))⟩
  generalize la_go c t v1 = g at hg kx ky
  unfold wpX_expire
  refine kx _ (la_Xex hc hg (ky _ (la_Yex hc hg ⟨rfl, la_mk ?_⟩)))
  obtain ⟨h1, h2, h3, h4, h5, h6, h7⟩ := hI
  have S := la_exS g t s it (c - g) g (t, s, it) (Nat.le_refl g) ⟨fun j hj => by omega, fun j hj => ⟨rfl, rfl, fun i hi => rfl⟩⟩
  rw [show g + (c - g) = c from by omega] at S
  generalize la_fo (la_ex g) g (c - g) (t, s, it) = q at S
  have S := S.1
  have en : ∀ j, j < c - g → la_n q.2.1 j = la_n s (j + g) := fun j hj => congrArg Int32.toNatClampNeg (S j hj).2.1
  refine ⟨⟨by omega, fun j hj => ?_⟩, h2, h3, fun j hj => ?_, fun j hj i hi => ?_, h6, h7⟩
  · rw [en j hj, (S j hj).2.1]
    exact h1.2 (j + g) (by omega)
  · rw [(S j (by omega)).1, (S (j + 1) hj).1, show j + 1 + g = j + g + 1 from by omega]
    exact h4 (j + g) (by omega)
  · rw [en j hj] at hi
    obtain ⟨_, _, w⟩ := h1.2 (j + g) (by omega)
    rw [(S j hj).2.2 i (by omega)]
    exact h5 (j + g) (by omega) i hi
end
