section
theorem pk_us {f : Nat → Int32} {k : Nat} {x : Int32} : upd f k x k = x := if_pos rfl
theorem pk_un {f : Nat → Int32} {k j : Nat} {x : Int32} (h : j ≠ k) : upd f k x j = f j := if_neg h
theorem pk_sub {a b : Nat} (h : b ≤ a) : nI a - nI b = nI (a - b) := by
  obtain ⟨c, rfl⟩ : ∃ c, a = c + b := ⟨a - b, by omega⟩
  rw [← nI_add, Int32.add_sub_cancel, Nat.add_sub_cancel]
theorem pk_m1 (n : Nat) : nI (n + 1) + (-1) = nI n := by
  rw [← nI_1, Int32.add_assoc, show (1 : Int32) + (-1) = 0 from rfl, Int32.add_zero]
theorem pk_mul (a b : Nat) : nI a * nI b = nI (a * b) := (Int32.ofNat_mul a b).symm
theorem pk_div {a d : Nat} (ha : a < 2 ^ 31) (h0 : 0 < d) (hd : d < 2 ^ 31) : nI a / nI d = nI (a / d) := by
  apply Int32.toInt_inj.mp
  rw [lg_idiv_nonneg (by rw [nI_toInt ha]; omega) (by rw [nI_toInt hd]; omega), nI_toInt ha, nI_toInt hd, nI_toInt (Nat.lt_of_le_of_lt (Nat.div_le_self a d) ha)]
  first | rfl | exact (Int.natCast_ediv _ _).symm
theorem pk_rem {a d : Nat} (ha : a < 2 ^ 31) (h0 : 0 < d) (hd : d < 2 ^ 31) : nI a - nI a / nI d * nI d = nI (a % d) := by
  rw [pk_div ha h0 hd, pk_mul, pk_sub (Nat.div_mul_le_self a d)]
  exact congrArg nI (by have := Nat.div_add_mod' a d; omega)
theorem pk_sub_toInt {a b : Nat} (ha : a < 2 ^ 30) (hb : b < 2 ^ 30) : (nI a - nI b).toInt = (a : Int) - b := by
  rw [Int32.toInt_sub, nI_toInt (by omega), nI_toInt (by omega)]
  exact Int.bmod_eq_of_le (by omega) (by omega)
theorem pk_sneg {a b : Nat} (hb : b < 2 ^ 30) (h : a < b) : nI a - nI b < 0 := by
  rw [Int32.lt_iff_toInt_lt, pk_sub_toInt (by omega) hb, show (0 : Int32).toInt = 0 from by decide]
  omega
theorem pk_ix (x : Int32) {n : Nat} (hn : n < 2 ^ 31) : x < 0 ∨ nI n ≤ x ∨ ∃ j : Nat, j < n ∧ x = nI j := by
  by_cases h : x < 0
  · exact Or.inl h
  · obtain ⟨j, hj, rfl⟩ := nI_of h
    by_cases h2 : j < n
    · exact Or.inr (Or.inr ⟨j, h2, rfl⟩)
    · exact Or.inr (Or.inl (nI_le (by omega) hj))
theorem pk_le {x y : Int32} {A B : Prop} (a b : Nat) (f : a ≤ b → A) (g : b < a → B) (hx : x = nI a := by rfl) (hy : y = nI b := by rfl) (ha : a < 2 ^ 31 := by omega) (hb : b < 2 ^ 31 := by omega) : (x ≤ y → A) ∧ (¬ x ≤ y → B) := by
  subst hx hy
  rw [nI_leI ha hb]
  exact ⟨f, fun z => g (by omega)⟩
theorem pk_lt {x y : Int32} {A B : Prop} (a b : Nat) (f : a < b → A) (g : b ≤ a → B) (hx : x = nI a := by rfl) (hy : y = nI b := by rfl) (ha : a < 2 ^ 31 := by omega) (hb : b < 2 ^ 31 := by omega) : (x < y → A) ∧ (¬ x < y → B) := by
  subst hx hy
  rw [nI_ltI ha hb]
  exact ⟨f, fun z => g (by omega)⟩
theorem pk_eq {x y : Int32} {A B : Prop} (a b : Nat) (f : a = b → A) (g : a ≠ b → B) (hx : x = nI a := by rfl) (hy : y = nI b := by rfl) (ha : a < 2 ^ 31 := by omega) (hb : b < 2 ^ 31 := by omega) : (x = y → A) ∧ (¬ x = y → B) := by
  subst hx hy
  rw [nI_eq ha hb]
  exact ⟨f, g⟩
theorem pk_in {x : Int32} (n N : Nat) (h : n < N) (hx : x = nI n := by rfl) (hN : N < 2 ^ 31 := by omega) : vp_in x N := by
  subst hx
  exact vp_in_nI h hN
theorem pk_cl {x : Int32} (n : Nat) (hx : x = nI n := by rfl) (h : n < 2 ^ 31 := by omega) : x.toNatClampNeg = n := by
  subst hx
  exact nI_clamp h
def sm_cn (T : Nat → Bool) : Nat → Nat
  | 0 => 0
  | k + 1 => if T k then sm_cn T k + 1 else sm_cn T k
theorem sm_cn_t {T : Nat → Bool} {k : Nat} (h : T k = true) : sm_cn T (k + 1) = sm_cn T k + 1 := by
  show (if T k then sm_cn T k + 1 else sm_cn T k) = _
  rw [if_pos h]
theorem sm_cn_f {T : Nat → Bool} {k : Nat} (h : T k = false) : sm_cn T (k + 1) = sm_cn T k := by
  show (if T k then sm_cn T k + 1 else sm_cn T k) = _
  rw [h]; rfl
theorem sm_cn_le (T : Nat → Bool) : ∀ k, sm_cn T k ≤ k := by
  intro k
  induction k with
  | zero => exact Nat.le_refl 0
  | succ k ih =>
    cases h : T k
    · rw [sm_cn_f h]; omega
    · rw [sm_cn_t h]; omega
theorem sm_cn_mono (T : Nat → Bool) (a : Nat) : ∀ d, sm_cn T a ≤ sm_cn T (a + d) := by
  intro d
  induction d with
  | zero => exact Nat.le_refl _
  | succ d ih =>
    rw [← Nat.add_assoc]
    cases h : T (a + d)
    · rw [sm_cn_f h]; exact ih
    · rw [sm_cn_t h]; omega
theorem sm_cn_flat (T : Nat → Bool) (a : Nat) : ∀ d, (∀ j, a ≤ j → j < a + d → T j = false) → sm_cn T (a + d) = sm_cn T a := by
  intro d
  induction d with
  | zero => intro _; rfl
  | succ d ih =>
    intro h
    rw [← Nat.add_assoc, sm_cn_f (h (a + d) (by omega) (by omega))]
    exact ih (fun j h1 h2 => h j h1 (by omega))
theorem sm_cn_congr {A B : Nat → Bool} : ∀ k, (∀ j, j < k → A j = B j) → sm_cn A k = sm_cn B k := by
  intro k
  induction k with
  | zero => intro _; rfl
  | succ k ih =>
    intro h
    have e := ih (fun j hj => h j (by omega))
    have f := h k (by omega)
    cases hb : B k
    · rw [sm_cn_f (f.trans hb), sm_cn_f hb, e]
    · rw [sm_cn_t (f.trans hb), sm_cn_t hb, e]
theorem sm_cn_sub {A B : Nat → Bool} : ∀ k, (∀ j, j < k → A j = true → B j = true) → sm_cn A k ≤ sm_cn B k := by
  intro k
  induction k with
  | zero => intro _; exact Nat.le_refl _
  | succ k ih =>
    intro h
    have e := ih (fun j hj => h j (by omega))
    have f := h k (by omega)
    cases ha : A k
    · rw [sm_cn_f ha]
      exact Nat.le_trans e (sm_cn_mono B k 1)
    · rw [sm_cn_t ha, sm_cn_t (f ha)]; omega
theorem sm_cn_lt {A B : Nat → Bool} {p : Nat} : ∀ k, p < k → (∀ j, j < k → A j = true → B j = true) → A p = false → B p = true → sm_cn A k < sm_cn B k := by
  intro k
  induction k with
  | zero => intro h; omega
  | succ k ih =>
    intro hp h a b
    by_cases hk : p = k
    · cases hk
      rw [sm_cn_f a, sm_cn_t b]
      have := sm_cn_sub p (fun j hj => h j (by omega))
      omega
    · have e := ih (by omega) (fun j hj => h j (by omega)) a b
      have f := h k (by omega)
      cases ha : A k
      · rw [sm_cn_f ha]
        exact Nat.lt_of_lt_of_le e (sm_cn_mono B k 1)
      · rw [sm_cn_t ha, sm_cn_t (f ha)]; omega
theorem sm_cn_ivt (T : Nat → Bool) (m : Nat) : ∀ k, m < sm_cn T k → ∃ j, j < k ∧ T j = true ∧ sm_cn T j = m := by
  intro k
  induction k with
  | zero => intro h; exact absurd h (Nat.not_lt_zero m)
  | succ k ih =>
    intro h
    cases hT : T k
    · rw [sm_cn_f hT] at h
      obtain ⟨j, h1, h2, h3⟩ := ih h
      exact ⟨j, by omega, h2, h3⟩
    · rw [sm_cn_t hT] at h
      by_cases g : m < sm_cn T k
      · obtain ⟨j, h1, h2, h3⟩ := ih g
        exact ⟨j, by omega, h2, h3⟩
      · exact ⟨k, by omega, hT, by omega⟩
theorem sm_cn_pre {T : Nat → Bool} {q : Nat} : ∀ n, (∀ m, m < n → (T m = true ↔ m < q)) → sm_cn T n = if n ≤ q then n else q := by
  intro n
  induction n with
  | zero => intro _; rw [if_pos (Nat.zero_le q)]; rfl
  | succ n ih =>
    intro h
    have e := ih (fun m hm => h m (by omega))
    have f := h n (by omega)
    by_cases g : n < q
    · rw [sm_cn_t (f.mpr g), e, if_pos (by omega), if_pos (by omega)]
    · have f' : T n = false := by
        cases hT : T n
        · rfl
        · exact absurd (f.mp hT) g
      rw [sm_cn_f f', e, if_neg (by omega : ¬ n + 1 ≤ q)]
      split <;> omega
theorem sm_pre (P : Nat → Prop) : ∀ l, (∀ i j, i < j → j < l → P j → P i) → ∃ q, q ≤ l ∧ ∀ m, m < l → (P m ↔ m < q) := by
  intro l
  induction l with
  | zero => intro _; exact ⟨0, Nat.le_refl 0, fun m hm => absurd hm (Nat.not_lt_zero m)⟩
  | succ l ih =>
    intro h
    obtain ⟨q, hq, hm⟩ := ih (fun i j a b c => h i j a (by omega) c)
    by_cases hl : P l
    · refine ⟨l + 1, Nat.le_refl _, fun m hml => ⟨fun _ => hml, fun _ => ?_⟩⟩
      by_cases e : m = l
      · rw [e]; exact hl
      · exact h m l (by omega) (by omega) hl
    · refine ⟨q, by omega, fun m hml => ?_⟩
      by_cases e : m = l
      · rw [e]; exact ⟨fun z => absurd z hl, fun z => absurd z (by omega)⟩
      · exact hm m (by omega)
theorem sm_swap {A B : Nat → Bool} {q : Nat} (h1 : A q = B (q + 1)) (h2 : A (q + 1) = B q) (h3 : ∀ j, j ≠ q → j ≠ q + 1 → A j = B j) : ∀ d, sm_cn A (q + 2 + d) = sm_cn B (q + 2 + d) := by
  intro d
  induction d with
  | zero =>
    have e := sm_cn_congr q (fun j hj => h3 j (by omega) (by omega))
    show sm_cn A (q + 1 + 1) = sm_cn B (q + 1 + 1)
    cases hb : B q <;> cases hb' : B (q + 1)
    · rw [sm_cn_f (h2.trans hb), sm_cn_f (h1.trans hb'), sm_cn_f hb', sm_cn_f hb, e]
    · rw [sm_cn_f (h2.trans hb), sm_cn_t (h1.trans hb'), sm_cn_t hb', sm_cn_f hb, e]
    · rw [sm_cn_t (h2.trans hb), sm_cn_f (h1.trans hb'), sm_cn_f hb', sm_cn_t hb, e]
    · rw [sm_cn_t (h2.trans hb), sm_cn_t (h1.trans hb'), sm_cn_t hb', sm_cn_t hb, e]
  | succ d ih =>
    have f := h3 (q + 2 + d) (by omega) (by omega)
    rw [← Nat.add_assoc]
    cases hb : B (q + 2 + d)
    · rw [sm_cn_f (f.trans hb), sm_cn_f hb, ih]
    · rw [sm_cn_t (f.trans hb), sm_cn_t hb, ih]
/-- sorted below n -/
def sm_so (w : Nat → Int32) (n : Nat) : Prop := ∀ i j, i < j → j < n → w i ≤ w j
theorem sm_thr {w : Nat → Int32} {n : Nat} (p : Int32 → Bool) (hp : ∀ x y, x ≤ y → p y = true → p x = true) (h : sm_so w n) {i : Nat} (hi : i < n) : p (w i) = true ↔ i < sm_cn (fun i => p (w i)) n := by
  obtain ⟨q, hq, hm⟩ := sm_pre (fun m => p (w m) = true) n (fun i j a b c => hp _ _ (h i j a b) c)
  have e := sm_cn_pre (T := fun i => p (w i)) (q := q) n hm
  have e' : sm_cn (fun i => p (w i)) n = q := by rw [e]; split <;> omega
  rw [e']
  exact hm i hi
theorem sm_fw {T : Nat → Bool} {tv val : Nat → Int32} (p : Int32 → Bool) : ∀ k, (∀ j, j < k → T j = true → tv (sm_cn T j) = val j) → sm_cn (fun i => p (tv i)) (sm_cn T k) = sm_cn (fun j => T j && p (val j)) k := by
  intro k
  induction k with
  | zero => intro _; rfl
  | succ k ih =>
    intro h
    have e := ih (fun j hj => h j (by omega))
    have f := h k (by omega)
    cases hT : T k
    · rw [sm_cn_f hT, sm_cn_f (T := fun j => T j && p (val j)) (by simp [hT]), e]
    · rw [sm_cn_t hT]
      cases hp : p (val k)
      · rw [sm_cn_f (T := fun i => p (tv i)) (by show p (tv (sm_cn T k)) = false; rw [f hT, hp]), sm_cn_f (T := fun j => T j && p (val j)) (by simp [hT, hp]), e]
      · rw [sm_cn_t (T := fun i => p (tv i)) (by show p (tv (sm_cn T k)) = true; rw [f hT, hp]), sm_cn_t (T := fun j => T j && p (val j)) (by simp [hT, hp]), e]
/-- the fold of f over the k below with T k -/
def sm_fo (f : Int32 → Int32 → Int32) (a : Int32) (T : Nat → Bool) (val : Nat → Int32) : Nat → Int32
  | 0 => a
  | k + 1 => if T k then f (sm_fo f a T val k) (val k) else sm_fo f a T val k
theorem sm_fo_t {f : Int32 → Int32 → Int32} {a : Int32} {T : Nat → Bool} {val : Nat → Int32} {k : Nat} (h : T k = true) : sm_fo f a T val (k + 1) = f (sm_fo f a T val k) (val k) := by
  show (if T k then f (sm_fo f a T val k) (val k) else sm_fo f a T val k) = _
  rw [if_pos h]
theorem sm_fo_f {f : Int32 → Int32 → Int32} {a : Int32} {T : Nat → Bool} {val : Nat → Int32} {k : Nat} (h : T k = false) : sm_fo f a T val (k + 1) = sm_fo f a T val k := by
  show (if T k then f (sm_fo f a T val k) (val k) else sm_fo f a T val k) = _
  rw [h]; rfl
theorem sm_fo_x {f : Int32 → Int32 → Int32} {a : Int32} {T : Nat → Bool} {tv val : Nat → Int32} : ∀ k, (∀ j, j < k → T j = true → tv (sm_cn T j) = val j) → sm_fo f a (fun _ => true) tv (sm_cn T k) = sm_fo f a T val k := by
  intro k
  induction k with
  | zero => intro _; rfl
  | succ k ih =>
    intro h
    have e := ih (fun j hj => h j (by omega))
    have g := h k (by omega)
    cases hT : T k
    · rw [sm_cn_f hT, sm_fo_f hT, e]
    · rw [sm_cn_t hT, sm_fo_t hT, sm_fo_t rfl, e, g hT]
end
