section
theorem pk_us {f : Nat → Int32} {k : Nat} {x : Int32} : upd f k x k = x := if_pos rfl
theorem pk_un {f : Nat → Int32} {k j : Nat} {x : Int32} (h : j ≠ k) : upd f k x j = f j := if_neg h
theorem pk_sub {a b : Nat} (h : b ≤ a) : nI a - nI b = nI (a - b) := by
  obtain ⟨c, rfl⟩ : ∃ c, a = c + b := ⟨a - b, by omega⟩
  rw [← nI_add, Int32.add_sub_cancel, Nat.add_sub_cancel]
theorem pk_m1 (n : Nat) : nI (n + 1) + (-1) = nI n := by
  rw [← nI_1, Int32.add_assoc, show (1 : Int32) + (-1) = 0 from rfl, Int32.add_zero]
theorem pk_mul (a b : Nat) : nI a * nI b = nI (a * b) := (Int32.ofNat_mul a b).symm
theorem pk_div {a d : Nat} (ha : a < 2 ^ 31) (h0 : 0 < d) (hd : d < 2 ^ 31) : nI a / nI d = nI (a / d) := by
  apply Int32.toInt_inj.mp
  rw [lg_idiv_nonneg (by rw [nI_toInt ha]; omega) (by rw [nI_toInt hd]; omega), nI_toInt ha, nI_toInt hd, nI_toInt (Nat.lt_of_le_of_lt (Nat.div_le_self a d) ha)]
  first | rfl | exact (Int.natCast_ediv _ _).symm
theorem pk_rem {a d : Nat} (ha : a < 2 ^ 31) (h0 : 0 < d) (hd : d < 2 ^ 31) : nI a - nI a / nI d * nI d = nI (a % d) := by
  rw [pk_div ha h0 hd, pk_mul, pk_sub (Nat.div_mul_le_self a d)]
  exact congrArg nI (by have := Nat.div_add_mod' a d; omega)
theorem pk_sub_toInt {a b : Nat} (ha : a < 2 ^ 30) (hb : b < 2 ^ 30) : (nI a - nI b).toInt = (a : Int) - b := by
  rw [Int32.toInt_sub, nI_toInt (by omega), nI_toInt (by omega)]
  exact Int.bmod_eq_of_le (by omega) (by omega)
theorem pk_sneg {a b : Nat} (hb : b < 2 ^ 30) (h : a < b) : nI a - nI b < 0 := by
  rw [Int32.lt_iff_toInt_lt, pk_sub_toInt (by omega) hb, show (0 : Int32).toInt = 0 from by decide]
  omega
theorem pk_ix (x : Int32) {n : Nat} (hn : n < 2 ^ 31) : x < 0 ∨ nI n ≤ x ∨ ∃ j : Nat, j < n ∧ x = nI j := by
  by_cases h : x < 0
  · exact Or.inl h
  · obtain ⟨j, hj, rfl⟩ := nI_of h
    by_cases h2 : j < n
    · exact Or.inr (Or.inr ⟨j, h2, rfl⟩)
    · exact Or.inr (Or.inl (nI_le (by omega) hj))
theorem pk_le {x y : Int32} {A B : Prop} (a b : Nat) (f : a ≤ b → A) (g : b < a → B) (hx : x = nI a := by rfl) (hy : y = nI b := by rfl) (ha : a < 2 ^ 31 := by omega) (hb : b < 2 ^ 31 := by omega) : (x ≤ y → A) ∧ (¬ x ≤ y → B) := by
  subst hx hy
  rw [nI_leI ha hb]
  exact ⟨f, fun z => g (by omega)⟩
theorem pk_lt {x y : Int32} {A B : Prop} (a b : Nat) (f : a < b → A) (g : b ≤ a → B) (hx : x = nI a := by rfl) (hy : y = nI b := by rfl) (ha : a < 2 ^ 31 := by omega) (hb : b < 2 ^ 31 := by omega) : (x < y → A) ∧ (¬ x < y → B) := by
  subst hx hy
  rw [nI_ltI ha hb]
  exact ⟨f, fun z => g (by omega)⟩
theorem pk_eq {x y : Int32} {A B : Prop} (a b : Nat) (f : a = b → A) (g : a ≠ b → B) (hx : x = nI a := by rfl) (hy : y = nI b := by rfl) (ha : a < 2 ^ 31 := by omega) (hb : b < 2 ^ 31 := by omega) : (x = y → A) ∧ (¬ x = y → B) := by
  subst hx hy
  rw [nI_eq ha hb]
  exact ⟨f, g⟩
theorem pk_in {x : Int32} (n N : Nat) (h : n < N) (hx : x = nI n := by rfl) (hN : N < 2 ^ 31 := by omega) : vp_in x N := by
  subst hx
  exact vp_in_nI h hN
theorem pk_cl {x : Int32} (n : Nat) (hx : x = nI n := by rfl) (h : n < 2 ^ 31 := by omega) : x.toNatClampNeg = n := by
  subst hx
  exact nI_clamp h
def sm_cn (T : Nat → Bool) : Nat → Nat
  | 0 => 0
  | k + 1 => if T k then sm_cn T k + 1 else sm_cn T k
theorem sm_cn_t {T : Nat → Bool} {k : Nat} (h : T k = true) : sm_cn T (k + 1) = sm_cn T k + 1 := by
  show (if T k then sm_cn T k + 1 else sm_cn T k) = _
  rw [if_pos h]
theorem sm_cn_f {T : Nat → Bool} {k : Nat} (h : T k = false) : sm_cn T (k + 1) = sm_cn T k := by
  show (if T k then sm_cn T k + 1 else sm_cn T k) = _
  rw [h]; rfl
theorem sm_cn_le (T : Nat → Bool) : ∀ k, sm_cn T k ≤ k := by
  intro k
  induction k with
  | zero => exact Nat.le_refl 0
  | succ k ih =>
    cases h : T k
    · rw [sm_cn_f h]; omega
    · rw [sm_cn_t h]; omega
theorem sm_cn_mono (T : Nat → Bool) (a : Nat) : ∀ d, sm_cn T a ≤ sm_cn T (a + d) := by
  intro d
  induction d with
  | zero => exact Nat.le_refl _
  | succ d ih =>
    rw [← Nat.add_assoc]
    cases h : T (a + d)
    · rw [sm_cn_f h]; exact ih
    · rw [sm_cn_t h]; omega
theorem sm_cn_flat (T : Nat → Bool) (a : Nat) : ∀ d, (∀ j, a ≤ j → j < a + d → T j = false) → sm_cn T (a + d) = sm_cn T a := by
  intro d
  induction d with
  | zero => intro _; rfl
  | succ d ih =>
    intro h
    rw [← Nat.add_assoc, sm_cn_f (h (a + d) (by omega) (by omega))]
    exact ih (fun j h1 h2 => h j h1 (by omega))
theorem sm_cn_congr {A B : Nat → Bool} : ∀ k, (∀ j, j < k → A j = B j) → sm_cn A k = sm_cn B k := by
  intro k
  induction k with
  | zero => intro _; rfl
  | succ k ih =>
    intro h
    have e := ih (fun j hj => h j (by omega))
    have f := h k (by omega)
    cases hb : B k
    · rw [sm_cn_f (f.trans hb), sm_cn_f hb, e]
    · rw [sm_cn_t (f.trans hb), sm_cn_t hb, e]
theorem sm_cn_sub {A B : Nat → Bool} : ∀ k, (∀ j, j < k → A j = true → B j = true) → sm_cn A k ≤ sm_cn B k := by
  intro k
  induction k with
  | zero => intro _; exact Nat.le_refl _
  | succ k ih =>
    intro h
    have e := ih (fun j hj => h j (by omega))
    have f := h k (by omega)
    cases ha : A k
    · rw [sm_cn_f ha]
      exact Nat.le_trans e (sm_cn_mono B k 1)
    · rw [sm_cn_t ha, sm_cn_t (f ha)]; omega
theorem sm_cn_lt {A B : Nat → Bool} {p : Nat} : ∀ k, p < k → (∀ j, j < k → A j = true → B j = true) → A p = false → B p = true → sm_cn A k < sm_cn B k := by
  intro k
  induction k with
  | zero => intro h; omega
  | succ k ih =>
    intro hp h a b
    by_cases hk : p = k
    · cases hk
      rw [sm_cn_f a, sm_cn_t b]
      have := sm_cn_sub p (fun j hj => h j (by omega))
      omega
    · have e := ih (by omega) (fun j hj => h j (by omega)) a b
      have f := h k (by omega)
      cases ha : A k
      · rw [sm_cn_f ha]
        exact Nat.lt_of_lt_of_le e (sm_cn_mono B k 1)
      · rw [sm_cn_t ha, sm_cn_t (f ha)]; omega
theorem sm_cn_ivt (T : Nat → Bool) (m : Nat) : ∀ k, m < sm_cn T k → ∃ j, j < k ∧ T j = true ∧ sm_cn T j = m := by
  intro k
  induction k with
  | zero => intro h; exact absurd h (Nat.not_lt_zero m)
  | succ k ih =>
    intro h
    cases hT : T k
    · rw [sm_cn_f hT] at h
      obtain ⟨j, h1, h2, h3⟩ := ih h
      exact ⟨j, by omega, h2, h3⟩
    · rw [sm_cn_t hT] at h
      by_cases g : m < sm_cn T k
      · obtain ⟨j, h1, h2, h3⟩ := ih g
        exact ⟨j, by omega, h2, h3⟩
      · exact ⟨k, by omega, hT, by omega⟩
theorem sm_cn_pre {T : Nat → Bool} {q : Nat} : ∀ n, (∀ m, m < n → (T m = true ↔ m < q)) → sm_cn T n = if n ≤ q then n else q := by
  intro n
  induction n with
  | zero => intro _; rw [if_pos (Nat.zero_le q)]; rfl
  | succ n ih =>
    intro h
    have e := ih (fun m hm => h m (by omega))
    have f := h n (by omega)
    by_cases g : n < q
    · rw [sm_cn_t (f.mpr g), e, if_pos (by omega), if_pos (by omega)]
    · have f' : T n = false := by
        cases hT : T n
        · rfl
        · exact absurd (f.mp hT) g
      rw [sm_cn_f f', e, if_neg (by omega : ¬ n + 1 ≤ q)]
      split <;> omega
theorem sm_pre (P : Nat → Prop) : ∀ l, (∀ i j, i < j → j < l → P j → P i) → ∃ q, q ≤ l ∧ ∀ m, m < l → (P m ↔ m < q) := by
  intro l
  induction l with
  | zero => intro _; exact ⟨0, Nat.le_refl 0, fun m hm => absurd hm (Nat.not_lt_zero m)⟩
  | succ l ih =>
    intro h
    obtain ⟨q, hq, hm⟩ := ih (fun i j a b c => h i j a (by omega) c)
    by_cases hl : P l
    · refine ⟨l + 1, Nat.le_refl _, fun m hml => ⟨fun _ => hml, fun _ => ?_⟩⟩
      by_cases e : m = l
      · rw [e]; exact hl
      · exact h m l (by omega) (by omega) hl
    · refine ⟨q, by omega, fun m hml => ?_⟩
      by_cases e : m = l
      · rw [e]; exact ⟨fun z => absurd z hl, fun z => absurd z (by omega)⟩
      · exact hm m (by omega)
theorem sm_swap {A B : Nat → Bool} {q : Nat} (h1 : A q = B (q + 1)) (h2 : A (q + 1) = B q) (h3 : ∀ j, j ≠ q → j ≠ q + 1 → A j = B j) : ∀ d, sm_cn A (q + 2 + d) = sm_cn B (q + 2 + d) := by
  intro d
  induction d with
  | zero =>
    have e := sm_cn_congr q (fun j hj => h3 j (by omega) (by omega))
    show sm_cn A (q + 1 + 1) = sm_cn B (q + 1 + 1)
    cases hb : B q <;> cases hb' : B (q + 1)
    · rw [sm_cn_f (h2.trans hb), sm_cn_f (h1.trans hb'), sm_cn_f hb', sm_cn_f hb, e]
    · rw [sm_cn_f (h2.trans hb), sm_cn_t (h1.trans hb'), sm_cn_t hb', sm_cn_f hb, e]
    · rw [sm_cn_t (h2.trans hb), sm_cn_f (h1.trans hb'), sm_cn_f hb', sm_cn_t hb, e]
    · rw [sm_cn_t (h2.trans hb), sm_cn_t (h1.trans hb'), sm_cn_t hb', sm_cn_t hb, e]
  | succ d ih =>
    have f := h3 (q + 2 + d) (by omega) (by omega)
    rw [← Nat.add_assoc]
    cases hb : B (q + 2 + d)
    · rw [sm_cn_f (f.trans hb), sm_cn_f hb, ih]
    · rw [sm_cn_t (f.trans hb), sm_cn_t hb, ih]
/-- sorted below n -/
def sm_so (w : Nat → Int32) (n : Nat) : Prop := ∀ i j, i < j → j < n → w i ≤ w j
theorem sm_thr {w : Nat → Int32} {n : Nat} (p : Int32 → Bool) (hp : ∀ x y, x ≤ y → p y = true → p x = true) (h : sm_so w n) {i : Nat} (hi : i < n) : p (w i) = true ↔ i < sm_cn (fun i => p (w i)) n := by
  obtain ⟨q, hq, hm⟩ := sm_pre (fun m => p (w m) = true) n (fun i j a b c => hp _ _ (h i j a b) c)
  have e := sm_cn_pre (T := fun i => p (w i)) (q := q) n hm
  have e' : sm_cn (fun i => p (w i)) n = q := by rw [e]; split <;> omega
  rw [e']
  exact hm i hi
theorem sm_fw {T : Nat → Bool} {tv val : Nat → Int32} (p : Int32 → Bool) : ∀ k, (∀ j, j < k → T j = true → tv (sm_cn T j) = val j) → sm_cn (fun i => p (tv i)) (sm_cn T k) = sm_cn (fun j => T j && p (val j)) k := by
  intro k
  induction k with
  | zero => intro _; rfl
  | succ k ih =>
    intro h
    have e := ih (fun j hj => h j (by omega))
    have f := h k (by omega)
    cases hT : T k
    · rw [sm_cn_f hT, sm_cn_f (T := fun j => T j && p (val j)) (by simp [hT]), e]
    · rw [sm_cn_t hT]
      cases hp : p (val k)
      · rw [sm_cn_f (T := fun i => p (tv i)) (by show p (tv (sm_cn T k)) = false; rw [f hT, hp]), sm_cn_f (T := fun j => T j && p (val j)) (by simp [hT, hp]), e]
      · rw [sm_cn_t (T := fun i => p (tv i)) (by show p (tv (sm_cn T k)) = true; rw [f hT, hp]), sm_cn_t (T := fun j => T j && p (val j)) (by simp [hT, hp]), e]
/-- the fold of f over the k below with T k -/
def sm_fo (f : Int32 → Int32 → Int32) (a : Int32) (T : Nat → Bool) (val : Nat → Int32) : Nat → Int32
  | 0 => a
  | k + 1 => if T k then f (sm_fo f a T val k) (val k) else sm_fo f a T val k
theorem sm_fo_t {f : Int32 → Int32 → Int32} {a : Int32} {T : Nat → Bool} {val : Nat → Int32} {k : Nat} (h : T k = true) : sm_fo f a T val (k + 1) = f (sm_fo f a T val k) (val k) := by
  show (if T k then f (sm_fo f a T val k) (val k) else sm_fo f a T val k) = _
  rw [if_pos h]
theorem sm_fo_f {f : Int32 → Int32 → Int32} {a : Int32} {T : Nat → Bool} {val : Nat → Int32} {k : Nat} (h : T k = false) : sm_fo f a T val (k + 1) = sm_fo f a T val k := by
  show (if T k then f (sm_fo f a T val k) (val k) else sm_fo f a T val k) = _
  rw [h]; rfl
theorem sm_fo_x {f : Int32 → Int32 → Int32} {a : Int32} {T : Nat → Bool} {tv val : Nat → Int32} : ∀ k, (∀ j, j < k → T j = true → tv (sm_cn T j) = val j) → sm_fo f a (fun _ => true) tv (sm_cn T k) = sm_fo f a T val k := by
  intro k
  induction k with
  | zero => intro _; rfl
  | succ k ih =>
    intro h
    have e := ih (fun j hj => h j (by omega))
    have g := h k (by omega)
    cases hT : T k
    · rw [sm_cn_f hT, sm_fo_f hT, e]
    · rw [sm_cn_t hT, sm_fo_t hT, sm_fo_t rfl, e, g hT]
end
section
def sm_b (x : Bool) : Int32 := cond x 1 0
def sm_hd (d v : Nat) : Bool := if d = 4 then true else if d < 4 then decide (v = d) else decide (¬ v = d - 5)
def sm_mt (m b : Nat) : Bool := sm_hd (m % 9) (b % 4) && (sm_hd (m / 9 % 9) (b / 4 % 4) && sm_hd (m / 81) (b / 16))
/-- one side's state: c series -/
def sm_I (c : Nat) (lab len lat tim val : Nat → Int32) : Prop :=
  c ≤ 8 ∧ (∀ s, s < c → ∃ b, b ≤ 63 ∧ lab s = nI b) ∧
  (∀ s, s < c → ∃ l, l ≤ 32 ∧ len s = nI l ∧
    (∀ i j, i < j → j < l → tim (32 * s + i) < tim (32 * s + j)) ∧
    (∀ i, i < l → tim (32 * s + i) ≤ lat s) ∧
    (∀ i, i < l → -1000 ≤ val (32 * s + i) ∧ val (32 * s + i) ≤ 1000))
/-- sample k is taken -/
def sm_T (c m : Nat) (t u : Int32) (lab len tim : Nat → Int32) (k : Nat) : Bool :=
  decide (k / 32 < c) && (decide (k % 32 < (len (k / 32)).toNatClampNeg) && (decide (¬ tim k < t) && (decide (¬ u < tim k) && sm_mt m (lab (k / 32)).toNatClampNeg)))
theorem sm_bb {x : Bool} {A B : Prop} (f : x = false → A) (g : x = true → B) : (sm_b x = 0 → A) ∧ (¬ sm_b x = 0 → B) := by
  cases x
  · exact br_t rfl (f rfl)
  · exact br_f (by decide) (g rfl)
section
variable {sc sv lv : Int32} {lab len lat tim val slab slen slat stim sval tv ts : Nat → Int32}
theorem sm_holds (d v : Nat) (hd : d < 9) (hv : v < 4) {post : Int32 → Prop} (h : post (sm_b (sm_hd d v))) : wpX_holds post (sc, sv, lv, lab, len, lat, tim, val, slab, slen, slat, stim, sval, tv, ts) (nI d) (nI v) := by
  refine pk_eq d 4 (fun e => ?_) (fun e => pk_le 4 d (fun g => ?_) (fun g => ?_))
  · have z : sm_hd d v = true := by simp [sm_hd, e]
    rw [z] at h; exact h
  · refine pk_eq v (d - 5) (fun e2 => ?_) (fun e2 => ?_) rfl (pk_sub (b := 5) (by omega))
    · have z : sm_hd d v = false := by
        rw [sm_hd, if_neg e, if_neg (by omega)]; simp [e2]
      rw [z] at h; exact h
    · have z : sm_hd d v = true := by
        rw [sm_hd, if_neg e, if_neg (by omega)]; simp [e2]
      rw [z] at h; exact h
  · refine pk_eq v d (fun e2 => ?_) (fun e2 => ?_)
    · have z : sm_hd d v = true := by
        rw [sm_hd, if_neg e, if_pos (by omega)]; simp [e2]
      rw [z] at h; exact h
    · have z : sm_hd d v = false := by
        rw [sm_hd, if_neg e, if_pos (by omega)]; simp [e2]
      rw [z] at h; exact h
theorem sm_xm {s m b : Nat} (hs : s < 8) (hm : m ≤ 728) (hb : b ≤ 63) (eb : lab s = nI b) {post : Int32 → Prop} (h : post (sm_b (sm_mt m b))) : wpX_matches post (sc, sv, lv, lab, len, lat, tim, val, slab, slen, slat, stim, sval, tv, ts) (nI s) (nI m) := by
  refine ⟨vp_in_nI hs (by omega), nm_r (e' := nI b) (by rw [nI_clamp (by omega)]; exact eb) ⟨by decide, by decide, ?_⟩⟩
  have e1 : nI m - nI m / 9 * 9 = nI (m % 9) := pk_rem (d := 9) (by omega) (by omega) (by omega)
  have e2 : nI b - nI b / 4 * 4 = nI (b % 4) := pk_rem (d := 4) (by omega) (by omega) (by omega)
  have e3 : nI m / 9 = nI (m / 9) := pk_div (d := 9) (by omega) (by omega) (by omega)
  have e4 : nI b / 4 = nI (b / 4) := pk_div (d := 4) (by omega) (by omega) (by omega)
  have e5 : nI (m / 9) - nI (m / 9) / 9 * 9 = nI (m / 9 % 9) := pk_rem (d := 9) (by omega) (by omega) (by omega)
  have e6 : nI (b / 4) - nI (b / 4) / 4 * 4 = nI (b / 4 % 4) := pk_rem (d := 4) (by omega) (by omega) (by omega)
  have e7 : nI m / 81 = nI (m / 81) := pk_div (d := 81) (by omega) (by omega) (by omega)
  have e8 : nI b / 16 = nI (b / 16) := pk_div (d := 16) (by omega) (by omega) (by omega)
  rw [e1, e2, e3, e4, e5, e6, e7, e8]
  refine sm_holds _ _ (by omega) (by omega) (sm_bb (fun z => ?_) (fun z => ⟨by decide, by decide, by decide, by decide, ?_⟩))
  · have y : sm_mt m b = false := by simp [sm_mt, z]
    rw [y] at h; exact h
  · refine sm_holds _ _ (by omega) (by omega) (sm_bb (fun z2 => ?_) (fun z2 => ⟨by decide, by decide, ?_⟩))
    · have y : sm_mt m b = false := by simp [sm_mt, z2]
      rw [y] at h; exact h
    · refine sm_holds _ _ (by omega) (by omega) (sm_bb (fun z3 => ?_) (fun z3 => ?_))
      · have y : sm_mt m b = false := by simp [sm_mt, z3]
        rw [y] at h; exact h
      · have y : sm_mt m b = true := by simp [sm_mt, z, z2, z3]
        rw [y] at h; exact h
/-- one turn of Y's loop over the digits -/
theorem sm_ym1 {n m b j : Nat} {post : Int32 → Prop} (hj : j < 3) (hm : m < 2 ^ 30) (hb : b < 2 ^ 30) (h0 : sm_hd (m % 9) (b % 4) = false → post 0) (h1 : sm_hd (m % 9) (b % 4) = true → wY_matches_13 post sc sv lab len lat tim val slab slen slat stim sval n (nI (m / 9)) (nI (b / 4)) (nI (j + 1))) : wY_matches_13 post sc sv lab len lat tim val slab slen slat stim sval (n + 1) (nI m) (nI b) (nI j) := by
  have e1 : nI m - nI m / 9 * 9 = nI (m % 9) := pk_rem (d := 9) (by omega) (by omega) (by omega)
  have e2 : nI b - nI b / 4 * 4 = nI (b % 4) := pk_rem (d := 4) (by omega) (by omega) (by omega)
  have e3 : nI m / 9 = nI (m / 9) := pk_div (d := 9) (by omega) (by omega) (by omega)
  have e4 : nI b / 4 = nI (b / 4) := pk_div (d := 4) (by omega) (by omega) (by omega)
  have go : sm_hd (m % 9) (b % 4) = true → wY_matches_61 post (wY_matches_13 post sc sv lab len lat tim val slab slen slat stim sval n) (nI m) (nI b) (nI j) sc sv lab len lat tim val slab slen slat stim sval := fun z =>
    ⟨by decide, nm_r e3 ⟨by decide, nm_r e4 (nm_r (nI_1 j) (h1 z))⟩⟩
  refine br_f (nI_ge (b := 3) hj (by omega)) ⟨by decide, nm_r e1 ⟨by decide, nm_r e2 ?_⟩⟩
  refine pk_le 4 (m % 9) (fun g => ?_) (fun g => ?_)
  · refine pk_le (m % 9) 4 (fun g2 => go ?_) (fun g2 => ?_)
    · rw [sm_hd, if_pos (by omega)]
    · refine pk_eq (b % 4) (m % 9 - 5) (fun e => h0 ?_) (fun e => go ?_) rfl (pk_sub (b := 5) (by omega))
      · rw [sm_hd, if_neg (by omega), if_neg (by omega)]; simp [e]
      · rw [sm_hd, if_neg (by omega), if_neg (by omega)]; simp [e]
  · refine pk_eq (b % 4) (m % 9) (fun e => ?_) (fun e => h0 ?_)
    · refine pk_le (m % 9) 4 (fun g2 => go ?_) (fun g2 => absurd g (by omega))
      rw [sm_hd, if_neg (by omega), if_pos (by omega)]; simp [e]
    · rw [sm_hd, if_neg (by omega), if_pos (by omega)]; simp [e]
theorem sm_ym {s m b : Nat} (hs : s < 8) (hm : m ≤ 728) (hb : b ≤ 63) (eb : lab s = nI b) {post : Int32 → Prop} (h : post (sm_b (sm_mt m b))) : wpY_matches post (sc, sv, lab, len, lat, tim, val, slab, slen, slat, stim, sval) (nI s) (nI m) := by
  refine ⟨vp_in_nI hs (by omega), nm_r (e' := nI b) (by rw [nI_clamp (by omega)]; exact eb) ⟨4, ?_⟩⟩
  refine sm_ym1 (j := 0) (by omega) (by omega) (by omega) (fun z => ?_) (fun z => ?_)
  · have y : sm_mt m b = false := by simp [sm_mt, z]
    rw [y] at h; exact h
  refine sm_ym1 (by omega) (by omega) (by omega) (fun z2 => ?_) (fun z2 => ?_)
  · have y : sm_mt m b = false := by simp [sm_mt, z2]
    rw [y] at h; exact h
  have w1 : m / 9 / 9 % 9 = m / 81 := by omega
  have w2 : b / 4 / 4 % 4 = b / 16 := by omega
  refine sm_ym1 (by omega) (by omega) (by omega) (fun z3 => ?_) (fun z3 => ?_)
  · rw [w1, w2] at z3
    have y : sm_mt m b = false := by simp [sm_mt, z3]
    rw [y] at h; exact h
  · rw [w1, w2] at z3
    have y : sm_mt m b = true := by simp [sm_mt, z, z2, z3]
    rw [y] at h
    exact br_t (nI_le (a := 3) (by omega) (by omega)) h
theorem sm_takes {c k m : Nat} {t u : Int32} (I : sm_I c lab len lat tim val) (hk : k < 256) (hm : m ≤ 728) {post : Int32 → Prop} (h : post (sm_b (sm_T c m t u lab len tim k))) : wpY_takes post (nI c, sv, lab, len, lat, tim, val, slab, slen, slat, stim, sval) (nI k) (nI m) t u := by
  have hc := I.1
  have ck : (nI k).toNatClampNeg = k := nI_clamp (by omega)
  have cq : (nI (k / 32)).toNatClampNeg = k / 32 := nI_clamp (by omega)
  refine ⟨by decide, nm_r (pk_div (d := 32) (by omega) (by omega) (by omega)) ?_⟩
  refine pk_le c (k / 32) (fun g => ?_) (fun g => ?_)
  · have y : sm_T c m t u lab len tim k = false := by
      have g' : ¬ k / 32 < c := by omega
      simp [sm_T, g']
    rw [y] at h; exact h
  obtain ⟨b, hb, eb⟩ := I.2.1 (k / 32) g
  obtain ⟨l, hl, el, hs, hlat, hv⟩ := I.2.2 (k / 32) g
  have cl : (len (k / 32)).toNatClampNeg = l := by rw [el]; exact nI_clamp (by omega)
  have cb : (lab (k / 32)).toNatClampNeg = b := by rw [eb]; exact nI_clamp (by omega)
  refine ⟨by decide, vp_in_nI (by omega) (by omega), pk_le l (k % 32) (fun g2 => ?_) (fun g2 => ⟨vp_in_nI hk (by omega), ?_⟩) (by rw [cq]; exact el) (pk_rem (d := 32) (by omega) (by omega) (by omega))⟩
  · have y : sm_T c m t u lab len tim k = false := by
      have g' : ¬ k % 32 < l := by omega
      simp [sm_T, cl, g']
    rw [y] at h; exact h
  rw [ck]
  refine br_c (fun g3 => ?_) (fun g3 => ⟨vp_in_nI hk (by omega), br_c (fun g4 => ?_) (fun g4 => ?_)⟩)
  · have y : sm_T c m t u lab len tim k = false := by
      rw [sm_T, decide_eq_false (not_not_intro g3)]; simp
    rw [y] at h; exact h
  · have y : sm_T c m t u lab len tim k = false := by
      rw [sm_T, decide_eq_false (not_not_intro g4)]; simp
    rw [y] at h; exact h
  have y : sm_T c m t u lab len tim k = sm_mt m b := by
    rw [sm_T, decide_eq_true g, decide_eq_true g3, decide_eq_true g4, cl, cb, decide_eq_true g2]; simp
  rw [y] at h
  refine sm_ym (b := b) (by omega) hm hb eb (sm_bb (fun z => ?_) (fun z => ?_))
  · rw [z] at h; exact h
  · rw [z] at h; exact h
end
end
section
/-- f's first n over g -/
def sm_cp (f g : Nat → Int32) (n : Nat) : Nat → Int32 := fun j => if j < n then f j else g j
theorem sm_cp0 (f g : Nat → Int32) : sm_cp f g 0 = g := by
  funext j
  exact if_neg (Nat.not_lt_zero j)
theorem sm_cp_lo {f g : Nat → Int32} {n j : Nat} (h : j < n) : sm_cp f g n j = f j := if_pos h
theorem sm_cps (f g : Nat → Int32) (n : Nat) : upd (sm_cp f g n) n (f n) = sm_cp f g (n + 1) := by
  funext j
  unfold upd sm_cp
  by_cases h : j = n
  · rw [if_pos h, if_pos (by omega), h]
  · rw [if_neg h]
    by_cases g2 : j < n
    · rw [if_pos g2, if_pos (by omega)]
    · rw [if_neg g2, if_neg (by omega)]
theorem sm_I_congr {c : Nat} {lab len lat tim val lab' len' lat' tim' val' : Nat → Int32} (I : sm_I c lab len lat tim val) (h1 : ∀ s, s < 8 → lab' s = lab s) (h2 : ∀ s, s < 8 → len' s = len s) (h3 : ∀ s, s < 8 → lat' s = lat s) (h4 : ∀ j, j < 256 → tim' j = tim j) (h5 : ∀ j, j < 256 → val' j = val j) : sm_I c lab' len' lat' tim' val' := by
  have hc := I.1
  refine ⟨hc, fun s hs => ?_, fun s hs => ?_⟩
  · rw [h1 s (by omega)]; exact I.2.1 s hs
  · obtain ⟨l, hl, el, a1, a2, a3⟩ := I.2.2 s hs
    refine ⟨l, hl, by rw [h2 s (by omega)]; exact el, fun i j hi hj => ?_, fun i hi => ?_, fun i hi => ?_⟩
    · rw [h4 _ (by omega), h4 _ (by omega)]; exact a1 i j hi hj
    · rw [h4 _ (by omega), h3 s (by omega)]; exact a2 i hi
    · rw [h5 _ (by omega)]; exact a3 i hi
theorem sm_I_cp {c : Nat} {lab len lat tim val lab' len' lat' tim' val' : Nat → Int32} (I : sm_I c lab len lat tim val) : sm_I c (sm_cp lab lab' 8) (sm_cp len len' 8) (sm_cp lat lat' 8) (sm_cp tim tim' 256) (sm_cp val val' 256) :=
  sm_I_congr I (fun _ h => sm_cp_lo h) (fun _ h => sm_cp_lo h) (fun _ h => sm_cp_lo h) (fun _ h => sm_cp_lo h) (fun _ h => sm_cp_lo h)
/-- the relation: the same fields and the same arrays; what is kept and what is safe are in order -/
def i_Rel (k : Nat) (u : SX) (v : SY) : Prop := ∃ (c e : Nat) (lv : Int32) (lab len lat tim val slab slen slat stim sval tv ts : Nat → Int32), u = (nI c, nI e, lv, lab, len, lat, tim, val, slab, slen, slat, stim, sval, tv, ts) ∧ v = (nI c, nI e, lab, len, lat, tim, val, slab, slen, slat, stim, sval) ∧ sm_I c lab len lat tim val ∧ sm_I e slab slen slat stim sval
theorem i_up {k : Nat} {u : SX} {v : SY} (h : i_Rel k u v) : i_Rel (k + 5) u v := h
section
variable {sc sv lv : Int32} {lab len lat tim val slab slen slat stim sval tv ts : Nat → Int32}
theorem sm_R {k c e : Nat} (I : sm_I c lab len lat tim val) (J : sm_I e slab slen slat stim sval) : i_Rel k (nI c, nI e, lv, lab, len, lat, tim, val, slab, slen, slat, stim, sval, tv, ts) (nI c, nI e, lab, len, lat, tim, val, slab, slen, slat, stim, sval) :=
  ⟨c, e, lv, lab, len, lat, tim, val, slab, slen, slat, stim, sval, tv, ts, rfl, rfl, I, J⟩
theorem sm_I0 : sm_I 0 lab len lat tim val := ⟨by omega, fun s hs => absurd hs (Nat.not_lt_zero s), fun s hs => absurd hs (Nat.not_lt_zero s)⟩
theorem i_vc0 : wpX_init (fun u => wpY_init (fun v => i_Rel 0 u v)) := sm_R (k := 0) (c := 0) (e := 0) sm_I0 sm_I0
theorem sm_c_slab {post : SX → Prop} : ∀ d j, j + d = 8 → post (sc, sv, lv, lab, len, lat, tim, val, sm_cp lab slab 8, slen, slat, stim, sval, tv, ts) → wX_copy__labelsOf_safeLabelsOf_3 post 8 sc sv lv (d + 1) (nI j) lab len lat tim val (sm_cp lab slab j) slen slat stim sval tv ts := by
  intro d
  induction d with
  | zero =>
    intro j hj h
    obtain rfl : j = 8 := by omega
    exact br_t (nI_le (a := 8) (b := 8) (by omega) (by omega)) h
  | succ d ih =>
    intro j hj h
    refine br_f (nI_ge (b := 8) (by omega) (by omega)) ⟨vp_in_nI (by omega) (by omega), vp_in_nI (by omega) (by omega), nm_r (e' := sm_cp lab slab (j + 1)) ?_ (nm_r (nI_1 j) (ih (j + 1) (by omega) h))⟩
    rw [nI_clamp (by omega)]; exact sm_cps lab slab j
theorem sm_w_slab {post : SX → Prop} (h : post (sc, sv, lv, lab, len, lat, tim, val, sm_cp lab slab 8, slen, slat, stim, sval, tv, ts)) : wpX_copy__labelsOf_safeLabelsOf post (sc, sv, lv, lab, len, lat, tim, val, slab, slen, slat, stim, sval, tv, ts) 8 := by
  have z := sm_c_slab 8 0 rfl h
  rw [sm_cp0] at z
  exact ⟨_, z⟩
theorem sm_c_slen {post : SX → Prop} : ∀ d j, j + d = 8 → post (sc, sv, lv, lab, len, lat, tim, val, slab, sm_cp len slen 8, slat, stim, sval, tv, ts) → wX_copy__lengthOf_safeLengthOf_3 post 8 sc sv lv (d + 1) (nI j) lab len lat tim val slab (sm_cp len slen j) slat stim sval tv ts := by
  intro d
  induction d with
  | zero =>
    intro j hj h
    obtain rfl : j = 8 := by omega
    exact br_t (nI_le (a := 8) (b := 8) (by omega) (by omega)) h
  | succ d ih =>
    intro j hj h
    refine br_f (nI_ge (b := 8) (by omega) (by omega)) ⟨vp_in_nI (by omega) (by omega), vp_in_nI (by omega) (by omega), nm_r (e' := sm_cp len slen (j + 1)) ?_ (nm_r (nI_1 j) (ih (j + 1) (by omega) h))⟩
    rw [nI_clamp (by omega)]; exact sm_cps len slen j
theorem sm_w_slen {post : SX → Prop} (h : post (sc, sv, lv, lab, len, lat, tim, val, slab, sm_cp len slen 8, slat, stim, sval, tv, ts)) : wpX_copy__lengthOf_safeLengthOf post (sc, sv, lv, lab, len, lat, tim, val, slab, slen, slat, stim, sval, tv, ts) 8 := by
  have z := sm_c_slen 8 0 rfl h
  rw [sm_cp0] at z
  exact ⟨_, z⟩
theorem sm_c_slat {post : SX → Prop} : ∀ d j, j + d = 8 → post (sc, sv, lv, lab, len, lat, tim, val, slab, slen, sm_cp lat slat 8, stim, sval, tv, ts) → wX_copy__newestOf_safeNewestOf_3 post 8 sc sv lv (d + 1) (nI j) lab len lat tim val slab slen (sm_cp lat slat j) stim sval tv ts := by
  intro d
  induction d with
  | zero =>
    intro j hj h
    obtain rfl : j = 8 := by omega
    exact br_t (nI_le (a := 8) (b := 8) (by omega) (by omega)) h
  | succ d ih =>
    intro j hj h
    refine br_f (nI_ge (b := 8) (by omega) (by omega)) ⟨vp_in_nI (by omega) (by omega), vp_in_nI (by omega) (by omega), nm_r (e' := sm_cp lat slat (j + 1)) ?_ (nm_r (nI_1 j) (ih (j + 1) (by omega) h))⟩
    rw [nI_clamp (by omega)]; exact sm_cps lat slat j
theorem sm_w_slat {post : SX → Prop} (h : post (sc, sv, lv, lab, len, lat, tim, val, slab, slen, sm_cp lat slat 8, stim, sval, tv, ts)) : wpX_copy__newestOf_safeNewestOf post (sc, sv, lv, lab, len, lat, tim, val, slab, slen, slat, stim, sval, tv, ts) 8 := by
  have z := sm_c_slat 8 0 rfl h
  rw [sm_cp0] at z
  exact ⟨_, z⟩
theorem sm_c_stim {post : SX → Prop} : ∀ d j, j + d = 256 → post (sc, sv, lv, lab, len, lat, tim, val, slab, slen, slat, sm_cp tim stim 256, sval, tv, ts) → wX_copy__times_safeTimes_3 post 256 sc sv lv (d + 1) (nI j) lab len lat tim val slab slen slat (sm_cp tim stim j) sval tv ts := by
  intro d
  induction d with
  | zero =>
    intro j hj h
    obtain rfl : j = 256 := by omega
    exact br_t (nI_le (a := 256) (b := 256) (by omega) (by omega)) h
  | succ d ih =>
    intro j hj h
    refine br_f (nI_ge (b := 256) (by omega) (by omega)) ⟨vp_in_nI (by omega) (by omega), vp_in_nI (by omega) (by omega), nm_r (e' := sm_cp tim stim (j + 1)) ?_ (nm_r (nI_1 j) (ih (j + 1) (by omega) h))⟩
    rw [nI_clamp (by omega)]; exact sm_cps tim stim j
theorem sm_w_stim {post : SX → Prop} (h : post (sc, sv, lv, lab, len, lat, tim, val, slab, slen, slat, sm_cp tim stim 256, sval, tv, ts)) : wpX_copy__times_safeTimes post (sc, sv, lv, lab, len, lat, tim, val, slab, slen, slat, stim, sval, tv, ts) 256 := by
  have z := sm_c_stim 256 0 rfl h
  rw [sm_cp0] at z
  exact ⟨_, z⟩
theorem sm_c_sval {post : SX → Prop} : ∀ d j, j + d = 256 → post (sc, sv, lv, lab, len, lat, tim, val, slab, slen, slat, stim, sm_cp val sval 256, tv, ts) → wX_copy__values_safeValues_3 post 256 sc sv lv (d + 1) (nI j) lab len lat tim val slab slen slat stim (sm_cp val sval j) tv ts := by
  intro d
  induction d with
  | zero =>
    intro j hj h
    obtain rfl : j = 256 := by omega
    exact br_t (nI_le (a := 256) (b := 256) (by omega) (by omega)) h
  | succ d ih =>
    intro j hj h
    refine br_f (nI_ge (b := 256) (by omega) (by omega)) ⟨vp_in_nI (by omega) (by omega), vp_in_nI (by omega) (by omega), nm_r (e' := sm_cp val sval (j + 1)) ?_ (nm_r (nI_1 j) (ih (j + 1) (by omega) h))⟩
    rw [nI_clamp (by omega)]; exact sm_cps val sval j
theorem sm_w_sval {post : SX → Prop} (h : post (sc, sv, lv, lab, len, lat, tim, val, slab, slen, slat, stim, sm_cp val sval 256, tv, ts)) : wpX_copy__values_safeValues post (sc, sv, lv, lab, len, lat, tim, val, slab, slen, slat, stim, sval, tv, ts) 256 := by
  have z := sm_c_sval 256 0 rfl h
  rw [sm_cp0] at z
  exact ⟨_, z⟩
theorem sm_c_lab {post : SX → Prop} : ∀ d j, j + d = 8 → post (sc, sv, lv, sm_cp slab lab 8, len, lat, tim, val, slab, slen, slat, stim, sval, tv, ts) → wX_copy__safeLabelsOf_labelsOf_3 post 8 sc sv lv (d + 1) (nI j) (sm_cp slab lab j) len lat tim val slab slen slat stim sval tv ts := by
  intro d
  induction d with
  | zero =>
    intro j hj h
    obtain rfl : j = 8 := by omega
    exact br_t (nI_le (a := 8) (b := 8) (by omega) (by omega)) h
  | succ d ih =>
    intro j hj h
    refine br_f (nI_ge (b := 8) (by omega) (by omega)) ⟨vp_in_nI (by omega) (by omega), vp_in_nI (by omega) (by omega), nm_r (e' := sm_cp slab lab (j + 1)) ?_ (nm_r (nI_1 j) (ih (j + 1) (by omega) h))⟩
    rw [nI_clamp (by omega)]; exact sm_cps slab lab j
theorem sm_w_lab {post : SX → Prop} (h : post (sc, sv, lv, sm_cp slab lab 8, len, lat, tim, val, slab, slen, slat, stim, sval, tv, ts)) : wpX_copy__safeLabelsOf_labelsOf post (sc, sv, lv, lab, len, lat, tim, val, slab, slen, slat, stim, sval, tv, ts) 8 := by
  have z := sm_c_lab 8 0 rfl h
  rw [sm_cp0] at z
  exact ⟨_, z⟩
theorem sm_c_len {post : SX → Prop} : ∀ d j, j + d = 8 → post (sc, sv, lv, lab, sm_cp slen len 8, lat, tim, val, slab, slen, slat, stim, sval, tv, ts) → wX_copy__safeLengthOf_lengthOf_3 post 8 sc sv lv (d + 1) (nI j) lab (sm_cp slen len j) lat tim val slab slen slat stim sval tv ts := by
  intro d
  induction d with
  | zero =>
    intro j hj h
    obtain rfl : j = 8 := by omega
    exact br_t (nI_le (a := 8) (b := 8) (by omega) (by omega)) h
  | succ d ih =>
    intro j hj h
    refine br_f (nI_ge (b := 8) (by omega) (by omega)) ⟨vp_in_nI (by omega) (by omega), vp_in_nI (by omega) (by omega), nm_r (e' := sm_cp slen len (j + 1)) ?_ (nm_r (nI_1 j) (ih (j + 1) (by omega) h))⟩
    rw [nI_clamp (by omega)]; exact sm_cps slen len j
theorem sm_w_len {post : SX → Prop} (h : post (sc, sv, lv, lab, sm_cp slen len 8, lat, tim, val, slab, slen, slat, stim, sval, tv, ts)) : wpX_copy__safeLengthOf_lengthOf post (sc, sv, lv, lab, len, lat, tim, val, slab, slen, slat, stim, sval, tv, ts) 8 := by
  have z := sm_c_len 8 0 rfl h
  rw [sm_cp0] at z
  exact ⟨_, z⟩
theorem sm_c_lat {post : SX → Prop} : ∀ d j, j + d = 8 → post (sc, sv, lv, lab, len, sm_cp slat lat 8, tim, val, slab, slen, slat, stim, sval, tv, ts) → wX_copy__safeNewestOf_newestOf_3 post 8 sc sv lv (d + 1) (nI j) lab len (sm_cp slat lat j) tim val slab slen slat stim sval tv ts := by
  intro d
  induction d with
  | zero =>
    intro j hj h
    obtain rfl : j = 8 := by omega
    exact br_t (nI_le (a := 8) (b := 8) (by omega) (by omega)) h
  | succ d ih =>
    intro j hj h
    refine br_f (nI_ge (b := 8) (by omega) (by omega)) ⟨vp_in_nI (by omega) (by omega), vp_in_nI (by omega) (by omega), nm_r (e' := sm_cp slat lat (j + 1)) ?_ (nm_r (nI_1 j) (ih (j + 1) (by omega) h))⟩
    rw [nI_clamp (by omega)]; exact sm_cps slat lat j
theorem sm_w_lat {post : SX → Prop} (h : post (sc, sv, lv, lab, len, sm_cp slat lat 8, tim, val, slab, slen, slat, stim, sval, tv, ts)) : wpX_copy__safeNewestOf_newestOf post (sc, sv, lv, lab, len, lat, tim, val, slab, slen, slat, stim, sval, tv, ts) 8 := by
  have z := sm_c_lat 8 0 rfl h
  rw [sm_cp0] at z
  exact ⟨_, z⟩
theorem sm_c_tim {post : SX → Prop} : ∀ d j, j + d = 256 → post (sc, sv, lv, lab, len, lat, sm_cp stim tim 256, val, slab, slen, slat, stim, sval, tv, ts) → wX_copy__safeTimes_times_3 post 256 sc sv lv (d + 1) (nI j) lab len lat (sm_cp stim tim j) val slab slen slat stim sval tv ts := by
  intro d
  induction d with
  | zero =>
    intro j hj h
    obtain rfl : j = 256 := by omega
    exact br_t (nI_le (a := 256) (b := 256) (by omega) (by omega)) h
  | succ d ih =>
    intro j hj h
    refine br_f (nI_ge (b := 256) (by omega) (by omega)) ⟨vp_in_nI (by omega) (by omega), vp_in_nI (by omega) (by omega), nm_r (e' := sm_cp stim tim (j + 1)) ?_ (nm_r (nI_1 j) (ih (j + 1) (by omega) h))⟩
    rw [nI_clamp (by omega)]; exact sm_cps stim tim j
theorem sm_w_tim {post : SX → Prop} (h : post (sc, sv, lv, lab, len, lat, sm_cp stim tim 256, val, slab, slen, slat, stim, sval, tv, ts)) : wpX_copy__safeTimes_times post (sc, sv, lv, lab, len, lat, tim, val, slab, slen, slat, stim, sval, tv, ts) 256 := by
  have z := sm_c_tim 256 0 rfl h
  rw [sm_cp0] at z
  exact ⟨_, z⟩
theorem sm_c_val {post : SX → Prop} : ∀ d j, j + d = 256 → post (sc, sv, lv, lab, len, lat, tim, sm_cp sval val 256, slab, slen, slat, stim, sval, tv, ts) → wX_copy__safeValues_values_3 post 256 sc sv lv (d + 1) (nI j) lab len lat tim (sm_cp sval val j) slab slen slat stim sval tv ts := by
  intro d
  induction d with
  | zero =>
    intro j hj h
    obtain rfl : j = 256 := by omega
    exact br_t (nI_le (a := 256) (b := 256) (by omega) (by omega)) h
  | succ d ih =>
    intro j hj h
    refine br_f (nI_ge (b := 256) (by omega) (by omega)) ⟨vp_in_nI (by omega) (by omega), vp_in_nI (by omega) (by omega), nm_r (e' := sm_cp sval val (j + 1)) ?_ (nm_r (nI_1 j) (ih (j + 1) (by omega) h))⟩
    rw [nI_clamp (by omega)]; exact sm_cps sval val j
theorem sm_w_val {post : SX → Prop} (h : post (sc, sv, lv, lab, len, lat, tim, sm_cp sval val 256, slab, slen, slat, stim, sval, tv, ts)) : wpX_copy__safeValues_values post (sc, sv, lv, lab, len, lat, tim, val, slab, slen, slat, stim, sval, tv, ts) 256 := by
  have z := sm_c_val 256 0 rfl h
  rw [sm_cp0] at z
  exact ⟨_, z⟩
theorem sm_ys60 {post : SY → Prop} : ∀ d j, j + d = 256 → post (sc, sv, lab, len, lat, tim, val, slab, slen, slat, sm_cp tim stim 256, sm_cp val sval 256) → wY_sync_60 post sc sv (d + 1) (nI j) lab len lat tim val slab slen slat (sm_cp tim stim j) (sm_cp val sval j) := by
  intro d
  induction d with
  | zero =>
    intro j hj h
    obtain rfl : j = 256 := by omega
    exact br_t (nI_le (a := 256) (b := 256) (by omega) (by omega)) h
  | succ d ih =>
    intro j hj h
    refine br_f (nI_ge (b := 256) (by omega) (by omega)) ⟨vp_in_nI (by omega) (by omega), vp_in_nI (by omega) (by omega), nm_r (e' := sm_cp tim stim (j + 1)) ?_ ⟨vp_in_nI (by omega) (by omega), vp_in_nI (by omega) (by omega), nm_r (e' := sm_cp val sval (j + 1)) ?_ (nm_r (nI_1 j) (ih (j + 1) (by omega) h))⟩⟩
    · rw [nI_clamp (by omega)]; exact sm_cps tim stim j
    · rw [nI_clamp (by omega)]; exact sm_cps val sval j
theorem sm_ys10 {post : SY → Prop} : ∀ d j, j + d = 8 → post (sc, sv, lab, len, lat, tim, val, sm_cp lab slab 8, sm_cp len slen 8, sm_cp lat slat 8, sm_cp tim stim 256, sm_cp val sval 256) → wY_sync_10 post sc sv (d + 1) (nI j) lab len lat tim val (sm_cp lab slab j) (sm_cp len slen j) (sm_cp lat slat j) stim sval := by
  intro d
  induction d with
  | zero =>
    intro j hj h
    obtain rfl : j = 8 := by omega
    have z := sm_ys60 256 0 rfl h
    rw [sm_cp0, sm_cp0] at z
    exact br_t (nI_le (a := 8) (b := 8) (by omega) (by omega)) ⟨_, z⟩
  | succ d ih =>
    intro j hj h
    refine br_f (nI_ge (b := 8) (by omega) (by omega)) ⟨vp_in_nI (by omega) (by omega), vp_in_nI (by omega) (by omega), nm_r (e' := sm_cp lab slab (j + 1)) ?_ ⟨vp_in_nI (by omega) (by omega), vp_in_nI (by omega) (by omega), nm_r (e' := sm_cp len slen (j + 1)) ?_ ⟨vp_in_nI (by omega) (by omega), vp_in_nI (by omega) (by omega), nm_r (e' := sm_cp lat slat (j + 1)) ?_ (nm_r (nI_1 j) (ih (j + 1) (by omega) h))⟩⟩⟩
    · rw [nI_clamp (by omega)]; exact sm_cps lab slab j
    · rw [nI_clamp (by omega)]; exact sm_cps len slen j
    · rw [nI_clamp (by omega)]; exact sm_cps lat slat j
theorem sm_ys {post : SY → Prop} (h : post (sc, sc, lab, len, lat, tim, val, sm_cp lab slab 8, sm_cp len slen 8, sm_cp lat slat 8, sm_cp tim stim 256, sm_cp val sval 256)) : wpY_sync post (sc, sv, lab, len, lat, tim, val, slab, slen, slat, stim, sval) := by
  have z := sm_ys10 8 0 rfl h
  rw [sm_cp0, sm_cp0, sm_cp0] at z
  exact ⟨_, z⟩
theorem sm_xs {post : SX → Prop} (h : post (sc, sc, lv, lab, len, lat, tim, val, sm_cp lab slab 8, sm_cp len slen 8, sm_cp lat slat 8, sm_cp tim stim 256, sm_cp val sval 256, tv, ts)) : wpX_sync post (sc, sv, lv, lab, len, lat, tim, val, slab, slen, slat, stim, sval, tv, ts) := by
  unfold wpX_sync
  refine sm_w_slab ?_
  refine sm_w_slen ?_
  refine sm_w_slat ?_
  refine sm_w_stim ?_
  exact sm_w_sval h
theorem i_vc_sync {k : Nat} {u : SX} {v : SY} (I : i_Rel k u v) (hk : k + 5 ≤ 2560) : wpX_sync (fun u' => wpY_sync (fun v' => i_Rel (k + 5) u' v') v) u := by
  obtain ⟨c, e, lv, lab, len, lat, tim, val, slab, slen, slat, stim, sval, tv, ts, rfl, rfl, I, J⟩ := I
  exact sm_xs (sm_ys (sm_R I (sm_I_cp I)))
/-- the lengths below j, added -/
def sm_su (len : Nat → Int32) : Nat → Int32
  | 0 => 0
  | j + 1 => sm_su len j + len j
theorem sm_xsu4 {c : Nat} (hc : c ≤ 8) {post : Int32 → Prop} : ∀ d j, j + d = c → post (sm_su len c) → wX_sampleCount_4 post (nI c) sv lv lab len lat tim val slab slen slat stim sval tv ts (d + 1) (sm_su len j) (nI j) := by
  intro d
  induction d with
  | zero =>
    intro j hj h
    obtain rfl : j = c := by omega
    exact br_t (nI_le (by omega) (by omega)) h
  | succ d ih =>
    intro j hj h
    exact br_f (nI_ge (by omega) (by omega)) ⟨vp_in_nI (by omega) (by omega), nm_r (e' := sm_su len (j + 1)) (by rw [nI_clamp (by omega)]; rfl) (nm_r (nI_1 j) (ih (j + 1) (by omega) h))⟩
theorem sm_xsu {c : Nat} (hc : c ≤ 8) {post : Int32 → Prop} (h : post (sm_su len c)) : wpX_sampleCount post (nI c, sv, lv, lab, len, lat, tim, val, slab, slen, slat, stim, sval, tv, ts) := ⟨_, sm_xsu4 hc c 0 (by omega) h⟩
theorem sm_ysu4 {c : Nat} (hc : c ≤ 8) {post : Int32 → Prop} : ∀ d j, j + d = c → post (sm_su len c) → wY_samples_4 post (nI c) sv lab len lat tim val slab slen slat stim sval (d + 1) (sm_su len j) (nI j) := by
  intro d
  induction d with
  | zero =>
    intro j hj h
    obtain rfl : j = c := by omega
    exact br_t (nI_le (by omega) (by omega)) h
  | succ d ih =>
    intro j hj h
    exact br_f (nI_ge (by omega) (by omega)) ⟨vp_in_nI (by omega) (by omega), nm_r (e' := sm_su len (j + 1)) (by rw [nI_clamp (by omega)]; rfl) (nm_r (nI_1 j) (ih (j + 1) (by omega) h))⟩
theorem sm_ysu {c : Nat} (hc : c ≤ 8) {post : Int32 → Prop} (h : post (sm_su len c)) : wpY_samples post (nI c, sv, lab, len, lat, tim, val, slab, slen, slat, stim, sval) := ⟨_, sm_ysu4 hc c 0 (by omega) h⟩
theorem sm_yc65 {e : Nat} (he : e ≤ 8) {x1 : Int32} {post : Int32 → SY → Prop} : ∀ d j, j + d = 256 → post (x1 - sm_su len e) (nI e, sv, lab, len, lat, sm_cp stim tim 256, sm_cp sval val 256, slab, slen, slat, stim, sval) → wY_crash_65 post x1 (nI e) sv (d + 1) (nI j) lab len lat (sm_cp stim tim j) (sm_cp sval val j) slab slen slat stim sval := by
  intro d
  induction d with
  | zero =>
    intro j hj h
    obtain rfl : j = 256 := by omega
    exact br_t (nI_le (a := 256) (b := 256) (by omega) (by omega)) (sm_ysu he h)
  | succ d ih =>
    intro j hj h
    refine br_f (nI_ge (b := 256) (by omega) (by omega)) ⟨vp_in_nI (by omega) (by omega), vp_in_nI (by omega) (by omega), nm_r (e' := sm_cp stim tim (j + 1)) ?_ ⟨vp_in_nI (by omega) (by omega), vp_in_nI (by omega) (by omega), nm_r (e' := sm_cp sval val (j + 1)) ?_ (nm_r (nI_1 j) (ih (j + 1) (by omega) h))⟩⟩
    · rw [nI_clamp (by omega)]; exact sm_cps stim tim j
    · rw [nI_clamp (by omega)]; exact sm_cps sval val j
theorem sm_yc15 {e : Nat} (he : e ≤ 8) {x1 : Int32} {post : Int32 → SY → Prop} : ∀ d j, j + d = 8 → post (x1 - sm_su (sm_cp slen len 8) e) (nI e, sv, sm_cp slab lab 8, sm_cp slen len 8, sm_cp slat lat 8, sm_cp stim tim 256, sm_cp sval val 256, slab, slen, slat, stim, sval) → wY_crash_15 post x1 (nI e) sv (d + 1) (nI j) (sm_cp slab lab j) (sm_cp slen len j) (sm_cp slat lat j) tim val slab slen slat stim sval := by
  intro d
  induction d with
  | zero =>
    intro j hj h
    obtain rfl : j = 8 := by omega
    have z := sm_yc65 (sv := sv) he 256 0 rfl h
    rw [sm_cp0, sm_cp0] at z
    exact br_t (nI_le (a := 8) (b := 8) (by omega) (by omega)) ⟨_, z⟩
  | succ d ih =>
    intro j hj h
    refine br_f (nI_ge (b := 8) (by omega) (by omega)) ⟨vp_in_nI (by omega) (by omega), vp_in_nI (by omega) (by omega), nm_r (e' := sm_cp slab lab (j + 1)) ?_ ⟨vp_in_nI (by omega) (by omega), vp_in_nI (by omega) (by omega), nm_r (e' := sm_cp slen len (j + 1)) ?_ ⟨vp_in_nI (by omega) (by omega), vp_in_nI (by omega) (by omega), nm_r (e' := sm_cp slat lat (j + 1)) ?_ (nm_r (nI_1 j) (ih (j + 1) (by omega) h))⟩⟩⟩
    · rw [nI_clamp (by omega)]; exact sm_cps slab lab j
    · rw [nI_clamp (by omega)]; exact sm_cps slen len j
    · rw [nI_clamp (by omega)]; exact sm_cps slat lat j
theorem sm_yc {c e : Nat} (hc : c ≤ 8) (he : e ≤ 8) {post : Int32 → SY → Prop} (h : post (sm_su len c - sm_su (sm_cp slen len 8) e) (nI e, nI e, sm_cp slab lab 8, sm_cp slen len 8, sm_cp slat lat 8, sm_cp stim tim 256, sm_cp sval val 256, slab, slen, slat, stim, sval)) : wpY_crash post (nI c, nI e, lab, len, lat, tim, val, slab, slen, slat, stim, sval) := by
  unfold wpY_crash
  refine sm_ysu hc ?_
  have z := sm_yc15 he 8 0 rfl h
  rw [sm_cp0, sm_cp0, sm_cp0] at z
  exact ⟨_, z⟩
theorem sm_xc {c e : Nat} (hc : c ≤ 8) (he : e ≤ 8) {post : Int32 → SX → Prop} (h : post (sm_su len c - sm_su (sm_cp slen len 8) e) (nI e, nI e, lv, sm_cp slab lab 8, sm_cp slen len 8, sm_cp slat lat 8, sm_cp stim tim 256, sm_cp sval val 256, slab, slen, slat, stim, sval, tv, ts)) : wpX_crash post (nI c, nI e, lv, lab, len, lat, tim, val, slab, slen, slat, stim, sval, tv, ts) := by
  unfold wpX_crash
  refine sm_xsu hc ?_
  refine sm_w_lab ?_
  refine sm_w_len ?_
  refine sm_w_lat ?_
  refine sm_w_tim ?_
  refine sm_w_val ?_
  exact sm_xsu he h
theorem i_vc_crash {k : Nat} {u : SX} {v : SY} (I : i_Rel k u v) (hk : k + 5 ≤ 2560) : wpX_crash (fun r u' => wpY_crash (fun r' v' => r' = r ∧ i_Rel (k + 5) u' v') v) u := by
  obtain ⟨c, e, lv, lab, len, lat, tim, val, slab, slen, slat, stim, sval, tv, ts, rfl, rfl, I, J⟩ := I
  exact sm_xc I.1 J.1 (sm_yc I.1 J.1 ⟨rfl, sm_R (sm_I_cp J) J⟩)
end
end
section
/-- what is taken of the samples below k stands in tv and ts, in order -/
def sm_G (T : Nat → Bool) (val tv ts : Nat → Int32) (k : Nat) : Prop := ∀ j, j < k → T j = true → tv (sm_cn T j) = val j ∧ ts (sm_cn T j) = nI (j / 32)
theorem sm_G_0 {T : Nat → Bool} {val tv ts : Nat → Int32} : sm_G T val tv ts 0 := fun j hj => absurd hj (Nat.not_lt_zero j)
theorem sm_G_f {T : Nat → Bool} {val tv ts : Nat → Int32} {k : Nat} (g : sm_G T val tv ts k) (h : T k = false) : sm_G T val tv ts (k + 1) := by
  intro j hj hT
  by_cases e : j = k
  · rw [e, h] at hT; exact absurd hT (by decide)
  · exact g j (by omega) hT
theorem sm_G_flat {T : Nat → Bool} {val tv ts : Nat → Int32} {a : Nat} (g : sm_G T val tv ts a) : ∀ d, (∀ j, a ≤ j → j < a + d → T j = false) → sm_G T val tv ts (a + d) := by
  intro d h j hj hT
  by_cases e : j < a
  · exact g j e hT
  · rw [h j (by omega) hj] at hT; exact absurd hT (by decide)
theorem sm_G_t {T : Nat → Bool} {val tv ts : Nat → Int32} {k : Nat} (g : sm_G T val tv ts k) (h : T k = true) : sm_G T val (upd tv (sm_cn T k) (val k)) (upd ts (sm_cn T k) (nI (k / 32))) (k + 1) := by
  intro j hj hT
  by_cases e : j = k
  · rw [e]; exact ⟨pk_us, pk_us⟩
  · have h1 := sm_cn_mono T (j + 1) (k - (j + 1))
    rw [sm_cn_t hT, show j + 1 + (k - (j + 1)) = k from by omega] at h1
    rw [pk_un (by omega), pk_un (by omega)]
    exact g j (by omega) hT
theorem sm_T_at {c m s l b i : Nat} {t u : Int32} {lab len tim : Nat → Int32} (hs : s < c) (hl : l ≤ 32) (el : len s = nI l) (hb : b ≤ 63) (eb : lab s = nI b) (hi : i < 32) : sm_T c m t u lab len tim (32 * s + i) = (decide (i < l) && (decide (¬ tim (32 * s + i) < t) && (decide (¬ u < tim (32 * s + i)) && sm_mt m b))) := by
  have e1 : (32 * s + i) / 32 = s := by omega
  have e2 : (32 * s + i) % 32 = i := by omega
  rw [sm_T, e1, e2, el, eb, nI_clamp (by omega), nI_clamp (by omega), decide_eq_true hs, Bool.true_and]
theorem sm_T_out {c m k : Nat} {t u : Int32} {lab len tim : Nat → Int32} (h : 32 * c ≤ k) : sm_T c m t u lab len tim k = false := by
  rw [sm_T, decide_eq_false (by omega), Bool.false_and]
/-- what is taken is a sample -/
theorem sm_T_in {c m k : Nat} {t u : Int32} {lab len lat tim val : Nat → Int32} (I : sm_I c lab len lat tim val) (h : sm_T c m t u lab len tim k = true) : -1000 ≤ val k ∧ val k ≤ 1000 := by
  simp only [sm_T, Bool.and_eq_true, decide_eq_true_eq] at h
  obtain ⟨l, hl, el, a1, a2, a3⟩ := I.2.2 (k / 32) h.1
  rw [el, nI_clamp (by omega)] at h
  have z := a3 (k % 32) h.2.1
  rw [show 32 * (k / 32) + k % 32 = k from by omega] at z
  exact z
theorem sm_tot {c m : Nat} {t u : Int32} {lab len tim : Nat → Int32} (hc : c ≤ 8) : sm_cn (sm_T c m t u lab len tim) 256 = sm_cn (sm_T c m t u lab len tim) (32 * c) := by
  have z := sm_cn_flat (sm_T c m t u lab len tim) (32 * c) (256 - 32 * c) (fun j h _ => sm_T_out h)
  rw [show 32 * c + (256 - 32 * c) = 256 from by omega] at z
  exact z
section
variable {sc sv lv : Int32} {lab len lat tim val slab slen slat stim sval tv ts : Nat → Int32}
theorem sm_tf25 {T : Nat → Bool} {s l : Nat} {t u : Int32} (hs : s < 8) (hl : l ≤ 32) (hT : ∀ i, i < l → T (32 * s + i) = (decide (¬ tim (32 * s + i) < t) && decide (¬ u < tim (32 * s + i)))) {post : Int32 → SX → Prop} (h : ∀ tv ts, sm_G T val tv ts (32 * s + l) → post (nI (sm_cn T (32 * s + l))) (sc, sv, lv, lab, len, lat, tim, val, slab, slen, slat, stim, sval, tv, ts)) : ∀ d i tv ts, i + d = l → sm_G T val tv ts (32 * s + i) → wX_takeFrom_25 post (nI s) t u (nI (32 * s + l)) sc sv lv (d + 1) (nI (sm_cn T (32 * s + i))) (nI (32 * s + i)) lab len lat tim val slab slen slat stim sval tv ts := by
  intro d
  induction d with
  | zero =>
    intro i tv ts hi g
    obtain rfl : i = l := by omega
    exact br_t (nI_le (by omega) (by omega)) (h tv ts g)
  | succ d ih =>
    intro i tv ts hi g
    have ci : (nI (32 * s + i)).toNatClampNeg = 32 * s + i := nI_clamp (by omega)
    have hw := sm_cn_le T (32 * s + i)
    have cw : (nI (sm_cn T (32 * s + i))).toNatClampNeg = sm_cn T (32 * s + i) := nI_clamp (by omega)
    have e := hT i (by omega)
    have v1 : vp_in (nI (32 * s + i)) 256 := vp_in_nI (by omega) (by omega)
    have v2 : vp_in (nI (sm_cn T (32 * s + i))) 256 := vp_in_nI (by omega) (by omega)
    refine br_f (nI_ge (by omega) (by omega)) ⟨v1, ?_⟩
    rw [ci, cw]
    refine br_c (fun g1 => nm_r (nI_1 _) ?_) (fun g1 => ⟨v1, br_c (fun g2 => nm_r (nI_1 _) ?_) (fun g2 => ⟨v1, v2, nm_e ⟨v2, nm_e (nm_r (nI_1 _) (nm_r (nI_1 _) ?_))⟩⟩)⟩)
    · have f : T (32 * s + i) = false := by rw [e, decide_eq_false (not_not_intro g1), Bool.false_and]
      have z := ih (i + 1) tv ts (by omega) (sm_G_f g f)
      rw [← Nat.add_assoc, sm_cn_f f] at z
      exact z
    · have f : T (32 * s + i) = false := by rw [e, decide_eq_false (not_not_intro g2), Bool.and_false]
      have z := ih (i + 1) tv ts (by omega) (sm_G_f g f)
      rw [← Nat.add_assoc, sm_cn_f f] at z
      exact z
    · have f : T (32 * s + i) = true := by rw [e, decide_eq_true g1, decide_eq_true g2]; rfl
      have g' := sm_G_t g f
      rw [show (32 * s + i) / 32 = s from by omega] at g'
      have z := ih (i + 1) _ _ (by omega) g'
      rw [← Nat.add_assoc, sm_cn_t f] at z
      exact z
theorem sm_tf {T : Nat → Bool} {s l : Nat} {t u : Int32} (hs : s < 8) (hl : l ≤ 32) (el : len s = nI l) (hT : ∀ i, i < l → T (32 * s + i) = (decide (¬ tim (32 * s + i) < t) && decide (¬ u < tim (32 * s + i)))) {post : Int32 → SX → Prop} (g : sm_G T val tv ts (32 * s)) (h : ∀ tv ts, sm_G T val tv ts (32 * s + l) → post (nI (sm_cn T (32 * s + l))) (sc, sv, lv, lab, len, lat, tim, val, slab, slen, slat, stim, sval, tv, ts)) : wpX_takeFrom post (sc, sv, lv, lab, len, lat, tim, val, slab, slen, slat, stim, sval, tv, ts) (nI s) t u (nI (sm_cn T (32 * s))) := by
  have e1 : nI s * 32 = nI (32 * s) := by rw [Nat.mul_comm]; exact pk_mul s 32
  refine nm_r e1 ⟨vp_in_nI hs (by omega), nm_r (e' := nI (32 * s + l)) ?_ ⟨l + 1, ?_⟩⟩
  · rw [nI_clamp (by omega), el, nI_add]
  · exact sm_tf25 hs hl hT h l 0 tv ts (by omega) g
theorem sm_tk6 {c m : Nat} {t u : Int32} (I : sm_I c lab len lat tim val) (hm : m ≤ 728) {post : Int32 → SX → Prop} (h : ∀ tv ts, sm_G (sm_T c m t u lab len tim) val tv ts (32 * c) → post (nI (sm_cn (sm_T c m t u lab len tim) (32 * c))) (nI c, sv, lv, lab, len, lat, tim, val, slab, slen, slat, stim, sval, tv, ts)) : ∀ d s tv ts, s + d = c → sm_G (sm_T c m t u lab len tim) val tv ts (32 * s) → wX_take_6 post (nI m) t u (d + 1) (nI (sm_cn (sm_T c m t u lab len tim) (32 * s))) (nI s) (nI c) sv lv lab len lat tim val slab slen slat stim sval tv ts := by
  have hc := I.1
  intro d
  induction d with
  | zero =>
    intro s tv ts hs g
    obtain rfl : s = c := by omega
    exact br_t (nI_le (by omega) (by omega)) (h tv ts g)
  | succ d ih =>
    intro s tv ts hs g
    have hsc : s < c := by omega
    obtain ⟨b, hb, eb⟩ := I.2.1 s hsc
    obtain ⟨l, hl, el, a1, a2, a3⟩ := I.2.2 s hsc
    have ea := fun (i : Nat) (hi : i < 32) => sm_T_at (m := m) (t := t) (u := u) (tim := tim) hsc hl el hb eb hi
    refine br_f (nI_ge (by omega) (by omega)) (sm_xm (by omega) hm hb eb (sm_bb (fun z => nm_r (nI_1 s) ?_) (fun z => ?_)))
    · have f : ∀ j, 32 * s ≤ j → j < 32 * s + 32 → (sm_T c m t u lab len tim) j = false := by
        intro j h1 h2
        have y := ea (j - 32 * s) (by omega)
        rw [show 32 * s + (j - 32 * s) = j from by omega, z] at y
        rw [y]; simp
      have y := ih (s + 1) tv ts (by omega) (sm_G_flat g 32 f)
      rw [show 32 * (s + 1) = 32 * s + 32 from by omega, sm_cn_flat _ _ 32 f] at y
      exact y
    · refine sm_tf (by omega) hl el (fun i hi => ?_) g (fun tv ts g' => nm_r (nI_1 s) ?_)
      · rw [ea i (by omega), decide_eq_true hi, z]; simp
      · have f : ∀ j, 32 * s + l ≤ j → j < 32 * s + l + (32 - l) → (sm_T c m t u lab len tim) j = false := by
          intro j h1 h2
          have y := ea (j - 32 * s) (by omega)
          rw [show 32 * s + (j - 32 * s) = j from by omega, decide_eq_false (by omega), Bool.false_and] at y
          exact y
        have e : 32 * (s + 1) = 32 * s + l + (32 - l) := by omega
        have y := ih (s + 1) tv ts (by omega) (by rw [e]; exact sm_G_flat g' _ f)
        rw [e, sm_cn_flat _ _ _ f] at y
        exact y
theorem sm_take {c m : Nat} {t u : Int32} (I : sm_I c lab len lat tim val) (hm : m ≤ 728) {post : Int32 → SX → Prop} (h : ∀ tv ts, sm_G (sm_T c m t u lab len tim) val tv ts 256 → post (nI (sm_cn (sm_T c m t u lab len tim) 256)) (nI c, sv, lv, lab, len, lat, tim, val, slab, slen, slat, stim, sval, tv, ts)) : wpX_take post (nI c, sv, lv, lab, len, lat, tim, val, slab, slen, slat, stim, sval, tv, ts) (nI m) t u := by
  have hc := I.1
  refine ⟨c + 1, sm_tk6 I hm (fun tv ts g => ?_) c 0 tv ts (by omega) sm_G_0⟩
  rw [← sm_tot hc]
  refine h tv ts ?_
  have z := sm_G_flat g (256 - 32 * c) (fun j h _ => sm_T_out h)
  rw [show 32 * c + (256 - 32 * c) = 256 from by omega] at z
  exact z
end
theorem sm_ism (x : Int32) : ((∀ (post : Int32 → Prop) (w : SX), post 0 → wpX_isMatcher post w x) ∧ (∀ (post : Int32 → Prop) (w : SY), post 0 → wpY_isMatcher post w x)) ∨ (∃ m, m ≤ 728 ∧ x = nI m ∧ (∀ (post : Int32 → Prop) (w : SX), post 1 → wpX_isMatcher post w x) ∧ (∀ (post : Int32 → Prop) (w : SY), post 1 → wpY_isMatcher post w x)) := by
  by_cases h0 : x < 0
  · exact Or.inl ⟨fun _ _ h => br_t h0 h, fun _ _ h => br_t h0 h⟩
  · by_cases h1 : 728 < x
    · exact Or.inl ⟨fun _ _ h => br_f h0 (br_t h1 h), fun _ _ h => br_f h0 (br_t h1 h)⟩
    · obtain ⟨m, hm, e⟩ := nI_of2 (x := x) (M := 728) (n := 728) (by decide) h0 (Int32.not_lt.mp h1)
      exact Or.inr ⟨m, hm, e, fun _ _ h => br_f h0 (br_f h1 h), fun _ _ h => br_f h0 (br_f h1 h)⟩
section
variable {sc sv lv : Int32} {lab len lat tim val slab slen slat stim sval tv ts : Nat → Int32}
theorem sm_yct {c m : Nat} {t u : Int32} (I : sm_I c lab len lat tim val) (hm : m ≤ 728) {post : Int32 → Prop} (h : post (nI (sm_cn (sm_T c m t u lab len tim) 256))) : ∀ d j, j + d = 256 → wY_count_18 post (nI m) t u (nI c) sv lab len lat tim val slab slen slat stim sval (d + 1) (nI (sm_cn (sm_T c m t u lab len tim) j)) (nI j) := by
  intro d
  induction d with
  | zero =>
    intro j hj
    obtain rfl : j = 256 := by omega
    exact br_t (nI_le (a := 256) (b := 256) (by omega) (by omega)) h
  | succ d ih =>
    intro j hj
    have y := ih (j + 1) (by omega)
    refine br_f (nI_ge (b := 256) (by omega) (by omega)) (sm_takes I (by omega) hm (sm_bb (fun z => nm_r (nI_1 j) ?_) (fun z => nm_r (nI_1 _) (nm_r (nI_1 j) ?_))))
    · rw [sm_cn_f z] at y; exact y
    · rw [sm_cn_t z] at y; exact y
theorem i_vc_count {k : Nat} {u : SX} {v : SY} (I : i_Rel k u v) (hk : k + 5 ≤ 2560) (v1 : Int32) (v2 : Int32) (v3 : Int32) : wpX_count (fun r u' => wpY_count (fun r' => r' = r ∧ i_Rel (k + 5) u' v) v v1 v2 v3) u v1 v2 v3 := by
  obtain ⟨c, e, lv, lab, len, lat, tim, val, slab, slen, slat, stim, sval, tv, ts, rfl, rfl, I, J⟩ := I
  unfold wpX_count wpY_count
  rcases sm_ism v1 with ⟨bx, bY⟩ | ⟨m, hm, rfl, gx, gy⟩
  · exact bx _ _ (br_t rfl (bY _ _ (br_t rfl ⟨rfl, sm_R I J⟩)))
  · refine gx _ _ (br_f (by decide) ?_)
    refine sm_take I hm (fun tv ts g => ?_)
    refine gy _ _ (br_f (by decide) ⟨257, ?_⟩)
    exact sm_yct I hm ⟨rfl, sm_R I J⟩ 256 0 rfl
end
end
section
theorem sm_rg {x : Int32} (h : -1000 ≤ x ∧ x ≤ 1000) : -1000 ≤ x.toInt ∧ x.toInt ≤ 1000 := by
  have h1 := Int32.le_iff_toInt_le.mp h.1
  have h2 := Int32.le_iff_toInt_le.mp h.2
  rw [show (-1000 : Int32).toInt = -1000 from by decide] at h1
  rw [show (1000 : Int32).toInt = 1000 from by decide] at h2
  exact ⟨h1, h2⟩
theorem sm_rgn {x : Int32} (h : -1000 ≤ x ∧ x ≤ 1000) : ¬ x = -10003 := by
  intro e
  rw [e] at h
  exact absurd h.1 (by decide)
theorem sm_mi {x : Int32} (h : -1000 ≤ x ∧ x ≤ 1000) : ((-1) * x).toInt = - x.toInt := by
  have := sm_rg h
  rw [Int32.toInt_mul, show (-1 : Int32).toInt = -1 from by decide]
  rw [Int.bmod_eq_of_le (by omega) (by omega)]
  omega
theorem sm_mle {x y : Int32} (hx : -1000 ≤ x ∧ x ≤ 1000) (hy : -1000 ≤ y ∧ y ≤ 1000) : (-1) * x ≤ (-1) * y ↔ y ≤ x := by
  rw [Int32.le_iff_toInt_le, Int32.le_iff_toInt_le, sm_mi hx, sm_mi hy]
  omega
theorem sm_dlt {x y : Int32} (hx : -1000 ≤ x ∧ x ≤ 1000) (hy : -1000 ≤ y ∧ y ≤ 1000) : x - y < 0 ↔ x < y := by
  have a := sm_rg hx
  have b := sm_rg hy
  rw [Int32.lt_iff_toInt_lt, Int32.lt_iff_toInt_lt, Int32.toInt_sub, Int.bmod_eq_of_le (by omega) (by omega), show (0 : Int32).toInt = 0 from by decide]
  omega
/-- all that stands in tv is within bounds -/
theorem sm_tvr {c m : Nat} {t u : Int32} {lab len lat tim val tv ts : Nat → Int32} (I : sm_I c lab len lat tim val) (g : sm_G (sm_T c m t u lab len tim) val tv ts 256) {i : Nat} (hi : i < sm_cn (sm_T c m t u lab len tim) 256) : -1000 ≤ tv i ∧ tv i ≤ 1000 := by
  obtain ⟨j, hj, hT, e⟩ := sm_cn_ivt _ i 256 hi
  rw [← e, (g j hj hT).1]
  exact sm_T_in I hT
def sm_ad (a v : Int32) : Int32 := a + v
def sm_ex (sg a v : Int32) : Int32 := if a = -10003 then v else if sg * a ≤ sg * v then a else v
section
variable {sc sv lv : Int32} {lab len lat tim val slab slen slat stim sval tv ts : Nat → Int32}
theorem sm_ysm {c m : Nat} {t u : Int32} (I : sm_I c lab len lat tim val) (hm : m ≤ 728) {post : Int32 → Prop} (h : post (sm_fo sm_ad 0 (sm_T c m t u lab len tim) val 256)) : ∀ d j, j + d = 256 → wY_sum_16 post (nI m) t u (nI c) sv lab len lat tim val slab slen slat stim sval (d + 1) (sm_fo sm_ad 0 (sm_T c m t u lab len tim) val j) (nI j) := by
  intro d
  induction d with
  | zero =>
    intro j hj
    obtain rfl : j = 256 := by omega
    exact br_t (nI_le (a := 256) (b := 256) (by omega) (by omega)) h
  | succ d ih =>
    intro j hj
    have y := ih (j + 1) (by omega)
    refine br_f (nI_ge (b := 256) (by omega) (by omega)) (sm_takes I (by omega) hm (sm_bb (fun z => nm_r (nI_1 j) ?_) (fun z => ⟨vp_in_nI (by omega) (by omega), nm_r (e' := sm_ad (sm_fo sm_ad 0 (sm_T c m t u lab len tim) val j) (val j)) ?_ (nm_r (nI_1 j) ?_)⟩)))
    · rw [sm_fo_f z] at y; exact y
    · rw [nI_clamp (by omega)]; rfl
    · rw [sm_fo_t z] at y; exact y
theorem sm_xsm {N : Nat} (hN : N ≤ 256) {post : Int32 → SX → Prop} (h : post (sm_fo sm_ad 0 (fun _ => true) tv N) (sc, sv, lv, lab, len, lat, tim, val, slab, slen, slat, stim, sval, tv, ts)) : ∀ d j, j + d = N → wX_sum_25 post (nI N) sc sv lv lab len lat tim val slab slen slat stim sval tv ts (d + 1) (sm_fo sm_ad 0 (fun _ => true) tv j) (nI j) := by
  intro d
  induction d with
  | zero =>
    intro j hj
    obtain rfl : j = N := by omega
    exact br_t (nI_le (by omega) (by omega)) h
  | succ d ih =>
    intro j hj
    have y := ih (j + 1) (by omega)
    rw [sm_fo_t rfl] at y
    exact br_f (nI_ge (by omega) (by omega)) ⟨vp_in_nI (by omega) (by omega), nm_r (e' := sm_ad (sm_fo sm_ad 0 (fun _ => true) tv j) (tv j)) (by rw [nI_clamp (by omega)]; rfl) (nm_r (nI_1 j) y)⟩
theorem i_vc_sum {k : Nat} {u : SX} {v : SY} (I : i_Rel k u v) (hk : k + 5 ≤ 2560) (v1 : Int32) (v2 : Int32) (v3 : Int32) : wpX_sum (fun r u' => wpY_sum (fun r' => r' = r ∧ i_Rel (k + 5) u' v) v v1 v2 v3) u v1 v2 v3 := by
  obtain ⟨c, e, lv, lab, len, lat, tim, val, slab, slen, slat, stim, sval, tv, ts, rfl, rfl, I, J⟩ := I
  unfold wpX_sum wpY_sum
  rcases sm_ism v1 with ⟨bx, bY⟩ | ⟨m, hm, rfl, gx, gy⟩
  · exact bx _ _ (br_t rfl (bY _ _ (br_t rfl ⟨rfl, sm_R I J⟩)))
  · refine gx _ _ (br_f (by decide) ?_)
    refine sm_take I hm (fun tv ts g => ?_)
    refine ⟨_, sm_xsm (sm_cn_le _ 256) ?_ (sm_cn _ 256) 0 (Nat.zero_add _)⟩
    refine gy _ _ (br_f (by decide) ⟨257, ?_⟩)
    refine sm_ysm I hm ⟨?_, sm_R I J⟩ 256 0 rfl
    exact (sm_fo_x 256 (fun j hj hT => (g j hj hT).1)).symm
/-- X's fold for least and most stays within bounds -/
theorem sm_exr {sg : Int32} {N : Nat} (hr : ∀ i, i < N → -1000 ≤ tv i ∧ tv i ≤ 1000) : ∀ i, i < N → -1000 ≤ sm_fo (sm_ex sg) (-10003) (fun _ => true) tv (i + 1) ∧ sm_fo (sm_ex sg) (-10003) (fun _ => true) tv (i + 1) ≤ 1000 := by
  intro i
  induction i with
  | zero =>
    intro hi
    rw [sm_fo_t rfl]
    show -1000 ≤ sm_ex sg (-10003) (tv 0) ∧ sm_ex sg (-10003) (tv 0) ≤ 1000
    rw [sm_ex, if_pos rfl]
    exact hr 0 hi
  | succ i ih =>
    intro hi
    have a := ih (by omega)
    rw [sm_fo_t rfl, sm_ex, if_neg (sm_rgn a)]
    split
    · exact a
    · exact hr _ hi
theorem sm_ex1 (sg : Int32) : sm_fo (sm_ex sg) (-10003) (fun _ => true) tv 1 = tv 0 := by
  rw [sm_fo_t rfl]
  show sm_ex sg (-10003) (tv 0) = tv 0
  rw [sm_ex, if_pos rfl]
theorem sm_yex {c m : Nat} {t u sg : Int32} (I : sm_I c lab len lat tim val) (hm : m ≤ 728) {post : Int32 → Prop} (h : post (sm_fo (sm_ex sg) (-10003) (sm_T c m t u lab len tim) val 256)) : ∀ d j, j + d = 256 → wY_extreme_8 post (nI m) t u sg (nI c) sv lab len lat tim val slab slen slat stim sval (d + 1) (sm_fo (sm_ex sg) (-10003) (sm_T c m t u lab len tim) val j) (nI j) := by
  intro d
  induction d with
  | zero =>
    intro j hj
    obtain rfl : j = 256 := by omega
    exact br_t (nI_le (a := 256) (b := 256) (by omega) (by omega)) h
  | succ d ih =>
    intro j hj
    have y := ih (j + 1) (by omega)
    have vj : vp_in (nI j) 256 := vp_in_nI (by omega) (by omega)
    have cj : (nI j).toNatClampNeg = j := nI_clamp (by omega)
    refine br_f (nI_ge (b := 256) (by omega) (by omega)) (sm_takes I (by omega) hm (sm_bb (fun z => nm_r (nI_1 j) ?_) (fun z => ?_)))
    · rw [sm_fo_f z] at y; exact y
    rw [sm_fo_t z] at y
    rw [cj]
    refine br_c (fun q => ⟨vj, nm_e (nm_r (nI_1 j) ?_)⟩) (fun q => ⟨vj, br_c (fun q2 => nm_r (nI_1 j) ?_) (fun q2 => ⟨vj, nm_e (nm_r (nI_1 j) ?_)⟩)⟩)
    · rw [sm_ex, if_pos q] at y; exact y
    · rw [sm_ex, if_neg q, if_pos q2] at y; exact y
    · rw [sm_ex, if_neg q, if_neg q2] at y; exact y
theorem sm_xle {N : Nat} (hN : N ≤ 256) (hr : ∀ i, i < N → -1000 ≤ tv i ∧ tv i ≤ 1000) {post : Int32 → SX → Prop} (h : post (sm_fo (sm_ex 1) (-10003) (fun _ => true) tv N) (sc, sv, lv, lab, len, lat, tim, val, slab, slen, slat, stim, sval, tv, ts)) : ∀ d j, j + 1 + d = N → wX_least_41 post (nI N) sc sv lv lab len lat tim val slab slen slat stim sval tv ts (d + 1) (sm_fo (sm_ex 1) (-10003) (fun _ => true) tv (j + 1)) (nI (j + 1)) := by
  intro d
  induction d with
  | zero =>
    intro j hj
    obtain rfl : j + 1 = N := by omega
    exact br_t (nI_le (by omega) (by omega)) h
  | succ d ih =>
    intro j hj
    have y := ih (j + 1) (by omega)
    have a := sm_exr (sg := 1) hr j (by omega)
    rw [sm_fo_t rfl, sm_ex, if_neg (sm_rgn a), Int32.one_mul, Int32.one_mul] at y
    have vj : vp_in (nI (j + 1)) 256 := vp_in_nI (by omega) (by omega)
    have cj : (nI (j + 1)).toNatClampNeg = j + 1 := nI_clamp (by omega)
    refine br_f (nI_ge (by omega) (by omega)) ⟨vj, ?_⟩
    rw [cj]
    refine br_c (fun q => nm_r (nI_1 _) ?_) (fun q => ⟨vj, nm_e (nm_r (nI_1 _) ?_)⟩)
    · rw [if_pos q] at y; exact y
    · rw [if_neg q] at y; exact y
theorem sm_xmo {N : Nat} (hN : N ≤ 256) (hr : ∀ i, i < N → -1000 ≤ tv i ∧ tv i ≤ 1000) {post : Int32 → SX → Prop} (h : post (sm_fo (sm_ex (-1)) (-10003) (fun _ => true) tv N) (sc, sv, lv, lab, len, lat, tim, val, slab, slen, slat, stim, sval, tv, ts)) : ∀ d j, j + 1 + d = N → wX_most_41 post (nI N) sc sv lv lab len lat tim val slab slen slat stim sval tv ts (d + 1) (sm_fo (sm_ex (-1)) (-10003) (fun _ => true) tv (j + 1)) (nI (j + 1)) := by
  intro d
  induction d with
  | zero =>
    intro j hj
    obtain rfl : j + 1 = N := by omega
    exact br_t (nI_le (by omega) (by omega)) h
  | succ d ih =>
    intro j hj
    have y := ih (j + 1) (by omega)
    have a := sm_exr (sg := -1) hr j (by omega)
    have mm := sm_mle a (hr (j + 1) (by omega))
    rw [sm_fo_t rfl, sm_ex, if_neg (sm_rgn a)] at y
    have vj : vp_in (nI (j + 1)) 256 := vp_in_nI (by omega) (by omega)
    have cj : (nI (j + 1)).toNatClampNeg = j + 1 := nI_clamp (by omega)
    refine br_f (nI_ge (by omega) (by omega)) ⟨vj, ?_⟩
    rw [cj]
    refine br_c (fun q => nm_r (nI_1 _) ?_) (fun q => ⟨vj, nm_e (nm_r (nI_1 _) ?_)⟩)
    · rw [if_pos (mm.mpr q)] at y; exact y
    · rw [if_neg (fun z => q (mm.mp z))] at y; exact y
theorem i_vc_least {k : Nat} {u : SX} {v : SY} (I : i_Rel k u v) (hk : k + 5 ≤ 2560) (v1 : Int32) (v2 : Int32) (v3 : Int32) : wpX_least (fun r u' => wpY_least (fun r' => r' = r ∧ i_Rel (k + 5) u' v) v v1 v2 v3) u v1 v2 v3 := by
  obtain ⟨c, e, lv, lab, len, lat, tim, val, slab, slen, slat, stim, sval, tv, ts, rfl, rfl, I, J⟩ := I
  unfold wpX_least wpY_least
  rcases sm_ism v1 with ⟨bx, bY⟩ | ⟨m, hm, rfl, gx, gy⟩
  · exact bx _ _ (br_t rfl (bY _ _ (br_t rfl ⟨rfl, sm_R I J⟩)))
  · refine gx _ _ (br_f (by decide) ?_)
    refine sm_take I hm (fun tv ts g => ?_)
    have hN := sm_cn_le (sm_T c m v2 v3 lab len tim) 256
    have fx := sm_fo_x (f := sm_ex 1) (a := -10003) 256 (fun j hj hT => (g j hj hT).1)
    refine pk_eq (sm_cn (sm_T c m v2 v3 lab len tim) 256) 0 (fun q => ?_) (fun q => ?_)
    · refine gy _ _ (br_f (by decide) ⟨257, ?_⟩)
      refine sm_yex I hm ⟨?_, sm_R I J⟩ 256 0 rfl
      rw [q] at fx; exact fx.symm
    · refine nm_r (sm_ex1 (tv := tv) 1).symm ⟨sm_cn (sm_T c m v2 v3 lab len tim) 256 - 1 + 1, ?_⟩
      refine sm_xle hN (fun i hi => sm_tvr I g hi) ?_ _ 0 (by omega)
      refine gy _ _ (br_f (by decide) ⟨257, ?_⟩)
      exact sm_yex I hm ⟨fx.symm, sm_R I J⟩ 256 0 rfl
theorem i_vc_most {k : Nat} {u : SX} {v : SY} (I : i_Rel k u v) (hk : k + 5 ≤ 2560) (v1 : Int32) (v2 : Int32) (v3 : Int32) : wpX_most (fun r u' => wpY_most (fun r' => r' = r ∧ i_Rel (k + 5) u' v) v v1 v2 v3) u v1 v2 v3 := by
  obtain ⟨c, e, lv, lab, len, lat, tim, val, slab, slen, slat, stim, sval, tv, ts, rfl, rfl, I, J⟩ := I
  unfold wpX_most wpY_most
  rcases sm_ism v1 with ⟨bx, bY⟩ | ⟨m, hm, rfl, gx, gy⟩
  · exact bx _ _ (br_t rfl (bY _ _ (br_t rfl ⟨rfl, sm_R I J⟩)))
  · refine gx _ _ (br_f (by decide) ?_)
    refine sm_take I hm (fun tv ts g => ?_)
    have hN := sm_cn_le (sm_T c m v2 v3 lab len tim) 256
    have fx := sm_fo_x (f := sm_ex (-1)) (a := -10003) 256 (fun j hj hT => (g j hj hT).1)
    refine pk_eq (sm_cn (sm_T c m v2 v3 lab len tim) 256) 0 (fun q => ?_) (fun q => ?_)
    · refine gy _ _ (br_f (by decide) ⟨257, ?_⟩)
      refine sm_yex I hm ⟨?_, sm_R I J⟩ 256 0 rfl
      rw [q] at fx; exact fx.symm
    · refine nm_r (sm_ex1 (tv := tv) (-1)).symm ⟨sm_cn (sm_T c m v2 v3 lab len tim) 256 - 1 + 1, ?_⟩
      refine sm_xmo hN (fun i hi => sm_tvr I g hi) ?_ _ 0 (by omega)
      refine gy _ _ (br_f (by decide) ⟨257, ?_⟩)
      exact sm_yex I hm ⟨fx.symm, sm_R I J⟩ 256 0 rfl
end
end
section
def sm_st (a b : Int32) : Int32 := if b < a then (if b ≤ 0 then 0 else b) else b - a
def sm_gy (T : Nat → Bool) (val : Nat → Int32) : Nat → Int32
  | 0 => 0
  | k + 1 => if 0 < k % 32 ∧ T (k - 1) = true ∧ T k = true then sm_gy T val k + sm_st (val (k - 1)) (val k) else sm_gy T val k
def sm_gx (tv ts : Nat → Int32) : Nat → Int32
  | 0 => 0
  | i + 1 => if 0 < i ∧ ts i = ts (i - 1) then sm_gx tv ts i + sm_st (tv (i - 1)) (tv i) else sm_gx tv ts i
theorem sm_gy_t {T : Nat → Bool} {val : Nat → Int32} {k : Nat} (h : 0 < k % 32 ∧ T (k - 1) = true ∧ T k = true) : sm_gy T val (k + 1) = sm_gy T val k + sm_st (val (k - 1)) (val k) := if_pos h
theorem sm_gy_f {T : Nat → Bool} {val : Nat → Int32} {k : Nat} (h : ¬ (0 < k % 32 ∧ T (k - 1) = true ∧ T k = true)) : sm_gy T val (k + 1) = sm_gy T val k := if_neg h
theorem sm_gx_t {tv ts : Nat → Int32} {i : Nat} (h : 0 < i ∧ ts i = ts (i - 1)) : sm_gx tv ts (i + 1) = sm_gx tv ts i + sm_st (tv (i - 1)) (tv i) := if_pos h
theorem sm_gx_f {tv ts : Nat → Int32} {i : Nat} (h : ¬ (0 < i ∧ ts i = ts (i - 1))) : sm_gx tv ts (i + 1) = sm_gx tv ts i := if_neg h
theorem sm_mono {l s : Nat} {tim : Nat → Int32} (a1 : ∀ i j, i < j → j < l → tim (32 * s + i) < tim (32 * s + j)) {i j : Nat} (h : i ≤ j) (hj : j < l) : tim (32 * s + i) ≤ tim (32 * s + j) := by
  by_cases e : i = j
  · rw [e]; exact Int32.le_refl _
  · exact Int32.le_of_lt (a1 i j (by omega) hj)
theorem sm_T_mid {c m i j k : Nat} {t u : Int32} {lab len lat tim val : Nat → Int32} (I : sm_I c lab len lat tim val) (hj : (sm_T c m t u lab len tim) j = true) (hk : (sm_T c m t u lab len tim) k = true) (e : j / 32 = k / 32) (h1 : j ≤ i) (h2 : i ≤ k) : (sm_T c m t u lab len tim) i = true := by
  simp only [sm_T, Bool.and_eq_true, decide_eq_true_eq] at hj hk ⊢
  obtain ⟨l, hl, el, a1, a2, a3⟩ := I.2.2 (k / 32) hk.1
  have ei : i / 32 = k / 32 := by omega
  rw [e] at hj
  rw [ei]
  rw [el, nI_clamp (by omega)] at hj hk ⊢
  have w1 := sm_mono a1 (i := j % 32) (j := i % 32) (by omega) (by omega)
  have w2 := sm_mono a1 (i := i % 32) (j := k % 32) (by omega) (by omega)
  rw [show 32 * (k / 32) + j % 32 = j from by omega, show 32 * (k / 32) + i % 32 = i from by omega] at w1
  rw [show 32 * (k / 32) + k % 32 = k from by omega, show 32 * (k / 32) + i % 32 = i from by omega] at w2
  refine ⟨hk.1, by omega, fun z => ?_, fun z => ?_, hk.2.2.2.2⟩
  · exact hj.2.2.1 (Int32.lt_of_le_of_lt w1 z)
  · exact hk.2.2.2.1 (Int32.lt_of_lt_of_le z w2)
theorem sm_grow {c m : Nat} {t u : Int32} {lab len lat tim val tv ts : Nat → Int32} (I : sm_I c lab len lat tim val) (g : sm_G (sm_T c m t u lab len tim) val tv ts 256) : ∀ k, k ≤ 256 → sm_gx tv ts (sm_cn (sm_T c m t u lab len tim) k) = sm_gy (sm_T c m t u lab len tim) val k := by
  intro k
  induction k with
  | zero => intro _; rfl
  | succ k ih =>
    intro hk
    have e := ih (by omega)
    have gk := g k (by omega)
    cases hT : (sm_T c m t u lab len tim) k
    · rw [sm_cn_f hT, e, sm_gy_f (fun z => by rw [hT] at z; exact absurd z.2.2 (by decide))]
    · rw [sm_cn_t hT]
      by_cases h0 : sm_cn (sm_T c m t u lab len tim) k = 0
      · rw [sm_gx_f (by omega), e, sm_gy_f]
        rintro ⟨z1, z2, _⟩
        have w := sm_cn_t z2
        rw [show k - 1 + 1 = k from by omega] at w
        omega
      · obtain ⟨j, hj, hTj, ej⟩ := sm_cn_ivt (sm_T c m t u lab len tim) (sm_cn (sm_T c m t u lab len tim) k - 1) k (by omega)
        have gj := g j (by omega) hTj
        rw [ej] at gj
        have none : ∀ i, j < i → i < k → (sm_T c m t u lab len tim) i = true → False := by
          intro i h1 h2 h3
          have w1 := sm_cn_mono (sm_T c m t u lab len tim) (j + 1) (i - (j + 1))
          rw [show j + 1 + (i - (j + 1)) = i from by omega, sm_cn_t hTj] at w1
          have w2 := sm_cn_mono (sm_T c m t u lab len tim) (i + 1) (k - (i + 1))
          rw [show i + 1 + (k - (i + 1)) = k from by omega, sm_cn_t h3] at w2
          omega
        by_cases hb : j / 32 = k / 32
        · have ejk : j = k - 1 := by
            by_cases q : j = k - 1
            · exact q
            · exact (none (k - 1) (by omega) (by omega) (sm_T_mid I hTj hT hb (by omega) (by omega))).elim
          rw [sm_gx_t ⟨by omega, by rw [(gk hT).2, gj.2, hb]⟩, e, (gk hT).1, gj.1, sm_gy_t ⟨by omega, by rw [← ejk]; exact hTj, hT⟩, ejk]
        · rw [sm_gx_f, e, sm_gy_f]
          · rintro ⟨z1, z2, _⟩
            by_cases q : j = k - 1
            · omega
            · exact none (k - 1) (by omega) (by omega) z2
          · rintro ⟨_, z⟩
            rw [(gk hT).2, gj.2] at z
            have := (nI_eq (by omega) (by omega)).mp z
            omega
section
variable {sc sv lv : Int32} {lab len lat tim val slab slen slat stim sval tv ts : Nat → Int32}
theorem sm_step (a b : Int32) {post : Int32 → Prop} (h : post (sm_st a b)) : wpX_step post (sc, sv, lv, lab, len, lat, tim, val, slab, slen, slat, stim, sval, tv, ts) a b := by
  refine br_c (fun q => br_c (fun q2 => ?_) (fun q2 => ?_)) (fun q => ?_)
  · rw [sm_st, if_pos q, if_pos q2] at h; exact h
  · rw [sm_st, if_pos q, if_neg q2] at h; exact h
  · rw [sm_st, if_neg q] at h; exact h
theorem sm_xgr {N : Nat} (hN : N ≤ 256) {post : Int32 → SX → Prop} (h : post (sm_gx tv ts N) (sc, sv, lv, lab, len, lat, tim, val, slab, slen, slat, stim, sval, tv, ts)) : ∀ d j, j + 1 + d = N → wX_growth_25 post (nI N) sc sv lv lab len lat tim val slab slen slat stim sval tv ts (d + 1) (sm_gx tv ts (j + 1)) (nI (j + 1)) := by
  intro d
  induction d with
  | zero =>
    intro j hj
    obtain rfl : j + 1 = N := by omega
    exact br_t (nI_le (by omega) (by omega)) h
  | succ d ih =>
    intro j hj
    have y := ih (j + 1) (by omega)
    have vj : vp_in (nI (j + 1)) 256 := vp_in_nI (by omega) (by omega)
    have vp : vp_in (nI j) 256 := vp_in_nI (by omega) (by omega)
    have cj : (nI (j + 1)).toNatClampNeg = j + 1 := nI_clamp (by omega)
    have cp : (nI j).toNatClampNeg = j := nI_clamp (by omega)
    refine br_f (nI_ge (by omega) (by omega)) ?_
    rw [nI_pred, cj, cp]
    refine ⟨vj, vp, br_c (fun q => ⟨vp, vj, sm_step _ _ (nm_e (nm_r (nI_1 _) ?_))⟩) (fun q => nm_r (nI_1 _) ?_)⟩
    · rw [sm_gx_t ⟨by omega, q⟩] at y; exact y
    · rw [sm_gx_f (fun z => q z.2)] at y; exact y
theorem sm_ygr {c m : Nat} {t u : Int32} (I : sm_I c lab len lat tim val) (hm : m ≤ 728) {post : Int32 → Prop} (h : post (sm_gy (sm_T c m t u lab len tim) val 256)) : ∀ d j, j + 1 + d = 256 → wY_growth_16 post (nI m) t u (nI c) sv lab len lat tim val slab slen slat stim sval (d + 1) (sm_gy (sm_T c m t u lab len tim) val (j + 1)) (nI (j + 1)) := by
  intro d
  induction d with
  | zero =>
    intro j hj
    obtain rfl : j = 255 := by omega
    exact br_t (nI_le (a := 256) (b := 256) (by omega) (by omega)) h
  | succ d ih =>
    intro j hj
    have y := ih (j + 1) (by omega)
    have vj : vp_in (nI (j + 1)) 256 := vp_in_nI (by omega) (by omega)
    have vp : vp_in (nI j) 256 := vp_in_nI (by omega) (by omega)
    have cj : (nI (j + 1)).toNatClampNeg = j + 1 := nI_clamp (by omega)
    have cp : (nI j).toNatClampNeg = j := nI_clamp (by omega)
    refine br_f (nI_ge (b := 256) (by omega) (by omega)) ⟨by decide, pk_le ((j + 1) % 32) 0 (fun q => nm_r (nI_1 _) ?_) (fun q => ?_) (pk_rem (d := 32) (by omega) (by omega) (by omega))⟩
    · rw [sm_gy_f (by omega)] at y; exact y
    rw [nI_pred, cj, cp]
    refine sm_takes I (by omega) hm (sm_bb (fun z => nm_r (nI_1 _) ?_) (fun z => ?_))
    · rw [sm_gy_f (fun w => by have w2 := w.2.1; rw [show j + 1 - 1 = j from rfl, z] at w2; exact absurd w2 (by decide))] at y; exact y
    refine sm_takes I (by omega) hm (sm_bb (fun z2 => nm_r (nI_1 _) ?_) (fun z2 => ⟨vj, vp, nm_e ?_⟩))
    · rw [sm_gy_f (fun w => by have w2 := w.2.2; rw [z2] at w2; exact absurd w2 (by decide))] at y; exact y
    rw [sm_gy_t ⟨q, z, z2⟩] at y
    have dl := sm_dlt (sm_T_in I z2) (sm_T_in I z)
    refine br_c (fun w => ⟨vj, br_c (fun w2 => nm_r (nI_1 _) ?_) (fun w2 => ⟨vj, nm_e (nm_r (nI_1 _) ?_)⟩)⟩) (fun w => nm_e (nm_r (nI_1 _) ?_))
    · rw [show j + 1 - 1 = j from rfl, sm_st, if_pos (dl.mp w), if_pos w2, Int32.add_zero] at y; exact y
    · rw [show j + 1 - 1 = j from rfl, sm_st, if_pos (dl.mp w), if_neg w2] at y; exact y
    · rw [show j + 1 - 1 = j from rfl, sm_st, if_neg (fun z => w (dl.mpr z))] at y; exact y
theorem sm_xgrw {N : Nat} (hN : N ≤ 256) {post : Int32 → SX → Prop} (h : post (sm_gx tv ts N) (sc, sv, lv, lab, len, lat, tim, val, slab, slen, slat, stim, sval, tv, ts)) : ∃ n, wX_growth_25 post (nI N) sc sv lv lab len lat tim val slab slen slat stim sval tv ts n 0 1 := by
  by_cases q : N = 0
  · subst q
    exact ⟨1, br_t (nI_le (a := 0) (b := 1) (by omega) (by omega)) h⟩
  · have z := sm_xgr hN h (N - 1) 0 (by omega)
    rw [show sm_gx tv ts (0 + 1) = 0 from sm_gx_f (by omega)] at z
    exact ⟨_, z⟩
theorem sm_ygrw {c m : Nat} {t u : Int32} (I : sm_I c lab len lat tim val) (hm : m ≤ 728) {post : Int32 → Prop} (h : post (sm_gy (sm_T c m t u lab len tim) val 256)) : ∃ n, wY_growth_16 post (nI m) t u (nI c) sv lab len lat tim val slab slen slat stim sval n 0 1 := by
  have z := sm_ygr (sv := sv) (slab := slab) (slen := slen) (slat := slat) (stim := stim) (sval := sval) I hm h 255 0 rfl
  rw [show sm_gy (sm_T c m t u lab len tim) val (0 + 1) = 0 from sm_gy_f (by omega)] at z
  exact ⟨_, z⟩
theorem i_vc_growth {k : Nat} {u : SX} {v : SY} (I : i_Rel k u v) (hk : k + 5 ≤ 2560) (v1 : Int32) (v2 : Int32) (v3 : Int32) : wpX_growth (fun r u' => wpY_growth (fun r' => r' = r ∧ i_Rel (k + 5) u' v) v v1 v2 v3) u v1 v2 v3 := by
  obtain ⟨c, e, lv, lab, len, lat, tim, val, slab, slen, slat, stim, sval, tv, ts, rfl, rfl, I, J⟩ := I
  unfold wpX_growth wpY_growth
  rcases sm_ism v1 with ⟨bx, bY⟩ | ⟨m, hm, rfl, gx, gy⟩
  · exact bx _ _ (br_t rfl (bY _ _ (br_t rfl ⟨rfl, sm_R I J⟩)))
  · refine gx _ _ (br_f (by decide) ?_)
    refine sm_take I hm (fun tv ts g => ?_)
    refine sm_xgrw (sm_cn_le _ 256) ?_
    refine gy _ _ (br_f (by decide) ?_)
    exact sm_ygrw I hm ⟨(sm_grow I g 256 (by omega)).symm, sm_R I J⟩
end
end
section
theorem sm_iss (x : Int32) {c : Nat} (hc : c ≤ 8) : ((∀ (post : Int32 → Prop) (sv lv : Int32) (lab len lat tim val slab slen slat stim sval tv ts : Nat → Int32), post 0 → wpX_isSeries post (nI c, sv, lv, lab, len, lat, tim, val, slab, slen, slat, stim, sval, tv, ts) x) ∧ (∀ (post : Int32 → Prop) (sv : Int32) (lab len lat tim val slab slen slat stim sval : Nat → Int32), post 0 → wpY_isSeries post (nI c, sv, lab, len, lat, tim, val, slab, slen, slat, stim, sval) x)) ∨ (∃ s, s < c ∧ x = nI s ∧ (∀ (post : Int32 → Prop) (sv lv : Int32) (lab len lat tim val slab slen slat stim sval tv ts : Nat → Int32), post 1 → wpX_isSeries post (nI c, sv, lv, lab, len, lat, tim, val, slab, slen, slat, stim, sval, tv, ts) x) ∧ (∀ (post : Int32 → Prop) (sv : Int32) (lab len lat tim val slab slen slat stim sval : Nat → Int32), post 1 → wpY_isSeries post (nI c, sv, lab, len, lat, tim, val, slab, slen, slat, stim, sval) x)) := by
  by_cases h0 : x < 0
  · exact Or.inl ⟨fun _ _ _ _ _ _ _ _ _ _ _ _ _ _ _ h => br_t h0 h, fun _ _ _ _ _ _ _ _ _ _ _ _ h => br_t h0 h⟩
  · by_cases h1 : nI c ≤ x
    · exact Or.inl ⟨fun _ _ _ _ _ _ _ _ _ _ _ _ _ _ _ h => br_f h0 (br_t h1 h), fun _ _ _ _ _ _ _ _ _ _ _ _ h => br_f h0 (br_t h1 h)⟩
    · obtain ⟨s, hs, e⟩ := nI_of h0
      have hsc : s < c := by
        rw [e, nI_leI (by omega) hs] at h1
        omega
      exact Or.inr ⟨s, hsc, e, fun _ _ _ _ _ _ _ _ _ _ _ _ _ _ _ h => br_f h0 (br_f h1 h), fun _ _ _ _ _ _ _ _ _ _ _ _ h => br_f h0 (br_f h1 h)⟩
theorem sm_fo_flat (f : Int32 → Int32 → Int32) (a : Int32) (T : Nat → Bool) (val : Nat → Int32) (k : Nat) : ∀ d, (∀ j, k ≤ j → j < k + d → T j = false) → sm_fo f a T val (k + d) = sm_fo f a T val k := by
  intro d
  induction d with
  | zero => intro _; rfl
  | succ d ih =>
    intro h
    rw [← Nat.add_assoc, sm_fo_f (h (k + d) (by omega) (by omega))]
    exact ih (fun j h1 h2 => h j h1 (by omega))
/-- what at answers, as Y finds it among the first l -/
def sm_at (tim val : Nat → Int32) (x : Int32) (s : Nat) : Nat → Int32 := sm_fo (fun _ v => v) (-10003) (fun i => decide (¬ x < tim (32 * s + i)) && decide (¬ tim (32 * s + i) ≤ x - 50)) (fun i => val (32 * s + i))
/-- the bits of the series below s -/
def sm_mg (lab : Nat → Int32) (m : Nat) : Nat → Int32
  | 0 => 0
  | s + 1 => if sm_mt m (lab s).toNatClampNeg = true then sm_mg lab m s ||| ((1 : Int32) <<< (nI s &&& 31)) else sm_mg lab m s
section
variable {sc sv lv : Int32} {lab len lat tim val slab slen slat stim sval tv ts : Nat → Int32}
theorem i_vc_length {k : Nat} {u : SX} {v : SY} (I : i_Rel k u v) (hk : k + 5 ≤ 2560) (v1 : Int32) : wpX_length (fun r => wpY_length (fun r' => r' = r ∧ i_Rel (k + 5) u v) v v1) u v1 := by
  obtain ⟨c, e, lv, lab, len, lat, tim, val, slab, slen, slat, stim, sval, tv, ts, rfl, rfl, I, J⟩ := I
  have hc := I.1
  unfold wpX_length wpY_length
  rcases sm_iss v1 I.1 with ⟨bx, bY⟩ | ⟨s, hs, rfl, gx, gy⟩
  · refine bx _ _ _ _ _ _ _ _ _ _ _ _ _ _ _ (br_t rfl ?_)
    exact bY _ _ _ _ _ _ _ _ _ _ _ _ (br_t rfl ⟨rfl, sm_R I J⟩)
  · have vs : vp_in (nI s) 8 := vp_in_nI (by omega) (by omega)
    refine gx _ _ _ _ _ _ _ _ _ _ _ _ _ _ _ (br_f (by decide) ⟨vs, ?_⟩)
    exact gy _ _ _ _ _ _ _ _ _ _ _ _ (br_f (by decide) ⟨vs, rfl, sm_R I J⟩)
theorem i_vc_level {k : Nat} {u : SX} {v : SY} (I : i_Rel k u v) (hk : k + 5 ≤ 2560) (v1 : Int32) : wpX_level (fun r u' => wpY_level (fun r' => r' = r ∧ i_Rel (k + 5) u' v) v v1) u v1 := by
  obtain ⟨c, e, lv, lab, len, lat, tim, val, slab, slen, slat, stim, sval, tv, ts, rfl, rfl, I, J⟩ := I
  by_cases h0 : v1 < 0
  · exact br_t h0 (br_t h0 ⟨rfl, sm_R I J⟩)
  · by_cases h2 : v1 ≤ 2
    · exact br_f h0 (br_t h2 (br_f h0 (br_f (Int32.not_lt.mpr h2) ⟨rfl, sm_R I J⟩)))
    · exact br_f h0 (br_f h2 (br_f h0 (br_t (Int32.not_le.mp h2) ⟨rfl, sm_R I J⟩)))
theorem sm_xmg {c m : Nat} (I : sm_I c lab len lat tim val) (hm : m ≤ 728) {post : Int32 → Prop} (h : post (sm_mg lab m c)) : ∀ d s, s + d = c → wX_matching_16 post (nI m) (nI c) sv lv lab len lat tim val slab slen slat stim sval tv ts (d + 1) (sm_mg lab m s) (nI s) := by
  have hc := I.1
  intro d
  induction d with
  | zero =>
    intro s hs
    obtain rfl : s = c := by omega
    exact br_t (nI_le (by omega) (by omega)) h
  | succ d ih =>
    intro s hs
    obtain ⟨b, hb, eb⟩ := I.2.1 s (by omega)
    have y := ih (s + 1) (by omega)
    rw [sm_mg, eb, nI_clamp (by omega)] at y
    refine br_f (nI_ge (by omega) (by omega)) (sm_xm (by omega) hm hb eb (sm_bb (fun z => nm_r (nI_1 s) ?_) (fun z => nm_e (nm_r (nI_1 s) ?_))))
    · rw [z] at y; exact y
    · rw [if_pos z] at y; exact y
theorem sm_ymg {c m : Nat} (I : sm_I c lab len lat tim val) (hm : m ≤ 728) {post : Int32 → Prop} (h : post (sm_mg lab m c)) : ∀ d s, s + d = c → wY_matching_16 post (nI m) (nI c) sv lab len lat tim val slab slen slat stim sval (d + 1) (sm_mg lab m s) (nI s) := by
  have hc := I.1
  intro d
  induction d with
  | zero =>
    intro s hs
    obtain rfl : s = c := by omega
    exact br_t (nI_le (by omega) (by omega)) h
  | succ d ih =>
    intro s hs
    obtain ⟨b, hb, eb⟩ := I.2.1 s (by omega)
    have y := ih (s + 1) (by omega)
    rw [sm_mg, eb, nI_clamp (by omega)] at y
    refine br_f (nI_ge (by omega) (by omega)) (sm_ym (by omega) hm hb eb (sm_bb (fun z => nm_r (nI_1 s) ?_) (fun z => nm_e (nm_r (nI_1 s) ?_))))
    · rw [z] at y; exact y
    · rw [if_pos z] at y; exact y
theorem i_vc_matching {k : Nat} {u : SX} {v : SY} (I : i_Rel k u v) (hk : k + 5 ≤ 2560) (v1 : Int32) : wpX_matching (fun r => wpY_matching (fun r' => r' = r ∧ i_Rel (k + 5) u v) v v1) u v1 := by
  obtain ⟨c, e, lv, lab, len, lat, tim, val, slab, slen, slat, stim, sval, tv, ts, rfl, rfl, I, J⟩ := I
  unfold wpX_matching wpY_matching
  rcases sm_ism v1 with ⟨bx, bY⟩ | ⟨m, hm, rfl, gx, gy⟩
  · exact bx _ _ (br_t rfl (bY _ _ (br_t rfl ⟨rfl, sm_R I J⟩)))
  · refine gx _ _ (br_f (by decide) ⟨_, sm_xmg I hm ?_ c 0 (by omega)⟩)
    exact gy _ _ (br_f (by decide) ⟨_, sm_ymg I hm ⟨rfl, sm_R I J⟩ c 0 (by omega)⟩)
theorem sm_pl {a : Nat} (h : a < 2 ^ 30) : nI a - 1 < nI a := by
  rw [Int32.lt_iff_toInt_lt, show nI a - 1 = nI a - nI 1 from rfl, pk_sub_toInt h (by omega), nI_toInt (by omega)]
  omega
theorem sm_m1 (x : Int32) : x + (-1) = x - 1 := (Int32.sub_eq_add_neg x 1).symm
theorem sm_xat {s l q : Nat} {x : Int32} (hs : s < 8) (hl : l ≤ 32) (a1 : ∀ i j, i < j → j < l → tim (32 * s + i) < tim (32 * s + j)) (hq : q ≤ l) (hm : ∀ i, i < l → (¬ x < tim (32 * s + i) ↔ i < q)) {post : Int32 → Prop} (h : post (sm_at tim val x s l)) : ∀ d, q + d ≤ l → wX_at_37 post x (nI (32 * s)) sc sv lv lab len lat tim val slab slen slat stim sval tv ts (d + 1) (nI (32 * s + (q + d)) - 1) := by
  have fl : sm_at tim val x s l = sm_at tim val x s q := by
    have z := sm_fo_flat (fun _ v => v) (-10003) (fun i => decide (¬ x < tim (32 * s + i)) && decide (¬ tim (32 * s + i) ≤ x - 50)) (fun i => val (32 * s + i)) q (l - q) (fun j h1 h2 => by
      have w : ¬ ¬ x < tim (32 * s + j) := fun z => absurd ((hm j (by omega)).mp z) (by omega)
      rw [decide_eq_false w, Bool.false_and])
    rw [show q + (l - q) = l from by omega] at z
    exact z
  rw [fl] at h
  intro d
  induction d with
  | zero =>
    intro hd
    cases q with
    | zero => exact br_t (sm_pl (by omega)) h
    | succ q =>
      rw [show 32 * s + (q + 1 + 0) = 32 * s + q + 1 from rfl, nI_pred]
      have ci : (nI (32 * s + q)).toNatClampNeg = 32 * s + q := nI_clamp (by omega)
      have vi : vp_in (nI (32 * s + q)) 256 := vp_in_nI (by omega) (by omega)
      have w := (hm q (by omega)).mpr (by omega)
      refine br_f (nI_nlt (by omega) (by omega)) ⟨vi, ?_⟩
      rw [ci]
      refine br_f w ⟨vi, br_c (fun g => ?_) (fun g => ⟨vi, ?_⟩)⟩
      · have z := sm_fo_flat (fun _ v => v) (-10003) (fun i => decide (¬ x < tim (32 * s + i)) && decide (¬ tim (32 * s + i) ≤ x - 50)) (fun i => val (32 * s + i)) 0 (q + 1) (fun j h1 h2 => by
          have w2 := sm_mono a1 (i := j) (j := q) (by omega) (by omega)
          rw [decide_eq_false (not_not_intro (Int32.le_trans w2 g)), Bool.and_false])
        rw [show 0 + (q + 1) = q + 1 from by omega] at z
        have z' : sm_at tim val x s (q + 1) = -10003 := z
        rw [z'] at h
        exact h
      · have z : sm_at tim val x s (q + 1) = val (32 * s + q) := sm_fo_t (by show (decide (¬ x < tim (32 * s + q)) && decide (¬ tim (32 * s + q) ≤ x - 50)) = true; rw [decide_eq_true w, decide_eq_true g]; rfl)
        rw [z] at h
        exact h
  | succ d ih =>
    intro hd
    have y := ih (by omega)
    rw [show 32 * s + (q + (d + 1)) = 32 * s + (q + d) + 1 from rfl, nI_pred]
    have ci : (nI (32 * s + (q + d))).toNatClampNeg = 32 * s + (q + d) := nI_clamp (by omega)
    have vi : vp_in (nI (32 * s + (q + d))) 256 := vp_in_nI (by omega) (by omega)
    have w : x < tim (32 * s + (q + d)) := by
      by_cases w : x < tim (32 * s + (q + d))
      · exact w
      · exact absurd ((hm (q + d) (by omega)).mp w) (by omega)
    refine br_f (nI_nlt (by omega) (by omega)) ⟨vi, ?_⟩
    rw [ci]
    exact br_t w (nm_r (sm_m1 _) y)
theorem sm_yat {s l : Nat} {x : Int32} (hs : s < 8) (hl : l ≤ 32) (el : len s = nI l) {post : Int32 → Prop} (h : post (sm_at tim val x s l)) : ∀ d i, i + d = l → wY_at_33 post (nI s) x sc sv lab len lat tim val slab slen slat stim sval (d + 1) (sm_at tim val x s i) (nI (32 * s + i)) := by
  have vs : vp_in (nI s) 8 := vp_in_nI hs (by omega)
  have ee : 32 * nI s + len (nI s).toNatClampNeg = nI (32 * s + l) := by
    rw [nI_clamp (by omega), el, show (32 : Int32) * nI s = nI (32 * s) from pk_mul 32 s, nI_add]
  intro d
  induction d with
  | zero =>
    intro i hi
    obtain rfl : i = l := by omega
    refine ⟨vs, ?_⟩
    rw [ee]
    exact br_t (nI_le (by omega) (by omega)) h
  | succ d ih =>
    intro i hi
    have y := ih (i + 1) (by omega)
    have ci : (nI (32 * s + i)).toNatClampNeg = 32 * s + i := nI_clamp (by omega)
    have vi : vp_in (nI (32 * s + i)) 256 := vp_in_nI (by omega) (by omega)
    refine ⟨vs, ?_⟩
    rw [ee]
    refine br_f (nI_ge (by omega) (by omega)) ⟨vi, ?_⟩
    rw [ci]
    refine br_c (fun g => nm_r (nI_1 _) ?_) (fun g => ⟨vi, br_c (fun g2 => nm_r (nI_1 _) ?_) (fun g2 => ⟨vi, nm_e (nm_r (nI_1 _) ?_)⟩)⟩)
    · have z : sm_at tim val x s (i + 1) = sm_at tim val x s i := sm_fo_f (by show (decide (¬ x < tim (32 * s + i)) && decide (¬ tim (32 * s + i) ≤ x - 50)) = false; rw [decide_eq_false (not_not_intro g), Bool.false_and])
      rw [z] at y; exact y
    · have z : sm_at tim val x s (i + 1) = sm_at tim val x s i := sm_fo_f (by show (decide (¬ x < tim (32 * s + i)) && decide (¬ tim (32 * s + i) ≤ x - 50)) = false; rw [decide_eq_false (not_not_intro g2), Bool.and_false])
      rw [z] at y; exact y
    · have z : sm_at tim val x s (i + 1) = val (32 * s + i) := sm_fo_t (by show (decide (¬ x < tim (32 * s + i)) && decide (¬ tim (32 * s + i) ≤ x - 50)) = true; rw [decide_eq_true g, decide_eq_true g2]; rfl)
      rw [z] at y; exact y
theorem i_vc_at {k : Nat} {u : SX} {v : SY} (I : i_Rel k u v) (hk : k + 5 ≤ 2560) (v1 : Int32) (v2 : Int32) : wpX_at (fun r => wpY_at (fun r' => r' = r ∧ i_Rel (k + 5) u v) v v1 v2) u v1 v2 := by
  obtain ⟨c, e, lv, lab, len, lat, tim, val, slab, slen, slat, stim, sval, tv, ts, rfl, rfl, I, J⟩ := I
  have hc := I.1
  unfold wpX_at wpY_at
  rcases sm_iss v1 I.1 with ⟨bx, bY⟩ | ⟨s, hs, rfl, gx, gy⟩
  · refine bx _ _ _ _ _ _ _ _ _ _ _ _ _ _ _ (br_t rfl ?_)
    exact bY _ _ _ _ _ _ _ _ _ _ _ _ (br_t rfl ⟨rfl, sm_R I J⟩)
  refine gx _ _ _ _ _ _ _ _ _ _ _ _ _ _ _ (br_f (by decide) ?_)
  by_cases h0 : v2 < 0
  · refine br_t h0 (br_t rfl ?_)
    exact gy _ _ _ _ _ _ _ _ _ _ _ _ (br_f (by decide) (br_t h0 ⟨rfl, sm_R I J⟩))
  by_cases h1 : 999 < v2
  · refine br_f h0 (br_t h1 (br_t rfl ?_))
    exact gy _ _ _ _ _ _ _ _ _ _ _ _ (br_f (by decide) (br_f h0 (br_f (Int32.not_le.mpr h1) ⟨rfl, sm_R I J⟩)))
  obtain ⟨l, hl, el, a1, a2, a3⟩ := I.2.2 s hs
  have vs : vp_in (nI s) 8 := vp_in_nI (by omega) (by omega)
  obtain ⟨q, hq, hm⟩ := sm_pre (fun i => ¬ v2 < tim (32 * s + i)) l (fun i j hij hj z y => z (Int32.lt_trans y (a1 i j hij hj)))
  refine br_f h0 (br_f h1 (br_f (by decide) (nm_r (e' := nI (32 * s)) (by rw [Nat.mul_comm]; exact pk_mul s 32) ⟨vs, nm_r (e' := nI (32 * s + (q + (l - q))) - 1) ?_ ⟨_, sm_xat (by omega) hl a1 hq hm ?_ (l - q) (by omega)⟩⟩)))
  · rw [nI_clamp (by omega), el, nI_add, show q + (l - q) = l from by omega]
  · refine gy _ _ _ _ _ _ _ _ _ _ _ _ (br_f (by decide) (br_f h0 (br_t (Int32.not_lt.mp h1) (nm_r (e' := nI (32 * s + 0)) (pk_mul 32 s) ⟨_, sm_yat (by omega) hl el ⟨rfl, sm_R I J⟩ l 0 (by omega)⟩))))
end
end
section
theorem sm_I_series {c b : Nat} {lab len lat tim val : Nat → Int32} (I : sm_I c lab len lat tim val) (hc : c < 8) (hb : b ≤ 63) : sm_I (c + 1) (upd lab c (nI b)) (upd len c 0) (upd lat c (-1)) tim val := by
  refine ⟨by omega, fun s hs => ?_, fun s hs => ?_⟩
  · by_cases e : s = c
    · rw [e]; exact ⟨b, hb, pk_us⟩
    · rw [pk_un e]; exact I.2.1 s (by omega)
  · by_cases e : s = c
    · rw [e]
      exact ⟨0, by omega, pk_us, fun i j _ hj => absurd hj (Nat.not_lt_zero j), fun i hi => absurd hi (Nat.not_lt_zero i), fun i hi => absurd hi (Nat.not_lt_zero i)⟩
    · rw [pk_un e, pk_un e]; exact I.2.2 s (by omega)
theorem sm_I_append {c s l : Nat} {x y : Int32} {lab len lat tim val : Nat → Int32} (I : sm_I c lab len lat tim val) (hs : s < c) (hl : l < 32) (el : len s = nI l) (hx : lat s < x) (hy : -1000 ≤ y ∧ y ≤ 1000) : sm_I c lab (upd len s (nI (l + 1))) (upd lat s x) (upd tim (32 * s + l) x) (upd val (32 * s + l) y) := by
  refine ⟨I.1, I.2.1, fun r hr => ?_⟩
  have hc := I.1
  obtain ⟨l', hl', el', a1, a2, a3⟩ := I.2.2 r hr
  by_cases e : r = s
  · subst e
    have ee : l' = l := by
      rw [el] at el'
      exact ((nI_eq (by omega) (by omega)).mp el').symm
    subst ee
    refine ⟨l' + 1, by omega, pk_us, fun i j hi hj => ?_, fun i hi => ?_, fun i hi => ?_⟩
    · rw [pk_un (j := 32 * r + i) (by omega)]
      by_cases q : j = l'
      · rw [q, pk_us]
        exact Int32.lt_of_le_of_lt (a2 i (by omega)) hx
      · rw [pk_un (j := 32 * r + j) (by omega)]
        exact a1 i j hi (by omega)
    · rw [pk_us (f := lat)]
      by_cases q : i = l'
      · rw [q, pk_us]; exact Int32.le_refl _
      · rw [pk_un (j := 32 * r + i) (by omega)]
        exact Int32.le_of_lt (Int32.lt_of_le_of_lt (a2 i (by omega)) hx)
    · by_cases q : i = l'
      · rw [q, pk_us]; exact hy
      · rw [pk_un (j := 32 * r + i) (by omega)]
        exact a3 i (by omega)
  · refine ⟨l', hl', by rw [pk_un e]; exact el', fun i j hi hj => ?_, fun i hi => ?_, fun i hi => ?_⟩
    · rw [pk_un (j := 32 * r + i) (by omega), pk_un (j := 32 * r + j) (by omega)]; exact a1 i j hi hj
    · rw [pk_un (j := 32 * r + i) (by omega), pk_un e]; exact a2 i hi
    · rw [pk_un (j := 32 * r + i) (by omega)]; exact a3 i hi
section
variable {sc sv lv : Int32} {lab len lat tim val slab slen slat stim sval tv ts : Nat → Int32}
theorem sm_xha0 {c : Nat} {x : Int32} (hc : c ≤ 8) {post : Int32 → Prop} (h : post 0) : ∀ d s, s + d = c → (∀ r, s ≤ r → r < c → ¬ lab r = x) → wX_hasLabels_2 post x (nI c) sv lv lab len lat tim val slab slen slat stim sval tv ts (d + 1) (nI s) := by
  intro d
  induction d with
  | zero =>
    intro s hs _
    obtain rfl : s = c := by omega
    exact br_t (nI_le (by omega) (by omega)) h
  | succ d ih =>
    intro s hs w
    refine br_f (nI_ge (by omega) (by omega)) ⟨vp_in_nI (by omega) (by omega), ?_⟩
    rw [nI_clamp (by omega)]
    exact br_f (w s (by omega) (by omega)) (nm_r (nI_1 s) (ih (s + 1) (by omega) (fun r h1 h2 => w r (by omega) h2)))
theorem sm_xha1 {c : Nat} {x : Int32} (hc : c ≤ 8) {post : Int32 → Prop} (h : post 1) : ∀ d s, s + d = c → (∃ r, s ≤ r ∧ r < c ∧ lab r = x) → wX_hasLabels_2 post x (nI c) sv lv lab len lat tim val slab slen slat stim sval tv ts (d + 1) (nI s) := by
  intro d
  induction d with
  | zero =>
    intro s hs ⟨r, h1, h2, _⟩
    exact absurd h1 (by omega)
  | succ d ih =>
    intro s hs ⟨r, h1, h2, h3⟩
    refine br_f (nI_ge (by omega) (by omega)) ⟨vp_in_nI (by omega) (by omega), ?_⟩
    rw [nI_clamp (by omega)]
    refine br_c (fun _ => h) (fun g => nm_r (nI_1 s) (ih (s + 1) (by omega) ⟨r, ?_, h2, h3⟩))
    by_cases e : r = s
    · rw [e] at h3; exact absurd h3 g
    · omega
theorem sm_yha1 {c : Nat} {x : Int32} (hc : c ≤ 8) {post : Int32 → SY → Prop} (h : post (-10002) (nI c, sv, lab, len, lat, tim, val, slab, slen, slat, stim, sval)) : ∀ d s, s + d = c → (∃ r, s ≤ r ∧ r < c ∧ lab r = x) → wY_series_16 post x (nI c) sv lab len lat tim val slab slen slat stim sval (d + 1) (nI s) := by
  intro d
  induction d with
  | zero =>
    intro s hs ⟨r, h1, h2, _⟩
    exact absurd h1 (by omega)
  | succ d ih =>
    intro s hs ⟨r, h1, h2, h3⟩
    refine br_f (nI_ge (by omega) (by omega)) ⟨vp_in_nI (by omega) (by omega), ?_⟩
    rw [nI_clamp (by omega)]
    refine br_c (fun _ => h) (fun g => nm_r (nI_1 s) (ih (s + 1) (by omega) ⟨r, ?_, h2, h3⟩))
    by_cases e : r = s
    · rw [e] at h3; exact absurd h3 g
    · omega
theorem sm_yha0 {c : Nat} {x : Int32} (hc : c ≤ 8) {post : Int32 → SY → Prop} (h8 : c = 8 → post (-10001) (nI c, sv, lab, len, lat, tim, val, slab, slen, slat, stim, sval)) (h : c < 8 → post (nI c) (nI (c + 1), sv, upd lab c x, upd len c 0, upd lat c (-1), tim, val, slab, slen, slat, stim, sval)) : ∀ d s, s + d = c → (∀ r, s ≤ r → r < c → ¬ lab r = x) → wY_series_16 post x (nI c) sv lab len lat tim val slab slen slat stim sval (d + 1) (nI s) := by
  intro d
  induction d with
  | zero =>
    intro s hs _
    obtain rfl : s = c := by omega
    refine br_t (nI_le (by omega) (by omega)) (pk_eq s 8 h8 (fun g => ?_))
    have vs : vp_in (nI s) 8 := vp_in_nI (by omega) (by omega)
    rw [nI_clamp (by omega)]
    refine ⟨vs, nm_e ⟨vs, nm_e ⟨vs, nm_e (nm_r (nI_1 s) ?_)⟩⟩⟩
    rw [nI_pred]
    exact h (by omega)
  | succ d ih =>
    intro s hs w
    refine br_f (nI_ge (by omega) (by omega)) ⟨vp_in_nI (by omega) (by omega), ?_⟩
    rw [nI_clamp (n := s) (by omega)]
    exact br_f (w s (by omega) (by omega)) (nm_r (nI_1 s) (ih (s + 1) (by omega) (fun r h1 h2 => w r (by omega) h2)))
theorem i_vc_series {k : Nat} {u : SX} {v : SY} (I : i_Rel k u v) (hk : k + 5 ≤ 2560) (v1 : Int32) : wpX_series (fun r u' => wpY_series (fun r' v' => r' = r ∧ i_Rel (k + 5) u' v') v v1) u v1 := by
  obtain ⟨c, e, lv, lab, len, lat, tim, val, slab, slen, slat, stim, sval, tv, ts, rfl, rfl, I, J⟩ := I
  have hc := I.1
  by_cases h0 : v1 < 0
  · exact br_t h0 (br_t h0 ⟨rfl, sm_R I J⟩)
  by_cases h1 : v1 ≤ 63
  · obtain ⟨b, hb, eb⟩ := nI_of2 (x := v1) (M := 63) (n := 63) (by decide) h0 h1
    by_cases w : ∃ r, 0 ≤ r ∧ r < c ∧ lab r = v1
    · refine br_f h0 (br_t h1 ⟨_, sm_xha1 hc ?_ c 0 (by omega) w⟩)
      refine br_f (by decide) ?_
      exact br_f h0 (br_t h1 ⟨_, sm_yha1 hc ⟨rfl, sm_R I J⟩ c 0 (by omega) w⟩)
    · have w' : ∀ r, 0 ≤ r → r < c → ¬ lab r = v1 := fun r q1 q2 q3 => w ⟨r, q1, q2, q3⟩
      refine br_f h0 (br_t h1 ⟨_, sm_xha0 hc ?_ c 0 (by omega) w'⟩)
      refine br_t rfl (pk_lt c 8 (fun q => ?_) (fun q => ?_))
      · have vs : vp_in (nI c) 8 := vp_in_nI q (by omega)
        rw [nI_clamp (by omega)]
        refine ⟨vs, nm_e ⟨vs, nm_e ⟨vs, nm_e (nm_r (nI_1 c) ?_)⟩⟩⟩
        refine br_f h0 (br_t h1 ⟨_, sm_yha0 hc (fun z => absurd z (by omega)) (fun _ => ⟨rfl, ?_⟩) c 0 (by omega) w'⟩)
        rw [eb]
        exact sm_R (sm_I_series I q hb) J
      · exact br_f h0 (br_t h1 ⟨_, sm_yha0 hc (fun _ => ⟨rfl, sm_R I J⟩) (fun z => absurd z (by omega)) c 0 (by omega) w'⟩)
  · exact br_f h0 (br_f h1 (br_f h0 (br_f h1 ⟨rfl, sm_R I J⟩)))
theorem i_vc_append {k : Nat} {u : SX} {v : SY} (I : i_Rel k u v) (hk : k + 5 ≤ 2560) (v1 : Int32) (v2 : Int32) (v3 : Int32) : wpX_append (fun r u' => wpY_append (fun r' v' => r' = r ∧ i_Rel (k + 5) u' v') v v1 v2 v3) u v1 v2 v3 := by
  obtain ⟨c, e, lv, lab, len, lat, tim, val, slab, slen, slat, stim, sval, tv, ts, rfl, rfl, I, J⟩ := I
  have hc := I.1
  unfold wpX_append wpY_append
  rcases sm_iss v1 I.1 with ⟨bx, bY⟩ | ⟨s, hs, rfl, gx, gy⟩
  · refine bx _ _ _ _ _ _ _ _ _ _ _ _ _ _ _ (br_t rfl ?_)
    exact bY _ _ _ _ _ _ _ _ _ _ _ _ (br_t rfl ⟨rfl, sm_R I J⟩)
  refine gx _ _ _ _ _ _ _ _ _ _ _ _ _ _ _ (br_f (by decide) ?_)
  by_cases h0 : v2 < 0
  · refine br_t h0 (br_t rfl ?_)
    exact gy _ _ _ _ _ _ _ _ _ _ _ _ (br_f (by decide) (br_t h0 ⟨rfl, sm_R I J⟩))
  by_cases h1 : 999 < v2
  · refine br_f h0 (br_t h1 (br_t rfl ?_))
    exact gy _ _ _ _ _ _ _ _ _ _ _ _ (br_f (by decide) (br_f h0 (br_t h1 ⟨rfl, sm_R I J⟩)))
  refine br_f h0 (br_f h1 (br_f (by decide) ?_))
  by_cases h2 : v3 < -1000
  · refine br_t h2 ?_
    exact gy _ _ _ _ _ _ _ _ _ _ _ _ (br_f (by decide) (br_f h0 (br_f h1 (br_t h2 ⟨rfl, sm_R I J⟩))))
  by_cases h3 : v3 ≤ 1000
  · obtain ⟨l, hl, el, a1, a2, a3⟩ := I.2.2 s hs
    have vs : vp_in (nI s) 8 := vp_in_nI (by omega) (by omega)
    have cs : (nI s).toNatClampNeg = s := nI_clamp (by omega)
    have e1 : nI s * 32 + nI l = nI (32 * s + l) := by
      rw [show nI s * 32 = nI (s * 32) from pk_mul s 32, nI_add, Nat.mul_comm]
    have e2 : (32 : Int32) * nI s + nI l = nI (32 * s + l) := by
      rw [show (32 : Int32) * nI s = nI (32 * s) from pk_mul 32 s, nI_add]
    have ci : l < 32 → (nI (32 * s + l)).toNatClampNeg = 32 * s + l := fun _ => nI_clamp (by omega)
    refine br_f h2 (br_t h3 ⟨vs, ?_⟩)
    rw [cs]
    by_cases h4 : lat s < v2
    · refine br_t h4 ⟨vs, nm_r el (pk_lt l 32 (fun q => ?_) (fun q => ?_))⟩
      · have vi : vp_in (nI (32 * s + l)) 256 := vp_in_nI (by omega) (by omega)
        refine nm_r e1 ⟨vi, ?_⟩
        rw [ci q]
        refine nm_e ⟨vi, nm_e ⟨vs, nm_e ⟨vs, nm_e ?_⟩⟩⟩
        refine gy _ _ _ _ _ _ _ _ _ _ _ _ (br_f (by decide) (br_f h0 (br_f h1 (br_f h2 (br_t h3 ⟨vs, ?_⟩)))))
        rw [el, e2, ci q]
        refine br_t h4 ⟨vs, pk_eq l 32 (fun z => absurd z (by omega)) (fun _ => ⟨vs, vi, nm_e ⟨vs, vi, nm_e ⟨vs, nm_e ⟨vs, vs, nm_e ⟨vs, pk_us, ?_⟩⟩⟩⟩⟩)⟩
        rw [nI_1]
        exact sm_R (sm_I_append I hs q el h4 ⟨Int32.not_lt.mp h2, h3⟩) J
      · refine gy _ _ _ _ _ _ _ _ _ _ _ _ (br_f (by decide) (br_f h0 (br_f h1 (br_f h2 (br_t h3 ⟨vs, ?_⟩)))))
        rw [el]
        exact br_t h4 ⟨vs, pk_eq l 32 (fun _ => ⟨rfl, sm_R I J⟩) (fun z => absurd z (by omega))⟩
    · refine br_f h4 ?_
      refine gy _ _ _ _ _ _ _ _ _ _ _ _ (br_f (by decide) (br_f h0 (br_f h1 (br_f h2 (br_t h3 ⟨vs, ?_⟩)))))
      exact br_f h4 ⟨rfl, sm_R I J⟩
  · refine br_f h2 (br_f h3 ?_)
    exact gy _ _ _ _ _ _ _ _ _ _ _ _ (br_f (by decide) (br_f h0 (br_f h1 (br_f h2 (br_f h3 ⟨rfl, sm_R I J⟩)))))
end
end
section
/-- the first i of series s taken from q further on -/
def sm_sh (a : Nat → Int32) (s q i : Nat) : Nat → Int32 := fun j => if 32 * s ≤ j ∧ j < 32 * s + i then a (j + q) else a j
theorem sm_sh0 (a : Nat → Int32) (s q : Nat) : sm_sh a s q 0 = a := by
  funext j
  exact if_neg (by omega)
theorem sm_sh_in {a : Nat → Int32} {s q i j : Nat} (h : j < i) : sm_sh a s q i (32 * s + j) = a (32 * s + (j + q)) := by
  unfold sm_sh
  rw [if_pos (by omega), Nat.add_assoc]
theorem sm_sh_out {a : Nat → Int32} {s q i j : Nat} (h : ¬ (32 * s ≤ j ∧ j < 32 * s + i)) : sm_sh a s q i j = a j := if_neg h
theorem sm_shs (a : Nat → Int32) (s q i : Nat) : upd (sm_sh a s q i) (32 * s + i) (a (32 * s + (i + q))) = sm_sh a s q (i + 1) := by
  funext j
  by_cases h : j = 32 * s + i
  · rw [h, pk_us, sm_sh_in (by omega)]
  · rw [pk_un h]
    unfold sm_sh
    by_cases g : 32 * s ≤ j ∧ j < 32 * s + i
    · rw [if_pos g, if_pos (by omega)]
    · rw [if_neg g, if_neg (by omega)]
theorem sm_I_expire {c s l q : Nat} {lab len lat tim val : Nat → Int32} (I : sm_I c lab len lat tim val) (hs : s < c) (hl : l ≤ 32) (el : len s = nI l) (hq : q ≤ l) : sm_I c lab (upd len s (nI (l - q))) lat (sm_sh tim s q (l - q)) (sm_sh val s q (l - q)) := by
  refine ⟨I.1, I.2.1, fun r hr => ?_⟩
  have hc := I.1
  obtain ⟨l', hl', el', a1, a2, a3⟩ := I.2.2 r hr
  by_cases e : r = s
  · subst e
    have ee : l' = l := by
      rw [el] at el'
      exact ((nI_eq (by omega) (by omega)).mp el').symm
    subst ee
    refine ⟨l' - q, by omega, pk_us, fun i j hi hj => ?_, fun i hi => ?_, fun i hi => ?_⟩
    · rw [sm_sh_in (by omega), sm_sh_in (by omega)]; exact a1 _ _ (by omega) (by omega)
    · rw [sm_sh_in (by omega)]; exact a2 _ (by omega)
    · rw [sm_sh_in (by omega)]; exact a3 _ (by omega)
  · refine ⟨l', hl', by rw [pk_un e]; exact el', fun i j hi hj => ?_, fun i hi => ?_, fun i hi => ?_⟩
    · rw [sm_sh_out (j := 32 * r + i) (by omega), sm_sh_out (j := 32 * r + j) (by omega)]; exact a1 i j hi hj
    · rw [sm_sh_out (j := 32 * r + i) (by omega)]; exact a2 i hi
    · rw [sm_sh_out (j := 32 * r + i) (by omega)]; exact a3 i hi
section
variable {sc sv lv : Int32} {lab len lat tim val slab slen slat stim sval tv ts : Nat → Int32}
theorem sm_xsb11 {s l q : Nat} {x : Int32} (hs : s < 8) (hl : l ≤ 32) (el : len s = nI l) (hm : ∀ m, m < l → (tim (32 * s + m) < x ↔ m < q)) (hq : q ≤ l) {post : Int32 → Prop} (h : post (nI q)) : ∀ d m, m + d = l → wX_samplesBelow_11 post (nI s) x (nI (32 * s)) sc sv lv lab len lat tim val slab slen slat stim sval tv ts (d + 1) (nI (min m q)) (nI m) := by
  have vs : vp_in (nI s) 8 := vp_in_nI hs (by omega)
  have ee : len (nI s).toNatClampNeg = nI l := by rw [nI_clamp (by omega)]; exact el
  intro d
  induction d with
  | zero =>
    intro m hml
    obtain rfl : m = l := by omega
    refine ⟨vs, ?_⟩
    rw [ee]
    refine br_t (nI_le (by omega) (by omega)) ?_
    rw [show min m q = q from by omega]
    exact h
  | succ d ih =>
    intro m hml
    have y := ih (m + 1) (by omega)
    have hmm := hm m (by omega)
    refine ⟨vs, ?_⟩
    rw [ee, nI_add, nI_clamp (n := 32 * s + m) (by omega)]
    refine br_f (nI_ge (by omega) (by omega)) ⟨vp_in_nI (by omega) (by omega), br_c (fun g => nm_r (nI_1 m) ?_) (fun g => nm_r (nI_1 _) (nm_r (nI_1 m) ?_))⟩
    · have w : ¬ m < q := fun z => absurd (hmm.mpr z) (Int32.not_lt.mpr g)
      rw [show min (m + 1) q = min m q from by omega] at y
      exact y
    · have w : m < q := hmm.mp (Int32.not_le.mp g)
      rw [show min (m + 1) q = min m q + 1 from by omega] at y
      exact y
theorem sm_xsb {s l q : Nat} {x : Int32} (hs : s < 8) (hl : l ≤ 32) (el : len s = nI l) (hm : ∀ m, m < l → (tim (32 * s + m) < x ↔ m < q)) (hq : q ≤ l) {post : Int32 → Prop} (h : post (nI q)) : wpX_samplesBelow post (sc, sv, lv, lab, len, lat, tim, val, slab, slen, slat, stim, sval, tv, ts) (nI s) x := by
  refine nm_r (e' := nI (32 * s)) (by rw [Nat.mul_comm]; exact pk_mul s 32) ⟨l + 1, ?_⟩
  have z := sm_xsb11 (sc := sc) (sv := sv) (lv := lv) (lab := lab) (lat := lat) (val := val) (slab := slab) (slen := slen) (slat := slat) (stim := stim) (sval := sval) (tv := tv) (ts := ts) hs hl el hm hq h l 0 (by omega)
  rw [show min 0 q = 0 from by omega] at z
  exact z
theorem sm_xdr18 {s l q : Nat} (hs : s < 8) (hl : l ≤ 32) (hq : q ≤ l) {post : SX → Prop} (h : post (sc, sv, lv, lab, upd len s (nI (l - q)), lat, sm_sh tim s q (l - q), sm_sh val s q (l - q), slab, slen, slat, stim, sval, tv, ts)) : ∀ d i, i + d = l - q → wX_dropOldest_18 post (nI s) (nI q) (nI (32 * s)) (nI (l - q)) sc sv lv (d + 1) (nI i) lab len lat (sm_sh tim s q i) (sm_sh val s q i) slab slen slat stim sval tv ts := by
  intro d
  induction d with
  | zero =>
    intro i hi
    obtain rfl : i = l - q := by omega
    refine br_t (nI_le (by omega) (by omega)) ⟨vp_in_nI hs (by omega), ?_⟩
    rw [nI_clamp (by omega)]
    exact nm_e h
  | succ d ih =>
    intro i hi
    have y := ih (i + 1) (by omega)
    have v1 : vp_in (nI (32 * s + q + i)) 256 := vp_in_nI (by omega) (by omega)
    have v2 : vp_in (nI (32 * s + i)) 256 := vp_in_nI (by omega) (by omega)
    refine br_f (nI_ge (by omega) (by omega)) ?_
    rw [nI_add, nI_add, nI_add, nI_clamp (n := 32 * s + q + i) (by omega), nI_clamp (n := 32 * s + i) (by omega)]
    refine ⟨v1, v2, nm_r (e' := sm_sh tim s q (i + 1)) ?_ ⟨v1, v2, nm_r (e' := sm_sh val s q (i + 1)) ?_ (nm_r (nI_1 i) y)⟩⟩
    · rw [sm_sh_out (by omega), ← sm_shs, show 32 * s + (i + q) = 32 * s + q + i from by omega]
    · rw [sm_sh_out (by omega), ← sm_shs, show 32 * s + (i + q) = 32 * s + q + i from by omega]
theorem sm_xdr {s l q : Nat} (hs : s < 8) (hl : l ≤ 32) (el : len s = nI l) (hq : q ≤ l) {post : SX → Prop} (h : post (sc, sv, lv, lab, upd len s (nI (l - q)), lat, sm_sh tim s q (l - q), sm_sh val s q (l - q), slab, slen, slat, stim, sval, tv, ts)) : wpX_dropOldest post (sc, sv, lv, lab, len, lat, tim, val, slab, slen, slat, stim, sval, tv, ts) (nI s) (nI q) := by
  refine nm_r (e' := nI (32 * s)) (by rw [Nat.mul_comm]; exact pk_mul s 32) ⟨vp_in_nI hs (by omega), nm_r (e' := nI (l - q)) ?_ ⟨l - q + 1, ?_⟩⟩
  · rw [nI_clamp (by omega), el, pk_sub hq]
  · have z := sm_xdr18 hs hl hq h (l - q) 0 (by omega)
    rw [sm_sh0, sm_sh0] at z
    exact z
theorem sm_yex21 {s l q : Nat} {x g : Int32} (hs : s < 8) (hl : l ≤ 32) (el : len s = nI l) (hq : q ≤ l) (hm : ∀ m, m < l → (tim (32 * s + m) < x ↔ m < q)) {post : Int32 → SY → Prop} {J : Int32 → Int32 → (Nat → Int32) → (Nat → Int32) → (Nat → Int32) → (Nat → Int32) → (Nat → Int32) → (Nat → Int32) → (Nat → Int32) → (Nat → Int32) → (Nat → Int32) → (Nat → Int32) → Prop} (h : J (g + nI q) (nI (s + 1)) lab (upd len s (nI (l - q))) lat (sm_sh tim s q (l - q)) (sm_sh val s q (l - q)) slab slen slat stim sval) : ∀ d m, m + d = l → wY_expire_21 post J x g (nI s) sc sv (d + 1) (nI (m - q)) (nI (32 * s + m)) lab len lat (sm_sh tim s q (m - q)) (sm_sh val s q (m - q)) slab slen slat stim sval := by
  have vs : vp_in (nI s) 8 := vp_in_nI hs (by omega)
  have cs : (nI s).toNatClampNeg = s := nI_clamp (by omega)
  have e3 : (32 : Int32) * nI s = nI (32 * s) := pk_mul 32 s
  intro d
  induction d with
  | zero =>
    intro m hml
    obtain rfl : m = l := by omega
    refine ⟨vs, ?_⟩
    rw [cs, el, e3, nI_add, pk_sub (by omega), show m - (m - q) = q from by omega]
    exact br_t (nI_le (by omega) (by omega)) ⟨vs, nm_e ⟨vs, nm_e (nm_r (nI_1 s) h)⟩⟩
  | succ d ih =>
    intro m hml
    have y := ih (m + 1) (by omega)
    have hmm := hm m (by omega)
    have v1 : vp_in (nI (32 * s + m)) 256 := vp_in_nI (by omega) (by omega)
    have v2 : vp_in (nI (32 * s + (m - q))) 256 := vp_in_nI (by omega) (by omega)
    refine ⟨vs, ?_⟩
    rw [cs, el, e3, nI_add, nI_add, nI_clamp (n := 32 * s + m) (by omega), nI_clamp (n := 32 * s + (m - q)) (by omega), sm_sh_out (a := tim) (j := 32 * s + m) (by omega), sm_sh_out (a := val) (j := 32 * s + m) (by omega)]
    refine br_f (nI_ge (by omega) (by omega)) ⟨v1, br_c (fun w => nm_r (nI_1 _) ?_) (fun w => ⟨v1, v2, nm_r (e' := sm_sh tim s q (m - q + 1)) ?_ ⟨v1, v2, nm_r (e' := sm_sh val s q (m - q + 1)) ?_ (nm_r (nI_1 _) (nm_r (nI_1 _) ?_))⟩⟩)⟩
    · have z := hmm.mp w
      rw [show m + 1 - q = m - q from by omega] at y
      exact y
    · have z : ¬ m < q := fun z => w (hmm.mpr z)
      rw [← sm_shs, show 32 * s + (m - q + q) = 32 * s + m from by omega]
    · have z : ¬ m < q := fun z => w (hmm.mpr z)
      rw [← sm_shs, show 32 * s + (m - q + q) = 32 * s + m from by omega]
    · have z : ¬ m < q := fun z => w (hmm.mpr z)
      rw [show m + 1 - q = m - q + 1 from by omega] at y
      exact y
theorem sm_exp {c : Nat} {x : Int32} : ∀ d s len tim val (g : Int32), s + d = c → sm_I c lab len lat tim val → ∃ r len' tim' val', sm_I c lab len' lat tim' val' ∧ (∀ post : Int32 → SX → Prop, post r (nI c, sv, lv, lab, len', lat, tim', val', slab, slen, slat, stim, sval, tv, ts) → wX_expire_4 post x (d + 1) g (nI s) (nI c) sv lv lab len lat tim val slab slen slat stim sval tv ts) ∧ (∀ post : Int32 → SY → Prop, post r (nI c, sv, lab, len', lat, tim', val', slab, slen, slat, stim, sval) → wY_expire_4 post x (nI c) sv (d + 1) g (nI s) lab len lat tim val slab slen slat stim sval) := by
  intro d
  induction d with
  | zero =>
    intro s len tim val g hs I
    have hc := I.1
    obtain rfl : s = c := by omega
    have w : nI s ≤ nI s := nI_le (by omega) (by omega)
    exact ⟨g, len, tim, val, I, fun post h => br_t w h, fun post h => br_t w h⟩
  | succ d ih =>
    intro s len tim val g hs I
    have hc := I.1
    have hsc : s < c := by omega
    obtain ⟨l, hl, el, a1, a2, a3⟩ := I.2.2 s hsc
    obtain ⟨q, hq, hm⟩ := sm_pre (fun m => tim (32 * s + m) < x) l (fun i j hij hj z => Int32.lt_trans (a1 i j hij hj) z)
    obtain ⟨r, len', tim', val', I', hX, hY⟩ := ih (s + 1) _ _ _ (g + nI q) (by omega) (sm_I_expire I hsc hl el hq)
    have w : ¬ nI c ≤ nI s := nI_ge hsc (by omega)
    refine ⟨r, len', tim', val', I', fun post h => br_f w ?_, fun post h => br_f w (nm_r (pk_mul 32 s) ⟨l + 1, ?_⟩)⟩
    · refine sm_xsb (by omega) hl el hm hq ?_
      refine sm_xdr (by omega) hl el hq ?_
      exact nm_e (nm_r (nI_1 s) (hX post h))
    · have z := sm_yex21 (sc := nI c) (sv := sv) (by omega) hl el hq hm (post := post) (hY post h) l 0 (by omega)
      rw [Nat.zero_sub, sm_sh0, sm_sh0] at z
      exact z
theorem i_vc_expire {k : Nat} {u : SX} {v : SY} (I : i_Rel k u v) (hk : k + 5 ≤ 2560) (v1 : Int32) : wpX_expire (fun r u' => wpY_expire (fun r' v' => r' = r ∧ i_Rel (k + 5) u' v') v v1) u v1 := by
  obtain ⟨c, e, lv, lab, len, lat, tim, val, slab, slen, slat, stim, sval, tv, ts, rfl, rfl, I, J⟩ := I
  obtain ⟨r, len', tim', val', I', hX, hY⟩ := sm_exp (sv := nI e) (lv := lv) (slab := slab) (slen := slen) (slat := slat) (stim := stim) (sval := sval) (tv := tv) (ts := ts) (x := v1) c 0 len tim val 0 (by omega) I
  exact ⟨_, hX _ ⟨_, hY _ ⟨rfl, sm_R I' J⟩⟩⟩
end
end
section
theorem sm_irr (x : Int32) : ¬ x < x := fun h => Int32.lt_irrefl h
theorem sm_cn_or {A B C : Nat → Bool} : ∀ k, (∀ i, i < k → (A i = (B i || C i)) ∧ (B i && C i) = false) → sm_cn A k = sm_cn B k + sm_cn C k := by
  intro k
  induction k with
  | zero => intro _; rfl
  | succ k ih =>
    intro h
    have e := ih (fun i hi => h i (by omega))
    obtain ⟨h1, h2⟩ := h k (by omega)
    cases hb : B k <;> cases hc : C k <;> rw [hb, hc] at h1 h2
    · rw [sm_cn_f h1, sm_cn_f hb, sm_cn_f hc, e]
    · rw [sm_cn_t h1, sm_cn_f hb, sm_cn_t hc, e]; omega
    · rw [sm_cn_t h1, sm_cn_t hb, sm_cn_f hc, e]; omega
    · exact absurd h2 (by decide)
theorem sm_cn_cut {C : Nat → Bool} {j k : Nat} (h : j ≤ k) : sm_cn (fun i => C i && decide (i < j)) k = sm_cn C j := by
  have e := sm_cn_flat (fun i => C i && decide (i < j)) j (k - j) (fun i h1 h2 => by show (C i && decide (i < j)) = false; rw [decide_eq_false (by omega), Bool.and_false])
  rw [show j + (k - j) = k from by omega] at e
  rw [e]
  exact sm_cn_congr j (fun i hi => by show (C i && decide (i < j)) = C i; rw [decide_eq_true hi, Bool.and_true])
/-- i comes before j in the ranking -/
def sm_bf (T : Nat → Bool) (val : Nat → Int32) (j i : Nat) : Bool := T i && (decide (val i < val j) || (decide (val i = val j) && decide (i < j)))
def sm_rk (T : Nat → Bool) (val : Nat → Int32) (j : Nat) : Nat := sm_cn (sm_bf T val j) 256
theorem sm_rk_eq (T : Nat → Bool) (val : Nat → Int32) {j : Nat} (hj : j < 256) : sm_rk T val j = sm_cn (fun i => T i && decide (val i < val j)) 256 + sm_cn (fun i => T i && decide (val i = val j)) j := by
  rw [← sm_cn_cut (C := fun i => T i && decide (val i = val j)) (j := j) (k := 256) (by omega)]
  refine sm_cn_or 256 (fun i hi => ⟨?_, ?_⟩)
  · show (T i && (decide (val i < val j) || (decide (val i = val j) && decide (i < j)))) = ((T i && decide (val i < val j)) || ((T i && decide (val i = val j)) && decide (i < j)))
    cases T i <;> simp
  · show ((T i && decide (val i < val j)) && ((T i && decide (val i = val j)) && decide (i < j))) = false
    by_cases e : val i = val j
    · rw [decide_eq_false (by rw [e]; exact sm_irr _), Bool.and_false, Bool.false_and]
    · rw [decide_eq_false e, Bool.and_false, Bool.false_and, Bool.and_false]
theorem sm_le_eq (T : Nat → Bool) (val : Nat → Int32) (x : Int32) : sm_cn (fun i => T i && decide (val i ≤ x)) 256 = sm_cn (fun i => T i && decide (val i < x)) 256 + sm_cn (fun i => T i && decide (val i = x)) 256 := by
  refine sm_cn_or 256 (fun i hi => ⟨?_, ?_⟩)
  · show (T i && decide (val i ≤ x)) = ((T i && decide (val i < x)) || (T i && decide (val i = x)))
    by_cases e : val i = x
    · rw [decide_eq_true e, decide_eq_true (by rw [e]; exact Int32.le_refl _)]; cases T i <;> simp
    · by_cases g : val i < x
      · rw [decide_eq_true g, decide_eq_true (Int32.le_of_lt g)]; cases T i <;> simp
      · have w : ¬ val i ≤ x := by
          rw [Int32.le_iff_toInt_le]
          rw [Int32.lt_iff_toInt_lt] at g
          intro z
          exact e (Int32.toInt_inj.mp (by omega))
        rw [decide_eq_false e, decide_eq_false g, decide_eq_false w]; cases T i <;> simp
  · show ((T i && decide (val i < x)) && (T i && decide (val i = x))) = false
    by_cases e : val i = x
    · rw [decide_eq_false (by rw [e]; exact sm_irr _), Bool.and_false, Bool.false_and]
    · rw [decide_eq_false e, Bool.and_false, Bool.and_false]
/-- w, sorted, holds below N just what T takes of val -/
def sm_W (T : Nat → Bool) (val w : Nat → Int32) : Prop := sm_so w (sm_cn T 256) ∧ ∀ p : Int32 → Bool, sm_cn (fun i => p (w i)) (sm_cn T 256) = sm_cn (fun j => T j && p (val j)) 256
theorem sm_W_lt {T : Nat → Bool} {val w : Nat → Int32} (h : sm_W T val w) (x : Int32) {i : Nat} (hi : i < sm_cn T 256) : w i < x ↔ i < sm_cn (fun j => T j && decide (val j < x)) 256 := by
  have z := sm_thr (fun y => decide (y < x)) (fun a b hab hb => decide_eq_true (Int32.lt_of_le_of_lt hab (of_decide_eq_true hb))) h.1 hi
  rw [h.2 (fun y => decide (y < x))] at z
  exact ⟨fun q => z.mp (decide_eq_true q), fun q => of_decide_eq_true (z.mpr q)⟩
theorem sm_W_le {T : Nat → Bool} {val w : Nat → Int32} (h : sm_W T val w) (x : Int32) {i : Nat} (hi : i < sm_cn T 256) : w i ≤ x ↔ i < sm_cn (fun j => T j && decide (val j ≤ x)) 256 := by
  have z := sm_thr (fun y => decide (y ≤ x)) (fun a b hab hb => decide_eq_true (Int32.le_trans hab (of_decide_eq_true hb))) h.1 hi
  rw [h.2 (fun y => decide (y ≤ x))] at z
  exact ⟨fun q => z.mp (decide_eq_true q), fun q => of_decide_eq_true (z.mpr q)⟩
theorem sm_rk_lt {T : Nat → Bool} {val : Nat → Int32} {j : Nat} (hj : j < 256) (hT : T j = true) : sm_rk T val j < sm_cn T 256 := by
  refine sm_cn_lt (p := j) 256 hj (fun i _ h => ?_) ?_ hT
  · unfold sm_bf at h
    rw [Bool.and_eq_true] at h
    exact h.1
  · unfold sm_bf
    rw [decide_eq_false (sm_irr _), decide_eq_false (Nat.lt_irrefl _), Bool.and_false, Bool.or_false, Bool.and_false]
theorem sm_rk_a {T : Nat → Bool} {val w : Nat → Int32} (h : sm_W T val w) {j : Nat} (hj : j < 256) (hT : T j = true) : w (sm_rk T val j) = val j := by
  have hN := sm_rk_lt (val := val) hj hT
  have e1 := sm_rk_eq T val hj
  have e2 := sm_le_eq T val (val j)
  have m := sm_cn_mono (fun i => T i && decide (val i = val j)) (j + 1) (256 - (j + 1))
  rw [show j + 1 + (256 - (j + 1)) = 256 from by omega, sm_cn_t (T := fun i => T i && decide (val i = val j)) (by show (T j && decide (val j = val j)) = true; rw [hT, decide_eq_true rfl]; rfl)] at m
  have a := sm_W_lt h (val j) hN
  have b := (sm_W_le h (val j) hN).mpr (by omega)
  have a' : ¬ w (sm_rk T val j) < val j := fun z => absurd (a.mp z) (by omega)
  rw [Int32.le_iff_toInt_le] at b
  rw [Int32.lt_iff_toInt_lt] at a'
  exact Int32.toInt_inj.mp (by omega)
theorem sm_rk_b {T : Nat → Bool} {val w : Nat → Int32} (h : sm_W T val w) {k : Nat} (hk : k < sm_cn T 256) : ∃ j, j < 256 ∧ T j = true ∧ sm_rk T val j = k := by
  have a := sm_W_lt h (w k) hk
  have b := (sm_W_le h (w k) hk).mp (Int32.le_refl _)
  have a' : ¬ k < sm_cn (fun j => T j && decide (val j < w k)) 256 := fun z => absurd (a.mpr z) (sm_irr _)
  rw [sm_le_eq] at b
  obtain ⟨j, hj, hT, e⟩ := sm_cn_ivt (fun i => T i && decide (val i = w k)) (k - sm_cn (fun j => T j && decide (val j < w k)) 256) 256 (by omega)
  have hT' : T j = true ∧ val j = w k := by
    have z : (T j && decide (val j = w k)) = true := hT
    rw [Bool.and_eq_true] at z
    exact ⟨z.1, of_decide_eq_true z.2⟩
  refine ⟨j, hj, hT'.1, ?_⟩
  rw [sm_rk_eq T val hj, hT'.2, e]
  omega
theorem sm_upd_self (b : Nat → Int32) (i : Nat) : upd b i (b i) = b := by
  funext j
  by_cases h : j = i
  · rw [h, pk_us]
  · rw [pk_un h]
section
variable {sc sv lv : Int32} {lab len lat tim val slab slen slat stim sval tv ts : Nat → Int32}
theorem sm_in17 {N i : Nat} {x : Int32} (hN : N ≤ 256) (hi : i < N) {post : SX → Prop} {J : Int32 → (Nat → Int32) → (Nat → Int32) → (Nat → Int32) → (Nat → Int32) → (Nat → Int32) → (Nat → Int32) → (Nat → Int32) → (Nat → Int32) → (Nat → Int32) → (Nat → Int32) → (Nat → Int32) → (Nat → Int32) → Prop} (K : (Int32 → Bool) → Nat) (h : ∀ tv, sm_so tv (i + 1) → (∀ p : Int32 → Bool, sm_cn (fun j => p (tv j)) N = K p) → J (nI (i + 1)) lab len lat tim val slab slen slat stim sval tv ts) : ∀ p b, p ≤ i → (∀ j k, j < k → k ≤ i → k ≠ p → upd b p x j ≤ upd b p x k) → (∀ f : Int32 → Bool, sm_cn (fun j => f (upd b p x j)) N = K f) → wX_sortTakenValues_17 post J (nI N) (nI i) x sc sv lv (p + 1) (nI p) lab len lat tim val slab slen slat stim sval b ts := by
  intro p
  induction p with
  | zero =>
    intro b hp so ct
    refine br_t (nI_le (a := 0) (b := 0) (by omega) (by omega)) ⟨vp_in_nI (by omega) (by omega), ?_⟩
    rw [nI_clamp (by omega)]
    exact nm_e (nm_r (nI_1 i) (h _ (fun j k hjk hk => so j k hjk (by omega) (by omega)) ct))
  | succ p ih =>
    intro b hp so ct
    have v1 : vp_in (nI (p + 1)) 256 := vp_in_nI (by omega) (by omega)
    have v0 : vp_in (nI p) 256 := vp_in_nI (by omega) (by omega)
    refine br_f (nI_nle (by omega) (by omega)) ?_
    rw [nI_pred, nI_clamp (n := p) (by omega), nI_clamp (n := p + 1) (by omega)]
    refine ⟨v0, br_c (fun g => ⟨v1, nm_e (nm_r (nI_1 i) (h _ (fun j k hjk hk => ?_) ct))⟩) (fun g => ⟨v0, v1, nm_e (nm_r (pk_m1 p) (ih _ (by omega) (fun j k hjk hk hkp => ?_) (fun f => ?_)))⟩)⟩
    · by_cases e : k = p + 1
      · have w1 : upd b (p + 1) x p ≤ x := by rw [pk_un (by omega)]; exact g
        rw [e, pk_us]
        by_cases e2 : j = p
        · rw [e2]; exact w1
        · exact Int32.le_trans (so j p (by omega) (by omega) (by omega)) w1
      · exact so j k hjk (by omega) e
    · have up : ∀ a, a ≠ p → a ≠ p + 1 → upd (upd b (p + 1) (b p)) p x a = upd b (p + 1) x a := fun a n1 n2 => by rw [pk_un n1, pk_un n2, pk_un n2]
      have u0 : upd (upd b (p + 1) (b p)) p x p = upd b (p + 1) x (p + 1) := by rw [pk_us, pk_us]
      have u1 : upd (upd b (p + 1) (b p)) p x (p + 1) = upd b (p + 1) x p := by rw [pk_un (by omega), pk_us, pk_un (by omega)]
      have gx : upd b (p + 1) x (p + 1) ≤ upd b (p + 1) x p := by rw [pk_us, pk_un (by omega)]; exact Int32.le_of_lt (Int32.not_le.mp g)
      by_cases e : k = p + 1
      · rw [e, u1]
        by_cases e2 : j = p
        · rw [e2, u0]; exact gx
        · rw [up j e2 (by omega)]; exact so j p (by omega) (by omega) (by omega)
      · rw [up k hkp e]
        by_cases e2 : j = p
        · rw [e2, u0]; exact so (p + 1) k (by omega) hk e
        · by_cases e3 : j = p + 1
          · rw [e3, u1]; exact so p k (by omega) hk e
          · rw [up j e2 e3]; exact so j k hjk hk e
    · rw [← ct f]
      have z := sm_swap (A := fun j => f (upd (upd b (p + 1) (b p)) p x j)) (B := fun j => f (upd b (p + 1) x j)) (q := p) (by show f (upd (upd b (p + 1) (b p)) p x p) = f (upd b (p + 1) x (p + 1)); rw [pk_us, pk_us]) (by show f (upd (upd b (p + 1) (b p)) p x (p + 1)) = f (upd b (p + 1) x p); rw [pk_un (by omega), pk_us, pk_un (by omega)]) (fun a n1 n2 => by show f (upd (upd b (p + 1) (b p)) p x a) = f (upd b (p + 1) x a); rw [pk_un n1, pk_un n2, pk_un n2]) (N - (p + 2))
      rw [show p + 2 + (N - (p + 2)) = N from by omega] at z
      exact z
theorem sm_so2 {N : Nat} (hN : N ≤ 256) {post : SX → Prop} (K : (Int32 → Bool) → Nat) (h : ∀ tv, sm_so tv N → (∀ p : Int32 → Bool, sm_cn (fun j => p (tv j)) N = K p) → post (sc, sv, lv, lab, len, lat, tim, val, slab, slen, slat, stim, sval, tv, ts)) : ∀ d i tv, i + d = N → sm_so tv i → (∀ p : Int32 → Bool, sm_cn (fun j => p (tv j)) N = K p) → wX_sortTakenValues_2 post (nI N) sc sv lv (d + 1) (nI i) lab len lat tim val slab slen slat stim sval tv ts := by
  intro d
  induction d with
  | zero =>
    intro i tv hi so ct
    obtain rfl : i = N := by omega
    exact br_t (nI_le (by omega) (by omega)) (h tv so ct)
  | succ d ih =>
    intro i tv hi so ct
    refine br_f (nI_ge (by omega) (by omega)) ⟨vp_in_nI (by omega) (by omega), nm_r (e' := tv i) (by rw [nI_clamp (by omega)]) ⟨i + 1, ?_⟩⟩
    refine sm_in17 hN (by omega) K (fun tv so' ct' => ih (i + 1) tv (by omega) so' ct') i tv (Nat.le_refl i) ?_ ?_
    · rw [sm_upd_self]
      exact fun j k hjk hk hki => so j k hjk (by omega)
    · rw [sm_upd_self]
      exact ct
theorem sm_sort {N : Nat} (h1 : 1 ≤ N) (hN : N ≤ 256) {post : SX → Prop} (h : ∀ w, sm_so w N → (∀ p : Int32 → Bool, sm_cn (fun j => p (w j)) N = sm_cn (fun j => p (tv j)) N) → post (sc, sv, lv, lab, len, lat, tim, val, slab, slen, slat, stim, sval, w, ts)) : wpX_sortTakenValues post (sc, sv, lv, lab, len, lat, tim, val, slab, slen, slat, stim, sval, tv, ts) (nI N) :=
  ⟨_, sm_so2 hN (fun p => sm_cn (fun j => p (tv j)) N) h (N - 1) 1 tv (by omega) (fun i j hij hj => absurd hij (by omega)) (fun _ => rfl)⟩
theorem sm_yr41 {c m j : Nat} {t u y : Int32} (I : sm_I c lab len lat tim val) (hm : m ≤ 728) (hj : j < 256) {post : Int32 → Prop} {J : Int32 → Prop} (h1 : nI (sm_rk (sm_T c m t u lab len tim) val j) = y → post (val j)) (h2 : ¬ nI (sm_rk (sm_T c m t u lab len tim) val j) = y → J (nI (j + 1))) : ∀ d i, i + d = 256 → wY_ranked_41 post J (nI m) t u y (nI j) (nI c) sv lab len lat tim val slab slen slat stim sval (d + 1) (nI (sm_cn (sm_bf (sm_T c m t u lab len tim) val j) i)) (nI i) := by
  have vj : vp_in (nI j) 256 := vp_in_nI (by omega) (by omega)
  have cj : (nI j).toNatClampNeg = j := nI_clamp (by omega)
  intro d
  induction d with
  | zero =>
    intro i hi
    obtain rfl : i = 256 := by omega
    refine br_t (nI_le (a := 256) (b := 256) (by omega) (by omega)) ?_
    rw [cj]
    exact br_c (fun g => ⟨vj, h1 g⟩) (fun g => nm_r (nI_1 j) (h2 g))
  | succ d ih =>
    intro i hi
    have w := ih (i + 1) (by omega)
    have vi : vp_in (nI i) 256 := vp_in_nI (by omega) (by omega)
    have ci : (nI i).toNatClampNeg = i := nI_clamp (by omega)
    refine br_f (nI_ge (b := 256) (by omega) (by omega)) (sm_takes I (by omega) hm (sm_bb (fun z => nm_r (nI_1 i) ?_) (fun z => ⟨vi, vj, ?_⟩)))
    · rw [sm_cn_f (by unfold sm_bf; rw [z, Bool.false_and])] at w; exact w
    rw [ci, cj]
    refine br_c (fun g => nm_r (nI_1 _) (nm_r (nI_1 i) ?_)) (fun g => ⟨vi, vj, br_c (fun g2 => pk_le j i (fun g3 => nm_r (nI_1 i) ?_) (fun g3 => nm_r (nI_1 _) (nm_r (nI_1 i) ?_))) (fun g2 => nm_r (nI_1 i) ?_)⟩)
    · rw [sm_cn_t (by unfold sm_bf; rw [z, decide_eq_true g]; rfl)] at w; exact w
    · rw [sm_cn_f (by unfold sm_bf; rw [decide_eq_false g, decide_eq_false (by omega : ¬ i < j), Bool.and_false, Bool.or_false, Bool.and_false])] at w; exact w
    · rw [sm_cn_t (by unfold sm_bf; rw [z, decide_eq_true g2, decide_eq_true g3, Bool.and_true, Bool.or_true]; rfl)] at w; exact w
    · rw [sm_cn_f (by unfold sm_bf; rw [decide_eq_false g, decide_eq_false g2, Bool.false_and, Bool.or_false, Bool.and_false])] at w; exact w
theorem sm_yr15 {c m : Nat} {t u y : Int32} (I : sm_I c lab len lat tim val) (hm : m ≤ 728) {post : Int32 → Prop} (h1 : ∀ j, j < 256 → (sm_T c m t u lab len tim) j = true → nI (sm_rk (sm_T c m t u lab len tim) val j) = y → post (val j)) (h2 : (∀ j, j < 256 → (sm_T c m t u lab len tim) j = true → ¬ nI (sm_rk (sm_T c m t u lab len tim) val j) = y) → post (-10003)) : ∀ d j, j + d = 256 → (∀ i, i < j → (sm_T c m t u lab len tim) i = true → ¬ nI (sm_rk (sm_T c m t u lab len tim) val i) = y) → wY_ranked_15 post (nI m) t u y (nI c) sv lab len lat tim val slab slen slat stim sval (d + 1) (nI j) := by
  intro d
  induction d with
  | zero =>
    intro j hj w
    obtain rfl : j = 256 := by omega
    exact br_t (nI_le (a := 256) (b := 256) (by omega) (by omega)) (h2 w)
  | succ d ih =>
    intro j hj w
    refine br_f (nI_ge (b := 256) (by omega) (by omega)) (sm_takes I (by omega) hm (sm_bb (fun z => nm_r (nI_1 j) (ih (j + 1) (by omega) (fun i hi hT => ?_))) (fun z => ⟨257, ?_⟩)))
    · by_cases e : i = j
      · rw [e, z] at hT; exact absurd hT (by decide)
      · exact w i (by omega) hT
    · refine sm_yr41 I hm (by omega) (h1 j (by omega) z) (fun g => ih (j + 1) (by omega) (fun i hi hT => ?_)) 256 0 rfl
      by_cases e : i = j
      · rw [e]; exact g
      · exact w i (by omega) hT
theorem i_vc_ranked {k : Nat} {u : SX} {v : SY} (I : i_Rel k u v) (hk : k + 5 ≤ 2560) (v1 : Int32) (v2 : Int32) (v3 : Int32) (v4 : Int32) : wpX_ranked (fun r u' => wpY_ranked (fun r' => r' = r ∧ i_Rel (k + 5) u' v) v v1 v2 v3 v4) u v1 v2 v3 v4 := by
  obtain ⟨c, e, lv, lab, len, lat, tim, val, slab, slen, slat, stim, sval, tv, ts, rfl, rfl, I, J⟩ := I
  unfold wpX_ranked wpY_ranked
  rcases sm_ism v1 with ⟨bx, bY⟩ | ⟨m, hm, rfl, gx, gy⟩
  · exact bx _ _ (br_t rfl (bY _ _ (br_t rfl ⟨rfl, sm_R I J⟩)))
  refine gx _ _ (br_f (by decide) ?_)
  refine sm_take I hm (fun tv ts g => ?_)
  have hN := sm_cn_le (sm_T c m v2 v3 lab len tim) 256
  by_cases h0 : v4 < 0
  · refine br_t h0 ?_
    refine gy _ _ (br_f (by decide) ⟨257, sm_yr15 I hm (fun j hj hT z => ?_) (fun _ => ⟨rfl, sm_R I J⟩) 256 0 rfl (fun i hi => absurd hi (Nat.not_lt_zero i))⟩)
    have w := sm_rk_lt (val := val) hj hT
    rw [← z] at h0
    exact absurd h0 (nI_pos (by omega))
  obtain ⟨q, hq, rfl⟩ := nI_of h0
  refine br_f h0 (pk_lt q (sm_cn (sm_T c m v2 v3 lab len tim) 256) (fun g1 => ?_) (fun g1 => ?_))
  · refine sm_sort (by omega) hN (fun w so ct => ?_)
    have W : sm_W (sm_T c m v2 v3 lab len tim) val w := ⟨so, fun p => (ct p).trans (sm_fw p 256 (fun j hj hT => (g j hj hT).1))⟩
    refine ⟨vp_in_nI (by omega) (by omega), ?_⟩
    rw [nI_clamp hq]
    refine gy _ _ (br_f (by decide) ⟨257, sm_yr15 I hm (fun j hj hT z => ⟨?_, sm_R I J⟩) (fun z => ?_) 256 0 rfl (fun i hi => absurd hi (Nat.not_lt_zero i))⟩)
    · obtain ⟨j, hj, hT, er⟩ := sm_rk_b W g1
      exact absurd (congrArg nI er) (z j hj hT)
    · have y := sm_rk_lt (val := val) hj hT
      rw [← (nI_eq (by omega) hq).mp z]
      exact (sm_rk_a W hj hT).symm
  · refine gy _ _ (br_f (by decide) ⟨257, sm_yr15 I hm (fun j hj hT z => ?_) (fun _ => ⟨rfl, sm_R I J⟩) 256 0 rfl (fun i hi => absurd hi (Nat.not_lt_zero i))⟩)
    have w := sm_rk_lt (val := val) hj hT
    have y := (nI_eq (by omega) hq).mp z
    omega
end
end
