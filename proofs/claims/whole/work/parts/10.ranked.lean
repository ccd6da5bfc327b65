theorem sm_irr (x : Int32) : ¬ x < x := fun h => Int32.lt_irrefl h
theorem sm_cn_or {A B C : Nat → Bool} : ∀ k, (∀ i, i < k → (A i = (B i || C i)) ∧ (B i && C i) = false) → sm_cn A k = sm_cn B k + sm_cn C k := by
  intro k
  induction k with
  | zero => intro _; rfl
  | succ k ih =>
    intro h
    have e := ih (fun i hi => h i (by omega))
    obtain ⟨h1, h2⟩ := h k (by omega)
    cases hb : B k <;> cases hc : C k <;> rw [hb, hc] at h1 h2
    · rw [sm_cn_f h1, sm_cn_f hb, sm_cn_f hc, e]
    · rw [sm_cn_t h1, sm_cn_f hb, sm_cn_t hc, e]; omega
    · rw [sm_cn_t h1, sm_cn_t hb, sm_cn_f hc, e]; omega
    · exact absurd h2 (by decide)
theorem sm_cn_cut {C : Nat → Bool} {j k : Nat} (h : j ≤ k) : sm_cn (fun i => C i && decide (i < j)) k = sm_cn C j := by
  have e := sm_cn_flat (fun i => C i && decide (i < j)) j (k - j) (fun i h1 h2 => by show (C i && decide (i < j)) = false; rw [decide_eq_false (by omega), Bool.and_false])
  rw [show j + (k - j) = k from by omega] at e
  rw [e]
  exact sm_cn_congr j (fun i hi => by show (C i && decide (i < j)) = C i; rw [decide_eq_true hi, Bool.and_true])
/-- i comes before j in the ranking -/
def sm_bf (T : Nat → Bool) (val : Nat → Int32) (j i : Nat) : Bool := T i && (decide (val i < val j) || (decide (val i = val j) && decide (i < j)))
def sm_rk (T : Nat → Bool) (val : Nat → Int32) (j : Nat) : Nat := sm_cn (sm_bf T val j) 256
theorem sm_rk_eq (T : Nat → Bool) (val : Nat → Int32) {j : Nat} (hj : j < 256) : sm_rk T val j = sm_cn (fun i => T i && decide (val i < val j)) 256 + sm_cn (fun i => T i && decide (val i = val j)) j := by
  rw [← sm_cn_cut (C := fun i => T i && decide (val i = val j)) (j := j) (k := 256) (by omega)]
  refine sm_cn_or 256 (fun i hi => ⟨?_, ?_⟩)
  · show (T i && (decide (val i < val j) || (decide (val i = val j) && decide (i < j)))) = ((T i && decide (val i < val j)) || ((T i && decide (val i = val j)) && decide (i < j)))
    cases T i <;> simp
  · show ((T i && decide (val i < val j)) && ((T i && decide (val i = val j)) && decide (i < j))) = false
    by_cases e : val i = val j
    · rw [decide_eq_false (by rw [e]; exact sm_irr _), Bool.and_false, Bool.false_and]
    · rw [decide_eq_false e, Bool.and_false, Bool.false_and, Bool.and_false]
theorem sm_le_eq (T : Nat → Bool) (val : Nat → Int32) (x : Int32) : sm_cn (fun i => T i && decide (val i ≤ x)) 256 = sm_cn (fun i => T i && decide (val i < x)) 256 + sm_cn (fun i => T i && decide (val i = x)) 256 := by
  refine sm_cn_or 256 (fun i hi => ⟨?_, ?_⟩)
  · show (T i && decide (val i ≤ x)) = ((T i && decide (val i < x)) || (T i && decide (val i = x)))
    by_cases e : val i = x
    · rw [decide_eq_true e, decide_eq_true (by rw [e]; exact Int32.le_refl _)]; cases T i <;> simp
    · by_cases g : val i < x
      · rw [decide_eq_true g, decide_eq_true (Int32.le_of_lt g)]; cases T i <;> simp
      · have w : ¬ val i ≤ x := by
          rw [Int32.le_iff_toInt_le]
          rw [Int32.lt_iff_toInt_lt] at g
          intro z
          exact e (Int32.toInt_inj.mp (by omega))
        rw [decide_eq_false e, decide_eq_false g, decide_eq_false w]; cases T i <;> simp
  · show ((T i && decide (val i < x)) && (T i && decide (val i = x))) = false
    by_cases e : val i = x
    · rw [decide_eq_false (by rw [e]; exact sm_irr _), Bool.and_false, Bool.false_and]
    · rw [decide_eq_false e, Bool.and_false, Bool.and_false]
/-- w, sorted, holds below N just what T takes of val -/
def sm_W (T : Nat → Bool) (val w : Nat → Int32) : Prop := sm_so w (sm_cn T 256) ∧ ∀ p : Int32 → Bool, sm_cn (fun i => p (w i)) (sm_cn T 256) = sm_cn (fun j => T j && p (val j)) 256
theorem sm_W_lt {T : Nat → Bool} {val w : Nat → Int32} (h : sm_W T val w) (x : Int32) {i : Nat} (hi : i < sm_cn T 256) : w i < x ↔ i < sm_cn (fun j => T j && decide (val j < x)) 256 := by
  have z := sm_thr (fun y => decide (y < x)) (fun a b hab hb => decide_eq_true (Int32.lt_of_le_of_lt hab (of_decide_eq_true hb))) h.1 hi
  rw [h.2 (fun y => decide (y < x))] at z
  exact ⟨fun q => z.mp (decide_eq_true q), fun q => of_decide_eq_true (z.mpr q)⟩
theorem sm_W_le {T : Nat → Bool} {val w : Nat → Int32} (h : sm_W T val w) (x : Int32) {i : Nat} (hi : i < sm_cn T 256) : w i ≤ x ↔ i < sm_cn (fun j => T j && decide (val j ≤ x)) 256 := by
  have z := sm_thr (fun y => decide (y ≤ x)) (fun a b hab hb => decide_eq_true (Int32.le_trans hab (of_decide_eq_true hb))) h.1 hi
  rw [h.2 (fun y => decide (y ≤ x))] at z
  exact ⟨fun q => z.mp (decide_eq_true q), fun q => of_decide_eq_true (z.mpr q)⟩
theorem sm_rk_lt {T : Nat → Bool} {val : Nat → Int32} {j : Nat} (hj : j < 256) (hT : T j = true) : sm_rk T val j < sm_cn T 256 := by
  refine sm_cn_lt (p := j) 256 hj (fun i _ h => ?_) ?_ hT
  · unfold sm_bf at h
    rw [Bool.and_eq_true] at h
    exact h.1
  · unfold sm_bf
    rw [decide_eq_false (sm_irr _), decide_eq_false (Nat.lt_irrefl _), Bool.and_false, Bool.or_false, Bool.and_false]
theorem sm_rk_a {T : Nat → Bool} {val w : Nat → Int32} (h : sm_W T val w) {j : Nat} (hj : j < 256) (hT : T j = true) : w (sm_rk T val j) = val j := by
  have hN := sm_rk_lt (val := val) hj hT
  have e1 := sm_rk_eq T val hj
  have e2 := sm_le_eq T val (val j)
  have m := sm_cn_mono (fun i => T i && decide (val i = val j)) (j + 1) (256 - (j + 1))
  rw [show j + 1 + (256 - (j + 1)) = 256 from by omega, sm_cn_t (T := fun i => T i && decide (val i = val j)) (by show (T j && decide (val j = val j)) = true; rw [hT, decide_eq_true rfl]; rfl)] at m
  have a := sm_W_lt h (val j) hN
  have b := (sm_W_le h (val j) hN).mpr (by omega)
  have a' : ¬ w (sm_rk T val j) < val j := fun z => absurd (a.mp z) (by omega)
  rw [Int32.le_iff_toInt_le] at b
  rw [Int32.lt_iff_toInt_lt] at a'
  exact Int32.toInt_inj.mp (by omega)
theorem sm_rk_b {T : Nat → Bool} {val w : Nat → Int32} (h : sm_W T val w) {k : Nat} (hk : k < sm_cn T 256) : ∃ j, j < 256 ∧ T j = true ∧ sm_rk T val j = k := by
  have a := sm_W_lt h (w k) hk
  have b := (sm_W_le h (w k) hk).mp (Int32.le_refl _)
  have a' : ¬ k < sm_cn (fun j => T j && decide (val j < w k)) 256 := fun z => absurd (a.mpr z) (sm_irr _)
  rw [sm_le_eq] at b
  obtain ⟨j, hj, hT, e⟩ := sm_cn_ivt (fun i => T i && decide (val i = w k)) (k - sm_cn (fun j => T j && decide (val j < w k)) 256) 256 (by omega)
  have hT' : T j = true ∧ val j = w k := by
    have z : (T j && decide (val j = w k)) = true := hT
    rw [Bool.and_eq_true] at z
    exact ⟨z.1, of_decide_eq_true z.2⟩
  refine ⟨j, hj, hT'.1, ?_⟩
  rw [sm_rk_eq T val hj, hT'.2, e]
  omega
theorem sm_upd_self (b : Nat → Int32) (i : Nat) : upd b i (b i) = b := by
  funext j
  by_cases h : j = i
  · rw [h, pk_us]
  · rw [pk_un h]
section
variable {sc sv lv : Int32} {lab len lat tim val slab slen slat stim sval tv ts : Nat → Int32}
theorem sm_in17 {N i : Nat} {x : Int32} (hN : N ≤ 256) (hi : i < N) {post : SX → Prop} {J : Int32 → (Nat → Int32) → (Nat → Int32) → (Nat → Int32) → (Nat → Int32) → (Nat → Int32) → (Nat → Int32) → (Nat → Int32) → (Nat → Int32) → (Nat → Int32) → (Nat → Int32) → (Nat → Int32) → (Nat → Int32) → Prop} (K : (Int32 → Bool) → Nat) (h : ∀ tv, sm_so tv (i + 1) → (∀ p : Int32 → Bool, sm_cn (fun j => p (tv j)) N = K p) → J (nI (i + 1)) lab len lat tim val slab slen slat stim sval tv ts) : ∀ p b, p ≤ i → (∀ j k, j < k → k ≤ i → k ≠ p → upd b p x j ≤ upd b p x k) → (∀ f : Int32 → Bool, sm_cn (fun j => f (upd b p x j)) N = K f) → wX_sortTakenValues_17 post J (nI N) (nI i) x sc sv lv (p + 1) (nI p) lab len lat tim val slab slen slat stim sval b ts := by
  intro p
  induction p with
  | zero =>
    intro b hp so ct
    refine br_t (nI_le (a := 0) (b := 0) (by omega) (by omega)) ⟨vp_in_nI (by omega) (by omega), ?_⟩
    rw [nI_clamp (by omega)]
    exact nm_e (nm_r (nI_1 i) (h _ (fun j k hjk hk => so j k hjk (by omega) (by omega)) ct))
  | succ p ih =>
    intro b hp so ct
    have v1 : vp_in (nI (p + 1)) 256 := vp_in_nI (by omega) (by omega)
    have v0 : vp_in (nI p) 256 := vp_in_nI (by omega) (by omega)
    refine br_f (nI_nle (by omega) (by omega)) ?_
    rw [nI_pred, nI_clamp (n := p) (by omega), nI_clamp (n := p + 1) (by omega)]
    refine ⟨v0, br_c (fun g => ⟨v1, nm_e (nm_r (nI_1 i) (h _ (fun j k hjk hk => ?_) ct))⟩) (fun g => ⟨v0, v1, nm_e (nm_r (pk_m1 p) (ih _ (by omega) (fun j k hjk hk hkp => ?_) (fun f => ?_)))⟩)⟩
    · by_cases e : k = p + 1
      · have w1 : upd b (p + 1) x p ≤ x := by rw [pk_un (by omega)]; exact g
        rw [e, pk_us]
        by_cases e2 : j = p
        · rw [e2]; exact w1
        · exact Int32.le_trans (so j p (by omega) (by omega) (by omega)) w1
      · exact so j k hjk (by omega) e
    · have up : ∀ a, a ≠ p → a ≠ p + 1 → upd (upd b (p + 1) (b p)) p x a = upd b (p + 1) x a := fun a n1 n2 => by rw [pk_un n1, pk_un n2, pk_un n2]
      have u0 : upd (upd b (p + 1) (b p)) p x p = upd b (p + 1) x (p + 1) := by rw [pk_us, pk_us]
      have u1 : upd (upd b (p + 1) (b p)) p x (p + 1) = upd b (p + 1) x p := by rw [pk_un (by omega), pk_us, pk_un (by omega)]
      have gx : upd b (p + 1) x (p + 1) ≤ upd b (p + 1) x p := by rw [pk_us, pk_un (by omega)]; exact Int32.le_of_lt (Int32.not_le.mp g)
      by_cases e : k = p + 1
      · rw [e, u1]
        by_cases e2 : j = p
        · rw [e2, u0]; exact gx
        · rw [up j e2 (by omega)]; exact so j p (by omega) (by omega) (by omega)
      · rw [up k hkp e]
        by_cases e2 : j = p
        · rw [e2, u0]; exact so (p + 1) k (by omega) hk e
        · by_cases e3 : j = p + 1
          · rw [e3, u1]; exact so p k (by omega) hk e
          · rw [up j e2 e3]; exact so j k hjk hk e
    · rw [← ct f]
      have z := sm_swap (A := fun j => f (upd (upd b (p + 1) (b p)) p x j)) (B := fun j => f (upd b (p + 1) x j)) (q := p) (by show f (upd (upd b (p + 1) (b p)) p x p) = f (upd b (p + 1) x (p + 1)); rw [pk_us, pk_us]) (by show f (upd (upd b (p + 1) (b p)) p x (p + 1)) = f (upd b (p + 1) x p); rw [pk_un (by omega), pk_us, pk_un (by omega)]) (fun a n1 n2 => by show f (upd (upd b (p + 1) (b p)) p x a) = f (upd b (p + 1) x a); rw [pk_un n1, pk_un n2, pk_un n2]) (N - (p + 2))
      rw [show p + 2 + (N - (p + 2)) = N from by omega] at z
      exact z
theorem sm_so2 {N : Nat} (hN : N ≤ 256) {post : SX → Prop} (K : (Int32 → Bool) → Nat) (h : ∀ tv, sm_so tv N → (∀ p : Int32 → Bool, sm_cn (fun j => p (tv j)) N = K p) → post (sc, sv, lv, lab, len, lat, tim, val, slab, slen, slat, stim, sval, tv, ts)) : ∀ d i tv, i + d = N → sm_so tv i → (∀ p : Int32 → Bool, sm_cn (fun j => p (tv j)) N = K p) → wX_sortTakenValues_2 post (nI N) sc sv lv (d + 1) (nI i) lab len lat tim val slab slen slat stim sval tv ts := by
  intro d
  induction d with
  | zero =>
    intro i tv hi so ct
    obtain rfl : i = N := by omega
    exact br_t (nI_le (by omega) (by omega)) (h tv so ct)
  | succ d ih =>
    intro i tv hi so ct
    refine br_f (nI_ge (by omega) (by omega)) ⟨vp_in_nI (by omega) (by omega), nm_r (e' := tv i) (by rw [nI_clamp (by omega)]) ⟨i + 1, ?_⟩⟩
    refine sm_in17 hN (by omega) K (fun tv so' ct' => ih (i + 1) tv (by omega) so' ct') i tv (Nat.le_refl i) ?_ ?_
    · rw [sm_upd_self]
      exact fun j k hjk hk hki => so j k hjk (by omega)
    · rw [sm_upd_self]
      exact ct
theorem sm_sort {N : Nat} (h1 : 1 ≤ N) (hN : N ≤ 256) {post : SX → Prop} (h : ∀ w, sm_so w N → (∀ p : Int32 → Bool, sm_cn (fun j => p (w j)) N = sm_cn (fun j => p (tv j)) N) → post (sc, sv, lv, lab, len, lat, tim, val, slab, slen, slat, stim, sval, w, ts)) : wpX_sortTakenValues post (sc, sv, lv, lab, len, lat, tim, val, slab, slen, slat, stim, sval, tv, ts) (nI N) :=
  ⟨_, sm_so2 hN (fun p => sm_cn (fun j => p (tv j)) N) h (N - 1) 1 tv (by omega) (fun i j hij hj => absurd hij (by omega)) (fun _ => rfl)⟩
theorem sm_yr41 {c m j : Nat} {t u y : Int32} (I : sm_I c lab len lat tim val) (hm : m ≤ 728) (hj : j < 256) {post : Int32 → Prop} {J : Int32 → Prop} (h1 : nI (sm_rk (sm_T c m t u lab len tim) val j) = y → post (val j)) (h2 : ¬ nI (sm_rk (sm_T c m t u lab len tim) val j) = y → J (nI (j + 1))) : ∀ d i, i + d = 256 → wY_ranked_41 post J (nI m) t u y (nI j) (nI c) sv lab len lat tim val slab slen slat stim sval (d + 1) (nI (sm_cn (sm_bf (sm_T c m t u lab len tim) val j) i)) (nI i) := by
  have vj : vp_in (nI j) 256 := vp_in_nI (by omega) (by omega)
  have cj : (nI j).toNatClampNeg = j := nI_clamp (by omega)
  intro d
  induction d with
  | zero =>
    intro i hi
    obtain rfl : i = 256 := by omega
    refine br_t (nI_le (a := 256) (b := 256) (by omega) (by omega)) ?_
    rw [cj]
    exact br_c (fun g => ⟨vj, h1 g⟩) (fun g => nm_r (nI_1 j) (h2 g))
  | succ d ih =>
    intro i hi
    have w := ih (i + 1) (by omega)
    have vi : vp_in (nI i) 256 := vp_in_nI (by omega) (by omega)
    have ci : (nI i).toNatClampNeg = i := nI_clamp (by omega)
    refine br_f (nI_ge (b := 256) (by omega) (by omega)) (sm_takes I (by omega) hm (sm_bb (fun z => nm_r (nI_1 i) ?_) (fun z => ⟨vi, vj, ?_⟩)))
    · rw [sm_cn_f (by unfold sm_bf; rw [z, Bool.false_and])] at w; exact w
    rw [ci, cj]
    refine br_c (fun g => nm_r (nI_1 _) (nm_r (nI_1 i) ?_)) (fun g => ⟨vi, vj, br_c (fun g2 => pk_le j i (fun g3 => nm_r (nI_1 i) ?_) (fun g3 => nm_r (nI_1 _) (nm_r (nI_1 i) ?_))) (fun g2 => nm_r (nI_1 i) ?_)⟩)
    · rw [sm_cn_t (by unfold sm_bf; rw [z, decide_eq_true g]; rfl)] at w; exact w
    · rw [sm_cn_f (by unfold sm_bf; rw [decide_eq_false g, decide_eq_false (by omega : ¬ i < j), Bool.and_false, Bool.or_false, Bool.and_false])] at w; exact w
    · rw [sm_cn_t (by unfold sm_bf; rw [z, decide_eq_true g2, decide_eq_true g3, Bool.and_true, Bool.or_true]; rfl)] at w; exact w
    · rw [sm_cn_f (by unfold sm_bf; rw [decide_eq_false g, decide_eq_false g2, Bool.false_and, Bool.or_false, Bool.and_false])] at w; exact w
theorem sm_yr15 {c m : Nat} {t u y : Int32} (I : sm_I c lab len lat tim val) (hm : m ≤ 728) {post : Int32 → Prop} (h1 : ∀ j, j < 256 → (sm_T c m t u lab len tim) j = true → nI (sm_rk (sm_T c m t u lab len tim) val j) = y → post (val j)) (h2 : (∀ j, j < 256 → (sm_T c m t u lab len tim) j = true → ¬ nI (sm_rk (sm_T c m t u lab len tim) val j) = y) → post (-10003)) : ∀ d j, j + d = 256 → (∀ i, i < j → (sm_T c m t u lab len tim) i = true → ¬ nI (sm_rk (sm_T c m t u lab len tim) val i) = y) → wY_ranked_15 post (nI m) t u y (nI c) sv lab len lat tim val slab slen slat stim sval (d + 1) (nI j) := by
  intro d
  induction d with
  | zero =>
    intro j hj w
    obtain rfl : j = 256 := by omega
    exact br_t (nI_le (a := 256) (b := 256) (by omega) (by omega)) (h2 w)
  | succ d ih =>
    intro j hj w
    refine br_f (nI_ge (b := 256) (by omega) (by omega)) (sm_takes I (by omega) hm (sm_bb (fun z => nm_r (nI_1 j) (ih (j + 1) (by omega) (fun i hi hT => ?_))) (fun z => ⟨257, ?_⟩)))
    · by_cases e : i = j
      · rw [e, z] at hT; exact absurd hT (by decide)
      · exact w i (by omega) hT
    · refine sm_yr41 I hm (by omega) (h1 j (by omega) z) (fun g => ih (j + 1) (by omega) (fun i hi hT => ?_)) 256 0 rfl
      by_cases e : i = j
      · rw [e]; exact g
      · exact w i (by omega) hT
theorem i_vc_ranked {k : Nat} {u : SX} {v : SY} (I : i_Rel k u v) (hk : k + 5 ≤ 2560) (v1 : Int32) (v2 : Int32) (v3 : Int32) (v4 : Int32) : wpX_ranked (fun r u' => wpY_ranked (fun r' => r' = r ∧ i_Rel (k + 5) u' v) v v1 v2 v3 v4) u v1 v2 v3 v4 := by
  obtain ⟨c, e, lv, lab, len, lat, tim, val, slab, slen, slat, stim, sval, tv, ts, rfl, rfl, I, J⟩ := I
  unfold wpX_ranked wpY_ranked
  rcases sm_ism v1 with ⟨bx, bY⟩ | ⟨m, hm, rfl, gx, gy⟩
  · exact bx _ _ (br_t rfl (bY _ _ (br_t rfl ⟨rfl, sm_R I J⟩)))
  refine gx _ _ (br_f (by decide) ?_)
  refine sm_take I hm (fun tv ts g => ?_)
  have hN := sm_cn_le (sm_T c m v2 v3 lab len tim) 256
  by_cases h0 : v4 < 0
  · refine br_t h0 ?_
    refine gy _ _ (br_f (by decide) ⟨257, sm_yr15 I hm (fun j hj hT z => ?_) (fun _ => ⟨rfl, sm_R I J⟩) 256 0 rfl (fun i hi => absurd hi (Nat.not_lt_zero i))⟩)
    have w := sm_rk_lt (val := val) hj hT
    rw [← z] at h0
    exact absurd h0 (nI_pos (by omega))
  obtain ⟨q, hq, rfl⟩ := nI_of h0
  refine br_f h0 (pk_lt q (sm_cn (sm_T c m v2 v3 lab len tim) 256) (fun g1 => ?_) (fun g1 => ?_))
  · refine sm_sort (by omega) hN (fun w so ct => ?_)
    have W : sm_W (sm_T c m v2 v3 lab len tim) val w := ⟨so, fun p => (ct p).trans (sm_fw p 256 (fun j hj hT => (g j hj hT).1))⟩
    refine ⟨vp_in_nI (by omega) (by omega), ?_⟩
    rw [nI_clamp hq]
    refine gy _ _ (br_f (by decide) ⟨257, sm_yr15 I hm (fun j hj hT z => ⟨?_, sm_R I J⟩) (fun z => ?_) 256 0 rfl (fun i hi => absurd hi (Nat.not_lt_zero i))⟩)
    · obtain ⟨j, hj, hT, er⟩ := sm_rk_b W g1
      exact absurd (congrArg nI er) (z j hj hT)
    · have y := sm_rk_lt (val := val) hj hT
      rw [← (nI_eq (by omega) hq).mp z]
      exact (sm_rk_a W hj hT).symm
  · refine gy _ _ (br_f (by decide) ⟨257, sm_yr15 I hm (fun j hj hT z => ?_) (fun _ => ⟨rfl, sm_R I J⟩) 256 0 rfl (fun i hi => absurd hi (Nat.not_lt_zero i))⟩)
    have w := sm_rk_lt (val := val) hj hT
    have y := (nI_eq (by omega) hq).mp z
    omega
end
