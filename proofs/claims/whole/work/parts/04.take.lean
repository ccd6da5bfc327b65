/-- what is taken of the samples below k stands in tv and ts, in order -/
def sm_G (T : Nat → Bool) (val tv ts : Nat → Int32) (k : Nat) : Prop := ∀ j, j < k → T j = true → tv (sm_cn T j) = val j ∧ ts (sm_cn T j) = nI (j / 32)
theorem sm_G_0 {T : Nat → Bool} {val tv ts : Nat → Int32} : sm_G T val tv ts 0 := fun j hj => absurd hj (Nat.not_lt_zero j)
theorem sm_G_f {T : Nat → Bool} {val tv ts : Nat → Int32} {k : Nat} (g : sm_G T val tv ts k) (h : T k = false) : sm_G T val tv ts (k + 1) := by
  intro j hj hT
  by_cases e : j = k
  · rw [e, h] at hT; exact absurd hT (by decide)
  · exact g j (by omega) hT
theorem sm_G_flat {T : Nat → Bool} {val tv ts : Nat → Int32} {a : Nat} (g : sm_G T val tv ts a) : ∀ d, (∀ j, a ≤ j → j < a + d → T j = false) → sm_G T val tv ts (a + d) := by
  intro d h j hj hT
  by_cases e : j < a
  · exact g j e hT
  · rw [h j (by omega) hj] at hT; exact absurd hT (by decide)
theorem sm_G_t {T : Nat → Bool} {val tv ts : Nat → Int32} {k : Nat} (g : sm_G T val tv ts k) (h : T k = true) : sm_G T val (upd tv (sm_cn T k) (val k)) (upd ts (sm_cn T k) (nI (k / 32))) (k + 1) := by
  intro j hj hT
  by_cases e : j = k
  · rw [e]; exact ⟨pk_us, pk_us⟩
  · have h1 := sm_cn_mono T (j + 1) (k - (j + 1))
    rw [sm_cn_t hT, show j + 1 + (k - (j + 1)) = k from by omega] at h1
    rw [pk_un (by omega), pk_un (by omega)]
    exact g j (by omega) hT
theorem sm_T_at {c m s l b i : Nat} {t u : Int32} {lab len tim : Nat → Int32} (hs : s < c) (hl : l ≤ 32) (el : len s = nI l) (hb : b ≤ 63) (eb : lab s = nI b) (hi : i < 32) : sm_T c m t u lab len tim (32 * s + i) = (decide (i < l) && (decide (¬ tim (32 * s + i) < t) && (decide (¬ u < tim (32 * s + i)) && sm_mt m b))) := by
  have e1 : (32 * s + i) / 32 = s := by omega
  have e2 : (32 * s + i) % 32 = i := by omega
  rw [sm_T, e1, e2, el, eb, nI_clamp (by omega), nI_clamp (by omega), decide_eq_true hs, Bool.true_and]
theorem sm_T_out {c m k : Nat} {t u : Int32} {lab len tim : Nat → Int32} (h : 32 * c ≤ k) : sm_T c m t u lab len tim k = false := by
  rw [sm_T, decide_eq_false (by omega), Bool.false_and]
/-- what is taken is a sample -/
theorem sm_T_in {c m k : Nat} {t u : Int32} {lab len lat tim val : Nat → Int32} (I : sm_I c lab len lat tim val) (h : sm_T c m t u lab len tim k = true) : -1000 ≤ val k ∧ val k ≤ 1000 := by
  simp only [sm_T, Bool.and_eq_true, decide_eq_true_eq] at h
  obtain ⟨l, hl, el, a1, a2, a3⟩ := I.2.2 (k / 32) h.1
  rw [el, nI_clamp (by omega)] at h
  have z := a3 (k % 32) h.2.1
  rw [show 32 * (k / 32) + k % 32 = k from by omega] at z
  exact z
theorem sm_tot {c m : Nat} {t u : Int32} {lab len tim : Nat → Int32} (hc : c ≤ 8) : sm_cn (sm_T c m t u lab len tim) 256 = sm_cn (sm_T c m t u lab len tim) (32 * c) := by
  have z := sm_cn_flat (sm_T c m t u lab len tim) (32 * c) (256 - 32 * c) (fun j h _ => sm_T_out h)
  rw [show 32 * c + (256 - 32 * c) = 256 from by omega] at z
  exact z
section
variable {sc sv lv : Int32} {lab len lat tim val slab slen slat stim sval tv ts : Nat → Int32}
theorem sm_tf25 {T : Nat → Bool} {s l : Nat} {t u : Int32} (hs : s < 8) (hl : l ≤ 32) (hT : ∀ i, i < l → T (32 * s + i) = (decide (¬ tim (32 * s + i) < t) && decide (¬ u < tim (32 * s + i)))) {post : Int32 → SX → Prop} (h : ∀ tv ts, sm_G T val tv ts (32 * s + l) → post (nI (sm_cn T (32 * s + l))) (sc, sv, lv, lab, len, lat, tim, val, slab, slen, slat, stim, sval, tv, ts)) : ∀ d i tv ts, i + d = l → sm_G T val tv ts (32 * s + i) → wX_takeFrom_25 post (nI s) t u (nI (32 * s + l)) sc sv lv (d + 1) (nI (sm_cn T (32 * s + i))) (nI (32 * s + i)) lab len lat tim val slab slen slat stim sval tv ts := by
  intro d
  induction d with
  | zero =>
    intro i tv ts hi g
    obtain rfl : i = l := by omega
    exact br_t (nI_le (by omega) (by omega)) (h tv ts g)
  | succ d ih =>
    intro i tv ts hi g
    have ci : (nI (32 * s + i)).toNatClampNeg = 32 * s + i := nI_clamp (by omega)
    have hw := sm_cn_le T (32 * s + i)
    have cw : (nI (sm_cn T (32 * s + i))).toNatClampNeg = sm_cn T (32 * s + i) := nI_clamp (by omega)
    have e := hT i (by omega)
    have v1 : vp_in (nI (32 * s + i)) 256 := vp_in_nI (by omega) (by omega)
    have v2 : vp_in (nI (sm_cn T (32 * s + i))) 256 := vp_in_nI (by omega) (by omega)
    refine br_f (nI_ge (by omega) (by omega)) ⟨v1, ?_⟩
    rw [ci, cw]
    refine br_c (fun g1 => nm_r (nI_1 _) ?_) (fun g1 => ⟨v1, br_c (fun g2 => nm_r (nI_1 _) ?_) (fun g2 => ⟨v1, v2, nm_e ⟨v2, nm_e (nm_r (nI_1 _) (nm_r (nI_1 _) ?_))⟩⟩)⟩)
    · have f : T (32 * s + i) = false := by rw [e, decide_eq_false (not_not_intro g1), Bool.false_and]
      have z := ih (i + 1) tv ts (by omega) (sm_G_f g f)
      rw [← Nat.add_assoc, sm_cn_f f] at z
      exact z
    · have f : T (32 * s + i) = false := by rw [e, decide_eq_false (not_not_intro g2), Bool.and_false]
      have z := ih (i + 1) tv ts (by omega) (sm_G_f g f)
      rw [← Nat.add_assoc, sm_cn_f f] at z
      exact z
    · have f : T (32 * s + i) = true := by rw [e, decide_eq_true g1, decide_eq_true g2]; rfl
      have g' := sm_G_t g f
      rw [show (32 * s + i) / 32 = s from by omega] at g'
      have z := ih (i + 1) _ _ (by omega) g'
      rw [← Nat.add_assoc, sm_cn_t f] at z
      exact z
theorem sm_tf {T : Nat → Bool} {s l : Nat} {t u : Int32} (hs : s < 8) (hl : l ≤ 32) (el : len s = nI l) (hT : ∀ i, i < l → T (32 * s + i) = (decide (¬ tim (32 * s + i) < t) && decide (¬ u < tim (32 * s + i)))) {post : Int32 → SX → Prop} (g : sm_G T val tv ts (32 * s)) (h : ∀ tv ts, sm_G T val tv ts (32 * s + l) → post (nI (sm_cn T (32 * s + l))) (sc, sv, lv, lab, len, lat, tim, val, slab, slen, slat, stim, sval, tv, ts)) : wpX_takeFrom post (sc, sv, lv, lab, len, lat, tim, val, slab, slen, slat, stim, sval, tv, ts) (nI s) t u (nI (sm_cn T (32 * s))) := by
  have e1 : nI s * 32 = nI (32 * s) := by rw [Nat.mul_comm]; exact pk_mul s 32
  refine nm_r e1 ⟨vp_in_nI hs (by omega), nm_r (e' := nI (32 * s + l)) ?_ ⟨l + 1, ?_⟩⟩
  · rw [nI_clamp (by omega), el, nI_add]
  · exact sm_tf25 hs hl hT h l 0 tv ts (by omega) g
theorem sm_tk6 {c m : Nat} {t u : Int32} (I : sm_I c lab len lat tim val) (hm : m ≤ 728) {post : Int32 → SX → Prop} (h : ∀ tv ts, sm_G (sm_T c m t u lab len tim) val tv ts (32 * c) → post (nI (sm_cn (sm_T c m t u lab len tim) (32 * c))) (nI c, sv, lv, lab, len, lat, tim, val, slab, slen, slat, stim, sval, tv, ts)) : ∀ d s tv ts, s + d = c → sm_G (sm_T c m t u lab len tim) val tv ts (32 * s) → wX_take_6 post (nI m) t u (d + 1) (nI (sm_cn (sm_T c m t u lab len tim) (32 * s))) (nI s) (nI c) sv lv lab len lat tim val slab slen slat stim sval tv ts := by
  have hc := I.1
  intro d
  induction d with
  | zero =>
    intro s tv ts hs g
    obtain rfl : s = c := by omega
    exact br_t (nI_le (by omega) (by omega)) (h tv ts g)
  | succ d ih =>
    intro s tv ts hs g
    have hsc : s < c := by omega
    obtain ⟨b, hb, eb⟩ := I.2.1 s hsc
    obtain ⟨l, hl, el, a1, a2, a3⟩ := I.2.2 s hsc
    have ea := fun (i : Nat) (hi : i < 32) => sm_T_at (m := m) (t := t) (u := u) (tim := tim) hsc hl el hb eb hi
    refine br_f (nI_ge (by omega) (by omega)) (sm_xm (by omega) hm hb eb (sm_bb (fun z => nm_r (nI_1 s) ?_) (fun z => ?_)))
    · have f : ∀ j, 32 * s ≤ j → j < 32 * s + 32 → (sm_T c m t u lab len tim) j = false := by
        intro j h1 h2
        have y := ea (j - 32 * s) (by omega)
        rw [show 32 * s + (j - 32 * s) = j from by omega, z] at y
        rw [y]; simp
      have y := ih (s + 1) tv ts (by omega) (sm_G_flat g 32 f)
      rw [show 32 * (s + 1) = 32 * s + 32 from by omega, sm_cn_flat _ _ 32 f] at y
      exact y
    · refine sm_tf (by omega) hl el (fun i hi => ?_) g (fun tv ts g' => nm_r (nI_1 s) ?_)
      · rw [ea i (by omega), decide_eq_true hi, z]; simp
      · have f : ∀ j, 32 * s + l ≤ j → j < 32 * s + l + (32 - l) → (sm_T c m t u lab len tim) j = false := by
          intro j h1 h2
          have y := ea (j - 32 * s) (by omega)
          rw [show 32 * s + (j - 32 * s) = j from by omega, decide_eq_false (by omega), Bool.false_and] at y
          exact y
        have e : 32 * (s + 1) = 32 * s + l + (32 - l) := by omega
        have y := ih (s + 1) tv ts (by omega) (by rw [e]; exact sm_G_flat g' _ f)
        rw [e, sm_cn_flat _ _ _ f] at y
        exact y
theorem sm_take {c m : Nat} {t u : Int32} (I : sm_I c lab len lat tim val) (hm : m ≤ 728) {post : Int32 → SX → Prop} (h : ∀ tv ts, sm_G (sm_T c m t u lab len tim) val tv ts 256 → post (nI (sm_cn (sm_T c m t u lab len tim) 256)) (nI c, sv, lv, lab, len, lat, tim, val, slab, slen, slat, stim, sval, tv, ts)) : wpX_take post (nI c, sv, lv, lab, len, lat, tim, val, slab, slen, slat, stim, sval, tv, ts) (nI m) t u := by
  have hc := I.1
  refine ⟨c + 1, sm_tk6 I hm (fun tv ts g => ?_) c 0 tv ts (by omega) sm_G_0⟩
  rw [← sm_tot hc]
  refine h tv ts ?_
  have z := sm_G_flat g (256 - 32 * c) (fun j h _ => sm_T_out h)
  rw [show 32 * c + (256 - 32 * c) = 256 from by omega] at z
  exact z
end
theorem sm_ism (x : Int32) : ((∀ (post : Int32 → Prop) (w : SX), post 0 → wpX_isMatcher post w x) ∧ (∀ (post : Int32 → Prop) (w : SY), post 0 → wpY_isMatcher post w x)) ∨ (∃ m, m ≤ 728 ∧ x = nI m ∧ (∀ (post : Int32 → Prop) (w : SX), post 1 → wpX_isMatcher post w x) ∧ (∀ (post : Int32 → Prop) (w : SY), post 1 → wpY_isMatcher post w x)) := by
  by_cases h0 : x < 0
  · exact Or.inl ⟨fun _ _ h => br_t h0 h, fun _ _ h => br_t h0 h⟩
  · by_cases h1 : 728 < x
    · exact Or.inl ⟨fun _ _ h => br_f h0 (br_t h1 h), fun _ _ h => br_f h0 (br_t h1 h)⟩
    · obtain ⟨m, hm, e⟩ := nI_of2 (x := x) (M := 728) (n := 728) (by decide) h0 (Int32.not_lt.mp h1)
      exact Or.inr ⟨m, hm, e, fun _ _ h => br_f h0 (br_f h1 h), fun _ _ h => br_f h0 (br_f h1 h)⟩
section
variable {sc sv lv : Int32} {lab len lat tim val slab slen slat stim sval tv ts : Nat → Int32}
theorem sm_yct {c m : Nat} {t u : Int32} (I : sm_I c lab len lat tim val) (hm : m ≤ 728) {post : Int32 → Prop} (h : post (nI (sm_cn (sm_T c m t u lab len tim) 256))) : ∀ d j, j + d = 256 → wY_count_18 post (nI m) t u (nI c) sv lab len lat tim val slab slen slat stim sval (d + 1) (nI (sm_cn (sm_T c m t u lab len tim) j)) (nI j) := by
  intro d
  induction d with
  | zero =>
    intro j hj
    obtain rfl : j = 256 := by omega
    exact br_t (nI_le (a := 256) (b := 256) (by omega) (by omega)) h
  | succ d ih =>
    intro j hj
    have y := ih (j + 1) (by omega)
    refine br_f (nI_ge (b := 256) (by omega) (by omega)) (sm_takes I (by omega) hm (sm_bb (fun z => nm_r (nI_1 j) ?_) (fun z => nm_r (nI_1 _) (nm_r (nI_1 j) ?_))))
    · rw [sm_cn_f z] at y; exact y
    · rw [sm_cn_t z] at y; exact y
theorem i_vc_count {k : Nat} {u : SX} {v : SY} (I : i_Rel k u v) (hk : k + 5 ≤ 2560) (v1 : Int32) (v2 : Int32) (v3 : Int32) : wpX_count (fun r u' => wpY_count (fun r' => r' = r ∧ i_Rel (k + 5) u' v) v v1 v2 v3) u v1 v2 v3 := by
  obtain ⟨c, e, lv, lab, len, lat, tim, val, slab, slen, slat, stim, sval, tv, ts, rfl, rfl, I, J⟩ := I
  unfold wpX_count wpY_count
  rcases sm_ism v1 with ⟨bx, bY⟩ | ⟨m, hm, rfl, gx, gy⟩
  · exact bx _ _ (br_t rfl (bY _ _ (br_t rfl ⟨rfl, sm_R I J⟩)))
  · refine gx _ _ (br_f (by decide) ?_)
    refine sm_take I hm (fun tv ts g => ?_)
    refine gy _ _ (br_f (by decide) ⟨257, ?_⟩)
    exact sm_yct I hm ⟨rfl, sm_R I J⟩ 256 0 rfl
end
