theorem sm_iss (x : Int32) {c : Nat} (hc : c ≤ 8) : ((∀ (post : Int32 → Prop) (sv lv : Int32) (lab len lat tim val slab slen slat stim sval tv ts : Nat → Int32), post 0 → wpX_isSeries post (nI c, sv, lv, lab, len, lat, tim, val, slab, slen, slat, stim, sval, tv, ts) x) ∧ (∀ (post : Int32 → Prop) (sv : Int32) (lab len lat tim val slab slen slat stim sval : Nat → Int32), post 0 → wpY_isSeries post (nI c, sv, lab, len, lat, tim, val, slab, slen, slat, stim, sval) x)) ∨ (∃ s, s < c ∧ x = nI s ∧ (∀ (post : Int32 → Prop) (sv lv : Int32) (lab len lat tim val slab slen slat stim sval tv ts : Nat → Int32), post 1 → wpX_isSeries post (nI c, sv, lv, lab, len, lat, tim, val, slab, slen, slat, stim, sval, tv, ts) x) ∧ (∀ (post : Int32 → Prop) (sv : Int32) (lab len lat tim val slab slen slat stim sval : Nat → Int32), post 1 → wpY_isSeries post (nI c, sv, lab, len, lat, tim, val, slab, slen, slat, stim, sval) x)) := by
  by_cases h0 : x < 0
  · exact Or.inl ⟨fun _ _ _ _ _ _ _ _ _ _ _ _ _ _ _ h => br_t h0 h, fun _ _ _ _ _ _ _ _ _ _ _ _ h => br_t h0 h⟩
  · by_cases h1 : nI c ≤ x
    · exact Or.inl ⟨fun _ _ _ _ _ _ _ _ _ _ _ _ _ _ _ h => br_f h0 (br_t h1 h), fun _ _ _ _ _ _ _ _ _ _ _ _ h => br_f h0 (br_t h1 h)⟩
    · obtain ⟨s, hs, e⟩ := nI_of h0
      have hsc : s < c := by
        rw [e, nI_leI (by omega) hs] at h1
        omega
      exact Or.inr ⟨s, hsc, e, fun _ _ _ _ _ _ _ _ _ _ _ _ _ _ _ h => br_f h0 (br_f h1 h), fun _ _ _ _ _ _ _ _ _ _ _ _ h => br_f h0 (br_f h1 h)⟩
theorem sm_fo_flat (f : Int32 → Int32 → Int32) (a : Int32) (T : Nat → Bool) (val : Nat → Int32) (k : Nat) : ∀ d, (∀ j, k ≤ j → j < k + d → T j = false) → sm_fo f a T val (k + d) = sm_fo f a T val k := by
  intro d
  induction d with
  | zero => intro _; rfl
  | succ d ih =>
    intro h
    rw [← Nat.add_assoc, sm_fo_f (h (k + d) (by omega) (by omega))]
    exact ih (fun j h1 h2 => h j h1 (by omega))
/-- what at answers, as Y finds it among the first l -/
def sm_at (tim val : Nat → Int32) (x : Int32) (s : Nat) : Nat → Int32 := sm_fo (fun _ v => v) (-10003) (fun i => decide (¬ x < tim (32 * s + i)) && decide (¬ tim (32 * s + i) ≤ x - 50)) (fun i => val (32 * s + i))
/-- the bits of the series below s -/
def sm_mg (lab : Nat → Int32) (m : Nat) : Nat → Int32
  | 0 => 0
  | s + 1 => if sm_mt m (lab s).toNatClampNeg = true then sm_mg lab m s ||| ((1 : Int32) <<< (nI s &&& 31)) else sm_mg lab m s
section
variable {sc sv lv : Int32} {lab len lat tim val slab slen slat stim sval tv ts : Nat → Int32}
theorem i_vc_length {k : Nat} {u : SX} {v : SY} (I : i_Rel k u v) (hk : k + 5 ≤ 2560) (v1 : Int32) : wpX_length (fun r => wpY_length (fun r' => r' = r ∧ i_Rel (k + 5) u v) v v1) u v1 := by
  obtain ⟨c, e, lv, lab, len, lat, tim, val, slab, slen, slat, stim, sval, tv, ts, rfl, rfl, I, J⟩ := I
  have hc := I.1
  unfold wpX_length wpY_length
  rcases sm_iss v1 I.1 with ⟨bx, bY⟩ | ⟨s, hs, rfl, gx, gy⟩
  · refine bx _ _ _ _ _ _ _ _ _ _ _ _ _ _ _ (br_t rfl ?_)
    exact bY _ _ _ _ _ _ _ _ _ _ _ _ (br_t rfl ⟨rfl, sm_R I J⟩)
  · have vs : vp_in (nI s) 8 := vp_in_nI (by omega) (by omega)
    refine gx _ _ _ _ _ _ _ _ _ _ _ _ _ _ _ (br_f (by decide) ⟨vs, ?_⟩)
    exact gy _ _ _ _ _ _ _ _ _ _ _ _ (br_f (by decide) ⟨vs, rfl, sm_R I J⟩)
theorem i_vc_level {k : Nat} {u : SX} {v : SY} (I : i_Rel k u v) (hk : k + 5 ≤ 2560) (v1 : Int32) : wpX_level (fun r u' => wpY_level (fun r' => r' = r ∧ i_Rel (k + 5) u' v) v v1) u v1 := by
  obtain ⟨c, e, lv, lab, len, lat, tim, val, slab, slen, slat, stim, sval, tv, ts, rfl, rfl, I, J⟩ := I
  by_cases h0 : v1 < 0
  · exact br_t h0 (br_t h0 ⟨rfl, sm_R I J⟩)
  · by_cases h2 : v1 ≤ 2
    · exact br_f h0 (br_t h2 (br_f h0 (br_f (Int32.not_lt.mpr h2) ⟨rfl, sm_R I J⟩)))
    · exact br_f h0 (br_f h2 (br_f h0 (br_t (Int32.not_le.mp h2) ⟨rfl, sm_R I J⟩)))
theorem sm_xmg {c m : Nat} (I : sm_I c lab len lat tim val) (hm : m ≤ 728) {post : Int32 → Prop} (h : post (sm_mg lab m c)) : ∀ d s, s + d = c → wX_matching_16 post (nI m) (nI c) sv lv lab len lat tim val slab slen slat stim sval tv ts (d + 1) (sm_mg lab m s) (nI s) := by
  have hc := I.1
  intro d
  induction d with
  | zero =>
    intro s hs
    obtain rfl : s = c := by omega
    exact br_t (nI_le (by omega) (by omega)) h
  | succ d ih =>
    intro s hs
    obtain ⟨b, hb, eb⟩ := I.2.1 s (by omega)
    have y := ih (s + 1) (by omega)
    rw [sm_mg, eb, nI_clamp (by omega)] at y
    refine br_f (nI_ge (by omega) (by omega)) (sm_xm (by omega) hm hb eb (sm_bb (fun z => nm_r (nI_1 s) ?_) (fun z => nm_e (nm_r (nI_1 s) ?_))))
    · rw [z] at y; exact y
    · rw [if_pos z] at y; exact y
theorem sm_ymg {c m : Nat} (I : sm_I c lab len lat tim val) (hm : m ≤ 728) {post : Int32 → Prop} (h : post (sm_mg lab m c)) : ∀ d s, s + d = c → wY_matching_16 post (nI m) (nI c) sv lab len lat tim val slab slen slat stim sval (d + 1) (sm_mg lab m s) (nI s) := by
  have hc := I.1
  intro d
  induction d with
  | zero =>
    intro s hs
    obtain rfl : s = c := by omega
    exact br_t (nI_le (by omega) (by omega)) h
  | succ d ih =>
    intro s hs
    obtain ⟨b, hb, eb⟩ := I.2.1 s (by omega)
    have y := ih (s + 1) (by omega)
    rw [sm_mg, eb, nI_clamp (by omega)] at y
    refine br_f (nI_ge (by omega) (by omega)) (sm_ym (by omega) hm hb eb (sm_bb (fun z => nm_r (nI_1 s) ?_) (fun z => nm_e (nm_r (nI_1 s) ?_))))
    · rw [z] at y; exact y
    · rw [if_pos z] at y; exact y
theorem i_vc_matching {k : Nat} {u : SX} {v : SY} (I : i_Rel k u v) (hk : k + 5 ≤ 2560) (v1 : Int32) : wpX_matching (fun r => wpY_matching (fun r' => r' = r ∧ i_Rel (k + 5) u v) v v1) u v1 := by
  obtain ⟨c, e, lv, lab, len, lat, tim, val, slab, slen, slat, stim, sval, tv, ts, rfl, rfl, I, J⟩ := I
  unfold wpX_matching wpY_matching
  rcases sm_ism v1 with ⟨bx, bY⟩ | ⟨m, hm, rfl, gx, gy⟩
  · exact bx _ _ (br_t rfl (bY _ _ (br_t rfl ⟨rfl, sm_R I J⟩)))
  · refine gx _ _ (br_f (by decide) ⟨_, sm_xmg I hm ?_ c 0 (by omega)⟩)
    exact gy _ _ (br_f (by decide) ⟨_, sm_ymg I hm ⟨rfl, sm_R I J⟩ c 0 (by omega)⟩)
theorem sm_pl {a : Nat} (h : a < 2 ^ 30) : nI a - 1 < nI a := by
  rw [Int32.lt_iff_toInt_lt, show nI a - 1 = nI a - nI 1 from rfl, pk_sub_toInt h (by omega), nI_toInt (by omega)]
  omega
theorem sm_m1 (x : Int32) : x + (-1) = x - 1 := (Int32.sub_eq_add_neg x 1).symm
theorem sm_xat {s l q : Nat} {x : Int32} (hs : s < 8) (hl : l ≤ 32) (a1 : ∀ i j, i < j → j < l → tim (32 * s + i) < tim (32 * s + j)) (hq : q ≤ l) (hm : ∀ i, i < l → (¬ x < tim (32 * s + i) ↔ i < q)) {post : Int32 → Prop} (h : post (sm_at tim val x s l)) : ∀ d, q + d ≤ l → wX_at_37 post x (nI (32 * s)) sc sv lv lab len lat tim val slab slen slat stim sval tv ts (d + 1) (nI (32 * s + (q + d)) - 1) := by
  have fl : sm_at tim val x s l = sm_at tim val x s q := by
    have z := sm_fo_flat (fun _ v => v) (-10003) (fun i => decide (¬ x < tim (32 * s + i)) && decide (¬ tim (32 * s + i) ≤ x - 50)) (fun i => val (32 * s + i)) q (l - q) (fun j h1 h2 => by
      have w : ¬ ¬ x < tim (32 * s + j) := fun z => absurd ((hm j (by omega)).mp z) (by omega)
      rw [decide_eq_false w, Bool.false_and])
    rw [show q + (l - q) = l from by omega] at z
    exact z
  rw [fl] at h
  intro d
  induction d with
  | zero =>
    intro hd
    cases q with
    | zero => exact br_t (sm_pl (by omega)) h
    | succ q =>
      rw [show 32 * s + (q + 1 + 0) = 32 * s + q + 1 from rfl, nI_pred]
      have ci : (nI (32 * s + q)).toNatClampNeg = 32 * s + q := nI_clamp (by omega)
      have vi : vp_in (nI (32 * s + q)) 256 := vp_in_nI (by omega) (by omega)
      have w := (hm q (by omega)).mpr (by omega)
      refine br_f (nI_nlt (by omega) (by omega)) ⟨vi, ?_⟩
      rw [ci]
      refine br_f w ⟨vi, br_c (fun g => ?_) (fun g => ⟨vi, ?_⟩)⟩
      · have z := sm_fo_flat (fun _ v => v) (-10003) (fun i => decide (¬ x < tim (32 * s + i)) && decide (¬ tim (32 * s + i) ≤ x - 50)) (fun i => val (32 * s + i)) 0 (q + 1) (fun j h1 h2 => by
          have w2 := sm_mono a1 (i := j) (j := q) (by omega) (by omega)
          rw [decide_eq_false (not_not_intro (Int32.le_trans w2 g)), Bool.and_false])
        rw [show 0 + (q + 1) = q + 1 from by omega] at z
        have z' : sm_at tim val x s (q + 1) = -10003 := z
        rw [z'] at h
        exact h
      · have z : sm_at tim val x s (q + 1) = val (32 * s + q) := sm_fo_t (by show (decide (¬ x < tim (32 * s + q)) && decide (¬ tim (32 * s + q) ≤ x - 50)) = true; rw [decide_eq_true w, decide_eq_true g]; rfl)
        rw [z] at h
        exact h
  | succ d ih =>
    intro hd
    have y := ih (by omega)
    rw [show 32 * s + (q + (d + 1)) = 32 * s + (q + d) + 1 from rfl, nI_pred]
    have ci : (nI (32 * s + (q + d))).toNatClampNeg = 32 * s + (q + d) := nI_clamp (by omega)
    have vi : vp_in (nI (32 * s + (q + d))) 256 := vp_in_nI (by omega) (by omega)
    have w : x < tim (32 * s + (q + d)) := by
      by_cases w : x < tim (32 * s + (q + d))
      · exact w
      · exact absurd ((hm (q + d) (by omega)).mp w) (by omega)
    refine br_f (nI_nlt (by omega) (by omega)) ⟨vi, ?_⟩
    rw [ci]
    exact br_t w (nm_r (sm_m1 _) y)
theorem sm_yat {s l : Nat} {x : Int32} (hs : s < 8) (hl : l ≤ 32) (el : len s = nI l) {post : Int32 → Prop} (h : post (sm_at tim val x s l)) : ∀ d i, i + d = l → wY_at_33 post (nI s) x sc sv lab len lat tim val slab slen slat stim sval (d + 1) (sm_at tim val x s i) (nI (32 * s + i)) := by
  have vs : vp_in (nI s) 8 := vp_in_nI hs (by omega)
  have ee : 32 * nI s + len (nI s).toNatClampNeg = nI (32 * s + l) := by
    rw [nI_clamp (by omega), el, show (32 : Int32) * nI s = nI (32 * s) from pk_mul 32 s, nI_add]
  intro d
  induction d with
  | zero =>
    intro i hi
    obtain rfl : i = l := by omega
    refine ⟨vs, ?_⟩
    rw [ee]
    exact br_t (nI_le (by omega) (by omega)) h
  | succ d ih =>
    intro i hi
    have y := ih (i + 1) (by omega)
    have ci : (nI (32 * s + i)).toNatClampNeg = 32 * s + i := nI_clamp (by omega)
    have vi : vp_in (nI (32 * s + i)) 256 := vp_in_nI (by omega) (by omega)
    refine ⟨vs, ?_⟩
    rw [ee]
    refine br_f (nI_ge (by omega) (by omega)) ⟨vi, ?_⟩
    rw [ci]
    refine br_c (fun g => nm_r (nI_1 _) ?_) (fun g => ⟨vi, br_c (fun g2 => nm_r (nI_1 _) ?_) (fun g2 => ⟨vi, nm_e (nm_r (nI_1 _) ?_)⟩)⟩)
    · have z : sm_at tim val x s (i + 1) = sm_at tim val x s i := sm_fo_f (by show (decide (¬ x < tim (32 * s + i)) && decide (¬ tim (32 * s + i) ≤ x - 50)) = false; rw [decide_eq_false (not_not_intro g), Bool.false_and])
      rw [z] at y; exact y
    · have z : sm_at tim val x s (i + 1) = sm_at tim val x s i := sm_fo_f (by show (decide (¬ x < tim (32 * s + i)) && decide (¬ tim (32 * s + i) ≤ x - 50)) = false; rw [decide_eq_false (not_not_intro g2), Bool.and_false])
      rw [z] at y; exact y
    · have z : sm_at tim val x s (i + 1) = val (32 * s + i) := sm_fo_t (by show (decide (¬ x < tim (32 * s + i)) && decide (¬ tim (32 * s + i) ≤ x - 50)) = true; rw [decide_eq_true g, decide_eq_true g2]; rfl)
      rw [z] at y; exact y
theorem i_vc_at {k : Nat} {u : SX} {v : SY} (I : i_Rel k u v) (hk : k + 5 ≤ 2560) (v1 : Int32) (v2 : Int32) : wpX_at (fun r => wpY_at (fun r' => r' = r ∧ i_Rel (k + 5) u v) v v1 v2) u v1 v2 := by
  obtain ⟨c, e, lv, lab, len, lat, tim, val, slab, slen, slat, stim, sval, tv, ts, rfl, rfl, I, J⟩ := I
  have hc := I.1
  unfold wpX_at wpY_at
  rcases sm_iss v1 I.1 with ⟨bx, bY⟩ | ⟨s, hs, rfl, gx, gy⟩
  · refine bx _ _ _ _ _ _ _ _ _ _ _ _ _ _ _ (br_t rfl ?_)
    exact bY _ _ _ _ _ _ _ _ _ _ _ _ (br_t rfl ⟨rfl, sm_R I J⟩)
  refine gx _ _ _ _ _ _ _ _ _ _ _ _ _ _ _ (br_f (by decide) ?_)
  by_cases h0 : v2 < 0
  · refine br_t h0 (br_t rfl ?_)
    exact gy _ _ _ _ _ _ _ _ _ _ _ _ (br_f (by decide) (br_t h0 ⟨rfl, sm_R I J⟩))
  by_cases h1 : 999 < v2
  · refine br_f h0 (br_t h1 (br_t rfl ?_))
    exact gy _ _ _ _ _ _ _ _ _ _ _ _ (br_f (by decide) (br_f h0 (br_f (Int32.not_le.mpr h1) ⟨rfl, sm_R I J⟩)))
  obtain ⟨l, hl, el, a1, a2, a3⟩ := I.2.2 s hs
  have vs : vp_in (nI s) 8 := vp_in_nI (by omega) (by omega)
  obtain ⟨q, hq, hm⟩ := sm_pre (fun i => ¬ v2 < tim (32 * s + i)) l (fun i j hij hj z y => z (Int32.lt_trans y (a1 i j hij hj)))
  refine br_f h0 (br_f h1 (br_f (by decide) (nm_r (e' := nI (32 * s)) (by rw [Nat.mul_comm]; exact pk_mul s 32) ⟨vs, nm_r (e' := nI (32 * s + (q + (l - q))) - 1) ?_ ⟨_, sm_xat (by omega) hl a1 hq hm ?_ (l - q) (by omega)⟩⟩)))
  · rw [nI_clamp (by omega), el, nI_add, show q + (l - q) = l from by omega]
  · refine gy _ _ _ _ _ _ _ _ _ _ _ _ (br_f (by decide) (br_f h0 (br_t (Int32.not_lt.mp h1) (nm_r (e' := nI (32 * s + 0)) (pk_mul 32 s) ⟨_, sm_yat (by omega) hl el ⟨rfl, sm_R I J⟩ l 0 (by omega)⟩))))
end
