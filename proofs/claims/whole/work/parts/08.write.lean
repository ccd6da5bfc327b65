theorem sm_I_series {c b : Nat} {lab len lat tim val : Nat → Int32} (I : sm_I c lab len lat tim val) (hc : c < 8) (hb : b ≤ 63) : sm_I (c + 1) (upd lab c (nI b)) (upd len c 0) (upd lat c (-1)) tim val := by
  refine ⟨by omega, fun s hs => ?_, fun s hs => ?_⟩
  · by_cases e : s = c
    · rw [e]; exact ⟨b, hb, pk_us⟩
    · rw [pk_un e]; exact I.2.1 s (by omega)
  · by_cases e : s = c
    · rw [e]
      exact ⟨0, by omega, pk_us, fun i j _ hj => absurd hj (Nat.not_lt_zero j), fun i hi => absurd hi (Nat.not_lt_zero i), fun i hi => absurd hi (Nat.not_lt_zero i)⟩
    · rw [pk_un e, pk_un e]; exact I.2.2 s (by omega)
theorem sm_I_append {c s l : Nat} {x y : Int32} {lab len lat tim val : Nat → Int32} (I : sm_I c lab len lat tim val) (hs : s < c) (hl : l < 32) (el : len s = nI l) (hx : lat s < x) (hy : -1000 ≤ y ∧ y ≤ 1000) : sm_I c lab (upd len s (nI (l + 1))) (upd lat s x) (upd tim (32 * s + l) x) (upd val (32 * s + l) y) := by
  refine ⟨I.1, I.2.1, fun r hr => ?_⟩
  have hc := I.1
  obtain ⟨l', hl', el', a1, a2, a3⟩ := I.2.2 r hr
  by_cases e : r = s
  · subst e
    have ee : l' = l := by
      rw [el] at el'
      exact ((nI_eq (by omega) (by omega)).mp el').symm
    subst ee
    refine ⟨l' + 1, by omega, pk_us, fun i j hi hj => ?_, fun i hi => ?_, fun i hi => ?_⟩
    · rw [pk_un (j := 32 * r + i) (by omega)]
      by_cases q : j = l'
      · rw [q, pk_us]
        exact Int32.lt_of_le_of_lt (a2 i (by omega)) hx
      · rw [pk_un (j := 32 * r + j) (by omega)]
        exact a1 i j hi (by omega)
    · rw [pk_us (f := lat)]
      by_cases q : i = l'
      · rw [q, pk_us]; exact Int32.le_refl _
      · rw [pk_un (j := 32 * r + i) (by omega)]
        exact Int32.le_of_lt (Int32.lt_of_le_of_lt (a2 i (by omega)) hx)
    · by_cases q : i = l'
      · rw [q, pk_us]; exact hy
      · rw [pk_un (j := 32 * r + i) (by omega)]
        exact a3 i (by omega)
  · refine ⟨l', hl', by rw [pk_un e]; exact el', fun i j hi hj => ?_, fun i hi => ?_, fun i hi => ?_⟩
    · rw [pk_un (j := 32 * r + i) (by omega), pk_un (j := 32 * r + j) (by omega)]; exact a1 i j hi hj
    · rw [pk_un (j := 32 * r + i) (by omega), pk_un e]; exact a2 i hi
    · rw [pk_un (j := 32 * r + i) (by omega)]; exact a3 i hi
section
variable {sc sv lv : Int32} {lab len lat tim val slab slen slat stim sval tv ts : Nat → Int32}
theorem sm_xha0 {c : Nat} {x : Int32} (hc : c ≤ 8) {post : Int32 → Prop} (h : post 0) : ∀ d s, s + d = c → (∀ r, s ≤ r → r < c → ¬ lab r = x) → wX_hasLabels_2 post x (nI c) sv lv lab len lat tim val slab slen slat stim sval tv ts (d + 1) (nI s) := by
  intro d
  induction d with
  | zero =>
    intro s hs _
    obtain rfl : s = c := by omega
    exact br_t (nI_le (by omega) (by omega)) h
  | succ d ih =>
    intro s hs w
    refine br_f (nI_ge (by omega) (by omega)) ⟨vp_in_nI (by omega) (by omega), ?_⟩
    rw [nI_clamp (by omega)]
    exact br_f (w s (by omega) (by omega)) (nm_r (nI_1 s) (ih (s + 1) (by omega) (fun r h1 h2 => w r (by omega) h2)))
theorem sm_xha1 {c : Nat} {x : Int32} (hc : c ≤ 8) {post : Int32 → Prop} (h : post 1) : ∀ d s, s + d = c → (∃ r, s ≤ r ∧ r < c ∧ lab r = x) → wX_hasLabels_2 post x (nI c) sv lv lab len lat tim val slab slen slat stim sval tv ts (d + 1) (nI s) := by
  intro d
  induction d with
  | zero =>
    intro s hs ⟨r, h1, h2, _⟩
    exact absurd h1 (by omega)
  | succ d ih =>
    intro s hs ⟨r, h1, h2, h3⟩
    refine br_f (nI_ge (by omega) (by omega)) ⟨vp_in_nI (by omega) (by omega), ?_⟩
    rw [nI_clamp (by omega)]
    refine br_c (fun _ => h) (fun g => nm_r (nI_1 s) (ih (s + 1) (by omega) ⟨r, ?_, h2, h3⟩))
    by_cases e : r = s
    · rw [e] at h3; exact absurd h3 g
    · omega
theorem sm_yha1 {c : Nat} {x : Int32} (hc : c ≤ 8) {post : Int32 → SY → Prop} (h : post (-10002) (nI c, sv, lab, len, lat, tim, val, slab, slen, slat, stim, sval)) : ∀ d s, s + d = c → (∃ r, s ≤ r ∧ r < c ∧ lab r = x) → wY_series_16 post x (nI c) sv lab len lat tim val slab slen slat stim sval (d + 1) (nI s) := by
  intro d
  induction d with
  | zero =>
    intro s hs ⟨r, h1, h2, _⟩
    exact absurd h1 (by omega)
  | succ d ih =>
    intro s hs ⟨r, h1, h2, h3⟩
    refine br_f (nI_ge (by omega) (by omega)) ⟨vp_in_nI (by omega) (by omega), ?_⟩
    rw [nI_clamp (by omega)]
    refine br_c (fun _ => h) (fun g => nm_r (nI_1 s) (ih (s + 1) (by omega) ⟨r, ?_, h2, h3⟩))
    by_cases e : r = s
    · rw [e] at h3; exact absurd h3 g
    · omega
theorem sm_yha0 {c : Nat} {x : Int32} (hc : c ≤ 8) {post : Int32 → SY → Prop} (h8 : c = 8 → post (-10001) (nI c, sv, lab, len, lat, tim, val, slab, slen, slat, stim, sval)) (h : c < 8 → post (nI c) (nI (c + 1), sv, upd lab c x, upd len c 0, upd lat c (-1), tim, val, slab, slen, slat, stim, sval)) : ∀ d s, s + d = c → (∀ r, s ≤ r → r < c → ¬ lab r = x) → wY_series_16 post x (nI c) sv lab len lat tim val slab slen slat stim sval (d + 1) (nI s) := by
  intro d
  induction d with
  | zero =>
    intro s hs _
    obtain rfl : s = c := by omega
    refine br_t (nI_le (by omega) (by omega)) (pk_eq s 8 h8 (fun g => ?_))
    have vs : vp_in (nI s) 8 := vp_in_nI (by omega) (by omega)
    rw [nI_clamp (by omega)]
    refine ⟨vs, nm_e ⟨vs, nm_e ⟨vs, nm_e (nm_r (nI_1 s) ?_)⟩⟩⟩
    rw [nI_pred]
    exact h (by omega)
  | succ d ih =>
    intro s hs w
    refine br_f (nI_ge (by omega) (by omega)) ⟨vp_in_nI (by omega) (by omega), ?_⟩
    rw [nI_clamp (n := s) (by omega)]
    exact br_f (w s (by omega) (by omega)) (nm_r (nI_1 s) (ih (s + 1) (by omega) (fun r h1 h2 => w r (by omega) h2)))
theorem i_vc_series {k : Nat} {u : SX} {v : SY} (I : i_Rel k u v) (hk : k + 5 ≤ 2560) (v1 : Int32) : wpX_series (fun r u' => wpY_series (fun r' v' => r' = r ∧ i_Rel (k + 5) u' v') v v1) u v1 := by
  obtain ⟨c, e, lv, lab, len, lat, tim, val, slab, slen, slat, stim, sval, tv, ts, rfl, rfl, I, J⟩ := I
  have hc := I.1
  by_cases h0 : v1 < 0
  · exact br_t h0 (br_t h0 ⟨rfl, sm_R I J⟩)
  by_cases h1 : v1 ≤ 63
  · obtain ⟨b, hb, eb⟩ := nI_of2 (x := v1) (M := 63) (n := 63) (by decide) h0 h1
    by_cases w : ∃ r, 0 ≤ r ∧ r < c ∧ lab r = v1
    · refine br_f h0 (br_t h1 ⟨_, sm_xha1 hc ?_ c 0 (by omega) w⟩)
      refine br_f (by decide) ?_
      exact br_f h0 (br_t h1 ⟨_, sm_yha1 hc ⟨rfl, sm_R I J⟩ c 0 (by omega) w⟩)
    · have w' : ∀ r, 0 ≤ r → r < c → ¬ lab r = v1 := fun r q1 q2 q3 => w ⟨r, q1, q2, q3⟩
      refine br_f h0 (br_t h1 ⟨_, sm_xha0 hc ?_ c 0 (by omega) w'⟩)
      refine br_t rfl (pk_lt c 8 (fun q => ?_) (fun q => ?_))
      · have vs : vp_in (nI c) 8 := vp_in_nI q (by omega)
        rw [nI_clamp (by omega)]
        refine ⟨vs, nm_e ⟨vs, nm_e ⟨vs, nm_e (nm_r (nI_1 c) ?_)⟩⟩⟩
        refine br_f h0 (br_t h1 ⟨_, sm_yha0 hc (fun z => absurd z (by omega)) (fun _ => ⟨rfl, ?_⟩) c 0 (by omega) w'⟩)
        rw [eb]
        exact sm_R (sm_I_series I q hb) J
      · exact br_f h0 (br_t h1 ⟨_, sm_yha0 hc (fun _ => ⟨rfl, sm_R I J⟩) (fun z => absurd z (by omega)) c 0 (by omega) w'⟩)
  · exact br_f h0 (br_f h1 (br_f h0 (br_f h1 ⟨rfl, sm_R I J⟩)))
theorem i_vc_append {k : Nat} {u : SX} {v : SY} (I : i_Rel k u v) (hk : k + 5 ≤ 2560) (v1 : Int32) (v2 : Int32) (v3 : Int32) : wpX_append (fun r u' => wpY_append (fun r' v' => r' = r ∧ i_Rel (k + 5) u' v') v v1 v2 v3) u v1 v2 v3 := by
  obtain ⟨c, e, lv, lab, len, lat, tim, val, slab, slen, slat, stim, sval, tv, ts, rfl, rfl, I, J⟩ := I
  have hc := I.1
  unfold wpX_append wpY_append
  rcases sm_iss v1 I.1 with ⟨bx, bY⟩ | ⟨s, hs, rfl, gx, gy⟩
  · refine bx _ _ _ _ _ _ _ _ _ _ _ _ _ _ _ (br_t rfl ?_)
    exact bY _ _ _ _ _ _ _ _ _ _ _ _ (br_t rfl ⟨rfl, sm_R I J⟩)
  refine gx _ _ _ _ _ _ _ _ _ _ _ _ _ _ _ (br_f (by decide) ?_)
  by_cases h0 : v2 < 0
  · refine br_t h0 (br_t rfl ?_)
    exact gy _ _ _ _ _ _ _ _ _ _ _ _ (br_f (by decide) (br_t h0 ⟨rfl, sm_R I J⟩))
  by_cases h1 : 999 < v2
  · refine br_f h0 (br_t h1 (br_t rfl ?_))
    exact gy _ _ _ _ _ _ _ _ _ _ _ _ (br_f (by decide) (br_f h0 (br_t h1 ⟨rfl, sm_R I J⟩)))
  refine br_f h0 (br_f h1 (br_f (by decide) ?_))
  by_cases h2 : v3 < -1000
  · refine br_t h2 ?_
    exact gy _ _ _ _ _ _ _ _ _ _ _ _ (br_f (by decide) (br_f h0 (br_f h1 (br_t h2 ⟨rfl, sm_R I J⟩))))
  by_cases h3 : v3 ≤ 1000
  · obtain ⟨l, hl, el, a1, a2, a3⟩ := I.2.2 s hs
    have vs : vp_in (nI s) 8 := vp_in_nI (by omega) (by omega)
    have cs : (nI s).toNatClampNeg = s := nI_clamp (by omega)
    have e1 : nI s * 32 + nI l = nI (32 * s + l) := by
      rw [show nI s * 32 = nI (s * 32) from pk_mul s 32, nI_add, Nat.mul_comm]
    have e2 : (32 : Int32) * nI s + nI l = nI (32 * s + l) := by
      rw [show (32 : Int32) * nI s = nI (32 * s) from pk_mul 32 s, nI_add]
    have ci : l < 32 → (nI (32 * s + l)).toNatClampNeg = 32 * s + l := fun _ => nI_clamp (by omega)
    refine br_f h2 (br_t h3 ⟨vs, ?_⟩)
    rw [cs]
    by_cases h4 : lat s < v2
    · refine br_t h4 ⟨vs, nm_r el (pk_lt l 32 (fun q => ?_) (fun q => ?_))⟩
      · have vi : vp_in (nI (32 * s + l)) 256 := vp_in_nI (by omega) (by omega)
        refine nm_r e1 ⟨vi, ?_⟩
        rw [ci q]
        refine nm_e ⟨vi, nm_e ⟨vs, nm_e ⟨vs, nm_e ?_⟩⟩⟩
        refine gy _ _ _ _ _ _ _ _ _ _ _ _ (br_f (by decide) (br_f h0 (br_f h1 (br_f h2 (br_t h3 ⟨vs, ?_⟩)))))
        rw [el, e2, ci q]
        refine br_t h4 ⟨vs, pk_eq l 32 (fun z => absurd z (by omega)) (fun _ => ⟨vs, vi, nm_e ⟨vs, vi, nm_e ⟨vs, nm_e ⟨vs, vs, nm_e ⟨vs, pk_us, ?_⟩⟩⟩⟩⟩)⟩
        rw [nI_1]
        exact sm_R (sm_I_append I hs q el h4 ⟨Int32.not_lt.mp h2, h3⟩) J
      · refine gy _ _ _ _ _ _ _ _ _ _ _ _ (br_f (by decide) (br_f h0 (br_f h1 (br_f h2 (br_t h3 ⟨vs, ?_⟩)))))
        rw [el]
        exact br_t h4 ⟨vs, pk_eq l 32 (fun _ => ⟨rfl, sm_R I J⟩) (fun z => absurd z (by omega))⟩
    · refine br_f h4 ?_
      refine gy _ _ _ _ _ _ _ _ _ _ _ _ (br_f (by decide) (br_f h0 (br_f h1 (br_f h2 (br_t h3 ⟨vs, ?_⟩)))))
      exact br_f h4 ⟨rfl, sm_R I J⟩
  · refine br_f h2 (br_f h3 ?_)
    exact gy _ _ _ _ _ _ _ _ _ _ _ _ (br_f (by decide) (br_f h0 (br_f h1 (br_f h2 (br_f h3 ⟨rfl, sm_R I J⟩)))))
end
