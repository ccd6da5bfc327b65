def sm_st (a b : Int32) : Int32 := if b < a then (if b ≤ 0 then 0 else b) else b - a
def sm_gy (T : Nat → Bool) (val : Nat → Int32) : Nat → Int32
  | 0 => 0
  | k + 1 => if 0 < k % 32 ∧ T (k - 1) = true ∧ T k = true then sm_gy T val k + sm_st (val (k - 1)) (val k) else sm_gy T val k
def sm_gx (tv ts : Nat → Int32) : Nat → Int32
  | 0 => 0
  | i + 1 => if 0 < i ∧ ts i = ts (i - 1) then sm_gx tv ts i + sm_st (tv (i - 1)) (tv i) else sm_gx tv ts i
theorem sm_gy_t {T : Nat → Bool} {val : Nat → Int32} {k : Nat} (h : 0 < k % 32 ∧ T (k - 1) = true ∧ T k = true) : sm_gy T val (k + 1) = sm_gy T val k + sm_st (val (k - 1)) (val k) := if_pos h
theorem sm_gy_f {T : Nat → Bool} {val : Nat → Int32} {k : Nat} (h : ¬ (0 < k % 32 ∧ T (k - 1) = true ∧ T k = true)) : sm_gy T val (k + 1) = sm_gy T val k := if_neg h
theorem sm_gx_t {tv ts : Nat → Int32} {i : Nat} (h : 0 < i ∧ ts i = ts (i - 1)) : sm_gx tv ts (i + 1) = sm_gx tv ts i + sm_st (tv (i - 1)) (tv i) := if_pos h
theorem sm_gx_f {tv ts : Nat → Int32} {i : Nat} (h : ¬ (0 < i ∧ ts i = ts (i - 1))) : sm_gx tv ts (i + 1) = sm_gx tv ts i := if_neg h
theorem sm_mono {l s : Nat} {tim : Nat → Int32} (a1 : ∀ i j, i < j → j < l → tim (32 * s + i) < tim (32 * s + j)) {i j : Nat} (h : i ≤ j) (hj : j < l) : tim (32 * s + i) ≤ tim (32 * s + j) := by
  by_cases e : i = j
  · rw [e]; exact Int32.le_refl _
  · exact Int32.le_of_lt (a1 i j (by omega) hj)
theorem sm_T_mid {c m i j k : Nat} {t u : Int32} {lab len lat tim val : Nat → Int32} (I : sm_I c lab len lat tim val) (hj : (sm_T c m t u lab len tim) j = true) (hk : (sm_T c m t u lab len tim) k = true) (e : j / 32 = k / 32) (h1 : j ≤ i) (h2 : i ≤ k) : (sm_T c m t u lab len tim) i = true := by
  simp only [sm_T, Bool.and_eq_true, decide_eq_true_eq] at hj hk ⊢
  obtain ⟨l, hl, el, a1, a2, a3⟩ := I.2.2 (k / 32) hk.1
  have ei : i / 32 = k / 32 := by omega
  rw [e] at hj
  rw [ei]
  rw [el, nI_clamp (by omega)] at hj hk ⊢
  have w1 := sm_mono a1 (i := j % 32) (j := i % 32) (by omega) (by omega)
  have w2 := sm_mono a1 (i := i % 32) (j := k % 32) (by omega) (by omega)
  rw [show 32 * (k / 32) + j % 32 = j from by omega, show 32 * (k / 32) + i % 32 = i from by omega] at w1
  rw [show 32 * (k / 32) + k % 32 = k from by omega, show 32 * (k / 32) + i % 32 = i from by omega] at w2
  refine ⟨hk.1, by omega, fun z => ?_, fun z => ?_, hk.2.2.2.2⟩
  · exact hj.2.2.1 (Int32.lt_of_le_of_lt w1 z)
  · exact hk.2.2.2.1 (Int32.lt_of_lt_of_le z w2)
theorem sm_grow {c m : Nat} {t u : Int32} {lab len lat tim val tv ts : Nat → Int32} (I : sm_I c lab len lat tim val) (g : sm_G (sm_T c m t u lab len tim) val tv ts 256) : ∀ k, k ≤ 256 → sm_gx tv ts (sm_cn (sm_T c m t u lab len tim) k) = sm_gy (sm_T c m t u lab len tim) val k := by
  intro k
  induction k with
  | zero => intro _; rfl
  | succ k ih =>
    intro hk
    have e := ih (by omega)
    have gk := g k (by omega)
    cases hT : (sm_T c m t u lab len tim) k
    · rw [sm_cn_f hT, e, sm_gy_f (fun z => by rw [hT] at z; exact absurd z.2.2 (by decide))]
    · rw [sm_cn_t hT]
      by_cases h0 : sm_cn (sm_T c m t u lab len tim) k = 0
      · rw [sm_gx_f (by omega), e, sm_gy_f]
        rintro ⟨z1, z2, _⟩
        have w := sm_cn_t z2
        rw [show k - 1 + 1 = k from by omega] at w
        omega
      · obtain ⟨j, hj, hTj, ej⟩ := sm_cn_ivt (sm_T c m t u lab len tim) (sm_cn (sm_T c m t u lab len tim) k - 1) k (by omega)
        have gj := g j (by omega) hTj
        rw [ej] at gj
        have none : ∀ i, j < i → i < k → (sm_T c m t u lab len tim) i = true → False := by
          intro i h1 h2 h3
          have w1 := sm_cn_mono (sm_T c m t u lab len tim) (j + 1) (i - (j + 1))
          rw [show j + 1 + (i - (j + 1)) = i from by omega, sm_cn_t hTj] at w1
          have w2 := sm_cn_mono (sm_T c m t u lab len tim) (i + 1) (k - (i + 1))
          rw [show i + 1 + (k - (i + 1)) = k from by omega, sm_cn_t h3] at w2
          omega
        by_cases hb : j / 32 = k / 32
        · have ejk : j = k - 1 := by
            by_cases q : j = k - 1
            · exact q
            · exact (none (k - 1) (by omega) (by omega) (sm_T_mid I hTj hT hb (by omega) (by omega))).elim
          rw [sm_gx_t ⟨by omega, by rw [(gk hT).2, gj.2, hb]⟩, e, (gk hT).1, gj.1, sm_gy_t ⟨by omega, by rw [← ejk]; exact hTj, hT⟩, ejk]
        · rw [sm_gx_f, e, sm_gy_f]
          · rintro ⟨z1, z2, _⟩
            by_cases q : j = k - 1
            · omega
            · exact none (k - 1) (by omega) (by omega) z2
          · rintro ⟨_, z⟩
            rw [(gk hT).2, gj.2] at z
            have := (nI_eq (by omega) (by omega)).mp z
            omega
section
variable {sc sv lv : Int32} {lab len lat tim val slab slen slat stim sval tv ts : Nat → Int32}
theorem sm_step (a b : Int32) {post : Int32 → Prop} (h : post (sm_st a b)) : wpX_step post (sc, sv, lv, lab, len, lat, tim, val, slab, slen, slat, stim, sval, tv, ts) a b := by
  refine br_c (fun q => br_c (fun q2 => ?_) (fun q2 => ?_)) (fun q => ?_)
  · rw [sm_st, if_pos q, if_pos q2] at h; exact h
  · rw [sm_st, if_pos q, if_neg q2] at h; exact h
  · rw [sm_st, if_neg q] at h; exact h
theorem sm_xgr {N : Nat} (hN : N ≤ 256) {post : Int32 → SX → Prop} (h : post (sm_gx tv ts N) (sc, sv, lv, lab, len, lat, tim, val, slab, slen, slat, stim, sval, tv, ts)) : ∀ d j, j + 1 + d = N → wX_growth_25 post (nI N) sc sv lv lab len lat tim val slab slen slat stim sval tv ts (d + 1) (sm_gx tv ts (j + 1)) (nI (j + 1)) := by
  intro d
  induction d with
  | zero =>
    intro j hj
    obtain rfl : j + 1 = N := by omega
    exact br_t (nI_le (by omega) (by omega)) h
  | succ d ih =>
    intro j hj
    have y := ih (j + 1) (by omega)
    have vj : vp_in (nI (j + 1)) 256 := vp_in_nI (by omega) (by omega)
    have vp : vp_in (nI j) 256 := vp_in_nI (by omega) (by omega)
    have cj : (nI (j + 1)).toNatClampNeg = j + 1 := nI_clamp (by omega)
    have cp : (nI j).toNatClampNeg = j := nI_clamp (by omega)
    refine br_f (nI_ge (by omega) (by omega)) ?_
    rw [nI_pred, cj, cp]
    refine ⟨vj, vp, br_c (fun q => ⟨vp, vj, sm_step _ _ (nm_e (nm_r (nI_1 _) ?_))⟩) (fun q => nm_r (nI_1 _) ?_)⟩
    · rw [sm_gx_t ⟨by omega, q⟩] at y; exact y
    · rw [sm_gx_f (fun z => q z.2)] at y; exact y
theorem sm_ygr {c m : Nat} {t u : Int32} (I : sm_I c lab len lat tim val) (hm : m ≤ 728) {post : Int32 → Prop} (h : post (sm_gy (sm_T c m t u lab len tim) val 256)) : ∀ d j, j + 1 + d = 256 → wY_growth_16 post (nI m) t u (nI c) sv lab len lat tim val slab slen slat stim sval (d + 1) (sm_gy (sm_T c m t u lab len tim) val (j + 1)) (nI (j + 1)) := by
  intro d
  induction d with
  | zero =>
    intro j hj
    obtain rfl : j = 255 := by omega
    exact br_t (nI_le (a := 256) (b := 256) (by omega) (by omega)) h
  | succ d ih =>
    intro j hj
    have y := ih (j + 1) (by omega)
    have vj : vp_in (nI (j + 1)) 256 := vp_in_nI (by omega) (by omega)
    have vp : vp_in (nI j) 256 := vp_in_nI (by omega) (by omega)
    have cj : (nI (j + 1)).toNatClampNeg = j + 1 := nI_clamp (by omega)
    have cp : (nI j).toNatClampNeg = j := nI_clamp (by omega)
    refine br_f (nI_ge (b := 256) (by omega) (by omega)) ⟨by decide, pk_le ((j + 1) % 32) 0 (fun q => nm_r (nI_1 _) ?_) (fun q => ?_) (pk_rem (d := 32) (by omega) (by omega) (by omega))⟩
    · rw [sm_gy_f (by omega)] at y; exact y
    rw [nI_pred, cj, cp]
    refine sm_takes I (by omega) hm (sm_bb (fun z => nm_r (nI_1 _) ?_) (fun z => ?_))
    · rw [sm_gy_f (fun w => by have w2 := w.2.1; rw [show j + 1 - 1 = j from rfl, z] at w2; exact absurd w2 (by decide))] at y; exact y
    refine sm_takes I (by omega) hm (sm_bb (fun z2 => nm_r (nI_1 _) ?_) (fun z2 => ⟨vj, vp, nm_e ?_⟩))
    · rw [sm_gy_f (fun w => by have w2 := w.2.2; rw [z2] at w2; exact absurd w2 (by decide))] at y; exact y
    rw [sm_gy_t ⟨q, z, z2⟩] at y
    have dl := sm_dlt (sm_T_in I z2) (sm_T_in I z)
    refine br_c (fun w => ⟨vj, br_c (fun w2 => nm_r (nI_1 _) ?_) (fun w2 => ⟨vj, nm_e (nm_r (nI_1 _) ?_)⟩)⟩) (fun w => nm_e (nm_r (nI_1 _) ?_))
    · rw [show j + 1 - 1 = j from rfl, sm_st, if_pos (dl.mp w), if_pos w2, Int32.add_zero] at y; exact y
    · rw [show j + 1 - 1 = j from rfl, sm_st, if_pos (dl.mp w), if_neg w2] at y; exact y
    · rw [show j + 1 - 1 = j from rfl, sm_st, if_neg (fun z => w (dl.mpr z))] at y; exact y
theorem sm_xgrw {N : Nat} (hN : N ≤ 256) {post : Int32 → SX → Prop} (h : post (sm_gx tv ts N) (sc, sv, lv, lab, len, lat, tim, val, slab, slen, slat, stim, sval, tv, ts)) : ∃ n, wX_growth_25 post (nI N) sc sv lv lab len lat tim val slab slen slat stim sval tv ts n 0 1 := by
  by_cases q : N = 0
  · subst q
    exact ⟨1, br_t (nI_le (a := 0) (b := 1) (by omega) (by omega)) h⟩
  · have z := sm_xgr hN h (N - 1) 0 (by omega)
    rw [show sm_gx tv ts (0 + 1) = 0 from sm_gx_f (by omega)] at z
    exact ⟨_, z⟩
theorem sm_ygrw {c m : Nat} {t u : Int32} (I : sm_I c lab len lat tim val) (hm : m ≤ 728) {post : Int32 → Prop} (h : post (sm_gy (sm_T c m t u lab len tim) val 256)) : ∃ n, wY_growth_16 post (nI m) t u (nI c) sv lab len lat tim val slab slen slat stim sval n 0 1 := by
  have z := sm_ygr (sv := sv) (slab := slab) (slen := slen) (slat := slat) (stim := stim) (sval := sval) I hm h 255 0 rfl
  rw [show sm_gy (sm_T c m t u lab len tim) val (0 + 1) = 0 from sm_gy_f (by omega)] at z
  exact ⟨_, z⟩
theorem i_vc_growth {k : Nat} {u : SX} {v : SY} (I : i_Rel k u v) (hk : k + 5 ≤ 2560) (v1 : Int32) (v2 : Int32) (v3 : Int32) : wpX_growth (fun r u' => wpY_growth (fun r' => r' = r ∧ i_Rel (k + 5) u' v) v v1 v2 v3) u v1 v2 v3 := by
  obtain ⟨c, e, lv, lab, len, lat, tim, val, slab, slen, slat, stim, sval, tv, ts, rfl, rfl, I, J⟩ := I
  unfold wpX_growth wpY_growth
  rcases sm_ism v1 with ⟨bx, bY⟩ | ⟨m, hm, rfl, gx, gy⟩
  · exact bx _ _ (br_t rfl (bY _ _ (br_t rfl ⟨rfl, sm_R I J⟩)))
  · refine gx _ _ (br_f (by decide) ?_)
    refine sm_take I hm (fun tv ts g => ?_)
    refine sm_xgrw (sm_cn_le _ 256) ?_
    refine gy _ _ (br_f (by decide) ?_)
    exact sm_ygrw I hm ⟨(sm_grow I g 256 (by omega)).symm, sm_R I J⟩
end
