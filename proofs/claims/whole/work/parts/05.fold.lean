theorem sm_rg {x : Int32} (h : -1000 ≤ x ∧ x ≤ 1000) : -1000 ≤ x.toInt ∧ x.toInt ≤ 1000 := by
  have h1 := Int32.le_iff_toInt_le.mp h.1
  have h2 := Int32.le_iff_toInt_le.mp h.2
  rw [show (-1000 : Int32).toInt = -1000 from by decide] at h1
  rw [show (1000 : Int32).toInt = 1000 from by decide] at h2
  exact ⟨h1, h2⟩
theorem sm_rgn {x : Int32} (h : -1000 ≤ x ∧ x ≤ 1000) : ¬ x = -10003 := by
  intro e
  rw [e] at h
  exact absurd h.1 (by decide)
theorem sm_mi {x : Int32} (h : -1000 ≤ x ∧ x ≤ 1000) : ((-1) * x).toInt = - x.toInt := by
  have := sm_rg h
  rw [Int32.toInt_mul, show (-1 : Int32).toInt = -1 from by decide]
  rw [Int.bmod_eq_of_le (by omega) (by omega)]
  omega
theorem sm_mle {x y : Int32} (hx : -1000 ≤ x ∧ x ≤ 1000) (hy : -1000 ≤ y ∧ y ≤ 1000) : (-1) * x ≤ (-1) * y ↔ y ≤ x := by
  rw [Int32.le_iff_toInt_le, Int32.le_iff_toInt_le, sm_mi hx, sm_mi hy]
  omega
theorem sm_dlt {x y : Int32} (hx : -1000 ≤ x ∧ x ≤ 1000) (hy : -1000 ≤ y ∧ y ≤ 1000) : x - y < 0 ↔ x < y := by
  have a := sm_rg hx
  have b := sm_rg hy
  rw [Int32.lt_iff_toInt_lt, Int32.lt_iff_toInt_lt, Int32.toInt_sub, Int.bmod_eq_of_le (by omega) (by omega), show (0 : Int32).toInt = 0 from by decide]
  omega
/-- all that stands in tv is within bounds -/
theorem sm_tvr {c m : Nat} {t u : Int32} {lab len lat tim val tv ts : Nat → Int32} (I : sm_I c lab len lat tim val) (g : sm_G (sm_T c m t u lab len tim) val tv ts 256) {i : Nat} (hi : i < sm_cn (sm_T c m t u lab len tim) 256) : -1000 ≤ tv i ∧ tv i ≤ 1000 := by
  obtain ⟨j, hj, hT, e⟩ := sm_cn_ivt _ i 256 hi
  rw [← e, (g j hj hT).1]
  exact sm_T_in I hT
def sm_ad (a v : Int32) : Int32 := a + v
def sm_ex (sg a v : Int32) : Int32 := if a = -10003 then v else if sg * a ≤ sg * v then a else v
section
variable {sc sv lv : Int32} {lab len lat tim val slab slen slat stim sval tv ts : Nat → Int32}
theorem sm_ysm {c m : Nat} {t u : Int32} (I : sm_I c lab len lat tim val) (hm : m ≤ 728) {post : Int32 → Prop} (h : post (sm_fo sm_ad 0 (sm_T c m t u lab len tim) val 256)) : ∀ d j, j + d = 256 → wY_sum_16 post (nI m) t u (nI c) sv lab len lat tim val slab slen slat stim sval (d + 1) (sm_fo sm_ad 0 (sm_T c m t u lab len tim) val j) (nI j) := by
  intro d
  induction d with
  | zero =>
    intro j hj
    obtain rfl : j = 256 := by omega
    exact br_t (nI_le (a := 256) (b := 256) (by omega) (by omega)) h
  | succ d ih =>
    intro j hj
    have y := ih (j + 1) (by omega)
    refine br_f (nI_ge (b := 256) (by omega) (by omega)) (sm_takes I (by omega) hm (sm_bb (fun z => nm_r (nI_1 j) ?_) (fun z => ⟨vp_in_nI (by omega) (by omega), nm_r (e' := sm_ad (sm_fo sm_ad 0 (sm_T c m t u lab len tim) val j) (val j)) ?_ (nm_r (nI_1 j) ?_)⟩)))
    · rw [sm_fo_f z] at y; exact y
    · rw [nI_clamp (by omega)]; rfl
    · rw [sm_fo_t z] at y; exact y
theorem sm_xsm {N : Nat} (hN : N ≤ 256) {post : Int32 → SX → Prop} (h : post (sm_fo sm_ad 0 (fun _ => true) tv N) (sc, sv, lv, lab, len, lat, tim, val, slab, slen, slat, stim, sval, tv, ts)) : ∀ d j, j + d = N → wX_sum_25 post (nI N) sc sv lv lab len lat tim val slab slen slat stim sval tv ts (d + 1) (sm_fo sm_ad 0 (fun _ => true) tv j) (nI j) := by
  intro d
  induction d with
  | zero =>
    intro j hj
    obtain rfl : j = N := by omega
    exact br_t (nI_le (by omega) (by omega)) h
  | succ d ih =>
    intro j hj
    have y := ih (j + 1) (by omega)
    rw [sm_fo_t rfl] at y
    exact br_f (nI_ge (by omega) (by omega)) ⟨vp_in_nI (by omega) (by omega), nm_r (e' := sm_ad (sm_fo sm_ad 0 (fun _ => true) tv j) (tv j)) (by rw [nI_clamp (by omega)]; rfl) (nm_r (nI_1 j) y)⟩
theorem i_vc_sum {k : Nat} {u : SX} {v : SY} (I : i_Rel k u v) (hk : k + 5 ≤ 2560) (v1 : Int32) (v2 : Int32) (v3 : Int32) : wpX_sum (fun r u' => wpY_sum (fun r' => r' = r ∧ i_Rel (k + 5) u' v) v v1 v2 v3) u v1 v2 v3 := by
  obtain ⟨c, e, lv, lab, len, lat, tim, val, slab, slen, slat, stim, sval, tv, ts, rfl, rfl, I, J⟩ := I
  unfold wpX_sum wpY_sum
  rcases sm_ism v1 with ⟨bx, bY⟩ | ⟨m, hm, rfl, gx, gy⟩
  · exact bx _ _ (br_t rfl (bY _ _ (br_t rfl ⟨rfl, sm_R I J⟩)))
  · refine gx _ _ (br_f (by decide) ?_)
    refine sm_take I hm (fun tv ts g => ?_)
    refine ⟨_, sm_xsm (sm_cn_le _ 256) ?_ (sm_cn _ 256) 0 (Nat.zero_add _)⟩
    refine gy _ _ (br_f (by decide) ⟨257, ?_⟩)
    refine sm_ysm I hm ⟨?_, sm_R I J⟩ 256 0 rfl
    exact (sm_fo_x 256 (fun j hj hT => (g j hj hT).1)).symm
/-- X's fold for least and most stays within bounds -/
theorem sm_exr {sg : Int32} {N : Nat} (hr : ∀ i, i < N → -1000 ≤ tv i ∧ tv i ≤ 1000) : ∀ i, i < N → -1000 ≤ sm_fo (sm_ex sg) (-10003) (fun _ => true) tv (i + 1) ∧ sm_fo (sm_ex sg) (-10003) (fun _ => true) tv (i + 1) ≤ 1000 := by
  intro i
  induction i with
  | zero =>
    intro hi
    rw [sm_fo_t rfl]
    show -1000 ≤ sm_ex sg (-10003) (tv 0) ∧ sm_ex sg (-10003) (tv 0) ≤ 1000
    rw [sm_ex, if_pos rfl]
    exact hr 0 hi
  | succ i ih =>
    intro hi
    have a := ih (by omega)
    rw [sm_fo_t rfl, sm_ex, if_neg (sm_rgn a)]
    split
    · exact a
    · exact hr _ hi
theorem sm_ex1 (sg : Int32) : sm_fo (sm_ex sg) (-10003) (fun _ => true) tv 1 = tv 0 := by
  rw [sm_fo_t rfl]
  show sm_ex sg (-10003) (tv 0) = tv 0
  rw [sm_ex, if_pos rfl]
theorem sm_yex {c m : Nat} {t u sg : Int32} (I : sm_I c lab len lat tim val) (hm : m ≤ 728) {post : Int32 → Prop} (h : post (sm_fo (sm_ex sg) (-10003) (sm_T c m t u lab len tim) val 256)) : ∀ d j, j + d = 256 → wY_extreme_8 post (nI m) t u sg (nI c) sv lab len lat tim val slab slen slat stim sval (d + 1) (sm_fo (sm_ex sg) (-10003) (sm_T c m t u lab len tim) val j) (nI j) := by
  intro d
  induction d with
  | zero =>
    intro j hj
    obtain rfl : j = 256 := by omega
    exact br_t (nI_le (a := 256) (b := 256) (by omega) (by omega)) h
  | succ d ih =>
    intro j hj
    have y := ih (j + 1) (by omega)
    have vj : vp_in (nI j) 256 := vp_in_nI (by omega) (by omega)
    have cj : (nI j).toNatClampNeg = j := nI_clamp (by omega)
    refine br_f (nI_ge (b := 256) (by omega) (by omega)) (sm_takes I (by omega) hm (sm_bb (fun z => nm_r (nI_1 j) ?_) (fun z => ?_)))
    · rw [sm_fo_f z] at y; exact y
    rw [sm_fo_t z] at y
    rw [cj]
    refine br_c (fun q => ⟨vj, nm_e (nm_r (nI_1 j) ?_)⟩) (fun q => ⟨vj, br_c (fun q2 => nm_r (nI_1 j) ?_) (fun q2 => ⟨vj, nm_e (nm_r (nI_1 j) ?_)⟩)⟩)
    · rw [sm_ex, if_pos q] at y; exact y
    · rw [sm_ex, if_neg q, if_pos q2] at y; exact y
    · rw [sm_ex, if_neg q, if_neg q2] at y; exact y
theorem sm_xle {N : Nat} (hN : N ≤ 256) (hr : ∀ i, i < N → -1000 ≤ tv i ∧ tv i ≤ 1000) {post : Int32 → SX → Prop} (h : post (sm_fo (sm_ex 1) (-10003) (fun _ => true) tv N) (sc, sv, lv, lab, len, lat, tim, val, slab, slen, slat, stim, sval, tv, ts)) : ∀ d j, j + 1 + d = N → wX_least_41 post (nI N) sc sv lv lab len lat tim val slab slen slat stim sval tv ts (d + 1) (sm_fo (sm_ex 1) (-10003) (fun _ => true) tv (j + 1)) (nI (j + 1)) := by
  intro d
  induction d with
  | zero =>
    intro j hj
    obtain rfl : j + 1 = N := by omega
    exact br_t (nI_le (by omega) (by omega)) h
  | succ d ih =>
    intro j hj
    have y := ih (j + 1) (by omega)
    have a := sm_exr (sg := 1) hr j (by omega)
    rw [sm_fo_t rfl, sm_ex, if_neg (sm_rgn a), Int32.one_mul, Int32.one_mul] at y
    have vj : vp_in (nI (j + 1)) 256 := vp_in_nI (by omega) (by omega)
    have cj : (nI (j + 1)).toNatClampNeg = j + 1 := nI_clamp (by omega)
    refine br_f (nI_ge (by omega) (by omega)) ⟨vj, ?_⟩
    rw [cj]
    refine br_c (fun q => nm_r (nI_1 _) ?_) (fun q => ⟨vj, nm_e (nm_r (nI_1 _) ?_)⟩)
    · rw [if_pos q] at y; exact y
    · rw [if_neg q] at y; exact y
theorem sm_xmo {N : Nat} (hN : N ≤ 256) (hr : ∀ i, i < N → -1000 ≤ tv i ∧ tv i ≤ 1000) {post : Int32 → SX → Prop} (h : post (sm_fo (sm_ex (-1)) (-10003) (fun _ => true) tv N) (sc, sv, lv, lab, len, lat, tim, val, slab, slen, slat, stim, sval, tv, ts)) : ∀ d j, j + 1 + d = N → wX_most_41 post (nI N) sc sv lv lab len lat tim val slab slen slat stim sval tv ts (d + 1) (sm_fo (sm_ex (-1)) (-10003) (fun _ => true) tv (j + 1)) (nI (j + 1)) := by
  intro d
  induction d with
  | zero =>
    intro j hj
    obtain rfl : j + 1 = N := by omega
    exact br_t (nI_le (by omega) (by omega)) h
  | succ d ih =>
    intro j hj
    have y := ih (j + 1) (by omega)
    have a := sm_exr (sg := -1) hr j (by omega)
    have mm := sm_mle a (hr (j + 1) (by omega))
    rw [sm_fo_t rfl, sm_ex, if_neg (sm_rgn a)] at y
    have vj : vp_in (nI (j + 1)) 256 := vp_in_nI (by omega) (by omega)
    have cj : (nI (j + 1)).toNatClampNeg = j + 1 := nI_clamp (by omega)
    refine br_f (nI_ge (by omega) (by omega)) ⟨vj, ?_⟩
    rw [cj]
    refine br_c (fun q => nm_r (nI_1 _) ?_) (fun q => ⟨vj, nm_e (nm_r (nI_1 _) ?_)⟩)
    · rw [if_pos (mm.mpr q)] at y; exact y
    · rw [if_neg (fun z => q (mm.mp z))] at y; exact y
theorem i_vc_least {k : Nat} {u : SX} {v : SY} (I : i_Rel k u v) (hk : k + 5 ≤ 2560) (v1 : Int32) (v2 : Int32) (v3 : Int32) : wpX_least (fun r u' => wpY_least (fun r' => r' = r ∧ i_Rel (k + 5) u' v) v v1 v2 v3) u v1 v2 v3 := by
  obtain ⟨c, e, lv, lab, len, lat, tim, val, slab, slen, slat, stim, sval, tv, ts, rfl, rfl, I, J⟩ := I
  unfold wpX_least wpY_least
  rcases sm_ism v1 with ⟨bx, bY⟩ | ⟨m, hm, rfl, gx, gy⟩
  · exact bx _ _ (br_t rfl (bY _ _ (br_t rfl ⟨rfl, sm_R I J⟩)))
  · refine gx _ _ (br_f (by decide) ?_)
    refine sm_take I hm (fun tv ts g => ?_)
    have hN := sm_cn_le (sm_T c m v2 v3 lab len tim) 256
    have fx := sm_fo_x (f := sm_ex 1) (a := -10003) 256 (fun j hj hT => (g j hj hT).1)
    refine pk_eq (sm_cn (sm_T c m v2 v3 lab len tim) 256) 0 (fun q => ?_) (fun q => ?_)
    · refine gy _ _ (br_f (by decide) ⟨257, ?_⟩)
      refine sm_yex I hm ⟨?_, sm_R I J⟩ 256 0 rfl
      rw [q] at fx; exact fx.symm
    · refine nm_r (sm_ex1 (tv := tv) 1).symm ⟨sm_cn (sm_T c m v2 v3 lab len tim) 256 - 1 + 1, ?_⟩
      refine sm_xle hN (fun i hi => sm_tvr I g hi) ?_ _ 0 (by omega)
      refine gy _ _ (br_f (by decide) ⟨257, ?_⟩)
      exact sm_yex I hm ⟨fx.symm, sm_R I J⟩ 256 0 rfl
theorem i_vc_most {k : Nat} {u : SX} {v : SY} (I : i_Rel k u v) (hk : k + 5 ≤ 2560) (v1 : Int32) (v2 : Int32) (v3 : Int32) : wpX_most (fun r u' => wpY_most (fun r' => r' = r ∧ i_Rel (k + 5) u' v) v v1 v2 v3) u v1 v2 v3 := by
  obtain ⟨c, e, lv, lab, len, lat, tim, val, slab, slen, slat, stim, sval, tv, ts, rfl, rfl, I, J⟩ := I
  unfold wpX_most wpY_most
  rcases sm_ism v1 with ⟨bx, bY⟩ | ⟨m, hm, rfl, gx, gy⟩
  · exact bx _ _ (br_t rfl (bY _ _ (br_t rfl ⟨rfl, sm_R I J⟩)))
  · refine gx _ _ (br_f (by decide) ?_)
    refine sm_take I hm (fun tv ts g => ?_)
    have hN := sm_cn_le (sm_T c m v2 v3 lab len tim) 256
    have fx := sm_fo_x (f := sm_ex (-1)) (a := -10003) 256 (fun j hj hT => (g j hj hT).1)
    refine pk_eq (sm_cn (sm_T c m v2 v3 lab len tim) 256) 0 (fun q => ?_) (fun q => ?_)
    · refine gy _ _ (br_f (by decide) ⟨257, ?_⟩)
      refine sm_yex I hm ⟨?_, sm_R I J⟩ 256 0 rfl
      rw [q] at fx; exact fx.symm
    · refine nm_r (sm_ex1 (tv := tv) (-1)).symm ⟨sm_cn (sm_T c m v2 v3 lab len tim) 256 - 1 + 1, ?_⟩
      refine sm_xmo hN (fun i hi => sm_tvr I g hi) ?_ _ 0 (by omega)
      refine gy _ _ (br_f (by decide) ⟨257, ?_⟩)
      exact sm_yex I hm ⟨fx.symm, sm_R I J⟩ 256 0 rfl
end
