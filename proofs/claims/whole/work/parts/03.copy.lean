/-- f's first n over g -/
def sm_cp (f g : Nat → Int32) (n : Nat) : Nat → Int32 := fun j => if j < n then f j else g j
theorem sm_cp0 (f g : Nat → Int32) : sm_cp f g 0 = g := by
  funext j
  exact if_neg (Nat.not_lt_zero j)
theorem sm_cp_lo {f g : Nat → Int32} {n j : Nat} (h : j < n) : sm_cp f g n j = f j := if_pos h
theorem sm_cps (f g : Nat → Int32) (n : Nat) : upd (sm_cp f g n) n (f n) = sm_cp f g (n + 1) := by
  funext j
  unfold upd sm_cp
  by_cases h : j = n
  · rw [if_pos h, if_pos (by omega), h]
  · rw [if_neg h]
    by_cases g2 : j < n
    · rw [if_pos g2, if_pos (by omega)]
    · rw [if_neg g2, if_neg (by omega)]
theorem sm_I_congr {c : Nat} {lab len lat tim val lab' len' lat' tim' val' : Nat → Int32} (I : sm_I c lab len lat tim val) (h1 : ∀ s, s < 8 → lab' s = lab s) (h2 : ∀ s, s < 8 → len' s = len s) (h3 : ∀ s, s < 8 → lat' s = lat s) (h4 : ∀ j, j < 256 → tim' j = tim j) (h5 : ∀ j, j < 256 → val' j = val j) : sm_I c lab' len' lat' tim' val' := by
  have hc := I.1
  refine ⟨hc, fun s hs => ?_, fun s hs => ?_⟩
  · rw [h1 s (by omega)]; exact I.2.1 s hs
  · obtain ⟨l, hl, el, a1, a2, a3⟩ := I.2.2 s hs
    refine ⟨l, hl, by rw [h2 s (by omega)]; exact el, fun i j hi hj => ?_, fun i hi => ?_, fun i hi => ?_⟩
    · rw [h4 _ (by omega), h4 _ (by omega)]; exact a1 i j hi hj
    · rw [h4 _ (by omega), h3 s (by omega)]; exact a2 i hi
    · rw [h5 _ (by omega)]; exact a3 i hi
theorem sm_I_cp {c : Nat} {lab len lat tim val lab' len' lat' tim' val' : Nat → Int32} (I : sm_I c lab len lat tim val) : sm_I c (sm_cp lab lab' 8) (sm_cp len len' 8) (sm_cp lat lat' 8) (sm_cp tim tim' 256) (sm_cp val val' 256) :=
  sm_I_congr I (fun _ h => sm_cp_lo h) (fun _ h => sm_cp_lo h) (fun _ h => sm_cp_lo h) (fun _ h => sm_cp_lo h) (fun _ h => sm_cp_lo h)
/-- the relation: the same fields and the same arrays; what is kept and what is safe are in order -/
def i_Rel (k : Nat) (u : SX) (v : SY) : Prop := ∃ (c e : Nat) (lv : Int32) (lab len lat tim val slab slen slat stim sval tv ts : Nat → Int32), u = (nI c, nI e, lv, lab, len, lat, tim, val, slab, slen, slat, stim, sval, tv, ts) ∧ v = (nI c, nI e, lab, len, lat, tim, val, slab, slen, slat, stim, sval) ∧ sm_I c lab len lat tim val ∧ sm_I e slab slen slat stim sval
theorem i_up {k : Nat} {u : SX} {v : SY} (h : i_Rel k u v) : i_Rel (k + 5) u v := h
section
variable {sc sv lv : Int32} {lab len lat tim val slab slen slat stim sval tv ts : Nat → Int32}
theorem sm_R {k c e : Nat} (I : sm_I c lab len lat tim val) (J : sm_I e slab slen slat stim sval) : i_Rel k (nI c, nI e, lv, lab, len, lat, tim, val, slab, slen, slat, stim, sval, tv, ts) (nI c, nI e, lab, len, lat, tim, val, slab, slen, slat, stim, sval) :=
  ⟨c, e, lv, lab, len, lat, tim, val, slab, slen, slat, stim, sval, tv, ts, rfl, rfl, I, J⟩
theorem sm_I0 : sm_I 0 lab len lat tim val := ⟨by omega, fun s hs => absurd hs (Nat.not_lt_zero s), fun s hs => absurd hs (Nat.not_lt_zero s)⟩
theorem i_vc0 : wpX_init (fun u => wpY_init (fun v => i_Rel 0 u v)) := sm_R (k := 0) (c := 0) (e := 0) sm_I0 sm_I0
theorem sm_c_slab {post : SX → Prop} : ∀ d j, j + d = 8 → post (sc, sv, lv, lab, len, lat, tim, val, sm_cp lab slab 8, slen, slat, stim, sval, tv, ts) → wX_copy__labelsOf_safeLabelsOf_3 post 8 sc sv lv (d + 1) (nI j) lab len lat tim val (sm_cp lab slab j) slen slat stim sval tv ts := by
  intro d
  induction d with
  | zero =>
    intro j hj h
    obtain rfl : j = 8 := by omega
    exact br_t (nI_le (a := 8) (b := 8) (by omega) (by omega)) h
  | succ d ih =>
    intro j hj h
    refine br_f (nI_ge (b := 8) (by omega) (by omega)) ⟨vp_in_nI (by omega) (by omega), vp_in_nI (by omega) (by omega), nm_r (e' := sm_cp lab slab (j + 1)) ?_ (nm_r (nI_1 j) (ih (j + 1) (by omega) h))⟩
    rw [nI_clamp (by omega)]; exact sm_cps lab slab j
theorem sm_w_slab {post : SX → Prop} (h : post (sc, sv, lv, lab, len, lat, tim, val, sm_cp lab slab 8, slen, slat, stim, sval, tv, ts)) : wpX_copy__labelsOf_safeLabelsOf post (sc, sv, lv, lab, len, lat, tim, val, slab, slen, slat, stim, sval, tv, ts) 8 := by
  have z := sm_c_slab 8 0 rfl h
  rw [sm_cp0] at z
  exact ⟨_, z⟩
theorem sm_c_slen {post : SX → Prop} : ∀ d j, j + d = 8 → post (sc, sv, lv, lab, len, lat, tim, val, slab, sm_cp len slen 8, slat, stim, sval, tv, ts) → wX_copy__lengthOf_safeLengthOf_3 post 8 sc sv lv (d + 1) (nI j) lab len lat tim val slab (sm_cp len slen j) slat stim sval tv ts := by
  intro d
  induction d with
  | zero =>
    intro j hj h
    obtain rfl : j = 8 := by omega
    exact br_t (nI_le (a := 8) (b := 8) (by omega) (by omega)) h
  | succ d ih =>
    intro j hj h
    refine br_f (nI_ge (b := 8) (by omega) (by omega)) ⟨vp_in_nI (by omega) (by omega), vp_in_nI (by omega) (by omega), nm_r (e' := sm_cp len slen (j + 1)) ?_ (nm_r (nI_1 j) (ih (j + 1) (by omega) h))⟩
    rw [nI_clamp (by omega)]; exact sm_cps len slen j
theorem sm_w_slen {post : SX → Prop} (h : post (sc, sv, lv, lab, len, lat, tim, val, slab, sm_cp len slen 8, slat, stim, sval, tv, ts)) : wpX_copy__lengthOf_safeLengthOf post (sc, sv, lv, lab, len, lat, tim, val, slab, slen, slat, stim, sval, tv, ts) 8 := by
  have z := sm_c_slen 8 0 rfl h
  rw [sm_cp0] at z
  exact ⟨_, z⟩
theorem sm_c_slat {post : SX → Prop} : ∀ d j, j + d = 8 → post (sc, sv, lv, lab, len, lat, tim, val, slab, slen, sm_cp lat slat 8, stim, sval, tv, ts) → wX_copy__newestOf_safeNewestOf_3 post 8 sc sv lv (d + 1) (nI j) lab len lat tim val slab slen (sm_cp lat slat j) stim sval tv ts := by
  intro d
  induction d with
  | zero =>
    intro j hj h
    obtain rfl : j = 8 := by omega
    exact br_t (nI_le (a := 8) (b := 8) (by omega) (by omega)) h
  | succ d ih =>
    intro j hj h
    refine br_f (nI_ge (b := 8) (by omega) (by omega)) ⟨vp_in_nI (by omega) (by omega), vp_in_nI (by omega) (by omega), nm_r (e' := sm_cp lat slat (j + 1)) ?_ (nm_r (nI_1 j) (ih (j + 1) (by omega) h))⟩
    rw [nI_clamp (by omega)]; exact sm_cps lat slat j
theorem sm_w_slat {post : SX → Prop} (h : post (sc, sv, lv, lab, len, lat, tim, val, slab, slen, sm_cp lat slat 8, stim, sval, tv, ts)) : wpX_copy__newestOf_safeNewestOf post (sc, sv, lv, lab, len, lat, tim, val, slab, slen, slat, stim, sval, tv, ts) 8 := by
  have z := sm_c_slat 8 0 rfl h
  rw [sm_cp0] at z
  exact ⟨_, z⟩
theorem sm_c_stim {post : SX → Prop} : ∀ d j, j + d = 256 → post (sc, sv, lv, lab, len, lat, tim, val, slab, slen, slat, sm_cp tim stim 256, sval, tv, ts) → wX_copy__times_safeTimes_3 post 256 sc sv lv (d + 1) (nI j) lab len lat tim val slab slen slat (sm_cp tim stim j) sval tv ts := by
  intro d
  induction d with
  | zero =>
    intro j hj h
    obtain rfl : j = 256 := by omega
    exact br_t (nI_le (a := 256) (b := 256) (by omega) (by omega)) h
  | succ d ih =>
    intro j hj h
    refine br_f (nI_ge (b := 256) (by omega) (by omega)) ⟨vp_in_nI (by omega) (by omega), vp_in_nI (by omega) (by omega), nm_r (e' := sm_cp tim stim (j + 1)) ?_ (nm_r (nI_1 j) (ih (j + 1) (by omega) h))⟩
    rw [nI_clamp (by omega)]; exact sm_cps tim stim j
theorem sm_w_stim {post : SX → Prop} (h : post (sc, sv, lv, lab, len, lat, tim, val, slab, slen, slat, sm_cp tim stim 256, sval, tv, ts)) : wpX_copy__times_safeTimes post (sc, sv, lv, lab, len, lat, tim, val, slab, slen, slat, stim, sval, tv, ts) 256 := by
  have z := sm_c_stim 256 0 rfl h
  rw [sm_cp0] at z
  exact ⟨_, z⟩
theorem sm_c_sval {post : SX → Prop} : ∀ d j, j + d = 256 → post (sc, sv, lv, lab, len, lat, tim, val, slab, slen, slat, stim, sm_cp val sval 256, tv, ts) → wX_copy__values_safeValues_3 post 256 sc sv lv (d + 1) (nI j) lab len lat tim val slab slen slat stim (sm_cp val sval j) tv ts := by
  intro d
  induction d with
  | zero =>
    intro j hj h
    obtain rfl : j = 256 := by omega
    exact br_t (nI_le (a := 256) (b := 256) (by omega) (by omega)) h
  | succ d ih =>
    intro j hj h
    refine br_f (nI_ge (b := 256) (by omega) (by omega)) ⟨vp_in_nI (by omega) (by omega), vp_in_nI (by omega) (by omega), nm_r (e' := sm_cp val sval (j + 1)) ?_ (nm_r (nI_1 j) (ih (j + 1) (by omega) h))⟩
    rw [nI_clamp (by omega)]; exact sm_cps val sval j
theorem sm_w_sval {post : SX → Prop} (h : post (sc, sv, lv, lab, len, lat, tim, val, slab, slen, slat, stim, sm_cp val sval 256, tv, ts)) : wpX_copy__values_safeValues post (sc, sv, lv, lab, len, lat, tim, val, slab, slen, slat, stim, sval, tv, ts) 256 := by
  have z := sm_c_sval 256 0 rfl h
  rw [sm_cp0] at z
  exact ⟨_, z⟩
theorem sm_c_lab {post : SX → Prop} : ∀ d j, j + d = 8 → post (sc, sv, lv, sm_cp slab lab 8, len, lat, tim, val, slab, slen, slat, stim, sval, tv, ts) → wX_copy__safeLabelsOf_labelsOf_3 post 8 sc sv lv (d + 1) (nI j) (sm_cp slab lab j) len lat tim val slab slen slat stim sval tv ts := by
  intro d
  induction d with
  | zero =>
    intro j hj h
    obtain rfl : j = 8 := by omega
    exact br_t (nI_le (a := 8) (b := 8) (by omega) (by omega)) h
  | succ d ih =>
    intro j hj h
    refine br_f (nI_ge (b := 8) (by omega) (by omega)) ⟨vp_in_nI (by omega) (by omega), vp_in_nI (by omega) (by omega), nm_r (e' := sm_cp slab lab (j + 1)) ?_ (nm_r (nI_1 j) (ih (j + 1) (by omega) h))⟩
    rw [nI_clamp (by omega)]; exact sm_cps slab lab j
theorem sm_w_lab {post : SX → Prop} (h : post (sc, sv, lv, sm_cp slab lab 8, len, lat, tim, val, slab, slen, slat, stim, sval, tv, ts)) : wpX_copy__safeLabelsOf_labelsOf post (sc, sv, lv, lab, len, lat, tim, val, slab, slen, slat, stim, sval, tv, ts) 8 := by
  have z := sm_c_lab 8 0 rfl h
  rw [sm_cp0] at z
  exact ⟨_, z⟩
theorem sm_c_len {post : SX → Prop} : ∀ d j, j + d = 8 → post (sc, sv, lv, lab, sm_cp slen len 8, lat, tim, val, slab, slen, slat, stim, sval, tv, ts) → wX_copy__safeLengthOf_lengthOf_3 post 8 sc sv lv (d + 1) (nI j) lab (sm_cp slen len j) lat tim val slab slen slat stim sval tv ts := by
  intro d
  induction d with
  | zero =>
    intro j hj h
    obtain rfl : j = 8 := by omega
    exact br_t (nI_le (a := 8) (b := 8) (by omega) (by omega)) h
  | succ d ih =>
    intro j hj h
    refine br_f (nI_ge (b := 8) (by omega) (by omega)) ⟨vp_in_nI (by omega) (by omega), vp_in_nI (by omega) (by omega), nm_r (e' := sm_cp slen len (j + 1)) ?_ (nm_r (nI_1 j) (ih (j + 1) (by omega) h))⟩
    rw [nI_clamp (by omega)]; exact sm_cps slen len j
theorem sm_w_len {post : SX → Prop} (h : post (sc, sv, lv, lab, sm_cp slen len 8, lat, tim, val, slab, slen, slat, stim, sval, tv, ts)) : wpX_copy__safeLengthOf_lengthOf post (sc, sv, lv, lab, len, lat, tim, val, slab, slen, slat, stim, sval, tv, ts) 8 := by
  have z := sm_c_len 8 0 rfl h
  rw [sm_cp0] at z
  exact ⟨_, z⟩
theorem sm_c_lat {post : SX → Prop} : ∀ d j, j + d = 8 → post (sc, sv, lv, lab, len, sm_cp slat lat 8, tim, val, slab, slen, slat, stim, sval, tv, ts) → wX_copy__safeNewestOf_newestOf_3 post 8 sc sv lv (d + 1) (nI j) lab len (sm_cp slat lat j) tim val slab slen slat stim sval tv ts := by
  intro d
  induction d with
  | zero =>
    intro j hj h
    obtain rfl : j = 8 := by omega
    exact br_t (nI_le (a := 8) (b := 8) (by omega) (by omega)) h
  | succ d ih =>
    intro j hj h
    refine br_f (nI_ge (b := 8) (by omega) (by omega)) ⟨vp_in_nI (by omega) (by omega), vp_in_nI (by omega) (by omega), nm_r (e' := sm_cp slat lat (j + 1)) ?_ (nm_r (nI_1 j) (ih (j + 1) (by omega) h))⟩
    rw [nI_clamp (by omega)]; exact sm_cps slat lat j
theorem sm_w_lat {post : SX → Prop} (h : post (sc, sv, lv, lab, len, sm_cp slat lat 8, tim, val, slab, slen, slat, stim, sval, tv, ts)) : wpX_copy__safeNewestOf_newestOf post (sc, sv, lv, lab, len, lat, tim, val, slab, slen, slat, stim, sval, tv, ts) 8 := by
  have z := sm_c_lat 8 0 rfl h
  rw [sm_cp0] at z
  exact ⟨_, z⟩
theorem sm_c_tim {post : SX → Prop} : ∀ d j, j + d = 256 → post (sc, sv, lv, lab, len, lat, sm_cp stim tim 256, val, slab, slen, slat, stim, sval, tv, ts) → wX_copy__safeTimes_times_3 post 256 sc sv lv (d + 1) (nI j) lab len lat (sm_cp stim tim j) val slab slen slat stim sval tv ts := by
  intro d
  induction d with
  | zero =>
    intro j hj h
    obtain rfl : j = 256 := by omega
    exact br_t (nI_le (a := 256) (b := 256) (by omega) (by omega)) h
  | succ d ih =>
    intro j hj h
    refine br_f (nI_ge (b := 256) (by omega) (by omega)) ⟨vp_in_nI (by omega) (by omega), vp_in_nI (by omega) (by omega), nm_r (e' := sm_cp stim tim (j + 1)) ?_ (nm_r (nI_1 j) (ih (j + 1) (by omega) h))⟩
    rw [nI_clamp (by omega)]; exact sm_cps stim tim j
theorem sm_w_tim {post : SX → Prop} (h : post (sc, sv, lv, lab, len, lat, sm_cp stim tim 256, val, slab, slen, slat, stim, sval, tv, ts)) : wpX_copy__safeTimes_times post (sc, sv, lv, lab, len, lat, tim, val, slab, slen, slat, stim, sval, tv, ts) 256 := by
  have z := sm_c_tim 256 0 rfl h
  rw [sm_cp0] at z
  exact ⟨_, z⟩
theorem sm_c_val {post : SX → Prop} : ∀ d j, j + d = 256 → post (sc, sv, lv, lab, len, lat, tim, sm_cp sval val 256, slab, slen, slat, stim, sval, tv, ts) → wX_copy__safeValues_values_3 post 256 sc sv lv (d + 1) (nI j) lab len lat tim (sm_cp sval val j) slab slen slat stim sval tv ts := by
  intro d
  induction d with
  | zero =>
    intro j hj h
    obtain rfl : j = 256 := by omega
    exact br_t (nI_le (a := 256) (b := 256) (by omega) (by omega)) h
  | succ d ih =>
    intro j hj h
    refine br_f (nI_ge (b := 256) (by omega) (by omega)) ⟨vp_in_nI (by omega) (by omega), vp_in_nI (by omega) (by omega), nm_r (e' := sm_cp sval val (j + 1)) ?_ (nm_r (nI_1 j) (ih (j + 1) (by omega) h))⟩
    rw [nI_clamp (by omega)]; exact sm_cps sval val j
theorem sm_w_val {post : SX → Prop} (h : post (sc, sv, lv, lab, len, lat, tim, sm_cp sval val 256, slab, slen, slat, stim, sval, tv, ts)) : wpX_copy__safeValues_values post (sc, sv, lv, lab, len, lat, tim, val, slab, slen, slat, stim, sval, tv, ts) 256 := by
  have z := sm_c_val 256 0 rfl h
  rw [sm_cp0] at z
  exact ⟨_, z⟩
theorem sm_ys60 {post : SY → Prop} : ∀ d j, j + d = 256 → post (sc, sv, lab, len, lat, tim, val, slab, slen, slat, sm_cp tim stim 256, sm_cp val sval 256) → wY_sync_60 post sc sv (d + 1) (nI j) lab len lat tim val slab slen slat (sm_cp tim stim j) (sm_cp val sval j) := by
  intro d
  induction d with
  | zero =>
    intro j hj h
    obtain rfl : j = 256 := by omega
    exact br_t (nI_le (a := 256) (b := 256) (by omega) (by omega)) h
  | succ d ih =>
    intro j hj h
    refine br_f (nI_ge (b := 256) (by omega) (by omega)) ⟨vp_in_nI (by omega) (by omega), vp_in_nI (by omega) (by omega), nm_r (e' := sm_cp tim stim (j + 1)) ?_ ⟨vp_in_nI (by omega) (by omega), vp_in_nI (by omega) (by omega), nm_r (e' := sm_cp val sval (j + 1)) ?_ (nm_r (nI_1 j) (ih (j + 1) (by omega) h))⟩⟩
    · rw [nI_clamp (by omega)]; exact sm_cps tim stim j
    · rw [nI_clamp (by omega)]; exact sm_cps val sval j
theorem sm_ys10 {post : SY → Prop} : ∀ d j, j + d = 8 → post (sc, sv, lab, len, lat, tim, val, sm_cp lab slab 8, sm_cp len slen 8, sm_cp lat slat 8, sm_cp tim stim 256, sm_cp val sval 256) → wY_sync_10 post sc sv (d + 1) (nI j) lab len lat tim val (sm_cp lab slab j) (sm_cp len slen j) (sm_cp lat slat j) stim sval := by
  intro d
  induction d with
  | zero =>
    intro j hj h
    obtain rfl : j = 8 := by omega
    have z := sm_ys60 256 0 rfl h
    rw [sm_cp0, sm_cp0] at z
    exact br_t (nI_le (a := 8) (b := 8) (by omega) (by omega)) ⟨_, z⟩
  | succ d ih =>
    intro j hj h
    refine br_f (nI_ge (b := 8) (by omega) (by omega)) ⟨vp_in_nI (by omega) (by omega), vp_in_nI (by omega) (by omega), nm_r (e' := sm_cp lab slab (j + 1)) ?_ ⟨vp_in_nI (by omega) (by omega), vp_in_nI (by omega) (by omega), nm_r (e' := sm_cp len slen (j + 1)) ?_ ⟨vp_in_nI (by omega) (by omega), vp_in_nI (by omega) (by omega), nm_r (e' := sm_cp lat slat (j + 1)) ?_ (nm_r (nI_1 j) (ih (j + 1) (by omega) h))⟩⟩⟩
    · rw [nI_clamp (by omega)]; exact sm_cps lab slab j
    · rw [nI_clamp (by omega)]; exact sm_cps len slen j
    · rw [nI_clamp (by omega)]; exact sm_cps lat slat j
theorem sm_ys {post : SY → Prop} (h : post (sc, sc, lab, len, lat, tim, val, sm_cp lab slab 8, sm_cp len slen 8, sm_cp lat slat 8, sm_cp tim stim 256, sm_cp val sval 256)) : wpY_sync post (sc, sv, lab, len, lat, tim, val, slab, slen, slat, stim, sval) := by
  have z := sm_ys10 8 0 rfl h
  rw [sm_cp0, sm_cp0, sm_cp0] at z
  exact ⟨_, z⟩
theorem sm_xs {post : SX → Prop} (h : post (sc, sc, lv, lab, len, lat, tim, val, sm_cp lab slab 8, sm_cp len slen 8, sm_cp lat slat 8, sm_cp tim stim 256, sm_cp val sval 256, tv, ts)) : wpX_sync post (sc, sv, lv, lab, len, lat, tim, val, slab, slen, slat, stim, sval, tv, ts) := by
  unfold wpX_sync
  refine sm_w_slab ?_
  refine sm_w_slen ?_
  refine sm_w_slat ?_
  refine sm_w_stim ?_
  exact sm_w_sval h
theorem i_vc_sync {k : Nat} {u : SX} {v : SY} (I : i_Rel k u v) (hk : k + 5 ≤ 2560) : wpX_sync (fun u' => wpY_sync (fun v' => i_Rel (k + 5) u' v') v) u := by
  obtain ⟨c, e, lv, lab, len, lat, tim, val, slab, slen, slat, stim, sval, tv, ts, rfl, rfl, I, J⟩ := I
  exact sm_xs (sm_ys (sm_R I (sm_I_cp I)))
/-- the lengths below j, added -/
def sm_su (len : Nat → Int32) : Nat → Int32
  | 0 => 0
  | j + 1 => sm_su len j + len j
theorem sm_xsu4 {c : Nat} (hc : c ≤ 8) {post : Int32 → Prop} : ∀ d j, j + d = c → post (sm_su len c) → wX_sampleCount_4 post (nI c) sv lv lab len lat tim val slab slen slat stim sval tv ts (d + 1) (sm_su len j) (nI j) := by
  intro d
  induction d with
  | zero =>
    intro j hj h
    obtain rfl : j = c := by omega
    exact br_t (nI_le (by omega) (by omega)) h
  | succ d ih =>
    intro j hj h
    exact br_f (nI_ge (by omega) (by omega)) ⟨vp_in_nI (by omega) (by omega), nm_r (e' := sm_su len (j + 1)) (by rw [nI_clamp (by omega)]; rfl) (nm_r (nI_1 j) (ih (j + 1) (by omega) h))⟩
theorem sm_xsu {c : Nat} (hc : c ≤ 8) {post : Int32 → Prop} (h : post (sm_su len c)) : wpX_sampleCount post (nI c, sv, lv, lab, len, lat, tim, val, slab, slen, slat, stim, sval, tv, ts) := ⟨_, sm_xsu4 hc c 0 (by omega) h⟩
theorem sm_ysu4 {c : Nat} (hc : c ≤ 8) {post : Int32 → Prop} : ∀ d j, j + d = c → post (sm_su len c) → wY_samples_4 post (nI c) sv lab len lat tim val slab slen slat stim sval (d + 1) (sm_su len j) (nI j) := by
  intro d
  induction d with
  | zero =>
    intro j hj h
    obtain rfl : j = c := by omega
    exact br_t (nI_le (by omega) (by omega)) h
  | succ d ih =>
    intro j hj h
    exact br_f (nI_ge (by omega) (by omega)) ⟨vp_in_nI (by omega) (by omega), nm_r (e' := sm_su len (j + 1)) (by rw [nI_clamp (by omega)]; rfl) (nm_r (nI_1 j) (ih (j + 1) (by omega) h))⟩
theorem sm_ysu {c : Nat} (hc : c ≤ 8) {post : Int32 → Prop} (h : post (sm_su len c)) : wpY_samples post (nI c, sv, lab, len, lat, tim, val, slab, slen, slat, stim, sval) := ⟨_, sm_ysu4 hc c 0 (by omega) h⟩
theorem sm_yc65 {e : Nat} (he : e ≤ 8) {x1 : Int32} {post : Int32 → SY → Prop} : ∀ d j, j + d = 256 → post (x1 - sm_su len e) (nI e, sv, lab, len, lat, sm_cp stim tim 256, sm_cp sval val 256, slab, slen, slat, stim, sval) → wY_crash_65 post x1 (nI e) sv (d + 1) (nI j) lab len lat (sm_cp stim tim j) (sm_cp sval val j) slab slen slat stim sval := by
  intro d
  induction d with
  | zero =>
    intro j hj h
    obtain rfl : j = 256 := by omega
    exact br_t (nI_le (a := 256) (b := 256) (by omega) (by omega)) (sm_ysu he h)
  | succ d ih =>
    intro j hj h
    refine br_f (nI_ge (b := 256) (by omega) (by omega)) ⟨vp_in_nI (by omega) (by omega), vp_in_nI (by omega) (by omega), nm_r (e' := sm_cp stim tim (j + 1)) ?_ ⟨vp_in_nI (by omega) (by omega), vp_in_nI (by omega) (by omega), nm_r (e' := sm_cp sval val (j + 1)) ?_ (nm_r (nI_1 j) (ih (j + 1) (by omega) h))⟩⟩
    · rw [nI_clamp (by omega)]; exact sm_cps stim tim j
    · rw [nI_clamp (by omega)]; exact sm_cps sval val j
theorem sm_yc15 {e : Nat} (he : e ≤ 8) {x1 : Int32} {post : Int32 → SY → Prop} : ∀ d j, j + d = 8 → post (x1 - sm_su (sm_cp slen len 8) e) (nI e, sv, sm_cp slab lab 8, sm_cp slen len 8, sm_cp slat lat 8, sm_cp stim tim 256, sm_cp sval val 256, slab, slen, slat, stim, sval) → wY_crash_15 post x1 (nI e) sv (d + 1) (nI j) (sm_cp slab lab j) (sm_cp slen len j) (sm_cp slat lat j) tim val slab slen slat stim sval := by
  intro d
  induction d with
  | zero =>
    intro j hj h
    obtain rfl : j = 8 := by omega
    have z := sm_yc65 (sv := sv) he 256 0 rfl h
    rw [sm_cp0, sm_cp0] at z
    exact br_t (nI_le (a := 8) (b := 8) (by omega) (by omega)) ⟨_, z⟩
  | succ d ih =>
    intro j hj h
    refine br_f (nI_ge (b := 8) (by omega) (by omega)) ⟨vp_in_nI (by omega) (by omega), vp_in_nI (by omega) (by omega), nm_r (e' := sm_cp slab lab (j + 1)) ?_ ⟨vp_in_nI (by omega) (by omega), vp_in_nI (by omega) (by omega), nm_r (e' := sm_cp slen len (j + 1)) ?_ ⟨vp_in_nI (by omega) (by omega), vp_in_nI (by omega) (by omega), nm_r (e' := sm_cp slat lat (j + 1)) ?_ (nm_r (nI_1 j) (ih (j + 1) (by omega) h))⟩⟩⟩
    · rw [nI_clamp (by omega)]; exact sm_cps slab lab j
    · rw [nI_clamp (by omega)]; exact sm_cps slen len j
    · rw [nI_clamp (by omega)]; exact sm_cps slat lat j
theorem sm_yc {c e : Nat} (hc : c ≤ 8) (he : e ≤ 8) {post : Int32 → SY → Prop} (h : post (sm_su len c - sm_su (sm_cp slen len 8) e) (nI e, nI e, sm_cp slab lab 8, sm_cp slen len 8, sm_cp slat lat 8, sm_cp stim tim 256, sm_cp sval val 256, slab, slen, slat, stim, sval)) : wpY_crash post (nI c, nI e, lab, len, lat, tim, val, slab, slen, slat, stim, sval) := by
  unfold wpY_crash
  refine sm_ysu hc ?_
  have z := sm_yc15 he 8 0 rfl h
  rw [sm_cp0, sm_cp0, sm_cp0] at z
  exact ⟨_, z⟩
theorem sm_xc {c e : Nat} (hc : c ≤ 8) (he : e ≤ 8) {post : Int32 → SX → Prop} (h : post (sm_su len c - sm_su (sm_cp slen len 8) e) (nI e, nI e, lv, sm_cp slab lab 8, sm_cp slen len 8, sm_cp slat lat 8, sm_cp stim tim 256, sm_cp sval val 256, slab, slen, slat, stim, sval, tv, ts)) : wpX_crash post (nI c, nI e, lv, lab, len, lat, tim, val, slab, slen, slat, stim, sval, tv, ts) := by
  unfold wpX_crash
  refine sm_xsu hc ?_
  refine sm_w_lab ?_
  refine sm_w_len ?_
  refine sm_w_lat ?_
  refine sm_w_tim ?_
  refine sm_w_val ?_
  exact sm_xsu he h
theorem i_vc_crash {k : Nat} {u : SX} {v : SY} (I : i_Rel k u v) (hk : k + 5 ≤ 2560) : wpX_crash (fun r u' => wpY_crash (fun r' v' => r' = r ∧ i_Rel (k + 5) u' v') v) u := by
  obtain ⟨c, e, lv, lab, len, lat, tim, val, slab, slen, slat, stim, sval, tv, ts, rfl, rfl, I, J⟩ := I
  exact sm_xc I.1 J.1 (sm_yc I.1 J.1 ⟨rfl, sm_R (sm_I_cp J) J⟩)
end
