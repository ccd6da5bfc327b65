def sm_b (x : Bool) : Int32 := cond x 1 0
def sm_hd (d v : Nat) : Bool := if d = 4 then true else if d < 4 then decide (v = d) else decide (¬ v = d - 5)
def sm_mt (m b : Nat) : Bool := sm_hd (m % 9) (b % 4) && (sm_hd (m / 9 % 9) (b / 4 % 4) && sm_hd (m / 81) (b / 16))
/-- one side's state: c series -/
def sm_I (c : Nat) (lab len lat tim val : Nat → Int32) : Prop :=
  c ≤ 8 ∧ (∀ s, s < c → ∃ b, b ≤ 63 ∧ lab s = nI b) ∧
  (∀ s, s < c → ∃ l, l ≤ 32 ∧ len s = nI l ∧
    (∀ i j, i < j → j < l → tim (32 * s + i) < tim (32 * s + j)) ∧
    (∀ i, i < l → tim (32 * s + i) ≤ lat s) ∧
    (∀ i, i < l → -1000 ≤ val (32 * s + i) ∧ val (32 * s + i) ≤ 1000))
/-- sample k is taken -/
def sm_T (c m : Nat) (t u : Int32) (lab len tim : Nat → Int32) (k : Nat) : Bool :=
  decide (k / 32 < c) && (decide (k % 32 < (len (k / 32)).toNatClampNeg) && (decide (¬ tim k < t) && (decide (¬ u < tim k) && sm_mt m (lab (k / 32)).toNatClampNeg)))
theorem sm_bb {x : Bool} {A B : Prop} (f : x = false → A) (g : x = true → B) : (sm_b x = 0 → A) ∧ (¬ sm_b x = 0 → B) := by
  cases x
  · exact br_t rfl (f rfl)
  · exact br_f (by decide) (g rfl)
section
variable {sc sv lv : Int32} {lab len lat tim val slab slen slat stim sval tv ts : Nat → Int32}
theorem sm_holds (d v : Nat) (hd : d < 9) (hv : v < 4) {post : Int32 → Prop} (h : post (sm_b (sm_hd d v))) : wpX_holds post (sc, sv, lv, lab, len, lat, tim, val, slab, slen, slat, stim, sval, tv, ts) (nI d) (nI v) := by
  refine pk_eq d 4 (fun e => ?_) (fun e => pk_le 4 d (fun g => ?_) (fun g => ?_))
  · have z : sm_hd d v = true := by simp [sm_hd, e]
    rw [z] at h; exact h
  · refine pk_eq v (d - 5) (fun e2 => ?_) (fun e2 => ?_) rfl (pk_sub (b := 5) (by omega))
    · have z : sm_hd d v = false := by
        rw [sm_hd, if_neg e, if_neg (by omega)]; simp [e2]
      rw [z] at h; exact h
    · have z : sm_hd d v = true := by
        rw [sm_hd, if_neg e, if_neg (by omega)]; simp [e2]
      rw [z] at h; exact h
  · refine pk_eq v d (fun e2 => ?_) (fun e2 => ?_)
    · have z : sm_hd d v = true := by
        rw [sm_hd, if_neg e, if_pos (by omega)]; simp [e2]
      rw [z] at h; exact h
    · have z : sm_hd d v = false := by
        rw [sm_hd, if_neg e, if_pos (by omega)]; simp [e2]
      rw [z] at h; exact h
theorem sm_xm {s m b : Nat} (hs : s < 8) (hm : m ≤ 728) (hb : b ≤ 63) (eb : lab s = nI b) {post : Int32 → Prop} (h : post (sm_b (sm_mt m b))) : wpX_matches post (sc, sv, lv, lab, len, lat, tim, val, slab, slen, slat, stim, sval, tv, ts) (nI s) (nI m) := by
  refine ⟨vp_in_nI hs (by omega), nm_r (e' := nI b) (by rw [nI_clamp (by omega)]; exact eb) ⟨by decide, by decide, ?_⟩⟩
  have e1 : nI m - nI m / 9 * 9 = nI (m % 9) := pk_rem (d := 9) (by omega) (by omega) (by omega)
  have e2 : nI b - nI b / 4 * 4 = nI (b % 4) := pk_rem (d := 4) (by omega) (by omega) (by omega)
  have e3 : nI m / 9 = nI (m / 9) := pk_div (d := 9) (by omega) (by omega) (by omega)
  have e4 : nI b / 4 = nI (b / 4) := pk_div (d := 4) (by omega) (by omega) (by omega)
  have e5 : nI (m / 9) - nI (m / 9) / 9 * 9 = nI (m / 9 % 9) := pk_rem (d := 9) (by omega) (by omega) (by omega)
  have e6 : nI (b / 4) - nI (b / 4) / 4 * 4 = nI (b / 4 % 4) := pk_rem (d := 4) (by omega) (by omega) (by omega)
  have e7 : nI m / 81 = nI (m / 81) := pk_div (d := 81) (by omega) (by omega) (by omega)
  have e8 : nI b / 16 = nI (b / 16) := pk_div (d := 16) (by omega) (by omega) (by omega)
  rw [e1, e2, e3, e4, e5, e6, e7, e8]
  refine sm_holds _ _ (by omega) (by omega) (sm_bb (fun z => ?_) (fun z => ⟨by decide, by decide, by decide, by decide, ?_⟩))
  · have y : sm_mt m b = false := by simp [sm_mt, z]
    rw [y] at h; exact h
  · refine sm_holds _ _ (by omega) (by omega) (sm_bb (fun z2 => ?_) (fun z2 => ⟨by decide, by decide, ?_⟩))
    · have y : sm_mt m b = false := by simp [sm_mt, z2]
      rw [y] at h; exact h
    · refine sm_holds _ _ (by omega) (by omega) (sm_bb (fun z3 => ?_) (fun z3 => ?_))
      · have y : sm_mt m b = false := by simp [sm_mt, z3]
        rw [y] at h; exact h
      · have y : sm_mt m b = true := by simp [sm_mt, z, z2, z3]
        rw [y] at h; exact h
/-- one turn of Y's loop over the digits -/
theorem sm_ym1 {n m b j : Nat} {post : Int32 → Prop} (hj : j < 3) (hm : m < 2 ^ 30) (hb : b < 2 ^ 30) (h0 : sm_hd (m % 9) (b % 4) = false → post 0) (h1 : sm_hd (m % 9) (b % 4) = true → wY_matches_13 post sc sv lab len lat tim val slab slen slat stim sval n (nI (m / 9)) (nI (b / 4)) (nI (j + 1))) : wY_matches_13 post sc sv lab len lat tim val slab slen slat stim sval (n + 1) (nI m) (nI b) (nI j) := by
  have e1 : nI m - nI m / 9 * 9 = nI (m % 9) := pk_rem (d := 9) (by omega) (by omega) (by omega)
  have e2 : nI b - nI b / 4 * 4 = nI (b % 4) := pk_rem (d := 4) (by omega) (by omega) (by omega)
  have e3 : nI m / 9 = nI (m / 9) := pk_div (d := 9) (by omega) (by omega) (by omega)
  have e4 : nI b / 4 = nI (b / 4) := pk_div (d := 4) (by omega) (by omega) (by omega)
  have go : sm_hd (m % 9) (b % 4) = true → wY_matches_61 post (wY_matches_13 post sc sv lab len lat tim val slab slen slat stim sval n) (nI m) (nI b) (nI j) sc sv lab len lat tim val slab slen slat stim sval := fun z =>
    ⟨by decide, nm_r e3 ⟨by decide, nm_r e4 (nm_r (nI_1 j) (h1 z))⟩⟩
  refine br_f (nI_ge (b := 3) hj (by omega)) ⟨by decide, nm_r e1 ⟨by decide, nm_r e2 ?_⟩⟩
  refine pk_le 4 (m % 9) (fun g => ?_) (fun g => ?_)
  · refine pk_le (m % 9) 4 (fun g2 => go ?_) (fun g2 => ?_)
    · rw [sm_hd, if_pos (by omega)]
    · refine pk_eq (b % 4) (m % 9 - 5) (fun e => h0 ?_) (fun e => go ?_) rfl (pk_sub (b := 5) (by omega))
      · rw [sm_hd, if_neg (by omega), if_neg (by omega)]; simp [e]
      · rw [sm_hd, if_neg (by omega), if_neg (by omega)]; simp [e]
  · refine pk_eq (b % 4) (m % 9) (fun e => ?_) (fun e => h0 ?_)
    · refine pk_le (m % 9) 4 (fun g2 => go ?_) (fun g2 => absurd g (by omega))
      rw [sm_hd, if_neg (by omega), if_pos (by omega)]; simp [e]
    · rw [sm_hd, if_neg (by omega), if_pos (by omega)]; simp [e]
theorem sm_ym {s m b : Nat} (hs : s < 8) (hm : m ≤ 728) (hb : b ≤ 63) (eb : lab s = nI b) {post : Int32 → Prop} (h : post (sm_b (sm_mt m b))) : wpY_matches post (sc, sv, lab, len, lat, tim, val, slab, slen, slat, stim, sval) (nI s) (nI m) := by
  refine ⟨vp_in_nI hs (by omega), nm_r (e' := nI b) (by rw [nI_clamp (by omega)]; exact eb) ⟨4, ?_⟩⟩
  refine sm_ym1 (j := 0) (by omega) (by omega) (by omega) (fun z => ?_) (fun z => ?_)
  · have y : sm_mt m b = false := by simp [sm_mt, z]
    rw [y] at h; exact h
  refine sm_ym1 (by omega) (by omega) (by omega) (fun z2 => ?_) (fun z2 => ?_)
  · have y : sm_mt m b = false := by simp [sm_mt, z2]
    rw [y] at h; exact h
  have w1 : m / 9 / 9 % 9 = m / 81 := by omega
  have w2 : b / 4 / 4 % 4 = b / 16 := by omega
  refine sm_ym1 (by omega) (by omega) (by omega) (fun z3 => ?_) (fun z3 => ?_)
  · rw [w1, w2] at z3
    have y : sm_mt m b = false := by simp [sm_mt, z3]
    rw [y] at h; exact h
  · rw [w1, w2] at z3
    have y : sm_mt m b = true := by simp [sm_mt, z, z2, z3]
    rw [y] at h
    exact br_t (nI_le (a := 3) (by omega) (by omega)) h
theorem sm_takes {c k m : Nat} {t u : Int32} (I : sm_I c lab len lat tim val) (hk : k < 256) (hm : m ≤ 728) {post : Int32 → Prop} (h : post (sm_b (sm_T c m t u lab len tim k))) : wpY_takes post (nI c, sv, lab, len, lat, tim, val, slab, slen, slat, stim, sval) (nI k) (nI m) t u := by
  have hc := I.1
  have ck : (nI k).toNatClampNeg = k := nI_clamp (by omega)
  have cq : (nI (k / 32)).toNatClampNeg = k / 32 := nI_clamp (by omega)
  refine ⟨by decide, nm_r (pk_div (d := 32) (by omega) (by omega) (by omega)) ?_⟩
  refine pk_le c (k / 32) (fun g => ?_) (fun g => ?_)
  · have y : sm_T c m t u lab len tim k = false := by
      have g' : ¬ k / 32 < c := by omega
      simp [sm_T, g']
    rw [y] at h; exact h
  obtain ⟨b, hb, eb⟩ := I.2.1 (k / 32) g
  obtain ⟨l, hl, el, hs, hlat, hv⟩ := I.2.2 (k / 32) g
  have cl : (len (k / 32)).toNatClampNeg = l := by rw [el]; exact nI_clamp (by omega)
  have cb : (lab (k / 32)).toNatClampNeg = b := by rw [eb]; exact nI_clamp (by omega)
  refine ⟨by decide, vp_in_nI (by omega) (by omega), pk_le l (k % 32) (fun g2 => ?_) (fun g2 => ⟨vp_in_nI hk (by omega), ?_⟩) (by rw [cq]; exact el) (pk_rem (d := 32) (by omega) (by omega) (by omega))⟩
  · have y : sm_T c m t u lab len tim k = false := by
      have g' : ¬ k % 32 < l := by omega
      simp [sm_T, cl, g']
    rw [y] at h; exact h
  rw [ck]
  refine br_c (fun g3 => ?_) (fun g3 => ⟨vp_in_nI hk (by omega), br_c (fun g4 => ?_) (fun g4 => ?_)⟩)
  · have y : sm_T c m t u lab len tim k = false := by
      rw [sm_T, decide_eq_false (not_not_intro g3)]; simp
    rw [y] at h; exact h
  · have y : sm_T c m t u lab len tim k = false := by
      rw [sm_T, decide_eq_false (not_not_intro g4)]; simp
    rw [y] at h; exact h
  have y : sm_T c m t u lab len tim k = sm_mt m b := by
    rw [sm_T, decide_eq_true g, decide_eq_true g3, decide_eq_true g4, cl, cb, decide_eq_true g2]; simp
  rw [y] at h
  refine sm_ym (b := b) (by omega) hm hb eb (sm_bb (fun z => ?_) (fun z => ?_))
  · rw [z] at h; exact h
  · rw [z] at h; exact h
end
