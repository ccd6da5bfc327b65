/-- the first i of series s taken from q further on -/
def sm_sh (a : Nat → Int32) (s q i : Nat) : Nat → Int32 := fun j => if 32 * s ≤ j ∧ j < 32 * s + i then a (j + q) else a j
theorem sm_sh0 (a : Nat → Int32) (s q : Nat) : sm_sh a s q 0 = a := by
  funext j
  exact if_neg (by omega)
theorem sm_sh_in {a : Nat → Int32} {s q i j : Nat} (h : j < i) : sm_sh a s q i (32 * s + j) = a (32 * s + (j + q)) := by
  unfold sm_sh
  rw [if_pos (by omega), Nat.add_assoc]
theorem sm_sh_out {a : Nat → Int32} {s q i j : Nat} (h : ¬ (32 * s ≤ j ∧ j < 32 * s + i)) : sm_sh a s q i j = a j := if_neg h
theorem sm_shs (a : Nat → Int32) (s q i : Nat) : upd (sm_sh a s q i) (32 * s + i) (a (32 * s + (i + q))) = sm_sh a s q (i + 1) := by
  funext j
  by_cases h : j = 32 * s + i
  · rw [h, pk_us, sm_sh_in (by omega)]
  · rw [pk_un h]
    unfold sm_sh
    by_cases g : 32 * s ≤ j ∧ j < 32 * s + i
    · rw [if_pos g, if_pos (by omega)]
    · rw [if_neg g, if_neg (by omega)]
theorem sm_I_expire {c s l q : Nat} {lab len lat tim val : Nat → Int32} (I : sm_I c lab len lat tim val) (hs : s < c) (hl : l ≤ 32) (el : len s = nI l) (hq : q ≤ l) : sm_I c lab (upd len s (nI (l - q))) lat (sm_sh tim s q (l - q)) (sm_sh val s q (l - q)) := by
  refine ⟨I.1, I.2.1, fun r hr => ?_⟩
  have hc := I.1
  obtain ⟨l', hl', el', a1, a2, a3⟩ := I.2.2 r hr
  by_cases e : r = s
  · subst e
    have ee : l' = l := by
      rw [el] at el'
      exact ((nI_eq (by omega) (by omega)).mp el').symm
    subst ee
    refine ⟨l' - q, by omega, pk_us, fun i j hi hj => ?_, fun i hi => ?_, fun i hi => ?_⟩
    · rw [sm_sh_in (by omega), sm_sh_in (by omega)]; exact a1 _ _ (by omega) (by omega)
    · rw [sm_sh_in (by omega)]; exact a2 _ (by omega)
    · rw [sm_sh_in (by omega)]; exact a3 _ (by omega)
  · refine ⟨l', hl', by rw [pk_un e]; exact el', fun i j hi hj => ?_, fun i hi => ?_, fun i hi => ?_⟩
    · rw [sm_sh_out (j := 32 * r + i) (by omega), sm_sh_out (j := 32 * r + j) (by omega)]; exact a1 i j hi hj
    · rw [sm_sh_out (j := 32 * r + i) (by omega)]; exact a2 i hi
    · rw [sm_sh_out (j := 32 * r + i) (by omega)]; exact a3 i hi
section
variable {sc sv lv : Int32} {lab len lat tim val slab slen slat stim sval tv ts : Nat → Int32}
theorem sm_xsb11 {s l q : Nat} {x : Int32} (hs : s < 8) (hl : l ≤ 32) (el : len s = nI l) (hm : ∀ m, m < l → (tim (32 * s + m) < x ↔ m < q)) (hq : q ≤ l) {post : Int32 → Prop} (h : post (nI q)) : ∀ d m, m + d = l → wX_samplesBelow_11 post (nI s) x (nI (32 * s)) sc sv lv lab len lat tim val slab slen slat stim sval tv ts (d + 1) (nI (min m q)) (nI m) := by
  have vs : vp_in (nI s) 8 := vp_in_nI hs (by omega)
  have ee : len (nI s).toNatClampNeg = nI l := by rw [nI_clamp (by omega)]; exact el
  intro d
  induction d with
  | zero =>
    intro m hml
    obtain rfl : m = l := by omega
    refine ⟨vs, ?_⟩
    rw [ee]
    refine br_t (nI_le (by omega) (by omega)) ?_
    rw [show min m q = q from by omega]
    exact h
  | succ d ih =>
    intro m hml
    have y := ih (m + 1) (by omega)
    have hmm := hm m (by omega)
    refine ⟨vs, ?_⟩
    rw [ee, nI_add, nI_clamp (n := 32 * s + m) (by omega)]
    refine br_f (nI_ge (by omega) (by omega)) ⟨vp_in_nI (by omega) (by omega), br_c (fun g => nm_r (nI_1 m) ?_) (fun g => nm_r (nI_1 _) (nm_r (nI_1 m) ?_))⟩
    · have w : ¬ m < q := fun z => absurd (hmm.mpr z) (Int32.not_lt.mpr g)
      rw [show min (m + 1) q = min m q from by omega] at y
      exact y
    · have w : m < q := hmm.mp (Int32.not_le.mp g)
      rw [show min (m + 1) q = min m q + 1 from by omega] at y
      exact y
theorem sm_xsb {s l q : Nat} {x : Int32} (hs : s < 8) (hl : l ≤ 32) (el : len s = nI l) (hm : ∀ m, m < l → (tim (32 * s + m) < x ↔ m < q)) (hq : q ≤ l) {post : Int32 → Prop} (h : post (nI q)) : wpX_samplesBelow post (sc, sv, lv, lab, len, lat, tim, val, slab, slen, slat, stim, sval, tv, ts) (nI s) x := by
  refine nm_r (e' := nI (32 * s)) (by rw [Nat.mul_comm]; exact pk_mul s 32) ⟨l + 1, ?_⟩
  have z := sm_xsb11 (sc := sc) (sv := sv) (lv := lv) (lab := lab) (lat := lat) (val := val) (slab := slab) (slen := slen) (slat := slat) (stim := stim) (sval := sval) (tv := tv) (ts := ts) hs hl el hm hq h l 0 (by omega)
  rw [show min 0 q = 0 from by omega] at z
  exact z
theorem sm_xdr18 {s l q : Nat} (hs : s < 8) (hl : l ≤ 32) (hq : q ≤ l) {post : SX → Prop} (h : post (sc, sv, lv, lab, upd len s (nI (l - q)), lat, sm_sh tim s q (l - q), sm_sh val s q (l - q), slab, slen, slat, stim, sval, tv, ts)) : ∀ d i, i + d = l - q → wX_dropOldest_18 post (nI s) (nI q) (nI (32 * s)) (nI (l - q)) sc sv lv (d + 1) (nI i) lab len lat (sm_sh tim s q i) (sm_sh val s q i) slab slen slat stim sval tv ts := by
  intro d
  induction d with
  | zero =>
    intro i hi
    obtain rfl : i = l - q := by omega
    refine br_t (nI_le (by omega) (by omega)) ⟨vp_in_nI hs (by omega), ?_⟩
    rw [nI_clamp (by omega)]
    exact nm_e h
  | succ d ih =>
    intro i hi
    have y := ih (i + 1) (by omega)
    have v1 : vp_in (nI (32 * s + q + i)) 256 := vp_in_nI (by omega) (by omega)
    have v2 : vp_in (nI (32 * s + i)) 256 := vp_in_nI (by omega) (by omega)
    refine br_f (nI_ge (by omega) (by omega)) ?_
    rw [nI_add, nI_add, nI_add, nI_clamp (n := 32 * s + q + i) (by omega), nI_clamp (n := 32 * s + i) (by omega)]
    refine ⟨v1, v2, nm_r (e' := sm_sh tim s q (i + 1)) ?_ ⟨v1, v2, nm_r (e' := sm_sh val s q (i + 1)) ?_ (nm_r (nI_1 i) y)⟩⟩
    · rw [sm_sh_out (by omega), ← sm_shs, show 32 * s + (i + q) = 32 * s + q + i from by omega]
    · rw [sm_sh_out (by omega), ← sm_shs, show 32 * s + (i + q) = 32 * s + q + i from by omega]
theorem sm_xdr {s l q : Nat} (hs : s < 8) (hl : l ≤ 32) (el : len s = nI l) (hq : q ≤ l) {post : SX → Prop} (h : post (sc, sv, lv, lab, upd len s (nI (l - q)), lat, sm_sh tim s q (l - q), sm_sh val s q (l - q), slab, slen, slat, stim, sval, tv, ts)) : wpX_dropOldest post (sc, sv, lv, lab, len, lat, tim, val, slab, slen, slat, stim, sval, tv, ts) (nI s) (nI q) := by
  refine nm_r (e' := nI (32 * s)) (by rw [Nat.mul_comm]; exact pk_mul s 32) ⟨vp_in_nI hs (by omega), nm_r (e' := nI (l - q)) ?_ ⟨l - q + 1, ?_⟩⟩
  · rw [nI_clamp (by omega), el, pk_sub hq]
  · have z := sm_xdr18 hs hl hq h (l - q) 0 (by omega)
    rw [sm_sh0, sm_sh0] at z
    exact z
theorem sm_yex21 {s l q : Nat} {x g : Int32} (hs : s < 8) (hl : l ≤ 32) (el : len s = nI l) (hq : q ≤ l) (hm : ∀ m, m < l → (tim (32 * s + m) < x ↔ m < q)) {post : Int32 → SY → Prop} {J : Int32 → Int32 → (Nat → Int32) → (Nat → Int32) → (Nat → Int32) → (Nat → Int32) → (Nat → Int32) → (Nat → Int32) → (Nat → Int32) → (Nat → Int32) → (Nat → Int32) → (Nat → Int32) → Prop} (h : J (g + nI q) (nI (s + 1)) lab (upd len s (nI (l - q))) lat (sm_sh tim s q (l - q)) (sm_sh val s q (l - q)) slab slen slat stim sval) : ∀ d m, m + d = l → wY_expire_21 post J x g (nI s) sc sv (d + 1) (nI (m - q)) (nI (32 * s + m)) lab len lat (sm_sh tim s q (m - q)) (sm_sh val s q (m - q)) slab slen slat stim sval := by
  have vs : vp_in (nI s) 8 := vp_in_nI hs (by omega)
  have cs : (nI s).toNatClampNeg = s := nI_clamp (by omega)
  have e3 : (32 : Int32) * nI s = nI (32 * s) := pk_mul 32 s
  intro d
  induction d with
  | zero =>
    intro m hml
    obtain rfl : m = l := by omega
    refine ⟨vs, ?_⟩
    rw [cs, el, e3, nI_add, pk_sub (by omega), show m - (m - q) = q from by omega]
    exact br_t (nI_le (by omega) (by omega)) ⟨vs, nm_e ⟨vs, nm_e (nm_r (nI_1 s) h)⟩⟩
  | succ d ih =>
    intro m hml
    have y := ih (m + 1) (by omega)
    have hmm := hm m (by omega)
    have v1 : vp_in (nI (32 * s + m)) 256 := vp_in_nI (by omega) (by omega)
    have v2 : vp_in (nI (32 * s + (m - q))) 256 := vp_in_nI (by omega) (by omega)
    refine ⟨vs, ?_⟩
    rw [cs, el, e3, nI_add, nI_add, nI_clamp (n := 32 * s + m) (by omega), nI_clamp (n := 32 * s + (m - q)) (by omega), sm_sh_out (a := tim) (j := 32 * s + m) (by omega), sm_sh_out (a := val) (j := 32 * s + m) (by omega)]
    refine br_f (nI_ge (by omega) (by omega)) ⟨v1, br_c (fun w => nm_r (nI_1 _) ?_) (fun w => ⟨v1, v2, nm_r (e' := sm_sh tim s q (m - q + 1)) ?_ ⟨v1, v2, nm_r (e' := sm_sh val s q (m - q + 1)) ?_ (nm_r (nI_1 _) (nm_r (nI_1 _) ?_))⟩⟩)⟩
    · have z := hmm.mp w
      rw [show m + 1 - q = m - q from by omega] at y
      exact y
    · have z : ¬ m < q := fun z => w (hmm.mpr z)
      rw [← sm_shs, show 32 * s + (m - q + q) = 32 * s + m from by omega]
    · have z : ¬ m < q := fun z => w (hmm.mpr z)
      rw [← sm_shs, show 32 * s + (m - q + q) = 32 * s + m from by omega]
    · have z : ¬ m < q := fun z => w (hmm.mpr z)
      rw [show m + 1 - q = m - q + 1 from by omega] at y
      exact y
theorem sm_exp {c : Nat} {x : Int32} : ∀ d s len tim val (g : Int32), s + d = c → sm_I c lab len lat tim val → ∃ r len' tim' val', sm_I c lab len' lat tim' val' ∧ (∀ post : Int32 → SX → Prop, post r (nI c, sv, lv, lab, len', lat, tim', val', slab, slen, slat, stim, sval, tv, ts) → wX_expire_4 post x (d + 1) g (nI s) (nI c) sv lv lab len lat tim val slab slen slat stim sval tv ts) ∧ (∀ post : Int32 → SY → Prop, post r (nI c, sv, lab, len', lat, tim', val', slab, slen, slat, stim, sval) → wY_expire_4 post x (nI c) sv (d + 1) g (nI s) lab len lat tim val slab slen slat stim sval) := by
  intro d
  induction d with
  | zero =>
    intro s len tim val g hs I
    have hc := I.1
    obtain rfl : s = c := by omega
    have w : nI s ≤ nI s := nI_le (by omega) (by omega)
    exact ⟨g, len, tim, val, I, fun post h => br_t w h, fun post h => br_t w h⟩
  | succ d ih =>
    intro s len tim val g hs I
    have hc := I.1
    have hsc : s < c := by omega
    obtain ⟨l, hl, el, a1, a2, a3⟩ := I.2.2 s hsc
    obtain ⟨q, hq, hm⟩ := sm_pre (fun m => tim (32 * s + m) < x) l (fun i j hij hj z => Int32.lt_trans (a1 i j hij hj) z)
    obtain ⟨r, len', tim', val', I', hX, hY⟩ := ih (s + 1) _ _ _ (g + nI q) (by omega) (sm_I_expire I hsc hl el hq)
    have w : ¬ nI c ≤ nI s := nI_ge hsc (by omega)
    refine ⟨r, len', tim', val', I', fun post h => br_f w ?_, fun post h => br_f w (nm_r (pk_mul 32 s) ⟨l + 1, ?_⟩)⟩
    · refine sm_xsb (by omega) hl el hm hq ?_
      refine sm_xdr (by omega) hl el hq ?_
      exact nm_e (nm_r (nI_1 s) (hX post h))
    · have z := sm_yex21 (sc := nI c) (sv := sv) (by omega) hl el hq hm (post := post) (hY post h) l 0 (by omega)
      rw [Nat.zero_sub, sm_sh0, sm_sh0] at z
      exact z
theorem i_vc_expire {k : Nat} {u : SX} {v : SY} (I : i_Rel k u v) (hk : k + 5 ≤ 2560) (v1 : Int32) : wpX_expire (fun r u' => wpY_expire (fun r' v' => r' = r ∧ i_Rel (k + 5) u' v') v v1) u v1 := by
  obtain ⟨c, e, lv, lab, len, lat, tim, val, slab, slen, slat, stim, sval, tv, ts, rfl, rfl, I, J⟩ := I
  obtain ⟨r, len', tim', val', I', hX, hY⟩ := sm_exp (sv := nI e) (lv := lv) (slab := slab) (slen := slen) (slat := slat) (stim := stim) (sval := sval) (tv := tv) (ts := ts) (x := v1) c 0 len tim val 0 (by omega) I
  exact ⟨_, hX _ ⟨_, hY _ ⟨rfl, sm_R I' J⟩⟩⟩
end
