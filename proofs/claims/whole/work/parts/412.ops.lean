/-! operations: scale, status, day -/
def z_half : Nat → Nat → Nat
  | 0, a => a
  | k + 1, a => if a ≤ 1999 then a else z_half k (a / 2)
def z_dbl : Nat → Nat → Nat
  | 0, a => a
  | k + 1, a => if 1000 ≤ a then a else z_dbl k (a * 2)
theorem z_half_b : ∀ (k a : Nat), 1 ≤ a → a < 2000 * 2 ^ k → 1 ≤ z_half k a ∧ z_half k a ≤ 1999
  | 0, a, h1, h2 => ⟨h1, by show a ≤ 1999; omega⟩
  | k + 1, a, h1, h2 => by
    unfold z_half
    split
    · omega
    · exact z_half_b k (a / 2) (by omega) (by rw [Nat.pow_succ] at h2; omega)
theorem z_dbl_b : ∀ (k a : Nat), a ≤ 1999 → z_dbl k a ≤ 1999
  | 0, a, h1 => h1
  | k + 1, a, h1 => by
    unfold z_dbl
    split
    · exact h1
    · exact z_dbl_b k (a * 2) (by omega)
def z_ST (k : Nat) : Nat := [1000, 1059, 1122, 1189, 1260, 1335, 1414, 1498, 1587, 1682, 1782, 1888].getD k 0
theorem z_ST_tb : ∀ k, k < 12 → tbSTEPS.getD k 0 = nI (z_ST k) ∧ z_ST k ≤ 1888 := by decide +kernel
def z_dist (a b : Nat) : Nat := if a ≤ b then b - a else a - b
theorem z_dist_comm (a b : Nat) : z_dist a b = z_dist b a := by
  unfold z_dist
  split
  · split <;> omega
  · rw [if_pos (by omega)]
theorem z_dist_b {a b m : Nat} (ha : a ≤ m) (hb : b ≤ m) : z_dist a b ≤ m := by
  unfold z_dist
  split <;> omega
def z_stp (x k : Nat) (s : Nat × Nat) : Nat × Nat := if z_dist x (z_ST k) < s.2 then (k, z_dist x (z_ST k)) else s
theorem zc_nearest {x : Nat} (hx : x ≤ 1999) {post : Int32 → Prop} : ∀ (k i : Nat) (s : Nat × Nat), i + k = 12 → s.1 < 12 → s.2 = z_dist x (z_ST s.1) → post (nI (z_it (z_stp x) k i s).1) → L_X9_nearestStep_4 (nI x) post (k + 1) (nI s.1) (nI i) := by
  intro k
  induction k with
  | zero =>
    intro i s hi h1 h2 h
    rw [L_X9_nearestStep_4]
    exact pk_le 12 i (fun _ => h) (fun e => by omega)
  | succ k ih =>
    intro i s hi h1 h2 h
    have t1 := z_ST_tb s.1 h1
    have t2 := z_ST_tb i (by omega)
    have d1 := z_dist_b (a := x) (b := z_ST s.1) (m := 1999) hx (by omega)
    have d2 := z_dist_b (a := x) (b := z_ST i) (m := 1999) hx (by omega)
    rw [L_X9_nearestStep_4]
    unfold F_X9_nearestStep_37
    rw [nI_clamp (by omega), nI_clamp (by omega), t1.1, t2.1, z_abs (by omega) (by omega), z_abs (by omega) (by omega)]
    rw [z_it] at h
    refine pk_le 12 i (fun e => by omega) (fun _ => ⟨vp_in_nI (by omega) (by decide), vp_in_nI (by omega) (by decide), ?_⟩)
    refine pk_le (z_dist x (z_ST s.1)) (z_dist x (z_ST i)) (fun e => nm_r (nI_1 i) (ih (i + 1) s (by omega) h1 h2 ?_)) (fun e => nm_r (nI_1 i) (ih (i + 1) (i, z_dist x (z_ST i)) (by omega) (show i < 12 by omega) rfl ?_)) rfl rfl (by omega) (by omega)
    · rw [show z_stp x i s = s from if_neg (by omega)] at h; exact h
    · rw [show z_stp x i s = (i, z_dist x (z_ST i)) from if_pos (by omega)] at h; exact h
theorem zc_octave {post : Int32 → Prop} {a : Nat} (ha : a < 2 ^ 31) (h1 : 1 ≤ a) (h : post (nI (z_dbl 32 (z_half 32 a)))) : F_X9_withinOctave (nI a) post := by
  have dbl : ∀ k a : Nat, k ≤ 32 → a ≤ 1999 → post (nI (z_dbl k a)) → L_X9_withinOctave_29 post (k + 1) (nI a) (nI (32 - k)) := by
    intro k
    induction k with
    | zero =>
      intro a hk ha h
      rw [L_X9_withinOctave_29]
      exact pk_le 32 32 (fun _ => h) (fun e => by omega)
    | succ k ih =>
      intro a hk ha h
      rw [L_X9_withinOctave_29]
      rw [z_dbl] at h
      refine pk_le 32 (32 - (k + 1)) (fun e => by omega) (fun _ => pk_le 1000 a (fun e => ?_) (fun e => nm_r (e' := nI (a * 2)) (by rw [l2, pk_mul]) (nm_r (e' := nI (32 - k)) (by rw [nI_1, show 32 - (k + 1) + 1 = 32 - k by omega]) (ih (a * 2) (by omega) (by omega) ?_))))
      · rw [if_pos e] at h; exact h
      · rw [if_neg (by omega)] at h; exact h
  have half : ∀ k a : Nat, k ≤ 32 → a < 2 ^ 31 → F_X9_withinOctave_27 post (nI (z_half k a)) → L_X9_withinOctave_4 (fun x1_1 => F_X9_withinOctave_27 post x1_1) (k + 1) (nI a) (nI (32 - k)) := by
    intro k
    induction k with
    | zero =>
      intro a hk ha h
      rw [L_X9_withinOctave_4]
      exact pk_le 32 32 (fun _ => h) (fun e => by omega)
    | succ k ih =>
      intro a hk ha h
      rw [L_X9_withinOctave_4]
      rw [z_half] at h
      refine pk_le 32 (32 - (k + 1)) (fun e => by omega) (fun _ => pk_le a 1999 (fun e => ?_) (fun e => nm_r (e' := nI (a / 2)) (pk_div (by omega) (by decide) (by decide)) (nm_r (e' := nI (32 - k)) (by rw [nI_1, show 32 - (k + 1) + 1 = 32 - k by omega]) (ih (a / 2) (by omega) (by omega) ?_))))
      · rw [if_pos e] at h; exact h
      · rw [if_neg (by omega)] at h; exact h
  have hb := z_half_b 32 a h1 (by omega)
  exact ⟨33, half 32 a (by omega) ha ⟨33, dbl 32 _ (by omega) hb.2 h⟩⟩
theorem zm_scale85 {st ref : Nat → Int32} (hst : ∀ k, k < 12 → st k = nI (z_ST k)) {post : Int32 → (Nat → Int32) → Prop} : ∀ k a : Nat, a ≤ 1999 → 1000 ≤ a * 2 ^ k → post (nI (z_it (z_stp (z_dbl k a)) 11 1 (0, z_dist (z_dbl k a) (z_ST 0))).1) ref → L_X10_scale_85 st (-1) 0 ref post (k + 1) (nI a) := by
  have near : ∀ x : Nat, x ≤ 1999 → ∀ (k i : Nat) (s : Nat × Nat), i + k = 12 → s.1 < 12 → s.2 ≤ 1999 → post (nI (z_it (z_stp x) k i s).1) ref → L_X10_scale_105 st (nI x) ref post (k + 1) (nI s.1) (nI s.2) (nI i) := by
    intro x hx k
    induction k with
    | zero =>
      intro i s hi h1 h2 h
      rw [L_X10_scale_105]
      exact pk_le 12 i (fun _ => h) (fun e => by omega)
    | succ k ih =>
      intro i s hi h1 h2 h
      have t2 := z_ST_tb i (by omega)
      have d2 := z_dist_b (a := x) (b := z_ST i) (m := 1999) hx (by omega)
      have hm : ¬ nI s.1 = -1 := fun e => by
        have := congrArg Int32.toInt e
        rw [nI_toInt (by omega)] at this
        have h9 : (-1 : Int32).toInt = -1 := by decide
        omega
      rw [z_it] at h
      rw [L_X10_scale_105]
      unfold F_X10_scale_137 F_X10_scale_155 F_X10_scale_163
      rw [nI_clamp (by omega), hst i (by omega)]
      refine pk_le 12 i (fun e => by omega) (fun _ => ⟨vp_in_nI (by omega) (by decide), nm_e (zm_abs (P := fun z => (nI s.1 = -1 → (∀ x7_163 : Int32, x7_163 = nI i + 1 → L_X10_scale_105 st (nI x) ref post (k + 1) (nI i) z x7_163)) ∧ (¬ nI s.1 = -1 → ((z < nI s.2 → (∀ x7_163 : Int32, x7_163 = nI i + 1 → L_X10_scale_105 st (nI x) ref post (k + 1) (nI i) z x7_163)) ∧ (¬ z < nI s.2 → (∀ x7_163 : Int32, x7_163 = nI i + 1 → L_X10_scale_105 st (nI x) ref post (k + 1) (nI s.1) (nI s.2) x7_163))))) (by omega) (by omega) (br_f hm ?_))⟩)
      rw [show (if z_ST i ≤ x then x - z_ST i else z_ST i - x) = z_dist x (z_ST i) from z_dist_comm _ _]
      refine pk_lt (z_dist x (z_ST i)) s.2 (fun e => nm_r (nI_1 i) (ih (i + 1) (i, z_dist x (z_ST i)) (by omega) (show i < 12 by omega) d2 ?_)) (fun e => nm_r (nI_1 i) (ih (i + 1) s (by omega) h1 h2 ?_)) rfl rfl (by omega) (by omega)
      · rw [show z_stp x i s = (i, z_dist x (z_ST i)) from if_pos (by omega)] at h; exact h
      · rw [show z_stp x i s = s from if_neg (by omega)] at h; exact h
  have first : ∀ x : Nat, x ≤ 1999 → post (nI (z_it (z_stp x) 11 1 (0, z_dist x (z_ST 0))).1) ref → ∃ n, L_X10_scale_105 st (nI x) ref post n (-1) 0 0 := by
    intro x hx h
    refine ⟨13, ?_⟩
    have d2 := z_dist_b (a := x) (b := z_ST 0) (m := 1999) hx (by decide)
    rw [L_X10_scale_105]
    unfold F_X10_scale_137 F_X10_scale_155 F_X10_scale_163
    rw [show (0 : Int32).toNatClampNeg = 0 from rfl, hst 0 (by omega)]
    refine br_f (by decide) ⟨vp_in_nI (n := 0) (by omega) (by decide), nm_e (zm_abs (P := fun z => ((-1 : Int32) = -1 → (∀ x7_163 : Int32, x7_163 = 0 + 1 → L_X10_scale_105 st (nI x) ref post 12 0 z x7_163)) ∧ (¬ (-1 : Int32) = -1 → ((z < 0 → (∀ x7_163 : Int32, x7_163 = 0 + 1 → L_X10_scale_105 st (nI x) ref post 12 0 z x7_163)) ∧ (¬ z < 0 → (∀ x7_163 : Int32, x7_163 = 0 + 1 → L_X10_scale_105 st (nI x) ref post 12 (-1) 0 x7_163))))) (by decide) (by omega) (br_t rfl (nm_r (e' := nI 1) (by decide) ?_)))⟩
    rw [show (if z_ST 0 ≤ x then x - z_ST 0 else z_ST 0 - x) = z_dist x (z_ST 0) from z_dist_comm _ _]
    exact near x hx 11 1 (0, z_dist x (z_ST 0)) (by omega) (show 0 < 12 by omega) d2 h
  intro k
  induction k with
  | zero =>
    intro a ha h1 h
    rw [L_X10_scale_85]
    exact pk_le 1000 a (fun _ => first a ha h) (fun e => by omega)
  | succ k ih =>
    intro a ha h1 h
    rw [L_X10_scale_85]
    rw [z_dbl] at h
    refine pk_le 1000 a (fun e => first a ha ?_) (fun e => nm_r (e' := nI (a * 2)) (by rw [l2, pk_mul]) (ih (a * 2) (by omega) ?_ ?_))
    · rw [if_pos e] at h; exact h
    · rw [Nat.mul_assoc, ← Nat.pow_succ']; exact h1
    · rw [if_neg (by omega)] at h; exact h
theorem zm_scale68 {k85 : Int32 → Prop} : ∀ k a : Nat, a < 2 ^ 31 → a < 2000 * 2 ^ k → k85 (nI (z_half k a)) → L_X10_scale_68 k85 (k + 1) (nI a) := by
  intro k
  induction k with
  | zero =>
    intro a h0 h1 h
    rw [L_X10_scale_68]
    exact pk_le a 1999 (fun _ => h) (fun e => by omega)
  | succ k ih =>
    intro a h0 h1 h
    rw [L_X10_scale_68]
    rw [z_half] at h
    refine pk_le a 1999 (fun e => ?_) (fun e => nm_r (e' := nI (a / 2)) (pk_div (by omega) (by decide) (by decide)) (ih (a / 2) (by omega) ?_ ?_))
    · rw [if_pos e] at h; exact h
    · rw [Nat.pow_succ] at h1; omega
    · rw [if_neg (by omega)] at h; exact h
section ROAD
variable {N C T : Nat} {kd ot sp tm bs sh spd bt nts pt dm ref : Nat → Int32} {al ne bo te : Nat} {s1 s2 s3 s4 s5 : Int32}
theorem p_35 (hS : z_VS N kd ot sp tm) {st : Nat → Int32} (hst : ∀ k, k < 12 → st k = nI (z_ST k)) {post : (Nat → Int32) → (Nat → Int32) → Prop} (h : ∀ R, post R R) : O_35 (nI N) kd ot ref sp st ref (nI N) kd ot sp s1 s2 s3 s4 s5 post := by
  have hN := hS.1
  unfold O_35 F_X9_scale
  refine zo_X7has hN (fun c => z_b0 (z_ra1 ?_)) (fun i hi e => z_b1 (zo_isSpeed (fun c => z_b0 (z_ra6 ?_)) (fun c1 c2 => z_b1 (zo_within (fun c => z_b0 (z_ra6 ?_)) (fun d1 d2 => z_b1 ?_)))))
  · unfold F_X10_scale
    exact zf_mStretch hN c (z_b0 (z_nt1 (z_eq (h _))))
  · subst e
    unfold F_X10_scale
    exact zt_mStretch hN hi (z_b1 (zmf_isSpeed c (z_b0 (z_nt6 (z_eq (h _))))))
  · subst e
    unfold F_X10_scale
    exact zt_mStretch hN hi (z_b1 (zmt_isSpeed c1 c2 (z_b1 (z_out2 c (z_nt6 (z_eq (h _)))))))
  · subst e
    obtain ⟨v, hv1, hv2, rfl⟩ := z_rng 1 99 c1 c2 (by decide) (by decide)
    obtain ⟨b, hb1, hb2, rfl⟩ := z_rng 1 9999 d1 d2 (by decide) (by decide)
    have hb := z_hum_b hS hi hv2
    have hq : z_hum kd ot sp i v * 1000 / b ≤ 139392000 := Nat.le_trans (Nat.div_le_self _ _) (by omega)
    refine zc_humOf hS hi hv2 ?_
    unfold F_X9_quotient
    rw [l1000, pk_mul, pk_div (by omega) (by omega) (by omega)]
    have mod : ∀ {post : Int32 → (Nat → Int32) → Prop}, (nI (z_hum kd ot sp i v * 1000 / b) = 0 → post (-1) ref) → (¬ nI (z_hum kd ot sp i v * 1000 / b) = 0 → ∃ n68 : Nat, L_X10_scale_68 (fun x4_1 => (∃ n85 : Nat, L_X10_scale_85 st (-1) 0 ref post n85 x4_1)) n68 (nI (z_hum kd ot sp i v * 1000 / b))) → F_X10_scale (nI N) kd ot ref sp st (nI i) (nI v) (nI b) post := by
      intro post g1 g2
      unfold F_X10_scale
      refine zt_mStretch hN hi (z_b1 (zmt_isSpeed c1 c2 (z_b1 (z_inn2 d1 d2 (zm_humOf hS hi hv2 ⟨nI_ne0 (by omega) (by omega), nm_r (e' := nI (z_hum kd ot sp i v * 1000 / b)) (by rw [l1000, pk_mul, pk_div (by omega) (by omega) (by omega)]) ⟨g1, g2⟩⟩)))))
    refine br_f (nI_ne0 (by omega) (by omega)) ⟨nI_ne0 (by omega) (by omega), ?_⟩
    refine pk_eq _ 0 (fun e => ?_) (fun e => ?_) rfl rfl (by omega) (by omega)
    · exact mod (fun _ => z_eq (h _)) (fun f => absurd (by rw [e]; rfl) f)
    · generalize z_hum kd ot sp i v * 1000 / b = q at mod hq e ⊢
      have hh := z_half_b 32 q (by omega) (by omega)
      have hd := z_dbl_b 32 _ hh.2
      refine zc_octave (by omega) (by omega) ⟨12, zc_nearest hd 11 1 (0, z_dist (z_dbl 32 (z_half 32 q)) (z_ST 0)) (by omega) (show 0 < 12 by omega) rfl ?_⟩
      exact mod (fun f => absurd f (nI_ne0 (by omega) (by omega))) (fun _ => ⟨33, zm_scale68 32 q (by omega) (by omega) ⟨33, zm_scale85 hst 32 _ hh.2 (by omega) (z_eq (h _))⟩⟩)
theorem p_46 (hS : z_VS N kd ot sp tm) (hC : z_VC C bs sh spd) {tn sd rn : Int32} {post : Prop} (h : post) : O_46 (nI N) (nI C) tn sd rn kd ot ref sh sp tm rn ref sd (nI C) sh (nI N) kd ot sp tm tn s1 s2 s3 s4 s5 post := by
  unfold O_46 F_X9_status
  rcases z_few (x := s1) 6 (by decide) with ⟨n, hn, rfl⟩ | c
  · have h3 : n = 0 ∨ n = 1 ∨ n = 2 ∨ n = 3 ∨ n = 4 ∨ n = 5 ∨ n = 6 := by omega
    rcases h3 with rfl | rfl | rfl | rfl | rfl | rfl | rfl
    · exact br_t rfl (br_t (by decide) (br_t rfl (z_eq h)))
    · exact br_f (by decide) (br_t rfl (br_t (by decide) (br_f (by decide) (br_t rfl (z_eq h)))))
    · exact br_f (by decide) (br_f (by decide) (br_t rfl (br_t (by decide) (br_f (by decide) (br_f (by decide) (br_t rfl (z_eq h)))))))
    · exact br_f (by decide) (br_f (by decide) (br_f (by decide) (br_t rfl (zc_lengthOfAll hS (br_t (by decide) (br_f (by decide) (br_f (by decide) (br_f (by decide) (br_t rfl (zm_status85 hS (z_eq h)))))))))))
    · exact br_f (by decide) (br_f (by decide) (br_f (by decide) (br_f (by decide) (br_t rfl (zc_shareOfAll hC (br_t (by decide) (br_f (by decide) (br_f (by decide) (br_f (by decide) (br_f (by decide) (br_t rfl (zm_shares hC (z_eq h)))))))))))))
    · exact br_f (by decide) (br_f (by decide) (br_f (by decide) (br_f (by decide) (br_f (by decide) (br_t rfl (br_t (by decide) (br_f (by decide) (br_f (by decide) (br_f (by decide) (br_f (by decide) (br_f (by decide) (br_t rfl (z_eq h)))))))))))))
    · exact br_f (by decide) (br_f (by decide) (br_f (by decide) (br_f (by decide) (br_f (by decide) (br_f (by decide) (br_t rfl (br_t (by decide) (br_f (by decide) (br_f (by decide) (br_f (by decide) (br_f (by decide) (br_f (by decide) (br_f (by decide) (br_t rfl (z_eq h)))))))))))))))
  · have n0 : ¬ s1 = 0 := fun e => c (by rw [e]; decide)
    have n1 : ¬ s1 = 1 := fun e => c (by rw [e]; decide)
    have n2 : ¬ s1 = 2 := fun e => c (by rw [e]; decide)
    have n3 : ¬ s1 = 3 := fun e => c (by rw [e]; decide)
    have n4 : ¬ s1 = 4 := fun e => c (by rw [e]; decide)
    have n5 : ¬ s1 = 5 := fun e => c (by rw [e]; decide)
    have n6 : ¬ s1 = 6 := fun e => c (by rw [e]; decide)
    refine br_f n0 (br_f n1 (br_f n2 (br_f n3 (br_f n4 (br_f n5 (br_f n6 (zo_within (fun d => z_b0 ?_) (fun d1 d2 => z_b1 ?_))))))))
    · unfold F_X10_status F_X10_status_22
      exact z_out d (br_f n0 (br_f n1 (br_f n2 (br_f n3 (br_f n4 (br_f n5 (br_f n6 (z_eq h))))))))
    · have hv : vp_in (s1 - 10) 8 := by
        obtain ⟨n, hn1, hn2, rfl⟩ := z_rng 11 17 d1 d2 (by decide) (by decide)
        rw [show nI n - 10 = nI (n - 10) from pk_sub (b := 10) (by omega)]
        exact vp_in_nI (by omega) (by decide)
      unfold F_X10_status
      exact ⟨hv, z_inn d1 d2 ⟨hv, z_eq h⟩⟩
/-! day -/
def z_sd (sd : Int32) : Int32 := sd * 1103515245 + 12345
def z_dr (sd : Int32) : Nat := (z_sd sd).toBitVec.toNat / 65536 % 100
theorem z_draw (x : Int32) : (x.toUInt32 >>> ((16 : Int32).toUInt32 &&& Int32.toUInt32 31)).toInt32 = nI (x.toBitVec.toNat / 65536) := by
  have h1 := pk_ushr x 16 16 (by decide)
  have h2 : x.toBitVec.toNat < 2 ^ 32 := x.toBitVec.isLt
  refine Int32.toBitVec_inj.mp (BitVec.eq_of_toNat_eq ?_)
  rw [h1, pk_tn (by omega)]
theorem z_draw100 (x : Int32) : (x.toUInt32 >>> ((16 : Int32).toUInt32 &&& Int32.toUInt32 31)).toInt32 - (x.toUInt32 >>> ((16 : Int32).toUInt32 &&& Int32.toUInt32 31)).toInt32 / 100 * 100 = nI (x.toBitVec.toNat / 65536 % 100) := by
  rw [z_draw]
  have h2 : x.toBitVec.toNat < 2 ^ 32 := x.toBitVec.isLt
  exact pk_rem (d := 100) (by omega) (by decide) (by decide)
def z_cs (sh : Nat → Int32) (d c : Nat) : Bool := decide (d < z_sum (fun i => z_tn (sh i)) (c + 1))
theorem z_ssum_b (hC : z_VC C bs sh spd) {i : Nat} (hi : i ≤ C) : z_sum (fun i => z_tn (sh i)) i ≤ 100 := Nat.le_trans (z_sum_mono hi) hC.2.2
theorem zc_carAt (hC : z_VC C bs sh spd) {d : Nat} (hd : d < 100) {post : Int32 → Prop} (h : post (if z_ff (z_cs sh d) C 0 < C then nI (z_ff (z_cs sh d) C 0) else -1)) : F_X1_carAtShare (nI C) sh (nI d) post := by
  have hN := hC.1
  have key : ∀ k i : Nat, i + k = C → post (if z_ff (z_cs sh d) k i < C then nI (z_ff (z_cs sh d) k i) else -1) → L_X1_carAtShare_4 (nI C) sh (nI d) post (k + 1) (nI (z_sum (fun i => z_tn (sh i)) i)) (nI i) := by
    intro k
    induction k with
    | zero =>
      intro i hi h
      rw [L_X1_carAtShare_4]
      refine pk_le C i (fun _ => ?_) (fun e => by omega)
      rw [z_ff, if_neg (by omega)] at h; exact h
    | succ k ih =>
      intro i hi h
      have hs := hC.shr (c := i) (by omega)
      have hb := z_ssum_b hC (i := i + 1) (by omega)
      rw [L_X1_carAtShare_4]
      refine pk_le C i (fun e => by omega) (fun _ => zc_shareOf hC.1 (by omega) (nm_r (z_sumStep hs.1 (by omega)) ?_))
      refine pk_le (z_sum (fun i => z_tn (sh i)) (i + 1)) d (fun e => nm_r (nI_1 i) (ih (i + 1) (by omega) ?_)) (fun e => ?_)
      · rw [z_ff_f (show z_cs sh d i = false from decide_eq_false (by omega))] at h; exact h
      · rw [z_ff_t (show z_cs sh d i = true from decide_eq_true (by omega)), if_pos (by omega)] at h; exact h
  exact ⟨C + 1, key C 0 (by omega) h⟩
theorem zm_carAt (hC : z_VC C bs sh spd) {d : Nat} (hd : d < 100) {k94 : Int32 → Prop} (h : k94 (nI (z_ff (z_cs sh d) C 0))) : ∃ n, L_X10_day_55 (nI C) sh k94 n (nI d) 0 := by
  have hN := hC.1
  have key : ∀ k i : Nat, i + k = C → z_sum (fun i => z_tn (sh i)) i ≤ d → k94 (nI (z_ff (z_cs sh d) k i)) → L_X10_day_55 (nI C) sh k94 (k + 1) (nI (d - z_sum (fun i => z_tn (sh i)) i)) (nI i) := by
    intro k
    induction k with
    | zero =>
      intro i hi hd2 h
      rw [L_X10_day_55]
      exact pk_le C i (fun _ => h) (fun e => by omega)
    | succ k ih =>
      intro i hi hd2 h
      have hs := hC.shr (c := i) (by omega)
      have e3 : z_sum (fun i => z_tn (sh i)) (i + 1) = z_sum (fun i => z_tn (sh i)) i + z_tn (sh i) := rfl
      rw [L_X10_day_55, nI_clamp (by omega), hs.1]
      refine pk_le C i (fun e => by omega) (fun _ => ⟨vp_in_nI (by omega) (by decide), pk_lt _ _ (fun e => ?_) (fun e => ⟨vp_in_nI (by omega) (by decide), nm_r (e' := nI (d - z_sum (fun i => z_tn (sh i)) (i + 1))) (by rw [pk_sub e, e3, Nat.sub_sub]) (nm_r (nI_1 i) (ih (i + 1) (by omega) (by omega) ?_))⟩) rfl rfl (by omega) (by omega)⟩)
      · rw [z_ff_t (show z_cs sh d i = true from decide_eq_true (by omega))] at h; exact h
      · rw [z_ff_f (show z_cs sh d i = false from decide_eq_false (by omega))] at h; exact h
  exact ⟨C + 1, key C 0 (by omega) (Nat.zero_le _) h⟩
theorem z_bits_congr {p q : Nat → Bool} : ∀ n, (∀ i, i < n → p i = q i) → z_bits p n = z_bits q n
  | 0, _ => rfl
  | n + 1, h => by rw [z_bits, z_bits, h n (by omega), z_bits_congr n (fun i hi => h i (by omega))]
theorem z_bits_all : ∀ b0 b1 b2 b3 b4 b5 : Bool, ∀ n, n ≤ 6 → ∀ c, c < n → ((((z_bits (fun i => [b0, b1, b2, b3, b4, b5].getD i false) n >>> (nI c &&& 31)) &&& 1) = 1) ↔ [b0, b1, b2, b3, b4, b5].getD c false = true) := by decide +kernel
theorem z_bits_test {p : Nat → Bool} {n c : Nat} (hn : n ≤ 6) (hc : c < n) : (((z_bits p n >>> (nI c &&& 31)) &&& 1) = 1) ↔ p c = true := by
  have e : ∀ i, i < 6 → p i = [p 0, p 1, p 2, p 3, p 4, p 5].getD i false := by
    intro i hi
    have h6 : i = 0 ∨ i = 1 ∨ i = 2 ∨ i = 3 ∨ i = 4 ∨ i = 5 := by omega
    rcases h6 with rfl | rfl | rfl | rfl | rfl | rfl <;> rfl
  rw [z_bits_congr n (fun i hi => e i (by omega)), e c (by omega)]
  exact z_bits_all _ _ _ _ _ _ n hn c hc
def z_hear (N : Nat) (kd ot sp nts pt spd : Nat → Int32) (bo t c : Nat) : Bool := decide (z_worst N kd ot sp nts pt (z_tn (spd c)) t ≤ bo)
theorem zc_hearing (hS : z_VS N kd ot sp tm) (hC : z_VC C bs sh spd) (hT : z_VT T bt nts pt) (hD : z_VD al ne bo te) (hdm : z_dm dm al ne bo te) {t : Nat} (ht : t < T) {post : Int32 → Prop} (h : post (z_bits (z_hear N kd ot sp nts pt spd bo t) C)) : F_X5_hearingCars (nI C) spd dm (nI N) kd ot sp (nI T) nts pt (nI t) post := by
  have hN := hC.1
  have key : ∀ k i : Nat, i + k = C → L_X5_hearingCars_4 (nI C) spd dm (nI N) kd ot sp (nI T) nts pt (nI t) post (k + 1) (z_bits (z_hear N kd ot sp nts pt spd bo t) i) (nI i) := by
    intro k
    induction k with
    | zero =>
      intro i hi
      rw [L_X5_hearingCars_4]
      unfold F_X1_count
      refine pk_le C i (fun _ => ?_) (fun e => by omega)
      rw [show i = C by omega]; exact h
    | succ k ih =>
      intro i hi
      have ih1 := ih (i + 1) (by omega)
      have hw := z_worst_b N kd ot sp nts pt (z_tn (spd i)) t
      have hbo := hD.2.2.1
      rw [L_X5_hearingCars_4]
      unfold F_X1_count F_X5_hearingCars_35
      refine pk_le C i (fun e => by omega) (fun _ => zc_worstOf hS hC hT (by omega) ht (zc_asked (k := 2) (by decide) ?_))
      rw [hdm.2.2.1]
      refine pk_lt bo _ (fun e => nm_r (nI_1 i) ?_) (fun e => nm_e (nm_r (nI_1 i) ?_)) rfl rfl (by omega) (by omega)
      · rw [z_bits_f (show z_hear N kd ot sp nts pt spd bo t i = false from decide_eq_false (by omega))] at ih1; exact ih1
      · rw [z_bits_t (show z_hear N kd ot sp nts pt spd bo t i = true from decide_eq_true e)] at ih1; exact ih1
  exact ⟨C + 1, key C 0 (by omega)⟩
def z_dy (C : Nat) (sh : Nat → Int32) (hear : Nat → Bool) (s : Nat × Int32) : Nat × Int32 := (if z_ff (z_cs sh (z_dr s.2)) C 0 < C ∧ hear (z_ff (z_cs sh (z_dr s.2)) C 0) = true then s.1 + 1 else s.1, z_sd s.2)
theorem z_dr_b (sd : Int32) : z_dr sd < 100 := Nat.mod_lt _ (by decide)
theorem zc_draw {sd : Int32} {post : Int32 → Int32 → Prop} (h : post (nI (z_dr sd)) (z_sd sd)) : F_X5_draw sd 100 post := by
  unfold F_X5_draw
  refine br_t (by decide) ⟨by decide, ?_⟩
  rw [z_draw100]
  exact h
theorem zm_draw {sd : Int32} {post : Int32 → Int32 → Prop} (h : post (nI (z_dr sd)) (z_sd sd)) : F_X10_draw sd 100 post := by
  unfold F_X10_draw
  refine ⟨by decide, ?_⟩
  rw [z_draw100]
  exact h
theorem zc_day (hC : z_VC C bs sh spd) {hear : Nat → Bool} {n : Nat} (hn : n ≤ 200) {post : Int32 → (Nat → Int32) → Int32 → Prop} : ∀ (k i : Nat) (s : Nat × Int32), i + k = n → s.1 ≤ i → post (nI (z_it (fun _ => z_dy C sh hear) k i s).1) ref (z_it (fun _ => z_dy C sh hear) k i s).2 → L_X9_day_53 (nI C) sh (nI n) (z_bits hear C) ref post (k + 1) (nI s.1) (nI i) s.2 := by
  have hN := hC.1
  intro k
  induction k with
  | zero =>
    intro i s hi h1 h
    rw [L_X9_day_53]
    exact pk_le n i (fun _ => h) (fun e => by omega)
  | succ k ih =>
    intro i s hi h1 h
    rw [L_X9_day_53]
    unfold F_X9_day_99
    rw [z_it] at h
    have hd := z_dr_b s.2
    have hf := (z_ff_le (z_cs sh (z_dr s.2)) C 0).2
    refine pk_le n i (fun e => by omega) (fun _ => zc_draw (zc_carAt hC hd ?_))
    by_cases c : z_ff (z_cs sh (z_dr s.2)) C 0 < C
    · rw [if_pos c]
      refine br_f (fun e2 => ?_) ⟨fun e => nm_r (nI_1 _) (nm_r (nI_1 i) ?_), fun e => nm_r (nI_1 i) ?_⟩
      · have := congrArg Int32.toInt e2
        rw [nI_toInt (by omega)] at this
        have h9 : (-1 : Int32).toInt = -1 := by decide
        omega
      · rw [show z_dy C sh hear s = (s.1 + 1, z_sd s.2) by unfold z_dy; rw [if_pos ⟨c, (z_bits_test hN c).mp e⟩]] at h
        exact ih (i + 1) (s.1 + 1, z_sd s.2) (by omega) (show s.1 + 1 ≤ i + 1 by omega) h
      · rw [show z_dy C sh hear s = (s.1, z_sd s.2) by unfold z_dy; rw [if_neg (fun f => e ((z_bits_test hN c).mpr f.2))]] at h
        exact ih (i + 1) (s.1, z_sd s.2) (by omega) (show s.1 ≤ i + 1 by omega) h
    · rw [if_neg c]
      refine br_t rfl (nm_r (nI_1 i) ?_)
      rw [show z_dy C sh hear s = (s.1, z_sd s.2) by unfold z_dy; rw [if_neg (fun f => c f.1)]] at h
      exact ih (i + 1) (s.1, z_sd s.2) (by omega) (show s.1 ≤ i + 1 by omega) h
theorem zm_day (hS : z_VS N kd ot sp tm) (hC : z_VC C bs sh spd) (hT : z_VT T bt nts pt) (hD : z_VD al ne bo te) {t n : Nat} (ht : t < T) (hn : n ≤ 200) {post : Int32 → Int32 → (Nat → Int32) → Prop} : ∀ (k i : Nat) (s : Nat × Int32), i + k = n → s.1 ≤ i → post (nI (z_it (fun _ => z_dy C sh (z_hear N kd ot sp nts pt spd bo t)) k i s).1) (z_it (fun _ => z_dy C sh (z_hear N kd ot sp nts pt spd bo t)) k i s).2 ref → L_X10_day_38 (nI N) (nI C) (nI bo) kd nts ot pt sh sp spd (nI t) (nI n) ref post (k + 1) (nI s.1) (nI i) s.2 := by
  have hN := hC.1
  have hbo := hD.2.2.1
  intro k
  induction k with
  | zero =>
    intro i s hi h1 h
    rw [L_X10_day_38]
    exact pk_le n i (fun _ => h) (fun e => by omega)
  | succ k ih =>
    intro i s hi h1 h
    rw [L_X10_day_38]
    rw [z_it] at h
    have hd := z_dr_b s.2
    have hf := (z_ff_le (z_cs sh (z_dr s.2)) C 0).2
    refine pk_le n i (fun e => by omega) (fun _ => zm_draw (zm_carAt hC hd ?_))
    unfold F_X10_day_94 F_X10_day_120
    refine pk_le C _ (fun c => nm_r (nI_1 i) ?_) (fun c => zm_worstOf hS hC hT c ht ?_) rfl rfl (by omega) (by omega)
    · rw [show z_dy C sh (z_hear N kd ot sp nts pt spd bo t) s = (s.1, z_sd s.2) by unfold z_dy; rw [if_neg (fun f => by omega)]] at h
      exact ih (i + 1) (s.1, z_sd s.2) (by omega) (show s.1 ≤ i + 1 by omega) h
    · have hw := z_worst_b N kd ot sp nts pt (z_tn (spd (z_ff (z_cs sh (z_dr s.2)) C 0))) t
      refine pk_lt bo _ (fun e => nm_r (nI_1 i) ?_) (fun e => nm_r (nI_1 _) (nm_r (nI_1 i) ?_)) rfl rfl (by omega) (by omega)
      · rw [show z_dy C sh (z_hear N kd ot sp nts pt spd bo t) s = (s.1, z_sd s.2) by unfold z_dy; rw [if_neg (fun f => by have := of_decide_eq_true f.2; omega)]] at h
        exact ih (i + 1) (s.1, z_sd s.2) (by omega) (show s.1 ≤ i + 1 by omega) h
      · rw [show z_dy C sh (z_hear N kd ot sp nts pt spd bo t) s = (s.1 + 1, z_sd s.2) by unfold z_dy; rw [if_pos ⟨c, decide_eq_true e⟩]] at h
        exact ih (i + 1) (s.1 + 1, z_sd s.2) (by omega) (show s.1 + 1 ≤ i + 1 by omega) h
theorem p_40 (hS : z_VS N kd ot sp tm) (hC : z_VC C bs sh spd) (hT : z_VT T bt nts pt) (hD : z_VD al ne bo te) (hdm : z_dm dm al ne bo te) {sd : Int32} {post : Int32 → (Nat → Int32) → (Nat → Int32) → Int32 → Prop} (h : ∀ R z, post z R R z) : O_40 (nI N) (nI C) (nI T) (nI bo) sd kd nts ot pt ref sh sp spd ref sd (nI C) sh spd dm (nI N) kd ot sp (nI T) nts pt s1 s2 s3 s4 s5 post := by
  have hT1 := hT.1
  unfold O_40 F_X9_day
  refine zo_X8has hT1 (fun c => z_b0 (z_r1 ?_)) (fun t ht e => z_b1 (zo_within (fun c => z_b0 (z_r6 ?_)) (fun c1 c2 => z_b1 ?_)))
  · unfold F_X10_day
    exact zf_mTune hT1 c (z_b0 (z_n1 (z_eq (h _ _))))
  · subst e
    unfold F_X10_day
    exact zt_mTune hT1 ht (z_b1 (z_out2 c (z_n6 (z_eq (h _ _)))))
  · subst e
    obtain ⟨n, hn1, hn2, rfl⟩ := z_rng 1 200 c1 c2 (by decide) (by decide)
    refine zc_hearing hS hC hT hD hdm ht ⟨n + 1, zc_day hC hn2 n 0 (0, sd) (by omega) (Nat.le_refl _) ?_⟩
    unfold F_X10_day
    exact zt_mTune hT1 ht (z_b1 (z_inn2 c1 c2 ⟨n + 1, zm_day hS hC hT hD ht hn2 n 0 (0, sd) (by omega) (Nat.le_refl _) (z_eq (h _ _))⟩))
end ROAD
