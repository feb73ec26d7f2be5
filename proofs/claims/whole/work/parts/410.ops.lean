/-! operations: small ones -/
theorem z_out {x a b : Int32} {A B : Prop} (c : ¬ (a ≤ x ∧ x ≤ b)) (h : A) : (x < a → A) ∧ (¬ x < a → ((b < x → A) ∧ (¬ b < x → B))) := ⟨fun _ => h, fun d => ⟨fun _ => h, fun e => absurd ⟨z_nlt d, z_nlt e⟩ c⟩⟩
theorem z_inn {x a b : Int32} {A B : Prop} (c : a ≤ x) (d : x ≤ b) (h : B) : (x < a → A) ∧ (¬ x < a → ((b < x → A) ∧ (¬ b < x → B))) := ⟨fun e => absurd e (z_lnt c), fun _ => ⟨fun e => absurd e (z_lnt d), fun _ => h⟩⟩
theorem z_out2 {x a b : Int32} {A B : Prop} (c : ¬ (a ≤ x ∧ x ≤ b)) (h : A) : (x < a → A) ∧ (¬ x < a → ((x ≤ b → B) ∧ (¬ x ≤ b → A))) := ⟨fun _ => h, fun d => ⟨fun e => absurd ⟨z_nlt d, e⟩ c, fun _ => h⟩⟩
theorem z_inn2 {x a b : Int32} {A B : Prop} (c : a ≤ x) (d : x ≤ b) (h : B) : (x < a → A) ∧ (¬ x < a → ((x ≤ b → B) ∧ (¬ x ≤ b → A))) := ⟨fun e => absurd e (z_lnt c), fun _ => ⟨fun _ => h, fun e => absurd d e⟩⟩
/-- one of a few numbers, or outside -/
theorem z_few {x : Int32} (m : Nat) (hm : m < 2 ^ 31) : (∃ n, n ≤ m ∧ x = nI n) ∨ ¬ (0 ≤ x ∧ x ≤ nI m) := by
  by_cases c : 0 ≤ x ∧ x ≤ nI m
  · obtain ⟨n, -, hn, e⟩ := z_rng 0 m c.1 c.2 (by omega) hm
    exact Or.inl ⟨n, hn, e⟩
  · exact Or.inr c
theorem p_17 {fa : Int32} {s1 s2 s3 s4 s5 : Int32} {post : Prop} (h : post) : O_17 fa fa s1 s2 s3 s4 s5 post := z_eq h
theorem p_41 {sd : Int32} {s1 s2 s3 s4 s5 : Int32} {post : Int32 → Int32 → Prop} (h : post s1 s1) : O_41 sd sd s1 s2 s3 s4 s5 post := z_eq h
theorem p_43 {ran : Int32} {tr : Nat → Int32} {s1 s2 s3 s4 s5 : Int32} {post : Prop} (h : post) : O_43 ran tr ran tr s1 s2 s3 s4 s5 post := by
  unfold O_43 F_X9_trace F_X0_bodyAt F_X10_trace
  refine ⟨fun c => ⟨fun _ => z_eq h, fun d => absurd c d⟩, fun c => ⟨fun d => ⟨fun e => absurd e c, fun _ => ⟨fun _ => z_eq h, fun _ => ⟨fun _ => z_eq h, fun e => absurd d e⟩⟩⟩, fun d => ⟨fun e => ⟨fun f => absurd f c, fun _ => ⟨fun _ => z_eq h, fun f => absurd e f⟩⟩, fun e => ?_⟩⟩⟩
  have hv : vp_in s1 20 := by
    obtain ⟨i, hi, rfl⟩ := z_Bl.of (N := 20) (by decide) c e
    exact vp_in_nI hi (by decide)
  exact ⟨hv, ⟨fun f => absurd f c, fun _ => ⟨fun f => absurd f e, fun _ => ⟨fun f => absurd f d, fun _ => ⟨hv, z_eq h⟩⟩⟩⟩⟩
section OPS
variable {N C T : Nat} {kd ot sp tm bs sh spd bt nts pt dm ref : Nat → Int32} {al ne bo te : Nat} {s1 s2 s3 s4 s5 : Int32}
theorem p_18 (hS : z_VS N kd ot sp tm) {post : (Nat → Int32) → (Nat → Int32) → Prop} (h : ∀ R, post R R) : O_18 (nI N) kd ot ref sp ref (nI N) kd ot sp s1 s2 s3 s4 s5 post := by
  have hN := hS.1
  unfold O_18 F_X9_hum
  refine zo_X7has hN (fun c => z_b0 (z_r1 ?_)) (fun i hi e => z_b1 (zo_isSpeed (fun c => z_b0 (z_r6 ?_)) (fun c1 c2 => z_b1 ?_)))
  · unfold F_X10_hum
    exact zf_mStretch hN c (z_b0 (z_n1 (z_eq (h _))))
  · subst e
    unfold F_X10_hum
    exact zt_mStretch hN hi (z_b1 (zmf_isSpeed c (z_b0 (z_n6 (z_eq (h _))))))
  · subst e
    obtain ⟨v, hv1, hv2, rfl⟩ := z_rng 1 99 c1 c2 (by decide) (by decide)
    refine zc_humOf hS hi hv2 ?_
    unfold F_X10_hum
    exact zt_mStretch hN hi (z_b1 (zmt_isSpeed c1 c2 (z_b1 (zm_humOf hS hi hv2 (z_eq (h _))))))
theorem p_19 (hS : z_VS N kd ot sp tm) {post : (Nat → Int32) → (Nat → Int32) → Prop} (h : ∀ R, post R R) : O_19 (nI N) kd ot ref sp tm ref (nI N) kd ot sp tm s1 s2 s3 s4 s5 post := by
  have hN := hS.1
  unfold O_19 F_X9_lasts
  refine zo_X7has hN (fun c => z_b0 (z_r1 ?_)) (fun i hi e => z_b1 (zo_isSpeed (fun c => z_b0 (z_r6 ?_)) (fun c1 c2 => z_b1 ?_)))
  · unfold F_X10_lasts
    exact zf_mStretch hN c (z_b0 (z_n1 (z_eq (h _))))
  · subst e
    unfold F_X10_lasts
    exact zt_mStretch hN hi (z_b1 (zmf_isSpeed c (z_b0 (z_n6 (z_eq (h _))))))
  · subst e
    obtain ⟨v, hv1, hv2, rfl⟩ := z_rng 1 99 c1 c2 (by decide) (by decide)
    refine zc_lastingOf hS hi hv1 hv2 ?_
    unfold F_X10_lasts
    exact zt_mStretch hN hi (z_b1 (zmt_isSpeed c1 c2 (z_b1 (zm_lengthOf hS hi (zm_lastsBy (z_len_b hS hi) hv1 hv2 (z_eq (h _)))))))
theorem p_20 (hS : z_VS N kd ot sp tm) {post : (Nat → Int32) → (Nat → Int32) → Prop} (h : ∀ R, post R R) : O_20 (nI N) kd ref ref (nI N) kd s1 s2 s3 s4 s5 post := by
  have hN := hS.1
  unfold O_20 F_X9_loud
  refine zo_X7has hN (fun c => z_b0 (z_r1 ?_)) (fun i hi e => z_b1 (zo_within (fun c => z_b0 (z_r6 ?_)) (fun c1 c2 => z_b1 ?_)))
  · unfold F_X10_loud
    exact zf_mStretch hN c (z_b0 (z_n1 (z_eq (h _))))
  · subst e
    unfold F_X10_loud
    exact zt_mStretch hN hi (z_b1 (z_out c (z_n6 (z_eq (h _)))))
  · subst e
    obtain ⟨v, -, hv2, rfl⟩ := z_rng 0 50 c1 c2 (by decide) (by decide)
    refine zc_loudnessOf hS hi hv2 ?_
    unfold F_X10_loud
    exact zt_mStretch hN hi (z_b1 (z_inn c1 c2 (zm_loudOf hS hi hv2 (z_eq (h _)))))
theorem p_21 {post : (Nat → Int32) → (Nat → Int32) → Prop} (h : ∀ R, post R R) : O_21 ref ref s1 s2 s3 s4 s5 post := by
  unfold O_21 F_X9_off
  refine zo_within (fun c => z_b0 (z_r6 ?_)) (fun c1 c2 => z_b1 (zo_within (fun c => z_b0 (z_r6 ?_)) (fun d1 d2 => z_b1 ?_)))
  · unfold F_X10_off
    exact z_out c (z_n6 (z_eq (h _)))
  · unfold F_X10_off
    exact z_inn c1 c2 (z_out c (z_n6 (z_eq (h _))))
  · obtain ⟨a, -, ha, rfl⟩ := z_rng 0 99999 c1 c2 (by decide) (by decide)
    obtain ⟨b, -, hb, rfl⟩ := z_rng 0 99999 d1 d2 (by decide) (by decide)
    refine zc_off (by omega) hb ?_
    unfold F_X10_off
    exact z_inn c1 c2 (z_inn d1 d2 (zm_off (by omega) hb (z_eq (h _))))
theorem p_22 (hS : z_VS N kd ot sp tm) (hC : z_VC C bs sh spd) (hT : z_VT T bt nts pt) {post : (Nat → Int32) → (Nat → Int32) → Prop} (h : ∀ R, post R R) : O_22 (nI N) (nI C) (nI T) kd nts ot pt ref sp spd ref (nI C) spd (nI N) kd ot sp (nI T) nts pt s1 s2 s3 s4 s5 post := by
  have hT1 := hT.1
  unfold O_22 F_X9_note
  refine zo_X1has hC.1 (fun c => z_b0 (z_r1 ?_)) (fun i hi e => z_b1 (zo_hasNote hT (fun c => z_b0 (z_r1 ?_)) (fun t j ht hj e1 e2 => z_b1 ?_)))
  · unfold F_X10_note
    exact zf_mCar hC.1 c (z_b0 (z_n1 (z_eq (h _))))
  · subst e
    unfold F_X10_note
    refine zt_mCar hC.1 hi (z_b1 (zo_mTune hT1 (fun _ => z_b0 (z_n1 (z_eq (h _)))) (fun t ht e => z_b1 ⟨fun _ => z_n1 (z_eq (h _)), fun d => ?_⟩)))
    subst e
    have h12 := (hT.2 t ht).1.2
    rw [nI_clamp (by omega), (hT.2 t ht).1.1]
    refine ⟨vp_in_nI (by omega) (by decide), fun f => ?_, fun _ => z_n1 (z_eq (h _))⟩
    obtain ⟨j, hj, rfl⟩ := z_Bl.of (N := z_nt nts t) (by omega) d (z_ltn f)
    exact absurd ⟨t, j, ht, hj, rfl, rfl⟩ c
  · subst e e1 e2
    have h12 := (hT.2 t ht).1.2
    refine zc_offOfNote hS hC hT hi ht hj ?_
    unfold F_X10_note
    refine zt_mCar hC.1 hi (z_b1 (zt_mTune hT1 ht (z_b1 (br_f (nI_pos (by omega)) ?_))))
    rw [nI_clamp (by omega), (hT.2 t ht).1.1]
    exact ⟨vp_in_nI (by omega) (by decide), br_t (nI_lt hj (by omega)) (zm_noteBy hS hC hT hi ht hj (z_eq (h _)))⟩
theorem p_23 (hS : z_VS N kd ot sp tm) (hC : z_VC C bs sh spd) (hT : z_VT T bt nts pt) (hD : z_VD al ne bo te) (hdm : z_dm dm al ne bo te) {post : (Nat → Int32) → (Nat → Int32) → Prop} (h : ∀ R, post R R) : O_23 (nI N) (nI C) (nI T) (nI bo) (nI te) bt kd nts ot pt ref sp spd tm ref (nI C) spd dm (nI N) kd ot sp tm (nI T) bt nts pt s1 s2 s3 s4 s5 post := by
  have hT1 := hT.1
  have hbo := hD.2.2.1
  unfold O_23 F_X9_hears
  refine zo_X1has hC.1 (fun c => z_b0 (z_r1 ?_)) (fun i hi e => z_b1 (zo_X8has hT1 (fun c => z_b0 (z_r1 ?_)) (fun t ht e2 => z_b1 ?_)))
  · unfold F_X10_hears
    exact zf_mCar hC.1 c (z_b0 (z_n1 (z_eq (h _))))
  · subst e
    unfold F_X10_hears
    exact zt_mCar hC.1 hi (z_b1 (zf_mTune hT1 c (z_b0 (z_n1 (z_eq (h _))))))
  · subst e e2
    have hw := z_worst_b N kd ot sp nts pt (z_tn (spd i)) t
    rcases z_few (x := s3) 2 (by decide) with ⟨n, hn, rfl⟩ | c
    · have h3 : n = 0 ∨ n = 1 ∨ n = 2 := by omega
      rcases h3 with rfl | rfl | rfl
      · refine br_t rfl (zc_worstOf hS hC hT hi ht ?_)
        unfold F_X10_hears
        exact zt_mCar hC.1 hi (z_b1 (zt_mTune hT1 ht (z_b1 (z_inn2 (a := 0) (b := 2) (by decide) (by decide) (br_t rfl (zm_worstOf hS hC hT hi ht (z_eq (h _))))))))
      · refine br_f (by decide) (br_t rfl (zc_latenessOf hS hC hT hD hdm hi ht ?_))
        unfold F_X10_hears
        exact zt_mCar hC.1 hi (z_b1 (zt_mTune hT1 ht (z_b1 (z_inn2 (a := 0) (b := 2) (by decide) (by decide) (br_f (by decide) (br_t rfl (zm_lateOf hS hC hT hD hi ht (z_eq (h _)))))))))
      · refine br_f (by decide) (br_f (by decide) (br_t rfl ?_))
        unfold F_X5_isHeardBy
        refine zc_worstOf hS hC hT hi ht (zc_asked (k := 2) (by decide) ?_)
        rw [hdm.2.2.1]
        refine pk_lt bo _ (fun e => z_b0 ?_) (fun e => z_b1 ?_) rfl rfl (by omega) (by omega)
        · unfold F_X10_hears
          exact zt_mCar hC.1 hi (z_b1 (zt_mTune hT1 ht (z_b1 (z_inn2 (a := 0) (b := 2) (by decide) (by decide) (br_f (by decide) (br_f (by decide) (zm_worstOf hS hC hT hi ht (br_t (nI_lt e (by omega)) (z_eq (h _))))))))))
        · unfold F_X10_hears
          exact zt_mCar hC.1 hi (z_b1 (zt_mTune hT1 ht (z_b1 (z_inn2 (a := 0) (b := 2) (by decide) (by decide) (br_f (by decide) (br_f (by decide) (zm_worstOf hS hC hT hi ht (br_f (nI_nlt e (by omega)) (z_eq (h _))))))))))
    · refine br_f (fun e => c (by rw [e]; decide)) (br_f (fun e => c (by rw [e]; decide)) (br_f (fun e => c (by rw [e]; decide)) (z_r5 ?_)))
      unfold F_X10_hears
      exact zt_mCar hC.1 hi (z_b1 (zt_mTune hT1 ht (z_b1 (z_out2 (b := 2) c (z_n5 (z_eq (h _)))))))
theorem p_24 (hS : z_VS N kd ot sp tm) (hD : z_VD al ne bo te) (hdm : z_dm dm al ne bo te) {cu : Int32} {post : Int32 → Prop} (h : ∀ c, post c) : O_24 (nI N) (nI al) (nI ne) cu kd ot sp tm dm (nI N) kd ot sp tm s1 s2 s3 s4 s5 post := by
  unfold O_24
  refine zc_wrong hS hD hdm ?_
  unfold F_X10_wrong_
  exact zm_wrongOf hS hD (z_eq (h _))
theorem p_25 (hS : z_VS N kd ot sp tm) (hD : z_VD al ne bo te) (hdm : z_dm dm al ne bo te) {cu : Int32} {post : Int32 → Prop} (h : ∀ c, post c) : O_25 (nI N) (nI al) (nI ne) cu kd ot sp tm dm (nI N) kd ot sp tm s1 s2 s3 s4 s5 post := by
  unfold O_25
  refine zc_judge hS hD hdm ?_
  unfold F_X10_judge
  exact zm_wrongOf hS hD (z_eq (h _))
theorem p_26 (hS : z_VS N kd ot sp tm) {post : (Nat → Int32) → (Nat → Int32) → Prop} (h : ∀ R, post R R) : O_26 (nI N) kd ot ref sp ref (nI N) kd ot sp s1 s2 s3 s4 s5 post := by
  unfold O_26 F_X9_meet
  refine zo_within (fun c => z_b0 (z_r6 ?_)) (fun c1 c2 => z_b1 ?_)
  · unfold F_X10_meet
    exact z_out2 c (z_n6 (z_eq (h _)))
  · obtain ⟨b, -, hb, rfl⟩ := z_rng 0 999 c1 c2 (by decide) (by decide)
    refine zc_meet hS hb ?_
    unfold F_X10_meet
    exact z_inn2 c1 c2 (zm_meet hS hb (z_eq (h _)))
theorem p_12 (hC : z_VC C bs sh spd) {post : (Nat → Int32) → (Nat → Int32) → Prop} (h : ∀ R, post R R) : O_12 (nI C) bs ref sh spd ref (nI C) bs sh spd s1 s2 s3 s4 s5 post := by
  have hC1 := hC.1
  unfold O_12 F_X9_carOf
  refine zo_X1has hC1 (fun c => z_b0 (z_r5 ?_)) (fun i hi e => z_b1 ?_)
  · unfold F_X10_carOf
    exact zf_mCar hC1 c (z_b0 (z_n5 (z_eq (h _))))
  · subst e
    have hc : (nI i).toNatClampNeg = i := nI_clamp (by omega)
    rcases z_few (x := s2) 2 (by decide) with ⟨n, hn, rfl⟩ | c
    · have h3 : n = 0 ∨ n = 1 ∨ n = 2 := by omega
      rcases h3 with rfl | rfl | rfl
      · refine br_t rfl (zc_speedOf hC1 hi ?_)
        unfold F_X10_carOf
        rw [hc]
        exact zt_mCar hC1 hi (z_b1 (z_inn2 (a := 0) (b := 2) (by decide) (by decide) (br_t rfl ⟨vp_in_nI (by omega) (by decide), z_eq (h _)⟩)))
      · refine br_f (by decide) (br_t rfl (zc_baseOf hC1 hi ?_))
        unfold F_X10_carOf
        rw [hc]
        exact zt_mCar hC1 hi (z_b1 (z_inn2 (a := 0) (b := 2) (by decide) (by decide) (br_f (by decide) (br_t rfl ⟨vp_in_nI (by omega) (by decide), z_eq (h _)⟩))))
      · refine br_f (by decide) (br_f (by decide) (br_t rfl (zc_shareOf hC1 hi ?_)))
        unfold F_X10_carOf
        rw [hc]
        exact zt_mCar hC1 hi (z_b1 (z_inn2 (a := 0) (b := 2) (by decide) (by decide) (br_f (by decide) (br_f (by decide) ⟨vp_in_nI (by omega) (by decide), z_eq (h _)⟩))))
    · refine br_f (fun e => c (by rw [e]; decide)) (br_f (fun e => c (by rw [e]; decide)) (br_f (fun e => c (by rw [e]; decide)) (z_r5 ?_)))
      unfold F_X10_carOf
      exact zt_mCar hC1 hi (z_b1 (z_out2 (b := 2) c (z_n5 (z_eq (h _)))))
theorem p_10 (hS : z_VS N kd ot sp tm) {post : (Nat → Int32) → (Nat → Int32) → Prop} (h : ∀ R, post R R) : O_10 (nI N) kd ot ref sp tm ref (nI N) kd ot sp tm s1 s2 s3 s4 s5 post := by
  have hN := hS.1
  unfold O_10 F_X9_stretchOf
  refine zo_X7has hN (fun c => z_b0 (z_r5 ?_)) (fun i hi e => z_b1 ?_)
  · unfold F_X10_stretchOf
    exact zf_mStretch hN c (z_b0 (z_n5 (z_eq (h _))))
  · subst e
    have hc : (nI i).toNatClampNeg = i := nI_clamp (by omega)
    rcases z_few (x := s2) 4 (by decide) with ⟨n, hn, rfl⟩ | c
    · have h3 : n = 0 ∨ n = 1 ∨ n = 2 ∨ n = 3 ∨ n = 4 := by omega
      rcases h3 with rfl | rfl | rfl | rfl | rfl
      · refine br_t rfl (zc_kindOf hN hi ?_)
        unfold F_X10_stretchOf
        rw [hc]
        exact zt_mStretch hN hi (z_b1 (z_inn2 (a := 0) (b := 4) (by decide) (by decide) (br_t rfl ⟨vp_in_nI (by omega) (by decide), z_eq (h _)⟩)))
      · refine br_f (by decide) (br_t rfl (zc_spaceOf hN hi ?_))
        unfold F_X10_stretchOf
        rw [hc]
        exact zt_mStretch hN hi (z_b1 (z_inn2 (a := 0) (b := 4) (by decide) (by decide) (br_f (by decide) (br_t rfl ⟨vp_in_nI (by omega) (by decide), z_eq (h _)⟩))))
      · refine br_f (by decide) (br_f (by decide) (br_t rfl (zc_otherOf hN hi ?_)))
        unfold F_X10_stretchOf
        rw [hc]
        exact zt_mStretch hN hi (z_b1 (z_inn2 (a := 0) (b := 4) (by decide) (by decide) (br_f (by decide) (br_f (by decide) (br_t rfl ⟨vp_in_nI (by omega) (by decide), z_eq (h _)⟩)))))
      · refine br_f (by decide) (br_f (by decide) (br_f (by decide) (br_t rfl (zc_timesOf hN hi ?_))))
        unfold F_X10_stretchOf
        rw [hc]
        exact zt_mStretch hN hi (z_b1 (z_inn2 (a := 0) (b := 4) (by decide) (by decide) (br_f (by decide) (br_f (by decide) (br_f (by decide) (br_t rfl ⟨vp_in_nI (by omega) (by decide), z_eq (h _)⟩))))))
      · refine br_f (by decide) (br_f (by decide) (br_f (by decide) (br_f (by decide) (br_t rfl (zc_lengthOf hS hi ?_)))))
        unfold F_X10_stretchOf
        exact zt_mStretch hN hi (z_b1 (z_inn2 (a := 0) (b := 4) (by decide) (by decide) (br_f (by decide) (br_f (by decide) (br_f (by decide) (br_f (by decide) (zm_lengthOf hS hi (z_eq (h _)))))))))
    · refine br_f (fun e => c (by rw [e]; decide)) (br_f (fun e => c (by rw [e]; decide)) (br_f (fun e => c (by rw [e]; decide)) (br_f (fun e => c (by rw [e]; decide)) (br_f (fun e => c (by rw [e]; decide)) (z_r5 ?_)))))
      unfold F_X10_stretchOf
      exact zt_mStretch hN hi (z_b1 (z_out2 (b := 4) c (z_n5 (z_eq (h _)))))
theorem p_14 (hT : z_VT T bt nts pt) {post : (Nat → Int32) → (Nat → Int32) → Prop} (h : ∀ R, post R R) : O_14 (nI T) bt nts pt ref ref (nI T) bt nts pt s1 s2 s3 s4 s5 post := by
  have hT1 := hT.1
  unfold O_14 F_X9_noteOf
  have bad : ∀ t, t < T → s1 = nI t → (s2 < (-1) ∨ nI (z_nt nts t) ≤ s2 ∨ ¬ (0 ≤ s3 ∧ s3 ≤ 1)) → ∀ {post : Int32 → (Nat → Int32) → Prop}, (post (-5) (z_rf ref 5)) → F_X10_noteOf (nI T) bt nts pt ref s1 s2 s3 post := by
    intro t ht e hb post hp
    subst e
    unfold F_X10_noteOf
    refine zt_mTune hT1 ht (z_b1 ?_)
    rw [nI_clamp (by omega), (hT.2 t ht).1.1]
    refine ⟨fun _ => z_n5 hp, fun c => ⟨vp_in_nI (by omega) (by decide), fun _ => z_n5 hp, fun d => ?_⟩⟩
    refine z_out2 (b := 1) (fun e => ?_) (z_n5 hp)
    rcases hb with f | f | f
    · exact c f
    · exact d f
    · exact f e
  refine zo_X8has hT1 (fun c => z_b0 ?_) (fun t ht e => z_b1 ?_)
  · have no : ∀ {post : Int32 → (Nat → Int32) → Prop}, (post (-5) (z_rf ref 5)) → F_X10_noteOf (nI T) bt nts pt ref s1 s2 s3 post := by
      intro post hp
      unfold F_X10_noteOf
      exact zf_mTune hT1 c (z_b0 (z_n5 hp))
    unfold F_X9_noteOf_27 F_X9_noteOf_28
    refine zo_within (fun _ => z_b0 (z_r5 (no (z_eq (h _))))) (fun _ _ => z_b1 (z_b0 ?_))
    refine zo_hasNote hT (fun _ => z_b0 (z_r5 (no (z_eq (h _))))) (fun t i ht hi e1 e2 => absurd ⟨t, ht, e1⟩ c)
  · subst e
    have h12 := (hT.2 t ht).1.2
    have hc : (nI t).toNatClampNeg = t := nI_clamp (by omega)
    have good : ∀ {post : Int32 → (Nat → Int32) → Prop}, ¬ s2 < (-1) → ¬ nI (z_nt nts t) ≤ s2 → 0 ≤ s3 → s3 ≤ 1 → (s2 = -1 → (s3 = 0 → post (nI (z_nt nts t)) ref) ∧ (¬ s3 = 0 → post (nI (z_sum (fun i => z_pt bt t i) (z_nt nts t))) ref)) → (∀ i, i < z_nt nts t → s2 = nI i → (s3 = 0 → post (nI (z_pt pt t i)) ref) ∧ (¬ s3 = 0 → post (nI (z_pt bt t i)) ref)) → F_X10_noteOf (nI T) bt nts pt ref (nI t) s2 s3 post := by
      intro post g1 g2 g3 g4 g5 g6
      unfold F_X10_noteOf
      refine zt_mTune hT1 ht (z_b1 ?_)
      rw [hc, (hT.2 t ht).1.1]
      refine br_f g1 ⟨vp_in_nI (by omega) (by decide), br_f g2 (z_inn2 g3 g4 ⟨fun e => ⟨fun f => ⟨vp_in_nI (by omega) (by decide), (g5 e).1 f⟩, fun f => ⟨vp_in_nI (by omega) (by decide), zm_beatsTo hT ht (Nat.le_refl _) ((g5 e).2 f)⟩⟩, fun e => ?_⟩)⟩
      have g0 : ¬ s2 < 0 := by
        intro c
        have e1 := g1
        rw [Int32.lt_iff_toInt_lt] at c e1
        have h9 : (-1 : Int32).toInt = -1 := by decide
        have h8 : (0 : Int32).toInt = 0 := by decide
        rw [h8] at c
        rw [h9] at e1
        exact e (Int32.toInt_inj.mp (by rw [h9]; omega))
      obtain ⟨i, hi, rfl⟩ := z_Bl.of (N := z_nt nts t) (by omega) g0 g2
      obtain ⟨⟨e1, -⟩, ⟨e2, -⟩⟩ := (hT.2 t ht).2 i hi
      have g7 := g6 i hi rfl
      rw [z_ix12, nI_clamp (by omega), e1, e2]
      exact ⟨fun f => ⟨vp_in_nI (by omega) (by decide), g7.1 f⟩, fun f => ⟨vp_in_nI (by omega) (by decide), g7.2 f⟩⟩
    unfold F_X9_noteOf_27 F_X9_noteOf_28 F_X9_noteOf_61
    refine ⟨fun e => ?_, fun e => ?_⟩
    · subst e
      refine zo_within (fun c => z_b0 (z_r5 (bad t ht rfl (Or.inr (Or.inr c)) (z_eq (h _))))) (fun c1 c2 => z_b1 (z_b1 (z_b1 ?_)))
      have nn : ¬ nI (z_nt nts t) ≤ (-1) := by
        rw [Int32.le_iff_toInt_le, nI_toInt (by omega)]
        have h9 : (-1 : Int32).toInt = -1 := by decide
        omega
      refine ⟨fun f => zc_notesOf hT ht ?_, fun f => zc_notesOf hT ht (zc_beatsAhead hT ht (Nat.le_refl _) ?_)⟩
      · exact good (by decide) nn c1 c2 (fun _ => br_t f (z_eq (h _))) (fun i hi e => absurd (e ▸ nn) (fun _ => nI_pos (n := i) (by omega) (e ▸ (by decide : (-1 : Int32) < 0))))
      · exact good (by decide) nn c1 c2 (fun _ => br_f f (z_eq (h _))) (fun i hi e => absurd (e ▸ nn) (fun _ => nI_pos (n := i) (by omega) (e ▸ (by decide : (-1 : Int32) < 0))))
    · refine zo_within (fun c => z_b0 (z_r5 (bad t ht rfl (Or.inr (Or.inr c)) (z_eq (h _))))) (fun c1 c2 => z_b1 (z_b0 (zo_hasNote hT (fun c => z_b0 (z_r5 (bad t ht rfl ?_ (z_eq (h _))))) (fun t2 i ht2 hi e1 e2 => z_b1 (z_b0 ?_)))))
      · by_cases d : s2 < (-1)
        · exact Or.inl d
        · refine Or.inr (Or.inl (Classical.byContradiction (fun f => ?_)))
          have g0 : ¬ s2 < 0 := by
            intro c
            have e1 := d
            rw [Int32.lt_iff_toInt_lt] at c e1
            have h9 : (-1 : Int32).toInt = -1 := by decide
            have h8 : (0 : Int32).toInt = 0 := by decide
            rw [h8] at c
            rw [h9] at e1
            exact e (Int32.toInt_inj.mp (by rw [h9]; omega))
          obtain ⟨i, hi, e3⟩ := z_Bl.of (N := z_nt nts t) (by omega) g0 f
          exact c ⟨t, i, ht, hi, rfl, e3⟩
      · have e3 := (nI_eq (by omega) (by omega)).mp e1
        subst e3 e2
        have nn : ¬ nI i < (-1) := by
          rw [Int32.lt_iff_toInt_lt, nI_toInt (by omega)]
          have h9 : (-1 : Int32).toInt = -1 := by decide
          omega
        refine ⟨fun f => zc_pitchOf hT ht hi ?_, fun f => zc_beatsOf hT ht hi ?_⟩
        · exact good nn (nI_ge hi (by omega)) c1 c2 (fun e => absurd e (by assumption)) (fun j hj e => by rw [← (nI_eq (by omega) (by omega)).mp e]; exact br_t f (z_eq (h _)))
        · exact good nn (nI_ge hi (by omega)) c1 c2 (fun e => absurd e (by assumption)) (fun j hj e => by rw [← (nI_eq (by omega) (by omega)).mp e]; exact br_f f (z_eq (h _)))
end OPS
