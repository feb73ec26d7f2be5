/-! X7_kindOf -/
abbrev wX7_kindOf (cI cJ cS : ClassId) (a_o a_kinds : Nat) (z_spaces z_others z_times : Value) (v_stretchCount : Int32) (f_kinds : Nat → Int32) : va_W := [(a_o, .inr (6, [.ref a_kinds, z_spaces, z_others, z_times, .int v_stretchCount])), (a_kinds, .inl (cI, 16, .inl f_kinds))]
def F_X7_kindOf (v_stretchCount : Int32) (f_kinds : Nat → Int32) (x1 : Int32) (post : Int32 → Prop) : Prop := (F_X7_has v_stretchCount x1 (fun r2 => ((r2 = 0 → post (-1)) ∧ (¬ r2 = 0 → (vp_in x1 16 ∧ post (f_kinds x1.toNatClampNeg))))))
set_option maxHeartbeats 4000000 in
set_option maxRecDepth 100000 in
theorem c_X7_kindOf {l : Launch} {D : va_G} {cI cJ cS : ClassId} {ad adK : Nat → Nat} {a_o a_kinds : Nat} {z_spaces z_others z_times : Value} {v_stretchCount : Int32} {f_kinds : Nat → Int32} {x1 : Int32} {post : Int32 → Prop} (h : F_X7_kindOf v_stretchCount f_kinds x1 post) : Met l yX7_kindOf (Cond.code yX7_kindOf cX7_kindOf 2 (some (.int)) :: GW) (rmd 1 0 0) (PR D cI cJ cS ad adK [.ref a_o, .int x1] (wX7_kindOf cI cJ cS a_o a_kinds z_spaces z_others z_times v_stretchCount f_kinds)) (vp_Si post) 0 0 nof := by
  refine Met.ro (by decide) (Nat.le_of_ble_eq_true rfl) (fun p e s m args below meth c ls (S : CallFix p m c cX7_kindOf 2 s args GW "RoadThatSings$Stretches") hE hT hP hS hr hlocks hl => ?_)
  have hx := S.1
  have hb := S.2.1
  have hl : lv_has ls 2 [(0, .ref a_o), (1, .int x1)] := hl
  unfold F_X7_kindOf at h
  refine lv_aload_n hx hb dX7_kindOf_0 rfl (lv_at hl 0 rfl) ?_
  refine lv_iload_n hx hb dX7_kindOf_1 rfl (lv_at hl 1 rfl) ?_
  refine ro_i (roV S hE hT hS (c_X7_has h) lkX7_47 rfl ⟨(Nat.le_of_ble_eq_true rfl), (Nat.le_of_ble_eq_true rfl)⟩ (hP.sub [0] rfl) 0 rfl rfl hl.1 rfl (Nat.le_of_ble_eq_true rfl) dX7_kindOf_2 ⟨(Nat.zero_le _), (Nat.zero_le _)⟩) (fun r2 h => ?_)
  refine lv_if_eq (tgt := 17) hx hb dX7_kindOf_5 (by decide) (fun hc => ?_) (fun hc => ?_)
  · have h := h.1 hc
    refine lv_iconst (v := (-1)) hx hb dX7_kindOf_17 (by decide) ?_
    exact W.iret hx hb hr (fun t ht _ => ⟨_, rfl, h, ht⟩) (fun _ hq => by cases hq) dX7_kindOf_18
  have h := h.2 hc
  refine lv_aload_n hx hb dX7_kindOf_8 rfl (lv_at hl 0 rfl) ?_
  refine gf S hE hP 0 rfl rfl inX7 (k := 0) (by decide) q38 rfl dX7_kindOf_9 ?_
  refine lv_iload_n hx hb dX7_kindOf_12 rfl (lv_at hl 1 rfl) ?_
  obtain ⟨hi, h⟩ := h
  refine ial S hE hP 1 rfl hi dX7_kindOf_13 ?_
  refine lv_goto (tgt := 18) hx hb dX7_kindOf_14 (by decide) ?_
  exact W.iret hx hb hr (fun t ht _ => ⟨_, rfl, h, ht⟩) (fun _ hq => by cases hq) dX7_kindOf_18
/-! X9_isOfTwoSpaces -/
abbrev wX9_isOfTwoSpaces (cI cJ cS : ClassId) : va_W := []
def F_X9_isOfTwoSpaces (x0 : Int32) (post : Int32 → Prop) : Prop := ((x0 = 2 → post 1) ∧ (¬ x0 = 2 → ((x0 = 5 → post 1) ∧ (¬ x0 = 5 → post 0))))
set_option maxHeartbeats 4000000 in
set_option maxRecDepth 100000 in
theorem c_X9_isOfTwoSpaces {l : Launch} {D : va_G} {cI cJ cS : ClassId} {ad adK : Nat → Nat}  {x0 : Int32} {post : Int32 → Prop} (h : F_X9_isOfTwoSpaces x0 post) : Met l yX9_isOfTwoSpaces (Cond.code yX9_isOfTwoSpaces cX9_isOfTwoSpaces 1 (some (.boolean)) :: GW) (rmd 0 0 0) (PR D cI cJ cS ad adK [.int x0] (wX9_isOfTwoSpaces cI cJ cS)) (vp_Si post) 0 0 nof := by
  refine Met.ro (by decide) (Nat.le_of_ble_eq_true rfl) (fun p e s m args below meth c ls (S : CallFix p m c cX9_isOfTwoSpaces 1 s args GW "RoadThatSings") hE hT hP hS hr hlocks hl => ?_)
  have hx := S.1
  have hb := S.2.1
  have hl : lv_has ls 1 [(0, .int x0)] := hl
  unfold F_X9_isOfTwoSpaces at h
  refine lv_iload_n hx hb dX9_isOfTwoSpaces_0 rfl (lv_at hl 0 rfl) ?_
  refine lv_iconst (v := 2) hx hb dX9_isOfTwoSpaces_1 (by decide) ?_
  refine lv_icmp_eq (tgt := 10) hx hb dX9_isOfTwoSpaces_2 (by decide) (fun hc => ?_) (fun hc => ?_)
  · have h := h.1 hc
    refine lv_iconst (v := 1) hx hb dX9_isOfTwoSpaces_10 (by decide) ?_
    refine lv_goto (tgt := 15) hx hb dX9_isOfTwoSpaces_11 (by decide) ?_
    exact W.zret hx hb hr rfl (fun t ht _ => ⟨_, rfl, h, ht⟩) (fun _ hq => by cases hq) dX9_isOfTwoSpaces_15
  have h := h.2 hc
  refine lv_iload_n hx hb dX9_isOfTwoSpaces_5 rfl (lv_at hl 0 rfl) ?_
  refine lv_iconst (v := 5) hx hb dX9_isOfTwoSpaces_6 (by decide) ?_
  refine lv_icmp_ne (tgt := 14) hx hb dX9_isOfTwoSpaces_7 (by decide) (fun hc => ?_) (fun hc => ?_)
  · have h := h.2 hc
    refine lv_iconst (v := 0) hx hb dX9_isOfTwoSpaces_14 (by decide) ?_
    exact W.zret hx hb hr rfl (fun t ht _ => ⟨_, rfl, h, ht⟩) (fun _ hq => by cases hq) dX9_isOfTwoSpaces_15
  have h := h.1 hc
  refine lv_iconst (v := 1) hx hb dX9_isOfTwoSpaces_10 (by decide) ?_
  refine lv_goto (tgt := 15) hx hb dX9_isOfTwoSpaces_11 (by decide) ?_
  exact W.zret hx hb hr rfl (fun t ht _ => ⟨_, rfl, h, ht⟩) (fun _ hq => by cases hq) dX9_isOfTwoSpaces_15
/-! X7_spacesTogether -/
abbrev wX7_spacesTogether (cI cJ cS : ClassId) (a_o a_kinds a_others a_spaces : Nat) (z_times : Value) (v_stretchCount : Int32) (f_kinds : Nat → Int32) (f_others : Nat → Int32) (f_spaces : Nat → Int32) : va_W := [(a_o, .inr (6, [.ref a_kinds, .ref a_spaces, .ref a_others, z_times, .int v_stretchCount])), (a_kinds, .inl (cI, 16, .inl f_kinds)), (a_others, .inl (cI, 16, .inl f_others)), (a_spaces, .inl (cI, 16, .inl f_spaces))]
def F_X7_spacesTogether (v_stretchCount : Int32) (f_kinds : Nat → Int32) (f_others : Nat → Int32) (f_spaces : Nat → Int32) (x1 : Int32) (post : Int32 → Prop) : Prop := (F_X7_has v_stretchCount x1 (fun r2 => ((r2 = 0 → post 0) ∧ (¬ r2 = 0 → (vp_in x1 16 ∧ (F_X9_isOfTwoSpaces (f_kinds x1.toNatClampNeg) (fun r16 => ((r16 = 0 → (vp_in x1 16 ∧ post (f_spaces x1.toNatClampNeg))) ∧ (¬ r16 = 0 → (vp_in x1 16 ∧ (vp_in x1 16 ∧ post ((f_spaces x1.toNatClampNeg) + (f_others x1.toNatClampNeg)))))))))))))
set_option maxHeartbeats 4000000 in
set_option maxRecDepth 100000 in
theorem c_X7_spacesTogether {l : Launch} {D : va_G} {cI cJ cS : ClassId} {ad adK : Nat → Nat} {a_o a_kinds a_others a_spaces : Nat} {z_times : Value} {v_stretchCount : Int32} {f_kinds : Nat → Int32} {f_others : Nat → Int32} {f_spaces : Nat → Int32} {x1 : Int32} {post : Int32 → Prop} (h : F_X7_spacesTogether v_stretchCount f_kinds f_others f_spaces x1 post) : Met l yX7_spacesTogether (Cond.code yX7_spacesTogether cX7_spacesTogether 2 (some (.int)) :: GW) (rmd 1 0 0) (PR D cI cJ cS ad adK [.ref a_o, .int x1] (wX7_spacesTogether cI cJ cS a_o a_kinds a_others a_spaces z_times v_stretchCount f_kinds f_others f_spaces)) (vp_Si post) 0 0 nof := by
  refine Met.ro (by decide) (Nat.le_of_ble_eq_true rfl) (fun p e s m args below meth c ls (S : CallFix p m c cX7_spacesTogether 2 s args GW "RoadThatSings$Stretches") hE hT hP hS hr hlocks hl => ?_)
  have hx := S.1
  have hb := S.2.1
  have hl : lv_has ls 2 [(0, .ref a_o), (1, .int x1)] := hl
  unfold F_X7_spacesTogether at h
  refine lv_aload_n hx hb dX7_spacesTogether_0 rfl (lv_at hl 0 rfl) ?_
  refine lv_iload_n hx hb dX7_spacesTogether_1 rfl (lv_at hl 1 rfl) ?_
  refine ro_i (roV S hE hT hS (c_X7_has h) lkX7_47 rfl ⟨(Nat.le_of_ble_eq_true rfl), (Nat.le_of_ble_eq_true rfl)⟩ (hP.sub [0] rfl) 0 rfl rfl hl.1 rfl (Nat.le_of_ble_eq_true rfl) dX7_spacesTogether_2 ⟨(Nat.zero_le _), (Nat.zero_le _)⟩) (fun r2 h => ?_)
  refine lv_if_ne (tgt := 10) hx hb dX7_spacesTogether_5 (by decide) (fun hc => ?_) (fun hc => ?_)
  · have h := h.2 hc
    refine lv_aload_n hx hb dX7_spacesTogether_10 rfl (lv_at hl 0 rfl) ?_
    refine gf S hE hP 0 rfl rfl inX7 (k := 0) (by decide) q38 rfl dX7_spacesTogether_11 ?_
    refine lv_iload_n hx hb dX7_spacesTogether_14 rfl (lv_at hl 1 rfl) ?_
    obtain ⟨hi, h⟩ := h
    refine ial S hE hP 1 rfl hi dX7_spacesTogether_15 ?_
    refine ro_i (roSN S hE hT hS (c_X9_isOfTwoSpaces h) lkX7_51 rfl ⟨(Nat.le_of_ble_eq_true rfl), (Nat.le_of_ble_eq_true rfl)⟩ (hP.sub [] rfl) hl.1 rfl (Nat.le_of_ble_eq_true rfl) dX7_spacesTogether_16 ⟨(Nat.zero_le _), (Nat.zero_le _)⟩) (fun r16 h => ?_)
    refine lv_if_eq (tgt := 38) hx hb dX7_spacesTogether_19 (by decide) (fun hc => ?_) (fun hc => ?_)
    · have h := h.1 hc
      refine lv_aload_n hx hb dX7_spacesTogether_38 rfl (lv_at hl 0 rfl) ?_
      refine gf S hE hP 0 rfl rfl inX7 (k := 1) (by decide) q39 rfl dX7_spacesTogether_39 ?_
      refine lv_iload_n hx hb dX7_spacesTogether_42 rfl (lv_at hl 1 rfl) ?_
      obtain ⟨hi, h⟩ := h
      refine ial S hE hP 3 rfl hi dX7_spacesTogether_43 ?_
      exact W.iret hx hb hr (fun t ht _ => ⟨_, rfl, h, ht⟩) (fun _ hq => by cases hq) dX7_spacesTogether_44
    have h := h.2 hc
    refine lv_aload_n hx hb dX7_spacesTogether_22 rfl (lv_at hl 0 rfl) ?_
    refine gf S hE hP 0 rfl rfl inX7 (k := 1) (by decide) q39 rfl dX7_spacesTogether_23 ?_
    refine lv_iload_n hx hb dX7_spacesTogether_26 rfl (lv_at hl 1 rfl) ?_
    obtain ⟨hi, h⟩ := h
    refine ial S hE hP 3 rfl hi dX7_spacesTogether_27 ?_
    refine lv_aload_n hx hb dX7_spacesTogether_28 rfl (lv_at hl 0 rfl) ?_
    refine gf S hE hP 0 rfl rfl inX7 (k := 2) (by decide) q40 rfl dX7_spacesTogether_29 ?_
    refine lv_iload_n hx hb dX7_spacesTogether_32 rfl (lv_at hl 1 rfl) ?_
    obtain ⟨hi, h⟩ := h
    refine ial S hE hP 2 rfl hi dX7_spacesTogether_33 ?_
    refine lv_iadd hx hb dX7_spacesTogether_34 ?_
    refine lv_goto (tgt := 44) hx hb dX7_spacesTogether_35 (by decide) ?_
    exact W.iret hx hb hr (fun t ht _ => ⟨_, rfl, h, ht⟩) (fun _ hq => by cases hq) dX7_spacesTogether_44
  have h := h.1 hc
  refine lv_iconst (v := 0) hx hb dX7_spacesTogether_8 (by decide) ?_
  exact W.iret hx hb hr (fun t ht _ => ⟨_, rfl, h, ht⟩) (fun _ hq => by cases hq) dX7_spacesTogether_9
/-! X7_humOf -/
abbrev wX7_humOf (cI cJ cS : ClassId) (a_o a_kinds a_others a_spaces : Nat) (z_times : Value) (v_stretchCount : Int32) (f_kinds : Nat → Int32) (f_others : Nat → Int32) (f_spaces : Nat → Int32) : va_W := [(a_o, .inr (6, [.ref a_kinds, .ref a_spaces, .ref a_others, z_times, .int v_stretchCount])), (a_kinds, .inl (cI, 16, .inl f_kinds)), (a_others, .inl (cI, 16, .inl f_others)), (a_spaces, .inl (cI, 16, .inl f_spaces))]
def F_X7_humOf (v_stretchCount : Int32) (f_kinds : Nat → Int32) (f_others : Nat → Int32) (f_spaces : Nat → Int32) (x1 : Int32) (x2 : Int32) (post : Int32 → Prop) : Prop := (F_X7_has v_stretchCount x1 (fun r2 => ((r2 = 0 → post 0) ∧ (¬ r2 = 0 → (F_X7_kindOf v_stretchCount f_kinds x1 (fun r10 => ((r10 = 3 → post 0) ∧ (¬ r10 = 3 → (F_X7_spacesTogether v_stretchCount f_kinds f_others f_spaces x1 (fun r21 => (F_X9_humBy r21 x2 (fun r25 => (F_X7_kindOf v_stretchCount f_kinds x1 (fun r31 => ((r31 = 2 → post (2 * r25)) ∧ (¬ r31 = 2 → post r25))))))))))))))))
set_option maxHeartbeats 4000000 in
set_option maxRecDepth 100000 in
theorem c_X7_humOf {l : Launch} {D : va_G} {cI cJ cS : ClassId} {ad adK : Nat → Nat} {a_o a_kinds a_others a_spaces : Nat} {z_times : Value} {v_stretchCount : Int32} {f_kinds : Nat → Int32} {f_others : Nat → Int32} {f_spaces : Nat → Int32} {x1 : Int32} {x2 : Int32} {post : Int32 → Prop} (h : F_X7_humOf v_stretchCount f_kinds f_others f_spaces x1 x2 post) : Met l yX7_humOf (Cond.code yX7_humOf cX7_humOf 4 (some (.int)) :: GW) (rmd 2 0 0) (PR D cI cJ cS ad adK [.ref a_o, .int x1, .int x2] (wX7_humOf cI cJ cS a_o a_kinds a_others a_spaces z_times v_stretchCount f_kinds f_others f_spaces)) (vp_Si post) 0 0 nof := by
  refine Met.ro (by decide) (Nat.le_of_ble_eq_true rfl) (fun p e s m args below meth c ls (S : CallFix p m c cX7_humOf 4 s args GW "RoadThatSings$Stretches") hE hT hP hS hr hlocks hl => ?_)
  have hx := S.1
  have hb := S.2.1
  have hl : lv_has ls 4 [(0, .ref a_o), (1, .int x1), (2, .int x2)] := hl
  unfold F_X7_humOf at h
  refine lv_aload_n hx hb dX7_humOf_0 rfl (lv_at hl 0 rfl) ?_
  refine lv_iload_n hx hb dX7_humOf_1 rfl (lv_at hl 1 rfl) ?_
  refine ro_i (roV S hE hT hS (c_X7_has h) lkX7_47 rfl ⟨(Nat.le_of_ble_eq_true rfl), (Nat.le_of_ble_eq_true rfl)⟩ (hP.sub [0] rfl) 0 rfl rfl hl.1 rfl (Nat.le_of_ble_eq_true rfl) dX7_humOf_2 ⟨(Nat.zero_le _), (Nat.zero_le _)⟩) (fun r2 h => ?_)
  refine lv_if_eq (tgt := 17) hx hb dX7_humOf_5 (by decide) (fun hc => ?_) (fun hc => ?_)
  · have h := h.1 hc
    refine lv_iconst (v := 0) hx hb dX7_humOf_17 (by decide) ?_
    exact W.iret hx hb hr (fun t ht _ => ⟨_, rfl, h, ht⟩) (fun _ hq => by cases hq) dX7_humOf_18
  have h := h.2 hc
  refine lv_aload_n hx hb dX7_humOf_8 rfl (lv_at hl 0 rfl) ?_
  refine lv_iload_n hx hb dX7_humOf_9 rfl (lv_at hl 1 rfl) ?_
  refine ro_i (roV S hE hT hS (c_X7_kindOf h) lkX7_54 rfl ⟨(Nat.le_of_ble_eq_true rfl), (Nat.le_of_ble_eq_true rfl)⟩ (hP.sub [0, 1] rfl) 0 rfl rfl hl.1 rfl (Nat.le_of_ble_eq_true rfl) dX7_humOf_10 ⟨(Nat.zero_le _), (Nat.zero_le _)⟩) (fun r10 h => ?_)
  refine lv_iconst (v := 3) hx hb dX7_humOf_13 (by decide) ?_
  refine lv_icmp_ne (tgt := 19) hx hb dX7_humOf_14 (by decide) (fun hc => ?_) (fun hc => ?_)
  · have h := h.2 hc
    refine lv_aload_n hx hb dX7_humOf_19 rfl (lv_at hl 0 rfl) ?_
    refine lv_iload_n hx hb dX7_humOf_20 rfl (lv_at hl 1 rfl) ?_
    refine ro_i (roV S hE hT hS (c_X7_spacesTogether h) lkX7_61 rfl ⟨(Nat.le_of_ble_eq_true rfl), (Nat.le_of_ble_eq_true rfl)⟩ (hP.sub [0, 1, 2, 3] rfl) 0 rfl rfl hl.1 rfl (Nat.le_of_ble_eq_true rfl) dX7_humOf_21 ⟨(Nat.zero_le _), (Nat.zero_le _)⟩) (fun r21 h => ?_)
    refine lv_iload_n hx hb dX7_humOf_24 rfl (lv_at hl 2 rfl) ?_
    refine ro_i (roSN S hE hT hS (c_X9_humBy h) lkX7_73 rfl ⟨(Nat.le_of_ble_eq_true rfl), (Nat.le_of_ble_eq_true rfl)⟩ (hP.sub [] rfl) hl.1 rfl (Nat.le_of_ble_eq_true rfl) dX7_humOf_25 ⟨(Nat.zero_le _), (Nat.zero_le _)⟩) (fun r25 h => ?_)
    refine lv_istore_n (lv' := [(3, .int r25), (0, .ref a_o), (1, .int x1), (2, .int x2)]) hx hb dX7_humOf_28 rfl hl (by decide) rfl (fun ls hl => ?_)
    refine lv_aload_n hx hb dX7_humOf_29 rfl (lv_at hl 1 rfl) ?_
    refine lv_iload_n hx hb dX7_humOf_30 rfl (lv_at hl 2 rfl) ?_
    refine ro_i (roV S hE hT hS (c_X7_kindOf h) lkX7_54 rfl ⟨(Nat.le_of_ble_eq_true rfl), (Nat.le_of_ble_eq_true rfl)⟩ (hP.sub [0, 1] rfl) 0 rfl rfl hl.1 rfl (Nat.le_of_ble_eq_true rfl) dX7_humOf_31 ⟨(Nat.zero_le _), (Nat.zero_le _)⟩) (fun r31 h => ?_)
    refine lv_iconst (v := 2) hx hb dX7_humOf_34 (by decide) ?_
    refine lv_icmp_ne (tgt := 44) hx hb dX7_humOf_35 (by decide) (fun hc => ?_) (fun hc => ?_)
    · have h := h.2 hc
      refine lv_iload_n hx hb dX7_humOf_44 rfl (lv_at hl 0 rfl) ?_
      exact W.iret hx hb hr (fun t ht _ => ⟨_, rfl, h, ht⟩) (fun _ hq => by cases hq) dX7_humOf_45
    have h := h.1 hc
    refine lv_iconst (v := 2) hx hb dX7_humOf_38 (by decide) ?_
    refine lv_iload_n hx hb dX7_humOf_39 rfl (lv_at hl 0 rfl) ?_
    refine lv_imul hx hb dX7_humOf_40 ?_
    refine lv_goto (tgt := 45) hx hb dX7_humOf_41 (by decide) ?_
    exact W.iret hx hb hr (fun t ht _ => ⟨_, rfl, h, ht⟩) (fun _ hq => by cases hq) dX7_humOf_45
  have h := h.1 hc
  refine lv_iconst (v := 0) hx hb dX7_humOf_17 (by decide) ?_
  exact W.iret hx hb hr (fun t ht _ => ⟨_, rfl, h, ht⟩) (fun _ hq => by cases hq) dX7_humOf_18
/-! X5_offOfNote -/
abbrev wX5_offOfNote (cI cJ cS : ClassId) (a_o a_cars a_cars_speeds a_stretches a_stretches_kinds a_stretches_others a_stretches_spaces a_tunes a_tunes_noteCounts a_tunes_pitches : Nat) (z_demands z_cars_bases z_cars_shares z_stretches_times z_tunes_beats : Value) (v_drawSeed : Int32) (v_cars_carCount : Int32) (f_cars_speeds : Nat → Int32) (v_stretches_stretchCount : Int32) (f_stretches_kinds : Nat → Int32) (f_stretches_others : Nat → Int32) (f_stretches_spaces : Nat → Int32) (v_tunes_tuneCount : Int32) (f_tunes_noteCounts : Nat → Int32) (f_tunes_pitches : Nat → Int32) : va_W := [(a_o, .inr (4, [.ref a_stretches, .ref a_cars, .ref a_tunes, z_demands, .int v_drawSeed])), (a_cars, .inr (1, [.ref a_cars_speeds, z_cars_bases, z_cars_shares, .int v_cars_carCount])), (a_cars_speeds, .inl (cI, 6, .inl f_cars_speeds)), (a_stretches, .inr (6, [.ref a_stretches_kinds, .ref a_stretches_spaces, .ref a_stretches_others, z_stretches_times, .int v_stretches_stretchCount])), (a_stretches_kinds, .inl (cI, 16, .inl f_stretches_kinds)), (a_stretches_others, .inl (cI, 16, .inl f_stretches_others)), (a_stretches_spaces, .inl (cI, 16, .inl f_stretches_spaces)), (a_tunes, .inr (7, [.ref a_tunes_pitches, z_tunes_beats, .ref a_tunes_noteCounts, .int v_tunes_tuneCount])), (a_tunes_noteCounts, .inl (cI, 6, .inl f_tunes_noteCounts)), (a_tunes_pitches, .inl (cI, 72, .inl f_tunes_pitches))]
def F_X5_offOfNote (v_cars_carCount : Int32) (f_cars_speeds : Nat → Int32) (v_stretches_stretchCount : Int32) (f_stretches_kinds : Nat → Int32) (f_stretches_others : Nat → Int32) (f_stretches_spaces : Nat → Int32) (v_tunes_tuneCount : Int32) (f_tunes_noteCounts : Nat → Int32) (f_tunes_pitches : Nat → Int32) (x1 : Int32) (x2 : Int32) (x3 : Int32) (post : Int32 → Prop) : Prop := (F_X7_has v_stretches_stretchCount x3 (fun r5 => ((r5 = 0 → post 999) ∧ (¬ r5 = 0 → (F_X1_speedOf v_cars_carCount f_cars_speeds x1 (fun r25 => (F_X7_humOf v_stretches_stretchCount f_stretches_kinds f_stretches_others f_stretches_spaces x3 r25 (fun r28 => (F_X8_pitchOf v_tunes_tuneCount f_tunes_noteCounts f_tunes_pitches x2 x3 (fun r41 => (F_X9_offBetween r28 r41 (fun r44 => post r44))))))))))))
set_option maxHeartbeats 4000000 in
set_option maxRecDepth 100000 in
theorem c_X5_offOfNote {l : Launch} {D : va_G} {cI cJ cS : ClassId} {ad adK : Nat → Nat} {a_o a_cars a_cars_speeds a_stretches a_stretches_kinds a_stretches_others a_stretches_spaces a_tunes a_tunes_noteCounts a_tunes_pitches : Nat} {z_demands z_cars_bases z_cars_shares z_stretches_times z_tunes_beats : Value} {v_drawSeed : Int32} {v_cars_carCount : Int32} {f_cars_speeds : Nat → Int32} {v_stretches_stretchCount : Int32} {f_stretches_kinds : Nat → Int32} {f_stretches_others : Nat → Int32} {f_stretches_spaces : Nat → Int32} {v_tunes_tuneCount : Int32} {f_tunes_noteCounts : Nat → Int32} {f_tunes_pitches : Nat → Int32} {x1 : Int32} {x2 : Int32} {x3 : Int32} {post : Int32 → Prop} (h : F_X5_offOfNote v_cars_carCount f_cars_speeds v_stretches_stretchCount f_stretches_kinds f_stretches_others f_stretches_spaces v_tunes_tuneCount f_tunes_noteCounts f_tunes_pitches x1 x2 x3 post) : Met l yX5_offOfNote (Cond.code yX5_offOfNote cX5_offOfNote 5 (some (.int)) :: GW) (rmd 3 0 0) (PR D cI cJ cS ad adK [.ref a_o, .int x1, .int x2, .int x3] (wX5_offOfNote cI cJ cS a_o a_cars a_cars_speeds a_stretches a_stretches_kinds a_stretches_others a_stretches_spaces a_tunes a_tunes_noteCounts a_tunes_pitches z_demands z_cars_bases z_cars_shares z_stretches_times z_tunes_beats v_drawSeed v_cars_carCount f_cars_speeds v_stretches_stretchCount f_stretches_kinds f_stretches_others f_stretches_spaces v_tunes_tuneCount f_tunes_noteCounts f_tunes_pitches)) (vp_Si post) 0 0 nof := by
  refine Met.ro (by decide) (Nat.le_of_ble_eq_true rfl) (fun p e s m args below meth c ls (S : CallFix p m c cX5_offOfNote 5 s args GW "RoadThatSings$Road") hE hT hP hS hr hlocks hl => ?_)
  have hx := S.1
  have hb := S.2.1
  have hl : lv_has ls 5 [(0, .ref a_o), (1, .int x1), (2, .int x2), (3, .int x3)] := hl
  unfold F_X5_offOfNote at h
  refine lv_aload_n hx hb dX5_offOfNote_0 rfl (lv_at hl 0 rfl) ?_
  refine gf S hE hP 0 rfl rfl inX5 (k := 0) (by decide) q93 rfl dX5_offOfNote_1 ?_
  refine lv_iload_n hx hb dX5_offOfNote_4 rfl (lv_at hl 3 rfl) ?_
  refine ro_i (roV S hE hT hS (c_X7_has h) lkX5_65 rfl ⟨(Nat.le_of_ble_eq_true rfl), (Nat.le_of_ble_eq_true rfl)⟩ (hP.sub [3] rfl) 0 rfl rfl hl.1 rfl (Nat.le_of_ble_eq_true rfl) dX5_offOfNote_5 ⟨(Nat.zero_le _), (Nat.zero_le _)⟩) (fun r5 h => ?_)
  refine lv_if_ne (tgt := 15) hx hb dX5_offOfNote_8 (by decide) (fun hc => ?_) (fun hc => ?_)
  · have h := h.2 hc
    refine lv_aload_n hx hb dX5_offOfNote_15 rfl (lv_at hl 0 rfl) ?_
    refine gf S hE hP 0 rfl rfl inX5 (k := 0) (by decide) q93 rfl dX5_offOfNote_16 ?_
    refine lv_iload_n hx hb dX5_offOfNote_19 rfl (lv_at hl 3 rfl) ?_
    refine lv_aload_n hx hb dX5_offOfNote_20 rfl (lv_at hl 0 rfl) ?_
    refine gf S hE hP 0 rfl rfl inX5 (k := 1) (by decide) q96 rfl dX5_offOfNote_21 ?_
    refine lv_iload_n hx hb dX5_offOfNote_24 rfl (lv_at hl 1 rfl) ?_
    refine ro_i (roV S hE hT hS (c_X1_speedOf h) lkX5_69 rfl ⟨(Nat.le_of_ble_eq_true rfl), (Nat.le_of_ble_eq_true rfl)⟩ (hP.sub [1, 2] rfl) 0 rfl rfl hl.1 rfl (Nat.le_of_ble_eq_true rfl) dX5_offOfNote_25 ⟨(Nat.zero_le _), (Nat.zero_le _)⟩) (fun r25 h => ?_)
    refine ro_i (roV S hE hT hS (c_X7_humOf h) lkX5_73 rfl ⟨(Nat.le_of_ble_eq_true rfl), (Nat.le_of_ble_eq_true rfl)⟩ (hP.sub [3, 4, 5, 6] rfl) 0 rfl rfl hl.1 rfl (Nat.le_of_ble_eq_true rfl) dX5_offOfNote_28 ⟨(Nat.zero_le _), (Nat.zero_le _)⟩) (fun r28 h => ?_)
    refine lv_istore (lv' := [(4, .int r28), (0, .ref a_o), (1, .int x1), (2, .int x2), (3, .int x3)]) hx hb dX5_offOfNote_31 hl (by decide) rfl (fun ls hl => ?_)
    refine lv_iload hx hb dX5_offOfNote_33 (lv_at hl 0 rfl) ?_
    refine lv_aload_n hx hb dX5_offOfNote_35 rfl (lv_at hl 1 rfl) ?_
    refine gf S hE hP 0 rfl rfl inX5 (k := 2) (by decide) q99 rfl dX5_offOfNote_36 ?_
    refine lv_iload_n hx hb dX5_offOfNote_39 rfl (lv_at hl 3 rfl) ?_
    refine lv_iload_n hx hb dX5_offOfNote_40 rfl (lv_at hl 4 rfl) ?_
    refine ro_i (roV S hE hT hS (c_X8_pitchOf h) lkX5_77 rfl ⟨(Nat.le_of_ble_eq_true rfl), (Nat.le_of_ble_eq_true rfl)⟩ (hP.sub [7, 8, 9] rfl) 0 rfl rfl hl.1 rfl (Nat.le_of_ble_eq_true rfl) dX5_offOfNote_41 ⟨(Nat.zero_le _), (Nat.zero_le _)⟩) (fun r41 h => ?_)
    refine ro_i (roSN S hE hT hS (c_X9_offBetween h) lkX5_80 rfl ⟨(Nat.le_of_ble_eq_true rfl), (Nat.le_of_ble_eq_true rfl)⟩ (hP.sub [] rfl) hl.1 rfl (Nat.le_of_ble_eq_true rfl) dX5_offOfNote_44 ⟨(Nat.zero_le _), (Nat.zero_le _)⟩) (fun r44 h => ?_)
    exact W.iret hx hb hr (fun t ht _ => ⟨_, rfl, h, ht⟩) (fun _ hq => by cases hq) dX5_offOfNote_47
  have h := h.1 hc
  refine lv_sipush (v := 999) hx hb dX5_offOfNote_11 (by decide) ?_
  exact W.iret hx hb hr (fun t ht _ => ⟨_, rfl, h, ht⟩) (fun _ hq => by cases hq) dX5_offOfNote_14
/-! X5_worstOf -/
abbrev wX5_worstOf (cI cJ cS : ClassId) (a_o a_cars a_cars_speeds a_stretches a_stretches_kinds a_stretches_others a_stretches_spaces a_tunes a_tunes_noteCounts a_tunes_pitches : Nat) (z_demands z_cars_bases z_cars_shares z_stretches_times z_tunes_beats : Value) (v_drawSeed : Int32) (v_cars_carCount : Int32) (f_cars_speeds : Nat → Int32) (v_stretches_stretchCount : Int32) (f_stretches_kinds : Nat → Int32) (f_stretches_others : Nat → Int32) (f_stretches_spaces : Nat → Int32) (v_tunes_tuneCount : Int32) (f_tunes_noteCounts : Nat → Int32) (f_tunes_pitches : Nat → Int32) : va_W := [(a_o, .inr (4, [.ref a_stretches, .ref a_cars, .ref a_tunes, z_demands, .int v_drawSeed])), (a_cars, .inr (1, [.ref a_cars_speeds, z_cars_bases, z_cars_shares, .int v_cars_carCount])), (a_cars_speeds, .inl (cI, 6, .inl f_cars_speeds)), (a_stretches, .inr (6, [.ref a_stretches_kinds, .ref a_stretches_spaces, .ref a_stretches_others, z_stretches_times, .int v_stretches_stretchCount])), (a_stretches_kinds, .inl (cI, 16, .inl f_stretches_kinds)), (a_stretches_others, .inl (cI, 16, .inl f_stretches_others)), (a_stretches_spaces, .inl (cI, 16, .inl f_stretches_spaces)), (a_tunes, .inr (7, [.ref a_tunes_pitches, z_tunes_beats, .ref a_tunes_noteCounts, .int v_tunes_tuneCount])), (a_tunes_noteCounts, .inl (cI, 6, .inl f_tunes_noteCounts)), (a_tunes_pitches, .inl (cI, 72, .inl f_tunes_pitches))]
def L_X5_worstOf_5 (v_cars_carCount : Int32) (f_cars_speeds : Nat → Int32) (v_stretches_stretchCount : Int32) (f_stretches_kinds : Nat → Int32) (f_stretches_others : Nat → Int32) (f_stretches_spaces : Nat → Int32) (v_tunes_tuneCount : Int32) (f_tunes_noteCounts : Nat → Int32) (f_tunes_pitches : Nat → Int32) (x1 : Int32) (x2 : Int32) (post : Int32 → Prop) : Nat → Int32 → Int32 → Prop
  | 0, _, _ => False
  | n5 + 1, x3, x4 => (F_X8_notesOf v_tunes_tuneCount f_tunes_noteCounts x2 (fun r12 => ((r12 ≤ x4 → post x3) ∧ (¬ r12 ≤ x4 → (F_X5_offOfNote v_cars_carCount f_cars_speeds v_stretches_stretchCount f_stretches_kinds f_stretches_others f_stretches_spaces v_tunes_tuneCount f_tunes_noteCounts f_tunes_pitches x1 x2 x4 (fun r24 => (∀ x3_30 : Int32, x3_30 = (if x3 < r24 then r24 else x3) → (∀ x4_31 : Int32, x4_31 = x4 + 1 → L_X5_worstOf_5 v_cars_carCount f_cars_speeds v_stretches_stretchCount f_stretches_kinds f_stretches_others f_stretches_spaces v_tunes_tuneCount f_tunes_noteCounts f_tunes_pitches x1 x2 post n5 x3_30 x4_31))))))))
def F_X5_worstOf (v_cars_carCount : Int32) (f_cars_speeds : Nat → Int32) (v_stretches_stretchCount : Int32) (f_stretches_kinds : Nat → Int32) (f_stretches_others : Nat → Int32) (f_stretches_spaces : Nat → Int32) (v_tunes_tuneCount : Int32) (f_tunes_noteCounts : Nat → Int32) (f_tunes_pitches : Nat → Int32) (x1 : Int32) (x2 : Int32) (post : Int32 → Prop) : Prop := (∃ n5 : Nat, L_X5_worstOf_5 v_cars_carCount f_cars_speeds v_stretches_stretchCount f_stretches_kinds f_stretches_others f_stretches_spaces v_tunes_tuneCount f_tunes_noteCounts f_tunes_pitches x1 x2 post n5 0 0)
set_option maxHeartbeats 4000000 in
set_option maxRecDepth 100000 in
theorem w_X5_worstOf_5 {l : Launch} {D : va_G} {cI cJ cS : ClassId} {ad adK : Nat → Nat} {a_o a_cars a_cars_speeds a_stretches a_stretches_kinds a_stretches_others a_stretches_spaces a_tunes a_tunes_noteCounts a_tunes_pitches : Nat} {z_demands z_cars_bases z_cars_shares z_stretches_times z_tunes_beats : Value} {v_drawSeed : Int32} {v_cars_carCount : Int32} {f_cars_speeds : Nat → Int32} {v_stretches_stretchCount : Int32} {f_stretches_kinds : Nat → Int32} {f_stretches_others : Nat → Int32} {f_stretches_spaces : Nat → Int32} {v_tunes_tuneCount : Int32} {f_tunes_noteCounts : Nat → Int32} {f_tunes_pitches : Nat → Int32} {x1 : Int32} {x2 : Int32} {post : Int32 → Prop} {p : Program} {e : Env} {s : State} {m : MethodId} {args : Array Value} {below : List Frame} {meth : Method} {c : Code} (S : CallFix p m c cX5_worstOf 5 s args GW "RoadThatSings$Road") (hE : EN D cI cJ cS s) (hT : ST ad adK nof s s.heap) (hP : va_P D vwCl (wX5_worstOf cI cJ cS a_o a_cars a_cars_speeds a_stretches a_stretches_kinds a_stretches_others a_stretches_spaces a_tunes a_tunes_noteCounts a_tunes_pitches z_demands z_cars_bases z_cars_shares z_stretches_times z_tunes_beats v_drawSeed v_cars_carCount f_cars_speeds v_stretches_stretchCount f_stretches_kinds f_stretches_others f_stretches_spaces v_tunes_tuneCount f_tunes_noteCounts f_tunes_pitches) s.heap) (hS : va_S nof s.heap s.heap []) (hr : meth.sig.returnType = (some (.int))) (hlocks : meth.locks = false) : ∀ n : Nat, ∀ (x3 : Int32) (x4 : Int32) (ls : Array Slot), L_X5_worstOf_5 v_cars_carCount f_cars_speeds v_stretches_stretchCount f_stretches_kinds f_stretches_others f_stretches_spaces v_tunes_tuneCount f_tunes_noteCounts f_tunes_pitches x1 x2 post n x3 x4 → lv_has ls 5 [(0, .ref a_o), (1, .int x1), (2, .int x2), (3, .int x3), (4, .int x4)] → W p l e (rmd 4 0 0) s m args below meth c s.heap [] 0 0 (MQ below (vp_Si post) args s 0 0 nof) (F0 m 5 ls []) := by
  intro n
  induction n with
  | zero =>
    intro x3 x4 ls h hl
    exact h.elim
  | succ n ih =>
    intro x3 x4 ls h hl
    rw [L_X5_worstOf_5] at h
    have hx := S.1
    have hb := S.2.1
    refine lv_iload hx hb dX5_worstOf_5 (lv_at hl 4 rfl) ?_
    refine lv_aload_n hx hb dX5_worstOf_7 rfl (lv_at hl 0 rfl) ?_
    refine gf S hE hP 0 rfl rfl inX5 (k := 2) (by decide) q99 rfl dX5_worstOf_8 ?_
    refine lv_iload_n hx hb dX5_worstOf_11 rfl (lv_at hl 2 rfl) ?_
    refine ro_i (roV S hE hT hS (c_X8_notesOf h) lkX5_83 rfl ⟨(Nat.le_of_ble_eq_true rfl), (Nat.le_of_ble_eq_true rfl)⟩ (hP.sub [7, 8] rfl) 0 rfl rfl hl.1 rfl (Nat.le_of_ble_eq_true rfl) dX5_worstOf_12 ⟨(Nat.zero_le _), (Nat.zero_le _)⟩) (fun r12 h => ?_)
    refine lv_icmp_ge (tgt := 37) hx hb dX5_worstOf_15 (by decide) (fun hc => ?_) (fun hc => ?_)
    · have h := h.1 hc
      refine lv_iload_n hx hb dX5_worstOf_37 rfl (lv_at hl 3 rfl) ?_
      exact W.iret hx hb hr (fun t ht _ => ⟨_, rfl, h, ht⟩) (fun _ hq => by cases hq) dX5_worstOf_38
    have h := h.2 hc
    refine lv_iload_n hx hb dX5_worstOf_18 rfl (lv_at hl 3 rfl) ?_
    refine lv_aload_n hx hb dX5_worstOf_19 rfl (lv_at hl 0 rfl) ?_
    refine lv_iload_n hx hb dX5_worstOf_20 rfl (lv_at hl 1 rfl) ?_
    refine lv_iload_n hx hb dX5_worstOf_21 rfl (lv_at hl 2 rfl) ?_
    refine lv_iload hx hb dX5_worstOf_22 (lv_at hl 4 rfl) ?_
    refine ro_i (roV S hE hT hS (c_X5_offOfNote h) lkX5_86 rfl ⟨(Nat.le_of_ble_eq_true rfl), (Nat.le_of_ble_eq_true rfl)⟩ (hP.sub [0, 1, 2, 3, 4, 5, 6, 7, 8, 9] rfl) 0 rfl rfl hl.1 rfl (Nat.le_of_ble_eq_true rfl) dX5_worstOf_24 ⟨(Nat.zero_le _), (Nat.zero_le _)⟩) (fun r24 h => ?_)
    refine va_mmax hx hb (S.2.2.1.trans hl.1.symm) S.2.2.2.1 (S.2.2.2.2 _ q782) (S.2.2.2.2 _ q236) (S.2.2.2.2 _ q10) (S.2.2.2.2 _ q237) (Nat.le_of_ble_eq_true rfl) (Nat.le_of_ble_eq_true rfl) (Nat.zero_le _) (Nat.zero_le _) dX5_worstOf_27 ?_
    refine lv_topi (fun x3_30 ex3_30 => ?_)
    have h := h _ ex3_30
    refine lv_istore_n (lv' := [(3, .int x3_30), (0, .ref a_o), (1, .int x1), (2, .int x2), (4, .int x4)]) hx hb dX5_worstOf_30 rfl hl (by decide) rfl (fun ls hl => ?_)
    obtain ⟨x4_31, ex4_31⟩ : ∃ z : Int32, z = x4 + 1 := ⟨_, rfl⟩
    have h := h _ ex4_31
    refine lv_iinc (v := x4_31) (lv' := [(4, .int x4_31), (3, .int x3_30), (0, .ref a_o), (1, .int x1), (2, .int x2)]) hx hb dX5_worstOf_31 hl (k := 4) rfl (by rw [ex4_31]; rfl) (by decide) rfl (fun ls hl => ?_)
    refine lv_goto (tgt := 5) hx hb dX5_worstOf_34 (by decide) ?_
    exact ih _ _ _ h (lv_sub hl [2, 3, 4, 1, 0] rfl)
set_option maxHeartbeats 4000000 in
set_option maxRecDepth 100000 in
theorem c_X5_worstOf {l : Launch} {D : va_G} {cI cJ cS : ClassId} {ad adK : Nat → Nat} {a_o a_cars a_cars_speeds a_stretches a_stretches_kinds a_stretches_others a_stretches_spaces a_tunes a_tunes_noteCounts a_tunes_pitches : Nat} {z_demands z_cars_bases z_cars_shares z_stretches_times z_tunes_beats : Value} {v_drawSeed : Int32} {v_cars_carCount : Int32} {f_cars_speeds : Nat → Int32} {v_stretches_stretchCount : Int32} {f_stretches_kinds : Nat → Int32} {f_stretches_others : Nat → Int32} {f_stretches_spaces : Nat → Int32} {v_tunes_tuneCount : Int32} {f_tunes_noteCounts : Nat → Int32} {f_tunes_pitches : Nat → Int32} {x1 : Int32} {x2 : Int32} {post : Int32 → Prop} (h : F_X5_worstOf v_cars_carCount f_cars_speeds v_stretches_stretchCount f_stretches_kinds f_stretches_others f_stretches_spaces v_tunes_tuneCount f_tunes_noteCounts f_tunes_pitches x1 x2 post) : Met l yX5_worstOf (Cond.code yX5_worstOf cX5_worstOf 5 (some (.int)) :: GW) (rmd 4 0 0) (PR D cI cJ cS ad adK [.ref a_o, .int x1, .int x2] (wX5_worstOf cI cJ cS a_o a_cars a_cars_speeds a_stretches a_stretches_kinds a_stretches_others a_stretches_spaces a_tunes a_tunes_noteCounts a_tunes_pitches z_demands z_cars_bases z_cars_shares z_stretches_times z_tunes_beats v_drawSeed v_cars_carCount f_cars_speeds v_stretches_stretchCount f_stretches_kinds f_stretches_others f_stretches_spaces v_tunes_tuneCount f_tunes_noteCounts f_tunes_pitches)) (vp_Si post) 0 0 nof := by
  refine Met.ro (by decide) (Nat.le_of_ble_eq_true rfl) (fun p e s m args below meth c ls (S : CallFix p m c cX5_worstOf 5 s args GW "RoadThatSings$Road") hE hT hP hS hr hlocks hl => ?_)
  have hx := S.1
  have hb := S.2.1
  have hl : lv_has ls 5 [(0, .ref a_o), (1, .int x1), (2, .int x2)] := hl
  unfold F_X5_worstOf at h
  refine lv_iconst (v := 0) hx hb dX5_worstOf_0 (by decide) ?_
  refine lv_istore_n (lv' := [(3, .int 0), (0, .ref a_o), (1, .int x1), (2, .int x2)]) hx hb dX5_worstOf_1 rfl hl (by decide) rfl (fun ls hl => ?_)
  refine lv_iconst (v := 0) hx hb dX5_worstOf_2 (by decide) ?_
  refine lv_istore (lv' := [(4, .int 0), (3, .int 0), (0, .ref a_o), (1, .int x1), (2, .int x2)]) hx hb dX5_worstOf_3 hl (by decide) rfl (fun ls hl => ?_)
  obtain ⟨n, h⟩ := h
  refine w_X5_worstOf_5 S hE hT hP hS hr hlocks n _ _ _ h (lv_sub hl [2, 3, 4, 1, 0] rfl)
/-! X7_otherOf -/
abbrev wX7_otherOf (cI cJ cS : ClassId) (a_o a_others : Nat) (z_kinds z_spaces z_times : Value) (v_stretchCount : Int32) (f_others : Nat → Int32) : va_W := [(a_o, .inr (6, [z_kinds, z_spaces, .ref a_others, z_times, .int v_stretchCount])), (a_others, .inl (cI, 16, .inl f_others))]
def F_X7_otherOf (v_stretchCount : Int32) (f_others : Nat → Int32) (x1 : Int32) (post : Int32 → Prop) : Prop := (F_X7_has v_stretchCount x1 (fun r2 => ((r2 = 0 → post 0) ∧ (¬ r2 = 0 → (vp_in x1 16 ∧ post (f_others x1.toNatClampNeg))))))
set_option maxHeartbeats 4000000 in
set_option maxRecDepth 100000 in
theorem c_X7_otherOf {l : Launch} {D : va_G} {cI cJ cS : ClassId} {ad adK : Nat → Nat} {a_o a_others : Nat} {z_kinds z_spaces z_times : Value} {v_stretchCount : Int32} {f_others : Nat → Int32} {x1 : Int32} {post : Int32 → Prop} (h : F_X7_otherOf v_stretchCount f_others x1 post) : Met l yX7_otherOf (Cond.code yX7_otherOf cX7_otherOf 2 (some (.int)) :: GW) (rmd 1 0 0) (PR D cI cJ cS ad adK [.ref a_o, .int x1] (wX7_otherOf cI cJ cS a_o a_others z_kinds z_spaces z_times v_stretchCount f_others)) (vp_Si post) 0 0 nof := by
  refine Met.ro (by decide) (Nat.le_of_ble_eq_true rfl) (fun p e s m args below meth c ls (S : CallFix p m c cX7_otherOf 2 s args GW "RoadThatSings$Stretches") hE hT hP hS hr hlocks hl => ?_)
  have hx := S.1
  have hb := S.2.1
  have hl : lv_has ls 2 [(0, .ref a_o), (1, .int x1)] := hl
  unfold F_X7_otherOf at h
  refine lv_aload_n hx hb dX7_otherOf_0 rfl (lv_at hl 0 rfl) ?_
  refine lv_iload_n hx hb dX7_otherOf_1 rfl (lv_at hl 1 rfl) ?_
  refine ro_i (roV S hE hT hS (c_X7_has h) lkX7_47 rfl ⟨(Nat.le_of_ble_eq_true rfl), (Nat.le_of_ble_eq_true rfl)⟩ (hP.sub [0] rfl) 0 rfl rfl hl.1 rfl (Nat.le_of_ble_eq_true rfl) dX7_otherOf_2 ⟨(Nat.zero_le _), (Nat.zero_le _)⟩) (fun r2 h => ?_)
  refine lv_if_eq (tgt := 17) hx hb dX7_otherOf_5 (by decide) (fun hc => ?_) (fun hc => ?_)
  · have h := h.1 hc
    refine lv_iconst (v := 0) hx hb dX7_otherOf_17 (by decide) ?_
    exact W.iret hx hb hr (fun t ht _ => ⟨_, rfl, h, ht⟩) (fun _ hq => by cases hq) dX7_otherOf_18
  have h := h.2 hc
  refine lv_aload_n hx hb dX7_otherOf_8 rfl (lv_at hl 0 rfl) ?_
  refine gf S hE hP 0 rfl rfl inX7 (k := 2) (by decide) q40 rfl dX7_otherOf_9 ?_
  refine lv_iload_n hx hb dX7_otherOf_12 rfl (lv_at hl 1 rfl) ?_
  obtain ⟨hi, h⟩ := h
  refine ial S hE hP 1 rfl hi dX7_otherOf_13 ?_
  refine lv_goto (tgt := 18) hx hb dX7_otherOf_14 (by decide) ?_
  exact W.iret hx hb hr (fun t ht _ => ⟨_, rfl, h, ht⟩) (fun _ hq => by cases hq) dX7_otherOf_18
/-! X7_timesOf -/
abbrev wX7_timesOf (cI cJ cS : ClassId) (a_o a_times : Nat) (z_kinds z_spaces z_others : Value) (v_stretchCount : Int32) (f_times : Nat → Int32) : va_W := [(a_o, .inr (6, [z_kinds, z_spaces, z_others, .ref a_times, .int v_stretchCount])), (a_times, .inl (cI, 16, .inl f_times))]
def F_X7_timesOf (v_stretchCount : Int32) (f_times : Nat → Int32) (x1 : Int32) (post : Int32 → Prop) : Prop := (F_X7_has v_stretchCount x1 (fun r2 => ((r2 = 0 → post 0) ∧ (¬ r2 = 0 → (vp_in x1 16 ∧ post (f_times x1.toNatClampNeg))))))
set_option maxHeartbeats 4000000 in
set_option maxRecDepth 100000 in
theorem c_X7_timesOf {l : Launch} {D : va_G} {cI cJ cS : ClassId} {ad adK : Nat → Nat} {a_o a_times : Nat} {z_kinds z_spaces z_others : Value} {v_stretchCount : Int32} {f_times : Nat → Int32} {x1 : Int32} {post : Int32 → Prop} (h : F_X7_timesOf v_stretchCount f_times x1 post) : Met l yX7_timesOf (Cond.code yX7_timesOf cX7_timesOf 2 (some (.int)) :: GW) (rmd 1 0 0) (PR D cI cJ cS ad adK [.ref a_o, .int x1] (wX7_timesOf cI cJ cS a_o a_times z_kinds z_spaces z_others v_stretchCount f_times)) (vp_Si post) 0 0 nof := by
  refine Met.ro (by decide) (Nat.le_of_ble_eq_true rfl) (fun p e s m args below meth c ls (S : CallFix p m c cX7_timesOf 2 s args GW "RoadThatSings$Stretches") hE hT hP hS hr hlocks hl => ?_)
  have hx := S.1
  have hb := S.2.1
  have hl : lv_has ls 2 [(0, .ref a_o), (1, .int x1)] := hl
  unfold F_X7_timesOf at h
  refine lv_aload_n hx hb dX7_timesOf_0 rfl (lv_at hl 0 rfl) ?_
  refine lv_iload_n hx hb dX7_timesOf_1 rfl (lv_at hl 1 rfl) ?_
  refine ro_i (roV S hE hT hS (c_X7_has h) lkX7_47 rfl ⟨(Nat.le_of_ble_eq_true rfl), (Nat.le_of_ble_eq_true rfl)⟩ (hP.sub [0] rfl) 0 rfl rfl hl.1 rfl (Nat.le_of_ble_eq_true rfl) dX7_timesOf_2 ⟨(Nat.zero_le _), (Nat.zero_le _)⟩) (fun r2 h => ?_)
  refine lv_if_eq (tgt := 17) hx hb dX7_timesOf_5 (by decide) (fun hc => ?_) (fun hc => ?_)
  · have h := h.1 hc
    refine lv_iconst (v := 0) hx hb dX7_timesOf_17 (by decide) ?_
    exact W.iret hx hb hr (fun t ht _ => ⟨_, rfl, h, ht⟩) (fun _ hq => by cases hq) dX7_timesOf_18
  have h := h.2 hc
  refine lv_aload_n hx hb dX7_timesOf_8 rfl (lv_at hl 0 rfl) ?_
  refine gf S hE hP 0 rfl rfl inX7 (k := 3) (by decide) q41 rfl dX7_timesOf_9 ?_
  refine lv_iload_n hx hb dX7_timesOf_12 rfl (lv_at hl 1 rfl) ?_
  obtain ⟨hi, h⟩ := h
  refine ial S hE hP 1 rfl hi dX7_timesOf_13 ?_
  refine lv_goto (tgt := 18) hx hb dX7_timesOf_14 (by decide) ?_
  exact W.iret hx hb hr (fun t ht _ => ⟨_, rfl, h, ht⟩) (fun _ hq => by cases hq) dX7_timesOf_18
/-! X7_lengthOf -/
abbrev wX7_lengthOf (cI cJ cS : ClassId) (a_o a_kinds a_others a_spaces a_times : Nat) (v_stretchCount : Int32) (f_kinds : Nat → Int32) (f_others : Nat → Int32) (f_spaces : Nat → Int32) (f_times : Nat → Int32) : va_W := [(a_o, .inr (6, [.ref a_kinds, .ref a_spaces, .ref a_others, .ref a_times, .int v_stretchCount])), (a_kinds, .inl (cI, 16, .inl f_kinds)), (a_others, .inl (cI, 16, .inl f_others)), (a_spaces, .inl (cI, 16, .inl f_spaces)), (a_times, .inl (cI, 16, .inl f_times))]
def F_X7_lengthOf_23 (v_stretchCount : Int32) (f_times : Nat → Int32) (post : Int32 → Prop) (x1 : Int32) (s0 : Int32) : Prop := (F_X7_timesOf v_stretchCount f_times x1 (fun r26 => post (r26 * s0)))
def F_X7_lengthOf (v_stretchCount : Int32) (f_kinds : Nat → Int32) (f_others : Nat → Int32) (f_spaces : Nat → Int32) (f_times : Nat → Int32) (x1 : Int32) (post : Int32 → Prop) : Prop := (F_X7_kindOf v_stretchCount f_kinds x1 (fun r2 => ((r2 = 6 → (F_X7_otherOf v_stretchCount f_others x1 (fun r12 => F_X7_lengthOf_23 v_stretchCount f_times post x1 r12))) ∧ (¬ r2 = 6 → (F_X7_spacesTogether v_stretchCount f_kinds f_others f_spaces x1 (fun r20 => F_X7_lengthOf_23 v_stretchCount f_times post x1 r20))))))
set_option maxHeartbeats 4000000 in
set_option maxRecDepth 100000 in
theorem w_X7_lengthOf_23 {l : Launch} {D : va_G} {cI cJ cS : ClassId} {ad adK : Nat → Nat} {a_o a_kinds a_others a_spaces a_times : Nat} {v_stretchCount : Int32} {f_kinds : Nat → Int32} {f_others : Nat → Int32} {f_spaces : Nat → Int32} {f_times : Nat → Int32} {x1 : Int32} {s0 : Int32} {post : Int32 → Prop} {p : Program} {e : Env} {s : State} {m : MethodId} {args : Array Value} {below : List Frame} {meth : Method} {c : Code} (S : CallFix p m c cX7_lengthOf 3 s args GW "RoadThatSings$Stretches") (hE : EN D cI cJ cS s) (hT : ST ad adK nof s s.heap) (hP : va_P D vwCl (wX7_lengthOf cI cJ cS a_o a_kinds a_others a_spaces a_times v_stretchCount f_kinds f_others f_spaces f_times) s.heap) (hS : va_S nof s.heap s.heap []) (hr : meth.sig.returnType = (some (.int))) (hlocks : meth.locks = false) : ∀ (ls : Array Slot), F_X7_lengthOf_23 v_stretchCount f_times post x1 s0 → lv_has ls 3 [(0, .ref a_o), (1, .int x1)] → W p l e (rmd 2 0 0) s m args below meth c s.heap [] 0 0 (MQ below (vp_Si post) args s 0 0 nof) (F0 m 23 ls [.int s0]) := by
  intro  ls h hl
  unfold F_X7_lengthOf_23 at h
  have hx := S.1
  have hb := S.2.1
  refine lv_istore_n (lv' := [(2, .int s0), (0, .ref a_o), (1, .int x1)]) hx hb dX7_lengthOf_23 rfl hl (by decide) rfl (fun ls hl => ?_)
  refine lv_aload_n hx hb dX7_lengthOf_24 rfl (lv_at hl 1 rfl) ?_
  refine lv_iload_n hx hb dX7_lengthOf_25 rfl (lv_at hl 2 rfl) ?_
  refine ro_i (roV S hE hT hS (c_X7_timesOf h) lkX7_64 rfl ⟨(Nat.le_of_ble_eq_true rfl), (Nat.le_of_ble_eq_true rfl)⟩ (hP.sub [0, 4] rfl) 0 rfl rfl hl.1 rfl (Nat.le_of_ble_eq_true rfl) dX7_lengthOf_26 ⟨(Nat.zero_le _), (Nat.zero_le _)⟩) (fun r26 h => ?_)
  refine lv_iload_n hx hb dX7_lengthOf_29 rfl (lv_at hl 0 rfl) ?_
  refine lv_imul hx hb dX7_lengthOf_30 ?_
  exact W.iret hx hb hr (fun t ht _ => ⟨_, rfl, h, ht⟩) (fun _ hq => by cases hq) dX7_lengthOf_31
set_option maxHeartbeats 4000000 in
set_option maxRecDepth 100000 in
theorem c_X7_lengthOf {l : Launch} {D : va_G} {cI cJ cS : ClassId} {ad adK : Nat → Nat} {a_o a_kinds a_others a_spaces a_times : Nat} {v_stretchCount : Int32} {f_kinds : Nat → Int32} {f_others : Nat → Int32} {f_spaces : Nat → Int32} {f_times : Nat → Int32} {x1 : Int32} {post : Int32 → Prop} (h : F_X7_lengthOf v_stretchCount f_kinds f_others f_spaces f_times x1 post) : Met l yX7_lengthOf (Cond.code yX7_lengthOf cX7_lengthOf 3 (some (.int)) :: GW) (rmd 2 0 0) (PR D cI cJ cS ad adK [.ref a_o, .int x1] (wX7_lengthOf cI cJ cS a_o a_kinds a_others a_spaces a_times v_stretchCount f_kinds f_others f_spaces f_times)) (vp_Si post) 0 0 nof := by
  refine Met.ro (by decide) (Nat.le_of_ble_eq_true rfl) (fun p e s m args below meth c ls (S : CallFix p m c cX7_lengthOf 3 s args GW "RoadThatSings$Stretches") hE hT hP hS hr hlocks hl => ?_)
  have hx := S.1
  have hb := S.2.1
  have hl : lv_has ls 3 [(0, .ref a_o), (1, .int x1)] := hl
  unfold F_X7_lengthOf at h
  refine lv_aload_n hx hb dX7_lengthOf_0 rfl (lv_at hl 0 rfl) ?_
  refine lv_iload_n hx hb dX7_lengthOf_1 rfl (lv_at hl 1 rfl) ?_
  refine ro_i (roV S hE hT hS (c_X7_kindOf h) lkX7_54 rfl ⟨(Nat.le_of_ble_eq_true rfl), (Nat.le_of_ble_eq_true rfl)⟩ (hP.sub [0, 1] rfl) 0 rfl rfl hl.1 rfl (Nat.le_of_ble_eq_true rfl) dX7_lengthOf_2 ⟨(Nat.zero_le _), (Nat.zero_le _)⟩) (fun r2 h => ?_)
  refine lv_bipush (v := 6) hx hb dX7_lengthOf_5 (by decide) ?_
  refine lv_icmp_ne (tgt := 18) hx hb dX7_lengthOf_7 (by decide) (fun hc => ?_) (fun hc => ?_)
  · have h := h.2 hc
    refine lv_aload_n hx hb dX7_lengthOf_18 rfl (lv_at hl 0 rfl) ?_
    refine lv_iload_n hx hb dX7_lengthOf_19 rfl (lv_at hl 1 rfl) ?_
    refine ro_i (roV S hE hT hS (c_X7_spacesTogether h) lkX7_61 rfl ⟨(Nat.le_of_ble_eq_true rfl), (Nat.le_of_ble_eq_true rfl)⟩ (hP.sub [0, 1, 2, 3] rfl) 0 rfl rfl hl.1 rfl (Nat.le_of_ble_eq_true rfl) dX7_lengthOf_20 ⟨(Nat.zero_le _), (Nat.zero_le _)⟩) (fun r20 h => ?_)
    refine w_X7_lengthOf_23 S hE hT hP hS hr hlocks _ h (lv_sub hl [0, 1] rfl)
  have h := h.1 hc
  refine lv_aload_n hx hb dX7_lengthOf_10 rfl (lv_at hl 0 rfl) ?_
  refine lv_iload_n hx hb dX7_lengthOf_11 rfl (lv_at hl 1 rfl) ?_
  refine ro_i (roV S hE hT hS (c_X7_otherOf h) lkX7_58 rfl ⟨(Nat.le_of_ble_eq_true rfl), (Nat.le_of_ble_eq_true rfl)⟩ (hP.sub [0, 2] rfl) 0 rfl rfl hl.1 rfl (Nat.le_of_ble_eq_true rfl) dX7_lengthOf_12 ⟨(Nat.zero_le _), (Nat.zero_le _)⟩) (fun r12 h => ?_)
  refine lv_goto (tgt := 23) hx hb dX7_lengthOf_15 (by decide) ?_
  refine w_X7_lengthOf_23 S hE hT hP hS hr hlocks _ h (lv_sub hl [0, 1] rfl)
/-! X7_lastingOf -/
abbrev wX7_lastingOf (cI cJ cS : ClassId) (a_o a_kinds a_others a_spaces a_times : Nat) (v_stretchCount : Int32) (f_kinds : Nat → Int32) (f_others : Nat → Int32) (f_spaces : Nat → Int32) (f_times : Nat → Int32) : va_W := [(a_o, .inr (6, [.ref a_kinds, .ref a_spaces, .ref a_others, .ref a_times, .int v_stretchCount])), (a_kinds, .inl (cI, 16, .inl f_kinds)), (a_others, .inl (cI, 16, .inl f_others)), (a_spaces, .inl (cI, 16, .inl f_spaces)), (a_times, .inl (cI, 16, .inl f_times))]
def F_X7_lastingOf (v_stretchCount : Int32) (f_kinds : Nat → Int32) (f_others : Nat → Int32) (f_spaces : Nat → Int32) (f_times : Nat → Int32) (x1 : Int32) (x2 : Int32) (post : Int32 → Prop) : Prop := (F_X7_lengthOf v_stretchCount f_kinds f_others f_spaces f_times x1 (fun r2 => (F_X9_quotient (r2 * 10000) (704 * x2) (fun r14 => post r14))))
set_option maxHeartbeats 4000000 in
set_option maxRecDepth 100000 in
theorem c_X7_lastingOf {l : Launch} {D : va_G} {cI cJ cS : ClassId} {ad adK : Nat → Nat} {a_o a_kinds a_others a_spaces a_times : Nat} {v_stretchCount : Int32} {f_kinds : Nat → Int32} {f_others : Nat → Int32} {f_spaces : Nat → Int32} {f_times : Nat → Int32} {x1 : Int32} {x2 : Int32} {post : Int32 → Prop} (h : F_X7_lastingOf v_stretchCount f_kinds f_others f_spaces f_times x1 x2 post) : Met l yX7_lastingOf (Cond.code yX7_lastingOf cX7_lastingOf 3 (some (.int)) :: GW) (rmd 3 0 0) (PR D cI cJ cS ad adK [.ref a_o, .int x1, .int x2] (wX7_lastingOf cI cJ cS a_o a_kinds a_others a_spaces a_times v_stretchCount f_kinds f_others f_spaces f_times)) (vp_Si post) 0 0 nof := by
  refine Met.ro (by decide) (Nat.le_of_ble_eq_true rfl) (fun p e s m args below meth c ls (S : CallFix p m c cX7_lastingOf 3 s args GW "RoadThatSings$Stretches") hE hT hP hS hr hlocks hl => ?_)
  have hx := S.1
  have hb := S.2.1
  have hl : lv_has ls 3 [(0, .ref a_o), (1, .int x1), (2, .int x2)] := hl
  unfold F_X7_lastingOf at h
  refine lv_aload_n hx hb dX7_lastingOf_0 rfl (lv_at hl 0 rfl) ?_
  refine lv_iload_n hx hb dX7_lastingOf_1 rfl (lv_at hl 1 rfl) ?_
  refine ro_i (roV S hE hT hS (c_X7_lengthOf h) lkX7_67 rfl ⟨(Nat.le_of_ble_eq_true rfl), (Nat.le_of_ble_eq_true rfl)⟩ (hP.sub [0, 1, 2, 3, 4] rfl) 0 rfl rfl hl.1 rfl (Nat.le_of_ble_eq_true rfl) dX7_lastingOf_2 ⟨(Nat.zero_le _), (Nat.zero_le _)⟩) (fun r2 h => ?_)
  refine lv_sipush (v := 10000) hx hb dX7_lastingOf_5 (by decide) ?_
  refine lv_imul hx hb dX7_lastingOf_8 ?_
  refine lv_sipush (v := 704) hx hb dX7_lastingOf_9 (by decide) ?_
  refine lv_iload_n hx hb dX7_lastingOf_12 rfl (lv_at hl 2 rfl) ?_
  refine lv_imul hx hb dX7_lastingOf_13 ?_
  refine ro_i (roSN S hE hT hS (c_X9_quotient h) lkX7_76 rfl ⟨(Nat.le_of_ble_eq_true rfl), (Nat.le_of_ble_eq_true rfl)⟩ (hP.sub [] rfl) hl.1 rfl (Nat.le_of_ble_eq_true rfl) dX7_lastingOf_14 ⟨(Nat.zero_le _), (Nat.zero_le _)⟩) (fun r14 h => ?_)
  exact W.iret hx hb hr (fun t ht _ => ⟨_, rfl, h, ht⟩) (fun _ hq => by cases hq) dX7_lastingOf_17
/-! X5_latenessOf -/
abbrev wX5_latenessOf (cI cJ cS : ClassId) (a_o a_cars a_cars_speeds a_demands a_stretches a_stretches_kinds a_stretches_others a_stretches_spaces a_stretches_times a_tunes a_tunes_beats a_tunes_noteCounts : Nat) (z_cars_bases z_cars_shares z_tunes_pitches : Value) (v_drawSeed : Int32) (v_cars_carCount : Int32) (f_cars_speeds : Nat → Int32) (f_demands : Nat → Int32) (v_stretches_stretchCount : Int32) (f_stretches_kinds : Nat → Int32) (f_stretches_others : Nat → Int32) (f_stretches_spaces : Nat → Int32) (f_stretches_times : Nat → Int32) (v_tunes_tuneCount : Int32) (f_tunes_beats : Nat → Int32) (f_tunes_noteCounts : Nat → Int32) : va_W := [(a_o, .inr (4, [.ref a_stretches, .ref a_cars, .ref a_tunes, .ref a_demands, .int v_drawSeed])), (a_cars, .inr (1, [.ref a_cars_speeds, z_cars_bases, z_cars_shares, .int v_cars_carCount])), (a_cars_speeds, .inl (cI, 6, .inl f_cars_speeds)), (a_demands, .inl (cI, 4, .inl f_demands)), (a_stretches, .inr (6, [.ref a_stretches_kinds, .ref a_stretches_spaces, .ref a_stretches_others, .ref a_stretches_times, .int v_stretches_stretchCount])), (a_stretches_kinds, .inl (cI, 16, .inl f_stretches_kinds)), (a_stretches_others, .inl (cI, 16, .inl f_stretches_others)), (a_stretches_spaces, .inl (cI, 16, .inl f_stretches_spaces)), (a_stretches_times, .inl (cI, 16, .inl f_stretches_times)), (a_tunes, .inr (7, [z_tunes_pitches, .ref a_tunes_beats, .ref a_tunes_noteCounts, .int v_tunes_tuneCount])), (a_tunes_beats, .inl (cI, 72, .inl f_tunes_beats)), (a_tunes_noteCounts, .inl (cI, 6, .inl f_tunes_noteCounts))]
def L_X5_latenessOf_11 (v_cars_carCount : Int32) (f_cars_speeds : Nat → Int32) (f_demands : Nat → Int32) (v_stretches_stretchCount : Int32) (f_stretches_kinds : Nat → Int32) (f_stretches_others : Nat → Int32) (f_stretches_spaces : Nat → Int32) (f_stretches_times : Nat → Int32) (v_tunes_tuneCount : Int32) (f_tunes_beats : Nat → Int32) (f_tunes_noteCounts : Nat → Int32) (x1 : Int32) (x2 : Int32) (post : Int32 → Prop) : Nat → Int32 → Int32 → Int32 → Int32 → Prop
  | 0, _, _, _, _ => False
  | n11 + 1, x3, x4, x5, x6 => (F_X8_notesOf v_tunes_tuneCount f_tunes_noteCounts x2 (fun r18 => ((r18 ≤ x6 → post x3) ∧ (¬ r18 ≤ x6 → (∀ x3_36 : Int32, x3_36 = (if x3 < (if 0 ≤ (x4 - x5) then (x4 - x5) else 0 - (x4 - x5)) then (if 0 ≤ (x4 - x5) then (x4 - x5) else 0 - (x4 - x5)) else x3) → (F_X1_speedOf v_cars_carCount f_cars_speeds x1 (fun r50 => (F_X7_lastingOf v_stretches_stretchCount f_stretches_kinds f_stretches_others f_stretches_spaces f_stretches_times x6 r50 (fun r53 => (∀ x4_57 : Int32, x4_57 = x4 + r53 → (F_X8_beatsOf v_tunes_tuneCount f_tunes_beats f_tunes_noteCounts x2 x6 (fun r68 => (F_X5_asked f_demands 3 (fun r73 => (∀ x5_78 : Int32, x5_78 = x5 + (r68 * r73) → (∀ x6_80 : Int32, x6_80 = x6 + 1 → L_X5_latenessOf_11 v_cars_carCount f_cars_speeds f_demands v_stretches_stretchCount f_stretches_kinds f_stretches_others f_stretches_spaces f_stretches_times v_tunes_tuneCount f_tunes_beats f_tunes_noteCounts x1 x2 post n11 x3_36 x4_57 x5_78 x6_80))))))))))))))))
def F_X5_latenessOf (v_cars_carCount : Int32) (f_cars_speeds : Nat → Int32) (f_demands : Nat → Int32) (v_stretches_stretchCount : Int32) (f_stretches_kinds : Nat → Int32) (f_stretches_others : Nat → Int32) (f_stretches_spaces : Nat → Int32) (f_stretches_times : Nat → Int32) (v_tunes_tuneCount : Int32) (f_tunes_beats : Nat → Int32) (f_tunes_noteCounts : Nat → Int32) (x1 : Int32) (x2 : Int32) (post : Int32 → Prop) : Prop := (∃ n11 : Nat, L_X5_latenessOf_11 v_cars_carCount f_cars_speeds f_demands v_stretches_stretchCount f_stretches_kinds f_stretches_others f_stretches_spaces f_stretches_times v_tunes_tuneCount f_tunes_beats f_tunes_noteCounts x1 x2 post n11 0 0 0 0)
set_option maxHeartbeats 4000000 in
set_option maxRecDepth 100000 in
theorem w_X5_latenessOf_11 {l : Launch} {D : va_G} {cI cJ cS : ClassId} {ad adK : Nat → Nat} {a_o a_cars a_cars_speeds a_demands a_stretches a_stretches_kinds a_stretches_others a_stretches_spaces a_stretches_times a_tunes a_tunes_beats a_tunes_noteCounts : Nat} {z_cars_bases z_cars_shares z_tunes_pitches : Value} {v_drawSeed : Int32} {v_cars_carCount : Int32} {f_cars_speeds : Nat → Int32} {f_demands : Nat → Int32} {v_stretches_stretchCount : Int32} {f_stretches_kinds : Nat → Int32} {f_stretches_others : Nat → Int32} {f_stretches_spaces : Nat → Int32} {f_stretches_times : Nat → Int32} {v_tunes_tuneCount : Int32} {f_tunes_beats : Nat → Int32} {f_tunes_noteCounts : Nat → Int32} {x1 : Int32} {x2 : Int32} {post : Int32 → Prop} {p : Program} {e : Env} {s : State} {m : MethodId} {args : Array Value} {below : List Frame} {meth : Method} {c : Code} (S : CallFix p m c cX5_latenessOf 7 s args GW "RoadThatSings$Road") (hE : EN D cI cJ cS s) (hT : ST ad adK nof s s.heap) (hP : va_P D vwCl (wX5_latenessOf cI cJ cS a_o a_cars a_cars_speeds a_demands a_stretches a_stretches_kinds a_stretches_others a_stretches_spaces a_stretches_times a_tunes a_tunes_beats a_tunes_noteCounts z_cars_bases z_cars_shares z_tunes_pitches v_drawSeed v_cars_carCount f_cars_speeds f_demands v_stretches_stretchCount f_stretches_kinds f_stretches_others f_stretches_spaces f_stretches_times v_tunes_tuneCount f_tunes_beats f_tunes_noteCounts) s.heap) (hS : va_S nof s.heap s.heap []) (hr : meth.sig.returnType = (some (.int))) (hlocks : meth.locks = false) : ∀ n : Nat, ∀ (x3 : Int32) (x4 : Int32) (x5 : Int32) (x6 : Int32) (ls : Array Slot), L_X5_latenessOf_11 v_cars_carCount f_cars_speeds f_demands v_stretches_stretchCount f_stretches_kinds f_stretches_others f_stretches_spaces f_stretches_times v_tunes_tuneCount f_tunes_beats f_tunes_noteCounts x1 x2 post n x3 x4 x5 x6 → lv_has ls 7 [(0, .ref a_o), (1, .int x1), (2, .int x2), (3, .int x3), (4, .int x4), (5, .int x5), (6, .int x6)] → W p l e (rmd 4 0 0) s m args below meth c s.heap [] 0 0 (MQ below (vp_Si post) args s 0 0 nof) (F0 m 11 ls []) := by
  intro n
  induction n with
  | zero =>
    intro x3 x4 x5 x6 ls h hl
    exact h.elim
  | succ n ih =>
    intro x3 x4 x5 x6 ls h hl
    rw [L_X5_latenessOf_11] at h
    have hx := S.1
    have hb := S.2.1
    refine lv_iload hx hb dX5_latenessOf_11 (lv_at hl 6 rfl) ?_
    refine lv_aload_n hx hb dX5_latenessOf_13 rfl (lv_at hl 0 rfl) ?_
    refine gf S hE hP 0 rfl rfl inX5 (k := 2) (by decide) q99 rfl dX5_latenessOf_14 ?_
    refine lv_iload_n hx hb dX5_latenessOf_17 rfl (lv_at hl 2 rfl) ?_
    refine ro_i (roV S hE hT hS (c_X8_notesOf h) lkX5_83 rfl ⟨(Nat.le_of_ble_eq_true rfl), (Nat.le_of_ble_eq_true rfl)⟩ (hP.sub [9, 11] rfl) 0 rfl rfl hl.1 rfl (Nat.le_of_ble_eq_true rfl) dX5_latenessOf_18 ⟨(Nat.zero_le _), (Nat.zero_le _)⟩) (fun r18 h => ?_)
    refine lv_icmp_ge (tgt := 86) hx hb dX5_latenessOf_21 (by decide) (fun hc => ?_) (fun hc => ?_)
    · have h := h.1 hc
      refine lv_iload_n hx hb dX5_latenessOf_86 rfl (lv_at hl 3 rfl) ?_
      exact W.iret hx hb hr (fun t ht _ => ⟨_, rfl, h, ht⟩) (fun _ hq => by cases hq) dX5_latenessOf_87
    have h := h.2 hc
    refine lv_iload_n hx hb dX5_latenessOf_24 rfl (lv_at hl 3 rfl) ?_
    refine lv_iload hx hb dX5_latenessOf_25 (lv_at hl 4 rfl) ?_
    refine lv_iload hx hb dX5_latenessOf_27 (lv_at hl 5 rfl) ?_
    refine lv_isub hx hb dX5_latenessOf_29 ?_
    refine va_mabs hx hb (S.2.2.1.trans hl.1.symm) S.2.2.2.1 (S.2.2.2.2 _ q787) (S.2.2.2.2 _ q756) (S.2.2.2.2 _ q10) (S.2.2.2.2 _ q757) (Nat.le_of_ble_eq_true rfl) (Nat.le_of_ble_eq_true rfl) (Nat.zero_le _) (Nat.zero_le _) dX5_latenessOf_30 ?_
    refine va_mmax hx hb (S.2.2.1.trans hl.1.symm) S.2.2.2.1 (S.2.2.2.2 _ q782) (S.2.2.2.2 _ q236) (S.2.2.2.2 _ q10) (S.2.2.2.2 _ q237) (Nat.le_of_ble_eq_true rfl) (Nat.le_of_ble_eq_true rfl) (Nat.zero_le _) (Nat.zero_le _) dX5_latenessOf_33 ?_
    refine lv_topi (fun x3_36 ex3_36 => ?_)
    have h := h _ ex3_36
    refine lv_istore_n (lv' := [(3, .int x3_36), (0, .ref a_o), (1, .int x1), (2, .int x2), (4, .int x4), (5, .int x5), (6, .int x6)]) hx hb dX5_latenessOf_36 rfl hl (by decide) rfl (fun ls hl => ?_)
    refine lv_iload hx hb dX5_latenessOf_37 (lv_at hl 4 rfl) ?_
    refine lv_aload_n hx hb dX5_latenessOf_39 rfl (lv_at hl 1 rfl) ?_
    refine gf S hE hP 0 rfl rfl inX5 (k := 0) (by decide) q93 rfl dX5_latenessOf_40 ?_
    refine lv_iload hx hb dX5_latenessOf_43 (lv_at hl 6 rfl) ?_
    refine lv_aload_n hx hb dX5_latenessOf_45 rfl (lv_at hl 1 rfl) ?_
    refine gf S hE hP 0 rfl rfl inX5 (k := 1) (by decide) q96 rfl dX5_latenessOf_46 ?_
    refine lv_iload_n hx hb dX5_latenessOf_49 rfl (lv_at hl 2 rfl) ?_
    refine ro_i (roV S hE hT hS (c_X1_speedOf h) lkX5_69 rfl ⟨(Nat.le_of_ble_eq_true rfl), (Nat.le_of_ble_eq_true rfl)⟩ (hP.sub [1, 2] rfl) 0 rfl rfl hl.1 rfl (Nat.le_of_ble_eq_true rfl) dX5_latenessOf_50 ⟨(Nat.zero_le _), (Nat.zero_le _)⟩) (fun r50 h => ?_)
    refine ro_i (roV S hE hT hS (c_X7_lastingOf h) lkX5_98 rfl ⟨(Nat.le_of_ble_eq_true rfl), (Nat.le_of_ble_eq_true rfl)⟩ (hP.sub [4, 5, 6, 7, 8] rfl) 0 rfl rfl hl.1 rfl (Nat.le_of_ble_eq_true rfl) dX5_latenessOf_53 ⟨(Nat.zero_le _), (Nat.zero_le _)⟩) (fun r53 h => ?_)
    refine lv_iadd hx hb dX5_latenessOf_56 ?_
    refine lv_topi (fun x4_57 ex4_57 => ?_)
    have h := h _ ex4_57
    refine lv_istore (lv' := [(4, .int x4_57), (3, .int x3_36), (0, .ref a_o), (1, .int x1), (2, .int x2), (5, .int x5), (6, .int x6)]) hx hb dX5_latenessOf_57 hl (by decide) rfl (fun ls hl => ?_)
    refine lv_iload hx hb dX5_latenessOf_59 (lv_at hl 5 rfl) ?_
    refine lv_aload_n hx hb dX5_latenessOf_61 rfl (lv_at hl 2 rfl) ?_
    refine gf S hE hP 0 rfl rfl inX5 (k := 2) (by decide) q99 rfl dX5_latenessOf_62 ?_
    refine lv_iload_n hx hb dX5_latenessOf_65 rfl (lv_at hl 4 rfl) ?_
    refine lv_iload hx hb dX5_latenessOf_66 (lv_at hl 6 rfl) ?_
    refine ro_i (roV S hE hT hS (c_X8_beatsOf h) lkX5_101 rfl ⟨(Nat.le_of_ble_eq_true rfl), (Nat.le_of_ble_eq_true rfl)⟩ (hP.sub [9, 10, 11] rfl) 0 rfl rfl hl.1 rfl (Nat.le_of_ble_eq_true rfl) dX5_latenessOf_68 ⟨(Nat.zero_le _), (Nat.zero_le _)⟩) (fun r68 h => ?_)
    refine lv_aload_n hx hb dX5_latenessOf_71 rfl (lv_at hl 2 rfl) ?_
    refine lv_iconst (v := 3) hx hb dX5_latenessOf_72 (by decide) ?_
    refine ro_i (roV S hE hT hS (c_X5_asked h) lkX5_104 rfl ⟨(Nat.le_of_ble_eq_true rfl), (Nat.le_of_ble_eq_true rfl)⟩ (hP.sub [0, 3] rfl) 0 rfl rfl hl.1 rfl (Nat.le_of_ble_eq_true rfl) dX5_latenessOf_73 ⟨(Nat.zero_le _), (Nat.zero_le _)⟩) (fun r73 h => ?_)
    refine lv_imul hx hb dX5_latenessOf_76 ?_
    refine lv_iadd hx hb dX5_latenessOf_77 ?_
    refine lv_topi (fun x5_78 ex5_78 => ?_)
    have h := h _ ex5_78
    refine lv_istore (lv' := [(5, .int x5_78), (4, .int x4_57), (3, .int x3_36), (0, .ref a_o), (1, .int x1), (2, .int x2), (6, .int x6)]) hx hb dX5_latenessOf_78 hl (by decide) rfl (fun ls hl => ?_)
    obtain ⟨x6_80, ex6_80⟩ : ∃ z : Int32, z = x6 + 1 := ⟨_, rfl⟩
    have h := h _ ex6_80
    refine lv_iinc (v := x6_80) (lv' := [(6, .int x6_80), (5, .int x5_78), (4, .int x4_57), (3, .int x3_36), (0, .ref a_o), (1, .int x1), (2, .int x2)]) hx hb dX5_latenessOf_80 hl (k := 6) rfl (by rw [ex6_80]; rfl) (by decide) rfl (fun ls hl => ?_)
    refine lv_goto (tgt := 11) hx hb dX5_latenessOf_83 (by decide) ?_
    exact ih _ _ _ _ _ h (lv_sub hl [4, 5, 6, 3, 2, 1, 0] rfl)
set_option maxHeartbeats 4000000 in
set_option maxRecDepth 100000 in
theorem c_X5_latenessOf {l : Launch} {D : va_G} {cI cJ cS : ClassId} {ad adK : Nat → Nat} {a_o a_cars a_cars_speeds a_demands a_stretches a_stretches_kinds a_stretches_others a_stretches_spaces a_stretches_times a_tunes a_tunes_beats a_tunes_noteCounts : Nat} {z_cars_bases z_cars_shares z_tunes_pitches : Value} {v_drawSeed : Int32} {v_cars_carCount : Int32} {f_cars_speeds : Nat → Int32} {f_demands : Nat → Int32} {v_stretches_stretchCount : Int32} {f_stretches_kinds : Nat → Int32} {f_stretches_others : Nat → Int32} {f_stretches_spaces : Nat → Int32} {f_stretches_times : Nat → Int32} {v_tunes_tuneCount : Int32} {f_tunes_beats : Nat → Int32} {f_tunes_noteCounts : Nat → Int32} {x1 : Int32} {x2 : Int32} {post : Int32 → Prop} (h : F_X5_latenessOf v_cars_carCount f_cars_speeds f_demands v_stretches_stretchCount f_stretches_kinds f_stretches_others f_stretches_spaces f_stretches_times v_tunes_tuneCount f_tunes_beats f_tunes_noteCounts x1 x2 post) : Met l yX5_latenessOf (Cond.code yX5_latenessOf cX5_latenessOf 7 (some (.int)) :: GW) (rmd 4 0 0) (PR D cI cJ cS ad adK [.ref a_o, .int x1, .int x2] (wX5_latenessOf cI cJ cS a_o a_cars a_cars_speeds a_demands a_stretches a_stretches_kinds a_stretches_others a_stretches_spaces a_stretches_times a_tunes a_tunes_beats a_tunes_noteCounts z_cars_bases z_cars_shares z_tunes_pitches v_drawSeed v_cars_carCount f_cars_speeds f_demands v_stretches_stretchCount f_stretches_kinds f_stretches_others f_stretches_spaces f_stretches_times v_tunes_tuneCount f_tunes_beats f_tunes_noteCounts)) (vp_Si post) 0 0 nof := by
  refine Met.ro (by decide) (Nat.le_of_ble_eq_true rfl) (fun p e s m args below meth c ls (S : CallFix p m c cX5_latenessOf 7 s args GW "RoadThatSings$Road") hE hT hP hS hr hlocks hl => ?_)
  have hx := S.1
  have hb := S.2.1
  have hl : lv_has ls 7 [(0, .ref a_o), (1, .int x1), (2, .int x2)] := hl
  unfold F_X5_latenessOf at h
  refine lv_iconst (v := 0) hx hb dX5_latenessOf_0 (by decide) ?_
  refine lv_istore_n (lv' := [(3, .int 0), (0, .ref a_o), (1, .int x1), (2, .int x2)]) hx hb dX5_latenessOf_1 rfl hl (by decide) rfl (fun ls hl => ?_)
  refine lv_iconst (v := 0) hx hb dX5_latenessOf_2 (by decide) ?_
  refine lv_istore (lv' := [(4, .int 0), (3, .int 0), (0, .ref a_o), (1, .int x1), (2, .int x2)]) hx hb dX5_latenessOf_3 hl (by decide) rfl (fun ls hl => ?_)
  refine lv_iconst (v := 0) hx hb dX5_latenessOf_5 (by decide) ?_
  refine lv_istore (lv' := [(5, .int 0), (4, .int 0), (3, .int 0), (0, .ref a_o), (1, .int x1), (2, .int x2)]) hx hb dX5_latenessOf_6 hl (by decide) rfl (fun ls hl => ?_)
  refine lv_iconst (v := 0) hx hb dX5_latenessOf_8 (by decide) ?_
  refine lv_istore (lv' := [(6, .int 0), (5, .int 0), (4, .int 0), (3, .int 0), (0, .ref a_o), (1, .int x1), (2, .int x2)]) hx hb dX5_latenessOf_9 hl (by decide) rfl (fun ls hl => ?_)
  obtain ⟨n, h⟩ := h
  refine w_X5_latenessOf_11 S hE hT hP hS hr hlocks n _ _ _ _ _ h (lv_sub hl [4, 5, 6, 3, 2, 1, 0] rfl)
/-! X5_isHeardBy -/
abbrev wX5_isHeardBy (cI cJ cS : ClassId) (a_o a_cars a_cars_speeds a_demands a_stretches a_stretches_kinds a_stretches_others a_stretches_spaces a_tunes a_tunes_noteCounts a_tunes_pitches : Nat) (z_cars_bases z_cars_shares z_stretches_times z_tunes_beats : Value) (v_drawSeed : Int32) (v_cars_carCount : Int32) (f_cars_speeds : Nat → Int32) (f_demands : Nat → Int32) (v_stretches_stretchCount : Int32) (f_stretches_kinds : Nat → Int32) (f_stretches_others : Nat → Int32) (f_stretches_spaces : Nat → Int32) (v_tunes_tuneCount : Int32) (f_tunes_noteCounts : Nat → Int32) (f_tunes_pitches : Nat → Int32) : va_W := [(a_o, .inr (4, [.ref a_stretches, .ref a_cars, .ref a_tunes, .ref a_demands, .int v_drawSeed])), (a_cars, .inr (1, [.ref a_cars_speeds, z_cars_bases, z_cars_shares, .int v_cars_carCount])), (a_cars_speeds, .inl (cI, 6, .inl f_cars_speeds)), (a_demands, .inl (cI, 4, .inl f_demands)), (a_stretches, .inr (6, [.ref a_stretches_kinds, .ref a_stretches_spaces, .ref a_stretches_others, z_stretches_times, .int v_stretches_stretchCount])), (a_stretches_kinds, .inl (cI, 16, .inl f_stretches_kinds)), (a_stretches_others, .inl (cI, 16, .inl f_stretches_others)), (a_stretches_spaces, .inl (cI, 16, .inl f_stretches_spaces)), (a_tunes, .inr (7, [.ref a_tunes_pitches, z_tunes_beats, .ref a_tunes_noteCounts, .int v_tunes_tuneCount])), (a_tunes_noteCounts, .inl (cI, 6, .inl f_tunes_noteCounts)), (a_tunes_pitches, .inl (cI, 72, .inl f_tunes_pitches))]
def F_X5_isHeardBy (v_cars_carCount : Int32) (f_cars_speeds : Nat → Int32) (f_demands : Nat → Int32) (v_stretches_stretchCount : Int32) (f_stretches_kinds : Nat → Int32) (f_stretches_others : Nat → Int32) (f_stretches_spaces : Nat → Int32) (v_tunes_tuneCount : Int32) (f_tunes_noteCounts : Nat → Int32) (f_tunes_pitches : Nat → Int32) (x1 : Int32) (x2 : Int32) (post : Int32 → Prop) : Prop := (F_X5_worstOf v_cars_carCount f_cars_speeds v_stretches_stretchCount f_stretches_kinds f_stretches_others f_stretches_spaces v_tunes_tuneCount f_tunes_noteCounts f_tunes_pitches x1 x2 (fun r3 => (F_X5_asked f_demands 2 (fun r8 => ((r8 < r3 → post 0) ∧ (¬ r8 < r3 → post 1))))))
set_option maxHeartbeats 4000000 in
set_option maxRecDepth 100000 in
theorem c_X5_isHeardBy {l : Launch} {D : va_G} {cI cJ cS : ClassId} {ad adK : Nat → Nat} {a_o a_cars a_cars_speeds a_demands a_stretches a_stretches_kinds a_stretches_others a_stretches_spaces a_tunes a_tunes_noteCounts a_tunes_pitches : Nat} {z_cars_bases z_cars_shares z_stretches_times z_tunes_beats : Value} {v_drawSeed : Int32} {v_cars_carCount : Int32} {f_cars_speeds : Nat → Int32} {f_demands : Nat → Int32} {v_stretches_stretchCount : Int32} {f_stretches_kinds : Nat → Int32} {f_stretches_others : Nat → Int32} {f_stretches_spaces : Nat → Int32} {v_tunes_tuneCount : Int32} {f_tunes_noteCounts : Nat → Int32} {f_tunes_pitches : Nat → Int32} {x1 : Int32} {x2 : Int32} {post : Int32 → Prop} (h : F_X5_isHeardBy v_cars_carCount f_cars_speeds f_demands v_stretches_stretchCount f_stretches_kinds f_stretches_others f_stretches_spaces v_tunes_tuneCount f_tunes_noteCounts f_tunes_pitches x1 x2 post) : Met l yX5_isHeardBy (Cond.code yX5_isHeardBy cX5_isHeardBy 3 (some (.boolean)) :: GW) (rmd 5 0 0) (PR D cI cJ cS ad adK [.ref a_o, .int x1, .int x2] (wX5_isHeardBy cI cJ cS a_o a_cars a_cars_speeds a_demands a_stretches a_stretches_kinds a_stretches_others a_stretches_spaces a_tunes a_tunes_noteCounts a_tunes_pitches z_cars_bases z_cars_shares z_stretches_times z_tunes_beats v_drawSeed v_cars_carCount f_cars_speeds f_demands v_stretches_stretchCount f_stretches_kinds f_stretches_others f_stretches_spaces v_tunes_tuneCount f_tunes_noteCounts f_tunes_pitches)) (vp_Si post) 0 0 nof := by
  refine Met.ro (by decide) (Nat.le_of_ble_eq_true rfl) (fun p e s m args below meth c ls (S : CallFix p m c cX5_isHeardBy 3 s args GW "RoadThatSings$Road") hE hT hP hS hr hlocks hl => ?_)
  have hx := S.1
  have hb := S.2.1
  have hl : lv_has ls 3 [(0, .ref a_o), (1, .int x1), (2, .int x2)] := hl
  unfold F_X5_isHeardBy at h
  refine lv_aload_n hx hb dX5_isHeardBy_0 rfl (lv_at hl 0 rfl) ?_
  refine lv_iload_n hx hb dX5_isHeardBy_1 rfl (lv_at hl 1 rfl) ?_
  refine lv_iload_n hx hb dX5_isHeardBy_2 rfl (lv_at hl 2 rfl) ?_
  refine ro_i (roV S hE hT hS (c_X5_worstOf h) lkX5_107 rfl ⟨(Nat.le_of_ble_eq_true rfl), (Nat.le_of_ble_eq_true rfl)⟩ (hP.sub [0, 1, 2, 4, 5, 6, 7, 8, 9, 10] rfl) 0 rfl rfl hl.1 rfl (Nat.le_of_ble_eq_true rfl) dX5_isHeardBy_3 ⟨(Nat.zero_le _), (Nat.zero_le _)⟩) (fun r3 h => ?_)
  refine lv_aload_n hx hb dX5_isHeardBy_6 rfl (lv_at hl 0 rfl) ?_
  refine lv_iconst (v := 2) hx hb dX5_isHeardBy_7 (by decide) ?_
  refine ro_i (roV S hE hT hS (c_X5_asked h) lkX5_104 rfl ⟨(Nat.le_of_ble_eq_true rfl), (Nat.le_of_ble_eq_true rfl)⟩ (hP.sub [0, 3] rfl) 0 rfl rfl hl.1 rfl (Nat.le_of_ble_eq_true rfl) dX5_isHeardBy_8 ⟨(Nat.zero_le _), (Nat.zero_le _)⟩) (fun r8 h => ?_)
  refine lv_icmp_gt (tgt := 18) hx hb dX5_isHeardBy_11 (by decide) (fun hc => ?_) (fun hc => ?_)
  · have h := h.1 hc
    refine lv_iconst (v := 0) hx hb dX5_isHeardBy_18 (by decide) ?_
    exact W.zret hx hb hr rfl (fun t ht _ => ⟨_, rfl, h, ht⟩) (fun _ hq => by cases hq) dX5_isHeardBy_19
  have h := h.2 hc
  refine lv_iconst (v := 1) hx hb dX5_isHeardBy_14 (by decide) ?_
  refine lv_goto (tgt := 19) hx hb dX5_isHeardBy_15 (by decide) ?_
  exact W.zret hx hb hr rfl (fun t ht _ => ⟨_, rfl, h, ht⟩) (fun _ hq => by cases hq) dX5_isHeardBy_19
